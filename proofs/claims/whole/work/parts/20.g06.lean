/-! decompiled: X2_headSets X11_heads X7_troubleWith X7_leastBehind X7_findBerths X11_give X11_between X3_lossOfAllByHand X11_houseHas X11_officerHas X11_favour X11_rests X2_officersWaking X11_which X11_woken X11_tired X11_beside X11_slack X3_lastFetched X11_longest X6_keepImage X11_image X6_restoreImage -/
section DC
variable {p : Program} {l : Launch} {e : Env} {R : Room} {s : State} {m : MethodId} {args : Array Value} {below : List Frame} {meth : Method} {c : Code} {D : va_G} {cA : FieldType → ClassId} {A : Nat → Prop} {ad0 : Nat → Nat} {sh : List aSh} {i i0 : Nat → Nat → Int32} {lo lo0 : Nat → Nat → Int64} {rv rv0 : Nat → Nat → Option Nat}
def fX2_headSets_36 (kh5 : Int32 → Int32 → Int32 → Int32 → (Nat → Nat → Int32) → Option ((Int32))) (x1 : Int32) (x2 : Int32) (x3 : Int32) (x4 : Int32) (i : Nat → Nat → Int32) : Option ((Int32)) := kh5 x1 x2 x3 (x4 + 1) i
theorem kX2_headSets_36  {vR : Int32} (hX : aX p s m args c RX2 cX2_headSets 6 D cA A ad0) (hr : meth.sig.returnType = (some .int)) (hlk : meth.locks = false) (hRf : 2 ≤ R.frames) (hRl : 64 * 2 ≤ R.locals) {kh5 : Int32 → Int32 → Int32 → Int32 → (Nat → Nat → Int32) → Option ((Int32))} (Hkh5 : ∀ (x1 : Int32) (x2 : Int32) (x3 : Int32) (x4 : Int32), aGood sh rv → kh5 x1 x2 x3 x4 i = some (vR) → aJ p l e R s m args below meth c (MQ below (aPost D cA ad0 A (sh, i0, lo0, rv0) (some (.int vR)) (sh, i, lo, rv)) args s (sh.length - sh.length) (aSn sh - aSn sh) A) D cA A ad0 6 sh.length (aSn sh) 5 [some (.ref (100 + 45)), some (.int x1), some (.int x2), some (.int x3), some (.int x4), none] [] (sh, i, lo, rv)) {x1 : Int32} {x2 : Int32} {x3 : Int32} {x4 : Int32} (hG : aGood sh rv) (hf : fX2_headSets_36 kh5 x1 x2 x3 x4 i = some (vR)) : aJ p l e R s m args below meth c (MQ below (aPost D cA ad0 A (sh, i0, lo0, rv0) (some (.int vR)) (sh, i, lo, rv)) args s (sh.length - sh.length) (aSn sh - aSn sh) A) D cA A ad0 6 sh.length (aSn sh) 36 [some (.ref (100 + 45)), some (.int x1), some (.int x2), some (.int x3), some (.int x4), none] [] (sh, i, lo, rv) := by
  unfold fX2_headSets_36 at hf
  refine j_iinc hX dX2_headSets_36 rfl (congrArg (_ + ·) ic_1) (by decide) rfl ?_
  refine j_goto (tgt := 5) hX dX2_headSets_39 (by decide) ?_
  exact aJx (Hkh5 _ _ _ _ hG  hf) (And.intro rfl (And.intro rfl (And.intro rfl (And.intro rfl (And.intro rfl (rfl))))))
def fX2_headSets_100 (kh48 : Int32 → Int32 → Int32 → Int32 → Int32 → (Nat → Nat → Int32) → Option ((Int32))) (x1 : Int32) (x2 : Int32) (x3 : Int32) (x4 : Int32) (x5 : Int32) (i : Nat → Nat → Int32) : Option ((Int32)) := kh48 x1 x2 x3 x4 (x5 + 1) i
theorem kX2_headSets_100  {vR : Int32} (hX : aX p s m args c RX2 cX2_headSets 6 D cA A ad0) (hr : meth.sig.returnType = (some .int)) (hlk : meth.locks = false) (hRf : 2 ≤ R.frames) (hRl : 64 * 2 ≤ R.locals) {kh48 : Int32 → Int32 → Int32 → Int32 → Int32 → (Nat → Nat → Int32) → Option ((Int32))} (Hkh48 : ∀ (x1 : Int32) (x2 : Int32) (x3 : Int32) (x4 : Int32) (x5 : Int32), aGood sh rv → kh48 x1 x2 x3 x4 x5 i = some (vR) → aJ p l e R s m args below meth c (MQ below (aPost D cA ad0 A (sh, i0, lo0, rv0) (some (.int vR)) (sh, i, lo, rv)) args s (sh.length - sh.length) (aSn sh - aSn sh) A) D cA A ad0 6 sh.length (aSn sh) 48 [some (.ref (100 + 45)), some (.int x1), some (.int x2), some (.int x3), some (.int x4), some (.int x5)] [] (sh, i, lo, rv)) {x1 : Int32} {x2 : Int32} {x3 : Int32} {x4 : Int32} {x5 : Int32} (hG : aGood sh rv) (hf : fX2_headSets_100 kh48 x1 x2 x3 x4 x5 i = some (vR)) : aJ p l e R s m args below meth c (MQ below (aPost D cA ad0 A (sh, i0, lo0, rv0) (some (.int vR)) (sh, i, lo, rv)) args s (sh.length - sh.length) (aSn sh - aSn sh) A) D cA A ad0 6 sh.length (aSn sh) 100 [some (.ref (100 + 45)), some (.int x1), some (.int x2), some (.int x3), some (.int x4), some (.int x5)] [] (sh, i, lo, rv) := by
  unfold fX2_headSets_100 at hf
  refine j_iinc hX dX2_headSets_100 rfl (congrArg (_ + ·) ic_1) (by decide) rfl ?_
  refine j_goto (tgt := 48) hX dX2_headSets_103 (by decide) ?_
  exact aJx (Hkh48 _ _ _ _ _ hG  hf) (And.intro rfl (And.intro rfl (And.intro rfl (And.intro rfl (And.intro rfl (And.intro rfl (rfl)))))))
def fX2_headSets_48 : Nat → Int32 → Int32 → Int32 → Int32 → Int32 → (Nat → Nat → Int32) → Option ((Int32))
  | 0, _, _, _, _, _, _ => none
  | n + 1, x1, x2, x3, x4, x5, i => bn1 (fX1_sleepers 15 i) fun v6 =>
    if ((1 : Int32) <<< (v6 &&& 31)) ≤ x5 then (if x2 = (-1) then (some (x4)) else (some ((-1)))) else (if (x5 &&& (x3 ^^^ ((-1) : Int32))) = 0 then (bn1 (fX1_papers 15 i) fun v8 =>
    bn1 (fJ6_bitCount_0f7a4 x5) fun v10 =>
    if (v8 + v10) = x1 then (if x4 = x2 then (some (x5)) else (fX2_headSets_100 (fX2_headSets_48 n) x1 x2 x3 (x4 + 1) x5 i)) else (fX2_headSets_100 (fX2_headSets_48 n) x1 x2 x3 x4 x5 i)) else (fX2_headSets_100 (fX2_headSets_48 n) x1 x2 x3 x4 x5 i))
theorem kX2_headSets_48  {vR : Int32} (hX : aX p s m args c RX2 cX2_headSets 6 D cA A ad0) (hr : meth.sig.returnType = (some .int)) (hlk : meth.locks = false) (hRf : 2 ≤ R.frames) (hRl : 64 * 2 ≤ R.locals) : ∀ (n : Nat) (x1 : Int32) (x2 : Int32) (x3 : Int32) (x4 : Int32) (x5 : Int32), aGood sh rv → fX2_headSets_48 n x1 x2 x3 x4 x5 i = some (vR) → aJ p l e R s m args below meth c (MQ below (aPost D cA ad0 A (sh, i0, lo0, rv0) (some (.int vR)) (sh, i, lo, rv)) args s (sh.length - sh.length) (aSn sh - aSn sh) A) D cA A ad0 6 sh.length (aSn sh) 48 [some (.ref (100 + 45)), some (.int x1), some (.int x2), some (.int x3), some (.int x4), some (.int x5)] [] (sh, i, lo, rv) := by
  intro n
  induction n with
  | zero => intros; rename_i hf; cases hf
  | succ n ih =>
    intro x1 x2 x3 x4 x5 hG hf
    rw [fX2_headSets_48] at hf
    refine j_iload hX dX2_headSets_48 rfl ?_
    refine j_iconst hX dX2_headSets_50 ic_1 ?_
    refine j_aload_n hX dX2_headSets_51 rfl ?_
    refine j_getR (k := 0) hX kX2 (by decide) fk_X2_25 (rf_45_0 hG) dX2_headSets_52 (sh_45 hG) rfl ?_
    obtain ⟨v6, hh7, hf⟩ := bd1 hf
    refine j_cV0i hX lk_X2_72 kX1 dX2_headSets_55 (sh_15 hG) (okX1_sleepers hG (cr_15 hG) hh7) rfl rfl (rmm (by omega) hRf hRl (by decide)) (Nat.le_of_ble_eq_true rfl) (Nat.le_add_right _ _) (Nat.le_add_right _ _) ?_
    refine jpc (b := 58) rfl ?_
    refine j_ishl hX dX2_headSets_58 ?_
    refine j_icmp_ge (tgt := 106) hX dX2_headSets_59 (by decide) (fun hc => ?_) (fun hc => ?_)
    · have hf := ifp hc hf
      refine j_iload_n hX dX2_headSets_106 rfl ?_
      refine j_iconst hX dX2_headSets_107 ic_m1 ?_
      refine j_icmp_ne (tgt := 116) hX dX2_headSets_108 (by decide) (fun hc => ?_) (fun hc => ?_)
      · have hf := ifn hc hf
        refine j_iconst hX dX2_headSets_116 ic_m1 ?_
        cases hf
        exact j_ret hX hr hlk rfl dX2_headSets_117
      · have hf := ifp hc hf
        refine j_iload hX dX2_headSets_111 rfl ?_
        refine j_goto (tgt := 117) hX dX2_headSets_113 (by decide) ?_
        cases hf
        exact j_ret hX hr hlk rfl dX2_headSets_117
    · have hf := ifn hc hf
      refine j_iload hX dX2_headSets_62 rfl ?_
      refine j_iload_n hX dX2_headSets_64 rfl ?_
      refine j_iconst hX dX2_headSets_65 ic_m1 ?_
      refine j_ixor hX dX2_headSets_66 ?_
      refine j_iand hX dX2_headSets_67 ?_
      refine jpc (b := 68) rfl ?_
      refine j_if_ne (tgt := 100) hX dX2_headSets_68 (by decide) (fun hc => ?_) (fun hc => ?_)
      · have hf := ifn hc hf
        exact aJx (kX2_headSets_100 hX hr hlk hRf hRl ih hG  hf) (And.intro rfl (And.intro rfl (And.intro rfl (And.intro rfl (And.intro rfl (And.intro rfl (rfl)))))))
      · have hf := ifp hc hf
        refine j_aload_n hX dX2_headSets_71 rfl ?_
        refine j_getR (k := 0) hX kX2 (by decide) fk_X2_25 (rf_45_0 hG) dX2_headSets_72 (sh_45 hG) rfl ?_
        obtain ⟨v8, hh9, hf⟩ := bd1 hf
        refine j_cV0i hX lk_X2_93 kX1 dX2_headSets_75 (sh_15 hG) (okX1_papers hG (cr_15 hG) hh9) rfl rfl (rmm (by omega) hRf hRl (by decide)) (Nat.le_of_ble_eq_true rfl) (Nat.le_add_right _ _) (Nat.le_add_right _ _) ?_
        refine j_iload hX dX2_headSets_78 rfl ?_
        obtain ⟨v10, hh11, hf⟩ := bd1 hf
        refine j_cS1i hX lk_X2_96 dX2_headSets_80 (okJ6_bitCount_0f7a4 hG hh11) rfl rfl (rmm (by omega) hRf hRl (by decide)) (Nat.le_of_ble_eq_true rfl) (Nat.le_add_right _ _) (Nat.le_add_right _ _) ?_
        refine jpc (b := 83) rfl ?_
        refine j_iadd hX dX2_headSets_83 ?_
        refine j_iload_n hX dX2_headSets_84 rfl ?_
        refine j_icmp_ne (tgt := 100) hX dX2_headSets_85 (by decide) (fun hc => ?_) (fun hc => ?_)
        · have hf := ifn hc hf
          exact aJx (kX2_headSets_100 hX hr hlk hRf hRl ih hG  hf) (And.intro rfl (And.intro rfl (And.intro rfl (And.intro rfl (And.intro rfl (And.intro rfl (rfl)))))))
        · have hf := ifp hc hf
          refine j_iload hX dX2_headSets_88 rfl ?_
          refine j_iload_n hX dX2_headSets_90 rfl ?_
          refine j_icmp_ne (tgt := 97) hX dX2_headSets_91 (by decide) (fun hc => ?_) (fun hc => ?_)
          · have hf := ifn hc hf
            refine j_iinc hX dX2_headSets_97 rfl (congrArg (_ + ·) ic_1) (by decide) rfl ?_
            exact aJx (kX2_headSets_100 hX hr hlk hRf hRl ih hG  hf) (And.intro rfl (And.intro rfl (And.intro rfl (And.intro rfl (And.intro rfl (And.intro rfl (rfl)))))))
          · have hf := ifp hc hf
            refine j_iload hX dX2_headSets_94 rfl ?_
            cases hf
            exact j_ret hX hr hlk rfl dX2_headSets_96
def fX2_headSets_5 : Nat → Int32 → Int32 → Int32 → Int32 → (Nat → Nat → Int32) → Option ((Int32))
  | 0, _, _, _, _, _ => none
  | n + 1, x1, x2, x3, x4, i => bn1 (fX1_sleepers 15 i) fun v1 =>
    if v1 ≤ x4 then (fX2_headSets_48 fuel x1 x2 x3 0 0 i) else (bn1 (fX1_hasPaper 15 x4 i) fun v3 =>
    if v3 = 0 then (lt (x3 ||| ((1 : Int32) <<< (x4 &&& 31))) fun t5 =>
    fX2_headSets_36 (fX2_headSets_5 n) x1 x2 t5 x4 i) else (fX2_headSets_36 (fX2_headSets_5 n) x1 x2 x3 x4 i))
theorem kX2_headSets_5  {vR : Int32} (hX : aX p s m args c RX2 cX2_headSets 6 D cA A ad0) (hr : meth.sig.returnType = (some .int)) (hlk : meth.locks = false) (hRf : 2 ≤ R.frames) (hRl : 64 * 2 ≤ R.locals) : ∀ (n : Nat) (x1 : Int32) (x2 : Int32) (x3 : Int32) (x4 : Int32), aGood sh rv → fX2_headSets_5 n x1 x2 x3 x4 i = some (vR) → aJ p l e R s m args below meth c (MQ below (aPost D cA ad0 A (sh, i0, lo0, rv0) (some (.int vR)) (sh, i, lo, rv)) args s (sh.length - sh.length) (aSn sh - aSn sh) A) D cA A ad0 6 sh.length (aSn sh) 5 [some (.ref (100 + 45)), some (.int x1), some (.int x2), some (.int x3), some (.int x4), none] [] (sh, i, lo, rv) := by
  intro n
  induction n with
  | zero => intros; rename_i hf; cases hf
  | succ n ih =>
    intro x1 x2 x3 x4 hG hf
    rw [fX2_headSets_5] at hf
    refine j_iload hX dX2_headSets_5 rfl ?_
    refine j_aload_n hX dX2_headSets_7 rfl ?_
    refine j_getR (k := 0) hX kX2 (by decide) fk_X2_25 (rf_45_0 hG) dX2_headSets_8 (sh_45 hG) rfl ?_
    obtain ⟨v1, hh2, hf⟩ := bd1 hf
    refine j_cV0i hX lk_X2_72 kX1 dX2_headSets_11 (sh_15 hG) (okX1_sleepers hG (cr_15 hG) hh2) rfl rfl (rmm (by omega) hRf hRl (by decide)) (Nat.le_of_ble_eq_true rfl) (Nat.le_add_right _ _) (Nat.le_add_right _ _) ?_
    refine j_icmp_ge (tgt := 42) hX dX2_headSets_14 (by decide) (fun hc => ?_) (fun hc => ?_)
    · have hf := ifp hc hf
      refine j_iconst hX dX2_headSets_42 ic_0 ?_
      refine j_istore hX dX2_headSets_43 (by decide) rfl ?_
      refine j_iconst hX dX2_headSets_45 ic_0 ?_
      refine j_istore hX dX2_headSets_46 (by decide) rfl ?_
      exact aJx (kX2_headSets_48 hX hr hlk hRf hRl fuel _ _ _ _ _ hG  hf) (And.intro rfl (And.intro rfl (And.intro rfl (And.intro rfl (And.intro rfl (And.intro rfl (rfl)))))))
    · have hf := ifn hc hf
      refine j_aload_n hX dX2_headSets_17 rfl ?_
      refine j_getR (k := 0) hX kX2 (by decide) fk_X2_25 (rf_45_0 hG) dX2_headSets_18 (sh_45 hG) rfl ?_
      refine j_iload hX dX2_headSets_21 rfl ?_
      obtain ⟨v3, hh4, hf⟩ := bd1 hf
      refine j_cV1i hX lk_X2_90 kX1 dX2_headSets_23 (sh_15 hG) (okX1_hasPaper hG (cr_15 hG) hh4) rfl rfl (rmm (by omega) hRf hRl (by decide)) (Nat.le_of_ble_eq_true rfl) (Nat.le_add_right _ _) (Nat.le_add_right _ _) ?_
      refine j_if_ne (tgt := 36) hX dX2_headSets_26 (by decide) (fun hc => ?_) (fun hc => ?_)
      · have hf := ifn hc hf
        exact aJx (kX2_headSets_36 hX hr hlk hRf hRl ih hG  hf) (And.intro rfl (And.intro rfl (And.intro rfl (And.intro rfl (And.intro rfl (rfl))))))
      · have hf := ifp hc hf
        refine j_iload_n hX dX2_headSets_29 rfl ?_
        refine j_iconst hX dX2_headSets_30 ic_1 ?_
        refine j_iload hX dX2_headSets_31 rfl ?_
        refine j_ishl hX dX2_headSets_33 ?_
        refine j_ior hX dX2_headSets_34 ?_
        refine jpc (b := 35) rfl ?_
        have hf := ltd hf
        refine j_istore_n hX dX2_headSets_35 (by decide) rfl ?_
        exact aJx (kX2_headSets_36 hX hr hlk hRf hRl ih hG  hf) (And.intro rfl (And.intro rfl (And.intro rfl (And.intro rfl (And.intro rfl (rfl))))))
def fX2_headSets (a1 : Int32) (a2 : Int32) (i : Nat → Nat → Int32) : Option ((Int32)) := fX2_headSets_5 fuel a1 a2 0 0 i
theorem kX2_headSets  {vR : Int32} (hX : aX p s m args c RX2 cX2_headSets 6 D cA A ad0) (hr : meth.sig.returnType = (some .int)) (hlk : meth.locks = false) (hRf : 2 ≤ R.frames) (hRl : 64 * 2 ≤ R.locals) {a1 : Int32} {a2 : Int32} (hG : aGood sh rv) (hf : fX2_headSets a1 a2 i = some (vR)) : aJ p l e R s m args below meth c (MQ below (aPost D cA ad0 A (sh, i0, lo0, rv0) (some (.int vR)) (sh, i, lo, rv)) args s (sh.length - sh.length) (aSn sh - aSn sh) A) D cA A ad0 6 sh.length (aSn sh) 0 [some (.ref (100 + 45)), some (.int a1), some (.int a2), none, none, none] [] (sh, i, lo, rv) := by
  unfold fX2_headSets at hf
  refine j_iconst hX dX2_headSets_0 ic_0 ?_
  refine j_istore_n hX dX2_headSets_1 (by decide) rfl ?_
  refine j_iconst hX dX2_headSets_2 ic_0 ?_
  refine j_istore hX dX2_headSets_3 (by decide) rfl ?_
  exact aJx (kX2_headSets_5 hX hr hlk hRf hRl fuel _ _ _ _ hG  hf) (And.intro rfl (And.intro rfl (And.intro rfl (And.intro rfl (And.intro rfl (rfl))))))
theorem okX2_headSets {l : Launch} {sh : List aSh} {i : Nat → Nat → Int32} {lo : Nat → Nat → Int64} {rv : Nat → Nat → Option Nat}  {a1 : Int32} {a2 : Int32} {vR : Int32} (hG : aGood sh rv) (hf : fX2_headSets a1 a2 i = some (vR)) : aM l yX2_headSets cX2_headSets 6 (some .int) 2 [.ref (100 + 45), .int a1, .int a2] (sh, i, lo, rv) (some (.int vR)) (sh, i, lo, rv) :=
  aM_of (by decide) (Nat.le_of_ble_eq_true rfl) (Nat.le_refl _) (Nat.le_refl _) (fun p e s m args below meth c D cA A ad0 hX hr hlk hnm => kX2_headSets hX hr hlk (Nat.le_refl _) (Nat.le_refl _) hG hf)
def fX11_heads (a1 : Int32) (a2 : Int32) (i : Nat → Nat → Int32) : Option ((Int32)) := bn1 (fX11_noCar i) fun v1 =>
    if v1 = 0 then (if a1 < 0 then (some ((-1))) else (if a1 ≤ 9 then (bn1 (fX2_headSets a1 a2 i) fun v3 =>
    some (v3)) else (some ((-1))))) else (some ((-1)))
theorem kX11_heads  {vR : Int32} (hX : aX p s m args c RX11 cX11_heads 3 D cA A ad0) (hr : meth.sig.returnType = (some .int)) (hlk : meth.locks = false) (hRf : 3 ≤ R.frames) (hRl : 64 * 3 ≤ R.locals) {a1 : Int32} {a2 : Int32} (hG : aGood sh rv) (hf : fX11_heads a1 a2 i = some (vR)) : aJ p l e R s m args below meth c (MQ below (aPost D cA ad0 A (sh, i0, lo0, rv0) (some (.int vR)) (sh, i, lo, rv)) args s (sh.length - sh.length) (aSn sh - aSn sh) A) D cA A ad0 3 sh.length (aSn sh) 0 [some (.ref (100 + 0)), some (.int a1), some (.int a2)] [] (sh, i, lo, rv) := by
  unfold fX11_heads at hf
  refine j_aload_n hX dX11_heads_0 rfl ?_
  obtain ⟨v1, hh2, hf⟩ := bd1 hf
  refine j_cV0i hX lk_X11_120 kX11 dX11_heads_1 (sh_0 hG) (okX11_noCar hG hh2) rfl rfl (rmm (by omega) hRf hRl (by decide)) (Nat.le_of_ble_eq_true rfl) (Nat.le_add_right _ _) (Nat.le_add_right _ _) ?_
  refine j_if_ne (tgt := 17) hX dX11_heads_4 (by decide) (fun hc => ?_) (fun hc => ?_)
  · have hf := ifn hc hf
    refine j_iconst hX dX11_heads_17 ic_m1 ?_
    cases hf
    exact j_ret hX hr hlk rfl dX11_heads_18
  · have hf := ifp hc hf
    refine j_iload_n hX dX11_heads_7 rfl ?_
    refine j_if_lt (tgt := 17) hX dX11_heads_8 (by decide) (fun hc => ?_) (fun hc => ?_)
    · have hf := ifp hc hf
      refine j_iconst hX dX11_heads_17 ic_m1 ?_
      cases hf
      exact j_ret hX hr hlk rfl dX11_heads_18
    · have hf := ifn hc hf
      refine j_iload_n hX dX11_heads_11 rfl ?_
      refine j_bipush hX dX11_heads_12 bp_9 ?_
      refine j_icmp_le (tgt := 19) hX dX11_heads_14 (by decide) (fun hc => ?_) (fun hc => ?_)
      · have hf := ifp hc hf
        refine j_aload_n hX dX11_heads_19 rfl ?_
        refine j_getR (k := 10) hX kX11 (by decide) fk_X11_78 (rf_0_10 hG) dX11_heads_20 (sh_0 hG) rfl ?_
        refine j_iload_n hX dX11_heads_23 rfl ?_
        refine j_iload_n hX dX11_heads_24 rfl ?_
        obtain ⟨v3, hh4, hf⟩ := bd1 hf
        refine j_cV2i hX lk_X11_279 kX2 dX11_heads_25 (sh_45 hG) (okX2_headSets hG hh4) rfl rfl (rmm (by omega) hRf hRl (by decide)) (Nat.le_of_ble_eq_true rfl) (Nat.le_add_right _ _) (Nat.le_add_right _ _) ?_
        refine jpc (b := 28) rfl ?_
        cases hf
        exact j_ret hX hr hlk rfl dX11_heads_28
      · have hf := ifn hc hf
        refine j_iconst hX dX11_heads_17 ic_m1 ?_
        cases hf
        exact j_ret hX hr hlk rfl dX11_heads_18
theorem okX11_heads {l : Launch} {sh : List aSh} {i : Nat → Nat → Int32} {lo : Nat → Nat → Int64} {rv : Nat → Nat → Option Nat}  {a1 : Int32} {a2 : Int32} {vR : Int32} (hG : aGood sh rv) (hf : fX11_heads a1 a2 i = some (vR)) : aM l yX11_heads cX11_heads 3 (some .int) 3 [.ref (100 + 0), .int a1, .int a2] (sh, i, lo, rv) (some (.int vR)) (sh, i, lo, rv) :=
  aM_of (by decide) (Nat.le_of_ble_eq_true rfl) (Nat.le_refl _) (Nat.le_refl _) (fun p e s m args below meth c D cA A ad0 hX hr hlk hnm => kX11_heads hX hr hlk (Nat.le_refl _) (Nat.le_refl _) hG hf)
def fX7_troubleWith (a1 : Int32) (a2 : Int32) (a3 : Int32) (i : Nat → Nat → Int32) : Option ((Int32)) := bn1 (fJ6_bitCount_0f7a4 a1) fun v1 =>
    lt (((i 30 7) - (1 : Int32)) - v1) fun t3 =>
    bn1 (fX1_ofSleeper 15 a3 2 i) fun v4 =>
    if aIn (((a1 ||| ((1 : Int32) <<< (a3 &&& 31))) * (7 : Int32)) + a3) 896 = true then
    (lt ((v4 * t3) + (i 34 ((((a1 ||| ((1 : Int32) <<< (a3 &&& 31))) * (7 : Int32)) + a3) : Int32).toNatClampNeg)) fun t6 =>
    if a2 = (-1) then (some (t6)) else (bn1 (fX1_ofSleeper 15 a2 3 i) fun v7 =>
    bn1 (fX1_ofSleeper 15 a2 2 i) fun v9 =>
    bn1 (fX1_ofSleeper 15 a3 3 i) fun v11 =>
    lt ((t6 + (v4 * v7)) + (v9 * v11)) fun t13 =>
    some (t13))) else none
theorem kX7_troubleWith  {vR : Int32} (hX : aX p s m args c RX7 cX7_troubleWith 7 D cA A ad0) (hr : meth.sig.returnType = (some .int)) (hlk : meth.locks = false) (hRf : 1 ≤ R.frames) (hRl : 64 * 1 ≤ R.locals) {a1 : Int32} {a2 : Int32} {a3 : Int32} (hG : aGood sh rv) (hf : fX7_troubleWith a1 a2 a3 i = some (vR)) : aJ p l e R s m args below meth c (MQ below (aPost D cA ad0 A (sh, i0, lo0, rv0) (some (.int vR)) (sh, i, lo, rv)) args s (sh.length - sh.length) (aSn sh - aSn sh) A) D cA A ad0 7 sh.length (aSn sh) 0 [some (.ref (100 + 30)), some (.int a1), some (.int a2), some (.int a3), none, none, none] [] (sh, i, lo, rv) := by
  unfold fX7_troubleWith at hf
  refine j_aload_n hX dX7_troubleWith_0 rfl ?_
  refine j_getI (k := 7) hX kX7 (by decide) fk_X7_77 dX7_troubleWith_1 (sh_30 hG) rfl ?_
  refine j_iconst hX dX7_troubleWith_4 ic_1 ?_
  refine j_isub hX dX7_troubleWith_5 ?_
  refine j_iload_n hX dX7_troubleWith_6 rfl ?_
  refine jpc (b := 7) rfl ?_
  obtain ⟨v1, hh2, hf⟩ := bd1 hf
  refine j_cS1i hX lk_X7_105 dX7_troubleWith_7 (okJ6_bitCount_0f7a4 hG hh2) rfl rfl (rmm (by omega) hRf hRl (by decide)) (Nat.le_of_ble_eq_true rfl) (Nat.le_add_right _ _) (Nat.le_add_right _ _) ?_
  refine j_isub hX dX7_troubleWith_10 ?_
  have hf := ltd hf
  refine j_istore hX dX7_troubleWith_11 (by decide) rfl ?_
  refine j_aload_n hX dX7_troubleWith_13 rfl ?_
  refine j_getR (k := 0) hX kX7 (by decide) fk_X7_26 (rf_30_0 hG) dX7_troubleWith_14 (sh_30 hG) rfl ?_
  refine j_iload_n hX dX7_troubleWith_17 rfl ?_
  refine jpc (b := 18) rfl ?_
  refine j_iconst hX dX7_troubleWith_18 ic_2 ?_
  obtain ⟨v4, hh5, hf⟩ := bd1 hf
  refine j_cV2i hX lk_X7_116 kX1 dX7_troubleWith_19 (sh_15 hG) (okX1_ofSleeper hG (cr_15 hG) hh5) rfl rfl (rmm (by omega) hRf hRl (by decide)) (Nat.le_of_ble_eq_true rfl) (Nat.le_add_right _ _) (Nat.le_add_right _ _) ?_
  refine j_istore hX dX7_troubleWith_22 (by decide) rfl ?_
  refine j_iload hX dX7_troubleWith_24 rfl ?_
  refine j_iload hX dX7_troubleWith_26 rfl ?_
  refine j_imul hX dX7_troubleWith_28 ?_
  refine jpc (b := 29) rfl ?_
  refine j_aload_n hX dX7_troubleWith_29 rfl ?_
  refine j_getR (k := 6) hX kX7 (by decide) fk_X7_23 (rf_30_6 hG) dX7_troubleWith_30 (sh_30 hG) rfl ?_
  refine j_iload_n hX dX7_troubleWith_33 rfl ?_
  refine j_iconst hX dX7_troubleWith_34 ic_1 ?_
  refine j_iload_n hX dX7_troubleWith_35 rfl ?_
  refine j_ishl hX dX7_troubleWith_36 ?_
  refine jpc (b := 37) rfl ?_
  refine j_ior hX dX7_troubleWith_37 ?_
  refine j_bipush hX dX7_troubleWith_38 bp_7 ?_
  refine j_imul hX dX7_troubleWith_40 ?_
  refine j_iload_n hX dX7_troubleWith_41 rfl ?_
  refine j_iadd hX dX7_troubleWith_42 ?_
  obtain ⟨hg, hf⟩ := gd hf
  refine j_iald hX (sh_34 hG) hg dX7_troubleWith_43 ?_
  refine j_iadd hX dX7_troubleWith_44 ?_
  have hf := ltd hf
  refine j_istore hX dX7_troubleWith_45 (by decide) rfl ?_
  refine j_iload_n hX dX7_troubleWith_47 rfl ?_
  refine j_iconst hX dX7_troubleWith_48 ic_m1 ?_
  refine j_icmp_eq (tgt := 93) hX dX7_troubleWith_49 (by decide) (fun hc => ?_) (fun hc => ?_)
  · have hf := ifp hc hf
    refine j_iload hX dX7_troubleWith_93 rfl ?_
    cases hf
    exact j_ret hX hr hlk rfl dX7_troubleWith_95
  · have hf := ifn hc hf
    refine j_iload hX dX7_troubleWith_52 rfl ?_
    refine j_iload hX dX7_troubleWith_54 rfl ?_
    refine j_aload_n hX dX7_troubleWith_56 rfl ?_
    refine j_getR (k := 0) hX kX7 (by decide) fk_X7_26 (rf_30_0 hG) dX7_troubleWith_57 (sh_30 hG) rfl ?_
    refine j_iload_n hX dX7_troubleWith_60 rfl ?_
    refine jpc (b := 61) rfl ?_
    refine j_iconst hX dX7_troubleWith_61 ic_3 ?_
    obtain ⟨v7, hh8, hf⟩ := bd1 hf
    refine j_cV2i hX lk_X7_116 kX1 dX7_troubleWith_62 (sh_15 hG) (okX1_ofSleeper hG (cr_15 hG) hh8) rfl rfl (rmm (by omega) hRf hRl (by decide)) (Nat.le_of_ble_eq_true rfl) (Nat.le_add_right _ _) (Nat.le_add_right _ _) ?_
    refine j_imul hX dX7_troubleWith_65 ?_
    refine j_iadd hX dX7_troubleWith_66 ?_
    refine j_istore hX dX7_troubleWith_67 (by decide) rfl ?_
    refine j_iload hX dX7_troubleWith_69 rfl ?_
    refine jpc (b := 71) rfl ?_
    refine j_aload_n hX dX7_troubleWith_71 rfl ?_
    refine j_getR (k := 0) hX kX7 (by decide) fk_X7_26 (rf_30_0 hG) dX7_troubleWith_72 (sh_30 hG) rfl ?_
    refine j_iload_n hX dX7_troubleWith_75 rfl ?_
    refine j_iconst hX dX7_troubleWith_76 ic_2 ?_
    obtain ⟨v9, hh10, hf⟩ := bd1 hf
    refine j_cV2i hX lk_X7_116 kX1 dX7_troubleWith_77 (sh_15 hG) (okX1_ofSleeper hG (cr_15 hG) hh10) rfl rfl (rmm (by omega) hRf hRl (by decide)) (Nat.le_of_ble_eq_true rfl) (Nat.le_add_right _ _) (Nat.le_add_right _ _) ?_
    refine j_aload_n hX dX7_troubleWith_80 rfl ?_
    refine jpc (b := 81) rfl ?_
    refine j_getR (k := 0) hX kX7 (by decide) fk_X7_26 (rf_30_0 hG) dX7_troubleWith_81 (sh_30 hG) rfl ?_
    refine j_iload_n hX dX7_troubleWith_84 rfl ?_
    refine j_iconst hX dX7_troubleWith_85 ic_3 ?_
    obtain ⟨v11, hh12, hf⟩ := bd1 hf
    refine j_cV2i hX lk_X7_116 kX1 dX7_troubleWith_86 (sh_15 hG) (okX1_ofSleeper hG (cr_15 hG) hh12) rfl rfl (rmm (by omega) hRf hRl (by decide)) (Nat.le_of_ble_eq_true rfl) (Nat.le_add_right _ _) (Nat.le_add_right _ _) ?_
    refine j_imul hX dX7_troubleWith_89 ?_
    refine j_iadd hX dX7_troubleWith_90 ?_
    refine jpc (b := 91) rfl ?_
    have hf := ltd hf
    refine j_istore hX dX7_troubleWith_91 (by decide) rfl ?_
    refine j_iload hX dX7_troubleWith_93 rfl ?_
    cases hf
    exact j_ret hX hr hlk rfl dX7_troubleWith_95
theorem okX7_troubleWith {l : Launch} {sh : List aSh} {i : Nat → Nat → Int32} {lo : Nat → Nat → Int64} {rv : Nat → Nat → Option Nat}  {a1 : Int32} {a2 : Int32} {a3 : Int32} {vR : Int32} (hG : aGood sh rv) (hf : fX7_troubleWith a1 a2 a3 i = some (vR)) : aM l yX7_troubleWith cX7_troubleWith 7 (some .int) 1 [.ref (100 + 30), .int a1, .int a2, .int a3] (sh, i, lo, rv) (some (.int vR)) (sh, i, lo, rv) :=
  aM_of (by decide) (Nat.le_of_ble_eq_true rfl) (Nat.le_refl _) (Nat.le_refl _) (fun p e s m args below meth c D cA A ad0 hX hr hlk hnm => kX7_troubleWith hX hr hlk (Nat.le_refl _) (Nat.le_refl _) hG hf)
def fX7_leastBehind_37 (kh6 : Int32 → Int32 → Int32 → Int32 → (Nat → Nat → Int32) → Option ((Int32))) (x1 : Int32) (x2 : Int32) (x3 : Int32) (x4 : Int32) (i : Nat → Nat → Int32) : Option ((Int32)) := kh6 x1 x2 x3 (x4 + 1) i
theorem kX7_leastBehind_37  {vR : Int32} (hX : aX p s m args c RX7 cX7_leastBehind 5 D cA A ad0) (hr : meth.sig.returnType = (some .int)) (hlk : meth.locks = false) (hRf : 2 ≤ R.frames) (hRl : 64 * 2 ≤ R.locals) {kh6 : Int32 → Int32 → Int32 → Int32 → (Nat → Nat → Int32) → Option ((Int32))} (Hkh6 : ∀ (x1 : Int32) (x2 : Int32) (x3 : Int32) (x4 : Int32), aGood sh rv → kh6 x1 x2 x3 x4 i = some (vR) → aJ p l e R s m args below meth c (MQ below (aPost D cA ad0 A (sh, i0, lo0, rv0) (some (.int vR)) (sh, i, lo, rv)) args s (sh.length - sh.length) (aSn sh - aSn sh) A) D cA A ad0 5 sh.length (aSn sh) 6 [some (.ref (100 + 30)), some (.int x1), some (.int x2), some (.int x3), some (.int x4)] [] (sh, i, lo, rv)) {x1 : Int32} {x2 : Int32} {x3 : Int32} {x4 : Int32} (hG : aGood sh rv) (hf : fX7_leastBehind_37 kh6 x1 x2 x3 x4 i = some (vR)) : aJ p l e R s m args below meth c (MQ below (aPost D cA ad0 A (sh, i0, lo0, rv0) (some (.int vR)) (sh, i, lo, rv)) args s (sh.length - sh.length) (aSn sh - aSn sh) A) D cA A ad0 5 sh.length (aSn sh) 37 [some (.ref (100 + 30)), some (.int x1), some (.int x2), some (.int x3), some (.int x4)] [] (sh, i, lo, rv) := by
  unfold fX7_leastBehind_37 at hf
  refine j_iinc hX dX7_leastBehind_37 rfl (congrArg (_ + ·) ic_1) (by decide) rfl ?_
  refine j_goto (tgt := 6) hX dX7_leastBehind_40 (by decide) ?_
  exact aJx (Hkh6 _ _ _ _ hG  hf) (And.intro rfl (And.intro rfl (And.intro rfl (And.intro rfl (And.intro rfl (rfl))))))
def fX7_leastBehind_6 : Nat → Int32 → Int32 → Int32 → Int32 → (Nat → Nat → Int32) → Option ((Int32))
  | 0, _, _, _, _, _ => none
  | n + 1, x1, x2, x3, x4, i => if (i 30 7) ≤ x4 then (some (x3)) else (if ((x1 >>> (x4 &&& 31)) &&& (1 : Int32)) = 0 then (bn1 (fX7_troubleWith x1 x2 x4 i) fun v1 =>
    lt (if v1 < x3 then v1 else x3) fun t3 =>
    fX7_leastBehind_37 (fX7_leastBehind_6 n) x1 x2 t3 x4 i) else (fX7_leastBehind_37 (fX7_leastBehind_6 n) x1 x2 x3 x4 i))
theorem kX7_leastBehind_6  {vR : Int32} (hX : aX p s m args c RX7 cX7_leastBehind 5 D cA A ad0) (hr : meth.sig.returnType = (some .int)) (hlk : meth.locks = false) (hRf : 2 ≤ R.frames) (hRl : 64 * 2 ≤ R.locals) : ∀ (n : Nat) (x1 : Int32) (x2 : Int32) (x3 : Int32) (x4 : Int32), aGood sh rv → fX7_leastBehind_6 n x1 x2 x3 x4 i = some (vR) → aJ p l e R s m args below meth c (MQ below (aPost D cA ad0 A (sh, i0, lo0, rv0) (some (.int vR)) (sh, i, lo, rv)) args s (sh.length - sh.length) (aSn sh - aSn sh) A) D cA A ad0 5 sh.length (aSn sh) 6 [some (.ref (100 + 30)), some (.int x1), some (.int x2), some (.int x3), some (.int x4)] [] (sh, i, lo, rv) := by
  intro n
  induction n with
  | zero => intros; rename_i hf; cases hf
  | succ n ih =>
    intro x1 x2 x3 x4 hG hf
    rw [fX7_leastBehind_6] at hf
    refine j_iload hX dX7_leastBehind_6 rfl ?_
    refine j_aload_n hX dX7_leastBehind_8 rfl ?_
    refine j_getI (k := 7) hX kX7 (by decide) fk_X7_77 dX7_leastBehind_9 (sh_30 hG) rfl ?_
    refine j_icmp_ge (tgt := 43) hX dX7_leastBehind_12 (by decide) (fun hc => ?_) (fun hc => ?_)
    · have hf := ifp hc hf
      refine j_iload_n hX dX7_leastBehind_43 rfl ?_
      cases hf
      exact j_ret hX hr hlk rfl dX7_leastBehind_44
    · have hf := ifn hc hf
      refine j_iload_n hX dX7_leastBehind_15 rfl ?_
      refine j_iload hX dX7_leastBehind_16 rfl ?_
      refine j_ishr hX dX7_leastBehind_18 ?_
      refine j_iconst hX dX7_leastBehind_19 ic_1 ?_
      refine j_iand hX dX7_leastBehind_20 ?_
      refine jpc (b := 21) rfl ?_
      refine j_if_ne (tgt := 37) hX dX7_leastBehind_21 (by decide) (fun hc => ?_) (fun hc => ?_)
      · have hf := ifn hc hf
        exact aJx (kX7_leastBehind_37 hX hr hlk hRf hRl ih hG  hf) (And.intro rfl (And.intro rfl (And.intro rfl (And.intro rfl (And.intro rfl (rfl))))))
      · have hf := ifp hc hf
        refine j_iload_n hX dX7_leastBehind_24 rfl ?_
        refine j_aload_n hX dX7_leastBehind_25 rfl ?_
        refine j_iload_n hX dX7_leastBehind_26 rfl ?_
        refine j_iload_n hX dX7_leastBehind_27 rfl ?_
        refine j_iload hX dX7_leastBehind_28 rfl ?_
        refine jpc (b := 30) rfl ?_
        obtain ⟨v1, hh2, hf⟩ := bd1 hf
        refine j_cV3i hX lk_X7_113 kX7 dX7_leastBehind_30 (sh_30 hG) (okX7_troubleWith hG hh2) rfl rfl (rmm (by omega) hRf hRl (by decide)) (Nat.le_of_ble_eq_true rfl) (Nat.le_add_right _ _) (Nat.le_add_right _ _) ?_
        refine j_min hX lk_X7_85 dX7_leastBehind_33 ⟨by omega, Nat.le_trans (Nat.le_of_ble_eq_true rfl) hRl⟩ (Nat.le_add_right _ _) (Nat.le_add_right _ _) ?_
        have hf := ltd hf
        refine j_istore_n hX dX7_leastBehind_36 (by decide) rfl ?_
        exact aJx (kX7_leastBehind_37 hX hr hlk hRf hRl ih hG  hf) (And.intro rfl (And.intro rfl (And.intro rfl (And.intro rfl (And.intro rfl (rfl))))))
def fX7_leastBehind (a1 : Int32) (a2 : Int32) (i : Nat → Nat → Int32) : Option ((Int32)) := fX7_leastBehind_6 fuel a1 a2 1000000000 0 i
theorem kX7_leastBehind  {vR : Int32} (hX : aX p s m args c RX7 cX7_leastBehind 5 D cA A ad0) (hr : meth.sig.returnType = (some .int)) (hlk : meth.locks = false) (hRf : 2 ≤ R.frames) (hRl : 64 * 2 ≤ R.locals) {a1 : Int32} {a2 : Int32} (hG : aGood sh rv) (hf : fX7_leastBehind a1 a2 i = some (vR)) : aJ p l e R s m args below meth c (MQ below (aPost D cA ad0 A (sh, i0, lo0, rv0) (some (.int vR)) (sh, i, lo, rv)) args s (sh.length - sh.length) (aSn sh - aSn sh) A) D cA A ad0 5 sh.length (aSn sh) 0 [some (.ref (100 + 30)), some (.int a1), some (.int a2), none, none] [] (sh, i, lo, rv) := by
  unfold fX7_leastBehind at hf
  refine j_ldc hX kc_X7_80 dX7_leastBehind_0 ?_
  refine j_istore_n hX dX7_leastBehind_2 (by decide) rfl ?_
  refine j_iconst hX dX7_leastBehind_3 ic_0 ?_
  refine j_istore hX dX7_leastBehind_4 (by decide) rfl ?_
  exact aJx (kX7_leastBehind_6 hX hr hlk hRf hRl fuel _ _ _ _ hG  hf) (And.intro rfl (And.intro rfl (And.intro rfl (And.intro rfl (And.intro rfl (rfl))))))
theorem okX7_leastBehind {l : Launch} {sh : List aSh} {i : Nat → Nat → Int32} {lo : Nat → Nat → Int64} {rv : Nat → Nat → Option Nat}  {a1 : Int32} {a2 : Int32} {vR : Int32} (hG : aGood sh rv) (hf : fX7_leastBehind a1 a2 i = some (vR)) : aM l yX7_leastBehind cX7_leastBehind 5 (some .int) 2 [.ref (100 + 30), .int a1, .int a2] (sh, i, lo, rv) (some (.int vR)) (sh, i, lo, rv) :=
  aM_of (by decide) (Nat.le_of_ble_eq_true rfl) (Nat.le_refl _) (Nat.le_refl _) (fun p e s m args below meth c D cA A ad0 hX hr hlk hnm => kX7_leastBehind hX hr hlk (Nat.le_refl _) (Nat.le_refl _) hG hf)
def fX7_findBerths_97 (kh57 : Int32 → (Nat → Nat → Int32) → Option ((Nat → Nat → Int32))) (kh63 : Int32 → Int32 → (Nat → Nat → Int32) → Option ((Nat → Nat → Int32))) (x2 : Int32) (x3 : Int32) (i : Nat → Nat → Int32) : Option ((Nat → Nat → Int32)) := kh63 x2 (x3 + 1) i
theorem kX7_findBerths_97  {iR : Nat → Nat → Int32} (hX : aX p s m args c RX7 cX7_findBerths 7 D cA A ad0) (hr : meth.sig.returnType = none) (hlk : meth.locks = false) (hRf : 3 ≤ R.frames) (hRl : 64 * 3 ≤ R.locals) {kh57 : Int32 → (Nat → Nat → Int32) → Option ((Nat → Nat → Int32))} {kh63 : Int32 → Int32 → (Nat → Nat → Int32) → Option ((Nat → Nat → Int32))} (Hkh57 : ∀ (x2 : Int32) (i : Nat → Nat → Int32), aGood sh rv → kh57 x2 i = some (iR) → aJ p l e R s m args below meth c (MQ below (aPost D cA ad0 A (sh, i0, lo0, rv0) none (sh, iR, lo, rv)) args s (sh.length - sh.length) (aSn sh - aSn sh) A) D cA A ad0 7 sh.length (aSn sh) 57 [some (.ref (100 + 30)), none, some (.int x2), none, none, none, none] [] (sh, i, lo, rv)) (Hkh63 : ∀ (x2 : Int32) (x3 : Int32) (i : Nat → Nat → Int32), aGood sh rv → kh63 x2 x3 i = some (iR) → aJ p l e R s m args below meth c (MQ below (aPost D cA ad0 A (sh, i0, lo0, rv0) none (sh, iR, lo, rv)) args s (sh.length - sh.length) (aSn sh - aSn sh) A) D cA A ad0 7 sh.length (aSn sh) 63 [some (.ref (100 + 30)), none, some (.int x2), some (.int x3), none, none, none] [] (sh, i, lo, rv)) {x2 : Int32} {x3 : Int32} (hG : aGood sh rv) (hf : fX7_findBerths_97 kh57 kh63 x2 x3 i = some (iR)) : aJ p l e R s m args below meth c (MQ below (aPost D cA ad0 A (sh, i0, lo0, rv0) none (sh, iR, lo, rv)) args s (sh.length - sh.length) (aSn sh - aSn sh) A) D cA A ad0 7 sh.length (aSn sh) 97 [some (.ref (100 + 30)), none, some (.int x2), some (.int x3), none, none, none] [] (sh, i, lo, rv) := by
  unfold fX7_findBerths_97 at hf
  refine j_iinc hX dX7_findBerths_97 rfl (congrArg (_ + ·) ic_1) (by decide) rfl ?_
  refine j_goto (tgt := 63) hX dX7_findBerths_100 (by decide) ?_
  exact aJx (Hkh63 _ _ _ hG  hf) (And.intro rfl (And.intro rfl (And.intro rfl (rfl))))
def fX7_findBerths_63 (kh57 : Int32 → (Nat → Nat → Int32) → Option ((Nat → Nat → Int32))) : Nat → Int32 → Int32 → (Nat → Nat → Int32) → Option ((Nat → Nat → Int32))
  | 0, _, _, _ => none
  | n + 1, x2, x3, i => if (i 30 7) ≤ x3 then (kh57 (x2 + (-1)) i) else (if ((x2 >>> (x3 &&& 31)) &&& (1 : Int32)) = 1 then (bn1 (fX7_leastBehind x2 x3 i) fun v12 =>
    if aIn ((x2 * (7 : Int32)) + x3) 896 = true then
    (lt (u2 i 34 (((x2 * (7 : Int32)) + x3) : Int32).toNatClampNeg v12) fun i14 => fX7_findBerths_97 kh57 (fX7_findBerths_63 kh57 n) x2 x3 i14) else none) else (fX7_findBerths_97 kh57 (fX7_findBerths_63 kh57 n) x2 x3 i))
theorem kX7_findBerths_63  {iR : Nat → Nat → Int32} (hX : aX p s m args c RX7 cX7_findBerths 7 D cA A ad0) (hr : meth.sig.returnType = none) (hlk : meth.locks = false) (hRf : 3 ≤ R.frames) (hRl : 64 * 3 ≤ R.locals) {kh57 : Int32 → (Nat → Nat → Int32) → Option ((Nat → Nat → Int32))} (Hkh57 : ∀ (x2 : Int32) (i : Nat → Nat → Int32), aGood sh rv → kh57 x2 i = some (iR) → aJ p l e R s m args below meth c (MQ below (aPost D cA ad0 A (sh, i0, lo0, rv0) none (sh, iR, lo, rv)) args s (sh.length - sh.length) (aSn sh - aSn sh) A) D cA A ad0 7 sh.length (aSn sh) 57 [some (.ref (100 + 30)), none, some (.int x2), none, none, none, none] [] (sh, i, lo, rv)) : ∀ (n : Nat) (x2 : Int32) (x3 : Int32) (i : Nat → Nat → Int32), aGood sh rv → fX7_findBerths_63 kh57 n x2 x3 i = some (iR) → aJ p l e R s m args below meth c (MQ below (aPost D cA ad0 A (sh, i0, lo0, rv0) none (sh, iR, lo, rv)) args s (sh.length - sh.length) (aSn sh - aSn sh) A) D cA A ad0 7 sh.length (aSn sh) 63 [some (.ref (100 + 30)), none, some (.int x2), some (.int x3), none, none, none] [] (sh, i, lo, rv) := by
  intro n
  induction n with
  | zero => intros; rename_i hf; cases hf
  | succ n ih =>
    intro x2 x3 i hG hf
    rw [fX7_findBerths_63] at hf
    refine j_iload_n hX dX7_findBerths_63 rfl ?_
    refine j_aload_n hX dX7_findBerths_64 rfl ?_
    refine j_getI (k := 7) hX kX7 (by decide) fk_X7_77 dX7_findBerths_65 (sh_30 hG) rfl ?_
    refine j_icmp_ge (tgt := 103) hX dX7_findBerths_68 (by decide) (fun hc => ?_) (fun hc => ?_)
    · have hf := ifp hc hf
      refine j_iinc hX dX7_findBerths_103 rfl (congrArg (_ + ·) ic_m1) (by decide) rfl ?_
      refine j_goto (tgt := 57) hX dX7_findBerths_106 (by decide) ?_
      exact aJx (Hkh57 _ _ hG  hf) (And.intro rfl (And.intro rfl (rfl)))
    · have hf := ifn hc hf
      refine j_iload_n hX dX7_findBerths_71 rfl ?_
      refine j_iload_n hX dX7_findBerths_72 rfl ?_
      refine j_ishr hX dX7_findBerths_73 ?_
      refine j_iconst hX dX7_findBerths_74 ic_1 ?_
      refine j_iand hX dX7_findBerths_75 ?_
      refine jpc (b := 76) rfl ?_
      refine j_iconst hX dX7_findBerths_76 ic_1 ?_
      refine j_icmp_ne (tgt := 97) hX dX7_findBerths_77 (by decide) (fun hc => ?_) (fun hc => ?_)
      · have hf := ifn hc hf
        exact aJx (kX7_findBerths_97 hX hr hlk hRf hRl Hkh57 ih hG  hf) (And.intro rfl (And.intro rfl (And.intro rfl (rfl))))
      · have hf := ifp hc hf
        refine j_aload_n hX dX7_findBerths_80 rfl ?_
        refine j_getR (k := 6) hX kX7 (by decide) fk_X7_23 (rf_30_6 hG) dX7_findBerths_81 (sh_30 hG) rfl ?_
        refine j_iload_n hX dX7_findBerths_84 rfl ?_
        refine j_bipush hX dX7_findBerths_85 bp_7 ?_
        refine j_imul hX dX7_findBerths_87 ?_
        refine jpc (b := 88) rfl ?_
        refine j_iload_n hX dX7_findBerths_88 rfl ?_
        refine j_iadd hX dX7_findBerths_89 ?_
        refine j_aload_n hX dX7_findBerths_90 rfl ?_
        refine j_iload_n hX dX7_findBerths_91 rfl ?_
        refine j_iload_n hX dX7_findBerths_92 rfl ?_
        obtain ⟨v12, hh13, hf⟩ := bd1 hf
        refine j_cV2i hX lk_X7_110 kX7 dX7_findBerths_93 (sh_30 hG) (okX7_leastBehind hG hh13) rfl rfl (rmm (by omega) hRf hRl (by decide)) (Nat.le_of_ble_eq_true rfl) (Nat.le_add_right _ _) (Nat.le_add_right _ _) ?_
        refine jpc (b := 96) rfl ?_
        obtain ⟨hg, hf⟩ := gd hf
        have hf := ltd hf
        refine j_iast hX (sh_34 hG) hg dX7_findBerths_96 ?_
        exact aJx (kX7_findBerths_97 hX hr hlk hRf hRl Hkh57 ih hG  hf) (And.intro rfl (And.intro rfl (And.intro rfl (rfl))))
def fX7_findBerths_185 (kh131 : Int32 → Int32 → Int32 → (Nat → Nat → Int32) → Option ((Nat → Nat → Int32))) (kh151 : Int32 → Int32 → Int32 → Int32 → Int32 → (Nat → Nat → Int32) → Option ((Nat → Nat → Int32))) (x2 : Int32) (x3 : Int32) (x4 : Int32) (x5 : Int32) (x6 : Int32) (i : Nat → Nat → Int32) : Option ((Nat → Nat → Int32)) := kh151 x2 x3 x4 x5 (x6 + 1) i
theorem kX7_findBerths_185  {iR : Nat → Nat → Int32} (hX : aX p s m args c RX7 cX7_findBerths 7 D cA A ad0) (hr : meth.sig.returnType = none) (hlk : meth.locks = false) (hRf : 3 ≤ R.frames) (hRl : 64 * 3 ≤ R.locals) {kh131 : Int32 → Int32 → Int32 → (Nat → Nat → Int32) → Option ((Nat → Nat → Int32))} {kh151 : Int32 → Int32 → Int32 → Int32 → Int32 → (Nat → Nat → Int32) → Option ((Nat → Nat → Int32))} (Hkh131 : ∀ (x2 : Int32) (x3 : Int32) (x4 : Int32) (i : Nat → Nat → Int32), aGood sh rv → kh131 x2 x3 x4 i = some (iR) → aJ p l e R s m args below meth c (MQ below (aPost D cA ad0 A (sh, i0, lo0, rv0) none (sh, iR, lo, rv)) args s (sh.length - sh.length) (aSn sh - aSn sh) A) D cA A ad0 7 sh.length (aSn sh) 131 [some (.ref (100 + 30)), none, some (.int x2), some (.int x3), some (.int x4), none, none] [] (sh, i, lo, rv)) (Hkh151 : ∀ (x2 : Int32) (x3 : Int32) (x4 : Int32) (x5 : Int32) (x6 : Int32) (i : Nat → Nat → Int32), aGood sh rv → kh151 x2 x3 x4 x5 x6 i = some (iR) → aJ p l e R s m args below meth c (MQ below (aPost D cA ad0 A (sh, i0, lo0, rv0) none (sh, iR, lo, rv)) args s (sh.length - sh.length) (aSn sh - aSn sh) A) D cA A ad0 7 sh.length (aSn sh) 151 [some (.ref (100 + 30)), none, some (.int x2), some (.int x3), some (.int x4), some (.int x5), some (.int x6)] [] (sh, i, lo, rv)) {x2 : Int32} {x3 : Int32} {x4 : Int32} {x5 : Int32} {x6 : Int32} (hG : aGood sh rv) (hf : fX7_findBerths_185 kh131 kh151 x2 x3 x4 x5 x6 i = some (iR)) : aJ p l e R s m args below meth c (MQ below (aPost D cA ad0 A (sh, i0, lo0, rv0) none (sh, iR, lo, rv)) args s (sh.length - sh.length) (aSn sh - aSn sh) A) D cA A ad0 7 sh.length (aSn sh) 185 [some (.ref (100 + 30)), none, some (.int x2), some (.int x3), some (.int x4), some (.int x5), some (.int x6)] [] (sh, i, lo, rv) := by
  unfold fX7_findBerths_185 at hf
  refine j_iinc hX dX7_findBerths_185 rfl (congrArg (_ + ·) ic_1) (by decide) rfl ?_
  refine j_goto (tgt := 151) hX dX7_findBerths_188 (by decide) ?_
  exact aJx (Hkh151 _ _ _ _ _ _ hG  hf) (And.intro rfl (And.intro rfl (And.intro rfl (And.intro rfl (And.intro rfl (And.intro rfl (rfl)))))))
def fX7_findBerths_191 (kh131 : Int32 → Int32 → Int32 → (Nat → Nat → Int32) → Option ((Nat → Nat → Int32))) (x2 : Int32) (x4 : Int32) (x6 : Int32) (i : Nat → Nat → Int32) : Option ((Nat → Nat → Int32)) := lt (u2 i 30 9 (((10 : Int32) * (i 30 9)) + x6)) fun i17 =>
    lt (x2 ||| ((1 : Int32) <<< (x6 &&& 31))) fun t18 =>
    kh131 t18 x6 (x4 + 1) i17
theorem kX7_findBerths_191  {iR : Nat → Nat → Int32} (hX : aX p s m args c RX7 cX7_findBerths 7 D cA A ad0) (hr : meth.sig.returnType = none) (hlk : meth.locks = false) (hRf : 3 ≤ R.frames) (hRl : 64 * 3 ≤ R.locals) {kh131 : Int32 → Int32 → Int32 → (Nat → Nat → Int32) → Option ((Nat → Nat → Int32))} (Hkh131 : ∀ (x2 : Int32) (x3 : Int32) (x4 : Int32) (i : Nat → Nat → Int32), aGood sh rv → kh131 x2 x3 x4 i = some (iR) → aJ p l e R s m args below meth c (MQ below (aPost D cA ad0 A (sh, i0, lo0, rv0) none (sh, iR, lo, rv)) args s (sh.length - sh.length) (aSn sh - aSn sh) A) D cA A ad0 7 sh.length (aSn sh) 131 [some (.ref (100 + 30)), none, some (.int x2), some (.int x3), some (.int x4), none, none] [] (sh, i, lo, rv)) {x2 : Int32} {x4 : Int32} {x6 : Int32} (hG : aGood sh rv) (hf : fX7_findBerths_191 kh131 x2 x4 x6 i = some (iR)) : aJ p l e R s m args below meth c (MQ below (aPost D cA ad0 A (sh, i0, lo0, rv0) none (sh, iR, lo, rv)) args s (sh.length - sh.length) (aSn sh - aSn sh) A) D cA A ad0 7 sh.length (aSn sh) 191 [some (.ref (100 + 30)), none, some (.int x2), none, some (.int x4), none, some (.int x6)] [] (sh, i, lo, rv) := by
  unfold fX7_findBerths_191 at hf
  refine j_aload_n hX dX7_findBerths_191 rfl ?_
  refine j_bipush hX dX7_findBerths_192 bp_10 ?_
  refine j_aload_n hX dX7_findBerths_194 rfl ?_
  refine j_getI (k := 9) hX kX7 (by decide) fk_X7_38 dX7_findBerths_195 (sh_30 hG) rfl ?_
  refine j_imul hX dX7_findBerths_198 ?_
  refine jpc (b := 199) rfl ?_
  refine j_iload hX dX7_findBerths_199 rfl ?_
  refine j_iadd hX dX7_findBerths_201 ?_
  have hf := ltd hf
  refine j_putI (k := 9) hX kX7 (by decide) fk_X7_38 dX7_findBerths_202 (sh_30 hG) rfl rfl rfl rfl ?_
  refine j_iload_n hX dX7_findBerths_205 rfl ?_
  refine j_iconst hX dX7_findBerths_206 ic_1 ?_
  refine j_iload hX dX7_findBerths_207 rfl ?_
  refine jpc (b := 209) rfl ?_
  refine j_ishl hX dX7_findBerths_209 ?_
  refine j_ior hX dX7_findBerths_210 ?_
  have hf := ltd hf
  refine j_istore_n hX dX7_findBerths_211 (by decide) rfl ?_
  refine j_iload hX dX7_findBerths_212 rfl ?_
  refine j_istore_n hX dX7_findBerths_214 (by decide) rfl ?_
  refine j_iinc hX dX7_findBerths_215 rfl (congrArg (_ + ·) ic_1) (by decide) rfl ?_
  refine jpc (b := 218) rfl ?_
  refine j_goto (tgt := 131) hX dX7_findBerths_218 (by decide) ?_
  exact aJx (Hkh131 _ _ _ _ hG  hf) (And.intro rfl (And.intro rfl (And.intro rfl (And.intro rfl (rfl)))))
def fX7_findBerths_151 (kh131 : Int32 → Int32 → Int32 → (Nat → Nat → Int32) → Option ((Nat → Nat → Int32))) : Nat → Int32 → Int32 → Int32 → Int32 → Int32 → (Nat → Nat → Int32) → Option ((Nat → Nat → Int32))
  | 0, _, _, _, _, _, _ => none
  | n + 1, x2, x3, x4, x5, x6, i => if ((i 30 7) - (1 : Int32)) ≤ x6 then (fX7_findBerths_191 kh131 x2 x4 x6 i) else (if ((x2 >>> (x6 &&& 31)) &&& (1 : Int32)) = 1 then (fX7_findBerths_185 kh131 (fX7_findBerths_151 kh131 n) x2 x3 x4 x5 x6 i) else (bn1 (fX7_troubleWith x2 x3 x6 i) fun v15 =>
    if v15 ≤ x5 then (fX7_findBerths_191 kh131 x2 x4 x6 i) else (fX7_findBerths_185 kh131 (fX7_findBerths_151 kh131 n) x2 x3 x4 x5 x6 i)))
theorem kX7_findBerths_151  {iR : Nat → Nat → Int32} (hX : aX p s m args c RX7 cX7_findBerths 7 D cA A ad0) (hr : meth.sig.returnType = none) (hlk : meth.locks = false) (hRf : 3 ≤ R.frames) (hRl : 64 * 3 ≤ R.locals) {kh131 : Int32 → Int32 → Int32 → (Nat → Nat → Int32) → Option ((Nat → Nat → Int32))} (Hkh131 : ∀ (x2 : Int32) (x3 : Int32) (x4 : Int32) (i : Nat → Nat → Int32), aGood sh rv → kh131 x2 x3 x4 i = some (iR) → aJ p l e R s m args below meth c (MQ below (aPost D cA ad0 A (sh, i0, lo0, rv0) none (sh, iR, lo, rv)) args s (sh.length - sh.length) (aSn sh - aSn sh) A) D cA A ad0 7 sh.length (aSn sh) 131 [some (.ref (100 + 30)), none, some (.int x2), some (.int x3), some (.int x4), none, none] [] (sh, i, lo, rv)) : ∀ (n : Nat) (x2 : Int32) (x3 : Int32) (x4 : Int32) (x5 : Int32) (x6 : Int32) (i : Nat → Nat → Int32), aGood sh rv → fX7_findBerths_151 kh131 n x2 x3 x4 x5 x6 i = some (iR) → aJ p l e R s m args below meth c (MQ below (aPost D cA ad0 A (sh, i0, lo0, rv0) none (sh, iR, lo, rv)) args s (sh.length - sh.length) (aSn sh - aSn sh) A) D cA A ad0 7 sh.length (aSn sh) 151 [some (.ref (100 + 30)), none, some (.int x2), some (.int x3), some (.int x4), some (.int x5), some (.int x6)] [] (sh, i, lo, rv) := by
  intro n
  induction n with
  | zero => intros; rename_i hf; cases hf
  | succ n ih =>
    intro x2 x3 x4 x5 x6 i hG hf
    rw [fX7_findBerths_151] at hf
    refine j_iload hX dX7_findBerths_151 rfl ?_
    refine j_aload_n hX dX7_findBerths_153 rfl ?_
    refine j_getI (k := 7) hX kX7 (by decide) fk_X7_77 dX7_findBerths_154 (sh_30 hG) rfl ?_
    refine j_iconst hX dX7_findBerths_157 ic_1 ?_
    refine j_isub hX dX7_findBerths_158 ?_
    refine jpc (b := 159) rfl ?_
    refine j_icmp_ge (tgt := 191) hX dX7_findBerths_159 (by decide) (fun hc => ?_) (fun hc => ?_)
    · have hf := ifp hc hf
      exact aJx (kX7_findBerths_191 hX hr hlk hRf hRl Hkh131 hG  hf) (And.intro rfl (And.intro rfl (And.intro rfl (And.intro rfl (rfl)))))
    · have hf := ifn hc hf
      refine j_iload_n hX dX7_findBerths_162 rfl ?_
      refine j_iload hX dX7_findBerths_163 rfl ?_
      refine j_ishr hX dX7_findBerths_165 ?_
      refine j_iconst hX dX7_findBerths_166 ic_1 ?_
      refine j_iand hX dX7_findBerths_167 ?_
      refine jpc (b := 168) rfl ?_
      refine j_iconst hX dX7_findBerths_168 ic_1 ?_
      refine j_icmp_eq (tgt := 185) hX dX7_findBerths_169 (by decide) (fun hc => ?_) (fun hc => ?_)
      · have hf := ifp hc hf
        exact aJx (kX7_findBerths_185 hX hr hlk hRf hRl Hkh131 ih hG  hf) (And.intro rfl (And.intro rfl (And.intro rfl (And.intro rfl (And.intro rfl (And.intro rfl (rfl)))))))
      · have hf := ifn hc hf
        refine j_aload_n hX dX7_findBerths_172 rfl ?_
        refine j_iload_n hX dX7_findBerths_173 rfl ?_
        refine j_iload_n hX dX7_findBerths_174 rfl ?_
        refine j_iload hX dX7_findBerths_175 rfl ?_
        obtain ⟨v15, hh16, hf⟩ := bd1 hf
        refine j_cV3i hX lk_X7_113 kX7 dX7_findBerths_177 (sh_30 hG) (okX7_troubleWith hG hh16) rfl rfl (rmm (by omega) hRf hRl (by decide)) (Nat.le_of_ble_eq_true rfl) (Nat.le_add_right _ _) (Nat.le_add_right _ _) ?_
        refine jpc (b := 180) rfl ?_
        refine j_iload hX dX7_findBerths_180 rfl ?_
        refine j_icmp_le (tgt := 191) hX dX7_findBerths_182 (by decide) (fun hc => ?_) (fun hc => ?_)
        · have hf := ifp hc hf
          exact aJx (kX7_findBerths_191 hX hr hlk hRf hRl Hkh131 hG  hf) (And.intro rfl (And.intro rfl (And.intro rfl (And.intro rfl (rfl)))))
        · have hf := ifn hc hf
          exact aJx (kX7_findBerths_185 hX hr hlk hRf hRl Hkh131 ih hG  hf) (And.intro rfl (And.intro rfl (And.intro rfl (And.intro rfl (And.intro rfl (And.intro rfl (rfl)))))))
def fX7_findBerths_131 : Nat → Int32 → Int32 → Int32 → (Nat → Nat → Int32) → Option ((Nat → Nat → Int32))
  | 0, _, _, _, _ => none
  | n + 1, x2, x3, x4, i => if (i 30 7) ≤ x4 then (some (i)) else (bn1 (fX7_leastBehind x2 x3 i) fun v10 =>
    fX7_findBerths_151 (fX7_findBerths_131 n) fuel x2 x3 x4 v10 0 i)
theorem kX7_findBerths_131  {iR : Nat → Nat → Int32} (hX : aX p s m args c RX7 cX7_findBerths 7 D cA A ad0) (hr : meth.sig.returnType = none) (hlk : meth.locks = false) (hRf : 3 ≤ R.frames) (hRl : 64 * 3 ≤ R.locals) : ∀ (n : Nat) (x2 : Int32) (x3 : Int32) (x4 : Int32) (i : Nat → Nat → Int32), aGood sh rv → fX7_findBerths_131 n x2 x3 x4 i = some (iR) → aJ p l e R s m args below meth c (MQ below (aPost D cA ad0 A (sh, i0, lo0, rv0) none (sh, iR, lo, rv)) args s (sh.length - sh.length) (aSn sh - aSn sh) A) D cA A ad0 7 sh.length (aSn sh) 131 [some (.ref (100 + 30)), none, some (.int x2), some (.int x3), some (.int x4), none, none] [] (sh, i, lo, rv) := by
  intro n
  induction n with
  | zero => intros; rename_i hf; cases hf
  | succ n ih =>
    intro x2 x3 x4 i hG hf
    rw [fX7_findBerths_131] at hf
    refine j_iload hX dX7_findBerths_131 rfl ?_
    refine j_aload_n hX dX7_findBerths_133 rfl ?_
    refine j_getI (k := 7) hX kX7 (by decide) fk_X7_77 dX7_findBerths_134 (sh_30 hG) rfl ?_
    refine j_icmp_ge (tgt := 221) hX dX7_findBerths_137 (by decide) (fun hc => ?_) (fun hc => ?_)
    · have hf := ifp hc hf
      cases hf
      exact j_vret hX hr hlk dX7_findBerths_221
    · have hf := ifn hc hf
      refine j_aload_n hX dX7_findBerths_140 rfl ?_
      refine j_iload_n hX dX7_findBerths_141 rfl ?_
      refine j_iload_n hX dX7_findBerths_142 rfl ?_
      obtain ⟨v10, hh11, hf⟩ := bd1 hf
      refine j_cV2i hX lk_X7_110 kX7 dX7_findBerths_143 (sh_30 hG) (okX7_leastBehind hG hh11) rfl rfl (rmm (by omega) hRf hRl (by decide)) (Nat.le_of_ble_eq_true rfl) (Nat.le_add_right _ _) (Nat.le_add_right _ _) ?_
      refine j_istore hX dX7_findBerths_146 (by decide) rfl ?_
      refine jpc (b := 148) rfl ?_
      refine j_iconst hX dX7_findBerths_148 ic_0 ?_
      refine j_istore hX dX7_findBerths_149 (by decide) rfl ?_
      exact aJx (kX7_findBerths_151 hX hr hlk hRf hRl ih fuel _ _ _ _ _ _ hG  hf) (And.intro rfl (And.intro rfl (And.intro rfl (And.intro rfl (And.intro rfl (And.intro rfl (rfl)))))))
def fX7_findBerths_57 : Nat → Int32 → (Nat → Nat → Int32) → Option ((Nat → Nat → Int32))
  | 0, _, _ => none
  | n + 1, x2, i => if x2 ≤ 0 then (bn1 (fX7_leastBehind 0 (-1) i) fun v6 =>
    lt (u2 i 30 10 v6) fun i8 =>
    lt (u2 i8 30 9 0) fun i9 =>
    fX7_findBerths_131 fuel 0 (-1) 0 i9) else (fX7_findBerths_63 (fX7_findBerths_57 n) fuel x2 0 i)
theorem kX7_findBerths_57  {iR : Nat → Nat → Int32} (hX : aX p s m args c RX7 cX7_findBerths 7 D cA A ad0) (hr : meth.sig.returnType = none) (hlk : meth.locks = false) (hRf : 3 ≤ R.frames) (hRl : 64 * 3 ≤ R.locals) : ∀ (n : Nat) (x2 : Int32) (i : Nat → Nat → Int32), aGood sh rv → fX7_findBerths_57 n x2 i = some (iR) → aJ p l e R s m args below meth c (MQ below (aPost D cA ad0 A (sh, i0, lo0, rv0) none (sh, iR, lo, rv)) args s (sh.length - sh.length) (aSn sh - aSn sh) A) D cA A ad0 7 sh.length (aSn sh) 57 [some (.ref (100 + 30)), none, some (.int x2), none, none, none, none] [] (sh, i, lo, rv) := by
  intro n
  induction n with
  | zero => intros; rename_i hf; cases hf
  | succ n ih =>
    intro x2 i hG hf
    rw [fX7_findBerths_57] at hf
    refine j_iload_n hX dX7_findBerths_57 rfl ?_
    refine j_if_le (tgt := 109) hX dX7_findBerths_58 (by decide) (fun hc => ?_) (fun hc => ?_)
    · have hf := ifp hc hf
      refine j_aload_n hX dX7_findBerths_109 rfl ?_
      refine j_aload_n hX dX7_findBerths_110 rfl ?_
      refine j_iconst hX dX7_findBerths_111 ic_0 ?_
      refine j_iconst hX dX7_findBerths_112 ic_m1 ?_
      obtain ⟨v6, hh7, hf⟩ := bd1 hf
      refine j_cV2i hX lk_X7_110 kX7 dX7_findBerths_113 (sh_30 hG) (okX7_leastBehind hG hh7) rfl rfl (rmm (by omega) hRf hRl (by decide)) (Nat.le_of_ble_eq_true rfl) (Nat.le_add_right _ _) (Nat.le_add_right _ _) ?_
      refine jpc (b := 116) rfl ?_
      have hf := ltd hf
      refine j_putI (k := 10) hX kX7 (by decide) fk_X7_42 dX7_findBerths_116 (sh_30 hG) rfl rfl rfl rfl ?_
      refine j_aload_n hX dX7_findBerths_119 rfl ?_
      refine j_iconst hX dX7_findBerths_120 ic_0 ?_
      have hf := ltd hf
      refine j_putI (k := 9) hX kX7 (by decide) fk_X7_38 dX7_findBerths_121 (sh_30 hG) rfl rfl rfl rfl ?_
      refine j_iconst hX dX7_findBerths_124 ic_0 ?_
      refine j_istore_n hX dX7_findBerths_125 (by decide) rfl ?_
      refine jpc (b := 126) rfl ?_
      refine j_iconst hX dX7_findBerths_126 ic_m1 ?_
      refine j_istore_n hX dX7_findBerths_127 (by decide) rfl ?_
      refine j_iconst hX dX7_findBerths_128 ic_0 ?_
      refine j_istore hX dX7_findBerths_129 (by decide) rfl ?_
      exact aJx (kX7_findBerths_131 hX hr hlk hRf hRl fuel _ _ _ _ hG  hf) (And.intro rfl (And.intro rfl (And.intro rfl (And.intro rfl (rfl)))))
    · have hf := ifn hc hf
      refine j_iconst hX dX7_findBerths_61 ic_0 ?_
      refine j_istore_n hX dX7_findBerths_62 (by decide) rfl ?_
      exact aJx (kX7_findBerths_63 hX hr hlk hRf hRl ih fuel _ _ _ hG  hf) (And.intro rfl (And.intro rfl (And.intro rfl (rfl))))
def fX7_findBerths_27 : Nat → Int32 → Int32 → (Nat → Nat → Int32) → Option ((Nat → Nat → Int32))
  | 0, _, _, _ => none
  | n + 1, x1, x2, i => if (i 30 7) ≤ x2 then (fX7_findBerths_57 fuel (x1 - (1 : Int32)) i) else (if aIn ((x1 * (7 : Int32)) + x2) 896 = true then
    (lt (u2 i 34 (((x1 * (7 : Int32)) + x2) : Int32).toNatClampNeg 0) fun i5 => fX7_findBerths_27 n x1 (x2 + 1) i5) else none)
theorem kX7_findBerths_27  {iR : Nat → Nat → Int32} (hX : aX p s m args c RX7 cX7_findBerths 7 D cA A ad0) (hr : meth.sig.returnType = none) (hlk : meth.locks = false) (hRf : 3 ≤ R.frames) (hRl : 64 * 3 ≤ R.locals) : ∀ (n : Nat) (x1 : Int32) (x2 : Int32) (i : Nat → Nat → Int32), aGood sh rv → fX7_findBerths_27 n x1 x2 i = some (iR) → aJ p l e R s m args below meth c (MQ below (aPost D cA ad0 A (sh, i0, lo0, rv0) none (sh, iR, lo, rv)) args s (sh.length - sh.length) (aSn sh - aSn sh) A) D cA A ad0 7 sh.length (aSn sh) 27 [some (.ref (100 + 30)), some (.int x1), some (.int x2), none, none, none, none] [] (sh, i, lo, rv) := by
  intro n
  induction n with
  | zero => intros; rename_i hf; cases hf
  | succ n ih =>
    intro x1 x2 i hG hf
    rw [fX7_findBerths_27] at hf
    refine j_iload_n hX dX7_findBerths_27 rfl ?_
    refine j_aload_n hX dX7_findBerths_28 rfl ?_
    refine j_getI (k := 7) hX kX7 (by decide) fk_X7_77 dX7_findBerths_29 (sh_30 hG) rfl ?_
    refine j_icmp_ge (tgt := 53) hX dX7_findBerths_32 (by decide) (fun hc => ?_) (fun hc => ?_)
    · have hf := ifp hc hf
      refine j_iload_n hX dX7_findBerths_53 rfl ?_
      refine j_iconst hX dX7_findBerths_54 ic_1 ?_
      refine j_isub hX dX7_findBerths_55 ?_
      refine j_istore_n hX dX7_findBerths_56 (by decide) rfl ?_
      exact aJx (kX7_findBerths_57 hX hr hlk hRf hRl fuel _ _ hG  hf) (And.intro rfl (And.intro rfl (rfl)))
    · have hf := ifn hc hf
      refine j_aload_n hX dX7_findBerths_35 rfl ?_
      refine j_getR (k := 6) hX kX7 (by decide) fk_X7_23 (rf_30_6 hG) dX7_findBerths_36 (sh_30 hG) rfl ?_
      refine j_iload_n hX dX7_findBerths_39 rfl ?_
      refine j_bipush hX dX7_findBerths_40 bp_7 ?_
      refine j_imul hX dX7_findBerths_42 ?_
      refine jpc (b := 43) rfl ?_
      refine j_iload_n hX dX7_findBerths_43 rfl ?_
      refine j_iadd hX dX7_findBerths_44 ?_
      refine j_iconst hX dX7_findBerths_45 ic_0 ?_
      obtain ⟨hg, hf⟩ := gd hf
      have hf := ltd hf
      refine j_iast hX (sh_34 hG) hg dX7_findBerths_46 ?_
      refine j_iinc hX dX7_findBerths_47 rfl (congrArg (_ + ·) ic_1) (by decide) rfl ?_
      refine j_goto (tgt := 27) hX dX7_findBerths_50 (by decide) ?_
      exact aJx (ih _ _ _ hG  hf) (And.intro rfl (And.intro rfl (And.intro rfl (rfl))))
def fX7_findBerths (i : Nat → Nat → Int32) : Option ((Nat → Nat → Int32)) := bn1 (fX1_sleepers 15 i) fun v1 =>
    lt (u2 i 30 7 (if v1 < (7 : Int32) then v1 else (7 : Int32))) fun i3 =>
    lt (((1 : Int32) <<< ((i3 30 7) &&& 31)) - (1 : Int32)) fun t4 =>
    fX7_findBerths_27 fuel t4 0 i3
theorem kX7_findBerths  {iR : Nat → Nat → Int32} (hX : aX p s m args c RX7 cX7_findBerths 7 D cA A ad0) (hr : meth.sig.returnType = none) (hlk : meth.locks = false) (hRf : 3 ≤ R.frames) (hRl : 64 * 3 ≤ R.locals) (hG : aGood sh rv) (hf : fX7_findBerths i = some (iR)) : aJ p l e R s m args below meth c (MQ below (aPost D cA ad0 A (sh, i0, lo0, rv0) none (sh, iR, lo, rv)) args s (sh.length - sh.length) (aSn sh - aSn sh) A) D cA A ad0 7 sh.length (aSn sh) 0 [some (.ref (100 + 30)), none, none, none, none, none, none] [] (sh, i, lo, rv) := by
  unfold fX7_findBerths at hf
  refine j_aload_n hX dX7_findBerths_0 rfl ?_
  refine j_bipush hX dX7_findBerths_1 bp_7 ?_
  refine j_aload_n hX dX7_findBerths_3 rfl ?_
  refine j_getR (k := 0) hX kX7 (by decide) fk_X7_26 (rf_30_0 hG) dX7_findBerths_4 (sh_30 hG) rfl ?_
  obtain ⟨v1, hh2, hf⟩ := bd1 hf
  refine j_cV0i hX lk_X7_91 kX1 dX7_findBerths_7 (sh_15 hG) (okX1_sleepers hG (cr_15 hG) hh2) rfl rfl (rmm (by omega) hRf hRl (by decide)) (Nat.le_of_ble_eq_true rfl) (Nat.le_add_right _ _) (Nat.le_add_right _ _) ?_
  refine jpc (b := 10) rfl ?_
  refine j_min hX lk_X7_85 dX7_findBerths_10 ⟨by omega, Nat.le_trans (Nat.le_of_ble_eq_true rfl) hRl⟩ (Nat.le_add_right _ _) (Nat.le_add_right _ _) ?_
  have hf := ltd hf
  refine j_putI (k := 7) hX kX7 (by decide) fk_X7_77 dX7_findBerths_13 (sh_30 hG) rfl rfl rfl rfl ?_
  refine j_iconst hX dX7_findBerths_16 ic_1 ?_
  refine j_aload_n hX dX7_findBerths_17 rfl ?_
  refine j_getI (k := 7) hX kX7 (by decide) fk_X7_77 dX7_findBerths_18 (sh_30 hG) rfl ?_
  refine j_ishl hX dX7_findBerths_21 ?_
  refine jpc (b := 22) rfl ?_
  refine j_iconst hX dX7_findBerths_22 ic_1 ?_
  refine j_isub hX dX7_findBerths_23 ?_
  have hf := ltd hf
  refine j_istore_n hX dX7_findBerths_24 (by decide) rfl ?_
  refine j_iconst hX dX7_findBerths_25 ic_0 ?_
  refine j_istore_n hX dX7_findBerths_26 (by decide) rfl ?_
  exact aJx (kX7_findBerths_27 hX hr hlk hRf hRl fuel _ _ _ hG  hf) (And.intro rfl (And.intro rfl (And.intro rfl (rfl))))
theorem okX7_findBerths {l : Launch} {sh : List aSh} {i : Nat → Nat → Int32} {lo : Nat → Nat → Int64} {rv : Nat → Nat → Option Nat}  {iR : Nat → Nat → Int32} (hG : aGood sh rv) (hf : fX7_findBerths i = some (iR)) : aM l yX7_findBerths cX7_findBerths 7 none 3 [.ref (100 + 30)] (sh, i, lo, rv) none (sh, iR, lo, rv) :=
  aM_of (by decide) (Nat.le_of_ble_eq_true rfl) (Nat.le_refl _) (Nat.le_refl _) (fun p e s m args below meth c D cA A ad0 hX hr hlk hnm => kX7_findBerths hX hr hlk (Nat.le_refl _) (Nat.le_refl _) hG hf)
def fX11_give (a1 : Int32) (i : Nat → Nat → Int32) : Option ((Int32) × (Nat → Nat → Int32)) := bn1 (fX11_noCar i) fun v1 =>
    if v1 = 0 then (if a1 < 0 then (some ((-1), i)) else (if a1 ≤ 1 then (bn1 (fX1_sleepers 15 i) fun v3 =>
    if v3 ≤ 7 then (bn1 (fX7_findBerths i) fun i5 =>
    if a1 = 0 then (bn1 (fX7_digits i5) fun v9 =>
    some (v9, i5)) else (bn1 (fX7_worth i5) fun v7 =>
    some (v7, i5))) else (some ((-1000000), i))) else (some ((-1), i)))) else (some ((-1), i))
theorem kX11_give  {vR : Int32} {iR : Nat → Nat → Int32} (hX : aX p s m args c RX11 cX11_give 2 D cA A ad0) (hr : meth.sig.returnType = (some .int)) (hlk : meth.locks = false) (hRf : 4 ≤ R.frames) (hRl : 64 * 4 ≤ R.locals) {a1 : Int32} (hG : aGood sh rv) (hf : fX11_give a1 i = some (vR, iR)) : aJ p l e R s m args below meth c (MQ below (aPost D cA ad0 A (sh, i0, lo0, rv0) (some (.int vR)) (sh, iR, lo, rv)) args s (sh.length - sh.length) (aSn sh - aSn sh) A) D cA A ad0 2 sh.length (aSn sh) 0 [some (.ref (100 + 0)), some (.int a1)] [] (sh, i, lo, rv) := by
  unfold fX11_give at hf
  refine j_aload_n hX dX11_give_0 rfl ?_
  obtain ⟨v1, hh2, hf⟩ := bd1 hf
  refine j_cV0i hX lk_X11_120 kX11 dX11_give_1 (sh_0 hG) (okX11_noCar hG hh2) rfl rfl (rmm (by omega) hRf hRl (by decide)) (Nat.le_of_ble_eq_true rfl) (Nat.le_add_right _ _) (Nat.le_add_right _ _) ?_
  refine j_if_ne (tgt := 16) hX dX11_give_4 (by decide) (fun hc => ?_) (fun hc => ?_)
  · have hf := ifn hc hf
    refine j_iconst hX dX11_give_16 ic_m1 ?_
    cases hf
    exact j_ret hX hr hlk rfl dX11_give_17
  · have hf := ifp hc hf
    refine j_iload_n hX dX11_give_7 rfl ?_
    refine j_if_lt (tgt := 16) hX dX11_give_8 (by decide) (fun hc => ?_) (fun hc => ?_)
    · have hf := ifp hc hf
      refine j_iconst hX dX11_give_16 ic_m1 ?_
      cases hf
      exact j_ret hX hr hlk rfl dX11_give_17
    · have hf := ifn hc hf
      refine j_iload_n hX dX11_give_11 rfl ?_
      refine j_iconst hX dX11_give_12 ic_1 ?_
      refine j_icmp_le (tgt := 18) hX dX11_give_13 (by decide) (fun hc => ?_) (fun hc => ?_)
      · have hf := ifp hc hf
        refine j_aload_n hX dX11_give_18 rfl ?_
        refine j_getR (k := 3) hX kX11 (by decide) fk_X11_30 (rf_0_3 hG) dX11_give_19 (sh_0 hG) rfl ?_
        obtain ⟨v3, hh4, hf⟩ := bd1 hf
        refine j_cV0i hX lk_X11_282 kX1 dX11_give_22 (sh_15 hG) (okX1_sleepers hG (cr_15 hG) hh4) rfl rfl (rmm (by omega) hRf hRl (by decide)) (Nat.le_of_ble_eq_true rfl) (Nat.le_add_right _ _) (Nat.le_add_right _ _) ?_
        refine j_bipush hX dX11_give_25 bp_7 ?_
        refine j_icmp_le (tgt := 33) hX dX11_give_27 (by decide) (fun hc => ?_) (fun hc => ?_)
        · have hf := ifp hc hf
          refine j_aload_n hX dX11_give_33 rfl ?_
          refine j_getR (k := 8) hX kX11 (by decide) fk_X11_64 (rf_0_8 hG) dX11_give_34 (sh_0 hG) rfl ?_
          obtain ⟨i5, hh6, hf⟩ := bd1 hf
          refine j_cV0v hX lk_X11_285 kX7 dX11_give_37 (sh_30 hG) (okX7_findBerths hG hh6) rfl rfl (rmm (by omega) hRf hRl (by decide)) (Nat.le_of_ble_eq_true rfl) (Nat.le_add_right _ _) (Nat.le_add_right _ _) ?_
          refine j_iload_n hX dX11_give_40 rfl ?_
          refine j_if_ne (tgt := 54) hX dX11_give_41 (by decide) (fun hc => ?_) (fun hc => ?_)
          · have hf := ifn hc hf
            refine j_aload_n hX dX11_give_54 rfl ?_
            refine j_getR (k := 8) hX kX11 (by decide) fk_X11_64 (rf_0_8 hG) dX11_give_55 (sh_0 hG) rfl ?_
            obtain ⟨v7, hh8, hf⟩ := bd1 hf
            refine j_cV0i hX lk_X11_246 kX7 dX11_give_58 (sh_30 hG) (okX7_worth hG hh8) rfl rfl (rmm (by omega) hRf hRl (by decide)) (Nat.le_of_ble_eq_true rfl) (Nat.le_add_right _ _) (Nat.le_add_right _ _) ?_
            cases hf
            exact j_ret hX hr hlk rfl dX11_give_61
          · have hf := ifp hc hf
            refine j_aload_n hX dX11_give_44 rfl ?_
            refine j_getR (k := 8) hX kX11 (by decide) fk_X11_64 (rf_0_8 hG) dX11_give_45 (sh_0 hG) rfl ?_
            obtain ⟨v9, hh10, hf⟩ := bd1 hf
            refine j_cV0i hX lk_X11_243 kX7 dX11_give_48 (sh_30 hG) (okX7_digits hG hh10) rfl rfl (rmm (by omega) hRf hRl (by decide)) (Nat.le_of_ble_eq_true rfl) (Nat.le_add_right _ _) (Nat.le_add_right _ _) ?_
            refine j_goto (tgt := 61) hX dX11_give_51 (by decide) ?_
            cases hf
            exact j_ret hX hr hlk rfl dX11_give_61
        · have hf := ifn hc hf
          refine j_ldc hX kc_X11_219 dX11_give_30 ?_
          cases hf
          exact j_ret hX hr hlk rfl dX11_give_32
      · have hf := ifn hc hf
        refine j_iconst hX dX11_give_16 ic_m1 ?_
        cases hf
        exact j_ret hX hr hlk rfl dX11_give_17
theorem okX11_give {l : Launch} {sh : List aSh} {i : Nat → Nat → Int32} {lo : Nat → Nat → Int64} {rv : Nat → Nat → Option Nat}  {a1 : Int32} {vR : Int32} {iR : Nat → Nat → Int32} (hG : aGood sh rv) (hf : fX11_give a1 i = some (vR, iR)) : aM l yX11_give cX11_give 2 (some .int) 4 [.ref (100 + 0), .int a1] (sh, i, lo, rv) (some (.int vR)) (sh, iR, lo, rv) :=
  aM_of (by decide) (Nat.le_of_ble_eq_true rfl) (Nat.le_refl _) (Nat.le_refl _) (fun p e s m args below meth c D cA A ad0 hX hr hlk hnm => kX11_give hX hr hlk (Nat.le_refl _) (Nat.le_refl _) hG hf)
def fX11_between_64 (kh13 : Int32 → Int32 → (Nat → Nat → Int32) → (Nat → Nat → Option Nat) → Option ((Int32) × (Nat → Nat → Int32))) (x1 : Int32) (x2 : Int32) (i : Nat → Nat → Int32) (rv : Nat → Nat → Option Nat) : Option ((Int32) × (Nat → Nat → Int32)) := kh13 x1 (x2 + 1) i rv
theorem kX11_between_64  {vR : Int32} {iR : Nat → Nat → Int32} (hX : aX p s m args c RX11 cX11_between 3 D cA A ad0) (hr : meth.sig.returnType = (some .int)) (hlk : meth.locks = false) (hRf : 5 ≤ R.frames) (hRl : 64 * 5 ≤ R.locals) {kh13 : Int32 → Int32 → (Nat → Nat → Int32) → (Nat → Nat → Option Nat) → Option ((Int32) × (Nat → Nat → Int32))} (Hkh13 : ∀ (x1 : Int32) (x2 : Int32) (i : Nat → Nat → Int32), aGood sh rv → kh13 x1 x2 i rv = some (vR, iR) → aJ p l e R s m args below meth c (MQ below (aPost D cA ad0 A (sh, i0, lo0, rv0) (some (.int vR)) (sh, iR, lo, rv)) args s (sh.length - sh.length) (aSn sh - aSn sh) A) D cA A ad0 3 sh.length (aSn sh) 13 [some (.ref (100 + 0)), some (.int x1), some (.int x2)] [] (sh, i, lo, rv)) {x1 : Int32} {x2 : Int32} (hG : aGood sh rv) (hf : fX11_between_64 kh13 x1 x2 i rv = some (vR, iR)) : aJ p l e R s m args below meth c (MQ below (aPost D cA ad0 A (sh, i0, lo0, rv0) (some (.int vR)) (sh, iR, lo, rv)) args s (sh.length - sh.length) (aSn sh - aSn sh) A) D cA A ad0 3 sh.length (aSn sh) 64 [some (.ref (100 + 0)), some (.int x1), some (.int x2)] [] (sh, i, lo, rv) := by
  unfold fX11_between_64 at hf
  refine j_iinc hX dX11_between_64 rfl (congrArg (_ + ·) ic_1) (by decide) rfl ?_
  refine j_goto (tgt := 13) hX dX11_between_67 (by decide) ?_
  exact aJx (Hkh13 _ _ _ hG  hf) (And.intro rfl (And.intro rfl (And.intro rfl (rfl))))
def fX11_between_13 : Nat → Int32 → Int32 → (Nat → Nat → Int32) → (Nat → Nat → Option Nat) → Option ((Int32) × (Nat → Nat → Int32))
  | 0, _, _, _, _ => none
  | n + 1, x1, x2, i, rv => bn1 (fX1_sleepers 15 i) fun v3 =>
    if v3 ≤ x2 then (some (x1, i)) else (bn1 (fX8_isAsleep 19 x2 i) fun v5 =>
    if v5 = 0 then (bn2 (fX3_lossByHand 19 x2 i rv) fun v7 i8 =>
    bn1 (fX1_ruleOf 15 1 i8) fun v10 =>
    if v7 ≤ v10 then (fX11_between_64 (fX11_between_13 n) x1 x2 i8 rv) else (lt (x1 ||| ((1 : Int32) <<< (x2 &&& 31))) fun t12 =>
    fX11_between_64 (fX11_between_13 n) t12 x2 i8 rv)) else (fX11_between_64 (fX11_between_13 n) x1 x2 i rv))
theorem kX11_between_13  {vR : Int32} {iR : Nat → Nat → Int32} (hX : aX p s m args c RX11 cX11_between 3 D cA A ad0) (hr : meth.sig.returnType = (some .int)) (hlk : meth.locks = false) (hRf : 5 ≤ R.frames) (hRl : 64 * 5 ≤ R.locals) : ∀ (n : Nat) (x1 : Int32) (x2 : Int32) (i : Nat → Nat → Int32), aGood sh rv → fX11_between_13 n x1 x2 i rv = some (vR, iR) → aJ p l e R s m args below meth c (MQ below (aPost D cA ad0 A (sh, i0, lo0, rv0) (some (.int vR)) (sh, iR, lo, rv)) args s (sh.length - sh.length) (aSn sh - aSn sh) A) D cA A ad0 3 sh.length (aSn sh) 13 [some (.ref (100 + 0)), some (.int x1), some (.int x2)] [] (sh, i, lo, rv) := by
  intro n
  induction n with
  | zero => intros; rename_i hf; cases hf
  | succ n ih =>
    intro x1 x2 i hG hf
    rw [fX11_between_13] at hf
    refine j_iload_n hX dX11_between_13 rfl ?_
    refine j_aload_n hX dX11_between_14 rfl ?_
    refine j_getR (k := 3) hX kX11 (by decide) fk_X11_30 (rf_0_3 hG) dX11_between_15 (sh_0 hG) rfl ?_
    obtain ⟨v3, hh4, hf⟩ := bd1 hf
    refine j_cV0i hX lk_X11_282 kX1 dX11_between_18 (sh_15 hG) (okX1_sleepers hG (cr_15 hG) hh4) rfl rfl (rmm (by omega) hRf hRl (by decide)) (Nat.le_of_ble_eq_true rfl) (Nat.le_add_right _ _) (Nat.le_add_right _ _) ?_
    refine j_icmp_ge (tgt := 70) hX dX11_between_21 (by decide) (fun hc => ?_) (fun hc => ?_)
    · have hf := ifp hc hf
      refine j_iload_n hX dX11_between_70 rfl ?_
      cases hf
      exact j_ret hX hr hlk rfl dX11_between_71
    · have hf := ifn hc hf
      refine j_aload_n hX dX11_between_24 rfl ?_
      refine j_getR (k := 4) hX kX11 (by decide) fk_X11_36 (rf_0_4 hG) dX11_between_25 (sh_0 hG) rfl ?_
      refine j_iload_n hX dX11_between_28 rfl ?_
      obtain ⟨v5, hh6, hf⟩ := bd1 hf
      refine j_cV1i hX lk_X11_153 kX8 dX11_between_29 (sh_19 hG) (okX8_isAsleep hG (sc_19 hG) hh6) rfl rfl (rmm (by omega) hRf hRl (by decide)) (Nat.le_of_ble_eq_true rfl) (Nat.le_add_right _ _) (Nat.le_add_right _ _) ?_
      refine j_if_ne (tgt := 64) hX dX11_between_32 (by decide) (fun hc => ?_) (fun hc => ?_)
      · have hf := ifn hc hf
        exact aJx (kX11_between_64 hX hr hlk hRf hRl ih hG  hf) (And.intro rfl (And.intro rfl (And.intro rfl (rfl))))
      · have hf := ifp hc hf
        refine j_aload_n hX dX11_between_35 rfl ?_
        refine j_getR (k := 6) hX kX11 (by decide) fk_X11_48 (rf_0_6 hG) dX11_between_36 (sh_0 hG) rfl ?_
        refine j_aload_n hX dX11_between_39 rfl ?_
        refine j_getR (k := 4) hX kX11 (by decide) fk_X11_36 (rf_0_4 hG) dX11_between_40 (sh_0 hG) rfl ?_
        refine j_iload_n hX dX11_between_43 rfl ?_
        refine jpc (b := 44) rfl ?_
        obtain ⟨v7, i8, hh9, hf⟩ := bd2 hf
        refine j_cV2i hX lk_X11_288 kX3 dX11_between_44 (sh_23 hG) (okX3_lossByHand hG (sc_19 hG) hh9) rfl rfl (rmm (by omega) hRf hRl (by decide)) (Nat.le_of_ble_eq_true rfl) (Nat.le_add_right _ _) (Nat.le_add_right _ _) ?_
        refine j_aload_n hX dX11_between_47 rfl ?_
        refine j_getR (k := 3) hX kX11 (by decide) fk_X11_30 (rf_0_3 hG) dX11_between_48 (sh_0 hG) rfl ?_
        refine j_iconst hX dX11_between_51 ic_1 ?_
        obtain ⟨v10, hh11, hf⟩ := bd1 hf
        refine j_cV1i hX lk_X11_127 kX1 dX11_between_52 (sh_15 hG) (okX1_ruleOf hG (cr_15 hG) hh11) rfl rfl (rmm (by omega) hRf hRl (by decide)) (Nat.le_of_ble_eq_true rfl) (Nat.le_add_right _ _) (Nat.le_add_right _ _) ?_
        refine j_icmp_le (tgt := 64) hX dX11_between_55 (by decide) (fun hc => ?_) (fun hc => ?_)
        · have hf := ifp hc hf
          exact aJx (kX11_between_64 hX hr hlk hRf hRl ih hG  hf) (And.intro rfl (And.intro rfl (And.intro rfl (rfl))))
        · have hf := ifn hc hf
          refine j_iload_n hX dX11_between_58 rfl ?_
          refine j_iconst hX dX11_between_59 ic_1 ?_
          refine j_iload_n hX dX11_between_60 rfl ?_
          refine j_ishl hX dX11_between_61 ?_
          refine j_ior hX dX11_between_62 ?_
          refine jpc (b := 63) rfl ?_
          have hf := ltd hf
          refine j_istore_n hX dX11_between_63 (by decide) rfl ?_
          exact aJx (kX11_between_64 hX hr hlk hRf hRl ih hG  hf) (And.intro rfl (And.intro rfl (And.intro rfl (rfl))))
def fX11_between (i : Nat → Nat → Int32) (rv : Nat → Nat → Option Nat) : Option ((Int32) × (Nat → Nat → Int32)) := bn1 (fX11_noCar i) fun v1 =>
    if v1 = 0 then (fX11_between_13 fuel 0 0 i rv) else (some ((-1), i))
theorem kX11_between  {vR : Int32} {iR : Nat → Nat → Int32} (hX : aX p s m args c RX11 cX11_between 3 D cA A ad0) (hr : meth.sig.returnType = (some .int)) (hlk : meth.locks = false) (hRf : 5 ≤ R.frames) (hRl : 64 * 5 ≤ R.locals) (hG : aGood sh rv) (hf : fX11_between i rv = some (vR, iR)) : aJ p l e R s m args below meth c (MQ below (aPost D cA ad0 A (sh, i0, lo0, rv0) (some (.int vR)) (sh, iR, lo, rv)) args s (sh.length - sh.length) (aSn sh - aSn sh) A) D cA A ad0 3 sh.length (aSn sh) 0 [some (.ref (100 + 0)), none, none] [] (sh, i, lo, rv) := by
  unfold fX11_between at hf
  refine j_aload_n hX dX11_between_0 rfl ?_
  obtain ⟨v1, hh2, hf⟩ := bd1 hf
  refine j_cV0i hX lk_X11_120 kX11 dX11_between_1 (sh_0 hG) (okX11_noCar hG hh2) rfl rfl (rmm (by omega) hRf hRl (by decide)) (Nat.le_of_ble_eq_true rfl) (Nat.le_add_right _ _) (Nat.le_add_right _ _) ?_
  refine j_if_eq (tgt := 9) hX dX11_between_4 (by decide) (fun hc => ?_) (fun hc => ?_)
  · have hf := ifp hc hf
    refine j_iconst hX dX11_between_9 ic_0 ?_
    refine j_istore_n hX dX11_between_10 (by decide) rfl ?_
    refine j_iconst hX dX11_between_11 ic_0 ?_
    refine j_istore_n hX dX11_between_12 (by decide) rfl ?_
    exact aJx (kX11_between_13 hX hr hlk hRf hRl fuel _ _ _ hG  hf) (And.intro rfl (And.intro rfl (And.intro rfl (rfl))))
  · have hf := ifn hc hf
    refine j_iconst hX dX11_between_7 ic_m1 ?_
    cases hf
    exact j_ret hX hr hlk rfl dX11_between_8
theorem okX11_between {l : Launch} {sh : List aSh} {i : Nat → Nat → Int32} {lo : Nat → Nat → Int64} {rv : Nat → Nat → Option Nat}  {vR : Int32} {iR : Nat → Nat → Int32} (hG : aGood sh rv) (hf : fX11_between i rv = some (vR, iR)) : aM l yX11_between cX11_between 3 (some .int) 5 [.ref (100 + 0)] (sh, i, lo, rv) (some (.int vR)) (sh, iR, lo, rv) :=
  aM_of (by decide) (Nat.le_of_ble_eq_true rfl) (Nat.le_refl _) (Nat.le_refl _) (fun p e s m args below meth c D cA A ad0 hX hr hlk hnm => kX11_between hX hr hlk (Nat.le_refl _) (Nat.le_refl _) hG hf)
def fX3_lossOfAllByHand_4 (p1 : Nat) : Nat → Int32 → Int32 → (Nat → Nat → Int32) → (Nat → Nat → Option Nat) → Option ((Int32) × (Nat → Nat → Int32))
  | 0, _, _, _, _ => none
  | n + 1, x2, x3, i, rv => bn1 (fX1_papers 15 i) fun v1 =>
    if v1 ≤ x3 then (some (x2, i)) else (bn1 (fX8_inDrawer p1 x3 i) fun v3 =>
    bn2 (fX3_lossByHand p1 v3 i rv) fun v5 i6 =>
    fX3_lossOfAllByHand_4 p1 n (x2 + v5) (x3 + 1) i6 rv)
theorem kX3_lossOfAllByHand_4  {p1 : Nat} {vR : Int32} {iR : Nat → Nat → Int32} (hX : aX p s m args c RX3 cX3_lossOfAllByHand 4 D cA A ad0) (hr : meth.sig.returnType = (some .int)) (hlk : meth.locks = false) (hRf : 5 ≤ R.frames) (hRl : 64 * 5 ≤ R.locals) (h1 : isScn sh rv p1) : ∀ (n : Nat) (x2 : Int32) (x3 : Int32) (i : Nat → Nat → Int32), aGood sh rv → fX3_lossOfAllByHand_4 p1 n x2 x3 i rv = some (vR, iR) → aJ p l e R s m args below meth c (MQ below (aPost D cA ad0 A (sh, i0, lo0, rv0) (some (.int vR)) (sh, iR, lo, rv)) args s (sh.length - sh.length) (aSn sh - aSn sh) A) D cA A ad0 4 sh.length (aSn sh) 4 [some (.ref (100 + 23)), some (.ref (100 + p1)), some (.int x2), some (.int x3)] [] (sh, i, lo, rv) := by
  intro n
  induction n with
  | zero => intros; rename_i hf; cases hf
  | succ n ih =>
    intro x2 x3 i hG hf
    rw [fX3_lossOfAllByHand_4] at hf
    refine j_iload_n hX dX3_lossOfAllByHand_4 rfl ?_
    refine j_aload_n hX dX3_lossOfAllByHand_5 rfl ?_
    refine j_getR (k := 0) hX kX3 (by decide) fk_X3_17 (rf_23_0 hG) dX3_lossOfAllByHand_6 (sh_23 hG) rfl ?_
    obtain ⟨v1, hh2, hf⟩ := bd1 hf
    refine j_cV0i hX lk_X3_36 kX1 dX3_lossOfAllByHand_9 (sh_15 hG) (okX1_papers hG (cr_15 hG) hh2) rfl rfl (rmm (by omega) hRf hRl (by decide)) (Nat.le_of_ble_eq_true rfl) (Nat.le_add_right _ _) (Nat.le_add_right _ _) ?_
    refine j_icmp_ge (tgt := 34) hX dX3_lossOfAllByHand_12 (by decide) (fun hc => ?_) (fun hc => ?_)
    · have hf := ifp hc hf
      refine j_iload_n hX dX3_lossOfAllByHand_34 rfl ?_
      cases hf
      exact j_ret hX hr hlk rfl dX3_lossOfAllByHand_35
    · have hf := ifn hc hf
      refine j_iload_n hX dX3_lossOfAllByHand_15 rfl ?_
      refine j_aload_n hX dX3_lossOfAllByHand_16 rfl ?_
      refine j_aload_n hX dX3_lossOfAllByHand_17 rfl ?_
      refine j_aload_n hX dX3_lossOfAllByHand_18 rfl ?_
      refine j_iload_n hX dX3_lossOfAllByHand_19 rfl ?_
      refine jpc (b := 20) rfl ?_
      obtain ⟨v3, hh4, hf⟩ := bd1 hf
      refine j_cV1i hX lk_X3_42 kX8 dX3_lossOfAllByHand_20 h1.1 (okX8_inDrawer hG h1 hh4) rfl rfl (rmm (by omega) hRf hRl (by decide)) (Nat.le_of_ble_eq_true rfl) (Nat.le_add_right _ _) (Nat.le_add_right _ _) ?_
      obtain ⟨v5, i6, hh7, hf⟩ := bd2 hf
      refine j_cV2i hX lk_X3_48 kX3 dX3_lossOfAllByHand_23 (sh_23 hG) (okX3_lossByHand hG h1 hh7) rfl rfl (rmm (by omega) hRf hRl (by decide)) (Nat.le_of_ble_eq_true rfl) (Nat.le_add_right _ _) (Nat.le_add_right _ _) ?_
      refine j_iadd hX dX3_lossOfAllByHand_26 ?_
      refine j_istore_n hX dX3_lossOfAllByHand_27 (by decide) rfl ?_
      refine j_iinc hX dX3_lossOfAllByHand_28 rfl (congrArg (_ + ·) ic_1) (by decide) rfl ?_
      refine j_goto (tgt := 4) hX dX3_lossOfAllByHand_31 (by decide) ?_
      exact aJx (ih _ _ _ hG  hf) (And.intro rfl (And.intro rfl (And.intro rfl (And.intro rfl (rfl)))))
def fX3_lossOfAllByHand (p1 : Nat) (i : Nat → Nat → Int32) (rv : Nat → Nat → Option Nat) : Option ((Int32) × (Nat → Nat → Int32)) := fX3_lossOfAllByHand_4 p1 fuel 0 0 i rv
theorem kX3_lossOfAllByHand  {p1 : Nat} {vR : Int32} {iR : Nat → Nat → Int32} (hX : aX p s m args c RX3 cX3_lossOfAllByHand 4 D cA A ad0) (hr : meth.sig.returnType = (some .int)) (hlk : meth.locks = false) (hRf : 5 ≤ R.frames) (hRl : 64 * 5 ≤ R.locals) (h1 : isScn sh rv p1) (hG : aGood sh rv) (hf : fX3_lossOfAllByHand p1 i rv = some (vR, iR)) : aJ p l e R s m args below meth c (MQ below (aPost D cA ad0 A (sh, i0, lo0, rv0) (some (.int vR)) (sh, iR, lo, rv)) args s (sh.length - sh.length) (aSn sh - aSn sh) A) D cA A ad0 4 sh.length (aSn sh) 0 [some (.ref (100 + 23)), some (.ref (100 + p1)), none, none] [] (sh, i, lo, rv) := by
  unfold fX3_lossOfAllByHand at hf
  refine j_iconst hX dX3_lossOfAllByHand_0 ic_0 ?_
  refine j_istore_n hX dX3_lossOfAllByHand_1 (by decide) rfl ?_
  refine j_iconst hX dX3_lossOfAllByHand_2 ic_0 ?_
  refine j_istore_n hX dX3_lossOfAllByHand_3 (by decide) rfl ?_
  exact aJx (kX3_lossOfAllByHand_4 hX hr hlk hRf hRl h1 fuel _ _ _ hG  hf) (And.intro rfl (And.intro rfl (And.intro rfl (And.intro rfl (rfl)))))
theorem okX3_lossOfAllByHand {l : Launch} {sh : List aSh} {i : Nat → Nat → Int32} {lo : Nat → Nat → Int64} {rv : Nat → Nat → Option Nat}  {p1 : Nat} {vR : Int32} {iR : Nat → Nat → Int32} (hG : aGood sh rv) (h1 : isScn sh rv p1) (hf : fX3_lossOfAllByHand p1 i rv = some (vR, iR)) : aM l yX3_lossOfAllByHand cX3_lossOfAllByHand 4 (some .int) 5 [.ref (100 + 23), .ref (100 + p1)] (sh, i, lo, rv) (some (.int vR)) (sh, iR, lo, rv) :=
  aM_of (by decide) (Nat.le_of_ble_eq_true rfl) (Nat.le_refl _) (Nat.le_refl _) (fun p e s m args below meth c D cA A ad0 hX hr hlk hnm => kX3_lossOfAllByHand hX hr hlk (Nat.le_refl _) (Nat.le_refl _) h1 hG hf)
def fX11_houseHas_39 (x2 : Int32) (x4 : Int32) (x5 : Int32) (i : Nat → Nat → Int32) (rv : Nat → Nat → Option Nat) : Option ((Int32) × (Nat → Nat → Int32)) := if x4 = 1 then (bn2 (fX3_lossOfAllByHand 19 i rv) fun v5 i6 =>
    lt (x5 - ((v5 / (10 : Int32)) * x2)) fun t8 =>
    some (t8, i6)) else (some (x5, i))
theorem kX11_houseHas_39  {vR : Int32} {iR : Nat → Nat → Int32} (hX : aX p s m args c RX11 cX11_houseHas 6 D cA A ad0) (hr : meth.sig.returnType = (some .int)) (hlk : meth.locks = false) (hRf : 6 ≤ R.frames) (hRl : 64 * 6 ≤ R.locals) {x2 : Int32} {x4 : Int32} {x5 : Int32} (hG : aGood sh rv) (hf : fX11_houseHas_39 x2 x4 x5 i rv = some (vR, iR)) : aJ p l e R s m args below meth c (MQ below (aPost D cA ad0 A (sh, i0, lo0, rv0) (some (.int vR)) (sh, iR, lo, rv)) args s (sh.length - sh.length) (aSn sh - aSn sh) A) D cA A ad0 6 sh.length (aSn sh) 39 [some (.ref (100 + 0)), none, some (.int x2), none, some (.int x4), some (.int x5)] [] (sh, i, lo, rv) := by
  unfold fX11_houseHas_39 at hf
  refine j_iload hX dX11_houseHas_39 rfl ?_
  refine j_iconst hX dX11_houseHas_41 ic_1 ?_
  refine j_icmp_ne (tgt := 66) hX dX11_houseHas_42 (by decide) (fun hc => ?_) (fun hc => ?_)
  · have hf := ifn hc hf
    refine j_iload hX dX11_houseHas_66 rfl ?_
    cases hf
    exact j_ret hX hr hlk rfl dX11_houseHas_68
  · have hf := ifp hc hf
    refine j_iload hX dX11_houseHas_45 rfl ?_
    refine j_aload_n hX dX11_houseHas_47 rfl ?_
    refine j_getR (k := 6) hX kX11 (by decide) fk_X11_48 (rf_0_6 hG) dX11_houseHas_48 (sh_0 hG) rfl ?_
    refine j_aload_n hX dX11_houseHas_51 rfl ?_
    refine j_getR (k := 4) hX kX11 (by decide) fk_X11_36 (rf_0_4 hG) dX11_houseHas_52 (sh_0 hG) rfl ?_
    refine jpc (b := 55) rfl ?_
    obtain ⟨v5, i6, hh7, hf⟩ := bd2 hf
    refine j_cV1i hX lk_X11_385 kX3 dX11_houseHas_55 (sh_23 hG) (okX3_lossOfAllByHand hG (sc_19 hG) hh7) rfl rfl (rmm (by omega) hRf hRl (by decide)) (Nat.le_of_ble_eq_true rfl) (Nat.le_add_right _ _) (Nat.le_add_right _ _) ?_
    refine j_bipush hX dX11_houseHas_58 bp_10 ?_
    refine j_idiv hX dX11_houseHas_60 (by decide) ?_
    refine j_iload_n hX dX11_houseHas_61 rfl ?_
    refine j_imul hX dX11_houseHas_62 ?_
    refine j_isub hX dX11_houseHas_63 ?_
    refine jpc (b := 64) rfl ?_
    have hf := ltd hf
    refine j_istore hX dX11_houseHas_64 (by decide) rfl ?_
    refine j_iload hX dX11_houseHas_66 rfl ?_
    cases hf
    exact j_ret hX hr hlk rfl dX11_houseHas_68
def fX11_houseHas (a1 : Int32) (a2 : Int32) (a3 : Int32) (a4 : Int32) (i : Nat → Nat → Int32) (rv : Nat → Nat → Option Nat) : Option ((Int32) × (Nat → Nat → Int32)) := if a3 = 1 then (lt ((0 : Int32) - ((2 : Int32) * a2)) fun t1 =>
    if a4 = 0 then (bn1 (fX1_ofOfficer 15 a1 3 i) fun v2 =>
    lt (t1 + (v2 * (a2 - (1 : Int32)))) fun t4 =>
    fX11_houseHas_39 a2 a4 t4 i rv) else (fX11_houseHas_39 a2 a4 t1 i rv)) else (fX11_houseHas_39 a2 a4 0 i rv)
theorem kX11_houseHas  {vR : Int32} {iR : Nat → Nat → Int32} (hX : aX p s m args c RX11 cX11_houseHas 6 D cA A ad0) (hr : meth.sig.returnType = (some .int)) (hlk : meth.locks = false) (hRf : 6 ≤ R.frames) (hRl : 64 * 6 ≤ R.locals) {a1 : Int32} {a2 : Int32} {a3 : Int32} {a4 : Int32} (hG : aGood sh rv) (hf : fX11_houseHas a1 a2 a3 a4 i rv = some (vR, iR)) : aJ p l e R s m args below meth c (MQ below (aPost D cA ad0 A (sh, i0, lo0, rv0) (some (.int vR)) (sh, iR, lo, rv)) args s (sh.length - sh.length) (aSn sh - aSn sh) A) D cA A ad0 6 sh.length (aSn sh) 0 [some (.ref (100 + 0)), some (.int a1), some (.int a2), some (.int a3), some (.int a4), none] [] (sh, i, lo, rv) := by
  unfold fX11_houseHas at hf
  refine j_iconst hX dX11_houseHas_0 ic_0 ?_
  refine j_istore hX dX11_houseHas_1 (by decide) rfl ?_
  refine j_iload_n hX dX11_houseHas_3 rfl ?_
  refine j_iconst hX dX11_houseHas_4 ic_1 ?_
  refine j_icmp_ne (tgt := 39) hX dX11_houseHas_5 (by decide) (fun hc => ?_) (fun hc => ?_)
  · have hf := ifn hc hf
    exact aJx (kX11_houseHas_39 hX hr hlk hRf hRl hG  hf) (And.intro rfl (And.intro rfl (And.intro rfl (And.intro rfl (rfl)))))
  · have hf := ifp hc hf
    refine j_iload hX dX11_houseHas_8 rfl ?_
    refine j_iconst hX dX11_houseHas_10 ic_2 ?_
    refine j_iload_n hX dX11_houseHas_11 rfl ?_
    refine j_imul hX dX11_houseHas_12 ?_
    refine j_isub hX dX11_houseHas_13 ?_
    refine jpc (b := 14) rfl ?_
    have hf := ltd hf
    refine j_istore hX dX11_houseHas_14 (by decide) rfl ?_
    refine j_iload hX dX11_houseHas_16 rfl ?_
    refine j_if_ne (tgt := 39) hX dX11_houseHas_18 (by decide) (fun hc => ?_) (fun hc => ?_)
    · have hf := ifn hc hf
      exact aJx (kX11_houseHas_39 hX hr hlk hRf hRl hG  hf) (And.intro rfl (And.intro rfl (And.intro rfl (And.intro rfl (rfl)))))
    · have hf := ifp hc hf
      refine j_iload hX dX11_houseHas_21 rfl ?_
      refine j_aload_n hX dX11_houseHas_23 rfl ?_
      refine j_getR (k := 3) hX kX11 (by decide) fk_X11_30 (rf_0_3 hG) dX11_houseHas_24 (sh_0 hG) rfl ?_
      refine j_iload_n hX dX11_houseHas_27 rfl ?_
      refine j_iconst hX dX11_houseHas_28 ic_3 ?_
      refine jpc (b := 29) rfl ?_
      obtain ⟨v2, hh3, hf⟩ := bd1 hf
      refine j_cV2i hX lk_X11_165 kX1 dX11_houseHas_29 (sh_15 hG) (okX1_ofOfficer hG (cr_15 hG) hh3) rfl rfl (rmm (by omega) hRf hRl (by decide)) (Nat.le_of_ble_eq_true rfl) (Nat.le_add_right _ _) (Nat.le_add_right _ _) ?_
      refine j_iload_n hX dX11_houseHas_32 rfl ?_
      refine j_iconst hX dX11_houseHas_33 ic_1 ?_
      refine j_isub hX dX11_houseHas_34 ?_
      refine j_imul hX dX11_houseHas_35 ?_
      refine j_iadd hX dX11_houseHas_36 ?_
      refine jpc (b := 37) rfl ?_
      have hf := ltd hf
      refine j_istore hX dX11_houseHas_37 (by decide) rfl ?_
      exact aJx (kX11_houseHas_39 hX hr hlk hRf hRl hG  hf) (And.intro rfl (And.intro rfl (And.intro rfl (And.intro rfl (rfl)))))
theorem okX11_houseHas {l : Launch} {sh : List aSh} {i : Nat → Nat → Int32} {lo : Nat → Nat → Int64} {rv : Nat → Nat → Option Nat}  {a1 : Int32} {a2 : Int32} {a3 : Int32} {a4 : Int32} {vR : Int32} {iR : Nat → Nat → Int32} (hG : aGood sh rv) (hf : fX11_houseHas a1 a2 a3 a4 i rv = some (vR, iR)) : aM l yX11_houseHas cX11_houseHas 6 (some .int) 6 [.ref (100 + 0), .int a1, .int a2, .int a3, .int a4] (sh, i, lo, rv) (some (.int vR)) (sh, iR, lo, rv) :=
  aM_of (by decide) (Nat.le_of_ble_eq_true rfl) (Nat.le_refl _) (Nat.le_refl _) (fun p e s m args below meth c D cA A ad0 hX hr hlk hnm => kX11_houseHas hX hr hlk (Nat.le_refl _) (Nat.le_refl _) hG hf)
def fX11_officerHas (a0 : Int32) (a1 : Int32) (a2 : Int32) : Option ((Int32)) := some ((((((3 : Int32) * a0) * a1) + (a0 * a2)) - ((((2 : Int32) * a0) * a1) * a2)))
theorem kX11_officerHas  {vR : Int32} (hX : aX p s m args c RX11 cX11_officerHas 3 D cA A ad0) (hr : meth.sig.returnType = (some .int)) (hlk : meth.locks = false) (hRf : 0 ≤ R.frames) (hRl : 64 * 0 ≤ R.locals) {a0 : Int32} {a1 : Int32} {a2 : Int32} (hG : aGood sh rv) (hf : fX11_officerHas a0 a1 a2 = some (vR)) : aJ p l e R s m args below meth c (MQ below (aPost D cA ad0 A (sh, i0, lo0, rv0) (some (.int vR)) (sh, i, lo, rv)) args s (sh.length - sh.length) (aSn sh - aSn sh) A) D cA A ad0 3 sh.length (aSn sh) 0 [some (.int a0), some (.int a1), some (.int a2)] [] (sh, i, lo, rv) := by
  unfold fX11_officerHas at hf
  refine j_iconst hX dX11_officerHas_0 ic_3 ?_
  refine j_iload_n hX dX11_officerHas_1 rfl ?_
  refine j_imul hX dX11_officerHas_2 ?_
  refine j_iload_n hX dX11_officerHas_3 rfl ?_
  refine j_imul hX dX11_officerHas_4 ?_
  refine jpc (b := 5) rfl ?_
  refine j_iload_n hX dX11_officerHas_5 rfl ?_
  refine j_iload_n hX dX11_officerHas_6 rfl ?_
  refine j_imul hX dX11_officerHas_7 ?_
  refine j_iadd hX dX11_officerHas_8 ?_
  refine j_iconst hX dX11_officerHas_9 ic_2 ?_
  refine j_iload_n hX dX11_officerHas_10 rfl ?_
  refine jpc (b := 11) rfl ?_
  refine j_imul hX dX11_officerHas_11 ?_
  refine j_iload_n hX dX11_officerHas_12 rfl ?_
  refine j_imul hX dX11_officerHas_13 ?_
  refine j_iload_n hX dX11_officerHas_14 rfl ?_
  refine j_imul hX dX11_officerHas_15 ?_
  refine j_isub hX dX11_officerHas_16 ?_
  refine jpc (b := 17) rfl ?_
  cases hf
  exact j_ret hX hr hlk rfl dX11_officerHas_17
theorem okX11_officerHas {l : Launch} {sh : List aSh} {i : Nat → Nat → Int32} {lo : Nat → Nat → Int64} {rv : Nat → Nat → Option Nat}  {a0 : Int32} {a1 : Int32} {a2 : Int32} {vR : Int32} (hG : aGood sh rv) (hf : fX11_officerHas a0 a1 a2 = some (vR)) : aM l yX11_officerHas cX11_officerHas 3 (some .int) 0 [.int a0, .int a1, .int a2] (sh, i, lo, rv) (some (.int vR)) (sh, i, lo, rv) :=
  aM_of (by decide) (Nat.le_of_ble_eq_true rfl) (Nat.le_refl _) (Nat.le_refl _) (fun p e s m args below meth c D cA A ad0 hX hr hlk hnm => kX11_officerHas hX hr hlk (Nat.le_refl _) (Nat.le_refl _) hG hf)
def fX11_favour_25 (x1 : Int32) (x2 : Int32) (x3 : Int32) (x4 : Int32) (x5 : Int32) (s0 : Int32) (i : Nat → Nat → Int32) (rv : Nat → Nat → Option Nat) : Option ((Int32) × (Nat → Nat → Int32)) := bn1 (fX1_hasOfficer 15 x1 i) fun v1 =>
    if v1 = 0 then (some ((-1000000), i)) else (if x2 < 1 then (some ((-1000000), i)) else (if 9 < x2 then (some ((-1000000), i)) else (if s0 = 0 then (some ((-1000000), i)) else (if x5 < 0 then (some ((-1000000), i)) else (if x5 ≤ 1 then (if x5 = 0 then (bn2 (fX11_houseHas x1 x2 x3 x4 i rv) fun v5 i6 =>
    some (v5, i6)) else (bn1 (fX11_officerHas x2 x3 x4) fun v3 =>
    some (v3, i))) else (some ((-1000000), i)))))))
theorem kX11_favour_25  {vR : Int32} {iR : Nat → Nat → Int32} (hX : aX p s m args c RX11 cX11_favour 7 D cA A ad0) (hr : meth.sig.returnType = (some .int)) (hlk : meth.locks = false) (hRf : 7 ≤ R.frames) (hRl : 64 * 7 ≤ R.locals) {x1 : Int32} {x2 : Int32} {x3 : Int32} {x4 : Int32} {x5 : Int32} {s0 : Int32} (hG : aGood sh rv) (hf : fX11_favour_25 x1 x2 x3 x4 x5 s0 i rv = some (vR, iR)) : aJ p l e R s m args below meth c (MQ below (aPost D cA ad0 A (sh, i0, lo0, rv0) (some (.int vR)) (sh, iR, lo, rv)) args s (sh.length - sh.length) (aSn sh - aSn sh) A) D cA A ad0 7 sh.length (aSn sh) 25 [some (.ref (100 + 0)), some (.int x1), some (.int x2), some (.int x3), some (.int x4), some (.int x5), none] [.int s0] (sh, i, lo, rv) := by
  unfold fX11_favour_25 at hf
  refine j_istore hX dX11_favour_25 (by decide) rfl ?_
  refine j_aload_n hX dX11_favour_27 rfl ?_
  refine j_getR (k := 3) hX kX11 (by decide) fk_X11_30 (rf_0_3 hG) dX11_favour_28 (sh_0 hG) rfl ?_
  refine j_iload_n hX dX11_favour_31 rfl ?_
  obtain ⟨v1, hh2, hf⟩ := bd1 hf
  refine j_cV1i hX lk_X11_162 kX1 dX11_favour_32 (sh_15 hG) (okX1_hasOfficer hG (cr_15 hG) hh2) rfl rfl (rmm (by omega) hRf hRl (by decide)) (Nat.le_of_ble_eq_true rfl) (Nat.le_add_right _ _) (Nat.le_add_right _ _) ?_
  refine jpc (b := 35) rfl ?_
  refine j_if_eq (tgt := 65) hX dX11_favour_35 (by decide) (fun hc => ?_) (fun hc => ?_)
  · have hf := ifp hc hf
    refine j_ldc hX kc_X11_219 dX11_favour_65 ?_
    cases hf
    exact j_ret hX hr hlk rfl dX11_favour_67
  · have hf := ifn hc hf
    refine j_iload_n hX dX11_favour_38 rfl ?_
    refine j_iconst hX dX11_favour_39 ic_1 ?_
    refine j_icmp_lt (tgt := 65) hX dX11_favour_40 (by decide) (fun hc => ?_) (fun hc => ?_)
    · have hf := ifp hc hf
      refine j_ldc hX kc_X11_219 dX11_favour_65 ?_
      cases hf
      exact j_ret hX hr hlk rfl dX11_favour_67
    · have hf := ifn hc hf
      refine j_iload_n hX dX11_favour_43 rfl ?_
      refine j_bipush hX dX11_favour_44 bp_9 ?_
      refine j_icmp_gt (tgt := 65) hX dX11_favour_46 (by decide) (fun hc => ?_) (fun hc => ?_)
      · have hf := ifp hc hf
        refine j_ldc hX kc_X11_219 dX11_favour_65 ?_
        cases hf
        exact j_ret hX hr hlk rfl dX11_favour_67
      · have hf := ifn hc hf
        refine j_iload hX dX11_favour_49 rfl ?_
        refine j_if_eq (tgt := 65) hX dX11_favour_51 (by decide) (fun hc => ?_) (fun hc => ?_)
        · have hf := ifp hc hf
          refine j_ldc hX kc_X11_219 dX11_favour_65 ?_
          cases hf
          exact j_ret hX hr hlk rfl dX11_favour_67
        · have hf := ifn hc hf
          refine j_iload hX dX11_favour_54 rfl ?_
          refine j_if_lt (tgt := 65) hX dX11_favour_56 (by decide) (fun hc => ?_) (fun hc => ?_)
          · have hf := ifp hc hf
            refine j_ldc hX kc_X11_219 dX11_favour_65 ?_
            cases hf
            exact j_ret hX hr hlk rfl dX11_favour_67
          · have hf := ifn hc hf
            refine j_iload hX dX11_favour_59 rfl ?_
            refine j_iconst hX dX11_favour_61 ic_1 ?_
            refine j_icmp_le (tgt := 68) hX dX11_favour_62 (by decide) (fun hc => ?_) (fun hc => ?_)
            · have hf := ifp hc hf
              refine j_iload hX dX11_favour_68 rfl ?_
              refine j_if_ne (tgt := 85) hX dX11_favour_70 (by decide) (fun hc => ?_) (fun hc => ?_)
              · have hf := ifn hc hf
                refine j_iload_n hX dX11_favour_85 rfl ?_
                refine j_iload_n hX dX11_favour_86 rfl ?_
                refine j_iload hX dX11_favour_87 rfl ?_
                obtain ⟨v3, hh4, hf⟩ := bd1 hf
                refine j_cS3i hX lk_X11_296 dX11_favour_89 (okX11_officerHas hG hh4) rfl rfl (rmm (by omega) hRf hRl (by decide)) (Nat.le_of_ble_eq_true rfl) (Nat.le_add_right _ _) (Nat.le_add_right _ _) ?_
                cases hf
                exact j_ret hX hr hlk rfl dX11_favour_92
              · have hf := ifp hc hf
                refine j_aload_n hX dX11_favour_73 rfl ?_
                refine j_iload_n hX dX11_favour_74 rfl ?_
                refine j_iload_n hX dX11_favour_75 rfl ?_
                refine j_iload_n hX dX11_favour_76 rfl ?_
                refine j_iload hX dX11_favour_77 rfl ?_
                refine jpc (b := 79) rfl ?_
                obtain ⟨v5, i6, hh7, hf⟩ := bd2 hf
                refine j_cV4i hX lk_X11_292 kX11 dX11_favour_79 (sh_0 hG) (okX11_houseHas hG hh7) rfl rfl (rmm (by omega) hRf hRl (by decide)) (Nat.le_of_ble_eq_true rfl) (Nat.le_add_right _ _) (Nat.le_add_right _ _) ?_
                refine j_goto (tgt := 92) hX dX11_favour_82 (by decide) ?_
                cases hf
                exact j_ret hX hr hlk rfl dX11_favour_92
            · have hf := ifn hc hf
              refine j_ldc hX kc_X11_219 dX11_favour_65 ?_
              cases hf
              exact j_ret hX hr hlk rfl dX11_favour_67
def fX11_favour_20 (x1 : Int32) (x2 : Int32) (x3 : Int32) (x4 : Int32) (x5 : Int32) (i : Nat → Nat → Int32) (rv : Nat → Nat → Option Nat) : Option ((Int32) × (Nat → Nat → Int32)) := fX11_favour_25 x1 x2 x3 x4 x5 1 i rv
theorem kX11_favour_20  {vR : Int32} {iR : Nat → Nat → Int32} (hX : aX p s m args c RX11 cX11_favour 7 D cA A ad0) (hr : meth.sig.returnType = (some .int)) (hlk : meth.locks = false) (hRf : 7 ≤ R.frames) (hRl : 64 * 7 ≤ R.locals) {x1 : Int32} {x2 : Int32} {x3 : Int32} {x4 : Int32} {x5 : Int32} (hG : aGood sh rv) (hf : fX11_favour_20 x1 x2 x3 x4 x5 i rv = some (vR, iR)) : aJ p l e R s m args below meth c (MQ below (aPost D cA ad0 A (sh, i0, lo0, rv0) (some (.int vR)) (sh, iR, lo, rv)) args s (sh.length - sh.length) (aSn sh - aSn sh) A) D cA A ad0 7 sh.length (aSn sh) 20 [some (.ref (100 + 0)), some (.int x1), some (.int x2), some (.int x3), some (.int x4), some (.int x5), none] [] (sh, i, lo, rv) := by
  unfold fX11_favour_20 at hf
  refine j_iconst hX dX11_favour_20 ic_1 ?_
  refine j_goto (tgt := 25) hX dX11_favour_21 (by decide) ?_
  exact aJx (kX11_favour_25 hX hr hlk hRf hRl hG  hf) (And.intro rfl (And.intro rfl (And.intro rfl (And.intro rfl (And.intro rfl (And.intro rfl (rfl)))))))
def fX11_favour_24 (x1 : Int32) (x2 : Int32) (x3 : Int32) (x4 : Int32) (x5 : Int32) (i : Nat → Nat → Int32) (rv : Nat → Nat → Option Nat) : Option ((Int32) × (Nat → Nat → Int32)) := fX11_favour_25 x1 x2 x3 x4 x5 0 i rv
theorem kX11_favour_24  {vR : Int32} {iR : Nat → Nat → Int32} (hX : aX p s m args c RX11 cX11_favour 7 D cA A ad0) (hr : meth.sig.returnType = (some .int)) (hlk : meth.locks = false) (hRf : 7 ≤ R.frames) (hRl : 64 * 7 ≤ R.locals) {x1 : Int32} {x2 : Int32} {x3 : Int32} {x4 : Int32} {x5 : Int32} (hG : aGood sh rv) (hf : fX11_favour_24 x1 x2 x3 x4 x5 i rv = some (vR, iR)) : aJ p l e R s m args below meth c (MQ below (aPost D cA ad0 A (sh, i0, lo0, rv0) (some (.int vR)) (sh, iR, lo, rv)) args s (sh.length - sh.length) (aSn sh - aSn sh) A) D cA A ad0 7 sh.length (aSn sh) 24 [some (.ref (100 + 0)), some (.int x1), some (.int x2), some (.int x3), some (.int x4), some (.int x5), none] [] (sh, i, lo, rv) := by
  unfold fX11_favour_24 at hf
  refine j_iconst hX dX11_favour_24 ic_0 ?_
  exact aJx (kX11_favour_25 hX hr hlk hRf hRl hG  hf) (And.intro rfl (And.intro rfl (And.intro rfl (And.intro rfl (And.intro rfl (And.intro rfl (rfl)))))))
def fX11_favour_9 (x1 : Int32) (x2 : Int32) (x3 : Int32) (x4 : Int32) (x5 : Int32) (i : Nat → Nat → Int32) (rv : Nat → Nat → Option Nat) : Option ((Int32) × (Nat → Nat → Int32)) := if x4 = 0 then (fX11_favour_20 x1 x2 x3 x4 x5 i rv) else (if x4 = 1 then (fX11_favour_20 x1 x2 x3 x4 x5 i rv) else (fX11_favour_24 x1 x2 x3 x4 x5 i rv))
theorem kX11_favour_9  {vR : Int32} {iR : Nat → Nat → Int32} (hX : aX p s m args c RX11 cX11_favour 7 D cA A ad0) (hr : meth.sig.returnType = (some .int)) (hlk : meth.locks = false) (hRf : 7 ≤ R.frames) (hRl : 64 * 7 ≤ R.locals) {x1 : Int32} {x2 : Int32} {x3 : Int32} {x4 : Int32} {x5 : Int32} (hG : aGood sh rv) (hf : fX11_favour_9 x1 x2 x3 x4 x5 i rv = some (vR, iR)) : aJ p l e R s m args below meth c (MQ below (aPost D cA ad0 A (sh, i0, lo0, rv0) (some (.int vR)) (sh, iR, lo, rv)) args s (sh.length - sh.length) (aSn sh - aSn sh) A) D cA A ad0 7 sh.length (aSn sh) 9 [some (.ref (100 + 0)), some (.int x1), some (.int x2), some (.int x3), some (.int x4), some (.int x5), none] [] (sh, i, lo, rv) := by
  unfold fX11_favour_9 at hf
  refine j_iload hX dX11_favour_9 rfl ?_
  refine j_if_eq (tgt := 20) hX dX11_favour_11 (by decide) (fun hc => ?_) (fun hc => ?_)
  · have hf := ifp hc hf
    exact aJx (kX11_favour_20 hX hr hlk hRf hRl hG  hf) (And.intro rfl (And.intro rfl (And.intro rfl (And.intro rfl (And.intro rfl (And.intro rfl (rfl)))))))
  · have hf := ifn hc hf
    refine j_iload hX dX11_favour_14 rfl ?_
    refine j_iconst hX dX11_favour_16 ic_1 ?_
    refine j_icmp_ne (tgt := 24) hX dX11_favour_17 (by decide) (fun hc => ?_) (fun hc => ?_)
    · have hf := ifn hc hf
      exact aJx (kX11_favour_24 hX hr hlk hRf hRl hG  hf) (And.intro rfl (And.intro rfl (And.intro rfl (And.intro rfl (And.intro rfl (And.intro rfl (rfl)))))))
    · have hf := ifp hc hf
      exact aJx (kX11_favour_20 hX hr hlk hRf hRl hG  hf) (And.intro rfl (And.intro rfl (And.intro rfl (And.intro rfl (And.intro rfl (And.intro rfl (rfl)))))))
def fX11_favour (a1 : Int32) (a2 : Int32) (a3 : Int32) (a4 : Int32) (a5 : Int32) (i : Nat → Nat → Int32) (rv : Nat → Nat → Option Nat) : Option ((Int32) × (Nat → Nat → Int32)) := if a3 = 0 then (fX11_favour_9 a1 a2 a3 a4 a5 i rv) else (if a3 = 1 then (fX11_favour_9 a1 a2 a3 a4 a5 i rv) else (fX11_favour_24 a1 a2 a3 a4 a5 i rv))
theorem kX11_favour  {vR : Int32} {iR : Nat → Nat → Int32} (hX : aX p s m args c RX11 cX11_favour 7 D cA A ad0) (hr : meth.sig.returnType = (some .int)) (hlk : meth.locks = false) (hRf : 7 ≤ R.frames) (hRl : 64 * 7 ≤ R.locals) {a1 : Int32} {a2 : Int32} {a3 : Int32} {a4 : Int32} {a5 : Int32} (hG : aGood sh rv) (hf : fX11_favour a1 a2 a3 a4 a5 i rv = some (vR, iR)) : aJ p l e R s m args below meth c (MQ below (aPost D cA ad0 A (sh, i0, lo0, rv0) (some (.int vR)) (sh, iR, lo, rv)) args s (sh.length - sh.length) (aSn sh - aSn sh) A) D cA A ad0 7 sh.length (aSn sh) 0 [some (.ref (100 + 0)), some (.int a1), some (.int a2), some (.int a3), some (.int a4), some (.int a5), none] [] (sh, i, lo, rv) := by
  unfold fX11_favour at hf
  refine j_iload_n hX dX11_favour_0 rfl ?_
  refine j_if_eq (tgt := 9) hX dX11_favour_1 (by decide) (fun hc => ?_) (fun hc => ?_)
  · have hf := ifp hc hf
    exact aJx (kX11_favour_9 hX hr hlk hRf hRl hG  hf) (And.intro rfl (And.intro rfl (And.intro rfl (And.intro rfl (And.intro rfl (And.intro rfl (rfl)))))))
  · have hf := ifn hc hf
    refine j_iload_n hX dX11_favour_4 rfl ?_
    refine j_iconst hX dX11_favour_5 ic_1 ?_
    refine j_icmp_ne (tgt := 24) hX dX11_favour_6 (by decide) (fun hc => ?_) (fun hc => ?_)
    · have hf := ifn hc hf
      exact aJx (kX11_favour_24 hX hr hlk hRf hRl hG  hf) (And.intro rfl (And.intro rfl (And.intro rfl (And.intro rfl (And.intro rfl (And.intro rfl (rfl)))))))
    · have hf := ifp hc hf
      exact aJx (kX11_favour_9 hX hr hlk hRf hRl hG  hf) (And.intro rfl (And.intro rfl (And.intro rfl (And.intro rfl (And.intro rfl (And.intro rfl (rfl)))))))
theorem okX11_favour {l : Launch} {sh : List aSh} {i : Nat → Nat → Int32} {lo : Nat → Nat → Int64} {rv : Nat → Nat → Option Nat}  {a1 : Int32} {a2 : Int32} {a3 : Int32} {a4 : Int32} {a5 : Int32} {vR : Int32} {iR : Nat → Nat → Int32} (hG : aGood sh rv) (hf : fX11_favour a1 a2 a3 a4 a5 i rv = some (vR, iR)) : aM l yX11_favour cX11_favour 7 (some .int) 7 [.ref (100 + 0), .int a1, .int a2, .int a3, .int a4, .int a5] (sh, i, lo, rv) (some (.int vR)) (sh, iR, lo, rv) :=
  aM_of (by decide) (Nat.le_of_ble_eq_true rfl) (Nat.le_refl _) (Nat.le_refl _) (fun p e s m args below meth c D cA A ad0 hX hr hlk hnm => kX11_favour hX hr hlk (Nat.le_refl _) (Nat.le_refl _) hG hf)
def fX11_rests_121 (kh30 : Int32 → Int32 → Int32 → Int32 → Int32 → (Nat → Nat → Int32) → (Nat → Nat → Option Nat) → Option ((Int32) × (Nat → Nat → Int32))) (kh39 : Int32 → Int32 → Int32 → Int32 → Int32 → Int32 → (Nat → Nat → Int32) → (Nat → Nat → Option Nat) → Option ((Int32) × (Nat → Nat → Int32))) (x1 : Int32) (x2 : Int32) (x3 : Int32) (x4 : Int32) (x5 : Int32) (x6 : Int32) (i : Nat → Nat → Int32) (rv : Nat → Nat → Option Nat) : Option ((Int32) × (Nat → Nat → Int32)) := kh39 x1 x2 x3 x4 x5 (x6 + 1) i rv
theorem kX11_rests_121  {vR : Int32} {iR : Nat → Nat → Int32} (hX : aX p s m args c RX11 cX11_rests 8 D cA A ad0) (hr : meth.sig.returnType = (some .int)) (hlk : meth.locks = false) (hRf : 7 ≤ R.frames) (hRl : 64 * 7 ≤ R.locals) {kh30 : Int32 → Int32 → Int32 → Int32 → Int32 → (Nat → Nat → Int32) → (Nat → Nat → Option Nat) → Option ((Int32) × (Nat → Nat → Int32))} {kh39 : Int32 → Int32 → Int32 → Int32 → Int32 → Int32 → (Nat → Nat → Int32) → (Nat → Nat → Option Nat) → Option ((Int32) × (Nat → Nat → Int32))} (Hkh30 : ∀ (x1 : Int32) (x2 : Int32) (x3 : Int32) (x4 : Int32) (x5 : Int32) (i : Nat → Nat → Int32), aGood sh rv → kh30 x1 x2 x3 x4 x5 i rv = some (vR, iR) → aJ p l e R s m args below meth c (MQ below (aPost D cA ad0 A (sh, i0, lo0, rv0) (some (.int vR)) (sh, iR, lo, rv)) args s (sh.length - sh.length) (aSn sh - aSn sh) A) D cA A ad0 8 sh.length (aSn sh) 30 [some (.ref (100 + 0)), some (.int x1), some (.int x2), some (.int x3), some (.int x4), some (.int x5), none, none] [] (sh, i, lo, rv)) (Hkh39 : ∀ (x1 : Int32) (x2 : Int32) (x3 : Int32) (x4 : Int32) (x5 : Int32) (x6 : Int32) (i : Nat → Nat → Int32), aGood sh rv → kh39 x1 x2 x3 x4 x5 x6 i rv = some (vR, iR) → aJ p l e R s m args below meth c (MQ below (aPost D cA ad0 A (sh, i0, lo0, rv0) (some (.int vR)) (sh, iR, lo, rv)) args s (sh.length - sh.length) (aSn sh - aSn sh) A) D cA A ad0 8 sh.length (aSn sh) 39 [some (.ref (100 + 0)), some (.int x1), some (.int x2), some (.int x3), some (.int x4), some (.int x5), some (.int x6), none] [] (sh, i, lo, rv)) {x1 : Int32} {x2 : Int32} {x3 : Int32} {x4 : Int32} {x5 : Int32} {x6 : Int32} (hG : aGood sh rv) (hf : fX11_rests_121 kh30 kh39 x1 x2 x3 x4 x5 x6 i rv = some (vR, iR)) : aJ p l e R s m args below meth c (MQ below (aPost D cA ad0 A (sh, i0, lo0, rv0) (some (.int vR)) (sh, iR, lo, rv)) args s (sh.length - sh.length) (aSn sh - aSn sh) A) D cA A ad0 8 sh.length (aSn sh) 121 [some (.ref (100 + 0)), some (.int x1), some (.int x2), some (.int x3), some (.int x4), some (.int x5), some (.int x6), none] [] (sh, i, lo, rv) := by
  unfold fX11_rests_121 at hf
  refine j_iinc hX dX11_rests_121 rfl (congrArg (_ + ·) ic_1) (by decide) rfl ?_
  refine j_goto (tgt := 39) hX dX11_rests_124 (by decide) ?_
  exact aJx (Hkh39 _ _ _ _ _ _ _ hG  hf) (And.intro rfl (And.intro rfl (And.intro rfl (And.intro rfl (And.intro rfl (And.intro rfl (And.intro rfl (rfl))))))))
def fX11_rests_75 (kh30 : Int32 → Int32 → Int32 → Int32 → Int32 → (Nat → Nat → Int32) → (Nat → Nat → Option Nat) → Option ((Int32) × (Nat → Nat → Int32))) (kh39 : Int32 → Int32 → Int32 → Int32 → Int32 → Int32 → (Nat → Nat → Int32) → (Nat → Nat → Option Nat) → Option ((Int32) × (Nat → Nat → Int32))) (x1 : Int32) (x2 : Int32) (x3 : Int32) (x4 : Int32) (x5 : Int32) (x6 : Int32) (s0 : Int32) (i : Nat → Nat → Int32) (rv : Nat → Nat → Option Nat) : Option ((Int32) × (Nat → Nat → Int32)) := if s0 = 0 then (fX11_rests_121 kh30 kh39 x1 x2 x3 x4 x5 x6 i rv) else (bn1 (fX11_officerHas x2 x5 x6) fun v9 =>
    bn1 (fX11_officerHas x2 x5 ((1 : Int32) - x6)) fun v11 =>
    if v9 < v11 then (fX11_rests_121 kh30 kh39 x1 x2 x3 x4 x5 x6 i rv) else (if x4 = x3 then (some ((((10 : Int32) * x5) + x6), i)) else (fX11_rests_121 kh30 kh39 x1 x2 x3 (x4 + 1) x5 x6 i rv)))
theorem kX11_rests_75  {vR : Int32} {iR : Nat → Nat → Int32} (hX : aX p s m args c RX11 cX11_rests 8 D cA A ad0) (hr : meth.sig.returnType = (some .int)) (hlk : meth.locks = false) (hRf : 7 ≤ R.frames) (hRl : 64 * 7 ≤ R.locals) {kh30 : Int32 → Int32 → Int32 → Int32 → Int32 → (Nat → Nat → Int32) → (Nat → Nat → Option Nat) → Option ((Int32) × (Nat → Nat → Int32))} {kh39 : Int32 → Int32 → Int32 → Int32 → Int32 → Int32 → (Nat → Nat → Int32) → (Nat → Nat → Option Nat) → Option ((Int32) × (Nat → Nat → Int32))} (Hkh30 : ∀ (x1 : Int32) (x2 : Int32) (x3 : Int32) (x4 : Int32) (x5 : Int32) (i : Nat → Nat → Int32), aGood sh rv → kh30 x1 x2 x3 x4 x5 i rv = some (vR, iR) → aJ p l e R s m args below meth c (MQ below (aPost D cA ad0 A (sh, i0, lo0, rv0) (some (.int vR)) (sh, iR, lo, rv)) args s (sh.length - sh.length) (aSn sh - aSn sh) A) D cA A ad0 8 sh.length (aSn sh) 30 [some (.ref (100 + 0)), some (.int x1), some (.int x2), some (.int x3), some (.int x4), some (.int x5), none, none] [] (sh, i, lo, rv)) (Hkh39 : ∀ (x1 : Int32) (x2 : Int32) (x3 : Int32) (x4 : Int32) (x5 : Int32) (x6 : Int32) (i : Nat → Nat → Int32), aGood sh rv → kh39 x1 x2 x3 x4 x5 x6 i rv = some (vR, iR) → aJ p l e R s m args below meth c (MQ below (aPost D cA ad0 A (sh, i0, lo0, rv0) (some (.int vR)) (sh, iR, lo, rv)) args s (sh.length - sh.length) (aSn sh - aSn sh) A) D cA A ad0 8 sh.length (aSn sh) 39 [some (.ref (100 + 0)), some (.int x1), some (.int x2), some (.int x3), some (.int x4), some (.int x5), some (.int x6), none] [] (sh, i, lo, rv)) {x1 : Int32} {x2 : Int32} {x3 : Int32} {x4 : Int32} {x5 : Int32} {x6 : Int32} {s0 : Int32} (hG : aGood sh rv) (hf : fX11_rests_75 kh30 kh39 x1 x2 x3 x4 x5 x6 s0 i rv = some (vR, iR)) : aJ p l e R s m args below meth c (MQ below (aPost D cA ad0 A (sh, i0, lo0, rv0) (some (.int vR)) (sh, iR, lo, rv)) args s (sh.length - sh.length) (aSn sh - aSn sh) A) D cA A ad0 8 sh.length (aSn sh) 75 [some (.ref (100 + 0)), some (.int x1), some (.int x2), some (.int x3), some (.int x4), some (.int x5), some (.int x6), none] [.int s0] (sh, i, lo, rv) := by
  unfold fX11_rests_75 at hf
  refine j_istore hX dX11_rests_75 (by decide) rfl ?_
  refine j_iload hX dX11_rests_77 rfl ?_
  refine j_if_eq (tgt := 121) hX dX11_rests_79 (by decide) (fun hc => ?_) (fun hc => ?_)
  · have hf := ifp hc hf
    exact aJx (kX11_rests_121 hX hr hlk hRf hRl Hkh30 Hkh39 hG  hf) (And.intro rfl (And.intro rfl (And.intro rfl (And.intro rfl (And.intro rfl (And.intro rfl (And.intro rfl (rfl))))))))
  · have hf := ifn hc hf
    refine j_iload_n hX dX11_rests_82 rfl ?_
    refine j_iload hX dX11_rests_83 rfl ?_
    refine j_iload hX dX11_rests_85 rfl ?_
    obtain ⟨v9, hh10, hf⟩ := bd1 hf
    refine j_cS3i hX lk_X11_296 dX11_rests_87 (okX11_officerHas hG hh10) rfl rfl (rmm (by omega) hRf hRl (by decide)) (Nat.le_of_ble_eq_true rfl) (Nat.le_add_right _ _) (Nat.le_add_right _ _) ?_
    refine j_iload_n hX dX11_rests_90 rfl ?_
    refine jpc (b := 91) rfl ?_
    refine j_iload hX dX11_rests_91 rfl ?_
    refine j_iconst hX dX11_rests_93 ic_1 ?_
    refine j_iload hX dX11_rests_94 rfl ?_
    refine j_isub hX dX11_rests_96 ?_
    obtain ⟨v11, hh12, hf⟩ := bd1 hf
    refine j_cS3i hX lk_X11_296 dX11_rests_97 (okX11_officerHas hG hh12) rfl rfl (rmm (by omega) hRf hRl (by decide)) (Nat.le_of_ble_eq_true rfl) (Nat.le_add_right _ _) (Nat.le_add_right _ _) ?_
    refine j_icmp_lt (tgt := 121) hX dX11_rests_100 (by decide) (fun hc => ?_) (fun hc => ?_)
    · have hf := ifp hc hf
      exact aJx (kX11_rests_121 hX hr hlk hRf hRl Hkh30 Hkh39 hG  hf) (And.intro rfl (And.intro rfl (And.intro rfl (And.intro rfl (And.intro rfl (And.intro rfl (And.intro rfl (rfl))))))))
    · have hf := ifn hc hf
      refine j_iload hX dX11_rests_103 rfl ?_
      refine j_iload_n hX dX11_rests_105 rfl ?_
      refine j_icmp_ne (tgt := 118) hX dX11_rests_106 (by decide) (fun hc => ?_) (fun hc => ?_)
      · have hf := ifn hc hf
        refine j_iinc hX dX11_rests_118 rfl (congrArg (_ + ·) ic_1) (by decide) rfl ?_
        exact aJx (kX11_rests_121 hX hr hlk hRf hRl Hkh30 Hkh39 hG  hf) (And.intro rfl (And.intro rfl (And.intro rfl (And.intro rfl (And.intro rfl (And.intro rfl (And.intro rfl (rfl))))))))
      · have hf := ifp hc hf
        refine j_bipush hX dX11_rests_109 bp_10 ?_
        refine j_iload hX dX11_rests_111 rfl ?_
        refine j_imul hX dX11_rests_113 ?_
        refine j_iload hX dX11_rests_114 rfl ?_
        refine j_iadd hX dX11_rests_116 ?_
        refine jpc (b := 117) rfl ?_
        cases hf
        exact j_ret hX hr hlk rfl dX11_rests_117
def fX11_rests_39 (kh30 : Int32 → Int32 → Int32 → Int32 → Int32 → (Nat → Nat → Int32) → (Nat → Nat → Option Nat) → Option ((Int32) × (Nat → Nat → Int32))) : Nat → Int32 → Int32 → Int32 → Int32 → Int32 → Int32 → (Nat → Nat → Int32) → (Nat → Nat → Option Nat) → Option ((Int32) × (Nat → Nat → Int32))
  | 0, _, _, _, _, _, _, _, _ => none
  | n + 1, x1, x2, x3, x4, x5, x6, i, rv => if 1 < x6 then (kh30 x1 x2 x3 x4 (x5 + 1) i rv) else (bn2 (fX11_houseHas x1 x2 x5 x6 i rv) fun v3 i4 =>
    bn2 (fX11_houseHas x1 x2 ((1 : Int32) - x5) x6 i4 rv) fun v6 i7 =>
    if v3 < v6 then (fX11_rests_75 kh30 (fX11_rests_39 kh30 n) x1 x2 x3 x4 x5 x6 0 i7 rv) else (fX11_rests_75 kh30 (fX11_rests_39 kh30 n) x1 x2 x3 x4 x5 x6 1 i7 rv))
theorem kX11_rests_39  {vR : Int32} {iR : Nat → Nat → Int32} (hX : aX p s m args c RX11 cX11_rests 8 D cA A ad0) (hr : meth.sig.returnType = (some .int)) (hlk : meth.locks = false) (hRf : 7 ≤ R.frames) (hRl : 64 * 7 ≤ R.locals) {kh30 : Int32 → Int32 → Int32 → Int32 → Int32 → (Nat → Nat → Int32) → (Nat → Nat → Option Nat) → Option ((Int32) × (Nat → Nat → Int32))} (Hkh30 : ∀ (x1 : Int32) (x2 : Int32) (x3 : Int32) (x4 : Int32) (x5 : Int32) (i : Nat → Nat → Int32), aGood sh rv → kh30 x1 x2 x3 x4 x5 i rv = some (vR, iR) → aJ p l e R s m args below meth c (MQ below (aPost D cA ad0 A (sh, i0, lo0, rv0) (some (.int vR)) (sh, iR, lo, rv)) args s (sh.length - sh.length) (aSn sh - aSn sh) A) D cA A ad0 8 sh.length (aSn sh) 30 [some (.ref (100 + 0)), some (.int x1), some (.int x2), some (.int x3), some (.int x4), some (.int x5), none, none] [] (sh, i, lo, rv)) : ∀ (n : Nat) (x1 : Int32) (x2 : Int32) (x3 : Int32) (x4 : Int32) (x5 : Int32) (x6 : Int32) (i : Nat → Nat → Int32), aGood sh rv → fX11_rests_39 kh30 n x1 x2 x3 x4 x5 x6 i rv = some (vR, iR) → aJ p l e R s m args below meth c (MQ below (aPost D cA ad0 A (sh, i0, lo0, rv0) (some (.int vR)) (sh, iR, lo, rv)) args s (sh.length - sh.length) (aSn sh - aSn sh) A) D cA A ad0 8 sh.length (aSn sh) 39 [some (.ref (100 + 0)), some (.int x1), some (.int x2), some (.int x3), some (.int x4), some (.int x5), some (.int x6), none] [] (sh, i, lo, rv) := by
  intro n
  induction n with
  | zero => intros; rename_i hf; cases hf
  | succ n ih =>
    intro x1 x2 x3 x4 x5 x6 i hG hf
    rw [fX11_rests_39] at hf
    refine j_iload hX dX11_rests_39 rfl ?_
    refine j_iconst hX dX11_rests_41 ic_1 ?_
    refine j_icmp_gt (tgt := 127) hX dX11_rests_42 (by decide) (fun hc => ?_) (fun hc => ?_)
    · have hf := ifp hc hf
      refine j_iinc hX dX11_rests_127 rfl (congrArg (_ + ·) ic_1) (by decide) rfl ?_
      refine j_goto (tgt := 30) hX dX11_rests_130 (by decide) ?_
      exact aJx (Hkh30 _ _ _ _ _ _ hG  hf) (And.intro rfl (And.intro rfl (And.intro rfl (And.intro rfl (And.intro rfl (And.intro rfl (rfl)))))))
    · have hf := ifn hc hf
      refine j_aload_n hX dX11_rests_45 rfl ?_
      refine j_iload_n hX dX11_rests_46 rfl ?_
      refine j_iload_n hX dX11_rests_47 rfl ?_
      refine j_iload hX dX11_rests_48 rfl ?_
      refine j_iload hX dX11_rests_50 rfl ?_
      refine jpc (b := 52) rfl ?_
      obtain ⟨v3, i4, hh5, hf⟩ := bd2 hf
      refine j_cV4i hX lk_X11_292 kX11 dX11_rests_52 (sh_0 hG) (okX11_houseHas hG hh5) rfl rfl (rmm (by omega) hRf hRl (by decide)) (Nat.le_of_ble_eq_true rfl) (Nat.le_add_right _ _) (Nat.le_add_right _ _) ?_
      refine j_aload_n hX dX11_rests_55 rfl ?_
      refine j_iload_n hX dX11_rests_56 rfl ?_
      refine j_iload_n hX dX11_rests_57 rfl ?_
      refine j_iconst hX dX11_rests_58 ic_1 ?_
      refine j_iload hX dX11_rests_59 rfl ?_
      refine jpc (b := 61) rfl ?_
      refine j_isub hX dX11_rests_61 ?_
      refine j_iload hX dX11_rests_62 rfl ?_
      obtain ⟨v6, i7, hh8, hf⟩ := bd2 hf
      refine j_cV4i hX lk_X11_292 kX11 dX11_rests_64 (sh_0 hG) (okX11_houseHas hG hh8) rfl rfl (rmm (by omega) hRf hRl (by decide)) (Nat.le_of_ble_eq_true rfl) (Nat.le_add_right _ _) (Nat.le_add_right _ _) ?_
      refine j_icmp_lt (tgt := 74) hX dX11_rests_67 (by decide) (fun hc => ?_) (fun hc => ?_)
      · have hf := ifp hc hf
        refine j_iconst hX dX11_rests_74 ic_0 ?_
        exact aJx (kX11_rests_75 hX hr hlk hRf hRl Hkh30 ih hG  hf) (And.intro rfl (And.intro rfl (And.intro rfl (And.intro rfl (And.intro rfl (And.intro rfl (And.intro rfl (rfl))))))))
      · have hf := ifn hc hf
        refine j_iconst hX dX11_rests_70 ic_1 ?_
        refine j_goto (tgt := 75) hX dX11_rests_71 (by decide) ?_
        exact aJx (kX11_rests_75 hX hr hlk hRf hRl Hkh30 ih hG  hf) (And.intro rfl (And.intro rfl (And.intro rfl (And.intro rfl (And.intro rfl (And.intro rfl (And.intro rfl (rfl))))))))
def fX11_rests_30 : Nat → Int32 → Int32 → Int32 → Int32 → Int32 → (Nat → Nat → Int32) → (Nat → Nat → Option Nat) → Option ((Int32) × (Nat → Nat → Int32))
  | 0, _, _, _, _, _, _, _ => none
  | n + 1, x1, x2, x3, x4, x5, i, rv => if 1 < x5 then (if x3 = (-1) then (some (x4, i)) else (some ((-1), i))) else (fX11_rests_39 (fX11_rests_30 n) fuel x1 x2 x3 x4 x5 0 i rv)
theorem kX11_rests_30  {vR : Int32} {iR : Nat → Nat → Int32} (hX : aX p s m args c RX11 cX11_rests 8 D cA A ad0) (hr : meth.sig.returnType = (some .int)) (hlk : meth.locks = false) (hRf : 7 ≤ R.frames) (hRl : 64 * 7 ≤ R.locals) : ∀ (n : Nat) (x1 : Int32) (x2 : Int32) (x3 : Int32) (x4 : Int32) (x5 : Int32) (i : Nat → Nat → Int32), aGood sh rv → fX11_rests_30 n x1 x2 x3 x4 x5 i rv = some (vR, iR) → aJ p l e R s m args below meth c (MQ below (aPost D cA ad0 A (sh, i0, lo0, rv0) (some (.int vR)) (sh, iR, lo, rv)) args s (sh.length - sh.length) (aSn sh - aSn sh) A) D cA A ad0 8 sh.length (aSn sh) 30 [some (.ref (100 + 0)), some (.int x1), some (.int x2), some (.int x3), some (.int x4), some (.int x5), none, none] [] (sh, i, lo, rv) := by
  intro n
  induction n with
  | zero => intros; rename_i hf; cases hf
  | succ n ih =>
    intro x1 x2 x3 x4 x5 i hG hf
    rw [fX11_rests_30] at hf
    refine j_iload hX dX11_rests_30 rfl ?_
    refine j_iconst hX dX11_rests_32 ic_1 ?_
    refine j_icmp_gt (tgt := 133) hX dX11_rests_33 (by decide) (fun hc => ?_) (fun hc => ?_)
    · have hf := ifp hc hf
      refine j_iload_n hX dX11_rests_133 rfl ?_
      refine j_iconst hX dX11_rests_134 ic_m1 ?_
      refine j_icmp_ne (tgt := 143) hX dX11_rests_135 (by decide) (fun hc => ?_) (fun hc => ?_)
      · have hf := ifn hc hf
        refine j_iconst hX dX11_rests_143 ic_m1 ?_
        cases hf
        exact j_ret hX hr hlk rfl dX11_rests_144
      · have hf := ifp hc hf
        refine j_iload hX dX11_rests_138 rfl ?_
        refine j_goto (tgt := 144) hX dX11_rests_140 (by decide) ?_
        cases hf
        exact j_ret hX hr hlk rfl dX11_rests_144
    · have hf := ifn hc hf
      refine j_iconst hX dX11_rests_36 ic_0 ?_
      refine j_istore hX dX11_rests_37 (by decide) rfl ?_
      exact aJx (kX11_rests_39 hX hr hlk hRf hRl ih fuel _ _ _ _ _ _ _ hG  hf) (And.intro rfl (And.intro rfl (And.intro rfl (And.intro rfl (And.intro rfl (And.intro rfl (And.intro rfl (rfl))))))))
def fX11_rests (a1 : Int32) (a2 : Int32) (a3 : Int32) (i : Nat → Nat → Int32) (rv : Nat → Nat → Option Nat) : Option ((Int32) × (Nat → Nat → Int32)) := bn1 (fX1_hasOfficer 15 a1 i) fun v1 =>
    if v1 = 0 then (some ((-1), i)) else (if a2 < 1 then (some ((-1), i)) else (if a2 ≤ 9 then (fX11_rests_30 fuel a1 a2 a3 0 0 i rv) else (some ((-1), i))))
theorem kX11_rests  {vR : Int32} {iR : Nat → Nat → Int32} (hX : aX p s m args c RX11 cX11_rests 8 D cA A ad0) (hr : meth.sig.returnType = (some .int)) (hlk : meth.locks = false) (hRf : 7 ≤ R.frames) (hRl : 64 * 7 ≤ R.locals) {a1 : Int32} {a2 : Int32} {a3 : Int32} (hG : aGood sh rv) (hf : fX11_rests a1 a2 a3 i rv = some (vR, iR)) : aJ p l e R s m args below meth c (MQ below (aPost D cA ad0 A (sh, i0, lo0, rv0) (some (.int vR)) (sh, iR, lo, rv)) args s (sh.length - sh.length) (aSn sh - aSn sh) A) D cA A ad0 8 sh.length (aSn sh) 0 [some (.ref (100 + 0)), some (.int a1), some (.int a2), some (.int a3), none, none, none, none] [] (sh, i, lo, rv) := by
  unfold fX11_rests at hf
  refine j_aload_n hX dX11_rests_0 rfl ?_
  refine j_getR (k := 3) hX kX11 (by decide) fk_X11_30 (rf_0_3 hG) dX11_rests_1 (sh_0 hG) rfl ?_
  refine j_iload_n hX dX11_rests_4 rfl ?_
  obtain ⟨v1, hh2, hf⟩ := bd1 hf
  refine j_cV1i hX lk_X11_162 kX1 dX11_rests_5 (sh_15 hG) (okX1_hasOfficer hG (cr_15 hG) hh2) rfl rfl (rmm (by omega) hRf hRl (by decide)) (Nat.le_of_ble_eq_true rfl) (Nat.le_add_right _ _) (Nat.le_add_right _ _) ?_
  refine j_if_eq (tgt := 22) hX dX11_rests_8 (by decide) (fun hc => ?_) (fun hc => ?_)
  · have hf := ifp hc hf
    refine j_iconst hX dX11_rests_22 ic_m1 ?_
    cases hf
    exact j_ret hX hr hlk rfl dX11_rests_23
  · have hf := ifn hc hf
    refine j_iload_n hX dX11_rests_11 rfl ?_
    refine j_iconst hX dX11_rests_12 ic_1 ?_
    refine j_icmp_lt (tgt := 22) hX dX11_rests_13 (by decide) (fun hc => ?_) (fun hc => ?_)
    · have hf := ifp hc hf
      refine j_iconst hX dX11_rests_22 ic_m1 ?_
      cases hf
      exact j_ret hX hr hlk rfl dX11_rests_23
    · have hf := ifn hc hf
      refine j_iload_n hX dX11_rests_16 rfl ?_
      refine j_bipush hX dX11_rests_17 bp_9 ?_
      refine j_icmp_le (tgt := 24) hX dX11_rests_19 (by decide) (fun hc => ?_) (fun hc => ?_)
      · have hf := ifp hc hf
        refine j_iconst hX dX11_rests_24 ic_0 ?_
        refine j_istore hX dX11_rests_25 (by decide) rfl ?_
        refine j_iconst hX dX11_rests_27 ic_0 ?_
        refine j_istore hX dX11_rests_28 (by decide) rfl ?_
        exact aJx (kX11_rests_30 hX hr hlk hRf hRl fuel _ _ _ _ _ _ hG  hf) (And.intro rfl (And.intro rfl (And.intro rfl (And.intro rfl (And.intro rfl (And.intro rfl (rfl)))))))
      · have hf := ifn hc hf
        refine j_iconst hX dX11_rests_22 ic_m1 ?_
        cases hf
        exact j_ret hX hr hlk rfl dX11_rests_23
theorem okX11_rests {l : Launch} {sh : List aSh} {i : Nat → Nat → Int32} {lo : Nat → Nat → Int64} {rv : Nat → Nat → Option Nat}  {a1 : Int32} {a2 : Int32} {a3 : Int32} {vR : Int32} {iR : Nat → Nat → Int32} (hG : aGood sh rv) (hf : fX11_rests a1 a2 a3 i rv = some (vR, iR)) : aM l yX11_rests cX11_rests 8 (some .int) 7 [.ref (100 + 0), .int a1, .int a2, .int a3] (sh, i, lo, rv) (some (.int vR)) (sh, iR, lo, rv) :=
  aM_of (by decide) (Nat.le_of_ble_eq_true rfl) (Nat.le_refl _) (Nat.le_refl _) (fun p e s m args below meth c D cA A ad0 hX hr hlk hnm => kX11_rests hX hr hlk (Nat.le_refl _) (Nat.le_refl _) hG hf)
def fX2_officersWaking_70 (kh4 : Int32 → Int32 → Int32 → (Nat → Nat → Int32) → Option ((Int32))) (kh21 : Int32 → Int32 → Int32 → Int32 → Int32 → (Nat → Nat → Int32) → Option ((Int32))) (x1 : Int32) (x2 : Int32) (x3 : Int32) (x4 : Int32) (x5 : Int32) (i : Nat → Nat → Int32) : Option ((Int32)) := kh21 x1 x2 x3 x4 (x5 + 1) i
theorem kX2_officersWaking_70  {vR : Int32} (hX : aX p s m args c RX2 cX2_officersWaking 7 D cA A ad0) (hr : meth.sig.returnType = (some .int)) (hlk : meth.locks = false) (hRf : 3 ≤ R.frames) (hRl : 64 * 3 ≤ R.locals) {kh4 : Int32 → Int32 → Int32 → (Nat → Nat → Int32) → Option ((Int32))} {kh21 : Int32 → Int32 → Int32 → Int32 → Int32 → (Nat → Nat → Int32) → Option ((Int32))} (Hkh4 : ∀ (x1 : Int32) (x2 : Int32) (x3 : Int32), aGood sh rv → kh4 x1 x2 x3 i = some (vR) → aJ p l e R s m args below meth c (MQ below (aPost D cA ad0 A (sh, i0, lo0, rv0) (some (.int vR)) (sh, i, lo, rv)) args s (sh.length - sh.length) (aSn sh - aSn sh) A) D cA A ad0 7 sh.length (aSn sh) 4 [some (.ref (100 + 45)), some (.int x1), some (.int x2), some (.int x3), none, none, none] [] (sh, i, lo, rv)) (Hkh21 : ∀ (x1 : Int32) (x2 : Int32) (x3 : Int32) (x4 : Int32) (x5 : Int32), aGood sh rv → kh21 x1 x2 x3 x4 x5 i = some (vR) → aJ p l e R s m args below meth c (MQ below (aPost D cA ad0 A (sh, i0, lo0, rv0) (some (.int vR)) (sh, i, lo, rv)) args s (sh.length - sh.length) (aSn sh - aSn sh) A) D cA A ad0 7 sh.length (aSn sh) 21 [some (.ref (100 + 45)), some (.int x1), some (.int x2), some (.int x3), some (.int x4), some (.int x5), none] [] (sh, i, lo, rv)) {x1 : Int32} {x2 : Int32} {x3 : Int32} {x4 : Int32} {x5 : Int32} (hG : aGood sh rv) (hf : fX2_officersWaking_70 kh4 kh21 x1 x2 x3 x4 x5 i = some (vR)) : aJ p l e R s m args below meth c (MQ below (aPost D cA ad0 A (sh, i0, lo0, rv0) (some (.int vR)) (sh, i, lo, rv)) args s (sh.length - sh.length) (aSn sh - aSn sh) A) D cA A ad0 7 sh.length (aSn sh) 70 [some (.ref (100 + 45)), some (.int x1), some (.int x2), some (.int x3), some (.int x4), some (.int x5), none] [] (sh, i, lo, rv) := by
  unfold fX2_officersWaking_70 at hf
  refine j_iinc hX dX2_officersWaking_70 rfl (congrArg (_ + ·) ic_1) (by decide) rfl ?_
  refine j_goto (tgt := 21) hX dX2_officersWaking_73 (by decide) ?_
  exact aJx (Hkh21 _ _ _ _ _ hG  hf) (And.intro rfl (And.intro rfl (And.intro rfl (And.intro rfl (And.intro rfl (And.intro rfl (rfl)))))))
def fX2_officersWaking_88 (kh4 : Int32 → Int32 → Int32 → (Nat → Nat → Int32) → Option ((Int32))) (x1 : Int32) (x2 : Int32) (x3 : Int32) (i : Nat → Nat → Int32) : Option ((Int32)) := kh4 x1 x2 (x3 + 1) i
theorem kX2_officersWaking_88  {vR : Int32} (hX : aX p s m args c RX2 cX2_officersWaking 7 D cA A ad0) (hr : meth.sig.returnType = (some .int)) (hlk : meth.locks = false) (hRf : 3 ≤ R.frames) (hRl : 64 * 3 ≤ R.locals) {kh4 : Int32 → Int32 → Int32 → (Nat → Nat → Int32) → Option ((Int32))} (Hkh4 : ∀ (x1 : Int32) (x2 : Int32) (x3 : Int32), aGood sh rv → kh4 x1 x2 x3 i = some (vR) → aJ p l e R s m args below meth c (MQ below (aPost D cA ad0 A (sh, i0, lo0, rv0) (some (.int vR)) (sh, i, lo, rv)) args s (sh.length - sh.length) (aSn sh - aSn sh) A) D cA A ad0 7 sh.length (aSn sh) 4 [some (.ref (100 + 45)), some (.int x1), some (.int x2), some (.int x3), none, none, none] [] (sh, i, lo, rv)) {x1 : Int32} {x2 : Int32} {x3 : Int32} (hG : aGood sh rv) (hf : fX2_officersWaking_88 kh4 x1 x2 x3 i = some (vR)) : aJ p l e R s m args below meth c (MQ below (aPost D cA ad0 A (sh, i0, lo0, rv0) (some (.int vR)) (sh, i, lo, rv)) args s (sh.length - sh.length) (aSn sh - aSn sh) A) D cA A ad0 7 sh.length (aSn sh) 88 [some (.ref (100 + 45)), some (.int x1), some (.int x2), some (.int x3), none, none, none] [] (sh, i, lo, rv) := by
  unfold fX2_officersWaking_88 at hf
  refine j_iinc hX dX2_officersWaking_88 rfl (congrArg (_ + ·) ic_1) (by decide) rfl ?_
  refine j_goto (tgt := 4) hX dX2_officersWaking_91 (by decide) ?_
  exact aJx (Hkh4 _ _ _ hG  hf) (And.intro rfl (And.intro rfl (And.intro rfl (And.intro rfl (rfl)))))
def fX2_officersWaking_21 (kh4 : Int32 → Int32 → Int32 → (Nat → Nat → Int32) → Option ((Int32))) : Nat → Int32 → Int32 → Int32 → Int32 → Int32 → (Nat → Nat → Int32) → Option ((Int32))
  | 0, _, _, _, _, _, _ => none
  | n + 1, x1, x2, x3, x4, x5, i => bn1 (fX1_papers 15 i) fun v3 =>
    if v3 ≤ x5 then (if x4 = x1 then (lt (x2 ||| ((1 : Int32) <<< (x3 &&& 31))) fun t5 =>
    fX2_officersWaking_88 kh4 x1 t5 x3 i) else (fX2_officersWaking_88 kh4 x1 x2 x3 i)) else (bn1 (fX8_inDrawer 19 x5 i) fun v6 =>
    bn1 (fX3_wakes 19 v6 x3 i) fun v8 =>
    if v8 = 0 then (fX2_officersWaking_70 kh4 (fX2_officersWaking_21 kh4 n) x1 x2 x3 x4 x5 i) else (lt (x4 ||| ((1 : Int32) <<< (v6 &&& 31))) fun t10 =>
    fX2_officersWaking_70 kh4 (fX2_officersWaking_21 kh4 n) x1 x2 x3 t10 x5 i))
theorem kX2_officersWaking_21  {vR : Int32} (hX : aX p s m args c RX2 cX2_officersWaking 7 D cA A ad0) (hr : meth.sig.returnType = (some .int)) (hlk : meth.locks = false) (hRf : 3 ≤ R.frames) (hRl : 64 * 3 ≤ R.locals) {kh4 : Int32 → Int32 → Int32 → (Nat → Nat → Int32) → Option ((Int32))} (Hkh4 : ∀ (x1 : Int32) (x2 : Int32) (x3 : Int32), aGood sh rv → kh4 x1 x2 x3 i = some (vR) → aJ p l e R s m args below meth c (MQ below (aPost D cA ad0 A (sh, i0, lo0, rv0) (some (.int vR)) (sh, i, lo, rv)) args s (sh.length - sh.length) (aSn sh - aSn sh) A) D cA A ad0 7 sh.length (aSn sh) 4 [some (.ref (100 + 45)), some (.int x1), some (.int x2), some (.int x3), none, none, none] [] (sh, i, lo, rv)) : ∀ (n : Nat) (x1 : Int32) (x2 : Int32) (x3 : Int32) (x4 : Int32) (x5 : Int32), aGood sh rv → fX2_officersWaking_21 kh4 n x1 x2 x3 x4 x5 i = some (vR) → aJ p l e R s m args below meth c (MQ below (aPost D cA ad0 A (sh, i0, lo0, rv0) (some (.int vR)) (sh, i, lo, rv)) args s (sh.length - sh.length) (aSn sh - aSn sh) A) D cA A ad0 7 sh.length (aSn sh) 21 [some (.ref (100 + 45)), some (.int x1), some (.int x2), some (.int x3), some (.int x4), some (.int x5), none] [] (sh, i, lo, rv) := by
  intro n
  induction n with
  | zero => intros; rename_i hf; cases hf
  | succ n ih =>
    intro x1 x2 x3 x4 x5 hG hf
    rw [fX2_officersWaking_21] at hf
    refine j_iload hX dX2_officersWaking_21 rfl ?_
    refine j_aload_n hX dX2_officersWaking_23 rfl ?_
    refine j_getR (k := 0) hX kX2 (by decide) fk_X2_25 (rf_45_0 hG) dX2_officersWaking_24 (sh_45 hG) rfl ?_
    obtain ⟨v3, hh4, hf⟩ := bd1 hf
    refine j_cV0i hX lk_X2_93 kX1 dX2_officersWaking_27 (sh_15 hG) (okX1_papers hG (cr_15 hG) hh4) rfl rfl (rmm (by omega) hRf hRl (by decide)) (Nat.le_of_ble_eq_true rfl) (Nat.le_add_right _ _) (Nat.le_add_right _ _) ?_
    refine j_icmp_ge (tgt := 76) hX dX2_officersWaking_30 (by decide) (fun hc => ?_) (fun hc => ?_)
    · have hf := ifp hc hf
      refine j_iload hX dX2_officersWaking_76 rfl ?_
      refine j_iload_n hX dX2_officersWaking_78 rfl ?_
      refine j_icmp_ne (tgt := 88) hX dX2_officersWaking_79 (by decide) (fun hc => ?_) (fun hc => ?_)
      · have hf := ifn hc hf
        exact aJx (kX2_officersWaking_88 hX hr hlk hRf hRl Hkh4 hG  hf) (And.intro rfl (And.intro rfl (And.intro rfl (And.intro rfl (rfl)))))
      · have hf := ifp hc hf
        refine j_iload_n hX dX2_officersWaking_82 rfl ?_
        refine j_iconst hX dX2_officersWaking_83 ic_1 ?_
        refine j_iload_n hX dX2_officersWaking_84 rfl ?_
        refine j_ishl hX dX2_officersWaking_85 ?_
        refine j_ior hX dX2_officersWaking_86 ?_
        refine jpc (b := 87) rfl ?_
        have hf := ltd hf
        refine j_istore_n hX dX2_officersWaking_87 (by decide) rfl ?_
        exact aJx (kX2_officersWaking_88 hX hr hlk hRf hRl Hkh4 hG  hf) (And.intro rfl (And.intro rfl (And.intro rfl (And.intro rfl (rfl)))))
    · have hf := ifn hc hf
      refine j_aload_n hX dX2_officersWaking_33 rfl ?_
      refine j_getR (k := 2) hX kX2 (by decide) fk_X2_33 (rf_45_2 hG) dX2_officersWaking_34 (sh_45 hG) rfl ?_
      refine j_iload hX dX2_officersWaking_37 rfl ?_
      obtain ⟨v6, hh7, hf⟩ := bd1 hf
      refine j_cV1i hX lk_X2_101 kX8 dX2_officersWaking_39 (sh_19 hG) (okX8_inDrawer hG (sc_19 hG) hh7) rfl rfl (rmm (by omega) hRf hRl (by decide)) (Nat.le_of_ble_eq_true rfl) (Nat.le_add_right _ _) (Nat.le_add_right _ _) ?_
      refine j_istore hX dX2_officersWaking_42 (by decide) rfl ?_
      refine jpc (b := 44) rfl ?_
      refine j_aload_n hX dX2_officersWaking_44 rfl ?_
      refine j_getR (k := 1) hX kX2 (by decide) fk_X2_29 (rf_45_1 hG) dX2_officersWaking_45 (sh_45 hG) rfl ?_
      refine j_aload_n hX dX2_officersWaking_48 rfl ?_
      refine j_getR (k := 2) hX kX2 (by decide) fk_X2_33 (rf_45_2 hG) dX2_officersWaking_49 (sh_45 hG) rfl ?_
      refine j_iload hX dX2_officersWaking_52 rfl ?_
      refine j_iload_n hX dX2_officersWaking_54 rfl ?_
      refine jpc (b := 55) rfl ?_
      obtain ⟨v8, hh9, hf⟩ := bd1 hf
      refine j_cV3i hX lk_X2_106 kX3 dX2_officersWaking_55 (sh_23 hG) (okX3_wakes hG (sc_19 hG) hh9) rfl rfl (rmm (by omega) hRf hRl (by decide)) (Nat.le_of_ble_eq_true rfl) (Nat.le_add_right _ _) (Nat.le_add_right _ _) ?_
      refine j_if_eq (tgt := 70) hX dX2_officersWaking_58 (by decide) (fun hc => ?_) (fun hc => ?_)
      · have hf := ifp hc hf
        exact aJx (kX2_officersWaking_70 hX hr hlk hRf hRl Hkh4 ih hG  hf) (And.intro rfl (And.intro rfl (And.intro rfl (And.intro rfl (And.intro rfl (And.intro rfl (rfl)))))))
      · have hf := ifn hc hf
        refine j_iload hX dX2_officersWaking_61 rfl ?_
        refine j_iconst hX dX2_officersWaking_63 ic_1 ?_
        refine j_iload hX dX2_officersWaking_64 rfl ?_
        refine j_ishl hX dX2_officersWaking_66 ?_
        refine j_ior hX dX2_officersWaking_67 ?_
        refine jpc (b := 68) rfl ?_
        have hf := ltd hf
        refine j_istore hX dX2_officersWaking_68 (by decide) rfl ?_
        exact aJx (kX2_officersWaking_70 hX hr hlk hRf hRl Hkh4 ih hG  hf) (And.intro rfl (And.intro rfl (And.intro rfl (And.intro rfl (And.intro rfl (And.intro rfl (rfl)))))))
def fX2_officersWaking_4 : Nat → Int32 → Int32 → Int32 → (Nat → Nat → Int32) → Option ((Int32))
  | 0, _, _, _, _ => none
  | n + 1, x1, x2, x3, i => bn1 (fX1_officers 15 i) fun v1 =>
    if v1 ≤ x3 then (some (x2)) else (fX2_officersWaking_21 (fX2_officersWaking_4 n) fuel x1 x2 x3 0 0 i)
theorem kX2_officersWaking_4  {vR : Int32} (hX : aX p s m args c RX2 cX2_officersWaking 7 D cA A ad0) (hr : meth.sig.returnType = (some .int)) (hlk : meth.locks = false) (hRf : 3 ≤ R.frames) (hRl : 64 * 3 ≤ R.locals) : ∀ (n : Nat) (x1 : Int32) (x2 : Int32) (x3 : Int32), aGood sh rv → fX2_officersWaking_4 n x1 x2 x3 i = some (vR) → aJ p l e R s m args below meth c (MQ below (aPost D cA ad0 A (sh, i0, lo0, rv0) (some (.int vR)) (sh, i, lo, rv)) args s (sh.length - sh.length) (aSn sh - aSn sh) A) D cA A ad0 7 sh.length (aSn sh) 4 [some (.ref (100 + 45)), some (.int x1), some (.int x2), some (.int x3), none, none, none] [] (sh, i, lo, rv) := by
  intro n
  induction n with
  | zero => intros; rename_i hf; cases hf
  | succ n ih =>
    intro x1 x2 x3 hG hf
    rw [fX2_officersWaking_4] at hf
    refine j_iload_n hX dX2_officersWaking_4 rfl ?_
    refine j_aload_n hX dX2_officersWaking_5 rfl ?_
    refine j_getR (k := 0) hX kX2 (by decide) fk_X2_25 (rf_45_0 hG) dX2_officersWaking_6 (sh_45 hG) rfl ?_
    obtain ⟨v1, hh2, hf⟩ := bd1 hf
    refine j_cV0i hX lk_X2_48 kX1 dX2_officersWaking_9 (sh_15 hG) (okX1_officers hG (cr_15 hG) hh2) rfl rfl (rmm (by omega) hRf hRl (by decide)) (Nat.le_of_ble_eq_true rfl) (Nat.le_add_right _ _) (Nat.le_add_right _ _) ?_
    refine j_icmp_ge (tgt := 94) hX dX2_officersWaking_12 (by decide) (fun hc => ?_) (fun hc => ?_)
    · have hf := ifp hc hf
      refine j_iload_n hX dX2_officersWaking_94 rfl ?_
      cases hf
      exact j_ret hX hr hlk rfl dX2_officersWaking_95
    · have hf := ifn hc hf
      refine j_iconst hX dX2_officersWaking_15 ic_0 ?_
      refine j_istore hX dX2_officersWaking_16 (by decide) rfl ?_
      refine j_iconst hX dX2_officersWaking_18 ic_0 ?_
      refine j_istore hX dX2_officersWaking_19 (by decide) rfl ?_
      exact aJx (kX2_officersWaking_21 hX hr hlk hRf hRl ih fuel _ _ _ _ _ hG  hf) (And.intro rfl (And.intro rfl (And.intro rfl (And.intro rfl (And.intro rfl (And.intro rfl (rfl)))))))
def fX2_officersWaking (a1 : Int32) (i : Nat → Nat → Int32) : Option ((Int32)) := fX2_officersWaking_4 fuel a1 0 0 i
theorem kX2_officersWaking  {vR : Int32} (hX : aX p s m args c RX2 cX2_officersWaking 7 D cA A ad0) (hr : meth.sig.returnType = (some .int)) (hlk : meth.locks = false) (hRf : 3 ≤ R.frames) (hRl : 64 * 3 ≤ R.locals) {a1 : Int32} (hG : aGood sh rv) (hf : fX2_officersWaking a1 i = some (vR)) : aJ p l e R s m args below meth c (MQ below (aPost D cA ad0 A (sh, i0, lo0, rv0) (some (.int vR)) (sh, i, lo, rv)) args s (sh.length - sh.length) (aSn sh - aSn sh) A) D cA A ad0 7 sh.length (aSn sh) 0 [some (.ref (100 + 45)), some (.int a1), none, none, none, none, none] [] (sh, i, lo, rv) := by
  unfold fX2_officersWaking at hf
  refine j_iconst hX dX2_officersWaking_0 ic_0 ?_
  refine j_istore_n hX dX2_officersWaking_1 (by decide) rfl ?_
  refine j_iconst hX dX2_officersWaking_2 ic_0 ?_
  refine j_istore_n hX dX2_officersWaking_3 (by decide) rfl ?_
  exact aJx (kX2_officersWaking_4 hX hr hlk hRf hRl fuel _ _ _ hG  hf) (And.intro rfl (And.intro rfl (And.intro rfl (And.intro rfl (rfl)))))
theorem okX2_officersWaking {l : Launch} {sh : List aSh} {i : Nat → Nat → Int32} {lo : Nat → Nat → Int64} {rv : Nat → Nat → Option Nat}  {a1 : Int32} {vR : Int32} (hG : aGood sh rv) (hf : fX2_officersWaking a1 i = some (vR)) : aM l yX2_officersWaking cX2_officersWaking 7 (some .int) 3 [.ref (100 + 45), .int a1] (sh, i, lo, rv) (some (.int vR)) (sh, i, lo, rv) :=
  aM_of (by decide) (Nat.le_of_ble_eq_true rfl) (Nat.le_refl _) (Nat.le_refl _) (fun p e s m args below meth c D cA A ad0 hX hr hlk hnm => kX2_officersWaking hX hr hlk (Nat.le_refl _) (Nat.le_refl _) hG hf)
def fX11_which (a1 : Int32) (i : Nat → Nat → Int32) : Option ((Int32)) := bn1 (fX11_noCar i) fun v1 =>
    if v1 = 0 then (if a1 < 0 then (some ((-1))) else (bn1 (fX1_sleepers 15 i) fun v3 =>
    if a1 < ((1 : Int32) <<< (v3 &&& 31)) then (bn1 (fX2_officersWaking a1 i) fun v5 =>
    some (v5)) else (some ((-1))))) else (some ((-1)))
theorem kX11_which  {vR : Int32} (hX : aX p s m args c RX11 cX11_which 2 D cA A ad0) (hr : meth.sig.returnType = (some .int)) (hlk : meth.locks = false) (hRf : 4 ≤ R.frames) (hRl : 64 * 4 ≤ R.locals) {a1 : Int32} (hG : aGood sh rv) (hf : fX11_which a1 i = some (vR)) : aJ p l e R s m args below meth c (MQ below (aPost D cA ad0 A (sh, i0, lo0, rv0) (some (.int vR)) (sh, i, lo, rv)) args s (sh.length - sh.length) (aSn sh - aSn sh) A) D cA A ad0 2 sh.length (aSn sh) 0 [some (.ref (100 + 0)), some (.int a1)] [] (sh, i, lo, rv) := by
  unfold fX11_which at hf
  refine j_aload_n hX dX11_which_0 rfl ?_
  obtain ⟨v1, hh2, hf⟩ := bd1 hf
  refine j_cV0i hX lk_X11_120 kX11 dX11_which_1 (sh_0 hG) (okX11_noCar hG hh2) rfl rfl (rmm (by omega) hRf hRl (by decide)) (Nat.le_of_ble_eq_true rfl) (Nat.le_add_right _ _) (Nat.le_add_right _ _) ?_
  refine j_if_ne (tgt := 24) hX dX11_which_4 (by decide) (fun hc => ?_) (fun hc => ?_)
  · have hf := ifn hc hf
    refine j_iconst hX dX11_which_24 ic_m1 ?_
    cases hf
    exact j_ret hX hr hlk rfl dX11_which_25
  · have hf := ifp hc hf
    refine j_iload_n hX dX11_which_7 rfl ?_
    refine j_if_lt (tgt := 24) hX dX11_which_8 (by decide) (fun hc => ?_) (fun hc => ?_)
    · have hf := ifp hc hf
      refine j_iconst hX dX11_which_24 ic_m1 ?_
      cases hf
      exact j_ret hX hr hlk rfl dX11_which_25
    · have hf := ifn hc hf
      refine j_iload_n hX dX11_which_11 rfl ?_
      refine j_iconst hX dX11_which_12 ic_1 ?_
      refine j_aload_n hX dX11_which_13 rfl ?_
      refine j_getR (k := 3) hX kX11 (by decide) fk_X11_30 (rf_0_3 hG) dX11_which_14 (sh_0 hG) rfl ?_
      obtain ⟨v3, hh4, hf⟩ := bd1 hf
      refine j_cV0i hX lk_X11_282 kX1 dX11_which_17 (sh_15 hG) (okX1_sleepers hG (cr_15 hG) hh4) rfl rfl (rmm (by omega) hRf hRl (by decide)) (Nat.le_of_ble_eq_true rfl) (Nat.le_add_right _ _) (Nat.le_add_right _ _) ?_
      refine jpc (b := 20) rfl ?_
      refine j_ishl hX dX11_which_20 ?_
      refine j_icmp_lt (tgt := 26) hX dX11_which_21 (by decide) (fun hc => ?_) (fun hc => ?_)
      · have hf := ifp hc hf
        refine j_aload_n hX dX11_which_26 rfl ?_
        refine j_getR (k := 10) hX kX11 (by decide) fk_X11_78 (rf_0_10 hG) dX11_which_27 (sh_0 hG) rfl ?_
        refine j_iload_n hX dX11_which_30 rfl ?_
        obtain ⟨v5, hh6, hf⟩ := bd1 hf
        refine j_cV1i hX lk_X11_299 kX2 dX11_which_31 (sh_45 hG) (okX2_officersWaking hG hh6) rfl rfl (rmm (by omega) hRf hRl (by decide)) (Nat.le_of_ble_eq_true rfl) (Nat.le_add_right _ _) (Nat.le_add_right _ _) ?_
        cases hf
        exact j_ret hX hr hlk rfl dX11_which_34
      · have hf := ifn hc hf
        refine j_iconst hX dX11_which_24 ic_m1 ?_
        cases hf
        exact j_ret hX hr hlk rfl dX11_which_25
theorem okX11_which {l : Launch} {sh : List aSh} {i : Nat → Nat → Int32} {lo : Nat → Nat → Int64} {rv : Nat → Nat → Option Nat}  {a1 : Int32} {vR : Int32} (hG : aGood sh rv) (hf : fX11_which a1 i = some (vR)) : aM l yX11_which cX11_which 2 (some .int) 4 [.ref (100 + 0), .int a1] (sh, i, lo, rv) (some (.int vR)) (sh, i, lo, rv) :=
  aM_of (by decide) (Nat.le_of_ble_eq_true rfl) (Nat.le_refl _) (Nat.le_refl _) (fun p e s m args below meth c D cA A ad0 hX hr hlk hnm => kX11_which hX hr hlk (Nat.le_refl _) (Nat.le_refl _) hG hf)
def fX11_woken (a1 : Int32) (i : Nat → Nat → Int32) : Option ((Int32)) := bn1 (fX1_hasSleeper 15 a1 i) fun v1 =>
    if v1 = 0 then (some ((-1))) else (bn1 (fX8_timesWoken 19 a1 i) fun v3 =>
    some (v3))
theorem kX11_woken  {vR : Int32} (hX : aX p s m args c RX11 cX11_woken 2 D cA A ad0) (hr : meth.sig.returnType = (some .int)) (hlk : meth.locks = false) (hRf : 1 ≤ R.frames) (hRl : 64 * 1 ≤ R.locals) {a1 : Int32} (hG : aGood sh rv) (hf : fX11_woken a1 i = some (vR)) : aJ p l e R s m args below meth c (MQ below (aPost D cA ad0 A (sh, i0, lo0, rv0) (some (.int vR)) (sh, i, lo, rv)) args s (sh.length - sh.length) (aSn sh - aSn sh) A) D cA A ad0 2 sh.length (aSn sh) 0 [some (.ref (100 + 0)), some (.int a1)] [] (sh, i, lo, rv) := by
  unfold fX11_woken at hf
  refine j_aload_n hX dX11_woken_0 rfl ?_
  refine j_getR (k := 3) hX kX11 (by decide) fk_X11_30 (rf_0_3 hG) dX11_woken_1 (sh_0 hG) rfl ?_
  refine j_iload_n hX dX11_woken_4 rfl ?_
  obtain ⟨v1, hh2, hf⟩ := bd1 hf
  refine j_cV1i hX lk_X11_130 kX1 dX11_woken_5 (sh_15 hG) (okX1_hasSleeper hG (cr_15 hG) hh2) rfl rfl (rmm (by omega) hRf hRl (by decide)) (Nat.le_of_ble_eq_true rfl) (Nat.le_add_right _ _) (Nat.le_add_right _ _) ?_
  refine j_if_eq (tgt := 22) hX dX11_woken_8 (by decide) (fun hc => ?_) (fun hc => ?_)
  · have hf := ifp hc hf
    refine j_iconst hX dX11_woken_22 ic_m1 ?_
    cases hf
    exact j_ret hX hr hlk rfl dX11_woken_23
  · have hf := ifn hc hf
    refine j_aload_n hX dX11_woken_11 rfl ?_
    refine j_getR (k := 4) hX kX11 (by decide) fk_X11_36 (rf_0_4 hG) dX11_woken_12 (sh_0 hG) rfl ?_
    refine j_iload_n hX dX11_woken_15 rfl ?_
    obtain ⟨v3, hh4, hf⟩ := bd1 hf
    refine j_cV1i hX lk_X11_302 kX8 dX11_woken_16 (sh_19 hG) (okX8_timesWoken hG (sc_19 hG) hh4) rfl rfl (rmm (by omega) hRf hRl (by decide)) (Nat.le_of_ble_eq_true rfl) (Nat.le_add_right _ _) (Nat.le_add_right _ _) ?_
    refine j_goto (tgt := 23) hX dX11_woken_19 (by decide) ?_
    refine jpc (b := 23) rfl ?_
    cases hf
    exact j_ret hX hr hlk rfl dX11_woken_23
theorem okX11_woken {l : Launch} {sh : List aSh} {i : Nat → Nat → Int32} {lo : Nat → Nat → Int64} {rv : Nat → Nat → Option Nat}  {a1 : Int32} {vR : Int32} (hG : aGood sh rv) (hf : fX11_woken a1 i = some (vR)) : aM l yX11_woken cX11_woken 2 (some .int) 1 [.ref (100 + 0), .int a1] (sh, i, lo, rv) (some (.int vR)) (sh, i, lo, rv) :=
  aM_of (by decide) (Nat.le_of_ble_eq_true rfl) (Nat.le_refl _) (Nat.le_refl _) (fun p e s m args below meth c D cA A ad0 hX hr hlk hnm => kX11_woken hX hr hlk (Nat.le_refl _) (Nat.le_refl _) hG hf)
def fX11_tired_40 (kh6 : Int32 → Int32 → Int32 → (Nat → Nat → Int32) → Option ((Int32))) (x1 : Int32) (x2 : Int32) (x3 : Int32) (i : Nat → Nat → Int32) : Option ((Int32)) := kh6 x1 x2 (x3 + 1) i
theorem kX11_tired_40  {vR : Int32} (hX : aX p s m args c RX11 cX11_tired 4 D cA A ad0) (hr : meth.sig.returnType = (some .int)) (hlk : meth.locks = false) (hRf : 1 ≤ R.frames) (hRl : 64 * 1 ≤ R.locals) {kh6 : Int32 → Int32 → Int32 → (Nat → Nat → Int32) → Option ((Int32))} (Hkh6 : ∀ (x1 : Int32) (x2 : Int32) (x3 : Int32), aGood sh rv → kh6 x1 x2 x3 i = some (vR) → aJ p l e R s m args below meth c (MQ below (aPost D cA ad0 A (sh, i0, lo0, rv0) (some (.int vR)) (sh, i, lo, rv)) args s (sh.length - sh.length) (aSn sh - aSn sh) A) D cA A ad0 4 sh.length (aSn sh) 6 [some (.ref (100 + 0)), some (.int x1), some (.int x2), some (.int x3)] [] (sh, i, lo, rv)) {x1 : Int32} {x2 : Int32} {x3 : Int32} (hG : aGood sh rv) (hf : fX11_tired_40 kh6 x1 x2 x3 i = some (vR)) : aJ p l e R s m args below meth c (MQ below (aPost D cA ad0 A (sh, i0, lo0, rv0) (some (.int vR)) (sh, i, lo, rv)) args s (sh.length - sh.length) (aSn sh - aSn sh) A) D cA A ad0 4 sh.length (aSn sh) 40 [some (.ref (100 + 0)), some (.int x1), some (.int x2), some (.int x3)] [] (sh, i, lo, rv) := by
  unfold fX11_tired_40 at hf
  refine j_iinc hX dX11_tired_40 rfl (congrArg (_ + ·) ic_1) (by decide) rfl ?_
  refine j_goto (tgt := 6) hX dX11_tired_43 (by decide) ?_
  exact aJx (Hkh6 _ _ _ hG  hf) (And.intro rfl (And.intro rfl (And.intro rfl (And.intro rfl (rfl)))))
def fX11_tired_6 : Nat → Int32 → Int32 → Int32 → (Nat → Nat → Int32) → Option ((Int32))
  | 0, _, _, _, _ => none
  | n + 1, x1, x2, x3, i => bn1 (fX1_sleepers 15 i) fun v1 =>
    if v1 ≤ x3 then (some (x2)) else (bn1 (fX8_lostBy 19 x3 i) fun v3 =>
    if v3 ≤ x1 then (fX11_tired_40 (fX11_tired_6 n) x1 x2 x3 i) else (bn1 (fX8_lostBy 19 x3 i) fun v5 =>
    fX11_tired_40 (fX11_tired_6 n) v5 x3 x3 i))
theorem kX11_tired_6  {vR : Int32} (hX : aX p s m args c RX11 cX11_tired 4 D cA A ad0) (hr : meth.sig.returnType = (some .int)) (hlk : meth.locks = false) (hRf : 1 ≤ R.frames) (hRl : 64 * 1 ≤ R.locals) : ∀ (n : Nat) (x1 : Int32) (x2 : Int32) (x3 : Int32), aGood sh rv → fX11_tired_6 n x1 x2 x3 i = some (vR) → aJ p l e R s m args below meth c (MQ below (aPost D cA ad0 A (sh, i0, lo0, rv0) (some (.int vR)) (sh, i, lo, rv)) args s (sh.length - sh.length) (aSn sh - aSn sh) A) D cA A ad0 4 sh.length (aSn sh) 6 [some (.ref (100 + 0)), some (.int x1), some (.int x2), some (.int x3)] [] (sh, i, lo, rv) := by
  intro n
  induction n with
  | zero => intros; rename_i hf; cases hf
  | succ n ih =>
    intro x1 x2 x3 hG hf
    rw [fX11_tired_6] at hf
    refine j_iload_n hX dX11_tired_6 rfl ?_
    refine j_aload_n hX dX11_tired_7 rfl ?_
    refine j_getR (k := 3) hX kX11 (by decide) fk_X11_30 (rf_0_3 hG) dX11_tired_8 (sh_0 hG) rfl ?_
    obtain ⟨v1, hh2, hf⟩ := bd1 hf
    refine j_cV0i hX lk_X11_282 kX1 dX11_tired_11 (sh_15 hG) (okX1_sleepers hG (cr_15 hG) hh2) rfl rfl (rmm (by omega) hRf hRl (by decide)) (Nat.le_of_ble_eq_true rfl) (Nat.le_add_right _ _) (Nat.le_add_right _ _) ?_
    refine j_icmp_ge (tgt := 46) hX dX11_tired_14 (by decide) (fun hc => ?_) (fun hc => ?_)
    · have hf := ifp hc hf
      refine j_iload_n hX dX11_tired_46 rfl ?_
      cases hf
      exact j_ret hX hr hlk rfl dX11_tired_47
    · have hf := ifn hc hf
      refine j_aload_n hX dX11_tired_17 rfl ?_
      refine j_getR (k := 4) hX kX11 (by decide) fk_X11_36 (rf_0_4 hG) dX11_tired_18 (sh_0 hG) rfl ?_
      refine j_iload_n hX dX11_tired_21 rfl ?_
      obtain ⟨v3, hh4, hf⟩ := bd1 hf
      refine j_cV1i hX lk_X11_156 kX8 dX11_tired_22 (sh_19 hG) (okX8_lostBy hG (sc_19 hG) hh4) rfl rfl (rmm (by omega) hRf hRl (by decide)) (Nat.le_of_ble_eq_true rfl) (Nat.le_add_right _ _) (Nat.le_add_right _ _) ?_
      refine j_iload_n hX dX11_tired_25 rfl ?_
      refine jpc (b := 26) rfl ?_
      refine j_icmp_le (tgt := 40) hX dX11_tired_26 (by decide) (fun hc => ?_) (fun hc => ?_)
      · have hf := ifp hc hf
        exact aJx (kX11_tired_40 hX hr hlk hRf hRl ih hG  hf) (And.intro rfl (And.intro rfl (And.intro rfl (And.intro rfl (rfl)))))
      · have hf := ifn hc hf
        refine j_aload_n hX dX11_tired_29 rfl ?_
        refine j_getR (k := 4) hX kX11 (by decide) fk_X11_36 (rf_0_4 hG) dX11_tired_30 (sh_0 hG) rfl ?_
        refine j_iload_n hX dX11_tired_33 rfl ?_
        obtain ⟨v5, hh6, hf⟩ := bd1 hf
        refine j_cV1i hX lk_X11_156 kX8 dX11_tired_34 (sh_19 hG) (okX8_lostBy hG (sc_19 hG) hh6) rfl rfl (rmm (by omega) hRf hRl (by decide)) (Nat.le_of_ble_eq_true rfl) (Nat.le_add_right _ _) (Nat.le_add_right _ _) ?_
        refine j_istore_n hX dX11_tired_37 (by decide) rfl ?_
        refine jpc (b := 38) rfl ?_
        refine j_iload_n hX dX11_tired_38 rfl ?_
        refine j_istore_n hX dX11_tired_39 (by decide) rfl ?_
        exact aJx (kX11_tired_40 hX hr hlk hRf hRl ih hG  hf) (And.intro rfl (And.intro rfl (And.intro rfl (And.intro rfl (rfl)))))
def fX11_tired (i : Nat → Nat → Int32) : Option ((Int32)) := fX11_tired_6 fuel 0 (-1) 0 i
theorem kX11_tired  {vR : Int32} (hX : aX p s m args c RX11 cX11_tired 4 D cA A ad0) (hr : meth.sig.returnType = (some .int)) (hlk : meth.locks = false) (hRf : 1 ≤ R.frames) (hRl : 64 * 1 ≤ R.locals) (hG : aGood sh rv) (hf : fX11_tired i = some (vR)) : aJ p l e R s m args below meth c (MQ below (aPost D cA ad0 A (sh, i0, lo0, rv0) (some (.int vR)) (sh, i, lo, rv)) args s (sh.length - sh.length) (aSn sh - aSn sh) A) D cA A ad0 4 sh.length (aSn sh) 0 [some (.ref (100 + 0)), none, none, none] [] (sh, i, lo, rv) := by
  unfold fX11_tired at hf
  refine j_iconst hX dX11_tired_0 ic_0 ?_
  refine j_istore_n hX dX11_tired_1 (by decide) rfl ?_
  refine j_iconst hX dX11_tired_2 ic_m1 ?_
  refine j_istore_n hX dX11_tired_3 (by decide) rfl ?_
  refine j_iconst hX dX11_tired_4 ic_0 ?_
  refine jpc (b := 5) rfl ?_
  refine j_istore_n hX dX11_tired_5 (by decide) rfl ?_
  exact aJx (kX11_tired_6 hX hr hlk hRf hRl fuel _ _ _ hG  hf) (And.intro rfl (And.intro rfl (And.intro rfl (And.intro rfl (rfl)))))
theorem okX11_tired {l : Launch} {sh : List aSh} {i : Nat → Nat → Int32} {lo : Nat → Nat → Int64} {rv : Nat → Nat → Option Nat}  {vR : Int32} (hG : aGood sh rv) (hf : fX11_tired i = some (vR)) : aM l yX11_tired cX11_tired 4 (some .int) 1 [.ref (100 + 0)] (sh, i, lo, rv) (some (.int vR)) (sh, i, lo, rv) :=
  aM_of (by decide) (Nat.le_of_ble_eq_true rfl) (Nat.le_refl _) (Nat.le_refl _) (fun p e s m args below meth c D cA A ad0 hX hr hlk hnm => kX11_tired hX hr hlk (Nat.le_refl _) (Nat.le_refl _) hG hf)
def fX11_beside_46 (kh17 : Int32 → Int32 → Int32 → (Nat → Nat → Int32) → Option ((Int32))) (x1 : Int32) (x2 : Int32) (x3 : Int32) (i : Nat → Nat → Int32) : Option ((Int32)) := kh17 x1 x2 (x3 + 1) i
theorem kX11_beside_46  {vR : Int32} (hX : aX p s m args c RX11 cX11_beside 4 D cA A ad0) (hr : meth.sig.returnType = (some .int)) (hlk : meth.locks = false) (hRf : 2 ≤ R.frames) (hRl : 64 * 2 ≤ R.locals) {kh17 : Int32 → Int32 → Int32 → (Nat → Nat → Int32) → Option ((Int32))} (Hkh17 : ∀ (x1 : Int32) (x2 : Int32) (x3 : Int32), aGood sh rv → kh17 x1 x2 x3 i = some (vR) → aJ p l e R s m args below meth c (MQ below (aPost D cA ad0 A (sh, i0, lo0, rv0) (some (.int vR)) (sh, i, lo, rv)) args s (sh.length - sh.length) (aSn sh - aSn sh) A) D cA A ad0 4 sh.length (aSn sh) 17 [some (.ref (100 + 0)), some (.int x1), some (.int x2), some (.int x3)] [] (sh, i, lo, rv)) {x1 : Int32} {x2 : Int32} {x3 : Int32} (hG : aGood sh rv) (hf : fX11_beside_46 kh17 x1 x2 x3 i = some (vR)) : aJ p l e R s m args below meth c (MQ below (aPost D cA ad0 A (sh, i0, lo0, rv0) (some (.int vR)) (sh, i, lo, rv)) args s (sh.length - sh.length) (aSn sh - aSn sh) A) D cA A ad0 4 sh.length (aSn sh) 46 [some (.ref (100 + 0)), some (.int x1), some (.int x2), some (.int x3)] [] (sh, i, lo, rv) := by
  unfold fX11_beside_46 at hf
  refine j_iinc hX dX11_beside_46 rfl (congrArg (_ + ·) ic_1) (by decide) rfl ?_
  refine j_goto (tgt := 17) hX dX11_beside_49 (by decide) ?_
  exact aJx (Hkh17 _ _ _ hG  hf) (And.intro rfl (And.intro rfl (And.intro rfl (And.intro rfl (rfl)))))
def fX11_beside_17 : Nat → Int32 → Int32 → Int32 → (Nat → Nat → Int32) → Option ((Int32))
  | 0, _, _, _, _ => none
  | n + 1, x1, x2, x3, i => bn1 (fX1_sleepers 15 i) fun v3 =>
    if v3 ≤ x3 then (some (x2)) else (bn1 (fX8_areBeside 19 x3 x1 i) fun v5 =>
    if v5 = 0 then (fX11_beside_46 (fX11_beside_17 n) x1 x2 x3 i) else (lt (x2 ||| ((1 : Int32) <<< (x3 &&& 31))) fun t7 =>
    fX11_beside_46 (fX11_beside_17 n) x1 t7 x3 i))
theorem kX11_beside_17  {vR : Int32} (hX : aX p s m args c RX11 cX11_beside 4 D cA A ad0) (hr : meth.sig.returnType = (some .int)) (hlk : meth.locks = false) (hRf : 2 ≤ R.frames) (hRl : 64 * 2 ≤ R.locals) : ∀ (n : Nat) (x1 : Int32) (x2 : Int32) (x3 : Int32), aGood sh rv → fX11_beside_17 n x1 x2 x3 i = some (vR) → aJ p l e R s m args below meth c (MQ below (aPost D cA ad0 A (sh, i0, lo0, rv0) (some (.int vR)) (sh, i, lo, rv)) args s (sh.length - sh.length) (aSn sh - aSn sh) A) D cA A ad0 4 sh.length (aSn sh) 17 [some (.ref (100 + 0)), some (.int x1), some (.int x2), some (.int x3)] [] (sh, i, lo, rv) := by
  intro n
  induction n with
  | zero => intros; rename_i hf; cases hf
  | succ n ih =>
    intro x1 x2 x3 hG hf
    rw [fX11_beside_17] at hf
    refine j_iload_n hX dX11_beside_17 rfl ?_
    refine j_aload_n hX dX11_beside_18 rfl ?_
    refine j_getR (k := 3) hX kX11 (by decide) fk_X11_30 (rf_0_3 hG) dX11_beside_19 (sh_0 hG) rfl ?_
    obtain ⟨v3, hh4, hf⟩ := bd1 hf
    refine j_cV0i hX lk_X11_282 kX1 dX11_beside_22 (sh_15 hG) (okX1_sleepers hG (cr_15 hG) hh4) rfl rfl (rmm (by omega) hRf hRl (by decide)) (Nat.le_of_ble_eq_true rfl) (Nat.le_add_right _ _) (Nat.le_add_right _ _) ?_
    refine j_icmp_ge (tgt := 52) hX dX11_beside_25 (by decide) (fun hc => ?_) (fun hc => ?_)
    · have hf := ifp hc hf
      refine j_iload_n hX dX11_beside_52 rfl ?_
      cases hf
      exact j_ret hX hr hlk rfl dX11_beside_53
    · have hf := ifn hc hf
      refine j_aload_n hX dX11_beside_28 rfl ?_
      refine j_getR (k := 4) hX kX11 (by decide) fk_X11_36 (rf_0_4 hG) dX11_beside_29 (sh_0 hG) rfl ?_
      refine j_iload_n hX dX11_beside_32 rfl ?_
      refine j_iload_n hX dX11_beside_33 rfl ?_
      obtain ⟨v5, hh6, hf⟩ := bd1 hf
      refine j_cV2i hX lk_X11_305 kX8 dX11_beside_34 (sh_19 hG) (okX8_areBeside hG (sc_19 hG) hh6) rfl rfl (rmm (by omega) hRf hRl (by decide)) (Nat.le_of_ble_eq_true rfl) (Nat.le_add_right _ _) (Nat.le_add_right _ _) ?_
      refine jpc (b := 37) rfl ?_
      refine j_if_eq (tgt := 46) hX dX11_beside_37 (by decide) (fun hc => ?_) (fun hc => ?_)
      · have hf := ifp hc hf
        exact aJx (kX11_beside_46 hX hr hlk hRf hRl ih hG  hf) (And.intro rfl (And.intro rfl (And.intro rfl (And.intro rfl (rfl)))))
      · have hf := ifn hc hf
        refine j_iload_n hX dX11_beside_40 rfl ?_
        refine j_iconst hX dX11_beside_41 ic_1 ?_
        refine j_iload_n hX dX11_beside_42 rfl ?_
        refine j_ishl hX dX11_beside_43 ?_
        refine j_ior hX dX11_beside_44 ?_
        refine jpc (b := 45) rfl ?_
        have hf := ltd hf
        refine j_istore_n hX dX11_beside_45 (by decide) rfl ?_
        exact aJx (kX11_beside_46 hX hr hlk hRf hRl ih hG  hf) (And.intro rfl (And.intro rfl (And.intro rfl (And.intro rfl (rfl)))))
def fX11_beside (a1 : Int32) (i : Nat → Nat → Int32) : Option ((Int32)) := bn1 (fX1_hasSleeper 15 a1 i) fun v1 =>
    if v1 = 0 then (some ((-1))) else (fX11_beside_17 fuel a1 0 0 i)
theorem kX11_beside  {vR : Int32} (hX : aX p s m args c RX11 cX11_beside 4 D cA A ad0) (hr : meth.sig.returnType = (some .int)) (hlk : meth.locks = false) (hRf : 2 ≤ R.frames) (hRl : 64 * 2 ≤ R.locals) {a1 : Int32} (hG : aGood sh rv) (hf : fX11_beside a1 i = some (vR)) : aJ p l e R s m args below meth c (MQ below (aPost D cA ad0 A (sh, i0, lo0, rv0) (some (.int vR)) (sh, i, lo, rv)) args s (sh.length - sh.length) (aSn sh - aSn sh) A) D cA A ad0 4 sh.length (aSn sh) 0 [some (.ref (100 + 0)), some (.int a1), none, none] [] (sh, i, lo, rv) := by
  unfold fX11_beside at hf
  refine j_aload_n hX dX11_beside_0 rfl ?_
  refine j_getR (k := 3) hX kX11 (by decide) fk_X11_30 (rf_0_3 hG) dX11_beside_1 (sh_0 hG) rfl ?_
  refine j_iload_n hX dX11_beside_4 rfl ?_
  obtain ⟨v1, hh2, hf⟩ := bd1 hf
  refine j_cV1i hX lk_X11_130 kX1 dX11_beside_5 (sh_15 hG) (okX1_hasSleeper hG (cr_15 hG) hh2) rfl rfl (rmm (by omega) hRf hRl (by decide)) (Nat.le_of_ble_eq_true rfl) (Nat.le_add_right _ _) (Nat.le_add_right _ _) ?_
  refine j_if_ne (tgt := 13) hX dX11_beside_8 (by decide) (fun hc => ?_) (fun hc => ?_)
  · have hf := ifn hc hf
    refine j_iconst hX dX11_beside_13 ic_0 ?_
    refine j_istore_n hX dX11_beside_14 (by decide) rfl ?_
    refine j_iconst hX dX11_beside_15 ic_0 ?_
    refine j_istore_n hX dX11_beside_16 (by decide) rfl ?_
    exact aJx (kX11_beside_17 hX hr hlk hRf hRl fuel _ _ _ hG  hf) (And.intro rfl (And.intro rfl (And.intro rfl (And.intro rfl (rfl)))))
  · have hf := ifp hc hf
    refine j_iconst hX dX11_beside_11 ic_m1 ?_
    cases hf
    exact j_ret hX hr hlk rfl dX11_beside_12
theorem okX11_beside {l : Launch} {sh : List aSh} {i : Nat → Nat → Int32} {lo : Nat → Nat → Int64} {rv : Nat → Nat → Option Nat}  {a1 : Int32} {vR : Int32} (hG : aGood sh rv) (hf : fX11_beside a1 i = some (vR)) : aM l yX11_beside cX11_beside 4 (some .int) 2 [.ref (100 + 0), .int a1] (sh, i, lo, rv) (some (.int vR)) (sh, i, lo, rv) :=
  aM_of (by decide) (Nat.le_of_ble_eq_true rfl) (Nat.le_refl _) (Nat.le_refl _) (fun p e s m args below meth c D cA A ad0 hX hr hlk hnm => kX11_beside hX hr hlk (Nat.le_refl _) (Nat.le_refl _) hG hf)
def fX11_slack (a1 : Int32) (i : Nat → Nat → Int32) (rv : Nat → Nat → Option Nat) : Option ((Int32) × (Nat → Nat → Int32)) := bn1 (fX1_hasOfficer 15 a1 i) fun v1 =>
    if v1 = 0 then (some ((-1000000), i)) else (bn1 (fX1_allowedTens 15 i) fun v3 =>
    bn2 (fX3_pass 19 a1 0 i rv) fun v5 i6 =>
    some ((v3 - v5), i6))
theorem kX11_slack  {vR : Int32} {iR : Nat → Nat → Int32} (hX : aX p s m args c RX11 cX11_slack 2 D cA A ad0) (hr : meth.sig.returnType = (some .int)) (hlk : meth.locks = false) (hRf : 5 ≤ R.frames) (hRl : 64 * 5 ≤ R.locals) {a1 : Int32} (hG : aGood sh rv) (hf : fX11_slack a1 i rv = some (vR, iR)) : aJ p l e R s m args below meth c (MQ below (aPost D cA ad0 A (sh, i0, lo0, rv0) (some (.int vR)) (sh, iR, lo, rv)) args s (sh.length - sh.length) (aSn sh - aSn sh) A) D cA A ad0 2 sh.length (aSn sh) 0 [some (.ref (100 + 0)), some (.int a1)] [] (sh, i, lo, rv) := by
  unfold fX11_slack at hf
  refine j_aload_n hX dX11_slack_0 rfl ?_
  refine j_getR (k := 3) hX kX11 (by decide) fk_X11_30 (rf_0_3 hG) dX11_slack_1 (sh_0 hG) rfl ?_
  refine j_iload_n hX dX11_slack_4 rfl ?_
  obtain ⟨v1, hh2, hf⟩ := bd1 hf
  refine j_cV1i hX lk_X11_162 kX1 dX11_slack_5 (sh_15 hG) (okX1_hasOfficer hG (cr_15 hG) hh2) rfl rfl (rmm (by omega) hRf hRl (by decide)) (Nat.le_of_ble_eq_true rfl) (Nat.le_add_right _ _) (Nat.le_add_right _ _) ?_
  refine j_if_eq (tgt := 35) hX dX11_slack_8 (by decide) (fun hc => ?_) (fun hc => ?_)
  · have hf := ifp hc hf
    refine j_ldc hX kc_X11_219 dX11_slack_35 ?_
    cases hf
    exact j_ret hX hr hlk rfl dX11_slack_37
  · have hf := ifn hc hf
    refine j_aload_n hX dX11_slack_11 rfl ?_
    refine j_getR (k := 3) hX kX11 (by decide) fk_X11_30 (rf_0_3 hG) dX11_slack_12 (sh_0 hG) rfl ?_
    obtain ⟨v3, hh4, hf⟩ := bd1 hf
    refine j_cV0i hX lk_X11_309 kX1 dX11_slack_15 (sh_15 hG) (okX1_allowedTens hG (cr_15 hG) hh4) rfl rfl (rmm (by omega) hRf hRl (by decide)) (Nat.le_of_ble_eq_true rfl) (Nat.le_add_right _ _) (Nat.le_add_right _ _) ?_
    refine j_aload_n hX dX11_slack_18 rfl ?_
    refine j_getR (k := 6) hX kX11 (by decide) fk_X11_48 (rf_0_6 hG) dX11_slack_19 (sh_0 hG) rfl ?_
    refine jpc (b := 22) rfl ?_
    refine j_aload_n hX dX11_slack_22 rfl ?_
    refine j_getR (k := 4) hX kX11 (by decide) fk_X11_36 (rf_0_4 hG) dX11_slack_23 (sh_0 hG) rfl ?_
    refine j_iload_n hX dX11_slack_26 rfl ?_
    refine j_iconst hX dX11_slack_27 ic_0 ?_
    obtain ⟨v5, i6, hh7, hf⟩ := bd2 hf
    refine j_cV3i hX lk_X11_233 kX3 dX11_slack_28 (sh_23 hG) (okX3_pass hG (sc_19 hG) hh7) rfl rfl (rmm (by omega) hRf hRl (by decide)) (Nat.le_of_ble_eq_true rfl) (Nat.le_add_right _ _) (Nat.le_add_right _ _) ?_
    refine j_isub hX dX11_slack_31 ?_
    refine jpc (b := 32) rfl ?_
    refine j_goto (tgt := 37) hX dX11_slack_32 (by decide) ?_
    cases hf
    exact j_ret hX hr hlk rfl dX11_slack_37
theorem okX11_slack {l : Launch} {sh : List aSh} {i : Nat → Nat → Int32} {lo : Nat → Nat → Int64} {rv : Nat → Nat → Option Nat}  {a1 : Int32} {vR : Int32} {iR : Nat → Nat → Int32} (hG : aGood sh rv) (hf : fX11_slack a1 i rv = some (vR, iR)) : aM l yX11_slack cX11_slack 2 (some .int) 5 [.ref (100 + 0), .int a1] (sh, i, lo, rv) (some (.int vR)) (sh, iR, lo, rv) :=
  aM_of (by decide) (Nat.le_of_ble_eq_true rfl) (Nat.le_refl _) (Nat.le_refl _) (fun p e s m args below meth c D cA A ad0 hX hr hlk hnm => kX11_slack hX hr hlk (Nat.le_refl _) (Nat.le_refl _) hG hf)
def fX3_lastFetched (i : Nat → Nat → Int32) : Option ((Int32)) := some ((i 23 4))
theorem kX3_lastFetched  {vR : Int32} (hX : aX p s m args c RX3 cX3_lastFetched 1 D cA A ad0) (hr : meth.sig.returnType = (some .int)) (hlk : meth.locks = false) (hRf : 0 ≤ R.frames) (hRl : 64 * 0 ≤ R.locals) (hG : aGood sh rv) (hf : fX3_lastFetched i = some (vR)) : aJ p l e R s m args below meth c (MQ below (aPost D cA ad0 A (sh, i0, lo0, rv0) (some (.int vR)) (sh, i, lo, rv)) args s (sh.length - sh.length) (aSn sh - aSn sh) A) D cA A ad0 1 sh.length (aSn sh) 0 [some (.ref (100 + 23))] [] (sh, i, lo, rv) := by
  unfold fX3_lastFetched at hf
  refine j_aload_n hX dX3_lastFetched_0 rfl ?_
  refine j_getI (k := 4) hX kX3 (by decide) fk_X3_29 dX3_lastFetched_1 (sh_23 hG) rfl ?_
  cases hf
  exact j_ret hX hr hlk rfl dX3_lastFetched_4
theorem okX3_lastFetched {l : Launch} {sh : List aSh} {i : Nat → Nat → Int32} {lo : Nat → Nat → Int64} {rv : Nat → Nat → Option Nat}  {vR : Int32} (hG : aGood sh rv) (hf : fX3_lastFetched i = some (vR)) : aM l yX3_lastFetched cX3_lastFetched 1 (some .int) 0 [.ref (100 + 23)] (sh, i, lo, rv) (some (.int vR)) (sh, i, lo, rv) :=
  aM_of (by decide) (Nat.le_of_ble_eq_true rfl) (Nat.le_refl _) (Nat.le_refl _) (fun p e s m args below meth c D cA A ad0 hX hr hlk hnm => kX3_lastFetched hX hr hlk (Nat.le_refl _) (Nat.le_refl _) hG hf)
def fX11_longest (a1 : Int32) (i : Nat → Nat → Int32) (rv : Nat → Nat → Option Nat) : Option ((Int32) × (Nat → Nat → Int32)) := bn1 (fX1_hasOfficer 15 a1 i) fun v1 =>
    if v1 = 0 then (some ((-1), i)) else (bn2 (fX3_pass 19 a1 0 i rv) fun v3 i4 =>
    bn1 (fX3_lastFetched i4) fun v6 =>
    some (v6, i4))
theorem kX11_longest  {vR : Int32} {iR : Nat → Nat → Int32} (hX : aX p s m args c RX11 cX11_longest 2 D cA A ad0) (hr : meth.sig.returnType = (some .int)) (hlk : meth.locks = false) (hRf : 5 ≤ R.frames) (hRl : 64 * 5 ≤ R.locals) {a1 : Int32} (hG : aGood sh rv) (hf : fX11_longest a1 i rv = some (vR, iR)) : aJ p l e R s m args below meth c (MQ below (aPost D cA ad0 A (sh, i0, lo0, rv0) (some (.int vR)) (sh, iR, lo, rv)) args s (sh.length - sh.length) (aSn sh - aSn sh) A) D cA A ad0 2 sh.length (aSn sh) 0 [some (.ref (100 + 0)), some (.int a1)] [] (sh, i, lo, rv) := by
  unfold fX11_longest at hf
  refine j_aload_n hX dX11_longest_0 rfl ?_
  refine j_getR (k := 3) hX kX11 (by decide) fk_X11_30 (rf_0_3 hG) dX11_longest_1 (sh_0 hG) rfl ?_
  refine j_iload_n hX dX11_longest_4 rfl ?_
  obtain ⟨v1, hh2, hf⟩ := bd1 hf
  refine j_cV1i hX lk_X11_162 kX1 dX11_longest_5 (sh_15 hG) (okX1_hasOfficer hG (cr_15 hG) hh2) rfl rfl (rmm (by omega) hRf hRl (by decide)) (Nat.le_of_ble_eq_true rfl) (Nat.le_add_right _ _) (Nat.le_add_right _ _) ?_
  refine j_if_ne (tgt := 13) hX dX11_longest_8 (by decide) (fun hc => ?_) (fun hc => ?_)
  · have hf := ifn hc hf
    refine j_aload_n hX dX11_longest_13 rfl ?_
    refine j_getR (k := 6) hX kX11 (by decide) fk_X11_48 (rf_0_6 hG) dX11_longest_14 (sh_0 hG) rfl ?_
    refine j_aload_n hX dX11_longest_17 rfl ?_
    refine j_getR (k := 4) hX kX11 (by decide) fk_X11_36 (rf_0_4 hG) dX11_longest_18 (sh_0 hG) rfl ?_
    refine j_iload_n hX dX11_longest_21 rfl ?_
    refine jpc (b := 22) rfl ?_
    refine j_iconst hX dX11_longest_22 ic_0 ?_
    obtain ⟨v3, i4, hh5, hf⟩ := bd2 hf
    refine j_cV3i hX lk_X11_233 kX3 dX11_longest_23 (sh_23 hG) (okX3_pass hG (sc_19 hG) hh5) rfl rfl (rmm (by omega) hRf hRl (by decide)) (Nat.le_of_ble_eq_true rfl) (Nat.le_add_right _ _) (Nat.le_add_right _ _) ?_
    refine j_pop hX dX11_longest_26 rfl ?_
    refine j_aload_n hX dX11_longest_27 rfl ?_
    refine j_getR (k := 6) hX kX11 (by decide) fk_X11_48 (rf_0_6 hG) dX11_longest_28 (sh_0 hG) rfl ?_
    obtain ⟨v6, hh7, hf⟩ := bd1 hf
    refine j_cV0i hX lk_X11_312 kX3 dX11_longest_31 (sh_23 hG) (okX3_lastFetched hG hh7) rfl rfl (rmm (by omega) hRf hRl (by decide)) (Nat.le_of_ble_eq_true rfl) (Nat.le_add_right _ _) (Nat.le_add_right _ _) ?_
    refine jpc (b := 34) rfl ?_
    cases hf
    exact j_ret hX hr hlk rfl dX11_longest_34
  · have hf := ifp hc hf
    refine j_iconst hX dX11_longest_11 ic_m1 ?_
    cases hf
    exact j_ret hX hr hlk rfl dX11_longest_12
theorem okX11_longest {l : Launch} {sh : List aSh} {i : Nat → Nat → Int32} {lo : Nat → Nat → Int64} {rv : Nat → Nat → Option Nat}  {a1 : Int32} {vR : Int32} {iR : Nat → Nat → Int32} (hG : aGood sh rv) (hf : fX11_longest a1 i rv = some (vR, iR)) : aM l yX11_longest cX11_longest 2 (some .int) 5 [.ref (100 + 0), .int a1] (sh, i, lo, rv) (some (.int vR)) (sh, iR, lo, rv) :=
  aM_of (by decide) (Nat.le_of_ble_eq_true rfl) (Nat.le_refl _) (Nat.le_refl _) (fun p e s m args below meth c D cA A ad0 hX hr hlk hnm => kX11_longest hX hr hlk (Nat.le_refl _) (Nat.le_refl _) hG hf)
def fX6_keepImage (p1 : Nat) (i : Nat → Nat → Int32) : Option ((Nat → Nat → Int32)) := bn1 (fX8_copyTo p1 28 56 0 i) fun i1 =>
    if ¬ (0 : Int32) < 0 ∧ ¬ (0 : Int32) < 0 ∧ ¬ ((nI 400) : Int32) < 0 ∧ (0 : Int32).toNatClampNeg + ((nI 400) : Int32).toNatClampNeg ≤ 400 ∧ (0 : Int32).toNatClampNeg + ((nI 400) : Int32).toNatClampNeg ≤ 400 then
    (lt (cp2 i1 (i1 27) (0 : Int32).toNatClampNeg 29 (0 : Int32).toNatClampNeg ((nI 400) : Int32).toNatClampNeg) fun i3 => lt (u2 i3 25 6 1) fun i4 =>
    some (i4)) else none
theorem kX6_keepImage  {p1 : Nat} {iR : Nat → Nat → Int32} (hX : aX p s m args c RX6 cX6_keepImage 2 D cA A ad0) (hr : meth.sig.returnType = none) (hlk : meth.locks = false) (hRf : 2 ≤ R.frames) (hRl : 64 * 2 ≤ R.locals) (h1 : isScn sh rv p1) (hG : aGood sh rv) (hf : fX6_keepImage p1 i = some (iR)) : aJ p l e R s m args below meth c (MQ below (aPost D cA ad0 A (sh, i0, lo0, rv0) none (sh, iR, lo, rv)) args s (sh.length - sh.length) (aSn sh - aSn sh) A) D cA A ad0 2 sh.length (aSn sh) 0 [some (.ref (100 + 25)), some (.ref (100 + p1))] [] (sh, i, lo, rv) := by
  unfold fX6_keepImage at hf
  refine j_aload_n hX dX6_keepImage_0 rfl ?_
  refine j_aload_n hX dX6_keepImage_1 rfl ?_
  refine j_getR (k := 2) hX kX6 (by decide) fk_X6_18 (rf_25_2 hG) dX6_keepImage_2 (sh_25 hG) rfl ?_
  refine j_iconst hX dX6_keepImage_5 ic_0 ?_
  obtain ⟨i1, hh2, hf⟩ := bd1 hf
  refine j_cV2v hX lk_X6_35 kX8 dX6_keepImage_6 h1.1 (okX8_copyTo hG h1 (sh_28 hG) hh2) rfl rfl (rmm (by omega) hRf hRl (by decide)) (Nat.le_of_ble_eq_true rfl) (Nat.le_add_right _ _) (Nat.le_add_right _ _) ?_
  refine jpc (b := 9) rfl ?_
  refine j_aload_n hX dX6_keepImage_9 rfl ?_
  refine j_getR (k := 1) hX kX6 (by decide) fk_X6_15 (rf_25_1 hG) dX6_keepImage_10 (sh_25 hG) rfl ?_
  refine j_iconst hX dX6_keepImage_13 ic_0 ?_
  refine j_aload_n hX dX6_keepImage_14 rfl ?_
  refine j_getR (k := 3) hX kX6 (by decide) fk_X6_21 (rf_25_3 hG) dX6_keepImage_15 (sh_25 hG) rfl ?_
  refine j_iconst hX dX6_keepImage_18 ic_0 ?_
  refine jpc (b := 19) rfl ?_
  refine j_aload_n hX dX6_keepImage_19 rfl ?_
  refine j_getR (k := 1) hX kX6 (by decide) fk_X6_15 (rf_25_1 hG) dX6_keepImage_20 (sh_25 hG) rfl ?_
  refine j_alen (t0 := 0) hX (sh_27 hG) (fun _ => rfl) dX6_keepImage_23 ?_
  obtain ⟨hg, hf⟩ := gd hf
  have hf := ltd hf
  refine j_copy hX lk_X6_55 (sh_27 hG) (sh_29 hG) hg.1 hg.2.1 hg.2.2.1 hg.2.2.2.1 hg.2.2.2.2 (by omega) (Nat.le_trans (Nat.le_of_ble_eq_true rfl) hRl) dX6_keepImage_24 ?_
  refine j_aload_n hX dX6_keepImage_27 rfl ?_
  refine j_iconst hX dX6_keepImage_28 ic_1 ?_
  have hf := ltd hf
  refine j_putI (k := 6) hX kX6 (by decide) fk_X6_28 dX6_keepImage_29 (sh_25 hG) rfl rfl rfl rfl ?_
  cases hf
  exact j_vret hX hr hlk dX6_keepImage_32
theorem okX6_keepImage {l : Launch} {sh : List aSh} {i : Nat → Nat → Int32} {lo : Nat → Nat → Int64} {rv : Nat → Nat → Option Nat}  {p1 : Nat} {iR : Nat → Nat → Int32} (hG : aGood sh rv) (h1 : isScn sh rv p1) (hf : fX6_keepImage p1 i = some (iR)) : aM l yX6_keepImage cX6_keepImage 2 none 2 [.ref (100 + 25), .ref (100 + p1)] (sh, i, lo, rv) none (sh, iR, lo, rv) :=
  aM_of (by decide) (Nat.le_of_ble_eq_true rfl) (Nat.le_refl _) (Nat.le_refl _) (fun p e s m args below meth c D cA A ad0 hX hr hlk hnm => kX6_keepImage hX hr hlk (Nat.le_refl _) (Nat.le_refl _) h1 hG hf)
def fX11_image (i : Nat → Nat → Int32) : Option ((Int32) × (Nat → Nat → Int32)) := bn1 (fX11_noCar i) fun v1 =>
    if v1 = 0 then (bn1 (fX6_keepImage 19 i) fun i3 =>
    bn1 (fX8_asleepInAll 19 i3) fun v5 =>
    some (v5, i3)) else (some ((-1), i))
theorem kX11_image  {vR : Int32} {iR : Nat → Nat → Int32} (hX : aX p s m args c RX11 cX11_image 1 D cA A ad0) (hr : meth.sig.returnType = (some .int)) (hlk : meth.locks = false) (hRf : 3 ≤ R.frames) (hRl : 64 * 3 ≤ R.locals) (hG : aGood sh rv) (hf : fX11_image i = some (vR, iR)) : aJ p l e R s m args below meth c (MQ below (aPost D cA ad0 A (sh, i0, lo0, rv0) (some (.int vR)) (sh, iR, lo, rv)) args s (sh.length - sh.length) (aSn sh - aSn sh) A) D cA A ad0 1 sh.length (aSn sh) 0 [some (.ref (100 + 0))] [] (sh, i, lo, rv) := by
  unfold fX11_image at hf
  refine j_aload_n hX dX11_image_0 rfl ?_
  obtain ⟨v1, hh2, hf⟩ := bd1 hf
  refine j_cV0i hX lk_X11_120 kX11 dX11_image_1 (sh_0 hG) (okX11_noCar hG hh2) rfl rfl (rmm (by omega) hRf hRl (by decide)) (Nat.le_of_ble_eq_true rfl) (Nat.le_add_right _ _) (Nat.le_add_right _ _) ?_
  refine j_if_eq (tgt := 9) hX dX11_image_4 (by decide) (fun hc => ?_) (fun hc => ?_)
  · have hf := ifp hc hf
    refine j_aload_n hX dX11_image_9 rfl ?_
    refine j_getR (k := 7) hX kX11 (by decide) fk_X11_55 (rf_0_7 hG) dX11_image_10 (sh_0 hG) rfl ?_
    refine j_aload_n hX dX11_image_13 rfl ?_
    refine j_getR (k := 4) hX kX11 (by decide) fk_X11_36 (rf_0_4 hG) dX11_image_14 (sh_0 hG) rfl ?_
    obtain ⟨i3, hh4, hf⟩ := bd1 hf
    refine j_cV1v hX lk_X11_315 kX6 dX11_image_17 (sh_25 hG) (okX6_keepImage hG (sc_19 hG) hh4) rfl rfl (rmm (by omega) hRf hRl (by decide)) (Nat.le_of_ble_eq_true rfl) (Nat.le_add_right _ _) (Nat.le_add_right _ _) ?_
    refine jpc (b := 20) rfl ?_
    refine j_aload_n hX dX11_image_20 rfl ?_
    refine j_getR (k := 4) hX kX11 (by decide) fk_X11_36 (rf_0_4 hG) dX11_image_21 (sh_0 hG) rfl ?_
    obtain ⟨v5, hh6, hf⟩ := bd1 hf
    refine j_cV0i hX lk_X11_318 kX8 dX11_image_24 (sh_19 hG) (okX8_asleepInAll hG (sc_19 hG) hh6) rfl rfl (rmm (by omega) hRf hRl (by decide)) (Nat.le_of_ble_eq_true rfl) (Nat.le_add_right _ _) (Nat.le_add_right _ _) ?_
    cases hf
    exact j_ret hX hr hlk rfl dX11_image_27
  · have hf := ifn hc hf
    refine j_iconst hX dX11_image_7 ic_m1 ?_
    cases hf
    exact j_ret hX hr hlk rfl dX11_image_8
theorem okX11_image {l : Launch} {sh : List aSh} {i : Nat → Nat → Int32} {lo : Nat → Nat → Int64} {rv : Nat → Nat → Option Nat}  {vR : Int32} {iR : Nat → Nat → Int32} (hG : aGood sh rv) (hf : fX11_image i = some (vR, iR)) : aM l yX11_image cX11_image 1 (some .int) 3 [.ref (100 + 0)] (sh, i, lo, rv) (some (.int vR)) (sh, iR, lo, rv) :=
  aM_of (by decide) (Nat.le_of_ble_eq_true rfl) (Nat.le_refl _) (Nat.le_refl _) (fun p e s m args below meth c D cA A ad0 hX hr hlk hnm => kX11_image hX hr hlk (Nat.le_refl _) (Nat.le_refl _) hG hf)
def fX6_restoreImage (p1 : Nat) (i : Nat → Nat → Int32) : Option ((Int32) × (Nat → Nat → Int32)) := if (i 25 6) = 0 then (some (0, i)) else (bn1 (fX8_copyBack p1 28 56 0 i) fun i1 =>
    if ¬ (0 : Int32) < 0 ∧ ¬ (0 : Int32) < 0 ∧ ¬ ((nI 400) : Int32) < 0 ∧ (0 : Int32).toNatClampNeg + ((nI 400) : Int32).toNatClampNeg ≤ 400 ∧ (0 : Int32).toNatClampNeg + ((nI 400) : Int32).toNatClampNeg ≤ 400 then
    (lt (cp2 i1 (i1 29) (0 : Int32).toNatClampNeg 27 (0 : Int32).toNatClampNeg ((nI 400) : Int32).toNatClampNeg) fun i3 => lt (u2 i3 25 5 0) fun i4 =>
    some (1, i4)) else none)
theorem kX6_restoreImage  {p1 : Nat} {vR : Int32} {iR : Nat → Nat → Int32} (hX : aX p s m args c RX6 cX6_restoreImage 2 D cA A ad0) (hr : meth.sig.returnType = (some .boolean)) (hlk : meth.locks = false) (hRf : 2 ≤ R.frames) (hRl : 64 * 2 ≤ R.locals) (h1 : isScn sh rv p1) (hG : aGood sh rv) (hf : fX6_restoreImage p1 i = some (vR, iR)) : aJ p l e R s m args below meth c (MQ below (aPost D cA ad0 A (sh, i0, lo0, rv0) (some (.int vR)) (sh, iR, lo, rv)) args s (sh.length - sh.length) (aSn sh - aSn sh) A) D cA A ad0 2 sh.length (aSn sh) 0 [some (.ref (100 + 25)), some (.ref (100 + p1))] [] (sh, i, lo, rv) := by
  unfold fX6_restoreImage at hf
  refine j_aload_n hX dX6_restoreImage_0 rfl ?_
  refine j_getI (k := 6) hX kX6 (by decide) fk_X6_28 dX6_restoreImage_1 (sh_25 hG) rfl ?_
  refine j_if_ne (tgt := 9) hX dX6_restoreImage_4 (by decide) (fun hc => ?_) (fun hc => ?_)
  · have hf := ifn hc hf
    refine j_aload_n hX dX6_restoreImage_9 rfl ?_
    refine j_aload_n hX dX6_restoreImage_10 rfl ?_
    refine j_getR (k := 2) hX kX6 (by decide) fk_X6_18 (rf_25_2 hG) dX6_restoreImage_11 (sh_25 hG) rfl ?_
    refine j_iconst hX dX6_restoreImage_14 ic_0 ?_
    obtain ⟨i1, hh2, hf⟩ := bd1 hf
    refine j_cV2v hX lk_X6_45 kX8 dX6_restoreImage_15 h1.1 (okX8_copyBack hG h1 (sh_28 hG) hh2) rfl rfl (rmm (by omega) hRf hRl (by decide)) (Nat.le_of_ble_eq_true rfl) (Nat.le_add_right _ _) (Nat.le_add_right _ _) ?_
    refine jpc (b := 18) rfl ?_
    refine j_aload_n hX dX6_restoreImage_18 rfl ?_
    refine j_getR (k := 3) hX kX6 (by decide) fk_X6_21 (rf_25_3 hG) dX6_restoreImage_19 (sh_25 hG) rfl ?_
    refine j_iconst hX dX6_restoreImage_22 ic_0 ?_
    refine j_aload_n hX dX6_restoreImage_23 rfl ?_
    refine j_getR (k := 1) hX kX6 (by decide) fk_X6_15 (rf_25_1 hG) dX6_restoreImage_24 (sh_25 hG) rfl ?_
    refine j_iconst hX dX6_restoreImage_27 ic_0 ?_
    refine jpc (b := 28) rfl ?_
    refine j_aload_n hX dX6_restoreImage_28 rfl ?_
    refine j_getR (k := 1) hX kX6 (by decide) fk_X6_15 (rf_25_1 hG) dX6_restoreImage_29 (sh_25 hG) rfl ?_
    refine j_alen (t0 := 0) hX (sh_27 hG) (fun _ => rfl) dX6_restoreImage_32 ?_
    obtain ⟨hg, hf⟩ := gd hf
    have hf := ltd hf
    refine j_copy hX lk_X6_55 (sh_29 hG) (sh_27 hG) hg.1 hg.2.1 hg.2.2.1 hg.2.2.2.1 hg.2.2.2.2 (by omega) (Nat.le_trans (Nat.le_of_ble_eq_true rfl) hRl) dX6_restoreImage_33 ?_
    refine j_aload_n hX dX6_restoreImage_36 rfl ?_
    refine j_iconst hX dX6_restoreImage_37 ic_0 ?_
    have hf := ltd hf
    refine j_putI (k := 5) hX kX6 (by decide) fk_X6_24 dX6_restoreImage_38 (sh_25 hG) rfl rfl rfl rfl ?_
    refine j_iconst hX dX6_restoreImage_41 ic_1 ?_
    cases hf
    exact j_ret hX hr hlk rfl dX6_restoreImage_42
  · have hf := ifp hc hf
    refine j_iconst hX dX6_restoreImage_7 ic_0 ?_
    cases hf
    exact j_ret hX hr hlk rfl dX6_restoreImage_8
theorem okX6_restoreImage {l : Launch} {sh : List aSh} {i : Nat → Nat → Int32} {lo : Nat → Nat → Int64} {rv : Nat → Nat → Option Nat}  {p1 : Nat} {vR : Int32} {iR : Nat → Nat → Int32} (hG : aGood sh rv) (h1 : isScn sh rv p1) (hf : fX6_restoreImage p1 i = some (vR, iR)) : aM l yX6_restoreImage cX6_restoreImage 2 (some .boolean) 2 [.ref (100 + 25), .ref (100 + p1)] (sh, i, lo, rv) (some (.int vR)) (sh, iR, lo, rv) :=
  aM_of (by decide) (Nat.le_of_ble_eq_true rfl) (Nat.le_refl _) (Nat.le_refl _) (fun p e s m args below meth c D cA A ad0 hX hr hlk hnm => kX6_restoreImage hX hr hlk (Nat.le_refl _) (Nat.le_refl _) h1 hG hf)
end DC
