/-! decompiled: X11_back X9_linesCount X2_heard X2_looks X11_count X12_thrown X12_isIn X12_has J0_coder_7d493 J0_length_8abf5 X12_isAmong X12_bytesIn X12_put X12_feed X12_end X12_look X12_fails X12_goesIn X12_takes X12_isDigit X12_within X12_atom X12_term X12_sum X12_isSign X12_compares X12_part X12_condition X12_unit -/
section DC
variable {p : Program} {l : Launch} {e : Env} {R : Room} {s : State} {m : MethodId} {args : Array Value} {below : List Frame} {meth : Method} {c : Code} {D : va_G} {cA : FieldType → ClassId} {A : Nat → Prop} {ad0 : Nat → Nat} {sh : List aSh} {i i0 : Nat → Nat → Int32} {lo lo0 : Nat → Nat → Int64} {rv rv0 : Nat → Nat → Option Nat}
def fX11_back (i : Nat → Nat → Int32) : Option ((Int32) × (Nat → Nat → Int32)) := bn2 (fX6_restoreImage 19 i) fun v1 i2 =>
    if v1 = 0 then (some ((-1), i2)) else (bn1 (fX8_asleepInAll 19 i2) fun v4 =>
    some (v4, i2))
theorem kX11_back  {vR : Int32} {iR : Nat → Nat → Int32} (hX : aX p s m args c RX11 cX11_back 1 D cA A ad0) (hr : meth.sig.returnType = (some .int)) (hlk : meth.locks = false) (hRf : 3 ≤ R.frames) (hRl : 64 * 3 ≤ R.locals) (hG : aGood sh rv) (hf : fX11_back i = some (vR, iR)) : aJ p l e R s m args below meth c (MQ below (aPost D cA ad0 A (sh, i0, lo0, rv0) (some (.int vR)) (sh, iR, lo, rv)) args s (sh.length - sh.length) (aSn sh - aSn sh) A) D cA A ad0 1 sh.length (aSn sh) 0 [some (.ref (100 + 0))] [] (sh, i, lo, rv) := by
  unfold fX11_back at hf
  refine j_aload_n hX dX11_back_0 rfl ?_
  refine j_getR (k := 7) hX kX11 (by decide) fk_X11_55 (rf_0_7 hG) dX11_back_1 (sh_0 hG) rfl ?_
  refine j_aload_n hX dX11_back_4 rfl ?_
  refine j_getR (k := 4) hX kX11 (by decide) fk_X11_36 (rf_0_4 hG) dX11_back_5 (sh_0 hG) rfl ?_
  obtain ⟨v1, i2, hh3, hf⟩ := bd2 hf
  refine j_cV1i hX lk_X11_321 kX6 dX11_back_8 (sh_25 hG) (okX6_restoreImage hG (sc_19 hG) hh3) rfl rfl (rmm (by omega) hRf hRl (by decide)) (Nat.le_of_ble_eq_true rfl) (Nat.le_add_right _ _) (Nat.le_add_right _ _) ?_
  refine jpc (b := 11) rfl ?_
  refine j_if_eq (tgt := 24) hX dX11_back_11 (by decide) (fun hc => ?_) (fun hc => ?_)
  · have hf := ifp hc hf
    refine j_iconst hX dX11_back_24 ic_m1 ?_
    cases hf
    exact j_ret hX hr hlk rfl dX11_back_25
  · have hf := ifn hc hf
    refine j_aload_n hX dX11_back_14 rfl ?_
    refine j_getR (k := 4) hX kX11 (by decide) fk_X11_36 (rf_0_4 hG) dX11_back_15 (sh_0 hG) rfl ?_
    obtain ⟨v4, hh5, hf⟩ := bd1 hf
    refine j_cV0i hX lk_X11_318 kX8 dX11_back_18 (sh_19 hG) (okX8_asleepInAll hG (sc_19 hG) hh5) rfl rfl (rmm (by omega) hRf hRl (by decide)) (Nat.le_of_ble_eq_true rfl) (Nat.le_add_right _ _) (Nat.le_add_right _ _) ?_
    refine j_goto (tgt := 25) hX dX11_back_21 (by decide) ?_
    cases hf
    exact j_ret hX hr hlk rfl dX11_back_25
theorem okX11_back {l : Launch} {sh : List aSh} {i : Nat → Nat → Int32} {lo : Nat → Nat → Int64} {rv : Nat → Nat → Option Nat}  {vR : Int32} {iR : Nat → Nat → Int32} (hG : aGood sh rv) (hf : fX11_back i = some (vR, iR)) : aM l yX11_back cX11_back 1 (some .int) 3 [.ref (100 + 0)] (sh, i, lo, rv) (some (.int vR)) (sh, iR, lo, rv) :=
  aM_of (by decide) (Nat.le_of_ble_eq_true rfl) (Nat.le_refl _) (Nat.le_refl _) (fun p e s m args below meth c D cA A ad0 hX hr hlk hnm => kX11_back hX hr hlk (Nat.le_refl _) (Nat.le_refl _) hG hf)
def fX9_linesCount (i : Nat → Nat → Int32) : Option ((Int32)) := some ((i 3 5))
theorem kX9_linesCount  {vR : Int32} (hX : aX p s m args c RX9 cX9_linesCount 1 D cA A ad0) (hr : meth.sig.returnType = (some .int)) (hlk : meth.locks = false) (hRf : 0 ≤ R.frames) (hRl : 64 * 0 ≤ R.locals) (hG : aGood sh rv) (hf : fX9_linesCount i = some (vR)) : aJ p l e R s m args below meth c (MQ below (aPost D cA ad0 A (sh, i0, lo0, rv0) (some (.int vR)) (sh, i, lo, rv)) args s (sh.length - sh.length) (aSn sh - aSn sh) A) D cA A ad0 1 sh.length (aSn sh) 0 [some (.ref (100 + 3))] [] (sh, i, lo, rv) := by
  unfold fX9_linesCount at hf
  refine j_aload_n hX dX9_linesCount_0 rfl ?_
  refine j_getI (k := 5) hX kX9 (by decide) fk_X9_37 dX9_linesCount_1 (sh_3 hG) rfl ?_
  cases hf
  exact j_ret hX hr hlk rfl dX9_linesCount_4
theorem okX9_linesCount {l : Launch} {sh : List aSh} {i : Nat → Nat → Int32} {lo : Nat → Nat → Int64} {rv : Nat → Nat → Option Nat}  {vR : Int32} (hG : aGood sh rv) (hf : fX9_linesCount i = some (vR)) : aM l yX9_linesCount cX9_linesCount 1 (some .int) 0 [.ref (100 + 3)] (sh, i, lo, rv) (some (.int vR)) (sh, i, lo, rv) :=
  aM_of (by decide) (Nat.le_of_ble_eq_true rfl) (Nat.le_refl _) (Nat.le_refl _) (fun p e s m args below meth c D cA A ad0 hX hr hlk hnm => kX9_linesCount hX hr hlk (Nat.le_refl _) (Nat.le_refl _) hG hf)
def fX2_heard (i : Nat → Nat → Int32) : Option ((Int32)) := some ((i 45 7))
theorem kX2_heard  {vR : Int32} (hX : aX p s m args c RX2 cX2_heard 1 D cA A ad0) (hr : meth.sig.returnType = (some .int)) (hlk : meth.locks = false) (hRf : 0 ≤ R.frames) (hRl : 64 * 0 ≤ R.locals) (hG : aGood sh rv) (hf : fX2_heard i = some (vR)) : aJ p l e R s m args below meth c (MQ below (aPost D cA ad0 A (sh, i0, lo0, rv0) (some (.int vR)) (sh, i, lo, rv)) args s (sh.length - sh.length) (aSn sh - aSn sh) A) D cA A ad0 1 sh.length (aSn sh) 0 [some (.ref (100 + 45))] [] (sh, i, lo, rv) := by
  unfold fX2_heard at hf
  refine j_aload_n hX dX2_heard_0 rfl ?_
  refine j_getI (k := 7) hX kX2 (by decide) fk_X2_37 dX2_heard_1 (sh_45 hG) rfl ?_
  cases hf
  exact j_ret hX hr hlk rfl dX2_heard_4
theorem okX2_heard {l : Launch} {sh : List aSh} {i : Nat → Nat → Int32} {lo : Nat → Nat → Int64} {rv : Nat → Nat → Option Nat}  {vR : Int32} (hG : aGood sh rv) (hf : fX2_heard i = some (vR)) : aM l yX2_heard cX2_heard 1 (some .int) 0 [.ref (100 + 45)] (sh, i, lo, rv) (some (.int vR)) (sh, i, lo, rv) :=
  aM_of (by decide) (Nat.le_of_ble_eq_true rfl) (Nat.le_refl _) (Nat.le_refl _) (fun p e s m args below meth c D cA A ad0 hX hr hlk hnm => kX2_heard hX hr hlk (Nat.le_refl _) (Nat.le_refl _) hG hf)
def fX2_looks (i : Nat → Nat → Int32) : Option ((Int32)) := some ((i 45 8))
theorem kX2_looks  {vR : Int32} (hX : aX p s m args c RX2 cX2_looks 1 D cA A ad0) (hr : meth.sig.returnType = (some .int)) (hlk : meth.locks = false) (hRf : 0 ≤ R.frames) (hRl : 64 * 0 ≤ R.locals) (hG : aGood sh rv) (hf : fX2_looks i = some (vR)) : aJ p l e R s m args below meth c (MQ below (aPost D cA ad0 A (sh, i0, lo0, rv0) (some (.int vR)) (sh, i, lo, rv)) args s (sh.length - sh.length) (aSn sh - aSn sh) A) D cA A ad0 1 sh.length (aSn sh) 0 [some (.ref (100 + 45))] [] (sh, i, lo, rv) := by
  unfold fX2_looks at hf
  refine j_aload_n hX dX2_looks_0 rfl ?_
  refine j_getI (k := 8) hX kX2 (by decide) fk_X2_41 dX2_looks_1 (sh_45 hG) rfl ?_
  cases hf
  exact j_ret hX hr hlk rfl dX2_looks_4
theorem okX2_looks {l : Launch} {sh : List aSh} {i : Nat → Nat → Int32} {lo : Nat → Nat → Int64} {rv : Nat → Nat → Option Nat}  {vR : Int32} (hG : aGood sh rv) (hf : fX2_looks i = some (vR)) : aM l yX2_looks cX2_looks 1 (some .int) 0 [.ref (100 + 45)] (sh, i, lo, rv) (some (.int vR)) (sh, i, lo, rv) :=
  aM_of (by decide) (Nat.le_of_ble_eq_true rfl) (Nat.le_refl _) (Nat.le_refl _) (fun p e s m args below meth c D cA A ad0 hX hr hlk hnm => kX2_looks hX hr hlk (Nat.le_refl _) (Nat.le_refl _) hG hf)
def fX11_count (a1 : Int32) (i : Nat → Nat → Int32) : Option ((Int32)) := if a1 = 0 then (bn1 (fX1_sleepers 15 i) fun v1 =>
    some (v1)) else
    if a1 = 1 then (bn1 (fX1_officers 15 i) fun v3 =>
    some (v3)) else
    if a1 = 2 then (bn1 (fX9_lawCount i) fun v5 =>
    some (v5)) else
    if a1 = 3 then (bn1 (fX9_linesCount i) fun v7 =>
    some (v7)) else
    if a1 = 4 then (bn1 (fX10_size i) fun v9 =>
    some (v9)) else
    if a1 = 5 then (some ((i 0 12))) else
    if a1 = 6 then (bn1 (fX1_papers 15 i) fun v11 =>
    some (v11)) else
    if a1 = 7 then (bn1 (fX8_asleepInAll 19 i) fun v13 =>
    some (v13)) else
    if a1 = 8 then (some ((i 0 11))) else
    if a1 = 9 then (bn1 (fX2_heard i) fun v15 =>
    some (v15)) else
    if a1 = 10 then (bn1 (fX2_looks i) fun v17 =>
    some (v17)) else
    if a1 = 11 then (bn1 (fX6_logged 19 i) fun v19 =>
    some (v19)) else
    if a1 = 12 then (bn1 (fX6_acts i) fun v21 =>
    some (v21)) else
    if a1 = 13 then (bn1 (fX8_lostInAll 19 i) fun v23 =>
    some (v23)) else
    (some ((-1000000)))
theorem kX11_count  {vR : Int32} (hX : aX p s m args c RX11 cX11_count 2 D cA A ad0) (hr : meth.sig.returnType = (some .int)) (hlk : meth.locks = false) (hRf : 2 ≤ R.frames) (hRl : 64 * 2 ≤ R.locals) {a1 : Int32} (hG : aGood sh rv) (hf : fX11_count a1 i = some (vR)) : aJ p l e R s m args below meth c (MQ below (aPost D cA ad0 A (sh, i0, lo0, rv0) (some (.int vR)) (sh, i, lo, rv)) args s (sh.length - sh.length) (aSn sh - aSn sh) A) D cA A ad0 2 sh.length (aSn sh) 0 [some (.ref (100 + 0)), some (.int a1)] [] (sh, i, lo, rv) := by
  unfold fX11_count at hf
  refine j_iload_n hX dX11_count_0 rfl ?_
  refine sw2 (k := 0) hf (fun hc0 hf => ?_) (fun hc0 hf => ?_)
  · refine j_tabIn (off := 71) (tgt := 72) hX dX11_count_1 (by rw [hc0]; decide) (by rw [hc0]; decide) (by rw [hc0]; rfl) (by decide) ?_
    refine j_aload_n hX dX11_count_72 rfl ?_
    refine j_getR (k := 3) hX kX11 (by decide) fk_X11_30 (rf_0_3 hG) dX11_count_73 (sh_0 hG) rfl ?_
    obtain ⟨v1, hh2, hf⟩ := bd1 hf
    refine j_cV0i hX lk_X11_282 kX1 dX11_count_76 (sh_15 hG) (okX1_sleepers hG (cr_15 hG) hh2) rfl rfl (rmm (by omega) hRf hRl (by decide)) (Nat.le_of_ble_eq_true rfl) (Nat.le_add_right _ _) (Nat.le_add_right _ _) ?_
    cases hf
    exact j_ret hX hr hlk rfl dX11_count_79
  refine sw2 (k := 1) hf (fun hc1 hf => ?_) (fun hc1 hf => ?_)
  · refine j_tabIn (off := 79) (tgt := 80) hX dX11_count_1 (by rw [hc1]; decide) (by rw [hc1]; decide) (by rw [hc1]; rfl) (by decide) ?_
    refine j_aload_n hX dX11_count_80 rfl ?_
    refine j_getR (k := 3) hX kX11 (by decide) fk_X11_30 (rf_0_3 hG) dX11_count_81 (sh_0 hG) rfl ?_
    obtain ⟨v3, hh4, hf⟩ := bd1 hf
    refine j_cV0i hX lk_X11_324 kX1 dX11_count_84 (sh_15 hG) (okX1_officers hG (cr_15 hG) hh4) rfl rfl (rmm (by omega) hRf hRl (by decide)) (Nat.le_of_ble_eq_true rfl) (Nat.le_add_right _ _) (Nat.le_add_right _ _) ?_
    cases hf
    exact j_ret hX hr hlk rfl dX11_count_87
  refine sw2 (k := 2) hf (fun hc2 hf => ?_) (fun hc2 hf => ?_)
  · refine j_tabIn (off := 87) (tgt := 88) hX dX11_count_1 (by rw [hc2]; decide) (by rw [hc2]; decide) (by rw [hc2]; rfl) (by decide) ?_
    refine j_aload_n hX dX11_count_88 rfl ?_
    refine j_getR (k := 1) hX kX11 (by decide) fk_X11_19 (rf_0_1 hG) dX11_count_89 (sh_0 hG) rfl ?_
    obtain ⟨v5, hh6, hf⟩ := bd1 hf
    refine j_cV0i hX lk_X11_168 kX9 dX11_count_92 (sh_3 hG) (okX9_lawCount hG hh6) rfl rfl (rmm (by omega) hRf hRl (by decide)) (Nat.le_of_ble_eq_true rfl) (Nat.le_add_right _ _) (Nat.le_add_right _ _) ?_
    cases hf
    exact j_ret hX hr hlk rfl dX11_count_95
  refine sw2 (k := 3) hf (fun hc3 hf => ?_) (fun hc3 hf => ?_)
  · refine j_tabIn (off := 95) (tgt := 96) hX dX11_count_1 (by rw [hc3]; decide) (by rw [hc3]; decide) (by rw [hc3]; rfl) (by decide) ?_
    refine j_aload_n hX dX11_count_96 rfl ?_
    refine j_getR (k := 1) hX kX11 (by decide) fk_X11_19 (rf_0_1 hG) dX11_count_97 (sh_0 hG) rfl ?_
    obtain ⟨v7, hh8, hf⟩ := bd1 hf
    refine j_cV0i hX lk_X11_327 kX9 dX11_count_100 (sh_3 hG) (okX9_linesCount hG hh8) rfl rfl (rmm (by omega) hRf hRl (by decide)) (Nat.le_of_ble_eq_true rfl) (Nat.le_add_right _ _) (Nat.le_add_right _ _) ?_
    cases hf
    exact j_ret hX hr hlk rfl dX11_count_103
  refine sw2 (k := 4) hf (fun hc4 hf => ?_) (fun hc4 hf => ?_)
  · refine j_tabIn (off := 103) (tgt := 104) hX dX11_count_1 (by rw [hc4]; decide) (by rw [hc4]; decide) (by rw [hc4]; rfl) (by decide) ?_
    refine j_aload_n hX dX11_count_104 rfl ?_
    refine j_getR (k := 0) hX kX11 (by decide) fk_X11_10 (rf_0_0 hG) dX11_count_105 (sh_0 hG) rfl ?_
    obtain ⟨v9, hh10, hf⟩ := bd1 hf
    refine j_cV0i hX lk_X11_93 kX10 dX11_count_108 (sh_1 hG) (okX10_size hG hh10) rfl rfl (rmm (by omega) hRf hRl (by decide)) (Nat.le_of_ble_eq_true rfl) (Nat.le_add_right _ _) (Nat.le_add_right _ _) ?_
    cases hf
    exact j_ret hX hr hlk rfl dX11_count_111
  refine sw2 (k := 5) hf (fun hc5 hf => ?_) (fun hc5 hf => ?_)
  · refine j_tabIn (off := 111) (tgt := 112) hX dX11_count_1 (by rw [hc5]; decide) (by rw [hc5]; decide) (by rw [hc5]; rfl) (by decide) ?_
    refine j_aload_n hX dX11_count_112 rfl ?_
    refine j_getI (k := 12) hX kX11 (by decide) fk_X11_86 dX11_count_113 (sh_0 hG) rfl ?_
    cases hf
    exact j_ret hX hr hlk rfl dX11_count_116
  refine sw2 (k := 6) hf (fun hc6 hf => ?_) (fun hc6 hf => ?_)
  · refine j_tabIn (off := 116) (tgt := 117) hX dX11_count_1 (by rw [hc6]; decide) (by rw [hc6]; decide) (by rw [hc6]; rfl) (by decide) ?_
    refine j_aload_n hX dX11_count_117 rfl ?_
    refine j_getR (k := 3) hX kX11 (by decide) fk_X11_30 (rf_0_3 hG) dX11_count_118 (sh_0 hG) rfl ?_
    obtain ⟨v11, hh12, hf⟩ := bd1 hf
    refine j_cV0i hX lk_X11_143 kX1 dX11_count_121 (sh_15 hG) (okX1_papers hG (cr_15 hG) hh12) rfl rfl (rmm (by omega) hRf hRl (by decide)) (Nat.le_of_ble_eq_true rfl) (Nat.le_add_right _ _) (Nat.le_add_right _ _) ?_
    cases hf
    exact j_ret hX hr hlk rfl dX11_count_124
  refine sw2 (k := 7) hf (fun hc7 hf => ?_) (fun hc7 hf => ?_)
  · refine j_tabIn (off := 124) (tgt := 125) hX dX11_count_1 (by rw [hc7]; decide) (by rw [hc7]; decide) (by rw [hc7]; rfl) (by decide) ?_
    refine j_aload_n hX dX11_count_125 rfl ?_
    refine j_getR (k := 4) hX kX11 (by decide) fk_X11_36 (rf_0_4 hG) dX11_count_126 (sh_0 hG) rfl ?_
    obtain ⟨v13, hh14, hf⟩ := bd1 hf
    refine j_cV0i hX lk_X11_318 kX8 dX11_count_129 (sh_19 hG) (okX8_asleepInAll hG (sc_19 hG) hh14) rfl rfl (rmm (by omega) hRf hRl (by decide)) (Nat.le_of_ble_eq_true rfl) (Nat.le_add_right _ _) (Nat.le_add_right _ _) ?_
    cases hf
    exact j_ret hX hr hlk rfl dX11_count_132
  refine sw2 (k := 8) hf (fun hc8 hf => ?_) (fun hc8 hf => ?_)
  · refine j_tabIn (off := 132) (tgt := 133) hX dX11_count_1 (by rw [hc8]; decide) (by rw [hc8]; decide) (by rw [hc8]; rfl) (by decide) ?_
    refine j_aload_n hX dX11_count_133 rfl ?_
    refine j_getI (k := 11) hX kX11 (by decide) fk_X11_82 dX11_count_134 (sh_0 hG) rfl ?_
    cases hf
    exact j_ret hX hr hlk rfl dX11_count_137
  refine sw2 (k := 9) hf (fun hc9 hf => ?_) (fun hc9 hf => ?_)
  · refine j_tabIn (off := 137) (tgt := 138) hX dX11_count_1 (by rw [hc9]; decide) (by rw [hc9]; decide) (by rw [hc9]; rfl) (by decide) ?_
    refine j_aload_n hX dX11_count_138 rfl ?_
    refine j_getR (k := 10) hX kX11 (by decide) fk_X11_78 (rf_0_10 hG) dX11_count_139 (sh_0 hG) rfl ?_
    obtain ⟨v15, hh16, hf⟩ := bd1 hf
    refine j_cV0i hX lk_X11_330 kX2 dX11_count_142 (sh_45 hG) (okX2_heard hG hh16) rfl rfl (rmm (by omega) hRf hRl (by decide)) (Nat.le_of_ble_eq_true rfl) (Nat.le_add_right _ _) (Nat.le_add_right _ _) ?_
    cases hf
    exact j_ret hX hr hlk rfl dX11_count_145
  refine sw2 (k := 10) hf (fun hc10 hf => ?_) (fun hc10 hf => ?_)
  · refine j_tabIn (off := 145) (tgt := 146) hX dX11_count_1 (by rw [hc10]; decide) (by rw [hc10]; decide) (by rw [hc10]; rfl) (by decide) ?_
    refine j_aload_n hX dX11_count_146 rfl ?_
    refine j_getR (k := 10) hX kX11 (by decide) fk_X11_78 (rf_0_10 hG) dX11_count_147 (sh_0 hG) rfl ?_
    obtain ⟨v17, hh18, hf⟩ := bd1 hf
    refine j_cV0i hX lk_X11_333 kX2 dX11_count_150 (sh_45 hG) (okX2_looks hG hh18) rfl rfl (rmm (by omega) hRf hRl (by decide)) (Nat.le_of_ble_eq_true rfl) (Nat.le_add_right _ _) (Nat.le_add_right _ _) ?_
    cases hf
    exact j_ret hX hr hlk rfl dX11_count_153
  refine sw2 (k := 11) hf (fun hc11 hf => ?_) (fun hc11 hf => ?_)
  · refine j_tabIn (off := 153) (tgt := 154) hX dX11_count_1 (by rw [hc11]; decide) (by rw [hc11]; decide) (by rw [hc11]; rfl) (by decide) ?_
    refine j_aload_n hX dX11_count_154 rfl ?_
    refine j_getR (k := 7) hX kX11 (by decide) fk_X11_55 (rf_0_7 hG) dX11_count_155 (sh_0 hG) rfl ?_
    refine j_aload_n hX dX11_count_158 rfl ?_
    refine j_getR (k := 4) hX kX11 (by decide) fk_X11_36 (rf_0_4 hG) dX11_count_159 (sh_0 hG) rfl ?_
    obtain ⟨v19, hh20, hf⟩ := bd1 hf
    refine j_cV1i hX lk_X11_202 kX6 dX11_count_162 (sh_25 hG) (okX6_logged hG (sc_19 hG) hh20) rfl rfl (rmm (by omega) hRf hRl (by decide)) (Nat.le_of_ble_eq_true rfl) (Nat.le_add_right _ _) (Nat.le_add_right _ _) ?_
    refine jpc (b := 165) rfl ?_
    cases hf
    exact j_ret hX hr hlk rfl dX11_count_165
  refine sw2 (k := 12) hf (fun hc12 hf => ?_) (fun hc12 hf => ?_)
  · refine j_tabIn (off := 165) (tgt := 166) hX dX11_count_1 (by rw [hc12]; decide) (by rw [hc12]; decide) (by rw [hc12]; rfl) (by decide) ?_
    refine j_aload_n hX dX11_count_166 rfl ?_
    refine j_getR (k := 7) hX kX11 (by decide) fk_X11_55 (rf_0_7 hG) dX11_count_167 (sh_0 hG) rfl ?_
    obtain ⟨v21, hh22, hf⟩ := bd1 hf
    refine j_cV0i hX lk_X11_185 kX6 dX11_count_170 (sh_25 hG) (okX6_acts hG hh22) rfl rfl (rmm (by omega) hRf hRl (by decide)) (Nat.le_of_ble_eq_true rfl) (Nat.le_add_right _ _) (Nat.le_add_right _ _) ?_
    cases hf
    exact j_ret hX hr hlk rfl dX11_count_173
  refine sw2 (k := 13) hf (fun hc13 hf => ?_) (fun hc13 hf => ?_)
  · refine j_tabIn (off := 173) (tgt := 174) hX dX11_count_1 (by rw [hc13]; decide) (by rw [hc13]; decide) (by rw [hc13]; rfl) (by decide) ?_
    refine j_aload_n hX dX11_count_174 rfl ?_
    refine j_getR (k := 4) hX kX11 (by decide) fk_X11_36 (rf_0_4 hG) dX11_count_175 (sh_0 hG) rfl ?_
    obtain ⟨v23, hh24, hf⟩ := bd1 hf
    refine j_cV0i hX lk_X11_230 kX8 dX11_count_178 (sh_19 hG) (okX8_lostInAll hG (sc_19 hG) hh24) rfl rfl (rmm (by omega) hRf hRl (by decide)) (Nat.le_of_ble_eq_true rfl) (Nat.le_add_right _ _) (Nat.le_add_right _ _) ?_
    cases hf
    exact j_ret hX hr hlk rfl dX11_count_181
  refine j_tabOut (tgt := 182) hX dX11_count_1 (by have g0 := i32ne (z := 0) hc0 (by decide); have g1 := i32ne (z := 1) hc1 (by decide); have g2 := i32ne (z := 2) hc2 (by decide); have g3 := i32ne (z := 3) hc3 (by decide); have g4 := i32ne (z := 4) hc4 (by decide); have g5 := i32ne (z := 5) hc5 (by decide); have g6 := i32ne (z := 6) hc6 (by decide); have g7 := i32ne (z := 7) hc7 (by decide); have g8 := i32ne (z := 8) hc8 (by decide); have g9 := i32ne (z := 9) hc9 (by decide); have g10 := i32ne (z := 10) hc10 (by decide); have g11 := i32ne (z := 11) hc11 (by decide); have g12 := i32ne (z := 12) hc12 (by decide); have g13 := i32ne (z := 13) hc13 (by decide); omega) (by decide) ?_
  refine j_ldc hX kc_X11_219 dX11_count_182 ?_
  cases hf
  exact j_ret hX hr hlk rfl dX11_count_184
theorem okX11_count {l : Launch} {sh : List aSh} {i : Nat → Nat → Int32} {lo : Nat → Nat → Int64} {rv : Nat → Nat → Option Nat}  {a1 : Int32} {vR : Int32} (hG : aGood sh rv) (hf : fX11_count a1 i = some (vR)) : aM l yX11_count cX11_count 2 (some .int) 2 [.ref (100 + 0), .int a1] (sh, i, lo, rv) (some (.int vR)) (sh, i, lo, rv) :=
  aM_of (by decide) (Nat.le_of_ble_eq_true rfl) (Nat.le_refl _) (Nat.le_refl _) (fun p e s m args below meth c D cA A ad0 hX hr hlk hnm => kX11_count hX hr hlk (Nat.le_refl _) (Nat.le_refl _) hG hf)
def fX12_thrown (i : Nat → Nat → Int32) : Option ((Int32)) := some ((i 50 0))
theorem kX12_thrown  {vR : Int32} (hX : aX p s m args c RX12 cX12_thrown 1 D cA A ad0) (hr : meth.sig.returnType = (some .int)) (hlk : meth.locks = false) (hRf : 0 ≤ R.frames) (hRl : 64 * 0 ≤ R.locals) (hG : aGood sh rv) (hf : fX12_thrown i = some (vR)) : aJ p l e R s m args below meth c (MQ below (aPost D cA ad0 A (sh, i0, lo0, rv0) (some (.int vR)) (sh, i, lo, rv)) args s (sh.length - sh.length) (aSn sh - aSn sh) A) D cA A ad0 1 sh.length (aSn sh) 0 [some (.ref (100 + 50))] [] (sh, i, lo, rv) := by
  unfold fX12_thrown at hf
  refine j_aload_n hX dX12_thrown_0 rfl ?_
  refine j_getI (k := 0) hX kX12 (by decide) fk_X12_99 dX12_thrown_1 (sh_50 hG) rfl ?_
  cases hf
  exact j_ret hX hr hlk rfl dX12_thrown_4
theorem okX12_thrown {l : Launch} {sh : List aSh} {i : Nat → Nat → Int32} {lo : Nat → Nat → Int64} {rv : Nat → Nat → Option Nat}  {vR : Int32} (hG : aGood sh rv) (hf : fX12_thrown i = some (vR)) : aM l yX12_thrown cX12_thrown 1 (some .int) 0 [.ref (100 + 50)] (sh, i, lo, rv) (some (.int vR)) (sh, i, lo, rv) :=
  aM_of (by decide) (Nat.le_of_ble_eq_true rfl) (Nat.le_refl _) (Nat.le_refl _) (fun p e s m args below meth c D cA A ad0 hX hr hlk hnm => kX12_thrown hX hr hlk (Nat.le_refl _) (Nat.le_refl _) hG hf)
def fX12_isIn (a0 : Int64) (a1 : Int64) (a2 : Int64) : Option ((Int32)) := if (lg_cmp a0 a1) < 0 then (some (0)) else (if 0 < (lg_cmp a0 a2) then (some (0)) else (some (1)))
theorem kX12_isIn  {vR : Int32} (hX : aX p s m args c RX12 cX12_isIn 6 D cA A ad0) (hr : meth.sig.returnType = (some .boolean)) (hlk : meth.locks = false) (hRf : 0 ≤ R.frames) (hRl : 64 * 0 ≤ R.locals) {a0 : Int64} {a1 : Int64} {a2 : Int64} (hG : aGood sh rv) (hf : fX12_isIn a0 a1 a2 = some (vR)) : aJ p l e R s m args below meth c (MQ below (aPost D cA ad0 A (sh, i0, lo0, rv0) (some (.int vR)) (sh, i, lo, rv)) args s (sh.length - sh.length) (aSn sh - aSn sh) A) D cA A ad0 6 sh.length (aSn sh) 0 [some (.long a0), none, some (.long a1), none, some (.long a2), none] [] (sh, i, lo, rv) := by
  unfold fX12_isIn at hf
  refine j_lload_n hX dX12_isIn_0 rfl ?_
  refine j_lload_n hX dX12_isIn_1 rfl ?_
  refine j_lcmp hX dX12_isIn_2 ?_
  refine j_if_lt (tgt := 17) hX dX12_isIn_3 (by decide) (fun hc => ?_) (fun hc => ?_)
  · have hf := ifp hc hf
    refine j_iconst hX dX12_isIn_17 ic_0 ?_
    cases hf
    exact j_ret hX hr hlk rfl dX12_isIn_18
  · have hf := ifn hc hf
    refine j_lload_n hX dX12_isIn_6 rfl ?_
    refine j_lload hX dX12_isIn_7 rfl ?_
    refine j_lcmp hX dX12_isIn_9 ?_
    refine j_if_gt (tgt := 17) hX dX12_isIn_10 (by decide) (fun hc => ?_) (fun hc => ?_)
    · have hf := ifp hc hf
      refine j_iconst hX dX12_isIn_17 ic_0 ?_
      cases hf
      exact j_ret hX hr hlk rfl dX12_isIn_18
    · have hf := ifn hc hf
      refine j_iconst hX dX12_isIn_13 ic_1 ?_
      refine j_goto (tgt := 18) hX dX12_isIn_14 (by decide) ?_
      cases hf
      exact j_ret hX hr hlk rfl dX12_isIn_18
theorem okX12_isIn {l : Launch} {sh : List aSh} {i : Nat → Nat → Int32} {lo : Nat → Nat → Int64} {rv : Nat → Nat → Option Nat}  {a0 : Int64} {a1 : Int64} {a2 : Int64} {vR : Int32} (hG : aGood sh rv) (hf : fX12_isIn a0 a1 a2 = some (vR)) : aM l yX12_isIn cX12_isIn 6 (some .boolean) 0 [.long a0, .long a1, .long a2] (sh, i, lo, rv) (some (.int vR)) (sh, i, lo, rv) :=
  aM_of (by decide) (Nat.le_of_ble_eq_true rfl) (Nat.le_refl _) (Nat.le_refl _) (fun p e s m args below meth c D cA A ad0 hX hr hlk hnm => kX12_isIn hX hr hlk (Nat.le_refl _) (Nat.le_refl _) hG hf)
def fX12_has (a0 : Int32) (a1 : Int32) : Option ((Int32)) := if ((a0 >>> (a1 &&& 31)) &&& (1 : Int32)) = 1 then (some (1)) else (some (0))
theorem kX12_has  {vR : Int32} (hX : aX p s m args c RX12 cX12_has 2 D cA A ad0) (hr : meth.sig.returnType = (some .boolean)) (hlk : meth.locks = false) (hRf : 0 ≤ R.frames) (hRl : 64 * 0 ≤ R.locals) {a0 : Int32} {a1 : Int32} (hG : aGood sh rv) (hf : fX12_has a0 a1 = some (vR)) : aJ p l e R s m args below meth c (MQ below (aPost D cA ad0 A (sh, i0, lo0, rv0) (some (.int vR)) (sh, i, lo, rv)) args s (sh.length - sh.length) (aSn sh - aSn sh) A) D cA A ad0 2 sh.length (aSn sh) 0 [some (.int a0), some (.int a1)] [] (sh, i, lo, rv) := by
  unfold fX12_has at hf
  refine j_iload_n hX dX12_has_0 rfl ?_
  refine j_iload_n hX dX12_has_1 rfl ?_
  refine j_ishr hX dX12_has_2 ?_
  refine j_iconst hX dX12_has_3 ic_1 ?_
  refine j_iand hX dX12_has_4 ?_
  refine jpc (b := 5) rfl ?_
  refine j_iconst hX dX12_has_5 ic_1 ?_
  refine j_icmp_ne (tgt := 13) hX dX12_has_6 (by decide) (fun hc => ?_) (fun hc => ?_)
  · have hf := ifn hc hf
    refine j_iconst hX dX12_has_13 ic_0 ?_
    cases hf
    exact j_ret hX hr hlk rfl dX12_has_14
  · have hf := ifp hc hf
    refine j_iconst hX dX12_has_9 ic_1 ?_
    refine j_goto (tgt := 14) hX dX12_has_10 (by decide) ?_
    cases hf
    exact j_ret hX hr hlk rfl dX12_has_14
theorem okX12_has {l : Launch} {sh : List aSh} {i : Nat → Nat → Int32} {lo : Nat → Nat → Int64} {rv : Nat → Nat → Option Nat}  {a0 : Int32} {a1 : Int32} {vR : Int32} (hG : aGood sh rv) (hf : fX12_has a0 a1 = some (vR)) : aM l yX12_has cX12_has 2 (some .boolean) 0 [.int a0, .int a1] (sh, i, lo, rv) (some (.int vR)) (sh, i, lo, rv) :=
  aM_of (by decide) (Nat.le_of_ble_eq_true rfl) (Nat.le_refl _) (Nat.le_refl _) (fun p e s m args below meth c D cA A ad0 hX hr hlk hnm => kX12_has hX hr hlk (Nat.le_refl _) (Nat.le_refl _) hG hf)
def fJ0_coder_7d493 (j0 : Nat) : Option ((Int32)) := if (1 : Int32) = 0 then (if narrow .byte (.int 1) = .int 1 then
    some (1) else none) else (if narrow .byte (.int 0) = .int 0 then
    some (0) else none)
theorem kJ0_coder_7d493  {j0 : Nat} {vR : Int32} (hX : aX p s m args c RJ0 cJ0_coder_7d493 1 D cA A ad0) (hr : meth.sig.returnType = (some .byte)) (hlk : meth.locks = false) (hRf : 0 ≤ R.frames) (hRl : 64 * 0 ≤ R.locals) (h0 : j0 < 8) (hG : aGood sh rv) (hf : fJ0_coder_7d493 j0 = some (vR)) : aJ p l e R s m args below meth c (MQ below (aPost D cA ad0 A (sh, i0, lo0, rv0) (some (.int vR)) (sh, i, lo, rv)) args s (sh.length - sh.length) (aSn sh - aSn sh) A) D cA A ad0 1 sh.length (aSn sh) 0 [some (.ref (10 + j0))] [] (sh, i, lo, rv) := by
  unfold fJ0_coder_7d493 at hf
  refine j_getsC hX fk_J0_38 dJ0_coder_7d493_0 ?_
  refine j_if_eq (tgt := 13) hX dJ0_coder_7d493_3 (by decide) (fun hc => ?_) (fun hc => ?_)
  · have hf := ifp hc hf
    refine j_iconst hX dJ0_coder_7d493_13 ic_1 ?_
    obtain ⟨hg, hf⟩ := gd hf
    cases hf
    exact j_ret hX hr hlk hg dJ0_coder_7d493_14
  · have hf := ifn hc hf
    refine j_aload_n hX dJ0_coder_7d493_6 rfl ?_
    refine j_scod hX h0 fk_J0_15 dJ0_coder_7d493_7 ?_
    refine j_goto (tgt := 14) hX dJ0_coder_7d493_10 (by decide) ?_
    obtain ⟨hg, hf⟩ := gd hf
    cases hf
    exact j_ret hX hr hlk hg dJ0_coder_7d493_14
theorem okJ0_coder_7d493 {l : Launch} {sh : List aSh} {i : Nat → Nat → Int32} {lo : Nat → Nat → Int64} {rv : Nat → Nat → Option Nat}  {j0 : Nat} {vR : Int32} (hG : aGood sh rv) (h0 : j0 < 8) (hf : fJ0_coder_7d493 j0 = some (vR)) : aM l yJ0_coder_7d493 cJ0_coder_7d493 1 (some .byte) 0 [.ref (10 + j0)] (sh, i, lo, rv) (some (.int vR)) (sh, i, lo, rv) :=
  aM_of (by decide) (Nat.le_of_ble_eq_true rfl) (Nat.le_refl _) (Nat.le_refl _) (fun p e s m args below meth c D cA A ad0 hX hr hlk hnm => kJ0_coder_7d493 hX hr hlk (Nat.le_refl _) (Nat.le_refl _) h0 hG hf)
def fJ0_length_8abf5 (j0 : Nat) : Option ((Int32)) := bn1 (fJ0_coder_7d493 j0) fun v1 =>
    some (((nI (aLen.getD j0 0)) >>> (v1 &&& 31)))
theorem kJ0_length_8abf5  {j0 : Nat} {vR : Int32} (hX : aX p s m args c RJ0 cJ0_length_8abf5 1 D cA A ad0) (hr : meth.sig.returnType = (some .int)) (hlk : meth.locks = false) (hRf : 1 ≤ R.frames) (hRl : 64 * 1 ≤ R.locals) (h0 : j0 < 8) (hG : aGood sh rv) (hf : fJ0_length_8abf5 j0 = some (vR)) : aJ p l e R s m args below meth c (MQ below (aPost D cA ad0 A (sh, i0, lo0, rv0) (some (.int vR)) (sh, i, lo, rv)) args s (sh.length - sh.length) (aSn sh - aSn sh) A) D cA A ad0 1 sh.length (aSn sh) 0 [some (.ref (10 + j0))] [] (sh, i, lo, rv) := by
  unfold fJ0_length_8abf5 at hf
  refine j_aload_n hX dJ0_length_8abf5_0 rfl ?_
  refine j_sval hX h0 fk_J0_9 dJ0_length_8abf5_1 ?_
  refine j_slen hX h0 dJ0_length_8abf5_4 ?_
  refine j_aload_n hX dJ0_length_8abf5_5 rfl ?_
  obtain ⟨v1, hh2, hf⟩ := bd1 hf
  refine j_cT0i hX lk_J0_335 rfl h0 dJ0_length_8abf5_6 (okJ0_coder_7d493 hG h0 hh2) (rmm (by omega) hRf hRl (by decide)) (Nat.le_of_ble_eq_true rfl) (Nat.le_add_right _ _) (Nat.le_add_right _ _) ?_
  refine jpc (b := 9) rfl ?_
  refine j_ishr hX dJ0_length_8abf5_9 ?_
  cases hf
  exact j_ret hX hr hlk rfl dJ0_length_8abf5_10
theorem okJ0_length_8abf5 {l : Launch} {sh : List aSh} {i : Nat → Nat → Int32} {lo : Nat → Nat → Int64} {rv : Nat → Nat → Option Nat}  {j0 : Nat} {vR : Int32} (hG : aGood sh rv) (h0 : j0 < 8) (hf : fJ0_length_8abf5 j0 = some (vR)) : aM l yJ0_length_8abf5 cJ0_length_8abf5 1 (some .int) 1 [.ref (10 + j0)] (sh, i, lo, rv) (some (.int vR)) (sh, i, lo, rv) :=
  aM_of (by decide) (Nat.le_of_ble_eq_true rfl) (Nat.le_refl _) (Nat.le_refl _) (fun p e s m args below meth c D cA A ad0 hX hr hlk hnm => kJ0_length_8abf5 hX hr hlk (Nat.le_refl _) (Nat.le_refl _) h0 hG hf)
def fX12_isAmong_2 (j0 : Nat) : Nat → Int32 → Int32 → Option ((Int32))
  | 0, _, _ => none
  | n + 1, x1, x2 => bn1 (fJ0_length_8abf5 j0) fun v1 =>
    if v1 ≤ x2 then (some (0)) else (bn1 (fJ0_charAt_5068e j0 x2) fun v3 =>
    if v3 = x1 then (some (1)) else (fX12_isAmong_2 j0 n x1 (x2 + 1)))
theorem kX12_isAmong_2  {j0 : Nat} {vR : Int32} (hX : aX p s m args c RX12 cX12_isAmong 3 D cA A ad0) (hr : meth.sig.returnType = (some .boolean)) (hlk : meth.locks = false) (hRf : 4 ≤ R.frames) (hRl : 64 * 4 ≤ R.locals) (h0 : j0 < 8) : ∀ (n : Nat) (x1 : Int32) (x2 : Int32), aGood sh rv → fX12_isAmong_2 j0 n x1 x2 = some (vR) → aJ p l e R s m args below meth c (MQ below (aPost D cA ad0 A (sh, i0, lo0, rv0) (some (.int vR)) (sh, i, lo, rv)) args s (sh.length - sh.length) (aSn sh - aSn sh) A) D cA A ad0 3 sh.length (aSn sh) 2 [some (.ref (10 + j0)), some (.int x1), some (.int x2)] [] (sh, i, lo, rv) := by
  intro n
  induction n with
  | zero => intros; rename_i hf; cases hf
  | succ n ih =>
    intro x1 x2 hG hf
    rw [fX12_isAmong_2] at hf
    refine j_iload_n hX dX12_isAmong_2 rfl ?_
    refine j_aload_n hX dX12_isAmong_3 rfl ?_
    obtain ⟨v1, hh2, hf⟩ := bd1 hf
    refine j_cT0i hX lk_X12_102 rfl h0 dX12_isAmong_4 (okJ0_length_8abf5 hG h0 hh2) (rmm (by omega) hRf hRl (by decide)) (Nat.le_of_ble_eq_true rfl) (Nat.le_add_right _ _) (Nat.le_add_right _ _) ?_
    refine j_icmp_ge (tgt := 27) hX dX12_isAmong_7 (by decide) (fun hc => ?_) (fun hc => ?_)
    · have hf := ifp hc hf
      refine j_iconst hX dX12_isAmong_27 ic_0 ?_
      cases hf
      exact j_ret hX hr hlk rfl dX12_isAmong_28
    · have hf := ifn hc hf
      refine j_aload_n hX dX12_isAmong_10 rfl ?_
      refine j_iload_n hX dX12_isAmong_11 rfl ?_
      obtain ⟨v3, hh4, hf⟩ := bd1 hf
      refine j_cT1i hX lk_X12_108 rfl h0 dX12_isAmong_12 (okJ0_charAt_5068e hG h0 hh4) (rmm (by omega) hRf hRl (by decide)) (Nat.le_of_ble_eq_true rfl) (Nat.le_add_right _ _) (Nat.le_add_right _ _) ?_
      refine j_iload_n hX dX12_isAmong_15 rfl ?_
      refine j_icmp_ne (tgt := 21) hX dX12_isAmong_16 (by decide) (fun hc => ?_) (fun hc => ?_)
      · have hf := ifn hc hf
        refine j_iinc hX dX12_isAmong_21 rfl (congrArg (_ + ·) ic_1) (by decide) rfl ?_
        refine j_goto (tgt := 2) hX dX12_isAmong_24 (by decide) ?_
        exact aJx (ih _ _ hG  hf) (And.intro rfl (And.intro rfl (And.intro rfl (rfl))))
      · have hf := ifp hc hf
        refine j_iconst hX dX12_isAmong_19 ic_1 ?_
        cases hf
        exact j_ret hX hr hlk rfl dX12_isAmong_20
def fX12_isAmong (j0 : Nat) (a1 : Int32) : Option ((Int32)) := fX12_isAmong_2 j0 fuel a1 0
theorem kX12_isAmong  {j0 : Nat} {vR : Int32} (hX : aX p s m args c RX12 cX12_isAmong 3 D cA A ad0) (hr : meth.sig.returnType = (some .boolean)) (hlk : meth.locks = false) (hRf : 4 ≤ R.frames) (hRl : 64 * 4 ≤ R.locals) (h0 : j0 < 8) {a1 : Int32} (hG : aGood sh rv) (hf : fX12_isAmong j0 a1 = some (vR)) : aJ p l e R s m args below meth c (MQ below (aPost D cA ad0 A (sh, i0, lo0, rv0) (some (.int vR)) (sh, i, lo, rv)) args s (sh.length - sh.length) (aSn sh - aSn sh) A) D cA A ad0 3 sh.length (aSn sh) 0 [some (.ref (10 + j0)), some (.int a1), none] [] (sh, i, lo, rv) := by
  unfold fX12_isAmong at hf
  refine j_iconst hX dX12_isAmong_0 ic_0 ?_
  refine j_istore_n hX dX12_isAmong_1 (by decide) rfl ?_
  exact aJx (kX12_isAmong_2 hX hr hlk hRf hRl h0 fuel _ _ hG  hf) (And.intro rfl (And.intro rfl (And.intro rfl (rfl))))
theorem okX12_isAmong {l : Launch} {sh : List aSh} {i : Nat → Nat → Int32} {lo : Nat → Nat → Int64} {rv : Nat → Nat → Option Nat}  {j0 : Nat} {a1 : Int32} {vR : Int32} (hG : aGood sh rv) (h0 : j0 < 8) (hf : fX12_isAmong j0 a1 = some (vR)) : aM l yX12_isAmong cX12_isAmong 3 (some .boolean) 4 [.ref (10 + j0), .int a1] (sh, i, lo, rv) (some (.int vR)) (sh, i, lo, rv) :=
  aM_of (by decide) (Nat.le_of_ble_eq_true rfl) (Nat.le_refl _) (Nat.le_refl _) (fun p e s m args below meth c D cA A ad0 hX hr hlk hnm => kX12_isAmong hX hr hlk (Nat.le_refl _) (Nat.le_refl _) h0 hG hf)
def fX12_bytesIn_25 (kh5 : Int32 → Int32 → Int32 → Option ((Int32))) (x0 : Int32) (x2 : Int32) (s0 : Int32) (s1 : Int32) : Option ((Int32)) := kh5 x0 (s0 + s1) (x2 + (-8))
theorem kX12_bytesIn_25  {vR : Int32} (hX : aX p s m args c RX12 cX12_bytesIn 3 D cA A ad0) (hr : meth.sig.returnType = (some .int)) (hlk : meth.locks = false) (hRf : 0 ≤ R.frames) (hRl : 64 * 0 ≤ R.locals) {kh5 : Int32 → Int32 → Int32 → Option ((Int32))} (Hkh5 : ∀ (x0 : Int32) (x1 : Int32) (x2 : Int32), aGood sh rv → kh5 x0 x1 x2 = some (vR) → aJ p l e R s m args below meth c (MQ below (aPost D cA ad0 A (sh, i0, lo0, rv0) (some (.int vR)) (sh, i, lo, rv)) args s (sh.length - sh.length) (aSn sh - aSn sh) A) D cA A ad0 3 sh.length (aSn sh) 5 [some (.int x0), some (.int x1), some (.int x2)] [] (sh, i, lo, rv)) {x0 : Int32} {x2 : Int32} {s0 : Int32} {s1 : Int32} (hG : aGood sh rv) (hf : fX12_bytesIn_25 kh5 x0 x2 s0 s1 = some (vR)) : aJ p l e R s m args below meth c (MQ below (aPost D cA ad0 A (sh, i0, lo0, rv0) (some (.int vR)) (sh, i, lo, rv)) args s (sh.length - sh.length) (aSn sh - aSn sh) A) D cA A ad0 3 sh.length (aSn sh) 25 [some (.int x0), none, some (.int x2)] [.int s1, .int s0] (sh, i, lo, rv) := by
  unfold fX12_bytesIn_25 at hf
  refine j_iadd hX dX12_bytesIn_25 ?_
  refine j_istore_n hX dX12_bytesIn_26 (by decide) rfl ?_
  refine j_iinc hX dX12_bytesIn_27 rfl (congrArg (_ + ·) ic_m8) (by decide) rfl ?_
  refine j_goto (tgt := 5) hX dX12_bytesIn_30 (by decide) ?_
  exact aJx (Hkh5 _ _ _ hG  hf) (And.intro rfl (And.intro rfl (And.intro rfl (rfl))))
def fX12_bytesIn_5 : Nat → Int32 → Int32 → Int32 → Option ((Int32))
  | 0, _, _, _ => none
  | n + 1, x0, x1, x2 => if x2 < 0 then (some (x1)) else (if ((x0 >>> (x2 &&& 31)) &&& (255 : Int32)) = 0 then (fX12_bytesIn_25 (fX12_bytesIn_5 n) x0 x2 x1 0) else (fX12_bytesIn_25 (fX12_bytesIn_5 n) x0 x2 x1 1))
theorem kX12_bytesIn_5  {vR : Int32} (hX : aX p s m args c RX12 cX12_bytesIn 3 D cA A ad0) (hr : meth.sig.returnType = (some .int)) (hlk : meth.locks = false) (hRf : 0 ≤ R.frames) (hRl : 64 * 0 ≤ R.locals) : ∀ (n : Nat) (x0 : Int32) (x1 : Int32) (x2 : Int32), aGood sh rv → fX12_bytesIn_5 n x0 x1 x2 = some (vR) → aJ p l e R s m args below meth c (MQ below (aPost D cA ad0 A (sh, i0, lo0, rv0) (some (.int vR)) (sh, i, lo, rv)) args s (sh.length - sh.length) (aSn sh - aSn sh) A) D cA A ad0 3 sh.length (aSn sh) 5 [some (.int x0), some (.int x1), some (.int x2)] [] (sh, i, lo, rv) := by
  intro n
  induction n with
  | zero => intros; rename_i hf; cases hf
  | succ n ih =>
    intro x0 x1 x2 hG hf
    rw [fX12_bytesIn_5] at hf
    refine j_iload_n hX dX12_bytesIn_5 rfl ?_
    refine j_if_lt (tgt := 33) hX dX12_bytesIn_6 (by decide) (fun hc => ?_) (fun hc => ?_)
    · have hf := ifp hc hf
      refine j_iload_n hX dX12_bytesIn_33 rfl ?_
      cases hf
      exact j_ret hX hr hlk rfl dX12_bytesIn_34
    · have hf := ifn hc hf
      refine j_iload_n hX dX12_bytesIn_9 rfl ?_
      refine j_iload_n hX dX12_bytesIn_10 rfl ?_
      refine j_iload_n hX dX12_bytesIn_11 rfl ?_
      refine j_ishr hX dX12_bytesIn_12 ?_
      refine j_sipush hX dX12_bytesIn_13 sp_255 ?_
      refine jpc (b := 16) rfl ?_
      refine j_iand hX dX12_bytesIn_16 ?_
      refine j_if_eq (tgt := 24) hX dX12_bytesIn_17 (by decide) (fun hc => ?_) (fun hc => ?_)
      · have hf := ifp hc hf
        refine j_iconst hX dX12_bytesIn_24 ic_0 ?_
        exact aJx (kX12_bytesIn_25 hX hr hlk hRf hRl ih hG  hf) (And.intro rfl (And.intro rfl (rfl)))
      · have hf := ifn hc hf
        refine j_iconst hX dX12_bytesIn_20 ic_1 ?_
        refine j_goto (tgt := 25) hX dX12_bytesIn_21 (by decide) ?_
        exact aJx (kX12_bytesIn_25 hX hr hlk hRf hRl ih hG  hf) (And.intro rfl (And.intro rfl (rfl)))
def fX12_bytesIn (a0 : Int32) : Option ((Int32)) := fX12_bytesIn_5 fuel a0 0 24
theorem kX12_bytesIn  {vR : Int32} (hX : aX p s m args c RX12 cX12_bytesIn 3 D cA A ad0) (hr : meth.sig.returnType = (some .int)) (hlk : meth.locks = false) (hRf : 0 ≤ R.frames) (hRl : 64 * 0 ≤ R.locals) {a0 : Int32} (hG : aGood sh rv) (hf : fX12_bytesIn a0 = some (vR)) : aJ p l e R s m args below meth c (MQ below (aPost D cA ad0 A (sh, i0, lo0, rv0) (some (.int vR)) (sh, i, lo, rv)) args s (sh.length - sh.length) (aSn sh - aSn sh) A) D cA A ad0 3 sh.length (aSn sh) 0 [some (.int a0), none, none] [] (sh, i, lo, rv) := by
  unfold fX12_bytesIn at hf
  refine j_iconst hX dX12_bytesIn_0 ic_0 ?_
  refine j_istore_n hX dX12_bytesIn_1 (by decide) rfl ?_
  refine j_bipush hX dX12_bytesIn_2 bp_24 ?_
  refine j_istore_n hX dX12_bytesIn_4 (by decide) rfl ?_
  exact aJx (kX12_bytesIn_5 hX hr hlk hRf hRl fuel _ _ _ hG  hf) (And.intro rfl (And.intro rfl (And.intro rfl (rfl))))
theorem okX12_bytesIn {l : Launch} {sh : List aSh} {i : Nat → Nat → Int32} {lo : Nat → Nat → Int64} {rv : Nat → Nat → Option Nat}  {a0 : Int32} {vR : Int32} (hG : aGood sh rv) (hf : fX12_bytesIn a0 = some (vR)) : aM l yX12_bytesIn cX12_bytesIn 3 (some .int) 0 [.int a0] (sh, i, lo, rv) (some (.int vR)) (sh, i, lo, rv) :=
  aM_of (by decide) (Nat.le_of_ble_eq_true rfl) (Nat.le_refl _) (Nat.le_refl _) (fun p e s m args below meth c D cA A ad0 hX hr hlk hnm => kX12_bytesIn hX hr hlk (Nat.le_refl _) (Nat.le_refl _) hG hf)
def fX12_put_43 (kh3 : Int32 → Int32 → (Nat → Nat → Int32) → Option ((Nat → Nat → Int32))) (x1 : Int32) (x2 : Int32) (i : Nat → Nat → Int32) : Option ((Nat → Nat → Int32)) := kh3 x1 (x2 + (-8)) i
theorem kX12_put_43  {iR : Nat → Nat → Int32} (hX : aX p s m args c RX12 cX12_put 3 D cA A ad0) (hr : meth.sig.returnType = none) (hlk : meth.locks = false) (hRf : 0 ≤ R.frames) (hRl : 64 * 0 ≤ R.locals) {kh3 : Int32 → Int32 → (Nat → Nat → Int32) → Option ((Nat → Nat → Int32))} (Hkh3 : ∀ (x1 : Int32) (x2 : Int32) (i : Nat → Nat → Int32), aGood sh rv → kh3 x1 x2 i = some (iR) → aJ p l e R s m args below meth c (MQ below (aPost D cA ad0 A (sh, i0, lo0, rv0) none (sh, iR, lo, rv)) args s (sh.length - sh.length) (aSn sh - aSn sh) A) D cA A ad0 3 sh.length (aSn sh) 3 [some (.ref (100 + 50)), some (.int x1), some (.int x2)] [] (sh, i, lo, rv)) {x1 : Int32} {x2 : Int32} (hG : aGood sh rv) (hf : fX12_put_43 kh3 x1 x2 i = some (iR)) : aJ p l e R s m args below meth c (MQ below (aPost D cA ad0 A (sh, i0, lo0, rv0) none (sh, iR, lo, rv)) args s (sh.length - sh.length) (aSn sh - aSn sh) A) D cA A ad0 3 sh.length (aSn sh) 43 [some (.ref (100 + 50)), some (.int x1), some (.int x2)] [] (sh, i, lo, rv) := by
  unfold fX12_put_43 at hf
  refine j_iinc hX dX12_put_43 rfl (congrArg (_ + ·) ic_m8) (by decide) rfl ?_
  refine j_goto (tgt := 3) hX dX12_put_46 (by decide) ?_
  exact aJx (Hkh3 _ _ _ hG  hf) (And.intro rfl (And.intro rfl (And.intro rfl (rfl))))
def fX12_put_3 : Nat → Int32 → Int32 → (Nat → Nat → Int32) → Option ((Nat → Nat → Int32))
  | 0, _, _, _ => none
  | n + 1, x1, x2, i => if x2 < 0 then (some (i)) else (if ((x1 >>> (x2 &&& 31)) &&& (255 : Int32)) = 0 then (fX12_put_43 (fX12_put_3 n) x1 x2 i) else (if aIn (i 50 6) 240 = true then
    (lt (u2 i 51 ((i 50 6) : Int32).toNatClampNeg (vp_nar .byte ((x1 >>> (x2 &&& 31)) : Int32).toInt8.toInt32)) fun i1 => lt (u2 i1 50 6 ((i1 50 6) + (1 : Int32))) fun i2 =>
    fX12_put_43 (fX12_put_3 n) x1 x2 i2) else none))
theorem kX12_put_3  {iR : Nat → Nat → Int32} (hX : aX p s m args c RX12 cX12_put 3 D cA A ad0) (hr : meth.sig.returnType = none) (hlk : meth.locks = false) (hRf : 0 ≤ R.frames) (hRl : 64 * 0 ≤ R.locals) : ∀ (n : Nat) (x1 : Int32) (x2 : Int32) (i : Nat → Nat → Int32), aGood sh rv → fX12_put_3 n x1 x2 i = some (iR) → aJ p l e R s m args below meth c (MQ below (aPost D cA ad0 A (sh, i0, lo0, rv0) none (sh, iR, lo, rv)) args s (sh.length - sh.length) (aSn sh - aSn sh) A) D cA A ad0 3 sh.length (aSn sh) 3 [some (.ref (100 + 50)), some (.int x1), some (.int x2)] [] (sh, i, lo, rv) := by
  intro n
  induction n with
  | zero => intros; rename_i hf; cases hf
  | succ n ih =>
    intro x1 x2 i hG hf
    rw [fX12_put_3] at hf
    refine j_iload_n hX dX12_put_3 rfl ?_
    refine j_if_lt (tgt := 49) hX dX12_put_4 (by decide) (fun hc => ?_) (fun hc => ?_)
    · have hf := ifp hc hf
      cases hf
      exact j_vret hX hr hlk dX12_put_49
    · have hf := ifn hc hf
      refine j_iload_n hX dX12_put_7 rfl ?_
      refine j_iload_n hX dX12_put_8 rfl ?_
      refine j_ishr hX dX12_put_9 ?_
      refine j_sipush hX dX12_put_10 sp_255 ?_
      refine j_iand hX dX12_put_13 ?_
      refine jpc (b := 14) rfl ?_
      refine j_if_ne (tgt := 20) hX dX12_put_14 (by decide) (fun hc => ?_) (fun hc => ?_)
      · have hf := ifn hc hf
        refine j_aload_n hX dX12_put_20 rfl ?_
        refine j_getR (k := 1) hX kX12 (by decide) fk_X12_9 (rf_50_1 hG) dX12_put_21 (sh_50 hG) rfl ?_
        refine j_aload_n hX dX12_put_24 rfl ?_
        refine j_getI (k := 6) hX kX12 (by decide) fk_X12_112 dX12_put_25 (sh_50 hG) rfl ?_
        refine j_iload_n hX dX12_put_28 rfl ?_
        refine jpc (b := 29) rfl ?_
        refine j_iload_n hX dX12_put_29 rfl ?_
        refine j_ishr hX dX12_put_30 ?_
        refine j_i2b hX dX12_put_31 ?_
        obtain ⟨hg, hf⟩ := gd hf
        have hf := ltd hf
        refine j_bast hX (sh_51 hG) hg dX12_put_32 ?_
        refine j_aload_n hX dX12_put_33 rfl ?_
        refine j_dup hX dX12_put_34 rfl ?_
        refine j_getI (k := 6) hX kX12 (by decide) fk_X12_112 dX12_put_35 (sh_50 hG) rfl ?_
        refine j_iconst hX dX12_put_38 ic_1 ?_
        refine j_iadd hX dX12_put_39 ?_
        refine jpc (b := 40) rfl ?_
        have hf := ltd hf
        refine j_putI (k := 6) hX kX12 (by decide) fk_X12_112 dX12_put_40 (sh_50 hG) rfl rfl rfl rfl ?_
        exact aJx (kX12_put_43 hX hr hlk hRf hRl ih hG  hf) (And.intro rfl (And.intro rfl (And.intro rfl (rfl))))
      · have hf := ifp hc hf
        refine j_goto (tgt := 43) hX dX12_put_17 (by decide) ?_
        exact aJx (kX12_put_43 hX hr hlk hRf hRl ih hG  hf) (And.intro rfl (And.intro rfl (And.intro rfl (rfl))))
def fX12_put (a1 : Int32) (i : Nat → Nat → Int32) : Option ((Nat → Nat → Int32)) := fX12_put_3 fuel a1 24 i
theorem kX12_put  {iR : Nat → Nat → Int32} (hX : aX p s m args c RX12 cX12_put 3 D cA A ad0) (hr : meth.sig.returnType = none) (hlk : meth.locks = false) (hRf : 0 ≤ R.frames) (hRl : 64 * 0 ≤ R.locals) {a1 : Int32} (hG : aGood sh rv) (hf : fX12_put a1 i = some (iR)) : aJ p l e R s m args below meth c (MQ below (aPost D cA ad0 A (sh, i0, lo0, rv0) none (sh, iR, lo, rv)) args s (sh.length - sh.length) (aSn sh - aSn sh) A) D cA A ad0 3 sh.length (aSn sh) 0 [some (.ref (100 + 50)), some (.int a1), none] [] (sh, i, lo, rv) := by
  unfold fX12_put at hf
  refine j_bipush hX dX12_put_0 bp_24 ?_
  refine j_istore_n hX dX12_put_2 (by decide) rfl ?_
  exact aJx (kX12_put_3 hX hr hlk hRf hRl fuel _ _ _ hG  hf) (And.intro rfl (And.intro rfl (And.intro rfl (rfl))))
theorem okX12_put {l : Launch} {sh : List aSh} {i : Nat → Nat → Int32} {lo : Nat → Nat → Int64} {rv : Nat → Nat → Option Nat}  {a1 : Int32} {iR : Nat → Nat → Int32} (hG : aGood sh rv) (hf : fX12_put a1 i = some (iR)) : aM l yX12_put cX12_put 3 none 0 [.ref (100 + 50), .int a1] (sh, i, lo, rv) none (sh, iR, lo, rv) :=
  aM_of (by decide) (Nat.le_of_ble_eq_true rfl) (Nat.le_refl _) (Nat.le_refl _) (fun p e s m args below meth c D cA A ad0 hX hr hlk hnm => kX12_put hX hr hlk (Nat.le_refl _) (Nat.le_refl _) hG hf)
def fX12_feed (a1 : Int32) (a2 : Int32) (a3 : Int32) (a4 : Int32) (a5 : Int32) (i : Nat → Nat → Int32) : Option ((Int32) × (Nat → Nat → Int32)) := lt (u2 i 50 0 0) fun i1 =>
    bn1 (fX12_bytesIn a1) fun v2 =>
    bn1 (fX12_bytesIn a2) fun v4 =>
    bn1 (fX12_bytesIn a3) fun v6 =>
    bn1 (fX12_bytesIn a4) fun v8 =>
    bn1 (fX12_bytesIn a5) fun v10 =>
    if ((((((i1 50 6) + v2) + v4) + v6) + v8) + v10) ≤ 240 then (bn1 (fX12_put a1 i1) fun i12 =>
    bn1 (fX12_put a2 i12) fun i14 =>
    bn1 (fX12_put a3 i14) fun i16 =>
    bn1 (fX12_put a4 i16) fun i18 =>
    bn1 (fX12_put a5 i18) fun i20 =>
    some ((i20 50 6), i20)) else (some ((-1), i1))
theorem kX12_feed  {vR : Int32} {iR : Nat → Nat → Int32} (hX : aX p s m args c RX12 cX12_feed 6 D cA A ad0) (hr : meth.sig.returnType = (some .int)) (hlk : meth.locks = false) (hRf : 1 ≤ R.frames) (hRl : 64 * 1 ≤ R.locals) {a1 : Int32} {a2 : Int32} {a3 : Int32} {a4 : Int32} {a5 : Int32} (hG : aGood sh rv) (hf : fX12_feed a1 a2 a3 a4 a5 i = some (vR, iR)) : aJ p l e R s m args below meth c (MQ below (aPost D cA ad0 A (sh, i0, lo0, rv0) (some (.int vR)) (sh, iR, lo, rv)) args s (sh.length - sh.length) (aSn sh - aSn sh) A) D cA A ad0 6 sh.length (aSn sh) 0 [some (.ref (100 + 50)), some (.int a1), some (.int a2), some (.int a3), some (.int a4), some (.int a5)] [] (sh, i, lo, rv) := by
  unfold fX12_feed at hf
  refine j_aload_n hX dX12_feed_0 rfl ?_
  refine j_iconst hX dX12_feed_1 ic_0 ?_
  have hf := ltd hf
  refine j_putI (k := 0) hX kX12 (by decide) fk_X12_99 dX12_feed_2 (sh_50 hG) rfl rfl rfl rfl ?_
  refine j_aload_n hX dX12_feed_5 rfl ?_
  refine j_getI (k := 6) hX kX12 (by decide) fk_X12_112 dX12_feed_6 (sh_50 hG) rfl ?_
  refine jpc (b := 9) rfl ?_
  refine j_iload_n hX dX12_feed_9 rfl ?_
  obtain ⟨v2, hh3, hf⟩ := bd1 hf
  refine j_cS1i hX lk_X12_114 dX12_feed_10 (okX12_bytesIn hG hh3) rfl rfl (rmm (by omega) hRf hRl (by decide)) (Nat.le_of_ble_eq_true rfl) (Nat.le_add_right _ _) (Nat.le_add_right _ _) ?_
  refine j_iadd hX dX12_feed_13 ?_
  refine j_iload_n hX dX12_feed_14 rfl ?_
  obtain ⟨v4, hh5, hf⟩ := bd1 hf
  refine j_cS1i hX lk_X12_114 dX12_feed_15 (okX12_bytesIn hG hh5) rfl rfl (rmm (by omega) hRf hRl (by decide)) (Nat.le_of_ble_eq_true rfl) (Nat.le_add_right _ _) (Nat.le_add_right _ _) ?_
  refine j_iadd hX dX12_feed_18 ?_
  refine jpc (b := 19) rfl ?_
  refine j_iload_n hX dX12_feed_19 rfl ?_
  obtain ⟨v6, hh7, hf⟩ := bd1 hf
  refine j_cS1i hX lk_X12_114 dX12_feed_20 (okX12_bytesIn hG hh7) rfl rfl (rmm (by omega) hRf hRl (by decide)) (Nat.le_of_ble_eq_true rfl) (Nat.le_add_right _ _) (Nat.le_add_right _ _) ?_
  refine j_iadd hX dX12_feed_23 ?_
  refine j_iload hX dX12_feed_24 rfl ?_
  obtain ⟨v8, hh9, hf⟩ := bd1 hf
  refine j_cS1i hX lk_X12_114 dX12_feed_26 (okX12_bytesIn hG hh9) rfl rfl (rmm (by omega) hRf hRl (by decide)) (Nat.le_of_ble_eq_true rfl) (Nat.le_add_right _ _) (Nat.le_add_right _ _) ?_
  refine j_iadd hX dX12_feed_29 ?_
  refine jpc (b := 30) rfl ?_
  refine j_iload hX dX12_feed_30 rfl ?_
  obtain ⟨v10, hh11, hf⟩ := bd1 hf
  refine j_cS1i hX lk_X12_114 dX12_feed_32 (okX12_bytesIn hG hh11) rfl rfl (rmm (by omega) hRf hRl (by decide)) (Nat.le_of_ble_eq_true rfl) (Nat.le_add_right _ _) (Nat.le_add_right _ _) ?_
  refine j_iadd hX dX12_feed_35 ?_
  refine j_sipush hX dX12_feed_36 sp_240 ?_
  refine j_icmp_le (tgt := 44) hX dX12_feed_39 (by decide) (fun hc => ?_) (fun hc => ?_)
  · have hf := ifp hc hf
    refine j_aload_n hX dX12_feed_44 rfl ?_
    refine j_iload_n hX dX12_feed_45 rfl ?_
    obtain ⟨i12, hh13, hf⟩ := bd1 hf
    refine j_cV1v hX lk_X12_118 kX12 dX12_feed_46 (sh_50 hG) (okX12_put hG hh13) rfl rfl (rmm (by omega) hRf hRl (by decide)) (Nat.le_of_ble_eq_true rfl) (Nat.le_add_right _ _) (Nat.le_add_right _ _) ?_
    refine j_aload_n hX dX12_feed_49 rfl ?_
    refine j_iload_n hX dX12_feed_50 rfl ?_
    refine jpc (b := 51) rfl ?_
    obtain ⟨i14, hh15, hf⟩ := bd1 hf
    refine j_cV1v hX lk_X12_118 kX12 dX12_feed_51 (sh_50 hG) (okX12_put hG hh15) rfl rfl (rmm (by omega) hRf hRl (by decide)) (Nat.le_of_ble_eq_true rfl) (Nat.le_add_right _ _) (Nat.le_add_right _ _) ?_
    refine j_aload_n hX dX12_feed_54 rfl ?_
    refine j_iload_n hX dX12_feed_55 rfl ?_
    obtain ⟨i16, hh17, hf⟩ := bd1 hf
    refine j_cV1v hX lk_X12_118 kX12 dX12_feed_56 (sh_50 hG) (okX12_put hG hh17) rfl rfl (rmm (by omega) hRf hRl (by decide)) (Nat.le_of_ble_eq_true rfl) (Nat.le_add_right _ _) (Nat.le_add_right _ _) ?_
    refine j_aload_n hX dX12_feed_59 rfl ?_
    refine j_iload hX dX12_feed_60 rfl ?_
    refine jpc (b := 62) rfl ?_
    obtain ⟨i18, hh19, hf⟩ := bd1 hf
    refine j_cV1v hX lk_X12_118 kX12 dX12_feed_62 (sh_50 hG) (okX12_put hG hh19) rfl rfl (rmm (by omega) hRf hRl (by decide)) (Nat.le_of_ble_eq_true rfl) (Nat.le_add_right _ _) (Nat.le_add_right _ _) ?_
    refine j_aload_n hX dX12_feed_65 rfl ?_
    refine j_iload hX dX12_feed_66 rfl ?_
    obtain ⟨i20, hh21, hf⟩ := bd1 hf
    refine j_cV1v hX lk_X12_118 kX12 dX12_feed_68 (sh_50 hG) (okX12_put hG hh21) rfl rfl (rmm (by omega) hRf hRl (by decide)) (Nat.le_of_ble_eq_true rfl) (Nat.le_add_right _ _) (Nat.le_add_right _ _) ?_
    refine j_aload_n hX dX12_feed_71 rfl ?_
    refine j_getI (k := 6) hX kX12 (by decide) fk_X12_112 dX12_feed_72 (sh_50 hG) rfl ?_
    refine jpc (b := 75) rfl ?_
    cases hf
    exact j_ret hX hr hlk rfl dX12_feed_75
  · have hf := ifn hc hf
    refine j_iconst hX dX12_feed_42 ic_m1 ?_
    cases hf
    exact j_ret hX hr hlk rfl dX12_feed_43
theorem okX12_feed {l : Launch} {sh : List aSh} {i : Nat → Nat → Int32} {lo : Nat → Nat → Int64} {rv : Nat → Nat → Option Nat}  {a1 : Int32} {a2 : Int32} {a3 : Int32} {a4 : Int32} {a5 : Int32} {vR : Int32} {iR : Nat → Nat → Int32} (hG : aGood sh rv) (hf : fX12_feed a1 a2 a3 a4 a5 i = some (vR, iR)) : aM l yX12_feed cX12_feed 6 (some .int) 1 [.ref (100 + 50), .int a1, .int a2, .int a3, .int a4, .int a5] (sh, i, lo, rv) (some (.int vR)) (sh, iR, lo, rv) :=
  aM_of (by decide) (Nat.le_of_ble_eq_true rfl) (Nat.le_refl _) (Nat.le_refl _) (fun p e s m args below meth c D cA A ad0 hX hr hlk hnm => kX12_feed hX hr hlk (Nat.le_refl _) (Nat.le_refl _) hG hf)
def fX12_end (a1 : Int32) (i : Nat → Nat → Int32) : Option ((Int32) × (Nat → Nat → Int32)) := lt (u2 i 50 0 0) fun i1 =>
    if a1 < 0 then (some (0, i1)) else (if a1 ≤ (i1 50 6) then (lt (u2 i1 50 6 a1) fun i2 =>
    some (1, i2)) else (some (0, i1)))
theorem kX12_end  {vR : Int32} {iR : Nat → Nat → Int32} (hX : aX p s m args c RX12 cX12_end 2 D cA A ad0) (hr : meth.sig.returnType = (some .boolean)) (hlk : meth.locks = false) (hRf : 0 ≤ R.frames) (hRl : 64 * 0 ≤ R.locals) {a1 : Int32} (hG : aGood sh rv) (hf : fX12_end a1 i = some (vR, iR)) : aJ p l e R s m args below meth c (MQ below (aPost D cA ad0 A (sh, i0, lo0, rv0) (some (.int vR)) (sh, iR, lo, rv)) args s (sh.length - sh.length) (aSn sh - aSn sh) A) D cA A ad0 2 sh.length (aSn sh) 0 [some (.ref (100 + 50)), some (.int a1)] [] (sh, i, lo, rv) := by
  unfold fX12_end at hf
  refine j_aload_n hX dX12_end_0 rfl ?_
  refine j_iconst hX dX12_end_1 ic_0 ?_
  have hf := ltd hf
  refine j_putI (k := 0) hX kX12 (by decide) fk_X12_99 dX12_end_2 (sh_50 hG) rfl rfl rfl rfl ?_
  refine j_iload_n hX dX12_end_5 rfl ?_
  refine j_if_lt (tgt := 17) hX dX12_end_6 (by decide) (fun hc => ?_) (fun hc => ?_)
  · have hf := ifp hc hf
    refine j_iconst hX dX12_end_17 ic_0 ?_
    cases hf
    exact j_ret hX hr hlk rfl dX12_end_18
  · have hf := ifn hc hf
    refine j_iload_n hX dX12_end_9 rfl ?_
    refine j_aload_n hX dX12_end_10 rfl ?_
    refine j_getI (k := 6) hX kX12 (by decide) fk_X12_112 dX12_end_11 (sh_50 hG) rfl ?_
    refine j_icmp_le (tgt := 19) hX dX12_end_14 (by decide) (fun hc => ?_) (fun hc => ?_)
    · have hf := ifp hc hf
      refine j_aload_n hX dX12_end_19 rfl ?_
      refine j_iload_n hX dX12_end_20 rfl ?_
      have hf := ltd hf
      refine j_putI (k := 6) hX kX12 (by decide) fk_X12_112 dX12_end_21 (sh_50 hG) rfl rfl rfl rfl ?_
      refine j_iconst hX dX12_end_24 ic_1 ?_
      cases hf
      exact j_ret hX hr hlk rfl dX12_end_25
    · have hf := ifn hc hf
      refine j_iconst hX dX12_end_17 ic_0 ?_
      cases hf
      exact j_ret hX hr hlk rfl dX12_end_18
theorem okX12_end {l : Launch} {sh : List aSh} {i : Nat → Nat → Int32} {lo : Nat → Nat → Int64} {rv : Nat → Nat → Option Nat}  {a1 : Int32} {vR : Int32} {iR : Nat → Nat → Int32} (hG : aGood sh rv) (hf : fX12_end a1 i = some (vR, iR)) : aM l yX12_end cX12_end 2 (some .boolean) 0 [.ref (100 + 50), .int a1] (sh, i, lo, rv) (some (.int vR)) (sh, iR, lo, rv) :=
  aM_of (by decide) (Nat.le_of_ble_eq_true rfl) (Nat.le_refl _) (Nat.le_refl _) (fun p e s m args below meth c D cA A ad0 hX hr hlk hnm => kX12_end hX hr hlk (Nat.le_refl _) (Nat.le_refl _) hG hf)
def fX12_look_43 (i : Nat → Nat → Int32) (rv : Nat → Nat → Option Nat) : Option ((Int32) × (Nat → Nat → Int32)) := if (i 50 9) ≤ (i 50 10) then (some ((-1), i)) else (if aIn ((i 50 8) + (i 50 10)) (bLen (plc (rv 50 5))) = true then
    (some (((i (plc (rv 50 5)) (((i 50 8) + (i 50 10)) : Int32).toNatClampNeg) &&& (255 : Int32)), i)) else none)
theorem kX12_look_43  {vR : Int32} {iR : Nat → Nat → Int32} (hX : aX p s m args c RX12 cX12_look 1 D cA A ad0) (hr : meth.sig.returnType = (some .int)) (hlk : meth.locks = false) (hRf : 0 ≤ R.frames) (hRl : 64 * 0 ≤ R.locals) (hG : aGood sh rv) (hf : fX12_look_43 i rv = some (vR, iR)) : aJ p l e R s m args below meth c (MQ below (aPost D cA ad0 A (sh, i0, lo0, rv0) (some (.int vR)) (sh, iR, lo, rv)) args s (sh.length - sh.length) (aSn sh - aSn sh) A) D cA A ad0 1 sh.length (aSn sh) 43 [some (.ref (100 + 50))] [] (sh, i, lo, rv) := by
  unfold fX12_look_43 at hf
  refine j_aload_n hX dX12_look_43 rfl ?_
  refine j_getI (k := 10) hX kX12 (by decide) fk_X12_122 dX12_look_44 (sh_50 hG) rfl ?_
  refine j_aload_n hX dX12_look_47 rfl ?_
  refine j_getI (k := 9) hX kX12 (by decide) fk_X12_125 dX12_look_48 (sh_50 hG) rfl ?_
  refine j_icmp_ge (tgt := 75) hX dX12_look_51 (by decide) (fun hc => ?_) (fun hc => ?_)
  · have hf := ifp hc hf
    refine j_iconst hX dX12_look_75 ic_m1 ?_
    cases hf
    exact j_ret hX hr hlk rfl dX12_look_76
  · have hf := ifn hc hf
    refine j_aload_n hX dX12_look_54 rfl ?_
    refine j_getR (k := 5) hX kX12 (by decide) fk_X12_23 (tx_rf hG) dX12_look_55 (sh_50 hG) rfl ?_
    refine j_aload_n hX dX12_look_58 rfl ?_
    refine j_getI (k := 8) hX kX12 (by decide) fk_X12_128 dX12_look_59 (sh_50 hG) rfl ?_
    refine j_aload_n hX dX12_look_62 rfl ?_
    refine jpc (b := 63) rfl ?_
    refine j_getI (k := 10) hX kX12 (by decide) fk_X12_122 dX12_look_63 (sh_50 hG) rfl ?_
    refine j_iadd hX dX12_look_66 ?_
    obtain ⟨hg, hf⟩ := gd hf
    refine j_bald hX (tx_sh hG) hg dX12_look_67 ?_
    refine j_sipush hX dX12_look_68 sp_255 ?_
    refine j_iand hX dX12_look_71 ?_
    refine j_goto (tgt := 76) hX dX12_look_72 (by decide) ?_
    cases hf
    exact j_ret hX hr hlk rfl dX12_look_76
def fX12_look_0 : Nat → (Nat → Nat → Int32) → (Nat → Nat → Option Nat) → Option ((Int32) × (Nat → Nat → Int32))
  | 0, _, _ => none
  | n + 1, i, rv => if (i 50 9) ≤ (i 50 10) then (fX12_look_43 i rv) else (if aIn ((i 50 8) + (i 50 10)) (bLen (plc (rv 50 5))) = true then
    (if (i (plc (rv 50 5)) (((i 50 8) + (i 50 10)) : Int32).toNatClampNeg) = 32 then (lt (u2 i 50 10 ((i 50 10) + (1 : Int32))) fun i1 =>
    fX12_look_0 n i1 rv) else (fX12_look_43 i rv)) else none)
theorem kX12_look_0  {vR : Int32} {iR : Nat → Nat → Int32} (hX : aX p s m args c RX12 cX12_look 1 D cA A ad0) (hr : meth.sig.returnType = (some .int)) (hlk : meth.locks = false) (hRf : 0 ≤ R.frames) (hRl : 64 * 0 ≤ R.locals) : ∀ (n : Nat) (i : Nat → Nat → Int32), aGood sh rv → fX12_look_0 n i rv = some (vR, iR) → aJ p l e R s m args below meth c (MQ below (aPost D cA ad0 A (sh, i0, lo0, rv0) (some (.int vR)) (sh, iR, lo, rv)) args s (sh.length - sh.length) (aSn sh - aSn sh) A) D cA A ad0 1 sh.length (aSn sh) 0 [some (.ref (100 + 50))] [] (sh, i, lo, rv) := by
  intro n
  induction n with
  | zero => intros; rename_i hf; cases hf
  | succ n ih =>
    intro i hG hf
    rw [fX12_look_0] at hf
    refine j_aload_n hX dX12_look_0 rfl ?_
    refine j_getI (k := 10) hX kX12 (by decide) fk_X12_122 dX12_look_1 (sh_50 hG) rfl ?_
    refine j_aload_n hX dX12_look_4 rfl ?_
    refine j_getI (k := 9) hX kX12 (by decide) fk_X12_125 dX12_look_5 (sh_50 hG) rfl ?_
    refine j_icmp_ge (tgt := 43) hX dX12_look_8 (by decide) (fun hc => ?_) (fun hc => ?_)
    · have hf := ifp hc hf
      exact aJx (kX12_look_43 hX hr hlk hRf hRl hG  hf) (And.intro rfl (rfl))
    · have hf := ifn hc hf
      refine j_aload_n hX dX12_look_11 rfl ?_
      refine j_getR (k := 5) hX kX12 (by decide) fk_X12_23 (tx_rf hG) dX12_look_12 (sh_50 hG) rfl ?_
      refine j_aload_n hX dX12_look_15 rfl ?_
      refine j_getI (k := 8) hX kX12 (by decide) fk_X12_128 dX12_look_16 (sh_50 hG) rfl ?_
      refine j_aload_n hX dX12_look_19 rfl ?_
      refine jpc (b := 20) rfl ?_
      refine j_getI (k := 10) hX kX12 (by decide) fk_X12_122 dX12_look_20 (sh_50 hG) rfl ?_
      refine j_iadd hX dX12_look_23 ?_
      obtain ⟨hg, hf⟩ := gd hf
      refine j_bald hX (tx_sh hG) hg dX12_look_24 ?_
      refine j_bipush hX dX12_look_25 bp_32 ?_
      refine j_icmp_ne (tgt := 43) hX dX12_look_27 (by decide) (fun hc => ?_) (fun hc => ?_)
      · have hf := ifn hc hf
        exact aJx (kX12_look_43 hX hr hlk hRf hRl hG  hf) (And.intro rfl (rfl))
      · have hf := ifp hc hf
        refine j_aload_n hX dX12_look_30 rfl ?_
        refine j_dup hX dX12_look_31 rfl ?_
        refine j_getI (k := 10) hX kX12 (by decide) fk_X12_122 dX12_look_32 (sh_50 hG) rfl ?_
        refine j_iconst hX dX12_look_35 ic_1 ?_
        refine j_iadd hX dX12_look_36 ?_
        refine jpc (b := 37) rfl ?_
        have hf := ltd hf
        refine j_putI (k := 10) hX kX12 (by decide) fk_X12_122 dX12_look_37 (sh_50 hG) rfl rfl rfl rfl ?_
        refine j_goto (tgt := 0) hX dX12_look_40 (by decide) ?_
        exact aJx (ih _ hG  hf) (And.intro rfl (rfl))
def fX12_look (i : Nat → Nat → Int32) (rv : Nat → Nat → Option Nat) : Option ((Int32) × (Nat → Nat → Int32)) := fX12_look_0 fuel i rv
theorem kX12_look  {vR : Int32} {iR : Nat → Nat → Int32} (hX : aX p s m args c RX12 cX12_look 1 D cA A ad0) (hr : meth.sig.returnType = (some .int)) (hlk : meth.locks = false) (hRf : 0 ≤ R.frames) (hRl : 64 * 0 ≤ R.locals) (hG : aGood sh rv) (hf : fX12_look i rv = some (vR, iR)) : aJ p l e R s m args below meth c (MQ below (aPost D cA ad0 A (sh, i0, lo0, rv0) (some (.int vR)) (sh, iR, lo, rv)) args s (sh.length - sh.length) (aSn sh - aSn sh) A) D cA A ad0 1 sh.length (aSn sh) 0 [some (.ref (100 + 50))] [] (sh, i, lo, rv) := by
  unfold fX12_look at hf
  exact aJx (kX12_look_0 hX hr hlk hRf hRl fuel _ hG  hf) (And.intro rfl (rfl))
theorem okX12_look {l : Launch} {sh : List aSh} {i : Nat → Nat → Int32} {lo : Nat → Nat → Int64} {rv : Nat → Nat → Option Nat}  {vR : Int32} {iR : Nat → Nat → Int32} (hG : aGood sh rv) (hf : fX12_look i rv = some (vR, iR)) : aM l yX12_look cX12_look 1 (some .int) 0 [.ref (100 + 50)] (sh, i, lo, rv) (some (.int vR)) (sh, iR, lo, rv) :=
  aM_of (by decide) (Nat.le_of_ble_eq_true rfl) (Nat.le_refl _) (Nat.le_refl _) (fun p e s m args below meth c D cA A ad0 hX hr hlk hnm => kX12_look hX hr hlk (Nat.le_refl _) (Nat.le_refl _) hG hf)
def fX12_fails (i : Nat → Nat → Int32) : Option ((Int32) × (Nat → Nat → Int32)) := if (i 50 11) = (-1) then (lt (u2 i 50 11 (i 50 10)) fun i1 =>
    some (0, i1)) else (some (0, i))
theorem kX12_fails  {vR : Int32} {iR : Nat → Nat → Int32} (hX : aX p s m args c RX12 cX12_fails 1 D cA A ad0) (hr : meth.sig.returnType = (some .boolean)) (hlk : meth.locks = false) (hRf : 0 ≤ R.frames) (hRl : 64 * 0 ≤ R.locals) (hG : aGood sh rv) (hf : fX12_fails i = some (vR, iR)) : aJ p l e R s m args below meth c (MQ below (aPost D cA ad0 A (sh, i0, lo0, rv0) (some (.int vR)) (sh, iR, lo, rv)) args s (sh.length - sh.length) (aSn sh - aSn sh) A) D cA A ad0 1 sh.length (aSn sh) 0 [some (.ref (100 + 50))] [] (sh, i, lo, rv) := by
  unfold fX12_fails at hf
  refine j_aload_n hX dX12_fails_0 rfl ?_
  refine j_getI (k := 11) hX kX12 (by decide) fk_X12_131 dX12_fails_1 (sh_50 hG) rfl ?_
  refine j_iconst hX dX12_fails_4 ic_m1 ?_
  refine j_icmp_ne (tgt := 16) hX dX12_fails_5 (by decide) (fun hc => ?_) (fun hc => ?_)
  · have hf := ifn hc hf
    refine j_iconst hX dX12_fails_16 ic_0 ?_
    cases hf
    exact j_ret hX hr hlk rfl dX12_fails_17
  · have hf := ifp hc hf
    refine j_aload_n hX dX12_fails_8 rfl ?_
    refine j_aload_n hX dX12_fails_9 rfl ?_
    refine j_getI (k := 10) hX kX12 (by decide) fk_X12_122 dX12_fails_10 (sh_50 hG) rfl ?_
    have hf := ltd hf
    refine j_putI (k := 11) hX kX12 (by decide) fk_X12_131 dX12_fails_13 (sh_50 hG) rfl rfl rfl rfl ?_
    refine j_iconst hX dX12_fails_16 ic_0 ?_
    refine jpc (b := 17) rfl ?_
    cases hf
    exact j_ret hX hr hlk rfl dX12_fails_17
theorem okX12_fails {l : Launch} {sh : List aSh} {i : Nat → Nat → Int32} {lo : Nat → Nat → Int64} {rv : Nat → Nat → Option Nat}  {vR : Int32} {iR : Nat → Nat → Int32} (hG : aGood sh rv) (hf : fX12_fails i = some (vR, iR)) : aM l yX12_fails cX12_fails 1 (some .boolean) 0 [.ref (100 + 50)] (sh, i, lo, rv) (some (.int vR)) (sh, iR, lo, rv) :=
  aM_of (by decide) (Nat.le_of_ble_eq_true rfl) (Nat.le_refl _) (Nat.le_refl _) (fun p e s m args below meth c D cA A ad0 hX hr hlk hnm => kX12_fails hX hr hlk (Nat.le_refl _) (Nat.le_refl _) hG hf)
def fX12_goesIn (i : Nat → Nat → Int32) : Option ((Int32) × (Nat → Nat → Int32)) := if (i 50 12) = 6 then (bn2 (fX12_fails i) fun v3 i4 =>
    if narrow .boolean (.int v3) = .int v3 then
    some (v3, i4) else none) else (lt (u2 i 50 12 ((i 50 12) + (1 : Int32))) fun i1 =>
    lt (u2 i1 50 10 ((i1 50 10) + (1 : Int32))) fun i2 =>
    some (1, i2))
theorem kX12_goesIn  {vR : Int32} {iR : Nat → Nat → Int32} (hX : aX p s m args c RX12 cX12_goesIn 1 D cA A ad0) (hr : meth.sig.returnType = (some .boolean)) (hlk : meth.locks = false) (hRf : 1 ≤ R.frames) (hRl : 64 * 1 ≤ R.locals) (hG : aGood sh rv) (hf : fX12_goesIn i = some (vR, iR)) : aJ p l e R s m args below meth c (MQ below (aPost D cA ad0 A (sh, i0, lo0, rv0) (some (.int vR)) (sh, iR, lo, rv)) args s (sh.length - sh.length) (aSn sh - aSn sh) A) D cA A ad0 1 sh.length (aSn sh) 0 [some (.ref (100 + 50))] [] (sh, i, lo, rv) := by
  unfold fX12_goesIn at hf
  refine j_aload_n hX dX12_goesIn_0 rfl ?_
  refine j_getI (k := 12) hX kX12 (by decide) fk_X12_134 dX12_goesIn_1 (sh_50 hG) rfl ?_
  refine j_bipush hX dX12_goesIn_4 bp_6 ?_
  refine j_icmp_ne (tgt := 14) hX dX12_goesIn_6 (by decide) (fun hc => ?_) (fun hc => ?_)
  · have hf := ifn hc hf
    refine j_aload_n hX dX12_goesIn_14 rfl ?_
    refine j_dup hX dX12_goesIn_15 rfl ?_
    refine j_getI (k := 12) hX kX12 (by decide) fk_X12_134 dX12_goesIn_16 (sh_50 hG) rfl ?_
    refine j_iconst hX dX12_goesIn_19 ic_1 ?_
    refine j_iadd hX dX12_goesIn_20 ?_
    refine jpc (b := 21) rfl ?_
    have hf := ltd hf
    refine j_putI (k := 12) hX kX12 (by decide) fk_X12_134 dX12_goesIn_21 (sh_50 hG) rfl rfl rfl rfl ?_
    refine j_aload_n hX dX12_goesIn_24 rfl ?_
    refine j_dup hX dX12_goesIn_25 rfl ?_
    refine j_getI (k := 10) hX kX12 (by decide) fk_X12_122 dX12_goesIn_26 (sh_50 hG) rfl ?_
    refine j_iconst hX dX12_goesIn_29 ic_1 ?_
    refine j_iadd hX dX12_goesIn_30 ?_
    refine jpc (b := 31) rfl ?_
    have hf := ltd hf
    refine j_putI (k := 10) hX kX12 (by decide) fk_X12_122 dX12_goesIn_31 (sh_50 hG) rfl rfl rfl rfl ?_
    refine j_iconst hX dX12_goesIn_34 ic_1 ?_
    cases hf
    exact j_ret hX hr hlk rfl dX12_goesIn_35
  · have hf := ifp hc hf
    refine j_aload_n hX dX12_goesIn_9 rfl ?_
    obtain ⟨v3, i4, hh5, hf⟩ := bd2 hf
    refine j_cV0i hX lk_X12_137 kX12 dX12_goesIn_10 (sh_50 hG) (okX12_fails hG hh5) rfl rfl (rmm (by omega) hRf hRl (by decide)) (Nat.le_of_ble_eq_true rfl) (Nat.le_add_right _ _) (Nat.le_add_right _ _) ?_
    obtain ⟨hg, hf⟩ := gd hf
    cases hf
    exact j_ret hX hr hlk hg dX12_goesIn_13
theorem okX12_goesIn {l : Launch} {sh : List aSh} {i : Nat → Nat → Int32} {lo : Nat → Nat → Int64} {rv : Nat → Nat → Option Nat}  {vR : Int32} {iR : Nat → Nat → Int32} (hG : aGood sh rv) (hf : fX12_goesIn i = some (vR, iR)) : aM l yX12_goesIn cX12_goesIn 1 (some .boolean) 1 [.ref (100 + 50)] (sh, i, lo, rv) (some (.int vR)) (sh, iR, lo, rv) :=
  aM_of (by decide) (Nat.le_of_ble_eq_true rfl) (Nat.le_refl _) (Nat.le_refl _) (fun p e s m args below meth c D cA A ad0 hX hr hlk hnm => kX12_goesIn hX hr hlk (Nat.le_refl _) (Nat.le_refl _) hG hf)
def fX12_takes_16 (i : Nat → Nat → Int32) (rv : Nat → Nat → Option Nat) : Option ((Int32) × (Nat → Nat → Int32)) := bn2 (fX12_fails i) fun v5 i6 =>
    if narrow .boolean (.int v5) = .int v5 then
    some (v5, i6) else none
theorem kX12_takes_16  {vR : Int32} {iR : Nat → Nat → Int32} (hX : aX p s m args c RX12 cX12_takes 2 D cA A ad0) (hr : meth.sig.returnType = (some .boolean)) (hlk : meth.locks = false) (hRf : 1 ≤ R.frames) (hRl : 64 * 1 ≤ R.locals) (hG : aGood sh rv) (hf : fX12_takes_16 i rv = some (vR, iR)) : aJ p l e R s m args below meth c (MQ below (aPost D cA ad0 A (sh, i0, lo0, rv0) (some (.int vR)) (sh, iR, lo, rv)) args s (sh.length - sh.length) (aSn sh - aSn sh) A) D cA A ad0 2 sh.length (aSn sh) 16 [some (.ref (100 + 50)), none] [] (sh, i, lo, rv) := by
  unfold fX12_takes_16 at hf
  refine j_aload_n hX dX12_takes_16 rfl ?_
  obtain ⟨v5, i6, hh7, hf⟩ := bd2 hf
  refine j_cV0i hX lk_X12_137 kX12 dX12_takes_17 (sh_50 hG) (okX12_fails hG hh7) rfl rfl (rmm (by omega) hRf hRl (by decide)) (Nat.le_of_ble_eq_true rfl) (Nat.le_add_right _ _) (Nat.le_add_right _ _) ?_
  obtain ⟨hg, hf⟩ := gd hf
  cases hf
  exact j_ret hX hr hlk hg dX12_takes_20
def fX12_takes (a1 : Int32) (i : Nat → Nat → Int32) (rv : Nat → Nat → Option Nat) : Option ((Int32) × (Nat → Nat → Int32)) := if (i 50 11) = (-1) then (bn2 (fX12_look i rv) fun v1 i2 =>
    if v1 = a1 then (lt (u2 i2 50 10 ((i2 50 10) + (1 : Int32))) fun i4 =>
    some (1, i4)) else (fX12_takes_16 i2 rv)) else (fX12_takes_16 i rv)
theorem kX12_takes  {vR : Int32} {iR : Nat → Nat → Int32} (hX : aX p s m args c RX12 cX12_takes 2 D cA A ad0) (hr : meth.sig.returnType = (some .boolean)) (hlk : meth.locks = false) (hRf : 1 ≤ R.frames) (hRl : 64 * 1 ≤ R.locals) {a1 : Int32} (hG : aGood sh rv) (hf : fX12_takes a1 i rv = some (vR, iR)) : aJ p l e R s m args below meth c (MQ below (aPost D cA ad0 A (sh, i0, lo0, rv0) (some (.int vR)) (sh, iR, lo, rv)) args s (sh.length - sh.length) (aSn sh - aSn sh) A) D cA A ad0 2 sh.length (aSn sh) 0 [some (.ref (100 + 50)), some (.int a1)] [] (sh, i, lo, rv) := by
  unfold fX12_takes at hf
  refine j_aload_n hX dX12_takes_0 rfl ?_
  refine j_getI (k := 11) hX kX12 (by decide) fk_X12_131 dX12_takes_1 (sh_50 hG) rfl ?_
  refine j_iconst hX dX12_takes_4 ic_m1 ?_
  refine j_icmp_ne (tgt := 16) hX dX12_takes_5 (by decide) (fun hc => ?_) (fun hc => ?_)
  · have hf := ifn hc hf
    exact aJx (kX12_takes_16 hX hr hlk hRf hRl hG  hf) (And.intro rfl (rfl))
  · have hf := ifp hc hf
    refine j_aload_n hX dX12_takes_8 rfl ?_
    obtain ⟨v1, i2, hh3, hf⟩ := bd2 hf
    refine j_cV0i hX lk_X12_141 kX12 dX12_takes_9 (sh_50 hG) (okX12_look hG hh3) rfl rfl (rmm (by omega) hRf hRl (by decide)) (Nat.le_of_ble_eq_true rfl) (Nat.le_add_right _ _) (Nat.le_add_right _ _) ?_
    refine j_iload_n hX dX12_takes_12 rfl ?_
    refine j_icmp_eq (tgt := 21) hX dX12_takes_13 (by decide) (fun hc => ?_) (fun hc => ?_)
    · have hf := ifp hc hf
      refine j_aload_n hX dX12_takes_21 rfl ?_
      refine j_dup hX dX12_takes_22 rfl ?_
      refine j_getI (k := 10) hX kX12 (by decide) fk_X12_122 dX12_takes_23 (sh_50 hG) rfl ?_
      refine j_iconst hX dX12_takes_26 ic_1 ?_
      refine j_iadd hX dX12_takes_27 ?_
      refine jpc (b := 28) rfl ?_
      have hf := ltd hf
      refine j_putI (k := 10) hX kX12 (by decide) fk_X12_122 dX12_takes_28 (sh_50 hG) rfl rfl rfl rfl ?_
      refine j_iconst hX dX12_takes_31 ic_1 ?_
      cases hf
      exact j_ret hX hr hlk rfl dX12_takes_32
    · have hf := ifn hc hf
      exact aJx (kX12_takes_16 hX hr hlk hRf hRl hG  hf) (And.intro rfl (rfl))
theorem okX12_takes {l : Launch} {sh : List aSh} {i : Nat → Nat → Int32} {lo : Nat → Nat → Int64} {rv : Nat → Nat → Option Nat}  {a1 : Int32} {vR : Int32} {iR : Nat → Nat → Int32} (hG : aGood sh rv) (hf : fX12_takes a1 i rv = some (vR, iR)) : aM l yX12_takes cX12_takes 2 (some .boolean) 1 [.ref (100 + 50), .int a1] (sh, i, lo, rv) (some (.int vR)) (sh, iR, lo, rv) :=
  aM_of (by decide) (Nat.le_of_ble_eq_true rfl) (Nat.le_refl _) (Nat.le_refl _) (fun p e s m args below meth c D cA A ad0 hX hr hlk hnm => kX12_takes hX hr hlk (Nat.le_refl _) (Nat.le_refl _) hG hf)
def fX12_isDigit (i : Nat → Nat → Int32) (rv : Nat → Nat → Option Nat) : Option ((Int32)) := if (i 50 9) ≤ (i 50 10) then (some (0)) else (if aIn ((i 50 8) + (i 50 10)) (bLen (plc (rv 50 5))) = true then
    (if (i (plc (rv 50 5)) (((i 50 8) + (i 50 10)) : Int32).toNatClampNeg) < 48 then (some (0)) else (if aIn ((i 50 8) + (i 50 10)) (bLen (plc (rv 50 5))) = true then
    (if 57 < (i (plc (rv 50 5)) (((i 50 8) + (i 50 10)) : Int32).toNatClampNeg) then (some (0)) else (some (1))) else none)) else none)
theorem kX12_isDigit  {vR : Int32} (hX : aX p s m args c RX12 cX12_isDigit 1 D cA A ad0) (hr : meth.sig.returnType = (some .boolean)) (hlk : meth.locks = false) (hRf : 0 ≤ R.frames) (hRl : 64 * 0 ≤ R.locals) (hG : aGood sh rv) (hf : fX12_isDigit i rv = some (vR)) : aJ p l e R s m args below meth c (MQ below (aPost D cA ad0 A (sh, i0, lo0, rv0) (some (.int vR)) (sh, i, lo, rv)) args s (sh.length - sh.length) (aSn sh - aSn sh) A) D cA A ad0 1 sh.length (aSn sh) 0 [some (.ref (100 + 50))] [] (sh, i, lo, rv) := by
  unfold fX12_isDigit at hf
  refine j_aload_n hX dX12_isDigit_0 rfl ?_
  refine j_getI (k := 10) hX kX12 (by decide) fk_X12_122 dX12_isDigit_1 (sh_50 hG) rfl ?_
  refine j_aload_n hX dX12_isDigit_4 rfl ?_
  refine j_getI (k := 9) hX kX12 (by decide) fk_X12_125 dX12_isDigit_5 (sh_50 hG) rfl ?_
  refine j_icmp_ge (tgt := 53) hX dX12_isDigit_8 (by decide) (fun hc => ?_) (fun hc => ?_)
  · have hf := ifp hc hf
    refine j_iconst hX dX12_isDigit_53 ic_0 ?_
    cases hf
    exact j_ret hX hr hlk rfl dX12_isDigit_54
  · have hf := ifn hc hf
    refine j_aload_n hX dX12_isDigit_11 rfl ?_
    refine j_getR (k := 5) hX kX12 (by decide) fk_X12_23 (tx_rf hG) dX12_isDigit_12 (sh_50 hG) rfl ?_
    refine j_aload_n hX dX12_isDigit_15 rfl ?_
    refine j_getI (k := 8) hX kX12 (by decide) fk_X12_128 dX12_isDigit_16 (sh_50 hG) rfl ?_
    refine j_aload_n hX dX12_isDigit_19 rfl ?_
    refine jpc (b := 20) rfl ?_
    refine j_getI (k := 10) hX kX12 (by decide) fk_X12_122 dX12_isDigit_20 (sh_50 hG) rfl ?_
    refine j_iadd hX dX12_isDigit_23 ?_
    obtain ⟨hg, hf⟩ := gd hf
    refine j_bald hX (tx_sh hG) hg dX12_isDigit_24 ?_
    refine j_bipush hX dX12_isDigit_25 bp_48 ?_
    refine j_icmp_lt (tgt := 53) hX dX12_isDigit_27 (by decide) (fun hc => ?_) (fun hc => ?_)
    · have hf := ifp hc hf
      refine j_iconst hX dX12_isDigit_53 ic_0 ?_
      cases hf
      exact j_ret hX hr hlk rfl dX12_isDigit_54
    · have hf := ifn hc hf
      refine j_aload_n hX dX12_isDigit_30 rfl ?_
      refine j_getR (k := 5) hX kX12 (by decide) fk_X12_23 (tx_rf hG) dX12_isDigit_31 (sh_50 hG) rfl ?_
      refine j_aload_n hX dX12_isDigit_34 rfl ?_
      refine j_getI (k := 8) hX kX12 (by decide) fk_X12_128 dX12_isDigit_35 (sh_50 hG) rfl ?_
      refine j_aload_n hX dX12_isDigit_38 rfl ?_
      refine jpc (b := 39) rfl ?_
      refine j_getI (k := 10) hX kX12 (by decide) fk_X12_122 dX12_isDigit_39 (sh_50 hG) rfl ?_
      refine j_iadd hX dX12_isDigit_42 ?_
      obtain ⟨hg, hf⟩ := gd hf
      refine j_bald hX (tx_sh hG) hg dX12_isDigit_43 ?_
      refine j_bipush hX dX12_isDigit_44 bp_57 ?_
      refine j_icmp_gt (tgt := 53) hX dX12_isDigit_46 (by decide) (fun hc => ?_) (fun hc => ?_)
      · have hf := ifp hc hf
        refine j_iconst hX dX12_isDigit_53 ic_0 ?_
        cases hf
        exact j_ret hX hr hlk rfl dX12_isDigit_54
      · have hf := ifn hc hf
        refine j_iconst hX dX12_isDigit_49 ic_1 ?_
        refine j_goto (tgt := 54) hX dX12_isDigit_50 (by decide) ?_
        cases hf
        exact j_ret hX hr hlk rfl dX12_isDigit_54
theorem okX12_isDigit {l : Launch} {sh : List aSh} {i : Nat → Nat → Int32} {lo : Nat → Nat → Int64} {rv : Nat → Nat → Option Nat}  {vR : Int32} (hG : aGood sh rv) (hf : fX12_isDigit i rv = some (vR)) : aM l yX12_isDigit cX12_isDigit 1 (some .boolean) 0 [.ref (100 + 50)] (sh, i, lo, rv) (some (.int vR)) (sh, i, lo, rv) :=
  aM_of (by decide) (Nat.le_of_ble_eq_true rfl) (Nat.le_refl _) (Nat.le_refl _) (fun p e s m args below meth c D cA A ad0 hX hr hlk hnm => kX12_isDigit hX hr hlk (Nat.le_refl _) (Nat.le_refl _) hG hf)
def fX12_within (a0 : Int64) : Option ((Int32)) := some (((if (if a0 < (1000000 : Int64) then a0 else (1000000 : Int64)) < ((-1000000) : Int64) then ((-1000000) : Int64) else (if a0 < (1000000 : Int64) then a0 else (1000000 : Int64)))).toInt32)
theorem kX12_within  {vR : Int32} (hX : aX p s m args c RX12 cX12_within 2 D cA A ad0) (hr : meth.sig.returnType = (some .int)) (hlk : meth.locks = false) (hRf : 1 ≤ R.frames) (hRl : 64 * 1 ≤ R.locals) {a0 : Int64} (hG : aGood sh rv) (hf : fX12_within a0 = some (vR)) : aJ p l e R s m args below meth c (MQ below (aPost D cA ad0 A (sh, i0, lo0, rv0) (some (.int vR)) (sh, i, lo, rv)) args s (sh.length - sh.length) (aSn sh - aSn sh) A) D cA A ad0 2 sh.length (aSn sh) 0 [some (.long a0), none] [] (sh, i, lo, rv) := by
  unfold fX12_within at hf
  refine j_ldc2_w hX kc_X12_144 dX12_within_0 ?_
  refine j_ldc2_w hX kc_X12_146 dX12_within_3 ?_
  refine j_lload_n hX dX12_within_6 rfl ?_
  refine j_minL hX lk_X12_148 dX12_within_7 ⟨by omega, Nat.le_trans (Nat.le_of_ble_eq_true rfl) hRl⟩ (Nat.le_add_right _ _) (Nat.le_add_right _ _) ?_
  refine j_maxL hX lk_X12_154 dX12_within_10 ⟨by omega, Nat.le_trans (Nat.le_of_ble_eq_true rfl) hRl⟩ (Nat.le_add_right _ _) (Nat.le_add_right _ _) ?_
  refine jpc (b := 13) rfl ?_
  refine j_l2i hX dX12_within_13 ?_
  cases hf
  exact j_ret hX hr hlk rfl dX12_within_14
theorem okX12_within {l : Launch} {sh : List aSh} {i : Nat → Nat → Int32} {lo : Nat → Nat → Int64} {rv : Nat → Nat → Option Nat}  {a0 : Int64} {vR : Int32} (hG : aGood sh rv) (hf : fX12_within a0 = some (vR)) : aM l yX12_within cX12_within 2 (some .int) 1 [.long a0] (sh, i, lo, rv) (some (.int vR)) (sh, i, lo, rv) :=
  aM_of (by decide) (Nat.le_of_ble_eq_true rfl) (Nat.le_refl _) (Nat.le_refl _) (fun p e s m args below meth c D cA A ad0 hX hr hlk hnm => kX12_within hX hr hlk (Nat.le_refl _) (Nat.le_refl _) hG hf)
def fX12_atom_90 (gs : (Nat → Nat → Int32) → (Nat → Nat → Option Nat) → Option ((Int32) × (Nat → Nat → Int32))) : Nat → Int32 → Int32 → (Nat → Nat → Int32) → (Nat → Nat → Option Nat) → Option ((Int32) × (Nat → Nat → Int32))
  | 0, _, _, _, _ => none
  | n + 1, x2, x3, i, rv => bn1 (fX12_isDigit i rv) fun v22 =>
    if v22 = 0 then (some (x2, i)) else (if (i 50 11) = (-1) then (if x3 = 4 then (bn2 (fX12_fails i) fun v26 i27 =>
    some (0, i27)) else (if aIn ((i 50 8) + (i 50 10)) (bLen (plc (rv 50 5))) = true then
    (lt ((((10 : Int32) * x2) + (i (plc (rv 50 5)) (((i 50 8) + (i 50 10)) : Int32).toNatClampNeg)) - (48 : Int32)) fun t24 =>
    lt (u2 i 50 10 ((i 50 10) + (1 : Int32))) fun i25 =>
    fX12_atom_90 gs n t24 (x3 + 1) i25 rv) else none)) else (some (x2, i)))
theorem kX12_atom_90  {gs : (Nat → Nat → Int32) → (Nat → Nat → Option Nat) → Option ((Int32) × (Nat → Nat → Int32))} {D0 : Nat} {vR : Int32} {iR : Nat → Nat → Int32} (hX : aX p s m args c RX12 cX12_atom 4 D cA A ad0) (hr : meth.sig.returnType = (some .int)) (hlk : meth.locks = false) (hRf : (D0 + 5) ≤ R.frames) (hRl : 64 * (D0 + 5) ≤ R.locals) (Hgs : ∀ {i : Nat → Nat → Int32} {lo : Nat → Nat → Int64} {rv : Nat → Nat → Option Nat} {vR : Int32} {iR : Nat → Nat → Int32}, aGood sh rv → gs i rv = some (vR, iR) → aM l yX12_sum cX12_sum 5 (some .int) D0 [.ref (100 + 50)] (sh, i, lo, rv) (some (.int vR)) (sh, iR, lo, rv)) : ∀ (n : Nat) (x2 : Int32) (x3 : Int32) (i : Nat → Nat → Int32), aGood sh rv → fX12_atom_90 gs n x2 x3 i rv = some (vR, iR) → aJ p l e R s m args below meth c (MQ below (aPost D cA ad0 A (sh, i0, lo0, rv0) (some (.int vR)) (sh, iR, lo, rv)) args s (sh.length - sh.length) (aSn sh - aSn sh) A) D cA A ad0 4 sh.length (aSn sh) 90 [some (.ref (100 + 50)), none, some (.int x2), some (.int x3)] [] (sh, i, lo, rv) := by
  intro n
  induction n with
  | zero => intros; rename_i hf; cases hf
  | succ n ih =>
    intro x2 x3 i hG hf
    rw [fX12_atom_90] at hf
    refine j_aload_n hX dX12_atom_90 rfl ?_
    obtain ⟨v22, hh23, hf⟩ := bd1 hf
    refine j_cV0i hX lk_X12_171 kX12 dX12_atom_91 (sh_50 hG) (okX12_isDigit hG hh23) rfl rfl (rmm (by omega) hRf hRl (by decide)) (Nat.le_of_ble_eq_true rfl) (Nat.le_add_right _ _) (Nat.le_add_right _ _) ?_
    refine j_if_eq (tgt := 156) hX dX12_atom_94 (by decide) (fun hc => ?_) (fun hc => ?_)
    · have hf := ifp hc hf
      refine j_iload_n hX dX12_atom_156 rfl ?_
      cases hf
      exact j_ret hX hr hlk rfl dX12_atom_157
    · have hf := ifn hc hf
      refine j_aload_n hX dX12_atom_97 rfl ?_
      refine j_getI (k := 11) hX kX12 (by decide) fk_X12_131 dX12_atom_98 (sh_50 hG) rfl ?_
      refine j_iconst hX dX12_atom_101 ic_m1 ?_
      refine j_icmp_ne (tgt := 156) hX dX12_atom_102 (by decide) (fun hc => ?_) (fun hc => ?_)
      · have hf := ifn hc hf
        refine j_iload_n hX dX12_atom_156 rfl ?_
        cases hf
        exact j_ret hX hr hlk rfl dX12_atom_157
      · have hf := ifp hc hf
        refine j_iload_n hX dX12_atom_105 rfl ?_
        refine j_iconst hX dX12_atom_106 ic_4 ?_
        refine j_icmp_ne (tgt := 117) hX dX12_atom_107 (by decide) (fun hc => ?_) (fun hc => ?_)
        · have hf := ifn hc hf
          refine j_bipush hX dX12_atom_117 bp_10 ?_
          refine j_iload_n hX dX12_atom_119 rfl ?_
          refine j_imul hX dX12_atom_120 ?_
          refine j_aload_n hX dX12_atom_121 rfl ?_
          refine j_getR (k := 5) hX kX12 (by decide) fk_X12_23 (tx_rf hG) dX12_atom_122 (sh_50 hG) rfl ?_
          refine jpc (b := 125) rfl ?_
          refine j_aload_n hX dX12_atom_125 rfl ?_
          refine j_getI (k := 8) hX kX12 (by decide) fk_X12_128 dX12_atom_126 (sh_50 hG) rfl ?_
          refine j_aload_n hX dX12_atom_129 rfl ?_
          refine j_getI (k := 10) hX kX12 (by decide) fk_X12_122 dX12_atom_130 (sh_50 hG) rfl ?_
          refine j_iadd hX dX12_atom_133 ?_
          obtain ⟨hg, hf⟩ := gd hf
          refine j_bald hX (tx_sh hG) hg dX12_atom_134 ?_
          refine j_iadd hX dX12_atom_135 ?_
          refine j_bipush hX dX12_atom_136 bp_48 ?_
          refine j_isub hX dX12_atom_138 ?_
          have hf := ltd hf
          refine j_istore_n hX dX12_atom_139 (by decide) rfl ?_
          refine j_aload_n hX dX12_atom_140 rfl ?_
          refine jpc (b := 141) rfl ?_
          refine j_dup hX dX12_atom_141 rfl ?_
          refine j_getI (k := 10) hX kX12 (by decide) fk_X12_122 dX12_atom_142 (sh_50 hG) rfl ?_
          refine j_iconst hX dX12_atom_145 ic_1 ?_
          refine j_iadd hX dX12_atom_146 ?_
          have hf := ltd hf
          refine j_putI (k := 10) hX kX12 (by decide) fk_X12_122 dX12_atom_147 (sh_50 hG) rfl rfl rfl rfl ?_
          refine j_iinc hX dX12_atom_150 rfl (congrArg (_ + ·) ic_1) (by decide) rfl ?_
          refine jpc (b := 153) rfl ?_
          refine j_goto (tgt := 90) hX dX12_atom_153 (by decide) ?_
          exact aJx (ih _ _ _ hG  hf) (And.intro rfl (And.intro rfl (And.intro rfl (rfl))))
        · have hf := ifp hc hf
          refine j_aload_n hX dX12_atom_110 rfl ?_
          obtain ⟨v26, i27, hh28, hf⟩ := bd2 hf
          refine j_cV0i hX lk_X12_137 kX12 dX12_atom_111 (sh_50 hG) (okX12_fails hG hh28) rfl rfl (rmm (by omega) hRf hRl (by decide)) (Nat.le_of_ble_eq_true rfl) (Nat.le_add_right _ _) (Nat.le_add_right _ _) ?_
          refine j_pop hX dX12_atom_114 rfl ?_
          refine j_iconst hX dX12_atom_115 ic_0 ?_
          cases hf
          exact j_ret hX hr hlk rfl dX12_atom_116
def fX12_atom_86 (gs : (Nat → Nat → Int32) → (Nat → Nat → Option Nat) → Option ((Int32) × (Nat → Nat → Int32))) (i : Nat → Nat → Int32) (rv : Nat → Nat → Option Nat) : Option ((Int32) × (Nat → Nat → Int32)) := fX12_atom_90 gs fuel 0 0 i rv
theorem kX12_atom_86  {gs : (Nat → Nat → Int32) → (Nat → Nat → Option Nat) → Option ((Int32) × (Nat → Nat → Int32))} {D0 : Nat} {vR : Int32} {iR : Nat → Nat → Int32} (hX : aX p s m args c RX12 cX12_atom 4 D cA A ad0) (hr : meth.sig.returnType = (some .int)) (hlk : meth.locks = false) (hRf : (D0 + 5) ≤ R.frames) (hRl : 64 * (D0 + 5) ≤ R.locals) (Hgs : ∀ {i : Nat → Nat → Int32} {lo : Nat → Nat → Int64} {rv : Nat → Nat → Option Nat} {vR : Int32} {iR : Nat → Nat → Int32}, aGood sh rv → gs i rv = some (vR, iR) → aM l yX12_sum cX12_sum 5 (some .int) D0 [.ref (100 + 50)] (sh, i, lo, rv) (some (.int vR)) (sh, iR, lo, rv)) (hG : aGood sh rv) (hf : fX12_atom_86 gs i rv = some (vR, iR)) : aJ p l e R s m args below meth c (MQ below (aPost D cA ad0 A (sh, i0, lo0, rv0) (some (.int vR)) (sh, iR, lo, rv)) args s (sh.length - sh.length) (aSn sh - aSn sh) A) D cA A ad0 4 sh.length (aSn sh) 86 [some (.ref (100 + 50)), none, none, none] [] (sh, i, lo, rv) := by
  unfold fX12_atom_86 at hf
  refine j_iconst hX dX12_atom_86 ic_0 ?_
  refine j_istore_n hX dX12_atom_87 (by decide) rfl ?_
  refine j_iconst hX dX12_atom_88 ic_0 ?_
  refine j_istore_n hX dX12_atom_89 (by decide) rfl ?_
  exact aJx (kX12_atom_90 hX hr hlk hRf hRl Hgs fuel _ _ _ hG  hf) (And.intro rfl (And.intro rfl (And.intro rfl (rfl))))
def fX12_atom (gs : (Nat → Nat → Int32) → (Nat → Nat → Option Nat) → Option ((Int32) × (Nat → Nat → Int32))) (i : Nat → Nat → Int32) (rv : Nat → Nat → Option Nat) : Option ((Int32) × (Nat → Nat → Int32)) := bn2 (fX12_look i rv) fun v1 i2 =>
    bn1 (fX12_isAmong 2 v1) fun v4 =>
    if v4 = 0 then (if v1 = 91 then (bn2 (fX12_goesIn i2) fun v11 i12 =>
    if v11 = 0 then (some (0, i12)) else (bn2 (gs i12 rv) fun v14 i15 =>
    bn2 (fX12_takes 93 i15 rv) fun v17 i18 =>
    if v17 = 0 then (some (0, i18)) else (lt (u2 i18 50 12 ((i18 50 12) - (1 : Int32))) fun i20 =>
    some (v14, i20)))) else (bn1 (fX12_isDigit i2 rv) fun v6 =>
    if v6 = 0 then (bn2 (fX12_fails i2) fun v8 i9 =>
    fX12_atom_86 gs i9 rv) else (fX12_atom_86 gs i2 rv))) else (lt (u2 i2 50 10 ((i2 50 10) + (1 : Int32))) fun i21 =>
    if aIn v1 128 = true then
    (some ((i21 54 (v1 : Int32).toNatClampNeg), i21)) else none)
theorem kX12_atom  {gs : (Nat → Nat → Int32) → (Nat → Nat → Option Nat) → Option ((Int32) × (Nat → Nat → Int32))} {D0 : Nat} {vR : Int32} {iR : Nat → Nat → Int32} (hX : aX p s m args c RX12 cX12_atom 4 D cA A ad0) (hr : meth.sig.returnType = (some .int)) (hlk : meth.locks = false) (hRf : (D0 + 5) ≤ R.frames) (hRl : 64 * (D0 + 5) ≤ R.locals) (Hgs : ∀ {i : Nat → Nat → Int32} {lo : Nat → Nat → Int64} {rv : Nat → Nat → Option Nat} {vR : Int32} {iR : Nat → Nat → Int32}, aGood sh rv → gs i rv = some (vR, iR) → aM l yX12_sum cX12_sum 5 (some .int) D0 [.ref (100 + 50)] (sh, i, lo, rv) (some (.int vR)) (sh, iR, lo, rv)) (hG : aGood sh rv) (hf : fX12_atom gs i rv = some (vR, iR)) : aJ p l e R s m args below meth c (MQ below (aPost D cA ad0 A (sh, i0, lo0, rv0) (some (.int vR)) (sh, iR, lo, rv)) args s (sh.length - sh.length) (aSn sh - aSn sh) A) D cA A ad0 4 sh.length (aSn sh) 0 [some (.ref (100 + 50)), none, none, none] [] (sh, i, lo, rv) := by
  unfold fX12_atom at hf
  refine j_aload_n hX dX12_atom_0 rfl ?_
  obtain ⟨v1, i2, hh3, hf⟩ := bd2 hf
  refine j_cV0i hX lk_X12_141 kX12 dX12_atom_1 (sh_50 hG) (okX12_look hG hh3) rfl rfl (rmm (by omega) hRf hRl (by decide)) (Nat.le_of_ble_eq_true rfl) (Nat.le_add_right _ _) (Nat.le_add_right _ _) ?_
  refine j_istore_n hX dX12_atom_4 (by decide) rfl ?_
  refine j_ldcS (j := 2) (tx := "nwtcos") hX (by decide) (by decide) dX12_atom_5 ?_
  refine j_iload_n hX dX12_atom_7 rfl ?_
  refine jpc (b := 8) rfl ?_
  obtain ⟨v4, hh5, hf⟩ := bd1 hf
  refine j_cS2i hX lk_X12_157 dX12_atom_8 (okX12_isAmong hG (by decide) hh5) rfl rfl (rmm (by omega) hRf hRl (by decide)) (Nat.le_of_ble_eq_true rfl) (Nat.le_add_right _ _) (Nat.le_add_right _ _) ?_
  refine j_if_eq (tgt := 31) hX dX12_atom_11 (by decide) (fun hc => ?_) (fun hc => ?_)
  · have hf := ifp hc hf
    refine j_iload_n hX dX12_atom_31 rfl ?_
    refine j_bipush hX dX12_atom_32 bp_91 ?_
    refine j_icmp_ne (tgt := 74) hX dX12_atom_34 (by decide) (fun hc => ?_) (fun hc => ?_)
    · have hf := ifn hc hf
      refine j_aload_n hX dX12_atom_74 rfl ?_
      obtain ⟨v6, hh7, hf⟩ := bd1 hf
      refine j_cV0i hX lk_X12_171 kX12 dX12_atom_75 (sh_50 hG) (okX12_isDigit hG hh7) rfl rfl (rmm (by omega) hRf hRl (by decide)) (Nat.le_of_ble_eq_true rfl) (Nat.le_add_right _ _) (Nat.le_add_right _ _) ?_
      refine j_if_ne (tgt := 86) hX dX12_atom_78 (by decide) (fun hc => ?_) (fun hc => ?_)
      · have hf := ifn hc hf
        exact aJx (kX12_atom_86 hX hr hlk hRf hRl Hgs hG  hf) (And.intro rfl (rfl))
      · have hf := ifp hc hf
        refine j_aload_n hX dX12_atom_81 rfl ?_
        obtain ⟨v8, i9, hh10, hf⟩ := bd2 hf
        refine j_cV0i hX lk_X12_137 kX12 dX12_atom_82 (sh_50 hG) (okX12_fails hG hh10) rfl rfl (rmm (by omega) hRf hRl (by decide)) (Nat.le_of_ble_eq_true rfl) (Nat.le_add_right _ _) (Nat.le_add_right _ _) ?_
        refine j_pop hX dX12_atom_85 rfl ?_
        exact aJx (kX12_atom_86 hX hr hlk hRf hRl Hgs hG  hf) (And.intro rfl (rfl))
    · have hf := ifp hc hf
      refine j_aload_n hX dX12_atom_37 rfl ?_
      obtain ⟨v11, i12, hh13, hf⟩ := bd2 hf
      refine j_cV0i hX lk_X12_161 kX12 dX12_atom_38 (sh_50 hG) (okX12_goesIn hG hh13) rfl rfl (rmm (by omega) hRf hRl (by decide)) (Nat.le_of_ble_eq_true rfl) (Nat.le_add_right _ _) (Nat.le_add_right _ _) ?_
      refine j_if_ne (tgt := 46) hX dX12_atom_41 (by decide) (fun hc => ?_) (fun hc => ?_)
      · have hf := ifn hc hf
        refine j_aload_n hX dX12_atom_46 rfl ?_
        obtain ⟨v14, i15, hh16, hf⟩ := bd2 hf
        refine j_cV0i hX lk_X12_164 kX12 dX12_atom_47 (sh_50 hG) (Hgs hG hh16) rfl rfl (rmm (by omega) hRf hRl (by decide)) (Nat.le_of_ble_eq_true rfl) (Nat.le_add_right _ _) (Nat.le_add_right _ _) ?_
        refine j_istore_n hX dX12_atom_50 (by decide) rfl ?_
        refine j_aload_n hX dX12_atom_51 rfl ?_
        refine j_bipush hX dX12_atom_52 bp_93 ?_
        refine jpc (b := 54) rfl ?_
        obtain ⟨v17, i18, hh19, hf⟩ := bd2 hf
        refine j_cV1i hX lk_X12_167 kX12 dX12_atom_54 (sh_50 hG) (okX12_takes hG hh19) rfl rfl (rmm (by omega) hRf hRl (by decide)) (Nat.le_of_ble_eq_true rfl) (Nat.le_add_right _ _) (Nat.le_add_right _ _) ?_
        refine j_if_ne (tgt := 62) hX dX12_atom_57 (by decide) (fun hc => ?_) (fun hc => ?_)
        · have hf := ifn hc hf
          refine j_aload_n hX dX12_atom_62 rfl ?_
          refine j_dup hX dX12_atom_63 rfl ?_
          refine j_getI (k := 12) hX kX12 (by decide) fk_X12_134 dX12_atom_64 (sh_50 hG) rfl ?_
          refine j_iconst hX dX12_atom_67 ic_1 ?_
          refine j_isub hX dX12_atom_68 ?_
          refine jpc (b := 69) rfl ?_
          have hf := ltd hf
          refine j_putI (k := 12) hX kX12 (by decide) fk_X12_134 dX12_atom_69 (sh_50 hG) rfl rfl rfl rfl ?_
          refine j_iload_n hX dX12_atom_72 rfl ?_
          cases hf
          exact j_ret hX hr hlk rfl dX12_atom_73
        · have hf := ifp hc hf
          refine j_iconst hX dX12_atom_60 ic_0 ?_
          cases hf
          exact j_ret hX hr hlk rfl dX12_atom_61
      · have hf := ifp hc hf
        refine j_iconst hX dX12_atom_44 ic_0 ?_
        cases hf
        exact j_ret hX hr hlk rfl dX12_atom_45
  · have hf := ifn hc hf
    refine j_aload_n hX dX12_atom_14 rfl ?_
    refine j_dup hX dX12_atom_15 rfl ?_
    refine j_getI (k := 10) hX kX12 (by decide) fk_X12_122 dX12_atom_16 (sh_50 hG) rfl ?_
    refine j_iconst hX dX12_atom_19 ic_1 ?_
    refine j_iadd hX dX12_atom_20 ?_
    refine jpc (b := 21) rfl ?_
    have hf := ltd hf
    refine j_putI (k := 10) hX kX12 (by decide) fk_X12_122 dX12_atom_21 (sh_50 hG) rfl rfl rfl rfl ?_
    refine j_aload_n hX dX12_atom_24 rfl ?_
    refine j_getR (k := 4) hX kX12 (by decide) fk_X12_20 (rf_50_4 hG) dX12_atom_25 (sh_50 hG) rfl ?_
    refine j_iload_n hX dX12_atom_28 rfl ?_
    obtain ⟨hg, hf⟩ := gd hf
    refine j_iald hX (sh_54 hG) hg dX12_atom_29 ?_
    cases hf
    exact j_ret hX hr hlk rfl dX12_atom_30
theorem okX12_atom {l : Launch} {sh : List aSh} {i : Nat → Nat → Int32} {lo : Nat → Nat → Int64} {rv : Nat → Nat → Option Nat} {gs : (Nat → Nat → Int32) → (Nat → Nat → Option Nat) → Option ((Int32) × (Nat → Nat → Int32))} {D0 : Nat} (Hgs : ∀ {i : Nat → Nat → Int32} {lo : Nat → Nat → Int64} {rv : Nat → Nat → Option Nat} {vR : Int32} {iR : Nat → Nat → Int32}, aGood sh rv → gs i rv = some (vR, iR) → aM l yX12_sum cX12_sum 5 (some .int) D0 [.ref (100 + 50)] (sh, i, lo, rv) (some (.int vR)) (sh, iR, lo, rv)) {vR : Int32} {iR : Nat → Nat → Int32} (hG : aGood sh rv) (hf : fX12_atom gs i rv = some (vR, iR)) : aM l yX12_atom cX12_atom 4 (some .int) (D0 + 5) [.ref (100 + 50)] (sh, i, lo, rv) (some (.int vR)) (sh, iR, lo, rv) :=
  aM_of (by decide) (Nat.le_of_ble_eq_true rfl) (Nat.le_refl _) (Nat.le_refl _) (fun p e s m args below meth c D cA A ad0 hX hr hlk hnm => kX12_atom hX hr hlk (Nat.le_refl _) (Nat.le_refl _) Hgs hG hf)
def fX12_term_87 (gs : (Nat → Nat → Int32) → (Nat → Nat → Option Nat) → Option ((Int32) × (Nat → Nat → Int32))) (kh5 : Int32 → (Nat → Nat → Int32) → (Nat → Nat → Option Nat) → Option ((Int32) × (Nat → Nat → Int32))) (s0 : Int64) (i : Nat → Nat → Int32) (rv : Nat → Nat → Option Nat) : Option ((Int32) × (Nat → Nat → Int32)) := bn1 (fX12_within s0) fun v17 =>
    kh5 v17 i rv
theorem kX12_term_87  {gs : (Nat → Nat → Int32) → (Nat → Nat → Option Nat) → Option ((Int32) × (Nat → Nat → Int32))} {D0 : Nat} {vR : Int32} {iR : Nat → Nat → Int32} (hX : aX p s m args c RX12 cX12_term 5 D cA A ad0) (hr : meth.sig.returnType = (some .int)) (hlk : meth.locks = false) (hRf : (D0 + 6) ≤ R.frames) (hRl : 64 * (D0 + 6) ≤ R.locals) (Hgs : ∀ {i : Nat → Nat → Int32} {lo : Nat → Nat → Int64} {rv : Nat → Nat → Option Nat} {vR : Int32} {iR : Nat → Nat → Int32}, aGood sh rv → gs i rv = some (vR, iR) → aM l yX12_sum cX12_sum 5 (some .int) D0 [.ref (100 + 50)] (sh, i, lo, rv) (some (.int vR)) (sh, iR, lo, rv)) {kh5 : Int32 → (Nat → Nat → Int32) → (Nat → Nat → Option Nat) → Option ((Int32) × (Nat → Nat → Int32))} (Hkh5 : ∀ (x1 : Int32) (i : Nat → Nat → Int32), aGood sh rv → kh5 x1 i rv = some (vR, iR) → aJ p l e R s m args below meth c (MQ below (aPost D cA ad0 A (sh, i0, lo0, rv0) (some (.int vR)) (sh, iR, lo, rv)) args s (sh.length - sh.length) (aSn sh - aSn sh) A) D cA A ad0 5 sh.length (aSn sh) 5 [some (.ref (100 + 50)), some (.int x1), none, none, none] [] (sh, i, lo, rv)) {s0 : Int64} (hG : aGood sh rv) (hf : fX12_term_87 gs kh5 s0 i rv = some (vR, iR)) : aJ p l e R s m args below meth c (MQ below (aPost D cA ad0 A (sh, i0, lo0, rv0) (some (.int vR)) (sh, iR, lo, rv)) args s (sh.length - sh.length) (aSn sh - aSn sh) A) D cA A ad0 5 sh.length (aSn sh) 87 [some (.ref (100 + 50)), none, none, none, none] [.long s0] (sh, i, lo, rv) := by
  unfold fX12_term_87 at hf
  obtain ⟨v17, hh18, hf⟩ := bd1 hf
  refine j_cS1i hX lk_X12_177 dX12_term_87 (okX12_within hG hh18) rfl rfl (rmm (by omega) hRf hRl (by decide)) (Nat.le_of_ble_eq_true rfl) (Nat.le_add_right _ _) (Nat.le_add_right _ _) ?_
  refine j_istore_n hX dX12_term_90 (by decide) rfl ?_
  refine j_goto (tgt := 5) hX dX12_term_91 (by decide) ?_
  exact aJx (Hkh5 _ _ hG  hf) (And.intro rfl (And.intro rfl (rfl)))
def fX12_term_45 (gs : (Nat → Nat → Int32) → (Nat → Nat → Option Nat) → Option ((Int32) × (Nat → Nat → Int32))) (kh5 : Int32 → (Nat → Nat → Int32) → (Nat → Nat → Option Nat) → Option ((Int32) × (Nat → Nat → Int32))) (x1 : Int32) (s0 : Int32) (i : Nat → Nat → Int32) (rv : Nat → Nat → Option Nat) : Option ((Int32) × (Nat → Nat → Int32)) := lt (u2 i 50 10 ((i 50 10) + (1 : Int32))) fun i13 =>
    bn2 (fX12_atom gs i13 rv) fun v14 i15 =>
    if s0 = 0 then (if (lg_cmp (v14 : Int32).toInt64 0) = 0 then (fX12_term_87 gs kh5 0 i15 rv) else (if (v14 : Int32).toInt64 = 0 then none else
    fX12_term_87 gs kh5 ((x1 : Int32).toInt64 / (v14 : Int32).toInt64) i15 rv)) else (fX12_term_87 gs kh5 ((x1 : Int32).toInt64 * (v14 : Int32).toInt64) i15 rv)
theorem kX12_term_45  {gs : (Nat → Nat → Int32) → (Nat → Nat → Option Nat) → Option ((Int32) × (Nat → Nat → Int32))} {D0 : Nat} {vR : Int32} {iR : Nat → Nat → Int32} (hX : aX p s m args c RX12 cX12_term 5 D cA A ad0) (hr : meth.sig.returnType = (some .int)) (hlk : meth.locks = false) (hRf : (D0 + 6) ≤ R.frames) (hRl : 64 * (D0 + 6) ≤ R.locals) (Hgs : ∀ {i : Nat → Nat → Int32} {lo : Nat → Nat → Int64} {rv : Nat → Nat → Option Nat} {vR : Int32} {iR : Nat → Nat → Int32}, aGood sh rv → gs i rv = some (vR, iR) → aM l yX12_sum cX12_sum 5 (some .int) D0 [.ref (100 + 50)] (sh, i, lo, rv) (some (.int vR)) (sh, iR, lo, rv)) {kh5 : Int32 → (Nat → Nat → Int32) → (Nat → Nat → Option Nat) → Option ((Int32) × (Nat → Nat → Int32))} (Hkh5 : ∀ (x1 : Int32) (i : Nat → Nat → Int32), aGood sh rv → kh5 x1 i rv = some (vR, iR) → aJ p l e R s m args below meth c (MQ below (aPost D cA ad0 A (sh, i0, lo0, rv0) (some (.int vR)) (sh, iR, lo, rv)) args s (sh.length - sh.length) (aSn sh - aSn sh) A) D cA A ad0 5 sh.length (aSn sh) 5 [some (.ref (100 + 50)), some (.int x1), none, none, none] [] (sh, i, lo, rv)) {x1 : Int32} {s0 : Int32} (hG : aGood sh rv) (hf : fX12_term_45 gs kh5 x1 s0 i rv = some (vR, iR)) : aJ p l e R s m args below meth c (MQ below (aPost D cA ad0 A (sh, i0, lo0, rv0) (some (.int vR)) (sh, iR, lo, rv)) args s (sh.length - sh.length) (aSn sh - aSn sh) A) D cA A ad0 5 sh.length (aSn sh) 45 [some (.ref (100 + 50)), some (.int x1), none, none, none] [.int s0] (sh, i, lo, rv) := by
  unfold fX12_term_45 at hf
  refine j_istore_n hX dX12_term_45 (by decide) rfl ?_
  refine j_aload_n hX dX12_term_46 rfl ?_
  refine j_dup hX dX12_term_47 rfl ?_
  refine j_getI (k := 10) hX kX12 (by decide) fk_X12_122 dX12_term_48 (sh_50 hG) rfl ?_
  refine j_iconst hX dX12_term_51 ic_1 ?_
  refine jpc (b := 52) rfl ?_
  refine j_iadd hX dX12_term_52 ?_
  have hf := ltd hf
  refine j_putI (k := 10) hX kX12 (by decide) fk_X12_122 dX12_term_53 (sh_50 hG) rfl rfl rfl rfl ?_
  refine j_aload_n hX dX12_term_56 rfl ?_
  obtain ⟨v14, i15, hh16, hf⟩ := bd2 hf
  refine j_cV0i hX lk_X12_174 kX12 dX12_term_57 (sh_50 hG) (okX12_atom Hgs hG hh16) rfl rfl (rmm (by omega) hRf hRl (by decide)) (Nat.le_of_ble_eq_true rfl) (Nat.le_add_right _ _) (Nat.le_add_right _ _) ?_
  refine j_i2l hX dX12_term_60 ?_
  refine j_lstore_n hX dX12_term_61 (by decide) rfl ?_
  refine jpc (b := 62) rfl ?_
  refine j_iload_n hX dX12_term_62 rfl ?_
  refine j_if_eq (tgt := 73) hX dX12_term_63 (by decide) (fun hc => ?_) (fun hc => ?_)
  · have hf := ifp hc hf
    refine j_lload_n hX dX12_term_73 rfl ?_
    refine j_lconst (v := 0) hX dX12_term_74 (by decide) ?_
    refine j_lcmp hX dX12_term_75 ?_
    refine j_if_ne (tgt := 83) hX dX12_term_76 (by decide) (fun hc => ?_) (fun hc => ?_)
    · have hf := ifn hc hf
      refine j_iload_n hX dX12_term_83 rfl ?_
      refine j_i2l hX dX12_term_84 ?_
      refine j_lload_n hX dX12_term_85 rfl ?_
      obtain ⟨hz, hf⟩ := gdn hf
      refine j_ldiv hX dX12_term_86 hz ?_
      exact aJx (kX12_term_87 hX hr hlk hRf hRl Hgs Hkh5 hG  hf) (And.intro rfl (rfl))
    · have hf := ifp hc hf
      refine j_lconst (v := 0) hX dX12_term_79 (by decide) ?_
      refine j_goto (tgt := 87) hX dX12_term_80 (by decide) ?_
      exact aJx (kX12_term_87 hX hr hlk hRf hRl Hgs Hkh5 hG  hf) (And.intro rfl (rfl))
  · have hf := ifn hc hf
    refine j_iload_n hX dX12_term_66 rfl ?_
    refine j_i2l hX dX12_term_67 ?_
    refine j_lload_n hX dX12_term_68 rfl ?_
    refine j_lmul hX dX12_term_69 ?_
    refine j_goto (tgt := 87) hX dX12_term_70 (by decide) ?_
    exact aJx (kX12_term_87 hX hr hlk hRf hRl Hgs Hkh5 hG  hf) (And.intro rfl (rfl))
def fX12_term_31 (gs : (Nat → Nat → Int32) → (Nat → Nat → Option Nat) → Option ((Int32) × (Nat → Nat → Int32))) (kh5 : Int32 → (Nat → Nat → Int32) → (Nat → Nat → Option Nat) → Option ((Int32) × (Nat → Nat → Int32))) (x1 : Int32) (i : Nat → Nat → Int32) (rv : Nat → Nat → Option Nat) : Option ((Int32) × (Nat → Nat → Int32)) := bn2 (fX12_look i rv) fun v10 i11 =>
    if v10 = 42 then (fX12_term_45 gs kh5 x1 1 i11 rv) else (fX12_term_45 gs kh5 x1 0 i11 rv)
theorem kX12_term_31  {gs : (Nat → Nat → Int32) → (Nat → Nat → Option Nat) → Option ((Int32) × (Nat → Nat → Int32))} {D0 : Nat} {vR : Int32} {iR : Nat → Nat → Int32} (hX : aX p s m args c RX12 cX12_term 5 D cA A ad0) (hr : meth.sig.returnType = (some .int)) (hlk : meth.locks = false) (hRf : (D0 + 6) ≤ R.frames) (hRl : 64 * (D0 + 6) ≤ R.locals) (Hgs : ∀ {i : Nat → Nat → Int32} {lo : Nat → Nat → Int64} {rv : Nat → Nat → Option Nat} {vR : Int32} {iR : Nat → Nat → Int32}, aGood sh rv → gs i rv = some (vR, iR) → aM l yX12_sum cX12_sum 5 (some .int) D0 [.ref (100 + 50)] (sh, i, lo, rv) (some (.int vR)) (sh, iR, lo, rv)) {kh5 : Int32 → (Nat → Nat → Int32) → (Nat → Nat → Option Nat) → Option ((Int32) × (Nat → Nat → Int32))} (Hkh5 : ∀ (x1 : Int32) (i : Nat → Nat → Int32), aGood sh rv → kh5 x1 i rv = some (vR, iR) → aJ p l e R s m args below meth c (MQ below (aPost D cA ad0 A (sh, i0, lo0, rv0) (some (.int vR)) (sh, iR, lo, rv)) args s (sh.length - sh.length) (aSn sh - aSn sh) A) D cA A ad0 5 sh.length (aSn sh) 5 [some (.ref (100 + 50)), some (.int x1), none, none, none] [] (sh, i, lo, rv)) {x1 : Int32} (hG : aGood sh rv) (hf : fX12_term_31 gs kh5 x1 i rv = some (vR, iR)) : aJ p l e R s m args below meth c (MQ below (aPost D cA ad0 A (sh, i0, lo0, rv0) (some (.int vR)) (sh, iR, lo, rv)) args s (sh.length - sh.length) (aSn sh - aSn sh) A) D cA A ad0 5 sh.length (aSn sh) 31 [some (.ref (100 + 50)), some (.int x1), none, none, none] [] (sh, i, lo, rv) := by
  unfold fX12_term_31 at hf
  refine j_aload_n hX dX12_term_31 rfl ?_
  obtain ⟨v10, i11, hh12, hf⟩ := bd2 hf
  refine j_cV0i hX lk_X12_141 kX12 dX12_term_32 (sh_50 hG) (okX12_look hG hh12) rfl rfl (rmm (by omega) hRf hRl (by decide)) (Nat.le_of_ble_eq_true rfl) (Nat.le_add_right _ _) (Nat.le_add_right _ _) ?_
  refine j_bipush hX dX12_term_35 bp_42 ?_
  refine j_icmp_ne (tgt := 44) hX dX12_term_37 (by decide) (fun hc => ?_) (fun hc => ?_)
  · have hf := ifn hc hf
    refine j_iconst hX dX12_term_44 ic_0 ?_
    exact aJx (kX12_term_45 hX hr hlk hRf hRl Hgs Hkh5 hG  hf) (And.intro rfl (And.intro rfl (rfl)))
  · have hf := ifp hc hf
    refine j_iconst hX dX12_term_40 ic_1 ?_
    refine j_goto (tgt := 45) hX dX12_term_41 (by decide) ?_
    exact aJx (kX12_term_45 hX hr hlk hRf hRl Hgs Hkh5 hG  hf) (And.intro rfl (And.intro rfl (rfl)))
def fX12_term_5 (gs : (Nat → Nat → Int32) → (Nat → Nat → Option Nat) → Option ((Int32) × (Nat → Nat → Int32))) : Nat → Int32 → (Nat → Nat → Int32) → (Nat → Nat → Option Nat) → Option ((Int32) × (Nat → Nat → Int32))
  | 0, _, _, _ => none
  | n + 1, x1, i, rv => if (i 50 11) = (-1) then (bn2 (fX12_look i rv) fun v4 i5 =>
    if v4 = 42 then (fX12_term_31 gs (fX12_term_5 gs n) x1 i5 rv) else (bn2 (fX12_look i5 rv) fun v7 i8 =>
    if v7 = 47 then (fX12_term_31 gs (fX12_term_5 gs n) x1 i8 rv) else (some (x1, i8)))) else (some (x1, i))
theorem kX12_term_5  {gs : (Nat → Nat → Int32) → (Nat → Nat → Option Nat) → Option ((Int32) × (Nat → Nat → Int32))} {D0 : Nat} {vR : Int32} {iR : Nat → Nat → Int32} (hX : aX p s m args c RX12 cX12_term 5 D cA A ad0) (hr : meth.sig.returnType = (some .int)) (hlk : meth.locks = false) (hRf : (D0 + 6) ≤ R.frames) (hRl : 64 * (D0 + 6) ≤ R.locals) (Hgs : ∀ {i : Nat → Nat → Int32} {lo : Nat → Nat → Int64} {rv : Nat → Nat → Option Nat} {vR : Int32} {iR : Nat → Nat → Int32}, aGood sh rv → gs i rv = some (vR, iR) → aM l yX12_sum cX12_sum 5 (some .int) D0 [.ref (100 + 50)] (sh, i, lo, rv) (some (.int vR)) (sh, iR, lo, rv)) : ∀ (n : Nat) (x1 : Int32) (i : Nat → Nat → Int32), aGood sh rv → fX12_term_5 gs n x1 i rv = some (vR, iR) → aJ p l e R s m args below meth c (MQ below (aPost D cA ad0 A (sh, i0, lo0, rv0) (some (.int vR)) (sh, iR, lo, rv)) args s (sh.length - sh.length) (aSn sh - aSn sh) A) D cA A ad0 5 sh.length (aSn sh) 5 [some (.ref (100 + 50)), some (.int x1), none, none, none] [] (sh, i, lo, rv) := by
  intro n
  induction n with
  | zero => intros; rename_i hf; cases hf
  | succ n ih =>
    intro x1 i hG hf
    rw [fX12_term_5] at hf
    refine j_aload_n hX dX12_term_5 rfl ?_
    refine j_getI (k := 11) hX kX12 (by decide) fk_X12_131 dX12_term_6 (sh_50 hG) rfl ?_
    refine j_iconst hX dX12_term_9 ic_m1 ?_
    refine j_icmp_ne (tgt := 94) hX dX12_term_10 (by decide) (fun hc => ?_) (fun hc => ?_)
    · have hf := ifn hc hf
      refine j_iload_n hX dX12_term_94 rfl ?_
      cases hf
      exact j_ret hX hr hlk rfl dX12_term_95
    · have hf := ifp hc hf
      refine j_aload_n hX dX12_term_13 rfl ?_
      obtain ⟨v4, i5, hh6, hf⟩ := bd2 hf
      refine j_cV0i hX lk_X12_141 kX12 dX12_term_14 (sh_50 hG) (okX12_look hG hh6) rfl rfl (rmm (by omega) hRf hRl (by decide)) (Nat.le_of_ble_eq_true rfl) (Nat.le_add_right _ _) (Nat.le_add_right _ _) ?_
      refine j_bipush hX dX12_term_17 bp_42 ?_
      refine j_icmp_eq (tgt := 31) hX dX12_term_19 (by decide) (fun hc => ?_) (fun hc => ?_)
      · have hf := ifp hc hf
        exact aJx (kX12_term_31 hX hr hlk hRf hRl Hgs ih hG  hf) (And.intro rfl (And.intro rfl (rfl)))
      · have hf := ifn hc hf
        refine j_aload_n hX dX12_term_22 rfl ?_
        obtain ⟨v7, i8, hh9, hf⟩ := bd2 hf
        refine j_cV0i hX lk_X12_141 kX12 dX12_term_23 (sh_50 hG) (okX12_look hG hh9) rfl rfl (rmm (by omega) hRf hRl (by decide)) (Nat.le_of_ble_eq_true rfl) (Nat.le_add_right _ _) (Nat.le_add_right _ _) ?_
        refine j_bipush hX dX12_term_26 bp_47 ?_
        refine j_icmp_ne (tgt := 94) hX dX12_term_28 (by decide) (fun hc => ?_) (fun hc => ?_)
        · have hf := ifn hc hf
          refine j_iload_n hX dX12_term_94 rfl ?_
          cases hf
          exact j_ret hX hr hlk rfl dX12_term_95
        · have hf := ifp hc hf
          exact aJx (kX12_term_31 hX hr hlk hRf hRl Hgs ih hG  hf) (And.intro rfl (And.intro rfl (rfl)))
def fX12_term (gs : (Nat → Nat → Int32) → (Nat → Nat → Option Nat) → Option ((Int32) × (Nat → Nat → Int32))) (i : Nat → Nat → Int32) (rv : Nat → Nat → Option Nat) : Option ((Int32) × (Nat → Nat → Int32)) := bn2 (fX12_atom gs i rv) fun v1 i2 =>
    fX12_term_5 gs fuel v1 i2 rv
theorem kX12_term  {gs : (Nat → Nat → Int32) → (Nat → Nat → Option Nat) → Option ((Int32) × (Nat → Nat → Int32))} {D0 : Nat} {vR : Int32} {iR : Nat → Nat → Int32} (hX : aX p s m args c RX12 cX12_term 5 D cA A ad0) (hr : meth.sig.returnType = (some .int)) (hlk : meth.locks = false) (hRf : (D0 + 6) ≤ R.frames) (hRl : 64 * (D0 + 6) ≤ R.locals) (Hgs : ∀ {i : Nat → Nat → Int32} {lo : Nat → Nat → Int64} {rv : Nat → Nat → Option Nat} {vR : Int32} {iR : Nat → Nat → Int32}, aGood sh rv → gs i rv = some (vR, iR) → aM l yX12_sum cX12_sum 5 (some .int) D0 [.ref (100 + 50)] (sh, i, lo, rv) (some (.int vR)) (sh, iR, lo, rv)) (hG : aGood sh rv) (hf : fX12_term gs i rv = some (vR, iR)) : aJ p l e R s m args below meth c (MQ below (aPost D cA ad0 A (sh, i0, lo0, rv0) (some (.int vR)) (sh, iR, lo, rv)) args s (sh.length - sh.length) (aSn sh - aSn sh) A) D cA A ad0 5 sh.length (aSn sh) 0 [some (.ref (100 + 50)), none, none, none, none] [] (sh, i, lo, rv) := by
  unfold fX12_term at hf
  refine j_aload_n hX dX12_term_0 rfl ?_
  obtain ⟨v1, i2, hh3, hf⟩ := bd2 hf
  refine j_cV0i hX lk_X12_174 kX12 dX12_term_1 (sh_50 hG) (okX12_atom Hgs hG hh3) rfl rfl (rmm (by omega) hRf hRl (by decide)) (Nat.le_of_ble_eq_true rfl) (Nat.le_add_right _ _) (Nat.le_add_right _ _) ?_
  refine j_istore_n hX dX12_term_4 (by decide) rfl ?_
  exact aJx (kX12_term_5 hX hr hlk hRf hRl Hgs fuel _ _ hG  hf) (And.intro rfl (And.intro rfl (rfl)))
theorem okX12_term {l : Launch} {sh : List aSh} {i : Nat → Nat → Int32} {lo : Nat → Nat → Int64} {rv : Nat → Nat → Option Nat} {gs : (Nat → Nat → Int32) → (Nat → Nat → Option Nat) → Option ((Int32) × (Nat → Nat → Int32))} {D0 : Nat} (Hgs : ∀ {i : Nat → Nat → Int32} {lo : Nat → Nat → Int64} {rv : Nat → Nat → Option Nat} {vR : Int32} {iR : Nat → Nat → Int32}, aGood sh rv → gs i rv = some (vR, iR) → aM l yX12_sum cX12_sum 5 (some .int) D0 [.ref (100 + 50)] (sh, i, lo, rv) (some (.int vR)) (sh, iR, lo, rv)) {vR : Int32} {iR : Nat → Nat → Int32} (hG : aGood sh rv) (hf : fX12_term gs i rv = some (vR, iR)) : aM l yX12_term cX12_term 5 (some .int) (D0 + 6) [.ref (100 + 50)] (sh, i, lo, rv) (some (.int vR)) (sh, iR, lo, rv) :=
  aM_of (by decide) (Nat.le_of_ble_eq_true rfl) (Nat.le_refl _) (Nat.le_refl _) (fun p e s m args below meth c D cA A ad0 hX hr hlk hnm => kX12_term hX hr hlk (Nat.le_refl _) (Nat.le_refl _) Hgs hG hf)
def fX12_sum_77 (gs : (Nat → Nat → Int32) → (Nat → Nat → Option Nat) → Option ((Int32) × (Nat → Nat → Int32))) (kh5 : Int32 → (Nat → Nat → Int32) → (Nat → Nat → Option Nat) → Option ((Int32) × (Nat → Nat → Int32))) (s0 : Int64) (i : Nat → Nat → Int32) (rv : Nat → Nat → Option Nat) : Option ((Int32) × (Nat → Nat → Int32)) := bn1 (fX12_within s0) fun v17 =>
    kh5 v17 i rv
theorem kX12_sum_77  {gs : (Nat → Nat → Int32) → (Nat → Nat → Option Nat) → Option ((Int32) × (Nat → Nat → Int32))} {D0 : Nat} {vR : Int32} {iR : Nat → Nat → Int32} (hX : aX p s m args c RX12 cX12_sum 5 D cA A ad0) (hr : meth.sig.returnType = (some .int)) (hlk : meth.locks = false) (hRf : (D0 + 7) ≤ R.frames) (hRl : 64 * (D0 + 7) ≤ R.locals) (Hgs : ∀ {i : Nat → Nat → Int32} {lo : Nat → Nat → Int64} {rv : Nat → Nat → Option Nat} {vR : Int32} {iR : Nat → Nat → Int32}, aGood sh rv → gs i rv = some (vR, iR) → aM l yX12_sum cX12_sum 5 (some .int) D0 [.ref (100 + 50)] (sh, i, lo, rv) (some (.int vR)) (sh, iR, lo, rv)) {kh5 : Int32 → (Nat → Nat → Int32) → (Nat → Nat → Option Nat) → Option ((Int32) × (Nat → Nat → Int32))} (Hkh5 : ∀ (x1 : Int32) (i : Nat → Nat → Int32), aGood sh rv → kh5 x1 i rv = some (vR, iR) → aJ p l e R s m args below meth c (MQ below (aPost D cA ad0 A (sh, i0, lo0, rv0) (some (.int vR)) (sh, iR, lo, rv)) args s (sh.length - sh.length) (aSn sh - aSn sh) A) D cA A ad0 5 sh.length (aSn sh) 5 [some (.ref (100 + 50)), some (.int x1), none, none, none] [] (sh, i, lo, rv)) {s0 : Int64} (hG : aGood sh rv) (hf : fX12_sum_77 gs kh5 s0 i rv = some (vR, iR)) : aJ p l e R s m args below meth c (MQ below (aPost D cA ad0 A (sh, i0, lo0, rv0) (some (.int vR)) (sh, iR, lo, rv)) args s (sh.length - sh.length) (aSn sh - aSn sh) A) D cA A ad0 5 sh.length (aSn sh) 77 [some (.ref (100 + 50)), none, none, none, none] [.long s0] (sh, i, lo, rv) := by
  unfold fX12_sum_77 at hf
  obtain ⟨v17, hh18, hf⟩ := bd1 hf
  refine j_cS1i hX lk_X12_177 dX12_sum_77 (okX12_within hG hh18) rfl rfl (rmm (by omega) hRf hRl (by decide)) (Nat.le_of_ble_eq_true rfl) (Nat.le_add_right _ _) (Nat.le_add_right _ _) ?_
  refine j_istore_n hX dX12_sum_80 (by decide) rfl ?_
  refine j_goto (tgt := 5) hX dX12_sum_81 (by decide) ?_
  exact aJx (Hkh5 _ _ hG  hf) (And.intro rfl (And.intro rfl (rfl)))
def fX12_sum_45 (gs : (Nat → Nat → Int32) → (Nat → Nat → Option Nat) → Option ((Int32) × (Nat → Nat → Int32))) (kh5 : Int32 → (Nat → Nat → Int32) → (Nat → Nat → Option Nat) → Option ((Int32) × (Nat → Nat → Int32))) (x1 : Int32) (s0 : Int32) (i : Nat → Nat → Int32) (rv : Nat → Nat → Option Nat) : Option ((Int32) × (Nat → Nat → Int32)) := lt (u2 i 50 10 ((i 50 10) + (1 : Int32))) fun i13 =>
    bn2 (fX12_term gs i13 rv) fun v14 i15 =>
    if s0 = 0 then (fX12_sum_77 gs kh5 ((x1 : Int32).toInt64 - (v14 : Int32).toInt64) i15 rv) else (fX12_sum_77 gs kh5 ((x1 : Int32).toInt64 + (v14 : Int32).toInt64) i15 rv)
theorem kX12_sum_45  {gs : (Nat → Nat → Int32) → (Nat → Nat → Option Nat) → Option ((Int32) × (Nat → Nat → Int32))} {D0 : Nat} {vR : Int32} {iR : Nat → Nat → Int32} (hX : aX p s m args c RX12 cX12_sum 5 D cA A ad0) (hr : meth.sig.returnType = (some .int)) (hlk : meth.locks = false) (hRf : (D0 + 7) ≤ R.frames) (hRl : 64 * (D0 + 7) ≤ R.locals) (Hgs : ∀ {i : Nat → Nat → Int32} {lo : Nat → Nat → Int64} {rv : Nat → Nat → Option Nat} {vR : Int32} {iR : Nat → Nat → Int32}, aGood sh rv → gs i rv = some (vR, iR) → aM l yX12_sum cX12_sum 5 (some .int) D0 [.ref (100 + 50)] (sh, i, lo, rv) (some (.int vR)) (sh, iR, lo, rv)) {kh5 : Int32 → (Nat → Nat → Int32) → (Nat → Nat → Option Nat) → Option ((Int32) × (Nat → Nat → Int32))} (Hkh5 : ∀ (x1 : Int32) (i : Nat → Nat → Int32), aGood sh rv → kh5 x1 i rv = some (vR, iR) → aJ p l e R s m args below meth c (MQ below (aPost D cA ad0 A (sh, i0, lo0, rv0) (some (.int vR)) (sh, iR, lo, rv)) args s (sh.length - sh.length) (aSn sh - aSn sh) A) D cA A ad0 5 sh.length (aSn sh) 5 [some (.ref (100 + 50)), some (.int x1), none, none, none] [] (sh, i, lo, rv)) {x1 : Int32} {s0 : Int32} (hG : aGood sh rv) (hf : fX12_sum_45 gs kh5 x1 s0 i rv = some (vR, iR)) : aJ p l e R s m args below meth c (MQ below (aPost D cA ad0 A (sh, i0, lo0, rv0) (some (.int vR)) (sh, iR, lo, rv)) args s (sh.length - sh.length) (aSn sh - aSn sh) A) D cA A ad0 5 sh.length (aSn sh) 45 [some (.ref (100 + 50)), some (.int x1), none, none, none] [.int s0] (sh, i, lo, rv) := by
  unfold fX12_sum_45 at hf
  refine j_istore_n hX dX12_sum_45 (by decide) rfl ?_
  refine j_aload_n hX dX12_sum_46 rfl ?_
  refine j_dup hX dX12_sum_47 rfl ?_
  refine j_getI (k := 10) hX kX12 (by decide) fk_X12_122 dX12_sum_48 (sh_50 hG) rfl ?_
  refine j_iconst hX dX12_sum_51 ic_1 ?_
  refine jpc (b := 52) rfl ?_
  refine j_iadd hX dX12_sum_52 ?_
  have hf := ltd hf
  refine j_putI (k := 10) hX kX12 (by decide) fk_X12_122 dX12_sum_53 (sh_50 hG) rfl rfl rfl rfl ?_
  refine j_aload_n hX dX12_sum_56 rfl ?_
  obtain ⟨v14, i15, hh16, hf⟩ := bd2 hf
  refine j_cV0i hX lk_X12_181 kX12 dX12_sum_57 (sh_50 hG) (okX12_term Hgs hG hh16) rfl rfl (rmm (by omega) hRf hRl (by decide)) (Nat.le_of_ble_eq_true rfl) (Nat.le_add_right _ _) (Nat.le_add_right _ _) ?_
  refine j_i2l hX dX12_sum_60 ?_
  refine j_lstore_n hX dX12_sum_61 (by decide) rfl ?_
  refine jpc (b := 62) rfl ?_
  refine j_iload_n hX dX12_sum_62 rfl ?_
  refine j_if_eq (tgt := 73) hX dX12_sum_63 (by decide) (fun hc => ?_) (fun hc => ?_)
  · have hf := ifp hc hf
    refine j_iload_n hX dX12_sum_73 rfl ?_
    refine j_i2l hX dX12_sum_74 ?_
    refine j_lload_n hX dX12_sum_75 rfl ?_
    refine j_lsub hX dX12_sum_76 ?_
    exact aJx (kX12_sum_77 hX hr hlk hRf hRl Hgs Hkh5 hG  hf) (And.intro rfl (rfl))
  · have hf := ifn hc hf
    refine j_iload_n hX dX12_sum_66 rfl ?_
    refine j_i2l hX dX12_sum_67 ?_
    refine j_lload_n hX dX12_sum_68 rfl ?_
    refine j_ladd hX dX12_sum_69 ?_
    refine j_goto (tgt := 77) hX dX12_sum_70 (by decide) ?_
    exact aJx (kX12_sum_77 hX hr hlk hRf hRl Hgs Hkh5 hG  hf) (And.intro rfl (rfl))
def fX12_sum_31 (gs : (Nat → Nat → Int32) → (Nat → Nat → Option Nat) → Option ((Int32) × (Nat → Nat → Int32))) (kh5 : Int32 → (Nat → Nat → Int32) → (Nat → Nat → Option Nat) → Option ((Int32) × (Nat → Nat → Int32))) (x1 : Int32) (i : Nat → Nat → Int32) (rv : Nat → Nat → Option Nat) : Option ((Int32) × (Nat → Nat → Int32)) := bn2 (fX12_look i rv) fun v10 i11 =>
    if v10 = 43 then (fX12_sum_45 gs kh5 x1 1 i11 rv) else (fX12_sum_45 gs kh5 x1 0 i11 rv)
theorem kX12_sum_31  {gs : (Nat → Nat → Int32) → (Nat → Nat → Option Nat) → Option ((Int32) × (Nat → Nat → Int32))} {D0 : Nat} {vR : Int32} {iR : Nat → Nat → Int32} (hX : aX p s m args c RX12 cX12_sum 5 D cA A ad0) (hr : meth.sig.returnType = (some .int)) (hlk : meth.locks = false) (hRf : (D0 + 7) ≤ R.frames) (hRl : 64 * (D0 + 7) ≤ R.locals) (Hgs : ∀ {i : Nat → Nat → Int32} {lo : Nat → Nat → Int64} {rv : Nat → Nat → Option Nat} {vR : Int32} {iR : Nat → Nat → Int32}, aGood sh rv → gs i rv = some (vR, iR) → aM l yX12_sum cX12_sum 5 (some .int) D0 [.ref (100 + 50)] (sh, i, lo, rv) (some (.int vR)) (sh, iR, lo, rv)) {kh5 : Int32 → (Nat → Nat → Int32) → (Nat → Nat → Option Nat) → Option ((Int32) × (Nat → Nat → Int32))} (Hkh5 : ∀ (x1 : Int32) (i : Nat → Nat → Int32), aGood sh rv → kh5 x1 i rv = some (vR, iR) → aJ p l e R s m args below meth c (MQ below (aPost D cA ad0 A (sh, i0, lo0, rv0) (some (.int vR)) (sh, iR, lo, rv)) args s (sh.length - sh.length) (aSn sh - aSn sh) A) D cA A ad0 5 sh.length (aSn sh) 5 [some (.ref (100 + 50)), some (.int x1), none, none, none] [] (sh, i, lo, rv)) {x1 : Int32} (hG : aGood sh rv) (hf : fX12_sum_31 gs kh5 x1 i rv = some (vR, iR)) : aJ p l e R s m args below meth c (MQ below (aPost D cA ad0 A (sh, i0, lo0, rv0) (some (.int vR)) (sh, iR, lo, rv)) args s (sh.length - sh.length) (aSn sh - aSn sh) A) D cA A ad0 5 sh.length (aSn sh) 31 [some (.ref (100 + 50)), some (.int x1), none, none, none] [] (sh, i, lo, rv) := by
  unfold fX12_sum_31 at hf
  refine j_aload_n hX dX12_sum_31 rfl ?_
  obtain ⟨v10, i11, hh12, hf⟩ := bd2 hf
  refine j_cV0i hX lk_X12_141 kX12 dX12_sum_32 (sh_50 hG) (okX12_look hG hh12) rfl rfl (rmm (by omega) hRf hRl (by decide)) (Nat.le_of_ble_eq_true rfl) (Nat.le_add_right _ _) (Nat.le_add_right _ _) ?_
  refine j_bipush hX dX12_sum_35 bp_43 ?_
  refine j_icmp_ne (tgt := 44) hX dX12_sum_37 (by decide) (fun hc => ?_) (fun hc => ?_)
  · have hf := ifn hc hf
    refine j_iconst hX dX12_sum_44 ic_0 ?_
    exact aJx (kX12_sum_45 hX hr hlk hRf hRl Hgs Hkh5 hG  hf) (And.intro rfl (And.intro rfl (rfl)))
  · have hf := ifp hc hf
    refine j_iconst hX dX12_sum_40 ic_1 ?_
    refine j_goto (tgt := 45) hX dX12_sum_41 (by decide) ?_
    exact aJx (kX12_sum_45 hX hr hlk hRf hRl Hgs Hkh5 hG  hf) (And.intro rfl (And.intro rfl (rfl)))
def fX12_sum_5 (gs : (Nat → Nat → Int32) → (Nat → Nat → Option Nat) → Option ((Int32) × (Nat → Nat → Int32))) : Nat → Int32 → (Nat → Nat → Int32) → (Nat → Nat → Option Nat) → Option ((Int32) × (Nat → Nat → Int32))
  | 0, _, _, _ => none
  | n + 1, x1, i, rv => if (i 50 11) = (-1) then (bn2 (fX12_look i rv) fun v4 i5 =>
    if v4 = 43 then (fX12_sum_31 gs (fX12_sum_5 gs n) x1 i5 rv) else (bn2 (fX12_look i5 rv) fun v7 i8 =>
    if v7 = 45 then (fX12_sum_31 gs (fX12_sum_5 gs n) x1 i8 rv) else (some (x1, i8)))) else (some (x1, i))
theorem kX12_sum_5  {gs : (Nat → Nat → Int32) → (Nat → Nat → Option Nat) → Option ((Int32) × (Nat → Nat → Int32))} {D0 : Nat} {vR : Int32} {iR : Nat → Nat → Int32} (hX : aX p s m args c RX12 cX12_sum 5 D cA A ad0) (hr : meth.sig.returnType = (some .int)) (hlk : meth.locks = false) (hRf : (D0 + 7) ≤ R.frames) (hRl : 64 * (D0 + 7) ≤ R.locals) (Hgs : ∀ {i : Nat → Nat → Int32} {lo : Nat → Nat → Int64} {rv : Nat → Nat → Option Nat} {vR : Int32} {iR : Nat → Nat → Int32}, aGood sh rv → gs i rv = some (vR, iR) → aM l yX12_sum cX12_sum 5 (some .int) D0 [.ref (100 + 50)] (sh, i, lo, rv) (some (.int vR)) (sh, iR, lo, rv)) : ∀ (n : Nat) (x1 : Int32) (i : Nat → Nat → Int32), aGood sh rv → fX12_sum_5 gs n x1 i rv = some (vR, iR) → aJ p l e R s m args below meth c (MQ below (aPost D cA ad0 A (sh, i0, lo0, rv0) (some (.int vR)) (sh, iR, lo, rv)) args s (sh.length - sh.length) (aSn sh - aSn sh) A) D cA A ad0 5 sh.length (aSn sh) 5 [some (.ref (100 + 50)), some (.int x1), none, none, none] [] (sh, i, lo, rv) := by
  intro n
  induction n with
  | zero => intros; rename_i hf; cases hf
  | succ n ih =>
    intro x1 i hG hf
    rw [fX12_sum_5] at hf
    refine j_aload_n hX dX12_sum_5 rfl ?_
    refine j_getI (k := 11) hX kX12 (by decide) fk_X12_131 dX12_sum_6 (sh_50 hG) rfl ?_
    refine j_iconst hX dX12_sum_9 ic_m1 ?_
    refine j_icmp_ne (tgt := 84) hX dX12_sum_10 (by decide) (fun hc => ?_) (fun hc => ?_)
    · have hf := ifn hc hf
      refine j_iload_n hX dX12_sum_84 rfl ?_
      cases hf
      exact j_ret hX hr hlk rfl dX12_sum_85
    · have hf := ifp hc hf
      refine j_aload_n hX dX12_sum_13 rfl ?_
      obtain ⟨v4, i5, hh6, hf⟩ := bd2 hf
      refine j_cV0i hX lk_X12_141 kX12 dX12_sum_14 (sh_50 hG) (okX12_look hG hh6) rfl rfl (rmm (by omega) hRf hRl (by decide)) (Nat.le_of_ble_eq_true rfl) (Nat.le_add_right _ _) (Nat.le_add_right _ _) ?_
      refine j_bipush hX dX12_sum_17 bp_43 ?_
      refine j_icmp_eq (tgt := 31) hX dX12_sum_19 (by decide) (fun hc => ?_) (fun hc => ?_)
      · have hf := ifp hc hf
        exact aJx (kX12_sum_31 hX hr hlk hRf hRl Hgs ih hG  hf) (And.intro rfl (And.intro rfl (rfl)))
      · have hf := ifn hc hf
        refine j_aload_n hX dX12_sum_22 rfl ?_
        obtain ⟨v7, i8, hh9, hf⟩ := bd2 hf
        refine j_cV0i hX lk_X12_141 kX12 dX12_sum_23 (sh_50 hG) (okX12_look hG hh9) rfl rfl (rmm (by omega) hRf hRl (by decide)) (Nat.le_of_ble_eq_true rfl) (Nat.le_add_right _ _) (Nat.le_add_right _ _) ?_
        refine j_bipush hX dX12_sum_26 bp_45 ?_
        refine j_icmp_ne (tgt := 84) hX dX12_sum_28 (by decide) (fun hc => ?_) (fun hc => ?_)
        · have hf := ifn hc hf
          refine j_iload_n hX dX12_sum_84 rfl ?_
          cases hf
          exact j_ret hX hr hlk rfl dX12_sum_85
        · have hf := ifp hc hf
          exact aJx (kX12_sum_31 hX hr hlk hRf hRl Hgs ih hG  hf) (And.intro rfl (And.intro rfl (rfl)))
def fX12_sumb (gs : (Nat → Nat → Int32) → (Nat → Nat → Option Nat) → Option ((Int32) × (Nat → Nat → Int32))) (i : Nat → Nat → Int32) (rv : Nat → Nat → Option Nat) : Option ((Int32) × (Nat → Nat → Int32)) := bn2 (fX12_term gs i rv) fun v1 i2 =>
    fX12_sum_5 gs fuel v1 i2 rv
theorem kX12_sum  {gs : (Nat → Nat → Int32) → (Nat → Nat → Option Nat) → Option ((Int32) × (Nat → Nat → Int32))} {D0 : Nat} {vR : Int32} {iR : Nat → Nat → Int32} (hX : aX p s m args c RX12 cX12_sum 5 D cA A ad0) (hr : meth.sig.returnType = (some .int)) (hlk : meth.locks = false) (hRf : (D0 + 7) ≤ R.frames) (hRl : 64 * (D0 + 7) ≤ R.locals) (Hgs : ∀ {i : Nat → Nat → Int32} {lo : Nat → Nat → Int64} {rv : Nat → Nat → Option Nat} {vR : Int32} {iR : Nat → Nat → Int32}, aGood sh rv → gs i rv = some (vR, iR) → aM l yX12_sum cX12_sum 5 (some .int) D0 [.ref (100 + 50)] (sh, i, lo, rv) (some (.int vR)) (sh, iR, lo, rv)) (hG : aGood sh rv) (hf : fX12_sumb gs i rv = some (vR, iR)) : aJ p l e R s m args below meth c (MQ below (aPost D cA ad0 A (sh, i0, lo0, rv0) (some (.int vR)) (sh, iR, lo, rv)) args s (sh.length - sh.length) (aSn sh - aSn sh) A) D cA A ad0 5 sh.length (aSn sh) 0 [some (.ref (100 + 50)), none, none, none, none] [] (sh, i, lo, rv) := by
  unfold fX12_sumb at hf
  refine j_aload_n hX dX12_sum_0 rfl ?_
  obtain ⟨v1, i2, hh3, hf⟩ := bd2 hf
  refine j_cV0i hX lk_X12_181 kX12 dX12_sum_1 (sh_50 hG) (okX12_term Hgs hG hh3) rfl rfl (rmm (by omega) hRf hRl (by decide)) (Nat.le_of_ble_eq_true rfl) (Nat.le_add_right _ _) (Nat.le_add_right _ _) ?_
  refine j_istore_n hX dX12_sum_4 (by decide) rfl ?_
  exact aJx (kX12_sum_5 hX hr hlk hRf hRl Hgs fuel _ _ hG  hf) (And.intro rfl (And.intro rfl (rfl)))
theorem okX12_sumb {l : Launch} {sh : List aSh} {i : Nat → Nat → Int32} {lo : Nat → Nat → Int64} {rv : Nat → Nat → Option Nat} {gs : (Nat → Nat → Int32) → (Nat → Nat → Option Nat) → Option ((Int32) × (Nat → Nat → Int32))} {D0 : Nat} (Hgs : ∀ {i : Nat → Nat → Int32} {lo : Nat → Nat → Int64} {rv : Nat → Nat → Option Nat} {vR : Int32} {iR : Nat → Nat → Int32}, aGood sh rv → gs i rv = some (vR, iR) → aM l yX12_sum cX12_sum 5 (some .int) D0 [.ref (100 + 50)] (sh, i, lo, rv) (some (.int vR)) (sh, iR, lo, rv)) {vR : Int32} {iR : Nat → Nat → Int32} (hG : aGood sh rv) (hf : fX12_sumb gs i rv = some (vR, iR)) : aM l yX12_sum cX12_sum 5 (some .int) (D0 + 7) [.ref (100 + 50)] (sh, i, lo, rv) (some (.int vR)) (sh, iR, lo, rv) :=
  aM_of (by decide) (Nat.le_of_ble_eq_true rfl) (Nat.le_refl _) (Nat.le_refl _) (fun p e s m args below meth c D cA A ad0 hX hr hlk hnm => kX12_sum hX hr hlk (Nat.le_refl _) (Nat.le_refl _) Hgs hG hf)
def fX12_sum : Nat → (Nat → Nat → Int32) → (Nat → Nat → Option Nat) → Option ((Int32) × (Nat → Nat → Int32))
  | 0, _, _ => none
  | n + 1, i, rv => fX12_sumb (fX12_sum n) i rv
theorem okX12_sum {l : Launch} {sh : List aSh} : ∀ (n : Nat) {i : Nat → Nat → Int32} {lo : Nat → Nat → Int64} {rv : Nat → Nat → Option Nat} {vR : Int32} {iR : Nat → Nat → Int32}, aGood sh rv → fX12_sum n i rv = some (vR, iR) → aM l yX12_sum cX12_sum 5 (some .int) (7 * n) [.ref (100 + 50)] (sh, i, lo, rv) (some (.int vR)) (sh, iR, lo, rv) := by
  intro n
  induction n with
  | zero => intros; rename_i hf; cases hf
  | succ n ih =>
    intro _ _ _ _ _ hG hf
    exact okX12_sumb (fun hG hf => ih hG hf) hG hf
def fX12_isSign_18 : Option ((Int32)) := some (1)
theorem kX12_isSign_18  {vR : Int32} (hX : aX p s m args c RX12 cX12_isSign 1 D cA A ad0) (hr : meth.sig.returnType = (some .boolean)) (hlk : meth.locks = false) (hRf : 0 ≤ R.frames) (hRl : 64 * 0 ≤ R.locals) (hG : aGood sh rv) (hf : fX12_isSign_18 = some (vR)) : aJ p l e R s m args below meth c (MQ below (aPost D cA ad0 A (sh, i0, lo0, rv0) (some (.int vR)) (sh, i, lo, rv)) args s (sh.length - sh.length) (aSn sh - aSn sh) A) D cA A ad0 1 sh.length (aSn sh) 18 [none] [] (sh, i, lo, rv) := by
  unfold fX12_isSign_18 at hf
  refine j_iconst hX dX12_isSign_18 ic_1 ?_
  refine j_goto (tgt := 23) hX dX12_isSign_19 (by decide) ?_
  cases hf
  exact j_ret hX hr hlk rfl dX12_isSign_23
def fX12_isSign (a0 : Int32) : Option ((Int32)) := if a0 = 61 then (fX12_isSign_18 ) else (if a0 = 60 then (fX12_isSign_18 ) else (if a0 = 62 then (fX12_isSign_18 ) else (some (0))))
theorem kX12_isSign  {vR : Int32} (hX : aX p s m args c RX12 cX12_isSign 1 D cA A ad0) (hr : meth.sig.returnType = (some .boolean)) (hlk : meth.locks = false) (hRf : 0 ≤ R.frames) (hRl : 64 * 0 ≤ R.locals) {a0 : Int32} (hG : aGood sh rv) (hf : fX12_isSign a0 = some (vR)) : aJ p l e R s m args below meth c (MQ below (aPost D cA ad0 A (sh, i0, lo0, rv0) (some (.int vR)) (sh, i, lo, rv)) args s (sh.length - sh.length) (aSn sh - aSn sh) A) D cA A ad0 1 sh.length (aSn sh) 0 [some (.int a0)] [] (sh, i, lo, rv) := by
  unfold fX12_isSign at hf
  refine j_iload_n hX dX12_isSign_0 rfl ?_
  refine j_bipush hX dX12_isSign_1 bp_61 ?_
  refine j_icmp_eq (tgt := 18) hX dX12_isSign_3 (by decide) (fun hc => ?_) (fun hc => ?_)
  · have hf := ifp hc hf
    exact aJx (kX12_isSign_18 hX hr hlk hRf hRl hG  hf) (rfl)
  · have hf := ifn hc hf
    refine j_iload_n hX dX12_isSign_6 rfl ?_
    refine j_bipush hX dX12_isSign_7 bp_60 ?_
    refine j_icmp_eq (tgt := 18) hX dX12_isSign_9 (by decide) (fun hc => ?_) (fun hc => ?_)
    · have hf := ifp hc hf
      exact aJx (kX12_isSign_18 hX hr hlk hRf hRl hG  hf) (rfl)
    · have hf := ifn hc hf
      refine j_iload_n hX dX12_isSign_12 rfl ?_
      refine j_bipush hX dX12_isSign_13 bp_62 ?_
      refine j_icmp_ne (tgt := 22) hX dX12_isSign_15 (by decide) (fun hc => ?_) (fun hc => ?_)
      · have hf := ifn hc hf
        refine j_iconst hX dX12_isSign_22 ic_0 ?_
        cases hf
        exact j_ret hX hr hlk rfl dX12_isSign_23
      · have hf := ifp hc hf
        exact aJx (kX12_isSign_18 hX hr hlk hRf hRl hG  hf) (rfl)
theorem okX12_isSign {l : Launch} {sh : List aSh} {i : Nat → Nat → Int32} {lo : Nat → Nat → Int64} {rv : Nat → Nat → Option Nat}  {a0 : Int32} {vR : Int32} (hG : aGood sh rv) (hf : fX12_isSign a0 = some (vR)) : aM l yX12_isSign cX12_isSign 1 (some .boolean) 0 [.int a0] (sh, i, lo, rv) (some (.int vR)) (sh, i, lo, rv) :=
  aM_of (by decide) (Nat.le_of_ble_eq_true rfl) (Nat.le_refl _) (Nat.le_refl _) (fun p e s m args below meth c D cA A ad0 hX hr hlk hnm => kX12_isSign hX hr hlk (Nat.le_refl _) (Nat.le_refl _) hG hf)
def fX12_compares_12 (s0 : Int32) (i : Nat → Nat → Int32) (rv : Nat → Nat → Option Nat) : Option ((Int32) × (Nat → Nat → Int32)) := if (i 50 11) = (-1) then (bn2 (fX12_look i rv) fun v4 i5 =>
    bn1 (fX12_isSign v4) fun v7 =>
    if v7 = 0 then (bn2 (fX12_fails i5) fun v13 i14 =>
    if narrow .boolean (.int v13) = .int v13 then
    some (v13, i14) else none) else (lt (u2 i5 50 10 ((i5 50 10) + (1 : Int32))) fun i9 =>
    bn2 (fX12_sum 12 i9 rv) fun v10 i11 =>
    if v4 = 61 then (if s0 = v10 then (some (1, i11)) else (some (0, i11))) else (if v4 = 60 then (if v10 ≤ s0 then (some (0, i11)) else (some (1, i11))) else (if s0 ≤ v10 then (some (0, i11)) else (some (1, i11)))))) else (some (0, i))
theorem kX12_compares_12  {vR : Int32} {iR : Nat → Nat → Int32} (hX : aX p s m args c RX12 cX12_compares 6 D cA A ad0) (hr : meth.sig.returnType = (some .boolean)) (hlk : meth.locks = false) (hRf : 85 ≤ R.frames) (hRl : 64 * 85 ≤ R.locals) {s0 : Int32} (hG : aGood sh rv) (hf : fX12_compares_12 s0 i rv = some (vR, iR)) : aJ p l e R s m args below meth c (MQ below (aPost D cA ad0 A (sh, i0, lo0, rv0) (some (.int vR)) (sh, iR, lo, rv)) args s (sh.length - sh.length) (aSn sh - aSn sh) A) D cA A ad0 6 sh.length (aSn sh) 12 [some (.ref (100 + 50)), none, none, none, none, none] [.int s0] (sh, i, lo, rv) := by
  unfold fX12_compares_12 at hf
  refine j_istore_n hX dX12_compares_12 (by decide) rfl ?_
  refine j_aload_n hX dX12_compares_13 rfl ?_
  refine j_getI (k := 11) hX kX12 (by decide) fk_X12_131 dX12_compares_14 (sh_50 hG) rfl ?_
  refine j_iconst hX dX12_compares_17 ic_m1 ?_
  refine j_icmp_eq (tgt := 23) hX dX12_compares_18 (by decide) (fun hc => ?_) (fun hc => ?_)
  · have hf := ifp hc hf
    refine j_aload_n hX dX12_compares_23 rfl ?_
    obtain ⟨v4, i5, hh6, hf⟩ := bd2 hf
    refine j_cV0i hX lk_X12_141 kX12 dX12_compares_24 (sh_50 hG) (okX12_look hG hh6) rfl rfl (rmm (by omega) hRf hRl (by decide)) (Nat.le_of_ble_eq_true rfl) (Nat.le_add_right _ _) (Nat.le_add_right _ _) ?_
    refine j_istore hX dX12_compares_27 (by decide) rfl ?_
    refine j_iload hX dX12_compares_29 rfl ?_
    obtain ⟨v7, hh8, hf⟩ := bd1 hf
    refine j_cS1i hX lk_X12_184 dX12_compares_31 (okX12_isSign hG hh8) rfl rfl (rmm (by omega) hRf hRl (by decide)) (Nat.le_of_ble_eq_true rfl) (Nat.le_add_right _ _) (Nat.le_add_right _ _) ?_
    refine jpc (b := 34) rfl ?_
    refine j_if_ne (tgt := 42) hX dX12_compares_34 (by decide) (fun hc => ?_) (fun hc => ?_)
    · have hf := ifn hc hf
      refine j_aload_n hX dX12_compares_42 rfl ?_
      refine j_dup hX dX12_compares_43 rfl ?_
      refine j_getI (k := 10) hX kX12 (by decide) fk_X12_122 dX12_compares_44 (sh_50 hG) rfl ?_
      refine j_iconst hX dX12_compares_47 ic_1 ?_
      refine j_iadd hX dX12_compares_48 ?_
      refine jpc (b := 49) rfl ?_
      have hf := ltd hf
      refine j_putI (k := 10) hX kX12 (by decide) fk_X12_122 dX12_compares_49 (sh_50 hG) rfl rfl rfl rfl ?_
      refine j_aload_n hX dX12_compares_52 rfl ?_
      obtain ⟨v10, i11, hh12, hf⟩ := bd2 hf
      refine j_cV0i hX lk_X12_164 kX12 dX12_compares_53 (sh_50 hG) (okX12_sum 12 hG hh12) rfl rfl (rmm (by omega) hRf hRl (by decide)) (Nat.le_of_ble_eq_true rfl) (Nat.le_add_right _ _) (Nat.le_add_right _ _) ?_
      refine j_istore hX dX12_compares_56 (by decide) rfl ?_
      refine j_iload hX dX12_compares_58 rfl ?_
      refine j_bipush hX dX12_compares_60 bp_61 ?_
      refine jpc (b := 62) rfl ?_
      refine j_icmp_ne (tgt := 79) hX dX12_compares_62 (by decide) (fun hc => ?_) (fun hc => ?_)
      · have hf := ifn hc hf
        refine j_iload hX dX12_compares_79 rfl ?_
        refine j_bipush hX dX12_compares_81 bp_60 ?_
        refine j_icmp_ne (tgt := 100) hX dX12_compares_83 (by decide) (fun hc => ?_) (fun hc => ?_)
        · have hf := ifn hc hf
          refine j_iload_n hX dX12_compares_100 rfl ?_
          refine j_iload hX dX12_compares_101 rfl ?_
          refine j_icmp_le (tgt := 110) hX dX12_compares_103 (by decide) (fun hc => ?_) (fun hc => ?_)
          · have hf := ifp hc hf
            refine j_iconst hX dX12_compares_110 ic_0 ?_
            cases hf
            exact j_ret hX hr hlk rfl dX12_compares_111
          · have hf := ifn hc hf
            refine j_iconst hX dX12_compares_106 ic_1 ?_
            refine j_goto (tgt := 111) hX dX12_compares_107 (by decide) ?_
            cases hf
            exact j_ret hX hr hlk rfl dX12_compares_111
        · have hf := ifp hc hf
          refine j_iload_n hX dX12_compares_86 rfl ?_
          refine j_iload hX dX12_compares_87 rfl ?_
          refine j_icmp_ge (tgt := 96) hX dX12_compares_89 (by decide) (fun hc => ?_) (fun hc => ?_)
          · have hf := ifp hc hf
            refine j_iconst hX dX12_compares_96 ic_0 ?_
            refine j_goto (tgt := 111) hX dX12_compares_97 (by decide) ?_
            cases hf
            exact j_ret hX hr hlk rfl dX12_compares_111
          · have hf := ifn hc hf
            refine j_iconst hX dX12_compares_92 ic_1 ?_
            refine j_goto (tgt := 111) hX dX12_compares_93 (by decide) ?_
            cases hf
            exact j_ret hX hr hlk rfl dX12_compares_111
      · have hf := ifp hc hf
        refine j_iload_n hX dX12_compares_65 rfl ?_
        refine j_iload hX dX12_compares_66 rfl ?_
        refine j_icmp_ne (tgt := 75) hX dX12_compares_68 (by decide) (fun hc => ?_) (fun hc => ?_)
        · have hf := ifn hc hf
          refine j_iconst hX dX12_compares_75 ic_0 ?_
          refine j_goto (tgt := 111) hX dX12_compares_76 (by decide) ?_
          cases hf
          exact j_ret hX hr hlk rfl dX12_compares_111
        · have hf := ifp hc hf
          refine j_iconst hX dX12_compares_71 ic_1 ?_
          refine j_goto (tgt := 111) hX dX12_compares_72 (by decide) ?_
          cases hf
          exact j_ret hX hr hlk rfl dX12_compares_111
    · have hf := ifp hc hf
      refine j_aload_n hX dX12_compares_37 rfl ?_
      obtain ⟨v13, i14, hh15, hf⟩ := bd2 hf
      refine j_cV0i hX lk_X12_137 kX12 dX12_compares_38 (sh_50 hG) (okX12_fails hG hh15) rfl rfl (rmm (by omega) hRf hRl (by decide)) (Nat.le_of_ble_eq_true rfl) (Nat.le_add_right _ _) (Nat.le_add_right _ _) ?_
      obtain ⟨hg, hf⟩ := gd hf
      cases hf
      exact j_ret hX hr hlk hg dX12_compares_41
  · have hf := ifn hc hf
    refine j_iconst hX dX12_compares_21 ic_0 ?_
    cases hf
    exact j_ret hX hr hlk rfl dX12_compares_22
def fX12_compares (a1 : Int32) (a2 : Int32) (i : Nat → Nat → Int32) (rv : Nat → Nat → Option Nat) : Option ((Int32) × (Nat → Nat → Int32)) := if a1 = 0 then (bn2 (fX12_sum 12 i rv) fun v1 i2 =>
    fX12_compares_12 v1 i2 rv) else (fX12_compares_12 a2 i rv)
theorem kX12_compares  {vR : Int32} {iR : Nat → Nat → Int32} (hX : aX p s m args c RX12 cX12_compares 6 D cA A ad0) (hr : meth.sig.returnType = (some .boolean)) (hlk : meth.locks = false) (hRf : 85 ≤ R.frames) (hRl : 64 * 85 ≤ R.locals) {a1 : Int32} {a2 : Int32} (hG : aGood sh rv) (hf : fX12_compares a1 a2 i rv = some (vR, iR)) : aJ p l e R s m args below meth c (MQ below (aPost D cA ad0 A (sh, i0, lo0, rv0) (some (.int vR)) (sh, iR, lo, rv)) args s (sh.length - sh.length) (aSn sh - aSn sh) A) D cA A ad0 6 sh.length (aSn sh) 0 [some (.ref (100 + 50)), some (.int a1), some (.int a2), none, none, none] [] (sh, i, lo, rv) := by
  unfold fX12_compares at hf
  refine j_iload_n hX dX12_compares_0 rfl ?_
  refine j_if_eq (tgt := 8) hX dX12_compares_1 (by decide) (fun hc => ?_) (fun hc => ?_)
  · have hf := ifp hc hf
    refine j_aload_n hX dX12_compares_8 rfl ?_
    obtain ⟨v1, i2, hh3, hf⟩ := bd2 hf
    refine j_cV0i hX lk_X12_164 kX12 dX12_compares_9 (sh_50 hG) (okX12_sum 12 hG hh3) rfl rfl (rmm (by omega) hRf hRl (by decide)) (Nat.le_of_ble_eq_true rfl) (Nat.le_add_right _ _) (Nat.le_add_right _ _) ?_
    exact aJx (kX12_compares_12 hX hr hlk hRf hRl hG  hf) (And.intro rfl (rfl))
  · have hf := ifn hc hf
    refine j_iload_n hX dX12_compares_4 rfl ?_
    refine j_goto (tgt := 12) hX dX12_compares_5 (by decide) ?_
    exact aJx (kX12_compares_12 hX hr hlk hRf hRl hG  hf) (And.intro rfl (rfl))
theorem okX12_compares {l : Launch} {sh : List aSh} {i : Nat → Nat → Int32} {lo : Nat → Nat → Int64} {rv : Nat → Nat → Option Nat}  {a1 : Int32} {a2 : Int32} {vR : Int32} {iR : Nat → Nat → Int32} (hG : aGood sh rv) (hf : fX12_compares a1 a2 i rv = some (vR, iR)) : aM l yX12_compares cX12_compares 6 (some .boolean) 85 [.ref (100 + 50), .int a1, .int a2] (sh, i, lo, rv) (some (.int vR)) (sh, iR, lo, rv) :=
  aM_of (by decide) (Nat.le_of_ble_eq_true rfl) (Nat.le_refl _) (Nat.le_refl _) (fun p e s m args below meth c D cA A ad0 hX hr hlk hnm => kX12_compares hX hr hlk (Nat.le_refl _) (Nat.le_refl _) hG hf)
def fX12_part_65 (gs : (Nat → Nat → Int32) → (Nat → Nat → Option Nat) → Option ((Int32) × (Nat → Nat → Int32))) (kh18 : Int32 → (Nat → Nat → Int32) → (Nat → Nat → Option Nat) → Option ((Int32) × (Nat → Nat → Int32))) (s0 : Int32) (i : Nat → Nat → Int32) (rv : Nat → Nat → Option Nat) : Option ((Int32) × (Nat → Nat → Int32)) := kh18 s0 i rv
theorem kX12_part_65  {gs : (Nat → Nat → Int32) → (Nat → Nat → Option Nat) → Option ((Int32) × (Nat → Nat → Int32))} {D0 : Nat} {vR : Int32} {iR : Nat → Nat → Int32} (hX : aX p s m args c RX12 cX12_part 5 D cA A ad0) (hr : meth.sig.returnType = (some .boolean)) (hlk : meth.locks = false) (hRf : (D0 + 86) ≤ R.frames) (hRl : 64 * (D0 + 86) ≤ R.locals) (Hgs : ∀ {i : Nat → Nat → Int32} {lo : Nat → Nat → Int64} {rv : Nat → Nat → Option Nat} {vR : Int32} {iR : Nat → Nat → Int32}, aGood sh rv → gs i rv = some (vR, iR) → aM l yX12_unit cX12_unit 3 (some .boolean) D0 [.ref (100 + 50)] (sh, i, lo, rv) (some (.int vR)) (sh, iR, lo, rv)) {kh18 : Int32 → (Nat → Nat → Int32) → (Nat → Nat → Option Nat) → Option ((Int32) × (Nat → Nat → Int32))} (Hkh18 : ∀ (x3 : Int32) (i : Nat → Nat → Int32), aGood sh rv → kh18 x3 i rv = some (vR, iR) → aJ p l e R s m args below meth c (MQ below (aPost D cA ad0 A (sh, i0, lo0, rv0) (some (.int vR)) (sh, iR, lo, rv)) args s (sh.length - sh.length) (aSn sh - aSn sh) A) D cA A ad0 5 sh.length (aSn sh) 18 [some (.ref (100 + 50)), none, none, some (.int x3), none] [] (sh, i, lo, rv)) {s0 : Int32} (hG : aGood sh rv) (hf : fX12_part_65 gs kh18 s0 i rv = some (vR, iR)) : aJ p l e R s m args below meth c (MQ below (aPost D cA ad0 A (sh, i0, lo0, rv0) (some (.int vR)) (sh, iR, lo, rv)) args s (sh.length - sh.length) (aSn sh - aSn sh) A) D cA A ad0 5 sh.length (aSn sh) 65 [some (.ref (100 + 50)), none, none, none, none] [.int s0] (sh, i, lo, rv) := by
  unfold fX12_part_65 at hf
  refine j_istore_n hX dX12_part_65 (by decide) rfl ?_
  refine j_goto (tgt := 18) hX dX12_part_66 (by decide) ?_
  exact aJx (Hkh18 _ _ hG  hf) (And.intro rfl (And.intro rfl (rfl)))
def fX12_part_64 (gs : (Nat → Nat → Int32) → (Nat → Nat → Option Nat) → Option ((Int32) × (Nat → Nat → Int32))) (kh18 : Int32 → (Nat → Nat → Int32) → (Nat → Nat → Option Nat) → Option ((Int32) × (Nat → Nat → Int32))) (i : Nat → Nat → Int32) (rv : Nat → Nat → Option Nat) : Option ((Int32) × (Nat → Nat → Int32)) := fX12_part_65 gs kh18 0 i rv
theorem kX12_part_64  {gs : (Nat → Nat → Int32) → (Nat → Nat → Option Nat) → Option ((Int32) × (Nat → Nat → Int32))} {D0 : Nat} {vR : Int32} {iR : Nat → Nat → Int32} (hX : aX p s m args c RX12 cX12_part 5 D cA A ad0) (hr : meth.sig.returnType = (some .boolean)) (hlk : meth.locks = false) (hRf : (D0 + 86) ≤ R.frames) (hRl : 64 * (D0 + 86) ≤ R.locals) (Hgs : ∀ {i : Nat → Nat → Int32} {lo : Nat → Nat → Int64} {rv : Nat → Nat → Option Nat} {vR : Int32} {iR : Nat → Nat → Int32}, aGood sh rv → gs i rv = some (vR, iR) → aM l yX12_unit cX12_unit 3 (some .boolean) D0 [.ref (100 + 50)] (sh, i, lo, rv) (some (.int vR)) (sh, iR, lo, rv)) {kh18 : Int32 → (Nat → Nat → Int32) → (Nat → Nat → Option Nat) → Option ((Int32) × (Nat → Nat → Int32))} (Hkh18 : ∀ (x3 : Int32) (i : Nat → Nat → Int32), aGood sh rv → kh18 x3 i rv = some (vR, iR) → aJ p l e R s m args below meth c (MQ below (aPost D cA ad0 A (sh, i0, lo0, rv0) (some (.int vR)) (sh, iR, lo, rv)) args s (sh.length - sh.length) (aSn sh - aSn sh) A) D cA A ad0 5 sh.length (aSn sh) 18 [some (.ref (100 + 50)), none, none, some (.int x3), none] [] (sh, i, lo, rv)) (hG : aGood sh rv) (hf : fX12_part_64 gs kh18 i rv = some (vR, iR)) : aJ p l e R s m args below meth c (MQ below (aPost D cA ad0 A (sh, i0, lo0, rv0) (some (.int vR)) (sh, iR, lo, rv)) args s (sh.length - sh.length) (aSn sh - aSn sh) A) D cA A ad0 5 sh.length (aSn sh) 64 [some (.ref (100 + 50)), none, none, none, none] [] (sh, i, lo, rv) := by
  unfold fX12_part_64 at hf
  refine j_iconst hX dX12_part_64 ic_0 ?_
  exact aJx (kX12_part_65 hX hr hlk hRf hRl Hgs Hkh18 hG  hf) (And.intro rfl (rfl))
def fX12_part_18 (gs : (Nat → Nat → Int32) → (Nat → Nat → Option Nat) → Option ((Int32) × (Nat → Nat → Int32))) : Nat → Int32 → (Nat → Nat → Int32) → (Nat → Nat → Option Nat) → Option ((Int32) × (Nat → Nat → Int32))
  | 0, _, _, _ => none
  | n + 1, x3, i, rv => if (i 50 11) = (-1) then (bn2 (fX12_look i rv) fun v7 i8 =>
    if v7 = 38 then (lt (u2 i8 50 10 ((i8 50 10) + (1 : Int32))) fun i10 =>
    bn2 (gs i10 rv) fun v11 i12 =>
    if x3 = 0 then (fX12_part_64 gs (fX12_part_18 gs n) i12 rv) else (if v11 = 0 then (fX12_part_64 gs (fX12_part_18 gs n) i12 rv) else (fX12_part_65 gs (fX12_part_18 gs n) 1 i12 rv))) else (if narrow .boolean (.int x3) = .int x3 then
    some (x3, i8) else none)) else (if narrow .boolean (.int x3) = .int x3 then
    some (x3, i) else none)
theorem kX12_part_18  {gs : (Nat → Nat → Int32) → (Nat → Nat → Option Nat) → Option ((Int32) × (Nat → Nat → Int32))} {D0 : Nat} {vR : Int32} {iR : Nat → Nat → Int32} (hX : aX p s m args c RX12 cX12_part 5 D cA A ad0) (hr : meth.sig.returnType = (some .boolean)) (hlk : meth.locks = false) (hRf : (D0 + 86) ≤ R.frames) (hRl : 64 * (D0 + 86) ≤ R.locals) (Hgs : ∀ {i : Nat → Nat → Int32} {lo : Nat → Nat → Int64} {rv : Nat → Nat → Option Nat} {vR : Int32} {iR : Nat → Nat → Int32}, aGood sh rv → gs i rv = some (vR, iR) → aM l yX12_unit cX12_unit 3 (some .boolean) D0 [.ref (100 + 50)] (sh, i, lo, rv) (some (.int vR)) (sh, iR, lo, rv)) : ∀ (n : Nat) (x3 : Int32) (i : Nat → Nat → Int32), aGood sh rv → fX12_part_18 gs n x3 i rv = some (vR, iR) → aJ p l e R s m args below meth c (MQ below (aPost D cA ad0 A (sh, i0, lo0, rv0) (some (.int vR)) (sh, iR, lo, rv)) args s (sh.length - sh.length) (aSn sh - aSn sh) A) D cA A ad0 5 sh.length (aSn sh) 18 [some (.ref (100 + 50)), none, none, some (.int x3), none] [] (sh, i, lo, rv) := by
  intro n
  induction n with
  | zero => intros; rename_i hf; cases hf
  | succ n ih =>
    intro x3 i hG hf
    rw [fX12_part_18] at hf
    refine j_aload_n hX dX12_part_18 rfl ?_
    refine j_getI (k := 11) hX kX12 (by decide) fk_X12_131 dX12_part_19 (sh_50 hG) rfl ?_
    refine j_iconst hX dX12_part_22 ic_m1 ?_
    refine j_icmp_ne (tgt := 69) hX dX12_part_23 (by decide) (fun hc => ?_) (fun hc => ?_)
    · have hf := ifn hc hf
      refine j_iload_n hX dX12_part_69 rfl ?_
      obtain ⟨hg, hf⟩ := gd hf
      cases hf
      exact j_ret hX hr hlk hg dX12_part_70
    · have hf := ifp hc hf
      refine j_aload_n hX dX12_part_26 rfl ?_
      obtain ⟨v7, i8, hh9, hf⟩ := bd2 hf
      refine j_cV0i hX lk_X12_141 kX12 dX12_part_27 (sh_50 hG) (okX12_look hG hh9) rfl rfl (rmm (by omega) hRf hRl (by decide)) (Nat.le_of_ble_eq_true rfl) (Nat.le_add_right _ _) (Nat.le_add_right _ _) ?_
      refine j_bipush hX dX12_part_30 bp_38 ?_
      refine j_icmp_ne (tgt := 69) hX dX12_part_32 (by decide) (fun hc => ?_) (fun hc => ?_)
      · have hf := ifn hc hf
        refine j_iload_n hX dX12_part_69 rfl ?_
        obtain ⟨hg, hf⟩ := gd hf
        cases hf
        exact j_ret hX hr hlk hg dX12_part_70
      · have hf := ifp hc hf
        refine j_aload_n hX dX12_part_35 rfl ?_
        refine j_dup hX dX12_part_36 rfl ?_
        refine j_getI (k := 10) hX kX12 (by decide) fk_X12_122 dX12_part_37 (sh_50 hG) rfl ?_
        refine j_iconst hX dX12_part_40 ic_1 ?_
        refine j_iadd hX dX12_part_41 ?_
        refine jpc (b := 42) rfl ?_
        have hf := ltd hf
        refine j_putI (k := 10) hX kX12 (by decide) fk_X12_122 dX12_part_42 (sh_50 hG) rfl rfl rfl rfl ?_
        refine j_aload_n hX dX12_part_45 rfl ?_
        obtain ⟨v11, i12, hh13, hf⟩ := bd2 hf
        refine j_cV0i hX lk_X12_187 kX12 dX12_part_46 (sh_50 hG) (Hgs hG hh13) rfl rfl (rmm (by omega) hRf hRl (by decide)) (Nat.le_of_ble_eq_true rfl) (Nat.le_add_right _ _) (Nat.le_add_right _ _) ?_
        refine j_istore hX dX12_part_49 (by decide) rfl ?_
        refine j_iload_n hX dX12_part_51 rfl ?_
        refine j_if_eq (tgt := 64) hX dX12_part_52 (by decide) (fun hc => ?_) (fun hc => ?_)
        · have hf := ifp hc hf
          exact aJx (kX12_part_64 hX hr hlk hRf hRl Hgs ih hG  hf) (And.intro rfl (rfl))
        · have hf := ifn hc hf
          refine j_iload hX dX12_part_55 rfl ?_
          refine j_if_eq (tgt := 64) hX dX12_part_57 (by decide) (fun hc => ?_) (fun hc => ?_)
          · have hf := ifp hc hf
            exact aJx (kX12_part_64 hX hr hlk hRf hRl Hgs ih hG  hf) (And.intro rfl (rfl))
          · have hf := ifn hc hf
            refine j_iconst hX dX12_part_60 ic_1 ?_
            refine j_goto (tgt := 65) hX dX12_part_61 (by decide) ?_
            exact aJx (kX12_part_65 hX hr hlk hRf hRl Hgs ih hG  hf) (And.intro rfl (rfl))
def fX12_part_17 (gs : (Nat → Nat → Int32) → (Nat → Nat → Option Nat) → Option ((Int32) × (Nat → Nat → Int32))) (s0 : Int32) (i : Nat → Nat → Int32) (rv : Nat → Nat → Option Nat) : Option ((Int32) × (Nat → Nat → Int32)) := fX12_part_18 gs fuel s0 i rv
theorem kX12_part_17  {gs : (Nat → Nat → Int32) → (Nat → Nat → Option Nat) → Option ((Int32) × (Nat → Nat → Int32))} {D0 : Nat} {vR : Int32} {iR : Nat → Nat → Int32} (hX : aX p s m args c RX12 cX12_part 5 D cA A ad0) (hr : meth.sig.returnType = (some .boolean)) (hlk : meth.locks = false) (hRf : (D0 + 86) ≤ R.frames) (hRl : 64 * (D0 + 86) ≤ R.locals) (Hgs : ∀ {i : Nat → Nat → Int32} {lo : Nat → Nat → Int64} {rv : Nat → Nat → Option Nat} {vR : Int32} {iR : Nat → Nat → Int32}, aGood sh rv → gs i rv = some (vR, iR) → aM l yX12_unit cX12_unit 3 (some .boolean) D0 [.ref (100 + 50)] (sh, i, lo, rv) (some (.int vR)) (sh, iR, lo, rv)) {s0 : Int32} (hG : aGood sh rv) (hf : fX12_part_17 gs s0 i rv = some (vR, iR)) : aJ p l e R s m args below meth c (MQ below (aPost D cA ad0 A (sh, i0, lo0, rv0) (some (.int vR)) (sh, iR, lo, rv)) args s (sh.length - sh.length) (aSn sh - aSn sh) A) D cA A ad0 5 sh.length (aSn sh) 17 [some (.ref (100 + 50)), none, none, none, none] [.int s0] (sh, i, lo, rv) := by
  unfold fX12_part_17 at hf
  refine j_istore_n hX dX12_part_17 (by decide) rfl ?_
  exact aJx (kX12_part_18 hX hr hlk hRf hRl Hgs fuel _ _ hG  hf) (And.intro rfl (And.intro rfl (rfl)))
def fX12_part (gs : (Nat → Nat → Int32) → (Nat → Nat → Option Nat) → Option ((Int32) × (Nat → Nat → Int32))) (a1 : Int32) (a2 : Int32) (i : Nat → Nat → Int32) (rv : Nat → Nat → Option Nat) : Option ((Int32) × (Nat → Nat → Int32)) := if a1 = 0 then (bn2 (gs i rv) fun v1 i2 =>
    fX12_part_17 gs v1 i2 rv) else (bn2 (fX12_compares 1 a2 i rv) fun v4 i5 =>
    fX12_part_17 gs v4 i5 rv)
theorem kX12_part  {gs : (Nat → Nat → Int32) → (Nat → Nat → Option Nat) → Option ((Int32) × (Nat → Nat → Int32))} {D0 : Nat} {vR : Int32} {iR : Nat → Nat → Int32} (hX : aX p s m args c RX12 cX12_part 5 D cA A ad0) (hr : meth.sig.returnType = (some .boolean)) (hlk : meth.locks = false) (hRf : (D0 + 86) ≤ R.frames) (hRl : 64 * (D0 + 86) ≤ R.locals) (Hgs : ∀ {i : Nat → Nat → Int32} {lo : Nat → Nat → Int64} {rv : Nat → Nat → Option Nat} {vR : Int32} {iR : Nat → Nat → Int32}, aGood sh rv → gs i rv = some (vR, iR) → aM l yX12_unit cX12_unit 3 (some .boolean) D0 [.ref (100 + 50)] (sh, i, lo, rv) (some (.int vR)) (sh, iR, lo, rv)) {a1 : Int32} {a2 : Int32} (hG : aGood sh rv) (hf : fX12_part gs a1 a2 i rv = some (vR, iR)) : aJ p l e R s m args below meth c (MQ below (aPost D cA ad0 A (sh, i0, lo0, rv0) (some (.int vR)) (sh, iR, lo, rv)) args s (sh.length - sh.length) (aSn sh - aSn sh) A) D cA A ad0 5 sh.length (aSn sh) 0 [some (.ref (100 + 50)), some (.int a1), some (.int a2), none, none] [] (sh, i, lo, rv) := by
  unfold fX12_part at hf
  refine j_iload_n hX dX12_part_0 rfl ?_
  refine j_if_eq (tgt := 13) hX dX12_part_1 (by decide) (fun hc => ?_) (fun hc => ?_)
  · have hf := ifp hc hf
    refine j_aload_n hX dX12_part_13 rfl ?_
    obtain ⟨v1, i2, hh3, hf⟩ := bd2 hf
    refine j_cV0i hX lk_X12_187 kX12 dX12_part_14 (sh_50 hG) (Hgs hG hh3) rfl rfl (rmm (by omega) hRf hRl (by decide)) (Nat.le_of_ble_eq_true rfl) (Nat.le_add_right _ _) (Nat.le_add_right _ _) ?_
    exact aJx (kX12_part_17 hX hr hlk hRf hRl Hgs hG  hf) (And.intro rfl (rfl))
  · have hf := ifn hc hf
    refine j_aload_n hX dX12_part_4 rfl ?_
    refine j_iconst hX dX12_part_5 ic_1 ?_
    refine j_iload_n hX dX12_part_6 rfl ?_
    obtain ⟨v4, i5, hh6, hf⟩ := bd2 hf
    refine j_cV2i hX lk_X12_194 kX12 dX12_part_7 (sh_50 hG) (okX12_compares hG hh6) rfl rfl (rmm (by omega) hRf hRl (by decide)) (Nat.le_of_ble_eq_true rfl) (Nat.le_add_right _ _) (Nat.le_add_right _ _) ?_
    refine j_goto (tgt := 17) hX dX12_part_10 (by decide) ?_
    exact aJx (kX12_part_17 hX hr hlk hRf hRl Hgs hG  hf) (And.intro rfl (rfl))
theorem okX12_part {l : Launch} {sh : List aSh} {i : Nat → Nat → Int32} {lo : Nat → Nat → Int64} {rv : Nat → Nat → Option Nat} {gs : (Nat → Nat → Int32) → (Nat → Nat → Option Nat) → Option ((Int32) × (Nat → Nat → Int32))} {D0 : Nat} (Hgs : ∀ {i : Nat → Nat → Int32} {lo : Nat → Nat → Int64} {rv : Nat → Nat → Option Nat} {vR : Int32} {iR : Nat → Nat → Int32}, aGood sh rv → gs i rv = some (vR, iR) → aM l yX12_unit cX12_unit 3 (some .boolean) D0 [.ref (100 + 50)] (sh, i, lo, rv) (some (.int vR)) (sh, iR, lo, rv)) {a1 : Int32} {a2 : Int32} {vR : Int32} {iR : Nat → Nat → Int32} (hG : aGood sh rv) (hf : fX12_part gs a1 a2 i rv = some (vR, iR)) : aM l yX12_part cX12_part 5 (some .boolean) (D0 + 86) [.ref (100 + 50), .int a1, .int a2] (sh, i, lo, rv) (some (.int vR)) (sh, iR, lo, rv) :=
  aM_of (by decide) (Nat.le_of_ble_eq_true rfl) (Nat.le_refl _) (Nat.le_refl _) (fun p e s m args below meth c D cA A ad0 hX hr hlk hnm => kX12_part hX hr hlk (Nat.le_refl _) (Nat.le_refl _) Hgs hG hf)
def fX12_condition_56 (gs : (Nat → Nat → Int32) → (Nat → Nat → Option Nat) → Option ((Int32) × (Nat → Nat → Int32))) (kh7 : Int32 → (Nat → Nat → Int32) → (Nat → Nat → Option Nat) → Option ((Int32) × (Nat → Nat → Int32))) (s0 : Int32) (i : Nat → Nat → Int32) (rv : Nat → Nat → Option Nat) : Option ((Int32) × (Nat → Nat → Int32)) := kh7 s0 i rv
theorem kX12_condition_56  {gs : (Nat → Nat → Int32) → (Nat → Nat → Option Nat) → Option ((Int32) × (Nat → Nat → Int32))} {D0 : Nat} {vR : Int32} {iR : Nat → Nat → Int32} (hX : aX p s m args c RX12 cX12_condition 5 D cA A ad0) (hr : meth.sig.returnType = (some .boolean)) (hlk : meth.locks = false) (hRf : (D0 + 87) ≤ R.frames) (hRl : 64 * (D0 + 87) ≤ R.locals) (Hgs : ∀ {i : Nat → Nat → Int32} {lo : Nat → Nat → Int64} {rv : Nat → Nat → Option Nat} {vR : Int32} {iR : Nat → Nat → Int32}, aGood sh rv → gs i rv = some (vR, iR) → aM l yX12_unit cX12_unit 3 (some .boolean) D0 [.ref (100 + 50)] (sh, i, lo, rv) (some (.int vR)) (sh, iR, lo, rv)) {kh7 : Int32 → (Nat → Nat → Int32) → (Nat → Nat → Option Nat) → Option ((Int32) × (Nat → Nat → Int32))} (Hkh7 : ∀ (x3 : Int32) (i : Nat → Nat → Int32), aGood sh rv → kh7 x3 i rv = some (vR, iR) → aJ p l e R s m args below meth c (MQ below (aPost D cA ad0 A (sh, i0, lo0, rv0) (some (.int vR)) (sh, iR, lo, rv)) args s (sh.length - sh.length) (aSn sh - aSn sh) A) D cA A ad0 5 sh.length (aSn sh) 7 [some (.ref (100 + 50)), none, none, some (.int x3), none] [] (sh, i, lo, rv)) {s0 : Int32} (hG : aGood sh rv) (hf : fX12_condition_56 gs kh7 s0 i rv = some (vR, iR)) : aJ p l e R s m args below meth c (MQ below (aPost D cA ad0 A (sh, i0, lo0, rv0) (some (.int vR)) (sh, iR, lo, rv)) args s (sh.length - sh.length) (aSn sh - aSn sh) A) D cA A ad0 5 sh.length (aSn sh) 56 [some (.ref (100 + 50)), none, none, none, none] [.int s0] (sh, i, lo, rv) := by
  unfold fX12_condition_56 at hf
  refine j_istore_n hX dX12_condition_56 (by decide) rfl ?_
  refine j_goto (tgt := 7) hX dX12_condition_57 (by decide) ?_
  exact aJx (Hkh7 _ _ hG  hf) (And.intro rfl (And.intro rfl (rfl)))
def fX12_condition_51 (gs : (Nat → Nat → Int32) → (Nat → Nat → Option Nat) → Option ((Int32) × (Nat → Nat → Int32))) (kh7 : Int32 → (Nat → Nat → Int32) → (Nat → Nat → Option Nat) → Option ((Int32) × (Nat → Nat → Int32))) (i : Nat → Nat → Int32) (rv : Nat → Nat → Option Nat) : Option ((Int32) × (Nat → Nat → Int32)) := fX12_condition_56 gs kh7 1 i rv
theorem kX12_condition_51  {gs : (Nat → Nat → Int32) → (Nat → Nat → Option Nat) → Option ((Int32) × (Nat → Nat → Int32))} {D0 : Nat} {vR : Int32} {iR : Nat → Nat → Int32} (hX : aX p s m args c RX12 cX12_condition 5 D cA A ad0) (hr : meth.sig.returnType = (some .boolean)) (hlk : meth.locks = false) (hRf : (D0 + 87) ≤ R.frames) (hRl : 64 * (D0 + 87) ≤ R.locals) (Hgs : ∀ {i : Nat → Nat → Int32} {lo : Nat → Nat → Int64} {rv : Nat → Nat → Option Nat} {vR : Int32} {iR : Nat → Nat → Int32}, aGood sh rv → gs i rv = some (vR, iR) → aM l yX12_unit cX12_unit 3 (some .boolean) D0 [.ref (100 + 50)] (sh, i, lo, rv) (some (.int vR)) (sh, iR, lo, rv)) {kh7 : Int32 → (Nat → Nat → Int32) → (Nat → Nat → Option Nat) → Option ((Int32) × (Nat → Nat → Int32))} (Hkh7 : ∀ (x3 : Int32) (i : Nat → Nat → Int32), aGood sh rv → kh7 x3 i rv = some (vR, iR) → aJ p l e R s m args below meth c (MQ below (aPost D cA ad0 A (sh, i0, lo0, rv0) (some (.int vR)) (sh, iR, lo, rv)) args s (sh.length - sh.length) (aSn sh - aSn sh) A) D cA A ad0 5 sh.length (aSn sh) 7 [some (.ref (100 + 50)), none, none, some (.int x3), none] [] (sh, i, lo, rv)) (hG : aGood sh rv) (hf : fX12_condition_51 gs kh7 i rv = some (vR, iR)) : aJ p l e R s m args below meth c (MQ below (aPost D cA ad0 A (sh, i0, lo0, rv0) (some (.int vR)) (sh, iR, lo, rv)) args s (sh.length - sh.length) (aSn sh - aSn sh) A) D cA A ad0 5 sh.length (aSn sh) 51 [some (.ref (100 + 50)), none, none, none, none] [] (sh, i, lo, rv) := by
  unfold fX12_condition_51 at hf
  refine j_iconst hX dX12_condition_51 ic_1 ?_
  refine j_goto (tgt := 56) hX dX12_condition_52 (by decide) ?_
  exact aJx (kX12_condition_56 hX hr hlk hRf hRl Hgs Hkh7 hG  hf) (And.intro rfl (rfl))
def fX12_condition_7 (gs : (Nat → Nat → Int32) → (Nat → Nat → Option Nat) → Option ((Int32) × (Nat → Nat → Int32))) : Nat → Int32 → (Nat → Nat → Int32) → (Nat → Nat → Option Nat) → Option ((Int32) × (Nat → Nat → Int32))
  | 0, _, _, _ => none
  | n + 1, x3, i, rv => if (i 50 11) = (-1) then (bn2 (fX12_look i rv) fun v4 i5 =>
    if v4 = 124 then (lt (u2 i5 50 10 ((i5 50 10) + (1 : Int32))) fun i7 =>
    bn2 (fX12_part gs 0 0 i7 rv) fun v8 i9 =>
    if x3 = 0 then (if v8 = 0 then (fX12_condition_56 gs (fX12_condition_7 gs n) 0 i9 rv) else (fX12_condition_51 gs (fX12_condition_7 gs n) i9 rv)) else (fX12_condition_51 gs (fX12_condition_7 gs n) i9 rv)) else (if narrow .boolean (.int x3) = .int x3 then
    some (x3, i5) else none)) else (if narrow .boolean (.int x3) = .int x3 then
    some (x3, i) else none)
theorem kX12_condition_7  {gs : (Nat → Nat → Int32) → (Nat → Nat → Option Nat) → Option ((Int32) × (Nat → Nat → Int32))} {D0 : Nat} {vR : Int32} {iR : Nat → Nat → Int32} (hX : aX p s m args c RX12 cX12_condition 5 D cA A ad0) (hr : meth.sig.returnType = (some .boolean)) (hlk : meth.locks = false) (hRf : (D0 + 87) ≤ R.frames) (hRl : 64 * (D0 + 87) ≤ R.locals) (Hgs : ∀ {i : Nat → Nat → Int32} {lo : Nat → Nat → Int64} {rv : Nat → Nat → Option Nat} {vR : Int32} {iR : Nat → Nat → Int32}, aGood sh rv → gs i rv = some (vR, iR) → aM l yX12_unit cX12_unit 3 (some .boolean) D0 [.ref (100 + 50)] (sh, i, lo, rv) (some (.int vR)) (sh, iR, lo, rv)) : ∀ (n : Nat) (x3 : Int32) (i : Nat → Nat → Int32), aGood sh rv → fX12_condition_7 gs n x3 i rv = some (vR, iR) → aJ p l e R s m args below meth c (MQ below (aPost D cA ad0 A (sh, i0, lo0, rv0) (some (.int vR)) (sh, iR, lo, rv)) args s (sh.length - sh.length) (aSn sh - aSn sh) A) D cA A ad0 5 sh.length (aSn sh) 7 [some (.ref (100 + 50)), none, none, some (.int x3), none] [] (sh, i, lo, rv) := by
  intro n
  induction n with
  | zero => intros; rename_i hf; cases hf
  | succ n ih =>
    intro x3 i hG hf
    rw [fX12_condition_7] at hf
    refine j_aload_n hX dX12_condition_7 rfl ?_
    refine j_getI (k := 11) hX kX12 (by decide) fk_X12_131 dX12_condition_8 (sh_50 hG) rfl ?_
    refine j_iconst hX dX12_condition_11 ic_m1 ?_
    refine j_icmp_ne (tgt := 60) hX dX12_condition_12 (by decide) (fun hc => ?_) (fun hc => ?_)
    · have hf := ifn hc hf
      refine j_iload_n hX dX12_condition_60 rfl ?_
      obtain ⟨hg, hf⟩ := gd hf
      cases hf
      exact j_ret hX hr hlk hg dX12_condition_61
    · have hf := ifp hc hf
      refine j_aload_n hX dX12_condition_15 rfl ?_
      obtain ⟨v4, i5, hh6, hf⟩ := bd2 hf
      refine j_cV0i hX lk_X12_141 kX12 dX12_condition_16 (sh_50 hG) (okX12_look hG hh6) rfl rfl (rmm (by omega) hRf hRl (by decide)) (Nat.le_of_ble_eq_true rfl) (Nat.le_add_right _ _) (Nat.le_add_right _ _) ?_
      refine j_bipush hX dX12_condition_19 bp_124 ?_
      refine j_icmp_ne (tgt := 60) hX dX12_condition_21 (by decide) (fun hc => ?_) (fun hc => ?_)
      · have hf := ifn hc hf
        refine j_iload_n hX dX12_condition_60 rfl ?_
        obtain ⟨hg, hf⟩ := gd hf
        cases hf
        exact j_ret hX hr hlk hg dX12_condition_61
      · have hf := ifp hc hf
        refine j_aload_n hX dX12_condition_24 rfl ?_
        refine j_dup hX dX12_condition_25 rfl ?_
        refine j_getI (k := 10) hX kX12 (by decide) fk_X12_122 dX12_condition_26 (sh_50 hG) rfl ?_
        refine j_iconst hX dX12_condition_29 ic_1 ?_
        refine j_iadd hX dX12_condition_30 ?_
        refine jpc (b := 31) rfl ?_
        have hf := ltd hf
        refine j_putI (k := 10) hX kX12 (by decide) fk_X12_122 dX12_condition_31 (sh_50 hG) rfl rfl rfl rfl ?_
        refine j_aload_n hX dX12_condition_34 rfl ?_
        refine j_iconst hX dX12_condition_35 ic_0 ?_
        refine j_iconst hX dX12_condition_36 ic_0 ?_
        obtain ⟨v8, i9, hh10, hf⟩ := bd2 hf
        refine j_cV2i hX lk_X12_197 kX12 dX12_condition_37 (sh_50 hG) (okX12_part Hgs hG hh10) rfl rfl (rmm (by omega) hRf hRl (by decide)) (Nat.le_of_ble_eq_true rfl) (Nat.le_add_right _ _) (Nat.le_add_right _ _) ?_
        refine j_istore hX dX12_condition_40 (by decide) rfl ?_
        refine jpc (b := 42) rfl ?_
        refine j_iload_n hX dX12_condition_42 rfl ?_
        refine j_if_ne (tgt := 51) hX dX12_condition_43 (by decide) (fun hc => ?_) (fun hc => ?_)
        · have hf := ifn hc hf
          exact aJx (kX12_condition_51 hX hr hlk hRf hRl Hgs ih hG  hf) (And.intro rfl (rfl))
        · have hf := ifp hc hf
          refine j_iload hX dX12_condition_46 rfl ?_
          refine j_if_eq (tgt := 55) hX dX12_condition_48 (by decide) (fun hc => ?_) (fun hc => ?_)
          · have hf := ifp hc hf
            refine j_iconst hX dX12_condition_55 ic_0 ?_
            exact aJx (kX12_condition_56 hX hr hlk hRf hRl Hgs ih hG  hf) (And.intro rfl (rfl))
          · have hf := ifn hc hf
            exact aJx (kX12_condition_51 hX hr hlk hRf hRl Hgs ih hG  hf) (And.intro rfl (rfl))
def fX12_condition (gs : (Nat → Nat → Int32) → (Nat → Nat → Option Nat) → Option ((Int32) × (Nat → Nat → Int32))) (a1 : Int32) (a2 : Int32) (i : Nat → Nat → Int32) (rv : Nat → Nat → Option Nat) : Option ((Int32) × (Nat → Nat → Int32)) := bn2 (fX12_part gs a1 a2 i rv) fun v1 i2 =>
    fX12_condition_7 gs fuel v1 i2 rv
theorem kX12_condition  {gs : (Nat → Nat → Int32) → (Nat → Nat → Option Nat) → Option ((Int32) × (Nat → Nat → Int32))} {D0 : Nat} {vR : Int32} {iR : Nat → Nat → Int32} (hX : aX p s m args c RX12 cX12_condition 5 D cA A ad0) (hr : meth.sig.returnType = (some .boolean)) (hlk : meth.locks = false) (hRf : (D0 + 87) ≤ R.frames) (hRl : 64 * (D0 + 87) ≤ R.locals) (Hgs : ∀ {i : Nat → Nat → Int32} {lo : Nat → Nat → Int64} {rv : Nat → Nat → Option Nat} {vR : Int32} {iR : Nat → Nat → Int32}, aGood sh rv → gs i rv = some (vR, iR) → aM l yX12_unit cX12_unit 3 (some .boolean) D0 [.ref (100 + 50)] (sh, i, lo, rv) (some (.int vR)) (sh, iR, lo, rv)) {a1 : Int32} {a2 : Int32} (hG : aGood sh rv) (hf : fX12_condition gs a1 a2 i rv = some (vR, iR)) : aJ p l e R s m args below meth c (MQ below (aPost D cA ad0 A (sh, i0, lo0, rv0) (some (.int vR)) (sh, iR, lo, rv)) args s (sh.length - sh.length) (aSn sh - aSn sh) A) D cA A ad0 5 sh.length (aSn sh) 0 [some (.ref (100 + 50)), some (.int a1), some (.int a2), none, none] [] (sh, i, lo, rv) := by
  unfold fX12_condition at hf
  refine j_aload_n hX dX12_condition_0 rfl ?_
  refine j_iload_n hX dX12_condition_1 rfl ?_
  refine j_iload_n hX dX12_condition_2 rfl ?_
  obtain ⟨v1, i2, hh3, hf⟩ := bd2 hf
  refine j_cV2i hX lk_X12_197 kX12 dX12_condition_3 (sh_50 hG) (okX12_part Hgs hG hh3) rfl rfl (rmm (by omega) hRf hRl (by decide)) (Nat.le_of_ble_eq_true rfl) (Nat.le_add_right _ _) (Nat.le_add_right _ _) ?_
  refine j_istore_n hX dX12_condition_6 (by decide) rfl ?_
  exact aJx (kX12_condition_7 hX hr hlk hRf hRl Hgs fuel _ _ hG  hf) (And.intro rfl (And.intro rfl (rfl)))
theorem okX12_condition {l : Launch} {sh : List aSh} {i : Nat → Nat → Int32} {lo : Nat → Nat → Int64} {rv : Nat → Nat → Option Nat} {gs : (Nat → Nat → Int32) → (Nat → Nat → Option Nat) → Option ((Int32) × (Nat → Nat → Int32))} {D0 : Nat} (Hgs : ∀ {i : Nat → Nat → Int32} {lo : Nat → Nat → Int64} {rv : Nat → Nat → Option Nat} {vR : Int32} {iR : Nat → Nat → Int32}, aGood sh rv → gs i rv = some (vR, iR) → aM l yX12_unit cX12_unit 3 (some .boolean) D0 [.ref (100 + 50)] (sh, i, lo, rv) (some (.int vR)) (sh, iR, lo, rv)) {a1 : Int32} {a2 : Int32} {vR : Int32} {iR : Nat → Nat → Int32} (hG : aGood sh rv) (hf : fX12_condition gs a1 a2 i rv = some (vR, iR)) : aM l yX12_condition cX12_condition 5 (some .boolean) (D0 + 87) [.ref (100 + 50), .int a1, .int a2] (sh, i, lo, rv) (some (.int vR)) (sh, iR, lo, rv) :=
  aM_of (by decide) (Nat.le_of_ble_eq_true rfl) (Nat.le_refl _) (Nat.le_refl _) (fun p e s m args below meth c D cA A ad0 hX hr hlk hnm => kX12_condition hX hr hlk (Nat.le_refl _) (Nat.le_refl _) Hgs hG hf)
def fX12_unitb (gs : (Nat → Nat → Int32) → (Nat → Nat → Option Nat) → Option ((Int32) × (Nat → Nat → Int32))) (i : Nat → Nat → Int32) (rv : Nat → Nat → Option Nat) : Option ((Int32) × (Nat → Nat → Int32)) := bn2 (fX12_look i rv) fun v1 i2 =>
    if v1 = 33 then (bn2 (fX12_goesIn i2) fun v17 i18 =>
    if v17 = 0 then (some (0, i18)) else (bn2 (gs i18 rv) fun v20 i21 =>
    lt (u2 i21 50 12 ((i21 50 12) - (1 : Int32))) fun i23 =>
    if v20 = 0 then (some (1, i23)) else (some (0, i23)))) else (if v1 = 40 then (bn2 (fX12_goesIn i2) fun v7 i8 =>
    if v7 = 0 then (some (0, i8)) else (bn2 (fX12_condition gs 0 0 i8 rv) fun v10 i11 =>
    bn2 (fX12_takes 41 i11 rv) fun v13 i14 =>
    if v13 = 0 then (some (0, i14)) else (lt (u2 i14 50 12 ((i14 50 12) - (1 : Int32))) fun i16 =>
    if narrow .boolean (.int v10) = .int v10 then
    some (v10, i16) else none))) else (bn2 (fX12_compares 0 0 i2 rv) fun v4 i5 =>
    if narrow .boolean (.int v4) = .int v4 then
    some (v4, i5) else none))
theorem kX12_unit  {gs : (Nat → Nat → Int32) → (Nat → Nat → Option Nat) → Option ((Int32) × (Nat → Nat → Int32))} {D0 : Nat} {vR : Int32} {iR : Nat → Nat → Int32} (hX : aX p s m args c RX12 cX12_unit 3 D cA A ad0) (hr : meth.sig.returnType = (some .boolean)) (hlk : meth.locks = false) (hRf : (D0 + 88) ≤ R.frames) (hRl : 64 * (D0 + 88) ≤ R.locals) (Hgs : ∀ {i : Nat → Nat → Int32} {lo : Nat → Nat → Int64} {rv : Nat → Nat → Option Nat} {vR : Int32} {iR : Nat → Nat → Int32}, aGood sh rv → gs i rv = some (vR, iR) → aM l yX12_unit cX12_unit 3 (some .boolean) D0 [.ref (100 + 50)] (sh, i, lo, rv) (some (.int vR)) (sh, iR, lo, rv)) (hG : aGood sh rv) (hf : fX12_unitb gs i rv = some (vR, iR)) : aJ p l e R s m args below meth c (MQ below (aPost D cA ad0 A (sh, i0, lo0, rv0) (some (.int vR)) (sh, iR, lo, rv)) args s (sh.length - sh.length) (aSn sh - aSn sh) A) D cA A ad0 3 sh.length (aSn sh) 0 [some (.ref (100 + 50)), none, none] [] (sh, i, lo, rv) := by
  unfold fX12_unitb at hf
  refine j_aload_n hX dX12_unit_0 rfl ?_
  obtain ⟨v1, i2, hh3, hf⟩ := bd2 hf
  refine j_cV0i hX lk_X12_141 kX12 dX12_unit_1 (sh_50 hG) (okX12_look hG hh3) rfl rfl (rmm (by omega) hRf hRl (by decide)) (Nat.le_of_ble_eq_true rfl) (Nat.le_add_right _ _) (Nat.le_add_right _ _) ?_
  refine j_istore_n hX dX12_unit_4 (by decide) rfl ?_
  refine j_iload_n hX dX12_unit_5 rfl ?_
  refine j_bipush hX dX12_unit_6 bp_33 ?_
  refine jpc (b := 8) rfl ?_
  refine j_icmp_ne (tgt := 45) hX dX12_unit_8 (by decide) (fun hc => ?_) (fun hc => ?_)
  · have hf := ifn hc hf
    refine j_iload_n hX dX12_unit_45 rfl ?_
    refine j_bipush hX dX12_unit_46 bp_40 ?_
    refine j_icmp_ne (tgt := 90) hX dX12_unit_48 (by decide) (fun hc => ?_) (fun hc => ?_)
    · have hf := ifn hc hf
      refine j_aload_n hX dX12_unit_90 rfl ?_
      refine j_iconst hX dX12_unit_91 ic_0 ?_
      refine j_iconst hX dX12_unit_92 ic_0 ?_
      obtain ⟨v4, i5, hh6, hf⟩ := bd2 hf
      refine j_cV2i hX lk_X12_194 kX12 dX12_unit_93 (sh_50 hG) (okX12_compares hG hh6) rfl rfl (rmm (by omega) hRf hRl (by decide)) (Nat.le_of_ble_eq_true rfl) (Nat.le_add_right _ _) (Nat.le_add_right _ _) ?_
      obtain ⟨hg, hf⟩ := gd hf
      cases hf
      exact j_ret hX hr hlk hg dX12_unit_96
    · have hf := ifp hc hf
      refine j_aload_n hX dX12_unit_51 rfl ?_
      obtain ⟨v7, i8, hh9, hf⟩ := bd2 hf
      refine j_cV0i hX lk_X12_161 kX12 dX12_unit_52 (sh_50 hG) (okX12_goesIn hG hh9) rfl rfl (rmm (by omega) hRf hRl (by decide)) (Nat.le_of_ble_eq_true rfl) (Nat.le_add_right _ _) (Nat.le_add_right _ _) ?_
      refine j_if_ne (tgt := 60) hX dX12_unit_55 (by decide) (fun hc => ?_) (fun hc => ?_)
      · have hf := ifn hc hf
        refine j_aload_n hX dX12_unit_60 rfl ?_
        refine j_iconst hX dX12_unit_61 ic_0 ?_
        refine j_iconst hX dX12_unit_62 ic_0 ?_
        obtain ⟨v10, i11, hh12, hf⟩ := bd2 hf
        refine j_cV2i hX lk_X12_190 kX12 dX12_unit_63 (sh_50 hG) (okX12_condition Hgs hG hh12) rfl rfl (rmm (by omega) hRf hRl (by decide)) (Nat.le_of_ble_eq_true rfl) (Nat.le_add_right _ _) (Nat.le_add_right _ _) ?_
        refine j_istore_n hX dX12_unit_66 (by decide) rfl ?_
        refine jpc (b := 67) rfl ?_
        refine j_aload_n hX dX12_unit_67 rfl ?_
        refine j_bipush hX dX12_unit_68 bp_41 ?_
        obtain ⟨v13, i14, hh15, hf⟩ := bd2 hf
        refine j_cV1i hX lk_X12_167 kX12 dX12_unit_70 (sh_50 hG) (okX12_takes hG hh15) rfl rfl (rmm (by omega) hRf hRl (by decide)) (Nat.le_of_ble_eq_true rfl) (Nat.le_add_right _ _) (Nat.le_add_right _ _) ?_
        refine j_if_ne (tgt := 78) hX dX12_unit_73 (by decide) (fun hc => ?_) (fun hc => ?_)
        · have hf := ifn hc hf
          refine j_aload_n hX dX12_unit_78 rfl ?_
          refine j_dup hX dX12_unit_79 rfl ?_
          refine j_getI (k := 12) hX kX12 (by decide) fk_X12_134 dX12_unit_80 (sh_50 hG) rfl ?_
          refine j_iconst hX dX12_unit_83 ic_1 ?_
          refine j_isub hX dX12_unit_84 ?_
          refine jpc (b := 85) rfl ?_
          have hf := ltd hf
          refine j_putI (k := 12) hX kX12 (by decide) fk_X12_134 dX12_unit_85 (sh_50 hG) rfl rfl rfl rfl ?_
          refine j_iload_n hX dX12_unit_88 rfl ?_
          obtain ⟨hg, hf⟩ := gd hf
          cases hf
          exact j_ret hX hr hlk hg dX12_unit_89
        · have hf := ifp hc hf
          refine j_iconst hX dX12_unit_76 ic_0 ?_
          cases hf
          exact j_ret hX hr hlk rfl dX12_unit_77
      · have hf := ifp hc hf
        refine j_iconst hX dX12_unit_58 ic_0 ?_
        cases hf
        exact j_ret hX hr hlk rfl dX12_unit_59
  · have hf := ifp hc hf
    refine j_aload_n hX dX12_unit_11 rfl ?_
    obtain ⟨v17, i18, hh19, hf⟩ := bd2 hf
    refine j_cV0i hX lk_X12_161 kX12 dX12_unit_12 (sh_50 hG) (okX12_goesIn hG hh19) rfl rfl (rmm (by omega) hRf hRl (by decide)) (Nat.le_of_ble_eq_true rfl) (Nat.le_add_right _ _) (Nat.le_add_right _ _) ?_
    refine j_if_ne (tgt := 20) hX dX12_unit_15 (by decide) (fun hc => ?_) (fun hc => ?_)
    · have hf := ifn hc hf
      refine j_aload_n hX dX12_unit_20 rfl ?_
      obtain ⟨v20, i21, hh22, hf⟩ := bd2 hf
      refine j_cV0i hX lk_X12_187 kX12 dX12_unit_21 (sh_50 hG) (Hgs hG hh22) rfl rfl (rmm (by omega) hRf hRl (by decide)) (Nat.le_of_ble_eq_true rfl) (Nat.le_add_right _ _) (Nat.le_add_right _ _) ?_
      refine j_istore_n hX dX12_unit_24 (by decide) rfl ?_
      refine j_aload_n hX dX12_unit_25 rfl ?_
      refine j_dup hX dX12_unit_26 rfl ?_
      refine jpc (b := 27) rfl ?_
      refine j_getI (k := 12) hX kX12 (by decide) fk_X12_134 dX12_unit_27 (sh_50 hG) rfl ?_
      refine j_iconst hX dX12_unit_30 ic_1 ?_
      refine j_isub hX dX12_unit_31 ?_
      have hf := ltd hf
      refine j_putI (k := 12) hX kX12 (by decide) fk_X12_134 dX12_unit_32 (sh_50 hG) rfl rfl rfl rfl ?_
      refine j_iload_n hX dX12_unit_35 rfl ?_
      refine j_if_ne (tgt := 43) hX dX12_unit_36 (by decide) (fun hc => ?_) (fun hc => ?_)
      · have hf := ifn hc hf
        refine j_iconst hX dX12_unit_43 ic_0 ?_
        cases hf
        exact j_ret hX hr hlk rfl dX12_unit_44
      · have hf := ifp hc hf
        refine j_iconst hX dX12_unit_39 ic_1 ?_
        refine j_goto (tgt := 44) hX dX12_unit_40 (by decide) ?_
        cases hf
        exact j_ret hX hr hlk rfl dX12_unit_44
    · have hf := ifp hc hf
      refine j_iconst hX dX12_unit_18 ic_0 ?_
      cases hf
      exact j_ret hX hr hlk rfl dX12_unit_19
theorem okX12_unitb {l : Launch} {sh : List aSh} {i : Nat → Nat → Int32} {lo : Nat → Nat → Int64} {rv : Nat → Nat → Option Nat} {gs : (Nat → Nat → Int32) → (Nat → Nat → Option Nat) → Option ((Int32) × (Nat → Nat → Int32))} {D0 : Nat} (Hgs : ∀ {i : Nat → Nat → Int32} {lo : Nat → Nat → Int64} {rv : Nat → Nat → Option Nat} {vR : Int32} {iR : Nat → Nat → Int32}, aGood sh rv → gs i rv = some (vR, iR) → aM l yX12_unit cX12_unit 3 (some .boolean) D0 [.ref (100 + 50)] (sh, i, lo, rv) (some (.int vR)) (sh, iR, lo, rv)) {vR : Int32} {iR : Nat → Nat → Int32} (hG : aGood sh rv) (hf : fX12_unitb gs i rv = some (vR, iR)) : aM l yX12_unit cX12_unit 3 (some .boolean) (D0 + 88) [.ref (100 + 50)] (sh, i, lo, rv) (some (.int vR)) (sh, iR, lo, rv) :=
  aM_of (by decide) (Nat.le_of_ble_eq_true rfl) (Nat.le_refl _) (Nat.le_refl _) (fun p e s m args below meth c D cA A ad0 hX hr hlk hnm => kX12_unit hX hr hlk (Nat.le_refl _) (Nat.le_refl _) Hgs hG hf)
def fX12_unit : Nat → (Nat → Nat → Int32) → (Nat → Nat → Option Nat) → Option ((Int32) × (Nat → Nat → Int32))
  | 0, _, _ => none
  | n + 1, i, rv => fX12_unitb (fX12_unit n) i rv
theorem okX12_unit {l : Launch} {sh : List aSh} : ∀ (n : Nat) {i : Nat → Nat → Int32} {lo : Nat → Nat → Int64} {rv : Nat → Nat → Option Nat} {vR : Int32} {iR : Nat → Nat → Int32}, aGood sh rv → fX12_unit n i rv = some (vR, iR) → aM l yX12_unit cX12_unit 3 (some .boolean) (88 * n) [.ref (100 + 50)] (sh, i, lo, rv) (some (.int vR)) (sh, iR, lo, rv) := by
  intro n
  induction n with
  | zero => intros; rename_i hf; cases hf
  | succ n ih =>
    intro _ _ _ _ _ hG hf
    exact okX12_unitb (fun hG hf => ih hG hf) hG hf
end DC
