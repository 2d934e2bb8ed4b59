/-! sleeper: the roads that return; text -/
section DC
variable {p : Program} {l : Launch} {e : Env} {R : Room} {s : State} {m : MethodId} {args : Array Value} {below : List Frame} {meth : Method} {c : Code} {D : va_G} {cA : FieldType → ClassId} {A : Nat → Prop} {ad0 : Nat → Nat} {sh : List aSh} {i i0 : Nat → Nat → Int32} {lo lo0 : Nat → Nat → Int64} {rv rv0 : Nat → Nat → Option Nat}
def fX11_sleeper_21 (i : Nat → Nat → Int32) : Option ((Int32)) := none
theorem kX11_sleeper_21  {vR : Int32} (hX : aX p s m args c RX11 cX11_sleeper 3 D cA A ad0) (hr : meth.sig.returnType = (some .int)) (hlk : meth.locks = false) (hRf : 1 ≤ R.frames) (hRl : 64 * 1 ≤ R.locals) (hG : aGood sh rv) (hf : fX11_sleeper_21 i = some (vR)) : aJ p l e R s m args below meth c (MQ below (aPost D cA ad0 A (sh, i0, lo0, rv0) (some (.int vR)) (sh, i, lo, rv)) args s (sh.length - sh.length) (aSn sh - aSn sh) A) D cA A ad0 3 sh.length (aSn sh) 21 [none, none, none] [] (sh, i, lo, rv) := by
  unfold fX11_sleeper_21 at hf
  cases hf
def fX11_sleeper (a1 : Int32) (a2 : Int32) (i : Nat → Nat → Int32) : Option ((Int32)) := bn1 (fX1_hasSleeper 15 a1 i) fun v1 =>
    if v1 = 0 then (fX11_sleeper_21 i) else (if a2 < 0 then (fX11_sleeper_21 i) else (if a2 ≤ 10 then (if a2 = 6 then (bn1 (fX8_berthOf 19 a1 i) fun v3 =>
    some (v3)) else
    if a2 = 7 then (bn1 (fX1_papers 15 i) fun v5 =>
    bn1 (fX8_placeOf 19 a1 v5 i) fun v7 =>
    some (v7)) else
    if a2 = 8 then (bn1 (fX8_saidFor 19 a1 i) fun v9 =>
    some (v9)) else
    if a2 = 9 then (bn1 (fX8_isAsleep 19 a1 i) fun v11 =>
    if v11 = 0 then (some (0)) else (some (1))) else
    if a2 = 10 then (bn1 (fX8_lostBy 19 a1 i) fun v13 =>
    some (v13)) else
    (bn1 (fX1_ofSleeper 15 a1 a2 i) fun v15 =>
    some (v15))) else (fX11_sleeper_21 i)))
theorem kX11_sleeper  {vR : Int32} (hX : aX p s m args c RX11 cX11_sleeper 3 D cA A ad0) (hr : meth.sig.returnType = (some .int)) (hlk : meth.locks = false) (hRf : 1 ≤ R.frames) (hRl : 64 * 1 ≤ R.locals) {a1 : Int32} {a2 : Int32} (hG : aGood sh rv) (hf : fX11_sleeper a1 a2 i = some (vR)) : aJ p l e R s m args below meth c (MQ below (aPost D cA ad0 A (sh, i0, lo0, rv0) (some (.int vR)) (sh, i, lo, rv)) args s (sh.length - sh.length) (aSn sh - aSn sh) A) D cA A ad0 3 sh.length (aSn sh) 0 [some (.ref (100 + 0)), some (.int a1), some (.int a2)] [] (sh, i, lo, rv) := by
  unfold fX11_sleeper at hf
  refine j_aload_n hX dX11_sleeper_0 rfl ?_
  refine j_getR (k := 3) hX kX11 (by decide) fk_X11_30 (rf_0_3 hG) dX11_sleeper_1 (sh_0 hG) rfl ?_
  refine j_iload_n hX dX11_sleeper_4 rfl ?_
  obtain ⟨v1, hh2, hf⟩ := bd1 hf
  refine j_cV1i hX lk_X11_130 kX1 dX11_sleeper_5 (sh_15 hG) (okX1_hasSleeper hG (cr_15 hG) hh2) rfl rfl (rmm (by omega) hRf hRl (by decide)) (Nat.le_of_ble_eq_true rfl) (Nat.le_add_right _ _) (Nat.le_add_right _ _) ?_
  refine j_if_eq (tgt := 21) hX dX11_sleeper_8 (by decide) (fun hc => ?_) (fun hc => ?_)
  · have hf := ifp hc hf
    exact aJx (kX11_sleeper_21 hX hr hlk hRf hRl hG  hf) (rfl)
  · have hf := ifn hc hf
    refine j_iload_n hX dX11_sleeper_11 rfl ?_
    refine j_if_lt (tgt := 21) hX dX11_sleeper_12 (by decide) (fun hc => ?_) (fun hc => ?_)
    · have hf := ifp hc hf
      exact aJx (kX11_sleeper_21 hX hr hlk hRf hRl hG  hf) (rfl)
    · have hf := ifn hc hf
      refine j_iload_n hX dX11_sleeper_15 rfl ?_
      refine j_bipush hX dX11_sleeper_16 bp_10 ?_
      refine j_icmp_le (tgt := 31) hX dX11_sleeper_18 (by decide) (fun hc => ?_) (fun hc => ?_)
      · have hf := ifp hc hf
        refine j_iload_n hX dX11_sleeper_31 rfl ?_
        refine sw2 (k := 6) hf (fun hc0 hf => ?_) (fun hc0 hf => ?_)
        · refine j_tabIn (off := 36) (tgt := 68) hX dX11_sleeper_32 (by rw [hc0]; decide) (by rw [hc0]; decide) (by rw [hc0]; rfl) (by decide) ?_
          refine j_aload_n hX dX11_sleeper_68 rfl ?_
          refine j_getR (k := 4) hX kX11 (by decide) fk_X11_36 (rf_0_4 hG) dX11_sleeper_69 (sh_0 hG) rfl ?_
          refine j_iload_n hX dX11_sleeper_72 rfl ?_
          obtain ⟨v3, hh4, hf⟩ := bd1 hf
          refine j_cV1i hX lk_X11_140 kX8 dX11_sleeper_73 (sh_19 hG) (okX8_berthOf hG (sc_19 hG) hh4) rfl rfl (rmm (by omega) hRf hRl (by decide)) (Nat.le_of_ble_eq_true rfl) (Nat.le_add_right _ _) (Nat.le_add_right _ _) ?_
          cases hf
          exact j_ret hX hr hlk rfl dX11_sleeper_76
        refine sw2 (k := 7) hf (fun hc1 hf => ?_) (fun hc1 hf => ?_)
        · refine j_tabIn (off := 45) (tgt := 77) hX dX11_sleeper_32 (by rw [hc1]; decide) (by rw [hc1]; decide) (by rw [hc1]; rfl) (by decide) ?_
          refine j_aload_n hX dX11_sleeper_77 rfl ?_
          refine j_getR (k := 4) hX kX11 (by decide) fk_X11_36 (rf_0_4 hG) dX11_sleeper_78 (sh_0 hG) rfl ?_
          refine j_iload_n hX dX11_sleeper_81 rfl ?_
          refine j_aload_n hX dX11_sleeper_82 rfl ?_
          refine j_getR (k := 3) hX kX11 (by decide) fk_X11_30 (rf_0_3 hG) dX11_sleeper_83 (sh_0 hG) rfl ?_
          refine jpc (b := 86) rfl ?_
          obtain ⟨v5, hh6, hf⟩ := bd1 hf
          refine j_cV0i hX lk_X11_143 kX1 dX11_sleeper_86 (sh_15 hG) (okX1_papers hG (cr_15 hG) hh6) rfl rfl (rmm (by omega) hRf hRl (by decide)) (Nat.le_of_ble_eq_true rfl) (Nat.le_add_right _ _) (Nat.le_add_right _ _) ?_
          obtain ⟨v7, hh8, hf⟩ := bd1 hf
          refine j_cV2i hX lk_X11_146 kX8 dX11_sleeper_89 (sh_19 hG) (okX8_placeOf hG (sc_19 hG) hh8) rfl rfl (rmm (by omega) hRf hRl (by decide)) (Nat.le_of_ble_eq_true rfl) (Nat.le_add_right _ _) (Nat.le_add_right _ _) ?_
          cases hf
          exact j_ret hX hr hlk rfl dX11_sleeper_92
        refine sw2 (k := 8) hf (fun hc2 hf => ?_) (fun hc2 hf => ?_)
        · refine j_tabIn (off := 61) (tgt := 93) hX dX11_sleeper_32 (by rw [hc2]; decide) (by rw [hc2]; decide) (by rw [hc2]; rfl) (by decide) ?_
          refine j_aload_n hX dX11_sleeper_93 rfl ?_
          refine j_getR (k := 4) hX kX11 (by decide) fk_X11_36 (rf_0_4 hG) dX11_sleeper_94 (sh_0 hG) rfl ?_
          refine j_iload_n hX dX11_sleeper_97 rfl ?_
          obtain ⟨v9, hh10, hf⟩ := bd1 hf
          refine j_cV1i hX lk_X11_150 kX8 dX11_sleeper_98 (sh_19 hG) (okX8_saidFor hG (sc_19 hG) hh10) rfl rfl (rmm (by omega) hRf hRl (by decide)) (Nat.le_of_ble_eq_true rfl) (Nat.le_add_right _ _) (Nat.le_add_right _ _) ?_
          cases hf
          exact j_ret hX hr hlk rfl dX11_sleeper_101
        refine sw2 (k := 9) hf (fun hc3 hf => ?_) (fun hc3 hf => ?_)
        · refine j_tabIn (off := 70) (tgt := 102) hX dX11_sleeper_32 (by rw [hc3]; decide) (by rw [hc3]; decide) (by rw [hc3]; rfl) (by decide) ?_
          refine j_aload_n hX dX11_sleeper_102 rfl ?_
          refine j_getR (k := 4) hX kX11 (by decide) fk_X11_36 (rf_0_4 hG) dX11_sleeper_103 (sh_0 hG) rfl ?_
          refine j_iload_n hX dX11_sleeper_106 rfl ?_
          obtain ⟨v11, hh12, hf⟩ := bd1 hf
          refine j_cV1i hX lk_X11_153 kX8 dX11_sleeper_107 (sh_19 hG) (okX8_isAsleep hG (sc_19 hG) hh12) rfl rfl (rmm (by omega) hRf hRl (by decide)) (Nat.le_of_ble_eq_true rfl) (Nat.le_add_right _ _) (Nat.le_add_right _ _) ?_
          refine j_if_eq (tgt := 117) hX dX11_sleeper_110 (by decide) (fun hc => ?_) (fun hc => ?_)
          · have hf := ifp hc hf
            refine j_iconst hX dX11_sleeper_117 ic_0 ?_
            cases hf
            exact j_ret hX hr hlk rfl dX11_sleeper_118
          · have hf := ifn hc hf
            refine j_iconst hX dX11_sleeper_113 ic_1 ?_
            refine j_goto (tgt := 118) hX dX11_sleeper_114 (by decide) ?_
            cases hf
            exact j_ret hX hr hlk rfl dX11_sleeper_118
        refine sw2 (k := 10) hf (fun hc4 hf => ?_) (fun hc4 hf => ?_)
        · refine j_tabIn (off := 87) (tgt := 119) hX dX11_sleeper_32 (by rw [hc4]; decide) (by rw [hc4]; decide) (by rw [hc4]; rfl) (by decide) ?_
          refine j_aload_n hX dX11_sleeper_119 rfl ?_
          refine j_getR (k := 4) hX kX11 (by decide) fk_X11_36 (rf_0_4 hG) dX11_sleeper_120 (sh_0 hG) rfl ?_
          refine j_iload_n hX dX11_sleeper_123 rfl ?_
          obtain ⟨v13, hh14, hf⟩ := bd1 hf
          refine j_cV1i hX lk_X11_156 kX8 dX11_sleeper_124 (sh_19 hG) (okX8_lostBy hG (sc_19 hG) hh14) rfl rfl (rmm (by omega) hRf hRl (by decide)) (Nat.le_of_ble_eq_true rfl) (Nat.le_add_right _ _) (Nat.le_add_right _ _) ?_
          cases hf
          exact j_ret hX hr hlk rfl dX11_sleeper_127
        refine j_tabOut (tgt := 128) hX dX11_sleeper_32 (by have g0 := i32ne (z := 6) hc0 (by decide); have g1 := i32ne (z := 7) hc1 (by decide); have g2 := i32ne (z := 8) hc2 (by decide); have g3 := i32ne (z := 9) hc3 (by decide); have g4 := i32ne (z := 10) hc4 (by decide); omega) (by decide) ?_
        refine j_aload_n hX dX11_sleeper_128 rfl ?_
        refine j_getR (k := 3) hX kX11 (by decide) fk_X11_30 (rf_0_3 hG) dX11_sleeper_129 (sh_0 hG) rfl ?_
        refine j_iload_n hX dX11_sleeper_132 rfl ?_
        refine j_iload_n hX dX11_sleeper_133 rfl ?_
        obtain ⟨v15, hh16, hf⟩ := bd1 hf
        refine j_cV2i hX lk_X11_159 kX1 dX11_sleeper_134 (sh_15 hG) (okX1_ofSleeper hG (cr_15 hG) hh16) rfl rfl (rmm (by omega) hRf hRl (by decide)) (Nat.le_of_ble_eq_true rfl) (Nat.le_add_right _ _) (Nat.le_add_right _ _) ?_
        refine jpc (b := 137) rfl ?_
        cases hf
        exact j_ret hX hr hlk rfl dX11_sleeper_137
      · have hf := ifn hc hf
        exact aJx (kX11_sleeper_21 hX hr hlk hRf hRl hG  hf) (rfl)
theorem okX11_sleeper {l : Launch} {sh : List aSh} {i : Nat → Nat → Int32} {lo : Nat → Nat → Int64} {rv : Nat → Nat → Option Nat}  {a1 : Int32} {a2 : Int32} {vR : Int32} (hG : aGood sh rv) (hf : fX11_sleeper a1 a2 i = some (vR)) : aM l yX11_sleeper cX11_sleeper 3 (some .int) 1 [.ref (100 + 0), .int a1, .int a2] (sh, i, lo, rv) (some (.int vR)) (sh, i, lo, rv) :=
  aM_of (by decide) (Nat.le_of_ble_eq_true rfl) (Nat.le_refl _) (Nat.le_refl _) (fun p e s m args below meth c D cA A ad0 hX hr hlk hnm => kX11_sleeper hX hr hlk (Nat.le_refl _) (Nat.le_refl _) hG hf)
end DC
theorem bL3 {q n : Nat} {a b : Option Value} (h : q < n) (ha : ∀ v, a = some v → aBel (100 + n) v = true) (hb : ∀ v, b = some v → aBel (100 + n) v = true) : (([some (Value.ref (100 + q)), a, b] : List (Option Value)).all (fun o => match o with | some v => aBel (100 + n) v | none => true)) = true := by
  cases a with
  | none => cases b with
    | none => simp [b_ref h]
    | some v => simp [b_ref h, hb v rfl]
  | some u => cases b with
    | none => simp [b_ref h, ha u rfl]
    | some v => simp [b_ref h, ha u rfl, hb v rfl]
section TX
variable {l : Launch} {sh : List aSh} {i i1 i2 i3 : Nat → Nat → Int32} {lo : Nat → Nat → Int64} {rv : Nat → Nat → Option Nat} {a1 v : Int32}
theorem okX11_text0 (h : a1 < 0 ∨ 2 < a1) : aM l yX11_text cX11_text 3 (some .int) 1027 [.ref (100 + 0), .int a1] (sh, i, lo, rv) (some (.int (-1))) (sh, i, lo, rv) := by
  refine aM_of (by decide) (Nat.le_of_ble_eq_true rfl) (Nat.le_refl _) (Nat.le_refl _) (fun p e s m args below meth c D cA A ad0 hX hr hlk hnm => ?_)
  generalize hRe : (Room.mk 1027 _ _ _) = R
  have hRf : 1027 ≤ R.frames := by rw [← hRe]; exact Nat.le_refl _
  have hRl : 64 * 1027 ≤ R.locals := by rw [← hRe]; exact Nat.le_refl _
  refine j_iload_n hX dX11_text_0 rfl ?_
  refine j_if_lt (tgt := 17) hX dX11_text_1 (by decide) (fun hc => ?_) (fun hc => ?_)
  · refine j_iconst hX dX11_text_17 ic_m1 ?_
    exact j_ret hX hr hlk rfl dX11_text_18
  · refine j_iload_n hX dX11_text_4 rfl ?_
    refine j_iconst hX dX11_text_5 ic_2 ?_
    refine j_icmp_gt (tgt := 17) hX dX11_text_6 (by decide) (fun hc2 => ?_) (fun hc2 => absurd h (by rintro (h | h); exact hc h; exact hc2 h))
    refine j_iconst hX dX11_text_17 ic_m1 ?_
    exact j_ret hX hr hlk rfl dX11_text_18
theorem okX11_text1 (hG : aGood sh rv) (h0 : ¬ a1 < 0) (h2 : ¬ 2 < a1) (hf : fX11_canRead a1 i rv = some (0, i1)) : aM l yX11_text cX11_text 3 (some .int) 1027 [.ref (100 + 0), .int a1] (sh, i, lo, rv) (some (.int (-1))) (sh, i1, lo, rv) := by
  refine aM_of (by decide) (Nat.le_of_ble_eq_true rfl) (Nat.le_refl _) (Nat.le_refl _) (fun p e s m args below meth c D cA A ad0 hX hr hlk hnm => ?_)
  generalize hRe : (Room.mk 1027 _ _ _) = R
  have hRf : 1027 ≤ R.frames := by rw [← hRe]; exact Nat.le_refl _
  have hRl : 64 * 1027 ≤ R.locals := by rw [← hRe]; exact Nat.le_refl _
  refine j_iload_n hX dX11_text_0 rfl ?_
  refine j_if_lt (tgt := 17) hX dX11_text_1 (by decide) (fun hc => absurd hc h0) (fun hc => ?_)
  refine j_iload_n hX dX11_text_4 rfl ?_
  refine j_iconst hX dX11_text_5 ic_2 ?_
  refine j_icmp_gt (tgt := 17) hX dX11_text_6 (by decide) (fun hc => absurd hc h2) (fun hc => ?_)
  refine j_aload_n hX dX11_text_9 rfl ?_
  refine j_iload_n hX dX11_text_10 rfl ?_
  refine j_cV1i (v := 0) hX lk_X11_104 kX11 dX11_text_11 (sh_0 hG) (okX11_canRead hG hf) rfl rfl (rmm (by decide) hRf hRl (by decide)) (Nat.le_of_ble_eq_true rfl) (Nat.le_add_right _ _) (Nat.le_add_right _ _) ?_
  refine j_if_ne (tgt := 19) hX dX11_text_14 (by decide) (fun hc => absurd rfl hc) (fun hc => ?_)
  refine j_iconst hX dX11_text_17 ic_m1 ?_
  exact j_ret hX hr hlk rfl dX11_text_18
theorem okX11_text2 {vb w : Int32} (hG : aGood sh rv) (h0 : ¬ a1 < 0) (h2 : ¬ 2 < a1) (ha : a1 = 0) (hv : ¬ v = 0) (hf : fX11_canRead a1 i rv = some (v, i1)) (hb : fX11_board i1 = some (w, i2)) (hw : ¬ w = -1) (hc0 : fX10_cut 0 i2 = some i3) : aM l yX11_text cX11_text 3 (some .int) 1027 [.ref (100 + 0), .int a1] (sh, i, lo, rv) (some (.int w)) (sh, i3, lo, rv) := by
  refine aM_of (by decide) (Nat.le_of_ble_eq_true rfl) (Nat.le_refl _) (Nat.le_refl _) (fun p e s m args below meth c D cA A ad0 hX hr hlk hnm => ?_)
  generalize hRe : (Room.mk 1027 _ _ _) = R
  have hRf : 1027 ≤ R.frames := by rw [← hRe]; exact Nat.le_refl _
  have hRl : 64 * 1027 ≤ R.locals := by rw [← hRe]; exact Nat.le_refl _
  refine j_iload_n hX dX11_text_0 rfl ?_
  refine j_if_lt (tgt := 17) hX dX11_text_1 (by decide) (fun hc => absurd hc h0) (fun hc => ?_)
  refine j_iload_n hX dX11_text_4 rfl ?_
  refine j_iconst hX dX11_text_5 ic_2 ?_
  refine j_icmp_gt (tgt := 17) hX dX11_text_6 (by decide) (fun hc => absurd hc h2) (fun hc => ?_)
  refine j_aload_n hX dX11_text_9 rfl ?_
  refine j_iload_n hX dX11_text_10 rfl ?_
  refine j_cV1i (v := v) hX lk_X11_104 kX11 dX11_text_11 (sh_0 hG) (okX11_canRead hG hf) rfl rfl (rmm (by decide) hRf hRl (by decide)) (Nat.le_of_ble_eq_true rfl) (Nat.le_add_right _ _) (Nat.le_add_right _ _) ?_
  refine j_if_ne (tgt := 19) hX dX11_text_14 (by decide) (fun hc => ?_) (fun hc => absurd hc hv)
  refine j_iload_n hX dX11_text_19 rfl ?_
  refine j_if_ne (tgt := 31) hX dX11_text_20 (by decide) (fun hc => absurd ha hc) (fun hc => ?_)
  refine j_aload_n hX dX11_text_23 rfl ?_
  refine j_cV0i (v := w) hX lk_X11_111 kX11 dX11_text_24 (sh_0 hG) (okX11_board hG hb) rfl rfl (rmm (by decide) hRf hRl (by decide)) (Nat.le_of_ble_eq_true rfl) (Nat.le_add_right _ _) (Nat.le_add_right _ _) ?_
  refine j_istore_n hX dX11_text_27 (by decide) rfl ?_
  refine j_goto (tgt := 54) hX dX11_text_28 (by decide) ?_
  refine j_iload_n hX dX11_text_54 rfl ?_
  refine j_iconst hX dX11_text_55 ic_m1 ?_
  refine j_icmp_eq (tgt := 67) hX dX11_text_56 (by decide) (fun hc => absurd hc hw) (fun hc => ?_)
  refine j_aload_n hX dX11_text_59 rfl ?_
  refine j_getR (k := 0) hX kX11 (by decide) fk_X11_10 (rf_0_0 hG) dX11_text_60 (sh_0 hG) rfl ?_
  refine j_iconst hX dX11_text_63 ic_0 ?_
  refine j_cV1v hX lk_X11_101 kX10 dX11_text_64 (sh_1 hG) (okX10_cut hG hc0) rfl rfl (rmm (by decide) hRf hRl (by decide)) (Nat.le_of_ble_eq_true rfl) (Nat.le_add_right _ _) (Nat.le_add_right _ _) ?_
  refine j_iload_n hX dX11_text_67 rfl ?_
  exact j_ret hX hr hlk rfl dX11_text_68
theorem okX11_text3 (hG : aGood sh rv) (h0 : ¬ a1 < 0) (h2 : ¬ 2 < a1) (ha : a1 = 1) (hv : ¬ v = 0) (hf : fX11_canRead a1 i rv = some (v, i1)) (hm : i1 3 4 = 4) : aM l yX11_text cX11_text 3 (some .int) 1027 [.ref (100 + 0), .int a1] (sh, i, lo, rv) (some (.int (-1))) (sh, i1, lo, rv) := by
  refine aM_of (by decide) (Nat.le_of_ble_eq_true rfl) (Nat.le_refl _) (Nat.le_refl _) (fun p e s m args below meth c D cA A ad0 hX hr hlk hnm => ?_)
  generalize hRe : (Room.mk 1027 _ _ _) = R
  have hRf : 1027 ≤ R.frames := by rw [← hRe]; exact Nat.le_refl _
  have hRl : 64 * 1027 ≤ R.locals := by rw [← hRe]; exact Nat.le_refl _
  refine j_iload_n hX dX11_text_0 rfl ?_
  refine j_if_lt (tgt := 17) hX dX11_text_1 (by decide) (fun hc => absurd hc h0) (fun hc => ?_)
  refine j_iload_n hX dX11_text_4 rfl ?_
  refine j_iconst hX dX11_text_5 ic_2 ?_
  refine j_icmp_gt (tgt := 17) hX dX11_text_6 (by decide) (fun hc => absurd hc h2) (fun hc => ?_)
  refine j_aload_n hX dX11_text_9 rfl ?_
  refine j_iload_n hX dX11_text_10 rfl ?_
  refine j_cV1i (v := v) hX lk_X11_104 kX11 dX11_text_11 (sh_0 hG) (okX11_canRead hG hf) rfl rfl (rmm (by decide) hRf hRl (by decide)) (Nat.le_of_ble_eq_true rfl) (Nat.le_add_right _ _) (Nat.le_add_right _ _) ?_
  refine j_if_ne (tgt := 19) hX dX11_text_14 (by decide) (fun hc => ?_) (fun hc => absurd hc hv)
  refine j_iload_n hX dX11_text_19 rfl ?_
  refine j_if_ne (tgt := 31) hX dX11_text_20 (by decide) (fun hc => ?_) (fun hc => absurd (ha.symm.trans hc) (by decide))
  refine j_iload_n hX dX11_text_31 rfl ?_
  refine j_iconst hX dX11_text_32 ic_1 ?_
  refine j_icmp_ne (tgt := 46) hX dX11_text_33 (by decide) (fun hc => absurd ha hc) (fun hc => ?_)
  refine j_aload_n hX dX11_text_36 rfl ?_
  refine j_getR (k := 1) hX kX11 (by decide) fk_X11_19 (rf_0_1 hG) dX11_text_37 (sh_0 hG) rfl ?_
  refine j_cV0i (v := -1) hX lk_X11_114 kX9 dX11_text_40 (sh_3 hG) (okX9_keepLaw0 hG hm) rfl rfl (rmm (by decide) hRf hRl (by decide)) (Nat.le_of_ble_eq_true rfl) (Nat.le_add_right _ _) (Nat.le_add_right _ _) ?_
  refine j_goto (tgt := 53) hX dX11_text_43 (by decide) ?_
  refine j_istore_n hX dX11_text_53 (by decide) rfl ?_
  refine j_iload_n hX dX11_text_54 rfl ?_
  refine j_iconst hX dX11_text_55 ic_m1 ?_
  refine j_icmp_eq (tgt := 67) hX dX11_text_56 (by decide) (fun hc => ?_) (fun hc => absurd rfl hc)
  refine j_iload_n hX dX11_text_67 rfl ?_
  exact j_ret hX hr hlk rfl dX11_text_68
theorem okX11_text4 (hG : aGood sh rv) (h0 : ¬ a1 < 0) (h2 : ¬ 2 < a1) (ha : a1 = 1) (hv : ¬ v = 0) (hf : fX11_canRead a1 i rv = some (v, i1)) (hm : ¬ i1 3 4 = 4) (hin : aIn (i1 3 4) 4 = true) (hw : ¬ i1 3 4 + 1 - 1 = -1) (hc0 : fX10_cut 0 (wKL (sh, i1, lo, rv)).2.1 = some i3) : aM l yX11_text cX11_text 3 (some .int) 1027 [.ref (100 + 0), .int a1] (sh, i, lo, rv) (some (.int (i1 3 4 + 1 - 1))) ((wKL (sh, i1, lo, rv)).1, i3, (wKL (sh, i1, lo, rv)).2.2.1, (wKL (sh, i1, lo, rv)).2.2.2) := by
  have hl := wKL_len (sh, i1, lo, rv)
  have hsn := wKL_sn (sh, i1, lo, rv)
  have hG' : aGood (wKL (sh, i1, lo, rv)).1 (wKL (sh, i1, lo, rv)).2.2.2 := wKL_good hG
  have h74 : 74 ≤ sh.length := (List.getElem?_eq_some_iff.mp (sh_73 hG)).1
  refine aM_of (by decide) (Nat.le_of_ble_eq_true rfl) (show sh.length ≤ (wKL (sh, i1, lo, rv)).1.length by rw [hl]; exact Nat.le_add_right _ _) (show aSn sh ≤ aSn (wKL (sh, i1, lo, rv)).1 by rw [hsn]; exact Nat.le_add_right _ _) (fun p e s m args below meth c D cA A ad0 hX hr hlk hnm => ?_)
  generalize hRe : (Room.mk 1027 _ _ _) = R
  have hRf : 1027 ≤ R.frames := by rw [← hRe]; exact Nat.le_refl _
  have hRl : 64 * 1027 ≤ R.locals := by rw [← hRe]; exact Nat.le_refl _
  have hRc : 3 ≤ R.cells := by rw [← hRe]; show 3 ≤ (wKL (sh, i1, lo, rv)).1.length - sh.length; rw [hl]; show 3 ≤ sh.length + 3 - sh.length; omega
  have hRs : 276 ≤ R.slots := by rw [← hRe]; show 276 ≤ aSn (wKL (sh, i1, lo, rv)).1 - aSn sh; rw [hsn]; show 276 ≤ aSn sh + 276 - aSn sh; omega
  have hr1 : (wKL (sh, i1, lo, rv)).1.length ≤ sh.length + R.cells := by rw [hl]; exact Nat.add_le_add_left hRc _
  have hr2 : aSn (wKL (sh, i1, lo, rv)).1 ≤ aSn sh + R.slots := by rw [hsn]; exact Nat.add_le_add_left hRs _
  refine j_iload_n hX dX11_text_0 rfl ?_
  refine j_if_lt (tgt := 17) hX dX11_text_1 (by decide) (fun hc => absurd hc h0) (fun hc => ?_)
  refine j_iload_n hX dX11_text_4 rfl ?_
  refine j_iconst hX dX11_text_5 ic_2 ?_
  refine j_icmp_gt (tgt := 17) hX dX11_text_6 (by decide) (fun hc => absurd hc h2) (fun hc => ?_)
  refine j_aload_n hX dX11_text_9 rfl ?_
  refine j_iload_n hX dX11_text_10 rfl ?_
  refine j_cV1i (v := v) hX lk_X11_104 kX11 dX11_text_11 (sh_0 hG) (okX11_canRead hG hf) rfl rfl (rmm (by decide) hRf hRl (by decide)) (Nat.le_of_ble_eq_true rfl) (Nat.le_add_right _ _) (Nat.le_add_right _ _) ?_
  refine j_if_ne (tgt := 19) hX dX11_text_14 (by decide) (fun hc => ?_) (fun hc => absurd hc hv)
  refine j_iload_n hX dX11_text_19 rfl ?_
  refine j_if_ne (tgt := 31) hX dX11_text_20 (by decide) (fun hc => ?_) (fun hc => absurd (ha.symm.trans hc) (by decide))
  refine j_iload_n hX dX11_text_31 rfl ?_
  refine j_iconst hX dX11_text_32 ic_1 ?_
  refine j_icmp_ne (tgt := 46) hX dX11_text_33 (by decide) (fun hc => absurd ha hc) (fun hc => ?_)
  refine j_aload_n hX dX11_text_36 rfl ?_
  refine j_getR (k := 1) hX kX11 (by decide) fk_X11_19 (rf_0_1 hG) dX11_text_37 (sh_0 hG) rfl ?_
  refine j_callVN (as := []) (r := some (.int (i1 3 4 + 1 - 1))) hX lk_X11_114 kX9 dX11_text_40 (sh_3 hG) (okX9_keepLaw hG hm hin) rfl (rmm (by decide) hRf hRl (by decide)) (Nat.le_of_ble_eq_true rfl) hr1 hr2 b_nil (bL3 (n := sh.length) (by omega) (fun v hv => by cases hv; rfl) (fun v hv => by cases hv)) ?_
  show aJ p l e R s m args below meth c _ D cA A ad0 3 _ _ _ _ [.int (i1 3 4 + 1 - 1)] _
  refine j_goto (tgt := 53) hX dX11_text_43 (by decide) ?_
  refine j_istore_n hX dX11_text_53 (by decide) rfl ?_
  refine j_iload_n hX dX11_text_54 rfl ?_
  refine j_iconst hX dX11_text_55 ic_m1 ?_
  refine j_icmp_eq (tgt := 67) hX dX11_text_56 (by decide) (fun hc => absurd hc hw) (fun hc => ?_)
  refine j_aload_n hX dX11_text_59 rfl ?_
  refine j_getR (k := 0) hX kX11 (by decide) fk_X11_10 (rf_0_0 hG') dX11_text_60 (sh_0 hG') rfl ?_
  refine j_iconst hX dX11_text_63 ic_0 ?_
  refine j_cV1v hX lk_X11_101 kX10 dX11_text_64 (sh_1 hG') (okX10_cut hG' hc0) rfl rfl (rmm (by decide) hRf hRl (by decide)) (Nat.le_of_ble_eq_true rfl) hr1 hr2 ?_
  refine j_iload_n hX dX11_text_67 rfl ?_
  exact j_ret hX hr hlk rfl dX11_text_68
theorem okX11_text5 (hG : aGood sh rv) (h0 : ¬ a1 < 0) (h2 : ¬ 2 < a1) (ha : a1 = 2) (hv : ¬ v = 0) (hf : fX11_canRead a1 i rv = some (v, i1)) (hm : i1 3 5 = 4) : aM l yX11_text cX11_text 3 (some .int) 1027 [.ref (100 + 0), .int a1] (sh, i, lo, rv) (some (.int (-1))) (sh, i1, lo, rv) := by
  refine aM_of (by decide) (Nat.le_of_ble_eq_true rfl) (Nat.le_refl _) (Nat.le_refl _) (fun p e s m args below meth c D cA A ad0 hX hr hlk hnm => ?_)
  generalize hRe : (Room.mk 1027 _ _ _) = R
  have hRf : 1027 ≤ R.frames := by rw [← hRe]; exact Nat.le_refl _
  have hRl : 64 * 1027 ≤ R.locals := by rw [← hRe]; exact Nat.le_refl _
  refine j_iload_n hX dX11_text_0 rfl ?_
  refine j_if_lt (tgt := 17) hX dX11_text_1 (by decide) (fun hc => absurd hc h0) (fun hc => ?_)
  refine j_iload_n hX dX11_text_4 rfl ?_
  refine j_iconst hX dX11_text_5 ic_2 ?_
  refine j_icmp_gt (tgt := 17) hX dX11_text_6 (by decide) (fun hc => absurd hc h2) (fun hc => ?_)
  refine j_aload_n hX dX11_text_9 rfl ?_
  refine j_iload_n hX dX11_text_10 rfl ?_
  refine j_cV1i (v := v) hX lk_X11_104 kX11 dX11_text_11 (sh_0 hG) (okX11_canRead hG hf) rfl rfl (rmm (by decide) hRf hRl (by decide)) (Nat.le_of_ble_eq_true rfl) (Nat.le_add_right _ _) (Nat.le_add_right _ _) ?_
  refine j_if_ne (tgt := 19) hX dX11_text_14 (by decide) (fun hc => ?_) (fun hc => absurd hc hv)
  refine j_iload_n hX dX11_text_19 rfl ?_
  refine j_if_ne (tgt := 31) hX dX11_text_20 (by decide) (fun hc => ?_) (fun hc => absurd (ha.symm.trans hc) (by decide))
  refine j_iload_n hX dX11_text_31 rfl ?_
  refine j_iconst hX dX11_text_32 ic_1 ?_
  refine j_icmp_ne (tgt := 46) hX dX11_text_33 (by decide) (fun hc => ?_) (fun hc => absurd (ha.symm.trans hc) (by decide))
  refine j_aload_n hX dX11_text_46 rfl ?_
  refine j_getR (k := 1) hX kX11 (by decide) fk_X11_19 (rf_0_1 hG) dX11_text_47 (sh_0 hG) rfl ?_
  refine j_cV0i (v := -1) hX lk_X11_117 kX9 dX11_text_50 (sh_3 hG) (okX9_keepLines0 hG hm) rfl rfl (rmm (by decide) hRf hRl (by decide)) (Nat.le_of_ble_eq_true rfl) (Nat.le_add_right _ _) (Nat.le_add_right _ _) ?_
  refine j_istore_n hX dX11_text_53 (by decide) rfl ?_
  refine j_iload_n hX dX11_text_54 rfl ?_
  refine j_iconst hX dX11_text_55 ic_m1 ?_
  refine j_icmp_eq (tgt := 67) hX dX11_text_56 (by decide) (fun hc => ?_) (fun hc => absurd rfl hc)
  refine j_iload_n hX dX11_text_67 rfl ?_
  exact j_ret hX hr hlk rfl dX11_text_68
theorem okX11_text6 (hG : aGood sh rv) (h0 : ¬ a1 < 0) (h2 : ¬ 2 < a1) (ha : a1 = 2) (hv : ¬ v = 0) (hf : fX11_canRead a1 i rv = some (v, i1)) (hm : ¬ i1 3 5 = 4) (hin : aIn (i1 3 5) 4 = true) (hw : ¬ i1 3 5 + 1 - 1 = -1) (hc0 : fX10_cut 0 (wKS (sh, i1, lo, rv)).2.1 = some i3) : aM l yX11_text cX11_text 3 (some .int) 1027 [.ref (100 + 0), .int a1] (sh, i, lo, rv) (some (.int (i1 3 5 + 1 - 1))) ((wKS (sh, i1, lo, rv)).1, i3, (wKS (sh, i1, lo, rv)).2.2.1, (wKS (sh, i1, lo, rv)).2.2.2) := by
  have hl := wKS_len (sh, i1, lo, rv)
  have hsn := wKS_sn (sh, i1, lo, rv)
  have hG' : aGood (wKS (sh, i1, lo, rv)).1 (wKS (sh, i1, lo, rv)).2.2.2 := wKS_good hG
  have h74 : 74 ≤ sh.length := (List.getElem?_eq_some_iff.mp (sh_73 hG)).1
  refine aM_of (by decide) (Nat.le_of_ble_eq_true rfl) (show sh.length ≤ (wKS (sh, i1, lo, rv)).1.length by rw [hl]; exact Nat.le_add_right _ _) (show aSn sh ≤ aSn (wKS (sh, i1, lo, rv)).1 by rw [hsn]; exact Nat.le_add_right _ _) (fun p e s m args below meth c D cA A ad0 hX hr hlk hnm => ?_)
  generalize hRe : (Room.mk 1027 _ _ _) = R
  have hRf : 1027 ≤ R.frames := by rw [← hRe]; exact Nat.le_refl _
  have hRl : 64 * 1027 ≤ R.locals := by rw [← hRe]; exact Nat.le_refl _
  have hRc : 2 ≤ R.cells := by rw [← hRe]; show 2 ≤ (wKS (sh, i1, lo, rv)).1.length - sh.length; rw [hl]; show 2 ≤ sh.length + 2 - sh.length; omega
  have hRs : 50 ≤ R.slots := by rw [← hRe]; show 50 ≤ aSn (wKS (sh, i1, lo, rv)).1 - aSn sh; rw [hsn]; show 50 ≤ aSn sh + 50 - aSn sh; omega
  have hr1 : (wKS (sh, i1, lo, rv)).1.length ≤ sh.length + R.cells := by rw [hl]; exact Nat.add_le_add_left hRc _
  have hr2 : aSn (wKS (sh, i1, lo, rv)).1 ≤ aSn sh + R.slots := by rw [hsn]; exact Nat.add_le_add_left hRs _
  refine j_iload_n hX dX11_text_0 rfl ?_
  refine j_if_lt (tgt := 17) hX dX11_text_1 (by decide) (fun hc => absurd hc h0) (fun hc => ?_)
  refine j_iload_n hX dX11_text_4 rfl ?_
  refine j_iconst hX dX11_text_5 ic_2 ?_
  refine j_icmp_gt (tgt := 17) hX dX11_text_6 (by decide) (fun hc => absurd hc h2) (fun hc => ?_)
  refine j_aload_n hX dX11_text_9 rfl ?_
  refine j_iload_n hX dX11_text_10 rfl ?_
  refine j_cV1i (v := v) hX lk_X11_104 kX11 dX11_text_11 (sh_0 hG) (okX11_canRead hG hf) rfl rfl (rmm (by decide) hRf hRl (by decide)) (Nat.le_of_ble_eq_true rfl) (Nat.le_add_right _ _) (Nat.le_add_right _ _) ?_
  refine j_if_ne (tgt := 19) hX dX11_text_14 (by decide) (fun hc => ?_) (fun hc => absurd hc hv)
  refine j_iload_n hX dX11_text_19 rfl ?_
  refine j_if_ne (tgt := 31) hX dX11_text_20 (by decide) (fun hc => ?_) (fun hc => absurd (ha.symm.trans hc) (by decide))
  refine j_iload_n hX dX11_text_31 rfl ?_
  refine j_iconst hX dX11_text_32 ic_1 ?_
  refine j_icmp_ne (tgt := 46) hX dX11_text_33 (by decide) (fun hc => ?_) (fun hc => absurd (ha.symm.trans hc) (by decide))
  refine j_aload_n hX dX11_text_46 rfl ?_
  refine j_getR (k := 1) hX kX11 (by decide) fk_X11_19 (rf_0_1 hG) dX11_text_47 (sh_0 hG) rfl ?_
  refine j_callVN (as := []) (r := some (.int (i1 3 5 + 1 - 1))) hX lk_X11_117 kX9 dX11_text_50 (sh_3 hG) (okX9_keepLines hG hm hin) rfl (rmm (by decide) hRf hRl (by decide)) (Nat.le_of_ble_eq_true rfl) hr1 hr2 b_nil (bL3 (n := sh.length) (by omega) (fun v hv => by cases hv; rfl) (fun v hv => by cases hv)) ?_
  show aJ p l e R s m args below meth c _ D cA A ad0 3 _ _ _ _ [.int (i1 3 5 + 1 - 1)] _
  refine j_istore_n hX dX11_text_53 (by decide) rfl ?_
  refine j_iload_n hX dX11_text_54 rfl ?_
  refine j_iconst hX dX11_text_55 ic_m1 ?_
  refine j_icmp_eq (tgt := 67) hX dX11_text_56 (by decide) (fun hc => absurd hc hw) (fun hc => ?_)
  refine j_aload_n hX dX11_text_59 rfl ?_
  refine j_getR (k := 0) hX kX11 (by decide) fk_X11_10 (rf_0_0 hG') dX11_text_60 (sh_0 hG') rfl ?_
  refine j_iconst hX dX11_text_63 ic_0 ?_
  refine j_cV1v hX lk_X11_101 kX10 dX11_text_64 (sh_1 hG') (okX10_cut hG' hc0) rfl rfl (rmm (by decide) hRf hRl (by decide)) (Nat.le_of_ble_eq_true rfl) hr1 hr2 ?_
  refine j_iload_n hX dX11_text_67 rfl ?_
  exact j_ret hX hr hlk rfl dX11_text_68
end TX
