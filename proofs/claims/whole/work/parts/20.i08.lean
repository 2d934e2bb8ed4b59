/-! decompiled: X12_clause X12_starts X12_goThrough X12_here X12_spotOf X12_number X12_mostOf X12_leastOf X12_usual X12_readItems X12_readClause X12_isWhole X12_readCar X12_digit X12_readStep -/
section DC
variable {p : Program} {l : Launch} {e : Env} {R : Room} {s : State} {m : MethodId} {args : Array Value} {below : List Frame} {meth : Method} {c : Code} {D : va_G} {cA : FieldType → ClassId} {A : Nat → Prop} {ad0 : Nat → Nat} {sh : List aSh} {i i0 : Nat → Nat → Int32} {lo lo0 : Nat → Nat → Int64} {rv rv0 : Nat → Nat → Option Nat}
def fX12_clause_134 (x1 : Int32) (x2 : Int32) (x3 : Int32) (i : Nat → Nat → Int32) (rv : Nat → Nat → Option Nat) : Option ((Nat → Nat → Int32)) := if (i 50 11) = (-1) then (if (i 50 17) = 0 then (if x1 = (i 50 13) then (if x2 = 0 then (some (i)) else (lt (u2 i 50 17 1) fun i42 =>
    lt (u2 i42 50 14 x3) fun i43 =>
    some (i43))) else (some (i))) else (some (i))) else (some (i))
theorem kX12_clause_134  {iR : Nat → Nat → Int32} (hX : aX p s m args c RX12 cX12_clause 5 D cA A ad0) (hr : meth.sig.returnType = none) (hlk : meth.locks = false) (hRf : 1144 ≤ R.frames) (hRl : 64 * 1144 ≤ R.locals) {x1 : Int32} {x2 : Int32} {x3 : Int32} (hG : aGood sh rv) (hf : fX12_clause_134 x1 x2 x3 i rv = some (iR)) : aJ p l e R s m args below meth c (MQ below (aPost D cA ad0 A (sh, i0, lo0, rv0) none (sh, iR, lo, rv)) args s (sh.length - sh.length) (aSn sh - aSn sh) A) D cA A ad0 5 sh.length (aSn sh) 134 [some (.ref (100 + 50)), some (.int x1), some (.int x2), some (.int x3), none] [] (sh, i, lo, rv) := by
  unfold fX12_clause_134 at hf
  refine j_aload_n hX dX12_clause_134 rfl ?_
  refine j_getI (k := 11) hX kX12 (by decide) fk_X12_131 dX12_clause_135 (sh_50 hG) rfl ?_
  refine j_iconst hX dX12_clause_138 ic_m1 ?_
  refine j_icmp_ne (tgt := 161) hX dX12_clause_139 (by decide) (fun hc => ?_) (fun hc => ?_)
  · have hf := ifn hc hf
    cases hf
    exact j_vret hX hr hlk dX12_clause_161
  · have hf := ifp hc hf
    refine j_aload_n hX dX12_clause_142 rfl ?_
    refine j_getI (k := 17) hX kX12 (by decide) fk_X12_200 dX12_clause_143 (sh_50 hG) rfl ?_
    refine j_if_ne (tgt := 161) hX dX12_clause_146 (by decide) (fun hc => ?_) (fun hc => ?_)
    · have hf := ifn hc hf
      cases hf
      exact j_vret hX hr hlk dX12_clause_161
    · have hf := ifp hc hf
      refine j_iload_n hX dX12_clause_149 rfl ?_
      refine j_aload_n hX dX12_clause_150 rfl ?_
      refine j_getI (k := 13) hX kX12 (by decide) fk_X12_204 dX12_clause_151 (sh_50 hG) rfl ?_
      refine j_icmp_ne (tgt := 161) hX dX12_clause_154 (by decide) (fun hc => ?_) (fun hc => ?_)
      · have hf := ifn hc hf
        cases hf
        exact j_vret hX hr hlk dX12_clause_161
      · have hf := ifp hc hf
        refine j_iload_n hX dX12_clause_157 rfl ?_
        refine j_if_ne (tgt := 162) hX dX12_clause_158 (by decide) (fun hc => ?_) (fun hc => ?_)
        · have hf := ifn hc hf
          refine j_aload_n hX dX12_clause_162 rfl ?_
          refine j_iconst hX dX12_clause_163 ic_1 ?_
          have hf := ltd hf
          refine j_putI (k := 17) hX kX12 (by decide) fk_X12_200 dX12_clause_164 (sh_50 hG) rfl rfl rfl rfl ?_
          refine j_aload_n hX dX12_clause_167 rfl ?_
          refine j_iload_n hX dX12_clause_168 rfl ?_
          refine jpc (b := 169) rfl ?_
          have hf := ltd hf
          refine j_putI (k := 14) hX kX12 (by decide) fk_X12_207 dX12_clause_169 (sh_50 hG) rfl rfl rfl rfl ?_
          cases hf
          exact j_vret hX hr hlk dX12_clause_172
        · have hf := ifp hc hf
          cases hf
          exact j_vret hX hr hlk dX12_clause_161
def fX12_clause_64 (x1 : Int32) (i : Nat → Nat → Int32) (rv : Nat → Nat → Option Nat) : Option ((Nat → Nat → Int32)) := bn2 (fX12_condition (fX12_unit 12) 0 0 i rv) fun v33 i34 =>
    bn2 (fX12_takes 63 i34 rv) fun v36 i37 =>
    if v36 = 0 then (some (i37)) else (bn2 (fX12_sum 12 i37 rv) fun v39 i40 =>
    fX12_clause_134 x1 v33 v39 i40 rv)
theorem kX12_clause_64  {iR : Nat → Nat → Int32} (hX : aX p s m args c RX12 cX12_clause 5 D cA A ad0) (hr : meth.sig.returnType = none) (hlk : meth.locks = false) (hRf : 1144 ≤ R.frames) (hRl : 64 * 1144 ≤ R.locals) {x1 : Int32} (hG : aGood sh rv) (hf : fX12_clause_64 x1 i rv = some (iR)) : aJ p l e R s m args below meth c (MQ below (aPost D cA ad0 A (sh, i0, lo0, rv0) none (sh, iR, lo, rv)) args s (sh.length - sh.length) (aSn sh - aSn sh) A) D cA A ad0 5 sh.length (aSn sh) 64 [some (.ref (100 + 50)), some (.int x1), none, none, none] [] (sh, i, lo, rv) := by
  unfold fX12_clause_64 at hf
  refine j_aload_n hX dX12_clause_64 rfl ?_
  refine j_iconst hX dX12_clause_65 ic_0 ?_
  refine j_iconst hX dX12_clause_66 ic_0 ?_
  obtain ⟨v33, i34, hh35, hf⟩ := bd2 hf
  refine j_cV2i hX lk_X12_190 kX12 dX12_clause_67 (sh_50 hG) (okX12_condition (okX12_unit 12) hG hh35) rfl rfl (rmm (by omega) hRf hRl (by decide)) (Nat.le_of_ble_eq_true rfl) (Nat.le_add_right _ _) (Nat.le_add_right _ _) ?_
  refine j_istore_n hX dX12_clause_70 (by decide) rfl ?_
  refine jpc (b := 71) rfl ?_
  refine j_aload_n hX dX12_clause_71 rfl ?_
  refine j_bipush hX dX12_clause_72 bp_63 ?_
  obtain ⟨v36, i37, hh38, hf⟩ := bd2 hf
  refine j_cV1i hX lk_X12_167 kX12 dX12_clause_74 (sh_50 hG) (okX12_takes hG hh38) rfl rfl (rmm (by omega) hRf hRl (by decide)) (Nat.le_of_ble_eq_true rfl) (Nat.le_add_right _ _) (Nat.le_add_right _ _) ?_
  refine j_if_ne (tgt := 81) hX dX12_clause_77 (by decide) (fun hc => ?_) (fun hc => ?_)
  · have hf := ifn hc hf
    refine j_aload_n hX dX12_clause_81 rfl ?_
    obtain ⟨v39, i40, hh41, hf⟩ := bd2 hf
    refine j_cV0i hX lk_X12_164 kX12 dX12_clause_82 (sh_50 hG) (okX12_sum 12 hG hh41) rfl rfl (rmm (by omega) hRf hRl (by decide)) (Nat.le_of_ble_eq_true rfl) (Nat.le_add_right _ _) (Nat.le_add_right _ _) ?_
    refine j_istore_n hX dX12_clause_85 (by decide) rfl ?_
    refine j_goto (tgt := 134) hX dX12_clause_86 (by decide) ?_
    exact aJx (kX12_clause_134 hX hr hlk hRf hRl hG  hf) (And.intro rfl (And.intro rfl (And.intro rfl (And.intro rfl (rfl)))))
  · have hf := ifp hc hf
    cases hf
    exact j_vret hX hr hlk dX12_clause_80
def fX12_clause (i : Nat → Nat → Int32) (rv : Nat → Nat → Option Nat) : Option ((Nat → Nat → Int32)) := bn2 (fX12_look i rv) fun v1 i2 =>
    bn1 (fX12_isAmong 5 v1) fun v4 =>
    if v4 = 0 then (bn2 (fX12_fails i2) fun v30 i31 =>
    some (i31)) else (lt (u2 i2 50 10 ((i2 50 10) + (1 : Int32))) fun i6 =>
    bn2 (fX12_takes 58 i6 rv) fun v7 i8 =>
    if v7 = 0 then (some (i8)) else (bn2 (fX12_look i8 rv) fun v10 i11 =>
    if v10 = 33 then (fX12_clause_64 v1 i11 rv) else (if v10 = 40 then (fX12_clause_64 v1 i11 rv) else (bn2 (fX12_sum 12 i11 rv) fun v13 i14 =>
    if (i14 50 11) = (-1) then (bn2 (fX12_look i14 rv) fun v16 i17 =>
    bn1 (fX12_isSign v16) fun v19 =>
    if v19 = 0 then (fX12_clause_134 v1 1 v13 i17 rv) else (bn2 (fX12_condition (fX12_unit 12) 1 v13 i17 rv) fun v21 i22 =>
    bn2 (fX12_takes 63 i22 rv) fun v24 i25 =>
    if v24 = 0 then (some (i25)) else (bn2 (fX12_sum 12 i25 rv) fun v27 i28 =>
    fX12_clause_134 v1 v21 v27 i28 rv))) else (fX12_clause_134 v1 1 v13 i14 rv)))))
theorem kX12_clause  {iR : Nat → Nat → Int32} (hX : aX p s m args c RX12 cX12_clause 5 D cA A ad0) (hr : meth.sig.returnType = none) (hlk : meth.locks = false) (hRf : 1144 ≤ R.frames) (hRl : 64 * 1144 ≤ R.locals) (hG : aGood sh rv) (hf : fX12_clause i rv = some (iR)) : aJ p l e R s m args below meth c (MQ below (aPost D cA ad0 A (sh, i0, lo0, rv0) none (sh, iR, lo, rv)) args s (sh.length - sh.length) (aSn sh - aSn sh) A) D cA A ad0 5 sh.length (aSn sh) 0 [some (.ref (100 + 50)), none, none, none, none] [] (sh, i, lo, rv) := by
  unfold fX12_clause at hf
  refine j_aload_n hX dX12_clause_0 rfl ?_
  obtain ⟨v1, i2, hh3, hf⟩ := bd2 hf
  refine j_cV0i hX lk_X12_141 kX12 dX12_clause_1 (sh_50 hG) (okX12_look hG hh3) rfl rfl (rmm (by omega) hRf hRl (by decide)) (Nat.le_of_ble_eq_true rfl) (Nat.le_add_right _ _) (Nat.le_add_right _ _) ?_
  refine j_istore_n hX dX12_clause_4 (by decide) rfl ?_
  refine j_ldcS (j := 5) (tx := "y") hX (by decide) (by decide) dX12_clause_5 ?_
  refine j_iload_n hX dX12_clause_7 rfl ?_
  refine jpc (b := 8) rfl ?_
  obtain ⟨v4, hh5, hf⟩ := bd1 hf
  refine j_cS2i hX lk_X12_157 dX12_clause_8 (okX12_isAmong hG (by decide) hh5) rfl rfl (rmm (by omega) hRf hRl (by decide)) (Nat.le_of_ble_eq_true rfl) (Nat.le_add_right _ _) (Nat.le_add_right _ _) ?_
  refine j_if_ne (tgt := 20) hX dX12_clause_11 (by decide) (fun hc => ?_) (fun hc => ?_)
  · have hf := ifn hc hf
    refine j_aload_n hX dX12_clause_20 rfl ?_
    refine j_dup hX dX12_clause_21 rfl ?_
    refine j_getI (k := 10) hX kX12 (by decide) fk_X12_122 dX12_clause_22 (sh_50 hG) rfl ?_
    refine j_iconst hX dX12_clause_25 ic_1 ?_
    refine j_iadd hX dX12_clause_26 ?_
    refine jpc (b := 27) rfl ?_
    have hf := ltd hf
    refine j_putI (k := 10) hX kX12 (by decide) fk_X12_122 dX12_clause_27 (sh_50 hG) rfl rfl rfl rfl ?_
    refine j_aload_n hX dX12_clause_30 rfl ?_
    refine j_bipush hX dX12_clause_31 bp_58 ?_
    obtain ⟨v7, i8, hh9, hf⟩ := bd2 hf
    refine j_cV1i hX lk_X12_167 kX12 dX12_clause_33 (sh_50 hG) (okX12_takes hG hh9) rfl rfl (rmm (by omega) hRf hRl (by decide)) (Nat.le_of_ble_eq_true rfl) (Nat.le_add_right _ _) (Nat.le_add_right _ _) ?_
    refine j_if_ne (tgt := 40) hX dX12_clause_36 (by decide) (fun hc => ?_) (fun hc => ?_)
    · have hf := ifn hc hf
      refine j_iconst hX dX12_clause_40 ic_1 ?_
      refine j_istore_n hX dX12_clause_41 (by decide) rfl ?_
      refine j_iconst hX dX12_clause_42 ic_0 ?_
      refine j_istore_n hX dX12_clause_43 (by decide) rfl ?_
      refine j_aload_n hX dX12_clause_44 rfl ?_
      refine jpc (b := 45) rfl ?_
      obtain ⟨v10, i11, hh12, hf⟩ := bd2 hf
      refine j_cV0i hX lk_X12_141 kX12 dX12_clause_45 (sh_50 hG) (okX12_look hG hh12) rfl rfl (rmm (by omega) hRf hRl (by decide)) (Nat.le_of_ble_eq_true rfl) (Nat.le_add_right _ _) (Nat.le_add_right _ _) ?_
      refine j_istore hX dX12_clause_48 (by decide) rfl ?_
      refine j_iload hX dX12_clause_50 rfl ?_
      refine j_bipush hX dX12_clause_52 bp_33 ?_
      refine j_icmp_eq (tgt := 64) hX dX12_clause_54 (by decide) (fun hc => ?_) (fun hc => ?_)
      · have hf := ifp hc hf
        exact aJx (kX12_clause_64 hX hr hlk hRf hRl hG  hf) (And.intro rfl (And.intro rfl (rfl)))
      · have hf := ifn hc hf
        refine j_iload hX dX12_clause_57 rfl ?_
        refine j_bipush hX dX12_clause_59 bp_40 ?_
        refine j_icmp_ne (tgt := 89) hX dX12_clause_61 (by decide) (fun hc => ?_) (fun hc => ?_)
        · have hf := ifn hc hf
          refine j_aload_n hX dX12_clause_89 rfl ?_
          obtain ⟨v13, i14, hh15, hf⟩ := bd2 hf
          refine j_cV0i hX lk_X12_164 kX12 dX12_clause_90 (sh_50 hG) (okX12_sum 12 hG hh15) rfl rfl (rmm (by omega) hRf hRl (by decide)) (Nat.le_of_ble_eq_true rfl) (Nat.le_add_right _ _) (Nat.le_add_right _ _) ?_
          refine j_istore_n hX dX12_clause_93 (by decide) rfl ?_
          refine j_aload_n hX dX12_clause_94 rfl ?_
          refine j_getI (k := 11) hX kX12 (by decide) fk_X12_131 dX12_clause_95 (sh_50 hG) rfl ?_
          refine jpc (b := 98) rfl ?_
          refine j_iconst hX dX12_clause_98 ic_m1 ?_
          refine j_icmp_ne (tgt := 134) hX dX12_clause_99 (by decide) (fun hc => ?_) (fun hc => ?_)
          · have hf := ifn hc hf
            exact aJx (kX12_clause_134 hX hr hlk hRf hRl hG  hf) (And.intro rfl (And.intro rfl (And.intro rfl (And.intro rfl (rfl)))))
          · have hf := ifp hc hf
            refine j_aload_n hX dX12_clause_102 rfl ?_
            obtain ⟨v16, i17, hh18, hf⟩ := bd2 hf
            refine j_cV0i hX lk_X12_141 kX12 dX12_clause_103 (sh_50 hG) (okX12_look hG hh18) rfl rfl (rmm (by omega) hRf hRl (by decide)) (Nat.le_of_ble_eq_true rfl) (Nat.le_add_right _ _) (Nat.le_add_right _ _) ?_
            obtain ⟨v19, hh20, hf⟩ := bd1 hf
            refine j_cS1i hX lk_X12_184 dX12_clause_106 (okX12_isSign hG hh20) rfl rfl (rmm (by omega) hRf hRl (by decide)) (Nat.le_of_ble_eq_true rfl) (Nat.le_add_right _ _) (Nat.le_add_right _ _) ?_
            refine j_if_eq (tgt := 134) hX dX12_clause_109 (by decide) (fun hc => ?_) (fun hc => ?_)
            · have hf := ifp hc hf
              exact aJx (kX12_clause_134 hX hr hlk hRf hRl hG  hf) (And.intro rfl (And.intro rfl (And.intro rfl (And.intro rfl (rfl)))))
            · have hf := ifn hc hf
              refine j_aload_n hX dX12_clause_112 rfl ?_
              refine j_iconst hX dX12_clause_113 ic_1 ?_
              refine j_iload_n hX dX12_clause_114 rfl ?_
              obtain ⟨v21, i22, hh23, hf⟩ := bd2 hf
              refine j_cV2i hX lk_X12_190 kX12 dX12_clause_115 (sh_50 hG) (okX12_condition (okX12_unit 12) hG hh23) rfl rfl (rmm (by omega) hRf hRl (by decide)) (Nat.le_of_ble_eq_true rfl) (Nat.le_add_right _ _) (Nat.le_add_right _ _) ?_
              refine j_istore_n hX dX12_clause_118 (by decide) rfl ?_
              refine jpc (b := 119) rfl ?_
              refine j_aload_n hX dX12_clause_119 rfl ?_
              refine j_bipush hX dX12_clause_120 bp_63 ?_
              obtain ⟨v24, i25, hh26, hf⟩ := bd2 hf
              refine j_cV1i hX lk_X12_167 kX12 dX12_clause_122 (sh_50 hG) (okX12_takes hG hh26) rfl rfl (rmm (by omega) hRf hRl (by decide)) (Nat.le_of_ble_eq_true rfl) (Nat.le_add_right _ _) (Nat.le_add_right _ _) ?_
              refine j_if_ne (tgt := 129) hX dX12_clause_125 (by decide) (fun hc => ?_) (fun hc => ?_)
              · have hf := ifn hc hf
                refine j_aload_n hX dX12_clause_129 rfl ?_
                obtain ⟨v27, i28, hh29, hf⟩ := bd2 hf
                refine j_cV0i hX lk_X12_164 kX12 dX12_clause_130 (sh_50 hG) (okX12_sum 12 hG hh29) rfl rfl (rmm (by omega) hRf hRl (by decide)) (Nat.le_of_ble_eq_true rfl) (Nat.le_add_right _ _) (Nat.le_add_right _ _) ?_
                refine j_istore_n hX dX12_clause_133 (by decide) rfl ?_
                exact aJx (kX12_clause_134 hX hr hlk hRf hRl hG  hf) (And.intro rfl (And.intro rfl (And.intro rfl (And.intro rfl (rfl)))))
              · have hf := ifp hc hf
                cases hf
                exact j_vret hX hr hlk dX12_clause_128
        · have hf := ifp hc hf
          exact aJx (kX12_clause_64 hX hr hlk hRf hRl hG  hf) (And.intro rfl (And.intro rfl (rfl)))
    · have hf := ifp hc hf
      cases hf
      exact j_vret hX hr hlk dX12_clause_39
  · have hf := ifp hc hf
    refine j_aload_n hX dX12_clause_14 rfl ?_
    obtain ⟨v30, i31, hh32, hf⟩ := bd2 hf
    refine j_cV0i hX lk_X12_137 kX12 dX12_clause_15 (sh_50 hG) (okX12_fails hG hh32) rfl rfl (rmm (by omega) hRf hRl (by decide)) (Nat.le_of_ble_eq_true rfl) (Nat.le_add_right _ _) (Nat.le_add_right _ _) ?_
    refine j_pop hX dX12_clause_18 rfl ?_
    cases hf
    exact j_vret hX hr hlk dX12_clause_19
theorem okX12_clause {l : Launch} {sh : List aSh} {i : Nat → Nat → Int32} {lo : Nat → Nat → Int64} {rv : Nat → Nat → Option Nat}  {iR : Nat → Nat → Int32} (hG : aGood sh rv) (hf : fX12_clause i rv = some (iR)) : aM l yX12_clause cX12_clause 5 none 1144 [.ref (100 + 50)] (sh, i, lo, rv) none (sh, iR, lo, rv) :=
  aM_of (by decide) (Nat.le_of_ble_eq_true rfl) (Nat.le_refl _) (Nat.le_refl _) (fun p e s m args below meth c D cA A ad0 hX hr hlk hnm => kX12_clause hX hr hlk (Nat.le_refl _) (Nat.le_refl _) hG hf)
def fX12_starts (w1 : Nat) (a2 : Int32) (a3 : Int32) (i : Nat → Nat → Int32) (rv : Nat → Nat → Option Nat) : Option ((Nat → Nat → Int32) × (Nat → Nat → Option Nat)) := lt (u2 rv 50 5 (some (100 + w1))) fun rv1 =>
    lt (u2 i 50 8 a2) fun i2 =>
    lt (u2 i2 50 9 a3) fun i3 =>
    lt (u2 i3 50 10 0) fun i4 =>
    lt (u2 i4 50 11 (-1)) fun i5 =>
    some (i5, rv1)
theorem kX12_starts  {w1 : Nat} {iR : Nat → Nat → Int32} {rvR : Nat → Nat → Option Nat} (hX : aX p s m args c RX12 cX12_starts 4 D cA A ad0) (hr : meth.sig.returnType = none) (hlk : meth.locks = false) (hRf : 0 ≤ R.frames) (hRl : 64 * 0 ≤ R.locals) (h1 : w1 = 51 ∨ w1 = 52) {a2 : Int32} {a3 : Int32} (hG : aGood sh rv) (hf : fX12_starts w1 a2 a3 i rv = some (iR, rvR)) : aJ p l e R s m args below meth c (MQ below (aPost D cA ad0 A (sh, i0, lo0, rv0) none (sh, iR, lo, rvR)) args s (sh.length - sh.length) (aSn sh - aSn sh) A) D cA A ad0 4 sh.length (aSn sh) 0 [some (.ref (100 + 50)), some (.ref (100 + w1)), some (.int a2), some (.int a3)] [] (sh, i, lo, rv) := by
  unfold fX12_starts at hf
  refine j_aload_n hX dX12_starts_0 rfl ?_
  refine j_aload_n hX dX12_starts_1 rfl ?_
  have hf := ltd hf
  refine j_putR (k := 5) hX kX12 (by decide) fk_X12_23 (gB_50_5 hG h1) dX12_starts_2 (sh_50 hG) rfl rfl ?_
  have hG := gP_50_5 hG h1
  refine j_aload_n hX dX12_starts_5 rfl ?_
  refine j_iload_n hX dX12_starts_6 rfl ?_
  refine jpc (b := 7) rfl ?_
  have hf := ltd hf
  refine j_putI (k := 8) hX kX12 (by decide) fk_X12_128 dX12_starts_7 (sh_50 hG) rfl rfl rfl rfl ?_
  refine j_aload_n hX dX12_starts_10 rfl ?_
  refine j_iload_n hX dX12_starts_11 rfl ?_
  have hf := ltd hf
  refine j_putI (k := 9) hX kX12 (by decide) fk_X12_125 dX12_starts_12 (sh_50 hG) rfl rfl rfl rfl ?_
  refine j_aload_n hX dX12_starts_15 rfl ?_
  refine j_iconst hX dX12_starts_16 ic_0 ?_
  refine jpc (b := 17) rfl ?_
  have hf := ltd hf
  refine j_putI (k := 10) hX kX12 (by decide) fk_X12_122 dX12_starts_17 (sh_50 hG) rfl rfl rfl rfl ?_
  refine j_aload_n hX dX12_starts_20 rfl ?_
  refine j_iconst hX dX12_starts_21 ic_m1 ?_
  have hf := ltd hf
  refine j_putI (k := 11) hX kX12 (by decide) fk_X12_131 dX12_starts_22 (sh_50 hG) rfl rfl rfl rfl ?_
  cases hf
  exact j_vret hX hr hlk dX12_starts_25
theorem gdX12_starts {w1 : Nat} {iR : Nat → Nat → Int32} {rvR : Nat → Nat → Option Nat} {a2 : Int32} {a3 : Int32} (hG : aGood sh rv) (h1 : w1 = 51 ∨ w1 = 52) (hf : fX12_starts w1 a2 a3 i rv = some (iR, rvR)) : aGood sh rvR := by
  unfold fX12_starts at hf
  have hf := ltd hf
  have hG := gP_50_5 hG h1
  have hf := ltd hf
  have hf := ltd hf
  have hf := ltd hf
  have hf := ltd hf
  cases hf
  exact hG
theorem okX12_starts {l : Launch} {sh : List aSh} {i : Nat → Nat → Int32} {lo : Nat → Nat → Int64} {rv : Nat → Nat → Option Nat}  {w1 : Nat} {a2 : Int32} {a3 : Int32} {iR : Nat → Nat → Int32} {rvR : Nat → Nat → Option Nat} (hG : aGood sh rv) (h1 : w1 = 51 ∨ w1 = 52) (hf : fX12_starts w1 a2 a3 i rv = some (iR, rvR)) : aM l yX12_starts cX12_starts 4 none 0 [.ref (100 + 50), .ref (100 + w1), .int a2, .int a3] (sh, i, lo, rv) none (sh, iR, lo, rvR) :=
  aM_of (by decide) (Nat.le_of_ble_eq_true rfl) (Nat.le_refl _) (Nat.le_refl _) (fun p e s m args below meth c D cA A ad0 hX hr hlk hnm => kX12_starts hX hr hlk (Nat.le_refl _) (Nat.le_refl _) h1 hG hf)
def fX12_goThrough_66 (w1 : Nat) (i : Nat → Nat → Int32) (rv : Nat → Nat → Option Nat) : Option ((Nat → Nat → Int32) × (Nat → Nat → Option Nat)) := if (i 50 11) = (-1) then (bn2 (fX12_look i rv) fun v16 i17 =>
    if v16 = (-1) then (some (i17, rv)) else (bn2 (fX12_fails i17) fun v19 i20 =>
    some (i20, rv))) else (some (i, rv))
theorem kX12_goThrough_66  {w1 : Nat} {iR : Nat → Nat → Int32} {rvR : Nat → Nat → Option Nat} (hX : aX p s m args c RX12 cX12_goThrough 4 D cA A ad0) (hr : meth.sig.returnType = none) (hlk : meth.locks = false) (hRf : 1145 ≤ R.frames) (hRl : 64 * 1145 ≤ R.locals) (h1 : w1 = 51 ∨ w1 = 52) (hG : aGood sh rv) (hf : fX12_goThrough_66 w1 i rv = some (iR, rvR)) : aJ p l e R s m args below meth c (MQ below (aPost D cA ad0 A (sh, i0, lo0, rv0) none (sh, iR, lo, rvR)) args s (sh.length - sh.length) (aSn sh - aSn sh) A) D cA A ad0 4 sh.length (aSn sh) 66 [some (.ref (100 + 50)), none, none, none] [] (sh, i, lo, rv) := by
  unfold fX12_goThrough_66 at hf
  refine j_aload_n hX dX12_goThrough_66 rfl ?_
  refine j_getI (k := 11) hX kX12 (by decide) fk_X12_131 dX12_goThrough_67 (sh_50 hG) rfl ?_
  refine j_iconst hX dX12_goThrough_70 ic_m1 ?_
  refine j_icmp_ne (tgt := 87) hX dX12_goThrough_71 (by decide) (fun hc => ?_) (fun hc => ?_)
  · have hf := ifn hc hf
    cases hf
    exact j_vret hX hr hlk dX12_goThrough_87
  · have hf := ifp hc hf
    refine j_aload_n hX dX12_goThrough_74 rfl ?_
    obtain ⟨v16, i17, hh18, hf⟩ := bd2 hf
    refine j_cV0i hX lk_X12_141 kX12 dX12_goThrough_75 (sh_50 hG) (okX12_look hG hh18) rfl rfl (rmm (by omega) hRf hRl (by decide)) (Nat.le_of_ble_eq_true rfl) (Nat.le_add_right _ _) (Nat.le_add_right _ _) ?_
    refine j_iconst hX dX12_goThrough_78 ic_m1 ?_
    refine j_icmp_eq (tgt := 87) hX dX12_goThrough_79 (by decide) (fun hc => ?_) (fun hc => ?_)
    · have hf := ifp hc hf
      cases hf
      exact j_vret hX hr hlk dX12_goThrough_87
    · have hf := ifn hc hf
      refine j_aload_n hX dX12_goThrough_82 rfl ?_
      obtain ⟨v19, i20, hh21, hf⟩ := bd2 hf
      refine j_cV0i hX lk_X12_137 kX12 dX12_goThrough_83 (sh_50 hG) (okX12_fails hG hh21) rfl rfl (rmm (by omega) hRf hRl (by decide)) (Nat.le_of_ble_eq_true rfl) (Nat.le_add_right _ _) (Nat.le_add_right _ _) ?_
      refine j_pop hX dX12_goThrough_86 rfl ?_
      cases hf
      exact j_vret hX hr hlk dX12_goThrough_87
theorem gX12_goThrough_66 {w1 : Nat} {iR : Nat → Nat → Int32} {rvR : Nat → Nat → Option Nat} (h1 : w1 = 51 ∨ w1 = 52) (hG : aGood sh rv) (hf : fX12_goThrough_66 w1 i rv = some (iR, rvR)) : aGood sh rvR := by
  unfold fX12_goThrough_66 at hf
  refine ifs2 hf (fun hc hf => ?_) (fun hc hf => ?_)
  · have hf := hf
    cases hf
    exact hG
  · have hf := hf
    obtain ⟨v16, i17, hh18, hf⟩ := bd2 hf
    refine ifs hf (fun hc hf => ?_) (fun hc hf => ?_)
    · have hf := hf
      cases hf
      exact hG
    · have hf := hf
      obtain ⟨v19, i20, hh21, hf⟩ := bd2 hf
      cases hf
      exact hG
def fX12_goThrough_32 (w1 : Nat) : Nat → (Nat → Nat → Int32) → (Nat → Nat → Option Nat) → Option ((Nat → Nat → Int32) × (Nat → Nat → Option Nat))
  | 0, _, _ => none
  | n + 1, i, rv => if (i 50 11) = (-1) then (bn2 (fX12_look i rv) fun v10 i11 =>
    if v10 = 59 then (lt (u2 i11 50 10 ((i11 50 10) + (1 : Int32))) fun i13 =>
    bn1 (fX12_clause i13 rv) fun i14 =>
    fX12_goThrough_32 w1 n i14 rv) else (fX12_goThrough_66 w1 i11 rv)) else (fX12_goThrough_66 w1 i rv)
theorem kX12_goThrough_32  {w1 : Nat} {iR : Nat → Nat → Int32} {rvR : Nat → Nat → Option Nat} (hX : aX p s m args c RX12 cX12_goThrough 4 D cA A ad0) (hr : meth.sig.returnType = none) (hlk : meth.locks = false) (hRf : 1145 ≤ R.frames) (hRl : 64 * 1145 ≤ R.locals) (h1 : w1 = 51 ∨ w1 = 52) : ∀ (n : Nat) (i : Nat → Nat → Int32) (rv : Nat → Nat → Option Nat), aGood sh rv → fX12_goThrough_32 w1 n i rv = some (iR, rvR) → aJ p l e R s m args below meth c (MQ below (aPost D cA ad0 A (sh, i0, lo0, rv0) none (sh, iR, lo, rvR)) args s (sh.length - sh.length) (aSn sh - aSn sh) A) D cA A ad0 4 sh.length (aSn sh) 32 [some (.ref (100 + 50)), none, none, none] [] (sh, i, lo, rv) := by
  intro n
  induction n with
  | zero => intros; rename_i hf; cases hf
  | succ n ih =>
    intro i rv hG hf
    rw [fX12_goThrough_32] at hf
    refine j_aload_n hX dX12_goThrough_32 rfl ?_
    refine j_getI (k := 11) hX kX12 (by decide) fk_X12_131 dX12_goThrough_33 (sh_50 hG) rfl ?_
    refine j_iconst hX dX12_goThrough_36 ic_m1 ?_
    refine j_icmp_ne (tgt := 66) hX dX12_goThrough_37 (by decide) (fun hc => ?_) (fun hc => ?_)
    · have hf := ifn hc hf
      exact aJx (kX12_goThrough_66 hX hr hlk hRf hRl h1 hG  hf) (And.intro rfl (rfl))
    · have hf := ifp hc hf
      refine j_aload_n hX dX12_goThrough_40 rfl ?_
      obtain ⟨v10, i11, hh12, hf⟩ := bd2 hf
      refine j_cV0i hX lk_X12_141 kX12 dX12_goThrough_41 (sh_50 hG) (okX12_look hG hh12) rfl rfl (rmm (by omega) hRf hRl (by decide)) (Nat.le_of_ble_eq_true rfl) (Nat.le_add_right _ _) (Nat.le_add_right _ _) ?_
      refine j_bipush hX dX12_goThrough_44 bp_59 ?_
      refine j_icmp_ne (tgt := 66) hX dX12_goThrough_46 (by decide) (fun hc => ?_) (fun hc => ?_)
      · have hf := ifn hc hf
        exact aJx (kX12_goThrough_66 hX hr hlk hRf hRl h1 hG  hf) (And.intro rfl (rfl))
      · have hf := ifp hc hf
        refine j_aload_n hX dX12_goThrough_49 rfl ?_
        refine j_dup hX dX12_goThrough_50 rfl ?_
        refine j_getI (k := 10) hX kX12 (by decide) fk_X12_122 dX12_goThrough_51 (sh_50 hG) rfl ?_
        refine j_iconst hX dX12_goThrough_54 ic_1 ?_
        refine j_iadd hX dX12_goThrough_55 ?_
        refine jpc (b := 56) rfl ?_
        have hf := ltd hf
        refine j_putI (k := 10) hX kX12 (by decide) fk_X12_122 dX12_goThrough_56 (sh_50 hG) rfl rfl rfl rfl ?_
        refine j_aload_n hX dX12_goThrough_59 rfl ?_
        obtain ⟨i14, hh15, hf⟩ := bd1 hf
        refine j_cV0v hX lk_X12_214 kX12 dX12_goThrough_60 (sh_50 hG) (okX12_clause hG hh15) rfl rfl (rmm (by omega) hRf hRl (by decide)) (Nat.le_of_ble_eq_true rfl) (Nat.le_add_right _ _) (Nat.le_add_right _ _) ?_
        refine j_goto (tgt := 32) hX dX12_goThrough_63 (by decide) ?_
        exact aJx (ih _ _ hG  hf) (And.intro rfl (rfl))
theorem gX12_goThrough_32 {w1 : Nat} {iR : Nat → Nat → Int32} {rvR : Nat → Nat → Option Nat} (h1 : w1 = 51 ∨ w1 = 52) : ∀ (n : Nat) (i : Nat → Nat → Int32) (rv : Nat → Nat → Option Nat), aGood sh rv → fX12_goThrough_32 w1 n i rv = some (iR, rvR) → aGood sh rvR := by
  intro n
  induction n with
  | zero => intros; rename_i hf; cases hf
  | succ n ih =>
    intro i rv hG hf
    rw [fX12_goThrough_32] at hf
    refine ifs2 hf (fun hc hf => ?_) (fun hc hf => ?_)
    · have hf := hf
      exact gX12_goThrough_66 h1 hG  hf
    · have hf := hf
      obtain ⟨v10, i11, hh12, hf⟩ := bd2 hf
      refine ifs2 hf (fun hc hf => ?_) (fun hc hf => ?_)
      · have hf := hf
        exact gX12_goThrough_66 h1 hG  hf
      · have hf := hf
        have hf := ltd hf
        obtain ⟨i14, hh15, hf⟩ := bd1 hf
        exact ih _ _ hG  hf
def fX12_goThrough (w1 : Nat) (a2 : Int32) (a3 : Int32) (i : Nat → Nat → Int32) (rv : Nat → Nat → Option Nat) : Option ((Nat → Nat → Int32) × (Nat → Nat → Option Nat)) := bn2 (fX12_starts w1 a2 a3 i rv) fun i1 rv2 =>
    lt (u2 i1 50 13 121) fun i4 =>
    lt (u2 i4 50 12 0) fun i5 =>
    lt (u2 i5 50 17 0) fun i6 =>
    lt (u2 i6 50 14 0) fun i7 =>
    bn1 (fX12_clause i7 rv2) fun i8 =>
    fX12_goThrough_32 w1 fuel i8 rv2
theorem kX12_goThrough  {w1 : Nat} {iR : Nat → Nat → Int32} {rvR : Nat → Nat → Option Nat} (hX : aX p s m args c RX12 cX12_goThrough 4 D cA A ad0) (hr : meth.sig.returnType = none) (hlk : meth.locks = false) (hRf : 1145 ≤ R.frames) (hRl : 64 * 1145 ≤ R.locals) (h1 : w1 = 51 ∨ w1 = 52) {a2 : Int32} {a3 : Int32} (hG : aGood sh rv) (hf : fX12_goThrough w1 a2 a3 i rv = some (iR, rvR)) : aJ p l e R s m args below meth c (MQ below (aPost D cA ad0 A (sh, i0, lo0, rv0) none (sh, iR, lo, rvR)) args s (sh.length - sh.length) (aSn sh - aSn sh) A) D cA A ad0 4 sh.length (aSn sh) 0 [some (.ref (100 + 50)), some (.ref (100 + w1)), some (.int a2), some (.int a3)] [] (sh, i, lo, rv) := by
  unfold fX12_goThrough at hf
  refine j_aload_n hX dX12_goThrough_0 rfl ?_
  refine j_aload_n hX dX12_goThrough_1 rfl ?_
  refine j_iload_n hX dX12_goThrough_2 rfl ?_
  refine j_iload_n hX dX12_goThrough_3 rfl ?_
  obtain ⟨i1, rv2, hh3, hf⟩ := bd2 hf
  refine j_cV3v hX lk_X12_210 kX12 dX12_goThrough_4 (sh_50 hG) (okX12_starts hG h1 hh3) rfl rfl (rmm (by omega) hRf hRl (by decide)) (Nat.le_of_ble_eq_true rfl) (Nat.le_add_right _ _) (Nat.le_add_right _ _) ?_
  have hG := gdX12_starts hG h1 hh3
  refine jpc (b := 7) rfl ?_
  refine j_aload_n hX dX12_goThrough_7 rfl ?_
  refine j_bipush hX dX12_goThrough_8 bp_121 ?_
  have hf := ltd hf
  refine j_putI (k := 13) hX kX12 (by decide) fk_X12_204 dX12_goThrough_10 (sh_50 hG) rfl rfl rfl rfl ?_
  refine j_aload_n hX dX12_goThrough_13 rfl ?_
  refine j_iconst hX dX12_goThrough_14 ic_0 ?_
  have hf := ltd hf
  refine j_putI (k := 12) hX kX12 (by decide) fk_X12_134 dX12_goThrough_15 (sh_50 hG) rfl rfl rfl rfl ?_
  refine jpc (b := 18) rfl ?_
  refine j_aload_n hX dX12_goThrough_18 rfl ?_
  refine j_iconst hX dX12_goThrough_19 ic_0 ?_
  have hf := ltd hf
  refine j_putI (k := 17) hX kX12 (by decide) fk_X12_200 dX12_goThrough_20 (sh_50 hG) rfl rfl rfl rfl ?_
  refine j_aload_n hX dX12_goThrough_23 rfl ?_
  refine j_iconst hX dX12_goThrough_24 ic_0 ?_
  have hf := ltd hf
  refine j_putI (k := 14) hX kX12 (by decide) fk_X12_207 dX12_goThrough_25 (sh_50 hG) rfl rfl rfl rfl ?_
  refine jpc (b := 28) rfl ?_
  refine j_aload_n hX dX12_goThrough_28 rfl ?_
  obtain ⟨i8, hh9, hf⟩ := bd1 hf
  refine j_cV0v hX lk_X12_214 kX12 dX12_goThrough_29 (sh_50 hG) (okX12_clause hG hh9) rfl rfl (rmm (by omega) hRf hRl (by decide)) (Nat.le_of_ble_eq_true rfl) (Nat.le_add_right _ _) (Nat.le_add_right _ _) ?_
  exact aJx (kX12_goThrough_32 hX hr hlk hRf hRl h1 fuel _ _ hG  hf) (And.intro rfl (rfl))
theorem gdX12_goThrough {w1 : Nat} {iR : Nat → Nat → Int32} {rvR : Nat → Nat → Option Nat} {a2 : Int32} {a3 : Int32} (hG : aGood sh rv) (h1 : w1 = 51 ∨ w1 = 52) (hf : fX12_goThrough w1 a2 a3 i rv = some (iR, rvR)) : aGood sh rvR := by
  unfold fX12_goThrough at hf
  obtain ⟨i1, rv2, hh3, hf⟩ := bd2 hf
  have hG := gdX12_starts hG h1 hh3
  have hf := ltd hf
  have hf := ltd hf
  have hf := ltd hf
  have hf := ltd hf
  obtain ⟨i8, hh9, hf⟩ := bd1 hf
  exact gX12_goThrough_32 h1 fuel _ _ hG  hf
theorem okX12_goThrough {l : Launch} {sh : List aSh} {i : Nat → Nat → Int32} {lo : Nat → Nat → Int64} {rv : Nat → Nat → Option Nat}  {w1 : Nat} {a2 : Int32} {a3 : Int32} {iR : Nat → Nat → Int32} {rvR : Nat → Nat → Option Nat} (hG : aGood sh rv) (h1 : w1 = 51 ∨ w1 = 52) (hf : fX12_goThrough w1 a2 a3 i rv = some (iR, rvR)) : aM l yX12_goThrough cX12_goThrough 4 none 1145 [.ref (100 + 50), .ref (100 + w1), .int a2, .int a3] (sh, i, lo, rv) none (sh, iR, lo, rvR) :=
  aM_of (by decide) (Nat.le_of_ble_eq_true rfl) (Nat.le_refl _) (Nat.le_refl _) (fun p e s m args below meth c D cA A ad0 hX hr hlk hnm => kX12_goThrough hX hr hlk (Nat.le_refl _) (Nat.le_refl _) h1 hG hf)
def fX12_here (i : Nat → Nat → Int32) (rv : Nat → Nat → Option Nat) : Option ((Int32)) := if (i 50 9) ≤ (i 50 10) then (some ((-1))) else (if aIn ((i 50 8) + (i 50 10)) (bLen (plc (rv 50 5))) = true then
    (some (((i (plc (rv 50 5)) (((i 50 8) + (i 50 10)) : Int32).toNatClampNeg) &&& (255 : Int32)))) else none)
theorem kX12_here  {vR : Int32} (hX : aX p s m args c RX12 cX12_here 1 D cA A ad0) (hr : meth.sig.returnType = (some .int)) (hlk : meth.locks = false) (hRf : 0 ≤ R.frames) (hRl : 64 * 0 ≤ R.locals) (hG : aGood sh rv) (hf : fX12_here i rv = some (vR)) : aJ p l e R s m args below meth c (MQ below (aPost D cA ad0 A (sh, i0, lo0, rv0) (some (.int vR)) (sh, i, lo, rv)) args s (sh.length - sh.length) (aSn sh - aSn sh) A) D cA A ad0 1 sh.length (aSn sh) 0 [some (.ref (100 + 50))] [] (sh, i, lo, rv) := by
  unfold fX12_here at hf
  refine j_aload_n hX dX12_here_0 rfl ?_
  refine j_getI (k := 10) hX kX12 (by decide) fk_X12_122 dX12_here_1 (sh_50 hG) rfl ?_
  refine j_aload_n hX dX12_here_4 rfl ?_
  refine j_getI (k := 9) hX kX12 (by decide) fk_X12_125 dX12_here_5 (sh_50 hG) rfl ?_
  refine j_icmp_ge (tgt := 32) hX dX12_here_8 (by decide) (fun hc => ?_) (fun hc => ?_)
  · have hf := ifp hc hf
    refine j_iconst hX dX12_here_32 ic_m1 ?_
    cases hf
    exact j_ret hX hr hlk rfl dX12_here_33
  · have hf := ifn hc hf
    refine j_aload_n hX dX12_here_11 rfl ?_
    refine j_getR (k := 5) hX kX12 (by decide) fk_X12_23 (tx_rf hG) dX12_here_12 (sh_50 hG) rfl ?_
    refine j_aload_n hX dX12_here_15 rfl ?_
    refine j_getI (k := 8) hX kX12 (by decide) fk_X12_128 dX12_here_16 (sh_50 hG) rfl ?_
    refine j_aload_n hX dX12_here_19 rfl ?_
    refine jpc (b := 20) rfl ?_
    refine j_getI (k := 10) hX kX12 (by decide) fk_X12_122 dX12_here_20 (sh_50 hG) rfl ?_
    refine j_iadd hX dX12_here_23 ?_
    obtain ⟨hg, hf⟩ := gd hf
    refine j_bald hX (tx_sh hG) hg dX12_here_24 ?_
    refine j_sipush hX dX12_here_25 sp_255 ?_
    refine j_iand hX dX12_here_28 ?_
    refine j_goto (tgt := 33) hX dX12_here_29 (by decide) ?_
    cases hf
    exact j_ret hX hr hlk rfl dX12_here_33
theorem okX12_here {l : Launch} {sh : List aSh} {i : Nat → Nat → Int32} {lo : Nat → Nat → Int64} {rv : Nat → Nat → Option Nat}  {vR : Int32} (hG : aGood sh rv) (hf : fX12_here i rv = some (vR)) : aM l yX12_here cX12_here 1 (some .int) 0 [.ref (100 + 50)] (sh, i, lo, rv) (some (.int vR)) (sh, i, lo, rv) :=
  aM_of (by decide) (Nat.le_of_ble_eq_true rfl) (Nat.le_refl _) (Nat.le_refl _) (fun p e s m args below meth c D cA A ad0 hX hr hlk hnm => kX12_here hX hr hlk (Nat.le_refl _) (Nat.le_refl _) hG hf)
def fX12_spotOf_2 (j0 : Nat) : Nat → Int32 → Int32 → Option ((Int32))
  | 0, _, _ => none
  | n + 1, x1, x2 => bn1 (fJ0_length_8abf5 j0) fun v1 =>
    if v1 ≤ x2 then (some ((-1))) else (bn1 (fJ0_charAt_5068e j0 x2) fun v3 =>
    if v3 = x1 then (some (x2)) else (fX12_spotOf_2 j0 n x1 (x2 + 1)))
theorem kX12_spotOf_2  {j0 : Nat} {vR : Int32} (hX : aX p s m args c RX12 cX12_spotOf 3 D cA A ad0) (hr : meth.sig.returnType = (some .int)) (hlk : meth.locks = false) (hRf : 4 ≤ R.frames) (hRl : 64 * 4 ≤ R.locals) (h0 : j0 < 8) : ∀ (n : Nat) (x1 : Int32) (x2 : Int32), aGood sh rv → fX12_spotOf_2 j0 n x1 x2 = some (vR) → aJ p l e R s m args below meth c (MQ below (aPost D cA ad0 A (sh, i0, lo0, rv0) (some (.int vR)) (sh, i, lo, rv)) args s (sh.length - sh.length) (aSn sh - aSn sh) A) D cA A ad0 3 sh.length (aSn sh) 2 [some (.ref (10 + j0)), some (.int x1), some (.int x2)] [] (sh, i, lo, rv) := by
  intro n
  induction n with
  | zero => intros; rename_i hf; cases hf
  | succ n ih =>
    intro x1 x2 hG hf
    rw [fX12_spotOf_2] at hf
    refine j_iload_n hX dX12_spotOf_2 rfl ?_
    refine j_aload_n hX dX12_spotOf_3 rfl ?_
    obtain ⟨v1, hh2, hf⟩ := bd1 hf
    refine j_cT0i hX lk_X12_102 rfl h0 dX12_spotOf_4 (okJ0_length_8abf5 hG h0 hh2) (rmm (by omega) hRf hRl (by decide)) (Nat.le_of_ble_eq_true rfl) (Nat.le_add_right _ _) (Nat.le_add_right _ _) ?_
    refine j_icmp_ge (tgt := 27) hX dX12_spotOf_7 (by decide) (fun hc => ?_) (fun hc => ?_)
    · have hf := ifp hc hf
      refine j_iconst hX dX12_spotOf_27 ic_m1 ?_
      cases hf
      exact j_ret hX hr hlk rfl dX12_spotOf_28
    · have hf := ifn hc hf
      refine j_aload_n hX dX12_spotOf_10 rfl ?_
      refine j_iload_n hX dX12_spotOf_11 rfl ?_
      obtain ⟨v3, hh4, hf⟩ := bd1 hf
      refine j_cT1i hX lk_X12_108 rfl h0 dX12_spotOf_12 (okJ0_charAt_5068e hG h0 hh4) (rmm (by omega) hRf hRl (by decide)) (Nat.le_of_ble_eq_true rfl) (Nat.le_add_right _ _) (Nat.le_add_right _ _) ?_
      refine j_iload_n hX dX12_spotOf_15 rfl ?_
      refine j_icmp_ne (tgt := 21) hX dX12_spotOf_16 (by decide) (fun hc => ?_) (fun hc => ?_)
      · have hf := ifn hc hf
        refine j_iinc hX dX12_spotOf_21 rfl (congrArg (_ + ·) ic_1) (by decide) rfl ?_
        refine j_goto (tgt := 2) hX dX12_spotOf_24 (by decide) ?_
        exact aJx (ih _ _ hG  hf) (And.intro rfl (And.intro rfl (And.intro rfl (rfl))))
      · have hf := ifp hc hf
        refine j_iload_n hX dX12_spotOf_19 rfl ?_
        cases hf
        exact j_ret hX hr hlk rfl dX12_spotOf_20
def fX12_spotOf (j0 : Nat) (a1 : Int32) : Option ((Int32)) := fX12_spotOf_2 j0 fuel a1 0
theorem kX12_spotOf  {j0 : Nat} {vR : Int32} (hX : aX p s m args c RX12 cX12_spotOf 3 D cA A ad0) (hr : meth.sig.returnType = (some .int)) (hlk : meth.locks = false) (hRf : 4 ≤ R.frames) (hRl : 64 * 4 ≤ R.locals) (h0 : j0 < 8) {a1 : Int32} (hG : aGood sh rv) (hf : fX12_spotOf j0 a1 = some (vR)) : aJ p l e R s m args below meth c (MQ below (aPost D cA ad0 A (sh, i0, lo0, rv0) (some (.int vR)) (sh, i, lo, rv)) args s (sh.length - sh.length) (aSn sh - aSn sh) A) D cA A ad0 3 sh.length (aSn sh) 0 [some (.ref (10 + j0)), some (.int a1), none] [] (sh, i, lo, rv) := by
  unfold fX12_spotOf at hf
  refine j_iconst hX dX12_spotOf_0 ic_0 ?_
  refine j_istore_n hX dX12_spotOf_1 (by decide) rfl ?_
  exact aJx (kX12_spotOf_2 hX hr hlk hRf hRl h0 fuel _ _ hG  hf) (And.intro rfl (And.intro rfl (And.intro rfl (rfl))))
theorem okX12_spotOf {l : Launch} {sh : List aSh} {i : Nat → Nat → Int32} {lo : Nat → Nat → Int64} {rv : Nat → Nat → Option Nat}  {j0 : Nat} {a1 : Int32} {vR : Int32} (hG : aGood sh rv) (h0 : j0 < 8) (hf : fX12_spotOf j0 a1 = some (vR)) : aM l yX12_spotOf cX12_spotOf 3 (some .int) 4 [.ref (10 + j0), .int a1] (sh, i, lo, rv) (some (.int vR)) (sh, i, lo, rv) :=
  aM_of (by decide) (Nat.le_of_ble_eq_true rfl) (Nat.le_refl _) (Nat.le_refl _) (fun p e s m args below meth c D cA A ad0 hX hr hlk hnm => kX12_spotOf hX hr hlk (Nat.le_refl _) (Nat.le_refl _) h0 hG hf)
def fX12_number_67 (x1 : Int32) (x2 : Int32) (x4 : Int32) (i : Nat → Nat → Int32) (rv : Nat → Nat → Option Nat) : Option ((Int32) × (Nat → Nat → Int32)) := bn1 (fX12_isDigit i rv) fun v16 =>
    if v16 = 0 then (bn1 (fX12_isIn (x4 : Int32).toInt64 (x1 : Int32).toInt64 (x2 : Int32).toInt64) fun v18 =>
    if v18 = 0 then (lt (u2 i 50 10 ((i 50 10) - (1 : Int32))) fun i20 =>
    bn2 (fX12_fails i20) fun v21 i22 =>
    some (x4, i22)) else (some (x4, i))) else (bn2 (fX12_fails i) fun v24 i25 =>
    some (0, i25))
theorem kX12_number_67  {vR : Int32} {iR : Nat → Nat → Int32} (hX : aX p s m args c RX12 cX12_number 5 D cA A ad0) (hr : meth.sig.returnType = (some .int)) (hlk : meth.locks = false) (hRf : 1 ≤ R.frames) (hRl : 64 * 1 ≤ R.locals) {x1 : Int32} {x2 : Int32} {x4 : Int32} (hG : aGood sh rv) (hf : fX12_number_67 x1 x2 x4 i rv = some (vR, iR)) : aJ p l e R s m args below meth c (MQ below (aPost D cA ad0 A (sh, i0, lo0, rv0) (some (.int vR)) (sh, iR, lo, rv)) args s (sh.length - sh.length) (aSn sh - aSn sh) A) D cA A ad0 5 sh.length (aSn sh) 67 [some (.ref (100 + 50)), some (.int x1), some (.int x2), none, some (.int x4)] [] (sh, i, lo, rv) := by
  unfold fX12_number_67 at hf
  refine j_aload_n hX dX12_number_67 rfl ?_
  obtain ⟨v16, hh17, hf⟩ := bd1 hf
  refine j_cV0i hX lk_X12_171 kX12 dX12_number_68 (sh_50 hG) (okX12_isDigit hG hh17) rfl rfl (rmm (by omega) hRf hRl (by decide)) (Nat.le_of_ble_eq_true rfl) (Nat.le_add_right _ _) (Nat.le_add_right _ _) ?_
  refine j_if_eq (tgt := 81) hX dX12_number_71 (by decide) (fun hc => ?_) (fun hc => ?_)
  · have hf := ifp hc hf
    refine j_iload hX dX12_number_81 rfl ?_
    refine j_i2l hX dX12_number_83 ?_
    refine j_iload_n hX dX12_number_84 rfl ?_
    refine j_i2l hX dX12_number_85 ?_
    refine j_iload_n hX dX12_number_86 rfl ?_
    refine jpc (b := 87) rfl ?_
    refine j_i2l hX dX12_number_87 ?_
    obtain ⟨v18, hh19, hf⟩ := bd1 hf
    refine j_cS3i hX lk_X12_220 dX12_number_88 (okX12_isIn hG hh19) rfl rfl (rmm (by omega) hRf hRl (by decide)) (Nat.le_of_ble_eq_true rfl) (Nat.le_add_right _ _) (Nat.le_add_right _ _) ?_
    refine j_if_ne (tgt := 109) hX dX12_number_91 (by decide) (fun hc => ?_) (fun hc => ?_)
    · have hf := ifn hc hf
      refine j_iload hX dX12_number_109 rfl ?_
      cases hf
      exact j_ret hX hr hlk rfl dX12_number_111
    · have hf := ifp hc hf
      refine j_aload_n hX dX12_number_94 rfl ?_
      refine j_dup hX dX12_number_95 rfl ?_
      refine j_getI (k := 10) hX kX12 (by decide) fk_X12_122 dX12_number_96 (sh_50 hG) rfl ?_
      refine j_iconst hX dX12_number_99 ic_1 ?_
      refine j_isub hX dX12_number_100 ?_
      refine jpc (b := 101) rfl ?_
      have hf := ltd hf
      refine j_putI (k := 10) hX kX12 (by decide) fk_X12_122 dX12_number_101 (sh_50 hG) rfl rfl rfl rfl ?_
      refine j_aload_n hX dX12_number_104 rfl ?_
      obtain ⟨v21, i22, hh23, hf⟩ := bd2 hf
      refine j_cV0i hX lk_X12_137 kX12 dX12_number_105 (sh_50 hG) (okX12_fails hG hh23) rfl rfl (rmm (by omega) hRf hRl (by decide)) (Nat.le_of_ble_eq_true rfl) (Nat.le_add_right _ _) (Nat.le_add_right _ _) ?_
      refine j_pop hX dX12_number_108 rfl ?_
      refine j_iload hX dX12_number_109 rfl ?_
      cases hf
      exact j_ret hX hr hlk rfl dX12_number_111
  · have hf := ifn hc hf
    refine j_aload_n hX dX12_number_74 rfl ?_
    obtain ⟨v24, i25, hh26, hf⟩ := bd2 hf
    refine j_cV0i hX lk_X12_137 kX12 dX12_number_75 (sh_50 hG) (okX12_fails hG hh26) rfl rfl (rmm (by omega) hRf hRl (by decide)) (Nat.le_of_ble_eq_true rfl) (Nat.le_add_right _ _) (Nat.le_add_right _ _) ?_
    refine j_pop hX dX12_number_78 rfl ?_
    refine j_iconst hX dX12_number_79 ic_0 ?_
    cases hf
    exact j_ret hX hr hlk rfl dX12_number_80
def fX12_number (a1 : Int32) (a2 : Int32) (i : Nat → Nat → Int32) (rv : Nat → Nat → Option Nat) : Option ((Int32) × (Nat → Nat → Int32)) := bn2 (fX12_look i rv) fun v1 i2 =>
    bn1 (fX12_isDigit i2 rv) fun v4 =>
    if v4 = 0 then (bn2 (fX12_fails i2) fun v13 i14 =>
    some (0, i14)) else (lt (u2 i2 50 10 ((i2 50 10) + (1 : Int32))) fun i6 =>
    bn1 (fX12_isDigit i6 rv) fun v7 =>
    if v7 = 0 then (fX12_number_67 a1 a2 (v1 - (48 : Int32)) i6 rv) else (bn1 (fX12_here i6 rv) fun v9 =>
    lt ((((10 : Int32) * (v1 - (48 : Int32))) + v9) - (48 : Int32)) fun t11 =>
    lt (u2 i6 50 10 ((i6 50 10) + (1 : Int32))) fun i12 =>
    fX12_number_67 a1 a2 t11 i12 rv))
theorem kX12_number  {vR : Int32} {iR : Nat → Nat → Int32} (hX : aX p s m args c RX12 cX12_number 5 D cA A ad0) (hr : meth.sig.returnType = (some .int)) (hlk : meth.locks = false) (hRf : 1 ≤ R.frames) (hRl : 64 * 1 ≤ R.locals) {a1 : Int32} {a2 : Int32} (hG : aGood sh rv) (hf : fX12_number a1 a2 i rv = some (vR, iR)) : aJ p l e R s m args below meth c (MQ below (aPost D cA ad0 A (sh, i0, lo0, rv0) (some (.int vR)) (sh, iR, lo, rv)) args s (sh.length - sh.length) (aSn sh - aSn sh) A) D cA A ad0 5 sh.length (aSn sh) 0 [some (.ref (100 + 50)), some (.int a1), some (.int a2), none, none] [] (sh, i, lo, rv) := by
  unfold fX12_number at hf
  refine j_aload_n hX dX12_number_0 rfl ?_
  obtain ⟨v1, i2, hh3, hf⟩ := bd2 hf
  refine j_cV0i hX lk_X12_141 kX12 dX12_number_1 (sh_50 hG) (okX12_look hG hh3) rfl rfl (rmm (by omega) hRf hRl (by decide)) (Nat.le_of_ble_eq_true rfl) (Nat.le_add_right _ _) (Nat.le_add_right _ _) ?_
  refine j_istore_n hX dX12_number_4 (by decide) rfl ?_
  refine j_aload_n hX dX12_number_5 rfl ?_
  obtain ⟨v4, hh5, hf⟩ := bd1 hf
  refine j_cV0i hX lk_X12_171 kX12 dX12_number_6 (sh_50 hG) (okX12_isDigit hG hh5) rfl rfl (rmm (by omega) hRf hRl (by decide)) (Nat.le_of_ble_eq_true rfl) (Nat.le_add_right _ _) (Nat.le_add_right _ _) ?_
  refine jpc (b := 9) rfl ?_
  refine j_if_ne (tgt := 19) hX dX12_number_9 (by decide) (fun hc => ?_) (fun hc => ?_)
  · have hf := ifn hc hf
    refine j_iload_n hX dX12_number_19 rfl ?_
    refine j_bipush hX dX12_number_20 bp_48 ?_
    refine j_isub hX dX12_number_22 ?_
    refine j_istore hX dX12_number_23 (by decide) rfl ?_
    refine j_aload_n hX dX12_number_25 rfl ?_
    refine jpc (b := 26) rfl ?_
    refine j_dup hX dX12_number_26 rfl ?_
    refine j_getI (k := 10) hX kX12 (by decide) fk_X12_122 dX12_number_27 (sh_50 hG) rfl ?_
    refine j_iconst hX dX12_number_30 ic_1 ?_
    refine j_iadd hX dX12_number_31 ?_
    have hf := ltd hf
    refine j_putI (k := 10) hX kX12 (by decide) fk_X12_122 dX12_number_32 (sh_50 hG) rfl rfl rfl rfl ?_
    refine j_aload_n hX dX12_number_35 rfl ?_
    refine jpc (b := 36) rfl ?_
    obtain ⟨v7, hh8, hf⟩ := bd1 hf
    refine j_cV0i hX lk_X12_171 kX12 dX12_number_36 (sh_50 hG) (okX12_isDigit hG hh8) rfl rfl (rmm (by omega) hRf hRl (by decide)) (Nat.le_of_ble_eq_true rfl) (Nat.le_add_right _ _) (Nat.le_add_right _ _) ?_
    refine j_if_eq (tgt := 67) hX dX12_number_39 (by decide) (fun hc => ?_) (fun hc => ?_)
    · have hf := ifp hc hf
      exact aJx (kX12_number_67 hX hr hlk hRf hRl hG  hf) (And.intro rfl (And.intro rfl (And.intro rfl (And.intro rfl (rfl)))))
    · have hf := ifn hc hf
      refine j_bipush hX dX12_number_42 bp_10 ?_
      refine j_iload hX dX12_number_44 rfl ?_
      refine j_imul hX dX12_number_46 ?_
      refine j_aload_n hX dX12_number_47 rfl ?_
      obtain ⟨v9, hh10, hf⟩ := bd1 hf
      refine j_cV0i hX lk_X12_217 kX12 dX12_number_48 (sh_50 hG) (okX12_here hG hh10) rfl rfl (rmm (by omega) hRf hRl (by decide)) (Nat.le_of_ble_eq_true rfl) (Nat.le_add_right _ _) (Nat.le_add_right _ _) ?_
      refine jpc (b := 51) rfl ?_
      refine j_iadd hX dX12_number_51 ?_
      refine j_bipush hX dX12_number_52 bp_48 ?_
      refine j_isub hX dX12_number_54 ?_
      have hf := ltd hf
      refine j_istore hX dX12_number_55 (by decide) rfl ?_
      refine j_aload_n hX dX12_number_57 rfl ?_
      refine j_dup hX dX12_number_58 rfl ?_
      refine jpc (b := 59) rfl ?_
      refine j_getI (k := 10) hX kX12 (by decide) fk_X12_122 dX12_number_59 (sh_50 hG) rfl ?_
      refine j_iconst hX dX12_number_62 ic_1 ?_
      refine j_iadd hX dX12_number_63 ?_
      have hf := ltd hf
      refine j_putI (k := 10) hX kX12 (by decide) fk_X12_122 dX12_number_64 (sh_50 hG) rfl rfl rfl rfl ?_
      exact aJx (kX12_number_67 hX hr hlk hRf hRl hG  hf) (And.intro rfl (And.intro rfl (And.intro rfl (And.intro rfl (rfl)))))
  · have hf := ifp hc hf
    refine j_aload_n hX dX12_number_12 rfl ?_
    obtain ⟨v13, i14, hh15, hf⟩ := bd2 hf
    refine j_cV0i hX lk_X12_137 kX12 dX12_number_13 (sh_50 hG) (okX12_fails hG hh15) rfl rfl (rmm (by omega) hRf hRl (by decide)) (Nat.le_of_ble_eq_true rfl) (Nat.le_add_right _ _) (Nat.le_add_right _ _) ?_
    refine j_pop hX dX12_number_16 rfl ?_
    refine j_iconst hX dX12_number_17 ic_0 ?_
    cases hf
    exact j_ret hX hr hlk rfl dX12_number_18
theorem okX12_number {l : Launch} {sh : List aSh} {i : Nat → Nat → Int32} {lo : Nat → Nat → Int64} {rv : Nat → Nat → Option Nat}  {a1 : Int32} {a2 : Int32} {vR : Int32} {iR : Nat → Nat → Int32} (hG : aGood sh rv) (hf : fX12_number a1 a2 i rv = some (vR, iR)) : aM l yX12_number cX12_number 5 (some .int) 1 [.ref (100 + 50), .int a1, .int a2] (sh, i, lo, rv) (some (.int vR)) (sh, iR, lo, rv) :=
  aM_of (by decide) (Nat.le_of_ble_eq_true rfl) (Nat.le_refl _) (Nat.le_refl _) (fun p e s m args below meth c D cA A ad0 hX hr hlk hnm => kX12_number hX hr hlk (Nat.le_refl _) (Nat.le_refl _) hG hf)
def fX12_mostOf (a0 : Int32) (a1 : Int32) : Option ((Int32)) := if a0 = 115 then (if a1 = 0 then (some (60)) else (if a1 = 1 then (some (99)) else (some (9)))) else (if a0 = 112 then (if a1 = 5 then (some (1)) else (some (9))) else (if a1 = 1 then (some (1)) else (some (9))))
theorem kX12_mostOf  {vR : Int32} (hX : aX p s m args c RX12 cX12_mostOf 2 D cA A ad0) (hr : meth.sig.returnType = (some .int)) (hlk : meth.locks = false) (hRf : 0 ≤ R.frames) (hRl : 64 * 0 ≤ R.locals) {a0 : Int32} {a1 : Int32} (hG : aGood sh rv) (hf : fX12_mostOf a0 a1 = some (vR)) : aJ p l e R s m args below meth c (MQ below (aPost D cA ad0 A (sh, i0, lo0, rv0) (some (.int vR)) (sh, i, lo, rv)) args s (sh.length - sh.length) (aSn sh - aSn sh) A) D cA A ad0 2 sh.length (aSn sh) 0 [some (.int a0), some (.int a1)] [] (sh, i, lo, rv) := by
  unfold fX12_mostOf at hf
  refine j_iload_n hX dX12_mostOf_0 rfl ?_
  refine j_bipush hX dX12_mostOf_1 bp_115 ?_
  refine j_icmp_ne (tgt := 28) hX dX12_mostOf_3 (by decide) (fun hc => ?_) (fun hc => ?_)
  · have hf := ifn hc hf
    refine j_iload_n hX dX12_mostOf_28 rfl ?_
    refine j_bipush hX dX12_mostOf_29 bp_112 ?_
    refine j_icmp_ne (tgt := 46) hX dX12_mostOf_31 (by decide) (fun hc => ?_) (fun hc => ?_)
    · have hf := ifn hc hf
      refine j_iload_n hX dX12_mostOf_46 rfl ?_
      refine j_iconst hX dX12_mostOf_47 ic_1 ?_
      refine j_icmp_ne (tgt := 55) hX dX12_mostOf_48 (by decide) (fun hc => ?_) (fun hc => ?_)
      · have hf := ifn hc hf
        refine j_bipush hX dX12_mostOf_55 bp_9 ?_
        cases hf
        exact j_ret hX hr hlk rfl dX12_mostOf_57
      · have hf := ifp hc hf
        refine j_iconst hX dX12_mostOf_51 ic_1 ?_
        refine j_goto (tgt := 57) hX dX12_mostOf_52 (by decide) ?_
        cases hf
        exact j_ret hX hr hlk rfl dX12_mostOf_57
    · have hf := ifp hc hf
      refine j_iload_n hX dX12_mostOf_34 rfl ?_
      refine j_iconst hX dX12_mostOf_35 ic_5 ?_
      refine j_icmp_ne (tgt := 43) hX dX12_mostOf_36 (by decide) (fun hc => ?_) (fun hc => ?_)
      · have hf := ifn hc hf
        refine j_bipush hX dX12_mostOf_43 bp_9 ?_
        cases hf
        exact j_ret hX hr hlk rfl dX12_mostOf_45
      · have hf := ifp hc hf
        refine j_iconst hX dX12_mostOf_39 ic_1 ?_
        refine j_goto (tgt := 45) hX dX12_mostOf_40 (by decide) ?_
        cases hf
        exact j_ret hX hr hlk rfl dX12_mostOf_45
  · have hf := ifp hc hf
    refine j_iload_n hX dX12_mostOf_6 rfl ?_
    refine j_if_ne (tgt := 15) hX dX12_mostOf_7 (by decide) (fun hc => ?_) (fun hc => ?_)
    · have hf := ifn hc hf
      refine j_iload_n hX dX12_mostOf_15 rfl ?_
      refine j_iconst hX dX12_mostOf_16 ic_1 ?_
      refine j_icmp_ne (tgt := 25) hX dX12_mostOf_17 (by decide) (fun hc => ?_) (fun hc => ?_)
      · have hf := ifn hc hf
        refine j_bipush hX dX12_mostOf_25 bp_9 ?_
        cases hf
        exact j_ret hX hr hlk rfl dX12_mostOf_27
      · have hf := ifp hc hf
        refine j_bipush hX dX12_mostOf_20 bp_99 ?_
        refine j_goto (tgt := 27) hX dX12_mostOf_22 (by decide) ?_
        cases hf
        exact j_ret hX hr hlk rfl dX12_mostOf_27
    · have hf := ifp hc hf
      refine j_bipush hX dX12_mostOf_10 bp_60 ?_
      refine j_goto (tgt := 27) hX dX12_mostOf_12 (by decide) ?_
      cases hf
      exact j_ret hX hr hlk rfl dX12_mostOf_27
theorem okX12_mostOf {l : Launch} {sh : List aSh} {i : Nat → Nat → Int32} {lo : Nat → Nat → Int64} {rv : Nat → Nat → Option Nat}  {a0 : Int32} {a1 : Int32} {vR : Int32} (hG : aGood sh rv) (hf : fX12_mostOf a0 a1 = some (vR)) : aM l yX12_mostOf cX12_mostOf 2 (some .int) 0 [.int a0, .int a1] (sh, i, lo, rv) (some (.int vR)) (sh, i, lo, rv) :=
  aM_of (by decide) (Nat.le_of_ble_eq_true rfl) (Nat.le_refl _) (Nat.le_refl _) (fun p e s m args below meth c D cA A ad0 hX hr hlk hnm => kX12_mostOf hX hr hlk (Nat.le_refl _) (Nat.le_refl _) hG hf)
def fX12_leastOf (a0 : Int32) (a1 : Int32) : Option ((Int32)) := if a0 = 111 then (some (0)) else (if a1 = 0 then (some (1)) else (some (0)))
theorem kX12_leastOf  {vR : Int32} (hX : aX p s m args c RX12 cX12_leastOf 2 D cA A ad0) (hr : meth.sig.returnType = (some .int)) (hlk : meth.locks = false) (hRf : 0 ≤ R.frames) (hRl : 64 * 0 ≤ R.locals) {a0 : Int32} {a1 : Int32} (hG : aGood sh rv) (hf : fX12_leastOf a0 a1 = some (vR)) : aJ p l e R s m args below meth c (MQ below (aPost D cA ad0 A (sh, i0, lo0, rv0) (some (.int vR)) (sh, i, lo, rv)) args s (sh.length - sh.length) (aSn sh - aSn sh) A) D cA A ad0 2 sh.length (aSn sh) 0 [some (.int a0), some (.int a1)] [] (sh, i, lo, rv) := by
  unfold fX12_leastOf at hf
  refine j_iload_n hX dX12_leastOf_0 rfl ?_
  refine j_bipush hX dX12_leastOf_1 bp_111 ?_
  refine j_icmp_eq (tgt := 14) hX dX12_leastOf_3 (by decide) (fun hc => ?_) (fun hc => ?_)
  · have hf := ifp hc hf
    refine j_iconst hX dX12_leastOf_14 ic_0 ?_
    cases hf
    exact j_ret hX hr hlk rfl dX12_leastOf_15
  · have hf := ifn hc hf
    refine j_iload_n hX dX12_leastOf_6 rfl ?_
    refine j_if_ne (tgt := 14) hX dX12_leastOf_7 (by decide) (fun hc => ?_) (fun hc => ?_)
    · have hf := ifn hc hf
      refine j_iconst hX dX12_leastOf_14 ic_0 ?_
      cases hf
      exact j_ret hX hr hlk rfl dX12_leastOf_15
    · have hf := ifp hc hf
      refine j_iconst hX dX12_leastOf_10 ic_1 ?_
      refine j_goto (tgt := 15) hX dX12_leastOf_11 (by decide) ?_
      cases hf
      exact j_ret hX hr hlk rfl dX12_leastOf_15
theorem okX12_leastOf {l : Launch} {sh : List aSh} {i : Nat → Nat → Int32} {lo : Nat → Nat → Int64} {rv : Nat → Nat → Option Nat}  {a0 : Int32} {a1 : Int32} {vR : Int32} (hG : aGood sh rv) (hf : fX12_leastOf a0 a1 = some (vR)) : aM l yX12_leastOf cX12_leastOf 2 (some .int) 0 [.int a0, .int a1] (sh, i, lo, rv) (some (.int vR)) (sh, i, lo, rv) :=
  aM_of (by decide) (Nat.le_of_ble_eq_true rfl) (Nat.le_refl _) (Nat.le_refl _) (fun p e s m args below meth c D cA A ad0 hX hr hlk hnm => kX12_leastOf hX hr hlk (Nat.le_refl _) (Nat.le_refl _) hG hf)
def fX12_usual (a0 : Int32) (a1 : Int32) : Option ((Int32)) := if a0 = 115 then (if a1 = 0 then (some (11)) else (if a1 = 1 then (some (20)) else (if a1 = 2 then (some (2)) else (some (3))))) else (if a0 = 112 then (if a1 = 0 then (some (2)) else (if a1 = 2 then (some (3)) else (some (0)))) else (if a1 = 1 then (some (0)) else (some (1))))
theorem kX12_usual  {vR : Int32} (hX : aX p s m args c RX12 cX12_usual 2 D cA A ad0) (hr : meth.sig.returnType = (some .int)) (hlk : meth.locks = false) (hRf : 0 ≤ R.frames) (hRl : 64 * 0 ≤ R.locals) {a0 : Int32} {a1 : Int32} (hG : aGood sh rv) (hf : fX12_usual a0 a1 = some (vR)) : aJ p l e R s m args below meth c (MQ below (aPost D cA ad0 A (sh, i0, lo0, rv0) (some (.int vR)) (sh, i, lo, rv)) args s (sh.length - sh.length) (aSn sh - aSn sh) A) D cA A ad0 2 sh.length (aSn sh) 0 [some (.int a0), some (.int a1)] [] (sh, i, lo, rv) := by
  unfold fX12_usual at hf
  refine j_iload_n hX dX12_usual_0 rfl ?_
  refine j_bipush hX dX12_usual_1 bp_115 ?_
  refine j_icmp_ne (tgt := 36) hX dX12_usual_3 (by decide) (fun hc => ?_) (fun hc => ?_)
  · have hf := ifn hc hf
    refine j_iload_n hX dX12_usual_36 rfl ?_
    refine j_bipush hX dX12_usual_37 bp_112 ?_
    refine j_icmp_ne (tgt := 61) hX dX12_usual_39 (by decide) (fun hc => ?_) (fun hc => ?_)
    · have hf := ifn hc hf
      refine j_iload_n hX dX12_usual_61 rfl ?_
      refine j_iconst hX dX12_usual_62 ic_1 ?_
      refine j_icmp_ne (tgt := 70) hX dX12_usual_63 (by decide) (fun hc => ?_) (fun hc => ?_)
      · have hf := ifn hc hf
        refine j_iconst hX dX12_usual_70 ic_1 ?_
        cases hf
        exact j_ret hX hr hlk rfl dX12_usual_71
      · have hf := ifp hc hf
        refine j_iconst hX dX12_usual_66 ic_0 ?_
        refine j_goto (tgt := 71) hX dX12_usual_67 (by decide) ?_
        cases hf
        exact j_ret hX hr hlk rfl dX12_usual_71
    · have hf := ifp hc hf
      refine j_iload_n hX dX12_usual_42 rfl ?_
      refine j_if_ne (tgt := 50) hX dX12_usual_43 (by decide) (fun hc => ?_) (fun hc => ?_)
      · have hf := ifn hc hf
        refine j_iload_n hX dX12_usual_50 rfl ?_
        refine j_iconst hX dX12_usual_51 ic_2 ?_
        refine j_icmp_ne (tgt := 59) hX dX12_usual_52 (by decide) (fun hc => ?_) (fun hc => ?_)
        · have hf := ifn hc hf
          refine j_iconst hX dX12_usual_59 ic_0 ?_
          cases hf
          exact j_ret hX hr hlk rfl dX12_usual_60
        · have hf := ifp hc hf
          refine j_iconst hX dX12_usual_55 ic_3 ?_
          refine j_goto (tgt := 60) hX dX12_usual_56 (by decide) ?_
          cases hf
          exact j_ret hX hr hlk rfl dX12_usual_60
      · have hf := ifp hc hf
        refine j_iconst hX dX12_usual_46 ic_2 ?_
        refine j_goto (tgt := 60) hX dX12_usual_47 (by decide) ?_
        cases hf
        exact j_ret hX hr hlk rfl dX12_usual_60
  · have hf := ifp hc hf
    refine j_iload_n hX dX12_usual_6 rfl ?_
    refine j_if_ne (tgt := 15) hX dX12_usual_7 (by decide) (fun hc => ?_) (fun hc => ?_)
    · have hf := ifn hc hf
      refine j_iload_n hX dX12_usual_15 rfl ?_
      refine j_iconst hX dX12_usual_16 ic_1 ?_
      refine j_icmp_ne (tgt := 25) hX dX12_usual_17 (by decide) (fun hc => ?_) (fun hc => ?_)
      · have hf := ifn hc hf
        refine j_iload_n hX dX12_usual_25 rfl ?_
        refine j_iconst hX dX12_usual_26 ic_2 ?_
        refine j_icmp_ne (tgt := 34) hX dX12_usual_27 (by decide) (fun hc => ?_) (fun hc => ?_)
        · have hf := ifn hc hf
          refine j_iconst hX dX12_usual_34 ic_3 ?_
          cases hf
          exact j_ret hX hr hlk rfl dX12_usual_35
        · have hf := ifp hc hf
          refine j_iconst hX dX12_usual_30 ic_2 ?_
          refine j_goto (tgt := 35) hX dX12_usual_31 (by decide) ?_
          cases hf
          exact j_ret hX hr hlk rfl dX12_usual_35
      · have hf := ifp hc hf
        refine j_bipush hX dX12_usual_20 bp_20 ?_
        refine j_goto (tgt := 35) hX dX12_usual_22 (by decide) ?_
        cases hf
        exact j_ret hX hr hlk rfl dX12_usual_35
    · have hf := ifp hc hf
      refine j_bipush hX dX12_usual_10 bp_11 ?_
      refine j_goto (tgt := 35) hX dX12_usual_12 (by decide) ?_
      cases hf
      exact j_ret hX hr hlk rfl dX12_usual_35
theorem okX12_usual {l : Launch} {sh : List aSh} {i : Nat → Nat → Int32} {lo : Nat → Nat → Int64} {rv : Nat → Nat → Option Nat}  {a0 : Int32} {a1 : Int32} {vR : Int32} (hG : aGood sh rv) (hf : fX12_usual a0 a1 = some (vR)) : aM l yX12_usual cX12_usual 2 (some .int) 0 [.int a0, .int a1] (sh, i, lo, rv) (some (.int vR)) (sh, i, lo, rv) :=
  aM_of (by decide) (Nat.le_of_ble_eq_true rfl) (Nat.le_refl _) (Nat.le_refl _) (fun p e s m args below meth c D cA A ad0 hX hr hlk hnm => kX12_usual hX hr hlk (Nat.le_refl _) (Nat.le_refl _) hG hf)
def fX12_readItems_45 (w2 : Nat) (n2 : Nat) (j4 : Nat) : Nat → Int32 → Int32 → Int32 → Int32 → (Nat → Nat → Int32) → (Nat → Nat → Option Nat) → Option ((Nat → Nat → Int32))
  | 0, _, _, _, _, _, _ => none
  | n + 1, x1, x3, x5, x6, i, rv => if x6 = (-1) then (some (i)) else (if (i 50 11) = (-1) then (bn1 (fX12_has x5 x6) fun v11 =>
    if v11 = 0 then (lt (x5 ||| ((1 : Int32) <<< (x6 &&& 31))) fun t13 =>
    lt (u2 i 50 10 ((i 50 10) + (1 : Int32))) fun i14 =>
    bn1 (fX12_leastOf x1 x6) fun v15 =>
    bn1 (fX12_mostOf x1 x6) fun v17 =>
    bn2 (fX12_number v15 v17 i14 rv) fun v19 i20 =>
    if aIn (x3 + x6) n2 = true then
    (lt (u2 i20 w2 ((x3 + x6) : Int32).toNatClampNeg v19) fun i22 => if (i22 50 11) = (-1) then (bn2 (fX12_look i22 rv) fun v23 i24 =>
    bn1 (fX12_spotOf j4 v23) fun v26 =>
    fX12_readItems_45 w2 n2 j4 n x1 x3 t13 v26 i24 rv) else (fX12_readItems_45 w2 n2 j4 n x1 x3 t13 x6 i22 rv)) else none) else (bn2 (fX12_fails i) fun v28 i29 =>
    some (i29))) else (some (i)))
theorem kX12_readItems_45  {w2 : Nat} {n2 : Nat} {j4 : Nat} {iR : Nat → Nat → Int32} (hX : aX p s m args c RX12 cX12_readItems 7 D cA A ad0) (hr : meth.sig.returnType = none) (hlk : meth.locks = false) (hRf : 5 ≤ R.frames) (hRl : 64 * 5 ≤ R.locals) (h2 : sh[w2]? = some (.inl (.int, n2))) (h4 : j4 < 8) : ∀ (n : Nat) (x1 : Int32) (x3 : Int32) (x5 : Int32) (x6 : Int32) (i : Nat → Nat → Int32), aGood sh rv → fX12_readItems_45 w2 n2 j4 n x1 x3 x5 x6 i rv = some (iR) → aJ p l e R s m args below meth c (MQ below (aPost D cA ad0 A (sh, i0, lo0, rv0) none (sh, iR, lo, rv)) args s (sh.length - sh.length) (aSn sh - aSn sh) A) D cA A ad0 7 sh.length (aSn sh) 45 [some (.ref (100 + 50)), some (.int x1), some (.ref (100 + w2)), some (.int x3), some (.ref (10 + j4)), some (.int x5), some (.int x6)] [] (sh, i, lo, rv) := by
  intro n
  induction n with
  | zero => intros; rename_i hf; cases hf
  | succ n ih =>
    intro x1 x3 x5 x6 i hG hf
    rw [fX12_readItems_45] at hf
    refine j_iload hX dX12_readItems_45 rfl ?_
    refine j_iconst hX dX12_readItems_47 ic_m1 ?_
    refine j_icmp_eq (tgt := 138) hX dX12_readItems_48 (by decide) (fun hc => ?_) (fun hc => ?_)
    · have hf := ifp hc hf
      cases hf
      exact j_vret hX hr hlk dX12_readItems_138
    · have hf := ifn hc hf
      refine j_aload_n hX dX12_readItems_51 rfl ?_
      refine j_getI (k := 11) hX kX12 (by decide) fk_X12_131 dX12_readItems_52 (sh_50 hG) rfl ?_
      refine j_iconst hX dX12_readItems_55 ic_m1 ?_
      refine j_icmp_ne (tgt := 138) hX dX12_readItems_56 (by decide) (fun hc => ?_) (fun hc => ?_)
      · have hf := ifn hc hf
        cases hf
        exact j_vret hX hr hlk dX12_readItems_138
      · have hf := ifp hc hf
        refine j_iload hX dX12_readItems_59 rfl ?_
        refine j_iload hX dX12_readItems_61 rfl ?_
        obtain ⟨v11, hh12, hf⟩ := bd1 hf
        refine j_cS2i hX lk_X12_232 dX12_readItems_63 (okX12_has hG hh12) rfl rfl (rmm (by omega) hRf hRl (by decide)) (Nat.le_of_ble_eq_true rfl) (Nat.le_add_right _ _) (Nat.le_add_right _ _) ?_
        refine j_if_eq (tgt := 75) hX dX12_readItems_66 (by decide) (fun hc => ?_) (fun hc => ?_)
        · have hf := ifp hc hf
          refine j_iload hX dX12_readItems_75 rfl ?_
          refine j_iconst hX dX12_readItems_77 ic_1 ?_
          refine j_iload hX dX12_readItems_78 rfl ?_
          refine j_ishl hX dX12_readItems_80 ?_
          refine j_ior hX dX12_readItems_81 ?_
          refine jpc (b := 82) rfl ?_
          have hf := ltd hf
          refine j_istore hX dX12_readItems_82 (by decide) rfl ?_
          refine j_aload_n hX dX12_readItems_84 rfl ?_
          refine j_dup hX dX12_readItems_85 rfl ?_
          refine j_getI (k := 10) hX kX12 (by decide) fk_X12_122 dX12_readItems_86 (sh_50 hG) rfl ?_
          refine j_iconst hX dX12_readItems_89 ic_1 ?_
          refine j_iadd hX dX12_readItems_90 ?_
          refine jpc (b := 91) rfl ?_
          have hf := ltd hf
          refine j_putI (k := 10) hX kX12 (by decide) fk_X12_122 dX12_readItems_91 (sh_50 hG) rfl rfl rfl rfl ?_
          refine j_aload_n hX dX12_readItems_94 rfl ?_
          refine j_iload_n hX dX12_readItems_95 rfl ?_
          refine j_iload hX dX12_readItems_96 rfl ?_
          refine j_iadd hX dX12_readItems_98 ?_
          refine j_aload_n hX dX12_readItems_99 rfl ?_
          refine jpc (b := 100) rfl ?_
          refine j_iload_n hX dX12_readItems_100 rfl ?_
          refine j_iload hX dX12_readItems_101 rfl ?_
          obtain ⟨v15, hh16, hf⟩ := bd1 hf
          refine j_cS2i hX lk_X12_236 dX12_readItems_103 (okX12_leastOf hG hh16) rfl rfl (rmm (by omega) hRf hRl (by decide)) (Nat.le_of_ble_eq_true rfl) (Nat.le_add_right _ _) (Nat.le_add_right _ _) ?_
          refine j_iload_n hX dX12_readItems_106 rfl ?_
          refine j_iload hX dX12_readItems_107 rfl ?_
          obtain ⟨v17, hh18, hf⟩ := bd1 hf
          refine j_cS2i hX lk_X12_239 dX12_readItems_109 (okX12_mostOf hG hh18) rfl rfl (rmm (by omega) hRf hRl (by decide)) (Nat.le_of_ble_eq_true rfl) (Nat.le_add_right _ _) (Nat.le_add_right _ _) ?_
          refine jpc (b := 112) rfl ?_
          obtain ⟨v19, i20, hh21, hf⟩ := bd2 hf
          refine j_cV2i hX lk_X12_242 kX12 dX12_readItems_112 (sh_50 hG) (okX12_number hG hh21) rfl rfl (rmm (by omega) hRf hRl (by decide)) (Nat.le_of_ble_eq_true rfl) (Nat.le_add_right _ _) (Nat.le_add_right _ _) ?_
          obtain ⟨hg, hf⟩ := gd hf
          have hf := ltd hf
          refine j_iast hX h2 hg dX12_readItems_115 ?_
          refine j_aload_n hX dX12_readItems_116 rfl ?_
          refine j_getI (k := 11) hX kX12 (by decide) fk_X12_131 dX12_readItems_117 (sh_50 hG) rfl ?_
          refine j_iconst hX dX12_readItems_120 ic_m1 ?_
          refine j_icmp_ne (tgt := 45) hX dX12_readItems_121 (by decide) (fun hc => ?_) (fun hc => ?_)
          · have hf := ifn hc hf
            exact aJx (ih _ _ _ _ _ hG  hf) (And.intro rfl (And.intro rfl (And.intro rfl (And.intro rfl (And.intro rfl (And.intro rfl (And.intro rfl (rfl))))))))
          · have hf := ifp hc hf
            refine j_aload hX dX12_readItems_124 rfl ?_
            refine j_aload_n hX dX12_readItems_126 rfl ?_
            obtain ⟨v23, i24, hh25, hf⟩ := bd2 hf
            refine j_cV0i hX lk_X12_141 kX12 dX12_readItems_127 (sh_50 hG) (okX12_look hG hh25) rfl rfl (rmm (by omega) hRf hRl (by decide)) (Nat.le_of_ble_eq_true rfl) (Nat.le_add_right _ _) (Nat.le_add_right _ _) ?_
            obtain ⟨v26, hh27, hf⟩ := bd1 hf
            refine j_cS2i hX lk_X12_228 dX12_readItems_130 (okX12_spotOf hG h4 hh27) rfl rfl (rmm (by omega) hRf hRl (by decide)) (Nat.le_of_ble_eq_true rfl) (Nat.le_add_right _ _) (Nat.le_add_right _ _) ?_
            refine j_istore hX dX12_readItems_133 (by decide) rfl ?_
            refine jpc (b := 135) rfl ?_
            refine j_goto (tgt := 45) hX dX12_readItems_135 (by decide) ?_
            exact aJx (ih _ _ _ _ _ hG  hf) (And.intro rfl (And.intro rfl (And.intro rfl (And.intro rfl (And.intro rfl (And.intro rfl (And.intro rfl (rfl))))))))
        · have hf := ifn hc hf
          refine j_aload_n hX dX12_readItems_69 rfl ?_
          obtain ⟨v28, i29, hh30, hf⟩ := bd2 hf
          refine j_cV0i hX lk_X12_137 kX12 dX12_readItems_70 (sh_50 hG) (okX12_fails hG hh30) rfl rfl (rmm (by omega) hRf hRl (by decide)) (Nat.le_of_ble_eq_true rfl) (Nat.le_add_right _ _) (Nat.le_add_right _ _) ?_
          refine j_pop hX dX12_readItems_73 rfl ?_
          cases hf
          exact j_vret hX hr hlk dX12_readItems_74
def fX12_readItems_3 (w2 : Nat) (n2 : Nat) (j4 : Nat) : Nat → Int32 → Int32 → Int32 → (Nat → Nat → Int32) → (Nat → Nat → Option Nat) → Option ((Nat → Nat → Int32))
  | 0, _, _, _, _, _ => none
  | n + 1, x1, x3, x5, i, rv => bn1 (fJ0_length_8abf5 j4) fun v1 =>
    if v1 ≤ x5 then (bn2 (fX12_look i rv) fun v3 i4 =>
    bn1 (fX12_spotOf j4 v3) fun v6 =>
    fX12_readItems_45 w2 n2 j4 fuel x1 x3 0 v6 i4 rv) else (bn1 (fX12_usual x1 x5) fun v8 =>
    if aIn (x3 + x5) n2 = true then
    (lt (u2 i w2 ((x3 + x5) : Int32).toNatClampNeg v8) fun i10 => fX12_readItems_3 w2 n2 j4 n x1 x3 (x5 + 1) i10 rv) else none)
theorem kX12_readItems_3  {w2 : Nat} {n2 : Nat} {j4 : Nat} {iR : Nat → Nat → Int32} (hX : aX p s m args c RX12 cX12_readItems 7 D cA A ad0) (hr : meth.sig.returnType = none) (hlk : meth.locks = false) (hRf : 5 ≤ R.frames) (hRl : 64 * 5 ≤ R.locals) (h2 : sh[w2]? = some (.inl (.int, n2))) (h4 : j4 < 8) : ∀ (n : Nat) (x1 : Int32) (x3 : Int32) (x5 : Int32) (i : Nat → Nat → Int32), aGood sh rv → fX12_readItems_3 w2 n2 j4 n x1 x3 x5 i rv = some (iR) → aJ p l e R s m args below meth c (MQ below (aPost D cA ad0 A (sh, i0, lo0, rv0) none (sh, iR, lo, rv)) args s (sh.length - sh.length) (aSn sh - aSn sh) A) D cA A ad0 7 sh.length (aSn sh) 3 [some (.ref (100 + 50)), some (.int x1), some (.ref (100 + w2)), some (.int x3), some (.ref (10 + j4)), some (.int x5), none] [] (sh, i, lo, rv) := by
  intro n
  induction n with
  | zero => intros; rename_i hf; cases hf
  | succ n ih =>
    intro x1 x3 x5 i hG hf
    rw [fX12_readItems_3] at hf
    refine j_iload hX dX12_readItems_3 rfl ?_
    refine j_aload hX dX12_readItems_5 rfl ?_
    obtain ⟨v1, hh2, hf⟩ := bd1 hf
    refine j_cT0i hX lk_X12_102 rfl h4 dX12_readItems_7 (okJ0_length_8abf5 hG h4 hh2) (rmm (by omega) hRf hRl (by decide)) (Nat.le_of_ble_eq_true rfl) (Nat.le_add_right _ _) (Nat.le_add_right _ _) ?_
    refine j_icmp_ge (tgt := 31) hX dX12_readItems_10 (by decide) (fun hc => ?_) (fun hc => ?_)
    · have hf := ifp hc hf
      refine j_iconst hX dX12_readItems_31 ic_0 ?_
      refine j_istore hX dX12_readItems_32 (by decide) rfl ?_
      refine j_aload hX dX12_readItems_34 rfl ?_
      refine j_aload_n hX dX12_readItems_36 rfl ?_
      obtain ⟨v3, i4, hh5, hf⟩ := bd2 hf
      refine j_cV0i hX lk_X12_141 kX12 dX12_readItems_37 (sh_50 hG) (okX12_look hG hh5) rfl rfl (rmm (by omega) hRf hRl (by decide)) (Nat.le_of_ble_eq_true rfl) (Nat.le_add_right _ _) (Nat.le_add_right _ _) ?_
      refine jpc (b := 40) rfl ?_
      obtain ⟨v6, hh7, hf⟩ := bd1 hf
      refine j_cS2i hX lk_X12_228 dX12_readItems_40 (okX12_spotOf hG h4 hh7) rfl rfl (rmm (by omega) hRf hRl (by decide)) (Nat.le_of_ble_eq_true rfl) (Nat.le_add_right _ _) (Nat.le_add_right _ _) ?_
      refine j_istore hX dX12_readItems_43 (by decide) rfl ?_
      exact aJx (kX12_readItems_45 hX hr hlk hRf hRl h2 h4 fuel _ _ _ _ _ hG  hf) (And.intro rfl (And.intro rfl (And.intro rfl (And.intro rfl (And.intro rfl (And.intro rfl (And.intro rfl (rfl))))))))
    · have hf := ifn hc hf
      refine j_aload_n hX dX12_readItems_13 rfl ?_
      refine j_iload_n hX dX12_readItems_14 rfl ?_
      refine j_iload hX dX12_readItems_15 rfl ?_
      refine j_iadd hX dX12_readItems_17 ?_
      refine j_iload_n hX dX12_readItems_18 rfl ?_
      refine jpc (b := 19) rfl ?_
      refine j_iload hX dX12_readItems_19 rfl ?_
      obtain ⟨v8, hh9, hf⟩ := bd1 hf
      refine j_cS2i hX lk_X12_224 dX12_readItems_21 (okX12_usual hG hh9) rfl rfl (rmm (by omega) hRf hRl (by decide)) (Nat.le_of_ble_eq_true rfl) (Nat.le_add_right _ _) (Nat.le_add_right _ _) ?_
      obtain ⟨hg, hf⟩ := gd hf
      have hf := ltd hf
      refine j_iast hX h2 hg dX12_readItems_24 ?_
      refine j_iinc hX dX12_readItems_25 rfl (congrArg (_ + ·) ic_1) (by decide) rfl ?_
      refine j_goto (tgt := 3) hX dX12_readItems_28 (by decide) ?_
      exact aJx (ih _ _ _ _ hG  hf) (And.intro rfl (And.intro rfl (And.intro rfl (And.intro rfl (And.intro rfl (And.intro rfl (rfl)))))))
def fX12_readItems (w2 : Nat) (n2 : Nat) (j4 : Nat) (a1 : Int32) (a3 : Int32) (i : Nat → Nat → Int32) (rv : Nat → Nat → Option Nat) : Option ((Nat → Nat → Int32)) := fX12_readItems_3 w2 n2 j4 fuel a1 a3 0 i rv
theorem kX12_readItems  {w2 : Nat} {n2 : Nat} {j4 : Nat} {iR : Nat → Nat → Int32} (hX : aX p s m args c RX12 cX12_readItems 7 D cA A ad0) (hr : meth.sig.returnType = none) (hlk : meth.locks = false) (hRf : 5 ≤ R.frames) (hRl : 64 * 5 ≤ R.locals) (h2 : sh[w2]? = some (.inl (.int, n2))) (h4 : j4 < 8) {a1 : Int32} {a3 : Int32} (hG : aGood sh rv) (hf : fX12_readItems w2 n2 j4 a1 a3 i rv = some (iR)) : aJ p l e R s m args below meth c (MQ below (aPost D cA ad0 A (sh, i0, lo0, rv0) none (sh, iR, lo, rv)) args s (sh.length - sh.length) (aSn sh - aSn sh) A) D cA A ad0 7 sh.length (aSn sh) 0 [some (.ref (100 + 50)), some (.int a1), some (.ref (100 + w2)), some (.int a3), some (.ref (10 + j4)), none, none] [] (sh, i, lo, rv) := by
  unfold fX12_readItems at hf
  refine j_iconst hX dX12_readItems_0 ic_0 ?_
  refine j_istore hX dX12_readItems_1 (by decide) rfl ?_
  exact aJx (kX12_readItems_3 hX hr hlk hRf hRl h2 h4 fuel _ _ _ _ hG  hf) (And.intro rfl (And.intro rfl (And.intro rfl (And.intro rfl (And.intro rfl (And.intro rfl (rfl)))))))
theorem okX12_readItems {l : Launch} {sh : List aSh} {i : Nat → Nat → Int32} {lo : Nat → Nat → Int64} {rv : Nat → Nat → Option Nat}  {w2 : Nat} {n2 : Nat} {j4 : Nat} {a1 : Int32} {a3 : Int32} {iR : Nat → Nat → Int32} (hG : aGood sh rv) (h2 : sh[w2]? = some (.inl (.int, n2))) (h4 : j4 < 8) (hf : fX12_readItems w2 n2 j4 a1 a3 i rv = some (iR)) : aM l yX12_readItems cX12_readItems 7 none 5 [.ref (100 + 50), .int a1, .ref (100 + w2), .int a3, .ref (10 + j4)] (sh, i, lo, rv) none (sh, iR, lo, rv) :=
  aM_of (by decide) (Nat.le_of_ble_eq_true rfl) (Nat.le_refl _) (Nat.le_refl _) (fun p e s m args below meth c D cA A ad0 hX hr hlk hnm => kX12_readItems hX hr hlk (Nat.le_refl _) (Nat.le_refl _) h2 h4 hG hf)
def fX12_readClause_52 (x1 : Int32) (s0 : Int32) (i : Nat → Nat → Int32) (rv : Nat → Nat → Option Nat) : Option ((Nat → Nat → Int32)) := if s0 = 0 then (bn2 (fX12_fails i) fun v14 i15 =>
    some (i15)) else (lt (u2 i 50 10 ((i 50 10) + (1 : Int32))) fun i4 =>
    if x1 = 115 then (lt (u2 i4 50 32 1) fun i11 =>
    bn1 (fX12_readItems 56 4 4 x1 0 i11 rv) fun i12 =>
    some (i12)) else (if x1 = 112 then (lt (u2 i4 50 29 ((i4 50 29) + (1 : Int32))) fun i8 =>
    bn1 (fX12_readItems 58 54 6 x1 ((6 : Int32) * ((i8 50 29) - (1 : Int32))) i8 rv) fun i9 =>
    some (i9)) else (lt (u2 i4 50 30 ((i4 50 30) + (1 : Int32))) fun i5 =>
    bn1 (fX12_readItems 60 16 7 x1 ((4 : Int32) * ((i5 50 30) - (1 : Int32))) i5 rv) fun i6 =>
    some (i6))))
theorem kX12_readClause_52  {iR : Nat → Nat → Int32} (hX : aX p s m args c RX12 cX12_readClause 3 D cA A ad0) (hr : meth.sig.returnType = none) (hlk : meth.locks = false) (hRf : 6 ≤ R.frames) (hRl : 64 * 6 ≤ R.locals) {x1 : Int32} {s0 : Int32} (hG : aGood sh rv) (hf : fX12_readClause_52 x1 s0 i rv = some (iR)) : aJ p l e R s m args below meth c (MQ below (aPost D cA ad0 A (sh, i0, lo0, rv0) none (sh, iR, lo, rv)) args s (sh.length - sh.length) (aSn sh - aSn sh) A) D cA A ad0 3 sh.length (aSn sh) 52 [some (.ref (100 + 50)), some (.int x1), none] [.int s0] (sh, i, lo, rv) := by
  unfold fX12_readClause_52 at hf
  refine j_istore_n hX dX12_readClause_52 (by decide) rfl ?_
  refine j_iload_n hX dX12_readClause_53 rfl ?_
  refine j_if_ne (tgt := 63) hX dX12_readClause_54 (by decide) (fun hc => ?_) (fun hc => ?_)
  · have hf := ifn hc hf
    refine j_aload_n hX dX12_readClause_63 rfl ?_
    refine j_dup hX dX12_readClause_64 rfl ?_
    refine j_getI (k := 10) hX kX12 (by decide) fk_X12_122 dX12_readClause_65 (sh_50 hG) rfl ?_
    refine j_iconst hX dX12_readClause_68 ic_1 ?_
    refine j_iadd hX dX12_readClause_69 ?_
    refine jpc (b := 70) rfl ?_
    have hf := ltd hf
    refine j_putI (k := 10) hX kX12 (by decide) fk_X12_122 dX12_readClause_70 (sh_50 hG) rfl rfl rfl rfl ?_
    refine j_iload_n hX dX12_readClause_73 rfl ?_
    refine j_bipush hX dX12_readClause_74 bp_115 ?_
    refine j_icmp_ne (tgt := 99) hX dX12_readClause_76 (by decide) (fun hc => ?_) (fun hc => ?_)
    · have hf := ifn hc hf
      refine j_iload_n hX dX12_readClause_99 rfl ?_
      refine j_bipush hX dX12_readClause_100 bp_112 ?_
      refine j_icmp_ne (tgt := 139) hX dX12_readClause_102 (by decide) (fun hc => ?_) (fun hc => ?_)
      · have hf := ifn hc hf
        refine j_aload_n hX dX12_readClause_139 rfl ?_
        refine j_dup hX dX12_readClause_140 rfl ?_
        refine j_getI (k := 30) hX kX12 (by decide) fk_X12_251 dX12_readClause_141 (sh_50 hG) rfl ?_
        refine j_iconst hX dX12_readClause_144 ic_1 ?_
        refine j_iadd hX dX12_readClause_145 ?_
        refine jpc (b := 146) rfl ?_
        have hf := ltd hf
        refine j_putI (k := 30) hX kX12 (by decide) fk_X12_251 dX12_readClause_146 (sh_50 hG) rfl rfl rfl rfl ?_
        refine j_aload_n hX dX12_readClause_149 rfl ?_
        refine j_iload_n hX dX12_readClause_150 rfl ?_
        refine j_aload_n hX dX12_readClause_151 rfl ?_
        refine j_getR (k := 23) hX kX12 (by decide) fk_X12_52 (rf_50_23 hG) dX12_readClause_152 (sh_50 hG) rfl ?_
        refine j_iconst hX dX12_readClause_155 ic_4 ?_
        refine jpc (b := 156) rfl ?_
        refine j_aload_n hX dX12_readClause_156 rfl ?_
        refine j_getI (k := 30) hX kX12 (by decide) fk_X12_251 dX12_readClause_157 (sh_50 hG) rfl ?_
        refine j_iconst hX dX12_readClause_160 ic_1 ?_
        refine j_isub hX dX12_readClause_161 ?_
        refine j_imul hX dX12_readClause_162 ?_
        refine j_ldcSw (j := 7) (tx := "wftk") hX (by decide) (by decide) dX12_readClause_163 ?_
        refine jpc (b := 166) rfl ?_
        obtain ⟨i6, hh7, hf⟩ := bd1 hf
        refine j_cV4v hX lk_X12_256 kX12 dX12_readClause_166 (sh_50 hG) (okX12_readItems hG (sh_60 hG) (by decide) hh7) rfl rfl (rmm (by omega) hRf hRl (by decide)) (Nat.le_of_ble_eq_true rfl) (Nat.le_add_right _ _) (Nat.le_add_right _ _) ?_
        cases hf
        exact j_vret hX hr hlk dX12_readClause_169
      · have hf := ifp hc hf
        refine j_aload_n hX dX12_readClause_105 rfl ?_
        refine j_dup hX dX12_readClause_106 rfl ?_
        refine j_getI (k := 29) hX kX12 (by decide) fk_X12_248 dX12_readClause_107 (sh_50 hG) rfl ?_
        refine j_iconst hX dX12_readClause_110 ic_1 ?_
        refine j_iadd hX dX12_readClause_111 ?_
        refine jpc (b := 112) rfl ?_
        have hf := ltd hf
        refine j_putI (k := 29) hX kX12 (by decide) fk_X12_248 dX12_readClause_112 (sh_50 hG) rfl rfl rfl rfl ?_
        refine j_aload_n hX dX12_readClause_115 rfl ?_
        refine j_iload_n hX dX12_readClause_116 rfl ?_
        refine j_aload_n hX dX12_readClause_117 rfl ?_
        refine j_getR (k := 21) hX kX12 (by decide) fk_X12_46 (rf_50_21 hG) dX12_readClause_118 (sh_50 hG) rfl ?_
        refine j_bipush hX dX12_readClause_121 bp_6 ?_
        refine jpc (b := 123) rfl ?_
        refine j_aload_n hX dX12_readClause_123 rfl ?_
        refine j_getI (k := 29) hX kX12 (by decide) fk_X12_248 dX12_readClause_124 (sh_50 hG) rfl ?_
        refine j_iconst hX dX12_readClause_127 ic_1 ?_
        refine j_isub hX dX12_readClause_128 ?_
        refine j_imul hX dX12_readClause_129 ?_
        refine j_ldcSw (j := 6) (tx := "tlnsfc") hX (by decide) (by decide) dX12_readClause_130 ?_
        refine jpc (b := 133) rfl ?_
        obtain ⟨i9, hh10, hf⟩ := bd1 hf
        refine j_cV4v hX lk_X12_256 kX12 dX12_readClause_133 (sh_50 hG) (okX12_readItems hG (sh_58 hG) (by decide) hh10) rfl rfl (rmm (by omega) hRf hRl (by decide)) (Nat.le_of_ble_eq_true rfl) (Nat.le_add_right _ _) (Nat.le_add_right _ _) ?_
        refine j_goto (tgt := 169) hX dX12_readClause_136 (by decide) ?_
        cases hf
        exact j_vret hX hr hlk dX12_readClause_169
    · have hf := ifp hc hf
      refine j_aload_n hX dX12_readClause_79 rfl ?_
      refine j_iconst hX dX12_readClause_80 ic_1 ?_
      have hf := ltd hf
      refine j_putI (k := 32) hX kX12 (by decide) fk_X12_245 dX12_readClause_81 (sh_50 hG) rfl rfl rfl rfl ?_
      refine j_aload_n hX dX12_readClause_84 rfl ?_
      refine j_iload_n hX dX12_readClause_85 rfl ?_
      refine jpc (b := 86) rfl ?_
      refine j_aload_n hX dX12_readClause_86 rfl ?_
      refine j_getR (k := 19) hX kX12 (by decide) fk_X12_40 (rf_50_19 hG) dX12_readClause_87 (sh_50 hG) rfl ?_
      refine j_iconst hX dX12_readClause_90 ic_0 ?_
      refine j_ldcS (j := 4) (tx := "agce") hX (by decide) (by decide) dX12_readClause_91 ?_
      obtain ⟨i12, hh13, hf⟩ := bd1 hf
      refine j_cV4v hX lk_X12_256 kX12 dX12_readClause_93 (sh_50 hG) (okX12_readItems hG (sh_56 hG) (by decide) hh13) rfl rfl (rmm (by omega) hRf hRl (by decide)) (Nat.le_of_ble_eq_true rfl) (Nat.le_add_right _ _) (Nat.le_add_right _ _) ?_
      refine j_goto (tgt := 169) hX dX12_readClause_96 (by decide) ?_
      refine jpc (b := 169) rfl ?_
      cases hf
      exact j_vret hX hr hlk dX12_readClause_169
  · have hf := ifp hc hf
    refine j_aload_n hX dX12_readClause_57 rfl ?_
    obtain ⟨v14, i15, hh16, hf⟩ := bd2 hf
    refine j_cV0i hX lk_X12_137 kX12 dX12_readClause_58 (sh_50 hG) (okX12_fails hG hh16) rfl rfl (rmm (by omega) hRf hRl (by decide)) (Nat.le_of_ble_eq_true rfl) (Nat.le_add_right _ _) (Nat.le_add_right _ _) ?_
    refine j_pop hX dX12_readClause_61 rfl ?_
    cases hf
    exact j_vret hX hr hlk dX12_readClause_62
def fX12_readClause_47 (x1 : Int32) (i : Nat → Nat → Int32) (rv : Nat → Nat → Option Nat) : Option ((Nat → Nat → Int32)) := fX12_readClause_52 x1 1 i rv
theorem kX12_readClause_47  {iR : Nat → Nat → Int32} (hX : aX p s m args c RX12 cX12_readClause 3 D cA A ad0) (hr : meth.sig.returnType = none) (hlk : meth.locks = false) (hRf : 6 ≤ R.frames) (hRl : 64 * 6 ≤ R.locals) {x1 : Int32} (hG : aGood sh rv) (hf : fX12_readClause_47 x1 i rv = some (iR)) : aJ p l e R s m args below meth c (MQ below (aPost D cA ad0 A (sh, i0, lo0, rv0) none (sh, iR, lo, rv)) args s (sh.length - sh.length) (aSn sh - aSn sh) A) D cA A ad0 3 sh.length (aSn sh) 47 [some (.ref (100 + 50)), some (.int x1), none] [] (sh, i, lo, rv) := by
  unfold fX12_readClause_47 at hf
  refine j_iconst hX dX12_readClause_47 ic_1 ?_
  refine j_goto (tgt := 52) hX dX12_readClause_48 (by decide) ?_
  exact aJx (kX12_readClause_52 hX hr hlk hRf hRl hG  hf) (And.intro rfl (And.intro rfl (rfl)))
def fX12_readClause_51 (x1 : Int32) (i : Nat → Nat → Int32) (rv : Nat → Nat → Option Nat) : Option ((Nat → Nat → Int32)) := fX12_readClause_52 x1 0 i rv
theorem kX12_readClause_51  {iR : Nat → Nat → Int32} (hX : aX p s m args c RX12 cX12_readClause 3 D cA A ad0) (hr : meth.sig.returnType = none) (hlk : meth.locks = false) (hRf : 6 ≤ R.frames) (hRl : 64 * 6 ≤ R.locals) {x1 : Int32} (hG : aGood sh rv) (hf : fX12_readClause_51 x1 i rv = some (iR)) : aJ p l e R s m args below meth c (MQ below (aPost D cA ad0 A (sh, i0, lo0, rv0) none (sh, iR, lo, rv)) args s (sh.length - sh.length) (aSn sh - aSn sh) A) D cA A ad0 3 sh.length (aSn sh) 51 [some (.ref (100 + 50)), some (.int x1), none] [] (sh, i, lo, rv) := by
  unfold fX12_readClause_51 at hf
  refine j_iconst hX dX12_readClause_51 ic_0 ?_
  exact aJx (kX12_readClause_52 hX hr hlk hRf hRl hG  hf) (And.intro rfl (And.intro rfl (rfl)))
def fX12_readClause_33 (x1 : Int32) (i : Nat → Nat → Int32) (rv : Nat → Nat → Option Nat) : Option ((Nat → Nat → Int32)) := if x1 = 111 then (if 4 ≤ (i 50 30) then (fX12_readClause_51 x1 i rv) else (fX12_readClause_47 x1 i rv)) else (fX12_readClause_51 x1 i rv)
theorem kX12_readClause_33  {iR : Nat → Nat → Int32} (hX : aX p s m args c RX12 cX12_readClause 3 D cA A ad0) (hr : meth.sig.returnType = none) (hlk : meth.locks = false) (hRf : 6 ≤ R.frames) (hRl : 64 * 6 ≤ R.locals) {x1 : Int32} (hG : aGood sh rv) (hf : fX12_readClause_33 x1 i rv = some (iR)) : aJ p l e R s m args below meth c (MQ below (aPost D cA ad0 A (sh, i0, lo0, rv0) none (sh, iR, lo, rv)) args s (sh.length - sh.length) (aSn sh - aSn sh) A) D cA A ad0 3 sh.length (aSn sh) 33 [some (.ref (100 + 50)), some (.int x1), none] [] (sh, i, lo, rv) := by
  unfold fX12_readClause_33 at hf
  refine j_iload_n hX dX12_readClause_33 rfl ?_
  refine j_bipush hX dX12_readClause_34 bp_111 ?_
  refine j_icmp_ne (tgt := 51) hX dX12_readClause_36 (by decide) (fun hc => ?_) (fun hc => ?_)
  · have hf := ifn hc hf
    exact aJx (kX12_readClause_51 hX hr hlk hRf hRl hG  hf) (And.intro rfl (And.intro rfl (rfl)))
  · have hf := ifp hc hf
    refine j_aload_n hX dX12_readClause_39 rfl ?_
    refine j_getI (k := 30) hX kX12 (by decide) fk_X12_251 dX12_readClause_40 (sh_50 hG) rfl ?_
    refine j_iconst hX dX12_readClause_43 ic_4 ?_
    refine j_icmp_ge (tgt := 51) hX dX12_readClause_44 (by decide) (fun hc => ?_) (fun hc => ?_)
    · have hf := ifp hc hf
      exact aJx (kX12_readClause_51 hX hr hlk hRf hRl hG  hf) (And.intro rfl (And.intro rfl (rfl)))
    · have hf := ifn hc hf
      exact aJx (kX12_readClause_47 hX hr hlk hRf hRl hG  hf) (And.intro rfl (And.intro rfl (rfl)))
def fX12_readClause_18 (x1 : Int32) (i : Nat → Nat → Int32) (rv : Nat → Nat → Option Nat) : Option ((Nat → Nat → Int32)) := if x1 = 112 then (if (i 50 29) < 9 then (fX12_readClause_47 x1 i rv) else (fX12_readClause_33 x1 i rv)) else (fX12_readClause_33 x1 i rv)
theorem kX12_readClause_18  {iR : Nat → Nat → Int32} (hX : aX p s m args c RX12 cX12_readClause 3 D cA A ad0) (hr : meth.sig.returnType = none) (hlk : meth.locks = false) (hRf : 6 ≤ R.frames) (hRl : 64 * 6 ≤ R.locals) {x1 : Int32} (hG : aGood sh rv) (hf : fX12_readClause_18 x1 i rv = some (iR)) : aJ p l e R s m args below meth c (MQ below (aPost D cA ad0 A (sh, i0, lo0, rv0) none (sh, iR, lo, rv)) args s (sh.length - sh.length) (aSn sh - aSn sh) A) D cA A ad0 3 sh.length (aSn sh) 18 [some (.ref (100 + 50)), some (.int x1), none] [] (sh, i, lo, rv) := by
  unfold fX12_readClause_18 at hf
  refine j_iload_n hX dX12_readClause_18 rfl ?_
  refine j_bipush hX dX12_readClause_19 bp_112 ?_
  refine j_icmp_ne (tgt := 33) hX dX12_readClause_21 (by decide) (fun hc => ?_) (fun hc => ?_)
  · have hf := ifn hc hf
    exact aJx (kX12_readClause_33 hX hr hlk hRf hRl hG  hf) (And.intro rfl (And.intro rfl (rfl)))
  · have hf := ifp hc hf
    refine j_aload_n hX dX12_readClause_24 rfl ?_
    refine j_getI (k := 29) hX kX12 (by decide) fk_X12_248 dX12_readClause_25 (sh_50 hG) rfl ?_
    refine j_bipush hX dX12_readClause_28 bp_9 ?_
    refine j_icmp_lt (tgt := 47) hX dX12_readClause_30 (by decide) (fun hc => ?_) (fun hc => ?_)
    · have hf := ifp hc hf
      exact aJx (kX12_readClause_47 hX hr hlk hRf hRl hG  hf) (And.intro rfl (And.intro rfl (rfl)))
    · have hf := ifn hc hf
      exact aJx (kX12_readClause_33 hX hr hlk hRf hRl hG  hf) (And.intro rfl (And.intro rfl (rfl)))
def fX12_readClause (i : Nat → Nat → Int32) (rv : Nat → Nat → Option Nat) : Option ((Nat → Nat → Int32)) := bn2 (fX12_look i rv) fun v1 i2 =>
    if v1 = 115 then (if (i2 50 32) = 0 then (fX12_readClause_47 v1 i2 rv) else (fX12_readClause_18 v1 i2 rv)) else (fX12_readClause_18 v1 i2 rv)
theorem kX12_readClause  {iR : Nat → Nat → Int32} (hX : aX p s m args c RX12 cX12_readClause 3 D cA A ad0) (hr : meth.sig.returnType = none) (hlk : meth.locks = false) (hRf : 6 ≤ R.frames) (hRl : 64 * 6 ≤ R.locals) (hG : aGood sh rv) (hf : fX12_readClause i rv = some (iR)) : aJ p l e R s m args below meth c (MQ below (aPost D cA ad0 A (sh, i0, lo0, rv0) none (sh, iR, lo, rv)) args s (sh.length - sh.length) (aSn sh - aSn sh) A) D cA A ad0 3 sh.length (aSn sh) 0 [some (.ref (100 + 50)), none, none] [] (sh, i, lo, rv) := by
  unfold fX12_readClause at hf
  refine j_aload_n hX dX12_readClause_0 rfl ?_
  obtain ⟨v1, i2, hh3, hf⟩ := bd2 hf
  refine j_cV0i hX lk_X12_141 kX12 dX12_readClause_1 (sh_50 hG) (okX12_look hG hh3) rfl rfl (rmm (by omega) hRf hRl (by decide)) (Nat.le_of_ble_eq_true rfl) (Nat.le_add_right _ _) (Nat.le_add_right _ _) ?_
  refine j_istore_n hX dX12_readClause_4 (by decide) rfl ?_
  refine j_iload_n hX dX12_readClause_5 rfl ?_
  refine j_bipush hX dX12_readClause_6 bp_115 ?_
  refine jpc (b := 8) rfl ?_
  refine j_icmp_ne (tgt := 18) hX dX12_readClause_8 (by decide) (fun hc => ?_) (fun hc => ?_)
  · have hf := ifn hc hf
    exact aJx (kX12_readClause_18 hX hr hlk hRf hRl hG  hf) (And.intro rfl (And.intro rfl (rfl)))
  · have hf := ifp hc hf
    refine j_aload_n hX dX12_readClause_11 rfl ?_
    refine j_getI (k := 32) hX kX12 (by decide) fk_X12_245 dX12_readClause_12 (sh_50 hG) rfl ?_
    refine j_if_eq (tgt := 47) hX dX12_readClause_15 (by decide) (fun hc => ?_) (fun hc => ?_)
    · have hf := ifp hc hf
      exact aJx (kX12_readClause_47 hX hr hlk hRf hRl hG  hf) (And.intro rfl (And.intro rfl (rfl)))
    · have hf := ifn hc hf
      exact aJx (kX12_readClause_18 hX hr hlk hRf hRl hG  hf) (And.intro rfl (And.intro rfl (rfl)))
theorem okX12_readClause {l : Launch} {sh : List aSh} {i : Nat → Nat → Int32} {lo : Nat → Nat → Int64} {rv : Nat → Nat → Option Nat}  {iR : Nat → Nat → Int32} (hG : aGood sh rv) (hf : fX12_readClause i rv = some (iR)) : aM l yX12_readClause cX12_readClause 3 none 6 [.ref (100 + 50)] (sh, i, lo, rv) none (sh, iR, lo, rv) :=
  aM_of (by decide) (Nat.le_of_ble_eq_true rfl) (Nat.le_refl _) (Nat.le_refl _) (fun p e s m args below meth c D cA A ad0 hX hr hlk hnm => kX12_readClause hX hr hlk (Nat.le_refl _) (Nat.le_refl _) hG hf)
def fX12_isWhole_35 (kh4 : Int32 → Int32 → (Nat → Nat → Int32) → Option ((Int32))) (x2 : Int32) (s0 : Int32) (i : Nat → Nat → Int32) : Option ((Int32)) := kh4 s0 (x2 + 1) i
theorem kX12_isWhole_35  {vR : Int32} (hX : aX p s m args c RX12 cX12_isWhole 3 D cA A ad0) (hr : meth.sig.returnType = (some .boolean)) (hlk : meth.locks = false) (hRf : 0 ≤ R.frames) (hRl : 64 * 0 ≤ R.locals) {kh4 : Int32 → Int32 → (Nat → Nat → Int32) → Option ((Int32))} (Hkh4 : ∀ (x1 : Int32) (x2 : Int32), aGood sh rv → kh4 x1 x2 i = some (vR) → aJ p l e R s m args below meth c (MQ below (aPost D cA ad0 A (sh, i0, lo0, rv0) (some (.int vR)) (sh, i, lo, rv)) args s (sh.length - sh.length) (aSn sh - aSn sh) A) D cA A ad0 3 sh.length (aSn sh) 4 [some (.ref (100 + 50)), some (.int x1), some (.int x2)] [] (sh, i, lo, rv)) {x2 : Int32} {s0 : Int32} (hG : aGood sh rv) (hf : fX12_isWhole_35 kh4 x2 s0 i = some (vR)) : aJ p l e R s m args below meth c (MQ below (aPost D cA ad0 A (sh, i0, lo0, rv0) (some (.int vR)) (sh, i, lo, rv)) args s (sh.length - sh.length) (aSn sh - aSn sh) A) D cA A ad0 3 sh.length (aSn sh) 35 [some (.ref (100 + 50)), none, some (.int x2)] [.int s0] (sh, i, lo, rv) := by
  unfold fX12_isWhole_35 at hf
  refine j_istore_n hX dX12_isWhole_35 (by decide) rfl ?_
  refine j_iinc hX dX12_isWhole_36 rfl (congrArg (_ + ·) ic_1) (by decide) rfl ?_
  refine j_goto (tgt := 4) hX dX12_isWhole_39 (by decide) ?_
  exact aJx (Hkh4 _ _ hG  hf) (And.intro rfl (And.intro rfl (And.intro rfl (rfl))))
def fX12_isWhole_30 (kh4 : Int32 → Int32 → (Nat → Nat → Int32) → Option ((Int32))) (x2 : Int32) (i : Nat → Nat → Int32) : Option ((Int32)) := fX12_isWhole_35 kh4 x2 1 i
theorem kX12_isWhole_30  {vR : Int32} (hX : aX p s m args c RX12 cX12_isWhole 3 D cA A ad0) (hr : meth.sig.returnType = (some .boolean)) (hlk : meth.locks = false) (hRf : 0 ≤ R.frames) (hRl : 64 * 0 ≤ R.locals) {kh4 : Int32 → Int32 → (Nat → Nat → Int32) → Option ((Int32))} (Hkh4 : ∀ (x1 : Int32) (x2 : Int32), aGood sh rv → kh4 x1 x2 i = some (vR) → aJ p l e R s m args below meth c (MQ below (aPost D cA ad0 A (sh, i0, lo0, rv0) (some (.int vR)) (sh, i, lo, rv)) args s (sh.length - sh.length) (aSn sh - aSn sh) A) D cA A ad0 3 sh.length (aSn sh) 4 [some (.ref (100 + 50)), some (.int x1), some (.int x2)] [] (sh, i, lo, rv)) {x2 : Int32} (hG : aGood sh rv) (hf : fX12_isWhole_30 kh4 x2 i = some (vR)) : aJ p l e R s m args below meth c (MQ below (aPost D cA ad0 A (sh, i0, lo0, rv0) (some (.int vR)) (sh, i, lo, rv)) args s (sh.length - sh.length) (aSn sh - aSn sh) A) D cA A ad0 3 sh.length (aSn sh) 30 [some (.ref (100 + 50)), none, some (.int x2)] [] (sh, i, lo, rv) := by
  unfold fX12_isWhole_30 at hf
  refine j_iconst hX dX12_isWhole_30 ic_1 ?_
  refine j_goto (tgt := 35) hX dX12_isWhole_31 (by decide) ?_
  exact aJx (kX12_isWhole_35 hX hr hlk hRf hRl Hkh4 hG  hf) (And.intro rfl (And.intro rfl (rfl)))
def fX12_isWhole_4 : Nat → Int32 → Int32 → (Nat → Nat → Int32) → Option ((Int32))
  | 0, _, _, _ => none
  | n + 1, x1, x2, i => if (i 50 29) ≤ x2 then (if x1 = 0 then (some (0)) else (if (i 50 30) ≤ 0 then (some (0)) else (some (1)))) else (if x1 = 0 then (if aIn (((6 : Int32) * x2) + (5 : Int32)) 54 = true then
    (if (i 58 ((((6 : Int32) * x2) + (5 : Int32)) : Int32).toNatClampNeg) = 0 then (fX12_isWhole_30 (fX12_isWhole_4 n) x2 i) else (fX12_isWhole_35 (fX12_isWhole_4 n) x2 0 i)) else none) else (fX12_isWhole_30 (fX12_isWhole_4 n) x2 i))
theorem kX12_isWhole_4  {vR : Int32} (hX : aX p s m args c RX12 cX12_isWhole 3 D cA A ad0) (hr : meth.sig.returnType = (some .boolean)) (hlk : meth.locks = false) (hRf : 0 ≤ R.frames) (hRl : 64 * 0 ≤ R.locals) : ∀ (n : Nat) (x1 : Int32) (x2 : Int32), aGood sh rv → fX12_isWhole_4 n x1 x2 i = some (vR) → aJ p l e R s m args below meth c (MQ below (aPost D cA ad0 A (sh, i0, lo0, rv0) (some (.int vR)) (sh, i, lo, rv)) args s (sh.length - sh.length) (aSn sh - aSn sh) A) D cA A ad0 3 sh.length (aSn sh) 4 [some (.ref (100 + 50)), some (.int x1), some (.int x2)] [] (sh, i, lo, rv) := by
  intro n
  induction n with
  | zero => intros; rename_i hf; cases hf
  | succ n ih =>
    intro x1 x2 hG hf
    rw [fX12_isWhole_4] at hf
    refine j_iload_n hX dX12_isWhole_4 rfl ?_
    refine j_aload_n hX dX12_isWhole_5 rfl ?_
    refine j_getI (k := 29) hX kX12 (by decide) fk_X12_248 dX12_isWhole_6 (sh_50 hG) rfl ?_
    refine j_icmp_ge (tgt := 42) hX dX12_isWhole_9 (by decide) (fun hc => ?_) (fun hc => ?_)
    · have hf := ifp hc hf
      refine j_iload_n hX dX12_isWhole_42 rfl ?_
      refine j_if_eq (tgt := 57) hX dX12_isWhole_43 (by decide) (fun hc => ?_) (fun hc => ?_)
      · have hf := ifp hc hf
        refine j_iconst hX dX12_isWhole_57 ic_0 ?_
        cases hf
        exact j_ret hX hr hlk rfl dX12_isWhole_58
      · have hf := ifn hc hf
        refine j_aload_n hX dX12_isWhole_46 rfl ?_
        refine j_getI (k := 30) hX kX12 (by decide) fk_X12_251 dX12_isWhole_47 (sh_50 hG) rfl ?_
        refine j_if_le (tgt := 57) hX dX12_isWhole_50 (by decide) (fun hc => ?_) (fun hc => ?_)
        · have hf := ifp hc hf
          refine j_iconst hX dX12_isWhole_57 ic_0 ?_
          cases hf
          exact j_ret hX hr hlk rfl dX12_isWhole_58
        · have hf := ifn hc hf
          refine j_iconst hX dX12_isWhole_53 ic_1 ?_
          refine j_goto (tgt := 58) hX dX12_isWhole_54 (by decide) ?_
          cases hf
          exact j_ret hX hr hlk rfl dX12_isWhole_58
    · have hf := ifn hc hf
      refine j_iload_n hX dX12_isWhole_12 rfl ?_
      refine j_if_ne (tgt := 30) hX dX12_isWhole_13 (by decide) (fun hc => ?_) (fun hc => ?_)
      · have hf := ifn hc hf
        exact aJx (kX12_isWhole_30 hX hr hlk hRf hRl ih hG  hf) (And.intro rfl (And.intro rfl (rfl)))
      · have hf := ifp hc hf
        refine j_aload_n hX dX12_isWhole_16 rfl ?_
        refine j_getR (k := 21) hX kX12 (by decide) fk_X12_46 (rf_50_21 hG) dX12_isWhole_17 (sh_50 hG) rfl ?_
        refine j_bipush hX dX12_isWhole_20 bp_6 ?_
        refine j_iload_n hX dX12_isWhole_22 rfl ?_
        refine j_imul hX dX12_isWhole_23 ?_
        refine jpc (b := 24) rfl ?_
        refine j_iconst hX dX12_isWhole_24 ic_5 ?_
        refine j_iadd hX dX12_isWhole_25 ?_
        obtain ⟨hg, hf⟩ := gd hf
        refine j_iald hX (sh_58 hG) hg dX12_isWhole_26 ?_
        refine j_if_ne (tgt := 34) hX dX12_isWhole_27 (by decide) (fun hc => ?_) (fun hc => ?_)
        · have hf := ifn hc hf
          refine j_iconst hX dX12_isWhole_34 ic_0 ?_
          exact aJx (kX12_isWhole_35 hX hr hlk hRf hRl ih hG  hf) (And.intro rfl (And.intro rfl (rfl)))
        · have hf := ifp hc hf
          exact aJx (kX12_isWhole_30 hX hr hlk hRf hRl ih hG  hf) (And.intro rfl (And.intro rfl (rfl)))
def fX12_isWhole (i : Nat → Nat → Int32) : Option ((Int32)) := fX12_isWhole_4 fuel 0 0 i
theorem kX12_isWhole  {vR : Int32} (hX : aX p s m args c RX12 cX12_isWhole 3 D cA A ad0) (hr : meth.sig.returnType = (some .boolean)) (hlk : meth.locks = false) (hRf : 0 ≤ R.frames) (hRl : 64 * 0 ≤ R.locals) (hG : aGood sh rv) (hf : fX12_isWhole i = some (vR)) : aJ p l e R s m args below meth c (MQ below (aPost D cA ad0 A (sh, i0, lo0, rv0) (some (.int vR)) (sh, i, lo, rv)) args s (sh.length - sh.length) (aSn sh - aSn sh) A) D cA A ad0 3 sh.length (aSn sh) 0 [some (.ref (100 + 50)), none, none] [] (sh, i, lo, rv) := by
  unfold fX12_isWhole at hf
  refine j_iconst hX dX12_isWhole_0 ic_0 ?_
  refine j_istore_n hX dX12_isWhole_1 (by decide) rfl ?_
  refine j_iconst hX dX12_isWhole_2 ic_0 ?_
  refine j_istore_n hX dX12_isWhole_3 (by decide) rfl ?_
  exact aJx (kX12_isWhole_4 hX hr hlk hRf hRl fuel _ _ hG  hf) (And.intro rfl (And.intro rfl (And.intro rfl (rfl))))
theorem okX12_isWhole {l : Launch} {sh : List aSh} {i : Nat → Nat → Int32} {lo : Nat → Nat → Int64} {rv : Nat → Nat → Option Nat}  {vR : Int32} (hG : aGood sh rv) (hf : fX12_isWhole i = some (vR)) : aM l yX12_isWhole cX12_isWhole 3 (some .boolean) 0 [.ref (100 + 50)] (sh, i, lo, rv) (some (.int vR)) (sh, i, lo, rv) :=
  aM_of (by decide) (Nat.le_of_ble_eq_true rfl) (Nat.le_refl _) (Nat.le_refl _) (fun p e s m args below meth c D cA A ad0 hX hr hlk hnm => kX12_isWhole hX hr hlk (Nat.le_refl _) (Nat.le_refl _) hG hf)
def fX12_readCar_93 (kh55 : Int32 → (Nat → Nat → Int32) → (Nat → Nat → Option Nat) → Option ((Nat → Nat → Int32) × (Nat → Nat → Option Nat))) (s0 : Int32) (i : Nat → Nat → Int32) (rv : Nat → Nat → Option Nat) : Option ((Nat → Nat → Int32) × (Nat → Nat → Option Nat)) := if s0 = 0 then (kh55 s0 i rv) else (lt (u2 i 50 10 ((i 50 10) + (1 : Int32))) fun i20 =>
    kh55 s0 i20 rv)
theorem kX12_readCar_93  {iR : Nat → Nat → Int32} {rvR : Nat → Nat → Option Nat} (hX : aX p s m args c RX12 cX12_readCar 2 D cA A ad0) (hr : meth.sig.returnType = none) (hlk : meth.locks = false) (hRf : 7 ≤ R.frames) (hRl : 64 * 7 ≤ R.locals) {kh55 : Int32 → (Nat → Nat → Int32) → (Nat → Nat → Option Nat) → Option ((Nat → Nat → Int32) × (Nat → Nat → Option Nat))} (Hkh55 : ∀ (x1 : Int32) (i : Nat → Nat → Int32) (rv : Nat → Nat → Option Nat), aGood sh rv → kh55 x1 i rv = some (iR, rvR) → aJ p l e R s m args below meth c (MQ below (aPost D cA ad0 A (sh, i0, lo0, rv0) none (sh, iR, lo, rvR)) args s (sh.length - sh.length) (aSn sh - aSn sh) A) D cA A ad0 2 sh.length (aSn sh) 55 [some (.ref (100 + 50)), some (.int x1)] [] (sh, i, lo, rv)) {s0 : Int32} (hG : aGood sh rv) (hf : fX12_readCar_93 kh55 s0 i rv = some (iR, rvR)) : aJ p l e R s m args below meth c (MQ below (aPost D cA ad0 A (sh, i0, lo0, rv0) none (sh, iR, lo, rvR)) args s (sh.length - sh.length) (aSn sh - aSn sh) A) D cA A ad0 2 sh.length (aSn sh) 93 [some (.ref (100 + 50)), none] [.int s0] (sh, i, lo, rv) := by
  unfold fX12_readCar_93 at hf
  refine j_istore_n hX dX12_readCar_93 (by decide) rfl ?_
  refine j_iload_n hX dX12_readCar_94 rfl ?_
  refine j_if_eq (tgt := 55) hX dX12_readCar_95 (by decide) (fun hc => ?_) (fun hc => ?_)
  · have hf := ifp hc hf
    exact aJx (Hkh55 _ _ _ hG  hf) (And.intro rfl (And.intro rfl (rfl)))
  · have hf := ifn hc hf
    refine j_aload_n hX dX12_readCar_98 rfl ?_
    refine j_dup hX dX12_readCar_99 rfl ?_
    refine j_getI (k := 10) hX kX12 (by decide) fk_X12_122 dX12_readCar_100 (sh_50 hG) rfl ?_
    refine j_iconst hX dX12_readCar_103 ic_1 ?_
    refine j_iadd hX dX12_readCar_104 ?_
    refine jpc (b := 105) rfl ?_
    have hf := ltd hf
    refine j_putI (k := 10) hX kX12 (by decide) fk_X12_122 dX12_readCar_105 (sh_50 hG) rfl rfl rfl rfl ?_
    refine j_goto (tgt := 55) hX dX12_readCar_108 (by decide) ?_
    exact aJx (Hkh55 _ _ _ hG  hf) (And.intro rfl (And.intro rfl (rfl)))
theorem gX12_readCar_93 {iR : Nat → Nat → Int32} {rvR : Nat → Nat → Option Nat} {kh55 : Int32 → (Nat → Nat → Int32) → (Nat → Nat → Option Nat) → Option ((Nat → Nat → Int32) × (Nat → Nat → Option Nat))} (Hkh55 : ∀ (x1 : Int32) (i : Nat → Nat → Int32) (rv : Nat → Nat → Option Nat), aGood sh rv → kh55 x1 i rv = some (iR, rvR) → aGood sh rvR) {s0 : Int32} (hG : aGood sh rv) (hf : fX12_readCar_93 kh55 s0 i rv = some (iR, rvR)) : aGood sh rvR := by
  unfold fX12_readCar_93 at hf
  refine ifs hf (fun hc hf => ?_) (fun hc hf => ?_)
  · have hf := hf
    exact Hkh55 _ _ _ hG  hf
  · have hf := hf
    have hf := ltd hf
    exact Hkh55 _ _ _ hG  hf
def fX12_readCar_92 (kh55 : Int32 → (Nat → Nat → Int32) → (Nat → Nat → Option Nat) → Option ((Nat → Nat → Int32) × (Nat → Nat → Option Nat))) (i : Nat → Nat → Int32) (rv : Nat → Nat → Option Nat) : Option ((Nat → Nat → Int32) × (Nat → Nat → Option Nat)) := fX12_readCar_93 kh55 0 i rv
theorem kX12_readCar_92  {iR : Nat → Nat → Int32} {rvR : Nat → Nat → Option Nat} (hX : aX p s m args c RX12 cX12_readCar 2 D cA A ad0) (hr : meth.sig.returnType = none) (hlk : meth.locks = false) (hRf : 7 ≤ R.frames) (hRl : 64 * 7 ≤ R.locals) {kh55 : Int32 → (Nat → Nat → Int32) → (Nat → Nat → Option Nat) → Option ((Nat → Nat → Int32) × (Nat → Nat → Option Nat))} (Hkh55 : ∀ (x1 : Int32) (i : Nat → Nat → Int32) (rv : Nat → Nat → Option Nat), aGood sh rv → kh55 x1 i rv = some (iR, rvR) → aJ p l e R s m args below meth c (MQ below (aPost D cA ad0 A (sh, i0, lo0, rv0) none (sh, iR, lo, rvR)) args s (sh.length - sh.length) (aSn sh - aSn sh) A) D cA A ad0 2 sh.length (aSn sh) 55 [some (.ref (100 + 50)), some (.int x1)] [] (sh, i, lo, rv)) (hG : aGood sh rv) (hf : fX12_readCar_92 kh55 i rv = some (iR, rvR)) : aJ p l e R s m args below meth c (MQ below (aPost D cA ad0 A (sh, i0, lo0, rv0) none (sh, iR, lo, rvR)) args s (sh.length - sh.length) (aSn sh - aSn sh) A) D cA A ad0 2 sh.length (aSn sh) 92 [some (.ref (100 + 50)), none] [] (sh, i, lo, rv) := by
  unfold fX12_readCar_92 at hf
  refine j_iconst hX dX12_readCar_92 ic_0 ?_
  exact aJx (kX12_readCar_93 hX hr hlk hRf hRl Hkh55 hG  hf) (And.intro rfl (rfl))
theorem gX12_readCar_92 {iR : Nat → Nat → Int32} {rvR : Nat → Nat → Option Nat} {kh55 : Int32 → (Nat → Nat → Int32) → (Nat → Nat → Option Nat) → Option ((Nat → Nat → Int32) × (Nat → Nat → Option Nat))} (Hkh55 : ∀ (x1 : Int32) (i : Nat → Nat → Int32) (rv : Nat → Nat → Option Nat), aGood sh rv → kh55 x1 i rv = some (iR, rvR) → aGood sh rvR) (hG : aGood sh rv) (hf : fX12_readCar_92 kh55 i rv = some (iR, rvR)) : aGood sh rvR := by
  unfold fX12_readCar_92 at hf
  exact gX12_readCar_93 Hkh55 hG  hf
def fX12_readCar_134 (i : Nat → Nat → Int32) (rv : Nat → Nat → Option Nat) : Option ((Nat → Nat → Int32) × (Nat → Nat → Option Nat)) := bn2 (fX12_fails i) fun v21 i22 =>
    some (i22, rv)
theorem kX12_readCar_134  {iR : Nat → Nat → Int32} {rvR : Nat → Nat → Option Nat} (hX : aX p s m args c RX12 cX12_readCar 2 D cA A ad0) (hr : meth.sig.returnType = none) (hlk : meth.locks = false) (hRf : 7 ≤ R.frames) (hRl : 64 * 7 ≤ R.locals) (hG : aGood sh rv) (hf : fX12_readCar_134 i rv = some (iR, rvR)) : aJ p l e R s m args below meth c (MQ below (aPost D cA ad0 A (sh, i0, lo0, rv0) none (sh, iR, lo, rvR)) args s (sh.length - sh.length) (aSn sh - aSn sh) A) D cA A ad0 2 sh.length (aSn sh) 134 [some (.ref (100 + 50)), none] [] (sh, i, lo, rv) := by
  unfold fX12_readCar_134 at hf
  refine j_aload_n hX dX12_readCar_134 rfl ?_
  obtain ⟨v21, i22, hh23, hf⟩ := bd2 hf
  refine j_cV0i hX lk_X12_137 kX12 dX12_readCar_135 (sh_50 hG) (okX12_fails hG hh23) rfl rfl (rmm (by omega) hRf hRl (by decide)) (Nat.le_of_ble_eq_true rfl) (Nat.le_add_right _ _) (Nat.le_add_right _ _) ?_
  refine j_pop hX dX12_readCar_138 rfl ?_
  cases hf
  exact j_vret hX hr hlk dX12_readCar_139
theorem gX12_readCar_134 {iR : Nat → Nat → Int32} {rvR : Nat → Nat → Option Nat} (hG : aGood sh rv) (hf : fX12_readCar_134 i rv = some (iR, rvR)) : aGood sh rvR := by
  unfold fX12_readCar_134 at hf
  obtain ⟨v21, i22, hh23, hf⟩ := bd2 hf
  cases hf
  exact hG
def fX12_readCar_111 (i : Nat → Nat → Int32) (rv : Nat → Nat → Option Nat) : Option ((Nat → Nat → Int32) × (Nat → Nat → Option Nat)) := if (i 50 11) = (-1) then (bn2 (fX12_look i rv) fun v15 i16 =>
    if v15 = (-1) then (bn1 (fX12_isWhole i16) fun v18 =>
    if v18 = 0 then (fX12_readCar_134 i16 rv) else (some (i16, rv))) else (fX12_readCar_134 i16 rv)) else (some (i, rv))
theorem kX12_readCar_111  {iR : Nat → Nat → Int32} {rvR : Nat → Nat → Option Nat} (hX : aX p s m args c RX12 cX12_readCar 2 D cA A ad0) (hr : meth.sig.returnType = none) (hlk : meth.locks = false) (hRf : 7 ≤ R.frames) (hRl : 64 * 7 ≤ R.locals) (hG : aGood sh rv) (hf : fX12_readCar_111 i rv = some (iR, rvR)) : aJ p l e R s m args below meth c (MQ below (aPost D cA ad0 A (sh, i0, lo0, rv0) none (sh, iR, lo, rvR)) args s (sh.length - sh.length) (aSn sh - aSn sh) A) D cA A ad0 2 sh.length (aSn sh) 111 [some (.ref (100 + 50)), none] [] (sh, i, lo, rv) := by
  unfold fX12_readCar_111 at hf
  refine j_aload_n hX dX12_readCar_111 rfl ?_
  refine j_getI (k := 11) hX kX12 (by decide) fk_X12_131 dX12_readCar_112 (sh_50 hG) rfl ?_
  refine j_iconst hX dX12_readCar_115 ic_m1 ?_
  refine j_icmp_ne (tgt := 139) hX dX12_readCar_116 (by decide) (fun hc => ?_) (fun hc => ?_)
  · have hf := ifn hc hf
    cases hf
    exact j_vret hX hr hlk dX12_readCar_139
  · have hf := ifp hc hf
    refine j_aload_n hX dX12_readCar_119 rfl ?_
    obtain ⟨v15, i16, hh17, hf⟩ := bd2 hf
    refine j_cV0i hX lk_X12_141 kX12 dX12_readCar_120 (sh_50 hG) (okX12_look hG hh17) rfl rfl (rmm (by omega) hRf hRl (by decide)) (Nat.le_of_ble_eq_true rfl) (Nat.le_add_right _ _) (Nat.le_add_right _ _) ?_
    refine j_iconst hX dX12_readCar_123 ic_m1 ?_
    refine j_icmp_ne (tgt := 134) hX dX12_readCar_124 (by decide) (fun hc => ?_) (fun hc => ?_)
    · have hf := ifn hc hf
      exact aJx (kX12_readCar_134 hX hr hlk hRf hRl hG  hf) (And.intro rfl (rfl))
    · have hf := ifp hc hf
      refine j_aload_n hX dX12_readCar_127 rfl ?_
      obtain ⟨v18, hh19, hf⟩ := bd1 hf
      refine j_cV0i hX lk_X12_267 kX12 dX12_readCar_128 (sh_50 hG) (okX12_isWhole hG hh19) rfl rfl (rmm (by omega) hRf hRl (by decide)) (Nat.le_of_ble_eq_true rfl) (Nat.le_add_right _ _) (Nat.le_add_right _ _) ?_
      refine j_if_ne (tgt := 139) hX dX12_readCar_131 (by decide) (fun hc => ?_) (fun hc => ?_)
      · have hf := ifn hc hf
        cases hf
        exact j_vret hX hr hlk dX12_readCar_139
      · have hf := ifp hc hf
        exact aJx (kX12_readCar_134 hX hr hlk hRf hRl hG  hf) (And.intro rfl (rfl))
theorem gX12_readCar_111 {iR : Nat → Nat → Int32} {rvR : Nat → Nat → Option Nat} (hG : aGood sh rv) (hf : fX12_readCar_111 i rv = some (iR, rvR)) : aGood sh rvR := by
  unfold fX12_readCar_111 at hf
  refine ifs2 hf (fun hc hf => ?_) (fun hc hf => ?_)
  · have hf := hf
    cases hf
    exact hG
  · have hf := hf
    obtain ⟨v15, i16, hh17, hf⟩ := bd2 hf
    refine ifs2 hf (fun hc hf => ?_) (fun hc hf => ?_)
    · have hf := hf
      exact gX12_readCar_134 hG  hf
    · have hf := hf
      obtain ⟨v18, hh19, hf⟩ := bd1 hf
      refine ifs2 hf (fun hc hf => ?_) (fun hc hf => ?_)
      · have hf := hf
        cases hf
        exact hG
      · have hf := hf
        exact gX12_readCar_134 hG  hf
def fX12_readCar_55 : Nat → Int32 → (Nat → Nat → Int32) → (Nat → Nat → Option Nat) → Option ((Nat → Nat → Int32) × (Nat → Nat → Option Nat))
  | 0, _, _, _ => none
  | n + 1, x1, i, rv => if x1 = 0 then (fX12_readCar_111 i rv) else (if (i 50 11) = (-1) then (bn1 (fX12_readClause i rv) fun i10 =>
    if (i10 50 11) = (-1) then (bn2 (fX12_look i10 rv) fun v12 i13 =>
    if v12 = 59 then (fX12_readCar_93 (fX12_readCar_55 n) 1 i13 rv) else (fX12_readCar_92 (fX12_readCar_55 n) i13 rv)) else (fX12_readCar_92 (fX12_readCar_55 n) i10 rv)) else (fX12_readCar_111 i rv))
theorem kX12_readCar_55  {iR : Nat → Nat → Int32} {rvR : Nat → Nat → Option Nat} (hX : aX p s m args c RX12 cX12_readCar 2 D cA A ad0) (hr : meth.sig.returnType = none) (hlk : meth.locks = false) (hRf : 7 ≤ R.frames) (hRl : 64 * 7 ≤ R.locals) : ∀ (n : Nat) (x1 : Int32) (i : Nat → Nat → Int32) (rv : Nat → Nat → Option Nat), aGood sh rv → fX12_readCar_55 n x1 i rv = some (iR, rvR) → aJ p l e R s m args below meth c (MQ below (aPost D cA ad0 A (sh, i0, lo0, rv0) none (sh, iR, lo, rvR)) args s (sh.length - sh.length) (aSn sh - aSn sh) A) D cA A ad0 2 sh.length (aSn sh) 55 [some (.ref (100 + 50)), some (.int x1)] [] (sh, i, lo, rv) := by
  intro n
  induction n with
  | zero => intros; rename_i hf; cases hf
  | succ n ih =>
    intro x1 i rv hG hf
    rw [fX12_readCar_55] at hf
    refine j_iload_n hX dX12_readCar_55 rfl ?_
    refine j_if_eq (tgt := 111) hX dX12_readCar_56 (by decide) (fun hc => ?_) (fun hc => ?_)
    · have hf := ifp hc hf
      exact aJx (kX12_readCar_111 hX hr hlk hRf hRl hG  hf) (And.intro rfl (rfl))
    · have hf := ifn hc hf
      refine j_aload_n hX dX12_readCar_59 rfl ?_
      refine j_getI (k := 11) hX kX12 (by decide) fk_X12_131 dX12_readCar_60 (sh_50 hG) rfl ?_
      refine j_iconst hX dX12_readCar_63 ic_m1 ?_
      refine j_icmp_ne (tgt := 111) hX dX12_readCar_64 (by decide) (fun hc => ?_) (fun hc => ?_)
      · have hf := ifn hc hf
        exact aJx (kX12_readCar_111 hX hr hlk hRf hRl hG  hf) (And.intro rfl (rfl))
      · have hf := ifp hc hf
        refine j_aload_n hX dX12_readCar_67 rfl ?_
        obtain ⟨i10, hh11, hf⟩ := bd1 hf
        refine j_cV0v hX lk_X12_264 kX12 dX12_readCar_68 (sh_50 hG) (okX12_readClause hG hh11) rfl rfl (rmm (by omega) hRf hRl (by decide)) (Nat.le_of_ble_eq_true rfl) (Nat.le_add_right _ _) (Nat.le_add_right _ _) ?_
        refine j_aload_n hX dX12_readCar_71 rfl ?_
        refine j_getI (k := 11) hX kX12 (by decide) fk_X12_131 dX12_readCar_72 (sh_50 hG) rfl ?_
        refine j_iconst hX dX12_readCar_75 ic_m1 ?_
        refine jpc (b := 76) rfl ?_
        refine j_icmp_ne (tgt := 92) hX dX12_readCar_76 (by decide) (fun hc => ?_) (fun hc => ?_)
        · have hf := ifn hc hf
          exact aJx (kX12_readCar_92 hX hr hlk hRf hRl ih hG  hf) (And.intro rfl (rfl))
        · have hf := ifp hc hf
          refine j_aload_n hX dX12_readCar_79 rfl ?_
          obtain ⟨v12, i13, hh14, hf⟩ := bd2 hf
          refine j_cV0i hX lk_X12_141 kX12 dX12_readCar_80 (sh_50 hG) (okX12_look hG hh14) rfl rfl (rmm (by omega) hRf hRl (by decide)) (Nat.le_of_ble_eq_true rfl) (Nat.le_add_right _ _) (Nat.le_add_right _ _) ?_
          refine j_bipush hX dX12_readCar_83 bp_59 ?_
          refine j_icmp_ne (tgt := 92) hX dX12_readCar_85 (by decide) (fun hc => ?_) (fun hc => ?_)
          · have hf := ifn hc hf
            exact aJx (kX12_readCar_92 hX hr hlk hRf hRl ih hG  hf) (And.intro rfl (rfl))
          · have hf := ifp hc hf
            refine j_iconst hX dX12_readCar_88 ic_1 ?_
            refine j_goto (tgt := 93) hX dX12_readCar_89 (by decide) ?_
            exact aJx (kX12_readCar_93 hX hr hlk hRf hRl ih hG  hf) (And.intro rfl (rfl))
theorem gX12_readCar_55 {iR : Nat → Nat → Int32} {rvR : Nat → Nat → Option Nat} : ∀ (n : Nat) (x1 : Int32) (i : Nat → Nat → Int32) (rv : Nat → Nat → Option Nat), aGood sh rv → fX12_readCar_55 n x1 i rv = some (iR, rvR) → aGood sh rvR := by
  intro n
  induction n with
  | zero => intros; rename_i hf; cases hf
  | succ n ih =>
    intro x1 i rv hG hf
    rw [fX12_readCar_55] at hf
    refine ifs hf (fun hc hf => ?_) (fun hc hf => ?_)
    · have hf := hf
      exact gX12_readCar_111 hG  hf
    · have hf := hf
      refine ifs2 hf (fun hc hf => ?_) (fun hc hf => ?_)
      · have hf := hf
        exact gX12_readCar_111 hG  hf
      · have hf := hf
        obtain ⟨i10, hh11, hf⟩ := bd1 hf
        refine ifs2 hf (fun hc hf => ?_) (fun hc hf => ?_)
        · have hf := hf
          exact gX12_readCar_92 ih hG  hf
        · have hf := hf
          obtain ⟨v12, i13, hh14, hf⟩ := bd2 hf
          refine ifs2 hf (fun hc hf => ?_) (fun hc hf => ?_)
          · have hf := hf
            exact gX12_readCar_92 ih hG  hf
          · have hf := hf
            exact gX12_readCar_93 ih hG  hf
def fX12_readCar_30 : Nat → Int32 → (Nat → Nat → Int32) → (Nat → Nat → Option Nat) → Option ((Nat → Nat → Int32) × (Nat → Nat → Option Nat))
  | 0, _, _, _ => none
  | n + 1, x1, i, rv => if 4 ≤ x1 then (fX12_readCar_55 fuel 1 i rv) else (bn1 (fX12_usual 115 x1) fun v7 =>
    if aIn x1 4 = true then
    (lt (u2 i 56 (x1 : Int32).toNatClampNeg v7) fun i9 => fX12_readCar_30 n (x1 + 1) i9 rv) else none)
theorem kX12_readCar_30  {iR : Nat → Nat → Int32} {rvR : Nat → Nat → Option Nat} (hX : aX p s m args c RX12 cX12_readCar 2 D cA A ad0) (hr : meth.sig.returnType = none) (hlk : meth.locks = false) (hRf : 7 ≤ R.frames) (hRl : 64 * 7 ≤ R.locals) : ∀ (n : Nat) (x1 : Int32) (i : Nat → Nat → Int32) (rv : Nat → Nat → Option Nat), aGood sh rv → fX12_readCar_30 n x1 i rv = some (iR, rvR) → aJ p l e R s m args below meth c (MQ below (aPost D cA ad0 A (sh, i0, lo0, rv0) none (sh, iR, lo, rvR)) args s (sh.length - sh.length) (aSn sh - aSn sh) A) D cA A ad0 2 sh.length (aSn sh) 30 [some (.ref (100 + 50)), some (.int x1)] [] (sh, i, lo, rv) := by
  intro n
  induction n with
  | zero => intros; rename_i hf; cases hf
  | succ n ih =>
    intro x1 i rv hG hf
    rw [fX12_readCar_30] at hf
    refine j_iload_n hX dX12_readCar_30 rfl ?_
    refine j_iconst hX dX12_readCar_31 ic_4 ?_
    refine j_icmp_ge (tgt := 53) hX dX12_readCar_32 (by decide) (fun hc => ?_) (fun hc => ?_)
    · have hf := ifp hc hf
      refine j_iconst hX dX12_readCar_53 ic_1 ?_
      refine j_istore_n hX dX12_readCar_54 (by decide) rfl ?_
      exact aJx (kX12_readCar_55 hX hr hlk hRf hRl fuel _ _ _ hG  hf) (And.intro rfl (And.intro rfl (rfl)))
    · have hf := ifn hc hf
      refine j_aload_n hX dX12_readCar_35 rfl ?_
      refine j_getR (k := 19) hX kX12 (by decide) fk_X12_40 (rf_50_19 hG) dX12_readCar_36 (sh_50 hG) rfl ?_
      refine j_iload_n hX dX12_readCar_39 rfl ?_
      refine j_bipush hX dX12_readCar_40 bp_115 ?_
      refine j_iload_n hX dX12_readCar_42 rfl ?_
      refine jpc (b := 43) rfl ?_
      obtain ⟨v7, hh8, hf⟩ := bd1 hf
      refine j_cS2i hX lk_X12_224 dX12_readCar_43 (okX12_usual hG hh8) rfl rfl (rmm (by omega) hRf hRl (by decide)) (Nat.le_of_ble_eq_true rfl) (Nat.le_add_right _ _) (Nat.le_add_right _ _) ?_
      obtain ⟨hg, hf⟩ := gd hf
      have hf := ltd hf
      refine j_iast hX (sh_56 hG) hg dX12_readCar_46 ?_
      refine j_iinc hX dX12_readCar_47 rfl (congrArg (_ + ·) ic_1) (by decide) rfl ?_
      refine j_goto (tgt := 30) hX dX12_readCar_50 (by decide) ?_
      exact aJx (ih _ _ _ hG  hf) (And.intro rfl (And.intro rfl (rfl)))
theorem gX12_readCar_30 {iR : Nat → Nat → Int32} {rvR : Nat → Nat → Option Nat} : ∀ (n : Nat) (x1 : Int32) (i : Nat → Nat → Int32) (rv : Nat → Nat → Option Nat), aGood sh rv → fX12_readCar_30 n x1 i rv = some (iR, rvR) → aGood sh rvR := by
  intro n
  induction n with
  | zero => intros; rename_i hf; cases hf
  | succ n ih =>
    intro x1 i rv hG hf
    rw [fX12_readCar_30] at hf
    refine ifs hf (fun hc hf => ?_) (fun hc hf => ?_)
    · have hf := hf
      exact gX12_readCar_55 fuel _ _ _ hG  hf
    · have hf := hf
      obtain ⟨v7, hh8, hf⟩ := bd1 hf
      obtain ⟨hg, hf⟩ := gd hf
      have hf := ltd hf
      exact ih _ _ _ hG  hf
def fX12_readCar (i : Nat → Nat → Int32) (rv : Nat → Nat → Option Nat) : Option ((Nat → Nat → Int32) × (Nat → Nat → Option Nat)) := bn2 (fX12_starts 51 0 (i 50 6) i rv) fun i1 rv2 =>
    lt (u2 i1 50 29 0) fun i4 =>
    lt (u2 i4 50 30 0) fun i5 =>
    lt (u2 i5 50 32 0) fun i6 =>
    fX12_readCar_30 fuel 0 i6 rv2
theorem kX12_readCar  {iR : Nat → Nat → Int32} {rvR : Nat → Nat → Option Nat} (hX : aX p s m args c RX12 cX12_readCar 2 D cA A ad0) (hr : meth.sig.returnType = none) (hlk : meth.locks = false) (hRf : 7 ≤ R.frames) (hRl : 64 * 7 ≤ R.locals) (hG : aGood sh rv) (hf : fX12_readCar i rv = some (iR, rvR)) : aJ p l e R s m args below meth c (MQ below (aPost D cA ad0 A (sh, i0, lo0, rv0) none (sh, iR, lo, rvR)) args s (sh.length - sh.length) (aSn sh - aSn sh) A) D cA A ad0 2 sh.length (aSn sh) 0 [some (.ref (100 + 50)), none] [] (sh, i, lo, rv) := by
  unfold fX12_readCar at hf
  refine j_aload_n hX dX12_readCar_0 rfl ?_
  refine j_aload_n hX dX12_readCar_1 rfl ?_
  refine j_getR (k := 1) hX kX12 (by decide) fk_X12_9 (rf_50_1 hG) dX12_readCar_2 (sh_50 hG) rfl ?_
  refine j_iconst hX dX12_readCar_5 ic_0 ?_
  refine j_aload_n hX dX12_readCar_6 rfl ?_
  refine jpc (b := 7) rfl ?_
  refine j_getI (k := 6) hX kX12 (by decide) fk_X12_112 dX12_readCar_7 (sh_50 hG) rfl ?_
  obtain ⟨i1, rv2, hh3, hf⟩ := bd2 hf
  refine j_cV3v hX lk_X12_210 kX12 dX12_readCar_10 (sh_50 hG) (okX12_starts hG (Or.inl rfl) hh3) rfl rfl (rmm (by omega) hRf hRl (by decide)) (Nat.le_of_ble_eq_true rfl) (Nat.le_add_right _ _) (Nat.le_add_right _ _) ?_
  have hG := gdX12_starts hG (Or.inl rfl) hh3
  refine j_aload_n hX dX12_readCar_13 rfl ?_
  refine j_iconst hX dX12_readCar_14 ic_0 ?_
  have hf := ltd hf
  refine j_putI (k := 29) hX kX12 (by decide) fk_X12_248 dX12_readCar_15 (sh_50 hG) rfl rfl rfl rfl ?_
  refine j_aload_n hX dX12_readCar_18 rfl ?_
  refine jpc (b := 19) rfl ?_
  refine j_iconst hX dX12_readCar_19 ic_0 ?_
  have hf := ltd hf
  refine j_putI (k := 30) hX kX12 (by decide) fk_X12_251 dX12_readCar_20 (sh_50 hG) rfl rfl rfl rfl ?_
  refine j_aload_n hX dX12_readCar_23 rfl ?_
  refine j_iconst hX dX12_readCar_24 ic_0 ?_
  have hf := ltd hf
  refine j_putI (k := 32) hX kX12 (by decide) fk_X12_245 dX12_readCar_25 (sh_50 hG) rfl rfl rfl rfl ?_
  refine j_iconst hX dX12_readCar_28 ic_0 ?_
  refine jpc (b := 29) rfl ?_
  refine j_istore_n hX dX12_readCar_29 (by decide) rfl ?_
  exact aJx (kX12_readCar_30 hX hr hlk hRf hRl fuel _ _ _ hG  hf) (And.intro rfl (And.intro rfl (rfl)))
theorem gdX12_readCar {iR : Nat → Nat → Int32} {rvR : Nat → Nat → Option Nat} (hG : aGood sh rv) (hf : fX12_readCar i rv = some (iR, rvR)) : aGood sh rvR := by
  unfold fX12_readCar at hf
  obtain ⟨i1, rv2, hh3, hf⟩ := bd2 hf
  have hG := gdX12_starts hG (Or.inl rfl) hh3
  have hf := ltd hf
  have hf := ltd hf
  have hf := ltd hf
  exact gX12_readCar_30 fuel _ _ _ hG  hf
theorem okX12_readCar {l : Launch} {sh : List aSh} {i : Nat → Nat → Int32} {lo : Nat → Nat → Int64} {rv : Nat → Nat → Option Nat}  {iR : Nat → Nat → Int32} {rvR : Nat → Nat → Option Nat} (hG : aGood sh rv) (hf : fX12_readCar i rv = some (iR, rvR)) : aM l yX12_readCar cX12_readCar 2 none 7 [.ref (100 + 50)] (sh, i, lo, rv) none (sh, iR, lo, rvR) :=
  aM_of (by decide) (Nat.le_of_ble_eq_true rfl) (Nat.le_refl _) (Nat.le_refl _) (fun p e s m args below meth c D cA A ad0 hX hr hlk hnm => kX12_readCar hX hr hlk (Nat.le_refl _) (Nat.le_refl _) hG hf)
def fX12_digit_20 (i : Nat → Nat → Int32) (rv : Nat → Nat → Option Nat) : Option ((Int32) × (Nat → Nat → Int32)) := bn2 (fX12_fails i) fun v7 i8 =>
    some (0, i8)
theorem kX12_digit_20  {vR : Int32} {iR : Nat → Nat → Int32} (hX : aX p s m args c RX12 cX12_digit 3 D cA A ad0) (hr : meth.sig.returnType = (some .int)) (hlk : meth.locks = false) (hRf : 1 ≤ R.frames) (hRl : 64 * 1 ≤ R.locals) (hG : aGood sh rv) (hf : fX12_digit_20 i rv = some (vR, iR)) : aJ p l e R s m args below meth c (MQ below (aPost D cA ad0 A (sh, i0, lo0, rv0) (some (.int vR)) (sh, iR, lo, rv)) args s (sh.length - sh.length) (aSn sh - aSn sh) A) D cA A ad0 3 sh.length (aSn sh) 20 [some (.ref (100 + 50)), none, none] [] (sh, i, lo, rv) := by
  unfold fX12_digit_20 at hf
  refine j_aload_n hX dX12_digit_20 rfl ?_
  obtain ⟨v7, i8, hh9, hf⟩ := bd2 hf
  refine j_cV0i hX lk_X12_137 kX12 dX12_digit_21 (sh_50 hG) (okX12_fails hG hh9) rfl rfl (rmm (by omega) hRf hRl (by decide)) (Nat.le_of_ble_eq_true rfl) (Nat.le_add_right _ _) (Nat.le_add_right _ _) ?_
  refine j_pop hX dX12_digit_24 rfl ?_
  refine j_iconst hX dX12_digit_25 ic_0 ?_
  cases hf
  exact j_ret hX hr hlk rfl dX12_digit_26
def fX12_digit (a1 : Int32) (i : Nat → Nat → Int32) (rv : Nat → Nat → Option Nat) : Option ((Int32) × (Nat → Nat → Int32)) := bn2 (fX12_look i rv) fun v1 i2 =>
    bn1 (fX12_isDigit i2 rv) fun v4 =>
    if v4 = 0 then (fX12_digit_20 i2 rv) else (if (v1 - (48 : Int32)) ≤ a1 then (lt (u2 i2 50 10 ((i2 50 10) + (1 : Int32))) fun i6 =>
    some ((v1 - (48 : Int32)), i6)) else (fX12_digit_20 i2 rv))
theorem kX12_digit  {vR : Int32} {iR : Nat → Nat → Int32} (hX : aX p s m args c RX12 cX12_digit 3 D cA A ad0) (hr : meth.sig.returnType = (some .int)) (hlk : meth.locks = false) (hRf : 1 ≤ R.frames) (hRl : 64 * 1 ≤ R.locals) {a1 : Int32} (hG : aGood sh rv) (hf : fX12_digit a1 i rv = some (vR, iR)) : aJ p l e R s m args below meth c (MQ below (aPost D cA ad0 A (sh, i0, lo0, rv0) (some (.int vR)) (sh, iR, lo, rv)) args s (sh.length - sh.length) (aSn sh - aSn sh) A) D cA A ad0 3 sh.length (aSn sh) 0 [some (.ref (100 + 50)), some (.int a1), none] [] (sh, i, lo, rv) := by
  unfold fX12_digit at hf
  refine j_aload_n hX dX12_digit_0 rfl ?_
  obtain ⟨v1, i2, hh3, hf⟩ := bd2 hf
  refine j_cV0i hX lk_X12_141 kX12 dX12_digit_1 (sh_50 hG) (okX12_look hG hh3) rfl rfl (rmm (by omega) hRf hRl (by decide)) (Nat.le_of_ble_eq_true rfl) (Nat.le_add_right _ _) (Nat.le_add_right _ _) ?_
  refine j_istore_n hX dX12_digit_4 (by decide) rfl ?_
  refine j_aload_n hX dX12_digit_5 rfl ?_
  obtain ⟨v4, hh5, hf⟩ := bd1 hf
  refine j_cV0i hX lk_X12_171 kX12 dX12_digit_6 (sh_50 hG) (okX12_isDigit hG hh5) rfl rfl (rmm (by omega) hRf hRl (by decide)) (Nat.le_of_ble_eq_true rfl) (Nat.le_add_right _ _) (Nat.le_add_right _ _) ?_
  refine jpc (b := 9) rfl ?_
  refine j_if_eq (tgt := 20) hX dX12_digit_9 (by decide) (fun hc => ?_) (fun hc => ?_)
  · have hf := ifp hc hf
    exact aJx (kX12_digit_20 hX hr hlk hRf hRl hG  hf) (And.intro rfl (rfl))
  · have hf := ifn hc hf
    refine j_iload_n hX dX12_digit_12 rfl ?_
    refine j_bipush hX dX12_digit_13 bp_48 ?_
    refine j_isub hX dX12_digit_15 ?_
    refine j_iload_n hX dX12_digit_16 rfl ?_
    refine j_icmp_le (tgt := 27) hX dX12_digit_17 (by decide) (fun hc => ?_) (fun hc => ?_)
    · have hf := ifp hc hf
      refine j_aload_n hX dX12_digit_27 rfl ?_
      refine j_dup hX dX12_digit_28 rfl ?_
      refine j_getI (k := 10) hX kX12 (by decide) fk_X12_122 dX12_digit_29 (sh_50 hG) rfl ?_
      refine j_iconst hX dX12_digit_32 ic_1 ?_
      refine j_iadd hX dX12_digit_33 ?_
      refine jpc (b := 34) rfl ?_
      have hf := ltd hf
      refine j_putI (k := 10) hX kX12 (by decide) fk_X12_122 dX12_digit_34 (sh_50 hG) rfl rfl rfl rfl ?_
      refine j_iload_n hX dX12_digit_37 rfl ?_
      refine j_bipush hX dX12_digit_38 bp_48 ?_
      refine j_isub hX dX12_digit_40 ?_
      cases hf
      exact j_ret hX hr hlk rfl dX12_digit_41
    · have hf := ifn hc hf
      exact aJx (kX12_digit_20 hX hr hlk hRf hRl hG  hf) (And.intro rfl (rfl))
theorem okX12_digit {l : Launch} {sh : List aSh} {i : Nat → Nat → Int32} {lo : Nat → Nat → Int64} {rv : Nat → Nat → Option Nat}  {a1 : Int32} {vR : Int32} {iR : Nat → Nat → Int32} (hG : aGood sh rv) (hf : fX12_digit a1 i rv = some (vR, iR)) : aM l yX12_digit cX12_digit 3 (some .int) 1 [.ref (100 + 50), .int a1] (sh, i, lo, rv) (some (.int vR)) (sh, iR, lo, rv) :=
  aM_of (by decide) (Nat.le_of_ble_eq_true rfl) (Nat.le_refl _) (Nat.le_refl _) (fun p e s m args below meth c D cA A ad0 hX hr hlk hnm => kX12_digit hX hr hlk (Nat.le_refl _) (Nat.le_refl _) hG hf)
def fX12_readStep_99 (s1 : Int32) (s3 : Int32) (i : Nat → Nat → Int32) (rv : Nat → Nat → Option Nat) : Option ((Nat → Nat → Int32)) := bn2 (fX12_digit s3 i rv) fun v16 i17 =>
    if aIn s1 240 = true then
    (lt (u2 i17 61 (s1 : Int32).toNatClampNeg v16) fun i19 => some (i19)) else none
theorem kX12_readStep_99  {iR : Nat → Nat → Int32} (hX : aX p s m args c RX12 cX12_readStep 3 D cA A ad0) (hr : meth.sig.returnType = none) (hlk : meth.locks = false) (hRf : 5 ≤ R.frames) (hRl : 64 * 5 ≤ R.locals) {s1 : Int32} {s3 : Int32} (hG : aGood sh rv) (hf : fX12_readStep_99 s1 s3 i rv = some (iR)) : aJ p l e R s m args below meth c (MQ below (aPost D cA ad0 A (sh, i0, lo0, rv0) none (sh, iR, lo, rv)) args s (sh.length - sh.length) (aSn sh - aSn sh) A) D cA A ad0 3 sh.length (aSn sh) 99 [none, none, none] [.int s3, .ref (100 + 50), .int s1, .ref (100 + 61)] (sh, i, lo, rv) := by
  unfold fX12_readStep_99 at hf
  obtain ⟨v16, i17, hh18, hf⟩ := bd2 hf
  refine j_cV1i hX lk_X12_272 kX12 dX12_readStep_99 (sh_50 hG) (okX12_digit hG hh18) rfl rfl (rmm (by omega) hRf hRl (by decide)) (Nat.le_of_ble_eq_true rfl) (Nat.le_add_right _ _) (Nat.le_add_right _ _) ?_
  obtain ⟨hg, hf⟩ := gd hf
  have hf := ltd hf
  refine j_iast hX (sh_61 hG) hg dX12_readStep_102 ?_
  cases hf
  exact j_vret hX hr hlk dX12_readStep_103
def fX12_readStep_80 (x1 : Int32) (x2 : Int32) (i : Nat → Nat → Int32) (rv : Nat → Nat → Option Nat) : Option ((Nat → Nat → Int32)) := if x2 = 1 then (fX12_readStep_99 (x1 + (2 : Int32)) 2 i rv) else (fX12_readStep_99 (x1 + (2 : Int32)) 9 i rv)
theorem kX12_readStep_80  {iR : Nat → Nat → Int32} (hX : aX p s m args c RX12 cX12_readStep 3 D cA A ad0) (hr : meth.sig.returnType = none) (hlk : meth.locks = false) (hRf : 5 ≤ R.frames) (hRl : 64 * 5 ≤ R.locals) {x1 : Int32} {x2 : Int32} (hG : aGood sh rv) (hf : fX12_readStep_80 x1 x2 i rv = some (iR)) : aJ p l e R s m args below meth c (MQ below (aPost D cA ad0 A (sh, i0, lo0, rv0) none (sh, iR, lo, rv)) args s (sh.length - sh.length) (aSn sh - aSn sh) A) D cA A ad0 3 sh.length (aSn sh) 80 [some (.ref (100 + 50)), some (.int x1), some (.int x2)] [] (sh, i, lo, rv) := by
  unfold fX12_readStep_80 at hf
  refine j_aload_n hX dX12_readStep_80 rfl ?_
  refine j_getR (k := 24) hX kX12 (by decide) fk_X12_55 (rf_50_24 hG) dX12_readStep_81 (sh_50 hG) rfl ?_
  refine j_iload_n hX dX12_readStep_84 rfl ?_
  refine j_iconst hX dX12_readStep_85 ic_2 ?_
  refine j_iadd hX dX12_readStep_86 ?_
  refine jpc (b := 87) rfl ?_
  refine j_aload_n hX dX12_readStep_87 rfl ?_
  refine j_iload_n hX dX12_readStep_88 rfl ?_
  refine j_iconst hX dX12_readStep_89 ic_1 ?_
  refine j_icmp_ne (tgt := 97) hX dX12_readStep_90 (by decide) (fun hc => ?_) (fun hc => ?_)
  · have hf := ifn hc hf
    refine j_bipush hX dX12_readStep_97 bp_9 ?_
    exact aJx (kX12_readStep_99 hX hr hlk hRf hRl hG  hf) (rfl)
  · have hf := ifp hc hf
    refine j_iconst hX dX12_readStep_93 ic_2 ?_
    refine j_goto (tgt := 99) hX dX12_readStep_94 (by decide) ?_
    exact aJx (kX12_readStep_99 hX hr hlk hRf hRl hG  hf) (rfl)
def fX12_readStep (a1 : Int32) (i : Nat → Nat → Int32) (rv : Nat → Nat → Option Nat) : Option ((Nat → Nat → Int32)) := bn2 (fX12_look i rv) fun v1 i2 =>
    bn1 (fX12_spotOf 3 v1) fun v4 =>
    if v4 = (-1) then (bn2 (fX12_fails i2) fun v13 i14 =>
    some (i14)) else (lt (u2 i2 50 10 ((i2 50 10) + (1 : Int32))) fun i6 =>
    if aIn a1 240 = true then
    (lt (u2 i6 61 (a1 : Int32).toNatClampNeg v4) fun i7 => bn2 (fX12_digit 9 i7 rv) fun v8 i9 =>
    if aIn (a1 + (1 : Int32)) 240 = true then
    (lt (u2 i9 61 ((a1 + (1 : Int32)) : Int32).toNatClampNeg v8) fun i11 => if aIn (a1 + (2 : Int32)) 240 = true then
    (lt (u2 i11 61 ((a1 + (2 : Int32)) : Int32).toNatClampNeg (-1)) fun i12 => if (i12 50 11) = (-1) then (if v4 < 2 then (fX12_readStep_80 a1 v4 i12 rv) else (if v4 = 4 then (fX12_readStep_80 a1 v4 i12 rv) else (some (i12)))) else (some (i12))) else none) else none) else none)
theorem kX12_readStep  {iR : Nat → Nat → Int32} (hX : aX p s m args c RX12 cX12_readStep 3 D cA A ad0) (hr : meth.sig.returnType = none) (hlk : meth.locks = false) (hRf : 5 ≤ R.frames) (hRl : 64 * 5 ≤ R.locals) {a1 : Int32} (hG : aGood sh rv) (hf : fX12_readStep a1 i rv = some (iR)) : aJ p l e R s m args below meth c (MQ below (aPost D cA ad0 A (sh, i0, lo0, rv0) none (sh, iR, lo, rv)) args s (sh.length - sh.length) (aSn sh - aSn sh) A) D cA A ad0 3 sh.length (aSn sh) 0 [some (.ref (100 + 50)), some (.int a1), none] [] (sh, i, lo, rv) := by
  unfold fX12_readStep at hf
  refine j_ldcSw (j := 3) (tx := "mywlxb") hX (by decide) (by decide) dX12_readStep_0 ?_
  refine j_aload_n hX dX12_readStep_3 rfl ?_
  obtain ⟨v1, i2, hh3, hf⟩ := bd2 hf
  refine j_cV0i hX lk_X12_141 kX12 dX12_readStep_4 (sh_50 hG) (okX12_look hG hh3) rfl rfl (rmm (by omega) hRf hRl (by decide)) (Nat.le_of_ble_eq_true rfl) (Nat.le_add_right _ _) (Nat.le_add_right _ _) ?_
  obtain ⟨v4, hh5, hf⟩ := bd1 hf
  refine j_cS2i hX lk_X12_228 dX12_readStep_7 (okX12_spotOf hG (by decide) hh5) rfl rfl (rmm (by omega) hRf hRl (by decide)) (Nat.le_of_ble_eq_true rfl) (Nat.le_add_right _ _) (Nat.le_add_right _ _) ?_
  refine j_istore_n hX dX12_readStep_10 (by decide) rfl ?_
  refine jpc (b := 11) rfl ?_
  refine j_iload_n hX dX12_readStep_11 rfl ?_
  refine j_iconst hX dX12_readStep_12 ic_m1 ?_
  refine j_icmp_ne (tgt := 22) hX dX12_readStep_13 (by decide) (fun hc => ?_) (fun hc => ?_)
  · have hf := ifn hc hf
    refine j_aload_n hX dX12_readStep_22 rfl ?_
    refine j_dup hX dX12_readStep_23 rfl ?_
    refine j_getI (k := 10) hX kX12 (by decide) fk_X12_122 dX12_readStep_24 (sh_50 hG) rfl ?_
    refine j_iconst hX dX12_readStep_27 ic_1 ?_
    refine j_iadd hX dX12_readStep_28 ?_
    refine jpc (b := 29) rfl ?_
    have hf := ltd hf
    refine j_putI (k := 10) hX kX12 (by decide) fk_X12_122 dX12_readStep_29 (sh_50 hG) rfl rfl rfl rfl ?_
    refine j_aload_n hX dX12_readStep_32 rfl ?_
    refine j_getR (k := 24) hX kX12 (by decide) fk_X12_55 (rf_50_24 hG) dX12_readStep_33 (sh_50 hG) rfl ?_
    refine j_iload_n hX dX12_readStep_36 rfl ?_
    refine j_iload_n hX dX12_readStep_37 rfl ?_
    obtain ⟨hg, hf⟩ := gd hf
    have hf := ltd hf
    refine j_iast hX (sh_61 hG) hg dX12_readStep_38 ?_
    refine j_aload_n hX dX12_readStep_39 rfl ?_
    refine j_getR (k := 24) hX kX12 (by decide) fk_X12_55 (rf_50_24 hG) dX12_readStep_40 (sh_50 hG) rfl ?_
    refine j_iload_n hX dX12_readStep_43 rfl ?_
    refine j_iconst hX dX12_readStep_44 ic_1 ?_
    refine j_iadd hX dX12_readStep_45 ?_
    refine jpc (b := 46) rfl ?_
    refine j_aload_n hX dX12_readStep_46 rfl ?_
    refine j_bipush hX dX12_readStep_47 bp_9 ?_
    obtain ⟨v8, i9, hh10, hf⟩ := bd2 hf
    refine j_cV1i hX lk_X12_272 kX12 dX12_readStep_49 (sh_50 hG) (okX12_digit hG hh10) rfl rfl (rmm (by omega) hRf hRl (by decide)) (Nat.le_of_ble_eq_true rfl) (Nat.le_add_right _ _) (Nat.le_add_right _ _) ?_
    obtain ⟨hg, hf⟩ := gd hf
    have hf := ltd hf
    refine j_iast hX (sh_61 hG) hg dX12_readStep_52 ?_
    refine j_aload_n hX dX12_readStep_53 rfl ?_
    refine j_getR (k := 24) hX kX12 (by decide) fk_X12_55 (rf_50_24 hG) dX12_readStep_54 (sh_50 hG) rfl ?_
    refine j_iload_n hX dX12_readStep_57 rfl ?_
    refine j_iconst hX dX12_readStep_58 ic_2 ?_
    refine j_iadd hX dX12_readStep_59 ?_
    refine jpc (b := 60) rfl ?_
    refine j_iconst hX dX12_readStep_60 ic_m1 ?_
    obtain ⟨hg, hf⟩ := gd hf
    have hf := ltd hf
    refine j_iast hX (sh_61 hG) hg dX12_readStep_61 ?_
    refine j_aload_n hX dX12_readStep_62 rfl ?_
    refine j_getI (k := 11) hX kX12 (by decide) fk_X12_131 dX12_readStep_63 (sh_50 hG) rfl ?_
    refine j_iconst hX dX12_readStep_66 ic_m1 ?_
    refine j_icmp_ne (tgt := 103) hX dX12_readStep_67 (by decide) (fun hc => ?_) (fun hc => ?_)
    · have hf := ifn hc hf
      cases hf
      exact j_vret hX hr hlk dX12_readStep_103
    · have hf := ifp hc hf
      refine j_iload_n hX dX12_readStep_70 rfl ?_
      refine j_iconst hX dX12_readStep_71 ic_2 ?_
      refine j_icmp_lt (tgt := 80) hX dX12_readStep_72 (by decide) (fun hc => ?_) (fun hc => ?_)
      · have hf := ifp hc hf
        exact aJx (kX12_readStep_80 hX hr hlk hRf hRl hG  hf) (And.intro rfl (And.intro rfl (And.intro rfl (rfl))))
      · have hf := ifn hc hf
        refine j_iload_n hX dX12_readStep_75 rfl ?_
        refine j_iconst hX dX12_readStep_76 ic_4 ?_
        refine j_icmp_ne (tgt := 103) hX dX12_readStep_77 (by decide) (fun hc => ?_) (fun hc => ?_)
        · have hf := ifn hc hf
          cases hf
          exact j_vret hX hr hlk dX12_readStep_103
        · have hf := ifp hc hf
          exact aJx (kX12_readStep_80 hX hr hlk hRf hRl hG  hf) (And.intro rfl (And.intro rfl (And.intro rfl (rfl))))
  · have hf := ifp hc hf
    refine j_aload_n hX dX12_readStep_16 rfl ?_
    obtain ⟨v13, i14, hh15, hf⟩ := bd2 hf
    refine j_cV0i hX lk_X12_137 kX12 dX12_readStep_17 (sh_50 hG) (okX12_fails hG hh15) rfl rfl (rmm (by omega) hRf hRl (by decide)) (Nat.le_of_ble_eq_true rfl) (Nat.le_add_right _ _) (Nat.le_add_right _ _) ?_
    refine j_pop hX dX12_readStep_20 rfl ?_
    cases hf
    exact j_vret hX hr hlk dX12_readStep_21
theorem okX12_readStep {l : Launch} {sh : List aSh} {i : Nat → Nat → Int32} {lo : Nat → Nat → Int64} {rv : Nat → Nat → Option Nat}  {a1 : Int32} {iR : Nat → Nat → Int32} (hG : aGood sh rv) (hf : fX12_readStep a1 i rv = some (iR)) : aM l yX12_readStep cX12_readStep 3 none 5 [.ref (100 + 50), .int a1] (sh, i, lo, rv) none (sh, iR, lo, rv) :=
  aM_of (by decide) (Nat.le_of_ble_eq_true rfl) (Nat.le_refl _) (Nat.le_refl _) (fun p e s m args below meth c D cA A ad0 hX hr hlk hnm => kX12_readStep hX hr hlk (Nat.le_refl _) (Nat.le_refl _) hG hf)
end DC
