/-! the law's own sleeper: the class's answer, or 1 where it threw; and the law's case 5 -/
def zH : List (Nat × Nat × Nat × Nat) := [(0, 10, 13, 13)]
def zx : ExceptionTableEntry := ⟨0, 10, 13, 13⟩
def zW : List Cond := .codeWith yL_sleeper cL_sleeper 5 (some .int) zH :: gtbl
set_option maxRecDepth 100000 in
theorem zl_0 : Cond.codeWith yL_sleeper cL_sleeper 5 (some .int) zH ∈ gtbl := gm 1467 rfl rfl
set_option maxRecDepth 100000 in
theorem zl_1 : Cond.methodLink RL 42 yL_sleeper ∈ gtbl := gm 1465 rfl rfl
set_option maxRecDepth 100000 in
theorem zl_2 : Cond.static yL_sleeper ∈ gtbl := gm 1466 rfl rfl
set_option maxRecDepth 100000 in
theorem zl_3 : Cond.initialized RL ∈ gtbl := gm 113 rfl rfl
set_option maxRecDepth 100000 in
theorem zl_4 : Cond.classLink RL 13 zE ∈ gtbl := gm 1468 rfl rfl
set_option maxRecDepth 100000 in
theorem zl_5 : Cond.castable zE zE ∈ lw_tbl := List.mem_of_getElem? (i := 1475) rfl
theorem zl_G : GoodIn gtbl (va_wsS RL 42 yL_sleeper zW) := by
  intro w hw
  have hg : w ∈ gtbl := by
    rcases List.mem_append.mp hw with h1 | h1
    · simp only [List.mem_cons, List.not_mem_nil, or_false] at h1
      rcases h1 with rfl | rfl | rfl
      · exact zl_1
      · exact zl_2
      · exact zl_3
    · rcases List.mem_cons.mp h1 with h2 | h2
      · rw [h2]; exact zl_0
      · exact h2
  exact ⟨hg, gg w hg⟩
theorem zS_blind {A : Nat → Prop} {a : Array Value} {U : State} {g : JFrame} {mk : MethodId} (h : zS A U) : zS A (U.calling g mk a) :=
  ⟨fun w hw g1 => zf_at (U := U.calling g mk a) (s := U) (State.WarmedH.refl U) g1 (h.1 w hw g1), vx_Zq.moved (u := U) (Vm.Alike.refl U.vm) h.2.1, vx_Zq.moved (u := U) (Vm.Alike.refl U.vm) h.2.2⟩
section SL
variable {p : Program} {l : Launch} {e : Env} {R : Room} {s : State} {m : MethodId} {args : Array Value} {below : List Frame} {meth : Method} {c : Code} {Q : State → Prop} {D : va_G} {cA : FieldType → ClassId} {A : Nat → Prop} {ad0 : Nat → Nat} {nL c0 s0 x9 y9 : Nat}
variable {own : String} {cc : ByteArray} {pc : Nat} {L : List (Option Value)} {st : List Value} {h h0 h' : aHp}
theorem zS_at {adr : Nat → Nat} {H : Heap} {ls : Array Slot} {locs : List Loc} {cells slots : Nat} (hX : aX p s m args c own cc nL D cA A ad0) (hR : aR s D cA A ad0 nL c0 s0 L h adr H ls locs cells slots) (hS : zS A s) (U : State) (hU : U.heap = H) (hW : s.WarmedH U.vm) : zS (va_A (aW cA adr h) H.size) U := by
  refine ⟨fun w hw g1 => zf_at hW g1 (hS.1 w hw g1), ?_, ?_⟩
  · rw [hU]
    exact (vx_Zq.moved hW.alike (hS.2.1.kept hR.2.2.1.2.1)).narrow (j_sub hX hR)
  · rw [hU]
    exact (vx_Zq.moved hW.alike (hS.2.2.kept hR.2.2.1.2.1)).narrow (j_sub hX hR)
theorem kz_ret {XC : String → State → State → Prop} (hX : aX p s m args c own cc nL D cA A ad0) {ty : FieldType} (hr : meth.sig.returnType = some ty) (hlk : meth.locks = false) {v : Int32} (hn : narrow ty (.int v) = .int v) (hd : decode cc pc = .ok (.ireturn, 1)) (hL : h.1.length = h0.1.length) (hSn : aSn h.1 = aSn h0.1) : aK x9 y9 p l e R s m args below meth c (vx_MQ below (aPost D cA ad0 A h0 (some (.int v)) h) XC args s x9 y9 A) D cA A ad0 nL h0.1.length (aSn h0.1) pc L [.int v] h := by
  intro adr H ls locs cells slots hR
  have e1 : cells = 0 := by have := hR.2.2.2.2.2.2.1; omega
  have e2 : slots = 0 := by have := hR.2.2.2.2.2.2.2.1; omega
  subst e1; subst e2
  rw [Nat.zero_add, Nat.zero_add]
  exact vx_ret (W.zret hX.1 hX.2.1 hr hn (fun t ht hW => j_end hR (some (.int v)) t ht) hR.2.2.1.2.2 hd hlk)
/-- behind a call that makes no place, but mc cells and ms slots -/
theorem k_afterX {adr : Nat → Nat} {H : Heap} {ls : Array Slot} {locs : List Loc} {cells slots mc ms : Nat} {r : Option Value} {ar : Array Value} {st0 : List Value} (hX : aX p s m args c own cc nL D cA A ad0) (hR : aR s D cA A ad0 nL c0 s0 L h adr H ls locs cells slots) (hm1 : h'.1.length = h.1.length) (hm2 : aSn h'.1 = aSn h.1)
    (hr : vx_Run p l e R s m args below meth c H locs (cells + x9) (slots + y9) mc ms (F0 m pc ls st0) (st.map (aV adr)) (aPost D cA adr (va_A (aW cA adr h) H.size) h r h' ar) (fun _ _ _ => False) (va_A (aW cA adr h) H.size))
    (kk : aK (x9 + mc) (y9 + ms) p l e R s m args below meth c Q D cA A ad0 nL c0 s0 (pc + 3) L (r.toList ++ st) h') : W p l e R s m args below meth c H locs (cells + x9) (slots + y9) Q (F0 m pc ls st0) := by
  intro T hT X
  rcases hr T hT X with ⟨v, st₀, t, T', L', h0, X', hL, e1, e2, ⟨⟨ad1, hv, hag, heq, hP1, hD1, hW1⟩, hz, hk⟩, stp⟩ | ⟨q, st₀, t, T', L', E, ce, h0, X', hL, e1, e2, hF, -⟩
  · cases hv
    have hadr : ad1 = adr := heq hm1
    subst hadr
    have hsub := j_sub hX hR
    have hc1 := hR.2.2.2.2.2.2.1
    have hc2 := hR.2.2.2.2.2.2.2.1
    rw [h0] at hz hk
    rw [Nat.add_assoc cells x9 mc, Nat.add_assoc slots y9 ms] at X'
    obtain ⟨t2, a1, b1⟩ := kk ad1 T'.heap ls (locs ++ L') cells slots ⟨by rw [e1]; exact hP1, hD1.weaken (fun k q _ hq => hsub _ hq), ⟨Nat.le_trans hR.2.2.1.1 (by rw [e1]; exact hz), fun q h1 h2 => by rw [e1, hk q (Nat.lt_of_lt_of_le h1 hR.2.2.1.1) (fun z => h2 (hsub q z))]; exact hR.2.2.1.2.1 q h1 h2, fun q hq => by
        rcases List.mem_append.mp hq with h | h
        · exact hR.2.2.1.2.2 q h
        · exact hsub _ (hL q h)⟩, hW1, hR.2.2.2.2.1, hR.2.2.2.2.2.1, by omega, by omega, hR.2.2.2.2.2.2.2.2.1, fun e => hR.2.2.2.2.2.2.2.2.2 (by omega)⟩ T' rfl X'
    refine ⟨t2, stp t2 ?_, b1⟩
    have : (Option.map (aV ad1) r).toList ++ st.map (aV ad1) = (r.toList ++ st).map (aV ad1) := by cases r <;> simp
    rw [this]
    exact a1
  · exact hF.elim
variable {sh : List aSh} {i : Nat → Nat → Int32} {lo : Nat → Nat → Int64} {rv : Nat → Nat → Option Nat} {a1 a2 v v1 : Int32} {d : Nat}
/-- the law's sleeper where the class answers -/
theorem zs_ans (hX : aX p s m args c RL cL_sleeper 5 D cA A ad0) (hr : meth.sig.returnType = some .int) (hlk : meth.locks = false) (hRf : d + 1 ≤ R.frames) (hRl : 64 * d + 64 ≤ R.locals) (hG : aGood sh rv) (hM : aM l yX11_sleeper cX11_sleeper 3 (some .int) d [.ref (100 + 0), .int a1, .int a2] (sh, i, lo, rv) (some (.int v)) (sh, i, lo, rv)) :
    aJ p l e R s m args below meth c (vx_MQ below (aPost D cA ad0 A (sh, i, lo, rv) (some (.int 0)) (sh, i, u2 lo 73 0 v.toInt64, rv)) (fun _ _ _ => False) args s 0 0 A) D cA A ad0 5 sh.length (aSn sh) 0 [some (.ref (100 + 0)), some (.int a1), some (.int a2), some (.ref (100 + 73)), none] [] (sh, i, lo, rv) := by
  refine j_aload_n hX dL_sleeper_0 rfl ?_
  refine j_iconst hX dL_sleeper_1 ic_0 ?_
  refine j_aload_n hX dL_sleeper_2 rfl ?_
  refine j_iload_n hX dL_sleeper_3 rfl ?_
  refine j_iload_n hX dL_sleeper_4 rfl ?_
  refine j_cV2i hX lk_L_7 kX11 dL_sleeper_5 (sh_0 hG) hM rfl rfl ⟨hRf, by omega⟩ (Nat.le_of_ble_eq_true rfl) (Nat.le_add_right _ _) (Nat.le_add_right _ _) ?_
  refine j_i2l hX dL_sleeper_8 ?_
  refine j_last hX (sh_73 hG) (by decide) dL_sleeper_9 ?_
  refine j_goto (tgt := 17) hX dL_sleeper_10 (by decide) ?_
  refine j_iconst hX dL_sleeper_17 ic_0 ?_
  exact k_to (kz_ret (h0 := (sh, i, lo, rv)) (h := (sh, i, u2 lo 73 0 v.toInt64, rv)) hX hr hlk rfl dL_sleeper_18 rfl rfl)
theorem zm_blind {D : va_G} {cA : FieldType → ClassId} {adr : Nat → Nat} {sz : Nat} {av : List Value} {h : aHp} {A : Nat → Prop} : FrameBlind (fun a U => aPre D cA adr sz av h a U ∧ zS A U) := fun a U g mk q => ⟨aPre_blind a U g mk q.1, zS_blind q.2⟩
/-- the law's sleeper where the class throws -/
theorem zs_thr (hl : l.stackTraces = false) (hX : aX p s m args c RL cL_sleeper 5 D cA A ad0) (htab : c.exceptionTable.toList = tableOf zH) (hS : zS A s) (hr : meth.sig.returnType = some .int) (hlk : meth.locks = false) (hRf : 9 ≤ R.frames) (hRl : 600 ≤ R.locals) (hRc : 1 ≤ R.cells) (hRs : 6 ≤ R.slots) (hG : aGood sh rv)
    (hM : aM l yX1_hasSleeper cX1_hasSleeper 2 (some .boolean) 0 [.ref (100 + 15), .int a1] (sh, i, lo, rv) (some (.int v1)) (sh, i, lo, rv)) (hc : v1 = 0 ∨ a2 < 0 ∨ 10 < a2) :
    aJ p l e R s m args below meth c (vx_MQ below (aPost D cA ad0 A (sh, i, lo, rv) (some (.int 1)) (sh, i, lo, rv)) (fun _ _ _ => False) args s 1 6 A) D cA A ad0 5 sh.length (aSn sh) 0 [some (.ref (100 + 0)), some (.int a1), some (.int a2), some (.ref (100 + 73)), none] [] (sh, i, lo, rv) := by
  refine j_aload_n hX dL_sleeper_0 rfl ?_
  refine j_iconst hX dL_sleeper_1 ic_0 ?_
  refine j_aload_n hX dL_sleeper_2 rfl ?_
  refine j_iload_n hX dL_sleeper_3 rfl ?_
  refine j_iload_n hX dL_sleeper_4 rfl ?_
  intro adr H ls locs cells slots hR
  have e1 : cells = 0 := by
    have h1 : cells + sh.length = sh.length := hR.2.2.2.2.2.2.1
    omega
  have e2 : slots = 0 := by
    have h1 : slots + aSn sh = aSn sh := hR.2.2.2.2.2.2.2.1
    omega
  have hsub := j_sub hX hR
  have hrun : vx_Run p l e R s m args below meth c H locs cells slots 1 6 (F0 m 5 ls [.int a2, .int a1, .ref (adr (100 + 0)), .int 0, .ref (adr (100 + 73))]) [.int 0, .ref (adr (100 + 73))] (fun _ _ _ => False) (zX D cA adr (va_A (aW cA adr (sh, i, lo, rv)) H.size) (sh, i, lo, rv)) (va_A (aW cA adr (sh, i, lo, rv)) H.size) := by
    refine vx_runV (As := [.int a1, .int a2]) (rest := [.int 0, .ref (adr (100 + 73))]) (C := RX11) (Qc := fun _ _ _ _ => False) ⟨hX.1, hX.2.1, hX.2.2.1, hX.2.2.2.1, hX.2.2.2.2.1⟩ (zt_met hl hG hM hc D cA adr H.size) (cwV 2 hX.2.2.2.2.1 (gIn lk_L_7.2.2.2.2.1 [.methodLink RL 7 yX11_sleeper, .instanceMethod yX11_sleeper, .selects RX11 yX11_sleeper yX11_sleeper, .initialized RX11] ?_) rfl rfl rfl ⟨rfl, lk_L_7.2.2.2.2.2⟩ ⟨hRf, show 8 + (3 + 11) + 512 ≤ R.locals by omega⟩) ⟨zm_blind, va_recv hX.2.2.2.2.2.1 hR.1 kX11.1 (aW_at (sh_0 hG)), fun U hU hW => ⟨j_pre hX hR [.ref (100 + 0), .int a1, .int a2] U hU hW, zS_at hX hR hS U hU hW⟩⟩ rfl rfl hR.2.2.2.2.1.1 rfl (lv_room (Nat.le_of_ble_eq_true rfl)) dL_sleeper_5 ⟨by omega, by omega⟩
    intro w hw1
    simp only [List.mem_cons, List.not_mem_nil, or_false] at hw1
    rcases hw1 with rfl | rfl | rfl | rfl
    · exact lk_L_7.1
    · exact lk_L_7.2.1
    · exact lk_L_7.2.2.1
    · exact lk_L_7.2.2.2.1
  intro T hT X
  rcases hrun T hT X with ⟨v, st₀, t, T', L', h0, X', hL, e1, e2, hF, -⟩ | ⟨q, st₀, t, T', L', E, ce, h0, X', hL, e3, e4, ⟨rfl, hP1, hD1, hz, hk⟩, hce, hcv, hcl, stp⟩
  · exact hF.elim
  · rw [h0] at hz hk
    have kk := zc_catch (p := p) (l := l) (e := e) (R := R) (meth := meth) (below := below) (own := RL) (name := zE) (E := zE) (pc := 5) (ls := ls) (rest := [.int 0, .ref (adr (100 + 73))]) (H := T'.heap) (locs := locs ++ L') (cells := cells + 1) (slots := slots + 6) (Q := vx_MQ below (aPost D cA ad0 A (sh, i, lo, rv) (some (.int 1)) (sh, i, lo, rv)) (fun _ _ _ => False) args s 1 6 A) hX.2.2.2.1 zx htab (by decide) (by decide) (hX.2.2.2.2.1 _ zl_4) (zf_at (State.WarmedH.refl s) rfl (hS.1 _ zl_5 rfl)) (by rw [e3]; exact hce) hcv hcl (by
      refine lv_astore (i := 4) hX.1 hX.2.1 dL_sleeper_13 hR.2.2.2.2.1 (by decide) rfl (fun ls1 h1 => ?_)
      have kk : aK 1 6 p l e R s m args below meth c (vx_MQ below (aPost D cA ad0 A (sh, i, lo, rv) (some (.int 1)) (sh, i, lo, rv)) (fun _ _ _ => False) args s 1 6 A) D cA A ad0 5 sh.length (aSn sh) 15 [some (.ref (100 + 0)), some (.int a1), some (.int a2), some (.ref (100 + 73)), none] [] (sh, i, lo, rv) := k_iconst hX dL_sleeper_15 ic_1 (kz_ret (h0 := (sh, i, lo, rv)) (h := (sh, i, lo, rv)) hX hr hlk rfl dL_sleeper_16 rfl rfl)
      refine kk adr T'.heap ls1 (locs ++ L') cells slots ⟨by rw [e3]; exact hP1, hD1.weaken (fun k q _ hq => hsub _ hq), ⟨Nat.le_trans hR.2.2.1.1 (by rw [e3]; exact hz), fun q h1 h2 => by rw [e3, hk q (Nat.lt_of_lt_of_le h1 hR.2.2.1.1) (fun z => h2 (hsub q z))]; exact hR.2.2.1.2.1 q h1 h2, fun q hq => by
        rcases List.mem_append.mp hq with h | h
        · exact hR.2.2.1.2.2 q h
        · exact hsub _ (hL q h)⟩, hR.2.2.2.1, ⟨h1.1, h1.2.1, fun q hq => h1.2.2 q (List.mem_cons_of_mem _ hq)⟩, hR.2.2.2.2.2⟩)
    obtain ⟨t2, a1, b1⟩ := kk T' rfl X'
    exact ⟨t2, stp.trans a1, b1⟩
/-- the two contracts of the law's sleeper -/
theorem zm_ans (hG : aGood sh rv) (hM : aM l yX11_sleeper cX11_sleeper 3 (some .int) d [.ref (100 + 0), .int a1, .int a2] (sh, i, lo, rv) (some (.int v)) (sh, i, lo, rv)) (D : va_G) (cA : FieldType → ClassId) (adr : Nat → Nat) (sz : Nat) :
    vx_Met l yL_sleeper zW { frames := d + 1, cells := 0, slots := 0, locals := 64 * d + 64 } (aPre D cA adr sz [.ref (100 + 0), .int a1, .int a2, .ref (100 + 73)] (sh, i, lo, rv)) (aPost D cA adr (va_A (aW cA adr (sh, i, lo, rv)) sz) (sh, i, lo, rv) (some (.int 0)) (sh, i, u2 lo 73 0 v.toInt64, rv)) (fun _ _ _ => False) 0 0 (va_A (aW cA adr (sh, i, lo, rv)) sz) := by
  refine vx_ofWH (cc := cL_sleeper) (maxL := 5) (ret := some .int) (hh := zH) rfl rfl ?_
  intro p e s m args below meth c s1 B hml hv
  obtain ⟨rfl, hsz, hP, hK, hD0, hC, hW⟩ := hv
  have hts := atoms_spec (ws := zW) B.pre
  have hown : s.vm.findClass RL = some m.cls := findClass_of_methodNamed B.named
  subst hsz
  have hD := hD0.self (sz := s.heap.size)
  have hX : aX p s m (([.ref (100 + 0), .int a1, .int a2, .ref (100 + 73)] : List Value).map (aV adr)).toArray c RL cL_sleeper 5 D cA (va_A (aW cA adr (sh, i, lo, rv)) s.heap.size) adr := ⟨B.exec, B.bytes, hml, hown, fun w hw => hts w (List.mem_cons_of_mem _ hw), hK, fun q hq => Or.inr hq, hC⟩
  have hb := zs_ans (R := { frames := d + 1, cells := 0, slots := 0, locals := 64 * d + 64 }) (below := below) (meth := meth) (e := e) hX B.returns B.notSynchronized (Nat.le_refl _) (Nat.le_refl _) hG hM
  rw [lg_entry_eq]
  exact hb adr s.heap _ [] 0 0 ⟨hP, hD, va_S.rf, hW, aEnt_has adr [.ref (100 + 0), .int a1, .int a2, .ref (100 + 73)] (n := 5) (Nat.le_of_ble_eq_true rfl), rfl, Nat.zero_add _, Nat.zero_add _, fun _ _ => rfl, fun _ => rfl⟩
theorem zm_thr (hl : l.stackTraces = false) (hG : aGood sh rv) (hM : aM l yX1_hasSleeper cX1_hasSleeper 2 (some .boolean) 0 [.ref (100 + 15), .int a1] (sh, i, lo, rv) (some (.int v1)) (sh, i, lo, rv)) (hc : v1 = 0 ∨ a2 < 0 ∨ 10 < a2) (D : va_G) (cA : FieldType → ClassId) (adr : Nat → Nat) (sz : Nat) :
    vx_Met l yL_sleeper zW { frames := 9, cells := 1, slots := 6, locals := 600 } (fun a U => aPre D cA adr sz [.ref (100 + 0), .int a1, .int a2, .ref (100 + 73)] (sh, i, lo, rv) a U ∧ zS (va_A (aW cA adr (sh, i, lo, rv)) sz) U) (aPost D cA adr (va_A (aW cA adr (sh, i, lo, rv)) sz) (sh, i, lo, rv) (some (.int 1)) (sh, i, lo, rv)) (fun _ _ _ => False) 1 6 (va_A (aW cA adr (sh, i, lo, rv)) sz) := by
  refine vx_ofWH (cc := cL_sleeper) (maxL := 5) (ret := some .int) (hh := zH) rfl rfl ?_
  intro p e s m args below meth c s1 B hml hv
  obtain ⟨⟨rfl, hsz, hP, hK, hD0, hC, hW⟩, hS⟩ := hv
  have hts := atoms_spec (ws := zW) B.pre
  have hown : s.vm.findClass RL = some m.cls := findClass_of_methodNamed B.named
  subst hsz
  have hD := hD0.self (sz := s.heap.size)
  have hX : aX p s m (([.ref (100 + 0), .int a1, .int a2, .ref (100 + 73)] : List Value).map (aV adr)).toArray c RL cL_sleeper 5 D cA (va_A (aW cA adr (sh, i, lo, rv)) s.heap.size) adr := ⟨B.exec, B.bytes, hml, hown, fun w hw => hts w (List.mem_cons_of_mem _ hw), hK, fun q hq => Or.inr hq, hC⟩
  have hb := zs_thr (R := { frames := 9, cells := 1, slots := 6, locals := 600 }) (below := below) (meth := meth) (e := e) hl hX (vx_table (x := yL_sleeper) B (hts _ (List.mem_cons_self ..))) hS B.returns B.notSynchronized (Nat.le_refl _) (Nat.le_refl _) (Nat.le_refl _) (Nat.le_refl _) hG hM hc
  rw [lg_entry_eq]
  exact hb adr s.heap _ [] 0 0 ⟨hP, hD, va_S.rf, hW, aEnt_has adr [.ref (100 + 0), .int a1, .int a2, .ref (100 + 73)] (n := 5) (Nat.le_of_ble_eq_true rfl), rfl, Nat.zero_add _, Nat.zero_add _, fun _ _ => rfl, fun _ => rfl⟩
theorem k_lald (hX : aX p s m args c own cc nL D cA A ad0) {q n : Nat} {x : Int32} (hs : sh[q]? = some (.inl (.long, n))) (hin : aIn x n = true) (hd : decode cc pc = .ok (.laload, 1)) (kk : aK x9 y9 p l e R s m args below meth c Q D cA A ad0 nL c0 s0 (pc + 1) L (.long (lo q x.toNatClampNeg) :: st) (sh, i, lo, rv)) : aK x9 y9 p l e R s m args below meth c Q D cA A ad0 nL c0 s0 pc L (.int x :: .ref (100 + q) :: st) (sh, i, lo, rv) :=
  fun adr H ls locs cells slots hR => va_lald hX.1 hX.2.1 hX.2.2.2.2.2.1 hR.1 q 3 (aW_at (h := (sh, i, lo, rv)) hs) rfl (aIn_vp hin) hd (kk adr H ls locs cells slots hR)
end SL
theorem zc_self (x : Int64) : lg_cmp x x = 0 := by simp [lg_cmp]
section LE
variable {p : Program} {l : Launch} {e : Env} {s : State} {m : MethodId} {args : Array Value} {below : List Frame} {meth : Method} {c : Code} {Q : State → Prop} {D : va_G} {cA : FieldType → ClassId} {ad0 : Nat → Nat}
variable {b Ln n x9 y9 d : Nat} {xs : Nat → Int32} {v v1 : Int32} {y5 y6 : Option Value} {sh : List aSh} {i i2 : Nat → Nat → Int32} {lo : Nat → Nat → Int64} {rv : Nat → Nat → Option Nat}
theorem lc_5a (hX : lX p s m args c D cA ad0 b Ln xs) (hn : n + 5 < Ln) (hb6 : ∀ v, y6 = some v → aBel 174 v = true) (hG : aGood sh rv) (hd9 : d ≤ 1198) (hM1 : aM l yX11_sleeper cX11_sleeper 3 (some .int) d [.ref (100 + 0), .int (xs (n + 1)), .int (xs (n + 2))] (sh, i, lo, rv) (some (.int v)) (sh, i, lo, rv)) (hM2 : lM l yX12_sleeper cX12_sleeper 3 (some .int) [.ref (100 + 50), .int (xs (n + 1)), .int (xs (n + 2))] (sh, i, u2 lo 73 0 v.toInt64, rv) (.int v) (sh, i2, u2 lo 73 0 v.toInt64, rv)) (hM3 : lM l yX12_thrown cX12_thrown 1 (some .int) [.ref (100 + 50)] (sh, i2, u2 lo 73 0 v.toInt64, rv) (.int 0) (sh, i2, u2 lo 73 0 v.toInt64, rv)) (hl1 : 73 < sh.length) (hz1 : sh.length ≤ 600000) (hz2 : aSn sh ≤ 7280000) (hx9 : x9 < 1024) (hy9 : y9 + 6 ≤ 13034)
    (kk : aK x9 y9 p l e room_1 s m args below meth c Q D cA (fun q => s.heap.size ≤ q) ad0 7 0 0 1684 [some (.ref 4), some (.ref (100 + 0)), some (.ref (100 + 50)), some (.ref (100 + 73)), some (.int (nI n)), some (.int 0), some (.int v)] [] (sh, i2, u2 lo 73 0 v.toInt64, rv)) : aK x9 y9 p l e room_1 s m args below meth c Q D cA (fun q => s.heap.size ≤ q) ad0 7 0 0 409 [some (.ref 4), some (.ref (100 + 0)), some (.ref (100 + 50)), some (.ref (100 + 73)), some (.int (nI n)), y5, y6] [] (sh, i, lo, rv) := by
  obtain ⟨d2, hM2⟩ := hM2
  obtain ⟨d3, hM3⟩ := hM3
  refine k_aload_n hX.1 dL_law_409 rfl ?_
  refine kpc (b := 410) rfl ?_
  refine k_aload_n hX.1 dL_law_410 rfl ?_
  refine kpc (b := 411) rfl ?_
  refine k_iload hX.1 dL_law_411 rfl ?_
  refine kpc (b := 413) rfl ?_
  refine k_iconst hX.1 dL_law_413 ic_1 ?_
  refine kpc (b := 414) rfl ?_
  refine k_iadd hX.1 dL_law_414 ?_
  refine kpc (b := 415) rfl ?_
  refine k_sld (n := n + 1) hX (nI_add n 1) (by omega) dL_law_415 ?_
  refine kpc (b := 416) rfl ?_
  refine k_aload_n hX.1 dL_law_416 rfl ?_
  refine kpc (b := 417) rfl ?_
  refine k_iload hX.1 dL_law_417 rfl ?_
  refine kpc (b := 419) rfl ?_
  refine k_iconst hX.1 dL_law_419 ic_2 ?_
  refine kpc (b := 420) rfl ?_
  refine k_iadd hX.1 dL_law_420 ?_
  refine kpc (b := 421) rfl ?_
  refine k_sld (n := n + 2) hX (nI_add n 2) (by omega) dL_law_421 ?_
  refine kpc (b := 422) rfl ?_
  refine k_aload_n hX.1 dL_law_422 rfl ?_
  refine kpc (b := 423) rfl ?_
  have kk2 : aK x9 y9 p l e room_1 s m args below meth c Q D cA (fun q => s.heap.size ≤ q) ad0 7 0 0 426 [some (.ref 4), some (.ref (100 + 0)), some (.ref (100 + 50)), some (.ref (100 + 73)), some (.int (nI n)), y5, y6] [.int 0] (sh, i, u2 lo 73 0 v.toInt64, rv) := ?_
  · intro adr H ls locs cells slots hR
    have hc1 : cells + 0 = sh.length := hR.2.2.2.2.2.2.1
    have hc2 : slots + 0 = aSn sh := hR.2.2.2.2.2.2.2.1
    refine k_afterX (st := []) (r := some (.int 0)) (h' := (sh, i, u2 lo 73 0 v.toInt64, rv)) (mc := 0) (ms := 0) hX.1 hR rfl rfl (vx_runSX (As := [.ref (adr (100 + 0)), .int (xs (n + 1)), .int (xs (n + 2)), .ref (adr (100 + 73))]) (rest := []) ⟨hX.1.1, hX.1.2.1, hX.1.2.2.1, hX.1.2.2.2.1, hX.1.2.2.2.2.1⟩ (zm_ans hG hM1 D cA adr H.size) (vx_cwSW 4 hX.1.2.2.2.2.1 zl_G rfl rfl rfl ⟨by decide, by decide, by decide +kernel⟩ ⟨show d + 1 + 1 ≤ 2048 by omega, show 8 + (5 + 11) + (64 * d + 64) ≤ 84000 by omega⟩) ⟨aPre_blind, fun U hU hW => j_pre hX.1 hR [.ref (100 + 0), .int (xs (n + 1)), .int (xs (n + 2)), .ref (100 + 73)] U hU hW⟩ rfl rfl hR.2.2.2.2.1.1 rfl (lv_room (Nat.le_of_ble_eq_true rfl)) dL_law_423 ⟨show cells + x9 + 0 ≤ 601024 by omega, show slots + y9 + 0 ≤ 7293034 by omega⟩) kk2
  refine k_istore hX.1 dL_law_426 (by decide) rfl ?_
  refine kpc (b := 428) rfl ?_
  refine k_aload_n hX.1 dL_law_428 rfl ?_
  refine kpc (b := 429) rfl ?_
  refine k_aload_n hX.1 dL_law_429 rfl ?_
  refine kpc (b := 430) rfl ?_
  refine k_iload hX.1 dL_law_430 rfl ?_
  refine kpc (b := 432) rfl ?_
  refine k_iconst hX.1 dL_law_432 ic_1 ?_
  refine kpc (b := 433) rfl ?_
  refine k_iadd hX.1 dL_law_433 ?_
  refine kpc (b := 434) rfl ?_
  refine k_sld (n := n + 1) hX (nI_add n 1) (by omega) dL_law_434 ?_
  refine kpc (b := 435) rfl ?_
  refine k_aload_n hX.1 dL_law_435 rfl ?_
  refine kpc (b := 436) rfl ?_
  refine k_iload hX.1 dL_law_436 rfl ?_
  refine kpc (b := 438) rfl ?_
  refine k_iconst hX.1 dL_law_438 ic_2 ?_
  refine kpc (b := 439) rfl ?_
  refine k_iadd hX.1 dL_law_439 ?_
  refine kpc (b := 440) rfl ?_
  refine k_sld (n := n + 2) hX (nI_add n 2) (by omega) dL_law_440 ?_
  refine kpc (b := 441) rfl ?_
  refine k_callVN (as := [.int (xs (n + 1)), .int (xs (n + 2))]) (r := some (.int v)) hX.1 lk_L_47 kX12 dL_law_441 (sh_50 hG) hM2.2.1 rfl (lRm hM2.1 (by decide)) (Nat.le_of_ble_eq_true rfl) (lRx hM2.2.2.1 (by omega)) (lRy hM2.2.2.2 (by omega)) b_nil (bel7 hl1 (fun v hv => by cases hv; rfl) (fun v hv => by cases hv; rfl) (fun v hv => aBel_up hl1 (hb6 v hv))) ?_
  refine kpc (b := 444) rfl ?_
  refine k_istore hX.1 dL_law_444 (by decide) rfl ?_
  refine kpc (b := 446) rfl ?_
  refine k_aload_n hX.1 dL_law_446 rfl ?_
  refine kpc (b := 447) rfl ?_
  refine k_callVN (as := []) (r := some (.int 0)) hX.1 lk_L_48 kX12 dL_law_447 (sh_50 hG) hM3.2.1 rfl (lRm hM3.1 (by decide)) (Nat.le_of_ble_eq_true rfl) (lRx hM3.2.2.1 (by omega)) (lRy hM3.2.2.2 (by omega)) b_nil (bel7 hl1 (fun v hv => by cases hv; rfl) (fun v hv => by cases hv; rfl) (fun v hv => by cases hv; rfl)) ?_
  refine kpc (b := 450) rfl ?_
  refine k_iload hX.1 dL_law_450 rfl ?_
  refine kpc (b := 452) rfl ?_
  refine k_icmp_eq (tgt := 457) hX.1 dL_law_452 (by decide) (fun _ => ?_) (fun c1 => absurd rfl c1)
  refine k_iload hX.1 dL_law_457 rfl ?_
  refine kpc (b := 459) rfl ?_
  refine k_if_ne (tgt := 474) hX.1 dL_law_459 (by decide) (fun c1 => absurd rfl c1) (fun _ => ?_)
  refine kpc (b := 462) rfl ?_
  refine k_aload_n hX.1 dL_law_462 rfl ?_
  refine kpc (b := 463) rfl ?_
  refine k_iconst hX.1 dL_law_463 ic_0 ?_
  refine kpc (b := 464) rfl ?_
  refine k_lald hX.1 (sh_73 hG) (by decide) dL_law_464 ?_
  refine kpc (b := 465) rfl ?_
  refine k_iload hX.1 dL_law_465 rfl ?_
  refine kpc (b := 467) rfl ?_
  refine k_i2l hX.1 dL_law_467 ?_
  refine kpc (b := 468) rfl ?_
  refine k_lcmp hX.1 dL_law_468 ?_
  refine kpc (b := 469) rfl ?_
  refine k_if_eq (tgt := 474) hX.1 dL_law_469 (by decide) (fun _ => ?_) (fun c1 => absurd ?_ c1)
  · exact k_goto (tgt := 1684) hX.1 dL_law_474 (by decide) kk
  · rw [show u2 lo 73 0 v.toInt64 73 (0 : Int32).toNatClampNeg = v.toInt64 from rfl]
    exact zc_self _
theorem lc_5t (hX : lX p s m args c D cA ad0 b Ln xs) (hn : n + 5 < Ln) (hb6 : ∀ v, y6 = some v → aBel 174 v = true) (hG : aGood sh rv) (hl : l.stackTraces = false) (hS : zS (fun q => s.heap.size ≤ q) s) (hM1 : aM l yX1_hasSleeper cX1_hasSleeper 2 (some .boolean) 0 [.ref (100 + 15), .int (xs (n + 1))] (sh, i, lo, rv) (some (.int v1)) (sh, i, lo, rv)) (hc : v1 = 0 ∨ xs (n + 2) < 0 ∨ 10 < xs (n + 2)) (hM2 : lM l yX12_sleeper cX12_sleeper 3 (some .int) [.ref (100 + 50), .int (xs (n + 1)), .int (xs (n + 2))] (sh, i, lo, rv) (.int 0) (sh, i2, lo, rv)) (hM3 : lM l yX12_thrown cX12_thrown 1 (some .int) [.ref (100 + 50)] (sh, i2, lo, rv) (.int 1) (sh, i2, lo, rv)) (hl1 : 73 < sh.length) (hz1 : sh.length ≤ 600000) (hz2 : aSn sh ≤ 7280000) (hx9 : x9 < 1024) (hy9 : y9 + 6 ≤ 13034)
    (kk : aK (x9 + 1) (y9 + 6) p l e room_1 s m args below meth c Q D cA (fun q => s.heap.size ≤ q) ad0 7 0 0 1684 [some (.ref 4), some (.ref (100 + 0)), some (.ref (100 + 50)), some (.ref (100 + 73)), some (.int (nI n)), some (.int 1), some (.int 0)] [] (sh, i2, lo, rv)) : aK x9 y9 p l e room_1 s m args below meth c Q D cA (fun q => s.heap.size ≤ q) ad0 7 0 0 409 [some (.ref 4), some (.ref (100 + 0)), some (.ref (100 + 50)), some (.ref (100 + 73)), some (.int (nI n)), y5, y6] [] (sh, i, lo, rv) := by
  obtain ⟨d2, hM2⟩ := hM2
  obtain ⟨d3, hM3⟩ := hM3
  refine k_aload_n hX.1 dL_law_409 rfl ?_
  refine kpc (b := 410) rfl ?_
  refine k_aload_n hX.1 dL_law_410 rfl ?_
  refine kpc (b := 411) rfl ?_
  refine k_iload hX.1 dL_law_411 rfl ?_
  refine kpc (b := 413) rfl ?_
  refine k_iconst hX.1 dL_law_413 ic_1 ?_
  refine kpc (b := 414) rfl ?_
  refine k_iadd hX.1 dL_law_414 ?_
  refine kpc (b := 415) rfl ?_
  refine k_sld (n := n + 1) hX (nI_add n 1) (by omega) dL_law_415 ?_
  refine kpc (b := 416) rfl ?_
  refine k_aload_n hX.1 dL_law_416 rfl ?_
  refine kpc (b := 417) rfl ?_
  refine k_iload hX.1 dL_law_417 rfl ?_
  refine kpc (b := 419) rfl ?_
  refine k_iconst hX.1 dL_law_419 ic_2 ?_
  refine kpc (b := 420) rfl ?_
  refine k_iadd hX.1 dL_law_420 ?_
  refine kpc (b := 421) rfl ?_
  refine k_sld (n := n + 2) hX (nI_add n 2) (by omega) dL_law_421 ?_
  refine kpc (b := 422) rfl ?_
  refine k_aload_n hX.1 dL_law_422 rfl ?_
  refine kpc (b := 423) rfl ?_
  have kk2 : aK (x9 + 1) (y9 + 6) p l e room_1 s m args below meth c Q D cA (fun q => s.heap.size ≤ q) ad0 7 0 0 426 [some (.ref 4), some (.ref (100 + 0)), some (.ref (100 + 50)), some (.ref (100 + 73)), some (.int (nI n)), y5, y6] [.int 1] (sh, i, lo, rv) := ?_
  · intro adr H ls locs cells slots hR
    have hc1 : cells + 0 = sh.length := hR.2.2.2.2.2.2.1
    have hc2 : slots + 0 = aSn sh := hR.2.2.2.2.2.2.2.1
    refine k_afterX (st := []) (r := some (.int 1)) (h' := (sh, i, lo, rv)) (mc := 1) (ms := 6) hX.1 hR rfl rfl (vx_runSX (As := [.ref (adr (100 + 0)), .int (xs (n + 1)), .int (xs (n + 2)), .ref (adr (100 + 73))]) (rest := []) ⟨hX.1.1, hX.1.2.1, hX.1.2.2.1, hX.1.2.2.2.1, hX.1.2.2.2.2.1⟩ (zm_thr hl hG hM1 hc D cA adr H.size) (vx_cwSW 4 hX.1.2.2.2.2.1 zl_G rfl rfl rfl ⟨by decide, by decide, by decide +kernel⟩ ⟨show 9 + 1 ≤ 2048 by omega, show 8 + (5 + 11) + 600 ≤ 84000 by omega⟩) ⟨zm_blind, fun U hU hW => ⟨j_pre hX.1 hR [.ref (100 + 0), .int (xs (n + 1)), .int (xs (n + 2)), .ref (100 + 73)] U hU hW, zS_at hX.1 hR hS U hU hW⟩⟩ rfl rfl hR.2.2.2.2.1.1 rfl (lv_room (Nat.le_of_ble_eq_true rfl)) dL_law_423 ⟨show cells + x9 + 1 ≤ 601024 by omega, show slots + y9 + 6 ≤ 7293034 by omega⟩) kk2
  refine k_istore hX.1 dL_law_426 (by decide) rfl ?_
  refine kpc (b := 428) rfl ?_
  refine k_aload_n hX.1 dL_law_428 rfl ?_
  refine kpc (b := 429) rfl ?_
  refine k_aload_n hX.1 dL_law_429 rfl ?_
  refine kpc (b := 430) rfl ?_
  refine k_iload hX.1 dL_law_430 rfl ?_
  refine kpc (b := 432) rfl ?_
  refine k_iconst hX.1 dL_law_432 ic_1 ?_
  refine kpc (b := 433) rfl ?_
  refine k_iadd hX.1 dL_law_433 ?_
  refine kpc (b := 434) rfl ?_
  refine k_sld (n := n + 1) hX (nI_add n 1) (by omega) dL_law_434 ?_
  refine kpc (b := 435) rfl ?_
  refine k_aload_n hX.1 dL_law_435 rfl ?_
  refine kpc (b := 436) rfl ?_
  refine k_iload hX.1 dL_law_436 rfl ?_
  refine kpc (b := 438) rfl ?_
  refine k_iconst hX.1 dL_law_438 ic_2 ?_
  refine kpc (b := 439) rfl ?_
  refine k_iadd hX.1 dL_law_439 ?_
  refine kpc (b := 440) rfl ?_
  refine k_sld (n := n + 2) hX (nI_add n 2) (by omega) dL_law_440 ?_
  refine kpc (b := 441) rfl ?_
  refine k_callVN (as := [.int (xs (n + 1)), .int (xs (n + 2))]) (r := some (.int 0)) hX.1 lk_L_47 kX12 dL_law_441 (sh_50 hG) hM2.2.1 rfl (lRm hM2.1 (by decide)) (Nat.le_of_ble_eq_true rfl) (lRx hM2.2.2.1 (by omega)) (lRy hM2.2.2.2 (by omega)) b_nil (bel7 hl1 (fun v hv => by cases hv; rfl) (fun v hv => by cases hv; rfl) (fun v hv => aBel_up hl1 (hb6 v hv))) ?_
  refine kpc (b := 444) rfl ?_
  refine k_istore hX.1 dL_law_444 (by decide) rfl ?_
  refine kpc (b := 446) rfl ?_
  refine k_aload_n hX.1 dL_law_446 rfl ?_
  refine kpc (b := 447) rfl ?_
  refine k_callVN (as := []) (r := some (.int 1)) hX.1 lk_L_48 kX12 dL_law_447 (sh_50 hG) hM3.2.1 rfl (lRm hM3.1 (by decide)) (Nat.le_of_ble_eq_true rfl) (lRx hM3.2.2.1 (by omega)) (lRy hM3.2.2.2 (by omega)) b_nil (bel7 hl1 (fun v hv => by cases hv; rfl) (fun v hv => by cases hv; rfl) (fun v hv => by cases hv; rfl)) ?_
  refine kpc (b := 450) rfl ?_
  refine k_iload hX.1 dL_law_450 rfl ?_
  refine kpc (b := 452) rfl ?_
  refine k_icmp_eq (tgt := 457) hX.1 dL_law_452 (by decide) (fun _ => ?_) (fun c1 => absurd rfl c1)
  refine k_iload hX.1 dL_law_457 rfl ?_
  refine kpc (b := 459) rfl ?_
  refine k_if_ne (tgt := 474) hX.1 dL_law_459 (by decide) (fun _ => ?_) (fun c1 => absurd c1 (by decide))
  exact k_goto (tgt := 1684) hX.1 dL_law_474 (by decide) kk
end LE
