/-! the start of the law, its whole walk, the claim (the frame out of the printed skeleton, with the launch's flag as a premise) -/
section SX
variable {p : Program} {l : Launch} {e : Env} {R : Room} {s : State} {m : MethodId} {args : Array Value} {below : List Frame} {meth : Method} {c : Code} {Q : State → Prop} {D : va_G} {cA : FieldType → ClassId} {A : Nat → Prop} {ad0 : Nat → Nat} {nL c0 s0 : Nat}
variable {own : String} {cc : ByteArray} {pc : Nat} {L : List (Option Value)} {st : List Value} {h h' : aHp}
theorem j_callIX (hX : aX p s m args c own cc nL D cA A ad0) (hE : aE s) {y : MethodName} {bytes : ByteArray} {maxL n d i q : Nat} {as : List Value} {w : aHp} (hw : aLI own i y bytes maxL n) (hd : decode cc pc = .ok (.invokespecial i, 3)) (hM : aMx l y bytes maxL none d (.ref (100 + q) :: as) h none w) (ha : as.length = n) (hf : d + 1 ≤ R.frames ∧ 8 + (maxL + 11) + 64 * d ≤ R.locals) (hk : (st.map fun v => v.category).sum ≤ 8) (hr1 : w.1.length ≤ c0 + R.cells) (hr2 : aSn w.1 ≤ s0 + R.slots)
    {n0 : Nat} (hl : h.1.length = n0) (hoS : st.all (aBel (100 + n0)) = true) (hoL : (L.all (fun o => match o with | some v => aBel (100 + n0) v | none => true)) = true)
    (hh : h' = w) (kk : aJ p l e R s m args below meth c Q D cA A ad0 nL c0 s0 (pc + 3) L st h') : aJ p l e R s m args below meth c Q D cA A ad0 nL c0 s0 pc L (as.reverse ++ .ref (100 + q) :: st) h := by
  subst hl hh
  intro adr H ls locs cells slots hR
  refine j_afterN (r := none) (ar := (Value.ref (adr (100 + q)) :: as.map (aV adr)).toArray) hX hR hM.1 hM.2.1 hoS hoL ?_ kk
  rw [aStk]
  exact va_runI (As := as.map (aV adr)) (rest := st.map (aV adr)) ⟨hX.1, hX.2.1, hX.2.2.1, hX.2.2.2.1, hX.2.2.2.2.1⟩ (hM.2.2 D cA adr H.size) (cwI n hX.2.2.2.2.1 (gIn hw.2.2.2.1 [] (fun w hw => absurd hw List.not_mem_nil)) rfl rfl rfl (hX.2.2.2.2.1 _ hw.2.2.1) (hX.2.2.2.2.1 _ hw.1) (hX.2.2.2.2.1 _ hw.2.1) hw.2.2.2.2.2 hw.2.2.2.2.1 hf) ⟨aPreX_blind, fun U hU hW => ⟨j_pre hX hR (.ref (100 + q) :: as) U hU hW, aE_moved hW.alike hE⟩⟩ rfl (by simpa using ha) hR.2.2.2.2.1.1 rfl (lv_room (by rw [aV_sum]; exact hk)) hd (aRm hR hM.1 hM.2.1 hr1 hr2)
end SX
set_option maxRecDepth 100000 in
theorem wz_1 : Cond.laysStatic Bundle.tN "UNASSIGNED_STACK" Bundle.steD ∈ lw_tbl := List.mem_of_getElem? (i := 1500) rfl
set_option maxRecDepth 100000 in
theorem wz_2 : Cond.laysStatic Bundle.tN "SUPPRESSED_SENTINEL" Bundle.listD ∈ lw_tbl := List.mem_of_getElem? (i := 1502) rfl
set_option maxRecDepth 100000 in
theorem wz_3 : Cond.initialized Bundle.tN ∈ lw_tbl := List.mem_of_getElem? (i := 134) rfl
theorem wz_4 : Cond.isRef (.static Bundle.tN "UNASSIGNED_STACK" Bundle.steD) ∈ lwF ∧ Cond.isRef (.static Bundle.tN "SUPPRESSED_SENTINEL" Bundle.listD) ∈ lwF := by decide +kernel
theorem W02_n : aSn W02.1 ≤ 100000 := Nat.le_trans (by
  show aSn W02.1 ≤ aSn W05.1
  have e4 : aSn W05.1 = aSn W04.1 + 1 := aNew_sn W04 (.inl (.long, 1))
  have e3 : aSn W04.1 = aSn W03.1 + 14507 := snX12_init 50 W03
  have e2 : aSn W03.1 = aSn W02.1 + aSz (.inr 12) := aNew_sn W02 (.inr 12)
  omega) W05_n
theorem W04_n : aSn W04.1 ≤ 100000 := Nat.le_trans (by
  show aSn W04.1 ≤ aSn W05.1
  have e4 : aSn W05.1 = aSn W04.1 + 1 := aNew_sn W04 (.inl (.long, 1))
  omega) W05_n
theorem W03_50 : W03.1[50]? = some (.inr 12) := by
  show (W02.1 ++ [.inr 12])[50]? = some (.inr 12)
  rw [List.getElem?_append_right (by rw [W02_l]; omega), W02_l]
  rfl
theorem whole_start {p : Program} {e : Env} {s : State} {m : MethodId} {below : List Frame} {meth : Method} {c : Code} (l : Launch) (hlt : l.stackTraces = false) {b L : Nat} {xs : Nat → Int32} (hL : L ≤ 3072) (C0 : lw_At p s m meth c b L xs) : W p l e room_1 s m #[Value.ref b] below meth c s.heap [] 0 0 (lw_Z below #[Value.ref b] s) (entryFrame m ([Value.ref b] : List Value).toArray 7) := by
  obtain ⟨D, cA, ad0, hX0, hE, h4⟩ := lw_ctx C0
  subst h4
  obtain ⟨hx, hb, hret, hml, hown, hts, hXs, hbl, hlk, hgv⟩ := id C0
  have hF : ∀ w ∈ lwF, w.before #[Value.ref (ad0 4)] s = true := flat_of_before _ hgv
  have hX : lX p s m #[Value.ref (ad0 4)] c D cA ad0 (ad0 4) L xs := ⟨hX0, hXs, hbl, rfl, hL⟩
  have hA : ∀ a : Nat, a < s.heap.size → ¬ (s.heap.size ≤ a) := fun a ha => by omega
  have hz : zS (fun q => s.heap.size ≤ q) s := ⟨fun w hw g => zf_at (State.WarmedH.refl s) g (hts w hw), vx_Zqof (hts _ wz_1) (hts _ wz_3) (hF _ wz_4.1) hA, vx_Zqof (hts _ wz_2) (hts _ wz_3) (hF _ wz_4.2) hA⟩
  have kk := lz_loop (e := e) (below := below) hlt hz hX hret hlk 512 0 rfl W05.1 W05.2.1 W05.2.2.1 W05.2.2.2 0 0 none none (lS_mk W05_g W05_v (by rw [W05_l]; omega) (by rw [W05_l]; omega) W05_n (Nat.le_refl _) (Nat.le_refl _) (fun v hv => nomatch hv) (fun v hv => nomatch hv))
  have hw : aJ p l e room_1 s m #[Value.ref (ad0 4)] below meth c (lw_Z below #[Value.ref (ad0 4)] s) D cA (fun q => s.heap.size ≤ q) ad0 7 0 0 0 [some (.ref 4), none, none, none, none, none, none] [] W00 := by
    refine j_newN (N := 14) (n0 := 0) hX.1 kX11 dL_law_0 wCl_RL_8 wIn_RX11 wIni_RX11 nf_RX11 rfl b_nil rfl (show 0 + 1 ≤ 0 + 601024 by omega) (show 0 + 14 ≤ 0 + 7293034 by omega) (h' := W01) rfl ?_
    refine j_dup hX.1 dL_law_3 rfl ?_
    refine j_callIX (as := []) (q := 0) (n0 := 1) hX.1 hE lk_L_15 dL_law_4 (okX11_init (l := l) (p := 0) (h := W01) rfl) rfl ⟨show 3 + 1 ≤ 2048 by omega, show 8 + (1 + 11) + 64 * 3 ≤ 84000 by omega⟩ (Nat.le_of_ble_eq_true rfl) (show W02.1.length ≤ 0 + 601024 by rw [W02_l]; omega) (show aSn W02.1 ≤ 0 + 7293034 by have := W02_n; omega) W01_l (b_cons (b_ref (by omega)) b_nil) rfl (h' := W02) rfl ?_
    refine j_astore_n hX.1 dL_law_7 (by decide) rfl ?_
    refine j_newN (N := 58) (n0 := 50) hX.1 kX12 dL_law_8 wCl_RL_16 wIn_RX12 wIni_RX12 nf_RX12 W02_l b_nil rfl (show 50 + 1 ≤ 0 + 601024 by omega) (show aSn W02.1 + 58 ≤ 0 + 7293034 by have := W02_n; omega) (h' := W03) rfl ?_
    refine j_dup hX.1 dL_law_11 rfl ?_
    refine j_callIM (as := []) (q := 50) (n0 := 51) hX.1 lk_L_18 dL_law_12 (okX12_init (l := l) (p := 50) (h := W03) W03_50) rfl ⟨show 1 + 1 ≤ 2048 by omega, show 8 + (1 + 11) + 64 * 1 ≤ 84000 by omega⟩ (Nat.le_of_ble_eq_true rfl) (show W04.1.length ≤ 0 + 601024 by rw [W04_l]; omega) (show aSn W04.1 ≤ 0 + 7293034 by have := W04_n; omega) W03_l (b_cons (b_ref (by omega)) b_nil) rfl (h' := W04) rfl ?_
    refine j_astore_n hX.1 dL_law_15 (by decide) rfl ?_
    refine j_iconst hX.1 dL_law_16 ic_1 ?_
    refine j_newaN (ty := .long) (t0 := 3) (n := 1) (n0 := 73) hX.1 dL_law_17 rfl (fun _ => rfl) wAr_long (fun _ => rfl) (by decide) (by decide) (by decide) W04_l b_nil rfl (show 73 + 1 ≤ 0 + 601024 by omega) (show aSn W04.1 + 1 ≤ 0 + 7293034 by have := W04_n; omega) (h' := W05) rfl ?_
    refine j_astore_n hX.1 dL_law_19 (by decide) rfl ?_
    refine j_iconst hX.1 dL_law_20 ic_0 ?_
    refine j_istore hX.1 dL_law_21 (by decide) rfl ?_
    exact k_to kk
  rw [lg_entry_eq]
  exact hw ad0 s.heap _ [] 0 0 ⟨fun k q hq => by simp [aW, W00] at hq, ⟨fun i j p q hp => by simp [aW, W00] at hp, fun k q hq => by simp [aW, W00] at hq⟩, va_S.rf, fun p k a ha => (by cases ha), aEnt_has ad0 [.ref 4] (n := 7) (Nat.le_of_ble_eq_true rfl), rfl, rfl, rfl, fun _ _ => rfl, fun _ => rfl⟩
set_option maxHeartbeats 4000000 in
theorem lw_walk (l : Launch) (hlt : l.stackTraces = false) (b : Addr) (xs : List Int32) : MetFree l x (headSpec (Jvm.Cond.code x code maxLocals ret :: tables_1) room_1) (lw_P b xs) (fun _ _ _ _ _ => True) lw_Q := by
  refine MetFree.of_bodyS (code := code) (maxLocals := maxLocals) (ret := ret) (by decide) ?_ ?_
  · intro args s m h hn
    obtain ⟨meth, c, h1, h2, h3, h4, h5, h6, -, -⟩ := Cond.code_spec hn (atoms_spec (ws := Jvm.Cond.code x code maxLocals ret :: tables_1) h _ List.mem_cons_self)
    exact ⟨meth, c, h1, h2, h3, h4, h5, h6⟩
  · intro p e s m args below meth c s₁ B hml0 hP _
    obtain ⟨rfl, hx, hbd, hgv⟩ := hP
    obtain ⟨scr, harrAt, hlist, hof, hsmall⟩ := hx
    obtain ⟨hcb, hkn, -, -⟩ := State.arrayAt?_spec harrAt
    have hown : s.vm.findClass R_law = some m.cls := findClass_of_methodNamed B.named
    have hts0 : ∀ c ∈ (Jvm.Cond.code x code maxLocals ret :: tables_1), c.before #[Value.ref b] s = true := atoms_spec (ws := Jvm.Cond.code x code maxLocals ret :: tables_1) B.pre
    have hts : ∀ w ∈ lw_tbl, w.before #[Value.ref b] s = true := k2_hts_sels lw_privs (fun w hw => hts0 w (List.mem_cons_of_mem _ hw)) lw_privs_ok
    have hml : c.maxLocals = 7 := B.maxLocals_eq (hts0 _ List.mem_cons_self)
    have X₀ : Stand p l e room_1 s m #[Value.ref b] below meth c s₁ [] 0 0 := Stand.of_body B
    have hh0 : s₁.heap = s.heap := by rw [B.state]; rfl
    have hsz : scr.slots.size = xs.length := by rw [← Array.length_toList, hlist, List.length_map]
    have hval : ∀ j : Nat, j < xs.length → scr.slots[j]? = some (.int (xs.getD j 0)) := fun j hj => by
      rw [← Array.getElem?_toList, hlist]
      simp [hj]
    have hbl : b < s.heap.size := (Array.getElem?_eq_some_iff.mp hcb).1
    have hX : va_X b xs.length (fun j => xs.getD j 0) s s.heap := ⟨scr, hcb, hof, hkn, hsz, hval⟩
    have K : W p l e room_1 s m #[Value.ref b] below meth c s₁.heap [] 0 0 (lw_Z below #[Value.ref b] s) (entryFrame m ([Value.ref b] : List Value).toArray 7) := by
      rw [hh0]
      exact whole_start l hlt hbd ⟨B.exec, B.bytes, B.returns, hml, hown, hts, hX, hbl, B.notSynchronized, hgv⟩
    obtain ⟨t, a1, o, b1, b2, b3⟩ := K s₁ rfl X₀
    exact ⟨t, o, a1, b1, b2, b3⟩
theorem lw_pre_spec {args : Array Value} {s : State} (h : (Jvm.Cond.and given_1 narrow_1).before args s = true) (hr : rest_1_c.before args s = true) : ∃ (b : Addr) (xs : List Int32), lw_P b xs args s := by
  have hs := flat_of_before _ h
  have hq := flat_of_before _ hr
  have hc : (Cond.count 1).before args s = true := hs _ (by decide +kernel)
  have harr : (Cond.arrayOf (.arg 0) .int).before args s = true := hs _ (by decide +kernel)
  have hle : (Cond.le (.length (.arg 0)) (.int 3072)).before args s = true := hs _ (by decide +kernel)
  have hlen : (Cond.isInt (.length (.arg 0))).before args s = true := hq _ (by decide +kernel)
  have hall : (Cond.all (.arg 0) (.isInt (.elem (.arg 0) (.index 0)))).before args s = true := hq _ (by decide +kernel)
  obtain ⟨b, xs, hb, hx⟩ := State.ints_of_pre rfl harr hlen hall
  have hsm : xs.length < 2 ^ 31 := hx.choose_spec.2.2.2
  have hev : (Term.length (.arg 0)).eval args s none [] s = some (.int xs.length.toInt32) := hx.length_eval hb
  have hv := Cond.le_ints hev (show (Term.int 3072).eval args s none [] s = some (.int 3072) from rfl)
  have hd : xs.length.toInt32 ≤ 3072 := by
    simpa [Cond.before, Cond.holds, hv] using hle
  have hN : xs.length ≤ 3072 := (Int32.ofNat_le_ofNat hsm (by decide)).mp (show Int32.ofNat xs.length ≤ Int32.ofNat 3072 from hd)
  exact ⟨b, xs, Cond.one_arg hc (show args[0]? = some (.ref b) from hb), hx, hN, h⟩
theorem lw_comes (l : Launch) (hlt : l.stackTraces = false) : Comes l x (Jvm.Cond.code x code maxLocals ret :: tables_1) room_1 (fun tb e args s => Calls_1 tb e args s ∧ rest_1 tb e args s ∧ Pre_1 tb e args s)
    (fun _ _ args s o t => lw_Q args s o t) := by
  intro p e ha hc hk s m args below hf hfit hheap happ hpre
  obtain ⟨b, xs, hP⟩ := lw_pre_spec hpre.2.2 hpre.2.1
  obtain ⟨k, o, h1, h2, h3, hQ⟩ := lw_walk l hlt b xs p e ha hc hk s m args below hf ((Spec.applies_iff_loose hf).mp happ).1 hP trivial
  exact ⟨k, o, h1, h2, h3, hQ⟩
theorem lw_frame {s t : State} {o : Outcome} {args : Array Value} (h : Framed s o t [] 601024 7293034) :
    Framed s o t (fieldLocs frame_1_writes args s ++ arrayLocs frame_1_arrays args s ++ staticLocs frame_1_statics s) 601024 7293034 := h
theorem lw_flag {l : Launch} (h : l.flags = flags0) : l.stackTraces = false := by
  unfold Launch.stackTraces
  rw [h]
  decide +kernel
theorem lw_limb (L : Cond) (hL : ∀ (args : Array Value) (s t : State), L.after args s (.returned (some (.int 1))) t = true) :
    ArmFor flags0 classFile x code maxLocals ret World_1 tables_1 room_1 Calls_1 rest_1 Pre_1
      (fun tb e a s o t => postC L tb e a s o t ∧ Framed s o t (fieldLocs frame_1_writes a s ++ arrayLocs frame_1_arrays a s ++ staticLocs frame_1_statics s) 601024 7293034) := by
  intro l hfl _ _ p e ha hc hk s m args below hf hfit hheap happ hpre
  obtain ⟨k, o, h1, h2, h3, rfl, hF⟩ := lw_comes l (lw_flag hfl) p e ha hc hk s m args below hf hfit hheap happ hpre
  exact ⟨k, _, h1, h2, h3, hL args s _, lw_frame hF⟩
theorem i_vc : Claimed_1_1 ∧ Claimed_1_2 := ⟨lw_limb limb_1_1 (fun args s t => by simp [limb_1_1, Cond.after, Cond.holds, Cond.value]), lw_limb limb_1_2 (fun args s t => Cond.after_iff.mpr (by
  first | (rw [show limb_1_2 = Cond.eq .result (.int 1) from rfl, Cond.eq_ints (x := 1) (y := 1) rfl rfl]; simp; done) | (simp [limb_1_2, Cond.value, Term.eval]; done)))⟩
