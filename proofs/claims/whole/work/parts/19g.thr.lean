/-! X11.sleeper where it throws: the constructor of NoSuchElementException passes its text on by index 13 (the kit's chain has 7 alone), so the throw is walked here -/
def zE : String := "java/util/NoSuchElementException"
def zR : String := "java/lang/RuntimeException"
def zT : String := "no such sleeper, or nothing like that of one"
def z13 : ByteArray := ⟨#[0x2a, 0x2b, 0xb7, 0x00, 0x0d, 0xb1]⟩
theorem z13_0 : decode z13 0 = .ok (.aload_n 0, 1) := by decide +kernel
theorem z13_1 : decode z13 1 = .ok (.aload_n 1, 1) := by decide +kernel
theorem z13_2 : decode z13 2 = .ok (.invokespecial 13, 3) := by decide +kernel
theorem z13_5 : decode z13 5 = .ok (.return_, 1) := by decide +kernel
/-- the words of the throw -/
def zL : List Cond := Bundle.throwableAtoms ++ Bundle.throwableSAtoms ++ Bundle.passSAtoms zE zR 13 z13 ++ Bundle.chainSAtoms zR ["java/lang/Exception"] ++
  [.methodLink RX11 137 (Bundle.initS zE), .instantiable zE 6, .castable zE zE, .selects zE Bundle.tFill0 Bundle.tFill0, .selects zE Bundle.tFill Bundle.tFill,
   .lays zE Bundle.tN "cause" "Ljava/lang/Throwable;", .lays zE Bundle.tN "stackTrace" Bundle.steD, .lays zE Bundle.tN "suppressedExceptions" Bundle.listD, .lays zE Bundle.tN "detailMessage" "Ljava/lang/String;",
   .isRef (.static Bundle.tN "UNASSIGNED_STACK" Bundle.steD), .isRef (.static Bundle.tN "SUPPRESSED_SENTINEL" Bundle.listD),
   .fieldLink Bundle.tN 198 Bundle.tN "backtrace" "Ljava/lang/Object;", .lays Bundle.tN Bundle.tN "backtrace" "Ljava/lang/Object;", .lays zE Bundle.tN "backtrace" "Ljava/lang/Object;"]
def zM : List Cond := Cond.classLink RX11 133 zE :: Cond.initialized zE :: zL.filter vx_no
theorem zw_p : zM = ([1473, 137, 134, 1495, 1504, 1506, 1509, 1511, 1496, 1497, 145, 146, 1498, 1503, 1507, 1527, 1485, 1528, 1487, 1529, 1489, 1499, 1501, 1491, 1523, 1524, 1526, 1491, 1514, 1515, 1516, 1517, 1477, 1517, 1518, 1519, 1520, 1479, 1520, 1521, 1522, 1523, 1481, 1513, 1474, 1475, 1482, 1483, 1484, 1486, 1488, 1490, 1494, 1493, 1492] : List Nat).filterMap (fun i => lw_tbl[i]?) := by decide +kernel
theorem zw_1 : ∀ w ∈ zM, w ∈ lw_tbl := by
  intro w hw
  rw [zw_p] at hw
  obtain ⟨i, -, hi⟩ := List.mem_filterMap.mp hw
  exact List.mem_of_getElem? hi
theorem zw_2 : ∀ w ∈ zM, w.onTables = true := by decide +kernel
theorem zw_3 : ∀ w ∈ zM, goodWord w = true ∨ w.faceAtom = true := by decide +kernel
theorem zw_4 : Bundle.fit zE = true ∧ Bundle.fit zR = true ∧ ∀ n ∈ ["java/lang/Exception"], Bundle.fit n = true := by decide +kernel
/-- a word of an interface's kind, at a warmer state -/
theorem zf_at {args a' : Array Value} {s U : State} {w : Cond} (hW : s.WarmedH U.vm) (hf : w.faceAtom = true) (h : w.before args s = true) : w.before a' U = true := by
  have h1 : w.before args (s.setVm U.vm) = true := Cond.faceAtom_setVm hW.alike w hf h
  have ht : w.onTables = true := by cases w <;> first | rfl | (simp [Cond.faceAtom] at hf)
  rw [Cond.onTables_vm (A' := a') (U' := U) U.vm w ht] at h1
  rwa [State.setVm_self] at h1
theorem zd_0 : decode cX11_sleeper 0 = .ok (.aload_n 0, 1) := by decide +kernel
theorem zd_1 : decode cX11_sleeper 1 = .ok (.getfield 30, 3) := by decide +kernel
theorem zd_4 : decode cX11_sleeper 4 = .ok (.iload_n 1, 1) := by decide +kernel
theorem zd_5 : decode cX11_sleeper 5 = .ok (.invokevirtual 130, 3) := by decide +kernel
theorem zd_8 : decode cX11_sleeper 8 = .ok (.ifCond .eq 13, 3) := by decide +kernel
theorem zd_11 : decode cX11_sleeper 11 = .ok (.iload_n 2, 1) := by decide +kernel
theorem zd_12 : decode cX11_sleeper 12 = .ok (.ifCond .lt 9, 3) := by decide +kernel
theorem zd_15 : decode cX11_sleeper 15 = .ok (.iload_n 2, 1) := by decide +kernel
theorem zd_16 : decode cX11_sleeper 16 = .ok (.bipush 10, 2) := by decide +kernel
theorem zd_18 : decode cX11_sleeper 18 = .ok (.if_icmp .le 13, 3) := by decide +kernel
theorem zd_21 : decode cX11_sleeper 21 = .ok (.new 133, 3) := by decide +kernel
theorem zd_24 : decode cX11_sleeper 24 = .ok (.dup, 1) := by decide +kernel
theorem zd_25 : decode cX11_sleeper 25 = .ok (.ldc 135, 2) := by decide +kernel
theorem zd_27 : decode cX11_sleeper 27 = .ok (.invokespecial 137, 3) := by decide +kernel
theorem zd_30 : decode cX11_sleeper 30 = .ok (.athrow, 1) := by decide +kernel
/-- where it has thrown: the places are as they were -/
def zX (D : va_G) (cA : FieldType → ClassId) (adr : Nat → Nat) (A : Nat → Prop) (h : aHp) : String → State → State → Prop := fun E st t => E = zE ∧ va_P D acl (aW cA adr h) t.heap ∧ va_D A (aW cA adr h) ∧ va_F A st t
/-- the two statics that a throw reads -/
def zS (A : Nat → Prop) (U : State) : Prop := (∀ w ∈ lw_tbl, w.faceAtom = true → w.before #[] U = true) ∧ vx_Zq Bundle.tN "UNASSIGNED_STACK" Bundle.steD A U U.heap ∧ vx_Zq Bundle.tN "SUPPRESSED_SENTINEL" Bundle.listD A U U.heap
section ZK
variable {p : Program} {l : Launch} {e : Env} {R : Room} {s : State} {m : MethodId} {args : Array Value} {below : List Frame} {meth : Method} {c : Code}
set_option maxHeartbeats 1000000 in
theorem zk_ctor {V : State} {locs : List Loc} {cells slots : Nat} (X : Stand p l e R s m args below meth c V locs cells slots) (hexec : p.tables.exec = Jvm.exec) (htr : e.platform.stackTraces = false) (hown : s.vm.findClass RX11 = some m.cls) (h : ∀ w ∈ zL, w.before args s = true)
    (hlocs : ∀ x ∈ locs, ∀ cell, s.heap[x.base]? = some cell → cell.vm.isStatics = false) {a : Addr} {cX : ClassId} {kX : Class} (hfoundX : s.vm.findClass zE = some cX) (hkX : s.vm.classes[cX]? = some kX) (hcell : V.heap[a]? = some (freshCell cX kX)) (hnew : s.heap.size ≤ a)
    {msg : Value} (hmsg : msg.isRef = true) {g : JFrame} (hg : g.method = m) (hsize : g.locals.size = c.maxLocals) (hlocked : g.locked = none) (hentered : g.entered = []) {rest : List Value} (hstack : g.stack = msg :: .ref a :: .ref a :: rest)
    (hd6 : decode c.code g.pc = .ok (.invokespecial 137, 3)) (hd9 : decode c.code (g.pc + 3) = .ok (.athrow, 1)) (hout : ∀ x ∈ c.exceptionTable.toList, covers x (g.pc + 3) = false)
    (hRframes : 5 < R.frames) (hRlocals : 2 * g.monitorRoom + ((Value.ref a :: rest).map fun v => v.category).sum + 81 ≤ R.locals) (hlocks : meth.locks = false) :
    ∃ U : State, Steps p.tables e below (V.setTop g) U ∧ U.status = .running ∧ Ended U below (.threw a) ∧ s.WarmedH U.vm ∧ s.sameButNew ({ U with vm := s.vm } : State) locs cells slots ∧ ∃ ce, U.heap[a]? = some ce ∧ ce.vm = .none ∧ s.vm.findClass zE = some ce.cls := by
  have howns : e.platform.frameOwnsMonitors = true := by rw [X.admits.platform]
  have hfin : e.platform.finalization = false := by rw [X.admits.platform]
  have hpl : e.platform.magicAccessors = ({} : Platform).magicAccessors := by rw [X.admits.platform]
  have w' : ∀ x, x ∈ zL → x.holds args s none s [] = true := fun x hx => h x hx
  obtain ⟨T, Z0, L, -, Y⟩ := ThrowableC.of_atoms (args := args) howns hfin hpl (fun x hx => h x (by simp [zL, hx]))
  obtain ⟨Z, M, LZ, LM, hnZ⟩ := Init0T.ofS_atoms (args := args) hpl L Y (fun x hx => h x (by simp [zL, hx]))
  obtain ⟨P1, L1, hP1m, hP1s⟩ := PassC.ofS_atoms (args := args) (s := s) hpl (X := zE) (Y := zR) (Bundle.fit_spec zw_4.1).1 (Bundle.fit_spec zw_4.2.1).2 z13_0 z13_1 z13_2 z13_5 (fun x hx => h x (by simp [zL, hx]))
  obtain ⟨P2, Ps, hlen, L2, hL, hP2m, hlink2, hlink⟩ := Bundle.chainS (args := args) hpl hnZ ["java/lang/Exception"] zR zw_4.2.1 zw_4.2.2 (fun x hx => h x (by simp [zL, hx]))
  have hlink1 : P1.sup = P2.m := Option.some.inj (hP1s.symm.trans hP2m)
  have hlen1 : Ps.length = 1 := hlen
  have hfound : s.vm.findClass zE = some P1.m.cls := findClass_of_methodNamed hP1m
  cases Option.some.inj (hfoundX.symm.trans hfound)
  obtain ⟨c1, kX', hc1, hk, hord, -, -, hn6⟩ := Cond.instantiable_spec (w' (.instantiable zE 6) (by simp [zL]))
  cases Option.some.inj (hc1.symm.trans hfound)
  cases Option.some.inj (hkX.symm.trans hk)
  have hsel0 : selectMethod e.platform s.vm P1.m.cls T.fill0 = .method T.fill0 := by
    obtain ⟨c2, r2, m2, q1, q2, q3, q4, -⟩ := Cond.selects_spec (w' (.selects zE Bundle.tFill0 Bundle.tFill0) (by simp [zL]))
    cases Option.some.inj (q1.symm.trans hfound)
    cases Option.some.inj (q2.symm.trans (State.methodFound?_of_named Y.fill0 (by decide)))
    cases Option.some.inj (q3.symm.trans Y.fill0)
    rw [Launch.admits_selectMethod X.admits]; exact q4
  have hselF : selectMethod e.platform s.vm P1.m.cls T.fill = .method T.fill := by
    obtain ⟨c2, r2, m2, q1, q2, q3, q4, -⟩ := Cond.selects_spec (w' (.selects zE Bundle.tFill Bundle.tFill) (by simp [zL]))
    cases Option.some.inj (q1.symm.trans hfound)
    cases Option.some.inj (q2.symm.trans (State.methodFound?_of_named Y.fill (by decide)))
    cases Option.some.inj (q3.symm.trans Y.fill)
    rw [Launch.admits_selectMethod X.admits]; exact q4
  obtain ⟨cellS0, hcS0, hiss⟩ := Y.statics
  obtain ⟨u0, hu0⟩ := Cond.staticRefV Y.unassigned L.unassignedStatic L.statics hcS0 hiss (w' (.isRef (.static Bundle.tN "UNASSIGNED_STACK" Bundle.steD)) (by simp [zL]))
  obtain ⟨sen, hsen⟩ := Cond.staticRefV Y.sentinel L.sentinelStatic L.statics hcS0 hiss (w' (.isRef (.static Bundle.tN "SUPPRESSED_SENTINEL" Bundle.listD)) (by simp [zL]))
  obtain ⟨ci198, i198, fB, hk198, hg198, ha198, hsB, -, hnB, htB, hffB⟩ := Cond.ownField (t := .object "java/lang/Object") Y.found L.cls (by decide +kernel) (w' (.fieldLink Bundle.tN 198 Bundle.tN "backtrace" "Ljava/lang/Object;") (by simp [zL])) (w' (.lays Bundle.tN Bundle.tN "backtrace" "Ljava/lang/Object;") (by simp [zL])) e.platform hpl
  obtain ⟨cellS, hcS', heS, -, hkeep⟩ := X.same.2.2.2.2.2 T.aS cellS0 hcS0
  have hcellS : V.heap[T.aS]? = some cellS := hcS'
  have hout' : ∀ i, (⟨T.aS, i⟩ : Loc) ∉ locs := fun i hmem => by
    have := hlocs _ hmem cellS0 hcS0
    rw [hiss] at this; cases this
  have hknownS : cellS.vm ≠ .unknown := by
    rw [heS]; intro hu
    rw [show cellS0.vm = .unknown from hu] at hiss
    cases hiss
  have hneS : T.aS ≠ a := Nat.ne_of_lt (Nat.lt_of_lt_of_le (Array.getElem?_eq_some_iff.mp hcS0).1 hnew)
  obtain ⟨iM, hffM⟩ := Y.msg
  obtain ⟨tyC, dC, hdC, hdnC⟩ := Cond.laysAt hfound hk Y.cause (w' (.lays zE Bundle.tN "cause" "Ljava/lang/Throwable;") (by simp [zL]))
  obtain ⟨tyS, dS, hdS, hdnS⟩ := Cond.laysAt hfound hk Y.stack (w' (.lays zE Bundle.tN "stackTrace" Bundle.steD) (by simp [zL]))
  obtain ⟨tyP, dP, hdP, hdnP⟩ := Cond.laysAt hfound hk Y.supp (w' (.lays zE Bundle.tN "suppressedExceptions" Bundle.listD) (by simp [zL]))
  obtain ⟨tyM, dM, hdM, hdnM⟩ := Cond.laysAt hfound hk hffM (w' (.lays zE Bundle.tN "detailMessage" "Ljava/lang/String;") (by simp [zL]))
  obtain ⟨tyB, dB, hdB, hdnB⟩ := Cond.laysAt hfound hk hffB (w' (.lays zE Bundle.tN "backtrace" "Ljava/lang/Object;") (by simp [zL]))
  have bC := Cond.laysApart hdB hdC hdnB hdnC (by rw [hnB, Y.causeName]; decide)
  have bS := Cond.laysApart hdB hdS hdnB hdnS (by rw [hnB, Y.stackName]; decide)
  have bP := Cond.laysApart hdB hdP hdnB hdnP (by rw [hnB, Y.suppName]; decide)
  have hskip : SkipFacts T e.platform s (fun u => u) u0 ((preparedCellV T.toThrowableT (freshCell P1.m.cls kX) a u0 sen).withEntry V.cur) :=
    ⟨{ ci198 := ci198, i198 := i198, fBack := fB }, ⟨hk198, hg198, ha198, hsB⟩, by
      have := fresh_default (c := P1.m.cls) tyB
      rw [htB] at this
      simpa [preparedCellV, Cell.setSlot, Cell.withEntry, Array.getElem?_setIfInBounds, bC, bS, bP, bC.symm, bS.symm, bP.symm, defaultValue] using this, fun _ _ => rfl⟩
  obtain ⟨tm, methC, cdC, kC, vm₁, hnC, -, -, -, -, -, -, -, hW₁, st1⟩ := Steps.initColdS (tb := p.tables) (e := e) (below := below) (s := s) (U := V) X.here hexec X.warmed hpl hown (t := Bundle.initS zE) rfl rfl (Bundle.fit_spec zw_4.1).2
    (w' (.methodLink RX11 137 (Bundle.initS zE)) (by simp [zL])) (h (.instanceMethod (Bundle.initS zE)) (by simp [zL, Bundle.passSAtoms])) (bytes := z13) (maxL := 2) (h (.code (Bundle.initS zE) z13 2 none) (by simp [zL, Bundle.passSAtoms]))
    (f := g) hg (a := a) (msg := msg) (rest := .ref a :: rest) hstack hd6
  cases Option.some.inj (hnC.symm.trans hP1m)
  have X₁ := X.noted hW₁
  obtain ⟨vm₂, X₂, st2⟩ := X₁.ctorMessageOffV hexec (g := { g with stack := .ref a :: rest }) hg hsize T L Z LZ M LM (P1 :: P2 :: Ps)
    (fun P hP => by
      rcases List.mem_cons.mp hP with rfl | hP
      · exact L1
      · rcases List.mem_cons.mp hP with rfl | hP
        · exact L2
        · exact hL P hP) ⟨hlink1, hlink2, hlink⟩ (u0 := u0) (sen := sen) (self := a) hmsg (cell := freshCell P1.m.cls kX) (cellS := cellS)
    hcell (fun _ => by simp) (by simp) rfl rfl hsel0 hselF hcellS hneS hknownS (by rw [hkeep _ (hout' _)]; exact hu0) (by rw [hkeep _ (hout' _)]; exact hsen)
    (Takes.of_laid hk hord tyC (by rw [Y.causeType]; rfl)) (Takes.of_laid hk hord tyS (by rw [Y.stackType]; exact fits_refV_array _ u0)) (Takes.of_laid hk hord tyP (by rw [Y.suppType]; exact fits_refV_object _ sen))
    (Takes.of_laid hk hord tyM (by rw [Y.msgType]; exact fits_refV_object _ ⟨msg, hmsg⟩)) Y.objLocals hskip htr [] hd6
    (by simp only [List.length_cons, hlen1]; omega) (by simp only [List.length_cons, hlen1]; exact hRlocals)
  obtain ⟨hwalk, hrun, hended, hWU, hsame⟩ := X₂.athrowLeaves hexec (g := { g with stack := .ref a :: rest, pc := g.pc + 3 }) hg hlocked hentered hout (a := a) (rest := rest) rfl hd9
  have hlt : a < ((V.setVm vm₁).setVm vm₂).heap.size := (Array.getElem?_eq_some_iff.mp hcell).1
  have hU := heapAt_setCell_self (s := (V.setVm vm₁).setVm vm₂) (plainBareV T.toThrowableT (freshCell P1.m.cls kX) a u0 sen msg) hlt
  refine ⟨_, st1 _ (fun acts => ?_), hrun, hended, hWU, hsame.weaken (fun y hy hlt' => ?_) (Nat.le_refl _) (Nat.le_refl _), _, hU, rfl, hfound⟩
  · rw [doInvoke_state]
    exact st2 _ hwalk
  · rcases List.mem_append.mp hy with h1 | h1
    · exact h1
    · exfalso
      have hb : y.base = a := by
        simp only [List.mem_cons, List.not_mem_nil, or_false] at h1
        rcases h1 with rfl | rfl | rfl | rfl | rfl <;> rfl
      rw [hb] at hlt'
      exact Nat.not_lt.mpr hnew hlt'
/-- new, dup, ldc, the constructor, athrow -/
theorem zk_throw {H : Heap} {locs : List Loc} {cells slots : Nat} {ls : Array Slot} {rest : List Value} {Qc : Array Value → State → Outcome → State → Prop} {XC : String → State → State → Prop} {free : Addr → Prop} {cc : ByteArray} {pc mc ms sa : Nat} {A : Nat → Prop} (hexec : p.tables.exec = Jvm.exec) (hb : c.code = cc) (hl : l.stackTraces = false)
    (hown : s.vm.findClass RX11 = some m.cls) (hstr : vk_R RX11 135 zT sa s) (hat : ∀ w ∈ zM, w.before args s = true)
    (hU : vx_Zq Bundle.tN "UNASSIGNED_STACK" Bundle.steD A s s.heap) (hN : vx_Zq Bundle.tN "SUPPRESSED_SENTINEL" Bundle.listD A s s.heap) (hS : va_S A s.heap H locs) (hsize : ls.size = c.maxLocals)
    (d0 : decode cc pc = .ok (.new 133, 3)) (d3 : decode cc (pc + 3) = .ok (.dup, 1)) (d4 : decode cc (pc + 4) = .ok (.ldc 135, 2)) (d6 : decode cc (pc + 6) = .ok (.invokespecial 137, 3)) (d9 : decode cc (pc + 9) = .ok (.athrow, 1))
    (hout : ∀ x ∈ c.exceptionTable.toList, covers x (pc + 9) = false)
    (hRframes : 5 < R.frames) (hRlocals : (rest.map fun v => v.category).sum + 82 ≤ R.locals) (hRcells : cells + 1 ≤ R.cells) (hRslots : slots + 6 ≤ R.slots) (hlocks : meth.locks = false)
    (hx : ∀ t : State, s.vm.Alike t.vm → H.size ≤ t.heap.size → (∀ q : Nat, q < H.size → t.heap[q]? = H[q]?) → XC zE s t)
    (hf : ∀ z ∈ locs, free z.base) (hc : cells + 1 ≤ mc) (hs : slots + 6 ≤ ms) :
    W p l e R s m args below meth c H locs cells slots (vx_MQ below Qc XC args s mc ms free) (F0 m pc ls rest) := by
  intro T hT X
  have htr : e.platform.stackTraces = false := (show e.platform.stackTraces = l.stackTraces by rw [X.admits.platform]).trans hl
  have Y := vx_rebase X (R' := { frames := R.frames, locals := R.locals, cells := 1, slots := 6 }) (Nat.le_refl _) (Nat.le_refl _) hRcells hRslots
  obtain ⟨s', hA⟩ : ∃ z, z = (T.setVm s.vm).setFrames (.invoking m args :: below) := ⟨_, rfl⟩
  rw [← hA] at Y
  have hvm : s'.vm = s.vm := by rw [hA]; rfl
  have hhp : s'.heap = H := by rw [hA]; exact hT
  have hW0 : s.WarmedH s'.vm := by rw [hvm]; exact State.WarmedH.refl s
  have hat' : ∀ w ∈ zM, w.before args s' = true := fun w hw => va_tabs (zw_2 w hw) hvm.symm (hat w hw)
  have hk' : (Cond.classLink RX11 133 zE).before args s' = true := hat' _ (List.mem_cons_self ..)
  have hini' : (Cond.initialized zE).before args s' = true := hat' _ (List.mem_cons_of_mem _ (List.mem_cons_self ..))
  have hU' : vx_Zq Bundle.tN "UNASSIGNED_STACK" Bundle.steD A s' s'.heap := by rw [hhp]; exact vx_Zq.moved hW0.alike (hU.kept hS.2.1)
  have hN' : vx_Zq Bundle.tN "SUPPRESSED_SENTINEL" Bundle.listD A s' s'.heap := by rw [hhp]; exact vx_Zq.moved hW0.alike (hN.kept hS.2.1)
  have h : ∀ w ∈ zL, w.before args s' = true := vx_own (fun w hw => hat' w (List.mem_cons_of_mem _ (List.mem_cons_of_mem _ hw))) (vx_isRefq hU'.1) (vx_isRefq hN'.1) hU'.2.word hN'.2.word
  have hown' : s'.vm.findClass RX11 = some m.cls := by rw [hvm]; exact hown
  have hins : (Cond.instantiable zE 6).before args s' = true := h _ (by simp [zL])
  obtain ⟨vm₁, cX, kX, hfX, hkX, -, -, X₁, st1⟩ := Y.newCold hexec (own := RX11) (C := zE) (index := 133) (n := 6) hown' hk' hins hini'
    (g := F0 m pc ls rest) rfl (by rw [hb]; exact d0) (Nat.le_refl _) (Nat.le_refl _)
  generalize hT1 : (T.setVm vm₁).pushCell { cls := cX, slots := kX.instanceTypes.map defaultValue, vm := .none } = T1 at X₁ st1
  have hcat : (Value.ref T.heap.size).category = 1 := rfl
  have hcellA : T1.heap[T.heap.size]? = some (freshCell cX kX) := by rw [← hT1]; exact State.heap_pushCell_size _ _
  have d3' : decode c.code (pc + 3) = .ok (.dup, 1) := by rw [hb]; exact d3
  have d4' : decode c.code (pc + 4) = .ok (.ldc 135, 2) := by rw [hb]; exact d4
  have hstr' : vk_R RX11 135 zT sa s' := vk_R.warm hW0 hstr
  obtain ⟨U, hsteps, hrun, hend, hW, hsame, ce, hce, hcv, hcl0⟩ := zk_ctor X₁ hexec htr hown' h (fun x hx => nomatch hx) hfX hkX hcellA (by rw [hhp, hT]; exact Nat.le_refl _) (msg := .ref sa) rfl
    (g := { method := m, pc := pc + 6, locals := ls, stack := .ref sa :: .ref T.heap.size :: .ref T.heap.size :: rest, locked := none }) rfl hsize rfl rfl (rest := rest) rfl
    (by rw [hb]; exact d6) (by rw [hb]; exact d9) hout hRframes (by simp only [List.map_cons, List.sum_cons, hcat]; omega) hlocks
  obtain ⟨f1, f2⟩ := vx_frame hsame
  rw [hhp] at f1 f2
  have hWs : s.WarmedH U.vm := State.WarmedH.trans hW0 hW
  have hcl : s.vm.findClass zE = some ce.cls := by
    rw [hvm] at hcl0
    exact hcl0
  have hall : s.sameButNew ({ U with vm := s.vm } : State) locs mc ms := by
    subst hA
    obtain ⟨e1, e2⟩ := hsame
    rw [State.setFrames_setFrames] at e1
    have h2 : (T.setVm s.vm).sameButNew ({ U with vm := s.vm } : State) [] (0 + 1) (0 + 6) := ⟨e1, e2⟩
    have h3 := X.same.trans h2
    rw [List.append_nil] at h3
    exact h3.mono hc hs
  refine ⟨U, ?_, .threw T.heap.size, hrun, hend, Or.inr ⟨T.heap.size, rfl, zE, ce, locs, hx U hWs.alike f1 (fun q hq => f2 q hq (fun z hz => nomatch hz)), hce, hcv, hcl, hWs, hall, hf⟩⟩
  refine st1 _ ?_
  show Steps p.tables e below (T1.setTop { method := m, pc := pc + 3, locals := ls, stack := .ref T.heap.size :: rest, locked := none }) _
  jvm_step X₁.here [X₁.here.top, hexec, d3', Value.category]
  exact X₁.ldcString hexec (own := RX11) (text := zT) (index := 135) (a := sa) hown' hstr'.1 hstr'.2
    (g := { method := m, pc := pc + 4, locals := ls, stack := .ref T.heap.size :: .ref T.heap.size :: rest, locked := none }) rfl d4' _ hsteps
end ZK
section ZT
variable {p : Program} {l : Launch} {e : Env} {R : Room} {s : State} {m : MethodId} {args : Array Value} {below : List Frame} {meth : Method} {c : Code} {Q : State → Prop} {D : va_G} {cA : FieldType → ClassId} {A : Nat → Prop} {ad0 : Nat → Nat} {c0 s0 : Nat}
variable {L : List (Option Value)} {h : aHp} {sh : List aSh} {i : Nat → Nat → Int32} {lo : Nat → Nat → Int64} {rv : Nat → Nat → Option Nat} {a1 a2 v1 : Int32}
theorem zt_throw (hl : l.stackTraces = false) (hX : aX p s m args c RX11 cX11_sleeper 3 D cA A ad0) (hS : zS A s) (htab : ∀ x ∈ c.exceptionTable.toList, False) (hlk : meth.locks = false) (hRf : 5 < R.frames) (hRl : 82 ≤ R.locals) (hRc : 1 ≤ R.cells) (hRs : 6 ≤ R.slots) : aJ p l e R s m args below meth c (vx_MQ below (fun _ _ _ _ => False) (zX D cA ad0 A h) args s 1 6 A) D cA A ad0 3 h.1.length (aSn h.1) 21 L [] h := by
  intro adr H ls locs cells slots hR
  have e1 := hR.2.2.2.2.2.2.1
  have e2 := hR.2.2.2.2.2.2.2.1
  have e3 : adr = ad0 := hR.2.2.2.2.2.2.2.2.2 rfl
  refine zk_throw (sa := ad0 (10 + 0)) (A := A) hX.1 hX.2.1 hl hX.2.2.2.1 (hX.2.2.2.2.2.2.2.2.2.2.1 (RX11, 135, zT, 0) (List.mem_cons_self ..)) (fun w hw => ?_) hS.2.1 hS.2.2 hR.2.2.1 (hR.2.2.2.2.1.1.trans hX.2.2.1.symm) zd_21 zd_24 zd_25 zd_27 zd_30 (fun x hx => (htab x hx).elim) hRf (show 0 + 82 ≤ R.locals by omega) (by omega) (by omega) hlk ?_ hR.2.2.1.2.2 (by omega) (by omega)
  · rcases zw_3 w hw with g | g
    · exact hX.2.2.2.2.1 w (List.mem_filter.mpr ⟨zw_1 w hw, g⟩)
    · exact zf_at (State.WarmedH.refl s) g (hS.1 w (zw_1 w hw) g)
  intro t ha hz hk
  refine ⟨rfl, ?_, by rw [← e3]; exact hR.2.1, Nat.le_trans hR.2.2.1.1 hz, fun q h1 h2 => by rw [hk q (Nat.lt_of_lt_of_le h1 hR.2.2.1.1)]; exact hR.2.2.1.2.1 q h1 h2⟩
  rw [← e3]
  exact hR.1.kept (fun k q hq => hk _ (vx_lt hR.1 hq))
theorem zt_walk (hX : aX p s m args c RX11 cX11_sleeper 3 D cA A ad0) (hRf : 1 ≤ R.frames) (hRl : 64 * 1 ≤ R.locals) (hG : aGood sh rv) (hM : aM l yX1_hasSleeper cX1_hasSleeper 2 (some .boolean) 0 [.ref (100 + 15), .int a1] (sh, i, lo, rv) (some (.int v1)) (sh, i, lo, rv)) (hc : v1 = 0 ∨ a2 < 0 ∨ 10 < a2)
    (kk : aJ p l e R s m args below meth c Q D cA A ad0 3 sh.length (aSn sh) 21 [some (.ref (100 + 0)), some (.int a1), some (.int a2)] [] (sh, i, lo, rv)) : aJ p l e R s m args below meth c Q D cA A ad0 3 sh.length (aSn sh) 0 [some (.ref (100 + 0)), some (.int a1), some (.int a2)] [] (sh, i, lo, rv) := by
  refine j_aload_n hX zd_0 rfl ?_
  refine j_getR (k := 3) hX kX11 (by decide) fk_X11_30 (rf_0_3 hG) zd_1 (sh_0 hG) rfl ?_
  refine j_iload_n hX zd_4 rfl ?_
  refine j_cV1i hX lk_X11_130 kX1 zd_5 (sh_15 hG) hM rfl rfl (rmm (by omega) hRf hRl (by decide)) (Nat.le_of_ble_eq_true rfl) (Nat.le_add_right _ _) (Nat.le_add_right _ _) ?_
  refine j_if_eq (tgt := 21) hX zd_8 (by decide) (fun _ => kk) (fun c1 => ?_)
  refine j_iload_n hX zd_11 rfl ?_
  refine j_if_lt (tgt := 21) hX zd_12 (by decide) (fun _ => kk) (fun c2 => ?_)
  refine j_iload_n hX zd_15 rfl ?_
  refine j_bipush hX zd_16 bp_10 ?_
  refine j_icmp_le (tgt := 31) hX zd_18 (by decide) (fun c3 => ?_) (fun _ => kk)
  rcases hc with e1 | e1 | e1
  · exact absurd e1 c1
  · exact absurd e1 c2
  · exact absurd e1 (Int32.not_lt.mpr c3)
/-- X11.sleeper throws -/
theorem zt_met (hl : l.stackTraces = false) (hG : aGood sh rv) (hM : aM l yX1_hasSleeper cX1_hasSleeper 2 (some .boolean) 0 [.ref (100 + 15), .int a1] (sh, i, lo, rv) (some (.int v1)) (sh, i, lo, rv)) (hc : v1 = 0 ∨ a2 < 0 ∨ 10 < a2) (D : va_G) (cA : FieldType → ClassId) (adr : Nat → Nat) (sz : Nat) :
    vx_Met l yX11_sleeper (.code yX11_sleeper cX11_sleeper 3 (some .int) :: gtbl) { frames := 8, cells := 1, slots := 6, locals := 512 } (fun a U => aPre D cA adr sz [.ref (100 + 0), .int a1, .int a2] (sh, i, lo, rv) a U ∧ zS (va_A (aW cA adr (sh, i, lo, rv)) sz) U) (fun _ _ _ _ => False) (zX D cA adr (va_A (aW cA adr (sh, i, lo, rv)) sz) (sh, i, lo, rv)) 1 6 (va_A (aW cA adr (sh, i, lo, rv)) sz) := by
  refine vx_ofW (cc := cX11_sleeper) (maxL := 3) (ret := some .int) rfl rfl ?_
  intro p e s m args below meth c s1 B hml htab hv
  obtain ⟨⟨rfl, hsz, hP, hK, hD0, hC, hW⟩, hS⟩ := hv
  have hts := atoms_spec (ws := .code yX11_sleeper cX11_sleeper 3 (some .int) :: gtbl) B.pre
  have hown : s.vm.findClass RX11 = some m.cls := findClass_of_methodNamed B.named
  subst hsz
  have hD := hD0.self (sz := s.heap.size)
  have hX : aX p s m (([.ref (100 + 0), .int a1, .int a2] : List Value).map (aV adr)).toArray c RX11 cX11_sleeper 3 D cA (va_A (aW cA adr (sh, i, lo, rv)) s.heap.size) adr := ⟨B.exec, B.bytes, hml, hown, fun w hw => hts w (List.mem_cons_of_mem _ hw), hK, fun q hq => Or.inr hq, hC⟩
  have hb := zt_walk (Q := vx_MQ below (fun _ _ _ _ => False) (zX D cA adr (va_A (aW cA adr (sh, i, lo, rv)) s.heap.size) (sh, i, lo, rv)) _ s 1 6 (va_A (aW cA adr (sh, i, lo, rv)) s.heap.size)) (R := { frames := 8, cells := 1, slots := 6, locals := 512 }) (below := below) (meth := meth) (e := e) hX (by decide) (by decide) hG hM hc (zt_throw (h := (sh, i, lo, rv)) hl hX hS htab B.notSynchronized (by decide) (by decide) (by decide) (by decide))
  rw [lg_entry_eq]
  exact hb adr s.heap _ [] 0 0 ⟨hP, hD, va_S.rf, hW, aEnt_has adr [.ref (100 + 0), .int a1, .int a2] (n := 3) (Nat.le_refl 3), rfl, Nat.zero_add _, Nat.zero_add _, fun _ _ => rfl, fun _ => rfl⟩
end ZT
