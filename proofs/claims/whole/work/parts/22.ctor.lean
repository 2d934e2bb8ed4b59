/-! constructors -/
def pR (h : aHp) (p k : Nat) (v : Option Nat) : aHp := (h.1, h.2.1, h.2.2.1, u2 h.2.2.2 p k v)
def pI (h : aHp) (p k : Nat) (v : Int32) : aHp := (h.1, u2 h.2.1 p k v, h.2.2.1, h.2.2.2)
theorem aNew_len (h : aHp) (x : aSh) : (aNew h x).1.length = h.1.length + 1 := by simp [aNew]
theorem pR_len (h : aHp) (p k : Nat) (v : Option Nat) : (pR h p k v).1.length = h.1.length := rfl
theorem pI_len (h : aHp) (p k : Nat) (v : Int32) : (pI h p k v).1.length = h.1.length := rfl
theorem aNew_sn (h : aHp) (x : aSh) : aSn (aNew h x).1 = aSn h.1 + aSz x := aSn_one h.1 x
theorem pR_sn (h : aHp) (p k : Nat) (v : Option Nat) : aSn (pR h p k v).1 = aSn h.1 := rfl
theorem pI_sn (h : aHp) (p k : Nat) (v : Int32) : aSn (pI h p k v).1 = aSn h.1 := rfl
theorem aNew_get {h : aHp} {x y : aSh} {p : Nat} (hs : h.1[p]? = some y) : (aNew h x).1[p]? = some y := by
  show (h.1 ++ [x])[p]? = some y
  rw [List.getElem?_append_left (List.getElem?_eq_some_iff.mp hs).1]
  exact hs
theorem aNew_last (h : aHp) (x : aSh) : (aNew h x).1[h.1.length]? = some x := by
  show (h.1 ++ [x])[h.1.length]? = some x
  simp
theorem aNew_rv {h : aHp} {x : aSh} {p k : Nat} (hp : p < h.1.length) : (aNew h x).2.2.2 p k = h.2.2.2 p k := by
  show z2 none h.2.2.2 h.1.length p k = _
  rw [z2_row _ _ (by omega)]
theorem pR_rv {h : aHp} {p k q j : Nat} {v : Option Nat} (hne : q ≠ p ∨ j ≠ k) : (pR h p k v).2.2.2 q j = h.2.2.2 q j := u2_ne _ _ hne
theorem pR_at {h : aHp} {p k : Nat} {v : Option Nat} : (pR h p k v).2.2.2 p k = v := u2_same _ _ _ _
theorem sn_step {h : aHp} {x : aSh} {a s z t : Nat} (hS : aSn h.1 = a + s) (hz : aSz x = z) (ht : s + z = t) : aSn (aNew h x).1 = a + t := by rw [aNew_sn, hS, hz, ← ht, Nat.add_assoc]
theorem len_step {h : aHp} {x : aSh} {a s t : Nat} (hS : h.1.length = a + s) (ht : s + 1 = t) : (aNew h x).1.length = a + t := by rw [aNew_len, hS, ← ht, Nat.add_assoc]
theorem nat_w {x y a c k t : Nat} (e : x = y + k) (l : y = a + c) (ht : c + k = t) : x = a + t := by rw [e, l, ← ht, Nat.add_assoc]
theorem last_step {h : aHp} {x : aSh} {n : Nat} (hn : h.1.length = n) : (aNew h x).1[n]? = some x := by rw [← hn]; exact aNew_last h x
theorem rmC {a k K r n : Nat} (hn : n = a + k) (h : K ≤ r) (hk : k + 1 ≤ K) : n + 1 ≤ a + r := by omega
theorem rmS {x a s n S r : Nat} (hx : x = a + s) (h : S ≤ r) (hk : s + n ≤ S) : x + n ≤ a + r := by omega
theorem rmW {x y a c k K r : Nat} (e : x = y + k) (l : y = a + c) (h : K ≤ r) (hk : c + k ≤ K) : x ≤ a + r := by omega
theorem lt_k {p a k : Nat} (h : p < a) : p < a + k := by omega
theorem lt_j {a j k : Nat} (h : j < k) : a + j < a + k := by omega
theorem putv {x a k q : Nat} (l : x = a + k) (h : q < a + k) : 100 + q < 100 + x := by omega
theorem puts {x a k j : Nat} (l : x = a + k) (h : j < 90) : 10 + j < 100 + x := by omega
def aE (U : State) : Prop := va_AO "WokenBorder$Law" U ∧ va_AO "WokenBorder$Lines" U
theorem aE_moved {u U : State} (hvm : u.vm.Alike U.vm) (h : aE u) : aE U := ⟨h.1.moved hvm, h.2.moved hvm⟩
def aPreX (D : va_G) (cA : FieldType → ClassId) (adr : Nat → Nat) (sz : Nat) (av : List Value) (h : aHp) : Array Value → State → Prop := fun a U => aPre D cA adr sz av h a U ∧ aE U
theorem aPreX_blind {D : va_G} {cA : FieldType → ClassId} {adr : Nat → Nat} {sz : Nat} {av : List Value} {h : aHp} : FrameBlind (aPreX D cA adr sz av h) := by
  intro a U g mk q
  exact ⟨aPre_blind a U g mk q.1, aE_moved (u := U) (U := U.calling g mk a) (Vm.Alike.refl U.vm) q.2⟩
/-- a contract that asks for the classes of arrays of objects too -/
def aMx (l : Launch) (y : MethodName) (bytes : ByteArray) (maxL : Nat) (ret : Option FieldType) (d : Nat) (av : List Value) (h : aHp) (r : Option Value) (h' : aHp) : Prop :=
  h.1.length ≤ h'.1.length ∧ aSn h.1 ≤ aSn h'.1 ∧ ∀ (D : va_G) (cA : FieldType → ClassId) (adr : Nat → Nat) (sz : Nat), Met l y (.code y bytes maxL ret :: gtbl) { frames := d, cells := h'.1.length - h.1.length, slots := aSn h'.1 - aSn h.1, locals := 64 * d } (aPreX D cA adr sz av h) (aPost D cA adr (va_A (aW cA adr h) sz) h r h') (h'.1.length - h.1.length) (aSn h'.1 - aSn h.1) (va_A (aW cA adr h) sz)
theorem aMx_of {l : Launch} {y : MethodName} {bytes : ByteArray} {maxL : Nat} {ret : Option FieldType} {d : Nat} {av : List Value} {h : aHp} {r : Option Value} {h' : aHp} (hy : plainName y.cls = true) (hl : (lg_sl av).length ≤ maxL) (hm1 : h.1.length ≤ h'.1.length) (hm2 : aSn h.1 ≤ aSn h'.1)
    (body : ∀ (p : Program) (e : Env) (s : State) (m : MethodId) (args : Array Value) (below : List Frame) (meth : Method) (c : Code) (D : va_G) (cA : FieldType → ClassId) (A : Nat → Prop) (ad0 : Nat → Nat), aX p s m args c y.cls bytes maxL D cA A ad0 → aE s → meth.sig.returnType = ret → meth.locks = false → meth.name = y.name →
      aJ p l e { frames := d, cells := h'.1.length - h.1.length, slots := aSn h'.1 - aSn h.1, locals := 64 * d } s m args below meth c (MQ below (aPost D cA ad0 A h r h') args s (h'.1.length - h.1.length) (aSn h'.1 - aSn h.1) A) D cA A ad0 maxL h.1.length (aSn h.1) 0 (aEnt av maxL) [] h) : aMx l y bytes maxL ret d av h r h' := by
  refine ⟨hm1, hm2, fun D cA adr sz => ?_⟩
  refine Met.ofW (cc := bytes) (maxL := maxL) (ret := ret) hy rfl ?_
  intro p e s m args below meth c s₁ B hml hv
  obtain ⟨⟨rfl, hsz, hP, hK, hD0, hC, hW⟩, hE⟩ := hv
  have hts := atoms_spec (ws := .code y bytes maxL ret :: gtbl) B.pre
  have hown : s.vm.findClass y.cls = some m.cls := findClass_of_methodNamed B.named
  subst hsz
  have hD := hD0.self (sz := s.heap.size)
  have hb := body p e s m (av.map (aV adr)).toArray below meth c D cA (va_A (aW cA adr h) s.heap.size) adr ⟨B.exec, B.bytes, hml, hown, fun w hw => hts w (List.mem_cons_of_mem _ hw), hK, fun q hq => Or.inr hq, hC⟩ hE B.returns B.notSynchronized (name_of_methodNamed B.named B.method).1
  rw [lg_entry_eq]
  exact hb adr s.heap _ [] 0 0 ⟨hP, hD, va_S.rf, hW, aEnt_has adr av hl, aEnt_len av hl, Nat.zero_add _, Nat.zero_add _, fun _ _ => rfl, fun _ => rfl⟩
section AK
variable {p : Program} {l : Launch} {e : Env} {R : Room} {s : State} {m : MethodId} {args : Array Value} {below : List Frame} {meth : Method} {c : Code} {Q : State → Prop} {D : va_G} {cA : FieldType → ClassId} {A : Nat → Prop} {ad0 : Nat → Nat} {nL c0 s0 : Nat}
variable {own : String} {cc : ByteArray} {pc : Nat} {L : List (Option Value)} {st : List Value} {h h' : aHp}
theorem j_newaN (hX : aX p s m args c own cc nL D cA A ad0) {atype : ArrayType} {ty : FieldType} {t0 n n0 : Nat} {x : Int32} (hd : decode cc pc = .ok (.newarray atype, 2)) (hty : newarray.typeOf atype = ty) (ht : ∀ cA, (aTys cA)[t0]? = some (cA ty, ty)) (hw : Cond.arrayClass ty ∈ gtbl) (hz : ∀ cA : ClassId, vp_cell cA (n, aZa ty) = arrV cA n (fun _ => defaultValue ty)) (hx : ¬ x < 0) (hn : x.toNatClampNeg = n) (hb : n * componentBytes ty ≤ 536870912) (hl : h.1.length = n0)
    (hoS : st.all (aBel (100 + n0)) = true) (hoL : (L.all (fun o => match o with | some v => aBel (100 + n0) v | none => true)) = true) (hr1 : n0 + 1 ≤ c0 + R.cells) (hr2 : aSn h.1 + n ≤ s0 + R.slots)
    (hh : h' = aNew h (.inl (ty, n))) (kk : aJ p l e R s m args below meth c Q D cA A ad0 nL c0 s0 (pc + 2) L (.ref (100 + n0) :: st) h') : aJ p l e R s m args below meth c Q D cA A ad0 nL c0 s0 pc L (.int x :: st) h := by
  subst hl hh
  exact j_newa hX hd hty ht hw hz hx hn hb hoS hoL hr1 hr2 kk
theorem j_newqN (hX : aX p s m args c own cc nL D cA A ad0) {C : String} {t0 n i n0 : Nat} {x : Int32} (hd : decode cc pc = .ok (.anewarray i, 3)) (ht : ∀ cA, (aTys cA)[t0]? = some (cA (.object C), .object C)) (hw : Cond.classLink own i C ∈ gtbl) (ho : va_AO C s) (hx : ¬ x < 0) (hn : x.toNatClampNeg = n) (hb : n * 4 ≤ 536870912) (hl : h.1.length = n0)
    (hoS : st.all (aBel (100 + n0)) = true) (hoL : (L.all (fun o => match o with | some v => aBel (100 + n0) v | none => true)) = true) (hr1 : n0 + 1 ≤ c0 + R.cells) (hr2 : aSn h.1 + n ≤ s0 + R.slots)
    (hh : h' = aNew h (.inl (.object C, n))) (kk : aJ p l e R s m args below meth c Q D cA A ad0 nL c0 s0 (pc + 3) L (.ref (100 + n0) :: st) h') : aJ p l e R s m args below meth c Q D cA A ad0 nL c0 s0 pc L (.int x :: st) h := by
  subst hl hh
  intro adr H ls locs cells slots hR
  have hc1 := hR.2.2.2.2.2.2.1
  have hc2 := hR.2.2.2.2.2.2.2.1
  refine va_newq hX.1 hX.2.1 hX.2.2.2.1 (hX.2.2.2.2.1 _ hw) ho hX.2.2.2.2.2.1 hR.1 hR.2.1 hR.2.2.1 hX.2.2.2.2.2.2.1 hx hn hb (by omega) (by omega) hd (fun q cA1 H1 hK1 hP1 hD1 hS1 => ?_)
  have e1 : cA1 = cA (.object C) := va_RA_one (hK1.2 (aTys cA).length (cA1, .object C) (by simp)).2 (hX.2.2.2.2.2.1.2 t0 _ (ht cA)).2
  subst e1
  exact j_made (x := .inl (.object C, n)) hR hoS hoL hP1 hD1 hS1 kk
theorem j_newN (hX : aX p s m args c own cc nL D cA A ad0) {C : String} {T : u_T} {N ci i n0 : Nat} (hc : aCl ci C T N) (hd : decode cc pc = .ok (.new i, 3)) (hw : Cond.classLink own i C ∈ gtbl) (hi : Cond.instantiable C N ∈ gtbl) (hini : Cond.initialized C ∈ gtbl) (hnf : ∀ k, k < N → aty ci k ≠ .float ∧ aty ci k ≠ .double) (hl : h.1.length = n0)
    (hoS : st.all (aBel (100 + n0)) = true) (hoL : (L.all (fun o => match o with | some v => aBel (100 + n0) v | none => true)) = true) (hr1 : n0 + 1 ≤ c0 + R.cells) (hr2 : aSn h.1 + N ≤ s0 + R.slots)
    (hh : h' = aNew h (.inr ci)) (kk : aJ p l e R s m args below meth c Q D cA A ad0 nL c0 s0 (pc + 3) L (.ref (100 + n0) :: st) h') : aJ p l e R s m args below meth c Q D cA A ad0 nL c0 s0 pc L st h := by
  subst hl hh
  exact j_new hX hc hd hw hi hini hnf hoS hoL hr1 hr2 kk
theorem j_putRFN (hX : aX p s m args c own cc nL D cA A ad0) {ci k q i N : Nat} {C : String} {T : u_T} (hc : aCl ci C T N) (hk : k < N) (hw : Cond.fieldLink own i (T k).1 (T k).2.1 (T k).2.2.1 ∈ gtbl) {v : Nat} (hv : v < 100 + h.1.length) (hd : decode cc pc = .ok (.putfield i, 3)) (hs : h.1[q]? = some (.inr ci)) (ht : aKd (aty ci k) = 2) (hfin : (T k).2.2.2 = true) (hmi : meth.name = "<init>") (hdc : (T k).1 = own) (hh : h' = pR h q k (some v)) (kk : aJ p l e R s m args below meth c Q D cA A ad0 nL c0 s0 (pc + 3) L st h') : aJ p l e R s m args below meth c Q D cA A ad0 nL c0 s0 pc L (.ref v :: .ref (100 + q) :: st) h := by
  subst hh
  exact j_putRF hX hc hk hw hv hd hs ht hfin hmi hdc kk
theorem j_putRN (hX : aX p s m args c own cc nL D cA A ad0) {ci k q i N : Nat} {C : String} {T : u_T} (hc : aCl ci C T N) (hk : k < N) (hw : Cond.fieldLink own i (T k).1 (T k).2.1 (T k).2.2.1 ∈ gtbl) {v : Nat} (hv : v < 100 + h.1.length) (hd : decode cc pc = .ok (.putfield i, 3)) (hs : h.1[q]? = some (.inr ci)) (ht : aKd (aty ci k) = 2) (hfin : (T k).2.2.2 = false) (hh : h' = pR h q k (some v)) (kk : aJ p l e R s m args below meth c Q D cA A ad0 nL c0 s0 (pc + 3) L st h') : aJ p l e R s m args below meth c Q D cA A ad0 nL c0 s0 pc L (.ref v :: .ref (100 + q) :: st) h := by
  subst hh
  exact j_putR hX hc hk hw hv hd hs ht hfin kk
theorem j_putIN (hX : aX p s m args c own cc nL D cA A ad0) {ci k q i N : Nat} {C : String} {T : u_T} (hc : aCl ci C T N) (hk : k < N) (hw : Cond.fieldLink own i (T k).1 (T k).2.1 (T k).2.2.1 ∈ gtbl) {v : Int32} (hd : decode cc pc = .ok (.putfield i, 3)) (hs : h.1[q]? = some (.inr ci)) (ht : aKd (aty ci k) = 0) (hfin : (T k).2.2.2 = false) (hn : narrow (aty ci k) (.int v) = .int v) (hf : fits (aty ci k) (.int v) = true) (hh : h' = pI h q k v) (kk : aJ p l e R s m args below meth c Q D cA A ad0 nL c0 s0 (pc + 3) L st h') : aJ p l e R s m args below meth c Q D cA A ad0 nL c0 s0 pc L (.int v :: .ref (100 + q) :: st) h := by
  subst hh
  exact j_putI hX hc hk hw hd hs ht hfin hn hf kk
theorem j_getRN (hX : aX p s m args c own cc nL D cA A ad0) {ci k q i N a : Nat} {C : String} {T : u_T} (hc : aCl ci C T N) (hk : k < N) (hw : Cond.fieldLink own i (T k).1 (T k).2.1 (T k).2.2.1 ∈ gtbl) (ha : h.2.2.2 q k = some a) (hd : decode cc pc = .ok (.getfield i, 3)) (hs : h.1[q]? = some (.inr ci)) (ht : aKd (aty ci k) = 2) (kk : aJ p l e R s m args below meth c Q D cA A ad0 nL c0 s0 (pc + 3) L (.ref a :: st) h) : aJ p l e R s m args below meth c Q D cA A ad0 nL c0 s0 pc L (.ref (100 + q) :: st) h :=
  j_getR hX hc hk hw ha hd hs ht kk
theorem j_callIM (hX : aX p s m args c own cc nL D cA A ad0) {y : MethodName} {bytes : ByteArray} {maxL n d i q : Nat} {as : List Value} {w : aHp} (hw : aLI own i y bytes maxL n) (hd : decode cc pc = .ok (.invokespecial i, 3)) (hM : aM l y bytes maxL none d (.ref (100 + q) :: as) h none w) (ha : as.length = n) (hf : d + 1 ≤ R.frames ∧ 8 + (maxL + 11) + 64 * d ≤ R.locals) (hk : (st.map fun v => v.category).sum ≤ 8) (hr1 : w.1.length ≤ c0 + R.cells) (hr2 : aSn w.1 ≤ s0 + R.slots)
    {n0 : Nat} (hl : h.1.length = n0) (hoS : st.all (aBel (100 + n0)) = true) (hoL : (L.all (fun o => match o with | some v => aBel (100 + n0) v | none => true)) = true)
    (hh : h' = w) (kk : aJ p l e R s m args below meth c Q D cA A ad0 nL c0 s0 (pc + 3) L st h') : aJ p l e R s m args below meth c Q D cA A ad0 nL c0 s0 pc L (as.reverse ++ .ref (100 + q) :: st) h := by
  subst hl hh
  exact j_callI hX hw hd hM ha hf hk hr1 hr2 hoS hoL kk
theorem j_callINM (hX : aX p s m args c own cc nL D cA A ad0) {y : MethodName} {bytes : ByteArray} {maxL n d i q : Nat} {as : List Value} {w : aHp} (hw : aLN own i y bytes maxL n) (hd : decode cc pc = .ok (.invokespecial i, 3)) (hM : aM l y bytes maxL none d (.ref (100 + q) :: as) h none w) (ha : as.length = n) (hf : d + 1 ≤ R.frames ∧ 8 + (maxL + 11) + 64 * d ≤ R.locals) (hk : (st.map fun v => v.category).sum ≤ 8) (hr1 : w.1.length ≤ c0 + R.cells) (hr2 : aSn w.1 ≤ s0 + R.slots)
    {n0 : Nat} (hl : h.1.length = n0) (hoS : st.all (aBel (100 + n0)) = true) (hoL : (L.all (fun o => match o with | some v => aBel (100 + n0) v | none => true)) = true)
    (hh : h' = w) (kk : aJ p l e R s m args below meth c Q D cA A ad0 nL c0 s0 (pc + 3) L st h') : aJ p l e R s m args below meth c Q D cA A ad0 nL c0 s0 pc L (as.reverse ++ .ref (100 + q) :: st) h := by
  subst hl hh
  exact j_callIN hX hw hd hM ha hf hk hr1 hr2 hoS hoL kk
theorem j_callINX (hX : aX p s m args c own cc nL D cA A ad0) (hE : aE s) {y : MethodName} {bytes : ByteArray} {maxL n d i q : Nat} {as : List Value} {w : aHp} (hw : aLN own i y bytes maxL n) (hd : decode cc pc = .ok (.invokespecial i, 3)) (hM : aMx l y bytes maxL none d (.ref (100 + q) :: as) h none w) (ha : as.length = n) (hf : d + 1 ≤ R.frames ∧ 8 + (maxL + 11) + 64 * d ≤ R.locals) (hk : (st.map fun v => v.category).sum ≤ 8) (hr1 : w.1.length ≤ c0 + R.cells) (hr2 : aSn w.1 ≤ s0 + R.slots)
    {n0 : Nat} (hl : h.1.length = n0) (hoS : st.all (aBel (100 + n0)) = true) (hoL : (L.all (fun o => match o with | some v => aBel (100 + n0) v | none => true)) = true)
    (hh : h' = w) (kk : aJ p l e R s m args below meth c Q D cA A ad0 nL c0 s0 (pc + 3) L st h') : aJ p l e R s m args below meth c Q D cA A ad0 nL c0 s0 pc L (as.reverse ++ .ref (100 + q) :: st) h := by
  subst hl hh
  intro adr H ls locs cells slots hR
  refine j_afterN (r := none) (ar := (Value.ref (adr (100 + q)) :: as.map (aV adr)).toArray) hX hR hM.1 hM.2.1 hoS hoL ?_ kk
  rw [aStk]
  exact va_runIN (As := as.map (aV adr)) (rest := st.map (aV adr)) ⟨hX.1, hX.2.1, hX.2.2.1, hX.2.2.2.1, hX.2.2.2.2.1⟩ (hM.2.2 D cA adr H.size) ⟨va_cnB n hX.2.2.2.2.1 (gIn hw.2.2.2.1 [] (fun w hw => absurd hw List.not_mem_nil)) rfl rfl rfl (hX.2.2.2.2.2.2.2.2.2.2.2.2 _ hw.1) (hX.2.2.2.2.1 _ hw.2.2.1) hw.2.2.2.2.1 hf, hw.2.2.2.2.2, hX.2.2.2.2.1 _ hw.2.1⟩ ⟨aPreX_blind, fun U hU hW => ⟨j_pre hX hR (.ref (100 + q) :: as) U hU hW, aE_moved hW.alike hE⟩⟩ rfl (by simpa using ha) hR.2.2.2.2.1.1 rfl (lv_room (by rw [aV_sum]; exact hk)) hd (aRm hR hM.1 hM.2.1 hr1 hr2)
end AK
theorem aLt {h : aHp} {y : aSh} {p : Nat} (hs : h.1[p]? = some y) : p < h.1.length := (List.getElem?_eq_some_iff.mp hs).1
set_option maxRecDepth 100000 in
theorem wAr_int : Cond.arrayClass .int ∈ gtbl := gm 163 rfl rfl
set_option maxRecDepth 100000 in
theorem wAr_byte : Cond.arrayClass .byte ∈ gtbl := gm 706 rfl rfl
set_option maxRecDepth 100000 in
theorem wAr_boolean : Cond.arrayClass .boolean ∈ gtbl := gm 434 rfl rfl
set_option maxRecDepth 100000 in
theorem wAr_long : Cond.arrayClass .long ∈ gtbl := gm 2235 rfl rfl
set_option maxRecDepth 100000 in
theorem wCl_RX9_11 : Cond.classLink RX9 11 "WokenBorder$Law" ∈ gtbl := gm 170 rfl rfl
set_option maxRecDepth 100000 in
theorem wCl_RX9_17 : Cond.classLink RX9 17 "WokenBorder$Lines" ∈ gtbl := gm 172 rfl rfl
set_option maxRecDepth 100000 in
theorem wCl_RX11_7 : Cond.classLink RX11 7 "WokenBorder$Tape" ∈ gtbl := gm 147 rfl rfl
set_option maxRecDepth 100000 in
theorem wCl_RX11_16 : Cond.classLink RX11 16 "WokenBorder$Shelf" ∈ gtbl := gm 164 rfl rfl
set_option maxRecDepth 100000 in
theorem wCl_RX11_23 : Cond.classLink RX11 23 "WokenBorder$Car" ∈ gtbl := gm 223 rfl rfl
set_option maxRecDepth 100000 in
theorem wCl_RX11_33 : Cond.classLink RX11 33 "WokenBorder$Scene" ∈ gtbl := gm 248 rfl rfl
set_option maxRecDepth 100000 in
theorem wCl_RX11_43 : Cond.classLink RX11 43 "WokenBorder$House" ∈ gtbl := gm 258 rfl rfl
set_option maxRecDepth 100000 in
theorem wCl_RX11_52 : Cond.classLink RX11 52 "WokenBorder$Memory" ∈ gtbl := gm 280 rfl rfl
set_option maxRecDepth 100000 in
theorem wCl_RX11_59 : Cond.classLink RX11 59 "WokenBorder$Orders" ∈ gtbl := gm 308 rfl rfl
set_option maxRecDepth 100000 in
theorem wCl_RX11_68 : Cond.classLink RX11 68 "WokenBorder$Advice" ∈ gtbl := gm 348 rfl rfl
set_option maxRecDepth 100000 in
theorem wCl_RX11_75 : Cond.classLink RX11 75 "WokenBorder$Guesses" ∈ gtbl := gm 400 rfl rfl
set_option maxRecDepth 100000 in
theorem wCl_RL_8 : Cond.classLink RL 8 "WokenBorder" ∈ gtbl := gm 139 rfl rfl
set_option maxRecDepth 100000 in
theorem wCl_RL_16 : Cond.classLink RL 16 "WokenBorderModel" ∈ gtbl := gm 1545 rfl rfl
set_option maxRecDepth 100000 in
theorem wIn_RX0 : Cond.instantiable RX0 15 ∈ gtbl := gm 349 rfl rfl
set_option maxRecDepth 100000 in
theorem wIni_RX0 : Cond.initialized RX0 ∈ gtbl := gm 124 rfl rfl
theorem nf_RX0 : ∀ k, k < 15 → aty 0 k ≠ .float ∧ aty 0 k ≠ .double := by decide
set_option maxRecDepth 100000 in
theorem wIn_RX1 : Cond.instantiable RX1 6 ∈ gtbl := gm 224 rfl rfl
set_option maxRecDepth 100000 in
theorem wIni_RX1 : Cond.initialized RX1 ∈ gtbl := gm 119 rfl rfl
theorem nf_RX1 : ∀ k, k < 6 → aty 1 k ≠ .float ∧ aty 1 k ≠ .double := by decide
set_option maxRecDepth 100000 in
theorem wIn_RX2 : Cond.instantiable RX2 9 ∈ gtbl := gm 401 rfl rfl
set_option maxRecDepth 100000 in
theorem wIni_RX2 : Cond.initialized RX2 ∈ gtbl := gm 125 rfl rfl
theorem nf_RX2 : ∀ k, k < 9 → aty 2 k ≠ .float ∧ aty 2 k ≠ .double := by decide
set_option maxRecDepth 100000 in
theorem wIn_RX3 : Cond.instantiable RX3 5 ∈ gtbl := gm 259 rfl rfl
set_option maxRecDepth 100000 in
theorem wIni_RX3 : Cond.initialized RX3 ∈ gtbl := gm 121 rfl rfl
theorem nf_RX3 : ∀ k, k < 5 → aty 3 k ≠ .float ∧ aty 3 k ≠ .double := by decide
set_option maxRecDepth 100000 in
theorem wIn_RX4 : Cond.instantiable RX4 4 ∈ gtbl := gm 174 rfl rfl
set_option maxRecDepth 100000 in
theorem wIni_RX4 : Cond.initialized RX4 ∈ gtbl := gm 117 rfl rfl
theorem nf_RX4 : ∀ k, k < 4 → aty 4 k ≠ .float ∧ aty 4 k ≠ .double := by decide
set_option maxRecDepth 100000 in
theorem wIn_RX5 : Cond.instantiable RX5 2 ∈ gtbl := gm 192 rfl rfl
set_option maxRecDepth 100000 in
theorem wIni_RX5 : Cond.initialized RX5 ∈ gtbl := gm 118 rfl rfl
theorem nf_RX5 : ∀ k, k < 2 → aty 5 k ≠ .float ∧ aty 5 k ≠ .double := by decide
set_option maxRecDepth 100000 in
theorem wIn_RX6 : Cond.instantiable RX6 7 ∈ gtbl := gm 281 rfl rfl
set_option maxRecDepth 100000 in
theorem wIni_RX6 : Cond.initialized RX6 ∈ gtbl := gm 122 rfl rfl
theorem nf_RX6 : ∀ k, k < 7 → aty 6 k ≠ .float ∧ aty 6 k ≠ .double := by decide
set_option maxRecDepth 100000 in
theorem wIn_RX7 : Cond.instantiable RX7 11 ∈ gtbl := gm 309 rfl rfl
set_option maxRecDepth 100000 in
theorem wIni_RX7 : Cond.initialized RX7 ∈ gtbl := gm 123 rfl rfl
theorem nf_RX7 : ∀ k, k < 11 → aty 7 k ≠ .float ∧ aty 7 k ≠ .double := by decide
set_option maxRecDepth 100000 in
theorem wIn_RX8 : Cond.instantiable RX8 1 ∈ gtbl := gm 249 rfl rfl
set_option maxRecDepth 100000 in
theorem wIni_RX8 : Cond.initialized RX8 ∈ gtbl := gm 120 rfl rfl
theorem nf_RX8 : ∀ k, k < 1 → aty 8 k ≠ .float ∧ aty 8 k ≠ .double := by decide
set_option maxRecDepth 100000 in
theorem wIn_RX9 : Cond.instantiable RX9 6 ∈ gtbl := gm 165 rfl rfl
set_option maxRecDepth 100000 in
theorem wIni_RX9 : Cond.initialized RX9 ∈ gtbl := gm 116 rfl rfl
theorem nf_RX9 : ∀ k, k < 6 → aty 9 k ≠ .float ∧ aty 9 k ≠ .double := by decide
set_option maxRecDepth 100000 in
theorem wIn_RX10 : Cond.instantiable RX10 3 ∈ gtbl := gm 148 rfl rfl
set_option maxRecDepth 100000 in
theorem wIni_RX10 : Cond.initialized RX10 ∈ gtbl := gm 115 rfl rfl
theorem nf_RX10 : ∀ k, k < 3 → aty 10 k ≠ .float ∧ aty 10 k ≠ .double := by decide
set_option maxRecDepth 100000 in
theorem wIn_RX11 : Cond.instantiable RX11 14 ∈ gtbl := gm 140 rfl rfl
set_option maxRecDepth 100000 in
theorem wIni_RX11 : Cond.initialized RX11 ∈ gtbl := gm 114 rfl rfl
theorem nf_RX11 : ∀ k, k < 14 → aty 11 k ≠ .float ∧ aty 11 k ≠ .double := by decide
set_option maxRecDepth 100000 in
theorem wIn_RX12 : Cond.instantiable RX12 58 ∈ gtbl := gm 1546 rfl rfl
set_option maxRecDepth 100000 in
theorem wIni_RX12 : Cond.initialized RX12 ∈ gtbl := gm 126 rfl rfl
theorem nf_RX12 : ∀ k, k < 58 → aty 12 k ≠ .float ∧ aty 12 k ≠ .double := by decide
def wX10_init_1 (p : Nat) (h : aHp) : aHp := aNew h (.inl (.int, 240))
theorem lwX10_init_1 (p : Nat) (h : aHp) : (wX10_init_1 p h).1.length = h.1.length + 1 := len_step (s := 0) (t := 1) (Nat.add_zero h.1.length).symm rfl
theorem swX10_init_1 (p : Nat) (h : aHp) : aSn (wX10_init_1 p h).1 = aSn h.1 + 240 := sn_step (s := 0) (z := 240) (t := 240) (Nat.add_zero (aSn h.1)).symm rfl rfl
theorem gwX10_init_1 {p z : Nat} {h : aHp} {y : aSh} (hs0 : h.1[z]? = some y) : (wX10_init_1 p h).1[z]? = some y := aNew_get hs0
theorem GX10_init_z0_1 {p : Nat} {h : aHp} (hs : h.1[p]? = some (.inr 10)) : (wX10_init_1 p h).1[p]? = some (.inr 10) := gwX10_init_1 hs
def wX10_init_2 (p : Nat) (h : aHp) : aHp := pR (wX10_init_1 p h) p 0 (some (100 + h.1.length))
theorem lwX10_init_2 (p : Nat) (h : aHp) : (wX10_init_2 p h).1.length = h.1.length + 1 := (lwX10_init_1 p h)
theorem swX10_init_2 (p : Nat) (h : aHp) : aSn (wX10_init_2 p h).1 = aSn h.1 + 240 := (swX10_init_1 p h)
theorem gwX10_init_2 {p z : Nat} {h : aHp} {y : aSh} (hs0 : (wX10_init_1 p h).1[z]? = some y) : (wX10_init_2 p h).1[z]? = some y := hs0
def wX10_init (p : Nat) (h : aHp) : aHp := (wX10_init_2 p h)
theorem lenX10_init (p : Nat) (h : aHp) : (wX10_init p h).1.length = h.1.length + 1 := lwX10_init_2 p h
theorem snX10_init (p : Nat) (h : aHp) : aSn (wX10_init p h).1 = aSn h.1 + 240 := swX10_init_2 p h
theorem getX10_init {p z : Nat} {h : aHp} {y : aSh} (hs0 : h.1[z]? = some y) : (wX10_init p h).1[z]? = some y := gwX10_init_2 (gwX10_init_1 (hs0))
theorem rvX10_init_1 {p z k : Nat} {h : aHp} (hz : z < h.1.length) (hne : z ≠ p) : (wX10_init_1 p h).2.2.2 z k = h.2.2.2 z k := (aNew_rv hz).trans (rfl)
theorem rvX10_init_2 {p z k : Nat} {h : aHp} (hz : z < h.1.length) (hne : z ≠ p) : (wX10_init_2 p h).2.2.2 z k = h.2.2.2 z k := (pR_rv (Or.inl hne)).trans (rvX10_init_1 hz hne)
theorem rvX10_init {p z k : Nat} {h : aHp} (hz : z < h.1.length) (hne : z ≠ p) : (wX10_init p h).2.2.2 z k = h.2.2.2 z k := rvX10_init_2 hz hne
section CK
variable {pg : Program} {l : Launch} {e : Env} {R : Room} {s : State} {m : MethodId} {args : Array Value} {below : List Frame} {meth : Method} {c : Code} {Q : State → Prop} {D : va_G} {cA : FieldType → ClassId} {A : Nat → Prop} {ad0 : Nat → Nat}
theorem ckX10_init_0 {p : Nat} {h : aHp} (hX : aX pg s m args c yX10_init.cls cX10_init 1 D cA A ad0) (hnm : meth.name = "<init>") (hs : h.1[p]? = some (.inr 10)) (hp : p < h.1.length) (hRf : 1 ≤ R.frames) (hRl : 64 * 1 ≤ R.locals) (hRf1 : 1 ≤ R.frames) (hRl1 : (([] : List Value).map (fun v => v.category)).sum + 12 ≤ R.locals) (hRc : 1 ≤ R.cells) (hRs : 240 ≤ R.slots) (hL : ∀ n, h.1.length ≤ n → ((aEnt [.ref (100 + p)] 1).all (fun o => match o with | some v => aBel (100 + n) v | none => true)) = true)
    (kk : aJ pg l e R s m args below meth c Q D cA A ad0 1 h.1.length (aSn h.1) 13 (aEnt [.ref (100 + p)] 1) [] (wX10_init_2 p h)) : aJ pg l e R s m args below meth c Q D cA A ad0 1 h.1.length (aSn h.1) 0 (aEnt [.ref (100 + p)] 1) [] h := by
  refine j_aload_n hX dX10_init_0 rfl ?_
  refine jpc (b := 1) rfl ?_
  refine j_obj hX lk_X10_3 dX10_init_1 ⟨hRf1, hRl1⟩ ?_
  refine jpc (b := 4) rfl ?_
  refine j_aload_n hX dX10_init_4 rfl ?_
  refine jpc (b := 5) rfl ?_
  refine j_sipush hX dX10_init_5 sp_240 ?_
  refine jpc (b := 8) rfl ?_
  refine j_newaN (ty := .int) (t0 := 0) (n := 240) (n0 := h.1.length) hX dX10_init_8 rfl (fun _ => rfl) wAr_int (fun _ => rfl) (by decide) (by decide) (by decide) rfl (b_cons (b_ref hp) b_nil) (hL _ (Nat.le_refl _)) (rmC (Nat.add_zero _).symm hRc (by decide)) (rmS (Nat.add_zero (aSn h.1)).symm hRs (by decide)) (h' := wX10_init_1 p h) rfl ?_
  refine jpc (b := 10) rfl ?_
  refine j_putRFN (k := 0) hX kX10 (by decide) fk_X10_11 (putv (a := h.1.length) (k := 1) (lwX10_init_1 p h) (Nat.lt_add_of_pos_right (by decide))) dX10_init_10 (GX10_init_z0_1 hs) rfl rfl hnm rfl (h' := wX10_init_2 p h) rfl ?_
  exact kk
end CK
theorem okX10_init {l : Launch} {p : Nat} {h : aHp} (hs : h.1[p]? = some (.inr 10)) : aM l yX10_init cX10_init 1 none 1 [.ref (100 + p)] h none (wX10_init p h) := by
  have hp := aLt hs
  have hL : ∀ n, h.1.length ≤ n → ((aEnt [.ref (100 + p)] 1).all (fun o => match o with | some v => aBel (100 + n) v | none => true)) = true := by
    intro n hn
    simp [aBel, aEnt, aEn, Value.category]
    omega
  refine aM_of (by decide) (Nat.le_of_ble_eq_true rfl) (by rw [lenX10_init]; omega) (by rw [snX10_init]; omega) (fun p_ e s m args below meth c D cA A ad0 hX hr hlk hnm => ?_)
  generalize hRe : (Room.mk 1 ((wX10_init p h).1.length - h.1.length) (aSn (wX10_init p h).1 - aSn h.1) (64 * 1)) = R
  have hRf : 1 ≤ R.frames := by rw [← hRe]; exact Nat.le_refl _
  have hRl : 64 * 1 ≤ R.locals := by rw [← hRe]; exact Nat.le_refl _
  have hRf1 : 1 ≤ R.frames := Nat.le_trans (by decide) hRf
  have hRl1 : (([] : List Value).map (fun v => v.category)).sum + 12 ≤ R.locals := Nat.le_trans (by decide) hRl
  have hRc : 1 ≤ R.cells := by rw [← hRe]; show 1 ≤ _ - _; rw [lenX10_init]; omega
  have hRs : 240 ≤ R.slots := by rw [← hRe]; show 240 ≤ _ - _; rw [snX10_init]; omega
  refine ckX10_init_0 hX hnm hs hp hRf hRl hRf1 hRl1 hRc hRs hL ?_
  exact j_vret hX hr hlk dX10_init_13
def wX4_init_1 (p : Nat) (h : aHp) : aHp := aNew h (.inl (.int, 240))
theorem lwX4_init_1 (p : Nat) (h : aHp) : (wX4_init_1 p h).1.length = h.1.length + 1 := len_step (s := 0) (t := 1) (Nat.add_zero h.1.length).symm rfl
theorem swX4_init_1 (p : Nat) (h : aHp) : aSn (wX4_init_1 p h).1 = aSn h.1 + 240 := sn_step (s := 0) (z := 240) (t := 240) (Nat.add_zero (aSn h.1)).symm rfl rfl
theorem gwX4_init_1 {p z : Nat} {h : aHp} {y : aSh} (hs0 : h.1[z]? = some y) : (wX4_init_1 p h).1[z]? = some y := aNew_get hs0
theorem GX4_init_z0_1 {p : Nat} {h : aHp} (hs : h.1[p]? = some (.inr 4)) : (wX4_init_1 p h).1[p]? = some (.inr 4) := gwX4_init_1 hs
def wX4_init_2 (p : Nat) (h : aHp) : aHp := pR (wX4_init_1 p h) p 0 (some (100 + h.1.length))
theorem lwX4_init_2 (p : Nat) (h : aHp) : (wX4_init_2 p h).1.length = h.1.length + 1 := (lwX4_init_1 p h)
theorem swX4_init_2 (p : Nat) (h : aHp) : aSn (wX4_init_2 p h).1 = aSn h.1 + 240 := (swX4_init_1 p h)
theorem gwX4_init_2 {p z : Nat} {h : aHp} {y : aSh} (hs0 : (wX4_init_1 p h).1[z]? = some y) : (wX4_init_2 p h).1[z]? = some y := hs0
theorem GX4_init_z0_2 {p : Nat} {h : aHp} (hs : h.1[p]? = some (.inr 4)) : (wX4_init_2 p h).1[p]? = some (.inr 4) := gwX4_init_2 (GX4_init_z0_1 hs)
def wX4_init_3 (p : Nat) (h : aHp) : aHp := aNew (wX4_init_2 p h) (.inl (.int, 32))
theorem lwX4_init_3 (p : Nat) (h : aHp) : (wX4_init_3 p h).1.length = h.1.length + 2 := len_step (s := 1) (t := 2) (lwX4_init_2 p h) rfl
theorem swX4_init_3 (p : Nat) (h : aHp) : aSn (wX4_init_3 p h).1 = aSn h.1 + 272 := sn_step (s := 240) (z := 32) (t := 272) (swX4_init_2 p h) rfl rfl
theorem gwX4_init_3 {p z : Nat} {h : aHp} {y : aSh} (hs0 : (wX4_init_2 p h).1[z]? = some y) : (wX4_init_3 p h).1[z]? = some y := aNew_get hs0
theorem GX4_init_z0_3 {p : Nat} {h : aHp} (hs : h.1[p]? = some (.inr 4)) : (wX4_init_3 p h).1[p]? = some (.inr 4) := gwX4_init_3 (GX4_init_z0_2 hs)
def wX4_init_4 (p : Nat) (h : aHp) : aHp := pR (wX4_init_3 p h) p 1 (some (100 + (h.1.length + 1)))
theorem lwX4_init_4 (p : Nat) (h : aHp) : (wX4_init_4 p h).1.length = h.1.length + 2 := (lwX4_init_3 p h)
theorem swX4_init_4 (p : Nat) (h : aHp) : aSn (wX4_init_4 p h).1 = aSn h.1 + 272 := (swX4_init_3 p h)
theorem gwX4_init_4 {p z : Nat} {h : aHp} {y : aSh} (hs0 : (wX4_init_3 p h).1[z]? = some y) : (wX4_init_4 p h).1[z]? = some y := hs0
def wX4_init (p : Nat) (h : aHp) : aHp := (wX4_init_4 p h)
theorem lenX4_init (p : Nat) (h : aHp) : (wX4_init p h).1.length = h.1.length + 2 := lwX4_init_4 p h
theorem snX4_init (p : Nat) (h : aHp) : aSn (wX4_init p h).1 = aSn h.1 + 272 := swX4_init_4 p h
theorem getX4_init {p z : Nat} {h : aHp} {y : aSh} (hs0 : h.1[z]? = some y) : (wX4_init p h).1[z]? = some y := gwX4_init_4 (gwX4_init_3 (gwX4_init_2 (gwX4_init_1 (hs0))))
theorem rvX4_init_1 {p z k : Nat} {h : aHp} (hz : z < h.1.length) (hne : z ≠ p) : (wX4_init_1 p h).2.2.2 z k = h.2.2.2 z k := (aNew_rv hz).trans (rfl)
theorem rvX4_init_2 {p z k : Nat} {h : aHp} (hz : z < h.1.length) (hne : z ≠ p) : (wX4_init_2 p h).2.2.2 z k = h.2.2.2 z k := (pR_rv (Or.inl hne)).trans (rvX4_init_1 hz hne)
theorem rvX4_init_3 {p z k : Nat} {h : aHp} (hz : z < h.1.length) (hne : z ≠ p) : (wX4_init_3 p h).2.2.2 z k = h.2.2.2 z k := (aNew_rv (by rw [lwX4_init_2]; exact lt_k hz)).trans (rvX4_init_2 hz hne)
theorem rvX4_init_4 {p z k : Nat} {h : aHp} (hz : z < h.1.length) (hne : z ≠ p) : (wX4_init_4 p h).2.2.2 z k = h.2.2.2 z k := (pR_rv (Or.inl hne)).trans (rvX4_init_3 hz hne)
theorem rvX4_init {p z k : Nat} {h : aHp} (hz : z < h.1.length) (hne : z ≠ p) : (wX4_init p h).2.2.2 z k = h.2.2.2 z k := rvX4_init_4 hz hne
section CK
variable {pg : Program} {l : Launch} {e : Env} {R : Room} {s : State} {m : MethodId} {args : Array Value} {below : List Frame} {meth : Method} {c : Code} {Q : State → Prop} {D : va_G} {cA : FieldType → ClassId} {A : Nat → Prop} {ad0 : Nat → Nat}
theorem ckX4_init_0 {p : Nat} {h : aHp} (hX : aX pg s m args c yX4_init.cls cX4_init 1 D cA A ad0) (hnm : meth.name = "<init>") (hs : h.1[p]? = some (.inr 4)) (hp : p < h.1.length) (hRf : 1 ≤ R.frames) (hRl : 64 * 1 ≤ R.locals) (hRf1 : 1 ≤ R.frames) (hRl1 : (([] : List Value).map (fun v => v.category)).sum + 12 ≤ R.locals) (hRc : 2 ≤ R.cells) (hRs : 272 ≤ R.slots) (hL : ∀ n, h.1.length ≤ n → ((aEnt [.ref (100 + p)] 1).all (fun o => match o with | some v => aBel (100 + n) v | none => true)) = true)
    (kk : aJ pg l e R s m args below meth c Q D cA A ad0 1 h.1.length (aSn h.1) 21 (aEnt [.ref (100 + p)] 1) [] (wX4_init_4 p h)) : aJ pg l e R s m args below meth c Q D cA A ad0 1 h.1.length (aSn h.1) 0 (aEnt [.ref (100 + p)] 1) [] h := by
  refine j_aload_n hX dX4_init_0 rfl ?_
  refine jpc (b := 1) rfl ?_
  refine j_obj hX lk_X4_3 dX4_init_1 ⟨hRf1, hRl1⟩ ?_
  refine jpc (b := 4) rfl ?_
  refine j_aload_n hX dX4_init_4 rfl ?_
  refine jpc (b := 5) rfl ?_
  refine j_sipush hX dX4_init_5 sp_240 ?_
  refine jpc (b := 8) rfl ?_
  refine j_newaN (ty := .int) (t0 := 0) (n := 240) (n0 := h.1.length) hX dX4_init_8 rfl (fun _ => rfl) wAr_int (fun _ => rfl) (by decide) (by decide) (by decide) rfl (b_cons (b_ref hp) b_nil) (hL _ (Nat.le_refl _)) (rmC (Nat.add_zero _).symm hRc (by decide)) (rmS (Nat.add_zero (aSn h.1)).symm hRs (by decide)) (h' := wX4_init_1 p h) rfl ?_
  refine jpc (b := 10) rfl ?_
  refine j_putRFN (k := 0) hX kX4 (by decide) fk_X4_11 (putv (a := h.1.length) (k := 1) (lwX4_init_1 p h) (Nat.lt_add_of_pos_right (by decide))) dX4_init_10 (GX4_init_z0_1 hs) rfl rfl hnm rfl (h' := wX4_init_2 p h) rfl ?_
  refine jpc (b := 13) rfl ?_
  refine j_aload_n hX dX4_init_13 rfl ?_
  refine jpc (b := 14) rfl ?_
  refine j_bipush hX dX4_init_14 bp_32 ?_
  refine jpc (b := 16) rfl ?_
  refine j_newaN (ty := .int) (t0 := 0) (n := 32) (n0 := (h.1.length + 1)) hX dX4_init_16 rfl (fun _ => rfl) wAr_int (fun _ => rfl) (by decide) (by decide) (by decide) (lwX4_init_2 p h) (b_cons (b_ref (lt_k hp)) b_nil) (hL _ (Nat.le_add_right _ _)) (rmC rfl hRc (by decide)) (rmS (swX4_init_2 p h) hRs (by decide)) (h' := wX4_init_3 p h) rfl ?_
  refine jpc (b := 18) rfl ?_
  refine j_putRFN (k := 1) hX kX4 (by decide) fk_X4_17 (putv (a := h.1.length) (k := 2) (lwX4_init_3 p h) (lt_j (by decide))) dX4_init_18 (GX4_init_z0_3 hs) rfl rfl hnm rfl (h' := wX4_init_4 p h) rfl ?_
  exact kk
end CK
theorem okX4_init {l : Launch} {p : Nat} {h : aHp} (hs : h.1[p]? = some (.inr 4)) : aM l yX4_init cX4_init 1 none 1 [.ref (100 + p)] h none (wX4_init p h) := by
  have hp := aLt hs
  have hL : ∀ n, h.1.length ≤ n → ((aEnt [.ref (100 + p)] 1).all (fun o => match o with | some v => aBel (100 + n) v | none => true)) = true := by
    intro n hn
    simp [aBel, aEnt, aEn, Value.category]
    omega
  refine aM_of (by decide) (Nat.le_of_ble_eq_true rfl) (by rw [lenX4_init]; omega) (by rw [snX4_init]; omega) (fun p_ e s m args below meth c D cA A ad0 hX hr hlk hnm => ?_)
  generalize hRe : (Room.mk 1 ((wX4_init p h).1.length - h.1.length) (aSn (wX4_init p h).1 - aSn h.1) (64 * 1)) = R
  have hRf : 1 ≤ R.frames := by rw [← hRe]; exact Nat.le_refl _
  have hRl : 64 * 1 ≤ R.locals := by rw [← hRe]; exact Nat.le_refl _
  have hRf1 : 1 ≤ R.frames := Nat.le_trans (by decide) hRf
  have hRl1 : (([] : List Value).map (fun v => v.category)).sum + 12 ≤ R.locals := Nat.le_trans (by decide) hRl
  have hRc : 2 ≤ R.cells := by rw [← hRe]; show 2 ≤ _ - _; rw [lenX4_init]; omega
  have hRs : 272 ≤ R.slots := by rw [← hRe]; show 272 ≤ _ - _; rw [snX4_init]; omega
  refine ckX4_init_0 hX hnm hs hp hRf hRl hRf1 hRl1 hRc hRs hL ?_
  exact j_vret hX hr hlk dX4_init_21
def wX5_init_1 (p : Nat) (h : aHp) : aHp := aNew h (.inl (.int, 48))
theorem lwX5_init_1 (p : Nat) (h : aHp) : (wX5_init_1 p h).1.length = h.1.length + 1 := len_step (s := 0) (t := 1) (Nat.add_zero h.1.length).symm rfl
theorem swX5_init_1 (p : Nat) (h : aHp) : aSn (wX5_init_1 p h).1 = aSn h.1 + 48 := sn_step (s := 0) (z := 48) (t := 48) (Nat.add_zero (aSn h.1)).symm rfl rfl
theorem gwX5_init_1 {p z : Nat} {h : aHp} {y : aSh} (hs0 : h.1[z]? = some y) : (wX5_init_1 p h).1[z]? = some y := aNew_get hs0
theorem GX5_init_z0_1 {p : Nat} {h : aHp} (hs : h.1[p]? = some (.inr 5)) : (wX5_init_1 p h).1[p]? = some (.inr 5) := gwX5_init_1 hs
def wX5_init_2 (p : Nat) (h : aHp) : aHp := pR (wX5_init_1 p h) p 0 (some (100 + h.1.length))
theorem lwX5_init_2 (p : Nat) (h : aHp) : (wX5_init_2 p h).1.length = h.1.length + 1 := (lwX5_init_1 p h)
theorem swX5_init_2 (p : Nat) (h : aHp) : aSn (wX5_init_2 p h).1 = aSn h.1 + 48 := (swX5_init_1 p h)
theorem gwX5_init_2 {p z : Nat} {h : aHp} {y : aSh} (hs0 : (wX5_init_1 p h).1[z]? = some y) : (wX5_init_2 p h).1[z]? = some y := hs0
def wX5_init (p : Nat) (h : aHp) : aHp := (wX5_init_2 p h)
theorem lenX5_init (p : Nat) (h : aHp) : (wX5_init p h).1.length = h.1.length + 1 := lwX5_init_2 p h
theorem snX5_init (p : Nat) (h : aHp) : aSn (wX5_init p h).1 = aSn h.1 + 48 := swX5_init_2 p h
theorem getX5_init {p z : Nat} {h : aHp} {y : aSh} (hs0 : h.1[z]? = some y) : (wX5_init p h).1[z]? = some y := gwX5_init_2 (gwX5_init_1 (hs0))
theorem rvX5_init_1 {p z k : Nat} {h : aHp} (hz : z < h.1.length) (hne : z ≠ p) : (wX5_init_1 p h).2.2.2 z k = h.2.2.2 z k := (aNew_rv hz).trans (rfl)
theorem rvX5_init_2 {p z k : Nat} {h : aHp} (hz : z < h.1.length) (hne : z ≠ p) : (wX5_init_2 p h).2.2.2 z k = h.2.2.2 z k := (pR_rv (Or.inl hne)).trans (rvX5_init_1 hz hne)
theorem rvX5_init {p z k : Nat} {h : aHp} (hz : z < h.1.length) (hne : z ≠ p) : (wX5_init p h).2.2.2 z k = h.2.2.2 z k := rvX5_init_2 hz hne
section CK
variable {pg : Program} {l : Launch} {e : Env} {R : Room} {s : State} {m : MethodId} {args : Array Value} {below : List Frame} {meth : Method} {c : Code} {Q : State → Prop} {D : va_G} {cA : FieldType → ClassId} {A : Nat → Prop} {ad0 : Nat → Nat}
theorem ckX5_init_0 {p : Nat} {h : aHp} (hX : aX pg s m args c yX5_init.cls cX5_init 1 D cA A ad0) (hnm : meth.name = "<init>") (hs : h.1[p]? = some (.inr 5)) (hp : p < h.1.length) (hRf : 1 ≤ R.frames) (hRl : 64 * 1 ≤ R.locals) (hRf1 : 1 ≤ R.frames) (hRl1 : (([] : List Value).map (fun v => v.category)).sum + 12 ≤ R.locals) (hRc : 1 ≤ R.cells) (hRs : 48 ≤ R.slots) (hL : ∀ n, h.1.length ≤ n → ((aEnt [.ref (100 + p)] 1).all (fun o => match o with | some v => aBel (100 + n) v | none => true)) = true)
    (kk : aJ pg l e R s m args below meth c Q D cA A ad0 1 h.1.length (aSn h.1) 12 (aEnt [.ref (100 + p)] 1) [] (wX5_init_2 p h)) : aJ pg l e R s m args below meth c Q D cA A ad0 1 h.1.length (aSn h.1) 0 (aEnt [.ref (100 + p)] 1) [] h := by
  refine j_aload_n hX dX5_init_0 rfl ?_
  refine jpc (b := 1) rfl ?_
  refine j_obj hX lk_X5_3 dX5_init_1 ⟨hRf1, hRl1⟩ ?_
  refine jpc (b := 4) rfl ?_
  refine j_aload_n hX dX5_init_4 rfl ?_
  refine jpc (b := 5) rfl ?_
  refine j_bipush hX dX5_init_5 bp_48 ?_
  refine jpc (b := 7) rfl ?_
  refine j_newaN (ty := .int) (t0 := 0) (n := 48) (n0 := h.1.length) hX dX5_init_7 rfl (fun _ => rfl) wAr_int (fun _ => rfl) (by decide) (by decide) (by decide) rfl (b_cons (b_ref hp) b_nil) (hL _ (Nat.le_refl _)) (rmC (Nat.add_zero _).symm hRc (by decide)) (rmS (Nat.add_zero (aSn h.1)).symm hRs (by decide)) (h' := wX5_init_1 p h) rfl ?_
  refine jpc (b := 9) rfl ?_
  refine j_putRFN (k := 0) hX kX5 (by decide) fk_X5_11 (putv (a := h.1.length) (k := 1) (lwX5_init_1 p h) (Nat.lt_add_of_pos_right (by decide))) dX5_init_9 (GX5_init_z0_1 hs) rfl rfl hnm rfl (h' := wX5_init_2 p h) rfl ?_
  exact kk
end CK
theorem okX5_init {l : Launch} {p : Nat} {h : aHp} (hs : h.1[p]? = some (.inr 5)) : aM l yX5_init cX5_init 1 none 1 [.ref (100 + p)] h none (wX5_init p h) := by
  have hp := aLt hs
  have hL : ∀ n, h.1.length ≤ n → ((aEnt [.ref (100 + p)] 1).all (fun o => match o with | some v => aBel (100 + n) v | none => true)) = true := by
    intro n hn
    simp [aBel, aEnt, aEn, Value.category]
    omega
  refine aM_of (by decide) (Nat.le_of_ble_eq_true rfl) (by rw [lenX5_init]; omega) (by rw [snX5_init]; omega) (fun p_ e s m args below meth c D cA A ad0 hX hr hlk hnm => ?_)
  generalize hRe : (Room.mk 1 ((wX5_init p h).1.length - h.1.length) (aSn (wX5_init p h).1 - aSn h.1) (64 * 1)) = R
  have hRf : 1 ≤ R.frames := by rw [← hRe]; exact Nat.le_refl _
  have hRl : 64 * 1 ≤ R.locals := by rw [← hRe]; exact Nat.le_refl _
  have hRf1 : 1 ≤ R.frames := Nat.le_trans (by decide) hRf
  have hRl1 : (([] : List Value).map (fun v => v.category)).sum + 12 ≤ R.locals := Nat.le_trans (by decide) hRl
  have hRc : 1 ≤ R.cells := by rw [← hRe]; show 1 ≤ _ - _; rw [lenX5_init]; omega
  have hRs : 48 ≤ R.slots := by rw [← hRe]; show 48 ≤ _ - _; rw [snX5_init]; omega
  refine ckX5_init_0 hX hnm hs hp hRf hRl hRf1 hRl1 hRc hRs hL ?_
  exact j_vret hX hr hlk dX5_init_12
def wX9_init_1 (p : Nat) (h : aHp) : aHp := aNew h (.inl (.object "WokenBorder$Law", 4))
theorem lwX9_init_1 (p : Nat) (h : aHp) : (wX9_init_1 p h).1.length = h.1.length + 1 := len_step (s := 0) (t := 1) (Nat.add_zero h.1.length).symm rfl
theorem swX9_init_1 (p : Nat) (h : aHp) : aSn (wX9_init_1 p h).1 = aSn h.1 + 4 := sn_step (s := 0) (z := 4) (t := 4) (Nat.add_zero (aSn h.1)).symm rfl rfl
theorem gwX9_init_1 {p z : Nat} {h : aHp} {y : aSh} (hs0 : h.1[z]? = some y) : (wX9_init_1 p h).1[z]? = some y := aNew_get hs0
theorem GX9_init_z0_1 {p : Nat} {h : aHp} (hs : h.1[p]? = some (.inr 9)) : (wX9_init_1 p h).1[p]? = some (.inr 9) := gwX9_init_1 hs
def wX9_init_2 (p : Nat) (h : aHp) : aHp := pR (wX9_init_1 p h) p 0 (some (100 + h.1.length))
theorem lwX9_init_2 (p : Nat) (h : aHp) : (wX9_init_2 p h).1.length = h.1.length + 1 := (lwX9_init_1 p h)
theorem swX9_init_2 (p : Nat) (h : aHp) : aSn (wX9_init_2 p h).1 = aSn h.1 + 4 := (swX9_init_1 p h)
theorem gwX9_init_2 {p z : Nat} {h : aHp} {y : aSh} (hs0 : (wX9_init_1 p h).1[z]? = some y) : (wX9_init_2 p h).1[z]? = some y := hs0
theorem GX9_init_z0_2 {p : Nat} {h : aHp} (hs : h.1[p]? = some (.inr 9)) : (wX9_init_2 p h).1[p]? = some (.inr 9) := gwX9_init_2 (GX9_init_z0_1 hs)
def wX9_init_3 (p : Nat) (h : aHp) : aHp := aNew (wX9_init_2 p h) (.inl (.object "WokenBorder$Lines", 4))
theorem lwX9_init_3 (p : Nat) (h : aHp) : (wX9_init_3 p h).1.length = h.1.length + 2 := len_step (s := 1) (t := 2) (lwX9_init_2 p h) rfl
theorem swX9_init_3 (p : Nat) (h : aHp) : aSn (wX9_init_3 p h).1 = aSn h.1 + 8 := sn_step (s := 4) (z := 4) (t := 8) (swX9_init_2 p h) rfl rfl
theorem gwX9_init_3 {p z : Nat} {h : aHp} {y : aSh} (hs0 : (wX9_init_2 p h).1[z]? = some y) : (wX9_init_3 p h).1[z]? = some y := aNew_get hs0
theorem GX9_init_z0_3 {p : Nat} {h : aHp} (hs : h.1[p]? = some (.inr 9)) : (wX9_init_3 p h).1[p]? = some (.inr 9) := gwX9_init_3 (GX9_init_z0_2 hs)
def wX9_init_4 (p : Nat) (h : aHp) : aHp := pR (wX9_init_3 p h) p 1 (some (100 + (h.1.length + 1)))
theorem lwX9_init_4 (p : Nat) (h : aHp) : (wX9_init_4 p h).1.length = h.1.length + 2 := (lwX9_init_3 p h)
theorem swX9_init_4 (p : Nat) (h : aHp) : aSn (wX9_init_4 p h).1 = aSn h.1 + 8 := (swX9_init_3 p h)
theorem gwX9_init_4 {p z : Nat} {h : aHp} {y : aSh} (hs0 : (wX9_init_3 p h).1[z]? = some y) : (wX9_init_4 p h).1[z]? = some y := hs0
theorem GX9_init_z0_4 {p : Nat} {h : aHp} (hs : h.1[p]? = some (.inr 9)) : (wX9_init_4 p h).1[p]? = some (.inr 9) := gwX9_init_4 (GX9_init_z0_3 hs)
def wX9_init_5 (p : Nat) (h : aHp) : aHp := aNew (wX9_init_4 p h) (.inr 4)
theorem lwX9_init_5 (p : Nat) (h : aHp) : (wX9_init_5 p h).1.length = h.1.length + 3 := len_step (s := 2) (t := 3) (lwX9_init_4 p h) rfl
theorem swX9_init_5 (p : Nat) (h : aHp) : aSn (wX9_init_5 p h).1 = aSn h.1 + 12 := sn_step (s := 8) (z := 4) (t := 12) (swX9_init_4 p h) rfl rfl
theorem gwX9_init_5 {p z : Nat} {h : aHp} {y : aSh} (hs0 : (wX9_init_4 p h).1[z]? = some y) : (wX9_init_5 p h).1[z]? = some y := aNew_get hs0
theorem GX9_init_z0_5 {p : Nat} {h : aHp} (hs : h.1[p]? = some (.inr 9)) : (wX9_init_5 p h).1[p]? = some (.inr 9) := gwX9_init_5 (GX9_init_z0_4 hs)
theorem GX9_init_z3_5 {p : Nat} {h : aHp} (hs : h.1[p]? = some (.inr 9)) : (wX9_init_5 p h).1[(h.1.length + 2)]? = some (.inr 4) := last_step (lwX9_init_4 p h)
def wX9_init_6 (p : Nat) (h : aHp) : aHp := wX4_init (h.1.length + 2) (wX9_init_5 p h)
theorem lwX9_init_6 (p : Nat) (h : aHp) : (wX9_init_6 p h).1.length = h.1.length + 5 := nat_w (c := 3) (lenX4_init (h.1.length + 2) (wX9_init_5 p h)) (lwX9_init_5 p h) rfl
theorem swX9_init_6 (p : Nat) (h : aHp) : aSn (wX9_init_6 p h).1 = aSn h.1 + 284 := nat_w (c := 12) (snX4_init (h.1.length + 2) (wX9_init_5 p h)) (swX9_init_5 p h) rfl
theorem gwX9_init_6 {p z : Nat} {h : aHp} {y : aSh} (hs0 : (wX9_init_5 p h).1[z]? = some y) : (wX9_init_6 p h).1[z]? = some y := getX4_init (p := (h.1.length + 2)) hs0
theorem GX9_init_z0_6 {p : Nat} {h : aHp} (hs : h.1[p]? = some (.inr 9)) : (wX9_init_6 p h).1[p]? = some (.inr 9) := gwX9_init_6 (GX9_init_z0_5 hs)
def wX9_init_7 (p : Nat) (h : aHp) : aHp := pR (wX9_init_6 p h) p 2 (some (100 + (h.1.length + 2)))
theorem lwX9_init_7 (p : Nat) (h : aHp) : (wX9_init_7 p h).1.length = h.1.length + 5 := (lwX9_init_6 p h)
theorem swX9_init_7 (p : Nat) (h : aHp) : aSn (wX9_init_7 p h).1 = aSn h.1 + 284 := (swX9_init_6 p h)
theorem gwX9_init_7 {p z : Nat} {h : aHp} {y : aSh} (hs0 : (wX9_init_6 p h).1[z]? = some y) : (wX9_init_7 p h).1[z]? = some y := hs0
theorem GX9_init_z0_7 {p : Nat} {h : aHp} (hs : h.1[p]? = some (.inr 9)) : (wX9_init_7 p h).1[p]? = some (.inr 9) := gwX9_init_7 (GX9_init_z0_6 hs)
def wX9_init_8 (p : Nat) (h : aHp) : aHp := aNew (wX9_init_7 p h) (.inr 5)
theorem lwX9_init_8 (p : Nat) (h : aHp) : (wX9_init_8 p h).1.length = h.1.length + 6 := len_step (s := 5) (t := 6) (lwX9_init_7 p h) rfl
theorem swX9_init_8 (p : Nat) (h : aHp) : aSn (wX9_init_8 p h).1 = aSn h.1 + 286 := sn_step (s := 284) (z := 2) (t := 286) (swX9_init_7 p h) rfl rfl
theorem gwX9_init_8 {p z : Nat} {h : aHp} {y : aSh} (hs0 : (wX9_init_7 p h).1[z]? = some y) : (wX9_init_8 p h).1[z]? = some y := aNew_get hs0
theorem GX9_init_z0_8 {p : Nat} {h : aHp} (hs : h.1[p]? = some (.inr 9)) : (wX9_init_8 p h).1[p]? = some (.inr 9) := gwX9_init_8 (GX9_init_z0_7 hs)
theorem GX9_init_z4_8 {p : Nat} {h : aHp} (hs : h.1[p]? = some (.inr 9)) : (wX9_init_8 p h).1[(h.1.length + 5)]? = some (.inr 5) := last_step (lwX9_init_7 p h)
def wX9_init_9 (p : Nat) (h : aHp) : aHp := wX5_init (h.1.length + 5) (wX9_init_8 p h)
theorem lwX9_init_9 (p : Nat) (h : aHp) : (wX9_init_9 p h).1.length = h.1.length + 7 := nat_w (c := 6) (lenX5_init (h.1.length + 5) (wX9_init_8 p h)) (lwX9_init_8 p h) rfl
theorem swX9_init_9 (p : Nat) (h : aHp) : aSn (wX9_init_9 p h).1 = aSn h.1 + 334 := nat_w (c := 286) (snX5_init (h.1.length + 5) (wX9_init_8 p h)) (swX9_init_8 p h) rfl
theorem gwX9_init_9 {p z : Nat} {h : aHp} {y : aSh} (hs0 : (wX9_init_8 p h).1[z]? = some y) : (wX9_init_9 p h).1[z]? = some y := getX5_init (p := (h.1.length + 5)) hs0
theorem GX9_init_z0_9 {p : Nat} {h : aHp} (hs : h.1[p]? = some (.inr 9)) : (wX9_init_9 p h).1[p]? = some (.inr 9) := gwX9_init_9 (GX9_init_z0_8 hs)
def wX9_init_10 (p : Nat) (h : aHp) : aHp := pR (wX9_init_9 p h) p 3 (some (100 + (h.1.length + 5)))
theorem lwX9_init_10 (p : Nat) (h : aHp) : (wX9_init_10 p h).1.length = h.1.length + 7 := (lwX9_init_9 p h)
theorem swX9_init_10 (p : Nat) (h : aHp) : aSn (wX9_init_10 p h).1 = aSn h.1 + 334 := (swX9_init_9 p h)
theorem gwX9_init_10 {p z : Nat} {h : aHp} {y : aSh} (hs0 : (wX9_init_9 p h).1[z]? = some y) : (wX9_init_10 p h).1[z]? = some y := hs0
def wX9_init (p : Nat) (h : aHp) : aHp := (wX9_init_10 p h)
theorem lenX9_init (p : Nat) (h : aHp) : (wX9_init p h).1.length = h.1.length + 7 := lwX9_init_10 p h
theorem snX9_init (p : Nat) (h : aHp) : aSn (wX9_init p h).1 = aSn h.1 + 334 := swX9_init_10 p h
theorem getX9_init {p z : Nat} {h : aHp} {y : aSh} (hs0 : h.1[z]? = some y) : (wX9_init p h).1[z]? = some y := gwX9_init_10 (gwX9_init_9 (gwX9_init_8 (gwX9_init_7 (gwX9_init_6 (gwX9_init_5 (gwX9_init_4 (gwX9_init_3 (gwX9_init_2 (gwX9_init_1 (hs0))))))))))
theorem rvX9_init_1 {p z k : Nat} {h : aHp} (hz : z < h.1.length) (hne : z ≠ p) : (wX9_init_1 p h).2.2.2 z k = h.2.2.2 z k := (aNew_rv hz).trans (rfl)
theorem rvX9_init_2 {p z k : Nat} {h : aHp} (hz : z < h.1.length) (hne : z ≠ p) : (wX9_init_2 p h).2.2.2 z k = h.2.2.2 z k := (pR_rv (Or.inl hne)).trans (rvX9_init_1 hz hne)
theorem rvX9_init_3 {p z k : Nat} {h : aHp} (hz : z < h.1.length) (hne : z ≠ p) : (wX9_init_3 p h).2.2.2 z k = h.2.2.2 z k := (aNew_rv (by rw [lwX9_init_2]; exact lt_k hz)).trans (rvX9_init_2 hz hne)
theorem rvX9_init_4 {p z k : Nat} {h : aHp} (hz : z < h.1.length) (hne : z ≠ p) : (wX9_init_4 p h).2.2.2 z k = h.2.2.2 z k := (pR_rv (Or.inl hne)).trans (rvX9_init_3 hz hne)
theorem rvX9_init_5 {p z k : Nat} {h : aHp} (hz : z < h.1.length) (hne : z ≠ p) : (wX9_init_5 p h).2.2.2 z k = h.2.2.2 z k := (aNew_rv (by rw [lwX9_init_4]; exact lt_k hz)).trans (rvX9_init_4 hz hne)
theorem rvX9_init_6 {p z k : Nat} {h : aHp} (hz : z < h.1.length) (hne : z ≠ p) : (wX9_init_6 p h).2.2.2 z k = h.2.2.2 z k := (rvX4_init (by rw [lwX9_init_5]; exact lt_k hz) (by omega)).trans (rvX9_init_5 hz hne)
theorem rvX9_init_7 {p z k : Nat} {h : aHp} (hz : z < h.1.length) (hne : z ≠ p) : (wX9_init_7 p h).2.2.2 z k = h.2.2.2 z k := (pR_rv (Or.inl hne)).trans (rvX9_init_6 hz hne)
theorem rvX9_init_8 {p z k : Nat} {h : aHp} (hz : z < h.1.length) (hne : z ≠ p) : (wX9_init_8 p h).2.2.2 z k = h.2.2.2 z k := (aNew_rv (by rw [lwX9_init_7]; exact lt_k hz)).trans (rvX9_init_7 hz hne)
theorem rvX9_init_9 {p z k : Nat} {h : aHp} (hz : z < h.1.length) (hne : z ≠ p) : (wX9_init_9 p h).2.2.2 z k = h.2.2.2 z k := (rvX5_init (by rw [lwX9_init_8]; exact lt_k hz) (by omega)).trans (rvX9_init_8 hz hne)
theorem rvX9_init_10 {p z k : Nat} {h : aHp} (hz : z < h.1.length) (hne : z ≠ p) : (wX9_init_10 p h).2.2.2 z k = h.2.2.2 z k := (pR_rv (Or.inl hne)).trans (rvX9_init_9 hz hne)
theorem rvX9_init {p z k : Nat} {h : aHp} (hz : z < h.1.length) (hne : z ≠ p) : (wX9_init p h).2.2.2 z k = h.2.2.2 z k := rvX9_init_10 hz hne
section CK
variable {pg : Program} {l : Launch} {e : Env} {R : Room} {s : State} {m : MethodId} {args : Array Value} {below : List Frame} {meth : Method} {c : Code} {Q : State → Prop} {D : va_G} {cA : FieldType → ClassId} {A : Nat → Prop} {ad0 : Nat → Nat}
theorem ckX9_init_0 {p : Nat} {h : aHp} (hX : aX pg s m args c yX9_init.cls cX9_init 1 D cA A ad0) (hE : aE s) (hnm : meth.name = "<init>") (hs : h.1[p]? = some (.inr 9)) (hp : p < h.1.length) (hRf : 2 ≤ R.frames) (hRl : 64 * 2 ≤ R.locals) (hRf1 : 1 ≤ R.frames) (hRl1 : (([] : List Value).map (fun v => v.category)).sum + 12 ≤ R.locals) (hRc : 7 ≤ R.cells) (hRs : 334 ≤ R.slots) (hL : ∀ n, h.1.length ≤ n → ((aEnt [.ref (100 + p)] 1).all (fun o => match o with | some v => aBel (100 + n) v | none => true)) = true)
    (kk : aJ pg l e R s m args below meth c Q D cA A ad0 1 h.1.length (aSn h.1) 28 (aEnt [.ref (100 + p)] 1) [.ref (100 + (h.1.length + 2)), .ref (100 + p)] (wX9_init_6 p h)) : aJ pg l e R s m args below meth c Q D cA A ad0 1 h.1.length (aSn h.1) 0 (aEnt [.ref (100 + p)] 1) [] h := by
  refine j_aload_n hX dX9_init_0 rfl ?_
  refine jpc (b := 1) rfl ?_
  refine j_obj hX lk_X9_3 dX9_init_1 ⟨hRf1, hRl1⟩ ?_
  refine jpc (b := 4) rfl ?_
  refine j_aload_n hX dX9_init_4 rfl ?_
  refine jpc (b := 5) rfl ?_
  refine j_iconst hX dX9_init_5 ic_4 ?_
  refine jpc (b := 6) rfl ?_
  refine j_newqN (C := "WokenBorder$Law") (t0 := 4) (n := 4) (n0 := h.1.length) hX dX9_init_6 (fun _ => rfl) wCl_RX9_11 hE.1 (by decide) (by decide) (by decide) rfl (b_cons (b_ref hp) b_nil) (hL _ (Nat.le_refl _)) (rmC (Nat.add_zero _).symm hRc (by decide)) (rmS (Nat.add_zero (aSn h.1)).symm hRs (by decide)) (h' := wX9_init_1 p h) rfl ?_
  refine jpc (b := 9) rfl ?_
  refine j_putRFN (k := 0) hX kX9 (by decide) fk_X9_13 (putv (a := h.1.length) (k := 1) (lwX9_init_1 p h) (Nat.lt_add_of_pos_right (by decide))) dX9_init_9 (GX9_init_z0_1 hs) rfl rfl hnm rfl (h' := wX9_init_2 p h) rfl ?_
  refine jpc (b := 12) rfl ?_
  refine j_aload_n hX dX9_init_12 rfl ?_
  refine jpc (b := 13) rfl ?_
  refine j_iconst hX dX9_init_13 ic_4 ?_
  refine jpc (b := 14) rfl ?_
  refine j_newqN (C := "WokenBorder$Lines") (t0 := 5) (n := 4) (n0 := (h.1.length + 1)) hX dX9_init_14 (fun _ => rfl) wCl_RX9_17 hE.2 (by decide) (by decide) (by decide) (lwX9_init_2 p h) (b_cons (b_ref (lt_k hp)) b_nil) (hL _ (Nat.le_add_right _ _)) (rmC rfl hRc (by decide)) (rmS (swX9_init_2 p h) hRs (by decide)) (h' := wX9_init_3 p h) rfl ?_
  refine jpc (b := 17) rfl ?_
  refine j_putRFN (k := 1) hX kX9 (by decide) fk_X9_19 (putv (a := h.1.length) (k := 2) (lwX9_init_3 p h) (lt_j (by decide))) dX9_init_17 (GX9_init_z0_3 hs) rfl rfl hnm rfl (h' := wX9_init_4 p h) rfl ?_
  refine jpc (b := 20) rfl ?_
  refine j_aload_n hX dX9_init_20 rfl ?_
  refine jpc (b := 21) rfl ?_
  refine j_newN (N := 4) (n0 := (h.1.length + 2)) hX kX4 dX9_init_21 wCl_RX9_11 wIn_RX4 wIni_RX4 nf_RX4 (lwX9_init_4 p h) (b_cons (b_ref (lt_k hp)) b_nil) (hL _ (Nat.le_add_right _ _)) (rmC rfl hRc (by decide)) (rmS (swX9_init_4 p h) hRs (by decide)) (h' := wX9_init_5 p h) rfl ?_
  refine jpc (b := 24) rfl ?_
  refine j_dup hX dX9_init_24 rfl ?_
  refine jpc (b := 25) rfl ?_
  refine j_callINM (as := []) (q := (h.1.length + 2)) (n0 := (h.1.length + 3)) hX lk_X9_23 dX9_init_25 (okX4_init (GX9_init_z3_5 hs)) rfl (rmm (by decide) hRf hRl (by decide)) (Nat.le_of_ble_eq_true rfl) (rmW (lenX4_init (h.1.length + 2) (wX9_init_5 p h)) (lwX9_init_5 p h) hRc (by decide)) (rmW (snX4_init (h.1.length + 2) (wX9_init_5 p h)) (swX9_init_5 p h) hRs (by decide)) (lwX9_init_5 p h) (b_cons (b_ref (lt_j (by decide))) (b_cons (b_ref (lt_k hp)) b_nil)) (hL _ (Nat.le_add_right _ _)) (h' := wX9_init_6 p h) rfl ?_
  exact kk
end CK
section CK
variable {pg : Program} {l : Launch} {e : Env} {R : Room} {s : State} {m : MethodId} {args : Array Value} {below : List Frame} {meth : Method} {c : Code} {Q : State → Prop} {D : va_G} {cA : FieldType → ClassId} {A : Nat → Prop} {ad0 : Nat → Nat}
theorem ckX9_init_28 {p : Nat} {h : aHp} (hX : aX pg s m args c yX9_init.cls cX9_init 1 D cA A ad0) (hE : aE s) (hnm : meth.name = "<init>") (hs : h.1[p]? = some (.inr 9)) (hp : p < h.1.length) (hRf : 2 ≤ R.frames) (hRl : 64 * 2 ≤ R.locals) (hRf1 : 1 ≤ R.frames) (hRl1 : (([] : List Value).map (fun v => v.category)).sum + 12 ≤ R.locals) (hRc : 7 ≤ R.cells) (hRs : 334 ≤ R.slots) (hL : ∀ n, h.1.length ≤ n → ((aEnt [.ref (100 + p)] 1).all (fun o => match o with | some v => aBel (100 + n) v | none => true)) = true)
    (kk : aJ pg l e R s m args below meth c Q D cA A ad0 1 h.1.length (aSn h.1) 42 (aEnt [.ref (100 + p)] 1) [] (wX9_init_10 p h)) : aJ pg l e R s m args below meth c Q D cA A ad0 1 h.1.length (aSn h.1) 28 (aEnt [.ref (100 + p)] 1) [.ref (100 + (h.1.length + 2)), .ref (100 + p)] (wX9_init_6 p h) := by
  refine j_putRN (k := 2) hX kX9 (by decide) fk_X9_24 (putv (a := h.1.length) (k := 5) (lwX9_init_6 p h) (lt_j (by decide))) dX9_init_28 (GX9_init_z0_6 hs) rfl rfl (h' := wX9_init_7 p h) rfl ?_
  refine jpc (b := 31) rfl ?_
  refine j_aload_n hX dX9_init_31 rfl ?_
  refine jpc (b := 32) rfl ?_
  refine j_newN (N := 2) (n0 := (h.1.length + 5)) hX kX5 dX9_init_32 wCl_RX9_17 wIn_RX5 wIni_RX5 nf_RX5 (lwX9_init_7 p h) (b_cons (b_ref (lt_k hp)) b_nil) (hL _ (Nat.le_add_right _ _)) (rmC rfl hRc (by decide)) (rmS (swX9_init_7 p h) hRs (by decide)) (h' := wX9_init_8 p h) rfl ?_
  refine jpc (b := 35) rfl ?_
  refine j_dup hX dX9_init_35 rfl ?_
  refine jpc (b := 36) rfl ?_
  refine j_callINM (as := []) (q := (h.1.length + 5)) (n0 := (h.1.length + 6)) hX lk_X9_28 dX9_init_36 (okX5_init (GX9_init_z4_8 hs)) rfl (rmm (by decide) hRf hRl (by decide)) (Nat.le_of_ble_eq_true rfl) (rmW (lenX5_init (h.1.length + 5) (wX9_init_8 p h)) (lwX9_init_8 p h) hRc (by decide)) (rmW (snX5_init (h.1.length + 5) (wX9_init_8 p h)) (swX9_init_8 p h) hRs (by decide)) (lwX9_init_8 p h) (b_cons (b_ref (lt_j (by decide))) (b_cons (b_ref (lt_k hp)) b_nil)) (hL _ (Nat.le_add_right _ _)) (h' := wX9_init_9 p h) rfl ?_
  refine jpc (b := 39) rfl ?_
  refine j_putRN (k := 3) hX kX9 (by decide) fk_X9_29 (putv (a := h.1.length) (k := 7) (lwX9_init_9 p h) (lt_j (by decide))) dX9_init_39 (GX9_init_z0_9 hs) rfl rfl (h' := wX9_init_10 p h) rfl ?_
  exact kk
end CK
theorem okX9_init {l : Launch} {p : Nat} {h : aHp} (hs : h.1[p]? = some (.inr 9)) : aMx l yX9_init cX9_init 1 none 2 [.ref (100 + p)] h none (wX9_init p h) := by
  have hp := aLt hs
  have hL : ∀ n, h.1.length ≤ n → ((aEnt [.ref (100 + p)] 1).all (fun o => match o with | some v => aBel (100 + n) v | none => true)) = true := by
    intro n hn
    simp [aBel, aEnt, aEn, Value.category]
    omega
  refine aMx_of (by decide) (Nat.le_of_ble_eq_true rfl) (by rw [lenX9_init]; omega) (by rw [snX9_init]; omega) (fun p_ e s m args below meth c D cA A ad0 hX hE hr hlk hnm => ?_)
  generalize hRe : (Room.mk 2 ((wX9_init p h).1.length - h.1.length) (aSn (wX9_init p h).1 - aSn h.1) (64 * 2)) = R
  have hRf : 2 ≤ R.frames := by rw [← hRe]; exact Nat.le_refl _
  have hRl : 64 * 2 ≤ R.locals := by rw [← hRe]; exact Nat.le_refl _
  have hRf1 : 1 ≤ R.frames := Nat.le_trans (by decide) hRf
  have hRl1 : (([] : List Value).map (fun v => v.category)).sum + 12 ≤ R.locals := Nat.le_trans (by decide) hRl
  have hRc : 7 ≤ R.cells := by rw [← hRe]; show 7 ≤ _ - _; rw [lenX9_init]; omega
  have hRs : 334 ≤ R.slots := by rw [← hRe]; show 334 ≤ _ - _; rw [snX9_init]; omega
  refine ckX9_init_0 hX hE hnm hs hp hRf hRl hRf1 hRl1 hRc hRs hL ?_
  refine ckX9_init_28 hX hE hnm hs hp hRf hRl hRf1 hRl1 hRc hRs hL ?_
  exact j_vret hX hr hlk dX9_init_42
def wX1_init_1 (p : Nat) (h : aHp) : aHp := aNew h (.inl (.int, 4))
theorem lwX1_init_1 (p : Nat) (h : aHp) : (wX1_init_1 p h).1.length = h.1.length + 1 := len_step (s := 0) (t := 1) (Nat.add_zero h.1.length).symm rfl
theorem swX1_init_1 (p : Nat) (h : aHp) : aSn (wX1_init_1 p h).1 = aSn h.1 + 4 := sn_step (s := 0) (z := 4) (t := 4) (Nat.add_zero (aSn h.1)).symm rfl rfl
theorem gwX1_init_1 {p z : Nat} {h : aHp} {y : aSh} (hs0 : h.1[z]? = some y) : (wX1_init_1 p h).1[z]? = some y := aNew_get hs0
theorem GX1_init_z0_1 {p : Nat} {h : aHp} (hs : h.1[p]? = some (.inr 1)) : (wX1_init_1 p h).1[p]? = some (.inr 1) := gwX1_init_1 hs
def wX1_init_2 (p : Nat) (h : aHp) : aHp := pR (wX1_init_1 p h) p 0 (some (100 + h.1.length))
theorem lwX1_init_2 (p : Nat) (h : aHp) : (wX1_init_2 p h).1.length = h.1.length + 1 := (lwX1_init_1 p h)
theorem swX1_init_2 (p : Nat) (h : aHp) : aSn (wX1_init_2 p h).1 = aSn h.1 + 4 := (swX1_init_1 p h)
theorem gwX1_init_2 {p z : Nat} {h : aHp} {y : aSh} (hs0 : (wX1_init_1 p h).1[z]? = some y) : (wX1_init_2 p h).1[z]? = some y := hs0
theorem GX1_init_z0_2 {p : Nat} {h : aHp} (hs : h.1[p]? = some (.inr 1)) : (wX1_init_2 p h).1[p]? = some (.inr 1) := gwX1_init_2 (GX1_init_z0_1 hs)
def wX1_init_3 (p : Nat) (h : aHp) : aHp := aNew (wX1_init_2 p h) (.inl (.int, 54))
theorem lwX1_init_3 (p : Nat) (h : aHp) : (wX1_init_3 p h).1.length = h.1.length + 2 := len_step (s := 1) (t := 2) (lwX1_init_2 p h) rfl
theorem swX1_init_3 (p : Nat) (h : aHp) : aSn (wX1_init_3 p h).1 = aSn h.1 + 58 := sn_step (s := 4) (z := 54) (t := 58) (swX1_init_2 p h) rfl rfl
theorem gwX1_init_3 {p z : Nat} {h : aHp} {y : aSh} (hs0 : (wX1_init_2 p h).1[z]? = some y) : (wX1_init_3 p h).1[z]? = some y := aNew_get hs0
theorem GX1_init_z0_3 {p : Nat} {h : aHp} (hs : h.1[p]? = some (.inr 1)) : (wX1_init_3 p h).1[p]? = some (.inr 1) := gwX1_init_3 (GX1_init_z0_2 hs)
def wX1_init_4 (p : Nat) (h : aHp) : aHp := pR (wX1_init_3 p h) p 1 (some (100 + (h.1.length + 1)))
theorem lwX1_init_4 (p : Nat) (h : aHp) : (wX1_init_4 p h).1.length = h.1.length + 2 := (lwX1_init_3 p h)
theorem swX1_init_4 (p : Nat) (h : aHp) : aSn (wX1_init_4 p h).1 = aSn h.1 + 58 := (swX1_init_3 p h)
theorem gwX1_init_4 {p z : Nat} {h : aHp} {y : aSh} (hs0 : (wX1_init_3 p h).1[z]? = some y) : (wX1_init_4 p h).1[z]? = some y := hs0
theorem GX1_init_z0_4 {p : Nat} {h : aHp} (hs : h.1[p]? = some (.inr 1)) : (wX1_init_4 p h).1[p]? = some (.inr 1) := gwX1_init_4 (GX1_init_z0_3 hs)
def wX1_init_5 (p : Nat) (h : aHp) : aHp := aNew (wX1_init_4 p h) (.inl (.int, 16))
theorem lwX1_init_5 (p : Nat) (h : aHp) : (wX1_init_5 p h).1.length = h.1.length + 3 := len_step (s := 2) (t := 3) (lwX1_init_4 p h) rfl
theorem swX1_init_5 (p : Nat) (h : aHp) : aSn (wX1_init_5 p h).1 = aSn h.1 + 74 := sn_step (s := 58) (z := 16) (t := 74) (swX1_init_4 p h) rfl rfl
theorem gwX1_init_5 {p z : Nat} {h : aHp} {y : aSh} (hs0 : (wX1_init_4 p h).1[z]? = some y) : (wX1_init_5 p h).1[z]? = some y := aNew_get hs0
theorem GX1_init_z0_5 {p : Nat} {h : aHp} (hs : h.1[p]? = some (.inr 1)) : (wX1_init_5 p h).1[p]? = some (.inr 1) := gwX1_init_5 (GX1_init_z0_4 hs)
def wX1_init_6 (p : Nat) (h : aHp) : aHp := pR (wX1_init_5 p h) p 2 (some (100 + (h.1.length + 2)))
theorem lwX1_init_6 (p : Nat) (h : aHp) : (wX1_init_6 p h).1.length = h.1.length + 3 := (lwX1_init_5 p h)
theorem swX1_init_6 (p : Nat) (h : aHp) : aSn (wX1_init_6 p h).1 = aSn h.1 + 74 := (swX1_init_5 p h)
theorem gwX1_init_6 {p z : Nat} {h : aHp} {y : aSh} (hs0 : (wX1_init_5 p h).1[z]? = some y) : (wX1_init_6 p h).1[z]? = some y := hs0
def wX1_init (p : Nat) (h : aHp) : aHp := (wX1_init_6 p h)
theorem lenX1_init (p : Nat) (h : aHp) : (wX1_init p h).1.length = h.1.length + 3 := lwX1_init_6 p h
theorem snX1_init (p : Nat) (h : aHp) : aSn (wX1_init p h).1 = aSn h.1 + 74 := swX1_init_6 p h
theorem getX1_init {p z : Nat} {h : aHp} {y : aSh} (hs0 : h.1[z]? = some y) : (wX1_init p h).1[z]? = some y := gwX1_init_6 (gwX1_init_5 (gwX1_init_4 (gwX1_init_3 (gwX1_init_2 (gwX1_init_1 (hs0))))))
theorem rvX1_init_1 {p z k : Nat} {h : aHp} (hz : z < h.1.length) (hne : z ≠ p) : (wX1_init_1 p h).2.2.2 z k = h.2.2.2 z k := (aNew_rv hz).trans (rfl)
theorem rvX1_init_2 {p z k : Nat} {h : aHp} (hz : z < h.1.length) (hne : z ≠ p) : (wX1_init_2 p h).2.2.2 z k = h.2.2.2 z k := (pR_rv (Or.inl hne)).trans (rvX1_init_1 hz hne)
theorem rvX1_init_3 {p z k : Nat} {h : aHp} (hz : z < h.1.length) (hne : z ≠ p) : (wX1_init_3 p h).2.2.2 z k = h.2.2.2 z k := (aNew_rv (by rw [lwX1_init_2]; exact lt_k hz)).trans (rvX1_init_2 hz hne)
theorem rvX1_init_4 {p z k : Nat} {h : aHp} (hz : z < h.1.length) (hne : z ≠ p) : (wX1_init_4 p h).2.2.2 z k = h.2.2.2 z k := (pR_rv (Or.inl hne)).trans (rvX1_init_3 hz hne)
theorem rvX1_init_5 {p z k : Nat} {h : aHp} (hz : z < h.1.length) (hne : z ≠ p) : (wX1_init_5 p h).2.2.2 z k = h.2.2.2 z k := (aNew_rv (by rw [lwX1_init_4]; exact lt_k hz)).trans (rvX1_init_4 hz hne)
theorem rvX1_init_6 {p z k : Nat} {h : aHp} (hz : z < h.1.length) (hne : z ≠ p) : (wX1_init_6 p h).2.2.2 z k = h.2.2.2 z k := (pR_rv (Or.inl hne)).trans (rvX1_init_5 hz hne)
theorem rvX1_init {p z k : Nat} {h : aHp} (hz : z < h.1.length) (hne : z ≠ p) : (wX1_init p h).2.2.2 z k = h.2.2.2 z k := rvX1_init_6 hz hne
section CK
variable {pg : Program} {l : Launch} {e : Env} {R : Room} {s : State} {m : MethodId} {args : Array Value} {below : List Frame} {meth : Method} {c : Code} {Q : State → Prop} {D : va_G} {cA : FieldType → ClassId} {A : Nat → Prop} {ad0 : Nat → Nat}
theorem ckX1_init_0 {p : Nat} {h : aHp} (hX : aX pg s m args c yX1_init.cls cX1_init 1 D cA A ad0) (hnm : meth.name = "<init>") (hs : h.1[p]? = some (.inr 1)) (hp : p < h.1.length) (hRf : 1 ≤ R.frames) (hRl : 64 * 1 ≤ R.locals) (hRf1 : 1 ≤ R.frames) (hRl1 : (([] : List Value).map (fun v => v.category)).sum + 12 ≤ R.locals) (hRc : 3 ≤ R.cells) (hRs : 74 ≤ R.slots) (hL : ∀ n, h.1.length ≤ n → ((aEnt [.ref (100 + p)] 1).all (fun o => match o with | some v => aBel (100 + n) v | none => true)) = true)
    (kk : aJ pg l e R s m args below meth c Q D cA A ad0 1 h.1.length (aSn h.1) 27 (aEnt [.ref (100 + p)] 1) [] (wX1_init_6 p h)) : aJ pg l e R s m args below meth c Q D cA A ad0 1 h.1.length (aSn h.1) 0 (aEnt [.ref (100 + p)] 1) [] h := by
  refine j_aload_n hX dX1_init_0 rfl ?_
  refine jpc (b := 1) rfl ?_
  refine j_obj hX lk_X1_3 dX1_init_1 ⟨hRf1, hRl1⟩ ?_
  refine jpc (b := 4) rfl ?_
  refine j_aload_n hX dX1_init_4 rfl ?_
  refine jpc (b := 5) rfl ?_
  refine j_iconst hX dX1_init_5 ic_4 ?_
  refine jpc (b := 6) rfl ?_
  refine j_newaN (ty := .int) (t0 := 0) (n := 4) (n0 := h.1.length) hX dX1_init_6 rfl (fun _ => rfl) wAr_int (fun _ => rfl) (by decide) (by decide) (by decide) rfl (b_cons (b_ref hp) b_nil) (hL _ (Nat.le_refl _)) (rmC (Nat.add_zero _).symm hRc (by decide)) (rmS (Nat.add_zero (aSn h.1)).symm hRs (by decide)) (h' := wX1_init_1 p h) rfl ?_
  refine jpc (b := 8) rfl ?_
  refine j_putRFN (k := 0) hX kX1 (by decide) fk_X1_11 (putv (a := h.1.length) (k := 1) (lwX1_init_1 p h) (Nat.lt_add_of_pos_right (by decide))) dX1_init_8 (GX1_init_z0_1 hs) rfl rfl hnm rfl (h' := wX1_init_2 p h) rfl ?_
  refine jpc (b := 11) rfl ?_
  refine j_aload_n hX dX1_init_11 rfl ?_
  refine jpc (b := 12) rfl ?_
  refine j_bipush hX dX1_init_12 bp_54 ?_
  refine jpc (b := 14) rfl ?_
  refine j_newaN (ty := .int) (t0 := 0) (n := 54) (n0 := (h.1.length + 1)) hX dX1_init_14 rfl (fun _ => rfl) wAr_int (fun _ => rfl) (by decide) (by decide) (by decide) (lwX1_init_2 p h) (b_cons (b_ref (lt_k hp)) b_nil) (hL _ (Nat.le_add_right _ _)) (rmC rfl hRc (by decide)) (rmS (swX1_init_2 p h) hRs (by decide)) (h' := wX1_init_3 p h) rfl ?_
  refine jpc (b := 16) rfl ?_
  refine j_putRFN (k := 1) hX kX1 (by decide) fk_X1_15 (putv (a := h.1.length) (k := 2) (lwX1_init_3 p h) (lt_j (by decide))) dX1_init_16 (GX1_init_z0_3 hs) rfl rfl hnm rfl (h' := wX1_init_4 p h) rfl ?_
  refine jpc (b := 19) rfl ?_
  refine j_aload_n hX dX1_init_19 rfl ?_
  refine jpc (b := 20) rfl ?_
  refine j_bipush hX dX1_init_20 bp_16 ?_
  refine jpc (b := 22) rfl ?_
  refine j_newaN (ty := .int) (t0 := 0) (n := 16) (n0 := (h.1.length + 2)) hX dX1_init_22 rfl (fun _ => rfl) wAr_int (fun _ => rfl) (by decide) (by decide) (by decide) (lwX1_init_4 p h) (b_cons (b_ref (lt_k hp)) b_nil) (hL _ (Nat.le_add_right _ _)) (rmC rfl hRc (by decide)) (rmS (swX1_init_4 p h) hRs (by decide)) (h' := wX1_init_5 p h) rfl ?_
  refine jpc (b := 24) rfl ?_
  refine j_putRFN (k := 2) hX kX1 (by decide) fk_X1_18 (putv (a := h.1.length) (k := 3) (lwX1_init_5 p h) (lt_j (by decide))) dX1_init_24 (GX1_init_z0_5 hs) rfl rfl hnm rfl (h' := wX1_init_6 p h) rfl ?_
  exact kk
end CK
theorem okX1_init {l : Launch} {p : Nat} {h : aHp} (hs : h.1[p]? = some (.inr 1)) : aM l yX1_init cX1_init 1 none 1 [.ref (100 + p)] h none (wX1_init p h) := by
  have hp := aLt hs
  have hL : ∀ n, h.1.length ≤ n → ((aEnt [.ref (100 + p)] 1).all (fun o => match o with | some v => aBel (100 + n) v | none => true)) = true := by
    intro n hn
    simp [aBel, aEnt, aEn, Value.category]
    omega
  refine aM_of (by decide) (Nat.le_of_ble_eq_true rfl) (by rw [lenX1_init]; omega) (by rw [snX1_init]; omega) (fun p_ e s m args below meth c D cA A ad0 hX hr hlk hnm => ?_)
  generalize hRe : (Room.mk 1 ((wX1_init p h).1.length - h.1.length) (aSn (wX1_init p h).1 - aSn h.1) (64 * 1)) = R
  have hRf : 1 ≤ R.frames := by rw [← hRe]; exact Nat.le_refl _
  have hRl : 64 * 1 ≤ R.locals := by rw [← hRe]; exact Nat.le_refl _
  have hRf1 : 1 ≤ R.frames := Nat.le_trans (by decide) hRf
  have hRl1 : (([] : List Value).map (fun v => v.category)).sum + 12 ≤ R.locals := Nat.le_trans (by decide) hRl
  have hRc : 3 ≤ R.cells := by rw [← hRe]; show 3 ≤ _ - _; rw [lenX1_init]; omega
  have hRs : 74 ≤ R.slots := by rw [← hRe]; show 74 ≤ _ - _; rw [snX1_init]; omega
  refine ckX1_init_0 hX hnm hs hp hRf hRl hRf1 hRl1 hRc hRs hL ?_
  exact j_vret hX hr hlk dX1_init_27
def wX8_init_1 (p : Nat) (h : aHp) : aHp := aNew h (.inl (.int, 56))
theorem lwX8_init_1 (p : Nat) (h : aHp) : (wX8_init_1 p h).1.length = h.1.length + 1 := len_step (s := 0) (t := 1) (Nat.add_zero h.1.length).symm rfl
theorem swX8_init_1 (p : Nat) (h : aHp) : aSn (wX8_init_1 p h).1 = aSn h.1 + 56 := sn_step (s := 0) (z := 56) (t := 56) (Nat.add_zero (aSn h.1)).symm rfl rfl
theorem gwX8_init_1 {p z : Nat} {h : aHp} {y : aSh} (hs0 : h.1[z]? = some y) : (wX8_init_1 p h).1[z]? = some y := aNew_get hs0
theorem GX8_init_z0_1 {p : Nat} {h : aHp} (hs : h.1[p]? = some (.inr 8)) : (wX8_init_1 p h).1[p]? = some (.inr 8) := gwX8_init_1 hs
def wX8_init_2 (p : Nat) (h : aHp) : aHp := pR (wX8_init_1 p h) p 0 (some (100 + h.1.length))
theorem lwX8_init_2 (p : Nat) (h : aHp) : (wX8_init_2 p h).1.length = h.1.length + 1 := (lwX8_init_1 p h)
theorem swX8_init_2 (p : Nat) (h : aHp) : aSn (wX8_init_2 p h).1 = aSn h.1 + 56 := (swX8_init_1 p h)
theorem gwX8_init_2 {p z : Nat} {h : aHp} {y : aSh} (hs0 : (wX8_init_1 p h).1[z]? = some y) : (wX8_init_2 p h).1[z]? = some y := hs0
def wX8_init (p : Nat) (h : aHp) : aHp := (wX8_init_2 p h)
theorem lenX8_init (p : Nat) (h : aHp) : (wX8_init p h).1.length = h.1.length + 1 := lwX8_init_2 p h
theorem snX8_init (p : Nat) (h : aHp) : aSn (wX8_init p h).1 = aSn h.1 + 56 := swX8_init_2 p h
theorem getX8_init {p z : Nat} {h : aHp} {y : aSh} (hs0 : h.1[z]? = some y) : (wX8_init p h).1[z]? = some y := gwX8_init_2 (gwX8_init_1 (hs0))
theorem rvX8_init_1 {p z k : Nat} {h : aHp} (hz : z < h.1.length) (hne : z ≠ p) : (wX8_init_1 p h).2.2.2 z k = h.2.2.2 z k := (aNew_rv hz).trans (rfl)
theorem rvX8_init_2 {p z k : Nat} {h : aHp} (hz : z < h.1.length) (hne : z ≠ p) : (wX8_init_2 p h).2.2.2 z k = h.2.2.2 z k := (pR_rv (Or.inl hne)).trans (rvX8_init_1 hz hne)
theorem rvX8_init {p z k : Nat} {h : aHp} (hz : z < h.1.length) (hne : z ≠ p) : (wX8_init p h).2.2.2 z k = h.2.2.2 z k := rvX8_init_2 hz hne
section CK
variable {pg : Program} {l : Launch} {e : Env} {R : Room} {s : State} {m : MethodId} {args : Array Value} {below : List Frame} {meth : Method} {c : Code} {Q : State → Prop} {D : va_G} {cA : FieldType → ClassId} {A : Nat → Prop} {ad0 : Nat → Nat}
theorem ckX8_init_0 {p : Nat} {h : aHp} (hX : aX pg s m args c yX8_init.cls cX8_init 1 D cA A ad0) (hnm : meth.name = "<init>") (hs : h.1[p]? = some (.inr 8)) (hp : p < h.1.length) (hRf : 1 ≤ R.frames) (hRl : 64 * 1 ≤ R.locals) (hRf1 : 1 ≤ R.frames) (hRl1 : (([] : List Value).map (fun v => v.category)).sum + 12 ≤ R.locals) (hRc : 1 ≤ R.cells) (hRs : 56 ≤ R.slots) (hL : ∀ n, h.1.length ≤ n → ((aEnt [.ref (100 + p)] 1).all (fun o => match o with | some v => aBel (100 + n) v | none => true)) = true)
    (kk : aJ pg l e R s m args below meth c Q D cA A ad0 1 h.1.length (aSn h.1) 12 (aEnt [.ref (100 + p)] 1) [] (wX8_init_2 p h)) : aJ pg l e R s m args below meth c Q D cA A ad0 1 h.1.length (aSn h.1) 0 (aEnt [.ref (100 + p)] 1) [] h := by
  refine j_aload_n hX dX8_init_0 rfl ?_
  refine jpc (b := 1) rfl ?_
  refine j_obj hX lk_X8_3 dX8_init_1 ⟨hRf1, hRl1⟩ ?_
  refine jpc (b := 4) rfl ?_
  refine j_aload_n hX dX8_init_4 rfl ?_
  refine jpc (b := 5) rfl ?_
  refine j_bipush hX dX8_init_5 bp_56 ?_
  refine jpc (b := 7) rfl ?_
  refine j_newaN (ty := .int) (t0 := 0) (n := 56) (n0 := h.1.length) hX dX8_init_7 rfl (fun _ => rfl) wAr_int (fun _ => rfl) (by decide) (by decide) (by decide) rfl (b_cons (b_ref hp) b_nil) (hL _ (Nat.le_refl _)) (rmC (Nat.add_zero _).symm hRc (by decide)) (rmS (Nat.add_zero (aSn h.1)).symm hRs (by decide)) (h' := wX8_init_1 p h) rfl ?_
  refine jpc (b := 9) rfl ?_
  refine j_putRFN (k := 0) hX kX8 (by decide) fk_X8_11 (putv (a := h.1.length) (k := 1) (lwX8_init_1 p h) (Nat.lt_add_of_pos_right (by decide))) dX8_init_9 (GX8_init_z0_1 hs) rfl rfl hnm rfl (h' := wX8_init_2 p h) rfl ?_
  exact kk
end CK
theorem okX8_init {l : Launch} {p : Nat} {h : aHp} (hs : h.1[p]? = some (.inr 8)) : aM l yX8_init cX8_init 1 none 1 [.ref (100 + p)] h none (wX8_init p h) := by
  have hp := aLt hs
  have hL : ∀ n, h.1.length ≤ n → ((aEnt [.ref (100 + p)] 1).all (fun o => match o with | some v => aBel (100 + n) v | none => true)) = true := by
    intro n hn
    simp [aBel, aEnt, aEn, Value.category]
    omega
  refine aM_of (by decide) (Nat.le_of_ble_eq_true rfl) (by rw [lenX8_init]; omega) (by rw [snX8_init]; omega) (fun p_ e s m args below meth c D cA A ad0 hX hr hlk hnm => ?_)
  generalize hRe : (Room.mk 1 ((wX8_init p h).1.length - h.1.length) (aSn (wX8_init p h).1 - aSn h.1) (64 * 1)) = R
  have hRf : 1 ≤ R.frames := by rw [← hRe]; exact Nat.le_refl _
  have hRl : 64 * 1 ≤ R.locals := by rw [← hRe]; exact Nat.le_refl _
  have hRf1 : 1 ≤ R.frames := Nat.le_trans (by decide) hRf
  have hRl1 : (([] : List Value).map (fun v => v.category)).sum + 12 ≤ R.locals := Nat.le_trans (by decide) hRl
  have hRc : 1 ≤ R.cells := by rw [← hRe]; show 1 ≤ _ - _; rw [lenX8_init]; omega
  have hRs : 56 ≤ R.slots := by rw [← hRe]; show 56 ≤ _ - _; rw [snX8_init]; omega
  refine ckX8_init_0 hX hnm hs hp hRf hRl hRf1 hRl1 hRc hRs hL ?_
  exact j_vret hX hr hlk dX8_init_12
def wX3_init_1 (p q0 : Nat) (h : aHp) : aHp := aNew h (.inl (.int, 6))
theorem lwX3_init_1 (p q0 : Nat) (h : aHp) : (wX3_init_1 p q0 h).1.length = h.1.length + 1 := len_step (s := 0) (t := 1) (Nat.add_zero h.1.length).symm rfl
theorem swX3_init_1 (p q0 : Nat) (h : aHp) : aSn (wX3_init_1 p q0 h).1 = aSn h.1 + 6 := sn_step (s := 0) (z := 6) (t := 6) (Nat.add_zero (aSn h.1)).symm rfl rfl
theorem gwX3_init_1 {p q0 z : Nat} {h : aHp} {y : aSh} (hs0 : h.1[z]? = some y) : (wX3_init_1 p q0 h).1[z]? = some y := aNew_get hs0
theorem GX3_init_z0_1 {p q0 : Nat} {h : aHp} (hs : h.1[p]? = some (.inr 3)) (hq0 : h.1[q0]? = some (.inr 1)) : (wX3_init_1 p q0 h).1[p]? = some (.inr 3) := gwX3_init_1 hs
def wX3_init_2 (p q0 : Nat) (h : aHp) : aHp := pR (wX3_init_1 p q0 h) p 1 (some (100 + h.1.length))
theorem lwX3_init_2 (p q0 : Nat) (h : aHp) : (wX3_init_2 p q0 h).1.length = h.1.length + 1 := (lwX3_init_1 p q0 h)
theorem swX3_init_2 (p q0 : Nat) (h : aHp) : aSn (wX3_init_2 p q0 h).1 = aSn h.1 + 6 := (swX3_init_1 p q0 h)
theorem gwX3_init_2 {p q0 z : Nat} {h : aHp} {y : aSh} (hs0 : (wX3_init_1 p q0 h).1[z]? = some y) : (wX3_init_2 p q0 h).1[z]? = some y := hs0
theorem GX3_init_z0_2 {p q0 : Nat} {h : aHp} (hs : h.1[p]? = some (.inr 3)) (hq0 : h.1[q0]? = some (.inr 1)) : (wX3_init_2 p q0 h).1[p]? = some (.inr 3) := gwX3_init_2 (GX3_init_z0_1 hs hq0)
def wX3_init_3 (p q0 : Nat) (h : aHp) : aHp := pR (wX3_init_2 p q0 h) p 0 (some (100 + q0))
theorem lwX3_init_3 (p q0 : Nat) (h : aHp) : (wX3_init_3 p q0 h).1.length = h.1.length + 1 := (lwX3_init_2 p q0 h)
theorem swX3_init_3 (p q0 : Nat) (h : aHp) : aSn (wX3_init_3 p q0 h).1 = aSn h.1 + 6 := (swX3_init_2 p q0 h)
theorem gwX3_init_3 {p q0 z : Nat} {h : aHp} {y : aSh} (hs0 : (wX3_init_2 p q0 h).1[z]? = some y) : (wX3_init_3 p q0 h).1[z]? = some y := hs0
def wX3_init (p q0 : Nat) (h : aHp) : aHp := (wX3_init_3 p q0 h)
theorem lenX3_init (p q0 : Nat) (h : aHp) : (wX3_init p q0 h).1.length = h.1.length + 1 := lwX3_init_3 p q0 h
theorem snX3_init (p q0 : Nat) (h : aHp) : aSn (wX3_init p q0 h).1 = aSn h.1 + 6 := swX3_init_3 p q0 h
theorem getX3_init {p q0 z : Nat} {h : aHp} {y : aSh} (hs0 : h.1[z]? = some y) : (wX3_init p q0 h).1[z]? = some y := gwX3_init_3 (gwX3_init_2 (gwX3_init_1 (hs0)))
theorem rvX3_init_1 {p q0 z k : Nat} {h : aHp} (hz : z < h.1.length) (hne : z ≠ p) : (wX3_init_1 p q0 h).2.2.2 z k = h.2.2.2 z k := (aNew_rv hz).trans (rfl)
theorem rvX3_init_2 {p q0 z k : Nat} {h : aHp} (hz : z < h.1.length) (hne : z ≠ p) : (wX3_init_2 p q0 h).2.2.2 z k = h.2.2.2 z k := (pR_rv (Or.inl hne)).trans (rvX3_init_1 hz hne)
theorem rvX3_init_3 {p q0 z k : Nat} {h : aHp} (hz : z < h.1.length) (hne : z ≠ p) : (wX3_init_3 p q0 h).2.2.2 z k = h.2.2.2 z k := (pR_rv (Or.inl hne)).trans (rvX3_init_2 hz hne)
theorem rvX3_init {p q0 z k : Nat} {h : aHp} (hz : z < h.1.length) (hne : z ≠ p) : (wX3_init p q0 h).2.2.2 z k = h.2.2.2 z k := rvX3_init_3 hz hne
section CK
variable {pg : Program} {l : Launch} {e : Env} {R : Room} {s : State} {m : MethodId} {args : Array Value} {below : List Frame} {meth : Method} {c : Code} {Q : State → Prop} {D : va_G} {cA : FieldType → ClassId} {A : Nat → Prop} {ad0 : Nat → Nat}
theorem ckX3_init_0 {p q0 : Nat} {h : aHp} (hX : aX pg s m args c yX3_init.cls cX3_init 2 D cA A ad0) (hnm : meth.name = "<init>") (hs : h.1[p]? = some (.inr 3)) (hq0 : h.1[q0]? = some (.inr 1)) (hp : p < h.1.length) (hp0 : q0 < h.1.length) (hRf : 1 ≤ R.frames) (hRl : 64 * 1 ≤ R.locals) (hRf1 : 1 ≤ R.frames) (hRl1 : (([] : List Value).map (fun v => v.category)).sum + 12 ≤ R.locals) (hRc : 1 ≤ R.cells) (hRs : 6 ≤ R.slots) (hL : ∀ n, h.1.length ≤ n → ((aEnt [.ref (100 + p), .ref (100 + q0)] 2).all (fun o => match o with | some v => aBel (100 + n) v | none => true)) = true)
    (kk : aJ pg l e R s m args below meth c Q D cA A ad0 2 h.1.length (aSn h.1) 17 (aEnt [.ref (100 + p), .ref (100 + q0)] 2) [] (wX3_init_3 p q0 h)) : aJ pg l e R s m args below meth c Q D cA A ad0 2 h.1.length (aSn h.1) 0 (aEnt [.ref (100 + p), .ref (100 + q0)] 2) [] h := by
  refine j_aload_n hX dX3_init_0 rfl ?_
  refine jpc (b := 1) rfl ?_
  refine j_obj hX lk_X3_3 dX3_init_1 ⟨hRf1, hRl1⟩ ?_
  refine jpc (b := 4) rfl ?_
  refine j_aload_n hX dX3_init_4 rfl ?_
  refine jpc (b := 5) rfl ?_
  refine j_bipush hX dX3_init_5 bp_6 ?_
  refine jpc (b := 7) rfl ?_
  refine j_newaN (ty := .int) (t0 := 0) (n := 6) (n0 := h.1.length) hX dX3_init_7 rfl (fun _ => rfl) wAr_int (fun _ => rfl) (by decide) (by decide) (by decide) rfl (b_cons (b_ref hp) b_nil) (hL _ (Nat.le_refl _)) (rmC (Nat.add_zero _).symm hRc (by decide)) (rmS (Nat.add_zero (aSn h.1)).symm hRs (by decide)) (h' := wX3_init_1 p q0 h) rfl ?_
  refine jpc (b := 9) rfl ?_
  refine j_putRFN (k := 1) hX kX3 (by decide) fk_X3_11 (putv (a := h.1.length) (k := 1) (lwX3_init_1 p q0 h) (Nat.lt_add_of_pos_right (by decide))) dX3_init_9 (GX3_init_z0_1 hs hq0) rfl rfl hnm rfl (h' := wX3_init_2 p q0 h) rfl ?_
  refine jpc (b := 12) rfl ?_
  refine j_aload_n hX dX3_init_12 rfl ?_
  refine jpc (b := 13) rfl ?_
  refine j_aload_n hX dX3_init_13 rfl ?_
  refine jpc (b := 14) rfl ?_
  refine j_putRFN (k := 0) hX kX3 (by decide) fk_X3_17 (putv (a := h.1.length) (k := 1) (lwX3_init_2 p q0 h) (lt_k hp0)) dX3_init_14 (GX3_init_z0_2 hs hq0) rfl rfl hnm rfl (h' := wX3_init_3 p q0 h) rfl ?_
  exact kk
end CK
theorem okX3_init {l : Launch} {p q0 : Nat} {h : aHp} (hs : h.1[p]? = some (.inr 3)) (hq0 : h.1[q0]? = some (.inr 1)) : aM l yX3_init cX3_init 2 none 1 [.ref (100 + p), .ref (100 + q0)] h none (wX3_init p q0 h) := by
  have hp := aLt hs
  have hp0 := aLt hq0
  have hL : ∀ n, h.1.length ≤ n → ((aEnt [.ref (100 + p), .ref (100 + q0)] 2).all (fun o => match o with | some v => aBel (100 + n) v | none => true)) = true := by
    intro n hn
    simp [aBel, aEnt, aEn, Value.category]
    omega
  refine aM_of (by decide) (Nat.le_of_ble_eq_true rfl) (by rw [lenX3_init]; omega) (by rw [snX3_init]; omega) (fun p_ e s m args below meth c D cA A ad0 hX hr hlk hnm => ?_)
  generalize hRe : (Room.mk 1 ((wX3_init p q0 h).1.length - h.1.length) (aSn (wX3_init p q0 h).1 - aSn h.1) (64 * 1)) = R
  have hRf : 1 ≤ R.frames := by rw [← hRe]; exact Nat.le_refl _
  have hRl : 64 * 1 ≤ R.locals := by rw [← hRe]; exact Nat.le_refl _
  have hRf1 : 1 ≤ R.frames := Nat.le_trans (by decide) hRf
  have hRl1 : (([] : List Value).map (fun v => v.category)).sum + 12 ≤ R.locals := Nat.le_trans (by decide) hRl
  have hRc : 1 ≤ R.cells := by rw [← hRe]; show 1 ≤ _ - _; rw [lenX3_init]; omega
  have hRs : 6 ≤ R.slots := by rw [← hRe]; show 6 ≤ _ - _; rw [snX3_init]; omega
  refine ckX3_init_0 hX hnm hs hq0 hp hp0 hRf hRl hRf1 hRl1 hRc hRs hL ?_
  exact j_vret hX hr hlk dX3_init_17
def wX6_init_1 (p : Nat) (h : aHp) : aHp := aNew h (.inl (.int, 2296))
theorem lwX6_init_1 (p : Nat) (h : aHp) : (wX6_init_1 p h).1.length = h.1.length + 1 := len_step (s := 0) (t := 1) (Nat.add_zero h.1.length).symm rfl
theorem swX6_init_1 (p : Nat) (h : aHp) : aSn (wX6_init_1 p h).1 = aSn h.1 + 2296 := sn_step (s := 0) (z := 2296) (t := 2296) (Nat.add_zero (aSn h.1)).symm rfl rfl
theorem gwX6_init_1 {p z : Nat} {h : aHp} {y : aSh} (hs0 : h.1[z]? = some y) : (wX6_init_1 p h).1[z]? = some y := aNew_get hs0
theorem GX6_init_z0_1 {p : Nat} {h : aHp} (hs : h.1[p]? = some (.inr 6)) : (wX6_init_1 p h).1[p]? = some (.inr 6) := gwX6_init_1 hs
def wX6_init_2 (p : Nat) (h : aHp) : aHp := pR (wX6_init_1 p h) p 0 (some (100 + h.1.length))
theorem lwX6_init_2 (p : Nat) (h : aHp) : (wX6_init_2 p h).1.length = h.1.length + 1 := (lwX6_init_1 p h)
theorem swX6_init_2 (p : Nat) (h : aHp) : aSn (wX6_init_2 p h).1 = aSn h.1 + 2296 := (swX6_init_1 p h)
theorem gwX6_init_2 {p z : Nat} {h : aHp} {y : aSh} (hs0 : (wX6_init_1 p h).1[z]? = some y) : (wX6_init_2 p h).1[z]? = some y := hs0
theorem GX6_init_z0_2 {p : Nat} {h : aHp} (hs : h.1[p]? = some (.inr 6)) : (wX6_init_2 p h).1[p]? = some (.inr 6) := gwX6_init_2 (GX6_init_z0_1 hs)
def wX6_init_3 (p : Nat) (h : aHp) : aHp := aNew (wX6_init_2 p h) (.inl (.int, 400))
theorem lwX6_init_3 (p : Nat) (h : aHp) : (wX6_init_3 p h).1.length = h.1.length + 2 := len_step (s := 1) (t := 2) (lwX6_init_2 p h) rfl
theorem swX6_init_3 (p : Nat) (h : aHp) : aSn (wX6_init_3 p h).1 = aSn h.1 + 2696 := sn_step (s := 2296) (z := 400) (t := 2696) (swX6_init_2 p h) rfl rfl
theorem gwX6_init_3 {p z : Nat} {h : aHp} {y : aSh} (hs0 : (wX6_init_2 p h).1[z]? = some y) : (wX6_init_3 p h).1[z]? = some y := aNew_get hs0
theorem GX6_init_z0_3 {p : Nat} {h : aHp} (hs : h.1[p]? = some (.inr 6)) : (wX6_init_3 p h).1[p]? = some (.inr 6) := gwX6_init_3 (GX6_init_z0_2 hs)
def wX6_init_4 (p : Nat) (h : aHp) : aHp := pR (wX6_init_3 p h) p 1 (some (100 + (h.1.length + 1)))
theorem lwX6_init_4 (p : Nat) (h : aHp) : (wX6_init_4 p h).1.length = h.1.length + 2 := (lwX6_init_3 p h)
theorem swX6_init_4 (p : Nat) (h : aHp) : aSn (wX6_init_4 p h).1 = aSn h.1 + 2696 := (swX6_init_3 p h)
theorem gwX6_init_4 {p z : Nat} {h : aHp} {y : aSh} (hs0 : (wX6_init_3 p h).1[z]? = some y) : (wX6_init_4 p h).1[z]? = some y := hs0
theorem GX6_init_z0_4 {p : Nat} {h : aHp} (hs : h.1[p]? = some (.inr 6)) : (wX6_init_4 p h).1[p]? = some (.inr 6) := gwX6_init_4 (GX6_init_z0_3 hs)
def wX6_init_5 (p : Nat) (h : aHp) : aHp := aNew (wX6_init_4 p h) (.inl (.int, 56))
theorem lwX6_init_5 (p : Nat) (h : aHp) : (wX6_init_5 p h).1.length = h.1.length + 3 := len_step (s := 2) (t := 3) (lwX6_init_4 p h) rfl
theorem swX6_init_5 (p : Nat) (h : aHp) : aSn (wX6_init_5 p h).1 = aSn h.1 + 2752 := sn_step (s := 2696) (z := 56) (t := 2752) (swX6_init_4 p h) rfl rfl
theorem gwX6_init_5 {p z : Nat} {h : aHp} {y : aSh} (hs0 : (wX6_init_4 p h).1[z]? = some y) : (wX6_init_5 p h).1[z]? = some y := aNew_get hs0
theorem GX6_init_z0_5 {p : Nat} {h : aHp} (hs : h.1[p]? = some (.inr 6)) : (wX6_init_5 p h).1[p]? = some (.inr 6) := gwX6_init_5 (GX6_init_z0_4 hs)
def wX6_init_6 (p : Nat) (h : aHp) : aHp := pR (wX6_init_5 p h) p 2 (some (100 + (h.1.length + 2)))
theorem lwX6_init_6 (p : Nat) (h : aHp) : (wX6_init_6 p h).1.length = h.1.length + 3 := (lwX6_init_5 p h)
theorem swX6_init_6 (p : Nat) (h : aHp) : aSn (wX6_init_6 p h).1 = aSn h.1 + 2752 := (swX6_init_5 p h)
theorem gwX6_init_6 {p z : Nat} {h : aHp} {y : aSh} (hs0 : (wX6_init_5 p h).1[z]? = some y) : (wX6_init_6 p h).1[z]? = some y := hs0
theorem GX6_init_z0_6 {p : Nat} {h : aHp} (hs : h.1[p]? = some (.inr 6)) : (wX6_init_6 p h).1[p]? = some (.inr 6) := gwX6_init_6 (GX6_init_z0_5 hs)
def wX6_init_7 (p : Nat) (h : aHp) : aHp := aNew (wX6_init_6 p h) (.inl (.int, 400))
theorem lwX6_init_7 (p : Nat) (h : aHp) : (wX6_init_7 p h).1.length = h.1.length + 4 := len_step (s := 3) (t := 4) (lwX6_init_6 p h) rfl
theorem swX6_init_7 (p : Nat) (h : aHp) : aSn (wX6_init_7 p h).1 = aSn h.1 + 3152 := sn_step (s := 2752) (z := 400) (t := 3152) (swX6_init_6 p h) rfl rfl
theorem gwX6_init_7 {p z : Nat} {h : aHp} {y : aSh} (hs0 : (wX6_init_6 p h).1[z]? = some y) : (wX6_init_7 p h).1[z]? = some y := aNew_get hs0
theorem GX6_init_z0_7 {p : Nat} {h : aHp} (hs : h.1[p]? = some (.inr 6)) : (wX6_init_7 p h).1[p]? = some (.inr 6) := gwX6_init_7 (GX6_init_z0_6 hs)
def wX6_init_8 (p : Nat) (h : aHp) : aHp := pR (wX6_init_7 p h) p 3 (some (100 + (h.1.length + 3)))
theorem lwX6_init_8 (p : Nat) (h : aHp) : (wX6_init_8 p h).1.length = h.1.length + 4 := (lwX6_init_7 p h)
theorem swX6_init_8 (p : Nat) (h : aHp) : aSn (wX6_init_8 p h).1 = aSn h.1 + 3152 := (swX6_init_7 p h)
theorem gwX6_init_8 {p z : Nat} {h : aHp} {y : aSh} (hs0 : (wX6_init_7 p h).1[z]? = some y) : (wX6_init_8 p h).1[z]? = some y := hs0
def wX6_init (p : Nat) (h : aHp) : aHp := (wX6_init_8 p h)
theorem lenX6_init (p : Nat) (h : aHp) : (wX6_init p h).1.length = h.1.length + 4 := lwX6_init_8 p h
theorem snX6_init (p : Nat) (h : aHp) : aSn (wX6_init p h).1 = aSn h.1 + 3152 := swX6_init_8 p h
theorem getX6_init {p z : Nat} {h : aHp} {y : aSh} (hs0 : h.1[z]? = some y) : (wX6_init p h).1[z]? = some y := gwX6_init_8 (gwX6_init_7 (gwX6_init_6 (gwX6_init_5 (gwX6_init_4 (gwX6_init_3 (gwX6_init_2 (gwX6_init_1 (hs0))))))))
theorem rvX6_init_1 {p z k : Nat} {h : aHp} (hz : z < h.1.length) (hne : z ≠ p) : (wX6_init_1 p h).2.2.2 z k = h.2.2.2 z k := (aNew_rv hz).trans (rfl)
theorem rvX6_init_2 {p z k : Nat} {h : aHp} (hz : z < h.1.length) (hne : z ≠ p) : (wX6_init_2 p h).2.2.2 z k = h.2.2.2 z k := (pR_rv (Or.inl hne)).trans (rvX6_init_1 hz hne)
theorem rvX6_init_3 {p z k : Nat} {h : aHp} (hz : z < h.1.length) (hne : z ≠ p) : (wX6_init_3 p h).2.2.2 z k = h.2.2.2 z k := (aNew_rv (by rw [lwX6_init_2]; exact lt_k hz)).trans (rvX6_init_2 hz hne)
theorem rvX6_init_4 {p z k : Nat} {h : aHp} (hz : z < h.1.length) (hne : z ≠ p) : (wX6_init_4 p h).2.2.2 z k = h.2.2.2 z k := (pR_rv (Or.inl hne)).trans (rvX6_init_3 hz hne)
theorem rvX6_init_5 {p z k : Nat} {h : aHp} (hz : z < h.1.length) (hne : z ≠ p) : (wX6_init_5 p h).2.2.2 z k = h.2.2.2 z k := (aNew_rv (by rw [lwX6_init_4]; exact lt_k hz)).trans (rvX6_init_4 hz hne)
theorem rvX6_init_6 {p z k : Nat} {h : aHp} (hz : z < h.1.length) (hne : z ≠ p) : (wX6_init_6 p h).2.2.2 z k = h.2.2.2 z k := (pR_rv (Or.inl hne)).trans (rvX6_init_5 hz hne)
theorem rvX6_init_7 {p z k : Nat} {h : aHp} (hz : z < h.1.length) (hne : z ≠ p) : (wX6_init_7 p h).2.2.2 z k = h.2.2.2 z k := (aNew_rv (by rw [lwX6_init_6]; exact lt_k hz)).trans (rvX6_init_6 hz hne)
theorem rvX6_init_8 {p z k : Nat} {h : aHp} (hz : z < h.1.length) (hne : z ≠ p) : (wX6_init_8 p h).2.2.2 z k = h.2.2.2 z k := (pR_rv (Or.inl hne)).trans (rvX6_init_7 hz hne)
theorem rvX6_init {p z k : Nat} {h : aHp} (hz : z < h.1.length) (hne : z ≠ p) : (wX6_init p h).2.2.2 z k = h.2.2.2 z k := rvX6_init_8 hz hne
section CK
variable {pg : Program} {l : Launch} {e : Env} {R : Room} {s : State} {m : MethodId} {args : Array Value} {below : List Frame} {meth : Method} {c : Code} {Q : State → Prop} {D : va_G} {cA : FieldType → ClassId} {A : Nat → Prop} {ad0 : Nat → Nat}
theorem ckX6_init_0 {p : Nat} {h : aHp} (hX : aX pg s m args c yX6_init.cls cX6_init 1 D cA A ad0) (hnm : meth.name = "<init>") (hs : h.1[p]? = some (.inr 6)) (hp : p < h.1.length) (hRf : 1 ≤ R.frames) (hRl : 64 * 1 ≤ R.locals) (hRf1 : 1 ≤ R.frames) (hRl1 : (([] : List Value).map (fun v => v.category)).sum + 12 ≤ R.locals) (hRc : 4 ≤ R.cells) (hRs : 3152 ≤ R.slots) (hL : ∀ n, h.1.length ≤ n → ((aEnt [.ref (100 + p)] 1).all (fun o => match o with | some v => aBel (100 + n) v | none => true)) = true)
    (kk : aJ pg l e R s m args below meth c Q D cA A ad0 1 h.1.length (aSn h.1) 30 (aEnt [.ref (100 + p)] 1) [] (wX6_init_6 p h)) : aJ pg l e R s m args below meth c Q D cA A ad0 1 h.1.length (aSn h.1) 0 (aEnt [.ref (100 + p)] 1) [] h := by
  refine j_aload_n hX dX6_init_0 rfl ?_
  refine jpc (b := 1) rfl ?_
  refine j_obj hX lk_X6_3 dX6_init_1 ⟨hRf1, hRl1⟩ ?_
  refine jpc (b := 4) rfl ?_
  refine j_aload_n hX dX6_init_4 rfl ?_
  refine jpc (b := 5) rfl ?_
  refine j_sipush hX dX6_init_5 sp_2296 ?_
  refine jpc (b := 8) rfl ?_
  refine j_newaN (ty := .int) (t0 := 0) (n := 2296) (n0 := h.1.length) hX dX6_init_8 rfl (fun _ => rfl) wAr_int (fun _ => rfl) (by decide) (by decide) (by decide) rfl (b_cons (b_ref hp) b_nil) (hL _ (Nat.le_refl _)) (rmC (Nat.add_zero _).symm hRc (by decide)) (rmS (Nat.add_zero (aSn h.1)).symm hRs (by decide)) (h' := wX6_init_1 p h) rfl ?_
  refine jpc (b := 10) rfl ?_
  refine j_putRFN (k := 0) hX kX6 (by decide) fk_X6_11 (putv (a := h.1.length) (k := 1) (lwX6_init_1 p h) (Nat.lt_add_of_pos_right (by decide))) dX6_init_10 (GX6_init_z0_1 hs) rfl rfl hnm rfl (h' := wX6_init_2 p h) rfl ?_
  refine jpc (b := 13) rfl ?_
  refine j_aload_n hX dX6_init_13 rfl ?_
  refine jpc (b := 14) rfl ?_
  refine j_sipush hX dX6_init_14 sp_400 ?_
  refine jpc (b := 17) rfl ?_
  refine j_newaN (ty := .int) (t0 := 0) (n := 400) (n0 := (h.1.length + 1)) hX dX6_init_17 rfl (fun _ => rfl) wAr_int (fun _ => rfl) (by decide) (by decide) (by decide) (lwX6_init_2 p h) (b_cons (b_ref (lt_k hp)) b_nil) (hL _ (Nat.le_add_right _ _)) (rmC rfl hRc (by decide)) (rmS (swX6_init_2 p h) hRs (by decide)) (h' := wX6_init_3 p h) rfl ?_
  refine jpc (b := 19) rfl ?_
  refine j_putRFN (k := 1) hX kX6 (by decide) fk_X6_15 (putv (a := h.1.length) (k := 2) (lwX6_init_3 p h) (lt_j (by decide))) dX6_init_19 (GX6_init_z0_3 hs) rfl rfl hnm rfl (h' := wX6_init_4 p h) rfl ?_
  refine jpc (b := 22) rfl ?_
  refine j_aload_n hX dX6_init_22 rfl ?_
  refine jpc (b := 23) rfl ?_
  refine j_bipush hX dX6_init_23 bp_56 ?_
  refine jpc (b := 25) rfl ?_
  refine j_newaN (ty := .int) (t0 := 0) (n := 56) (n0 := (h.1.length + 2)) hX dX6_init_25 rfl (fun _ => rfl) wAr_int (fun _ => rfl) (by decide) (by decide) (by decide) (lwX6_init_4 p h) (b_cons (b_ref (lt_k hp)) b_nil) (hL _ (Nat.le_add_right _ _)) (rmC rfl hRc (by decide)) (rmS (swX6_init_4 p h) hRs (by decide)) (h' := wX6_init_5 p h) rfl ?_
  refine jpc (b := 27) rfl ?_
  refine j_putRFN (k := 2) hX kX6 (by decide) fk_X6_18 (putv (a := h.1.length) (k := 3) (lwX6_init_5 p h) (lt_j (by decide))) dX6_init_27 (GX6_init_z0_5 hs) rfl rfl hnm rfl (h' := wX6_init_6 p h) rfl ?_
  exact kk
end CK
section CK
variable {pg : Program} {l : Launch} {e : Env} {R : Room} {s : State} {m : MethodId} {args : Array Value} {below : List Frame} {meth : Method} {c : Code} {Q : State → Prop} {D : va_G} {cA : FieldType → ClassId} {A : Nat → Prop} {ad0 : Nat → Nat}
theorem ckX6_init_30 {p : Nat} {h : aHp} (hX : aX pg s m args c yX6_init.cls cX6_init 1 D cA A ad0) (hnm : meth.name = "<init>") (hs : h.1[p]? = some (.inr 6)) (hp : p < h.1.length) (hRf : 1 ≤ R.frames) (hRl : 64 * 1 ≤ R.locals) (hRf1 : 1 ≤ R.frames) (hRl1 : (([] : List Value).map (fun v => v.category)).sum + 12 ≤ R.locals) (hRc : 4 ≤ R.cells) (hRs : 3152 ≤ R.slots) (hL : ∀ n, h.1.length ≤ n → ((aEnt [.ref (100 + p)] 1).all (fun o => match o with | some v => aBel (100 + n) v | none => true)) = true)
    (kk : aJ pg l e R s m args below meth c Q D cA A ad0 1 h.1.length (aSn h.1) 39 (aEnt [.ref (100 + p)] 1) [] (wX6_init_8 p h)) : aJ pg l e R s m args below meth c Q D cA A ad0 1 h.1.length (aSn h.1) 30 (aEnt [.ref (100 + p)] 1) [] (wX6_init_6 p h) := by
  refine j_aload_n hX dX6_init_30 rfl ?_
  refine jpc (b := 31) rfl ?_
  refine j_sipush hX dX6_init_31 sp_400 ?_
  refine jpc (b := 34) rfl ?_
  refine j_newaN (ty := .int) (t0 := 0) (n := 400) (n0 := (h.1.length + 3)) hX dX6_init_34 rfl (fun _ => rfl) wAr_int (fun _ => rfl) (by decide) (by decide) (by decide) (lwX6_init_6 p h) (b_cons (b_ref (lt_k hp)) b_nil) (hL _ (Nat.le_add_right _ _)) (rmC rfl hRc (by decide)) (rmS (swX6_init_6 p h) hRs (by decide)) (h' := wX6_init_7 p h) rfl ?_
  refine jpc (b := 36) rfl ?_
  refine j_putRFN (k := 3) hX kX6 (by decide) fk_X6_21 (putv (a := h.1.length) (k := 4) (lwX6_init_7 p h) (lt_j (by decide))) dX6_init_36 (GX6_init_z0_7 hs) rfl rfl hnm rfl (h' := wX6_init_8 p h) rfl ?_
  exact kk
end CK
theorem okX6_init {l : Launch} {p : Nat} {h : aHp} (hs : h.1[p]? = some (.inr 6)) : aM l yX6_init cX6_init 1 none 1 [.ref (100 + p)] h none (wX6_init p h) := by
  have hp := aLt hs
  have hL : ∀ n, h.1.length ≤ n → ((aEnt [.ref (100 + p)] 1).all (fun o => match o with | some v => aBel (100 + n) v | none => true)) = true := by
    intro n hn
    simp [aBel, aEnt, aEn, Value.category]
    omega
  refine aM_of (by decide) (Nat.le_of_ble_eq_true rfl) (by rw [lenX6_init]; omega) (by rw [snX6_init]; omega) (fun p_ e s m args below meth c D cA A ad0 hX hr hlk hnm => ?_)
  generalize hRe : (Room.mk 1 ((wX6_init p h).1.length - h.1.length) (aSn (wX6_init p h).1 - aSn h.1) (64 * 1)) = R
  have hRf : 1 ≤ R.frames := by rw [← hRe]; exact Nat.le_refl _
  have hRl : 64 * 1 ≤ R.locals := by rw [← hRe]; exact Nat.le_refl _
  have hRf1 : 1 ≤ R.frames := Nat.le_trans (by decide) hRf
  have hRl1 : (([] : List Value).map (fun v => v.category)).sum + 12 ≤ R.locals := Nat.le_trans (by decide) hRl
  have hRc : 4 ≤ R.cells := by rw [← hRe]; show 4 ≤ _ - _; rw [lenX6_init]; omega
  have hRs : 3152 ≤ R.slots := by rw [← hRe]; show 3152 ≤ _ - _; rw [snX6_init]; omega
  refine ckX6_init_0 hX hnm hs hp hRf hRl hRf1 hRl1 hRc hRs hL ?_
  refine ckX6_init_30 hX hnm hs hp hRf hRl hRf1 hRl1 hRc hRs hL ?_
  exact j_vret hX hr hlk dX6_init_39
def wX7_init_1 (p q0 q1 q2 : Nat) (h : aHp) : aHp := aNew h (.inl (.int, 9))
theorem lwX7_init_1 (p q0 q1 q2 : Nat) (h : aHp) : (wX7_init_1 p q0 q1 q2 h).1.length = h.1.length + 1 := len_step (s := 0) (t := 1) (Nat.add_zero h.1.length).symm rfl
theorem swX7_init_1 (p q0 q1 q2 : Nat) (h : aHp) : aSn (wX7_init_1 p q0 q1 q2 h).1 = aSn h.1 + 9 := sn_step (s := 0) (z := 9) (t := 9) (Nat.add_zero (aSn h.1)).symm rfl rfl
theorem gwX7_init_1 {p q0 q1 q2 z : Nat} {h : aHp} {y : aSh} (hs0 : h.1[z]? = some y) : (wX7_init_1 p q0 q1 q2 h).1[z]? = some y := aNew_get hs0
theorem GX7_init_z0_1 {p q0 q1 q2 : Nat} {h : aHp} (hs : h.1[p]? = some (.inr 7)) (hq0 : h.1[q0]? = some (.inr 1)) (hq1 : h.1[q1]? = some (.inr 3)) (hq2 : h.1[q2]? = some (.inr 8)) : (wX7_init_1 p q0 q1 q2 h).1[p]? = some (.inr 7) := gwX7_init_1 hs
def wX7_init_2 (p q0 q1 q2 : Nat) (h : aHp) : aHp := pR (wX7_init_1 p q0 q1 q2 h) p 3 (some (100 + h.1.length))
theorem lwX7_init_2 (p q0 q1 q2 : Nat) (h : aHp) : (wX7_init_2 p q0 q1 q2 h).1.length = h.1.length + 1 := (lwX7_init_1 p q0 q1 q2 h)
theorem swX7_init_2 (p q0 q1 q2 : Nat) (h : aHp) : aSn (wX7_init_2 p q0 q1 q2 h).1 = aSn h.1 + 9 := (swX7_init_1 p q0 q1 q2 h)
theorem gwX7_init_2 {p q0 q1 q2 z : Nat} {h : aHp} {y : aSh} (hs0 : (wX7_init_1 p q0 q1 q2 h).1[z]? = some y) : (wX7_init_2 p q0 q1 q2 h).1[z]? = some y := hs0
theorem GX7_init_z0_2 {p q0 q1 q2 : Nat} {h : aHp} (hs : h.1[p]? = some (.inr 7)) (hq0 : h.1[q0]? = some (.inr 1)) (hq1 : h.1[q1]? = some (.inr 3)) (hq2 : h.1[q2]? = some (.inr 8)) : (wX7_init_2 p q0 q1 q2 h).1[p]? = some (.inr 7) := gwX7_init_2 (GX7_init_z0_1 hs hq0 hq1 hq2)
def wX7_init_3 (p q0 q1 q2 : Nat) (h : aHp) : aHp := aNew (wX7_init_2 p q0 q1 q2 h) (.inl (.int, 7))
theorem lwX7_init_3 (p q0 q1 q2 : Nat) (h : aHp) : (wX7_init_3 p q0 q1 q2 h).1.length = h.1.length + 2 := len_step (s := 1) (t := 2) (lwX7_init_2 p q0 q1 q2 h) rfl
theorem swX7_init_3 (p q0 q1 q2 : Nat) (h : aHp) : aSn (wX7_init_3 p q0 q1 q2 h).1 = aSn h.1 + 16 := sn_step (s := 9) (z := 7) (t := 16) (swX7_init_2 p q0 q1 q2 h) rfl rfl
theorem gwX7_init_3 {p q0 q1 q2 z : Nat} {h : aHp} {y : aSh} (hs0 : (wX7_init_2 p q0 q1 q2 h).1[z]? = some y) : (wX7_init_3 p q0 q1 q2 h).1[z]? = some y := aNew_get hs0
theorem GX7_init_z0_3 {p q0 q1 q2 : Nat} {h : aHp} (hs : h.1[p]? = some (.inr 7)) (hq0 : h.1[q0]? = some (.inr 1)) (hq1 : h.1[q1]? = some (.inr 3)) (hq2 : h.1[q2]? = some (.inr 8)) : (wX7_init_3 p q0 q1 q2 h).1[p]? = some (.inr 7) := gwX7_init_3 (GX7_init_z0_2 hs hq0 hq1 hq2)
def wX7_init_4 (p q0 q1 q2 : Nat) (h : aHp) : aHp := pR (wX7_init_3 p q0 q1 q2 h) p 4 (some (100 + (h.1.length + 1)))
theorem lwX7_init_4 (p q0 q1 q2 : Nat) (h : aHp) : (wX7_init_4 p q0 q1 q2 h).1.length = h.1.length + 2 := (lwX7_init_3 p q0 q1 q2 h)
theorem swX7_init_4 (p q0 q1 q2 : Nat) (h : aHp) : aSn (wX7_init_4 p q0 q1 q2 h).1 = aSn h.1 + 16 := (swX7_init_3 p q0 q1 q2 h)
theorem gwX7_init_4 {p q0 q1 q2 z : Nat} {h : aHp} {y : aSh} (hs0 : (wX7_init_3 p q0 q1 q2 h).1[z]? = some y) : (wX7_init_4 p q0 q1 q2 h).1[z]? = some y := hs0
theorem GX7_init_z0_4 {p q0 q1 q2 : Nat} {h : aHp} (hs : h.1[p]? = some (.inr 7)) (hq0 : h.1[q0]? = some (.inr 1)) (hq1 : h.1[q1]? = some (.inr 3)) (hq2 : h.1[q2]? = some (.inr 8)) : (wX7_init_4 p q0 q1 q2 h).1[p]? = some (.inr 7) := gwX7_init_4 (GX7_init_z0_3 hs hq0 hq1 hq2)
def wX7_init_5 (p q0 q1 q2 : Nat) (h : aHp) : aHp := aNew (wX7_init_4 p q0 q1 q2 h) (.inl (.int, 128))
theorem lwX7_init_5 (p q0 q1 q2 : Nat) (h : aHp) : (wX7_init_5 p q0 q1 q2 h).1.length = h.1.length + 3 := len_step (s := 2) (t := 3) (lwX7_init_4 p q0 q1 q2 h) rfl
theorem swX7_init_5 (p q0 q1 q2 : Nat) (h : aHp) : aSn (wX7_init_5 p q0 q1 q2 h).1 = aSn h.1 + 144 := sn_step (s := 16) (z := 128) (t := 144) (swX7_init_4 p q0 q1 q2 h) rfl rfl
theorem gwX7_init_5 {p q0 q1 q2 z : Nat} {h : aHp} {y : aSh} (hs0 : (wX7_init_4 p q0 q1 q2 h).1[z]? = some y) : (wX7_init_5 p q0 q1 q2 h).1[z]? = some y := aNew_get hs0
theorem GX7_init_z0_5 {p q0 q1 q2 : Nat} {h : aHp} (hs : h.1[p]? = some (.inr 7)) (hq0 : h.1[q0]? = some (.inr 1)) (hq1 : h.1[q1]? = some (.inr 3)) (hq2 : h.1[q2]? = some (.inr 8)) : (wX7_init_5 p q0 q1 q2 h).1[p]? = some (.inr 7) := gwX7_init_5 (GX7_init_z0_4 hs hq0 hq1 hq2)
def wX7_init_6 (p q0 q1 q2 : Nat) (h : aHp) : aHp := pR (wX7_init_5 p q0 q1 q2 h) p 5 (some (100 + (h.1.length + 2)))
theorem lwX7_init_6 (p q0 q1 q2 : Nat) (h : aHp) : (wX7_init_6 p q0 q1 q2 h).1.length = h.1.length + 3 := (lwX7_init_5 p q0 q1 q2 h)
theorem swX7_init_6 (p q0 q1 q2 : Nat) (h : aHp) : aSn (wX7_init_6 p q0 q1 q2 h).1 = aSn h.1 + 144 := (swX7_init_5 p q0 q1 q2 h)
theorem gwX7_init_6 {p q0 q1 q2 z : Nat} {h : aHp} {y : aSh} (hs0 : (wX7_init_5 p q0 q1 q2 h).1[z]? = some y) : (wX7_init_6 p q0 q1 q2 h).1[z]? = some y := hs0
theorem GX7_init_z0_6 {p q0 q1 q2 : Nat} {h : aHp} (hs : h.1[p]? = some (.inr 7)) (hq0 : h.1[q0]? = some (.inr 1)) (hq1 : h.1[q1]? = some (.inr 3)) (hq2 : h.1[q2]? = some (.inr 8)) : (wX7_init_6 p q0 q1 q2 h).1[p]? = some (.inr 7) := gwX7_init_6 (GX7_init_z0_5 hs hq0 hq1 hq2)
def wX7_init_7 (p q0 q1 q2 : Nat) (h : aHp) : aHp := aNew (wX7_init_6 p q0 q1 q2 h) (.inl (.int, 896))
theorem lwX7_init_7 (p q0 q1 q2 : Nat) (h : aHp) : (wX7_init_7 p q0 q1 q2 h).1.length = h.1.length + 4 := len_step (s := 3) (t := 4) (lwX7_init_6 p q0 q1 q2 h) rfl
theorem swX7_init_7 (p q0 q1 q2 : Nat) (h : aHp) : aSn (wX7_init_7 p q0 q1 q2 h).1 = aSn h.1 + 1040 := sn_step (s := 144) (z := 896) (t := 1040) (swX7_init_6 p q0 q1 q2 h) rfl rfl
theorem gwX7_init_7 {p q0 q1 q2 z : Nat} {h : aHp} {y : aSh} (hs0 : (wX7_init_6 p q0 q1 q2 h).1[z]? = some y) : (wX7_init_7 p q0 q1 q2 h).1[z]? = some y := aNew_get hs0
theorem GX7_init_z0_7 {p q0 q1 q2 : Nat} {h : aHp} (hs : h.1[p]? = some (.inr 7)) (hq0 : h.1[q0]? = some (.inr 1)) (hq1 : h.1[q1]? = some (.inr 3)) (hq2 : h.1[q2]? = some (.inr 8)) : (wX7_init_7 p q0 q1 q2 h).1[p]? = some (.inr 7) := gwX7_init_7 (GX7_init_z0_6 hs hq0 hq1 hq2)
def wX7_init_8 (p q0 q1 q2 : Nat) (h : aHp) : aHp := pR (wX7_init_7 p q0 q1 q2 h) p 6 (some (100 + (h.1.length + 3)))
theorem lwX7_init_8 (p q0 q1 q2 : Nat) (h : aHp) : (wX7_init_8 p q0 q1 q2 h).1.length = h.1.length + 4 := (lwX7_init_7 p q0 q1 q2 h)
theorem swX7_init_8 (p q0 q1 q2 : Nat) (h : aHp) : aSn (wX7_init_8 p q0 q1 q2 h).1 = aSn h.1 + 1040 := (swX7_init_7 p q0 q1 q2 h)
theorem gwX7_init_8 {p q0 q1 q2 z : Nat} {h : aHp} {y : aSh} (hs0 : (wX7_init_7 p q0 q1 q2 h).1[z]? = some y) : (wX7_init_8 p q0 q1 q2 h).1[z]? = some y := hs0
theorem GX7_init_z0_8 {p q0 q1 q2 : Nat} {h : aHp} (hs : h.1[p]? = some (.inr 7)) (hq0 : h.1[q0]? = some (.inr 1)) (hq1 : h.1[q1]? = some (.inr 3)) (hq2 : h.1[q2]? = some (.inr 8)) : (wX7_init_8 p q0 q1 q2 h).1[p]? = some (.inr 7) := gwX7_init_8 (GX7_init_z0_7 hs hq0 hq1 hq2)
def wX7_init_9 (p q0 q1 q2 : Nat) (h : aHp) : aHp := pR (wX7_init_8 p q0 q1 q2 h) p 0 (some (100 + q0))
theorem lwX7_init_9 (p q0 q1 q2 : Nat) (h : aHp) : (wX7_init_9 p q0 q1 q2 h).1.length = h.1.length + 4 := (lwX7_init_8 p q0 q1 q2 h)
theorem swX7_init_9 (p q0 q1 q2 : Nat) (h : aHp) : aSn (wX7_init_9 p q0 q1 q2 h).1 = aSn h.1 + 1040 := (swX7_init_8 p q0 q1 q2 h)
theorem gwX7_init_9 {p q0 q1 q2 z : Nat} {h : aHp} {y : aSh} (hs0 : (wX7_init_8 p q0 q1 q2 h).1[z]? = some y) : (wX7_init_9 p q0 q1 q2 h).1[z]? = some y := hs0
theorem GX7_init_z0_9 {p q0 q1 q2 : Nat} {h : aHp} (hs : h.1[p]? = some (.inr 7)) (hq0 : h.1[q0]? = some (.inr 1)) (hq1 : h.1[q1]? = some (.inr 3)) (hq2 : h.1[q2]? = some (.inr 8)) : (wX7_init_9 p q0 q1 q2 h).1[p]? = some (.inr 7) := gwX7_init_9 (GX7_init_z0_8 hs hq0 hq1 hq2)
def wX7_init_10 (p q0 q1 q2 : Nat) (h : aHp) : aHp := pR (wX7_init_9 p q0 q1 q2 h) p 1 (some (100 + q1))
theorem lwX7_init_10 (p q0 q1 q2 : Nat) (h : aHp) : (wX7_init_10 p q0 q1 q2 h).1.length = h.1.length + 4 := (lwX7_init_9 p q0 q1 q2 h)
theorem swX7_init_10 (p q0 q1 q2 : Nat) (h : aHp) : aSn (wX7_init_10 p q0 q1 q2 h).1 = aSn h.1 + 1040 := (swX7_init_9 p q0 q1 q2 h)
theorem gwX7_init_10 {p q0 q1 q2 z : Nat} {h : aHp} {y : aSh} (hs0 : (wX7_init_9 p q0 q1 q2 h).1[z]? = some y) : (wX7_init_10 p q0 q1 q2 h).1[z]? = some y := hs0
theorem GX7_init_z0_10 {p q0 q1 q2 : Nat} {h : aHp} (hs : h.1[p]? = some (.inr 7)) (hq0 : h.1[q0]? = some (.inr 1)) (hq1 : h.1[q1]? = some (.inr 3)) (hq2 : h.1[q2]? = some (.inr 8)) : (wX7_init_10 p q0 q1 q2 h).1[p]? = some (.inr 7) := gwX7_init_10 (GX7_init_z0_9 hs hq0 hq1 hq2)
def wX7_init_11 (p q0 q1 q2 : Nat) (h : aHp) : aHp := pR (wX7_init_10 p q0 q1 q2 h) p 2 (some (100 + q2))
theorem lwX7_init_11 (p q0 q1 q2 : Nat) (h : aHp) : (wX7_init_11 p q0 q1 q2 h).1.length = h.1.length + 4 := (lwX7_init_10 p q0 q1 q2 h)
theorem swX7_init_11 (p q0 q1 q2 : Nat) (h : aHp) : aSn (wX7_init_11 p q0 q1 q2 h).1 = aSn h.1 + 1040 := (swX7_init_10 p q0 q1 q2 h)
theorem gwX7_init_11 {p q0 q1 q2 z : Nat} {h : aHp} {y : aSh} (hs0 : (wX7_init_10 p q0 q1 q2 h).1[z]? = some y) : (wX7_init_11 p q0 q1 q2 h).1[z]? = some y := hs0
def wX7_init (p q0 q1 q2 : Nat) (h : aHp) : aHp := (wX7_init_11 p q0 q1 q2 h)
theorem lenX7_init (p q0 q1 q2 : Nat) (h : aHp) : (wX7_init p q0 q1 q2 h).1.length = h.1.length + 4 := lwX7_init_11 p q0 q1 q2 h
theorem snX7_init (p q0 q1 q2 : Nat) (h : aHp) : aSn (wX7_init p q0 q1 q2 h).1 = aSn h.1 + 1040 := swX7_init_11 p q0 q1 q2 h
theorem getX7_init {p q0 q1 q2 z : Nat} {h : aHp} {y : aSh} (hs0 : h.1[z]? = some y) : (wX7_init p q0 q1 q2 h).1[z]? = some y := gwX7_init_11 (gwX7_init_10 (gwX7_init_9 (gwX7_init_8 (gwX7_init_7 (gwX7_init_6 (gwX7_init_5 (gwX7_init_4 (gwX7_init_3 (gwX7_init_2 (gwX7_init_1 (hs0)))))))))))
theorem rvX7_init_1 {p q0 q1 q2 z k : Nat} {h : aHp} (hz : z < h.1.length) (hne : z ≠ p) : (wX7_init_1 p q0 q1 q2 h).2.2.2 z k = h.2.2.2 z k := (aNew_rv hz).trans (rfl)
theorem rvX7_init_2 {p q0 q1 q2 z k : Nat} {h : aHp} (hz : z < h.1.length) (hne : z ≠ p) : (wX7_init_2 p q0 q1 q2 h).2.2.2 z k = h.2.2.2 z k := (pR_rv (Or.inl hne)).trans (rvX7_init_1 hz hne)
theorem rvX7_init_3 {p q0 q1 q2 z k : Nat} {h : aHp} (hz : z < h.1.length) (hne : z ≠ p) : (wX7_init_3 p q0 q1 q2 h).2.2.2 z k = h.2.2.2 z k := (aNew_rv (by rw [lwX7_init_2]; exact lt_k hz)).trans (rvX7_init_2 hz hne)
theorem rvX7_init_4 {p q0 q1 q2 z k : Nat} {h : aHp} (hz : z < h.1.length) (hne : z ≠ p) : (wX7_init_4 p q0 q1 q2 h).2.2.2 z k = h.2.2.2 z k := (pR_rv (Or.inl hne)).trans (rvX7_init_3 hz hne)
theorem rvX7_init_5 {p q0 q1 q2 z k : Nat} {h : aHp} (hz : z < h.1.length) (hne : z ≠ p) : (wX7_init_5 p q0 q1 q2 h).2.2.2 z k = h.2.2.2 z k := (aNew_rv (by rw [lwX7_init_4]; exact lt_k hz)).trans (rvX7_init_4 hz hne)
theorem rvX7_init_6 {p q0 q1 q2 z k : Nat} {h : aHp} (hz : z < h.1.length) (hne : z ≠ p) : (wX7_init_6 p q0 q1 q2 h).2.2.2 z k = h.2.2.2 z k := (pR_rv (Or.inl hne)).trans (rvX7_init_5 hz hne)
theorem rvX7_init_7 {p q0 q1 q2 z k : Nat} {h : aHp} (hz : z < h.1.length) (hne : z ≠ p) : (wX7_init_7 p q0 q1 q2 h).2.2.2 z k = h.2.2.2 z k := (aNew_rv (by rw [lwX7_init_6]; exact lt_k hz)).trans (rvX7_init_6 hz hne)
theorem rvX7_init_8 {p q0 q1 q2 z k : Nat} {h : aHp} (hz : z < h.1.length) (hne : z ≠ p) : (wX7_init_8 p q0 q1 q2 h).2.2.2 z k = h.2.2.2 z k := (pR_rv (Or.inl hne)).trans (rvX7_init_7 hz hne)
theorem rvX7_init_9 {p q0 q1 q2 z k : Nat} {h : aHp} (hz : z < h.1.length) (hne : z ≠ p) : (wX7_init_9 p q0 q1 q2 h).2.2.2 z k = h.2.2.2 z k := (pR_rv (Or.inl hne)).trans (rvX7_init_8 hz hne)
theorem rvX7_init_10 {p q0 q1 q2 z k : Nat} {h : aHp} (hz : z < h.1.length) (hne : z ≠ p) : (wX7_init_10 p q0 q1 q2 h).2.2.2 z k = h.2.2.2 z k := (pR_rv (Or.inl hne)).trans (rvX7_init_9 hz hne)
theorem rvX7_init_11 {p q0 q1 q2 z k : Nat} {h : aHp} (hz : z < h.1.length) (hne : z ≠ p) : (wX7_init_11 p q0 q1 q2 h).2.2.2 z k = h.2.2.2 z k := (pR_rv (Or.inl hne)).trans (rvX7_init_10 hz hne)
theorem rvX7_init {p q0 q1 q2 z k : Nat} {h : aHp} (hz : z < h.1.length) (hne : z ≠ p) : (wX7_init p q0 q1 q2 h).2.2.2 z k = h.2.2.2 z k := rvX7_init_11 hz hne
section CK
variable {pg : Program} {l : Launch} {e : Env} {R : Room} {s : State} {m : MethodId} {args : Array Value} {below : List Frame} {meth : Method} {c : Code} {Q : State → Prop} {D : va_G} {cA : FieldType → ClassId} {A : Nat → Prop} {ad0 : Nat → Nat}
theorem ckX7_init_0 {p q0 q1 q2 : Nat} {h : aHp} (hX : aX pg s m args c yX7_init.cls cX7_init 4 D cA A ad0) (hnm : meth.name = "<init>") (hs : h.1[p]? = some (.inr 7)) (hq0 : h.1[q0]? = some (.inr 1)) (hq1 : h.1[q1]? = some (.inr 3)) (hq2 : h.1[q2]? = some (.inr 8)) (hp : p < h.1.length) (hp0 : q0 < h.1.length) (hp1 : q1 < h.1.length) (hp2 : q2 < h.1.length) (hRf : 1 ≤ R.frames) (hRl : 64 * 1 ≤ R.locals) (hRf1 : 1 ≤ R.frames) (hRl1 : (([] : List Value).map (fun v => v.category)).sum + 12 ≤ R.locals) (hRc : 4 ≤ R.cells) (hRs : 1040 ≤ R.slots) (hL : ∀ n, h.1.length ≤ n → ((aEnt [.ref (100 + p), .ref (100 + q0), .ref (100 + q1), .ref (100 + q2)] 4).all (fun o => match o with | some v => aBel (100 + n) v | none => true)) = true)
    (kk : aJ pg l e R s m args below meth c Q D cA A ad0 4 h.1.length (aSn h.1) 29 (aEnt [.ref (100 + p), .ref (100 + q0), .ref (100 + q1), .ref (100 + q2)] 4) [] (wX7_init_6 p q0 q1 q2 h)) : aJ pg l e R s m args below meth c Q D cA A ad0 4 h.1.length (aSn h.1) 0 (aEnt [.ref (100 + p), .ref (100 + q0), .ref (100 + q1), .ref (100 + q2)] 4) [] h := by
  refine j_aload_n hX dX7_init_0 rfl ?_
  refine jpc (b := 1) rfl ?_
  refine j_obj hX lk_X7_5 dX7_init_1 ⟨hRf1, hRl1⟩ ?_
  refine jpc (b := 4) rfl ?_
  refine j_aload_n hX dX7_init_4 rfl ?_
  refine jpc (b := 5) rfl ?_
  refine j_bipush hX dX7_init_5 bp_9 ?_
  refine jpc (b := 7) rfl ?_
  refine j_newaN (ty := .int) (t0 := 0) (n := 9) (n0 := h.1.length) hX dX7_init_7 rfl (fun _ => rfl) wAr_int (fun _ => rfl) (by decide) (by decide) (by decide) rfl (b_cons (b_ref hp) b_nil) (hL _ (Nat.le_refl _)) (rmC (Nat.add_zero _).symm hRc (by decide)) (rmS (Nat.add_zero (aSn h.1)).symm hRs (by decide)) (h' := wX7_init_1 p q0 q1 q2 h) rfl ?_
  refine jpc (b := 9) rfl ?_
  refine j_putRFN (k := 3) hX kX7 (by decide) fk_X7_13 (putv (a := h.1.length) (k := 1) (lwX7_init_1 p q0 q1 q2 h) (Nat.lt_add_of_pos_right (by decide))) dX7_init_9 (GX7_init_z0_1 hs hq0 hq1 hq2) rfl rfl hnm rfl (h' := wX7_init_2 p q0 q1 q2 h) rfl ?_
  refine jpc (b := 12) rfl ?_
  refine j_aload_n hX dX7_init_12 rfl ?_
  refine jpc (b := 13) rfl ?_
  refine j_bipush hX dX7_init_13 bp_7 ?_
  refine jpc (b := 15) rfl ?_
  refine j_newaN (ty := .int) (t0 := 0) (n := 7) (n0 := (h.1.length + 1)) hX dX7_init_15 rfl (fun _ => rfl) wAr_int (fun _ => rfl) (by decide) (by decide) (by decide) (lwX7_init_2 p q0 q1 q2 h) (b_cons (b_ref (lt_k hp)) b_nil) (hL _ (Nat.le_add_right _ _)) (rmC rfl hRc (by decide)) (rmS (swX7_init_2 p q0 q1 q2 h) hRs (by decide)) (h' := wX7_init_3 p q0 q1 q2 h) rfl ?_
  refine jpc (b := 17) rfl ?_
  refine j_putRFN (k := 4) hX kX7 (by decide) fk_X7_17 (putv (a := h.1.length) (k := 2) (lwX7_init_3 p q0 q1 q2 h) (lt_j (by decide))) dX7_init_17 (GX7_init_z0_3 hs hq0 hq1 hq2) rfl rfl hnm rfl (h' := wX7_init_4 p q0 q1 q2 h) rfl ?_
  refine jpc (b := 20) rfl ?_
  refine j_aload_n hX dX7_init_20 rfl ?_
  refine jpc (b := 21) rfl ?_
  refine j_sipush hX dX7_init_21 sp_128 ?_
  refine jpc (b := 24) rfl ?_
  refine j_newaN (ty := .int) (t0 := 0) (n := 128) (n0 := (h.1.length + 2)) hX dX7_init_24 rfl (fun _ => rfl) wAr_int (fun _ => rfl) (by decide) (by decide) (by decide) (lwX7_init_4 p q0 q1 q2 h) (b_cons (b_ref (lt_k hp)) b_nil) (hL _ (Nat.le_add_right _ _)) (rmC rfl hRc (by decide)) (rmS (swX7_init_4 p q0 q1 q2 h) hRs (by decide)) (h' := wX7_init_5 p q0 q1 q2 h) rfl ?_
  refine jpc (b := 26) rfl ?_
  refine j_putRFN (k := 5) hX kX7 (by decide) fk_X7_20 (putv (a := h.1.length) (k := 3) (lwX7_init_5 p q0 q1 q2 h) (lt_j (by decide))) dX7_init_26 (GX7_init_z0_5 hs hq0 hq1 hq2) rfl rfl hnm rfl (h' := wX7_init_6 p q0 q1 q2 h) rfl ?_
  exact kk
end CK
section CK
variable {pg : Program} {l : Launch} {e : Env} {R : Room} {s : State} {m : MethodId} {args : Array Value} {below : List Frame} {meth : Method} {c : Code} {Q : State → Prop} {D : va_G} {cA : FieldType → ClassId} {A : Nat → Prop} {ad0 : Nat → Nat}
theorem ckX7_init_29 {p q0 q1 q2 : Nat} {h : aHp} (hX : aX pg s m args c yX7_init.cls cX7_init 4 D cA A ad0) (hnm : meth.name = "<init>") (hs : h.1[p]? = some (.inr 7)) (hq0 : h.1[q0]? = some (.inr 1)) (hq1 : h.1[q1]? = some (.inr 3)) (hq2 : h.1[q2]? = some (.inr 8)) (hp : p < h.1.length) (hp0 : q0 < h.1.length) (hp1 : q1 < h.1.length) (hp2 : q2 < h.1.length) (hRf : 1 ≤ R.frames) (hRl : 64 * 1 ≤ R.locals) (hRf1 : 1 ≤ R.frames) (hRl1 : (([] : List Value).map (fun v => v.category)).sum + 12 ≤ R.locals) (hRc : 4 ≤ R.cells) (hRs : 1040 ≤ R.slots) (hL : ∀ n, h.1.length ≤ n → ((aEnt [.ref (100 + p), .ref (100 + q0), .ref (100 + q1), .ref (100 + q2)] 4).all (fun o => match o with | some v => aBel (100 + n) v | none => true)) = true)
    (kk : aJ pg l e R s m args below meth c Q D cA A ad0 4 h.1.length (aSn h.1) 53 (aEnt [.ref (100 + p), .ref (100 + q0), .ref (100 + q1), .ref (100 + q2)] 4) [] (wX7_init_11 p q0 q1 q2 h)) : aJ pg l e R s m args below meth c Q D cA A ad0 4 h.1.length (aSn h.1) 29 (aEnt [.ref (100 + p), .ref (100 + q0), .ref (100 + q1), .ref (100 + q2)] 4) [] (wX7_init_6 p q0 q1 q2 h) := by
  refine j_aload_n hX dX7_init_29 rfl ?_
  refine jpc (b := 30) rfl ?_
  refine j_sipush hX dX7_init_30 sp_896 ?_
  refine jpc (b := 33) rfl ?_
  refine j_newaN (ty := .int) (t0 := 0) (n := 896) (n0 := (h.1.length + 3)) hX dX7_init_33 rfl (fun _ => rfl) wAr_int (fun _ => rfl) (by decide) (by decide) (by decide) (lwX7_init_6 p q0 q1 q2 h) (b_cons (b_ref (lt_k hp)) b_nil) (hL _ (Nat.le_add_right _ _)) (rmC rfl hRc (by decide)) (rmS (swX7_init_6 p q0 q1 q2 h) hRs (by decide)) (h' := wX7_init_7 p q0 q1 q2 h) rfl ?_
  refine jpc (b := 35) rfl ?_
  refine j_putRFN (k := 6) hX kX7 (by decide) fk_X7_23 (putv (a := h.1.length) (k := 4) (lwX7_init_7 p q0 q1 q2 h) (lt_j (by decide))) dX7_init_35 (GX7_init_z0_7 hs hq0 hq1 hq2) rfl rfl hnm rfl (h' := wX7_init_8 p q0 q1 q2 h) rfl ?_
  refine jpc (b := 38) rfl ?_
  refine j_aload_n hX dX7_init_38 rfl ?_
  refine jpc (b := 39) rfl ?_
  refine j_aload_n hX dX7_init_39 rfl ?_
  refine jpc (b := 40) rfl ?_
  refine j_putRFN (k := 0) hX kX7 (by decide) fk_X7_26 (putv (a := h.1.length) (k := 4) (lwX7_init_8 p q0 q1 q2 h) (lt_k hp0)) dX7_init_40 (GX7_init_z0_8 hs hq0 hq1 hq2) rfl rfl hnm rfl (h' := wX7_init_9 p q0 q1 q2 h) rfl ?_
  refine jpc (b := 43) rfl ?_
  refine j_aload_n hX dX7_init_43 rfl ?_
  refine jpc (b := 44) rfl ?_
  refine j_aload_n hX dX7_init_44 rfl ?_
  refine jpc (b := 45) rfl ?_
  refine j_putRFN (k := 1) hX kX7 (by decide) fk_X7_30 (putv (a := h.1.length) (k := 4) (lwX7_init_9 p q0 q1 q2 h) (lt_k hp1)) dX7_init_45 (GX7_init_z0_9 hs hq0 hq1 hq2) rfl rfl hnm rfl (h' := wX7_init_10 p q0 q1 q2 h) rfl ?_
  refine jpc (b := 48) rfl ?_
  refine j_aload_n hX dX7_init_48 rfl ?_
  refine jpc (b := 49) rfl ?_
  refine j_aload_n hX dX7_init_49 rfl ?_
  refine jpc (b := 50) rfl ?_
  refine j_putRFN (k := 2) hX kX7 (by decide) fk_X7_34 (putv (a := h.1.length) (k := 4) (lwX7_init_10 p q0 q1 q2 h) (lt_k hp2)) dX7_init_50 (GX7_init_z0_10 hs hq0 hq1 hq2) rfl rfl hnm rfl (h' := wX7_init_11 p q0 q1 q2 h) rfl ?_
  exact kk
end CK
theorem okX7_init {l : Launch} {p q0 q1 q2 : Nat} {h : aHp} (hs : h.1[p]? = some (.inr 7)) (hq0 : h.1[q0]? = some (.inr 1)) (hq1 : h.1[q1]? = some (.inr 3)) (hq2 : h.1[q2]? = some (.inr 8)) : aM l yX7_init cX7_init 4 none 1 [.ref (100 + p), .ref (100 + q0), .ref (100 + q1), .ref (100 + q2)] h none (wX7_init p q0 q1 q2 h) := by
  have hp := aLt hs
  have hp0 := aLt hq0
  have hp1 := aLt hq1
  have hp2 := aLt hq2
  have hL : ∀ n, h.1.length ≤ n → ((aEnt [.ref (100 + p), .ref (100 + q0), .ref (100 + q1), .ref (100 + q2)] 4).all (fun o => match o with | some v => aBel (100 + n) v | none => true)) = true := by
    intro n hn
    simp [aBel, aEnt, aEn, Value.category]
    omega
  refine aM_of (by decide) (Nat.le_of_ble_eq_true rfl) (by rw [lenX7_init]; omega) (by rw [snX7_init]; omega) (fun p_ e s m args below meth c D cA A ad0 hX hr hlk hnm => ?_)
  generalize hRe : (Room.mk 1 ((wX7_init p q0 q1 q2 h).1.length - h.1.length) (aSn (wX7_init p q0 q1 q2 h).1 - aSn h.1) (64 * 1)) = R
  have hRf : 1 ≤ R.frames := by rw [← hRe]; exact Nat.le_refl _
  have hRl : 64 * 1 ≤ R.locals := by rw [← hRe]; exact Nat.le_refl _
  have hRf1 : 1 ≤ R.frames := Nat.le_trans (by decide) hRf
  have hRl1 : (([] : List Value).map (fun v => v.category)).sum + 12 ≤ R.locals := Nat.le_trans (by decide) hRl
  have hRc : 4 ≤ R.cells := by rw [← hRe]; show 4 ≤ _ - _; rw [lenX7_init]; omega
  have hRs : 1040 ≤ R.slots := by rw [← hRe]; show 1040 ≤ _ - _; rw [snX7_init]; omega
  refine ckX7_init_0 hX hnm hs hq0 hq1 hq2 hp hp0 hp1 hp2 hRf hRl hRf1 hRl1 hRc hRs hL ?_
  refine ckX7_init_29 hX hnm hs hq0 hq1 hq2 hp hp0 hp1 hp2 hRf hRl hRf1 hRl1 hRc hRs hL ?_
  exact j_vret hX hr hlk dX7_init_53
def wX0_init_1 (p q0 q1 q2 : Nat) (h : aHp) : aHp := aNew h (.inl (.int, 512))
theorem lwX0_init_1 (p q0 q1 q2 : Nat) (h : aHp) : (wX0_init_1 p q0 q1 q2 h).1.length = h.1.length + 1 := len_step (s := 0) (t := 1) (Nat.add_zero h.1.length).symm rfl
theorem swX0_init_1 (p q0 q1 q2 : Nat) (h : aHp) : aSn (wX0_init_1 p q0 q1 q2 h).1 = aSn h.1 + 512 := sn_step (s := 0) (z := 512) (t := 512) (Nat.add_zero (aSn h.1)).symm rfl rfl
theorem gwX0_init_1 {p q0 q1 q2 z : Nat} {h : aHp} {y : aSh} (hs0 : h.1[z]? = some y) : (wX0_init_1 p q0 q1 q2 h).1[z]? = some y := aNew_get hs0
theorem GX0_init_z0_1 {p q0 q1 q2 : Nat} {h : aHp} (hs : h.1[p]? = some (.inr 0)) (hq0 : h.1[q0]? = some (.inr 1)) (hq1 : h.1[q1]? = some (.inr 3)) (hq2 : h.1[q2]? = some (.inr 8)) : (wX0_init_1 p q0 q1 q2 h).1[p]? = some (.inr 0) := gwX0_init_1 hs
def wX0_init_2 (p q0 q1 q2 : Nat) (h : aHp) : aHp := pR (wX0_init_1 p q0 q1 q2 h) p 3 (some (100 + h.1.length))
theorem lwX0_init_2 (p q0 q1 q2 : Nat) (h : aHp) : (wX0_init_2 p q0 q1 q2 h).1.length = h.1.length + 1 := (lwX0_init_1 p q0 q1 q2 h)
theorem swX0_init_2 (p q0 q1 q2 : Nat) (h : aHp) : aSn (wX0_init_2 p q0 q1 q2 h).1 = aSn h.1 + 512 := (swX0_init_1 p q0 q1 q2 h)
theorem gwX0_init_2 {p q0 q1 q2 z : Nat} {h : aHp} {y : aSh} (hs0 : (wX0_init_1 p q0 q1 q2 h).1[z]? = some y) : (wX0_init_2 p q0 q1 q2 h).1[z]? = some y := hs0
theorem GX0_init_z0_2 {p q0 q1 q2 : Nat} {h : aHp} (hs : h.1[p]? = some (.inr 0)) (hq0 : h.1[q0]? = some (.inr 1)) (hq1 : h.1[q1]? = some (.inr 3)) (hq2 : h.1[q2]? = some (.inr 8)) : (wX0_init_2 p q0 q1 q2 h).1[p]? = some (.inr 0) := gwX0_init_2 (GX0_init_z0_1 hs hq0 hq1 hq2)
def wX0_init_3 (p q0 q1 q2 : Nat) (h : aHp) : aHp := aNew (wX0_init_2 p q0 q1 q2 h) (.inl (.int, 81))
theorem lwX0_init_3 (p q0 q1 q2 : Nat) (h : aHp) : (wX0_init_3 p q0 q1 q2 h).1.length = h.1.length + 2 := len_step (s := 1) (t := 2) (lwX0_init_2 p q0 q1 q2 h) rfl
theorem swX0_init_3 (p q0 q1 q2 : Nat) (h : aHp) : aSn (wX0_init_3 p q0 q1 q2 h).1 = aSn h.1 + 593 := sn_step (s := 512) (z := 81) (t := 593) (swX0_init_2 p q0 q1 q2 h) rfl rfl
theorem gwX0_init_3 {p q0 q1 q2 z : Nat} {h : aHp} {y : aSh} (hs0 : (wX0_init_2 p q0 q1 q2 h).1[z]? = some y) : (wX0_init_3 p q0 q1 q2 h).1[z]? = some y := aNew_get hs0
theorem GX0_init_z0_3 {p q0 q1 q2 : Nat} {h : aHp} (hs : h.1[p]? = some (.inr 0)) (hq0 : h.1[q0]? = some (.inr 1)) (hq1 : h.1[q1]? = some (.inr 3)) (hq2 : h.1[q2]? = some (.inr 8)) : (wX0_init_3 p q0 q1 q2 h).1[p]? = some (.inr 0) := gwX0_init_3 (GX0_init_z0_2 hs hq0 hq1 hq2)
def wX0_init_4 (p q0 q1 q2 : Nat) (h : aHp) : aHp := pR (wX0_init_3 p q0 q1 q2 h) p 4 (some (100 + (h.1.length + 1)))
theorem lwX0_init_4 (p q0 q1 q2 : Nat) (h : aHp) : (wX0_init_4 p q0 q1 q2 h).1.length = h.1.length + 2 := (lwX0_init_3 p q0 q1 q2 h)
theorem swX0_init_4 (p q0 q1 q2 : Nat) (h : aHp) : aSn (wX0_init_4 p q0 q1 q2 h).1 = aSn h.1 + 593 := (swX0_init_3 p q0 q1 q2 h)
theorem gwX0_init_4 {p q0 q1 q2 z : Nat} {h : aHp} {y : aSh} (hs0 : (wX0_init_3 p q0 q1 q2 h).1[z]? = some y) : (wX0_init_4 p q0 q1 q2 h).1[z]? = some y := hs0
theorem GX0_init_z0_4 {p q0 q1 q2 : Nat} {h : aHp} (hs : h.1[p]? = some (.inr 0)) (hq0 : h.1[q0]? = some (.inr 1)) (hq1 : h.1[q1]? = some (.inr 3)) (hq2 : h.1[q2]? = some (.inr 8)) : (wX0_init_4 p q0 q1 q2 h).1[p]? = some (.inr 0) := gwX0_init_4 (GX0_init_z0_3 hs hq0 hq1 hq2)
def wX0_init_5 (p q0 q1 q2 : Nat) (h : aHp) : aHp := aNew (wX0_init_4 p q0 q1 q2 h) (.inl (.int, 9))
theorem lwX0_init_5 (p q0 q1 q2 : Nat) (h : aHp) : (wX0_init_5 p q0 q1 q2 h).1.length = h.1.length + 3 := len_step (s := 2) (t := 3) (lwX0_init_4 p q0 q1 q2 h) rfl
theorem swX0_init_5 (p q0 q1 q2 : Nat) (h : aHp) : aSn (wX0_init_5 p q0 q1 q2 h).1 = aSn h.1 + 602 := sn_step (s := 593) (z := 9) (t := 602) (swX0_init_4 p q0 q1 q2 h) rfl rfl
theorem gwX0_init_5 {p q0 q1 q2 z : Nat} {h : aHp} {y : aSh} (hs0 : (wX0_init_4 p q0 q1 q2 h).1[z]? = some y) : (wX0_init_5 p q0 q1 q2 h).1[z]? = some y := aNew_get hs0
theorem GX0_init_z0_5 {p q0 q1 q2 : Nat} {h : aHp} (hs : h.1[p]? = some (.inr 0)) (hq0 : h.1[q0]? = some (.inr 1)) (hq1 : h.1[q1]? = some (.inr 3)) (hq2 : h.1[q2]? = some (.inr 8)) : (wX0_init_5 p q0 q1 q2 h).1[p]? = some (.inr 0) := gwX0_init_5 (GX0_init_z0_4 hs hq0 hq1 hq2)
def wX0_init_6 (p q0 q1 q2 : Nat) (h : aHp) : aHp := pR (wX0_init_5 p q0 q1 q2 h) p 5 (some (100 + (h.1.length + 2)))
theorem lwX0_init_6 (p q0 q1 q2 : Nat) (h : aHp) : (wX0_init_6 p q0 q1 q2 h).1.length = h.1.length + 3 := (lwX0_init_5 p q0 q1 q2 h)
theorem swX0_init_6 (p q0 q1 q2 : Nat) (h : aHp) : aSn (wX0_init_6 p q0 q1 q2 h).1 = aSn h.1 + 602 := (swX0_init_5 p q0 q1 q2 h)
theorem gwX0_init_6 {p q0 q1 q2 z : Nat} {h : aHp} {y : aSh} (hs0 : (wX0_init_5 p q0 q1 q2 h).1[z]? = some y) : (wX0_init_6 p q0 q1 q2 h).1[z]? = some y := hs0
theorem GX0_init_z0_6 {p q0 q1 q2 : Nat} {h : aHp} (hs : h.1[p]? = some (.inr 0)) (hq0 : h.1[q0]? = some (.inr 1)) (hq1 : h.1[q1]? = some (.inr 3)) (hq2 : h.1[q2]? = some (.inr 8)) : (wX0_init_6 p q0 q1 q2 h).1[p]? = some (.inr 0) := gwX0_init_6 (GX0_init_z0_5 hs hq0 hq1 hq2)
def wX0_init_7 (p q0 q1 q2 : Nat) (h : aHp) : aHp := aNew (wX0_init_6 p q0 q1 q2 h) (.inl (.int, 9))
theorem lwX0_init_7 (p q0 q1 q2 : Nat) (h : aHp) : (wX0_init_7 p q0 q1 q2 h).1.length = h.1.length + 4 := len_step (s := 3) (t := 4) (lwX0_init_6 p q0 q1 q2 h) rfl
theorem swX0_init_7 (p q0 q1 q2 : Nat) (h : aHp) : aSn (wX0_init_7 p q0 q1 q2 h).1 = aSn h.1 + 611 := sn_step (s := 602) (z := 9) (t := 611) (swX0_init_6 p q0 q1 q2 h) rfl rfl
theorem gwX0_init_7 {p q0 q1 q2 z : Nat} {h : aHp} {y : aSh} (hs0 : (wX0_init_6 p q0 q1 q2 h).1[z]? = some y) : (wX0_init_7 p q0 q1 q2 h).1[z]? = some y := aNew_get hs0
theorem GX0_init_z0_7 {p q0 q1 q2 : Nat} {h : aHp} (hs : h.1[p]? = some (.inr 0)) (hq0 : h.1[q0]? = some (.inr 1)) (hq1 : h.1[q1]? = some (.inr 3)) (hq2 : h.1[q2]? = some (.inr 8)) : (wX0_init_7 p q0 q1 q2 h).1[p]? = some (.inr 0) := gwX0_init_7 (GX0_init_z0_6 hs hq0 hq1 hq2)
def wX0_init_8 (p q0 q1 q2 : Nat) (h : aHp) : aHp := pR (wX0_init_7 p q0 q1 q2 h) p 6 (some (100 + (h.1.length + 3)))
theorem lwX0_init_8 (p q0 q1 q2 : Nat) (h : aHp) : (wX0_init_8 p q0 q1 q2 h).1.length = h.1.length + 4 := (lwX0_init_7 p q0 q1 q2 h)
theorem swX0_init_8 (p q0 q1 q2 : Nat) (h : aHp) : aSn (wX0_init_8 p q0 q1 q2 h).1 = aSn h.1 + 611 := (swX0_init_7 p q0 q1 q2 h)
theorem gwX0_init_8 {p q0 q1 q2 z : Nat} {h : aHp} {y : aSh} (hs0 : (wX0_init_7 p q0 q1 q2 h).1[z]? = some y) : (wX0_init_8 p q0 q1 q2 h).1[z]? = some y := hs0
theorem GX0_init_z0_8 {p q0 q1 q2 : Nat} {h : aHp} (hs : h.1[p]? = some (.inr 0)) (hq0 : h.1[q0]? = some (.inr 1)) (hq1 : h.1[q1]? = some (.inr 3)) (hq2 : h.1[q2]? = some (.inr 8)) : (wX0_init_8 p q0 q1 q2 h).1[p]? = some (.inr 0) := gwX0_init_8 (GX0_init_z0_7 hs hq0 hq1 hq2)
def wX0_init_9 (p q0 q1 q2 : Nat) (h : aHp) : aHp := aNew (wX0_init_8 p q0 q1 q2 h) (.inl (.int, 9))
theorem lwX0_init_9 (p q0 q1 q2 : Nat) (h : aHp) : (wX0_init_9 p q0 q1 q2 h).1.length = h.1.length + 5 := len_step (s := 4) (t := 5) (lwX0_init_8 p q0 q1 q2 h) rfl
theorem swX0_init_9 (p q0 q1 q2 : Nat) (h : aHp) : aSn (wX0_init_9 p q0 q1 q2 h).1 = aSn h.1 + 620 := sn_step (s := 611) (z := 9) (t := 620) (swX0_init_8 p q0 q1 q2 h) rfl rfl
theorem gwX0_init_9 {p q0 q1 q2 z : Nat} {h : aHp} {y : aSh} (hs0 : (wX0_init_8 p q0 q1 q2 h).1[z]? = some y) : (wX0_init_9 p q0 q1 q2 h).1[z]? = some y := aNew_get hs0
theorem GX0_init_z0_9 {p q0 q1 q2 : Nat} {h : aHp} (hs : h.1[p]? = some (.inr 0)) (hq0 : h.1[q0]? = some (.inr 1)) (hq1 : h.1[q1]? = some (.inr 3)) (hq2 : h.1[q2]? = some (.inr 8)) : (wX0_init_9 p q0 q1 q2 h).1[p]? = some (.inr 0) := gwX0_init_9 (GX0_init_z0_8 hs hq0 hq1 hq2)
def wX0_init_10 (p q0 q1 q2 : Nat) (h : aHp) : aHp := pR (wX0_init_9 p q0 q1 q2 h) p 7 (some (100 + (h.1.length + 4)))
theorem lwX0_init_10 (p q0 q1 q2 : Nat) (h : aHp) : (wX0_init_10 p q0 q1 q2 h).1.length = h.1.length + 5 := (lwX0_init_9 p q0 q1 q2 h)
theorem swX0_init_10 (p q0 q1 q2 : Nat) (h : aHp) : aSn (wX0_init_10 p q0 q1 q2 h).1 = aSn h.1 + 620 := (swX0_init_9 p q0 q1 q2 h)
theorem gwX0_init_10 {p q0 q1 q2 z : Nat} {h : aHp} {y : aSh} (hs0 : (wX0_init_9 p q0 q1 q2 h).1[z]? = some y) : (wX0_init_10 p q0 q1 q2 h).1[z]? = some y := hs0
theorem GX0_init_z0_10 {p q0 q1 q2 : Nat} {h : aHp} (hs : h.1[p]? = some (.inr 0)) (hq0 : h.1[q0]? = some (.inr 1)) (hq1 : h.1[q1]? = some (.inr 3)) (hq2 : h.1[q2]? = some (.inr 8)) : (wX0_init_10 p q0 q1 q2 h).1[p]? = some (.inr 0) := gwX0_init_10 (GX0_init_z0_9 hs hq0 hq1 hq2)
def wX0_init_11 (p q0 q1 q2 : Nat) (h : aHp) : aHp := aNew (wX0_init_10 p q0 q1 q2 h) (.inl (.int, 9))
theorem lwX0_init_11 (p q0 q1 q2 : Nat) (h : aHp) : (wX0_init_11 p q0 q1 q2 h).1.length = h.1.length + 6 := len_step (s := 5) (t := 6) (lwX0_init_10 p q0 q1 q2 h) rfl
theorem swX0_init_11 (p q0 q1 q2 : Nat) (h : aHp) : aSn (wX0_init_11 p q0 q1 q2 h).1 = aSn h.1 + 629 := sn_step (s := 620) (z := 9) (t := 629) (swX0_init_10 p q0 q1 q2 h) rfl rfl
theorem gwX0_init_11 {p q0 q1 q2 z : Nat} {h : aHp} {y : aSh} (hs0 : (wX0_init_10 p q0 q1 q2 h).1[z]? = some y) : (wX0_init_11 p q0 q1 q2 h).1[z]? = some y := aNew_get hs0
theorem GX0_init_z0_11 {p q0 q1 q2 : Nat} {h : aHp} (hs : h.1[p]? = some (.inr 0)) (hq0 : h.1[q0]? = some (.inr 1)) (hq1 : h.1[q1]? = some (.inr 3)) (hq2 : h.1[q2]? = some (.inr 8)) : (wX0_init_11 p q0 q1 q2 h).1[p]? = some (.inr 0) := gwX0_init_11 (GX0_init_z0_10 hs hq0 hq1 hq2)
def wX0_init_12 (p q0 q1 q2 : Nat) (h : aHp) : aHp := pR (wX0_init_11 p q0 q1 q2 h) p 8 (some (100 + (h.1.length + 5)))
theorem lwX0_init_12 (p q0 q1 q2 : Nat) (h : aHp) : (wX0_init_12 p q0 q1 q2 h).1.length = h.1.length + 6 := (lwX0_init_11 p q0 q1 q2 h)
theorem swX0_init_12 (p q0 q1 q2 : Nat) (h : aHp) : aSn (wX0_init_12 p q0 q1 q2 h).1 = aSn h.1 + 629 := (swX0_init_11 p q0 q1 q2 h)
theorem gwX0_init_12 {p q0 q1 q2 z : Nat} {h : aHp} {y : aSh} (hs0 : (wX0_init_11 p q0 q1 q2 h).1[z]? = some y) : (wX0_init_12 p q0 q1 q2 h).1[z]? = some y := hs0
theorem GX0_init_z0_12 {p q0 q1 q2 : Nat} {h : aHp} (hs : h.1[p]? = some (.inr 0)) (hq0 : h.1[q0]? = some (.inr 1)) (hq1 : h.1[q1]? = some (.inr 3)) (hq2 : h.1[q2]? = some (.inr 8)) : (wX0_init_12 p q0 q1 q2 h).1[p]? = some (.inr 0) := gwX0_init_12 (GX0_init_z0_11 hs hq0 hq1 hq2)
def wX0_init_13 (p q0 q1 q2 : Nat) (h : aHp) : aHp := aNew (wX0_init_12 p q0 q1 q2 h) (.inl (.int, 108))
theorem lwX0_init_13 (p q0 q1 q2 : Nat) (h : aHp) : (wX0_init_13 p q0 q1 q2 h).1.length = h.1.length + 7 := len_step (s := 6) (t := 7) (lwX0_init_12 p q0 q1 q2 h) rfl
theorem swX0_init_13 (p q0 q1 q2 : Nat) (h : aHp) : aSn (wX0_init_13 p q0 q1 q2 h).1 = aSn h.1 + 737 := sn_step (s := 629) (z := 108) (t := 737) (swX0_init_12 p q0 q1 q2 h) rfl rfl
theorem gwX0_init_13 {p q0 q1 q2 z : Nat} {h : aHp} {y : aSh} (hs0 : (wX0_init_12 p q0 q1 q2 h).1[z]? = some y) : (wX0_init_13 p q0 q1 q2 h).1[z]? = some y := aNew_get hs0
theorem GX0_init_z0_13 {p q0 q1 q2 : Nat} {h : aHp} (hs : h.1[p]? = some (.inr 0)) (hq0 : h.1[q0]? = some (.inr 1)) (hq1 : h.1[q1]? = some (.inr 3)) (hq2 : h.1[q2]? = some (.inr 8)) : (wX0_init_13 p q0 q1 q2 h).1[p]? = some (.inr 0) := gwX0_init_13 (GX0_init_z0_12 hs hq0 hq1 hq2)
def wX0_init_14 (p q0 q1 q2 : Nat) (h : aHp) : aHp := pR (wX0_init_13 p q0 q1 q2 h) p 9 (some (100 + (h.1.length + 6)))
theorem lwX0_init_14 (p q0 q1 q2 : Nat) (h : aHp) : (wX0_init_14 p q0 q1 q2 h).1.length = h.1.length + 7 := (lwX0_init_13 p q0 q1 q2 h)
theorem swX0_init_14 (p q0 q1 q2 : Nat) (h : aHp) : aSn (wX0_init_14 p q0 q1 q2 h).1 = aSn h.1 + 737 := (swX0_init_13 p q0 q1 q2 h)
theorem gwX0_init_14 {p q0 q1 q2 z : Nat} {h : aHp} {y : aSh} (hs0 : (wX0_init_13 p q0 q1 q2 h).1[z]? = some y) : (wX0_init_14 p q0 q1 q2 h).1[z]? = some y := hs0
theorem GX0_init_z0_14 {p q0 q1 q2 : Nat} {h : aHp} (hs : h.1[p]? = some (.inr 0)) (hq0 : h.1[q0]? = some (.inr 1)) (hq1 : h.1[q1]? = some (.inr 3)) (hq2 : h.1[q2]? = some (.inr 8)) : (wX0_init_14 p q0 q1 q2 h).1[p]? = some (.inr 0) := gwX0_init_14 (GX0_init_z0_13 hs hq0 hq1 hq2)
def wX0_init_15 (p q0 q1 q2 : Nat) (h : aHp) : aHp := aNew (wX0_init_14 p q0 q1 q2 h) (.inl (.int, 40))
theorem lwX0_init_15 (p q0 q1 q2 : Nat) (h : aHp) : (wX0_init_15 p q0 q1 q2 h).1.length = h.1.length + 8 := len_step (s := 7) (t := 8) (lwX0_init_14 p q0 q1 q2 h) rfl
theorem swX0_init_15 (p q0 q1 q2 : Nat) (h : aHp) : aSn (wX0_init_15 p q0 q1 q2 h).1 = aSn h.1 + 777 := sn_step (s := 737) (z := 40) (t := 777) (swX0_init_14 p q0 q1 q2 h) rfl rfl
theorem gwX0_init_15 {p q0 q1 q2 z : Nat} {h : aHp} {y : aSh} (hs0 : (wX0_init_14 p q0 q1 q2 h).1[z]? = some y) : (wX0_init_15 p q0 q1 q2 h).1[z]? = some y := aNew_get hs0
theorem GX0_init_z0_15 {p q0 q1 q2 : Nat} {h : aHp} (hs : h.1[p]? = some (.inr 0)) (hq0 : h.1[q0]? = some (.inr 1)) (hq1 : h.1[q1]? = some (.inr 3)) (hq2 : h.1[q2]? = some (.inr 8)) : (wX0_init_15 p q0 q1 q2 h).1[p]? = some (.inr 0) := gwX0_init_15 (GX0_init_z0_14 hs hq0 hq1 hq2)
def wX0_init_16 (p q0 q1 q2 : Nat) (h : aHp) : aHp := pR (wX0_init_15 p q0 q1 q2 h) p 10 (some (100 + (h.1.length + 7)))
theorem lwX0_init_16 (p q0 q1 q2 : Nat) (h : aHp) : (wX0_init_16 p q0 q1 q2 h).1.length = h.1.length + 8 := (lwX0_init_15 p q0 q1 q2 h)
theorem swX0_init_16 (p q0 q1 q2 : Nat) (h : aHp) : aSn (wX0_init_16 p q0 q1 q2 h).1 = aSn h.1 + 777 := (swX0_init_15 p q0 q1 q2 h)
theorem gwX0_init_16 {p q0 q1 q2 z : Nat} {h : aHp} {y : aSh} (hs0 : (wX0_init_15 p q0 q1 q2 h).1[z]? = some y) : (wX0_init_16 p q0 q1 q2 h).1[z]? = some y := hs0
theorem GX0_init_z0_16 {p q0 q1 q2 : Nat} {h : aHp} (hs : h.1[p]? = some (.inr 0)) (hq0 : h.1[q0]? = some (.inr 1)) (hq1 : h.1[q1]? = some (.inr 3)) (hq2 : h.1[q2]? = some (.inr 8)) : (wX0_init_16 p q0 q1 q2 h).1[p]? = some (.inr 0) := gwX0_init_16 (GX0_init_z0_15 hs hq0 hq1 hq2)
def wX0_init_17 (p q0 q1 q2 : Nat) (h : aHp) : aHp := aNew (wX0_init_16 p q0 q1 q2 h) (.inl (.int, 40))
theorem lwX0_init_17 (p q0 q1 q2 : Nat) (h : aHp) : (wX0_init_17 p q0 q1 q2 h).1.length = h.1.length + 9 := len_step (s := 8) (t := 9) (lwX0_init_16 p q0 q1 q2 h) rfl
theorem swX0_init_17 (p q0 q1 q2 : Nat) (h : aHp) : aSn (wX0_init_17 p q0 q1 q2 h).1 = aSn h.1 + 817 := sn_step (s := 777) (z := 40) (t := 817) (swX0_init_16 p q0 q1 q2 h) rfl rfl
theorem gwX0_init_17 {p q0 q1 q2 z : Nat} {h : aHp} {y : aSh} (hs0 : (wX0_init_16 p q0 q1 q2 h).1[z]? = some y) : (wX0_init_17 p q0 q1 q2 h).1[z]? = some y := aNew_get hs0
theorem GX0_init_z0_17 {p q0 q1 q2 : Nat} {h : aHp} (hs : h.1[p]? = some (.inr 0)) (hq0 : h.1[q0]? = some (.inr 1)) (hq1 : h.1[q1]? = some (.inr 3)) (hq2 : h.1[q2]? = some (.inr 8)) : (wX0_init_17 p q0 q1 q2 h).1[p]? = some (.inr 0) := gwX0_init_17 (GX0_init_z0_16 hs hq0 hq1 hq2)
def wX0_init_18 (p q0 q1 q2 : Nat) (h : aHp) : aHp := pR (wX0_init_17 p q0 q1 q2 h) p 11 (some (100 + (h.1.length + 8)))
theorem lwX0_init_18 (p q0 q1 q2 : Nat) (h : aHp) : (wX0_init_18 p q0 q1 q2 h).1.length = h.1.length + 9 := (lwX0_init_17 p q0 q1 q2 h)
theorem swX0_init_18 (p q0 q1 q2 : Nat) (h : aHp) : aSn (wX0_init_18 p q0 q1 q2 h).1 = aSn h.1 + 817 := (swX0_init_17 p q0 q1 q2 h)
theorem gwX0_init_18 {p q0 q1 q2 z : Nat} {h : aHp} {y : aSh} (hs0 : (wX0_init_17 p q0 q1 q2 h).1[z]? = some y) : (wX0_init_18 p q0 q1 q2 h).1[z]? = some y := hs0
theorem GX0_init_z0_18 {p q0 q1 q2 : Nat} {h : aHp} (hs : h.1[p]? = some (.inr 0)) (hq0 : h.1[q0]? = some (.inr 1)) (hq1 : h.1[q1]? = some (.inr 3)) (hq2 : h.1[q2]? = some (.inr 8)) : (wX0_init_18 p q0 q1 q2 h).1[p]? = some (.inr 0) := gwX0_init_18 (GX0_init_z0_17 hs hq0 hq1 hq2)
def wX0_init_19 (p q0 q1 q2 : Nat) (h : aHp) : aHp := pR (wX0_init_18 p q0 q1 q2 h) p 0 (some (100 + q0))
theorem lwX0_init_19 (p q0 q1 q2 : Nat) (h : aHp) : (wX0_init_19 p q0 q1 q2 h).1.length = h.1.length + 9 := (lwX0_init_18 p q0 q1 q2 h)
theorem swX0_init_19 (p q0 q1 q2 : Nat) (h : aHp) : aSn (wX0_init_19 p q0 q1 q2 h).1 = aSn h.1 + 817 := (swX0_init_18 p q0 q1 q2 h)
theorem gwX0_init_19 {p q0 q1 q2 z : Nat} {h : aHp} {y : aSh} (hs0 : (wX0_init_18 p q0 q1 q2 h).1[z]? = some y) : (wX0_init_19 p q0 q1 q2 h).1[z]? = some y := hs0
theorem GX0_init_z0_19 {p q0 q1 q2 : Nat} {h : aHp} (hs : h.1[p]? = some (.inr 0)) (hq0 : h.1[q0]? = some (.inr 1)) (hq1 : h.1[q1]? = some (.inr 3)) (hq2 : h.1[q2]? = some (.inr 8)) : (wX0_init_19 p q0 q1 q2 h).1[p]? = some (.inr 0) := gwX0_init_19 (GX0_init_z0_18 hs hq0 hq1 hq2)
def wX0_init_20 (p q0 q1 q2 : Nat) (h : aHp) : aHp := pR (wX0_init_19 p q0 q1 q2 h) p 1 (some (100 + q1))
theorem lwX0_init_20 (p q0 q1 q2 : Nat) (h : aHp) : (wX0_init_20 p q0 q1 q2 h).1.length = h.1.length + 9 := (lwX0_init_19 p q0 q1 q2 h)
theorem swX0_init_20 (p q0 q1 q2 : Nat) (h : aHp) : aSn (wX0_init_20 p q0 q1 q2 h).1 = aSn h.1 + 817 := (swX0_init_19 p q0 q1 q2 h)
theorem gwX0_init_20 {p q0 q1 q2 z : Nat} {h : aHp} {y : aSh} (hs0 : (wX0_init_19 p q0 q1 q2 h).1[z]? = some y) : (wX0_init_20 p q0 q1 q2 h).1[z]? = some y := hs0
theorem GX0_init_z0_20 {p q0 q1 q2 : Nat} {h : aHp} (hs : h.1[p]? = some (.inr 0)) (hq0 : h.1[q0]? = some (.inr 1)) (hq1 : h.1[q1]? = some (.inr 3)) (hq2 : h.1[q2]? = some (.inr 8)) : (wX0_init_20 p q0 q1 q2 h).1[p]? = some (.inr 0) := gwX0_init_20 (GX0_init_z0_19 hs hq0 hq1 hq2)
def wX0_init_21 (p q0 q1 q2 : Nat) (h : aHp) : aHp := pR (wX0_init_20 p q0 q1 q2 h) p 2 (some (100 + q2))
theorem lwX0_init_21 (p q0 q1 q2 : Nat) (h : aHp) : (wX0_init_21 p q0 q1 q2 h).1.length = h.1.length + 9 := (lwX0_init_20 p q0 q1 q2 h)
theorem swX0_init_21 (p q0 q1 q2 : Nat) (h : aHp) : aSn (wX0_init_21 p q0 q1 q2 h).1 = aSn h.1 + 817 := (swX0_init_20 p q0 q1 q2 h)
theorem gwX0_init_21 {p q0 q1 q2 z : Nat} {h : aHp} {y : aSh} (hs0 : (wX0_init_20 p q0 q1 q2 h).1[z]? = some y) : (wX0_init_21 p q0 q1 q2 h).1[z]? = some y := hs0
def wX0_init (p q0 q1 q2 : Nat) (h : aHp) : aHp := (wX0_init_21 p q0 q1 q2 h)
theorem lenX0_init (p q0 q1 q2 : Nat) (h : aHp) : (wX0_init p q0 q1 q2 h).1.length = h.1.length + 9 := lwX0_init_21 p q0 q1 q2 h
theorem snX0_init (p q0 q1 q2 : Nat) (h : aHp) : aSn (wX0_init p q0 q1 q2 h).1 = aSn h.1 + 817 := swX0_init_21 p q0 q1 q2 h
theorem getX0_init {p q0 q1 q2 z : Nat} {h : aHp} {y : aSh} (hs0 : h.1[z]? = some y) : (wX0_init p q0 q1 q2 h).1[z]? = some y := gwX0_init_21 (gwX0_init_20 (gwX0_init_19 (gwX0_init_18 (gwX0_init_17 (gwX0_init_16 (gwX0_init_15 (gwX0_init_14 (gwX0_init_13 (gwX0_init_12 (gwX0_init_11 (gwX0_init_10 (gwX0_init_9 (gwX0_init_8 (gwX0_init_7 (gwX0_init_6 (gwX0_init_5 (gwX0_init_4 (gwX0_init_3 (gwX0_init_2 (gwX0_init_1 (hs0)))))))))))))))))))))
theorem rvX0_init_1 {p q0 q1 q2 z k : Nat} {h : aHp} (hz : z < h.1.length) (hne : z ≠ p) : (wX0_init_1 p q0 q1 q2 h).2.2.2 z k = h.2.2.2 z k := (aNew_rv hz).trans (rfl)
theorem rvX0_init_2 {p q0 q1 q2 z k : Nat} {h : aHp} (hz : z < h.1.length) (hne : z ≠ p) : (wX0_init_2 p q0 q1 q2 h).2.2.2 z k = h.2.2.2 z k := (pR_rv (Or.inl hne)).trans (rvX0_init_1 hz hne)
theorem rvX0_init_3 {p q0 q1 q2 z k : Nat} {h : aHp} (hz : z < h.1.length) (hne : z ≠ p) : (wX0_init_3 p q0 q1 q2 h).2.2.2 z k = h.2.2.2 z k := (aNew_rv (by rw [lwX0_init_2]; exact lt_k hz)).trans (rvX0_init_2 hz hne)
theorem rvX0_init_4 {p q0 q1 q2 z k : Nat} {h : aHp} (hz : z < h.1.length) (hne : z ≠ p) : (wX0_init_4 p q0 q1 q2 h).2.2.2 z k = h.2.2.2 z k := (pR_rv (Or.inl hne)).trans (rvX0_init_3 hz hne)
theorem rvX0_init_5 {p q0 q1 q2 z k : Nat} {h : aHp} (hz : z < h.1.length) (hne : z ≠ p) : (wX0_init_5 p q0 q1 q2 h).2.2.2 z k = h.2.2.2 z k := (aNew_rv (by rw [lwX0_init_4]; exact lt_k hz)).trans (rvX0_init_4 hz hne)
theorem rvX0_init_6 {p q0 q1 q2 z k : Nat} {h : aHp} (hz : z < h.1.length) (hne : z ≠ p) : (wX0_init_6 p q0 q1 q2 h).2.2.2 z k = h.2.2.2 z k := (pR_rv (Or.inl hne)).trans (rvX0_init_5 hz hne)
theorem rvX0_init_7 {p q0 q1 q2 z k : Nat} {h : aHp} (hz : z < h.1.length) (hne : z ≠ p) : (wX0_init_7 p q0 q1 q2 h).2.2.2 z k = h.2.2.2 z k := (aNew_rv (by rw [lwX0_init_6]; exact lt_k hz)).trans (rvX0_init_6 hz hne)
theorem rvX0_init_8 {p q0 q1 q2 z k : Nat} {h : aHp} (hz : z < h.1.length) (hne : z ≠ p) : (wX0_init_8 p q0 q1 q2 h).2.2.2 z k = h.2.2.2 z k := (pR_rv (Or.inl hne)).trans (rvX0_init_7 hz hne)
theorem rvX0_init_9 {p q0 q1 q2 z k : Nat} {h : aHp} (hz : z < h.1.length) (hne : z ≠ p) : (wX0_init_9 p q0 q1 q2 h).2.2.2 z k = h.2.2.2 z k := (aNew_rv (by rw [lwX0_init_8]; exact lt_k hz)).trans (rvX0_init_8 hz hne)
theorem rvX0_init_10 {p q0 q1 q2 z k : Nat} {h : aHp} (hz : z < h.1.length) (hne : z ≠ p) : (wX0_init_10 p q0 q1 q2 h).2.2.2 z k = h.2.2.2 z k := (pR_rv (Or.inl hne)).trans (rvX0_init_9 hz hne)
theorem rvX0_init_11 {p q0 q1 q2 z k : Nat} {h : aHp} (hz : z < h.1.length) (hne : z ≠ p) : (wX0_init_11 p q0 q1 q2 h).2.2.2 z k = h.2.2.2 z k := (aNew_rv (by rw [lwX0_init_10]; exact lt_k hz)).trans (rvX0_init_10 hz hne)
theorem rvX0_init_12 {p q0 q1 q2 z k : Nat} {h : aHp} (hz : z < h.1.length) (hne : z ≠ p) : (wX0_init_12 p q0 q1 q2 h).2.2.2 z k = h.2.2.2 z k := (pR_rv (Or.inl hne)).trans (rvX0_init_11 hz hne)
theorem rvX0_init_13 {p q0 q1 q2 z k : Nat} {h : aHp} (hz : z < h.1.length) (hne : z ≠ p) : (wX0_init_13 p q0 q1 q2 h).2.2.2 z k = h.2.2.2 z k := (aNew_rv (by rw [lwX0_init_12]; exact lt_k hz)).trans (rvX0_init_12 hz hne)
theorem rvX0_init_14 {p q0 q1 q2 z k : Nat} {h : aHp} (hz : z < h.1.length) (hne : z ≠ p) : (wX0_init_14 p q0 q1 q2 h).2.2.2 z k = h.2.2.2 z k := (pR_rv (Or.inl hne)).trans (rvX0_init_13 hz hne)
theorem rvX0_init_15 {p q0 q1 q2 z k : Nat} {h : aHp} (hz : z < h.1.length) (hne : z ≠ p) : (wX0_init_15 p q0 q1 q2 h).2.2.2 z k = h.2.2.2 z k := (aNew_rv (by rw [lwX0_init_14]; exact lt_k hz)).trans (rvX0_init_14 hz hne)
theorem rvX0_init_16 {p q0 q1 q2 z k : Nat} {h : aHp} (hz : z < h.1.length) (hne : z ≠ p) : (wX0_init_16 p q0 q1 q2 h).2.2.2 z k = h.2.2.2 z k := (pR_rv (Or.inl hne)).trans (rvX0_init_15 hz hne)
theorem rvX0_init_17 {p q0 q1 q2 z k : Nat} {h : aHp} (hz : z < h.1.length) (hne : z ≠ p) : (wX0_init_17 p q0 q1 q2 h).2.2.2 z k = h.2.2.2 z k := (aNew_rv (by rw [lwX0_init_16]; exact lt_k hz)).trans (rvX0_init_16 hz hne)
theorem rvX0_init_18 {p q0 q1 q2 z k : Nat} {h : aHp} (hz : z < h.1.length) (hne : z ≠ p) : (wX0_init_18 p q0 q1 q2 h).2.2.2 z k = h.2.2.2 z k := (pR_rv (Or.inl hne)).trans (rvX0_init_17 hz hne)
theorem rvX0_init_19 {p q0 q1 q2 z k : Nat} {h : aHp} (hz : z < h.1.length) (hne : z ≠ p) : (wX0_init_19 p q0 q1 q2 h).2.2.2 z k = h.2.2.2 z k := (pR_rv (Or.inl hne)).trans (rvX0_init_18 hz hne)
theorem rvX0_init_20 {p q0 q1 q2 z k : Nat} {h : aHp} (hz : z < h.1.length) (hne : z ≠ p) : (wX0_init_20 p q0 q1 q2 h).2.2.2 z k = h.2.2.2 z k := (pR_rv (Or.inl hne)).trans (rvX0_init_19 hz hne)
theorem rvX0_init_21 {p q0 q1 q2 z k : Nat} {h : aHp} (hz : z < h.1.length) (hne : z ≠ p) : (wX0_init_21 p q0 q1 q2 h).2.2.2 z k = h.2.2.2 z k := (pR_rv (Or.inl hne)).trans (rvX0_init_20 hz hne)
theorem rvX0_init {p q0 q1 q2 z k : Nat} {h : aHp} (hz : z < h.1.length) (hne : z ≠ p) : (wX0_init p q0 q1 q2 h).2.2.2 z k = h.2.2.2 z k := rvX0_init_21 hz hne
section CK
variable {pg : Program} {l : Launch} {e : Env} {R : Room} {s : State} {m : MethodId} {args : Array Value} {below : List Frame} {meth : Method} {c : Code} {Q : State → Prop} {D : va_G} {cA : FieldType → ClassId} {A : Nat → Prop} {ad0 : Nat → Nat}
theorem ckX0_init_0 {p q0 q1 q2 : Nat} {h : aHp} (hX : aX pg s m args c yX0_init.cls cX0_init 4 D cA A ad0) (hnm : meth.name = "<init>") (hs : h.1[p]? = some (.inr 0)) (hq0 : h.1[q0]? = some (.inr 1)) (hq1 : h.1[q1]? = some (.inr 3)) (hq2 : h.1[q2]? = some (.inr 8)) (hp : p < h.1.length) (hp0 : q0 < h.1.length) (hp1 : q1 < h.1.length) (hp2 : q2 < h.1.length) (hRf : 1 ≤ R.frames) (hRl : 64 * 1 ≤ R.locals) (hRf1 : 1 ≤ R.frames) (hRl1 : (([] : List Value).map (fun v => v.category)).sum + 12 ≤ R.locals) (hRc : 9 ≤ R.cells) (hRs : 817 ≤ R.slots) (hL : ∀ n, h.1.length ≤ n → ((aEnt [.ref (100 + p), .ref (100 + q0), .ref (100 + q1), .ref (100 + q2)] 4).all (fun o => match o with | some v => aBel (100 + n) v | none => true)) = true)
    (kk : aJ pg l e R s m args below meth c Q D cA A ad0 4 h.1.length (aSn h.1) 29 (aEnt [.ref (100 + p), .ref (100 + q0), .ref (100 + q1), .ref (100 + q2)] 4) [] (wX0_init_6 p q0 q1 q2 h)) : aJ pg l e R s m args below meth c Q D cA A ad0 4 h.1.length (aSn h.1) 0 (aEnt [.ref (100 + p), .ref (100 + q0), .ref (100 + q1), .ref (100 + q2)] 4) [] h := by
  refine j_aload_n hX dX0_init_0 rfl ?_
  refine jpc (b := 1) rfl ?_
  refine j_obj hX lk_X0_5 dX0_init_1 ⟨hRf1, hRl1⟩ ?_
  refine jpc (b := 4) rfl ?_
  refine j_aload_n hX dX0_init_4 rfl ?_
  refine jpc (b := 5) rfl ?_
  refine j_sipush hX dX0_init_5 sp_512 ?_
  refine jpc (b := 8) rfl ?_
  refine j_newaN (ty := .int) (t0 := 0) (n := 512) (n0 := h.1.length) hX dX0_init_8 rfl (fun _ => rfl) wAr_int (fun _ => rfl) (by decide) (by decide) (by decide) rfl (b_cons (b_ref hp) b_nil) (hL _ (Nat.le_refl _)) (rmC (Nat.add_zero _).symm hRc (by decide)) (rmS (Nat.add_zero (aSn h.1)).symm hRs (by decide)) (h' := wX0_init_1 p q0 q1 q2 h) rfl ?_
  refine jpc (b := 10) rfl ?_
  refine j_putRFN (k := 3) hX kX0 (by decide) fk_X0_13 (putv (a := h.1.length) (k := 1) (lwX0_init_1 p q0 q1 q2 h) (Nat.lt_add_of_pos_right (by decide))) dX0_init_10 (GX0_init_z0_1 hs hq0 hq1 hq2) rfl rfl hnm rfl (h' := wX0_init_2 p q0 q1 q2 h) rfl ?_
  refine jpc (b := 13) rfl ?_
  refine j_aload_n hX dX0_init_13 rfl ?_
  refine jpc (b := 14) rfl ?_
  refine j_bipush hX dX0_init_14 bp_81 ?_
  refine jpc (b := 16) rfl ?_
  refine j_newaN (ty := .int) (t0 := 0) (n := 81) (n0 := (h.1.length + 1)) hX dX0_init_16 rfl (fun _ => rfl) wAr_int (fun _ => rfl) (by decide) (by decide) (by decide) (lwX0_init_2 p q0 q1 q2 h) (b_cons (b_ref (lt_k hp)) b_nil) (hL _ (Nat.le_add_right _ _)) (rmC rfl hRc (by decide)) (rmS (swX0_init_2 p q0 q1 q2 h) hRs (by decide)) (h' := wX0_init_3 p q0 q1 q2 h) rfl ?_
  refine jpc (b := 18) rfl ?_
  refine j_putRFN (k := 4) hX kX0 (by decide) fk_X0_17 (putv (a := h.1.length) (k := 2) (lwX0_init_3 p q0 q1 q2 h) (lt_j (by decide))) dX0_init_18 (GX0_init_z0_3 hs hq0 hq1 hq2) rfl rfl hnm rfl (h' := wX0_init_4 p q0 q1 q2 h) rfl ?_
  refine jpc (b := 21) rfl ?_
  refine j_aload_n hX dX0_init_21 rfl ?_
  refine jpc (b := 22) rfl ?_
  refine j_bipush hX dX0_init_22 bp_9 ?_
  refine jpc (b := 24) rfl ?_
  refine j_newaN (ty := .int) (t0 := 0) (n := 9) (n0 := (h.1.length + 2)) hX dX0_init_24 rfl (fun _ => rfl) wAr_int (fun _ => rfl) (by decide) (by decide) (by decide) (lwX0_init_4 p q0 q1 q2 h) (b_cons (b_ref (lt_k hp)) b_nil) (hL _ (Nat.le_add_right _ _)) (rmC rfl hRc (by decide)) (rmS (swX0_init_4 p q0 q1 q2 h) hRs (by decide)) (h' := wX0_init_5 p q0 q1 q2 h) rfl ?_
  refine jpc (b := 26) rfl ?_
  refine j_putRFN (k := 5) hX kX0 (by decide) fk_X0_20 (putv (a := h.1.length) (k := 3) (lwX0_init_5 p q0 q1 q2 h) (lt_j (by decide))) dX0_init_26 (GX0_init_z0_5 hs hq0 hq1 hq2) rfl rfl hnm rfl (h' := wX0_init_6 p q0 q1 q2 h) rfl ?_
  exact kk
end CK
section CK
variable {pg : Program} {l : Launch} {e : Env} {R : Room} {s : State} {m : MethodId} {args : Array Value} {below : List Frame} {meth : Method} {c : Code} {Q : State → Prop} {D : va_G} {cA : FieldType → ClassId} {A : Nat → Prop} {ad0 : Nat → Nat}
theorem ckX0_init_29 {p q0 q1 q2 : Nat} {h : aHp} (hX : aX pg s m args c yX0_init.cls cX0_init 4 D cA A ad0) (hnm : meth.name = "<init>") (hs : h.1[p]? = some (.inr 0)) (hq0 : h.1[q0]? = some (.inr 1)) (hq1 : h.1[q1]? = some (.inr 3)) (hq2 : h.1[q2]? = some (.inr 8)) (hp : p < h.1.length) (hp0 : q0 < h.1.length) (hp1 : q1 < h.1.length) (hp2 : q2 < h.1.length) (hRf : 1 ≤ R.frames) (hRl : 64 * 1 ≤ R.locals) (hRf1 : 1 ≤ R.frames) (hRl1 : (([] : List Value).map (fun v => v.category)).sum + 12 ≤ R.locals) (hRc : 9 ≤ R.cells) (hRs : 817 ≤ R.slots) (hL : ∀ n, h.1.length ≤ n → ((aEnt [.ref (100 + p), .ref (100 + q0), .ref (100 + q1), .ref (100 + q2)] 4).all (fun o => match o with | some v => aBel (100 + n) v | none => true)) = true)
    (kk : aJ pg l e R s m args below meth c Q D cA A ad0 4 h.1.length (aSn h.1) 56 (aEnt [.ref (100 + p), .ref (100 + q0), .ref (100 + q1), .ref (100 + q2)] 4) [.int 108, .ref (100 + p)] (wX0_init_12 p q0 q1 q2 h)) : aJ pg l e R s m args below meth c Q D cA A ad0 4 h.1.length (aSn h.1) 29 (aEnt [.ref (100 + p), .ref (100 + q0), .ref (100 + q1), .ref (100 + q2)] 4) [] (wX0_init_6 p q0 q1 q2 h) := by
  refine j_aload_n hX dX0_init_29 rfl ?_
  refine jpc (b := 30) rfl ?_
  refine j_bipush hX dX0_init_30 bp_9 ?_
  refine jpc (b := 32) rfl ?_
  refine j_newaN (ty := .int) (t0 := 0) (n := 9) (n0 := (h.1.length + 3)) hX dX0_init_32 rfl (fun _ => rfl) wAr_int (fun _ => rfl) (by decide) (by decide) (by decide) (lwX0_init_6 p q0 q1 q2 h) (b_cons (b_ref (lt_k hp)) b_nil) (hL _ (Nat.le_add_right _ _)) (rmC rfl hRc (by decide)) (rmS (swX0_init_6 p q0 q1 q2 h) hRs (by decide)) (h' := wX0_init_7 p q0 q1 q2 h) rfl ?_
  refine jpc (b := 34) rfl ?_
  refine j_putRFN (k := 6) hX kX0 (by decide) fk_X0_23 (putv (a := h.1.length) (k := 4) (lwX0_init_7 p q0 q1 q2 h) (lt_j (by decide))) dX0_init_34 (GX0_init_z0_7 hs hq0 hq1 hq2) rfl rfl hnm rfl (h' := wX0_init_8 p q0 q1 q2 h) rfl ?_
  refine jpc (b := 37) rfl ?_
  refine j_aload_n hX dX0_init_37 rfl ?_
  refine jpc (b := 38) rfl ?_
  refine j_bipush hX dX0_init_38 bp_9 ?_
  refine jpc (b := 40) rfl ?_
  refine j_newaN (ty := .int) (t0 := 0) (n := 9) (n0 := (h.1.length + 4)) hX dX0_init_40 rfl (fun _ => rfl) wAr_int (fun _ => rfl) (by decide) (by decide) (by decide) (lwX0_init_8 p q0 q1 q2 h) (b_cons (b_ref (lt_k hp)) b_nil) (hL _ (Nat.le_add_right _ _)) (rmC rfl hRc (by decide)) (rmS (swX0_init_8 p q0 q1 q2 h) hRs (by decide)) (h' := wX0_init_9 p q0 q1 q2 h) rfl ?_
  refine jpc (b := 42) rfl ?_
  refine j_putRFN (k := 7) hX kX0 (by decide) fk_X0_26 (putv (a := h.1.length) (k := 5) (lwX0_init_9 p q0 q1 q2 h) (lt_j (by decide))) dX0_init_42 (GX0_init_z0_9 hs hq0 hq1 hq2) rfl rfl hnm rfl (h' := wX0_init_10 p q0 q1 q2 h) rfl ?_
  refine jpc (b := 45) rfl ?_
  refine j_aload_n hX dX0_init_45 rfl ?_
  refine jpc (b := 46) rfl ?_
  refine j_bipush hX dX0_init_46 bp_9 ?_
  refine jpc (b := 48) rfl ?_
  refine j_newaN (ty := .int) (t0 := 0) (n := 9) (n0 := (h.1.length + 5)) hX dX0_init_48 rfl (fun _ => rfl) wAr_int (fun _ => rfl) (by decide) (by decide) (by decide) (lwX0_init_10 p q0 q1 q2 h) (b_cons (b_ref (lt_k hp)) b_nil) (hL _ (Nat.le_add_right _ _)) (rmC rfl hRc (by decide)) (rmS (swX0_init_10 p q0 q1 q2 h) hRs (by decide)) (h' := wX0_init_11 p q0 q1 q2 h) rfl ?_
  refine jpc (b := 50) rfl ?_
  refine j_putRFN (k := 8) hX kX0 (by decide) fk_X0_29 (putv (a := h.1.length) (k := 6) (lwX0_init_11 p q0 q1 q2 h) (lt_j (by decide))) dX0_init_50 (GX0_init_z0_11 hs hq0 hq1 hq2) rfl rfl hnm rfl (h' := wX0_init_12 p q0 q1 q2 h) rfl ?_
  refine jpc (b := 53) rfl ?_
  refine j_aload_n hX dX0_init_53 rfl ?_
  refine jpc (b := 54) rfl ?_
  refine j_bipush hX dX0_init_54 bp_108 ?_
  exact kk
end CK
section CK
variable {pg : Program} {l : Launch} {e : Env} {R : Room} {s : State} {m : MethodId} {args : Array Value} {below : List Frame} {meth : Method} {c : Code} {Q : State → Prop} {D : va_G} {cA : FieldType → ClassId} {A : Nat → Prop} {ad0 : Nat → Nat}
theorem ckX0_init_56 {p q0 q1 q2 : Nat} {h : aHp} (hX : aX pg s m args c yX0_init.cls cX0_init 4 D cA A ad0) (hnm : meth.name = "<init>") (hs : h.1[p]? = some (.inr 0)) (hq0 : h.1[q0]? = some (.inr 1)) (hq1 : h.1[q1]? = some (.inr 3)) (hq2 : h.1[q2]? = some (.inr 8)) (hp : p < h.1.length) (hp0 : q0 < h.1.length) (hp1 : q1 < h.1.length) (hp2 : q2 < h.1.length) (hRf : 1 ≤ R.frames) (hRl : 64 * 1 ≤ R.locals) (hRf1 : 1 ≤ R.frames) (hRl1 : (([] : List Value).map (fun v => v.category)).sum + 12 ≤ R.locals) (hRc : 9 ≤ R.cells) (hRs : 817 ≤ R.slots) (hL : ∀ n, h.1.length ≤ n → ((aEnt [.ref (100 + p), .ref (100 + q0), .ref (100 + q1), .ref (100 + q2)] 4).all (fun o => match o with | some v => aBel (100 + n) v | none => true)) = true)
    (kk : aJ pg l e R s m args below meth c Q D cA A ad0 4 h.1.length (aSn h.1) 83 (aEnt [.ref (100 + p), .ref (100 + q0), .ref (100 + q1), .ref (100 + q2)] 4) [.ref (100 + p)] (wX0_init_19 p q0 q1 q2 h)) : aJ pg l e R s m args below meth c Q D cA A ad0 4 h.1.length (aSn h.1) 56 (aEnt [.ref (100 + p), .ref (100 + q0), .ref (100 + q1), .ref (100 + q2)] 4) [.int 108, .ref (100 + p)] (wX0_init_12 p q0 q1 q2 h) := by
  refine j_newaN (ty := .int) (t0 := 0) (n := 108) (n0 := (h.1.length + 6)) hX dX0_init_56 rfl (fun _ => rfl) wAr_int (fun _ => rfl) (by decide) (by decide) (by decide) (lwX0_init_12 p q0 q1 q2 h) (b_cons (b_ref (lt_k hp)) b_nil) (hL _ (Nat.le_add_right _ _)) (rmC rfl hRc (by decide)) (rmS (swX0_init_12 p q0 q1 q2 h) hRs (by decide)) (h' := wX0_init_13 p q0 q1 q2 h) rfl ?_
  refine jpc (b := 58) rfl ?_
  refine j_putRFN (k := 9) hX kX0 (by decide) fk_X0_32 (putv (a := h.1.length) (k := 7) (lwX0_init_13 p q0 q1 q2 h) (lt_j (by decide))) dX0_init_58 (GX0_init_z0_13 hs hq0 hq1 hq2) rfl rfl hnm rfl (h' := wX0_init_14 p q0 q1 q2 h) rfl ?_
  refine jpc (b := 61) rfl ?_
  refine j_aload_n hX dX0_init_61 rfl ?_
  refine jpc (b := 62) rfl ?_
  refine j_bipush hX dX0_init_62 bp_40 ?_
  refine jpc (b := 64) rfl ?_
  refine j_newaN (ty := .int) (t0 := 0) (n := 40) (n0 := (h.1.length + 7)) hX dX0_init_64 rfl (fun _ => rfl) wAr_int (fun _ => rfl) (by decide) (by decide) (by decide) (lwX0_init_14 p q0 q1 q2 h) (b_cons (b_ref (lt_k hp)) b_nil) (hL _ (Nat.le_add_right _ _)) (rmC rfl hRc (by decide)) (rmS (swX0_init_14 p q0 q1 q2 h) hRs (by decide)) (h' := wX0_init_15 p q0 q1 q2 h) rfl ?_
  refine jpc (b := 66) rfl ?_
  refine j_putRFN (k := 10) hX kX0 (by decide) fk_X0_35 (putv (a := h.1.length) (k := 8) (lwX0_init_15 p q0 q1 q2 h) (lt_j (by decide))) dX0_init_66 (GX0_init_z0_15 hs hq0 hq1 hq2) rfl rfl hnm rfl (h' := wX0_init_16 p q0 q1 q2 h) rfl ?_
  refine jpc (b := 69) rfl ?_
  refine j_aload_n hX dX0_init_69 rfl ?_
  refine jpc (b := 70) rfl ?_
  refine j_bipush hX dX0_init_70 bp_40 ?_
  refine jpc (b := 72) rfl ?_
  refine j_newaN (ty := .int) (t0 := 0) (n := 40) (n0 := (h.1.length + 8)) hX dX0_init_72 rfl (fun _ => rfl) wAr_int (fun _ => rfl) (by decide) (by decide) (by decide) (lwX0_init_16 p q0 q1 q2 h) (b_cons (b_ref (lt_k hp)) b_nil) (hL _ (Nat.le_add_right _ _)) (rmC rfl hRc (by decide)) (rmS (swX0_init_16 p q0 q1 q2 h) hRs (by decide)) (h' := wX0_init_17 p q0 q1 q2 h) rfl ?_
  refine jpc (b := 74) rfl ?_
  refine j_putRFN (k := 11) hX kX0 (by decide) fk_X0_38 (putv (a := h.1.length) (k := 9) (lwX0_init_17 p q0 q1 q2 h) (lt_j (by decide))) dX0_init_74 (GX0_init_z0_17 hs hq0 hq1 hq2) rfl rfl hnm rfl (h' := wX0_init_18 p q0 q1 q2 h) rfl ?_
  refine jpc (b := 77) rfl ?_
  refine j_aload_n hX dX0_init_77 rfl ?_
  refine jpc (b := 78) rfl ?_
  refine j_aload_n hX dX0_init_78 rfl ?_
  refine jpc (b := 79) rfl ?_
  refine j_putRFN (k := 0) hX kX0 (by decide) fk_X0_41 (putv (a := h.1.length) (k := 9) (lwX0_init_18 p q0 q1 q2 h) (lt_k hp0)) dX0_init_79 (GX0_init_z0_18 hs hq0 hq1 hq2) rfl rfl hnm rfl (h' := wX0_init_19 p q0 q1 q2 h) rfl ?_
  refine jpc (b := 82) rfl ?_
  refine j_aload_n hX dX0_init_82 rfl ?_
  exact kk
end CK
section CK
variable {pg : Program} {l : Launch} {e : Env} {R : Room} {s : State} {m : MethodId} {args : Array Value} {below : List Frame} {meth : Method} {c : Code} {Q : State → Prop} {D : va_G} {cA : FieldType → ClassId} {A : Nat → Prop} {ad0 : Nat → Nat}
theorem ckX0_init_83 {p q0 q1 q2 : Nat} {h : aHp} (hX : aX pg s m args c yX0_init.cls cX0_init 4 D cA A ad0) (hnm : meth.name = "<init>") (hs : h.1[p]? = some (.inr 0)) (hq0 : h.1[q0]? = some (.inr 1)) (hq1 : h.1[q1]? = some (.inr 3)) (hq2 : h.1[q2]? = some (.inr 8)) (hp : p < h.1.length) (hp0 : q0 < h.1.length) (hp1 : q1 < h.1.length) (hp2 : q2 < h.1.length) (hRf : 1 ≤ R.frames) (hRl : 64 * 1 ≤ R.locals) (hRf1 : 1 ≤ R.frames) (hRl1 : (([] : List Value).map (fun v => v.category)).sum + 12 ≤ R.locals) (hRc : 9 ≤ R.cells) (hRs : 817 ≤ R.slots) (hL : ∀ n, h.1.length ≤ n → ((aEnt [.ref (100 + p), .ref (100 + q0), .ref (100 + q1), .ref (100 + q2)] 4).all (fun o => match o with | some v => aBel (100 + n) v | none => true)) = true)
    (kk : aJ pg l e R s m args below meth c Q D cA A ad0 4 h.1.length (aSn h.1) 92 (aEnt [.ref (100 + p), .ref (100 + q0), .ref (100 + q1), .ref (100 + q2)] 4) [] (wX0_init_21 p q0 q1 q2 h)) : aJ pg l e R s m args below meth c Q D cA A ad0 4 h.1.length (aSn h.1) 83 (aEnt [.ref (100 + p), .ref (100 + q0), .ref (100 + q1), .ref (100 + q2)] 4) [.ref (100 + p)] (wX0_init_19 p q0 q1 q2 h) := by
  refine j_aload_n hX dX0_init_83 rfl ?_
  refine jpc (b := 84) rfl ?_
  refine j_putRFN (k := 1) hX kX0 (by decide) fk_X0_45 (putv (a := h.1.length) (k := 9) (lwX0_init_19 p q0 q1 q2 h) (lt_k hp1)) dX0_init_84 (GX0_init_z0_19 hs hq0 hq1 hq2) rfl rfl hnm rfl (h' := wX0_init_20 p q0 q1 q2 h) rfl ?_
  refine jpc (b := 87) rfl ?_
  refine j_aload_n hX dX0_init_87 rfl ?_
  refine jpc (b := 88) rfl ?_
  refine j_aload_n hX dX0_init_88 rfl ?_
  refine jpc (b := 89) rfl ?_
  refine j_putRFN (k := 2) hX kX0 (by decide) fk_X0_49 (putv (a := h.1.length) (k := 9) (lwX0_init_20 p q0 q1 q2 h) (lt_k hp2)) dX0_init_89 (GX0_init_z0_20 hs hq0 hq1 hq2) rfl rfl hnm rfl (h' := wX0_init_21 p q0 q1 q2 h) rfl ?_
  exact kk
end CK
theorem okX0_init {l : Launch} {p q0 q1 q2 : Nat} {h : aHp} (hs : h.1[p]? = some (.inr 0)) (hq0 : h.1[q0]? = some (.inr 1)) (hq1 : h.1[q1]? = some (.inr 3)) (hq2 : h.1[q2]? = some (.inr 8)) : aM l yX0_init cX0_init 4 none 1 [.ref (100 + p), .ref (100 + q0), .ref (100 + q1), .ref (100 + q2)] h none (wX0_init p q0 q1 q2 h) := by
  have hp := aLt hs
  have hp0 := aLt hq0
  have hp1 := aLt hq1
  have hp2 := aLt hq2
  have hL : ∀ n, h.1.length ≤ n → ((aEnt [.ref (100 + p), .ref (100 + q0), .ref (100 + q1), .ref (100 + q2)] 4).all (fun o => match o with | some v => aBel (100 + n) v | none => true)) = true := by
    intro n hn
    simp [aBel, aEnt, aEn, Value.category]
    omega
  refine aM_of (by decide) (Nat.le_of_ble_eq_true rfl) (by rw [lenX0_init]; omega) (by rw [snX0_init]; omega) (fun p_ e s m args below meth c D cA A ad0 hX hr hlk hnm => ?_)
  generalize hRe : (Room.mk 1 ((wX0_init p q0 q1 q2 h).1.length - h.1.length) (aSn (wX0_init p q0 q1 q2 h).1 - aSn h.1) (64 * 1)) = R
  have hRf : 1 ≤ R.frames := by rw [← hRe]; exact Nat.le_refl _
  have hRl : 64 * 1 ≤ R.locals := by rw [← hRe]; exact Nat.le_refl _
  have hRf1 : 1 ≤ R.frames := Nat.le_trans (by decide) hRf
  have hRl1 : (([] : List Value).map (fun v => v.category)).sum + 12 ≤ R.locals := Nat.le_trans (by decide) hRl
  have hRc : 9 ≤ R.cells := by rw [← hRe]; show 9 ≤ _ - _; rw [lenX0_init]; omega
  have hRs : 817 ≤ R.slots := by rw [← hRe]; show 817 ≤ _ - _; rw [snX0_init]; omega
  refine ckX0_init_0 hX hnm hs hq0 hq1 hq2 hp hp0 hp1 hp2 hRf hRl hRf1 hRl1 hRc hRs hL ?_
  refine ckX0_init_29 hX hnm hs hq0 hq1 hq2 hp hp0 hp1 hp2 hRf hRl hRf1 hRl1 hRc hRs hL ?_
  refine ckX0_init_56 hX hnm hs hq0 hq1 hq2 hp hp0 hp1 hp2 hRf hRl hRf1 hRl1 hRc hRs hL ?_
  refine ckX0_init_83 hX hnm hs hq0 hq1 hq2 hp hp0 hp1 hp2 hRf hRl hRf1 hRl1 hRc hRs hL ?_
  exact j_vret hX hr hlk dX0_init_92
def wX2_init_1 (p q0 q1 q2 : Nat) (h : aHp) : aHp := aNew h (.inl (.boolean, 8))
theorem lwX2_init_1 (p q0 q1 q2 : Nat) (h : aHp) : (wX2_init_1 p q0 q1 q2 h).1.length = h.1.length + 1 := len_step (s := 0) (t := 1) (Nat.add_zero h.1.length).symm rfl
theorem swX2_init_1 (p q0 q1 q2 : Nat) (h : aHp) : aSn (wX2_init_1 p q0 q1 q2 h).1 = aSn h.1 + 8 := sn_step (s := 0) (z := 8) (t := 8) (Nat.add_zero (aSn h.1)).symm rfl rfl
theorem gwX2_init_1 {p q0 q1 q2 z : Nat} {h : aHp} {y : aSh} (hs0 : h.1[z]? = some y) : (wX2_init_1 p q0 q1 q2 h).1[z]? = some y := aNew_get hs0
theorem GX2_init_z0_1 {p q0 q1 q2 : Nat} {h : aHp} (hs : h.1[p]? = some (.inr 2)) (hq0 : h.1[q0]? = some (.inr 1)) (hq1 : h.1[q1]? = some (.inr 3)) (hq2 : h.1[q2]? = some (.inr 8)) : (wX2_init_1 p q0 q1 q2 h).1[p]? = some (.inr 2) := gwX2_init_1 hs
def wX2_init_2 (p q0 q1 q2 : Nat) (h : aHp) : aHp := pR (wX2_init_1 p q0 q1 q2 h) p 3 (some (100 + h.1.length))
theorem lwX2_init_2 (p q0 q1 q2 : Nat) (h : aHp) : (wX2_init_2 p q0 q1 q2 h).1.length = h.1.length + 1 := (lwX2_init_1 p q0 q1 q2 h)
theorem swX2_init_2 (p q0 q1 q2 : Nat) (h : aHp) : aSn (wX2_init_2 p q0 q1 q2 h).1 = aSn h.1 + 8 := (swX2_init_1 p q0 q1 q2 h)
theorem gwX2_init_2 {p q0 q1 q2 z : Nat} {h : aHp} {y : aSh} (hs0 : (wX2_init_1 p q0 q1 q2 h).1[z]? = some y) : (wX2_init_2 p q0 q1 q2 h).1[z]? = some y := hs0
theorem GX2_init_z0_2 {p q0 q1 q2 : Nat} {h : aHp} (hs : h.1[p]? = some (.inr 2)) (hq0 : h.1[q0]? = some (.inr 1)) (hq1 : h.1[q1]? = some (.inr 3)) (hq2 : h.1[q2]? = some (.inr 8)) : (wX2_init_2 p q0 q1 q2 h).1[p]? = some (.inr 2) := gwX2_init_2 (GX2_init_z0_1 hs hq0 hq1 hq2)
def wX2_init_3 (p q0 q1 q2 : Nat) (h : aHp) : aHp := aNew (wX2_init_2 p q0 q1 q2 h) (.inl (.int, 8))
theorem lwX2_init_3 (p q0 q1 q2 : Nat) (h : aHp) : (wX2_init_3 p q0 q1 q2 h).1.length = h.1.length + 2 := len_step (s := 1) (t := 2) (lwX2_init_2 p q0 q1 q2 h) rfl
theorem swX2_init_3 (p q0 q1 q2 : Nat) (h : aHp) : aSn (wX2_init_3 p q0 q1 q2 h).1 = aSn h.1 + 16 := sn_step (s := 8) (z := 8) (t := 16) (swX2_init_2 p q0 q1 q2 h) rfl rfl
theorem gwX2_init_3 {p q0 q1 q2 z : Nat} {h : aHp} {y : aSh} (hs0 : (wX2_init_2 p q0 q1 q2 h).1[z]? = some y) : (wX2_init_3 p q0 q1 q2 h).1[z]? = some y := aNew_get hs0
theorem GX2_init_z0_3 {p q0 q1 q2 : Nat} {h : aHp} (hs : h.1[p]? = some (.inr 2)) (hq0 : h.1[q0]? = some (.inr 1)) (hq1 : h.1[q1]? = some (.inr 3)) (hq2 : h.1[q2]? = some (.inr 8)) : (wX2_init_3 p q0 q1 q2 h).1[p]? = some (.inr 2) := gwX2_init_3 (GX2_init_z0_2 hs hq0 hq1 hq2)
def wX2_init_4 (p q0 q1 q2 : Nat) (h : aHp) : aHp := pR (wX2_init_3 p q0 q1 q2 h) p 4 (some (100 + (h.1.length + 1)))
theorem lwX2_init_4 (p q0 q1 q2 : Nat) (h : aHp) : (wX2_init_4 p q0 q1 q2 h).1.length = h.1.length + 2 := (lwX2_init_3 p q0 q1 q2 h)
theorem swX2_init_4 (p q0 q1 q2 : Nat) (h : aHp) : aSn (wX2_init_4 p q0 q1 q2 h).1 = aSn h.1 + 16 := (swX2_init_3 p q0 q1 q2 h)
theorem gwX2_init_4 {p q0 q1 q2 z : Nat} {h : aHp} {y : aSh} (hs0 : (wX2_init_3 p q0 q1 q2 h).1[z]? = some y) : (wX2_init_4 p q0 q1 q2 h).1[z]? = some y := hs0
theorem GX2_init_z0_4 {p q0 q1 q2 : Nat} {h : aHp} (hs : h.1[p]? = some (.inr 2)) (hq0 : h.1[q0]? = some (.inr 1)) (hq1 : h.1[q1]? = some (.inr 3)) (hq2 : h.1[q2]? = some (.inr 8)) : (wX2_init_4 p q0 q1 q2 h).1[p]? = some (.inr 2) := gwX2_init_4 (GX2_init_z0_3 hs hq0 hq1 hq2)
def wX2_init_5 (p q0 q1 q2 : Nat) (h : aHp) : aHp := aNew (wX2_init_4 p q0 q1 q2 h) (.inl (.int, 10))
theorem lwX2_init_5 (p q0 q1 q2 : Nat) (h : aHp) : (wX2_init_5 p q0 q1 q2 h).1.length = h.1.length + 3 := len_step (s := 2) (t := 3) (lwX2_init_4 p q0 q1 q2 h) rfl
theorem swX2_init_5 (p q0 q1 q2 : Nat) (h : aHp) : aSn (wX2_init_5 p q0 q1 q2 h).1 = aSn h.1 + 26 := sn_step (s := 16) (z := 10) (t := 26) (swX2_init_4 p q0 q1 q2 h) rfl rfl
theorem gwX2_init_5 {p q0 q1 q2 z : Nat} {h : aHp} {y : aSh} (hs0 : (wX2_init_4 p q0 q1 q2 h).1[z]? = some y) : (wX2_init_5 p q0 q1 q2 h).1[z]? = some y := aNew_get hs0
theorem GX2_init_z0_5 {p q0 q1 q2 : Nat} {h : aHp} (hs : h.1[p]? = some (.inr 2)) (hq0 : h.1[q0]? = some (.inr 1)) (hq1 : h.1[q1]? = some (.inr 3)) (hq2 : h.1[q2]? = some (.inr 8)) : (wX2_init_5 p q0 q1 q2 h).1[p]? = some (.inr 2) := gwX2_init_5 (GX2_init_z0_4 hs hq0 hq1 hq2)
def wX2_init_6 (p q0 q1 q2 : Nat) (h : aHp) : aHp := pR (wX2_init_5 p q0 q1 q2 h) p 5 (some (100 + (h.1.length + 2)))
theorem lwX2_init_6 (p q0 q1 q2 : Nat) (h : aHp) : (wX2_init_6 p q0 q1 q2 h).1.length = h.1.length + 3 := (lwX2_init_5 p q0 q1 q2 h)
theorem swX2_init_6 (p q0 q1 q2 : Nat) (h : aHp) : aSn (wX2_init_6 p q0 q1 q2 h).1 = aSn h.1 + 26 := (swX2_init_5 p q0 q1 q2 h)
theorem gwX2_init_6 {p q0 q1 q2 z : Nat} {h : aHp} {y : aSh} (hs0 : (wX2_init_5 p q0 q1 q2 h).1[z]? = some y) : (wX2_init_6 p q0 q1 q2 h).1[z]? = some y := hs0
theorem GX2_init_z0_6 {p q0 q1 q2 : Nat} {h : aHp} (hs : h.1[p]? = some (.inr 2)) (hq0 : h.1[q0]? = some (.inr 1)) (hq1 : h.1[q1]? = some (.inr 3)) (hq2 : h.1[q2]? = some (.inr 8)) : (wX2_init_6 p q0 q1 q2 h).1[p]? = some (.inr 2) := gwX2_init_6 (GX2_init_z0_5 hs hq0 hq1 hq2)
def wX2_init_7 (p q0 q1 q2 : Nat) (h : aHp) : aHp := aNew (wX2_init_6 p q0 q1 q2 h) (.inl (.boolean, 10))
theorem lwX2_init_7 (p q0 q1 q2 : Nat) (h : aHp) : (wX2_init_7 p q0 q1 q2 h).1.length = h.1.length + 4 := len_step (s := 3) (t := 4) (lwX2_init_6 p q0 q1 q2 h) rfl
theorem swX2_init_7 (p q0 q1 q2 : Nat) (h : aHp) : aSn (wX2_init_7 p q0 q1 q2 h).1 = aSn h.1 + 36 := sn_step (s := 26) (z := 10) (t := 36) (swX2_init_6 p q0 q1 q2 h) rfl rfl
theorem gwX2_init_7 {p q0 q1 q2 z : Nat} {h : aHp} {y : aSh} (hs0 : (wX2_init_6 p q0 q1 q2 h).1[z]? = some y) : (wX2_init_7 p q0 q1 q2 h).1[z]? = some y := aNew_get hs0
theorem GX2_init_z0_7 {p q0 q1 q2 : Nat} {h : aHp} (hs : h.1[p]? = some (.inr 2)) (hq0 : h.1[q0]? = some (.inr 1)) (hq1 : h.1[q1]? = some (.inr 3)) (hq2 : h.1[q2]? = some (.inr 8)) : (wX2_init_7 p q0 q1 q2 h).1[p]? = some (.inr 2) := gwX2_init_7 (GX2_init_z0_6 hs hq0 hq1 hq2)
def wX2_init_8 (p q0 q1 q2 : Nat) (h : aHp) : aHp := pR (wX2_init_7 p q0 q1 q2 h) p 6 (some (100 + (h.1.length + 3)))
theorem lwX2_init_8 (p q0 q1 q2 : Nat) (h : aHp) : (wX2_init_8 p q0 q1 q2 h).1.length = h.1.length + 4 := (lwX2_init_7 p q0 q1 q2 h)
theorem swX2_init_8 (p q0 q1 q2 : Nat) (h : aHp) : aSn (wX2_init_8 p q0 q1 q2 h).1 = aSn h.1 + 36 := (swX2_init_7 p q0 q1 q2 h)
theorem gwX2_init_8 {p q0 q1 q2 z : Nat} {h : aHp} {y : aSh} (hs0 : (wX2_init_7 p q0 q1 q2 h).1[z]? = some y) : (wX2_init_8 p q0 q1 q2 h).1[z]? = some y := hs0
theorem GX2_init_z0_8 {p q0 q1 q2 : Nat} {h : aHp} (hs : h.1[p]? = some (.inr 2)) (hq0 : h.1[q0]? = some (.inr 1)) (hq1 : h.1[q1]? = some (.inr 3)) (hq2 : h.1[q2]? = some (.inr 8)) : (wX2_init_8 p q0 q1 q2 h).1[p]? = some (.inr 2) := gwX2_init_8 (GX2_init_z0_7 hs hq0 hq1 hq2)
def wX2_init_9 (p q0 q1 q2 : Nat) (h : aHp) : aHp := pR (wX2_init_8 p q0 q1 q2 h) p 0 (some (100 + q0))
theorem lwX2_init_9 (p q0 q1 q2 : Nat) (h : aHp) : (wX2_init_9 p q0 q1 q2 h).1.length = h.1.length + 4 := (lwX2_init_8 p q0 q1 q2 h)
theorem swX2_init_9 (p q0 q1 q2 : Nat) (h : aHp) : aSn (wX2_init_9 p q0 q1 q2 h).1 = aSn h.1 + 36 := (swX2_init_8 p q0 q1 q2 h)
theorem gwX2_init_9 {p q0 q1 q2 z : Nat} {h : aHp} {y : aSh} (hs0 : (wX2_init_8 p q0 q1 q2 h).1[z]? = some y) : (wX2_init_9 p q0 q1 q2 h).1[z]? = some y := hs0
theorem GX2_init_z0_9 {p q0 q1 q2 : Nat} {h : aHp} (hs : h.1[p]? = some (.inr 2)) (hq0 : h.1[q0]? = some (.inr 1)) (hq1 : h.1[q1]? = some (.inr 3)) (hq2 : h.1[q2]? = some (.inr 8)) : (wX2_init_9 p q0 q1 q2 h).1[p]? = some (.inr 2) := gwX2_init_9 (GX2_init_z0_8 hs hq0 hq1 hq2)
def wX2_init_10 (p q0 q1 q2 : Nat) (h : aHp) : aHp := pR (wX2_init_9 p q0 q1 q2 h) p 1 (some (100 + q1))
theorem lwX2_init_10 (p q0 q1 q2 : Nat) (h : aHp) : (wX2_init_10 p q0 q1 q2 h).1.length = h.1.length + 4 := (lwX2_init_9 p q0 q1 q2 h)
theorem swX2_init_10 (p q0 q1 q2 : Nat) (h : aHp) : aSn (wX2_init_10 p q0 q1 q2 h).1 = aSn h.1 + 36 := (swX2_init_9 p q0 q1 q2 h)
theorem gwX2_init_10 {p q0 q1 q2 z : Nat} {h : aHp} {y : aSh} (hs0 : (wX2_init_9 p q0 q1 q2 h).1[z]? = some y) : (wX2_init_10 p q0 q1 q2 h).1[z]? = some y := hs0
theorem GX2_init_z0_10 {p q0 q1 q2 : Nat} {h : aHp} (hs : h.1[p]? = some (.inr 2)) (hq0 : h.1[q0]? = some (.inr 1)) (hq1 : h.1[q1]? = some (.inr 3)) (hq2 : h.1[q2]? = some (.inr 8)) : (wX2_init_10 p q0 q1 q2 h).1[p]? = some (.inr 2) := gwX2_init_10 (GX2_init_z0_9 hs hq0 hq1 hq2)
def wX2_init_11 (p q0 q1 q2 : Nat) (h : aHp) : aHp := pR (wX2_init_10 p q0 q1 q2 h) p 2 (some (100 + q2))
theorem lwX2_init_11 (p q0 q1 q2 : Nat) (h : aHp) : (wX2_init_11 p q0 q1 q2 h).1.length = h.1.length + 4 := (lwX2_init_10 p q0 q1 q2 h)
theorem swX2_init_11 (p q0 q1 q2 : Nat) (h : aHp) : aSn (wX2_init_11 p q0 q1 q2 h).1 = aSn h.1 + 36 := (swX2_init_10 p q0 q1 q2 h)
theorem gwX2_init_11 {p q0 q1 q2 z : Nat} {h : aHp} {y : aSh} (hs0 : (wX2_init_10 p q0 q1 q2 h).1[z]? = some y) : (wX2_init_11 p q0 q1 q2 h).1[z]? = some y := hs0
def wX2_init (p q0 q1 q2 : Nat) (h : aHp) : aHp := (wX2_init_11 p q0 q1 q2 h)
theorem lenX2_init (p q0 q1 q2 : Nat) (h : aHp) : (wX2_init p q0 q1 q2 h).1.length = h.1.length + 4 := lwX2_init_11 p q0 q1 q2 h
theorem snX2_init (p q0 q1 q2 : Nat) (h : aHp) : aSn (wX2_init p q0 q1 q2 h).1 = aSn h.1 + 36 := swX2_init_11 p q0 q1 q2 h
theorem getX2_init {p q0 q1 q2 z : Nat} {h : aHp} {y : aSh} (hs0 : h.1[z]? = some y) : (wX2_init p q0 q1 q2 h).1[z]? = some y := gwX2_init_11 (gwX2_init_10 (gwX2_init_9 (gwX2_init_8 (gwX2_init_7 (gwX2_init_6 (gwX2_init_5 (gwX2_init_4 (gwX2_init_3 (gwX2_init_2 (gwX2_init_1 (hs0)))))))))))
theorem rvX2_init_1 {p q0 q1 q2 z k : Nat} {h : aHp} (hz : z < h.1.length) (hne : z ≠ p) : (wX2_init_1 p q0 q1 q2 h).2.2.2 z k = h.2.2.2 z k := (aNew_rv hz).trans (rfl)
theorem rvX2_init_2 {p q0 q1 q2 z k : Nat} {h : aHp} (hz : z < h.1.length) (hne : z ≠ p) : (wX2_init_2 p q0 q1 q2 h).2.2.2 z k = h.2.2.2 z k := (pR_rv (Or.inl hne)).trans (rvX2_init_1 hz hne)
theorem rvX2_init_3 {p q0 q1 q2 z k : Nat} {h : aHp} (hz : z < h.1.length) (hne : z ≠ p) : (wX2_init_3 p q0 q1 q2 h).2.2.2 z k = h.2.2.2 z k := (aNew_rv (by rw [lwX2_init_2]; exact lt_k hz)).trans (rvX2_init_2 hz hne)
theorem rvX2_init_4 {p q0 q1 q2 z k : Nat} {h : aHp} (hz : z < h.1.length) (hne : z ≠ p) : (wX2_init_4 p q0 q1 q2 h).2.2.2 z k = h.2.2.2 z k := (pR_rv (Or.inl hne)).trans (rvX2_init_3 hz hne)
theorem rvX2_init_5 {p q0 q1 q2 z k : Nat} {h : aHp} (hz : z < h.1.length) (hne : z ≠ p) : (wX2_init_5 p q0 q1 q2 h).2.2.2 z k = h.2.2.2 z k := (aNew_rv (by rw [lwX2_init_4]; exact lt_k hz)).trans (rvX2_init_4 hz hne)
theorem rvX2_init_6 {p q0 q1 q2 z k : Nat} {h : aHp} (hz : z < h.1.length) (hne : z ≠ p) : (wX2_init_6 p q0 q1 q2 h).2.2.2 z k = h.2.2.2 z k := (pR_rv (Or.inl hne)).trans (rvX2_init_5 hz hne)
theorem rvX2_init_7 {p q0 q1 q2 z k : Nat} {h : aHp} (hz : z < h.1.length) (hne : z ≠ p) : (wX2_init_7 p q0 q1 q2 h).2.2.2 z k = h.2.2.2 z k := (aNew_rv (by rw [lwX2_init_6]; exact lt_k hz)).trans (rvX2_init_6 hz hne)
theorem rvX2_init_8 {p q0 q1 q2 z k : Nat} {h : aHp} (hz : z < h.1.length) (hne : z ≠ p) : (wX2_init_8 p q0 q1 q2 h).2.2.2 z k = h.2.2.2 z k := (pR_rv (Or.inl hne)).trans (rvX2_init_7 hz hne)
theorem rvX2_init_9 {p q0 q1 q2 z k : Nat} {h : aHp} (hz : z < h.1.length) (hne : z ≠ p) : (wX2_init_9 p q0 q1 q2 h).2.2.2 z k = h.2.2.2 z k := (pR_rv (Or.inl hne)).trans (rvX2_init_8 hz hne)
theorem rvX2_init_10 {p q0 q1 q2 z k : Nat} {h : aHp} (hz : z < h.1.length) (hne : z ≠ p) : (wX2_init_10 p q0 q1 q2 h).2.2.2 z k = h.2.2.2 z k := (pR_rv (Or.inl hne)).trans (rvX2_init_9 hz hne)
theorem rvX2_init_11 {p q0 q1 q2 z k : Nat} {h : aHp} (hz : z < h.1.length) (hne : z ≠ p) : (wX2_init_11 p q0 q1 q2 h).2.2.2 z k = h.2.2.2 z k := (pR_rv (Or.inl hne)).trans (rvX2_init_10 hz hne)
theorem rvX2_init {p q0 q1 q2 z k : Nat} {h : aHp} (hz : z < h.1.length) (hne : z ≠ p) : (wX2_init p q0 q1 q2 h).2.2.2 z k = h.2.2.2 z k := rvX2_init_11 hz hne
section CK
variable {pg : Program} {l : Launch} {e : Env} {R : Room} {s : State} {m : MethodId} {args : Array Value} {below : List Frame} {meth : Method} {c : Code} {Q : State → Prop} {D : va_G} {cA : FieldType → ClassId} {A : Nat → Prop} {ad0 : Nat → Nat}
theorem ckX2_init_0 {p q0 q1 q2 : Nat} {h : aHp} (hX : aX pg s m args c yX2_init.cls cX2_init 4 D cA A ad0) (hnm : meth.name = "<init>") (hs : h.1[p]? = some (.inr 2)) (hq0 : h.1[q0]? = some (.inr 1)) (hq1 : h.1[q1]? = some (.inr 3)) (hq2 : h.1[q2]? = some (.inr 8)) (hp : p < h.1.length) (hp0 : q0 < h.1.length) (hp1 : q1 < h.1.length) (hp2 : q2 < h.1.length) (hRf : 1 ≤ R.frames) (hRl : 64 * 1 ≤ R.locals) (hRf1 : 1 ≤ R.frames) (hRl1 : (([] : List Value).map (fun v => v.category)).sum + 12 ≤ R.locals) (hRc : 4 ≤ R.cells) (hRs : 36 ≤ R.slots) (hL : ∀ n, h.1.length ≤ n → ((aEnt [.ref (100 + p), .ref (100 + q0), .ref (100 + q1), .ref (100 + q2)] 4).all (fun o => match o with | some v => aBel (100 + n) v | none => true)) = true)
    (kk : aJ pg l e R s m args below meth c Q D cA A ad0 4 h.1.length (aSn h.1) 28 (aEnt [.ref (100 + p), .ref (100 + q0), .ref (100 + q1), .ref (100 + q2)] 4) [] (wX2_init_6 p q0 q1 q2 h)) : aJ pg l e R s m args below meth c Q D cA A ad0 4 h.1.length (aSn h.1) 0 (aEnt [.ref (100 + p), .ref (100 + q0), .ref (100 + q1), .ref (100 + q2)] 4) [] h := by
  refine j_aload_n hX dX2_init_0 rfl ?_
  refine jpc (b := 1) rfl ?_
  refine j_obj hX lk_X2_3 dX2_init_1 ⟨hRf1, hRl1⟩ ?_
  refine jpc (b := 4) rfl ?_
  refine j_aload_n hX dX2_init_4 rfl ?_
  refine jpc (b := 5) rfl ?_
  refine j_bipush hX dX2_init_5 bp_8 ?_
  refine jpc (b := 7) rfl ?_
  refine j_newaN (ty := .boolean) (t0 := 2) (n := 8) (n0 := h.1.length) hX dX2_init_7 rfl (fun _ => rfl) wAr_boolean (fun _ => rfl) (by decide) (by decide) (by decide) rfl (b_cons (b_ref hp) b_nil) (hL _ (Nat.le_refl _)) (rmC (Nat.add_zero _).symm hRc (by decide)) (rmS (Nat.add_zero (aSn h.1)).symm hRs (by decide)) (h' := wX2_init_1 p q0 q1 q2 h) rfl ?_
  refine jpc (b := 9) rfl ?_
  refine j_putRFN (k := 3) hX kX2 (by decide) fk_X2_11 (putv (a := h.1.length) (k := 1) (lwX2_init_1 p q0 q1 q2 h) (Nat.lt_add_of_pos_right (by decide))) dX2_init_9 (GX2_init_z0_1 hs hq0 hq1 hq2) rfl rfl hnm rfl (h' := wX2_init_2 p q0 q1 q2 h) rfl ?_
  refine jpc (b := 12) rfl ?_
  refine j_aload_n hX dX2_init_12 rfl ?_
  refine jpc (b := 13) rfl ?_
  refine j_bipush hX dX2_init_13 bp_8 ?_
  refine jpc (b := 15) rfl ?_
  refine j_newaN (ty := .int) (t0 := 0) (n := 8) (n0 := (h.1.length + 1)) hX dX2_init_15 rfl (fun _ => rfl) wAr_int (fun _ => rfl) (by decide) (by decide) (by decide) (lwX2_init_2 p q0 q1 q2 h) (b_cons (b_ref (lt_k hp)) b_nil) (hL _ (Nat.le_add_right _ _)) (rmC rfl hRc (by decide)) (rmS (swX2_init_2 p q0 q1 q2 h) hRs (by decide)) (h' := wX2_init_3 p q0 q1 q2 h) rfl ?_
  refine jpc (b := 17) rfl ?_
  refine j_putRFN (k := 4) hX kX2 (by decide) fk_X2_15 (putv (a := h.1.length) (k := 2) (lwX2_init_3 p q0 q1 q2 h) (lt_j (by decide))) dX2_init_17 (GX2_init_z0_3 hs hq0 hq1 hq2) rfl rfl hnm rfl (h' := wX2_init_4 p q0 q1 q2 h) rfl ?_
  refine jpc (b := 20) rfl ?_
  refine j_aload_n hX dX2_init_20 rfl ?_
  refine jpc (b := 21) rfl ?_
  refine j_bipush hX dX2_init_21 bp_10 ?_
  refine jpc (b := 23) rfl ?_
  refine j_newaN (ty := .int) (t0 := 0) (n := 10) (n0 := (h.1.length + 2)) hX dX2_init_23 rfl (fun _ => rfl) wAr_int (fun _ => rfl) (by decide) (by decide) (by decide) (lwX2_init_4 p q0 q1 q2 h) (b_cons (b_ref (lt_k hp)) b_nil) (hL _ (Nat.le_add_right _ _)) (rmC rfl hRc (by decide)) (rmS (swX2_init_4 p q0 q1 q2 h) hRs (by decide)) (h' := wX2_init_5 p q0 q1 q2 h) rfl ?_
  refine jpc (b := 25) rfl ?_
  refine j_putRFN (k := 5) hX kX2 (by decide) fk_X2_19 (putv (a := h.1.length) (k := 3) (lwX2_init_5 p q0 q1 q2 h) (lt_j (by decide))) dX2_init_25 (GX2_init_z0_5 hs hq0 hq1 hq2) rfl rfl hnm rfl (h' := wX2_init_6 p q0 q1 q2 h) rfl ?_
  exact kk
end CK
section CK
variable {pg : Program} {l : Launch} {e : Env} {R : Room} {s : State} {m : MethodId} {args : Array Value} {below : List Frame} {meth : Method} {c : Code} {Q : State → Prop} {D : va_G} {cA : FieldType → ClassId} {A : Nat → Prop} {ad0 : Nat → Nat}
theorem ckX2_init_28 {p q0 q1 q2 : Nat} {h : aHp} (hX : aX pg s m args c yX2_init.cls cX2_init 4 D cA A ad0) (hnm : meth.name = "<init>") (hs : h.1[p]? = some (.inr 2)) (hq0 : h.1[q0]? = some (.inr 1)) (hq1 : h.1[q1]? = some (.inr 3)) (hq2 : h.1[q2]? = some (.inr 8)) (hp : p < h.1.length) (hp0 : q0 < h.1.length) (hp1 : q1 < h.1.length) (hp2 : q2 < h.1.length) (hRf : 1 ≤ R.frames) (hRl : 64 * 1 ≤ R.locals) (hRf1 : 1 ≤ R.frames) (hRl1 : (([] : List Value).map (fun v => v.category)).sum + 12 ≤ R.locals) (hRc : 4 ≤ R.cells) (hRs : 36 ≤ R.slots) (hL : ∀ n, h.1.length ≤ n → ((aEnt [.ref (100 + p), .ref (100 + q0), .ref (100 + q1), .ref (100 + q2)] 4).all (fun o => match o with | some v => aBel (100 + n) v | none => true)) = true)
    (kk : aJ pg l e R s m args below meth c Q D cA A ad0 4 h.1.length (aSn h.1) 51 (aEnt [.ref (100 + p), .ref (100 + q0), .ref (100 + q1), .ref (100 + q2)] 4) [] (wX2_init_11 p q0 q1 q2 h)) : aJ pg l e R s m args below meth c Q D cA A ad0 4 h.1.length (aSn h.1) 28 (aEnt [.ref (100 + p), .ref (100 + q0), .ref (100 + q1), .ref (100 + q2)] 4) [] (wX2_init_6 p q0 q1 q2 h) := by
  refine j_aload_n hX dX2_init_28 rfl ?_
  refine jpc (b := 29) rfl ?_
  refine j_bipush hX dX2_init_29 bp_10 ?_
  refine jpc (b := 31) rfl ?_
  refine j_newaN (ty := .boolean) (t0 := 2) (n := 10) (n0 := (h.1.length + 3)) hX dX2_init_31 rfl (fun _ => rfl) wAr_boolean (fun _ => rfl) (by decide) (by decide) (by decide) (lwX2_init_6 p q0 q1 q2 h) (b_cons (b_ref (lt_k hp)) b_nil) (hL _ (Nat.le_add_right _ _)) (rmC rfl hRc (by decide)) (rmS (swX2_init_6 p q0 q1 q2 h) hRs (by decide)) (h' := wX2_init_7 p q0 q1 q2 h) rfl ?_
  refine jpc (b := 33) rfl ?_
  refine j_putRFN (k := 6) hX kX2 (by decide) fk_X2_22 (putv (a := h.1.length) (k := 4) (lwX2_init_7 p q0 q1 q2 h) (lt_j (by decide))) dX2_init_33 (GX2_init_z0_7 hs hq0 hq1 hq2) rfl rfl hnm rfl (h' := wX2_init_8 p q0 q1 q2 h) rfl ?_
  refine jpc (b := 36) rfl ?_
  refine j_aload_n hX dX2_init_36 rfl ?_
  refine jpc (b := 37) rfl ?_
  refine j_aload_n hX dX2_init_37 rfl ?_
  refine jpc (b := 38) rfl ?_
  refine j_putRFN (k := 0) hX kX2 (by decide) fk_X2_25 (putv (a := h.1.length) (k := 4) (lwX2_init_8 p q0 q1 q2 h) (lt_k hp0)) dX2_init_38 (GX2_init_z0_8 hs hq0 hq1 hq2) rfl rfl hnm rfl (h' := wX2_init_9 p q0 q1 q2 h) rfl ?_
  refine jpc (b := 41) rfl ?_
  refine j_aload_n hX dX2_init_41 rfl ?_
  refine jpc (b := 42) rfl ?_
  refine j_aload_n hX dX2_init_42 rfl ?_
  refine jpc (b := 43) rfl ?_
  refine j_putRFN (k := 1) hX kX2 (by decide) fk_X2_29 (putv (a := h.1.length) (k := 4) (lwX2_init_9 p q0 q1 q2 h) (lt_k hp1)) dX2_init_43 (GX2_init_z0_9 hs hq0 hq1 hq2) rfl rfl hnm rfl (h' := wX2_init_10 p q0 q1 q2 h) rfl ?_
  refine jpc (b := 46) rfl ?_
  refine j_aload_n hX dX2_init_46 rfl ?_
  refine jpc (b := 47) rfl ?_
  refine j_aload_n hX dX2_init_47 rfl ?_
  refine jpc (b := 48) rfl ?_
  refine j_putRFN (k := 2) hX kX2 (by decide) fk_X2_33 (putv (a := h.1.length) (k := 4) (lwX2_init_10 p q0 q1 q2 h) (lt_k hp2)) dX2_init_48 (GX2_init_z0_10 hs hq0 hq1 hq2) rfl rfl hnm rfl (h' := wX2_init_11 p q0 q1 q2 h) rfl ?_
  exact kk
end CK
theorem okX2_init {l : Launch} {p q0 q1 q2 : Nat} {h : aHp} (hs : h.1[p]? = some (.inr 2)) (hq0 : h.1[q0]? = some (.inr 1)) (hq1 : h.1[q1]? = some (.inr 3)) (hq2 : h.1[q2]? = some (.inr 8)) : aM l yX2_init cX2_init 4 none 1 [.ref (100 + p), .ref (100 + q0), .ref (100 + q1), .ref (100 + q2)] h none (wX2_init p q0 q1 q2 h) := by
  have hp := aLt hs
  have hp0 := aLt hq0
  have hp1 := aLt hq1
  have hp2 := aLt hq2
  have hL : ∀ n, h.1.length ≤ n → ((aEnt [.ref (100 + p), .ref (100 + q0), .ref (100 + q1), .ref (100 + q2)] 4).all (fun o => match o with | some v => aBel (100 + n) v | none => true)) = true := by
    intro n hn
    simp [aBel, aEnt, aEn, Value.category]
    omega
  refine aM_of (by decide) (Nat.le_of_ble_eq_true rfl) (by rw [lenX2_init]; omega) (by rw [snX2_init]; omega) (fun p_ e s m args below meth c D cA A ad0 hX hr hlk hnm => ?_)
  generalize hRe : (Room.mk 1 ((wX2_init p q0 q1 q2 h).1.length - h.1.length) (aSn (wX2_init p q0 q1 q2 h).1 - aSn h.1) (64 * 1)) = R
  have hRf : 1 ≤ R.frames := by rw [← hRe]; exact Nat.le_refl _
  have hRl : 64 * 1 ≤ R.locals := by rw [← hRe]; exact Nat.le_refl _
  have hRf1 : 1 ≤ R.frames := Nat.le_trans (by decide) hRf
  have hRl1 : (([] : List Value).map (fun v => v.category)).sum + 12 ≤ R.locals := Nat.le_trans (by decide) hRl
  have hRc : 4 ≤ R.cells := by rw [← hRe]; show 4 ≤ _ - _; rw [lenX2_init]; omega
  have hRs : 36 ≤ R.slots := by rw [← hRe]; show 36 ≤ _ - _; rw [snX2_init]; omega
  refine ckX2_init_0 hX hnm hs hq0 hq1 hq2 hp hp0 hp1 hp2 hRf hRl hRf1 hRl1 hRc hRs hL ?_
  refine ckX2_init_28 hX hnm hs hq0 hq1 hq2 hp hp0 hp1 hp2 hRf hRl hRf1 hRl1 hRc hRs hL ?_
  exact j_vret hX hr hlk dX2_init_51
def wX11_init_1 (p : Nat) (h : aHp) : aHp := aNew h (.inr 10)
theorem lwX11_init_1 (p : Nat) (h : aHp) : (wX11_init_1 p h).1.length = h.1.length + 1 := len_step (s := 0) (t := 1) (Nat.add_zero h.1.length).symm rfl
theorem swX11_init_1 (p : Nat) (h : aHp) : aSn (wX11_init_1 p h).1 = aSn h.1 + 3 := sn_step (s := 0) (z := 3) (t := 3) (Nat.add_zero (aSn h.1)).symm rfl rfl
theorem gwX11_init_1 {p z : Nat} {h : aHp} {y : aSh} (hs0 : h.1[z]? = some y) : (wX11_init_1 p h).1[z]? = some y := aNew_get hs0
theorem GX11_init_z1_1 {p : Nat} {h : aHp} (hs : h.1[p]? = some (.inr 11)) : (wX11_init_1 p h).1[h.1.length]? = some (.inr 10) := last_step rfl
theorem GX11_init_z0_1 {p : Nat} {h : aHp} (hs : h.1[p]? = some (.inr 11)) : (wX11_init_1 p h).1[p]? = some (.inr 11) := gwX11_init_1 hs
def wX11_init_2 (p : Nat) (h : aHp) : aHp := wX10_init h.1.length (wX11_init_1 p h)
theorem lwX11_init_2 (p : Nat) (h : aHp) : (wX11_init_2 p h).1.length = h.1.length + 2 := nat_w (c := 1) (lenX10_init h.1.length (wX11_init_1 p h)) (lwX11_init_1 p h) rfl
theorem swX11_init_2 (p : Nat) (h : aHp) : aSn (wX11_init_2 p h).1 = aSn h.1 + 243 := nat_w (c := 3) (snX10_init h.1.length (wX11_init_1 p h)) (swX11_init_1 p h) rfl
theorem gwX11_init_2 {p z : Nat} {h : aHp} {y : aSh} (hs0 : (wX11_init_1 p h).1[z]? = some y) : (wX11_init_2 p h).1[z]? = some y := getX10_init (p := h.1.length) hs0
theorem GX11_init_z0_2 {p : Nat} {h : aHp} (hs : h.1[p]? = some (.inr 11)) : (wX11_init_2 p h).1[p]? = some (.inr 11) := gwX11_init_2 (GX11_init_z0_1 hs)
def wX11_init_3 (p : Nat) (h : aHp) : aHp := pR (wX11_init_2 p h) p 0 (some (100 + h.1.length))
theorem lwX11_init_3 (p : Nat) (h : aHp) : (wX11_init_3 p h).1.length = h.1.length + 2 := (lwX11_init_2 p h)
theorem swX11_init_3 (p : Nat) (h : aHp) : aSn (wX11_init_3 p h).1 = aSn h.1 + 243 := (swX11_init_2 p h)
theorem gwX11_init_3 {p z : Nat} {h : aHp} {y : aSh} (hs0 : (wX11_init_2 p h).1[z]? = some y) : (wX11_init_3 p h).1[z]? = some y := hs0
theorem GX11_init_z0_3 {p : Nat} {h : aHp} (hs : h.1[p]? = some (.inr 11)) : (wX11_init_3 p h).1[p]? = some (.inr 11) := gwX11_init_3 (GX11_init_z0_2 hs)
def wX11_init_4 (p : Nat) (h : aHp) : aHp := aNew (wX11_init_3 p h) (.inr 9)
theorem lwX11_init_4 (p : Nat) (h : aHp) : (wX11_init_4 p h).1.length = h.1.length + 3 := len_step (s := 2) (t := 3) (lwX11_init_3 p h) rfl
theorem swX11_init_4 (p : Nat) (h : aHp) : aSn (wX11_init_4 p h).1 = aSn h.1 + 249 := sn_step (s := 243) (z := 6) (t := 249) (swX11_init_3 p h) rfl rfl
theorem gwX11_init_4 {p z : Nat} {h : aHp} {y : aSh} (hs0 : (wX11_init_3 p h).1[z]? = some y) : (wX11_init_4 p h).1[z]? = some y := aNew_get hs0
theorem GX11_init_z0_4 {p : Nat} {h : aHp} (hs : h.1[p]? = some (.inr 11)) : (wX11_init_4 p h).1[p]? = some (.inr 11) := gwX11_init_4 (GX11_init_z0_3 hs)
theorem GX11_init_z2_4 {p : Nat} {h : aHp} (hs : h.1[p]? = some (.inr 11)) : (wX11_init_4 p h).1[(h.1.length + 2)]? = some (.inr 9) := last_step (lwX11_init_3 p h)
def wX11_init_5 (p : Nat) (h : aHp) : aHp := wX9_init (h.1.length + 2) (wX11_init_4 p h)
theorem lwX11_init_5 (p : Nat) (h : aHp) : (wX11_init_5 p h).1.length = h.1.length + 10 := nat_w (c := 3) (lenX9_init (h.1.length + 2) (wX11_init_4 p h)) (lwX11_init_4 p h) rfl
theorem swX11_init_5 (p : Nat) (h : aHp) : aSn (wX11_init_5 p h).1 = aSn h.1 + 583 := nat_w (c := 249) (snX9_init (h.1.length + 2) (wX11_init_4 p h)) (swX11_init_4 p h) rfl
theorem gwX11_init_5 {p z : Nat} {h : aHp} {y : aSh} (hs0 : (wX11_init_4 p h).1[z]? = some y) : (wX11_init_5 p h).1[z]? = some y := getX9_init (p := (h.1.length + 2)) hs0
theorem GX11_init_z0_5 {p : Nat} {h : aHp} (hs : h.1[p]? = some (.inr 11)) : (wX11_init_5 p h).1[p]? = some (.inr 11) := gwX11_init_5 (GX11_init_z0_4 hs)
def wX11_init_6 (p : Nat) (h : aHp) : aHp := pR (wX11_init_5 p h) p 1 (some (100 + (h.1.length + 2)))
theorem lwX11_init_6 (p : Nat) (h : aHp) : (wX11_init_6 p h).1.length = h.1.length + 10 := (lwX11_init_5 p h)
theorem swX11_init_6 (p : Nat) (h : aHp) : aSn (wX11_init_6 p h).1 = aSn h.1 + 583 := (swX11_init_5 p h)
theorem gwX11_init_6 {p z : Nat} {h : aHp} {y : aSh} (hs0 : (wX11_init_5 p h).1[z]? = some y) : (wX11_init_6 p h).1[z]? = some y := hs0
theorem GX11_init_z0_6 {p : Nat} {h : aHp} (hs : h.1[p]? = some (.inr 11)) : (wX11_init_6 p h).1[p]? = some (.inr 11) := gwX11_init_6 (GX11_init_z0_5 hs)
def wX11_init_7 (p : Nat) (h : aHp) : aHp := aNew (wX11_init_6 p h) (.inr 1)
theorem lwX11_init_7 (p : Nat) (h : aHp) : (wX11_init_7 p h).1.length = h.1.length + 11 := len_step (s := 10) (t := 11) (lwX11_init_6 p h) rfl
theorem swX11_init_7 (p : Nat) (h : aHp) : aSn (wX11_init_7 p h).1 = aSn h.1 + 589 := sn_step (s := 583) (z := 6) (t := 589) (swX11_init_6 p h) rfl rfl
theorem gwX11_init_7 {p z : Nat} {h : aHp} {y : aSh} (hs0 : (wX11_init_6 p h).1[z]? = some y) : (wX11_init_7 p h).1[z]? = some y := aNew_get hs0
theorem GX11_init_z0_7 {p : Nat} {h : aHp} (hs : h.1[p]? = some (.inr 11)) : (wX11_init_7 p h).1[p]? = some (.inr 11) := gwX11_init_7 (GX11_init_z0_6 hs)
theorem GX11_init_z3_7 {p : Nat} {h : aHp} (hs : h.1[p]? = some (.inr 11)) : (wX11_init_7 p h).1[(h.1.length + 10)]? = some (.inr 1) := last_step (lwX11_init_6 p h)
def wX11_init_8 (p : Nat) (h : aHp) : aHp := wX1_init (h.1.length + 10) (wX11_init_7 p h)
theorem lwX11_init_8 (p : Nat) (h : aHp) : (wX11_init_8 p h).1.length = h.1.length + 14 := nat_w (c := 11) (lenX1_init (h.1.length + 10) (wX11_init_7 p h)) (lwX11_init_7 p h) rfl
theorem swX11_init_8 (p : Nat) (h : aHp) : aSn (wX11_init_8 p h).1 = aSn h.1 + 663 := nat_w (c := 589) (snX1_init (h.1.length + 10) (wX11_init_7 p h)) (swX11_init_7 p h) rfl
theorem gwX11_init_8 {p z : Nat} {h : aHp} {y : aSh} (hs0 : (wX11_init_7 p h).1[z]? = some y) : (wX11_init_8 p h).1[z]? = some y := getX1_init (p := (h.1.length + 10)) hs0
theorem GX11_init_z0_8 {p : Nat} {h : aHp} (hs : h.1[p]? = some (.inr 11)) : (wX11_init_8 p h).1[p]? = some (.inr 11) := gwX11_init_8 (GX11_init_z0_7 hs)
def wX11_init_9 (p : Nat) (h : aHp) : aHp := pR (wX11_init_8 p h) p 2 (some (100 + (h.1.length + 10)))
theorem lwX11_init_9 (p : Nat) (h : aHp) : (wX11_init_9 p h).1.length = h.1.length + 14 := (lwX11_init_8 p h)
theorem swX11_init_9 (p : Nat) (h : aHp) : aSn (wX11_init_9 p h).1 = aSn h.1 + 663 := (swX11_init_8 p h)
theorem gwX11_init_9 {p z : Nat} {h : aHp} {y : aSh} (hs0 : (wX11_init_8 p h).1[z]? = some y) : (wX11_init_9 p h).1[z]? = some y := hs0
theorem GX11_init_z0_9 {p : Nat} {h : aHp} (hs : h.1[p]? = some (.inr 11)) : (wX11_init_9 p h).1[p]? = some (.inr 11) := gwX11_init_9 (GX11_init_z0_8 hs)
def wX11_init_10 (p : Nat) (h : aHp) : aHp := aNew (wX11_init_9 p h) (.inr 1)
theorem lwX11_init_10 (p : Nat) (h : aHp) : (wX11_init_10 p h).1.length = h.1.length + 15 := len_step (s := 14) (t := 15) (lwX11_init_9 p h) rfl
theorem swX11_init_10 (p : Nat) (h : aHp) : aSn (wX11_init_10 p h).1 = aSn h.1 + 669 := sn_step (s := 663) (z := 6) (t := 669) (swX11_init_9 p h) rfl rfl
theorem gwX11_init_10 {p z : Nat} {h : aHp} {y : aSh} (hs0 : (wX11_init_9 p h).1[z]? = some y) : (wX11_init_10 p h).1[z]? = some y := aNew_get hs0
theorem GX11_init_z0_10 {p : Nat} {h : aHp} (hs : h.1[p]? = some (.inr 11)) : (wX11_init_10 p h).1[p]? = some (.inr 11) := gwX11_init_10 (GX11_init_z0_9 hs)
theorem GX11_init_z4_10 {p : Nat} {h : aHp} (hs : h.1[p]? = some (.inr 11)) : (wX11_init_10 p h).1[(h.1.length + 14)]? = some (.inr 1) := last_step (lwX11_init_9 p h)
def wX11_init_11 (p : Nat) (h : aHp) : aHp := wX1_init (h.1.length + 14) (wX11_init_10 p h)
theorem lwX11_init_11 (p : Nat) (h : aHp) : (wX11_init_11 p h).1.length = h.1.length + 18 := nat_w (c := 15) (lenX1_init (h.1.length + 14) (wX11_init_10 p h)) (lwX11_init_10 p h) rfl
theorem swX11_init_11 (p : Nat) (h : aHp) : aSn (wX11_init_11 p h).1 = aSn h.1 + 743 := nat_w (c := 669) (snX1_init (h.1.length + 14) (wX11_init_10 p h)) (swX11_init_10 p h) rfl
theorem gwX11_init_11 {p z : Nat} {h : aHp} {y : aSh} (hs0 : (wX11_init_10 p h).1[z]? = some y) : (wX11_init_11 p h).1[z]? = some y := getX1_init (p := (h.1.length + 14)) hs0
theorem GX11_init_z0_11 {p : Nat} {h : aHp} (hs : h.1[p]? = some (.inr 11)) : (wX11_init_11 p h).1[p]? = some (.inr 11) := gwX11_init_11 (GX11_init_z0_10 hs)
theorem GX11_init_z4_11 {p : Nat} {h : aHp} (hs : h.1[p]? = some (.inr 11)) : (wX11_init_11 p h).1[(h.1.length + 14)]? = some (.inr 1) := gwX11_init_11 (GX11_init_z4_10 hs)
def wX11_init_12 (p : Nat) (h : aHp) : aHp := pR (wX11_init_11 p h) p 3 (some (100 + (h.1.length + 14)))
theorem lwX11_init_12 (p : Nat) (h : aHp) : (wX11_init_12 p h).1.length = h.1.length + 18 := (lwX11_init_11 p h)
theorem swX11_init_12 (p : Nat) (h : aHp) : aSn (wX11_init_12 p h).1 = aSn h.1 + 743 := (swX11_init_11 p h)
theorem gwX11_init_12 {p z : Nat} {h : aHp} {y : aSh} (hs0 : (wX11_init_11 p h).1[z]? = some y) : (wX11_init_12 p h).1[z]? = some y := hs0
theorem GX11_init_z0_12 {p : Nat} {h : aHp} (hs : h.1[p]? = some (.inr 11)) : (wX11_init_12 p h).1[p]? = some (.inr 11) := gwX11_init_12 (GX11_init_z0_11 hs)
theorem GX11_init_z4_12 {p : Nat} {h : aHp} (hs : h.1[p]? = some (.inr 11)) : (wX11_init_12 p h).1[(h.1.length + 14)]? = some (.inr 1) := gwX11_init_12 (GX11_init_z4_11 hs)
theorem RX11_init_3_12 {p : Nat} {h : aHp} (hp : p < h.1.length) : (wX11_init_12 p h).2.2.2 p 3 = some (100 + (h.1.length + 14)) := pR_at
def wX11_init_13 (p : Nat) (h : aHp) : aHp := aNew (wX11_init_12 p h) (.inr 8)
theorem lwX11_init_13 (p : Nat) (h : aHp) : (wX11_init_13 p h).1.length = h.1.length + 19 := len_step (s := 18) (t := 19) (lwX11_init_12 p h) rfl
theorem swX11_init_13 (p : Nat) (h : aHp) : aSn (wX11_init_13 p h).1 = aSn h.1 + 744 := sn_step (s := 743) (z := 1) (t := 744) (swX11_init_12 p h) rfl rfl
theorem gwX11_init_13 {p z : Nat} {h : aHp} {y : aSh} (hs0 : (wX11_init_12 p h).1[z]? = some y) : (wX11_init_13 p h).1[z]? = some y := aNew_get hs0
theorem GX11_init_z0_13 {p : Nat} {h : aHp} (hs : h.1[p]? = some (.inr 11)) : (wX11_init_13 p h).1[p]? = some (.inr 11) := gwX11_init_13 (GX11_init_z0_12 hs)
theorem GX11_init_z4_13 {p : Nat} {h : aHp} (hs : h.1[p]? = some (.inr 11)) : (wX11_init_13 p h).1[(h.1.length + 14)]? = some (.inr 1) := gwX11_init_13 (GX11_init_z4_12 hs)
theorem GX11_init_z5_13 {p : Nat} {h : aHp} (hs : h.1[p]? = some (.inr 11)) : (wX11_init_13 p h).1[(h.1.length + 18)]? = some (.inr 8) := last_step (lwX11_init_12 p h)
theorem RX11_init_3_13 {p : Nat} {h : aHp} (hp : p < h.1.length) : (wX11_init_13 p h).2.2.2 p 3 = some (100 + (h.1.length + 14)) := (aNew_rv (by rw [lwX11_init_12]; exact lt_k hp)).trans (RX11_init_3_12 hp)
def wX11_init_14 (p : Nat) (h : aHp) : aHp := wX8_init (h.1.length + 18) (wX11_init_13 p h)
theorem lwX11_init_14 (p : Nat) (h : aHp) : (wX11_init_14 p h).1.length = h.1.length + 20 := nat_w (c := 19) (lenX8_init (h.1.length + 18) (wX11_init_13 p h)) (lwX11_init_13 p h) rfl
theorem swX11_init_14 (p : Nat) (h : aHp) : aSn (wX11_init_14 p h).1 = aSn h.1 + 800 := nat_w (c := 744) (snX8_init (h.1.length + 18) (wX11_init_13 p h)) (swX11_init_13 p h) rfl
theorem gwX11_init_14 {p z : Nat} {h : aHp} {y : aSh} (hs0 : (wX11_init_13 p h).1[z]? = some y) : (wX11_init_14 p h).1[z]? = some y := getX8_init (p := (h.1.length + 18)) hs0
theorem GX11_init_z0_14 {p : Nat} {h : aHp} (hs : h.1[p]? = some (.inr 11)) : (wX11_init_14 p h).1[p]? = some (.inr 11) := gwX11_init_14 (GX11_init_z0_13 hs)
theorem GX11_init_z4_14 {p : Nat} {h : aHp} (hs : h.1[p]? = some (.inr 11)) : (wX11_init_14 p h).1[(h.1.length + 14)]? = some (.inr 1) := gwX11_init_14 (GX11_init_z4_13 hs)
theorem GX11_init_z5_14 {p : Nat} {h : aHp} (hs : h.1[p]? = some (.inr 11)) : (wX11_init_14 p h).1[(h.1.length + 18)]? = some (.inr 8) := gwX11_init_14 (GX11_init_z5_13 hs)
theorem RX11_init_3_14 {p : Nat} {h : aHp} (hp : p < h.1.length) : (wX11_init_14 p h).2.2.2 p 3 = some (100 + (h.1.length + 14)) := (rvX8_init (by rw [lwX11_init_13]; exact lt_k hp) (by omega)).trans (RX11_init_3_13 hp)
def wX11_init_15 (p : Nat) (h : aHp) : aHp := pR (wX11_init_14 p h) p 4 (some (100 + (h.1.length + 18)))
theorem lwX11_init_15 (p : Nat) (h : aHp) : (wX11_init_15 p h).1.length = h.1.length + 20 := (lwX11_init_14 p h)
theorem swX11_init_15 (p : Nat) (h : aHp) : aSn (wX11_init_15 p h).1 = aSn h.1 + 800 := (swX11_init_14 p h)
theorem gwX11_init_15 {p z : Nat} {h : aHp} {y : aSh} (hs0 : (wX11_init_14 p h).1[z]? = some y) : (wX11_init_15 p h).1[z]? = some y := hs0
theorem GX11_init_z0_15 {p : Nat} {h : aHp} (hs : h.1[p]? = some (.inr 11)) : (wX11_init_15 p h).1[p]? = some (.inr 11) := gwX11_init_15 (GX11_init_z0_14 hs)
theorem GX11_init_z4_15 {p : Nat} {h : aHp} (hs : h.1[p]? = some (.inr 11)) : (wX11_init_15 p h).1[(h.1.length + 14)]? = some (.inr 1) := gwX11_init_15 (GX11_init_z4_14 hs)
theorem GX11_init_z5_15 {p : Nat} {h : aHp} (hs : h.1[p]? = some (.inr 11)) : (wX11_init_15 p h).1[(h.1.length + 18)]? = some (.inr 8) := gwX11_init_15 (GX11_init_z5_14 hs)
theorem RX11_init_3_15 {p : Nat} {h : aHp} (hp : p < h.1.length) : (wX11_init_15 p h).2.2.2 p 3 = some (100 + (h.1.length + 14)) := (pR_rv (Or.inr (by decide))).trans (RX11_init_3_14 hp)
theorem RX11_init_4_15 {p : Nat} {h : aHp} (hp : p < h.1.length) : (wX11_init_15 p h).2.2.2 p 4 = some (100 + (h.1.length + 18)) := pR_at
def wX11_init_16 (p : Nat) (h : aHp) : aHp := aNew (wX11_init_15 p h) (.inr 8)
theorem lwX11_init_16 (p : Nat) (h : aHp) : (wX11_init_16 p h).1.length = h.1.length + 21 := len_step (s := 20) (t := 21) (lwX11_init_15 p h) rfl
theorem swX11_init_16 (p : Nat) (h : aHp) : aSn (wX11_init_16 p h).1 = aSn h.1 + 801 := sn_step (s := 800) (z := 1) (t := 801) (swX11_init_15 p h) rfl rfl
theorem gwX11_init_16 {p z : Nat} {h : aHp} {y : aSh} (hs0 : (wX11_init_15 p h).1[z]? = some y) : (wX11_init_16 p h).1[z]? = some y := aNew_get hs0
theorem GX11_init_z0_16 {p : Nat} {h : aHp} (hs : h.1[p]? = some (.inr 11)) : (wX11_init_16 p h).1[p]? = some (.inr 11) := gwX11_init_16 (GX11_init_z0_15 hs)
theorem GX11_init_z4_16 {p : Nat} {h : aHp} (hs : h.1[p]? = some (.inr 11)) : (wX11_init_16 p h).1[(h.1.length + 14)]? = some (.inr 1) := gwX11_init_16 (GX11_init_z4_15 hs)
theorem GX11_init_z5_16 {p : Nat} {h : aHp} (hs : h.1[p]? = some (.inr 11)) : (wX11_init_16 p h).1[(h.1.length + 18)]? = some (.inr 8) := gwX11_init_16 (GX11_init_z5_15 hs)
theorem GX11_init_z6_16 {p : Nat} {h : aHp} (hs : h.1[p]? = some (.inr 11)) : (wX11_init_16 p h).1[(h.1.length + 20)]? = some (.inr 8) := last_step (lwX11_init_15 p h)
theorem RX11_init_3_16 {p : Nat} {h : aHp} (hp : p < h.1.length) : (wX11_init_16 p h).2.2.2 p 3 = some (100 + (h.1.length + 14)) := (aNew_rv (by rw [lwX11_init_15]; exact lt_k hp)).trans (RX11_init_3_15 hp)
theorem RX11_init_4_16 {p : Nat} {h : aHp} (hp : p < h.1.length) : (wX11_init_16 p h).2.2.2 p 4 = some (100 + (h.1.length + 18)) := (aNew_rv (by rw [lwX11_init_15]; exact lt_k hp)).trans (RX11_init_4_15 hp)
def wX11_init_17 (p : Nat) (h : aHp) : aHp := wX8_init (h.1.length + 20) (wX11_init_16 p h)
theorem lwX11_init_17 (p : Nat) (h : aHp) : (wX11_init_17 p h).1.length = h.1.length + 22 := nat_w (c := 21) (lenX8_init (h.1.length + 20) (wX11_init_16 p h)) (lwX11_init_16 p h) rfl
theorem swX11_init_17 (p : Nat) (h : aHp) : aSn (wX11_init_17 p h).1 = aSn h.1 + 857 := nat_w (c := 801) (snX8_init (h.1.length + 20) (wX11_init_16 p h)) (swX11_init_16 p h) rfl
theorem gwX11_init_17 {p z : Nat} {h : aHp} {y : aSh} (hs0 : (wX11_init_16 p h).1[z]? = some y) : (wX11_init_17 p h).1[z]? = some y := getX8_init (p := (h.1.length + 20)) hs0
theorem GX11_init_z0_17 {p : Nat} {h : aHp} (hs : h.1[p]? = some (.inr 11)) : (wX11_init_17 p h).1[p]? = some (.inr 11) := gwX11_init_17 (GX11_init_z0_16 hs)
theorem GX11_init_z4_17 {p : Nat} {h : aHp} (hs : h.1[p]? = some (.inr 11)) : (wX11_init_17 p h).1[(h.1.length + 14)]? = some (.inr 1) := gwX11_init_17 (GX11_init_z4_16 hs)
theorem GX11_init_z5_17 {p : Nat} {h : aHp} (hs : h.1[p]? = some (.inr 11)) : (wX11_init_17 p h).1[(h.1.length + 18)]? = some (.inr 8) := gwX11_init_17 (GX11_init_z5_16 hs)
theorem RX11_init_3_17 {p : Nat} {h : aHp} (hp : p < h.1.length) : (wX11_init_17 p h).2.2.2 p 3 = some (100 + (h.1.length + 14)) := (rvX8_init (by rw [lwX11_init_16]; exact lt_k hp) (by omega)).trans (RX11_init_3_16 hp)
theorem RX11_init_4_17 {p : Nat} {h : aHp} (hp : p < h.1.length) : (wX11_init_17 p h).2.2.2 p 4 = some (100 + (h.1.length + 18)) := (rvX8_init (by rw [lwX11_init_16]; exact lt_k hp) (by omega)).trans (RX11_init_4_16 hp)
def wX11_init_18 (p : Nat) (h : aHp) : aHp := pR (wX11_init_17 p h) p 5 (some (100 + (h.1.length + 20)))
theorem lwX11_init_18 (p : Nat) (h : aHp) : (wX11_init_18 p h).1.length = h.1.length + 22 := (lwX11_init_17 p h)
theorem swX11_init_18 (p : Nat) (h : aHp) : aSn (wX11_init_18 p h).1 = aSn h.1 + 857 := (swX11_init_17 p h)
theorem gwX11_init_18 {p z : Nat} {h : aHp} {y : aSh} (hs0 : (wX11_init_17 p h).1[z]? = some y) : (wX11_init_18 p h).1[z]? = some y := hs0
theorem GX11_init_z0_18 {p : Nat} {h : aHp} (hs : h.1[p]? = some (.inr 11)) : (wX11_init_18 p h).1[p]? = some (.inr 11) := gwX11_init_18 (GX11_init_z0_17 hs)
theorem GX11_init_z4_18 {p : Nat} {h : aHp} (hs : h.1[p]? = some (.inr 11)) : (wX11_init_18 p h).1[(h.1.length + 14)]? = some (.inr 1) := gwX11_init_18 (GX11_init_z4_17 hs)
theorem GX11_init_z5_18 {p : Nat} {h : aHp} (hs : h.1[p]? = some (.inr 11)) : (wX11_init_18 p h).1[(h.1.length + 18)]? = some (.inr 8) := gwX11_init_18 (GX11_init_z5_17 hs)
theorem RX11_init_3_18 {p : Nat} {h : aHp} (hp : p < h.1.length) : (wX11_init_18 p h).2.2.2 p 3 = some (100 + (h.1.length + 14)) := (pR_rv (Or.inr (by decide))).trans (RX11_init_3_17 hp)
theorem RX11_init_4_18 {p : Nat} {h : aHp} (hp : p < h.1.length) : (wX11_init_18 p h).2.2.2 p 4 = some (100 + (h.1.length + 18)) := (pR_rv (Or.inr (by decide))).trans (RX11_init_4_17 hp)
def wX11_init_19 (p : Nat) (h : aHp) : aHp := aNew (wX11_init_18 p h) (.inr 3)
theorem lwX11_init_19 (p : Nat) (h : aHp) : (wX11_init_19 p h).1.length = h.1.length + 23 := len_step (s := 22) (t := 23) (lwX11_init_18 p h) rfl
theorem swX11_init_19 (p : Nat) (h : aHp) : aSn (wX11_init_19 p h).1 = aSn h.1 + 862 := sn_step (s := 857) (z := 5) (t := 862) (swX11_init_18 p h) rfl rfl
theorem gwX11_init_19 {p z : Nat} {h : aHp} {y : aSh} (hs0 : (wX11_init_18 p h).1[z]? = some y) : (wX11_init_19 p h).1[z]? = some y := aNew_get hs0
theorem GX11_init_z0_19 {p : Nat} {h : aHp} (hs : h.1[p]? = some (.inr 11)) : (wX11_init_19 p h).1[p]? = some (.inr 11) := gwX11_init_19 (GX11_init_z0_18 hs)
theorem GX11_init_z4_19 {p : Nat} {h : aHp} (hs : h.1[p]? = some (.inr 11)) : (wX11_init_19 p h).1[(h.1.length + 14)]? = some (.inr 1) := gwX11_init_19 (GX11_init_z4_18 hs)
theorem GX11_init_z5_19 {p : Nat} {h : aHp} (hs : h.1[p]? = some (.inr 11)) : (wX11_init_19 p h).1[(h.1.length + 18)]? = some (.inr 8) := gwX11_init_19 (GX11_init_z5_18 hs)
theorem GX11_init_z7_19 {p : Nat} {h : aHp} (hs : h.1[p]? = some (.inr 11)) : (wX11_init_19 p h).1[(h.1.length + 22)]? = some (.inr 3) := last_step (lwX11_init_18 p h)
theorem RX11_init_3_19 {p : Nat} {h : aHp} (hp : p < h.1.length) : (wX11_init_19 p h).2.2.2 p 3 = some (100 + (h.1.length + 14)) := (aNew_rv (by rw [lwX11_init_18]; exact lt_k hp)).trans (RX11_init_3_18 hp)
theorem RX11_init_4_19 {p : Nat} {h : aHp} (hp : p < h.1.length) : (wX11_init_19 p h).2.2.2 p 4 = some (100 + (h.1.length + 18)) := (aNew_rv (by rw [lwX11_init_18]; exact lt_k hp)).trans (RX11_init_4_18 hp)
def wX11_init_20 (p : Nat) (h : aHp) : aHp := wX3_init (h.1.length + 22) (h.1.length + 14) (wX11_init_19 p h)
theorem lwX11_init_20 (p : Nat) (h : aHp) : (wX11_init_20 p h).1.length = h.1.length + 24 := nat_w (c := 23) (lenX3_init (h.1.length + 22) (h.1.length + 14) (wX11_init_19 p h)) (lwX11_init_19 p h) rfl
theorem swX11_init_20 (p : Nat) (h : aHp) : aSn (wX11_init_20 p h).1 = aSn h.1 + 868 := nat_w (c := 862) (snX3_init (h.1.length + 22) (h.1.length + 14) (wX11_init_19 p h)) (swX11_init_19 p h) rfl
theorem gwX11_init_20 {p z : Nat} {h : aHp} {y : aSh} (hs0 : (wX11_init_19 p h).1[z]? = some y) : (wX11_init_20 p h).1[z]? = some y := getX3_init (p := (h.1.length + 22)) (q0 := (h.1.length + 14)) hs0
theorem GX11_init_z0_20 {p : Nat} {h : aHp} (hs : h.1[p]? = some (.inr 11)) : (wX11_init_20 p h).1[p]? = some (.inr 11) := gwX11_init_20 (GX11_init_z0_19 hs)
theorem GX11_init_z4_20 {p : Nat} {h : aHp} (hs : h.1[p]? = some (.inr 11)) : (wX11_init_20 p h).1[(h.1.length + 14)]? = some (.inr 1) := gwX11_init_20 (GX11_init_z4_19 hs)
theorem GX11_init_z5_20 {p : Nat} {h : aHp} (hs : h.1[p]? = some (.inr 11)) : (wX11_init_20 p h).1[(h.1.length + 18)]? = some (.inr 8) := gwX11_init_20 (GX11_init_z5_19 hs)
theorem GX11_init_z7_20 {p : Nat} {h : aHp} (hs : h.1[p]? = some (.inr 11)) : (wX11_init_20 p h).1[(h.1.length + 22)]? = some (.inr 3) := gwX11_init_20 (GX11_init_z7_19 hs)
theorem RX11_init_3_20 {p : Nat} {h : aHp} (hp : p < h.1.length) : (wX11_init_20 p h).2.2.2 p 3 = some (100 + (h.1.length + 14)) := (rvX3_init (by rw [lwX11_init_19]; exact lt_k hp) (by omega)).trans (RX11_init_3_19 hp)
theorem RX11_init_4_20 {p : Nat} {h : aHp} (hp : p < h.1.length) : (wX11_init_20 p h).2.2.2 p 4 = some (100 + (h.1.length + 18)) := (rvX3_init (by rw [lwX11_init_19]; exact lt_k hp) (by omega)).trans (RX11_init_4_19 hp)
def wX11_init_21 (p : Nat) (h : aHp) : aHp := pR (wX11_init_20 p h) p 6 (some (100 + (h.1.length + 22)))
theorem lwX11_init_21 (p : Nat) (h : aHp) : (wX11_init_21 p h).1.length = h.1.length + 24 := (lwX11_init_20 p h)
theorem swX11_init_21 (p : Nat) (h : aHp) : aSn (wX11_init_21 p h).1 = aSn h.1 + 868 := (swX11_init_20 p h)
theorem gwX11_init_21 {p z : Nat} {h : aHp} {y : aSh} (hs0 : (wX11_init_20 p h).1[z]? = some y) : (wX11_init_21 p h).1[z]? = some y := hs0
theorem GX11_init_z0_21 {p : Nat} {h : aHp} (hs : h.1[p]? = some (.inr 11)) : (wX11_init_21 p h).1[p]? = some (.inr 11) := gwX11_init_21 (GX11_init_z0_20 hs)
theorem GX11_init_z4_21 {p : Nat} {h : aHp} (hs : h.1[p]? = some (.inr 11)) : (wX11_init_21 p h).1[(h.1.length + 14)]? = some (.inr 1) := gwX11_init_21 (GX11_init_z4_20 hs)
theorem GX11_init_z5_21 {p : Nat} {h : aHp} (hs : h.1[p]? = some (.inr 11)) : (wX11_init_21 p h).1[(h.1.length + 18)]? = some (.inr 8) := gwX11_init_21 (GX11_init_z5_20 hs)
theorem GX11_init_z7_21 {p : Nat} {h : aHp} (hs : h.1[p]? = some (.inr 11)) : (wX11_init_21 p h).1[(h.1.length + 22)]? = some (.inr 3) := gwX11_init_21 (GX11_init_z7_20 hs)
theorem RX11_init_3_21 {p : Nat} {h : aHp} (hp : p < h.1.length) : (wX11_init_21 p h).2.2.2 p 3 = some (100 + (h.1.length + 14)) := (pR_rv (Or.inr (by decide))).trans (RX11_init_3_20 hp)
theorem RX11_init_6_21 {p : Nat} {h : aHp} (hp : p < h.1.length) : (wX11_init_21 p h).2.2.2 p 6 = some (100 + (h.1.length + 22)) := pR_at
theorem RX11_init_4_21 {p : Nat} {h : aHp} (hp : p < h.1.length) : (wX11_init_21 p h).2.2.2 p 4 = some (100 + (h.1.length + 18)) := (pR_rv (Or.inr (by decide))).trans (RX11_init_4_20 hp)
def wX11_init_22 (p : Nat) (h : aHp) : aHp := aNew (wX11_init_21 p h) (.inr 6)
theorem lwX11_init_22 (p : Nat) (h : aHp) : (wX11_init_22 p h).1.length = h.1.length + 25 := len_step (s := 24) (t := 25) (lwX11_init_21 p h) rfl
theorem swX11_init_22 (p : Nat) (h : aHp) : aSn (wX11_init_22 p h).1 = aSn h.1 + 875 := sn_step (s := 868) (z := 7) (t := 875) (swX11_init_21 p h) rfl rfl
theorem gwX11_init_22 {p z : Nat} {h : aHp} {y : aSh} (hs0 : (wX11_init_21 p h).1[z]? = some y) : (wX11_init_22 p h).1[z]? = some y := aNew_get hs0
theorem GX11_init_z0_22 {p : Nat} {h : aHp} (hs : h.1[p]? = some (.inr 11)) : (wX11_init_22 p h).1[p]? = some (.inr 11) := gwX11_init_22 (GX11_init_z0_21 hs)
theorem GX11_init_z4_22 {p : Nat} {h : aHp} (hs : h.1[p]? = some (.inr 11)) : (wX11_init_22 p h).1[(h.1.length + 14)]? = some (.inr 1) := gwX11_init_22 (GX11_init_z4_21 hs)
theorem GX11_init_z5_22 {p : Nat} {h : aHp} (hs : h.1[p]? = some (.inr 11)) : (wX11_init_22 p h).1[(h.1.length + 18)]? = some (.inr 8) := gwX11_init_22 (GX11_init_z5_21 hs)
theorem GX11_init_z7_22 {p : Nat} {h : aHp} (hs : h.1[p]? = some (.inr 11)) : (wX11_init_22 p h).1[(h.1.length + 22)]? = some (.inr 3) := gwX11_init_22 (GX11_init_z7_21 hs)
theorem GX11_init_z8_22 {p : Nat} {h : aHp} (hs : h.1[p]? = some (.inr 11)) : (wX11_init_22 p h).1[(h.1.length + 24)]? = some (.inr 6) := last_step (lwX11_init_21 p h)
theorem RX11_init_3_22 {p : Nat} {h : aHp} (hp : p < h.1.length) : (wX11_init_22 p h).2.2.2 p 3 = some (100 + (h.1.length + 14)) := (aNew_rv (by rw [lwX11_init_21]; exact lt_k hp)).trans (RX11_init_3_21 hp)
theorem RX11_init_6_22 {p : Nat} {h : aHp} (hp : p < h.1.length) : (wX11_init_22 p h).2.2.2 p 6 = some (100 + (h.1.length + 22)) := (aNew_rv (by rw [lwX11_init_21]; exact lt_k hp)).trans (RX11_init_6_21 hp)
theorem RX11_init_4_22 {p : Nat} {h : aHp} (hp : p < h.1.length) : (wX11_init_22 p h).2.2.2 p 4 = some (100 + (h.1.length + 18)) := (aNew_rv (by rw [lwX11_init_21]; exact lt_k hp)).trans (RX11_init_4_21 hp)
def wX11_init_23 (p : Nat) (h : aHp) : aHp := wX6_init (h.1.length + 24) (wX11_init_22 p h)
theorem lwX11_init_23 (p : Nat) (h : aHp) : (wX11_init_23 p h).1.length = h.1.length + 29 := nat_w (c := 25) (lenX6_init (h.1.length + 24) (wX11_init_22 p h)) (lwX11_init_22 p h) rfl
theorem swX11_init_23 (p : Nat) (h : aHp) : aSn (wX11_init_23 p h).1 = aSn h.1 + 4027 := nat_w (c := 875) (snX6_init (h.1.length + 24) (wX11_init_22 p h)) (swX11_init_22 p h) rfl
theorem gwX11_init_23 {p z : Nat} {h : aHp} {y : aSh} (hs0 : (wX11_init_22 p h).1[z]? = some y) : (wX11_init_23 p h).1[z]? = some y := getX6_init (p := (h.1.length + 24)) hs0
theorem GX11_init_z0_23 {p : Nat} {h : aHp} (hs : h.1[p]? = some (.inr 11)) : (wX11_init_23 p h).1[p]? = some (.inr 11) := gwX11_init_23 (GX11_init_z0_22 hs)
theorem GX11_init_z4_23 {p : Nat} {h : aHp} (hs : h.1[p]? = some (.inr 11)) : (wX11_init_23 p h).1[(h.1.length + 14)]? = some (.inr 1) := gwX11_init_23 (GX11_init_z4_22 hs)
theorem GX11_init_z5_23 {p : Nat} {h : aHp} (hs : h.1[p]? = some (.inr 11)) : (wX11_init_23 p h).1[(h.1.length + 18)]? = some (.inr 8) := gwX11_init_23 (GX11_init_z5_22 hs)
theorem GX11_init_z7_23 {p : Nat} {h : aHp} (hs : h.1[p]? = some (.inr 11)) : (wX11_init_23 p h).1[(h.1.length + 22)]? = some (.inr 3) := gwX11_init_23 (GX11_init_z7_22 hs)
theorem RX11_init_3_23 {p : Nat} {h : aHp} (hp : p < h.1.length) : (wX11_init_23 p h).2.2.2 p 3 = some (100 + (h.1.length + 14)) := (rvX6_init (by rw [lwX11_init_22]; exact lt_k hp) (by omega)).trans (RX11_init_3_22 hp)
theorem RX11_init_6_23 {p : Nat} {h : aHp} (hp : p < h.1.length) : (wX11_init_23 p h).2.2.2 p 6 = some (100 + (h.1.length + 22)) := (rvX6_init (by rw [lwX11_init_22]; exact lt_k hp) (by omega)).trans (RX11_init_6_22 hp)
theorem RX11_init_4_23 {p : Nat} {h : aHp} (hp : p < h.1.length) : (wX11_init_23 p h).2.2.2 p 4 = some (100 + (h.1.length + 18)) := (rvX6_init (by rw [lwX11_init_22]; exact lt_k hp) (by omega)).trans (RX11_init_4_22 hp)
def wX11_init_24 (p : Nat) (h : aHp) : aHp := pR (wX11_init_23 p h) p 7 (some (100 + (h.1.length + 24)))
theorem lwX11_init_24 (p : Nat) (h : aHp) : (wX11_init_24 p h).1.length = h.1.length + 29 := (lwX11_init_23 p h)
theorem swX11_init_24 (p : Nat) (h : aHp) : aSn (wX11_init_24 p h).1 = aSn h.1 + 4027 := (swX11_init_23 p h)
theorem gwX11_init_24 {p z : Nat} {h : aHp} {y : aSh} (hs0 : (wX11_init_23 p h).1[z]? = some y) : (wX11_init_24 p h).1[z]? = some y := hs0
theorem GX11_init_z0_24 {p : Nat} {h : aHp} (hs : h.1[p]? = some (.inr 11)) : (wX11_init_24 p h).1[p]? = some (.inr 11) := gwX11_init_24 (GX11_init_z0_23 hs)
theorem GX11_init_z4_24 {p : Nat} {h : aHp} (hs : h.1[p]? = some (.inr 11)) : (wX11_init_24 p h).1[(h.1.length + 14)]? = some (.inr 1) := gwX11_init_24 (GX11_init_z4_23 hs)
theorem GX11_init_z5_24 {p : Nat} {h : aHp} (hs : h.1[p]? = some (.inr 11)) : (wX11_init_24 p h).1[(h.1.length + 18)]? = some (.inr 8) := gwX11_init_24 (GX11_init_z5_23 hs)
theorem GX11_init_z7_24 {p : Nat} {h : aHp} (hs : h.1[p]? = some (.inr 11)) : (wX11_init_24 p h).1[(h.1.length + 22)]? = some (.inr 3) := gwX11_init_24 (GX11_init_z7_23 hs)
theorem RX11_init_3_24 {p : Nat} {h : aHp} (hp : p < h.1.length) : (wX11_init_24 p h).2.2.2 p 3 = some (100 + (h.1.length + 14)) := (pR_rv (Or.inr (by decide))).trans (RX11_init_3_23 hp)
theorem RX11_init_6_24 {p : Nat} {h : aHp} (hp : p < h.1.length) : (wX11_init_24 p h).2.2.2 p 6 = some (100 + (h.1.length + 22)) := (pR_rv (Or.inr (by decide))).trans (RX11_init_6_23 hp)
theorem RX11_init_4_24 {p : Nat} {h : aHp} (hp : p < h.1.length) : (wX11_init_24 p h).2.2.2 p 4 = some (100 + (h.1.length + 18)) := (pR_rv (Or.inr (by decide))).trans (RX11_init_4_23 hp)
def wX11_init_25 (p : Nat) (h : aHp) : aHp := aNew (wX11_init_24 p h) (.inr 7)
theorem lwX11_init_25 (p : Nat) (h : aHp) : (wX11_init_25 p h).1.length = h.1.length + 30 := len_step (s := 29) (t := 30) (lwX11_init_24 p h) rfl
theorem swX11_init_25 (p : Nat) (h : aHp) : aSn (wX11_init_25 p h).1 = aSn h.1 + 4038 := sn_step (s := 4027) (z := 11) (t := 4038) (swX11_init_24 p h) rfl rfl
theorem gwX11_init_25 {p z : Nat} {h : aHp} {y : aSh} (hs0 : (wX11_init_24 p h).1[z]? = some y) : (wX11_init_25 p h).1[z]? = some y := aNew_get hs0
theorem GX11_init_z0_25 {p : Nat} {h : aHp} (hs : h.1[p]? = some (.inr 11)) : (wX11_init_25 p h).1[p]? = some (.inr 11) := gwX11_init_25 (GX11_init_z0_24 hs)
theorem GX11_init_z4_25 {p : Nat} {h : aHp} (hs : h.1[p]? = some (.inr 11)) : (wX11_init_25 p h).1[(h.1.length + 14)]? = some (.inr 1) := gwX11_init_25 (GX11_init_z4_24 hs)
theorem GX11_init_z5_25 {p : Nat} {h : aHp} (hs : h.1[p]? = some (.inr 11)) : (wX11_init_25 p h).1[(h.1.length + 18)]? = some (.inr 8) := gwX11_init_25 (GX11_init_z5_24 hs)
theorem GX11_init_z7_25 {p : Nat} {h : aHp} (hs : h.1[p]? = some (.inr 11)) : (wX11_init_25 p h).1[(h.1.length + 22)]? = some (.inr 3) := gwX11_init_25 (GX11_init_z7_24 hs)
theorem GX11_init_z9_25 {p : Nat} {h : aHp} (hs : h.1[p]? = some (.inr 11)) : (wX11_init_25 p h).1[(h.1.length + 29)]? = some (.inr 7) := last_step (lwX11_init_24 p h)
theorem RX11_init_3_25 {p : Nat} {h : aHp} (hp : p < h.1.length) : (wX11_init_25 p h).2.2.2 p 3 = some (100 + (h.1.length + 14)) := (aNew_rv (by rw [lwX11_init_24]; exact lt_k hp)).trans (RX11_init_3_24 hp)
theorem RX11_init_6_25 {p : Nat} {h : aHp} (hp : p < h.1.length) : (wX11_init_25 p h).2.2.2 p 6 = some (100 + (h.1.length + 22)) := (aNew_rv (by rw [lwX11_init_24]; exact lt_k hp)).trans (RX11_init_6_24 hp)
theorem RX11_init_4_25 {p : Nat} {h : aHp} (hp : p < h.1.length) : (wX11_init_25 p h).2.2.2 p 4 = some (100 + (h.1.length + 18)) := (aNew_rv (by rw [lwX11_init_24]; exact lt_k hp)).trans (RX11_init_4_24 hp)
def wX11_init_26 (p : Nat) (h : aHp) : aHp := wX7_init (h.1.length + 29) (h.1.length + 14) (h.1.length + 22) (h.1.length + 18) (wX11_init_25 p h)
theorem lwX11_init_26 (p : Nat) (h : aHp) : (wX11_init_26 p h).1.length = h.1.length + 34 := nat_w (c := 30) (lenX7_init (h.1.length + 29) (h.1.length + 14) (h.1.length + 22) (h.1.length + 18) (wX11_init_25 p h)) (lwX11_init_25 p h) rfl
theorem swX11_init_26 (p : Nat) (h : aHp) : aSn (wX11_init_26 p h).1 = aSn h.1 + 5078 := nat_w (c := 4038) (snX7_init (h.1.length + 29) (h.1.length + 14) (h.1.length + 22) (h.1.length + 18) (wX11_init_25 p h)) (swX11_init_25 p h) rfl
theorem gwX11_init_26 {p z : Nat} {h : aHp} {y : aSh} (hs0 : (wX11_init_25 p h).1[z]? = some y) : (wX11_init_26 p h).1[z]? = some y := getX7_init (p := (h.1.length + 29)) (q0 := (h.1.length + 14)) (q1 := (h.1.length + 22)) (q2 := (h.1.length + 18)) hs0
theorem GX11_init_z0_26 {p : Nat} {h : aHp} (hs : h.1[p]? = some (.inr 11)) : (wX11_init_26 p h).1[p]? = some (.inr 11) := gwX11_init_26 (GX11_init_z0_25 hs)
theorem GX11_init_z4_26 {p : Nat} {h : aHp} (hs : h.1[p]? = some (.inr 11)) : (wX11_init_26 p h).1[(h.1.length + 14)]? = some (.inr 1) := gwX11_init_26 (GX11_init_z4_25 hs)
theorem GX11_init_z5_26 {p : Nat} {h : aHp} (hs : h.1[p]? = some (.inr 11)) : (wX11_init_26 p h).1[(h.1.length + 18)]? = some (.inr 8) := gwX11_init_26 (GX11_init_z5_25 hs)
theorem GX11_init_z7_26 {p : Nat} {h : aHp} (hs : h.1[p]? = some (.inr 11)) : (wX11_init_26 p h).1[(h.1.length + 22)]? = some (.inr 3) := gwX11_init_26 (GX11_init_z7_25 hs)
theorem RX11_init_3_26 {p : Nat} {h : aHp} (hp : p < h.1.length) : (wX11_init_26 p h).2.2.2 p 3 = some (100 + (h.1.length + 14)) := (rvX7_init (by rw [lwX11_init_25]; exact lt_k hp) (by omega)).trans (RX11_init_3_25 hp)
theorem RX11_init_6_26 {p : Nat} {h : aHp} (hp : p < h.1.length) : (wX11_init_26 p h).2.2.2 p 6 = some (100 + (h.1.length + 22)) := (rvX7_init (by rw [lwX11_init_25]; exact lt_k hp) (by omega)).trans (RX11_init_6_25 hp)
theorem RX11_init_4_26 {p : Nat} {h : aHp} (hp : p < h.1.length) : (wX11_init_26 p h).2.2.2 p 4 = some (100 + (h.1.length + 18)) := (rvX7_init (by rw [lwX11_init_25]; exact lt_k hp) (by omega)).trans (RX11_init_4_25 hp)
def wX11_init_27 (p : Nat) (h : aHp) : aHp := pR (wX11_init_26 p h) p 8 (some (100 + (h.1.length + 29)))
theorem lwX11_init_27 (p : Nat) (h : aHp) : (wX11_init_27 p h).1.length = h.1.length + 34 := (lwX11_init_26 p h)
theorem swX11_init_27 (p : Nat) (h : aHp) : aSn (wX11_init_27 p h).1 = aSn h.1 + 5078 := (swX11_init_26 p h)
theorem gwX11_init_27 {p z : Nat} {h : aHp} {y : aSh} (hs0 : (wX11_init_26 p h).1[z]? = some y) : (wX11_init_27 p h).1[z]? = some y := hs0
theorem GX11_init_z0_27 {p : Nat} {h : aHp} (hs : h.1[p]? = some (.inr 11)) : (wX11_init_27 p h).1[p]? = some (.inr 11) := gwX11_init_27 (GX11_init_z0_26 hs)
theorem GX11_init_z4_27 {p : Nat} {h : aHp} (hs : h.1[p]? = some (.inr 11)) : (wX11_init_27 p h).1[(h.1.length + 14)]? = some (.inr 1) := gwX11_init_27 (GX11_init_z4_26 hs)
theorem GX11_init_z5_27 {p : Nat} {h : aHp} (hs : h.1[p]? = some (.inr 11)) : (wX11_init_27 p h).1[(h.1.length + 18)]? = some (.inr 8) := gwX11_init_27 (GX11_init_z5_26 hs)
theorem GX11_init_z7_27 {p : Nat} {h : aHp} (hs : h.1[p]? = some (.inr 11)) : (wX11_init_27 p h).1[(h.1.length + 22)]? = some (.inr 3) := gwX11_init_27 (GX11_init_z7_26 hs)
theorem RX11_init_3_27 {p : Nat} {h : aHp} (hp : p < h.1.length) : (wX11_init_27 p h).2.2.2 p 3 = some (100 + (h.1.length + 14)) := (pR_rv (Or.inr (by decide))).trans (RX11_init_3_26 hp)
theorem RX11_init_6_27 {p : Nat} {h : aHp} (hp : p < h.1.length) : (wX11_init_27 p h).2.2.2 p 6 = some (100 + (h.1.length + 22)) := (pR_rv (Or.inr (by decide))).trans (RX11_init_6_26 hp)
theorem RX11_init_4_27 {p : Nat} {h : aHp} (hp : p < h.1.length) : (wX11_init_27 p h).2.2.2 p 4 = some (100 + (h.1.length + 18)) := (pR_rv (Or.inr (by decide))).trans (RX11_init_4_26 hp)
def wX11_init_28 (p : Nat) (h : aHp) : aHp := aNew (wX11_init_27 p h) (.inr 0)
theorem lwX11_init_28 (p : Nat) (h : aHp) : (wX11_init_28 p h).1.length = h.1.length + 35 := len_step (s := 34) (t := 35) (lwX11_init_27 p h) rfl
theorem swX11_init_28 (p : Nat) (h : aHp) : aSn (wX11_init_28 p h).1 = aSn h.1 + 5093 := sn_step (s := 5078) (z := 15) (t := 5093) (swX11_init_27 p h) rfl rfl
theorem gwX11_init_28 {p z : Nat} {h : aHp} {y : aSh} (hs0 : (wX11_init_27 p h).1[z]? = some y) : (wX11_init_28 p h).1[z]? = some y := aNew_get hs0
theorem GX11_init_z0_28 {p : Nat} {h : aHp} (hs : h.1[p]? = some (.inr 11)) : (wX11_init_28 p h).1[p]? = some (.inr 11) := gwX11_init_28 (GX11_init_z0_27 hs)
theorem GX11_init_z4_28 {p : Nat} {h : aHp} (hs : h.1[p]? = some (.inr 11)) : (wX11_init_28 p h).1[(h.1.length + 14)]? = some (.inr 1) := gwX11_init_28 (GX11_init_z4_27 hs)
theorem GX11_init_z5_28 {p : Nat} {h : aHp} (hs : h.1[p]? = some (.inr 11)) : (wX11_init_28 p h).1[(h.1.length + 18)]? = some (.inr 8) := gwX11_init_28 (GX11_init_z5_27 hs)
theorem GX11_init_z7_28 {p : Nat} {h : aHp} (hs : h.1[p]? = some (.inr 11)) : (wX11_init_28 p h).1[(h.1.length + 22)]? = some (.inr 3) := gwX11_init_28 (GX11_init_z7_27 hs)
theorem GX11_init_z10_28 {p : Nat} {h : aHp} (hs : h.1[p]? = some (.inr 11)) : (wX11_init_28 p h).1[(h.1.length + 34)]? = some (.inr 0) := last_step (lwX11_init_27 p h)
theorem RX11_init_3_28 {p : Nat} {h : aHp} (hp : p < h.1.length) : (wX11_init_28 p h).2.2.2 p 3 = some (100 + (h.1.length + 14)) := (aNew_rv (by rw [lwX11_init_27]; exact lt_k hp)).trans (RX11_init_3_27 hp)
theorem RX11_init_6_28 {p : Nat} {h : aHp} (hp : p < h.1.length) : (wX11_init_28 p h).2.2.2 p 6 = some (100 + (h.1.length + 22)) := (aNew_rv (by rw [lwX11_init_27]; exact lt_k hp)).trans (RX11_init_6_27 hp)
theorem RX11_init_4_28 {p : Nat} {h : aHp} (hp : p < h.1.length) : (wX11_init_28 p h).2.2.2 p 4 = some (100 + (h.1.length + 18)) := (aNew_rv (by rw [lwX11_init_27]; exact lt_k hp)).trans (RX11_init_4_27 hp)
def wX11_init_29 (p : Nat) (h : aHp) : aHp := wX0_init (h.1.length + 34) (h.1.length + 14) (h.1.length + 22) (h.1.length + 18) (wX11_init_28 p h)
theorem lwX11_init_29 (p : Nat) (h : aHp) : (wX11_init_29 p h).1.length = h.1.length + 44 := nat_w (c := 35) (lenX0_init (h.1.length + 34) (h.1.length + 14) (h.1.length + 22) (h.1.length + 18) (wX11_init_28 p h)) (lwX11_init_28 p h) rfl
theorem swX11_init_29 (p : Nat) (h : aHp) : aSn (wX11_init_29 p h).1 = aSn h.1 + 5910 := nat_w (c := 5093) (snX0_init (h.1.length + 34) (h.1.length + 14) (h.1.length + 22) (h.1.length + 18) (wX11_init_28 p h)) (swX11_init_28 p h) rfl
theorem gwX11_init_29 {p z : Nat} {h : aHp} {y : aSh} (hs0 : (wX11_init_28 p h).1[z]? = some y) : (wX11_init_29 p h).1[z]? = some y := getX0_init (p := (h.1.length + 34)) (q0 := (h.1.length + 14)) (q1 := (h.1.length + 22)) (q2 := (h.1.length + 18)) hs0
theorem GX11_init_z0_29 {p : Nat} {h : aHp} (hs : h.1[p]? = some (.inr 11)) : (wX11_init_29 p h).1[p]? = some (.inr 11) := gwX11_init_29 (GX11_init_z0_28 hs)
theorem GX11_init_z4_29 {p : Nat} {h : aHp} (hs : h.1[p]? = some (.inr 11)) : (wX11_init_29 p h).1[(h.1.length + 14)]? = some (.inr 1) := gwX11_init_29 (GX11_init_z4_28 hs)
theorem GX11_init_z5_29 {p : Nat} {h : aHp} (hs : h.1[p]? = some (.inr 11)) : (wX11_init_29 p h).1[(h.1.length + 18)]? = some (.inr 8) := gwX11_init_29 (GX11_init_z5_28 hs)
theorem GX11_init_z7_29 {p : Nat} {h : aHp} (hs : h.1[p]? = some (.inr 11)) : (wX11_init_29 p h).1[(h.1.length + 22)]? = some (.inr 3) := gwX11_init_29 (GX11_init_z7_28 hs)
theorem RX11_init_3_29 {p : Nat} {h : aHp} (hp : p < h.1.length) : (wX11_init_29 p h).2.2.2 p 3 = some (100 + (h.1.length + 14)) := (rvX0_init (by rw [lwX11_init_28]; exact lt_k hp) (by omega)).trans (RX11_init_3_28 hp)
theorem RX11_init_6_29 {p : Nat} {h : aHp} (hp : p < h.1.length) : (wX11_init_29 p h).2.2.2 p 6 = some (100 + (h.1.length + 22)) := (rvX0_init (by rw [lwX11_init_28]; exact lt_k hp) (by omega)).trans (RX11_init_6_28 hp)
theorem RX11_init_4_29 {p : Nat} {h : aHp} (hp : p < h.1.length) : (wX11_init_29 p h).2.2.2 p 4 = some (100 + (h.1.length + 18)) := (rvX0_init (by rw [lwX11_init_28]; exact lt_k hp) (by omega)).trans (RX11_init_4_28 hp)
def wX11_init_30 (p : Nat) (h : aHp) : aHp := pR (wX11_init_29 p h) p 9 (some (100 + (h.1.length + 34)))
theorem lwX11_init_30 (p : Nat) (h : aHp) : (wX11_init_30 p h).1.length = h.1.length + 44 := (lwX11_init_29 p h)
theorem swX11_init_30 (p : Nat) (h : aHp) : aSn (wX11_init_30 p h).1 = aSn h.1 + 5910 := (swX11_init_29 p h)
theorem gwX11_init_30 {p z : Nat} {h : aHp} {y : aSh} (hs0 : (wX11_init_29 p h).1[z]? = some y) : (wX11_init_30 p h).1[z]? = some y := hs0
theorem GX11_init_z0_30 {p : Nat} {h : aHp} (hs : h.1[p]? = some (.inr 11)) : (wX11_init_30 p h).1[p]? = some (.inr 11) := gwX11_init_30 (GX11_init_z0_29 hs)
theorem GX11_init_z4_30 {p : Nat} {h : aHp} (hs : h.1[p]? = some (.inr 11)) : (wX11_init_30 p h).1[(h.1.length + 14)]? = some (.inr 1) := gwX11_init_30 (GX11_init_z4_29 hs)
theorem GX11_init_z5_30 {p : Nat} {h : aHp} (hs : h.1[p]? = some (.inr 11)) : (wX11_init_30 p h).1[(h.1.length + 18)]? = some (.inr 8) := gwX11_init_30 (GX11_init_z5_29 hs)
theorem GX11_init_z7_30 {p : Nat} {h : aHp} (hs : h.1[p]? = some (.inr 11)) : (wX11_init_30 p h).1[(h.1.length + 22)]? = some (.inr 3) := gwX11_init_30 (GX11_init_z7_29 hs)
theorem RX11_init_3_30 {p : Nat} {h : aHp} (hp : p < h.1.length) : (wX11_init_30 p h).2.2.2 p 3 = some (100 + (h.1.length + 14)) := (pR_rv (Or.inr (by decide))).trans (RX11_init_3_29 hp)
theorem RX11_init_6_30 {p : Nat} {h : aHp} (hp : p < h.1.length) : (wX11_init_30 p h).2.2.2 p 6 = some (100 + (h.1.length + 22)) := (pR_rv (Or.inr (by decide))).trans (RX11_init_6_29 hp)
theorem RX11_init_4_30 {p : Nat} {h : aHp} (hp : p < h.1.length) : (wX11_init_30 p h).2.2.2 p 4 = some (100 + (h.1.length + 18)) := (pR_rv (Or.inr (by decide))).trans (RX11_init_4_29 hp)
def wX11_init_31 (p : Nat) (h : aHp) : aHp := aNew (wX11_init_30 p h) (.inr 2)
theorem lwX11_init_31 (p : Nat) (h : aHp) : (wX11_init_31 p h).1.length = h.1.length + 45 := len_step (s := 44) (t := 45) (lwX11_init_30 p h) rfl
theorem swX11_init_31 (p : Nat) (h : aHp) : aSn (wX11_init_31 p h).1 = aSn h.1 + 5919 := sn_step (s := 5910) (z := 9) (t := 5919) (swX11_init_30 p h) rfl rfl
theorem gwX11_init_31 {p z : Nat} {h : aHp} {y : aSh} (hs0 : (wX11_init_30 p h).1[z]? = some y) : (wX11_init_31 p h).1[z]? = some y := aNew_get hs0
theorem GX11_init_z0_31 {p : Nat} {h : aHp} (hs : h.1[p]? = some (.inr 11)) : (wX11_init_31 p h).1[p]? = some (.inr 11) := gwX11_init_31 (GX11_init_z0_30 hs)
theorem GX11_init_z4_31 {p : Nat} {h : aHp} (hs : h.1[p]? = some (.inr 11)) : (wX11_init_31 p h).1[(h.1.length + 14)]? = some (.inr 1) := gwX11_init_31 (GX11_init_z4_30 hs)
theorem GX11_init_z5_31 {p : Nat} {h : aHp} (hs : h.1[p]? = some (.inr 11)) : (wX11_init_31 p h).1[(h.1.length + 18)]? = some (.inr 8) := gwX11_init_31 (GX11_init_z5_30 hs)
theorem GX11_init_z7_31 {p : Nat} {h : aHp} (hs : h.1[p]? = some (.inr 11)) : (wX11_init_31 p h).1[(h.1.length + 22)]? = some (.inr 3) := gwX11_init_31 (GX11_init_z7_30 hs)
theorem GX11_init_z11_31 {p : Nat} {h : aHp} (hs : h.1[p]? = some (.inr 11)) : (wX11_init_31 p h).1[(h.1.length + 44)]? = some (.inr 2) := last_step (lwX11_init_30 p h)
theorem RX11_init_3_31 {p : Nat} {h : aHp} (hp : p < h.1.length) : (wX11_init_31 p h).2.2.2 p 3 = some (100 + (h.1.length + 14)) := (aNew_rv (by rw [lwX11_init_30]; exact lt_k hp)).trans (RX11_init_3_30 hp)
theorem RX11_init_6_31 {p : Nat} {h : aHp} (hp : p < h.1.length) : (wX11_init_31 p h).2.2.2 p 6 = some (100 + (h.1.length + 22)) := (aNew_rv (by rw [lwX11_init_30]; exact lt_k hp)).trans (RX11_init_6_30 hp)
theorem RX11_init_4_31 {p : Nat} {h : aHp} (hp : p < h.1.length) : (wX11_init_31 p h).2.2.2 p 4 = some (100 + (h.1.length + 18)) := (aNew_rv (by rw [lwX11_init_30]; exact lt_k hp)).trans (RX11_init_4_30 hp)
def wX11_init_32 (p : Nat) (h : aHp) : aHp := wX2_init (h.1.length + 44) (h.1.length + 14) (h.1.length + 22) (h.1.length + 18) (wX11_init_31 p h)
theorem lwX11_init_32 (p : Nat) (h : aHp) : (wX11_init_32 p h).1.length = h.1.length + 49 := nat_w (c := 45) (lenX2_init (h.1.length + 44) (h.1.length + 14) (h.1.length + 22) (h.1.length + 18) (wX11_init_31 p h)) (lwX11_init_31 p h) rfl
theorem swX11_init_32 (p : Nat) (h : aHp) : aSn (wX11_init_32 p h).1 = aSn h.1 + 5955 := nat_w (c := 5919) (snX2_init (h.1.length + 44) (h.1.length + 14) (h.1.length + 22) (h.1.length + 18) (wX11_init_31 p h)) (swX11_init_31 p h) rfl
theorem gwX11_init_32 {p z : Nat} {h : aHp} {y : aSh} (hs0 : (wX11_init_31 p h).1[z]? = some y) : (wX11_init_32 p h).1[z]? = some y := getX2_init (p := (h.1.length + 44)) (q0 := (h.1.length + 14)) (q1 := (h.1.length + 22)) (q2 := (h.1.length + 18)) hs0
theorem GX11_init_z0_32 {p : Nat} {h : aHp} (hs : h.1[p]? = some (.inr 11)) : (wX11_init_32 p h).1[p]? = some (.inr 11) := gwX11_init_32 (GX11_init_z0_31 hs)
def wX11_init_33 (p : Nat) (h : aHp) : aHp := pR (wX11_init_32 p h) p 10 (some (100 + (h.1.length + 44)))
theorem lwX11_init_33 (p : Nat) (h : aHp) : (wX11_init_33 p h).1.length = h.1.length + 49 := (lwX11_init_32 p h)
theorem swX11_init_33 (p : Nat) (h : aHp) : aSn (wX11_init_33 p h).1 = aSn h.1 + 5955 := (swX11_init_32 p h)
theorem gwX11_init_33 {p z : Nat} {h : aHp} {y : aSh} (hs0 : (wX11_init_32 p h).1[z]? = some y) : (wX11_init_33 p h).1[z]? = some y := hs0
theorem GX11_init_z0_33 {p : Nat} {h : aHp} (hs : h.1[p]? = some (.inr 11)) : (wX11_init_33 p h).1[p]? = some (.inr 11) := gwX11_init_33 (GX11_init_z0_32 hs)
def wX11_init_34 (p : Nat) (h : aHp) : aHp := pI (wX11_init_33 p h) p 11 50
theorem lwX11_init_34 (p : Nat) (h : aHp) : (wX11_init_34 p h).1.length = h.1.length + 49 := (lwX11_init_33 p h)
theorem swX11_init_34 (p : Nat) (h : aHp) : aSn (wX11_init_34 p h).1 = aSn h.1 + 5955 := (swX11_init_33 p h)
theorem gwX11_init_34 {p z : Nat} {h : aHp} {y : aSh} (hs0 : (wX11_init_33 p h).1[z]? = some y) : (wX11_init_34 p h).1[z]? = some y := hs0
theorem GX11_init_z0_34 {p : Nat} {h : aHp} (hs : h.1[p]? = some (.inr 11)) : (wX11_init_34 p h).1[p]? = some (.inr 11) := gwX11_init_34 (GX11_init_z0_33 hs)
def wX11_init_35 (p : Nat) (h : aHp) : aHp := pI (wX11_init_34 p h) p 12 (-1)
theorem lwX11_init_35 (p : Nat) (h : aHp) : (wX11_init_35 p h).1.length = h.1.length + 49 := (lwX11_init_34 p h)
theorem swX11_init_35 (p : Nat) (h : aHp) : aSn (wX11_init_35 p h).1 = aSn h.1 + 5955 := (swX11_init_34 p h)
theorem gwX11_init_35 {p z : Nat} {h : aHp} {y : aSh} (hs0 : (wX11_init_34 p h).1[z]? = some y) : (wX11_init_35 p h).1[z]? = some y := hs0
def wX11_init (p : Nat) (h : aHp) : aHp := (wX11_init_35 p h)
theorem lenX11_init (p : Nat) (h : aHp) : (wX11_init p h).1.length = h.1.length + 49 := lwX11_init_35 p h
theorem snX11_init (p : Nat) (h : aHp) : aSn (wX11_init p h).1 = aSn h.1 + 5955 := swX11_init_35 p h
theorem getX11_init {p z : Nat} {h : aHp} {y : aSh} (hs0 : h.1[z]? = some y) : (wX11_init p h).1[z]? = some y := gwX11_init_35 (gwX11_init_34 (gwX11_init_33 (gwX11_init_32 (gwX11_init_31 (gwX11_init_30 (gwX11_init_29 (gwX11_init_28 (gwX11_init_27 (gwX11_init_26 (gwX11_init_25 (gwX11_init_24 (gwX11_init_23 (gwX11_init_22 (gwX11_init_21 (gwX11_init_20 (gwX11_init_19 (gwX11_init_18 (gwX11_init_17 (gwX11_init_16 (gwX11_init_15 (gwX11_init_14 (gwX11_init_13 (gwX11_init_12 (gwX11_init_11 (gwX11_init_10 (gwX11_init_9 (gwX11_init_8 (gwX11_init_7 (gwX11_init_6 (gwX11_init_5 (gwX11_init_4 (gwX11_init_3 (gwX11_init_2 (gwX11_init_1 (hs0)))))))))))))))))))))))))))))))))))
section CK
variable {pg : Program} {l : Launch} {e : Env} {R : Room} {s : State} {m : MethodId} {args : Array Value} {below : List Frame} {meth : Method} {c : Code} {Q : State → Prop} {D : va_G} {cA : FieldType → ClassId} {A : Nat → Prop} {ad0 : Nat → Nat}
theorem ckX11_init_0 {p : Nat} {h : aHp} (hX : aX pg s m args c yX11_init.cls cX11_init 1 D cA A ad0) (hE : aE s) (hnm : meth.name = "<init>") (hs : h.1[p]? = some (.inr 11)) (hp : p < h.1.length) (hRf : 3 ≤ R.frames) (hRl : 64 * 3 ≤ R.locals) (hRf1 : 1 ≤ R.frames) (hRl1 : (([] : List Value).map (fun v => v.category)).sum + 12 ≤ R.locals) (hRc : 49 ≤ R.cells) (hRs : 5955 ≤ R.slots) (hL : ∀ n, h.1.length ≤ n → ((aEnt [.ref (100 + p)] 1).all (fun o => match o with | some v => aBel (100 + n) v | none => true)) = true)
    (kk : aJ pg l e R s m args below meth c Q D cA A ad0 1 h.1.length (aSn h.1) 30 (aEnt [.ref (100 + p)] 1) [.ref (100 + (h.1.length + 10)), .ref (100 + p)] (wX11_init_7 p h)) : aJ pg l e R s m args below meth c Q D cA A ad0 1 h.1.length (aSn h.1) 0 (aEnt [.ref (100 + p)] 1) [] h := by
  refine j_aload_n hX dX11_init_0 rfl ?_
  refine jpc (b := 1) rfl ?_
  refine j_obj hX lk_X11_1 dX11_init_1 ⟨hRf1, hRl1⟩ ?_
  refine jpc (b := 4) rfl ?_
  refine j_aload_n hX dX11_init_4 rfl ?_
  refine jpc (b := 5) rfl ?_
  refine j_newN (N := 3) (n0 := h.1.length) hX kX10 dX11_init_5 wCl_RX11_7 wIn_RX10 wIni_RX10 nf_RX10 rfl (b_cons (b_ref hp) b_nil) (hL _ (Nat.le_refl _)) (rmC (Nat.add_zero _).symm hRc (by decide)) (rmS (Nat.add_zero (aSn h.1)).symm hRs (by decide)) (h' := wX11_init_1 p h) rfl ?_
  refine jpc (b := 8) rfl ?_
  refine j_dup hX dX11_init_8 rfl ?_
  refine jpc (b := 9) rfl ?_
  refine j_callINM (as := []) (q := h.1.length) (n0 := (h.1.length + 1)) hX lk_X11_9 dX11_init_9 (okX10_init (GX11_init_z1_1 hs)) rfl (rmm (by decide) hRf hRl (by decide)) (Nat.le_of_ble_eq_true rfl) (rmW (lenX10_init h.1.length (wX11_init_1 p h)) (lwX11_init_1 p h) hRc (by decide)) (rmW (snX10_init h.1.length (wX11_init_1 p h)) (swX11_init_1 p h) hRs (by decide)) (lwX11_init_1 p h) (b_cons (b_ref (Nat.lt_add_of_pos_right (by decide))) (b_cons (b_ref (lt_k hp)) b_nil)) (hL _ (Nat.le_add_right _ _)) (h' := wX11_init_2 p h) rfl ?_
  refine jpc (b := 12) rfl ?_
  refine j_putRFN (k := 0) hX kX11 (by decide) fk_X11_10 (putv (a := h.1.length) (k := 2) (lwX11_init_2 p h) (Nat.lt_add_of_pos_right (by decide))) dX11_init_12 (GX11_init_z0_2 hs) rfl rfl hnm rfl (h' := wX11_init_3 p h) rfl ?_
  refine jpc (b := 15) rfl ?_
  refine j_aload_n hX dX11_init_15 rfl ?_
  refine jpc (b := 16) rfl ?_
  refine j_newN (N := 6) (n0 := (h.1.length + 2)) hX kX9 dX11_init_16 wCl_RX11_16 wIn_RX9 wIni_RX9 nf_RX9 (lwX11_init_3 p h) (b_cons (b_ref (lt_k hp)) b_nil) (hL _ (Nat.le_add_right _ _)) (rmC rfl hRc (by decide)) (rmS (swX11_init_3 p h) hRs (by decide)) (h' := wX11_init_4 p h) rfl ?_
  refine jpc (b := 19) rfl ?_
  refine j_dup hX dX11_init_19 rfl ?_
  refine jpc (b := 20) rfl ?_
  refine j_callINX (as := []) (q := (h.1.length + 2)) (n0 := (h.1.length + 3)) hX hE lk_X11_18 dX11_init_20 (okX9_init (GX11_init_z2_4 hs)) rfl (rmm (by decide) hRf hRl (by decide)) (Nat.le_of_ble_eq_true rfl) (rmW (lenX9_init (h.1.length + 2) (wX11_init_4 p h)) (lwX11_init_4 p h) hRc (by decide)) (rmW (snX9_init (h.1.length + 2) (wX11_init_4 p h)) (swX11_init_4 p h) hRs (by decide)) (lwX11_init_4 p h) (b_cons (b_ref (lt_j (by decide))) (b_cons (b_ref (lt_k hp)) b_nil)) (hL _ (Nat.le_add_right _ _)) (h' := wX11_init_5 p h) rfl ?_
  refine jpc (b := 23) rfl ?_
  refine j_putRFN (k := 1) hX kX11 (by decide) fk_X11_19 (putv (a := h.1.length) (k := 10) (lwX11_init_5 p h) (lt_j (by decide))) dX11_init_23 (GX11_init_z0_5 hs) rfl rfl hnm rfl (h' := wX11_init_6 p h) rfl ?_
  refine jpc (b := 26) rfl ?_
  refine j_aload_n hX dX11_init_26 rfl ?_
  refine jpc (b := 27) rfl ?_
  refine j_newN (N := 6) (n0 := (h.1.length + 10)) hX kX1 dX11_init_27 wCl_RX11_23 wIn_RX1 wIni_RX1 nf_RX1 (lwX11_init_6 p h) (b_cons (b_ref (lt_k hp)) b_nil) (hL _ (Nat.le_add_right _ _)) (rmC rfl hRc (by decide)) (rmS (swX11_init_6 p h) hRs (by decide)) (h' := wX11_init_7 p h) rfl ?_
  exact kk
end CK
section CK
variable {pg : Program} {l : Launch} {e : Env} {R : Room} {s : State} {m : MethodId} {args : Array Value} {below : List Frame} {meth : Method} {c : Code} {Q : State → Prop} {D : va_G} {cA : FieldType → ClassId} {A : Nat → Prop} {ad0 : Nat → Nat}
theorem ckX11_init_30 {p : Nat} {h : aHp} (hX : aX pg s m args c yX11_init.cls cX11_init 1 D cA A ad0) (hE : aE s) (hnm : meth.name = "<init>") (hs : h.1[p]? = some (.inr 11)) (hp : p < h.1.length) (hRf : 3 ≤ R.frames) (hRl : 64 * 3 ≤ R.locals) (hRf1 : 1 ≤ R.frames) (hRl1 : (([] : List Value).map (fun v => v.category)).sum + 12 ≤ R.locals) (hRc : 49 ≤ R.cells) (hRs : 5955 ≤ R.slots) (hL : ∀ n, h.1.length ≤ n → ((aEnt [.ref (100 + p)] 1).all (fun o => match o with | some v => aBel (100 + n) v | none => true)) = true)
    (kk : aJ pg l e R s m args below meth c Q D cA A ad0 1 h.1.length (aSn h.1) 60 (aEnt [.ref (100 + p)] 1) [.ref (100 + p)] (wX11_init_15 p h)) : aJ pg l e R s m args below meth c Q D cA A ad0 1 h.1.length (aSn h.1) 30 (aEnt [.ref (100 + p)] 1) [.ref (100 + (h.1.length + 10)), .ref (100 + p)] (wX11_init_7 p h) := by
  refine j_dup hX dX11_init_30 rfl ?_
  refine jpc (b := 31) rfl ?_
  refine j_callINM (as := []) (q := (h.1.length + 10)) (n0 := (h.1.length + 11)) hX lk_X11_25 dX11_init_31 (okX1_init (GX11_init_z3_7 hs)) rfl (rmm (by decide) hRf hRl (by decide)) (Nat.le_of_ble_eq_true rfl) (rmW (lenX1_init (h.1.length + 10) (wX11_init_7 p h)) (lwX11_init_7 p h) hRc (by decide)) (rmW (snX1_init (h.1.length + 10) (wX11_init_7 p h)) (swX11_init_7 p h) hRs (by decide)) (lwX11_init_7 p h) (b_cons (b_ref (lt_j (by decide))) (b_cons (b_ref (lt_k hp)) b_nil)) (hL _ (Nat.le_add_right _ _)) (h' := wX11_init_8 p h) rfl ?_
  refine jpc (b := 34) rfl ?_
  refine j_putRFN (k := 2) hX kX11 (by decide) fk_X11_26 (putv (a := h.1.length) (k := 14) (lwX11_init_8 p h) (lt_j (by decide))) dX11_init_34 (GX11_init_z0_8 hs) rfl rfl hnm rfl (h' := wX11_init_9 p h) rfl ?_
  refine jpc (b := 37) rfl ?_
  refine j_aload_n hX dX11_init_37 rfl ?_
  refine jpc (b := 38) rfl ?_
  refine j_newN (N := 6) (n0 := (h.1.length + 14)) hX kX1 dX11_init_38 wCl_RX11_23 wIn_RX1 wIni_RX1 nf_RX1 (lwX11_init_9 p h) (b_cons (b_ref (lt_k hp)) b_nil) (hL _ (Nat.le_add_right _ _)) (rmC rfl hRc (by decide)) (rmS (swX11_init_9 p h) hRs (by decide)) (h' := wX11_init_10 p h) rfl ?_
  refine jpc (b := 41) rfl ?_
  refine j_dup hX dX11_init_41 rfl ?_
  refine jpc (b := 42) rfl ?_
  refine j_callINM (as := []) (q := (h.1.length + 14)) (n0 := (h.1.length + 15)) hX lk_X11_25 dX11_init_42 (okX1_init (GX11_init_z4_10 hs)) rfl (rmm (by decide) hRf hRl (by decide)) (Nat.le_of_ble_eq_true rfl) (rmW (lenX1_init (h.1.length + 14) (wX11_init_10 p h)) (lwX11_init_10 p h) hRc (by decide)) (rmW (snX1_init (h.1.length + 14) (wX11_init_10 p h)) (swX11_init_10 p h) hRs (by decide)) (lwX11_init_10 p h) (b_cons (b_ref (lt_j (by decide))) (b_cons (b_ref (lt_k hp)) b_nil)) (hL _ (Nat.le_add_right _ _)) (h' := wX11_init_11 p h) rfl ?_
  refine jpc (b := 45) rfl ?_
  refine j_putRFN (k := 3) hX kX11 (by decide) fk_X11_30 (putv (a := h.1.length) (k := 18) (lwX11_init_11 p h) (lt_j (by decide))) dX11_init_45 (GX11_init_z0_11 hs) rfl rfl hnm rfl (h' := wX11_init_12 p h) rfl ?_
  refine jpc (b := 48) rfl ?_
  refine j_aload_n hX dX11_init_48 rfl ?_
  refine jpc (b := 49) rfl ?_
  refine j_newN (N := 1) (n0 := (h.1.length + 18)) hX kX8 dX11_init_49 wCl_RX11_33 wIn_RX8 wIni_RX8 nf_RX8 (lwX11_init_12 p h) (b_cons (b_ref (lt_k hp)) b_nil) (hL _ (Nat.le_add_right _ _)) (rmC rfl hRc (by decide)) (rmS (swX11_init_12 p h) hRs (by decide)) (h' := wX11_init_13 p h) rfl ?_
  refine jpc (b := 52) rfl ?_
  refine j_dup hX dX11_init_52 rfl ?_
  refine jpc (b := 53) rfl ?_
  refine j_callINM (as := []) (q := (h.1.length + 18)) (n0 := (h.1.length + 19)) hX lk_X11_35 dX11_init_53 (okX8_init (GX11_init_z5_13 hs)) rfl (rmm (by decide) hRf hRl (by decide)) (Nat.le_of_ble_eq_true rfl) (rmW (lenX8_init (h.1.length + 18) (wX11_init_13 p h)) (lwX11_init_13 p h) hRc (by decide)) (rmW (snX8_init (h.1.length + 18) (wX11_init_13 p h)) (swX11_init_13 p h) hRs (by decide)) (lwX11_init_13 p h) (b_cons (b_ref (lt_j (by decide))) (b_cons (b_ref (lt_k hp)) b_nil)) (hL _ (Nat.le_add_right _ _)) (h' := wX11_init_14 p h) rfl ?_
  refine jpc (b := 56) rfl ?_
  refine j_putRFN (k := 4) hX kX11 (by decide) fk_X11_36 (putv (a := h.1.length) (k := 20) (lwX11_init_14 p h) (lt_j (by decide))) dX11_init_56 (GX11_init_z0_14 hs) rfl rfl hnm rfl (h' := wX11_init_15 p h) rfl ?_
  refine jpc (b := 59) rfl ?_
  refine j_aload_n hX dX11_init_59 rfl ?_
  exact kk
end CK
section CK
variable {pg : Program} {l : Launch} {e : Env} {R : Room} {s : State} {m : MethodId} {args : Array Value} {below : List Frame} {meth : Method} {c : Code} {Q : State → Prop} {D : va_G} {cA : FieldType → ClassId} {A : Nat → Prop} {ad0 : Nat → Nat}
theorem ckX11_init_60 {p : Nat} {h : aHp} (hX : aX pg s m args c yX11_init.cls cX11_init 1 D cA A ad0) (hE : aE s) (hnm : meth.name = "<init>") (hs : h.1[p]? = some (.inr 11)) (hp : p < h.1.length) (hRf : 3 ≤ R.frames) (hRl : 64 * 3 ≤ R.locals) (hRf1 : 1 ≤ R.frames) (hRl1 : (([] : List Value).map (fun v => v.category)).sum + 12 ≤ R.locals) (hRc : 49 ≤ R.cells) (hRs : 5955 ≤ R.slots) (hL : ∀ n, h.1.length ≤ n → ((aEnt [.ref (100 + p)] 1).all (fun o => match o with | some v => aBel (100 + n) v | none => true)) = true)
    (kk : aJ pg l e R s m args below meth c Q D cA A ad0 1 h.1.length (aSn h.1) 90 (aEnt [.ref (100 + p)] 1) [.ref (100 + (h.1.length + 24)), .ref (100 + (h.1.length + 24)), .ref (100 + p)] (wX11_init_22 p h)) : aJ pg l e R s m args below meth c Q D cA A ad0 1 h.1.length (aSn h.1) 60 (aEnt [.ref (100 + p)] 1) [.ref (100 + p)] (wX11_init_15 p h) := by
  refine j_newN (N := 1) (n0 := (h.1.length + 20)) hX kX8 dX11_init_60 wCl_RX11_33 wIn_RX8 wIni_RX8 nf_RX8 (lwX11_init_15 p h) (b_cons (b_ref (lt_k hp)) b_nil) (hL _ (Nat.le_add_right _ _)) (rmC rfl hRc (by decide)) (rmS (swX11_init_15 p h) hRs (by decide)) (h' := wX11_init_16 p h) rfl ?_
  refine jpc (b := 63) rfl ?_
  refine j_dup hX dX11_init_63 rfl ?_
  refine jpc (b := 64) rfl ?_
  refine j_callINM (as := []) (q := (h.1.length + 20)) (n0 := (h.1.length + 21)) hX lk_X11_35 dX11_init_64 (okX8_init (GX11_init_z6_16 hs)) rfl (rmm (by decide) hRf hRl (by decide)) (Nat.le_of_ble_eq_true rfl) (rmW (lenX8_init (h.1.length + 20) (wX11_init_16 p h)) (lwX11_init_16 p h) hRc (by decide)) (rmW (snX8_init (h.1.length + 20) (wX11_init_16 p h)) (swX11_init_16 p h) hRs (by decide)) (lwX11_init_16 p h) (b_cons (b_ref (lt_j (by decide))) (b_cons (b_ref (lt_k hp)) b_nil)) (hL _ (Nat.le_add_right _ _)) (h' := wX11_init_17 p h) rfl ?_
  refine jpc (b := 67) rfl ?_
  refine j_putRFN (k := 5) hX kX11 (by decide) fk_X11_40 (putv (a := h.1.length) (k := 22) (lwX11_init_17 p h) (lt_j (by decide))) dX11_init_67 (GX11_init_z0_17 hs) rfl rfl hnm rfl (h' := wX11_init_18 p h) rfl ?_
  refine jpc (b := 70) rfl ?_
  refine j_aload_n hX dX11_init_70 rfl ?_
  refine jpc (b := 71) rfl ?_
  refine j_newN (N := 5) (n0 := (h.1.length + 22)) hX kX3 dX11_init_71 wCl_RX11_43 wIn_RX3 wIni_RX3 nf_RX3 (lwX11_init_18 p h) (b_cons (b_ref (lt_k hp)) b_nil) (hL _ (Nat.le_add_right _ _)) (rmC rfl hRc (by decide)) (rmS (swX11_init_18 p h) hRs (by decide)) (h' := wX11_init_19 p h) rfl ?_
  refine jpc (b := 74) rfl ?_
  refine j_dup hX dX11_init_74 rfl ?_
  refine jpc (b := 75) rfl ?_
  refine j_aload_n hX dX11_init_75 rfl ?_
  refine jpc (b := 76) rfl ?_
  refine j_getRN (k := 3) hX kX11 (by decide) fk_X11_30 (RX11_init_3_19 hp) dX11_init_76 (GX11_init_z0_19 hs) rfl ?_
  refine jpc (b := 79) rfl ?_
  refine j_callIM (as := [.ref (100 + (h.1.length + 14))]) (q := (h.1.length + 22)) (n0 := (h.1.length + 23)) hX lk_X11_45 dX11_init_79 (okX3_init (GX11_init_z7_19 hs) (GX11_init_z4_19 hs)) rfl (rmm (by decide) hRf hRl (by decide)) (Nat.le_of_ble_eq_true rfl) (rmW (lenX3_init (h.1.length + 22) (h.1.length + 14) (wX11_init_19 p h)) (lwX11_init_19 p h) hRc (by decide)) (rmW (snX3_init (h.1.length + 22) (h.1.length + 14) (wX11_init_19 p h)) (swX11_init_19 p h) hRs (by decide)) (lwX11_init_19 p h) (b_cons (b_ref (lt_j (by decide))) (b_cons (b_ref (lt_k hp)) b_nil)) (hL _ (Nat.le_add_right _ _)) (h' := wX11_init_20 p h) rfl ?_
  refine jpc (b := 82) rfl ?_
  refine j_putRFN (k := 6) hX kX11 (by decide) fk_X11_48 (putv (a := h.1.length) (k := 24) (lwX11_init_20 p h) (lt_j (by decide))) dX11_init_82 (GX11_init_z0_20 hs) rfl rfl hnm rfl (h' := wX11_init_21 p h) rfl ?_
  refine jpc (b := 85) rfl ?_
  refine j_aload_n hX dX11_init_85 rfl ?_
  refine jpc (b := 86) rfl ?_
  refine j_newN (N := 7) (n0 := (h.1.length + 24)) hX kX6 dX11_init_86 wCl_RX11_52 wIn_RX6 wIni_RX6 nf_RX6 (lwX11_init_21 p h) (b_cons (b_ref (lt_k hp)) b_nil) (hL _ (Nat.le_add_right _ _)) (rmC rfl hRc (by decide)) (rmS (swX11_init_21 p h) hRs (by decide)) (h' := wX11_init_22 p h) rfl ?_
  refine jpc (b := 89) rfl ?_
  refine j_dup hX dX11_init_89 rfl ?_
  exact kk
end CK
section CK
variable {pg : Program} {l : Launch} {e : Env} {R : Room} {s : State} {m : MethodId} {args : Array Value} {below : List Frame} {meth : Method} {c : Code} {Q : State → Prop} {D : va_G} {cA : FieldType → ClassId} {A : Nat → Prop} {ad0 : Nat → Nat}
theorem ckX11_init_90 {p : Nat} {h : aHp} (hX : aX pg s m args c yX11_init.cls cX11_init 1 D cA A ad0) (hE : aE s) (hnm : meth.name = "<init>") (hs : h.1[p]? = some (.inr 11)) (hp : p < h.1.length) (hRf : 3 ≤ R.frames) (hRl : 64 * 3 ≤ R.locals) (hRf1 : 1 ≤ R.frames) (hRl1 : (([] : List Value).map (fun v => v.category)).sum + 12 ≤ R.locals) (hRc : 49 ≤ R.cells) (hRs : 5955 ≤ R.slots) (hL : ∀ n, h.1.length ≤ n → ((aEnt [.ref (100 + p)] 1).all (fun o => match o with | some v => aBel (100 + n) v | none => true)) = true)
    (kk : aJ pg l e R s m args below meth c Q D cA A ad0 1 h.1.length (aSn h.1) 120 (aEnt [.ref (100 + p)] 1) [.ref (100 + p)] (wX11_init_27 p h)) : aJ pg l e R s m args below meth c Q D cA A ad0 1 h.1.length (aSn h.1) 90 (aEnt [.ref (100 + p)] 1) [.ref (100 + (h.1.length + 24)), .ref (100 + (h.1.length + 24)), .ref (100 + p)] (wX11_init_22 p h) := by
  refine j_callINM (as := []) (q := (h.1.length + 24)) (n0 := (h.1.length + 25)) hX lk_X11_54 dX11_init_90 (okX6_init (GX11_init_z8_22 hs)) rfl (rmm (by decide) hRf hRl (by decide)) (Nat.le_of_ble_eq_true rfl) (rmW (lenX6_init (h.1.length + 24) (wX11_init_22 p h)) (lwX11_init_22 p h) hRc (by decide)) (rmW (snX6_init (h.1.length + 24) (wX11_init_22 p h)) (swX11_init_22 p h) hRs (by decide)) (lwX11_init_22 p h) (b_cons (b_ref (lt_j (by decide))) (b_cons (b_ref (lt_k hp)) b_nil)) (hL _ (Nat.le_add_right _ _)) (h' := wX11_init_23 p h) rfl ?_
  refine jpc (b := 93) rfl ?_
  refine j_putRFN (k := 7) hX kX11 (by decide) fk_X11_55 (putv (a := h.1.length) (k := 29) (lwX11_init_23 p h) (lt_j (by decide))) dX11_init_93 (GX11_init_z0_23 hs) rfl rfl hnm rfl (h' := wX11_init_24 p h) rfl ?_
  refine jpc (b := 96) rfl ?_
  refine j_aload_n hX dX11_init_96 rfl ?_
  refine jpc (b := 97) rfl ?_
  refine j_newN (N := 11) (n0 := (h.1.length + 29)) hX kX7 dX11_init_97 wCl_RX11_59 wIn_RX7 wIni_RX7 nf_RX7 (lwX11_init_24 p h) (b_cons (b_ref (lt_k hp)) b_nil) (hL _ (Nat.le_add_right _ _)) (rmC rfl hRc (by decide)) (rmS (swX11_init_24 p h) hRs (by decide)) (h' := wX11_init_25 p h) rfl ?_
  refine jpc (b := 100) rfl ?_
  refine j_dup hX dX11_init_100 rfl ?_
  refine jpc (b := 101) rfl ?_
  refine j_aload_n hX dX11_init_101 rfl ?_
  refine jpc (b := 102) rfl ?_
  refine j_getRN (k := 3) hX kX11 (by decide) fk_X11_30 (RX11_init_3_25 hp) dX11_init_102 (GX11_init_z0_25 hs) rfl ?_
  refine jpc (b := 105) rfl ?_
  refine j_aload_n hX dX11_init_105 rfl ?_
  refine jpc (b := 106) rfl ?_
  refine j_getRN (k := 6) hX kX11 (by decide) fk_X11_48 (RX11_init_6_25 hp) dX11_init_106 (GX11_init_z0_25 hs) rfl ?_
  refine jpc (b := 109) rfl ?_
  refine j_aload_n hX dX11_init_109 rfl ?_
  refine jpc (b := 110) rfl ?_
  refine j_getRN (k := 4) hX kX11 (by decide) fk_X11_36 (RX11_init_4_25 hp) dX11_init_110 (GX11_init_z0_25 hs) rfl ?_
  refine jpc (b := 113) rfl ?_
  refine j_callIM (as := [.ref (100 + (h.1.length + 14)), .ref (100 + (h.1.length + 22)), .ref (100 + (h.1.length + 18))]) (q := (h.1.length + 29)) (n0 := (h.1.length + 30)) hX lk_X11_61 dX11_init_113 (okX7_init (GX11_init_z9_25 hs) (GX11_init_z4_25 hs) (GX11_init_z7_25 hs) (GX11_init_z5_25 hs)) rfl (rmm (by decide) hRf hRl (by decide)) (Nat.le_of_ble_eq_true rfl) (rmW (lenX7_init (h.1.length + 29) (h.1.length + 14) (h.1.length + 22) (h.1.length + 18) (wX11_init_25 p h)) (lwX11_init_25 p h) hRc (by decide)) (rmW (snX7_init (h.1.length + 29) (h.1.length + 14) (h.1.length + 22) (h.1.length + 18) (wX11_init_25 p h)) (swX11_init_25 p h) hRs (by decide)) (lwX11_init_25 p h) (b_cons (b_ref (lt_j (by decide))) (b_cons (b_ref (lt_k hp)) b_nil)) (hL _ (Nat.le_add_right _ _)) (h' := wX11_init_26 p h) rfl ?_
  refine jpc (b := 116) rfl ?_
  refine j_putRFN (k := 8) hX kX11 (by decide) fk_X11_64 (putv (a := h.1.length) (k := 34) (lwX11_init_26 p h) (lt_j (by decide))) dX11_init_116 (GX11_init_z0_26 hs) rfl rfl hnm rfl (h' := wX11_init_27 p h) rfl ?_
  refine jpc (b := 119) rfl ?_
  refine j_aload_n hX dX11_init_119 rfl ?_
  exact kk
end CK
section CK
variable {pg : Program} {l : Launch} {e : Env} {R : Room} {s : State} {m : MethodId} {args : Array Value} {below : List Frame} {meth : Method} {c : Code} {Q : State → Prop} {D : va_G} {cA : FieldType → ClassId} {A : Nat → Prop} {ad0 : Nat → Nat}
theorem ckX11_init_120 {p : Nat} {h : aHp} (hX : aX pg s m args c yX11_init.cls cX11_init 1 D cA A ad0) (hE : aE s) (hnm : meth.name = "<init>") (hs : h.1[p]? = some (.inr 11)) (hp : p < h.1.length) (hRf : 3 ≤ R.frames) (hRl : 64 * 3 ≤ R.locals) (hRf1 : 1 ≤ R.frames) (hRl1 : (([] : List Value).map (fun v => v.category)).sum + 12 ≤ R.locals) (hRc : 49 ≤ R.cells) (hRs : 5955 ≤ R.slots) (hL : ∀ n, h.1.length ≤ n → ((aEnt [.ref (100 + p)] 1).all (fun o => match o with | some v => aBel (100 + n) v | none => true)) = true)
    (kk : aJ pg l e R s m args below meth c Q D cA A ad0 1 h.1.length (aSn h.1) 148 (aEnt [.ref (100 + p)] 1) [.ref (100 + p), .ref (100 + (h.1.length + 44)), .ref (100 + (h.1.length + 44)), .ref (100 + p)] (wX11_init_31 p h)) : aJ pg l e R s m args below meth c Q D cA A ad0 1 h.1.length (aSn h.1) 120 (aEnt [.ref (100 + p)] 1) [.ref (100 + p)] (wX11_init_27 p h) := by
  refine j_newN (N := 15) (n0 := (h.1.length + 34)) hX kX0 dX11_init_120 wCl_RX11_68 wIn_RX0 wIni_RX0 nf_RX0 (lwX11_init_27 p h) (b_cons (b_ref (lt_k hp)) b_nil) (hL _ (Nat.le_add_right _ _)) (rmC rfl hRc (by decide)) (rmS (swX11_init_27 p h) hRs (by decide)) (h' := wX11_init_28 p h) rfl ?_
  refine jpc (b := 123) rfl ?_
  refine j_dup hX dX11_init_123 rfl ?_
  refine jpc (b := 124) rfl ?_
  refine j_aload_n hX dX11_init_124 rfl ?_
  refine jpc (b := 125) rfl ?_
  refine j_getRN (k := 3) hX kX11 (by decide) fk_X11_30 (RX11_init_3_28 hp) dX11_init_125 (GX11_init_z0_28 hs) rfl ?_
  refine jpc (b := 128) rfl ?_
  refine j_aload_n hX dX11_init_128 rfl ?_
  refine jpc (b := 129) rfl ?_
  refine j_getRN (k := 6) hX kX11 (by decide) fk_X11_48 (RX11_init_6_28 hp) dX11_init_129 (GX11_init_z0_28 hs) rfl ?_
  refine jpc (b := 132) rfl ?_
  refine j_aload_n hX dX11_init_132 rfl ?_
  refine jpc (b := 133) rfl ?_
  refine j_getRN (k := 4) hX kX11 (by decide) fk_X11_36 (RX11_init_4_28 hp) dX11_init_133 (GX11_init_z0_28 hs) rfl ?_
  refine jpc (b := 136) rfl ?_
  refine j_callIM (as := [.ref (100 + (h.1.length + 14)), .ref (100 + (h.1.length + 22)), .ref (100 + (h.1.length + 18))]) (q := (h.1.length + 34)) (n0 := (h.1.length + 35)) hX lk_X11_70 dX11_init_136 (okX0_init (GX11_init_z10_28 hs) (GX11_init_z4_28 hs) (GX11_init_z7_28 hs) (GX11_init_z5_28 hs)) rfl (rmm (by decide) hRf hRl (by decide)) (Nat.le_of_ble_eq_true rfl) (rmW (lenX0_init (h.1.length + 34) (h.1.length + 14) (h.1.length + 22) (h.1.length + 18) (wX11_init_28 p h)) (lwX11_init_28 p h) hRc (by decide)) (rmW (snX0_init (h.1.length + 34) (h.1.length + 14) (h.1.length + 22) (h.1.length + 18) (wX11_init_28 p h)) (swX11_init_28 p h) hRs (by decide)) (lwX11_init_28 p h) (b_cons (b_ref (lt_j (by decide))) (b_cons (b_ref (lt_k hp)) b_nil)) (hL _ (Nat.le_add_right _ _)) (h' := wX11_init_29 p h) rfl ?_
  refine jpc (b := 139) rfl ?_
  refine j_putRFN (k := 9) hX kX11 (by decide) fk_X11_71 (putv (a := h.1.length) (k := 44) (lwX11_init_29 p h) (lt_j (by decide))) dX11_init_139 (GX11_init_z0_29 hs) rfl rfl hnm rfl (h' := wX11_init_30 p h) rfl ?_
  refine jpc (b := 142) rfl ?_
  refine j_aload_n hX dX11_init_142 rfl ?_
  refine jpc (b := 143) rfl ?_
  refine j_newN (N := 9) (n0 := (h.1.length + 44)) hX kX2 dX11_init_143 wCl_RX11_75 wIn_RX2 wIni_RX2 nf_RX2 (lwX11_init_30 p h) (b_cons (b_ref (lt_k hp)) b_nil) (hL _ (Nat.le_add_right _ _)) (rmC rfl hRc (by decide)) (rmS (swX11_init_30 p h) hRs (by decide)) (h' := wX11_init_31 p h) rfl ?_
  refine jpc (b := 146) rfl ?_
  refine j_dup hX dX11_init_146 rfl ?_
  refine jpc (b := 147) rfl ?_
  refine j_aload_n hX dX11_init_147 rfl ?_
  exact kk
end CK
section CK
variable {pg : Program} {l : Launch} {e : Env} {R : Room} {s : State} {m : MethodId} {args : Array Value} {below : List Frame} {meth : Method} {c : Code} {Q : State → Prop} {D : va_G} {cA : FieldType → ClassId} {A : Nat → Prop} {ad0 : Nat → Nat}
theorem ckX11_init_148 {p : Nat} {h : aHp} (hX : aX pg s m args c yX11_init.cls cX11_init 1 D cA A ad0) (hE : aE s) (hnm : meth.name = "<init>") (hs : h.1[p]? = some (.inr 11)) (hp : p < h.1.length) (hRf : 3 ≤ R.frames) (hRl : 64 * 3 ≤ R.locals) (hRf1 : 1 ≤ R.frames) (hRl1 : (([] : List Value).map (fun v => v.category)).sum + 12 ≤ R.locals) (hRc : 49 ≤ R.cells) (hRs : 5955 ≤ R.slots) (hL : ∀ n, h.1.length ≤ n → ((aEnt [.ref (100 + p)] 1).all (fun o => match o with | some v => aBel (100 + n) v | none => true)) = true)
    (kk : aJ pg l e R s m args below meth c Q D cA A ad0 1 h.1.length (aSn h.1) 176 (aEnt [.ref (100 + p)] 1) [] (wX11_init_35 p h)) : aJ pg l e R s m args below meth c Q D cA A ad0 1 h.1.length (aSn h.1) 148 (aEnt [.ref (100 + p)] 1) [.ref (100 + p), .ref (100 + (h.1.length + 44)), .ref (100 + (h.1.length + 44)), .ref (100 + p)] (wX11_init_31 p h) := by
  refine j_getRN (k := 3) hX kX11 (by decide) fk_X11_30 (RX11_init_3_31 hp) dX11_init_148 (GX11_init_z0_31 hs) rfl ?_
  refine jpc (b := 151) rfl ?_
  refine j_aload_n hX dX11_init_151 rfl ?_
  refine jpc (b := 152) rfl ?_
  refine j_getRN (k := 6) hX kX11 (by decide) fk_X11_48 (RX11_init_6_31 hp) dX11_init_152 (GX11_init_z0_31 hs) rfl ?_
  refine jpc (b := 155) rfl ?_
  refine j_aload_n hX dX11_init_155 rfl ?_
  refine jpc (b := 156) rfl ?_
  refine j_getRN (k := 4) hX kX11 (by decide) fk_X11_36 (RX11_init_4_31 hp) dX11_init_156 (GX11_init_z0_31 hs) rfl ?_
  refine jpc (b := 159) rfl ?_
  refine j_callIM (as := [.ref (100 + (h.1.length + 14)), .ref (100 + (h.1.length + 22)), .ref (100 + (h.1.length + 18))]) (q := (h.1.length + 44)) (n0 := (h.1.length + 45)) hX lk_X11_77 dX11_init_159 (okX2_init (GX11_init_z11_31 hs) (GX11_init_z4_31 hs) (GX11_init_z7_31 hs) (GX11_init_z5_31 hs)) rfl (rmm (by decide) hRf hRl (by decide)) (Nat.le_of_ble_eq_true rfl) (rmW (lenX2_init (h.1.length + 44) (h.1.length + 14) (h.1.length + 22) (h.1.length + 18) (wX11_init_31 p h)) (lwX11_init_31 p h) hRc (by decide)) (rmW (snX2_init (h.1.length + 44) (h.1.length + 14) (h.1.length + 22) (h.1.length + 18) (wX11_init_31 p h)) (swX11_init_31 p h) hRs (by decide)) (lwX11_init_31 p h) (b_cons (b_ref (lt_j (by decide))) (b_cons (b_ref (lt_k hp)) b_nil)) (hL _ (Nat.le_add_right _ _)) (h' := wX11_init_32 p h) rfl ?_
  refine jpc (b := 162) rfl ?_
  refine j_putRFN (k := 10) hX kX11 (by decide) fk_X11_78 (putv (a := h.1.length) (k := 49) (lwX11_init_32 p h) (lt_j (by decide))) dX11_init_162 (GX11_init_z0_32 hs) rfl rfl hnm rfl (h' := wX11_init_33 p h) rfl ?_
  refine jpc (b := 165) rfl ?_
  refine j_aload_n hX dX11_init_165 rfl ?_
  refine jpc (b := 166) rfl ?_
  refine j_bipush hX dX11_init_166 bp_50 ?_
  refine jpc (b := 168) rfl ?_
  refine j_putIN (k := 11) hX kX11 (by decide) fk_X11_82 dX11_init_168 (GX11_init_z0_33 hs) rfl rfl rfl rfl (h' := wX11_init_34 p h) rfl ?_
  refine jpc (b := 171) rfl ?_
  refine j_aload_n hX dX11_init_171 rfl ?_
  refine jpc (b := 172) rfl ?_
  refine j_iconst hX dX11_init_172 ic_m1 ?_
  refine jpc (b := 173) rfl ?_
  refine j_putIN (k := 12) hX kX11 (by decide) fk_X11_86 dX11_init_173 (GX11_init_z0_34 hs) rfl rfl rfl rfl (h' := wX11_init_35 p h) rfl ?_
  exact kk
end CK
theorem okX11_init {l : Launch} {p : Nat} {h : aHp} (hs : h.1[p]? = some (.inr 11)) : aMx l yX11_init cX11_init 1 none 3 [.ref (100 + p)] h none (wX11_init p h) := by
  have hp := aLt hs
  have hL : ∀ n, h.1.length ≤ n → ((aEnt [.ref (100 + p)] 1).all (fun o => match o with | some v => aBel (100 + n) v | none => true)) = true := by
    intro n hn
    simp [aBel, aEnt, aEn, Value.category]
    omega
  refine aMx_of (by decide) (Nat.le_of_ble_eq_true rfl) (by rw [lenX11_init]; omega) (by rw [snX11_init]; omega) (fun p_ e s m args below meth c D cA A ad0 hX hE hr hlk hnm => ?_)
  generalize hRe : (Room.mk 3 ((wX11_init p h).1.length - h.1.length) (aSn (wX11_init p h).1 - aSn h.1) (64 * 3)) = R
  have hRf : 3 ≤ R.frames := by rw [← hRe]; exact Nat.le_refl _
  have hRl : 64 * 3 ≤ R.locals := by rw [← hRe]; exact Nat.le_refl _
  have hRf1 : 1 ≤ R.frames := Nat.le_trans (by decide) hRf
  have hRl1 : (([] : List Value).map (fun v => v.category)).sum + 12 ≤ R.locals := Nat.le_trans (by decide) hRl
  have hRc : 49 ≤ R.cells := by rw [← hRe]; show 49 ≤ _ - _; rw [lenX11_init]; omega
  have hRs : 5955 ≤ R.slots := by rw [← hRe]; show 5955 ≤ _ - _; rw [snX11_init]; omega
  refine ckX11_init_0 hX hE hnm hs hp hRf hRl hRf1 hRl1 hRc hRs hL ?_
  refine ckX11_init_30 hX hE hnm hs hp hRf hRl hRf1 hRl1 hRc hRs hL ?_
  refine ckX11_init_60 hX hE hnm hs hp hRf hRl hRf1 hRl1 hRc hRs hL ?_
  refine ckX11_init_90 hX hE hnm hs hp hRf hRl hRf1 hRl1 hRc hRs hL ?_
  refine ckX11_init_120 hX hE hnm hs hp hRf hRl hRf1 hRl1 hRc hRs hL ?_
  refine ckX11_init_148 hX hE hnm hs hp hRf hRl hRf1 hRl1 hRc hRs hL ?_
  exact j_vret hX hr hlk dX11_init_176
def wX12_init_1 (p : Nat) (h : aHp) : aHp := aNew h (.inl (.byte, 240))
theorem lwX12_init_1 (p : Nat) (h : aHp) : (wX12_init_1 p h).1.length = h.1.length + 1 := len_step (s := 0) (t := 1) (Nat.add_zero h.1.length).symm rfl
theorem swX12_init_1 (p : Nat) (h : aHp) : aSn (wX12_init_1 p h).1 = aSn h.1 + 240 := sn_step (s := 0) (z := 240) (t := 240) (Nat.add_zero (aSn h.1)).symm rfl rfl
theorem gwX12_init_1 {p z : Nat} {h : aHp} {y : aSh} (hs0 : h.1[z]? = some y) : (wX12_init_1 p h).1[z]? = some y := aNew_get hs0
theorem GX12_init_z0_1 {p : Nat} {h : aHp} (hs : h.1[p]? = some (.inr 12)) : (wX12_init_1 p h).1[p]? = some (.inr 12) := gwX12_init_1 hs
def wX12_init_2 (p : Nat) (h : aHp) : aHp := pR (wX12_init_1 p h) p 1 (some (100 + h.1.length))
theorem lwX12_init_2 (p : Nat) (h : aHp) : (wX12_init_2 p h).1.length = h.1.length + 1 := (lwX12_init_1 p h)
theorem swX12_init_2 (p : Nat) (h : aHp) : aSn (wX12_init_2 p h).1 = aSn h.1 + 240 := (swX12_init_1 p h)
theorem gwX12_init_2 {p z : Nat} {h : aHp} {y : aSh} (hs0 : (wX12_init_1 p h).1[z]? = some y) : (wX12_init_2 p h).1[z]? = some y := hs0
theorem GX12_init_z0_2 {p : Nat} {h : aHp} (hs : h.1[p]? = some (.inr 12)) : (wX12_init_2 p h).1[p]? = some (.inr 12) := gwX12_init_2 (GX12_init_z0_1 hs)
theorem RX12_init_1_2 {p : Nat} {h : aHp} (hp : p < h.1.length) : (wX12_init_2 p h).2.2.2 p 1 = some (100 + h.1.length) := pR_at
def wX12_init_3 (p : Nat) (h : aHp) : aHp := aNew (wX12_init_2 p h) (.inl (.byte, 960))
theorem lwX12_init_3 (p : Nat) (h : aHp) : (wX12_init_3 p h).1.length = h.1.length + 2 := len_step (s := 1) (t := 2) (lwX12_init_2 p h) rfl
theorem swX12_init_3 (p : Nat) (h : aHp) : aSn (wX12_init_3 p h).1 = aSn h.1 + 1200 := sn_step (s := 240) (z := 960) (t := 1200) (swX12_init_2 p h) rfl rfl
theorem gwX12_init_3 {p z : Nat} {h : aHp} {y : aSh} (hs0 : (wX12_init_2 p h).1[z]? = some y) : (wX12_init_3 p h).1[z]? = some y := aNew_get hs0
theorem GX12_init_z0_3 {p : Nat} {h : aHp} (hs : h.1[p]? = some (.inr 12)) : (wX12_init_3 p h).1[p]? = some (.inr 12) := gwX12_init_3 (GX12_init_z0_2 hs)
theorem RX12_init_1_3 {p : Nat} {h : aHp} (hp : p < h.1.length) : (wX12_init_3 p h).2.2.2 p 1 = some (100 + h.1.length) := (aNew_rv (by rw [lwX12_init_2]; exact lt_k hp)).trans (RX12_init_1_2 hp)
def wX12_init_4 (p : Nat) (h : aHp) : aHp := pR (wX12_init_3 p h) p 2 (some (100 + (h.1.length + 1)))
theorem lwX12_init_4 (p : Nat) (h : aHp) : (wX12_init_4 p h).1.length = h.1.length + 2 := (lwX12_init_3 p h)
theorem swX12_init_4 (p : Nat) (h : aHp) : aSn (wX12_init_4 p h).1 = aSn h.1 + 1200 := (swX12_init_3 p h)
theorem gwX12_init_4 {p z : Nat} {h : aHp} {y : aSh} (hs0 : (wX12_init_3 p h).1[z]? = some y) : (wX12_init_4 p h).1[z]? = some y := hs0
theorem GX12_init_z0_4 {p : Nat} {h : aHp} (hs : h.1[p]? = some (.inr 12)) : (wX12_init_4 p h).1[p]? = some (.inr 12) := gwX12_init_4 (GX12_init_z0_3 hs)
theorem RX12_init_1_4 {p : Nat} {h : aHp} (hp : p < h.1.length) : (wX12_init_4 p h).2.2.2 p 1 = some (100 + h.1.length) := (pR_rv (Or.inr (by decide))).trans (RX12_init_1_3 hp)
def wX12_init_5 (p : Nat) (h : aHp) : aHp := aNew (wX12_init_4 p h) (.inl (.int, 4))
theorem lwX12_init_5 (p : Nat) (h : aHp) : (wX12_init_5 p h).1.length = h.1.length + 3 := len_step (s := 2) (t := 3) (lwX12_init_4 p h) rfl
theorem swX12_init_5 (p : Nat) (h : aHp) : aSn (wX12_init_5 p h).1 = aSn h.1 + 1204 := sn_step (s := 1200) (z := 4) (t := 1204) (swX12_init_4 p h) rfl rfl
theorem gwX12_init_5 {p z : Nat} {h : aHp} {y : aSh} (hs0 : (wX12_init_4 p h).1[z]? = some y) : (wX12_init_5 p h).1[z]? = some y := aNew_get hs0
theorem GX12_init_z0_5 {p : Nat} {h : aHp} (hs : h.1[p]? = some (.inr 12)) : (wX12_init_5 p h).1[p]? = some (.inr 12) := gwX12_init_5 (GX12_init_z0_4 hs)
theorem RX12_init_1_5 {p : Nat} {h : aHp} (hp : p < h.1.length) : (wX12_init_5 p h).2.2.2 p 1 = some (100 + h.1.length) := (aNew_rv (by rw [lwX12_init_4]; exact lt_k hp)).trans (RX12_init_1_4 hp)
def wX12_init_6 (p : Nat) (h : aHp) : aHp := pR (wX12_init_5 p h) p 3 (some (100 + (h.1.length + 2)))
theorem lwX12_init_6 (p : Nat) (h : aHp) : (wX12_init_6 p h).1.length = h.1.length + 3 := (lwX12_init_5 p h)
theorem swX12_init_6 (p : Nat) (h : aHp) : aSn (wX12_init_6 p h).1 = aSn h.1 + 1204 := (swX12_init_5 p h)
theorem gwX12_init_6 {p z : Nat} {h : aHp} {y : aSh} (hs0 : (wX12_init_5 p h).1[z]? = some y) : (wX12_init_6 p h).1[z]? = some y := hs0
theorem GX12_init_z0_6 {p : Nat} {h : aHp} (hs : h.1[p]? = some (.inr 12)) : (wX12_init_6 p h).1[p]? = some (.inr 12) := gwX12_init_6 (GX12_init_z0_5 hs)
theorem RX12_init_1_6 {p : Nat} {h : aHp} (hp : p < h.1.length) : (wX12_init_6 p h).2.2.2 p 1 = some (100 + h.1.length) := (pR_rv (Or.inr (by decide))).trans (RX12_init_1_5 hp)
def wX12_init_7 (p : Nat) (h : aHp) : aHp := aNew (wX12_init_6 p h) (.inl (.int, 128))
theorem lwX12_init_7 (p : Nat) (h : aHp) : (wX12_init_7 p h).1.length = h.1.length + 4 := len_step (s := 3) (t := 4) (lwX12_init_6 p h) rfl
theorem swX12_init_7 (p : Nat) (h : aHp) : aSn (wX12_init_7 p h).1 = aSn h.1 + 1332 := sn_step (s := 1204) (z := 128) (t := 1332) (swX12_init_6 p h) rfl rfl
theorem gwX12_init_7 {p z : Nat} {h : aHp} {y : aSh} (hs0 : (wX12_init_6 p h).1[z]? = some y) : (wX12_init_7 p h).1[z]? = some y := aNew_get hs0
theorem GX12_init_z0_7 {p : Nat} {h : aHp} (hs : h.1[p]? = some (.inr 12)) : (wX12_init_7 p h).1[p]? = some (.inr 12) := gwX12_init_7 (GX12_init_z0_6 hs)
theorem RX12_init_1_7 {p : Nat} {h : aHp} (hp : p < h.1.length) : (wX12_init_7 p h).2.2.2 p 1 = some (100 + h.1.length) := (aNew_rv (by rw [lwX12_init_6]; exact lt_k hp)).trans (RX12_init_1_6 hp)
def wX12_init_8 (p : Nat) (h : aHp) : aHp := pR (wX12_init_7 p h) p 4 (some (100 + (h.1.length + 3)))
theorem lwX12_init_8 (p : Nat) (h : aHp) : (wX12_init_8 p h).1.length = h.1.length + 4 := (lwX12_init_7 p h)
theorem swX12_init_8 (p : Nat) (h : aHp) : aSn (wX12_init_8 p h).1 = aSn h.1 + 1332 := (swX12_init_7 p h)
theorem gwX12_init_8 {p z : Nat} {h : aHp} {y : aSh} (hs0 : (wX12_init_7 p h).1[z]? = some y) : (wX12_init_8 p h).1[z]? = some y := hs0
theorem GX12_init_z0_8 {p : Nat} {h : aHp} (hs : h.1[p]? = some (.inr 12)) : (wX12_init_8 p h).1[p]? = some (.inr 12) := gwX12_init_8 (GX12_init_z0_7 hs)
theorem RX12_init_1_8 {p : Nat} {h : aHp} (hp : p < h.1.length) : (wX12_init_8 p h).2.2.2 p 1 = some (100 + h.1.length) := (pR_rv (Or.inr (by decide))).trans (RX12_init_1_7 hp)
def wX12_init_9 (p : Nat) (h : aHp) : aHp := pR (wX12_init_8 p h) p 5 (some (100 + h.1.length))
theorem lwX12_init_9 (p : Nat) (h : aHp) : (wX12_init_9 p h).1.length = h.1.length + 4 := (lwX12_init_8 p h)
theorem swX12_init_9 (p : Nat) (h : aHp) : aSn (wX12_init_9 p h).1 = aSn h.1 + 1332 := (swX12_init_8 p h)
theorem gwX12_init_9 {p z : Nat} {h : aHp} {y : aSh} (hs0 : (wX12_init_8 p h).1[z]? = some y) : (wX12_init_9 p h).1[z]? = some y := hs0
theorem GX12_init_z0_9 {p : Nat} {h : aHp} (hs : h.1[p]? = some (.inr 12)) : (wX12_init_9 p h).1[p]? = some (.inr 12) := gwX12_init_9 (GX12_init_z0_8 hs)
def wX12_init_10 (p : Nat) (h : aHp) : aHp := pR (wX12_init_9 p h) p 15 (some (10 + 5))
theorem lwX12_init_10 (p : Nat) (h : aHp) : (wX12_init_10 p h).1.length = h.1.length + 4 := (lwX12_init_9 p h)
theorem swX12_init_10 (p : Nat) (h : aHp) : aSn (wX12_init_10 p h).1 = aSn h.1 + 1332 := (swX12_init_9 p h)
theorem gwX12_init_10 {p z : Nat} {h : aHp} {y : aSh} (hs0 : (wX12_init_9 p h).1[z]? = some y) : (wX12_init_10 p h).1[z]? = some y := hs0
theorem GX12_init_z0_10 {p : Nat} {h : aHp} (hs : h.1[p]? = some (.inr 12)) : (wX12_init_10 p h).1[p]? = some (.inr 12) := gwX12_init_10 (GX12_init_z0_9 hs)
def wX12_init_11 (p : Nat) (h : aHp) : aHp := pR (wX12_init_10 p h) p 16 (some (10 + 2))
theorem lwX12_init_11 (p : Nat) (h : aHp) : (wX12_init_11 p h).1.length = h.1.length + 4 := (lwX12_init_10 p h)
theorem swX12_init_11 (p : Nat) (h : aHp) : aSn (wX12_init_11 p h).1 = aSn h.1 + 1332 := (swX12_init_10 p h)
theorem gwX12_init_11 {p z : Nat} {h : aHp} {y : aSh} (hs0 : (wX12_init_10 p h).1[z]? = some y) : (wX12_init_11 p h).1[z]? = some y := hs0
theorem GX12_init_z0_11 {p : Nat} {h : aHp} (hs : h.1[p]? = some (.inr 12)) : (wX12_init_11 p h).1[p]? = some (.inr 12) := gwX12_init_11 (GX12_init_z0_10 hs)
def wX12_init_12 (p : Nat) (h : aHp) : aHp := aNew (wX12_init_11 p h) (.inl (.int, 4))
theorem lwX12_init_12 (p : Nat) (h : aHp) : (wX12_init_12 p h).1.length = h.1.length + 5 := len_step (s := 4) (t := 5) (lwX12_init_11 p h) rfl
theorem swX12_init_12 (p : Nat) (h : aHp) : aSn (wX12_init_12 p h).1 = aSn h.1 + 1336 := sn_step (s := 1332) (z := 4) (t := 1336) (swX12_init_11 p h) rfl rfl
theorem gwX12_init_12 {p z : Nat} {h : aHp} {y : aSh} (hs0 : (wX12_init_11 p h).1[z]? = some y) : (wX12_init_12 p h).1[z]? = some y := aNew_get hs0
theorem GX12_init_z0_12 {p : Nat} {h : aHp} (hs : h.1[p]? = some (.inr 12)) : (wX12_init_12 p h).1[p]? = some (.inr 12) := gwX12_init_12 (GX12_init_z0_11 hs)
def wX12_init_13 (p : Nat) (h : aHp) : aHp := pR (wX12_init_12 p h) p 18 (some (100 + (h.1.length + 4)))
theorem lwX12_init_13 (p : Nat) (h : aHp) : (wX12_init_13 p h).1.length = h.1.length + 5 := (lwX12_init_12 p h)
theorem swX12_init_13 (p : Nat) (h : aHp) : aSn (wX12_init_13 p h).1 = aSn h.1 + 1336 := (swX12_init_12 p h)
theorem gwX12_init_13 {p z : Nat} {h : aHp} {y : aSh} (hs0 : (wX12_init_12 p h).1[z]? = some y) : (wX12_init_13 p h).1[z]? = some y := hs0
theorem GX12_init_z0_13 {p : Nat} {h : aHp} (hs : h.1[p]? = some (.inr 12)) : (wX12_init_13 p h).1[p]? = some (.inr 12) := gwX12_init_13 (GX12_init_z0_12 hs)
def wX12_init_14 (p : Nat) (h : aHp) : aHp := aNew (wX12_init_13 p h) (.inl (.int, 4))
theorem lwX12_init_14 (p : Nat) (h : aHp) : (wX12_init_14 p h).1.length = h.1.length + 6 := len_step (s := 5) (t := 6) (lwX12_init_13 p h) rfl
theorem swX12_init_14 (p : Nat) (h : aHp) : aSn (wX12_init_14 p h).1 = aSn h.1 + 1340 := sn_step (s := 1336) (z := 4) (t := 1340) (swX12_init_13 p h) rfl rfl
theorem gwX12_init_14 {p z : Nat} {h : aHp} {y : aSh} (hs0 : (wX12_init_13 p h).1[z]? = some y) : (wX12_init_14 p h).1[z]? = some y := aNew_get hs0
theorem GX12_init_z0_14 {p : Nat} {h : aHp} (hs : h.1[p]? = some (.inr 12)) : (wX12_init_14 p h).1[p]? = some (.inr 12) := gwX12_init_14 (GX12_init_z0_13 hs)
def wX12_init_15 (p : Nat) (h : aHp) : aHp := pR (wX12_init_14 p h) p 19 (some (100 + (h.1.length + 5)))
theorem lwX12_init_15 (p : Nat) (h : aHp) : (wX12_init_15 p h).1.length = h.1.length + 6 := (lwX12_init_14 p h)
theorem swX12_init_15 (p : Nat) (h : aHp) : aSn (wX12_init_15 p h).1 = aSn h.1 + 1340 := (swX12_init_14 p h)
theorem gwX12_init_15 {p z : Nat} {h : aHp} {y : aSh} (hs0 : (wX12_init_14 p h).1[z]? = some y) : (wX12_init_15 p h).1[z]? = some y := hs0
theorem GX12_init_z0_15 {p : Nat} {h : aHp} (hs : h.1[p]? = some (.inr 12)) : (wX12_init_15 p h).1[p]? = some (.inr 12) := gwX12_init_15 (GX12_init_z0_14 hs)
def wX12_init_16 (p : Nat) (h : aHp) : aHp := aNew (wX12_init_15 p h) (.inl (.int, 54))
theorem lwX12_init_16 (p : Nat) (h : aHp) : (wX12_init_16 p h).1.length = h.1.length + 7 := len_step (s := 6) (t := 7) (lwX12_init_15 p h) rfl
theorem swX12_init_16 (p : Nat) (h : aHp) : aSn (wX12_init_16 p h).1 = aSn h.1 + 1394 := sn_step (s := 1340) (z := 54) (t := 1394) (swX12_init_15 p h) rfl rfl
theorem gwX12_init_16 {p z : Nat} {h : aHp} {y : aSh} (hs0 : (wX12_init_15 p h).1[z]? = some y) : (wX12_init_16 p h).1[z]? = some y := aNew_get hs0
theorem GX12_init_z0_16 {p : Nat} {h : aHp} (hs : h.1[p]? = some (.inr 12)) : (wX12_init_16 p h).1[p]? = some (.inr 12) := gwX12_init_16 (GX12_init_z0_15 hs)
def wX12_init_17 (p : Nat) (h : aHp) : aHp := pR (wX12_init_16 p h) p 20 (some (100 + (h.1.length + 6)))
theorem lwX12_init_17 (p : Nat) (h : aHp) : (wX12_init_17 p h).1.length = h.1.length + 7 := (lwX12_init_16 p h)
theorem swX12_init_17 (p : Nat) (h : aHp) : aSn (wX12_init_17 p h).1 = aSn h.1 + 1394 := (swX12_init_16 p h)
theorem gwX12_init_17 {p z : Nat} {h : aHp} {y : aSh} (hs0 : (wX12_init_16 p h).1[z]? = some y) : (wX12_init_17 p h).1[z]? = some y := hs0
theorem GX12_init_z0_17 {p : Nat} {h : aHp} (hs : h.1[p]? = some (.inr 12)) : (wX12_init_17 p h).1[p]? = some (.inr 12) := gwX12_init_17 (GX12_init_z0_16 hs)
def wX12_init_18 (p : Nat) (h : aHp) : aHp := aNew (wX12_init_17 p h) (.inl (.int, 54))
theorem lwX12_init_18 (p : Nat) (h : aHp) : (wX12_init_18 p h).1.length = h.1.length + 8 := len_step (s := 7) (t := 8) (lwX12_init_17 p h) rfl
theorem swX12_init_18 (p : Nat) (h : aHp) : aSn (wX12_init_18 p h).1 = aSn h.1 + 1448 := sn_step (s := 1394) (z := 54) (t := 1448) (swX12_init_17 p h) rfl rfl
theorem gwX12_init_18 {p z : Nat} {h : aHp} {y : aSh} (hs0 : (wX12_init_17 p h).1[z]? = some y) : (wX12_init_18 p h).1[z]? = some y := aNew_get hs0
theorem GX12_init_z0_18 {p : Nat} {h : aHp} (hs : h.1[p]? = some (.inr 12)) : (wX12_init_18 p h).1[p]? = some (.inr 12) := gwX12_init_18 (GX12_init_z0_17 hs)
def wX12_init_19 (p : Nat) (h : aHp) : aHp := pR (wX12_init_18 p h) p 21 (some (100 + (h.1.length + 7)))
theorem lwX12_init_19 (p : Nat) (h : aHp) : (wX12_init_19 p h).1.length = h.1.length + 8 := (lwX12_init_18 p h)
theorem swX12_init_19 (p : Nat) (h : aHp) : aSn (wX12_init_19 p h).1 = aSn h.1 + 1448 := (swX12_init_18 p h)
theorem gwX12_init_19 {p z : Nat} {h : aHp} {y : aSh} (hs0 : (wX12_init_18 p h).1[z]? = some y) : (wX12_init_19 p h).1[z]? = some y := hs0
theorem GX12_init_z0_19 {p : Nat} {h : aHp} (hs : h.1[p]? = some (.inr 12)) : (wX12_init_19 p h).1[p]? = some (.inr 12) := gwX12_init_19 (GX12_init_z0_18 hs)
def wX12_init_20 (p : Nat) (h : aHp) : aHp := aNew (wX12_init_19 p h) (.inl (.int, 16))
theorem lwX12_init_20 (p : Nat) (h : aHp) : (wX12_init_20 p h).1.length = h.1.length + 9 := len_step (s := 8) (t := 9) (lwX12_init_19 p h) rfl
theorem swX12_init_20 (p : Nat) (h : aHp) : aSn (wX12_init_20 p h).1 = aSn h.1 + 1464 := sn_step (s := 1448) (z := 16) (t := 1464) (swX12_init_19 p h) rfl rfl
theorem gwX12_init_20 {p z : Nat} {h : aHp} {y : aSh} (hs0 : (wX12_init_19 p h).1[z]? = some y) : (wX12_init_20 p h).1[z]? = some y := aNew_get hs0
theorem GX12_init_z0_20 {p : Nat} {h : aHp} (hs : h.1[p]? = some (.inr 12)) : (wX12_init_20 p h).1[p]? = some (.inr 12) := gwX12_init_20 (GX12_init_z0_19 hs)
def wX12_init_21 (p : Nat) (h : aHp) : aHp := pR (wX12_init_20 p h) p 22 (some (100 + (h.1.length + 8)))
theorem lwX12_init_21 (p : Nat) (h : aHp) : (wX12_init_21 p h).1.length = h.1.length + 9 := (lwX12_init_20 p h)
theorem swX12_init_21 (p : Nat) (h : aHp) : aSn (wX12_init_21 p h).1 = aSn h.1 + 1464 := (swX12_init_20 p h)
theorem gwX12_init_21 {p z : Nat} {h : aHp} {y : aSh} (hs0 : (wX12_init_20 p h).1[z]? = some y) : (wX12_init_21 p h).1[z]? = some y := hs0
theorem GX12_init_z0_21 {p : Nat} {h : aHp} (hs : h.1[p]? = some (.inr 12)) : (wX12_init_21 p h).1[p]? = some (.inr 12) := gwX12_init_21 (GX12_init_z0_20 hs)
def wX12_init_22 (p : Nat) (h : aHp) : aHp := aNew (wX12_init_21 p h) (.inl (.int, 16))
theorem lwX12_init_22 (p : Nat) (h : aHp) : (wX12_init_22 p h).1.length = h.1.length + 10 := len_step (s := 9) (t := 10) (lwX12_init_21 p h) rfl
theorem swX12_init_22 (p : Nat) (h : aHp) : aSn (wX12_init_22 p h).1 = aSn h.1 + 1480 := sn_step (s := 1464) (z := 16) (t := 1480) (swX12_init_21 p h) rfl rfl
theorem gwX12_init_22 {p z : Nat} {h : aHp} {y : aSh} (hs0 : (wX12_init_21 p h).1[z]? = some y) : (wX12_init_22 p h).1[z]? = some y := aNew_get hs0
theorem GX12_init_z0_22 {p : Nat} {h : aHp} (hs : h.1[p]? = some (.inr 12)) : (wX12_init_22 p h).1[p]? = some (.inr 12) := gwX12_init_22 (GX12_init_z0_21 hs)
def wX12_init_23 (p : Nat) (h : aHp) : aHp := pR (wX12_init_22 p h) p 23 (some (100 + (h.1.length + 9)))
theorem lwX12_init_23 (p : Nat) (h : aHp) : (wX12_init_23 p h).1.length = h.1.length + 10 := (lwX12_init_22 p h)
theorem swX12_init_23 (p : Nat) (h : aHp) : aSn (wX12_init_23 p h).1 = aSn h.1 + 1480 := (swX12_init_22 p h)
theorem gwX12_init_23 {p z : Nat} {h : aHp} {y : aSh} (hs0 : (wX12_init_22 p h).1[z]? = some y) : (wX12_init_23 p h).1[z]? = some y := hs0
theorem GX12_init_z0_23 {p : Nat} {h : aHp} (hs : h.1[p]? = some (.inr 12)) : (wX12_init_23 p h).1[p]? = some (.inr 12) := gwX12_init_23 (GX12_init_z0_22 hs)
def wX12_init_24 (p : Nat) (h : aHp) : aHp := aNew (wX12_init_23 p h) (.inl (.int, 240))
theorem lwX12_init_24 (p : Nat) (h : aHp) : (wX12_init_24 p h).1.length = h.1.length + 11 := len_step (s := 10) (t := 11) (lwX12_init_23 p h) rfl
theorem swX12_init_24 (p : Nat) (h : aHp) : aSn (wX12_init_24 p h).1 = aSn h.1 + 1720 := sn_step (s := 1480) (z := 240) (t := 1720) (swX12_init_23 p h) rfl rfl
theorem gwX12_init_24 {p z : Nat} {h : aHp} {y : aSh} (hs0 : (wX12_init_23 p h).1[z]? = some y) : (wX12_init_24 p h).1[z]? = some y := aNew_get hs0
theorem GX12_init_z0_24 {p : Nat} {h : aHp} (hs : h.1[p]? = some (.inr 12)) : (wX12_init_24 p h).1[p]? = some (.inr 12) := gwX12_init_24 (GX12_init_z0_23 hs)
def wX12_init_25 (p : Nat) (h : aHp) : aHp := pR (wX12_init_24 p h) p 24 (some (100 + (h.1.length + 10)))
theorem lwX12_init_25 (p : Nat) (h : aHp) : (wX12_init_25 p h).1.length = h.1.length + 11 := (lwX12_init_24 p h)
theorem swX12_init_25 (p : Nat) (h : aHp) : aSn (wX12_init_25 p h).1 = aSn h.1 + 1720 := (swX12_init_24 p h)
theorem gwX12_init_25 {p z : Nat} {h : aHp} {y : aSh} (hs0 : (wX12_init_24 p h).1[z]? = some y) : (wX12_init_25 p h).1[z]? = some y := hs0
theorem GX12_init_z0_25 {p : Nat} {h : aHp} (hs : h.1[p]? = some (.inr 12)) : (wX12_init_25 p h).1[p]? = some (.inr 12) := gwX12_init_25 (GX12_init_z0_24 hs)
def wX12_init_26 (p : Nat) (h : aHp) : aHp := aNew (wX12_init_25 p h) (.inl (.int, 5))
theorem lwX12_init_26 (p : Nat) (h : aHp) : (wX12_init_26 p h).1.length = h.1.length + 12 := len_step (s := 11) (t := 12) (lwX12_init_25 p h) rfl
theorem swX12_init_26 (p : Nat) (h : aHp) : aSn (wX12_init_26 p h).1 = aSn h.1 + 1725 := sn_step (s := 1720) (z := 5) (t := 1725) (swX12_init_25 p h) rfl rfl
theorem gwX12_init_26 {p z : Nat} {h : aHp} {y : aSh} (hs0 : (wX12_init_25 p h).1[z]? = some y) : (wX12_init_26 p h).1[z]? = some y := aNew_get hs0
theorem GX12_init_z0_26 {p : Nat} {h : aHp} (hs : h.1[p]? = some (.inr 12)) : (wX12_init_26 p h).1[p]? = some (.inr 12) := gwX12_init_26 (GX12_init_z0_25 hs)
def wX12_init_27 (p : Nat) (h : aHp) : aHp := pR (wX12_init_26 p h) p 25 (some (100 + (h.1.length + 11)))
theorem lwX12_init_27 (p : Nat) (h : aHp) : (wX12_init_27 p h).1.length = h.1.length + 12 := (lwX12_init_26 p h)
theorem swX12_init_27 (p : Nat) (h : aHp) : aSn (wX12_init_27 p h).1 = aSn h.1 + 1725 := (swX12_init_26 p h)
theorem gwX12_init_27 {p z : Nat} {h : aHp} {y : aSh} (hs0 : (wX12_init_26 p h).1[z]? = some y) : (wX12_init_27 p h).1[z]? = some y := hs0
theorem GX12_init_z0_27 {p : Nat} {h : aHp} (hs : h.1[p]? = some (.inr 12)) : (wX12_init_27 p h).1[p]? = some (.inr 12) := gwX12_init_27 (GX12_init_z0_26 hs)
def wX12_init_28 (p : Nat) (h : aHp) : aHp := aNew (wX12_init_27 p h) (.inl (.int, 296))
theorem lwX12_init_28 (p : Nat) (h : aHp) : (wX12_init_28 p h).1.length = h.1.length + 13 := len_step (s := 12) (t := 13) (lwX12_init_27 p h) rfl
theorem swX12_init_28 (p : Nat) (h : aHp) : aSn (wX12_init_28 p h).1 = aSn h.1 + 2021 := sn_step (s := 1725) (z := 296) (t := 2021) (swX12_init_27 p h) rfl rfl
theorem gwX12_init_28 {p z : Nat} {h : aHp} {y : aSh} (hs0 : (wX12_init_27 p h).1[z]? = some y) : (wX12_init_28 p h).1[z]? = some y := aNew_get hs0
theorem GX12_init_z0_28 {p : Nat} {h : aHp} (hs : h.1[p]? = some (.inr 12)) : (wX12_init_28 p h).1[p]? = some (.inr 12) := gwX12_init_28 (GX12_init_z0_27 hs)
def wX12_init_29 (p : Nat) (h : aHp) : aHp := pR (wX12_init_28 p h) p 33 (some (100 + (h.1.length + 12)))
theorem lwX12_init_29 (p : Nat) (h : aHp) : (wX12_init_29 p h).1.length = h.1.length + 13 := (lwX12_init_28 p h)
theorem swX12_init_29 (p : Nat) (h : aHp) : aSn (wX12_init_29 p h).1 = aSn h.1 + 2021 := (swX12_init_28 p h)
theorem gwX12_init_29 {p z : Nat} {h : aHp} {y : aSh} (hs0 : (wX12_init_28 p h).1[z]? = some y) : (wX12_init_29 p h).1[z]? = some y := hs0
theorem GX12_init_z0_29 {p : Nat} {h : aHp} (hs : h.1[p]? = some (.inr 12)) : (wX12_init_29 p h).1[p]? = some (.inr 12) := gwX12_init_29 (GX12_init_z0_28 hs)
def wX12_init_30 (p : Nat) (h : aHp) : aHp := aNew (wX12_init_29 p h) (.inl (.int, 296))
theorem lwX12_init_30 (p : Nat) (h : aHp) : (wX12_init_30 p h).1.length = h.1.length + 14 := len_step (s := 13) (t := 14) (lwX12_init_29 p h) rfl
theorem swX12_init_30 (p : Nat) (h : aHp) : aSn (wX12_init_30 p h).1 = aSn h.1 + 2317 := sn_step (s := 2021) (z := 296) (t := 2317) (swX12_init_29 p h) rfl rfl
theorem gwX12_init_30 {p z : Nat} {h : aHp} {y : aSh} (hs0 : (wX12_init_29 p h).1[z]? = some y) : (wX12_init_30 p h).1[z]? = some y := aNew_get hs0
theorem GX12_init_z0_30 {p : Nat} {h : aHp} (hs : h.1[p]? = some (.inr 12)) : (wX12_init_30 p h).1[p]? = some (.inr 12) := gwX12_init_30 (GX12_init_z0_29 hs)
def wX12_init_31 (p : Nat) (h : aHp) : aHp := pR (wX12_init_30 p h) p 34 (some (100 + (h.1.length + 13)))
theorem lwX12_init_31 (p : Nat) (h : aHp) : (wX12_init_31 p h).1.length = h.1.length + 14 := (lwX12_init_30 p h)
theorem swX12_init_31 (p : Nat) (h : aHp) : aSn (wX12_init_31 p h).1 = aSn h.1 + 2317 := (swX12_init_30 p h)
theorem gwX12_init_31 {p z : Nat} {h : aHp} {y : aSh} (hs0 : (wX12_init_30 p h).1[z]? = some y) : (wX12_init_31 p h).1[z]? = some y := hs0
theorem GX12_init_z0_31 {p : Nat} {h : aHp} (hs : h.1[p]? = some (.inr 12)) : (wX12_init_31 p h).1[p]? = some (.inr 12) := gwX12_init_31 (GX12_init_z0_30 hs)
def wX12_init_32 (p : Nat) (h : aHp) : aHp := pI (wX12_init_31 p h) p 35 (-1)
theorem lwX12_init_32 (p : Nat) (h : aHp) : (wX12_init_32 p h).1.length = h.1.length + 14 := (lwX12_init_31 p h)
theorem swX12_init_32 (p : Nat) (h : aHp) : aSn (wX12_init_32 p h).1 = aSn h.1 + 2317 := (swX12_init_31 p h)
theorem gwX12_init_32 {p z : Nat} {h : aHp} {y : aSh} (hs0 : (wX12_init_31 p h).1[z]? = some y) : (wX12_init_32 p h).1[z]? = some y := hs0
theorem GX12_init_z0_32 {p : Nat} {h : aHp} (hs : h.1[p]? = some (.inr 12)) : (wX12_init_32 p h).1[p]? = some (.inr 12) := gwX12_init_32 (GX12_init_z0_31 hs)
def wX12_init_33 (p : Nat) (h : aHp) : aHp := pI (wX12_init_32 p h) p 36 50
theorem lwX12_init_33 (p : Nat) (h : aHp) : (wX12_init_33 p h).1.length = h.1.length + 14 := (lwX12_init_32 p h)
theorem swX12_init_33 (p : Nat) (h : aHp) : aSn (wX12_init_33 p h).1 = aSn h.1 + 2317 := (swX12_init_32 p h)
theorem gwX12_init_33 {p z : Nat} {h : aHp} {y : aSh} (hs0 : (wX12_init_32 p h).1[z]? = some y) : (wX12_init_33 p h).1[z]? = some y := hs0
theorem GX12_init_z0_33 {p : Nat} {h : aHp} (hs : h.1[p]? = some (.inr 12)) : (wX12_init_33 p h).1[p]? = some (.inr 12) := gwX12_init_33 (GX12_init_z0_32 hs)
def wX12_init_34 (p : Nat) (h : aHp) : aHp := aNew (wX12_init_33 p h) (.inl (.int, 11840))
theorem lwX12_init_34 (p : Nat) (h : aHp) : (wX12_init_34 p h).1.length = h.1.length + 15 := len_step (s := 14) (t := 15) (lwX12_init_33 p h) rfl
theorem swX12_init_34 (p : Nat) (h : aHp) : aSn (wX12_init_34 p h).1 = aSn h.1 + 14157 := sn_step (s := 2317) (z := 11840) (t := 14157) (swX12_init_33 p h) rfl rfl
theorem gwX12_init_34 {p z : Nat} {h : aHp} {y : aSh} (hs0 : (wX12_init_33 p h).1[z]? = some y) : (wX12_init_34 p h).1[z]? = some y := aNew_get hs0
theorem GX12_init_z0_34 {p : Nat} {h : aHp} (hs : h.1[p]? = some (.inr 12)) : (wX12_init_34 p h).1[p]? = some (.inr 12) := gwX12_init_34 (GX12_init_z0_33 hs)
def wX12_init_35 (p : Nat) (h : aHp) : aHp := pR (wX12_init_34 p h) p 41 (some (100 + (h.1.length + 14)))
theorem lwX12_init_35 (p : Nat) (h : aHp) : (wX12_init_35 p h).1.length = h.1.length + 15 := (lwX12_init_34 p h)
theorem swX12_init_35 (p : Nat) (h : aHp) : aSn (wX12_init_35 p h).1 = aSn h.1 + 14157 := (swX12_init_34 p h)
theorem gwX12_init_35 {p z : Nat} {h : aHp} {y : aSh} (hs0 : (wX12_init_34 p h).1[z]? = some y) : (wX12_init_35 p h).1[z]? = some y := hs0
theorem GX12_init_z0_35 {p : Nat} {h : aHp} (hs : h.1[p]? = some (.inr 12)) : (wX12_init_35 p h).1[p]? = some (.inr 12) := gwX12_init_35 (GX12_init_z0_34 hs)
def wX12_init_36 (p : Nat) (h : aHp) : aHp := aNew (wX12_init_35 p h) (.inl (.int, 9))
theorem lwX12_init_36 (p : Nat) (h : aHp) : (wX12_init_36 p h).1.length = h.1.length + 16 := len_step (s := 15) (t := 16) (lwX12_init_35 p h) rfl
theorem swX12_init_36 (p : Nat) (h : aHp) : aSn (wX12_init_36 p h).1 = aSn h.1 + 14166 := sn_step (s := 14157) (z := 9) (t := 14166) (swX12_init_35 p h) rfl rfl
theorem gwX12_init_36 {p z : Nat} {h : aHp} {y : aSh} (hs0 : (wX12_init_35 p h).1[z]? = some y) : (wX12_init_36 p h).1[z]? = some y := aNew_get hs0
theorem GX12_init_z0_36 {p : Nat} {h : aHp} (hs : h.1[p]? = some (.inr 12)) : (wX12_init_36 p h).1[p]? = some (.inr 12) := gwX12_init_36 (GX12_init_z0_35 hs)
def wX12_init_37 (p : Nat) (h : aHp) : aHp := pR (wX12_init_36 p h) p 46 (some (100 + (h.1.length + 15)))
theorem lwX12_init_37 (p : Nat) (h : aHp) : (wX12_init_37 p h).1.length = h.1.length + 16 := (lwX12_init_36 p h)
theorem swX12_init_37 (p : Nat) (h : aHp) : aSn (wX12_init_37 p h).1 = aSn h.1 + 14166 := (swX12_init_36 p h)
theorem gwX12_init_37 {p z : Nat} {h : aHp} {y : aSh} (hs0 : (wX12_init_36 p h).1[z]? = some y) : (wX12_init_37 p h).1[z]? = some y := hs0
theorem GX12_init_z0_37 {p : Nat} {h : aHp} (hs : h.1[p]? = some (.inr 12)) : (wX12_init_37 p h).1[p]? = some (.inr 12) := gwX12_init_37 (GX12_init_z0_36 hs)
def wX12_init_38 (p : Nat) (h : aHp) : aHp := aNew (wX12_init_37 p h) (.inl (.boolean, 8))
theorem lwX12_init_38 (p : Nat) (h : aHp) : (wX12_init_38 p h).1.length = h.1.length + 17 := len_step (s := 16) (t := 17) (lwX12_init_37 p h) rfl
theorem swX12_init_38 (p : Nat) (h : aHp) : aSn (wX12_init_38 p h).1 = aSn h.1 + 14174 := sn_step (s := 14166) (z := 8) (t := 14174) (swX12_init_37 p h) rfl rfl
theorem gwX12_init_38 {p z : Nat} {h : aHp} {y : aSh} (hs0 : (wX12_init_37 p h).1[z]? = some y) : (wX12_init_38 p h).1[z]? = some y := aNew_get hs0
theorem GX12_init_z0_38 {p : Nat} {h : aHp} (hs : h.1[p]? = some (.inr 12)) : (wX12_init_38 p h).1[p]? = some (.inr 12) := gwX12_init_38 (GX12_init_z0_37 hs)
def wX12_init_39 (p : Nat) (h : aHp) : aHp := pR (wX12_init_38 p h) p 47 (some (100 + (h.1.length + 16)))
theorem lwX12_init_39 (p : Nat) (h : aHp) : (wX12_init_39 p h).1.length = h.1.length + 17 := (lwX12_init_38 p h)
theorem swX12_init_39 (p : Nat) (h : aHp) : aSn (wX12_init_39 p h).1 = aSn h.1 + 14174 := (swX12_init_38 p h)
theorem gwX12_init_39 {p z : Nat} {h : aHp} {y : aSh} (hs0 : (wX12_init_38 p h).1[z]? = some y) : (wX12_init_39 p h).1[z]? = some y := hs0
theorem GX12_init_z0_39 {p : Nat} {h : aHp} (hs : h.1[p]? = some (.inr 12)) : (wX12_init_39 p h).1[p]? = some (.inr 12) := gwX12_init_39 (GX12_init_z0_38 hs)
def wX12_init_40 (p : Nat) (h : aHp) : aHp := aNew (wX12_init_39 p h) (.inl (.int, 8))
theorem lwX12_init_40 (p : Nat) (h : aHp) : (wX12_init_40 p h).1.length = h.1.length + 18 := len_step (s := 17) (t := 18) (lwX12_init_39 p h) rfl
theorem swX12_init_40 (p : Nat) (h : aHp) : aSn (wX12_init_40 p h).1 = aSn h.1 + 14182 := sn_step (s := 14174) (z := 8) (t := 14182) (swX12_init_39 p h) rfl rfl
theorem gwX12_init_40 {p z : Nat} {h : aHp} {y : aSh} (hs0 : (wX12_init_39 p h).1[z]? = some y) : (wX12_init_40 p h).1[z]? = some y := aNew_get hs0
theorem GX12_init_z0_40 {p : Nat} {h : aHp} (hs : h.1[p]? = some (.inr 12)) : (wX12_init_40 p h).1[p]? = some (.inr 12) := gwX12_init_40 (GX12_init_z0_39 hs)
def wX12_init_41 (p : Nat) (h : aHp) : aHp := pR (wX12_init_40 p h) p 48 (some (100 + (h.1.length + 17)))
theorem lwX12_init_41 (p : Nat) (h : aHp) : (wX12_init_41 p h).1.length = h.1.length + 18 := (lwX12_init_40 p h)
theorem swX12_init_41 (p : Nat) (h : aHp) : aSn (wX12_init_41 p h).1 = aSn h.1 + 14182 := (swX12_init_40 p h)
theorem gwX12_init_41 {p z : Nat} {h : aHp} {y : aSh} (hs0 : (wX12_init_40 p h).1[z]? = some y) : (wX12_init_41 p h).1[z]? = some y := hs0
theorem GX12_init_z0_41 {p : Nat} {h : aHp} (hs : h.1[p]? = some (.inr 12)) : (wX12_init_41 p h).1[p]? = some (.inr 12) := gwX12_init_41 (GX12_init_z0_40 hs)
def wX12_init_42 (p : Nat) (h : aHp) : aHp := aNew (wX12_init_41 p h) (.inl (.int, 10))
theorem lwX12_init_42 (p : Nat) (h : aHp) : (wX12_init_42 p h).1.length = h.1.length + 19 := len_step (s := 18) (t := 19) (lwX12_init_41 p h) rfl
theorem swX12_init_42 (p : Nat) (h : aHp) : aSn (wX12_init_42 p h).1 = aSn h.1 + 14192 := sn_step (s := 14182) (z := 10) (t := 14192) (swX12_init_41 p h) rfl rfl
theorem gwX12_init_42 {p z : Nat} {h : aHp} {y : aSh} (hs0 : (wX12_init_41 p h).1[z]? = some y) : (wX12_init_42 p h).1[z]? = some y := aNew_get hs0
theorem GX12_init_z0_42 {p : Nat} {h : aHp} (hs : h.1[p]? = some (.inr 12)) : (wX12_init_42 p h).1[p]? = some (.inr 12) := gwX12_init_42 (GX12_init_z0_41 hs)
def wX12_init_43 (p : Nat) (h : aHp) : aHp := pR (wX12_init_42 p h) p 50 (some (100 + (h.1.length + 18)))
theorem lwX12_init_43 (p : Nat) (h : aHp) : (wX12_init_43 p h).1.length = h.1.length + 19 := (lwX12_init_42 p h)
theorem swX12_init_43 (p : Nat) (h : aHp) : aSn (wX12_init_43 p h).1 = aSn h.1 + 14192 := (swX12_init_42 p h)
theorem gwX12_init_43 {p z : Nat} {h : aHp} {y : aSh} (hs0 : (wX12_init_42 p h).1[z]? = some y) : (wX12_init_43 p h).1[z]? = some y := hs0
theorem GX12_init_z0_43 {p : Nat} {h : aHp} (hs : h.1[p]? = some (.inr 12)) : (wX12_init_43 p h).1[p]? = some (.inr 12) := gwX12_init_43 (GX12_init_z0_42 hs)
def wX12_init_44 (p : Nat) (h : aHp) : aHp := aNew (wX12_init_43 p h) (.inl (.boolean, 10))
theorem lwX12_init_44 (p : Nat) (h : aHp) : (wX12_init_44 p h).1.length = h.1.length + 20 := len_step (s := 19) (t := 20) (lwX12_init_43 p h) rfl
theorem swX12_init_44 (p : Nat) (h : aHp) : aSn (wX12_init_44 p h).1 = aSn h.1 + 14202 := sn_step (s := 14192) (z := 10) (t := 14202) (swX12_init_43 p h) rfl rfl
theorem gwX12_init_44 {p z : Nat} {h : aHp} {y : aSh} (hs0 : (wX12_init_43 p h).1[z]? = some y) : (wX12_init_44 p h).1[z]? = some y := aNew_get hs0
theorem GX12_init_z0_44 {p : Nat} {h : aHp} (hs : h.1[p]? = some (.inr 12)) : (wX12_init_44 p h).1[p]? = some (.inr 12) := gwX12_init_44 (GX12_init_z0_43 hs)
def wX12_init_45 (p : Nat) (h : aHp) : aHp := pR (wX12_init_44 p h) p 51 (some (100 + (h.1.length + 19)))
theorem lwX12_init_45 (p : Nat) (h : aHp) : (wX12_init_45 p h).1.length = h.1.length + 20 := (lwX12_init_44 p h)
theorem swX12_init_45 (p : Nat) (h : aHp) : aSn (wX12_init_45 p h).1 = aSn h.1 + 14202 := (swX12_init_44 p h)
theorem gwX12_init_45 {p z : Nat} {h : aHp} {y : aSh} (hs0 : (wX12_init_44 p h).1[z]? = some y) : (wX12_init_45 p h).1[z]? = some y := hs0
theorem GX12_init_z0_45 {p : Nat} {h : aHp} (hs : h.1[p]? = some (.inr 12)) : (wX12_init_45 p h).1[p]? = some (.inr 12) := gwX12_init_45 (GX12_init_z0_44 hs)
def wX12_init_46 (p : Nat) (h : aHp) : aHp := aNew (wX12_init_45 p h) (.inl (.int, 9))
theorem lwX12_init_46 (p : Nat) (h : aHp) : (wX12_init_46 p h).1.length = h.1.length + 21 := len_step (s := 20) (t := 21) (lwX12_init_45 p h) rfl
theorem swX12_init_46 (p : Nat) (h : aHp) : aSn (wX12_init_46 p h).1 = aSn h.1 + 14211 := sn_step (s := 14202) (z := 9) (t := 14211) (swX12_init_45 p h) rfl rfl
theorem gwX12_init_46 {p z : Nat} {h : aHp} {y : aSh} (hs0 : (wX12_init_45 p h).1[z]? = some y) : (wX12_init_46 p h).1[z]? = some y := aNew_get hs0
theorem GX12_init_z0_46 {p : Nat} {h : aHp} (hs : h.1[p]? = some (.inr 12)) : (wX12_init_46 p h).1[p]? = some (.inr 12) := gwX12_init_46 (GX12_init_z0_45 hs)
def wX12_init_47 (p : Nat) (h : aHp) : aHp := pR (wX12_init_46 p h) p 55 (some (100 + (h.1.length + 20)))
theorem lwX12_init_47 (p : Nat) (h : aHp) : (wX12_init_47 p h).1.length = h.1.length + 21 := (lwX12_init_46 p h)
theorem swX12_init_47 (p : Nat) (h : aHp) : aSn (wX12_init_47 p h).1 = aSn h.1 + 14211 := (swX12_init_46 p h)
theorem gwX12_init_47 {p z : Nat} {h : aHp} {y : aSh} (hs0 : (wX12_init_46 p h).1[z]? = some y) : (wX12_init_47 p h).1[z]? = some y := hs0
theorem GX12_init_z0_47 {p : Nat} {h : aHp} (hs : h.1[p]? = some (.inr 12)) : (wX12_init_47 p h).1[p]? = some (.inr 12) := gwX12_init_47 (GX12_init_z0_46 hs)
def wX12_init_48 (p : Nat) (h : aHp) : aHp := aNew (wX12_init_47 p h) (.inl (.int, 296))
theorem lwX12_init_48 (p : Nat) (h : aHp) : (wX12_init_48 p h).1.length = h.1.length + 22 := len_step (s := 21) (t := 22) (lwX12_init_47 p h) rfl
theorem swX12_init_48 (p : Nat) (h : aHp) : aSn (wX12_init_48 p h).1 = aSn h.1 + 14507 := sn_step (s := 14211) (z := 296) (t := 14507) (swX12_init_47 p h) rfl rfl
theorem gwX12_init_48 {p z : Nat} {h : aHp} {y : aSh} (hs0 : (wX12_init_47 p h).1[z]? = some y) : (wX12_init_48 p h).1[z]? = some y := aNew_get hs0
theorem GX12_init_z0_48 {p : Nat} {h : aHp} (hs : h.1[p]? = some (.inr 12)) : (wX12_init_48 p h).1[p]? = some (.inr 12) := gwX12_init_48 (GX12_init_z0_47 hs)
def wX12_init_49 (p : Nat) (h : aHp) : aHp := pR (wX12_init_48 p h) p 56 (some (100 + (h.1.length + 21)))
theorem lwX12_init_49 (p : Nat) (h : aHp) : (wX12_init_49 p h).1.length = h.1.length + 22 := (lwX12_init_48 p h)
theorem swX12_init_49 (p : Nat) (h : aHp) : aSn (wX12_init_49 p h).1 = aSn h.1 + 14507 := (swX12_init_48 p h)
theorem gwX12_init_49 {p z : Nat} {h : aHp} {y : aSh} (hs0 : (wX12_init_48 p h).1[z]? = some y) : (wX12_init_49 p h).1[z]? = some y := hs0
def wX12_init (p : Nat) (h : aHp) : aHp := (wX12_init_49 p h)
theorem lenX12_init (p : Nat) (h : aHp) : (wX12_init p h).1.length = h.1.length + 22 := lwX12_init_49 p h
theorem snX12_init (p : Nat) (h : aHp) : aSn (wX12_init p h).1 = aSn h.1 + 14507 := swX12_init_49 p h
theorem getX12_init {p z : Nat} {h : aHp} {y : aSh} (hs0 : h.1[z]? = some y) : (wX12_init p h).1[z]? = some y := gwX12_init_49 (gwX12_init_48 (gwX12_init_47 (gwX12_init_46 (gwX12_init_45 (gwX12_init_44 (gwX12_init_43 (gwX12_init_42 (gwX12_init_41 (gwX12_init_40 (gwX12_init_39 (gwX12_init_38 (gwX12_init_37 (gwX12_init_36 (gwX12_init_35 (gwX12_init_34 (gwX12_init_33 (gwX12_init_32 (gwX12_init_31 (gwX12_init_30 (gwX12_init_29 (gwX12_init_28 (gwX12_init_27 (gwX12_init_26 (gwX12_init_25 (gwX12_init_24 (gwX12_init_23 (gwX12_init_22 (gwX12_init_21 (gwX12_init_20 (gwX12_init_19 (gwX12_init_18 (gwX12_init_17 (gwX12_init_16 (gwX12_init_15 (gwX12_init_14 (gwX12_init_13 (gwX12_init_12 (gwX12_init_11 (gwX12_init_10 (gwX12_init_9 (gwX12_init_8 (gwX12_init_7 (gwX12_init_6 (gwX12_init_5 (gwX12_init_4 (gwX12_init_3 (gwX12_init_2 (gwX12_init_1 (hs0)))))))))))))))))))))))))))))))))))))))))))))))))
section CK
variable {pg : Program} {l : Launch} {e : Env} {R : Room} {s : State} {m : MethodId} {args : Array Value} {below : List Frame} {meth : Method} {c : Code} {Q : State → Prop} {D : va_G} {cA : FieldType → ClassId} {A : Nat → Prop} {ad0 : Nat → Nat}
theorem ckX12_init_0 {p : Nat} {h : aHp} (hX : aX pg s m args c yX12_init.cls cX12_init 1 D cA A ad0) (hnm : meth.name = "<init>") (hs : h.1[p]? = some (.inr 12)) (hp : p < h.1.length) (hRf : 1 ≤ R.frames) (hRl : 64 * 1 ≤ R.locals) (hRf1 : 1 ≤ R.frames) (hRl1 : (([] : List Value).map (fun v => v.category)).sum + 12 ≤ R.locals) (hRc : 22 ≤ R.cells) (hRs : 14507 ≤ R.slots) (hL : ∀ n, h.1.length ≤ n → ((aEnt [.ref (100 + p)] 1).all (fun o => match o with | some v => aBel (100 + n) v | none => true)) = true)
    (kk : aJ pg l e R s m args below meth c Q D cA A ad0 1 h.1.length (aSn h.1) 29 (aEnt [.ref (100 + p)] 1) [] (wX12_init_6 p h)) : aJ pg l e R s m args below meth c Q D cA A ad0 1 h.1.length (aSn h.1) 0 (aEnt [.ref (100 + p)] 1) [] h := by
  refine j_aload_n hX dX12_init_0 rfl ?_
  refine jpc (b := 1) rfl ?_
  refine j_obj hX lk_X12_3 dX12_init_1 ⟨hRf1, hRl1⟩ ?_
  refine jpc (b := 4) rfl ?_
  refine j_aload_n hX dX12_init_4 rfl ?_
  refine jpc (b := 5) rfl ?_
  refine j_sipush hX dX12_init_5 sp_240 ?_
  refine jpc (b := 8) rfl ?_
  refine j_newaN (ty := .byte) (t0 := 1) (n := 240) (n0 := h.1.length) hX dX12_init_8 rfl (fun _ => rfl) wAr_byte (fun _ => rfl) (by decide) (by decide) (by decide) rfl (b_cons (b_ref hp) b_nil) (hL _ (Nat.le_refl _)) (rmC (Nat.add_zero _).symm hRc (by decide)) (rmS (Nat.add_zero (aSn h.1)).symm hRs (by decide)) (h' := wX12_init_1 p h) rfl ?_
  refine jpc (b := 10) rfl ?_
  refine j_putRFN (k := 1) hX kX12 (by decide) fk_X12_9 (putv (a := h.1.length) (k := 1) (lwX12_init_1 p h) (Nat.lt_add_of_pos_right (by decide))) dX12_init_10 (GX12_init_z0_1 hs) rfl rfl hnm rfl (h' := wX12_init_2 p h) rfl ?_
  refine jpc (b := 13) rfl ?_
  refine j_aload_n hX dX12_init_13 rfl ?_
  refine jpc (b := 14) rfl ?_
  refine j_sipush hX dX12_init_14 sp_960 ?_
  refine jpc (b := 17) rfl ?_
  refine j_newaN (ty := .byte) (t0 := 1) (n := 960) (n0 := (h.1.length + 1)) hX dX12_init_17 rfl (fun _ => rfl) wAr_byte (fun _ => rfl) (by decide) (by decide) (by decide) (lwX12_init_2 p h) (b_cons (b_ref (lt_k hp)) b_nil) (hL _ (Nat.le_add_right _ _)) (rmC rfl hRc (by decide)) (rmS (swX12_init_2 p h) hRs (by decide)) (h' := wX12_init_3 p h) rfl ?_
  refine jpc (b := 19) rfl ?_
  refine j_putRFN (k := 2) hX kX12 (by decide) fk_X12_13 (putv (a := h.1.length) (k := 2) (lwX12_init_3 p h) (lt_j (by decide))) dX12_init_19 (GX12_init_z0_3 hs) rfl rfl hnm rfl (h' := wX12_init_4 p h) rfl ?_
  refine jpc (b := 22) rfl ?_
  refine j_aload_n hX dX12_init_22 rfl ?_
  refine jpc (b := 23) rfl ?_
  refine j_iconst hX dX12_init_23 ic_4 ?_
  refine jpc (b := 24) rfl ?_
  refine j_newaN (ty := .int) (t0 := 0) (n := 4) (n0 := (h.1.length + 2)) hX dX12_init_24 rfl (fun _ => rfl) wAr_int (fun _ => rfl) (by decide) (by decide) (by decide) (lwX12_init_4 p h) (b_cons (b_ref (lt_k hp)) b_nil) (hL _ (Nat.le_add_right _ _)) (rmC rfl hRc (by decide)) (rmS (swX12_init_4 p h) hRs (by decide)) (h' := wX12_init_5 p h) rfl ?_
  refine jpc (b := 26) rfl ?_
  refine j_putRFN (k := 3) hX kX12 (by decide) fk_X12_16 (putv (a := h.1.length) (k := 3) (lwX12_init_5 p h) (lt_j (by decide))) dX12_init_26 (GX12_init_z0_5 hs) rfl rfl hnm rfl (h' := wX12_init_6 p h) rfl ?_
  exact kk
end CK
section CK
variable {pg : Program} {l : Launch} {e : Env} {R : Room} {s : State} {m : MethodId} {args : Array Value} {below : List Frame} {meth : Method} {c : Code} {Q : State → Prop} {D : va_G} {cA : FieldType → ClassId} {A : Nat → Prop} {ad0 : Nat → Nat}
theorem ckX12_init_29 {p : Nat} {h : aHp} (hX : aX pg s m args c yX12_init.cls cX12_init 1 D cA A ad0) (hnm : meth.name = "<init>") (hs : h.1[p]? = some (.inr 12)) (hp : p < h.1.length) (hRf : 1 ≤ R.frames) (hRl : 64 * 1 ≤ R.locals) (hRf1 : 1 ≤ R.frames) (hRl1 : (([] : List Value).map (fun v => v.category)).sum + 12 ≤ R.locals) (hRc : 22 ≤ R.cells) (hRs : 14507 ≤ R.slots) (hL : ∀ n, h.1.length ≤ n → ((aEnt [.ref (100 + p)] 1).all (fun o => match o with | some v => aBel (100 + n) v | none => true)) = true)
    (kk : aJ pg l e R s m args below meth c Q D cA A ad0 1 h.1.length (aSn h.1) 58 (aEnt [.ref (100 + p)] 1) [] (wX12_init_11 p h)) : aJ pg l e R s m args below meth c Q D cA A ad0 1 h.1.length (aSn h.1) 29 (aEnt [.ref (100 + p)] 1) [] (wX12_init_6 p h) := by
  refine j_aload_n hX dX12_init_29 rfl ?_
  refine jpc (b := 30) rfl ?_
  refine j_sipush hX dX12_init_30 sp_128 ?_
  refine jpc (b := 33) rfl ?_
  refine j_newaN (ty := .int) (t0 := 0) (n := 128) (n0 := (h.1.length + 3)) hX dX12_init_33 rfl (fun _ => rfl) wAr_int (fun _ => rfl) (by decide) (by decide) (by decide) (lwX12_init_6 p h) (b_cons (b_ref (lt_k hp)) b_nil) (hL _ (Nat.le_add_right _ _)) (rmC rfl hRc (by decide)) (rmS (swX12_init_6 p h) hRs (by decide)) (h' := wX12_init_7 p h) rfl ?_
  refine jpc (b := 35) rfl ?_
  refine j_putRFN (k := 4) hX kX12 (by decide) fk_X12_20 (putv (a := h.1.length) (k := 4) (lwX12_init_7 p h) (lt_j (by decide))) dX12_init_35 (GX12_init_z0_7 hs) rfl rfl hnm rfl (h' := wX12_init_8 p h) rfl ?_
  refine jpc (b := 38) rfl ?_
  refine j_aload_n hX dX12_init_38 rfl ?_
  refine jpc (b := 39) rfl ?_
  refine j_aload_n hX dX12_init_39 rfl ?_
  refine jpc (b := 40) rfl ?_
  refine j_getRN (k := 1) hX kX12 (by decide) fk_X12_9 (RX12_init_1_8 hp) dX12_init_40 (GX12_init_z0_8 hs) rfl ?_
  refine jpc (b := 43) rfl ?_
  refine j_putRN (k := 5) hX kX12 (by decide) fk_X12_23 (putv (a := h.1.length) (k := 4) (lwX12_init_8 p h) (Nat.lt_add_of_pos_right (by decide))) dX12_init_43 (GX12_init_z0_8 hs) rfl rfl (h' := wX12_init_9 p h) rfl ?_
  refine jpc (b := 46) rfl ?_
  refine j_aload_n hX dX12_init_46 rfl ?_
  refine jpc (b := 47) rfl ?_
  refine j_ldcS (j := 5) (tx := "y") hX (by decide) (by decide) dX12_init_47 ?_
  refine jpc (b := 49) rfl ?_
  refine j_putRFN (k := 15) hX kX12 (by decide) fk_X12_28 (puts (a := h.1.length) (k := 4) (lwX12_init_9 p h) (by decide)) dX12_init_49 (GX12_init_z0_9 hs) rfl rfl hnm rfl (h' := wX12_init_10 p h) rfl ?_
  refine jpc (b := 52) rfl ?_
  refine j_aload_n hX dX12_init_52 rfl ?_
  refine jpc (b := 53) rfl ?_
  refine j_ldcS (j := 2) (tx := "nwtcos") hX (by decide) (by decide) dX12_init_53 ?_
  refine jpc (b := 55) rfl ?_
  refine j_putRFN (k := 16) hX kX12 (by decide) fk_X12_34 (puts (a := h.1.length) (k := 4) (lwX12_init_10 p h) (by decide)) dX12_init_55 (GX12_init_z0_10 hs) rfl rfl hnm rfl (h' := wX12_init_11 p h) rfl ?_
  exact kk
end CK
section CK
variable {pg : Program} {l : Launch} {e : Env} {R : Room} {s : State} {m : MethodId} {args : Array Value} {below : List Frame} {meth : Method} {c : Code} {Q : State → Prop} {D : va_G} {cA : FieldType → ClassId} {A : Nat → Prop} {ad0 : Nat → Nat}
theorem ckX12_init_58 {p : Nat} {h : aHp} (hX : aX pg s m args c yX12_init.cls cX12_init 1 D cA A ad0) (hnm : meth.name = "<init>") (hs : h.1[p]? = some (.inr 12)) (hp : p < h.1.length) (hRf : 1 ≤ R.frames) (hRl : 64 * 1 ≤ R.locals) (hRf1 : 1 ≤ R.frames) (hRl1 : (([] : List Value).map (fun v => v.category)).sum + 12 ≤ R.locals) (hRc : 22 ≤ R.cells) (hRs : 14507 ≤ R.slots) (hL : ∀ n, h.1.length ≤ n → ((aEnt [.ref (100 + p)] 1).all (fun o => match o with | some v => aBel (100 + n) v | none => true)) = true)
    (kk : aJ pg l e R s m args below meth c Q D cA A ad0 1 h.1.length (aSn h.1) 83 (aEnt [.ref (100 + p)] 1) [.int 54, .ref (100 + p)] (wX12_init_17 p h)) : aJ pg l e R s m args below meth c Q D cA A ad0 1 h.1.length (aSn h.1) 58 (aEnt [.ref (100 + p)] 1) [] (wX12_init_11 p h) := by
  refine j_aload_n hX dX12_init_58 rfl ?_
  refine jpc (b := 59) rfl ?_
  refine j_iconst hX dX12_init_59 ic_4 ?_
  refine jpc (b := 60) rfl ?_
  refine j_newaN (ty := .int) (t0 := 0) (n := 4) (n0 := (h.1.length + 4)) hX dX12_init_60 rfl (fun _ => rfl) wAr_int (fun _ => rfl) (by decide) (by decide) (by decide) (lwX12_init_11 p h) (b_cons (b_ref (lt_k hp)) b_nil) (hL _ (Nat.le_add_right _ _)) (rmC rfl hRc (by decide)) (rmS (swX12_init_11 p h) hRs (by decide)) (h' := wX12_init_12 p h) rfl ?_
  refine jpc (b := 62) rfl ?_
  refine j_putRFN (k := 18) hX kX12 (by decide) fk_X12_37 (putv (a := h.1.length) (k := 5) (lwX12_init_12 p h) (lt_j (by decide))) dX12_init_62 (GX12_init_z0_12 hs) rfl rfl hnm rfl (h' := wX12_init_13 p h) rfl ?_
  refine jpc (b := 65) rfl ?_
  refine j_aload_n hX dX12_init_65 rfl ?_
  refine jpc (b := 66) rfl ?_
  refine j_iconst hX dX12_init_66 ic_4 ?_
  refine jpc (b := 67) rfl ?_
  refine j_newaN (ty := .int) (t0 := 0) (n := 4) (n0 := (h.1.length + 5)) hX dX12_init_67 rfl (fun _ => rfl) wAr_int (fun _ => rfl) (by decide) (by decide) (by decide) (lwX12_init_13 p h) (b_cons (b_ref (lt_k hp)) b_nil) (hL _ (Nat.le_add_right _ _)) (rmC rfl hRc (by decide)) (rmS (swX12_init_13 p h) hRs (by decide)) (h' := wX12_init_14 p h) rfl ?_
  refine jpc (b := 69) rfl ?_
  refine j_putRFN (k := 19) hX kX12 (by decide) fk_X12_40 (putv (a := h.1.length) (k := 6) (lwX12_init_14 p h) (lt_j (by decide))) dX12_init_69 (GX12_init_z0_14 hs) rfl rfl hnm rfl (h' := wX12_init_15 p h) rfl ?_
  refine jpc (b := 72) rfl ?_
  refine j_aload_n hX dX12_init_72 rfl ?_
  refine jpc (b := 73) rfl ?_
  refine j_bipush hX dX12_init_73 bp_54 ?_
  refine jpc (b := 75) rfl ?_
  refine j_newaN (ty := .int) (t0 := 0) (n := 54) (n0 := (h.1.length + 6)) hX dX12_init_75 rfl (fun _ => rfl) wAr_int (fun _ => rfl) (by decide) (by decide) (by decide) (lwX12_init_15 p h) (b_cons (b_ref (lt_k hp)) b_nil) (hL _ (Nat.le_add_right _ _)) (rmC rfl hRc (by decide)) (rmS (swX12_init_15 p h) hRs (by decide)) (h' := wX12_init_16 p h) rfl ?_
  refine jpc (b := 77) rfl ?_
  refine j_putRFN (k := 20) hX kX12 (by decide) fk_X12_43 (putv (a := h.1.length) (k := 7) (lwX12_init_16 p h) (lt_j (by decide))) dX12_init_77 (GX12_init_z0_16 hs) rfl rfl hnm rfl (h' := wX12_init_17 p h) rfl ?_
  refine jpc (b := 80) rfl ?_
  refine j_aload_n hX dX12_init_80 rfl ?_
  refine jpc (b := 81) rfl ?_
  refine j_bipush hX dX12_init_81 bp_54 ?_
  exact kk
end CK
section CK
variable {pg : Program} {l : Launch} {e : Env} {R : Room} {s : State} {m : MethodId} {args : Array Value} {below : List Frame} {meth : Method} {c : Code} {Q : State → Prop} {D : va_G} {cA : FieldType → ClassId} {A : Nat → Prop} {ad0 : Nat → Nat}
theorem ckX12_init_83 {p : Nat} {h : aHp} (hX : aX pg s m args c yX12_init.cls cX12_init 1 D cA A ad0) (hnm : meth.name = "<init>") (hs : h.1[p]? = some (.inr 12)) (hp : p < h.1.length) (hRf : 1 ≤ R.frames) (hRl : 64 * 1 ≤ R.locals) (hRf1 : 1 ≤ R.frames) (hRl1 : (([] : List Value).map (fun v => v.category)).sum + 12 ≤ R.locals) (hRc : 22 ≤ R.cells) (hRs : 14507 ≤ R.slots) (hL : ∀ n, h.1.length ≤ n → ((aEnt [.ref (100 + p)] 1).all (fun o => match o with | some v => aBel (100 + n) v | none => true)) = true)
    (kk : aJ pg l e R s m args below meth c Q D cA A ad0 1 h.1.length (aSn h.1) 113 (aEnt [.ref (100 + p)] 1) [] (wX12_init_25 p h)) : aJ pg l e R s m args below meth c Q D cA A ad0 1 h.1.length (aSn h.1) 83 (aEnt [.ref (100 + p)] 1) [.int 54, .ref (100 + p)] (wX12_init_17 p h) := by
  refine j_newaN (ty := .int) (t0 := 0) (n := 54) (n0 := (h.1.length + 7)) hX dX12_init_83 rfl (fun _ => rfl) wAr_int (fun _ => rfl) (by decide) (by decide) (by decide) (lwX12_init_17 p h) (b_cons (b_ref (lt_k hp)) b_nil) (hL _ (Nat.le_add_right _ _)) (rmC rfl hRc (by decide)) (rmS (swX12_init_17 p h) hRs (by decide)) (h' := wX12_init_18 p h) rfl ?_
  refine jpc (b := 85) rfl ?_
  refine j_putRFN (k := 21) hX kX12 (by decide) fk_X12_46 (putv (a := h.1.length) (k := 8) (lwX12_init_18 p h) (lt_j (by decide))) dX12_init_85 (GX12_init_z0_18 hs) rfl rfl hnm rfl (h' := wX12_init_19 p h) rfl ?_
  refine jpc (b := 88) rfl ?_
  refine j_aload_n hX dX12_init_88 rfl ?_
  refine jpc (b := 89) rfl ?_
  refine j_bipush hX dX12_init_89 bp_16 ?_
  refine jpc (b := 91) rfl ?_
  refine j_newaN (ty := .int) (t0 := 0) (n := 16) (n0 := (h.1.length + 8)) hX dX12_init_91 rfl (fun _ => rfl) wAr_int (fun _ => rfl) (by decide) (by decide) (by decide) (lwX12_init_19 p h) (b_cons (b_ref (lt_k hp)) b_nil) (hL _ (Nat.le_add_right _ _)) (rmC rfl hRc (by decide)) (rmS (swX12_init_19 p h) hRs (by decide)) (h' := wX12_init_20 p h) rfl ?_
  refine jpc (b := 93) rfl ?_
  refine j_putRFN (k := 22) hX kX12 (by decide) fk_X12_49 (putv (a := h.1.length) (k := 9) (lwX12_init_20 p h) (lt_j (by decide))) dX12_init_93 (GX12_init_z0_20 hs) rfl rfl hnm rfl (h' := wX12_init_21 p h) rfl ?_
  refine jpc (b := 96) rfl ?_
  refine j_aload_n hX dX12_init_96 rfl ?_
  refine jpc (b := 97) rfl ?_
  refine j_bipush hX dX12_init_97 bp_16 ?_
  refine jpc (b := 99) rfl ?_
  refine j_newaN (ty := .int) (t0 := 0) (n := 16) (n0 := (h.1.length + 9)) hX dX12_init_99 rfl (fun _ => rfl) wAr_int (fun _ => rfl) (by decide) (by decide) (by decide) (lwX12_init_21 p h) (b_cons (b_ref (lt_k hp)) b_nil) (hL _ (Nat.le_add_right _ _)) (rmC rfl hRc (by decide)) (rmS (swX12_init_21 p h) hRs (by decide)) (h' := wX12_init_22 p h) rfl ?_
  refine jpc (b := 101) rfl ?_
  refine j_putRFN (k := 23) hX kX12 (by decide) fk_X12_52 (putv (a := h.1.length) (k := 10) (lwX12_init_22 p h) (lt_j (by decide))) dX12_init_101 (GX12_init_z0_22 hs) rfl rfl hnm rfl (h' := wX12_init_23 p h) rfl ?_
  refine jpc (b := 104) rfl ?_
  refine j_aload_n hX dX12_init_104 rfl ?_
  refine jpc (b := 105) rfl ?_
  refine j_sipush hX dX12_init_105 sp_240 ?_
  refine jpc (b := 108) rfl ?_
  refine j_newaN (ty := .int) (t0 := 0) (n := 240) (n0 := (h.1.length + 10)) hX dX12_init_108 rfl (fun _ => rfl) wAr_int (fun _ => rfl) (by decide) (by decide) (by decide) (lwX12_init_23 p h) (b_cons (b_ref (lt_k hp)) b_nil) (hL _ (Nat.le_add_right _ _)) (rmC rfl hRc (by decide)) (rmS (swX12_init_23 p h) hRs (by decide)) (h' := wX12_init_24 p h) rfl ?_
  refine jpc (b := 110) rfl ?_
  refine j_putRFN (k := 24) hX kX12 (by decide) fk_X12_55 (putv (a := h.1.length) (k := 11) (lwX12_init_24 p h) (lt_j (by decide))) dX12_init_110 (GX12_init_z0_24 hs) rfl rfl hnm rfl (h' := wX12_init_25 p h) rfl ?_
  exact kk
end CK
section CK
variable {pg : Program} {l : Launch} {e : Env} {R : Room} {s : State} {m : MethodId} {args : Array Value} {below : List Frame} {meth : Method} {c : Code} {Q : State → Prop} {D : va_G} {cA : FieldType → ClassId} {A : Nat → Prop} {ad0 : Nat → Nat}
theorem ckX12_init_113 {p : Nat} {h : aHp} (hX : aX pg s m args c yX12_init.cls cX12_init 1 D cA A ad0) (hnm : meth.name = "<init>") (hs : h.1[p]? = some (.inr 12)) (hp : p < h.1.length) (hRf : 1 ≤ R.frames) (hRl : 64 * 1 ≤ R.locals) (hRf1 : 1 ≤ R.frames) (hRl1 : (([] : List Value).map (fun v => v.category)).sum + 12 ≤ R.locals) (hRc : 22 ≤ R.cells) (hRs : 14507 ≤ R.slots) (hL : ∀ n, h.1.length ≤ n → ((aEnt [.ref (100 + p)] 1).all (fun o => match o with | some v => aBel (100 + n) v | none => true)) = true)
    (kk : aJ pg l e R s m args below meth c Q D cA A ad0 1 h.1.length (aSn h.1) 140 (aEnt [.ref (100 + p)] 1) [.int (-1), .ref (100 + p)] (wX12_init_31 p h)) : aJ pg l e R s m args below meth c Q D cA A ad0 1 h.1.length (aSn h.1) 113 (aEnt [.ref (100 + p)] 1) [] (wX12_init_25 p h) := by
  refine j_aload_n hX dX12_init_113 rfl ?_
  refine jpc (b := 114) rfl ?_
  refine j_iconst hX dX12_init_114 ic_5 ?_
  refine jpc (b := 115) rfl ?_
  refine j_newaN (ty := .int) (t0 := 0) (n := 5) (n0 := (h.1.length + 11)) hX dX12_init_115 rfl (fun _ => rfl) wAr_int (fun _ => rfl) (by decide) (by decide) (by decide) (lwX12_init_25 p h) (b_cons (b_ref (lt_k hp)) b_nil) (hL _ (Nat.le_add_right _ _)) (rmC rfl hRc (by decide)) (rmS (swX12_init_25 p h) hRs (by decide)) (h' := wX12_init_26 p h) rfl ?_
  refine jpc (b := 117) rfl ?_
  refine j_putRFN (k := 25) hX kX12 (by decide) fk_X12_58 (putv (a := h.1.length) (k := 12) (lwX12_init_26 p h) (lt_j (by decide))) dX12_init_117 (GX12_init_z0_26 hs) rfl rfl hnm rfl (h' := wX12_init_27 p h) rfl ?_
  refine jpc (b := 120) rfl ?_
  refine j_aload_n hX dX12_init_120 rfl ?_
  refine jpc (b := 121) rfl ?_
  refine j_sipush hX dX12_init_121 sp_296 ?_
  refine jpc (b := 124) rfl ?_
  refine j_newaN (ty := .int) (t0 := 0) (n := 296) (n0 := (h.1.length + 12)) hX dX12_init_124 rfl (fun _ => rfl) wAr_int (fun _ => rfl) (by decide) (by decide) (by decide) (lwX12_init_27 p h) (b_cons (b_ref (lt_k hp)) b_nil) (hL _ (Nat.le_add_right _ _)) (rmC rfl hRc (by decide)) (rmS (swX12_init_27 p h) hRs (by decide)) (h' := wX12_init_28 p h) rfl ?_
  refine jpc (b := 126) rfl ?_
  refine j_putRFN (k := 33) hX kX12 (by decide) fk_X12_61 (putv (a := h.1.length) (k := 13) (lwX12_init_28 p h) (lt_j (by decide))) dX12_init_126 (GX12_init_z0_28 hs) rfl rfl hnm rfl (h' := wX12_init_29 p h) rfl ?_
  refine jpc (b := 129) rfl ?_
  refine j_aload_n hX dX12_init_129 rfl ?_
  refine jpc (b := 130) rfl ?_
  refine j_sipush hX dX12_init_130 sp_296 ?_
  refine jpc (b := 133) rfl ?_
  refine j_newaN (ty := .int) (t0 := 0) (n := 296) (n0 := (h.1.length + 13)) hX dX12_init_133 rfl (fun _ => rfl) wAr_int (fun _ => rfl) (by decide) (by decide) (by decide) (lwX12_init_29 p h) (b_cons (b_ref (lt_k hp)) b_nil) (hL _ (Nat.le_add_right _ _)) (rmC rfl hRc (by decide)) (rmS (swX12_init_29 p h) hRs (by decide)) (h' := wX12_init_30 p h) rfl ?_
  refine jpc (b := 135) rfl ?_
  refine j_putRFN (k := 34) hX kX12 (by decide) fk_X12_64 (putv (a := h.1.length) (k := 14) (lwX12_init_30 p h) (lt_j (by decide))) dX12_init_135 (GX12_init_z0_30 hs) rfl rfl hnm rfl (h' := wX12_init_31 p h) rfl ?_
  refine jpc (b := 138) rfl ?_
  refine j_aload_n hX dX12_init_138 rfl ?_
  refine jpc (b := 139) rfl ?_
  refine j_iconst hX dX12_init_139 ic_m1 ?_
  exact kk
end CK
section CK
variable {pg : Program} {l : Launch} {e : Env} {R : Room} {s : State} {m : MethodId} {args : Array Value} {below : List Frame} {meth : Method} {c : Code} {Q : State → Prop} {D : va_G} {cA : FieldType → ClassId} {A : Nat → Prop} {ad0 : Nat → Nat}
theorem ckX12_init_140 {p : Nat} {h : aHp} (hX : aX pg s m args c yX12_init.cls cX12_init 1 D cA A ad0) (hnm : meth.name = "<init>") (hs : h.1[p]? = some (.inr 12)) (hp : p < h.1.length) (hRf : 1 ≤ R.frames) (hRl : 64 * 1 ≤ R.locals) (hRf1 : 1 ≤ R.frames) (hRl1 : (([] : List Value).map (fun v => v.category)).sum + 12 ≤ R.locals) (hRc : 22 ≤ R.cells) (hRs : 14507 ≤ R.slots) (hL : ∀ n, h.1.length ≤ n → ((aEnt [.ref (100 + p)] 1).all (fun o => match o with | some v => aBel (100 + n) v | none => true)) = true)
    (kk : aJ pg l e R s m args below meth c Q D cA A ad0 1 h.1.length (aSn h.1) 169 (aEnt [.ref (100 + p)] 1) [.int 8, .ref (100 + p)] (wX12_init_37 p h)) : aJ pg l e R s m args below meth c Q D cA A ad0 1 h.1.length (aSn h.1) 140 (aEnt [.ref (100 + p)] 1) [.int (-1), .ref (100 + p)] (wX12_init_31 p h) := by
  refine j_putIN (k := 35) hX kX12 (by decide) fk_X12_67 dX12_init_140 (GX12_init_z0_31 hs) rfl rfl rfl rfl (h' := wX12_init_32 p h) rfl ?_
  refine jpc (b := 143) rfl ?_
  refine j_aload_n hX dX12_init_143 rfl ?_
  refine jpc (b := 144) rfl ?_
  refine j_bipush hX dX12_init_144 bp_50 ?_
  refine jpc (b := 146) rfl ?_
  refine j_putIN (k := 36) hX kX12 (by decide) fk_X12_71 dX12_init_146 (GX12_init_z0_32 hs) rfl rfl rfl rfl (h' := wX12_init_33 p h) rfl ?_
  refine jpc (b := 149) rfl ?_
  refine j_aload_n hX dX12_init_149 rfl ?_
  refine jpc (b := 150) rfl ?_
  refine j_sipush hX dX12_init_150 sp_11840 ?_
  refine jpc (b := 153) rfl ?_
  refine j_newaN (ty := .int) (t0 := 0) (n := 11840) (n0 := (h.1.length + 14)) hX dX12_init_153 rfl (fun _ => rfl) wAr_int (fun _ => rfl) (by decide) (by decide) (by decide) (lwX12_init_33 p h) (b_cons (b_ref (lt_k hp)) b_nil) (hL _ (Nat.le_add_right _ _)) (rmC rfl hRc (by decide)) (rmS (swX12_init_33 p h) hRs (by decide)) (h' := wX12_init_34 p h) rfl ?_
  refine jpc (b := 155) rfl ?_
  refine j_putRFN (k := 41) hX kX12 (by decide) fk_X12_74 (putv (a := h.1.length) (k := 15) (lwX12_init_34 p h) (lt_j (by decide))) dX12_init_155 (GX12_init_z0_34 hs) rfl rfl hnm rfl (h' := wX12_init_35 p h) rfl ?_
  refine jpc (b := 158) rfl ?_
  refine j_aload_n hX dX12_init_158 rfl ?_
  refine jpc (b := 159) rfl ?_
  refine j_bipush hX dX12_init_159 bp_9 ?_
  refine jpc (b := 161) rfl ?_
  refine j_newaN (ty := .int) (t0 := 0) (n := 9) (n0 := (h.1.length + 15)) hX dX12_init_161 rfl (fun _ => rfl) wAr_int (fun _ => rfl) (by decide) (by decide) (by decide) (lwX12_init_35 p h) (b_cons (b_ref (lt_k hp)) b_nil) (hL _ (Nat.le_add_right _ _)) (rmC rfl hRc (by decide)) (rmS (swX12_init_35 p h) hRs (by decide)) (h' := wX12_init_36 p h) rfl ?_
  refine jpc (b := 163) rfl ?_
  refine j_putRFN (k := 46) hX kX12 (by decide) fk_X12_77 (putv (a := h.1.length) (k := 16) (lwX12_init_36 p h) (lt_j (by decide))) dX12_init_163 (GX12_init_z0_36 hs) rfl rfl hnm rfl (h' := wX12_init_37 p h) rfl ?_
  refine jpc (b := 166) rfl ?_
  refine j_aload_n hX dX12_init_166 rfl ?_
  refine jpc (b := 167) rfl ?_
  refine j_bipush hX dX12_init_167 bp_8 ?_
  exact kk
end CK
section CK
variable {pg : Program} {l : Launch} {e : Env} {R : Room} {s : State} {m : MethodId} {args : Array Value} {below : List Frame} {meth : Method} {c : Code} {Q : State → Prop} {D : va_G} {cA : FieldType → ClassId} {A : Nat → Prop} {ad0 : Nat → Nat}
theorem ckX12_init_169 {p : Nat} {h : aHp} (hX : aX pg s m args c yX12_init.cls cX12_init 1 D cA A ad0) (hnm : meth.name = "<init>") (hs : h.1[p]? = some (.inr 12)) (hp : p < h.1.length) (hRf : 1 ≤ R.frames) (hRl : 64 * 1 ≤ R.locals) (hRf1 : 1 ≤ R.frames) (hRl1 : (([] : List Value).map (fun v => v.category)).sum + 12 ≤ R.locals) (hRc : 22 ≤ R.cells) (hRs : 14507 ≤ R.slots) (hL : ∀ n, h.1.length ≤ n → ((aEnt [.ref (100 + p)] 1).all (fun o => match o with | some v => aBel (100 + n) v | none => true)) = true)
    (kk : aJ pg l e R s m args below meth c Q D cA A ad0 1 h.1.length (aSn h.1) 198 (aEnt [.ref (100 + p)] 1) [] (wX12_init_45 p h)) : aJ pg l e R s m args below meth c Q D cA A ad0 1 h.1.length (aSn h.1) 169 (aEnt [.ref (100 + p)] 1) [.int 8, .ref (100 + p)] (wX12_init_37 p h) := by
  refine j_newaN (ty := .boolean) (t0 := 2) (n := 8) (n0 := (h.1.length + 16)) hX dX12_init_169 rfl (fun _ => rfl) wAr_boolean (fun _ => rfl) (by decide) (by decide) (by decide) (lwX12_init_37 p h) (b_cons (b_ref (lt_k hp)) b_nil) (hL _ (Nat.le_add_right _ _)) (rmC rfl hRc (by decide)) (rmS (swX12_init_37 p h) hRs (by decide)) (h' := wX12_init_38 p h) rfl ?_
  refine jpc (b := 171) rfl ?_
  refine j_putRFN (k := 47) hX kX12 (by decide) fk_X12_80 (putv (a := h.1.length) (k := 17) (lwX12_init_38 p h) (lt_j (by decide))) dX12_init_171 (GX12_init_z0_38 hs) rfl rfl hnm rfl (h' := wX12_init_39 p h) rfl ?_
  refine jpc (b := 174) rfl ?_
  refine j_aload_n hX dX12_init_174 rfl ?_
  refine jpc (b := 175) rfl ?_
  refine j_bipush hX dX12_init_175 bp_8 ?_
  refine jpc (b := 177) rfl ?_
  refine j_newaN (ty := .int) (t0 := 0) (n := 8) (n0 := (h.1.length + 17)) hX dX12_init_177 rfl (fun _ => rfl) wAr_int (fun _ => rfl) (by decide) (by decide) (by decide) (lwX12_init_39 p h) (b_cons (b_ref (lt_k hp)) b_nil) (hL _ (Nat.le_add_right _ _)) (rmC rfl hRc (by decide)) (rmS (swX12_init_39 p h) hRs (by decide)) (h' := wX12_init_40 p h) rfl ?_
  refine jpc (b := 179) rfl ?_
  refine j_putRFN (k := 48) hX kX12 (by decide) fk_X12_84 (putv (a := h.1.length) (k := 18) (lwX12_init_40 p h) (lt_j (by decide))) dX12_init_179 (GX12_init_z0_40 hs) rfl rfl hnm rfl (h' := wX12_init_41 p h) rfl ?_
  refine jpc (b := 182) rfl ?_
  refine j_aload_n hX dX12_init_182 rfl ?_
  refine jpc (b := 183) rfl ?_
  refine j_bipush hX dX12_init_183 bp_10 ?_
  refine jpc (b := 185) rfl ?_
  refine j_newaN (ty := .int) (t0 := 0) (n := 10) (n0 := (h.1.length + 18)) hX dX12_init_185 rfl (fun _ => rfl) wAr_int (fun _ => rfl) (by decide) (by decide) (by decide) (lwX12_init_41 p h) (b_cons (b_ref (lt_k hp)) b_nil) (hL _ (Nat.le_add_right _ _)) (rmC rfl hRc (by decide)) (rmS (swX12_init_41 p h) hRs (by decide)) (h' := wX12_init_42 p h) rfl ?_
  refine jpc (b := 187) rfl ?_
  refine j_putRFN (k := 50) hX kX12 (by decide) fk_X12_87 (putv (a := h.1.length) (k := 19) (lwX12_init_42 p h) (lt_j (by decide))) dX12_init_187 (GX12_init_z0_42 hs) rfl rfl hnm rfl (h' := wX12_init_43 p h) rfl ?_
  refine jpc (b := 190) rfl ?_
  refine j_aload_n hX dX12_init_190 rfl ?_
  refine jpc (b := 191) rfl ?_
  refine j_bipush hX dX12_init_191 bp_10 ?_
  refine jpc (b := 193) rfl ?_
  refine j_newaN (ty := .boolean) (t0 := 2) (n := 10) (n0 := (h.1.length + 19)) hX dX12_init_193 rfl (fun _ => rfl) wAr_boolean (fun _ => rfl) (by decide) (by decide) (by decide) (lwX12_init_43 p h) (b_cons (b_ref (lt_k hp)) b_nil) (hL _ (Nat.le_add_right _ _)) (rmC rfl hRc (by decide)) (rmS (swX12_init_43 p h) hRs (by decide)) (h' := wX12_init_44 p h) rfl ?_
  refine jpc (b := 195) rfl ?_
  refine j_putRFN (k := 51) hX kX12 (by decide) fk_X12_90 (putv (a := h.1.length) (k := 20) (lwX12_init_44 p h) (lt_j (by decide))) dX12_init_195 (GX12_init_z0_44 hs) rfl rfl hnm rfl (h' := wX12_init_45 p h) rfl ?_
  exact kk
end CK
section CK
variable {pg : Program} {l : Launch} {e : Env} {R : Room} {s : State} {m : MethodId} {args : Array Value} {below : List Frame} {meth : Method} {c : Code} {Q : State → Prop} {D : va_G} {cA : FieldType → ClassId} {A : Nat → Prop} {ad0 : Nat → Nat}
theorem ckX12_init_198 {p : Nat} {h : aHp} (hX : aX pg s m args c yX12_init.cls cX12_init 1 D cA A ad0) (hnm : meth.name = "<init>") (hs : h.1[p]? = some (.inr 12)) (hp : p < h.1.length) (hRf : 1 ≤ R.frames) (hRl : 64 * 1 ≤ R.locals) (hRf1 : 1 ≤ R.frames) (hRl1 : (([] : List Value).map (fun v => v.category)).sum + 12 ≤ R.locals) (hRc : 22 ≤ R.cells) (hRs : 14507 ≤ R.slots) (hL : ∀ n, h.1.length ≤ n → ((aEnt [.ref (100 + p)] 1).all (fun o => match o with | some v => aBel (100 + n) v | none => true)) = true)
    (kk : aJ pg l e R s m args below meth c Q D cA A ad0 1 h.1.length (aSn h.1) 215 (aEnt [.ref (100 + p)] 1) [] (wX12_init_49 p h)) : aJ pg l e R s m args below meth c Q D cA A ad0 1 h.1.length (aSn h.1) 198 (aEnt [.ref (100 + p)] 1) [] (wX12_init_45 p h) := by
  refine j_aload_n hX dX12_init_198 rfl ?_
  refine jpc (b := 199) rfl ?_
  refine j_bipush hX dX12_init_199 bp_9 ?_
  refine jpc (b := 201) rfl ?_
  refine j_newaN (ty := .int) (t0 := 0) (n := 9) (n0 := (h.1.length + 20)) hX dX12_init_201 rfl (fun _ => rfl) wAr_int (fun _ => rfl) (by decide) (by decide) (by decide) (lwX12_init_45 p h) (b_cons (b_ref (lt_k hp)) b_nil) (hL _ (Nat.le_add_right _ _)) (rmC rfl hRc (by decide)) (rmS (swX12_init_45 p h) hRs (by decide)) (h' := wX12_init_46 p h) rfl ?_
  refine jpc (b := 203) rfl ?_
  refine j_putRFN (k := 55) hX kX12 (by decide) fk_X12_93 (putv (a := h.1.length) (k := 21) (lwX12_init_46 p h) (lt_j (by decide))) dX12_init_203 (GX12_init_z0_46 hs) rfl rfl hnm rfl (h' := wX12_init_47 p h) rfl ?_
  refine jpc (b := 206) rfl ?_
  refine j_aload_n hX dX12_init_206 rfl ?_
  refine jpc (b := 207) rfl ?_
  refine j_sipush hX dX12_init_207 sp_296 ?_
  refine jpc (b := 210) rfl ?_
  refine j_newaN (ty := .int) (t0 := 0) (n := 296) (n0 := (h.1.length + 21)) hX dX12_init_210 rfl (fun _ => rfl) wAr_int (fun _ => rfl) (by decide) (by decide) (by decide) (lwX12_init_47 p h) (b_cons (b_ref (lt_k hp)) b_nil) (hL _ (Nat.le_add_right _ _)) (rmC rfl hRc (by decide)) (rmS (swX12_init_47 p h) hRs (by decide)) (h' := wX12_init_48 p h) rfl ?_
  refine jpc (b := 212) rfl ?_
  refine j_putRFN (k := 56) hX kX12 (by decide) fk_X12_96 (putv (a := h.1.length) (k := 22) (lwX12_init_48 p h) (lt_j (by decide))) dX12_init_212 (GX12_init_z0_48 hs) rfl rfl hnm rfl (h' := wX12_init_49 p h) rfl ?_
  exact kk
end CK
theorem okX12_init {l : Launch} {p : Nat} {h : aHp} (hs : h.1[p]? = some (.inr 12)) : aM l yX12_init cX12_init 1 none 1 [.ref (100 + p)] h none (wX12_init p h) := by
  have hp := aLt hs
  have hL : ∀ n, h.1.length ≤ n → ((aEnt [.ref (100 + p)] 1).all (fun o => match o with | some v => aBel (100 + n) v | none => true)) = true := by
    intro n hn
    simp [aBel, aEnt, aEn, Value.category]
    omega
  refine aM_of (by decide) (Nat.le_of_ble_eq_true rfl) (by rw [lenX12_init]; omega) (by rw [snX12_init]; omega) (fun p_ e s m args below meth c D cA A ad0 hX hr hlk hnm => ?_)
  generalize hRe : (Room.mk 1 ((wX12_init p h).1.length - h.1.length) (aSn (wX12_init p h).1 - aSn h.1) (64 * 1)) = R
  have hRf : 1 ≤ R.frames := by rw [← hRe]; exact Nat.le_refl _
  have hRl : 64 * 1 ≤ R.locals := by rw [← hRe]; exact Nat.le_refl _
  have hRf1 : 1 ≤ R.frames := Nat.le_trans (by decide) hRf
  have hRl1 : (([] : List Value).map (fun v => v.category)).sum + 12 ≤ R.locals := Nat.le_trans (by decide) hRl
  have hRc : 22 ≤ R.cells := by rw [← hRe]; show 22 ≤ _ - _; rw [lenX12_init]; omega
  have hRs : 14507 ≤ R.slots := by rw [← hRe]; show 14507 ≤ _ - _; rw [snX12_init]; omega
  refine ckX12_init_0 hX hnm hs hp hRf hRl hRf1 hRl1 hRc hRs hL ?_
  refine ckX12_init_29 hX hnm hs hp hRf hRl hRf1 hRl1 hRc hRs hL ?_
  refine ckX12_init_58 hX hnm hs hp hRf hRl hRf1 hRl1 hRc hRs hL ?_
  refine ckX12_init_83 hX hnm hs hp hRf hRl hRf1 hRl1 hRc hRs hL ?_
  refine ckX12_init_113 hX hnm hs hp hRf hRl hRf1 hRl1 hRc hRs hL ?_
  refine ckX12_init_140 hX hnm hs hp hRf hRl hRf1 hRl1 hRc hRs hL ?_
  refine ckX12_init_169 hX hnm hs hp hRf hRl hRf1 hRl1 hRc hRs hL ?_
  refine ckX12_init_198 hX hnm hs hp hRf hRl hRf1 hRl1 hRc hRs hL ?_
  exact j_vret hX hr hlk dX12_init_215
