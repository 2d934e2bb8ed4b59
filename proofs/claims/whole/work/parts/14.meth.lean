/-! methods over abstract worlds: contracts, entry, returns, calls, what is made -/
theorem aC_same {ad : Nat → Nat} {A : Nat → Prop} {U V : State} {H : Heap} (hv : V.vm = U.vm) (h : aC ad A U H) : aC ad A V H := by
  have hal : U.vm.Alike V.vm := by rw [hv]; exact Vm.Alike.refl U.vm
  obtain ⟨h1, h2, h3, h4, h6, h5⟩ := h
  refine ⟨fun j a b => ⟨(h1 j a b).1.moved hal, (h1 j a b).2.moved hal⟩, fun i hi => ⟨(h2 i hi).1.moved hal, (h2 i hi).2.1.moved hal, (h2 i hi).2.2.1.moved hal, (h2 i hi).2.2.2.moved hal⟩, h3.moved hal, fun q hq => (h4 q hq).same hv, h6.imp (fun z => z.moved hal) (fun z => z.moved hal), fun w hw => ?_⟩
  exact va_Nw.same (by simp only [aNst, List.mem_cons, List.not_mem_nil, or_false] at hw; rcases hw with rfl | rfl | rfl | rfl | rfl | rfl | rfl <;> rfl) hv.symm (h5 w hw)
theorem aC_warm {ad : Nat → Nat} {A : Nat → Prop} {U V : State} {H : Heap} (hW : U.WarmedH V.vm) (h : aC ad A U H) : aC ad A V H := by
  have hal := hW.alike
  obtain ⟨h1, h2, h3, h4, h6, h5⟩ := h
  refine ⟨fun j a b => ⟨(h1 j a b).1.moved hal, (h1 j a b).2.moved hal⟩, fun i hi => ⟨(h2 i hi).1.moved hal, (h2 i hi).2.1.moved hal, (h2 i hi).2.2.1.moved hal, (h2 i hi).2.2.2.moved hal⟩, h3.moved hal, fun q hq => (h4 q hq).warm hW, h6.imp (fun z => z.moved hal) (fun z => z.moved hal), fun w hw => ?_⟩
  have h9 := h5 w hw
  simp only [aNst, List.mem_cons, List.not_mem_nil, or_false] at hw
  rcases hw with rfl | rfl | rfl | rfl | rfl | rfl | rfl <;> exact va_Nw.warmM hW h9
theorem aC_kept {ad : Nat → Nat} {A : Nat → Prop} {U : State} {H H1 : Heap} (h : aC ad A U H) (hq : ∀ a : Nat, a < H.size → ¬ A a → H1[a]? = H[a]?) : aC ad A U H1 := by
  obtain ⟨h1, h2, h3, h4, h6, h5⟩ := h
  exact ⟨fun j a b => ⟨(h1 j a b).1.kept hq, (h1 j a b).2.kept hq⟩, fun i hi => ⟨(h2 i hi).1.kept hq, (h2 i hi).2.1.kept hq, (h2 i hi).2.2.1.kept hq, (h2 i hi).2.2.2.kept hq⟩, h3.kept hq, h4, h6.imp (fun z => z.kept hq) (fun z => z.kept hq), h5⟩
theorem aC_narrow {ad : Nat → Nat} {A B : Nat → Prop} {U : State} {H : Heap} (h : aC ad A U H) (hq : ∀ a : Nat, B a → A a) : aC ad B U H := by
  obtain ⟨h1, h2, h3, h4, h6, h5⟩ := h
  exact ⟨fun j a b => ⟨(h1 j a b).1.narrow hq, (h1 j a b).2.narrow hq⟩, fun i hi => ⟨(h2 i hi).1.narrow hq, (h2 i hi).2.1.narrow hq, (h2 i hi).2.2.1.narrow hq, (h2 i hi).2.2.2.narrow hq⟩, h3.narrow hq, h4, h6.imp (fun z => z.narrow hq) (fun z => z.narrow hq), h5⟩
theorem aC_ad {ad ad1 : Nat → Nat} {A : Nat → Prop} {U : State} {H : Heap} (h : aC ad A U H) (hq : ∀ k, k < 100 → ad1 k = ad k) : aC ad1 A U H := by
  obtain ⟨h1, h2, h3, h4, h6, h5⟩ := h
  refine ⟨fun j a b => ?_, fun i hi => ?_, h3, fun q hq1 => ?_, ?_, h5⟩
  · rw [hq j (by omega)]; exact h1 j a b
  · rw [hq (10 + i) (by omega), hq (30 + i) (by omega)]; exact h2 i hi
  · have h9 := h4 q hq1
    have : q.2.2.2 < 20 := by
      simp only [aLdc, List.mem_cons, List.not_mem_nil, or_false] at hq1
      rcases hq1 with rfl | rfl | rfl | rfl | rfl | rfl | rfl | rfl | rfl | rfl <;> decide
    rw [hq (10 + q.2.2.2) (by omega)]; exact h9
  · rw [hq 5 (by omega)]; exact h6
def aPre (D : va_G) (cA : FieldType → ClassId) (adr : Nat → Nat) (sz : Nat) (av : List Value) (h : aHp) : Array Value → State → Prop := va_Pc (av.map (aV adr)) (fun U => U.heap.size = sz ∧ va_P D acl (aW cA adr h) U.heap ∧ va_K D acl (aTys cA) U ∧ va_D (fun _ => True) (aW cA adr h) ∧ aC adr (va_A (aW cA adr h) sz) U U.heap ∧ aWf h)
def aPost (D : va_G) (cA : FieldType → ClassId) (adr : Nat → Nat) (A : Nat → Prop) (h : aHp) (r : Option Value) (h' : aHp) : Array Value → State → Outcome → State → Prop := fun _ st o t =>
  (∃ ad1 : Nat → Nat, o = .returned (r.map (aV ad1)) ∧ (∀ k, k < 100 + h.1.length → ad1 k = adr k) ∧ (h'.1.length = h.1.length → ad1 = adr) ∧ va_P D acl (aW cA ad1 h') t.heap ∧ va_D A (aW cA ad1 h') ∧ aWf h') ∧ va_F A st t
/-- a method's contract: from the world h, with the arguments av, it answers r and leaves h'; d: how deep its calls go -/
def aM (l : Launch) (y : MethodName) (bytes : ByteArray) (maxL : Nat) (ret : Option FieldType) (d : Nat) (av : List Value) (h : aHp) (r : Option Value) (h' : aHp) : Prop :=
  h.1.length ≤ h'.1.length ∧ aSn h.1 ≤ aSn h'.1 ∧ ∀ (D : va_G) (cA : FieldType → ClassId) (adr : Nat → Nat) (sz : Nat), Met l y (.code y bytes maxL ret :: gtbl) { frames := d, cells := h'.1.length - h.1.length, slots := aSn h'.1 - aSn h.1, locals := 64 * d } (aPre D cA adr sz av h) (aPost D cA adr (va_A (aW cA adr h) sz) h r h') (h'.1.length - h.1.length) (aSn h'.1 - aSn h.1) (va_A (aW cA adr h) sz)
theorem aPre_blind {D : va_G} {cA : FieldType → ClassId} {adr : Nat → Nat} {sz : Nat} {av : List Value} {h : aHp} : FrameBlind (aPre D cA adr sz av h) := by
  intro a U g mk q
  obtain ⟨q0, q1, qP, qK, qD, qC, qW⟩ := q
  exact ⟨q0, q1, qP, va_K.moved (u := U) (U := U.calling g mk a) (Vm.Alike.refl U.vm) qK, qD, aC_same (U := U) (V := U.calling g mk a) rfl qC, qW⟩
theorem aM_of {l : Launch} {y : MethodName} {bytes : ByteArray} {maxL : Nat} {ret : Option FieldType} {d : Nat} {av : List Value} {h : aHp} {r : Option Value} {h' : aHp} (hy : plainName y.cls = true) (hl : (lg_sl av).length ≤ maxL) (hm1 : h.1.length ≤ h'.1.length) (hm2 : aSn h.1 ≤ aSn h'.1)
    (body : ∀ (p : Program) (e : Env) (s : State) (m : MethodId) (args : Array Value) (below : List Frame) (meth : Method) (c : Code) (D : va_G) (cA : FieldType → ClassId) (A : Nat → Prop) (ad0 : Nat → Nat), aX p s m args c y.cls bytes maxL D cA A ad0 → meth.sig.returnType = ret → meth.locks = false → meth.name = y.name →
      aJ p l e { frames := d, cells := h'.1.length - h.1.length, slots := aSn h'.1 - aSn h.1, locals := 64 * d } s m args below meth c (MQ below (aPost D cA ad0 A h r h') args s (h'.1.length - h.1.length) (aSn h'.1 - aSn h.1) A) D cA A ad0 maxL h.1.length (aSn h.1) 0 (aEnt av maxL) [] h) : aM l y bytes maxL ret d av h r h' := by
  refine ⟨hm1, hm2, fun D cA adr sz => ?_⟩
  refine Met.ofW (cc := bytes) (maxL := maxL) (ret := ret) hy rfl ?_
  intro p e s m args below meth c s₁ B hml hv
  obtain ⟨rfl, hsz, hP, hK, hD0, hC, hW⟩ := hv
  have hts := atoms_spec (ws := .code y bytes maxL ret :: gtbl) B.pre
  have hown : s.vm.findClass y.cls = some m.cls := findClass_of_methodNamed B.named
  subst hsz
  have hD := hD0.self (sz := s.heap.size)
  have hb := body p e s m (av.map (aV adr)).toArray below meth c D cA (va_A (aW cA adr h) s.heap.size) adr ⟨B.exec, B.bytes, hml, hown, fun w hw => hts w (List.mem_cons_of_mem _ hw), hK, fun q hq => Or.inr hq, hC⟩ B.returns B.notSynchronized (name_of_methodNamed B.named B.method).1
  rw [lg_entry_eq]
  exact hb adr s.heap _ [] 0 0 ⟨hP, hD, va_S.rf, hW, aEnt_has adr av hl, aEnt_len av hl, Nat.zero_add _, Nat.zero_add _, fun _ _ => rfl, fun _ => rfl⟩
section AM
variable {p : Program} {l : Launch} {e : Env} {R : Room} {s : State} {m : MethodId} {args : Array Value} {below : List Frame} {meth : Method} {c : Code} {Q : State → Prop} {D : va_G} {cA : FieldType → ClassId} {A : Nat → Prop} {ad0 : Nat → Nat} {nL c0 s0 : Nat}
variable {own : String} {cc : ByteArray} {pc : Nat} {L : List (Option Value)} {st : List Value} {h h0 h' : aHp}
theorem j_end {adr : Nat → Nat} {H : Heap} {ls : Array Slot} {locs : List Loc} {cells slots : Nat} (hR : aR s D cA A ad0 nL h0.1.length (aSn h0.1) L h adr H ls locs cells slots) (r : Option Value) (t : State) (ht : t.heap = H) : aPost D cA ad0 A h0 r h args s (.returned (r.map (aV adr))) t :=
  ⟨⟨adr, rfl, hR.2.2.2.2.2.2.2.2.1, fun e => hR.2.2.2.2.2.2.2.2.2 e, by rw [ht]; exact hR.1, hR.2.1, hR.2.2.2.1⟩, hR.2.2.1.F ht⟩
theorem j_ret (hX : aX p s m args c own cc nL D cA A ad0) {ty : FieldType} (hr : meth.sig.returnType = some ty) (hlk : meth.locks = false) {v : Int32} (hn : narrow ty (.int v) = .int v) (hd : decode cc pc = .ok (.ireturn, 1)) : aJ p l e R s m args below meth c (MQ below (aPost D cA ad0 A h0 (some (.int v)) h) args s (h.1.length - h0.1.length) (aSn h.1 - aSn h0.1) A) D cA A ad0 nL h0.1.length (aSn h0.1) pc L [.int v] h := by
  intro adr H ls locs cells slots hR
  have e1 : h.1.length - h0.1.length = cells := by have := hR.2.2.2.2.2.2.1; omega
  have e2 : aSn h.1 - aSn h0.1 = slots := by have := hR.2.2.2.2.2.2.2.1; omega
  rw [e1, e2]
  exact W.zret hX.1 hX.2.1 hr hn (fun t ht hW => j_end hR (some (.int v)) t ht) hR.2.2.1.2.2 hd hlk
theorem j_lret (hX : aX p s m args c own cc nL D cA A ad0) (hr : meth.sig.returnType = some .long) (hlk : meth.locks = false) {v : Int64} (hd : decode cc pc = .ok (.lreturn, 1)) : aJ p l e R s m args below meth c (MQ below (aPost D cA ad0 A h0 (some (.long v)) h) args s (h.1.length - h0.1.length) (aSn h.1 - aSn h0.1) A) D cA A ad0 nL h0.1.length (aSn h0.1) pc L [.long v] h := by
  intro adr H ls locs cells slots hR
  have e1 : h.1.length - h0.1.length = cells := by have := hR.2.2.2.2.2.2.1; omega
  have e2 : aSn h.1 - aSn h0.1 = slots := by have := hR.2.2.2.2.2.2.2.1; omega
  rw [e1, e2]
  exact W.lret hX.1 hX.2.1 hr (fun t ht hW => j_end hR (some (.long v)) t ht) hR.2.2.1.2.2 hd hlk
theorem j_vret (hX : aX p s m args c own cc nL D cA A ad0) (hr : meth.sig.returnType = none) (hlk : meth.locks = false) (hd : decode cc pc = .ok (.return_, 1)) : aJ p l e R s m args below meth c (MQ below (aPost D cA ad0 A h0 none h) args s (h.1.length - h0.1.length) (aSn h.1 - aSn h0.1) A) D cA A ad0 nL h0.1.length (aSn h0.1) pc L [] h := by
  intro adr H ls locs cells slots hR
  have e1 : h.1.length - h0.1.length = cells := by have := hR.2.2.2.2.2.2.1; omega
  have e2 : aSn h.1 - aSn h0.1 = slots := by have := hR.2.2.2.2.2.2.2.1; omega
  rw [e1, e2]
  exact W.vret hX.1 hX.2.1 hr (fun t ht hW => j_end hR none t ht) hR.2.2.1.2.2 hd hlk
theorem j_aret (hX : aX p s m args c own cc nL D cA A ad0) {C : String} (hr : meth.sig.returnType = some (.object C)) (hlk : meth.locks = false) {v : Value} (hv : v = .null ∨ ∃ a, v = .ref a) (hd : decode cc pc = .ok (.areturn, 1)) : aJ p l e R s m args below meth c (MQ below (aPost D cA ad0 A h0 (some v) h) args s (h.1.length - h0.1.length) (aSn h.1 - aSn h0.1) A) D cA A ad0 nL h0.1.length (aSn h0.1) pc L [v] h := by
  intro adr H ls locs cells slots hR
  have e1 : h.1.length - h0.1.length = cells := by have := hR.2.2.2.2.2.2.1; omega
  have e2 : aSn h.1 - aSn h0.1 = slots := by have := hR.2.2.2.2.2.2.2.1; omega
  rw [e1, e2]
  exact W.aret hX.1 hX.2.1 hr (Or.inl ⟨C, rfl⟩) (by rcases hv with rfl | ⟨a, rfl⟩; exact Or.inl rfl; exact Or.inr ⟨adr a, rfl⟩) (fun t ht hW => j_end hR (some v) t ht) hR.2.2.1.2.2 hd hlk
/-- what a callee may change lies in what the caller may -/
theorem j_sub {adr : Nat → Nat} {H : Heap} {ls : Array Slot} {locs : List Loc} {cells slots : Nat} (hX : aX p s m args c own cc nL D cA A ad0) (hR : aR s D cA A ad0 nL c0 s0 L h adr H ls locs cells slots) : ∀ q, va_A (aW cA adr h) H.size q → A q := by
  intro q hq
  rcases hq with ⟨k, e, hk⟩ | hq
  · exact hR.2.1.2 k _ hk
  · exact hX.2.2.2.2.2.2.1 q (Nat.le_trans hR.2.2.1.1 hq)
/-- a callee's start, where the caller stands -/
theorem j_pre {adr : Nat → Nat} {H : Heap} {ls : Array Slot} {locs : List Loc} {cells slots : Nat} (hX : aX p s m args c own cc nL D cA A ad0) (hR : aR s D cA A ad0 nL c0 s0 L h adr H ls locs cells slots) (av : List Value) (U : State) (hU : U.heap = H) (hW : s.WarmedH U.vm) : aPre D cA adr H.size av h (av.map (aV adr)).toArray U := by
  refine ⟨rfl, by rw [hU], by rw [hU]; exact hR.1, va_K.moved hW.alike hX.2.2.2.2.2.1, hR.2.1.weaken (fun _ _ _ _ => trivial), ?_, hR.2.2.2.1⟩
  rw [hU]
  exact aC_ad (aC_warm hW (aC_narrow (aC_kept hX.2.2.2.2.2.2.2 (fun a ha hn => hR.2.2.1.2.1 a ha hn)) (j_sub hX hR))) (fun k hk => hR.2.2.2.2.2.2.2.2.1 k (by omega))
/-- behind a call that makes nothing -/
theorem j_after {adr : Nat → Nat} {H : Heap} {ls : Array Slot} {locs : List Loc} {cells slots : Nat} {r : Option Value} {ar : Array Value} {st0 : List Value} (hX : aX p s m args c own cc nL D cA A ad0) (hR : aR s D cA A ad0 nL c0 s0 L h adr H ls locs cells slots) (hn : h'.1.length = h.1.length) (hn2 : aSn h'.1 = aSn h.1)
    (hr : va_Run p l e R s m args below meth c H locs cells slots (h'.1.length - h.1.length) (aSn h'.1 - aSn h.1) (F0 m pc ls st0) (st.map (aV adr)) (aPost D cA adr (va_A (aW cA adr h) H.size) h r h' ar) (va_A (aW cA adr h) H.size))
    (kk : aJ p l e R s m args below meth c Q D cA A ad0 nL c0 s0 (pc + 3) L (r.toList ++ st) h') : W p l e R s m args below meth c H locs cells slots Q (F0 m pc ls st0) := by
  intro T hT X
  obtain ⟨v, st₀, t, T', L', h0, X', hL, e1, e2, ⟨⟨ad1, hv, hag, heq, hP1, hD1, hW1⟩, hz, hk⟩, stp⟩ := hr T hT X
  cases hv
  have he := heq hn
  subst he
  have hsub := j_sub hX hR
  rw [h0] at hz hk
  rw [show cells + (h'.1.length - h.1.length) = cells by omega, show slots + (aSn h'.1 - aSn h.1) = slots by omega] at X'
  obtain ⟨t2, a1, b1⟩ := kk ad1 T'.heap ls (locs ++ L') cells slots ⟨by rw [e1]; exact hP1, hD1.weaken (fun k q _ hq => hsub _ hq), ⟨Nat.le_trans hR.2.2.1.1 (by rw [e1]; exact hz), fun q h1 h2 => by rw [e1, hk q (Nat.lt_of_lt_of_le h1 hR.2.2.1.1) (fun z => h2 (hsub q z))]; exact hR.2.2.1.2.1 q h1 h2, fun q hq => by
      rcases List.mem_append.mp hq with h | h
      · exact hR.2.2.1.2.2 q h
      · exact hsub _ (hL q h)⟩, hW1, hR.2.2.2.2.1, hR.2.2.2.2.2.1, by rw [hn]; exact hR.2.2.2.2.2.2.1, by rw [hn2]; exact hR.2.2.2.2.2.2.2.1, hR.2.2.2.2.2.2.2.2.1, fun e => hR.2.2.2.2.2.2.2.2.2 (by rw [← hn]; exact e)⟩ T' rfl X'
  refine ⟨t2, stp t2 ?_, b1⟩
  have : (Option.map (aV ad1) r).toList ++ st.map (aV ad1) = (r.toList ++ st).map (aV ad1) := by cases r <;> simp
  rw [this]
  exact a1
/-- references below n -/
def aBel (n : Nat) (v : Value) : Bool := match v with
  | .ref k => decide (k < n)
  | _ => true
theorem aV_bel {n : Nat} {ad ad1 : Nat → Nat} (hag : ∀ k, k < n → ad1 k = ad k) {v : Value} (hv : aBel n v = true) : aV ad1 v = aV ad v := by
  cases v with
  | ref k => exact congrArg Value.ref (hag k (by simpa [aBel] using hv))
  | _ => rfl
theorem aLs_bel {n : Nat} {ad ad1 : Nat → Nat} (hag : ∀ k, k < n → ad1 k = ad k) : ∀ (L : List (Option Value)) (i : Nat), (L.all (fun o => match o with | some v => aBel n v | none => true)) = true → aLs ad1 i L = aLs ad i L := by
  intro L
  induction L with
  | nil => intro i _; rfl
  | cons x L ih =>
    intro i hL
    simp only [List.all_cons, Bool.and_eq_true] at hL
    cases x with
    | none => exact ih (i + 1) hL.2
    | some v => simp only [aLs]; rw [ih (i + 1) hL.2, aV_bel hag hL.1]
/-- behind a call that makes something -/
theorem j_afterN {adr : Nat → Nat} {H : Heap} {ls : Array Slot} {locs : List Loc} {cells slots : Nat} {r : Option Value} {ar : Array Value} {st0 : List Value} (hX : aX p s m args c own cc nL D cA A ad0) (hR : aR s D cA A ad0 nL c0 s0 L h adr H ls locs cells slots) (hm1 : h.1.length ≤ h'.1.length) (hm2 : aSn h.1 ≤ aSn h'.1)
    (hoS : st.all (aBel (100 + h.1.length)) = true) (hoL : (L.all (fun o => match o with | some v => aBel (100 + h.1.length) v | none => true)) = true)
    (hr : va_Run p l e R s m args below meth c H locs cells slots (h'.1.length - h.1.length) (aSn h'.1 - aSn h.1) (F0 m pc ls st0) (st.map (aV adr)) (aPost D cA adr (va_A (aW cA adr h) H.size) h r h' ar) (va_A (aW cA adr h) H.size))
    (kk : aJ p l e R s m args below meth c Q D cA A ad0 nL c0 s0 (pc + 3) L (r.toList ++ st) h') : W p l e R s m args below meth c H locs cells slots Q (F0 m pc ls st0) := by
  intro T hT X
  obtain ⟨v, st₀, t, T', L', h0, X', hL, e1, e2, ⟨⟨ad1, hv, hag, heq, hP1, hD1, hW1⟩, hz, hk⟩, stp⟩ := hr T hT X
  cases hv
  have hsub := j_sub hX hR
  have hc1 := hR.2.2.2.2.2.2.1
  have hc2 := hR.2.2.2.2.2.2.2.1
  rw [h0] at hz hk
  obtain ⟨t2, a1, b1⟩ := kk ad1 T'.heap ls (locs ++ L') _ _ ⟨by rw [e1]; exact hP1, hD1.weaken (fun k q _ hq => hsub _ hq), ⟨Nat.le_trans hR.2.2.1.1 (by rw [e1]; exact hz), fun q h1 h2 => by rw [e1, hk q (Nat.lt_of_lt_of_le h1 hR.2.2.1.1) (fun z => h2 (hsub q z))]; exact hR.2.2.1.2.1 q h1 h2, fun q hq => by
      rcases List.mem_append.mp hq with h | h
      · exact hR.2.2.1.2.2 q h
      · exact hsub _ (hL q h)⟩, hW1, by rw [aLs_bel hag L 0 hoL]; exact hR.2.2.2.2.1, hR.2.2.2.2.2.1, by omega, by omega, fun k hk => (hag k (by omega)).trans (hR.2.2.2.2.2.2.2.2.1 k hk), fun e => (heq (by omega)).trans (hR.2.2.2.2.2.2.2.2.2 (by omega))⟩ T' rfl X'
  refine ⟨t2, stp t2 ?_, b1⟩
  have : (Option.map (aV ad1) r).toList ++ st.map (aV adr) = (r.toList ++ st).map (aV ad1) := by
    have e3 : st.map (aV adr) = st.map (aV ad1) := List.map_congr_left (fun v hv => (aV_bel hag (List.all_eq_true.mp hoS v hv)).symm)
    rw [e3]
    cases r <;> simp
  rw [this]
  exact a1
/-- the words of a call -/
def aLd (y : MethodName) (n : Nat) : Prop := y.cls ≠ "java/lang/invoke/MethodHandle" ∧ y.cls ≠ "java/lang/invoke/VarHandle" ∧ (parseMethodDescriptor y.desc).map (fun d => d.parameters.length) = some n
def aLV (own : String) (i : Nat) (y : MethodName) (bytes : ByteArray) (maxL : Nat) (ret : Option FieldType) (n : Nat) : Prop := Cond.methodLink own i y ∈ gtbl ∧ Cond.instanceMethod y ∈ gtbl ∧ Cond.selects y.cls y y ∈ gtbl ∧ Cond.initialized y.cls ∈ gtbl ∧ Cond.code y bytes maxL ret ∈ gtbl ∧ aLd y n
def aLS (own : String) (i : Nat) (y : MethodName) (bytes : ByteArray) (maxL : Nat) (ret : Option FieldType) (n : Nat) : Prop := Cond.methodLink own i y ∈ gtbl ∧ Cond.static y ∈ gtbl ∧ Cond.initialized y.cls ∈ gtbl ∧ Cond.code y bytes maxL ret ∈ gtbl ∧ aLd y n
theorem gIn {y : MethodName} {bytes : ByteArray} {maxL : Nat} {ret : Option FieldType} (h : Cond.code y bytes maxL ret ∈ gtbl) (pre : List Cond) (hp : ∀ w ∈ pre, w ∈ gtbl) : GoodIn gtbl (pre ++ (Cond.code y bytes maxL ret :: gtbl)) := by
  intro w hw
  have hg : w ∈ gtbl := by
    rcases List.mem_append.mp hw with h1 | h1
    · exact hp w h1
    · rcases List.mem_cons.mp h1 with h2 | h2
      · rw [h2]; exact h
      · exact h2
  exact ⟨hg, gg w hg⟩
theorem aRm {cells slots : Nat} {adr : Nat → Nat} {H : Heap} {ls : Array Slot} {locs : List Loc} (hR : aR s D cA A ad0 nL c0 s0 L h adr H ls locs cells slots) (hm1 : h.1.length ≤ h'.1.length) (hm2 : aSn h.1 ≤ aSn h'.1) (hr1 : h'.1.length ≤ c0 + R.cells) (hr2 : aSn h'.1 ≤ s0 + R.slots) : cells + (h'.1.length - h.1.length) ≤ R.cells ∧ slots + (aSn h'.1 - aSn h.1) ≤ R.slots := by
  have h1 := hR.2.2.2.2.2.2.1
  have h2 := hR.2.2.2.2.2.2.2.1
  constructor <;> omega
theorem aStk (adr : Nat → Nat) (as st : List Value) (v : Value) : (as.reverse ++ v :: st).map (aV adr) = (as.map (aV adr)).reverse ++ aV adr v :: st.map (aV adr) := by simp
theorem aStk0 (adr : Nat → Nat) (as st : List Value) : (as.reverse ++ st).map (aV adr) = (as.map (aV adr)).reverse ++ st.map (aV adr) := by simp
/-- a call of an instance method, as a run -/
theorem j_runV {adr : Nat → Nat} {H : Heap} {ls : Array Slot} {locs : List Loc} {cells slots : Nat} {y : MethodName} {bytes : ByteArray} {maxL n d i q ci N : Nat} {ret : Option FieldType} {as : List Value} {r : Option Value} {T : u_T} (hX : aX p s m args c own cc nL D cA A ad0) (hR : aR s D cA A ad0 nL c0 s0 L h adr H ls locs cells slots)
    (hw : aLV own i y bytes maxL ret n) (hM : aM l y bytes maxL ret d (.ref (100 + q) :: as) h r h') (hs : h.1[q]? = some (.inr ci)) (hc : aCl ci y.cls T N) (ha : as.length = n) (hf : d + 1 ≤ R.frames ∧ 8 + (maxL + 11) + 64 * d ≤ R.locals) (hk : (st.map fun v => v.category).sum ≤ 8) (hr1 : h'.1.length ≤ c0 + R.cells) (hr2 : aSn h'.1 ≤ s0 + R.slots) (hd : decode cc pc = .ok (.invokevirtual i, 3)) :
    va_Run p l e R s m args below meth c H locs cells slots (h'.1.length - h.1.length) (aSn h'.1 - aSn h.1) (F0 m pc ls ((as.reverse ++ .ref (100 + q) :: st).map (aV adr))) (st.map (aV adr)) (aPost D cA adr (va_A (aW cA adr h) H.size) h r h' (Value.ref (adr (100 + q)) :: as.map (aV adr)).toArray) (va_A (aW cA adr h) H.size) := by
  rw [aStk]
  refine va_runV (As := as.map (aV adr)) (rest := st.map (aV adr)) (C := y.cls) ⟨hX.1, hX.2.1, hX.2.2.1, hX.2.2.2.1, hX.2.2.2.2.1⟩ (hM.2.2 D cA adr H.size) (cwV n hX.2.2.2.2.1 (gIn hw.2.2.2.2.1 [.methodLink own i y, .instanceMethod y, .selects y.cls y y, .initialized y.cls] ?_) rfl rfl rfl ⟨rfl, hw.2.2.2.2.2⟩ hf) ⟨aPre_blind, va_recv hX.2.2.2.2.2.1 hR.1 hc.1 (aW_at hs), fun U hU hW => j_pre hX hR (.ref (100 + q) :: as) U hU hW⟩ rfl (by simpa using ha) hR.2.2.2.2.1.1 rfl (lv_room (by rw [aV_sum]; exact hk)) hd (aRm hR hM.1 hM.2.1 hr1 hr2)
  intro w hw1
  simp only [List.mem_cons, List.not_mem_nil, or_false] at hw1
  rcases hw1 with rfl | rfl | rfl | rfl
  · exact hw.1
  · exact hw.2.1
  · exact hw.2.2.1
  · exact hw.2.2.2.1
theorem j_callV (hX : aX p s m args c own cc nL D cA A ad0) {y : MethodName} {bytes : ByteArray} {maxL n d i q ci N : Nat} {ret : Option FieldType} {as : List Value} {r : Option Value} {T : u_T} (hw : aLV own i y bytes maxL ret n) (hc : aCl ci y.cls T N) (hd : decode cc pc = .ok (.invokevirtual i, 3)) (hs : h.1[q]? = some (.inr ci)) (hM : aM l y bytes maxL ret d (.ref (100 + q) :: as) h r h') (hn : h'.1.length = h.1.length) (hn2 : aSn h'.1 = aSn h.1) (ha : as.length = n) (hf : d + 1 ≤ R.frames ∧ 8 + (maxL + 11) + 64 * d ≤ R.locals) (hk : (st.map fun v => v.category).sum ≤ 8) (hr1 : h.1.length ≤ c0 + R.cells) (hr2 : aSn h.1 ≤ s0 + R.slots)
    (kk : aJ p l e R s m args below meth c Q D cA A ad0 nL c0 s0 (pc + 3) L (r.toList ++ st) h') : aJ p l e R s m args below meth c Q D cA A ad0 nL c0 s0 pc L (as.reverse ++ .ref (100 + q) :: st) h :=
  fun adr H ls locs cells slots hR => j_after hX hR hn hn2 (j_runV hX hR hw hM hs hc ha hf hk (by rw [hn]; exact hr1) (by rw [hn2]; exact hr2) hd) kk
theorem j_callVN (hX : aX p s m args c own cc nL D cA A ad0) {y : MethodName} {bytes : ByteArray} {maxL n d i q ci N : Nat} {ret : Option FieldType} {as : List Value} {r : Option Value} {T : u_T} (hw : aLV own i y bytes maxL ret n) (hc : aCl ci y.cls T N) (hd : decode cc pc = .ok (.invokevirtual i, 3)) (hs : h.1[q]? = some (.inr ci)) (hM : aM l y bytes maxL ret d (.ref (100 + q) :: as) h r h') (ha : as.length = n) (hf : d + 1 ≤ R.frames ∧ 8 + (maxL + 11) + 64 * d ≤ R.locals) (hk : (st.map fun v => v.category).sum ≤ 8) (hr1 : h'.1.length ≤ c0 + R.cells) (hr2 : aSn h'.1 ≤ s0 + R.slots)
    (hoS : st.all (aBel (100 + h.1.length)) = true) (hoL : (L.all (fun o => match o with | some v => aBel (100 + h.1.length) v | none => true)) = true)
    (kk : aJ p l e R s m args below meth c Q D cA A ad0 nL c0 s0 (pc + 3) L (r.toList ++ st) h') : aJ p l e R s m args below meth c Q D cA A ad0 nL c0 s0 pc L (as.reverse ++ .ref (100 + q) :: st) h :=
  fun adr H ls locs cells slots hR => j_afterN hX hR hM.1 hM.2.1 hoS hoL (j_runV hX hR hw hM hs hc ha hf hk hr1 hr2 hd) kk
theorem j_runS {adr : Nat → Nat} {H : Heap} {ls : Array Slot} {locs : List Loc} {cells slots : Nat} {y : MethodName} {bytes : ByteArray} {maxL n d i : Nat} {ret : Option FieldType} {as : List Value} {r : Option Value} (hX : aX p s m args c own cc nL D cA A ad0) (hR : aR s D cA A ad0 nL c0 s0 L h adr H ls locs cells slots)
    (hw : aLS own i y bytes maxL ret n) (hM : aM l y bytes maxL ret d as h r h') (ha : as.length = n) (hf : d + 1 ≤ R.frames ∧ 8 + (maxL + 11) + 64 * d ≤ R.locals) (hk : (st.map fun v => v.category).sum ≤ 8) (hr1 : h'.1.length ≤ c0 + R.cells) (hr2 : aSn h'.1 ≤ s0 + R.slots) (hd : decode cc pc = .ok (.invokestatic i, 3)) :
    va_Run p l e R s m args below meth c H locs cells slots (h'.1.length - h.1.length) (aSn h'.1 - aSn h.1) (F0 m pc ls ((as.reverse ++ st).map (aV adr))) (st.map (aV adr)) (aPost D cA adr (va_A (aW cA adr h) H.size) h r h' (as.map (aV adr)).toArray) (va_A (aW cA adr h) H.size) := by
  rw [aStk0]
  refine va_runS (As := as.map (aV adr)) (rest := st.map (aV adr)) ⟨hX.1, hX.2.1, hX.2.2.1, hX.2.2.2.1, hX.2.2.2.2.1⟩ (hM.2.2 D cA adr H.size) (va_cwS n hX.2.2.2.2.1 (gIn hw.2.2.2.1 [.methodLink own i y, .static y, .initialized y.cls] ?_) rfl rfl rfl hw.2.2.2.2 hf) ⟨aPre_blind, fun U hU hW => j_pre hX hR as U hU hW⟩ rfl (by simpa using ha) hR.2.2.2.2.1.1 rfl (lv_room (by rw [aV_sum]; exact hk)) hd (aRm hR hM.1 hM.2.1 hr1 hr2)
  intro w hw1
  simp only [List.mem_cons, List.not_mem_nil, or_false] at hw1
  rcases hw1 with rfl | rfl | rfl
  · exact hw.1
  · exact hw.2.1
  · exact hw.2.2.1
theorem j_callS (hX : aX p s m args c own cc nL D cA A ad0) {y : MethodName} {bytes : ByteArray} {maxL n d i : Nat} {ret : Option FieldType} {as : List Value} {r : Option Value} (hw : aLS own i y bytes maxL ret n) (hd : decode cc pc = .ok (.invokestatic i, 3)) (hM : aM l y bytes maxL ret d as h r h') (hn : h'.1.length = h.1.length) (hn2 : aSn h'.1 = aSn h.1) (ha : as.length = n) (hf : d + 1 ≤ R.frames ∧ 8 + (maxL + 11) + 64 * d ≤ R.locals) (hk : (st.map fun v => v.category).sum ≤ 8) (hr1 : h.1.length ≤ c0 + R.cells) (hr2 : aSn h.1 ≤ s0 + R.slots)
    (kk : aJ p l e R s m args below meth c Q D cA A ad0 nL c0 s0 (pc + 3) L (r.toList ++ st) h') : aJ p l e R s m args below meth c Q D cA A ad0 nL c0 s0 pc L (as.reverse ++ st) h :=
  fun adr H ls locs cells slots hR => j_after hX hR hn hn2 (j_runS hX hR hw hM ha hf hk (by rw [hn]; exact hr1) (by rw [hn2]; exact hr2) hd) kk
end AM
