/-! what is made: objects and arrays; constructors; Math -/
def z2 {α : Type} (z : α) (f : Nat → Nat → α) (n : Nat) : Nat → Nat → α := fun q => if q = n then (fun _ => z) else f q
theorem z2_row {α : Type} (z : α) (f : Nat → Nat → α) {n q : Nat} (h : q ≠ n) : z2 z f n q = f q := by simp [z2, h]
theorem z2_at {α : Type} (z : α) (f : Nat → Nat → α) (n : Nat) : z2 z f n n = fun _ => z := by simp [z2]
/-- the world with one cell more -/
def aNew (h : aHp) (x : aSh) : aHp := (h.1 ++ [x], z2 0 h.2.1 h.1.length, z2 0 h.2.2.1 h.1.length, z2 none h.2.2.2 h.1.length)
def aZf (ty : FieldType) : Value := match ty with
  | .long => .long 0
  | .object _ => .null
  | .array _ => .null
  | _ => .int 0
def aZa (ty : FieldType) : (Nat → Int32) ⊕ (Nat → Int64) ⊕ (Nat → UInt32) ⊕ (Nat → UInt64) ⊕ (Nat → Option Nat) := match ty with
  | .long => .inr (.inl (fun _ => 0))
  | .object _ => .inr (.inr (.inr (.inr (fun _ => none))))
  | _ => .inl (fun _ => 0)
def aCz (cA : FieldType → ClassId) (x : aSh) : va_E := match x with
  | .inl q => .inl (cA q.1, q.2, aZa q.1)
  | .inr ci => .inr (ci, (List.range (aN ci)).map (fun k => aZf (aty ci k)))
theorem aNew_wf {h : aHp} {x : aSh} (hw : aWf h) : aWf (aNew h x) := by
  intro p k a ha
  have ha : z2 none h.2.2.2 h.1.length p k = some a := ha
  show a < 100 + (h.1 ++ [x]).length
  rw [List.length_append]
  unfold z2 at ha
  split at ha
  · cases ha
  · have := hw p k a ha
    simp
    omega
theorem aNew_W {cA : FieldType → ClassId} {adr : Nat → Nat} {h : aHp} {x : aSh} {a : Nat} (hw : aWf h) : aW cA (va_up adr (100 + h.1.length) a) (aNew h x) = aW cA adr h ++ [(a, aCz cA x)] := by
  apply List.ext_getElem?
  intro k
  have hlen : (aNew h x).1.length = h.1.length + 1 := by simp [aNew]
  by_cases hk : k < h.1.length
  · have hk' : h.1[k]? = some h.1[k] := List.getElem?_eq_getElem hk
    have hk2 : (aNew h x).1[k]? = some h.1[k] := by
      show (h.1 ++ [x])[k]? = _
      rw [List.getElem?_append_left hk]; exact hk'
    rw [aW_at hk2, List.getElem?_append_left (by rw [aW_len]; exact hk), aW_at hk', va_up_ne _ _ (by omega)]
    congr 2
    have hne : k ≠ h.1.length := by omega
    have e3 : ∀ j, (z2 none h.2.2.2 h.1.length k j).map (va_up adr (100 + h.1.length) a) = (h.2.2.2 k j).map adr := by
      intro j
      rw [z2_row _ _ hne]
      cases hr : h.2.2.2 k j with
      | none => rfl
      | some b =>
        have := hw k j b hr
        simp only [Option.map_some]
        rw [va_up_ne _ _ (by omega)]
    cases hx : h.1[k] with
    | inl q =>
      simp only [aCe, aAr, aNew, z2_row _ _ hne]
      cases q.1 <;> simp only
      congr 7
      funext j
      have := e3 j
      rw [z2_row _ _ hne] at this
      exact this
    | inr ci =>
      simp only [aCe]
      congr 2
      refine List.map_congr_left (fun j _ => ?_)
      simp only [aNew]
      cases aty ci j <;> simp only [aFv, z2_row _ _ hne]
      · have := e3 j
        rw [z2_row _ _ hne] at this
        rw [this]
      · have := e3 j
        rw [z2_row _ _ hne] at this
        rw [this]
  · by_cases he : k = h.1.length
    · subst he
      have hk2 : (aNew h x).1[h.1.length]? = some x := by
        show (h.1 ++ [x])[h.1.length]? = _
        simp
      rw [aW_at hk2, List.getElem?_append_right (by rw [aW_len]; omega), aW_len]
      simp only [Nat.sub_self, List.getElem?_cons_zero, va_up_self]
      congr 2
      cases x with
      | inl q =>
        simp only [aCe, aCz, aNew]
        cases q.1 <;> simp only [aAr, aZa, z2_at] <;> rfl
      | inr ci =>
        simp only [aCe, aCz]
        congr 2
        refine List.map_congr_left (fun j _ => ?_)
        simp only [aNew]
        cases aty ci j <;> simp only [aFv, z2_at, aZf] <;> rfl
    · rw [aW_no (h := aNew h x) (by rw [hlen]; omega), List.getElem?_eq_none]
      rw [List.length_append, aW_len]
      simp
      omega
theorem va_RA_one {U : State} {a b : ClassId} {ty : FieldType} (h1 : va_RA U a ty) (h2 : va_RA U b ty) : a = b := by
  cases ty with
  | object C =>
    obtain ⟨_, _, _, _, _, e1⟩ := h1
    obtain ⟨_, _, _, _, _, e2⟩ := h2
    exact Option.some.inj (e1.symm.trans e2)
  | _ => exact Option.some.inj (Eq.trans (Eq.symm h1) h2)
theorem aSn_one (s : List aSh) (x : aSh) : aSn (s ++ [x]) = aSn s + aSz x := by rw [aSn_app]; simp [aSn]
section AN
variable {p : Program} {l : Launch} {e : Env} {R : Room} {s : State} {m : MethodId} {args : Array Value} {below : List Frame} {meth : Method} {c : Code} {Q : State → Prop} {D : va_G} {cA : FieldType → ClassId} {A : Nat → Prop} {ad0 : Nat → Nat} {nL c0 s0 : Nat}
variable {own : String} {cc : ByteArray} {pc : Nat} {L : List (Option Value)} {st : List Value} {h h' : aHp}
/-- where one cell more has been made -/
theorem j_made {adr : Nat → Nat} {H H1 : Heap} {ls : Array Slot} {locs : List Loc} {cells slots a : Nat} {x : aSh} (hR : aR s D cA A ad0 nL c0 s0 L h adr H ls locs cells slots) (hoS : st.all (aBel (100 + h.1.length)) = true) (hoL : (L.all (fun o => match o with | some v => aBel (100 + h.1.length) v | none => true)) = true)
    (hP1 : va_P D acl (aW cA adr h ++ [(a, aCz cA x)]) H1) (hD1 : va_D A (aW cA adr h ++ [(a, aCz cA x)])) (hS1 : va_S A s.heap H1 locs) (kk : aJ p l e R s m args below meth c Q D cA A ad0 nL c0 s0 pc L (.ref (100 + h.1.length) :: st) (aNew h x)) :
    W p l e R s m args below meth c H1 locs (cells + 1) (slots + aSz x) Q (F0 m pc ls (.ref a :: st.map (aV adr))) := by
  have hag : ∀ k, k < 100 + h.1.length → va_up adr (100 + h.1.length) a k = adr k := fun k hk => va_up_ne _ _ (by omega)
  have hc1 := hR.2.2.2.2.2.2.1
  have hc2 := hR.2.2.2.2.2.2.2.1
  have h9 := kk (va_up adr (100 + h.1.length) a) H1 ls locs (cells + 1) (slots + aSz x) ⟨by rw [aNew_W hR.2.2.2.1]; exact hP1, by rw [aNew_W hR.2.2.2.1]; exact hD1, hS1, aNew_wf hR.2.2.2.1, by rw [aLs_bel hag L 0 hoL]; exact hR.2.2.2.2.1, hR.2.2.2.2.2.1, by simp [aNew]; omega, by show slots + aSz x + s0 = aSn (h.1 ++ [x]); rw [aSn_one]; omega, fun k hk => (hag k (by omega)).trans (hR.2.2.2.2.2.2.2.2.1 k hk), fun e => by simp [aNew] at e; omega⟩
  rw [List.map_cons, show aV (va_up adr (100 + h.1.length) a) (.ref (100 + h.1.length)) = .ref a from congrArg Value.ref (va_up_self _ _ _), show st.map (aV (va_up adr (100 + h.1.length) a)) = st.map (aV adr) from List.map_congr_left (fun v hv => aV_bel hag (List.all_eq_true.mp hoS v hv))] at h9
  exact h9
theorem j_newa (hX : aX p s m args c own cc nL D cA A ad0) {atype : ArrayType} {ty : FieldType} {t0 n : Nat} {x : Int32} (hd : decode cc pc = .ok (.newarray atype, 2)) (hty : newarray.typeOf atype = ty) (ht : ∀ cA, (aTys cA)[t0]? = some (cA ty, ty)) (hw : Cond.arrayClass ty ∈ gtbl) (hz : ∀ cA : ClassId, vp_cell cA (n, aZa ty) = arrV cA n (fun _ => defaultValue ty)) (hx : ¬ x < 0) (hn : x.toNatClampNeg = n) (hb : n * componentBytes ty ≤ 536870912)
    (hoS : st.all (aBel (100 + h.1.length)) = true) (hoL : (L.all (fun o => match o with | some v => aBel (100 + h.1.length) v | none => true)) = true) (hr1 : h.1.length + 1 ≤ c0 + R.cells) (hr2 : aSn h.1 + n ≤ s0 + R.slots)
    (kk : aJ p l e R s m args below meth c Q D cA A ad0 nL c0 s0 (pc + 2) L (.ref (100 + h.1.length) :: st) (aNew h (.inl (ty, n)))) : aJ p l e R s m args below meth c Q D cA A ad0 nL c0 s0 pc L (.int x :: st) h := by
  intro adr H ls locs cells slots hR
  have hc1 := hR.2.2.2.2.2.2.1
  have hc2 := hR.2.2.2.2.2.2.2.1
  refine va_newa hX.1 hX.2.1 (by rw [hty]; exact hX.2.2.2.2.1 _ hw) hty hX.2.2.2.2.2.1 hR.1 hR.2.1 hR.2.2.1 hX.2.2.2.2.2.2.1 hz hx hn hb (by omega) (by omega) hd (fun q cA1 H1 hK1 hP1 hD1 hS1 => ?_)
  have e1 : cA1 = cA ty := va_RA_one (hK1.2 (aTys cA).length (cA1, ty) (by simp)).2 (hX.2.2.2.2.2.1.2 t0 _ (ht cA)).2
  subst e1
  exact j_made (x := .inl (ty, n)) hR hoS hoL hP1 hD1 hS1 kk
theorem j_newq (hX : aX p s m args c own cc nL D cA A ad0) {C : String} {t0 n i : Nat} {x : Int32} (hd : decode cc pc = .ok (.anewarray i, 3)) (ht : ∀ cA, (aTys cA)[t0]? = some (cA (.object C), .object C)) (hw : Cond.classLink own i C ∈ gtbl) (ho : Cond.arrayOver (.object C) ∈ gtbl) (hx : ¬ x < 0) (hn : x.toNatClampNeg = n) (hb : n * 4 ≤ 536870912)
    (hoS : st.all (aBel (100 + h.1.length)) = true) (hoL : (L.all (fun o => match o with | some v => aBel (100 + h.1.length) v | none => true)) = true) (hr1 : h.1.length + 1 ≤ c0 + R.cells) (hr2 : aSn h.1 + n ≤ s0 + R.slots)
    (kk : aJ p l e R s m args below meth c Q D cA A ad0 nL c0 s0 (pc + 3) L (.ref (100 + h.1.length) :: st) (aNew h (.inl (.object C, n)))) : aJ p l e R s m args below meth c Q D cA A ad0 nL c0 s0 pc L (.int x :: st) h := by
  intro adr H ls locs cells slots hR
  have hc1 := hR.2.2.2.2.2.2.1
  have hc2 := hR.2.2.2.2.2.2.2.1
  refine va_newq hX.1 hX.2.1 hX.2.2.2.1 (hX.2.2.2.2.1 _ hw) (va_AO.of (hX.2.2.2.2.1 _ ho)) hX.2.2.2.2.2.1 hR.1 hR.2.1 hR.2.2.1 hX.2.2.2.2.2.2.1 hx hn hb (by omega) (by omega) hd (fun q cA1 H1 hK1 hP1 hD1 hS1 => ?_)
  have e1 : cA1 = cA (.object C) := va_RA_one (hK1.2 (aTys cA).length (cA1, .object C) (by simp)).2 (hX.2.2.2.2.2.1.2 t0 _ (ht cA)).2
  subst e1
  exact j_made (x := .inl (.object C, n)) hR hoS hoL hP1 hD1 hS1 kk
theorem aZf_dv {ty : FieldType} (hk : ty ≠ .float ∧ ty ≠ .double) : defaultValue ty = aZf ty := by
  cases ty <;> first | rfl | (exact absurd rfl hk.1) | (exact absurd rfl hk.2)
theorem j_new (hX : aX p s m args c own cc nL D cA A ad0) {C : String} {T : u_T} {N ci i : Nat} (hc : aCl ci C T N) (hd : decode cc pc = .ok (.new i, 3)) (hw : Cond.classLink own i C ∈ gtbl) (hi : Cond.instantiable C N ∈ gtbl) (hini : Cond.initialized C ∈ gtbl) (hnf : ∀ k, k < N → aty ci k ≠ .float ∧ aty ci k ≠ .double)
    (hoS : st.all (aBel (100 + h.1.length)) = true) (hoL : (L.all (fun o => match o with | some v => aBel (100 + h.1.length) v | none => true)) = true) (hr1 : h.1.length + 1 ≤ c0 + R.cells) (hr2 : aSn h.1 + N ≤ s0 + R.slots)
    (kk : aJ p l e R s m args below meth c Q D cA A ad0 nL c0 s0 (pc + 3) L (.ref (100 + h.1.length) :: st) (aNew h (.inr ci))) : aJ p l e R s m args below meth c Q D cA A ad0 nL c0 s0 pc L st h := by
  intro adr H ls locs cells slots hR
  have hc1 := hR.2.2.2.2.2.2.1
  have hc2 := hR.2.2.2.2.2.2.2.1
  have hN := aCl_N hc
  refine va_new (T := T) (N := N) (ci := ci) (fs := (List.range (aN ci)).map (fun k => aZf (aty ci k))) hX.1 hX.2.1 hX.2.2.2.2.1 hc.2.1 (aty ci) hc.2.2.1 hX.2.2.2.1 (hX.2.2.2.2.1 _ hw) (hX.2.2.2.2.1 _ hi) (hX.2.2.2.2.1 _ hini) hX.2.2.2.2.2.1 hR.1 hR.2.1 hR.2.2.1 hX.2.2.2.2.2.2.1 hc.1 (fun j hj => ?_) (by omega) (by omega) hd (fun q H1 hP1 hD1 hS1 => ?_)
  · rw [aZf_dv (hnf j hj)]
    simp [vp_V, hN, hj]
  · have h9 := j_made (x := .inr ci) hR hoS hoL hP1 hD1 hS1 kk
    rw [show aSz (.inr ci) = N from hN] at h9
    exact h9
/-- a constructor of its own class, or of one that it may see -/
def aLI (own : String) (i : Nat) (y : MethodName) (bytes : ByteArray) (maxL : Nat) (n : Nat) : Prop := Cond.methodLink own i y ∈ gtbl ∧ Cond.instanceMethod y ∈ gtbl ∧ Cond.initialized y.cls ∈ gtbl ∧ Cond.code y bytes maxL none ∈ gtbl ∧ aLd y n ∧ y.name = "<init>"
theorem j_callI (hX : aX p s m args c own cc nL D cA A ad0) {y : MethodName} {bytes : ByteArray} {maxL n d i q : Nat} {as : List Value} (hw : aLI own i y bytes maxL n) (hd : decode cc pc = .ok (.invokespecial i, 3)) (hM : aM l y bytes maxL none d (.ref (100 + q) :: as) h none h') (ha : as.length = n) (hf : d + 1 ≤ R.frames ∧ 8 + (maxL + 11) + 64 * d ≤ R.locals) (hk : (st.map fun v => v.category).sum ≤ 8) (hr1 : h'.1.length ≤ c0 + R.cells) (hr2 : aSn h'.1 ≤ s0 + R.slots)
    (hoS : st.all (aBel (100 + h.1.length)) = true) (hoL : (L.all (fun o => match o with | some v => aBel (100 + h.1.length) v | none => true)) = true)
    (kk : aJ p l e R s m args below meth c Q D cA A ad0 nL c0 s0 (pc + 3) L st h') : aJ p l e R s m args below meth c Q D cA A ad0 nL c0 s0 pc L (as.reverse ++ .ref (100 + q) :: st) h := by
  intro adr H ls locs cells slots hR
  refine j_afterN (r := none) (ar := (Value.ref (adr (100 + q)) :: as.map (aV adr)).toArray) hX hR hM.1 hM.2.1 hoS hoL ?_ kk
  rw [aStk]
  exact va_runI (As := as.map (aV adr)) (rest := st.map (aV adr)) ⟨hX.1, hX.2.1, hX.2.2.1, hX.2.2.2.1, hX.2.2.2.2.1⟩ (hM.2.2 D cA adr H.size) (cwI n hX.2.2.2.2.1 (gIn hw.2.2.2.1 [] (fun w hw => absurd hw List.not_mem_nil)) rfl rfl rfl (hX.2.2.2.2.1 _ hw.2.2.1) (hX.2.2.2.2.1 _ hw.1) (hX.2.2.2.2.1 _ hw.2.1) hw.2.2.2.2.2 hw.2.2.2.2.1 hf) ⟨aPre_blind, fun U hU hW => j_pre hX hR (.ref (100 + q) :: as) U hU hW⟩ rfl (by simpa using ha) hR.2.2.2.2.1.1 rfl (lv_room (by rw [aV_sum]; exact hk)) hd (aRm hR hM.1 hM.2.1 hr1 hr2)
def aLN (own : String) (i : Nat) (y : MethodName) (bytes : ByteArray) (maxL : Nat) (n : Nat) : Prop := Cond.methodLinkNest own i y RX11 ∈ aNst ∧ Cond.instanceMethod y ∈ gtbl ∧ Cond.initialized y.cls ∈ gtbl ∧ Cond.code y bytes maxL none ∈ gtbl ∧ aLd y n ∧ y.name = "<init>"
theorem j_callIN (hX : aX p s m args c own cc nL D cA A ad0) {y : MethodName} {bytes : ByteArray} {maxL n d i q : Nat} {as : List Value} (hw : aLN own i y bytes maxL n) (hd : decode cc pc = .ok (.invokespecial i, 3)) (hM : aM l y bytes maxL none d (.ref (100 + q) :: as) h none h') (ha : as.length = n) (hf : d + 1 ≤ R.frames ∧ 8 + (maxL + 11) + 64 * d ≤ R.locals) (hk : (st.map fun v => v.category).sum ≤ 8) (hr1 : h'.1.length ≤ c0 + R.cells) (hr2 : aSn h'.1 ≤ s0 + R.slots)
    (hoS : st.all (aBel (100 + h.1.length)) = true) (hoL : (L.all (fun o => match o with | some v => aBel (100 + h.1.length) v | none => true)) = true)
    (kk : aJ p l e R s m args below meth c Q D cA A ad0 nL c0 s0 (pc + 3) L st h') : aJ p l e R s m args below meth c Q D cA A ad0 nL c0 s0 pc L (as.reverse ++ .ref (100 + q) :: st) h := by
  intro adr H ls locs cells slots hR
  refine j_afterN (r := none) (ar := (Value.ref (adr (100 + q)) :: as.map (aV adr)).toArray) hX hR hM.1 hM.2.1 hoS hoL ?_ kk
  rw [aStk]
  exact va_runIN (As := as.map (aV adr)) (rest := st.map (aV adr)) ⟨hX.1, hX.2.1, hX.2.2.1, hX.2.2.2.1, hX.2.2.2.2.1⟩ (hM.2.2 D cA adr H.size) ⟨va_cnB n hX.2.2.2.2.1 (gIn hw.2.2.2.1 [] (fun w hw => absurd hw List.not_mem_nil)) rfl rfl rfl (hX.2.2.2.2.2.2.2.2.2.2.2.2 _ hw.1) (hX.2.2.2.2.1 _ hw.2.2.1) hw.2.2.2.2.1 hf, hw.2.2.2.2.2, hX.2.2.2.2.1 _ hw.2.1⟩ ⟨aPre_blind, fun U hU hW => j_pre hX hR (.ref (100 + q) :: as) U hU hW⟩ rfl (by simpa using ha) hR.2.2.2.2.1.1 rfl (lv_room (by rw [aV_sum]; exact hk)) hd (aRm hR hM.1 hM.2.1 hr1 hr2)
def aLO (own : String) (i : Nat) : Prop := Cond.methodLink own i objectInit ∈ gtbl ∧ Cond.instanceMethod objectInit ∈ gtbl ∧ Cond.code objectInit ⟨#[0xb1]⟩ 1 none ∈ gtbl
theorem j_obj (hX : aX p s m args c own cc nL D cA A ad0) {i k : Nat} (hw : aLO own i) (hd : decode cc pc = .ok (.invokespecial i, 3)) (hf : 1 ≤ R.frames ∧ (st.map fun v => v.category).sum + 12 ≤ R.locals) (kk : aJ p l e R s m args below meth c Q D cA A ad0 nL c0 s0 (pc + 3) L st h) : aJ p l e R s m args below meth c Q D cA A ad0 nL c0 s0 pc L (.ref k :: st) h :=
  fun adr H ls locs cells slots hR => W.objInit hX.1 hX.2.1 hX.2.2.2.1 (hX.2.2.2.2.1 _ hw.1) (hX.2.2.2.2.1 _ hw.2.1) (hX.2.2.2.2.1 _ hw.2.2) rfl (hR.2.2.2.2.1.1.trans hX.2.2.1.symm) rfl hd hf.1 (by rw [aV_sum]; show 2 * 0 + _ + _ ≤ _; have := hf.2; omega) (kk adr H ls locs cells slots hR)
/-- Math's int methods -/
def aLm (own : String) (i : Nat) (y : MethodName) (bytes : ByteArray) (k : Nat) : Prop := Cond.methodLink own i y ∈ gtbl ∧ Cond.static y ∈ gtbl ∧ Cond.initialized "java/lang/Math" ∈ gtbl ∧ Cond.code y bytes k (some .int) ∈ gtbl
theorem j_max (hX : aX p s m args c own cc nL D cA A ad0) {i : Nat} {x y : Int32} (hw : aLm own i Lib.Math.max.name Lib.Math.max.code 2) (hd : decode cc pc = .ok (.invokestatic i, 3)) (hf : 1 ≤ R.frames ∧ (st.map fun v => v.category).sum + 13 ≤ R.locals) (hr1 : h.1.length ≤ c0 + R.cells) (hr2 : aSn h.1 ≤ s0 + R.slots) (kk : aJ p l e R s m args below meth c Q D cA A ad0 nL c0 s0 (pc + 3) L (.int (if x < y then y else x) :: st) h) : aJ p l e R s m args below meth c Q D cA A ad0 nL c0 s0 pc L (.int y :: .int x :: st) h :=
  fun adr H ls locs cells slots hR => va_mmax hX.1 hX.2.1 (hX.2.2.1.trans hR.2.2.2.2.1.1.symm) hX.2.2.2.1 (hX.2.2.2.2.1 _ hw.1) (hX.2.2.2.2.1 _ hw.2.1) (hX.2.2.2.2.1 _ hw.2.2.1) (hX.2.2.2.2.1 _ hw.2.2.2) hf.1 (by rw [aV_sum]; exact hf.2) (by have := hR.2.2.2.2.2.2.1; omega) (by have := hR.2.2.2.2.2.2.2.1; omega) hd (kk adr H ls locs cells slots hR)
theorem j_min (hX : aX p s m args c own cc nL D cA A ad0) {i : Nat} {x y : Int32} (hw : aLm own i Lib.Math.min.name Lib.Math.min.code 2) (hd : decode cc pc = .ok (.invokestatic i, 3)) (hf : 1 ≤ R.frames ∧ (st.map fun v => v.category).sum + 13 ≤ R.locals) (hr1 : h.1.length ≤ c0 + R.cells) (hr2 : aSn h.1 ≤ s0 + R.slots) (kk : aJ p l e R s m args below meth c Q D cA A ad0 nL c0 s0 (pc + 3) L (.int (if y < x then y else x) :: st) h) : aJ p l e R s m args below meth c Q D cA A ad0 nL c0 s0 pc L (.int y :: .int x :: st) h :=
  fun adr H ls locs cells slots hR => va_mmin hX.1 hX.2.1 (hX.2.2.1.trans hR.2.2.2.2.1.1.symm) hX.2.2.2.1 (hX.2.2.2.2.1 _ hw.1) (hX.2.2.2.2.1 _ hw.2.1) (hX.2.2.2.2.1 _ hw.2.2.1) (hX.2.2.2.2.1 _ hw.2.2.2) hf.1 (by rw [aV_sum]; exact hf.2) (by have := hR.2.2.2.2.2.2.1; omega) (by have := hR.2.2.2.2.2.2.2.1; omega) hd (kk adr H ls locs cells slots hR)
theorem j_abs (hX : aX p s m args c own cc nL D cA A ad0) {i : Nat} {x : Int32} (hw : aLm own i Lib.Math.abs.name Lib.Math.abs.code 1) (hd : decode cc pc = .ok (.invokestatic i, 3)) (hf : 1 ≤ R.frames ∧ (st.map fun v => v.category).sum + 13 ≤ R.locals) (hr1 : h.1.length ≤ c0 + R.cells) (hr2 : aSn h.1 ≤ s0 + R.slots) (kk : aJ p l e R s m args below meth c Q D cA A ad0 nL c0 s0 (pc + 3) L (.int (if 0 ≤ x then x else 0 - x) :: st) h) : aJ p l e R s m args below meth c Q D cA A ad0 nL c0 s0 pc L (.int x :: st) h :=
  fun adr H ls locs cells slots hR => va_mabs hX.1 hX.2.1 (hX.2.2.1.trans hR.2.2.2.2.1.1.symm) hX.2.2.2.1 (hX.2.2.2.2.1 _ hw.1) (hX.2.2.2.2.1 _ hw.2.1) (hX.2.2.2.2.1 _ hw.2.2.1) (hX.2.2.2.2.1 _ hw.2.2.2) hf.1 (by rw [aV_sum]; exact hf.2) (by have := hR.2.2.2.2.2.2.1; omega) (by have := hR.2.2.2.2.2.2.2.1; omega) hd (kk adr H ls locs cells slots hR)
/-- a method of a string constant -/
theorem j_callVS (hX : aX p s m args c own cc nL D cA A ad0) {y : MethodName} {bytes : ByteArray} {maxL n d i j : Nat} {ret : Option FieldType} {as : List Value} {r : Option Value} (hw : aLV own i y bytes maxL ret n) (hy : y.cls = "java/lang/String") (hj : j < 8) (hd : decode cc pc = .ok (.invokevirtual i, 3)) (hM : aM l y bytes maxL ret d (.ref (10 + j) :: as) h r h) (ha : as.length = n) (hf : d + 1 ≤ R.frames ∧ 8 + (maxL + 11) + 64 * d ≤ R.locals) (hk : (st.map fun v => v.category).sum ≤ 8) (hr1 : h.1.length ≤ c0 + R.cells) (hr2 : aSn h.1 ≤ s0 + R.slots)
    (kk : aJ p l e R s m args below meth c Q D cA A ad0 nL c0 s0 (pc + 3) L (r.toList ++ st) h) : aJ p l e R s m args below meth c Q D cA A ad0 nL c0 s0 pc L (as.reverse ++ .ref (10 + j) :: st) h := by
  intro adr H ls locs cells slots hR
  refine j_after (h' := h) (r := r) (ar := (Value.ref (adr (10 + j)) :: as.map (aV adr)).toArray) hX hR rfl rfl ?_ kk
  rw [aStk]
  refine va_runV (As := as.map (aV adr)) (rest := st.map (aV adr)) (C := y.cls) ⟨hX.1, hX.2.1, hX.2.2.1, hX.2.2.2.1, hX.2.2.2.2.1⟩ (hM.2.2 D cA adr H.size) (cwV n hX.2.2.2.2.1 (gIn hw.2.2.2.2.1 [.methodLink own i y, .instanceMethod y, .selects y.cls y y, .initialized y.cls] ?_) rfl rfl rfl ⟨rfl, hw.2.2.2.2.2⟩ hf) ⟨aPre_blind, ?_, fun U hU hW => j_pre hX hR (.ref (10 + j) :: as) U hU hW⟩ rfl (by simpa using ha) hR.2.2.2.2.1.1 rfl (lv_room (by rw [aV_sum]; exact hk)) hd (aRm hR hM.1 hM.2.1 hr1 hr2)
  · intro w hw1
    simp only [List.mem_cons, List.not_mem_nil, or_false] at hw1
    rcases hw1 with rfl | rfl | rfl | rfl
    · exact hw.1
    · exact hw.2.1
    · exact hw.2.2.1
    · exact hw.2.2.2.1
  · obtain ⟨cell, h1, h2, h3, -⟩ := (hX.2.2.2.2.2.2.2.2.1 j hj).1.kept hR.2.2.1.2.1
    rw [hR.2.2.2.2.2.2.2.2.1 (10 + j) (by omega), hy]
    exact ⟨cell, h1, h2, h3⟩
end AN
