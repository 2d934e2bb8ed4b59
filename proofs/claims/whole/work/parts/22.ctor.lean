/-! constructors -/
def pR (h : aHp) (p k : Nat) (v : Option Nat) : aHp := (h.1, h.2.1, h.2.2.1, u2 h.2.2.2 p k v)
def pI (h : aHp) (p k : Nat) (v : Int32) : aHp := (h.1, u2 h.2.1 p k v, h.2.2.1, h.2.2.2)
theorem aNew_len (h : aHp) (x : aSh) : (aNew h x).1.length = h.1.length + 1 := by simp [aNew]
theorem pR_len (h : aHp) (p k : Nat) (v : Option Nat) : (pR h p k v).1.length = h.1.length := rfl
theorem pI_len (h : aHp) (p k : Nat) (v : Int32) : (pI h p k v).1.length = h.1.length := rfl
theorem aNew_sn (h : aHp) (x : aSh) : aSn (aNew h x).1 = aSn h.1 + aSz x := aSn_one h.1 x
theorem pR_sn (h : aHp) (p k : Nat) (v : Option Nat) : aSn (pR h p k v).1 = aSn h.1 := rfl
theorem pI_sn (h : aHp) (p k : Nat) (v : Int32) : aSn (pI h p k v).1 = aSn h.1 := rfl
theorem aNew_get {h : aHp} {x y : aSh} {p : Nat} (hs : h.1[p]? = some y) : (aNew h x).1[p]? = some y := by
  show (h.1 ++ [x])[p]? = some y
  rw [List.getElem?_append_left (List.getElem?_eq_some_iff.mp hs).1]
  exact hs
theorem aNew_last (h : aHp) (x : aSh) : (aNew h x).1[h.1.length]? = some x := by
  show (h.1 ++ [x])[h.1.length]? = some x
  simp
theorem aNew_rv {h : aHp} {x : aSh} {p k : Nat} (hp : p < h.1.length) : (aNew h x).2.2.2 p k = h.2.2.2 p k := by
  show z2 none h.2.2.2 h.1.length p k = _
  rw [z2_row _ _ (by omega)]
theorem pR_rv {h : aHp} {p k q j : Nat} {v : Option Nat} (hne : q ≠ p ∨ j ≠ k) : (pR h p k v).2.2.2 q j = h.2.2.2 q j := u2_ne _ _ hne
theorem pR_at {h : aHp} {p k : Nat} {v : Option Nat} : (pR h p k v).2.2.2 p k = v := u2_same _ _ _ _
theorem sn_step {h h' : aHp} {x : aSh} {a s z t : Nat} (e : h' = aNew h x) (hS : aSn h.1 = a + s) (hz : aSz x = z) (ht : s + z = t) : aSn h'.1 = a + t := by rw [e, aNew_sn, hS, hz, ← ht, Nat.add_assoc]
theorem len_step {h h' : aHp} {x : aSh} {a s t : Nat} (e : h' = aNew h x) (hS : h.1.length = a + s) (ht : s + 1 = t) : h'.1.length = a + t := by rw [e, aNew_len, hS, ← ht, Nat.add_assoc]
theorem get_step {h h' : aHp} {x y : aSh} {p : Nat} (e : h' = aNew h x) (hs : h.1[p]? = some y) : h'.1[p]? = some y := by rw [e]; exact aNew_get hs
theorem last_step {h h' : aHp} {x : aSh} {n : Nat} (e : h' = aNew h x) (hn : h.1.length = n) : h'.1[n]? = some x := by rw [e, ← hn]; exact aNew_last h x
section AK
variable {p : Program} {l : Launch} {e : Env} {R : Room} {s : State} {m : MethodId} {args : Array Value} {below : List Frame} {meth : Method} {c : Code} {Q : State → Prop} {D : va_G} {cA : FieldType → ClassId} {A : Nat → Prop} {ad0 : Nat → Nat} {nL c0 s0 : Nat}
variable {own : String} {cc : ByteArray} {pc : Nat} {L : List (Option Value)} {st : List Value} {h h' : aHp}
theorem j_newaN (hX : aX p s m args c own cc nL D cA A ad0) {atype : ArrayType} {ty : FieldType} {t0 n n0 : Nat} {x : Int32} (hd : decode cc pc = .ok (.newarray atype, 2)) (hty : newarray.typeOf atype = ty) (ht : ∀ cA, (aTys cA)[t0]? = some (cA ty, ty)) (hw : Cond.arrayClass ty ∈ gtbl) (hz : ∀ cA : ClassId, vp_cell cA (n, aZa ty) = arrV cA n (fun _ => defaultValue ty)) (hx : ¬ x < 0) (hn : x.toNatClampNeg = n) (hb : n * componentBytes ty ≤ 536870912) (hl : h.1.length = n0)
    (hoS : st.all (aBel (100 + n0)) = true) (hoL : (L.all (fun o => match o with | some v => aBel (100 + n0) v | none => true)) = true) (hr1 : n0 + 1 ≤ c0 + R.cells) (hr2 : aSn h.1 + n ≤ s0 + R.slots)
    (kk : ∀ h', h' = aNew h (.inl (ty, n)) → aJ p l e R s m args below meth c Q D cA A ad0 nL c0 s0 (pc + 2) L (.ref (100 + n0) :: st) h') : aJ p l e R s m args below meth c Q D cA A ad0 nL c0 s0 pc L (.int x :: st) h := by
  subst hl
  exact j_newa hX hd hty ht hw hz hx hn hb hoS hoL hr1 hr2 (kk _ rfl)
theorem j_newqN (hX : aX p s m args c own cc nL D cA A ad0) {C : String} {t0 n i n0 : Nat} {x : Int32} (hd : decode cc pc = .ok (.anewarray i, 3)) (ht : ∀ cA, (aTys cA)[t0]? = some (cA (.object C), .object C)) (hw : Cond.classLink own i C ∈ gtbl) (ho : Cond.arrayOver (.object C) ∈ gtbl) (hx : ¬ x < 0) (hn : x.toNatClampNeg = n) (hb : n * 4 ≤ 536870912) (hl : h.1.length = n0)
    (hoS : st.all (aBel (100 + n0)) = true) (hoL : (L.all (fun o => match o with | some v => aBel (100 + n0) v | none => true)) = true) (hr1 : n0 + 1 ≤ c0 + R.cells) (hr2 : aSn h.1 + n ≤ s0 + R.slots)
    (kk : ∀ h', h' = aNew h (.inl (.object C, n)) → aJ p l e R s m args below meth c Q D cA A ad0 nL c0 s0 (pc + 3) L (.ref (100 + n0) :: st) h') : aJ p l e R s m args below meth c Q D cA A ad0 nL c0 s0 pc L (.int x :: st) h := by
  subst hl
  exact j_newq hX hd ht hw ho hx hn hb hoS hoL hr1 hr2 (kk _ rfl)
theorem j_newN (hX : aX p s m args c own cc nL D cA A ad0) {C : String} {T : u_T} {N ci i n0 : Nat} (hc : aCl ci C T N) (hd : decode cc pc = .ok (.new i, 3)) (hw : Cond.classLink own i C ∈ gtbl) (hi : Cond.instantiable C N ∈ gtbl) (hini : Cond.initialized C ∈ gtbl) (hnf : ∀ k, k < N → aty ci k ≠ .float ∧ aty ci k ≠ .double) (hl : h.1.length = n0)
    (hoS : st.all (aBel (100 + n0)) = true) (hoL : (L.all (fun o => match o with | some v => aBel (100 + n0) v | none => true)) = true) (hr1 : n0 + 1 ≤ c0 + R.cells) (hr2 : aSn h.1 + N ≤ s0 + R.slots)
    (kk : ∀ h', h' = aNew h (.inr ci) → aJ p l e R s m args below meth c Q D cA A ad0 nL c0 s0 (pc + 3) L (.ref (100 + n0) :: st) h') : aJ p l e R s m args below meth c Q D cA A ad0 nL c0 s0 pc L st h := by
  subst hl
  exact j_new hX hc hd hw hi hini hnf hoS hoL hr1 hr2 (kk _ rfl)
theorem j_putRFN (hX : aX p s m args c own cc nL D cA A ad0) {ci k q i N : Nat} {C : String} {T : u_T} (hc : aCl ci C T N) (hk : k < N) (hw : Cond.fieldLink own i (T k).1 (T k).2.1 (T k).2.2.1 ∈ gtbl) {v : Nat} (hv : v < 100 + h.1.length) (hd : decode cc pc = .ok (.putfield i, 3)) (hs : h.1[q]? = some (.inr ci)) (ht : aKd (aty ci k) = 2) (hfin : (T k).2.2.2 = true) (hmi : meth.name = "<init>") (hdc : (T k).1 = own) (kk : ∀ h', h' = pR h q k (some v) → aJ p l e R s m args below meth c Q D cA A ad0 nL c0 s0 (pc + 3) L st h') : aJ p l e R s m args below meth c Q D cA A ad0 nL c0 s0 pc L (.ref v :: .ref (100 + q) :: st) h :=
  j_putRF hX hc hk hw hv hd hs ht hfin hmi hdc (kk _ rfl)
theorem j_putRN (hX : aX p s m args c own cc nL D cA A ad0) {ci k q i N : Nat} {C : String} {T : u_T} (hc : aCl ci C T N) (hk : k < N) (hw : Cond.fieldLink own i (T k).1 (T k).2.1 (T k).2.2.1 ∈ gtbl) {v : Nat} (hv : v < 100 + h.1.length) (hd : decode cc pc = .ok (.putfield i, 3)) (hs : h.1[q]? = some (.inr ci)) (ht : aKd (aty ci k) = 2) (hfin : (T k).2.2.2 = false) (kk : ∀ h', h' = pR h q k (some v) → aJ p l e R s m args below meth c Q D cA A ad0 nL c0 s0 (pc + 3) L st h') : aJ p l e R s m args below meth c Q D cA A ad0 nL c0 s0 pc L (.ref v :: .ref (100 + q) :: st) h :=
  j_putR hX hc hk hw hv hd hs ht hfin (kk _ rfl)
theorem j_putIN (hX : aX p s m args c own cc nL D cA A ad0) {ci k q i N : Nat} {C : String} {T : u_T} (hc : aCl ci C T N) (hk : k < N) (hw : Cond.fieldLink own i (T k).1 (T k).2.1 (T k).2.2.1 ∈ gtbl) {v : Int32} (hd : decode cc pc = .ok (.putfield i, 3)) (hs : h.1[q]? = some (.inr ci)) (ht : aKd (aty ci k) = 0) (hfin : (T k).2.2.2 = false) (hn : narrow (aty ci k) (.int v) = .int v) (hf : fits (aty ci k) (.int v) = true) (kk : ∀ h', h' = pI h q k v → aJ p l e R s m args below meth c Q D cA A ad0 nL c0 s0 (pc + 3) L st h') : aJ p l e R s m args below meth c Q D cA A ad0 nL c0 s0 pc L (.int v :: .ref (100 + q) :: st) h :=
  j_putI hX hc hk hw hd hs ht hfin hn hf (kk _ rfl)
theorem j_getRN (hX : aX p s m args c own cc nL D cA A ad0) {ci k q i N a : Nat} {C : String} {T : u_T} (hc : aCl ci C T N) (hk : k < N) (hw : Cond.fieldLink own i (T k).1 (T k).2.1 (T k).2.2.1 ∈ gtbl) (ha : h.2.2.2 q k = some a) (hd : decode cc pc = .ok (.getfield i, 3)) (hs : h.1[q]? = some (.inr ci)) (ht : aKd (aty ci k) = 2) (kk : aJ p l e R s m args below meth c Q D cA A ad0 nL c0 s0 (pc + 3) L (.ref a :: st) h) : aJ p l e R s m args below meth c Q D cA A ad0 nL c0 s0 pc L (.ref (100 + q) :: st) h :=
  j_getR hX hc hk hw ha hd hs ht kk
theorem j_callIM (hX : aX p s m args c own cc nL D cA A ad0) {y : MethodName} {bytes : ByteArray} {maxL n d i q : Nat} {as : List Value} {w : aHp} (hw : aLI own i y bytes maxL n) (hd : decode cc pc = .ok (.invokespecial i, 3)) (hM : aM l y bytes maxL none d (.ref (100 + q) :: as) h none w) (ha : as.length = n) (hf : d + 1 ≤ R.frames ∧ 8 + (maxL + 11) + 64 * d ≤ R.locals) (hk : (st.map fun v => v.category).sum ≤ 8) (hr1 : w.1.length ≤ c0 + R.cells) (hr2 : aSn w.1 ≤ s0 + R.slots)
    {n0 : Nat} (hl : h.1.length = n0) (hoS : st.all (aBel (100 + n0)) = true) (hoL : (L.all (fun o => match o with | some v => aBel (100 + n0) v | none => true)) = true)
    (kk : ∀ h', h' = w → aJ p l e R s m args below meth c Q D cA A ad0 nL c0 s0 (pc + 3) L st h') : aJ p l e R s m args below meth c Q D cA A ad0 nL c0 s0 pc L (as.reverse ++ .ref (100 + q) :: st) h := by
  subst hl
  exact j_callI hX hw hd hM ha hf hk hr1 hr2 hoS hoL (kk _ rfl)
theorem j_callINM (hX : aX p s m args c own cc nL D cA A ad0) {y : MethodName} {bytes : ByteArray} {maxL n d i q : Nat} {as : List Value} {w : aHp} (hw : aLN own i y bytes maxL n) (hd : decode cc pc = .ok (.invokespecial i, 3)) (hM : aM l y bytes maxL none d (.ref (100 + q) :: as) h none w) (ha : as.length = n) (hf : d + 1 ≤ R.frames ∧ 8 + (maxL + 11) + 64 * d ≤ R.locals) (hk : (st.map fun v => v.category).sum ≤ 8) (hr1 : w.1.length ≤ c0 + R.cells) (hr2 : aSn w.1 ≤ s0 + R.slots)
    {n0 : Nat} (hl : h.1.length = n0) (hoS : st.all (aBel (100 + n0)) = true) (hoL : (L.all (fun o => match o with | some v => aBel (100 + n0) v | none => true)) = true)
    (kk : ∀ h', h' = w → aJ p l e R s m args below meth c Q D cA A ad0 nL c0 s0 (pc + 3) L st h') : aJ p l e R s m args below meth c Q D cA A ad0 nL c0 s0 pc L (as.reverse ++ .ref (100 + q) :: st) h := by
  subst hl
  exact j_callIN hX hw hd hM ha hf hk hr1 hr2 hoS hoL (kk _ rfl)
end AK
theorem aLt {h : aHp} {y : aSh} {p : Nat} (hs : h.1[p]? = some y) : p < h.1.length := (List.getElem?_eq_some_iff.mp hs).1
set_option maxRecDepth 100000 in
theorem wAr_int : Cond.arrayClass .int ∈ gtbl := gm 163 rfl rfl
set_option maxRecDepth 100000 in
theorem wAr_byte : Cond.arrayClass .byte ∈ gtbl := gm 706 rfl rfl
set_option maxRecDepth 100000 in
theorem wAr_boolean : Cond.arrayClass .boolean ∈ gtbl := gm 434 rfl rfl
set_option maxRecDepth 100000 in
theorem wAr_long : Cond.arrayClass .long ∈ gtbl := gm 2235 rfl rfl
set_option maxRecDepth 100000 in
theorem wOv_4 : Cond.arrayOver (.object "WokenBorder$Law") ∈ gtbl := gm 171 rfl rfl
set_option maxRecDepth 100000 in
theorem wOv_5 : Cond.arrayOver (.object "WokenBorder$Lines") ∈ gtbl := gm 173 rfl rfl
set_option maxRecDepth 100000 in
theorem wCl_RX9_11 : Cond.classLink RX9 11 "WokenBorder$Law" ∈ gtbl := gm 170 rfl rfl
set_option maxRecDepth 100000 in
theorem wCl_RX9_17 : Cond.classLink RX9 17 "WokenBorder$Lines" ∈ gtbl := gm 172 rfl rfl
set_option maxRecDepth 100000 in
theorem wCl_RX11_7 : Cond.classLink RX11 7 "WokenBorder$Tape" ∈ gtbl := gm 147 rfl rfl
set_option maxRecDepth 100000 in
theorem wCl_RX11_16 : Cond.classLink RX11 16 "WokenBorder$Shelf" ∈ gtbl := gm 164 rfl rfl
set_option maxRecDepth 100000 in
theorem wCl_RX11_23 : Cond.classLink RX11 23 "WokenBorder$Car" ∈ gtbl := gm 223 rfl rfl
set_option maxRecDepth 100000 in
theorem wCl_RX11_33 : Cond.classLink RX11 33 "WokenBorder$Scene" ∈ gtbl := gm 248 rfl rfl
set_option maxRecDepth 100000 in
theorem wCl_RX11_43 : Cond.classLink RX11 43 "WokenBorder$House" ∈ gtbl := gm 258 rfl rfl
set_option maxRecDepth 100000 in
theorem wCl_RX11_52 : Cond.classLink RX11 52 "WokenBorder$Memory" ∈ gtbl := gm 280 rfl rfl
set_option maxRecDepth 100000 in
theorem wCl_RX11_59 : Cond.classLink RX11 59 "WokenBorder$Orders" ∈ gtbl := gm 308 rfl rfl
set_option maxRecDepth 100000 in
theorem wCl_RX11_68 : Cond.classLink RX11 68 "WokenBorder$Advice" ∈ gtbl := gm 348 rfl rfl
set_option maxRecDepth 100000 in
theorem wCl_RX11_75 : Cond.classLink RX11 75 "WokenBorder$Guesses" ∈ gtbl := gm 400 rfl rfl
set_option maxRecDepth 100000 in
theorem wCl_RL_8 : Cond.classLink RL 8 "WokenBorder" ∈ gtbl := gm 139 rfl rfl
set_option maxRecDepth 100000 in
theorem wCl_RL_16 : Cond.classLink RL 16 "WokenBorderModel" ∈ gtbl := gm 1545 rfl rfl
set_option maxRecDepth 100000 in
theorem wIn_RX0 : Cond.instantiable RX0 15 ∈ gtbl := gm 349 rfl rfl
set_option maxRecDepth 100000 in
theorem wIni_RX0 : Cond.initialized RX0 ∈ gtbl := gm 124 rfl rfl
theorem nf_RX0 : ∀ k, k < 15 → aty 0 k ≠ .float ∧ aty 0 k ≠ .double := by decide
set_option maxRecDepth 100000 in
theorem wIn_RX1 : Cond.instantiable RX1 6 ∈ gtbl := gm 224 rfl rfl
set_option maxRecDepth 100000 in
theorem wIni_RX1 : Cond.initialized RX1 ∈ gtbl := gm 119 rfl rfl
theorem nf_RX1 : ∀ k, k < 6 → aty 1 k ≠ .float ∧ aty 1 k ≠ .double := by decide
set_option maxRecDepth 100000 in
theorem wIn_RX2 : Cond.instantiable RX2 9 ∈ gtbl := gm 401 rfl rfl
set_option maxRecDepth 100000 in
theorem wIni_RX2 : Cond.initialized RX2 ∈ gtbl := gm 125 rfl rfl
theorem nf_RX2 : ∀ k, k < 9 → aty 2 k ≠ .float ∧ aty 2 k ≠ .double := by decide
set_option maxRecDepth 100000 in
theorem wIn_RX3 : Cond.instantiable RX3 5 ∈ gtbl := gm 259 rfl rfl
set_option maxRecDepth 100000 in
theorem wIni_RX3 : Cond.initialized RX3 ∈ gtbl := gm 121 rfl rfl
theorem nf_RX3 : ∀ k, k < 5 → aty 3 k ≠ .float ∧ aty 3 k ≠ .double := by decide
set_option maxRecDepth 100000 in
theorem wIn_RX4 : Cond.instantiable RX4 4 ∈ gtbl := gm 174 rfl rfl
set_option maxRecDepth 100000 in
theorem wIni_RX4 : Cond.initialized RX4 ∈ gtbl := gm 117 rfl rfl
theorem nf_RX4 : ∀ k, k < 4 → aty 4 k ≠ .float ∧ aty 4 k ≠ .double := by decide
set_option maxRecDepth 100000 in
theorem wIn_RX5 : Cond.instantiable RX5 2 ∈ gtbl := gm 192 rfl rfl
set_option maxRecDepth 100000 in
theorem wIni_RX5 : Cond.initialized RX5 ∈ gtbl := gm 118 rfl rfl
theorem nf_RX5 : ∀ k, k < 2 → aty 5 k ≠ .float ∧ aty 5 k ≠ .double := by decide
set_option maxRecDepth 100000 in
theorem wIn_RX6 : Cond.instantiable RX6 7 ∈ gtbl := gm 281 rfl rfl
set_option maxRecDepth 100000 in
theorem wIni_RX6 : Cond.initialized RX6 ∈ gtbl := gm 122 rfl rfl
theorem nf_RX6 : ∀ k, k < 7 → aty 6 k ≠ .float ∧ aty 6 k ≠ .double := by decide
set_option maxRecDepth 100000 in
theorem wIn_RX7 : Cond.instantiable RX7 11 ∈ gtbl := gm 309 rfl rfl
set_option maxRecDepth 100000 in
theorem wIni_RX7 : Cond.initialized RX7 ∈ gtbl := gm 123 rfl rfl
theorem nf_RX7 : ∀ k, k < 11 → aty 7 k ≠ .float ∧ aty 7 k ≠ .double := by decide
set_option maxRecDepth 100000 in
theorem wIn_RX8 : Cond.instantiable RX8 1 ∈ gtbl := gm 249 rfl rfl
set_option maxRecDepth 100000 in
theorem wIni_RX8 : Cond.initialized RX8 ∈ gtbl := gm 120 rfl rfl
theorem nf_RX8 : ∀ k, k < 1 → aty 8 k ≠ .float ∧ aty 8 k ≠ .double := by decide
set_option maxRecDepth 100000 in
theorem wIn_RX9 : Cond.instantiable RX9 6 ∈ gtbl := gm 165 rfl rfl
set_option maxRecDepth 100000 in
theorem wIni_RX9 : Cond.initialized RX9 ∈ gtbl := gm 116 rfl rfl
theorem nf_RX9 : ∀ k, k < 6 → aty 9 k ≠ .float ∧ aty 9 k ≠ .double := by decide
set_option maxRecDepth 100000 in
theorem wIn_RX10 : Cond.instantiable RX10 3 ∈ gtbl := gm 148 rfl rfl
set_option maxRecDepth 100000 in
theorem wIni_RX10 : Cond.initialized RX10 ∈ gtbl := gm 115 rfl rfl
theorem nf_RX10 : ∀ k, k < 3 → aty 10 k ≠ .float ∧ aty 10 k ≠ .double := by decide
set_option maxRecDepth 100000 in
theorem wIn_RX11 : Cond.instantiable RX11 14 ∈ gtbl := gm 140 rfl rfl
set_option maxRecDepth 100000 in
theorem wIni_RX11 : Cond.initialized RX11 ∈ gtbl := gm 114 rfl rfl
theorem nf_RX11 : ∀ k, k < 14 → aty 11 k ≠ .float ∧ aty 11 k ≠ .double := by decide
set_option maxRecDepth 100000 in
theorem wIn_RX12 : Cond.instantiable RX12 58 ∈ gtbl := gm 1546 rfl rfl
set_option maxRecDepth 100000 in
theorem wIni_RX12 : Cond.initialized RX12 ∈ gtbl := gm 126 rfl rfl
theorem nf_RX12 : ∀ k, k < 58 → aty 12 k ≠ .float ∧ aty 12 k ≠ .double := by decide
def wX10_init (p : Nat) (h : aHp) : aHp :=
  let h1 : aHp := aNew h (.inl (.int, 240))
  let h2 : aHp := pR h1 p 0 (some (100 + h.1.length))
  h2
theorem lenX10_init (p : Nat) (h : aHp) : (wX10_init p h).1.length = h.1.length + 1 := by simp only [wX10_init, aNew_len, pR_len, pI_len]
theorem snX10_init (p : Nat) (h : aHp) : aSn (wX10_init p h).1 = aSn h.1 + 240 := by simp only [wX10_init, aNew_sn, pR_sn, pI_sn]; simp [aSz, aN, acl, Nat.add_assoc]
theorem getX10_init {p z : Nat} {h : aHp} {y : aSh} (hs0 : h.1[z]? = some y) : (wX10_init p h).1[z]? = some y := aNew_get (hs0)
theorem rvX10_init {p z k : Nat} {h : aHp} (hz : z < h.1.length) (hne : z ≠ p) : (wX10_init p h).2.2.2 z k = h.2.2.2 z k := by
  show (wX10_init p h).2.2.2 z k = _
  unfold wX10_init
  dsimp only
  rw [pR_rv (Or.inl hne), aNew_rv (by simp only [aNew_len, pR_len, pI_len]; omega)]
theorem okX10_init {l : Launch} {p : Nat} {h : aHp} (hs : h.1[p]? = some (.inr 10)) : aM l yX10_init cX10_init 1 none 1 [.ref (100 + p)] h none (wX10_init p h) := by
  have hp := aLt hs
  refine aM_of (by decide) (Nat.le_of_ble_eq_true rfl) (by rw [lenX10_init]; omega) (by rw [snX10_init]; omega) (fun p_ e s m args below meth c D cA A ad0 hX hr hlk hnm => ?_)
  generalize hRe : (Room.mk 1 ((wX10_init p h).1.length - h.1.length) (aSn (wX10_init p h).1 - aSn h.1) (64 * 1)) = R
  have hRf : 1 ≤ R.frames := by rw [← hRe]; exact Nat.le_refl _
  have hRl : 64 * 1 ≤ R.locals := by rw [← hRe]; exact Nat.le_refl _
  have hRf1 : 1 ≤ R.frames := Nat.le_trans (by decide) hRf
  have hRl1 : (([] : List Value).map (fun v => v.category)).sum + 12 ≤ R.locals := Nat.le_trans (by decide) hRl
  have hRc : 1 ≤ R.cells := by rw [← hRe]; show 1 ≤ _ - _; rw [lenX10_init]; omega
  have hRs : 240 ≤ R.slots := by rw [← hRe]; show 240 ≤ _ - _; rw [snX10_init]; omega
  have l0 : h.1.length = h.1.length + 0 := rfl
  have s0 : aSn h.1 = aSn h.1 + 0 := rfl
  refine j_aload_n hX dX10_init_0 rfl ?_
  refine j_obj hX lk_X10_3 dX10_init_1 ⟨hRf1, hRl1⟩ ?_
  refine j_aload_n hX dX10_init_4 rfl ?_
  refine jpc (b := 5) rfl ?_
  refine j_sipush hX dX10_init_5 sp_240 ?_
  refine j_newaN (ty := .int) (t0 := 0) (n := 240) (n0 := h.1.length) hX dX10_init_8 rfl (fun _ => rfl) wAr_int (fun _ => rfl) (by decide) (by decide) (by decide) l0 (by simp [aBel] <;> omega) (by simp [aBel] <;> omega) (by omega) (by rw [s0]; omega) (fun h1 e1 => ?_)
  have l1 : h1.1.length = h.1.length + 1 := len_step e1 l0 rfl
  have s1 : aSn h1.1 = aSn h.1 + 240 := sn_step e1 s0 (by decide) rfl
  have g1_z0 := get_step e1 hs
  refine jpc (b := 10) rfl ?_
  refine j_putRFN (k := 0) hX kX10 (by decide) fk_X10_11 (by rw [l1]; omega) dX10_init_10 g1_z0 rfl rfl hnm rfl (fun h2 e2 => ?_)
  have l2 : h2.1.length = h.1.length + 1 := by rw [e2]; exact l1
  have s2 : aSn h2.1 = aSn h.1 + 240 := by rw [e2]; exact s1
  have g2_z0 : h2.1[p]? = _ := by rw [e2]; exact g1_z0
  have hw : h2 = wX10_init p h := by rw [e2, e1]; rfl
  rw [hw]
  exact j_vret hX hr hlk dX10_init_13
def wX4_init (p : Nat) (h : aHp) : aHp :=
  let h1 : aHp := aNew h (.inl (.int, 240))
  let h2 : aHp := pR h1 p 0 (some (100 + h.1.length))
  let h3 : aHp := aNew h2 (.inl (.int, 32))
  let h4 : aHp := pR h3 p 1 (some (100 + (h.1.length + 1)))
  h4
theorem lenX4_init (p : Nat) (h : aHp) : (wX4_init p h).1.length = h.1.length + 2 := by simp only [wX4_init, aNew_len, pR_len, pI_len]
theorem snX4_init (p : Nat) (h : aHp) : aSn (wX4_init p h).1 = aSn h.1 + 272 := by simp only [wX4_init, aNew_sn, pR_sn, pI_sn]; simp [aSz, aN, acl, Nat.add_assoc]
theorem getX4_init {p z : Nat} {h : aHp} {y : aSh} (hs0 : h.1[z]? = some y) : (wX4_init p h).1[z]? = some y := aNew_get (aNew_get (hs0))
theorem rvX4_init {p z k : Nat} {h : aHp} (hz : z < h.1.length) (hne : z ≠ p) : (wX4_init p h).2.2.2 z k = h.2.2.2 z k := by
  show (wX4_init p h).2.2.2 z k = _
  unfold wX4_init
  dsimp only
  rw [pR_rv (Or.inl hne), aNew_rv (by simp only [aNew_len, pR_len, pI_len]; omega), pR_rv (Or.inl hne), aNew_rv (by simp only [aNew_len, pR_len, pI_len]; omega)]
theorem okX4_init {l : Launch} {p : Nat} {h : aHp} (hs : h.1[p]? = some (.inr 4)) : aM l yX4_init cX4_init 1 none 1 [.ref (100 + p)] h none (wX4_init p h) := by
  have hp := aLt hs
  refine aM_of (by decide) (Nat.le_of_ble_eq_true rfl) (by rw [lenX4_init]; omega) (by rw [snX4_init]; omega) (fun p_ e s m args below meth c D cA A ad0 hX hr hlk hnm => ?_)
  generalize hRe : (Room.mk 1 ((wX4_init p h).1.length - h.1.length) (aSn (wX4_init p h).1 - aSn h.1) (64 * 1)) = R
  have hRf : 1 ≤ R.frames := by rw [← hRe]; exact Nat.le_refl _
  have hRl : 64 * 1 ≤ R.locals := by rw [← hRe]; exact Nat.le_refl _
  have hRf1 : 1 ≤ R.frames := Nat.le_trans (by decide) hRf
  have hRl1 : (([] : List Value).map (fun v => v.category)).sum + 12 ≤ R.locals := Nat.le_trans (by decide) hRl
  have hRc : 2 ≤ R.cells := by rw [← hRe]; show 2 ≤ _ - _; rw [lenX4_init]; omega
  have hRs : 272 ≤ R.slots := by rw [← hRe]; show 272 ≤ _ - _; rw [snX4_init]; omega
  have l0 : h.1.length = h.1.length + 0 := rfl
  have s0 : aSn h.1 = aSn h.1 + 0 := rfl
  refine j_aload_n hX dX4_init_0 rfl ?_
  refine j_obj hX lk_X4_3 dX4_init_1 ⟨hRf1, hRl1⟩ ?_
  refine j_aload_n hX dX4_init_4 rfl ?_
  refine jpc (b := 5) rfl ?_
  refine j_sipush hX dX4_init_5 sp_240 ?_
  refine j_newaN (ty := .int) (t0 := 0) (n := 240) (n0 := h.1.length) hX dX4_init_8 rfl (fun _ => rfl) wAr_int (fun _ => rfl) (by decide) (by decide) (by decide) l0 (by simp [aBel] <;> omega) (by simp [aBel] <;> omega) (by omega) (by rw [s0]; omega) (fun h1 e1 => ?_)
  have l1 : h1.1.length = h.1.length + 1 := len_step e1 l0 rfl
  have s1 : aSn h1.1 = aSn h.1 + 240 := sn_step e1 s0 (by decide) rfl
  have g1_z0 := get_step e1 hs
  refine jpc (b := 10) rfl ?_
  refine j_putRFN (k := 0) hX kX4 (by decide) fk_X4_11 (by rw [l1]; omega) dX4_init_10 g1_z0 rfl rfl hnm rfl (fun h2 e2 => ?_)
  have l2 : h2.1.length = h.1.length + 1 := by rw [e2]; exact l1
  have s2 : aSn h2.1 = aSn h.1 + 240 := by rw [e2]; exact s1
  have g2_z0 : h2.1[p]? = _ := by rw [e2]; exact g1_z0
  refine j_aload_n hX dX4_init_13 rfl ?_
  refine j_bipush hX dX4_init_14 bp_32 ?_
  refine j_newaN (ty := .int) (t0 := 0) (n := 32) (n0 := (h.1.length + 1)) hX dX4_init_16 rfl (fun _ => rfl) wAr_int (fun _ => rfl) (by decide) (by decide) (by decide) l2 (by simp [aBel] <;> omega) (by simp [aBel] <;> omega) (by omega) (by rw [s2]; omega) (fun h3 e3 => ?_)
  have l3 : h3.1.length = h.1.length + 2 := len_step e3 l2 rfl
  have s3 : aSn h3.1 = aSn h.1 + 272 := sn_step e3 s2 (by decide) rfl
  have g3_z0 := get_step e3 g2_z0
  refine j_putRFN (k := 1) hX kX4 (by decide) fk_X4_17 (by rw [l3]; omega) dX4_init_18 g3_z0 rfl rfl hnm rfl (fun h4 e4 => ?_)
  have l4 : h4.1.length = h.1.length + 2 := by rw [e4]; exact l3
  have s4 : aSn h4.1 = aSn h.1 + 272 := by rw [e4]; exact s3
  have g4_z0 : h4.1[p]? = _ := by rw [e4]; exact g3_z0
  have hw : h4 = wX4_init p h := by rw [e4, e3, e2, e1]; rfl
  rw [hw]
  exact j_vret hX hr hlk dX4_init_21
def wX5_init (p : Nat) (h : aHp) : aHp :=
  let h1 : aHp := aNew h (.inl (.int, 48))
  let h2 : aHp := pR h1 p 0 (some (100 + h.1.length))
  h2
theorem lenX5_init (p : Nat) (h : aHp) : (wX5_init p h).1.length = h.1.length + 1 := by simp only [wX5_init, aNew_len, pR_len, pI_len]
theorem snX5_init (p : Nat) (h : aHp) : aSn (wX5_init p h).1 = aSn h.1 + 48 := by simp only [wX5_init, aNew_sn, pR_sn, pI_sn]; simp [aSz, aN, acl, Nat.add_assoc]
theorem getX5_init {p z : Nat} {h : aHp} {y : aSh} (hs0 : h.1[z]? = some y) : (wX5_init p h).1[z]? = some y := aNew_get (hs0)
theorem rvX5_init {p z k : Nat} {h : aHp} (hz : z < h.1.length) (hne : z ≠ p) : (wX5_init p h).2.2.2 z k = h.2.2.2 z k := by
  show (wX5_init p h).2.2.2 z k = _
  unfold wX5_init
  dsimp only
  rw [pR_rv (Or.inl hne), aNew_rv (by simp only [aNew_len, pR_len, pI_len]; omega)]
theorem okX5_init {l : Launch} {p : Nat} {h : aHp} (hs : h.1[p]? = some (.inr 5)) : aM l yX5_init cX5_init 1 none 1 [.ref (100 + p)] h none (wX5_init p h) := by
  have hp := aLt hs
  refine aM_of (by decide) (Nat.le_of_ble_eq_true rfl) (by rw [lenX5_init]; omega) (by rw [snX5_init]; omega) (fun p_ e s m args below meth c D cA A ad0 hX hr hlk hnm => ?_)
  generalize hRe : (Room.mk 1 ((wX5_init p h).1.length - h.1.length) (aSn (wX5_init p h).1 - aSn h.1) (64 * 1)) = R
  have hRf : 1 ≤ R.frames := by rw [← hRe]; exact Nat.le_refl _
  have hRl : 64 * 1 ≤ R.locals := by rw [← hRe]; exact Nat.le_refl _
  have hRf1 : 1 ≤ R.frames := Nat.le_trans (by decide) hRf
  have hRl1 : (([] : List Value).map (fun v => v.category)).sum + 12 ≤ R.locals := Nat.le_trans (by decide) hRl
  have hRc : 1 ≤ R.cells := by rw [← hRe]; show 1 ≤ _ - _; rw [lenX5_init]; omega
  have hRs : 48 ≤ R.slots := by rw [← hRe]; show 48 ≤ _ - _; rw [snX5_init]; omega
  have l0 : h.1.length = h.1.length + 0 := rfl
  have s0 : aSn h.1 = aSn h.1 + 0 := rfl
  refine j_aload_n hX dX5_init_0 rfl ?_
  refine j_obj hX lk_X5_3 dX5_init_1 ⟨hRf1, hRl1⟩ ?_
  refine j_aload_n hX dX5_init_4 rfl ?_
  refine jpc (b := 5) rfl ?_
  refine j_bipush hX dX5_init_5 bp_48 ?_
  refine j_newaN (ty := .int) (t0 := 0) (n := 48) (n0 := h.1.length) hX dX5_init_7 rfl (fun _ => rfl) wAr_int (fun _ => rfl) (by decide) (by decide) (by decide) l0 (by simp [aBel] <;> omega) (by simp [aBel] <;> omega) (by omega) (by rw [s0]; omega) (fun h1 e1 => ?_)
  have l1 : h1.1.length = h.1.length + 1 := len_step e1 l0 rfl
  have s1 : aSn h1.1 = aSn h.1 + 48 := sn_step e1 s0 (by decide) rfl
  have g1_z0 := get_step e1 hs
  refine j_putRFN (k := 0) hX kX5 (by decide) fk_X5_11 (by rw [l1]; omega) dX5_init_9 g1_z0 rfl rfl hnm rfl (fun h2 e2 => ?_)
  have l2 : h2.1.length = h.1.length + 1 := by rw [e2]; exact l1
  have s2 : aSn h2.1 = aSn h.1 + 48 := by rw [e2]; exact s1
  have g2_z0 : h2.1[p]? = _ := by rw [e2]; exact g1_z0
  have hw : h2 = wX5_init p h := by rw [e2, e1]; rfl
  rw [hw]
  exact j_vret hX hr hlk dX5_init_12
def wX9_init (p : Nat) (h : aHp) : aHp :=
  let h1 : aHp := aNew h (.inl (.object "WokenBorder$Law", 4))
  let h2 : aHp := pR h1 p 0 (some (100 + h.1.length))
  let h3 : aHp := aNew h2 (.inl (.object "WokenBorder$Lines", 4))
  let h4 : aHp := pR h3 p 1 (some (100 + (h.1.length + 1)))
  let h5 : aHp := aNew h4 (.inr 4)
  let h6 : aHp := wX4_init (h.1.length + 2) h5
  let h7 : aHp := pR h6 p 2 (some (100 + (h.1.length + 2)))
  let h8 : aHp := aNew h7 (.inr 5)
  let h9 : aHp := wX5_init (h.1.length + 5) h8
  let h10 : aHp := pR h9 p 3 (some (100 + (h.1.length + 5)))
  h10
theorem lenX9_init (p : Nat) (h : aHp) : (wX9_init p h).1.length = h.1.length + 7 := by simp only [wX9_init, aNew_len, pR_len, pI_len, lenX4_init, lenX5_init]
theorem snX9_init (p : Nat) (h : aHp) : aSn (wX9_init p h).1 = aSn h.1 + 334 := by simp only [wX9_init, aNew_sn, pR_sn, pI_sn, snX4_init, snX5_init]; simp [aSz, aN, acl, Nat.add_assoc]
theorem getX9_init {p z : Nat} {h : aHp} {y : aSh} (hs0 : h.1[z]? = some y) : (wX9_init p h).1[z]? = some y := getX5_init (aNew_get (getX4_init (aNew_get (aNew_get (aNew_get (hs0))))))
theorem rvX9_init {p z k : Nat} {h : aHp} (hz : z < h.1.length) (hne : z ≠ p) : (wX9_init p h).2.2.2 z k = h.2.2.2 z k := by
  show (wX9_init p h).2.2.2 z k = _
  unfold wX9_init
  dsimp only
  rw [pR_rv (Or.inl hne), rvX5_init (by simp only [aNew_len, pR_len, pI_len, lenX4_init, lenX5_init]; omega) (by omega), aNew_rv (by simp only [aNew_len, pR_len, pI_len, lenX4_init, lenX5_init]; omega), pR_rv (Or.inl hne), rvX4_init (by simp only [aNew_len, pR_len, pI_len, lenX4_init, lenX5_init]; omega) (by omega), aNew_rv (by simp only [aNew_len, pR_len, pI_len, lenX4_init, lenX5_init]; omega), pR_rv (Or.inl hne), aNew_rv (by simp only [aNew_len, pR_len, pI_len, lenX4_init, lenX5_init]; omega), pR_rv (Or.inl hne), aNew_rv (by simp only [aNew_len, pR_len, pI_len, lenX4_init, lenX5_init]; omega)]
theorem okX9_init {l : Launch} {p : Nat} {h : aHp} (hs : h.1[p]? = some (.inr 9)) : aM l yX9_init cX9_init 1 none 2 [.ref (100 + p)] h none (wX9_init p h) := by
  have hp := aLt hs
  refine aM_of (by decide) (Nat.le_of_ble_eq_true rfl) (by rw [lenX9_init]; omega) (by rw [snX9_init]; omega) (fun p_ e s m args below meth c D cA A ad0 hX hr hlk hnm => ?_)
  generalize hRe : (Room.mk 2 ((wX9_init p h).1.length - h.1.length) (aSn (wX9_init p h).1 - aSn h.1) (64 * 2)) = R
  have hRf : 2 ≤ R.frames := by rw [← hRe]; exact Nat.le_refl _
  have hRl : 64 * 2 ≤ R.locals := by rw [← hRe]; exact Nat.le_refl _
  have hRf1 : 1 ≤ R.frames := Nat.le_trans (by decide) hRf
  have hRl1 : (([] : List Value).map (fun v => v.category)).sum + 12 ≤ R.locals := Nat.le_trans (by decide) hRl
  have hRc : 7 ≤ R.cells := by rw [← hRe]; show 7 ≤ _ - _; rw [lenX9_init]; omega
  have hRs : 334 ≤ R.slots := by rw [← hRe]; show 334 ≤ _ - _; rw [snX9_init]; omega
  have l0 : h.1.length = h.1.length + 0 := rfl
  have s0 : aSn h.1 = aSn h.1 + 0 := rfl
  refine j_aload_n hX dX9_init_0 rfl ?_
  refine j_obj hX lk_X9_3 dX9_init_1 ⟨hRf1, hRl1⟩ ?_
  refine j_aload_n hX dX9_init_4 rfl ?_
  refine jpc (b := 5) rfl ?_
  refine j_iconst hX dX9_init_5 ic_4 ?_
  refine j_newqN (C := "WokenBorder$Law") (t0 := 4) (n := 4) (n0 := h.1.length) hX dX9_init_6 (fun _ => rfl) wCl_RX9_11 wOv_4 (by decide) (by decide) (by decide) l0 (by simp [aBel] <;> omega) (by simp [aBel] <;> omega) (by omega) (by rw [s0]; omega) (fun h1 e1 => ?_)
  have l1 : h1.1.length = h.1.length + 1 := len_step e1 l0 rfl
  have s1 : aSn h1.1 = aSn h.1 + 4 := sn_step e1 s0 (by decide) rfl
  have g1_z0 := get_step e1 hs
  refine j_putRFN (k := 0) hX kX9 (by decide) fk_X9_13 (by rw [l1]; omega) dX9_init_9 g1_z0 rfl rfl hnm rfl (fun h2 e2 => ?_)
  have l2 : h2.1.length = h.1.length + 1 := by rw [e2]; exact l1
  have s2 : aSn h2.1 = aSn h.1 + 4 := by rw [e2]; exact s1
  have g2_z0 : h2.1[p]? = _ := by rw [e2]; exact g1_z0
  refine j_aload_n hX dX9_init_12 rfl ?_
  refine j_iconst hX dX9_init_13 ic_4 ?_
  refine j_newqN (C := "WokenBorder$Lines") (t0 := 5) (n := 4) (n0 := (h.1.length + 1)) hX dX9_init_14 (fun _ => rfl) wCl_RX9_17 wOv_5 (by decide) (by decide) (by decide) l2 (by simp [aBel] <;> omega) (by simp [aBel] <;> omega) (by omega) (by rw [s2]; omega) (fun h3 e3 => ?_)
  have l3 : h3.1.length = h.1.length + 2 := len_step e3 l2 rfl
  have s3 : aSn h3.1 = aSn h.1 + 8 := sn_step e3 s2 (by decide) rfl
  have g3_z0 := get_step e3 g2_z0
  refine j_putRFN (k := 1) hX kX9 (by decide) fk_X9_19 (by rw [l3]; omega) dX9_init_17 g3_z0 rfl rfl hnm rfl (fun h4 e4 => ?_)
  have l4 : h4.1.length = h.1.length + 2 := by rw [e4]; exact l3
  have s4 : aSn h4.1 = aSn h.1 + 8 := by rw [e4]; exact s3
  have g4_z0 : h4.1[p]? = _ := by rw [e4]; exact g3_z0
  refine jpc (b := 20) rfl ?_
  refine j_aload_n hX dX9_init_20 rfl ?_
  refine j_newN (N := 4) (n0 := (h.1.length + 2)) hX kX4 dX9_init_21 wCl_RX9_11 wIn_RX4 wIni_RX4 nf_RX4 l4 (by simp [aBel] <;> omega) (by simp [aBel] <;> omega) (by omega) (by rw [s4]; omega) (fun h5 e5 => ?_)
  have l5 : h5.1.length = h.1.length + 3 := len_step e5 l4 rfl
  have s5 : aSn h5.1 = aSn h.1 + 12 := sn_step e5 s4 (by decide) rfl
  have g5_z0 := get_step e5 g4_z0
  have g5_z1 := last_step e5 l4
  refine j_dup hX dX9_init_24 rfl ?_
  refine jpc (b := 25) rfl ?_
  refine j_callINM (as := []) (q := (h.1.length + 2)) (n0 := (h.1.length + 3)) hX lk_X9_23 dX9_init_25 (okX4_init g5_z1) rfl (rmm (by decide) hRf hRl (by decide)) (Nat.le_of_ble_eq_true rfl) (by rw [lenX4_init, l5]; omega) (by rw [snX4_init, s5]; omega) l5 (by simp [aBel] <;> omega) (by simp [aBel] <;> omega) (fun h6 e6 => ?_)
  have l6 : h6.1.length = h.1.length + 5 := by rw [e6, lenX4_init, l5]
  have s6 : aSn h6.1 = aSn h.1 + 284 := by rw [e6, snX4_init, s5]
  have g6_z0 : h6.1[p]? = _ := by rw [e6]; exact getX4_init g5_z0
  have g6_z1 : h6.1[(h.1.length + 2)]? = _ := by rw [e6]; exact getX4_init g5_z1
  refine j_putRN (k := 2) hX kX9 (by decide) fk_X9_24 (by rw [l6]; omega) dX9_init_28 g6_z0 rfl rfl (fun h7 e7 => ?_)
  have l7 : h7.1.length = h.1.length + 5 := by rw [e7]; exact l6
  have s7 : aSn h7.1 = aSn h.1 + 284 := by rw [e7]; exact s6
  have g7_z0 : h7.1[p]? = _ := by rw [e7]; exact g6_z0
  have g7_z1 : h7.1[(h.1.length + 2)]? = _ := by rw [e7]; exact g6_z1
  refine j_aload_n hX dX9_init_31 rfl ?_
  refine j_newN (N := 2) (n0 := (h.1.length + 5)) hX kX5 dX9_init_32 wCl_RX9_17 wIn_RX5 wIni_RX5 nf_RX5 l7 (by simp [aBel] <;> omega) (by simp [aBel] <;> omega) (by omega) (by rw [s7]; omega) (fun h8 e8 => ?_)
  have l8 : h8.1.length = h.1.length + 6 := len_step e8 l7 rfl
  have s8 : aSn h8.1 = aSn h.1 + 286 := sn_step e8 s7 (by decide) rfl
  have g8_z0 := get_step e8 g7_z0
  have g8_z1 := get_step e8 g7_z1
  have g8_z2 := last_step e8 l7
  refine jpc (b := 35) rfl ?_
  refine j_dup hX dX9_init_35 rfl ?_
  refine j_callINM (as := []) (q := (h.1.length + 5)) (n0 := (h.1.length + 6)) hX lk_X9_28 dX9_init_36 (okX5_init g8_z2) rfl (rmm (by decide) hRf hRl (by decide)) (Nat.le_of_ble_eq_true rfl) (by rw [lenX5_init, l8]; omega) (by rw [snX5_init, s8]; omega) l8 (by simp [aBel] <;> omega) (by simp [aBel] <;> omega) (fun h9 e9 => ?_)
  have l9 : h9.1.length = h.1.length + 7 := by rw [e9, lenX5_init, l8]
  have s9 : aSn h9.1 = aSn h.1 + 334 := by rw [e9, snX5_init, s8]
  have g9_z0 : h9.1[p]? = _ := by rw [e9]; exact getX5_init g8_z0
  have g9_z1 : h9.1[(h.1.length + 2)]? = _ := by rw [e9]; exact getX5_init g8_z1
  have g9_z2 : h9.1[(h.1.length + 5)]? = _ := by rw [e9]; exact getX5_init g8_z2
  refine j_putRN (k := 3) hX kX9 (by decide) fk_X9_29 (by rw [l9]; omega) dX9_init_39 g9_z0 rfl rfl (fun h10 e10 => ?_)
  have l10 : h10.1.length = h.1.length + 7 := by rw [e10]; exact l9
  have s10 : aSn h10.1 = aSn h.1 + 334 := by rw [e10]; exact s9
  have g10_z0 : h10.1[p]? = _ := by rw [e10]; exact g9_z0
  have g10_z1 : h10.1[(h.1.length + 2)]? = _ := by rw [e10]; exact g9_z1
  have g10_z2 : h10.1[(h.1.length + 5)]? = _ := by rw [e10]; exact g9_z2
  have hw : h10 = wX9_init p h := by rw [e10, e9, e8, e7, e6, e5, e4, e3, e2, e1]; rfl
  rw [hw]
  exact j_vret hX hr hlk dX9_init_42
def wX1_init (p : Nat) (h : aHp) : aHp :=
  let h1 : aHp := aNew h (.inl (.int, 4))
  let h2 : aHp := pR h1 p 0 (some (100 + h.1.length))
  let h3 : aHp := aNew h2 (.inl (.int, 54))
  let h4 : aHp := pR h3 p 1 (some (100 + (h.1.length + 1)))
  let h5 : aHp := aNew h4 (.inl (.int, 16))
  let h6 : aHp := pR h5 p 2 (some (100 + (h.1.length + 2)))
  h6
theorem lenX1_init (p : Nat) (h : aHp) : (wX1_init p h).1.length = h.1.length + 3 := by simp only [wX1_init, aNew_len, pR_len, pI_len]
theorem snX1_init (p : Nat) (h : aHp) : aSn (wX1_init p h).1 = aSn h.1 + 74 := by simp only [wX1_init, aNew_sn, pR_sn, pI_sn]; simp [aSz, aN, acl, Nat.add_assoc]
theorem getX1_init {p z : Nat} {h : aHp} {y : aSh} (hs0 : h.1[z]? = some y) : (wX1_init p h).1[z]? = some y := aNew_get (aNew_get (aNew_get (hs0)))
theorem rvX1_init {p z k : Nat} {h : aHp} (hz : z < h.1.length) (hne : z ≠ p) : (wX1_init p h).2.2.2 z k = h.2.2.2 z k := by
  show (wX1_init p h).2.2.2 z k = _
  unfold wX1_init
  dsimp only
  rw [pR_rv (Or.inl hne), aNew_rv (by simp only [aNew_len, pR_len, pI_len]; omega), pR_rv (Or.inl hne), aNew_rv (by simp only [aNew_len, pR_len, pI_len]; omega), pR_rv (Or.inl hne), aNew_rv (by simp only [aNew_len, pR_len, pI_len]; omega)]
theorem okX1_init {l : Launch} {p : Nat} {h : aHp} (hs : h.1[p]? = some (.inr 1)) : aM l yX1_init cX1_init 1 none 1 [.ref (100 + p)] h none (wX1_init p h) := by
  have hp := aLt hs
  refine aM_of (by decide) (Nat.le_of_ble_eq_true rfl) (by rw [lenX1_init]; omega) (by rw [snX1_init]; omega) (fun p_ e s m args below meth c D cA A ad0 hX hr hlk hnm => ?_)
  generalize hRe : (Room.mk 1 ((wX1_init p h).1.length - h.1.length) (aSn (wX1_init p h).1 - aSn h.1) (64 * 1)) = R
  have hRf : 1 ≤ R.frames := by rw [← hRe]; exact Nat.le_refl _
  have hRl : 64 * 1 ≤ R.locals := by rw [← hRe]; exact Nat.le_refl _
  have hRf1 : 1 ≤ R.frames := Nat.le_trans (by decide) hRf
  have hRl1 : (([] : List Value).map (fun v => v.category)).sum + 12 ≤ R.locals := Nat.le_trans (by decide) hRl
  have hRc : 3 ≤ R.cells := by rw [← hRe]; show 3 ≤ _ - _; rw [lenX1_init]; omega
  have hRs : 74 ≤ R.slots := by rw [← hRe]; show 74 ≤ _ - _; rw [snX1_init]; omega
  have l0 : h.1.length = h.1.length + 0 := rfl
  have s0 : aSn h.1 = aSn h.1 + 0 := rfl
  refine j_aload_n hX dX1_init_0 rfl ?_
  refine j_obj hX lk_X1_3 dX1_init_1 ⟨hRf1, hRl1⟩ ?_
  refine j_aload_n hX dX1_init_4 rfl ?_
  refine jpc (b := 5) rfl ?_
  refine j_iconst hX dX1_init_5 ic_4 ?_
  refine j_newaN (ty := .int) (t0 := 0) (n := 4) (n0 := h.1.length) hX dX1_init_6 rfl (fun _ => rfl) wAr_int (fun _ => rfl) (by decide) (by decide) (by decide) l0 (by simp [aBel] <;> omega) (by simp [aBel] <;> omega) (by omega) (by rw [s0]; omega) (fun h1 e1 => ?_)
  have l1 : h1.1.length = h.1.length + 1 := len_step e1 l0 rfl
  have s1 : aSn h1.1 = aSn h.1 + 4 := sn_step e1 s0 (by decide) rfl
  have g1_z0 := get_step e1 hs
  refine j_putRFN (k := 0) hX kX1 (by decide) fk_X1_11 (by rw [l1]; omega) dX1_init_8 g1_z0 rfl rfl hnm rfl (fun h2 e2 => ?_)
  have l2 : h2.1.length = h.1.length + 1 := by rw [e2]; exact l1
  have s2 : aSn h2.1 = aSn h.1 + 4 := by rw [e2]; exact s1
  have g2_z0 : h2.1[p]? = _ := by rw [e2]; exact g1_z0
  refine j_aload_n hX dX1_init_11 rfl ?_
  refine j_bipush hX dX1_init_12 bp_54 ?_
  refine j_newaN (ty := .int) (t0 := 0) (n := 54) (n0 := (h.1.length + 1)) hX dX1_init_14 rfl (fun _ => rfl) wAr_int (fun _ => rfl) (by decide) (by decide) (by decide) l2 (by simp [aBel] <;> omega) (by simp [aBel] <;> omega) (by omega) (by rw [s2]; omega) (fun h3 e3 => ?_)
  have l3 : h3.1.length = h.1.length + 2 := len_step e3 l2 rfl
  have s3 : aSn h3.1 = aSn h.1 + 58 := sn_step e3 s2 (by decide) rfl
  have g3_z0 := get_step e3 g2_z0
  refine j_putRFN (k := 1) hX kX1 (by decide) fk_X1_15 (by rw [l3]; omega) dX1_init_16 g3_z0 rfl rfl hnm rfl (fun h4 e4 => ?_)
  have l4 : h4.1.length = h.1.length + 2 := by rw [e4]; exact l3
  have s4 : aSn h4.1 = aSn h.1 + 58 := by rw [e4]; exact s3
  have g4_z0 : h4.1[p]? = _ := by rw [e4]; exact g3_z0
  refine j_aload_n hX dX1_init_19 rfl ?_
  refine jpc (b := 20) rfl ?_
  refine j_bipush hX dX1_init_20 bp_16 ?_
  refine j_newaN (ty := .int) (t0 := 0) (n := 16) (n0 := (h.1.length + 2)) hX dX1_init_22 rfl (fun _ => rfl) wAr_int (fun _ => rfl) (by decide) (by decide) (by decide) l4 (by simp [aBel] <;> omega) (by simp [aBel] <;> omega) (by omega) (by rw [s4]; omega) (fun h5 e5 => ?_)
  have l5 : h5.1.length = h.1.length + 3 := len_step e5 l4 rfl
  have s5 : aSn h5.1 = aSn h.1 + 74 := sn_step e5 s4 (by decide) rfl
  have g5_z0 := get_step e5 g4_z0
  refine j_putRFN (k := 2) hX kX1 (by decide) fk_X1_18 (by rw [l5]; omega) dX1_init_24 g5_z0 rfl rfl hnm rfl (fun h6 e6 => ?_)
  have l6 : h6.1.length = h.1.length + 3 := by rw [e6]; exact l5
  have s6 : aSn h6.1 = aSn h.1 + 74 := by rw [e6]; exact s5
  have g6_z0 : h6.1[p]? = _ := by rw [e6]; exact g5_z0
  have hw : h6 = wX1_init p h := by rw [e6, e5, e4, e3, e2, e1]; rfl
  rw [hw]
  exact j_vret hX hr hlk dX1_init_27
def wX8_init (p : Nat) (h : aHp) : aHp :=
  let h1 : aHp := aNew h (.inl (.int, 56))
  let h2 : aHp := pR h1 p 0 (some (100 + h.1.length))
  h2
theorem lenX8_init (p : Nat) (h : aHp) : (wX8_init p h).1.length = h.1.length + 1 := by simp only [wX8_init, aNew_len, pR_len, pI_len]
theorem snX8_init (p : Nat) (h : aHp) : aSn (wX8_init p h).1 = aSn h.1 + 56 := by simp only [wX8_init, aNew_sn, pR_sn, pI_sn]; simp [aSz, aN, acl, Nat.add_assoc]
theorem getX8_init {p z : Nat} {h : aHp} {y : aSh} (hs0 : h.1[z]? = some y) : (wX8_init p h).1[z]? = some y := aNew_get (hs0)
theorem rvX8_init {p z k : Nat} {h : aHp} (hz : z < h.1.length) (hne : z ≠ p) : (wX8_init p h).2.2.2 z k = h.2.2.2 z k := by
  show (wX8_init p h).2.2.2 z k = _
  unfold wX8_init
  dsimp only
  rw [pR_rv (Or.inl hne), aNew_rv (by simp only [aNew_len, pR_len, pI_len]; omega)]
theorem okX8_init {l : Launch} {p : Nat} {h : aHp} (hs : h.1[p]? = some (.inr 8)) : aM l yX8_init cX8_init 1 none 1 [.ref (100 + p)] h none (wX8_init p h) := by
  have hp := aLt hs
  refine aM_of (by decide) (Nat.le_of_ble_eq_true rfl) (by rw [lenX8_init]; omega) (by rw [snX8_init]; omega) (fun p_ e s m args below meth c D cA A ad0 hX hr hlk hnm => ?_)
  generalize hRe : (Room.mk 1 ((wX8_init p h).1.length - h.1.length) (aSn (wX8_init p h).1 - aSn h.1) (64 * 1)) = R
  have hRf : 1 ≤ R.frames := by rw [← hRe]; exact Nat.le_refl _
  have hRl : 64 * 1 ≤ R.locals := by rw [← hRe]; exact Nat.le_refl _
  have hRf1 : 1 ≤ R.frames := Nat.le_trans (by decide) hRf
  have hRl1 : (([] : List Value).map (fun v => v.category)).sum + 12 ≤ R.locals := Nat.le_trans (by decide) hRl
  have hRc : 1 ≤ R.cells := by rw [← hRe]; show 1 ≤ _ - _; rw [lenX8_init]; omega
  have hRs : 56 ≤ R.slots := by rw [← hRe]; show 56 ≤ _ - _; rw [snX8_init]; omega
  have l0 : h.1.length = h.1.length + 0 := rfl
  have s0 : aSn h.1 = aSn h.1 + 0 := rfl
  refine j_aload_n hX dX8_init_0 rfl ?_
  refine j_obj hX lk_X8_3 dX8_init_1 ⟨hRf1, hRl1⟩ ?_
  refine j_aload_n hX dX8_init_4 rfl ?_
  refine jpc (b := 5) rfl ?_
  refine j_bipush hX dX8_init_5 bp_56 ?_
  refine j_newaN (ty := .int) (t0 := 0) (n := 56) (n0 := h.1.length) hX dX8_init_7 rfl (fun _ => rfl) wAr_int (fun _ => rfl) (by decide) (by decide) (by decide) l0 (by simp [aBel] <;> omega) (by simp [aBel] <;> omega) (by omega) (by rw [s0]; omega) (fun h1 e1 => ?_)
  have l1 : h1.1.length = h.1.length + 1 := len_step e1 l0 rfl
  have s1 : aSn h1.1 = aSn h.1 + 56 := sn_step e1 s0 (by decide) rfl
  have g1_z0 := get_step e1 hs
  refine j_putRFN (k := 0) hX kX8 (by decide) fk_X8_11 (by rw [l1]; omega) dX8_init_9 g1_z0 rfl rfl hnm rfl (fun h2 e2 => ?_)
  have l2 : h2.1.length = h.1.length + 1 := by rw [e2]; exact l1
  have s2 : aSn h2.1 = aSn h.1 + 56 := by rw [e2]; exact s1
  have g2_z0 : h2.1[p]? = _ := by rw [e2]; exact g1_z0
  have hw : h2 = wX8_init p h := by rw [e2, e1]; rfl
  rw [hw]
  exact j_vret hX hr hlk dX8_init_12
def wX3_init (p q0 : Nat) (h : aHp) : aHp :=
  let h1 : aHp := aNew h (.inl (.int, 6))
  let h2 : aHp := pR h1 p 1 (some (100 + h.1.length))
  let h3 : aHp := pR h2 p 0 (some (100 + q0))
  h3
theorem lenX3_init (p q0 : Nat) (h : aHp) : (wX3_init p q0 h).1.length = h.1.length + 1 := by simp only [wX3_init, aNew_len, pR_len, pI_len]
theorem snX3_init (p q0 : Nat) (h : aHp) : aSn (wX3_init p q0 h).1 = aSn h.1 + 6 := by simp only [wX3_init, aNew_sn, pR_sn, pI_sn]; simp [aSz, aN, acl, Nat.add_assoc]
theorem getX3_init {p q0 z : Nat} {h : aHp} {y : aSh} (hs0 : h.1[z]? = some y) : (wX3_init p q0 h).1[z]? = some y := aNew_get (hs0)
theorem rvX3_init {p q0 z k : Nat} {h : aHp} (hz : z < h.1.length) (hne : z ≠ p) : (wX3_init p q0 h).2.2.2 z k = h.2.2.2 z k := by
  show (wX3_init p q0 h).2.2.2 z k = _
  unfold wX3_init
  dsimp only
  rw [pR_rv (Or.inl hne), pR_rv (Or.inl hne), aNew_rv (by simp only [aNew_len, pR_len, pI_len]; omega)]
theorem okX3_init {l : Launch} {p q0 : Nat} {h : aHp} (hs : h.1[p]? = some (.inr 3)) (hq0 : h.1[q0]? = some (.inr 1)) : aM l yX3_init cX3_init 2 none 1 [.ref (100 + p), .ref (100 + q0)] h none (wX3_init p q0 h) := by
  have hp := aLt hs
  have hp0 := aLt hq0
  refine aM_of (by decide) (Nat.le_of_ble_eq_true rfl) (by rw [lenX3_init]; omega) (by rw [snX3_init]; omega) (fun p_ e s m args below meth c D cA A ad0 hX hr hlk hnm => ?_)
  generalize hRe : (Room.mk 1 ((wX3_init p q0 h).1.length - h.1.length) (aSn (wX3_init p q0 h).1 - aSn h.1) (64 * 1)) = R
  have hRf : 1 ≤ R.frames := by rw [← hRe]; exact Nat.le_refl _
  have hRl : 64 * 1 ≤ R.locals := by rw [← hRe]; exact Nat.le_refl _
  have hRf1 : 1 ≤ R.frames := Nat.le_trans (by decide) hRf
  have hRl1 : (([] : List Value).map (fun v => v.category)).sum + 12 ≤ R.locals := Nat.le_trans (by decide) hRl
  have hRc : 1 ≤ R.cells := by rw [← hRe]; show 1 ≤ _ - _; rw [lenX3_init]; omega
  have hRs : 6 ≤ R.slots := by rw [← hRe]; show 6 ≤ _ - _; rw [snX3_init]; omega
  have l0 : h.1.length = h.1.length + 0 := rfl
  have s0 : aSn h.1 = aSn h.1 + 0 := rfl
  refine j_aload_n hX dX3_init_0 rfl ?_
  refine j_obj hX lk_X3_3 dX3_init_1 ⟨hRf1, hRl1⟩ ?_
  refine j_aload_n hX dX3_init_4 rfl ?_
  refine jpc (b := 5) rfl ?_
  refine j_bipush hX dX3_init_5 bp_6 ?_
  refine j_newaN (ty := .int) (t0 := 0) (n := 6) (n0 := h.1.length) hX dX3_init_7 rfl (fun _ => rfl) wAr_int (fun _ => rfl) (by decide) (by decide) (by decide) l0 (by simp [aBel] <;> omega) (by simp [aBel] <;> omega) (by omega) (by rw [s0]; omega) (fun h1 e1 => ?_)
  have l1 : h1.1.length = h.1.length + 1 := len_step e1 l0 rfl
  have s1 : aSn h1.1 = aSn h.1 + 6 := sn_step e1 s0 (by decide) rfl
  have g1_z0 := get_step e1 hs
  have g1_z1 := get_step e1 hq0
  refine j_putRFN (k := 1) hX kX3 (by decide) fk_X3_11 (by rw [l1]; omega) dX3_init_9 g1_z0 rfl rfl hnm rfl (fun h2 e2 => ?_)
  have l2 : h2.1.length = h.1.length + 1 := by rw [e2]; exact l1
  have s2 : aSn h2.1 = aSn h.1 + 6 := by rw [e2]; exact s1
  have g2_z0 : h2.1[p]? = _ := by rw [e2]; exact g1_z0
  have g2_z1 : h2.1[q0]? = _ := by rw [e2]; exact g1_z1
  refine j_aload_n hX dX3_init_12 rfl ?_
  refine j_aload_n hX dX3_init_13 rfl ?_
  refine j_putRFN (k := 0) hX kX3 (by decide) fk_X3_17 (by rw [l2]; omega) dX3_init_14 g2_z0 rfl rfl hnm rfl (fun h3 e3 => ?_)
  have l3 : h3.1.length = h.1.length + 1 := by rw [e3]; exact l2
  have s3 : aSn h3.1 = aSn h.1 + 6 := by rw [e3]; exact s2
  have g3_z0 : h3.1[p]? = _ := by rw [e3]; exact g2_z0
  have g3_z1 : h3.1[q0]? = _ := by rw [e3]; exact g2_z1
  have hw : h3 = wX3_init p q0 h := by rw [e3, e2, e1]; rfl
  rw [hw]
  exact j_vret hX hr hlk dX3_init_17
def wX6_init (p : Nat) (h : aHp) : aHp :=
  let h1 : aHp := aNew h (.inl (.int, 2296))
  let h2 : aHp := pR h1 p 0 (some (100 + h.1.length))
  let h3 : aHp := aNew h2 (.inl (.int, 400))
  let h4 : aHp := pR h3 p 1 (some (100 + (h.1.length + 1)))
  let h5 : aHp := aNew h4 (.inl (.int, 56))
  let h6 : aHp := pR h5 p 2 (some (100 + (h.1.length + 2)))
  let h7 : aHp := aNew h6 (.inl (.int, 400))
  let h8 : aHp := pR h7 p 3 (some (100 + (h.1.length + 3)))
  h8
theorem lenX6_init (p : Nat) (h : aHp) : (wX6_init p h).1.length = h.1.length + 4 := by simp only [wX6_init, aNew_len, pR_len, pI_len]
theorem snX6_init (p : Nat) (h : aHp) : aSn (wX6_init p h).1 = aSn h.1 + 3152 := by simp only [wX6_init, aNew_sn, pR_sn, pI_sn]; simp [aSz, aN, acl, Nat.add_assoc]
theorem getX6_init {p z : Nat} {h : aHp} {y : aSh} (hs0 : h.1[z]? = some y) : (wX6_init p h).1[z]? = some y := aNew_get (aNew_get (aNew_get (aNew_get (hs0))))
theorem rvX6_init {p z k : Nat} {h : aHp} (hz : z < h.1.length) (hne : z ≠ p) : (wX6_init p h).2.2.2 z k = h.2.2.2 z k := by
  show (wX6_init p h).2.2.2 z k = _
  unfold wX6_init
  dsimp only
  rw [pR_rv (Or.inl hne), aNew_rv (by simp only [aNew_len, pR_len, pI_len]; omega), pR_rv (Or.inl hne), aNew_rv (by simp only [aNew_len, pR_len, pI_len]; omega), pR_rv (Or.inl hne), aNew_rv (by simp only [aNew_len, pR_len, pI_len]; omega), pR_rv (Or.inl hne), aNew_rv (by simp only [aNew_len, pR_len, pI_len]; omega)]
theorem okX6_init {l : Launch} {p : Nat} {h : aHp} (hs : h.1[p]? = some (.inr 6)) : aM l yX6_init cX6_init 1 none 1 [.ref (100 + p)] h none (wX6_init p h) := by
  have hp := aLt hs
  refine aM_of (by decide) (Nat.le_of_ble_eq_true rfl) (by rw [lenX6_init]; omega) (by rw [snX6_init]; omega) (fun p_ e s m args below meth c D cA A ad0 hX hr hlk hnm => ?_)
  generalize hRe : (Room.mk 1 ((wX6_init p h).1.length - h.1.length) (aSn (wX6_init p h).1 - aSn h.1) (64 * 1)) = R
  have hRf : 1 ≤ R.frames := by rw [← hRe]; exact Nat.le_refl _
  have hRl : 64 * 1 ≤ R.locals := by rw [← hRe]; exact Nat.le_refl _
  have hRf1 : 1 ≤ R.frames := Nat.le_trans (by decide) hRf
  have hRl1 : (([] : List Value).map (fun v => v.category)).sum + 12 ≤ R.locals := Nat.le_trans (by decide) hRl
  have hRc : 4 ≤ R.cells := by rw [← hRe]; show 4 ≤ _ - _; rw [lenX6_init]; omega
  have hRs : 3152 ≤ R.slots := by rw [← hRe]; show 3152 ≤ _ - _; rw [snX6_init]; omega
  have l0 : h.1.length = h.1.length + 0 := rfl
  have s0 : aSn h.1 = aSn h.1 + 0 := rfl
  refine j_aload_n hX dX6_init_0 rfl ?_
  refine j_obj hX lk_X6_3 dX6_init_1 ⟨hRf1, hRl1⟩ ?_
  refine j_aload_n hX dX6_init_4 rfl ?_
  refine jpc (b := 5) rfl ?_
  refine j_sipush hX dX6_init_5 sp_2296 ?_
  refine j_newaN (ty := .int) (t0 := 0) (n := 2296) (n0 := h.1.length) hX dX6_init_8 rfl (fun _ => rfl) wAr_int (fun _ => rfl) (by decide) (by decide) (by decide) l0 (by simp [aBel] <;> omega) (by simp [aBel] <;> omega) (by omega) (by rw [s0]; omega) (fun h1 e1 => ?_)
  have l1 : h1.1.length = h.1.length + 1 := len_step e1 l0 rfl
  have s1 : aSn h1.1 = aSn h.1 + 2296 := sn_step e1 s0 (by decide) rfl
  have g1_z0 := get_step e1 hs
  refine jpc (b := 10) rfl ?_
  refine j_putRFN (k := 0) hX kX6 (by decide) fk_X6_11 (by rw [l1]; omega) dX6_init_10 g1_z0 rfl rfl hnm rfl (fun h2 e2 => ?_)
  have l2 : h2.1.length = h.1.length + 1 := by rw [e2]; exact l1
  have s2 : aSn h2.1 = aSn h.1 + 2296 := by rw [e2]; exact s1
  have g2_z0 : h2.1[p]? = _ := by rw [e2]; exact g1_z0
  refine j_aload_n hX dX6_init_13 rfl ?_
  refine j_sipush hX dX6_init_14 sp_400 ?_
  refine j_newaN (ty := .int) (t0 := 0) (n := 400) (n0 := (h.1.length + 1)) hX dX6_init_17 rfl (fun _ => rfl) wAr_int (fun _ => rfl) (by decide) (by decide) (by decide) l2 (by simp [aBel] <;> omega) (by simp [aBel] <;> omega) (by omega) (by rw [s2]; omega) (fun h3 e3 => ?_)
  have l3 : h3.1.length = h.1.length + 2 := len_step e3 l2 rfl
  have s3 : aSn h3.1 = aSn h.1 + 2696 := sn_step e3 s2 (by decide) rfl
  have g3_z0 := get_step e3 g2_z0
  refine j_putRFN (k := 1) hX kX6 (by decide) fk_X6_15 (by rw [l3]; omega) dX6_init_19 g3_z0 rfl rfl hnm rfl (fun h4 e4 => ?_)
  have l4 : h4.1.length = h.1.length + 2 := by rw [e4]; exact l3
  have s4 : aSn h4.1 = aSn h.1 + 2696 := by rw [e4]; exact s3
  have g4_z0 : h4.1[p]? = _ := by rw [e4]; exact g3_z0
  refine j_aload_n hX dX6_init_22 rfl ?_
  refine j_bipush hX dX6_init_23 bp_56 ?_
  refine jpc (b := 25) rfl ?_
  refine j_newaN (ty := .int) (t0 := 0) (n := 56) (n0 := (h.1.length + 2)) hX dX6_init_25 rfl (fun _ => rfl) wAr_int (fun _ => rfl) (by decide) (by decide) (by decide) l4 (by simp [aBel] <;> omega) (by simp [aBel] <;> omega) (by omega) (by rw [s4]; omega) (fun h5 e5 => ?_)
  have l5 : h5.1.length = h.1.length + 3 := len_step e5 l4 rfl
  have s5 : aSn h5.1 = aSn h.1 + 2752 := sn_step e5 s4 (by decide) rfl
  have g5_z0 := get_step e5 g4_z0
  refine j_putRFN (k := 2) hX kX6 (by decide) fk_X6_18 (by rw [l5]; omega) dX6_init_27 g5_z0 rfl rfl hnm rfl (fun h6 e6 => ?_)
  have l6 : h6.1.length = h.1.length + 3 := by rw [e6]; exact l5
  have s6 : aSn h6.1 = aSn h.1 + 2752 := by rw [e6]; exact s5
  have g6_z0 : h6.1[p]? = _ := by rw [e6]; exact g5_z0
  refine jpc (b := 30) rfl ?_
  refine j_aload_n hX dX6_init_30 rfl ?_
  refine j_sipush hX dX6_init_31 sp_400 ?_
  refine j_newaN (ty := .int) (t0 := 0) (n := 400) (n0 := (h.1.length + 3)) hX dX6_init_34 rfl (fun _ => rfl) wAr_int (fun _ => rfl) (by decide) (by decide) (by decide) l6 (by simp [aBel] <;> omega) (by simp [aBel] <;> omega) (by omega) (by rw [s6]; omega) (fun h7 e7 => ?_)
  have l7 : h7.1.length = h.1.length + 4 := len_step e7 l6 rfl
  have s7 : aSn h7.1 = aSn h.1 + 3152 := sn_step e7 s6 (by decide) rfl
  have g7_z0 := get_step e7 g6_z0
  refine j_putRFN (k := 3) hX kX6 (by decide) fk_X6_21 (by rw [l7]; omega) dX6_init_36 g7_z0 rfl rfl hnm rfl (fun h8 e8 => ?_)
  have l8 : h8.1.length = h.1.length + 4 := by rw [e8]; exact l7
  have s8 : aSn h8.1 = aSn h.1 + 3152 := by rw [e8]; exact s7
  have g8_z0 : h8.1[p]? = _ := by rw [e8]; exact g7_z0
  have hw : h8 = wX6_init p h := by rw [e8, e7, e6, e5, e4, e3, e2, e1]; rfl
  rw [hw]
  exact j_vret hX hr hlk dX6_init_39
def wX7_init (p q0 q1 q2 : Nat) (h : aHp) : aHp :=
  let h1 : aHp := aNew h (.inl (.int, 9))
  let h2 : aHp := pR h1 p 3 (some (100 + h.1.length))
  let h3 : aHp := aNew h2 (.inl (.int, 7))
  let h4 : aHp := pR h3 p 4 (some (100 + (h.1.length + 1)))
  let h5 : aHp := aNew h4 (.inl (.int, 128))
  let h6 : aHp := pR h5 p 5 (some (100 + (h.1.length + 2)))
  let h7 : aHp := aNew h6 (.inl (.int, 896))
  let h8 : aHp := pR h7 p 6 (some (100 + (h.1.length + 3)))
  let h9 : aHp := pR h8 p 0 (some (100 + q0))
  let h10 : aHp := pR h9 p 1 (some (100 + q1))
  let h11 : aHp := pR h10 p 2 (some (100 + q2))
  h11
theorem lenX7_init (p q0 q1 q2 : Nat) (h : aHp) : (wX7_init p q0 q1 q2 h).1.length = h.1.length + 4 := by simp only [wX7_init, aNew_len, pR_len, pI_len]
theorem snX7_init (p q0 q1 q2 : Nat) (h : aHp) : aSn (wX7_init p q0 q1 q2 h).1 = aSn h.1 + 1040 := by simp only [wX7_init, aNew_sn, pR_sn, pI_sn]; simp [aSz, aN, acl, Nat.add_assoc]
theorem getX7_init {p q0 q1 q2 z : Nat} {h : aHp} {y : aSh} (hs0 : h.1[z]? = some y) : (wX7_init p q0 q1 q2 h).1[z]? = some y := aNew_get (aNew_get (aNew_get (aNew_get (hs0))))
theorem rvX7_init {p q0 q1 q2 z k : Nat} {h : aHp} (hz : z < h.1.length) (hne : z ≠ p) : (wX7_init p q0 q1 q2 h).2.2.2 z k = h.2.2.2 z k := by
  show (wX7_init p q0 q1 q2 h).2.2.2 z k = _
  unfold wX7_init
  dsimp only
  rw [pR_rv (Or.inl hne), pR_rv (Or.inl hne), pR_rv (Or.inl hne), pR_rv (Or.inl hne), aNew_rv (by simp only [aNew_len, pR_len, pI_len]; omega), pR_rv (Or.inl hne), aNew_rv (by simp only [aNew_len, pR_len, pI_len]; omega), pR_rv (Or.inl hne), aNew_rv (by simp only [aNew_len, pR_len, pI_len]; omega), pR_rv (Or.inl hne), aNew_rv (by simp only [aNew_len, pR_len, pI_len]; omega)]
theorem okX7_init {l : Launch} {p q0 q1 q2 : Nat} {h : aHp} (hs : h.1[p]? = some (.inr 7)) (hq0 : h.1[q0]? = some (.inr 1)) (hq1 : h.1[q1]? = some (.inr 3)) (hq2 : h.1[q2]? = some (.inr 8)) : aM l yX7_init cX7_init 4 none 1 [.ref (100 + p), .ref (100 + q0), .ref (100 + q1), .ref (100 + q2)] h none (wX7_init p q0 q1 q2 h) := by
  have hp := aLt hs
  have hp0 := aLt hq0
  have hp1 := aLt hq1
  have hp2 := aLt hq2
  refine aM_of (by decide) (Nat.le_of_ble_eq_true rfl) (by rw [lenX7_init]; omega) (by rw [snX7_init]; omega) (fun p_ e s m args below meth c D cA A ad0 hX hr hlk hnm => ?_)
  generalize hRe : (Room.mk 1 ((wX7_init p q0 q1 q2 h).1.length - h.1.length) (aSn (wX7_init p q0 q1 q2 h).1 - aSn h.1) (64 * 1)) = R
  have hRf : 1 ≤ R.frames := by rw [← hRe]; exact Nat.le_refl _
  have hRl : 64 * 1 ≤ R.locals := by rw [← hRe]; exact Nat.le_refl _
  have hRf1 : 1 ≤ R.frames := Nat.le_trans (by decide) hRf
  have hRl1 : (([] : List Value).map (fun v => v.category)).sum + 12 ≤ R.locals := Nat.le_trans (by decide) hRl
  have hRc : 4 ≤ R.cells := by rw [← hRe]; show 4 ≤ _ - _; rw [lenX7_init]; omega
  have hRs : 1040 ≤ R.slots := by rw [← hRe]; show 1040 ≤ _ - _; rw [snX7_init]; omega
  have l0 : h.1.length = h.1.length + 0 := rfl
  have s0 : aSn h.1 = aSn h.1 + 0 := rfl
  refine j_aload_n hX dX7_init_0 rfl ?_
  refine j_obj hX lk_X7_5 dX7_init_1 ⟨hRf1, hRl1⟩ ?_
  refine j_aload_n hX dX7_init_4 rfl ?_
  refine jpc (b := 5) rfl ?_
  refine j_bipush hX dX7_init_5 bp_9 ?_
  refine j_newaN (ty := .int) (t0 := 0) (n := 9) (n0 := h.1.length) hX dX7_init_7 rfl (fun _ => rfl) wAr_int (fun _ => rfl) (by decide) (by decide) (by decide) l0 (by simp [aBel] <;> omega) (by simp [aBel] <;> omega) (by omega) (by rw [s0]; omega) (fun h1 e1 => ?_)
  have l1 : h1.1.length = h.1.length + 1 := len_step e1 l0 rfl
  have s1 : aSn h1.1 = aSn h.1 + 9 := sn_step e1 s0 (by decide) rfl
  have g1_z0 := get_step e1 hs
  have g1_z1 := get_step e1 hq0
  have g1_z2 := get_step e1 hq1
  have g1_z3 := get_step e1 hq2
  refine j_putRFN (k := 3) hX kX7 (by decide) fk_X7_13 (by rw [l1]; omega) dX7_init_9 g1_z0 rfl rfl hnm rfl (fun h2 e2 => ?_)
  have l2 : h2.1.length = h.1.length + 1 := by rw [e2]; exact l1
  have s2 : aSn h2.1 = aSn h.1 + 9 := by rw [e2]; exact s1
  have g2_z0 : h2.1[p]? = _ := by rw [e2]; exact g1_z0
  have g2_z1 : h2.1[q0]? = _ := by rw [e2]; exact g1_z1
  have g2_z2 : h2.1[q1]? = _ := by rw [e2]; exact g1_z2
  have g2_z3 : h2.1[q2]? = _ := by rw [e2]; exact g1_z3
  refine j_aload_n hX dX7_init_12 rfl ?_
  refine j_bipush hX dX7_init_13 bp_7 ?_
  refine jpc (b := 15) rfl ?_
  refine j_newaN (ty := .int) (t0 := 0) (n := 7) (n0 := (h.1.length + 1)) hX dX7_init_15 rfl (fun _ => rfl) wAr_int (fun _ => rfl) (by decide) (by decide) (by decide) l2 (by simp [aBel] <;> omega) (by simp [aBel] <;> omega) (by omega) (by rw [s2]; omega) (fun h3 e3 => ?_)
  have l3 : h3.1.length = h.1.length + 2 := len_step e3 l2 rfl
  have s3 : aSn h3.1 = aSn h.1 + 16 := sn_step e3 s2 (by decide) rfl
  have g3_z0 := get_step e3 g2_z0
  have g3_z1 := get_step e3 g2_z1
  have g3_z2 := get_step e3 g2_z2
  have g3_z3 := get_step e3 g2_z3
  refine j_putRFN (k := 4) hX kX7 (by decide) fk_X7_17 (by rw [l3]; omega) dX7_init_17 g3_z0 rfl rfl hnm rfl (fun h4 e4 => ?_)
  have l4 : h4.1.length = h.1.length + 2 := by rw [e4]; exact l3
  have s4 : aSn h4.1 = aSn h.1 + 16 := by rw [e4]; exact s3
  have g4_z0 : h4.1[p]? = _ := by rw [e4]; exact g3_z0
  have g4_z1 : h4.1[q0]? = _ := by rw [e4]; exact g3_z1
  have g4_z2 : h4.1[q1]? = _ := by rw [e4]; exact g3_z2
  have g4_z3 : h4.1[q2]? = _ := by rw [e4]; exact g3_z3
  refine jpc (b := 20) rfl ?_
  refine j_aload_n hX dX7_init_20 rfl ?_
  refine j_sipush hX dX7_init_21 sp_128 ?_
  refine j_newaN (ty := .int) (t0 := 0) (n := 128) (n0 := (h.1.length + 2)) hX dX7_init_24 rfl (fun _ => rfl) wAr_int (fun _ => rfl) (by decide) (by decide) (by decide) l4 (by simp [aBel] <;> omega) (by simp [aBel] <;> omega) (by omega) (by rw [s4]; omega) (fun h5 e5 => ?_)
  have l5 : h5.1.length = h.1.length + 3 := len_step e5 l4 rfl
  have s5 : aSn h5.1 = aSn h.1 + 144 := sn_step e5 s4 (by decide) rfl
  have g5_z0 := get_step e5 g4_z0
  have g5_z1 := get_step e5 g4_z1
  have g5_z2 := get_step e5 g4_z2
  have g5_z3 := get_step e5 g4_z3
  refine j_putRFN (k := 5) hX kX7 (by decide) fk_X7_20 (by rw [l5]; omega) dX7_init_26 g5_z0 rfl rfl hnm rfl (fun h6 e6 => ?_)
  have l6 : h6.1.length = h.1.length + 3 := by rw [e6]; exact l5
  have s6 : aSn h6.1 = aSn h.1 + 144 := by rw [e6]; exact s5
  have g6_z0 : h6.1[p]? = _ := by rw [e6]; exact g5_z0
  have g6_z1 : h6.1[q0]? = _ := by rw [e6]; exact g5_z1
  have g6_z2 : h6.1[q1]? = _ := by rw [e6]; exact g5_z2
  have g6_z3 : h6.1[q2]? = _ := by rw [e6]; exact g5_z3
  refine j_aload_n hX dX7_init_29 rfl ?_
  refine jpc (b := 30) rfl ?_
  refine j_sipush hX dX7_init_30 sp_896 ?_
  refine j_newaN (ty := .int) (t0 := 0) (n := 896) (n0 := (h.1.length + 3)) hX dX7_init_33 rfl (fun _ => rfl) wAr_int (fun _ => rfl) (by decide) (by decide) (by decide) l6 (by simp [aBel] <;> omega) (by simp [aBel] <;> omega) (by omega) (by rw [s6]; omega) (fun h7 e7 => ?_)
  have l7 : h7.1.length = h.1.length + 4 := len_step e7 l6 rfl
  have s7 : aSn h7.1 = aSn h.1 + 1040 := sn_step e7 s6 (by decide) rfl
  have g7_z0 := get_step e7 g6_z0
  have g7_z1 := get_step e7 g6_z1
  have g7_z2 := get_step e7 g6_z2
  have g7_z3 := get_step e7 g6_z3
  refine jpc (b := 35) rfl ?_
  refine j_putRFN (k := 6) hX kX7 (by decide) fk_X7_23 (by rw [l7]; omega) dX7_init_35 g7_z0 rfl rfl hnm rfl (fun h8 e8 => ?_)
  have l8 : h8.1.length = h.1.length + 4 := by rw [e8]; exact l7
  have s8 : aSn h8.1 = aSn h.1 + 1040 := by rw [e8]; exact s7
  have g8_z0 : h8.1[p]? = _ := by rw [e8]; exact g7_z0
  have g8_z1 : h8.1[q0]? = _ := by rw [e8]; exact g7_z1
  have g8_z2 : h8.1[q1]? = _ := by rw [e8]; exact g7_z2
  have g8_z3 : h8.1[q2]? = _ := by rw [e8]; exact g7_z3
  refine j_aload_n hX dX7_init_38 rfl ?_
  refine j_aload_n hX dX7_init_39 rfl ?_
  refine jpc (b := 40) rfl ?_
  refine j_putRFN (k := 0) hX kX7 (by decide) fk_X7_26 (by rw [l8]; omega) dX7_init_40 g8_z0 rfl rfl hnm rfl (fun h9 e9 => ?_)
  have l9 : h9.1.length = h.1.length + 4 := by rw [e9]; exact l8
  have s9 : aSn h9.1 = aSn h.1 + 1040 := by rw [e9]; exact s8
  have g9_z0 : h9.1[p]? = _ := by rw [e9]; exact g8_z0
  have g9_z1 : h9.1[q0]? = _ := by rw [e9]; exact g8_z1
  have g9_z2 : h9.1[q1]? = _ := by rw [e9]; exact g8_z2
  have g9_z3 : h9.1[q2]? = _ := by rw [e9]; exact g8_z3
  refine j_aload_n hX dX7_init_43 rfl ?_
  refine j_aload_n hX dX7_init_44 rfl ?_
  refine jpc (b := 45) rfl ?_
  refine j_putRFN (k := 1) hX kX7 (by decide) fk_X7_30 (by rw [l9]; omega) dX7_init_45 g9_z0 rfl rfl hnm rfl (fun h10 e10 => ?_)
  have l10 : h10.1.length = h.1.length + 4 := by rw [e10]; exact l9
  have s10 : aSn h10.1 = aSn h.1 + 1040 := by rw [e10]; exact s9
  have g10_z0 : h10.1[p]? = _ := by rw [e10]; exact g9_z0
  have g10_z1 : h10.1[q0]? = _ := by rw [e10]; exact g9_z1
  have g10_z2 : h10.1[q1]? = _ := by rw [e10]; exact g9_z2
  have g10_z3 : h10.1[q2]? = _ := by rw [e10]; exact g9_z3
  refine j_aload_n hX dX7_init_48 rfl ?_
  refine j_aload_n hX dX7_init_49 rfl ?_
  refine jpc (b := 50) rfl ?_
  refine j_putRFN (k := 2) hX kX7 (by decide) fk_X7_34 (by rw [l10]; omega) dX7_init_50 g10_z0 rfl rfl hnm rfl (fun h11 e11 => ?_)
  have l11 : h11.1.length = h.1.length + 4 := by rw [e11]; exact l10
  have s11 : aSn h11.1 = aSn h.1 + 1040 := by rw [e11]; exact s10
  have g11_z0 : h11.1[p]? = _ := by rw [e11]; exact g10_z0
  have g11_z1 : h11.1[q0]? = _ := by rw [e11]; exact g10_z1
  have g11_z2 : h11.1[q1]? = _ := by rw [e11]; exact g10_z2
  have g11_z3 : h11.1[q2]? = _ := by rw [e11]; exact g10_z3
  have hw : h11 = wX7_init p q0 q1 q2 h := by rw [e11, e10, e9, e8, e7, e6, e5, e4, e3, e2, e1]; rfl
  rw [hw]
  exact j_vret hX hr hlk dX7_init_53
def wX0_init (p q0 q1 q2 : Nat) (h : aHp) : aHp :=
  let h1 : aHp := aNew h (.inl (.int, 512))
  let h2 : aHp := pR h1 p 3 (some (100 + h.1.length))
  let h3 : aHp := aNew h2 (.inl (.int, 81))
  let h4 : aHp := pR h3 p 4 (some (100 + (h.1.length + 1)))
  let h5 : aHp := aNew h4 (.inl (.int, 9))
  let h6 : aHp := pR h5 p 5 (some (100 + (h.1.length + 2)))
  let h7 : aHp := aNew h6 (.inl (.int, 9))
  let h8 : aHp := pR h7 p 6 (some (100 + (h.1.length + 3)))
  let h9 : aHp := aNew h8 (.inl (.int, 9))
  let h10 : aHp := pR h9 p 7 (some (100 + (h.1.length + 4)))
  let h11 : aHp := aNew h10 (.inl (.int, 9))
  let h12 : aHp := pR h11 p 8 (some (100 + (h.1.length + 5)))
  let h13 : aHp := aNew h12 (.inl (.int, 108))
  let h14 : aHp := pR h13 p 9 (some (100 + (h.1.length + 6)))
  let h15 : aHp := aNew h14 (.inl (.int, 40))
  let h16 : aHp := pR h15 p 10 (some (100 + (h.1.length + 7)))
  let h17 : aHp := aNew h16 (.inl (.int, 40))
  let h18 : aHp := pR h17 p 11 (some (100 + (h.1.length + 8)))
  let h19 : aHp := pR h18 p 0 (some (100 + q0))
  let h20 : aHp := pR h19 p 1 (some (100 + q1))
  let h21 : aHp := pR h20 p 2 (some (100 + q2))
  h21
theorem lenX0_init (p q0 q1 q2 : Nat) (h : aHp) : (wX0_init p q0 q1 q2 h).1.length = h.1.length + 9 := by simp only [wX0_init, aNew_len, pR_len, pI_len]
theorem snX0_init (p q0 q1 q2 : Nat) (h : aHp) : aSn (wX0_init p q0 q1 q2 h).1 = aSn h.1 + 817 := by simp only [wX0_init, aNew_sn, pR_sn, pI_sn]; simp [aSz, aN, acl, Nat.add_assoc]
theorem getX0_init {p q0 q1 q2 z : Nat} {h : aHp} {y : aSh} (hs0 : h.1[z]? = some y) : (wX0_init p q0 q1 q2 h).1[z]? = some y := aNew_get (aNew_get (aNew_get (aNew_get (aNew_get (aNew_get (aNew_get (aNew_get (aNew_get (hs0)))))))))
theorem rvX0_init {p q0 q1 q2 z k : Nat} {h : aHp} (hz : z < h.1.length) (hne : z ≠ p) : (wX0_init p q0 q1 q2 h).2.2.2 z k = h.2.2.2 z k := by
  show (wX0_init p q0 q1 q2 h).2.2.2 z k = _
  unfold wX0_init
  dsimp only
  rw [pR_rv (Or.inl hne), pR_rv (Or.inl hne), pR_rv (Or.inl hne), pR_rv (Or.inl hne), aNew_rv (by simp only [aNew_len, pR_len, pI_len]; omega), pR_rv (Or.inl hne), aNew_rv (by simp only [aNew_len, pR_len, pI_len]; omega), pR_rv (Or.inl hne), aNew_rv (by simp only [aNew_len, pR_len, pI_len]; omega), pR_rv (Or.inl hne), aNew_rv (by simp only [aNew_len, pR_len, pI_len]; omega), pR_rv (Or.inl hne), aNew_rv (by simp only [aNew_len, pR_len, pI_len]; omega), pR_rv (Or.inl hne), aNew_rv (by simp only [aNew_len, pR_len, pI_len]; omega), pR_rv (Or.inl hne), aNew_rv (by simp only [aNew_len, pR_len, pI_len]; omega), pR_rv (Or.inl hne), aNew_rv (by simp only [aNew_len, pR_len, pI_len]; omega), pR_rv (Or.inl hne), aNew_rv (by simp only [aNew_len, pR_len, pI_len]; omega)]
theorem okX0_init {l : Launch} {p q0 q1 q2 : Nat} {h : aHp} (hs : h.1[p]? = some (.inr 0)) (hq0 : h.1[q0]? = some (.inr 1)) (hq1 : h.1[q1]? = some (.inr 3)) (hq2 : h.1[q2]? = some (.inr 8)) : aM l yX0_init cX0_init 4 none 1 [.ref (100 + p), .ref (100 + q0), .ref (100 + q1), .ref (100 + q2)] h none (wX0_init p q0 q1 q2 h) := by
  have hp := aLt hs
  have hp0 := aLt hq0
  have hp1 := aLt hq1
  have hp2 := aLt hq2
  refine aM_of (by decide) (Nat.le_of_ble_eq_true rfl) (by rw [lenX0_init]; omega) (by rw [snX0_init]; omega) (fun p_ e s m args below meth c D cA A ad0 hX hr hlk hnm => ?_)
  generalize hRe : (Room.mk 1 ((wX0_init p q0 q1 q2 h).1.length - h.1.length) (aSn (wX0_init p q0 q1 q2 h).1 - aSn h.1) (64 * 1)) = R
  have hRf : 1 ≤ R.frames := by rw [← hRe]; exact Nat.le_refl _
  have hRl : 64 * 1 ≤ R.locals := by rw [← hRe]; exact Nat.le_refl _
  have hRf1 : 1 ≤ R.frames := Nat.le_trans (by decide) hRf
  have hRl1 : (([] : List Value).map (fun v => v.category)).sum + 12 ≤ R.locals := Nat.le_trans (by decide) hRl
  have hRc : 9 ≤ R.cells := by rw [← hRe]; show 9 ≤ _ - _; rw [lenX0_init]; omega
  have hRs : 817 ≤ R.slots := by rw [← hRe]; show 817 ≤ _ - _; rw [snX0_init]; omega
  have l0 : h.1.length = h.1.length + 0 := rfl
  have s0 : aSn h.1 = aSn h.1 + 0 := rfl
  refine j_aload_n hX dX0_init_0 rfl ?_
  refine j_obj hX lk_X0_5 dX0_init_1 ⟨hRf1, hRl1⟩ ?_
  refine j_aload_n hX dX0_init_4 rfl ?_
  refine jpc (b := 5) rfl ?_
  refine j_sipush hX dX0_init_5 sp_512 ?_
  refine j_newaN (ty := .int) (t0 := 0) (n := 512) (n0 := h.1.length) hX dX0_init_8 rfl (fun _ => rfl) wAr_int (fun _ => rfl) (by decide) (by decide) (by decide) l0 (by simp [aBel] <;> omega) (by simp [aBel] <;> omega) (by omega) (by rw [s0]; omega) (fun h1 e1 => ?_)
  have l1 : h1.1.length = h.1.length + 1 := len_step e1 l0 rfl
  have s1 : aSn h1.1 = aSn h.1 + 512 := sn_step e1 s0 (by decide) rfl
  have g1_z0 := get_step e1 hs
  have g1_z1 := get_step e1 hq0
  have g1_z2 := get_step e1 hq1
  have g1_z3 := get_step e1 hq2
  refine jpc (b := 10) rfl ?_
  refine j_putRFN (k := 3) hX kX0 (by decide) fk_X0_13 (by rw [l1]; omega) dX0_init_10 g1_z0 rfl rfl hnm rfl (fun h2 e2 => ?_)
  have l2 : h2.1.length = h.1.length + 1 := by rw [e2]; exact l1
  have s2 : aSn h2.1 = aSn h.1 + 512 := by rw [e2]; exact s1
  have g2_z0 : h2.1[p]? = _ := by rw [e2]; exact g1_z0
  have g2_z1 : h2.1[q0]? = _ := by rw [e2]; exact g1_z1
  have g2_z2 : h2.1[q1]? = _ := by rw [e2]; exact g1_z2
  have g2_z3 : h2.1[q2]? = _ := by rw [e2]; exact g1_z3
  refine j_aload_n hX dX0_init_13 rfl ?_
  refine j_bipush hX dX0_init_14 bp_81 ?_
  refine j_newaN (ty := .int) (t0 := 0) (n := 81) (n0 := (h.1.length + 1)) hX dX0_init_16 rfl (fun _ => rfl) wAr_int (fun _ => rfl) (by decide) (by decide) (by decide) l2 (by simp [aBel] <;> omega) (by simp [aBel] <;> omega) (by omega) (by rw [s2]; omega) (fun h3 e3 => ?_)
  have l3 : h3.1.length = h.1.length + 2 := len_step e3 l2 rfl
  have s3 : aSn h3.1 = aSn h.1 + 593 := sn_step e3 s2 (by decide) rfl
  have g3_z0 := get_step e3 g2_z0
  have g3_z1 := get_step e3 g2_z1
  have g3_z2 := get_step e3 g2_z2
  have g3_z3 := get_step e3 g2_z3
  refine j_putRFN (k := 4) hX kX0 (by decide) fk_X0_17 (by rw [l3]; omega) dX0_init_18 g3_z0 rfl rfl hnm rfl (fun h4 e4 => ?_)
  have l4 : h4.1.length = h.1.length + 2 := by rw [e4]; exact l3
  have s4 : aSn h4.1 = aSn h.1 + 593 := by rw [e4]; exact s3
  have g4_z0 : h4.1[p]? = _ := by rw [e4]; exact g3_z0
  have g4_z1 : h4.1[q0]? = _ := by rw [e4]; exact g3_z1
  have g4_z2 : h4.1[q1]? = _ := by rw [e4]; exact g3_z2
  have g4_z3 : h4.1[q2]? = _ := by rw [e4]; exact g3_z3
  refine j_aload_n hX dX0_init_21 rfl ?_
  refine j_bipush hX dX0_init_22 bp_9 ?_
  refine j_newaN (ty := .int) (t0 := 0) (n := 9) (n0 := (h.1.length + 2)) hX dX0_init_24 rfl (fun _ => rfl) wAr_int (fun _ => rfl) (by decide) (by decide) (by decide) l4 (by simp [aBel] <;> omega) (by simp [aBel] <;> omega) (by omega) (by rw [s4]; omega) (fun h5 e5 => ?_)
  have l5 : h5.1.length = h.1.length + 3 := len_step e5 l4 rfl
  have s5 : aSn h5.1 = aSn h.1 + 602 := sn_step e5 s4 (by decide) rfl
  have g5_z0 := get_step e5 g4_z0
  have g5_z1 := get_step e5 g4_z1
  have g5_z2 := get_step e5 g4_z2
  have g5_z3 := get_step e5 g4_z3
  refine j_putRFN (k := 5) hX kX0 (by decide) fk_X0_20 (by rw [l5]; omega) dX0_init_26 g5_z0 rfl rfl hnm rfl (fun h6 e6 => ?_)
  have l6 : h6.1.length = h.1.length + 3 := by rw [e6]; exact l5
  have s6 : aSn h6.1 = aSn h.1 + 602 := by rw [e6]; exact s5
  have g6_z0 : h6.1[p]? = _ := by rw [e6]; exact g5_z0
  have g6_z1 : h6.1[q0]? = _ := by rw [e6]; exact g5_z1
  have g6_z2 : h6.1[q1]? = _ := by rw [e6]; exact g5_z2
  have g6_z3 : h6.1[q2]? = _ := by rw [e6]; exact g5_z3
  refine j_aload_n hX dX0_init_29 rfl ?_
  refine jpc (b := 30) rfl ?_
  refine j_bipush hX dX0_init_30 bp_9 ?_
  refine j_newaN (ty := .int) (t0 := 0) (n := 9) (n0 := (h.1.length + 3)) hX dX0_init_32 rfl (fun _ => rfl) wAr_int (fun _ => rfl) (by decide) (by decide) (by decide) l6 (by simp [aBel] <;> omega) (by simp [aBel] <;> omega) (by omega) (by rw [s6]; omega) (fun h7 e7 => ?_)
  have l7 : h7.1.length = h.1.length + 4 := len_step e7 l6 rfl
  have s7 : aSn h7.1 = aSn h.1 + 611 := sn_step e7 s6 (by decide) rfl
  have g7_z0 := get_step e7 g6_z0
  have g7_z1 := get_step e7 g6_z1
  have g7_z2 := get_step e7 g6_z2
  have g7_z3 := get_step e7 g6_z3
  refine j_putRFN (k := 6) hX kX0 (by decide) fk_X0_23 (by rw [l7]; omega) dX0_init_34 g7_z0 rfl rfl hnm rfl (fun h8 e8 => ?_)
  have l8 : h8.1.length = h.1.length + 4 := by rw [e8]; exact l7
  have s8 : aSn h8.1 = aSn h.1 + 611 := by rw [e8]; exact s7
  have g8_z0 : h8.1[p]? = _ := by rw [e8]; exact g7_z0
  have g8_z1 : h8.1[q0]? = _ := by rw [e8]; exact g7_z1
  have g8_z2 : h8.1[q1]? = _ := by rw [e8]; exact g7_z2
  have g8_z3 : h8.1[q2]? = _ := by rw [e8]; exact g7_z3
  refine j_aload_n hX dX0_init_37 rfl ?_
  refine j_bipush hX dX0_init_38 bp_9 ?_
  refine jpc (b := 40) rfl ?_
  refine j_newaN (ty := .int) (t0 := 0) (n := 9) (n0 := (h.1.length + 4)) hX dX0_init_40 rfl (fun _ => rfl) wAr_int (fun _ => rfl) (by decide) (by decide) (by decide) l8 (by simp [aBel] <;> omega) (by simp [aBel] <;> omega) (by omega) (by rw [s8]; omega) (fun h9 e9 => ?_)
  have l9 : h9.1.length = h.1.length + 5 := len_step e9 l8 rfl
  have s9 : aSn h9.1 = aSn h.1 + 620 := sn_step e9 s8 (by decide) rfl
  have g9_z0 := get_step e9 g8_z0
  have g9_z1 := get_step e9 g8_z1
  have g9_z2 := get_step e9 g8_z2
  have g9_z3 := get_step e9 g8_z3
  refine j_putRFN (k := 7) hX kX0 (by decide) fk_X0_26 (by rw [l9]; omega) dX0_init_42 g9_z0 rfl rfl hnm rfl (fun h10 e10 => ?_)
  have l10 : h10.1.length = h.1.length + 5 := by rw [e10]; exact l9
  have s10 : aSn h10.1 = aSn h.1 + 620 := by rw [e10]; exact s9
  have g10_z0 : h10.1[p]? = _ := by rw [e10]; exact g9_z0
  have g10_z1 : h10.1[q0]? = _ := by rw [e10]; exact g9_z1
  have g10_z2 : h10.1[q1]? = _ := by rw [e10]; exact g9_z2
  have g10_z3 : h10.1[q2]? = _ := by rw [e10]; exact g9_z3
  refine jpc (b := 45) rfl ?_
  refine j_aload_n hX dX0_init_45 rfl ?_
  refine j_bipush hX dX0_init_46 bp_9 ?_
  refine j_newaN (ty := .int) (t0 := 0) (n := 9) (n0 := (h.1.length + 5)) hX dX0_init_48 rfl (fun _ => rfl) wAr_int (fun _ => rfl) (by decide) (by decide) (by decide) l10 (by simp [aBel] <;> omega) (by simp [aBel] <;> omega) (by omega) (by rw [s10]; omega) (fun h11 e11 => ?_)
  have l11 : h11.1.length = h.1.length + 6 := len_step e11 l10 rfl
  have s11 : aSn h11.1 = aSn h.1 + 629 := sn_step e11 s10 (by decide) rfl
  have g11_z0 := get_step e11 g10_z0
  have g11_z1 := get_step e11 g10_z1
  have g11_z2 := get_step e11 g10_z2
  have g11_z3 := get_step e11 g10_z3
  refine jpc (b := 50) rfl ?_
  refine j_putRFN (k := 8) hX kX0 (by decide) fk_X0_29 (by rw [l11]; omega) dX0_init_50 g11_z0 rfl rfl hnm rfl (fun h12 e12 => ?_)
  have l12 : h12.1.length = h.1.length + 6 := by rw [e12]; exact l11
  have s12 : aSn h12.1 = aSn h.1 + 629 := by rw [e12]; exact s11
  have g12_z0 : h12.1[p]? = _ := by rw [e12]; exact g11_z0
  have g12_z1 : h12.1[q0]? = _ := by rw [e12]; exact g11_z1
  have g12_z2 : h12.1[q1]? = _ := by rw [e12]; exact g11_z2
  have g12_z3 : h12.1[q2]? = _ := by rw [e12]; exact g11_z3
  refine j_aload_n hX dX0_init_53 rfl ?_
  refine j_bipush hX dX0_init_54 bp_108 ?_
  refine j_newaN (ty := .int) (t0 := 0) (n := 108) (n0 := (h.1.length + 6)) hX dX0_init_56 rfl (fun _ => rfl) wAr_int (fun _ => rfl) (by decide) (by decide) (by decide) l12 (by simp [aBel] <;> omega) (by simp [aBel] <;> omega) (by omega) (by rw [s12]; omega) (fun h13 e13 => ?_)
  have l13 : h13.1.length = h.1.length + 7 := len_step e13 l12 rfl
  have s13 : aSn h13.1 = aSn h.1 + 737 := sn_step e13 s12 (by decide) rfl
  have g13_z0 := get_step e13 g12_z0
  have g13_z1 := get_step e13 g12_z1
  have g13_z2 := get_step e13 g12_z2
  have g13_z3 := get_step e13 g12_z3
  refine j_putRFN (k := 9) hX kX0 (by decide) fk_X0_32 (by rw [l13]; omega) dX0_init_58 g13_z0 rfl rfl hnm rfl (fun h14 e14 => ?_)
  have l14 : h14.1.length = h.1.length + 7 := by rw [e14]; exact l13
  have s14 : aSn h14.1 = aSn h.1 + 737 := by rw [e14]; exact s13
  have g14_z0 : h14.1[p]? = _ := by rw [e14]; exact g13_z0
  have g14_z1 : h14.1[q0]? = _ := by rw [e14]; exact g13_z1
  have g14_z2 : h14.1[q1]? = _ := by rw [e14]; exact g13_z2
  have g14_z3 : h14.1[q2]? = _ := by rw [e14]; exact g13_z3
  refine j_aload_n hX dX0_init_61 rfl ?_
  refine j_bipush hX dX0_init_62 bp_40 ?_
  refine j_newaN (ty := .int) (t0 := 0) (n := 40) (n0 := (h.1.length + 7)) hX dX0_init_64 rfl (fun _ => rfl) wAr_int (fun _ => rfl) (by decide) (by decide) (by decide) l14 (by simp [aBel] <;> omega) (by simp [aBel] <;> omega) (by omega) (by rw [s14]; omega) (fun h15 e15 => ?_)
  have l15 : h15.1.length = h.1.length + 8 := len_step e15 l14 rfl
  have s15 : aSn h15.1 = aSn h.1 + 777 := sn_step e15 s14 (by decide) rfl
  have g15_z0 := get_step e15 g14_z0
  have g15_z1 := get_step e15 g14_z1
  have g15_z2 := get_step e15 g14_z2
  have g15_z3 := get_step e15 g14_z3
  refine j_putRFN (k := 10) hX kX0 (by decide) fk_X0_35 (by rw [l15]; omega) dX0_init_66 g15_z0 rfl rfl hnm rfl (fun h16 e16 => ?_)
  have l16 : h16.1.length = h.1.length + 8 := by rw [e16]; exact l15
  have s16 : aSn h16.1 = aSn h.1 + 777 := by rw [e16]; exact s15
  have g16_z0 : h16.1[p]? = _ := by rw [e16]; exact g15_z0
  have g16_z1 : h16.1[q0]? = _ := by rw [e16]; exact g15_z1
  have g16_z2 : h16.1[q1]? = _ := by rw [e16]; exact g15_z2
  have g16_z3 : h16.1[q2]? = _ := by rw [e16]; exact g15_z3
  refine j_aload_n hX dX0_init_69 rfl ?_
  refine jpc (b := 70) rfl ?_
  refine j_bipush hX dX0_init_70 bp_40 ?_
  refine j_newaN (ty := .int) (t0 := 0) (n := 40) (n0 := (h.1.length + 8)) hX dX0_init_72 rfl (fun _ => rfl) wAr_int (fun _ => rfl) (by decide) (by decide) (by decide) l16 (by simp [aBel] <;> omega) (by simp [aBel] <;> omega) (by omega) (by rw [s16]; omega) (fun h17 e17 => ?_)
  have l17 : h17.1.length = h.1.length + 9 := len_step e17 l16 rfl
  have s17 : aSn h17.1 = aSn h.1 + 817 := sn_step e17 s16 (by decide) rfl
  have g17_z0 := get_step e17 g16_z0
  have g17_z1 := get_step e17 g16_z1
  have g17_z2 := get_step e17 g16_z2
  have g17_z3 := get_step e17 g16_z3
  refine j_putRFN (k := 11) hX kX0 (by decide) fk_X0_38 (by rw [l17]; omega) dX0_init_74 g17_z0 rfl rfl hnm rfl (fun h18 e18 => ?_)
  have l18 : h18.1.length = h.1.length + 9 := by rw [e18]; exact l17
  have s18 : aSn h18.1 = aSn h.1 + 817 := by rw [e18]; exact s17
  have g18_z0 : h18.1[p]? = _ := by rw [e18]; exact g17_z0
  have g18_z1 : h18.1[q0]? = _ := by rw [e18]; exact g17_z1
  have g18_z2 : h18.1[q1]? = _ := by rw [e18]; exact g17_z2
  have g18_z3 : h18.1[q2]? = _ := by rw [e18]; exact g17_z3
  refine j_aload_n hX dX0_init_77 rfl ?_
  refine j_aload_n hX dX0_init_78 rfl ?_
  refine j_putRFN (k := 0) hX kX0 (by decide) fk_X0_41 (by rw [l18]; omega) dX0_init_79 g18_z0 rfl rfl hnm rfl (fun h19 e19 => ?_)
  have l19 : h19.1.length = h.1.length + 9 := by rw [e19]; exact l18
  have s19 : aSn h19.1 = aSn h.1 + 817 := by rw [e19]; exact s18
  have g19_z0 : h19.1[p]? = _ := by rw [e19]; exact g18_z0
  have g19_z1 : h19.1[q0]? = _ := by rw [e19]; exact g18_z1
  have g19_z2 : h19.1[q1]? = _ := by rw [e19]; exact g18_z2
  have g19_z3 : h19.1[q2]? = _ := by rw [e19]; exact g18_z3
  refine j_aload_n hX dX0_init_82 rfl ?_
  refine j_aload_n hX dX0_init_83 rfl ?_
  refine j_putRFN (k := 1) hX kX0 (by decide) fk_X0_45 (by rw [l19]; omega) dX0_init_84 g19_z0 rfl rfl hnm rfl (fun h20 e20 => ?_)
  have l20 : h20.1.length = h.1.length + 9 := by rw [e20]; exact l19
  have s20 : aSn h20.1 = aSn h.1 + 817 := by rw [e20]; exact s19
  have g20_z0 : h20.1[p]? = _ := by rw [e20]; exact g19_z0
  have g20_z1 : h20.1[q0]? = _ := by rw [e20]; exact g19_z1
  have g20_z2 : h20.1[q1]? = _ := by rw [e20]; exact g19_z2
  have g20_z3 : h20.1[q2]? = _ := by rw [e20]; exact g19_z3
  refine j_aload_n hX dX0_init_87 rfl ?_
  refine j_aload_n hX dX0_init_88 rfl ?_
  refine j_putRFN (k := 2) hX kX0 (by decide) fk_X0_49 (by rw [l20]; omega) dX0_init_89 g20_z0 rfl rfl hnm rfl (fun h21 e21 => ?_)
  have l21 : h21.1.length = h.1.length + 9 := by rw [e21]; exact l20
  have s21 : aSn h21.1 = aSn h.1 + 817 := by rw [e21]; exact s20
  have g21_z0 : h21.1[p]? = _ := by rw [e21]; exact g20_z0
  have g21_z1 : h21.1[q0]? = _ := by rw [e21]; exact g20_z1
  have g21_z2 : h21.1[q1]? = _ := by rw [e21]; exact g20_z2
  have g21_z3 : h21.1[q2]? = _ := by rw [e21]; exact g20_z3
  have hw : h21 = wX0_init p q0 q1 q2 h := by rw [e21, e20, e19, e18, e17, e16, e15, e14, e13, e12, e11, e10, e9, e8, e7, e6, e5, e4, e3, e2, e1]; rfl
  rw [hw]
  exact j_vret hX hr hlk dX0_init_92
def wX2_init (p q0 q1 q2 : Nat) (h : aHp) : aHp :=
  let h1 : aHp := aNew h (.inl (.boolean, 8))
  let h2 : aHp := pR h1 p 3 (some (100 + h.1.length))
  let h3 : aHp := aNew h2 (.inl (.int, 8))
  let h4 : aHp := pR h3 p 4 (some (100 + (h.1.length + 1)))
  let h5 : aHp := aNew h4 (.inl (.int, 10))
  let h6 : aHp := pR h5 p 5 (some (100 + (h.1.length + 2)))
  let h7 : aHp := aNew h6 (.inl (.boolean, 10))
  let h8 : aHp := pR h7 p 6 (some (100 + (h.1.length + 3)))
  let h9 : aHp := pR h8 p 0 (some (100 + q0))
  let h10 : aHp := pR h9 p 1 (some (100 + q1))
  let h11 : aHp := pR h10 p 2 (some (100 + q2))
  h11
theorem lenX2_init (p q0 q1 q2 : Nat) (h : aHp) : (wX2_init p q0 q1 q2 h).1.length = h.1.length + 4 := by simp only [wX2_init, aNew_len, pR_len, pI_len]
theorem snX2_init (p q0 q1 q2 : Nat) (h : aHp) : aSn (wX2_init p q0 q1 q2 h).1 = aSn h.1 + 36 := by simp only [wX2_init, aNew_sn, pR_sn, pI_sn]; simp [aSz, aN, acl, Nat.add_assoc]
theorem getX2_init {p q0 q1 q2 z : Nat} {h : aHp} {y : aSh} (hs0 : h.1[z]? = some y) : (wX2_init p q0 q1 q2 h).1[z]? = some y := aNew_get (aNew_get (aNew_get (aNew_get (hs0))))
theorem rvX2_init {p q0 q1 q2 z k : Nat} {h : aHp} (hz : z < h.1.length) (hne : z ≠ p) : (wX2_init p q0 q1 q2 h).2.2.2 z k = h.2.2.2 z k := by
  show (wX2_init p q0 q1 q2 h).2.2.2 z k = _
  unfold wX2_init
  dsimp only
  rw [pR_rv (Or.inl hne), pR_rv (Or.inl hne), pR_rv (Or.inl hne), pR_rv (Or.inl hne), aNew_rv (by simp only [aNew_len, pR_len, pI_len]; omega), pR_rv (Or.inl hne), aNew_rv (by simp only [aNew_len, pR_len, pI_len]; omega), pR_rv (Or.inl hne), aNew_rv (by simp only [aNew_len, pR_len, pI_len]; omega), pR_rv (Or.inl hne), aNew_rv (by simp only [aNew_len, pR_len, pI_len]; omega)]
theorem okX2_init {l : Launch} {p q0 q1 q2 : Nat} {h : aHp} (hs : h.1[p]? = some (.inr 2)) (hq0 : h.1[q0]? = some (.inr 1)) (hq1 : h.1[q1]? = some (.inr 3)) (hq2 : h.1[q2]? = some (.inr 8)) : aM l yX2_init cX2_init 4 none 1 [.ref (100 + p), .ref (100 + q0), .ref (100 + q1), .ref (100 + q2)] h none (wX2_init p q0 q1 q2 h) := by
  have hp := aLt hs
  have hp0 := aLt hq0
  have hp1 := aLt hq1
  have hp2 := aLt hq2
  refine aM_of (by decide) (Nat.le_of_ble_eq_true rfl) (by rw [lenX2_init]; omega) (by rw [snX2_init]; omega) (fun p_ e s m args below meth c D cA A ad0 hX hr hlk hnm => ?_)
  generalize hRe : (Room.mk 1 ((wX2_init p q0 q1 q2 h).1.length - h.1.length) (aSn (wX2_init p q0 q1 q2 h).1 - aSn h.1) (64 * 1)) = R
  have hRf : 1 ≤ R.frames := by rw [← hRe]; exact Nat.le_refl _
  have hRl : 64 * 1 ≤ R.locals := by rw [← hRe]; exact Nat.le_refl _
  have hRf1 : 1 ≤ R.frames := Nat.le_trans (by decide) hRf
  have hRl1 : (([] : List Value).map (fun v => v.category)).sum + 12 ≤ R.locals := Nat.le_trans (by decide) hRl
  have hRc : 4 ≤ R.cells := by rw [← hRe]; show 4 ≤ _ - _; rw [lenX2_init]; omega
  have hRs : 36 ≤ R.slots := by rw [← hRe]; show 36 ≤ _ - _; rw [snX2_init]; omega
  have l0 : h.1.length = h.1.length + 0 := rfl
  have s0 : aSn h.1 = aSn h.1 + 0 := rfl
  refine j_aload_n hX dX2_init_0 rfl ?_
  refine j_obj hX lk_X2_3 dX2_init_1 ⟨hRf1, hRl1⟩ ?_
  refine j_aload_n hX dX2_init_4 rfl ?_
  refine jpc (b := 5) rfl ?_
  refine j_bipush hX dX2_init_5 bp_8 ?_
  refine j_newaN (ty := .boolean) (t0 := 2) (n := 8) (n0 := h.1.length) hX dX2_init_7 rfl (fun _ => rfl) wAr_boolean (fun _ => rfl) (by decide) (by decide) (by decide) l0 (by simp [aBel] <;> omega) (by simp [aBel] <;> omega) (by omega) (by rw [s0]; omega) (fun h1 e1 => ?_)
  have l1 : h1.1.length = h.1.length + 1 := len_step e1 l0 rfl
  have s1 : aSn h1.1 = aSn h.1 + 8 := sn_step e1 s0 (by decide) rfl
  have g1_z0 := get_step e1 hs
  have g1_z1 := get_step e1 hq0
  have g1_z2 := get_step e1 hq1
  have g1_z3 := get_step e1 hq2
  refine j_putRFN (k := 3) hX kX2 (by decide) fk_X2_11 (by rw [l1]; omega) dX2_init_9 g1_z0 rfl rfl hnm rfl (fun h2 e2 => ?_)
  have l2 : h2.1.length = h.1.length + 1 := by rw [e2]; exact l1
  have s2 : aSn h2.1 = aSn h.1 + 8 := by rw [e2]; exact s1
  have g2_z0 : h2.1[p]? = _ := by rw [e2]; exact g1_z0
  have g2_z1 : h2.1[q0]? = _ := by rw [e2]; exact g1_z1
  have g2_z2 : h2.1[q1]? = _ := by rw [e2]; exact g1_z2
  have g2_z3 : h2.1[q2]? = _ := by rw [e2]; exact g1_z3
  refine j_aload_n hX dX2_init_12 rfl ?_
  refine j_bipush hX dX2_init_13 bp_8 ?_
  refine jpc (b := 15) rfl ?_
  refine j_newaN (ty := .int) (t0 := 0) (n := 8) (n0 := (h.1.length + 1)) hX dX2_init_15 rfl (fun _ => rfl) wAr_int (fun _ => rfl) (by decide) (by decide) (by decide) l2 (by simp [aBel] <;> omega) (by simp [aBel] <;> omega) (by omega) (by rw [s2]; omega) (fun h3 e3 => ?_)
  have l3 : h3.1.length = h.1.length + 2 := len_step e3 l2 rfl
  have s3 : aSn h3.1 = aSn h.1 + 16 := sn_step e3 s2 (by decide) rfl
  have g3_z0 := get_step e3 g2_z0
  have g3_z1 := get_step e3 g2_z1
  have g3_z2 := get_step e3 g2_z2
  have g3_z3 := get_step e3 g2_z3
  refine j_putRFN (k := 4) hX kX2 (by decide) fk_X2_15 (by rw [l3]; omega) dX2_init_17 g3_z0 rfl rfl hnm rfl (fun h4 e4 => ?_)
  have l4 : h4.1.length = h.1.length + 2 := by rw [e4]; exact l3
  have s4 : aSn h4.1 = aSn h.1 + 16 := by rw [e4]; exact s3
  have g4_z0 : h4.1[p]? = _ := by rw [e4]; exact g3_z0
  have g4_z1 : h4.1[q0]? = _ := by rw [e4]; exact g3_z1
  have g4_z2 : h4.1[q1]? = _ := by rw [e4]; exact g3_z2
  have g4_z3 : h4.1[q2]? = _ := by rw [e4]; exact g3_z3
  refine jpc (b := 20) rfl ?_
  refine j_aload_n hX dX2_init_20 rfl ?_
  refine j_bipush hX dX2_init_21 bp_10 ?_
  refine j_newaN (ty := .int) (t0 := 0) (n := 10) (n0 := (h.1.length + 2)) hX dX2_init_23 rfl (fun _ => rfl) wAr_int (fun _ => rfl) (by decide) (by decide) (by decide) l4 (by simp [aBel] <;> omega) (by simp [aBel] <;> omega) (by omega) (by rw [s4]; omega) (fun h5 e5 => ?_)
  have l5 : h5.1.length = h.1.length + 3 := len_step e5 l4 rfl
  have s5 : aSn h5.1 = aSn h.1 + 26 := sn_step e5 s4 (by decide) rfl
  have g5_z0 := get_step e5 g4_z0
  have g5_z1 := get_step e5 g4_z1
  have g5_z2 := get_step e5 g4_z2
  have g5_z3 := get_step e5 g4_z3
  refine jpc (b := 25) rfl ?_
  refine j_putRFN (k := 5) hX kX2 (by decide) fk_X2_19 (by rw [l5]; omega) dX2_init_25 g5_z0 rfl rfl hnm rfl (fun h6 e6 => ?_)
  have l6 : h6.1.length = h.1.length + 3 := by rw [e6]; exact l5
  have s6 : aSn h6.1 = aSn h.1 + 26 := by rw [e6]; exact s5
  have g6_z0 : h6.1[p]? = _ := by rw [e6]; exact g5_z0
  have g6_z1 : h6.1[q0]? = _ := by rw [e6]; exact g5_z1
  have g6_z2 : h6.1[q1]? = _ := by rw [e6]; exact g5_z2
  have g6_z3 : h6.1[q2]? = _ := by rw [e6]; exact g5_z3
  refine j_aload_n hX dX2_init_28 rfl ?_
  refine j_bipush hX dX2_init_29 bp_10 ?_
  refine j_newaN (ty := .boolean) (t0 := 2) (n := 10) (n0 := (h.1.length + 3)) hX dX2_init_31 rfl (fun _ => rfl) wAr_boolean (fun _ => rfl) (by decide) (by decide) (by decide) l6 (by simp [aBel] <;> omega) (by simp [aBel] <;> omega) (by omega) (by rw [s6]; omega) (fun h7 e7 => ?_)
  have l7 : h7.1.length = h.1.length + 4 := len_step e7 l6 rfl
  have s7 : aSn h7.1 = aSn h.1 + 36 := sn_step e7 s6 (by decide) rfl
  have g7_z0 := get_step e7 g6_z0
  have g7_z1 := get_step e7 g6_z1
  have g7_z2 := get_step e7 g6_z2
  have g7_z3 := get_step e7 g6_z3
  refine j_putRFN (k := 6) hX kX2 (by decide) fk_X2_22 (by rw [l7]; omega) dX2_init_33 g7_z0 rfl rfl hnm rfl (fun h8 e8 => ?_)
  have l8 : h8.1.length = h.1.length + 4 := by rw [e8]; exact l7
  have s8 : aSn h8.1 = aSn h.1 + 36 := by rw [e8]; exact s7
  have g8_z0 : h8.1[p]? = _ := by rw [e8]; exact g7_z0
  have g8_z1 : h8.1[q0]? = _ := by rw [e8]; exact g7_z1
  have g8_z2 : h8.1[q1]? = _ := by rw [e8]; exact g7_z2
  have g8_z3 : h8.1[q2]? = _ := by rw [e8]; exact g7_z3
  refine j_aload_n hX dX2_init_36 rfl ?_
  refine j_aload_n hX dX2_init_37 rfl ?_
  refine j_putRFN (k := 0) hX kX2 (by decide) fk_X2_25 (by rw [l8]; omega) dX2_init_38 g8_z0 rfl rfl hnm rfl (fun h9 e9 => ?_)
  have l9 : h9.1.length = h.1.length + 4 := by rw [e9]; exact l8
  have s9 : aSn h9.1 = aSn h.1 + 36 := by rw [e9]; exact s8
  have g9_z0 : h9.1[p]? = _ := by rw [e9]; exact g8_z0
  have g9_z1 : h9.1[q0]? = _ := by rw [e9]; exact g8_z1
  have g9_z2 : h9.1[q1]? = _ := by rw [e9]; exact g8_z2
  have g9_z3 : h9.1[q2]? = _ := by rw [e9]; exact g8_z3
  refine j_aload_n hX dX2_init_41 rfl ?_
  refine j_aload_n hX dX2_init_42 rfl ?_
  refine j_putRFN (k := 1) hX kX2 (by decide) fk_X2_29 (by rw [l9]; omega) dX2_init_43 g9_z0 rfl rfl hnm rfl (fun h10 e10 => ?_)
  have l10 : h10.1.length = h.1.length + 4 := by rw [e10]; exact l9
  have s10 : aSn h10.1 = aSn h.1 + 36 := by rw [e10]; exact s9
  have g10_z0 : h10.1[p]? = _ := by rw [e10]; exact g9_z0
  have g10_z1 : h10.1[q0]? = _ := by rw [e10]; exact g9_z1
  have g10_z2 : h10.1[q1]? = _ := by rw [e10]; exact g9_z2
  have g10_z3 : h10.1[q2]? = _ := by rw [e10]; exact g9_z3
  refine j_aload_n hX dX2_init_46 rfl ?_
  refine j_aload_n hX dX2_init_47 rfl ?_
  refine j_putRFN (k := 2) hX kX2 (by decide) fk_X2_33 (by rw [l10]; omega) dX2_init_48 g10_z0 rfl rfl hnm rfl (fun h11 e11 => ?_)
  have l11 : h11.1.length = h.1.length + 4 := by rw [e11]; exact l10
  have s11 : aSn h11.1 = aSn h.1 + 36 := by rw [e11]; exact s10
  have g11_z0 : h11.1[p]? = _ := by rw [e11]; exact g10_z0
  have g11_z1 : h11.1[q0]? = _ := by rw [e11]; exact g10_z1
  have g11_z2 : h11.1[q1]? = _ := by rw [e11]; exact g10_z2
  have g11_z3 : h11.1[q2]? = _ := by rw [e11]; exact g10_z3
  have hw : h11 = wX2_init p q0 q1 q2 h := by rw [e11, e10, e9, e8, e7, e6, e5, e4, e3, e2, e1]; rfl
  rw [hw]
  exact j_vret hX hr hlk dX2_init_51
def wX11_init (p : Nat) (h : aHp) : aHp :=
  let h1 : aHp := aNew h (.inr 10)
  let h2 : aHp := wX10_init h.1.length h1
  let h3 : aHp := pR h2 p 0 (some (100 + h.1.length))
  let h4 : aHp := aNew h3 (.inr 9)
  let h5 : aHp := wX9_init (h.1.length + 2) h4
  let h6 : aHp := pR h5 p 1 (some (100 + (h.1.length + 2)))
  let h7 : aHp := aNew h6 (.inr 1)
  let h8 : aHp := wX1_init (h.1.length + 10) h7
  let h9 : aHp := pR h8 p 2 (some (100 + (h.1.length + 10)))
  let h10 : aHp := aNew h9 (.inr 1)
  let h11 : aHp := wX1_init (h.1.length + 14) h10
  let h12 : aHp := pR h11 p 3 (some (100 + (h.1.length + 14)))
  let h13 : aHp := aNew h12 (.inr 8)
  let h14 : aHp := wX8_init (h.1.length + 18) h13
  let h15 : aHp := pR h14 p 4 (some (100 + (h.1.length + 18)))
  let h16 : aHp := aNew h15 (.inr 8)
  let h17 : aHp := wX8_init (h.1.length + 20) h16
  let h18 : aHp := pR h17 p 5 (some (100 + (h.1.length + 20)))
  let h19 : aHp := aNew h18 (.inr 3)
  let h20 : aHp := wX3_init (h.1.length + 22) (h.1.length + 14) h19
  let h21 : aHp := pR h20 p 6 (some (100 + (h.1.length + 22)))
  let h22 : aHp := aNew h21 (.inr 6)
  let h23 : aHp := wX6_init (h.1.length + 24) h22
  let h24 : aHp := pR h23 p 7 (some (100 + (h.1.length + 24)))
  let h25 : aHp := aNew h24 (.inr 7)
  let h26 : aHp := wX7_init (h.1.length + 29) (h.1.length + 14) (h.1.length + 22) (h.1.length + 18) h25
  let h27 : aHp := pR h26 p 8 (some (100 + (h.1.length + 29)))
  let h28 : aHp := aNew h27 (.inr 0)
  let h29 : aHp := wX0_init (h.1.length + 34) (h.1.length + 14) (h.1.length + 22) (h.1.length + 18) h28
  let h30 : aHp := pR h29 p 9 (some (100 + (h.1.length + 34)))
  let h31 : aHp := aNew h30 (.inr 2)
  let h32 : aHp := wX2_init (h.1.length + 44) (h.1.length + 14) (h.1.length + 22) (h.1.length + 18) h31
  let h33 : aHp := pR h32 p 10 (some (100 + (h.1.length + 44)))
  let h34 : aHp := pI h33 p 11 50
  let h35 : aHp := pI h34 p 12 (-1)
  h35
theorem lenX11_init (p : Nat) (h : aHp) : (wX11_init p h).1.length = h.1.length + 49 := by simp only [wX11_init, aNew_len, pR_len, pI_len, lenX7_init, lenX0_init, lenX9_init, lenX1_init, lenX3_init, lenX2_init, lenX8_init, lenX10_init, lenX6_init]
theorem snX11_init (p : Nat) (h : aHp) : aSn (wX11_init p h).1 = aSn h.1 + 5955 := by simp only [wX11_init, aNew_sn, pR_sn, pI_sn, snX7_init, snX0_init, snX9_init, snX1_init, snX3_init, snX2_init, snX8_init, snX10_init, snX6_init]; simp [aSz, aN, acl, Nat.add_assoc]
theorem getX11_init {p z : Nat} {h : aHp} {y : aSh} (hs0 : h.1[z]? = some y) : (wX11_init p h).1[z]? = some y := getX2_init (aNew_get (getX0_init (aNew_get (getX7_init (aNew_get (getX6_init (aNew_get (getX3_init (aNew_get (getX8_init (aNew_get (getX8_init (aNew_get (getX1_init (aNew_get (getX1_init (aNew_get (getX9_init (aNew_get (getX10_init (aNew_get (hs0))))))))))))))))))))))
theorem okX11_init {l : Launch} {p : Nat} {h : aHp} (hs : h.1[p]? = some (.inr 11)) : aM l yX11_init cX11_init 1 none 3 [.ref (100 + p)] h none (wX11_init p h) := by
  have hp := aLt hs
  refine aM_of (by decide) (Nat.le_of_ble_eq_true rfl) (by rw [lenX11_init]; omega) (by rw [snX11_init]; omega) (fun p_ e s m args below meth c D cA A ad0 hX hr hlk hnm => ?_)
  generalize hRe : (Room.mk 3 ((wX11_init p h).1.length - h.1.length) (aSn (wX11_init p h).1 - aSn h.1) (64 * 3)) = R
  have hRf : 3 ≤ R.frames := by rw [← hRe]; exact Nat.le_refl _
  have hRl : 64 * 3 ≤ R.locals := by rw [← hRe]; exact Nat.le_refl _
  have hRf1 : 1 ≤ R.frames := Nat.le_trans (by decide) hRf
  have hRl1 : (([] : List Value).map (fun v => v.category)).sum + 12 ≤ R.locals := Nat.le_trans (by decide) hRl
  have hRc : 49 ≤ R.cells := by rw [← hRe]; show 49 ≤ _ - _; rw [lenX11_init]; omega
  have hRs : 5955 ≤ R.slots := by rw [← hRe]; show 5955 ≤ _ - _; rw [snX11_init]; omega
  have l0 : h.1.length = h.1.length + 0 := rfl
  have s0 : aSn h.1 = aSn h.1 + 0 := rfl
  refine j_aload_n hX dX11_init_0 rfl ?_
  refine j_obj hX lk_X11_1 dX11_init_1 ⟨hRf1, hRl1⟩ ?_
  refine j_aload_n hX dX11_init_4 rfl ?_
  refine jpc (b := 5) rfl ?_
  refine j_newN (N := 3) (n0 := h.1.length) hX kX10 dX11_init_5 wCl_RX11_7 wIn_RX10 wIni_RX10 nf_RX10 l0 (by simp [aBel] <;> omega) (by simp [aBel] <;> omega) (by omega) (by rw [s0]; omega) (fun h1 e1 => ?_)
  have l1 : h1.1.length = h.1.length + 1 := len_step e1 l0 rfl
  have s1 : aSn h1.1 = aSn h.1 + 3 := sn_step e1 s0 (by decide) rfl
  have g1_z0 := get_step e1 hs
  have g1_z1 := last_step e1 l0
  refine j_dup hX dX11_init_8 rfl ?_
  refine j_callINM (as := []) (q := h.1.length) (n0 := (h.1.length + 1)) hX lk_X11_9 dX11_init_9 (okX10_init g1_z1) rfl (rmm (by decide) hRf hRl (by decide)) (Nat.le_of_ble_eq_true rfl) (by rw [lenX10_init, l1]; omega) (by rw [snX10_init, s1]; omega) l1 (by simp [aBel] <;> omega) (by simp [aBel] <;> omega) (fun h2 e2 => ?_)
  have l2 : h2.1.length = h.1.length + 2 := by rw [e2, lenX10_init, l1]
  have s2 : aSn h2.1 = aSn h.1 + 243 := by rw [e2, snX10_init, s1]
  have g2_z0 : h2.1[p]? = _ := by rw [e2]; exact getX10_init g1_z0
  have g2_z1 : h2.1[h.1.length]? = _ := by rw [e2]; exact getX10_init g1_z1
  refine j_putRFN (k := 0) hX kX11 (by decide) fk_X11_10 (by rw [l2]; omega) dX11_init_12 g2_z0 rfl rfl hnm rfl (fun h3 e3 => ?_)
  have l3 : h3.1.length = h.1.length + 2 := by rw [e3]; exact l2
  have s3 : aSn h3.1 = aSn h.1 + 243 := by rw [e3]; exact s2
  have g3_z0 : h3.1[p]? = _ := by rw [e3]; exact g2_z0
  have g3_z1 : h3.1[h.1.length]? = _ := by rw [e3]; exact g2_z1
  refine jpc (b := 15) rfl ?_
  refine j_aload_n hX dX11_init_15 rfl ?_
  refine j_newN (N := 6) (n0 := (h.1.length + 2)) hX kX9 dX11_init_16 wCl_RX11_16 wIn_RX9 wIni_RX9 nf_RX9 l3 (by simp [aBel] <;> omega) (by simp [aBel] <;> omega) (by omega) (by rw [s3]; omega) (fun h4 e4 => ?_)
  have l4 : h4.1.length = h.1.length + 3 := len_step e4 l3 rfl
  have s4 : aSn h4.1 = aSn h.1 + 249 := sn_step e4 s3 (by decide) rfl
  have g4_z0 := get_step e4 g3_z0
  have g4_z1 := get_step e4 g3_z1
  have g4_z2 := last_step e4 l3
  refine j_dup hX dX11_init_19 rfl ?_
  refine jpc (b := 20) rfl ?_
  refine j_callINM (as := []) (q := (h.1.length + 2)) (n0 := (h.1.length + 3)) hX lk_X11_18 dX11_init_20 (okX9_init g4_z2) rfl (rmm (by decide) hRf hRl (by decide)) (Nat.le_of_ble_eq_true rfl) (by rw [lenX9_init, l4]; omega) (by rw [snX9_init, s4]; omega) l4 (by simp [aBel] <;> omega) (by simp [aBel] <;> omega) (fun h5 e5 => ?_)
  have l5 : h5.1.length = h.1.length + 10 := by rw [e5, lenX9_init, l4]
  have s5 : aSn h5.1 = aSn h.1 + 583 := by rw [e5, snX9_init, s4]
  have g5_z0 : h5.1[p]? = _ := by rw [e5]; exact getX9_init g4_z0
  have g5_z1 : h5.1[h.1.length]? = _ := by rw [e5]; exact getX9_init g4_z1
  have g5_z2 : h5.1[(h.1.length + 2)]? = _ := by rw [e5]; exact getX9_init g4_z2
  refine j_putRFN (k := 1) hX kX11 (by decide) fk_X11_19 (by rw [l5]; omega) dX11_init_23 g5_z0 rfl rfl hnm rfl (fun h6 e6 => ?_)
  have l6 : h6.1.length = h.1.length + 10 := by rw [e6]; exact l5
  have s6 : aSn h6.1 = aSn h.1 + 583 := by rw [e6]; exact s5
  have g6_z0 : h6.1[p]? = _ := by rw [e6]; exact g5_z0
  have g6_z1 : h6.1[h.1.length]? = _ := by rw [e6]; exact g5_z1
  have g6_z2 : h6.1[(h.1.length + 2)]? = _ := by rw [e6]; exact g5_z2
  refine j_aload_n hX dX11_init_26 rfl ?_
  refine j_newN (N := 6) (n0 := (h.1.length + 10)) hX kX1 dX11_init_27 wCl_RX11_23 wIn_RX1 wIni_RX1 nf_RX1 l6 (by simp [aBel] <;> omega) (by simp [aBel] <;> omega) (by omega) (by rw [s6]; omega) (fun h7 e7 => ?_)
  have l7 : h7.1.length = h.1.length + 11 := len_step e7 l6 rfl
  have s7 : aSn h7.1 = aSn h.1 + 589 := sn_step e7 s6 (by decide) rfl
  have g7_z0 := get_step e7 g6_z0
  have g7_z1 := get_step e7 g6_z1
  have g7_z2 := get_step e7 g6_z2
  have g7_z3 := last_step e7 l6
  refine jpc (b := 30) rfl ?_
  refine j_dup hX dX11_init_30 rfl ?_
  refine j_callINM (as := []) (q := (h.1.length + 10)) (n0 := (h.1.length + 11)) hX lk_X11_25 dX11_init_31 (okX1_init g7_z3) rfl (rmm (by decide) hRf hRl (by decide)) (Nat.le_of_ble_eq_true rfl) (by rw [lenX1_init, l7]; omega) (by rw [snX1_init, s7]; omega) l7 (by simp [aBel] <;> omega) (by simp [aBel] <;> omega) (fun h8 e8 => ?_)
  have l8 : h8.1.length = h.1.length + 14 := by rw [e8, lenX1_init, l7]
  have s8 : aSn h8.1 = aSn h.1 + 663 := by rw [e8, snX1_init, s7]
  have g8_z0 : h8.1[p]? = _ := by rw [e8]; exact getX1_init g7_z0
  have g8_z1 : h8.1[h.1.length]? = _ := by rw [e8]; exact getX1_init g7_z1
  have g8_z2 : h8.1[(h.1.length + 2)]? = _ := by rw [e8]; exact getX1_init g7_z2
  have g8_z3 : h8.1[(h.1.length + 10)]? = _ := by rw [e8]; exact getX1_init g7_z3
  refine j_putRFN (k := 2) hX kX11 (by decide) fk_X11_26 (by rw [l8]; omega) dX11_init_34 g8_z0 rfl rfl hnm rfl (fun h9 e9 => ?_)
  have l9 : h9.1.length = h.1.length + 14 := by rw [e9]; exact l8
  have s9 : aSn h9.1 = aSn h.1 + 663 := by rw [e9]; exact s8
  have g9_z0 : h9.1[p]? = _ := by rw [e9]; exact g8_z0
  have g9_z1 : h9.1[h.1.length]? = _ := by rw [e9]; exact g8_z1
  have g9_z2 : h9.1[(h.1.length + 2)]? = _ := by rw [e9]; exact g8_z2
  have g9_z3 : h9.1[(h.1.length + 10)]? = _ := by rw [e9]; exact g8_z3
  refine j_aload_n hX dX11_init_37 rfl ?_
  refine j_newN (N := 6) (n0 := (h.1.length + 14)) hX kX1 dX11_init_38 wCl_RX11_23 wIn_RX1 wIni_RX1 nf_RX1 l9 (by simp [aBel] <;> omega) (by simp [aBel] <;> omega) (by omega) (by rw [s9]; omega) (fun h10 e10 => ?_)
  have l10 : h10.1.length = h.1.length + 15 := len_step e10 l9 rfl
  have s10 : aSn h10.1 = aSn h.1 + 669 := sn_step e10 s9 (by decide) rfl
  have g10_z0 := get_step e10 g9_z0
  have g10_z1 := get_step e10 g9_z1
  have g10_z2 := get_step e10 g9_z2
  have g10_z3 := get_step e10 g9_z3
  have g10_z4 := last_step e10 l9
  refine j_dup hX dX11_init_41 rfl ?_
  refine j_callINM (as := []) (q := (h.1.length + 14)) (n0 := (h.1.length + 15)) hX lk_X11_25 dX11_init_42 (okX1_init g10_z4) rfl (rmm (by decide) hRf hRl (by decide)) (Nat.le_of_ble_eq_true rfl) (by rw [lenX1_init, l10]; omega) (by rw [snX1_init, s10]; omega) l10 (by simp [aBel] <;> omega) (by simp [aBel] <;> omega) (fun h11 e11 => ?_)
  have l11 : h11.1.length = h.1.length + 18 := by rw [e11, lenX1_init, l10]
  have s11 : aSn h11.1 = aSn h.1 + 743 := by rw [e11, snX1_init, s10]
  have g11_z0 : h11.1[p]? = _ := by rw [e11]; exact getX1_init g10_z0
  have g11_z1 : h11.1[h.1.length]? = _ := by rw [e11]; exact getX1_init g10_z1
  have g11_z2 : h11.1[(h.1.length + 2)]? = _ := by rw [e11]; exact getX1_init g10_z2
  have g11_z3 : h11.1[(h.1.length + 10)]? = _ := by rw [e11]; exact getX1_init g10_z3
  have g11_z4 : h11.1[(h.1.length + 14)]? = _ := by rw [e11]; exact getX1_init g10_z4
  refine jpc (b := 45) rfl ?_
  refine j_putRFN (k := 3) hX kX11 (by decide) fk_X11_30 (by rw [l11]; omega) dX11_init_45 g11_z0 rfl rfl hnm rfl (fun h12 e12 => ?_)
  have l12 : h12.1.length = h.1.length + 18 := by rw [e12]; exact l11
  have s12 : aSn h12.1 = aSn h.1 + 743 := by rw [e12]; exact s11
  have g12_z0 : h12.1[p]? = _ := by rw [e12]; exact g11_z0
  have g12_z1 : h12.1[h.1.length]? = _ := by rw [e12]; exact g11_z1
  have g12_z2 : h12.1[(h.1.length + 2)]? = _ := by rw [e12]; exact g11_z2
  have g12_z3 : h12.1[(h.1.length + 10)]? = _ := by rw [e12]; exact g11_z3
  have g12_z4 : h12.1[(h.1.length + 14)]? = _ := by rw [e12]; exact g11_z4
  have r12_3 : h12.2.2.2 p 3 = some (100 + (h.1.length + 14)) := by rw [e12]; exact pR_at
  refine j_aload_n hX dX11_init_48 rfl ?_
  refine j_newN (N := 1) (n0 := (h.1.length + 18)) hX kX8 dX11_init_49 wCl_RX11_33 wIn_RX8 wIni_RX8 nf_RX8 l12 (by simp [aBel] <;> omega) (by simp [aBel] <;> omega) (by omega) (by rw [s12]; omega) (fun h13 e13 => ?_)
  have l13 : h13.1.length = h.1.length + 19 := len_step e13 l12 rfl
  have s13 : aSn h13.1 = aSn h.1 + 744 := sn_step e13 s12 (by decide) rfl
  have g13_z0 := get_step e13 g12_z0
  have g13_z1 := get_step e13 g12_z1
  have g13_z2 := get_step e13 g12_z2
  have g13_z3 := get_step e13 g12_z3
  have g13_z4 := get_step e13 g12_z4
  have r13_3 : h13.2.2.2 p 3 = some (100 + (h.1.length + 14)) := by rw [e13, aNew_rv (by rw [l12]; omega)]; exact r12_3
  have g13_z5 := last_step e13 l12
  refine j_dup hX dX11_init_52 rfl ?_
  refine j_callINM (as := []) (q := (h.1.length + 18)) (n0 := (h.1.length + 19)) hX lk_X11_35 dX11_init_53 (okX8_init g13_z5) rfl (rmm (by decide) hRf hRl (by decide)) (Nat.le_of_ble_eq_true rfl) (by rw [lenX8_init, l13]; omega) (by rw [snX8_init, s13]; omega) l13 (by simp [aBel] <;> omega) (by simp [aBel] <;> omega) (fun h14 e14 => ?_)
  have l14 : h14.1.length = h.1.length + 20 := by rw [e14, lenX8_init, l13]
  have s14 : aSn h14.1 = aSn h.1 + 800 := by rw [e14, snX8_init, s13]
  have g14_z0 : h14.1[p]? = _ := by rw [e14]; exact getX8_init g13_z0
  have g14_z1 : h14.1[h.1.length]? = _ := by rw [e14]; exact getX8_init g13_z1
  have g14_z2 : h14.1[(h.1.length + 2)]? = _ := by rw [e14]; exact getX8_init g13_z2
  have g14_z3 : h14.1[(h.1.length + 10)]? = _ := by rw [e14]; exact getX8_init g13_z3
  have g14_z4 : h14.1[(h.1.length + 14)]? = _ := by rw [e14]; exact getX8_init g13_z4
  have g14_z5 : h14.1[(h.1.length + 18)]? = _ := by rw [e14]; exact getX8_init g13_z5
  have r14_3 : h14.2.2.2 p 3 = some (100 + (h.1.length + 14)) := by rw [e14, rvX8_init (by rw [l13]; omega) (by omega)]; exact r13_3
  refine j_putRFN (k := 4) hX kX11 (by decide) fk_X11_36 (by rw [l14]; omega) dX11_init_56 g14_z0 rfl rfl hnm rfl (fun h15 e15 => ?_)
  have l15 : h15.1.length = h.1.length + 20 := by rw [e15]; exact l14
  have s15 : aSn h15.1 = aSn h.1 + 800 := by rw [e15]; exact s14
  have g15_z0 : h15.1[p]? = _ := by rw [e15]; exact g14_z0
  have g15_z1 : h15.1[h.1.length]? = _ := by rw [e15]; exact g14_z1
  have g15_z2 : h15.1[(h.1.length + 2)]? = _ := by rw [e15]; exact g14_z2
  have g15_z3 : h15.1[(h.1.length + 10)]? = _ := by rw [e15]; exact g14_z3
  have g15_z4 : h15.1[(h.1.length + 14)]? = _ := by rw [e15]; exact g14_z4
  have g15_z5 : h15.1[(h.1.length + 18)]? = _ := by rw [e15]; exact g14_z5
  have r15_3 : h15.2.2.2 p 3 = some (100 + (h.1.length + 14)) := by rw [e15, pR_rv (Or.inr (by decide))]; exact r14_3
  have r15_4 : h15.2.2.2 p 4 = some (100 + (h.1.length + 18)) := by rw [e15]; exact pR_at
  refine j_aload_n hX dX11_init_59 rfl ?_
  refine jpc (b := 60) rfl ?_
  refine j_newN (N := 1) (n0 := (h.1.length + 20)) hX kX8 dX11_init_60 wCl_RX11_33 wIn_RX8 wIni_RX8 nf_RX8 l15 (by simp [aBel] <;> omega) (by simp [aBel] <;> omega) (by omega) (by rw [s15]; omega) (fun h16 e16 => ?_)
  have l16 : h16.1.length = h.1.length + 21 := len_step e16 l15 rfl
  have s16 : aSn h16.1 = aSn h.1 + 801 := sn_step e16 s15 (by decide) rfl
  have g16_z0 := get_step e16 g15_z0
  have g16_z1 := get_step e16 g15_z1
  have g16_z2 := get_step e16 g15_z2
  have g16_z3 := get_step e16 g15_z3
  have g16_z4 := get_step e16 g15_z4
  have g16_z5 := get_step e16 g15_z5
  have r16_3 : h16.2.2.2 p 3 = some (100 + (h.1.length + 14)) := by rw [e16, aNew_rv (by rw [l15]; omega)]; exact r15_3
  have r16_4 : h16.2.2.2 p 4 = some (100 + (h.1.length + 18)) := by rw [e16, aNew_rv (by rw [l15]; omega)]; exact r15_4
  have g16_z6 := last_step e16 l15
  refine j_dup hX dX11_init_63 rfl ?_
  refine j_callINM (as := []) (q := (h.1.length + 20)) (n0 := (h.1.length + 21)) hX lk_X11_35 dX11_init_64 (okX8_init g16_z6) rfl (rmm (by decide) hRf hRl (by decide)) (Nat.le_of_ble_eq_true rfl) (by rw [lenX8_init, l16]; omega) (by rw [snX8_init, s16]; omega) l16 (by simp [aBel] <;> omega) (by simp [aBel] <;> omega) (fun h17 e17 => ?_)
  have l17 : h17.1.length = h.1.length + 22 := by rw [e17, lenX8_init, l16]
  have s17 : aSn h17.1 = aSn h.1 + 857 := by rw [e17, snX8_init, s16]
  have g17_z0 : h17.1[p]? = _ := by rw [e17]; exact getX8_init g16_z0
  have g17_z1 : h17.1[h.1.length]? = _ := by rw [e17]; exact getX8_init g16_z1
  have g17_z2 : h17.1[(h.1.length + 2)]? = _ := by rw [e17]; exact getX8_init g16_z2
  have g17_z3 : h17.1[(h.1.length + 10)]? = _ := by rw [e17]; exact getX8_init g16_z3
  have g17_z4 : h17.1[(h.1.length + 14)]? = _ := by rw [e17]; exact getX8_init g16_z4
  have g17_z5 : h17.1[(h.1.length + 18)]? = _ := by rw [e17]; exact getX8_init g16_z5
  have g17_z6 : h17.1[(h.1.length + 20)]? = _ := by rw [e17]; exact getX8_init g16_z6
  have r17_3 : h17.2.2.2 p 3 = some (100 + (h.1.length + 14)) := by rw [e17, rvX8_init (by rw [l16]; omega) (by omega)]; exact r16_3
  have r17_4 : h17.2.2.2 p 4 = some (100 + (h.1.length + 18)) := by rw [e17, rvX8_init (by rw [l16]; omega) (by omega)]; exact r16_4
  refine j_putRFN (k := 5) hX kX11 (by decide) fk_X11_40 (by rw [l17]; omega) dX11_init_67 g17_z0 rfl rfl hnm rfl (fun h18 e18 => ?_)
  have l18 : h18.1.length = h.1.length + 22 := by rw [e18]; exact l17
  have s18 : aSn h18.1 = aSn h.1 + 857 := by rw [e18]; exact s17
  have g18_z0 : h18.1[p]? = _ := by rw [e18]; exact g17_z0
  have g18_z1 : h18.1[h.1.length]? = _ := by rw [e18]; exact g17_z1
  have g18_z2 : h18.1[(h.1.length + 2)]? = _ := by rw [e18]; exact g17_z2
  have g18_z3 : h18.1[(h.1.length + 10)]? = _ := by rw [e18]; exact g17_z3
  have g18_z4 : h18.1[(h.1.length + 14)]? = _ := by rw [e18]; exact g17_z4
  have g18_z5 : h18.1[(h.1.length + 18)]? = _ := by rw [e18]; exact g17_z5
  have g18_z6 : h18.1[(h.1.length + 20)]? = _ := by rw [e18]; exact g17_z6
  have r18_3 : h18.2.2.2 p 3 = some (100 + (h.1.length + 14)) := by rw [e18, pR_rv (Or.inr (by decide))]; exact r17_3
  have r18_4 : h18.2.2.2 p 4 = some (100 + (h.1.length + 18)) := by rw [e18, pR_rv (Or.inr (by decide))]; exact r17_4
  refine jpc (b := 70) rfl ?_
  refine j_aload_n hX dX11_init_70 rfl ?_
  refine j_newN (N := 5) (n0 := (h.1.length + 22)) hX kX3 dX11_init_71 wCl_RX11_43 wIn_RX3 wIni_RX3 nf_RX3 l18 (by simp [aBel] <;> omega) (by simp [aBel] <;> omega) (by omega) (by rw [s18]; omega) (fun h19 e19 => ?_)
  have l19 : h19.1.length = h.1.length + 23 := len_step e19 l18 rfl
  have s19 : aSn h19.1 = aSn h.1 + 862 := sn_step e19 s18 (by decide) rfl
  have g19_z0 := get_step e19 g18_z0
  have g19_z1 := get_step e19 g18_z1
  have g19_z2 := get_step e19 g18_z2
  have g19_z3 := get_step e19 g18_z3
  have g19_z4 := get_step e19 g18_z4
  have g19_z5 := get_step e19 g18_z5
  have g19_z6 := get_step e19 g18_z6
  have r19_3 : h19.2.2.2 p 3 = some (100 + (h.1.length + 14)) := by rw [e19, aNew_rv (by rw [l18]; omega)]; exact r18_3
  have r19_4 : h19.2.2.2 p 4 = some (100 + (h.1.length + 18)) := by rw [e19, aNew_rv (by rw [l18]; omega)]; exact r18_4
  have g19_z7 := last_step e19 l18
  refine j_dup hX dX11_init_74 rfl ?_
  refine jpc (b := 75) rfl ?_
  refine j_aload_n hX dX11_init_75 rfl ?_
  refine j_getRN (k := 3) hX kX11 (by decide) fk_X11_30 r19_3 dX11_init_76 g19_z0 rfl ?_
  refine j_callIM (as := [.ref (100 + (h.1.length + 14))]) (q := (h.1.length + 22)) (n0 := (h.1.length + 23)) hX lk_X11_45 dX11_init_79 (okX3_init g19_z7 g19_z4) rfl (rmm (by decide) hRf hRl (by decide)) (Nat.le_of_ble_eq_true rfl) (by rw [lenX3_init, l19]; omega) (by rw [snX3_init, s19]; omega) l19 (by simp [aBel] <;> omega) (by simp [aBel] <;> omega) (fun h20 e20 => ?_)
  have l20 : h20.1.length = h.1.length + 24 := by rw [e20, lenX3_init, l19]
  have s20 : aSn h20.1 = aSn h.1 + 868 := by rw [e20, snX3_init, s19]
  have g20_z0 : h20.1[p]? = _ := by rw [e20]; exact getX3_init g19_z0
  have g20_z1 : h20.1[h.1.length]? = _ := by rw [e20]; exact getX3_init g19_z1
  have g20_z2 : h20.1[(h.1.length + 2)]? = _ := by rw [e20]; exact getX3_init g19_z2
  have g20_z3 : h20.1[(h.1.length + 10)]? = _ := by rw [e20]; exact getX3_init g19_z3
  have g20_z4 : h20.1[(h.1.length + 14)]? = _ := by rw [e20]; exact getX3_init g19_z4
  have g20_z5 : h20.1[(h.1.length + 18)]? = _ := by rw [e20]; exact getX3_init g19_z5
  have g20_z6 : h20.1[(h.1.length + 20)]? = _ := by rw [e20]; exact getX3_init g19_z6
  have g20_z7 : h20.1[(h.1.length + 22)]? = _ := by rw [e20]; exact getX3_init g19_z7
  have r20_3 : h20.2.2.2 p 3 = some (100 + (h.1.length + 14)) := by rw [e20, rvX3_init (by rw [l19]; omega) (by omega)]; exact r19_3
  have r20_4 : h20.2.2.2 p 4 = some (100 + (h.1.length + 18)) := by rw [e20, rvX3_init (by rw [l19]; omega) (by omega)]; exact r19_4
  refine j_putRFN (k := 6) hX kX11 (by decide) fk_X11_48 (by rw [l20]; omega) dX11_init_82 g20_z0 rfl rfl hnm rfl (fun h21 e21 => ?_)
  have l21 : h21.1.length = h.1.length + 24 := by rw [e21]; exact l20
  have s21 : aSn h21.1 = aSn h.1 + 868 := by rw [e21]; exact s20
  have g21_z0 : h21.1[p]? = _ := by rw [e21]; exact g20_z0
  have g21_z1 : h21.1[h.1.length]? = _ := by rw [e21]; exact g20_z1
  have g21_z2 : h21.1[(h.1.length + 2)]? = _ := by rw [e21]; exact g20_z2
  have g21_z3 : h21.1[(h.1.length + 10)]? = _ := by rw [e21]; exact g20_z3
  have g21_z4 : h21.1[(h.1.length + 14)]? = _ := by rw [e21]; exact g20_z4
  have g21_z5 : h21.1[(h.1.length + 18)]? = _ := by rw [e21]; exact g20_z5
  have g21_z6 : h21.1[(h.1.length + 20)]? = _ := by rw [e21]; exact g20_z6
  have g21_z7 : h21.1[(h.1.length + 22)]? = _ := by rw [e21]; exact g20_z7
  have r21_3 : h21.2.2.2 p 3 = some (100 + (h.1.length + 14)) := by rw [e21, pR_rv (Or.inr (by decide))]; exact r20_3
  have r21_4 : h21.2.2.2 p 4 = some (100 + (h.1.length + 18)) := by rw [e21, pR_rv (Or.inr (by decide))]; exact r20_4
  have r21_6 : h21.2.2.2 p 6 = some (100 + (h.1.length + 22)) := by rw [e21]; exact pR_at
  refine jpc (b := 85) rfl ?_
  refine j_aload_n hX dX11_init_85 rfl ?_
  refine j_newN (N := 7) (n0 := (h.1.length + 24)) hX kX6 dX11_init_86 wCl_RX11_52 wIn_RX6 wIni_RX6 nf_RX6 l21 (by simp [aBel] <;> omega) (by simp [aBel] <;> omega) (by omega) (by rw [s21]; omega) (fun h22 e22 => ?_)
  have l22 : h22.1.length = h.1.length + 25 := len_step e22 l21 rfl
  have s22 : aSn h22.1 = aSn h.1 + 875 := sn_step e22 s21 (by decide) rfl
  have g22_z0 := get_step e22 g21_z0
  have g22_z1 := get_step e22 g21_z1
  have g22_z2 := get_step e22 g21_z2
  have g22_z3 := get_step e22 g21_z3
  have g22_z4 := get_step e22 g21_z4
  have g22_z5 := get_step e22 g21_z5
  have g22_z6 := get_step e22 g21_z6
  have g22_z7 := get_step e22 g21_z7
  have r22_3 : h22.2.2.2 p 3 = some (100 + (h.1.length + 14)) := by rw [e22, aNew_rv (by rw [l21]; omega)]; exact r21_3
  have r22_4 : h22.2.2.2 p 4 = some (100 + (h.1.length + 18)) := by rw [e22, aNew_rv (by rw [l21]; omega)]; exact r21_4
  have r22_6 : h22.2.2.2 p 6 = some (100 + (h.1.length + 22)) := by rw [e22, aNew_rv (by rw [l21]; omega)]; exact r21_6
  have g22_z8 := last_step e22 l21
  refine j_dup hX dX11_init_89 rfl ?_
  refine jpc (b := 90) rfl ?_
  refine j_callINM (as := []) (q := (h.1.length + 24)) (n0 := (h.1.length + 25)) hX lk_X11_54 dX11_init_90 (okX6_init g22_z8) rfl (rmm (by decide) hRf hRl (by decide)) (Nat.le_of_ble_eq_true rfl) (by rw [lenX6_init, l22]; omega) (by rw [snX6_init, s22]; omega) l22 (by simp [aBel] <;> omega) (by simp [aBel] <;> omega) (fun h23 e23 => ?_)
  have l23 : h23.1.length = h.1.length + 29 := by rw [e23, lenX6_init, l22]
  have s23 : aSn h23.1 = aSn h.1 + 4027 := by rw [e23, snX6_init, s22]
  have g23_z0 : h23.1[p]? = _ := by rw [e23]; exact getX6_init g22_z0
  have g23_z1 : h23.1[h.1.length]? = _ := by rw [e23]; exact getX6_init g22_z1
  have g23_z2 : h23.1[(h.1.length + 2)]? = _ := by rw [e23]; exact getX6_init g22_z2
  have g23_z3 : h23.1[(h.1.length + 10)]? = _ := by rw [e23]; exact getX6_init g22_z3
  have g23_z4 : h23.1[(h.1.length + 14)]? = _ := by rw [e23]; exact getX6_init g22_z4
  have g23_z5 : h23.1[(h.1.length + 18)]? = _ := by rw [e23]; exact getX6_init g22_z5
  have g23_z6 : h23.1[(h.1.length + 20)]? = _ := by rw [e23]; exact getX6_init g22_z6
  have g23_z7 : h23.1[(h.1.length + 22)]? = _ := by rw [e23]; exact getX6_init g22_z7
  have g23_z8 : h23.1[(h.1.length + 24)]? = _ := by rw [e23]; exact getX6_init g22_z8
  have r23_3 : h23.2.2.2 p 3 = some (100 + (h.1.length + 14)) := by rw [e23, rvX6_init (by rw [l22]; omega) (by omega)]; exact r22_3
  have r23_4 : h23.2.2.2 p 4 = some (100 + (h.1.length + 18)) := by rw [e23, rvX6_init (by rw [l22]; omega) (by omega)]; exact r22_4
  have r23_6 : h23.2.2.2 p 6 = some (100 + (h.1.length + 22)) := by rw [e23, rvX6_init (by rw [l22]; omega) (by omega)]; exact r22_6
  refine j_putRFN (k := 7) hX kX11 (by decide) fk_X11_55 (by rw [l23]; omega) dX11_init_93 g23_z0 rfl rfl hnm rfl (fun h24 e24 => ?_)
  have l24 : h24.1.length = h.1.length + 29 := by rw [e24]; exact l23
  have s24 : aSn h24.1 = aSn h.1 + 4027 := by rw [e24]; exact s23
  have g24_z0 : h24.1[p]? = _ := by rw [e24]; exact g23_z0
  have g24_z1 : h24.1[h.1.length]? = _ := by rw [e24]; exact g23_z1
  have g24_z2 : h24.1[(h.1.length + 2)]? = _ := by rw [e24]; exact g23_z2
  have g24_z3 : h24.1[(h.1.length + 10)]? = _ := by rw [e24]; exact g23_z3
  have g24_z4 : h24.1[(h.1.length + 14)]? = _ := by rw [e24]; exact g23_z4
  have g24_z5 : h24.1[(h.1.length + 18)]? = _ := by rw [e24]; exact g23_z5
  have g24_z6 : h24.1[(h.1.length + 20)]? = _ := by rw [e24]; exact g23_z6
  have g24_z7 : h24.1[(h.1.length + 22)]? = _ := by rw [e24]; exact g23_z7
  have g24_z8 : h24.1[(h.1.length + 24)]? = _ := by rw [e24]; exact g23_z8
  have r24_3 : h24.2.2.2 p 3 = some (100 + (h.1.length + 14)) := by rw [e24, pR_rv (Or.inr (by decide))]; exact r23_3
  have r24_4 : h24.2.2.2 p 4 = some (100 + (h.1.length + 18)) := by rw [e24, pR_rv (Or.inr (by decide))]; exact r23_4
  have r24_6 : h24.2.2.2 p 6 = some (100 + (h.1.length + 22)) := by rw [e24, pR_rv (Or.inr (by decide))]; exact r23_6
  refine j_aload_n hX dX11_init_96 rfl ?_
  refine j_newN (N := 11) (n0 := (h.1.length + 29)) hX kX7 dX11_init_97 wCl_RX11_59 wIn_RX7 wIni_RX7 nf_RX7 l24 (by simp [aBel] <;> omega) (by simp [aBel] <;> omega) (by omega) (by rw [s24]; omega) (fun h25 e25 => ?_)
  have l25 : h25.1.length = h.1.length + 30 := len_step e25 l24 rfl
  have s25 : aSn h25.1 = aSn h.1 + 4038 := sn_step e25 s24 (by decide) rfl
  have g25_z0 := get_step e25 g24_z0
  have g25_z1 := get_step e25 g24_z1
  have g25_z2 := get_step e25 g24_z2
  have g25_z3 := get_step e25 g24_z3
  have g25_z4 := get_step e25 g24_z4
  have g25_z5 := get_step e25 g24_z5
  have g25_z6 := get_step e25 g24_z6
  have g25_z7 := get_step e25 g24_z7
  have g25_z8 := get_step e25 g24_z8
  have r25_3 : h25.2.2.2 p 3 = some (100 + (h.1.length + 14)) := by rw [e25, aNew_rv (by rw [l24]; omega)]; exact r24_3
  have r25_4 : h25.2.2.2 p 4 = some (100 + (h.1.length + 18)) := by rw [e25, aNew_rv (by rw [l24]; omega)]; exact r24_4
  have r25_6 : h25.2.2.2 p 6 = some (100 + (h.1.length + 22)) := by rw [e25, aNew_rv (by rw [l24]; omega)]; exact r24_6
  have g25_z9 := last_step e25 l24
  refine jpc (b := 100) rfl ?_
  refine j_dup hX dX11_init_100 rfl ?_
  refine j_aload_n hX dX11_init_101 rfl ?_
  refine j_getRN (k := 3) hX kX11 (by decide) fk_X11_30 r25_3 dX11_init_102 g25_z0 rfl ?_
  refine jpc (b := 105) rfl ?_
  refine j_aload_n hX dX11_init_105 rfl ?_
  refine j_getRN (k := 6) hX kX11 (by decide) fk_X11_48 r25_6 dX11_init_106 g25_z0 rfl ?_
  refine j_aload_n hX dX11_init_109 rfl ?_
  refine jpc (b := 110) rfl ?_
  refine j_getRN (k := 4) hX kX11 (by decide) fk_X11_36 r25_4 dX11_init_110 g25_z0 rfl ?_
  refine j_callIM (as := [.ref (100 + (h.1.length + 14)), .ref (100 + (h.1.length + 22)), .ref (100 + (h.1.length + 18))]) (q := (h.1.length + 29)) (n0 := (h.1.length + 30)) hX lk_X11_61 dX11_init_113 (okX7_init g25_z9 g25_z4 g25_z7 g25_z5) rfl (rmm (by decide) hRf hRl (by decide)) (Nat.le_of_ble_eq_true rfl) (by rw [lenX7_init, l25]; omega) (by rw [snX7_init, s25]; omega) l25 (by simp [aBel] <;> omega) (by simp [aBel] <;> omega) (fun h26 e26 => ?_)
  have l26 : h26.1.length = h.1.length + 34 := by rw [e26, lenX7_init, l25]
  have s26 : aSn h26.1 = aSn h.1 + 5078 := by rw [e26, snX7_init, s25]
  have g26_z0 : h26.1[p]? = _ := by rw [e26]; exact getX7_init g25_z0
  have g26_z1 : h26.1[h.1.length]? = _ := by rw [e26]; exact getX7_init g25_z1
  have g26_z2 : h26.1[(h.1.length + 2)]? = _ := by rw [e26]; exact getX7_init g25_z2
  have g26_z3 : h26.1[(h.1.length + 10)]? = _ := by rw [e26]; exact getX7_init g25_z3
  have g26_z4 : h26.1[(h.1.length + 14)]? = _ := by rw [e26]; exact getX7_init g25_z4
  have g26_z5 : h26.1[(h.1.length + 18)]? = _ := by rw [e26]; exact getX7_init g25_z5
  have g26_z6 : h26.1[(h.1.length + 20)]? = _ := by rw [e26]; exact getX7_init g25_z6
  have g26_z7 : h26.1[(h.1.length + 22)]? = _ := by rw [e26]; exact getX7_init g25_z7
  have g26_z8 : h26.1[(h.1.length + 24)]? = _ := by rw [e26]; exact getX7_init g25_z8
  have g26_z9 : h26.1[(h.1.length + 29)]? = _ := by rw [e26]; exact getX7_init g25_z9
  have r26_3 : h26.2.2.2 p 3 = some (100 + (h.1.length + 14)) := by rw [e26, rvX7_init (by rw [l25]; omega) (by omega)]; exact r25_3
  have r26_4 : h26.2.2.2 p 4 = some (100 + (h.1.length + 18)) := by rw [e26, rvX7_init (by rw [l25]; omega) (by omega)]; exact r25_4
  have r26_6 : h26.2.2.2 p 6 = some (100 + (h.1.length + 22)) := by rw [e26, rvX7_init (by rw [l25]; omega) (by omega)]; exact r25_6
  refine j_putRFN (k := 8) hX kX11 (by decide) fk_X11_64 (by rw [l26]; omega) dX11_init_116 g26_z0 rfl rfl hnm rfl (fun h27 e27 => ?_)
  have l27 : h27.1.length = h.1.length + 34 := by rw [e27]; exact l26
  have s27 : aSn h27.1 = aSn h.1 + 5078 := by rw [e27]; exact s26
  have g27_z0 : h27.1[p]? = _ := by rw [e27]; exact g26_z0
  have g27_z1 : h27.1[h.1.length]? = _ := by rw [e27]; exact g26_z1
  have g27_z2 : h27.1[(h.1.length + 2)]? = _ := by rw [e27]; exact g26_z2
  have g27_z3 : h27.1[(h.1.length + 10)]? = _ := by rw [e27]; exact g26_z3
  have g27_z4 : h27.1[(h.1.length + 14)]? = _ := by rw [e27]; exact g26_z4
  have g27_z5 : h27.1[(h.1.length + 18)]? = _ := by rw [e27]; exact g26_z5
  have g27_z6 : h27.1[(h.1.length + 20)]? = _ := by rw [e27]; exact g26_z6
  have g27_z7 : h27.1[(h.1.length + 22)]? = _ := by rw [e27]; exact g26_z7
  have g27_z8 : h27.1[(h.1.length + 24)]? = _ := by rw [e27]; exact g26_z8
  have g27_z9 : h27.1[(h.1.length + 29)]? = _ := by rw [e27]; exact g26_z9
  have r27_3 : h27.2.2.2 p 3 = some (100 + (h.1.length + 14)) := by rw [e27, pR_rv (Or.inr (by decide))]; exact r26_3
  have r27_4 : h27.2.2.2 p 4 = some (100 + (h.1.length + 18)) := by rw [e27, pR_rv (Or.inr (by decide))]; exact r26_4
  have r27_6 : h27.2.2.2 p 6 = some (100 + (h.1.length + 22)) := by rw [e27, pR_rv (Or.inr (by decide))]; exact r26_6
  refine j_aload_n hX dX11_init_119 rfl ?_
  refine jpc (b := 120) rfl ?_
  refine j_newN (N := 15) (n0 := (h.1.length + 34)) hX kX0 dX11_init_120 wCl_RX11_68 wIn_RX0 wIni_RX0 nf_RX0 l27 (by simp [aBel] <;> omega) (by simp [aBel] <;> omega) (by omega) (by rw [s27]; omega) (fun h28 e28 => ?_)
  have l28 : h28.1.length = h.1.length + 35 := len_step e28 l27 rfl
  have s28 : aSn h28.1 = aSn h.1 + 5093 := sn_step e28 s27 (by decide) rfl
  have g28_z0 := get_step e28 g27_z0
  have g28_z1 := get_step e28 g27_z1
  have g28_z2 := get_step e28 g27_z2
  have g28_z3 := get_step e28 g27_z3
  have g28_z4 := get_step e28 g27_z4
  have g28_z5 := get_step e28 g27_z5
  have g28_z6 := get_step e28 g27_z6
  have g28_z7 := get_step e28 g27_z7
  have g28_z8 := get_step e28 g27_z8
  have g28_z9 := get_step e28 g27_z9
  have r28_3 : h28.2.2.2 p 3 = some (100 + (h.1.length + 14)) := by rw [e28, aNew_rv (by rw [l27]; omega)]; exact r27_3
  have r28_4 : h28.2.2.2 p 4 = some (100 + (h.1.length + 18)) := by rw [e28, aNew_rv (by rw [l27]; omega)]; exact r27_4
  have r28_6 : h28.2.2.2 p 6 = some (100 + (h.1.length + 22)) := by rw [e28, aNew_rv (by rw [l27]; omega)]; exact r27_6
  have g28_z10 := last_step e28 l27
  refine j_dup hX dX11_init_123 rfl ?_
  refine j_aload_n hX dX11_init_124 rfl ?_
  refine jpc (b := 125) rfl ?_
  refine j_getRN (k := 3) hX kX11 (by decide) fk_X11_30 r28_3 dX11_init_125 g28_z0 rfl ?_
  refine j_aload_n hX dX11_init_128 rfl ?_
  refine j_getRN (k := 6) hX kX11 (by decide) fk_X11_48 r28_6 dX11_init_129 g28_z0 rfl ?_
  refine j_aload_n hX dX11_init_132 rfl ?_
  refine j_getRN (k := 4) hX kX11 (by decide) fk_X11_36 r28_4 dX11_init_133 g28_z0 rfl ?_
  refine j_callIM (as := [.ref (100 + (h.1.length + 14)), .ref (100 + (h.1.length + 22)), .ref (100 + (h.1.length + 18))]) (q := (h.1.length + 34)) (n0 := (h.1.length + 35)) hX lk_X11_70 dX11_init_136 (okX0_init g28_z10 g28_z4 g28_z7 g28_z5) rfl (rmm (by decide) hRf hRl (by decide)) (Nat.le_of_ble_eq_true rfl) (by rw [lenX0_init, l28]; omega) (by rw [snX0_init, s28]; omega) l28 (by simp [aBel] <;> omega) (by simp [aBel] <;> omega) (fun h29 e29 => ?_)
  have l29 : h29.1.length = h.1.length + 44 := by rw [e29, lenX0_init, l28]
  have s29 : aSn h29.1 = aSn h.1 + 5910 := by rw [e29, snX0_init, s28]
  have g29_z0 : h29.1[p]? = _ := by rw [e29]; exact getX0_init g28_z0
  have g29_z1 : h29.1[h.1.length]? = _ := by rw [e29]; exact getX0_init g28_z1
  have g29_z2 : h29.1[(h.1.length + 2)]? = _ := by rw [e29]; exact getX0_init g28_z2
  have g29_z3 : h29.1[(h.1.length + 10)]? = _ := by rw [e29]; exact getX0_init g28_z3
  have g29_z4 : h29.1[(h.1.length + 14)]? = _ := by rw [e29]; exact getX0_init g28_z4
  have g29_z5 : h29.1[(h.1.length + 18)]? = _ := by rw [e29]; exact getX0_init g28_z5
  have g29_z6 : h29.1[(h.1.length + 20)]? = _ := by rw [e29]; exact getX0_init g28_z6
  have g29_z7 : h29.1[(h.1.length + 22)]? = _ := by rw [e29]; exact getX0_init g28_z7
  have g29_z8 : h29.1[(h.1.length + 24)]? = _ := by rw [e29]; exact getX0_init g28_z8
  have g29_z9 : h29.1[(h.1.length + 29)]? = _ := by rw [e29]; exact getX0_init g28_z9
  have g29_z10 : h29.1[(h.1.length + 34)]? = _ := by rw [e29]; exact getX0_init g28_z10
  have r29_3 : h29.2.2.2 p 3 = some (100 + (h.1.length + 14)) := by rw [e29, rvX0_init (by rw [l28]; omega) (by omega)]; exact r28_3
  have r29_4 : h29.2.2.2 p 4 = some (100 + (h.1.length + 18)) := by rw [e29, rvX0_init (by rw [l28]; omega) (by omega)]; exact r28_4
  have r29_6 : h29.2.2.2 p 6 = some (100 + (h.1.length + 22)) := by rw [e29, rvX0_init (by rw [l28]; omega) (by omega)]; exact r28_6
  refine j_putRFN (k := 9) hX kX11 (by decide) fk_X11_71 (by rw [l29]; omega) dX11_init_139 g29_z0 rfl rfl hnm rfl (fun h30 e30 => ?_)
  have l30 : h30.1.length = h.1.length + 44 := by rw [e30]; exact l29
  have s30 : aSn h30.1 = aSn h.1 + 5910 := by rw [e30]; exact s29
  have g30_z0 : h30.1[p]? = _ := by rw [e30]; exact g29_z0
  have g30_z1 : h30.1[h.1.length]? = _ := by rw [e30]; exact g29_z1
  have g30_z2 : h30.1[(h.1.length + 2)]? = _ := by rw [e30]; exact g29_z2
  have g30_z3 : h30.1[(h.1.length + 10)]? = _ := by rw [e30]; exact g29_z3
  have g30_z4 : h30.1[(h.1.length + 14)]? = _ := by rw [e30]; exact g29_z4
  have g30_z5 : h30.1[(h.1.length + 18)]? = _ := by rw [e30]; exact g29_z5
  have g30_z6 : h30.1[(h.1.length + 20)]? = _ := by rw [e30]; exact g29_z6
  have g30_z7 : h30.1[(h.1.length + 22)]? = _ := by rw [e30]; exact g29_z7
  have g30_z8 : h30.1[(h.1.length + 24)]? = _ := by rw [e30]; exact g29_z8
  have g30_z9 : h30.1[(h.1.length + 29)]? = _ := by rw [e30]; exact g29_z9
  have g30_z10 : h30.1[(h.1.length + 34)]? = _ := by rw [e30]; exact g29_z10
  have r30_3 : h30.2.2.2 p 3 = some (100 + (h.1.length + 14)) := by rw [e30, pR_rv (Or.inr (by decide))]; exact r29_3
  have r30_4 : h30.2.2.2 p 4 = some (100 + (h.1.length + 18)) := by rw [e30, pR_rv (Or.inr (by decide))]; exact r29_4
  have r30_6 : h30.2.2.2 p 6 = some (100 + (h.1.length + 22)) := by rw [e30, pR_rv (Or.inr (by decide))]; exact r29_6
  refine j_aload_n hX dX11_init_142 rfl ?_
  refine j_newN (N := 9) (n0 := (h.1.length + 44)) hX kX2 dX11_init_143 wCl_RX11_75 wIn_RX2 wIni_RX2 nf_RX2 l30 (by simp [aBel] <;> omega) (by simp [aBel] <;> omega) (by omega) (by rw [s30]; omega) (fun h31 e31 => ?_)
  have l31 : h31.1.length = h.1.length + 45 := len_step e31 l30 rfl
  have s31 : aSn h31.1 = aSn h.1 + 5919 := sn_step e31 s30 (by decide) rfl
  have g31_z0 := get_step e31 g30_z0
  have g31_z1 := get_step e31 g30_z1
  have g31_z2 := get_step e31 g30_z2
  have g31_z3 := get_step e31 g30_z3
  have g31_z4 := get_step e31 g30_z4
  have g31_z5 := get_step e31 g30_z5
  have g31_z6 := get_step e31 g30_z6
  have g31_z7 := get_step e31 g30_z7
  have g31_z8 := get_step e31 g30_z8
  have g31_z9 := get_step e31 g30_z9
  have g31_z10 := get_step e31 g30_z10
  have r31_3 : h31.2.2.2 p 3 = some (100 + (h.1.length + 14)) := by rw [e31, aNew_rv (by rw [l30]; omega)]; exact r30_3
  have r31_4 : h31.2.2.2 p 4 = some (100 + (h.1.length + 18)) := by rw [e31, aNew_rv (by rw [l30]; omega)]; exact r30_4
  have r31_6 : h31.2.2.2 p 6 = some (100 + (h.1.length + 22)) := by rw [e31, aNew_rv (by rw [l30]; omega)]; exact r30_6
  have g31_z11 := last_step e31 l30
  refine j_dup hX dX11_init_146 rfl ?_
  refine j_aload_n hX dX11_init_147 rfl ?_
  refine j_getRN (k := 3) hX kX11 (by decide) fk_X11_30 r31_3 dX11_init_148 g31_z0 rfl ?_
  refine j_aload_n hX dX11_init_151 rfl ?_
  refine j_getRN (k := 6) hX kX11 (by decide) fk_X11_48 r31_6 dX11_init_152 g31_z0 rfl ?_
  refine jpc (b := 155) rfl ?_
  refine j_aload_n hX dX11_init_155 rfl ?_
  refine j_getRN (k := 4) hX kX11 (by decide) fk_X11_36 r31_4 dX11_init_156 g31_z0 rfl ?_
  refine j_callIM (as := [.ref (100 + (h.1.length + 14)), .ref (100 + (h.1.length + 22)), .ref (100 + (h.1.length + 18))]) (q := (h.1.length + 44)) (n0 := (h.1.length + 45)) hX lk_X11_77 dX11_init_159 (okX2_init g31_z11 g31_z4 g31_z7 g31_z5) rfl (rmm (by decide) hRf hRl (by decide)) (Nat.le_of_ble_eq_true rfl) (by rw [lenX2_init, l31]; omega) (by rw [snX2_init, s31]; omega) l31 (by simp [aBel] <;> omega) (by simp [aBel] <;> omega) (fun h32 e32 => ?_)
  have l32 : h32.1.length = h.1.length + 49 := by rw [e32, lenX2_init, l31]
  have s32 : aSn h32.1 = aSn h.1 + 5955 := by rw [e32, snX2_init, s31]
  have g32_z0 : h32.1[p]? = _ := by rw [e32]; exact getX2_init g31_z0
  have g32_z1 : h32.1[h.1.length]? = _ := by rw [e32]; exact getX2_init g31_z1
  have g32_z2 : h32.1[(h.1.length + 2)]? = _ := by rw [e32]; exact getX2_init g31_z2
  have g32_z3 : h32.1[(h.1.length + 10)]? = _ := by rw [e32]; exact getX2_init g31_z3
  have g32_z4 : h32.1[(h.1.length + 14)]? = _ := by rw [e32]; exact getX2_init g31_z4
  have g32_z5 : h32.1[(h.1.length + 18)]? = _ := by rw [e32]; exact getX2_init g31_z5
  have g32_z6 : h32.1[(h.1.length + 20)]? = _ := by rw [e32]; exact getX2_init g31_z6
  have g32_z7 : h32.1[(h.1.length + 22)]? = _ := by rw [e32]; exact getX2_init g31_z7
  have g32_z8 : h32.1[(h.1.length + 24)]? = _ := by rw [e32]; exact getX2_init g31_z8
  have g32_z9 : h32.1[(h.1.length + 29)]? = _ := by rw [e32]; exact getX2_init g31_z9
  have g32_z10 : h32.1[(h.1.length + 34)]? = _ := by rw [e32]; exact getX2_init g31_z10
  have g32_z11 : h32.1[(h.1.length + 44)]? = _ := by rw [e32]; exact getX2_init g31_z11
  have r32_3 : h32.2.2.2 p 3 = some (100 + (h.1.length + 14)) := by rw [e32, rvX2_init (by rw [l31]; omega) (by omega)]; exact r31_3
  have r32_4 : h32.2.2.2 p 4 = some (100 + (h.1.length + 18)) := by rw [e32, rvX2_init (by rw [l31]; omega) (by omega)]; exact r31_4
  have r32_6 : h32.2.2.2 p 6 = some (100 + (h.1.length + 22)) := by rw [e32, rvX2_init (by rw [l31]; omega) (by omega)]; exact r31_6
  refine j_putRFN (k := 10) hX kX11 (by decide) fk_X11_78 (by rw [l32]; omega) dX11_init_162 g32_z0 rfl rfl hnm rfl (fun h33 e33 => ?_)
  have l33 : h33.1.length = h.1.length + 49 := by rw [e33]; exact l32
  have s33 : aSn h33.1 = aSn h.1 + 5955 := by rw [e33]; exact s32
  have g33_z0 : h33.1[p]? = _ := by rw [e33]; exact g32_z0
  have g33_z1 : h33.1[h.1.length]? = _ := by rw [e33]; exact g32_z1
  have g33_z2 : h33.1[(h.1.length + 2)]? = _ := by rw [e33]; exact g32_z2
  have g33_z3 : h33.1[(h.1.length + 10)]? = _ := by rw [e33]; exact g32_z3
  have g33_z4 : h33.1[(h.1.length + 14)]? = _ := by rw [e33]; exact g32_z4
  have g33_z5 : h33.1[(h.1.length + 18)]? = _ := by rw [e33]; exact g32_z5
  have g33_z6 : h33.1[(h.1.length + 20)]? = _ := by rw [e33]; exact g32_z6
  have g33_z7 : h33.1[(h.1.length + 22)]? = _ := by rw [e33]; exact g32_z7
  have g33_z8 : h33.1[(h.1.length + 24)]? = _ := by rw [e33]; exact g32_z8
  have g33_z9 : h33.1[(h.1.length + 29)]? = _ := by rw [e33]; exact g32_z9
  have g33_z10 : h33.1[(h.1.length + 34)]? = _ := by rw [e33]; exact g32_z10
  have g33_z11 : h33.1[(h.1.length + 44)]? = _ := by rw [e33]; exact g32_z11
  have r33_3 : h33.2.2.2 p 3 = some (100 + (h.1.length + 14)) := by rw [e33, pR_rv (Or.inr (by decide))]; exact r32_3
  have r33_4 : h33.2.2.2 p 4 = some (100 + (h.1.length + 18)) := by rw [e33, pR_rv (Or.inr (by decide))]; exact r32_4
  have r33_6 : h33.2.2.2 p 6 = some (100 + (h.1.length + 22)) := by rw [e33, pR_rv (Or.inr (by decide))]; exact r32_6
  refine jpc (b := 165) rfl ?_
  refine j_aload_n hX dX11_init_165 rfl ?_
  refine j_bipush hX dX11_init_166 bp_50 ?_
  refine j_putIN (k := 11) hX kX11 (by decide) fk_X11_82 dX11_init_168 g33_z0 rfl rfl rfl rfl (fun h34 e34 => ?_)
  have l34 : h34.1.length = h.1.length + 49 := by rw [e34]; exact l33
  have s34 : aSn h34.1 = aSn h.1 + 5955 := by rw [e34]; exact s33
  have g34_z0 : h34.1[p]? = _ := by rw [e34]; exact g33_z0
  have g34_z1 : h34.1[h.1.length]? = _ := by rw [e34]; exact g33_z1
  have g34_z2 : h34.1[(h.1.length + 2)]? = _ := by rw [e34]; exact g33_z2
  have g34_z3 : h34.1[(h.1.length + 10)]? = _ := by rw [e34]; exact g33_z3
  have g34_z4 : h34.1[(h.1.length + 14)]? = _ := by rw [e34]; exact g33_z4
  have g34_z5 : h34.1[(h.1.length + 18)]? = _ := by rw [e34]; exact g33_z5
  have g34_z6 : h34.1[(h.1.length + 20)]? = _ := by rw [e34]; exact g33_z6
  have g34_z7 : h34.1[(h.1.length + 22)]? = _ := by rw [e34]; exact g33_z7
  have g34_z8 : h34.1[(h.1.length + 24)]? = _ := by rw [e34]; exact g33_z8
  have g34_z9 : h34.1[(h.1.length + 29)]? = _ := by rw [e34]; exact g33_z9
  have g34_z10 : h34.1[(h.1.length + 34)]? = _ := by rw [e34]; exact g33_z10
  have g34_z11 : h34.1[(h.1.length + 44)]? = _ := by rw [e34]; exact g33_z11
  have r34_3 : h34.2.2.2 p 3 = some (100 + (h.1.length + 14)) := by rw [e34]; exact r33_3
  have r34_4 : h34.2.2.2 p 4 = some (100 + (h.1.length + 18)) := by rw [e34]; exact r33_4
  have r34_6 : h34.2.2.2 p 6 = some (100 + (h.1.length + 22)) := by rw [e34]; exact r33_6
  refine j_aload_n hX dX11_init_171 rfl ?_
  refine j_iconst hX dX11_init_172 ic_m1 ?_
  refine j_putIN (k := 12) hX kX11 (by decide) fk_X11_86 dX11_init_173 g34_z0 rfl rfl rfl rfl (fun h35 e35 => ?_)
  have l35 : h35.1.length = h.1.length + 49 := by rw [e35]; exact l34
  have s35 : aSn h35.1 = aSn h.1 + 5955 := by rw [e35]; exact s34
  have g35_z0 : h35.1[p]? = _ := by rw [e35]; exact g34_z0
  have g35_z1 : h35.1[h.1.length]? = _ := by rw [e35]; exact g34_z1
  have g35_z2 : h35.1[(h.1.length + 2)]? = _ := by rw [e35]; exact g34_z2
  have g35_z3 : h35.1[(h.1.length + 10)]? = _ := by rw [e35]; exact g34_z3
  have g35_z4 : h35.1[(h.1.length + 14)]? = _ := by rw [e35]; exact g34_z4
  have g35_z5 : h35.1[(h.1.length + 18)]? = _ := by rw [e35]; exact g34_z5
  have g35_z6 : h35.1[(h.1.length + 20)]? = _ := by rw [e35]; exact g34_z6
  have g35_z7 : h35.1[(h.1.length + 22)]? = _ := by rw [e35]; exact g34_z7
  have g35_z8 : h35.1[(h.1.length + 24)]? = _ := by rw [e35]; exact g34_z8
  have g35_z9 : h35.1[(h.1.length + 29)]? = _ := by rw [e35]; exact g34_z9
  have g35_z10 : h35.1[(h.1.length + 34)]? = _ := by rw [e35]; exact g34_z10
  have g35_z11 : h35.1[(h.1.length + 44)]? = _ := by rw [e35]; exact g34_z11
  have r35_3 : h35.2.2.2 p 3 = some (100 + (h.1.length + 14)) := by rw [e35]; exact r34_3
  have r35_4 : h35.2.2.2 p 4 = some (100 + (h.1.length + 18)) := by rw [e35]; exact r34_4
  have r35_6 : h35.2.2.2 p 6 = some (100 + (h.1.length + 22)) := by rw [e35]; exact r34_6
  have hw : h35 = wX11_init p h := by rw [e35, e34, e33, e32, e31, e30, e29, e28, e27, e26, e25, e24, e23, e22, e21, e20, e19, e18, e17, e16, e15, e14, e13, e12, e11, e10, e9, e8, e7, e6, e5, e4, e3, e2, e1]; rfl
  rw [hw]
  exact j_vret hX hr hlk dX11_init_176
def wX12_init (p : Nat) (h : aHp) : aHp :=
  let h1 : aHp := aNew h (.inl (.byte, 240))
  let h2 : aHp := pR h1 p 1 (some (100 + h.1.length))
  let h3 : aHp := aNew h2 (.inl (.byte, 960))
  let h4 : aHp := pR h3 p 2 (some (100 + (h.1.length + 1)))
  let h5 : aHp := aNew h4 (.inl (.int, 4))
  let h6 : aHp := pR h5 p 3 (some (100 + (h.1.length + 2)))
  let h7 : aHp := aNew h6 (.inl (.int, 128))
  let h8 : aHp := pR h7 p 4 (some (100 + (h.1.length + 3)))
  let h9 : aHp := pR h8 p 5 (some (100 + h.1.length))
  let h10 : aHp := pR h9 p 15 (some (10 + 5))
  let h11 : aHp := pR h10 p 16 (some (10 + 2))
  let h12 : aHp := aNew h11 (.inl (.int, 4))
  let h13 : aHp := pR h12 p 18 (some (100 + (h.1.length + 4)))
  let h14 : aHp := aNew h13 (.inl (.int, 4))
  let h15 : aHp := pR h14 p 19 (some (100 + (h.1.length + 5)))
  let h16 : aHp := aNew h15 (.inl (.int, 54))
  let h17 : aHp := pR h16 p 20 (some (100 + (h.1.length + 6)))
  let h18 : aHp := aNew h17 (.inl (.int, 54))
  let h19 : aHp := pR h18 p 21 (some (100 + (h.1.length + 7)))
  let h20 : aHp := aNew h19 (.inl (.int, 16))
  let h21 : aHp := pR h20 p 22 (some (100 + (h.1.length + 8)))
  let h22 : aHp := aNew h21 (.inl (.int, 16))
  let h23 : aHp := pR h22 p 23 (some (100 + (h.1.length + 9)))
  let h24 : aHp := aNew h23 (.inl (.int, 240))
  let h25 : aHp := pR h24 p 24 (some (100 + (h.1.length + 10)))
  let h26 : aHp := aNew h25 (.inl (.int, 5))
  let h27 : aHp := pR h26 p 25 (some (100 + (h.1.length + 11)))
  let h28 : aHp := aNew h27 (.inl (.int, 296))
  let h29 : aHp := pR h28 p 33 (some (100 + (h.1.length + 12)))
  let h30 : aHp := aNew h29 (.inl (.int, 296))
  let h31 : aHp := pR h30 p 34 (some (100 + (h.1.length + 13)))
  let h32 : aHp := pI h31 p 35 (-1)
  let h33 : aHp := pI h32 p 36 50
  let h34 : aHp := aNew h33 (.inl (.int, 11840))
  let h35 : aHp := pR h34 p 41 (some (100 + (h.1.length + 14)))
  let h36 : aHp := aNew h35 (.inl (.int, 9))
  let h37 : aHp := pR h36 p 46 (some (100 + (h.1.length + 15)))
  let h38 : aHp := aNew h37 (.inl (.boolean, 8))
  let h39 : aHp := pR h38 p 47 (some (100 + (h.1.length + 16)))
  let h40 : aHp := aNew h39 (.inl (.int, 8))
  let h41 : aHp := pR h40 p 48 (some (100 + (h.1.length + 17)))
  let h42 : aHp := aNew h41 (.inl (.int, 10))
  let h43 : aHp := pR h42 p 50 (some (100 + (h.1.length + 18)))
  let h44 : aHp := aNew h43 (.inl (.boolean, 10))
  let h45 : aHp := pR h44 p 51 (some (100 + (h.1.length + 19)))
  let h46 : aHp := aNew h45 (.inl (.int, 9))
  let h47 : aHp := pR h46 p 55 (some (100 + (h.1.length + 20)))
  let h48 : aHp := aNew h47 (.inl (.int, 296))
  let h49 : aHp := pR h48 p 56 (some (100 + (h.1.length + 21)))
  h49
theorem lenX12_init (p : Nat) (h : aHp) : (wX12_init p h).1.length = h.1.length + 22 := by simp only [wX12_init, aNew_len, pR_len, pI_len]
theorem snX12_init (p : Nat) (h : aHp) : aSn (wX12_init p h).1 = aSn h.1 + 14507 := by simp only [wX12_init, aNew_sn, pR_sn, pI_sn]; simp [aSz, aN, acl, Nat.add_assoc]
theorem getX12_init {p z : Nat} {h : aHp} {y : aSh} (hs0 : h.1[z]? = some y) : (wX12_init p h).1[z]? = some y := aNew_get (aNew_get (aNew_get (aNew_get (aNew_get (aNew_get (aNew_get (aNew_get (aNew_get (aNew_get (aNew_get (aNew_get (aNew_get (aNew_get (aNew_get (aNew_get (aNew_get (aNew_get (aNew_get (aNew_get (aNew_get (aNew_get (hs0))))))))))))))))))))))
theorem okX12_init {l : Launch} {p : Nat} {h : aHp} (hs : h.1[p]? = some (.inr 12)) : aM l yX12_init cX12_init 1 none 1 [.ref (100 + p)] h none (wX12_init p h) := by
  have hp := aLt hs
  refine aM_of (by decide) (Nat.le_of_ble_eq_true rfl) (by rw [lenX12_init]; omega) (by rw [snX12_init]; omega) (fun p_ e s m args below meth c D cA A ad0 hX hr hlk hnm => ?_)
  generalize hRe : (Room.mk 1 ((wX12_init p h).1.length - h.1.length) (aSn (wX12_init p h).1 - aSn h.1) (64 * 1)) = R
  have hRf : 1 ≤ R.frames := by rw [← hRe]; exact Nat.le_refl _
  have hRl : 64 * 1 ≤ R.locals := by rw [← hRe]; exact Nat.le_refl _
  have hRf1 : 1 ≤ R.frames := Nat.le_trans (by decide) hRf
  have hRl1 : (([] : List Value).map (fun v => v.category)).sum + 12 ≤ R.locals := Nat.le_trans (by decide) hRl
  have hRc : 22 ≤ R.cells := by rw [← hRe]; show 22 ≤ _ - _; rw [lenX12_init]; omega
  have hRs : 14507 ≤ R.slots := by rw [← hRe]; show 14507 ≤ _ - _; rw [snX12_init]; omega
  have l0 : h.1.length = h.1.length + 0 := rfl
  have s0 : aSn h.1 = aSn h.1 + 0 := rfl
  refine j_aload_n hX dX12_init_0 rfl ?_
  refine j_obj hX lk_X12_3 dX12_init_1 ⟨hRf1, hRl1⟩ ?_
  refine j_aload_n hX dX12_init_4 rfl ?_
  refine jpc (b := 5) rfl ?_
  refine j_sipush hX dX12_init_5 sp_240 ?_
  refine j_newaN (ty := .byte) (t0 := 1) (n := 240) (n0 := h.1.length) hX dX12_init_8 rfl (fun _ => rfl) wAr_byte (fun _ => rfl) (by decide) (by decide) (by decide) l0 (by simp [aBel] <;> omega) (by simp [aBel] <;> omega) (by omega) (by rw [s0]; omega) (fun h1 e1 => ?_)
  have l1 : h1.1.length = h.1.length + 1 := len_step e1 l0 rfl
  have s1 : aSn h1.1 = aSn h.1 + 240 := sn_step e1 s0 (by decide) rfl
  have g1_z0 := get_step e1 hs
  refine jpc (b := 10) rfl ?_
  refine j_putRFN (k := 1) hX kX12 (by decide) fk_X12_9 (by rw [l1]; omega) dX12_init_10 g1_z0 rfl rfl hnm rfl (fun h2 e2 => ?_)
  have l2 : h2.1.length = h.1.length + 1 := by rw [e2]; exact l1
  have s2 : aSn h2.1 = aSn h.1 + 240 := by rw [e2]; exact s1
  have g2_z0 : h2.1[p]? = _ := by rw [e2]; exact g1_z0
  have r2_1 : h2.2.2.2 p 1 = some (100 + h.1.length) := by rw [e2]; exact pR_at
  refine j_aload_n hX dX12_init_13 rfl ?_
  refine j_sipush hX dX12_init_14 sp_960 ?_
  refine j_newaN (ty := .byte) (t0 := 1) (n := 960) (n0 := (h.1.length + 1)) hX dX12_init_17 rfl (fun _ => rfl) wAr_byte (fun _ => rfl) (by decide) (by decide) (by decide) l2 (by simp [aBel] <;> omega) (by simp [aBel] <;> omega) (by omega) (by rw [s2]; omega) (fun h3 e3 => ?_)
  have l3 : h3.1.length = h.1.length + 2 := len_step e3 l2 rfl
  have s3 : aSn h3.1 = aSn h.1 + 1200 := sn_step e3 s2 (by decide) rfl
  have g3_z0 := get_step e3 g2_z0
  have r3_1 : h3.2.2.2 p 1 = some (100 + h.1.length) := by rw [e3, aNew_rv (by rw [l2]; omega)]; exact r2_1
  refine j_putRFN (k := 2) hX kX12 (by decide) fk_X12_13 (by rw [l3]; omega) dX12_init_19 g3_z0 rfl rfl hnm rfl (fun h4 e4 => ?_)
  have l4 : h4.1.length = h.1.length + 2 := by rw [e4]; exact l3
  have s4 : aSn h4.1 = aSn h.1 + 1200 := by rw [e4]; exact s3
  have g4_z0 : h4.1[p]? = _ := by rw [e4]; exact g3_z0
  have r4_1 : h4.2.2.2 p 1 = some (100 + h.1.length) := by rw [e4, pR_rv (Or.inr (by decide))]; exact r3_1
  refine j_aload_n hX dX12_init_22 rfl ?_
  refine j_iconst hX dX12_init_23 ic_4 ?_
  refine j_newaN (ty := .int) (t0 := 0) (n := 4) (n0 := (h.1.length + 2)) hX dX12_init_24 rfl (fun _ => rfl) wAr_int (fun _ => rfl) (by decide) (by decide) (by decide) l4 (by simp [aBel] <;> omega) (by simp [aBel] <;> omega) (by omega) (by rw [s4]; omega) (fun h5 e5 => ?_)
  have l5 : h5.1.length = h.1.length + 3 := len_step e5 l4 rfl
  have s5 : aSn h5.1 = aSn h.1 + 1204 := sn_step e5 s4 (by decide) rfl
  have g5_z0 := get_step e5 g4_z0
  have r5_1 : h5.2.2.2 p 1 = some (100 + h.1.length) := by rw [e5, aNew_rv (by rw [l4]; omega)]; exact r4_1
  refine j_putRFN (k := 3) hX kX12 (by decide) fk_X12_16 (by rw [l5]; omega) dX12_init_26 g5_z0 rfl rfl hnm rfl (fun h6 e6 => ?_)
  have l6 : h6.1.length = h.1.length + 3 := by rw [e6]; exact l5
  have s6 : aSn h6.1 = aSn h.1 + 1204 := by rw [e6]; exact s5
  have g6_z0 : h6.1[p]? = _ := by rw [e6]; exact g5_z0
  have r6_1 : h6.2.2.2 p 1 = some (100 + h.1.length) := by rw [e6, pR_rv (Or.inr (by decide))]; exact r5_1
  refine j_aload_n hX dX12_init_29 rfl ?_
  refine jpc (b := 30) rfl ?_
  refine j_sipush hX dX12_init_30 sp_128 ?_
  refine j_newaN (ty := .int) (t0 := 0) (n := 128) (n0 := (h.1.length + 3)) hX dX12_init_33 rfl (fun _ => rfl) wAr_int (fun _ => rfl) (by decide) (by decide) (by decide) l6 (by simp [aBel] <;> omega) (by simp [aBel] <;> omega) (by omega) (by rw [s6]; omega) (fun h7 e7 => ?_)
  have l7 : h7.1.length = h.1.length + 4 := len_step e7 l6 rfl
  have s7 : aSn h7.1 = aSn h.1 + 1332 := sn_step e7 s6 (by decide) rfl
  have g7_z0 := get_step e7 g6_z0
  have r7_1 : h7.2.2.2 p 1 = some (100 + h.1.length) := by rw [e7, aNew_rv (by rw [l6]; omega)]; exact r6_1
  refine jpc (b := 35) rfl ?_
  refine j_putRFN (k := 4) hX kX12 (by decide) fk_X12_20 (by rw [l7]; omega) dX12_init_35 g7_z0 rfl rfl hnm rfl (fun h8 e8 => ?_)
  have l8 : h8.1.length = h.1.length + 4 := by rw [e8]; exact l7
  have s8 : aSn h8.1 = aSn h.1 + 1332 := by rw [e8]; exact s7
  have g8_z0 : h8.1[p]? = _ := by rw [e8]; exact g7_z0
  have r8_1 : h8.2.2.2 p 1 = some (100 + h.1.length) := by rw [e8, pR_rv (Or.inr (by decide))]; exact r7_1
  refine j_aload_n hX dX12_init_38 rfl ?_
  refine j_aload_n hX dX12_init_39 rfl ?_
  refine jpc (b := 40) rfl ?_
  refine j_getRN (k := 1) hX kX12 (by decide) fk_X12_9 r8_1 dX12_init_40 g8_z0 rfl ?_
  refine j_putRN (k := 5) hX kX12 (by decide) fk_X12_23 (by rw [l8]; omega) dX12_init_43 g8_z0 rfl rfl (fun h9 e9 => ?_)
  have l9 : h9.1.length = h.1.length + 4 := by rw [e9]; exact l8
  have s9 : aSn h9.1 = aSn h.1 + 1332 := by rw [e9]; exact s8
  have g9_z0 : h9.1[p]? = _ := by rw [e9]; exact g8_z0
  have r9_1 : h9.2.2.2 p 1 = some (100 + h.1.length) := by rw [e9, pR_rv (Or.inr (by decide))]; exact r8_1
  refine j_aload_n hX dX12_init_46 rfl ?_
  refine j_ldcS (j := 5) (tx := "y") hX (by decide) (by decide) dX12_init_47 ?_
  refine j_putRFN (k := 15) hX kX12 (by decide) fk_X12_28 (by rw [l9]; omega) dX12_init_49 g9_z0 rfl rfl hnm rfl (fun h10 e10 => ?_)
  have l10 : h10.1.length = h.1.length + 4 := by rw [e10]; exact l9
  have s10 : aSn h10.1 = aSn h.1 + 1332 := by rw [e10]; exact s9
  have g10_z0 : h10.1[p]? = _ := by rw [e10]; exact g9_z0
  have r10_1 : h10.2.2.2 p 1 = some (100 + h.1.length) := by rw [e10, pR_rv (Or.inr (by decide))]; exact r9_1
  refine j_aload_n hX dX12_init_52 rfl ?_
  refine j_ldcS (j := 2) (tx := "nwtcos") hX (by decide) (by decide) dX12_init_53 ?_
  refine jpc (b := 55) rfl ?_
  refine j_putRFN (k := 16) hX kX12 (by decide) fk_X12_34 (by rw [l10]; omega) dX12_init_55 g10_z0 rfl rfl hnm rfl (fun h11 e11 => ?_)
  have l11 : h11.1.length = h.1.length + 4 := by rw [e11]; exact l10
  have s11 : aSn h11.1 = aSn h.1 + 1332 := by rw [e11]; exact s10
  have g11_z0 : h11.1[p]? = _ := by rw [e11]; exact g10_z0
  have r11_1 : h11.2.2.2 p 1 = some (100 + h.1.length) := by rw [e11, pR_rv (Or.inr (by decide))]; exact r10_1
  refine j_aload_n hX dX12_init_58 rfl ?_
  refine j_iconst hX dX12_init_59 ic_4 ?_
  refine jpc (b := 60) rfl ?_
  refine j_newaN (ty := .int) (t0 := 0) (n := 4) (n0 := (h.1.length + 4)) hX dX12_init_60 rfl (fun _ => rfl) wAr_int (fun _ => rfl) (by decide) (by decide) (by decide) l11 (by simp [aBel] <;> omega) (by simp [aBel] <;> omega) (by omega) (by rw [s11]; omega) (fun h12 e12 => ?_)
  have l12 : h12.1.length = h.1.length + 5 := len_step e12 l11 rfl
  have s12 : aSn h12.1 = aSn h.1 + 1336 := sn_step e12 s11 (by decide) rfl
  have g12_z0 := get_step e12 g11_z0
  have r12_1 : h12.2.2.2 p 1 = some (100 + h.1.length) := by rw [e12, aNew_rv (by rw [l11]; omega)]; exact r11_1
  refine j_putRFN (k := 18) hX kX12 (by decide) fk_X12_37 (by rw [l12]; omega) dX12_init_62 g12_z0 rfl rfl hnm rfl (fun h13 e13 => ?_)
  have l13 : h13.1.length = h.1.length + 5 := by rw [e13]; exact l12
  have s13 : aSn h13.1 = aSn h.1 + 1336 := by rw [e13]; exact s12
  have g13_z0 : h13.1[p]? = _ := by rw [e13]; exact g12_z0
  have r13_1 : h13.2.2.2 p 1 = some (100 + h.1.length) := by rw [e13, pR_rv (Or.inr (by decide))]; exact r12_1
  refine jpc (b := 65) rfl ?_
  refine j_aload_n hX dX12_init_65 rfl ?_
  refine j_iconst hX dX12_init_66 ic_4 ?_
  refine j_newaN (ty := .int) (t0 := 0) (n := 4) (n0 := (h.1.length + 5)) hX dX12_init_67 rfl (fun _ => rfl) wAr_int (fun _ => rfl) (by decide) (by decide) (by decide) l13 (by simp [aBel] <;> omega) (by simp [aBel] <;> omega) (by omega) (by rw [s13]; omega) (fun h14 e14 => ?_)
  have l14 : h14.1.length = h.1.length + 6 := len_step e14 l13 rfl
  have s14 : aSn h14.1 = aSn h.1 + 1340 := sn_step e14 s13 (by decide) rfl
  have g14_z0 := get_step e14 g13_z0
  have r14_1 : h14.2.2.2 p 1 = some (100 + h.1.length) := by rw [e14, aNew_rv (by rw [l13]; omega)]; exact r13_1
  refine j_putRFN (k := 19) hX kX12 (by decide) fk_X12_40 (by rw [l14]; omega) dX12_init_69 g14_z0 rfl rfl hnm rfl (fun h15 e15 => ?_)
  have l15 : h15.1.length = h.1.length + 6 := by rw [e15]; exact l14
  have s15 : aSn h15.1 = aSn h.1 + 1340 := by rw [e15]; exact s14
  have g15_z0 : h15.1[p]? = _ := by rw [e15]; exact g14_z0
  have r15_1 : h15.2.2.2 p 1 = some (100 + h.1.length) := by rw [e15, pR_rv (Or.inr (by decide))]; exact r14_1
  refine j_aload_n hX dX12_init_72 rfl ?_
  refine j_bipush hX dX12_init_73 bp_54 ?_
  refine jpc (b := 75) rfl ?_
  refine j_newaN (ty := .int) (t0 := 0) (n := 54) (n0 := (h.1.length + 6)) hX dX12_init_75 rfl (fun _ => rfl) wAr_int (fun _ => rfl) (by decide) (by decide) (by decide) l15 (by simp [aBel] <;> omega) (by simp [aBel] <;> omega) (by omega) (by rw [s15]; omega) (fun h16 e16 => ?_)
  have l16 : h16.1.length = h.1.length + 7 := len_step e16 l15 rfl
  have s16 : aSn h16.1 = aSn h.1 + 1394 := sn_step e16 s15 (by decide) rfl
  have g16_z0 := get_step e16 g15_z0
  have r16_1 : h16.2.2.2 p 1 = some (100 + h.1.length) := by rw [e16, aNew_rv (by rw [l15]; omega)]; exact r15_1
  refine j_putRFN (k := 20) hX kX12 (by decide) fk_X12_43 (by rw [l16]; omega) dX12_init_77 g16_z0 rfl rfl hnm rfl (fun h17 e17 => ?_)
  have l17 : h17.1.length = h.1.length + 7 := by rw [e17]; exact l16
  have s17 : aSn h17.1 = aSn h.1 + 1394 := by rw [e17]; exact s16
  have g17_z0 : h17.1[p]? = _ := by rw [e17]; exact g16_z0
  have r17_1 : h17.2.2.2 p 1 = some (100 + h.1.length) := by rw [e17, pR_rv (Or.inr (by decide))]; exact r16_1
  refine jpc (b := 80) rfl ?_
  refine j_aload_n hX dX12_init_80 rfl ?_
  refine j_bipush hX dX12_init_81 bp_54 ?_
  refine j_newaN (ty := .int) (t0 := 0) (n := 54) (n0 := (h.1.length + 7)) hX dX12_init_83 rfl (fun _ => rfl) wAr_int (fun _ => rfl) (by decide) (by decide) (by decide) l17 (by simp [aBel] <;> omega) (by simp [aBel] <;> omega) (by omega) (by rw [s17]; omega) (fun h18 e18 => ?_)
  have l18 : h18.1.length = h.1.length + 8 := len_step e18 l17 rfl
  have s18 : aSn h18.1 = aSn h.1 + 1448 := sn_step e18 s17 (by decide) rfl
  have g18_z0 := get_step e18 g17_z0
  have r18_1 : h18.2.2.2 p 1 = some (100 + h.1.length) := by rw [e18, aNew_rv (by rw [l17]; omega)]; exact r17_1
  refine jpc (b := 85) rfl ?_
  refine j_putRFN (k := 21) hX kX12 (by decide) fk_X12_46 (by rw [l18]; omega) dX12_init_85 g18_z0 rfl rfl hnm rfl (fun h19 e19 => ?_)
  have l19 : h19.1.length = h.1.length + 8 := by rw [e19]; exact l18
  have s19 : aSn h19.1 = aSn h.1 + 1448 := by rw [e19]; exact s18
  have g19_z0 : h19.1[p]? = _ := by rw [e19]; exact g18_z0
  have r19_1 : h19.2.2.2 p 1 = some (100 + h.1.length) := by rw [e19, pR_rv (Or.inr (by decide))]; exact r18_1
  refine j_aload_n hX dX12_init_88 rfl ?_
  refine j_bipush hX dX12_init_89 bp_16 ?_
  refine j_newaN (ty := .int) (t0 := 0) (n := 16) (n0 := (h.1.length + 8)) hX dX12_init_91 rfl (fun _ => rfl) wAr_int (fun _ => rfl) (by decide) (by decide) (by decide) l19 (by simp [aBel] <;> omega) (by simp [aBel] <;> omega) (by omega) (by rw [s19]; omega) (fun h20 e20 => ?_)
  have l20 : h20.1.length = h.1.length + 9 := len_step e20 l19 rfl
  have s20 : aSn h20.1 = aSn h.1 + 1464 := sn_step e20 s19 (by decide) rfl
  have g20_z0 := get_step e20 g19_z0
  have r20_1 : h20.2.2.2 p 1 = some (100 + h.1.length) := by rw [e20, aNew_rv (by rw [l19]; omega)]; exact r19_1
  refine j_putRFN (k := 22) hX kX12 (by decide) fk_X12_49 (by rw [l20]; omega) dX12_init_93 g20_z0 rfl rfl hnm rfl (fun h21 e21 => ?_)
  have l21 : h21.1.length = h.1.length + 9 := by rw [e21]; exact l20
  have s21 : aSn h21.1 = aSn h.1 + 1464 := by rw [e21]; exact s20
  have g21_z0 : h21.1[p]? = _ := by rw [e21]; exact g20_z0
  have r21_1 : h21.2.2.2 p 1 = some (100 + h.1.length) := by rw [e21, pR_rv (Or.inr (by decide))]; exact r20_1
  refine j_aload_n hX dX12_init_96 rfl ?_
  refine j_bipush hX dX12_init_97 bp_16 ?_
  refine j_newaN (ty := .int) (t0 := 0) (n := 16) (n0 := (h.1.length + 9)) hX dX12_init_99 rfl (fun _ => rfl) wAr_int (fun _ => rfl) (by decide) (by decide) (by decide) l21 (by simp [aBel] <;> omega) (by simp [aBel] <;> omega) (by omega) (by rw [s21]; omega) (fun h22 e22 => ?_)
  have l22 : h22.1.length = h.1.length + 10 := len_step e22 l21 rfl
  have s22 : aSn h22.1 = aSn h.1 + 1480 := sn_step e22 s21 (by decide) rfl
  have g22_z0 := get_step e22 g21_z0
  have r22_1 : h22.2.2.2 p 1 = some (100 + h.1.length) := by rw [e22, aNew_rv (by rw [l21]; omega)]; exact r21_1
  refine j_putRFN (k := 23) hX kX12 (by decide) fk_X12_52 (by rw [l22]; omega) dX12_init_101 g22_z0 rfl rfl hnm rfl (fun h23 e23 => ?_)
  have l23 : h23.1.length = h.1.length + 10 := by rw [e23]; exact l22
  have s23 : aSn h23.1 = aSn h.1 + 1480 := by rw [e23]; exact s22
  have g23_z0 : h23.1[p]? = _ := by rw [e23]; exact g22_z0
  have r23_1 : h23.2.2.2 p 1 = some (100 + h.1.length) := by rw [e23, pR_rv (Or.inr (by decide))]; exact r22_1
  refine j_aload_n hX dX12_init_104 rfl ?_
  refine jpc (b := 105) rfl ?_
  refine j_sipush hX dX12_init_105 sp_240 ?_
  refine j_newaN (ty := .int) (t0 := 0) (n := 240) (n0 := (h.1.length + 10)) hX dX12_init_108 rfl (fun _ => rfl) wAr_int (fun _ => rfl) (by decide) (by decide) (by decide) l23 (by simp [aBel] <;> omega) (by simp [aBel] <;> omega) (by omega) (by rw [s23]; omega) (fun h24 e24 => ?_)
  have l24 : h24.1.length = h.1.length + 11 := len_step e24 l23 rfl
  have s24 : aSn h24.1 = aSn h.1 + 1720 := sn_step e24 s23 (by decide) rfl
  have g24_z0 := get_step e24 g23_z0
  have r24_1 : h24.2.2.2 p 1 = some (100 + h.1.length) := by rw [e24, aNew_rv (by rw [l23]; omega)]; exact r23_1
  refine jpc (b := 110) rfl ?_
  refine j_putRFN (k := 24) hX kX12 (by decide) fk_X12_55 (by rw [l24]; omega) dX12_init_110 g24_z0 rfl rfl hnm rfl (fun h25 e25 => ?_)
  have l25 : h25.1.length = h.1.length + 11 := by rw [e25]; exact l24
  have s25 : aSn h25.1 = aSn h.1 + 1720 := by rw [e25]; exact s24
  have g25_z0 : h25.1[p]? = _ := by rw [e25]; exact g24_z0
  have r25_1 : h25.2.2.2 p 1 = some (100 + h.1.length) := by rw [e25, pR_rv (Or.inr (by decide))]; exact r24_1
  refine j_aload_n hX dX12_init_113 rfl ?_
  refine j_iconst hX dX12_init_114 ic_5 ?_
  refine jpc (b := 115) rfl ?_
  refine j_newaN (ty := .int) (t0 := 0) (n := 5) (n0 := (h.1.length + 11)) hX dX12_init_115 rfl (fun _ => rfl) wAr_int (fun _ => rfl) (by decide) (by decide) (by decide) l25 (by simp [aBel] <;> omega) (by simp [aBel] <;> omega) (by omega) (by rw [s25]; omega) (fun h26 e26 => ?_)
  have l26 : h26.1.length = h.1.length + 12 := len_step e26 l25 rfl
  have s26 : aSn h26.1 = aSn h.1 + 1725 := sn_step e26 s25 (by decide) rfl
  have g26_z0 := get_step e26 g25_z0
  have r26_1 : h26.2.2.2 p 1 = some (100 + h.1.length) := by rw [e26, aNew_rv (by rw [l25]; omega)]; exact r25_1
  refine j_putRFN (k := 25) hX kX12 (by decide) fk_X12_58 (by rw [l26]; omega) dX12_init_117 g26_z0 rfl rfl hnm rfl (fun h27 e27 => ?_)
  have l27 : h27.1.length = h.1.length + 12 := by rw [e27]; exact l26
  have s27 : aSn h27.1 = aSn h.1 + 1725 := by rw [e27]; exact s26
  have g27_z0 : h27.1[p]? = _ := by rw [e27]; exact g26_z0
  have r27_1 : h27.2.2.2 p 1 = some (100 + h.1.length) := by rw [e27, pR_rv (Or.inr (by decide))]; exact r26_1
  refine jpc (b := 120) rfl ?_
  refine j_aload_n hX dX12_init_120 rfl ?_
  refine j_sipush hX dX12_init_121 sp_296 ?_
  refine j_newaN (ty := .int) (t0 := 0) (n := 296) (n0 := (h.1.length + 12)) hX dX12_init_124 rfl (fun _ => rfl) wAr_int (fun _ => rfl) (by decide) (by decide) (by decide) l27 (by simp [aBel] <;> omega) (by simp [aBel] <;> omega) (by omega) (by rw [s27]; omega) (fun h28 e28 => ?_)
  have l28 : h28.1.length = h.1.length + 13 := len_step e28 l27 rfl
  have s28 : aSn h28.1 = aSn h.1 + 2021 := sn_step e28 s27 (by decide) rfl
  have g28_z0 := get_step e28 g27_z0
  have r28_1 : h28.2.2.2 p 1 = some (100 + h.1.length) := by rw [e28, aNew_rv (by rw [l27]; omega)]; exact r27_1
  refine j_putRFN (k := 33) hX kX12 (by decide) fk_X12_61 (by rw [l28]; omega) dX12_init_126 g28_z0 rfl rfl hnm rfl (fun h29 e29 => ?_)
  have l29 : h29.1.length = h.1.length + 13 := by rw [e29]; exact l28
  have s29 : aSn h29.1 = aSn h.1 + 2021 := by rw [e29]; exact s28
  have g29_z0 : h29.1[p]? = _ := by rw [e29]; exact g28_z0
  have r29_1 : h29.2.2.2 p 1 = some (100 + h.1.length) := by rw [e29, pR_rv (Or.inr (by decide))]; exact r28_1
  refine j_aload_n hX dX12_init_129 rfl ?_
  refine jpc (b := 130) rfl ?_
  refine j_sipush hX dX12_init_130 sp_296 ?_
  refine j_newaN (ty := .int) (t0 := 0) (n := 296) (n0 := (h.1.length + 13)) hX dX12_init_133 rfl (fun _ => rfl) wAr_int (fun _ => rfl) (by decide) (by decide) (by decide) l29 (by simp [aBel] <;> omega) (by simp [aBel] <;> omega) (by omega) (by rw [s29]; omega) (fun h30 e30 => ?_)
  have l30 : h30.1.length = h.1.length + 14 := len_step e30 l29 rfl
  have s30 : aSn h30.1 = aSn h.1 + 2317 := sn_step e30 s29 (by decide) rfl
  have g30_z0 := get_step e30 g29_z0
  have r30_1 : h30.2.2.2 p 1 = some (100 + h.1.length) := by rw [e30, aNew_rv (by rw [l29]; omega)]; exact r29_1
  refine jpc (b := 135) rfl ?_
  refine j_putRFN (k := 34) hX kX12 (by decide) fk_X12_64 (by rw [l30]; omega) dX12_init_135 g30_z0 rfl rfl hnm rfl (fun h31 e31 => ?_)
  have l31 : h31.1.length = h.1.length + 14 := by rw [e31]; exact l30
  have s31 : aSn h31.1 = aSn h.1 + 2317 := by rw [e31]; exact s30
  have g31_z0 : h31.1[p]? = _ := by rw [e31]; exact g30_z0
  have r31_1 : h31.2.2.2 p 1 = some (100 + h.1.length) := by rw [e31, pR_rv (Or.inr (by decide))]; exact r30_1
  refine j_aload_n hX dX12_init_138 rfl ?_
  refine j_iconst hX dX12_init_139 ic_m1 ?_
  refine jpc (b := 140) rfl ?_
  refine j_putIN (k := 35) hX kX12 (by decide) fk_X12_67 dX12_init_140 g31_z0 rfl rfl rfl rfl (fun h32 e32 => ?_)
  have l32 : h32.1.length = h.1.length + 14 := by rw [e32]; exact l31
  have s32 : aSn h32.1 = aSn h.1 + 2317 := by rw [e32]; exact s31
  have g32_z0 : h32.1[p]? = _ := by rw [e32]; exact g31_z0
  have r32_1 : h32.2.2.2 p 1 = some (100 + h.1.length) := by rw [e32]; exact r31_1
  refine j_aload_n hX dX12_init_143 rfl ?_
  refine j_bipush hX dX12_init_144 bp_50 ?_
  refine j_putIN (k := 36) hX kX12 (by decide) fk_X12_71 dX12_init_146 g32_z0 rfl rfl rfl rfl (fun h33 e33 => ?_)
  have l33 : h33.1.length = h.1.length + 14 := by rw [e33]; exact l32
  have s33 : aSn h33.1 = aSn h.1 + 2317 := by rw [e33]; exact s32
  have g33_z0 : h33.1[p]? = _ := by rw [e33]; exact g32_z0
  have r33_1 : h33.2.2.2 p 1 = some (100 + h.1.length) := by rw [e33]; exact r32_1
  refine j_aload_n hX dX12_init_149 rfl ?_
  refine jpc (b := 150) rfl ?_
  refine j_sipush hX dX12_init_150 sp_11840 ?_
  refine j_newaN (ty := .int) (t0 := 0) (n := 11840) (n0 := (h.1.length + 14)) hX dX12_init_153 rfl (fun _ => rfl) wAr_int (fun _ => rfl) (by decide) (by decide) (by decide) l33 (by simp [aBel] <;> omega) (by simp [aBel] <;> omega) (by omega) (by rw [s33]; omega) (fun h34 e34 => ?_)
  have l34 : h34.1.length = h.1.length + 15 := len_step e34 l33 rfl
  have s34 : aSn h34.1 = aSn h.1 + 14157 := sn_step e34 s33 (by decide) rfl
  have g34_z0 := get_step e34 g33_z0
  have r34_1 : h34.2.2.2 p 1 = some (100 + h.1.length) := by rw [e34, aNew_rv (by rw [l33]; omega)]; exact r33_1
  refine jpc (b := 155) rfl ?_
  refine j_putRFN (k := 41) hX kX12 (by decide) fk_X12_74 (by rw [l34]; omega) dX12_init_155 g34_z0 rfl rfl hnm rfl (fun h35 e35 => ?_)
  have l35 : h35.1.length = h.1.length + 15 := by rw [e35]; exact l34
  have s35 : aSn h35.1 = aSn h.1 + 14157 := by rw [e35]; exact s34
  have g35_z0 : h35.1[p]? = _ := by rw [e35]; exact g34_z0
  have r35_1 : h35.2.2.2 p 1 = some (100 + h.1.length) := by rw [e35, pR_rv (Or.inr (by decide))]; exact r34_1
  refine j_aload_n hX dX12_init_158 rfl ?_
  refine j_bipush hX dX12_init_159 bp_9 ?_
  refine j_newaN (ty := .int) (t0 := 0) (n := 9) (n0 := (h.1.length + 15)) hX dX12_init_161 rfl (fun _ => rfl) wAr_int (fun _ => rfl) (by decide) (by decide) (by decide) l35 (by simp [aBel] <;> omega) (by simp [aBel] <;> omega) (by omega) (by rw [s35]; omega) (fun h36 e36 => ?_)
  have l36 : h36.1.length = h.1.length + 16 := len_step e36 l35 rfl
  have s36 : aSn h36.1 = aSn h.1 + 14166 := sn_step e36 s35 (by decide) rfl
  have g36_z0 := get_step e36 g35_z0
  have r36_1 : h36.2.2.2 p 1 = some (100 + h.1.length) := by rw [e36, aNew_rv (by rw [l35]; omega)]; exact r35_1
  refine j_putRFN (k := 46) hX kX12 (by decide) fk_X12_77 (by rw [l36]; omega) dX12_init_163 g36_z0 rfl rfl hnm rfl (fun h37 e37 => ?_)
  have l37 : h37.1.length = h.1.length + 16 := by rw [e37]; exact l36
  have s37 : aSn h37.1 = aSn h.1 + 14166 := by rw [e37]; exact s36
  have g37_z0 : h37.1[p]? = _ := by rw [e37]; exact g36_z0
  have r37_1 : h37.2.2.2 p 1 = some (100 + h.1.length) := by rw [e37, pR_rv (Or.inr (by decide))]; exact r36_1
  refine j_aload_n hX dX12_init_166 rfl ?_
  refine j_bipush hX dX12_init_167 bp_8 ?_
  refine j_newaN (ty := .boolean) (t0 := 2) (n := 8) (n0 := (h.1.length + 16)) hX dX12_init_169 rfl (fun _ => rfl) wAr_boolean (fun _ => rfl) (by decide) (by decide) (by decide) l37 (by simp [aBel] <;> omega) (by simp [aBel] <;> omega) (by omega) (by rw [s37]; omega) (fun h38 e38 => ?_)
  have l38 : h38.1.length = h.1.length + 17 := len_step e38 l37 rfl
  have s38 : aSn h38.1 = aSn h.1 + 14174 := sn_step e38 s37 (by decide) rfl
  have g38_z0 := get_step e38 g37_z0
  have r38_1 : h38.2.2.2 p 1 = some (100 + h.1.length) := by rw [e38, aNew_rv (by rw [l37]; omega)]; exact r37_1
  refine j_putRFN (k := 47) hX kX12 (by decide) fk_X12_80 (by rw [l38]; omega) dX12_init_171 g38_z0 rfl rfl hnm rfl (fun h39 e39 => ?_)
  have l39 : h39.1.length = h.1.length + 17 := by rw [e39]; exact l38
  have s39 : aSn h39.1 = aSn h.1 + 14174 := by rw [e39]; exact s38
  have g39_z0 : h39.1[p]? = _ := by rw [e39]; exact g38_z0
  have r39_1 : h39.2.2.2 p 1 = some (100 + h.1.length) := by rw [e39, pR_rv (Or.inr (by decide))]; exact r38_1
  refine j_aload_n hX dX12_init_174 rfl ?_
  refine jpc (b := 175) rfl ?_
  refine j_bipush hX dX12_init_175 bp_8 ?_
  refine j_newaN (ty := .int) (t0 := 0) (n := 8) (n0 := (h.1.length + 17)) hX dX12_init_177 rfl (fun _ => rfl) wAr_int (fun _ => rfl) (by decide) (by decide) (by decide) l39 (by simp [aBel] <;> omega) (by simp [aBel] <;> omega) (by omega) (by rw [s39]; omega) (fun h40 e40 => ?_)
  have l40 : h40.1.length = h.1.length + 18 := len_step e40 l39 rfl
  have s40 : aSn h40.1 = aSn h.1 + 14182 := sn_step e40 s39 (by decide) rfl
  have g40_z0 := get_step e40 g39_z0
  have r40_1 : h40.2.2.2 p 1 = some (100 + h.1.length) := by rw [e40, aNew_rv (by rw [l39]; omega)]; exact r39_1
  refine j_putRFN (k := 48) hX kX12 (by decide) fk_X12_84 (by rw [l40]; omega) dX12_init_179 g40_z0 rfl rfl hnm rfl (fun h41 e41 => ?_)
  have l41 : h41.1.length = h.1.length + 18 := by rw [e41]; exact l40
  have s41 : aSn h41.1 = aSn h.1 + 14182 := by rw [e41]; exact s40
  have g41_z0 : h41.1[p]? = _ := by rw [e41]; exact g40_z0
  have r41_1 : h41.2.2.2 p 1 = some (100 + h.1.length) := by rw [e41, pR_rv (Or.inr (by decide))]; exact r40_1
  refine j_aload_n hX dX12_init_182 rfl ?_
  refine j_bipush hX dX12_init_183 bp_10 ?_
  refine jpc (b := 185) rfl ?_
  refine j_newaN (ty := .int) (t0 := 0) (n := 10) (n0 := (h.1.length + 18)) hX dX12_init_185 rfl (fun _ => rfl) wAr_int (fun _ => rfl) (by decide) (by decide) (by decide) l41 (by simp [aBel] <;> omega) (by simp [aBel] <;> omega) (by omega) (by rw [s41]; omega) (fun h42 e42 => ?_)
  have l42 : h42.1.length = h.1.length + 19 := len_step e42 l41 rfl
  have s42 : aSn h42.1 = aSn h.1 + 14192 := sn_step e42 s41 (by decide) rfl
  have g42_z0 := get_step e42 g41_z0
  have r42_1 : h42.2.2.2 p 1 = some (100 + h.1.length) := by rw [e42, aNew_rv (by rw [l41]; omega)]; exact r41_1
  refine j_putRFN (k := 50) hX kX12 (by decide) fk_X12_87 (by rw [l42]; omega) dX12_init_187 g42_z0 rfl rfl hnm rfl (fun h43 e43 => ?_)
  have l43 : h43.1.length = h.1.length + 19 := by rw [e43]; exact l42
  have s43 : aSn h43.1 = aSn h.1 + 14192 := by rw [e43]; exact s42
  have g43_z0 : h43.1[p]? = _ := by rw [e43]; exact g42_z0
  have r43_1 : h43.2.2.2 p 1 = some (100 + h.1.length) := by rw [e43, pR_rv (Or.inr (by decide))]; exact r42_1
  refine jpc (b := 190) rfl ?_
  refine j_aload_n hX dX12_init_190 rfl ?_
  refine j_bipush hX dX12_init_191 bp_10 ?_
  refine j_newaN (ty := .boolean) (t0 := 2) (n := 10) (n0 := (h.1.length + 19)) hX dX12_init_193 rfl (fun _ => rfl) wAr_boolean (fun _ => rfl) (by decide) (by decide) (by decide) l43 (by simp [aBel] <;> omega) (by simp [aBel] <;> omega) (by omega) (by rw [s43]; omega) (fun h44 e44 => ?_)
  have l44 : h44.1.length = h.1.length + 20 := len_step e44 l43 rfl
  have s44 : aSn h44.1 = aSn h.1 + 14202 := sn_step e44 s43 (by decide) rfl
  have g44_z0 := get_step e44 g43_z0
  have r44_1 : h44.2.2.2 p 1 = some (100 + h.1.length) := by rw [e44, aNew_rv (by rw [l43]; omega)]; exact r43_1
  refine jpc (b := 195) rfl ?_
  refine j_putRFN (k := 51) hX kX12 (by decide) fk_X12_90 (by rw [l44]; omega) dX12_init_195 g44_z0 rfl rfl hnm rfl (fun h45 e45 => ?_)
  have l45 : h45.1.length = h.1.length + 20 := by rw [e45]; exact l44
  have s45 : aSn h45.1 = aSn h.1 + 14202 := by rw [e45]; exact s44
  have g45_z0 : h45.1[p]? = _ := by rw [e45]; exact g44_z0
  have r45_1 : h45.2.2.2 p 1 = some (100 + h.1.length) := by rw [e45, pR_rv (Or.inr (by decide))]; exact r44_1
  refine j_aload_n hX dX12_init_198 rfl ?_
  refine j_bipush hX dX12_init_199 bp_9 ?_
  refine j_newaN (ty := .int) (t0 := 0) (n := 9) (n0 := (h.1.length + 20)) hX dX12_init_201 rfl (fun _ => rfl) wAr_int (fun _ => rfl) (by decide) (by decide) (by decide) l45 (by simp [aBel] <;> omega) (by simp [aBel] <;> omega) (by omega) (by rw [s45]; omega) (fun h46 e46 => ?_)
  have l46 : h46.1.length = h.1.length + 21 := len_step e46 l45 rfl
  have s46 : aSn h46.1 = aSn h.1 + 14211 := sn_step e46 s45 (by decide) rfl
  have g46_z0 := get_step e46 g45_z0
  have r46_1 : h46.2.2.2 p 1 = some (100 + h.1.length) := by rw [e46, aNew_rv (by rw [l45]; omega)]; exact r45_1
  refine j_putRFN (k := 55) hX kX12 (by decide) fk_X12_93 (by rw [l46]; omega) dX12_init_203 g46_z0 rfl rfl hnm rfl (fun h47 e47 => ?_)
  have l47 : h47.1.length = h.1.length + 21 := by rw [e47]; exact l46
  have s47 : aSn h47.1 = aSn h.1 + 14211 := by rw [e47]; exact s46
  have g47_z0 : h47.1[p]? = _ := by rw [e47]; exact g46_z0
  have r47_1 : h47.2.2.2 p 1 = some (100 + h.1.length) := by rw [e47, pR_rv (Or.inr (by decide))]; exact r46_1
  refine j_aload_n hX dX12_init_206 rfl ?_
  refine j_sipush hX dX12_init_207 sp_296 ?_
  refine jpc (b := 210) rfl ?_
  refine j_newaN (ty := .int) (t0 := 0) (n := 296) (n0 := (h.1.length + 21)) hX dX12_init_210 rfl (fun _ => rfl) wAr_int (fun _ => rfl) (by decide) (by decide) (by decide) l47 (by simp [aBel] <;> omega) (by simp [aBel] <;> omega) (by omega) (by rw [s47]; omega) (fun h48 e48 => ?_)
  have l48 : h48.1.length = h.1.length + 22 := len_step e48 l47 rfl
  have s48 : aSn h48.1 = aSn h.1 + 14507 := sn_step e48 s47 (by decide) rfl
  have g48_z0 := get_step e48 g47_z0
  have r48_1 : h48.2.2.2 p 1 = some (100 + h.1.length) := by rw [e48, aNew_rv (by rw [l47]; omega)]; exact r47_1
  refine j_putRFN (k := 56) hX kX12 (by decide) fk_X12_96 (by rw [l48]; omega) dX12_init_212 g48_z0 rfl rfl hnm rfl (fun h49 e49 => ?_)
  have l49 : h49.1.length = h.1.length + 22 := by rw [e49]; exact l48
  have s49 : aSn h49.1 = aSn h.1 + 14507 := by rw [e49]; exact s48
  have g49_z0 : h49.1[p]? = _ := by rw [e49]; exact g48_z0
  have r49_1 : h49.2.2.2 p 1 = some (100 + h.1.length) := by rw [e49, pR_rv (Or.inr (by decide))]; exact r48_1
  refine jpc (b := 215) rfl ?_
  have hw : h49 = wX12_init p h := by rw [e49, e48, e47, e46, e45, e44, e43, e42, e41, e40, e39, e38, e37, e36, e35, e34, e33, e32, e31, e30, e29, e28, e27, e26, e25, e24, e23, e22, e21, e20, e19, e18, e17, e16, e15, e14, e13, e12, e11, e10, e9, e8, e7, e6, e5, e4, e3, e2, e1]; rfl
  rw [hw]
  exact j_vret hX hr hlk dX12_init_215
