/-! calls by number of arguments; reading decompiled functions -/
def fuel : Nat := 30000
def lt {α β : Type} (e : α) (k : α → Option β) : Option β := k e
theorem ltd {α β : Type} {e : α} {k : α → Option β} {y : Option β} (h : lt e k = y) : k e = y := h
theorem ifp {α : Type} {c : Prop} [Decidable c] {a b : Option α} {y : Option α} (hc : c) (h : (if c then a else b) = y) : a = y := by rw [if_pos hc] at h; exact h
theorem ifn {α : Type} {c : Prop} [Decidable c] {a b : Option α} {y : Option α} (hc : ¬ c) (h : (if c then a else b) = y) : b = y := by rw [if_neg hc] at h; exact h
theorem gd {α : Type} {c : Prop} [Decidable c] {a : Option α} {y : α} (h : (if c then a else none) = some y) : c ∧ a = some y := by
  by_cases hc : c
  · rw [if_pos hc] at h; exact ⟨hc, h⟩
  · rw [if_neg hc] at h; cases h
theorem gdn {α : Type} {c : Prop} [Decidable c] {a : Option α} {y : α} (h : (if c then none else a) = some y) : ¬ c ∧ a = some y := by
  by_cases hc : c
  · rw [if_pos hc] at h; cases h
  · rw [if_neg hc] at h; exact ⟨hc, h⟩
def bn1 {α β : Type} (x : Option α) (k : α → Option β) : Option β := match x with
  | none => none
  | some a => k a
def bn2 {α α2 β : Type} (x : Option (α × α2)) (k : α → α2 → Option β) : Option β := match x with
  | none => none
  | some (a, b) => k a b
def bn3 {α α2 α3 β : Type} (x : Option (α × α2 × α3)) (k : α → α2 → α3 → Option β) : Option β := match x with
  | none => none
  | some (a, b, c) => k a b c
def bn4 {α α2 α3 α4 β : Type} (x : Option (α × α2 × α3 × α4)) (k : α → α2 → α3 → α4 → Option β) : Option β := match x with
  | none => none
  | some (a, b, c, d) => k a b c d
theorem bd1 {α β : Type} {x : Option α} {k : α → Option β} {y : β} (h : bn1 x k = some y) : ∃ a, x = some a ∧ k a = some y := by
  cases x with
  | none => cases h
  | some a => exact ⟨a, rfl, h⟩
theorem bd2 {α α2 β : Type} {x : Option (α × α2)} {k : α → α2 → Option β} {y : β} (h : bn2 x k = some y) : ∃ a b, x = some (a, b) ∧ k a b = some y := by
  cases x with
  | none => cases h
  | some a => exact ⟨a.1, a.2, rfl, h⟩
theorem bd3 {α α2 α3 β : Type} {x : Option (α × α2 × α3)} {k : α → α2 → α3 → Option β} {y : β} (h : bn3 x k = some y) : ∃ a b c, x = some (a, b, c) ∧ k a b c = some y := by
  cases x with
  | none => cases h
  | some a => exact ⟨a.1, a.2.1, a.2.2, rfl, h⟩
theorem bd4 {α α2 α3 α4 β : Type} {x : Option (α × α2 × α3 × α4)} {k : α → α2 → α3 → α4 → Option β} {y : β} (h : bn4 x k = some y) : ∃ a b c d, x = some (a, b, c, d) ∧ k a b c d = some y := by
  cases x with
  | none => cases h
  | some a => exact ⟨a.1, a.2.1, a.2.2.1, a.2.2.2, rfl, h⟩
def mO {β : Type} (v : Option Nat) (a : Option β) (b : Nat → Option β) : Option β := match v with
  | none => a
  | some r => b r
theorem mO_n {β : Type} {a : Option β} {b : Nat → Option β} {y : Option β} (h : mO none a b = y) : a = y := h
theorem mO_s {β : Type} {r : Nat} {a : Option β} {b : Nat → Option β} {y : Option β} (h : mO (some r) a b = y) : b r = y := h
theorem sw2 {α : Type} {x k : Int32} {a b : Option α} {y : Option α} {G : Prop} (h : (if x = k then a else b) = y) (k1 : x = k → a = y → G) (k2 : ¬ x = k → b = y → G) : G := by
  by_cases hc : x = k
  · exact k1 hc (ifp hc h)
  · exact k2 hc (ifn hc h)
theorem i32ne {x k : Int32} {z : Int} (h : ¬ x = k) (hz : k.toInt = z) : x.toInt ≠ z := fun q => h (Int32.toInt_inj.mp (q.trans hz.symm))
theorem ic_m1 : Int32.ofInt (-1) = -1 := by decide
theorem ic_0 : Int32.ofInt (0) = 0 := by decide
theorem ic_1 : Int32.ofInt (1) = 1 := by decide
theorem ic_2 : Int32.ofInt (2) = 2 := by decide
theorem ic_3 : Int32.ofInt (3) = 3 := by decide
theorem ic_4 : Int32.ofInt (4) = 4 := by decide
theorem ic_5 : Int32.ofInt (5) = 5 := by decide
theorem ic_m8 : Int32.ofInt (-8) = -8 := by decide
theorem ic_6 : Int32.ofInt (6) = 6 := by decide
theorem bp_m124 : (Int8.ofInt (-124)).toInt32 = -124 := by decide
theorem bp_m38 : (Int8.ofInt (-38)).toInt32 = -38 := by decide
theorem bp_m33 : (Int8.ofInt (-33)).toInt32 = -33 := by decide
theorem bp_m7 : (Int8.ofInt (-7)).toInt32 = -7 := by decide
theorem bp_m6 : (Int8.ofInt (-6)).toInt32 = -6 := by decide
theorem bp_m2 : (Int8.ofInt (-2)).toInt32 = -2 := by decide
theorem bp_6 : (Int8.ofInt (6)).toInt32 = 6 := by decide
theorem bp_7 : (Int8.ofInt (7)).toInt32 = 7 := by decide
theorem bp_8 : (Int8.ofInt (8)).toInt32 = 8 := by decide
theorem bp_9 : (Int8.ofInt (9)).toInt32 = 9 := by decide
theorem bp_10 : (Int8.ofInt (10)).toInt32 = 10 := by decide
theorem bp_11 : (Int8.ofInt (11)).toInt32 = 11 := by decide
theorem bp_16 : (Int8.ofInt (16)).toInt32 = 16 := by decide
theorem bp_18 : (Int8.ofInt (18)).toInt32 = 18 := by decide
theorem bp_20 : (Int8.ofInt (20)).toInt32 = 20 := by decide
theorem bp_24 : (Int8.ofInt (24)).toInt32 = 24 := by decide
theorem bp_27 : (Int8.ofInt (27)).toInt32 = 27 := by decide
theorem bp_32 : (Int8.ofInt (32)).toInt32 = 32 := by decide
theorem bp_33 : (Int8.ofInt (33)).toInt32 = 33 := by decide
theorem bp_36 : (Int8.ofInt (36)).toInt32 = 36 := by decide
theorem bp_38 : (Int8.ofInt (38)).toInt32 = 38 := by decide
theorem bp_40 : (Int8.ofInt (40)).toInt32 = 40 := by decide
theorem bp_41 : (Int8.ofInt (41)).toInt32 = 41 := by decide
theorem bp_42 : (Int8.ofInt (42)).toInt32 = 42 := by decide
theorem bp_43 : (Int8.ofInt (43)).toInt32 = 43 := by decide
theorem bp_45 : (Int8.ofInt (45)).toInt32 = 45 := by decide
theorem bp_47 : (Int8.ofInt (47)).toInt32 = 47 := by decide
theorem bp_48 : (Int8.ofInt (48)).toInt32 = 48 := by decide
theorem bp_50 : (Int8.ofInt (50)).toInt32 = 50 := by decide
theorem bp_54 : (Int8.ofInt (54)).toInt32 = 54 := by decide
theorem bp_55 : (Int8.ofInt (55)).toInt32 = 55 := by decide
theorem bp_56 : (Int8.ofInt (56)).toInt32 = 56 := by decide
theorem bp_57 : (Int8.ofInt (57)).toInt32 = 57 := by decide
theorem bp_58 : (Int8.ofInt (58)).toInt32 = 58 := by decide
theorem bp_59 : (Int8.ofInt (59)).toInt32 = 59 := by decide
theorem bp_60 : (Int8.ofInt (60)).toInt32 = 60 := by decide
theorem bp_61 : (Int8.ofInt (61)).toInt32 = 61 := by decide
theorem bp_62 : (Int8.ofInt (62)).toInt32 = 62 := by decide
theorem bp_63 : (Int8.ofInt (63)).toInt32 = 63 := by decide
theorem bp_64 : (Int8.ofInt (64)).toInt32 = 64 := by decide
theorem bp_81 : (Int8.ofInt (81)).toInt32 = 81 := by decide
theorem bp_91 : (Int8.ofInt (91)).toInt32 = 91 := by decide
theorem bp_93 : (Int8.ofInt (93)).toInt32 = 93 := by decide
theorem bp_99 : (Int8.ofInt (99)).toInt32 = 99 := by decide
theorem bp_100 : (Int8.ofInt (100)).toInt32 = 100 := by decide
theorem bp_101 : (Int8.ofInt (101)).toInt32 = 101 := by decide
theorem bp_108 : (Int8.ofInt (108)).toInt32 = 108 := by decide
theorem bp_110 : (Int8.ofInt (110)).toInt32 = 110 := by decide
theorem bp_111 : (Int8.ofInt (111)).toInt32 = 111 := by decide
theorem bp_112 : (Int8.ofInt (112)).toInt32 = 112 := by decide
theorem bp_115 : (Int8.ofInt (115)).toInt32 = 115 := by decide
theorem bp_116 : (Int8.ofInt (116)).toInt32 = 116 := by decide
theorem bp_119 : (Int8.ofInt (119)).toInt32 = 119 := by decide
theorem bp_121 : (Int8.ofInt (121)).toInt32 = 121 := by decide
theorem bp_124 : (Int8.ofInt (124)).toInt32 = 124 := by decide
theorem sp_m1000 : (Int16.ofInt (-1000)).toInt32 = -1000 := by decide
theorem sp_128 : (Int16.ofInt (128)).toInt32 = 128 := by decide
theorem sp_192 : (Int16.ofInt (192)).toInt32 = 192 := by decide
theorem sp_236 : (Int16.ofInt (236)).toInt32 = 236 := by decide
theorem sp_240 : (Int16.ofInt (240)).toInt32 = 240 := by decide
theorem sp_255 : (Int16.ofInt (255)).toInt32 = 255 := by decide
theorem sp_296 : (Int16.ofInt (296)).toInt32 = 296 := by decide
theorem sp_400 : (Int16.ofInt (400)).toInt32 = 400 := by decide
theorem sp_512 : (Int16.ofInt (512)).toInt32 = 512 := by decide
theorem sp_896 : (Int16.ofInt (896)).toInt32 = 896 := by decide
theorem sp_960 : (Int16.ofInt (960)).toInt32 = 960 := by decide
theorem sp_999 : (Int16.ofInt (999)).toInt32 = 999 := by decide
theorem sp_2296 : (Int16.ofInt (2296)).toInt32 = 2296 := by decide
theorem sp_11544 : (Int16.ofInt (11544)).toInt32 = 11544 := by decide
theorem sp_11840 : (Int16.ofInt (11840)).toInt32 = 11840 := by decide
section AQ
variable {p : Program} {l : Launch} {e : Env} {R : Room} {s : State} {m : MethodId} {args : Array Value} {below : List Frame} {meth : Method} {c : Code} {Q : State → Prop} {D : va_G} {cA : FieldType → ClassId} {A : Nat → Prop} {ad0 : Nat → Nat} {nL c0 s0 : Nat}
variable {own : String} {cc : ByteArray} {pc : Nat} {L : List (Option Value)} {st : List Value} {h h' : aHp}
theorem j_cV0i (hX : aX p s m args c own cc nL D cA A ad0) {y : MethodName} {bytes : ByteArray} {maxL d i q ci N : Nat} {ret : Option FieldType} {T : u_T}  {v : Int32} (hw : aLV own i y bytes maxL ret 0) (hc : aCl ci y.cls T N) (hd : decode cc pc = .ok (.invokevirtual i, 3)) (hs : h.1[q]? = some (.inr ci)) (hM : aM l y bytes maxL ret d (.ref (100 + q) :: []) h (some (.int v)) h') (hn : h'.1.length = h.1.length) (hn2 : aSn h'.1 = aSn h.1) (hf : d + 1 ≤ R.frames ∧ 8 + (maxL + 11) + 64 * d ≤ R.locals) (hk : (st.map fun v => v.category).sum ≤ 8) (hr1 : h.1.length ≤ c0 + R.cells) (hr2 : aSn h.1 ≤ s0 + R.slots) (kk : aJ p l e R s m args below meth c Q D cA A ad0 nL c0 s0 (pc + 3) L (.int v :: st) h') : aJ p l e R s m args below meth c Q D cA A ad0 nL c0 s0 pc L (.ref (100 + q) :: st) h :=
  j_callV (as := []) hX hw hc hd hs hM hn hn2 rfl hf hk hr1 hr2 kk
theorem j_cS0i (hX : aX p s m args c own cc nL D cA A ad0) {y : MethodName} {bytes : ByteArray} {maxL d i : Nat} {ret : Option FieldType}  {v : Int32} (hw : aLS own i y bytes maxL ret 0) (hd : decode cc pc = .ok (.invokestatic i, 3)) (hM : aM l y bytes maxL ret d [] h (some (.int v)) h') (hn : h'.1.length = h.1.length) (hn2 : aSn h'.1 = aSn h.1) (hf : d + 1 ≤ R.frames ∧ 8 + (maxL + 11) + 64 * d ≤ R.locals) (hk : (st.map fun v => v.category).sum ≤ 8) (hr1 : h.1.length ≤ c0 + R.cells) (hr2 : aSn h.1 ≤ s0 + R.slots) (kk : aJ p l e R s m args below meth c Q D cA A ad0 nL c0 s0 (pc + 3) L (.int v :: st) h') : aJ p l e R s m args below meth c Q D cA A ad0 nL c0 s0 pc L (st) h :=
  j_callS (as := []) hX hw hd hM hn hn2 rfl hf hk hr1 hr2 kk
theorem j_cV0l (hX : aX p s m args c own cc nL D cA A ad0) {y : MethodName} {bytes : ByteArray} {maxL d i q ci N : Nat} {ret : Option FieldType} {T : u_T}  {v : Int64} (hw : aLV own i y bytes maxL ret 0) (hc : aCl ci y.cls T N) (hd : decode cc pc = .ok (.invokevirtual i, 3)) (hs : h.1[q]? = some (.inr ci)) (hM : aM l y bytes maxL ret d (.ref (100 + q) :: []) h (some (.long v)) h') (hn : h'.1.length = h.1.length) (hn2 : aSn h'.1 = aSn h.1) (hf : d + 1 ≤ R.frames ∧ 8 + (maxL + 11) + 64 * d ≤ R.locals) (hk : (st.map fun v => v.category).sum ≤ 8) (hr1 : h.1.length ≤ c0 + R.cells) (hr2 : aSn h.1 ≤ s0 + R.slots) (kk : aJ p l e R s m args below meth c Q D cA A ad0 nL c0 s0 (pc + 3) L (.long v :: st) h') : aJ p l e R s m args below meth c Q D cA A ad0 nL c0 s0 pc L (.ref (100 + q) :: st) h :=
  j_callV (as := []) hX hw hc hd hs hM hn hn2 rfl hf hk hr1 hr2 kk
theorem j_cS0l (hX : aX p s m args c own cc nL D cA A ad0) {y : MethodName} {bytes : ByteArray} {maxL d i : Nat} {ret : Option FieldType}  {v : Int64} (hw : aLS own i y bytes maxL ret 0) (hd : decode cc pc = .ok (.invokestatic i, 3)) (hM : aM l y bytes maxL ret d [] h (some (.long v)) h') (hn : h'.1.length = h.1.length) (hn2 : aSn h'.1 = aSn h.1) (hf : d + 1 ≤ R.frames ∧ 8 + (maxL + 11) + 64 * d ≤ R.locals) (hk : (st.map fun v => v.category).sum ≤ 8) (hr1 : h.1.length ≤ c0 + R.cells) (hr2 : aSn h.1 ≤ s0 + R.slots) (kk : aJ p l e R s m args below meth c Q D cA A ad0 nL c0 s0 (pc + 3) L (.long v :: st) h') : aJ p l e R s m args below meth c Q D cA A ad0 nL c0 s0 pc L (st) h :=
  j_callS (as := []) hX hw hd hM hn hn2 rfl hf hk hr1 hr2 kk
theorem j_cV0v (hX : aX p s m args c own cc nL D cA A ad0) {y : MethodName} {bytes : ByteArray} {maxL d i q ci N : Nat} {ret : Option FieldType} {T : u_T}   (hw : aLV own i y bytes maxL ret 0) (hc : aCl ci y.cls T N) (hd : decode cc pc = .ok (.invokevirtual i, 3)) (hs : h.1[q]? = some (.inr ci)) (hM : aM l y bytes maxL ret d (.ref (100 + q) :: []) h none h') (hn : h'.1.length = h.1.length) (hn2 : aSn h'.1 = aSn h.1) (hf : d + 1 ≤ R.frames ∧ 8 + (maxL + 11) + 64 * d ≤ R.locals) (hk : (st.map fun v => v.category).sum ≤ 8) (hr1 : h.1.length ≤ c0 + R.cells) (hr2 : aSn h.1 ≤ s0 + R.slots) (kk : aJ p l e R s m args below meth c Q D cA A ad0 nL c0 s0 (pc + 3) L st h') : aJ p l e R s m args below meth c Q D cA A ad0 nL c0 s0 pc L (.ref (100 + q) :: st) h :=
  j_callV (as := []) hX hw hc hd hs hM hn hn2 rfl hf hk hr1 hr2 kk
theorem j_cS0v (hX : aX p s m args c own cc nL D cA A ad0) {y : MethodName} {bytes : ByteArray} {maxL d i : Nat} {ret : Option FieldType}   (hw : aLS own i y bytes maxL ret 0) (hd : decode cc pc = .ok (.invokestatic i, 3)) (hM : aM l y bytes maxL ret d [] h none h') (hn : h'.1.length = h.1.length) (hn2 : aSn h'.1 = aSn h.1) (hf : d + 1 ≤ R.frames ∧ 8 + (maxL + 11) + 64 * d ≤ R.locals) (hk : (st.map fun v => v.category).sum ≤ 8) (hr1 : h.1.length ≤ c0 + R.cells) (hr2 : aSn h.1 ≤ s0 + R.slots) (kk : aJ p l e R s m args below meth c Q D cA A ad0 nL c0 s0 (pc + 3) L st h') : aJ p l e R s m args below meth c Q D cA A ad0 nL c0 s0 pc L (st) h :=
  j_callS (as := []) hX hw hd hM hn hn2 rfl hf hk hr1 hr2 kk
theorem j_cV0r (hX : aX p s m args c own cc nL D cA A ad0) {y : MethodName} {bytes : ByteArray} {maxL d i q ci N : Nat} {ret : Option FieldType} {T : u_T}  {v : Option Nat} (hw : aLV own i y bytes maxL ret 0) (hc : aCl ci y.cls T N) (hd : decode cc pc = .ok (.invokevirtual i, 3)) (hs : h.1[q]? = some (.inr ci)) (hM : aM l y bytes maxL ret d (.ref (100 + q) :: []) h (some (va_rf v)) h') (hn : h'.1.length = h.1.length) (hn2 : aSn h'.1 = aSn h.1) (hf : d + 1 ≤ R.frames ∧ 8 + (maxL + 11) + 64 * d ≤ R.locals) (hk : (st.map fun v => v.category).sum ≤ 8) (hr1 : h.1.length ≤ c0 + R.cells) (hr2 : aSn h.1 ≤ s0 + R.slots) (kk : aJ p l e R s m args below meth c Q D cA A ad0 nL c0 s0 (pc + 3) L (va_rf v :: st) h') : aJ p l e R s m args below meth c Q D cA A ad0 nL c0 s0 pc L (.ref (100 + q) :: st) h :=
  j_callV (as := []) hX hw hc hd hs hM hn hn2 rfl hf hk hr1 hr2 kk
theorem j_cS0r (hX : aX p s m args c own cc nL D cA A ad0) {y : MethodName} {bytes : ByteArray} {maxL d i : Nat} {ret : Option FieldType}  {v : Option Nat} (hw : aLS own i y bytes maxL ret 0) (hd : decode cc pc = .ok (.invokestatic i, 3)) (hM : aM l y bytes maxL ret d [] h (some (va_rf v)) h') (hn : h'.1.length = h.1.length) (hn2 : aSn h'.1 = aSn h.1) (hf : d + 1 ≤ R.frames ∧ 8 + (maxL + 11) + 64 * d ≤ R.locals) (hk : (st.map fun v => v.category).sum ≤ 8) (hr1 : h.1.length ≤ c0 + R.cells) (hr2 : aSn h.1 ≤ s0 + R.slots) (kk : aJ p l e R s m args below meth c Q D cA A ad0 nL c0 s0 (pc + 3) L (va_rf v :: st) h') : aJ p l e R s m args below meth c Q D cA A ad0 nL c0 s0 pc L (st) h :=
  j_callS (as := []) hX hw hd hM hn hn2 rfl hf hk hr1 hr2 kk
theorem j_cV1i (hX : aX p s m args c own cc nL D cA A ad0) {y : MethodName} {bytes : ByteArray} {maxL d i q ci N : Nat} {ret : Option FieldType} {T : u_T} {b0 : Value} {v : Int32} (hw : aLV own i y bytes maxL ret 1) (hc : aCl ci y.cls T N) (hd : decode cc pc = .ok (.invokevirtual i, 3)) (hs : h.1[q]? = some (.inr ci)) (hM : aM l y bytes maxL ret d (.ref (100 + q) :: [b0]) h (some (.int v)) h') (hn : h'.1.length = h.1.length) (hn2 : aSn h'.1 = aSn h.1) (hf : d + 1 ≤ R.frames ∧ 8 + (maxL + 11) + 64 * d ≤ R.locals) (hk : (st.map fun v => v.category).sum ≤ 8) (hr1 : h.1.length ≤ c0 + R.cells) (hr2 : aSn h.1 ≤ s0 + R.slots) (kk : aJ p l e R s m args below meth c Q D cA A ad0 nL c0 s0 (pc + 3) L (.int v :: st) h') : aJ p l e R s m args below meth c Q D cA A ad0 nL c0 s0 pc L (b0 :: .ref (100 + q) :: st) h :=
  j_callV (as := [b0]) hX hw hc hd hs hM hn hn2 rfl hf hk hr1 hr2 kk
theorem j_cS1i (hX : aX p s m args c own cc nL D cA A ad0) {y : MethodName} {bytes : ByteArray} {maxL d i : Nat} {ret : Option FieldType} {b0 : Value} {v : Int32} (hw : aLS own i y bytes maxL ret 1) (hd : decode cc pc = .ok (.invokestatic i, 3)) (hM : aM l y bytes maxL ret d [b0] h (some (.int v)) h') (hn : h'.1.length = h.1.length) (hn2 : aSn h'.1 = aSn h.1) (hf : d + 1 ≤ R.frames ∧ 8 + (maxL + 11) + 64 * d ≤ R.locals) (hk : (st.map fun v => v.category).sum ≤ 8) (hr1 : h.1.length ≤ c0 + R.cells) (hr2 : aSn h.1 ≤ s0 + R.slots) (kk : aJ p l e R s m args below meth c Q D cA A ad0 nL c0 s0 (pc + 3) L (.int v :: st) h') : aJ p l e R s m args below meth c Q D cA A ad0 nL c0 s0 pc L (b0 :: st) h :=
  j_callS (as := [b0]) hX hw hd hM hn hn2 rfl hf hk hr1 hr2 kk
theorem j_cV1l (hX : aX p s m args c own cc nL D cA A ad0) {y : MethodName} {bytes : ByteArray} {maxL d i q ci N : Nat} {ret : Option FieldType} {T : u_T} {b0 : Value} {v : Int64} (hw : aLV own i y bytes maxL ret 1) (hc : aCl ci y.cls T N) (hd : decode cc pc = .ok (.invokevirtual i, 3)) (hs : h.1[q]? = some (.inr ci)) (hM : aM l y bytes maxL ret d (.ref (100 + q) :: [b0]) h (some (.long v)) h') (hn : h'.1.length = h.1.length) (hn2 : aSn h'.1 = aSn h.1) (hf : d + 1 ≤ R.frames ∧ 8 + (maxL + 11) + 64 * d ≤ R.locals) (hk : (st.map fun v => v.category).sum ≤ 8) (hr1 : h.1.length ≤ c0 + R.cells) (hr2 : aSn h.1 ≤ s0 + R.slots) (kk : aJ p l e R s m args below meth c Q D cA A ad0 nL c0 s0 (pc + 3) L (.long v :: st) h') : aJ p l e R s m args below meth c Q D cA A ad0 nL c0 s0 pc L (b0 :: .ref (100 + q) :: st) h :=
  j_callV (as := [b0]) hX hw hc hd hs hM hn hn2 rfl hf hk hr1 hr2 kk
theorem j_cS1l (hX : aX p s m args c own cc nL D cA A ad0) {y : MethodName} {bytes : ByteArray} {maxL d i : Nat} {ret : Option FieldType} {b0 : Value} {v : Int64} (hw : aLS own i y bytes maxL ret 1) (hd : decode cc pc = .ok (.invokestatic i, 3)) (hM : aM l y bytes maxL ret d [b0] h (some (.long v)) h') (hn : h'.1.length = h.1.length) (hn2 : aSn h'.1 = aSn h.1) (hf : d + 1 ≤ R.frames ∧ 8 + (maxL + 11) + 64 * d ≤ R.locals) (hk : (st.map fun v => v.category).sum ≤ 8) (hr1 : h.1.length ≤ c0 + R.cells) (hr2 : aSn h.1 ≤ s0 + R.slots) (kk : aJ p l e R s m args below meth c Q D cA A ad0 nL c0 s0 (pc + 3) L (.long v :: st) h') : aJ p l e R s m args below meth c Q D cA A ad0 nL c0 s0 pc L (b0 :: st) h :=
  j_callS (as := [b0]) hX hw hd hM hn hn2 rfl hf hk hr1 hr2 kk
theorem j_cV1v (hX : aX p s m args c own cc nL D cA A ad0) {y : MethodName} {bytes : ByteArray} {maxL d i q ci N : Nat} {ret : Option FieldType} {T : u_T} {b0 : Value}  (hw : aLV own i y bytes maxL ret 1) (hc : aCl ci y.cls T N) (hd : decode cc pc = .ok (.invokevirtual i, 3)) (hs : h.1[q]? = some (.inr ci)) (hM : aM l y bytes maxL ret d (.ref (100 + q) :: [b0]) h none h') (hn : h'.1.length = h.1.length) (hn2 : aSn h'.1 = aSn h.1) (hf : d + 1 ≤ R.frames ∧ 8 + (maxL + 11) + 64 * d ≤ R.locals) (hk : (st.map fun v => v.category).sum ≤ 8) (hr1 : h.1.length ≤ c0 + R.cells) (hr2 : aSn h.1 ≤ s0 + R.slots) (kk : aJ p l e R s m args below meth c Q D cA A ad0 nL c0 s0 (pc + 3) L st h') : aJ p l e R s m args below meth c Q D cA A ad0 nL c0 s0 pc L (b0 :: .ref (100 + q) :: st) h :=
  j_callV (as := [b0]) hX hw hc hd hs hM hn hn2 rfl hf hk hr1 hr2 kk
theorem j_cS1v (hX : aX p s m args c own cc nL D cA A ad0) {y : MethodName} {bytes : ByteArray} {maxL d i : Nat} {ret : Option FieldType} {b0 : Value}  (hw : aLS own i y bytes maxL ret 1) (hd : decode cc pc = .ok (.invokestatic i, 3)) (hM : aM l y bytes maxL ret d [b0] h none h') (hn : h'.1.length = h.1.length) (hn2 : aSn h'.1 = aSn h.1) (hf : d + 1 ≤ R.frames ∧ 8 + (maxL + 11) + 64 * d ≤ R.locals) (hk : (st.map fun v => v.category).sum ≤ 8) (hr1 : h.1.length ≤ c0 + R.cells) (hr2 : aSn h.1 ≤ s0 + R.slots) (kk : aJ p l e R s m args below meth c Q D cA A ad0 nL c0 s0 (pc + 3) L st h') : aJ p l e R s m args below meth c Q D cA A ad0 nL c0 s0 pc L (b0 :: st) h :=
  j_callS (as := [b0]) hX hw hd hM hn hn2 rfl hf hk hr1 hr2 kk
theorem j_cV1r (hX : aX p s m args c own cc nL D cA A ad0) {y : MethodName} {bytes : ByteArray} {maxL d i q ci N : Nat} {ret : Option FieldType} {T : u_T} {b0 : Value} {v : Option Nat} (hw : aLV own i y bytes maxL ret 1) (hc : aCl ci y.cls T N) (hd : decode cc pc = .ok (.invokevirtual i, 3)) (hs : h.1[q]? = some (.inr ci)) (hM : aM l y bytes maxL ret d (.ref (100 + q) :: [b0]) h (some (va_rf v)) h') (hn : h'.1.length = h.1.length) (hn2 : aSn h'.1 = aSn h.1) (hf : d + 1 ≤ R.frames ∧ 8 + (maxL + 11) + 64 * d ≤ R.locals) (hk : (st.map fun v => v.category).sum ≤ 8) (hr1 : h.1.length ≤ c0 + R.cells) (hr2 : aSn h.1 ≤ s0 + R.slots) (kk : aJ p l e R s m args below meth c Q D cA A ad0 nL c0 s0 (pc + 3) L (va_rf v :: st) h') : aJ p l e R s m args below meth c Q D cA A ad0 nL c0 s0 pc L (b0 :: .ref (100 + q) :: st) h :=
  j_callV (as := [b0]) hX hw hc hd hs hM hn hn2 rfl hf hk hr1 hr2 kk
theorem j_cS1r (hX : aX p s m args c own cc nL D cA A ad0) {y : MethodName} {bytes : ByteArray} {maxL d i : Nat} {ret : Option FieldType} {b0 : Value} {v : Option Nat} (hw : aLS own i y bytes maxL ret 1) (hd : decode cc pc = .ok (.invokestatic i, 3)) (hM : aM l y bytes maxL ret d [b0] h (some (va_rf v)) h') (hn : h'.1.length = h.1.length) (hn2 : aSn h'.1 = aSn h.1) (hf : d + 1 ≤ R.frames ∧ 8 + (maxL + 11) + 64 * d ≤ R.locals) (hk : (st.map fun v => v.category).sum ≤ 8) (hr1 : h.1.length ≤ c0 + R.cells) (hr2 : aSn h.1 ≤ s0 + R.slots) (kk : aJ p l e R s m args below meth c Q D cA A ad0 nL c0 s0 (pc + 3) L (va_rf v :: st) h') : aJ p l e R s m args below meth c Q D cA A ad0 nL c0 s0 pc L (b0 :: st) h :=
  j_callS (as := [b0]) hX hw hd hM hn hn2 rfl hf hk hr1 hr2 kk
theorem j_cV2i (hX : aX p s m args c own cc nL D cA A ad0) {y : MethodName} {bytes : ByteArray} {maxL d i q ci N : Nat} {ret : Option FieldType} {T : u_T} {b0 b1 : Value} {v : Int32} (hw : aLV own i y bytes maxL ret 2) (hc : aCl ci y.cls T N) (hd : decode cc pc = .ok (.invokevirtual i, 3)) (hs : h.1[q]? = some (.inr ci)) (hM : aM l y bytes maxL ret d (.ref (100 + q) :: [b0, b1]) h (some (.int v)) h') (hn : h'.1.length = h.1.length) (hn2 : aSn h'.1 = aSn h.1) (hf : d + 1 ≤ R.frames ∧ 8 + (maxL + 11) + 64 * d ≤ R.locals) (hk : (st.map fun v => v.category).sum ≤ 8) (hr1 : h.1.length ≤ c0 + R.cells) (hr2 : aSn h.1 ≤ s0 + R.slots) (kk : aJ p l e R s m args below meth c Q D cA A ad0 nL c0 s0 (pc + 3) L (.int v :: st) h') : aJ p l e R s m args below meth c Q D cA A ad0 nL c0 s0 pc L (b1 :: b0 :: .ref (100 + q) :: st) h :=
  j_callV (as := [b0, b1]) hX hw hc hd hs hM hn hn2 rfl hf hk hr1 hr2 kk
theorem j_cS2i (hX : aX p s m args c own cc nL D cA A ad0) {y : MethodName} {bytes : ByteArray} {maxL d i : Nat} {ret : Option FieldType} {b0 b1 : Value} {v : Int32} (hw : aLS own i y bytes maxL ret 2) (hd : decode cc pc = .ok (.invokestatic i, 3)) (hM : aM l y bytes maxL ret d [b0, b1] h (some (.int v)) h') (hn : h'.1.length = h.1.length) (hn2 : aSn h'.1 = aSn h.1) (hf : d + 1 ≤ R.frames ∧ 8 + (maxL + 11) + 64 * d ≤ R.locals) (hk : (st.map fun v => v.category).sum ≤ 8) (hr1 : h.1.length ≤ c0 + R.cells) (hr2 : aSn h.1 ≤ s0 + R.slots) (kk : aJ p l e R s m args below meth c Q D cA A ad0 nL c0 s0 (pc + 3) L (.int v :: st) h') : aJ p l e R s m args below meth c Q D cA A ad0 nL c0 s0 pc L (b1 :: b0 :: st) h :=
  j_callS (as := [b0, b1]) hX hw hd hM hn hn2 rfl hf hk hr1 hr2 kk
theorem j_cV2l (hX : aX p s m args c own cc nL D cA A ad0) {y : MethodName} {bytes : ByteArray} {maxL d i q ci N : Nat} {ret : Option FieldType} {T : u_T} {b0 b1 : Value} {v : Int64} (hw : aLV own i y bytes maxL ret 2) (hc : aCl ci y.cls T N) (hd : decode cc pc = .ok (.invokevirtual i, 3)) (hs : h.1[q]? = some (.inr ci)) (hM : aM l y bytes maxL ret d (.ref (100 + q) :: [b0, b1]) h (some (.long v)) h') (hn : h'.1.length = h.1.length) (hn2 : aSn h'.1 = aSn h.1) (hf : d + 1 ≤ R.frames ∧ 8 + (maxL + 11) + 64 * d ≤ R.locals) (hk : (st.map fun v => v.category).sum ≤ 8) (hr1 : h.1.length ≤ c0 + R.cells) (hr2 : aSn h.1 ≤ s0 + R.slots) (kk : aJ p l e R s m args below meth c Q D cA A ad0 nL c0 s0 (pc + 3) L (.long v :: st) h') : aJ p l e R s m args below meth c Q D cA A ad0 nL c0 s0 pc L (b1 :: b0 :: .ref (100 + q) :: st) h :=
  j_callV (as := [b0, b1]) hX hw hc hd hs hM hn hn2 rfl hf hk hr1 hr2 kk
theorem j_cS2l (hX : aX p s m args c own cc nL D cA A ad0) {y : MethodName} {bytes : ByteArray} {maxL d i : Nat} {ret : Option FieldType} {b0 b1 : Value} {v : Int64} (hw : aLS own i y bytes maxL ret 2) (hd : decode cc pc = .ok (.invokestatic i, 3)) (hM : aM l y bytes maxL ret d [b0, b1] h (some (.long v)) h') (hn : h'.1.length = h.1.length) (hn2 : aSn h'.1 = aSn h.1) (hf : d + 1 ≤ R.frames ∧ 8 + (maxL + 11) + 64 * d ≤ R.locals) (hk : (st.map fun v => v.category).sum ≤ 8) (hr1 : h.1.length ≤ c0 + R.cells) (hr2 : aSn h.1 ≤ s0 + R.slots) (kk : aJ p l e R s m args below meth c Q D cA A ad0 nL c0 s0 (pc + 3) L (.long v :: st) h') : aJ p l e R s m args below meth c Q D cA A ad0 nL c0 s0 pc L (b1 :: b0 :: st) h :=
  j_callS (as := [b0, b1]) hX hw hd hM hn hn2 rfl hf hk hr1 hr2 kk
theorem j_cV2v (hX : aX p s m args c own cc nL D cA A ad0) {y : MethodName} {bytes : ByteArray} {maxL d i q ci N : Nat} {ret : Option FieldType} {T : u_T} {b0 b1 : Value}  (hw : aLV own i y bytes maxL ret 2) (hc : aCl ci y.cls T N) (hd : decode cc pc = .ok (.invokevirtual i, 3)) (hs : h.1[q]? = some (.inr ci)) (hM : aM l y bytes maxL ret d (.ref (100 + q) :: [b0, b1]) h none h') (hn : h'.1.length = h.1.length) (hn2 : aSn h'.1 = aSn h.1) (hf : d + 1 ≤ R.frames ∧ 8 + (maxL + 11) + 64 * d ≤ R.locals) (hk : (st.map fun v => v.category).sum ≤ 8) (hr1 : h.1.length ≤ c0 + R.cells) (hr2 : aSn h.1 ≤ s0 + R.slots) (kk : aJ p l e R s m args below meth c Q D cA A ad0 nL c0 s0 (pc + 3) L st h') : aJ p l e R s m args below meth c Q D cA A ad0 nL c0 s0 pc L (b1 :: b0 :: .ref (100 + q) :: st) h :=
  j_callV (as := [b0, b1]) hX hw hc hd hs hM hn hn2 rfl hf hk hr1 hr2 kk
theorem j_cS2v (hX : aX p s m args c own cc nL D cA A ad0) {y : MethodName} {bytes : ByteArray} {maxL d i : Nat} {ret : Option FieldType} {b0 b1 : Value}  (hw : aLS own i y bytes maxL ret 2) (hd : decode cc pc = .ok (.invokestatic i, 3)) (hM : aM l y bytes maxL ret d [b0, b1] h none h') (hn : h'.1.length = h.1.length) (hn2 : aSn h'.1 = aSn h.1) (hf : d + 1 ≤ R.frames ∧ 8 + (maxL + 11) + 64 * d ≤ R.locals) (hk : (st.map fun v => v.category).sum ≤ 8) (hr1 : h.1.length ≤ c0 + R.cells) (hr2 : aSn h.1 ≤ s0 + R.slots) (kk : aJ p l e R s m args below meth c Q D cA A ad0 nL c0 s0 (pc + 3) L st h') : aJ p l e R s m args below meth c Q D cA A ad0 nL c0 s0 pc L (b1 :: b0 :: st) h :=
  j_callS (as := [b0, b1]) hX hw hd hM hn hn2 rfl hf hk hr1 hr2 kk
theorem j_cV2r (hX : aX p s m args c own cc nL D cA A ad0) {y : MethodName} {bytes : ByteArray} {maxL d i q ci N : Nat} {ret : Option FieldType} {T : u_T} {b0 b1 : Value} {v : Option Nat} (hw : aLV own i y bytes maxL ret 2) (hc : aCl ci y.cls T N) (hd : decode cc pc = .ok (.invokevirtual i, 3)) (hs : h.1[q]? = some (.inr ci)) (hM : aM l y bytes maxL ret d (.ref (100 + q) :: [b0, b1]) h (some (va_rf v)) h') (hn : h'.1.length = h.1.length) (hn2 : aSn h'.1 = aSn h.1) (hf : d + 1 ≤ R.frames ∧ 8 + (maxL + 11) + 64 * d ≤ R.locals) (hk : (st.map fun v => v.category).sum ≤ 8) (hr1 : h.1.length ≤ c0 + R.cells) (hr2 : aSn h.1 ≤ s0 + R.slots) (kk : aJ p l e R s m args below meth c Q D cA A ad0 nL c0 s0 (pc + 3) L (va_rf v :: st) h') : aJ p l e R s m args below meth c Q D cA A ad0 nL c0 s0 pc L (b1 :: b0 :: .ref (100 + q) :: st) h :=
  j_callV (as := [b0, b1]) hX hw hc hd hs hM hn hn2 rfl hf hk hr1 hr2 kk
theorem j_cS2r (hX : aX p s m args c own cc nL D cA A ad0) {y : MethodName} {bytes : ByteArray} {maxL d i : Nat} {ret : Option FieldType} {b0 b1 : Value} {v : Option Nat} (hw : aLS own i y bytes maxL ret 2) (hd : decode cc pc = .ok (.invokestatic i, 3)) (hM : aM l y bytes maxL ret d [b0, b1] h (some (va_rf v)) h') (hn : h'.1.length = h.1.length) (hn2 : aSn h'.1 = aSn h.1) (hf : d + 1 ≤ R.frames ∧ 8 + (maxL + 11) + 64 * d ≤ R.locals) (hk : (st.map fun v => v.category).sum ≤ 8) (hr1 : h.1.length ≤ c0 + R.cells) (hr2 : aSn h.1 ≤ s0 + R.slots) (kk : aJ p l e R s m args below meth c Q D cA A ad0 nL c0 s0 (pc + 3) L (va_rf v :: st) h') : aJ p l e R s m args below meth c Q D cA A ad0 nL c0 s0 pc L (b1 :: b0 :: st) h :=
  j_callS (as := [b0, b1]) hX hw hd hM hn hn2 rfl hf hk hr1 hr2 kk
theorem j_cV3i (hX : aX p s m args c own cc nL D cA A ad0) {y : MethodName} {bytes : ByteArray} {maxL d i q ci N : Nat} {ret : Option FieldType} {T : u_T} {b0 b1 b2 : Value} {v : Int32} (hw : aLV own i y bytes maxL ret 3) (hc : aCl ci y.cls T N) (hd : decode cc pc = .ok (.invokevirtual i, 3)) (hs : h.1[q]? = some (.inr ci)) (hM : aM l y bytes maxL ret d (.ref (100 + q) :: [b0, b1, b2]) h (some (.int v)) h') (hn : h'.1.length = h.1.length) (hn2 : aSn h'.1 = aSn h.1) (hf : d + 1 ≤ R.frames ∧ 8 + (maxL + 11) + 64 * d ≤ R.locals) (hk : (st.map fun v => v.category).sum ≤ 8) (hr1 : h.1.length ≤ c0 + R.cells) (hr2 : aSn h.1 ≤ s0 + R.slots) (kk : aJ p l e R s m args below meth c Q D cA A ad0 nL c0 s0 (pc + 3) L (.int v :: st) h') : aJ p l e R s m args below meth c Q D cA A ad0 nL c0 s0 pc L (b2 :: b1 :: b0 :: .ref (100 + q) :: st) h :=
  j_callV (as := [b0, b1, b2]) hX hw hc hd hs hM hn hn2 rfl hf hk hr1 hr2 kk
theorem j_cS3i (hX : aX p s m args c own cc nL D cA A ad0) {y : MethodName} {bytes : ByteArray} {maxL d i : Nat} {ret : Option FieldType} {b0 b1 b2 : Value} {v : Int32} (hw : aLS own i y bytes maxL ret 3) (hd : decode cc pc = .ok (.invokestatic i, 3)) (hM : aM l y bytes maxL ret d [b0, b1, b2] h (some (.int v)) h') (hn : h'.1.length = h.1.length) (hn2 : aSn h'.1 = aSn h.1) (hf : d + 1 ≤ R.frames ∧ 8 + (maxL + 11) + 64 * d ≤ R.locals) (hk : (st.map fun v => v.category).sum ≤ 8) (hr1 : h.1.length ≤ c0 + R.cells) (hr2 : aSn h.1 ≤ s0 + R.slots) (kk : aJ p l e R s m args below meth c Q D cA A ad0 nL c0 s0 (pc + 3) L (.int v :: st) h') : aJ p l e R s m args below meth c Q D cA A ad0 nL c0 s0 pc L (b2 :: b1 :: b0 :: st) h :=
  j_callS (as := [b0, b1, b2]) hX hw hd hM hn hn2 rfl hf hk hr1 hr2 kk
theorem j_cV3v (hX : aX p s m args c own cc nL D cA A ad0) {y : MethodName} {bytes : ByteArray} {maxL d i q ci N : Nat} {ret : Option FieldType} {T : u_T} {b0 b1 b2 : Value}  (hw : aLV own i y bytes maxL ret 3) (hc : aCl ci y.cls T N) (hd : decode cc pc = .ok (.invokevirtual i, 3)) (hs : h.1[q]? = some (.inr ci)) (hM : aM l y bytes maxL ret d (.ref (100 + q) :: [b0, b1, b2]) h none h') (hn : h'.1.length = h.1.length) (hn2 : aSn h'.1 = aSn h.1) (hf : d + 1 ≤ R.frames ∧ 8 + (maxL + 11) + 64 * d ≤ R.locals) (hk : (st.map fun v => v.category).sum ≤ 8) (hr1 : h.1.length ≤ c0 + R.cells) (hr2 : aSn h.1 ≤ s0 + R.slots) (kk : aJ p l e R s m args below meth c Q D cA A ad0 nL c0 s0 (pc + 3) L st h') : aJ p l e R s m args below meth c Q D cA A ad0 nL c0 s0 pc L (b2 :: b1 :: b0 :: .ref (100 + q) :: st) h :=
  j_callV (as := [b0, b1, b2]) hX hw hc hd hs hM hn hn2 rfl hf hk hr1 hr2 kk
theorem j_cS3v (hX : aX p s m args c own cc nL D cA A ad0) {y : MethodName} {bytes : ByteArray} {maxL d i : Nat} {ret : Option FieldType} {b0 b1 b2 : Value}  (hw : aLS own i y bytes maxL ret 3) (hd : decode cc pc = .ok (.invokestatic i, 3)) (hM : aM l y bytes maxL ret d [b0, b1, b2] h none h') (hn : h'.1.length = h.1.length) (hn2 : aSn h'.1 = aSn h.1) (hf : d + 1 ≤ R.frames ∧ 8 + (maxL + 11) + 64 * d ≤ R.locals) (hk : (st.map fun v => v.category).sum ≤ 8) (hr1 : h.1.length ≤ c0 + R.cells) (hr2 : aSn h.1 ≤ s0 + R.slots) (kk : aJ p l e R s m args below meth c Q D cA A ad0 nL c0 s0 (pc + 3) L st h') : aJ p l e R s m args below meth c Q D cA A ad0 nL c0 s0 pc L (b2 :: b1 :: b0 :: st) h :=
  j_callS (as := [b0, b1, b2]) hX hw hd hM hn hn2 rfl hf hk hr1 hr2 kk
theorem j_cV4i (hX : aX p s m args c own cc nL D cA A ad0) {y : MethodName} {bytes : ByteArray} {maxL d i q ci N : Nat} {ret : Option FieldType} {T : u_T} {b0 b1 b2 b3 : Value} {v : Int32} (hw : aLV own i y bytes maxL ret 4) (hc : aCl ci y.cls T N) (hd : decode cc pc = .ok (.invokevirtual i, 3)) (hs : h.1[q]? = some (.inr ci)) (hM : aM l y bytes maxL ret d (.ref (100 + q) :: [b0, b1, b2, b3]) h (some (.int v)) h') (hn : h'.1.length = h.1.length) (hn2 : aSn h'.1 = aSn h.1) (hf : d + 1 ≤ R.frames ∧ 8 + (maxL + 11) + 64 * d ≤ R.locals) (hk : (st.map fun v => v.category).sum ≤ 8) (hr1 : h.1.length ≤ c0 + R.cells) (hr2 : aSn h.1 ≤ s0 + R.slots) (kk : aJ p l e R s m args below meth c Q D cA A ad0 nL c0 s0 (pc + 3) L (.int v :: st) h') : aJ p l e R s m args below meth c Q D cA A ad0 nL c0 s0 pc L (b3 :: b2 :: b1 :: b0 :: .ref (100 + q) :: st) h :=
  j_callV (as := [b0, b1, b2, b3]) hX hw hc hd hs hM hn hn2 rfl hf hk hr1 hr2 kk
theorem j_cS4i (hX : aX p s m args c own cc nL D cA A ad0) {y : MethodName} {bytes : ByteArray} {maxL d i : Nat} {ret : Option FieldType} {b0 b1 b2 b3 : Value} {v : Int32} (hw : aLS own i y bytes maxL ret 4) (hd : decode cc pc = .ok (.invokestatic i, 3)) (hM : aM l y bytes maxL ret d [b0, b1, b2, b3] h (some (.int v)) h') (hn : h'.1.length = h.1.length) (hn2 : aSn h'.1 = aSn h.1) (hf : d + 1 ≤ R.frames ∧ 8 + (maxL + 11) + 64 * d ≤ R.locals) (hk : (st.map fun v => v.category).sum ≤ 8) (hr1 : h.1.length ≤ c0 + R.cells) (hr2 : aSn h.1 ≤ s0 + R.slots) (kk : aJ p l e R s m args below meth c Q D cA A ad0 nL c0 s0 (pc + 3) L (.int v :: st) h') : aJ p l e R s m args below meth c Q D cA A ad0 nL c0 s0 pc L (b3 :: b2 :: b1 :: b0 :: st) h :=
  j_callS (as := [b0, b1, b2, b3]) hX hw hd hM hn hn2 rfl hf hk hr1 hr2 kk
theorem j_cV4v (hX : aX p s m args c own cc nL D cA A ad0) {y : MethodName} {bytes : ByteArray} {maxL d i q ci N : Nat} {ret : Option FieldType} {T : u_T} {b0 b1 b2 b3 : Value}  (hw : aLV own i y bytes maxL ret 4) (hc : aCl ci y.cls T N) (hd : decode cc pc = .ok (.invokevirtual i, 3)) (hs : h.1[q]? = some (.inr ci)) (hM : aM l y bytes maxL ret d (.ref (100 + q) :: [b0, b1, b2, b3]) h none h') (hn : h'.1.length = h.1.length) (hn2 : aSn h'.1 = aSn h.1) (hf : d + 1 ≤ R.frames ∧ 8 + (maxL + 11) + 64 * d ≤ R.locals) (hk : (st.map fun v => v.category).sum ≤ 8) (hr1 : h.1.length ≤ c0 + R.cells) (hr2 : aSn h.1 ≤ s0 + R.slots) (kk : aJ p l e R s m args below meth c Q D cA A ad0 nL c0 s0 (pc + 3) L st h') : aJ p l e R s m args below meth c Q D cA A ad0 nL c0 s0 pc L (b3 :: b2 :: b1 :: b0 :: .ref (100 + q) :: st) h :=
  j_callV (as := [b0, b1, b2, b3]) hX hw hc hd hs hM hn hn2 rfl hf hk hr1 hr2 kk
theorem j_cS4v (hX : aX p s m args c own cc nL D cA A ad0) {y : MethodName} {bytes : ByteArray} {maxL d i : Nat} {ret : Option FieldType} {b0 b1 b2 b3 : Value}  (hw : aLS own i y bytes maxL ret 4) (hd : decode cc pc = .ok (.invokestatic i, 3)) (hM : aM l y bytes maxL ret d [b0, b1, b2, b3] h none h') (hn : h'.1.length = h.1.length) (hn2 : aSn h'.1 = aSn h.1) (hf : d + 1 ≤ R.frames ∧ 8 + (maxL + 11) + 64 * d ≤ R.locals) (hk : (st.map fun v => v.category).sum ≤ 8) (hr1 : h.1.length ≤ c0 + R.cells) (hr2 : aSn h.1 ≤ s0 + R.slots) (kk : aJ p l e R s m args below meth c Q D cA A ad0 nL c0 s0 (pc + 3) L st h') : aJ p l e R s m args below meth c Q D cA A ad0 nL c0 s0 pc L (b3 :: b2 :: b1 :: b0 :: st) h :=
  j_callS (as := [b0, b1, b2, b3]) hX hw hd hM hn hn2 rfl hf hk hr1 hr2 kk
theorem j_cV5i (hX : aX p s m args c own cc nL D cA A ad0) {y : MethodName} {bytes : ByteArray} {maxL d i q ci N : Nat} {ret : Option FieldType} {T : u_T} {b0 b1 b2 b3 b4 : Value} {v : Int32} (hw : aLV own i y bytes maxL ret 5) (hc : aCl ci y.cls T N) (hd : decode cc pc = .ok (.invokevirtual i, 3)) (hs : h.1[q]? = some (.inr ci)) (hM : aM l y bytes maxL ret d (.ref (100 + q) :: [b0, b1, b2, b3, b4]) h (some (.int v)) h') (hn : h'.1.length = h.1.length) (hn2 : aSn h'.1 = aSn h.1) (hf : d + 1 ≤ R.frames ∧ 8 + (maxL + 11) + 64 * d ≤ R.locals) (hk : (st.map fun v => v.category).sum ≤ 8) (hr1 : h.1.length ≤ c0 + R.cells) (hr2 : aSn h.1 ≤ s0 + R.slots) (kk : aJ p l e R s m args below meth c Q D cA A ad0 nL c0 s0 (pc + 3) L (.int v :: st) h') : aJ p l e R s m args below meth c Q D cA A ad0 nL c0 s0 pc L (b4 :: b3 :: b2 :: b1 :: b0 :: .ref (100 + q) :: st) h :=
  j_callV (as := [b0, b1, b2, b3, b4]) hX hw hc hd hs hM hn hn2 rfl hf hk hr1 hr2 kk
theorem j_cS5i (hX : aX p s m args c own cc nL D cA A ad0) {y : MethodName} {bytes : ByteArray} {maxL d i : Nat} {ret : Option FieldType} {b0 b1 b2 b3 b4 : Value} {v : Int32} (hw : aLS own i y bytes maxL ret 5) (hd : decode cc pc = .ok (.invokestatic i, 3)) (hM : aM l y bytes maxL ret d [b0, b1, b2, b3, b4] h (some (.int v)) h') (hn : h'.1.length = h.1.length) (hn2 : aSn h'.1 = aSn h.1) (hf : d + 1 ≤ R.frames ∧ 8 + (maxL + 11) + 64 * d ≤ R.locals) (hk : (st.map fun v => v.category).sum ≤ 8) (hr1 : h.1.length ≤ c0 + R.cells) (hr2 : aSn h.1 ≤ s0 + R.slots) (kk : aJ p l e R s m args below meth c Q D cA A ad0 nL c0 s0 (pc + 3) L (.int v :: st) h') : aJ p l e R s m args below meth c Q D cA A ad0 nL c0 s0 pc L (b4 :: b3 :: b2 :: b1 :: b0 :: st) h :=
  j_callS (as := [b0, b1, b2, b3, b4]) hX hw hd hM hn hn2 rfl hf hk hr1 hr2 kk
theorem j_cV5v (hX : aX p s m args c own cc nL D cA A ad0) {y : MethodName} {bytes : ByteArray} {maxL d i q ci N : Nat} {ret : Option FieldType} {T : u_T} {b0 b1 b2 b3 b4 : Value}  (hw : aLV own i y bytes maxL ret 5) (hc : aCl ci y.cls T N) (hd : decode cc pc = .ok (.invokevirtual i, 3)) (hs : h.1[q]? = some (.inr ci)) (hM : aM l y bytes maxL ret d (.ref (100 + q) :: [b0, b1, b2, b3, b4]) h none h') (hn : h'.1.length = h.1.length) (hn2 : aSn h'.1 = aSn h.1) (hf : d + 1 ≤ R.frames ∧ 8 + (maxL + 11) + 64 * d ≤ R.locals) (hk : (st.map fun v => v.category).sum ≤ 8) (hr1 : h.1.length ≤ c0 + R.cells) (hr2 : aSn h.1 ≤ s0 + R.slots) (kk : aJ p l e R s m args below meth c Q D cA A ad0 nL c0 s0 (pc + 3) L st h') : aJ p l e R s m args below meth c Q D cA A ad0 nL c0 s0 pc L (b4 :: b3 :: b2 :: b1 :: b0 :: .ref (100 + q) :: st) h :=
  j_callV (as := [b0, b1, b2, b3, b4]) hX hw hc hd hs hM hn hn2 rfl hf hk hr1 hr2 kk
theorem j_cS5v (hX : aX p s m args c own cc nL D cA A ad0) {y : MethodName} {bytes : ByteArray} {maxL d i : Nat} {ret : Option FieldType} {b0 b1 b2 b3 b4 : Value}  (hw : aLS own i y bytes maxL ret 5) (hd : decode cc pc = .ok (.invokestatic i, 3)) (hM : aM l y bytes maxL ret d [b0, b1, b2, b3, b4] h none h') (hn : h'.1.length = h.1.length) (hn2 : aSn h'.1 = aSn h.1) (hf : d + 1 ≤ R.frames ∧ 8 + (maxL + 11) + 64 * d ≤ R.locals) (hk : (st.map fun v => v.category).sum ≤ 8) (hr1 : h.1.length ≤ c0 + R.cells) (hr2 : aSn h.1 ≤ s0 + R.slots) (kk : aJ p l e R s m args below meth c Q D cA A ad0 nL c0 s0 (pc + 3) L st h') : aJ p l e R s m args below meth c Q D cA A ad0 nL c0 s0 pc L (b4 :: b3 :: b2 :: b1 :: b0 :: st) h :=
  j_callS (as := [b0, b1, b2, b3, b4]) hX hw hd hM hn hn2 rfl hf hk hr1 hr2 kk
theorem j_cT0i (hX : aX p s m args c own cc nL D cA A ad0) {y : MethodName} {bytes : ByteArray} {maxL d i j : Nat} {ret : Option FieldType}  {v : Int32} (hw : aLV own i y bytes maxL ret 0) (hy : y.cls = "java/lang/String") (hj : j < 8) (hd : decode cc pc = .ok (.invokevirtual i, 3)) (hM : aM l y bytes maxL ret d (.ref (10 + j) :: []) h (some (.int v)) h) (hf : d + 1 ≤ R.frames ∧ 8 + (maxL + 11) + 64 * d ≤ R.locals) (hk : (st.map fun v => v.category).sum ≤ 8) (hr1 : h.1.length ≤ c0 + R.cells) (hr2 : aSn h.1 ≤ s0 + R.slots) (kk : aJ p l e R s m args below meth c Q D cA A ad0 nL c0 s0 (pc + 3) L (.int v :: st) h) : aJ p l e R s m args below meth c Q D cA A ad0 nL c0 s0 pc L (.ref (10 + j) :: st) h :=
  j_callVS (as := []) hX hw hy hj hd hM rfl hf hk hr1 hr2 kk
theorem j_cT1i (hX : aX p s m args c own cc nL D cA A ad0) {y : MethodName} {bytes : ByteArray} {maxL d i j : Nat} {ret : Option FieldType} {b0 : Value} {v : Int32} (hw : aLV own i y bytes maxL ret 1) (hy : y.cls = "java/lang/String") (hj : j < 8) (hd : decode cc pc = .ok (.invokevirtual i, 3)) (hM : aM l y bytes maxL ret d (.ref (10 + j) :: [b0]) h (some (.int v)) h) (hf : d + 1 ≤ R.frames ∧ 8 + (maxL + 11) + 64 * d ≤ R.locals) (hk : (st.map fun v => v.category).sum ≤ 8) (hr1 : h.1.length ≤ c0 + R.cells) (hr2 : aSn h.1 ≤ s0 + R.slots) (kk : aJ p l e R s m args below meth c Q D cA A ad0 nL c0 s0 (pc + 3) L (.int v :: st) h) : aJ p l e R s m args below meth c Q D cA A ad0 nL c0 s0 pc L (b0 :: .ref (10 + j) :: st) h :=
  j_callVS (as := [b0]) hX hw hy hj hd hM rfl hf hk hr1 hr2 kk
end AQ
