/-! the rows of the law's walk, with x9 cells and y9 slots that no place stands for: thrown objects -/
def aK (x9 y9 : Nat) (p : Program) (l : Launch) (e : Env) (R : Room) (s : State) (m : MethodId) (args : Array Value) (below : List Frame) (meth : Method) (c : Code) (Q : State → Prop) (D : va_G) (cA : FieldType → ClassId) (A : Nat → Prop) (ad0 : Nat → Nat) (nL c0 s0 : Nat) (pc : Nat) (L : List (Option Value)) (st : List Value) (h : aHp) : Prop :=
  ∀ (adr : Nat → Nat) (H : Heap) (ls : Array Slot) (locs : List Loc) (cells slots : Nat), aR s D cA A ad0 nL c0 s0 L h adr H ls locs cells slots → W p l e R s m args below meth c H locs (cells + x9) (slots + y9) Q (F0 m pc ls (st.map (aV adr)))
section AK
variable {p : Program} {l : Launch} {e : Env} {R : Room} {s : State} {m : MethodId} {args : Array Value} {below : List Frame} {meth : Method} {c : Code} {Q : State → Prop} {D : va_G} {cA : FieldType → ClassId} {A : Nat → Prop} {ad0 : Nat → Nat} {nL c0 s0 x9 y9 : Nat}
variable {own : String} {cc : ByteArray} {pc : Nat} {L : List (Option Value)} {st : List Value} {h h' : aHp}
theorem k_of (h1 : aJ p l e R s m args below meth c Q D cA A ad0 nL c0 s0 pc L st h) : aK 0 0 p l e R s m args below meth c Q D cA A ad0 nL c0 s0 pc L st h := h1
theorem k_to (h1 : aK 0 0 p l e R s m args below meth c Q D cA A ad0 nL c0 s0 pc L st h) : aJ p l e R s m args below meth c Q D cA A ad0 nL c0 s0 pc L st h := h1
theorem kpc {a b : Nat} (e1 : a = b) (kk : aK x9 y9 p l e R s m args below meth c Q D cA A ad0 nL c0 s0 b L st h) : aK x9 y9 p l e R s m args below meth c Q D cA A ad0 nL c0 s0 a L st h := by
  rw [e1]
  exact kk
theorem k_iconst (hX : aX p s m args c own cc nL D cA A ad0) {n : Int} {v : Int32} (hd : decode cc pc = .ok (.iconst n, 1)) (hv : Int32.ofInt n = v) (k : aK x9 y9 p l e R s m args below meth c Q D cA A ad0 nL c0 s0 (pc + 1) L (.int v :: st) h) : aK x9 y9 p l e R s m args below meth c Q D cA A ad0 nL c0 s0 pc L st h :=
  fun adr H ls locs cells slots hR => lv_iconst hX.1 hX.2.1 hd hv (k adr H ls locs cells slots hR)
theorem k_bipush (hX : aX p s m args c own cc nL D cA A ad0) {n : Int} {v : Int32} (hd : decode cc pc = .ok (.bipush n, 2)) (hv : (Int8.ofInt n).toInt32 = v) (k : aK x9 y9 p l e R s m args below meth c Q D cA A ad0 nL c0 s0 (pc + 2) L (.int v :: st) h) : aK x9 y9 p l e R s m args below meth c Q D cA A ad0 nL c0 s0 pc L st h :=
  fun adr H ls locs cells slots hR => lv_bipush hX.1 hX.2.1 hd hv (k adr H ls locs cells slots hR)
theorem k_iadd (hX : aX p s m args c own cc nL D cA A ad0) {x y : Int32} (hd : decode cc pc = .ok (.iadd, 1)) (k : aK x9 y9 p l e R s m args below meth c Q D cA A ad0 nL c0 s0 (pc + 1) L (.int (x + y) :: st) h) : aK x9 y9 p l e R s m args below meth c Q D cA A ad0 nL c0 s0 pc L (.int y :: .int x :: st) h :=
  fun adr H ls locs cells slots hR => lv_iadd hX.1 hX.2.1 hd  (k adr H ls locs cells slots hR)
theorem k_isub (hX : aX p s m args c own cc nL D cA A ad0) {x y : Int32} (hd : decode cc pc = .ok (.isub, 1)) (k : aK x9 y9 p l e R s m args below meth c Q D cA A ad0 nL c0 s0 (pc + 1) L (.int (x - y) :: st) h) : aK x9 y9 p l e R s m args below meth c Q D cA A ad0 nL c0 s0 pc L (.int y :: .int x :: st) h :=
  fun adr H ls locs cells slots hR => lv_isub hX.1 hX.2.1 hd  (k adr H ls locs cells slots hR)
theorem k_iand (hX : aX p s m args c own cc nL D cA A ad0) {x y : Int32} (hd : decode cc pc = .ok (.iand, 1)) (k : aK x9 y9 p l e R s m args below meth c Q D cA A ad0 nL c0 s0 (pc + 1) L (.int (x &&& y) :: st) h) : aK x9 y9 p l e R s m args below meth c Q D cA A ad0 nL c0 s0 pc L (.int y :: .int x :: st) h :=
  fun adr H ls locs cells slots hR => lv_iand hX.1 hX.2.1 hd  (k adr H ls locs cells slots hR)
theorem k_iload (hX : aX p s m args c own cc nL D cA A ad0) {i : Nat} {x : Int32} (hd : decode cc pc = .ok (.iload i, 2)) (hl : L[i]? = some (some (.int x))) (k : aK x9 y9 p l e R s m args below meth c Q D cA A ad0 nL c0 s0 (pc + 2) L (.int x :: st) h) : aK x9 y9 p l e R s m args below meth c Q D cA A ad0 nL c0 s0 pc L st h :=
  fun adr H ls locs cells slots hR => lv_iload hX.1 hX.2.1 hd (aLs_get hR.2.2.2.2.1 hl) (k adr H ls locs cells slots hR)
theorem k_aload_n (hX : aX p s m args c own cc nL D cA A ad0) {i : Fin 4} {x : Nat} (hd : decode cc pc = .ok (.aload_n i, 1)) (hl : L[(i : Nat)]? = some (some (.ref x))) (k : aK x9 y9 p l e R s m args below meth c Q D cA A ad0 nL c0 s0 (pc + 1) L ((.ref x) :: st) h) : aK x9 y9 p l e R s m args below meth c Q D cA A ad0 nL c0 s0 pc L st h :=
  fun adr H ls locs cells slots hR => lv_aload_n hX.1 hX.2.1 hd rfl (aLs_get hR.2.2.2.2.1 hl) (k adr H ls locs cells slots hR)
theorem k_i2l (hX : aX p s m args c own cc nL D cA A ad0) {x : Int32} (hd : decode cc pc = .ok (.i2l, 1)) (k : aK x9 y9 p l e R s m args below meth c Q D cA A ad0 nL c0 s0 (pc + 1) L (.long x.toInt64 :: st) h) : aK x9 y9 p l e R s m args below meth c Q D cA A ad0 nL c0 s0 pc L (.int x :: st) h :=
  fun adr H ls locs cells slots hR => lv_i2l hX.1 hX.2.1 hd rfl (k adr H ls locs cells slots hR)
theorem k_land (hX : aX p s m args c own cc nL D cA A ad0) {x y : Int64} (hd : decode cc pc = .ok (.land, 1)) (k : aK x9 y9 p l e R s m args below meth c Q D cA A ad0 nL c0 s0 (pc + 1) L (.long (x &&& y) :: st) h) : aK x9 y9 p l e R s m args below meth c Q D cA A ad0 nL c0 s0 pc L (.long y :: .long x :: st) h :=
  fun adr H ls locs cells slots hR => lv_land hX.1 hX.2.1 hd  (k adr H ls locs cells slots hR)
theorem k_lor (hX : aX p s m args c own cc nL D cA A ad0) {x y : Int64} (hd : decode cc pc = .ok (.lor, 1)) (k : aK x9 y9 p l e R s m args below meth c Q D cA A ad0 nL c0 s0 (pc + 1) L (.long (x ||| y) :: st) h) : aK x9 y9 p l e R s m args below meth c Q D cA A ad0 nL c0 s0 pc L (.long y :: .long x :: st) h :=
  fun adr H ls locs cells slots hR => lv_lor hX.1 hX.2.1 hd  (k adr H ls locs cells slots hR)
theorem k_lshl (hX : aX p s m args c own cc nL D cA A ad0) {x : Int64} {y : Int32} (hd : decode cc pc = .ok (.lshl, 1)) (k : aK x9 y9 p l e R s m args below meth c Q D cA A ad0 nL c0 s0 (pc + 1) L (.long (x <<< (y.toInt64 &&& 63)) :: st) h) : aK x9 y9 p l e R s m args below meth c Q D cA A ad0 nL c0 s0 pc L (.int y :: .long x :: st) h :=
  fun adr H ls locs cells slots hR => lv_lshl hX.1 hX.2.1 hd rfl (k adr H ls locs cells slots hR)
theorem k_ldc2_w (hX : aX p s m args c own cc nL D cA A ad0) {i : Nat} {v : Int64} (hw : Cond.constantLong own i v ∈ gtbl) (hd : decode cc pc = .ok (.ldc2_w i, 3)) (k : aK x9 y9 p l e R s m args below meth c Q D cA A ad0 nL c0 s0 (pc + 3) L (.long v :: st) h) : aK x9 y9 p l e R s m args below meth c Q D cA A ad0 nL c0 s0 pc L st h :=
  fun adr H ls locs cells slots hR => lv_ldc2 hX.1 hX.2.1 hX.2.2.2.1 (hX.2.2.2.2.1 _ hw) hd (k adr H ls locs cells slots hR)
theorem k_if_eq (hX : aX p s m args c own cc nL D cA A ad0) {x : Int32} {off : Int} {tgt : Nat} (hd : decode cc pc = .ok (.ifCond .eq off, 3)) (ht : (pc : Int) + off = (tgt : Int)) (kt : x = 0 → aK x9 y9 p l e R s m args below meth c Q D cA A ad0 nL c0 s0 tgt L st h) (kf : ¬ (x = 0) → aK x9 y9 p l e R s m args below meth c Q D cA A ad0 nL c0 s0 (pc + 3) L st h) : aK x9 y9 p l e R s m args below meth c Q D cA A ad0 nL c0 s0 pc L (.int x :: st) h :=
  fun adr H ls locs cells slots hR => lv_if_eq hX.1 hX.2.1 hd ht (fun z => kt z adr H ls locs cells slots hR) (fun z => kf z adr H ls locs cells slots hR)
theorem k_if_ne (hX : aX p s m args c own cc nL D cA A ad0) {x : Int32} {off : Int} {tgt : Nat} (hd : decode cc pc = .ok (.ifCond .ne off, 3)) (ht : (pc : Int) + off = (tgt : Int)) (kt : ¬ x = 0 → aK x9 y9 p l e R s m args below meth c Q D cA A ad0 nL c0 s0 tgt L st h) (kf : x = 0 → aK x9 y9 p l e R s m args below meth c Q D cA A ad0 nL c0 s0 (pc + 3) L st h) : aK x9 y9 p l e R s m args below meth c Q D cA A ad0 nL c0 s0 pc L (.int x :: st) h :=
  fun adr H ls locs cells slots hR => lv_if_ne hX.1 hX.2.1 hd ht (fun z => kt z adr H ls locs cells slots hR) (fun z => kf z adr H ls locs cells slots hR)
theorem k_icmp_eq (hX : aX p s m args c own cc nL D cA A ad0) {x y : Int32} {off : Int} {tgt : Nat} (hd : decode cc pc = .ok (.if_icmp .eq off, 3)) (ht : (pc : Int) + off = (tgt : Int)) (kt : x = y → aK x9 y9 p l e R s m args below meth c Q D cA A ad0 nL c0 s0 tgt L st h) (kf : ¬ (x = y) → aK x9 y9 p l e R s m args below meth c Q D cA A ad0 nL c0 s0 (pc + 3) L st h) : aK x9 y9 p l e R s m args below meth c Q D cA A ad0 nL c0 s0 pc L (.int y :: .int x :: st) h :=
  fun adr H ls locs cells slots hR => lv_icmp_eq hX.1 hX.2.1 hd ht (fun z => kt z adr H ls locs cells slots hR) (fun z => kf z adr H ls locs cells slots hR)
theorem k_icmp_gt (hX : aX p s m args c own cc nL D cA A ad0) {x y : Int32} {off : Int} {tgt : Nat} (hd : decode cc pc = .ok (.if_icmp .gt off, 3)) (ht : (pc : Int) + off = (tgt : Int)) (kt : y < x → aK x9 y9 p l e R s m args below meth c Q D cA A ad0 nL c0 s0 tgt L st h) (kf : ¬ (y < x) → aK x9 y9 p l e R s m args below meth c Q D cA A ad0 nL c0 s0 (pc + 3) L st h) : aK x9 y9 p l e R s m args below meth c Q D cA A ad0 nL c0 s0 pc L (.int y :: .int x :: st) h :=
  fun adr H ls locs cells slots hR => lv_icmp_gt hX.1 hX.2.1 hd ht (fun z => kt z adr H ls locs cells slots hR) (fun z => kf z adr H ls locs cells slots hR)
theorem k_goto (hX : aX p s m args c own cc nL D cA A ad0) {off : Int} {tgt : Nat} (hd : decode cc pc = .ok (.goto off, 3)) (ht : (pc : Int) + off = (tgt : Int)) (k : aK x9 y9 p l e R s m args below meth c Q D cA A ad0 nL c0 s0 tgt L st h) : aK x9 y9 p l e R s m args below meth c Q D cA A ad0 nL c0 s0 pc L st h :=
  fun adr H ls locs cells slots hR => lv_goto hX.1 hX.2.1 hd ht (k adr H ls locs cells slots hR)
theorem k_tabIn (hX : aX p s m args c own cc nL D cA A ad0) {dflt lo hi : Int} {offs : Array Int} {len : Nat} {x : Int32} {off : Int} {tgt : Nat} (hd : decode cc pc = .ok (.tableswitch dflt lo hi offs, len)) (h1 : ¬ x.toInt < lo) (h2 : ¬ hi < x.toInt) (ho : offs[(x.toInt - lo).toNat]? = some off) (ht : (pc : Int) + off = (tgt : Int)) (k : aK x9 y9 p l e R s m args below meth c Q D cA A ad0 nL c0 s0 tgt L st h) : aK x9 y9 p l e R s m args below meth c Q D cA A ad0 nL c0 s0 pc L (.int x :: st) h :=
  fun adr H ls locs cells slots hR => lv_tableIn hX.1 hX.2.1 hd h1 h2 ho ht (k adr H ls locs cells slots hR)
theorem k_tabOut (hX : aX p s m args c own cc nL D cA A ad0) {dflt lo hi : Int} {offs : Array Int} {len : Nat} {x : Int32} {tgt : Nat} (hd : decode cc pc = .ok (.tableswitch dflt lo hi offs, len)) (h1 : x.toInt < lo ∨ hi < x.toInt) (ht : (pc : Int) + dflt = (tgt : Int)) (k : aK x9 y9 p l e R s m args below meth c Q D cA A ad0 nL c0 s0 tgt L st h) : aK x9 y9 p l e R s m args below meth c Q D cA A ad0 nL c0 s0 pc L (.int x :: st) h :=
  fun adr H ls locs cells slots hR => lv_tableOut hX.1 hX.2.1 hd h1 ht (k adr H ls locs cells slots hR)
theorem k_iinc (hX : aX p s m args c own cc nL D cA A ad0) {i : Nat} {n : Int} {x v : Int32} (hd : decode cc pc = .ok (.iinc i n, 3)) (hl : L[i]? = some (some (.int x))) (hv : x + Int32.ofInt n = v) (hi : i < nL) (hn : aNo2 L i = true) (k : aK x9 y9 p l e R s m args below meth c Q D cA A ad0 nL c0 s0 (pc + 3) (L.set i (some (.int v))) st h) : aK x9 y9 p l e R s m args below meth c Q D cA A ad0 nL c0 s0 pc L st h :=
  fun adr H ls locs cells slots hR => (aLs_find (adr := adr) hl).elim fun q hq => lv_iinc hX.1 hX.2.1 hd hR.2.2.2.2.1 hq hv hi rfl (fun ls1 h1 => k adr H ls1 locs cells slots ⟨hR.1, hR.2.1, hR.2.2.1, hR.2.2.2.1, aLs_st1 i (.int v) hn h1, (by simpa using hR.2.2.2.2.2.1), hR.2.2.2.2.2.2⟩)
theorem k_istore (hX : aX p s m args c own cc nL D cA A ad0) {i : Nat} {x : Int32} (hd : decode cc pc = .ok (.istore i, 2)) (hi : i < nL) (hn : aNo2 L i = true) (k : aK x9 y9 p l e R s m args below meth c Q D cA A ad0 nL c0 s0 (pc + 2) (L.set i (some (.int x))) st h) : aK x9 y9 p l e R s m args below meth c Q D cA A ad0 nL c0 s0 pc L ((.int x) :: st) h :=
  fun adr H ls locs cells slots hR => lv_istore hX.1 hX.2.1 hd hR.2.2.2.2.1 hi rfl (fun ls1 h1 => k adr H ls1 locs cells slots ⟨hR.1, hR.2.1, hR.2.2.1, hR.2.2.2.1, aLs_st1 i (.int x) hn h1, (by simpa using hR.2.2.2.2.2.1), hR.2.2.2.2.2.2⟩)
theorem k_astore_n (hX : aX p s m args c own cc nL D cA A ad0) {i : Fin 4} {x : Nat} (hd : decode cc pc = .ok (.astore_n i, 1)) (hi : (i : Nat) < nL) (hn : aNo2 L (i : Nat) = true) (k : aK x9 y9 p l e R s m args below meth c Q D cA A ad0 nL c0 s0 (pc + 1) (L.set (i : Nat) (some (.ref x))) st h) : aK x9 y9 p l e R s m args below meth c Q D cA A ad0 nL c0 s0 pc L ((.ref x) :: st) h :=
  fun adr H ls locs cells slots hR => lv_astore_n hX.1 hX.2.1 hd rfl hR.2.2.2.2.1 hi rfl (fun ls1 h1 => k adr H ls1 locs cells slots ⟨hR.1, hR.2.1, hR.2.2.1, hR.2.2.2.1, aLs_st1 (i : Nat) (.ref x) hn h1, (by simpa using hR.2.2.2.2.2.1), hR.2.2.2.2.2.2⟩)
theorem k_lcmp (hX : aX p s m args c own cc nL D cA A ad0) {x y : Int64} (hd : decode cc pc = .ok (.lcmp, 1)) (k : aK x9 y9 p l e R s m args below meth c Q D cA A ad0 nL c0 s0 (pc + 1) L (.int (lg_cmp x y) :: st) h) : aK x9 y9 p l e R s m args below meth c Q D cA A ad0 nL c0 s0 pc L (.long y :: .long x :: st) h :=
  fun adr H ls locs cells slots hR => W.lcmp hX.1 hX.2.1 hd  (k adr H ls locs cells slots hR)
theorem kRm {cells slots : Nat} {adr : Nat → Nat} {H : Heap} {ls : Array Slot} {locs : List Loc} (hR : aR s D cA A ad0 nL c0 s0 L h adr H ls locs cells slots) (hm1 : h.1.length ≤ h'.1.length) (hm2 : aSn h.1 ≤ aSn h'.1) (hr1 : h'.1.length + x9 ≤ c0 + R.cells) (hr2 : aSn h'.1 + y9 ≤ s0 + R.slots) : cells + x9 + (h'.1.length - h.1.length) ≤ R.cells ∧ slots + y9 + (aSn h'.1 - aSn h.1) ≤ R.slots := by
  have h1 := hR.2.2.2.2.2.2.1
  have h2 := hR.2.2.2.2.2.2.2.1
  constructor <;> omega
theorem k_runV {adr : Nat → Nat} {H : Heap} {ls : Array Slot} {locs : List Loc} {cells slots : Nat} {y : MethodName} {bytes : ByteArray} {maxL n d i q ci N : Nat} {ret : Option FieldType} {as : List Value} {r : Option Value} {T : u_T} (hX : aX p s m args c own cc nL D cA A ad0) (hR : aR s D cA A ad0 nL c0 s0 L h adr H ls locs cells slots)
    (hw : aLV own i y bytes maxL ret n) (hM : aM l y bytes maxL ret d (.ref (100 + q) :: as) h r h') (hs : h.1[q]? = some (.inr ci)) (hc : aCl ci y.cls T N) (ha : as.length = n) (hf : d + 1 ≤ R.frames ∧ 8 + (maxL + 11) + 64 * d ≤ R.locals) (hk : (st.map fun v => v.category).sum ≤ 8) (hr1 : h'.1.length + x9 ≤ c0 + R.cells) (hr2 : aSn h'.1 + y9 ≤ s0 + R.slots) (hd : decode cc pc = .ok (.invokevirtual i, 3)) :
    va_Run p l e R s m args below meth c H locs (cells + x9) (slots + y9) (h'.1.length - h.1.length) (aSn h'.1 - aSn h.1) (F0 m pc ls ((as.reverse ++ .ref (100 + q) :: st).map (aV adr))) (st.map (aV adr)) (aPost D cA adr (va_A (aW cA adr h) H.size) h r h' (Value.ref (adr (100 + q)) :: as.map (aV adr)).toArray) (va_A (aW cA adr h) H.size) := by
  rw [aStk]
  refine va_runV (As := as.map (aV adr)) (rest := st.map (aV adr)) (C := y.cls) ⟨hX.1, hX.2.1, hX.2.2.1, hX.2.2.2.1, hX.2.2.2.2.1⟩ (hM.2.2 D cA adr H.size) (cwV n hX.2.2.2.2.1 (gIn hw.2.2.2.2.1 [.methodLink own i y, .instanceMethod y, .selects y.cls y y, .initialized y.cls] ?_) rfl rfl rfl ⟨rfl, hw.2.2.2.2.2⟩ hf) ⟨aPre_blind, va_recv hX.2.2.2.2.2.1 hR.1 hc.1 (aW_at hs), fun U hU hW => j_pre hX hR (.ref (100 + q) :: as) U hU hW⟩ rfl (by simpa using ha) hR.2.2.2.2.1.1 rfl (lv_room (by rw [aV_sum]; exact hk)) hd (kRm hR hM.1 hM.2.1 hr1 hr2)
  intro w hw1
  simp only [List.mem_cons, List.not_mem_nil, or_false] at hw1
  rcases hw1 with rfl | rfl | rfl | rfl
  · exact hw.1
  · exact hw.2.1
  · exact hw.2.2.1
  · exact hw.2.2.2.1
theorem k_afterN {adr : Nat → Nat} {H : Heap} {ls : Array Slot} {locs : List Loc} {cells slots : Nat} {r : Option Value} {ar : Array Value} {st0 : List Value} (hX : aX p s m args c own cc nL D cA A ad0) (hR : aR s D cA A ad0 nL c0 s0 L h adr H ls locs cells slots) (hm1 : h.1.length ≤ h'.1.length) (hm2 : aSn h.1 ≤ aSn h'.1)
    (hoS : st.all (aBel (100 + h.1.length)) = true) (hoL : (L.all (fun o => match o with | some v => aBel (100 + h.1.length) v | none => true)) = true)
    (hr : va_Run p l e R s m args below meth c H locs (cells + x9) (slots + y9) (h'.1.length - h.1.length) (aSn h'.1 - aSn h.1) (F0 m pc ls st0) (st.map (aV adr)) (aPost D cA adr (va_A (aW cA adr h) H.size) h r h' ar) (va_A (aW cA adr h) H.size))
    (kk : aK x9 y9 p l e R s m args below meth c Q D cA A ad0 nL c0 s0 (pc + 3) L (r.toList ++ st) h') : W p l e R s m args below meth c H locs (cells + x9) (slots + y9) Q (F0 m pc ls st0) := by
  intro T hT X
  obtain ⟨v, st₀, t, T', L', h0, X', hL, e1, e2, ⟨⟨ad1, hv, hag, heq, hP1, hD1, hW1⟩, hz, hk⟩, stp⟩ := hr T hT X
  cases hv
  have hsub := j_sub hX hR
  have hc1 := hR.2.2.2.2.2.2.1
  have hc2 := hR.2.2.2.2.2.2.2.1
  rw [h0] at hz hk
  rw [Nat.add_right_comm cells x9, Nat.add_right_comm slots y9] at X'
  obtain ⟨t2, a1, b1⟩ := kk ad1 T'.heap ls (locs ++ L') _ _ ⟨by rw [e1]; exact hP1, hD1.weaken (fun k q _ hq => hsub _ hq), ⟨Nat.le_trans hR.2.2.1.1 (by rw [e1]; exact hz), fun q h1 h2 => by rw [e1, hk q (Nat.lt_of_lt_of_le h1 hR.2.2.1.1) (fun z => h2 (hsub q z))]; exact hR.2.2.1.2.1 q h1 h2, fun q hq => by
      rcases List.mem_append.mp hq with h | h
      · exact hR.2.2.1.2.2 q h
      · exact hsub _ (hL q h)⟩, hW1, by rw [aLs_bel hag L 0 hoL]; exact hR.2.2.2.2.1, hR.2.2.2.2.2.1, by omega, by omega, fun k hk => (hag k (by omega)).trans (hR.2.2.2.2.2.2.2.2.1 k hk), fun e => (heq (by omega)).trans (hR.2.2.2.2.2.2.2.2.2 (by omega))⟩ T' rfl X'
  refine ⟨t2, stp t2 ?_, b1⟩
  have : (Option.map (aV ad1) r).toList ++ st.map (aV adr) = (r.toList ++ st).map (aV ad1) := by
    have e3 : st.map (aV adr) = st.map (aV ad1) := List.map_congr_left (fun v hv => (aV_bel hag (List.all_eq_true.mp hoS v hv)).symm)
    rw [e3]
    cases r <;> simp
  rw [this]
  exact a1
theorem k_callVN (hX : aX p s m args c own cc nL D cA A ad0) {y : MethodName} {bytes : ByteArray} {maxL n d i q ci N : Nat} {ret : Option FieldType} {as : List Value} {r : Option Value} {T : u_T} (hw : aLV own i y bytes maxL ret n) (hc : aCl ci y.cls T N) (hd : decode cc pc = .ok (.invokevirtual i, 3)) (hs : h.1[q]? = some (.inr ci)) (hM : aM l y bytes maxL ret d (.ref (100 + q) :: as) h r h') (ha : as.length = n) (hf : d + 1 ≤ R.frames ∧ 8 + (maxL + 11) + 64 * d ≤ R.locals) (hk : (st.map fun v => v.category).sum ≤ 8) (hr1 : h'.1.length + x9 ≤ c0 + R.cells) (hr2 : aSn h'.1 + y9 ≤ s0 + R.slots)
    (hoS : st.all (aBel (100 + h.1.length)) = true) (hoL : (L.all (fun o => match o with | some v => aBel (100 + h.1.length) v | none => true)) = true)
    (kk : aK x9 y9 p l e R s m args below meth c Q D cA A ad0 nL c0 s0 (pc + 3) L (r.toList ++ st) h') : aK x9 y9 p l e R s m args below meth c Q D cA A ad0 nL c0 s0 pc L (as.reverse ++ .ref (100 + q) :: st) h :=
  fun adr H ls locs cells slots hR => k_afterN hX hR hM.1 hM.2.1 hoS hoL (k_runV hX hR hw hM hs hc ha hf hk hr1 hr2 hd) kk
end AK
