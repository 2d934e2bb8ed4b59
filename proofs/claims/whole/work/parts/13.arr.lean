/-! rows of arrays, of constant tables and strings, and of System.arraycopy -/
section CPT
variable {p : Program} {l : Launch} {e : Env} {R : Room} {s : State} {m : MethodId} {args : Array Value} {below : List Frame} {meth : Method} {c : Code} {H : Heap} {locs : List Loc} {cells slots : Nat} {Q : State → Prop}
variable {cc : ByteArray} {pc : Nat} {ls : Array Slot} {rest : List Value} {D : va_G} {cl : List vw_C} {A : Nat → Prop} {a : Nat} {tys : List (ClassId × FieldType)} {ws : va_W}
/-- System.arraycopy out of a static int array that nobody writes (as vk_copyt, which has bytes) -/
theorem k_copyt (hexec : p.tables.exec = Jvm.exec) (hb : c.code = cc) (hml : c.maxLocals = ls.size) {own : String} {index : Nat} (hown : s.vm.findClass own = some m.cls) (hlink : (Cond.methodLink own index arraycopyName).before args s = true) (hnat : (Cond.native arraycopyName).before args s = true) (hstat : (Cond.static arraycopyName).before args s = true) (hini : (Cond.initialized "java/lang/System").before args s = true)
    (hK : va_K D cl tys s) (hP : va_P D cl ws H) (hD : va_D A ws) (hS : va_S A s.heap H locs) {b0 n0 : Nat} {f : Nat → Int32} (hX : va_T .int b0 n0 (fun j => .int (f j)) A s s.heap) (q1 t1 : Nat) {c1 : ClassId} {n1 : Nat} {g : Nat → Int32} (ha1 : ws[q1]? = some (a, .inl (c1, n1, .inl g))) (ht1 : tys[t1]? = some (c1, .int))
    {sp dp n : Int32} (h1 : ¬ sp < 0) (h2 : ¬ dp < 0) (h3 : ¬ n < 0) (h4 : sp.toNatClampNeg + n.toNatClampNeg ≤ n0) (h5 : dp.toNatClampNeg + n.toNatClampNeg ≤ n1)
    (hframes : 1 ≤ R.frames) (hlocals : (rest.map fun v => v.category).sum + (nativeFrameWords "java/lang/System" "arraycopy" 5 + 11) ≤ R.locals) (hdg : decode cc pc = .ok (.invokestatic index, 3))
    (kk : ∀ (H1 : Heap) (locs1 : List Loc), va_P D cl (ws.set q1 (a, .inl (c1, n1, .inl (va_cpy f g sp.toNatClampNeg dp.toNatClampNeg n.toNatClampNeg)))) H1 → va_D A (ws.set q1 (a, .inl (c1, n1, .inl (va_cpy f g sp.toNatClampNeg dp.toNatClampNeg n.toNatClampNeg)))) → va_S A s.heap H1 locs1 → W p l e R s m args below meth c H1 locs1 cells slots Q (F0 m (pc + 3) ls rest)) : W p l e R s m args below meth c H locs cells slots Q (F0 m pc ls (.int n :: .int dp :: .ref a :: .int sp :: .ref b0 :: rest)) := by
  have nn : ∀ z : Int32, ¬ z < 0 → z.toInt = (z.toNatClampNeg : Int) := by
    intro z hz
    have hz0 : (0 : Int) ≤ z.toInt := by
      have := Int32.not_lt.mp hz
      simpa using Int32.le_iff_toInt_le.mp this
    show z.toInt = ((z.toInt.toNat : Nat) : Int)
    omega
  intro T hT X
  obtain ⟨scr, hs1, hs2, hs3, hs4, -, hs5, hs7⟩ := hX
  have hc0 : H[b0]? = some scr := by rw [hS.2.1 b0 (Array.getElem?_eq_some_iff.mp hs1).1 hs7]; exact hs1
  have hc1 : H[a]? = some (vp_cell c1 (n1, .inl g)) := hP q1 _ ha1
  obtain ⟨hs6, k0, hk0, cm0, hkk0⟩ := hs2
  obtain ⟨-, k1, hk1, cm1, hkk1⟩ := (hK.2 t1 _ ht1).1 n1 (fun j => .int (g j))
  obtain ⟨vm', X', step⟩ := X.arraycopy hexec hown hlink hnat hstat hini (src := b0) (dst := a) (cs := scr) (cd := vp_cell c1 (n1, .inl g)) (srcPos := sp) (destPos := dp) (n := n) (by rw [hT]; exact hc0) (by rw [hT]; exact hc1)
    hs6 (fun _ h => by cases h) hs3 (fun h => by cases h) hk0 hk1 hkk0 hkk1 (by simp [refKind]) h1 h2 h3
    (by rw [nn sp h1, nn n h3]; omega)
    (by rw [nn dp h2, nn n h3]; show ¬ _ > ((arrV c1 n1 (fun j => .int (g j))).slots.size : Int); rw [arrV_size]; omega)
    (fun vm₁ _ i hi => by
      have e : scr.slots.getD (sp.toNatClampNeg + i) .null = .int (f (sp.toNatClampNeg + i)) := by
        rw [Array.getD_eq_getD_getElem?, hs5 _ (by omega)]
        rfl
      refine ⟨?_, ?_⟩
      · rw [e]
        rfl
      · rw [e]
        exact trivial)
    (g := F0 m pc ls (.int n :: .int dp :: .ref a :: .int sp :: .ref b0 :: rest)) rfl (by rw [hml]) (rest := rest) rfl (by rw [hb]; exact hdg) hframes (by show 2 * 0 + _ + _ ≤ _; omega)
  have e1 : copied scr (vp_cell c1 (n1, .inl g)) sp dp n = vp_cell c1 (n1, .inl (va_cpy f g sp.toNatClampNeg dp.toNatClampNeg n.toNatClampNeg)) := va_copiedX (fun z => .int z) scr c1 f g hs5 h4
  rw [e1] at X' step
  have hl : a < H.size := (Array.getElem?_eq_some_iff.mp hc1).1
  have hheap : ((T.setVm vm').setCell a (vp_cell c1 (n1, .inl (va_cpy f g sp.toNatClampNeg dp.toNatClampNeg n.toNatClampNeg)))).heap = H.setIfInBounds a (vp_cell c1 (n1, .inl (va_cpy f g sp.toNatClampNeg dp.toNatClampNeg n.toNatClampNeg))) := by rw [← hT]; rfl
  have oq : ∀ q : Nat, q ≠ a → (H.setIfInBounds a (vp_cell c1 (n1, .inl (va_cpy f g sp.toNatClampNeg dp.toNatClampNeg n.toNatClampNeg))))[q]? = H[q]? := fun q hq => by simp [Array.getElem?_setIfInBounds, Ne.symm hq]
  obtain ⟨t, a1, b1⟩ := kk _ _ (hP.set hD ha1 (show (H.setIfInBounds a _)[a]? = some _ by simp [Array.getElem?_setIfInBounds, hl]) oq) (hD.set ha1) ⟨by simp; exact hS.1, fun q g1 g2 => by
      rw [oq q (fun e => g2 (by rw [e]; exact hD.2 q1 _ ha1))]
      exact hS.2.1 q g1 g2, fun q hq => by
      rcases List.mem_append.mp hq with h | h
      · exact hS.2.2 q h
      · obtain ⟨z, -, hz⟩ := List.mem_map.mp h
        rw [← hz]
        exact hD.2 q1 _ ha1⟩ _ hheap X'
  exact ⟨t, step t a1, b1⟩
end CPT
/-- a part of one row copied into a row -/
def cp2 (iv : Nat → Nat → Int32) (f : Nat → Int32) (sp q dp n : Nat) : Nat → Nat → Int32 := fun z => if z = q then va_cpy f (iv q) sp dp n else iv z
theorem cp2_row (iv : Nat → Nat → Int32) (f : Nat → Int32) {sp q dp n z : Nat} (h : z ≠ q) : cp2 iv f sp q dp n z = iv z := by simp [cp2, h]
theorem cp2_at (iv : Nat → Nat → Int32) (f : Nat → Int32) (sp q dp n : Nat) : cp2 iv f sp q dp n q = va_cpy f (iv q) sp dp n := by simp [cp2]
theorem u2_updL (f : Nat → Nat → Int64) (p k : Nat) (v : Int64) : u2 f p k v p = vp_updL (f p) k v := by
  funext j
  simp [u2, vp_updL]
section AA
variable {p : Program} {l : Launch} {e : Env} {R : Room} {s : State} {m : MethodId} {args : Array Value} {below : List Frame} {meth : Method} {c : Code} {Q : State → Prop} {D : va_G} {cA : FieldType → ClassId} {A : Nat → Prop} {ad0 : Nat → Nat} {nL c0 s0 : Nat}
variable {own : String} {cc : ByteArray} {pc : Nat} {L : List (Option Value)} {st : List Value} {sh : List aSh} {iv : Nat → Nat → Int32} {lo : Nat → Nat → Int64} {rv : Nat → Nat → Option Nat}
theorem j_iald (hX : aX p s m args c own cc nL D cA A ad0) {q n : Nat} {x : Int32} (hs : sh[q]? = some (.inl (.int, n))) (hin : aIn x n = true) (hd : decode cc pc = .ok (.iaload, 1)) (kk : aJ p l e R s m args below meth c Q D cA A ad0 nL c0 s0 (pc + 1) L (.int (iv q x.toNatClampNeg) :: st) (sh, iv, lo, rv)) : aJ p l e R s m args below meth c Q D cA A ad0 nL c0 s0 pc L (.int x :: .ref (100 + q) :: st) (sh, iv, lo, rv) :=
  fun adr H ls locs cells slots hR => va_iald hX.1 hX.2.1 hX.2.2.2.2.2.1 hR.1 q 0 (aW_at (h := (sh, iv, lo, rv)) hs) rfl (aIn_vp hin) hd (kk adr H ls locs cells slots hR)
theorem j_bald (hX : aX p s m args c own cc nL D cA A ad0) {q n : Nat} {x : Int32} (hs : sh[q]? = some (.inl (.byte, n))) (hin : aIn x n = true) (hd : decode cc pc = .ok (.baload, 1)) (kk : aJ p l e R s m args below meth c Q D cA A ad0 nL c0 s0 (pc + 1) L (.int (iv q x.toNatClampNeg) :: st) (sh, iv, lo, rv)) : aJ p l e R s m args below meth c Q D cA A ad0 nL c0 s0 pc L (.int x :: .ref (100 + q) :: st) (sh, iv, lo, rv) :=
  fun adr H ls locs cells slots hR => va_bald hX.1 hX.2.1 hX.2.2.2.2.2.1 hR.1 q 1 (aW_at (h := (sh, iv, lo, rv)) hs) rfl (aIn_vp hin) hd (kk adr H ls locs cells slots hR)
theorem j_zald (hX : aX p s m args c own cc nL D cA A ad0) {q n : Nat} {x : Int32} (hs : sh[q]? = some (.inl (.boolean, n))) (hin : aIn x n = true) (hd : decode cc pc = .ok (.baload, 1)) (kk : aJ p l e R s m args below meth c Q D cA A ad0 nL c0 s0 (pc + 1) L (.int (iv q x.toNatClampNeg) :: st) (sh, iv, lo, rv)) : aJ p l e R s m args below meth c Q D cA A ad0 nL c0 s0 pc L (.int x :: .ref (100 + q) :: st) (sh, iv, lo, rv) :=
  fun adr H ls locs cells slots hR => va_zald hX.1 hX.2.1 hX.2.2.2.2.2.1 hR.1 q 2 (aW_at (h := (sh, iv, lo, rv)) hs) rfl (aIn_vp hin) hd (kk adr H ls locs cells slots hR)
theorem j_lald (hX : aX p s m args c own cc nL D cA A ad0) {q n : Nat} {x : Int32} (hs : sh[q]? = some (.inl (.long, n))) (hin : aIn x n = true) (hd : decode cc pc = .ok (.laload, 1)) (kk : aJ p l e R s m args below meth c Q D cA A ad0 nL c0 s0 (pc + 1) L (.long (lo q x.toNatClampNeg) :: st) (sh, iv, lo, rv)) : aJ p l e R s m args below meth c Q D cA A ad0 nL c0 s0 pc L (.int x :: .ref (100 + q) :: st) (sh, iv, lo, rv) :=
  fun adr H ls locs cells slots hR => va_lald hX.1 hX.2.1 hX.2.2.2.2.2.1 hR.1 q 3 (aW_at (h := (sh, iv, lo, rv)) hs) rfl (aIn_vp hin) hd (kk adr H ls locs cells slots hR)
theorem j_iast (hX : aX p s m args c own cc nL D cA A ad0) {q n : Nat} {x : Int32} {v : Int32} (hs : sh[q]? = some (.inl (.int, n))) (hin : aIn x n = true) (hd : decode cc pc = .ok (.iastore, 1)) (kk : aJ p l e R s m args below meth c Q D cA A ad0 nL c0 s0 (pc + 1) L st (sh, u2 iv q x.toNatClampNeg v, lo, rv)) : aJ p l e R s m args below meth c Q D cA A ad0 nL c0 s0 pc L (.int v :: .int x :: .ref (100 + q) :: st) (sh, iv, lo, rv) := by
  intro adr H ls locs cells slots hR
  have e2 : aW cA adr (sh, u2 iv q x.toNatClampNeg v, lo, rv) = (aW cA adr (sh, iv, lo, rv)).set q (adr (100 + q), .inl (cA .int, n, .inl (upd (iv q) x.toNatClampNeg v))) := by
    refine (aW_set (h := (sh, iv, lo, rv)) (h' := (sh, u2 iv q x.toNatClampNeg v, lo, rv)) hs rfl (fun z hz y => aCe_row (by first | rfl | exact u2_row _ _ hz) (by first | rfl | exact u2_row _ _ hz) rfl y)).trans ?_
    congr 2
    simp only [aCe, aAr, u2_upd]
  exact va_iast hX.1 hX.2.1 hX.2.2.2.2.2.1 hR.1 hR.2.1 hR.2.2.1 q 0 (aW_at (h := (sh, iv, lo, rv)) hs) rfl (aIn_vp hin) hd (fun H1 locs1 hP1 hD1 hS1 => kk adr H1 ls locs1 cells slots ⟨by rw [e2]; exact hP1, by rw [e2]; exact hD1, hS1, (hR.2.2.2.1 : aWf (sh, iv, lo, rv)), hR.2.2.2.2⟩)
theorem j_bast (hX : aX p s m args c own cc nL D cA A ad0) {q n : Nat} {x : Int32} {v : Int32} (hs : sh[q]? = some (.inl (.byte, n))) (hin : aIn x n = true) (hd : decode cc pc = .ok (.bastore, 1)) (kk : aJ p l e R s m args below meth c Q D cA A ad0 nL c0 s0 (pc + 1) L st (sh, u2 iv q x.toNatClampNeg (vp_nar .byte v), lo, rv)) : aJ p l e R s m args below meth c Q D cA A ad0 nL c0 s0 pc L (.int v :: .int x :: .ref (100 + q) :: st) (sh, iv, lo, rv) := by
  intro adr H ls locs cells slots hR
  have e2 : aW cA adr (sh, u2 iv q x.toNatClampNeg (vp_nar .byte v), lo, rv) = (aW cA adr (sh, iv, lo, rv)).set q (adr (100 + q), .inl (cA .byte, n, .inl (upd (iv q) x.toNatClampNeg (vp_nar .byte v)))) := by
    refine (aW_set (h := (sh, iv, lo, rv)) (h' := (sh, u2 iv q x.toNatClampNeg (vp_nar .byte v), lo, rv)) hs rfl (fun z hz y => aCe_row (by first | rfl | exact u2_row _ _ hz) (by first | rfl | exact u2_row _ _ hz) rfl y)).trans ?_
    congr 2
    simp only [aCe, aAr, u2_upd]
  exact va_bast hX.1 hX.2.1 hX.2.2.2.2.2.1 hR.1 hR.2.1 hR.2.2.1 q 1 (aW_at (h := (sh, iv, lo, rv)) hs) rfl (aIn_vp hin) hd (fun H1 locs1 hP1 hD1 hS1 => kk adr H1 ls locs1 cells slots ⟨by rw [e2]; exact hP1, by rw [e2]; exact hD1, hS1, (hR.2.2.2.1 : aWf (sh, iv, lo, rv)), hR.2.2.2.2⟩)
theorem j_zast (hX : aX p s m args c own cc nL D cA A ad0) {q n : Nat} {x : Int32} {v : Int32} (hs : sh[q]? = some (.inl (.boolean, n))) (hin : aIn x n = true) (hd : decode cc pc = .ok (.bastore, 1)) (kk : aJ p l e R s m args below meth c Q D cA A ad0 nL c0 s0 (pc + 1) L st (sh, u2 iv q x.toNatClampNeg (vp_nar .boolean v), lo, rv)) : aJ p l e R s m args below meth c Q D cA A ad0 nL c0 s0 pc L (.int v :: .int x :: .ref (100 + q) :: st) (sh, iv, lo, rv) := by
  intro adr H ls locs cells slots hR
  have e2 : aW cA adr (sh, u2 iv q x.toNatClampNeg (vp_nar .boolean v), lo, rv) = (aW cA adr (sh, iv, lo, rv)).set q (adr (100 + q), .inl (cA .boolean, n, .inl (upd (iv q) x.toNatClampNeg (vp_nar .boolean v)))) := by
    refine (aW_set (h := (sh, iv, lo, rv)) (h' := (sh, u2 iv q x.toNatClampNeg (vp_nar .boolean v), lo, rv)) hs rfl (fun z hz y => aCe_row (by first | rfl | exact u2_row _ _ hz) (by first | rfl | exact u2_row _ _ hz) rfl y)).trans ?_
    congr 2
    simp only [aCe, aAr, u2_upd]
  exact va_zast hX.1 hX.2.1 hX.2.2.2.2.2.1 hR.1 hR.2.1 hR.2.2.1 q 2 (aW_at (h := (sh, iv, lo, rv)) hs) rfl (aIn_vp hin) hd (fun H1 locs1 hP1 hD1 hS1 => kk adr H1 ls locs1 cells slots ⟨by rw [e2]; exact hP1, by rw [e2]; exact hD1, hS1, (hR.2.2.2.1 : aWf (sh, iv, lo, rv)), hR.2.2.2.2⟩)
theorem j_last (hX : aX p s m args c own cc nL D cA A ad0) {q n : Nat} {x : Int32} {v : Int64} (hs : sh[q]? = some (.inl (.long, n))) (hin : aIn x n = true) (hd : decode cc pc = .ok (.lastore, 1)) (kk : aJ p l e R s m args below meth c Q D cA A ad0 nL c0 s0 (pc + 1) L st (sh, iv, u2 lo q x.toNatClampNeg v, rv)) : aJ p l e R s m args below meth c Q D cA A ad0 nL c0 s0 pc L (.long v :: .int x :: .ref (100 + q) :: st) (sh, iv, lo, rv) := by
  intro adr H ls locs cells slots hR
  have e2 : aW cA adr (sh, iv, u2 lo q x.toNatClampNeg v, rv) = (aW cA adr (sh, iv, lo, rv)).set q (adr (100 + q), .inl (cA .long, n, .inr (.inl (vp_updL (lo q) x.toNatClampNeg v)))) := by
    refine (aW_set (h := (sh, iv, lo, rv)) (h' := (sh, iv, u2 lo q x.toNatClampNeg v, rv)) hs rfl (fun z hz y => aCe_row (by first | rfl | exact u2_row _ _ hz) (by first | rfl | exact u2_row _ _ hz) rfl y)).trans ?_
    congr 2
    simp only [aCe, aAr, u2_updL]
  exact va_last hX.1 hX.2.1 hX.2.2.2.2.2.1 hR.1 hR.2.1 hR.2.2.1 q 3 (aW_at (h := (sh, iv, lo, rv)) hs) rfl (aIn_vp hin) hd (fun H1 locs1 hP1 hD1 hS1 => kk adr H1 ls locs1 cells slots ⟨by rw [e2]; exact hP1, by rw [e2]; exact hD1, hS1, (hR.2.2.2.1 : aWf (sh, iv, lo, rv)), hR.2.2.2.2⟩)
theorem j_aaldR (hX : aX p s m args c own cc nL D cA A ad0) {q n t0 : Nat} {C : String} {x : Int32} (hs : sh[q]? = some (.inl (.object C, n))) (ht : ∀ cA, (aTys cA)[t0]? = some (cA (.object C), .object C)) {a : Nat} (ha : rv q x.toNatClampNeg = some a) (hin : aIn x n = true) (hd : decode cc pc = .ok (.aaload, 1)) (kk : aJ p l e R s m args below meth c Q D cA A ad0 nL c0 s0 (pc + 1) L (.ref a :: st) (sh, iv, lo, rv)) : aJ p l e R s m args below meth c Q D cA A ad0 nL c0 s0 pc L (.int x :: .ref (100 + q) :: st) (sh, iv, lo, rv) :=
  fun adr H ls locs cells slots hR => va_aldq hX.1 hX.2.1 hX.2.2.2.2.2.1 hR.1 q t0 (aW_at (h := (sh, iv, lo, rv)) hs) (ht cA) (aIn_vp hin) hd (by have h1 := kk adr H ls locs cells slots hR; dsimp only; rw [ha]; exact h1)
theorem j_aaldN (hX : aX p s m args c own cc nL D cA A ad0) {q n t0 : Nat} {C : String} {x : Int32} (hs : sh[q]? = some (.inl (.object C, n))) (ht : ∀ cA, (aTys cA)[t0]? = some (cA (.object C), .object C)) (ha : rv q x.toNatClampNeg = none) (hin : aIn x n = true) (hd : decode cc pc = .ok (.aaload, 1)) (kk : aJ p l e R s m args below meth c Q D cA A ad0 nL c0 s0 (pc + 1) L (.null :: st) (sh, iv, lo, rv)) : aJ p l e R s m args below meth c Q D cA A ad0 nL c0 s0 pc L (.int x :: .ref (100 + q) :: st) (sh, iv, lo, rv) :=
  fun adr H ls locs cells slots hR => va_aldq hX.1 hX.2.1 hX.2.2.2.2.2.1 hR.1 q t0 (aW_at (h := (sh, iv, lo, rv)) hs) (ht cA) (aIn_vp hin) hd (by have h1 := kk adr H ls locs cells slots hR; dsimp only; rw [ha]; exact h1)
theorem j_aast (hX : aX p s m args c own cc nL D cA A ad0) {q n t0 pk ci N : Nat} {C : String} {T : u_T} {x : Int32} (hs : sh[q]? = some (.inl (.object C, n))) (ht : ∀ cA, (aTys cA)[t0]? = some (cA (.object C), .object C)) (hk : sh[pk]? = some (.inr ci)) (hc : aCl ci C T N) (hin : aIn x n = true) (hd : decode cc pc = .ok (.aastore, 1)) (kk : aJ p l e R s m args below meth c Q D cA A ad0 nL c0 s0 (pc + 1) L st (sh, iv, lo, u2 rv q x.toNatClampNeg (some (100 + pk)))) : aJ p l e R s m args below meth c Q D cA A ad0 nL c0 s0 pc L (.ref (100 + pk) :: .int x :: .ref (100 + q) :: st) (sh, iv, lo, rv) := by
  intro adr H ls locs cells slots hR
  have e2 : aW cA adr (sh, iv, lo, u2 rv q x.toNatClampNeg (some (100 + pk))) = (aW cA adr (sh, iv, lo, rv)).set q (adr (100 + q), .inl (cA (.object C), n, .inr (.inr (.inr (.inr (va_up (fun j => (rv q j).map adr) x.toNatClampNeg (some (adr (100 + pk))))))))) := by
    refine (aW_set (h := (sh, iv, lo, rv)) (h' := (sh, iv, lo, u2 rv q x.toNatClampNeg (some (100 + pk)))) hs rfl (fun z hz y => aCe_row rfl rfl (u2_row _ _ hz) y)).trans ?_
    congr 2
    simp only [aCe, aAr]
    congr 7
    funext j
    simp only [u2, va_up, if_true]
    split <;> rfl
  exact va_astq hX.1 hX.2.1 hX.2.2.2.2.2.1 hR.1 hR.2.1 hR.2.2.1 q t0 pk ci (aW_at (h := (sh, iv, lo, rv)) hs) (ht cA) (aW_at (h := (sh, iv, lo, rv)) hk) hc.1 (aIn_vp hin) hd (fun H1 locs1 hP1 hD1 hS1 => kk adr H1 ls locs1 cells slots ⟨by rw [e2]; exact hP1, by rw [e2]; exact hD1, hS1, aWf_put hR.2.2.2.1 (by have := (List.getElem?_eq_some_iff.mp hk).1; omega), hR.2.2.2.2⟩)
theorem j_alen (hX : aX p s m args c own cc nL D cA A ad0) {q n t0 : Nat} {ty : FieldType} (hs : sh[q]? = some (.inl (ty, n))) (ht : ∀ cA, (aTys cA)[t0]? = some (cA ty, ty)) (hd : decode cc pc = .ok (.arraylength, 1)) (kk : aJ p l e R s m args below meth c Q D cA A ad0 nL c0 s0 (pc + 1) L (.int (nI n) :: st) (sh, iv, lo, rv)) : aJ p l e R s m args below meth c Q D cA A ad0 nL c0 s0 pc L (.ref (100 + q) :: st) (sh, iv, lo, rv) :=
  fun adr H ls locs cells slots hR => va_alen hX.1 hX.2.1 hX.2.2.2.2.2.1 hR.1 q t0 (aW_at (h := (sh, iv, lo, rv)) hs) (ht cA) rfl hd (kk adr H ls locs cells slots hR)
theorem j_adr {adr : Nat → Nat} {H : Heap} {ls : Array Slot} {locs : List Loc} {cells slots : Nat} (hR : aR s D cA A ad0 nL c0 s0 L (sh, iv, lo, rv) adr H ls locs cells slots) {k : Nat} (hk : k < 100) : aV adr (.ref k) = .ref (ad0 k) := congrArg Value.ref (hR.2.2.2.2.2.2.2.2.1 k (by omega))
theorem j_gets (hX : aX p s m args c own cc nL D cA A ad0) {i j : Nat} (h1 : 1 ≤ j) (h3 : j ≤ 3) (hw : Cond.fieldLink own i "WokenBorder$Car" (aTnm j) "[I" ∈ gtbl) (hd : decode cc pc = .ok (.getstatic i, 3)) (kk : aJ p l e R s m args below meth c Q D cA A ad0 nL c0 s0 (pc + 3) L (.ref j :: st) (sh, iv, lo, rv)) : aJ p l e R s m args below meth c Q D cA A ad0 nL c0 s0 pc L st (sh, iv, lo, rv) :=
  fun adr H ls locs cells slots hR => va_gets hX.1 hX.2.1 (hX.2.2.2.2.2.2.2.1 j h1 h3).1 hR.2.2.1 hX.2.2.2.1 (hX.2.2.2.2.1 _ hw) (fun _ z => z) hd (by have h9 := kk adr H ls locs cells slots hR; rw [List.map_cons, j_adr hR (show j < 100 by omega)] at h9; exact h9)
theorem j_getsC (hX : aX p s m args c own cc nL D cA A ad0) {i : Nat} (hw : Cond.fieldLink own i "java/lang/String" "COMPACT_STRINGS" "Z" ∈ gtbl) (hd : decode cc pc = .ok (.getstatic i, 3)) (kk : aJ p l e R s m args below meth c Q D cA A ad0 nL c0 s0 (pc + 3) L (.int 1 :: st) (sh, iv, lo, rv)) : aJ p l e R s m args below meth c Q D cA A ad0 nL c0 s0 pc L st (sh, iv, lo, rv) :=
  fun adr H ls locs cells slots hR => va_gets hX.1 hX.2.1 hX.2.2.2.2.2.2.2.2.2.1 hR.2.2.1 hX.2.2.2.1 (hX.2.2.2.2.1 _ hw) (fun _ z => z) hd (kk adr H ls locs cells slots hR)
theorem j_getsQ (hX : aX p s m args c own cc nL D cA A ad0) {i : Nat} (hw : Cond.fieldLink own i "jdk/internal/util/Preconditions" "SIOOBE_FORMATTER" "Ljava/util/function/BiFunction;" ∈ gtbl) (hd : decode cc pc = .ok (.getstatic i, 3)) (k1 : aJ p l e R s m args below meth c Q D cA A ad0 nL c0 s0 (pc + 3) L (.null :: st) (sh, iv, lo, rv)) (k2 : aJ p l e R s m args below meth c Q D cA A ad0 nL c0 s0 (pc + 3) L (.ref 5 :: st) (sh, iv, lo, rv)) : aJ p l e R s m args below meth c Q D cA A ad0 nL c0 s0 pc L st (sh, iv, lo, rv) := by
  intro adr H ls locs cells slots hR
  rcases hX.2.2.2.2.2.2.2.2.2.2.2.1 with hz | hz
  · exact va_gets hX.1 hX.2.1 hz hR.2.2.1 hX.2.2.2.1 (hX.2.2.2.2.1 _ hw) (fun _ z => z) hd (k1 adr H ls locs cells slots hR)
  · exact va_gets hX.1 hX.2.1 hz hR.2.2.1 hX.2.2.2.1 (hX.2.2.2.2.1 _ hw) (fun _ z => z) hd (by have h9 := k2 adr H ls locs cells slots hR; rw [List.map_cons, j_adr hR (show 5 < 100 by omega)] at h9; exact h9)
theorem j_tald (hX : aX p s m args c own cc nL D cA A ad0) {j : Nat} {x : Int32} (h1 : 1 ≤ j) (h3 : j ≤ 3) (hin : aIn x 14 = true) (hd : decode cc pc = .ok (.iaload, 1)) (kk : aJ p l e R s m args below meth c Q D cA A ad0 nL c0 s0 (pc + 1) L (.int ((aTab j).getD x.toNatClampNeg 0) :: st) (sh, iv, lo, rv)) : aJ p l e R s m args below meth c Q D cA A ad0 nL c0 s0 pc L (.int x :: .ref j :: st) (sh, iv, lo, rv) :=
  fun adr H ls locs cells slots hR => by have h9 := kk adr H ls locs cells slots hR; rw [List.map_cons, List.map_cons, j_adr hR (show j < 100 by omega)]; exact va_ti hX.1 hX.2.1 (hX.2.2.2.2.2.2.2.1 j h1 h3).2 hR.2.2.1 (aIn_vp hin) rfl hd h9
theorem j_sval (hX : aX p s m args c own cc nL D cA A ad0) {i j : Nat} (hj : j < 8) (hw : Cond.fieldLink own i "java/lang/String" "value" "[B" ∈ gtbl) (hd : decode cc pc = .ok (.getfield i, 3)) (kk : aJ p l e R s m args below meth c Q D cA A ad0 nL c0 s0 (pc + 3) L (.ref (30 + j) :: st) (sh, iv, lo, rv)) : aJ p l e R s m args below meth c Q D cA A ad0 nL c0 s0 pc L (.ref (10 + j) :: st) (sh, iv, lo, rv) :=
  fun adr H ls locs cells slots hR => by have h9 := kk adr H ls locs cells slots hR; rw [List.map_cons, j_adr hR (show 30 + j < 100 by omega)] at h9; rw [List.map_cons, j_adr hR (show 10 + j < 100 by omega)]; exact vk_getf hX.1 hX.2.1 (hX.2.2.2.2.2.2.2.2.1 j hj).2.2.1 hR.2.2.1 hX.2.2.2.1 (hX.2.2.2.2.1 _ hw) (fun _ z => z) hd h9
theorem j_scod (hX : aX p s m args c own cc nL D cA A ad0) {i j : Nat} (hj : j < 8) (hw : Cond.fieldLink own i "java/lang/String" "coder" "B" ∈ gtbl) (hd : decode cc pc = .ok (.getfield i, 3)) (kk : aJ p l e R s m args below meth c Q D cA A ad0 nL c0 s0 (pc + 3) L (.int 0 :: st) (sh, iv, lo, rv)) : aJ p l e R s m args below meth c Q D cA A ad0 nL c0 s0 pc L (.ref (10 + j) :: st) (sh, iv, lo, rv) :=
  fun adr H ls locs cells slots hR => by have h9 := kk adr H ls locs cells slots hR; rw [List.map_cons, j_adr hR (show 10 + j < 100 by omega)]; exact vk_getf hX.1 hX.2.1 (hX.2.2.2.2.2.2.2.2.1 j hj).2.1 hR.2.2.1 hX.2.2.2.1 (hX.2.2.2.2.1 _ hw) (fun _ z => z) hd h9
theorem j_sbald (hX : aX p s m args c own cc nL D cA A ad0) {j : Nat} {x : Int32} (hj : j < 8) (hin : aIn x (aLen.getD j 0) = true) (hd : decode cc pc = .ok (.baload, 1)) (kk : aJ p l e R s m args below meth c Q D cA A ad0 nL c0 s0 (pc + 1) L (.int ((aStr.getD j []).getD x.toNatClampNeg 0) :: st) (sh, iv, lo, rv)) : aJ p l e R s m args below meth c Q D cA A ad0 nL c0 s0 pc L (.int x :: .ref (30 + j) :: st) (sh, iv, lo, rv) :=
  fun adr H ls locs cells slots hR => by have h9 := kk adr H ls locs cells slots hR; rw [List.map_cons, List.map_cons, j_adr hR (show 30 + j < 100 by omega)]; exact va_tb hX.1 hX.2.1 (hX.2.2.2.2.2.2.2.2.1 j hj).2.2.2 hR.2.2.1 (aIn_vp hin) rfl hd h9
theorem j_slen (hX : aX p s m args c own cc nL D cA A ad0) {j : Nat} (hj : j < 8) (hd : decode cc pc = .ok (.arraylength, 1)) (kk : aJ p l e R s m args below meth c Q D cA A ad0 nL c0 s0 (pc + 1) L (.int (nI (aLen.getD j 0)) :: st) (sh, iv, lo, rv)) : aJ p l e R s m args below meth c Q D cA A ad0 nL c0 s0 pc L (.ref (30 + j) :: st) (sh, iv, lo, rv) :=
  fun adr H ls locs cells slots hR => by have h9 := kk adr H ls locs cells slots hR; rw [List.map_cons, j_adr hR (show 30 + j < 100 by omega)]; exact va_tlen hX.1 hX.2.1 (hX.2.2.2.2.2.2.2.2.1 j hj).2.2.2 hR.2.2.1 rfl hd h9
/-- the words of System.arraycopy at a call -/
def aCw (own : String) (i : Nat) : Prop := Cond.methodLink own i arraycopyName ∈ gtbl ∧ Cond.native arraycopyName ∈ gtbl ∧ Cond.static arraycopyName ∈ gtbl ∧ Cond.initialized "java/lang/System" ∈ gtbl
theorem aV_sum (adr : Nat → Nat) (st : List Value) : ((st.map (aV adr)).map fun v => v.category).sum = (st.map fun v => v.category).sum := by
  rw [List.map_map]
  congr 1
  exact List.map_congr_left (fun v _ => aV_cat adr v)
def aOk (sp n len : Int32) (N M : Nat) (dp : Int32) : Bool := decide (0 ≤ sp) && decide (0 ≤ dp) && decide (0 ≤ len) && decide (sp.toNatClampNeg + len.toNatClampNeg ≤ N) && decide (dp.toNatClampNeg + len.toNatClampNeg ≤ M)
theorem j_copy (hX : aX p s m args c own cc nL D cA A ad0) {i q0 q1 n0 n1 : Nat} {sp dp n : Int32} (hw : aCw own i) (hs0 : sh[q0]? = some (.inl (.int, n0))) (hs1 : sh[q1]? = some (.inl (.int, n1))) (o1 : ¬ sp < 0) (o2 : ¬ dp < 0) (o3 : ¬ n < 0) (o4 : sp.toNatClampNeg + n.toNatClampNeg ≤ n0) (o5 : dp.toNatClampNeg + n.toNatClampNeg ≤ n1) (hR1 : 1 ≤ R.frames) (hR2 : (st.map fun v => v.category).sum + (nativeFrameWords "java/lang/System" "arraycopy" 5 + 11) ≤ R.locals) (hd : decode cc pc = .ok (.invokestatic i, 3)) (kk : aJ p l e R s m args below meth c Q D cA A ad0 nL c0 s0 (pc + 3) L st (sh, cp2 iv (iv q0) sp.toNatClampNeg q1 dp.toNatClampNeg n.toNatClampNeg, lo, rv)) : aJ p l e R s m args below meth c Q D cA A ad0 nL c0 s0 pc L (.int n :: .int dp :: .ref (100 + q1) :: .int sp :: .ref (100 + q0) :: st) (sh, iv, lo, rv) := by
  intro adr H ls locs cells slots hR
  have e2 : aW cA adr (sh, cp2 iv (iv q0) sp.toNatClampNeg q1 dp.toNatClampNeg n.toNatClampNeg, lo, rv) = (aW cA adr (sh, iv, lo, rv)).set q1 (adr (100 + q1), .inl (cA .int, n1, .inl (va_cpy (iv q0) (iv q1) sp.toNatClampNeg dp.toNatClampNeg n.toNatClampNeg))) := by
    refine (aW_set (h := (sh, iv, lo, rv)) (h' := (sh, cp2 iv (iv q0) sp.toNatClampNeg q1 dp.toNatClampNeg n.toNatClampNeg, lo, rv)) hs1 rfl (fun z hz y => aCe_row (cp2_row _ _ hz) rfl rfl y)).trans ?_
    congr 2
    simp only [aCe, aAr, cp2_at]
  exact va_copyi hX.1 hX.2.1 (hX.2.2.1.trans hR.2.2.2.2.1.1.symm) hX.2.2.2.1 (hX.2.2.2.2.1 _ hw.1) (hX.2.2.2.2.1 _ hw.2.1) (hX.2.2.2.2.1 _ hw.2.2.1) (hX.2.2.2.2.1 _ hw.2.2.2) hX.2.2.2.2.2.1 hR.1 hR.2.1 hR.2.2.1 q0 q1 0 0 (aW_at (h := (sh, iv, lo, rv)) hs0) (aW_at (h := (sh, iv, lo, rv)) hs1) rfl rfl rfl o1 o2 o3 o4 o5 (fun _ _ => rfl) hR1 (by rw [aV_sum]; exact hR2) hd (fun H1 locs1 hP1 hD1 hS1 => kk adr H1 ls locs1 cells slots ⟨by rw [e2]; exact hP1, by rw [e2]; exact hD1, hS1, (hR.2.2.2.1 : aWf (sh, iv, lo, rv)), hR.2.2.2.2⟩)
theorem j_copyT (hX : aX p s m args c own cc nL D cA A ad0) {i j q1 n1 : Nat} {sp dp n : Int32} (h1 : 1 ≤ j) (h3 : j ≤ 3) (hw : aCw own i) (hs1 : sh[q1]? = some (.inl (.int, n1))) (o1 : ¬ sp < 0) (o2 : ¬ dp < 0) (o3 : ¬ n < 0) (o4 : sp.toNatClampNeg + n.toNatClampNeg ≤ 14) (o5 : dp.toNatClampNeg + n.toNatClampNeg ≤ n1) (hR1 : 1 ≤ R.frames) (hR2 : (st.map fun v => v.category).sum + (nativeFrameWords "java/lang/System" "arraycopy" 5 + 11) ≤ R.locals) (hd : decode cc pc = .ok (.invokestatic i, 3)) (kk : aJ p l e R s m args below meth c Q D cA A ad0 nL c0 s0 (pc + 3) L st (sh, cp2 iv (fun k => (aTab j).getD k 0) sp.toNatClampNeg q1 dp.toNatClampNeg n.toNatClampNeg, lo, rv)) : aJ p l e R s m args below meth c Q D cA A ad0 nL c0 s0 pc L (.int n :: .int dp :: .ref (100 + q1) :: .int sp :: .ref j :: st) (sh, iv, lo, rv) := by
  intro adr H ls locs cells slots hR
  have e2 : aW cA adr (sh, cp2 iv (fun k => (aTab j).getD k 0) sp.toNatClampNeg q1 dp.toNatClampNeg n.toNatClampNeg, lo, rv) = (aW cA adr (sh, iv, lo, rv)).set q1 (adr (100 + q1), .inl (cA .int, n1, .inl (va_cpy (fun k => (aTab j).getD k 0) (iv q1) sp.toNatClampNeg dp.toNatClampNeg n.toNatClampNeg))) := by
    refine (aW_set (h := (sh, iv, lo, rv)) (h' := (sh, cp2 iv (fun k => (aTab j).getD k 0) sp.toNatClampNeg q1 dp.toNatClampNeg n.toNatClampNeg, lo, rv)) hs1 rfl (fun z hz y => aCe_row (cp2_row _ _ hz) rfl rfl y)).trans ?_
    congr 2
    simp only [aCe, aAr, cp2_at]
  rw [List.map_cons, List.map_cons, List.map_cons, List.map_cons, List.map_cons, j_adr hR (show j < 100 by omega)]
  exact k_copyt hX.1 hX.2.1 (hX.2.2.1.trans hR.2.2.2.2.1.1.symm) hX.2.2.2.1 (hX.2.2.2.2.1 _ hw.1) (hX.2.2.2.2.1 _ hw.2.1) (hX.2.2.2.2.1 _ hw.2.2.1) (hX.2.2.2.2.1 _ hw.2.2.2) hX.2.2.2.2.2.1 hR.1 hR.2.1 hR.2.2.1 (hX.2.2.2.2.2.2.2.1 j h1 h3).2 q1 0 (aW_at (h := (sh, iv, lo, rv)) hs1) rfl o1 o2 o3 o4 o5 hR1 (by rw [aV_sum]; exact hR2) hd (fun H1 locs1 hP1 hD1 hS1 => kk adr H1 ls locs1 cells slots ⟨by rw [e2]; exact hP1, by rw [e2]; exact hD1, hS1, (hR.2.2.2.1 : aWf (sh, iv, lo, rv)), hR.2.2.2.2⟩)
end AA
