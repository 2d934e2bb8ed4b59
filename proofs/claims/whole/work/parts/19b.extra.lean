/-! strings by ldc_w; the JDK's own methods of string constants; what keeps the shape good -/
theorem ifs {α : Type} {c : Prop} [Decidable c] {a b : Option α} {y : Option α} {G : Prop} (h : (if c then a else b) = y) (k1 : c → a = y → G) (k2 : ¬ c → b = y → G) : G := by
  by_cases hc : c
  · exact k1 hc (ifp hc h)
  · exact k2 hc (ifn hc h)
theorem ifs2 {α : Type} {c : Prop} [Decidable c] {a b : Option α} {y : Option α} {G : Prop} (h : (if c then a else b) = y) (k1 : ¬ c → b = y → G) (k2 : c → a = y → G) : G := ifs h k2 k1
/-- fewer known locals -/
def aSub : List (Option Value) → List (Option Value) → Prop
  | [], L => L = []
  | none :: M, L => match L with
    | [] => False
    | _ :: L => aSub M L
  | some v :: M, L => match L with
    | [] => False
    | w :: L => w = some v ∧ aSub M L
theorem aSub_get : ∀ (M L : List (Option Value)), aSub M L → M.length = L.length ∧ ∀ (k : Nat) (v : Value), M[k]? = some (some v) → L[k]? = some (some v) := by
  intro M
  induction M with
  | nil => intro L h; cases (h : L = []); exact ⟨rfl, fun k v h => by simp at h⟩
  | cons x M ih =>
    intro L h
    cases x with
    | none =>
      cases L with
      | nil => exact h.elim
      | cons w L =>
        obtain ⟨e1, e2⟩ := ih L h
        refine ⟨by simp [e1], fun k v hk => ?_⟩
        cases k with
        | zero => simp at hk
        | succ k => exact e2 k v (by simpa using hk)
    | some u =>
      cases L with
      | nil => exact h.elim
      | cons w L =>
        have h : w = some u ∧ aSub M L := h
        obtain ⟨e1, e2⟩ := ih L h.2
        refine ⟨by simp [e1], fun k v hk => ?_⟩
        cases k with
        | zero => rw [h.1]; simpa using hk
        | succ k => exact e2 k v (by simpa using hk)
theorem aJx {p : Program} {l : Launch} {e : Env} {R : Room} {s : State} {m : MethodId} {args : Array Value} {below : List Frame} {meth : Method} {c : Code} {Q : State → Prop} {D : va_G} {cA : FieldType → ClassId} {A : Nat → Prop} {ad0 : Nat → Nat} {nL c0 s0 pc : Nat} {L M : List (Option Value)} {st : List Value} {h : aHp} (hj : aJ p l e R s m args below meth c Q D cA A ad0 nL c0 s0 pc M st h) (hs : aSub M L) : aJ p l e R s m args below meth c Q D cA A ad0 nL c0 s0 pc L st h := by
  intro adr H ls locs cells slots hR
  obtain ⟨e1, e2⟩ := aSub_get M L hs
  refine hj adr H ls locs cells slots ⟨hR.1, hR.2.1, hR.2.2.1, hR.2.2.2.1, ⟨hR.2.2.2.2.1.1, hR.2.2.2.2.1.2.1, fun q hq => ?_⟩, e1.trans hR.2.2.2.2.2.1, hR.2.2.2.2.2.2⟩
  obtain ⟨k, v, hk, rfl⟩ := (aLs_mem M 0 q).mp hq
  exact hR.2.2.2.2.1.2.2 _ ((aLs_mem L 0 _).mpr ⟨k, v, e2 k v hk, rfl⟩)
theorem rmm {d D maxL : Nat} {R : Room} (hD : d + 1 ≤ D) (hf : D ≤ R.frames) (hl : 64 * D ≤ R.locals) (hm : maxL ≤ 45) : d + 1 ≤ R.frames ∧ 8 + (maxL + 11) + 64 * d ≤ R.locals := by
  constructor
  · exact Nat.le_trans hD hf
  · have : 64 * (d + 1) ≤ 64 * D := Nat.mul_le_mul_left 64 hD
    omega
theorem k_ldcWS {p : Program} {l : Launch} {e : Env} {R : Room} {s : State} {m : MethodId} {args : Array Value} {below : List Frame} {meth : Method} {c : Code} {T : State} {locs : List Loc} {cells slots : Nat}
    (X : Stand p l e R s m args below meth c T locs cells slots) (hexec : p.tables.exec = Jvm.exec) {own text : String} {index : Nat} {a : Addr} (hown : s.vm.findClass own = some m.cls)
    (hconst : (Cond.stringRef own index text).before #[] s = true) (hev : (Term.string own index).eval #[] s none [] s = some (.ref a)) {g : JFrame} (hg : g.method = m) (hdg : decode c.code g.pc = .ok (.ldc_w index, 3)) :
    ∀ target, Steps p.tables e below (T.setTop { g with pc := g.pc + 3, stack := .ref a :: g.stack }) target → Steps p.tables e below (T.setTop g) target := by
  obtain ⟨k, cf, i, a', hk, hcf, hcp, -, hr, hev'⟩ := Cond.stringRef_spec hown hconst
  cases hev.symm.trans hev'
  obtain ⟨k', hk', he⟩ := X.warmed.alike.2.2 _ _ hk
  have hr' : k'.resolved[index]? = some (some (.string a)) := by
    rcases X.warmed.entry hk hk' index with h | ⟨h, -⟩
    · rw [h]; exact hr
    · rw [hr] at h; cases h
  intro target hrest
  subst hg
  jvm_step X.here [hexec, hdg, ldc_w.wp_string (e := e) (s := T) (f := g) X.here.top hk' (by rw [he]; exact hcf) hcp hr']
  exact hrest
section AE
variable {p : Program} {l : Launch} {e : Env} {R : Room} {s : State} {m : MethodId} {args : Array Value} {below : List Frame} {meth : Method} {c : Code} {Q : State → Prop} {D : va_G} {cA : FieldType → ClassId} {A : Nat → Prop} {ad0 : Nat → Nat} {nL c0 s0 : Nat}
variable {own : String} {cc : ByteArray} {pc : Nat} {L : List (Option Value)} {st : List Value} {h : aHp}
theorem j_ldcSw (hX : aX p s m args c own cc nL D cA A ad0) {i j : Nat} {tx : String} (hw : (own, i, tx, j) ∈ aLdc) (hj : j < 20) (hd : decode cc pc = .ok (.ldc_w i, 3)) (k : aJ p l e R s m args below meth c Q D cA A ad0 nL c0 s0 (pc + 3) L (.ref (10 + j) :: st) h) : aJ p l e R s m args below meth c Q D cA A ad0 nL c0 s0 pc L st h := by
  intro adr H ls locs cells slots hR T hT X
  have h1 := k adr H ls locs cells slots hR
  rw [List.map_cons, show aV adr (.ref (10 + j)) = .ref (ad0 (10 + j)) from congrArg Value.ref (hR.2.2.2.2.2.2.2.2.1 (10 + j) (by omega))] at h1
  obtain ⟨t, a1, b1⟩ := h1 T hT X
  have hZ := hX.2.2.2.2.2.2.2.2.2.2.1 _ hw
  exact ⟨t, k_ldcWS X hX.1 hX.2.2.2.1 (text := tx) (a := ad0 (10 + j)) hZ.1 hZ.2 (g := F0 m pc ls (st.map (aV adr))) rfl (by rw [hX.2.1]; exact hd) t a1, b1⟩
theorem jpc {b : Nat} (hb : pc = b) (k : aJ p l e R s m args below meth c Q D cA A ad0 nL c0 s0 b L st h) : aJ p l e R s m args below meth c Q D cA A ad0 nL c0 s0 pc L st h := by rw [hb]; exact k
theorem j_maxL (hX : aX p s m args c own cc nL D cA A ad0) {i : Nat} {x y : Int64} (hw : aLS own i yJ9_max_f86c9 cJ9_max_f86c9 4 (some .long) 2) (hd : decode cc pc = .ok (.invokestatic i, 3)) (hf : 1 ≤ R.frames ∧ (st.map fun v => v.category).sum + 15 ≤ R.locals) (hr1 : h.1.length ≤ c0 + R.cells) (hr2 : aSn h.1 ≤ s0 + R.slots) (kk : aJ p l e R s m args below meth c Q D cA A ad0 nL c0 s0 (pc + 3) L (.long (if y < x then x else y) :: st) h) : aJ p l e R s m args below meth c Q D cA A ad0 nL c0 s0 pc L (.long y :: .long x :: st) h :=
  fun adr H ls locs cells slots hR => va_mmax_long hX.1 hX.2.1 (hX.2.2.1.trans hR.2.2.2.2.1.1.symm) hX.2.2.2.1 (hX.2.2.2.2.1 _ hw.1) (hX.2.2.2.2.1 _ hw.2.1) (hX.2.2.2.2.1 _ hw.2.2.1) (hX.2.2.2.2.1 _ hw.2.2.2.1) hf.1 (by rw [aV_sum]; exact hf.2) (by have := hR.2.2.2.2.2.2.1; omega) (by have := hR.2.2.2.2.2.2.2.1; omega) hd (kk adr H ls locs cells slots hR)
theorem j_minL (hX : aX p s m args c own cc nL D cA A ad0) {i : Nat} {x y : Int64} (hw : aLS own i yJ9_min_f86c9 cJ9_min_f86c9 4 (some .long) 2) (hd : decode cc pc = .ok (.invokestatic i, 3)) (hf : 1 ≤ R.frames ∧ (st.map fun v => v.category).sum + 15 ≤ R.locals) (hr1 : h.1.length ≤ c0 + R.cells) (hr2 : aSn h.1 ≤ s0 + R.slots) (kk : aJ p l e R s m args below meth c Q D cA A ad0 nL c0 s0 (pc + 3) L (.long (if y < x then y else x) :: st) h) : aJ p l e R s m args below meth c Q D cA A ad0 nL c0 s0 pc L (.long y :: .long x :: st) h :=
  fun adr H ls locs cells slots hR => va_mmin_long hX.1 hX.2.1 (hX.2.2.1.trans hR.2.2.2.2.1.1.symm) hX.2.2.2.1 (hX.2.2.2.2.1 _ hw.1) (hX.2.2.2.2.1 _ hw.2.1) (hX.2.2.2.2.1 _ hw.2.2.1) (hX.2.2.2.2.1 _ hw.2.2.2.1) hf.1 (by rw [aV_sum]; exact hf.2) (by have := hR.2.2.2.2.2.2.1; omega) (by have := hR.2.2.2.2.2.2.2.1; omega) hd (kk adr H ls locs cells slots hR)
end AE
