/-! rows that read and write the abstract world -/
def aCl (ci : Nat) (C : String) (T : u_T) (N : Nat) : Prop := acl[ci]? = some (C, T, N) ∧ (∀ w ∈ u_ws C T N, w ∈ gtbl) ∧ (∀ k, k < N → parseFieldDescriptor (T k).2.2.1 = some (aty ci k)) ∧ ∀ a, a < N → ∀ b, b < N → a ≠ b → (T a).2.1 ≠ (T b).2.1
theorem aCl_N {ci : Nat} {C : String} {T : u_T} {N : Nat} (h : aCl ci C T N) : aN ci = N := by simp only [aN, h.1]
def aKd (ty : FieldType) : Nat := match ty with
  | .long => 1
  | .object _ => 2
  | .array _ => 2
  | _ => 0
theorem aFv_0 {adr : Nat → Nat} {i : Nat → Nat → Int32} {l : Nat → Nat → Int64} {r : Nat → Nat → Option Nat} {p k : Nat} {ty : FieldType} (h : aKd ty = 0) : aFv adr i l r p k ty = .int (i p k) := by
  cases ty <;> first | rfl | (simp [aKd] at h)
theorem aFv_1 {adr : Nat → Nat} {i : Nat → Nat → Int32} {l : Nat → Nat → Int64} {r : Nat → Nat → Option Nat} {p k : Nat} {ty : FieldType} (h : aKd ty = 1) : aFv adr i l r p k ty = .long (l p k) := by
  cases ty <;> first | rfl | (simp [aKd] at h)
theorem aFv_2 {adr : Nat → Nat} {i : Nat → Nat → Int32} {l : Nat → Nat → Int64} {r : Nat → Nat → Option Nat} {p k : Nat} {ty : FieldType} (h : aKd ty = 2) : aFv adr i l r p k ty = va_rf ((r p k).map adr) := by
  cases ty <;> first | rfl | (simp [aKd] at h)
def aFs (adr : Nat → Nat) (i : Nat → Nat → Int32) (l : Nat → Nat → Int64) (r : Nat → Nat → Option Nat) (p ci : Nat) : List Value := (List.range (aN ci)).map (fun k => aFv adr i l r p k (aty ci k))
theorem aFs_at {adr : Nat → Nat} {i : Nat → Nat → Int32} {l : Nat → Nat → Int64} {r : Nat → Nat → Option Nat} {p ci k : Nat} (hk : k < aN ci) : (aFs adr i l r p ci)[k]? = some (aFv adr i l r p k (aty ci k)) := by
  simp [aFs, List.getElem?_range hk]
theorem aFs_len {adr : Nat → Nat} {i : Nat → Nat → Int32} {l : Nat → Nat → Int64} {r : Nat → Nat → Option Nat} {p ci : Nat} : (aFs adr i l r p ci).length = aN ci := by simp [aFs]
theorem aFs_set {adr : Nat → Nat} {i i' : Nat → Nat → Int32} {l l' : Nat → Nat → Int64} {r r' : Nat → Nat → Option Nat} {p ci k : Nat} {v : Value} (hk : k < aN ci) (hv : aFv adr i' l' r' p k (aty ci k) = v) (ho : ∀ j, j ≠ k → aFv adr i' l' r' p j (aty ci j) = aFv adr i l r p j (aty ci j)) : aFs adr i' l' r' p ci = (aFs adr i l r p ci).set k v := by
  apply List.ext_getElem?
  intro j
  rw [List.getElem?_set, aFs_len]
  by_cases hj : j < aN ci
  · rw [aFs_at hj]
    by_cases e : k = j
    · subst e
      rw [if_pos rfl, if_pos hj, hv]
    · rw [if_neg e, aFs_at hj, ho j (fun q => e q.symm)]
  · have h1 : (aFs adr i' l' r' p ci)[j]? = none := List.getElem?_eq_none (by rw [aFs_len]; omega)
    have h2 : (aFs adr i l r p ci)[j]? = none := List.getElem?_eq_none (by rw [aFs_len]; omega)
    rw [h1, h2]
    by_cases e : k = j
    · omega
    · rw [if_neg e]
theorem aFv_row {adr : Nat → Nat} {i i' : Nat → Nat → Int32} {l l' : Nat → Nat → Int64} {r r' : Nat → Nat → Option Nat} {p : Nat} (h1 : i' p = i p) (h2 : l' p = l p) (h3 : r' p = r p) (k : Nat) (ty : FieldType) : aFv adr i' l' r' p k ty = aFv adr i l r p k ty := by
  cases ty <;> simp only [aFv, h1, h2, h3]
theorem aCe_row {cA : FieldType → ClassId} {adr : Nat → Nat} {sh : List aSh} {i i' : Nat → Nat → Int32} {l l' : Nat → Nat → Int64} {r r' : Nat → Nat → Option Nat} {p : Nat} (h1 : i' p = i p) (h2 : l' p = l p) (h3 : r' p = r p) (x : aSh) : aCe cA adr (sh, i', l', r') p x = aCe cA adr (sh, i, l, r) p x := by
  cases x with
  | inl q => simp only [aCe, aAr, h1, h2, h3]
  | inr ci => simp only [aCe]; congr 2; exact List.map_congr_left (fun k _ => aFv_row h1 h2 h3 k _)
theorem u2_at {α : Type} (f : Nat → Nat → α) (p k : Nat) (v : α) : u2 f p k v p = va_up (f p) k v := by
  funext j
  simp [u2, va_up]
theorem u2_upd (f : Nat → Nat → Int32) (p k : Nat) (v : Int32) : u2 f p k v p = upd (f p) k v := by
  funext j
  simp [u2, upd]
def aIn (x : Int32) (n : Nat) : Bool := decide (0 ≤ x) && decide (x.toNatClampNeg < n)
theorem aIn_vp {x : Int32} {n : Nat} (h : aIn x n = true) : vp_in x n := by
  simp only [aIn, Bool.and_eq_true, decide_eq_true_eq] at h
  intro q
  rcases q with q | q
  · exact absurd h.1 (by rw [Int32.not_le]; exact q)
  · omega
theorem aFv_u {adr : Nat → Nat} {i i' : Nat → Nat → Int32} {l l' : Nat → Nat → Int64} {r r' : Nat → Nat → Option Nat} {p j : Nat} {ty : FieldType} (h1 : i' p j = i p j) (h2 : l' p j = l p j) (h3 : r' p j = r p j) : aFv adr i' l' r' p j ty = aFv adr i l r p j ty := by
  cases ty <;> simp only [aFv, h1, h2, h3]
section AH
variable {p : Program} {l : Launch} {e : Env} {R : Room} {s : State} {m : MethodId} {args : Array Value} {below : List Frame} {meth : Method} {c : Code} {Q : State → Prop} {D : va_G} {cA : FieldType → ClassId} {A : Nat → Prop} {ad0 : Nat → Nat} {nL c0 s0 : Nat}
variable {own : String} {cc : ByteArray} {pc : Nat} {L : List (Option Value)} {st : List Value} {sh : List aSh} {iv : Nat → Nat → Int32} {lo : Nat → Nat → Int64} {rv : Nat → Nat → Option Nat}
theorem j_getI (hX : aX p s m args c own cc nL D cA A ad0) {ci k q i N : Nat} {C : String} {T : u_T} (hc : aCl ci C T N) (hk : k < N) (hw : Cond.fieldLink own i (T k).1 (T k).2.1 (T k).2.2.1 ∈ gtbl)  (hd : decode cc pc = .ok (.getfield i, 3)) (hs : sh[q]? = some (.inr ci)) (ht : aKd (aty ci k) = 0) (kk : aJ p l e R s m args below meth c Q D cA A ad0 nL c0 s0 (pc + 3) L (.int (iv q k) :: st) (sh, iv, lo, rv)) : aJ p l e R s m args below meth c Q D cA A ad0 nL c0 s0 pc L (.ref (100 + q) :: st) (sh, iv, lo, rv) :=
  fun adr H ls locs cells slots hR => va_get (T := T) (N := N) (fs := aFs adr iv lo rv q ci) hX.1 hX.2.1 hX.2.2.2.2.1 hc.2.1 hX.2.2.2.1 hX.2.2.2.2.2.1 hR.1 q (aW_at (h := (sh, iv, lo, rv)) hs) hc.1 k hk (hX.2.2.2.2.1 _ hw) (fun _ z => z) ((aFs_at (by rw [aCl_N hc]; exact hk)).trans (congrArg some ((aFv_0 ht).trans (rfl : _ = aV adr (.int (iv q k)))))) hd (kk adr H ls locs cells slots hR)
theorem j_getL (hX : aX p s m args c own cc nL D cA A ad0) {ci k q i N : Nat} {C : String} {T : u_T} (hc : aCl ci C T N) (hk : k < N) (hw : Cond.fieldLink own i (T k).1 (T k).2.1 (T k).2.2.1 ∈ gtbl)  (hd : decode cc pc = .ok (.getfield i, 3)) (hs : sh[q]? = some (.inr ci)) (ht : aKd (aty ci k) = 1) (kk : aJ p l e R s m args below meth c Q D cA A ad0 nL c0 s0 (pc + 3) L (.long (lo q k) :: st) (sh, iv, lo, rv)) : aJ p l e R s m args below meth c Q D cA A ad0 nL c0 s0 pc L (.ref (100 + q) :: st) (sh, iv, lo, rv) :=
  fun adr H ls locs cells slots hR => va_get (T := T) (N := N) (fs := aFs adr iv lo rv q ci) hX.1 hX.2.1 hX.2.2.2.2.1 hc.2.1 hX.2.2.2.1 hX.2.2.2.2.2.1 hR.1 q (aW_at (h := (sh, iv, lo, rv)) hs) hc.1 k hk (hX.2.2.2.2.1 _ hw) (fun _ z => z) ((aFs_at (by rw [aCl_N hc]; exact hk)).trans (congrArg some ((aFv_1 ht).trans (rfl : _ = aV adr (.long (lo q k)))))) hd (kk adr H ls locs cells slots hR)
theorem j_getR (hX : aX p s m args c own cc nL D cA A ad0) {ci k q i N : Nat} {C : String} {T : u_T} (hc : aCl ci C T N) (hk : k < N) (hw : Cond.fieldLink own i (T k).1 (T k).2.1 (T k).2.2.1 ∈ gtbl) {a : Nat} (ha : rv q k = some a) (hd : decode cc pc = .ok (.getfield i, 3)) (hs : sh[q]? = some (.inr ci)) (ht : aKd (aty ci k) = 2) (kk : aJ p l e R s m args below meth c Q D cA A ad0 nL c0 s0 (pc + 3) L (.ref a :: st) (sh, iv, lo, rv)) : aJ p l e R s m args below meth c Q D cA A ad0 nL c0 s0 pc L (.ref (100 + q) :: st) (sh, iv, lo, rv) :=
  fun adr H ls locs cells slots hR => va_get (T := T) (N := N) (fs := aFs adr iv lo rv q ci) hX.1 hX.2.1 hX.2.2.2.2.1 hc.2.1 hX.2.2.2.1 hX.2.2.2.2.2.1 hR.1 q (aW_at (h := (sh, iv, lo, rv)) hs) hc.1 k hk (hX.2.2.2.2.1 _ hw) (fun _ z => z) ((aFs_at (by rw [aCl_N hc]; exact hk)).trans (congrArg some ((aFv_2 ht).trans (by rw [ha]; rfl : _ = aV adr (.ref a))))) hd (kk adr H ls locs cells slots hR)
theorem j_getN (hX : aX p s m args c own cc nL D cA A ad0) {ci k q i N : Nat} {C : String} {T : u_T} (hc : aCl ci C T N) (hk : k < N) (hw : Cond.fieldLink own i (T k).1 (T k).2.1 (T k).2.2.1 ∈ gtbl) (ha : rv q k = none) (hd : decode cc pc = .ok (.getfield i, 3)) (hs : sh[q]? = some (.inr ci)) (ht : aKd (aty ci k) = 2) (kk : aJ p l e R s m args below meth c Q D cA A ad0 nL c0 s0 (pc + 3) L (.null :: st) (sh, iv, lo, rv)) : aJ p l e R s m args below meth c Q D cA A ad0 nL c0 s0 pc L (.ref (100 + q) :: st) (sh, iv, lo, rv) :=
  fun adr H ls locs cells slots hR => va_get (T := T) (N := N) (fs := aFs adr iv lo rv q ci) hX.1 hX.2.1 hX.2.2.2.2.1 hc.2.1 hX.2.2.2.1 hX.2.2.2.2.2.1 hR.1 q (aW_at (h := (sh, iv, lo, rv)) hs) hc.1 k hk (hX.2.2.2.2.1 _ hw) (fun _ z => z) ((aFs_at (by rw [aCl_N hc]; exact hk)).trans (congrArg some ((aFv_2 ht).trans (by rw [ha]; rfl : _ = aV adr (.null))))) hd (kk adr H ls locs cells slots hR)
theorem j_putI (hX : aX p s m args c own cc nL D cA A ad0) {ci k q i N : Nat} {C : String} {T : u_T} (hc : aCl ci C T N) (hk : k < N) (hw : Cond.fieldLink own i (T k).1 (T k).2.1 (T k).2.2.1 ∈ gtbl) {v : Int32} (hd : decode cc pc = .ok (.putfield i, 3)) (hs : sh[q]? = some (.inr ci)) (ht : aKd (aty ci k) = 0) (hfin : (T k).2.2.2 = false) (hn : narrow (aty ci k) (.int v) = .int v) (hf : fits (aty ci k) (.int v) = true) (kk : aJ p l e R s m args below meth c Q D cA A ad0 nL c0 s0 (pc + 3) L st (sh, u2 iv q k v, lo, rv)) : aJ p l e R s m args below meth c Q D cA A ad0 nL c0 s0 pc L (.int v :: .ref (100 + q) :: st) (sh, iv, lo, rv) := by
  intro adr H ls locs cells slots hR
  have hN := aCl_N hc
  have e1 := aFs_set (adr := adr) (p := q) (i := iv) (l := lo) (r := rv) (i' := u2 iv q k v) (l' := lo) (r' := rv) (ci := ci) (k := k) (v := .int v) (by rw [hN]; exact hk) ((aFv_0 ht).trans (congrArg Value.int (u2_same iv q k v))) (fun j hj => aFv_u (by first | rfl | exact u2_ne _ _ (Or.inr hj)) (by first | rfl | exact u2_ne _ _ (Or.inr hj)) (by first | rfl | exact u2_ne _ _ (Or.inr hj)))
  have e2 : aW cA adr (sh, u2 iv q k v, lo, rv) = (aW cA adr (sh, iv, lo, rv)).set q (adr (100 + q), .inr (ci, (aFs adr iv lo rv q ci).set k (.int v))) := by
    rw [← e1]
    exact aW_set (h := (sh, iv, lo, rv)) (h' := (sh, u2 iv q k v, lo, rv)) hs rfl (fun z hz x => aCe_row (by first | rfl | exact u2_row _ _ hz) (by first | rfl | exact u2_row _ _ hz) (by first | rfl | exact u2_row _ _ hz) x)
  refine va_put (T := T) (N := N) (fs := aFs adr iv lo rv q ci) (v := .int v) (ty := aty ci k) hX.1 hX.2.1 hX.2.2.2.2.1 hc.2.1 (aty ci) hc.2.2.1 hc.2.2.2 hX.2.2.2.1 hX.2.2.2.2.2.1 hR.1 hR.2.1 hR.2.2.1 q (aW_at (h := (sh, iv, lo, rv)) hs) hc.1 k hk (hX.2.2.2.2.1 _ hw) (fun _ z => z) hfin (hc.2.2.1 k hk) hn hf (by rw [aFs_len, hN]; exact hk) hd (fun H1 locs1 hP1 hD1 hS1 => kk adr H1 ls locs1 cells slots ⟨by rw [e2]; exact hP1, by rw [e2]; exact hD1, hS1, (hR.2.2.2.1 : aWf (sh, iv, lo, rv)), hR.2.2.2.2⟩)
theorem aNr1 {ty : FieldType} {v : Int64} (h : aKd ty = 1) : narrow ty (.long v) = .long v := by cases ty <;> first | rfl | (simp [aKd] at h)
theorem aFt1 {ty : FieldType} {v : Int64} (h : aKd ty = 1) : fits ty (.long v) = true := by cases ty <;> first | rfl | (simp [aKd] at h)
theorem j_putL (hX : aX p s m args c own cc nL D cA A ad0) {ci k q i N : Nat} {C : String} {T : u_T} (hc : aCl ci C T N) (hk : k < N) (hw : Cond.fieldLink own i (T k).1 (T k).2.1 (T k).2.2.1 ∈ gtbl) {v : Int64} (hd : decode cc pc = .ok (.putfield i, 3)) (hs : sh[q]? = some (.inr ci)) (ht : aKd (aty ci k) = 1) (hfin : (T k).2.2.2 = false)  (kk : aJ p l e R s m args below meth c Q D cA A ad0 nL c0 s0 (pc + 3) L st (sh, iv, u2 lo q k v, rv)) : aJ p l e R s m args below meth c Q D cA A ad0 nL c0 s0 pc L (.long v :: .ref (100 + q) :: st) (sh, iv, lo, rv) := by
  intro adr H ls locs cells slots hR
  have hN := aCl_N hc
  have e1 := aFs_set (adr := adr) (p := q) (i := iv) (l := lo) (r := rv) (i' := iv) (l' := u2 lo q k v) (r' := rv) (ci := ci) (k := k) (v := .long v) (by rw [hN]; exact hk) ((aFv_1 ht).trans (congrArg Value.long (u2_same lo q k v))) (fun j hj => aFv_u (by first | rfl | exact u2_ne _ _ (Or.inr hj)) (by first | rfl | exact u2_ne _ _ (Or.inr hj)) (by first | rfl | exact u2_ne _ _ (Or.inr hj)))
  have e2 : aW cA adr (sh, iv, u2 lo q k v, rv) = (aW cA adr (sh, iv, lo, rv)).set q (adr (100 + q), .inr (ci, (aFs adr iv lo rv q ci).set k (.long v))) := by
    rw [← e1]
    exact aW_set (h := (sh, iv, lo, rv)) (h' := (sh, iv, u2 lo q k v, rv)) hs rfl (fun z hz x => aCe_row (by first | rfl | exact u2_row _ _ hz) (by first | rfl | exact u2_row _ _ hz) (by first | rfl | exact u2_row _ _ hz) x)
  refine va_put (T := T) (N := N) (fs := aFs adr iv lo rv q ci) (v := .long v) (ty := aty ci k) hX.1 hX.2.1 hX.2.2.2.2.1 hc.2.1 (aty ci) hc.2.2.1 hc.2.2.2 hX.2.2.2.1 hX.2.2.2.2.2.1 hR.1 hR.2.1 hR.2.2.1 q (aW_at (h := (sh, iv, lo, rv)) hs) hc.1 k hk (hX.2.2.2.2.1 _ hw) (fun _ z => z) hfin (hc.2.2.1 k hk) (aNr1 ht) (aFt1 ht) (by rw [aFs_len, hN]; exact hk) hd (fun H1 locs1 hP1 hD1 hS1 => kk adr H1 ls locs1 cells slots ⟨by rw [e2]; exact hP1, by rw [e2]; exact hD1, hS1, (hR.2.2.2.1 : aWf (sh, iv, lo, rv)), hR.2.2.2.2⟩)
theorem aWf_put {q k v : Nat} (hw : aWf (sh, iv, lo, rv)) (hv : v < 100 + sh.length) : aWf (sh, iv, lo, u2 rv q k (some v)) := by
  intro p j a ha
  have ha : u2 rv q k (some v) p j = some a := ha
  unfold u2 at ha
  split at ha
  · split at ha
    · cases ha; exact hv
    · exact hw p j a ha
  · exact hw p j a ha
theorem aWf_putN {q k : Nat} (hw : aWf (sh, iv, lo, rv)) : aWf (sh, iv, lo, u2 rv q k none) := by
  intro p j a ha
  have ha : u2 rv q k none p j = some a := ha
  unfold u2 at ha
  split at ha
  · split at ha
    · cases ha
    · exact hw p j a ha
  · exact hw p j a ha
theorem aNr2 {ty : FieldType} {v : Nat} (h : aKd ty = 2) : narrow ty (.ref v) = .ref v := by cases ty <;> first | rfl | (simp [aKd] at h)
theorem aFt2 {ty : FieldType} {v : Nat} (h : aKd ty = 2) : fits ty (.ref v) = true := by cases ty <;> first | rfl | (simp [aKd] at h)
theorem aNr2N {ty : FieldType} (h : aKd ty = 2) : narrow ty .null = .null := by cases ty <;> first | rfl | (simp [aKd] at h)
theorem aFt2N {ty : FieldType} (h : aKd ty = 2) : fits ty .null = true := by cases ty <;> first | rfl | (simp [aKd] at h)
theorem j_putR (hX : aX p s m args c own cc nL D cA A ad0) {ci k q i N : Nat} {C : String} {T : u_T} (hc : aCl ci C T N) (hk : k < N) (hw : Cond.fieldLink own i (T k).1 (T k).2.1 (T k).2.2.1 ∈ gtbl) {v : Nat} (hv : v < 100 + sh.length) (hd : decode cc pc = .ok (.putfield i, 3)) (hs : sh[q]? = some (.inr ci)) (ht : aKd (aty ci k) = 2) (hfin : (T k).2.2.2 = false)  (kk : aJ p l e R s m args below meth c Q D cA A ad0 nL c0 s0 (pc + 3) L st (sh, iv, lo, u2 rv q k (some v))) : aJ p l e R s m args below meth c Q D cA A ad0 nL c0 s0 pc L (.ref v :: .ref (100 + q) :: st) (sh, iv, lo, rv) := by
  intro adr H ls locs cells slots hR
  have hN := aCl_N hc
  have e1 := aFs_set (adr := adr) (p := q) (i := iv) (l := lo) (r := rv) (i' := iv) (l' := lo) (r' := u2 rv q k (some v)) (ci := ci) (k := k) (v := .ref (adr v)) (by rw [hN]; exact hk) ((aFv_2 ht).trans (by rw [u2_same]; rfl)) (fun j hj => aFv_u (by first | rfl | exact u2_ne _ _ (Or.inr hj)) (by first | rfl | exact u2_ne _ _ (Or.inr hj)) (by first | rfl | exact u2_ne _ _ (Or.inr hj)))
  have e2 : aW cA adr (sh, iv, lo, u2 rv q k (some v)) = (aW cA adr (sh, iv, lo, rv)).set q (adr (100 + q), .inr (ci, (aFs adr iv lo rv q ci).set k (.ref (adr v)))) := by
    rw [← e1]
    exact aW_set (h := (sh, iv, lo, rv)) (h' := (sh, iv, lo, u2 rv q k (some v))) hs rfl (fun z hz x => aCe_row (by first | rfl | exact u2_row _ _ hz) (by first | rfl | exact u2_row _ _ hz) (by first | rfl | exact u2_row _ _ hz) x)
  refine va_put (T := T) (N := N) (fs := aFs adr iv lo rv q ci) (v := .ref (adr v)) (ty := aty ci k) hX.1 hX.2.1 hX.2.2.2.2.1 hc.2.1 (aty ci) hc.2.2.1 hc.2.2.2 hX.2.2.2.1 hX.2.2.2.2.2.1 hR.1 hR.2.1 hR.2.2.1 q (aW_at (h := (sh, iv, lo, rv)) hs) hc.1 k hk (hX.2.2.2.2.1 _ hw) (fun _ z => z) hfin (hc.2.2.1 k hk) (aNr2 ht) (aFt2 ht) (by rw [aFs_len, hN]; exact hk) hd (fun H1 locs1 hP1 hD1 hS1 => kk adr H1 ls locs1 cells slots ⟨by rw [e2]; exact hP1, by rw [e2]; exact hD1, hS1, (aWf_put hR.2.2.2.1 hv), hR.2.2.2.2⟩)
theorem j_putRF (hX : aX p s m args c own cc nL D cA A ad0) {ci k q i N : Nat} {C : String} {T : u_T} (hc : aCl ci C T N) (hk : k < N) (hw : Cond.fieldLink own i (T k).1 (T k).2.1 (T k).2.2.1 ∈ gtbl) {v : Nat} (hv : v < 100 + sh.length) (hd : decode cc pc = .ok (.putfield i, 3)) (hs : sh[q]? = some (.inr ci)) (ht : aKd (aty ci k) = 2) (hfin : (T k).2.2.2 = true) (hmi : meth.name = "<init>") (hdc : (T k).1 = own)  (kk : aJ p l e R s m args below meth c Q D cA A ad0 nL c0 s0 (pc + 3) L st (sh, iv, lo, u2 rv q k (some v))) : aJ p l e R s m args below meth c Q D cA A ad0 nL c0 s0 pc L (.ref v :: .ref (100 + q) :: st) (sh, iv, lo, rv) := by
  intro adr H ls locs cells slots hR
  have hN := aCl_N hc
  have e1 := aFs_set (adr := adr) (p := q) (i := iv) (l := lo) (r := rv) (i' := iv) (l' := lo) (r' := u2 rv q k (some v)) (ci := ci) (k := k) (v := .ref (adr v)) (by rw [hN]; exact hk) ((aFv_2 ht).trans (by rw [u2_same]; rfl)) (fun j hj => aFv_u (by first | rfl | exact u2_ne _ _ (Or.inr hj)) (by first | rfl | exact u2_ne _ _ (Or.inr hj)) (by first | rfl | exact u2_ne _ _ (Or.inr hj)))
  have e2 : aW cA adr (sh, iv, lo, u2 rv q k (some v)) = (aW cA adr (sh, iv, lo, rv)).set q (adr (100 + q), .inr (ci, (aFs adr iv lo rv q ci).set k (.ref (adr v)))) := by
    rw [← e1]
    exact aW_set (h := (sh, iv, lo, rv)) (h' := (sh, iv, lo, u2 rv q k (some v))) hs rfl (fun z hz x => aCe_row (by first | rfl | exact u2_row _ _ hz) (by first | rfl | exact u2_row _ _ hz) (by first | rfl | exact u2_row _ _ hz) x)
  refine va_putF (T := T) (N := N) (fs := aFs adr iv lo rv q ci) (v := .ref (adr v)) (ty := aty ci k) hX.1 hX.2.1 hX.2.2.2.2.1 hc.2.1 (aty ci) hc.2.2.1 hc.2.2.2 hX.2.2.2.1 hX.2.2.2.2.2.1 hR.1 hR.2.1 hR.2.2.1 q (aW_at (h := (sh, iv, lo, rv)) hs) hc.1 k hk (hX.2.2.2.2.1 _ hw) (fun _ z => z) hfin hmi hdc (hc.2.2.1 k hk) (aNr2 ht) (aFt2 ht) (by rw [aFs_len, hN]; exact hk) hd (fun H1 locs1 hP1 hD1 hS1 => kk adr H1 ls locs1 cells slots ⟨by rw [e2]; exact hP1, by rw [e2]; exact hD1, hS1, (aWf_put hR.2.2.2.1 hv), hR.2.2.2.2⟩)
theorem j_putN (hX : aX p s m args c own cc nL D cA A ad0) {ci k q i N : Nat} {C : String} {T : u_T} (hc : aCl ci C T N) (hk : k < N) (hw : Cond.fieldLink own i (T k).1 (T k).2.1 (T k).2.2.1 ∈ gtbl)  (hd : decode cc pc = .ok (.putfield i, 3)) (hs : sh[q]? = some (.inr ci)) (ht : aKd (aty ci k) = 2) (hfin : (T k).2.2.2 = false)  (kk : aJ p l e R s m args below meth c Q D cA A ad0 nL c0 s0 (pc + 3) L st (sh, iv, lo, u2 rv q k none)) : aJ p l e R s m args below meth c Q D cA A ad0 nL c0 s0 pc L (.null :: .ref (100 + q) :: st) (sh, iv, lo, rv) := by
  intro adr H ls locs cells slots hR
  have hN := aCl_N hc
  have e1 := aFs_set (adr := adr) (p := q) (i := iv) (l := lo) (r := rv) (i' := iv) (l' := lo) (r' := u2 rv q k none) (ci := ci) (k := k) (v := .null) (by rw [hN]; exact hk) ((aFv_2 ht).trans (by rw [u2_same]; rfl)) (fun j hj => aFv_u (by first | rfl | exact u2_ne _ _ (Or.inr hj)) (by first | rfl | exact u2_ne _ _ (Or.inr hj)) (by first | rfl | exact u2_ne _ _ (Or.inr hj)))
  have e2 : aW cA adr (sh, iv, lo, u2 rv q k none) = (aW cA adr (sh, iv, lo, rv)).set q (adr (100 + q), .inr (ci, (aFs adr iv lo rv q ci).set k (.null))) := by
    rw [← e1]
    exact aW_set (h := (sh, iv, lo, rv)) (h' := (sh, iv, lo, u2 rv q k none)) hs rfl (fun z hz x => aCe_row (by first | rfl | exact u2_row _ _ hz) (by first | rfl | exact u2_row _ _ hz) (by first | rfl | exact u2_row _ _ hz) x)
  refine va_put (T := T) (N := N) (fs := aFs adr iv lo rv q ci) (v := .null) (ty := aty ci k) hX.1 hX.2.1 hX.2.2.2.2.1 hc.2.1 (aty ci) hc.2.2.1 hc.2.2.2 hX.2.2.2.1 hX.2.2.2.2.2.1 hR.1 hR.2.1 hR.2.2.1 q (aW_at (h := (sh, iv, lo, rv)) hs) hc.1 k hk (hX.2.2.2.2.1 _ hw) (fun _ z => z) hfin (hc.2.2.1 k hk) (aNr2N ht) (aFt2N ht) (by rw [aFs_len, hN]; exact hk) hd (fun H1 locs1 hP1 hD1 hS1 => kk adr H1 ls locs1 cells slots ⟨by rw [e2]; exact hP1, by rw [e2]; exact hD1, hS1, (aWf_putN hR.2.2.2.1), hR.2.2.2.2⟩)
end AH
