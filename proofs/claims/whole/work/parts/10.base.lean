/-! abstract worlds: places instead of addresses; ints, longs and references as tables over (place, index) -/
abbrev aSh : Type := (FieldType × Nat) ⊕ Nat
abbrev aHp : Type := List aSh × (Nat → Nat → Int32) × (Nat → Nat → Int64) × (Nat → Nat → Option Nat)
/-- the good words of the tables -/
def gtbl : List Cond := lw_tbl.filter goodWord
theorem gm {w : Cond} (i : Nat) (h : lw_tbl[i]? = some w) (g : goodWord w = true) : w ∈ gtbl := List.mem_filter.mpr ⟨List.mem_of_getElem? h, g⟩
theorem gg (w : Cond) (h : w ∈ gtbl) : (w.onTables && w.keeps) = true ∨ ∃ ty, w = .arrayClass ty := good_of_word (List.mem_filter.mp h).2
abbrev acl : List vw_C := [(RX0, TX0, 15), (RX1, TX1, 6), (RX2, TX2, 9), (RX3, TX3, 5), (RX4, TX4, 4), (RX5, TX5, 2), (RX6, TX6, 7), (RX7, TX7, 11), (RX8, TX8, 1), (RX9, TX9, 6), (RX10, TX10, 3), (RX11, TX11, 14), (RX12, TX12, 58)]
def aty (ci : Nat) : Nat → FieldType := match ci with
  | 0 => tyX0 | 1 => tyX1 | 2 => tyX2 | 3 => tyX3 | 4 => tyX4 | 5 => tyX5 | 6 => tyX6 | 7 => tyX7 | 8 => tyX8 | 9 => tyX9 | 10 => tyX10 | 11 => tyX11 | _ => tyX12
def aN (ci : Nat) : Nat := match acl[ci]? with
  | some q => q.2.2
  | none => 0
def aV (adr : Nat → Nat) (v : Value) : Value := match v with
  | .ref k => .ref (adr k)
  | w => w
theorem aV_cat (adr : Nat → Nat) (v : Value) : (aV adr v).category = v.category := by cases v <;> rfl
def aFv (adr : Nat → Nat) (i : Nat → Nat → Int32) (l : Nat → Nat → Int64) (r : Nat → Nat → Option Nat) (p k : Nat) (ty : FieldType) : Value := match ty with
  | .long => .long (l p k)
  | .object _ => va_rf ((r p k).map adr)
  | .array _ => va_rf ((r p k).map adr)
  | _ => .int (i p k)
def aAr (adr : Nat → Nat) (i : Nat → Nat → Int32) (l : Nat → Nat → Int64) (r : Nat → Nat → Option Nat) (p : Nat) (ty : FieldType) : (Nat → Int32) ⊕ (Nat → Int64) ⊕ (Nat → UInt32) ⊕ (Nat → UInt64) ⊕ (Nat → Option Nat) := match ty with
  | .long => .inr (.inl (l p))
  | .object _ => .inr (.inr (.inr (.inr (fun j => (r p j).map adr))))
  | _ => .inl (i p)
def aCe (cA : FieldType → ClassId) (adr : Nat → Nat) (h : aHp) (p : Nat) (sh : aSh) : va_E := match sh with
  | .inl q => .inl (cA q.1, q.2, aAr adr h.2.1 h.2.2.1 h.2.2.2 p q.1)
  | .inr ci => .inr (ci, (List.range (aN ci)).map (fun k => aFv adr h.2.1 h.2.2.1 h.2.2.2 p k (aty ci k)))
def aW (cA : FieldType → ClassId) (adr : Nat → Nat) (h : aHp) : va_W := (List.range h.1.length).map (fun p => (adr (100 + p), aCe cA adr h p (h.1.getD p (.inr 0))))
theorem aW_len (cA : FieldType → ClassId) (adr : Nat → Nat) (h : aHp) : (aW cA adr h).length = h.1.length := by simp [aW]
theorem aW_at {cA : FieldType → ClassId} {adr : Nat → Nat} {h : aHp} {p : Nat} {sh : aSh} (hs : h.1[p]? = some sh) : (aW cA adr h)[p]? = some (adr (100 + p), aCe cA adr h p sh) := by
  have hl : p < h.1.length := (List.getElem?_eq_some_iff.mp hs).1
  simp [aW, List.getElem?_range hl, List.getD, hs]
theorem aW_no {cA : FieldType → ClassId} {adr : Nat → Nat} {h : aHp} {p : Nat} (hs : h.1.length ≤ p) : (aW cA adr h)[p]? = none := by
  apply List.getElem?_eq_none
  rw [aW_len]
  exact hs
theorem aW_set {cA : FieldType → ClassId} {adr : Nat → Nat} {h h' : aHp} {p : Nat} {sh : aSh} (hs : h.1[p]? = some sh) (e : h'.1 = h.1) (ho : ∀ q, q ≠ p → ∀ sh, aCe cA adr h' q sh = aCe cA adr h q sh) : aW cA adr h' = (aW cA adr h).set p (adr (100 + p), aCe cA adr h' p sh) := by
  apply List.ext_getElem?
  intro k
  by_cases hk : k < h.1.length
  · have hk' : h.1[k]? = some h.1[k] := List.getElem?_eq_getElem hk
    rw [aW_at (h := h') (sh := h.1[k]) (by rw [e]; exact hk'), List.getElem?_set]
    by_cases hp : p = k
    · subst hp
      rw [if_pos rfl, if_pos (by rw [aW_len]; exact hk)]
      rw [hk'] at hs
      rw [Option.some.inj hs]
    · rw [if_neg hp, aW_at hk', ho k (fun q => hp q.symm)]
  · have h1 : h.1.length ≤ k := Nat.le_of_not_lt hk
    rw [aW_no (h := h') (by rw [e]; exact h1), List.getElem?_set]
    by_cases hp : p = k
    · exact absurd (List.getElem?_eq_some_iff.mp hs).1 (by omega)
    · rw [if_neg hp, aW_no h1]
def u2 {α : Type} (f : Nat → Nat → α) (p k : Nat) (v : α) : Nat → Nat → α := fun q j => if q = p then (if j = k then v else f q j) else f q j
theorem u2_same {α : Type} (f : Nat → Nat → α) (p k : Nat) (v : α) : u2 f p k v p k = v := by simp [u2]
theorem u2_ne {α : Type} (f : Nat → Nat → α) {p k q j : Nat} (v : α) (h : q ≠ p ∨ j ≠ k) : u2 f p k v q j = f q j := by
  unfold u2
  by_cases h1 : q = p
  · rw [if_pos h1]
    by_cases h2 : j = k
    · rcases h with h | h
      · exact absurd h1 h
      · exact absurd h2 h
    · rw [if_neg h2]
  · rw [if_neg h1]
theorem u2_row {α : Type} (f : Nat → Nat → α) {p q k : Nat} (v : α) (h : q ≠ p) : u2 f p k v q = f q := by
  funext j
  exact u2_ne f v (Or.inl h)
def aWf (h : aHp) : Prop := ∀ p k a, h.2.2.2 p k = some a → a < 100 + h.1.length
def aSz (sh : aSh) : Nat := match sh with
  | .inl q => q.2
  | .inr ci => aN ci
def aSn (s : List aSh) : Nat := (s.map aSz).sum
theorem aSn_app (s t : List aSh) : aSn (s ++ t) = aSn s + aSn t := by simp [aSn]
def aLs (adr : Nat → Nat) : Nat → List (Option Value) → List (Nat × Value)
  | _, [] => []
  | i, none :: L => aLs adr (i + 1) L
  | i, some v :: L => (i, aV adr v) :: aLs adr (i + 1) L
theorem aLs_mem {adr : Nat → Nat} : ∀ (L : List (Option Value)) (i : Nat) (q : Nat × Value), q ∈ aLs adr i L ↔ ∃ k v, L[k]? = some (some v) ∧ q = (i + k, aV adr v) := by
  intro L
  induction L with
  | nil => intro i q; simp [aLs]
  | cons x L ih =>
    intro i q
    have key : (∃ k v, (x :: L)[k]? = some (some v) ∧ q = (i + k, aV adr v)) ↔ (∃ v, x = some v ∧ q = (i, aV adr v)) ∨ ∃ k v, L[k]? = some (some v) ∧ q = (i + 1 + k, aV adr v) := by
      constructor
      · rintro ⟨k, v, h1, h2⟩
        cases k with
        | zero => exact Or.inl ⟨v, by simpa using h1, h2⟩
        | succ k => exact Or.inr ⟨k, v, by simpa using h1, by rw [h2]; congr 1; omega⟩
      · rintro (⟨v, h1, h2⟩ | ⟨k, v, h1, h2⟩)
        · exact ⟨0, v, by simp [h1], h2⟩
        · exact ⟨k + 1, v, by simpa using h1, by rw [h2]; congr 1; omega⟩
    rw [key]
    cases x with
    | none => simp only [aLs]; rw [ih]; simp
    | some w => simp only [aLs, List.mem_cons]; rw [ih]; simp
theorem aLs_get {adr : Nat → Nat} {ls : Array Slot} {nL : Nat} {L : List (Option Value)} (h : lv_has ls nL (aLs adr 0 L)) {i : Nat} {v : Value} (hi : L[i]? = some (some v)) : ls[i]? = some (.val (aV adr v)) :=
  h.2.2 (i, aV adr v) ((aLs_mem L 0 _).mpr ⟨i, v, hi, by simp⟩)
def aNo2 (L : List (Option Value)) (i : Nat) : Bool := match i with
  | 0 => true
  | j + 1 => match L[j]? with
    | some (some v) => v.category == 1
    | _ => true
theorem aLs_st1 {adr : Nat → Nat} {ls : Array Slot} {nL : Nat} {L : List (Option Value)} (i : Nat) (v : Value) (hn : aNo2 L i = true) (h : lv_has ls nL ((i, aV adr v) :: (aLs adr 0 L).filter (fun q => !(q.1 == i) && !(q.1 + 1 == i && q.2.category == 2)))) : lv_has ls nL (aLs adr 0 (L.set i (some v))) := by
  refine ⟨h.1, h.2.1, fun q hq => h.2.2 q ?_⟩
  obtain ⟨k, w, hk, rfl⟩ := (aLs_mem _ 0 q).mp hq
  rw [List.getElem?_set] at hk
  by_cases hp : i = k
  · subst hp
    rw [if_pos rfl] at hk
    split at hk
    · cases hk; simp
    · cases hk
  · rw [if_neg hp] at hk
    refine List.mem_cons_of_mem _ (List.mem_filter.mpr ⟨(aLs_mem L 0 _).mpr ⟨k, w, hk, rfl⟩, ?_⟩)
    have h1 : ¬ (0 + k) = i := by omega
    have h2 : ¬ (0 + k + 1 = i ∧ (aV adr w).category = 2) := by
      rintro ⟨e1, e2⟩
      have : i = k + 1 := by omega
      subst this
      rw [aV_cat] at e2
      simp [aNo2, hk, e2] at hn
    simp only [Bool.and_eq_true, Bool.not_eq_true', beq_eq_false_iff_ne, ne_eq, Bool.and_eq_false_iff]
    refine ⟨h1, ?_⟩
    by_cases e1 : 0 + k + 1 = i
    · exact Or.inr (fun e2 => h2 ⟨e1, e2⟩)
    · exact Or.inl e1
theorem aLs_st2 {adr : Nat → Nat} {ls : Array Slot} {nL : Nat} {L : List (Option Value)} (i : Nat) (v : Value) (hn : aNo2 L i = true) (h : lv_has ls nL ((i, aV adr v) :: (aLs adr 0 L).filter (fun q => !(q.1 == i) && (!(q.1 == i + 1) && !(q.1 + 1 == i && q.2.category == 2))))) : lv_has ls nL (aLs adr 0 ((L.set i (some v)).set (i + 1) none)) := by
  refine ⟨h.1, h.2.1, fun q hq => h.2.2 q ?_⟩
  obtain ⟨k, w, hk, rfl⟩ := (aLs_mem _ 0 q).mp hq
  rw [List.getElem?_set] at hk
  by_cases hp1 : i + 1 = k
  · rw [if_pos hp1] at hk
    split at hk <;> cases hk
  rw [if_neg hp1, List.getElem?_set] at hk
  by_cases hp : i = k
  · subst hp
    rw [if_pos rfl] at hk
    split at hk
    · cases hk; simp
    · cases hk
  · rw [if_neg hp] at hk
    refine List.mem_cons_of_mem _ (List.mem_filter.mpr ⟨(aLs_mem L 0 _).mpr ⟨k, w, hk, rfl⟩, ?_⟩)
    have h1 : ¬ (0 + k) = i := by omega
    have h3 : ¬ (0 + k) = i + 1 := by omega
    have h2 : ¬ (0 + k + 1 = i ∧ (aV adr w).category = 2) := by
      rintro ⟨e1, e2⟩
      have : i = k + 1 := by omega
      subst this
      rw [aV_cat] at e2
      simp [aNo2, hk, e2] at hn
    simp only [Bool.and_eq_true, Bool.not_eq_true', beq_eq_false_iff_ne, ne_eq, Bool.and_eq_false_iff]
    refine ⟨h1, h3, ?_⟩
    by_cases e1 : 0 + k + 1 = i
    · exact Or.inr (fun e2 => h2 ⟨e1, e2⟩)
    · exact Or.inl e1
/-- a method's locals at its entry -/
def aEn : List Value → List (Option Value)
  | [] => []
  | v :: vs => if v.category = 2 then some v :: none :: aEn vs else some v :: aEn vs
def aEnt (vs : List Value) (n : Nat) : List (Option Value) := aEn vs ++ List.replicate (n - (aEn vs).length) none
theorem aLs_none (adr : Nat → Nat) : ∀ (n i : Nat), aLs adr i (List.replicate n none) = [] := by
  intro n
  induction n with
  | zero => intro i; rfl
  | succ n ih => intro i; exact ih (i + 1)
theorem aLs_en (adr : Nat → Nat) : ∀ (vs : List Value) (i n : Nat), aLs adr i (aEn vs ++ List.replicate n none) = lv_args i (vs.map (aV adr)) := by
  intro vs
  induction vs with
  | nil => intro i n; exact aLs_none adr n i
  | cons v vs ih =>
    intro i n
    simp only [aEn, List.map_cons, lv_args, aV_cat]
    by_cases hv : v.category = 2
    · rw [if_pos hv, if_pos hv]
      exact congrArg ((i, aV adr v) :: ·) (ih (i + 2) n)
    · rw [if_neg hv, if_neg hv]
      exact congrArg ((i, aV adr v) :: ·) (ih (i + 1) n)
theorem aEn_len : ∀ (vs : List Value), (aEn vs).length = (lg_sl vs).length := by
  intro vs
  induction vs with
  | nil => rfl
  | cons v vs ih =>
    simp only [aEn, lg_sl, List.flatMap_cons, List.length_append]
    rw [show (vs.flatMap fun v => if v.category = 2 then [Slot.val v, .second] else [.val v]).length = (aEn vs).length from ih.symm]
    by_cases hv : v.category = 2
    · simp [hv]; omega
    · simp [hv]; omega
theorem lg_sl_map (adr : Nat → Nat) : ∀ (vs : List Value), (lg_sl (vs.map (aV adr))).length = (lg_sl vs).length := by
  intro vs
  rw [← aEn_len, ← aEn_len]
  induction vs with
  | nil => rfl
  | cons v vs ih =>
    simp only [aEn, List.map_cons, aV_cat]
    by_cases hv : v.category = 2
    · simp [hv, ih]
    · simp [hv, ih]
theorem aEnt_has (adr : Nat → Nat) (vs : List Value) {n : Nat} (h : (lg_sl vs).length ≤ n) : lv_has ((lg_sl (vs.map (aV adr)) ++ List.replicate (n - (lg_sl (vs.map (aV adr))).length) Slot.unset).toArray) n (aLs adr 0 (aEnt vs n)) := by
  have h1 := lv_entry (vs.map (aV adr)) (n := n) (by rw [lg_sl_map]; exact h)
  unfold aEnt
  rw [aLs_en]
  exact h1
theorem aEnt_len (vs : List Value) {n : Nat} (h : (lg_sl vs).length ≤ n) : (aEnt vs n).length = n := by
  unfold aEnt
  rw [List.length_append, List.length_replicate, aEn_len]
  omega
