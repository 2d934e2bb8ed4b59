/-! THE CLAIM OUT OF ONE WALK OF THE LAW'S BODY. Your part is whole_start (and what it stands on); all else here is the same for every law, but numbers. -/
def R_law : String := "WokenBorderLaw"
def lw_P (b : Addr) (xs : List Int32) (args : Array Value) (s : State) : Prop := args = #[.ref b] ∧ s.IntsAt b xs ∧ xs.length ≤ 3072 ∧ (Jvm.Cond.and given_1 narrow_1).before args s = true
def lw_Q (_ : Array Value) (s : State) (o : Outcome) (t : State) : Prop := o = .returned (some (.int 1)) ∧ Framed s o t [] 601024 7293034
def lw_Z (below : List Frame) (a : Array Value) (s : State) : State → Prop := fun t => ∃ o, t.status = .running ∧ Ended t below o ∧ lw_Q a s o t
/-- the law's own end, with 1 on the stack, nothing written that was there before, its room as the claim has it -/
theorem lw_ret {p : Program} {l : Launch} {e : Env} {s : State} {m : MethodId} {below : List Frame} {meth : Method} {c : Code} {b : Nat} (hx : p.tables.exec = Jvm.exec) (hb : c.code = code) (hr : meth.sig.returnType = ret) (hlocks : meth.locks = false) {pc : Nat} {H : Heap} {ls : Array Slot} (hdg : decode code pc = .ok (.ireturn, 1)) : W p l e room_1 s m #[Value.ref b] below meth c H [] 601024 7293034 (lw_Z below #[Value.ref b] s) (F0 m pc ls [.int 1]) := by
  intro T hT X
  obtain ⟨fs, hret, hrun, hended, hW, hframe⟩ := X.leave (v := some (.int 1)) (hlocks := hlocks) (fun h => by rw [hr] at h; cases h)
  have hmeth' : T.vm.method? m = some meth := X.method'
  refine ⟨T.setFrames fs, ?_, .returned (some (.int 1)), hrun, hended, rfl, ⟨_, rfl⟩, hW, hframe⟩
  jvm_step X.here [X.here.top, hx, hb, hdg, hmeth', hr, ret, narrow_b1]
  (try refine ⟨rfl, ?_⟩); (try refine ⟨rfl, ?_⟩)
  first | (intro acts; rw [hret _ acts rfl rfl rfl]) | rw [hret _ _ rfl rfl rfl]
  exact Steps.refl _
/-- what holds at the law's entry: the machine, the code, the tables' words (any of lw_tbl by 'hts w (by decide +kernel)'), the script of L ints xs at the cell b, what the Statement gives of the start (any of its parts by flat_of_before) -/
def lw_At (p : Program) (s : State) (m : MethodId) (meth : Method) (c : Code) (b L : Nat) (xs : Nat → Int32) : Prop :=
  p.tables.exec = Jvm.exec ∧ c.code = code ∧ meth.sig.returnType = ret ∧ c.maxLocals = 7 ∧ s.vm.findClass R_law = some m.cls ∧ (∀ w ∈ lw_tbl, w.before #[Value.ref b] s = true) ∧ va_X b L xs s s.heap ∧ b < s.heap.size ∧ meth.locks = false ∧ (Jvm.Cond.and given_1 narrow_1).before #[Value.ref b] s = true
/-! the law's entry: what the premises say, as the context of abstract worlds -/
def aTm (i : Nat) : Term := match i with
  | 0 => .string RX11 135 | 1 => .string RX1 97 | 2 => .string RX4 79 | 3 => .string RX5 49 | 4 => .string RX12 254 | 5 => .string RX12 26 | 6 => .string RX12 260 | _ => .string RX12 262
def lwF : List Cond := flatC (Jvm.Cond.and given_1 narrow_1)
theorem lw1 : ∀ j, j < 4 → 1 ≤ j → Cond.laysStatic "WokenBorder$Car" (aTnm j) "[I" ∈ lw_tbl := by decide +kernel
theorem lw2 : Cond.initialized "WokenBorder$Car" ∈ lw_tbl := by decide +kernel
theorem lw3 : ∀ j, j < 4 → 1 ≤ j → Cond.arrayOf (.static "WokenBorder$Car" (aTnm j) "[I") .int ∈ lwF ∧ Cond.eq (.length (.static "WokenBorder$Car" (aTnm j) "[I")) (.int 14) ∈ lwF := by decide +kernel
theorem lw4 : ∀ j, j < 4 → 1 ≤ j → ∀ k, k < 14 → Cond.eq (.elem (.static "WokenBorder$Car" (aTnm j) "[I") (.int (Int32.ofNat k))) (.int ((aTab j).getD k 0)) ∈ lwF := by decide +kernel
theorem lw5 : ∀ i, i < 8 → Cond.exactly (aTm i) "java/lang/String" ∈ lwF ∧ Cond.eq (.field (aTm i) "java/lang/String" "coder" "B") (.int 0) ∈ lwF ∧ Cond.arrayOf (.field (aTm i) "java/lang/String" "value" "[B") .byte ∈ lwF ∧ Cond.eq (.length (.field (aTm i) "java/lang/String" "value" "[B")) (.int (Int32.ofNat (aLen.getD i 0))) ∈ lwF := by decide +kernel
theorem lw6 : ∀ i, i < 8 → ∀ j, j < aLen.getD i 0 → Cond.eq (.elem (.field (aTm i) "java/lang/String" "value" "[B") (.int (Int32.ofNat j))) (.int ((aStr.getD i []).getD j 0)) ∈ lwF := by decide +kernel
theorem lw7 : ∀ i, i < 8 → ∀ j, j < 8 → i ≠ j → Cond.not (Cond.eq (aTm i) (aTm j)) ∈ lwF ∨ Cond.not (Cond.eq (aTm j) (aTm i)) ∈ lwF := by decide +kernel
theorem lw8 : Cond.laysStatic "java/lang/String" "COMPACT_STRINGS" "Z" ∈ lw_tbl ∧ Cond.initialized "java/lang/String" ∈ lw_tbl ∧ Cond.laysStatic "jdk/internal/util/Preconditions" "SIOOBE_FORMATTER" "Ljava/util/function/BiFunction;" ∈ lw_tbl ∧ Cond.initialized "jdk/internal/util/Preconditions" ∈ lw_tbl := by decide +kernel
theorem lw9 : Cond.eq (.static "java/lang/String" "COMPACT_STRINGS" "Z") (.int 1) ∈ lwF ∧ Cond.isRef (.static "jdk/internal/util/Preconditions" "SIOOBE_FORMATTER" "Ljava/util/function/BiFunction;") ∈ lwF := by decide +kernel
theorem lw10 : ∀ q ∈ aLdc, Cond.stringRef q.1 q.2.1 q.2.2.1 ∈ lw_tbl := by decide +kernel
theorem lw11 : ∀ q ∈ aLdc, (q.2.2.2 < 8) ∧ (Term.string q.1 q.2.1 = aTm q.2.2.2 ∨ Cond.eq (aTm q.2.2.2) (.string q.1 q.2.1) ∈ lwF ∨ Cond.eq (.string q.1 q.2.1) (aTm q.2.2.2) ∈ lwF) := by decide +kernel
theorem lw12 : ∀ w ∈ aNst, w ∈ lw_tbl ∧ w.onTables = true := by decide +kernel
theorem lw13 : Cond.arrayOver (.object "WokenBorder$Law") ∈ lw_tbl ∧ Cond.arrayOver (.object "WokenBorder$Lines") ∈ lw_tbl := by decide +kernel
theorem va_eqR2 {args : Array Value} {s : State} {t u : Term} {a : Nat} (h : (Cond.eq t u).before args s = true) (hu : u.eval args s none [] s = some (.ref a)) : t.eval args s none [] s = some (.ref a) := va_eqv h hu
/-- the context at the law's entry -/
theorem lw_ctx {p : Program} {s : State} {m : MethodId} {meth : Method} {c : Code} {b L : Nat} {xs : Nat → Int32} (C0 : lw_At p s m meth c b L xs) : ∃ (D : va_G) (cA : FieldType → ClassId) (ad0 : Nat → Nat), aX p s m #[Value.ref b] c R_law code 7 D cA (fun q => s.heap.size ≤ q) ad0 ∧ aE s ∧ ad0 4 = b := by
  obtain ⟨hx, hb, hret, hml, hown, hts, hX, hbl, hlk, hgv⟩ := C0
  have hF : ∀ w ∈ lwF, w.before #[Value.ref b] s = true := flat_of_before _ hgv
  have hG : ∀ w ∈ gtbl, w.before #[Value.ref b] s = true := fun w hw => hts w (List.mem_filter.mp hw).1
  have hA : ∀ a : Nat, a < s.heap.size → ¬ (s.heap.size ≤ a) := fun a ha => by omega
  -- classes
  have hcl : ∀ q ∈ acl, (∀ w ∈ u_ws q.1 q.2.1 q.2.2, w ∈ gtbl) ∧ ∃ n, Cond.instantiable q.1 n ∈ gtbl := by
    intro q hq
    simp only [acl, List.mem_cons, List.not_mem_nil, or_false] at hq
    rcases hq with rfl | rfl | rfl | rfl | rfl | rfl | rfl | rfl | rfl | rfl | rfl | rfl | rfl

    · exact ⟨kX0.2.1, _, wIn_RX0⟩
    · exact ⟨kX1.2.1, _, wIn_RX1⟩
    · exact ⟨kX2.2.1, _, wIn_RX2⟩
    · exact ⟨kX3.2.1, _, wIn_RX3⟩
    · exact ⟨kX4.2.1, _, wIn_RX4⟩
    · exact ⟨kX5.2.1, _, wIn_RX5⟩
    · exact ⟨kX6.2.1, _, wIn_RX6⟩
    · exact ⟨kX7.2.1, _, wIn_RX7⟩
    · exact ⟨kX8.2.1, _, wIn_RX8⟩
    · exact ⟨kX9.2.1, _, wIn_RX9⟩
    · exact ⟨kX10.2.1, _, wIn_RX10⟩
    · exact ⟨kX11.2.1, _, wIn_RX11⟩
    · exact ⟨kX12.2.1, _, wIn_RX12⟩
  have hD : ∀ c : Nat, ∃ d : ClassId × (Nat → Nat), ∀ q, acl[c]? = some q → u_Kn s q.1 q.2.1 q.2.2 d.1 d.2 := by
    intro c
    cases hc : acl[c]? with
    | none => exact ⟨(m.cls, fun _ => 0), fun q hq => by cases hq⟩
    | some q =>
      obtain ⟨h1, n, h2⟩ := hcl q (List.mem_of_getElem? hc)
      obtain ⟨cC, iS, h3⟩ := u_known (ws := gtbl) (args := #[Value.ref b]) (s := s) hG h1 (hG _ h2)
      exact ⟨(cC, iS), fun q' hq' => by cases hq'; exact h3⟩
  obtain ⟨d, hd⟩ := Classical.skolem.mp hD
  -- array classes
  have hE : aE s := ⟨va_AO.of (hts _ lw13.1), va_AO.of (hts _ lw13.2)⟩
  have hP : ∀ ty, Cond.arrayClass ty ∈ gtbl → (∀ C, ty ≠ .object C) → ∃ q, ArrOfT s q ty ∧ va_RA s q ty := by
    intro ty hty hno
    obtain ⟨q, k, comp, h1, h2, h3⟩ := Cond.arrayClass_spec (hG _ hty)
    refine ⟨q, fun N z => ⟨(fun k h => by cases h), k, h2, comp, h3⟩, ?_⟩
    cases ty with
    | object C => exact absurd rfl (hno C)
    | _ => exact h1
  have hO : ∀ C, va_AO C s → ∃ q, ArrOfT s q (.object C) ∧ va_RA s q (.object C) := by
    intro C hC
    obtain ⟨comp, q, k, h1, h2, h3, h4, h5⟩ := Cond.arrayOver_spec hC
    exact ⟨q, fun N z => ⟨(fun k h => by cases h), k, h3, comp, h4⟩, k, comp, h3, h4, h1, h5⟩
  have hC : ∀ ty : FieldType, ∃ q : ClassId, (∃ q, ArrOfT s q ty ∧ va_RA s q ty) → ArrOfT s q ty ∧ va_RA s q ty := by
    intro ty
    by_cases h : ∃ q, ArrOfT s q ty ∧ va_RA s q ty
    · obtain ⟨q, hq⟩ := h
      exact ⟨q, fun _ => hq⟩
    · exact ⟨m.cls, fun z => absurd z h⟩
  obtain ⟨cA, hcA⟩ := Classical.skolem.mp hC
  -- static arrays
  have hT : ∀ j : Nat, ∃ t : Nat, j < 4 → 1 ≤ j → (Term.static "WokenBorder$Car" (aTnm j) "[I").eval #[Value.ref b] s none [] s = some (.ref t) ∧ va_T .int t 14 (fun k => .int ((aTab j).getD k 0)) (fun q => s.heap.size ≤ q) s s.heap := by
    intro j
    by_cases hj : j < 4 ∧ 1 ≤ j
    · obtain ⟨t, h1, h2⟩ := va_Tof (args := #[Value.ref b]) (s := s) (tm := .static "WokenBorder$Car" (aTnm j) "[I") (ty := .int) (N := 14) (f := fun k => .int ((aTab j).getD k 0)) (A := fun q => s.heap.size ≤ q) (by decide) (hF _ (lw3 j hj.1 hj.2).1) (va_eqt (hF _ (lw3 j hj.1 hj.2).2)) (fun k hk => va_eqt (hF _ (lw4 j hj.1 hj.2 k hk))) hA
      exact ⟨t, fun _ _ => ⟨h1, h2⟩⟩
    · exact ⟨0, fun h1 h2 => absurd ⟨h1, h2⟩ hj⟩
  obtain ⟨tT, hT⟩ := Classical.skolem.mp hT
  -- strings
  obtain ⟨adK, adV, hS, hSe⟩ := vk_Sof (args := #[Value.ref b]) (s := s) (N := 8) (tm := aTm) (len := aLen) (byt := aStr) (A := fun q => s.heap.size ≤ q) (by decide) (fun i hi => hF _ (lw5 i hi).1) (fun i hi => hF _ (lw5 i hi).2.1) (fun i hi => hF _ (lw5 i hi).2.2.1) (fun i hi => hF _ (lw5 i hi).2.2.2) (fun i hi j hj => hF _ (lw6 i hi j hj)) (fun i j hi hj hne => (lw7 i hi j hj hne).imp (fun h => hF _ h) (fun h => hF _ h)) hA
  -- the formatter
  obtain ⟨vF, hvF, hvr⟩ := Cond.isRef_spec (hF _ lw9.2)
  have hZF := va_Zof (A := fun q => s.heap.size ≤ q) (hts _ lw8.2.2.1) (hts _ lw8.2.2.2) hvF hA
  obtain ⟨fF, hfF⟩ : ∃ fF : Nat, vF = .null ∨ vF = .ref fF := by
    cases vF with
    | null => exact ⟨0, Or.inl rfl⟩
    | ref a => exact ⟨a, Or.inr rfl⟩
    | _ => exact absurd hvr (by simp [Value.isRef])
  obtain ⟨ad, had⟩ : ∃ ad : Nat → Nat, ad = fun k => if k < 4 then tT k else if k = 4 then b else if k = 5 then fF else if k < 30 then adK (k - 10) else adV (k - 30) := ⟨_, rfl⟩
  refine ⟨(fun c => (d c).1, fun c => (d c).2), cA, ad, ⟨hx, hb, hml, hown, hG, ⟨fun c q hq => hd c q hq, fun k q hk => ?_⟩, fun q hq => hq, ?_, ?_, ?_, ?_, ?_, ?_⟩, hE, by rw [had]; rfl⟩
  · have h6 : k < 6 := (List.getElem?_eq_some_iff.mp hk).1
    have hcase : k = 0 ∨ k = 1 ∨ k = 2 ∨ k = 3 ∨ k = 4 ∨ k = 5 := by omega
    rcases hcase with rfl | rfl | rfl | rfl | rfl | rfl <;> cases hk
    · exact hcA _ (hP _ wAr_int (fun C h => by cases h))
    · exact hcA _ (hP _ wAr_byte (fun C h => by cases h))
    · exact hcA _ (hP _ wAr_boolean (fun C h => by cases h))
    · exact hcA _ (hP _ wAr_long (fun C h => by cases h))
    · exact hcA _ (hO _ hE.1)
    · exact hcA _ (hO _ hE.2)
  · intro j h1 h3
    have hj : j < 4 := by omega
    have e : ad j = tT j := by rw [had]; exact if_pos hj
    rw [e]
    obtain ⟨h4, h5⟩ := hT j hj h1
    exact ⟨va_Zof (hts _ (lw1 j hj h1)) (hts _ lw2) h4 hA, h5⟩
  · intro i hi
    have e1 : ad (10 + i) = adK i := by
      rw [had]
      show (if 10 + i < 4 then tT (10 + i) else if 10 + i = 4 then b else if 10 + i = 5 then fF else if 10 + i < 30 then adK (10 + i - 10) else adV (10 + i - 30)) = _
      rw [if_neg (by omega), if_neg (by omega), if_neg (by omega), if_pos (by omega), show 10 + i - 10 = i by omega]
    have e2 : ad (30 + i) = adV i := by
      rw [had]
      show (if 30 + i < 4 then tT (30 + i) else if 30 + i = 4 then b else if 30 + i = 5 then fF else if 30 + i < 30 then adK (30 + i - 10) else adV (30 + i - 30)) = _
      rw [if_neg (by omega), if_neg (by omega), if_neg (by omega), if_neg (by omega), show 30 + i - 30 = i by omega]
    rw [e1, e2]
    exact hS.1 i hi
  · exact va_Zof (hts _ lw8.1) (hts _ lw8.2.1) (va_eqi (hF _ lw9.1)) hA
  · intro q hq
    obtain ⟨h8, h9⟩ := lw11 q hq
    have e1 : ad (10 + q.2.2.2) = adK q.2.2.2 := by
      rw [had]
      show (if 10 + q.2.2.2 < 4 then tT (10 + q.2.2.2) else if 10 + q.2.2.2 = 4 then b else if 10 + q.2.2.2 = 5 then fF else if 10 + q.2.2.2 < 30 then adK (10 + q.2.2.2 - 10) else adV (10 + q.2.2.2 - 30)) = _
      rw [if_neg (by omega), if_neg (by omega), if_neg (by omega), if_pos (by omega), show 10 + q.2.2.2 - 10 = q.2.2.2 by omega]
    rw [e1]
    have h7 := hSe _ h8
    refine ⟨hts _ (lw10 q hq), ?_⟩
    have h6 : (Term.string q.1 q.2.1).eval #[Value.ref b] s none [] s = some (.ref (adK q.2.2.2)) := by
      rcases h9 with h9 | h9 | h9
      · rw [h9]; exact h7
      · exact va_eqR (hF _ h9) h7
      · exact va_eqR2 (hF _ h9) h7
    exact h6
  · rcases hfF with rfl | rfl
    · exact Or.inl hZF
    · refine Or.inr ?_
      rw [show ad 5 = fF from by rw [had]; rfl]
      exact hZF
  · intro w hw
    exact va_Nw.of (lw12 w hw).2 (hts _ (lw12 w hw).1)
