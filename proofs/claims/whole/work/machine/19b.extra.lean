/-! strings by ldc_w; the JDK's own methods of string constants; what keeps the shape good -/
theorem ifs {α : Type} {c : Prop} [Decidable c] {a b : Option α} {y : Option α} {G : Prop} (h : (if c then a else b) = y) (k1 : c → a = y → G) (k2 : ¬ c → b = y → G) : G := by
  by_cases hc : c
  · exact k1 hc (ifp hc h)
  · exact k2 hc (ifn hc h)
theorem ifs2 {α : Type} {c : Prop} [Decidable c] {a b : Option α} {y : Option α} {G : Prop} (h : (if c then a else b) = y) (k1 : ¬ c → b = y → G) (k2 : c → a = y → G) : G := ifs h k2 k1
/-- fewer known locals -/
def aSub : List (Option Value) → List (Option Value) → Prop
  | [], L => L = []
  | none :: M, L => match L with
    | [] => False
    | _ :: L => aSub M L
  | some v :: M, L => match L with
    | [] => False
    | w :: L => w = some v ∧ aSub M L
theorem aSub_get : ∀ (M L : List (Option Value)), aSub M L → M.length = L.length ∧ ∀ (k : Nat) (v : Value), M[k]? = some (some v) → L[k]? = some (some v) := by
  intro M
  induction M with
  | nil => intro L h; cases (h : L = []); exact ⟨rfl, fun k v h => by simp at h⟩
  | cons x M ih =>
    intro L h
    cases x with
    | none =>
      cases L with
      | nil => exact h.elim
      | cons w L =>
        obtain ⟨e1, e2⟩ := ih L h
        refine ⟨by simp [e1], fun k v hk => ?_⟩
        cases k with
        | zero => simp at hk
        | succ k => exact e2 k v (by simpa using hk)
    | some u =>
      cases L with
      | nil => exact h.elim
      | cons w L =>
        have h : w = some u ∧ aSub M L := h
        obtain ⟨e1, e2⟩ := ih L h.2
        refine ⟨by simp [e1], fun k v hk => ?_⟩
        cases k with
        | zero => rw [h.1]; simpa using hk
        | succ k => exact e2 k v (by simpa using hk)
theorem aJx {p : Program} {l : Launch} {e : Env} {R : Room} {s : State} {m : MethodId} {args : Array Value} {below : List Frame} {meth : Method} {c : Code} {Q : State → Prop} {D : va_G} {cA : FieldType → ClassId} {A : Nat → Prop} {ad0 : Nat → Nat} {nL c0 s0 pc : Nat} {L M : List (Option Value)} {st : List Value} {h : aHp} (hj : aJ p l e R s m args below meth c Q D cA A ad0 nL c0 s0 pc M st h) (hs : aSub M L) : aJ p l e R s m args below meth c Q D cA A ad0 nL c0 s0 pc L st h := by
  intro adr H ls locs cells slots hR
  obtain ⟨e1, e2⟩ := aSub_get M L hs
  refine hj adr H ls locs cells slots ⟨hR.1, hR.2.1, hR.2.2.1, hR.2.2.2.1, ⟨hR.2.2.2.2.1.1, hR.2.2.2.2.1.2.1, fun q hq => ?_⟩, e1.trans hR.2.2.2.2.2.1, hR.2.2.2.2.2.2⟩
  obtain ⟨k, v, hk, rfl⟩ := (aLs_mem M 0 q).mp hq
  exact hR.2.2.2.2.1.2.2 _ ((aLs_mem L 0 _).mpr ⟨k, v, e2 k v hk, rfl⟩)
theorem rmm {d D maxL : Nat} {R : Room} (hD : d + 1 ≤ D) (hf : D ≤ R.frames) (hl : 64 * D ≤ R.locals) (hm : maxL ≤ 45) : d + 1 ≤ R.frames ∧ 8 + (maxL + 11) + 64 * d ≤ R.locals := by
  constructor
  · exact Nat.le_trans hD hf
  · have : 64 * (d + 1) ≤ 64 * D := Nat.mul_le_mul_left 64 hD
    omega
theorem k_ldcWS {p : Program} {l : Launch} {e : Env} {R : Room} {s : State} {m : MethodId} {args : Array Value} {below : List Frame} {meth : Method} {c : Code} {T : State} {locs : List Loc} {cells slots : Nat}
    (X : Stand p l e R s m args below meth c T locs cells slots) (hexec : p.tables.exec = Jvm.exec) {own text : String} {index : Nat} {a : Addr} (hown : s.vm.findClass own = some m.cls)
    (hconst : (Cond.stringRef own index text).before #[] s = true) (hev : (Term.string own index).eval #[] s none [] s = some (.ref a)) {g : JFrame} (hg : g.method = m) (hdg : decode c.code g.pc = .ok (.ldc_w index, 3)) :
    ∀ target, Steps p.tables e below (T.setTop { g with pc := g.pc + 3, stack := .ref a :: g.stack }) target → Steps p.tables e below (T.setTop g) target := by
  obtain ⟨k, cf, i, a', hk, hcf, hcp, -, hr, hev'⟩ := Cond.stringRef_spec hown hconst
  cases hev.symm.trans hev'
  obtain ⟨k', hk', he⟩ := X.warmed.alike.2.2 _ _ hk
  have hr' : k'.resolved[index]? = some (some (.string a)) := by
    rcases X.warmed.entry hk hk' index with h | ⟨h, -⟩
    · rw [h]; exact hr
    · rw [hr] at h; cases h
  intro target hrest
  subst hg
  jvm_step X.here [hexec, hdg, ldc_w.wp_string (e := e) (s := T) (f := g) X.here.top hk' (by rw [he]; exact hcf) hcp hr']
  exact hrest
section AE
variable {p : Program} {l : Launch} {e : Env} {R : Room} {s : State} {m : MethodId} {args : Array Value} {below : List Frame} {meth : Method} {c : Code} {Q : State → Prop} {D : va_G} {cA : FieldType → ClassId} {A : Nat → Prop} {ad0 : Nat → Nat} {nL c0 s0 : Nat}
variable {own : String} {cc : ByteArray} {pc : Nat} {L : List (Option Value)} {st : List Value} {h : aHp}
theorem j_ldcSw (hX : aX p s m args c own cc nL D cA A ad0) {i j : Nat} {tx : String} (hw : (own, i, tx, j) ∈ aLdc) (hj : j < 20) (hd : decode cc pc = .ok (.ldc_w i, 3)) (k : aJ p l e R s m args below meth c Q D cA A ad0 nL c0 s0 (pc + 3) L (.ref (10 + j) :: st) h) : aJ p l e R s m args below meth c Q D cA A ad0 nL c0 s0 pc L st h := by
  intro adr H ls locs cells slots hR T hT X
  have h1 := k adr H ls locs cells slots hR
  rw [List.map_cons, show aV adr (.ref (10 + j)) = .ref (ad0 (10 + j)) from congrArg Value.ref (hR.2.2.2.2.2.2.2.2.1 (10 + j) (by omega))] at h1
  obtain ⟨t, a1, b1⟩ := h1 T hT X
  have hZ := hX.2.2.2.2.2.2.2.2.2.2.1 _ hw
  exact ⟨t, k_ldcWS X hX.1 hX.2.2.2.1 (text := tx) (a := ad0 (10 + j)) hZ.1 hZ.2 (g := F0 m pc ls (st.map (aV adr))) rfl (by rw [hX.2.1]; exact hd) t a1, b1⟩
theorem jpc {b : Nat} (hb : pc = b) (k : aJ p l e R s m args below meth c Q D cA A ad0 nL c0 s0 b L st h) : aJ p l e R s m args below meth c Q D cA A ad0 nL c0 s0 pc L st h := by rw [hb]; exact k
theorem j_maxL (hX : aX p s m args c own cc nL D cA A ad0) {i : Nat} {x y : Int64} (hw : aLS own i yJ9_max_f86c9 cJ9_max_f86c9 4 (some .long) 2) (hd : decode cc pc = .ok (.invokestatic i, 3)) (hf : 1 ≤ R.frames ∧ (st.map fun v => v.category).sum + 15 ≤ R.locals) (hr1 : h.1.length ≤ c0 + R.cells) (hr2 : aSn h.1 ≤ s0 + R.slots) (kk : aJ p l e R s m args below meth c Q D cA A ad0 nL c0 s0 (pc + 3) L (.long (if y < x then x else y) :: st) h) : aJ p l e R s m args below meth c Q D cA A ad0 nL c0 s0 pc L (.long y :: .long x :: st) h :=
  fun adr H ls locs cells slots hR => va_mmax_long hX.1 hX.2.1 (hX.2.2.1.trans hR.2.2.2.2.1.1.symm) hX.2.2.2.1 (hX.2.2.2.2.1 _ hw.1) (hX.2.2.2.2.1 _ hw.2.1) (hX.2.2.2.2.1 _ hw.2.2.1) (hX.2.2.2.2.1 _ hw.2.2.2.1) hf.1 (by rw [aV_sum]; exact hf.2) (by have := hR.2.2.2.2.2.2.1; omega) (by have := hR.2.2.2.2.2.2.2.1; omega) hd (kk adr H ls locs cells slots hR)
theorem j_minL (hX : aX p s m args c own cc nL D cA A ad0) {i : Nat} {x y : Int64} (hw : aLS own i yJ9_min_f86c9 cJ9_min_f86c9 4 (some .long) 2) (hd : decode cc pc = .ok (.invokestatic i, 3)) (hf : 1 ≤ R.frames ∧ (st.map fun v => v.category).sum + 15 ≤ R.locals) (hr1 : h.1.length ≤ c0 + R.cells) (hr2 : aSn h.1 ≤ s0 + R.slots) (kk : aJ p l e R s m args below meth c Q D cA A ad0 nL c0 s0 (pc + 3) L (.long (if y < x then y else x) :: st) h) : aJ p l e R s m args below meth c Q D cA A ad0 nL c0 s0 pc L (.long y :: .long x :: st) h :=
  fun adr H ls locs cells slots hR => va_mmin_long hX.1 hX.2.1 (hX.2.2.1.trans hR.2.2.2.2.1.1.symm) hX.2.2.2.1 (hX.2.2.2.2.1 _ hw.1) (hX.2.2.2.2.1 _ hw.2.1) (hX.2.2.2.2.1 _ hw.2.2.1) (hX.2.2.2.2.1 _ hw.2.2.2.1) hf.1 (by rw [aV_sum]; exact hf.2) (by have := hR.2.2.2.2.2.2.1; omega) (by have := hR.2.2.2.2.2.2.2.1; omega) hd (kk adr H ls locs cells slots hR)
end AE
/-- Preconditions.checkIndex -/
theorem okJ3_check {l : Launch} {h : aHp} {x n : Int32} {v : Value} (hv : v = .null ∨ v = .ref 5) (h0 : ¬ x < 0) (hn : x < n) : aM l yJ3_checkIndex_8e157 cJ3_checkIndex_8e157 3 (some .int) 0 [.int x, .int n, v] h (some (.int x)) h := by
  refine aM_of (by decide) ?_ (Nat.le_refl _) (Nat.le_refl _) (fun p e s m args below meth c D cA A ad0 hX hr hlk hnm => ?_)
  · rcases hv with rfl | rfl <;> exact Nat.le_of_ble_eq_true rfl
  · have hE : aEnt [.int x, .int n, v] 3 = [some (.int x), some (.int n), some v] := by rcases hv with rfl | rfl <;> rfl
    rw [hE]
    refine j_iload_n hX dJ3_checkIndex_8e157_0 rfl ?_
    refine j_if_lt (tgt := 9) hX dJ3_checkIndex_8e157_1 (by decide) (fun hc => absurd hc h0) (fun hc => ?_)
    refine j_iload_n hX dJ3_checkIndex_8e157_4 rfl ?_
    refine j_iload_n hX dJ3_checkIndex_8e157_5 rfl ?_
    refine j_icmp_lt (tgt := 16) hX dJ3_checkIndex_8e157_6 (by decide) (fun hc => ?_) (fun hc => absurd hn hc)
    refine j_iload_n hX dJ3_checkIndex_8e157_16 rfl ?_
    exact j_ret hX hr hlk rfl dJ3_checkIndex_8e157_17
/-- String.checkIndex -/
theorem okJ0_check {l : Launch} {h : aHp} {x n : Int32} (h0 : ¬ x < 0) (hn : x < n) : aM l yJ0_checkIndex_df160 cJ0_checkIndex_df160 2 none 1 [.int x, .int n] h none h := by
  refine aM_of (by decide) (Nat.le_of_ble_eq_true rfl) (Nat.le_refl _) (Nat.le_refl _) (fun p e s m args below meth c D cA A ad0 hX hr hlk hnm => ?_)
  refine j_iload_n hX dJ0_checkIndex_df160_0 rfl ?_
  refine j_iload_n hX dJ0_checkIndex_df160_1 rfl ?_
  refine j_getsQ hX fk_J0_1053 dJ0_checkIndex_df160_2 ?_ ?_
  · refine j_cS3i hX lk_J0_1059 dJ0_checkIndex_df160_5 (okJ3_check (Or.inl rfl) h0 hn) rfl rfl ⟨Nat.le_of_ble_eq_true rfl, Nat.le_of_ble_eq_true rfl⟩ (Nat.le_of_ble_eq_true rfl) (Nat.le_add_right _ _) (Nat.le_add_right _ _) ?_
    refine j_pop hX dJ0_checkIndex_df160_8 rfl ?_
    exact j_vret hX hr hlk dJ0_checkIndex_df160_9
  · refine j_cS3i hX lk_J0_1059 dJ0_checkIndex_df160_5 (okJ3_check (Or.inr rfl) h0 hn) rfl rfl ⟨Nat.le_of_ble_eq_true rfl, Nat.le_of_ble_eq_true rfl⟩ (Nat.le_of_ble_eq_true rfl) (Nat.le_add_right _ _) (Nat.le_add_right _ _) ?_
    refine j_pop hX dJ0_checkIndex_df160_8 rfl ?_
    exact j_vret hX hr hlk dJ0_checkIndex_df160_9
/-- the char at a place of a constant -/
def aCh (j : Nat) (x : Int32) : Int32 := (((aStr.getD j []).getD x.toNatClampNeg 0 &&& 255).toUInt32 % 65536).toInt32
theorem aLen_lt (j : Nat) : aLen.getD j 0 < 2 ^ 31 := by
  have : ∀ n ∈ aLen, n < 2 ^ 31 := by decide
  by_cases hj : j < aLen.length
  · have e : aLen.getD j 0 = aLen[j] := by simp [List.getD, hj]
    rw [e]; exact this _ (List.getElem_mem hj)
  · have e : aLen.getD j 0 = 0 := by simp [List.getD, List.getElem?_eq_none (Nat.le_of_not_lt hj)]
    rw [e]; decide
theorem aIn_lt {x : Int32} {n : Nat} (hn : n < 2 ^ 31) (h : aIn x n = true) : ¬ x < 0 ∧ x < nI n := by
  obtain ⟨j, hj, rfl⟩ := vp_in_of (aIn_vp h) hn
  exact ⟨nI_pos (by omega), nI_lt hj hn⟩
/-- StringLatin1.charAt -/
theorem okJ1_char {l : Launch} {h : aHp} {j : Nat} {x : Int32} (hj : j < 8) (hx : aIn x (aLen.getD j 0) = true) : aM l yJ1_charAt_3b067 cJ1_charAt_3b067 2 (some .char) 2 [.ref (30 + j), .int x] h (some (.int (aCh j x))) h := by
  obtain ⟨h0, hn⟩ := aIn_lt (aLen_lt j) hx
  refine aM_of (by decide) (Nat.le_of_ble_eq_true rfl) (Nat.le_refl _) (Nat.le_refl _) (fun p e s m args below meth c D cA A ad0 hX hr hlk hnm => ?_)
  refine j_iload_n hX dJ1_charAt_3b067_0 rfl ?_
  refine j_aload_n hX dJ1_charAt_3b067_1 rfl ?_
  refine j_slen hX hj dJ1_charAt_3b067_2 ?_
  refine j_cS2v hX lk_J1_9 dJ1_charAt_3b067_3 (okJ0_check h0 hn) rfl rfl ⟨Nat.le_of_ble_eq_true rfl, Nat.le_of_ble_eq_true rfl⟩ (Nat.le_of_ble_eq_true rfl) (Nat.le_add_right _ _) (Nat.le_add_right _ _) ?_
  refine j_aload_n hX dJ1_charAt_3b067_6 rfl ?_
  refine j_iload_n hX dJ1_charAt_3b067_7 rfl ?_
  refine j_sbald hX hj hx dJ1_charAt_3b067_8 ?_
  refine j_sipush hX dJ1_charAt_3b067_9 sp_255 ?_
  refine j_iand hX dJ1_charAt_3b067_12 ?_
  refine j_i2c hX dJ1_charAt_3b067_13 ?_
  exact j_ret hX hr hlk (pk_nc _) dJ1_charAt_3b067_14
/-- String.isLatin1 -/
theorem okJ0_lat {l : Launch} {h : aHp} {j : Nat} (hj : j < 8) : aM l yJ0_isLatin1_aae02 cJ0_isLatin1_aae02 1 (some .boolean) 0 [.ref (10 + j)] h (some (.int 1)) h := by
  refine aM_of (by decide) (Nat.le_of_ble_eq_true rfl) (Nat.le_refl _) (Nat.le_refl _) (fun p e s m args below meth c D cA A ad0 hX hr hlk hnm => ?_)
  refine j_getsC hX fk_J0_38 dJ0_isLatin1_aae02_0 ?_
  refine j_if_eq (tgt := 17) hX dJ0_isLatin1_aae02_3 (by decide) (fun hc => absurd hc (by decide)) (fun hc => ?_)
  refine j_aload_n hX dJ0_isLatin1_aae02_6 rfl ?_
  refine j_scod hX hj fk_J0_15 dJ0_isLatin1_aae02_7 ?_
  refine j_if_ne (tgt := 17) hX dJ0_isLatin1_aae02_10 (by decide) (fun hc => absurd rfl hc) (fun hc => ?_)
  refine j_iconst hX dJ0_isLatin1_aae02_13 ic_1 ?_
  refine j_goto (tgt := 18) hX dJ0_isLatin1_aae02_14 (by decide) ?_
  exact j_ret hX hr hlk rfl dJ0_isLatin1_aae02_18
def fJ0_charAt_5068e (j : Nat) (x : Int32) : Option Int32 := if aIn x (aLen.getD j 0) = true then some (aCh j x) else none
/-- String.charAt -/
theorem okJ0_charAt_5068e {l : Launch} {sh : List aSh} {i : Nat → Nat → Int32} {lo : Nat → Nat → Int64} {rv : Nat → Nat → Option Nat} {j0 : Nat} {a1 vR : Int32} (hG : aGood sh rv) (hj : j0 < 8) (hf : fJ0_charAt_5068e j0 a1 = some vR) : aM l yJ0_charAt_5068e cJ0_charAt_5068e 2 (some .char) 3 [.ref (10 + j0), .int a1] (sh, i, lo, rv) (some (.int vR)) (sh, i, lo, rv) := by
  unfold fJ0_charAt_5068e at hf
  obtain ⟨hx, hf⟩ := gd hf
  cases hf
  refine aM_of (by decide) (Nat.le_of_ble_eq_true rfl) (Nat.le_refl _) (Nat.le_refl _) (fun p e s m args below meth c D cA A ad0 hX hr hlk hnm => ?_)
  refine j_aload_n hX dJ0_charAt_5068e_0 rfl ?_
  refine j_cT0i hX lk_J0_492 rfl hj dJ0_charAt_5068e_1 (okJ0_lat hj) ⟨Nat.le_of_ble_eq_true rfl, Nat.le_of_ble_eq_true rfl⟩ (Nat.le_of_ble_eq_true rfl) (Nat.le_add_right _ _) (Nat.le_add_right _ _) ?_
  refine j_if_eq (tgt := 16) hX dJ0_charAt_5068e_4 (by decide) (fun hc => absurd hc (by decide)) (fun hc => ?_)
  refine j_aload_n hX dJ0_charAt_5068e_7 rfl ?_
  refine j_sval hX hj fk_J0_9 dJ0_charAt_5068e_8 ?_
  refine j_iload_n hX dJ0_charAt_5068e_11 rfl ?_
  refine j_cS2i hX lk_J0_495 dJ0_charAt_5068e_12 (okJ1_char hj hx) rfl rfl ⟨Nat.le_of_ble_eq_true rfl, Nat.le_of_ble_eq_true rfl⟩ (Nat.le_of_ble_eq_true rfl) (Nat.le_add_right _ _) (Nat.le_add_right _ _) ?_
  exact j_ret hX hr hlk (pk_nc _) dJ0_charAt_5068e_15
/-! what keeps the shape good -/
section GP
variable {sh : List aSh} {rv : Nat → Nat → Option Nat}
theorem gB_50_5 {w : Nat} (h : aGood sh rv) (hw : w = 51 ∨ w = 52) : 100 + w < 100 + sh.length := by
  have h1 := (List.getElem?_eq_some_iff.mp (sh_52 h)).1
  omega
theorem isLaw_u {q k a : Nat} {v : Option Nat} (hq : q ≠ a) (h : isLaw sh rv a) : isLaw sh (u2 rv q k v) a := by
  obtain ⟨h1, h2, h3, h4, h5⟩ := h
  exact ⟨h1, h2, h3, by rw [u2_ne _ _ (Or.inl (Ne.symm hq))]; exact h4, by rw [u2_ne _ _ (Or.inl (Ne.symm hq))]; exact h5⟩
theorem isLin_u {q k a : Nat} {v : Option Nat} (hq : q ≠ a) (h : isLin sh rv a) : isLin sh (u2 rv q k v) a := by
  obtain ⟨h1, h2, h3⟩ := h
  exact ⟨h1, h2, by rw [u2_ne _ _ (Or.inl (Ne.symm hq))]; exact h3⟩
theorem isLaw_ne {q a : Nat} {x : aSh} (hs : sh[q]? = some x) (hx : x ≠ .inr 4) (h : isLaw sh rv a) : q ≠ a := by
  intro e
  subst e
  rw [h.1] at hs
  exact hx (Option.some.inj hs).symm
theorem isLin_ne {q a : Nat} {x : aSh} (hs : sh[q]? = some x) (hx : x ≠ .inr 5) (h : isLin sh rv a) : q ≠ a := by
  intro e
  subst e
  rw [h.1] at hs
  exact hx (Option.some.inj hs).symm
theorem gP_50_5 {w : Nat} (h : aGood sh rv) (hw : w = 51 ∨ w = 52) : aGood sh (u2 rv 50 5 (some (100 + w))) := by
  have nL : ∀ a, isLaw sh rv a → 50 ≠ a := fun a ha => isLaw_ne (sh_50 h) (by decide) ha
  have nN : ∀ a, isLin sh rv a → 50 ≠ a := fun a ha => isLin_ne (sh_50 h) (by decide) ha
  have e1 : ∀ q j, q ≠ 50 → u2 rv 50 5 (some (100 + w)) q j = rv q j := fun q j hq => u2_ne _ _ (Or.inl hq)
  refine ⟨h.1, fun x hx => ?_, fun r hr => ?_, ?_, ?_, fun j r hr => ?_, fun j r hr => ?_, ?_⟩
  · by_cases hq : x.1 = 50 ∧ x.2.1 = 5
    · exfalso
      have : ∀ x ∈ RFL, ¬ (x.1 = 50 ∧ x.2.1 = 5) := by decide
      exact this x hx hq
    · rw [u2_ne _ _ (by omega)]
      exact h.2.1 x hx
  · rw [e1 23 2 (by decide)] at hr
    exact ⟨(h.2.2.1 r hr).1, isLaw_u (nL _ (h.2.2.1 r hr).2) (h.2.2.1 r hr).2⟩
  · rw [e1 3 2 (by decide)]
    exact ⟨h.2.2.2.1.1, isLaw_u (nL _ h.2.2.2.1.2) h.2.2.2.1.2⟩
  · rw [e1 3 3 (by decide)]
    exact ⟨h.2.2.2.2.1.1, isLin_u (nN _ h.2.2.2.2.1.2) h.2.2.2.2.1.2⟩
  · rw [e1 4 j (by decide)] at hr
    exact ⟨(h.2.2.2.2.2.1 j r hr).1, isLaw_u (nL _ (h.2.2.2.2.2.1 j r hr).2) (h.2.2.2.2.2.1 j r hr).2⟩
  · rw [e1 5 j (by decide)] at hr
    exact ⟨(h.2.2.2.2.2.2.1 j r hr).1, isLin_u (nN _ (h.2.2.2.2.2.2.1 j r hr).2) (h.2.2.2.2.2.2.1 j r hr).2⟩
  · rw [u2_same]
    rcases hw with rfl | rfl
    · exact Or.inl rfl
    · exact Or.inr rfl
end GP
