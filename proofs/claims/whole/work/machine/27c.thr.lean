/-! X11.sleeper where it throws -/
def zE : String := "java/util/NoSuchElementException"
def zN : List String := ["java/lang/RuntimeException", "java/lang/Exception"]
def zT : String := "no such sleeper, or nothing like that of one"
theorem zw_1 : ∀ w ∈ Cond.classLink RX11 133 zE :: Cond.initialized zE :: vx_atS RX11 137 zE zN, w ∈ gtbl := by decide +kernel
theorem zw_2 : ∀ w ∈ Cond.classLink RX11 133 zE :: Cond.initialized zE :: vx_atS RX11 137 zE zN, vx_ot w = true := by decide +kernel
theorem zw_3 : Bundle.fit zE = true ∧ ∀ n ∈ zN, Bundle.fit n = true := by decide +kernel
theorem zd_0 : decode cX11_sleeper 0 = .ok (.aload_n 0, 1) := by decide +kernel
theorem zd_1 : decode cX11_sleeper 1 = .ok (.getfield 30, 3) := by decide +kernel
theorem zd_4 : decode cX11_sleeper 4 = .ok (.iload_n 1, 1) := by decide +kernel
theorem zd_5 : decode cX11_sleeper 5 = .ok (.invokevirtual 130, 3) := by decide +kernel
theorem zd_8 : decode cX11_sleeper 8 = .ok (.ifCond .eq 13, 3) := by decide +kernel
theorem zd_11 : decode cX11_sleeper 11 = .ok (.iload_n 2, 1) := by decide +kernel
theorem zd_12 : decode cX11_sleeper 12 = .ok (.ifCond .lt 9, 3) := by decide +kernel
theorem zd_15 : decode cX11_sleeper 15 = .ok (.iload_n 2, 1) := by decide +kernel
theorem zd_16 : decode cX11_sleeper 16 = .ok (.bipush 10, 2) := by decide +kernel
theorem zd_18 : decode cX11_sleeper 18 = .ok (.if_icmp .le 13, 3) := by decide +kernel
theorem zd_21 : decode cX11_sleeper 21 = .ok (.new 133, 3) := by decide +kernel
theorem zd_24 : decode cX11_sleeper 24 = .ok (.dup, 1) := by decide +kernel
theorem zd_25 : decode cX11_sleeper 25 = .ok (.ldc 135, 2) := by decide +kernel
theorem zd_27 : decode cX11_sleeper 27 = .ok (.invokespecial 137, 3) := by decide +kernel
theorem zd_30 : decode cX11_sleeper 30 = .ok (.athrow, 1) := by decide +kernel
/-- where it has thrown: the places are as they were -/
def zX (D : va_G) (cA : FieldType → ClassId) (adr : Nat → Nat) (A : Nat → Prop) (h : aHp) : String → State → State → Prop := fun E st t => E = zE ∧ va_P D acl (aW cA adr h) t.heap ∧ va_D A (aW cA adr h) ∧ va_F A st t
/-- the two statics that a throw reads -/
def zS (A : Nat → Prop) (U : State) : Prop := vx_Zq Bundle.tN "UNASSIGNED_STACK" Bundle.steD A U U.heap ∧ vx_Zq Bundle.tN "SUPPRESSED_SENTINEL" Bundle.listD A U U.heap
section ZT
variable {p : Program} {l : Launch} {e : Env} {R : Room} {s : State} {m : MethodId} {args : Array Value} {below : List Frame} {meth : Method} {c : Code} {Q : State → Prop} {D : va_G} {cA : FieldType → ClassId} {A : Nat → Prop} {ad0 : Nat → Nat} {c0 s0 : Nat}
variable {L : List (Option Value)} {h : aHp} {sh : List aSh} {i : Nat → Nat → Int32} {lo : Nat → Nat → Int64} {rv : Nat → Nat → Option Nat} {a1 a2 v1 : Int32}
theorem zt_throw (hl : l.stackTraces = false) (hX : aX p s m args c RX11 cX11_sleeper 3 D cA A ad0) (hS : zS A s) (htab : ∀ x ∈ c.exceptionTable.toList, False) (hlk : meth.locks = false) (hRf : 5 < R.frames) (hRl : 82 ≤ R.locals) (hRc : 1 ≤ R.cells) (hRs : 6 ≤ R.slots) : aJ p l e R s m args below meth c (vx_MQ below (fun _ _ _ _ => False) (zX D cA ad0 A h) args s 1 6 A) D cA A ad0 3 h.1.length (aSn h.1) 21 L [] h := by
  intro adr H ls locs cells slots hR
  have e1 := hR.2.2.2.2.2.2.1
  have e2 := hR.2.2.2.2.2.2.2.1
  have e3 : adr = ad0 := hR.2.2.2.2.2.2.2.2.2 rfl
  refine vx_throwS (own := RX11) (cls := zE) (names := zN) (text := zT) (ik := 133) (is := 135) (ic := 137) (sa := ad0 (10 + 0)) (A := A) hX.1 hX.2.1 hl hX.2.2.2.1 zw_3.1 zw_3.2 (hX.2.2.2.2.1 _ (zw_1 _ (List.mem_cons_self ..))) (hX.2.2.2.2.1 _ (zw_1 _ (List.mem_cons_of_mem _ (List.mem_cons_self ..)))) (hX.2.2.2.2.2.2.2.2.2.2.1 (RX11, 135, zT, 0) (List.mem_cons_self ..)) (fun w hw => hX.2.2.2.2.1 w (zw_1 w (List.mem_cons_of_mem _ (List.mem_cons_of_mem _ hw)))) zw_2 hS.1 hS.2 hR.2.2.1 (hR.2.2.2.2.1.1.trans hX.2.2.1.symm) zd_21 zd_24 zd_25 zd_27 zd_30 (fun x hx => (htab x hx).elim) (show 2 + 3 < R.frames by omega) (show 0 + (13 * (2 + 1) + 43) ≤ R.locals by omega) (by omega) (by omega) hlk ?_ hR.2.2.1.2.2 (by omega) (by omega)
  intro t ha hz hk
  refine ⟨rfl, ?_, by rw [← e3]; exact hR.2.1, Nat.le_trans hR.2.2.1.1 hz, fun q h1 h2 => by rw [hk q (Nat.lt_of_lt_of_le h1 hR.2.2.1.1)]; exact hR.2.2.1.2.1 q h1 h2⟩
  rw [← e3]
  exact hR.1.kept (fun k q hq => hk _ (vx_lt hR.1 hq))
theorem zt_walk (hX : aX p s m args c RX11 cX11_sleeper 3 D cA A ad0) (hRf : 1 ≤ R.frames) (hRl : 64 * 1 ≤ R.locals) (hG : aGood sh rv) (hM : aM l yX1_hasSleeper cX1_hasSleeper 2 (some .boolean) 0 [.ref (100 + 15), .int a1] (sh, i, lo, rv) (some (.int v1)) (sh, i, lo, rv)) (hc : v1 = 0 ∨ a2 < 0 ∨ 10 < a2)
    (kk : aJ p l e R s m args below meth c Q D cA A ad0 3 sh.length (aSn sh) 21 [some (.ref (100 + 0)), some (.int a1), some (.int a2)] [] (sh, i, lo, rv)) : aJ p l e R s m args below meth c Q D cA A ad0 3 sh.length (aSn sh) 0 [some (.ref (100 + 0)), some (.int a1), some (.int a2)] [] (sh, i, lo, rv) := by
  refine j_aload_n hX zd_0 rfl ?_
  refine j_getR (k := 3) hX kX11 (by decide) fk_X11_30 (rf_0_3 hG) zd_1 (sh_0 hG) rfl ?_
  refine j_iload_n hX zd_4 rfl ?_
  refine j_cV1i hX lk_X11_130 kX1 zd_5 (sh_15 hG) hM rfl rfl (rmm (by omega) hRf hRl (by decide)) (Nat.le_of_ble_eq_true rfl) (Nat.le_add_right _ _) (Nat.le_add_right _ _) ?_
  refine j_if_eq (tgt := 21) hX zd_8 (by decide) (fun _ => kk) (fun c1 => ?_)
  refine j_iload_n hX zd_11 rfl ?_
  refine j_if_lt (tgt := 21) hX zd_12 (by decide) (fun _ => kk) (fun c2 => ?_)
  refine j_iload_n hX zd_15 rfl ?_
  refine j_bipush hX zd_16 bp_10 ?_
  refine j_icmp_le (tgt := 31) hX zd_18 (by decide) (fun c3 => ?_) (fun _ => kk)
  rcases hc with e1 | e1 | e1
  · exact absurd e1 c1
  · exact absurd e1 c2
  · exact absurd e1 (Int32.not_lt.mpr c3)
/-- X11.sleeper throws -/
theorem zt_met (hl : l.stackTraces = false) (hG : aGood sh rv) (hM : aM l yX1_hasSleeper cX1_hasSleeper 2 (some .boolean) 0 [.ref (100 + 15), .int a1] (sh, i, lo, rv) (some (.int v1)) (sh, i, lo, rv)) (hc : v1 = 0 ∨ a2 < 0 ∨ 10 < a2) (D : va_G) (cA : FieldType → ClassId) (adr : Nat → Nat) (sz : Nat) :
    vx_Met l yX11_sleeper (.code yX11_sleeper cX11_sleeper 3 (some .int) :: gtbl) { frames := 8, cells := 1, slots := 6, locals := 512 } (fun a U => aPre D cA adr sz [.ref (100 + 0), .int a1, .int a2] (sh, i, lo, rv) a U ∧ zS (va_A (aW cA adr (sh, i, lo, rv)) sz) U) (fun _ _ _ _ => False) (zX D cA adr (va_A (aW cA adr (sh, i, lo, rv)) sz) (sh, i, lo, rv)) 1 6 (va_A (aW cA adr (sh, i, lo, rv)) sz) := by
  refine vx_ofW (cc := cX11_sleeper) (maxL := 3) (ret := some .int) rfl rfl ?_
  intro p e s m args below meth c s1 B hml htab hv
  obtain ⟨⟨rfl, hsz, hP, hK, hD0, hC, hW⟩, hS⟩ := hv
  have hts := atoms_spec (ws := .code yX11_sleeper cX11_sleeper 3 (some .int) :: gtbl) B.pre
  have hown : s.vm.findClass RX11 = some m.cls := findClass_of_methodNamed B.named
  subst hsz
  have hD := hD0.self (sz := s.heap.size)
  have hX : aX p s m (([.ref (100 + 0), .int a1, .int a2] : List Value).map (aV adr)).toArray c RX11 cX11_sleeper 3 D cA (va_A (aW cA adr (sh, i, lo, rv)) s.heap.size) adr := ⟨B.exec, B.bytes, hml, hown, fun w hw => hts w (List.mem_cons_of_mem _ hw), hK, fun q hq => Or.inr hq, hC⟩
  have hb := zt_walk (Q := vx_MQ below (fun _ _ _ _ => False) (zX D cA adr (va_A (aW cA adr (sh, i, lo, rv)) s.heap.size) (sh, i, lo, rv)) _ s 1 6 (va_A (aW cA adr (sh, i, lo, rv)) s.heap.size)) (R := { frames := 8, cells := 1, slots := 6, locals := 512 }) (below := below) (meth := meth) (e := e) hX (by decide) (by decide) hG hM hc (zt_throw (h := (sh, i, lo, rv)) hl hX hS htab B.notSynchronized (by decide) (by decide) (by decide) (by decide))
  rw [lg_entry_eq]
  exact hb adr s.heap _ [] 0 0 ⟨hP, hD, va_S.rf, hW, aEnt_has adr [.ref (100 + 0), .int a1, .int a2] (by decide), aEnt_len [.ref (100 + 0), .int a1, .int a2] (by decide), Nat.zero_add _, Nat.zero_add _, fun _ _ => rfl, fun _ => rfl⟩
end ZT
