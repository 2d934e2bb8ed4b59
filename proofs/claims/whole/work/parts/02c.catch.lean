/-! a thrown object caught by the one row of a method's table, the row's kind linked cold or warm -/
section ZC
variable {p : Program} {l : Launch} {e : Env} {R : Room} {s : State} {m : MethodId} {args : Array Value} {below : List Frame} {meth : Method} {c : Code} {H : Heap} {locs : List Loc} {cells slots : Nat} {Q : State → Prop} {ls : Array Slot} {rest : List Value} {pc : Nat}
def zc_F (e : Env) (S : State) (f : JFrame) (a : Addr) (h : Handler) (vm' : Vm) : Prop :=
  ∀ (Q : Handler → Pre) (E : CtlPost) (d : Bool) (acts : List Action), wp (findHandler f a) Q E e d acts S ↔ Q h d acts (S.setVm vm')
theorem zc_one {S : State} {f : JFrame} {a : Addr} {x : ExceptionTableEntry} {k : ClassId} {cell : Cell} (hm : S.vm.method? f.method = some meth) (hc : meth.code = some c) (ht : c.exceptionTable.toList = [x]) (hx : covers x f.pc = true) (h0 : x.catchType ≠ 0)
    (hl : S.vm.ClassLinks e.platform f.method.cls x.catchType k) (hcell : S.heap[a]? = some cell) (hv : cell.vm = .none) (h1 : ∃ y, S.vm.classes[cell.cls]? = some y) (h2 : ∃ y, S.vm.classes[k]? = some y) (hfit : S.vm.assignable cell.cls k = true) :
    zc_F e S f a (.found x.handlerPc) (S.vm.noted f.method.cls x.catchType (.cls k)) := by
  intro Q E d acts
  rw [W.findHandler_eq hm hc, ht]
  have hal : S.vm.Alike (S.vm.noted f.method.cls x.catchType (.cls k)) := (Vm.Alike.refl S.vm).noted _ _ _
  obtain ⟨r1, r2⟩ := (resolveClass_links e.toSetting hl).op (op := VmOp.resolveClass f.method.cls x.catchType) rfl
  obtain ⟨y1, e1⟩ := h1
  obtain ⟨y2, e2⟩ := h2
  obtain ⟨z1, w1, -⟩ := hal.2.2 _ _ e1
  obtain ⟨z2, w2, -⟩ := hal.2.2 _ _ e2
  have hfit2 : (S.vm.noted f.method.cls x.catchType (.cls k)).assignable cell.cls k = true := by rw [hal.assignable]; exact hfit
  have hx2 := hx
  simp only [covers] at hx2
  simp [findHandler.go, hx2, h0, r1, r2, hcell, hv, w1, w2, hfit2, VmOp.dirties, VmOp.acts]
theorem zc_step {S : State} {a : Addr} {f : JFrame} {r : List Frame} {n : Nat} {vm' : Vm} (h : zc_F e S f a (.found n) vm') : (stepThrowing e S a (.java f :: r)).Is ((S.setVm vm').setFrames (.java { f with pc := n, stack := [.ref a] } :: r)) [] := by
  simp only [stepThrowing, searchFrame, vmDo]
  generalize hr : Sem.go _ e false [] S = res
  obtain ⟨as, rfl, ha⟩ := Sem.eq_ok_of hr (a := Handler.found n) (s' := S.setVm vm') (acts' := []) (by simp [h _ _ _ _])
  exact ⟨rfl, ha⟩
theorem zc_steps {tb : Tables} {S target : State} {g : JFrame} {a : Addr} (h : At S g.method c below) {n : Nat} {vm' : Vm} (hf : zc_F e ((S.setTop g).pushFrame (.throwing a)) g a (.found n) vm') (hr : Steps tb e below ((S.setVm vm').setTop { g with pc := n, stack := [.ref a] }) target) : Steps tb e below ((S.setTop g).pushFrame (.throwing a)) target := by
  obtain ⟨hgo, hw⟩ := h.throwing a
  refine Steps.head hgo hw ?_
  rw [stepThread_throwing (frames_entered h.top _), (zc_step (S := (S.setTop g).pushFrame (.throwing a)) hf).1]
  obtain ⟨g0, hg⟩ := Option.isSome_iff_exists.mp h.top
  obtain ⟨r, hr0⟩ := State.topJava?_eq_some.mp hg
  have k : ∀ (U : State) (F G : List Frame), ((U.setFrames F).setVm vm').setFrames G = (U.setVm vm').setFrames G := fun U F G => by
    have : (U.setFrames F).setVm vm' = (U.setVm vm').setFrames F := rfl
    rw [this, State.setFrames_setFrames]
  have hr1 : (S.setVm vm').frames = .java g0 :: r := hr0
  rw [State.setTop_of_frames _ hr1] at hr
  rw [hr0, List.tail_cons, State.pushFrame, k, State.setTop_of_frames _ hr0, k]
  exact hr
theorem zc_catch {own name E : String} {ce : Cell} {q : Addr} (hown : s.vm.findClass own = some m.cls) (x : ExceptionTableEntry) (ht : c.exceptionTable.toList = [x]) (hx : covers x pc = true) (h0 : x.catchType ≠ 0)
    (hlink : (Cond.classLink own x.catchType name).before args s = true) (hcast : (Cond.castable E name).before args s = true) (hcell : H[q]? = some ce) (hv : ce.vm = .none) (hcl : s.vm.findClass E = some ce.cls)
    (kk : W p l e R s m args below meth c H locs cells slots Q (F0 m x.handlerPc ls [.ref q])) : vx_W p l e R s m args below meth c H locs cells slots Q (F0 m pc ls rest) q := by
  intro T hT X
  have hpl : e.platform.magicAccessors = ({} : Platform).magicAccessors := by rw [X.admits.platform]
  obtain ⟨c3, c4, hc3, hc4, hasg⟩ := Cond.castable_spec hcast
  cases Option.some.inj (hc3.symm.trans hcl)
  obtain ⟨c5, hc5, hl5⟩ := Cond.classLink_spec hown hlink e.platform hpl
  cases Option.some.inj (hc4.symm.trans hc5)
  obtain ⟨dk, _, _, kt, hd, _, _, _, _, hkt, _, hopen⟩ := hl5.here
  obtain ⟨kt2, hkt2, -⟩ := X.warmed.alike.2.2 _ _ hkt
  obtain ⟨k9, h9, -⟩ := Vm.findClass_spec hcl
  obtain ⟨k8, h8, -⟩ := X.warmed.alike.2.2 _ _ h9
  have hW2 : s.WarmedH (T.vm.noted m.cls x.catchType (.cls c4)) := X.warmed.noted hd hopen (State.rightAt_cls hl5)
  obtain ⟨t, a1, b1⟩ := kk (T.setVm (T.vm.noted m.cls x.catchType (.cls c4))) hT (X.noted hW2)
  refine ⟨t, ?_, b1⟩
  refine zc_steps (g := F0 m pc ls rest) X.here (zc_one (S := (T.setTop (F0 m pc ls rest)).pushFrame (.throwing q)) (f := F0 m pc ls rest) (cell := ce) X.method' X.code ht hx h0 (X.warmed.classLinks hl5) (by rw [← hT] at hcell; exact hcell) hv ⟨k8, h8⟩ ⟨kt2, hkt2⟩ (by
    have := X.warmed.alike.assignable
    show T.vm.assignable ce.cls c4 = true
    rw [this]
    exact hasg)) a1
end ZC
