/-! ===== a throw that comes out of a call is caught by the first row of this method's table. (The library's own law of it lies where rounds cannot reach: Shelf42, NT86, NT97: ax_seek, ax_stepc, ax_goes go its way.) ===== -/
theorem ax_seek {e : Env} {S : State} {f : JFrame} {a : Addr} {x : ExceptionTableEntry} {r : List ExceptionTableEntry} {cC : ClassId} {cell : Cell} {Q : Handler → Jvm.Pre} {E : Jvm.CtlPost} {d : Bool} {acts : List Action} (hx : covers x f.pc = true) (h0 : x.catchType ≠ 0) (hl : S.vm.ClassLinks e.platform f.method.cls x.catchType cC) (hcell : S.heap[a]? = some cell) (hobj : ∀ k, cell.vm ≠ .statics k) (hk : ∃ k, S.vm.classes[cell.cls]? = some k) (hc : ∃ k, S.vm.classes[cC]? = some k) (hfit : S.vm.assignable cell.cls cC = true) : Sem.wp (findHandler.go f a (x :: r)) Q E e d acts S ↔ Q (.found x.handlerPc) d acts (S.setVm (S.vm.noted f.method.cls x.catchType (.cls cC))) := by
  obtain ⟨q1, q2⟩ := (resolveClass_links e.toSetting hl).op (op := VmOp.resolveClass f.method.cls x.catchType) rfl
  have hal : S.vm.Alike (S.vm.noted f.method.cls x.catchType (.cls cC)) := (Vm.Alike.refl S.vm).noted _ _ _
  obtain ⟨u, hu⟩ := hk
  obtain ⟨v, hv⟩ := hc
  obtain ⟨u', hu', -⟩ := hal.2.2 _ _ hu
  obtain ⟨v', hv', -⟩ := hal.2.2 _ _ hv
  have hf2 : (S.vm.noted f.method.cls x.catchType (.cls cC)).assignable cell.cls cC = true := by rw [hal.assignable]; exact hfit
  simp only [covers] at hx
  simp [findHandler.go, hx, h0, q1, q2, hcell, hobj, hu', hv', hf2, VmOp.dirties, VmOp.acts]
theorem ax_stepc {e : Env} {S : State} {a : Addr} {f : JFrame} {r : List Frame} {pc : Nat} {vm' : Vm} (h : ∀ (Q : Handler → Jvm.Pre) (E : Jvm.CtlPost) (d : Bool) (acts : List Action), Sem.wp (findHandler f a) Q E e d acts S ↔ Q (.found pc) d acts (S.setVm vm')) :
    (stepThrowing e S a (.java f :: r)).1 = (S.setVm vm').setFrames (.java { f with pc := pc, stack := [.ref a] } :: r) := by
  simp only [stepThrowing, searchFrame, vmDo]
  generalize hr : Sem.go _ e false [] S = res
  obtain ⟨as, rfl, ha⟩ := Sem.eq_ok_of hr (a := Handler.found pc) (s' := S.setVm vm') (acts' := []) (by simp [h _ _ _ _])
  rfl
theorem ax_goes {tb : Tables} {e : Env} {T target : State} {g : JFrame} {c : Code} {below : List Frame} {a : Addr} (h : At T g.method c below) {pc : Nat} {vm' : Vm}
    (hf : ∀ (Q : Handler → Jvm.Pre) (E : Jvm.CtlPost) (d : Bool) (acts : List Action), Sem.wp (findHandler g a) Q E e d acts ((T.setTop g).pushFrame (.throwing a)) ↔ Q (.found pc) d acts (((T.setTop g).pushFrame (.throwing a)).setVm vm')) (k : Steps tb e below ((T.setVm vm').setTop { g with pc := pc, stack := [.ref a] }) target) : Steps tb e below ((T.setTop g).pushFrame (.throwing a)) target := by
  obtain ⟨hgo, hw⟩ := h.throwing a
  refine Steps.head hgo hw ?_
  rw [stepThread_throwing (frames_entered h.top _), ax_stepc hf]
  obtain ⟨g₀, hg⟩ := Option.isSome_iff_exists.mp h.top
  obtain ⟨r, hr⟩ := State.topJava?_eq_some.mp hg
  have hr' : (T.setVm vm').frames = .java g₀ :: r := hr
  have key : ∀ (u : State) (F G : List Frame), ((u.setFrames F).setVm vm').setFrames G = (u.setVm vm').setFrames G := fun u F G => by
    have h1 : (u.setFrames F).setVm vm' = (u.setVm vm').setFrames F := rfl
    rw [h1, State.setFrames_setFrames]
  rw [State.setTop_of_frames _ hr'] at k
  rw [hr, List.tail_cons, State.pushFrame, key, State.setTop_of_frames _ hr, key]
  exact k
section AXC
variable {p : Program} {l : Launch} {e : Env} {R : Room} {s : State} {m : MethodId} {args : Array Value} {below : List Frame} {meth : Method} {c : Code} {H : Heap} {locs : List Loc} {cells slots : Nat} {Q : State → Prop} {pc : Nat} {ls : Array Slot} {rest : List Value}
theorem ax_catch {own name E : String} {ce : Cell} {q : Addr} (hown : s.vm.findClass own = some m.cls) (x : ExceptionTableEntry) (suf : List ExceptionTableEntry) (hsplit : c.exceptionTable.toList = x :: suf) (hx : covers x pc = true) (h0 : x.catchType ≠ 0)
    (hlink : (Cond.classLink own x.catchType name).before args s = true) (hcast : (Cond.castable E name).before args s = true) (hcell : H[q]? = some ce) (hv : ce.vm = .none) (hcl : s.vm.findClass E = some ce.cls)
    (kk : W p l e R s m args below meth c H locs cells slots Q (F0 m x.handlerPc ls [.ref q])) : vx_W p l e R s m args below meth c H locs cells slots Q (F0 m pc ls rest) q := by
  intro T hT X
  have hpl : e.platform.magicAccessors = ({} : Platform).magicAccessors := by rw [X.admits.platform]
  obtain ⟨c3, c4, hc3, hc4, hasg⟩ := Cond.castable_spec hcast
  cases Option.some.inj (hc3.symm.trans hcl)
  obtain ⟨c5, hc5, hcl5⟩ := Cond.classLink_spec hown hlink e.platform hpl
  cases Option.some.inj (hc4.symm.trans hc5)
  obtain ⟨dk, _, _, kt, hd, _, _, _, _, hkt, _, hopen⟩ := hcl5.here
  have hl1 := X.warmed.classLinks hcl5
  have hW' : s.WarmedH (T.vm.noted m.cls x.catchType (.cls c4)) := X.warmed.noted hd hopen (State.rightAt_cls hcl5)
  have hal := X.warmed.alike
  obtain ⟨kt', hkt', -⟩ := hal.2.2 _ _ hkt
  have hfit' : T.vm.assignable ce.cls c4 = true := by rw [hal.assignable]; exact hasg
  obtain ⟨t, a1, b1⟩ := kk (T.setVm (T.vm.noted m.cls x.catchType (.cls c4))) hT (X.noted hW')
  refine ⟨t, ?_, b1⟩
  refine ax_goes (g := F0 m pc ls rest) X.here (pc := x.handlerPc) (vm' := T.vm.noted m.cls x.catchType (.cls c4)) (fun Q' E' d acts => ?_) a1
  rw [W.findHandler_eq (meth := meth) (code := c) X.method' X.code, hsplit]
  exact ax_seek (S := (T.setTop (F0 m pc ls rest)).pushFrame (.throwing q)) (f := F0 m pc ls rest) hx h0 hl1 (by show T.heap[q]? = some ce; rw [hT]; exact hcell) (VmData.ne_statics_of (by rw [hv]; rfl)) (Vm.classAt_of_assignable hfit' ⟨kt', hkt'⟩) ⟨kt', hkt'⟩ hfit'
end AXC
