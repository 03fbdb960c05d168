/-! a call that throws, caught in its caller -/
/-- the table's rows, from the first: each covers the place; those ahead of the handler at hp are of other classes -/
def zcHit (pc : Nat) (s : State) (args : Array Value) (own : String) (cl : ClassId) (hp : Nat) : List ExceptionTableEntry → Prop
  | [] => False
  | x :: t => covers x pc = true ∧ x.catchType ≠ 0 ∧ ∃ (name : String) (cT : ClassId), (Cond.classLink own x.catchType name).before args s = true ∧ s.vm.findClass name = some cT ∧ ((s.vm.assignable cl cT = true ∧ x.handlerPc = hp) ∨ (s.vm.assignable cl cT = false ∧ zcHit pc s args own cl hp t))
theorem zc_miss {Q : Handler → Pre} {E : CtlPost} {e : Env} {d : Bool} {acts : List Action} {s : State} {f : JFrame} {a : Addr} {x : ExceptionTableEntry} {t : List ExceptionTableEntry} {c : ClassId} {cell : Cell} (hx : covers x f.pc = true) (h0 : x.catchType ≠ 0)
    (hl : s.vm.ClassLinks e.platform f.method.cls x.catchType c) (hcell : s.heap[a]? = some cell) (hobj : ∀ k, cell.vm ≠ .statics k) (hk : ∃ k, s.vm.classes[cell.cls]? = some k) (hc : ∃ k, s.vm.classes[c]? = some k) (hfit : s.vm.assignable cell.cls c = false) :
    Sem.wp (findHandler.go f a (x :: t)) Q E e d acts s ↔ Sem.wp (findHandler.go f a t) Q E e d acts (s.setVm (s.vm.noted f.method.cls x.catchType (.cls c))) := by
  simp only [covers] at hx
  obtain ⟨ha, ht⟩ := (resolveClass_links e.toSetting hl).op (op := VmOp.resolveClass f.method.cls x.catchType) rfl
  have hal : s.vm.Alike (s.vm.noted f.method.cls x.catchType (.cls c)) := (Vm.Alike.refl s.vm).noted _ _ _
  obtain ⟨k1, hk1⟩ := hk
  obtain ⟨k2, hk2⟩ := hc
  obtain ⟨k1', hk1', -⟩ := hal.2.2 _ _ hk1
  obtain ⟨k2', hk2', -⟩ := hal.2.2 _ _ hk2
  have hno : (s.vm.noted f.method.cls x.catchType (.cls c)).assignable cell.cls c = false := by rw [hal.assignable]; exact hfit
  simp [findHandler.go, hx, h0, ha, ht, hcell, hobj, hk1', hk2', hno, VmOp.dirties, VmOp.acts]
theorem zc_go {e : Env} {s : State} {args : Array Value} {own : String} {f : JFrame} {a : Addr} {cell : Cell} {hp : Nat} (hpl : e.platform.magicAccessors = ({} : Platform).magicAccessors) (hown : s.vm.findClass own = some f.method.cls) (hobj : cell.vm.isStatics = false) (hk : ∃ k, s.vm.classes[cell.cls]? = some k) :
    ∀ (es : List ExceptionTableEntry) (U : State), zcHit f.pc s args own cell.cls hp es → s.WarmedH U.vm → U.heap[a]? = some cell → ∃ vm', s.WarmedH vm' ∧ ∀ (Q : Handler → Pre) (E : CtlPost) (d : Bool) (acts : List Action), Sem.wp (findHandler.go f a es) Q E e d acts U ↔ Q (.found hp) d acts (U.setVm vm')
  | [], _, h, _, _ => h.elim
  | x :: t, U, h, hW, hcell => by
    obtain ⟨hx, h0, name, cT, hlink, hfc, hor⟩ := h
    obtain ⟨c', hc', hcl⟩ := Cond.classLink_spec hown hlink e.platform hpl
    cases hfc.symm.trans hc'
    obtain ⟨dk, _, _, kt, hd, _, _, _, _, hkt, _, hopen⟩ := hcl.here
    have hcl0 := hW.classLinks hcl
    have hW' : s.WarmedH (U.vm.noted f.method.cls x.catchType (.cls cT)) := hW.noted hd hopen (State.rightAt_cls hcl)
    have hkU : ∃ k, U.vm.classes[cell.cls]? = some k := by
      obtain ⟨k1, hk1⟩ := hk
      obtain ⟨k2, hk2, -⟩ := hW.alike.2.2 _ _ hk1
      exact ⟨k2, hk2⟩
    have hcU : ∃ k, U.vm.classes[cT]? = some k := by
      obtain ⟨k2, hk2, -⟩ := hW.alike.2.2 _ _ hkt
      exact ⟨k2, hk2⟩
    rcases hor with ⟨hfit, hpc⟩ | ⟨hfit, hrest⟩
    · refine ⟨_, hW', fun Q E d acts => ?_⟩
      rw [W.findHandler_go_link hx h0 hcl0 hcell (VmData.ne_statics_of hobj) hkU hcU (by rw [hW.alike.assignable]; exact hfit), hpc]
    · obtain ⟨vm', hw, hq⟩ := zc_go hpl hown hobj hk t (U.setVm (U.vm.noted f.method.cls x.catchType (.cls cT))) hrest hW' hcell
      refine ⟨vm', hw, fun Q E d acts => ?_⟩
      rw [zc_miss hx h0 hcl0 hcell (VmData.ne_statics_of hobj) hkU hcU (by rw [hW.alike.assignable]; exact hfit), hq]
      exact Iff.rfl
section ZCC
variable {p : Program} {l : Launch} {e : Env} {R : Room} {s : State} {m : MethodId} {args : Array Value} {below : List Frame} {meth : Method} {c : Code} {H : Heap} {locs : List Loc} {cells slots : Nat} {Q : State → Prop}
variable {cc by0 : ByteArray} {pc nL n0 n index mc ms hp : Nat} {ls : Array Slot} {rest st0 As : List Value} {b : Nat} {own C cls : String} {y : MethodName} {rt : Option FieldType} {rm : Room} {Pc : Array Value → State → Prop} {ws : List Cond}
theorem zc_call (S : CallFix p m c cc nL s args lw_g own) (hM : zt_Met l y ws rm Pc (zt_Q cls) mc ms (fun _ => False)) (cw : CallW R s args own C index y by0 n0 rt ws rm mc ms n) (hpv : PreV s H C b Pc As)
    (hn : As.length = n) (hsize : ls.size = nL) (hst : st0 = As.reverse ++ .ref b :: rest) (hwt : (rest.map fun v => v.category).sum ≤ 8) (hdg : decode cc pc = .ok (.invokevirtual index, 3)) (hf : cells + mc ≤ R.cells ∧ slots + ms ≤ R.slots)
    (hhit : ∀ cl : ClassId, s.vm.findClass cls = some cl → zcHit pc s args own cl hp c.exceptionTable.toList)
    (kk : ∀ (H1 : Heap) (x : Nat), H.size ≤ H1.size → (∀ q : Nat, q < H.size → H1[q]? = H[q]?) → H.size ≤ x → W p l e R s m args below meth c H1 locs (cells + mc) (slots + ms) Q (F0 m hp ls [.ref x])) : W p l e R s m args below meth c H locs cells slots Q (F0 m pc ls st0) := by
  intro T hT X
  obtain ⟨⟨hrc, hrs, hfr, hlo, hws, hcw, hcode, hini, hy, hlen, hl⟩, hin, hse⟩ := cw
  obtain ⟨hx, hb, hml, ho, -⟩ := S
  obtain ⟨hbl, ⟨cellB, hcB, hoB, hclB⟩, hPc⟩ := hpv
  obtain ⟨mk, methM, hnamed, hmethM, hstM, habM⟩ := Cond.instanceMethod_spec hin
  obtain ⟨methM', cM, hmethM', -, -, -, -, -, -, hsigM⟩ := Cond.code_spec hnamed hcode
  cases hmethM.symm.trans hmethM'
  obtain ⟨c2, r2, m2, q1, q2, q3, q4, kP, hkP, hkPi⟩ := Cond.selects_spec hse
  cases hclB.symm.trans q1
  cases (State.methodFound?_of_named hnamed hy).symm.trans q2
  cases hnamed.symm.trans q3
  have hselP : selectMethod e.platform s.vm cellB.cls mk = .method mk := by rw [Launch.admits_selectMethod X.admits]; exact q4
  obtain ⟨vm₁, X₁, hstep₁⟩ := X.invokevirtual hx ho hl hnamed hmethM hstM hkP hkPi hy (a := b) (cell := cellB) (by rw [hT]; exact hcB)
    (fun z h => by rw [h] at hoB; cases hoB) hselP hmethM habM hkP hkPi (g := F0 m pc ls st0) rfl (argsL := As) (rest := rest) (hn.trans (hlen _ hsigM)) hst (by rw [hb]; exact hdg)
  have hnU := X₁.named hnamed
  have hcdU : (Cond.code y by0 n0 rt).before (Value.ref b :: As).toArray (T.setVm vm₁) = true := hws _ hcw _ _ X₁.warmed
  have hinU : (Cond.initialized y.cls).before (Value.ref b :: As).toArray (T.setVm vm₁) = true := word_at X₁.warmed (Or.inl (by first | rfl | simp [Cond.onTables, Cond.keeps, Cond.steady])) hini
  obtain ⟨methY, cY, hmY, hcY, -, hlY, -, -, -, -⟩ := Cond.code_spec hnU hcdU
  obtain ⟨kY, hkY, -⟩ := className_of_methodNamed hnU
  have hinitY : kY.init = .initialized := Cond.initialized_spec (findClass_of_methodNamed hnU) hkY hinU
  have happ : (headSpec ws rm).appliesLoose y e.platform ((T.setVm vm₁).calling (F0 m pc ls rest) mk (Value.ref b :: As).toArray) = true :=
    Spec.appliesLoose_calling (g := F0 m pc ls rest) X₁.here (by rw [hb]; exact hdg) hnU hkY hinitY
      (X₁.room_calling (g := F0 m pc ls rest) (R' := (headSpec ws rm).room) (hsize.trans hml.symm) hmY hcY hfr (by
        rw [hlY]
        show 2 * 0 + (rest.map fun v => v.category).sum + (n0 + 11) + rm.locals ≤ R.locals
        omega) (by rw [show (headSpec ws rm).room.cells = mc from hrc]; exact hf.1) (by rw [show (headSpec ws rm).room.slots = ms from hrs]; exact hf.2)) (atoms_intro fun w hw => hws w hw _ _ X₁.warmed)
  obtain ⟨mid, hmid⟩ := X₁.here.above
  have hfrm : ((T.setVm vm₁).setTop (F0 m pc ls rest)).frames = (.java (F0 m pc ls rest) :: mid) ++ below := by rw [State.frames_setTop' _ X₁.here.top, hmid]; rfl
  obtain ⟨o, s₂, hsteps, -, hend, x, hox, hq, L, hFE, hL⟩ := Steps.callFree hM p X₁.admits X₁.cas X₁.clock (acts := []) hfrm happ (hbl _ _ _ _ (hPc (T.setVm vm₁) hT X₁.warmed)) trivial
  subst hox
  have hL0 : L = [] := by
    cases L with
    | nil => rfl
    | cons q _ => exact (hL q List.mem_cons_self).elim
  subst hL0
  rw [State.frames_setTop' _ X₁.here.top, X₁.tail] at hend
  obtain ⟨T', X', hW', -, ht⟩ := X₁.outOfThrown (g := F0 m pc ls rest) rfl hend hFE.1 hFE.2
  rw [List.append_nil] at X'
  obtain ⟨hxs, ⟨cell, hcell, hcf, hob⟩, hsz, hold⟩ := hq
  have hcf' : s.vm.findClass cls = some cell.cls := by
    rw [← X₁.warmed.alike.findClass]
    exact hcf
  have hH' : s₂.heap = T'.heap := by rw [ht]; rfl
  have hHs : ((T.setVm vm₁).setTop (F0 m pc ls rest)).heap = H := hT
  rw [hH'] at hcell hsz hold
  have hpl : e.platform.magicAccessors = ({} : Platform).magicAccessors := by rw [X.admits.platform]
  obtain ⟨vm', hwv, hfind⟩ := zc_go (e := e) (f := F0 m pc ls rest) (a := x) hpl ho hob (Vm.classAt_of_findClass hcf') c.exceptionTable.toList ((T'.setTop (F0 m pc ls rest)).pushFrame (.throwing x)) (hhit _ hcf') X'.warmed hcell
  have hmT : T'.vm.method? m = some meth := by rw [X'.warmed.alike.method?]; exact X.method
  have hfto : FindsTo e ((T'.setTop (F0 m pc ls rest)).pushFrame (.throwing x)) (F0 m pc ls rest) x (.found hp) vm' := fun Q E d acts => by
    rw [W.findHandler_eq (meth := meth) (code := c) hmT X.code]
    exact hfind Q E d acts
  have X'' := X'.noted hwv
  obtain ⟨t, a1, b1⟩ := kk T'.heap x (by rw [← hHs]; exact hsz) (fun q h => by
    have h9 := hold q (by show q < ((T.setVm vm₁).setTop (F0 m pc ls rest)).heap.size; rw [hHs]; exact h)
    rw [h9]
    show ((T.setVm vm₁).setTop (F0 m pc ls rest)).heap[q]? = _
    rw [hHs]) (by rw [← hHs]; exact hxs) (T'.setVm vm') rfl X''
  refine ⟨t, hstep₁ _ fun acts => ?_, b1⟩
  rw [doInvoke_state]
  refine hsteps.trans ?_
  rw [ht]
  exact Steps.caughtTo (g := F0 m pc ls rest) X'.here hfto a1
end ZCC
