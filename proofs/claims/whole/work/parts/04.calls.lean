/-! contracts here are FUNCTIONAL: the world behind a call is told by the world before it. zR: a reader's start; zP: a writer's start; zQ: a writer's end -/
abbrev zR (D : va_G) (tys : List (ClassId × FieldType)) (ws : va_W) (av : List Value) : Array Value → State → Prop := va_Pc av (fun U => va_P D classes ws U.heap ∧ va_K D classes tys U)
abbrev zP (D : va_G) (tys : List (ClassId × FieldType)) (ws : va_W) (av : List Value) (sz : Nat) : Array Value → State → Prop := va_Pc av (fun U => U.heap.size = sz ∧ va_P D classes ws U.heap ∧ va_K D classes tys U ∧ va_D (fun _ => True) ws)
abbrev zB (D : va_G) (tys : List (ClassId × FieldType)) (A : Nat → Prop) (ws : va_W) : State → Prop := fun t => va_P D classes ws t.heap ∧ va_K D classes tys t ∧ va_D A ws
def zQ (rv : Option Value) (B : State → Prop) (A : Nat → Prop) : Array Value → State → Outcome → State → Prop := fun _ st oc t => oc = .returned rv ∧ B t ∧ va_F A st t
theorem zfb_R {D : va_G} {tys : List (ClassId × FieldType)} {ws : va_W} {av : List Value} : FrameBlind (zR D tys ws av) := fun a U g mk q => ⟨q.1, q.2.1, va_K.moved (u := U) (U := U.calling g mk a) (Vm.Alike.refl U.vm) q.2.2⟩
theorem zfb_P {D : va_G} {tys : List (ClassId × FieldType)} {ws : va_W} {av : List Value} {sz : Nat} : FrameBlind (zP D tys ws av sz) := fun a U g mk q => ⟨q.1, q.2.1, q.2.2.1, va_K.moved (u := U) (U := U.calling g mk a) (Vm.Alike.refl U.vm) q.2.2.2.1, q.2.2.2.2⟩
section ZC
variable {p : Program} {l : Launch} {e : Env} {R : Room} {s : State} {m : MethodId} {args : Array Value} {below : List Frame} {meth : Method} {c : Code} {H : Heap} {locs : List Loc} {cells slots : Nat} {Q : State → Prop}
variable {cc by0 : ByteArray} {pc nL n0 n index mc ms : Nat} {ls : Array Slot} {rest st0 As : List Value} {D : va_G} {tys tysC : List (ClassId × FieldType)} {ws ws' wsC wsC' wr : va_W} {b ci q0 N : Nat} {own C : String} {T : u_T} {fs : List Value} {y : MethodName} {rt : Option FieldType} {rm : Room} {A : Nat → Prop} {H0 : Heap} {a : Array Value}
/-- the words that a call wants -/
abbrev zk_V (own C : String) (index : Nat) (y : MethodName) (by0 : ByteArray) (n0 : Nat) (rt : Option FieldType) : Prop := Cond.methodLink own index y ∈ lw_g ∧ Cond.instanceMethod y ∈ lw_g ∧ Cond.selects C y y ∈ lw_g ∧ Cond.initialized y.cls ∈ lw_g ∧ Cond.code y by0 n0 rt ∈ lw_g
abbrev zk_S (own : String) (index : Nat) (y : MethodName) (by0 : ByteArray) (n0 : Nat) (rt : Option FieldType) : Prop := Cond.methodLink own index y ∈ lw_g ∧ Cond.static y ∈ lw_g ∧ Cond.initialized y.cls ∈ lw_g ∧ Cond.code y by0 n0 rt ∈ lw_g
abbrev zk_I (own : String) (index : Nat) (y : MethodName) (by0 : ByteArray) (n0 : Nat) : Prop := Cond.methodLink own index y ∈ lw_g ∧ Cond.instanceMethod y ∈ lw_g ∧ Cond.initialized y.cls ∈ lw_g ∧ Cond.code y by0 n0 none ∈ lw_g
abbrev zk_d (y : MethodName) (n : Nat) : Prop := y.cls ≠ "java/lang/invoke/MethodHandle" ∧ y.cls ≠ "java/lang/invoke/VarHandle" ∧ (parseMethodDescriptor y.desc).map (fun d => d.parameters.length) = some n
abbrev zk_R (rm R : Room) (mc ms n0 : Nat) : Prop := rm.cells = mc ∧ rm.slots = ms ∧ rm.frames + 1 ≤ R.frames ∧ 8 + (n0 + 11) + rm.locals ≤ R.locals
theorem zr_V {rv : Value} (S : CallFix p m c cc nL s args lw_g own) (hM : Met l y (wsA y by0 n0 rt) rm (zR D tysC wsC (.ref b :: As)) (k2_QcV rv) 0 0 (fun _ => False)) (hk : zk_V own C index y by0 n0 rt) (hd : zk_d y n) (hR : zk_R rm R 0 0 n0) (hcs : cells ≤ R.cells ∧ slots ≤ R.slots)
    (hK : va_K D classes tys s) (hP : va_P D classes ws H) (isW : List Nat) (hw : isW.filterMap (fun i => ws[i]?) = wsC) (isT : List Nat) (ht : isT.filterMap (fun i => tys[i]?) = tysC) (he : wsC[q0]? = some (b, .inr (ci, fs))) (hc : classes[ci]? = some (C, T, N)) (hn : As.length = n) (hsize : ls.size = nL) (hst : st0 = As.reverse ++ .ref b :: rest) (hwt : (rest.map fun v => v.category).sum ≤ 8) (hdg : decode cc pc = .ok (.invokevirtual index, 3))
    (kk : W p l e R s m args below meth c H locs cells slots Q (F0 m (pc + 3) ls (rv :: rest))) : W p l e R s m args below meth c H locs cells slots Q (F0 m pc ls st0) := by
  have hPc := hP.sub isW hw
  have hKc := hK.sub isT ht
  have hts := S.2.2.2.2
  exact W.callV (W.runV (As := As) (rest := rest) (b := b) (C := C) (n := n) S hM ⟨callB_of n hts (gd_A hk.2.2.2.2) rfl hR.1 hR.2.1 (hts _ hk.2.2.2.1) (hts _ hk.1) hd hR.2.2, hts _ hk.2.1, hts _ hk.2.2.1⟩ ⟨zfb_R, va_recv hKc hPc hc he, fun U hU hW => ⟨rfl, by rw [hU]; exact hPc, va_K.moved hW.alike hKc⟩⟩ rfl hn hsize hst (lv_room hwt) hdg ⟨hcs.1, hcs.2⟩) kk
theorem zr_S {rv : Value} (S : CallFix p m c cc nL s args lw_g own) (hM : Met l y (wsA y by0 n0 rt) rm (zR D tysC wsC As) (k2_QcV rv) 0 0 (fun _ => False)) (hk : zk_S own index y by0 n0 rt) (hd : zk_d y n) (hR : zk_R rm R 0 0 n0) (hcs : cells ≤ R.cells ∧ slots ≤ R.slots)
    (hK : va_K D classes tys s) (hP : va_P D classes ws H) (isW : List Nat) (hw : isW.filterMap (fun i => ws[i]?) = wsC) (isT : List Nat) (ht : isT.filterMap (fun i => tys[i]?) = tysC) (hn : As.length = n) (hsize : ls.size = nL) (hst : st0 = As.reverse ++ rest) (hwt : (rest.map fun v => v.category).sum ≤ 8) (hdg : decode cc pc = .ok (.invokestatic index, 3))
    (kk : W p l e R s m args below meth c H locs cells slots Q (F0 m (pc + 3) ls (rv :: rest))) : W p l e R s m args below meth c H locs cells slots Q (F0 m pc ls st0) := by
  have hPc := hP.sub isW hw
  have hKc := hK.sub isT ht
  have hts := S.2.2.2.2
  exact W.callV (W.runS (As := As) (rest := rest) (n := n) S hM ⟨callB_of n hts (gd_A hk.2.2.2) rfl hR.1 hR.2.1 (hts _ hk.2.2.1) (hts _ hk.1) hd hR.2.2, hts _ hk.2.1⟩ ⟨zfb_R, fun U hU hW => ⟨rfl, by rw [hU]; exact hPc, va_K.moved hW.alike hKc⟩⟩ rfl hn hsize hst (lv_room hwt) hdg ⟨hcs.1, hcs.2⟩) kk
/-- behind a writer's call -/
theorem zw_go {rv : Option Value} {B : State → Prop} {A0 A1 : Nat → Prop} {free : Addr → Prop} (hr : va_Run p l e R s m args below meth c H locs cells slots mc ms (F0 m pc ls st0) rest (zQ rv B A1 a) free) (hS : va_S A0 H0 H locs) (hA : ∀ q, q < H.size → A1 q → A0 q) (hf : ∀ q, free q → A0 q)
    (kk : ∀ (t : State) (H1 : Heap) (locs1 : List Loc), t.heap = H1 → s.vm.Alike t.vm → B t → H.size ≤ H1.size → (∀ q : Nat, q < H.size → ¬ A1 q → H1[q]? = H[q]?) → va_S A0 H0 H1 locs1 → W p l e R s m args below meth c H1 locs1 (cells + mc) (slots + ms) Q (F0 m (pc + 3) ls (rv.toList ++ rest))) : W p l e R s m args below meth c H locs cells slots Q (F0 m pc ls st0) := by
  intro T hT X
  obtain ⟨v, st₀, t, T', L, h0, X', hL, e1, e2, ⟨hv, hb, hz, hk⟩, st⟩ := hr T hT X
  cases hv
  rw [h0] at hz hk
  obtain ⟨t2, a1, b1⟩ := kk t T'.heap (locs ++ L) e1.symm (by rw [← e2]; exact X'.warmed.alike) hb (by rw [e1]; exact hz) (fun q h1 h2 => by rw [e1]; exact hk q h1 h2)
    ⟨Nat.le_trans hS.1 (by rw [e1]; exact hz), fun q h1 h2 => by rw [e1, hk q (Nat.lt_of_lt_of_le h1 hS.1) (fun z => h2 (hA q (Nat.lt_of_lt_of_le h1 hS.1) z))]; exact hS.2.1 q h1 h2, fun q hq => by
      rcases List.mem_append.mp hq with h | h
      · exact hS.2.2 q h
      · exact hf _ (hL q h)⟩ T' rfl X'
  exact ⟨t2, st t2 a1, b1⟩
/-- a writer's call of a method of an object, no cell made: isC: the callee's cells among ours, isR: the others, pm: the order that we want them in behind it -/
theorem zw_V {rv : Option Value} (S : CallFix p m c cc nL s args lw_g own) (hM : Met l y (wsA y by0 n0 rt) rm (zP D tysC wsC (.ref b :: As) H.size) (zQ rv (zB D tysC (va_A wsC H.size) wsC') (va_A wsC H.size)) 0 0 (va_A wsC H.size)) (hk : zk_V own C index y by0 n0 rt) (hd : zk_d y n) (hR : zk_R rm R 0 0 n0) (hcs : cells ≤ R.cells ∧ slots ≤ R.slots)
    (hK : va_K D classes tys s) (hP : va_P D classes ws H) (hD : va_D A ws) (hS : va_S A H0 H locs) (hA : ∀ q, H0.size ≤ q → A q) (isC isR pm isT : List Nat) (hw : isC.filterMap (fun i => ws[i]?) = wsC) (hC : isC.map (fun i => ws[i]?) = wsC.map some) (hnC : va_nd isC = true) (hr : isR.map (fun i => ws[i]?) = wr.map some) (hnR : va_nd isR = true) (hdis : ∀ i ∈ isR, i ∉ isC)
    (hpm : pm.filterMap (fun i => (wr ++ wsC')[i]?) = ws') (hpm2 : pm.map (fun i => (wr ++ wsC')[i]?) = ws'.map some) (hnP : va_nd pm = true) (ht : isT.filterMap (fun i => tys[i]?) = tysC) (he : wsC[q0]? = some (b, .inr (ci, fs))) (hc : classes[ci]? = some (C, T, N)) (hn : As.length = n) (hsize : ls.size = nL) (hst : st0 = As.reverse ++ .ref b :: rest) (hwt : (rest.map fun v => v.category).sum ≤ 8) (hdg : decode cc pc = .ok (.invokevirtual index, 3))
    (kk : ∀ (H1 : Heap) (locs1 : List Loc), va_P D classes ws' H1 → va_D A ws' → va_S A H0 H1 locs1 → W p l e R s m args below meth c H1 locs1 cells slots Q (F0 m (pc + 3) ls (rv.toList ++ rest))) : W p l e R s m args below meth c H locs cells slots Q (F0 m pc ls st0) := by
  have hPc := hP.sub isC hw
  have hKc := hK.sub isT ht
  have hDc := hD.sub isC hnC hC
  have hts := S.2.2.2.2
  have hFc := va_free hD hS hA isC hC
  refine zw_go (va_runV (As := As) (rest := rest) (b := b) (C := C) (n := n) S hM ⟨callB_of n hts (gd_A hk.2.2.2.2) rfl hR.1 hR.2.1 (hts _ hk.2.2.2.1) (hts _ hk.1) hd hR.2.2, hts _ hk.2.1, hts _ hk.2.2.1⟩ ⟨zfb_P, va_recv hKc hPc hc he, fun U hU hW => ⟨rfl, by rw [hU], by rw [hU]; exact hPc, va_K.moved hW.alike hKc, hDc.weaken (fun _ _ _ _ => trivial)⟩⟩ rfl hn hsize hst (lv_room hwt) hdg ⟨hcs.1, hcs.2⟩) hS (fun q _ h => hFc q h) hFc (fun t H1 locs1 h1 hvm hB hz1 hk1 hS1 => ?_)
  obtain ⟨hP1, hK1, hD1⟩ := hB
  rw [h1] at hP1
  obtain ⟨hP2, hD2⟩ := va_join hP hD isC isR hC hr hnR hdis hk1 hFc hP1 hD1
  exact kk H1 locs1 (hP2.sub pm hpm) (hD2.sub pm hnP hpm2) hS1
theorem zw_S {rv : Option Value} (S : CallFix p m c cc nL s args lw_g own) (hM : Met l y (wsA y by0 n0 rt) rm (zP D tysC wsC As H.size) (zQ rv (zB D tysC (va_A wsC H.size) wsC') (va_A wsC H.size)) 0 0 (va_A wsC H.size)) (hk : zk_S own index y by0 n0 rt) (hd : zk_d y n) (hR : zk_R rm R 0 0 n0) (hcs : cells ≤ R.cells ∧ slots ≤ R.slots)
    (hK : va_K D classes tys s) (hP : va_P D classes ws H) (hD : va_D A ws) (hS : va_S A H0 H locs) (hA : ∀ q, H0.size ≤ q → A q) (isC isR pm isT : List Nat) (hw : isC.filterMap (fun i => ws[i]?) = wsC) (hC : isC.map (fun i => ws[i]?) = wsC.map some) (hnC : va_nd isC = true) (hr : isR.map (fun i => ws[i]?) = wr.map some) (hnR : va_nd isR = true) (hdis : ∀ i ∈ isR, i ∉ isC)
    (hpm : pm.filterMap (fun i => (wr ++ wsC')[i]?) = ws') (hpm2 : pm.map (fun i => (wr ++ wsC')[i]?) = ws'.map some) (hnP : va_nd pm = true) (ht : isT.filterMap (fun i => tys[i]?) = tysC) (hn : As.length = n) (hsize : ls.size = nL) (hst : st0 = As.reverse ++ rest) (hwt : (rest.map fun v => v.category).sum ≤ 8) (hdg : decode cc pc = .ok (.invokestatic index, 3))
    (kk : ∀ (H1 : Heap) (locs1 : List Loc), va_P D classes ws' H1 → va_D A ws' → va_S A H0 H1 locs1 → W p l e R s m args below meth c H1 locs1 cells slots Q (F0 m (pc + 3) ls (rv.toList ++ rest))) : W p l e R s m args below meth c H locs cells slots Q (F0 m pc ls st0) := by
  have hPc := hP.sub isC hw
  have hKc := hK.sub isT ht
  have hDc := hD.sub isC hnC hC
  have hts := S.2.2.2.2
  have hFc := va_free hD hS hA isC hC
  refine zw_go (va_runS (As := As) (rest := rest) (n := n) S hM ⟨callB_of n hts (gd_A hk.2.2.2) rfl hR.1 hR.2.1 (hts _ hk.2.2.1) (hts _ hk.1) hd hR.2.2, hts _ hk.2.1⟩ ⟨zfb_P, fun U hU hW => ⟨rfl, by rw [hU], by rw [hU]; exact hPc, va_K.moved hW.alike hKc, hDc.weaken (fun _ _ _ _ => trivial)⟩⟩ rfl hn hsize hst (lv_room hwt) hdg ⟨hcs.1, hcs.2⟩) hS (fun q _ h => hFc q h) hFc (fun t H1 locs1 h1 hvm hB hz1 hk1 hS1 => ?_)
  obtain ⟨hP1, hK1, hD1⟩ := hB
  rw [h1] at hP1
  obtain ⟨hP2, hD2⟩ := va_join hP hD isC isR hC hr hnR hdis hk1 hFc hP1 hD1
  exact kk H1 locs1 (hP2.sub pm hpm) (hD2.sub pm hnP hpm2) hS1
/-- the entry of a writer's contract -/
theorem z_start {ws0 : va_W} {sz : Nat} (hsz : s.heap.size = sz) (hD0 : va_D (fun _ => True) ws0) : va_D (va_A ws0 sz) ws0 ∧ (∀ q : Nat, s.heap.size ≤ q → va_A ws0 sz q) ∧ va_S (va_A ws0 sz) s.heap s.heap [] := by
  subst hsz
  exact ⟨hD0.self, fun q h => Or.inr h, va_S.rf⟩
/-- a number on the stack by another name -/
theorem lv_toi {x z : Int32} (h : x = z) (k : W p l e R s m args below meth c H locs cells slots Q (F0 m pc ls (.int z :: rest))) : W p l e R s m args below meth c H locs cells slots Q (F0 m pc ls (.int x :: rest)) := h ▸ k
theorem lv_tol {x z : Int64} (h : x = z) (k : W p l e R s m args below meth c H locs cells slots Q (F0 m pc ls (.long z :: rest))) : W p l e R s m args below meth c H locs cells slots Q (F0 m pc ls (.long x :: rest)) := h ▸ k
theorem lv_tov {x z : Value} (h : x = z) (k : W p l e R s m args below meth c H locs cells slots Q (F0 m pc ls (z :: rest))) : W p l e R s m args below meth c H locs cells slots Q (F0 m pc ls (x :: rest)) := h ▸ k
end ZC
