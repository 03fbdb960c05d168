/-! cells that are made: the next address is the heap's size, and the heap's size is known -/
section ZMK
variable {p : Program} {l : Launch} {e : Env} {R : Room} {s : State} {m : MethodId} {args : Array Value} {below : List Frame} {meth : Method} {c : Code} {H : Heap} {locs : List Loc} {cells slots : Nat} {Q : State → Prop}
variable {cc by0 : ByteArray} {pc nL n0 n index mc ms : Nat} {ls : Array Slot} {rest st0 As : List Value} {D : va_G} {tys tysC : List (ClassId × FieldType)} {ws ws' wsC wsC' wr : va_W} {b ci q0 N : Nat} {own C : String} {T : u_T} {fs : List Value} {y : MethodName} {rt : Option FieldType} {rm : Room} {A : Nat → Prop} {H0 : Heap} {a : Array Value} {F : (Nat → Prop) → State → Heap → Prop} {cA c2 : ClassId}
theorem zsz {g : JFrame} (k : H.size ≤ s.heap.size + cells → W p l e R s m args below meth c H locs cells slots Q g) : W p l e R s m args below meth c H locs cells slots Q g := fun T hT X => k (by rw [← hT]; exact X.heapSize) T hT X
theorem z_newa (hexec : p.tables.exec = Jvm.exec) (hb : c.code = cc) {atype : ArrayType} {ty : FieldType} (hty : newarray.typeOf atype = ty) (harr : (Cond.arrayClass ty).before args s = true) (hRA : s.vm.findClass ("[" ++ ty.toString) = some cA) (hP : va_P D classes ws H) (hD : va_D A ws) (hS : va_S A H0 H locs) (hA : ∀ q, H0.size ≤ q → A q)
    {n : Int32} {N' q : Nat} {a0 : vp_A} (ha : ∀ cA : ClassId, vp_cell cA a0 = arrV cA N' (fun _ => defaultValue ty)) (hn : ¬ n < 0) (hN : n.toNatClampNeg = N') (hbytes : N' * componentBytes ty ≤ 536870912) (hcells : cells + 1 ≤ R.cells) (hslots : slots + N' ≤ R.slots) (hq : H.size = q) (hdg : decode cc pc = .ok (.newarray atype, 2))
    (kk : ∀ H1 : Heap, va_P D classes (ws ++ [(q, .inl (cA, a0))]) H1 → va_D A (ws ++ [(q, .inl (cA, a0))]) → va_S A H0 H1 locs → W p l e R s m args below meth c H1 locs (cells + 1) (slots + N') Q (F0 m (pc + 2) ls (.ref q :: rest))) : W p l e R s m args below meth c H locs cells slots Q (F0 m pc ls (.int n :: rest)) := by
  subst hty
  subst hq
  refine va_newaK hexec hb harr rfl hdg rfl hn hN hbytes hcells hslots rfl fun H1 cA' e1 z1 o1 hAr hNm => ?_
  cases hNm.symm.trans hRA
  have hk : ∀ (k : Nat) (x : Nat × va_E), ws[k]? = some x → H1[x.1]? = H[x.1]? := fun k x hx => o1 x.1 ((hP k x hx).lt)
  refine kk H1 ((hP.kept hk).app (fun k x hx => ?_)) (hD.push hP rfl (hA _ hS.1)) ⟨Nat.le_trans hS.1 (by omega), fun x h1 h2 => (o1 x (Nat.lt_of_lt_of_le h1 hS.1)).trans (hS.2.1 x h1 h2), hS.2.2⟩
  have hz : k < 1 := (List.getElem?_eq_some_iff.mp hx).1
  rw [show k = 0 by omega] at hx
  cases hx
  show H1[H.size]? = some (vp_cell _ _)
  rw [ha]
  exact e1
theorem z_new (hexec : p.tables.exec = Jvm.exec) (hb : c.code = cc) (hts : ∀ w ∈ lw_g, w.before args s = true) (hin : ∀ w ∈ u_ws C T N, w ∈ lw_g) (ty : Nat → FieldType) (hty : ∀ k, k < N → parseFieldDescriptor (T k).2.2.1 = some (ty k)) (hown : s.vm.findClass own = some m.cls) (hcl : Cond.classLink own index C ∈ lw_g) (hinst : Cond.instantiable C N ∈ lw_g) (hini : Cond.initialized C ∈ lw_g)
    (hK : va_K D classes tys s) (hP : va_P D classes ws H) (hD : va_D A ws) (hS : va_S A H0 H locs) (hA : ∀ q, H0.size ≤ q → A q) (hc : classes[ci]? = some (C, T, N)) {fs : List Value} (hfs : ∀ j, j < N → defaultValue (ty j) = vp_V fs j) {q : Nat} (hcells : cells + 1 ≤ R.cells) (hslots : slots + N ≤ R.slots) (hq : H.size = q) (hdg : decode cc pc = .ok (.new index, 3))
    (kk : ∀ H1 : Heap, va_P D classes (ws ++ [(q, .inr (ci, fs))]) H1 → va_D A (ws ++ [(q, .inr (ci, fs))]) → va_S A H0 H1 locs → W p l e R s m args below meth c H1 locs (cells + 1) (slots + N) Q (F0 m (pc + 3) ls (.ref q :: rest))) : W p l e R s m args below meth c H locs cells slots Q (F0 m pc ls rest) := by
  subst hq
  have hKn := hK.1 ci _ hc
  refine W.newcK hexec hb hown (hts _ hcl) (hts _ hinst) (hts _ hini) rfl hdg hcells hslots hKn.2.1 rfl fun H1 kC hkC e1 z1 o1 => ?_
  have hk : ∀ (k : Nat) (x : Nat × va_E), ws[k]? = some x → H1[x.1]? = H[x.1]? := fun k x hx => o1 x.1 ((hP k x hx).lt)
  refine kk H1 ((hP.kept hk).app (fun k x hx => ?_)) (hD.push hP rfl (hA _ hS.1)) ⟨Nat.le_trans hS.1 (by omega), fun x h1 h2 => (o1 x (Nat.lt_of_lt_of_le h1 hS.1)).trans (hS.2.1 x h1 h2), hS.2.2⟩
  have hz : k < 1 := (List.getElem?_eq_some_iff.mp hx).1
  rw [show k = 0 by omega] at hx
  cases hx
  exact ⟨_, hc, (u_born ty hts hin hKn hkC e1 hty).to hfs⟩
theorem z_newq (hexec : p.tables.exec = Jvm.exec) (hb : c.code = cc) (hown : s.vm.findClass own = some m.cls) (hclink : (Cond.classLink own index C).before args s = true) (hover : va_AO C s) (hRA : s.vm.findClass ("[" ++ (FieldType.object C).toString) = some cA) (hP : va_P D classes ws H) (hD : va_D A ws) (hS : va_S A H0 H locs) (hA : ∀ q, H0.size ≤ q → A q)
    {n : Int32} {N' q : Nat} (hn : ¬ n < 0) (hN : n.toNatClampNeg = N') (hbytes : N' * 4 ≤ 536870912) (hcells : cells + 1 ≤ R.cells) (hslots : slots + N' ≤ R.slots) (hq : H.size = q) (hdg : decode cc pc = .ok (.anewarray index, 3))
    (kk : ∀ H1 : Heap, va_P D classes (ws ++ [(q, .inl (cA, N', .inr (.inr (.inr (.inr (fun _ => none))))))]) H1 → va_D A (ws ++ [(q, .inl (cA, N', .inr (.inr (.inr (.inr (fun _ => none))))))]) → va_S A H0 H1 locs → W p l e R s m args below meth c H1 locs (cells + 1) (slots + N') Q (F0 m (pc + 3) ls (.ref q :: rest))) : W p l e R s m args below meth c H locs cells slots Q (F0 m pc ls (.int n :: rest)) := by
  subst hN
  subst hq
  refine W.anew hexec hb hown hclink (va_AO.use hover) rfl hdg rfl hn hbytes hcells hslots fun cA' kA comp f1 f2 f3 f4 => ?_
  cases f1.symm.trans hRA
  generalize hH1 : H.push ({ cls := cA, slots := Array.replicate n.toNatClampNeg .null, vm := .none } : Cell) = H1
  have z1 : H1.size = H.size + 1 := by rw [← hH1, Array.size_push]
  have e1 : H1[H.size]? = some (arrV cA n.toNatClampNeg (fun _ => .null)) := by rw [← hH1, Array.getElem?_push_size, ← arrV_new]
  have o1 : ∀ q : Nat, q < H.size → H1[q]? = H[q]? := fun q hq => by rw [← hH1, Array.getElem?_push, if_neg (Nat.ne_of_lt hq)]
  have hk : ∀ (k : Nat) (x : Nat × va_E), ws[k]? = some x → H1[x.1]? = H[x.1]? := fun k x hx => o1 x.1 ((hP k x hx).lt)
  refine kk H1 ((hP.kept hk).app (fun k x hx => ?_)) (hD.push hP rfl (hA _ hS.1)) ⟨Nat.le_trans hS.1 (by omega), fun x h1 h2 => (o1 x (Nat.lt_of_lt_of_le h1 hS.1)).trans (hS.2.1 x h1 h2), hS.2.2⟩
  have hz : k < 1 := (List.getElem?_eq_some_iff.mp hx).1
  rw [show k = 0 by omega] at hx
  cases hx
  show H1[H.size]? = some (vp_cell _ _)
  rw [vp_cell_q]
  exact e1
/-- the rows of a new int[n][k] -/
def mrows (cA : ClassId) (q k : Nat) (n : Nat) : va_W := (List.range n).map (fun j => (q + 1 + j, .inl (cA, k, .inl (fun zk => nI ((fun _ : Nat => (0 : Nat)) zk)))))
theorem z_multi (hexec : p.tables.exec = Jvm.exec) (hb : c.code = cc) (hown : s.vm.findClass own = some m.cls) (hclink : (Cond.classLink own index "[[I").before args s = true) (hover : (Cond.arrayOver (.array .int)).before args s = true) (harr : (Cond.arrayClass .int).before args s = true)
    (hRA : s.vm.findClass "[I" = some cA) (hR2 : s.vm.findClass "[[I" = some c2) (hP : va_P D classes ws H) (hD : va_D A ws) (hS : va_S A H0 H locs) (hA : ∀ q, H0.size ≤ q → A q)
    {n k q : Nat} {g : Nat → Option Nat} (hg : ∀ j, j < n → g j = some (q + 1 + j)) (hn : n < 100) (hk : k < 100) (hcells : cells + (1 + n) ≤ R.cells) (hslots : slots + (n + n * k) ≤ R.slots) (hq : H.size = q) (hdg : decode cc pc = .ok (.multianewarray index 2, 4))
    (kk : ∀ H1 : Heap, va_P D classes (ws ++ ((q, .inl (c2, n, .inr (.inr (.inr (.inr g))))) :: mrows cA q k n)) H1 → va_D A (ws ++ ((q, .inl (c2, n, .inr (.inr (.inr (.inr g))))) :: mrows cA q k n)) → va_S A H0 H1 locs → W p l e R s m args below meth c H1 locs (cells + 1 + n) (slots + n + n * k) Q (F0 m (pc + 4) ls (.ref q :: rest))) : W p l e R s m args below meth c H locs cells slots Q (F0 m pc ls (.int (nI k) :: .int (nI n) :: rest)) := by
  intro U hU X
  have cn : (nI n).toNatClampNeg = n := nI_clamp (by omega)
  have ck : (nI k).toNatClampNeg = k := nI_clamp (by omega)
  obtain ⟨vm₁, c2', cA', hW, hfA, hfC, -, -, X1, step⟩ := X.multianewarray2F (ty := .int) hexec hown hclink hover harr (g := F0 m pc ls (.int (nI k) :: .int (nI n) :: rest)) rfl (by rw [hb]; exact hdg) rfl (nI_n0 (by omega)) (nI_n0 (by omega)) (by rw [cn]; omega) (by rw [ck]; show k * 4 ≤ _; omega) (by rw [ck]; omega) rfl rfl (by rw [cn]; exact hcells) (by rw [cn, ck]; exact hslots)
  cases hfA.symm.trans hR2
  cases hfC.symm.trans hRA
  rw [cn, ck] at X1 step
  have hu : (U.setVm vm₁).heap.size = q := by rw [← hq, ← hU]; rfl
  have huh : (U.setVm vm₁).heap = H := hU
  obtain ⟨f1, f2⟩ := Jvm.Free.Multi.fill_facts (U.setVm vm₁) c2 cA n k (defaultValue .int) n
  have f2 := f2.1
  rw [hu] at f1 f2
  have o1 : ∀ z : Nat, z < H.size → (Jvm.Free.Multi.fill (U.setVm vm₁) c2 cA n k (defaultValue .int) n).heap[z]? = H[z]? := fun z hz => by
    rw [Jvm.Free.Multi.fill_old _ _ _ _ _ _ (by rw [huh]; exact hz), huh]
  have inn : ∀ j, j < n → (Jvm.Free.Multi.fill (U.setVm vm₁) c2 cA n k (defaultValue .int) n).heap[q + 1 + j]? = some (Jvm.Free.Multi.innerC cA k (defaultValue .int)) := fun j hj => by
    have h := Jvm.Free.Multi.fill_inner (U.setVm vm₁) c2 cA n k (defaultValue .int) n j hj
    rw [hu] at h
    exact h
  generalize hH1 : (Jvm.Free.Multi.fill (U.setVm vm₁) c2 cA n k (defaultValue .int) n) = V at X1 step f1 f2 o1 inn
  have hPo : va_P D classes ws V.heap := hP.kept (fun k x hx => o1 x.1 (hP k x hx).lt)
  have outer : Jvm.Free.Multi.outerC c2 n q n = vp_cell c2 (n, .inr (.inr (.inr (.inr g)))) := by
    rw [vp_cell_q]
    obtain ⟨u1, u2, u3⟩ := Jvm.Free.Multi.outerC_facts c2 n q n
    have hs : (Jvm.Free.Multi.outerC c2 n q n).slots = Array.ofFn (n := n) (fun j => va_rf (g j.val)) := by
      refine Array.ext_getElem? (fun j => ?_)
      by_cases hj : j < n
      · rw [Jvm.Free.Multi.outerC_slot c2 n q n j hj, Array.getElem?_ofFn]
        simp [hj, va_rf, hg j hj]
      · rw [Array.getElem?_eq_none (by omega), Array.getElem?_eq_none (by simp; omega)]
    have he : ∀ i, Jvm.Free.Multi.outerC c2 n q i = ({ cls := c2, slots := (Jvm.Free.Multi.outerC c2 n q i).slots, vm := .none } : Cell) := by
      intro i
      induction i with
      | zero => rfl
      | succ i ih =>
        rw [Jvm.Free.Multi.outerC, ih]
        rfl
    rw [he n, hs]
    rfl
  have mem : ∀ x ∈ ((q, .inl (c2, n, .inr (.inr (.inr (.inr g))))) :: mrows cA q k n : va_W), va_at D classes x V.heap ∧ q ≤ x.1 := by
    intro x hx
    rcases List.mem_cons.mp hx with rfl | hx
    · refine ⟨?_, Nat.le_refl _⟩
      show V.heap[q]? = some _
      rw [f2, outer]
    · unfold mrows at hx
      obtain ⟨j, hj, rfl⟩ := List.mem_map.mp hx
      rw [List.mem_range] at hj
      refine ⟨?_, by show q ≤ q + 1 + j; omega⟩
      show V.heap[q + 1 + j]? = some _
      rw [inn j hj, vp_cell_i]
      exact congrArg some (arrV_new cA k (defaultValue .int))
  have hnd : ∀ (i j : Nat) (x z : Nat × va_E), ((q, .inl (c2, n, .inr (.inr (.inr (.inr g))))) :: mrows cA q k n : va_W)[i]? = some x → ((q, .inl (c2, n, .inr (.inr (.inr (.inr g))))) :: mrows cA q k n : va_W)[j]? = some z → x.1 = z.1 → i = j := by
    have ad : ∀ (i : Nat) (x : Nat × va_E), ((q, .inl (c2, n, .inr (.inr (.inr (.inr g))))) :: mrows cA q k n : va_W)[i]? = some x → x.1 = q + i := by
      intro i x hx
      cases i with
      | zero => cases hx; rfl
      | succ i =>
        rw [List.getElem?_cons_succ] at hx
        unfold mrows at hx
        rw [List.getElem?_map] at hx
        cases hr : (List.range n)[i]? with
        | none => rw [hr] at hx; cases hx
        | some j =>
          rw [hr] at hx
          have hj : j = i := by
            have := List.getElem?_eq_some_iff.mp hr
            obtain ⟨w1, w2⟩ := this
            rw [List.getElem_range] at w2
            exact w2.symm
          cases hx
          show q + 1 + j = _
          omega
    intro i j x z hi hj hxz
    have a1 := ad i x hi
    have a2 := ad j z hj
    omega
  have hDn : va_D A (ws ++ ((q, .inl (c2, n, .inr (.inr (.inr (.inr g))))) :: mrows cA q k n)) := by
    refine ⟨fun i j x z hi hj hxz => ?_, fun i x hi => ?_⟩
    · by_cases hli : i < ws.length
      · rw [List.getElem?_append_left hli] at hi
        by_cases hlj : j < ws.length
        · rw [List.getElem?_append_left hlj] at hj
          exact hD.1 i j x z hi hj hxz
        · rw [List.getElem?_append_right (by omega)] at hj
          have b1 := (hP i x hi).lt
          have b2 := (mem z (List.mem_of_getElem? hj)).2
          omega
      · rw [List.getElem?_append_right (by omega)] at hi
        by_cases hlj : j < ws.length
        · rw [List.getElem?_append_left hlj] at hj
          have b1 := (hP j z hj).lt
          have b2 := (mem x (List.mem_of_getElem? hi)).2
          omega
        · rw [List.getElem?_append_right (by omega)] at hj
          have := hnd _ _ x z hi hj hxz
          omega
    · by_cases hli : i < ws.length
      · rw [List.getElem?_append_left hli] at hi
        exact hD.2 i x hi
      · rw [List.getElem?_append_right (by omega)] at hi
        have b2 := (mem x (List.mem_of_getElem? hi)).2
        exact hA _ (by have := hS.1; omega)
  obtain ⟨t, a1, b1⟩ := kk V.heap (hPo.app (fun k x hx => (mem x (List.mem_of_getElem? hx)).1)) hDn ⟨Nat.le_trans hS.1 (by omega), fun x h1 h2 => (o1 x (Nat.lt_of_lt_of_le h1 hS.1)).trans (hS.2.1 x h1 h2), hS.2.2⟩ V rfl X1
  refine ⟨t, step t ?_, b1⟩
  rw [show U.heap.size = q by rw [hU]; exact hq]
  exact a1
/-- behind a maker's call -/
theorem zm_go {rv : Option Value} {B : State → Prop} {A0 A1 : Nat → Prop} {free : Addr → Prop} (hr : va_Run p l e R s m args below meth c H locs cells slots mc ms (F0 m pc ls st0) rest (zQ rv B A1 a) free) (hS : va_S A0 H0 H locs) (hA : ∀ q, q < H.size → A1 q → A0 q) (hf : ∀ q, free q → A0 q)
    (kk : ∀ (t : State) (H1 : Heap) (locs1 : List Loc), t.heap = H1 → B t → H.size ≤ H1.size → (∀ q : Nat, q < H.size → ¬ A1 q → H1[q]? = H[q]?) → va_S A0 H0 H1 locs1 → W p l e R s m args below meth c H1 locs1 (cells + mc) (slots + ms) Q (F0 m (pc + 3) ls (rv.toList ++ rest))) : W p l e R s m args below meth c H locs cells slots Q (F0 m pc ls st0) := zw_go hr hS hA hf (fun t H1 locs1 h1 _ hB hz hk hS1 => kk t H1 locs1 h1 hB hz hk hS1)
/-- a constructor's call; pm: the order that we want the cells in behind it -/
theorem zm_I (hok : zFok F) (S : CallFix p m c cc nL s args lw_g own) (hM : Met l y (wsA y by0 n0 none) rm (zPF F D tysC wsC (.ref b :: As) H.size) (zQ none (zB D tysC (va_A wsC H.size) wsC') (va_A wsC H.size)) mc ms (va_A wsC H.size)) (hk : zk_I own index y by0 n0) (hy1 : y.name = "<init>") (hd : zk_d y n) (hR : zk_R rm R mc ms n0) (hcs : cells + mc ≤ R.cells ∧ slots + ms ≤ R.slots)
    (hK : va_K D classes tys s) (hP : va_P D classes ws H) (hD : va_D A ws) (hS : va_S A H0 H locs) (hA : ∀ q, H0.size ≤ q → A q) (hFa : F A s H0) (isC isR pm isT : List Nat) (hw : isC.filterMap (fun i => ws[i]?) = wsC) (hC : isC.map (fun i => ws[i]?) = wsC.map some) (hnC : va_nd isC = true) (hr : isR.map (fun i => ws[i]?) = wr.map some) (hnR : va_nd isR = true) (hdis : ∀ i ∈ isR, i ∉ isC)
    (hpm : pm.filterMap (fun i => (wr ++ wsC')[i]?) = ws') (hpm2 : pm.map (fun i => (wr ++ wsC')[i]?) = ws'.map some) (hnP : va_nd pm = true) (ht : isT.filterMap (fun i => tys[i]?) = tysC) (hn : As.length = n) (hsize : ls.size = nL) (hst : st0 = As.reverse ++ .ref b :: rest) (hwt : (rest.map fun v => v.category).sum ≤ 8) (hdg : decode cc pc = .ok (.invokespecial index, 3))
    (kk : ∀ (H1 : Heap) (locs1 : List Loc), va_P D classes ws' H1 → va_D A ws' → va_S A H0 H1 locs1 → W p l e R s m args below meth c H1 locs1 (cells + mc) (slots + ms) Q (F0 m (pc + 3) ls rest)) : W p l e R s m args below meth c H locs cells slots Q (F0 m pc ls st0) := by
  have hPc := hP.sub isC hw
  have hKc := hK.sub isT ht
  have hDc := hD.sub isC hnC hC
  have hts := S.2.2.2.2
  have hFc := va_free hD hS hA isC hC
  refine zm_go (va_runI (As := As) (rest := rest) (b := b) (n := n) S hM ⟨callB_of n hts (gd_A hk.2.2.2) rfl hR.1 hR.2.1 (hts _ hk.2.2.1) (hts _ hk.1) hd hR.2.2, hy1, hts _ hk.2.1⟩ ⟨zfb_PF hok, fun U hU hW => ⟨rfl, by rw [hU], by rw [hU]; exact hPc, va_K.moved hW.alike hKc, hDc.weaken (fun _ _ _ _ => trivial), by rw [hU]; exact hok.mv hW (hok.nw (hok.kp hFa hS.2.1) hFc)⟩⟩ rfl hn hsize hst (lv_room hwt) hdg hcs) hS (fun q _ h => hFc q h) hFc (fun t H1 locs1 h1 hB hz1 hk1 hS1 => ?_)
  obtain ⟨hP1, hK1, hD1⟩ := hB
  rw [h1] at hP1
  obtain ⟨hP2, hD2⟩ := va_join hP hD isC isR hC hr hnR hdis hk1 hFc hP1 hD1
  exact kk H1 locs1 (hP2.sub pm hpm) (hD2.sub pm hnP hpm2) hS1
theorem zm_S {rv : Option Value} (hok : zFok F) (S : CallFix p m c cc nL s args lw_g own) (hM : Met l y (wsA y by0 n0 rt) rm (zPF F D tysC wsC As H.size) (zQ rv (zB D tysC (va_A wsC H.size) wsC') (va_A wsC H.size)) mc ms (va_A wsC H.size)) (hk : zk_S own index y by0 n0 rt) (hd : zk_d y n) (hR : zk_R rm R mc ms n0) (hcs : cells + mc ≤ R.cells ∧ slots + ms ≤ R.slots)
    (hK : va_K D classes tys s) (hP : va_P D classes ws H) (hD : va_D A ws) (hS : va_S A H0 H locs) (hA : ∀ q, H0.size ≤ q → A q) (hFa : F A s H0) (isC isR pm isT : List Nat) (hw : isC.filterMap (fun i => ws[i]?) = wsC) (hC : isC.map (fun i => ws[i]?) = wsC.map some) (hnC : va_nd isC = true) (hr : isR.map (fun i => ws[i]?) = wr.map some) (hnR : va_nd isR = true) (hdis : ∀ i ∈ isR, i ∉ isC)
    (hpm : pm.filterMap (fun i => (wr ++ wsC')[i]?) = ws') (hpm2 : pm.map (fun i => (wr ++ wsC')[i]?) = ws'.map some) (hnP : va_nd pm = true) (ht : isT.filterMap (fun i => tys[i]?) = tysC) (hn : As.length = n) (hsize : ls.size = nL) (hst : st0 = As.reverse ++ rest) (hwt : (rest.map fun v => v.category).sum ≤ 8) (hdg : decode cc pc = .ok (.invokestatic index, 3))
    (kk : ∀ (H1 : Heap) (locs1 : List Loc), va_P D classes ws' H1 → va_D A ws' → va_S A H0 H1 locs1 → W p l e R s m args below meth c H1 locs1 (cells + mc) (slots + ms) Q (F0 m (pc + 3) ls (rv.toList ++ rest))) : W p l e R s m args below meth c H locs cells slots Q (F0 m pc ls st0) := by
  have hPc := hP.sub isC hw
  have hKc := hK.sub isT ht
  have hDc := hD.sub isC hnC hC
  have hts := S.2.2.2.2
  have hFc := va_free hD hS hA isC hC
  refine zm_go (va_runS (As := As) (rest := rest) (n := n) S hM ⟨callB_of n hts (gd_A hk.2.2.2) rfl hR.1 hR.2.1 (hts _ hk.2.2.1) (hts _ hk.1) hd hR.2.2, hts _ hk.2.1⟩ ⟨zfb_PF hok, fun U hU hW => ⟨rfl, by rw [hU], by rw [hU]; exact hPc, va_K.moved hW.alike hKc, hDc.weaken (fun _ _ _ _ => trivial), by rw [hU]; exact hok.mv hW (hok.nw (hok.kp hFa hS.2.1) hFc)⟩⟩ rfl hn hsize hst (lv_room hwt) hdg hcs) hS (fun q _ h => hFc q h) hFc (fun t H1 locs1 h1 hB hz1 hk1 hS1 => ?_)
  obtain ⟨hP1, hK1, hD1⟩ := hB
  rw [h1] at hP1
  obtain ⟨hP2, hD2⟩ := va_join hP hD isC isR hC hr hnR hdis hk1 hFc hP1 hD1
  exact kk H1 locs1 (hP2.sub pm hpm) (hD2.sub pm hnP hpm2) hS1
theorem zm_V {rv : Option Value} (hok : zFok F) (S : CallFix p m c cc nL s args lw_g own) (hM : Met l y (wsA y by0 n0 rt) rm (zPF F D tysC wsC (.ref b :: As) H.size) (zQ rv (zB D tysC (va_A wsC H.size) wsC') (va_A wsC H.size)) mc ms (va_A wsC H.size)) (hk : zk_V own C index y by0 n0 rt) (hd : zk_d y n) (hR : zk_R rm R mc ms n0) (hcs : cells + mc ≤ R.cells ∧ slots + ms ≤ R.slots)
    (hK : va_K D classes tys s) (hP : va_P D classes ws H) (hD : va_D A ws) (hS : va_S A H0 H locs) (hA : ∀ q, H0.size ≤ q → A q) (hFa : F A s H0) (isC isR pm isT : List Nat) (hw : isC.filterMap (fun i => ws[i]?) = wsC) (hC : isC.map (fun i => ws[i]?) = wsC.map some) (hnC : va_nd isC = true) (hr : isR.map (fun i => ws[i]?) = wr.map some) (hnR : va_nd isR = true) (hdis : ∀ i ∈ isR, i ∉ isC)
    (hpm : pm.filterMap (fun i => (wr ++ wsC')[i]?) = ws') (hpm2 : pm.map (fun i => (wr ++ wsC')[i]?) = ws'.map some) (hnP : va_nd pm = true) (ht : isT.filterMap (fun i => tys[i]?) = tysC) (he : wsC[q0]? = some (b, .inr (ci, fs))) (hc : classes[ci]? = some (C, T, N)) (hn : As.length = n) (hsize : ls.size = nL) (hst : st0 = As.reverse ++ .ref b :: rest) (hwt : (rest.map fun v => v.category).sum ≤ 8) (hdg : decode cc pc = .ok (.invokevirtual index, 3))
    (kk : ∀ (H1 : Heap) (locs1 : List Loc), va_P D classes ws' H1 → va_D A ws' → va_S A H0 H1 locs1 → W p l e R s m args below meth c H1 locs1 (cells + mc) (slots + ms) Q (F0 m (pc + 3) ls (rv.toList ++ rest))) : W p l e R s m args below meth c H locs cells slots Q (F0 m pc ls st0) := by
  have hPc := hP.sub isC hw
  have hKc := hK.sub isT ht
  have hDc := hD.sub isC hnC hC
  have hts := S.2.2.2.2
  have hFc := va_free hD hS hA isC hC
  refine zm_go (va_runV (As := As) (rest := rest) (b := b) (C := C) (n := n) S hM ⟨callB_of n hts (gd_A hk.2.2.2.2) rfl hR.1 hR.2.1 (hts _ hk.2.2.2.1) (hts _ hk.1) hd hR.2.2, hts _ hk.2.1, hts _ hk.2.2.1⟩ ⟨zfb_PF hok, va_recv hKc hPc hc he, fun U hU hW => ⟨rfl, by rw [hU], by rw [hU]; exact hPc, va_K.moved hW.alike hKc, hDc.weaken (fun _ _ _ _ => trivial), by rw [hU]; exact hok.mv hW (hok.nw (hok.kp hFa hS.2.1) hFc)⟩⟩ rfl hn hsize hst (lv_room hwt) hdg hcs) hS (fun q _ h => hFc q h) hFc (fun t H1 locs1 h1 hB hz1 hk1 hS1 => ?_)
  obtain ⟨hP1, hK1, hD1⟩ := hB
  rw [h1] at hP1
  obtain ⟨hP2, hD2⟩ := va_join hP hD isC isR hC hr hnR hdis hk1 hFc hP1 hD1
  exact kk H1 locs1 (hP2.sub pm hpm) (hD2.sub pm hnP hpm2) hS1
end ZMK
def zF0 (_ : Nat → Prop) (_ : State) (_ : Heap) : Prop := True
theorem zF0_ok : zFok zF0 := ⟨fun _ _ _ _ _ _ => trivial, fun _ _ _ _ _ _ => trivial, fun _ _ _ _ _ _ => trivial, fun _ _ _ _ _ _ => trivial⟩
/-- what the constructors want of the tables beside the good words -/
def zT3 (_ : Nat → Prop) (U : State) (_ : Heap) : Prop := va_AO R_TH U ∧ (Cond.arrayOver (.array .int)).before #[] U = true
theorem ao2_moved {u U : State} (hvm : u.vm.Alike U.vm) (h : (Cond.arrayOver (.array .int)).before #[] u = true) : (Cond.arrayOver (.array .int)).before #[] U = true := by
  unfold Cond.before Cond.holds at h ⊢
  simp only [Cond.value, beq_iff_eq] at h
  cases hc : u.vm.findClass (FieldType.array .int).toString with
  | none => simp [hc] at h
  | some comp =>
    simp only [hc, Option.bind_some, Option.bind_eq_some_iff, Option.map_eq_some_iff] at h
    obtain ⟨c, hi, k, hk, hb⟩ := h
    have hi' : (U.vm.classes.findIdx? fun (x : Class) => match x.kind with | .array component _ => component == comp | _ => false) = some c := by
      have e1 := va_idx_bare U.vm comp
      have e2 := va_idx_bare u.vm comp
      rw [hvm.bare_eq] at e1
      exact (e1.symm.trans e2).trans hi
    obtain ⟨k', hk', he⟩ := hvm.2.2 _ _ hk
    have f1 : U.vm.findClass (FieldType.array .int).toString = some comp := by rw [hvm.findClass]; exact hc
    have hb' : (match k'.kind with | .array _ ty => decide (ty = FieldType.array .int) && decide (U.vm.findClass ("[" ++ (FieldType.array .int).toString) = some c) | _ => false) = true := by
      rw [show k'.kind = k.kind by rw [he], hvm.findClass]
      exact hb
    simp only [Cond.value]
    rw [f1, Option.bind_some]
    refine (congrArg (fun o : Option Nat => (o.bind (fun c => (U.vm.classes[c]?).map fun (k : Class) => match k.kind with | .array _ ty => decide (ty = FieldType.array .int) && decide (U.vm.findClass ("[" ++ (FieldType.array .int).toString) = some c) | _ => false) == some true)) hi').trans ?_
    show ((some c).bind _ == some true) = true
    rw [Option.bind_some, hk', Option.map_some, hb']
    rfl
theorem zT3_ok : zFok zT3 := ⟨fun _ _ _ _ h z => ⟨z.1.moved h.alike, ao2_moved h.alike z.2⟩, fun _ _ _ _ h z => ⟨z.1.moved (al_of h), ao2_moved (al_of h) z.2⟩, fun _ _ _ _ z _ => z, fun _ _ _ _ z _ => z⟩
theorem lN_00 : lN 0 = (0 : Int64) := by decide
theorem zb_f0 : zb false = (0 : Int32) := by decide
theorem vp_zn (N : Nat) : ∀ cA : ClassId, vp_cell cA (N, .inl (fun zk => nI ((fun _ => 0) zk))) = arrV cA N (fun _ => defaultValue .int) := fun cA => congrArg (arrV cA N) (funext fun _ => congrArg Value.int nI_0)
theorem vp_zi (N : Nat) : ∀ cA : ClassId, vp_cell cA (N, .inl (fun _ => 0)) = arrV cA N (fun _ => defaultValue .int) := fun cA => congrArg (arrV cA N) (funext fun _ => (show Value.int (0 : Int32) = defaultValue .int from rfl))
theorem vp_zb (N : Nat) : ∀ cA : ClassId, vp_cell cA (N, .inl (fun zk => zb ((fun _ => false) zk))) = arrV cA N (fun _ => defaultValue .boolean) := fun cA => congrArg (arrV cA N) (funext fun _ => congrArg Value.int zb_f0)
theorem vp_zL (N : Nat) : ∀ cA : ClassId, vp_cell cA (N, .inr (.inl (fun zk => lN ((fun _ => 0) zk)))) = arrV cA N (fun _ => defaultValue .long) := fun cA => congrArg (arrV cA N) (funext fun _ => congrArg Value.long lN_00)
theorem vp_zj (N : Nat) : ∀ cA : ClassId, vp_cell cA (N, .inr (.inl (fun _ => 0))) = arrV cA N (fun _ => defaultValue .long) := fun cA => congrArg (arrV cA N) (funext fun _ => (show Value.long (0 : Int64) = defaultValue .long from rfl))
