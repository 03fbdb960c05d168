/-! the law's helpers: methods with a table of handlers -/
abbrev wsH (y : MethodName) (b : ByteArray) (n : Nat) (r : Option FieldType) (hh : List (Nat × Nat × Nat × Nat)) : List Cond := Cond.codeWith y b n r hh :: lw_g
theorem zc_MetW {l : Launch} {y : MethodName} {ws ws' : List Cond} {rm : Room} {Pc : Array Value → State → Prop} {Qc : Array Value → State → Outcome → State → Prop} {mc ms : Nat} {free : Addr → Prop} {cc : ByteArray} {maxL : Nat} {ret : Option FieldType} {hh : List (Nat × Nat × Nat × Nat)}
    (hy : plainName y.cls = true) (hw : ws = Cond.codeWith y cc maxL ret hh :: ws')
    (body : ∀ p e s m args below meth c s₁, BodyLoose p l y (headSpec ws rm) cc maxL ret e s m args below meth c s₁ → c.maxLocals = maxL → c.exceptionTable.toList.map (fun h => (h.startPc, h.endPc, h.handlerPc, h.catchType)) = hh → Pc args s →
      W p l e (headSpec ws rm).room s m args below meth c s.heap [] 0 0 (MQ below Qc args s mc ms free) (entryFrame m args maxL)) : Met l y ws rm Pc Qc mc ms free := by
  refine MetFree.of_bodyS (code := cc) (maxLocals := maxL) (ret := ret) hy ?_ ?_
  · intro args s m h hn
    obtain ⟨m9, meth, c, hn9, h1, h2, h3, h4, -, h5, h6, -⟩ := Cond.codeWith_spec (atoms_spec (ws := ws) h _ (by rw [hw]; exact List.mem_cons_self))
    cases hn.symm.trans hn9
    exact ⟨meth, c, h1, h2, h3, h4, h5, h6⟩
  · intro p e s m args below meth c s₁ B hml hP _
    have hh0 : s₁.heap = s.heap := by rw [B.state]; rfl
    have X := Stand.of_body B
    have htab : c.exceptionTable.toList.map (fun h => (h.startPc, h.endPc, h.handlerPc, h.catchType)) = hh := by
      obtain ⟨m9, meth9, c9, hn9, h1, h2, -, -, h4, -, -, -⟩ := Cond.codeWith_spec (atoms_spec (ws := ws) B.pre _ (by rw [hw]; exact List.mem_cons_self))
      cases hn9.symm.trans B.named
      cases h1.symm.trans X.method
      cases h2.symm.trans X.code
      exact h4
    obtain ⟨t, a1, o, b1, b2, b3⟩ := body p e s m args below meth c s₁ B hml htab hP s₁ hh0 X
    exact ⟨t, o, a1, b1, b2, ⟨b3.1, b3.2⟩⟩
def zcHitT (pc : Nat) (s : State) (args : Array Value) (own : String) (cl : ClassId) (hp : Nat) : List (Nat × Nat × Nat × Nat) → Prop
  | [] => False
  | x :: t => (decide (x.1 ≤ pc) && decide (pc < x.2.1)) = true ∧ x.2.2.2 ≠ 0 ∧ ∃ (name : String) (cT : ClassId), (Cond.classLink own x.2.2.2 name).before args s = true ∧ s.vm.findClass name = some cT ∧ ((s.vm.assignable cl cT = true ∧ x.2.2.1 = hp) ∨ (s.vm.assignable cl cT = false ∧ zcHitT pc s args own cl hp t))
theorem zc_tab {pc : Nat} {s : State} {args : Array Value} {own : String} {cl : ClassId} {hp : Nat} : ∀ (es : List ExceptionTableEntry) (hh : List (Nat × Nat × Nat × Nat)), es.map (fun h => (h.startPc, h.endPc, h.handlerPc, h.catchType)) = hh → zcHitT pc s args own cl hp hh → zcHit pc s args own cl hp es
  | [], hh, h, hz => by
    subst h
    exact hz
  | x :: t, hh, h, hz => by
    subst h
    obtain ⟨a, b, name, cT, hl, hf, hor⟩ := hz
    refine ⟨a, b, name, cT, hl, hf, ?_⟩
    rcases hor with q | ⟨q1, q2⟩
    · exact Or.inl q
    · exact Or.inr ⟨q1, zc_tab t _ rfl q2⟩
theorem zT2_hit {A : Nat → Prop} {U : State} {H : Heap} {X : String} {cl : ClassId} (h : zT2 A U H) (hX : X ∈ exs) (hc : U.vm.findClass X = some cl) : U.vm.assignable cl cl = true := by
  obtain ⟨c, t, a, b, q⟩ := Cond.castable_spec (h.2.2.1 X hX)
  cases a.symm.trans hc
  cases b.symm.trans hc
  exact q
theorem zT2_ncl {A : Nat → Prop} {U : State} {H : Heap} {X : String} (Y : String) {cl : ClassId} (h : zT2 A U H) (hX : X ∈ exs) (hY : Y ∈ exs) (hne : X ≠ Y) (hc : U.vm.findClass X = some cl) : ∃ d, U.vm.findClass Y = some d ∧ U.vm.assignable cl d = false := by
  obtain ⟨c, d, a, b, q⟩ := h.2.2.2.2.2 X hX Y hY hne
  cases a.symm.trans hc
  exact ⟨d, b, q⟩
theorem va_P.old {D : va_G} {cl : List vw_C} {ws : va_W} {H H1 : Heap} (hP : va_P D cl ws H) (h : ∀ q : Nat, q < H.size → H1[q]? = H[q]?) : va_P D cl ws H1 := hP.kept (fun k q hk => h _ (hP k q hk).lt)
section ZCF
variable {p : Program} {l : Launch} {e : Env} {R : Room} {s : State} {m : MethodId} {args : Array Value} {below : List Frame} {meth : Method} {c : Code} {H : Heap} {locs : List Loc} {cells slots : Nat} {Q : State → Prop}
variable {cc by0 : ByteArray} {pc nL n0 n index hp : Nat} {ls : Array Slot} {rest st0 As : List Value} {D : va_G} {tys : List (ClassId × FieldType)} {wsC : va_W} {b ci q0 N : Nat} {own C cls : String} {T : u_T} {fs : List Value} {y : MethodName} {rt : Option FieldType} {rm : Room} {F : (Nat → Prop) → State → Heap → Prop}
theorem zcF_V (hok : zFok F) (S : CallFix p m c cc nL s args lw_g own) (hM : zt_Met l y (wsA y by0 n0 rt) rm (zRF F D tys wsC (.ref b :: As)) (zt_Q cls) 1 6 (fun _ => False)) (hk : zk_V own C index y by0 n0 rt) (hd : zk_d y n) (hR : zk_R rm R 1 6 n0) (hcs : cells + 1 ≤ R.cells ∧ slots + 6 ≤ R.slots)
    (hKc : va_K D classes tys s) (hPc : va_P D classes wsC H) (hFn : F (fun _ => False) s H) (he : wsC[q0]? = some (b, .inr (ci, fs))) (hc : classes[ci]? = some (C, T, N)) (hn : As.length = n) (hsize : ls.size = nL) (hst : st0 = As.reverse ++ .ref b :: rest) (hwt : (rest.map fun v => v.category).sum ≤ 8) (hdg : decode cc pc = .ok (.invokevirtual index, 3))
    (hhit : ∀ cl : ClassId, s.vm.findClass cls = some cl → zcHit pc s args own cl hp c.exceptionTable.toList)
    (kk : ∀ (H1 : Heap) (x : Nat), H.size ≤ H1.size → (∀ q : Nat, q < H.size → H1[q]? = H[q]?) → H.size ≤ x → W p l e R s m args below meth c H1 locs (cells + 1) (slots + 6) Q (F0 m hp ls [.ref x])) : W p l e R s m args below meth c H locs cells slots Q (F0 m pc ls st0) := by
  have hts := S.2.2.2.2
  exact zc_call S hM ⟨callB_of n hts (gd_A hk.2.2.2.2) rfl hR.1 hR.2.1 (hts _ hk.2.2.2.1) (hts _ hk.1) hd hR.2.2, hts _ hk.2.1, hts _ hk.2.2.1⟩ ⟨zfb_RF hok, va_recv hKc hPc hc he, fun U hU hW => ⟨rfl, by rw [hU]; exact hPc, va_K.moved hW.alike hKc, by rw [hU]; exact hok.mv hW hFn⟩⟩ hn hsize hst hwt hdg hcs hhit kk
end ZCF
section ZLS
variable {p : Program} {l : Launch} {e : Env} {R : Room} {s : State} {m : MethodId} {args : Array Value} {below : List Frame} {meth : Method} {c : Code} {H : Heap} {locs : List Loc} {cells slots : Nat} {Q : State → Prop}
variable {cc : ByteArray} {pc : Nat} {ls : Array Slot} {rest : List Value} {D : va_G} {cl : List vw_C} {tys : List (ClassId × FieldType)} {ws : va_W} {a : Nat} {A : Nat → Prop} {H0 : Heap} {cA : ClassId} {n j : Nat}
theorem zl_st (hexec : p.tables.exec = Jvm.exec) (hb : c.code = cc) (hK : va_K D cl tys s) (hP : va_P D cl ws H) (hD : va_D A ws) (hS : va_S A H0 H locs) (q0 t0 : Nat) {f : Nat → Int64} {v : Int64} (ha : ws[q0]? = some (a, .inl (cA, n, .inr (.inl f)))) (ht : tys[t0]? = some (cA, .long)) (hj : j < n) (hn : n < 2 ^ 31) (hdg : decode cc pc = .ok (.lastore, 1))
    (kk : ∀ (H1 : Heap) (locs1 : List Loc), va_P D cl (ws.set q0 (a, .inl (cA, n, .inr (.inl (vp_updL f j v))))) H1 → va_D A (ws.set q0 (a, .inl (cA, n, .inr (.inl (vp_updL f j v))))) → va_S A H0 H1 locs1 → W p l e R s m args below meth c H1 locs1 cells slots Q (F0 m (pc + 1) ls rest)) : W p l e R s m args below meth c H locs cells slots Q (F0 m pc ls (.long v :: .int (nI j) :: .ref a :: rest)) := by
  refine va_last hexec hb hK hP hD hS q0 t0 ha ht (vp_in_nI hj hn) hdg (fun H1 locs1 h1 h2 h3 => ?_)
  rw [nI_clamp (by omega)] at h1 h2
  exact kk H1 locs1 h1 h2 h3
end ZLS
