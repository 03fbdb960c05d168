/-! the law's own world: components at known addresses; what a call leaves alone -/
theorem nd_lits {ws : va_W} {b : Nat} {lits : List Nat} (h : ws.map Prod.fst = lits.map (b + ·)) (hn : lits.Nodup) : va_D (fun _ => True) ws := by
  refine ⟨fun i j p q hi hj e => ?_, fun _ _ _ => trivial⟩
  have key : ∀ (i : Nat) (p : Nat × va_E), ws[i]? = some p → ∃ x, lits[i]? = some x ∧ b + x = p.1 := fun i p hi => by
    have h1 : (ws.map Prod.fst)[i]? = some p.1 := by rw [List.getElem?_map, hi]; rfl
    rw [h, List.getElem?_map] at h1
    cases hx : lits[i]? with
    | none => rw [hx] at h1; cases h1
    | some x => rw [hx] at h1; exact ⟨x, rfl, Option.some.inj h1⟩
  obtain ⟨x, hx, ex⟩ := key i p hi
  obtain ⟨y, hy, ey⟩ := key j q hj
  have hxy : x = y := by omega
  subst hxy
  exact (List.getElem?_inj (List.getElem?_eq_some_iff.mp hx).1 hn).mp (hx.trans hy.symm)
theorem in_lits {ws : va_W} {b lo hi : Nat} {lits : List Nat} (h : ws.map Prod.fst = lits.map (b + ·)) (hb : lits.all (fun x => decide (lo ≤ x) && decide (x < hi)) = true) : ∀ q ∈ ws, b + lo ≤ q.1 ∧ q.1 < b + hi := fun q hq => by
  have h1 : q.1 ∈ ws.map Prod.fst := List.mem_map_of_mem hq
  rw [h] at h1
  obtain ⟨x, hx, e⟩ := List.mem_map.mp h1
  have := List.all_eq_true.mp hb x hx
  simp at this
  omega
theorem nd_app {w1 w2 : va_W} (h1 : va_D (fun _ => True) w1) (h2 : va_D (fun _ => True) w2) (h : ∀ p ∈ w1, ∀ q ∈ w2, p.1 ≠ q.1) : va_D (fun _ => True) (w1 ++ w2) := by
  refine ⟨fun i j p q hi hj e => ?_, fun _ _ _ => trivial⟩
  by_cases li : i < w1.length
  · rw [List.getElem?_append_left li] at hi
    by_cases lj : j < w1.length
    · rw [List.getElem?_append_left lj] at hj
      exact h1.1 i j p q hi hj e
    · rw [List.getElem?_append_right (by omega)] at hj
      exact absurd e (h p (List.mem_of_getElem? hi) q (List.mem_of_getElem? hj))
  · rw [List.getElem?_append_right (by omega)] at hi
    by_cases lj : j < w1.length
    · rw [List.getElem?_append_left lj] at hj
      exact absurd e.symm (h q (List.mem_of_getElem? hj) p (List.mem_of_getElem? hi))
    · rw [List.getElem?_append_right (by omega)] at hj
      have := h2.1 _ _ p q hi hj e
      omega
/-- what a call may change: the callee's cells, and what is new -/
def zfr (wsC : va_W) (H H1 : Heap) : Prop := ∀ q : Nat, q < H.size → ¬ va_A wsC H.size q → H1[q]? = H[q]?
theorem zfr.keep {D : va_G} {cl : List vw_C} {ws wsC : va_W} {H H1 : Heap} (hf : zfr wsC H H1) (hP : va_P D cl ws H) (h : ∀ p ∈ wsC, ∀ q ∈ ws, p.1 ≠ q.1) : va_P D cl ws H1 := hP.kept (fun k q hk => hf q.1 (hP k q hk).lt (fun z => by
  rcases z with ⟨i, e, hi⟩ | z
  · exact h (q.1, e) (List.mem_of_getElem? hi) q (List.mem_of_getElem? hk) rfl
  · have := (hP k q hk).lt
    omega))
theorem va_P.left {D : va_G} {cl : List vw_C} {w1 w2 : va_W} {H : Heap} (h : va_P D cl (w1 ++ w2) H) : va_P D cl w1 H := h.mem (fun q hq => List.mem_append_left _ hq)
theorem va_P.right {D : va_G} {cl : List vw_C} {w1 w2 : va_W} {H : Heap} (h : va_P D cl (w1 ++ w2) H) : va_P D cl w2 H := h.mem (fun q hq => List.mem_append_right _ hq)
section ZG
variable {p : Program} {l : Launch} {e : Env} {R : Room} {s : State} {m : MethodId} {args : Array Value} {below : List Frame} {meth : Method} {c : Code} {H : Heap} {locs : List Loc} {cells slots : Nat} {Q : State → Prop}
variable {cc by0 : ByteArray} {pc nL n0 n index mc ms : Nat} {ls : Array Slot} {rest st0 As : List Value} {D : va_G} {tys tysC : List (ClassId × FieldType)} {wsC wsC' : va_W} {b ci q0 N : Nat} {own C : String} {T : u_T} {fs : List Value} {y : MethodName} {rt : Option FieldType} {rm : Room} {A : Nat → Prop} {H0 : Heap} {a : Array Value} {F : (Nat → Prop) → State → Heap → Prop} {hh : List (Nat × Nat × Nat × Nat)}
/-- the words that a call of a method with handlers wants -/
abbrev zk_H (own : String) (index : Nat) (y : MethodName) (by0 : ByteArray) (n0 : Nat) (rt : Option FieldType) (hh : List (Nat × Nat × Nat × Nat)) : Prop := Cond.methodLink own index y ∈ lw_g ∧ Cond.static y ∈ lw_g ∧ Cond.initialized y.cls ∈ lw_g ∧ Cond.codeWith y by0 n0 rt hh ∈ lw_g
/-- a call of one of the law's helpers; its end told by a value v with φ v -/
theorem zg_H {V : Type} {φ : V → Prop} {wv : V → va_W} {rv : Value} (hok : zFok F) (S : CallFix p m c cc nL s args lw_g own) (hM : Met l y (wsH y by0 n0 rt hh) rm (zPF F D tysC wsC As H.size) (zQ (some rv) (fun t => ∃ v : V, φ v ∧ zB D tysC (va_A wsC H.size) (wv v) t) (va_A wsC H.size)) mc ms (va_A wsC H.size)) (hk : zk_H own index y by0 n0 rt hh) (hd : zk_d y n) (hR : zk_R rm R mc ms n0) (hcs : cells + mc ≤ R.cells ∧ slots + ms ≤ R.slots)
    (hKc : va_K D classes tysC s) (hPc : va_P D classes wsC H) (hDc : va_D (fun _ => True) wsC) (hS : va_S A H0 H locs) (hFc : ∀ q, va_A wsC H.size q → A q) (hFa : F A s H0) (hn : As.length = n) (hsize : ls.size = nL) (hst : st0 = As.reverse ++ rest) (hwt : (rest.map fun v => v.category).sum ≤ 8) (hdg : decode cc pc = .ok (.invokestatic index, 3))
    (kk : ∀ (v : V) (H1 : Heap) (locs1 : List Loc), φ v → va_P D classes (wv v) H1 → H.size ≤ H1.size → zfr wsC H H1 → va_S A H0 H1 locs1 → W p l e R s m args below meth c H1 locs1 (cells + mc) (slots + ms) Q (F0 m (pc + 3) ls (rv :: rest))) : W p l e R s m args below meth c H locs cells slots Q (F0 m pc ls st0) := by
  have hts := S.2.2.2.2
  obtain ⟨hx, hb, hml, ho, -⟩ := S
  have hgood : GoodIn lw_g (wsH y by0 n0 rt hh) := gd_in (fun w hw => by
    rcases List.mem_cons.mp hw with rfl | h1
    · exact hk.2.2.2
    · exact h1)
  have hBk : Back l R p e below s args y 3 8 (PreOf R mc ms (zPF F D tysC wsC As H.size)) (PostOf (zQ (some rv) (fun t => ∃ v : V, φ v ∧ zB D tysC (va_A wsC H.size) (wv v) t) (va_A wsC H.size)) mc ms (va_A wsC H.size)) :=
    va_backW (hh := hh) (bytes := by0) (maxL := n0) (ret := rt) hM (zfb_PF hok) hR.1 hR.2.1 hR.2.2.1 hR.2.2.2 (fun w hw a' U hW => word_at hW (hgood w hw).2 (hts w (hgood w hw).1)) List.mem_cons_self (fun a' U hW => word_at hW (gd_all _ hk.2.2.1) (hts _ hk.2.2.1))
  intro U0 hU0 X
  obtain ⟨mk, methM, cM, hnamed, hmethM, -, -, -, -, -, -, hsigM⟩ := Cond.codeWith_spec (hts _ hk.2.2.2)
  have hstatic : methM.isStatic = true := Cond.static_spec hnamed hmethM (hts _ hk.2.1)
  obtain ⟨kP, hkP, -⟩ := className_of_methodNamed hnamed
  have hinitP : kP.init = .initialized := Cond.initialized_spec (findClass_of_methodNamed hnamed) hkP (hts _ hk.2.2.1)
  obtain ⟨vm₁, X₁, hstep₁⟩ := X.invokestatic hx ho (hts _ hk.1) hnamed hmethM hstatic hkP hinitP ⟨hd.1, hd.2.1⟩ (g := F0 m pc ls st0) rfl (argsL := As) (rest := rest) (by
    have h1 := hd.2.2
    rw [hsigM] at h1
    exact hn.trans (Option.some.inj h1).symm) hst (by rw [hb]; exact hdg)
  obtain ⟨v, B, X', hpost, hsteps⟩ := hBk m meth c ⟨U0.setVm vm₁, locs, cells, slots⟩ (F0 m pc ls rest) (.invokestatic index) mk As.toArray X₁ rfl (hsize.trans hml.symm) (by rw [hb]; exact hdg) (lv_room hwt) (X₁.named hnamed) ⟨hcs.1, hcs.2, rfl, by rw [show (U0.setVm vm₁).heap = H from hU0], by rw [show (U0.setVm vm₁).heap = H from hU0]; exact hPc, va_K.moved X₁.warmed.alike hKc, hDc, by rw [show (U0.setVm vm₁).heap = H from hU0]; exact hok.mv X₁.warmed (hok.nw (hok.kp hFa hS.2.1) hFc)⟩
  obtain ⟨B', l2, c2, s2⟩ := B
  obtain ⟨g', mk', t, L, e1, e2, hq, h1, hL, h2, h3⟩ := hpost
  dsimp only [Pt.U, Pt.locs, Pt.cells, Pt.slots] at X' e1 e2 h1 h2 h3 hsteps
  subst h1
  subst h2
  subst h3
  obtain ⟨hv, ⟨v0, hφ, hP1, hK1, hD1⟩, hz, hkeep⟩ := hq
  cases hv
  have hHt : t.heap = B'.heap := e1.symm
  have hst0 : ((U0.setVm vm₁).calling g' mk' As.toArray).heap = H := hU0
  rw [hHt] at hP1 hz hkeep
  rw [hst0] at hz hkeep
  obtain ⟨t2, a1, b1⟩ := kk v0 B'.heap (locs ++ L) hφ hP1 hz hkeep ⟨Nat.le_trans hS.1 hz, fun q h1 h2 => by rw [hkeep q (Nat.lt_of_lt_of_le h1 hS.1) (fun z => h2 (hFc q z))]; exact hS.2.1 q h1 h2, fun q hq => by
    rcases List.mem_append.mp hq with h | h
    · exact hS.2.2 q h
    · exact hFc _ (hL q h)⟩ B' rfl X'
  exact ⟨t2, hstep₁ _ fun acts => by rw [doInvoke_state]; exact hsteps.trans a1, b1⟩
/-- a call of a method of the reference, or of the class, that makes nothing -/
theorem zg_V {V : Type} {φ : V → Prop} {wv : V → va_W} {rv : Value} (S : CallFix p m c cc nL s args lw_g own) (hM : Met l y (wsA y by0 n0 rt) rm (zP D tysC wsC (.ref b :: As) H.size) (zQ (some rv) (fun t => ∃ v : V, φ v ∧ zB D tysC (va_A wsC H.size) (wv v) t) (va_A wsC H.size)) 0 0 (va_A wsC H.size)) (hk : zk_V own C index y by0 n0 rt) (hd : zk_d y n) (hR : zk_R rm R 0 0 n0) (hcs : cells + 0 ≤ R.cells ∧ slots + 0 ≤ R.slots)
    (hKc : va_K D classes tysC s) (hPc : va_P D classes wsC H) (hDc : va_D (fun _ => True) wsC) (hS : va_S A H0 H locs) (hFc : ∀ q, va_A wsC H.size q → A q) (he : wsC[q0]? = some (b, .inr (ci, fs))) (hc : classes[ci]? = some (C, T, N)) (hn : As.length = n) (hsize : ls.size = nL) (hst : st0 = As.reverse ++ .ref b :: rest) (hwt : (rest.map fun v => v.category).sum ≤ 8) (hdg : decode cc pc = .ok (.invokevirtual index, 3))
    (kk : ∀ (v : V) (H1 : Heap) (locs1 : List Loc), φ v → va_P D classes (wv v) H1 → H.size ≤ H1.size → zfr wsC H H1 → va_S A H0 H1 locs1 → W p l e R s m args below meth c H1 locs1 (cells + 0) (slots + 0) Q (F0 m (pc + 3) ls (rv :: rest))) : W p l e R s m args below meth c H locs cells slots Q (F0 m pc ls st0) := by
  have hts := S.2.2.2.2
  refine zw_go (va_runV (As := As) (rest := rest) (b := b) (C := C) (n := n) S hM ⟨callB_of n hts (gd_A hk.2.2.2.2) rfl hR.1 hR.2.1 (hts _ hk.2.2.2.1) (hts _ hk.1) hd hR.2.2, hts _ hk.2.1, hts _ hk.2.2.1⟩ ⟨zfb_P, va_recv hKc hPc hc he, fun U hU hW => ⟨rfl, by rw [hU], by rw [hU]; exact hPc, va_K.moved hW.alike hKc, hDc⟩⟩ rfl hn hsize hst (lv_room hwt) hdg hcs) hS (fun q _ h => hFc q h) hFc (fun t H1 locs1 h1 hvm hB hz1 hk1 hS1 => ?_)
  obtain ⟨v, hφ, hP1, hK1, hD1⟩ := hB
  rw [h1] at hP1
  exact kk v H1 locs1 hφ hP1 hz1 hk1 hS1
end ZG
/-- a contract whose end is told outright, as one told by a value -/
theorem met_u {l : Launch} {y : MethodName} {ws : List Cond} {rm : Room} {Pc : Array Value → State → Prop} {rv : Option Value} {B : State → Prop} {A1 : Nat → Prop} {mc ms : Nat} {free : Addr → Prop} (h : Met l y ws rm Pc (zQ rv B A1) mc ms free) : Met l y ws rm Pc (zQ rv (fun t => ∃ _ : Unit, True ∧ B t) A1) mc ms free := by
  intro p e ha hc hk s m args below hf happ hP hK
  obtain ⟨n, o, h1, h2, h3, hq⟩ := h p e ha hc hk s m args below hf happ hP hK
  exact ⟨n, o, h1, h2, h3, ⟨⟨hq.1.1, ⟨(), trivial, hq.1.2.1⟩, hq.1.2.2⟩, hq.2⟩⟩
