/-! contracts that carry a fact of the state beside the world: what statics hold that nobody writes -/
def zFok (F : (Nat → Prop) → State → Heap → Prop) : Prop :=
  (∀ (A : Nat → Prop) (u U : State) (H : Heap), u.WarmedH U.vm → F A u H → F A U H) ∧ (∀ (A : Nat → Prop) (u U : State) (H : Heap), U.vm = u.vm → F A u H → F A U H) ∧ (∀ (A : Nat → Prop) (U : State) (H H1 : Heap), F A U H → (∀ a : Nat, a < H.size → ¬ A a → H1[a]? = H[a]?) → F A U H1) ∧ ∀ (A B : Nat → Prop) (U : State) (H : Heap), F A U H → (∀ q, B q → A q) → F B U H
theorem zFok.mv {F : (Nat → Prop) → State → Heap → Prop} (h : zFok F) {A : Nat → Prop} {u U : State} {H : Heap} (h1 : u.WarmedH U.vm) (h2 : F A u H) : F A U H := h.1 A u U H h1 h2
theorem zFok.sm {F : (Nat → Prop) → State → Heap → Prop} (h : zFok F) {A : Nat → Prop} {u U : State} {H : Heap} (h1 : U.vm = u.vm) (h2 : F A u H) : F A U H := h.2.1 A u U H h1 h2
theorem zFok.kp {F : (Nat → Prop) → State → Heap → Prop} (h : zFok F) {A : Nat → Prop} {U : State} {H H1 : Heap} (h1 : F A U H) (h2 : ∀ a : Nat, a < H.size → ¬ A a → H1[a]? = H[a]?) : F A U H1 := h.2.2.1 A U H H1 h1 h2
theorem zFok.nw {F : (Nat → Prop) → State → Heap → Prop} (h : zFok F) {A B : Nat → Prop} {U : State} {H : Heap} (h1 : F A U H) (h2 : ∀ q, B q → A q) : F B U H := h.2.2.2 A B U H h1 h2
abbrev zRF (F : (Nat → Prop) → State → Heap → Prop) (D : va_G) (tys : List (ClassId × FieldType)) (ws : va_W) (av : List Value) : Array Value → State → Prop := va_Pc av (fun U => va_P D classes ws U.heap ∧ va_K D classes tys U ∧ F (fun _ => False) U U.heap)
abbrev zPF (F : (Nat → Prop) → State → Heap → Prop) (D : va_G) (tys : List (ClassId × FieldType)) (ws : va_W) (av : List Value) (sz : Nat) : Array Value → State → Prop := va_Pc av (fun U => U.heap.size = sz ∧ va_P D classes ws U.heap ∧ va_K D classes tys U ∧ va_D (fun _ => True) ws ∧ F (va_A ws sz) U U.heap)
theorem zfb_RF {F : (Nat → Prop) → State → Heap → Prop} (hF : zFok F) {D : va_G} {tys : List (ClassId × FieldType)} {ws : va_W} {av : List Value} : FrameBlind (zRF F D tys ws av) := fun a U g mk q => ⟨q.1, q.2.1, va_K.moved (u := U) (U := U.calling g mk a) (Vm.Alike.refl U.vm) q.2.2.1, hF.sm (u := U) (U := U.calling g mk a) rfl q.2.2.2⟩
theorem zfb_PF {F : (Nat → Prop) → State → Heap → Prop} (hF : zFok F) {D : va_G} {tys : List (ClassId × FieldType)} {ws : va_W} {av : List Value} {sz : Nat} : FrameBlind (zPF F D tys ws av sz) := fun a U g mk q => ⟨q.1, q.2.1, q.2.2.1, va_K.moved (u := U) (U := U.calling g mk a) (Vm.Alike.refl U.vm) q.2.2.2.1, q.2.2.2.2.1, hF.sm (u := U) (U := U.calling g mk a) rfl q.2.2.2.2.2⟩
/-- a part of a world, told by its members -/
theorem va_P.mem {D : va_G} {cl : List vw_C} {ws wsC : va_W} {H : Heap} (hP : va_P D cl ws H) (h : ∀ q ∈ wsC, q ∈ ws) : va_P D cl wsC H := fun k q hk => by
  obtain ⟨i, hi⟩ := List.getElem?_of_mem (h q (List.mem_of_getElem? hk))
  exact hP i q hi
section ZF
variable {p : Program} {l : Launch} {e : Env} {R : Room} {s : State} {m : MethodId} {args : Array Value} {below : List Frame} {meth : Method} {c : Code} {H : Heap} {locs : List Loc} {cells slots : Nat} {Q : State → Prop}
variable {cc by0 : ByteArray} {pc nL n0 n index mc ms : Nat} {ls : Array Slot} {rest st0 As : List Value} {D : va_G} {tys tysC : List (ClassId × FieldType)} {ws ws' wsC wsC' wr : va_W} {b ci q0 N : Nat} {own C : String} {T : u_T} {fs : List Value} {y : MethodName} {rt : Option FieldType} {rm : Room} {A : Nat → Prop} {H0 : Heap} {a : Array Value} {F : (Nat → Prop) → State → Heap → Prop}
/-- the fact now, for a reader -/
theorem zF_now (hok : zFok F) (hF : F A s H0) (hS : va_S A H0 H locs) : F (fun _ => False) s H := hok.nw (hok.kp hF hS.2.1) (fun _ h => h.elim)
theorem zrF_V {rv : Value} (hok : zFok F) (S : CallFix p m c cc nL s args lw_g own) (hM : Met l y (wsA y by0 n0 rt) rm (zRF F D tysC wsC (.ref b :: As)) (k2_QcV rv) 0 0 (fun _ => False)) (hk : zk_V own C index y by0 n0 rt) (hd : zk_d y n) (hR : zk_R rm R 0 0 n0) (hcs : cells ≤ R.cells ∧ slots ≤ R.slots)
    (hK : va_K D classes tys s) (hP : va_P D classes ws H) (hFn : F (fun _ => False) s H) (isW : List Nat) (hw : isW.filterMap (fun i => ws[i]?) = wsC) (isT : List Nat) (ht : isT.filterMap (fun i => tys[i]?) = tysC) (he : wsC[q0]? = some (b, .inr (ci, fs))) (hc : classes[ci]? = some (C, T, N)) (hn : As.length = n) (hsize : ls.size = nL) (hst : st0 = As.reverse ++ .ref b :: rest) (hwt : (rest.map fun v => v.category).sum ≤ 8) (hdg : decode cc pc = .ok (.invokevirtual index, 3))
    (kk : W p l e R s m args below meth c H locs cells slots Q (F0 m (pc + 3) ls (rv :: rest))) : W p l e R s m args below meth c H locs cells slots Q (F0 m pc ls st0) := by
  have hPc := hP.sub isW hw
  have hKc := hK.sub isT ht
  have hts := S.2.2.2.2
  exact W.callV (W.runV (As := As) (rest := rest) (b := b) (C := C) (n := n) S hM ⟨callB_of n hts (gd_A hk.2.2.2.2) rfl hR.1 hR.2.1 (hts _ hk.2.2.2.1) (hts _ hk.1) hd hR.2.2, hts _ hk.2.1, hts _ hk.2.2.1⟩ ⟨zfb_RF hok, va_recv hKc hPc hc he, fun U hU hW => ⟨rfl, by rw [hU]; exact hPc, va_K.moved hW.alike hKc, by rw [hU]; exact hok.mv hW hFn⟩⟩ rfl hn hsize hst (lv_room hwt) hdg ⟨hcs.1, hcs.2⟩) kk
theorem zwF_V {rv : Option Value} (hok : zFok F) (S : CallFix p m c cc nL s args lw_g own) (hM : Met l y (wsA y by0 n0 rt) rm (zPF F D tysC wsC (.ref b :: As) H.size) (zQ rv (zB D tysC (va_A wsC H.size) wsC') (va_A wsC H.size)) 0 0 (va_A wsC H.size)) (hk : zk_V own C index y by0 n0 rt) (hd : zk_d y n) (hR : zk_R rm R 0 0 n0) (hcs : cells ≤ R.cells ∧ slots ≤ R.slots)
    (hK : va_K D classes tys s) (hP : va_P D classes ws H) (hD : va_D A ws) (hS : va_S A H0 H locs) (hA : ∀ q, H0.size ≤ q → A q) (hFa : F A s H0) (isC isR pm isT : List Nat) (hw : isC.filterMap (fun i => ws[i]?) = wsC) (hC : isC.map (fun i => ws[i]?) = wsC.map some) (hnC : va_nd isC = true) (hr : isR.map (fun i => ws[i]?) = wr.map some) (hnR : va_nd isR = true) (hdis : ∀ i ∈ isR, i ∉ isC)
    (hpm : pm.filterMap (fun i => (wr ++ wsC')[i]?) = ws') (hpm2 : pm.map (fun i => (wr ++ wsC')[i]?) = ws'.map some) (hnP : va_nd pm = true) (ht : isT.filterMap (fun i => tys[i]?) = tysC) (he : wsC[q0]? = some (b, .inr (ci, fs))) (hc : classes[ci]? = some (C, T, N)) (hn : As.length = n) (hsize : ls.size = nL) (hst : st0 = As.reverse ++ .ref b :: rest) (hwt : (rest.map fun v => v.category).sum ≤ 8) (hdg : decode cc pc = .ok (.invokevirtual index, 3))
    (kk : ∀ (H1 : Heap) (locs1 : List Loc), va_P D classes ws' H1 → va_D A ws' → va_S A H0 H1 locs1 → W p l e R s m args below meth c H1 locs1 cells slots Q (F0 m (pc + 3) ls (rv.toList ++ rest))) : W p l e R s m args below meth c H locs cells slots Q (F0 m pc ls st0) := by
  have hPc := hP.sub isC hw
  have hKc := hK.sub isT ht
  have hDc := hD.sub isC hnC hC
  have hts := S.2.2.2.2
  have hFc := va_free hD hS hA isC hC
  refine zw_go (va_runV (As := As) (rest := rest) (b := b) (C := C) (n := n) S hM ⟨callB_of n hts (gd_A hk.2.2.2.2) rfl hR.1 hR.2.1 (hts _ hk.2.2.2.1) (hts _ hk.1) hd hR.2.2, hts _ hk.2.1, hts _ hk.2.2.1⟩ ⟨zfb_PF hok, va_recv hKc hPc hc he, fun U hU hW => ⟨rfl, by rw [hU], by rw [hU]; exact hPc, va_K.moved hW.alike hKc, hDc.weaken (fun _ _ _ _ => trivial), by rw [hU]; exact hok.mv hW (hok.nw (hok.kp hFa hS.2.1) hFc)⟩⟩ rfl hn hsize hst (lv_room hwt) hdg ⟨hcs.1, hcs.2⟩) hS (fun q _ h => hFc q h) hFc (fun t H1 locs1 h1 hvm hB hz1 hk1 hS1 => ?_)
  obtain ⟨hP1, hK1, hD1⟩ := hB
  rw [h1] at hP1
  obtain ⟨hP2, hD2⟩ := va_join hP hD isC isR hC hr hnR hdis hk1 hFc hP1 hD1
  exact kk H1 locs1 (hP2.sub pm hpm) (hD2.sub pm hnP hpm2) hS1
end ZF
/-! the table of Pins: 1, 3, 9, 27 -/
def zT1 (A : Nat → Prop) (U : State) (H : Heap) : Prop := ∃ t : Nat, va_Z R_PI "ONE_AT_SIDE" "[I" (.ref t) A U H ∧ va_T .int t 4 (fun j => .int (nI (one j))) A U H
theorem al_of {u U : State} (h : U.vm = u.vm) : u.vm.Alike U.vm := by
  rw [h]
  exact Vm.Alike.refl _
theorem zT1_ok : zFok zT1 := ⟨fun _ _ _ _ h ⟨t, a, b⟩ => ⟨t, a.moved h.alike, b.moved h.alike⟩, fun _ _ _ _ h ⟨t, a, b⟩ => ⟨t, a.moved (al_of h), b.moved (al_of h)⟩, fun _ _ _ _ ⟨t, a, b⟩ h => ⟨t, a.kept h, b.kept h⟩, fun _ _ _ _ ⟨t, a, b⟩ h => ⟨t, a.narrow h, b.narrow h⟩⟩
section ZT1
variable {p : Program} {l : Launch} {e : Env} {R : Room} {s : State} {m : MethodId} {args : Array Value} {below : List Frame} {meth : Method} {c : Code} {H : Heap} {locs : List Loc} {cells slots : Nat} {Q : State → Prop}
variable {cc : ByteArray} {pc : Nat} {ls : Array Slot} {rest : List Value} {A : Nat → Prop} {t j : Nat}
theorem z_oneld (hexec : p.tables.exec = Jvm.exec) (hb : c.code = cc) (hT : va_T .int t 4 (fun j => .int (nI (one j))) A s s.heap) (hS : va_S A s.heap H locs) (hj : j < 4) (hdg : decode cc pc = .ok (.iaload, 1))
    (kk : W p l e R s m args below meth c H locs cells slots Q (F0 m (pc + 1) ls (.int (nI (one j)) :: rest))) : W p l e R s m args below meth c H locs cells slots Q (F0 m pc ls (.int (nI j) :: .ref t :: rest)) :=
  va_ti hexec hb hT hS (vp_in_nI hj (by decide)) (by rw [nI_clamp (by omega)]) hdg kk
end ZT1
/-! rows of rows: eight of 4, nine of 81 -/
theorem fin8 {P : Nat → Prop} (h0 : P 0) (h1 : P 1) (h2 : P 2) (h3 : P 3) (h4 : P 4) (h5 : P 5) (h6 : P 6) (h7 : P 7) : ∀ k, k < 8 → P k
  | 0, _ => h0 | 1, _ => h1 | 2, _ => h2 | 3, _ => h3 | 4, _ => h4 | 5, _ => h5 | 6, _ => h6 | 7, _ => h7 | k + 8, h => absurd h (by omega)
theorem fin9 {P : Nat → Prop} (h0 : P 0) (h1 : P 1) (h2 : P 2) (h3 : P 3) (h4 : P 4) (h5 : P 5) (h6 : P 6) (h7 : P 7) (h8 : P 8) : ∀ k, k < 9 → P k
  | 0, _ => h0 | 1, _ => h1 | 2, _ => h2 | 3, _ => h3 | 4, _ => h4 | 5, _ => h5 | 6, _ => h6 | 7, _ => h7 | 8, _ => h8 | k + 9, h => absurd h (by omega)
/-- a cell with ints -/
abbrev rwC (a : Nat) (cA : ClassId) (n : Nat) (f : Nat → Nat) : Nat × va_E := (a, .inl (cA, n, .inl (fun zk => nI (f zk))))
section ROWS
variable {c0 c1 c2 c3 c4 : Nat × va_E} {aC aL : Nat → Nat} {cA : ClassId} {cf lf : Nat → Nat → Nat} {tl : va_W} {k : Nat} {g : Nat → Nat}
theorem pi_C (hk : k < 8) : (c0 :: c1 :: c2 :: c3 :: c4 :: rwC (aC 0) cA 4 (cf 0) :: rwC (aC 1) cA 4 (cf 1) :: rwC (aC 2) cA 4 (cf 2) :: rwC (aC 3) cA 4 (cf 3) :: rwC (aC 4) cA 4 (cf 4) :: rwC (aC 5) cA 4 (cf 5) :: rwC (aC 6) cA 4 (cf 6) :: rwC (aC 7) cA 4 (cf 7) :: tl)[5 + k]? = some (rwC (aC k) cA 4 (cf k)) := by
  rcases (by omega : k = 0 ∨ k = 1 ∨ k = 2 ∨ k = 3 ∨ k = 4 ∨ k = 5 ∨ k = 6 ∨ k = 7) with h | h | h | h | h | h | h | h <;> subst h <;> rfl
theorem pi_Cset (hk : k < 8) : (c0 :: c1 :: c2 :: c3 :: c4 :: rwC (aC 0) cA 4 (cf 0) :: rwC (aC 1) cA 4 (cf 1) :: rwC (aC 2) cA 4 (cf 2) :: rwC (aC 3) cA 4 (cf 3) :: rwC (aC 4) cA 4 (cf 4) :: rwC (aC 5) cA 4 (cf 5) :: rwC (aC 6) cA 4 (cf 6) :: rwC (aC 7) cA 4 (cf 7) :: tl : va_W).set (5 + k) (rwC (aC k) cA 4 g) = c0 :: c1 :: c2 :: c3 :: c4 :: rwC (aC 0) cA 4 (va_up cf k g 0) :: rwC (aC 1) cA 4 (va_up cf k g 1) :: rwC (aC 2) cA 4 (va_up cf k g 2) :: rwC (aC 3) cA 4 (va_up cf k g 3) :: rwC (aC 4) cA 4 (va_up cf k g 4) :: rwC (aC 5) cA 4 (va_up cf k g 5) :: rwC (aC 6) cA 4 (va_up cf k g 6) :: rwC (aC 7) cA 4 (va_up cf k g 7) :: tl := by
  rcases (by omega : k = 0 ∨ k = 1 ∨ k = 2 ∨ k = 3 ∨ k = 4 ∨ k = 5 ∨ k = 6 ∨ k = 7) with h | h | h | h | h | h | h | h <;> subst h <;> rfl
variable {e0 e1 e2 e3 e4 e5 e6 e7 : Nat × va_E}
theorem pi_L (hk : k < 9) : (c0 :: c1 :: c2 :: c3 :: c4 :: e0 :: e1 :: e2 :: e3 :: e4 :: e5 :: e6 :: e7 :: rwC (aL 0) cA 81 (lf 0) :: rwC (aL 1) cA 81 (lf 1) :: rwC (aL 2) cA 81 (lf 2) :: rwC (aL 3) cA 81 (lf 3) :: rwC (aL 4) cA 81 (lf 4) :: rwC (aL 5) cA 81 (lf 5) :: rwC (aL 6) cA 81 (lf 6) :: rwC (aL 7) cA 81 (lf 7) :: rwC (aL 8) cA 81 (lf 8) :: tl)[13 + k]? = some (rwC (aL k) cA 81 (lf k)) := by
  rcases (by omega : k = 0 ∨ k = 1 ∨ k = 2 ∨ k = 3 ∨ k = 4 ∨ k = 5 ∨ k = 6 ∨ k = 7 ∨ k = 8) with h | h | h | h | h | h | h | h | h <;> subst h <;> rfl
theorem pi_Lset (hk : k < 9) : (c0 :: c1 :: c2 :: c3 :: c4 :: e0 :: e1 :: e2 :: e3 :: e4 :: e5 :: e6 :: e7 :: rwC (aL 0) cA 81 (lf 0) :: rwC (aL 1) cA 81 (lf 1) :: rwC (aL 2) cA 81 (lf 2) :: rwC (aL 3) cA 81 (lf 3) :: rwC (aL 4) cA 81 (lf 4) :: rwC (aL 5) cA 81 (lf 5) :: rwC (aL 6) cA 81 (lf 6) :: rwC (aL 7) cA 81 (lf 7) :: rwC (aL 8) cA 81 (lf 8) :: tl : va_W).set (13 + k) (rwC (aL k) cA 81 g) = c0 :: c1 :: c2 :: c3 :: c4 :: e0 :: e1 :: e2 :: e3 :: e4 :: e5 :: e6 :: e7 :: rwC (aL 0) cA 81 (va_up lf k g 0) :: rwC (aL 1) cA 81 (va_up lf k g 1) :: rwC (aL 2) cA 81 (va_up lf k g 2) :: rwC (aL 3) cA 81 (va_up lf k g 3) :: rwC (aL 4) cA 81 (va_up lf k g 4) :: rwC (aL 5) cA 81 (va_up lf k g 5) :: rwC (aL 6) cA 81 (va_up lf k g 6) :: rwC (aL 7) cA 81 (va_up lf k g 7) :: rwC (aL 8) cA 81 (va_up lf k g 8) :: tl := by
  rcases (by omega : k = 0 ∨ k = 1 ∨ k = 2 ∨ k = 3 ∨ k = 4 ∨ k = 5 ∨ k = 6 ∨ k = 7 ∨ k = 8) with h | h | h | h | h | h | h | h | h <;> subst h <;> rfl
end ROWS
theorem dig_in {fl sd : Nat} (h : fl < 81) (hs : sd < 4) (hd : ¬ fl / one sd % 3 = 2) : fl + one sd < 81 := by
  unfold one at hd ⊢
  rcases s4 hs with q | q | q | q <;> subst q <;> simp at hd ⊢ <;> omega
theorem one_lt {sd : Nat} (hs : sd < 4) : 0 < one sd ∧ one sd < 28 := by
  unfold one
  rcases s4 hs with q | q | q | q <;> subst q <;> simp
