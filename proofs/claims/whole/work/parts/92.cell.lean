theorem d_LA_cell_0 : decode b_LA_cell 0 = .ok (.iload_n 1, 1) := by decide +kernel
theorem d_LA_cell_1 : decode b_LA_cell 1 = .ok (.aload_n 0, 1) := by decide +kernel
theorem d_LA_cell_2 : decode b_LA_cell 2 = .ok (.arraylength, 1) := by decide +kernel
theorem d_LA_cell_3 : decode b_LA_cell 3 = .ok (.if_icmp .ge 9, 3) := by decide +kernel
theorem d_LA_cell_6 : decode b_LA_cell 6 = .ok (.aload_n 0, 1) := by decide +kernel
theorem d_LA_cell_7 : decode b_LA_cell 7 = .ok (.iload_n 1, 1) := by decide +kernel
theorem d_LA_cell_8 : decode b_LA_cell 8 = .ok (.iaload, 1) := by decide +kernel
theorem d_LA_cell_9 : decode b_LA_cell 9 = .ok (.goto 4, 3) := by decide +kernel
theorem d_LA_cell_12 : decode b_LA_cell 12 = .ok (.iconst 0, 1) := by decide +kernel
theorem d_LA_cell_13 : decode b_LA_cell 13 = .ok (.ireturn, 1) := by decide +kernel
/-- the script, as a fact beside a world -/
def zScr (b L : Nat) (xs : Nat → Int32) : (Nat → Prop) → State → Heap → Prop := fun A U H => va_X b L xs U H ∧ ¬ A b
theorem va_X_lt {b L : Nat} {xs : Nat → Int32} {U : State} {H : Heap} (h : va_X b L xs U H) : b < H.size := by
  obtain ⟨scr, h1, _⟩ := h
  exact (Array.getElem?_eq_some_iff.mp h1).1
theorem zScr_ok {b L : Nat} {xs : Nat → Int32} : zFok (zScr b L xs) := ⟨fun _ _ _ _ h q => ⟨q.1.moved h.alike, q.2⟩, fun _ _ _ _ h q => ⟨q.1.moved (al_of h), q.2⟩, fun _ _ _ _ q h => ⟨q.1.kept (h b (va_X_lt q.1) q.2), q.2⟩, fun _ _ _ _ q h => ⟨q.1, fun z => q.2 (h b z)⟩⟩
def scr0 (L : Nat) (xs : Nat → Int32) : Int32 := if 0 < L then xs 0 else 0
theorem c_LA_cell (l : Launch) (D : va_G) (b L : Nat) (xs : Nat → Int32) (hL : L ≤ 3073) : Met l y_LA_cell (wsA y_LA_cell b_LA_cell 2 (some .int)) ({ frames := 0, cells := 0, slots := 0, locals := 0 } : Room) (zRF (zScr b L xs) D [] [] [.ref b, .int (nI 0)]) (k2_QcV (.int (scr0 L xs))) 0 0 (fun _ => False) := by
  refine Met.ofW (cc := b_LA_cell) (maxL := 2) (ret := (some .int)) (by decide) rfl ?_
  intro p e s m args below meth c s₁ Bd hml hv
  obtain ⟨rfl, hP, hK, hF⟩ := hv
  have hx := Bd.exec
  have hb := Bd.bytes
  have hr := Bd.returns
  have hlocks := Bd.notSynchronized
  have hl := lv_entry ([.ref b, .int (nI 0)]) (n := 2) (Nat.le_of_ble_eq_true rfl)
  rw [lg_entry_eq]
  generalize (lg_sl ([.ref b, .int (nI 0)]) ++ List.replicate (2 - (lg_sl ([.ref b, .int (nI 0)])).length) Slot.unset).toArray = ls at hl ⊢
  have hl : lv_has ls 2 [(0, .ref b), (1, .int (nI 0))] := hl
  have hX := hF.1
  have hbl := va_X_lt hX
  have e0 : (Int32.ofNat L).toInt = L := nI_toInt (by omega)
  have e1 : (nI 0).toInt = 0 := by decide
  refine lv_iload_n hx hb d_LA_cell_0 rfl (lv_at hl 1 rfl) ?_
  refine lv_aload_n hx hb d_LA_cell_1 rfl (lv_at hl 0 rfl) ?_
  refine va_slen hx hb hX hbl (fun z => z) (va_S.rf (A := fun _ => False)) d_LA_cell_2 ?_
  refine lv_icmp_ge (tgt := 12) hx hb d_LA_cell_3 (by decide) (fun c_1 => ?_) (fun c_1 => ?_)
  · refine lv_iconst (v := 0) hx hb d_LA_cell_12 (by decide) ?_
    rw [Int32.le_iff_toInt_le, e0, e1] at c_1
    refine lv_toi (z := scr0 L xs) (by unfold scr0; rw [if_neg (by omega)]) ?_
    exact W.iret hx hb hr (fun t ht hW => ⟨rfl, ht⟩) (fun q h => by cases h) d_LA_cell_13
  · rw [Int32.le_iff_toInt_le, e0, e1] at c_1
    refine lv_aload_n hx hb d_LA_cell_6 rfl (lv_at hl 0 rfl) ?_
    refine lv_iload_n hx hb d_LA_cell_7 rfl (lv_at hl 1 rfl) ?_
    refine va_sld hx hb hX hbl (fun z => z) (va_S.rf (A := fun _ => False)) (vp_in_nI (n := 0) (by omega) (by omega)) d_LA_cell_8 ?_
    refine lv_toi (z := scr0 L xs) (by unfold scr0; rw [if_pos (by omega), nI_clamp (by omega)]) ?_
    refine lv_goto (tgt := 13) hx hb d_LA_cell_9 (by decide) ?_
    exact W.iret hx hb hr (fun t ht hW => ⟨rfl, ht⟩) (fun q h => by cases h) d_LA_cell_13
section ZI
variable {p : Program} {l : Launch} {e : Env} {R : Room} {s : State} {m : MethodId} {args : Array Value} {below : List Frame} {meth : Method} {c : Code} {H : Heap} {locs : List Loc} {cells slots : Nat} {Q : State → Prop}
variable {cc by0 : ByteArray} {pc nL n0 n index mc ms : Nat} {ls : Array Slot} {rest st0 As : List Value} {D : va_G} {tys tysC : List (ClassId × FieldType)} {wsC wsC' : va_W} {b : Nat} {own C : String} {y : MethodName} {rt : Option FieldType} {rm : Room} {A : Nat → Prop} {H0 : Heap} {F : (Nat → Prop) → State → Heap → Prop}
theorem zrF_S {rv : Value} (hok : zFok F) (S : CallFix p m c cc nL s args lw_g own) (hM : Met l y (wsA y by0 n0 rt) rm (zRF F D tysC wsC As) (k2_QcV rv) 0 0 (fun _ => False)) (hk : zk_S own index y by0 n0 rt) (hd : zk_d y n) (hR : zk_R rm R 0 0 n0) (hcs : cells ≤ R.cells ∧ slots ≤ R.slots)
    (hKc : va_K D classes tysC s) (hPc : va_P D classes wsC H) (hFn : F (fun _ => False) s H) (hn : As.length = n) (hsize : ls.size = nL) (hst : st0 = As.reverse ++ rest) (hwt : (rest.map fun v => v.category).sum ≤ 8) (hdg : decode cc pc = .ok (.invokestatic index, 3))
    (kk : W p l e R s m args below meth c H locs cells slots Q (F0 m (pc + 3) ls (rv :: rest))) : W p l e R s m args below meth c H locs cells slots Q (F0 m pc ls st0) := by
  have hts := S.2.2.2.2
  exact W.callV (W.runS (As := As) (rest := rest) (n := n) S hM ⟨callB_of n hts (gd_A hk.2.2.2) rfl hR.1 hR.2.1 (hts _ hk.2.2.1) (hts _ hk.1) hd hR.2.2, hts _ hk.2.1⟩ ⟨zfb_RF hok, fun U hU hW => ⟨rfl, by rw [hU]; exact hPc, va_K.moved hW.alike hKc, by rw [hU]; exact hok.mv hW hFn⟩⟩ rfl hn hsize hst (lv_room hwt) hdg ⟨hcs.1, hcs.2⟩) kk
theorem zg_I {sz : Nat} (hsz : H.size = sz) (hok : zFok F) (S : CallFix p m c cc nL s args lw_g own) (hM : Met l y (wsA y by0 n0 none) rm (zPF F D tysC wsC (.ref b :: As) sz) (zQ none (zB D tysC (va_A wsC sz) wsC') (va_A wsC sz)) mc ms (va_A wsC sz)) (hk : zk_I own index y by0 n0) (hy1 : y.name = "<init>") (hd : zk_d y n) (hR : zk_R rm R mc ms n0) (hcs : cells + mc ≤ R.cells ∧ slots + ms ≤ R.slots)
    (hKc : va_K D classes tysC s) (hPc : va_P D classes wsC H) (hDc : va_D (fun _ => True) wsC) (hS : va_S A H0 H locs) (hFc : ∀ q, va_A wsC H.size q → A q) (hFa : F A s H0) (hn : As.length = n) (hsize : ls.size = nL) (hst : st0 = As.reverse ++ .ref b :: rest) (hwt : (rest.map fun v => v.category).sum ≤ 8) (hdg : decode cc pc = .ok (.invokespecial index, 3))
    (kk : ∀ (H1 : Heap) (locs1 : List Loc), va_P D classes wsC' H1 → va_D A wsC' → H.size ≤ H1.size → zfr wsC H H1 → va_S A H0 H1 locs1 → W p l e R s m args below meth c H1 locs1 (cells + mc) (slots + ms) Q (F0 m (pc + 3) ls rest)) : W p l e R s m args below meth c H locs cells slots Q (F0 m pc ls st0) := by
  subst hsz
  have hts := S.2.2.2.2
  refine zm_go (va_runI (As := As) (rest := rest) (b := b) (n := n) S hM ⟨callB_of n hts (gd_A hk.2.2.2) rfl hR.1 hR.2.1 (hts _ hk.2.2.1) (hts _ hk.1) hd hR.2.2, hy1, hts _ hk.2.1⟩ ⟨zfb_PF hok, fun U hU hW => ⟨rfl, by rw [hU], by rw [hU]; exact hPc, va_K.moved hW.alike hKc, hDc, by rw [hU]; exact hok.mv hW (hok.nw (hok.kp hFa hS.2.1) hFc)⟩⟩ rfl hn hsize hst (lv_room hwt) hdg hcs) hS (fun q _ h => hFc q h) hFc (fun t H1 locs1 h1 hB hz1 hk1 hS1 => ?_)
  obtain ⟨hP1, hK1, hD1⟩ := hB
  rw [h1] at hP1
  exact kk H1 locs1 hP1 (hD1.weaken (fun _ q _ h => hFc q.1 h)) hz1 hk1 hS1
end ZI
