theorem d_BL_append_0 : decode b_BL_append 0 = .ok (.aload_n 0, 1) := by decide +kernel
theorem d_BL_append_1 : decode b_BL_append 1 = .ok (.getfield 11, 3) := by decide +kernel
theorem d_BL_append_4 : decode b_BL_append 4 = .ok (.iconst 0, 1) := by decide +kernel
theorem d_BL_append_5 : decode b_BL_append 5 = .ok (.aaload, 1) := by decide +kernel
theorem d_BL_append_6 : decode b_BL_append 6 = .ok (.aload_n 0, 1) := by decide +kernel
theorem d_BL_append_7 : decode b_BL_append 7 = .ok (.getfield 26, 3) := by decide +kernel
theorem d_BL_append_10 : decode b_BL_append 10 = .ok (.iload_n 1, 1) := by decide +kernel
theorem d_BL_append_11 : decode b_BL_append 11 = .ok (.iastore, 1) := by decide +kernel
theorem d_BL_append_12 : decode b_BL_append 12 = .ok (.aload_n 0, 1) := by decide +kernel
theorem d_BL_append_13 : decode b_BL_append 13 = .ok (.getfield 11, 3) := by decide +kernel
theorem d_BL_append_16 : decode b_BL_append 16 = .ok (.iconst 1, 1) := by decide +kernel
theorem d_BL_append_17 : decode b_BL_append 17 = .ok (.aaload, 1) := by decide +kernel
theorem d_BL_append_18 : decode b_BL_append 18 = .ok (.aload_n 0, 1) := by decide +kernel
theorem d_BL_append_19 : decode b_BL_append 19 = .ok (.getfield 26, 3) := by decide +kernel
theorem d_BL_append_22 : decode b_BL_append 22 = .ok (.iload_n 2, 1) := by decide +kernel
theorem d_BL_append_23 : decode b_BL_append 23 = .ok (.iastore, 1) := by decide +kernel
theorem d_BL_append_24 : decode b_BL_append 24 = .ok (.aload_n 0, 1) := by decide +kernel
theorem d_BL_append_25 : decode b_BL_append 25 = .ok (.getfield 19, 3) := by decide +kernel
theorem d_BL_append_28 : decode b_BL_append 28 = .ok (.aload_n 0, 1) := by decide +kernel
theorem d_BL_append_29 : decode b_BL_append 29 = .ok (.getfield 26, 3) := by decide +kernel
theorem d_BL_append_32 : decode b_BL_append 32 = .ok (.iload_n 3, 1) := by decide +kernel
theorem d_BL_append_33 : decode b_BL_append 33 = .ok (.bastore, 1) := by decide +kernel
theorem d_BL_append_34 : decode b_BL_append 34 = .ok (.aload_n 0, 1) := by decide +kernel
theorem d_BL_append_35 : decode b_BL_append 35 = .ok (.dup, 1) := by decide +kernel
theorem d_BL_append_36 : decode b_BL_append 36 = .ok (.getfield 26, 3) := by decide +kernel
theorem d_BL_append_39 : decode b_BL_append 39 = .ok (.dup_x1, 1) := by decide +kernel
theorem d_BL_append_40 : decode b_BL_append 40 = .ok (.iconst 1, 1) := by decide +kernel
theorem d_BL_append_41 : decode b_BL_append 41 = .ok (.iadd, 1) := by decide +kernel
theorem d_BL_append_42 : decode b_BL_append 42 = .ok (.putfield 26, 3) := by decide +kernel
theorem d_BL_append_45 : decode b_BL_append 45 = .ok (.ireturn, 1) := by decide +kernel
theorem d_BL_tell_0 : decode b_BL_tell 0 = .ok (.aload_n 0, 1) := by decide +kernel
theorem d_BL_tell_1 : decode b_BL_tell 1 = .ok (.getfield 23, 3) := by decide +kernel
theorem d_BL_tell_4 : decode b_BL_tell 4 = .ok (.iload_n 1, 1) := by decide +kernel
theorem d_BL_tell_5 : decode b_BL_tell 5 = .ok (.iload_n 2, 1) := by decide +kernel
theorem d_BL_tell_6 : decode b_BL_tell 6 = .ok (.bastore, 1) := by decide +kernel
theorem d_BL_tell_7 : decode b_BL_tell 7 = .ok (.aload_n 0, 1) := by decide +kernel
theorem d_BL_tell_8 : decode b_BL_tell 8 = .ok (.getfield 16, 3) := by decide +kernel
theorem d_BL_tell_11 : decode b_BL_tell 11 = .ok (.iconst 0, 1) := by decide +kernel
theorem d_BL_tell_12 : decode b_BL_tell 12 = .ok (.aaload, 1) := by decide +kernel
theorem d_BL_tell_13 : decode b_BL_tell 13 = .ok (.iload_n 1, 1) := by decide +kernel
theorem d_BL_tell_14 : decode b_BL_tell 14 = .ok (.iload_n 3, 1) := by decide +kernel
theorem d_BL_tell_15 : decode b_BL_tell 15 = .ok (.iastore, 1) := by decide +kernel
theorem d_BL_tell_16 : decode b_BL_tell 16 = .ok (.aload_n 0, 1) := by decide +kernel
theorem d_BL_tell_17 : decode b_BL_tell 17 = .ok (.getfield 16, 3) := by decide +kernel
theorem d_BL_tell_20 : decode b_BL_tell 20 = .ok (.iconst 1, 1) := by decide +kernel
theorem d_BL_tell_21 : decode b_BL_tell 21 = .ok (.aaload, 1) := by decide +kernel
theorem d_BL_tell_22 : decode b_BL_tell 22 = .ok (.iload_n 1, 1) := by decide +kernel
theorem d_BL_tell_23 : decode b_BL_tell 23 = .ok (.iload 4, 2) := by decide +kernel
theorem d_BL_tell_25 : decode b_BL_tell 25 = .ok (.iastore, 1) := by decide +kernel
theorem d_BL_tell_26 : decode b_BL_tell 26 = .ok (.return_, 1) := by decide +kernel
theorem d_PL_sizeOf_0 : decode b_PL_sizeOf 0 = .ok (.aload_n 0, 1) := by decide +kernel
theorem d_PL_sizeOf_1 : decode b_PL_sizeOf 1 = .ok (.getfield 9, 3) := by decide +kernel
theorem d_PL_sizeOf_4 : decode b_PL_sizeOf 4 = .ok (.getfield 104, 3) := by decide +kernel
theorem d_PL_sizeOf_7 : decode b_PL_sizeOf 7 = .ok (.aload_n 0, 1) := by decide +kernel
theorem d_PL_sizeOf_8 : decode b_PL_sizeOf 8 = .ok (.getfield 25, 3) := by decide +kernel
theorem d_PL_sizeOf_11 : decode b_PL_sizeOf 11 = .ok (.iload_n 1, 1) := by decide +kernel
theorem d_PL_sizeOf_12 : decode b_PL_sizeOf 12 = .ok (.baload, 1) := by decide +kernel
theorem d_PL_sizeOf_13 : decode b_PL_sizeOf 13 = .ok (.ifCond .eq 9, 3) := by decide +kernel
theorem d_PL_sizeOf_16 : decode b_PL_sizeOf 16 = .ok (.iconst 1, 1) := by decide +kernel
theorem d_PL_sizeOf_17 : decode b_PL_sizeOf 17 = .ok (.iload_n 2, 1) := by decide +kernel
theorem d_PL_sizeOf_18 : decode b_PL_sizeOf 18 = .ok (.isub, 1) := by decide +kernel
theorem d_PL_sizeOf_19 : decode b_PL_sizeOf 19 = .ok (.goto 4, 3) := by decide +kernel
theorem d_PL_sizeOf_22 : decode b_PL_sizeOf 22 = .ok (.iload_n 2, 1) := by decide +kernel
theorem d_PL_sizeOf_23 : decode b_PL_sizeOf 23 = .ok (.aaload, 1) := by decide +kernel
theorem d_PL_sizeOf_24 : decode b_PL_sizeOf 24 = .ok (.iload_n 1, 1) := by decide +kernel
theorem d_PL_sizeOf_25 : decode b_PL_sizeOf 25 = .ok (.iaload, 1) := by decide +kernel
theorem d_PL_sizeOf_26 : decode b_PL_sizeOf 26 = .ok (.ireturn, 1) := by decide +kernel
theorem d_PL_blockCount_0 : decode b_PL_blockCount 0 = .ok (.aload_n 0, 1) := by decide +kernel
theorem d_PL_blockCount_1 : decode b_PL_blockCount 1 = .ok (.getfield 9, 3) := by decide +kernel
theorem d_PL_blockCount_4 : decode b_PL_blockCount 4 = .ok (.getfield 91, 3) := by decide +kernel
theorem d_PL_blockCount_7 : decode b_PL_blockCount 7 = .ok (.ireturn, 1) := by decide +kernel
theorem d_PL_area_0 : decode b_PL_area 0 = .ok (.aload_n 0, 1) := by decide +kernel
theorem d_PL_area_1 : decode b_PL_area 1 = .ok (.getfield 37, 3) := by decide +kernel
theorem d_PL_area_4 : decode b_PL_area 4 = .ok (.iconst 0, 1) := by decide +kernel
theorem d_PL_area_5 : decode b_PL_area 5 = .ok (.iaload, 1) := by decide +kernel
theorem d_PL_area_6 : decode b_PL_area 6 = .ok (.i2l, 1) := by decide +kernel
theorem d_PL_area_7 : decode b_PL_area 7 = .ok (.aload_n 0, 1) := by decide +kernel
theorem d_PL_area_8 : decode b_PL_area 8 = .ok (.getfield 37, 3) := by decide +kernel
theorem d_PL_area_11 : decode b_PL_area 11 = .ok (.iconst 1, 1) := by decide +kernel
theorem d_PL_area_12 : decode b_PL_area 12 = .ok (.iaload, 1) := by decide +kernel
theorem d_PL_area_13 : decode b_PL_area 13 = .ok (.i2l, 1) := by decide +kernel
theorem d_PL_area_14 : decode b_PL_area 14 = .ok (.lmul, 1) := by decide +kernel
theorem d_PL_area_15 : decode b_PL_area 15 = .ok (.lreturn, 1) := by decide +kernel
theorem d_PL_middleOf_0 : decode b_PL_middleOf 0 = .ok (.aload_n 0, 1) := by decide +kernel
theorem d_PL_middleOf_1 : decode b_PL_middleOf 1 = .ok (.getfield 31, 3) := by decide +kernel
theorem d_PL_middleOf_4 : decode b_PL_middleOf 4 = .ok (.iload_n 2, 1) := by decide +kernel
theorem d_PL_middleOf_5 : decode b_PL_middleOf 5 = .ok (.aaload, 1) := by decide +kernel
theorem d_PL_middleOf_6 : decode b_PL_middleOf 6 = .ok (.iload_n 1, 1) := by decide +kernel
theorem d_PL_middleOf_7 : decode b_PL_middleOf 7 = .ok (.iaload, 1) := by decide +kernel
theorem d_PL_middleOf_8 : decode b_PL_middleOf 8 = .ok (.aload_n 0, 1) := by decide +kernel
theorem d_PL_middleOf_9 : decode b_PL_middleOf 9 = .ok (.getfield 34, 3) := by decide +kernel
theorem d_PL_middleOf_12 : decode b_PL_middleOf 12 = .ok (.iload_n 2, 1) := by decide +kernel
theorem d_PL_middleOf_13 : decode b_PL_middleOf 13 = .ok (.aaload, 1) := by decide +kernel
theorem d_PL_middleOf_14 : decode b_PL_middleOf 14 = .ok (.iload_n 1, 1) := by decide +kernel
theorem d_PL_middleOf_15 : decode b_PL_middleOf 15 = .ok (.iaload, 1) := by decide +kernel
theorem d_PL_middleOf_16 : decode b_PL_middleOf 16 = .ok (.iadd, 1) := by decide +kernel
theorem d_PL_middleOf_17 : decode b_PL_middleOf 17 = .ok (.ireturn, 1) := by decide +kernel
theorem d_PL_turnIfAllowed_0 : decode b_PL_turnIfAllowed 0 = .ok (.aload_n 0, 1) := by decide +kernel
theorem d_PL_turnIfAllowed_1 : decode b_PL_turnIfAllowed 1 = .ok (.getfield 9, 3) := by decide +kernel
theorem d_PL_turnIfAllowed_4 : decode b_PL_turnIfAllowed 4 = .ok (.getfield 72, 3) := by decide +kernel
theorem d_PL_turnIfAllowed_7 : decode b_PL_turnIfAllowed 7 = .ok (.iload_n 1, 1) := by decide +kernel
theorem d_PL_turnIfAllowed_8 : decode b_PL_turnIfAllowed 8 = .ok (.baload, 1) := by decide +kernel
theorem d_PL_turnIfAllowed_9 : decode b_PL_turnIfAllowed 9 = .ok (.ifCond .eq 35, 3) := by decide +kernel
theorem d_PL_turnIfAllowed_12 : decode b_PL_turnIfAllowed 12 = .ok (.aload_n 0, 1) := by decide +kernel
theorem d_PL_turnIfAllowed_13 : decode b_PL_turnIfAllowed 13 = .ok (.getfield 9, 3) := by decide +kernel
theorem d_PL_turnIfAllowed_16 : decode b_PL_turnIfAllowed 16 = .ok (.getfield 77, 3) := by decide +kernel
theorem d_PL_turnIfAllowed_19 : decode b_PL_turnIfAllowed 19 = .ok (.iload_n 1, 1) := by decide +kernel
theorem d_PL_turnIfAllowed_20 : decode b_PL_turnIfAllowed 20 = .ok (.baload, 1) := by decide +kernel
theorem d_PL_turnIfAllowed_21 : decode b_PL_turnIfAllowed 21 = .ok (.ifCond .ne 23, 3) := by decide +kernel
theorem d_PL_turnIfAllowed_24 : decode b_PL_turnIfAllowed 24 = .ok (.aload_n 0, 1) := by decide +kernel
theorem d_PL_turnIfAllowed_25 : decode b_PL_turnIfAllowed 25 = .ok (.getfield 25, 3) := by decide +kernel
theorem d_PL_turnIfAllowed_28 : decode b_PL_turnIfAllowed 28 = .ok (.iload_n 1, 1) := by decide +kernel
theorem d_PL_turnIfAllowed_29 : decode b_PL_turnIfAllowed 29 = .ok (.aload_n 0, 1) := by decide +kernel
theorem d_PL_turnIfAllowed_30 : decode b_PL_turnIfAllowed 30 = .ok (.getfield 25, 3) := by decide +kernel
theorem d_PL_turnIfAllowed_33 : decode b_PL_turnIfAllowed 33 = .ok (.iload_n 1, 1) := by decide +kernel
theorem d_PL_turnIfAllowed_34 : decode b_PL_turnIfAllowed 34 = .ok (.baload, 1) := by decide +kernel
theorem d_PL_turnIfAllowed_35 : decode b_PL_turnIfAllowed 35 = .ok (.ifCond .ne 7, 3) := by decide +kernel
theorem d_PL_turnIfAllowed_38 : decode b_PL_turnIfAllowed 38 = .ok (.iconst 1, 1) := by decide +kernel
theorem d_PL_turnIfAllowed_39 : decode b_PL_turnIfAllowed 39 = .ok (.goto 4, 3) := by decide +kernel
theorem d_PL_turnIfAllowed_42 : decode b_PL_turnIfAllowed 42 = .ok (.iconst 0, 1) := by decide +kernel
theorem d_PL_turnIfAllowed_43 : decode b_PL_turnIfAllowed 43 = .ok (.bastore, 1) := by decide +kernel
theorem d_PL_turnIfAllowed_44 : decode b_PL_turnIfAllowed 44 = .ok (.return_, 1) := by decide +kernel
set_option maxHeartbeats 4000000 in
set_option maxRecDepth 100000 in
/-- Blocks.append -/
theorem c_BL_append (l : Launch) (D : va_G) (sz : Nat) (bl so s0 s1 to t0 t1 mt fx : Nat) (cA cZ c2 : ClassId) (cnt : Nat) (Z0 Z1 T0 T1 : Nat → Nat) (may fixd : Nat → Bool) (wd hg : Nat) (tn : Bool) (h1 : cnt < 16) : Met l y_BL_append (wsA y_BL_append b_BL_append 4 (some .int)) ({ frames := 0, cells := 0, slots := 0, locals := 0 } : Room) (zP D [(cA, .int), (cZ, .boolean), (c2, .array .int)] [(bl, .inr (1, [.ref so, .ref to, .ref mt, .ref fx, .int (nI cnt)])), (so, .inl (c2, 2, .inr (.inr (.inr (.inr (pr2 s0 s1)))))), (s0, .inl (cA, 16, .inl (fun k => nI (Z0 k)))), (s1, .inl (cA, 16, .inl (fun k => nI (Z1 k)))), (to, .inl (c2, 2, .inr (.inr (.inr (.inr (pr2 t0 t1)))))), (t0, .inl (cA, 16, .inl (fun k => nI (T0 k)))), (t1, .inl (cA, 16, .inl (fun k => nI (T1 k)))), (mt, .inl (cZ, 16, .inl (fun k => zb (may k)))), (fx, .inl (cZ, 16, .inl (fun k => zb (fixd k))))] [.ref bl, .int (nI wd), .int (nI hg), .int (zb tn)] sz) (zQ (some (.int (nI cnt))) (zB D [(cA, .int), (cZ, .boolean), (c2, .array .int)] (va_A [(bl, .inr (1, [.ref so, .ref to, .ref mt, .ref fx, .int (nI cnt)])), (so, .inl (c2, 2, .inr (.inr (.inr (.inr (pr2 s0 s1)))))), (s0, .inl (cA, 16, .inl (fun k => nI (Z0 k)))), (s1, .inl (cA, 16, .inl (fun k => nI (Z1 k)))), (to, .inl (c2, 2, .inr (.inr (.inr (.inr (pr2 t0 t1)))))), (t0, .inl (cA, 16, .inl (fun k => nI (T0 k)))), (t1, .inl (cA, 16, .inl (fun k => nI (T1 k)))), (mt, .inl (cZ, 16, .inl (fun k => zb (may k)))), (fx, .inl (cZ, 16, .inl (fun k => zb (fixd k))))] sz) [(bl, .inr (1, [.ref so, .ref to, .ref mt, .ref fx, .int (nI (cnt + 1))])), (so, .inl (c2, 2, .inr (.inr (.inr (.inr (pr2 s0 s1)))))), (s0, .inl (cA, 16, .inl (fun k => nI ((va_up Z0 cnt wd) k)))), (s1, .inl (cA, 16, .inl (fun k => nI ((va_up Z1 cnt hg) k)))), (to, .inl (c2, 2, .inr (.inr (.inr (.inr (pr2 t0 t1)))))), (t0, .inl (cA, 16, .inl (fun k => nI (T0 k)))), (t1, .inl (cA, 16, .inl (fun k => nI (T1 k)))), (mt, .inl (cZ, 16, .inl (fun k => zb ((va_up may cnt tn) k)))), (fx, .inl (cZ, 16, .inl (fun k => zb (fixd k))))]) (va_A [(bl, .inr (1, [.ref so, .ref to, .ref mt, .ref fx, .int (nI cnt)])), (so, .inl (c2, 2, .inr (.inr (.inr (.inr (pr2 s0 s1)))))), (s0, .inl (cA, 16, .inl (fun k => nI (Z0 k)))), (s1, .inl (cA, 16, .inl (fun k => nI (Z1 k)))), (to, .inl (c2, 2, .inr (.inr (.inr (.inr (pr2 t0 t1)))))), (t0, .inl (cA, 16, .inl (fun k => nI (T0 k)))), (t1, .inl (cA, 16, .inl (fun k => nI (T1 k)))), (mt, .inl (cZ, 16, .inl (fun k => zb (may k)))), (fx, .inl (cZ, 16, .inl (fun k => zb (fixd k))))] sz)) 0 0 (va_A [(bl, .inr (1, [.ref so, .ref to, .ref mt, .ref fx, .int (nI cnt)])), (so, .inl (c2, 2, .inr (.inr (.inr (.inr (pr2 s0 s1)))))), (s0, .inl (cA, 16, .inl (fun k => nI (Z0 k)))), (s1, .inl (cA, 16, .inl (fun k => nI (Z1 k)))), (to, .inl (c2, 2, .inr (.inr (.inr (.inr (pr2 t0 t1)))))), (t0, .inl (cA, 16, .inl (fun k => nI (T0 k)))), (t1, .inl (cA, 16, .inl (fun k => nI (T1 k)))), (mt, .inl (cZ, 16, .inl (fun k => zb (may k)))), (fx, .inl (cZ, 16, .inl (fun k => zb (fixd k))))] sz) := by
  refine Met.ofW (cc := b_BL_append) (maxL := 4) (ret := (some .int)) (by decide) rfl ?_
  intro p e s m args below meth c s₁ B hml hv
  obtain ⟨rfl, hsz, hP, hK, hD0⟩ := hv
  have hx := B.exec
  have hb := B.bytes
  have hr := B.returns
  have hts : ∀ w ∈ lw_g, w.before _ s = true := fun w h => atoms_spec (ws := wsA y_BL_append b_BL_append 4 (some .int)) B.pre w (List.mem_cons_of_mem _ h)
  have hown : s.vm.findClass R_BL = some m.cls := findClass_of_methodNamed B.named
  have hlocks := B.notSynchronized
  obtain ⟨hD, hA, hS⟩ := z_start hsz hD0
  generalize va_A [(bl, .inr (1, [.ref so, .ref to, .ref mt, .ref fx, .int (nI cnt)])), (so, .inl (c2, 2, .inr (.inr (.inr (.inr (pr2 s0 s1)))))), (s0, .inl (cA, 16, .inl (fun k => nI (Z0 k)))), (s1, .inl (cA, 16, .inl (fun k => nI (Z1 k)))), (to, .inl (c2, 2, .inr (.inr (.inr (.inr (pr2 t0 t1)))))), (t0, .inl (cA, 16, .inl (fun k => nI (T0 k)))), (t1, .inl (cA, 16, .inl (fun k => nI (T1 k)))), (mt, .inl (cZ, 16, .inl (fun k => zb (may k)))), (fx, .inl (cZ, 16, .inl (fun k => zb (fixd k))))] sz = A at hD hA hS ⊢
  have hl := lv_entry ([.ref bl, .int (nI wd), .int (nI hg), .int (zb tn)]) (n := 4) (Nat.le_of_ble_eq_true rfl)
  rw [lg_entry_eq]
  generalize (lg_sl ([.ref bl, .int (nI wd), .int (nI hg), .int (zb tn)]) ++ List.replicate (4 - (lg_sl ([.ref bl, .int (nI wd), .int (nI hg), .int (zb tn)])).length) Slot.unset).toArray = ls at hl ⊢
  have hl : lv_has ls 4 [(0, .ref bl), (1, .int (nI wd)), (2, .int (nI hg)), (3, .int (zb tn))] := hl
  have hP : va_P D classes [(bl, .inr (1, [.ref so, .ref to, .ref mt, .ref fx, .int (nI cnt)])), (so, .inl (c2, 2, .inr (.inr (.inr (.inr (pr2 s0 s1)))))), (s0, .inl (cA, 16, .inl (fun k => nI (Z0 k)))), (s1, .inl (cA, 16, .inl (fun k => nI (Z1 k)))), (to, .inl (c2, 2, .inr (.inr (.inr (.inr (pr2 t0 t1)))))), (t0, .inl (cA, 16, .inl (fun k => nI (T0 k)))), (t1, .inl (cA, 16, .inl (fun k => nI (T1 k)))), (mt, .inl (cZ, 16, .inl (fun k => zb (may k)))), (fx, .inl (cZ, 16, .inl (fun k => zb (fixd k))))] s.heap := hP
  refine lv_aload_n hx hb d_BL_append_0 rfl (lv_at hl 0 rfl) ?_
  refine va_get (D := D) (ci := 1) (v := .ref so) (C := R_BL) (T := F_BL) (N := 5) hx hb hts i_BL hown hK hP 0 rfl rfl 0 (by decide) (hts _ kf_BL_11) (fun _ h9 => h9) rfl d_BL_append_1 ?_
  refine lv_iconst (v := nI 0) hx hb d_BL_append_4 (by decide) ?_
  refine z_a2ld (j := 0) (r := s0) hx hb hK hP 1 2 rfl rfl (by omega) (by decide) rfl d_BL_append_5 ?_
  refine lv_aload_n hx hb d_BL_append_6 rfl (lv_at hl 0 rfl) ?_
  refine va_get (D := D) (ci := 1) (v := .int (nI cnt)) (C := R_BL) (T := F_BL) (N := 5) hx hb hts i_BL hown hK hP 0 rfl rfl 4 (by decide) (hts _ kf_BL_26) (fun _ h9 => h9) rfl d_BL_append_7 ?_
  refine lv_iload_n hx hb d_BL_append_10 rfl (lv_at hl 1 rfl) ?_
  refine z_ist (j := cnt) (v := wd) hx hb hK hP hD hS 2 0 rfl rfl (by omega) (by decide) d_BL_append_11 (fun H locs hP hD hS => ?_)
  have hP : va_P D classes [(bl, .inr (1, [.ref so, .ref to, .ref mt, .ref fx, .int (nI cnt)])), (so, .inl (c2, 2, .inr (.inr (.inr (.inr (pr2 s0 s1)))))), (s0, .inl (cA, 16, .inl (fun k => nI ((va_up Z0 cnt wd) k)))), (s1, .inl (cA, 16, .inl (fun k => nI (Z1 k)))), (to, .inl (c2, 2, .inr (.inr (.inr (.inr (pr2 t0 t1)))))), (t0, .inl (cA, 16, .inl (fun k => nI (T0 k)))), (t1, .inl (cA, 16, .inl (fun k => nI (T1 k)))), (mt, .inl (cZ, 16, .inl (fun k => zb (may k)))), (fx, .inl (cZ, 16, .inl (fun k => zb (fixd k))))] H := hP
  have hD : va_D A [(bl, .inr (1, [.ref so, .ref to, .ref mt, .ref fx, .int (nI cnt)])), (so, .inl (c2, 2, .inr (.inr (.inr (.inr (pr2 s0 s1)))))), (s0, .inl (cA, 16, .inl (fun k => nI ((va_up Z0 cnt wd) k)))), (s1, .inl (cA, 16, .inl (fun k => nI (Z1 k)))), (to, .inl (c2, 2, .inr (.inr (.inr (.inr (pr2 t0 t1)))))), (t0, .inl (cA, 16, .inl (fun k => nI (T0 k)))), (t1, .inl (cA, 16, .inl (fun k => nI (T1 k)))), (mt, .inl (cZ, 16, .inl (fun k => zb (may k)))), (fx, .inl (cZ, 16, .inl (fun k => zb (fixd k))))] := hD
  refine lv_aload_n hx hb d_BL_append_12 rfl (lv_at hl 0 rfl) ?_
  refine va_get (D := D) (ci := 1) (v := .ref so) (C := R_BL) (T := F_BL) (N := 5) hx hb hts i_BL hown hK hP 0 rfl rfl 0 (by decide) (hts _ kf_BL_11) (fun _ h9 => h9) rfl d_BL_append_13 ?_
  refine lv_iconst (v := nI 1) hx hb d_BL_append_16 (by decide) ?_
  refine z_a2ld (j := 1) (r := s1) hx hb hK hP 1 2 rfl rfl (by omega) (by decide) rfl d_BL_append_17 ?_
  refine lv_aload_n hx hb d_BL_append_18 rfl (lv_at hl 0 rfl) ?_
  refine va_get (D := D) (ci := 1) (v := .int (nI cnt)) (C := R_BL) (T := F_BL) (N := 5) hx hb hts i_BL hown hK hP 0 rfl rfl 4 (by decide) (hts _ kf_BL_26) (fun _ h9 => h9) rfl d_BL_append_19 ?_
  refine lv_iload_n hx hb d_BL_append_22 rfl (lv_at hl 2 rfl) ?_
  refine z_ist (j := cnt) (v := hg) hx hb hK hP hD hS 3 0 rfl rfl (by omega) (by decide) d_BL_append_23 (fun H locs hP hD hS => ?_)
  have hP : va_P D classes [(bl, .inr (1, [.ref so, .ref to, .ref mt, .ref fx, .int (nI cnt)])), (so, .inl (c2, 2, .inr (.inr (.inr (.inr (pr2 s0 s1)))))), (s0, .inl (cA, 16, .inl (fun k => nI ((va_up Z0 cnt wd) k)))), (s1, .inl (cA, 16, .inl (fun k => nI ((va_up Z1 cnt hg) k)))), (to, .inl (c2, 2, .inr (.inr (.inr (.inr (pr2 t0 t1)))))), (t0, .inl (cA, 16, .inl (fun k => nI (T0 k)))), (t1, .inl (cA, 16, .inl (fun k => nI (T1 k)))), (mt, .inl (cZ, 16, .inl (fun k => zb (may k)))), (fx, .inl (cZ, 16, .inl (fun k => zb (fixd k))))] H := hP
  have hD : va_D A [(bl, .inr (1, [.ref so, .ref to, .ref mt, .ref fx, .int (nI cnt)])), (so, .inl (c2, 2, .inr (.inr (.inr (.inr (pr2 s0 s1)))))), (s0, .inl (cA, 16, .inl (fun k => nI ((va_up Z0 cnt wd) k)))), (s1, .inl (cA, 16, .inl (fun k => nI ((va_up Z1 cnt hg) k)))), (to, .inl (c2, 2, .inr (.inr (.inr (.inr (pr2 t0 t1)))))), (t0, .inl (cA, 16, .inl (fun k => nI (T0 k)))), (t1, .inl (cA, 16, .inl (fun k => nI (T1 k)))), (mt, .inl (cZ, 16, .inl (fun k => zb (may k)))), (fx, .inl (cZ, 16, .inl (fun k => zb (fixd k))))] := hD
  refine lv_aload_n hx hb d_BL_append_24 rfl (lv_at hl 0 rfl) ?_
  refine va_get (D := D) (ci := 1) (v := .ref mt) (C := R_BL) (T := F_BL) (N := 5) hx hb hts i_BL hown hK hP 0 rfl rfl 2 (by decide) (hts _ kf_BL_19) (fun _ h9 => h9) rfl d_BL_append_25 ?_
  refine lv_aload_n hx hb d_BL_append_28 rfl (lv_at hl 0 rfl) ?_
  refine va_get (D := D) (ci := 1) (v := .int (nI cnt)) (C := R_BL) (T := F_BL) (N := 5) hx hb hts i_BL hown hK hP 0 rfl rfl 4 (by decide) (hts _ kf_BL_26) (fun _ h9 => h9) rfl d_BL_append_29 ?_
  refine lv_iload_n hx hb d_BL_append_32 rfl (lv_at hl 3 rfl) ?_
  refine z_zst (j := cnt) (v := tn) hx hb hK hP hD hS 7 1 rfl rfl (by omega) (by decide) d_BL_append_33 (fun H locs hP hD hS => ?_)
  have hP : va_P D classes [(bl, .inr (1, [.ref so, .ref to, .ref mt, .ref fx, .int (nI cnt)])), (so, .inl (c2, 2, .inr (.inr (.inr (.inr (pr2 s0 s1)))))), (s0, .inl (cA, 16, .inl (fun k => nI ((va_up Z0 cnt wd) k)))), (s1, .inl (cA, 16, .inl (fun k => nI ((va_up Z1 cnt hg) k)))), (to, .inl (c2, 2, .inr (.inr (.inr (.inr (pr2 t0 t1)))))), (t0, .inl (cA, 16, .inl (fun k => nI (T0 k)))), (t1, .inl (cA, 16, .inl (fun k => nI (T1 k)))), (mt, .inl (cZ, 16, .inl (fun k => zb ((va_up may cnt tn) k)))), (fx, .inl (cZ, 16, .inl (fun k => zb (fixd k))))] H := hP
  have hD : va_D A [(bl, .inr (1, [.ref so, .ref to, .ref mt, .ref fx, .int (nI cnt)])), (so, .inl (c2, 2, .inr (.inr (.inr (.inr (pr2 s0 s1)))))), (s0, .inl (cA, 16, .inl (fun k => nI ((va_up Z0 cnt wd) k)))), (s1, .inl (cA, 16, .inl (fun k => nI ((va_up Z1 cnt hg) k)))), (to, .inl (c2, 2, .inr (.inr (.inr (.inr (pr2 t0 t1)))))), (t0, .inl (cA, 16, .inl (fun k => nI (T0 k)))), (t1, .inl (cA, 16, .inl (fun k => nI (T1 k)))), (mt, .inl (cZ, 16, .inl (fun k => zb ((va_up may cnt tn) k)))), (fx, .inl (cZ, 16, .inl (fun k => zb (fixd k))))] := hD
  refine lv_aload_n hx hb d_BL_append_34 rfl (lv_at hl 0 rfl) ?_
  refine lv_dup hx hb d_BL_append_35 rfl ?_
  refine va_get (D := D) (ci := 1) (v := .int (nI cnt)) (C := R_BL) (T := F_BL) (N := 5) hx hb hts i_BL hown hK hP 0 rfl rfl 4 (by decide) (hts _ kf_BL_26) (fun _ h9 => h9) rfl d_BL_append_36 ?_
  refine lv_dup_x1 hx hb d_BL_append_39 rfl rfl ?_
  refine lv_iconst (v := nI 1) hx hb d_BL_append_40 (by decide) ?_
  refine z_add hx hb d_BL_append_41 ?_
  refine va_put (D := D) (ci := 1) (v := .int (nI (cnt + 1))) (ty := .int) (C := R_BL) (T := F_BL) (N := 5) hx hb hts i_BL t_BL to_BL n_BL hown hK hP hD hS 0 rfl rfl 4 (by decide) (hts _ kf_BL_26) (fun _ h9 => h9) rfl (by decide +kernel) rfl rfl (Nat.le_of_ble_eq_true rfl) d_BL_append_42 (fun H locs hP hD hS => ?_)
  have hP : va_P D classes [(bl, .inr (1, [.ref so, .ref to, .ref mt, .ref fx, .int (nI (cnt + 1))])), (so, .inl (c2, 2, .inr (.inr (.inr (.inr (pr2 s0 s1)))))), (s0, .inl (cA, 16, .inl (fun k => nI ((va_up Z0 cnt wd) k)))), (s1, .inl (cA, 16, .inl (fun k => nI ((va_up Z1 cnt hg) k)))), (to, .inl (c2, 2, .inr (.inr (.inr (.inr (pr2 t0 t1)))))), (t0, .inl (cA, 16, .inl (fun k => nI (T0 k)))), (t1, .inl (cA, 16, .inl (fun k => nI (T1 k)))), (mt, .inl (cZ, 16, .inl (fun k => zb ((va_up may cnt tn) k)))), (fx, .inl (cZ, 16, .inl (fun k => zb (fixd k))))] H := hP
  have hD : va_D A [(bl, .inr (1, [.ref so, .ref to, .ref mt, .ref fx, .int (nI (cnt + 1))])), (so, .inl (c2, 2, .inr (.inr (.inr (.inr (pr2 s0 s1)))))), (s0, .inl (cA, 16, .inl (fun k => nI ((va_up Z0 cnt wd) k)))), (s1, .inl (cA, 16, .inl (fun k => nI ((va_up Z1 cnt hg) k)))), (to, .inl (c2, 2, .inr (.inr (.inr (.inr (pr2 t0 t1)))))), (t0, .inl (cA, 16, .inl (fun k => nI (T0 k)))), (t1, .inl (cA, 16, .inl (fun k => nI (T1 k)))), (mt, .inl (cZ, 16, .inl (fun k => zb ((va_up may cnt tn) k)))), (fx, .inl (cZ, 16, .inl (fun k => zb (fixd k))))] := hD
  exact W.iret hx hb hr (fun t ht hW => ⟨rfl, ⟨by rw [ht]; exact hP, va_K.moved hW.alike hK, hD⟩, hS.F ht⟩) hS.2.2 d_BL_append_45
set_option maxHeartbeats 4000000 in
set_option maxRecDepth 100000 in
/-- Blocks.tell -/
theorem c_BL_tell (l : Launch) (D : va_G) (sz : Nat) (bl so s0 s1 to t0 t1 mt fx : Nat) (cA cZ c2 : ClassId) (cnt : Nat) (Z0 Z1 T0 T1 : Nat → Nat) (may fixd : Nat → Bool) (bk xx yy : Nat) (fi : Bool) (h1 : bk < 16) : Met l y_BL_tell (wsA y_BL_tell b_BL_tell 5 none) ({ frames := 0, cells := 0, slots := 0, locals := 0 } : Room) (zP D [(cA, .int), (cZ, .boolean), (c2, .array .int)] [(bl, .inr (1, [.ref so, .ref to, .ref mt, .ref fx, .int (nI cnt)])), (so, .inl (c2, 2, .inr (.inr (.inr (.inr (pr2 s0 s1)))))), (s0, .inl (cA, 16, .inl (fun k => nI (Z0 k)))), (s1, .inl (cA, 16, .inl (fun k => nI (Z1 k)))), (to, .inl (c2, 2, .inr (.inr (.inr (.inr (pr2 t0 t1)))))), (t0, .inl (cA, 16, .inl (fun k => nI (T0 k)))), (t1, .inl (cA, 16, .inl (fun k => nI (T1 k)))), (mt, .inl (cZ, 16, .inl (fun k => zb (may k)))), (fx, .inl (cZ, 16, .inl (fun k => zb (fixd k))))] [.ref bl, .int (nI bk), .int (zb fi), .int (nI xx), .int (nI yy)] sz) (zQ none (zB D [(cA, .int), (cZ, .boolean), (c2, .array .int)] (va_A [(bl, .inr (1, [.ref so, .ref to, .ref mt, .ref fx, .int (nI cnt)])), (so, .inl (c2, 2, .inr (.inr (.inr (.inr (pr2 s0 s1)))))), (s0, .inl (cA, 16, .inl (fun k => nI (Z0 k)))), (s1, .inl (cA, 16, .inl (fun k => nI (Z1 k)))), (to, .inl (c2, 2, .inr (.inr (.inr (.inr (pr2 t0 t1)))))), (t0, .inl (cA, 16, .inl (fun k => nI (T0 k)))), (t1, .inl (cA, 16, .inl (fun k => nI (T1 k)))), (mt, .inl (cZ, 16, .inl (fun k => zb (may k)))), (fx, .inl (cZ, 16, .inl (fun k => zb (fixd k))))] sz) [(bl, .inr (1, [.ref so, .ref to, .ref mt, .ref fx, .int (nI cnt)])), (so, .inl (c2, 2, .inr (.inr (.inr (.inr (pr2 s0 s1)))))), (s0, .inl (cA, 16, .inl (fun k => nI (Z0 k)))), (s1, .inl (cA, 16, .inl (fun k => nI (Z1 k)))), (to, .inl (c2, 2, .inr (.inr (.inr (.inr (pr2 t0 t1)))))), (t0, .inl (cA, 16, .inl (fun k => nI ((va_up T0 bk xx) k)))), (t1, .inl (cA, 16, .inl (fun k => nI ((va_up T1 bk yy) k)))), (mt, .inl (cZ, 16, .inl (fun k => zb (may k)))), (fx, .inl (cZ, 16, .inl (fun k => zb ((va_up fixd bk fi) k))))]) (va_A [(bl, .inr (1, [.ref so, .ref to, .ref mt, .ref fx, .int (nI cnt)])), (so, .inl (c2, 2, .inr (.inr (.inr (.inr (pr2 s0 s1)))))), (s0, .inl (cA, 16, .inl (fun k => nI (Z0 k)))), (s1, .inl (cA, 16, .inl (fun k => nI (Z1 k)))), (to, .inl (c2, 2, .inr (.inr (.inr (.inr (pr2 t0 t1)))))), (t0, .inl (cA, 16, .inl (fun k => nI (T0 k)))), (t1, .inl (cA, 16, .inl (fun k => nI (T1 k)))), (mt, .inl (cZ, 16, .inl (fun k => zb (may k)))), (fx, .inl (cZ, 16, .inl (fun k => zb (fixd k))))] sz)) 0 0 (va_A [(bl, .inr (1, [.ref so, .ref to, .ref mt, .ref fx, .int (nI cnt)])), (so, .inl (c2, 2, .inr (.inr (.inr (.inr (pr2 s0 s1)))))), (s0, .inl (cA, 16, .inl (fun k => nI (Z0 k)))), (s1, .inl (cA, 16, .inl (fun k => nI (Z1 k)))), (to, .inl (c2, 2, .inr (.inr (.inr (.inr (pr2 t0 t1)))))), (t0, .inl (cA, 16, .inl (fun k => nI (T0 k)))), (t1, .inl (cA, 16, .inl (fun k => nI (T1 k)))), (mt, .inl (cZ, 16, .inl (fun k => zb (may k)))), (fx, .inl (cZ, 16, .inl (fun k => zb (fixd k))))] sz) := by
  refine Met.ofW (cc := b_BL_tell) (maxL := 5) (ret := none) (by decide) rfl ?_
  intro p e s m args below meth c s₁ B hml hv
  obtain ⟨rfl, hsz, hP, hK, hD0⟩ := hv
  have hx := B.exec
  have hb := B.bytes
  have hr := B.returns
  have hts : ∀ w ∈ lw_g, w.before _ s = true := fun w h => atoms_spec (ws := wsA y_BL_tell b_BL_tell 5 none) B.pre w (List.mem_cons_of_mem _ h)
  have hown : s.vm.findClass R_BL = some m.cls := findClass_of_methodNamed B.named
  have hlocks := B.notSynchronized
  obtain ⟨hD, hA, hS⟩ := z_start hsz hD0
  generalize va_A [(bl, .inr (1, [.ref so, .ref to, .ref mt, .ref fx, .int (nI cnt)])), (so, .inl (c2, 2, .inr (.inr (.inr (.inr (pr2 s0 s1)))))), (s0, .inl (cA, 16, .inl (fun k => nI (Z0 k)))), (s1, .inl (cA, 16, .inl (fun k => nI (Z1 k)))), (to, .inl (c2, 2, .inr (.inr (.inr (.inr (pr2 t0 t1)))))), (t0, .inl (cA, 16, .inl (fun k => nI (T0 k)))), (t1, .inl (cA, 16, .inl (fun k => nI (T1 k)))), (mt, .inl (cZ, 16, .inl (fun k => zb (may k)))), (fx, .inl (cZ, 16, .inl (fun k => zb (fixd k))))] sz = A at hD hA hS ⊢
  have hl := lv_entry ([.ref bl, .int (nI bk), .int (zb fi), .int (nI xx), .int (nI yy)]) (n := 5) (Nat.le_of_ble_eq_true rfl)
  rw [lg_entry_eq]
  generalize (lg_sl ([.ref bl, .int (nI bk), .int (zb fi), .int (nI xx), .int (nI yy)]) ++ List.replicate (5 - (lg_sl ([.ref bl, .int (nI bk), .int (zb fi), .int (nI xx), .int (nI yy)])).length) Slot.unset).toArray = ls at hl ⊢
  have hl : lv_has ls 5 [(0, .ref bl), (1, .int (nI bk)), (2, .int (zb fi)), (3, .int (nI xx)), (4, .int (nI yy))] := hl
  have hP : va_P D classes [(bl, .inr (1, [.ref so, .ref to, .ref mt, .ref fx, .int (nI cnt)])), (so, .inl (c2, 2, .inr (.inr (.inr (.inr (pr2 s0 s1)))))), (s0, .inl (cA, 16, .inl (fun k => nI (Z0 k)))), (s1, .inl (cA, 16, .inl (fun k => nI (Z1 k)))), (to, .inl (c2, 2, .inr (.inr (.inr (.inr (pr2 t0 t1)))))), (t0, .inl (cA, 16, .inl (fun k => nI (T0 k)))), (t1, .inl (cA, 16, .inl (fun k => nI (T1 k)))), (mt, .inl (cZ, 16, .inl (fun k => zb (may k)))), (fx, .inl (cZ, 16, .inl (fun k => zb (fixd k))))] s.heap := hP
  refine lv_aload_n hx hb d_BL_tell_0 rfl (lv_at hl 0 rfl) ?_
  refine va_get (D := D) (ci := 1) (v := .ref fx) (C := R_BL) (T := F_BL) (N := 5) hx hb hts i_BL hown hK hP 0 rfl rfl 3 (by decide) (hts _ kf_BL_23) (fun _ h9 => h9) rfl d_BL_tell_1 ?_
  refine lv_iload_n hx hb d_BL_tell_4 rfl (lv_at hl 1 rfl) ?_
  refine lv_iload_n hx hb d_BL_tell_5 rfl (lv_at hl 2 rfl) ?_
  refine z_zst (j := bk) (v := fi) hx hb hK hP hD hS 8 1 rfl rfl (by omega) (by decide) d_BL_tell_6 (fun H locs hP hD hS => ?_)
  have hP : va_P D classes [(bl, .inr (1, [.ref so, .ref to, .ref mt, .ref fx, .int (nI cnt)])), (so, .inl (c2, 2, .inr (.inr (.inr (.inr (pr2 s0 s1)))))), (s0, .inl (cA, 16, .inl (fun k => nI (Z0 k)))), (s1, .inl (cA, 16, .inl (fun k => nI (Z1 k)))), (to, .inl (c2, 2, .inr (.inr (.inr (.inr (pr2 t0 t1)))))), (t0, .inl (cA, 16, .inl (fun k => nI (T0 k)))), (t1, .inl (cA, 16, .inl (fun k => nI (T1 k)))), (mt, .inl (cZ, 16, .inl (fun k => zb (may k)))), (fx, .inl (cZ, 16, .inl (fun k => zb ((va_up fixd bk fi) k))))] H := hP
  have hD : va_D A [(bl, .inr (1, [.ref so, .ref to, .ref mt, .ref fx, .int (nI cnt)])), (so, .inl (c2, 2, .inr (.inr (.inr (.inr (pr2 s0 s1)))))), (s0, .inl (cA, 16, .inl (fun k => nI (Z0 k)))), (s1, .inl (cA, 16, .inl (fun k => nI (Z1 k)))), (to, .inl (c2, 2, .inr (.inr (.inr (.inr (pr2 t0 t1)))))), (t0, .inl (cA, 16, .inl (fun k => nI (T0 k)))), (t1, .inl (cA, 16, .inl (fun k => nI (T1 k)))), (mt, .inl (cZ, 16, .inl (fun k => zb (may k)))), (fx, .inl (cZ, 16, .inl (fun k => zb ((va_up fixd bk fi) k))))] := hD
  refine lv_aload_n hx hb d_BL_tell_7 rfl (lv_at hl 0 rfl) ?_
  refine va_get (D := D) (ci := 1) (v := .ref to) (C := R_BL) (T := F_BL) (N := 5) hx hb hts i_BL hown hK hP 0 rfl rfl 1 (by decide) (hts _ kf_BL_16) (fun _ h9 => h9) rfl d_BL_tell_8 ?_
  refine lv_iconst (v := nI 0) hx hb d_BL_tell_11 (by decide) ?_
  refine z_a2ld (j := 0) (r := t0) hx hb hK hP 4 2 rfl rfl (by omega) (by decide) rfl d_BL_tell_12 ?_
  refine lv_iload_n hx hb d_BL_tell_13 rfl (lv_at hl 1 rfl) ?_
  refine lv_iload_n hx hb d_BL_tell_14 rfl (lv_at hl 3 rfl) ?_
  refine z_ist (j := bk) (v := xx) hx hb hK hP hD hS 5 0 rfl rfl (by omega) (by decide) d_BL_tell_15 (fun H locs hP hD hS => ?_)
  have hP : va_P D classes [(bl, .inr (1, [.ref so, .ref to, .ref mt, .ref fx, .int (nI cnt)])), (so, .inl (c2, 2, .inr (.inr (.inr (.inr (pr2 s0 s1)))))), (s0, .inl (cA, 16, .inl (fun k => nI (Z0 k)))), (s1, .inl (cA, 16, .inl (fun k => nI (Z1 k)))), (to, .inl (c2, 2, .inr (.inr (.inr (.inr (pr2 t0 t1)))))), (t0, .inl (cA, 16, .inl (fun k => nI ((va_up T0 bk xx) k)))), (t1, .inl (cA, 16, .inl (fun k => nI (T1 k)))), (mt, .inl (cZ, 16, .inl (fun k => zb (may k)))), (fx, .inl (cZ, 16, .inl (fun k => zb ((va_up fixd bk fi) k))))] H := hP
  have hD : va_D A [(bl, .inr (1, [.ref so, .ref to, .ref mt, .ref fx, .int (nI cnt)])), (so, .inl (c2, 2, .inr (.inr (.inr (.inr (pr2 s0 s1)))))), (s0, .inl (cA, 16, .inl (fun k => nI (Z0 k)))), (s1, .inl (cA, 16, .inl (fun k => nI (Z1 k)))), (to, .inl (c2, 2, .inr (.inr (.inr (.inr (pr2 t0 t1)))))), (t0, .inl (cA, 16, .inl (fun k => nI ((va_up T0 bk xx) k)))), (t1, .inl (cA, 16, .inl (fun k => nI (T1 k)))), (mt, .inl (cZ, 16, .inl (fun k => zb (may k)))), (fx, .inl (cZ, 16, .inl (fun k => zb ((va_up fixd bk fi) k))))] := hD
  refine lv_aload_n hx hb d_BL_tell_16 rfl (lv_at hl 0 rfl) ?_
  refine va_get (D := D) (ci := 1) (v := .ref to) (C := R_BL) (T := F_BL) (N := 5) hx hb hts i_BL hown hK hP 0 rfl rfl 1 (by decide) (hts _ kf_BL_16) (fun _ h9 => h9) rfl d_BL_tell_17 ?_
  refine lv_iconst (v := nI 1) hx hb d_BL_tell_20 (by decide) ?_
  refine z_a2ld (j := 1) (r := t1) hx hb hK hP 4 2 rfl rfl (by omega) (by decide) rfl d_BL_tell_21 ?_
  refine lv_iload_n hx hb d_BL_tell_22 rfl (lv_at hl 1 rfl) ?_
  refine lv_iload hx hb d_BL_tell_23 (lv_at hl 4 rfl) ?_
  refine z_ist (j := bk) (v := yy) hx hb hK hP hD hS 6 0 rfl rfl (by omega) (by decide) d_BL_tell_25 (fun H locs hP hD hS => ?_)
  have hP : va_P D classes [(bl, .inr (1, [.ref so, .ref to, .ref mt, .ref fx, .int (nI cnt)])), (so, .inl (c2, 2, .inr (.inr (.inr (.inr (pr2 s0 s1)))))), (s0, .inl (cA, 16, .inl (fun k => nI (Z0 k)))), (s1, .inl (cA, 16, .inl (fun k => nI (Z1 k)))), (to, .inl (c2, 2, .inr (.inr (.inr (.inr (pr2 t0 t1)))))), (t0, .inl (cA, 16, .inl (fun k => nI ((va_up T0 bk xx) k)))), (t1, .inl (cA, 16, .inl (fun k => nI ((va_up T1 bk yy) k)))), (mt, .inl (cZ, 16, .inl (fun k => zb (may k)))), (fx, .inl (cZ, 16, .inl (fun k => zb ((va_up fixd bk fi) k))))] H := hP
  have hD : va_D A [(bl, .inr (1, [.ref so, .ref to, .ref mt, .ref fx, .int (nI cnt)])), (so, .inl (c2, 2, .inr (.inr (.inr (.inr (pr2 s0 s1)))))), (s0, .inl (cA, 16, .inl (fun k => nI (Z0 k)))), (s1, .inl (cA, 16, .inl (fun k => nI (Z1 k)))), (to, .inl (c2, 2, .inr (.inr (.inr (.inr (pr2 t0 t1)))))), (t0, .inl (cA, 16, .inl (fun k => nI ((va_up T0 bk xx) k)))), (t1, .inl (cA, 16, .inl (fun k => nI ((va_up T1 bk yy) k)))), (mt, .inl (cZ, 16, .inl (fun k => zb (may k)))), (fx, .inl (cZ, 16, .inl (fun k => zb ((va_up fixd bk fi) k))))] := hD
  exact W.vret hx hb hr (fun t ht hW => ⟨rfl, ⟨by rw [ht]; exact hP, va_K.moved hW.alike hK, hD⟩, hS.F ht⟩) hS.2.2 d_BL_tell_26
set_option maxHeartbeats 4000000 in
set_option maxRecDepth 100000 in
/-- Plan.sizeOf(block, 0) -/
theorem c_PL_sizeOf_0 (l : Launch) (D : va_G) (pl o1 o2 tu st en ex bl so to mt fx s0 s1 cnt : Nat) (cA cZ c2 : ClassId) (Z0 Z1 : Nat → Nat) (tz : Nat → Bool) (bk : Nat) (h1 : bk < 16) : Met l y_PL_sizeOf (wsA y_PL_sizeOf b_PL_sizeOf 3 (some .int)) ({ frames := 0, cells := 0, slots := 0, locals := 0 } : Room) (zR D [(cA, .int), (cZ, .boolean), (c2, .array .int)] [(pl, .inr (6, [.ref bl, .ref o1, .ref o2, .ref tu, .ref st, .ref en, .ref ex])), (tu, .inl (cZ, 16, .inl (fun k => zb (tz k)))), (bl, .inr (1, [.ref so, .ref to, .ref mt, .ref fx, .int (nI cnt)])), (so, .inl (c2, 2, .inr (.inr (.inr (.inr (pr2 s0 s1)))))), (s0, .inl (cA, 16, .inl (fun k => nI (Z0 k)))), (s1, .inl (cA, 16, .inl (fun k => nI (Z1 k))))] [.ref pl, .int (nI bk), .int (nI 0)]) (k2_QcV (.int (nI (if tz bk = true then Z1 bk else Z0 bk)))) 0 0 (fun _ => False) := by
  refine Met.ofW (cc := b_PL_sizeOf) (maxL := 3) (ret := (some .int)) (by decide) rfl ?_
  intro p e s m args below meth c s₁ B hml hv
  obtain ⟨rfl, hP, hK⟩ := hv
  have hx := B.exec
  have hb := B.bytes
  have hr := B.returns
  have hts : ∀ w ∈ lw_g, w.before _ s = true := fun w h => atoms_spec (ws := wsA y_PL_sizeOf b_PL_sizeOf 3 (some .int)) B.pre w (List.mem_cons_of_mem _ h)
  have hown : s.vm.findClass R_PL = some m.cls := findClass_of_methodNamed B.named
  have hlocks := B.notSynchronized
  have hl := lv_entry ([.ref pl, .int (nI bk), .int (nI 0)]) (n := 3) (Nat.le_of_ble_eq_true rfl)
  rw [lg_entry_eq]
  generalize (lg_sl ([.ref pl, .int (nI bk), .int (nI 0)]) ++ List.replicate (3 - (lg_sl ([.ref pl, .int (nI bk), .int (nI 0)])).length) Slot.unset).toArray = ls at hl ⊢
  have hl : lv_has ls 3 [(0, .ref pl), (1, .int (nI bk)), (2, .int (nI 0))] := hl
  have hP : va_P D classes [(pl, .inr (6, [.ref bl, .ref o1, .ref o2, .ref tu, .ref st, .ref en, .ref ex])), (tu, .inl (cZ, 16, .inl (fun k => zb (tz k)))), (bl, .inr (1, [.ref so, .ref to, .ref mt, .ref fx, .int (nI cnt)])), (so, .inl (c2, 2, .inr (.inr (.inr (.inr (pr2 s0 s1)))))), (s0, .inl (cA, 16, .inl (fun k => nI (Z0 k)))), (s1, .inl (cA, 16, .inl (fun k => nI (Z1 k))))] s.heap := hP
  refine lv_aload_n hx hb d_PL_sizeOf_0 rfl (lv_at hl 0 rfl) ?_
  refine va_get (D := D) (ci := 6) (v := .ref bl) (C := R_PL) (T := F_PL) (N := 7) hx hb hts i_PL hown hK hP 0 rfl rfl 0 (by decide) (hts _ kf_PL_9) (fun _ h9 => h9) rfl d_PL_sizeOf_1 ?_
  refine va_get (D := D) (ci := 1) (v := .ref so) (C := R_BL) (T := F_BL) (N := 5) hx hb hts i_BL hown hK hP 2 rfl rfl 0 (by decide) (hts _ kf_PL_104) (fun _ h9 => h9) rfl d_PL_sizeOf_4 ?_
  refine lv_aload_n hx hb d_PL_sizeOf_7 rfl (lv_at hl 0 rfl) ?_
  refine va_get (D := D) (ci := 6) (v := .ref tu) (C := R_PL) (T := F_PL) (N := 7) hx hb hts i_PL hown hK hP 0 rfl rfl 3 (by decide) (hts _ kf_PL_25) (fun _ h9 => h9) rfl d_PL_sizeOf_8 ?_
  refine lv_iload_n hx hb d_PL_sizeOf_11 rfl (lv_at hl 1 rfl) ?_
  refine z_zld (j := bk) hx hb hK hP 1 1 rfl rfl (by omega) (by decide) d_PL_sizeOf_12 ?_
  refine z_zeq (tgt := 22) hx hb d_PL_sizeOf_13 (by decide) (fun c_1 => ?_) (fun c_1 => ?_)
  · refine lv_iload_n hx hb d_PL_sizeOf_22 rfl (lv_at hl 2 rfl) ?_
    refine z_a2ld (j := 0) (r := s0) hx hb hK hP 3 2 rfl rfl (by omega) (by decide) rfl d_PL_sizeOf_23 ?_
    refine lv_iload_n hx hb d_PL_sizeOf_24 rfl (lv_at hl 1 rfl) ?_
    refine z_ild (j := bk) hx hb hK hP 4 0 rfl rfl (by omega) (by decide) d_PL_sizeOf_25 ?_
    refine lv_toi (z := (nI (if tz bk = true then Z1 bk else Z0 bk))) (congrArg nI (by simp [c_1])) ?_
    exact W.iret hx hb hr (fun t ht hW => ⟨rfl, ht⟩) (fun q h => by cases h) d_PL_sizeOf_26
  · refine lv_iconst (v := nI 1) hx hb d_PL_sizeOf_16 (by decide) ?_
    refine lv_iload_n hx hb d_PL_sizeOf_17 rfl (lv_at hl 2 rfl) ?_
    refine z_sub hx hb d_PL_sizeOf_18 (by omega) ?_
    refine lv_toi (z := nI 1) (congrArg nI (by omega)) ?_
    refine lv_goto (tgt := 23) hx hb d_PL_sizeOf_19 (by decide) ?_
    refine z_a2ld (j := 1) (r := s1) hx hb hK hP 3 2 rfl rfl (by omega) (by decide) rfl d_PL_sizeOf_23 ?_
    refine lv_iload_n hx hb d_PL_sizeOf_24 rfl (lv_at hl 1 rfl) ?_
    refine z_ild (j := bk) hx hb hK hP 5 0 rfl rfl (by omega) (by decide) d_PL_sizeOf_25 ?_
    refine lv_toi (z := (nI (if tz bk = true then Z1 bk else Z0 bk))) (congrArg nI (by simp [c_1])) ?_
    exact W.iret hx hb hr (fun t ht hW => ⟨rfl, ht⟩) (fun q h => by cases h) d_PL_sizeOf_26
set_option maxHeartbeats 4000000 in
set_option maxRecDepth 100000 in
/-- Plan.sizeOf(block, 1) -/
theorem c_PL_sizeOf_1 (l : Launch) (D : va_G) (pl o1 o2 tu st en ex bl so to mt fx s0 s1 cnt : Nat) (cA cZ c2 : ClassId) (Z0 Z1 : Nat → Nat) (tz : Nat → Bool) (bk : Nat) (h1 : bk < 16) : Met l y_PL_sizeOf (wsA y_PL_sizeOf b_PL_sizeOf 3 (some .int)) ({ frames := 0, cells := 0, slots := 0, locals := 0 } : Room) (zR D [(cA, .int), (cZ, .boolean), (c2, .array .int)] [(pl, .inr (6, [.ref bl, .ref o1, .ref o2, .ref tu, .ref st, .ref en, .ref ex])), (tu, .inl (cZ, 16, .inl (fun k => zb (tz k)))), (bl, .inr (1, [.ref so, .ref to, .ref mt, .ref fx, .int (nI cnt)])), (so, .inl (c2, 2, .inr (.inr (.inr (.inr (pr2 s0 s1)))))), (s0, .inl (cA, 16, .inl (fun k => nI (Z0 k)))), (s1, .inl (cA, 16, .inl (fun k => nI (Z1 k))))] [.ref pl, .int (nI bk), .int (nI 1)]) (k2_QcV (.int (nI (if tz bk = true then Z0 bk else Z1 bk)))) 0 0 (fun _ => False) := by
  refine Met.ofW (cc := b_PL_sizeOf) (maxL := 3) (ret := (some .int)) (by decide) rfl ?_
  intro p e s m args below meth c s₁ B hml hv
  obtain ⟨rfl, hP, hK⟩ := hv
  have hx := B.exec
  have hb := B.bytes
  have hr := B.returns
  have hts : ∀ w ∈ lw_g, w.before _ s = true := fun w h => atoms_spec (ws := wsA y_PL_sizeOf b_PL_sizeOf 3 (some .int)) B.pre w (List.mem_cons_of_mem _ h)
  have hown : s.vm.findClass R_PL = some m.cls := findClass_of_methodNamed B.named
  have hlocks := B.notSynchronized
  have hl := lv_entry ([.ref pl, .int (nI bk), .int (nI 1)]) (n := 3) (Nat.le_of_ble_eq_true rfl)
  rw [lg_entry_eq]
  generalize (lg_sl ([.ref pl, .int (nI bk), .int (nI 1)]) ++ List.replicate (3 - (lg_sl ([.ref pl, .int (nI bk), .int (nI 1)])).length) Slot.unset).toArray = ls at hl ⊢
  have hl : lv_has ls 3 [(0, .ref pl), (1, .int (nI bk)), (2, .int (nI 1))] := hl
  have hP : va_P D classes [(pl, .inr (6, [.ref bl, .ref o1, .ref o2, .ref tu, .ref st, .ref en, .ref ex])), (tu, .inl (cZ, 16, .inl (fun k => zb (tz k)))), (bl, .inr (1, [.ref so, .ref to, .ref mt, .ref fx, .int (nI cnt)])), (so, .inl (c2, 2, .inr (.inr (.inr (.inr (pr2 s0 s1)))))), (s0, .inl (cA, 16, .inl (fun k => nI (Z0 k)))), (s1, .inl (cA, 16, .inl (fun k => nI (Z1 k))))] s.heap := hP
  refine lv_aload_n hx hb d_PL_sizeOf_0 rfl (lv_at hl 0 rfl) ?_
  refine va_get (D := D) (ci := 6) (v := .ref bl) (C := R_PL) (T := F_PL) (N := 7) hx hb hts i_PL hown hK hP 0 rfl rfl 0 (by decide) (hts _ kf_PL_9) (fun _ h9 => h9) rfl d_PL_sizeOf_1 ?_
  refine va_get (D := D) (ci := 1) (v := .ref so) (C := R_BL) (T := F_BL) (N := 5) hx hb hts i_BL hown hK hP 2 rfl rfl 0 (by decide) (hts _ kf_PL_104) (fun _ h9 => h9) rfl d_PL_sizeOf_4 ?_
  refine lv_aload_n hx hb d_PL_sizeOf_7 rfl (lv_at hl 0 rfl) ?_
  refine va_get (D := D) (ci := 6) (v := .ref tu) (C := R_PL) (T := F_PL) (N := 7) hx hb hts i_PL hown hK hP 0 rfl rfl 3 (by decide) (hts _ kf_PL_25) (fun _ h9 => h9) rfl d_PL_sizeOf_8 ?_
  refine lv_iload_n hx hb d_PL_sizeOf_11 rfl (lv_at hl 1 rfl) ?_
  refine z_zld (j := bk) hx hb hK hP 1 1 rfl rfl (by omega) (by decide) d_PL_sizeOf_12 ?_
  refine z_zeq (tgt := 22) hx hb d_PL_sizeOf_13 (by decide) (fun c_1 => ?_) (fun c_1 => ?_)
  · refine lv_iload_n hx hb d_PL_sizeOf_22 rfl (lv_at hl 2 rfl) ?_
    refine z_a2ld (j := 1) (r := s1) hx hb hK hP 3 2 rfl rfl (by omega) (by decide) rfl d_PL_sizeOf_23 ?_
    refine lv_iload_n hx hb d_PL_sizeOf_24 rfl (lv_at hl 1 rfl) ?_
    refine z_ild (j := bk) hx hb hK hP 5 0 rfl rfl (by omega) (by decide) d_PL_sizeOf_25 ?_
    refine lv_toi (z := (nI (if tz bk = true then Z0 bk else Z1 bk))) (congrArg nI (by simp [c_1])) ?_
    exact W.iret hx hb hr (fun t ht hW => ⟨rfl, ht⟩) (fun q h => by cases h) d_PL_sizeOf_26
  · refine lv_iconst (v := nI 1) hx hb d_PL_sizeOf_16 (by decide) ?_
    refine lv_iload_n hx hb d_PL_sizeOf_17 rfl (lv_at hl 2 rfl) ?_
    refine z_sub hx hb d_PL_sizeOf_18 (by omega) ?_
    refine lv_toi (z := nI 0) (congrArg nI (by omega)) ?_
    refine lv_goto (tgt := 23) hx hb d_PL_sizeOf_19 (by decide) ?_
    refine z_a2ld (j := 0) (r := s0) hx hb hK hP 3 2 rfl rfl (by omega) (by decide) rfl d_PL_sizeOf_23 ?_
    refine lv_iload_n hx hb d_PL_sizeOf_24 rfl (lv_at hl 1 rfl) ?_
    refine z_ild (j := bk) hx hb hK hP 4 0 rfl rfl (by omega) (by decide) d_PL_sizeOf_25 ?_
    refine lv_toi (z := (nI (if tz bk = true then Z0 bk else Z1 bk))) (congrArg nI (by simp [c_1])) ?_
    exact W.iret hx hb hr (fun t ht hW => ⟨rfl, ht⟩) (fun q h => by cases h) d_PL_sizeOf_26
set_option maxHeartbeats 4000000 in
set_option maxRecDepth 100000 in
/-- Plan.blockCount() -/
theorem c_PL_blockCount (l : Launch) (D : va_G) (pl o1 o2 tu st en ex bl so to mt fx cnt : Nat)  : Met l y_PL_blockCount (wsA y_PL_blockCount b_PL_blockCount 1 (some .int)) ({ frames := 0, cells := 0, slots := 0, locals := 0 } : Room) (zR D [] [(pl, .inr (6, [.ref bl, .ref o1, .ref o2, .ref tu, .ref st, .ref en, .ref ex])), (bl, .inr (1, [.ref so, .ref to, .ref mt, .ref fx, .int (nI cnt)]))] [.ref pl]) (k2_QcV (.int (nI cnt))) 0 0 (fun _ => False) := by
  refine Met.ofW (cc := b_PL_blockCount) (maxL := 1) (ret := (some .int)) (by decide) rfl ?_
  intro p e s m args below meth c s₁ B hml hv
  obtain ⟨rfl, hP, hK⟩ := hv
  have hx := B.exec
  have hb := B.bytes
  have hr := B.returns
  have hts : ∀ w ∈ lw_g, w.before _ s = true := fun w h => atoms_spec (ws := wsA y_PL_blockCount b_PL_blockCount 1 (some .int)) B.pre w (List.mem_cons_of_mem _ h)
  have hown : s.vm.findClass R_PL = some m.cls := findClass_of_methodNamed B.named
  have hlocks := B.notSynchronized
  have hl := lv_entry ([.ref pl]) (n := 1) (Nat.le_of_ble_eq_true rfl)
  rw [lg_entry_eq]
  generalize (lg_sl ([.ref pl]) ++ List.replicate (1 - (lg_sl ([.ref pl])).length) Slot.unset).toArray = ls at hl ⊢
  have hl : lv_has ls 1 [(0, .ref pl)] := hl
  have hP : va_P D classes [(pl, .inr (6, [.ref bl, .ref o1, .ref o2, .ref tu, .ref st, .ref en, .ref ex])), (bl, .inr (1, [.ref so, .ref to, .ref mt, .ref fx, .int (nI cnt)]))] s.heap := hP
  refine lv_aload_n hx hb d_PL_blockCount_0 rfl (lv_at hl 0 rfl) ?_
  refine va_get (D := D) (ci := 6) (v := .ref bl) (C := R_PL) (T := F_PL) (N := 7) hx hb hts i_PL hown hK hP 0 rfl rfl 0 (by decide) (hts _ kf_PL_9) (fun _ h9 => h9) rfl d_PL_blockCount_1 ?_
  refine va_get (D := D) (ci := 1) (v := .int (nI cnt)) (C := R_BL) (T := F_BL) (N := 5) hx hb hts i_BL hown hK hP 1 rfl rfl 4 (by decide) (hts _ kf_PL_91) (fun _ h9 => h9) rfl d_PL_blockCount_4 ?_
  exact W.iret hx hb hr (fun t ht hW => ⟨rfl, ht⟩) (fun q h => by cases h) d_PL_blockCount_7
set_option maxHeartbeats 4000000 in
set_option maxRecDepth 100000 in
/-- Plan.area() -/
theorem c_PL_area (l : Launch) (D : va_G) (pl o1 o2 tu st en ex bl : Nat) (cA : ClassId) (ext : Nat → Nat) (h0 : ext 0 < 2 ^ 31) (h1 : ext 1 < 2 ^ 31) : Met l y_PL_area (wsA y_PL_area b_PL_area 1 (some .long)) ({ frames := 0, cells := 0, slots := 0, locals := 0 } : Room) (zR D [(cA, .int)] [(pl, .inr (6, [.ref bl, .ref o1, .ref o2, .ref tu, .ref st, .ref en, .ref ex])), (ex, .inl (cA, 2, .inl (fun k => nI (ext k))))] [.ref pl]) (k2_QcV (.long (lN (ext 0 * ext 1)))) 0 0 (fun _ => False) := by
  refine Met.ofW (cc := b_PL_area) (maxL := 1) (ret := (some .long)) (by decide) rfl ?_
  intro p e s m args below meth c s₁ B hml hv
  obtain ⟨rfl, hP, hK⟩ := hv
  have hx := B.exec
  have hb := B.bytes
  have hr := B.returns
  have hts : ∀ w ∈ lw_g, w.before _ s = true := fun w h => atoms_spec (ws := wsA y_PL_area b_PL_area 1 (some .long)) B.pre w (List.mem_cons_of_mem _ h)
  have hown : s.vm.findClass R_PL = some m.cls := findClass_of_methodNamed B.named
  have hlocks := B.notSynchronized
  have hl := lv_entry ([.ref pl]) (n := 1) (Nat.le_of_ble_eq_true rfl)
  rw [lg_entry_eq]
  generalize (lg_sl ([.ref pl]) ++ List.replicate (1 - (lg_sl ([.ref pl])).length) Slot.unset).toArray = ls at hl ⊢
  have hl : lv_has ls 1 [(0, .ref pl)] := hl
  have hP : va_P D classes [(pl, .inr (6, [.ref bl, .ref o1, .ref o2, .ref tu, .ref st, .ref en, .ref ex])), (ex, .inl (cA, 2, .inl (fun k => nI (ext k))))] s.heap := hP
  refine lv_aload_n hx hb d_PL_area_0 rfl (lv_at hl 0 rfl) ?_
  refine va_get (D := D) (ci := 6) (v := .ref ex) (C := R_PL) (T := F_PL) (N := 7) hx hb hts i_PL hown hK hP 0 rfl rfl 6 (by decide) (hts _ kf_PL_37) (fun _ h9 => h9) rfl d_PL_area_1 ?_
  refine lv_iconst (v := nI 0) hx hb d_PL_area_4 (by decide) ?_
  refine z_ild (j := 0) hx hb hK hP 1 0 rfl rfl (by omega) (by decide) d_PL_area_5 ?_
  refine lv_i2l (v := lN (ext 0)) hx hb d_PL_area_6 (nI_l (by omega)) ?_
  refine lv_aload_n hx hb d_PL_area_7 rfl (lv_at hl 0 rfl) ?_
  refine va_get (D := D) (ci := 6) (v := .ref ex) (C := R_PL) (T := F_PL) (N := 7) hx hb hts i_PL hown hK hP 0 rfl rfl 6 (by decide) (hts _ kf_PL_37) (fun _ h9 => h9) rfl d_PL_area_8 ?_
  refine lv_iconst (v := nI 1) hx hb d_PL_area_11 (by decide) ?_
  refine z_ild (j := 1) hx hb hK hP 1 0 rfl rfl (by omega) (by decide) d_PL_area_12 ?_
  refine lv_i2l (v := lN (ext 1)) hx hb d_PL_area_13 (nI_l (by omega)) ?_
  refine lv_lmul hx hb d_PL_area_14 ?_
  refine lv_tol (lN_mul (ext 0) (ext 1)) ?_
  exact W.lret hx hb hr (fun t ht hW => ⟨rfl, ht⟩) (fun q h => by cases h) d_PL_area_15
set_option maxHeartbeats 4000000 in
set_option maxRecDepth 100000 in
/-- Plan.middleOf(block, 0) -/
theorem c_PL_middleOf_0 (l : Launch) (D : va_G) (pl o1 o2 tu st en ex bl x0 x1 e0 e1 : Nat) (cA c2 : ClassId) (X E : Nat → Nat) (bk : Nat) (h1 : bk < 16) : Met l y_PL_middleOf (wsA y_PL_middleOf b_PL_middleOf 3 (some .int)) ({ frames := 0, cells := 0, slots := 0, locals := 0 } : Room) (zR D [(cA, .int), (c2, .array .int)] [(pl, .inr (6, [.ref bl, .ref o1, .ref o2, .ref tu, .ref st, .ref en, .ref ex])), (st, .inl (c2, 2, .inr (.inr (.inr (.inr (pr2 x0 x1)))))), (x0, .inl (cA, 16, .inl (fun k => nI (X k)))), (en, .inl (c2, 2, .inr (.inr (.inr (.inr (pr2 e0 e1)))))), (e0, .inl (cA, 16, .inl (fun k => nI (E k))))] [.ref pl, .int (nI bk), .int (nI 0)]) (k2_QcV (.int (nI (X bk + E bk)))) 0 0 (fun _ => False) := by
  refine Met.ofW (cc := b_PL_middleOf) (maxL := 3) (ret := (some .int)) (by decide) rfl ?_
  intro p e s m args below meth c s₁ B hml hv
  obtain ⟨rfl, hP, hK⟩ := hv
  have hx := B.exec
  have hb := B.bytes
  have hr := B.returns
  have hts : ∀ w ∈ lw_g, w.before _ s = true := fun w h => atoms_spec (ws := wsA y_PL_middleOf b_PL_middleOf 3 (some .int)) B.pre w (List.mem_cons_of_mem _ h)
  have hown : s.vm.findClass R_PL = some m.cls := findClass_of_methodNamed B.named
  have hlocks := B.notSynchronized
  have hl := lv_entry ([.ref pl, .int (nI bk), .int (nI 0)]) (n := 3) (Nat.le_of_ble_eq_true rfl)
  rw [lg_entry_eq]
  generalize (lg_sl ([.ref pl, .int (nI bk), .int (nI 0)]) ++ List.replicate (3 - (lg_sl ([.ref pl, .int (nI bk), .int (nI 0)])).length) Slot.unset).toArray = ls at hl ⊢
  have hl : lv_has ls 3 [(0, .ref pl), (1, .int (nI bk)), (2, .int (nI 0))] := hl
  have hP : va_P D classes [(pl, .inr (6, [.ref bl, .ref o1, .ref o2, .ref tu, .ref st, .ref en, .ref ex])), (st, .inl (c2, 2, .inr (.inr (.inr (.inr (pr2 x0 x1)))))), (x0, .inl (cA, 16, .inl (fun k => nI (X k)))), (en, .inl (c2, 2, .inr (.inr (.inr (.inr (pr2 e0 e1)))))), (e0, .inl (cA, 16, .inl (fun k => nI (E k))))] s.heap := hP
  refine lv_aload_n hx hb d_PL_middleOf_0 rfl (lv_at hl 0 rfl) ?_
  refine va_get (D := D) (ci := 6) (v := .ref st) (C := R_PL) (T := F_PL) (N := 7) hx hb hts i_PL hown hK hP 0 rfl rfl 4 (by decide) (hts _ kf_PL_31) (fun _ h9 => h9) rfl d_PL_middleOf_1 ?_
  refine lv_iload_n hx hb d_PL_middleOf_4 rfl (lv_at hl 2 rfl) ?_
  refine z_a2ld (j := 0) (r := x0) hx hb hK hP 1 1 rfl rfl (by omega) (by decide) rfl d_PL_middleOf_5 ?_
  refine lv_iload_n hx hb d_PL_middleOf_6 rfl (lv_at hl 1 rfl) ?_
  refine z_ild (j := bk) hx hb hK hP 2 0 rfl rfl (by omega) (by decide) d_PL_middleOf_7 ?_
  refine lv_aload_n hx hb d_PL_middleOf_8 rfl (lv_at hl 0 rfl) ?_
  refine va_get (D := D) (ci := 6) (v := .ref en) (C := R_PL) (T := F_PL) (N := 7) hx hb hts i_PL hown hK hP 0 rfl rfl 5 (by decide) (hts _ kf_PL_34) (fun _ h9 => h9) rfl d_PL_middleOf_9 ?_
  refine lv_iload_n hx hb d_PL_middleOf_12 rfl (lv_at hl 2 rfl) ?_
  refine z_a2ld (j := 0) (r := e0) hx hb hK hP 3 1 rfl rfl (by omega) (by decide) rfl d_PL_middleOf_13 ?_
  refine lv_iload_n hx hb d_PL_middleOf_14 rfl (lv_at hl 1 rfl) ?_
  refine z_ild (j := bk) hx hb hK hP 4 0 rfl rfl (by omega) (by decide) d_PL_middleOf_15 ?_
  refine z_add hx hb d_PL_middleOf_16 ?_
  exact W.iret hx hb hr (fun t ht hW => ⟨rfl, ht⟩) (fun q h => by cases h) d_PL_middleOf_17
set_option maxHeartbeats 4000000 in
set_option maxRecDepth 100000 in
/-- Plan.middleOf(block, 1) -/
theorem c_PL_middleOf_1 (l : Launch) (D : va_G) (pl o1 o2 tu st en ex bl x0 x1 e0 e1 : Nat) (cA c2 : ClassId) (X E : Nat → Nat) (bk : Nat) (h1 : bk < 16) : Met l y_PL_middleOf (wsA y_PL_middleOf b_PL_middleOf 3 (some .int)) ({ frames := 0, cells := 0, slots := 0, locals := 0 } : Room) (zR D [(cA, .int), (c2, .array .int)] [(pl, .inr (6, [.ref bl, .ref o1, .ref o2, .ref tu, .ref st, .ref en, .ref ex])), (st, .inl (c2, 2, .inr (.inr (.inr (.inr (pr2 x0 x1)))))), (x1, .inl (cA, 16, .inl (fun k => nI (X k)))), (en, .inl (c2, 2, .inr (.inr (.inr (.inr (pr2 e0 e1)))))), (e1, .inl (cA, 16, .inl (fun k => nI (E k))))] [.ref pl, .int (nI bk), .int (nI 1)]) (k2_QcV (.int (nI (X bk + E bk)))) 0 0 (fun _ => False) := by
  refine Met.ofW (cc := b_PL_middleOf) (maxL := 3) (ret := (some .int)) (by decide) rfl ?_
  intro p e s m args below meth c s₁ B hml hv
  obtain ⟨rfl, hP, hK⟩ := hv
  have hx := B.exec
  have hb := B.bytes
  have hr := B.returns
  have hts : ∀ w ∈ lw_g, w.before _ s = true := fun w h => atoms_spec (ws := wsA y_PL_middleOf b_PL_middleOf 3 (some .int)) B.pre w (List.mem_cons_of_mem _ h)
  have hown : s.vm.findClass R_PL = some m.cls := findClass_of_methodNamed B.named
  have hlocks := B.notSynchronized
  have hl := lv_entry ([.ref pl, .int (nI bk), .int (nI 1)]) (n := 3) (Nat.le_of_ble_eq_true rfl)
  rw [lg_entry_eq]
  generalize (lg_sl ([.ref pl, .int (nI bk), .int (nI 1)]) ++ List.replicate (3 - (lg_sl ([.ref pl, .int (nI bk), .int (nI 1)])).length) Slot.unset).toArray = ls at hl ⊢
  have hl : lv_has ls 3 [(0, .ref pl), (1, .int (nI bk)), (2, .int (nI 1))] := hl
  have hP : va_P D classes [(pl, .inr (6, [.ref bl, .ref o1, .ref o2, .ref tu, .ref st, .ref en, .ref ex])), (st, .inl (c2, 2, .inr (.inr (.inr (.inr (pr2 x0 x1)))))), (x1, .inl (cA, 16, .inl (fun k => nI (X k)))), (en, .inl (c2, 2, .inr (.inr (.inr (.inr (pr2 e0 e1)))))), (e1, .inl (cA, 16, .inl (fun k => nI (E k))))] s.heap := hP
  refine lv_aload_n hx hb d_PL_middleOf_0 rfl (lv_at hl 0 rfl) ?_
  refine va_get (D := D) (ci := 6) (v := .ref st) (C := R_PL) (T := F_PL) (N := 7) hx hb hts i_PL hown hK hP 0 rfl rfl 4 (by decide) (hts _ kf_PL_31) (fun _ h9 => h9) rfl d_PL_middleOf_1 ?_
  refine lv_iload_n hx hb d_PL_middleOf_4 rfl (lv_at hl 2 rfl) ?_
  refine z_a2ld (j := 1) (r := x1) hx hb hK hP 1 1 rfl rfl (by omega) (by decide) rfl d_PL_middleOf_5 ?_
  refine lv_iload_n hx hb d_PL_middleOf_6 rfl (lv_at hl 1 rfl) ?_
  refine z_ild (j := bk) hx hb hK hP 2 0 rfl rfl (by omega) (by decide) d_PL_middleOf_7 ?_
  refine lv_aload_n hx hb d_PL_middleOf_8 rfl (lv_at hl 0 rfl) ?_
  refine va_get (D := D) (ci := 6) (v := .ref en) (C := R_PL) (T := F_PL) (N := 7) hx hb hts i_PL hown hK hP 0 rfl rfl 5 (by decide) (hts _ kf_PL_34) (fun _ h9 => h9) rfl d_PL_middleOf_9 ?_
  refine lv_iload_n hx hb d_PL_middleOf_12 rfl (lv_at hl 2 rfl) ?_
  refine z_a2ld (j := 1) (r := e1) hx hb hK hP 3 1 rfl rfl (by omega) (by decide) rfl d_PL_middleOf_13 ?_
  refine lv_iload_n hx hb d_PL_middleOf_14 rfl (lv_at hl 1 rfl) ?_
  refine z_ild (j := bk) hx hb hK hP 4 0 rfl rfl (by omega) (by decide) d_PL_middleOf_15 ?_
  refine z_add hx hb d_PL_middleOf_16 ?_
  exact W.iret hx hb hr (fun t ht hW => ⟨rfl, ht⟩) (fun q h => by cases h) d_PL_middleOf_17
set_option maxHeartbeats 4000000 in
set_option maxRecDepth 100000 in
/-- Plan.turnIfAllowed(block) -/
theorem c_PL_turnIfAllowed (l : Launch) (D : va_G) (sz : Nat) (pl o1 o2 tu st en ex bl so to mt fx cnt : Nat) (cZ : ClassId) (may fixd tz : Nat → Bool) (bk : Nat) (h1 : bk < 16) : Met l y_PL_turnIfAllowed (wsA y_PL_turnIfAllowed b_PL_turnIfAllowed 2 none) ({ frames := 0, cells := 0, slots := 0, locals := 0 } : Room) (zP D [(cZ, .boolean)] [(pl, .inr (6, [.ref bl, .ref o1, .ref o2, .ref tu, .ref st, .ref en, .ref ex])), (tu, .inl (cZ, 16, .inl (fun k => zb (tz k)))), (bl, .inr (1, [.ref so, .ref to, .ref mt, .ref fx, .int (nI cnt)])), (mt, .inl (cZ, 16, .inl (fun k => zb (may k)))), (fx, .inl (cZ, 16, .inl (fun k => zb (fixd k))))] [.ref pl, .int (nI bk)] sz) (zQ none (zB D [(cZ, .boolean)] (va_A [(pl, .inr (6, [.ref bl, .ref o1, .ref o2, .ref tu, .ref st, .ref en, .ref ex])), (tu, .inl (cZ, 16, .inl (fun k => zb (tz k)))), (bl, .inr (1, [.ref so, .ref to, .ref mt, .ref fx, .int (nI cnt)])), (mt, .inl (cZ, 16, .inl (fun k => zb (may k)))), (fx, .inl (cZ, 16, .inl (fun k => zb (fixd k))))] sz) [(pl, .inr (6, [.ref bl, .ref o1, .ref o2, .ref tu, .ref st, .ref en, .ref ex])), (tu, .inl (cZ, 16, .inl (fun k => zb ((if may bk = true ∧ fixd bk = false then va_up tz bk (!tz bk) else tz) k)))), (bl, .inr (1, [.ref so, .ref to, .ref mt, .ref fx, .int (nI cnt)])), (mt, .inl (cZ, 16, .inl (fun k => zb (may k)))), (fx, .inl (cZ, 16, .inl (fun k => zb (fixd k))))]) (va_A [(pl, .inr (6, [.ref bl, .ref o1, .ref o2, .ref tu, .ref st, .ref en, .ref ex])), (tu, .inl (cZ, 16, .inl (fun k => zb (tz k)))), (bl, .inr (1, [.ref so, .ref to, .ref mt, .ref fx, .int (nI cnt)])), (mt, .inl (cZ, 16, .inl (fun k => zb (may k)))), (fx, .inl (cZ, 16, .inl (fun k => zb (fixd k))))] sz)) 0 0 (va_A [(pl, .inr (6, [.ref bl, .ref o1, .ref o2, .ref tu, .ref st, .ref en, .ref ex])), (tu, .inl (cZ, 16, .inl (fun k => zb (tz k)))), (bl, .inr (1, [.ref so, .ref to, .ref mt, .ref fx, .int (nI cnt)])), (mt, .inl (cZ, 16, .inl (fun k => zb (may k)))), (fx, .inl (cZ, 16, .inl (fun k => zb (fixd k))))] sz) := by
  refine Met.ofW (cc := b_PL_turnIfAllowed) (maxL := 2) (ret := none) (by decide) rfl ?_
  intro p e s m args below meth c s₁ B hml hv
  obtain ⟨rfl, hsz, hP, hK, hD0⟩ := hv
  have hx := B.exec
  have hb := B.bytes
  have hr := B.returns
  have hts : ∀ w ∈ lw_g, w.before _ s = true := fun w h => atoms_spec (ws := wsA y_PL_turnIfAllowed b_PL_turnIfAllowed 2 none) B.pre w (List.mem_cons_of_mem _ h)
  have hown : s.vm.findClass R_PL = some m.cls := findClass_of_methodNamed B.named
  have hlocks := B.notSynchronized
  obtain ⟨hD, hA, hS⟩ := z_start hsz hD0
  generalize va_A [(pl, .inr (6, [.ref bl, .ref o1, .ref o2, .ref tu, .ref st, .ref en, .ref ex])), (tu, .inl (cZ, 16, .inl (fun k => zb (tz k)))), (bl, .inr (1, [.ref so, .ref to, .ref mt, .ref fx, .int (nI cnt)])), (mt, .inl (cZ, 16, .inl (fun k => zb (may k)))), (fx, .inl (cZ, 16, .inl (fun k => zb (fixd k))))] sz = A at hD hA hS ⊢
  have hl := lv_entry ([.ref pl, .int (nI bk)]) (n := 2) (Nat.le_of_ble_eq_true rfl)
  rw [lg_entry_eq]
  generalize (lg_sl ([.ref pl, .int (nI bk)]) ++ List.replicate (2 - (lg_sl ([.ref pl, .int (nI bk)])).length) Slot.unset).toArray = ls at hl ⊢
  have hl : lv_has ls 2 [(0, .ref pl), (1, .int (nI bk))] := hl
  have hP : va_P D classes [(pl, .inr (6, [.ref bl, .ref o1, .ref o2, .ref tu, .ref st, .ref en, .ref ex])), (tu, .inl (cZ, 16, .inl (fun k => zb (tz k)))), (bl, .inr (1, [.ref so, .ref to, .ref mt, .ref fx, .int (nI cnt)])), (mt, .inl (cZ, 16, .inl (fun k => zb (may k)))), (fx, .inl (cZ, 16, .inl (fun k => zb (fixd k))))] s.heap := hP
  refine lv_aload_n hx hb d_PL_turnIfAllowed_0 rfl (lv_at hl 0 rfl) ?_
  refine va_get (D := D) (ci := 6) (v := .ref bl) (C := R_PL) (T := F_PL) (N := 7) hx hb hts i_PL hown hK hP 0 rfl rfl 0 (by decide) (hts _ kf_PL_9) (fun _ h9 => h9) rfl d_PL_turnIfAllowed_1 ?_
  refine va_get (D := D) (ci := 1) (v := .ref mt) (C := R_BL) (T := F_BL) (N := 5) hx hb hts i_BL hown hK hP 2 rfl rfl 2 (by decide) (hts _ kf_PL_72) (fun _ h9 => h9) rfl d_PL_turnIfAllowed_4 ?_
  refine lv_iload_n hx hb d_PL_turnIfAllowed_7 rfl (lv_at hl 1 rfl) ?_
  refine z_zld (j := bk) hx hb hK hP 3 0 rfl rfl (by omega) (by decide) d_PL_turnIfAllowed_8 ?_
  refine z_zeq (tgt := 44) hx hb d_PL_turnIfAllowed_9 (by decide) (fun c_1 => ?_) (fun c_1 => ?_)
  · have hP : va_P D classes [(pl, .inr (6, [.ref bl, .ref o1, .ref o2, .ref tu, .ref st, .ref en, .ref ex])), (tu, .inl (cZ, 16, .inl (fun k => zb ((if may bk = true ∧ fixd bk = false then va_up tz bk (!tz bk) else tz) k)))), (bl, .inr (1, [.ref so, .ref to, .ref mt, .ref fx, .int (nI cnt)])), (mt, .inl (cZ, 16, .inl (fun k => zb (may k)))), (fx, .inl (cZ, 16, .inl (fun k => zb (fixd k))))] s.heap := by rw [show (if may bk = true ∧ fixd bk = false then va_up tz bk (!tz bk) else tz) = (tz) from (by simp [c_1])]; exact hP
    have hD : va_D A [(pl, .inr (6, [.ref bl, .ref o1, .ref o2, .ref tu, .ref st, .ref en, .ref ex])), (tu, .inl (cZ, 16, .inl (fun k => zb ((if may bk = true ∧ fixd bk = false then va_up tz bk (!tz bk) else tz) k)))), (bl, .inr (1, [.ref so, .ref to, .ref mt, .ref fx, .int (nI cnt)])), (mt, .inl (cZ, 16, .inl (fun k => zb (may k)))), (fx, .inl (cZ, 16, .inl (fun k => zb (fixd k))))] := by rw [show (if may bk = true ∧ fixd bk = false then va_up tz bk (!tz bk) else tz) = (tz) from (by simp [c_1])]; exact hD
    exact W.vret hx hb hr (fun t ht hW => ⟨rfl, ⟨by rw [ht]; exact hP, va_K.moved hW.alike hK, hD⟩, hS.F ht⟩) hS.2.2 d_PL_turnIfAllowed_44
  · refine lv_aload_n hx hb d_PL_turnIfAllowed_12 rfl (lv_at hl 0 rfl) ?_
    refine va_get (D := D) (ci := 6) (v := .ref bl) (C := R_PL) (T := F_PL) (N := 7) hx hb hts i_PL hown hK hP 0 rfl rfl 0 (by decide) (hts _ kf_PL_9) (fun _ h9 => h9) rfl d_PL_turnIfAllowed_13 ?_
    refine va_get (D := D) (ci := 1) (v := .ref fx) (C := R_BL) (T := F_BL) (N := 5) hx hb hts i_BL hown hK hP 2 rfl rfl 3 (by decide) (hts _ kf_PL_77) (fun _ h9 => h9) rfl d_PL_turnIfAllowed_16 ?_
    refine lv_iload_n hx hb d_PL_turnIfAllowed_19 rfl (lv_at hl 1 rfl) ?_
    refine z_zld (j := bk) hx hb hK hP 4 0 rfl rfl (by omega) (by decide) d_PL_turnIfAllowed_20 ?_
    refine z_zne (tgt := 44) hx hb d_PL_turnIfAllowed_21 (by decide) (fun c_2 => ?_) (fun c_2 => ?_)
    · have hP : va_P D classes [(pl, .inr (6, [.ref bl, .ref o1, .ref o2, .ref tu, .ref st, .ref en, .ref ex])), (tu, .inl (cZ, 16, .inl (fun k => zb ((if may bk = true ∧ fixd bk = false then va_up tz bk (!tz bk) else tz) k)))), (bl, .inr (1, [.ref so, .ref to, .ref mt, .ref fx, .int (nI cnt)])), (mt, .inl (cZ, 16, .inl (fun k => zb (may k)))), (fx, .inl (cZ, 16, .inl (fun k => zb (fixd k))))] s.heap := by rw [show (if may bk = true ∧ fixd bk = false then va_up tz bk (!tz bk) else tz) = (tz) from (by simp [c_1, c_2])]; exact hP
      have hD : va_D A [(pl, .inr (6, [.ref bl, .ref o1, .ref o2, .ref tu, .ref st, .ref en, .ref ex])), (tu, .inl (cZ, 16, .inl (fun k => zb ((if may bk = true ∧ fixd bk = false then va_up tz bk (!tz bk) else tz) k)))), (bl, .inr (1, [.ref so, .ref to, .ref mt, .ref fx, .int (nI cnt)])), (mt, .inl (cZ, 16, .inl (fun k => zb (may k)))), (fx, .inl (cZ, 16, .inl (fun k => zb (fixd k))))] := by rw [show (if may bk = true ∧ fixd bk = false then va_up tz bk (!tz bk) else tz) = (tz) from (by simp [c_1, c_2])]; exact hD
      exact W.vret hx hb hr (fun t ht hW => ⟨rfl, ⟨by rw [ht]; exact hP, va_K.moved hW.alike hK, hD⟩, hS.F ht⟩) hS.2.2 d_PL_turnIfAllowed_44
    · refine lv_aload_n hx hb d_PL_turnIfAllowed_24 rfl (lv_at hl 0 rfl) ?_
      refine va_get (D := D) (ci := 6) (v := .ref tu) (C := R_PL) (T := F_PL) (N := 7) hx hb hts i_PL hown hK hP 0 rfl rfl 3 (by decide) (hts _ kf_PL_25) (fun _ h9 => h9) rfl d_PL_turnIfAllowed_25 ?_
      refine lv_iload_n hx hb d_PL_turnIfAllowed_28 rfl (lv_at hl 1 rfl) ?_
      refine lv_aload_n hx hb d_PL_turnIfAllowed_29 rfl (lv_at hl 0 rfl) ?_
      refine va_get (D := D) (ci := 6) (v := .ref tu) (C := R_PL) (T := F_PL) (N := 7) hx hb hts i_PL hown hK hP 0 rfl rfl 3 (by decide) (hts _ kf_PL_25) (fun _ h9 => h9) rfl d_PL_turnIfAllowed_30 ?_
      refine lv_iload_n hx hb d_PL_turnIfAllowed_33 rfl (lv_at hl 1 rfl) ?_
      refine z_zld (j := bk) hx hb hK hP 1 0 rfl rfl (by omega) (by decide) d_PL_turnIfAllowed_34 ?_
      refine z_zne (tgt := 42) hx hb d_PL_turnIfAllowed_35 (by decide) (fun c_3 => ?_) (fun c_3 => ?_)
      · refine lv_iconst (v := zb false) hx hb d_PL_turnIfAllowed_42 (by decide) ?_
        refine z_zst (j := bk) (v := false) hx hb hK hP hD hS 1 0 rfl rfl (by omega) (by decide) d_PL_turnIfAllowed_43 (fun H locs hP hD hS => ?_)
        have hP : va_P D classes [(pl, .inr (6, [.ref bl, .ref o1, .ref o2, .ref tu, .ref st, .ref en, .ref ex])), (tu, .inl (cZ, 16, .inl (fun k => zb ((va_up tz bk false) k)))), (bl, .inr (1, [.ref so, .ref to, .ref mt, .ref fx, .int (nI cnt)])), (mt, .inl (cZ, 16, .inl (fun k => zb (may k)))), (fx, .inl (cZ, 16, .inl (fun k => zb (fixd k))))] H := hP
        have hD : va_D A [(pl, .inr (6, [.ref bl, .ref o1, .ref o2, .ref tu, .ref st, .ref en, .ref ex])), (tu, .inl (cZ, 16, .inl (fun k => zb ((va_up tz bk false) k)))), (bl, .inr (1, [.ref so, .ref to, .ref mt, .ref fx, .int (nI cnt)])), (mt, .inl (cZ, 16, .inl (fun k => zb (may k)))), (fx, .inl (cZ, 16, .inl (fun k => zb (fixd k))))] := hD
        have hP : va_P D classes [(pl, .inr (6, [.ref bl, .ref o1, .ref o2, .ref tu, .ref st, .ref en, .ref ex])), (tu, .inl (cZ, 16, .inl (fun k => zb ((if may bk = true ∧ fixd bk = false then va_up tz bk (!tz bk) else tz) k)))), (bl, .inr (1, [.ref so, .ref to, .ref mt, .ref fx, .int (nI cnt)])), (mt, .inl (cZ, 16, .inl (fun k => zb (may k)))), (fx, .inl (cZ, 16, .inl (fun k => zb (fixd k))))] H := by rw [show (if may bk = true ∧ fixd bk = false then va_up tz bk (!tz bk) else tz) = (va_up tz bk false) from (by simp [c_1, c_2, c_3])]; exact hP
        have hD : va_D A [(pl, .inr (6, [.ref bl, .ref o1, .ref o2, .ref tu, .ref st, .ref en, .ref ex])), (tu, .inl (cZ, 16, .inl (fun k => zb ((if may bk = true ∧ fixd bk = false then va_up tz bk (!tz bk) else tz) k)))), (bl, .inr (1, [.ref so, .ref to, .ref mt, .ref fx, .int (nI cnt)])), (mt, .inl (cZ, 16, .inl (fun k => zb (may k)))), (fx, .inl (cZ, 16, .inl (fun k => zb (fixd k))))] := by rw [show (if may bk = true ∧ fixd bk = false then va_up tz bk (!tz bk) else tz) = (va_up tz bk false) from (by simp [c_1, c_2, c_3])]; exact hD
        exact W.vret hx hb hr (fun t ht hW => ⟨rfl, ⟨by rw [ht]; exact hP, va_K.moved hW.alike hK, hD⟩, hS.F ht⟩) hS.2.2 d_PL_turnIfAllowed_44
      · refine lv_iconst (v := zb true) hx hb d_PL_turnIfAllowed_38 (by decide) ?_
        refine lv_goto (tgt := 43) hx hb d_PL_turnIfAllowed_39 (by decide) ?_
        refine z_zst (j := bk) (v := true) hx hb hK hP hD hS 1 0 rfl rfl (by omega) (by decide) d_PL_turnIfAllowed_43 (fun H locs hP hD hS => ?_)
        have hP : va_P D classes [(pl, .inr (6, [.ref bl, .ref o1, .ref o2, .ref tu, .ref st, .ref en, .ref ex])), (tu, .inl (cZ, 16, .inl (fun k => zb ((va_up tz bk true) k)))), (bl, .inr (1, [.ref so, .ref to, .ref mt, .ref fx, .int (nI cnt)])), (mt, .inl (cZ, 16, .inl (fun k => zb (may k)))), (fx, .inl (cZ, 16, .inl (fun k => zb (fixd k))))] H := hP
        have hD : va_D A [(pl, .inr (6, [.ref bl, .ref o1, .ref o2, .ref tu, .ref st, .ref en, .ref ex])), (tu, .inl (cZ, 16, .inl (fun k => zb ((va_up tz bk true) k)))), (bl, .inr (1, [.ref so, .ref to, .ref mt, .ref fx, .int (nI cnt)])), (mt, .inl (cZ, 16, .inl (fun k => zb (may k)))), (fx, .inl (cZ, 16, .inl (fun k => zb (fixd k))))] := hD
        have hP : va_P D classes [(pl, .inr (6, [.ref bl, .ref o1, .ref o2, .ref tu, .ref st, .ref en, .ref ex])), (tu, .inl (cZ, 16, .inl (fun k => zb ((if may bk = true ∧ fixd bk = false then va_up tz bk (!tz bk) else tz) k)))), (bl, .inr (1, [.ref so, .ref to, .ref mt, .ref fx, .int (nI cnt)])), (mt, .inl (cZ, 16, .inl (fun k => zb (may k)))), (fx, .inl (cZ, 16, .inl (fun k => zb (fixd k))))] H := by rw [show (if may bk = true ∧ fixd bk = false then va_up tz bk (!tz bk) else tz) = (va_up tz bk true) from (by simp [c_1, c_2, c_3])]; exact hP
        have hD : va_D A [(pl, .inr (6, [.ref bl, .ref o1, .ref o2, .ref tu, .ref st, .ref en, .ref ex])), (tu, .inl (cZ, 16, .inl (fun k => zb ((if may bk = true ∧ fixd bk = false then va_up tz bk (!tz bk) else tz) k)))), (bl, .inr (1, [.ref so, .ref to, .ref mt, .ref fx, .int (nI cnt)])), (mt, .inl (cZ, 16, .inl (fun k => zb (may k)))), (fx, .inl (cZ, 16, .inl (fun k => zb (fixd k))))] := by rw [show (if may bk = true ∧ fixd bk = false then va_up tz bk (!tz bk) else tz) = (va_up tz bk true) from (by simp [c_1, c_2, c_3])]; exact hD
        exact W.vret hx hb hr (fun t ht hW => ⟨rfl, ⟨by rw [ht]; exact hP, va_K.moved hW.alike hK, hD⟩, hS.F ht⟩) hS.2.2 d_PL_turnIfAllowed_44
