theorem d_LA_block_0 : decode b_LA_block 0 = .ok (.aload 6, 2) := by decide +kernel
theorem d_LA_block_2 : decode b_LA_block 2 = .ok (.iconst 0, 1) := by decide +kernel
theorem d_LA_block_3 : decode b_LA_block 3 = .ok (.aload_n 0, 1) := by decide +kernel
theorem d_LA_block_4 : decode b_LA_block 4 = .ok (.lload_n 1, 1) := by decide +kernel
theorem d_LA_block_5 : decode b_LA_block 5 = .ok (.lload_n 3, 1) := by decide +kernel
theorem d_LA_block_6 : decode b_LA_block 6 = .ok (.iload 5, 2) := by decide +kernel
theorem d_LA_block_8 : decode b_LA_block 8 = .ok (.invokevirtual 7, 3) := by decide +kernel
theorem d_LA_block_11 : decode b_LA_block 11 = .ok (.i2l, 1) := by decide +kernel
theorem d_LA_block_12 : decode b_LA_block 12 = .ok (.lastore, 1) := by decide +kernel
theorem d_LA_block_13 : decode b_LA_block 13 = .ok (.goto 11, 3) := by decide +kernel
theorem d_LA_block_16 : decode b_LA_block 16 = .ok (.astore 7, 2) := by decide +kernel
theorem d_LA_block_18 : decode b_LA_block 18 = .ok (.iconst 1, 1) := by decide +kernel
theorem d_LA_block_19 : decode b_LA_block 19 = .ok (.ireturn, 1) := by decide +kernel
theorem d_LA_block_20 : decode b_LA_block 20 = .ok (.astore 7, 2) := by decide +kernel
theorem d_LA_block_22 : decode b_LA_block 22 = .ok (.iconst 2, 1) := by decide +kernel
theorem d_LA_block_23 : decode b_LA_block 23 = .ok (.ireturn, 1) := by decide +kernel
theorem d_LA_block_24 : decode b_LA_block 24 = .ok (.iconst 0, 1) := by decide +kernel
theorem d_LA_block_25 : decode b_LA_block 25 = .ok (.ireturn, 1) := by decide +kernel
theorem d_LA_fix_0 : decode b_LA_fix 0 = .ok (.aload 6, 2) := by decide +kernel
theorem d_LA_fix_2 : decode b_LA_fix 2 = .ok (.iconst 0, 1) := by decide +kernel
theorem d_LA_fix_3 : decode b_LA_fix 3 = .ok (.aload_n 0, 1) := by decide +kernel
theorem d_LA_fix_4 : decode b_LA_fix 4 = .ok (.iload_n 1, 1) := by decide +kernel
theorem d_LA_fix_5 : decode b_LA_fix 5 = .ok (.lload_n 2, 1) := by decide +kernel
theorem d_LA_fix_6 : decode b_LA_fix 6 = .ok (.lload 4, 2) := by decide +kernel
theorem d_LA_fix_8 : decode b_LA_fix 8 = .ok (.invokevirtual 17, 3) := by decide +kernel
theorem d_LA_fix_11 : decode b_LA_fix 11 = .ok (.ifCond .eq 7, 3) := by decide +kernel
theorem d_LA_fix_14 : decode b_LA_fix 14 = .ok (.lconst 1, 1) := by decide +kernel
theorem d_LA_fix_15 : decode b_LA_fix 15 = .ok (.goto 4, 3) := by decide +kernel
theorem d_LA_fix_18 : decode b_LA_fix 18 = .ok (.lconst 0, 1) := by decide +kernel
theorem d_LA_fix_19 : decode b_LA_fix 19 = .ok (.lastore, 1) := by decide +kernel
theorem d_LA_fix_20 : decode b_LA_fix 20 = .ok (.goto 11, 3) := by decide +kernel
theorem d_LA_fix_23 : decode b_LA_fix 23 = .ok (.astore 7, 2) := by decide +kernel
theorem d_LA_fix_25 : decode b_LA_fix 25 = .ok (.iconst 1, 1) := by decide +kernel
theorem d_LA_fix_26 : decode b_LA_fix 26 = .ok (.ireturn, 1) := by decide +kernel
theorem d_LA_fix_27 : decode b_LA_fix 27 = .ok (.astore 7, 2) := by decide +kernel
theorem d_LA_fix_29 : decode b_LA_fix 29 = .ok (.iconst 2, 1) := by decide +kernel
theorem d_LA_fix_30 : decode b_LA_fix 30 = .ok (.ireturn, 1) := by decide +kernel
theorem d_LA_fix_31 : decode b_LA_fix 31 = .ok (.iconst 0, 1) := by decide +kernel
theorem d_LA_fix_32 : decode b_LA_fix 32 = .ok (.ireturn, 1) := by decide +kernel
theorem d_LA_net_0 : decode b_LA_net 0 = .ok (.aload_n 3, 1) := by decide +kernel
theorem d_LA_net_1 : decode b_LA_net 1 = .ok (.iconst 0, 1) := by decide +kernel
theorem d_LA_net_2 : decode b_LA_net 2 = .ok (.aload_n 0, 1) := by decide +kernel
theorem d_LA_net_3 : decode b_LA_net 3 = .ok (.iload_n 1, 1) := by decide +kernel
theorem d_LA_net_4 : decode b_LA_net 4 = .ok (.iload_n 2, 1) := by decide +kernel
theorem d_LA_net_5 : decode b_LA_net 5 = .ok (.invokevirtual 23, 3) := by decide +kernel
theorem d_LA_net_8 : decode b_LA_net 8 = .ok (.i2l, 1) := by decide +kernel
theorem d_LA_net_9 : decode b_LA_net 9 = .ok (.lastore, 1) := by decide +kernel
theorem d_LA_net_10 : decode b_LA_net 10 = .ok (.goto 15, 3) := by decide +kernel
theorem d_LA_net_13 : decode b_LA_net 13 = .ok (.astore 4, 2) := by decide +kernel
theorem d_LA_net_15 : decode b_LA_net 15 = .ok (.iconst 1, 1) := by decide +kernel
theorem d_LA_net_16 : decode b_LA_net 16 = .ok (.ireturn, 1) := by decide +kernel
theorem d_LA_net_17 : decode b_LA_net 17 = .ok (.astore 4, 2) := by decide +kernel
theorem d_LA_net_19 : decode b_LA_net 19 = .ok (.iconst 2, 1) := by decide +kernel
theorem d_LA_net_20 : decode b_LA_net 20 = .ok (.ireturn, 1) := by decide +kernel
theorem d_LA_net_21 : decode b_LA_net 21 = .ok (.astore 4, 2) := by decide +kernel
theorem d_LA_net_23 : decode b_LA_net 23 = .ok (.iconst 3, 1) := by decide +kernel
theorem d_LA_net_24 : decode b_LA_net 24 = .ok (.ireturn, 1) := by decide +kernel
theorem d_LA_net_25 : decode b_LA_net 25 = .ok (.iconst 0, 1) := by decide +kernel
theorem d_LA_net_26 : decode b_LA_net 26 = .ok (.ireturn, 1) := by decide +kernel
theorem d_LA_slice_0 : decode b_LA_slice 0 = .ok (.aload 4, 2) := by decide +kernel
theorem d_LA_slice_2 : decode b_LA_slice 2 = .ok (.iconst 0, 1) := by decide +kernel
theorem d_LA_slice_3 : decode b_LA_slice 3 = .ok (.aload_n 0, 1) := by decide +kernel
theorem d_LA_slice_4 : decode b_LA_slice 4 = .ok (.iload_n 1, 1) := by decide +kernel
theorem d_LA_slice_5 : decode b_LA_slice 5 = .ok (.iload_n 2, 1) := by decide +kernel
theorem d_LA_slice_6 : decode b_LA_slice 6 = .ok (.iload_n 3, 1) := by decide +kernel
theorem d_LA_slice_7 : decode b_LA_slice 7 = .ok (.invokevirtual 27, 3) := by decide +kernel
theorem d_LA_slice_10 : decode b_LA_slice 10 = .ok (.i2l, 1) := by decide +kernel
theorem d_LA_slice_11 : decode b_LA_slice 11 = .ok (.lastore, 1) := by decide +kernel
theorem d_LA_slice_12 : decode b_LA_slice 12 = .ok (.goto 15, 3) := by decide +kernel
theorem d_LA_slice_15 : decode b_LA_slice 15 = .ok (.astore 5, 2) := by decide +kernel
theorem d_LA_slice_17 : decode b_LA_slice 17 = .ok (.iconst 1, 1) := by decide +kernel
theorem d_LA_slice_18 : decode b_LA_slice 18 = .ok (.ireturn, 1) := by decide +kernel
theorem d_LA_slice_19 : decode b_LA_slice 19 = .ok (.astore 5, 2) := by decide +kernel
theorem d_LA_slice_21 : decode b_LA_slice 21 = .ok (.iconst 2, 1) := by decide +kernel
theorem d_LA_slice_22 : decode b_LA_slice 22 = .ok (.ireturn, 1) := by decide +kernel
theorem d_LA_slice_23 : decode b_LA_slice 23 = .ok (.astore 5, 2) := by decide +kernel
theorem d_LA_slice_25 : decode b_LA_slice 25 = .ok (.iconst 3, 1) := by decide +kernel
theorem d_LA_slice_26 : decode b_LA_slice 26 = .ok (.ireturn, 1) := by decide +kernel
theorem d_LA_slice_27 : decode b_LA_slice 27 = .ok (.iconst 0, 1) := by decide +kernel
theorem d_LA_slice_28 : decode b_LA_slice 28 = .ok (.ireturn, 1) := by decide +kernel
theorem d_LA_shapes_0 : decode b_LA_shapes 0 = .ok (.aload_n 2, 1) := by decide +kernel
theorem d_LA_shapes_1 : decode b_LA_shapes 1 = .ok (.iconst 0, 1) := by decide +kernel
theorem d_LA_shapes_2 : decode b_LA_shapes 2 = .ok (.aload_n 0, 1) := by decide +kernel
theorem d_LA_shapes_3 : decode b_LA_shapes 3 = .ok (.iload_n 1, 1) := by decide +kernel
theorem d_LA_shapes_4 : decode b_LA_shapes 4 = .ok (.invokevirtual 31, 3) := by decide +kernel
theorem d_LA_shapes_7 : decode b_LA_shapes 7 = .ok (.i2l, 1) := by decide +kernel
theorem d_LA_shapes_8 : decode b_LA_shapes 8 = .ok (.lastore, 1) := by decide +kernel
theorem d_LA_shapes_9 : decode b_LA_shapes 9 = .ok (.goto 6, 3) := by decide +kernel
theorem d_LA_shapes_12 : decode b_LA_shapes 12 = .ok (.astore_n 3, 1) := by decide +kernel
theorem d_LA_shapes_13 : decode b_LA_shapes 13 = .ok (.iconst 1, 1) := by decide +kernel
theorem d_LA_shapes_14 : decode b_LA_shapes 14 = .ok (.ireturn, 1) := by decide +kernel
theorem d_LA_shapes_15 : decode b_LA_shapes 15 = .ok (.iconst 0, 1) := by decide +kernel
theorem d_LA_shapes_16 : decode b_LA_shapes 16 = .ok (.ireturn, 1) := by decide +kernel
theorem d_LA_shape_0 : decode b_LA_shape 0 = .ok (.aload 4, 2) := by decide +kernel
theorem d_LA_shape_2 : decode b_LA_shape 2 = .ok (.iconst 0, 1) := by decide +kernel
theorem d_LA_shape_3 : decode b_LA_shape 3 = .ok (.aload_n 0, 1) := by decide +kernel
theorem d_LA_shape_4 : decode b_LA_shape 4 = .ok (.iload_n 1, 1) := by decide +kernel
theorem d_LA_shape_5 : decode b_LA_shape 5 = .ok (.iload_n 2, 1) := by decide +kernel
theorem d_LA_shape_6 : decode b_LA_shape 6 = .ok (.iload_n 3, 1) := by decide +kernel
theorem d_LA_shape_7 : decode b_LA_shape 7 = .ok (.invokevirtual 35, 3) := by decide +kernel
theorem d_LA_shape_10 : decode b_LA_shape 10 = .ok (.lastore, 1) := by decide +kernel
theorem d_LA_shape_11 : decode b_LA_shape 11 = .ok (.goto 7, 3) := by decide +kernel
theorem d_LA_shape_14 : decode b_LA_shape 14 = .ok (.astore 5, 2) := by decide +kernel
theorem d_LA_shape_16 : decode b_LA_shape 16 = .ok (.iconst 1, 1) := by decide +kernel
theorem d_LA_shape_17 : decode b_LA_shape 17 = .ok (.ireturn, 1) := by decide +kernel
theorem d_LA_shape_18 : decode b_LA_shape 18 = .ok (.iconst 0, 1) := by decide +kernel
theorem d_LA_shape_19 : decode b_LA_shape 19 = .ok (.ireturn, 1) := by decide +kernel
theorem d_LA_least_0 : decode b_LA_least 0 = .ok (.aload_n 2, 1) := by decide +kernel
theorem d_LA_least_1 : decode b_LA_least 1 = .ok (.iconst 0, 1) := by decide +kernel
theorem d_LA_least_2 : decode b_LA_least 2 = .ok (.aload_n 0, 1) := by decide +kernel
theorem d_LA_least_3 : decode b_LA_least 3 = .ok (.iload_n 1, 1) := by decide +kernel
theorem d_LA_least_4 : decode b_LA_least 4 = .ok (.invokevirtual 39, 3) := by decide +kernel
theorem d_LA_least_7 : decode b_LA_least 7 = .ok (.lastore, 1) := by decide +kernel
theorem d_LA_least_8 : decode b_LA_least 8 = .ok (.goto 6, 3) := by decide +kernel
theorem d_LA_least_11 : decode b_LA_least 11 = .ok (.astore_n 3, 1) := by decide +kernel
theorem d_LA_least_12 : decode b_LA_least 12 = .ok (.iconst 1, 1) := by decide +kernel
theorem d_LA_least_13 : decode b_LA_least 13 = .ok (.ireturn, 1) := by decide +kernel
theorem d_LA_least_14 : decode b_LA_least 14 = .ok (.iconst 0, 1) := by decide +kernel
theorem d_LA_least_15 : decode b_LA_least 15 = .ok (.ireturn, 1) := by decide +kernel
theorem d_LA_pair_0 : decode b_LA_pair 0 = .ok (.aload_n 2, 1) := by decide +kernel
theorem d_LA_pair_1 : decode b_LA_pair 1 = .ok (.iconst 0, 1) := by decide +kernel
theorem d_LA_pair_2 : decode b_LA_pair 2 = .ok (.aload_n 0, 1) := by decide +kernel
theorem d_LA_pair_3 : decode b_LA_pair 3 = .ok (.iload_n 1, 1) := by decide +kernel
theorem d_LA_pair_4 : decode b_LA_pair 4 = .ok (.invokevirtual 43, 3) := by decide +kernel
theorem d_LA_pair_7 : decode b_LA_pair 7 = .ok (.i2l, 1) := by decide +kernel
theorem d_LA_pair_8 : decode b_LA_pair 8 = .ok (.lastore, 1) := by decide +kernel
theorem d_LA_pair_9 : decode b_LA_pair 9 = .ok (.goto 6, 3) := by decide +kernel
theorem d_LA_pair_12 : decode b_LA_pair 12 = .ok (.astore_n 3, 1) := by decide +kernel
theorem d_LA_pair_13 : decode b_LA_pair 13 = .ok (.iconst 1, 1) := by decide +kernel
theorem d_LA_pair_14 : decode b_LA_pair 14 = .ok (.ireturn, 1) := by decide +kernel
theorem d_LA_pair_15 : decode b_LA_pair 15 = .ok (.iconst 0, 1) := by decide +kernel
theorem d_LA_pair_16 : decode b_LA_pair 16 = .ok (.ireturn, 1) := by decide +kernel
theorem d_LA_at_0 : decode b_LA_at 0 = .ok (.aload_n 3, 1) := by decide +kernel
theorem d_LA_at_1 : decode b_LA_at 1 = .ok (.iconst 0, 1) := by decide +kernel
theorem d_LA_at_2 : decode b_LA_at 2 = .ok (.aload_n 0, 1) := by decide +kernel
theorem d_LA_at_3 : decode b_LA_at 3 = .ok (.iload_n 1, 1) := by decide +kernel
theorem d_LA_at_4 : decode b_LA_at 4 = .ok (.iload_n 2, 1) := by decide +kernel
theorem d_LA_at_5 : decode b_LA_at 5 = .ok (.invokevirtual 46, 3) := by decide +kernel
theorem d_LA_at_8 : decode b_LA_at 8 = .ok (.lastore, 1) := by decide +kernel
theorem d_LA_at_9 : decode b_LA_at 9 = .ok (.goto 7, 3) := by decide +kernel
theorem d_LA_at_12 : decode b_LA_at 12 = .ok (.astore 4, 2) := by decide +kernel
theorem d_LA_at_14 : decode b_LA_at 14 = .ok (.iconst 1, 1) := by decide +kernel
theorem d_LA_at_15 : decode b_LA_at 15 = .ok (.ireturn, 1) := by decide +kernel
theorem d_LA_at_16 : decode b_LA_at 16 = .ok (.iconst 0, 1) := by decide +kernel
theorem d_LA_at_17 : decode b_LA_at 17 = .ok (.ireturn, 1) := by decide +kernel
theorem d_LA_turned_0 : decode b_LA_turned 0 = .ok (.aload_n 2, 1) := by decide +kernel
theorem d_LA_turned_1 : decode b_LA_turned 1 = .ok (.iconst 0, 1) := by decide +kernel
theorem d_LA_turned_2 : decode b_LA_turned 2 = .ok (.aload_n 0, 1) := by decide +kernel
theorem d_LA_turned_3 : decode b_LA_turned 3 = .ok (.iload_n 1, 1) := by decide +kernel
theorem d_LA_turned_4 : decode b_LA_turned 4 = .ok (.invokevirtual 50, 3) := by decide +kernel
theorem d_LA_turned_7 : decode b_LA_turned 7 = .ok (.ifCond .eq 7, 3) := by decide +kernel
theorem d_LA_turned_10 : decode b_LA_turned 10 = .ok (.lconst 1, 1) := by decide +kernel
theorem d_LA_turned_11 : decode b_LA_turned 11 = .ok (.goto 4, 3) := by decide +kernel
theorem d_LA_turned_14 : decode b_LA_turned 14 = .ok (.lconst 0, 1) := by decide +kernel
theorem d_LA_turned_15 : decode b_LA_turned 15 = .ok (.lastore, 1) := by decide +kernel
theorem d_LA_turned_16 : decode b_LA_turned 16 = .ok (.goto 6, 3) := by decide +kernel
theorem d_LA_turned_19 : decode b_LA_turned 19 = .ok (.astore_n 3, 1) := by decide +kernel
theorem d_LA_turned_20 : decode b_LA_turned 20 = .ok (.iconst 1, 1) := by decide +kernel
theorem d_LA_turned_21 : decode b_LA_turned 21 = .ok (.ireturn, 1) := by decide +kernel
theorem d_LA_turned_22 : decode b_LA_turned 22 = .ok (.iconst 0, 1) := by decide +kernel
theorem d_LA_turned_23 : decode b_LA_turned 23 = .ok (.ireturn, 1) := by decide +kernel
theorem d_LA_pin_0 : decode b_LA_pin 0 = .ok (.aload 4, 2) := by decide +kernel
theorem d_LA_pin_2 : decode b_LA_pin 2 = .ok (.iconst 0, 1) := by decide +kernel
theorem d_LA_pin_3 : decode b_LA_pin 3 = .ok (.aload_n 0, 1) := by decide +kernel
theorem d_LA_pin_4 : decode b_LA_pin 4 = .ok (.iload_n 1, 1) := by decide +kernel
theorem d_LA_pin_5 : decode b_LA_pin 5 = .ok (.iload_n 2, 1) := by decide +kernel
theorem d_LA_pin_6 : decode b_LA_pin 6 = .ok (.iload_n 3, 1) := by decide +kernel
theorem d_LA_pin_7 : decode b_LA_pin 7 = .ok (.invokevirtual 54, 3) := by decide +kernel
theorem d_LA_pin_10 : decode b_LA_pin 10 = .ok (.i2l, 1) := by decide +kernel
theorem d_LA_pin_11 : decode b_LA_pin 11 = .ok (.lastore, 1) := by decide +kernel
theorem d_LA_pin_12 : decode b_LA_pin 12 = .ok (.goto 7, 3) := by decide +kernel
theorem d_LA_pin_15 : decode b_LA_pin 15 = .ok (.astore 5, 2) := by decide +kernel
theorem d_LA_pin_17 : decode b_LA_pin 17 = .ok (.iconst 1, 1) := by decide +kernel
theorem d_LA_pin_18 : decode b_LA_pin 18 = .ok (.ireturn, 1) := by decide +kernel
theorem d_LA_pin_19 : decode b_LA_pin 19 = .ok (.iconst 0, 1) := by decide +kernel
theorem d_LA_pin_20 : decode b_LA_pin 20 = .ok (.ireturn, 1) := by decide +kernel
theorem d_LA_outline_0 : decode b_LA_outline 0 = .ok (.aload 5, 2) := by decide +kernel
theorem d_LA_outline_2 : decode b_LA_outline 2 = .ok (.iconst 0, 1) := by decide +kernel
theorem d_LA_outline_3 : decode b_LA_outline 3 = .ok (.aload_n 0, 1) := by decide +kernel
theorem d_LA_outline_4 : decode b_LA_outline 4 = .ok (.lload_n 1, 1) := by decide +kernel
theorem d_LA_outline_5 : decode b_LA_outline 5 = .ok (.lload_n 3, 1) := by decide +kernel
theorem d_LA_outline_6 : decode b_LA_outline 6 = .ok (.invokevirtual 58, 3) := by decide +kernel
theorem d_LA_outline_9 : decode b_LA_outline 9 = .ok (.ifCond .eq 7, 3) := by decide +kernel
theorem d_LA_outline_12 : decode b_LA_outline 12 = .ok (.lconst 1, 1) := by decide +kernel
theorem d_LA_outline_13 : decode b_LA_outline 13 = .ok (.goto 4, 3) := by decide +kernel
theorem d_LA_outline_16 : decode b_LA_outline 16 = .ok (.lconst 0, 1) := by decide +kernel
theorem d_LA_outline_17 : decode b_LA_outline 17 = .ok (.lastore, 1) := by decide +kernel
theorem d_LA_outline_18 : decode b_LA_outline 18 = .ok (.goto 7, 3) := by decide +kernel
theorem d_LA_outline_21 : decode b_LA_outline 21 = .ok (.astore 6, 2) := by decide +kernel
theorem d_LA_outline_23 : decode b_LA_outline 23 = .ok (.iconst 1, 1) := by decide +kernel
theorem d_LA_outline_24 : decode b_LA_outline 24 = .ok (.ireturn, 1) := by decide +kernel
theorem d_LA_outline_25 : decode b_LA_outline 25 = .ok (.iconst 0, 1) := by decide +kernel
theorem d_LA_outline_26 : decode b_LA_outline 26 = .ok (.ireturn, 1) := by decide +kernel
set_option maxHeartbeats 4000000 in
set_option maxRecDepth 100000 in
/-- shapes: no thing -/
theorem h_shapes_x (l : Launch) (D : va_G) (htl : ∀ e' : Env, l.admits e' → e'.platform.stackTraces = false) (sz : Nat) (aS aB aN aP aE aI : Nat → Nat) (cA cZ c2 cT : ClassId) (tc : Nat) (tf : Nat → Option Nat) (aO : Nat) (t : Int32) (hno : t < 0 ∨ nI tc ≤ t) : Met l y_LA_shapes (wsH y_LA_shapes b_LA_shapes 4 (some .int) [(0, 9, 12, 21)]) ({ frames := 7, cells := 1, slots := 6, locals := 130 } : Room) (zPF zT2 D [(cA, .int), (cZ, .boolean), (c2, .array .int), (cT, .object R_TH)] [(aS 0, .inr (0, [.ref (aS 1), .int (nI tc), .ref (aB 0), .ref (aN 0), .ref (aP 0), .ref (aE 0), .ref (aI 0)])), (aS 1, .inl (cT, 40, .inr (.inr (.inr (.inr tf)))))] [.ref (aS 0), .int t, .ref aO] sz) (zQ (some (.int (nI 1))) (zB D [(cA, .int), (cZ, .boolean), (c2, .array .int), (cT, .object R_TH)] (va_A [(aS 0, .inr (0, [.ref (aS 1), .int (nI tc), .ref (aB 0), .ref (aN 0), .ref (aP 0), .ref (aE 0), .ref (aI 0)])), (aS 1, .inl (cT, 40, .inr (.inr (.inr (.inr tf)))))] sz) [(aS 0, .inr (0, [.ref (aS 1), .int (nI tc), .ref (aB 0), .ref (aN 0), .ref (aP 0), .ref (aE 0), .ref (aI 0)])), (aS 1, .inl (cT, 40, .inr (.inr (.inr (.inr tf)))))]) (va_A [(aS 0, .inr (0, [.ref (aS 1), .int (nI tc), .ref (aB 0), .ref (aN 0), .ref (aP 0), .ref (aE 0), .ref (aI 0)])), (aS 1, .inl (cT, 40, .inr (.inr (.inr (.inr tf)))))] sz)) 1 6 (va_A [(aS 0, .inr (0, [.ref (aS 1), .int (nI tc), .ref (aB 0), .ref (aN 0), .ref (aP 0), .ref (aE 0), .ref (aI 0)])), (aS 1, .inl (cT, 40, .inr (.inr (.inr (.inr tf)))))] sz) := by
  refine zc_MetW (hh := [(0, 9, 12, 21)]) (cc := b_LA_shapes) (maxL := 4) (ret := (some .int)) (by decide) rfl ?_
  intro p e s m args below meth c s₁ Bd hml htab hv
  obtain ⟨rfl, hsz, hP, hK, hD0, hF⟩ := hv
  have hx := Bd.exec
  have hb := Bd.bytes
  have hr := Bd.returns
  have hts : ∀ w ∈ lw_g, w.before _ s = true := fun w h => atoms_spec (ws := wsH y_LA_shapes b_LA_shapes 4 (some .int) [(0, 9, 12, 21)]) Bd.pre w (List.mem_cons_of_mem _ h)
  have hown : s.vm.findClass R_LA = some m.cls := findClass_of_methodNamed Bd.named
  have hlocks := Bd.notSynchronized
  obtain ⟨hD, hA, hS⟩ := z_start hsz hD0
  generalize va_A [(aS 0, .inr (0, [.ref (aS 1), .int (nI tc), .ref (aB 0), .ref (aN 0), .ref (aP 0), .ref (aE 0), .ref (aI 0)])), (aS 1, .inl (cT, 40, .inr (.inr (.inr (.inr tf)))))] sz = A at hD hA hS hF ⊢
  have hl := lv_entry ([.ref (aS 0), .int t, .ref aO]) (n := 4) (Nat.le_of_ble_eq_true rfl)
  rw [lg_entry_eq]
  generalize (lg_sl ([.ref (aS 0), .int t, .ref aO]) ++ List.replicate (4 - (lg_sl ([.ref (aS 0), .int t, .ref aO])).length) Slot.unset).toArray = ls at hl ⊢
  have hl : lv_has ls 4 [(0, .ref (aS 0)), (1, .int t), (2, .ref aO)] := hl
  have hP : va_P D classes [(aS 0, .inr (0, [.ref (aS 1), .int (nI tc), .ref (aB 0), .ref (aN 0), .ref (aP 0), .ref (aE 0), .ref (aI 0)])), (aS 1, .inl (cT, 40, .inr (.inr (.inr (.inr tf)))))] s.heap := hP
  refine lv_aload_n hx hb d_LA_shapes_0 rfl (lv_at hl 2 rfl) ?_
  refine lv_iconst (v := nI 0) hx hb d_LA_shapes_1 (by decide) ?_
  refine lv_aload_n hx hb d_LA_shapes_2 rfl (lv_at hl 0 rfl) ?_
  refine lv_iload_n hx hb d_LA_shapes_3 rfl (lv_at hl 1 rfl) ?_
  have hhit : ∀ cl9 : ClassId, s.vm.findClass R_JIOB = some cl9 → zcHit 4 s ([.ref (aS 0), .int t, .ref aO] : List Value).toArray R_LA cl9 12 c.exceptionTable.toList := fun cl9 hcl9 => by
    exact zc_tab _ _ htab ⟨by decide, by decide, R_JIOB, cl9, hts _ kc_LA_21, hcl9, Or.inl ⟨zT2_hit hF (by decide) hcl9, rfl⟩⟩
  refine zcF_V (ci := 0) (q0 := 0) (hp := 12) (cls := R_JIOB) (As := [.int t]) (rest := [.int (nI 0), .ref aO]) (n := 1) zT2_ok ⟨hx, hb, hml, hown, hts⟩ (x_SB_shapes l D htl aS aB aN aP aE aI cA cZ c2 cT tc tf t hno) ⟨km_LA_31, ki_SB_shapes, ks_SB_shapes, kn_SB, kd_SB_shapes⟩ (by decide +kernel) (by decide) ⟨Nat.le_of_ble_eq_true rfl, Nat.le_of_ble_eq_true rfl⟩ hK hP (zF_now zT2_ok hF hS) rfl rfl rfl hl.1 rfl (Nat.le_of_ble_eq_true rfl) d_LA_shapes_4 hhit (fun H x9 hz9 hold9 hx9 => ?_)
  have hP := hP.old hold9
  have hS : va_S A s.heap H [] := ⟨hz9, fun q h1 h2 => hold9 q h1, fun q h => by cases h⟩
  refine lv_astore_n (lv' := [(3, .ref x9), (0, .ref (aS 0)), (1, .int t), (2, .ref aO)]) hx hb d_LA_shapes_12 rfl hl (by decide) rfl (fun ls hl => ?_)
  refine lv_iconst (v := nI 1) hx hb d_LA_shapes_13 (by decide) ?_
  exact W.iret hx hb hr (fun t ht hW => ⟨rfl, ⟨by rw [ht]; exact hP, va_K.moved hW.alike hK, hD⟩, hS.F ht⟩) hS.2.2 d_LA_shapes_14
set_option maxHeartbeats 4000000 in
set_option maxRecDepth 100000 in
/-- least: no thing -/
theorem h_least_x (l : Launch) (D : va_G) (htl : ∀ e' : Env, l.admits e' → e'.platform.stackTraces = false) (sz : Nat) (aS aB aN aP aE aI : Nat → Nat) (cA cZ c2 cT : ClassId) (tc : Nat) (tf : Nat → Option Nat) (aO : Nat) (t : Int32) (hno : t < 0 ∨ nI tc ≤ t) : Met l y_LA_least (wsH y_LA_least b_LA_least 4 (some .int) [(0, 8, 11, 21)]) ({ frames := 7, cells := 1, slots := 6, locals := 130 } : Room) (zPF zT2 D [(cA, .int), (cZ, .boolean), (c2, .array .int), (cT, .object R_TH)] [(aS 0, .inr (0, [.ref (aS 1), .int (nI tc), .ref (aB 0), .ref (aN 0), .ref (aP 0), .ref (aE 0), .ref (aI 0)])), (aS 1, .inl (cT, 40, .inr (.inr (.inr (.inr tf)))))] [.ref (aS 0), .int t, .ref aO] sz) (zQ (some (.int (nI 1))) (zB D [(cA, .int), (cZ, .boolean), (c2, .array .int), (cT, .object R_TH)] (va_A [(aS 0, .inr (0, [.ref (aS 1), .int (nI tc), .ref (aB 0), .ref (aN 0), .ref (aP 0), .ref (aE 0), .ref (aI 0)])), (aS 1, .inl (cT, 40, .inr (.inr (.inr (.inr tf)))))] sz) [(aS 0, .inr (0, [.ref (aS 1), .int (nI tc), .ref (aB 0), .ref (aN 0), .ref (aP 0), .ref (aE 0), .ref (aI 0)])), (aS 1, .inl (cT, 40, .inr (.inr (.inr (.inr tf)))))]) (va_A [(aS 0, .inr (0, [.ref (aS 1), .int (nI tc), .ref (aB 0), .ref (aN 0), .ref (aP 0), .ref (aE 0), .ref (aI 0)])), (aS 1, .inl (cT, 40, .inr (.inr (.inr (.inr tf)))))] sz)) 1 6 (va_A [(aS 0, .inr (0, [.ref (aS 1), .int (nI tc), .ref (aB 0), .ref (aN 0), .ref (aP 0), .ref (aE 0), .ref (aI 0)])), (aS 1, .inl (cT, 40, .inr (.inr (.inr (.inr tf)))))] sz) := by
  refine zc_MetW (hh := [(0, 8, 11, 21)]) (cc := b_LA_least) (maxL := 4) (ret := (some .int)) (by decide) rfl ?_
  intro p e s m args below meth c s₁ Bd hml htab hv
  obtain ⟨rfl, hsz, hP, hK, hD0, hF⟩ := hv
  have hx := Bd.exec
  have hb := Bd.bytes
  have hr := Bd.returns
  have hts : ∀ w ∈ lw_g, w.before _ s = true := fun w h => atoms_spec (ws := wsH y_LA_least b_LA_least 4 (some .int) [(0, 8, 11, 21)]) Bd.pre w (List.mem_cons_of_mem _ h)
  have hown : s.vm.findClass R_LA = some m.cls := findClass_of_methodNamed Bd.named
  have hlocks := Bd.notSynchronized
  obtain ⟨hD, hA, hS⟩ := z_start hsz hD0
  generalize va_A [(aS 0, .inr (0, [.ref (aS 1), .int (nI tc), .ref (aB 0), .ref (aN 0), .ref (aP 0), .ref (aE 0), .ref (aI 0)])), (aS 1, .inl (cT, 40, .inr (.inr (.inr (.inr tf)))))] sz = A at hD hA hS hF ⊢
  have hl := lv_entry ([.ref (aS 0), .int t, .ref aO]) (n := 4) (Nat.le_of_ble_eq_true rfl)
  rw [lg_entry_eq]
  generalize (lg_sl ([.ref (aS 0), .int t, .ref aO]) ++ List.replicate (4 - (lg_sl ([.ref (aS 0), .int t, .ref aO])).length) Slot.unset).toArray = ls at hl ⊢
  have hl : lv_has ls 4 [(0, .ref (aS 0)), (1, .int t), (2, .ref aO)] := hl
  have hP : va_P D classes [(aS 0, .inr (0, [.ref (aS 1), .int (nI tc), .ref (aB 0), .ref (aN 0), .ref (aP 0), .ref (aE 0), .ref (aI 0)])), (aS 1, .inl (cT, 40, .inr (.inr (.inr (.inr tf)))))] s.heap := hP
  refine lv_aload_n hx hb d_LA_least_0 rfl (lv_at hl 2 rfl) ?_
  refine lv_iconst (v := nI 0) hx hb d_LA_least_1 (by decide) ?_
  refine lv_aload_n hx hb d_LA_least_2 rfl (lv_at hl 0 rfl) ?_
  refine lv_iload_n hx hb d_LA_least_3 rfl (lv_at hl 1 rfl) ?_
  have hhit : ∀ cl9 : ClassId, s.vm.findClass R_JIOB = some cl9 → zcHit 4 s ([.ref (aS 0), .int t, .ref aO] : List Value).toArray R_LA cl9 11 c.exceptionTable.toList := fun cl9 hcl9 => by
    exact zc_tab _ _ htab ⟨by decide, by decide, R_JIOB, cl9, hts _ kc_LA_21, hcl9, Or.inl ⟨zT2_hit hF (by decide) hcl9, rfl⟩⟩
  refine zcF_V (ci := 0) (q0 := 0) (hp := 11) (cls := R_JIOB) (As := [.int t]) (rest := [.int (nI 0), .ref aO]) (n := 1) zT2_ok ⟨hx, hb, hml, hown, hts⟩ (x_SB_least l D htl aS aB aN aP aE aI cA cZ c2 cT tc tf t hno) ⟨km_LA_39, ki_SB_least, ks_SB_least, kn_SB, kd_SB_least⟩ (by decide +kernel) (by decide) ⟨Nat.le_of_ble_eq_true rfl, Nat.le_of_ble_eq_true rfl⟩ hK hP (zF_now zT2_ok hF hS) rfl rfl rfl hl.1 rfl (Nat.le_of_ble_eq_true rfl) d_LA_least_4 hhit (fun H x9 hz9 hold9 hx9 => ?_)
  have hP := hP.old hold9
  have hS : va_S A s.heap H [] := ⟨hz9, fun q h1 h2 => hold9 q h1, fun q h => by cases h⟩
  refine lv_astore_n (lv' := [(3, .ref x9), (0, .ref (aS 0)), (1, .int t), (2, .ref aO)]) hx hb d_LA_least_11 rfl hl (by decide) rfl (fun ls hl => ?_)
  refine lv_iconst (v := nI 1) hx hb d_LA_least_12 (by decide) ?_
  exact W.iret hx hb hr (fun t ht hW => ⟨rfl, ⟨by rw [ht]; exact hP, va_K.moved hW.alike hK, hD⟩, hS.F ht⟩) hS.2.2 d_LA_least_13
set_option maxHeartbeats 4000000 in
set_option maxRecDepth 100000 in
/-- shape: no thing -/
theorem h_shape_x0 (l : Launch) (D : va_G) (htl : ∀ e' : Env, l.admits e' → e'.platform.stackTraces = false) (sz : Nat) (aS aB aN aP aE aI : Nat → Nat) (cA cZ c2 cT : ClassId) (tc : Nat) (tf : Nat → Option Nat) (aO : Nat) (t k0 s0 : Int32) (hno : t < 0 ∨ nI tc ≤ t) : Met l y_LA_shape (wsH y_LA_shape b_LA_shape 6 (some .int) [(0, 11, 14, 21)]) ({ frames := 7, cells := 1, slots := 6, locals := 130 } : Room) (zPF zT2 D [(cA, .int), (cZ, .boolean), (c2, .array .int), (cT, .object R_TH)] [(aS 0, .inr (0, [.ref (aS 1), .int (nI tc), .ref (aB 0), .ref (aN 0), .ref (aP 0), .ref (aE 0), .ref (aI 0)])), (aS 1, .inl (cT, 40, .inr (.inr (.inr (.inr tf)))))] [.ref (aS 0), .int t, .int k0, .int s0, .ref aO] sz) (zQ (some (.int (nI 1))) (zB D [(cA, .int), (cZ, .boolean), (c2, .array .int), (cT, .object R_TH)] (va_A [(aS 0, .inr (0, [.ref (aS 1), .int (nI tc), .ref (aB 0), .ref (aN 0), .ref (aP 0), .ref (aE 0), .ref (aI 0)])), (aS 1, .inl (cT, 40, .inr (.inr (.inr (.inr tf)))))] sz) [(aS 0, .inr (0, [.ref (aS 1), .int (nI tc), .ref (aB 0), .ref (aN 0), .ref (aP 0), .ref (aE 0), .ref (aI 0)])), (aS 1, .inl (cT, 40, .inr (.inr (.inr (.inr tf)))))]) (va_A [(aS 0, .inr (0, [.ref (aS 1), .int (nI tc), .ref (aB 0), .ref (aN 0), .ref (aP 0), .ref (aE 0), .ref (aI 0)])), (aS 1, .inl (cT, 40, .inr (.inr (.inr (.inr tf)))))] sz)) 1 6 (va_A [(aS 0, .inr (0, [.ref (aS 1), .int (nI tc), .ref (aB 0), .ref (aN 0), .ref (aP 0), .ref (aE 0), .ref (aI 0)])), (aS 1, .inl (cT, 40, .inr (.inr (.inr (.inr tf)))))] sz) := by
  refine zc_MetW (hh := [(0, 11, 14, 21)]) (cc := b_LA_shape) (maxL := 6) (ret := (some .int)) (by decide) rfl ?_
  intro p e s m args below meth c s₁ Bd hml htab hv
  obtain ⟨rfl, hsz, hP, hK, hD0, hF⟩ := hv
  have hx := Bd.exec
  have hb := Bd.bytes
  have hr := Bd.returns
  have hts : ∀ w ∈ lw_g, w.before _ s = true := fun w h => atoms_spec (ws := wsH y_LA_shape b_LA_shape 6 (some .int) [(0, 11, 14, 21)]) Bd.pre w (List.mem_cons_of_mem _ h)
  have hown : s.vm.findClass R_LA = some m.cls := findClass_of_methodNamed Bd.named
  have hlocks := Bd.notSynchronized
  obtain ⟨hD, hA, hS⟩ := z_start hsz hD0
  generalize va_A [(aS 0, .inr (0, [.ref (aS 1), .int (nI tc), .ref (aB 0), .ref (aN 0), .ref (aP 0), .ref (aE 0), .ref (aI 0)])), (aS 1, .inl (cT, 40, .inr (.inr (.inr (.inr tf)))))] sz = A at hD hA hS hF ⊢
  have hl := lv_entry ([.ref (aS 0), .int t, .int k0, .int s0, .ref aO]) (n := 6) (Nat.le_of_ble_eq_true rfl)
  rw [lg_entry_eq]
  generalize (lg_sl ([.ref (aS 0), .int t, .int k0, .int s0, .ref aO]) ++ List.replicate (6 - (lg_sl ([.ref (aS 0), .int t, .int k0, .int s0, .ref aO])).length) Slot.unset).toArray = ls at hl ⊢
  have hl : lv_has ls 6 [(0, .ref (aS 0)), (1, .int t), (2, .int k0), (3, .int s0), (4, .ref aO)] := hl
  have hP : va_P D classes [(aS 0, .inr (0, [.ref (aS 1), .int (nI tc), .ref (aB 0), .ref (aN 0), .ref (aP 0), .ref (aE 0), .ref (aI 0)])), (aS 1, .inl (cT, 40, .inr (.inr (.inr (.inr tf)))))] s.heap := hP
  refine lv_aload hx hb d_LA_shape_0 (lv_at hl 4 rfl) ?_
  refine lv_iconst (v := nI 0) hx hb d_LA_shape_2 (by decide) ?_
  refine lv_aload_n hx hb d_LA_shape_3 rfl (lv_at hl 0 rfl) ?_
  refine lv_iload_n hx hb d_LA_shape_4 rfl (lv_at hl 1 rfl) ?_
  refine lv_iload_n hx hb d_LA_shape_5 rfl (lv_at hl 2 rfl) ?_
  refine lv_iload_n hx hb d_LA_shape_6 rfl (lv_at hl 3 rfl) ?_
  have hhit : ∀ cl9 : ClassId, s.vm.findClass R_JIOB = some cl9 → zcHit 7 s ([.ref (aS 0), .int t, .int k0, .int s0, .ref aO] : List Value).toArray R_LA cl9 14 c.exceptionTable.toList := fun cl9 hcl9 => by
    exact zc_tab _ _ htab ⟨by decide, by decide, R_JIOB, cl9, hts _ kc_LA_21, hcl9, Or.inl ⟨zT2_hit hF (by decide) hcl9, rfl⟩⟩
  refine zcF_V (ci := 0) (q0 := 0) (hp := 14) (cls := R_JIOB) (As := [.int t, .int k0, .int s0]) (rest := [.int (nI 0), .ref aO]) (n := 3) zT2_ok ⟨hx, hb, hml, hown, hts⟩ (x_SB_shape0 l D htl aS aB aN aP aE aI cA cZ c2 cT tc tf t k0 s0 hno) ⟨km_LA_35, ki_SB_shape, ks_SB_shape, kn_SB, kd_SB_shape⟩ (by decide +kernel) (by decide) ⟨Nat.le_of_ble_eq_true rfl, Nat.le_of_ble_eq_true rfl⟩ hK hP (zF_now zT2_ok hF hS) rfl rfl rfl hl.1 rfl (Nat.le_of_ble_eq_true rfl) d_LA_shape_7 hhit (fun H x9 hz9 hold9 hx9 => ?_)
  have hP := hP.old hold9
  have hS : va_S A s.heap H [] := ⟨hz9, fun q h1 h2 => hold9 q h1, fun q h => by cases h⟩
  refine lv_astore (lv' := [(5, .ref x9), (0, .ref (aS 0)), (1, .int t), (2, .int k0), (3, .int s0), (4, .ref aO)]) hx hb d_LA_shape_14 hl (by decide) rfl (fun ls hl => ?_)
  refine lv_iconst (v := nI 1) hx hb d_LA_shape_16 (by decide) ?_
  exact W.iret hx hb hr (fun t ht hW => ⟨rfl, ⟨by rw [ht]; exact hP, va_K.moved hW.alike hK, hD⟩, hS.F ht⟩) hS.2.2 d_LA_shape_17
set_option maxHeartbeats 4000000 in
set_option maxRecDepth 100000 in
/-- shape: no shape or side -/
theorem h_shape_x1 (l : Launch) (D : va_G) (htl : ∀ e' : Env, l.admits e' → e'.platform.stackTraces = false) (sz : Nat) (aS aB aN aP aE aI : Nat → Nat) (cA cZ c2 cT : ClassId) (tc : Nat) (tf : Nat → Option Nat) (aO : Nat) (aT aU aW aH cap ct : Nat) (fw fh : Nat → Nat) (bk : Int32) (us : Bool) (tt : Nat) (k0 s0 : Int32) (h40 : tc ≤ 40) (htt : tt < tc) (htf : tf tt = some aT) (hno : k0 < 0 ∨ nI ct ≤ k0 ∨ ¬ (s0 = 0 ∨ s0 = 1)) : Met l y_LA_shape (wsH y_LA_shape b_LA_shape 6 (some .int) [(0, 11, 14, 21)]) ({ frames := 7, cells := 1, slots := 6, locals := 130 } : Room) (zPF zT2 D [(cA, .int), (cZ, .boolean), (c2, .array .int), (cT, .object R_TH)] [(aT, .inr (9, [.int bk, .ref aU, .int (zb us)])), (aU, .inr (8, [.ref aW, .ref aH, .int (nI ct)])), (aW, .inl (cA, cap, .inl (fun zk => nI (fw zk)))), (aH, .inl (cA, cap, .inl (fun zk => nI (fh zk)))), (aS 0, .inr (0, [.ref (aS 1), .int (nI tc), .ref (aB 0), .ref (aN 0), .ref (aP 0), .ref (aE 0), .ref (aI 0)])), (aS 1, .inl (cT, 40, .inr (.inr (.inr (.inr tf)))))] [.ref (aS 0), .int (nI tt), .int k0, .int s0, .ref aO] sz) (zQ (some (.int (nI 1))) (zB D [(cA, .int), (cZ, .boolean), (c2, .array .int), (cT, .object R_TH)] (va_A [(aT, .inr (9, [.int bk, .ref aU, .int (zb us)])), (aU, .inr (8, [.ref aW, .ref aH, .int (nI ct)])), (aW, .inl (cA, cap, .inl (fun zk => nI (fw zk)))), (aH, .inl (cA, cap, .inl (fun zk => nI (fh zk)))), (aS 0, .inr (0, [.ref (aS 1), .int (nI tc), .ref (aB 0), .ref (aN 0), .ref (aP 0), .ref (aE 0), .ref (aI 0)])), (aS 1, .inl (cT, 40, .inr (.inr (.inr (.inr tf)))))] sz) [(aT, .inr (9, [.int bk, .ref aU, .int (zb us)])), (aU, .inr (8, [.ref aW, .ref aH, .int (nI ct)])), (aW, .inl (cA, cap, .inl (fun zk => nI (fw zk)))), (aH, .inl (cA, cap, .inl (fun zk => nI (fh zk)))), (aS 0, .inr (0, [.ref (aS 1), .int (nI tc), .ref (aB 0), .ref (aN 0), .ref (aP 0), .ref (aE 0), .ref (aI 0)])), (aS 1, .inl (cT, 40, .inr (.inr (.inr (.inr tf)))))]) (va_A [(aT, .inr (9, [.int bk, .ref aU, .int (zb us)])), (aU, .inr (8, [.ref aW, .ref aH, .int (nI ct)])), (aW, .inl (cA, cap, .inl (fun zk => nI (fw zk)))), (aH, .inl (cA, cap, .inl (fun zk => nI (fh zk)))), (aS 0, .inr (0, [.ref (aS 1), .int (nI tc), .ref (aB 0), .ref (aN 0), .ref (aP 0), .ref (aE 0), .ref (aI 0)])), (aS 1, .inl (cT, 40, .inr (.inr (.inr (.inr tf)))))] sz)) 1 6 (va_A [(aT, .inr (9, [.int bk, .ref aU, .int (zb us)])), (aU, .inr (8, [.ref aW, .ref aH, .int (nI ct)])), (aW, .inl (cA, cap, .inl (fun zk => nI (fw zk)))), (aH, .inl (cA, cap, .inl (fun zk => nI (fh zk)))), (aS 0, .inr (0, [.ref (aS 1), .int (nI tc), .ref (aB 0), .ref (aN 0), .ref (aP 0), .ref (aE 0), .ref (aI 0)])), (aS 1, .inl (cT, 40, .inr (.inr (.inr (.inr tf)))))] sz) := by
  refine zc_MetW (hh := [(0, 11, 14, 21)]) (cc := b_LA_shape) (maxL := 6) (ret := (some .int)) (by decide) rfl ?_
  intro p e s m args below meth c s₁ Bd hml htab hv
  obtain ⟨rfl, hsz, hP, hK, hD0, hF⟩ := hv
  have hx := Bd.exec
  have hb := Bd.bytes
  have hr := Bd.returns
  have hts : ∀ w ∈ lw_g, w.before _ s = true := fun w h => atoms_spec (ws := wsH y_LA_shape b_LA_shape 6 (some .int) [(0, 11, 14, 21)]) Bd.pre w (List.mem_cons_of_mem _ h)
  have hown : s.vm.findClass R_LA = some m.cls := findClass_of_methodNamed Bd.named
  have hlocks := Bd.notSynchronized
  obtain ⟨hD, hA, hS⟩ := z_start hsz hD0
  generalize va_A [(aT, .inr (9, [.int bk, .ref aU, .int (zb us)])), (aU, .inr (8, [.ref aW, .ref aH, .int (nI ct)])), (aW, .inl (cA, cap, .inl (fun zk => nI (fw zk)))), (aH, .inl (cA, cap, .inl (fun zk => nI (fh zk)))), (aS 0, .inr (0, [.ref (aS 1), .int (nI tc), .ref (aB 0), .ref (aN 0), .ref (aP 0), .ref (aE 0), .ref (aI 0)])), (aS 1, .inl (cT, 40, .inr (.inr (.inr (.inr tf)))))] sz = A at hD hA hS hF ⊢
  have hl := lv_entry ([.ref (aS 0), .int (nI tt), .int k0, .int s0, .ref aO]) (n := 6) (Nat.le_of_ble_eq_true rfl)
  rw [lg_entry_eq]
  generalize (lg_sl ([.ref (aS 0), .int (nI tt), .int k0, .int s0, .ref aO]) ++ List.replicate (6 - (lg_sl ([.ref (aS 0), .int (nI tt), .int k0, .int s0, .ref aO])).length) Slot.unset).toArray = ls at hl ⊢
  have hl : lv_has ls 6 [(0, .ref (aS 0)), (1, .int (nI tt)), (2, .int k0), (3, .int s0), (4, .ref aO)] := hl
  have hP : va_P D classes [(aT, .inr (9, [.int bk, .ref aU, .int (zb us)])), (aU, .inr (8, [.ref aW, .ref aH, .int (nI ct)])), (aW, .inl (cA, cap, .inl (fun zk => nI (fw zk)))), (aH, .inl (cA, cap, .inl (fun zk => nI (fh zk)))), (aS 0, .inr (0, [.ref (aS 1), .int (nI tc), .ref (aB 0), .ref (aN 0), .ref (aP 0), .ref (aE 0), .ref (aI 0)])), (aS 1, .inl (cT, 40, .inr (.inr (.inr (.inr tf)))))] s.heap := hP
  refine lv_aload hx hb d_LA_shape_0 (lv_at hl 4 rfl) ?_
  refine lv_iconst (v := nI 0) hx hb d_LA_shape_2 (by decide) ?_
  refine lv_aload_n hx hb d_LA_shape_3 rfl (lv_at hl 0 rfl) ?_
  refine lv_iload_n hx hb d_LA_shape_4 rfl (lv_at hl 1 rfl) ?_
  refine lv_iload_n hx hb d_LA_shape_5 rfl (lv_at hl 2 rfl) ?_
  refine lv_iload_n hx hb d_LA_shape_6 rfl (lv_at hl 3 rfl) ?_
  have hhit : ∀ cl9 : ClassId, s.vm.findClass R_JIOB = some cl9 → zcHit 7 s ([.ref (aS 0), .int (nI tt), .int k0, .int s0, .ref aO] : List Value).toArray R_LA cl9 14 c.exceptionTable.toList := fun cl9 hcl9 => by
    exact zc_tab _ _ htab ⟨by decide, by decide, R_JIOB, cl9, hts _ kc_LA_21, hcl9, Or.inl ⟨zT2_hit hF (by decide) hcl9, rfl⟩⟩
  refine zcF_V (ci := 0) (q0 := 4) (hp := 14) (cls := R_JIOB) (As := [.int (nI tt), .int k0, .int s0]) (rest := [.int (nI 0), .ref aO]) (n := 3) zT2_ok ⟨hx, hb, hml, hown, hts⟩ (x_SB_shape1 l D htl aS aB aN aP aE aI cA cZ c2 cT tc tf aT aU aW aH cap ct fw fh bk us tt k0 s0 h40 htt htf hno) ⟨km_LA_35, ki_SB_shape, ks_SB_shape, kn_SB, kd_SB_shape⟩ (by decide +kernel) (by decide) ⟨Nat.le_of_ble_eq_true rfl, Nat.le_of_ble_eq_true rfl⟩ hK hP (zF_now zT2_ok hF hS) rfl rfl rfl hl.1 rfl (Nat.le_of_ble_eq_true rfl) d_LA_shape_7 hhit (fun H x9 hz9 hold9 hx9 => ?_)
  have hP := hP.old hold9
  have hS : va_S A s.heap H [] := ⟨hz9, fun q h1 h2 => hold9 q h1, fun q h => by cases h⟩
  refine lv_astore (lv' := [(5, .ref x9), (0, .ref (aS 0)), (1, .int (nI tt)), (2, .int k0), (3, .int s0), (4, .ref aO)]) hx hb d_LA_shape_14 hl (by decide) rfl (fun ls hl => ?_)
  refine lv_iconst (v := nI 1) hx hb d_LA_shape_16 (by decide) ?_
  exact W.iret hx hb hr (fun t ht hW => ⟨rfl, ⟨by rw [ht]; exact hP, va_K.moved hW.alike hK, hD⟩, hS.F ht⟩) hS.2.2 d_LA_shape_17
set_option maxHeartbeats 4000000 in
set_option maxRecDepth 100000 in
/-- turned: no block -/
theorem h_turned_x (l : Launch) (D : va_G) (htl : ∀ e' : Env, l.admits e' → e'.platform.stackTraces = false) (sz : Nat) (aS aB aN aP aE aI : Nat → Nat) (cA cZ c2 cT : ClassId) (tc : Nat) (tf : Nat → Option Nat) (aO : Nat) (tcs : va_W) (t v : Int32) (h40 : tc ≤ 40) (hfb : fbR tc tf tcs t v) (hv0 : v = -1) : Met l y_LA_turned (wsH y_LA_turned b_LA_turned 4 (some .int) [(0, 16, 19, 21)]) ({ frames := 7, cells := 1, slots := 6, locals := 130 } : Room) (zPF zT2 D [(cA, .int), (cZ, .boolean), (c2, .array .int), (cT, .object R_TH)] ((aS 0, .inr (0, [.ref (aS 1), .int (nI tc), .ref (aB 0), .ref (aN 0), .ref (aP 0), .ref (aE 0), .ref (aI 0)])) :: (aS 1, .inl (cT, 40, .inr (.inr (.inr (.inr tf))))) :: tcs) [.ref (aS 0), .int t, .ref aO] sz) (zQ (some (.int (nI 1))) (zB D [(cA, .int), (cZ, .boolean), (c2, .array .int), (cT, .object R_TH)] (va_A ((aS 0, .inr (0, [.ref (aS 1), .int (nI tc), .ref (aB 0), .ref (aN 0), .ref (aP 0), .ref (aE 0), .ref (aI 0)])) :: (aS 1, .inl (cT, 40, .inr (.inr (.inr (.inr tf))))) :: tcs) sz) ((aS 0, .inr (0, [.ref (aS 1), .int (nI tc), .ref (aB 0), .ref (aN 0), .ref (aP 0), .ref (aE 0), .ref (aI 0)])) :: (aS 1, .inl (cT, 40, .inr (.inr (.inr (.inr tf))))) :: tcs)) (va_A ((aS 0, .inr (0, [.ref (aS 1), .int (nI tc), .ref (aB 0), .ref (aN 0), .ref (aP 0), .ref (aE 0), .ref (aI 0)])) :: (aS 1, .inl (cT, 40, .inr (.inr (.inr (.inr tf))))) :: tcs) sz)) 1 6 (va_A ((aS 0, .inr (0, [.ref (aS 1), .int (nI tc), .ref (aB 0), .ref (aN 0), .ref (aP 0), .ref (aE 0), .ref (aI 0)])) :: (aS 1, .inl (cT, 40, .inr (.inr (.inr (.inr tf))))) :: tcs) sz) := by
  refine zc_MetW (hh := [(0, 16, 19, 21)]) (cc := b_LA_turned) (maxL := 4) (ret := (some .int)) (by decide) rfl ?_
  intro p e s m args below meth c s₁ Bd hml htab hv
  obtain ⟨rfl, hsz, hP, hK, hD0, hF⟩ := hv
  have hx := Bd.exec
  have hb := Bd.bytes
  have hr := Bd.returns
  have hts : ∀ w ∈ lw_g, w.before _ s = true := fun w h => atoms_spec (ws := wsH y_LA_turned b_LA_turned 4 (some .int) [(0, 16, 19, 21)]) Bd.pre w (List.mem_cons_of_mem _ h)
  have hown : s.vm.findClass R_LA = some m.cls := findClass_of_methodNamed Bd.named
  have hlocks := Bd.notSynchronized
  obtain ⟨hD, hA, hS⟩ := z_start hsz hD0
  generalize va_A ((aS 0, .inr (0, [.ref (aS 1), .int (nI tc), .ref (aB 0), .ref (aN 0), .ref (aP 0), .ref (aE 0), .ref (aI 0)])) :: (aS 1, .inl (cT, 40, .inr (.inr (.inr (.inr tf))))) :: tcs) sz = A at hD hA hS hF ⊢
  have hl := lv_entry ([.ref (aS 0), .int t, .ref aO]) (n := 4) (Nat.le_of_ble_eq_true rfl)
  rw [lg_entry_eq]
  generalize (lg_sl ([.ref (aS 0), .int t, .ref aO]) ++ List.replicate (4 - (lg_sl ([.ref (aS 0), .int t, .ref aO])).length) Slot.unset).toArray = ls at hl ⊢
  have hl : lv_has ls 4 [(0, .ref (aS 0)), (1, .int t), (2, .ref aO)] := hl
  have hP : va_P D classes ((aS 0, .inr (0, [.ref (aS 1), .int (nI tc), .ref (aB 0), .ref (aN 0), .ref (aP 0), .ref (aE 0), .ref (aI 0)])) :: (aS 1, .inl (cT, 40, .inr (.inr (.inr (.inr tf))))) :: tcs) s.heap := hP
  refine lv_aload_n hx hb d_LA_turned_0 rfl (lv_at hl 2 rfl) ?_
  refine lv_iconst (v := nI 0) hx hb d_LA_turned_1 (by decide) ?_
  refine lv_aload_n hx hb d_LA_turned_2 rfl (lv_at hl 0 rfl) ?_
  refine lv_iload_n hx hb d_LA_turned_3 rfl (lv_at hl 1 rfl) ?_
  have hhit : ∀ cl9 : ClassId, s.vm.findClass R_JIOB = some cl9 → zcHit 4 s ([.ref (aS 0), .int t, .ref aO] : List Value).toArray R_LA cl9 19 c.exceptionTable.toList := fun cl9 hcl9 => by
    exact zc_tab _ _ htab ⟨by decide, by decide, R_JIOB, cl9, hts _ kc_LA_21, hcl9, Or.inl ⟨zT2_hit hF (by decide) hcl9, rfl⟩⟩
  refine zcF_V (ci := 0) (q0 := 0) (hp := 19) (cls := R_JIOB) (As := [.int t]) (rest := [.int (nI 0), .ref aO]) (n := 1) zT2_ok ⟨hx, hb, hml, hown, hts⟩ (x_SB_turned l D htl aS aB aN aP aE aI cA cZ c2 cT tc tf tcs t v h40 hfb hv0) ⟨km_LA_50, ki_SB_turned, ks_SB_turned, kn_SB, kd_SB_turned⟩ (by decide +kernel) (by decide) ⟨Nat.le_of_ble_eq_true rfl, Nat.le_of_ble_eq_true rfl⟩ hK hP (zF_now zT2_ok hF hS) rfl rfl rfl hl.1 rfl (Nat.le_of_ble_eq_true rfl) d_LA_turned_4 hhit (fun H x9 hz9 hold9 hx9 => ?_)
  have hP := hP.old hold9
  have hS : va_S A s.heap H [] := ⟨hz9, fun q h1 h2 => hold9 q h1, fun q h => by cases h⟩
  refine lv_astore_n (lv' := [(3, .ref x9), (0, .ref (aS 0)), (1, .int t), (2, .ref aO)]) hx hb d_LA_turned_19 rfl hl (by decide) rfl (fun ls hl => ?_)
  refine lv_iconst (v := nI 1) hx hb d_LA_turned_20 (by decide) ?_
  exact W.iret hx hb hr (fun t ht hW => ⟨rfl, ⟨by rw [ht]; exact hP, va_K.moved hW.alike hK, hD⟩, hS.F ht⟩) hS.2.2 d_LA_turned_21
set_option maxHeartbeats 4000000 in
set_option maxRecDepth 100000 in
/-- at: refused -/
theorem h_at_x (l : Launch) (D : va_G) (htl : ∀ e' : Env, l.admits e' → e'.platform.stackTraces = false) (sz : Nat) (aS aB aN aP aE aI : Nat → Nat) (cA cZ c2 cT : ClassId) (tc : Nat) (tf : Nat → Option Nat) (aO : Nat) (tcs : va_W) (t v : Int32) (ax : Int32) (h40 : tc ≤ 40) (hfb : fbR tc tf tcs t v) (hno : v = -1 ∨ ax < 0 ∨ 1 < ax) : Met l y_LA_at (wsH y_LA_at b_LA_at 5 (some .int) [(0, 9, 12, 21)]) ({ frames := 7, cells := 1, slots := 6, locals := 130 } : Room) (zPF zT2 D [(cA, .int), (cZ, .boolean), (c2, .array .int), (cT, .object R_TH)] ((aS 0, .inr (0, [.ref (aS 1), .int (nI tc), .ref (aB 0), .ref (aN 0), .ref (aP 0), .ref (aE 0), .ref (aI 0)])) :: (aS 1, .inl (cT, 40, .inr (.inr (.inr (.inr tf))))) :: tcs) [.ref (aS 0), .int t, .int ax, .ref aO] sz) (zQ (some (.int (nI 1))) (zB D [(cA, .int), (cZ, .boolean), (c2, .array .int), (cT, .object R_TH)] (va_A ((aS 0, .inr (0, [.ref (aS 1), .int (nI tc), .ref (aB 0), .ref (aN 0), .ref (aP 0), .ref (aE 0), .ref (aI 0)])) :: (aS 1, .inl (cT, 40, .inr (.inr (.inr (.inr tf))))) :: tcs) sz) ((aS 0, .inr (0, [.ref (aS 1), .int (nI tc), .ref (aB 0), .ref (aN 0), .ref (aP 0), .ref (aE 0), .ref (aI 0)])) :: (aS 1, .inl (cT, 40, .inr (.inr (.inr (.inr tf))))) :: tcs)) (va_A ((aS 0, .inr (0, [.ref (aS 1), .int (nI tc), .ref (aB 0), .ref (aN 0), .ref (aP 0), .ref (aE 0), .ref (aI 0)])) :: (aS 1, .inl (cT, 40, .inr (.inr (.inr (.inr tf))))) :: tcs) sz)) 1 6 (va_A ((aS 0, .inr (0, [.ref (aS 1), .int (nI tc), .ref (aB 0), .ref (aN 0), .ref (aP 0), .ref (aE 0), .ref (aI 0)])) :: (aS 1, .inl (cT, 40, .inr (.inr (.inr (.inr tf))))) :: tcs) sz) := by
  refine zc_MetW (hh := [(0, 9, 12, 21)]) (cc := b_LA_at) (maxL := 5) (ret := (some .int)) (by decide) rfl ?_
  intro p e s m args below meth c s₁ Bd hml htab hv
  obtain ⟨rfl, hsz, hP, hK, hD0, hF⟩ := hv
  have hx := Bd.exec
  have hb := Bd.bytes
  have hr := Bd.returns
  have hts : ∀ w ∈ lw_g, w.before _ s = true := fun w h => atoms_spec (ws := wsH y_LA_at b_LA_at 5 (some .int) [(0, 9, 12, 21)]) Bd.pre w (List.mem_cons_of_mem _ h)
  have hown : s.vm.findClass R_LA = some m.cls := findClass_of_methodNamed Bd.named
  have hlocks := Bd.notSynchronized
  obtain ⟨hD, hA, hS⟩ := z_start hsz hD0
  generalize va_A ((aS 0, .inr (0, [.ref (aS 1), .int (nI tc), .ref (aB 0), .ref (aN 0), .ref (aP 0), .ref (aE 0), .ref (aI 0)])) :: (aS 1, .inl (cT, 40, .inr (.inr (.inr (.inr tf))))) :: tcs) sz = A at hD hA hS hF ⊢
  have hl := lv_entry ([.ref (aS 0), .int t, .int ax, .ref aO]) (n := 5) (Nat.le_of_ble_eq_true rfl)
  rw [lg_entry_eq]
  generalize (lg_sl ([.ref (aS 0), .int t, .int ax, .ref aO]) ++ List.replicate (5 - (lg_sl ([.ref (aS 0), .int t, .int ax, .ref aO])).length) Slot.unset).toArray = ls at hl ⊢
  have hl : lv_has ls 5 [(0, .ref (aS 0)), (1, .int t), (2, .int ax), (3, .ref aO)] := hl
  have hP : va_P D classes ((aS 0, .inr (0, [.ref (aS 1), .int (nI tc), .ref (aB 0), .ref (aN 0), .ref (aP 0), .ref (aE 0), .ref (aI 0)])) :: (aS 1, .inl (cT, 40, .inr (.inr (.inr (.inr tf))))) :: tcs) s.heap := hP
  refine lv_aload_n hx hb d_LA_at_0 rfl (lv_at hl 3 rfl) ?_
  refine lv_iconst (v := nI 0) hx hb d_LA_at_1 (by decide) ?_
  refine lv_aload_n hx hb d_LA_at_2 rfl (lv_at hl 0 rfl) ?_
  refine lv_iload_n hx hb d_LA_at_3 rfl (lv_at hl 1 rfl) ?_
  refine lv_iload_n hx hb d_LA_at_4 rfl (lv_at hl 2 rfl) ?_
  have hhit : ∀ cl9 : ClassId, s.vm.findClass R_JIOB = some cl9 → zcHit 5 s ([.ref (aS 0), .int t, .int ax, .ref aO] : List Value).toArray R_LA cl9 12 c.exceptionTable.toList := fun cl9 hcl9 => by
    exact zc_tab _ _ htab ⟨by decide, by decide, R_JIOB, cl9, hts _ kc_LA_21, hcl9, Or.inl ⟨zT2_hit hF (by decide) hcl9, rfl⟩⟩
  refine zcF_V (ci := 0) (q0 := 0) (hp := 12) (cls := R_JIOB) (As := [.int t, .int ax]) (rest := [.int (nI 0), .ref aO]) (n := 2) zT2_ok ⟨hx, hb, hml, hown, hts⟩ (x_SB_at l D htl aS aB aN aP aE aI cA cZ c2 cT tc tf tcs t v ax h40 hfb hno) ⟨km_LA_46, ki_SB_at, ks_SB_at, kn_SB, kd_SB_at⟩ (by decide +kernel) (by decide) ⟨Nat.le_of_ble_eq_true rfl, Nat.le_of_ble_eq_true rfl⟩ hK hP (zF_now zT2_ok hF hS) rfl rfl rfl hl.1 rfl (Nat.le_of_ble_eq_true rfl) d_LA_at_5 hhit (fun H x9 hz9 hold9 hx9 => ?_)
  have hP := hP.old hold9
  have hS : va_S A s.heap H [] := ⟨hz9, fun q h1 h2 => hold9 q h1, fun q h => by cases h⟩
  refine lv_astore (lv' := [(4, .ref x9), (0, .ref (aS 0)), (1, .int t), (2, .int ax), (3, .ref aO)]) hx hb d_LA_at_12 hl (by decide) rfl (fun ls hl => ?_)
  refine lv_iconst (v := nI 1) hx hb d_LA_at_14 (by decide) ?_
  exact W.iret hx hb hr (fun t ht hW => ⟨rfl, ⟨by rw [ht]; exact hP, va_K.moved hW.alike hK, hD⟩, hS.F ht⟩) hS.2.2 d_LA_at_15
set_option maxHeartbeats 4000000 in
set_option maxRecDepth 100000 in
/-- pin: refused -/
theorem h_pin_x (l : Launch) (D : va_G) (htl : ∀ e' : Env, l.admits e' → e'.platform.stackTraces = false) (sz : Nat) (aS aB aN aP aE aI : Nat → Nat) (cA cZ c2 cT : ClassId) (tc : Nat) (tf : Nat → Option Nat) (aO : Nat) (tcs : va_W) (t v : Int32) (s0 k0 : Int32) (h40 : tc ≤ 40) (hfb : fbR tc tf tcs t v) (hno : v = -1 ∨ s0 < 0 ∨ 3 < s0 ∨ k0 < 0 ∨ 1 < k0) : Met l y_LA_pin (wsH y_LA_pin b_LA_pin 6 (some .int) [(0, 12, 15, 21)]) ({ frames := 7, cells := 1, slots := 6, locals := 130 } : Room) (zPF zT2 D [(cA, .int), (cZ, .boolean), (c2, .array .int), (cT, .object R_TH)] ((aS 0, .inr (0, [.ref (aS 1), .int (nI tc), .ref (aB 0), .ref (aN 0), .ref (aP 0), .ref (aE 0), .ref (aI 0)])) :: (aS 1, .inl (cT, 40, .inr (.inr (.inr (.inr tf))))) :: tcs) [.ref (aS 0), .int t, .int s0, .int k0, .ref aO] sz) (zQ (some (.int (nI 1))) (zB D [(cA, .int), (cZ, .boolean), (c2, .array .int), (cT, .object R_TH)] (va_A ((aS 0, .inr (0, [.ref (aS 1), .int (nI tc), .ref (aB 0), .ref (aN 0), .ref (aP 0), .ref (aE 0), .ref (aI 0)])) :: (aS 1, .inl (cT, 40, .inr (.inr (.inr (.inr tf))))) :: tcs) sz) ((aS 0, .inr (0, [.ref (aS 1), .int (nI tc), .ref (aB 0), .ref (aN 0), .ref (aP 0), .ref (aE 0), .ref (aI 0)])) :: (aS 1, .inl (cT, 40, .inr (.inr (.inr (.inr tf))))) :: tcs)) (va_A ((aS 0, .inr (0, [.ref (aS 1), .int (nI tc), .ref (aB 0), .ref (aN 0), .ref (aP 0), .ref (aE 0), .ref (aI 0)])) :: (aS 1, .inl (cT, 40, .inr (.inr (.inr (.inr tf))))) :: tcs) sz)) 1 6 (va_A ((aS 0, .inr (0, [.ref (aS 1), .int (nI tc), .ref (aB 0), .ref (aN 0), .ref (aP 0), .ref (aE 0), .ref (aI 0)])) :: (aS 1, .inl (cT, 40, .inr (.inr (.inr (.inr tf))))) :: tcs) sz) := by
  refine zc_MetW (hh := [(0, 12, 15, 21)]) (cc := b_LA_pin) (maxL := 6) (ret := (some .int)) (by decide) rfl ?_
  intro p e s m args below meth c s₁ Bd hml htab hv
  obtain ⟨rfl, hsz, hP, hK, hD0, hF⟩ := hv
  have hx := Bd.exec
  have hb := Bd.bytes
  have hr := Bd.returns
  have hts : ∀ w ∈ lw_g, w.before _ s = true := fun w h => atoms_spec (ws := wsH y_LA_pin b_LA_pin 6 (some .int) [(0, 12, 15, 21)]) Bd.pre w (List.mem_cons_of_mem _ h)
  have hown : s.vm.findClass R_LA = some m.cls := findClass_of_methodNamed Bd.named
  have hlocks := Bd.notSynchronized
  obtain ⟨hD, hA, hS⟩ := z_start hsz hD0
  generalize va_A ((aS 0, .inr (0, [.ref (aS 1), .int (nI tc), .ref (aB 0), .ref (aN 0), .ref (aP 0), .ref (aE 0), .ref (aI 0)])) :: (aS 1, .inl (cT, 40, .inr (.inr (.inr (.inr tf))))) :: tcs) sz = A at hD hA hS hF ⊢
  have hl := lv_entry ([.ref (aS 0), .int t, .int s0, .int k0, .ref aO]) (n := 6) (Nat.le_of_ble_eq_true rfl)
  rw [lg_entry_eq]
  generalize (lg_sl ([.ref (aS 0), .int t, .int s0, .int k0, .ref aO]) ++ List.replicate (6 - (lg_sl ([.ref (aS 0), .int t, .int s0, .int k0, .ref aO])).length) Slot.unset).toArray = ls at hl ⊢
  have hl : lv_has ls 6 [(0, .ref (aS 0)), (1, .int t), (2, .int s0), (3, .int k0), (4, .ref aO)] := hl
  have hP : va_P D classes ((aS 0, .inr (0, [.ref (aS 1), .int (nI tc), .ref (aB 0), .ref (aN 0), .ref (aP 0), .ref (aE 0), .ref (aI 0)])) :: (aS 1, .inl (cT, 40, .inr (.inr (.inr (.inr tf))))) :: tcs) s.heap := hP
  refine lv_aload hx hb d_LA_pin_0 (lv_at hl 4 rfl) ?_
  refine lv_iconst (v := nI 0) hx hb d_LA_pin_2 (by decide) ?_
  refine lv_aload_n hx hb d_LA_pin_3 rfl (lv_at hl 0 rfl) ?_
  refine lv_iload_n hx hb d_LA_pin_4 rfl (lv_at hl 1 rfl) ?_
  refine lv_iload_n hx hb d_LA_pin_5 rfl (lv_at hl 2 rfl) ?_
  refine lv_iload_n hx hb d_LA_pin_6 rfl (lv_at hl 3 rfl) ?_
  have hhit : ∀ cl9 : ClassId, s.vm.findClass R_JIOB = some cl9 → zcHit 7 s ([.ref (aS 0), .int t, .int s0, .int k0, .ref aO] : List Value).toArray R_LA cl9 15 c.exceptionTable.toList := fun cl9 hcl9 => by
    exact zc_tab _ _ htab ⟨by decide, by decide, R_JIOB, cl9, hts _ kc_LA_21, hcl9, Or.inl ⟨zT2_hit hF (by decide) hcl9, rfl⟩⟩
  refine zcF_V (ci := 0) (q0 := 0) (hp := 15) (cls := R_JIOB) (As := [.int t, .int s0, .int k0]) (rest := [.int (nI 0), .ref aO]) (n := 3) zT2_ok ⟨hx, hb, hml, hown, hts⟩ (x_SB_pin l D htl aS aB aN aP aE aI cA cZ c2 cT tc tf tcs t v s0 k0 h40 hfb hno) ⟨km_LA_54, ki_SB_pin, ks_SB_pin, kn_SB, kd_SB_pin⟩ (by decide +kernel) (by decide) ⟨Nat.le_of_ble_eq_true rfl, Nat.le_of_ble_eq_true rfl⟩ hK hP (zF_now zT2_ok hF hS) rfl rfl rfl hl.1 rfl (Nat.le_of_ble_eq_true rfl) d_LA_pin_7 hhit (fun H x9 hz9 hold9 hx9 => ?_)
  have hP := hP.old hold9
  have hS : va_S A s.heap H [] := ⟨hz9, fun q h1 h2 => hold9 q h1, fun q h => by cases h⟩
  refine lv_astore (lv' := [(5, .ref x9), (0, .ref (aS 0)), (1, .int t), (2, .int s0), (3, .int k0), (4, .ref aO)]) hx hb d_LA_pin_15 hl (by decide) rfl (fun ls hl => ?_)
  refine lv_iconst (v := nI 1) hx hb d_LA_pin_17 (by decide) ?_
  exact W.iret hx hb hr (fun t ht hW => ⟨rfl, ⟨by rw [ht]; exact hP, va_K.moved hW.alike hK, hD⟩, hS.F ht⟩) hS.2.2 d_LA_pin_18
set_option maxHeartbeats 4000000 in
set_option maxRecDepth 100000 in
/-- fix: no block -/
theorem h_fix_x1 (l : Launch) (D : va_G) (htl : ∀ e' : Env, l.admits e' → e'.platform.stackTraces = false) (sz : Nat) (aS aB aN aP aE aI : Nat → Nat) (cA cZ c2 cT : ClassId) (tc : Nat) (tf : Nat → Option Nat) (aO : Nat) (tcs : va_W) (t v : Int32) (x0 y0 : Int64) (h40 : tc ≤ 40) (hfb : fbR tc tf tcs t v) (hv0 : v = -1) : Met l y_LA_fix (wsH y_LA_fix b_LA_fix 8 (some .int) [(0, 20, 23, 21), (0, 20, 27, 15)]) ({ frames := 7, cells := 1, slots := 6, locals := 130 } : Room) (zPF zT2 D [(cA, .int), (cZ, .boolean), (c2, .array .int), (cT, .object R_TH)] ((aS 0, .inr (0, [.ref (aS 1), .int (nI tc), .ref (aB 0), .ref (aN 0), .ref (aP 0), .ref (aE 0), .ref (aI 0)])) :: (aS 1, .inl (cT, 40, .inr (.inr (.inr (.inr tf))))) :: tcs) [.ref (aS 0), .int t, .long x0, .long y0, .ref aO] sz) (zQ (some (.int (nI 1))) (zB D [(cA, .int), (cZ, .boolean), (c2, .array .int), (cT, .object R_TH)] (va_A ((aS 0, .inr (0, [.ref (aS 1), .int (nI tc), .ref (aB 0), .ref (aN 0), .ref (aP 0), .ref (aE 0), .ref (aI 0)])) :: (aS 1, .inl (cT, 40, .inr (.inr (.inr (.inr tf))))) :: tcs) sz) ((aS 0, .inr (0, [.ref (aS 1), .int (nI tc), .ref (aB 0), .ref (aN 0), .ref (aP 0), .ref (aE 0), .ref (aI 0)])) :: (aS 1, .inl (cT, 40, .inr (.inr (.inr (.inr tf))))) :: tcs)) (va_A ((aS 0, .inr (0, [.ref (aS 1), .int (nI tc), .ref (aB 0), .ref (aN 0), .ref (aP 0), .ref (aE 0), .ref (aI 0)])) :: (aS 1, .inl (cT, 40, .inr (.inr (.inr (.inr tf))))) :: tcs) sz)) 1 6 (va_A ((aS 0, .inr (0, [.ref (aS 1), .int (nI tc), .ref (aB 0), .ref (aN 0), .ref (aP 0), .ref (aE 0), .ref (aI 0)])) :: (aS 1, .inl (cT, 40, .inr (.inr (.inr (.inr tf))))) :: tcs) sz) := by
  refine zc_MetW (hh := [(0, 20, 23, 21), (0, 20, 27, 15)]) (cc := b_LA_fix) (maxL := 8) (ret := (some .int)) (by decide) rfl ?_
  intro p e s m args below meth c s₁ Bd hml htab hv
  obtain ⟨rfl, hsz, hP, hK, hD0, hF⟩ := hv
  have hx := Bd.exec
  have hb := Bd.bytes
  have hr := Bd.returns
  have hts : ∀ w ∈ lw_g, w.before _ s = true := fun w h => atoms_spec (ws := wsH y_LA_fix b_LA_fix 8 (some .int) [(0, 20, 23, 21), (0, 20, 27, 15)]) Bd.pre w (List.mem_cons_of_mem _ h)
  have hown : s.vm.findClass R_LA = some m.cls := findClass_of_methodNamed Bd.named
  have hlocks := Bd.notSynchronized
  obtain ⟨hD, hA, hS⟩ := z_start hsz hD0
  generalize va_A ((aS 0, .inr (0, [.ref (aS 1), .int (nI tc), .ref (aB 0), .ref (aN 0), .ref (aP 0), .ref (aE 0), .ref (aI 0)])) :: (aS 1, .inl (cT, 40, .inr (.inr (.inr (.inr tf))))) :: tcs) sz = A at hD hA hS hF ⊢
  have hl := lv_entry ([.ref (aS 0), .int t, .long x0, .long y0, .ref aO]) (n := 8) (Nat.le_of_ble_eq_true rfl)
  rw [lg_entry_eq]
  generalize (lg_sl ([.ref (aS 0), .int t, .long x0, .long y0, .ref aO]) ++ List.replicate (8 - (lg_sl ([.ref (aS 0), .int t, .long x0, .long y0, .ref aO])).length) Slot.unset).toArray = ls at hl ⊢
  have hl : lv_has ls 8 [(0, .ref (aS 0)), (1, .int t), (2, .long x0), (4, .long y0), (6, .ref aO)] := hl
  have hP : va_P D classes ((aS 0, .inr (0, [.ref (aS 1), .int (nI tc), .ref (aB 0), .ref (aN 0), .ref (aP 0), .ref (aE 0), .ref (aI 0)])) :: (aS 1, .inl (cT, 40, .inr (.inr (.inr (.inr tf))))) :: tcs) s.heap := hP
  refine lv_aload hx hb d_LA_fix_0 (lv_at hl 4 rfl) ?_
  refine lv_iconst (v := nI 0) hx hb d_LA_fix_2 (by decide) ?_
  refine lv_aload_n hx hb d_LA_fix_3 rfl (lv_at hl 0 rfl) ?_
  refine lv_iload_n hx hb d_LA_fix_4 rfl (lv_at hl 1 rfl) ?_
  refine lv_lload_n hx hb d_LA_fix_5 rfl (lv_at hl 2 rfl) ?_
  refine lv_lload hx hb d_LA_fix_6 (lv_at hl 3 rfl) ?_
  have hhit : ∀ cl9 : ClassId, s.vm.findClass R_JIOB = some cl9 → zcHit 8 s ([.ref (aS 0), .int t, .long x0, .long y0, .ref aO] : List Value).toArray R_LA cl9 23 c.exceptionTable.toList := fun cl9 hcl9 => by
    exact zc_tab _ _ htab ⟨by decide, by decide, R_JIOB, cl9, hts _ kc_LA_21, hcl9, Or.inl ⟨zT2_hit hF (by decide) hcl9, rfl⟩⟩
  refine zcF_V (ci := 0) (q0 := 0) (hp := 23) (cls := R_JIOB) (As := [.int t, .long x0, .long y0]) (rest := [.int (nI 0), .ref aO]) (n := 3) zT2_ok ⟨hx, hb, hml, hown, hts⟩ (x_SB_fix1 l D htl aS aB aN aP aE aI cA cZ c2 cT tc tf tcs t v x0 y0 h40 hfb hv0) ⟨km_LA_17, ki_SB_fix, ks_SB_fix, kn_SB, kd_SB_fix⟩ (by decide +kernel) (by decide) ⟨Nat.le_of_ble_eq_true rfl, Nat.le_of_ble_eq_true rfl⟩ hK hP (zF_now zT2_ok hF hS) rfl rfl rfl hl.1 rfl (Nat.le_of_ble_eq_true rfl) d_LA_fix_8 hhit (fun H x9 hz9 hold9 hx9 => ?_)
  have hP := hP.old hold9
  have hS : va_S A s.heap H [] := ⟨hz9, fun q h1 h2 => hold9 q h1, fun q h => by cases h⟩
  refine lv_astore (lv' := [(7, .ref x9), (0, .ref (aS 0)), (1, .int t), (2, .long x0), (4, .long y0), (6, .ref aO)]) hx hb d_LA_fix_23 hl (by decide) rfl (fun ls hl => ?_)
  refine lv_iconst (v := nI 1) hx hb d_LA_fix_25 (by decide) ?_
  exact W.iret hx hb hr (fun t ht hW => ⟨rfl, ⟨by rw [ht]; exact hP, va_K.moved hW.alike hK, hD⟩, hS.F ht⟩) hS.2.2 d_LA_fix_26
set_option maxHeartbeats 4000000 in
set_option maxRecDepth 100000 in
/-- fix: too far -/
theorem h_fix_x2 (l : Launch) (D : va_G) (htl : ∀ e' : Env, l.admits e' → e'.platform.stackTraces = false) (sz : Nat) (aS aB aN aP aE aI : Nat → Nat) (cA cZ c2 cT : ClassId) (tc : Nat) (tf : Nat → Option Nat) (aO : Nat) (tcs : va_W) (t v : Int32) (x0 y0 : Int64) (h40 : tc ≤ 40) (hfb : fbR tc tf tcs t v) (hv0 : v ≠ -1) (hno : x0 < lN 0 ∨ lN 20000 < x0 ∨ y0 < lN 0 ∨ lN 20000 < y0) : Met l y_LA_fix (wsH y_LA_fix b_LA_fix 8 (some .int) [(0, 20, 23, 21), (0, 20, 27, 15)]) ({ frames := 7, cells := 1, slots := 6, locals := 130 } : Room) (zPF zT2 D [(cA, .int), (cZ, .boolean), (c2, .array .int), (cT, .object R_TH)] ((aS 0, .inr (0, [.ref (aS 1), .int (nI tc), .ref (aB 0), .ref (aN 0), .ref (aP 0), .ref (aE 0), .ref (aI 0)])) :: (aS 1, .inl (cT, 40, .inr (.inr (.inr (.inr tf))))) :: tcs) [.ref (aS 0), .int t, .long x0, .long y0, .ref aO] sz) (zQ (some (.int (nI 2))) (zB D [(cA, .int), (cZ, .boolean), (c2, .array .int), (cT, .object R_TH)] (va_A ((aS 0, .inr (0, [.ref (aS 1), .int (nI tc), .ref (aB 0), .ref (aN 0), .ref (aP 0), .ref (aE 0), .ref (aI 0)])) :: (aS 1, .inl (cT, 40, .inr (.inr (.inr (.inr tf))))) :: tcs) sz) ((aS 0, .inr (0, [.ref (aS 1), .int (nI tc), .ref (aB 0), .ref (aN 0), .ref (aP 0), .ref (aE 0), .ref (aI 0)])) :: (aS 1, .inl (cT, 40, .inr (.inr (.inr (.inr tf))))) :: tcs)) (va_A ((aS 0, .inr (0, [.ref (aS 1), .int (nI tc), .ref (aB 0), .ref (aN 0), .ref (aP 0), .ref (aE 0), .ref (aI 0)])) :: (aS 1, .inl (cT, 40, .inr (.inr (.inr (.inr tf))))) :: tcs) sz)) 1 6 (va_A ((aS 0, .inr (0, [.ref (aS 1), .int (nI tc), .ref (aB 0), .ref (aN 0), .ref (aP 0), .ref (aE 0), .ref (aI 0)])) :: (aS 1, .inl (cT, 40, .inr (.inr (.inr (.inr tf))))) :: tcs) sz) := by
  refine zc_MetW (hh := [(0, 20, 23, 21), (0, 20, 27, 15)]) (cc := b_LA_fix) (maxL := 8) (ret := (some .int)) (by decide) rfl ?_
  intro p e s m args below meth c s₁ Bd hml htab hv
  obtain ⟨rfl, hsz, hP, hK, hD0, hF⟩ := hv
  have hx := Bd.exec
  have hb := Bd.bytes
  have hr := Bd.returns
  have hts : ∀ w ∈ lw_g, w.before _ s = true := fun w h => atoms_spec (ws := wsH y_LA_fix b_LA_fix 8 (some .int) [(0, 20, 23, 21), (0, 20, 27, 15)]) Bd.pre w (List.mem_cons_of_mem _ h)
  have hown : s.vm.findClass R_LA = some m.cls := findClass_of_methodNamed Bd.named
  have hlocks := Bd.notSynchronized
  obtain ⟨hD, hA, hS⟩ := z_start hsz hD0
  generalize va_A ((aS 0, .inr (0, [.ref (aS 1), .int (nI tc), .ref (aB 0), .ref (aN 0), .ref (aP 0), .ref (aE 0), .ref (aI 0)])) :: (aS 1, .inl (cT, 40, .inr (.inr (.inr (.inr tf))))) :: tcs) sz = A at hD hA hS hF ⊢
  have hl := lv_entry ([.ref (aS 0), .int t, .long x0, .long y0, .ref aO]) (n := 8) (Nat.le_of_ble_eq_true rfl)
  rw [lg_entry_eq]
  generalize (lg_sl ([.ref (aS 0), .int t, .long x0, .long y0, .ref aO]) ++ List.replicate (8 - (lg_sl ([.ref (aS 0), .int t, .long x0, .long y0, .ref aO])).length) Slot.unset).toArray = ls at hl ⊢
  have hl : lv_has ls 8 [(0, .ref (aS 0)), (1, .int t), (2, .long x0), (4, .long y0), (6, .ref aO)] := hl
  have hP : va_P D classes ((aS 0, .inr (0, [.ref (aS 1), .int (nI tc), .ref (aB 0), .ref (aN 0), .ref (aP 0), .ref (aE 0), .ref (aI 0)])) :: (aS 1, .inl (cT, 40, .inr (.inr (.inr (.inr tf))))) :: tcs) s.heap := hP
  refine lv_aload hx hb d_LA_fix_0 (lv_at hl 4 rfl) ?_
  refine lv_iconst (v := nI 0) hx hb d_LA_fix_2 (by decide) ?_
  refine lv_aload_n hx hb d_LA_fix_3 rfl (lv_at hl 0 rfl) ?_
  refine lv_iload_n hx hb d_LA_fix_4 rfl (lv_at hl 1 rfl) ?_
  refine lv_lload_n hx hb d_LA_fix_5 rfl (lv_at hl 2 rfl) ?_
  refine lv_lload hx hb d_LA_fix_6 (lv_at hl 3 rfl) ?_
  have hhit : ∀ cl9 : ClassId, s.vm.findClass R_JIAE = some cl9 → zcHit 8 s ([.ref (aS 0), .int t, .long x0, .long y0, .ref aO] : List Value).toArray R_LA cl9 27 c.exceptionTable.toList := fun cl9 hcl9 => by
    obtain ⟨d0, e0, f0⟩ := zT2_ncl R_JIOB hF (by decide) (by decide) (by decide) hcl9
    exact zc_tab _ _ htab ⟨by decide, by decide, R_JIOB, d0, hts _ kc_LA_21, e0, Or.inr ⟨f0, ⟨by decide, by decide, R_JIAE, cl9, hts _ kc_LA_15, hcl9, Or.inl ⟨zT2_hit hF (by decide) hcl9, rfl⟩⟩⟩⟩
  refine zcF_V (ci := 0) (q0 := 0) (hp := 27) (cls := R_JIAE) (As := [.int t, .long x0, .long y0]) (rest := [.int (nI 0), .ref aO]) (n := 3) zT2_ok ⟨hx, hb, hml, hown, hts⟩ (x_SB_fix2 l D htl aS aB aN aP aE aI cA cZ c2 cT tc tf tcs t v x0 y0 h40 hfb hv0 hno) ⟨km_LA_17, ki_SB_fix, ks_SB_fix, kn_SB, kd_SB_fix⟩ (by decide +kernel) (by decide) ⟨Nat.le_of_ble_eq_true rfl, Nat.le_of_ble_eq_true rfl⟩ hK hP (zF_now zT2_ok hF hS) rfl rfl rfl hl.1 rfl (Nat.le_of_ble_eq_true rfl) d_LA_fix_8 hhit (fun H x9 hz9 hold9 hx9 => ?_)
  have hP := hP.old hold9
  have hS : va_S A s.heap H [] := ⟨hz9, fun q h1 h2 => hold9 q h1, fun q h => by cases h⟩
  refine lv_astore (lv' := [(7, .ref x9), (0, .ref (aS 0)), (1, .int t), (2, .long x0), (4, .long y0), (6, .ref aO)]) hx hb d_LA_fix_27 hl (by decide) rfl (fun ls hl => ?_)
  refine lv_iconst (v := nI 2) hx hb d_LA_fix_29 (by decide) ?_
  exact W.iret hx hb hr (fun t ht hW => ⟨rfl, ⟨by rw [ht]; exact hP, va_K.moved hW.alike hK, hD⟩, hS.F ht⟩) hS.2.2 d_LA_fix_30
set_option maxHeartbeats 4000000 in
set_option maxRecDepth 100000 in
/-- pair: refused -/
theorem h_pair_x (l : Launch) (D : va_G) (htl : ∀ e' : Env, l.admits e' → e'.platform.stackTraces = false) (sz : Nat) (aS aB aN aP aE aI : Nat → Nat) (cA cZ c2 cT : ClassId) (tc : Nat) (tf : Nat → Option Nat) (aO : Nat) (t : Int32) (hno : t < 0 ∨ 2000 < t) : Met l y_LA_pair (wsH y_LA_pair b_LA_pair 4 (some .int) [(0, 9, 12, 15)]) ({ frames := 7, cells := 1, slots := 6, locals := 130 } : Room) (zPF zT2 D [(cA, .int), (cZ, .boolean), (c2, .array .int), (cT, .object R_TH)] [(aS 0, .inr (0, [.ref (aS 1), .int (nI tc), .ref (aB 0), .ref (aN 0), .ref (aP 0), .ref (aE 0), .ref (aI 0)])), (aS 1, .inl (cT, 40, .inr (.inr (.inr (.inr tf)))))] [.ref (aS 0), .int t, .ref aO] sz) (zQ (some (.int (nI 1))) (zB D [(cA, .int), (cZ, .boolean), (c2, .array .int), (cT, .object R_TH)] (va_A [(aS 0, .inr (0, [.ref (aS 1), .int (nI tc), .ref (aB 0), .ref (aN 0), .ref (aP 0), .ref (aE 0), .ref (aI 0)])), (aS 1, .inl (cT, 40, .inr (.inr (.inr (.inr tf)))))] sz) [(aS 0, .inr (0, [.ref (aS 1), .int (nI tc), .ref (aB 0), .ref (aN 0), .ref (aP 0), .ref (aE 0), .ref (aI 0)])), (aS 1, .inl (cT, 40, .inr (.inr (.inr (.inr tf)))))]) (va_A [(aS 0, .inr (0, [.ref (aS 1), .int (nI tc), .ref (aB 0), .ref (aN 0), .ref (aP 0), .ref (aE 0), .ref (aI 0)])), (aS 1, .inl (cT, 40, .inr (.inr (.inr (.inr tf)))))] sz)) 1 6 (va_A [(aS 0, .inr (0, [.ref (aS 1), .int (nI tc), .ref (aB 0), .ref (aN 0), .ref (aP 0), .ref (aE 0), .ref (aI 0)])), (aS 1, .inl (cT, 40, .inr (.inr (.inr (.inr tf)))))] sz) := by
  refine zc_MetW (hh := [(0, 9, 12, 15)]) (cc := b_LA_pair) (maxL := 4) (ret := (some .int)) (by decide) rfl ?_
  intro p e s m args below meth c s₁ Bd hml htab hv
  obtain ⟨rfl, hsz, hP, hK, hD0, hF⟩ := hv
  have hx := Bd.exec
  have hb := Bd.bytes
  have hr := Bd.returns
  have hts : ∀ w ∈ lw_g, w.before _ s = true := fun w h => atoms_spec (ws := wsH y_LA_pair b_LA_pair 4 (some .int) [(0, 9, 12, 15)]) Bd.pre w (List.mem_cons_of_mem _ h)
  have hown : s.vm.findClass R_LA = some m.cls := findClass_of_methodNamed Bd.named
  have hlocks := Bd.notSynchronized
  obtain ⟨hD, hA, hS⟩ := z_start hsz hD0
  generalize va_A [(aS 0, .inr (0, [.ref (aS 1), .int (nI tc), .ref (aB 0), .ref (aN 0), .ref (aP 0), .ref (aE 0), .ref (aI 0)])), (aS 1, .inl (cT, 40, .inr (.inr (.inr (.inr tf)))))] sz = A at hD hA hS hF ⊢
  have hl := lv_entry ([.ref (aS 0), .int t, .ref aO]) (n := 4) (Nat.le_of_ble_eq_true rfl)
  rw [lg_entry_eq]
  generalize (lg_sl ([.ref (aS 0), .int t, .ref aO]) ++ List.replicate (4 - (lg_sl ([.ref (aS 0), .int t, .ref aO])).length) Slot.unset).toArray = ls at hl ⊢
  have hl : lv_has ls 4 [(0, .ref (aS 0)), (1, .int t), (2, .ref aO)] := hl
  have hP : va_P D classes [(aS 0, .inr (0, [.ref (aS 1), .int (nI tc), .ref (aB 0), .ref (aN 0), .ref (aP 0), .ref (aE 0), .ref (aI 0)])), (aS 1, .inl (cT, 40, .inr (.inr (.inr (.inr tf)))))] s.heap := hP
  refine lv_aload_n hx hb d_LA_pair_0 rfl (lv_at hl 2 rfl) ?_
  refine lv_iconst (v := nI 0) hx hb d_LA_pair_1 (by decide) ?_
  refine lv_aload_n hx hb d_LA_pair_2 rfl (lv_at hl 0 rfl) ?_
  refine lv_iload_n hx hb d_LA_pair_3 rfl (lv_at hl 1 rfl) ?_
  have hhit : ∀ cl9 : ClassId, s.vm.findClass R_JIAE = some cl9 → zcHit 4 s ([.ref (aS 0), .int t, .ref aO] : List Value).toArray R_LA cl9 12 c.exceptionTable.toList := fun cl9 hcl9 => by
    exact zc_tab _ _ htab ⟨by decide, by decide, R_JIAE, cl9, hts _ kc_LA_15, hcl9, Or.inl ⟨zT2_hit hF (by decide) hcl9, rfl⟩⟩
  refine zcF_V (ci := 0) (q0 := 0) (hp := 12) (cls := R_JIAE) (As := [.int t]) (rest := [.int (nI 0), .ref aO]) (n := 1) zT2_ok ⟨hx, hb, hml, hown, hts⟩ (x_SB_pair l D htl aS aB aN aP aE aI cA cZ c2 cT tc tf t hno) ⟨km_LA_43, ki_SB_pair, ks_SB_pair, kn_SB, kd_SB_pair⟩ (by decide +kernel) (by decide) ⟨Nat.le_of_ble_eq_true rfl, Nat.le_of_ble_eq_true rfl⟩ hK hP (zF_now zT2_ok hF hS) rfl rfl rfl hl.1 rfl (Nat.le_of_ble_eq_true rfl) d_LA_pair_4 hhit (fun H x9 hz9 hold9 hx9 => ?_)
  have hP := hP.old hold9
  have hS : va_S A s.heap H [] := ⟨hz9, fun q h1 h2 => hold9 q h1, fun q h => by cases h⟩
  refine lv_astore_n (lv' := [(3, .ref x9), (0, .ref (aS 0)), (1, .int t), (2, .ref aO)]) hx hb d_LA_pair_12 rfl hl (by decide) rfl (fun ls hl => ?_)
  refine lv_iconst (v := nI 1) hx hb d_LA_pair_13 (by decide) ?_
  exact W.iret hx hb hr (fun t ht hW => ⟨rfl, ⟨by rw [ht]; exact hP, va_K.moved hW.alike hK, hD⟩, hS.F ht⟩) hS.2.2 d_LA_pair_14
set_option maxHeartbeats 4000000 in
set_option maxRecDepth 100000 in
/-- outline: refused -/
theorem h_outline_x (l : Launch) (D : va_G) (htl : ∀ e' : Env, l.admits e' → e'.platform.stackTraces = false) (sz : Nat) (aS aB aN aP aE aI : Nat → Nat) (cA cZ c2 cT : ClassId) (tc : Nat) (tf : Nat → Option Nat) (aO : Nat) (u0 v0 : Int64) (hno : u0 < lN 1 ∨ v0 < lN 1) : Met l y_LA_outline (wsH y_LA_outline b_LA_outline 7 (some .int) [(0, 18, 21, 15)]) ({ frames := 7, cells := 1, slots := 6, locals := 130 } : Room) (zPF zT2 D [(cA, .int), (cZ, .boolean), (c2, .array .int), (cT, .object R_TH)] [(aS 0, .inr (0, [.ref (aS 1), .int (nI tc), .ref (aB 0), .ref (aN 0), .ref (aP 0), .ref (aE 0), .ref (aI 0)])), (aS 1, .inl (cT, 40, .inr (.inr (.inr (.inr tf)))))] [.ref (aS 0), .long u0, .long v0, .ref aO] sz) (zQ (some (.int (nI 1))) (zB D [(cA, .int), (cZ, .boolean), (c2, .array .int), (cT, .object R_TH)] (va_A [(aS 0, .inr (0, [.ref (aS 1), .int (nI tc), .ref (aB 0), .ref (aN 0), .ref (aP 0), .ref (aE 0), .ref (aI 0)])), (aS 1, .inl (cT, 40, .inr (.inr (.inr (.inr tf)))))] sz) [(aS 0, .inr (0, [.ref (aS 1), .int (nI tc), .ref (aB 0), .ref (aN 0), .ref (aP 0), .ref (aE 0), .ref (aI 0)])), (aS 1, .inl (cT, 40, .inr (.inr (.inr (.inr tf)))))]) (va_A [(aS 0, .inr (0, [.ref (aS 1), .int (nI tc), .ref (aB 0), .ref (aN 0), .ref (aP 0), .ref (aE 0), .ref (aI 0)])), (aS 1, .inl (cT, 40, .inr (.inr (.inr (.inr tf)))))] sz)) 1 6 (va_A [(aS 0, .inr (0, [.ref (aS 1), .int (nI tc), .ref (aB 0), .ref (aN 0), .ref (aP 0), .ref (aE 0), .ref (aI 0)])), (aS 1, .inl (cT, 40, .inr (.inr (.inr (.inr tf)))))] sz) := by
  refine zc_MetW (hh := [(0, 18, 21, 15)]) (cc := b_LA_outline) (maxL := 7) (ret := (some .int)) (by decide) rfl ?_
  intro p e s m args below meth c s₁ Bd hml htab hv
  obtain ⟨rfl, hsz, hP, hK, hD0, hF⟩ := hv
  have hx := Bd.exec
  have hb := Bd.bytes
  have hr := Bd.returns
  have hts : ∀ w ∈ lw_g, w.before _ s = true := fun w h => atoms_spec (ws := wsH y_LA_outline b_LA_outline 7 (some .int) [(0, 18, 21, 15)]) Bd.pre w (List.mem_cons_of_mem _ h)
  have hown : s.vm.findClass R_LA = some m.cls := findClass_of_methodNamed Bd.named
  have hlocks := Bd.notSynchronized
  obtain ⟨hD, hA, hS⟩ := z_start hsz hD0
  generalize va_A [(aS 0, .inr (0, [.ref (aS 1), .int (nI tc), .ref (aB 0), .ref (aN 0), .ref (aP 0), .ref (aE 0), .ref (aI 0)])), (aS 1, .inl (cT, 40, .inr (.inr (.inr (.inr tf)))))] sz = A at hD hA hS hF ⊢
  have hl := lv_entry ([.ref (aS 0), .long u0, .long v0, .ref aO]) (n := 7) (Nat.le_of_ble_eq_true rfl)
  rw [lg_entry_eq]
  generalize (lg_sl ([.ref (aS 0), .long u0, .long v0, .ref aO]) ++ List.replicate (7 - (lg_sl ([.ref (aS 0), .long u0, .long v0, .ref aO])).length) Slot.unset).toArray = ls at hl ⊢
  have hl : lv_has ls 7 [(0, .ref (aS 0)), (1, .long u0), (3, .long v0), (5, .ref aO)] := hl
  have hP : va_P D classes [(aS 0, .inr (0, [.ref (aS 1), .int (nI tc), .ref (aB 0), .ref (aN 0), .ref (aP 0), .ref (aE 0), .ref (aI 0)])), (aS 1, .inl (cT, 40, .inr (.inr (.inr (.inr tf)))))] s.heap := hP
  refine lv_aload hx hb d_LA_outline_0 (lv_at hl 3 rfl) ?_
  refine lv_iconst (v := nI 0) hx hb d_LA_outline_2 (by decide) ?_
  refine lv_aload_n hx hb d_LA_outline_3 rfl (lv_at hl 0 rfl) ?_
  refine lv_lload_n hx hb d_LA_outline_4 rfl (lv_at hl 1 rfl) ?_
  refine lv_lload_n hx hb d_LA_outline_5 rfl (lv_at hl 2 rfl) ?_
  have hhit : ∀ cl9 : ClassId, s.vm.findClass R_JIAE = some cl9 → zcHit 6 s ([.ref (aS 0), .long u0, .long v0, .ref aO] : List Value).toArray R_LA cl9 21 c.exceptionTable.toList := fun cl9 hcl9 => by
    exact zc_tab _ _ htab ⟨by decide, by decide, R_JIAE, cl9, hts _ kc_LA_15, hcl9, Or.inl ⟨zT2_hit hF (by decide) hcl9, rfl⟩⟩
  refine zcF_V (ci := 0) (q0 := 0) (hp := 21) (cls := R_JIAE) (As := [.long u0, .long v0]) (rest := [.int (nI 0), .ref aO]) (n := 2) zT2_ok ⟨hx, hb, hml, hown, hts⟩ (x_SB_outline l D htl aS aB aN aP aE aI cA cZ c2 cT tc tf u0 v0 hno) ⟨km_LA_58, ki_SB_outline, ks_SB_outline, kn_SB, kd_SB_outline⟩ (by decide +kernel) (by decide) ⟨Nat.le_of_ble_eq_true rfl, Nat.le_of_ble_eq_true rfl⟩ hK hP (zF_now zT2_ok hF hS) rfl rfl rfl hl.1 rfl (Nat.le_of_ble_eq_true rfl) d_LA_outline_6 hhit (fun H x9 hz9 hold9 hx9 => ?_)
  have hP := hP.old hold9
  have hS : va_S A s.heap H [] := ⟨hz9, fun q h1 h2 => hold9 q h1, fun q h => by cases h⟩
  refine lv_astore (lv' := [(6, .ref x9), (0, .ref (aS 0)), (1, .long u0), (3, .long v0), (5, .ref aO)]) hx hb d_LA_outline_21 hl (by decide) rfl (fun ls hl => ?_)
  refine lv_iconst (v := nI 1) hx hb d_LA_outline_23 (by decide) ?_
  exact W.iret hx hb hr (fun t ht hW => ⟨rfl, ⟨by rw [ht]; exact hP, va_K.moved hW.alike hK, hD⟩, hS.F ht⟩) hS.2.2 d_LA_outline_24
set_option maxHeartbeats 4000000 in
set_option maxRecDepth 100000 in
/-- block: no room -/
theorem h_block_x1 (l : Launch) (D : va_G) (htl : ∀ e' : Env, l.admits e' → e'.platform.stackTraces = false) (sz : Nat) (aS aB aN aP aE aI : Nat → Nat) (cA cZ c2 cT : ClassId) (tc : Nat) (tf : Nat → Option Nat) (aO : Nat) (B : BS) (x0 y0 : Int64) (tu : Bool) (h40 : tc ≤ 40) (h16 : B.2.2.2 ≤ 16) (hno : B.2.2.2 = 16 ∨ tc = 40) : Met l y_LA_block (wsH y_LA_block b_LA_block 8 (some .int) [(0, 13, 16, 13), (0, 13, 20, 15)]) ({ frames := 7, cells := 1, slots := 6, locals := 130 } : Room) (zPF zT2 D [(cA, .int), (cZ, .boolean), (c2, .array .int), (cT, .object R_TH)] [(aB 0, .inr (1, [.ref (aB 1), .ref (aB 4), .ref (aB 7), .ref (aB 8), .int (nI B.2.2.2)])), (aS 0, .inr (0, [.ref (aS 1), .int (nI tc), .ref (aB 0), .ref (aN 0), .ref (aP 0), .ref (aE 0), .ref (aI 0)])), (aS 1, .inl (cT, 40, .inr (.inr (.inr (.inr tf)))))] [.ref (aS 0), .long x0, .long y0, .int (zb tu), .ref aO] sz) (zQ (some (.int (nI 1))) (zB D [(cA, .int), (cZ, .boolean), (c2, .array .int), (cT, .object R_TH)] (va_A [(aB 0, .inr (1, [.ref (aB 1), .ref (aB 4), .ref (aB 7), .ref (aB 8), .int (nI B.2.2.2)])), (aS 0, .inr (0, [.ref (aS 1), .int (nI tc), .ref (aB 0), .ref (aN 0), .ref (aP 0), .ref (aE 0), .ref (aI 0)])), (aS 1, .inl (cT, 40, .inr (.inr (.inr (.inr tf)))))] sz) [(aB 0, .inr (1, [.ref (aB 1), .ref (aB 4), .ref (aB 7), .ref (aB 8), .int (nI B.2.2.2)])), (aS 0, .inr (0, [.ref (aS 1), .int (nI tc), .ref (aB 0), .ref (aN 0), .ref (aP 0), .ref (aE 0), .ref (aI 0)])), (aS 1, .inl (cT, 40, .inr (.inr (.inr (.inr tf)))))]) (va_A [(aB 0, .inr (1, [.ref (aB 1), .ref (aB 4), .ref (aB 7), .ref (aB 8), .int (nI B.2.2.2)])), (aS 0, .inr (0, [.ref (aS 1), .int (nI tc), .ref (aB 0), .ref (aN 0), .ref (aP 0), .ref (aE 0), .ref (aI 0)])), (aS 1, .inl (cT, 40, .inr (.inr (.inr (.inr tf)))))] sz)) 1 6 (va_A [(aB 0, .inr (1, [.ref (aB 1), .ref (aB 4), .ref (aB 7), .ref (aB 8), .int (nI B.2.2.2)])), (aS 0, .inr (0, [.ref (aS 1), .int (nI tc), .ref (aB 0), .ref (aN 0), .ref (aP 0), .ref (aE 0), .ref (aI 0)])), (aS 1, .inl (cT, 40, .inr (.inr (.inr (.inr tf)))))] sz) := by
  refine zc_MetW (hh := [(0, 13, 16, 13), (0, 13, 20, 15)]) (cc := b_LA_block) (maxL := 8) (ret := (some .int)) (by decide) rfl ?_
  intro p e s m args below meth c s₁ Bd hml htab hv
  obtain ⟨rfl, hsz, hP, hK, hD0, hF⟩ := hv
  have hx := Bd.exec
  have hb := Bd.bytes
  have hr := Bd.returns
  have hts : ∀ w ∈ lw_g, w.before _ s = true := fun w h => atoms_spec (ws := wsH y_LA_block b_LA_block 8 (some .int) [(0, 13, 16, 13), (0, 13, 20, 15)]) Bd.pre w (List.mem_cons_of_mem _ h)
  have hown : s.vm.findClass R_LA = some m.cls := findClass_of_methodNamed Bd.named
  have hlocks := Bd.notSynchronized
  obtain ⟨hD, hA, hS⟩ := z_start hsz hD0
  generalize va_A [(aB 0, .inr (1, [.ref (aB 1), .ref (aB 4), .ref (aB 7), .ref (aB 8), .int (nI B.2.2.2)])), (aS 0, .inr (0, [.ref (aS 1), .int (nI tc), .ref (aB 0), .ref (aN 0), .ref (aP 0), .ref (aE 0), .ref (aI 0)])), (aS 1, .inl (cT, 40, .inr (.inr (.inr (.inr tf)))))] sz = A at hD hA hS hF ⊢
  have hl := lv_entry ([.ref (aS 0), .long x0, .long y0, .int (zb tu), .ref aO]) (n := 8) (Nat.le_of_ble_eq_true rfl)
  rw [lg_entry_eq]
  generalize (lg_sl ([.ref (aS 0), .long x0, .long y0, .int (zb tu), .ref aO]) ++ List.replicate (8 - (lg_sl ([.ref (aS 0), .long x0, .long y0, .int (zb tu), .ref aO])).length) Slot.unset).toArray = ls at hl ⊢
  have hl : lv_has ls 8 [(0, .ref (aS 0)), (1, .long x0), (3, .long y0), (5, .int (zb tu)), (6, .ref aO)] := hl
  have hP : va_P D classes [(aB 0, .inr (1, [.ref (aB 1), .ref (aB 4), .ref (aB 7), .ref (aB 8), .int (nI B.2.2.2)])), (aS 0, .inr (0, [.ref (aS 1), .int (nI tc), .ref (aB 0), .ref (aN 0), .ref (aP 0), .ref (aE 0), .ref (aI 0)])), (aS 1, .inl (cT, 40, .inr (.inr (.inr (.inr tf)))))] s.heap := hP
  refine lv_aload hx hb d_LA_block_0 (lv_at hl 4 rfl) ?_
  refine lv_iconst (v := nI 0) hx hb d_LA_block_2 (by decide) ?_
  refine lv_aload_n hx hb d_LA_block_3 rfl (lv_at hl 0 rfl) ?_
  refine lv_lload_n hx hb d_LA_block_4 rfl (lv_at hl 1 rfl) ?_
  refine lv_lload_n hx hb d_LA_block_5 rfl (lv_at hl 2 rfl) ?_
  refine lv_iload hx hb d_LA_block_6 (lv_at hl 3 rfl) ?_
  have hhit : ∀ cl9 : ClassId, s.vm.findClass R_JISE = some cl9 → zcHit 8 s ([.ref (aS 0), .long x0, .long y0, .int (zb tu), .ref aO] : List Value).toArray R_LA cl9 16 c.exceptionTable.toList := fun cl9 hcl9 => by
    exact zc_tab _ _ htab ⟨by decide, by decide, R_JISE, cl9, hts _ kc_LA_13, hcl9, Or.inl ⟨zT2_hit hF (by decide) hcl9, rfl⟩⟩
  refine zcF_V (ci := 0) (q0 := 1) (hp := 16) (cls := R_JISE) (As := [.long x0, .long y0, .int (zb tu)]) (rest := [.int (nI 0), .ref aO]) (n := 3) zT2_ok ⟨hx, hb, hml, hown, hts⟩ (x_SB_block1 l D htl aS aB aN aP aE aI cA cZ c2 cT tc tf B x0 y0 tu h40 h16 hno) ⟨km_LA_7, ki_SB_block, ks_SB_block, kn_SB, kd_SB_block⟩ (by decide +kernel) (by decide) ⟨Nat.le_of_ble_eq_true rfl, Nat.le_of_ble_eq_true rfl⟩ hK hP (zF_now zT2_ok hF hS) rfl rfl rfl hl.1 rfl (Nat.le_of_ble_eq_true rfl) d_LA_block_8 hhit (fun H x9 hz9 hold9 hx9 => ?_)
  have hP := hP.old hold9
  have hS : va_S A s.heap H [] := ⟨hz9, fun q h1 h2 => hold9 q h1, fun q h => by cases h⟩
  refine lv_astore (lv' := [(7, .ref x9), (0, .ref (aS 0)), (1, .long x0), (3, .long y0), (5, .int (zb tu)), (6, .ref aO)]) hx hb d_LA_block_16 hl (by decide) rfl (fun ls hl => ?_)
  refine lv_iconst (v := nI 1) hx hb d_LA_block_18 (by decide) ?_
  exact W.iret hx hb hr (fun t ht hW => ⟨rfl, ⟨by rw [ht]; exact hP, va_K.moved hW.alike hK, hD⟩, hS.F ht⟩) hS.2.2 d_LA_block_19
set_option maxHeartbeats 4000000 in
set_option maxRecDepth 100000 in
/-- block: a side -/
theorem h_block_x2 (l : Launch) (D : va_G) (htl : ∀ e' : Env, l.admits e' → e'.platform.stackTraces = false) (sz : Nat) (aS aB aN aP aE aI : Nat → Nat) (cA cZ c2 cT : ClassId) (tc : Nat) (tf : Nat → Option Nat) (aO : Nat) (B : BS) (x0 y0 : Int64) (tu : Bool) (hro : B.2.2.2 < 16) (hr2 : tc < 40) (hno : x0 < lN 1 ∨ lN 1000 < x0 ∨ y0 < lN 1 ∨ lN 1000 < y0) : Met l y_LA_block (wsH y_LA_block b_LA_block 8 (some .int) [(0, 13, 16, 13), (0, 13, 20, 15)]) ({ frames := 7, cells := 1, slots := 6, locals := 130 } : Room) (zPF zT2 D [(cA, .int), (cZ, .boolean), (c2, .array .int), (cT, .object R_TH)] [(aB 0, .inr (1, [.ref (aB 1), .ref (aB 4), .ref (aB 7), .ref (aB 8), .int (nI B.2.2.2)])), (aS 0, .inr (0, [.ref (aS 1), .int (nI tc), .ref (aB 0), .ref (aN 0), .ref (aP 0), .ref (aE 0), .ref (aI 0)])), (aS 1, .inl (cT, 40, .inr (.inr (.inr (.inr tf)))))] [.ref (aS 0), .long x0, .long y0, .int (zb tu), .ref aO] sz) (zQ (some (.int (nI 2))) (zB D [(cA, .int), (cZ, .boolean), (c2, .array .int), (cT, .object R_TH)] (va_A [(aB 0, .inr (1, [.ref (aB 1), .ref (aB 4), .ref (aB 7), .ref (aB 8), .int (nI B.2.2.2)])), (aS 0, .inr (0, [.ref (aS 1), .int (nI tc), .ref (aB 0), .ref (aN 0), .ref (aP 0), .ref (aE 0), .ref (aI 0)])), (aS 1, .inl (cT, 40, .inr (.inr (.inr (.inr tf)))))] sz) [(aB 0, .inr (1, [.ref (aB 1), .ref (aB 4), .ref (aB 7), .ref (aB 8), .int (nI B.2.2.2)])), (aS 0, .inr (0, [.ref (aS 1), .int (nI tc), .ref (aB 0), .ref (aN 0), .ref (aP 0), .ref (aE 0), .ref (aI 0)])), (aS 1, .inl (cT, 40, .inr (.inr (.inr (.inr tf)))))]) (va_A [(aB 0, .inr (1, [.ref (aB 1), .ref (aB 4), .ref (aB 7), .ref (aB 8), .int (nI B.2.2.2)])), (aS 0, .inr (0, [.ref (aS 1), .int (nI tc), .ref (aB 0), .ref (aN 0), .ref (aP 0), .ref (aE 0), .ref (aI 0)])), (aS 1, .inl (cT, 40, .inr (.inr (.inr (.inr tf)))))] sz)) 1 6 (va_A [(aB 0, .inr (1, [.ref (aB 1), .ref (aB 4), .ref (aB 7), .ref (aB 8), .int (nI B.2.2.2)])), (aS 0, .inr (0, [.ref (aS 1), .int (nI tc), .ref (aB 0), .ref (aN 0), .ref (aP 0), .ref (aE 0), .ref (aI 0)])), (aS 1, .inl (cT, 40, .inr (.inr (.inr (.inr tf)))))] sz) := by
  refine zc_MetW (hh := [(0, 13, 16, 13), (0, 13, 20, 15)]) (cc := b_LA_block) (maxL := 8) (ret := (some .int)) (by decide) rfl ?_
  intro p e s m args below meth c s₁ Bd hml htab hv
  obtain ⟨rfl, hsz, hP, hK, hD0, hF⟩ := hv
  have hx := Bd.exec
  have hb := Bd.bytes
  have hr := Bd.returns
  have hts : ∀ w ∈ lw_g, w.before _ s = true := fun w h => atoms_spec (ws := wsH y_LA_block b_LA_block 8 (some .int) [(0, 13, 16, 13), (0, 13, 20, 15)]) Bd.pre w (List.mem_cons_of_mem _ h)
  have hown : s.vm.findClass R_LA = some m.cls := findClass_of_methodNamed Bd.named
  have hlocks := Bd.notSynchronized
  obtain ⟨hD, hA, hS⟩ := z_start hsz hD0
  generalize va_A [(aB 0, .inr (1, [.ref (aB 1), .ref (aB 4), .ref (aB 7), .ref (aB 8), .int (nI B.2.2.2)])), (aS 0, .inr (0, [.ref (aS 1), .int (nI tc), .ref (aB 0), .ref (aN 0), .ref (aP 0), .ref (aE 0), .ref (aI 0)])), (aS 1, .inl (cT, 40, .inr (.inr (.inr (.inr tf)))))] sz = A at hD hA hS hF ⊢
  have hl := lv_entry ([.ref (aS 0), .long x0, .long y0, .int (zb tu), .ref aO]) (n := 8) (Nat.le_of_ble_eq_true rfl)
  rw [lg_entry_eq]
  generalize (lg_sl ([.ref (aS 0), .long x0, .long y0, .int (zb tu), .ref aO]) ++ List.replicate (8 - (lg_sl ([.ref (aS 0), .long x0, .long y0, .int (zb tu), .ref aO])).length) Slot.unset).toArray = ls at hl ⊢
  have hl : lv_has ls 8 [(0, .ref (aS 0)), (1, .long x0), (3, .long y0), (5, .int (zb tu)), (6, .ref aO)] := hl
  have hP : va_P D classes [(aB 0, .inr (1, [.ref (aB 1), .ref (aB 4), .ref (aB 7), .ref (aB 8), .int (nI B.2.2.2)])), (aS 0, .inr (0, [.ref (aS 1), .int (nI tc), .ref (aB 0), .ref (aN 0), .ref (aP 0), .ref (aE 0), .ref (aI 0)])), (aS 1, .inl (cT, 40, .inr (.inr (.inr (.inr tf)))))] s.heap := hP
  refine lv_aload hx hb d_LA_block_0 (lv_at hl 4 rfl) ?_
  refine lv_iconst (v := nI 0) hx hb d_LA_block_2 (by decide) ?_
  refine lv_aload_n hx hb d_LA_block_3 rfl (lv_at hl 0 rfl) ?_
  refine lv_lload_n hx hb d_LA_block_4 rfl (lv_at hl 1 rfl) ?_
  refine lv_lload_n hx hb d_LA_block_5 rfl (lv_at hl 2 rfl) ?_
  refine lv_iload hx hb d_LA_block_6 (lv_at hl 3 rfl) ?_
  have hhit : ∀ cl9 : ClassId, s.vm.findClass R_JIAE = some cl9 → zcHit 8 s ([.ref (aS 0), .long x0, .long y0, .int (zb tu), .ref aO] : List Value).toArray R_LA cl9 20 c.exceptionTable.toList := fun cl9 hcl9 => by
    obtain ⟨d0, e0, f0⟩ := zT2_ncl R_JISE hF (by decide) (by decide) (by decide) hcl9
    exact zc_tab _ _ htab ⟨by decide, by decide, R_JISE, d0, hts _ kc_LA_13, e0, Or.inr ⟨f0, ⟨by decide, by decide, R_JIAE, cl9, hts _ kc_LA_15, hcl9, Or.inl ⟨zT2_hit hF (by decide) hcl9, rfl⟩⟩⟩⟩
  refine zcF_V (ci := 0) (q0 := 1) (hp := 20) (cls := R_JIAE) (As := [.long x0, .long y0, .int (zb tu)]) (rest := [.int (nI 0), .ref aO]) (n := 3) zT2_ok ⟨hx, hb, hml, hown, hts⟩ (x_SB_block2 l D htl aS aB aN aP aE aI cA cZ c2 cT tc tf B x0 y0 tu hro hr2 hno) ⟨km_LA_7, ki_SB_block, ks_SB_block, kn_SB, kd_SB_block⟩ (by decide +kernel) (by decide) ⟨Nat.le_of_ble_eq_true rfl, Nat.le_of_ble_eq_true rfl⟩ hK hP (zF_now zT2_ok hF hS) rfl rfl rfl hl.1 rfl (Nat.le_of_ble_eq_true rfl) d_LA_block_8 hhit (fun H x9 hz9 hold9 hx9 => ?_)
  have hP := hP.old hold9
  have hS : va_S A s.heap H [] := ⟨hz9, fun q h1 h2 => hold9 q h1, fun q h => by cases h⟩
  refine lv_astore (lv' := [(7, .ref x9), (0, .ref (aS 0)), (1, .long x0), (3, .long y0), (5, .int (zb tu)), (6, .ref aO)]) hx hb d_LA_block_20 hl (by decide) rfl (fun ls hl => ?_)
  refine lv_iconst (v := nI 2) hx hb d_LA_block_22 (by decide) ?_
  exact W.iret hx hb hr (fun t ht hW => ⟨rfl, ⟨by rw [ht]; exact hP, va_K.moved hW.alike hK, hD⟩, hS.F ht⟩) hS.2.2 d_LA_block_23
set_option maxHeartbeats 4000000 in
set_option maxRecDepth 100000 in
/-- net: no block -/
theorem h_net_x1 (l : Launch) (D : va_G) (htl : ∀ e' : Env, l.admits e' → e'.platform.stackTraces = false) (sz : Nat) (aS aB aN aP aE aI : Nat → Nat) (cA cZ c2 cT : ClassId) (tc : Nat) (tf : Nat → Option Nat) (aO : Nat) (tcs : va_W) (t u v1 v2 : Int32) (h40 : tc ≤ 40) (hf1 : fbR tc tf tcs t v1) (hf2 : fbR tc tf tcs u v2) (hno : v1 = -1 ∨ v2 = -1) : Met l y_LA_net (wsH y_LA_net b_LA_net 5 (some .int) [(0, 10, 13, 21), (0, 10, 17, 13), (0, 10, 21, 15)]) ({ frames := 7, cells := 1, slots := 6, locals := 130 } : Room) (zPF zT2 D [(cA, .int), (cZ, .boolean), (c2, .array .int), (cT, .object R_TH)] ((aS 0, .inr (0, [.ref (aS 1), .int (nI tc), .ref (aB 0), .ref (aN 0), .ref (aP 0), .ref (aE 0), .ref (aI 0)])) :: (aS 1, .inl (cT, 40, .inr (.inr (.inr (.inr tf))))) :: tcs) [.ref (aS 0), .int t, .int u, .ref aO] sz) (zQ (some (.int (nI 1))) (zB D [(cA, .int), (cZ, .boolean), (c2, .array .int), (cT, .object R_TH)] (va_A ((aS 0, .inr (0, [.ref (aS 1), .int (nI tc), .ref (aB 0), .ref (aN 0), .ref (aP 0), .ref (aE 0), .ref (aI 0)])) :: (aS 1, .inl (cT, 40, .inr (.inr (.inr (.inr tf))))) :: tcs) sz) ((aS 0, .inr (0, [.ref (aS 1), .int (nI tc), .ref (aB 0), .ref (aN 0), .ref (aP 0), .ref (aE 0), .ref (aI 0)])) :: (aS 1, .inl (cT, 40, .inr (.inr (.inr (.inr tf))))) :: tcs)) (va_A ((aS 0, .inr (0, [.ref (aS 1), .int (nI tc), .ref (aB 0), .ref (aN 0), .ref (aP 0), .ref (aE 0), .ref (aI 0)])) :: (aS 1, .inl (cT, 40, .inr (.inr (.inr (.inr tf))))) :: tcs) sz)) 1 6 (va_A ((aS 0, .inr (0, [.ref (aS 1), .int (nI tc), .ref (aB 0), .ref (aN 0), .ref (aP 0), .ref (aE 0), .ref (aI 0)])) :: (aS 1, .inl (cT, 40, .inr (.inr (.inr (.inr tf))))) :: tcs) sz) := by
  refine zc_MetW (hh := [(0, 10, 13, 21), (0, 10, 17, 13), (0, 10, 21, 15)]) (cc := b_LA_net) (maxL := 5) (ret := (some .int)) (by decide) rfl ?_
  intro p e s m args below meth c s₁ Bd hml htab hv
  obtain ⟨rfl, hsz, hP, hK, hD0, hF⟩ := hv
  have hx := Bd.exec
  have hb := Bd.bytes
  have hr := Bd.returns
  have hts : ∀ w ∈ lw_g, w.before _ s = true := fun w h => atoms_spec (ws := wsH y_LA_net b_LA_net 5 (some .int) [(0, 10, 13, 21), (0, 10, 17, 13), (0, 10, 21, 15)]) Bd.pre w (List.mem_cons_of_mem _ h)
  have hown : s.vm.findClass R_LA = some m.cls := findClass_of_methodNamed Bd.named
  have hlocks := Bd.notSynchronized
  obtain ⟨hD, hA, hS⟩ := z_start hsz hD0
  generalize va_A ((aS 0, .inr (0, [.ref (aS 1), .int (nI tc), .ref (aB 0), .ref (aN 0), .ref (aP 0), .ref (aE 0), .ref (aI 0)])) :: (aS 1, .inl (cT, 40, .inr (.inr (.inr (.inr tf))))) :: tcs) sz = A at hD hA hS hF ⊢
  have hl := lv_entry ([.ref (aS 0), .int t, .int u, .ref aO]) (n := 5) (Nat.le_of_ble_eq_true rfl)
  rw [lg_entry_eq]
  generalize (lg_sl ([.ref (aS 0), .int t, .int u, .ref aO]) ++ List.replicate (5 - (lg_sl ([.ref (aS 0), .int t, .int u, .ref aO])).length) Slot.unset).toArray = ls at hl ⊢
  have hl : lv_has ls 5 [(0, .ref (aS 0)), (1, .int t), (2, .int u), (3, .ref aO)] := hl
  have hP : va_P D classes ((aS 0, .inr (0, [.ref (aS 1), .int (nI tc), .ref (aB 0), .ref (aN 0), .ref (aP 0), .ref (aE 0), .ref (aI 0)])) :: (aS 1, .inl (cT, 40, .inr (.inr (.inr (.inr tf))))) :: tcs) s.heap := hP
  refine lv_aload_n hx hb d_LA_net_0 rfl (lv_at hl 3 rfl) ?_
  refine lv_iconst (v := nI 0) hx hb d_LA_net_1 (by decide) ?_
  refine lv_aload_n hx hb d_LA_net_2 rfl (lv_at hl 0 rfl) ?_
  refine lv_iload_n hx hb d_LA_net_3 rfl (lv_at hl 1 rfl) ?_
  refine lv_iload_n hx hb d_LA_net_4 rfl (lv_at hl 2 rfl) ?_
  have hhit : ∀ cl9 : ClassId, s.vm.findClass R_JIOB = some cl9 → zcHit 5 s ([.ref (aS 0), .int t, .int u, .ref aO] : List Value).toArray R_LA cl9 13 c.exceptionTable.toList := fun cl9 hcl9 => by
    exact zc_tab _ _ htab ⟨by decide, by decide, R_JIOB, cl9, hts _ kc_LA_21, hcl9, Or.inl ⟨zT2_hit hF (by decide) hcl9, rfl⟩⟩
  refine zcF_V (ci := 0) (q0 := 0) (hp := 13) (cls := R_JIOB) (As := [.int t, .int u]) (rest := [.int (nI 0), .ref aO]) (n := 2) zT2_ok ⟨hx, hb, hml, hown, hts⟩ (x_SB_net1 l D htl aS aB aN aP aE aI cA cZ c2 cT tc tf tcs t u v1 v2 h40 hf1 hf2 hno) ⟨km_LA_23, ki_SB_net, ks_SB_net, kn_SB, kd_SB_net⟩ (by decide +kernel) (by decide) ⟨Nat.le_of_ble_eq_true rfl, Nat.le_of_ble_eq_true rfl⟩ hK hP (zF_now zT2_ok hF hS) rfl rfl rfl hl.1 rfl (Nat.le_of_ble_eq_true rfl) d_LA_net_5 hhit (fun H x9 hz9 hold9 hx9 => ?_)
  have hP := hP.old hold9
  have hS : va_S A s.heap H [] := ⟨hz9, fun q h1 h2 => hold9 q h1, fun q h => by cases h⟩
  refine lv_astore (lv' := [(4, .ref x9), (0, .ref (aS 0)), (1, .int t), (2, .int u), (3, .ref aO)]) hx hb d_LA_net_13 hl (by decide) rfl (fun ls hl => ?_)
  refine lv_iconst (v := nI 1) hx hb d_LA_net_15 (by decide) ?_
  exact W.iret hx hb hr (fun t ht hW => ⟨rfl, ⟨by rw [ht]; exact hP, va_K.moved hW.alike hK, hD⟩, hS.F ht⟩) hS.2.2 d_LA_net_16
set_option maxHeartbeats 4000000 in
set_option maxRecDepth 100000 in
/-- net: no room -/
theorem h_net_x2 (l : Launch) (D : va_G) (htl : ∀ e' : Env, l.admits e' → e'.platform.stackTraces = false) (sz : Nat) (aS aB aN aP aE aI : Nat → Nat) (cA cZ c2 cT : ClassId) (tc : Nat) (tf : Nat → Option Nat) (aO : Nat) (tcs : va_W) (t u : Int32) (aa bb : Nat) (N : NS) (h40 : tc ≤ 40) (hf1 : fbR tc tf tcs t (nI aa)) (hf2 : fbR tc tf tcs u (nI bb)) (haa : aa < 16) (hbb : bb < 16) (hg1 : N.2 ≤ 40) (hg2 : N.1 2 aa < 2 ^ 31) (hg3 : N.1 2 bb < 2 ^ 31) (hno : N.2 = 40 ∨ 8 ≤ N.1 2 aa ∨ 8 ≤ N.1 2 bb) : Met l y_LA_net (wsH y_LA_net b_LA_net 5 (some .int) [(0, 10, 13, 21), (0, 10, 17, 13), (0, 10, 21, 15)]) ({ frames := 7, cells := 1, slots := 6, locals := 130 } : Room) (zPF zT2 D [(cA, .int), (cZ, .boolean), (c2, .array .int), (cT, .object R_TH)] ((aN 0, .inr (3, [.ref (aN 1), .ref (aN 2), .ref (aN 3), .int (nI N.2)])) :: (aN 1, .inl (cA, 40, .inl (fun zk => nI ((N.1 0) zk)))) :: (aN 2, .inl (cA, 40, .inl (fun zk => nI ((N.1 1) zk)))) :: (aN 3, .inl (cA, 16, .inl (fun zk => nI ((N.1 2) zk)))) :: (aS 0, .inr (0, [.ref (aS 1), .int (nI tc), .ref (aB 0), .ref (aN 0), .ref (aP 0), .ref (aE 0), .ref (aI 0)])) :: (aS 1, .inl (cT, 40, .inr (.inr (.inr (.inr tf))))) :: tcs) [.ref (aS 0), .int t, .int u, .ref aO] sz) (zQ (some (.int (nI 2))) (zB D [(cA, .int), (cZ, .boolean), (c2, .array .int), (cT, .object R_TH)] (va_A ((aN 0, .inr (3, [.ref (aN 1), .ref (aN 2), .ref (aN 3), .int (nI N.2)])) :: (aN 1, .inl (cA, 40, .inl (fun zk => nI ((N.1 0) zk)))) :: (aN 2, .inl (cA, 40, .inl (fun zk => nI ((N.1 1) zk)))) :: (aN 3, .inl (cA, 16, .inl (fun zk => nI ((N.1 2) zk)))) :: (aS 0, .inr (0, [.ref (aS 1), .int (nI tc), .ref (aB 0), .ref (aN 0), .ref (aP 0), .ref (aE 0), .ref (aI 0)])) :: (aS 1, .inl (cT, 40, .inr (.inr (.inr (.inr tf))))) :: tcs) sz) ((aN 0, .inr (3, [.ref (aN 1), .ref (aN 2), .ref (aN 3), .int (nI N.2)])) :: (aN 1, .inl (cA, 40, .inl (fun zk => nI ((N.1 0) zk)))) :: (aN 2, .inl (cA, 40, .inl (fun zk => nI ((N.1 1) zk)))) :: (aN 3, .inl (cA, 16, .inl (fun zk => nI ((N.1 2) zk)))) :: (aS 0, .inr (0, [.ref (aS 1), .int (nI tc), .ref (aB 0), .ref (aN 0), .ref (aP 0), .ref (aE 0), .ref (aI 0)])) :: (aS 1, .inl (cT, 40, .inr (.inr (.inr (.inr tf))))) :: tcs)) (va_A ((aN 0, .inr (3, [.ref (aN 1), .ref (aN 2), .ref (aN 3), .int (nI N.2)])) :: (aN 1, .inl (cA, 40, .inl (fun zk => nI ((N.1 0) zk)))) :: (aN 2, .inl (cA, 40, .inl (fun zk => nI ((N.1 1) zk)))) :: (aN 3, .inl (cA, 16, .inl (fun zk => nI ((N.1 2) zk)))) :: (aS 0, .inr (0, [.ref (aS 1), .int (nI tc), .ref (aB 0), .ref (aN 0), .ref (aP 0), .ref (aE 0), .ref (aI 0)])) :: (aS 1, .inl (cT, 40, .inr (.inr (.inr (.inr tf))))) :: tcs) sz)) 1 6 (va_A ((aN 0, .inr (3, [.ref (aN 1), .ref (aN 2), .ref (aN 3), .int (nI N.2)])) :: (aN 1, .inl (cA, 40, .inl (fun zk => nI ((N.1 0) zk)))) :: (aN 2, .inl (cA, 40, .inl (fun zk => nI ((N.1 1) zk)))) :: (aN 3, .inl (cA, 16, .inl (fun zk => nI ((N.1 2) zk)))) :: (aS 0, .inr (0, [.ref (aS 1), .int (nI tc), .ref (aB 0), .ref (aN 0), .ref (aP 0), .ref (aE 0), .ref (aI 0)])) :: (aS 1, .inl (cT, 40, .inr (.inr (.inr (.inr tf))))) :: tcs) sz) := by
  refine zc_MetW (hh := [(0, 10, 13, 21), (0, 10, 17, 13), (0, 10, 21, 15)]) (cc := b_LA_net) (maxL := 5) (ret := (some .int)) (by decide) rfl ?_
  intro p e s m args below meth c s₁ Bd hml htab hv
  obtain ⟨rfl, hsz, hP, hK, hD0, hF⟩ := hv
  have hx := Bd.exec
  have hb := Bd.bytes
  have hr := Bd.returns
  have hts : ∀ w ∈ lw_g, w.before _ s = true := fun w h => atoms_spec (ws := wsH y_LA_net b_LA_net 5 (some .int) [(0, 10, 13, 21), (0, 10, 17, 13), (0, 10, 21, 15)]) Bd.pre w (List.mem_cons_of_mem _ h)
  have hown : s.vm.findClass R_LA = some m.cls := findClass_of_methodNamed Bd.named
  have hlocks := Bd.notSynchronized
  obtain ⟨hD, hA, hS⟩ := z_start hsz hD0
  generalize va_A ((aN 0, .inr (3, [.ref (aN 1), .ref (aN 2), .ref (aN 3), .int (nI N.2)])) :: (aN 1, .inl (cA, 40, .inl (fun zk => nI ((N.1 0) zk)))) :: (aN 2, .inl (cA, 40, .inl (fun zk => nI ((N.1 1) zk)))) :: (aN 3, .inl (cA, 16, .inl (fun zk => nI ((N.1 2) zk)))) :: (aS 0, .inr (0, [.ref (aS 1), .int (nI tc), .ref (aB 0), .ref (aN 0), .ref (aP 0), .ref (aE 0), .ref (aI 0)])) :: (aS 1, .inl (cT, 40, .inr (.inr (.inr (.inr tf))))) :: tcs) sz = A at hD hA hS hF ⊢
  have hl := lv_entry ([.ref (aS 0), .int t, .int u, .ref aO]) (n := 5) (Nat.le_of_ble_eq_true rfl)
  rw [lg_entry_eq]
  generalize (lg_sl ([.ref (aS 0), .int t, .int u, .ref aO]) ++ List.replicate (5 - (lg_sl ([.ref (aS 0), .int t, .int u, .ref aO])).length) Slot.unset).toArray = ls at hl ⊢
  have hl : lv_has ls 5 [(0, .ref (aS 0)), (1, .int t), (2, .int u), (3, .ref aO)] := hl
  have hP : va_P D classes ((aN 0, .inr (3, [.ref (aN 1), .ref (aN 2), .ref (aN 3), .int (nI N.2)])) :: (aN 1, .inl (cA, 40, .inl (fun zk => nI ((N.1 0) zk)))) :: (aN 2, .inl (cA, 40, .inl (fun zk => nI ((N.1 1) zk)))) :: (aN 3, .inl (cA, 16, .inl (fun zk => nI ((N.1 2) zk)))) :: (aS 0, .inr (0, [.ref (aS 1), .int (nI tc), .ref (aB 0), .ref (aN 0), .ref (aP 0), .ref (aE 0), .ref (aI 0)])) :: (aS 1, .inl (cT, 40, .inr (.inr (.inr (.inr tf))))) :: tcs) s.heap := hP
  refine lv_aload_n hx hb d_LA_net_0 rfl (lv_at hl 3 rfl) ?_
  refine lv_iconst (v := nI 0) hx hb d_LA_net_1 (by decide) ?_
  refine lv_aload_n hx hb d_LA_net_2 rfl (lv_at hl 0 rfl) ?_
  refine lv_iload_n hx hb d_LA_net_3 rfl (lv_at hl 1 rfl) ?_
  refine lv_iload_n hx hb d_LA_net_4 rfl (lv_at hl 2 rfl) ?_
  have hhit : ∀ cl9 : ClassId, s.vm.findClass R_JISE = some cl9 → zcHit 5 s ([.ref (aS 0), .int t, .int u, .ref aO] : List Value).toArray R_LA cl9 17 c.exceptionTable.toList := fun cl9 hcl9 => by
    obtain ⟨d0, e0, f0⟩ := zT2_ncl R_JIOB hF (by decide) (by decide) (by decide) hcl9
    exact zc_tab _ _ htab ⟨by decide, by decide, R_JIOB, d0, hts _ kc_LA_21, e0, Or.inr ⟨f0, ⟨by decide, by decide, R_JISE, cl9, hts _ kc_LA_13, hcl9, Or.inl ⟨zT2_hit hF (by decide) hcl9, rfl⟩⟩⟩⟩
  refine zcF_V (ci := 0) (q0 := 4) (hp := 17) (cls := R_JISE) (As := [.int t, .int u]) (rest := [.int (nI 0), .ref aO]) (n := 2) zT2_ok ⟨hx, hb, hml, hown, hts⟩ (x_SB_net2 l D htl aS aB aN aP aE aI cA cZ c2 cT tc tf tcs t u aa bb N h40 hf1 hf2 haa hbb hg1 hg2 hg3 hno) ⟨km_LA_23, ki_SB_net, ks_SB_net, kn_SB, kd_SB_net⟩ (by decide +kernel) (by decide) ⟨Nat.le_of_ble_eq_true rfl, Nat.le_of_ble_eq_true rfl⟩ hK hP (zF_now zT2_ok hF hS) rfl rfl rfl hl.1 rfl (Nat.le_of_ble_eq_true rfl) d_LA_net_5 hhit (fun H x9 hz9 hold9 hx9 => ?_)
  have hP := hP.old hold9
  have hS : va_S A s.heap H [] := ⟨hz9, fun q h1 h2 => hold9 q h1, fun q h => by cases h⟩
  refine lv_astore (lv' := [(4, .ref x9), (0, .ref (aS 0)), (1, .int t), (2, .int u), (3, .ref aO)]) hx hb d_LA_net_17 hl (by decide) rfl (fun ls hl => ?_)
  refine lv_iconst (v := nI 2) hx hb d_LA_net_19 (by decide) ?_
  exact W.iret hx hb hr (fun t ht hW => ⟨rfl, ⟨by rw [ht]; exact hP, va_K.moved hW.alike hK, hD⟩, hS.F ht⟩) hS.2.2 d_LA_net_20
set_option maxHeartbeats 4000000 in
set_option maxRecDepth 100000 in
/-- net: the same -/
theorem h_net_x3 (l : Launch) (D : va_G) (htl : ∀ e' : Env, l.admits e' → e'.platform.stackTraces = false) (sz : Nat) (aS aB aN aP aE aI : Nat → Nat) (cA cZ c2 cT : ClassId) (tc : Nat) (tf : Nat → Option Nat) (aO : Nat) (tcs : va_W) (t u : Int32) (aa bb : Nat) (N : NS) (h40 : tc ≤ 40) (hf1 : fbR tc tf tcs t (nI aa)) (hf2 : fbR tc tf tcs u (nI bb)) (haa : aa < 16) (hbb : bb < 16) (hg1 : N.2 ≤ 40) (hg2 : N.1 2 aa < 2 ^ 31) (hg3 : N.1 2 bb < 2 ^ 31) (ho1 : N.2 < 40) (ho2 : N.1 2 aa < 8) (ho3 : N.1 2 bb < 8) (hno : aa = bb) : Met l y_LA_net (wsH y_LA_net b_LA_net 5 (some .int) [(0, 10, 13, 21), (0, 10, 17, 13), (0, 10, 21, 15)]) ({ frames := 7, cells := 1, slots := 6, locals := 130 } : Room) (zPF zT2 D [(cA, .int), (cZ, .boolean), (c2, .array .int), (cT, .object R_TH)] ((aN 0, .inr (3, [.ref (aN 1), .ref (aN 2), .ref (aN 3), .int (nI N.2)])) :: (aN 1, .inl (cA, 40, .inl (fun zk => nI ((N.1 0) zk)))) :: (aN 2, .inl (cA, 40, .inl (fun zk => nI ((N.1 1) zk)))) :: (aN 3, .inl (cA, 16, .inl (fun zk => nI ((N.1 2) zk)))) :: (aS 0, .inr (0, [.ref (aS 1), .int (nI tc), .ref (aB 0), .ref (aN 0), .ref (aP 0), .ref (aE 0), .ref (aI 0)])) :: (aS 1, .inl (cT, 40, .inr (.inr (.inr (.inr tf))))) :: tcs) [.ref (aS 0), .int t, .int u, .ref aO] sz) (zQ (some (.int (nI 3))) (zB D [(cA, .int), (cZ, .boolean), (c2, .array .int), (cT, .object R_TH)] (va_A ((aN 0, .inr (3, [.ref (aN 1), .ref (aN 2), .ref (aN 3), .int (nI N.2)])) :: (aN 1, .inl (cA, 40, .inl (fun zk => nI ((N.1 0) zk)))) :: (aN 2, .inl (cA, 40, .inl (fun zk => nI ((N.1 1) zk)))) :: (aN 3, .inl (cA, 16, .inl (fun zk => nI ((N.1 2) zk)))) :: (aS 0, .inr (0, [.ref (aS 1), .int (nI tc), .ref (aB 0), .ref (aN 0), .ref (aP 0), .ref (aE 0), .ref (aI 0)])) :: (aS 1, .inl (cT, 40, .inr (.inr (.inr (.inr tf))))) :: tcs) sz) ((aN 0, .inr (3, [.ref (aN 1), .ref (aN 2), .ref (aN 3), .int (nI N.2)])) :: (aN 1, .inl (cA, 40, .inl (fun zk => nI ((N.1 0) zk)))) :: (aN 2, .inl (cA, 40, .inl (fun zk => nI ((N.1 1) zk)))) :: (aN 3, .inl (cA, 16, .inl (fun zk => nI ((N.1 2) zk)))) :: (aS 0, .inr (0, [.ref (aS 1), .int (nI tc), .ref (aB 0), .ref (aN 0), .ref (aP 0), .ref (aE 0), .ref (aI 0)])) :: (aS 1, .inl (cT, 40, .inr (.inr (.inr (.inr tf))))) :: tcs)) (va_A ((aN 0, .inr (3, [.ref (aN 1), .ref (aN 2), .ref (aN 3), .int (nI N.2)])) :: (aN 1, .inl (cA, 40, .inl (fun zk => nI ((N.1 0) zk)))) :: (aN 2, .inl (cA, 40, .inl (fun zk => nI ((N.1 1) zk)))) :: (aN 3, .inl (cA, 16, .inl (fun zk => nI ((N.1 2) zk)))) :: (aS 0, .inr (0, [.ref (aS 1), .int (nI tc), .ref (aB 0), .ref (aN 0), .ref (aP 0), .ref (aE 0), .ref (aI 0)])) :: (aS 1, .inl (cT, 40, .inr (.inr (.inr (.inr tf))))) :: tcs) sz)) 1 6 (va_A ((aN 0, .inr (3, [.ref (aN 1), .ref (aN 2), .ref (aN 3), .int (nI N.2)])) :: (aN 1, .inl (cA, 40, .inl (fun zk => nI ((N.1 0) zk)))) :: (aN 2, .inl (cA, 40, .inl (fun zk => nI ((N.1 1) zk)))) :: (aN 3, .inl (cA, 16, .inl (fun zk => nI ((N.1 2) zk)))) :: (aS 0, .inr (0, [.ref (aS 1), .int (nI tc), .ref (aB 0), .ref (aN 0), .ref (aP 0), .ref (aE 0), .ref (aI 0)])) :: (aS 1, .inl (cT, 40, .inr (.inr (.inr (.inr tf))))) :: tcs) sz) := by
  refine zc_MetW (hh := [(0, 10, 13, 21), (0, 10, 17, 13), (0, 10, 21, 15)]) (cc := b_LA_net) (maxL := 5) (ret := (some .int)) (by decide) rfl ?_
  intro p e s m args below meth c s₁ Bd hml htab hv
  obtain ⟨rfl, hsz, hP, hK, hD0, hF⟩ := hv
  have hx := Bd.exec
  have hb := Bd.bytes
  have hr := Bd.returns
  have hts : ∀ w ∈ lw_g, w.before _ s = true := fun w h => atoms_spec (ws := wsH y_LA_net b_LA_net 5 (some .int) [(0, 10, 13, 21), (0, 10, 17, 13), (0, 10, 21, 15)]) Bd.pre w (List.mem_cons_of_mem _ h)
  have hown : s.vm.findClass R_LA = some m.cls := findClass_of_methodNamed Bd.named
  have hlocks := Bd.notSynchronized
  obtain ⟨hD, hA, hS⟩ := z_start hsz hD0
  generalize va_A ((aN 0, .inr (3, [.ref (aN 1), .ref (aN 2), .ref (aN 3), .int (nI N.2)])) :: (aN 1, .inl (cA, 40, .inl (fun zk => nI ((N.1 0) zk)))) :: (aN 2, .inl (cA, 40, .inl (fun zk => nI ((N.1 1) zk)))) :: (aN 3, .inl (cA, 16, .inl (fun zk => nI ((N.1 2) zk)))) :: (aS 0, .inr (0, [.ref (aS 1), .int (nI tc), .ref (aB 0), .ref (aN 0), .ref (aP 0), .ref (aE 0), .ref (aI 0)])) :: (aS 1, .inl (cT, 40, .inr (.inr (.inr (.inr tf))))) :: tcs) sz = A at hD hA hS hF ⊢
  have hl := lv_entry ([.ref (aS 0), .int t, .int u, .ref aO]) (n := 5) (Nat.le_of_ble_eq_true rfl)
  rw [lg_entry_eq]
  generalize (lg_sl ([.ref (aS 0), .int t, .int u, .ref aO]) ++ List.replicate (5 - (lg_sl ([.ref (aS 0), .int t, .int u, .ref aO])).length) Slot.unset).toArray = ls at hl ⊢
  have hl : lv_has ls 5 [(0, .ref (aS 0)), (1, .int t), (2, .int u), (3, .ref aO)] := hl
  have hP : va_P D classes ((aN 0, .inr (3, [.ref (aN 1), .ref (aN 2), .ref (aN 3), .int (nI N.2)])) :: (aN 1, .inl (cA, 40, .inl (fun zk => nI ((N.1 0) zk)))) :: (aN 2, .inl (cA, 40, .inl (fun zk => nI ((N.1 1) zk)))) :: (aN 3, .inl (cA, 16, .inl (fun zk => nI ((N.1 2) zk)))) :: (aS 0, .inr (0, [.ref (aS 1), .int (nI tc), .ref (aB 0), .ref (aN 0), .ref (aP 0), .ref (aE 0), .ref (aI 0)])) :: (aS 1, .inl (cT, 40, .inr (.inr (.inr (.inr tf))))) :: tcs) s.heap := hP
  refine lv_aload_n hx hb d_LA_net_0 rfl (lv_at hl 3 rfl) ?_
  refine lv_iconst (v := nI 0) hx hb d_LA_net_1 (by decide) ?_
  refine lv_aload_n hx hb d_LA_net_2 rfl (lv_at hl 0 rfl) ?_
  refine lv_iload_n hx hb d_LA_net_3 rfl (lv_at hl 1 rfl) ?_
  refine lv_iload_n hx hb d_LA_net_4 rfl (lv_at hl 2 rfl) ?_
  have hhit : ∀ cl9 : ClassId, s.vm.findClass R_JIAE = some cl9 → zcHit 5 s ([.ref (aS 0), .int t, .int u, .ref aO] : List Value).toArray R_LA cl9 21 c.exceptionTable.toList := fun cl9 hcl9 => by
    obtain ⟨d0, e0, f0⟩ := zT2_ncl R_JIOB hF (by decide) (by decide) (by decide) hcl9
    obtain ⟨d1, e1, f1⟩ := zT2_ncl R_JISE hF (by decide) (by decide) (by decide) hcl9
    exact zc_tab _ _ htab ⟨by decide, by decide, R_JIOB, d0, hts _ kc_LA_21, e0, Or.inr ⟨f0, ⟨by decide, by decide, R_JISE, d1, hts _ kc_LA_13, e1, Or.inr ⟨f1, ⟨by decide, by decide, R_JIAE, cl9, hts _ kc_LA_15, hcl9, Or.inl ⟨zT2_hit hF (by decide) hcl9, rfl⟩⟩⟩⟩⟩⟩
  refine zcF_V (ci := 0) (q0 := 4) (hp := 21) (cls := R_JIAE) (As := [.int t, .int u]) (rest := [.int (nI 0), .ref aO]) (n := 2) zT2_ok ⟨hx, hb, hml, hown, hts⟩ (x_SB_net3 l D htl aS aB aN aP aE aI cA cZ c2 cT tc tf tcs t u aa bb N h40 hf1 hf2 haa hbb hg1 hg2 hg3 ho1 ho2 ho3 hno) ⟨km_LA_23, ki_SB_net, ks_SB_net, kn_SB, kd_SB_net⟩ (by decide +kernel) (by decide) ⟨Nat.le_of_ble_eq_true rfl, Nat.le_of_ble_eq_true rfl⟩ hK hP (zF_now zT2_ok hF hS) rfl rfl rfl hl.1 rfl (Nat.le_of_ble_eq_true rfl) d_LA_net_5 hhit (fun H x9 hz9 hold9 hx9 => ?_)
  have hP := hP.old hold9
  have hS : va_S A s.heap H [] := ⟨hz9, fun q h1 h2 => hold9 q h1, fun q h => by cases h⟩
  refine lv_astore (lv' := [(4, .ref x9), (0, .ref (aS 0)), (1, .int t), (2, .int u), (3, .ref aO)]) hx hb d_LA_net_21 hl (by decide) rfl (fun ls hl => ?_)
  refine lv_iconst (v := nI 3) hx hb d_LA_net_23 (by decide) ?_
  exact W.iret hx hb hr (fun t ht hW => ⟨rfl, ⟨by rw [ht]; exact hP, va_K.moved hW.alike hK, hD⟩, hS.F ht⟩) hS.2.2 d_LA_net_24
set_option maxHeartbeats 4000000 in
set_option maxRecDepth 100000 in
/-- slice: no first thing -/
theorem h_slice_x1a (l : Launch) (D : va_G) (htl : ∀ e' : Env, l.admits e' → e'.platform.stackTraces = false) (sz : Nat) (aS aB aN aP aE aI : Nat → Nat) (cA cZ c2 cT : ClassId) (tc : Nat) (tf : Nat → Option Nat) (aO : Nat) (t u : Int32) (ac : Bool) (h40 : tc ≤ 40) (hno : t < 0 ∨ nI tc ≤ t) (ht2 : (u < 0 ∨ nI tc ≤ u) ∨ ∃ tt aT : Nat, u = nI tt ∧ tt < tc ∧ tf tt = some aT) : Met l y_LA_slice (wsH y_LA_slice b_LA_slice 6 (some .int) [(0, 12, 15, 21), (0, 12, 19, 13), (0, 12, 23, 15)]) ({ frames := 7, cells := 1, slots := 6, locals := 130 } : Room) (zPF zT2 D [(cA, .int), (cZ, .boolean), (c2, .array .int), (cT, .object R_TH)] [(aS 0, .inr (0, [.ref (aS 1), .int (nI tc), .ref (aB 0), .ref (aN 0), .ref (aP 0), .ref (aE 0), .ref (aI 0)])), (aS 1, .inl (cT, 40, .inr (.inr (.inr (.inr tf)))))] [.ref (aS 0), .int t, .int u, .int (zb ac), .ref aO] sz) (zQ (some (.int (nI 1))) (zB D [(cA, .int), (cZ, .boolean), (c2, .array .int), (cT, .object R_TH)] (va_A [(aS 0, .inr (0, [.ref (aS 1), .int (nI tc), .ref (aB 0), .ref (aN 0), .ref (aP 0), .ref (aE 0), .ref (aI 0)])), (aS 1, .inl (cT, 40, .inr (.inr (.inr (.inr tf)))))] sz) [(aS 0, .inr (0, [.ref (aS 1), .int (nI tc), .ref (aB 0), .ref (aN 0), .ref (aP 0), .ref (aE 0), .ref (aI 0)])), (aS 1, .inl (cT, 40, .inr (.inr (.inr (.inr tf)))))]) (va_A [(aS 0, .inr (0, [.ref (aS 1), .int (nI tc), .ref (aB 0), .ref (aN 0), .ref (aP 0), .ref (aE 0), .ref (aI 0)])), (aS 1, .inl (cT, 40, .inr (.inr (.inr (.inr tf)))))] sz)) 1 6 (va_A [(aS 0, .inr (0, [.ref (aS 1), .int (nI tc), .ref (aB 0), .ref (aN 0), .ref (aP 0), .ref (aE 0), .ref (aI 0)])), (aS 1, .inl (cT, 40, .inr (.inr (.inr (.inr tf)))))] sz) := by
  refine zc_MetW (hh := [(0, 12, 15, 21), (0, 12, 19, 13), (0, 12, 23, 15)]) (cc := b_LA_slice) (maxL := 6) (ret := (some .int)) (by decide) rfl ?_
  intro p e s m args below meth c s₁ Bd hml htab hv
  obtain ⟨rfl, hsz, hP, hK, hD0, hF⟩ := hv
  have hx := Bd.exec
  have hb := Bd.bytes
  have hr := Bd.returns
  have hts : ∀ w ∈ lw_g, w.before _ s = true := fun w h => atoms_spec (ws := wsH y_LA_slice b_LA_slice 6 (some .int) [(0, 12, 15, 21), (0, 12, 19, 13), (0, 12, 23, 15)]) Bd.pre w (List.mem_cons_of_mem _ h)
  have hown : s.vm.findClass R_LA = some m.cls := findClass_of_methodNamed Bd.named
  have hlocks := Bd.notSynchronized
  obtain ⟨hD, hA, hS⟩ := z_start hsz hD0
  generalize va_A [(aS 0, .inr (0, [.ref (aS 1), .int (nI tc), .ref (aB 0), .ref (aN 0), .ref (aP 0), .ref (aE 0), .ref (aI 0)])), (aS 1, .inl (cT, 40, .inr (.inr (.inr (.inr tf)))))] sz = A at hD hA hS hF ⊢
  have hl := lv_entry ([.ref (aS 0), .int t, .int u, .int (zb ac), .ref aO]) (n := 6) (Nat.le_of_ble_eq_true rfl)
  rw [lg_entry_eq]
  generalize (lg_sl ([.ref (aS 0), .int t, .int u, .int (zb ac), .ref aO]) ++ List.replicate (6 - (lg_sl ([.ref (aS 0), .int t, .int u, .int (zb ac), .ref aO])).length) Slot.unset).toArray = ls at hl ⊢
  have hl : lv_has ls 6 [(0, .ref (aS 0)), (1, .int t), (2, .int u), (3, .int (zb ac)), (4, .ref aO)] := hl
  have hP : va_P D classes [(aS 0, .inr (0, [.ref (aS 1), .int (nI tc), .ref (aB 0), .ref (aN 0), .ref (aP 0), .ref (aE 0), .ref (aI 0)])), (aS 1, .inl (cT, 40, .inr (.inr (.inr (.inr tf)))))] s.heap := hP
  refine lv_aload hx hb d_LA_slice_0 (lv_at hl 4 rfl) ?_
  refine lv_iconst (v := nI 0) hx hb d_LA_slice_2 (by decide) ?_
  refine lv_aload_n hx hb d_LA_slice_3 rfl (lv_at hl 0 rfl) ?_
  refine lv_iload_n hx hb d_LA_slice_4 rfl (lv_at hl 1 rfl) ?_
  refine lv_iload_n hx hb d_LA_slice_5 rfl (lv_at hl 2 rfl) ?_
  refine lv_iload_n hx hb d_LA_slice_6 rfl (lv_at hl 3 rfl) ?_
  have hhit : ∀ cl9 : ClassId, s.vm.findClass R_JIOB = some cl9 → zcHit 7 s ([.ref (aS 0), .int t, .int u, .int (zb ac), .ref aO] : List Value).toArray R_LA cl9 15 c.exceptionTable.toList := fun cl9 hcl9 => by
    exact zc_tab _ _ htab ⟨by decide, by decide, R_JIOB, cl9, hts _ kc_LA_21, hcl9, Or.inl ⟨zT2_hit hF (by decide) hcl9, rfl⟩⟩
  refine zcF_V (ci := 0) (q0 := 0) (hp := 15) (cls := R_JIOB) (As := [.int t, .int u, .int (zb ac)]) (rest := [.int (nI 0), .ref aO]) (n := 3) zT2_ok ⟨hx, hb, hml, hown, hts⟩ (x_SB_slice1a l D htl aS aB aN aP aE aI cA cZ c2 cT tc tf t u ac h40 hno ht2) ⟨km_LA_27, ki_SB_slice, ks_SB_slice, kn_SB, kd_SB_slice⟩ (by decide +kernel) (by decide) ⟨Nat.le_of_ble_eq_true rfl, Nat.le_of_ble_eq_true rfl⟩ hK hP (zF_now zT2_ok hF hS) rfl rfl rfl hl.1 rfl (Nat.le_of_ble_eq_true rfl) d_LA_slice_7 hhit (fun H x9 hz9 hold9 hx9 => ?_)
  have hP := hP.old hold9
  have hS : va_S A s.heap H [] := ⟨hz9, fun q h1 h2 => hold9 q h1, fun q h => by cases h⟩
  refine lv_astore (lv' := [(5, .ref x9), (0, .ref (aS 0)), (1, .int t), (2, .int u), (3, .int (zb ac)), (4, .ref aO)]) hx hb d_LA_slice_15 hl (by decide) rfl (fun ls hl => ?_)
  refine lv_iconst (v := nI 1) hx hb d_LA_slice_17 (by decide) ?_
  exact W.iret hx hb hr (fun t ht hW => ⟨rfl, ⟨by rw [ht]; exact hP, va_K.moved hW.alike hK, hD⟩, hS.F ht⟩) hS.2.2 d_LA_slice_18
set_option maxHeartbeats 4000000 in
set_option maxRecDepth 100000 in
/-- slice: no second thing -/
theorem h_slice_x1b (l : Launch) (D : va_G) (htl : ∀ e' : Env, l.admits e' → e'.platform.stackTraces = false) (sz : Nat) (aS aB aN aP aE aI : Nat → Nat) (cA cZ c2 cT : ClassId) (tc : Nat) (tf : Nat → Option Nat) (aO : Nat) (tt aT : Nat) (u : Int32) (ac : Bool) (h40 : tc ≤ 40) (htt : tt < tc) (htf : tf tt = some aT) (hno : u < 0 ∨ nI tc ≤ u) : Met l y_LA_slice (wsH y_LA_slice b_LA_slice 6 (some .int) [(0, 12, 15, 21), (0, 12, 19, 13), (0, 12, 23, 15)]) ({ frames := 7, cells := 1, slots := 6, locals := 130 } : Room) (zPF zT2 D [(cA, .int), (cZ, .boolean), (c2, .array .int), (cT, .object R_TH)] [(aS 0, .inr (0, [.ref (aS 1), .int (nI tc), .ref (aB 0), .ref (aN 0), .ref (aP 0), .ref (aE 0), .ref (aI 0)])), (aS 1, .inl (cT, 40, .inr (.inr (.inr (.inr tf)))))] [.ref (aS 0), .int (nI tt), .int u, .int (zb ac), .ref aO] sz) (zQ (some (.int (nI 1))) (zB D [(cA, .int), (cZ, .boolean), (c2, .array .int), (cT, .object R_TH)] (va_A [(aS 0, .inr (0, [.ref (aS 1), .int (nI tc), .ref (aB 0), .ref (aN 0), .ref (aP 0), .ref (aE 0), .ref (aI 0)])), (aS 1, .inl (cT, 40, .inr (.inr (.inr (.inr tf)))))] sz) [(aS 0, .inr (0, [.ref (aS 1), .int (nI tc), .ref (aB 0), .ref (aN 0), .ref (aP 0), .ref (aE 0), .ref (aI 0)])), (aS 1, .inl (cT, 40, .inr (.inr (.inr (.inr tf)))))]) (va_A [(aS 0, .inr (0, [.ref (aS 1), .int (nI tc), .ref (aB 0), .ref (aN 0), .ref (aP 0), .ref (aE 0), .ref (aI 0)])), (aS 1, .inl (cT, 40, .inr (.inr (.inr (.inr tf)))))] sz)) 1 6 (va_A [(aS 0, .inr (0, [.ref (aS 1), .int (nI tc), .ref (aB 0), .ref (aN 0), .ref (aP 0), .ref (aE 0), .ref (aI 0)])), (aS 1, .inl (cT, 40, .inr (.inr (.inr (.inr tf)))))] sz) := by
  refine zc_MetW (hh := [(0, 12, 15, 21), (0, 12, 19, 13), (0, 12, 23, 15)]) (cc := b_LA_slice) (maxL := 6) (ret := (some .int)) (by decide) rfl ?_
  intro p e s m args below meth c s₁ Bd hml htab hv
  obtain ⟨rfl, hsz, hP, hK, hD0, hF⟩ := hv
  have hx := Bd.exec
  have hb := Bd.bytes
  have hr := Bd.returns
  have hts : ∀ w ∈ lw_g, w.before _ s = true := fun w h => atoms_spec (ws := wsH y_LA_slice b_LA_slice 6 (some .int) [(0, 12, 15, 21), (0, 12, 19, 13), (0, 12, 23, 15)]) Bd.pre w (List.mem_cons_of_mem _ h)
  have hown : s.vm.findClass R_LA = some m.cls := findClass_of_methodNamed Bd.named
  have hlocks := Bd.notSynchronized
  obtain ⟨hD, hA, hS⟩ := z_start hsz hD0
  generalize va_A [(aS 0, .inr (0, [.ref (aS 1), .int (nI tc), .ref (aB 0), .ref (aN 0), .ref (aP 0), .ref (aE 0), .ref (aI 0)])), (aS 1, .inl (cT, 40, .inr (.inr (.inr (.inr tf)))))] sz = A at hD hA hS hF ⊢
  have hl := lv_entry ([.ref (aS 0), .int (nI tt), .int u, .int (zb ac), .ref aO]) (n := 6) (Nat.le_of_ble_eq_true rfl)
  rw [lg_entry_eq]
  generalize (lg_sl ([.ref (aS 0), .int (nI tt), .int u, .int (zb ac), .ref aO]) ++ List.replicate (6 - (lg_sl ([.ref (aS 0), .int (nI tt), .int u, .int (zb ac), .ref aO])).length) Slot.unset).toArray = ls at hl ⊢
  have hl : lv_has ls 6 [(0, .ref (aS 0)), (1, .int (nI tt)), (2, .int u), (3, .int (zb ac)), (4, .ref aO)] := hl
  have hP : va_P D classes [(aS 0, .inr (0, [.ref (aS 1), .int (nI tc), .ref (aB 0), .ref (aN 0), .ref (aP 0), .ref (aE 0), .ref (aI 0)])), (aS 1, .inl (cT, 40, .inr (.inr (.inr (.inr tf)))))] s.heap := hP
  refine lv_aload hx hb d_LA_slice_0 (lv_at hl 4 rfl) ?_
  refine lv_iconst (v := nI 0) hx hb d_LA_slice_2 (by decide) ?_
  refine lv_aload_n hx hb d_LA_slice_3 rfl (lv_at hl 0 rfl) ?_
  refine lv_iload_n hx hb d_LA_slice_4 rfl (lv_at hl 1 rfl) ?_
  refine lv_iload_n hx hb d_LA_slice_5 rfl (lv_at hl 2 rfl) ?_
  refine lv_iload_n hx hb d_LA_slice_6 rfl (lv_at hl 3 rfl) ?_
  have hhit : ∀ cl9 : ClassId, s.vm.findClass R_JIOB = some cl9 → zcHit 7 s ([.ref (aS 0), .int (nI tt), .int u, .int (zb ac), .ref aO] : List Value).toArray R_LA cl9 15 c.exceptionTable.toList := fun cl9 hcl9 => by
    exact zc_tab _ _ htab ⟨by decide, by decide, R_JIOB, cl9, hts _ kc_LA_21, hcl9, Or.inl ⟨zT2_hit hF (by decide) hcl9, rfl⟩⟩
  refine zcF_V (ci := 0) (q0 := 0) (hp := 15) (cls := R_JIOB) (As := [.int (nI tt), .int u, .int (zb ac)]) (rest := [.int (nI 0), .ref aO]) (n := 3) zT2_ok ⟨hx, hb, hml, hown, hts⟩ (x_SB_slice1b l D htl aS aB aN aP aE aI cA cZ c2 cT tc tf tt aT u ac h40 htt htf hno) ⟨km_LA_27, ki_SB_slice, ks_SB_slice, kn_SB, kd_SB_slice⟩ (by decide +kernel) (by decide) ⟨Nat.le_of_ble_eq_true rfl, Nat.le_of_ble_eq_true rfl⟩ hK hP (zF_now zT2_ok hF hS) rfl rfl rfl hl.1 rfl (Nat.le_of_ble_eq_true rfl) d_LA_slice_7 hhit (fun H x9 hz9 hold9 hx9 => ?_)
  have hP := hP.old hold9
  have hS : va_S A s.heap H [] := ⟨hz9, fun q h1 h2 => hold9 q h1, fun q h => by cases h⟩
  refine lv_astore (lv' := [(5, .ref x9), (0, .ref (aS 0)), (1, .int (nI tt)), (2, .int u), (3, .int (zb ac)), (4, .ref aO)]) hx hb d_LA_slice_15 hl (by decide) rfl (fun ls hl => ?_)
  refine lv_iconst (v := nI 1) hx hb d_LA_slice_17 (by decide) ?_
  exact W.iret hx hb hr (fun t ht hW => ⟨rfl, ⟨by rw [ht]; exact hP, va_K.moved hW.alike hK, hD⟩, hS.F ht⟩) hS.2.2 d_LA_slice_18
set_option maxHeartbeats 4000000 in
set_option maxRecDepth 100000 in
/-- slice: no room -/
theorem h_slice_x2 (l : Launch) (D : va_G) (htl : ∀ e' : Env, l.admits e' → e'.platform.stackTraces = false) (sz : Nat) (aS aB aN aP aE aI : Nat → Nat) (cA cZ c2 cT : ClassId) (tc : Nat) (tf : Nat → Option Nat) (aO : Nat) (aT aU aT2 aU2 : Nat) (bk bk2 : Int32) (us us2 : Bool) (ta tb : Nat) (ac : Bool) (h40 : tc ≤ 40) (hta : ta < tc) (htb : tb < tc) (htf : tf ta = some aT) (htf2 : tf tb = some aT2) (hno : us = true ∨ us2 = true ∨ tc = 40) : Met l y_LA_slice (wsH y_LA_slice b_LA_slice 6 (some .int) [(0, 12, 15, 21), (0, 12, 19, 13), (0, 12, 23, 15)]) ({ frames := 7, cells := 1, slots := 6, locals := 130 } : Room) (zPF zT2 D [(cA, .int), (cZ, .boolean), (c2, .array .int), (cT, .object R_TH)] [(aT, .inr (9, [.int bk, .ref aU, .int (zb us)])), (aT2, .inr (9, [.int bk2, .ref aU2, .int (zb us2)])), (aS 0, .inr (0, [.ref (aS 1), .int (nI tc), .ref (aB 0), .ref (aN 0), .ref (aP 0), .ref (aE 0), .ref (aI 0)])), (aS 1, .inl (cT, 40, .inr (.inr (.inr (.inr tf)))))] [.ref (aS 0), .int (nI ta), .int (nI tb), .int (zb ac), .ref aO] sz) (zQ (some (.int (nI 2))) (zB D [(cA, .int), (cZ, .boolean), (c2, .array .int), (cT, .object R_TH)] (va_A [(aT, .inr (9, [.int bk, .ref aU, .int (zb us)])), (aT2, .inr (9, [.int bk2, .ref aU2, .int (zb us2)])), (aS 0, .inr (0, [.ref (aS 1), .int (nI tc), .ref (aB 0), .ref (aN 0), .ref (aP 0), .ref (aE 0), .ref (aI 0)])), (aS 1, .inl (cT, 40, .inr (.inr (.inr (.inr tf)))))] sz) [(aT, .inr (9, [.int bk, .ref aU, .int (zb us)])), (aT2, .inr (9, [.int bk2, .ref aU2, .int (zb us2)])), (aS 0, .inr (0, [.ref (aS 1), .int (nI tc), .ref (aB 0), .ref (aN 0), .ref (aP 0), .ref (aE 0), .ref (aI 0)])), (aS 1, .inl (cT, 40, .inr (.inr (.inr (.inr tf)))))]) (va_A [(aT, .inr (9, [.int bk, .ref aU, .int (zb us)])), (aT2, .inr (9, [.int bk2, .ref aU2, .int (zb us2)])), (aS 0, .inr (0, [.ref (aS 1), .int (nI tc), .ref (aB 0), .ref (aN 0), .ref (aP 0), .ref (aE 0), .ref (aI 0)])), (aS 1, .inl (cT, 40, .inr (.inr (.inr (.inr tf)))))] sz)) 1 6 (va_A [(aT, .inr (9, [.int bk, .ref aU, .int (zb us)])), (aT2, .inr (9, [.int bk2, .ref aU2, .int (zb us2)])), (aS 0, .inr (0, [.ref (aS 1), .int (nI tc), .ref (aB 0), .ref (aN 0), .ref (aP 0), .ref (aE 0), .ref (aI 0)])), (aS 1, .inl (cT, 40, .inr (.inr (.inr (.inr tf)))))] sz) := by
  refine zc_MetW (hh := [(0, 12, 15, 21), (0, 12, 19, 13), (0, 12, 23, 15)]) (cc := b_LA_slice) (maxL := 6) (ret := (some .int)) (by decide) rfl ?_
  intro p e s m args below meth c s₁ Bd hml htab hv
  obtain ⟨rfl, hsz, hP, hK, hD0, hF⟩ := hv
  have hx := Bd.exec
  have hb := Bd.bytes
  have hr := Bd.returns
  have hts : ∀ w ∈ lw_g, w.before _ s = true := fun w h => atoms_spec (ws := wsH y_LA_slice b_LA_slice 6 (some .int) [(0, 12, 15, 21), (0, 12, 19, 13), (0, 12, 23, 15)]) Bd.pre w (List.mem_cons_of_mem _ h)
  have hown : s.vm.findClass R_LA = some m.cls := findClass_of_methodNamed Bd.named
  have hlocks := Bd.notSynchronized
  obtain ⟨hD, hA, hS⟩ := z_start hsz hD0
  generalize va_A [(aT, .inr (9, [.int bk, .ref aU, .int (zb us)])), (aT2, .inr (9, [.int bk2, .ref aU2, .int (zb us2)])), (aS 0, .inr (0, [.ref (aS 1), .int (nI tc), .ref (aB 0), .ref (aN 0), .ref (aP 0), .ref (aE 0), .ref (aI 0)])), (aS 1, .inl (cT, 40, .inr (.inr (.inr (.inr tf)))))] sz = A at hD hA hS hF ⊢
  have hl := lv_entry ([.ref (aS 0), .int (nI ta), .int (nI tb), .int (zb ac), .ref aO]) (n := 6) (Nat.le_of_ble_eq_true rfl)
  rw [lg_entry_eq]
  generalize (lg_sl ([.ref (aS 0), .int (nI ta), .int (nI tb), .int (zb ac), .ref aO]) ++ List.replicate (6 - (lg_sl ([.ref (aS 0), .int (nI ta), .int (nI tb), .int (zb ac), .ref aO])).length) Slot.unset).toArray = ls at hl ⊢
  have hl : lv_has ls 6 [(0, .ref (aS 0)), (1, .int (nI ta)), (2, .int (nI tb)), (3, .int (zb ac)), (4, .ref aO)] := hl
  have hP : va_P D classes [(aT, .inr (9, [.int bk, .ref aU, .int (zb us)])), (aT2, .inr (9, [.int bk2, .ref aU2, .int (zb us2)])), (aS 0, .inr (0, [.ref (aS 1), .int (nI tc), .ref (aB 0), .ref (aN 0), .ref (aP 0), .ref (aE 0), .ref (aI 0)])), (aS 1, .inl (cT, 40, .inr (.inr (.inr (.inr tf)))))] s.heap := hP
  refine lv_aload hx hb d_LA_slice_0 (lv_at hl 4 rfl) ?_
  refine lv_iconst (v := nI 0) hx hb d_LA_slice_2 (by decide) ?_
  refine lv_aload_n hx hb d_LA_slice_3 rfl (lv_at hl 0 rfl) ?_
  refine lv_iload_n hx hb d_LA_slice_4 rfl (lv_at hl 1 rfl) ?_
  refine lv_iload_n hx hb d_LA_slice_5 rfl (lv_at hl 2 rfl) ?_
  refine lv_iload_n hx hb d_LA_slice_6 rfl (lv_at hl 3 rfl) ?_
  have hhit : ∀ cl9 : ClassId, s.vm.findClass R_JISE = some cl9 → zcHit 7 s ([.ref (aS 0), .int (nI ta), .int (nI tb), .int (zb ac), .ref aO] : List Value).toArray R_LA cl9 19 c.exceptionTable.toList := fun cl9 hcl9 => by
    obtain ⟨d0, e0, f0⟩ := zT2_ncl R_JIOB hF (by decide) (by decide) (by decide) hcl9
    exact zc_tab _ _ htab ⟨by decide, by decide, R_JIOB, d0, hts _ kc_LA_21, e0, Or.inr ⟨f0, ⟨by decide, by decide, R_JISE, cl9, hts _ kc_LA_13, hcl9, Or.inl ⟨zT2_hit hF (by decide) hcl9, rfl⟩⟩⟩⟩
  refine zcF_V (ci := 0) (q0 := 2) (hp := 19) (cls := R_JISE) (As := [.int (nI ta), .int (nI tb), .int (zb ac)]) (rest := [.int (nI 0), .ref aO]) (n := 3) zT2_ok ⟨hx, hb, hml, hown, hts⟩ (x_SB_slice2 l D htl aS aB aN aP aE aI cA cZ c2 cT tc tf aT aU aT2 aU2 bk bk2 us us2 ta tb ac h40 hta htb htf htf2 hno) ⟨km_LA_27, ki_SB_slice, ks_SB_slice, kn_SB, kd_SB_slice⟩ (by decide +kernel) (by decide) ⟨Nat.le_of_ble_eq_true rfl, Nat.le_of_ble_eq_true rfl⟩ hK hP (zF_now zT2_ok hF hS) rfl rfl rfl hl.1 rfl (Nat.le_of_ble_eq_true rfl) d_LA_slice_7 hhit (fun H x9 hz9 hold9 hx9 => ?_)
  have hP := hP.old hold9
  have hS : va_S A s.heap H [] := ⟨hz9, fun q h1 h2 => hold9 q h1, fun q h => by cases h⟩
  refine lv_astore (lv' := [(5, .ref x9), (0, .ref (aS 0)), (1, .int (nI ta)), (2, .int (nI tb)), (3, .int (zb ac)), (4, .ref aO)]) hx hb d_LA_slice_19 hl (by decide) rfl (fun ls hl => ?_)
  refine lv_iconst (v := nI 2) hx hb d_LA_slice_21 (by decide) ?_
  exact W.iret hx hb hr (fun t ht hW => ⟨rfl, ⟨by rw [ht]; exact hP, va_K.moved hW.alike hK, hD⟩, hS.F ht⟩) hS.2.2 d_LA_slice_22
set_option maxHeartbeats 4000000 in
set_option maxRecDepth 100000 in
/-- slice: the same -/
theorem h_slice_x3 (l : Launch) (D : va_G) (htl : ∀ e' : Env, l.admits e' → e'.platform.stackTraces = false) (sz : Nat) (aS aB aN aP aE aI : Nat → Nat) (cA cZ c2 cT : ClassId) (tc : Nat) (tf : Nat → Option Nat) (aO : Nat) (aT aU : Nat) (bk : Int32) (us : Bool) (ta : Nat) (ac : Bool) (h40 : tc < 40) (hta : ta < tc) (htf : tf ta = some aT) (hus : us = false) : Met l y_LA_slice (wsH y_LA_slice b_LA_slice 6 (some .int) [(0, 12, 15, 21), (0, 12, 19, 13), (0, 12, 23, 15)]) ({ frames := 7, cells := 1, slots := 6, locals := 130 } : Room) (zPF zT2 D [(cA, .int), (cZ, .boolean), (c2, .array .int), (cT, .object R_TH)] [(aT, .inr (9, [.int bk, .ref aU, .int (zb us)])), (aS 0, .inr (0, [.ref (aS 1), .int (nI tc), .ref (aB 0), .ref (aN 0), .ref (aP 0), .ref (aE 0), .ref (aI 0)])), (aS 1, .inl (cT, 40, .inr (.inr (.inr (.inr tf)))))] [.ref (aS 0), .int (nI ta), .int (nI ta), .int (zb ac), .ref aO] sz) (zQ (some (.int (nI 3))) (zB D [(cA, .int), (cZ, .boolean), (c2, .array .int), (cT, .object R_TH)] (va_A [(aT, .inr (9, [.int bk, .ref aU, .int (zb us)])), (aS 0, .inr (0, [.ref (aS 1), .int (nI tc), .ref (aB 0), .ref (aN 0), .ref (aP 0), .ref (aE 0), .ref (aI 0)])), (aS 1, .inl (cT, 40, .inr (.inr (.inr (.inr tf)))))] sz) [(aT, .inr (9, [.int bk, .ref aU, .int (zb us)])), (aS 0, .inr (0, [.ref (aS 1), .int (nI tc), .ref (aB 0), .ref (aN 0), .ref (aP 0), .ref (aE 0), .ref (aI 0)])), (aS 1, .inl (cT, 40, .inr (.inr (.inr (.inr tf)))))]) (va_A [(aT, .inr (9, [.int bk, .ref aU, .int (zb us)])), (aS 0, .inr (0, [.ref (aS 1), .int (nI tc), .ref (aB 0), .ref (aN 0), .ref (aP 0), .ref (aE 0), .ref (aI 0)])), (aS 1, .inl (cT, 40, .inr (.inr (.inr (.inr tf)))))] sz)) 1 6 (va_A [(aT, .inr (9, [.int bk, .ref aU, .int (zb us)])), (aS 0, .inr (0, [.ref (aS 1), .int (nI tc), .ref (aB 0), .ref (aN 0), .ref (aP 0), .ref (aE 0), .ref (aI 0)])), (aS 1, .inl (cT, 40, .inr (.inr (.inr (.inr tf)))))] sz) := by
  refine zc_MetW (hh := [(0, 12, 15, 21), (0, 12, 19, 13), (0, 12, 23, 15)]) (cc := b_LA_slice) (maxL := 6) (ret := (some .int)) (by decide) rfl ?_
  intro p e s m args below meth c s₁ Bd hml htab hv
  obtain ⟨rfl, hsz, hP, hK, hD0, hF⟩ := hv
  have hx := Bd.exec
  have hb := Bd.bytes
  have hr := Bd.returns
  have hts : ∀ w ∈ lw_g, w.before _ s = true := fun w h => atoms_spec (ws := wsH y_LA_slice b_LA_slice 6 (some .int) [(0, 12, 15, 21), (0, 12, 19, 13), (0, 12, 23, 15)]) Bd.pre w (List.mem_cons_of_mem _ h)
  have hown : s.vm.findClass R_LA = some m.cls := findClass_of_methodNamed Bd.named
  have hlocks := Bd.notSynchronized
  obtain ⟨hD, hA, hS⟩ := z_start hsz hD0
  generalize va_A [(aT, .inr (9, [.int bk, .ref aU, .int (zb us)])), (aS 0, .inr (0, [.ref (aS 1), .int (nI tc), .ref (aB 0), .ref (aN 0), .ref (aP 0), .ref (aE 0), .ref (aI 0)])), (aS 1, .inl (cT, 40, .inr (.inr (.inr (.inr tf)))))] sz = A at hD hA hS hF ⊢
  have hl := lv_entry ([.ref (aS 0), .int (nI ta), .int (nI ta), .int (zb ac), .ref aO]) (n := 6) (Nat.le_of_ble_eq_true rfl)
  rw [lg_entry_eq]
  generalize (lg_sl ([.ref (aS 0), .int (nI ta), .int (nI ta), .int (zb ac), .ref aO]) ++ List.replicate (6 - (lg_sl ([.ref (aS 0), .int (nI ta), .int (nI ta), .int (zb ac), .ref aO])).length) Slot.unset).toArray = ls at hl ⊢
  have hl : lv_has ls 6 [(0, .ref (aS 0)), (1, .int (nI ta)), (2, .int (nI ta)), (3, .int (zb ac)), (4, .ref aO)] := hl
  have hP : va_P D classes [(aT, .inr (9, [.int bk, .ref aU, .int (zb us)])), (aS 0, .inr (0, [.ref (aS 1), .int (nI tc), .ref (aB 0), .ref (aN 0), .ref (aP 0), .ref (aE 0), .ref (aI 0)])), (aS 1, .inl (cT, 40, .inr (.inr (.inr (.inr tf)))))] s.heap := hP
  refine lv_aload hx hb d_LA_slice_0 (lv_at hl 4 rfl) ?_
  refine lv_iconst (v := nI 0) hx hb d_LA_slice_2 (by decide) ?_
  refine lv_aload_n hx hb d_LA_slice_3 rfl (lv_at hl 0 rfl) ?_
  refine lv_iload_n hx hb d_LA_slice_4 rfl (lv_at hl 1 rfl) ?_
  refine lv_iload_n hx hb d_LA_slice_5 rfl (lv_at hl 2 rfl) ?_
  refine lv_iload_n hx hb d_LA_slice_6 rfl (lv_at hl 3 rfl) ?_
  have hhit : ∀ cl9 : ClassId, s.vm.findClass R_JIAE = some cl9 → zcHit 7 s ([.ref (aS 0), .int (nI ta), .int (nI ta), .int (zb ac), .ref aO] : List Value).toArray R_LA cl9 23 c.exceptionTable.toList := fun cl9 hcl9 => by
    obtain ⟨d0, e0, f0⟩ := zT2_ncl R_JIOB hF (by decide) (by decide) (by decide) hcl9
    obtain ⟨d1, e1, f1⟩ := zT2_ncl R_JISE hF (by decide) (by decide) (by decide) hcl9
    exact zc_tab _ _ htab ⟨by decide, by decide, R_JIOB, d0, hts _ kc_LA_21, e0, Or.inr ⟨f0, ⟨by decide, by decide, R_JISE, d1, hts _ kc_LA_13, e1, Or.inr ⟨f1, ⟨by decide, by decide, R_JIAE, cl9, hts _ kc_LA_15, hcl9, Or.inl ⟨zT2_hit hF (by decide) hcl9, rfl⟩⟩⟩⟩⟩⟩
  refine zcF_V (ci := 0) (q0 := 1) (hp := 23) (cls := R_JIAE) (As := [.int (nI ta), .int (nI ta), .int (zb ac)]) (rest := [.int (nI 0), .ref aO]) (n := 3) zT2_ok ⟨hx, hb, hml, hown, hts⟩ (x_SB_slice3 l D htl aS aB aN aP aE aI cA cZ c2 cT tc tf aT aU bk us ta ac h40 hta htf hus) ⟨km_LA_27, ki_SB_slice, ks_SB_slice, kn_SB, kd_SB_slice⟩ (by decide +kernel) (by decide) ⟨Nat.le_of_ble_eq_true rfl, Nat.le_of_ble_eq_true rfl⟩ hK hP (zF_now zT2_ok hF hS) rfl rfl rfl hl.1 rfl (Nat.le_of_ble_eq_true rfl) d_LA_slice_7 hhit (fun H x9 hz9 hold9 hx9 => ?_)
  have hP := hP.old hold9
  have hS : va_S A s.heap H [] := ⟨hz9, fun q h1 h2 => hold9 q h1, fun q h => by cases h⟩
  refine lv_astore (lv' := [(5, .ref x9), (0, .ref (aS 0)), (1, .int (nI ta)), (2, .int (nI ta)), (3, .int (zb ac)), (4, .ref aO)]) hx hb d_LA_slice_23 hl (by decide) rfl (fun ls hl => ?_)
  refine lv_iconst (v := nI 3) hx hb d_LA_slice_25 (by decide) ?_
  exact W.iret hx hb hr (fun t ht hW => ⟨rfl, ⟨by rw [ht]; exact hP, va_K.moved hW.alike hK, hD⟩, hS.F ht⟩) hS.2.2 d_LA_slice_26
set_option maxHeartbeats 4000000 in
set_option maxRecDepth 100000 in
/-- slice: no room, one thing -/
theorem h_slice_x2s (l : Launch) (D : va_G) (htl : ∀ e' : Env, l.admits e' → e'.platform.stackTraces = false) (sz : Nat) (aS aB aN aP aE aI : Nat → Nat) (cA cZ c2 cT : ClassId) (tc : Nat) (tf : Nat → Option Nat) (aO : Nat) (aT aU : Nat) (bk : Int32) (us : Bool) (ta : Nat) (ac : Bool) (h40 : tc ≤ 40) (hta : ta < tc) (htf : tf ta = some aT) (hno : us = true ∨ us = true ∨ tc = 40) : Met l y_LA_slice (wsH y_LA_slice b_LA_slice 6 (some .int) [(0, 12, 15, 21), (0, 12, 19, 13), (0, 12, 23, 15)]) ({ frames := 7, cells := 1, slots := 6, locals := 130 } : Room) (zPF zT2 D [(cA, .int), (cZ, .boolean), (c2, .array .int), (cT, .object R_TH)] [(aT, .inr (9, [.int bk, .ref aU, .int (zb us)])), (aS 0, .inr (0, [.ref (aS 1), .int (nI tc), .ref (aB 0), .ref (aN 0), .ref (aP 0), .ref (aE 0), .ref (aI 0)])), (aS 1, .inl (cT, 40, .inr (.inr (.inr (.inr tf)))))] [.ref (aS 0), .int (nI ta), .int (nI ta), .int (zb ac), .ref aO] sz) (zQ (some (.int (nI 2))) (zB D [(cA, .int), (cZ, .boolean), (c2, .array .int), (cT, .object R_TH)] (va_A [(aT, .inr (9, [.int bk, .ref aU, .int (zb us)])), (aS 0, .inr (0, [.ref (aS 1), .int (nI tc), .ref (aB 0), .ref (aN 0), .ref (aP 0), .ref (aE 0), .ref (aI 0)])), (aS 1, .inl (cT, 40, .inr (.inr (.inr (.inr tf)))))] sz) [(aT, .inr (9, [.int bk, .ref aU, .int (zb us)])), (aS 0, .inr (0, [.ref (aS 1), .int (nI tc), .ref (aB 0), .ref (aN 0), .ref (aP 0), .ref (aE 0), .ref (aI 0)])), (aS 1, .inl (cT, 40, .inr (.inr (.inr (.inr tf)))))]) (va_A [(aT, .inr (9, [.int bk, .ref aU, .int (zb us)])), (aS 0, .inr (0, [.ref (aS 1), .int (nI tc), .ref (aB 0), .ref (aN 0), .ref (aP 0), .ref (aE 0), .ref (aI 0)])), (aS 1, .inl (cT, 40, .inr (.inr (.inr (.inr tf)))))] sz)) 1 6 (va_A [(aT, .inr (9, [.int bk, .ref aU, .int (zb us)])), (aS 0, .inr (0, [.ref (aS 1), .int (nI tc), .ref (aB 0), .ref (aN 0), .ref (aP 0), .ref (aE 0), .ref (aI 0)])), (aS 1, .inl (cT, 40, .inr (.inr (.inr (.inr tf)))))] sz) := by
  refine zc_MetW (hh := [(0, 12, 15, 21), (0, 12, 19, 13), (0, 12, 23, 15)]) (cc := b_LA_slice) (maxL := 6) (ret := (some .int)) (by decide) rfl ?_
  intro p e s m args below meth c s₁ Bd hml htab hv
  obtain ⟨rfl, hsz, hP, hK, hD0, hF⟩ := hv
  have hx := Bd.exec
  have hb := Bd.bytes
  have hr := Bd.returns
  have hts : ∀ w ∈ lw_g, w.before _ s = true := fun w h => atoms_spec (ws := wsH y_LA_slice b_LA_slice 6 (some .int) [(0, 12, 15, 21), (0, 12, 19, 13), (0, 12, 23, 15)]) Bd.pre w (List.mem_cons_of_mem _ h)
  have hown : s.vm.findClass R_LA = some m.cls := findClass_of_methodNamed Bd.named
  have hlocks := Bd.notSynchronized
  obtain ⟨hD, hA, hS⟩ := z_start hsz hD0
  generalize va_A [(aT, .inr (9, [.int bk, .ref aU, .int (zb us)])), (aS 0, .inr (0, [.ref (aS 1), .int (nI tc), .ref (aB 0), .ref (aN 0), .ref (aP 0), .ref (aE 0), .ref (aI 0)])), (aS 1, .inl (cT, 40, .inr (.inr (.inr (.inr tf)))))] sz = A at hD hA hS hF ⊢
  have hl := lv_entry ([.ref (aS 0), .int (nI ta), .int (nI ta), .int (zb ac), .ref aO]) (n := 6) (Nat.le_of_ble_eq_true rfl)
  rw [lg_entry_eq]
  generalize (lg_sl ([.ref (aS 0), .int (nI ta), .int (nI ta), .int (zb ac), .ref aO]) ++ List.replicate (6 - (lg_sl ([.ref (aS 0), .int (nI ta), .int (nI ta), .int (zb ac), .ref aO])).length) Slot.unset).toArray = ls at hl ⊢
  have hl : lv_has ls 6 [(0, .ref (aS 0)), (1, .int (nI ta)), (2, .int (nI ta)), (3, .int (zb ac)), (4, .ref aO)] := hl
  have hP : va_P D classes [(aT, .inr (9, [.int bk, .ref aU, .int (zb us)])), (aS 0, .inr (0, [.ref (aS 1), .int (nI tc), .ref (aB 0), .ref (aN 0), .ref (aP 0), .ref (aE 0), .ref (aI 0)])), (aS 1, .inl (cT, 40, .inr (.inr (.inr (.inr tf)))))] s.heap := hP
  refine lv_aload hx hb d_LA_slice_0 (lv_at hl 4 rfl) ?_
  refine lv_iconst (v := nI 0) hx hb d_LA_slice_2 (by decide) ?_
  refine lv_aload_n hx hb d_LA_slice_3 rfl (lv_at hl 0 rfl) ?_
  refine lv_iload_n hx hb d_LA_slice_4 rfl (lv_at hl 1 rfl) ?_
  refine lv_iload_n hx hb d_LA_slice_5 rfl (lv_at hl 2 rfl) ?_
  refine lv_iload_n hx hb d_LA_slice_6 rfl (lv_at hl 3 rfl) ?_
  have hhit : ∀ cl9 : ClassId, s.vm.findClass R_JISE = some cl9 → zcHit 7 s ([.ref (aS 0), .int (nI ta), .int (nI ta), .int (zb ac), .ref aO] : List Value).toArray R_LA cl9 19 c.exceptionTable.toList := fun cl9 hcl9 => by
    obtain ⟨d0, e0, f0⟩ := zT2_ncl R_JIOB hF (by decide) (by decide) (by decide) hcl9
    exact zc_tab _ _ htab ⟨by decide, by decide, R_JIOB, d0, hts _ kc_LA_21, e0, Or.inr ⟨f0, ⟨by decide, by decide, R_JISE, cl9, hts _ kc_LA_13, hcl9, Or.inl ⟨zT2_hit hF (by decide) hcl9, rfl⟩⟩⟩⟩
  refine zcF_V (ci := 0) (q0 := 2) (hp := 19) (cls := R_JISE) (As := [.int (nI ta), .int (nI ta), .int (zb ac)]) (rest := [.int (nI 0), .ref aO]) (n := 3) zT2_ok ⟨hx, hb, hml, hown, hts⟩ (x_SB_slice2 l D htl aS aB aN aP aE aI cA cZ c2 cT tc tf aT aU aT aU bk bk us us ta ta ac h40 hta hta htf htf hno) ⟨km_LA_27, ki_SB_slice, ks_SB_slice, kn_SB, kd_SB_slice⟩ (by decide +kernel) (by decide) ⟨Nat.le_of_ble_eq_true rfl, Nat.le_of_ble_eq_true rfl⟩ hK (hP.mem (fun q hq => (List.mem_cons.mp hq).elim (fun h => h ▸ List.mem_cons_self) (fun h => h))) (zF_now zT2_ok hF hS) rfl rfl rfl hl.1 rfl (Nat.le_of_ble_eq_true rfl) d_LA_slice_7 hhit (fun H x9 hz9 hold9 hx9 => ?_)
  have hP := hP.old hold9
  have hS : va_S A s.heap H [] := ⟨hz9, fun q h1 h2 => hold9 q h1, fun q h => by cases h⟩
  refine lv_astore (lv' := [(5, .ref x9), (0, .ref (aS 0)), (1, .int (nI ta)), (2, .int (nI ta)), (3, .int (zb ac)), (4, .ref aO)]) hx hb d_LA_slice_19 hl (by decide) rfl (fun ls hl => ?_)
  refine lv_iconst (v := nI 2) hx hb d_LA_slice_21 (by decide) ?_
  exact W.iret hx hb hr (fun t ht hW => ⟨rfl, ⟨by rw [ht]; exact hP, va_K.moved hW.alike hK, hD⟩, hS.F ht⟩) hS.2.2 d_LA_slice_22
