theorem d_OR_init_0 : decode b_OR_init 0 = .ok (.aload_n 0, 1) := by decide +kernel
theorem d_OR_init_1 : decode b_OR_init 1 = .ok (.invokespecial 3, 3) := by decide +kernel
theorem d_OR_init_4 : decode b_OR_init 4 = .ok (.aload_n 0, 1) := by decide +kernel
theorem d_OR_init_5 : decode b_OR_init 5 = .ok (.bipush 16, 2) := by decide +kernel
theorem d_OR_init_7 : decode b_OR_init 7 = .ok (.newarray .int, 2) := by decide +kernel
theorem d_OR_init_9 : decode b_OR_init 9 = .ok (.putfield 9, 3) := by decide +kernel
theorem d_OR_init_12 : decode b_OR_init 12 = .ok (.aload_n 0, 1) := by decide +kernel
theorem d_OR_init_13 : decode b_OR_init 13 = .ok (.bipush 16, 2) := by decide +kernel
theorem d_OR_init_15 : decode b_OR_init 15 = .ok (.newarray .int, 2) := by decide +kernel
theorem d_OR_init_17 : decode b_OR_init 17 = .ok (.putfield 15, 3) := by decide +kernel
theorem d_OR_init_20 : decode b_OR_init 20 = .ok (.aload_n 0, 1) := by decide +kernel
theorem d_OR_init_21 : decode b_OR_init 21 = .ok (.iconst 0, 1) := by decide +kernel
theorem d_OR_init_22 : decode b_OR_init 22 = .ok (.putfield 18, 3) := by decide +kernel
theorem d_OR_init_25 : decode b_OR_init 25 = .ok (.return_, 1) := by decide +kernel
theorem d_BL_init_0 : decode b_BL_init 0 = .ok (.aload_n 0, 1) := by decide +kernel
theorem d_BL_init_1 : decode b_BL_init 1 = .ok (.invokespecial 3, 3) := by decide +kernel
theorem d_BL_init_4 : decode b_BL_init 4 = .ok (.aload_n 0, 1) := by decide +kernel
theorem d_BL_init_5 : decode b_BL_init 5 = .ok (.iconst 2, 1) := by decide +kernel
theorem d_BL_init_6 : decode b_BL_init 6 = .ok (.bipush 16, 2) := by decide +kernel
theorem d_BL_init_8 : decode b_BL_init 8 = .ok (.multianewarray 9 2, 4) := by decide +kernel
theorem d_BL_init_12 : decode b_BL_init 12 = .ok (.putfield 11, 3) := by decide +kernel
theorem d_BL_init_15 : decode b_BL_init 15 = .ok (.aload_n 0, 1) := by decide +kernel
theorem d_BL_init_16 : decode b_BL_init 16 = .ok (.iconst 2, 1) := by decide +kernel
theorem d_BL_init_17 : decode b_BL_init 17 = .ok (.bipush 16, 2) := by decide +kernel
theorem d_BL_init_19 : decode b_BL_init 19 = .ok (.multianewarray 9 2, 4) := by decide +kernel
theorem d_BL_init_23 : decode b_BL_init 23 = .ok (.putfield 16, 3) := by decide +kernel
theorem d_BL_init_26 : decode b_BL_init 26 = .ok (.aload_n 0, 1) := by decide +kernel
theorem d_BL_init_27 : decode b_BL_init 27 = .ok (.bipush 16, 2) := by decide +kernel
theorem d_BL_init_29 : decode b_BL_init 29 = .ok (.newarray .boolean, 2) := by decide +kernel
theorem d_BL_init_31 : decode b_BL_init 31 = .ok (.putfield 19, 3) := by decide +kernel
theorem d_BL_init_34 : decode b_BL_init 34 = .ok (.aload_n 0, 1) := by decide +kernel
theorem d_BL_init_35 : decode b_BL_init 35 = .ok (.bipush 16, 2) := by decide +kernel
theorem d_BL_init_37 : decode b_BL_init 37 = .ok (.newarray .boolean, 2) := by decide +kernel
theorem d_BL_init_39 : decode b_BL_init 39 = .ok (.putfield 23, 3) := by decide +kernel
theorem d_BL_init_42 : decode b_BL_init 42 = .ok (.aload_n 0, 1) := by decide +kernel
theorem d_BL_init_43 : decode b_BL_init 43 = .ok (.iconst 0, 1) := by decide +kernel
theorem d_BL_init_44 : decode b_BL_init 44 = .ok (.putfield 26, 3) := by decide +kernel
theorem d_BL_init_47 : decode b_BL_init 47 = .ok (.return_, 1) := by decide +kernel
theorem d_NE_init_0 : decode b_NE_init 0 = .ok (.aload_n 0, 1) := by decide +kernel
theorem d_NE_init_1 : decode b_NE_init 1 = .ok (.invokespecial 3, 3) := by decide +kernel
theorem d_NE_init_4 : decode b_NE_init 4 = .ok (.aload_n 0, 1) := by decide +kernel
theorem d_NE_init_5 : decode b_NE_init 5 = .ok (.bipush 40, 2) := by decide +kernel
theorem d_NE_init_7 : decode b_NE_init 7 = .ok (.newarray .int, 2) := by decide +kernel
theorem d_NE_init_9 : decode b_NE_init 9 = .ok (.putfield 9, 3) := by decide +kernel
theorem d_NE_init_12 : decode b_NE_init 12 = .ok (.aload_n 0, 1) := by decide +kernel
theorem d_NE_init_13 : decode b_NE_init 13 = .ok (.bipush 40, 2) := by decide +kernel
theorem d_NE_init_15 : decode b_NE_init 15 = .ok (.newarray .int, 2) := by decide +kernel
theorem d_NE_init_17 : decode b_NE_init 17 = .ok (.putfield 15, 3) := by decide +kernel
theorem d_NE_init_20 : decode b_NE_init 20 = .ok (.aload_n 0, 1) := by decide +kernel
theorem d_NE_init_21 : decode b_NE_init 21 = .ok (.bipush 16, 2) := by decide +kernel
theorem d_NE_init_23 : decode b_NE_init 23 = .ok (.newarray .int, 2) := by decide +kernel
theorem d_NE_init_25 : decode b_NE_init 25 = .ok (.putfield 18, 3) := by decide +kernel
theorem d_NE_init_28 : decode b_NE_init 28 = .ok (.aload_n 0, 1) := by decide +kernel
theorem d_NE_init_29 : decode b_NE_init 29 = .ok (.iconst 0, 1) := by decide +kernel
theorem d_NE_init_30 : decode b_NE_init 30 = .ok (.putfield 21, 3) := by decide +kernel
theorem d_NE_init_33 : decode b_NE_init 33 = .ok (.return_, 1) := by decide +kernel
theorem d_PL_init_0 : decode b_PL_init 0 = .ok (.aload_n 0, 1) := by decide +kernel
theorem d_PL_init_1 : decode b_PL_init 1 = .ok (.invokespecial 3, 3) := by decide +kernel
theorem d_PL_init_4 : decode b_PL_init 4 = .ok (.aload_n 0, 1) := by decide +kernel
theorem d_PL_init_5 : decode b_PL_init 5 = .ok (.aload_n 1, 1) := by decide +kernel
theorem d_PL_init_6 : decode b_PL_init 6 = .ok (.putfield 9, 3) := by decide +kernel
theorem d_PL_init_9 : decode b_PL_init 9 = .ok (.aload_n 0, 1) := by decide +kernel
theorem d_PL_init_10 : decode b_PL_init 10 = .ok (.new 15, 3) := by decide +kernel
theorem d_PL_init_13 : decode b_PL_init 13 = .ok (.dup, 1) := by decide +kernel
theorem d_PL_init_14 : decode b_PL_init 14 = .ok (.invokespecial 17, 3) := by decide +kernel
theorem d_PL_init_17 : decode b_PL_init 17 = .ok (.putfield 18, 3) := by decide +kernel
theorem d_PL_init_20 : decode b_PL_init 20 = .ok (.aload_n 0, 1) := by decide +kernel
theorem d_PL_init_21 : decode b_PL_init 21 = .ok (.new 15, 3) := by decide +kernel
theorem d_PL_init_24 : decode b_PL_init 24 = .ok (.dup, 1) := by decide +kernel
theorem d_PL_init_25 : decode b_PL_init 25 = .ok (.invokespecial 17, 3) := by decide +kernel
theorem d_PL_init_28 : decode b_PL_init 28 = .ok (.putfield 22, 3) := by decide +kernel
theorem d_PL_init_31 : decode b_PL_init 31 = .ok (.aload_n 0, 1) := by decide +kernel
theorem d_PL_init_32 : decode b_PL_init 32 = .ok (.bipush 16, 2) := by decide +kernel
theorem d_PL_init_34 : decode b_PL_init 34 = .ok (.newarray .boolean, 2) := by decide +kernel
theorem d_PL_init_36 : decode b_PL_init 36 = .ok (.putfield 25, 3) := by decide +kernel
theorem d_PL_init_39 : decode b_PL_init 39 = .ok (.aload_n 0, 1) := by decide +kernel
theorem d_PL_init_40 : decode b_PL_init 40 = .ok (.iconst 2, 1) := by decide +kernel
theorem d_PL_init_41 : decode b_PL_init 41 = .ok (.bipush 16, 2) := by decide +kernel
theorem d_PL_init_43 : decode b_PL_init 43 = .ok (.multianewarray 29 2, 4) := by decide +kernel
theorem d_PL_init_47 : decode b_PL_init 47 = .ok (.putfield 31, 3) := by decide +kernel
theorem d_PL_init_50 : decode b_PL_init 50 = .ok (.aload_n 0, 1) := by decide +kernel
theorem d_PL_init_51 : decode b_PL_init 51 = .ok (.iconst 2, 1) := by decide +kernel
theorem d_PL_init_52 : decode b_PL_init 52 = .ok (.bipush 16, 2) := by decide +kernel
theorem d_PL_init_54 : decode b_PL_init 54 = .ok (.multianewarray 29 2, 4) := by decide +kernel
theorem d_PL_init_58 : decode b_PL_init 58 = .ok (.putfield 34, 3) := by decide +kernel
theorem d_PL_init_61 : decode b_PL_init 61 = .ok (.aload_n 0, 1) := by decide +kernel
theorem d_PL_init_62 : decode b_PL_init 62 = .ok (.iconst 2, 1) := by decide +kernel
theorem d_PL_init_63 : decode b_PL_init 63 = .ok (.newarray .int, 2) := by decide +kernel
theorem d_PL_init_65 : decode b_PL_init 65 = .ok (.putfield 37, 3) := by decide +kernel
theorem d_PL_init_68 : decode b_PL_init 68 = .ok (.return_, 1) := by decide +kernel
theorem d_DR_init_0 : decode b_DR_init 0 = .ok (.aload_n 0, 1) := by decide +kernel
theorem d_DR_init_1 : decode b_DR_init 1 = .ok (.invokespecial 1, 3) := by decide +kernel
theorem d_DR_init_4 : decode b_DR_init 4 = .ok (.aload_n 0, 1) := by decide +kernel
theorem d_DR_init_5 : decode b_DR_init 5 = .ok (.lload_n 1, 1) := by decide +kernel
theorem d_DR_init_6 : decode b_DR_init 6 = .ok (.putfield 7, 3) := by decide +kernel
theorem d_DR_init_9 : decode b_DR_init 9 = .ok (.return_, 1) := by decide +kernel
theorem d_SE_init_0 : decode b_SE_init 0 = .ok (.aload_n 0, 1) := by decide +kernel
theorem d_SE_init_1 : decode b_SE_init 1 = .ok (.invokespecial 1, 3) := by decide +kernel
theorem d_SE_init_4 : decode b_SE_init 4 = .ok (.aload_n 0, 1) := by decide +kernel
theorem d_SE_init_5 : decode b_SE_init 5 = .ok (.aload_n 1, 1) := by decide +kernel
theorem d_SE_init_6 : decode b_SE_init 6 = .ok (.putfield 7, 3) := by decide +kernel
theorem d_SE_init_9 : decode b_SE_init 9 = .ok (.aload_n 0, 1) := by decide +kernel
theorem d_SE_init_10 : decode b_SE_init 10 = .ok (.aload_n 2, 1) := by decide +kernel
theorem d_SE_init_11 : decode b_SE_init 11 = .ok (.putfield 13, 3) := by decide +kernel
theorem d_SE_init_14 : decode b_SE_init 14 = .ok (.aload_n 0, 1) := by decide +kernel
theorem d_SE_init_15 : decode b_SE_init 15 = .ok (.aload_n 3, 1) := by decide +kernel
theorem d_SE_init_16 : decode b_SE_init 16 = .ok (.putfield 16, 3) := by decide +kernel
theorem d_SE_init_19 : decode b_SE_init 19 = .ok (.aload_n 0, 1) := by decide +kernel
theorem d_SE_init_20 : decode b_SE_init 20 = .ok (.aload 4, 2) := by decide +kernel
theorem d_SE_init_22 : decode b_SE_init 22 = .ok (.putfield 20, 3) := by decide +kernel
theorem d_SE_init_25 : decode b_SE_init 25 = .ok (.aload_n 0, 1) := by decide +kernel
theorem d_SE_init_26 : decode b_SE_init 26 = .ok (.lconst 0, 1) := by decide +kernel
theorem d_SE_init_27 : decode b_SE_init 27 = .ok (.putfield 24, 3) := by decide +kernel
theorem d_SE_init_30 : decode b_SE_init 30 = .ok (.aload_n 0, 1) := by decide +kernel
theorem d_SE_init_31 : decode b_SE_init 31 = .ok (.lconst 0, 1) := by decide +kernel
theorem d_SE_init_32 : decode b_SE_init 32 = .ok (.putfield 28, 3) := by decide +kernel
theorem d_SE_init_35 : decode b_SE_init 35 = .ok (.return_, 1) := by decide +kernel
theorem d_PI_init_0 : decode b_PI_init 0 = .ok (.aload_n 0, 1) := by decide +kernel
theorem d_PI_init_1 : decode b_PI_init 1 = .ok (.invokespecial 3, 3) := by decide +kernel
theorem d_PI_init_4 : decode b_PI_init 4 = .ok (.aload_n 0, 1) := by decide +kernel
theorem d_PI_init_5 : decode b_PI_init 5 = .ok (.aload_n 1, 1) := by decide +kernel
theorem d_PI_init_6 : decode b_PI_init 6 = .ok (.putfield 9, 3) := by decide +kernel
theorem d_PI_init_9 : decode b_PI_init 9 = .ok (.aload_n 0, 1) := by decide +kernel
theorem d_PI_init_10 : decode b_PI_init 10 = .ok (.aload_n 2, 1) := by decide +kernel
theorem d_PI_init_11 : decode b_PI_init 11 = .ok (.putfield 15, 3) := by decide +kernel
theorem d_PI_init_14 : decode b_PI_init 14 = .ok (.aload_n 0, 1) := by decide +kernel
theorem d_PI_init_15 : decode b_PI_init 15 = .ok (.bipush 8, 2) := by decide +kernel
theorem d_PI_init_17 : decode b_PI_init 17 = .ok (.newarray .int, 2) := by decide +kernel
theorem d_PI_init_19 : decode b_PI_init 19 = .ok (.putfield 19, 3) := by decide +kernel
theorem d_PI_init_22 : decode b_PI_init 22 = .ok (.aload_n 0, 1) := by decide +kernel
theorem d_PI_init_23 : decode b_PI_init 23 = .ok (.bipush 8, 2) := by decide +kernel
theorem d_PI_init_25 : decode b_PI_init 25 = .ok (.newarray .int, 2) := by decide +kernel
theorem d_PI_init_27 : decode b_PI_init 27 = .ok (.putfield 23, 3) := by decide +kernel
theorem d_PI_init_30 : decode b_PI_init 30 = .ok (.aload_n 0, 1) := by decide +kernel
theorem d_PI_init_31 : decode b_PI_init 31 = .ok (.bipush 8, 2) := by decide +kernel
theorem d_PI_init_33 : decode b_PI_init 33 = .ok (.iconst 4, 1) := by decide +kernel
theorem d_PI_init_34 : decode b_PI_init 34 = .ok (.multianewarray 26 2, 4) := by decide +kernel
theorem d_PI_init_38 : decode b_PI_init 38 = .ok (.putfield 28, 3) := by decide +kernel
theorem d_PI_init_41 : decode b_PI_init 41 = .ok (.aload_n 0, 1) := by decide +kernel
theorem d_PI_init_42 : decode b_PI_init 42 = .ok (.bipush 9, 2) := by decide +kernel
theorem d_PI_init_44 : decode b_PI_init 44 = .ok (.bipush 81, 2) := by decide +kernel
theorem d_PI_init_46 : decode b_PI_init 46 = .ok (.multianewarray 26 2, 4) := by decide +kernel
theorem d_PI_init_50 : decode b_PI_init 50 = .ok (.putfield 31, 3) := by decide +kernel
theorem d_PI_init_53 : decode b_PI_init 53 = .ok (.aload_n 0, 1) := by decide +kernel
theorem d_PI_init_54 : decode b_PI_init 54 = .ok (.iconst 0, 1) := by decide +kernel
theorem d_PI_init_55 : decode b_PI_init 55 = .ok (.putfield 34, 3) := by decide +kernel
theorem d_PI_init_58 : decode b_PI_init 58 = .ok (.return_, 1) := by decide +kernel
set_option maxHeartbeats 4000000 in
set_option maxRecDepth 100000 in
/-- new Order() -/
theorem c_OR_init (l : Launch) (D : va_G) (sz : Nat) (a0 : Nat) (cA : ClassId)  : Met l y_OR_init (wsA y_OR_init b_OR_init 1 none) ({ frames := 1, cells := 2, slots := 32, locals := 24 } : Room) (zPF zF0 D [(cA, .int)] [(a0, .inr (4, [.null, .null, .int (nI 0)]))] [.ref a0] sz) (zQ none (zB D [(cA, .int)] (va_A [(a0, .inr (4, [.null, .null, .int (nI 0)]))] sz) [(a0, .inr (4, [.ref sz, .ref (sz + 1), .int (nI 0)])), (sz, .inl (cA, 16, .inl (fun zk => nI ((fun _ => 0) zk)))), (sz + 1, .inl (cA, 16, .inl (fun zk => nI ((fun _ => 0) zk))))]) (va_A [(a0, .inr (4, [.null, .null, .int (nI 0)]))] sz)) 2 32 (va_A [(a0, .inr (4, [.null, .null, .int (nI 0)]))] sz) := by
  refine Met.ofW (cc := b_OR_init) (maxL := 1) (ret := none) (by decide) rfl ?_
  intro p e s m args below meth c s₁ Bd hml hv
  obtain ⟨rfl, hsz, hP, hK, hD0, hF⟩ := hv
  have hx := Bd.exec
  have hb := Bd.bytes
  have hr := Bd.returns
  have hts : ∀ w ∈ lw_g, w.before _ s = true := fun w h => atoms_spec (ws := wsA y_OR_init b_OR_init 1 none) Bd.pre w (List.mem_cons_of_mem _ h)
  have hown : s.vm.findClass R_OR = some m.cls := findClass_of_methodNamed Bd.named
  have hlocks := Bd.notSynchronized
  have hin : meth.name = "<init>" := (name_of_methodNamed Bd.named Bd.method).1
  obtain ⟨hD, hA, hS⟩ := z_start hsz hD0
  generalize va_A [(a0, .inr (4, [.null, .null, .int (nI 0)]))] sz = A at hD hA hS hF ⊢
  have hl := lv_entry ([.ref a0]) (n := 1) (Nat.le_of_ble_eq_true rfl)
  rw [lg_entry_eq]
  generalize (lg_sl ([.ref a0]) ++ List.replicate (1 - (lg_sl ([.ref a0])).length) Slot.unset).toArray = ls at hl ⊢
  have hl : lv_has ls 1 [(0, .ref a0)] := hl
  have hP : va_P D classes [(a0, .inr (4, [.null, .null, .int (nI 0)]))] s.heap := hP
  refine lv_aload_n hx hb d_OR_init_0 rfl (lv_at hl 0 rfl) ?_
  refine W.objInit hx hb hown (hts _ km_OR_3) (hts _ ki_obj) (hts _ kd_obj) rfl (by rw [hml]; exact hl.1) rfl d_OR_init_1 (Nat.le_of_ble_eq_true rfl) (Nat.le_of_ble_eq_true rfl) ?_
  refine lv_aload_n hx hb d_OR_init_4 rfl (lv_at hl 0 rfl) ?_
  refine lv_bipush (v := nI 16) hx hb d_OR_init_5 (by decide) ?_
  refine zsz (fun hub => ?_)
  have hz : s.heap.size = sz := by have hlo := hS.1; omega
  refine z_newa (ty := .int) (cA := cA) (N' := 16) (a0 := (16, .inl (fun zk => nI ((fun _ => 0) zk)))) hx hb rfl (hts _ ka_60) (hK.2 0 _ rfl).2 hP hD hS hA (vp_zn 16) (nI_n0 (by decide)) (nI_clamp (by decide)) (by decide) (by show 0 + 1 ≤ 2; omega) (by show 0 + 16 ≤ 32; omega) hz d_OR_init_7 (fun H hP hD hS => ?_)
  have hP : va_P D classes [(a0, .inr (4, [.null, .null, .int (nI 0)])), (sz, .inl (cA, 16, .inl (fun zk => nI ((fun _ => 0) zk))))] H := hP
  have hD : va_D A [(a0, .inr (4, [.null, .null, .int (nI 0)])), (sz, .inl (cA, 16, .inl (fun zk => nI ((fun _ => 0) zk))))] := hD
  refine va_putF (D := D) (ci := 4) (v := .ref sz) (ty := (.array .int)) (C := R_OR) (T := F_OR) (N := 3) hx hb hts i_OR t_OR to_OR n_OR hown hK hP hD hS 0 rfl rfl 0 (by decide) (hts _ kf_OR_9) (fun _ h9 => h9) rfl hin rfl (by decide +kernel) rfl rfl (Nat.le_of_ble_eq_true rfl) d_OR_init_9 (fun H locs hP hD hS => ?_)
  have hP : va_P D classes [(a0, .inr (4, [.ref sz, .null, .int (nI 0)])), (sz, .inl (cA, 16, .inl (fun zk => nI ((fun _ => 0) zk))))] H := hP
  have hD : va_D A [(a0, .inr (4, [.ref sz, .null, .int (nI 0)])), (sz, .inl (cA, 16, .inl (fun zk => nI ((fun _ => 0) zk))))] := hD
  refine lv_aload_n hx hb d_OR_init_12 rfl (lv_at hl 0 rfl) ?_
  refine lv_bipush (v := nI 16) hx hb d_OR_init_13 (by decide) ?_
  refine zsz (fun hub => ?_)
  have hz : H.size = sz + 1 := by have hlo : sz < H.size := (hP 1 _ rfl).lt; omega
  refine z_newa (ty := .int) (cA := cA) (N' := 16) (a0 := (16, .inl (fun zk => nI ((fun _ => 0) zk)))) hx hb rfl (hts _ ka_60) (hK.2 0 _ rfl).2 hP hD hS hA (vp_zn 16) (nI_n0 (by decide)) (nI_clamp (by decide)) (by decide) (by show 0 + 1 + 1 ≤ 2; omega) (by show 0 + 16 + 16 ≤ 32; omega) hz d_OR_init_15 (fun H hP hD hS => ?_)
  have hP : va_P D classes [(a0, .inr (4, [.ref sz, .null, .int (nI 0)])), (sz, .inl (cA, 16, .inl (fun zk => nI ((fun _ => 0) zk)))), (sz + 1, .inl (cA, 16, .inl (fun zk => nI ((fun _ => 0) zk))))] H := hP
  have hD : va_D A [(a0, .inr (4, [.ref sz, .null, .int (nI 0)])), (sz, .inl (cA, 16, .inl (fun zk => nI ((fun _ => 0) zk)))), (sz + 1, .inl (cA, 16, .inl (fun zk => nI ((fun _ => 0) zk))))] := hD
  refine va_putF (D := D) (ci := 4) (v := .ref (sz + 1)) (ty := (.array .int)) (C := R_OR) (T := F_OR) (N := 3) hx hb hts i_OR t_OR to_OR n_OR hown hK hP hD hS 0 rfl rfl 1 (by decide) (hts _ kf_OR_15) (fun _ h9 => h9) rfl hin rfl (by decide +kernel) rfl rfl (Nat.le_of_ble_eq_true rfl) d_OR_init_17 (fun H locs hP hD hS => ?_)
  have hP : va_P D classes [(a0, .inr (4, [.ref sz, .ref (sz + 1), .int (nI 0)])), (sz, .inl (cA, 16, .inl (fun zk => nI ((fun _ => 0) zk)))), (sz + 1, .inl (cA, 16, .inl (fun zk => nI ((fun _ => 0) zk))))] H := hP
  have hD : va_D A [(a0, .inr (4, [.ref sz, .ref (sz + 1), .int (nI 0)])), (sz, .inl (cA, 16, .inl (fun zk => nI ((fun _ => 0) zk)))), (sz + 1, .inl (cA, 16, .inl (fun zk => nI ((fun _ => 0) zk))))] := hD
  refine lv_aload_n hx hb d_OR_init_20 rfl (lv_at hl 0 rfl) ?_
  refine lv_iconst (v := nI 0) hx hb d_OR_init_21 (by decide) ?_
  refine va_put (D := D) (ci := 4) (v := .int (nI 0)) (ty := .int) (C := R_OR) (T := F_OR) (N := 3) hx hb hts i_OR t_OR to_OR n_OR hown hK hP hD hS 0 rfl rfl 2 (by decide) (hts _ kf_OR_18) (fun _ h9 => h9) rfl (by decide +kernel) rfl rfl (Nat.le_of_ble_eq_true rfl) d_OR_init_22 (fun H locs hP hD hS => ?_)
  have hP : va_P D classes [(a0, .inr (4, [.ref sz, .ref (sz + 1), .int (nI 0)])), (sz, .inl (cA, 16, .inl (fun zk => nI ((fun _ => 0) zk)))), (sz + 1, .inl (cA, 16, .inl (fun zk => nI ((fun _ => 0) zk))))] H := hP
  have hD : va_D A [(a0, .inr (4, [.ref sz, .ref (sz + 1), .int (nI 0)])), (sz, .inl (cA, 16, .inl (fun zk => nI ((fun _ => 0) zk)))), (sz + 1, .inl (cA, 16, .inl (fun zk => nI ((fun _ => 0) zk))))] := hD
  refine W.widen (k := 2) (n := 32) (by omega) (by omega) ?_
  exact W.vret hx hb hr (fun t ht hW => ⟨rfl, ⟨by rw [ht]; exact hP, va_K.moved hW.alike hK, hD⟩, hS.F ht⟩) hS.2.2 d_OR_init_25
set_option maxHeartbeats 4000000 in
set_option maxRecDepth 100000 in
/-- new Nets() -/
theorem c_NE_init (l : Launch) (D : va_G) (sz : Nat) (a0 : Nat) (cA : ClassId)  : Met l y_NE_init (wsA y_NE_init b_NE_init 1 none) ({ frames := 1, cells := 3, slots := 96, locals := 24 } : Room) (zPF zF0 D [(cA, .int)] [(a0, .inr (3, [.null, .null, .null, .int (nI 0)]))] [.ref a0] sz) (zQ none (zB D [(cA, .int)] (va_A [(a0, .inr (3, [.null, .null, .null, .int (nI 0)]))] sz) [(a0, .inr (3, [.ref sz, .ref (sz + 1), .ref (sz + 2), .int (nI 0)])), (sz, .inl (cA, 40, .inl (fun zk => nI ((fun _ => 0) zk)))), (sz + 1, .inl (cA, 40, .inl (fun zk => nI ((fun _ => 0) zk)))), (sz + 2, .inl (cA, 16, .inl (fun zk => nI ((fun _ => 0) zk))))]) (va_A [(a0, .inr (3, [.null, .null, .null, .int (nI 0)]))] sz)) 3 96 (va_A [(a0, .inr (3, [.null, .null, .null, .int (nI 0)]))] sz) := by
  refine Met.ofW (cc := b_NE_init) (maxL := 1) (ret := none) (by decide) rfl ?_
  intro p e s m args below meth c s₁ Bd hml hv
  obtain ⟨rfl, hsz, hP, hK, hD0, hF⟩ := hv
  have hx := Bd.exec
  have hb := Bd.bytes
  have hr := Bd.returns
  have hts : ∀ w ∈ lw_g, w.before _ s = true := fun w h => atoms_spec (ws := wsA y_NE_init b_NE_init 1 none) Bd.pre w (List.mem_cons_of_mem _ h)
  have hown : s.vm.findClass R_NE = some m.cls := findClass_of_methodNamed Bd.named
  have hlocks := Bd.notSynchronized
  have hin : meth.name = "<init>" := (name_of_methodNamed Bd.named Bd.method).1
  obtain ⟨hD, hA, hS⟩ := z_start hsz hD0
  generalize va_A [(a0, .inr (3, [.null, .null, .null, .int (nI 0)]))] sz = A at hD hA hS hF ⊢
  have hl := lv_entry ([.ref a0]) (n := 1) (Nat.le_of_ble_eq_true rfl)
  rw [lg_entry_eq]
  generalize (lg_sl ([.ref a0]) ++ List.replicate (1 - (lg_sl ([.ref a0])).length) Slot.unset).toArray = ls at hl ⊢
  have hl : lv_has ls 1 [(0, .ref a0)] := hl
  have hP : va_P D classes [(a0, .inr (3, [.null, .null, .null, .int (nI 0)]))] s.heap := hP
  refine lv_aload_n hx hb d_NE_init_0 rfl (lv_at hl 0 rfl) ?_
  refine W.objInit hx hb hown (hts _ km_NE_3) (hts _ ki_obj) (hts _ kd_obj) rfl (by rw [hml]; exact hl.1) rfl d_NE_init_1 (Nat.le_of_ble_eq_true rfl) (Nat.le_of_ble_eq_true rfl) ?_
  refine lv_aload_n hx hb d_NE_init_4 rfl (lv_at hl 0 rfl) ?_
  refine lv_bipush (v := nI 40) hx hb d_NE_init_5 (by decide) ?_
  refine zsz (fun hub => ?_)
  have hz : s.heap.size = sz := by have hlo := hS.1; omega
  refine z_newa (ty := .int) (cA := cA) (N' := 40) (a0 := (40, .inl (fun zk => nI ((fun _ => 0) zk)))) hx hb rfl (hts _ ka_60) (hK.2 0 _ rfl).2 hP hD hS hA (vp_zn 40) (nI_n0 (by decide)) (nI_clamp (by decide)) (by decide) (by show 0 + 1 ≤ 3; omega) (by show 0 + 40 ≤ 96; omega) hz d_NE_init_7 (fun H hP hD hS => ?_)
  have hP : va_P D classes [(a0, .inr (3, [.null, .null, .null, .int (nI 0)])), (sz, .inl (cA, 40, .inl (fun zk => nI ((fun _ => 0) zk))))] H := hP
  have hD : va_D A [(a0, .inr (3, [.null, .null, .null, .int (nI 0)])), (sz, .inl (cA, 40, .inl (fun zk => nI ((fun _ => 0) zk))))] := hD
  refine va_putF (D := D) (ci := 3) (v := .ref sz) (ty := (.array .int)) (C := R_NE) (T := F_NE) (N := 4) hx hb hts i_NE t_NE to_NE n_NE hown hK hP hD hS 0 rfl rfl 0 (by decide) (hts _ kf_NE_9) (fun _ h9 => h9) rfl hin rfl (by decide +kernel) rfl rfl (Nat.le_of_ble_eq_true rfl) d_NE_init_9 (fun H locs hP hD hS => ?_)
  have hP : va_P D classes [(a0, .inr (3, [.ref sz, .null, .null, .int (nI 0)])), (sz, .inl (cA, 40, .inl (fun zk => nI ((fun _ => 0) zk))))] H := hP
  have hD : va_D A [(a0, .inr (3, [.ref sz, .null, .null, .int (nI 0)])), (sz, .inl (cA, 40, .inl (fun zk => nI ((fun _ => 0) zk))))] := hD
  refine lv_aload_n hx hb d_NE_init_12 rfl (lv_at hl 0 rfl) ?_
  refine lv_bipush (v := nI 40) hx hb d_NE_init_13 (by decide) ?_
  refine zsz (fun hub => ?_)
  have hz : H.size = sz + 1 := by have hlo : sz < H.size := (hP 1 _ rfl).lt; omega
  refine z_newa (ty := .int) (cA := cA) (N' := 40) (a0 := (40, .inl (fun zk => nI ((fun _ => 0) zk)))) hx hb rfl (hts _ ka_60) (hK.2 0 _ rfl).2 hP hD hS hA (vp_zn 40) (nI_n0 (by decide)) (nI_clamp (by decide)) (by decide) (by show 0 + 1 + 1 ≤ 3; omega) (by show 0 + 40 + 40 ≤ 96; omega) hz d_NE_init_15 (fun H hP hD hS => ?_)
  have hP : va_P D classes [(a0, .inr (3, [.ref sz, .null, .null, .int (nI 0)])), (sz, .inl (cA, 40, .inl (fun zk => nI ((fun _ => 0) zk)))), (sz + 1, .inl (cA, 40, .inl (fun zk => nI ((fun _ => 0) zk))))] H := hP
  have hD : va_D A [(a0, .inr (3, [.ref sz, .null, .null, .int (nI 0)])), (sz, .inl (cA, 40, .inl (fun zk => nI ((fun _ => 0) zk)))), (sz + 1, .inl (cA, 40, .inl (fun zk => nI ((fun _ => 0) zk))))] := hD
  refine va_putF (D := D) (ci := 3) (v := .ref (sz + 1)) (ty := (.array .int)) (C := R_NE) (T := F_NE) (N := 4) hx hb hts i_NE t_NE to_NE n_NE hown hK hP hD hS 0 rfl rfl 1 (by decide) (hts _ kf_NE_15) (fun _ h9 => h9) rfl hin rfl (by decide +kernel) rfl rfl (Nat.le_of_ble_eq_true rfl) d_NE_init_17 (fun H locs hP hD hS => ?_)
  have hP : va_P D classes [(a0, .inr (3, [.ref sz, .ref (sz + 1), .null, .int (nI 0)])), (sz, .inl (cA, 40, .inl (fun zk => nI ((fun _ => 0) zk)))), (sz + 1, .inl (cA, 40, .inl (fun zk => nI ((fun _ => 0) zk))))] H := hP
  have hD : va_D A [(a0, .inr (3, [.ref sz, .ref (sz + 1), .null, .int (nI 0)])), (sz, .inl (cA, 40, .inl (fun zk => nI ((fun _ => 0) zk)))), (sz + 1, .inl (cA, 40, .inl (fun zk => nI ((fun _ => 0) zk))))] := hD
  refine lv_aload_n hx hb d_NE_init_20 rfl (lv_at hl 0 rfl) ?_
  refine lv_bipush (v := nI 16) hx hb d_NE_init_21 (by decide) ?_
  refine zsz (fun hub => ?_)
  have hz : H.size = sz + 2 := by have hlo : sz + 1 < H.size := (hP 2 _ rfl).lt; omega
  refine z_newa (ty := .int) (cA := cA) (N' := 16) (a0 := (16, .inl (fun zk => nI ((fun _ => 0) zk)))) hx hb rfl (hts _ ka_60) (hK.2 0 _ rfl).2 hP hD hS hA (vp_zn 16) (nI_n0 (by decide)) (nI_clamp (by decide)) (by decide) (by show 0 + 1 + 1 + 1 ≤ 3; omega) (by show 0 + 40 + 40 + 16 ≤ 96; omega) hz d_NE_init_23 (fun H hP hD hS => ?_)
  have hP : va_P D classes [(a0, .inr (3, [.ref sz, .ref (sz + 1), .null, .int (nI 0)])), (sz, .inl (cA, 40, .inl (fun zk => nI ((fun _ => 0) zk)))), (sz + 1, .inl (cA, 40, .inl (fun zk => nI ((fun _ => 0) zk)))), (sz + 2, .inl (cA, 16, .inl (fun zk => nI ((fun _ => 0) zk))))] H := hP
  have hD : va_D A [(a0, .inr (3, [.ref sz, .ref (sz + 1), .null, .int (nI 0)])), (sz, .inl (cA, 40, .inl (fun zk => nI ((fun _ => 0) zk)))), (sz + 1, .inl (cA, 40, .inl (fun zk => nI ((fun _ => 0) zk)))), (sz + 2, .inl (cA, 16, .inl (fun zk => nI ((fun _ => 0) zk))))] := hD
  refine va_putF (D := D) (ci := 3) (v := .ref (sz + 2)) (ty := (.array .int)) (C := R_NE) (T := F_NE) (N := 4) hx hb hts i_NE t_NE to_NE n_NE hown hK hP hD hS 0 rfl rfl 2 (by decide) (hts _ kf_NE_18) (fun _ h9 => h9) rfl hin rfl (by decide +kernel) rfl rfl (Nat.le_of_ble_eq_true rfl) d_NE_init_25 (fun H locs hP hD hS => ?_)
  have hP : va_P D classes [(a0, .inr (3, [.ref sz, .ref (sz + 1), .ref (sz + 2), .int (nI 0)])), (sz, .inl (cA, 40, .inl (fun zk => nI ((fun _ => 0) zk)))), (sz + 1, .inl (cA, 40, .inl (fun zk => nI ((fun _ => 0) zk)))), (sz + 2, .inl (cA, 16, .inl (fun zk => nI ((fun _ => 0) zk))))] H := hP
  have hD : va_D A [(a0, .inr (3, [.ref sz, .ref (sz + 1), .ref (sz + 2), .int (nI 0)])), (sz, .inl (cA, 40, .inl (fun zk => nI ((fun _ => 0) zk)))), (sz + 1, .inl (cA, 40, .inl (fun zk => nI ((fun _ => 0) zk)))), (sz + 2, .inl (cA, 16, .inl (fun zk => nI ((fun _ => 0) zk))))] := hD
  refine lv_aload_n hx hb d_NE_init_28 rfl (lv_at hl 0 rfl) ?_
  refine lv_iconst (v := nI 0) hx hb d_NE_init_29 (by decide) ?_
  refine va_put (D := D) (ci := 3) (v := .int (nI 0)) (ty := .int) (C := R_NE) (T := F_NE) (N := 4) hx hb hts i_NE t_NE to_NE n_NE hown hK hP hD hS 0 rfl rfl 3 (by decide) (hts _ kf_NE_21) (fun _ h9 => h9) rfl (by decide +kernel) rfl rfl (Nat.le_of_ble_eq_true rfl) d_NE_init_30 (fun H locs hP hD hS => ?_)
  have hP : va_P D classes [(a0, .inr (3, [.ref sz, .ref (sz + 1), .ref (sz + 2), .int (nI 0)])), (sz, .inl (cA, 40, .inl (fun zk => nI ((fun _ => 0) zk)))), (sz + 1, .inl (cA, 40, .inl (fun zk => nI ((fun _ => 0) zk)))), (sz + 2, .inl (cA, 16, .inl (fun zk => nI ((fun _ => 0) zk))))] H := hP
  have hD : va_D A [(a0, .inr (3, [.ref sz, .ref (sz + 1), .ref (sz + 2), .int (nI 0)])), (sz, .inl (cA, 40, .inl (fun zk => nI ((fun _ => 0) zk)))), (sz + 1, .inl (cA, 40, .inl (fun zk => nI ((fun _ => 0) zk)))), (sz + 2, .inl (cA, 16, .inl (fun zk => nI ((fun _ => 0) zk))))] := hD
  refine W.widen (k := 3) (n := 96) (by omega) (by omega) ?_
  exact W.vret hx hb hr (fun t ht hW => ⟨rfl, ⟨by rw [ht]; exact hP, va_K.moved hW.alike hK, hD⟩, hS.F ht⟩) hS.2.2 d_NE_init_33
set_option maxHeartbeats 4000000 in
set_option maxRecDepth 100000 in
/-- new Blocks() -/
theorem c_BL_init (l : Launch) (D : va_G) (sz : Nat) (a0 : Nat) (cA cZ c2 : ClassId)  : Met l y_BL_init (wsA y_BL_init b_BL_init 1 none) ({ frames := 1, cells := 8, slots := 100, locals := 24 } : Room) (zPF zT3 D [(cA, .int), (cZ, .boolean), (c2, .array .int)] [(a0, .inr (1, [.null, .null, .null, .null, .int (nI 0)]))] [.ref a0] sz) (zQ none (zB D [(cA, .int), (cZ, .boolean), (c2, .array .int)] (va_A [(a0, .inr (1, [.null, .null, .null, .null, .int (nI 0)]))] sz) [(a0, .inr (1, [.ref sz, .ref (sz + 3), .ref (sz + 6), .ref (sz + 7), .int (nI 0)])), (sz, .inl (c2, 2, .inr (.inr (.inr (.inr (pr2 (sz + 1) (sz + 2))))))), (sz + 1, .inl (cA, 16, .inl (fun zk => nI ((fun _ => 0) zk)))), (sz + 2, .inl (cA, 16, .inl (fun zk => nI ((fun _ => 0) zk)))), (sz + 3, .inl (c2, 2, .inr (.inr (.inr (.inr (pr2 (sz + 4) (sz + 5))))))), (sz + 4, .inl (cA, 16, .inl (fun zk => nI ((fun _ => 0) zk)))), (sz + 5, .inl (cA, 16, .inl (fun zk => nI ((fun _ => 0) zk)))), (sz + 6, .inl (cZ, 16, .inl (fun zk => zb ((fun _ => false) zk)))), (sz + 7, .inl (cZ, 16, .inl (fun zk => zb ((fun _ => false) zk))))]) (va_A [(a0, .inr (1, [.null, .null, .null, .null, .int (nI 0)]))] sz)) 8 100 (va_A [(a0, .inr (1, [.null, .null, .null, .null, .int (nI 0)]))] sz) := by
  refine Met.ofW (cc := b_BL_init) (maxL := 1) (ret := none) (by decide) rfl ?_
  intro p e s m args below meth c s₁ Bd hml hv
  obtain ⟨rfl, hsz, hP, hK, hD0, hF⟩ := hv
  have hx := Bd.exec
  have hb := Bd.bytes
  have hr := Bd.returns
  have hts : ∀ w ∈ lw_g, w.before _ s = true := fun w h => atoms_spec (ws := wsA y_BL_init b_BL_init 1 none) Bd.pre w (List.mem_cons_of_mem _ h)
  have hown : s.vm.findClass R_BL = some m.cls := findClass_of_methodNamed Bd.named
  have hlocks := Bd.notSynchronized
  have hin : meth.name = "<init>" := (name_of_methodNamed Bd.named Bd.method).1
  obtain ⟨hD, hA, hS⟩ := z_start hsz hD0
  generalize va_A [(a0, .inr (1, [.null, .null, .null, .null, .int (nI 0)]))] sz = A at hD hA hS hF ⊢
  have hl := lv_entry ([.ref a0]) (n := 1) (Nat.le_of_ble_eq_true rfl)
  rw [lg_entry_eq]
  generalize (lg_sl ([.ref a0]) ++ List.replicate (1 - (lg_sl ([.ref a0])).length) Slot.unset).toArray = ls at hl ⊢
  have hl : lv_has ls 1 [(0, .ref a0)] := hl
  have hP : va_P D classes [(a0, .inr (1, [.null, .null, .null, .null, .int (nI 0)]))] s.heap := hP
  refine lv_aload_n hx hb d_BL_init_0 rfl (lv_at hl 0 rfl) ?_
  refine W.objInit hx hb hown (hts _ km_BL_3) (hts _ ki_obj) (hts _ kd_obj) rfl (by rw [hml]; exact hl.1) rfl d_BL_init_1 (Nat.le_of_ble_eq_true rfl) (Nat.le_of_ble_eq_true rfl) ?_
  refine lv_aload_n hx hb d_BL_init_4 rfl (lv_at hl 0 rfl) ?_
  refine lv_iconst (v := nI 2) hx hb d_BL_init_5 (by decide) ?_
  refine lv_bipush (v := nI 16) hx hb d_BL_init_6 (by decide) ?_
  refine zsz (fun hub => ?_)
  have hz : s.heap.size = sz := by have hlo := hS.1; omega
  refine z_multi (own := R_BL) (cA := cA) (c2 := c2) (n := 2) (k := 16) (g := (pr2 (sz + 1) (sz + 2))) hx hb hown (hts _ kc_BL_9) hF.2 (hts _ ka_60) (hK.2 0 _ rfl).2 (hK.2 2 _ rfl).2 hP hD hS hA (fun j hj => by rcases (show j = 0 ∨ j = 1 by omega) with rfl | rfl <;> rfl) (by decide) (by decide) (by show 0 + (1 + 2) ≤ 8; omega) (by show 0 + (2 + 2 * 16) ≤ 100; omega) hz d_BL_init_8 (fun H hP hD hS => ?_)
  have hP : va_P D classes [(a0, .inr (1, [.null, .null, .null, .null, .int (nI 0)])), (sz, .inl (c2, 2, .inr (.inr (.inr (.inr (pr2 (sz + 1) (sz + 2))))))), (sz + 1, .inl (cA, 16, .inl (fun zk => nI ((fun _ => 0) zk)))), (sz + 2, .inl (cA, 16, .inl (fun zk => nI ((fun _ => 0) zk))))] H := hP
  have hD : va_D A [(a0, .inr (1, [.null, .null, .null, .null, .int (nI 0)])), (sz, .inl (c2, 2, .inr (.inr (.inr (.inr (pr2 (sz + 1) (sz + 2))))))), (sz + 1, .inl (cA, 16, .inl (fun zk => nI ((fun _ => 0) zk)))), (sz + 2, .inl (cA, 16, .inl (fun zk => nI ((fun _ => 0) zk))))] := hD
  refine va_putF (D := D) (ci := 1) (v := .ref sz) (ty := (.array (.array .int))) (C := R_BL) (T := F_BL) (N := 5) hx hb hts i_BL t_BL to_BL n_BL hown hK hP hD hS 0 rfl rfl 0 (by decide) (hts _ kf_BL_11) (fun _ h9 => h9) rfl hin rfl (by decide +kernel) rfl rfl (Nat.le_of_ble_eq_true rfl) d_BL_init_12 (fun H locs hP hD hS => ?_)
  have hP : va_P D classes [(a0, .inr (1, [.ref sz, .null, .null, .null, .int (nI 0)])), (sz, .inl (c2, 2, .inr (.inr (.inr (.inr (pr2 (sz + 1) (sz + 2))))))), (sz + 1, .inl (cA, 16, .inl (fun zk => nI ((fun _ => 0) zk)))), (sz + 2, .inl (cA, 16, .inl (fun zk => nI ((fun _ => 0) zk))))] H := hP
  have hD : va_D A [(a0, .inr (1, [.ref sz, .null, .null, .null, .int (nI 0)])), (sz, .inl (c2, 2, .inr (.inr (.inr (.inr (pr2 (sz + 1) (sz + 2))))))), (sz + 1, .inl (cA, 16, .inl (fun zk => nI ((fun _ => 0) zk)))), (sz + 2, .inl (cA, 16, .inl (fun zk => nI ((fun _ => 0) zk))))] := hD
  refine lv_aload_n hx hb d_BL_init_15 rfl (lv_at hl 0 rfl) ?_
  refine lv_iconst (v := nI 2) hx hb d_BL_init_16 (by decide) ?_
  refine lv_bipush (v := nI 16) hx hb d_BL_init_17 (by decide) ?_
  refine zsz (fun hub => ?_)
  have hz : H.size = sz + 3 := by have hlo : sz + 2 < H.size := (hP 3 _ rfl).lt; omega
  refine z_multi (own := R_BL) (cA := cA) (c2 := c2) (n := 2) (k := 16) (g := (pr2 (sz + 4) (sz + 5))) hx hb hown (hts _ kc_BL_9) hF.2 (hts _ ka_60) (hK.2 0 _ rfl).2 (hK.2 2 _ rfl).2 hP hD hS hA (fun j hj => by rcases (show j = 0 ∨ j = 1 by omega) with rfl | rfl <;> rfl) (by decide) (by decide) (by show 0 + 1 + 2 + (1 + 2) ≤ 8; omega) (by show 0 + 2 + 2 * 16 + (2 + 2 * 16) ≤ 100; omega) hz d_BL_init_19 (fun H hP hD hS => ?_)
  have hP : va_P D classes [(a0, .inr (1, [.ref sz, .null, .null, .null, .int (nI 0)])), (sz, .inl (c2, 2, .inr (.inr (.inr (.inr (pr2 (sz + 1) (sz + 2))))))), (sz + 1, .inl (cA, 16, .inl (fun zk => nI ((fun _ => 0) zk)))), (sz + 2, .inl (cA, 16, .inl (fun zk => nI ((fun _ => 0) zk)))), (sz + 3, .inl (c2, 2, .inr (.inr (.inr (.inr (pr2 (sz + 4) (sz + 5))))))), (sz + 4, .inl (cA, 16, .inl (fun zk => nI ((fun _ => 0) zk)))), (sz + 5, .inl (cA, 16, .inl (fun zk => nI ((fun _ => 0) zk))))] H := hP
  have hD : va_D A [(a0, .inr (1, [.ref sz, .null, .null, .null, .int (nI 0)])), (sz, .inl (c2, 2, .inr (.inr (.inr (.inr (pr2 (sz + 1) (sz + 2))))))), (sz + 1, .inl (cA, 16, .inl (fun zk => nI ((fun _ => 0) zk)))), (sz + 2, .inl (cA, 16, .inl (fun zk => nI ((fun _ => 0) zk)))), (sz + 3, .inl (c2, 2, .inr (.inr (.inr (.inr (pr2 (sz + 4) (sz + 5))))))), (sz + 4, .inl (cA, 16, .inl (fun zk => nI ((fun _ => 0) zk)))), (sz + 5, .inl (cA, 16, .inl (fun zk => nI ((fun _ => 0) zk))))] := hD
  refine va_putF (D := D) (ci := 1) (v := .ref (sz + 3)) (ty := (.array (.array .int))) (C := R_BL) (T := F_BL) (N := 5) hx hb hts i_BL t_BL to_BL n_BL hown hK hP hD hS 0 rfl rfl 1 (by decide) (hts _ kf_BL_16) (fun _ h9 => h9) rfl hin rfl (by decide +kernel) rfl rfl (Nat.le_of_ble_eq_true rfl) d_BL_init_23 (fun H locs hP hD hS => ?_)
  have hP : va_P D classes [(a0, .inr (1, [.ref sz, .ref (sz + 3), .null, .null, .int (nI 0)])), (sz, .inl (c2, 2, .inr (.inr (.inr (.inr (pr2 (sz + 1) (sz + 2))))))), (sz + 1, .inl (cA, 16, .inl (fun zk => nI ((fun _ => 0) zk)))), (sz + 2, .inl (cA, 16, .inl (fun zk => nI ((fun _ => 0) zk)))), (sz + 3, .inl (c2, 2, .inr (.inr (.inr (.inr (pr2 (sz + 4) (sz + 5))))))), (sz + 4, .inl (cA, 16, .inl (fun zk => nI ((fun _ => 0) zk)))), (sz + 5, .inl (cA, 16, .inl (fun zk => nI ((fun _ => 0) zk))))] H := hP
  have hD : va_D A [(a0, .inr (1, [.ref sz, .ref (sz + 3), .null, .null, .int (nI 0)])), (sz, .inl (c2, 2, .inr (.inr (.inr (.inr (pr2 (sz + 1) (sz + 2))))))), (sz + 1, .inl (cA, 16, .inl (fun zk => nI ((fun _ => 0) zk)))), (sz + 2, .inl (cA, 16, .inl (fun zk => nI ((fun _ => 0) zk)))), (sz + 3, .inl (c2, 2, .inr (.inr (.inr (.inr (pr2 (sz + 4) (sz + 5))))))), (sz + 4, .inl (cA, 16, .inl (fun zk => nI ((fun _ => 0) zk)))), (sz + 5, .inl (cA, 16, .inl (fun zk => nI ((fun _ => 0) zk))))] := hD
  refine lv_aload_n hx hb d_BL_init_26 rfl (lv_at hl 0 rfl) ?_
  refine lv_bipush (v := nI 16) hx hb d_BL_init_27 (by decide) ?_
  refine zsz (fun hub => ?_)
  have hz : H.size = sz + 6 := by have hlo : sz + 5 < H.size := (hP 6 _ rfl).lt; omega
  refine z_newa (ty := .boolean) (cA := cZ) (N' := 16) (a0 := (16, .inl (fun zk => zb ((fun _ => false) zk)))) hx hb rfl (hts _ ka_61) (hK.2 1 _ rfl).2 hP hD hS hA (vp_zb 16) (nI_n0 (by decide)) (nI_clamp (by decide)) (by decide) (by show 0 + 1 + 2 + 1 + 2 + 1 ≤ 8; omega) (by show 0 + 2 + 2 * 16 + 2 + 2 * 16 + 16 ≤ 100; omega) hz d_BL_init_29 (fun H hP hD hS => ?_)
  have hP : va_P D classes [(a0, .inr (1, [.ref sz, .ref (sz + 3), .null, .null, .int (nI 0)])), (sz, .inl (c2, 2, .inr (.inr (.inr (.inr (pr2 (sz + 1) (sz + 2))))))), (sz + 1, .inl (cA, 16, .inl (fun zk => nI ((fun _ => 0) zk)))), (sz + 2, .inl (cA, 16, .inl (fun zk => nI ((fun _ => 0) zk)))), (sz + 3, .inl (c2, 2, .inr (.inr (.inr (.inr (pr2 (sz + 4) (sz + 5))))))), (sz + 4, .inl (cA, 16, .inl (fun zk => nI ((fun _ => 0) zk)))), (sz + 5, .inl (cA, 16, .inl (fun zk => nI ((fun _ => 0) zk)))), (sz + 6, .inl (cZ, 16, .inl (fun zk => zb ((fun _ => false) zk))))] H := hP
  have hD : va_D A [(a0, .inr (1, [.ref sz, .ref (sz + 3), .null, .null, .int (nI 0)])), (sz, .inl (c2, 2, .inr (.inr (.inr (.inr (pr2 (sz + 1) (sz + 2))))))), (sz + 1, .inl (cA, 16, .inl (fun zk => nI ((fun _ => 0) zk)))), (sz + 2, .inl (cA, 16, .inl (fun zk => nI ((fun _ => 0) zk)))), (sz + 3, .inl (c2, 2, .inr (.inr (.inr (.inr (pr2 (sz + 4) (sz + 5))))))), (sz + 4, .inl (cA, 16, .inl (fun zk => nI ((fun _ => 0) zk)))), (sz + 5, .inl (cA, 16, .inl (fun zk => nI ((fun _ => 0) zk)))), (sz + 6, .inl (cZ, 16, .inl (fun zk => zb ((fun _ => false) zk))))] := hD
  refine va_putF (D := D) (ci := 1) (v := .ref (sz + 6)) (ty := (.array .boolean)) (C := R_BL) (T := F_BL) (N := 5) hx hb hts i_BL t_BL to_BL n_BL hown hK hP hD hS 0 rfl rfl 2 (by decide) (hts _ kf_BL_19) (fun _ h9 => h9) rfl hin rfl (by decide +kernel) rfl rfl (Nat.le_of_ble_eq_true rfl) d_BL_init_31 (fun H locs hP hD hS => ?_)
  have hP : va_P D classes [(a0, .inr (1, [.ref sz, .ref (sz + 3), .ref (sz + 6), .null, .int (nI 0)])), (sz, .inl (c2, 2, .inr (.inr (.inr (.inr (pr2 (sz + 1) (sz + 2))))))), (sz + 1, .inl (cA, 16, .inl (fun zk => nI ((fun _ => 0) zk)))), (sz + 2, .inl (cA, 16, .inl (fun zk => nI ((fun _ => 0) zk)))), (sz + 3, .inl (c2, 2, .inr (.inr (.inr (.inr (pr2 (sz + 4) (sz + 5))))))), (sz + 4, .inl (cA, 16, .inl (fun zk => nI ((fun _ => 0) zk)))), (sz + 5, .inl (cA, 16, .inl (fun zk => nI ((fun _ => 0) zk)))), (sz + 6, .inl (cZ, 16, .inl (fun zk => zb ((fun _ => false) zk))))] H := hP
  have hD : va_D A [(a0, .inr (1, [.ref sz, .ref (sz + 3), .ref (sz + 6), .null, .int (nI 0)])), (sz, .inl (c2, 2, .inr (.inr (.inr (.inr (pr2 (sz + 1) (sz + 2))))))), (sz + 1, .inl (cA, 16, .inl (fun zk => nI ((fun _ => 0) zk)))), (sz + 2, .inl (cA, 16, .inl (fun zk => nI ((fun _ => 0) zk)))), (sz + 3, .inl (c2, 2, .inr (.inr (.inr (.inr (pr2 (sz + 4) (sz + 5))))))), (sz + 4, .inl (cA, 16, .inl (fun zk => nI ((fun _ => 0) zk)))), (sz + 5, .inl (cA, 16, .inl (fun zk => nI ((fun _ => 0) zk)))), (sz + 6, .inl (cZ, 16, .inl (fun zk => zb ((fun _ => false) zk))))] := hD
  refine lv_aload_n hx hb d_BL_init_34 rfl (lv_at hl 0 rfl) ?_
  refine lv_bipush (v := nI 16) hx hb d_BL_init_35 (by decide) ?_
  refine zsz (fun hub => ?_)
  have hz : H.size = sz + 7 := by have hlo : sz + 6 < H.size := (hP 7 _ rfl).lt; omega
  refine z_newa (ty := .boolean) (cA := cZ) (N' := 16) (a0 := (16, .inl (fun zk => zb ((fun _ => false) zk)))) hx hb rfl (hts _ ka_61) (hK.2 1 _ rfl).2 hP hD hS hA (vp_zb 16) (nI_n0 (by decide)) (nI_clamp (by decide)) (by decide) (by show 0 + 1 + 2 + 1 + 2 + 1 + 1 ≤ 8; omega) (by show 0 + 2 + 2 * 16 + 2 + 2 * 16 + 16 + 16 ≤ 100; omega) hz d_BL_init_37 (fun H hP hD hS => ?_)
  have hP : va_P D classes [(a0, .inr (1, [.ref sz, .ref (sz + 3), .ref (sz + 6), .null, .int (nI 0)])), (sz, .inl (c2, 2, .inr (.inr (.inr (.inr (pr2 (sz + 1) (sz + 2))))))), (sz + 1, .inl (cA, 16, .inl (fun zk => nI ((fun _ => 0) zk)))), (sz + 2, .inl (cA, 16, .inl (fun zk => nI ((fun _ => 0) zk)))), (sz + 3, .inl (c2, 2, .inr (.inr (.inr (.inr (pr2 (sz + 4) (sz + 5))))))), (sz + 4, .inl (cA, 16, .inl (fun zk => nI ((fun _ => 0) zk)))), (sz + 5, .inl (cA, 16, .inl (fun zk => nI ((fun _ => 0) zk)))), (sz + 6, .inl (cZ, 16, .inl (fun zk => zb ((fun _ => false) zk)))), (sz + 7, .inl (cZ, 16, .inl (fun zk => zb ((fun _ => false) zk))))] H := hP
  have hD : va_D A [(a0, .inr (1, [.ref sz, .ref (sz + 3), .ref (sz + 6), .null, .int (nI 0)])), (sz, .inl (c2, 2, .inr (.inr (.inr (.inr (pr2 (sz + 1) (sz + 2))))))), (sz + 1, .inl (cA, 16, .inl (fun zk => nI ((fun _ => 0) zk)))), (sz + 2, .inl (cA, 16, .inl (fun zk => nI ((fun _ => 0) zk)))), (sz + 3, .inl (c2, 2, .inr (.inr (.inr (.inr (pr2 (sz + 4) (sz + 5))))))), (sz + 4, .inl (cA, 16, .inl (fun zk => nI ((fun _ => 0) zk)))), (sz + 5, .inl (cA, 16, .inl (fun zk => nI ((fun _ => 0) zk)))), (sz + 6, .inl (cZ, 16, .inl (fun zk => zb ((fun _ => false) zk)))), (sz + 7, .inl (cZ, 16, .inl (fun zk => zb ((fun _ => false) zk))))] := hD
  refine va_putF (D := D) (ci := 1) (v := .ref (sz + 7)) (ty := (.array .boolean)) (C := R_BL) (T := F_BL) (N := 5) hx hb hts i_BL t_BL to_BL n_BL hown hK hP hD hS 0 rfl rfl 3 (by decide) (hts _ kf_BL_23) (fun _ h9 => h9) rfl hin rfl (by decide +kernel) rfl rfl (Nat.le_of_ble_eq_true rfl) d_BL_init_39 (fun H locs hP hD hS => ?_)
  have hP : va_P D classes [(a0, .inr (1, [.ref sz, .ref (sz + 3), .ref (sz + 6), .ref (sz + 7), .int (nI 0)])), (sz, .inl (c2, 2, .inr (.inr (.inr (.inr (pr2 (sz + 1) (sz + 2))))))), (sz + 1, .inl (cA, 16, .inl (fun zk => nI ((fun _ => 0) zk)))), (sz + 2, .inl (cA, 16, .inl (fun zk => nI ((fun _ => 0) zk)))), (sz + 3, .inl (c2, 2, .inr (.inr (.inr (.inr (pr2 (sz + 4) (sz + 5))))))), (sz + 4, .inl (cA, 16, .inl (fun zk => nI ((fun _ => 0) zk)))), (sz + 5, .inl (cA, 16, .inl (fun zk => nI ((fun _ => 0) zk)))), (sz + 6, .inl (cZ, 16, .inl (fun zk => zb ((fun _ => false) zk)))), (sz + 7, .inl (cZ, 16, .inl (fun zk => zb ((fun _ => false) zk))))] H := hP
  have hD : va_D A [(a0, .inr (1, [.ref sz, .ref (sz + 3), .ref (sz + 6), .ref (sz + 7), .int (nI 0)])), (sz, .inl (c2, 2, .inr (.inr (.inr (.inr (pr2 (sz + 1) (sz + 2))))))), (sz + 1, .inl (cA, 16, .inl (fun zk => nI ((fun _ => 0) zk)))), (sz + 2, .inl (cA, 16, .inl (fun zk => nI ((fun _ => 0) zk)))), (sz + 3, .inl (c2, 2, .inr (.inr (.inr (.inr (pr2 (sz + 4) (sz + 5))))))), (sz + 4, .inl (cA, 16, .inl (fun zk => nI ((fun _ => 0) zk)))), (sz + 5, .inl (cA, 16, .inl (fun zk => nI ((fun _ => 0) zk)))), (sz + 6, .inl (cZ, 16, .inl (fun zk => zb ((fun _ => false) zk)))), (sz + 7, .inl (cZ, 16, .inl (fun zk => zb ((fun _ => false) zk))))] := hD
  refine lv_aload_n hx hb d_BL_init_42 rfl (lv_at hl 0 rfl) ?_
  refine lv_iconst (v := nI 0) hx hb d_BL_init_43 (by decide) ?_
  refine va_put (D := D) (ci := 1) (v := .int (nI 0)) (ty := .int) (C := R_BL) (T := F_BL) (N := 5) hx hb hts i_BL t_BL to_BL n_BL hown hK hP hD hS 0 rfl rfl 4 (by decide) (hts _ kf_BL_26) (fun _ h9 => h9) rfl (by decide +kernel) rfl rfl (Nat.le_of_ble_eq_true rfl) d_BL_init_44 (fun H locs hP hD hS => ?_)
  have hP : va_P D classes [(a0, .inr (1, [.ref sz, .ref (sz + 3), .ref (sz + 6), .ref (sz + 7), .int (nI 0)])), (sz, .inl (c2, 2, .inr (.inr (.inr (.inr (pr2 (sz + 1) (sz + 2))))))), (sz + 1, .inl (cA, 16, .inl (fun zk => nI ((fun _ => 0) zk)))), (sz + 2, .inl (cA, 16, .inl (fun zk => nI ((fun _ => 0) zk)))), (sz + 3, .inl (c2, 2, .inr (.inr (.inr (.inr (pr2 (sz + 4) (sz + 5))))))), (sz + 4, .inl (cA, 16, .inl (fun zk => nI ((fun _ => 0) zk)))), (sz + 5, .inl (cA, 16, .inl (fun zk => nI ((fun _ => 0) zk)))), (sz + 6, .inl (cZ, 16, .inl (fun zk => zb ((fun _ => false) zk)))), (sz + 7, .inl (cZ, 16, .inl (fun zk => zb ((fun _ => false) zk))))] H := hP
  have hD : va_D A [(a0, .inr (1, [.ref sz, .ref (sz + 3), .ref (sz + 6), .ref (sz + 7), .int (nI 0)])), (sz, .inl (c2, 2, .inr (.inr (.inr (.inr (pr2 (sz + 1) (sz + 2))))))), (sz + 1, .inl (cA, 16, .inl (fun zk => nI ((fun _ => 0) zk)))), (sz + 2, .inl (cA, 16, .inl (fun zk => nI ((fun _ => 0) zk)))), (sz + 3, .inl (c2, 2, .inr (.inr (.inr (.inr (pr2 (sz + 4) (sz + 5))))))), (sz + 4, .inl (cA, 16, .inl (fun zk => nI ((fun _ => 0) zk)))), (sz + 5, .inl (cA, 16, .inl (fun zk => nI ((fun _ => 0) zk)))), (sz + 6, .inl (cZ, 16, .inl (fun zk => zb ((fun _ => false) zk)))), (sz + 7, .inl (cZ, 16, .inl (fun zk => zb ((fun _ => false) zk))))] := hD
  refine W.widen (k := 8) (n := 100) (by omega) (by omega) ?_
  exact W.vret hx hb hr (fun t ht hW => ⟨rfl, ⟨by rw [ht]; exact hP, va_K.moved hW.alike hK, hD⟩, hS.F ht⟩) hS.2.2 d_BL_init_47
set_option maxHeartbeats 4000000 in
set_option maxRecDepth 100000 in
/-- new Plan(blocks) -/
theorem c_PL_init (l : Launch) (D : va_G) (sz : Nat) (a0 bl : Nat) (cA cZ c2 : ClassId)  : Met l y_PL_init (wsA y_PL_init b_PL_init 2 none) ({ frames := 2, cells := 14, slots := 156, locals := 60 } : Room) (zPF zT3 D [(cA, .int), (cZ, .boolean), (c2, .array .int)] [(a0, .inr (6, [.null, .null, .null, .null, .null, .null, .null]))] [.ref a0, .ref bl] sz) (zQ none (zB D [(cA, .int), (cZ, .boolean), (c2, .array .int)] (va_A [(a0, .inr (6, [.null, .null, .null, .null, .null, .null, .null]))] sz) [(a0, .inr (6, [.ref bl, .ref sz, .ref (sz + 3), .ref (sz + 6), .ref (sz + 7), .ref (sz + 10), .ref (sz + 13)])), (sz, .inr (4, [.ref (sz + 1), .ref (sz + 2), .int (nI 0)])), (sz + 1, .inl (cA, 16, .inl (fun zk => nI ((fun _ => 0) zk)))), (sz + 2, .inl (cA, 16, .inl (fun zk => nI ((fun _ => 0) zk)))), (sz + 3, .inr (4, [.ref (sz + 4), .ref (sz + 5), .int (nI 0)])), (sz + 4, .inl (cA, 16, .inl (fun zk => nI ((fun _ => 0) zk)))), (sz + 5, .inl (cA, 16, .inl (fun zk => nI ((fun _ => 0) zk)))), (sz + 6, .inl (cZ, 16, .inl (fun zk => zb ((fun _ => false) zk)))), (sz + 7, .inl (c2, 2, .inr (.inr (.inr (.inr (pr2 (sz + 8) (sz + 9))))))), (sz + 8, .inl (cA, 16, .inl (fun zk => nI ((fun _ => 0) zk)))), (sz + 9, .inl (cA, 16, .inl (fun zk => nI ((fun _ => 0) zk)))), (sz + 10, .inl (c2, 2, .inr (.inr (.inr (.inr (pr2 (sz + 11) (sz + 12))))))), (sz + 11, .inl (cA, 16, .inl (fun zk => nI ((fun _ => 0) zk)))), (sz + 12, .inl (cA, 16, .inl (fun zk => nI ((fun _ => 0) zk)))), (sz + 13, .inl (cA, 2, .inl (fun zk => nI ((fun _ => 0) zk))))]) (va_A [(a0, .inr (6, [.null, .null, .null, .null, .null, .null, .null]))] sz)) 14 156 (va_A [(a0, .inr (6, [.null, .null, .null, .null, .null, .null, .null]))] sz) := by
  refine Met.ofW (cc := b_PL_init) (maxL := 2) (ret := none) (by decide) rfl ?_
  intro p e s m args below meth c s₁ Bd hml hv
  obtain ⟨rfl, hsz, hP, hK, hD0, hF⟩ := hv
  have hx := Bd.exec
  have hb := Bd.bytes
  have hr := Bd.returns
  have hts : ∀ w ∈ lw_g, w.before _ s = true := fun w h => atoms_spec (ws := wsA y_PL_init b_PL_init 2 none) Bd.pre w (List.mem_cons_of_mem _ h)
  have hown : s.vm.findClass R_PL = some m.cls := findClass_of_methodNamed Bd.named
  have hlocks := Bd.notSynchronized
  have hin : meth.name = "<init>" := (name_of_methodNamed Bd.named Bd.method).1
  obtain ⟨hD, hA, hS⟩ := z_start hsz hD0
  generalize va_A [(a0, .inr (6, [.null, .null, .null, .null, .null, .null, .null]))] sz = A at hD hA hS hF ⊢
  have hl := lv_entry ([.ref a0, .ref bl]) (n := 2) (Nat.le_of_ble_eq_true rfl)
  rw [lg_entry_eq]
  generalize (lg_sl ([.ref a0, .ref bl]) ++ List.replicate (2 - (lg_sl ([.ref a0, .ref bl])).length) Slot.unset).toArray = ls at hl ⊢
  have hl : lv_has ls 2 [(0, .ref a0), (1, .ref bl)] := hl
  have hP : va_P D classes [(a0, .inr (6, [.null, .null, .null, .null, .null, .null, .null]))] s.heap := hP
  refine lv_aload_n hx hb d_PL_init_0 rfl (lv_at hl 0 rfl) ?_
  refine W.objInit hx hb hown (hts _ km_PL_3) (hts _ ki_obj) (hts _ kd_obj) rfl (by rw [hml]; exact hl.1) rfl d_PL_init_1 (Nat.le_of_ble_eq_true rfl) (Nat.le_of_ble_eq_true rfl) ?_
  refine lv_aload_n hx hb d_PL_init_4 rfl (lv_at hl 0 rfl) ?_
  refine lv_aload_n hx hb d_PL_init_5 rfl (lv_at hl 1 rfl) ?_
  refine va_putF (D := D) (ci := 6) (v := .ref bl) (ty := (.object "SliceBlocks$Blocks")) (C := R_PL) (T := F_PL) (N := 7) hx hb hts i_PL t_PL to_PL n_PL hown hK hP hD hS 0 rfl rfl 0 (by decide) (hts _ kf_PL_9) (fun _ h9 => h9) rfl hin rfl (by decide +kernel) rfl rfl (Nat.le_of_ble_eq_true rfl) d_PL_init_6 (fun H locs hP hD hS => ?_)
  have hP : va_P D classes [(a0, .inr (6, [.ref bl, .null, .null, .null, .null, .null, .null]))] H := hP
  have hD : va_D A [(a0, .inr (6, [.ref bl, .null, .null, .null, .null, .null, .null]))] := hD
  refine lv_aload_n hx hb d_PL_init_9 rfl (lv_at hl 0 rfl) ?_
  refine zsz (fun hub => ?_)
  have hz : H.size = sz := by have hlo := hS.1; omega
  refine z_new (ci := 4) (fs := [.null, .null, .int (nI 0)]) (C := R_OR) (T := F_OR) (N := 3) hx hb hts i_OR t_OR to_OR hown kc_PL_15 kI_OR kn_OR hK hP hD hS hA rfl (fun j hj => by rcases (show j = 0 ∨ j = 1 ∨ j = 2 by omega) with rfl | rfl | rfl <;> rfl) (by show 0 + 1 ≤ 14; omega) (by show 0 + 3 ≤ 156; omega) hz d_PL_init_10 (fun H hP hD hS => ?_)
  have hP : va_P D classes [(a0, .inr (6, [.ref bl, .null, .null, .null, .null, .null, .null])), (sz, .inr (4, [.null, .null, .int (nI 0)]))] H := hP
  have hD : va_D A [(a0, .inr (6, [.ref bl, .null, .null, .null, .null, .null, .null])), (sz, .inr (4, [.null, .null, .int (nI 0)]))] := hD
  refine lv_dup hx hb d_PL_init_13 rfl ?_
  refine zsz (fun hub => ?_)
  have hz : H.size = sz + 1 := by have hlo : sz < H.size := (hP 1 _ rfl).lt; omega
  refine zm_I (F := zF0) (mc := 2) (ms := 32) (As := []) (rest := [.ref sz, .ref a0]) (n := 0) (wsC := [(sz, .inr (4, [.null, .null, .int (nI 0)]))]) (wsC' := [(sz, .inr (4, [.ref (sz + 1), .ref (sz + 2), .int (nI 0)])), (sz + 1, .inl (cA, 16, .inl (fun zk => nI ((fun _ => 0) zk)))), (sz + 2, .inl (cA, 16, .inl (fun zk => nI ((fun _ => 0) zk))))]) (wr := [(a0, .inr (6, [.ref bl, .null, .null, .null, .null, .null, .null]))]) (ws' := [(a0, .inr (6, [.ref bl, .null, .null, .null, .null, .null, .null])), (sz, .inr (4, [.ref (sz + 1), .ref (sz + 2), .int (nI 0)])), (sz + 1, .inl (cA, 16, .inl (fun zk => nI ((fun _ => 0) zk)))), (sz + 2, .inl (cA, 16, .inl (fun zk => nI ((fun _ => 0) zk))))]) zF0_ok ⟨hx, hb, hml, hown, hts⟩ (by rw [hz]; exact c_OR_init l D (sz + 1) (sz) cA) ⟨km_PL_17, ki_OR_init, kn_OR, kd_OR_init⟩ rfl (by decide +kernel) (by decide) ⟨(by show 0 + 1 + 2 ≤ 14; omega), (by show 0 + 3 + 32 ≤ 156; omega)⟩ hK hP hD hS hA trivial [1] [0] [0, 1, 2, 3] [0] rfl rfl (by decide) rfl (by decide) (by decide) rfl rfl (by decide) rfl rfl hl.1 rfl (Nat.le_of_ble_eq_true rfl) d_PL_init_14 (fun H locs hP hD hS => ?_)
  have hP : va_P D classes [(a0, .inr (6, [.ref bl, .null, .null, .null, .null, .null, .null])), (sz, .inr (4, [.ref (sz + 1), .ref (sz + 2), .int (nI 0)])), (sz + 1, .inl (cA, 16, .inl (fun zk => nI ((fun _ => 0) zk)))), (sz + 2, .inl (cA, 16, .inl (fun zk => nI ((fun _ => 0) zk))))] H := hP
  have hD : va_D A [(a0, .inr (6, [.ref bl, .null, .null, .null, .null, .null, .null])), (sz, .inr (4, [.ref (sz + 1), .ref (sz + 2), .int (nI 0)])), (sz + 1, .inl (cA, 16, .inl (fun zk => nI ((fun _ => 0) zk)))), (sz + 2, .inl (cA, 16, .inl (fun zk => nI ((fun _ => 0) zk))))] := hD
  refine va_putF (D := D) (ci := 6) (v := .ref sz) (ty := (.object "SliceBlocks$Order")) (C := R_PL) (T := F_PL) (N := 7) hx hb hts i_PL t_PL to_PL n_PL hown hK hP hD hS 0 rfl rfl 1 (by decide) (hts _ kf_PL_18) (fun _ h9 => h9) rfl hin rfl (by decide +kernel) rfl rfl (Nat.le_of_ble_eq_true rfl) d_PL_init_17 (fun H locs hP hD hS => ?_)
  have hP : va_P D classes [(a0, .inr (6, [.ref bl, .ref sz, .null, .null, .null, .null, .null])), (sz, .inr (4, [.ref (sz + 1), .ref (sz + 2), .int (nI 0)])), (sz + 1, .inl (cA, 16, .inl (fun zk => nI ((fun _ => 0) zk)))), (sz + 2, .inl (cA, 16, .inl (fun zk => nI ((fun _ => 0) zk))))] H := hP
  have hD : va_D A [(a0, .inr (6, [.ref bl, .ref sz, .null, .null, .null, .null, .null])), (sz, .inr (4, [.ref (sz + 1), .ref (sz + 2), .int (nI 0)])), (sz + 1, .inl (cA, 16, .inl (fun zk => nI ((fun _ => 0) zk)))), (sz + 2, .inl (cA, 16, .inl (fun zk => nI ((fun _ => 0) zk))))] := hD
  refine lv_aload_n hx hb d_PL_init_20 rfl (lv_at hl 0 rfl) ?_
  refine zsz (fun hub => ?_)
  have hz : H.size = sz + 3 := by have hlo : sz + 2 < H.size := (hP 3 _ rfl).lt; omega
  refine z_new (ci := 4) (fs := [.null, .null, .int (nI 0)]) (C := R_OR) (T := F_OR) (N := 3) hx hb hts i_OR t_OR to_OR hown kc_PL_15 kI_OR kn_OR hK hP hD hS hA rfl (fun j hj => by rcases (show j = 0 ∨ j = 1 ∨ j = 2 by omega) with rfl | rfl | rfl <;> rfl) (by show 0 + 1 + 2 + 1 ≤ 14; omega) (by show 0 + 3 + 32 + 3 ≤ 156; omega) hz d_PL_init_21 (fun H hP hD hS => ?_)
  have hP : va_P D classes [(a0, .inr (6, [.ref bl, .ref sz, .null, .null, .null, .null, .null])), (sz, .inr (4, [.ref (sz + 1), .ref (sz + 2), .int (nI 0)])), (sz + 1, .inl (cA, 16, .inl (fun zk => nI ((fun _ => 0) zk)))), (sz + 2, .inl (cA, 16, .inl (fun zk => nI ((fun _ => 0) zk)))), (sz + 3, .inr (4, [.null, .null, .int (nI 0)]))] H := hP
  have hD : va_D A [(a0, .inr (6, [.ref bl, .ref sz, .null, .null, .null, .null, .null])), (sz, .inr (4, [.ref (sz + 1), .ref (sz + 2), .int (nI 0)])), (sz + 1, .inl (cA, 16, .inl (fun zk => nI ((fun _ => 0) zk)))), (sz + 2, .inl (cA, 16, .inl (fun zk => nI ((fun _ => 0) zk)))), (sz + 3, .inr (4, [.null, .null, .int (nI 0)]))] := hD
  refine lv_dup hx hb d_PL_init_24 rfl ?_
  refine zsz (fun hub => ?_)
  have hz : H.size = sz + 4 := by have hlo : sz + 3 < H.size := (hP 4 _ rfl).lt; omega
  refine zm_I (F := zF0) (mc := 2) (ms := 32) (As := []) (rest := [.ref (sz + 3), .ref a0]) (n := 0) (wsC := [(sz + 3, .inr (4, [.null, .null, .int (nI 0)]))]) (wsC' := [(sz + 3, .inr (4, [.ref (sz + 4), .ref (sz + 5), .int (nI 0)])), (sz + 4, .inl (cA, 16, .inl (fun zk => nI ((fun _ => 0) zk)))), (sz + 5, .inl (cA, 16, .inl (fun zk => nI ((fun _ => 0) zk))))]) (wr := [(a0, .inr (6, [.ref bl, .ref sz, .null, .null, .null, .null, .null])), (sz, .inr (4, [.ref (sz + 1), .ref (sz + 2), .int (nI 0)])), (sz + 1, .inl (cA, 16, .inl (fun zk => nI ((fun _ => 0) zk)))), (sz + 2, .inl (cA, 16, .inl (fun zk => nI ((fun _ => 0) zk))))]) (ws' := [(a0, .inr (6, [.ref bl, .ref sz, .null, .null, .null, .null, .null])), (sz, .inr (4, [.ref (sz + 1), .ref (sz + 2), .int (nI 0)])), (sz + 1, .inl (cA, 16, .inl (fun zk => nI ((fun _ => 0) zk)))), (sz + 2, .inl (cA, 16, .inl (fun zk => nI ((fun _ => 0) zk)))), (sz + 3, .inr (4, [.ref (sz + 4), .ref (sz + 5), .int (nI 0)])), (sz + 4, .inl (cA, 16, .inl (fun zk => nI ((fun _ => 0) zk)))), (sz + 5, .inl (cA, 16, .inl (fun zk => nI ((fun _ => 0) zk))))]) zF0_ok ⟨hx, hb, hml, hown, hts⟩ (by rw [hz]; exact c_OR_init l D (sz + 4) (sz + 3) cA) ⟨km_PL_17, ki_OR_init, kn_OR, kd_OR_init⟩ rfl (by decide +kernel) (by decide) ⟨(by show 0 + 1 + 2 + 1 + 2 ≤ 14; omega), (by show 0 + 3 + 32 + 3 + 32 ≤ 156; omega)⟩ hK hP hD hS hA trivial [4] [0, 1, 2, 3] [0, 1, 2, 3, 4, 5, 6] [0] rfl rfl (by decide) rfl (by decide) (by decide) rfl rfl (by decide) rfl rfl hl.1 rfl (Nat.le_of_ble_eq_true rfl) d_PL_init_25 (fun H locs hP hD hS => ?_)
  have hP : va_P D classes [(a0, .inr (6, [.ref bl, .ref sz, .null, .null, .null, .null, .null])), (sz, .inr (4, [.ref (sz + 1), .ref (sz + 2), .int (nI 0)])), (sz + 1, .inl (cA, 16, .inl (fun zk => nI ((fun _ => 0) zk)))), (sz + 2, .inl (cA, 16, .inl (fun zk => nI ((fun _ => 0) zk)))), (sz + 3, .inr (4, [.ref (sz + 4), .ref (sz + 5), .int (nI 0)])), (sz + 4, .inl (cA, 16, .inl (fun zk => nI ((fun _ => 0) zk)))), (sz + 5, .inl (cA, 16, .inl (fun zk => nI ((fun _ => 0) zk))))] H := hP
  have hD : va_D A [(a0, .inr (6, [.ref bl, .ref sz, .null, .null, .null, .null, .null])), (sz, .inr (4, [.ref (sz + 1), .ref (sz + 2), .int (nI 0)])), (sz + 1, .inl (cA, 16, .inl (fun zk => nI ((fun _ => 0) zk)))), (sz + 2, .inl (cA, 16, .inl (fun zk => nI ((fun _ => 0) zk)))), (sz + 3, .inr (4, [.ref (sz + 4), .ref (sz + 5), .int (nI 0)])), (sz + 4, .inl (cA, 16, .inl (fun zk => nI ((fun _ => 0) zk)))), (sz + 5, .inl (cA, 16, .inl (fun zk => nI ((fun _ => 0) zk))))] := hD
  refine va_putF (D := D) (ci := 6) (v := .ref (sz + 3)) (ty := (.object "SliceBlocks$Order")) (C := R_PL) (T := F_PL) (N := 7) hx hb hts i_PL t_PL to_PL n_PL hown hK hP hD hS 0 rfl rfl 2 (by decide) (hts _ kf_PL_22) (fun _ h9 => h9) rfl hin rfl (by decide +kernel) rfl rfl (Nat.le_of_ble_eq_true rfl) d_PL_init_28 (fun H locs hP hD hS => ?_)
  have hP : va_P D classes [(a0, .inr (6, [.ref bl, .ref sz, .ref (sz + 3), .null, .null, .null, .null])), (sz, .inr (4, [.ref (sz + 1), .ref (sz + 2), .int (nI 0)])), (sz + 1, .inl (cA, 16, .inl (fun zk => nI ((fun _ => 0) zk)))), (sz + 2, .inl (cA, 16, .inl (fun zk => nI ((fun _ => 0) zk)))), (sz + 3, .inr (4, [.ref (sz + 4), .ref (sz + 5), .int (nI 0)])), (sz + 4, .inl (cA, 16, .inl (fun zk => nI ((fun _ => 0) zk)))), (sz + 5, .inl (cA, 16, .inl (fun zk => nI ((fun _ => 0) zk))))] H := hP
  have hD : va_D A [(a0, .inr (6, [.ref bl, .ref sz, .ref (sz + 3), .null, .null, .null, .null])), (sz, .inr (4, [.ref (sz + 1), .ref (sz + 2), .int (nI 0)])), (sz + 1, .inl (cA, 16, .inl (fun zk => nI ((fun _ => 0) zk)))), (sz + 2, .inl (cA, 16, .inl (fun zk => nI ((fun _ => 0) zk)))), (sz + 3, .inr (4, [.ref (sz + 4), .ref (sz + 5), .int (nI 0)])), (sz + 4, .inl (cA, 16, .inl (fun zk => nI ((fun _ => 0) zk)))), (sz + 5, .inl (cA, 16, .inl (fun zk => nI ((fun _ => 0) zk))))] := hD
  refine lv_aload_n hx hb d_PL_init_31 rfl (lv_at hl 0 rfl) ?_
  refine lv_bipush (v := nI 16) hx hb d_PL_init_32 (by decide) ?_
  refine zsz (fun hub => ?_)
  have hz : H.size = sz + 6 := by have hlo : sz + 5 < H.size := (hP 6 _ rfl).lt; omega
  refine z_newa (ty := .boolean) (cA := cZ) (N' := 16) (a0 := (16, .inl (fun zk => zb ((fun _ => false) zk)))) hx hb rfl (hts _ ka_61) (hK.2 1 _ rfl).2 hP hD hS hA (vp_zb 16) (nI_n0 (by decide)) (nI_clamp (by decide)) (by decide) (by show 0 + 1 + 2 + 1 + 2 + 1 ≤ 14; omega) (by show 0 + 3 + 32 + 3 + 32 + 16 ≤ 156; omega) hz d_PL_init_34 (fun H hP hD hS => ?_)
  have hP : va_P D classes [(a0, .inr (6, [.ref bl, .ref sz, .ref (sz + 3), .null, .null, .null, .null])), (sz, .inr (4, [.ref (sz + 1), .ref (sz + 2), .int (nI 0)])), (sz + 1, .inl (cA, 16, .inl (fun zk => nI ((fun _ => 0) zk)))), (sz + 2, .inl (cA, 16, .inl (fun zk => nI ((fun _ => 0) zk)))), (sz + 3, .inr (4, [.ref (sz + 4), .ref (sz + 5), .int (nI 0)])), (sz + 4, .inl (cA, 16, .inl (fun zk => nI ((fun _ => 0) zk)))), (sz + 5, .inl (cA, 16, .inl (fun zk => nI ((fun _ => 0) zk)))), (sz + 6, .inl (cZ, 16, .inl (fun zk => zb ((fun _ => false) zk))))] H := hP
  have hD : va_D A [(a0, .inr (6, [.ref bl, .ref sz, .ref (sz + 3), .null, .null, .null, .null])), (sz, .inr (4, [.ref (sz + 1), .ref (sz + 2), .int (nI 0)])), (sz + 1, .inl (cA, 16, .inl (fun zk => nI ((fun _ => 0) zk)))), (sz + 2, .inl (cA, 16, .inl (fun zk => nI ((fun _ => 0) zk)))), (sz + 3, .inr (4, [.ref (sz + 4), .ref (sz + 5), .int (nI 0)])), (sz + 4, .inl (cA, 16, .inl (fun zk => nI ((fun _ => 0) zk)))), (sz + 5, .inl (cA, 16, .inl (fun zk => nI ((fun _ => 0) zk)))), (sz + 6, .inl (cZ, 16, .inl (fun zk => zb ((fun _ => false) zk))))] := hD
  refine va_putF (D := D) (ci := 6) (v := .ref (sz + 6)) (ty := (.array .boolean)) (C := R_PL) (T := F_PL) (N := 7) hx hb hts i_PL t_PL to_PL n_PL hown hK hP hD hS 0 rfl rfl 3 (by decide) (hts _ kf_PL_25) (fun _ h9 => h9) rfl hin rfl (by decide +kernel) rfl rfl (Nat.le_of_ble_eq_true rfl) d_PL_init_36 (fun H locs hP hD hS => ?_)
  have hP : va_P D classes [(a0, .inr (6, [.ref bl, .ref sz, .ref (sz + 3), .ref (sz + 6), .null, .null, .null])), (sz, .inr (4, [.ref (sz + 1), .ref (sz + 2), .int (nI 0)])), (sz + 1, .inl (cA, 16, .inl (fun zk => nI ((fun _ => 0) zk)))), (sz + 2, .inl (cA, 16, .inl (fun zk => nI ((fun _ => 0) zk)))), (sz + 3, .inr (4, [.ref (sz + 4), .ref (sz + 5), .int (nI 0)])), (sz + 4, .inl (cA, 16, .inl (fun zk => nI ((fun _ => 0) zk)))), (sz + 5, .inl (cA, 16, .inl (fun zk => nI ((fun _ => 0) zk)))), (sz + 6, .inl (cZ, 16, .inl (fun zk => zb ((fun _ => false) zk))))] H := hP
  have hD : va_D A [(a0, .inr (6, [.ref bl, .ref sz, .ref (sz + 3), .ref (sz + 6), .null, .null, .null])), (sz, .inr (4, [.ref (sz + 1), .ref (sz + 2), .int (nI 0)])), (sz + 1, .inl (cA, 16, .inl (fun zk => nI ((fun _ => 0) zk)))), (sz + 2, .inl (cA, 16, .inl (fun zk => nI ((fun _ => 0) zk)))), (sz + 3, .inr (4, [.ref (sz + 4), .ref (sz + 5), .int (nI 0)])), (sz + 4, .inl (cA, 16, .inl (fun zk => nI ((fun _ => 0) zk)))), (sz + 5, .inl (cA, 16, .inl (fun zk => nI ((fun _ => 0) zk)))), (sz + 6, .inl (cZ, 16, .inl (fun zk => zb ((fun _ => false) zk))))] := hD
  refine lv_aload_n hx hb d_PL_init_39 rfl (lv_at hl 0 rfl) ?_
  refine lv_iconst (v := nI 2) hx hb d_PL_init_40 (by decide) ?_
  refine lv_bipush (v := nI 16) hx hb d_PL_init_41 (by decide) ?_
  refine zsz (fun hub => ?_)
  have hz : H.size = sz + 7 := by have hlo : sz + 6 < H.size := (hP 7 _ rfl).lt; omega
  refine z_multi (own := R_PL) (cA := cA) (c2 := c2) (n := 2) (k := 16) (g := (pr2 (sz + 8) (sz + 9))) hx hb hown (hts _ kc_PL_29) hF.2 (hts _ ka_60) (hK.2 0 _ rfl).2 (hK.2 2 _ rfl).2 hP hD hS hA (fun j hj => by rcases (show j = 0 ∨ j = 1 by omega) with rfl | rfl <;> rfl) (by decide) (by decide) (by show 0 + 1 + 2 + 1 + 2 + 1 + (1 + 2) ≤ 14; omega) (by show 0 + 3 + 32 + 3 + 32 + 16 + (2 + 2 * 16) ≤ 156; omega) hz d_PL_init_43 (fun H hP hD hS => ?_)
  have hP : va_P D classes [(a0, .inr (6, [.ref bl, .ref sz, .ref (sz + 3), .ref (sz + 6), .null, .null, .null])), (sz, .inr (4, [.ref (sz + 1), .ref (sz + 2), .int (nI 0)])), (sz + 1, .inl (cA, 16, .inl (fun zk => nI ((fun _ => 0) zk)))), (sz + 2, .inl (cA, 16, .inl (fun zk => nI ((fun _ => 0) zk)))), (sz + 3, .inr (4, [.ref (sz + 4), .ref (sz + 5), .int (nI 0)])), (sz + 4, .inl (cA, 16, .inl (fun zk => nI ((fun _ => 0) zk)))), (sz + 5, .inl (cA, 16, .inl (fun zk => nI ((fun _ => 0) zk)))), (sz + 6, .inl (cZ, 16, .inl (fun zk => zb ((fun _ => false) zk)))), (sz + 7, .inl (c2, 2, .inr (.inr (.inr (.inr (pr2 (sz + 8) (sz + 9))))))), (sz + 8, .inl (cA, 16, .inl (fun zk => nI ((fun _ => 0) zk)))), (sz + 9, .inl (cA, 16, .inl (fun zk => nI ((fun _ => 0) zk))))] H := hP
  have hD : va_D A [(a0, .inr (6, [.ref bl, .ref sz, .ref (sz + 3), .ref (sz + 6), .null, .null, .null])), (sz, .inr (4, [.ref (sz + 1), .ref (sz + 2), .int (nI 0)])), (sz + 1, .inl (cA, 16, .inl (fun zk => nI ((fun _ => 0) zk)))), (sz + 2, .inl (cA, 16, .inl (fun zk => nI ((fun _ => 0) zk)))), (sz + 3, .inr (4, [.ref (sz + 4), .ref (sz + 5), .int (nI 0)])), (sz + 4, .inl (cA, 16, .inl (fun zk => nI ((fun _ => 0) zk)))), (sz + 5, .inl (cA, 16, .inl (fun zk => nI ((fun _ => 0) zk)))), (sz + 6, .inl (cZ, 16, .inl (fun zk => zb ((fun _ => false) zk)))), (sz + 7, .inl (c2, 2, .inr (.inr (.inr (.inr (pr2 (sz + 8) (sz + 9))))))), (sz + 8, .inl (cA, 16, .inl (fun zk => nI ((fun _ => 0) zk)))), (sz + 9, .inl (cA, 16, .inl (fun zk => nI ((fun _ => 0) zk))))] := hD
  refine va_putF (D := D) (ci := 6) (v := .ref (sz + 7)) (ty := (.array (.array .int))) (C := R_PL) (T := F_PL) (N := 7) hx hb hts i_PL t_PL to_PL n_PL hown hK hP hD hS 0 rfl rfl 4 (by decide) (hts _ kf_PL_31) (fun _ h9 => h9) rfl hin rfl (by decide +kernel) rfl rfl (Nat.le_of_ble_eq_true rfl) d_PL_init_47 (fun H locs hP hD hS => ?_)
  have hP : va_P D classes [(a0, .inr (6, [.ref bl, .ref sz, .ref (sz + 3), .ref (sz + 6), .ref (sz + 7), .null, .null])), (sz, .inr (4, [.ref (sz + 1), .ref (sz + 2), .int (nI 0)])), (sz + 1, .inl (cA, 16, .inl (fun zk => nI ((fun _ => 0) zk)))), (sz + 2, .inl (cA, 16, .inl (fun zk => nI ((fun _ => 0) zk)))), (sz + 3, .inr (4, [.ref (sz + 4), .ref (sz + 5), .int (nI 0)])), (sz + 4, .inl (cA, 16, .inl (fun zk => nI ((fun _ => 0) zk)))), (sz + 5, .inl (cA, 16, .inl (fun zk => nI ((fun _ => 0) zk)))), (sz + 6, .inl (cZ, 16, .inl (fun zk => zb ((fun _ => false) zk)))), (sz + 7, .inl (c2, 2, .inr (.inr (.inr (.inr (pr2 (sz + 8) (sz + 9))))))), (sz + 8, .inl (cA, 16, .inl (fun zk => nI ((fun _ => 0) zk)))), (sz + 9, .inl (cA, 16, .inl (fun zk => nI ((fun _ => 0) zk))))] H := hP
  have hD : va_D A [(a0, .inr (6, [.ref bl, .ref sz, .ref (sz + 3), .ref (sz + 6), .ref (sz + 7), .null, .null])), (sz, .inr (4, [.ref (sz + 1), .ref (sz + 2), .int (nI 0)])), (sz + 1, .inl (cA, 16, .inl (fun zk => nI ((fun _ => 0) zk)))), (sz + 2, .inl (cA, 16, .inl (fun zk => nI ((fun _ => 0) zk)))), (sz + 3, .inr (4, [.ref (sz + 4), .ref (sz + 5), .int (nI 0)])), (sz + 4, .inl (cA, 16, .inl (fun zk => nI ((fun _ => 0) zk)))), (sz + 5, .inl (cA, 16, .inl (fun zk => nI ((fun _ => 0) zk)))), (sz + 6, .inl (cZ, 16, .inl (fun zk => zb ((fun _ => false) zk)))), (sz + 7, .inl (c2, 2, .inr (.inr (.inr (.inr (pr2 (sz + 8) (sz + 9))))))), (sz + 8, .inl (cA, 16, .inl (fun zk => nI ((fun _ => 0) zk)))), (sz + 9, .inl (cA, 16, .inl (fun zk => nI ((fun _ => 0) zk))))] := hD
  refine lv_aload_n hx hb d_PL_init_50 rfl (lv_at hl 0 rfl) ?_
  refine lv_iconst (v := nI 2) hx hb d_PL_init_51 (by decide) ?_
  refine lv_bipush (v := nI 16) hx hb d_PL_init_52 (by decide) ?_
  refine zsz (fun hub => ?_)
  have hz : H.size = sz + 10 := by have hlo : sz + 9 < H.size := (hP 10 _ rfl).lt; omega
  refine z_multi (own := R_PL) (cA := cA) (c2 := c2) (n := 2) (k := 16) (g := (pr2 (sz + 11) (sz + 12))) hx hb hown (hts _ kc_PL_29) hF.2 (hts _ ka_60) (hK.2 0 _ rfl).2 (hK.2 2 _ rfl).2 hP hD hS hA (fun j hj => by rcases (show j = 0 ∨ j = 1 by omega) with rfl | rfl <;> rfl) (by decide) (by decide) (by show 0 + 1 + 2 + 1 + 2 + 1 + 1 + 2 + (1 + 2) ≤ 14; omega) (by show 0 + 3 + 32 + 3 + 32 + 16 + 2 + 2 * 16 + (2 + 2 * 16) ≤ 156; omega) hz d_PL_init_54 (fun H hP hD hS => ?_)
  have hP : va_P D classes [(a0, .inr (6, [.ref bl, .ref sz, .ref (sz + 3), .ref (sz + 6), .ref (sz + 7), .null, .null])), (sz, .inr (4, [.ref (sz + 1), .ref (sz + 2), .int (nI 0)])), (sz + 1, .inl (cA, 16, .inl (fun zk => nI ((fun _ => 0) zk)))), (sz + 2, .inl (cA, 16, .inl (fun zk => nI ((fun _ => 0) zk)))), (sz + 3, .inr (4, [.ref (sz + 4), .ref (sz + 5), .int (nI 0)])), (sz + 4, .inl (cA, 16, .inl (fun zk => nI ((fun _ => 0) zk)))), (sz + 5, .inl (cA, 16, .inl (fun zk => nI ((fun _ => 0) zk)))), (sz + 6, .inl (cZ, 16, .inl (fun zk => zb ((fun _ => false) zk)))), (sz + 7, .inl (c2, 2, .inr (.inr (.inr (.inr (pr2 (sz + 8) (sz + 9))))))), (sz + 8, .inl (cA, 16, .inl (fun zk => nI ((fun _ => 0) zk)))), (sz + 9, .inl (cA, 16, .inl (fun zk => nI ((fun _ => 0) zk)))), (sz + 10, .inl (c2, 2, .inr (.inr (.inr (.inr (pr2 (sz + 11) (sz + 12))))))), (sz + 11, .inl (cA, 16, .inl (fun zk => nI ((fun _ => 0) zk)))), (sz + 12, .inl (cA, 16, .inl (fun zk => nI ((fun _ => 0) zk))))] H := hP
  have hD : va_D A [(a0, .inr (6, [.ref bl, .ref sz, .ref (sz + 3), .ref (sz + 6), .ref (sz + 7), .null, .null])), (sz, .inr (4, [.ref (sz + 1), .ref (sz + 2), .int (nI 0)])), (sz + 1, .inl (cA, 16, .inl (fun zk => nI ((fun _ => 0) zk)))), (sz + 2, .inl (cA, 16, .inl (fun zk => nI ((fun _ => 0) zk)))), (sz + 3, .inr (4, [.ref (sz + 4), .ref (sz + 5), .int (nI 0)])), (sz + 4, .inl (cA, 16, .inl (fun zk => nI ((fun _ => 0) zk)))), (sz + 5, .inl (cA, 16, .inl (fun zk => nI ((fun _ => 0) zk)))), (sz + 6, .inl (cZ, 16, .inl (fun zk => zb ((fun _ => false) zk)))), (sz + 7, .inl (c2, 2, .inr (.inr (.inr (.inr (pr2 (sz + 8) (sz + 9))))))), (sz + 8, .inl (cA, 16, .inl (fun zk => nI ((fun _ => 0) zk)))), (sz + 9, .inl (cA, 16, .inl (fun zk => nI ((fun _ => 0) zk)))), (sz + 10, .inl (c2, 2, .inr (.inr (.inr (.inr (pr2 (sz + 11) (sz + 12))))))), (sz + 11, .inl (cA, 16, .inl (fun zk => nI ((fun _ => 0) zk)))), (sz + 12, .inl (cA, 16, .inl (fun zk => nI ((fun _ => 0) zk))))] := hD
  refine va_putF (D := D) (ci := 6) (v := .ref (sz + 10)) (ty := (.array (.array .int))) (C := R_PL) (T := F_PL) (N := 7) hx hb hts i_PL t_PL to_PL n_PL hown hK hP hD hS 0 rfl rfl 5 (by decide) (hts _ kf_PL_34) (fun _ h9 => h9) rfl hin rfl (by decide +kernel) rfl rfl (Nat.le_of_ble_eq_true rfl) d_PL_init_58 (fun H locs hP hD hS => ?_)
  have hP : va_P D classes [(a0, .inr (6, [.ref bl, .ref sz, .ref (sz + 3), .ref (sz + 6), .ref (sz + 7), .ref (sz + 10), .null])), (sz, .inr (4, [.ref (sz + 1), .ref (sz + 2), .int (nI 0)])), (sz + 1, .inl (cA, 16, .inl (fun zk => nI ((fun _ => 0) zk)))), (sz + 2, .inl (cA, 16, .inl (fun zk => nI ((fun _ => 0) zk)))), (sz + 3, .inr (4, [.ref (sz + 4), .ref (sz + 5), .int (nI 0)])), (sz + 4, .inl (cA, 16, .inl (fun zk => nI ((fun _ => 0) zk)))), (sz + 5, .inl (cA, 16, .inl (fun zk => nI ((fun _ => 0) zk)))), (sz + 6, .inl (cZ, 16, .inl (fun zk => zb ((fun _ => false) zk)))), (sz + 7, .inl (c2, 2, .inr (.inr (.inr (.inr (pr2 (sz + 8) (sz + 9))))))), (sz + 8, .inl (cA, 16, .inl (fun zk => nI ((fun _ => 0) zk)))), (sz + 9, .inl (cA, 16, .inl (fun zk => nI ((fun _ => 0) zk)))), (sz + 10, .inl (c2, 2, .inr (.inr (.inr (.inr (pr2 (sz + 11) (sz + 12))))))), (sz + 11, .inl (cA, 16, .inl (fun zk => nI ((fun _ => 0) zk)))), (sz + 12, .inl (cA, 16, .inl (fun zk => nI ((fun _ => 0) zk))))] H := hP
  have hD : va_D A [(a0, .inr (6, [.ref bl, .ref sz, .ref (sz + 3), .ref (sz + 6), .ref (sz + 7), .ref (sz + 10), .null])), (sz, .inr (4, [.ref (sz + 1), .ref (sz + 2), .int (nI 0)])), (sz + 1, .inl (cA, 16, .inl (fun zk => nI ((fun _ => 0) zk)))), (sz + 2, .inl (cA, 16, .inl (fun zk => nI ((fun _ => 0) zk)))), (sz + 3, .inr (4, [.ref (sz + 4), .ref (sz + 5), .int (nI 0)])), (sz + 4, .inl (cA, 16, .inl (fun zk => nI ((fun _ => 0) zk)))), (sz + 5, .inl (cA, 16, .inl (fun zk => nI ((fun _ => 0) zk)))), (sz + 6, .inl (cZ, 16, .inl (fun zk => zb ((fun _ => false) zk)))), (sz + 7, .inl (c2, 2, .inr (.inr (.inr (.inr (pr2 (sz + 8) (sz + 9))))))), (sz + 8, .inl (cA, 16, .inl (fun zk => nI ((fun _ => 0) zk)))), (sz + 9, .inl (cA, 16, .inl (fun zk => nI ((fun _ => 0) zk)))), (sz + 10, .inl (c2, 2, .inr (.inr (.inr (.inr (pr2 (sz + 11) (sz + 12))))))), (sz + 11, .inl (cA, 16, .inl (fun zk => nI ((fun _ => 0) zk)))), (sz + 12, .inl (cA, 16, .inl (fun zk => nI ((fun _ => 0) zk))))] := hD
  refine lv_aload_n hx hb d_PL_init_61 rfl (lv_at hl 0 rfl) ?_
  refine lv_iconst (v := nI 2) hx hb d_PL_init_62 (by decide) ?_
  refine zsz (fun hub => ?_)
  have hz : H.size = sz + 13 := by have hlo : sz + 12 < H.size := (hP 13 _ rfl).lt; omega
  refine z_newa (ty := .int) (cA := cA) (N' := 2) (a0 := (2, .inl (fun zk => nI ((fun _ => 0) zk)))) hx hb rfl (hts _ ka_60) (hK.2 0 _ rfl).2 hP hD hS hA (vp_zn 2) (nI_n0 (by decide)) (nI_clamp (by decide)) (by decide) (by show 0 + 1 + 2 + 1 + 2 + 1 + 1 + 2 + 1 + 2 + 1 ≤ 14; omega) (by show 0 + 3 + 32 + 3 + 32 + 16 + 2 + 2 * 16 + 2 + 2 * 16 + 2 ≤ 156; omega) hz d_PL_init_63 (fun H hP hD hS => ?_)
  have hP : va_P D classes [(a0, .inr (6, [.ref bl, .ref sz, .ref (sz + 3), .ref (sz + 6), .ref (sz + 7), .ref (sz + 10), .null])), (sz, .inr (4, [.ref (sz + 1), .ref (sz + 2), .int (nI 0)])), (sz + 1, .inl (cA, 16, .inl (fun zk => nI ((fun _ => 0) zk)))), (sz + 2, .inl (cA, 16, .inl (fun zk => nI ((fun _ => 0) zk)))), (sz + 3, .inr (4, [.ref (sz + 4), .ref (sz + 5), .int (nI 0)])), (sz + 4, .inl (cA, 16, .inl (fun zk => nI ((fun _ => 0) zk)))), (sz + 5, .inl (cA, 16, .inl (fun zk => nI ((fun _ => 0) zk)))), (sz + 6, .inl (cZ, 16, .inl (fun zk => zb ((fun _ => false) zk)))), (sz + 7, .inl (c2, 2, .inr (.inr (.inr (.inr (pr2 (sz + 8) (sz + 9))))))), (sz + 8, .inl (cA, 16, .inl (fun zk => nI ((fun _ => 0) zk)))), (sz + 9, .inl (cA, 16, .inl (fun zk => nI ((fun _ => 0) zk)))), (sz + 10, .inl (c2, 2, .inr (.inr (.inr (.inr (pr2 (sz + 11) (sz + 12))))))), (sz + 11, .inl (cA, 16, .inl (fun zk => nI ((fun _ => 0) zk)))), (sz + 12, .inl (cA, 16, .inl (fun zk => nI ((fun _ => 0) zk)))), (sz + 13, .inl (cA, 2, .inl (fun zk => nI ((fun _ => 0) zk))))] H := hP
  have hD : va_D A [(a0, .inr (6, [.ref bl, .ref sz, .ref (sz + 3), .ref (sz + 6), .ref (sz + 7), .ref (sz + 10), .null])), (sz, .inr (4, [.ref (sz + 1), .ref (sz + 2), .int (nI 0)])), (sz + 1, .inl (cA, 16, .inl (fun zk => nI ((fun _ => 0) zk)))), (sz + 2, .inl (cA, 16, .inl (fun zk => nI ((fun _ => 0) zk)))), (sz + 3, .inr (4, [.ref (sz + 4), .ref (sz + 5), .int (nI 0)])), (sz + 4, .inl (cA, 16, .inl (fun zk => nI ((fun _ => 0) zk)))), (sz + 5, .inl (cA, 16, .inl (fun zk => nI ((fun _ => 0) zk)))), (sz + 6, .inl (cZ, 16, .inl (fun zk => zb ((fun _ => false) zk)))), (sz + 7, .inl (c2, 2, .inr (.inr (.inr (.inr (pr2 (sz + 8) (sz + 9))))))), (sz + 8, .inl (cA, 16, .inl (fun zk => nI ((fun _ => 0) zk)))), (sz + 9, .inl (cA, 16, .inl (fun zk => nI ((fun _ => 0) zk)))), (sz + 10, .inl (c2, 2, .inr (.inr (.inr (.inr (pr2 (sz + 11) (sz + 12))))))), (sz + 11, .inl (cA, 16, .inl (fun zk => nI ((fun _ => 0) zk)))), (sz + 12, .inl (cA, 16, .inl (fun zk => nI ((fun _ => 0) zk)))), (sz + 13, .inl (cA, 2, .inl (fun zk => nI ((fun _ => 0) zk))))] := hD
  refine va_putF (D := D) (ci := 6) (v := .ref (sz + 13)) (ty := (.array .int)) (C := R_PL) (T := F_PL) (N := 7) hx hb hts i_PL t_PL to_PL n_PL hown hK hP hD hS 0 rfl rfl 6 (by decide) (hts _ kf_PL_37) (fun _ h9 => h9) rfl hin rfl (by decide +kernel) rfl rfl (Nat.le_of_ble_eq_true rfl) d_PL_init_65 (fun H locs hP hD hS => ?_)
  have hP : va_P D classes [(a0, .inr (6, [.ref bl, .ref sz, .ref (sz + 3), .ref (sz + 6), .ref (sz + 7), .ref (sz + 10), .ref (sz + 13)])), (sz, .inr (4, [.ref (sz + 1), .ref (sz + 2), .int (nI 0)])), (sz + 1, .inl (cA, 16, .inl (fun zk => nI ((fun _ => 0) zk)))), (sz + 2, .inl (cA, 16, .inl (fun zk => nI ((fun _ => 0) zk)))), (sz + 3, .inr (4, [.ref (sz + 4), .ref (sz + 5), .int (nI 0)])), (sz + 4, .inl (cA, 16, .inl (fun zk => nI ((fun _ => 0) zk)))), (sz + 5, .inl (cA, 16, .inl (fun zk => nI ((fun _ => 0) zk)))), (sz + 6, .inl (cZ, 16, .inl (fun zk => zb ((fun _ => false) zk)))), (sz + 7, .inl (c2, 2, .inr (.inr (.inr (.inr (pr2 (sz + 8) (sz + 9))))))), (sz + 8, .inl (cA, 16, .inl (fun zk => nI ((fun _ => 0) zk)))), (sz + 9, .inl (cA, 16, .inl (fun zk => nI ((fun _ => 0) zk)))), (sz + 10, .inl (c2, 2, .inr (.inr (.inr (.inr (pr2 (sz + 11) (sz + 12))))))), (sz + 11, .inl (cA, 16, .inl (fun zk => nI ((fun _ => 0) zk)))), (sz + 12, .inl (cA, 16, .inl (fun zk => nI ((fun _ => 0) zk)))), (sz + 13, .inl (cA, 2, .inl (fun zk => nI ((fun _ => 0) zk))))] H := hP
  have hD : va_D A [(a0, .inr (6, [.ref bl, .ref sz, .ref (sz + 3), .ref (sz + 6), .ref (sz + 7), .ref (sz + 10), .ref (sz + 13)])), (sz, .inr (4, [.ref (sz + 1), .ref (sz + 2), .int (nI 0)])), (sz + 1, .inl (cA, 16, .inl (fun zk => nI ((fun _ => 0) zk)))), (sz + 2, .inl (cA, 16, .inl (fun zk => nI ((fun _ => 0) zk)))), (sz + 3, .inr (4, [.ref (sz + 4), .ref (sz + 5), .int (nI 0)])), (sz + 4, .inl (cA, 16, .inl (fun zk => nI ((fun _ => 0) zk)))), (sz + 5, .inl (cA, 16, .inl (fun zk => nI ((fun _ => 0) zk)))), (sz + 6, .inl (cZ, 16, .inl (fun zk => zb ((fun _ => false) zk)))), (sz + 7, .inl (c2, 2, .inr (.inr (.inr (.inr (pr2 (sz + 8) (sz + 9))))))), (sz + 8, .inl (cA, 16, .inl (fun zk => nI ((fun _ => 0) zk)))), (sz + 9, .inl (cA, 16, .inl (fun zk => nI ((fun _ => 0) zk)))), (sz + 10, .inl (c2, 2, .inr (.inr (.inr (.inr (pr2 (sz + 11) (sz + 12))))))), (sz + 11, .inl (cA, 16, .inl (fun zk => nI ((fun _ => 0) zk)))), (sz + 12, .inl (cA, 16, .inl (fun zk => nI ((fun _ => 0) zk)))), (sz + 13, .inl (cA, 2, .inl (fun zk => nI ((fun _ => 0) zk))))] := hD
  refine W.widen (k := 14) (n := 156) (by omega) (by omega) ?_
  exact W.vret hx hb hr (fun t ht hW => ⟨rfl, ⟨by rw [ht]; exact hP, va_K.moved hW.alike hK, hD⟩, hS.F ht⟩) hS.2.2 d_PL_init_68
set_option maxHeartbeats 4000000 in
set_option maxRecDepth 100000 in
/-- new Draws(z) -/
theorem c_DR_init (l : Launch) (D : va_G) (sz : Nat) (a0 : Nat) (z : Int64)  : Met l y_DR_init (wsA y_DR_init b_DR_init 3 none) ({ frames := 1, cells := 0, slots := 0, locals := 24 } : Room) (zPF zF0 D [] [(a0, .inr (2, [.long (lN 0)]))] [.ref a0, .long z] sz) (zQ none (zB D [] (va_A [(a0, .inr (2, [.long (lN 0)]))] sz) [(a0, .inr (2, [.long z]))]) (va_A [(a0, .inr (2, [.long (lN 0)]))] sz)) 0 0 (va_A [(a0, .inr (2, [.long (lN 0)]))] sz) := by
  refine Met.ofW (cc := b_DR_init) (maxL := 3) (ret := none) (by decide) rfl ?_
  intro p e s m args below meth c s₁ Bd hml hv
  obtain ⟨rfl, hsz, hP, hK, hD0, hF⟩ := hv
  have hx := Bd.exec
  have hb := Bd.bytes
  have hr := Bd.returns
  have hts : ∀ w ∈ lw_g, w.before _ s = true := fun w h => atoms_spec (ws := wsA y_DR_init b_DR_init 3 none) Bd.pre w (List.mem_cons_of_mem _ h)
  have hown : s.vm.findClass R_DR = some m.cls := findClass_of_methodNamed Bd.named
  have hlocks := Bd.notSynchronized
  have hin : meth.name = "<init>" := (name_of_methodNamed Bd.named Bd.method).1
  obtain ⟨hD, hA, hS⟩ := z_start hsz hD0
  generalize va_A [(a0, .inr (2, [.long (lN 0)]))] sz = A at hD hA hS hF ⊢
  have hl := lv_entry ([.ref a0, .long z]) (n := 3) (Nat.le_of_ble_eq_true rfl)
  rw [lg_entry_eq]
  generalize (lg_sl ([.ref a0, .long z]) ++ List.replicate (3 - (lg_sl ([.ref a0, .long z])).length) Slot.unset).toArray = ls at hl ⊢
  have hl : lv_has ls 3 [(0, .ref a0), (1, .long z)] := hl
  have hP : va_P D classes [(a0, .inr (2, [.long (lN 0)]))] s.heap := hP
  refine lv_aload_n hx hb d_DR_init_0 rfl (lv_at hl 0 rfl) ?_
  refine W.objInit hx hb hown (hts _ km_DR_1) (hts _ ki_obj) (hts _ kd_obj) rfl (by rw [hml]; exact hl.1) rfl d_DR_init_1 (Nat.le_of_ble_eq_true rfl) (Nat.le_of_ble_eq_true rfl) ?_
  refine lv_aload_n hx hb d_DR_init_4 rfl (lv_at hl 0 rfl) ?_
  refine lv_lload_n hx hb d_DR_init_5 rfl (lv_at hl 1 rfl) ?_
  refine va_put (D := D) (ci := 2) (v := .long z) (ty := .long) (C := R_DR) (T := F_DR) (N := 1) hx hb hts i_DR t_DR to_DR n_DR hown hK hP hD hS 0 rfl rfl 0 (by decide) (hts _ kf_DR_7) (fun _ h9 => h9) rfl (by decide +kernel) rfl rfl (Nat.le_of_ble_eq_true rfl) d_DR_init_6 (fun H locs hP hD hS => ?_)
  have hP : va_P D classes [(a0, .inr (2, [.long z]))] H := hP
  have hD : va_D A [(a0, .inr (2, [.long z]))] := hD
  refine W.widen (k := 0) (n := 0) (by omega) (by omega) ?_
  exact W.vret hx hb hr (fun t ht hW => ⟨rfl, ⟨by rw [ht]; exact hP, va_K.moved hW.alike hK, hD⟩, hS.F ht⟩) hS.2.2 d_DR_init_9
set_option maxHeartbeats 4000000 in
set_option maxRecDepth 100000 in
/-- new Search(..) -/
theorem c_SE_init (l : Launch) (D : va_G) (sz : Nat) (a0 kp ah nt dr : Nat)  : Met l y_SE_init (wsA y_SE_init b_SE_init 5 none) ({ frames := 1, cells := 0, slots := 0, locals := 24 } : Room) (zPF zF0 D [] [(a0, .inr (7, [.null, .null, .null, .null, .long (lN 0), .long (lN 0)]))] [.ref a0, .ref kp, .ref ah, .ref nt, .ref dr] sz) (zQ none (zB D [] (va_A [(a0, .inr (7, [.null, .null, .null, .null, .long (lN 0), .long (lN 0)]))] sz) [(a0, .inr (7, [.ref kp, .ref ah, .ref nt, .ref dr, .long (lN 0), .long (lN 0)]))]) (va_A [(a0, .inr (7, [.null, .null, .null, .null, .long (lN 0), .long (lN 0)]))] sz)) 0 0 (va_A [(a0, .inr (7, [.null, .null, .null, .null, .long (lN 0), .long (lN 0)]))] sz) := by
  refine Met.ofW (cc := b_SE_init) (maxL := 5) (ret := none) (by decide) rfl ?_
  intro p e s m args below meth c s₁ Bd hml hv
  obtain ⟨rfl, hsz, hP, hK, hD0, hF⟩ := hv
  have hx := Bd.exec
  have hb := Bd.bytes
  have hr := Bd.returns
  have hts : ∀ w ∈ lw_g, w.before _ s = true := fun w h => atoms_spec (ws := wsA y_SE_init b_SE_init 5 none) Bd.pre w (List.mem_cons_of_mem _ h)
  have hown : s.vm.findClass R_SE = some m.cls := findClass_of_methodNamed Bd.named
  have hlocks := Bd.notSynchronized
  have hin : meth.name = "<init>" := (name_of_methodNamed Bd.named Bd.method).1
  obtain ⟨hD, hA, hS⟩ := z_start hsz hD0
  generalize va_A [(a0, .inr (7, [.null, .null, .null, .null, .long (lN 0), .long (lN 0)]))] sz = A at hD hA hS hF ⊢
  have hl := lv_entry ([.ref a0, .ref kp, .ref ah, .ref nt, .ref dr]) (n := 5) (Nat.le_of_ble_eq_true rfl)
  rw [lg_entry_eq]
  generalize (lg_sl ([.ref a0, .ref kp, .ref ah, .ref nt, .ref dr]) ++ List.replicate (5 - (lg_sl ([.ref a0, .ref kp, .ref ah, .ref nt, .ref dr])).length) Slot.unset).toArray = ls at hl ⊢
  have hl : lv_has ls 5 [(0, .ref a0), (1, .ref kp), (2, .ref ah), (3, .ref nt), (4, .ref dr)] := hl
  have hP : va_P D classes [(a0, .inr (7, [.null, .null, .null, .null, .long (lN 0), .long (lN 0)]))] s.heap := hP
  refine lv_aload_n hx hb d_SE_init_0 rfl (lv_at hl 0 rfl) ?_
  refine W.objInit hx hb hown (hts _ km_SE_1) (hts _ ki_obj) (hts _ kd_obj) rfl (by rw [hml]; exact hl.1) rfl d_SE_init_1 (Nat.le_of_ble_eq_true rfl) (Nat.le_of_ble_eq_true rfl) ?_
  refine lv_aload_n hx hb d_SE_init_4 rfl (lv_at hl 0 rfl) ?_
  refine lv_aload_n hx hb d_SE_init_5 rfl (lv_at hl 1 rfl) ?_
  refine va_putF (D := D) (ci := 7) (v := .ref kp) (ty := (.object "SliceBlocks$Plan")) (C := R_SE) (T := F_SE) (N := 6) hx hb hts i_SE t_SE to_SE n_SE hown hK hP hD hS 0 rfl rfl 0 (by decide) (hts _ kf_SE_7) (fun _ h9 => h9) rfl hin rfl (by decide +kernel) rfl rfl (Nat.le_of_ble_eq_true rfl) d_SE_init_6 (fun H locs hP hD hS => ?_)
  have hP : va_P D classes [(a0, .inr (7, [.ref kp, .null, .null, .null, .long (lN 0), .long (lN 0)]))] H := hP
  have hD : va_D A [(a0, .inr (7, [.ref kp, .null, .null, .null, .long (lN 0), .long (lN 0)]))] := hD
  refine lv_aload_n hx hb d_SE_init_9 rfl (lv_at hl 0 rfl) ?_
  refine lv_aload_n hx hb d_SE_init_10 rfl (lv_at hl 2 rfl) ?_
  refine va_putF (D := D) (ci := 7) (v := .ref ah) (ty := (.object "SliceBlocks$Plan")) (C := R_SE) (T := F_SE) (N := 6) hx hb hts i_SE t_SE to_SE n_SE hown hK hP hD hS 0 rfl rfl 1 (by decide) (hts _ kf_SE_13) (fun _ h9 => h9) rfl hin rfl (by decide +kernel) rfl rfl (Nat.le_of_ble_eq_true rfl) d_SE_init_11 (fun H locs hP hD hS => ?_)
  have hP : va_P D classes [(a0, .inr (7, [.ref kp, .ref ah, .null, .null, .long (lN 0), .long (lN 0)]))] H := hP
  have hD : va_D A [(a0, .inr (7, [.ref kp, .ref ah, .null, .null, .long (lN 0), .long (lN 0)]))] := hD
  refine lv_aload_n hx hb d_SE_init_14 rfl (lv_at hl 0 rfl) ?_
  refine lv_aload_n hx hb d_SE_init_15 rfl (lv_at hl 3 rfl) ?_
  refine va_putF (D := D) (ci := 7) (v := .ref nt) (ty := (.object "SliceBlocks$Nets")) (C := R_SE) (T := F_SE) (N := 6) hx hb hts i_SE t_SE to_SE n_SE hown hK hP hD hS 0 rfl rfl 2 (by decide) (hts _ kf_SE_16) (fun _ h9 => h9) rfl hin rfl (by decide +kernel) rfl rfl (Nat.le_of_ble_eq_true rfl) d_SE_init_16 (fun H locs hP hD hS => ?_)
  have hP : va_P D classes [(a0, .inr (7, [.ref kp, .ref ah, .ref nt, .null, .long (lN 0), .long (lN 0)]))] H := hP
  have hD : va_D A [(a0, .inr (7, [.ref kp, .ref ah, .ref nt, .null, .long (lN 0), .long (lN 0)]))] := hD
  refine lv_aload_n hx hb d_SE_init_19 rfl (lv_at hl 0 rfl) ?_
  refine lv_aload hx hb d_SE_init_20 (lv_at hl 4 rfl) ?_
  refine va_putF (D := D) (ci := 7) (v := .ref dr) (ty := (.object "SliceBlocks$Draws")) (C := R_SE) (T := F_SE) (N := 6) hx hb hts i_SE t_SE to_SE n_SE hown hK hP hD hS 0 rfl rfl 3 (by decide) (hts _ kf_SE_20) (fun _ h9 => h9) rfl hin rfl (by decide +kernel) rfl rfl (Nat.le_of_ble_eq_true rfl) d_SE_init_22 (fun H locs hP hD hS => ?_)
  have hP : va_P D classes [(a0, .inr (7, [.ref kp, .ref ah, .ref nt, .ref dr, .long (lN 0), .long (lN 0)]))] H := hP
  have hD : va_D A [(a0, .inr (7, [.ref kp, .ref ah, .ref nt, .ref dr, .long (lN 0), .long (lN 0)]))] := hD
  refine lv_aload_n hx hb d_SE_init_25 rfl (lv_at hl 0 rfl) ?_
  refine lv_lconst (v := lN 0) hx hb d_SE_init_26 (by decide) ?_
  refine va_put (D := D) (ci := 7) (v := .long (lN 0)) (ty := .long) (C := R_SE) (T := F_SE) (N := 6) hx hb hts i_SE t_SE to_SE n_SE hown hK hP hD hS 0 rfl rfl 4 (by decide) (hts _ kf_SE_24) (fun _ h9 => h9) rfl (by decide +kernel) rfl rfl (Nat.le_of_ble_eq_true rfl) d_SE_init_27 (fun H locs hP hD hS => ?_)
  have hP : va_P D classes [(a0, .inr (7, [.ref kp, .ref ah, .ref nt, .ref dr, .long (lN 0), .long (lN 0)]))] H := hP
  have hD : va_D A [(a0, .inr (7, [.ref kp, .ref ah, .ref nt, .ref dr, .long (lN 0), .long (lN 0)]))] := hD
  refine lv_aload_n hx hb d_SE_init_30 rfl (lv_at hl 0 rfl) ?_
  refine lv_lconst (v := lN 0) hx hb d_SE_init_31 (by decide) ?_
  refine va_put (D := D) (ci := 7) (v := .long (lN 0)) (ty := .long) (C := R_SE) (T := F_SE) (N := 6) hx hb hts i_SE t_SE to_SE n_SE hown hK hP hD hS 0 rfl rfl 5 (by decide) (hts _ kf_SE_28) (fun _ h9 => h9) rfl (by decide +kernel) rfl rfl (Nat.le_of_ble_eq_true rfl) d_SE_init_32 (fun H locs hP hD hS => ?_)
  have hP : va_P D classes [(a0, .inr (7, [.ref kp, .ref ah, .ref nt, .ref dr, .long (lN 0), .long (lN 0)]))] H := hP
  have hD : va_D A [(a0, .inr (7, [.ref kp, .ref ah, .ref nt, .ref dr, .long (lN 0), .long (lN 0)]))] := hD
  refine W.widen (k := 0) (n := 0) (by omega) (by omega) ?_
  exact W.vret hx hb hr (fun t ht hW => ⟨rfl, ⟨by rw [ht]; exact hP, va_K.moved hW.alike hK, hD⟩, hS.F ht⟩) hS.2.2 d_SE_init_35
set_option maxHeartbeats 4000000 in
set_option maxRecDepth 100000 in
/-- new Pins(plan, nets) -/
theorem c_PI_init (l : Launch) (D : va_G) (sz : Nat) (a0 pl nt : Nat) (cA cZ c2 : ClassId)  : Met l y_PI_init (wsA y_PI_init b_PI_init 3 none) ({ frames := 1, cells := 21, slots := 794, locals := 24 } : Room) (zPF zT3 D [(cA, .int), (cZ, .boolean), (c2, .array .int)] [(a0, .inr (5, [.null, .null, .null, .null, .null, .null, .int (nI 0)]))] [.ref a0, .ref pl, .ref nt] sz) (zQ none (zB D [(cA, .int), (cZ, .boolean), (c2, .array .int)] (va_A [(a0, .inr (5, [.null, .null, .null, .null, .null, .null, .int (nI 0)]))] sz) [(a0, .inr (5, [.ref pl, .ref nt, .ref sz, .ref (sz + 1), .ref (sz + 2), .ref (sz + 11), .int (nI 0)])), (sz, .inl (cA, 8, .inl (fun zk => nI ((fun _ => 0) zk)))), (sz + 1, .inl (cA, 8, .inl (fun zk => nI ((fun _ => 0) zk)))), (sz + 2, .inl (c2, 8, .inr (.inr (.inr (.inr (fun zk => some (sz + 3 + zk))))))), (sz + 3, .inl (cA, 4, .inl (fun zk => nI ((fun _ => 0) zk)))), (sz + 4, .inl (cA, 4, .inl (fun zk => nI ((fun _ => 0) zk)))), (sz + 5, .inl (cA, 4, .inl (fun zk => nI ((fun _ => 0) zk)))), (sz + 6, .inl (cA, 4, .inl (fun zk => nI ((fun _ => 0) zk)))), (sz + 7, .inl (cA, 4, .inl (fun zk => nI ((fun _ => 0) zk)))), (sz + 8, .inl (cA, 4, .inl (fun zk => nI ((fun _ => 0) zk)))), (sz + 9, .inl (cA, 4, .inl (fun zk => nI ((fun _ => 0) zk)))), (sz + 10, .inl (cA, 4, .inl (fun zk => nI ((fun _ => 0) zk)))), (sz + 11, .inl (c2, 9, .inr (.inr (.inr (.inr (fun zk => some (sz + 12 + zk))))))), (sz + 12, .inl (cA, 81, .inl (fun zk => nI ((fun _ => 0) zk)))), (sz + 13, .inl (cA, 81, .inl (fun zk => nI ((fun _ => 0) zk)))), (sz + 14, .inl (cA, 81, .inl (fun zk => nI ((fun _ => 0) zk)))), (sz + 15, .inl (cA, 81, .inl (fun zk => nI ((fun _ => 0) zk)))), (sz + 16, .inl (cA, 81, .inl (fun zk => nI ((fun _ => 0) zk)))), (sz + 17, .inl (cA, 81, .inl (fun zk => nI ((fun _ => 0) zk)))), (sz + 18, .inl (cA, 81, .inl (fun zk => nI ((fun _ => 0) zk)))), (sz + 19, .inl (cA, 81, .inl (fun zk => nI ((fun _ => 0) zk)))), (sz + 20, .inl (cA, 81, .inl (fun zk => nI ((fun _ => 0) zk))))]) (va_A [(a0, .inr (5, [.null, .null, .null, .null, .null, .null, .int (nI 0)]))] sz)) 21 794 (va_A [(a0, .inr (5, [.null, .null, .null, .null, .null, .null, .int (nI 0)]))] sz) := by
  refine Met.ofW (cc := b_PI_init) (maxL := 3) (ret := none) (by decide) rfl ?_
  intro p e s m args below meth c s₁ Bd hml hv
  obtain ⟨rfl, hsz, hP, hK, hD0, hF⟩ := hv
  have hx := Bd.exec
  have hb := Bd.bytes
  have hr := Bd.returns
  have hts : ∀ w ∈ lw_g, w.before _ s = true := fun w h => atoms_spec (ws := wsA y_PI_init b_PI_init 3 none) Bd.pre w (List.mem_cons_of_mem _ h)
  have hown : s.vm.findClass R_PI = some m.cls := findClass_of_methodNamed Bd.named
  have hlocks := Bd.notSynchronized
  have hin : meth.name = "<init>" := (name_of_methodNamed Bd.named Bd.method).1
  obtain ⟨hD, hA, hS⟩ := z_start hsz hD0
  generalize va_A [(a0, .inr (5, [.null, .null, .null, .null, .null, .null, .int (nI 0)]))] sz = A at hD hA hS hF ⊢
  have hl := lv_entry ([.ref a0, .ref pl, .ref nt]) (n := 3) (Nat.le_of_ble_eq_true rfl)
  rw [lg_entry_eq]
  generalize (lg_sl ([.ref a0, .ref pl, .ref nt]) ++ List.replicate (3 - (lg_sl ([.ref a0, .ref pl, .ref nt])).length) Slot.unset).toArray = ls at hl ⊢
  have hl : lv_has ls 3 [(0, .ref a0), (1, .ref pl), (2, .ref nt)] := hl
  have hP : va_P D classes [(a0, .inr (5, [.null, .null, .null, .null, .null, .null, .int (nI 0)]))] s.heap := hP
  refine lv_aload_n hx hb d_PI_init_0 rfl (lv_at hl 0 rfl) ?_
  refine W.objInit hx hb hown (hts _ km_PI_3) (hts _ ki_obj) (hts _ kd_obj) rfl (by rw [hml]; exact hl.1) rfl d_PI_init_1 (Nat.le_of_ble_eq_true rfl) (Nat.le_of_ble_eq_true rfl) ?_
  refine lv_aload_n hx hb d_PI_init_4 rfl (lv_at hl 0 rfl) ?_
  refine lv_aload_n hx hb d_PI_init_5 rfl (lv_at hl 1 rfl) ?_
  refine va_putF (D := D) (ci := 5) (v := .ref pl) (ty := (.object "SliceBlocks$Plan")) (C := R_PI) (T := F_PI) (N := 7) hx hb hts i_PI t_PI to_PI n_PI hown hK hP hD hS 0 rfl rfl 0 (by decide) (hts _ kf_PI_9) (fun _ h9 => h9) rfl hin rfl (by decide +kernel) rfl rfl (Nat.le_of_ble_eq_true rfl) d_PI_init_6 (fun H locs hP hD hS => ?_)
  have hP : va_P D classes [(a0, .inr (5, [.ref pl, .null, .null, .null, .null, .null, .int (nI 0)]))] H := hP
  have hD : va_D A [(a0, .inr (5, [.ref pl, .null, .null, .null, .null, .null, .int (nI 0)]))] := hD
  refine lv_aload_n hx hb d_PI_init_9 rfl (lv_at hl 0 rfl) ?_
  refine lv_aload_n hx hb d_PI_init_10 rfl (lv_at hl 2 rfl) ?_
  refine va_putF (D := D) (ci := 5) (v := .ref nt) (ty := (.object "SliceBlocks$Nets")) (C := R_PI) (T := F_PI) (N := 7) hx hb hts i_PI t_PI to_PI n_PI hown hK hP hD hS 0 rfl rfl 1 (by decide) (hts _ kf_PI_15) (fun _ h9 => h9) rfl hin rfl (by decide +kernel) rfl rfl (Nat.le_of_ble_eq_true rfl) d_PI_init_11 (fun H locs hP hD hS => ?_)
  have hP : va_P D classes [(a0, .inr (5, [.ref pl, .ref nt, .null, .null, .null, .null, .int (nI 0)]))] H := hP
  have hD : va_D A [(a0, .inr (5, [.ref pl, .ref nt, .null, .null, .null, .null, .int (nI 0)]))] := hD
  refine lv_aload_n hx hb d_PI_init_14 rfl (lv_at hl 0 rfl) ?_
  refine lv_bipush (v := nI 8) hx hb d_PI_init_15 (by decide) ?_
  refine zsz (fun hub => ?_)
  have hz : H.size = sz := by have hlo := hS.1; omega
  refine z_newa (ty := .int) (cA := cA) (N' := 8) (a0 := (8, .inl (fun zk => nI ((fun _ => 0) zk)))) hx hb rfl (hts _ ka_60) (hK.2 0 _ rfl).2 hP hD hS hA (vp_zn 8) (nI_n0 (by decide)) (nI_clamp (by decide)) (by decide) (by show 0 + 1 ≤ 21; omega) (by show 0 + 8 ≤ 794; omega) hz d_PI_init_17 (fun H hP hD hS => ?_)
  have hP : va_P D classes [(a0, .inr (5, [.ref pl, .ref nt, .null, .null, .null, .null, .int (nI 0)])), (sz, .inl (cA, 8, .inl (fun zk => nI ((fun _ => 0) zk))))] H := hP
  have hD : va_D A [(a0, .inr (5, [.ref pl, .ref nt, .null, .null, .null, .null, .int (nI 0)])), (sz, .inl (cA, 8, .inl (fun zk => nI ((fun _ => 0) zk))))] := hD
  refine va_putF (D := D) (ci := 5) (v := .ref sz) (ty := (.array .int)) (C := R_PI) (T := F_PI) (N := 7) hx hb hts i_PI t_PI to_PI n_PI hown hK hP hD hS 0 rfl rfl 2 (by decide) (hts _ kf_PI_19) (fun _ h9 => h9) rfl hin rfl (by decide +kernel) rfl rfl (Nat.le_of_ble_eq_true rfl) d_PI_init_19 (fun H locs hP hD hS => ?_)
  have hP : va_P D classes [(a0, .inr (5, [.ref pl, .ref nt, .ref sz, .null, .null, .null, .int (nI 0)])), (sz, .inl (cA, 8, .inl (fun zk => nI ((fun _ => 0) zk))))] H := hP
  have hD : va_D A [(a0, .inr (5, [.ref pl, .ref nt, .ref sz, .null, .null, .null, .int (nI 0)])), (sz, .inl (cA, 8, .inl (fun zk => nI ((fun _ => 0) zk))))] := hD
  refine lv_aload_n hx hb d_PI_init_22 rfl (lv_at hl 0 rfl) ?_
  refine lv_bipush (v := nI 8) hx hb d_PI_init_23 (by decide) ?_
  refine zsz (fun hub => ?_)
  have hz : H.size = sz + 1 := by have hlo : sz < H.size := (hP 1 _ rfl).lt; omega
  refine z_newa (ty := .int) (cA := cA) (N' := 8) (a0 := (8, .inl (fun zk => nI ((fun _ => 0) zk)))) hx hb rfl (hts _ ka_60) (hK.2 0 _ rfl).2 hP hD hS hA (vp_zn 8) (nI_n0 (by decide)) (nI_clamp (by decide)) (by decide) (by show 0 + 1 + 1 ≤ 21; omega) (by show 0 + 8 + 8 ≤ 794; omega) hz d_PI_init_25 (fun H hP hD hS => ?_)
  have hP : va_P D classes [(a0, .inr (5, [.ref pl, .ref nt, .ref sz, .null, .null, .null, .int (nI 0)])), (sz, .inl (cA, 8, .inl (fun zk => nI ((fun _ => 0) zk)))), (sz + 1, .inl (cA, 8, .inl (fun zk => nI ((fun _ => 0) zk))))] H := hP
  have hD : va_D A [(a0, .inr (5, [.ref pl, .ref nt, .ref sz, .null, .null, .null, .int (nI 0)])), (sz, .inl (cA, 8, .inl (fun zk => nI ((fun _ => 0) zk)))), (sz + 1, .inl (cA, 8, .inl (fun zk => nI ((fun _ => 0) zk))))] := hD
  refine va_putF (D := D) (ci := 5) (v := .ref (sz + 1)) (ty := (.array .int)) (C := R_PI) (T := F_PI) (N := 7) hx hb hts i_PI t_PI to_PI n_PI hown hK hP hD hS 0 rfl rfl 3 (by decide) (hts _ kf_PI_23) (fun _ h9 => h9) rfl hin rfl (by decide +kernel) rfl rfl (Nat.le_of_ble_eq_true rfl) d_PI_init_27 (fun H locs hP hD hS => ?_)
  have hP : va_P D classes [(a0, .inr (5, [.ref pl, .ref nt, .ref sz, .ref (sz + 1), .null, .null, .int (nI 0)])), (sz, .inl (cA, 8, .inl (fun zk => nI ((fun _ => 0) zk)))), (sz + 1, .inl (cA, 8, .inl (fun zk => nI ((fun _ => 0) zk))))] H := hP
  have hD : va_D A [(a0, .inr (5, [.ref pl, .ref nt, .ref sz, .ref (sz + 1), .null, .null, .int (nI 0)])), (sz, .inl (cA, 8, .inl (fun zk => nI ((fun _ => 0) zk)))), (sz + 1, .inl (cA, 8, .inl (fun zk => nI ((fun _ => 0) zk))))] := hD
  refine lv_aload_n hx hb d_PI_init_30 rfl (lv_at hl 0 rfl) ?_
  refine lv_bipush (v := nI 8) hx hb d_PI_init_31 (by decide) ?_
  refine lv_iconst (v := nI 4) hx hb d_PI_init_33 (by decide) ?_
  refine zsz (fun hub => ?_)
  have hz : H.size = sz + 2 := by have hlo : sz + 1 < H.size := (hP 2 _ rfl).lt; omega
  refine z_multi (own := R_PI) (cA := cA) (c2 := c2) (n := 8) (k := 4) (g := (fun zk => some (sz + 3 + zk))) hx hb hown (hts _ kc_PI_26) hF.2 (hts _ ka_60) (hK.2 0 _ rfl).2 (hK.2 2 _ rfl).2 hP hD hS hA (fun j hj => rfl) (by decide) (by decide) (by show 0 + 1 + 1 + (1 + 8) ≤ 21; omega) (by show 0 + 8 + 8 + (8 + 8 * 4) ≤ 794; omega) hz d_PI_init_34 (fun H hP hD hS => ?_)
  have hP : va_P D classes [(a0, .inr (5, [.ref pl, .ref nt, .ref sz, .ref (sz + 1), .null, .null, .int (nI 0)])), (sz, .inl (cA, 8, .inl (fun zk => nI ((fun _ => 0) zk)))), (sz + 1, .inl (cA, 8, .inl (fun zk => nI ((fun _ => 0) zk)))), (sz + 2, .inl (c2, 8, .inr (.inr (.inr (.inr (fun zk => some (sz + 3 + zk))))))), (sz + 3, .inl (cA, 4, .inl (fun zk => nI ((fun _ => 0) zk)))), (sz + 4, .inl (cA, 4, .inl (fun zk => nI ((fun _ => 0) zk)))), (sz + 5, .inl (cA, 4, .inl (fun zk => nI ((fun _ => 0) zk)))), (sz + 6, .inl (cA, 4, .inl (fun zk => nI ((fun _ => 0) zk)))), (sz + 7, .inl (cA, 4, .inl (fun zk => nI ((fun _ => 0) zk)))), (sz + 8, .inl (cA, 4, .inl (fun zk => nI ((fun _ => 0) zk)))), (sz + 9, .inl (cA, 4, .inl (fun zk => nI ((fun _ => 0) zk)))), (sz + 10, .inl (cA, 4, .inl (fun zk => nI ((fun _ => 0) zk))))] H := hP
  have hD : va_D A [(a0, .inr (5, [.ref pl, .ref nt, .ref sz, .ref (sz + 1), .null, .null, .int (nI 0)])), (sz, .inl (cA, 8, .inl (fun zk => nI ((fun _ => 0) zk)))), (sz + 1, .inl (cA, 8, .inl (fun zk => nI ((fun _ => 0) zk)))), (sz + 2, .inl (c2, 8, .inr (.inr (.inr (.inr (fun zk => some (sz + 3 + zk))))))), (sz + 3, .inl (cA, 4, .inl (fun zk => nI ((fun _ => 0) zk)))), (sz + 4, .inl (cA, 4, .inl (fun zk => nI ((fun _ => 0) zk)))), (sz + 5, .inl (cA, 4, .inl (fun zk => nI ((fun _ => 0) zk)))), (sz + 6, .inl (cA, 4, .inl (fun zk => nI ((fun _ => 0) zk)))), (sz + 7, .inl (cA, 4, .inl (fun zk => nI ((fun _ => 0) zk)))), (sz + 8, .inl (cA, 4, .inl (fun zk => nI ((fun _ => 0) zk)))), (sz + 9, .inl (cA, 4, .inl (fun zk => nI ((fun _ => 0) zk)))), (sz + 10, .inl (cA, 4, .inl (fun zk => nI ((fun _ => 0) zk))))] := hD
  refine va_putF (D := D) (ci := 5) (v := .ref (sz + 2)) (ty := (.array (.array .int))) (C := R_PI) (T := F_PI) (N := 7) hx hb hts i_PI t_PI to_PI n_PI hown hK hP hD hS 0 rfl rfl 4 (by decide) (hts _ kf_PI_28) (fun _ h9 => h9) rfl hin rfl (by decide +kernel) rfl rfl (Nat.le_of_ble_eq_true rfl) d_PI_init_38 (fun H locs hP hD hS => ?_)
  have hP : va_P D classes [(a0, .inr (5, [.ref pl, .ref nt, .ref sz, .ref (sz + 1), .ref (sz + 2), .null, .int (nI 0)])), (sz, .inl (cA, 8, .inl (fun zk => nI ((fun _ => 0) zk)))), (sz + 1, .inl (cA, 8, .inl (fun zk => nI ((fun _ => 0) zk)))), (sz + 2, .inl (c2, 8, .inr (.inr (.inr (.inr (fun zk => some (sz + 3 + zk))))))), (sz + 3, .inl (cA, 4, .inl (fun zk => nI ((fun _ => 0) zk)))), (sz + 4, .inl (cA, 4, .inl (fun zk => nI ((fun _ => 0) zk)))), (sz + 5, .inl (cA, 4, .inl (fun zk => nI ((fun _ => 0) zk)))), (sz + 6, .inl (cA, 4, .inl (fun zk => nI ((fun _ => 0) zk)))), (sz + 7, .inl (cA, 4, .inl (fun zk => nI ((fun _ => 0) zk)))), (sz + 8, .inl (cA, 4, .inl (fun zk => nI ((fun _ => 0) zk)))), (sz + 9, .inl (cA, 4, .inl (fun zk => nI ((fun _ => 0) zk)))), (sz + 10, .inl (cA, 4, .inl (fun zk => nI ((fun _ => 0) zk))))] H := hP
  have hD : va_D A [(a0, .inr (5, [.ref pl, .ref nt, .ref sz, .ref (sz + 1), .ref (sz + 2), .null, .int (nI 0)])), (sz, .inl (cA, 8, .inl (fun zk => nI ((fun _ => 0) zk)))), (sz + 1, .inl (cA, 8, .inl (fun zk => nI ((fun _ => 0) zk)))), (sz + 2, .inl (c2, 8, .inr (.inr (.inr (.inr (fun zk => some (sz + 3 + zk))))))), (sz + 3, .inl (cA, 4, .inl (fun zk => nI ((fun _ => 0) zk)))), (sz + 4, .inl (cA, 4, .inl (fun zk => nI ((fun _ => 0) zk)))), (sz + 5, .inl (cA, 4, .inl (fun zk => nI ((fun _ => 0) zk)))), (sz + 6, .inl (cA, 4, .inl (fun zk => nI ((fun _ => 0) zk)))), (sz + 7, .inl (cA, 4, .inl (fun zk => nI ((fun _ => 0) zk)))), (sz + 8, .inl (cA, 4, .inl (fun zk => nI ((fun _ => 0) zk)))), (sz + 9, .inl (cA, 4, .inl (fun zk => nI ((fun _ => 0) zk)))), (sz + 10, .inl (cA, 4, .inl (fun zk => nI ((fun _ => 0) zk))))] := hD
  refine lv_aload_n hx hb d_PI_init_41 rfl (lv_at hl 0 rfl) ?_
  refine lv_bipush (v := nI 9) hx hb d_PI_init_42 (by decide) ?_
  refine lv_bipush (v := nI 81) hx hb d_PI_init_44 (by decide) ?_
  refine zsz (fun hub => ?_)
  have hz : H.size = sz + 11 := by have hlo : sz + 10 < H.size := (hP 11 _ rfl).lt; omega
  refine z_multi (own := R_PI) (cA := cA) (c2 := c2) (n := 9) (k := 81) (g := (fun zk => some (sz + 12 + zk))) hx hb hown (hts _ kc_PI_26) hF.2 (hts _ ka_60) (hK.2 0 _ rfl).2 (hK.2 2 _ rfl).2 hP hD hS hA (fun j hj => rfl) (by decide) (by decide) (by show 0 + 1 + 1 + 1 + 8 + (1 + 9) ≤ 21; omega) (by show 0 + 8 + 8 + 8 + 8 * 4 + (9 + 9 * 81) ≤ 794; omega) hz d_PI_init_46 (fun H hP hD hS => ?_)
  have hP : va_P D classes [(a0, .inr (5, [.ref pl, .ref nt, .ref sz, .ref (sz + 1), .ref (sz + 2), .null, .int (nI 0)])), (sz, .inl (cA, 8, .inl (fun zk => nI ((fun _ => 0) zk)))), (sz + 1, .inl (cA, 8, .inl (fun zk => nI ((fun _ => 0) zk)))), (sz + 2, .inl (c2, 8, .inr (.inr (.inr (.inr (fun zk => some (sz + 3 + zk))))))), (sz + 3, .inl (cA, 4, .inl (fun zk => nI ((fun _ => 0) zk)))), (sz + 4, .inl (cA, 4, .inl (fun zk => nI ((fun _ => 0) zk)))), (sz + 5, .inl (cA, 4, .inl (fun zk => nI ((fun _ => 0) zk)))), (sz + 6, .inl (cA, 4, .inl (fun zk => nI ((fun _ => 0) zk)))), (sz + 7, .inl (cA, 4, .inl (fun zk => nI ((fun _ => 0) zk)))), (sz + 8, .inl (cA, 4, .inl (fun zk => nI ((fun _ => 0) zk)))), (sz + 9, .inl (cA, 4, .inl (fun zk => nI ((fun _ => 0) zk)))), (sz + 10, .inl (cA, 4, .inl (fun zk => nI ((fun _ => 0) zk)))), (sz + 11, .inl (c2, 9, .inr (.inr (.inr (.inr (fun zk => some (sz + 12 + zk))))))), (sz + 12, .inl (cA, 81, .inl (fun zk => nI ((fun _ => 0) zk)))), (sz + 13, .inl (cA, 81, .inl (fun zk => nI ((fun _ => 0) zk)))), (sz + 14, .inl (cA, 81, .inl (fun zk => nI ((fun _ => 0) zk)))), (sz + 15, .inl (cA, 81, .inl (fun zk => nI ((fun _ => 0) zk)))), (sz + 16, .inl (cA, 81, .inl (fun zk => nI ((fun _ => 0) zk)))), (sz + 17, .inl (cA, 81, .inl (fun zk => nI ((fun _ => 0) zk)))), (sz + 18, .inl (cA, 81, .inl (fun zk => nI ((fun _ => 0) zk)))), (sz + 19, .inl (cA, 81, .inl (fun zk => nI ((fun _ => 0) zk)))), (sz + 20, .inl (cA, 81, .inl (fun zk => nI ((fun _ => 0) zk))))] H := hP
  have hD : va_D A [(a0, .inr (5, [.ref pl, .ref nt, .ref sz, .ref (sz + 1), .ref (sz + 2), .null, .int (nI 0)])), (sz, .inl (cA, 8, .inl (fun zk => nI ((fun _ => 0) zk)))), (sz + 1, .inl (cA, 8, .inl (fun zk => nI ((fun _ => 0) zk)))), (sz + 2, .inl (c2, 8, .inr (.inr (.inr (.inr (fun zk => some (sz + 3 + zk))))))), (sz + 3, .inl (cA, 4, .inl (fun zk => nI ((fun _ => 0) zk)))), (sz + 4, .inl (cA, 4, .inl (fun zk => nI ((fun _ => 0) zk)))), (sz + 5, .inl (cA, 4, .inl (fun zk => nI ((fun _ => 0) zk)))), (sz + 6, .inl (cA, 4, .inl (fun zk => nI ((fun _ => 0) zk)))), (sz + 7, .inl (cA, 4, .inl (fun zk => nI ((fun _ => 0) zk)))), (sz + 8, .inl (cA, 4, .inl (fun zk => nI ((fun _ => 0) zk)))), (sz + 9, .inl (cA, 4, .inl (fun zk => nI ((fun _ => 0) zk)))), (sz + 10, .inl (cA, 4, .inl (fun zk => nI ((fun _ => 0) zk)))), (sz + 11, .inl (c2, 9, .inr (.inr (.inr (.inr (fun zk => some (sz + 12 + zk))))))), (sz + 12, .inl (cA, 81, .inl (fun zk => nI ((fun _ => 0) zk)))), (sz + 13, .inl (cA, 81, .inl (fun zk => nI ((fun _ => 0) zk)))), (sz + 14, .inl (cA, 81, .inl (fun zk => nI ((fun _ => 0) zk)))), (sz + 15, .inl (cA, 81, .inl (fun zk => nI ((fun _ => 0) zk)))), (sz + 16, .inl (cA, 81, .inl (fun zk => nI ((fun _ => 0) zk)))), (sz + 17, .inl (cA, 81, .inl (fun zk => nI ((fun _ => 0) zk)))), (sz + 18, .inl (cA, 81, .inl (fun zk => nI ((fun _ => 0) zk)))), (sz + 19, .inl (cA, 81, .inl (fun zk => nI ((fun _ => 0) zk)))), (sz + 20, .inl (cA, 81, .inl (fun zk => nI ((fun _ => 0) zk))))] := hD
  refine va_putF (D := D) (ci := 5) (v := .ref (sz + 11)) (ty := (.array (.array .int))) (C := R_PI) (T := F_PI) (N := 7) hx hb hts i_PI t_PI to_PI n_PI hown hK hP hD hS 0 rfl rfl 5 (by decide) (hts _ kf_PI_31) (fun _ h9 => h9) rfl hin rfl (by decide +kernel) rfl rfl (Nat.le_of_ble_eq_true rfl) d_PI_init_50 (fun H locs hP hD hS => ?_)
  have hP : va_P D classes [(a0, .inr (5, [.ref pl, .ref nt, .ref sz, .ref (sz + 1), .ref (sz + 2), .ref (sz + 11), .int (nI 0)])), (sz, .inl (cA, 8, .inl (fun zk => nI ((fun _ => 0) zk)))), (sz + 1, .inl (cA, 8, .inl (fun zk => nI ((fun _ => 0) zk)))), (sz + 2, .inl (c2, 8, .inr (.inr (.inr (.inr (fun zk => some (sz + 3 + zk))))))), (sz + 3, .inl (cA, 4, .inl (fun zk => nI ((fun _ => 0) zk)))), (sz + 4, .inl (cA, 4, .inl (fun zk => nI ((fun _ => 0) zk)))), (sz + 5, .inl (cA, 4, .inl (fun zk => nI ((fun _ => 0) zk)))), (sz + 6, .inl (cA, 4, .inl (fun zk => nI ((fun _ => 0) zk)))), (sz + 7, .inl (cA, 4, .inl (fun zk => nI ((fun _ => 0) zk)))), (sz + 8, .inl (cA, 4, .inl (fun zk => nI ((fun _ => 0) zk)))), (sz + 9, .inl (cA, 4, .inl (fun zk => nI ((fun _ => 0) zk)))), (sz + 10, .inl (cA, 4, .inl (fun zk => nI ((fun _ => 0) zk)))), (sz + 11, .inl (c2, 9, .inr (.inr (.inr (.inr (fun zk => some (sz + 12 + zk))))))), (sz + 12, .inl (cA, 81, .inl (fun zk => nI ((fun _ => 0) zk)))), (sz + 13, .inl (cA, 81, .inl (fun zk => nI ((fun _ => 0) zk)))), (sz + 14, .inl (cA, 81, .inl (fun zk => nI ((fun _ => 0) zk)))), (sz + 15, .inl (cA, 81, .inl (fun zk => nI ((fun _ => 0) zk)))), (sz + 16, .inl (cA, 81, .inl (fun zk => nI ((fun _ => 0) zk)))), (sz + 17, .inl (cA, 81, .inl (fun zk => nI ((fun _ => 0) zk)))), (sz + 18, .inl (cA, 81, .inl (fun zk => nI ((fun _ => 0) zk)))), (sz + 19, .inl (cA, 81, .inl (fun zk => nI ((fun _ => 0) zk)))), (sz + 20, .inl (cA, 81, .inl (fun zk => nI ((fun _ => 0) zk))))] H := hP
  have hD : va_D A [(a0, .inr (5, [.ref pl, .ref nt, .ref sz, .ref (sz + 1), .ref (sz + 2), .ref (sz + 11), .int (nI 0)])), (sz, .inl (cA, 8, .inl (fun zk => nI ((fun _ => 0) zk)))), (sz + 1, .inl (cA, 8, .inl (fun zk => nI ((fun _ => 0) zk)))), (sz + 2, .inl (c2, 8, .inr (.inr (.inr (.inr (fun zk => some (sz + 3 + zk))))))), (sz + 3, .inl (cA, 4, .inl (fun zk => nI ((fun _ => 0) zk)))), (sz + 4, .inl (cA, 4, .inl (fun zk => nI ((fun _ => 0) zk)))), (sz + 5, .inl (cA, 4, .inl (fun zk => nI ((fun _ => 0) zk)))), (sz + 6, .inl (cA, 4, .inl (fun zk => nI ((fun _ => 0) zk)))), (sz + 7, .inl (cA, 4, .inl (fun zk => nI ((fun _ => 0) zk)))), (sz + 8, .inl (cA, 4, .inl (fun zk => nI ((fun _ => 0) zk)))), (sz + 9, .inl (cA, 4, .inl (fun zk => nI ((fun _ => 0) zk)))), (sz + 10, .inl (cA, 4, .inl (fun zk => nI ((fun _ => 0) zk)))), (sz + 11, .inl (c2, 9, .inr (.inr (.inr (.inr (fun zk => some (sz + 12 + zk))))))), (sz + 12, .inl (cA, 81, .inl (fun zk => nI ((fun _ => 0) zk)))), (sz + 13, .inl (cA, 81, .inl (fun zk => nI ((fun _ => 0) zk)))), (sz + 14, .inl (cA, 81, .inl (fun zk => nI ((fun _ => 0) zk)))), (sz + 15, .inl (cA, 81, .inl (fun zk => nI ((fun _ => 0) zk)))), (sz + 16, .inl (cA, 81, .inl (fun zk => nI ((fun _ => 0) zk)))), (sz + 17, .inl (cA, 81, .inl (fun zk => nI ((fun _ => 0) zk)))), (sz + 18, .inl (cA, 81, .inl (fun zk => nI ((fun _ => 0) zk)))), (sz + 19, .inl (cA, 81, .inl (fun zk => nI ((fun _ => 0) zk)))), (sz + 20, .inl (cA, 81, .inl (fun zk => nI ((fun _ => 0) zk))))] := hD
  refine lv_aload_n hx hb d_PI_init_53 rfl (lv_at hl 0 rfl) ?_
  refine lv_iconst (v := nI 0) hx hb d_PI_init_54 (by decide) ?_
  refine va_put (D := D) (ci := 5) (v := .int (nI 0)) (ty := .int) (C := R_PI) (T := F_PI) (N := 7) hx hb hts i_PI t_PI to_PI n_PI hown hK hP hD hS 0 rfl rfl 6 (by decide) (hts _ kf_PI_34) (fun _ h9 => h9) rfl (by decide +kernel) rfl rfl (Nat.le_of_ble_eq_true rfl) d_PI_init_55 (fun H locs hP hD hS => ?_)
  have hP : va_P D classes [(a0, .inr (5, [.ref pl, .ref nt, .ref sz, .ref (sz + 1), .ref (sz + 2), .ref (sz + 11), .int (nI 0)])), (sz, .inl (cA, 8, .inl (fun zk => nI ((fun _ => 0) zk)))), (sz + 1, .inl (cA, 8, .inl (fun zk => nI ((fun _ => 0) zk)))), (sz + 2, .inl (c2, 8, .inr (.inr (.inr (.inr (fun zk => some (sz + 3 + zk))))))), (sz + 3, .inl (cA, 4, .inl (fun zk => nI ((fun _ => 0) zk)))), (sz + 4, .inl (cA, 4, .inl (fun zk => nI ((fun _ => 0) zk)))), (sz + 5, .inl (cA, 4, .inl (fun zk => nI ((fun _ => 0) zk)))), (sz + 6, .inl (cA, 4, .inl (fun zk => nI ((fun _ => 0) zk)))), (sz + 7, .inl (cA, 4, .inl (fun zk => nI ((fun _ => 0) zk)))), (sz + 8, .inl (cA, 4, .inl (fun zk => nI ((fun _ => 0) zk)))), (sz + 9, .inl (cA, 4, .inl (fun zk => nI ((fun _ => 0) zk)))), (sz + 10, .inl (cA, 4, .inl (fun zk => nI ((fun _ => 0) zk)))), (sz + 11, .inl (c2, 9, .inr (.inr (.inr (.inr (fun zk => some (sz + 12 + zk))))))), (sz + 12, .inl (cA, 81, .inl (fun zk => nI ((fun _ => 0) zk)))), (sz + 13, .inl (cA, 81, .inl (fun zk => nI ((fun _ => 0) zk)))), (sz + 14, .inl (cA, 81, .inl (fun zk => nI ((fun _ => 0) zk)))), (sz + 15, .inl (cA, 81, .inl (fun zk => nI ((fun _ => 0) zk)))), (sz + 16, .inl (cA, 81, .inl (fun zk => nI ((fun _ => 0) zk)))), (sz + 17, .inl (cA, 81, .inl (fun zk => nI ((fun _ => 0) zk)))), (sz + 18, .inl (cA, 81, .inl (fun zk => nI ((fun _ => 0) zk)))), (sz + 19, .inl (cA, 81, .inl (fun zk => nI ((fun _ => 0) zk)))), (sz + 20, .inl (cA, 81, .inl (fun zk => nI ((fun _ => 0) zk))))] H := hP
  have hD : va_D A [(a0, .inr (5, [.ref pl, .ref nt, .ref sz, .ref (sz + 1), .ref (sz + 2), .ref (sz + 11), .int (nI 0)])), (sz, .inl (cA, 8, .inl (fun zk => nI ((fun _ => 0) zk)))), (sz + 1, .inl (cA, 8, .inl (fun zk => nI ((fun _ => 0) zk)))), (sz + 2, .inl (c2, 8, .inr (.inr (.inr (.inr (fun zk => some (sz + 3 + zk))))))), (sz + 3, .inl (cA, 4, .inl (fun zk => nI ((fun _ => 0) zk)))), (sz + 4, .inl (cA, 4, .inl (fun zk => nI ((fun _ => 0) zk)))), (sz + 5, .inl (cA, 4, .inl (fun zk => nI ((fun _ => 0) zk)))), (sz + 6, .inl (cA, 4, .inl (fun zk => nI ((fun _ => 0) zk)))), (sz + 7, .inl (cA, 4, .inl (fun zk => nI ((fun _ => 0) zk)))), (sz + 8, .inl (cA, 4, .inl (fun zk => nI ((fun _ => 0) zk)))), (sz + 9, .inl (cA, 4, .inl (fun zk => nI ((fun _ => 0) zk)))), (sz + 10, .inl (cA, 4, .inl (fun zk => nI ((fun _ => 0) zk)))), (sz + 11, .inl (c2, 9, .inr (.inr (.inr (.inr (fun zk => some (sz + 12 + zk))))))), (sz + 12, .inl (cA, 81, .inl (fun zk => nI ((fun _ => 0) zk)))), (sz + 13, .inl (cA, 81, .inl (fun zk => nI ((fun _ => 0) zk)))), (sz + 14, .inl (cA, 81, .inl (fun zk => nI ((fun _ => 0) zk)))), (sz + 15, .inl (cA, 81, .inl (fun zk => nI ((fun _ => 0) zk)))), (sz + 16, .inl (cA, 81, .inl (fun zk => nI ((fun _ => 0) zk)))), (sz + 17, .inl (cA, 81, .inl (fun zk => nI ((fun _ => 0) zk)))), (sz + 18, .inl (cA, 81, .inl (fun zk => nI ((fun _ => 0) zk)))), (sz + 19, .inl (cA, 81, .inl (fun zk => nI ((fun _ => 0) zk)))), (sz + 20, .inl (cA, 81, .inl (fun zk => nI ((fun _ => 0) zk))))] := hD
  refine W.widen (k := 21) (n := 794) (by omega) (by omega) ?_
  exact W.vret hx hb hr (fun t ht hW => ⟨rfl, ⟨by rw [ht]; exact hP, va_K.moved hW.alike hK, hD⟩, hS.F ht⟩) hS.2.2 d_PI_init_58
