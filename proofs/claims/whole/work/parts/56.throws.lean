theorem i_lt2 {x : Int32} (h : x < nI 2) (h1 : (1 : Int32) < x) : False := by
  have a : x.toInt < 2 := Int32.lt_iff_toInt_lt.mp h
  have b : 1 < x.toInt := Int32.lt_iff_toInt_lt.mp h1
  omega
theorem i_lt4 {x : Int32} (h : ¬ nI 4 ≤ x) (h1 : (3 : Int32) < x) : False := by
  have a : x.toInt < 4 := Int32.lt_iff_toInt_lt.mp (Int32.not_le.mp h)
  have b : 3 < x.toInt := Int32.lt_iff_toInt_lt.mp h1
  omega
theorem i01 {x : Int32} (h1 : ¬ x < 0) (h2 : x < nI 2) : x = 0 ∨ x = 1 := by
  have a : x.toInt < 2 := by
    have := Int32.lt_iff_toInt_lt.mp h2
    exact this
  have b : 0 ≤ x.toInt := by
    have := Int32.le_iff_toInt_le.mp (Int32.not_lt.mp h1)
    exact this
  rcases (by omega : x.toInt = 0 ∨ x.toInt = 1) with q | q
  · exact Or.inl (Int32.toInt_inj.mp q)
  · exact Or.inr (Int32.toInt_inj.mp q)
theorem d_SB_block_0 : decode b_SB_block 0 = .ok (.aload_n 0, 1) := by decide +kernel
theorem d_SB_block_1 : decode b_SB_block 1 = .ok (.getfield 22, 3) := by decide +kernel
theorem d_SB_block_4 : decode b_SB_block 4 = .ok (.getfield 65, 3) := by decide +kernel
theorem d_SB_block_7 : decode b_SB_block 7 = .ok (.bipush 16, 2) := by decide +kernel
theorem d_SB_block_9 : decode b_SB_block 9 = .ok (.if_icmp .ge 12, 3) := by decide +kernel
theorem d_SB_block_12 : decode b_SB_block 12 = .ok (.aload_n 0, 1) := by decide +kernel
theorem d_SB_block_13 : decode b_SB_block 13 = .ok (.getfield 15, 3) := by decide +kernel
theorem d_SB_block_16 : decode b_SB_block 16 = .ok (.bipush 40, 2) := by decide +kernel
theorem d_SB_block_18 : decode b_SB_block 18 = .ok (.if_icmp .lt 13, 3) := by decide +kernel
theorem d_SB_block_21 : decode b_SB_block 21 = .ok (.new 68, 3) := by decide +kernel
theorem d_SB_block_24 : decode b_SB_block 24 = .ok (.dup, 1) := by decide +kernel
theorem d_SB_block_25 : decode b_SB_block 25 = .ok (.ldc 70, 2) := by decide +kernel
theorem d_SB_block_27 : decode b_SB_block 27 = .ok (.invokespecial 72, 3) := by decide +kernel
theorem d_SB_block_30 : decode b_SB_block 30 = .ok (.athrow, 1) := by decide +kernel
theorem d_SB_block_31 : decode b_SB_block 31 = .ok (.lload_n 1, 1) := by decide +kernel
theorem d_SB_block_32 : decode b_SB_block 32 = .ok (.lconst 1, 1) := by decide +kernel
theorem d_SB_block_33 : decode b_SB_block 33 = .ok (.ldc2_w 75, 3) := by decide +kernel
theorem d_SB_block_36 : decode b_SB_block 36 = .ok (.invokestatic 77, 3) := by decide +kernel
theorem d_SB_block_39 : decode b_SB_block 39 = .ok (.ifCond .eq 14, 3) := by decide +kernel
theorem d_SB_block_42 : decode b_SB_block 42 = .ok (.lload_n 3, 1) := by decide +kernel
theorem d_SB_block_43 : decode b_SB_block 43 = .ok (.lconst 1, 1) := by decide +kernel
theorem d_SB_block_44 : decode b_SB_block 44 = .ok (.ldc2_w 75, 3) := by decide +kernel
theorem d_SB_block_47 : decode b_SB_block 47 = .ok (.invokestatic 77, 3) := by decide +kernel
theorem d_SB_block_50 : decode b_SB_block 50 = .ok (.ifCond .ne 13, 3) := by decide +kernel
theorem d_SB_block_53 : decode b_SB_block 53 = .ok (.new 81, 3) := by decide +kernel
theorem d_SB_block_56 : decode b_SB_block 56 = .ok (.dup, 1) := by decide +kernel
theorem d_SB_block_57 : decode b_SB_block 57 = .ok (.ldc 83, 2) := by decide +kernel
theorem d_SB_block_59 : decode b_SB_block 59 = .ok (.invokespecial 85, 3) := by decide +kernel
theorem d_SB_block_62 : decode b_SB_block 62 = .ok (.athrow, 1) := by decide +kernel
theorem d_SB_block_63 : decode b_SB_block 63 = .ok (.aload_n 0, 1) := by decide +kernel
theorem d_SB_block_64 : decode b_SB_block 64 = .ok (.getfield 22, 3) := by decide +kernel
theorem d_SB_block_67 : decode b_SB_block 67 = .ok (.lload_n 1, 1) := by decide +kernel
theorem d_SB_block_68 : decode b_SB_block 68 = .ok (.l2i, 1) := by decide +kernel
theorem d_SB_block_69 : decode b_SB_block 69 = .ok (.lload_n 3, 1) := by decide +kernel
theorem d_SB_block_70 : decode b_SB_block 70 = .ok (.l2i, 1) := by decide +kernel
theorem d_SB_block_71 : decode b_SB_block 71 = .ok (.iload 5, 2) := by decide +kernel
theorem d_SB_block_73 : decode b_SB_block 73 = .ok (.invokevirtual 86, 3) := by decide +kernel
theorem d_SB_block_76 : decode b_SB_block 76 = .ok (.istore 6, 2) := by decide +kernel
theorem d_SB_block_78 : decode b_SB_block 78 = .ok (.aload_n 0, 1) := by decide +kernel
theorem d_SB_block_79 : decode b_SB_block 79 = .ok (.getfield 38, 3) := by decide +kernel
theorem d_SB_block_82 : decode b_SB_block 82 = .ok (.iload 6, 2) := by decide +kernel
theorem d_SB_block_84 : decode b_SB_block 84 = .ok (.invokevirtual 90, 3) := by decide +kernel
theorem d_SB_block_87 : decode b_SB_block 87 = .ok (.aload_n 0, 1) := by decide +kernel
theorem d_SB_block_88 : decode b_SB_block 88 = .ok (.new 9, 3) := by decide +kernel
theorem d_SB_block_91 : decode b_SB_block 91 = .ok (.dup, 1) := by decide +kernel
theorem d_SB_block_92 : decode b_SB_block 92 = .ok (.iload 6, 2) := by decide +kernel
theorem d_SB_block_94 : decode b_SB_block 94 = .ok (.lload_n 1, 1) := by decide +kernel
theorem d_SB_block_95 : decode b_SB_block 95 = .ok (.l2i, 1) := by decide +kernel
theorem d_SB_block_96 : decode b_SB_block 96 = .ok (.lload_n 3, 1) := by decide +kernel
theorem d_SB_block_97 : decode b_SB_block 97 = .ok (.l2i, 1) := by decide +kernel
theorem d_SB_block_98 : decode b_SB_block 98 = .ok (.iload 5, 2) := by decide +kernel
theorem d_SB_block_100 : decode b_SB_block 100 = .ok (.invokestatic 93, 3) := by decide +kernel
theorem d_SB_block_103 : decode b_SB_block 103 = .ok (.invokespecial 99, 3) := by decide +kernel
theorem d_SB_block_106 : decode b_SB_block 106 = .ok (.invokevirtual 102, 3) := by decide +kernel
theorem d_SB_block_109 : decode b_SB_block 109 = .ok (.ireturn, 1) := by decide +kernel
theorem d_SB_slice_0 : decode b_SB_slice 0 = .ok (.aload_n 0, 1) := by decide +kernel
theorem d_SB_slice_1 : decode b_SB_slice 1 = .ok (.iload_n 1, 1) := by decide +kernel
theorem d_SB_slice_2 : decode b_SB_slice 2 = .ok (.invokevirtual 135, 3) := by decide +kernel
theorem d_SB_slice_5 : decode b_SB_slice 5 = .ok (.astore 4, 2) := by decide +kernel
theorem d_SB_slice_7 : decode b_SB_slice 7 = .ok (.aload_n 0, 1) := by decide +kernel
theorem d_SB_slice_8 : decode b_SB_slice 8 = .ok (.iload_n 2, 1) := by decide +kernel
theorem d_SB_slice_9 : decode b_SB_slice 9 = .ok (.invokevirtual 135, 3) := by decide +kernel
theorem d_SB_slice_12 : decode b_SB_slice 12 = .ok (.astore 5, 2) := by decide +kernel
theorem d_SB_slice_14 : decode b_SB_slice 14 = .ok (.aload 4, 2) := by decide +kernel
theorem d_SB_slice_16 : decode b_SB_slice 16 = .ok (.ifnull 8, 3) := by decide +kernel
theorem d_SB_slice_19 : decode b_SB_slice 19 = .ok (.aload 5, 2) := by decide +kernel
theorem d_SB_slice_21 : decode b_SB_slice 21 = .ok (.ifnonnull 13, 3) := by decide +kernel
theorem d_SB_slice_24 : decode b_SB_slice 24 = .ok (.new 110, 3) := by decide +kernel
theorem d_SB_slice_27 : decode b_SB_slice 27 = .ok (.dup, 1) := by decide +kernel
theorem d_SB_slice_28 : decode b_SB_slice 28 = .ok (.ldc 139, 2) := by decide +kernel
theorem d_SB_slice_30 : decode b_SB_slice 30 = .ok (.invokespecial 114, 3) := by decide +kernel
theorem d_SB_slice_33 : decode b_SB_slice 33 = .ok (.athrow, 1) := by decide +kernel
theorem d_SB_slice_34 : decode b_SB_slice 34 = .ok (.aload 4, 2) := by decide +kernel
theorem d_SB_slice_36 : decode b_SB_slice 36 = .ok (.getfield 141, 3) := by decide +kernel
theorem d_SB_slice_39 : decode b_SB_slice 39 = .ok (.ifCond .ne 20, 3) := by decide +kernel
theorem d_SB_slice_42 : decode b_SB_slice 42 = .ok (.aload 5, 2) := by decide +kernel
theorem d_SB_slice_44 : decode b_SB_slice 44 = .ok (.getfield 141, 3) := by decide +kernel
theorem d_SB_slice_47 : decode b_SB_slice 47 = .ok (.ifCond .ne 12, 3) := by decide +kernel
theorem d_SB_slice_50 : decode b_SB_slice 50 = .ok (.aload_n 0, 1) := by decide +kernel
theorem d_SB_slice_51 : decode b_SB_slice 51 = .ok (.getfield 15, 3) := by decide +kernel
theorem d_SB_slice_54 : decode b_SB_slice 54 = .ok (.bipush 40, 2) := by decide +kernel
theorem d_SB_slice_56 : decode b_SB_slice 56 = .ok (.if_icmp .lt 13, 3) := by decide +kernel
theorem d_SB_slice_59 : decode b_SB_slice 59 = .ok (.new 68, 3) := by decide +kernel
theorem d_SB_slice_62 : decode b_SB_slice 62 = .ok (.dup, 1) := by decide +kernel
theorem d_SB_slice_63 : decode b_SB_slice 63 = .ok (.ldc 145, 2) := by decide +kernel
theorem d_SB_slice_65 : decode b_SB_slice 65 = .ok (.invokespecial 72, 3) := by decide +kernel
theorem d_SB_slice_68 : decode b_SB_slice 68 = .ok (.athrow, 1) := by decide +kernel
theorem d_SB_slice_69 : decode b_SB_slice 69 = .ok (.aload 4, 2) := by decide +kernel
theorem d_SB_slice_71 : decode b_SB_slice 71 = .ok (.aload 5, 2) := by decide +kernel
theorem d_SB_slice_73 : decode b_SB_slice 73 = .ok (.if_acmp .ne 13, 3) := by decide +kernel
theorem d_SB_slice_76 : decode b_SB_slice 76 = .ok (.new 81, 3) := by decide +kernel
theorem d_SB_slice_79 : decode b_SB_slice 79 = .ok (.dup, 1) := by decide +kernel
theorem d_SB_slice_80 : decode b_SB_slice 80 = .ok (.ldc 147, 2) := by decide +kernel
theorem d_SB_slice_82 : decode b_SB_slice 82 = .ok (.invokespecial 85, 3) := by decide +kernel
theorem d_SB_slice_85 : decode b_SB_slice 85 = .ok (.athrow, 1) := by decide +kernel
theorem d_SB_slice_86 : decode b_SB_slice 86 = .ok (.aload 4, 2) := by decide +kernel
theorem d_SB_slice_88 : decode b_SB_slice 88 = .ok (.iconst 1, 1) := by decide +kernel
theorem d_SB_slice_89 : decode b_SB_slice 89 = .ok (.putfield 141, 3) := by decide +kernel
theorem d_SB_slice_92 : decode b_SB_slice 92 = .ok (.aload 5, 2) := by decide +kernel
theorem d_SB_slice_94 : decode b_SB_slice 94 = .ok (.iconst 1, 1) := by decide +kernel
theorem d_SB_slice_95 : decode b_SB_slice 95 = .ok (.putfield 141, 3) := by decide +kernel
theorem d_SB_slice_98 : decode b_SB_slice 98 = .ok (.aload_n 0, 1) := by decide +kernel
theorem d_SB_slice_99 : decode b_SB_slice 99 = .ok (.new 9, 3) := by decide +kernel
theorem d_SB_slice_102 : decode b_SB_slice 102 = .ok (.dup, 1) := by decide +kernel
theorem d_SB_slice_103 : decode b_SB_slice 103 = .ok (.iconst (-1), 1) := by decide +kernel
theorem d_SB_slice_104 : decode b_SB_slice 104 = .ok (.aload 4, 2) := by decide +kernel
theorem d_SB_slice_106 : decode b_SB_slice 106 = .ok (.getfield 149, 3) := by decide +kernel
theorem d_SB_slice_109 : decode b_SB_slice 109 = .ok (.aload 5, 2) := by decide +kernel
theorem d_SB_slice_111 : decode b_SB_slice 111 = .ok (.getfield 149, 3) := by decide +kernel
theorem d_SB_slice_114 : decode b_SB_slice 114 = .ok (.iload_n 3, 1) := by decide +kernel
theorem d_SB_slice_115 : decode b_SB_slice 115 = .ok (.invokestatic 153, 3) := by decide +kernel
theorem d_SB_slice_118 : decode b_SB_slice 118 = .ok (.invokespecial 99, 3) := by decide +kernel
theorem d_SB_slice_121 : decode b_SB_slice 121 = .ok (.invokevirtual 102, 3) := by decide +kernel
theorem d_SB_slice_124 : decode b_SB_slice 124 = .ok (.ireturn, 1) := by decide +kernel
set_option maxHeartbeats 4000000 in
set_option maxRecDepth 100000 in
/-- shapes: no thing -/
theorem x_SB_shapes (l : Launch) (D : va_G) (htl : ∀ e' : Env, l.admits e' → e'.platform.stackTraces = false) (aS aB aN aP aE aI : Nat → Nat) (cA cZ c2 cT : ClassId) (tc : Nat) (tf : Nat → Option Nat) (t : Int32) (hno : t < 0 ∨ nI tc ≤ t) : zt_Met l y_SB_shapes (wsA y_SB_shapes b_SB_shapes 3 (some .int)) ({ frames := 6, cells := 1, slots := 6, locals := 90 } : Room) (zRF zT2 D [(cA, .int), (cZ, .boolean), (c2, .array .int), (cT, .object R_TH)] [(aS 0, .inr (0, [.ref (aS 1), .int (nI tc), .ref (aB 0), .ref (aN 0), .ref (aP 0), .ref (aE 0), .ref (aI 0)])), (aS 1, .inl (cT, 40, .inr (.inr (.inr (.inr tf)))))] [.ref (aS 0), .int t]) (zt_Q R_JIOB) 1 6 (fun _ => False) := by
  refine zt_Met.ofW (cc := b_SB_shapes) (maxL := 3) (ret := (some .int)) (by decide) rfl ?_
  intro p e s m args below meth c s₁ Bd hml hnh hv
  obtain ⟨rfl, hP, hK, hF⟩ := hv
  have hx := Bd.exec
  have hb := Bd.bytes
  have hr := Bd.returns
  have hts : ∀ w ∈ lw_g, w.before _ s = true := fun w h => atoms_spec (ws := wsA y_SB_shapes b_SB_shapes 3 (some .int)) Bd.pre w (List.mem_cons_of_mem _ h)
  have hown : s.vm.findClass R_SB = some m.cls := findClass_of_methodNamed Bd.named
  have hlocks := Bd.notSynchronized
  have hl := lv_entry ([.ref (aS 0), .int t]) (n := 3) (Nat.le_of_ble_eq_true rfl)
  rw [lg_entry_eq]
  generalize (lg_sl ([.ref (aS 0), .int t]) ++ List.replicate (3 - (lg_sl ([.ref (aS 0), .int t])).length) Slot.unset).toArray = ls at hl ⊢
  have hl : lv_has ls 3 [(0, .ref (aS 0)), (1, .int t)] := hl
  have hP : va_P D classes [(aS 0, .inr (0, [.ref (aS 1), .int (nI tc), .ref (aB 0), .ref (aN 0), .ref (aP 0), .ref (aE 0), .ref (aI 0)])), (aS 1, .inl (cT, 40, .inr (.inr (.inr (.inr tf)))))] s.heap := hP
  refine lv_aload_n hx hb d_SB_shapes_0 rfl (lv_at hl 0 rfl) ?_
  refine lv_iload_n hx hb d_SB_shapes_1 rfl (lv_at hl 1 rfl) ?_
  refine zrM_V (ci := 0) (q0 := 0) (As := [.int t]) (rest := []) (n := 1) ⟨hx, hb, hml, hown, hts⟩ (c_SB_findThing_no l D aS aB aN aP aE aI cA cZ c2 cT tc tf t hno) ⟨km_SB_135, ki_SB_findThing, ks_SB_findThing, kn_SB, kd_SB_findThing⟩ (by decide +kernel) (by decide) ⟨Nat.zero_le _, Nat.zero_le _⟩ hK (hP.mem (fun q hq => hq)) rfl rfl rfl hl.1 rfl (Nat.le_of_ble_eq_true rfl) d_SB_shapes_2 ?_
  refine lv_astore_nN (lv' := [(2, .null), (0, .ref (aS 0)), (1, .int t)]) hx hb d_SB_shapes_5 rfl hl (by decide) rfl (fun ls hl => ?_)
  refine lv_aload_nN hx hb d_SB_shapes_6 rfl (lv_at hl 0 rfl) ?_
  refine lv_ifnonnullN hx hb d_SB_shapes_7 ?_
  obtain ⟨tx9, htx⟩ := hF.2.2.2.2.1 (139, "no such thing") (by decide)
  exact zt_throw (own := R_SB) (cls := R_JIOB) (tx := "no such thing") (names := exN) (iN := 110) (iT := 139) (ic := 114) (str := tx9) hx hb htl hnh hown (by decide +kernel) (by decide +kernel) (zT2_hat hF hts (by decide) tm_JIOB) (hts _ kc_SB_110) (hts _ kn_JIOB) htx (hl.1.trans hml.symm) d_SB_shapes_10 d_SB_shapes_13 d_SB_shapes_14 d_SB_shapes_16 d_SB_shapes_19 (Nat.le_of_ble_eq_true rfl) (Nat.le_of_ble_eq_true rfl) (Nat.le_of_ble_eq_true rfl) (Nat.le_of_ble_eq_true rfl) hlocks
set_option maxHeartbeats 4000000 in
set_option maxRecDepth 100000 in
/-- least: no thing -/
theorem x_SB_least (l : Launch) (D : va_G) (htl : ∀ e' : Env, l.admits e' → e'.platform.stackTraces = false) (aS aB aN aP aE aI : Nat → Nat) (cA cZ c2 cT : ClassId) (tc : Nat) (tf : Nat → Option Nat) (t : Int32) (hno : t < 0 ∨ nI tc ≤ t) : zt_Met l y_SB_least (wsA y_SB_least b_SB_least 3 (some .long)) ({ frames := 6, cells := 1, slots := 6, locals := 90 } : Room) (zRF zT2 D [(cA, .int), (cZ, .boolean), (c2, .array .int), (cT, .object R_TH)] [(aS 0, .inr (0, [.ref (aS 1), .int (nI tc), .ref (aB 0), .ref (aN 0), .ref (aP 0), .ref (aE 0), .ref (aI 0)])), (aS 1, .inl (cT, 40, .inr (.inr (.inr (.inr tf)))))] [.ref (aS 0), .int t]) (zt_Q R_JIOB) 1 6 (fun _ => False) := by
  refine zt_Met.ofW (cc := b_SB_least) (maxL := 3) (ret := (some .long)) (by decide) rfl ?_
  intro p e s m args below meth c s₁ Bd hml hnh hv
  obtain ⟨rfl, hP, hK, hF⟩ := hv
  have hx := Bd.exec
  have hb := Bd.bytes
  have hr := Bd.returns
  have hts : ∀ w ∈ lw_g, w.before _ s = true := fun w h => atoms_spec (ws := wsA y_SB_least b_SB_least 3 (some .long)) Bd.pre w (List.mem_cons_of_mem _ h)
  have hown : s.vm.findClass R_SB = some m.cls := findClass_of_methodNamed Bd.named
  have hlocks := Bd.notSynchronized
  have hl := lv_entry ([.ref (aS 0), .int t]) (n := 3) (Nat.le_of_ble_eq_true rfl)
  rw [lg_entry_eq]
  generalize (lg_sl ([.ref (aS 0), .int t]) ++ List.replicate (3 - (lg_sl ([.ref (aS 0), .int t])).length) Slot.unset).toArray = ls at hl ⊢
  have hl : lv_has ls 3 [(0, .ref (aS 0)), (1, .int t)] := hl
  have hP : va_P D classes [(aS 0, .inr (0, [.ref (aS 1), .int (nI tc), .ref (aB 0), .ref (aN 0), .ref (aP 0), .ref (aE 0), .ref (aI 0)])), (aS 1, .inl (cT, 40, .inr (.inr (.inr (.inr tf)))))] s.heap := hP
  refine lv_aload_n hx hb d_SB_least_0 rfl (lv_at hl 0 rfl) ?_
  refine lv_iload_n hx hb d_SB_least_1 rfl (lv_at hl 1 rfl) ?_
  refine zrM_V (ci := 0) (q0 := 0) (As := [.int t]) (rest := []) (n := 1) ⟨hx, hb, hml, hown, hts⟩ (c_SB_findThing_no l D aS aB aN aP aE aI cA cZ c2 cT tc tf t hno) ⟨km_SB_135, ki_SB_findThing, ks_SB_findThing, kn_SB, kd_SB_findThing⟩ (by decide +kernel) (by decide) ⟨Nat.zero_le _, Nat.zero_le _⟩ hK (hP.mem (fun q hq => hq)) rfl rfl rfl hl.1 rfl (Nat.le_of_ble_eq_true rfl) d_SB_least_2 ?_
  refine lv_astore_nN (lv' := [(2, .null), (0, .ref (aS 0)), (1, .int t)]) hx hb d_SB_least_5 rfl hl (by decide) rfl (fun ls hl => ?_)
  refine lv_aload_nN hx hb d_SB_least_6 rfl (lv_at hl 0 rfl) ?_
  refine lv_ifnonnullN hx hb d_SB_least_7 ?_
  obtain ⟨tx9, htx⟩ := hF.2.2.2.2.1 (139, "no such thing") (by decide)
  exact zt_throw (own := R_SB) (cls := R_JIOB) (tx := "no such thing") (names := exN) (iN := 110) (iT := 139) (ic := 114) (str := tx9) hx hb htl hnh hown (by decide +kernel) (by decide +kernel) (zT2_hat hF hts (by decide) tm_JIOB) (hts _ kc_SB_110) (hts _ kn_JIOB) htx (hl.1.trans hml.symm) d_SB_least_10 d_SB_least_13 d_SB_least_14 d_SB_least_16 d_SB_least_19 (Nat.le_of_ble_eq_true rfl) (Nat.le_of_ble_eq_true rfl) (Nat.le_of_ble_eq_true rfl) (Nat.le_of_ble_eq_true rfl) hlocks
set_option maxHeartbeats 4000000 in
set_option maxRecDepth 100000 in
/-- shape: no thing -/
theorem x_SB_shape0 (l : Launch) (D : va_G) (htl : ∀ e' : Env, l.admits e' → e'.platform.stackTraces = false) (aS aB aN aP aE aI : Nat → Nat) (cA cZ c2 cT : ClassId) (tc : Nat) (tf : Nat → Option Nat) (t k0 s0 : Int32) (hno : t < 0 ∨ nI tc ≤ t) : zt_Met l y_SB_shape (wsA y_SB_shape b_SB_shape 5 (some .long)) ({ frames := 6, cells := 1, slots := 6, locals := 90 } : Room) (zRF zT2 D [(cA, .int), (cZ, .boolean), (c2, .array .int), (cT, .object R_TH)] [(aS 0, .inr (0, [.ref (aS 1), .int (nI tc), .ref (aB 0), .ref (aN 0), .ref (aP 0), .ref (aE 0), .ref (aI 0)])), (aS 1, .inl (cT, 40, .inr (.inr (.inr (.inr tf)))))] [.ref (aS 0), .int t, .int k0, .int s0]) (zt_Q R_JIOB) 1 6 (fun _ => False) := by
  refine zt_Met.ofW (cc := b_SB_shape) (maxL := 5) (ret := (some .long)) (by decide) rfl ?_
  intro p e s m args below meth c s₁ Bd hml hnh hv
  obtain ⟨rfl, hP, hK, hF⟩ := hv
  have hx := Bd.exec
  have hb := Bd.bytes
  have hr := Bd.returns
  have hts : ∀ w ∈ lw_g, w.before _ s = true := fun w h => atoms_spec (ws := wsA y_SB_shape b_SB_shape 5 (some .long)) Bd.pre w (List.mem_cons_of_mem _ h)
  have hown : s.vm.findClass R_SB = some m.cls := findClass_of_methodNamed Bd.named
  have hlocks := Bd.notSynchronized
  have hl := lv_entry ([.ref (aS 0), .int t, .int k0, .int s0]) (n := 5) (Nat.le_of_ble_eq_true rfl)
  rw [lg_entry_eq]
  generalize (lg_sl ([.ref (aS 0), .int t, .int k0, .int s0]) ++ List.replicate (5 - (lg_sl ([.ref (aS 0), .int t, .int k0, .int s0])).length) Slot.unset).toArray = ls at hl ⊢
  have hl : lv_has ls 5 [(0, .ref (aS 0)), (1, .int t), (2, .int k0), (3, .int s0)] := hl
  have hP : va_P D classes [(aS 0, .inr (0, [.ref (aS 1), .int (nI tc), .ref (aB 0), .ref (aN 0), .ref (aP 0), .ref (aE 0), .ref (aI 0)])), (aS 1, .inl (cT, 40, .inr (.inr (.inr (.inr tf)))))] s.heap := hP
  refine lv_aload_n hx hb d_SB_shape_0 rfl (lv_at hl 0 rfl) ?_
  refine lv_iload_n hx hb d_SB_shape_1 rfl (lv_at hl 1 rfl) ?_
  refine zrM_V (ci := 0) (q0 := 0) (As := [.int t]) (rest := []) (n := 1) ⟨hx, hb, hml, hown, hts⟩ (c_SB_findThing_no l D aS aB aN aP aE aI cA cZ c2 cT tc tf t hno) ⟨km_SB_135, ki_SB_findThing, ks_SB_findThing, kn_SB, kd_SB_findThing⟩ (by decide +kernel) (by decide) ⟨Nat.zero_le _, Nat.zero_le _⟩ hK (hP.mem (fun q hq => hq)) rfl rfl rfl hl.1 rfl (Nat.le_of_ble_eq_true rfl) d_SB_shape_2 ?_
  refine lv_astoreN (lv' := [(4, .null), (0, .ref (aS 0)), (1, .int t), (2, .int k0), (3, .int s0)]) hx hb d_SB_shape_5 hl (by decide) rfl (fun ls hl => ?_)
  refine lv_aloadN hx hb d_SB_shape_7 (lv_at hl 0 rfl) ?_
  refine lv_ifnullN (tgt := 37) hx hb d_SB_shape_9 (by decide) ?_
  obtain ⟨tx9, htx⟩ := hF.2.2.2.2.1 (158, "no such thing, shape or side") (by decide)
  exact zt_throw (own := R_SB) (cls := R_JIOB) (tx := "no such thing, shape or side") (names := exN) (iN := 110) (iT := 158) (ic := 114) (str := tx9) hx hb htl hnh hown (by decide +kernel) (by decide +kernel) (zT2_hat hF hts (by decide) tm_JIOB) (hts _ kc_SB_110) (hts _ kn_JIOB) htx (hl.1.trans hml.symm) d_SB_shape_37 d_SB_shape_40 d_SB_shape_41 d_SB_shape_43 d_SB_shape_46 (Nat.le_of_ble_eq_true rfl) (Nat.le_of_ble_eq_true rfl) (Nat.le_of_ble_eq_true rfl) (Nat.le_of_ble_eq_true rfl) hlocks
set_option maxHeartbeats 4000000 in
set_option maxRecDepth 100000 in
/-- shape: no shape or side -/
theorem x_SB_shape1 (l : Launch) (D : va_G) (htl : ∀ e' : Env, l.admits e' → e'.platform.stackTraces = false) (aS aB aN aP aE aI : Nat → Nat) (cA cZ c2 cT : ClassId) (tc : Nat) (tf : Nat → Option Nat) (aT aU aW aH cap ct : Nat) (fw fh : Nat → Nat) (bk : Int32) (us : Bool) (tt : Nat) (k0 s0 : Int32) (h40 : tc ≤ 40) (htt : tt < tc) (htf : tf tt = some aT) (hno : k0 < 0 ∨ nI ct ≤ k0 ∨ ¬ (s0 = 0 ∨ s0 = 1)) : zt_Met l y_SB_shape (wsA y_SB_shape b_SB_shape 5 (some .long)) ({ frames := 6, cells := 1, slots := 6, locals := 90 } : Room) (zRF zT2 D [(cA, .int), (cZ, .boolean), (c2, .array .int), (cT, .object R_TH)] [(aT, .inr (9, [.int bk, .ref aU, .int (zb us)])), (aU, .inr (8, [.ref aW, .ref aH, .int (nI ct)])), (aW, .inl (cA, cap, .inl (fun zk => nI (fw zk)))), (aH, .inl (cA, cap, .inl (fun zk => nI (fh zk)))), (aS 0, .inr (0, [.ref (aS 1), .int (nI tc), .ref (aB 0), .ref (aN 0), .ref (aP 0), .ref (aE 0), .ref (aI 0)])), (aS 1, .inl (cT, 40, .inr (.inr (.inr (.inr tf)))))] [.ref (aS 0), .int (nI tt), .int k0, .int s0]) (zt_Q R_JIOB) 1 6 (fun _ => False) := by
  refine zt_Met.ofW (cc := b_SB_shape) (maxL := 5) (ret := (some .long)) (by decide) rfl ?_
  intro p e s m args below meth c s₁ Bd hml hnh hv
  obtain ⟨rfl, hP, hK, hF⟩ := hv
  have hx := Bd.exec
  have hb := Bd.bytes
  have hr := Bd.returns
  have hts : ∀ w ∈ lw_g, w.before _ s = true := fun w h => atoms_spec (ws := wsA y_SB_shape b_SB_shape 5 (some .long)) Bd.pre w (List.mem_cons_of_mem _ h)
  have hown : s.vm.findClass R_SB = some m.cls := findClass_of_methodNamed Bd.named
  have hlocks := Bd.notSynchronized
  have hl := lv_entry ([.ref (aS 0), .int (nI tt), .int k0, .int s0]) (n := 5) (Nat.le_of_ble_eq_true rfl)
  rw [lg_entry_eq]
  generalize (lg_sl ([.ref (aS 0), .int (nI tt), .int k0, .int s0]) ++ List.replicate (5 - (lg_sl ([.ref (aS 0), .int (nI tt), .int k0, .int s0])).length) Slot.unset).toArray = ls at hl ⊢
  have hl : lv_has ls 5 [(0, .ref (aS 0)), (1, .int (nI tt)), (2, .int k0), (3, .int s0)] := hl
  have hP : va_P D classes [(aT, .inr (9, [.int bk, .ref aU, .int (zb us)])), (aU, .inr (8, [.ref aW, .ref aH, .int (nI ct)])), (aW, .inl (cA, cap, .inl (fun zk => nI (fw zk)))), (aH, .inl (cA, cap, .inl (fun zk => nI (fh zk)))), (aS 0, .inr (0, [.ref (aS 1), .int (nI tc), .ref (aB 0), .ref (aN 0), .ref (aP 0), .ref (aE 0), .ref (aI 0)])), (aS 1, .inl (cT, 40, .inr (.inr (.inr (.inr tf)))))] s.heap := hP
  refine lv_aload_n hx hb d_SB_shape_0 rfl (lv_at hl 0 rfl) ?_
  refine lv_iload_n hx hb d_SB_shape_1 rfl (lv_at hl 1 rfl) ?_
  refine zrM_V (ci := 0) (q0 := 0) (As := [.int (nI tt)]) (rest := []) (n := 1) ⟨hx, hb, hml, hown, hts⟩ (c_SB_findThing l D aS aB aN aP aE aI cA cZ c2 cT tc tf tt aT h40 htt htf) ⟨km_SB_135, ki_SB_findThing, ks_SB_findThing, kn_SB, kd_SB_findThing⟩ (by decide +kernel) (by decide) ⟨Nat.zero_le _, Nat.zero_le _⟩ hK (hP.mem (fun q hq => List.mem_cons_of_mem _ (List.mem_cons_of_mem _ (List.mem_cons_of_mem _ (List.mem_cons_of_mem _ (hq)))))) rfl rfl rfl hl.1 rfl (Nat.le_of_ble_eq_true rfl) d_SB_shape_2 ?_
  refine lv_astore (lv' := [(4, .ref aT), (0, .ref (aS 0)), (1, .int (nI tt)), (2, .int k0), (3, .int s0)]) hx hb d_SB_shape_5 hl (by decide) rfl (fun ls hl => ?_)
  refine lv_aload hx hb d_SB_shape_7 (lv_at hl 0 rfl) ?_
  refine lv_ifnull hx hb d_SB_shape_9 ?_
  refine lv_iload_n hx hb d_SB_shape_12 rfl (lv_at hl 3 rfl) ?_
  refine lv_if_lt (tgt := 37) hx hb d_SB_shape_13 (by decide) (fun c_1 => ?_) (fun c_1 => ?_)
  · obtain ⟨tx9, htx⟩ := hF.2.2.2.2.1 (158, "no such thing, shape or side") (by decide)
    exact zt_throw (own := R_SB) (cls := R_JIOB) (tx := "no such thing, shape or side") (names := exN) (iN := 110) (iT := 158) (ic := 114) (str := tx9) hx hb htl hnh hown (by decide +kernel) (by decide +kernel) (zT2_hat hF hts (by decide) tm_JIOB) (hts _ kc_SB_110) (hts _ kn_JIOB) htx (hl.1.trans hml.symm) d_SB_shape_37 d_SB_shape_40 d_SB_shape_41 d_SB_shape_43 d_SB_shape_46 (Nat.le_of_ble_eq_true rfl) (Nat.le_of_ble_eq_true rfl) (Nat.le_of_ble_eq_true rfl) (Nat.le_of_ble_eq_true rfl) hlocks
  · refine lv_iload_n hx hb d_SB_shape_16 rfl (lv_at hl 3 rfl) ?_
    refine lv_aload hx hb d_SB_shape_17 (lv_at hl 0 rfl) ?_
    refine va_get (D := D) (ci := 9) (v := .ref aU) (C := R_TH) (T := F_TH) (N := 3) hx hb hts i_TH hown hK hP 0 rfl rfl 1 (by decide) (hts _ kf_SB_149) (fun _ h9 => h9) rfl d_SB_shape_19 ?_
    refine va_get (D := D) (ci := 8) (v := .int (nI ct)) (C := R_SL) (T := F_SL) (N := 3) hx hb hts i_SL hown hK hP 1 rfl rfl 2 (by decide) (hts _ kf_SB_157) (fun _ h9 => h9) rfl d_SB_shape_22 ?_
    refine lv_icmp_ge (tgt := 37) hx hb d_SB_shape_25 (by decide) (fun c_2 => ?_) (fun c_2 => ?_)
    · obtain ⟨tx9, htx⟩ := hF.2.2.2.2.1 (158, "no such thing, shape or side") (by decide)
      exact zt_throw (own := R_SB) (cls := R_JIOB) (tx := "no such thing, shape or side") (names := exN) (iN := 110) (iT := 158) (ic := 114) (str := tx9) hx hb htl hnh hown (by decide +kernel) (by decide +kernel) (zT2_hat hF hts (by decide) tm_JIOB) (hts _ kc_SB_110) (hts _ kn_JIOB) htx (hl.1.trans hml.symm) d_SB_shape_37 d_SB_shape_40 d_SB_shape_41 d_SB_shape_43 d_SB_shape_46 (Nat.le_of_ble_eq_true rfl) (Nat.le_of_ble_eq_true rfl) (Nat.le_of_ble_eq_true rfl) (Nat.le_of_ble_eq_true rfl) hlocks
    · refine lv_iload_n hx hb d_SB_shape_28 rfl (lv_at hl 4 rfl) ?_
      refine lv_if_lt (tgt := 37) hx hb d_SB_shape_29 (by decide) (fun c_3 => ?_) (fun c_3 => ?_)
      · obtain ⟨tx9, htx⟩ := hF.2.2.2.2.1 (158, "no such thing, shape or side") (by decide)
        exact zt_throw (own := R_SB) (cls := R_JIOB) (tx := "no such thing, shape or side") (names := exN) (iN := 110) (iT := 158) (ic := 114) (str := tx9) hx hb htl hnh hown (by decide +kernel) (by decide +kernel) (zT2_hat hF hts (by decide) tm_JIOB) (hts _ kc_SB_110) (hts _ kn_JIOB) htx (hl.1.trans hml.symm) d_SB_shape_37 d_SB_shape_40 d_SB_shape_41 d_SB_shape_43 d_SB_shape_46 (Nat.le_of_ble_eq_true rfl) (Nat.le_of_ble_eq_true rfl) (Nat.le_of_ble_eq_true rfl) (Nat.le_of_ble_eq_true rfl) hlocks
      · refine lv_iload_n hx hb d_SB_shape_32 rfl (lv_at hl 4 rfl) ?_
        refine lv_iconst (v := nI 2) hx hb d_SB_shape_33 (by decide) ?_
        refine lv_icmp_lt (tgt := 47) hx hb d_SB_shape_34 (by decide) (fun c_4 => ?_) (fun c_4 => ?_)
        · exact absurd hno (fun q => q.elim c_1 (fun q => q.elim c_2 (fun q => q (i01 c_3 c_4))))
        · obtain ⟨tx9, htx⟩ := hF.2.2.2.2.1 (158, "no such thing, shape or side") (by decide)
          exact zt_throw (own := R_SB) (cls := R_JIOB) (tx := "no such thing, shape or side") (names := exN) (iN := 110) (iT := 158) (ic := 114) (str := tx9) hx hb htl hnh hown (by decide +kernel) (by decide +kernel) (zT2_hat hF hts (by decide) tm_JIOB) (hts _ kc_SB_110) (hts _ kn_JIOB) htx (hl.1.trans hml.symm) d_SB_shape_37 d_SB_shape_40 d_SB_shape_41 d_SB_shape_43 d_SB_shape_46 (Nat.le_of_ble_eq_true rfl) (Nat.le_of_ble_eq_true rfl) (Nat.le_of_ble_eq_true rfl) (Nat.le_of_ble_eq_true rfl) hlocks
set_option maxHeartbeats 4000000 in
set_option maxRecDepth 100000 in
/-- turned: no block -/
theorem x_SB_turned (l : Launch) (D : va_G) (htl : ∀ e' : Env, l.admits e' → e'.platform.stackTraces = false) (aS aB aN aP aE aI : Nat → Nat) (cA cZ c2 cT : ClassId) (tc : Nat) (tf : Nat → Option Nat) (tcs : va_W) (t v : Int32) (h40 : tc ≤ 40) (hfb : fbR tc tf tcs t v) (hv0 : v = -1) : zt_Met l y_SB_turned (wsA y_SB_turned b_SB_turned 3 (some .boolean)) ({ frames := 6, cells := 1, slots := 6, locals := 90 } : Room) (zRF zT2 D [(cA, .int), (cZ, .boolean), (c2, .array .int), (cT, .object R_TH)] ((aS 0, .inr (0, [.ref (aS 1), .int (nI tc), .ref (aB 0), .ref (aN 0), .ref (aP 0), .ref (aE 0), .ref (aI 0)])) :: (aS 1, .inl (cT, 40, .inr (.inr (.inr (.inr tf))))) :: tcs) [.ref (aS 0), .int t]) (zt_Q R_JIOB) 1 6 (fun _ => False) := by
  refine zt_Met.ofW (cc := b_SB_turned) (maxL := 3) (ret := (some .boolean)) (by decide) rfl ?_
  intro p e s m args below meth c s₁ Bd hml hnh hv
  obtain ⟨rfl, hP, hK, hF⟩ := hv
  have hx := Bd.exec
  have hb := Bd.bytes
  have hr := Bd.returns
  have hts : ∀ w ∈ lw_g, w.before _ s = true := fun w h => atoms_spec (ws := wsA y_SB_turned b_SB_turned 3 (some .boolean)) Bd.pre w (List.mem_cons_of_mem _ h)
  have hown : s.vm.findClass R_SB = some m.cls := findClass_of_methodNamed Bd.named
  have hlocks := Bd.notSynchronized
  have hl := lv_entry ([.ref (aS 0), .int t]) (n := 3) (Nat.le_of_ble_eq_true rfl)
  rw [lg_entry_eq]
  generalize (lg_sl ([.ref (aS 0), .int t]) ++ List.replicate (3 - (lg_sl ([.ref (aS 0), .int t])).length) Slot.unset).toArray = ls at hl ⊢
  have hl : lv_has ls 3 [(0, .ref (aS 0)), (1, .int t)] := hl
  have hP : va_P D classes ((aS 0, .inr (0, [.ref (aS 1), .int (nI tc), .ref (aB 0), .ref (aN 0), .ref (aP 0), .ref (aE 0), .ref (aI 0)])) :: (aS 1, .inl (cT, 40, .inr (.inr (.inr (.inr tf))))) :: tcs) s.heap := hP
  refine lv_aload_n hx hb d_SB_turned_0 rfl (lv_at hl 0 rfl) ?_
  refine lv_iload_n hx hb d_SB_turned_1 rfl (lv_at hl 1 rfl) ?_
  refine zrM_V (ci := 0) (q0 := 0) (As := [.int t]) (rest := []) (n := 1) ⟨hx, hb, hml, hown, hts⟩ (c_SB_findBlock l D aS aB aN aP aE aI cA cZ c2 cT tc tf tcs t v h40 hfb) ⟨km_SB_106, ki_SB_findBlock, ks_SB_findBlock, kn_SB, kd_SB_findBlock⟩ (by decide +kernel) (by decide) ⟨Nat.zero_le _, Nat.zero_le _⟩ hK (hP.mem (fun q hq => hq)) rfl rfl rfl hl.1 rfl (Nat.le_of_ble_eq_true rfl) d_SB_turned_2 ?_
  refine lv_istore_n (lv' := [(2, .int v), (0, .ref (aS 0)), (1, .int t)]) hx hb d_SB_turned_5 rfl hl (by decide) rfl (fun ls hl => ?_)
  refine lv_iload_n hx hb d_SB_turned_6 rfl (lv_at hl 0 rfl) ?_
  refine lv_iconst (v := (-1)) hx hb d_SB_turned_7 (by decide) ?_
  refine lv_icmp_ne (tgt := 21) hx hb d_SB_turned_8 (by decide) (fun c_1 => ?_) (fun c_1 => ?_)
  · exact absurd hv0 c_1
  · obtain ⟨tx9, htx⟩ := hF.2.2.2.2.1 (112, "no such block") (by decide)
    exact zt_throw (own := R_SB) (cls := R_JIOB) (tx := "no such block") (names := exN) (iN := 110) (iT := 112) (ic := 114) (str := tx9) hx hb htl hnh hown (by decide +kernel) (by decide +kernel) (zT2_hat hF hts (by decide) tm_JIOB) (hts _ kc_SB_110) (hts _ kn_JIOB) htx (hl.1.trans hml.symm) d_SB_turned_11 d_SB_turned_14 d_SB_turned_15 d_SB_turned_17 d_SB_turned_20 (Nat.le_of_ble_eq_true rfl) (Nat.le_of_ble_eq_true rfl) (Nat.le_of_ble_eq_true rfl) (Nat.le_of_ble_eq_true rfl) hlocks
set_option maxHeartbeats 4000000 in
set_option maxRecDepth 100000 in
/-- at: no block or axis -/
theorem x_SB_at (l : Launch) (D : va_G) (htl : ∀ e' : Env, l.admits e' → e'.platform.stackTraces = false) (aS aB aN aP aE aI : Nat → Nat) (cA cZ c2 cT : ClassId) (tc : Nat) (tf : Nat → Option Nat) (tcs : va_W) (t v : Int32) (ax : Int32) (h40 : tc ≤ 40) (hfb : fbR tc tf tcs t v) (hno : v = -1 ∨ ax < 0 ∨ 1 < ax) : zt_Met l y_SB_at (wsA y_SB_at b_SB_at 4 (some .long)) ({ frames := 6, cells := 1, slots := 6, locals := 90 } : Room) (zRF zT2 D [(cA, .int), (cZ, .boolean), (c2, .array .int), (cT, .object R_TH)] ((aS 0, .inr (0, [.ref (aS 1), .int (nI tc), .ref (aB 0), .ref (aN 0), .ref (aP 0), .ref (aE 0), .ref (aI 0)])) :: (aS 1, .inl (cT, 40, .inr (.inr (.inr (.inr tf))))) :: tcs) [.ref (aS 0), .int t, .int ax]) (zt_Q R_JIOB) 1 6 (fun _ => False) := by
  refine zt_Met.ofW (cc := b_SB_at) (maxL := 4) (ret := (some .long)) (by decide) rfl ?_
  intro p e s m args below meth c s₁ Bd hml hnh hv
  obtain ⟨rfl, hP, hK, hF⟩ := hv
  have hx := Bd.exec
  have hb := Bd.bytes
  have hr := Bd.returns
  have hts : ∀ w ∈ lw_g, w.before _ s = true := fun w h => atoms_spec (ws := wsA y_SB_at b_SB_at 4 (some .long)) Bd.pre w (List.mem_cons_of_mem _ h)
  have hown : s.vm.findClass R_SB = some m.cls := findClass_of_methodNamed Bd.named
  have hlocks := Bd.notSynchronized
  have hl := lv_entry ([.ref (aS 0), .int t, .int ax]) (n := 4) (Nat.le_of_ble_eq_true rfl)
  rw [lg_entry_eq]
  generalize (lg_sl ([.ref (aS 0), .int t, .int ax]) ++ List.replicate (4 - (lg_sl ([.ref (aS 0), .int t, .int ax])).length) Slot.unset).toArray = ls at hl ⊢
  have hl : lv_has ls 4 [(0, .ref (aS 0)), (1, .int t), (2, .int ax)] := hl
  have hP : va_P D classes ((aS 0, .inr (0, [.ref (aS 1), .int (nI tc), .ref (aB 0), .ref (aN 0), .ref (aP 0), .ref (aE 0), .ref (aI 0)])) :: (aS 1, .inl (cT, 40, .inr (.inr (.inr (.inr tf))))) :: tcs) s.heap := hP
  refine lv_aload_n hx hb d_SB_at_0 rfl (lv_at hl 0 rfl) ?_
  refine lv_iload_n hx hb d_SB_at_1 rfl (lv_at hl 1 rfl) ?_
  refine zrM_V (ci := 0) (q0 := 0) (As := [.int t]) (rest := []) (n := 1) ⟨hx, hb, hml, hown, hts⟩ (c_SB_findBlock l D aS aB aN aP aE aI cA cZ c2 cT tc tf tcs t v h40 hfb) ⟨km_SB_106, ki_SB_findBlock, ks_SB_findBlock, kn_SB, kd_SB_findBlock⟩ (by decide +kernel) (by decide) ⟨Nat.zero_le _, Nat.zero_le _⟩ hK (hP.mem (fun q hq => hq)) rfl rfl rfl hl.1 rfl (Nat.le_of_ble_eq_true rfl) d_SB_at_2 ?_
  refine lv_istore_n (lv' := [(3, .int v), (0, .ref (aS 0)), (1, .int t), (2, .int ax)]) hx hb d_SB_at_5 rfl hl (by decide) rfl (fun ls hl => ?_)
  refine lv_iload_n hx hb d_SB_at_6 rfl (lv_at hl 0 rfl) ?_
  refine lv_iconst (v := (-1)) hx hb d_SB_at_7 (by decide) ?_
  refine lv_icmp_eq (tgt := 20) hx hb d_SB_at_8 (by decide) (fun c_1 => ?_) (fun c_1 => ?_)
  · obtain ⟨tx9, htx⟩ := hF.2.2.2.2.1 (179, "no such block or axis") (by decide)
    exact zt_throw (own := R_SB) (cls := R_JIOB) (tx := "no such block or axis") (names := exN) (iN := 110) (iT := 179) (ic := 114) (str := tx9) hx hb htl hnh hown (by decide +kernel) (by decide +kernel) (zT2_hat hF hts (by decide) tm_JIOB) (hts _ kc_SB_110) (hts _ kn_JIOB) htx (hl.1.trans hml.symm) d_SB_at_20 d_SB_at_23 d_SB_at_24 d_SB_at_26 d_SB_at_29 (Nat.le_of_ble_eq_true rfl) (Nat.le_of_ble_eq_true rfl) (Nat.le_of_ble_eq_true rfl) (Nat.le_of_ble_eq_true rfl) hlocks
  · refine lv_iload_n hx hb d_SB_at_11 rfl (lv_at hl 3 rfl) ?_
    refine lv_if_lt (tgt := 20) hx hb d_SB_at_12 (by decide) (fun c_2 => ?_) (fun c_2 => ?_)
    · obtain ⟨tx9, htx⟩ := hF.2.2.2.2.1 (179, "no such block or axis") (by decide)
      exact zt_throw (own := R_SB) (cls := R_JIOB) (tx := "no such block or axis") (names := exN) (iN := 110) (iT := 179) (ic := 114) (str := tx9) hx hb htl hnh hown (by decide +kernel) (by decide +kernel) (zT2_hat hF hts (by decide) tm_JIOB) (hts _ kc_SB_110) (hts _ kn_JIOB) htx (hl.1.trans hml.symm) d_SB_at_20 d_SB_at_23 d_SB_at_24 d_SB_at_26 d_SB_at_29 (Nat.le_of_ble_eq_true rfl) (Nat.le_of_ble_eq_true rfl) (Nat.le_of_ble_eq_true rfl) (Nat.le_of_ble_eq_true rfl) hlocks
    · refine lv_iload_n hx hb d_SB_at_15 rfl (lv_at hl 3 rfl) ?_
      refine lv_iconst (v := nI 2) hx hb d_SB_at_16 (by decide) ?_
      refine lv_icmp_lt (tgt := 30) hx hb d_SB_at_17 (by decide) (fun c_3 => ?_) (fun c_3 => ?_)
      · exact absurd hno (fun q => q.elim c_1 (fun q => q.elim c_2 (fun q => i_lt2 c_3 q)))
      · obtain ⟨tx9, htx⟩ := hF.2.2.2.2.1 (179, "no such block or axis") (by decide)
        exact zt_throw (own := R_SB) (cls := R_JIOB) (tx := "no such block or axis") (names := exN) (iN := 110) (iT := 179) (ic := 114) (str := tx9) hx hb htl hnh hown (by decide +kernel) (by decide +kernel) (zT2_hat hF hts (by decide) tm_JIOB) (hts _ kc_SB_110) (hts _ kn_JIOB) htx (hl.1.trans hml.symm) d_SB_at_20 d_SB_at_23 d_SB_at_24 d_SB_at_26 d_SB_at_29 (Nat.le_of_ble_eq_true rfl) (Nat.le_of_ble_eq_true rfl) (Nat.le_of_ble_eq_true rfl) (Nat.le_of_ble_eq_true rfl) hlocks
set_option maxHeartbeats 4000000 in
set_option maxRecDepth 100000 in
/-- pin: no block, side or pin -/
theorem x_SB_pin (l : Launch) (D : va_G) (htl : ∀ e' : Env, l.admits e' → e'.platform.stackTraces = false) (aS aB aN aP aE aI : Nat → Nat) (cA cZ c2 cT : ClassId) (tc : Nat) (tf : Nat → Option Nat) (tcs : va_W) (t v : Int32) (s0 k0 : Int32) (h40 : tc ≤ 40) (hfb : fbR tc tf tcs t v) (hno : v = -1 ∨ s0 < 0 ∨ 3 < s0 ∨ k0 < 0 ∨ 1 < k0) : zt_Met l y_SB_pin (wsA y_SB_pin b_SB_pin 5 (some .int)) ({ frames := 6, cells := 1, slots := 6, locals := 90 } : Room) (zRF zT2 D [(cA, .int), (cZ, .boolean), (c2, .array .int), (cT, .object R_TH)] ((aS 0, .inr (0, [.ref (aS 1), .int (nI tc), .ref (aB 0), .ref (aN 0), .ref (aP 0), .ref (aE 0), .ref (aI 0)])) :: (aS 1, .inl (cT, 40, .inr (.inr (.inr (.inr tf))))) :: tcs) [.ref (aS 0), .int t, .int s0, .int k0]) (zt_Q R_JIOB) 1 6 (fun _ => False) := by
  refine zt_Met.ofW (cc := b_SB_pin) (maxL := 5) (ret := (some .int)) (by decide) rfl ?_
  intro p e s m args below meth c s₁ Bd hml hnh hv
  obtain ⟨rfl, hP, hK, hF⟩ := hv
  have hx := Bd.exec
  have hb := Bd.bytes
  have hr := Bd.returns
  have hts : ∀ w ∈ lw_g, w.before _ s = true := fun w h => atoms_spec (ws := wsA y_SB_pin b_SB_pin 5 (some .int)) Bd.pre w (List.mem_cons_of_mem _ h)
  have hown : s.vm.findClass R_SB = some m.cls := findClass_of_methodNamed Bd.named
  have hlocks := Bd.notSynchronized
  have hl := lv_entry ([.ref (aS 0), .int t, .int s0, .int k0]) (n := 5) (Nat.le_of_ble_eq_true rfl)
  rw [lg_entry_eq]
  generalize (lg_sl ([.ref (aS 0), .int t, .int s0, .int k0]) ++ List.replicate (5 - (lg_sl ([.ref (aS 0), .int t, .int s0, .int k0])).length) Slot.unset).toArray = ls at hl ⊢
  have hl : lv_has ls 5 [(0, .ref (aS 0)), (1, .int t), (2, .int s0), (3, .int k0)] := hl
  have hP : va_P D classes ((aS 0, .inr (0, [.ref (aS 1), .int (nI tc), .ref (aB 0), .ref (aN 0), .ref (aP 0), .ref (aE 0), .ref (aI 0)])) :: (aS 1, .inl (cT, 40, .inr (.inr (.inr (.inr tf))))) :: tcs) s.heap := hP
  refine lv_aload_n hx hb d_SB_pin_0 rfl (lv_at hl 0 rfl) ?_
  refine lv_iload_n hx hb d_SB_pin_1 rfl (lv_at hl 1 rfl) ?_
  refine zrM_V (ci := 0) (q0 := 0) (As := [.int t]) (rest := []) (n := 1) ⟨hx, hb, hml, hown, hts⟩ (c_SB_findBlock l D aS aB aN aP aE aI cA cZ c2 cT tc tf tcs t v h40 hfb) ⟨km_SB_106, ki_SB_findBlock, ks_SB_findBlock, kn_SB, kd_SB_findBlock⟩ (by decide +kernel) (by decide) ⟨Nat.zero_le _, Nat.zero_le _⟩ hK (hP.mem (fun q hq => hq)) rfl rfl rfl hl.1 rfl (Nat.le_of_ble_eq_true rfl) d_SB_pin_2 ?_
  refine lv_istore (lv' := [(4, .int v), (0, .ref (aS 0)), (1, .int t), (2, .int s0), (3, .int k0)]) hx hb d_SB_pin_5 hl (by decide) rfl (fun ls hl => ?_)
  refine lv_iload hx hb d_SB_pin_7 (lv_at hl 0 rfl) ?_
  refine lv_iconst (v := (-1)) hx hb d_SB_pin_9 (by decide) ?_
  refine lv_icmp_eq (tgt := 31) hx hb d_SB_pin_10 (by decide) (fun c_1 => ?_) (fun c_1 => ?_)
  · obtain ⟨tx9, htx⟩ := hF.2.2.2.2.1 (197, "no such block, side or pin") (by decide)
    exact zt_throw (own := R_SB) (cls := R_JIOB) (tx := "no such block, side or pin") (names := exN) (iN := 110) (iT := 197) (ic := 114) (str := tx9) hx hb htl hnh hown (by decide +kernel) (by decide +kernel) (zT2_hat hF hts (by decide) tm_JIOB) (hts _ kc_SB_110) (hts _ kn_JIOB) htx (hl.1.trans hml.symm) d_SB_pin_31 d_SB_pin_34 d_SB_pin_35 d_SB_pin_37 d_SB_pin_40 (Nat.le_of_ble_eq_true rfl) (Nat.le_of_ble_eq_true rfl) (Nat.le_of_ble_eq_true rfl) (Nat.le_of_ble_eq_true rfl) hlocks
  · refine lv_iload_n hx hb d_SB_pin_13 rfl (lv_at hl 3 rfl) ?_
    refine lv_if_lt (tgt := 31) hx hb d_SB_pin_14 (by decide) (fun c_2 => ?_) (fun c_2 => ?_)
    · obtain ⟨tx9, htx⟩ := hF.2.2.2.2.1 (197, "no such block, side or pin") (by decide)
      exact zt_throw (own := R_SB) (cls := R_JIOB) (tx := "no such block, side or pin") (names := exN) (iN := 110) (iT := 197) (ic := 114) (str := tx9) hx hb htl hnh hown (by decide +kernel) (by decide +kernel) (zT2_hat hF hts (by decide) tm_JIOB) (hts _ kc_SB_110) (hts _ kn_JIOB) htx (hl.1.trans hml.symm) d_SB_pin_31 d_SB_pin_34 d_SB_pin_35 d_SB_pin_37 d_SB_pin_40 (Nat.le_of_ble_eq_true rfl) (Nat.le_of_ble_eq_true rfl) (Nat.le_of_ble_eq_true rfl) (Nat.le_of_ble_eq_true rfl) hlocks
    · refine lv_iload_n hx hb d_SB_pin_17 rfl (lv_at hl 3 rfl) ?_
      refine lv_iconst (v := nI 4) hx hb d_SB_pin_18 (by decide) ?_
      refine lv_icmp_ge (tgt := 31) hx hb d_SB_pin_19 (by decide) (fun c_3 => ?_) (fun c_3 => ?_)
      · obtain ⟨tx9, htx⟩ := hF.2.2.2.2.1 (197, "no such block, side or pin") (by decide)
        exact zt_throw (own := R_SB) (cls := R_JIOB) (tx := "no such block, side or pin") (names := exN) (iN := 110) (iT := 197) (ic := 114) (str := tx9) hx hb htl hnh hown (by decide +kernel) (by decide +kernel) (zT2_hat hF hts (by decide) tm_JIOB) (hts _ kc_SB_110) (hts _ kn_JIOB) htx (hl.1.trans hml.symm) d_SB_pin_31 d_SB_pin_34 d_SB_pin_35 d_SB_pin_37 d_SB_pin_40 (Nat.le_of_ble_eq_true rfl) (Nat.le_of_ble_eq_true rfl) (Nat.le_of_ble_eq_true rfl) (Nat.le_of_ble_eq_true rfl) hlocks
      · refine lv_iload_n hx hb d_SB_pin_22 rfl (lv_at hl 4 rfl) ?_
        refine lv_if_lt (tgt := 31) hx hb d_SB_pin_23 (by decide) (fun c_4 => ?_) (fun c_4 => ?_)
        · obtain ⟨tx9, htx⟩ := hF.2.2.2.2.1 (197, "no such block, side or pin") (by decide)
          exact zt_throw (own := R_SB) (cls := R_JIOB) (tx := "no such block, side or pin") (names := exN) (iN := 110) (iT := 197) (ic := 114) (str := tx9) hx hb htl hnh hown (by decide +kernel) (by decide +kernel) (zT2_hat hF hts (by decide) tm_JIOB) (hts _ kc_SB_110) (hts _ kn_JIOB) htx (hl.1.trans hml.symm) d_SB_pin_31 d_SB_pin_34 d_SB_pin_35 d_SB_pin_37 d_SB_pin_40 (Nat.le_of_ble_eq_true rfl) (Nat.le_of_ble_eq_true rfl) (Nat.le_of_ble_eq_true rfl) (Nat.le_of_ble_eq_true rfl) hlocks
        · refine lv_iload_n hx hb d_SB_pin_26 rfl (lv_at hl 4 rfl) ?_
          refine lv_iconst (v := nI 2) hx hb d_SB_pin_27 (by decide) ?_
          refine lv_icmp_lt (tgt := 41) hx hb d_SB_pin_28 (by decide) (fun c_5 => ?_) (fun c_5 => ?_)
          · exact absurd hno (fun q => q.elim c_1 (fun q => q.elim c_2 (fun q => q.elim (i_lt4 c_3) (fun q => q.elim c_4 (i_lt2 c_5)))))
          · obtain ⟨tx9, htx⟩ := hF.2.2.2.2.1 (197, "no such block, side or pin") (by decide)
            exact zt_throw (own := R_SB) (cls := R_JIOB) (tx := "no such block, side or pin") (names := exN) (iN := 110) (iT := 197) (ic := 114) (str := tx9) hx hb htl hnh hown (by decide +kernel) (by decide +kernel) (zT2_hat hF hts (by decide) tm_JIOB) (hts _ kc_SB_110) (hts _ kn_JIOB) htx (hl.1.trans hml.symm) d_SB_pin_31 d_SB_pin_34 d_SB_pin_35 d_SB_pin_37 d_SB_pin_40 (Nat.le_of_ble_eq_true rfl) (Nat.le_of_ble_eq_true rfl) (Nat.le_of_ble_eq_true rfl) (Nat.le_of_ble_eq_true rfl) hlocks
set_option maxHeartbeats 4000000 in
set_option maxRecDepth 100000 in
/-- fix: no block -/
theorem x_SB_fix1 (l : Launch) (D : va_G) (htl : ∀ e' : Env, l.admits e' → e'.platform.stackTraces = false) (aS aB aN aP aE aI : Nat → Nat) (cA cZ c2 cT : ClassId) (tc : Nat) (tf : Nat → Option Nat) (tcs : va_W) (t v : Int32) (x0 y0 : Int64) (h40 : tc ≤ 40) (hfb : fbR tc tf tcs t v) (hv0 : v = -1) : zt_Met l y_SB_fix (wsA y_SB_fix b_SB_fix 7 (some .boolean)) ({ frames := 6, cells := 1, slots := 6, locals := 90 } : Room) (zRF zT2 D [(cA, .int), (cZ, .boolean), (c2, .array .int), (cT, .object R_TH)] ((aS 0, .inr (0, [.ref (aS 1), .int (nI tc), .ref (aB 0), .ref (aN 0), .ref (aP 0), .ref (aE 0), .ref (aI 0)])) :: (aS 1, .inl (cT, 40, .inr (.inr (.inr (.inr tf))))) :: tcs) [.ref (aS 0), .int t, .long x0, .long y0]) (zt_Q R_JIOB) 1 6 (fun _ => False) := by
  refine zt_Met.ofW (cc := b_SB_fix) (maxL := 7) (ret := (some .boolean)) (by decide) rfl ?_
  intro p e s m args below meth c s₁ Bd hml hnh hv
  obtain ⟨rfl, hP, hK, hF⟩ := hv
  have hx := Bd.exec
  have hb := Bd.bytes
  have hr := Bd.returns
  have hts : ∀ w ∈ lw_g, w.before _ s = true := fun w h => atoms_spec (ws := wsA y_SB_fix b_SB_fix 7 (some .boolean)) Bd.pre w (List.mem_cons_of_mem _ h)
  have hown : s.vm.findClass R_SB = some m.cls := findClass_of_methodNamed Bd.named
  have hlocks := Bd.notSynchronized
  have hl := lv_entry ([.ref (aS 0), .int t, .long x0, .long y0]) (n := 7) (Nat.le_of_ble_eq_true rfl)
  rw [lg_entry_eq]
  generalize (lg_sl ([.ref (aS 0), .int t, .long x0, .long y0]) ++ List.replicate (7 - (lg_sl ([.ref (aS 0), .int t, .long x0, .long y0])).length) Slot.unset).toArray = ls at hl ⊢
  have hl : lv_has ls 7 [(0, .ref (aS 0)), (1, .int t), (2, .long x0), (4, .long y0)] := hl
  have hP : va_P D classes ((aS 0, .inr (0, [.ref (aS 1), .int (nI tc), .ref (aB 0), .ref (aN 0), .ref (aP 0), .ref (aE 0), .ref (aI 0)])) :: (aS 1, .inl (cT, 40, .inr (.inr (.inr (.inr tf))))) :: tcs) s.heap := hP
  refine lv_aload_n hx hb d_SB_fix_0 rfl (lv_at hl 0 rfl) ?_
  refine lv_iload_n hx hb d_SB_fix_1 rfl (lv_at hl 1 rfl) ?_
  refine zrM_V (ci := 0) (q0 := 0) (As := [.int t]) (rest := []) (n := 1) ⟨hx, hb, hml, hown, hts⟩ (c_SB_findBlock l D aS aB aN aP aE aI cA cZ c2 cT tc tf tcs t v h40 hfb) ⟨km_SB_106, ki_SB_findBlock, ks_SB_findBlock, kn_SB, kd_SB_findBlock⟩ (by decide +kernel) (by decide) ⟨Nat.zero_le _, Nat.zero_le _⟩ hK (hP.mem (fun q hq => hq)) rfl rfl rfl hl.1 rfl (Nat.le_of_ble_eq_true rfl) d_SB_fix_2 ?_
  refine lv_istore (lv' := [(6, .int v), (0, .ref (aS 0)), (1, .int t), (2, .long x0), (4, .long y0)]) hx hb d_SB_fix_5 hl (by decide) rfl (fun ls hl => ?_)
  refine lv_iload hx hb d_SB_fix_7 (lv_at hl 0 rfl) ?_
  refine lv_iconst (v := (-1)) hx hb d_SB_fix_9 (by decide) ?_
  refine lv_icmp_ne (tgt := 23) hx hb d_SB_fix_10 (by decide) (fun c_1 => ?_) (fun c_1 => ?_)
  · exact absurd hv0 c_1
  · obtain ⟨tx9, htx⟩ := hF.2.2.2.2.1 (112, "no such block") (by decide)
    exact zt_throw (own := R_SB) (cls := R_JIOB) (tx := "no such block") (names := exN) (iN := 110) (iT := 112) (ic := 114) (str := tx9) hx hb htl hnh hown (by decide +kernel) (by decide +kernel) (zT2_hat hF hts (by decide) tm_JIOB) (hts _ kc_SB_110) (hts _ kn_JIOB) htx (hl.1.trans hml.symm) d_SB_fix_13 d_SB_fix_16 d_SB_fix_17 d_SB_fix_19 d_SB_fix_22 (Nat.le_of_ble_eq_true rfl) (Nat.le_of_ble_eq_true rfl) (Nat.le_of_ble_eq_true rfl) (Nat.le_of_ble_eq_true rfl) hlocks
set_option maxHeartbeats 4000000 in
set_option maxRecDepth 100000 in
/-- fix: too far -/
theorem x_SB_fix2 (l : Launch) (D : va_G) (htl : ∀ e' : Env, l.admits e' → e'.platform.stackTraces = false) (aS aB aN aP aE aI : Nat → Nat) (cA cZ c2 cT : ClassId) (tc : Nat) (tf : Nat → Option Nat) (tcs : va_W) (t v : Int32) (x0 y0 : Int64) (h40 : tc ≤ 40) (hfb : fbR tc tf tcs t v) (hv0 : v ≠ -1) (hno : x0 < lN 0 ∨ lN 20000 < x0 ∨ y0 < lN 0 ∨ lN 20000 < y0) : zt_Met l y_SB_fix (wsA y_SB_fix b_SB_fix 7 (some .boolean)) ({ frames := 6, cells := 1, slots := 6, locals := 90 } : Room) (zRF zT2 D [(cA, .int), (cZ, .boolean), (c2, .array .int), (cT, .object R_TH)] ((aS 0, .inr (0, [.ref (aS 1), .int (nI tc), .ref (aB 0), .ref (aN 0), .ref (aP 0), .ref (aE 0), .ref (aI 0)])) :: (aS 1, .inl (cT, 40, .inr (.inr (.inr (.inr tf))))) :: tcs) [.ref (aS 0), .int t, .long x0, .long y0]) (zt_Q R_JIAE) 1 6 (fun _ => False) := by
  refine zt_Met.ofW (cc := b_SB_fix) (maxL := 7) (ret := (some .boolean)) (by decide) rfl ?_
  intro p e s m args below meth c s₁ Bd hml hnh hv
  obtain ⟨rfl, hP, hK, hF⟩ := hv
  have hx := Bd.exec
  have hb := Bd.bytes
  have hr := Bd.returns
  have hts : ∀ w ∈ lw_g, w.before _ s = true := fun w h => atoms_spec (ws := wsA y_SB_fix b_SB_fix 7 (some .boolean)) Bd.pre w (List.mem_cons_of_mem _ h)
  have hown : s.vm.findClass R_SB = some m.cls := findClass_of_methodNamed Bd.named
  have hlocks := Bd.notSynchronized
  have hl := lv_entry ([.ref (aS 0), .int t, .long x0, .long y0]) (n := 7) (Nat.le_of_ble_eq_true rfl)
  rw [lg_entry_eq]
  generalize (lg_sl ([.ref (aS 0), .int t, .long x0, .long y0]) ++ List.replicate (7 - (lg_sl ([.ref (aS 0), .int t, .long x0, .long y0])).length) Slot.unset).toArray = ls at hl ⊢
  have hl : lv_has ls 7 [(0, .ref (aS 0)), (1, .int t), (2, .long x0), (4, .long y0)] := hl
  have hP : va_P D classes ((aS 0, .inr (0, [.ref (aS 1), .int (nI tc), .ref (aB 0), .ref (aN 0), .ref (aP 0), .ref (aE 0), .ref (aI 0)])) :: (aS 1, .inl (cT, 40, .inr (.inr (.inr (.inr tf))))) :: tcs) s.heap := hP
  refine lv_aload_n hx hb d_SB_fix_0 rfl (lv_at hl 0 rfl) ?_
  refine lv_iload_n hx hb d_SB_fix_1 rfl (lv_at hl 1 rfl) ?_
  refine zrM_V (ci := 0) (q0 := 0) (As := [.int t]) (rest := []) (n := 1) ⟨hx, hb, hml, hown, hts⟩ (c_SB_findBlock l D aS aB aN aP aE aI cA cZ c2 cT tc tf tcs t v h40 hfb) ⟨km_SB_106, ki_SB_findBlock, ks_SB_findBlock, kn_SB, kd_SB_findBlock⟩ (by decide +kernel) (by decide) ⟨Nat.zero_le _, Nat.zero_le _⟩ hK (hP.mem (fun q hq => hq)) rfl rfl rfl hl.1 rfl (Nat.le_of_ble_eq_true rfl) d_SB_fix_2 ?_
  refine lv_istore (lv' := [(6, .int v), (0, .ref (aS 0)), (1, .int t), (2, .long x0), (4, .long y0)]) hx hb d_SB_fix_5 hl (by decide) rfl (fun ls hl => ?_)
  refine lv_iload hx hb d_SB_fix_7 (lv_at hl 0 rfl) ?_
  refine lv_iconst (v := (-1)) hx hb d_SB_fix_9 (by decide) ?_
  refine lv_icmp_ne (tgt := 23) hx hb d_SB_fix_10 (by decide) (fun _ => ?_) (fun h => absurd h hv0)
  refine lv_lload_n hx hb d_SB_fix_23 rfl (lv_at hl 3 rfl) ?_
  refine lv_lconst (v := lN 0) hx hb d_SB_fix_24 (by decide) ?_
  refine lv_ldc2 hx hb hown (hts _ kL_SB_115) d_SB_fix_25 ?_
  refine lv_tol (z := lN 20000) (by decide) ?_
  refine zr_S (As := [.long x0, .long (lN 0), .long (lN 20000)]) (rest := []) (n := 3) ⟨hx, hb, hml, hown, hts⟩ (c_SB_isWithin l D x0 (lN 0) (lN 20000)) ⟨km_SB_77, kst_SB_isWithin, kn_SB, kd_SB_isWithin⟩ (by decide +kernel) (by decide) ⟨Nat.zero_le _, Nat.zero_le _⟩ hK hP [] rfl [] rfl rfl hl.1 rfl (Nat.le_of_ble_eq_true rfl) d_SB_fix_28 ?_
  refine z_zeq (tgt := 46) hx hb d_SB_fix_31 (by decide) (fun c_1 => ?_) (fun c_1 => ?_)
  · obtain ⟨tx9, htx⟩ := hF.2.2.2.2.1 (117, "a place is not 0 .. 20000") (by decide)
    exact zt_throw (own := R_SB) (cls := R_JIAE) (tx := "a place is not 0 .. 20000") (names := exN) (iN := 81) (iT := 117) (ic := 85) (str := tx9) hx hb htl hnh hown (by decide +kernel) (by decide +kernel) (zT2_hat hF hts (by decide) tm_JIAE) (hts _ kc_SB_81) (hts _ kn_JIAE) htx (hl.1.trans hml.symm) d_SB_fix_46 d_SB_fix_49 d_SB_fix_50 d_SB_fix_52 d_SB_fix_55 (Nat.le_of_ble_eq_true rfl) (Nat.le_of_ble_eq_true rfl) (Nat.le_of_ble_eq_true rfl) (Nat.le_of_ble_eq_true rfl) hlocks
  · refine lv_lload hx hb d_SB_fix_34 (lv_at hl 4 rfl) ?_
    refine lv_lconst (v := lN 0) hx hb d_SB_fix_36 (by decide) ?_
    refine lv_ldc2 hx hb hown (hts _ kL_SB_115) d_SB_fix_37 ?_
    refine lv_tol (z := lN 20000) (by decide) ?_
    refine zr_S (As := [.long y0, .long (lN 0), .long (lN 20000)]) (rest := []) (n := 3) ⟨hx, hb, hml, hown, hts⟩ (c_SB_isWithin l D y0 (lN 0) (lN 20000)) ⟨km_SB_77, kst_SB_isWithin, kn_SB, kd_SB_isWithin⟩ (by decide +kernel) (by decide) ⟨Nat.zero_le _, Nat.zero_le _⟩ hK hP [] rfl [] rfl rfl hl.1 rfl (Nat.le_of_ble_eq_true rfl) d_SB_fix_40 ?_
    refine z_zne (tgt := 56) hx hb d_SB_fix_43 (by decide) (fun c_2 => ?_) (fun c_2 => ?_)
    · exact absurd hno (fun q => by have a := of_decide_eq_true c_1; have b := of_decide_eq_true c_2; exact q.elim (fun q => absurd a.1 (Int64.not_le.mpr q)) (fun q => q.elim (fun q => absurd a.2 (Int64.not_le.mpr q)) (fun q => q.elim (fun q => absurd b.1 (Int64.not_le.mpr q)) (fun q => absurd b.2 (Int64.not_le.mpr q)))))
    · obtain ⟨tx9, htx⟩ := hF.2.2.2.2.1 (117, "a place is not 0 .. 20000") (by decide)
      exact zt_throw (own := R_SB) (cls := R_JIAE) (tx := "a place is not 0 .. 20000") (names := exN) (iN := 81) (iT := 117) (ic := 85) (str := tx9) hx hb htl hnh hown (by decide +kernel) (by decide +kernel) (zT2_hat hF hts (by decide) tm_JIAE) (hts _ kc_SB_81) (hts _ kn_JIAE) htx (hl.1.trans hml.symm) d_SB_fix_46 d_SB_fix_49 d_SB_fix_50 d_SB_fix_52 d_SB_fix_55 (Nat.le_of_ble_eq_true rfl) (Nat.le_of_ble_eq_true rfl) (Nat.le_of_ble_eq_true rfl) (Nat.le_of_ble_eq_true rfl) hlocks
set_option maxHeartbeats 4000000 in
set_option maxRecDepth 100000 in
/-- pair: refused -/
theorem x_SB_pair (l : Launch) (D : va_G) (htl : ∀ e' : Env, l.admits e' → e'.platform.stackTraces = false) (aS aB aN aP aE aI : Nat → Nat) (cA cZ c2 cT : ClassId) (tc : Nat) (tf : Nat → Option Nat) (t : Int32) (hno : t < 0 ∨ 2000 < t) : zt_Met l y_SB_pair (wsA y_SB_pair b_SB_pair 2 (some .int)) ({ frames := 6, cells := 1, slots := 6, locals := 90 } : Room) (zRF zT2 D [(cA, .int), (cZ, .boolean), (c2, .array .int), (cT, .object R_TH)] [(aS 0, .inr (0, [.ref (aS 1), .int (nI tc), .ref (aB 0), .ref (aN 0), .ref (aP 0), .ref (aE 0), .ref (aI 0)])), (aS 1, .inl (cT, 40, .inr (.inr (.inr (.inr tf)))))] [.ref (aS 0), .int t]) (zt_Q R_JIAE) 1 6 (fun _ => False) := by
  refine zt_Met.ofW (cc := b_SB_pair) (maxL := 2) (ret := (some .int)) (by decide) rfl ?_
  intro p e s m args below meth c s₁ Bd hml hnh hv
  obtain ⟨rfl, hP, hK, hF⟩ := hv
  have hx := Bd.exec
  have hb := Bd.bytes
  have hr := Bd.returns
  have hts : ∀ w ∈ lw_g, w.before _ s = true := fun w h => atoms_spec (ws := wsA y_SB_pair b_SB_pair 2 (some .int)) Bd.pre w (List.mem_cons_of_mem _ h)
  have hown : s.vm.findClass R_SB = some m.cls := findClass_of_methodNamed Bd.named
  have hlocks := Bd.notSynchronized
  have hl := lv_entry ([.ref (aS 0), .int t]) (n := 2) (Nat.le_of_ble_eq_true rfl)
  rw [lg_entry_eq]
  generalize (lg_sl ([.ref (aS 0), .int t]) ++ List.replicate (2 - (lg_sl ([.ref (aS 0), .int t])).length) Slot.unset).toArray = ls at hl ⊢
  have hl : lv_has ls 2 [(0, .ref (aS 0)), (1, .int t)] := hl
  have hP : va_P D classes [(aS 0, .inr (0, [.ref (aS 1), .int (nI tc), .ref (aB 0), .ref (aN 0), .ref (aP 0), .ref (aE 0), .ref (aI 0)])), (aS 1, .inl (cT, 40, .inr (.inr (.inr (.inr tf)))))] s.heap := hP
  refine lv_iload_n hx hb d_SB_pair_0 rfl (lv_at hl 1 rfl) ?_
  refine lv_if_lt (tgt := 11) hx hb d_SB_pair_1 (by decide) (fun c_1 => ?_) (fun c_1 => ?_)
  · obtain ⟨tx9, htx⟩ := hF.2.2.2.2.1 (171, "tries are not 0 .. 2000") (by decide)
    exact zt_throw (own := R_SB) (cls := R_JIAE) (tx := "tries are not 0 .. 2000") (names := exN) (iN := 81) (iT := 171) (ic := 85) (str := tx9) hx hb htl hnh hown (by decide +kernel) (by decide +kernel) (zT2_hat hF hts (by decide) tm_JIAE) (hts _ kc_SB_81) (hts _ kn_JIAE) htx (hl.1.trans hml.symm) d_SB_pair_11 d_SB_pair_14 d_SB_pair_15 d_SB_pair_17 d_SB_pair_20 (Nat.le_of_ble_eq_true rfl) (Nat.le_of_ble_eq_true rfl) (Nat.le_of_ble_eq_true rfl) (Nat.le_of_ble_eq_true rfl) hlocks
  · refine lv_iload_n hx hb d_SB_pair_4 rfl (lv_at hl 1 rfl) ?_
    refine lv_sipush (v := nI 2000) hx hb d_SB_pair_5 (by decide) ?_
    refine lv_icmp_le (tgt := 21) hx hb d_SB_pair_8 (by decide) (fun c_2 => ?_) (fun c_2 => ?_)
    · exact absurd hno (fun q => q.elim c_1 (fun q => absurd c_2 (Int32.not_le.mpr q)))
    · obtain ⟨tx9, htx⟩ := hF.2.2.2.2.1 (171, "tries are not 0 .. 2000") (by decide)
      exact zt_throw (own := R_SB) (cls := R_JIAE) (tx := "tries are not 0 .. 2000") (names := exN) (iN := 81) (iT := 171) (ic := 85) (str := tx9) hx hb htl hnh hown (by decide +kernel) (by decide +kernel) (zT2_hat hF hts (by decide) tm_JIAE) (hts _ kc_SB_81) (hts _ kn_JIAE) htx (hl.1.trans hml.symm) d_SB_pair_11 d_SB_pair_14 d_SB_pair_15 d_SB_pair_17 d_SB_pair_20 (Nat.le_of_ble_eq_true rfl) (Nat.le_of_ble_eq_true rfl) (Nat.le_of_ble_eq_true rfl) (Nat.le_of_ble_eq_true rfl) hlocks
set_option maxHeartbeats 4000000 in
set_option maxRecDepth 100000 in
/-- outline: refused -/
theorem x_SB_outline (l : Launch) (D : va_G) (htl : ∀ e' : Env, l.admits e' → e'.platform.stackTraces = false) (aS aB aN aP aE aI : Nat → Nat) (cA cZ c2 cT : ClassId) (tc : Nat) (tf : Nat → Option Nat) (u0 v0 : Int64) (hno : u0 < lN 1 ∨ v0 < lN 1) : zt_Met l y_SB_outline (wsA y_SB_outline b_SB_outline 5 (some .boolean)) ({ frames := 6, cells := 1, slots := 6, locals := 90 } : Room) (zRF zT2 D [(cA, .int), (cZ, .boolean), (c2, .array .int), (cT, .object R_TH)] [(aS 0, .inr (0, [.ref (aS 1), .int (nI tc), .ref (aB 0), .ref (aN 0), .ref (aP 0), .ref (aE 0), .ref (aI 0)])), (aS 1, .inl (cT, 40, .inr (.inr (.inr (.inr tf)))))] [.ref (aS 0), .long u0, .long v0]) (zt_Q R_JIAE) 1 6 (fun _ => False) := by
  refine zt_Met.ofW (cc := b_SB_outline) (maxL := 5) (ret := (some .boolean)) (by decide) rfl ?_
  intro p e s m args below meth c s₁ Bd hml hnh hv
  obtain ⟨rfl, hP, hK, hF⟩ := hv
  have hx := Bd.exec
  have hb := Bd.bytes
  have hr := Bd.returns
  have hts : ∀ w ∈ lw_g, w.before _ s = true := fun w h => atoms_spec (ws := wsA y_SB_outline b_SB_outline 5 (some .boolean)) Bd.pre w (List.mem_cons_of_mem _ h)
  have hown : s.vm.findClass R_SB = some m.cls := findClass_of_methodNamed Bd.named
  have hlocks := Bd.notSynchronized
  have hl := lv_entry ([.ref (aS 0), .long u0, .long v0]) (n := 5) (Nat.le_of_ble_eq_true rfl)
  rw [lg_entry_eq]
  generalize (lg_sl ([.ref (aS 0), .long u0, .long v0]) ++ List.replicate (5 - (lg_sl ([.ref (aS 0), .long u0, .long v0])).length) Slot.unset).toArray = ls at hl ⊢
  have hl : lv_has ls 5 [(0, .ref (aS 0)), (1, .long u0), (3, .long v0)] := hl
  have hP : va_P D classes [(aS 0, .inr (0, [.ref (aS 1), .int (nI tc), .ref (aB 0), .ref (aN 0), .ref (aP 0), .ref (aE 0), .ref (aI 0)])), (aS 1, .inl (cT, 40, .inr (.inr (.inr (.inr tf)))))] s.heap := hP
  refine lv_lload_n hx hb d_SB_outline_0 rfl (lv_at hl 1 rfl) ?_
  refine lv_lconst (v := lN 1) hx hb d_SB_outline_1 (by decide) ?_
  refine y_llt (tgt := 12) hx hb d_SB_outline_2 d_SB_outline_3 (by decide) (fun c_1 => ?_) (fun c_1 => ?_)
  · obtain ⟨tx9, htx⟩ := hF.2.2.2.2.1 (205, "a side is below 1") (by decide)
    exact zt_throw (own := R_SB) (cls := R_JIAE) (tx := "a side is below 1") (names := exN) (iN := 81) (iT := 205) (ic := 85) (str := tx9) hx hb htl hnh hown (by decide +kernel) (by decide +kernel) (zT2_hat hF hts (by decide) tm_JIAE) (hts _ kc_SB_81) (hts _ kn_JIAE) htx (hl.1.trans hml.symm) d_SB_outline_12 d_SB_outline_15 d_SB_outline_16 d_SB_outline_18 d_SB_outline_21 (Nat.le_of_ble_eq_true rfl) (Nat.le_of_ble_eq_true rfl) (Nat.le_of_ble_eq_true rfl) (Nat.le_of_ble_eq_true rfl) hlocks
  · refine lv_lload_n hx hb d_SB_outline_6 rfl (lv_at hl 2 rfl) ?_
    refine lv_lconst (v := lN 1) hx hb d_SB_outline_7 (by decide) ?_
    refine y_lge (tgt := 22) hx hb d_SB_outline_8 d_SB_outline_9 (by decide) (fun c_2 => ?_) (fun c_2 => ?_)
    · exact absurd hno (fun q => q.elim c_1 (fun q => absurd c_2 (Int64.not_le.mpr q)))
    · obtain ⟨tx9, htx⟩ := hF.2.2.2.2.1 (205, "a side is below 1") (by decide)
      exact zt_throw (own := R_SB) (cls := R_JIAE) (tx := "a side is below 1") (names := exN) (iN := 81) (iT := 205) (ic := 85) (str := tx9) hx hb htl hnh hown (by decide +kernel) (by decide +kernel) (zT2_hat hF hts (by decide) tm_JIAE) (hts _ kc_SB_81) (hts _ kn_JIAE) htx (hl.1.trans hml.symm) d_SB_outline_12 d_SB_outline_15 d_SB_outline_16 d_SB_outline_18 d_SB_outline_21 (Nat.le_of_ble_eq_true rfl) (Nat.le_of_ble_eq_true rfl) (Nat.le_of_ble_eq_true rfl) (Nat.le_of_ble_eq_true rfl) hlocks
set_option maxHeartbeats 4000000 in
set_option maxRecDepth 100000 in
/-- block: no room -/
theorem x_SB_block1 (l : Launch) (D : va_G) (htl : ∀ e' : Env, l.admits e' → e'.platform.stackTraces = false) (aS aB aN aP aE aI : Nat → Nat) (cA cZ c2 cT : ClassId) (tc : Nat) (tf : Nat → Option Nat) (B : BS) (x0 y0 : Int64) (tu : Bool) (h40 : tc ≤ 40) (h16 : B.2.2.2 ≤ 16) (hno : B.2.2.2 = 16 ∨ tc = 40) : zt_Met l y_SB_block (wsA y_SB_block b_SB_block 7 (some .int)) ({ frames := 6, cells := 1, slots := 6, locals := 90 } : Room) (zRF zT2 D [(cA, .int), (cZ, .boolean), (c2, .array .int), (cT, .object R_TH)] [(aB 0, .inr (1, [.ref (aB 1), .ref (aB 4), .ref (aB 7), .ref (aB 8), .int (nI B.2.2.2)])), (aS 0, .inr (0, [.ref (aS 1), .int (nI tc), .ref (aB 0), .ref (aN 0), .ref (aP 0), .ref (aE 0), .ref (aI 0)])), (aS 1, .inl (cT, 40, .inr (.inr (.inr (.inr tf)))))] [.ref (aS 0), .long x0, .long y0, .int (zb tu)]) (zt_Q R_JISE) 1 6 (fun _ => False) := by
  refine zt_Met.ofW (cc := b_SB_block) (maxL := 7) (ret := (some .int)) (by decide) rfl ?_
  intro p e s m args below meth c s₁ Bd hml hnh hv
  obtain ⟨rfl, hP, hK, hF⟩ := hv
  have hx := Bd.exec
  have hb := Bd.bytes
  have hr := Bd.returns
  have hts : ∀ w ∈ lw_g, w.before _ s = true := fun w h => atoms_spec (ws := wsA y_SB_block b_SB_block 7 (some .int)) Bd.pre w (List.mem_cons_of_mem _ h)
  have hown : s.vm.findClass R_SB = some m.cls := findClass_of_methodNamed Bd.named
  have hlocks := Bd.notSynchronized
  have hl := lv_entry ([.ref (aS 0), .long x0, .long y0, .int (zb tu)]) (n := 7) (Nat.le_of_ble_eq_true rfl)
  rw [lg_entry_eq]
  generalize (lg_sl ([.ref (aS 0), .long x0, .long y0, .int (zb tu)]) ++ List.replicate (7 - (lg_sl ([.ref (aS 0), .long x0, .long y0, .int (zb tu)])).length) Slot.unset).toArray = ls at hl ⊢
  have hl : lv_has ls 7 [(0, .ref (aS 0)), (1, .long x0), (3, .long y0), (5, .int (zb tu))] := hl
  have hP : va_P D classes [(aB 0, .inr (1, [.ref (aB 1), .ref (aB 4), .ref (aB 7), .ref (aB 8), .int (nI B.2.2.2)])), (aS 0, .inr (0, [.ref (aS 1), .int (nI tc), .ref (aB 0), .ref (aN 0), .ref (aP 0), .ref (aE 0), .ref (aI 0)])), (aS 1, .inl (cT, 40, .inr (.inr (.inr (.inr tf)))))] s.heap := hP
  refine lv_aload_n hx hb d_SB_block_0 rfl (lv_at hl 0 rfl) ?_
  refine va_get (D := D) (ci := 0) (v := .ref (aB 0)) (C := R_SB) (T := F_SB) (N := 7) hx hb hts i_SB hown hK hP 1 rfl rfl 2 (by decide) (hts _ kf_SB_22) (fun _ h9 => h9) rfl d_SB_block_1 ?_
  refine va_get (D := D) (ci := 1) (v := .int (nI B.2.2.2)) (C := R_BL) (T := F_BL) (N := 5) hx hb hts i_BL hown hK hP 0 rfl rfl 4 (by decide) (hts _ kf_SB_65) (fun _ h9 => h9) rfl d_SB_block_4 ?_
  refine lv_bipush (v := nI 16) hx hb d_SB_block_7 (by decide) ?_
  refine z_cge (tgt := 21) hx hb d_SB_block_9 (by decide) (by omega) (by omega) (fun c_1 => ?_) (fun c_1 => ?_)
  · obtain ⟨tx9, htx⟩ := hF.2.2.2.2.1 (70, "no room for a block") (by decide)
    exact zt_throw (own := R_SB) (cls := R_JISE) (tx := "no room for a block") (names := exN) (iN := 68) (iT := 70) (ic := 72) (str := tx9) hx hb htl hnh hown (by decide +kernel) (by decide +kernel) (zT2_hat hF hts (by decide) tm_JISE) (hts _ kc_SB_68) (hts _ kn_JISE) htx (hl.1.trans hml.symm) d_SB_block_21 d_SB_block_24 d_SB_block_25 d_SB_block_27 d_SB_block_30 (Nat.le_of_ble_eq_true rfl) (Nat.le_of_ble_eq_true rfl) (Nat.le_of_ble_eq_true rfl) (Nat.le_of_ble_eq_true rfl) hlocks
  · refine lv_aload_n hx hb d_SB_block_12 rfl (lv_at hl 0 rfl) ?_
    refine va_get (D := D) (ci := 0) (v := .int (nI tc)) (C := R_SB) (T := F_SB) (N := 7) hx hb hts i_SB hown hK hP 1 rfl rfl 1 (by decide) (hts _ kf_SB_15) (fun _ h9 => h9) rfl d_SB_block_13 ?_
    refine lv_bipush (v := nI 40) hx hb d_SB_block_16 (by decide) ?_
    refine z_clt (tgt := 31) hx hb d_SB_block_18 (by decide) (by omega) (by omega) (fun c_2 => ?_) (fun c_2 => ?_)
    · exact absurd hno (by omega)
    · obtain ⟨tx9, htx⟩ := hF.2.2.2.2.1 (70, "no room for a block") (by decide)
      exact zt_throw (own := R_SB) (cls := R_JISE) (tx := "no room for a block") (names := exN) (iN := 68) (iT := 70) (ic := 72) (str := tx9) hx hb htl hnh hown (by decide +kernel) (by decide +kernel) (zT2_hat hF hts (by decide) tm_JISE) (hts _ kc_SB_68) (hts _ kn_JISE) htx (hl.1.trans hml.symm) d_SB_block_21 d_SB_block_24 d_SB_block_25 d_SB_block_27 d_SB_block_30 (Nat.le_of_ble_eq_true rfl) (Nat.le_of_ble_eq_true rfl) (Nat.le_of_ble_eq_true rfl) (Nat.le_of_ble_eq_true rfl) hlocks
set_option maxHeartbeats 4000000 in
set_option maxRecDepth 100000 in
/-- block: a side -/
theorem x_SB_block2 (l : Launch) (D : va_G) (htl : ∀ e' : Env, l.admits e' → e'.platform.stackTraces = false) (aS aB aN aP aE aI : Nat → Nat) (cA cZ c2 cT : ClassId) (tc : Nat) (tf : Nat → Option Nat) (B : BS) (x0 y0 : Int64) (tu : Bool) (hro : B.2.2.2 < 16) (hr2 : tc < 40) (hno : x0 < lN 1 ∨ lN 1000 < x0 ∨ y0 < lN 1 ∨ lN 1000 < y0) : zt_Met l y_SB_block (wsA y_SB_block b_SB_block 7 (some .int)) ({ frames := 6, cells := 1, slots := 6, locals := 90 } : Room) (zRF zT2 D [(cA, .int), (cZ, .boolean), (c2, .array .int), (cT, .object R_TH)] [(aB 0, .inr (1, [.ref (aB 1), .ref (aB 4), .ref (aB 7), .ref (aB 8), .int (nI B.2.2.2)])), (aS 0, .inr (0, [.ref (aS 1), .int (nI tc), .ref (aB 0), .ref (aN 0), .ref (aP 0), .ref (aE 0), .ref (aI 0)])), (aS 1, .inl (cT, 40, .inr (.inr (.inr (.inr tf)))))] [.ref (aS 0), .long x0, .long y0, .int (zb tu)]) (zt_Q R_JIAE) 1 6 (fun _ => False) := by
  refine zt_Met.ofW (cc := b_SB_block) (maxL := 7) (ret := (some .int)) (by decide) rfl ?_
  intro p e s m args below meth c s₁ Bd hml hnh hv
  obtain ⟨rfl, hP, hK, hF⟩ := hv
  have hx := Bd.exec
  have hb := Bd.bytes
  have hr := Bd.returns
  have hts : ∀ w ∈ lw_g, w.before _ s = true := fun w h => atoms_spec (ws := wsA y_SB_block b_SB_block 7 (some .int)) Bd.pre w (List.mem_cons_of_mem _ h)
  have hown : s.vm.findClass R_SB = some m.cls := findClass_of_methodNamed Bd.named
  have hlocks := Bd.notSynchronized
  have hl := lv_entry ([.ref (aS 0), .long x0, .long y0, .int (zb tu)]) (n := 7) (Nat.le_of_ble_eq_true rfl)
  rw [lg_entry_eq]
  generalize (lg_sl ([.ref (aS 0), .long x0, .long y0, .int (zb tu)]) ++ List.replicate (7 - (lg_sl ([.ref (aS 0), .long x0, .long y0, .int (zb tu)])).length) Slot.unset).toArray = ls at hl ⊢
  have hl : lv_has ls 7 [(0, .ref (aS 0)), (1, .long x0), (3, .long y0), (5, .int (zb tu))] := hl
  have hP : va_P D classes [(aB 0, .inr (1, [.ref (aB 1), .ref (aB 4), .ref (aB 7), .ref (aB 8), .int (nI B.2.2.2)])), (aS 0, .inr (0, [.ref (aS 1), .int (nI tc), .ref (aB 0), .ref (aN 0), .ref (aP 0), .ref (aE 0), .ref (aI 0)])), (aS 1, .inl (cT, 40, .inr (.inr (.inr (.inr tf)))))] s.heap := hP
  refine lv_aload_n hx hb d_SB_block_0 rfl (lv_at hl 0 rfl) ?_
  refine va_get (D := D) (ci := 0) (v := .ref (aB 0)) (C := R_SB) (T := F_SB) (N := 7) hx hb hts i_SB hown hK hP 1 rfl rfl 2 (by decide) (hts _ kf_SB_22) (fun _ h9 => h9) rfl d_SB_block_1 ?_
  refine va_get (D := D) (ci := 1) (v := .int (nI B.2.2.2)) (C := R_BL) (T := F_BL) (N := 5) hx hb hts i_BL hown hK hP 0 rfl rfl 4 (by decide) (hts _ kf_SB_65) (fun _ h9 => h9) rfl d_SB_block_4 ?_
  refine lv_bipush (v := nI 16) hx hb d_SB_block_7 (by decide) ?_
  refine z_cge (tgt := 21) hx hb d_SB_block_9 (by decide) (by omega) (by omega) (fun h => absurd h (by omega)) (fun _ => ?_)
  refine lv_aload_n hx hb d_SB_block_12 rfl (lv_at hl 0 rfl) ?_
  refine va_get (D := D) (ci := 0) (v := .int (nI tc)) (C := R_SB) (T := F_SB) (N := 7) hx hb hts i_SB hown hK hP 1 rfl rfl 1 (by decide) (hts _ kf_SB_15) (fun _ h9 => h9) rfl d_SB_block_13 ?_
  refine lv_bipush (v := nI 40) hx hb d_SB_block_16 (by decide) ?_
  refine z_clt (tgt := 31) hx hb d_SB_block_18 (by decide) (by omega) (by omega) (fun _ => ?_) (fun h => absurd h (by omega))
  refine lv_lload_n hx hb d_SB_block_31 rfl (lv_at hl 1 rfl) ?_
  refine lv_lconst (v := lN 1) hx hb d_SB_block_32 (by decide) ?_
  refine lv_ldc2 hx hb hown (hts _ kL_SB_75) d_SB_block_33 ?_
  refine lv_tol (z := lN 1000) (by decide) ?_
  refine zr_S (As := [.long x0, .long (lN 1), .long (lN 1000)]) (rest := []) (n := 3) ⟨hx, hb, hml, hown, hts⟩ (c_SB_isWithin l D x0 (lN 1) (lN 1000)) ⟨km_SB_77, kst_SB_isWithin, kn_SB, kd_SB_isWithin⟩ (by decide +kernel) (by decide) ⟨Nat.zero_le _, Nat.zero_le _⟩ hK hP [] rfl [] rfl rfl hl.1 rfl (Nat.le_of_ble_eq_true rfl) d_SB_block_36 ?_
  refine z_zeq (tgt := 53) hx hb d_SB_block_39 (by decide) (fun c_1 => ?_) (fun c_1 => ?_)
  · obtain ⟨tx9, htx⟩ := hF.2.2.2.2.1 (83, "a side is not 1 .. 1000") (by decide)
    exact zt_throw (own := R_SB) (cls := R_JIAE) (tx := "a side is not 1 .. 1000") (names := exN) (iN := 81) (iT := 83) (ic := 85) (str := tx9) hx hb htl hnh hown (by decide +kernel) (by decide +kernel) (zT2_hat hF hts (by decide) tm_JIAE) (hts _ kc_SB_81) (hts _ kn_JIAE) htx (hl.1.trans hml.symm) d_SB_block_53 d_SB_block_56 d_SB_block_57 d_SB_block_59 d_SB_block_62 (Nat.le_of_ble_eq_true rfl) (Nat.le_of_ble_eq_true rfl) (Nat.le_of_ble_eq_true rfl) (Nat.le_of_ble_eq_true rfl) hlocks
  · refine lv_lload_n hx hb d_SB_block_42 rfl (lv_at hl 2 rfl) ?_
    refine lv_lconst (v := lN 1) hx hb d_SB_block_43 (by decide) ?_
    refine lv_ldc2 hx hb hown (hts _ kL_SB_75) d_SB_block_44 ?_
    refine lv_tol (z := lN 1000) (by decide) ?_
    refine zr_S (As := [.long y0, .long (lN 1), .long (lN 1000)]) (rest := []) (n := 3) ⟨hx, hb, hml, hown, hts⟩ (c_SB_isWithin l D y0 (lN 1) (lN 1000)) ⟨km_SB_77, kst_SB_isWithin, kn_SB, kd_SB_isWithin⟩ (by decide +kernel) (by decide) ⟨Nat.zero_le _, Nat.zero_le _⟩ hK hP [] rfl [] rfl rfl hl.1 rfl (Nat.le_of_ble_eq_true rfl) d_SB_block_47 ?_
    refine z_zne (tgt := 63) hx hb d_SB_block_50 (by decide) (fun c_2 => ?_) (fun c_2 => ?_)
    · exact absurd hno (fun q => by have a := of_decide_eq_true c_1; have b := of_decide_eq_true c_2; exact q.elim (fun q => absurd a.1 (Int64.not_le.mpr q)) (fun q => q.elim (fun q => absurd a.2 (Int64.not_le.mpr q)) (fun q => q.elim (fun q => absurd b.1 (Int64.not_le.mpr q)) (fun q => absurd b.2 (Int64.not_le.mpr q)))))
    · obtain ⟨tx9, htx⟩ := hF.2.2.2.2.1 (83, "a side is not 1 .. 1000") (by decide)
      exact zt_throw (own := R_SB) (cls := R_JIAE) (tx := "a side is not 1 .. 1000") (names := exN) (iN := 81) (iT := 83) (ic := 85) (str := tx9) hx hb htl hnh hown (by decide +kernel) (by decide +kernel) (zT2_hat hF hts (by decide) tm_JIAE) (hts _ kc_SB_81) (hts _ kn_JIAE) htx (hl.1.trans hml.symm) d_SB_block_53 d_SB_block_56 d_SB_block_57 d_SB_block_59 d_SB_block_62 (Nat.le_of_ble_eq_true rfl) (Nat.le_of_ble_eq_true rfl) (Nat.le_of_ble_eq_true rfl) (Nat.le_of_ble_eq_true rfl) hlocks
set_option maxHeartbeats 4000000 in
set_option maxRecDepth 100000 in
/-- net: no block -/
theorem x_SB_net1 (l : Launch) (D : va_G) (htl : ∀ e' : Env, l.admits e' → e'.platform.stackTraces = false) (aS aB aN aP aE aI : Nat → Nat) (cA cZ c2 cT : ClassId) (tc : Nat) (tf : Nat → Option Nat) (tcs : va_W) (t u v1 v2 : Int32) (h40 : tc ≤ 40) (hf1 : fbR tc tf tcs t v1) (hf2 : fbR tc tf tcs u v2) (hno : v1 = -1 ∨ v2 = -1) : zt_Met l y_SB_net (wsA y_SB_net b_SB_net 5 (some .int)) ({ frames := 6, cells := 1, slots := 6, locals := 90 } : Room) (zRF zT2 D [(cA, .int), (cZ, .boolean), (c2, .array .int), (cT, .object R_TH)] ((aS 0, .inr (0, [.ref (aS 1), .int (nI tc), .ref (aB 0), .ref (aN 0), .ref (aP 0), .ref (aE 0), .ref (aI 0)])) :: (aS 1, .inl (cT, 40, .inr (.inr (.inr (.inr tf))))) :: tcs) [.ref (aS 0), .int t, .int u]) (zt_Q R_JIOB) 1 6 (fun _ => False) := by
  refine zt_Met.ofW (cc := b_SB_net) (maxL := 5) (ret := (some .int)) (by decide) rfl ?_
  intro p e s m args below meth c s₁ Bd hml hnh hv
  obtain ⟨rfl, hP, hK, hF⟩ := hv
  have hx := Bd.exec
  have hb := Bd.bytes
  have hr := Bd.returns
  have hts : ∀ w ∈ lw_g, w.before _ s = true := fun w h => atoms_spec (ws := wsA y_SB_net b_SB_net 5 (some .int)) Bd.pre w (List.mem_cons_of_mem _ h)
  have hown : s.vm.findClass R_SB = some m.cls := findClass_of_methodNamed Bd.named
  have hlocks := Bd.notSynchronized
  have hl := lv_entry ([.ref (aS 0), .int t, .int u]) (n := 5) (Nat.le_of_ble_eq_true rfl)
  rw [lg_entry_eq]
  generalize (lg_sl ([.ref (aS 0), .int t, .int u]) ++ List.replicate (5 - (lg_sl ([.ref (aS 0), .int t, .int u])).length) Slot.unset).toArray = ls at hl ⊢
  have hl : lv_has ls 5 [(0, .ref (aS 0)), (1, .int t), (2, .int u)] := hl
  have hP : va_P D classes ((aS 0, .inr (0, [.ref (aS 1), .int (nI tc), .ref (aB 0), .ref (aN 0), .ref (aP 0), .ref (aE 0), .ref (aI 0)])) :: (aS 1, .inl (cT, 40, .inr (.inr (.inr (.inr tf))))) :: tcs) s.heap := hP
  refine lv_aload_n hx hb d_SB_net_0 rfl (lv_at hl 0 rfl) ?_
  refine lv_iload_n hx hb d_SB_net_1 rfl (lv_at hl 1 rfl) ?_
  refine zrM_V (ci := 0) (q0 := 0) (As := [.int t]) (rest := []) (n := 1) ⟨hx, hb, hml, hown, hts⟩ (c_SB_findBlock l D aS aB aN aP aE aI cA cZ c2 cT tc tf tcs t v1 h40 hf1) ⟨km_SB_106, ki_SB_findBlock, ks_SB_findBlock, kn_SB, kd_SB_findBlock⟩ (by decide +kernel) (by decide) ⟨Nat.zero_le _, Nat.zero_le _⟩ hK (hP.mem (fun q hq => hq)) rfl rfl rfl hl.1 rfl (Nat.le_of_ble_eq_true rfl) d_SB_net_2 ?_
  refine lv_istore_n (lv' := [(3, .int v1), (0, .ref (aS 0)), (1, .int t), (2, .int u)]) hx hb d_SB_net_5 rfl hl (by decide) rfl (fun ls hl => ?_)
  refine lv_aload_n hx hb d_SB_net_6 rfl (lv_at hl 1 rfl) ?_
  refine lv_iload_n hx hb d_SB_net_7 rfl (lv_at hl 3 rfl) ?_
  refine zrM_V (ci := 0) (q0 := 0) (As := [.int u]) (rest := []) (n := 1) ⟨hx, hb, hml, hown, hts⟩ (c_SB_findBlock l D aS aB aN aP aE aI cA cZ c2 cT tc tf tcs u v2 h40 hf2) ⟨km_SB_106, ki_SB_findBlock, ks_SB_findBlock, kn_SB, kd_SB_findBlock⟩ (by decide +kernel) (by decide) ⟨Nat.zero_le _, Nat.zero_le _⟩ hK (hP.mem (fun q hq => hq)) rfl rfl rfl hl.1 rfl (Nat.le_of_ble_eq_true rfl) d_SB_net_8 ?_
  refine lv_istore (lv' := [(4, .int v2), (3, .int v1), (0, .ref (aS 0)), (1, .int t), (2, .int u)]) hx hb d_SB_net_11 hl (by decide) rfl (fun ls hl => ?_)
  refine lv_iload_n hx hb d_SB_net_13 rfl (lv_at hl 1 rfl) ?_
  refine lv_iconst (v := (-1)) hx hb d_SB_net_14 (by decide) ?_
  refine lv_icmp_eq (tgt := 24) hx hb d_SB_net_15 (by decide) (fun c_1 => ?_) (fun c_1 => ?_)
  · obtain ⟨tx9, htx⟩ := hF.2.2.2.2.1 (112, "no such block") (by decide)
    exact zt_throw (own := R_SB) (cls := R_JIOB) (tx := "no such block") (names := exN) (iN := 110) (iT := 112) (ic := 114) (str := tx9) hx hb htl hnh hown (by decide +kernel) (by decide +kernel) (zT2_hat hF hts (by decide) tm_JIOB) (hts _ kc_SB_110) (hts _ kn_JIOB) htx (hl.1.trans hml.symm) d_SB_net_24 d_SB_net_27 d_SB_net_28 d_SB_net_30 d_SB_net_33 (Nat.le_of_ble_eq_true rfl) (Nat.le_of_ble_eq_true rfl) (Nat.le_of_ble_eq_true rfl) (Nat.le_of_ble_eq_true rfl) hlocks
  · refine lv_iload hx hb d_SB_net_18 (lv_at hl 0 rfl) ?_
    refine lv_iconst (v := (-1)) hx hb d_SB_net_20 (by decide) ?_
    refine lv_icmp_ne (tgt := 34) hx hb d_SB_net_21 (by decide) (fun c_2 => ?_) (fun c_2 => ?_)
    · exact absurd hno (fun q => q.elim c_1 c_2)
    · obtain ⟨tx9, htx⟩ := hF.2.2.2.2.1 (112, "no such block") (by decide)
      exact zt_throw (own := R_SB) (cls := R_JIOB) (tx := "no such block") (names := exN) (iN := 110) (iT := 112) (ic := 114) (str := tx9) hx hb htl hnh hown (by decide +kernel) (by decide +kernel) (zT2_hat hF hts (by decide) tm_JIOB) (hts _ kc_SB_110) (hts _ kn_JIOB) htx (hl.1.trans hml.symm) d_SB_net_24 d_SB_net_27 d_SB_net_28 d_SB_net_30 d_SB_net_33 (Nat.le_of_ble_eq_true rfl) (Nat.le_of_ble_eq_true rfl) (Nat.le_of_ble_eq_true rfl) (Nat.le_of_ble_eq_true rfl) hlocks
set_option maxHeartbeats 4000000 in
set_option maxRecDepth 100000 in
/-- net: refused -/
theorem x_SB_net2 (l : Launch) (D : va_G) (htl : ∀ e' : Env, l.admits e' → e'.platform.stackTraces = false) (aS aB aN aP aE aI : Nat → Nat) (cA cZ c2 cT : ClassId) (tc : Nat) (tf : Nat → Option Nat) (tcs : va_W) (t u : Int32) (aa bb : Nat) (N : NS) (h40 : tc ≤ 40) (hf1 : fbR tc tf tcs t (nI aa)) (hf2 : fbR tc tf tcs u (nI bb)) (haa : aa < 16) (hbb : bb < 16) (hg1 : N.2 ≤ 40) (hg2 : N.1 2 aa < 2 ^ 31) (hg3 : N.1 2 bb < 2 ^ 31) (hno : N.2 = 40 ∨ 8 ≤ N.1 2 aa ∨ 8 ≤ N.1 2 bb) : zt_Met l y_SB_net (wsA y_SB_net b_SB_net 5 (some .int)) ({ frames := 6, cells := 1, slots := 6, locals := 90 } : Room) (zRF zT2 D [(cA, .int), (cZ, .boolean), (c2, .array .int), (cT, .object R_TH)] ((aN 0, .inr (3, [.ref (aN 1), .ref (aN 2), .ref (aN 3), .int (nI N.2)])) :: (aN 1, .inl (cA, 40, .inl (fun zk => nI ((N.1 0) zk)))) :: (aN 2, .inl (cA, 40, .inl (fun zk => nI ((N.1 1) zk)))) :: (aN 3, .inl (cA, 16, .inl (fun zk => nI ((N.1 2) zk)))) :: (aS 0, .inr (0, [.ref (aS 1), .int (nI tc), .ref (aB 0), .ref (aN 0), .ref (aP 0), .ref (aE 0), .ref (aI 0)])) :: (aS 1, .inl (cT, 40, .inr (.inr (.inr (.inr tf))))) :: tcs) [.ref (aS 0), .int t, .int u]) (zt_Q R_JISE) 1 6 (fun _ => False) := by
  refine zt_Met.ofW (cc := b_SB_net) (maxL := 5) (ret := (some .int)) (by decide) rfl ?_
  intro p e s m args below meth c s₁ Bd hml hnh hv
  obtain ⟨rfl, hP, hK, hF⟩ := hv
  have hx := Bd.exec
  have hb := Bd.bytes
  have hr := Bd.returns
  have hts : ∀ w ∈ lw_g, w.before _ s = true := fun w h => atoms_spec (ws := wsA y_SB_net b_SB_net 5 (some .int)) Bd.pre w (List.mem_cons_of_mem _ h)
  have hown : s.vm.findClass R_SB = some m.cls := findClass_of_methodNamed Bd.named
  have hlocks := Bd.notSynchronized
  have hl := lv_entry ([.ref (aS 0), .int t, .int u]) (n := 5) (Nat.le_of_ble_eq_true rfl)
  rw [lg_entry_eq]
  generalize (lg_sl ([.ref (aS 0), .int t, .int u]) ++ List.replicate (5 - (lg_sl ([.ref (aS 0), .int t, .int u])).length) Slot.unset).toArray = ls at hl ⊢
  have hl : lv_has ls 5 [(0, .ref (aS 0)), (1, .int t), (2, .int u)] := hl
  have hP : va_P D classes ((aN 0, .inr (3, [.ref (aN 1), .ref (aN 2), .ref (aN 3), .int (nI N.2)])) :: (aN 1, .inl (cA, 40, .inl (fun zk => nI ((N.1 0) zk)))) :: (aN 2, .inl (cA, 40, .inl (fun zk => nI ((N.1 1) zk)))) :: (aN 3, .inl (cA, 16, .inl (fun zk => nI ((N.1 2) zk)))) :: (aS 0, .inr (0, [.ref (aS 1), .int (nI tc), .ref (aB 0), .ref (aN 0), .ref (aP 0), .ref (aE 0), .ref (aI 0)])) :: (aS 1, .inl (cT, 40, .inr (.inr (.inr (.inr tf))))) :: tcs) s.heap := hP
  refine lv_aload_n hx hb d_SB_net_0 rfl (lv_at hl 0 rfl) ?_
  refine lv_iload_n hx hb d_SB_net_1 rfl (lv_at hl 1 rfl) ?_
  refine zrM_V (ci := 0) (q0 := 0) (As := [.int t]) (rest := []) (n := 1) ⟨hx, hb, hml, hown, hts⟩ (c_SB_findBlock l D aS aB aN aP aE aI cA cZ c2 cT tc tf tcs t (nI aa) h40 hf1) ⟨km_SB_106, ki_SB_findBlock, ks_SB_findBlock, kn_SB, kd_SB_findBlock⟩ (by decide +kernel) (by decide) ⟨Nat.zero_le _, Nat.zero_le _⟩ hK (hP.mem (fun q hq => List.mem_cons_of_mem _ (List.mem_cons_of_mem _ (List.mem_cons_of_mem _ (List.mem_cons_of_mem _ (hq)))))) rfl rfl rfl hl.1 rfl (Nat.le_of_ble_eq_true rfl) d_SB_net_2 ?_
  refine lv_istore_n (lv' := [(3, .int (nI aa)), (0, .ref (aS 0)), (1, .int t), (2, .int u)]) hx hb d_SB_net_5 rfl hl (by decide) rfl (fun ls hl => ?_)
  refine lv_aload_n hx hb d_SB_net_6 rfl (lv_at hl 1 rfl) ?_
  refine lv_iload_n hx hb d_SB_net_7 rfl (lv_at hl 3 rfl) ?_
  refine zrM_V (ci := 0) (q0 := 0) (As := [.int u]) (rest := []) (n := 1) ⟨hx, hb, hml, hown, hts⟩ (c_SB_findBlock l D aS aB aN aP aE aI cA cZ c2 cT tc tf tcs u (nI bb) h40 hf2) ⟨km_SB_106, ki_SB_findBlock, ks_SB_findBlock, kn_SB, kd_SB_findBlock⟩ (by decide +kernel) (by decide) ⟨Nat.zero_le _, Nat.zero_le _⟩ hK (hP.mem (fun q hq => List.mem_cons_of_mem _ (List.mem_cons_of_mem _ (List.mem_cons_of_mem _ (List.mem_cons_of_mem _ (hq)))))) rfl rfl rfl hl.1 rfl (Nat.le_of_ble_eq_true rfl) d_SB_net_8 ?_
  refine lv_istore (lv' := [(4, .int (nI bb)), (3, .int (nI aa)), (0, .ref (aS 0)), (1, .int t), (2, .int u)]) hx hb d_SB_net_11 hl (by decide) rfl (fun ls hl => ?_)
  refine lv_iload_n hx hb d_SB_net_13 rfl (lv_at hl 1 rfl) ?_
  refine lv_iconst (v := (-1)) hx hb d_SB_net_14 (by decide) ?_
  refine lv_icmp_eq (tgt := 24) hx hb d_SB_net_15 (by decide) (fun h => absurd h (nI_m1 (by omega))) (fun _ => ?_)
  refine lv_iload hx hb d_SB_net_18 (lv_at hl 0 rfl) ?_
  refine lv_iconst (v := (-1)) hx hb d_SB_net_20 (by decide) ?_
  refine lv_icmp_ne (tgt := 34) hx hb d_SB_net_21 (by decide) (fun _ => ?_) (fun h => absurd h (nI_m1 (by omega)))
  refine lv_aload_n hx hb d_SB_net_34 rfl (lv_at hl 2 rfl) ?_
  refine va_get (D := D) (ci := 0) (v := .ref (aN 0)) (C := R_SB) (T := F_SB) (N := 7) hx hb hts i_SB hown hK hP 4 rfl rfl 3 (by decide) (hts _ kf_SB_29) (fun _ h9 => h9) rfl d_SB_net_35 ?_
  refine va_get (D := D) (ci := 3) (v := .int (nI N.2)) (C := R_NE) (T := F_NE) (N := 4) hx hb hts i_NE hown hK hP 0 rfl rfl 3 (by decide) (hts _ kf_SB_123) (fun _ h9 => h9) rfl d_SB_net_38 ?_
  refine lv_bipush (v := nI 40) hx hb d_SB_net_41 (by decide) ?_
  refine z_cge (tgt := 69) hx hb d_SB_net_43 (by decide) (by omega) (by omega) (fun c_1 => ?_) (fun c_1 => ?_)
  · obtain ⟨tx9, htx⟩ := hF.2.2.2.2.1 (128, "no room for a net") (by decide)
    exact zt_throw (own := R_SB) (cls := R_JISE) (tx := "no room for a net") (names := exN) (iN := 68) (iT := 128) (ic := 72) (str := tx9) hx hb htl hnh hown (by decide +kernel) (by decide +kernel) (zT2_hat hF hts (by decide) tm_JISE) (hts _ kc_SB_68) (hts _ kn_JISE) htx (hl.1.trans hml.symm) d_SB_net_69 d_SB_net_72 d_SB_net_73 d_SB_net_75 d_SB_net_78 (Nat.le_of_ble_eq_true rfl) (Nat.le_of_ble_eq_true rfl) (Nat.le_of_ble_eq_true rfl) (Nat.le_of_ble_eq_true rfl) hlocks
  · refine lv_aload_n hx hb d_SB_net_46 rfl (lv_at hl 2 rfl) ?_
    refine va_get (D := D) (ci := 0) (v := .ref (aN 0)) (C := R_SB) (T := F_SB) (N := 7) hx hb hts i_SB hown hK hP 4 rfl rfl 3 (by decide) (hts _ kf_SB_29) (fun _ h9 => h9) rfl d_SB_net_47 ?_
    refine lv_iload_n hx hb d_SB_net_50 rfl (lv_at hl 1 rfl) ?_
    refine zr_V (ci := 3) (q0 := 0) (As := [.int (nI aa)]) (rest := []) (n := 1) ⟨hx, hb, hml, hown, hts⟩ (c_NE_isFull l D (aN 0) (aN 1) (aN 2) (aN 3) cA N.2 (N.1 0) (N.1 1) (N.1 2) aa haa (by omega)) ⟨km_SB_124, ki_NE_isFull, ks_NE_isFull, kn_NE, kd_NE_isFull⟩ (by decide +kernel) (by decide) ⟨Nat.zero_le _, Nat.zero_le _⟩ hK hP [0, 1, 2, 3] rfl [0] rfl rfl rfl rfl hl.1 rfl (Nat.le_of_ble_eq_true rfl) d_SB_net_51 ?_
    refine z_zne (tgt := 69) hx hb d_SB_net_54 (by decide) (fun c_2 => ?_) (fun c_2 => ?_)
    · obtain ⟨tx9, htx⟩ := hF.2.2.2.2.1 (128, "no room for a net") (by decide)
      exact zt_throw (own := R_SB) (cls := R_JISE) (tx := "no room for a net") (names := exN) (iN := 68) (iT := 128) (ic := 72) (str := tx9) hx hb htl hnh hown (by decide +kernel) (by decide +kernel) (zT2_hat hF hts (by decide) tm_JISE) (hts _ kc_SB_68) (hts _ kn_JISE) htx (hl.1.trans hml.symm) d_SB_net_69 d_SB_net_72 d_SB_net_73 d_SB_net_75 d_SB_net_78 (Nat.le_of_ble_eq_true rfl) (Nat.le_of_ble_eq_true rfl) (Nat.le_of_ble_eq_true rfl) (Nat.le_of_ble_eq_true rfl) hlocks
    · refine lv_aload_n hx hb d_SB_net_57 rfl (lv_at hl 2 rfl) ?_
      refine va_get (D := D) (ci := 0) (v := .ref (aN 0)) (C := R_SB) (T := F_SB) (N := 7) hx hb hts i_SB hown hK hP 4 rfl rfl 3 (by decide) (hts _ kf_SB_29) (fun _ h9 => h9) rfl d_SB_net_58 ?_
      refine lv_iload hx hb d_SB_net_61 (lv_at hl 0 rfl) ?_
      refine zr_V (ci := 3) (q0 := 0) (As := [.int (nI bb)]) (rest := []) (n := 1) ⟨hx, hb, hml, hown, hts⟩ (c_NE_isFull l D (aN 0) (aN 1) (aN 2) (aN 3) cA N.2 (N.1 0) (N.1 1) (N.1 2) bb hbb (by omega)) ⟨km_SB_124, ki_NE_isFull, ks_NE_isFull, kn_NE, kd_NE_isFull⟩ (by decide +kernel) (by decide) ⟨Nat.zero_le _, Nat.zero_le _⟩ hK hP [0, 1, 2, 3] rfl [0] rfl rfl rfl rfl hl.1 rfl (Nat.le_of_ble_eq_true rfl) d_SB_net_63 ?_
      refine z_zeq (tgt := 79) hx hb d_SB_net_66 (by decide) (fun c_3 => ?_) (fun c_3 => ?_)
      · exact absurd hno (by have a := of_decide_eq_false c_2; have b := of_decide_eq_false c_3; omega)
      · obtain ⟨tx9, htx⟩ := hF.2.2.2.2.1 (128, "no room for a net") (by decide)
        exact zt_throw (own := R_SB) (cls := R_JISE) (tx := "no room for a net") (names := exN) (iN := 68) (iT := 128) (ic := 72) (str := tx9) hx hb htl hnh hown (by decide +kernel) (by decide +kernel) (zT2_hat hF hts (by decide) tm_JISE) (hts _ kc_SB_68) (hts _ kn_JISE) htx (hl.1.trans hml.symm) d_SB_net_69 d_SB_net_72 d_SB_net_73 d_SB_net_75 d_SB_net_78 (Nat.le_of_ble_eq_true rfl) (Nat.le_of_ble_eq_true rfl) (Nat.le_of_ble_eq_true rfl) (Nat.le_of_ble_eq_true rfl) hlocks
set_option maxHeartbeats 4000000 in
set_option maxRecDepth 100000 in
/-- net: refused -/
theorem x_SB_net3 (l : Launch) (D : va_G) (htl : ∀ e' : Env, l.admits e' → e'.platform.stackTraces = false) (aS aB aN aP aE aI : Nat → Nat) (cA cZ c2 cT : ClassId) (tc : Nat) (tf : Nat → Option Nat) (tcs : va_W) (t u : Int32) (aa bb : Nat) (N : NS) (h40 : tc ≤ 40) (hf1 : fbR tc tf tcs t (nI aa)) (hf2 : fbR tc tf tcs u (nI bb)) (haa : aa < 16) (hbb : bb < 16) (hg1 : N.2 ≤ 40) (hg2 : N.1 2 aa < 2 ^ 31) (hg3 : N.1 2 bb < 2 ^ 31) (ho1 : N.2 < 40) (ho2 : N.1 2 aa < 8) (ho3 : N.1 2 bb < 8) (hno : aa = bb) : zt_Met l y_SB_net (wsA y_SB_net b_SB_net 5 (some .int)) ({ frames := 6, cells := 1, slots := 6, locals := 90 } : Room) (zRF zT2 D [(cA, .int), (cZ, .boolean), (c2, .array .int), (cT, .object R_TH)] ((aN 0, .inr (3, [.ref (aN 1), .ref (aN 2), .ref (aN 3), .int (nI N.2)])) :: (aN 1, .inl (cA, 40, .inl (fun zk => nI ((N.1 0) zk)))) :: (aN 2, .inl (cA, 40, .inl (fun zk => nI ((N.1 1) zk)))) :: (aN 3, .inl (cA, 16, .inl (fun zk => nI ((N.1 2) zk)))) :: (aS 0, .inr (0, [.ref (aS 1), .int (nI tc), .ref (aB 0), .ref (aN 0), .ref (aP 0), .ref (aE 0), .ref (aI 0)])) :: (aS 1, .inl (cT, 40, .inr (.inr (.inr (.inr tf))))) :: tcs) [.ref (aS 0), .int t, .int u]) (zt_Q R_JIAE) 1 6 (fun _ => False) := by
  refine zt_Met.ofW (cc := b_SB_net) (maxL := 5) (ret := (some .int)) (by decide) rfl ?_
  intro p e s m args below meth c s₁ Bd hml hnh hv
  obtain ⟨rfl, hP, hK, hF⟩ := hv
  have hx := Bd.exec
  have hb := Bd.bytes
  have hr := Bd.returns
  have hts : ∀ w ∈ lw_g, w.before _ s = true := fun w h => atoms_spec (ws := wsA y_SB_net b_SB_net 5 (some .int)) Bd.pre w (List.mem_cons_of_mem _ h)
  have hown : s.vm.findClass R_SB = some m.cls := findClass_of_methodNamed Bd.named
  have hlocks := Bd.notSynchronized
  have hl := lv_entry ([.ref (aS 0), .int t, .int u]) (n := 5) (Nat.le_of_ble_eq_true rfl)
  rw [lg_entry_eq]
  generalize (lg_sl ([.ref (aS 0), .int t, .int u]) ++ List.replicate (5 - (lg_sl ([.ref (aS 0), .int t, .int u])).length) Slot.unset).toArray = ls at hl ⊢
  have hl : lv_has ls 5 [(0, .ref (aS 0)), (1, .int t), (2, .int u)] := hl
  have hP : va_P D classes ((aN 0, .inr (3, [.ref (aN 1), .ref (aN 2), .ref (aN 3), .int (nI N.2)])) :: (aN 1, .inl (cA, 40, .inl (fun zk => nI ((N.1 0) zk)))) :: (aN 2, .inl (cA, 40, .inl (fun zk => nI ((N.1 1) zk)))) :: (aN 3, .inl (cA, 16, .inl (fun zk => nI ((N.1 2) zk)))) :: (aS 0, .inr (0, [.ref (aS 1), .int (nI tc), .ref (aB 0), .ref (aN 0), .ref (aP 0), .ref (aE 0), .ref (aI 0)])) :: (aS 1, .inl (cT, 40, .inr (.inr (.inr (.inr tf))))) :: tcs) s.heap := hP
  refine lv_aload_n hx hb d_SB_net_0 rfl (lv_at hl 0 rfl) ?_
  refine lv_iload_n hx hb d_SB_net_1 rfl (lv_at hl 1 rfl) ?_
  refine zrM_V (ci := 0) (q0 := 0) (As := [.int t]) (rest := []) (n := 1) ⟨hx, hb, hml, hown, hts⟩ (c_SB_findBlock l D aS aB aN aP aE aI cA cZ c2 cT tc tf tcs t (nI aa) h40 hf1) ⟨km_SB_106, ki_SB_findBlock, ks_SB_findBlock, kn_SB, kd_SB_findBlock⟩ (by decide +kernel) (by decide) ⟨Nat.zero_le _, Nat.zero_le _⟩ hK (hP.mem (fun q hq => List.mem_cons_of_mem _ (List.mem_cons_of_mem _ (List.mem_cons_of_mem _ (List.mem_cons_of_mem _ (hq)))))) rfl rfl rfl hl.1 rfl (Nat.le_of_ble_eq_true rfl) d_SB_net_2 ?_
  refine lv_istore_n (lv' := [(3, .int (nI aa)), (0, .ref (aS 0)), (1, .int t), (2, .int u)]) hx hb d_SB_net_5 rfl hl (by decide) rfl (fun ls hl => ?_)
  refine lv_aload_n hx hb d_SB_net_6 rfl (lv_at hl 1 rfl) ?_
  refine lv_iload_n hx hb d_SB_net_7 rfl (lv_at hl 3 rfl) ?_
  refine zrM_V (ci := 0) (q0 := 0) (As := [.int u]) (rest := []) (n := 1) ⟨hx, hb, hml, hown, hts⟩ (c_SB_findBlock l D aS aB aN aP aE aI cA cZ c2 cT tc tf tcs u (nI bb) h40 hf2) ⟨km_SB_106, ki_SB_findBlock, ks_SB_findBlock, kn_SB, kd_SB_findBlock⟩ (by decide +kernel) (by decide) ⟨Nat.zero_le _, Nat.zero_le _⟩ hK (hP.mem (fun q hq => List.mem_cons_of_mem _ (List.mem_cons_of_mem _ (List.mem_cons_of_mem _ (List.mem_cons_of_mem _ (hq)))))) rfl rfl rfl hl.1 rfl (Nat.le_of_ble_eq_true rfl) d_SB_net_8 ?_
  refine lv_istore (lv' := [(4, .int (nI bb)), (3, .int (nI aa)), (0, .ref (aS 0)), (1, .int t), (2, .int u)]) hx hb d_SB_net_11 hl (by decide) rfl (fun ls hl => ?_)
  refine lv_iload_n hx hb d_SB_net_13 rfl (lv_at hl 1 rfl) ?_
  refine lv_iconst (v := (-1)) hx hb d_SB_net_14 (by decide) ?_
  refine lv_icmp_eq (tgt := 24) hx hb d_SB_net_15 (by decide) (fun h => absurd h (nI_m1 (by omega))) (fun _ => ?_)
  refine lv_iload hx hb d_SB_net_18 (lv_at hl 0 rfl) ?_
  refine lv_iconst (v := (-1)) hx hb d_SB_net_20 (by decide) ?_
  refine lv_icmp_ne (tgt := 34) hx hb d_SB_net_21 (by decide) (fun _ => ?_) (fun h => absurd h (nI_m1 (by omega)))
  refine lv_aload_n hx hb d_SB_net_34 rfl (lv_at hl 2 rfl) ?_
  refine va_get (D := D) (ci := 0) (v := .ref (aN 0)) (C := R_SB) (T := F_SB) (N := 7) hx hb hts i_SB hown hK hP 4 rfl rfl 3 (by decide) (hts _ kf_SB_29) (fun _ h9 => h9) rfl d_SB_net_35 ?_
  refine va_get (D := D) (ci := 3) (v := .int (nI N.2)) (C := R_NE) (T := F_NE) (N := 4) hx hb hts i_NE hown hK hP 0 rfl rfl 3 (by decide) (hts _ kf_SB_123) (fun _ h9 => h9) rfl d_SB_net_38 ?_
  refine lv_bipush (v := nI 40) hx hb d_SB_net_41 (by decide) ?_
  refine z_cge (tgt := 69) hx hb d_SB_net_43 (by decide) (by omega) (by omega) (fun h => absurd h (by omega)) (fun _ => ?_)
  refine lv_aload_n hx hb d_SB_net_46 rfl (lv_at hl 2 rfl) ?_
  refine va_get (D := D) (ci := 0) (v := .ref (aN 0)) (C := R_SB) (T := F_SB) (N := 7) hx hb hts i_SB hown hK hP 4 rfl rfl 3 (by decide) (hts _ kf_SB_29) (fun _ h9 => h9) rfl d_SB_net_47 ?_
  refine lv_iload_n hx hb d_SB_net_50 rfl (lv_at hl 1 rfl) ?_
  refine zr_V (ci := 3) (q0 := 0) (As := [.int (nI aa)]) (rest := []) (n := 1) ⟨hx, hb, hml, hown, hts⟩ (c_NE_isFull l D (aN 0) (aN 1) (aN 2) (aN 3) cA N.2 (N.1 0) (N.1 1) (N.1 2) aa haa (by omega)) ⟨km_SB_124, ki_NE_isFull, ks_NE_isFull, kn_NE, kd_NE_isFull⟩ (by decide +kernel) (by decide) ⟨Nat.zero_le _, Nat.zero_le _⟩ hK hP [0, 1, 2, 3] rfl [0] rfl rfl rfl rfl hl.1 rfl (Nat.le_of_ble_eq_true rfl) d_SB_net_51 ?_
  refine z_zne (tgt := 69) hx hb d_SB_net_54 (by decide) (fun h => absurd h (by rw [decide_eq_false (by omega)]; decide)) (fun _ => ?_)
  refine lv_aload_n hx hb d_SB_net_57 rfl (lv_at hl 2 rfl) ?_
  refine va_get (D := D) (ci := 0) (v := .ref (aN 0)) (C := R_SB) (T := F_SB) (N := 7) hx hb hts i_SB hown hK hP 4 rfl rfl 3 (by decide) (hts _ kf_SB_29) (fun _ h9 => h9) rfl d_SB_net_58 ?_
  refine lv_iload hx hb d_SB_net_61 (lv_at hl 0 rfl) ?_
  refine zr_V (ci := 3) (q0 := 0) (As := [.int (nI bb)]) (rest := []) (n := 1) ⟨hx, hb, hml, hown, hts⟩ (c_NE_isFull l D (aN 0) (aN 1) (aN 2) (aN 3) cA N.2 (N.1 0) (N.1 1) (N.1 2) bb hbb (by omega)) ⟨km_SB_124, ki_NE_isFull, ks_NE_isFull, kn_NE, kd_NE_isFull⟩ (by decide +kernel) (by decide) ⟨Nat.zero_le _, Nat.zero_le _⟩ hK hP [0, 1, 2, 3] rfl [0] rfl rfl rfl rfl hl.1 rfl (Nat.le_of_ble_eq_true rfl) d_SB_net_63 ?_
  refine z_zeq (tgt := 79) hx hb d_SB_net_66 (by decide) (fun _ => ?_) (fun h => absurd h (by rw [decide_eq_false (by omega)]; decide))
  refine lv_iload_n hx hb d_SB_net_79 rfl (lv_at hl 1 rfl) ?_
  refine lv_iload hx hb d_SB_net_80 (lv_at hl 0 rfl) ?_
  refine z_cne (tgt := 95) hx hb d_SB_net_82 (by decide) (by omega) (by omega) (fun h => absurd h (by omega)) (fun _ => ?_)
  obtain ⟨tx9, htx⟩ := hF.2.2.2.2.1 (130, "both blocks are the same") (by decide)
  exact zt_throw (own := R_SB) (cls := R_JIAE) (tx := "both blocks are the same") (names := exN) (iN := 81) (iT := 130) (ic := 85) (str := tx9) hx hb htl hnh hown (by decide +kernel) (by decide +kernel) (zT2_hat hF hts (by decide) tm_JIAE) (hts _ kc_SB_81) (hts _ kn_JIAE) htx (hl.1.trans hml.symm) d_SB_net_85 d_SB_net_88 d_SB_net_89 d_SB_net_91 d_SB_net_94 (Nat.le_of_ble_eq_true rfl) (Nat.le_of_ble_eq_true rfl) (Nat.le_of_ble_eq_true rfl) (Nat.le_of_ble_eq_true rfl) hlocks
set_option maxHeartbeats 4000000 in
set_option maxRecDepth 100000 in
/-- slice: no first thing -/
theorem x_SB_slice1a (l : Launch) (D : va_G) (htl : ∀ e' : Env, l.admits e' → e'.platform.stackTraces = false) (aS aB aN aP aE aI : Nat → Nat) (cA cZ c2 cT : ClassId) (tc : Nat) (tf : Nat → Option Nat) (t u : Int32) (ac : Bool) (h40 : tc ≤ 40) (hno : t < 0 ∨ nI tc ≤ t) (ht2 : (u < 0 ∨ nI tc ≤ u) ∨ ∃ tt aT : Nat, u = nI tt ∧ tt < tc ∧ tf tt = some aT) : zt_Met l y_SB_slice (wsA y_SB_slice b_SB_slice 6 (some .int)) ({ frames := 6, cells := 1, slots := 6, locals := 90 } : Room) (zRF zT2 D [(cA, .int), (cZ, .boolean), (c2, .array .int), (cT, .object R_TH)] [(aS 0, .inr (0, [.ref (aS 1), .int (nI tc), .ref (aB 0), .ref (aN 0), .ref (aP 0), .ref (aE 0), .ref (aI 0)])), (aS 1, .inl (cT, 40, .inr (.inr (.inr (.inr tf)))))] [.ref (aS 0), .int t, .int u, .int (zb ac)]) (zt_Q R_JIOB) 1 6 (fun _ => False) := by
  refine zt_Met.ofW (cc := b_SB_slice) (maxL := 6) (ret := (some .int)) (by decide) rfl ?_
  intro p e s m args below meth c s₁ Bd hml hnh hv
  obtain ⟨rfl, hP, hK, hF⟩ := hv
  have hx := Bd.exec
  have hb := Bd.bytes
  have hr := Bd.returns
  have hts : ∀ w ∈ lw_g, w.before _ s = true := fun w h => atoms_spec (ws := wsA y_SB_slice b_SB_slice 6 (some .int)) Bd.pre w (List.mem_cons_of_mem _ h)
  have hown : s.vm.findClass R_SB = some m.cls := findClass_of_methodNamed Bd.named
  have hlocks := Bd.notSynchronized
  have hl := lv_entry ([.ref (aS 0), .int t, .int u, .int (zb ac)]) (n := 6) (Nat.le_of_ble_eq_true rfl)
  rw [lg_entry_eq]
  generalize (lg_sl ([.ref (aS 0), .int t, .int u, .int (zb ac)]) ++ List.replicate (6 - (lg_sl ([.ref (aS 0), .int t, .int u, .int (zb ac)])).length) Slot.unset).toArray = ls at hl ⊢
  have hl : lv_has ls 6 [(0, .ref (aS 0)), (1, .int t), (2, .int u), (3, .int (zb ac))] := hl
  have hP : va_P D classes [(aS 0, .inr (0, [.ref (aS 1), .int (nI tc), .ref (aB 0), .ref (aN 0), .ref (aP 0), .ref (aE 0), .ref (aI 0)])), (aS 1, .inl (cT, 40, .inr (.inr (.inr (.inr tf)))))] s.heap := hP
  refine lv_aload_n hx hb d_SB_slice_0 rfl (lv_at hl 0 rfl) ?_
  refine lv_iload_n hx hb d_SB_slice_1 rfl (lv_at hl 1 rfl) ?_
  refine zrM_V (ci := 0) (q0 := 0) (As := [.int t]) (rest := []) (n := 1) ⟨hx, hb, hml, hown, hts⟩ (c_SB_findThing_no l D aS aB aN aP aE aI cA cZ c2 cT tc tf t hno) ⟨km_SB_135, ki_SB_findThing, ks_SB_findThing, kn_SB, kd_SB_findThing⟩ (by decide +kernel) (by decide) ⟨Nat.zero_le _, Nat.zero_le _⟩ hK (hP.mem (fun q hq => hq)) rfl rfl rfl hl.1 rfl (Nat.le_of_ble_eq_true rfl) d_SB_slice_2 ?_
  refine lv_astoreN (lv' := [(4, .null), (0, .ref (aS 0)), (1, .int t), (2, .int u), (3, .int (zb ac))]) hx hb d_SB_slice_5 hl (by decide) rfl (fun ls hl => ?_)
  refine lv_aload_n hx hb d_SB_slice_7 rfl (lv_at hl 1 rfl) ?_
  refine lv_iload_n hx hb d_SB_slice_8 rfl (lv_at hl 3 rfl) ?_
  rcases ht2 with hu0 | ⟨tt, aT, rfl, htt, htf⟩
  · refine zrM_V (ci := 0) (q0 := 0) (As := [.int u]) (rest := []) (n := 1) ⟨hx, hb, hml, hown, hts⟩ (c_SB_findThing_no l D aS aB aN aP aE aI cA cZ c2 cT tc tf u hu0) ⟨km_SB_135, ki_SB_findThing, ks_SB_findThing, kn_SB, kd_SB_findThing⟩ (by decide +kernel) (by decide) ⟨Nat.zero_le _, Nat.zero_le _⟩ hK (hP.mem (fun q hq => hq)) rfl rfl rfl hl.1 rfl (Nat.le_of_ble_eq_true rfl) d_SB_slice_9 ?_
    refine lv_astoreN (lv' := [(5, .null), (4, .null), (0, .ref (aS 0)), (1, .int t), (2, .int u), (3, .int (zb ac))]) hx hb d_SB_slice_12 hl (by decide) rfl (fun ls hl => ?_)
    refine lv_aloadN hx hb d_SB_slice_14 (lv_at hl 1 rfl) ?_
    refine lv_ifnullN (tgt := 24) hx hb d_SB_slice_16 (by decide) ?_
    obtain ⟨tx9, htx⟩ := hF.2.2.2.2.1 (139, "no such thing") (by decide)
    exact zt_throw (own := R_SB) (cls := R_JIOB) (tx := "no such thing") (names := exN) (iN := 110) (iT := 139) (ic := 114) (str := tx9) hx hb htl hnh hown (by decide +kernel) (by decide +kernel) (zT2_hat hF hts (by decide) tm_JIOB) (hts _ kc_SB_110) (hts _ kn_JIOB) htx (hl.1.trans hml.symm) d_SB_slice_24 d_SB_slice_27 d_SB_slice_28 d_SB_slice_30 d_SB_slice_33 (Nat.le_of_ble_eq_true rfl) (Nat.le_of_ble_eq_true rfl) (Nat.le_of_ble_eq_true rfl) (Nat.le_of_ble_eq_true rfl) hlocks
  · refine zrM_V (ci := 0) (q0 := 0) (As := [.int (nI tt)]) (rest := []) (n := 1) ⟨hx, hb, hml, hown, hts⟩ (c_SB_findThing l D aS aB aN aP aE aI cA cZ c2 cT tc tf tt aT h40 htt htf) ⟨km_SB_135, ki_SB_findThing, ks_SB_findThing, kn_SB, kd_SB_findThing⟩ (by decide +kernel) (by decide) ⟨Nat.zero_le _, Nat.zero_le _⟩ hK (hP.mem (fun q hq => hq)) rfl rfl rfl hl.1 rfl (Nat.le_of_ble_eq_true rfl) d_SB_slice_9 ?_
    refine lv_astore (lv' := [(5, .ref aT), (4, .null), (0, .ref (aS 0)), (1, .int t), (2, .int (nI tt)), (3, .int (zb ac))]) hx hb d_SB_slice_12 hl (by decide) rfl (fun ls hl => ?_)
    refine lv_aloadN hx hb d_SB_slice_14 (lv_at hl 1 rfl) ?_
    refine lv_ifnullN (tgt := 24) hx hb d_SB_slice_16 (by decide) ?_
    obtain ⟨tx9, htx⟩ := hF.2.2.2.2.1 (139, "no such thing") (by decide)
    exact zt_throw (own := R_SB) (cls := R_JIOB) (tx := "no such thing") (names := exN) (iN := 110) (iT := 139) (ic := 114) (str := tx9) hx hb htl hnh hown (by decide +kernel) (by decide +kernel) (zT2_hat hF hts (by decide) tm_JIOB) (hts _ kc_SB_110) (hts _ kn_JIOB) htx (hl.1.trans hml.symm) d_SB_slice_24 d_SB_slice_27 d_SB_slice_28 d_SB_slice_30 d_SB_slice_33 (Nat.le_of_ble_eq_true rfl) (Nat.le_of_ble_eq_true rfl) (Nat.le_of_ble_eq_true rfl) (Nat.le_of_ble_eq_true rfl) hlocks
set_option maxHeartbeats 4000000 in
set_option maxRecDepth 100000 in
/-- slice: no second thing -/
theorem x_SB_slice1b (l : Launch) (D : va_G) (htl : ∀ e' : Env, l.admits e' → e'.platform.stackTraces = false) (aS aB aN aP aE aI : Nat → Nat) (cA cZ c2 cT : ClassId) (tc : Nat) (tf : Nat → Option Nat) (tt aT : Nat) (u : Int32) (ac : Bool) (h40 : tc ≤ 40) (htt : tt < tc) (htf : tf tt = some aT) (hno : u < 0 ∨ nI tc ≤ u) : zt_Met l y_SB_slice (wsA y_SB_slice b_SB_slice 6 (some .int)) ({ frames := 6, cells := 1, slots := 6, locals := 90 } : Room) (zRF zT2 D [(cA, .int), (cZ, .boolean), (c2, .array .int), (cT, .object R_TH)] [(aS 0, .inr (0, [.ref (aS 1), .int (nI tc), .ref (aB 0), .ref (aN 0), .ref (aP 0), .ref (aE 0), .ref (aI 0)])), (aS 1, .inl (cT, 40, .inr (.inr (.inr (.inr tf)))))] [.ref (aS 0), .int (nI tt), .int u, .int (zb ac)]) (zt_Q R_JIOB) 1 6 (fun _ => False) := by
  refine zt_Met.ofW (cc := b_SB_slice) (maxL := 6) (ret := (some .int)) (by decide) rfl ?_
  intro p e s m args below meth c s₁ Bd hml hnh hv
  obtain ⟨rfl, hP, hK, hF⟩ := hv
  have hx := Bd.exec
  have hb := Bd.bytes
  have hr := Bd.returns
  have hts : ∀ w ∈ lw_g, w.before _ s = true := fun w h => atoms_spec (ws := wsA y_SB_slice b_SB_slice 6 (some .int)) Bd.pre w (List.mem_cons_of_mem _ h)
  have hown : s.vm.findClass R_SB = some m.cls := findClass_of_methodNamed Bd.named
  have hlocks := Bd.notSynchronized
  have hl := lv_entry ([.ref (aS 0), .int (nI tt), .int u, .int (zb ac)]) (n := 6) (Nat.le_of_ble_eq_true rfl)
  rw [lg_entry_eq]
  generalize (lg_sl ([.ref (aS 0), .int (nI tt), .int u, .int (zb ac)]) ++ List.replicate (6 - (lg_sl ([.ref (aS 0), .int (nI tt), .int u, .int (zb ac)])).length) Slot.unset).toArray = ls at hl ⊢
  have hl : lv_has ls 6 [(0, .ref (aS 0)), (1, .int (nI tt)), (2, .int u), (3, .int (zb ac))] := hl
  have hP : va_P D classes [(aS 0, .inr (0, [.ref (aS 1), .int (nI tc), .ref (aB 0), .ref (aN 0), .ref (aP 0), .ref (aE 0), .ref (aI 0)])), (aS 1, .inl (cT, 40, .inr (.inr (.inr (.inr tf)))))] s.heap := hP
  refine lv_aload_n hx hb d_SB_slice_0 rfl (lv_at hl 0 rfl) ?_
  refine lv_iload_n hx hb d_SB_slice_1 rfl (lv_at hl 1 rfl) ?_
  refine zrM_V (ci := 0) (q0 := 0) (As := [.int (nI tt)]) (rest := []) (n := 1) ⟨hx, hb, hml, hown, hts⟩ (c_SB_findThing l D aS aB aN aP aE aI cA cZ c2 cT tc tf tt aT h40 htt htf) ⟨km_SB_135, ki_SB_findThing, ks_SB_findThing, kn_SB, kd_SB_findThing⟩ (by decide +kernel) (by decide) ⟨Nat.zero_le _, Nat.zero_le _⟩ hK (hP.mem (fun q hq => hq)) rfl rfl rfl hl.1 rfl (Nat.le_of_ble_eq_true rfl) d_SB_slice_2 ?_
  refine lv_astore (lv' := [(4, .ref aT), (0, .ref (aS 0)), (1, .int (nI tt)), (2, .int u), (3, .int (zb ac))]) hx hb d_SB_slice_5 hl (by decide) rfl (fun ls hl => ?_)
  refine lv_aload_n hx hb d_SB_slice_7 rfl (lv_at hl 1 rfl) ?_
  refine lv_iload_n hx hb d_SB_slice_8 rfl (lv_at hl 3 rfl) ?_
  refine zrM_V (ci := 0) (q0 := 0) (As := [.int u]) (rest := []) (n := 1) ⟨hx, hb, hml, hown, hts⟩ (c_SB_findThing_no l D aS aB aN aP aE aI cA cZ c2 cT tc tf u hno) ⟨km_SB_135, ki_SB_findThing, ks_SB_findThing, kn_SB, kd_SB_findThing⟩ (by decide +kernel) (by decide) ⟨Nat.zero_le _, Nat.zero_le _⟩ hK (hP.mem (fun q hq => hq)) rfl rfl rfl hl.1 rfl (Nat.le_of_ble_eq_true rfl) d_SB_slice_9 ?_
  refine lv_astoreN (lv' := [(5, .null), (4, .ref aT), (0, .ref (aS 0)), (1, .int (nI tt)), (2, .int u), (3, .int (zb ac))]) hx hb d_SB_slice_12 hl (by decide) rfl (fun ls hl => ?_)
  refine lv_aload hx hb d_SB_slice_14 (lv_at hl 1 rfl) ?_
  refine lv_ifnull hx hb d_SB_slice_16 ?_
  refine lv_aloadN hx hb d_SB_slice_19 (lv_at hl 0 rfl) ?_
  refine lv_ifnonnullN hx hb d_SB_slice_21 ?_
  obtain ⟨tx9, htx⟩ := hF.2.2.2.2.1 (139, "no such thing") (by decide)
  exact zt_throw (own := R_SB) (cls := R_JIOB) (tx := "no such thing") (names := exN) (iN := 110) (iT := 139) (ic := 114) (str := tx9) hx hb htl hnh hown (by decide +kernel) (by decide +kernel) (zT2_hat hF hts (by decide) tm_JIOB) (hts _ kc_SB_110) (hts _ kn_JIOB) htx (hl.1.trans hml.symm) d_SB_slice_24 d_SB_slice_27 d_SB_slice_28 d_SB_slice_30 d_SB_slice_33 (Nat.le_of_ble_eq_true rfl) (Nat.le_of_ble_eq_true rfl) (Nat.le_of_ble_eq_true rfl) (Nat.le_of_ble_eq_true rfl) hlocks
set_option maxHeartbeats 4000000 in
set_option maxRecDepth 100000 in
/-- slice: no room, or in a slice -/
theorem x_SB_slice2 (l : Launch) (D : va_G) (htl : ∀ e' : Env, l.admits e' → e'.platform.stackTraces = false) (aS aB aN aP aE aI : Nat → Nat) (cA cZ c2 cT : ClassId) (tc : Nat) (tf : Nat → Option Nat) (aT aU aT2 aU2 : Nat) (bk bk2 : Int32) (us us2 : Bool) (ta tb : Nat) (ac : Bool) (h40 : tc ≤ 40) (hta : ta < tc) (htb : tb < tc) (htf : tf ta = some aT) (htf2 : tf tb = some aT2) (hno : us = true ∨ us2 = true ∨ tc = 40) : zt_Met l y_SB_slice (wsA y_SB_slice b_SB_slice 6 (some .int)) ({ frames := 6, cells := 1, slots := 6, locals := 90 } : Room) (zRF zT2 D [(cA, .int), (cZ, .boolean), (c2, .array .int), (cT, .object R_TH)] [(aT, .inr (9, [.int bk, .ref aU, .int (zb us)])), (aT2, .inr (9, [.int bk2, .ref aU2, .int (zb us2)])), (aS 0, .inr (0, [.ref (aS 1), .int (nI tc), .ref (aB 0), .ref (aN 0), .ref (aP 0), .ref (aE 0), .ref (aI 0)])), (aS 1, .inl (cT, 40, .inr (.inr (.inr (.inr tf)))))] [.ref (aS 0), .int (nI ta), .int (nI tb), .int (zb ac)]) (zt_Q R_JISE) 1 6 (fun _ => False) := by
  refine zt_Met.ofW (cc := b_SB_slice) (maxL := 6) (ret := (some .int)) (by decide) rfl ?_
  intro p e s m args below meth c s₁ Bd hml hnh hv
  obtain ⟨rfl, hP, hK, hF⟩ := hv
  have hx := Bd.exec
  have hb := Bd.bytes
  have hr := Bd.returns
  have hts : ∀ w ∈ lw_g, w.before _ s = true := fun w h => atoms_spec (ws := wsA y_SB_slice b_SB_slice 6 (some .int)) Bd.pre w (List.mem_cons_of_mem _ h)
  have hown : s.vm.findClass R_SB = some m.cls := findClass_of_methodNamed Bd.named
  have hlocks := Bd.notSynchronized
  have hl := lv_entry ([.ref (aS 0), .int (nI ta), .int (nI tb), .int (zb ac)]) (n := 6) (Nat.le_of_ble_eq_true rfl)
  rw [lg_entry_eq]
  generalize (lg_sl ([.ref (aS 0), .int (nI ta), .int (nI tb), .int (zb ac)]) ++ List.replicate (6 - (lg_sl ([.ref (aS 0), .int (nI ta), .int (nI tb), .int (zb ac)])).length) Slot.unset).toArray = ls at hl ⊢
  have hl : lv_has ls 6 [(0, .ref (aS 0)), (1, .int (nI ta)), (2, .int (nI tb)), (3, .int (zb ac))] := hl
  have hP : va_P D classes [(aT, .inr (9, [.int bk, .ref aU, .int (zb us)])), (aT2, .inr (9, [.int bk2, .ref aU2, .int (zb us2)])), (aS 0, .inr (0, [.ref (aS 1), .int (nI tc), .ref (aB 0), .ref (aN 0), .ref (aP 0), .ref (aE 0), .ref (aI 0)])), (aS 1, .inl (cT, 40, .inr (.inr (.inr (.inr tf)))))] s.heap := hP
  refine lv_aload_n hx hb d_SB_slice_0 rfl (lv_at hl 0 rfl) ?_
  refine lv_iload_n hx hb d_SB_slice_1 rfl (lv_at hl 1 rfl) ?_
  refine zrM_V (ci := 0) (q0 := 0) (As := [.int (nI ta)]) (rest := []) (n := 1) ⟨hx, hb, hml, hown, hts⟩ (c_SB_findThing l D aS aB aN aP aE aI cA cZ c2 cT tc tf ta aT h40 hta htf) ⟨km_SB_135, ki_SB_findThing, ks_SB_findThing, kn_SB, kd_SB_findThing⟩ (by decide +kernel) (by decide) ⟨Nat.zero_le _, Nat.zero_le _⟩ hK (hP.mem (fun q hq => List.mem_cons_of_mem _ (List.mem_cons_of_mem _ (hq)))) rfl rfl rfl hl.1 rfl (Nat.le_of_ble_eq_true rfl) d_SB_slice_2 ?_
  refine lv_astore (lv' := [(4, .ref aT), (0, .ref (aS 0)), (1, .int (nI ta)), (2, .int (nI tb)), (3, .int (zb ac))]) hx hb d_SB_slice_5 hl (by decide) rfl (fun ls hl => ?_)
  refine lv_aload_n hx hb d_SB_slice_7 rfl (lv_at hl 1 rfl) ?_
  refine lv_iload_n hx hb d_SB_slice_8 rfl (lv_at hl 3 rfl) ?_
  refine zrM_V (ci := 0) (q0 := 0) (As := [.int (nI tb)]) (rest := []) (n := 1) ⟨hx, hb, hml, hown, hts⟩ (c_SB_findThing l D aS aB aN aP aE aI cA cZ c2 cT tc tf tb aT2 h40 htb htf2) ⟨km_SB_135, ki_SB_findThing, ks_SB_findThing, kn_SB, kd_SB_findThing⟩ (by decide +kernel) (by decide) ⟨Nat.zero_le _, Nat.zero_le _⟩ hK (hP.mem (fun q hq => List.mem_cons_of_mem _ (List.mem_cons_of_mem _ (hq)))) rfl rfl rfl hl.1 rfl (Nat.le_of_ble_eq_true rfl) d_SB_slice_9 ?_
  refine lv_astore (lv' := [(5, .ref aT2), (4, .ref aT), (0, .ref (aS 0)), (1, .int (nI ta)), (2, .int (nI tb)), (3, .int (zb ac))]) hx hb d_SB_slice_12 hl (by decide) rfl (fun ls hl => ?_)
  refine lv_aload hx hb d_SB_slice_14 (lv_at hl 1 rfl) ?_
  refine lv_ifnull hx hb d_SB_slice_16 ?_
  refine lv_aload hx hb d_SB_slice_19 (lv_at hl 0 rfl) ?_
  refine lv_ifnonnull (tgt := 34) hx hb d_SB_slice_21 (by decide) ?_
  refine lv_aload hx hb d_SB_slice_34 (lv_at hl 1 rfl) ?_
  refine va_get (D := D) (ci := 9) (v := .int (zb us)) (C := R_TH) (T := F_TH) (N := 3) hx hb hts i_TH hown hK hP 0 rfl rfl 2 (by decide) (hts _ kf_SB_141) (fun _ h9 => h9) rfl d_SB_slice_36 ?_
  refine z_zne (tgt := 59) hx hb d_SB_slice_39 (by decide) (fun c_1 => ?_) (fun c_1 => ?_)
  · obtain ⟨tx9, htx⟩ := hF.2.2.2.2.1 (145, "no room for a slice, or a thing is in one") (by decide)
    exact zt_throw (own := R_SB) (cls := R_JISE) (tx := "no room for a slice, or a thing is in one") (names := exN) (iN := 68) (iT := 145) (ic := 72) (str := tx9) hx hb htl hnh hown (by decide +kernel) (by decide +kernel) (zT2_hat hF hts (by decide) tm_JISE) (hts _ kc_SB_68) (hts _ kn_JISE) htx (hl.1.trans hml.symm) d_SB_slice_59 d_SB_slice_62 d_SB_slice_63 d_SB_slice_65 d_SB_slice_68 (Nat.le_of_ble_eq_true rfl) (Nat.le_of_ble_eq_true rfl) (Nat.le_of_ble_eq_true rfl) (Nat.le_of_ble_eq_true rfl) hlocks
  · refine lv_aload hx hb d_SB_slice_42 (lv_at hl 0 rfl) ?_
    refine va_get (D := D) (ci := 9) (v := .int (zb us2)) (C := R_TH) (T := F_TH) (N := 3) hx hb hts i_TH hown hK hP 1 rfl rfl 2 (by decide) (hts _ kf_SB_141) (fun _ h9 => h9) rfl d_SB_slice_44 ?_
    refine z_zne (tgt := 59) hx hb d_SB_slice_47 (by decide) (fun c_2 => ?_) (fun c_2 => ?_)
    · obtain ⟨tx9, htx⟩ := hF.2.2.2.2.1 (145, "no room for a slice, or a thing is in one") (by decide)
      exact zt_throw (own := R_SB) (cls := R_JISE) (tx := "no room for a slice, or a thing is in one") (names := exN) (iN := 68) (iT := 145) (ic := 72) (str := tx9) hx hb htl hnh hown (by decide +kernel) (by decide +kernel) (zT2_hat hF hts (by decide) tm_JISE) (hts _ kc_SB_68) (hts _ kn_JISE) htx (hl.1.trans hml.symm) d_SB_slice_59 d_SB_slice_62 d_SB_slice_63 d_SB_slice_65 d_SB_slice_68 (Nat.le_of_ble_eq_true rfl) (Nat.le_of_ble_eq_true rfl) (Nat.le_of_ble_eq_true rfl) (Nat.le_of_ble_eq_true rfl) hlocks
    · refine lv_aload_n hx hb d_SB_slice_50 rfl (lv_at hl 2 rfl) ?_
      refine va_get (D := D) (ci := 0) (v := .int (nI tc)) (C := R_SB) (T := F_SB) (N := 7) hx hb hts i_SB hown hK hP 2 rfl rfl 1 (by decide) (hts _ kf_SB_15) (fun _ h9 => h9) rfl d_SB_slice_51 ?_
      refine lv_bipush (v := nI 40) hx hb d_SB_slice_54 (by decide) ?_
      refine z_clt (tgt := 69) hx hb d_SB_slice_56 (by decide) (by omega) (by omega) (fun c_9 => ?_) (fun c_9 => ?_)
      · exact absurd hno (fun q => q.elim (fun q => by rw [c_1] at q; cases q) (fun q => q.elim (fun q => by rw [c_2] at q; cases q) (fun q => by omega)))
      · obtain ⟨tx9, htx⟩ := hF.2.2.2.2.1 (145, "no room for a slice, or a thing is in one") (by decide)
        exact zt_throw (own := R_SB) (cls := R_JISE) (tx := "no room for a slice, or a thing is in one") (names := exN) (iN := 68) (iT := 145) (ic := 72) (str := tx9) hx hb htl hnh hown (by decide +kernel) (by decide +kernel) (zT2_hat hF hts (by decide) tm_JISE) (hts _ kc_SB_68) (hts _ kn_JISE) htx (hl.1.trans hml.symm) d_SB_slice_59 d_SB_slice_62 d_SB_slice_63 d_SB_slice_65 d_SB_slice_68 (Nat.le_of_ble_eq_true rfl) (Nat.le_of_ble_eq_true rfl) (Nat.le_of_ble_eq_true rfl) (Nat.le_of_ble_eq_true rfl) hlocks
set_option maxHeartbeats 4000000 in
set_option maxRecDepth 100000 in
/-- slice: the same -/
theorem x_SB_slice3 (l : Launch) (D : va_G) (htl : ∀ e' : Env, l.admits e' → e'.platform.stackTraces = false) (aS aB aN aP aE aI : Nat → Nat) (cA cZ c2 cT : ClassId) (tc : Nat) (tf : Nat → Option Nat) (aT aU : Nat) (bk : Int32) (us : Bool) (ta : Nat) (ac : Bool) (h40 : tc < 40) (hta : ta < tc) (htf : tf ta = some aT) (hus : us = false) : zt_Met l y_SB_slice (wsA y_SB_slice b_SB_slice 6 (some .int)) ({ frames := 6, cells := 1, slots := 6, locals := 90 } : Room) (zRF zT2 D [(cA, .int), (cZ, .boolean), (c2, .array .int), (cT, .object R_TH)] [(aT, .inr (9, [.int bk, .ref aU, .int (zb us)])), (aS 0, .inr (0, [.ref (aS 1), .int (nI tc), .ref (aB 0), .ref (aN 0), .ref (aP 0), .ref (aE 0), .ref (aI 0)])), (aS 1, .inl (cT, 40, .inr (.inr (.inr (.inr tf)))))] [.ref (aS 0), .int (nI ta), .int (nI ta), .int (zb ac)]) (zt_Q R_JIAE) 1 6 (fun _ => False) := by
  refine zt_Met.ofW (cc := b_SB_slice) (maxL := 6) (ret := (some .int)) (by decide) rfl ?_
  intro p e s m args below meth c s₁ Bd hml hnh hv
  obtain ⟨rfl, hP, hK, hF⟩ := hv
  have hx := Bd.exec
  have hb := Bd.bytes
  have hr := Bd.returns
  have hts : ∀ w ∈ lw_g, w.before _ s = true := fun w h => atoms_spec (ws := wsA y_SB_slice b_SB_slice 6 (some .int)) Bd.pre w (List.mem_cons_of_mem _ h)
  have hown : s.vm.findClass R_SB = some m.cls := findClass_of_methodNamed Bd.named
  have hlocks := Bd.notSynchronized
  have hl := lv_entry ([.ref (aS 0), .int (nI ta), .int (nI ta), .int (zb ac)]) (n := 6) (Nat.le_of_ble_eq_true rfl)
  rw [lg_entry_eq]
  generalize (lg_sl ([.ref (aS 0), .int (nI ta), .int (nI ta), .int (zb ac)]) ++ List.replicate (6 - (lg_sl ([.ref (aS 0), .int (nI ta), .int (nI ta), .int (zb ac)])).length) Slot.unset).toArray = ls at hl ⊢
  have hl : lv_has ls 6 [(0, .ref (aS 0)), (1, .int (nI ta)), (2, .int (nI ta)), (3, .int (zb ac))] := hl
  have hP : va_P D classes [(aT, .inr (9, [.int bk, .ref aU, .int (zb us)])), (aS 0, .inr (0, [.ref (aS 1), .int (nI tc), .ref (aB 0), .ref (aN 0), .ref (aP 0), .ref (aE 0), .ref (aI 0)])), (aS 1, .inl (cT, 40, .inr (.inr (.inr (.inr tf)))))] s.heap := hP
  refine lv_aload_n hx hb d_SB_slice_0 rfl (lv_at hl 0 rfl) ?_
  refine lv_iload_n hx hb d_SB_slice_1 rfl (lv_at hl 1 rfl) ?_
  refine zrM_V (ci := 0) (q0 := 0) (As := [.int (nI ta)]) (rest := []) (n := 1) ⟨hx, hb, hml, hown, hts⟩ (c_SB_findThing l D aS aB aN aP aE aI cA cZ c2 cT tc tf ta aT (by omega) hta htf) ⟨km_SB_135, ki_SB_findThing, ks_SB_findThing, kn_SB, kd_SB_findThing⟩ (by decide +kernel) (by decide) ⟨Nat.zero_le _, Nat.zero_le _⟩ hK (hP.mem (fun q hq => List.mem_cons_of_mem _ (hq))) rfl rfl rfl hl.1 rfl (Nat.le_of_ble_eq_true rfl) d_SB_slice_2 ?_
  refine lv_astore (lv' := [(4, .ref aT), (0, .ref (aS 0)), (1, .int (nI ta)), (2, .int (nI ta)), (3, .int (zb ac))]) hx hb d_SB_slice_5 hl (by decide) rfl (fun ls hl => ?_)
  refine lv_aload_n hx hb d_SB_slice_7 rfl (lv_at hl 1 rfl) ?_
  refine lv_iload_n hx hb d_SB_slice_8 rfl (lv_at hl 3 rfl) ?_
  refine zrM_V (ci := 0) (q0 := 0) (As := [.int (nI ta)]) (rest := []) (n := 1) ⟨hx, hb, hml, hown, hts⟩ (c_SB_findThing l D aS aB aN aP aE aI cA cZ c2 cT tc tf ta aT (by omega) hta htf) ⟨km_SB_135, ki_SB_findThing, ks_SB_findThing, kn_SB, kd_SB_findThing⟩ (by decide +kernel) (by decide) ⟨Nat.zero_le _, Nat.zero_le _⟩ hK (hP.mem (fun q hq => List.mem_cons_of_mem _ (hq))) rfl rfl rfl hl.1 rfl (Nat.le_of_ble_eq_true rfl) d_SB_slice_9 ?_
  refine lv_astore (lv' := [(5, .ref aT), (4, .ref aT), (0, .ref (aS 0)), (1, .int (nI ta)), (2, .int (nI ta)), (3, .int (zb ac))]) hx hb d_SB_slice_12 hl (by decide) rfl (fun ls hl => ?_)
  refine lv_aload hx hb d_SB_slice_14 (lv_at hl 1 rfl) ?_
  refine lv_ifnull hx hb d_SB_slice_16 ?_
  refine lv_aload hx hb d_SB_slice_19 (lv_at hl 0 rfl) ?_
  refine lv_ifnonnull (tgt := 34) hx hb d_SB_slice_21 (by decide) ?_
  refine lv_aload hx hb d_SB_slice_34 (lv_at hl 1 rfl) ?_
  refine va_get (D := D) (ci := 9) (v := .int (zb us)) (C := R_TH) (T := F_TH) (N := 3) hx hb hts i_TH hown hK hP 0 rfl rfl 2 (by decide) (hts _ kf_SB_141) (fun _ h9 => h9) rfl d_SB_slice_36 ?_
  refine z_zne (tgt := 59) hx hb d_SB_slice_39 (by decide) (fun h => absurd h (by rw [hus]; decide)) (fun _ => ?_)
  refine lv_aload hx hb d_SB_slice_42 (lv_at hl 0 rfl) ?_
  refine va_get (D := D) (ci := 9) (v := .int (zb us)) (C := R_TH) (T := F_TH) (N := 3) hx hb hts i_TH hown hK hP 0 rfl rfl 2 (by decide) (hts _ kf_SB_141) (fun _ h9 => h9) rfl d_SB_slice_44 ?_
  refine z_zne (tgt := 59) hx hb d_SB_slice_47 (by decide) (fun h => absurd h (by rw [hus]; decide)) (fun _ => ?_)
  refine lv_aload_n hx hb d_SB_slice_50 rfl (lv_at hl 2 rfl) ?_
  refine va_get (D := D) (ci := 0) (v := .int (nI tc)) (C := R_SB) (T := F_SB) (N := 7) hx hb hts i_SB hown hK hP 1 rfl rfl 1 (by decide) (hts _ kf_SB_15) (fun _ h9 => h9) rfl d_SB_slice_51 ?_
  refine lv_bipush (v := nI 40) hx hb d_SB_slice_54 (by decide) ?_
  refine z_clt (tgt := 69) hx hb d_SB_slice_56 (by decide) (by omega) (by omega) (fun _ => ?_) (fun h => absurd h (by omega))
  refine lv_aload hx hb d_SB_slice_69 (lv_at hl 1 rfl) ?_
  refine lv_aload hx hb d_SB_slice_71 (lv_at hl 0 rfl) ?_
  refine lv_acmp_ne (rx := some aT) (ry := some aT) (tgt := 86) hx hb d_SB_slice_73 (by decide) (fun h => absurd rfl h) (fun _ => ?_)
  obtain ⟨tx9, htx⟩ := hF.2.2.2.2.1 (147, "both things are the same") (by decide)
  exact zt_throw (own := R_SB) (cls := R_JIAE) (tx := "both things are the same") (names := exN) (iN := 81) (iT := 147) (ic := 85) (str := tx9) hx hb htl hnh hown (by decide +kernel) (by decide +kernel) (zT2_hat hF hts (by decide) tm_JIAE) (hts _ kc_SB_81) (hts _ kn_JIAE) htx (hl.1.trans hml.symm) d_SB_slice_76 d_SB_slice_79 d_SB_slice_80 d_SB_slice_82 d_SB_slice_85 (Nat.le_of_ble_eq_true rfl) (Nat.le_of_ble_eq_true rfl) (Nat.le_of_ble_eq_true rfl) (Nat.le_of_ble_eq_true rfl) hlocks
