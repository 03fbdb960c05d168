theorem d_NE_isFull_0 : decode b_NE_isFull 0 = .ok (.aload_n 0, 1) := by decide +kernel
theorem d_NE_isFull_1 : decode b_NE_isFull 1 = .ok (.getfield 18, 3) := by decide +kernel
theorem d_NE_isFull_4 : decode b_NE_isFull 4 = .ok (.iload_n 1, 1) := by decide +kernel
theorem d_NE_isFull_5 : decode b_NE_isFull 5 = .ok (.iaload, 1) := by decide +kernel
theorem d_NE_isFull_6 : decode b_NE_isFull 6 = .ok (.bipush 8, 2) := by decide +kernel
theorem d_NE_isFull_8 : decode b_NE_isFull 8 = .ok (.if_icmp .lt 7, 3) := by decide +kernel
theorem d_NE_isFull_11 : decode b_NE_isFull 11 = .ok (.iconst 1, 1) := by decide +kernel
theorem d_NE_isFull_12 : decode b_NE_isFull 12 = .ok (.goto 4, 3) := by decide +kernel
theorem d_NE_isFull_15 : decode b_NE_isFull 15 = .ok (.iconst 0, 1) := by decide +kernel
theorem d_NE_isFull_16 : decode b_NE_isFull 16 = .ok (.ireturn, 1) := by decide +kernel
theorem d_NE_append_0 : decode b_NE_append 0 = .ok (.aload_n 0, 1) := by decide +kernel
theorem d_NE_append_1 : decode b_NE_append 1 = .ok (.getfield 9, 3) := by decide +kernel
theorem d_NE_append_4 : decode b_NE_append 4 = .ok (.aload_n 0, 1) := by decide +kernel
theorem d_NE_append_5 : decode b_NE_append 5 = .ok (.getfield 21, 3) := by decide +kernel
theorem d_NE_append_8 : decode b_NE_append 8 = .ok (.iload_n 1, 1) := by decide +kernel
theorem d_NE_append_9 : decode b_NE_append 9 = .ok (.iastore, 1) := by decide +kernel
theorem d_NE_append_10 : decode b_NE_append 10 = .ok (.aload_n 0, 1) := by decide +kernel
theorem d_NE_append_11 : decode b_NE_append 11 = .ok (.getfield 15, 3) := by decide +kernel
theorem d_NE_append_14 : decode b_NE_append 14 = .ok (.aload_n 0, 1) := by decide +kernel
theorem d_NE_append_15 : decode b_NE_append 15 = .ok (.getfield 21, 3) := by decide +kernel
theorem d_NE_append_18 : decode b_NE_append 18 = .ok (.iload_n 2, 1) := by decide +kernel
theorem d_NE_append_19 : decode b_NE_append 19 = .ok (.iastore, 1) := by decide +kernel
theorem d_NE_append_20 : decode b_NE_append 20 = .ok (.aload_n 0, 1) := by decide +kernel
theorem d_NE_append_21 : decode b_NE_append 21 = .ok (.getfield 18, 3) := by decide +kernel
theorem d_NE_append_24 : decode b_NE_append 24 = .ok (.iload_n 1, 1) := by decide +kernel
theorem d_NE_append_25 : decode b_NE_append 25 = .ok (.dup2, 1) := by decide +kernel
theorem d_NE_append_26 : decode b_NE_append 26 = .ok (.iaload, 1) := by decide +kernel
theorem d_NE_append_27 : decode b_NE_append 27 = .ok (.iconst 1, 1) := by decide +kernel
theorem d_NE_append_28 : decode b_NE_append 28 = .ok (.iadd, 1) := by decide +kernel
theorem d_NE_append_29 : decode b_NE_append 29 = .ok (.iastore, 1) := by decide +kernel
theorem d_NE_append_30 : decode b_NE_append 30 = .ok (.aload_n 0, 1) := by decide +kernel
theorem d_NE_append_31 : decode b_NE_append 31 = .ok (.getfield 18, 3) := by decide +kernel
theorem d_NE_append_34 : decode b_NE_append 34 = .ok (.iload_n 2, 1) := by decide +kernel
theorem d_NE_append_35 : decode b_NE_append 35 = .ok (.dup2, 1) := by decide +kernel
theorem d_NE_append_36 : decode b_NE_append 36 = .ok (.iaload, 1) := by decide +kernel
theorem d_NE_append_37 : decode b_NE_append 37 = .ok (.iconst 1, 1) := by decide +kernel
theorem d_NE_append_38 : decode b_NE_append 38 = .ok (.iadd, 1) := by decide +kernel
theorem d_NE_append_39 : decode b_NE_append 39 = .ok (.iastore, 1) := by decide +kernel
theorem d_NE_append_40 : decode b_NE_append 40 = .ok (.aload_n 0, 1) := by decide +kernel
theorem d_NE_append_41 : decode b_NE_append 41 = .ok (.dup, 1) := by decide +kernel
theorem d_NE_append_42 : decode b_NE_append 42 = .ok (.getfield 21, 3) := by decide +kernel
theorem d_NE_append_45 : decode b_NE_append 45 = .ok (.dup_x1, 1) := by decide +kernel
theorem d_NE_append_46 : decode b_NE_append 46 = .ok (.iconst 1, 1) := by decide +kernel
theorem d_NE_append_47 : decode b_NE_append 47 = .ok (.iadd, 1) := by decide +kernel
theorem d_NE_append_48 : decode b_NE_append 48 = .ok (.putfield 21, 3) := by decide +kernel
theorem d_NE_append_51 : decode b_NE_append 51 = .ok (.ireturn, 1) := by decide +kernel
theorem d_NE_otherEnd_0 : decode b_NE_otherEnd 0 = .ok (.aload_n 0, 1) := by decide +kernel
theorem d_NE_otherEnd_1 : decode b_NE_otherEnd 1 = .ok (.getfield 9, 3) := by decide +kernel
theorem d_NE_otherEnd_4 : decode b_NE_otherEnd 4 = .ok (.iload_n 1, 1) := by decide +kernel
theorem d_NE_otherEnd_5 : decode b_NE_otherEnd 5 = .ok (.iaload, 1) := by decide +kernel
theorem d_NE_otherEnd_6 : decode b_NE_otherEnd 6 = .ok (.iload_n 2, 1) := by decide +kernel
theorem d_NE_otherEnd_7 : decode b_NE_otherEnd 7 = .ok (.if_icmp .ne 10, 3) := by decide +kernel
theorem d_NE_otherEnd_10 : decode b_NE_otherEnd 10 = .ok (.aload_n 0, 1) := by decide +kernel
theorem d_NE_otherEnd_11 : decode b_NE_otherEnd 11 = .ok (.getfield 15, 3) := by decide +kernel
theorem d_NE_otherEnd_14 : decode b_NE_otherEnd 14 = .ok (.iload_n 1, 1) := by decide +kernel
theorem d_NE_otherEnd_15 : decode b_NE_otherEnd 15 = .ok (.iaload, 1) := by decide +kernel
theorem d_NE_otherEnd_16 : decode b_NE_otherEnd 16 = .ok (.ireturn, 1) := by decide +kernel
theorem d_NE_otherEnd_17 : decode b_NE_otherEnd 17 = .ok (.aload_n 0, 1) := by decide +kernel
theorem d_NE_otherEnd_18 : decode b_NE_otherEnd 18 = .ok (.getfield 15, 3) := by decide +kernel
theorem d_NE_otherEnd_21 : decode b_NE_otherEnd 21 = .ok (.iload_n 1, 1) := by decide +kernel
theorem d_NE_otherEnd_22 : decode b_NE_otherEnd 22 = .ok (.iaload, 1) := by decide +kernel
theorem d_NE_otherEnd_23 : decode b_NE_otherEnd 23 = .ok (.iload_n 2, 1) := by decide +kernel
theorem d_NE_otherEnd_24 : decode b_NE_otherEnd 24 = .ok (.if_icmp .ne 12, 3) := by decide +kernel
theorem d_NE_otherEnd_27 : decode b_NE_otherEnd 27 = .ok (.aload_n 0, 1) := by decide +kernel
theorem d_NE_otherEnd_28 : decode b_NE_otherEnd 28 = .ok (.getfield 9, 3) := by decide +kernel
theorem d_NE_otherEnd_31 : decode b_NE_otherEnd 31 = .ok (.iload_n 1, 1) := by decide +kernel
theorem d_NE_otherEnd_32 : decode b_NE_otherEnd 32 = .ok (.iaload, 1) := by decide +kernel
theorem d_NE_otherEnd_33 : decode b_NE_otherEnd 33 = .ok (.goto 4, 3) := by decide +kernel
theorem d_NE_otherEnd_36 : decode b_NE_otherEnd 36 = .ok (.iconst (-1), 1) := by decide +kernel
theorem d_NE_otherEnd_37 : decode b_NE_otherEnd 37 = .ok (.ireturn, 1) := by decide +kernel
theorem d_DR_next_0 : decode b_DR_next 0 = .ok (.aload_n 0, 1) := by decide +kernel
theorem d_DR_next_1 : decode b_DR_next 1 = .ok (.aload_n 0, 1) := by decide +kernel
theorem d_DR_next_2 : decode b_DR_next 2 = .ok (.getfield 7, 3) := by decide +kernel
theorem d_DR_next_5 : decode b_DR_next 5 = .ok (.ldc2_w 13, 3) := by decide +kernel
theorem d_DR_next_8 : decode b_DR_next 8 = .ok (.lmul, 1) := by decide +kernel
theorem d_DR_next_9 : decode b_DR_next 9 = .ok (.ldc2_w 15, 3) := by decide +kernel
theorem d_DR_next_12 : decode b_DR_next 12 = .ok (.ladd, 1) := by decide +kernel
theorem d_DR_next_13 : decode b_DR_next 13 = .ok (.putfield 7, 3) := by decide +kernel
theorem d_DR_next_16 : decode b_DR_next 16 = .ok (.aload_n 0, 1) := by decide +kernel
theorem d_DR_next_17 : decode b_DR_next 17 = .ok (.getfield 7, 3) := by decide +kernel
theorem d_DR_next_20 : decode b_DR_next 20 = .ok (.bipush 33, 2) := by decide +kernel
theorem d_DR_next_22 : decode b_DR_next 22 = .ok (.lushr, 1) := by decide +kernel
theorem d_DR_next_23 : decode b_DR_next 23 = .ok (.l2i, 1) := by decide +kernel
theorem d_DR_next_24 : decode b_DR_next 24 = .ok (.istore_n 2, 1) := by decide +kernel
theorem d_DR_next_25 : decode b_DR_next 25 = .ok (.iload_n 1, 1) := by decide +kernel
theorem d_DR_next_26 : decode b_DR_next 26 = .ok (.iconst 1, 1) := by decide +kernel
theorem d_DR_next_27 : decode b_DR_next 27 = .ok (.if_icmp .ge 7, 3) := by decide +kernel
theorem d_DR_next_30 : decode b_DR_next 30 = .ok (.iconst 0, 1) := by decide +kernel
theorem d_DR_next_31 : decode b_DR_next 31 = .ok (.goto 6, 3) := by decide +kernel
theorem d_DR_next_34 : decode b_DR_next 34 = .ok (.iload_n 2, 1) := by decide +kernel
theorem d_DR_next_35 : decode b_DR_next 35 = .ok (.iload_n 1, 1) := by decide +kernel
theorem d_DR_next_36 : decode b_DR_next 36 = .ok (.irem, 1) := by decide +kernel
theorem d_DR_next_37 : decode b_DR_next 37 = .ok (.ireturn, 1) := by decide +kernel
theorem d_PL_move_0 : decode b_PL_move 0 = .ok (.iload_n 1, 1) := by decide +kernel
theorem d_PL_move_1 : decode b_PL_move 1 = .ok (.ifCond .ne 15, 3) := by decide +kernel
theorem d_PL_move_4 : decode b_PL_move 4 = .ok (.aload_n 0, 1) := by decide +kernel
theorem d_PL_move_5 : decode b_PL_move 5 = .ok (.getfield 18, 3) := by decide +kernel
theorem d_PL_move_8 : decode b_PL_move 8 = .ok (.iload_n 2, 1) := by decide +kernel
theorem d_PL_move_9 : decode b_PL_move 9 = .ok (.iload_n 3, 1) := by decide +kernel
theorem d_PL_move_10 : decode b_PL_move 10 = .ok (.invokevirtual 59, 3) := by decide +kernel
theorem d_PL_move_13 : decode b_PL_move 13 = .ok (.goto 74, 3) := by decide +kernel
theorem d_PL_move_16 : decode b_PL_move 16 = .ok (.iload_n 1, 1) := by decide +kernel
theorem d_PL_move_17 : decode b_PL_move 17 = .ok (.iconst 1, 1) := by decide +kernel
theorem d_PL_move_18 : decode b_PL_move 18 = .ok (.if_icmp .ne 56, 3) := by decide +kernel
theorem d_PL_move_21 : decode b_PL_move 21 = .ok (.aload_n 0, 1) := by decide +kernel
theorem d_PL_move_22 : decode b_PL_move 22 = .ok (.getfield 22, 3) := by decide +kernel
theorem d_PL_move_25 : decode b_PL_move 25 = .ok (.aload_n 0, 1) := by decide +kernel
theorem d_PL_move_26 : decode b_PL_move 26 = .ok (.getfield 22, 3) := by decide +kernel
theorem d_PL_move_29 : decode b_PL_move 29 = .ok (.getfield 63, 3) := by decide +kernel
theorem d_PL_move_32 : decode b_PL_move 32 = .ok (.aload_n 0, 1) := by decide +kernel
theorem d_PL_move_33 : decode b_PL_move 33 = .ok (.getfield 18, 3) := by decide +kernel
theorem d_PL_move_36 : decode b_PL_move 36 = .ok (.getfield 66, 3) := by decide +kernel
theorem d_PL_move_39 : decode b_PL_move 39 = .ok (.iload_n 2, 1) := by decide +kernel
theorem d_PL_move_40 : decode b_PL_move 40 = .ok (.iaload, 1) := by decide +kernel
theorem d_PL_move_41 : decode b_PL_move 41 = .ok (.iaload, 1) := by decide +kernel
theorem d_PL_move_42 : decode b_PL_move 42 = .ok (.aload_n 0, 1) := by decide +kernel
theorem d_PL_move_43 : decode b_PL_move 43 = .ok (.getfield 22, 3) := by decide +kernel
theorem d_PL_move_46 : decode b_PL_move 46 = .ok (.getfield 63, 3) := by decide +kernel
theorem d_PL_move_49 : decode b_PL_move 49 = .ok (.aload_n 0, 1) := by decide +kernel
theorem d_PL_move_50 : decode b_PL_move 50 = .ok (.getfield 18, 3) := by decide +kernel
theorem d_PL_move_53 : decode b_PL_move 53 = .ok (.getfield 66, 3) := by decide +kernel
theorem d_PL_move_56 : decode b_PL_move 56 = .ok (.iload_n 3, 1) := by decide +kernel
theorem d_PL_move_57 : decode b_PL_move 57 = .ok (.iaload, 1) := by decide +kernel
theorem d_PL_move_58 : decode b_PL_move 58 = .ok (.iaload, 1) := by decide +kernel
theorem d_PL_move_59 : decode b_PL_move 59 = .ok (.invokevirtual 59, 3) := by decide +kernel
theorem d_PL_move_62 : decode b_PL_move 62 = .ok (.aload_n 0, 1) := by decide +kernel
theorem d_PL_move_63 : decode b_PL_move 63 = .ok (.getfield 18, 3) := by decide +kernel
theorem d_PL_move_66 : decode b_PL_move 66 = .ok (.iload_n 2, 1) := by decide +kernel
theorem d_PL_move_67 : decode b_PL_move 67 = .ok (.iload_n 3, 1) := by decide +kernel
theorem d_PL_move_68 : decode b_PL_move 68 = .ok (.invokevirtual 59, 3) := by decide +kernel
theorem d_PL_move_71 : decode b_PL_move 71 = .ok (.goto 16, 3) := by decide +kernel
theorem d_PL_move_74 : decode b_PL_move 74 = .ok (.aload_n 0, 1) := by decide +kernel
theorem d_PL_move_75 : decode b_PL_move 75 = .ok (.aload_n 0, 1) := by decide +kernel
theorem d_PL_move_76 : decode b_PL_move 76 = .ok (.getfield 18, 3) := by decide +kernel
theorem d_PL_move_79 : decode b_PL_move 79 = .ok (.getfield 66, 3) := by decide +kernel
theorem d_PL_move_82 : decode b_PL_move 82 = .ok (.iload_n 2, 1) := by decide +kernel
theorem d_PL_move_83 : decode b_PL_move 83 = .ok (.iaload, 1) := by decide +kernel
theorem d_PL_move_84 : decode b_PL_move 84 = .ok (.invokevirtual 69, 3) := by decide +kernel
theorem d_PL_move_87 : decode b_PL_move 87 = .ok (.return_, 1) := by decide +kernel
set_option maxHeartbeats 4000000 in
set_option maxRecDepth 100000 in
/-- Plan.haveRoomInCommon(u, v) -/
theorem c_PL_haveRoomInCommon (l : Launch) (D : va_G) (pl o1 o2 tu st en ex bl x0 x1 e0 e1 : Nat) (cA c2 : ClassId) (X0 X1 E0 E1 : Nat → Nat) (u v : Nat) (h1 : u < 16) (h2 : v < 16) (g0 : X0 u < 2 ^ 30) (g1 : X0 v < 2 ^ 30) (g2 : E0 u < 2 ^ 30) (g3 : E0 v < 2 ^ 30) (g4 : X1 u < 2 ^ 30) (g5 : X1 v < 2 ^ 30) (g6 : E1 u < 2 ^ 30) (g7 : E1 v < 2 ^ 30) : Met l y_PL_haveRoomInCommon (wsA y_PL_haveRoomInCommon b_PL_haveRoomInCommon 4 (some .boolean)) ({ frames := 0, cells := 0, slots := 0, locals := 0 } : Room) (zR D [(cA, .int), (c2, .array .int)] [(pl, .inr (6, [.ref bl, .ref o1, .ref o2, .ref tu, .ref st, .ref en, .ref ex])), (st, .inl (c2, 2, .inr (.inr (.inr (.inr (pr2 x0 x1)))))), (x0, .inl (cA, 16, .inl (fun k => nI (X0 k)))), (x1, .inl (cA, 16, .inl (fun k => nI (X1 k)))), (en, .inl (c2, 2, .inr (.inr (.inr (.inr (pr2 e0 e1)))))), (e0, .inl (cA, 16, .inl (fun k => nI (E0 k)))), (e1, .inl (cA, 16, .inl (fun k => nI (E1 k))))] [.ref pl, .int (nI u), .int (nI v)]) (k2_QcV (.int (zb (decide (X0 v < E0 u ∧ X0 u < E0 v ∧ X1 v < E1 u ∧ X1 u < E1 v))))) 0 0 (fun _ => False) := by
  refine Met.ofW (cc := b_PL_haveRoomInCommon) (maxL := 4) (ret := (some .boolean)) (by decide) rfl ?_
  intro p e s m args below meth c s₁ B hml hv
  obtain ⟨rfl, hP, hK⟩ := hv
  have hx := B.exec
  have hb := B.bytes
  have hr := B.returns
  have hts : ∀ w ∈ lw_g, w.before _ s = true := fun w h => atoms_spec (ws := wsA y_PL_haveRoomInCommon b_PL_haveRoomInCommon 4 (some .boolean)) B.pre w (List.mem_cons_of_mem _ h)
  have hown : s.vm.findClass R_PL = some m.cls := findClass_of_methodNamed B.named
  have hlocks := B.notSynchronized
  have hl := lv_entry ([.ref pl, .int (nI u), .int (nI v)]) (n := 4) (Nat.le_of_ble_eq_true rfl)
  rw [lg_entry_eq]
  generalize (lg_sl ([.ref pl, .int (nI u), .int (nI v)]) ++ List.replicate (4 - (lg_sl ([.ref pl, .int (nI u), .int (nI v)])).length) Slot.unset).toArray = ls at hl ⊢
  have hl : lv_has ls 4 [(0, .ref pl), (1, .int (nI u)), (2, .int (nI v))] := hl
  have hP : va_P D classes [(pl, .inr (6, [.ref bl, .ref o1, .ref o2, .ref tu, .ref st, .ref en, .ref ex])), (st, .inl (c2, 2, .inr (.inr (.inr (.inr (pr2 x0 x1)))))), (x0, .inl (cA, 16, .inl (fun k => nI (X0 k)))), (x1, .inl (cA, 16, .inl (fun k => nI (X1 k)))), (en, .inl (c2, 2, .inr (.inr (.inr (.inr (pr2 e0 e1)))))), (e0, .inl (cA, 16, .inl (fun k => nI (E0 k)))), (e1, .inl (cA, 16, .inl (fun k => nI (E1 k))))] s.heap := hP
  refine lv_iconst (v := nI 0) hx hb d_PL_haveRoomInCommon_0 (by decide) ?_
  refine lv_istore_n (lv' := [(3, .int (nI 0)), (0, .ref pl), (1, .int (nI u)), (2, .int (nI v))]) hx hb d_PL_haveRoomInCommon_1 rfl hl (by decide) rfl (fun ls hl => ?_)
  refine lv_iload_n hx hb d_PL_haveRoomInCommon_2 rfl (lv_at hl 0 rfl) ?_
  refine lv_iconst (v := nI 2) hx hb d_PL_haveRoomInCommon_3 (by decide) ?_
  refine z_cge (tgt := 53) hx hb d_PL_haveRoomInCommon_4 (by decide) (by omega) (by omega) (fun h => absurd h (by omega)) (fun _ => ?_)
  refine lv_aload_n hx hb d_PL_haveRoomInCommon_7 rfl (lv_at hl 1 rfl) ?_
  refine va_get (D := D) (ci := 6) (v := .ref en) (C := R_PL) (T := F_PL) (N := 7) hx hb hts i_PL hown hK hP 0 rfl rfl 5 (by decide) (hts _ kf_PL_34) (fun _ h9 => h9) rfl d_PL_haveRoomInCommon_8 ?_
  refine lv_iload_n hx hb d_PL_haveRoomInCommon_11 rfl (lv_at hl 0 rfl) ?_
  refine z_a2ld (j := 0) (r := e0) hx hb hK hP 4 1 rfl rfl (by omega) (by decide) rfl d_PL_haveRoomInCommon_12 ?_
  refine lv_iload_n hx hb d_PL_haveRoomInCommon_13 rfl (lv_at hl 2 rfl) ?_
  refine z_ild (j := u) hx hb hK hP 5 0 rfl rfl (by omega) (by decide) d_PL_haveRoomInCommon_14 ?_
  refine lv_aload_n hx hb d_PL_haveRoomInCommon_15 rfl (lv_at hl 1 rfl) ?_
  refine va_get (D := D) (ci := 6) (v := .ref st) (C := R_PL) (T := F_PL) (N := 7) hx hb hts i_PL hown hK hP 0 rfl rfl 4 (by decide) (hts _ kf_PL_31) (fun _ h9 => h9) rfl d_PL_haveRoomInCommon_16 ?_
  refine lv_iload_n hx hb d_PL_haveRoomInCommon_19 rfl (lv_at hl 0 rfl) ?_
  refine z_a2ld (j := 0) (r := x0) hx hb hK hP 1 1 rfl rfl (by omega) (by decide) rfl d_PL_haveRoomInCommon_20 ?_
  refine lv_iload_n hx hb d_PL_haveRoomInCommon_21 rfl (lv_at hl 3 rfl) ?_
  refine z_ild (j := v) hx hb hK hP 2 0 rfl rfl (by omega) (by decide) d_PL_haveRoomInCommon_22 ?_
  refine z_cle (tgt := 45) hx hb d_PL_haveRoomInCommon_23 (by decide) (by omega) (by omega) (fun c_1 => ?_) (fun c_1 => ?_)
  · refine lv_iconst (v := zb false) hx hb d_PL_haveRoomInCommon_45 (by decide) ?_
    refine lv_toi (z := (zb (decide (X0 v < E0 u ∧ X0 u < E0 v ∧ X1 v < E1 u ∧ X1 u < E1 v)))) (congrArg zb (by rw [eq_comm, decide_eq_false_iff_not]; omega)) ?_
    exact W.zret (ty := .boolean) hx hb hr (zb_narrow _) (fun t ht hW => ⟨rfl, ht⟩) (fun q h => by cases h) d_PL_haveRoomInCommon_46
  · refine lv_aload_n hx hb d_PL_haveRoomInCommon_26 rfl (lv_at hl 1 rfl) ?_
    refine va_get (D := D) (ci := 6) (v := .ref en) (C := R_PL) (T := F_PL) (N := 7) hx hb hts i_PL hown hK hP 0 rfl rfl 5 (by decide) (hts _ kf_PL_34) (fun _ h9 => h9) rfl d_PL_haveRoomInCommon_27 ?_
    refine lv_iload_n hx hb d_PL_haveRoomInCommon_30 rfl (lv_at hl 0 rfl) ?_
    refine z_a2ld (j := 0) (r := e0) hx hb hK hP 4 1 rfl rfl (by omega) (by decide) rfl d_PL_haveRoomInCommon_31 ?_
    refine lv_iload_n hx hb d_PL_haveRoomInCommon_32 rfl (lv_at hl 3 rfl) ?_
    refine z_ild (j := v) hx hb hK hP 5 0 rfl rfl (by omega) (by decide) d_PL_haveRoomInCommon_33 ?_
    refine lv_aload_n hx hb d_PL_haveRoomInCommon_34 rfl (lv_at hl 1 rfl) ?_
    refine va_get (D := D) (ci := 6) (v := .ref st) (C := R_PL) (T := F_PL) (N := 7) hx hb hts i_PL hown hK hP 0 rfl rfl 4 (by decide) (hts _ kf_PL_31) (fun _ h9 => h9) rfl d_PL_haveRoomInCommon_35 ?_
    refine lv_iload_n hx hb d_PL_haveRoomInCommon_38 rfl (lv_at hl 0 rfl) ?_
    refine z_a2ld (j := 0) (r := x0) hx hb hK hP 1 1 rfl rfl (by omega) (by decide) rfl d_PL_haveRoomInCommon_39 ?_
    refine lv_iload_n hx hb d_PL_haveRoomInCommon_40 rfl (lv_at hl 2 rfl) ?_
    refine z_ild (j := u) hx hb hK hP 2 0 rfl rfl (by omega) (by decide) d_PL_haveRoomInCommon_41 ?_
    refine z_cgt (tgt := 47) hx hb d_PL_haveRoomInCommon_42 (by decide) (by omega) (by omega) (fun c_2 => ?_) (fun c_2 => ?_)
    · refine lv_iinc (v := nI (1)) (lv' := [(3, .int (nI 1)), (0, .ref pl), (1, .int (nI u)), (2, .int (nI v))]) hx hb d_PL_haveRoomInCommon_47 hl (k := 0) rfl (nI_1 _) (by decide) rfl (fun ls hl => ?_)
      refine lv_goto (tgt := 2) hx hb d_PL_haveRoomInCommon_50 (by decide) ?_
      refine lv_iload_n hx hb d_PL_haveRoomInCommon_2 rfl (lv_at hl 0 rfl) ?_
      refine lv_iconst (v := nI 2) hx hb d_PL_haveRoomInCommon_3 (by decide) ?_
      refine z_cge (tgt := 53) hx hb d_PL_haveRoomInCommon_4 (by decide) (by omega) (by omega) (fun h => absurd h (by omega)) (fun _ => ?_)
      refine lv_aload_n hx hb d_PL_haveRoomInCommon_7 rfl (lv_at hl 1 rfl) ?_
      refine va_get (D := D) (ci := 6) (v := .ref en) (C := R_PL) (T := F_PL) (N := 7) hx hb hts i_PL hown hK hP 0 rfl rfl 5 (by decide) (hts _ kf_PL_34) (fun _ h9 => h9) rfl d_PL_haveRoomInCommon_8 ?_
      refine lv_iload_n hx hb d_PL_haveRoomInCommon_11 rfl (lv_at hl 0 rfl) ?_
      refine z_a2ld (j := 1) (r := e1) hx hb hK hP 4 1 rfl rfl (by omega) (by decide) rfl d_PL_haveRoomInCommon_12 ?_
      refine lv_iload_n hx hb d_PL_haveRoomInCommon_13 rfl (lv_at hl 2 rfl) ?_
      refine z_ild (j := u) hx hb hK hP 6 0 rfl rfl (by omega) (by decide) d_PL_haveRoomInCommon_14 ?_
      refine lv_aload_n hx hb d_PL_haveRoomInCommon_15 rfl (lv_at hl 1 rfl) ?_
      refine va_get (D := D) (ci := 6) (v := .ref st) (C := R_PL) (T := F_PL) (N := 7) hx hb hts i_PL hown hK hP 0 rfl rfl 4 (by decide) (hts _ kf_PL_31) (fun _ h9 => h9) rfl d_PL_haveRoomInCommon_16 ?_
      refine lv_iload_n hx hb d_PL_haveRoomInCommon_19 rfl (lv_at hl 0 rfl) ?_
      refine z_a2ld (j := 1) (r := x1) hx hb hK hP 1 1 rfl rfl (by omega) (by decide) rfl d_PL_haveRoomInCommon_20 ?_
      refine lv_iload_n hx hb d_PL_haveRoomInCommon_21 rfl (lv_at hl 3 rfl) ?_
      refine z_ild (j := v) hx hb hK hP 3 0 rfl rfl (by omega) (by decide) d_PL_haveRoomInCommon_22 ?_
      refine z_cle (tgt := 45) hx hb d_PL_haveRoomInCommon_23 (by decide) (by omega) (by omega) (fun c_3 => ?_) (fun c_3 => ?_)
      · refine lv_iconst (v := zb false) hx hb d_PL_haveRoomInCommon_45 (by decide) ?_
        refine lv_toi (z := (zb (decide (X0 v < E0 u ∧ X0 u < E0 v ∧ X1 v < E1 u ∧ X1 u < E1 v)))) (congrArg zb (by rw [eq_comm, decide_eq_false_iff_not]; omega)) ?_
        exact W.zret (ty := .boolean) hx hb hr (zb_narrow _) (fun t ht hW => ⟨rfl, ht⟩) (fun q h => by cases h) d_PL_haveRoomInCommon_46
      · refine lv_aload_n hx hb d_PL_haveRoomInCommon_26 rfl (lv_at hl 1 rfl) ?_
        refine va_get (D := D) (ci := 6) (v := .ref en) (C := R_PL) (T := F_PL) (N := 7) hx hb hts i_PL hown hK hP 0 rfl rfl 5 (by decide) (hts _ kf_PL_34) (fun _ h9 => h9) rfl d_PL_haveRoomInCommon_27 ?_
        refine lv_iload_n hx hb d_PL_haveRoomInCommon_30 rfl (lv_at hl 0 rfl) ?_
        refine z_a2ld (j := 1) (r := e1) hx hb hK hP 4 1 rfl rfl (by omega) (by decide) rfl d_PL_haveRoomInCommon_31 ?_
        refine lv_iload_n hx hb d_PL_haveRoomInCommon_32 rfl (lv_at hl 3 rfl) ?_
        refine z_ild (j := v) hx hb hK hP 6 0 rfl rfl (by omega) (by decide) d_PL_haveRoomInCommon_33 ?_
        refine lv_aload_n hx hb d_PL_haveRoomInCommon_34 rfl (lv_at hl 1 rfl) ?_
        refine va_get (D := D) (ci := 6) (v := .ref st) (C := R_PL) (T := F_PL) (N := 7) hx hb hts i_PL hown hK hP 0 rfl rfl 4 (by decide) (hts _ kf_PL_31) (fun _ h9 => h9) rfl d_PL_haveRoomInCommon_35 ?_
        refine lv_iload_n hx hb d_PL_haveRoomInCommon_38 rfl (lv_at hl 0 rfl) ?_
        refine z_a2ld (j := 1) (r := x1) hx hb hK hP 1 1 rfl rfl (by omega) (by decide) rfl d_PL_haveRoomInCommon_39 ?_
        refine lv_iload_n hx hb d_PL_haveRoomInCommon_40 rfl (lv_at hl 2 rfl) ?_
        refine z_ild (j := u) hx hb hK hP 3 0 rfl rfl (by omega) (by decide) d_PL_haveRoomInCommon_41 ?_
        refine z_cgt (tgt := 47) hx hb d_PL_haveRoomInCommon_42 (by decide) (by omega) (by omega) (fun c_4 => ?_) (fun c_4 => ?_)
        · refine lv_iinc (v := nI (2)) (lv' := [(3, .int (nI 2)), (0, .ref pl), (1, .int (nI u)), (2, .int (nI v))]) hx hb d_PL_haveRoomInCommon_47 hl (k := 0) rfl (nI_1 _) (by decide) rfl (fun ls hl => ?_)
          refine lv_goto (tgt := 2) hx hb d_PL_haveRoomInCommon_50 (by decide) ?_
          refine lv_iload_n hx hb d_PL_haveRoomInCommon_2 rfl (lv_at hl 0 rfl) ?_
          refine lv_iconst (v := nI 2) hx hb d_PL_haveRoomInCommon_3 (by decide) ?_
          refine z_cge (tgt := 53) hx hb d_PL_haveRoomInCommon_4 (by decide) (by omega) (by omega) (fun _ => ?_) (fun h => absurd h (by omega))
          refine lv_iconst (v := zb true) hx hb d_PL_haveRoomInCommon_53 (by decide) ?_
          refine lv_toi (z := (zb (decide (X0 v < E0 u ∧ X0 u < E0 v ∧ X1 v < E1 u ∧ X1 u < E1 v)))) (congrArg zb (by rw [eq_comm, decide_eq_true_iff]; omega)) ?_
          exact W.zret (ty := .boolean) hx hb hr (zb_narrow _) (fun t ht hW => ⟨rfl, ht⟩) (fun q h => by cases h) d_PL_haveRoomInCommon_54
        · refine lv_iconst (v := zb false) hx hb d_PL_haveRoomInCommon_45 (by decide) ?_
          refine lv_toi (z := (zb (decide (X0 v < E0 u ∧ X0 u < E0 v ∧ X1 v < E1 u ∧ X1 u < E1 v)))) (congrArg zb (by rw [eq_comm, decide_eq_false_iff_not]; omega)) ?_
          exact W.zret (ty := .boolean) hx hb hr (zb_narrow _) (fun t ht hW => ⟨rfl, ht⟩) (fun q h => by cases h) d_PL_haveRoomInCommon_46
    · refine lv_iconst (v := zb false) hx hb d_PL_haveRoomInCommon_45 (by decide) ?_
      refine lv_toi (z := (zb (decide (X0 v < E0 u ∧ X0 u < E0 v ∧ X1 v < E1 u ∧ X1 u < E1 v)))) (congrArg zb (by rw [eq_comm, decide_eq_false_iff_not]; omega)) ?_
      exact W.zret (ty := .boolean) hx hb hr (zb_narrow _) (fun t ht hW => ⟨rfl, ht⟩) (fun q h => by cases h) d_PL_haveRoomInCommon_46
set_option maxHeartbeats 4000000 in
set_option maxRecDepth 100000 in
/-- Nets.isFull(bk) -/
theorem c_NE_isFull (l : Launch) (D : va_G) (ne n1 n2 nc : Nat) (cA : ClassId) (nn : Nat) (NA NB deg : Nat → Nat) (bk : Nat) (h1 : bk < 16) (g1 : deg bk < 2 ^ 31) : Met l y_NE_isFull (wsA y_NE_isFull b_NE_isFull 2 (some .boolean)) ({ frames := 0, cells := 0, slots := 0, locals := 0 } : Room) (zR D [(cA, .int)] [(ne, .inr (3, [.ref n1, .ref n2, .ref nc, .int (nI nn)])), (n1, .inl (cA, 40, .inl (fun k => nI (NA k)))), (n2, .inl (cA, 40, .inl (fun k => nI (NB k)))), (nc, .inl (cA, 16, .inl (fun k => nI (deg k))))] [.ref ne, .int (nI bk)]) (k2_QcV (.int (zb (decide (8 ≤ deg bk))))) 0 0 (fun _ => False) := by
  refine Met.ofW (cc := b_NE_isFull) (maxL := 2) (ret := (some .boolean)) (by decide) rfl ?_
  intro p e s m args below meth c s₁ B hml hv
  obtain ⟨rfl, hP, hK⟩ := hv
  have hx := B.exec
  have hb := B.bytes
  have hr := B.returns
  have hts : ∀ w ∈ lw_g, w.before _ s = true := fun w h => atoms_spec (ws := wsA y_NE_isFull b_NE_isFull 2 (some .boolean)) B.pre w (List.mem_cons_of_mem _ h)
  have hown : s.vm.findClass R_NE = some m.cls := findClass_of_methodNamed B.named
  have hlocks := B.notSynchronized
  have hl := lv_entry ([.ref ne, .int (nI bk)]) (n := 2) (Nat.le_of_ble_eq_true rfl)
  rw [lg_entry_eq]
  generalize (lg_sl ([.ref ne, .int (nI bk)]) ++ List.replicate (2 - (lg_sl ([.ref ne, .int (nI bk)])).length) Slot.unset).toArray = ls at hl ⊢
  have hl : lv_has ls 2 [(0, .ref ne), (1, .int (nI bk))] := hl
  have hP : va_P D classes [(ne, .inr (3, [.ref n1, .ref n2, .ref nc, .int (nI nn)])), (n1, .inl (cA, 40, .inl (fun k => nI (NA k)))), (n2, .inl (cA, 40, .inl (fun k => nI (NB k)))), (nc, .inl (cA, 16, .inl (fun k => nI (deg k))))] s.heap := hP
  refine lv_aload_n hx hb d_NE_isFull_0 rfl (lv_at hl 0 rfl) ?_
  refine va_get (D := D) (ci := 3) (v := .ref nc) (C := R_NE) (T := F_NE) (N := 4) hx hb hts i_NE hown hK hP 0 rfl rfl 2 (by decide) (hts _ kf_NE_18) (fun _ h9 => h9) rfl d_NE_isFull_1 ?_
  refine lv_iload_n hx hb d_NE_isFull_4 rfl (lv_at hl 1 rfl) ?_
  refine z_ild (j := bk) hx hb hK hP 3 0 rfl rfl (by omega) (by decide) d_NE_isFull_5 ?_
  refine lv_bipush (v := nI 8) hx hb d_NE_isFull_6 (by decide) ?_
  refine z_clt (tgt := 15) hx hb d_NE_isFull_8 (by decide) (by omega) (by omega) (fun c_1 => ?_) (fun c_1 => ?_)
  · refine lv_iconst (v := zb false) hx hb d_NE_isFull_15 (by decide) ?_
    refine lv_toi (z := (zb (decide (8 ≤ deg bk)))) (congrArg zb (by rw [eq_comm, decide_eq_false_iff_not]; omega)) ?_
    exact W.zret (ty := .boolean) hx hb hr (zb_narrow _) (fun t ht hW => ⟨rfl, ht⟩) (fun q h => by cases h) d_NE_isFull_16
  · refine lv_iconst (v := zb true) hx hb d_NE_isFull_11 (by decide) ?_
    refine lv_goto (tgt := 16) hx hb d_NE_isFull_12 (by decide) ?_
    refine lv_toi (z := (zb (decide (8 ≤ deg bk)))) (congrArg zb (by rw [eq_comm, decide_eq_true_iff]; omega)) ?_
    exact W.zret (ty := .boolean) hx hb hr (zb_narrow _) (fun t ht hW => ⟨rfl, ht⟩) (fun q h => by cases h) d_NE_isFull_16
set_option maxHeartbeats 4000000 in
set_option maxRecDepth 100000 in
/-- Nets.append(u, v) -/
theorem c_NE_append (l : Launch) (D : va_G) (sz : Nat) (ne n1 n2 nc : Nat) (cA : ClassId) (nn : Nat) (NA NB deg : Nat → Nat) (u v : Nat) (h1 : u < 16) (h2 : v < 16) (h3 : nn < 40) : Met l y_NE_append (wsA y_NE_append b_NE_append 3 (some .int)) ({ frames := 0, cells := 0, slots := 0, locals := 0 } : Room) (zP D [(cA, .int)] [(ne, .inr (3, [.ref n1, .ref n2, .ref nc, .int (nI nn)])), (n1, .inl (cA, 40, .inl (fun k => nI (NA k)))), (n2, .inl (cA, 40, .inl (fun k => nI (NB k)))), (nc, .inl (cA, 16, .inl (fun k => nI (deg k))))] [.ref ne, .int (nI u), .int (nI v)] sz) (zQ (some (.int (nI nn))) (zB D [(cA, .int)] (va_A [(ne, .inr (3, [.ref n1, .ref n2, .ref nc, .int (nI nn)])), (n1, .inl (cA, 40, .inl (fun k => nI (NA k)))), (n2, .inl (cA, 40, .inl (fun k => nI (NB k)))), (nc, .inl (cA, 16, .inl (fun k => nI (deg k))))] sz) [(ne, .inr (3, [.ref n1, .ref n2, .ref nc, .int (nI (nn + 1))])), (n1, .inl (cA, 40, .inl (fun k => nI ((va_up NA nn u) k)))), (n2, .inl (cA, 40, .inl (fun k => nI ((va_up NB nn v) k)))), (nc, .inl (cA, 16, .inl (fun k => nI ((va_up (va_up deg u (deg u + 1)) v (va_up deg u (deg u + 1) v + 1)) k))))]) (va_A [(ne, .inr (3, [.ref n1, .ref n2, .ref nc, .int (nI nn)])), (n1, .inl (cA, 40, .inl (fun k => nI (NA k)))), (n2, .inl (cA, 40, .inl (fun k => nI (NB k)))), (nc, .inl (cA, 16, .inl (fun k => nI (deg k))))] sz)) 0 0 (va_A [(ne, .inr (3, [.ref n1, .ref n2, .ref nc, .int (nI nn)])), (n1, .inl (cA, 40, .inl (fun k => nI (NA k)))), (n2, .inl (cA, 40, .inl (fun k => nI (NB k)))), (nc, .inl (cA, 16, .inl (fun k => nI (deg k))))] sz) := by
  refine Met.ofW (cc := b_NE_append) (maxL := 3) (ret := (some .int)) (by decide) rfl ?_
  intro p e s m args below meth c s₁ B hml hv
  obtain ⟨rfl, hsz, hP, hK, hD0⟩ := hv
  have hx := B.exec
  have hb := B.bytes
  have hr := B.returns
  have hts : ∀ w ∈ lw_g, w.before _ s = true := fun w h => atoms_spec (ws := wsA y_NE_append b_NE_append 3 (some .int)) B.pre w (List.mem_cons_of_mem _ h)
  have hown : s.vm.findClass R_NE = some m.cls := findClass_of_methodNamed B.named
  have hlocks := B.notSynchronized
  obtain ⟨hD, hA, hS⟩ := z_start hsz hD0
  generalize va_A [(ne, .inr (3, [.ref n1, .ref n2, .ref nc, .int (nI nn)])), (n1, .inl (cA, 40, .inl (fun k => nI (NA k)))), (n2, .inl (cA, 40, .inl (fun k => nI (NB k)))), (nc, .inl (cA, 16, .inl (fun k => nI (deg k))))] sz = A at hD hA hS ⊢
  have hl := lv_entry ([.ref ne, .int (nI u), .int (nI v)]) (n := 3) (Nat.le_of_ble_eq_true rfl)
  rw [lg_entry_eq]
  generalize (lg_sl ([.ref ne, .int (nI u), .int (nI v)]) ++ List.replicate (3 - (lg_sl ([.ref ne, .int (nI u), .int (nI v)])).length) Slot.unset).toArray = ls at hl ⊢
  have hl : lv_has ls 3 [(0, .ref ne), (1, .int (nI u)), (2, .int (nI v))] := hl
  have hP : va_P D classes [(ne, .inr (3, [.ref n1, .ref n2, .ref nc, .int (nI nn)])), (n1, .inl (cA, 40, .inl (fun k => nI (NA k)))), (n2, .inl (cA, 40, .inl (fun k => nI (NB k)))), (nc, .inl (cA, 16, .inl (fun k => nI (deg k))))] s.heap := hP
  refine lv_aload_n hx hb d_NE_append_0 rfl (lv_at hl 0 rfl) ?_
  refine va_get (D := D) (ci := 3) (v := .ref n1) (C := R_NE) (T := F_NE) (N := 4) hx hb hts i_NE hown hK hP 0 rfl rfl 0 (by decide) (hts _ kf_NE_9) (fun _ h9 => h9) rfl d_NE_append_1 ?_
  refine lv_aload_n hx hb d_NE_append_4 rfl (lv_at hl 0 rfl) ?_
  refine va_get (D := D) (ci := 3) (v := .int (nI nn)) (C := R_NE) (T := F_NE) (N := 4) hx hb hts i_NE hown hK hP 0 rfl rfl 3 (by decide) (hts _ kf_NE_21) (fun _ h9 => h9) rfl d_NE_append_5 ?_
  refine lv_iload_n hx hb d_NE_append_8 rfl (lv_at hl 1 rfl) ?_
  refine z_ist (j := nn) (v := u) hx hb hK hP hD hS 1 0 rfl rfl (by omega) (by decide) d_NE_append_9 (fun H locs hP hD hS => ?_)
  have hP : va_P D classes [(ne, .inr (3, [.ref n1, .ref n2, .ref nc, .int (nI nn)])), (n1, .inl (cA, 40, .inl (fun k => nI ((va_up NA nn u) k)))), (n2, .inl (cA, 40, .inl (fun k => nI (NB k)))), (nc, .inl (cA, 16, .inl (fun k => nI (deg k))))] H := hP
  have hD : va_D A [(ne, .inr (3, [.ref n1, .ref n2, .ref nc, .int (nI nn)])), (n1, .inl (cA, 40, .inl (fun k => nI ((va_up NA nn u) k)))), (n2, .inl (cA, 40, .inl (fun k => nI (NB k)))), (nc, .inl (cA, 16, .inl (fun k => nI (deg k))))] := hD
  refine lv_aload_n hx hb d_NE_append_10 rfl (lv_at hl 0 rfl) ?_
  refine va_get (D := D) (ci := 3) (v := .ref n2) (C := R_NE) (T := F_NE) (N := 4) hx hb hts i_NE hown hK hP 0 rfl rfl 1 (by decide) (hts _ kf_NE_15) (fun _ h9 => h9) rfl d_NE_append_11 ?_
  refine lv_aload_n hx hb d_NE_append_14 rfl (lv_at hl 0 rfl) ?_
  refine va_get (D := D) (ci := 3) (v := .int (nI nn)) (C := R_NE) (T := F_NE) (N := 4) hx hb hts i_NE hown hK hP 0 rfl rfl 3 (by decide) (hts _ kf_NE_21) (fun _ h9 => h9) rfl d_NE_append_15 ?_
  refine lv_iload_n hx hb d_NE_append_18 rfl (lv_at hl 2 rfl) ?_
  refine z_ist (j := nn) (v := v) hx hb hK hP hD hS 2 0 rfl rfl (by omega) (by decide) d_NE_append_19 (fun H locs hP hD hS => ?_)
  have hP : va_P D classes [(ne, .inr (3, [.ref n1, .ref n2, .ref nc, .int (nI nn)])), (n1, .inl (cA, 40, .inl (fun k => nI ((va_up NA nn u) k)))), (n2, .inl (cA, 40, .inl (fun k => nI ((va_up NB nn v) k)))), (nc, .inl (cA, 16, .inl (fun k => nI (deg k))))] H := hP
  have hD : va_D A [(ne, .inr (3, [.ref n1, .ref n2, .ref nc, .int (nI nn)])), (n1, .inl (cA, 40, .inl (fun k => nI ((va_up NA nn u) k)))), (n2, .inl (cA, 40, .inl (fun k => nI ((va_up NB nn v) k)))), (nc, .inl (cA, 16, .inl (fun k => nI (deg k))))] := hD
  refine lv_aload_n hx hb d_NE_append_20 rfl (lv_at hl 0 rfl) ?_
  refine va_get (D := D) (ci := 3) (v := .ref nc) (C := R_NE) (T := F_NE) (N := 4) hx hb hts i_NE hown hK hP 0 rfl rfl 2 (by decide) (hts _ kf_NE_18) (fun _ h9 => h9) rfl d_NE_append_21 ?_
  refine lv_iload_n hx hb d_NE_append_24 rfl (lv_at hl 1 rfl) ?_
  refine lv_dup2_11 hx hb d_NE_append_25 rfl rfl ?_
  refine z_ild (j := u) hx hb hK hP 3 0 rfl rfl (by omega) (by decide) d_NE_append_26 ?_
  refine lv_iconst (v := nI 1) hx hb d_NE_append_27 (by decide) ?_
  refine z_add hx hb d_NE_append_28 ?_
  refine z_ist (j := u) (v := ((deg u) + 1)) hx hb hK hP hD hS 3 0 rfl rfl (by omega) (by decide) d_NE_append_29 (fun H locs hP hD hS => ?_)
  have hP : va_P D classes [(ne, .inr (3, [.ref n1, .ref n2, .ref nc, .int (nI nn)])), (n1, .inl (cA, 40, .inl (fun k => nI ((va_up NA nn u) k)))), (n2, .inl (cA, 40, .inl (fun k => nI ((va_up NB nn v) k)))), (nc, .inl (cA, 16, .inl (fun k => nI ((va_up deg u ((deg u) + 1)) k))))] H := hP
  have hD : va_D A [(ne, .inr (3, [.ref n1, .ref n2, .ref nc, .int (nI nn)])), (n1, .inl (cA, 40, .inl (fun k => nI ((va_up NA nn u) k)))), (n2, .inl (cA, 40, .inl (fun k => nI ((va_up NB nn v) k)))), (nc, .inl (cA, 16, .inl (fun k => nI ((va_up deg u ((deg u) + 1)) k))))] := hD
  refine lv_aload_n hx hb d_NE_append_30 rfl (lv_at hl 0 rfl) ?_
  refine va_get (D := D) (ci := 3) (v := .ref nc) (C := R_NE) (T := F_NE) (N := 4) hx hb hts i_NE hown hK hP 0 rfl rfl 2 (by decide) (hts _ kf_NE_18) (fun _ h9 => h9) rfl d_NE_append_31 ?_
  refine lv_iload_n hx hb d_NE_append_34 rfl (lv_at hl 2 rfl) ?_
  refine lv_dup2_11 hx hb d_NE_append_35 rfl rfl ?_
  refine z_ild (j := v) hx hb hK hP 3 0 rfl rfl (by omega) (by decide) d_NE_append_36 ?_
  refine lv_iconst (v := nI 1) hx hb d_NE_append_37 (by decide) ?_
  refine z_add hx hb d_NE_append_38 ?_
  refine z_ist (j := v) (v := (((va_up deg u ((deg u) + 1)) v) + 1)) hx hb hK hP hD hS 3 0 rfl rfl (by omega) (by decide) d_NE_append_39 (fun H locs hP hD hS => ?_)
  have hP : va_P D classes [(ne, .inr (3, [.ref n1, .ref n2, .ref nc, .int (nI nn)])), (n1, .inl (cA, 40, .inl (fun k => nI ((va_up NA nn u) k)))), (n2, .inl (cA, 40, .inl (fun k => nI ((va_up NB nn v) k)))), (nc, .inl (cA, 16, .inl (fun k => nI ((va_up (va_up deg u ((deg u) + 1)) v (((va_up deg u ((deg u) + 1)) v) + 1)) k))))] H := hP
  have hD : va_D A [(ne, .inr (3, [.ref n1, .ref n2, .ref nc, .int (nI nn)])), (n1, .inl (cA, 40, .inl (fun k => nI ((va_up NA nn u) k)))), (n2, .inl (cA, 40, .inl (fun k => nI ((va_up NB nn v) k)))), (nc, .inl (cA, 16, .inl (fun k => nI ((va_up (va_up deg u ((deg u) + 1)) v (((va_up deg u ((deg u) + 1)) v) + 1)) k))))] := hD
  refine lv_aload_n hx hb d_NE_append_40 rfl (lv_at hl 0 rfl) ?_
  refine lv_dup hx hb d_NE_append_41 rfl ?_
  refine va_get (D := D) (ci := 3) (v := .int (nI nn)) (C := R_NE) (T := F_NE) (N := 4) hx hb hts i_NE hown hK hP 0 rfl rfl 3 (by decide) (hts _ kf_NE_21) (fun _ h9 => h9) rfl d_NE_append_42 ?_
  refine lv_dup_x1 hx hb d_NE_append_45 rfl rfl ?_
  refine lv_iconst (v := nI 1) hx hb d_NE_append_46 (by decide) ?_
  refine z_add hx hb d_NE_append_47 ?_
  refine va_put (D := D) (ci := 3) (v := .int (nI (nn + 1))) (ty := .int) (C := R_NE) (T := F_NE) (N := 4) hx hb hts i_NE t_NE to_NE n_NE hown hK hP hD hS 0 rfl rfl 3 (by decide) (hts _ kf_NE_21) (fun _ h9 => h9) rfl (by decide +kernel) rfl rfl (Nat.le_of_ble_eq_true rfl) d_NE_append_48 (fun H locs hP hD hS => ?_)
  have hP : va_P D classes [(ne, .inr (3, [.ref n1, .ref n2, .ref nc, .int (nI (nn + 1))])), (n1, .inl (cA, 40, .inl (fun k => nI ((va_up NA nn u) k)))), (n2, .inl (cA, 40, .inl (fun k => nI ((va_up NB nn v) k)))), (nc, .inl (cA, 16, .inl (fun k => nI ((va_up (va_up deg u ((deg u) + 1)) v (((va_up deg u ((deg u) + 1)) v) + 1)) k))))] H := hP
  have hD : va_D A [(ne, .inr (3, [.ref n1, .ref n2, .ref nc, .int (nI (nn + 1))])), (n1, .inl (cA, 40, .inl (fun k => nI ((va_up NA nn u) k)))), (n2, .inl (cA, 40, .inl (fun k => nI ((va_up NB nn v) k)))), (nc, .inl (cA, 16, .inl (fun k => nI ((va_up (va_up deg u ((deg u) + 1)) v (((va_up deg u ((deg u) + 1)) v) + 1)) k))))] := hD
  exact W.iret hx hb hr (fun t ht hW => ⟨rfl, ⟨by rw [ht]; exact hP, va_K.moved hW.alike hK, hD⟩, hS.F ht⟩) hS.2.2 d_NE_append_51
set_option maxHeartbeats 4000000 in
set_option maxRecDepth 100000 in
/-- Nets.otherEnd(k, bk) -/
theorem c_NE_otherEnd (l : Launch) (D : va_G) (ne n1 n2 nc : Nat) (cA : ClassId) (nn : Nat) (NA NB deg : Nat → Nat) (k bk : Nat) (h1 : k < 40) (h2 : bk < 16) (g1 : NA k < 2 ^ 31) (g2 : NB k < 2 ^ 31) : Met l y_NE_otherEnd (wsA y_NE_otherEnd b_NE_otherEnd 3 (some .int)) ({ frames := 0, cells := 0, slots := 0, locals := 0 } : Room) (zR D [(cA, .int)] [(ne, .inr (3, [.ref n1, .ref n2, .ref nc, .int (nI nn)])), (n1, .inl (cA, 40, .inl (fun k => nI (NA k)))), (n2, .inl (cA, 40, .inl (fun k => nI (NB k)))), (nc, .inl (cA, 16, .inl (fun k => nI (deg k))))] [.ref ne, .int (nI k), .int (nI bk)]) (k2_QcV (.int (if NA k = bk then nI (NB k) else if NB k = bk then nI (NA k) else (-1)))) 0 0 (fun _ => False) := by
  refine Met.ofW (cc := b_NE_otherEnd) (maxL := 3) (ret := (some .int)) (by decide) rfl ?_
  intro p e s m args below meth c s₁ B hml hv
  obtain ⟨rfl, hP, hK⟩ := hv
  have hx := B.exec
  have hb := B.bytes
  have hr := B.returns
  have hts : ∀ w ∈ lw_g, w.before _ s = true := fun w h => atoms_spec (ws := wsA y_NE_otherEnd b_NE_otherEnd 3 (some .int)) B.pre w (List.mem_cons_of_mem _ h)
  have hown : s.vm.findClass R_NE = some m.cls := findClass_of_methodNamed B.named
  have hlocks := B.notSynchronized
  have hl := lv_entry ([.ref ne, .int (nI k), .int (nI bk)]) (n := 3) (Nat.le_of_ble_eq_true rfl)
  rw [lg_entry_eq]
  generalize (lg_sl ([.ref ne, .int (nI k), .int (nI bk)]) ++ List.replicate (3 - (lg_sl ([.ref ne, .int (nI k), .int (nI bk)])).length) Slot.unset).toArray = ls at hl ⊢
  have hl : lv_has ls 3 [(0, .ref ne), (1, .int (nI k)), (2, .int (nI bk))] := hl
  have hP : va_P D classes [(ne, .inr (3, [.ref n1, .ref n2, .ref nc, .int (nI nn)])), (n1, .inl (cA, 40, .inl (fun k => nI (NA k)))), (n2, .inl (cA, 40, .inl (fun k => nI (NB k)))), (nc, .inl (cA, 16, .inl (fun k => nI (deg k))))] s.heap := hP
  refine lv_aload_n hx hb d_NE_otherEnd_0 rfl (lv_at hl 0 rfl) ?_
  refine va_get (D := D) (ci := 3) (v := .ref n1) (C := R_NE) (T := F_NE) (N := 4) hx hb hts i_NE hown hK hP 0 rfl rfl 0 (by decide) (hts _ kf_NE_9) (fun _ h9 => h9) rfl d_NE_otherEnd_1 ?_
  refine lv_iload_n hx hb d_NE_otherEnd_4 rfl (lv_at hl 1 rfl) ?_
  refine z_ild (j := k) hx hb hK hP 1 0 rfl rfl (by omega) (by decide) d_NE_otherEnd_5 ?_
  refine lv_iload_n hx hb d_NE_otherEnd_6 rfl (lv_at hl 2 rfl) ?_
  refine z_cne (tgt := 17) hx hb d_NE_otherEnd_7 (by decide) (by omega) (by omega) (fun c_1 => ?_) (fun c_1 => ?_)
  · refine lv_aload_n hx hb d_NE_otherEnd_17 rfl (lv_at hl 0 rfl) ?_
    refine va_get (D := D) (ci := 3) (v := .ref n2) (C := R_NE) (T := F_NE) (N := 4) hx hb hts i_NE hown hK hP 0 rfl rfl 1 (by decide) (hts _ kf_NE_15) (fun _ h9 => h9) rfl d_NE_otherEnd_18 ?_
    refine lv_iload_n hx hb d_NE_otherEnd_21 rfl (lv_at hl 1 rfl) ?_
    refine z_ild (j := k) hx hb hK hP 2 0 rfl rfl (by omega) (by decide) d_NE_otherEnd_22 ?_
    refine lv_iload_n hx hb d_NE_otherEnd_23 rfl (lv_at hl 2 rfl) ?_
    refine z_cne (tgt := 36) hx hb d_NE_otherEnd_24 (by decide) (by omega) (by omega) (fun c_2 => ?_) (fun c_2 => ?_)
    · refine lv_iconst (v := (-1)) hx hb d_NE_otherEnd_36 (by decide) ?_
      refine lv_toi (z := (if NA k = bk then nI (NB k) else if NB k = bk then nI (NA k) else (-1))) (by rw [if_neg c_1, if_neg c_2]) ?_
      exact W.iret hx hb hr (fun t ht hW => ⟨rfl, ht⟩) (fun q h => by cases h) d_NE_otherEnd_37
    · refine lv_aload_n hx hb d_NE_otherEnd_27 rfl (lv_at hl 0 rfl) ?_
      refine va_get (D := D) (ci := 3) (v := .ref n1) (C := R_NE) (T := F_NE) (N := 4) hx hb hts i_NE hown hK hP 0 rfl rfl 0 (by decide) (hts _ kf_NE_9) (fun _ h9 => h9) rfl d_NE_otherEnd_28 ?_
      refine lv_iload_n hx hb d_NE_otherEnd_31 rfl (lv_at hl 1 rfl) ?_
      refine z_ild (j := k) hx hb hK hP 1 0 rfl rfl (by omega) (by decide) d_NE_otherEnd_32 ?_
      refine lv_goto (tgt := 37) hx hb d_NE_otherEnd_33 (by decide) ?_
      refine lv_toi (z := (if NA k = bk then nI (NB k) else if NB k = bk then nI (NA k) else (-1))) (by rw [if_neg c_1, if_pos c_2]) ?_
      exact W.iret hx hb hr (fun t ht hW => ⟨rfl, ht⟩) (fun q h => by cases h) d_NE_otherEnd_37
  · refine lv_aload_n hx hb d_NE_otherEnd_10 rfl (lv_at hl 0 rfl) ?_
    refine va_get (D := D) (ci := 3) (v := .ref n2) (C := R_NE) (T := F_NE) (N := 4) hx hb hts i_NE hown hK hP 0 rfl rfl 1 (by decide) (hts _ kf_NE_15) (fun _ h9 => h9) rfl d_NE_otherEnd_11 ?_
    refine lv_iload_n hx hb d_NE_otherEnd_14 rfl (lv_at hl 1 rfl) ?_
    refine z_ild (j := k) hx hb hK hP 2 0 rfl rfl (by omega) (by decide) d_NE_otherEnd_15 ?_
    refine lv_toi (z := (if NA k = bk then nI (NB k) else if NB k = bk then nI (NA k) else (-1))) (by rw [if_pos c_1]) ?_
    exact W.iret hx hb hr (fun t ht hW => ⟨rfl, ht⟩) (fun q h => by cases h) d_NE_otherEnd_16
set_option maxHeartbeats 4000000 in
set_option maxRecDepth 100000 in
/-- Draws.next(k) -/
theorem c_DR_next (l : Launch) (D : va_G) (sz : Nat) (dr : Nat) (z : Int64) (k : Nat) (h1 : 0 < k) (h2 : k < 2 ^ 31) : Met l y_DR_next (wsA y_DR_next b_DR_next 3 (some .int)) ({ frames := 0, cells := 0, slots := 0, locals := 0 } : Room) (zP D [] [(dr, .inr (2, [.long z]))] [.ref dr, .int (nI k)] sz) (zQ (some (.int (nI (bts (drw z) % k)))) (zB D [] (va_A [(dr, .inr (2, [.long z]))] sz) [(dr, .inr (2, [.long (drw z)]))]) (va_A [(dr, .inr (2, [.long z]))] sz)) 0 0 (va_A [(dr, .inr (2, [.long z]))] sz) := by
  refine Met.ofW (cc := b_DR_next) (maxL := 3) (ret := (some .int)) (by decide) rfl ?_
  intro p e s m args below meth c s₁ B hml hv
  obtain ⟨rfl, hsz, hP, hK, hD0⟩ := hv
  have hx := B.exec
  have hb := B.bytes
  have hr := B.returns
  have hts : ∀ w ∈ lw_g, w.before _ s = true := fun w h => atoms_spec (ws := wsA y_DR_next b_DR_next 3 (some .int)) B.pre w (List.mem_cons_of_mem _ h)
  have hown : s.vm.findClass R_DR = some m.cls := findClass_of_methodNamed B.named
  have hlocks := B.notSynchronized
  obtain ⟨hD, hA, hS⟩ := z_start hsz hD0
  generalize va_A [(dr, .inr (2, [.long z]))] sz = A at hD hA hS ⊢
  have hl := lv_entry ([.ref dr, .int (nI k)]) (n := 3) (Nat.le_of_ble_eq_true rfl)
  rw [lg_entry_eq]
  generalize (lg_sl ([.ref dr, .int (nI k)]) ++ List.replicate (3 - (lg_sl ([.ref dr, .int (nI k)])).length) Slot.unset).toArray = ls at hl ⊢
  have hl : lv_has ls 3 [(0, .ref dr), (1, .int (nI k))] := hl
  have hP : va_P D classes [(dr, .inr (2, [.long z]))] s.heap := hP
  refine lv_aload_n hx hb d_DR_next_0 rfl (lv_at hl 0 rfl) ?_
  refine lv_aload_n hx hb d_DR_next_1 rfl (lv_at hl 0 rfl) ?_
  refine va_get (D := D) (ci := 2) (v := .long z) (C := R_DR) (T := F_DR) (N := 1) hx hb hts i_DR hown hK hP 0 rfl rfl 0 (by decide) (hts _ kf_DR_7) (fun _ h9 => h9) rfl d_DR_next_2 ?_
  refine lv_ldc2 hx hb hown (hts _ kL_DR_13) d_DR_next_5 ?_
  refine lv_lmul hx hb d_DR_next_8 ?_
  refine lv_ldc2 hx hb hown (hts _ kL_DR_15) d_DR_next_9 ?_
  refine lv_ladd hx hb d_DR_next_12 ?_
  refine lv_tol (z := drw z) rfl ?_
  refine va_put (D := D) (ci := 2) (v := .long (drw z)) (ty := .long) (C := R_DR) (T := F_DR) (N := 1) hx hb hts i_DR t_DR to_DR n_DR hown hK hP hD hS 0 rfl rfl 0 (by decide) (hts _ kf_DR_7) (fun _ h9 => h9) rfl (by decide +kernel) rfl rfl (Nat.le_of_ble_eq_true rfl) d_DR_next_13 (fun H locs hP hD hS => ?_)
  have hP : va_P D classes [(dr, .inr (2, [.long (drw z)]))] H := hP
  have hD : va_D A [(dr, .inr (2, [.long (drw z)]))] := hD
  refine lv_aload_n hx hb d_DR_next_16 rfl (lv_at hl 0 rfl) ?_
  refine va_get (D := D) (ci := 2) (v := .long (drw z)) (C := R_DR) (T := F_DR) (N := 1) hx hb hts i_DR hown hK hP 0 rfl rfl 0 (by decide) (hts _ kf_DR_7) (fun _ h9 => h9) rfl d_DR_next_17 ?_
  refine lv_bipush (v := nI 33) hx hb d_DR_next_20 (by decide) ?_
  refine lv_lushr (v := lN (bts (drw z))) hx hb d_DR_next_22 (bts_eq _) ?_
  refine lv_l2i (v := nI (bts (drw z))) hx hb d_DR_next_23 (lN_i _) ?_
  refine lv_istore_n (lv' := [(2, .int (nI (bts (drw z)))), (0, .ref dr), (1, .int (nI k))]) hx hb d_DR_next_24 rfl hl (by decide) rfl (fun ls hl => ?_)
  refine lv_iload_n hx hb d_DR_next_25 rfl (lv_at hl 2 rfl) ?_
  refine lv_iconst (v := nI 1) hx hb d_DR_next_26 (by decide) ?_
  refine z_cge (tgt := 34) hx hb d_DR_next_27 (by decide) (by omega) (by omega) (fun _ => ?_) (fun h => absurd h (by omega))
  refine lv_iload_n hx hb d_DR_next_34 rfl (lv_at hl 0 rfl) ?_
  refine lv_iload_n hx hb d_DR_next_35 rfl (lv_at hl 2 rfl) ?_
  refine lv_irem hx hb d_DR_next_36 (nI_ne0 h1 h2) ?_
  refine lv_toi (pk_rem (bts_lt _) h1 h2) ?_
  exact W.iret hx hb hr (fun t ht hW => ⟨rfl, ⟨by rw [ht]; exact hP, va_K.moved hW.alike hK, hD⟩, hS.F ht⟩) hS.2.2 d_DR_next_37
set_option maxHeartbeats 4000000 in
set_option maxRecDepth 100000 in
/-- Plan.move(0, i, j) -/
theorem c_PL_move_0 (l : Launch) (D : va_G) (sz : Nat) (pl o1 a1 b1 o2 a2 b2 tu st x0 x1 en e0 e1 ex : Nat) (k1 k2 : Nat) (ba1 po1 ba2 po2 X0 X1 E0 E1 ext : Nat → Nat) (tz : Nat → Bool) (bl so s0 s1 to t0 t1 mt fx : Nat) (cA cZ c2 : ClassId) (cnt : Nat) (Z0 Z1 T0 T1 : Nat → Nat) (may fixd : Nat → Bool) (i0 j0 : Nat) (h1 : i0 < 16) (h2 : j0 < 16) (h3 : ba1 i0 < 16) (h4 : ba1 j0 < 16) : Met l y_PL_move (wsA y_PL_move b_PL_move 4 none) ({ frames := 1, cells := 0, slots := 0, locals := 24 } : Room) (zP D [(cA, .int), (cZ, .boolean), (c2, .array .int)] [(pl, .inr (6, [.ref bl, .ref o1, .ref o2, .ref tu, .ref st, .ref en, .ref ex])), (o1, .inr (4, [.ref a1, .ref b1, .int (nI k1)])), (a1, .inl (cA, 16, .inl (fun k => nI (ba1 k)))), (b1, .inl (cA, 16, .inl (fun k => nI (po1 k)))), (o2, .inr (4, [.ref a2, .ref b2, .int (nI k2)])), (a2, .inl (cA, 16, .inl (fun k => nI (ba2 k)))), (b2, .inl (cA, 16, .inl (fun k => nI (po2 k)))), (tu, .inl (cZ, 16, .inl (fun k => zb (tz k)))), (st, .inl (c2, 2, .inr (.inr (.inr (.inr (pr2 x0 x1)))))), (x0, .inl (cA, 16, .inl (fun k => nI (X0 k)))), (x1, .inl (cA, 16, .inl (fun k => nI (X1 k)))), (en, .inl (c2, 2, .inr (.inr (.inr (.inr (pr2 e0 e1)))))), (e0, .inl (cA, 16, .inl (fun k => nI (E0 k)))), (e1, .inl (cA, 16, .inl (fun k => nI (E1 k)))), (ex, .inl (cA, 2, .inl (fun k => nI (ext k)))), (bl, .inr (1, [.ref so, .ref to, .ref mt, .ref fx, .int (nI cnt)])), (so, .inl (c2, 2, .inr (.inr (.inr (.inr (pr2 s0 s1)))))), (s0, .inl (cA, 16, .inl (fun k => nI (Z0 k)))), (s1, .inl (cA, 16, .inl (fun k => nI (Z1 k)))), (to, .inl (c2, 2, .inr (.inr (.inr (.inr (pr2 t0 t1)))))), (t0, .inl (cA, 16, .inl (fun k => nI (T0 k)))), (t1, .inl (cA, 16, .inl (fun k => nI (T1 k)))), (mt, .inl (cZ, 16, .inl (fun k => zb (may k)))), (fx, .inl (cZ, 16, .inl (fun k => zb (fixd k))))] [.ref pl, .int (nI 0), .int (nI i0), .int (nI j0)] sz) (zQ none (zB D [(cA, .int), (cZ, .boolean), (c2, .array .int)] (va_A [(pl, .inr (6, [.ref bl, .ref o1, .ref o2, .ref tu, .ref st, .ref en, .ref ex])), (o1, .inr (4, [.ref a1, .ref b1, .int (nI k1)])), (a1, .inl (cA, 16, .inl (fun k => nI (ba1 k)))), (b1, .inl (cA, 16, .inl (fun k => nI (po1 k)))), (o2, .inr (4, [.ref a2, .ref b2, .int (nI k2)])), (a2, .inl (cA, 16, .inl (fun k => nI (ba2 k)))), (b2, .inl (cA, 16, .inl (fun k => nI (po2 k)))), (tu, .inl (cZ, 16, .inl (fun k => zb (tz k)))), (st, .inl (c2, 2, .inr (.inr (.inr (.inr (pr2 x0 x1)))))), (x0, .inl (cA, 16, .inl (fun k => nI (X0 k)))), (x1, .inl (cA, 16, .inl (fun k => nI (X1 k)))), (en, .inl (c2, 2, .inr (.inr (.inr (.inr (pr2 e0 e1)))))), (e0, .inl (cA, 16, .inl (fun k => nI (E0 k)))), (e1, .inl (cA, 16, .inl (fun k => nI (E1 k)))), (ex, .inl (cA, 2, .inl (fun k => nI (ext k)))), (bl, .inr (1, [.ref so, .ref to, .ref mt, .ref fx, .int (nI cnt)])), (so, .inl (c2, 2, .inr (.inr (.inr (.inr (pr2 s0 s1)))))), (s0, .inl (cA, 16, .inl (fun k => nI (Z0 k)))), (s1, .inl (cA, 16, .inl (fun k => nI (Z1 k)))), (to, .inl (c2, 2, .inr (.inr (.inr (.inr (pr2 t0 t1)))))), (t0, .inl (cA, 16, .inl (fun k => nI (T0 k)))), (t1, .inl (cA, 16, .inl (fun k => nI (T1 k)))), (mt, .inl (cZ, 16, .inl (fun k => zb (may k)))), (fx, .inl (cZ, 16, .inl (fun k => zb (fixd k))))] sz) [(pl, .inr (6, [.ref bl, .ref o1, .ref o2, .ref tu, .ref st, .ref en, .ref ex])), (o1, .inr (4, [.ref a1, .ref b1, .int (nI k1)])), (a1, .inl (cA, 16, .inl (fun k => nI ((va_up (va_up ba1 i0 (ba1 j0)) j0 (ba1 i0)) k)))), (b1, .inl (cA, 16, .inl (fun k => nI ((va_up (va_up po1 (ba1 j0) i0) (ba1 i0) j0) k)))), (o2, .inr (4, [.ref a2, .ref b2, .int (nI k2)])), (a2, .inl (cA, 16, .inl (fun k => nI (ba2 k)))), (b2, .inl (cA, 16, .inl (fun k => nI (po2 k)))), (tu, .inl (cZ, 16, .inl (fun k => zb (tz k)))), (st, .inl (c2, 2, .inr (.inr (.inr (.inr (pr2 x0 x1)))))), (x0, .inl (cA, 16, .inl (fun k => nI (X0 k)))), (x1, .inl (cA, 16, .inl (fun k => nI (X1 k)))), (en, .inl (c2, 2, .inr (.inr (.inr (.inr (pr2 e0 e1)))))), (e0, .inl (cA, 16, .inl (fun k => nI (E0 k)))), (e1, .inl (cA, 16, .inl (fun k => nI (E1 k)))), (ex, .inl (cA, 2, .inl (fun k => nI (ext k)))), (bl, .inr (1, [.ref so, .ref to, .ref mt, .ref fx, .int (nI cnt)])), (so, .inl (c2, 2, .inr (.inr (.inr (.inr (pr2 s0 s1)))))), (s0, .inl (cA, 16, .inl (fun k => nI (Z0 k)))), (s1, .inl (cA, 16, .inl (fun k => nI (Z1 k)))), (to, .inl (c2, 2, .inr (.inr (.inr (.inr (pr2 t0 t1)))))), (t0, .inl (cA, 16, .inl (fun k => nI (T0 k)))), (t1, .inl (cA, 16, .inl (fun k => nI (T1 k)))), (mt, .inl (cZ, 16, .inl (fun k => zb (may k)))), (fx, .inl (cZ, 16, .inl (fun k => zb (fixd k))))]) (va_A [(pl, .inr (6, [.ref bl, .ref o1, .ref o2, .ref tu, .ref st, .ref en, .ref ex])), (o1, .inr (4, [.ref a1, .ref b1, .int (nI k1)])), (a1, .inl (cA, 16, .inl (fun k => nI (ba1 k)))), (b1, .inl (cA, 16, .inl (fun k => nI (po1 k)))), (o2, .inr (4, [.ref a2, .ref b2, .int (nI k2)])), (a2, .inl (cA, 16, .inl (fun k => nI (ba2 k)))), (b2, .inl (cA, 16, .inl (fun k => nI (po2 k)))), (tu, .inl (cZ, 16, .inl (fun k => zb (tz k)))), (st, .inl (c2, 2, .inr (.inr (.inr (.inr (pr2 x0 x1)))))), (x0, .inl (cA, 16, .inl (fun k => nI (X0 k)))), (x1, .inl (cA, 16, .inl (fun k => nI (X1 k)))), (en, .inl (c2, 2, .inr (.inr (.inr (.inr (pr2 e0 e1)))))), (e0, .inl (cA, 16, .inl (fun k => nI (E0 k)))), (e1, .inl (cA, 16, .inl (fun k => nI (E1 k)))), (ex, .inl (cA, 2, .inl (fun k => nI (ext k)))), (bl, .inr (1, [.ref so, .ref to, .ref mt, .ref fx, .int (nI cnt)])), (so, .inl (c2, 2, .inr (.inr (.inr (.inr (pr2 s0 s1)))))), (s0, .inl (cA, 16, .inl (fun k => nI (Z0 k)))), (s1, .inl (cA, 16, .inl (fun k => nI (Z1 k)))), (to, .inl (c2, 2, .inr (.inr (.inr (.inr (pr2 t0 t1)))))), (t0, .inl (cA, 16, .inl (fun k => nI (T0 k)))), (t1, .inl (cA, 16, .inl (fun k => nI (T1 k)))), (mt, .inl (cZ, 16, .inl (fun k => zb (may k)))), (fx, .inl (cZ, 16, .inl (fun k => zb (fixd k))))] sz)) 0 0 (va_A [(pl, .inr (6, [.ref bl, .ref o1, .ref o2, .ref tu, .ref st, .ref en, .ref ex])), (o1, .inr (4, [.ref a1, .ref b1, .int (nI k1)])), (a1, .inl (cA, 16, .inl (fun k => nI (ba1 k)))), (b1, .inl (cA, 16, .inl (fun k => nI (po1 k)))), (o2, .inr (4, [.ref a2, .ref b2, .int (nI k2)])), (a2, .inl (cA, 16, .inl (fun k => nI (ba2 k)))), (b2, .inl (cA, 16, .inl (fun k => nI (po2 k)))), (tu, .inl (cZ, 16, .inl (fun k => zb (tz k)))), (st, .inl (c2, 2, .inr (.inr (.inr (.inr (pr2 x0 x1)))))), (x0, .inl (cA, 16, .inl (fun k => nI (X0 k)))), (x1, .inl (cA, 16, .inl (fun k => nI (X1 k)))), (en, .inl (c2, 2, .inr (.inr (.inr (.inr (pr2 e0 e1)))))), (e0, .inl (cA, 16, .inl (fun k => nI (E0 k)))), (e1, .inl (cA, 16, .inl (fun k => nI (E1 k)))), (ex, .inl (cA, 2, .inl (fun k => nI (ext k)))), (bl, .inr (1, [.ref so, .ref to, .ref mt, .ref fx, .int (nI cnt)])), (so, .inl (c2, 2, .inr (.inr (.inr (.inr (pr2 s0 s1)))))), (s0, .inl (cA, 16, .inl (fun k => nI (Z0 k)))), (s1, .inl (cA, 16, .inl (fun k => nI (Z1 k)))), (to, .inl (c2, 2, .inr (.inr (.inr (.inr (pr2 t0 t1)))))), (t0, .inl (cA, 16, .inl (fun k => nI (T0 k)))), (t1, .inl (cA, 16, .inl (fun k => nI (T1 k)))), (mt, .inl (cZ, 16, .inl (fun k => zb (may k)))), (fx, .inl (cZ, 16, .inl (fun k => zb (fixd k))))] sz) := by
  refine Met.ofW (cc := b_PL_move) (maxL := 4) (ret := none) (by decide) rfl ?_
  intro p e s m args below meth c s₁ B hml hv
  obtain ⟨rfl, hsz, hP, hK, hD0⟩ := hv
  have hx := B.exec
  have hb := B.bytes
  have hr := B.returns
  have hts : ∀ w ∈ lw_g, w.before _ s = true := fun w h => atoms_spec (ws := wsA y_PL_move b_PL_move 4 none) B.pre w (List.mem_cons_of_mem _ h)
  have hown : s.vm.findClass R_PL = some m.cls := findClass_of_methodNamed B.named
  have hlocks := B.notSynchronized
  obtain ⟨hD, hA, hS⟩ := z_start hsz hD0
  generalize va_A [(pl, .inr (6, [.ref bl, .ref o1, .ref o2, .ref tu, .ref st, .ref en, .ref ex])), (o1, .inr (4, [.ref a1, .ref b1, .int (nI k1)])), (a1, .inl (cA, 16, .inl (fun k => nI (ba1 k)))), (b1, .inl (cA, 16, .inl (fun k => nI (po1 k)))), (o2, .inr (4, [.ref a2, .ref b2, .int (nI k2)])), (a2, .inl (cA, 16, .inl (fun k => nI (ba2 k)))), (b2, .inl (cA, 16, .inl (fun k => nI (po2 k)))), (tu, .inl (cZ, 16, .inl (fun k => zb (tz k)))), (st, .inl (c2, 2, .inr (.inr (.inr (.inr (pr2 x0 x1)))))), (x0, .inl (cA, 16, .inl (fun k => nI (X0 k)))), (x1, .inl (cA, 16, .inl (fun k => nI (X1 k)))), (en, .inl (c2, 2, .inr (.inr (.inr (.inr (pr2 e0 e1)))))), (e0, .inl (cA, 16, .inl (fun k => nI (E0 k)))), (e1, .inl (cA, 16, .inl (fun k => nI (E1 k)))), (ex, .inl (cA, 2, .inl (fun k => nI (ext k)))), (bl, .inr (1, [.ref so, .ref to, .ref mt, .ref fx, .int (nI cnt)])), (so, .inl (c2, 2, .inr (.inr (.inr (.inr (pr2 s0 s1)))))), (s0, .inl (cA, 16, .inl (fun k => nI (Z0 k)))), (s1, .inl (cA, 16, .inl (fun k => nI (Z1 k)))), (to, .inl (c2, 2, .inr (.inr (.inr (.inr (pr2 t0 t1)))))), (t0, .inl (cA, 16, .inl (fun k => nI (T0 k)))), (t1, .inl (cA, 16, .inl (fun k => nI (T1 k)))), (mt, .inl (cZ, 16, .inl (fun k => zb (may k)))), (fx, .inl (cZ, 16, .inl (fun k => zb (fixd k))))] sz = A at hD hA hS ⊢
  have hl := lv_entry ([.ref pl, .int (nI 0), .int (nI i0), .int (nI j0)]) (n := 4) (Nat.le_of_ble_eq_true rfl)
  rw [lg_entry_eq]
  generalize (lg_sl ([.ref pl, .int (nI 0), .int (nI i0), .int (nI j0)]) ++ List.replicate (4 - (lg_sl ([.ref pl, .int (nI 0), .int (nI i0), .int (nI j0)])).length) Slot.unset).toArray = ls at hl ⊢
  have hl : lv_has ls 4 [(0, .ref pl), (1, .int (nI 0)), (2, .int (nI i0)), (3, .int (nI j0))] := hl
  have hP : va_P D classes [(pl, .inr (6, [.ref bl, .ref o1, .ref o2, .ref tu, .ref st, .ref en, .ref ex])), (o1, .inr (4, [.ref a1, .ref b1, .int (nI k1)])), (a1, .inl (cA, 16, .inl (fun k => nI (ba1 k)))), (b1, .inl (cA, 16, .inl (fun k => nI (po1 k)))), (o2, .inr (4, [.ref a2, .ref b2, .int (nI k2)])), (a2, .inl (cA, 16, .inl (fun k => nI (ba2 k)))), (b2, .inl (cA, 16, .inl (fun k => nI (po2 k)))), (tu, .inl (cZ, 16, .inl (fun k => zb (tz k)))), (st, .inl (c2, 2, .inr (.inr (.inr (.inr (pr2 x0 x1)))))), (x0, .inl (cA, 16, .inl (fun k => nI (X0 k)))), (x1, .inl (cA, 16, .inl (fun k => nI (X1 k)))), (en, .inl (c2, 2, .inr (.inr (.inr (.inr (pr2 e0 e1)))))), (e0, .inl (cA, 16, .inl (fun k => nI (E0 k)))), (e1, .inl (cA, 16, .inl (fun k => nI (E1 k)))), (ex, .inl (cA, 2, .inl (fun k => nI (ext k)))), (bl, .inr (1, [.ref so, .ref to, .ref mt, .ref fx, .int (nI cnt)])), (so, .inl (c2, 2, .inr (.inr (.inr (.inr (pr2 s0 s1)))))), (s0, .inl (cA, 16, .inl (fun k => nI (Z0 k)))), (s1, .inl (cA, 16, .inl (fun k => nI (Z1 k)))), (to, .inl (c2, 2, .inr (.inr (.inr (.inr (pr2 t0 t1)))))), (t0, .inl (cA, 16, .inl (fun k => nI (T0 k)))), (t1, .inl (cA, 16, .inl (fun k => nI (T1 k)))), (mt, .inl (cZ, 16, .inl (fun k => zb (may k)))), (fx, .inl (cZ, 16, .inl (fun k => zb (fixd k))))] s.heap := hP
  refine lv_iload_n hx hb d_PL_move_0 rfl (lv_at hl 1 rfl) ?_
  refine lv_if_ne (tgt := 16) hx hb d_PL_move_1 (by decide) (fun h => absurd h (by decide)) (fun _ => ?_)
  refine lv_aload_n hx hb d_PL_move_4 rfl (lv_at hl 0 rfl) ?_
  refine va_get (D := D) (ci := 6) (v := .ref o1) (C := R_PL) (T := F_PL) (N := 7) hx hb hts i_PL hown hK hP 0 rfl rfl 1 (by decide) (hts _ kf_PL_18) (fun _ h9 => h9) rfl d_PL_move_5 ?_
  refine lv_iload_n hx hb d_PL_move_8 rfl (lv_at hl 2 rfl) ?_
  refine lv_iload_n hx hb d_PL_move_9 rfl (lv_at hl 3 rfl) ?_
  refine zw_V (ci := 4) (q0 := 0) (As := [.int (nI i0), .int (nI j0)]) (rest := []) (n := 2) (wsC' := [(o1, .inr (4, [.ref a1, .ref b1, .int (nI k1)])), (a1, .inl (cA, 16, .inl (fun k => nI ((va_up (va_up ba1 i0 (ba1 j0)) j0 (ba1 i0)) k)))), (b1, .inl (cA, 16, .inl (fun k => nI ((va_up (va_up po1 (ba1 j0) i0) (ba1 i0) j0) k))))]) (wr := [(pl, .inr (6, [.ref bl, .ref o1, .ref o2, .ref tu, .ref st, .ref en, .ref ex])), (o2, .inr (4, [.ref a2, .ref b2, .int (nI k2)])), (a2, .inl (cA, 16, .inl (fun k => nI (ba2 k)))), (b2, .inl (cA, 16, .inl (fun k => nI (po2 k)))), (tu, .inl (cZ, 16, .inl (fun k => zb (tz k)))), (st, .inl (c2, 2, .inr (.inr (.inr (.inr (pr2 x0 x1)))))), (x0, .inl (cA, 16, .inl (fun k => nI (X0 k)))), (x1, .inl (cA, 16, .inl (fun k => nI (X1 k)))), (en, .inl (c2, 2, .inr (.inr (.inr (.inr (pr2 e0 e1)))))), (e0, .inl (cA, 16, .inl (fun k => nI (E0 k)))), (e1, .inl (cA, 16, .inl (fun k => nI (E1 k)))), (ex, .inl (cA, 2, .inl (fun k => nI (ext k)))), (bl, .inr (1, [.ref so, .ref to, .ref mt, .ref fx, .int (nI cnt)])), (so, .inl (c2, 2, .inr (.inr (.inr (.inr (pr2 s0 s1)))))), (s0, .inl (cA, 16, .inl (fun k => nI (Z0 k)))), (s1, .inl (cA, 16, .inl (fun k => nI (Z1 k)))), (to, .inl (c2, 2, .inr (.inr (.inr (.inr (pr2 t0 t1)))))), (t0, .inl (cA, 16, .inl (fun k => nI (T0 k)))), (t1, .inl (cA, 16, .inl (fun k => nI (T1 k)))), (mt, .inl (cZ, 16, .inl (fun k => zb (may k)))), (fx, .inl (cZ, 16, .inl (fun k => zb (fixd k))))]) (ws' := [(pl, .inr (6, [.ref bl, .ref o1, .ref o2, .ref tu, .ref st, .ref en, .ref ex])), (o1, .inr (4, [.ref a1, .ref b1, .int (nI k1)])), (a1, .inl (cA, 16, .inl (fun k => nI ((va_up (va_up ba1 i0 (ba1 j0)) j0 (ba1 i0)) k)))), (b1, .inl (cA, 16, .inl (fun k => nI ((va_up (va_up po1 (ba1 j0) i0) (ba1 i0) j0) k)))), (o2, .inr (4, [.ref a2, .ref b2, .int (nI k2)])), (a2, .inl (cA, 16, .inl (fun k => nI (ba2 k)))), (b2, .inl (cA, 16, .inl (fun k => nI (po2 k)))), (tu, .inl (cZ, 16, .inl (fun k => zb (tz k)))), (st, .inl (c2, 2, .inr (.inr (.inr (.inr (pr2 x0 x1)))))), (x0, .inl (cA, 16, .inl (fun k => nI (X0 k)))), (x1, .inl (cA, 16, .inl (fun k => nI (X1 k)))), (en, .inl (c2, 2, .inr (.inr (.inr (.inr (pr2 e0 e1)))))), (e0, .inl (cA, 16, .inl (fun k => nI (E0 k)))), (e1, .inl (cA, 16, .inl (fun k => nI (E1 k)))), (ex, .inl (cA, 2, .inl (fun k => nI (ext k)))), (bl, .inr (1, [.ref so, .ref to, .ref mt, .ref fx, .int (nI cnt)])), (so, .inl (c2, 2, .inr (.inr (.inr (.inr (pr2 s0 s1)))))), (s0, .inl (cA, 16, .inl (fun k => nI (Z0 k)))), (s1, .inl (cA, 16, .inl (fun k => nI (Z1 k)))), (to, .inl (c2, 2, .inr (.inr (.inr (.inr (pr2 t0 t1)))))), (t0, .inl (cA, 16, .inl (fun k => nI (T0 k)))), (t1, .inl (cA, 16, .inl (fun k => nI (T1 k)))), (mt, .inl (cZ, 16, .inl (fun k => zb (may k)))), (fx, .inl (cZ, 16, .inl (fun k => zb (fixd k))))]) ⟨hx, hb, hml, hown, hts⟩ (c_OR_exchange l D _ o1 a1 b1 cA ba1 po1 k1 i0 j0 h1 h2 h3 h4) ⟨km_PL_59, ki_OR_exchange, ks_OR_exchange, kn_OR, kd_OR_exchange⟩ (by decide +kernel) (by decide) ⟨Nat.zero_le _, Nat.zero_le _⟩ hK hP hD hS hA [1, 2, 3] [0, 4, 5, 6, 7, 8, 9, 10, 11, 12, 13, 14, 15, 16, 17, 18, 19, 20, 21, 22, 23] [0, 21, 22, 23, 1, 2, 3, 4, 5, 6, 7, 8, 9, 10, 11, 12, 13, 14, 15, 16, 17, 18, 19, 20] [0] rfl rfl (by decide) rfl (by decide) (by decide) rfl rfl (by decide) rfl rfl rfl rfl hl.1 rfl (Nat.le_of_ble_eq_true rfl) d_PL_move_10 (fun H locs hP hD hS => ?_)
  have hP : va_P D classes [(pl, .inr (6, [.ref bl, .ref o1, .ref o2, .ref tu, .ref st, .ref en, .ref ex])), (o1, .inr (4, [.ref a1, .ref b1, .int (nI k1)])), (a1, .inl (cA, 16, .inl (fun k => nI ((va_up (va_up ba1 i0 (ba1 j0)) j0 (ba1 i0)) k)))), (b1, .inl (cA, 16, .inl (fun k => nI ((va_up (va_up po1 (ba1 j0) i0) (ba1 i0) j0) k)))), (o2, .inr (4, [.ref a2, .ref b2, .int (nI k2)])), (a2, .inl (cA, 16, .inl (fun k => nI (ba2 k)))), (b2, .inl (cA, 16, .inl (fun k => nI (po2 k)))), (tu, .inl (cZ, 16, .inl (fun k => zb (tz k)))), (st, .inl (c2, 2, .inr (.inr (.inr (.inr (pr2 x0 x1)))))), (x0, .inl (cA, 16, .inl (fun k => nI (X0 k)))), (x1, .inl (cA, 16, .inl (fun k => nI (X1 k)))), (en, .inl (c2, 2, .inr (.inr (.inr (.inr (pr2 e0 e1)))))), (e0, .inl (cA, 16, .inl (fun k => nI (E0 k)))), (e1, .inl (cA, 16, .inl (fun k => nI (E1 k)))), (ex, .inl (cA, 2, .inl (fun k => nI (ext k)))), (bl, .inr (1, [.ref so, .ref to, .ref mt, .ref fx, .int (nI cnt)])), (so, .inl (c2, 2, .inr (.inr (.inr (.inr (pr2 s0 s1)))))), (s0, .inl (cA, 16, .inl (fun k => nI (Z0 k)))), (s1, .inl (cA, 16, .inl (fun k => nI (Z1 k)))), (to, .inl (c2, 2, .inr (.inr (.inr (.inr (pr2 t0 t1)))))), (t0, .inl (cA, 16, .inl (fun k => nI (T0 k)))), (t1, .inl (cA, 16, .inl (fun k => nI (T1 k)))), (mt, .inl (cZ, 16, .inl (fun k => zb (may k)))), (fx, .inl (cZ, 16, .inl (fun k => zb (fixd k))))] H := hP
  have hD : va_D A [(pl, .inr (6, [.ref bl, .ref o1, .ref o2, .ref tu, .ref st, .ref en, .ref ex])), (o1, .inr (4, [.ref a1, .ref b1, .int (nI k1)])), (a1, .inl (cA, 16, .inl (fun k => nI ((va_up (va_up ba1 i0 (ba1 j0)) j0 (ba1 i0)) k)))), (b1, .inl (cA, 16, .inl (fun k => nI ((va_up (va_up po1 (ba1 j0) i0) (ba1 i0) j0) k)))), (o2, .inr (4, [.ref a2, .ref b2, .int (nI k2)])), (a2, .inl (cA, 16, .inl (fun k => nI (ba2 k)))), (b2, .inl (cA, 16, .inl (fun k => nI (po2 k)))), (tu, .inl (cZ, 16, .inl (fun k => zb (tz k)))), (st, .inl (c2, 2, .inr (.inr (.inr (.inr (pr2 x0 x1)))))), (x0, .inl (cA, 16, .inl (fun k => nI (X0 k)))), (x1, .inl (cA, 16, .inl (fun k => nI (X1 k)))), (en, .inl (c2, 2, .inr (.inr (.inr (.inr (pr2 e0 e1)))))), (e0, .inl (cA, 16, .inl (fun k => nI (E0 k)))), (e1, .inl (cA, 16, .inl (fun k => nI (E1 k)))), (ex, .inl (cA, 2, .inl (fun k => nI (ext k)))), (bl, .inr (1, [.ref so, .ref to, .ref mt, .ref fx, .int (nI cnt)])), (so, .inl (c2, 2, .inr (.inr (.inr (.inr (pr2 s0 s1)))))), (s0, .inl (cA, 16, .inl (fun k => nI (Z0 k)))), (s1, .inl (cA, 16, .inl (fun k => nI (Z1 k)))), (to, .inl (c2, 2, .inr (.inr (.inr (.inr (pr2 t0 t1)))))), (t0, .inl (cA, 16, .inl (fun k => nI (T0 k)))), (t1, .inl (cA, 16, .inl (fun k => nI (T1 k)))), (mt, .inl (cZ, 16, .inl (fun k => zb (may k)))), (fx, .inl (cZ, 16, .inl (fun k => zb (fixd k))))] := hD
  refine lv_goto (tgt := 87) hx hb d_PL_move_13 (by decide) ?_
  exact W.vret hx hb hr (fun t ht hW => ⟨rfl, ⟨by rw [ht]; exact hP, va_K.moved hW.alike hK, hD⟩, hS.F ht⟩) hS.2.2 d_PL_move_87
set_option maxHeartbeats 4000000 in
set_option maxRecDepth 100000 in
/-- Plan.move(1, i, j) -/
theorem c_PL_move_1 (l : Launch) (D : va_G) (sz : Nat) (pl o1 a1 b1 o2 a2 b2 tu st x0 x1 en e0 e1 ex : Nat) (k1 k2 : Nat) (ba1 po1 ba2 po2 X0 X1 E0 E1 ext : Nat → Nat) (tz : Nat → Bool) (bl so s0 s1 to t0 t1 mt fx : Nat) (cA cZ c2 : ClassId) (cnt : Nat) (Z0 Z1 T0 T1 : Nat → Nat) (may fixd : Nat → Bool) (i0 j0 : Nat) (h1 : i0 < 16) (h2 : j0 < 16) (h3 : ba1 i0 < 16) (h4 : ba1 j0 < 16) (h5 : po2 (ba1 i0) < 16) (h6 : po2 (ba1 j0) < 16) (h7 : ba2 (po2 (ba1 i0)) < 16) (h8 : ba2 (po2 (ba1 j0)) < 16) : Met l y_PL_move (wsA y_PL_move b_PL_move 4 none) ({ frames := 1, cells := 0, slots := 0, locals := 24 } : Room) (zP D [(cA, .int), (cZ, .boolean), (c2, .array .int)] [(pl, .inr (6, [.ref bl, .ref o1, .ref o2, .ref tu, .ref st, .ref en, .ref ex])), (o1, .inr (4, [.ref a1, .ref b1, .int (nI k1)])), (a1, .inl (cA, 16, .inl (fun k => nI (ba1 k)))), (b1, .inl (cA, 16, .inl (fun k => nI (po1 k)))), (o2, .inr (4, [.ref a2, .ref b2, .int (nI k2)])), (a2, .inl (cA, 16, .inl (fun k => nI (ba2 k)))), (b2, .inl (cA, 16, .inl (fun k => nI (po2 k)))), (tu, .inl (cZ, 16, .inl (fun k => zb (tz k)))), (st, .inl (c2, 2, .inr (.inr (.inr (.inr (pr2 x0 x1)))))), (x0, .inl (cA, 16, .inl (fun k => nI (X0 k)))), (x1, .inl (cA, 16, .inl (fun k => nI (X1 k)))), (en, .inl (c2, 2, .inr (.inr (.inr (.inr (pr2 e0 e1)))))), (e0, .inl (cA, 16, .inl (fun k => nI (E0 k)))), (e1, .inl (cA, 16, .inl (fun k => nI (E1 k)))), (ex, .inl (cA, 2, .inl (fun k => nI (ext k)))), (bl, .inr (1, [.ref so, .ref to, .ref mt, .ref fx, .int (nI cnt)])), (so, .inl (c2, 2, .inr (.inr (.inr (.inr (pr2 s0 s1)))))), (s0, .inl (cA, 16, .inl (fun k => nI (Z0 k)))), (s1, .inl (cA, 16, .inl (fun k => nI (Z1 k)))), (to, .inl (c2, 2, .inr (.inr (.inr (.inr (pr2 t0 t1)))))), (t0, .inl (cA, 16, .inl (fun k => nI (T0 k)))), (t1, .inl (cA, 16, .inl (fun k => nI (T1 k)))), (mt, .inl (cZ, 16, .inl (fun k => zb (may k)))), (fx, .inl (cZ, 16, .inl (fun k => zb (fixd k))))] [.ref pl, .int (nI 1), .int (nI i0), .int (nI j0)] sz) (zQ none (zB D [(cA, .int), (cZ, .boolean), (c2, .array .int)] (va_A [(pl, .inr (6, [.ref bl, .ref o1, .ref o2, .ref tu, .ref st, .ref en, .ref ex])), (o1, .inr (4, [.ref a1, .ref b1, .int (nI k1)])), (a1, .inl (cA, 16, .inl (fun k => nI (ba1 k)))), (b1, .inl (cA, 16, .inl (fun k => nI (po1 k)))), (o2, .inr (4, [.ref a2, .ref b2, .int (nI k2)])), (a2, .inl (cA, 16, .inl (fun k => nI (ba2 k)))), (b2, .inl (cA, 16, .inl (fun k => nI (po2 k)))), (tu, .inl (cZ, 16, .inl (fun k => zb (tz k)))), (st, .inl (c2, 2, .inr (.inr (.inr (.inr (pr2 x0 x1)))))), (x0, .inl (cA, 16, .inl (fun k => nI (X0 k)))), (x1, .inl (cA, 16, .inl (fun k => nI (X1 k)))), (en, .inl (c2, 2, .inr (.inr (.inr (.inr (pr2 e0 e1)))))), (e0, .inl (cA, 16, .inl (fun k => nI (E0 k)))), (e1, .inl (cA, 16, .inl (fun k => nI (E1 k)))), (ex, .inl (cA, 2, .inl (fun k => nI (ext k)))), (bl, .inr (1, [.ref so, .ref to, .ref mt, .ref fx, .int (nI cnt)])), (so, .inl (c2, 2, .inr (.inr (.inr (.inr (pr2 s0 s1)))))), (s0, .inl (cA, 16, .inl (fun k => nI (Z0 k)))), (s1, .inl (cA, 16, .inl (fun k => nI (Z1 k)))), (to, .inl (c2, 2, .inr (.inr (.inr (.inr (pr2 t0 t1)))))), (t0, .inl (cA, 16, .inl (fun k => nI (T0 k)))), (t1, .inl (cA, 16, .inl (fun k => nI (T1 k)))), (mt, .inl (cZ, 16, .inl (fun k => zb (may k)))), (fx, .inl (cZ, 16, .inl (fun k => zb (fixd k))))] sz) [(pl, .inr (6, [.ref bl, .ref o1, .ref o2, .ref tu, .ref st, .ref en, .ref ex])), (o1, .inr (4, [.ref a1, .ref b1, .int (nI k1)])), (a1, .inl (cA, 16, .inl (fun k => nI ((va_up (va_up ba1 i0 (ba1 j0)) j0 (ba1 i0)) k)))), (b1, .inl (cA, 16, .inl (fun k => nI ((va_up (va_up po1 (ba1 j0) i0) (ba1 i0) j0) k)))), (o2, .inr (4, [.ref a2, .ref b2, .int (nI k2)])), (a2, .inl (cA, 16, .inl (fun k => nI ((va_up (va_up ba2 (po2 (ba1 i0)) (ba2 (po2 (ba1 j0)))) (po2 (ba1 j0)) (ba2 (po2 (ba1 i0)))) k)))), (b2, .inl (cA, 16, .inl (fun k => nI ((va_up (va_up po2 (ba2 (po2 (ba1 j0))) (po2 (ba1 i0))) (ba2 (po2 (ba1 i0))) (po2 (ba1 j0))) k)))), (tu, .inl (cZ, 16, .inl (fun k => zb (tz k)))), (st, .inl (c2, 2, .inr (.inr (.inr (.inr (pr2 x0 x1)))))), (x0, .inl (cA, 16, .inl (fun k => nI (X0 k)))), (x1, .inl (cA, 16, .inl (fun k => nI (X1 k)))), (en, .inl (c2, 2, .inr (.inr (.inr (.inr (pr2 e0 e1)))))), (e0, .inl (cA, 16, .inl (fun k => nI (E0 k)))), (e1, .inl (cA, 16, .inl (fun k => nI (E1 k)))), (ex, .inl (cA, 2, .inl (fun k => nI (ext k)))), (bl, .inr (1, [.ref so, .ref to, .ref mt, .ref fx, .int (nI cnt)])), (so, .inl (c2, 2, .inr (.inr (.inr (.inr (pr2 s0 s1)))))), (s0, .inl (cA, 16, .inl (fun k => nI (Z0 k)))), (s1, .inl (cA, 16, .inl (fun k => nI (Z1 k)))), (to, .inl (c2, 2, .inr (.inr (.inr (.inr (pr2 t0 t1)))))), (t0, .inl (cA, 16, .inl (fun k => nI (T0 k)))), (t1, .inl (cA, 16, .inl (fun k => nI (T1 k)))), (mt, .inl (cZ, 16, .inl (fun k => zb (may k)))), (fx, .inl (cZ, 16, .inl (fun k => zb (fixd k))))]) (va_A [(pl, .inr (6, [.ref bl, .ref o1, .ref o2, .ref tu, .ref st, .ref en, .ref ex])), (o1, .inr (4, [.ref a1, .ref b1, .int (nI k1)])), (a1, .inl (cA, 16, .inl (fun k => nI (ba1 k)))), (b1, .inl (cA, 16, .inl (fun k => nI (po1 k)))), (o2, .inr (4, [.ref a2, .ref b2, .int (nI k2)])), (a2, .inl (cA, 16, .inl (fun k => nI (ba2 k)))), (b2, .inl (cA, 16, .inl (fun k => nI (po2 k)))), (tu, .inl (cZ, 16, .inl (fun k => zb (tz k)))), (st, .inl (c2, 2, .inr (.inr (.inr (.inr (pr2 x0 x1)))))), (x0, .inl (cA, 16, .inl (fun k => nI (X0 k)))), (x1, .inl (cA, 16, .inl (fun k => nI (X1 k)))), (en, .inl (c2, 2, .inr (.inr (.inr (.inr (pr2 e0 e1)))))), (e0, .inl (cA, 16, .inl (fun k => nI (E0 k)))), (e1, .inl (cA, 16, .inl (fun k => nI (E1 k)))), (ex, .inl (cA, 2, .inl (fun k => nI (ext k)))), (bl, .inr (1, [.ref so, .ref to, .ref mt, .ref fx, .int (nI cnt)])), (so, .inl (c2, 2, .inr (.inr (.inr (.inr (pr2 s0 s1)))))), (s0, .inl (cA, 16, .inl (fun k => nI (Z0 k)))), (s1, .inl (cA, 16, .inl (fun k => nI (Z1 k)))), (to, .inl (c2, 2, .inr (.inr (.inr (.inr (pr2 t0 t1)))))), (t0, .inl (cA, 16, .inl (fun k => nI (T0 k)))), (t1, .inl (cA, 16, .inl (fun k => nI (T1 k)))), (mt, .inl (cZ, 16, .inl (fun k => zb (may k)))), (fx, .inl (cZ, 16, .inl (fun k => zb (fixd k))))] sz)) 0 0 (va_A [(pl, .inr (6, [.ref bl, .ref o1, .ref o2, .ref tu, .ref st, .ref en, .ref ex])), (o1, .inr (4, [.ref a1, .ref b1, .int (nI k1)])), (a1, .inl (cA, 16, .inl (fun k => nI (ba1 k)))), (b1, .inl (cA, 16, .inl (fun k => nI (po1 k)))), (o2, .inr (4, [.ref a2, .ref b2, .int (nI k2)])), (a2, .inl (cA, 16, .inl (fun k => nI (ba2 k)))), (b2, .inl (cA, 16, .inl (fun k => nI (po2 k)))), (tu, .inl (cZ, 16, .inl (fun k => zb (tz k)))), (st, .inl (c2, 2, .inr (.inr (.inr (.inr (pr2 x0 x1)))))), (x0, .inl (cA, 16, .inl (fun k => nI (X0 k)))), (x1, .inl (cA, 16, .inl (fun k => nI (X1 k)))), (en, .inl (c2, 2, .inr (.inr (.inr (.inr (pr2 e0 e1)))))), (e0, .inl (cA, 16, .inl (fun k => nI (E0 k)))), (e1, .inl (cA, 16, .inl (fun k => nI (E1 k)))), (ex, .inl (cA, 2, .inl (fun k => nI (ext k)))), (bl, .inr (1, [.ref so, .ref to, .ref mt, .ref fx, .int (nI cnt)])), (so, .inl (c2, 2, .inr (.inr (.inr (.inr (pr2 s0 s1)))))), (s0, .inl (cA, 16, .inl (fun k => nI (Z0 k)))), (s1, .inl (cA, 16, .inl (fun k => nI (Z1 k)))), (to, .inl (c2, 2, .inr (.inr (.inr (.inr (pr2 t0 t1)))))), (t0, .inl (cA, 16, .inl (fun k => nI (T0 k)))), (t1, .inl (cA, 16, .inl (fun k => nI (T1 k)))), (mt, .inl (cZ, 16, .inl (fun k => zb (may k)))), (fx, .inl (cZ, 16, .inl (fun k => zb (fixd k))))] sz) := by
  refine Met.ofW (cc := b_PL_move) (maxL := 4) (ret := none) (by decide) rfl ?_
  intro p e s m args below meth c s₁ B hml hv
  obtain ⟨rfl, hsz, hP, hK, hD0⟩ := hv
  have hx := B.exec
  have hb := B.bytes
  have hr := B.returns
  have hts : ∀ w ∈ lw_g, w.before _ s = true := fun w h => atoms_spec (ws := wsA y_PL_move b_PL_move 4 none) B.pre w (List.mem_cons_of_mem _ h)
  have hown : s.vm.findClass R_PL = some m.cls := findClass_of_methodNamed B.named
  have hlocks := B.notSynchronized
  obtain ⟨hD, hA, hS⟩ := z_start hsz hD0
  generalize va_A [(pl, .inr (6, [.ref bl, .ref o1, .ref o2, .ref tu, .ref st, .ref en, .ref ex])), (o1, .inr (4, [.ref a1, .ref b1, .int (nI k1)])), (a1, .inl (cA, 16, .inl (fun k => nI (ba1 k)))), (b1, .inl (cA, 16, .inl (fun k => nI (po1 k)))), (o2, .inr (4, [.ref a2, .ref b2, .int (nI k2)])), (a2, .inl (cA, 16, .inl (fun k => nI (ba2 k)))), (b2, .inl (cA, 16, .inl (fun k => nI (po2 k)))), (tu, .inl (cZ, 16, .inl (fun k => zb (tz k)))), (st, .inl (c2, 2, .inr (.inr (.inr (.inr (pr2 x0 x1)))))), (x0, .inl (cA, 16, .inl (fun k => nI (X0 k)))), (x1, .inl (cA, 16, .inl (fun k => nI (X1 k)))), (en, .inl (c2, 2, .inr (.inr (.inr (.inr (pr2 e0 e1)))))), (e0, .inl (cA, 16, .inl (fun k => nI (E0 k)))), (e1, .inl (cA, 16, .inl (fun k => nI (E1 k)))), (ex, .inl (cA, 2, .inl (fun k => nI (ext k)))), (bl, .inr (1, [.ref so, .ref to, .ref mt, .ref fx, .int (nI cnt)])), (so, .inl (c2, 2, .inr (.inr (.inr (.inr (pr2 s0 s1)))))), (s0, .inl (cA, 16, .inl (fun k => nI (Z0 k)))), (s1, .inl (cA, 16, .inl (fun k => nI (Z1 k)))), (to, .inl (c2, 2, .inr (.inr (.inr (.inr (pr2 t0 t1)))))), (t0, .inl (cA, 16, .inl (fun k => nI (T0 k)))), (t1, .inl (cA, 16, .inl (fun k => nI (T1 k)))), (mt, .inl (cZ, 16, .inl (fun k => zb (may k)))), (fx, .inl (cZ, 16, .inl (fun k => zb (fixd k))))] sz = A at hD hA hS ⊢
  have hl := lv_entry ([.ref pl, .int (nI 1), .int (nI i0), .int (nI j0)]) (n := 4) (Nat.le_of_ble_eq_true rfl)
  rw [lg_entry_eq]
  generalize (lg_sl ([.ref pl, .int (nI 1), .int (nI i0), .int (nI j0)]) ++ List.replicate (4 - (lg_sl ([.ref pl, .int (nI 1), .int (nI i0), .int (nI j0)])).length) Slot.unset).toArray = ls at hl ⊢
  have hl : lv_has ls 4 [(0, .ref pl), (1, .int (nI 1)), (2, .int (nI i0)), (3, .int (nI j0))] := hl
  have hP : va_P D classes [(pl, .inr (6, [.ref bl, .ref o1, .ref o2, .ref tu, .ref st, .ref en, .ref ex])), (o1, .inr (4, [.ref a1, .ref b1, .int (nI k1)])), (a1, .inl (cA, 16, .inl (fun k => nI (ba1 k)))), (b1, .inl (cA, 16, .inl (fun k => nI (po1 k)))), (o2, .inr (4, [.ref a2, .ref b2, .int (nI k2)])), (a2, .inl (cA, 16, .inl (fun k => nI (ba2 k)))), (b2, .inl (cA, 16, .inl (fun k => nI (po2 k)))), (tu, .inl (cZ, 16, .inl (fun k => zb (tz k)))), (st, .inl (c2, 2, .inr (.inr (.inr (.inr (pr2 x0 x1)))))), (x0, .inl (cA, 16, .inl (fun k => nI (X0 k)))), (x1, .inl (cA, 16, .inl (fun k => nI (X1 k)))), (en, .inl (c2, 2, .inr (.inr (.inr (.inr (pr2 e0 e1)))))), (e0, .inl (cA, 16, .inl (fun k => nI (E0 k)))), (e1, .inl (cA, 16, .inl (fun k => nI (E1 k)))), (ex, .inl (cA, 2, .inl (fun k => nI (ext k)))), (bl, .inr (1, [.ref so, .ref to, .ref mt, .ref fx, .int (nI cnt)])), (so, .inl (c2, 2, .inr (.inr (.inr (.inr (pr2 s0 s1)))))), (s0, .inl (cA, 16, .inl (fun k => nI (Z0 k)))), (s1, .inl (cA, 16, .inl (fun k => nI (Z1 k)))), (to, .inl (c2, 2, .inr (.inr (.inr (.inr (pr2 t0 t1)))))), (t0, .inl (cA, 16, .inl (fun k => nI (T0 k)))), (t1, .inl (cA, 16, .inl (fun k => nI (T1 k)))), (mt, .inl (cZ, 16, .inl (fun k => zb (may k)))), (fx, .inl (cZ, 16, .inl (fun k => zb (fixd k))))] s.heap := hP
  refine lv_iload_n hx hb d_PL_move_0 rfl (lv_at hl 1 rfl) ?_
  refine lv_if_ne (tgt := 16) hx hb d_PL_move_1 (by decide) (fun _ => ?_) (fun h => absurd h (by decide))
  refine lv_iload_n hx hb d_PL_move_16 rfl (lv_at hl 1 rfl) ?_
  refine lv_iconst (v := nI 1) hx hb d_PL_move_17 (by decide) ?_
  refine z_cne (tgt := 74) hx hb d_PL_move_18 (by decide) (by omega) (by omega) (fun h => absurd h (by omega)) (fun _ => ?_)
  refine lv_aload_n hx hb d_PL_move_21 rfl (lv_at hl 0 rfl) ?_
  refine va_get (D := D) (ci := 6) (v := .ref o2) (C := R_PL) (T := F_PL) (N := 7) hx hb hts i_PL hown hK hP 0 rfl rfl 2 (by decide) (hts _ kf_PL_22) (fun _ h9 => h9) rfl d_PL_move_22 ?_
  refine lv_aload_n hx hb d_PL_move_25 rfl (lv_at hl 0 rfl) ?_
  refine va_get (D := D) (ci := 6) (v := .ref o2) (C := R_PL) (T := F_PL) (N := 7) hx hb hts i_PL hown hK hP 0 rfl rfl 2 (by decide) (hts _ kf_PL_22) (fun _ h9 => h9) rfl d_PL_move_26 ?_
  refine va_get (D := D) (ci := 4) (v := .ref b2) (C := R_OR) (T := F_OR) (N := 3) hx hb hts i_OR hown hK hP 4 rfl rfl 1 (by decide) (hts _ kf_PL_63) (fun _ h9 => h9) rfl d_PL_move_29 ?_
  refine lv_aload_n hx hb d_PL_move_32 rfl (lv_at hl 0 rfl) ?_
  refine va_get (D := D) (ci := 6) (v := .ref o1) (C := R_PL) (T := F_PL) (N := 7) hx hb hts i_PL hown hK hP 0 rfl rfl 1 (by decide) (hts _ kf_PL_18) (fun _ h9 => h9) rfl d_PL_move_33 ?_
  refine va_get (D := D) (ci := 4) (v := .ref a1) (C := R_OR) (T := F_OR) (N := 3) hx hb hts i_OR hown hK hP 1 rfl rfl 0 (by decide) (hts _ kf_PL_66) (fun _ h9 => h9) rfl d_PL_move_36 ?_
  refine lv_iload_n hx hb d_PL_move_39 rfl (lv_at hl 2 rfl) ?_
  refine z_ild (j := i0) hx hb hK hP 2 0 rfl rfl (by omega) (by decide) d_PL_move_40 ?_
  refine z_ild (j := (ba1 i0)) hx hb hK hP 6 0 rfl rfl (by omega) (by decide) d_PL_move_41 ?_
  refine lv_aload_n hx hb d_PL_move_42 rfl (lv_at hl 0 rfl) ?_
  refine va_get (D := D) (ci := 6) (v := .ref o2) (C := R_PL) (T := F_PL) (N := 7) hx hb hts i_PL hown hK hP 0 rfl rfl 2 (by decide) (hts _ kf_PL_22) (fun _ h9 => h9) rfl d_PL_move_43 ?_
  refine va_get (D := D) (ci := 4) (v := .ref b2) (C := R_OR) (T := F_OR) (N := 3) hx hb hts i_OR hown hK hP 4 rfl rfl 1 (by decide) (hts _ kf_PL_63) (fun _ h9 => h9) rfl d_PL_move_46 ?_
  refine lv_aload_n hx hb d_PL_move_49 rfl (lv_at hl 0 rfl) ?_
  refine va_get (D := D) (ci := 6) (v := .ref o1) (C := R_PL) (T := F_PL) (N := 7) hx hb hts i_PL hown hK hP 0 rfl rfl 1 (by decide) (hts _ kf_PL_18) (fun _ h9 => h9) rfl d_PL_move_50 ?_
  refine va_get (D := D) (ci := 4) (v := .ref a1) (C := R_OR) (T := F_OR) (N := 3) hx hb hts i_OR hown hK hP 1 rfl rfl 0 (by decide) (hts _ kf_PL_66) (fun _ h9 => h9) rfl d_PL_move_53 ?_
  refine lv_iload_n hx hb d_PL_move_56 rfl (lv_at hl 3 rfl) ?_
  refine z_ild (j := j0) hx hb hK hP 2 0 rfl rfl (by omega) (by decide) d_PL_move_57 ?_
  refine z_ild (j := (ba1 j0)) hx hb hK hP 6 0 rfl rfl (by omega) (by decide) d_PL_move_58 ?_
  refine zw_V (ci := 4) (q0 := 0) (As := [.int (nI (po2 (ba1 i0))), .int (nI (po2 (ba1 j0)))]) (rest := []) (n := 2) (wsC' := [(o2, .inr (4, [.ref a2, .ref b2, .int (nI k2)])), (a2, .inl (cA, 16, .inl (fun k => nI ((va_up (va_up ba2 (po2 (ba1 i0)) (ba2 (po2 (ba1 j0)))) (po2 (ba1 j0)) (ba2 (po2 (ba1 i0)))) k)))), (b2, .inl (cA, 16, .inl (fun k => nI ((va_up (va_up po2 (ba2 (po2 (ba1 j0))) (po2 (ba1 i0))) (ba2 (po2 (ba1 i0))) (po2 (ba1 j0))) k))))]) (wr := [(pl, .inr (6, [.ref bl, .ref o1, .ref o2, .ref tu, .ref st, .ref en, .ref ex])), (o1, .inr (4, [.ref a1, .ref b1, .int (nI k1)])), (a1, .inl (cA, 16, .inl (fun k => nI (ba1 k)))), (b1, .inl (cA, 16, .inl (fun k => nI (po1 k)))), (tu, .inl (cZ, 16, .inl (fun k => zb (tz k)))), (st, .inl (c2, 2, .inr (.inr (.inr (.inr (pr2 x0 x1)))))), (x0, .inl (cA, 16, .inl (fun k => nI (X0 k)))), (x1, .inl (cA, 16, .inl (fun k => nI (X1 k)))), (en, .inl (c2, 2, .inr (.inr (.inr (.inr (pr2 e0 e1)))))), (e0, .inl (cA, 16, .inl (fun k => nI (E0 k)))), (e1, .inl (cA, 16, .inl (fun k => nI (E1 k)))), (ex, .inl (cA, 2, .inl (fun k => nI (ext k)))), (bl, .inr (1, [.ref so, .ref to, .ref mt, .ref fx, .int (nI cnt)])), (so, .inl (c2, 2, .inr (.inr (.inr (.inr (pr2 s0 s1)))))), (s0, .inl (cA, 16, .inl (fun k => nI (Z0 k)))), (s1, .inl (cA, 16, .inl (fun k => nI (Z1 k)))), (to, .inl (c2, 2, .inr (.inr (.inr (.inr (pr2 t0 t1)))))), (t0, .inl (cA, 16, .inl (fun k => nI (T0 k)))), (t1, .inl (cA, 16, .inl (fun k => nI (T1 k)))), (mt, .inl (cZ, 16, .inl (fun k => zb (may k)))), (fx, .inl (cZ, 16, .inl (fun k => zb (fixd k))))]) (ws' := [(pl, .inr (6, [.ref bl, .ref o1, .ref o2, .ref tu, .ref st, .ref en, .ref ex])), (o1, .inr (4, [.ref a1, .ref b1, .int (nI k1)])), (a1, .inl (cA, 16, .inl (fun k => nI (ba1 k)))), (b1, .inl (cA, 16, .inl (fun k => nI (po1 k)))), (o2, .inr (4, [.ref a2, .ref b2, .int (nI k2)])), (a2, .inl (cA, 16, .inl (fun k => nI ((va_up (va_up ba2 (po2 (ba1 i0)) (ba2 (po2 (ba1 j0)))) (po2 (ba1 j0)) (ba2 (po2 (ba1 i0)))) k)))), (b2, .inl (cA, 16, .inl (fun k => nI ((va_up (va_up po2 (ba2 (po2 (ba1 j0))) (po2 (ba1 i0))) (ba2 (po2 (ba1 i0))) (po2 (ba1 j0))) k)))), (tu, .inl (cZ, 16, .inl (fun k => zb (tz k)))), (st, .inl (c2, 2, .inr (.inr (.inr (.inr (pr2 x0 x1)))))), (x0, .inl (cA, 16, .inl (fun k => nI (X0 k)))), (x1, .inl (cA, 16, .inl (fun k => nI (X1 k)))), (en, .inl (c2, 2, .inr (.inr (.inr (.inr (pr2 e0 e1)))))), (e0, .inl (cA, 16, .inl (fun k => nI (E0 k)))), (e1, .inl (cA, 16, .inl (fun k => nI (E1 k)))), (ex, .inl (cA, 2, .inl (fun k => nI (ext k)))), (bl, .inr (1, [.ref so, .ref to, .ref mt, .ref fx, .int (nI cnt)])), (so, .inl (c2, 2, .inr (.inr (.inr (.inr (pr2 s0 s1)))))), (s0, .inl (cA, 16, .inl (fun k => nI (Z0 k)))), (s1, .inl (cA, 16, .inl (fun k => nI (Z1 k)))), (to, .inl (c2, 2, .inr (.inr (.inr (.inr (pr2 t0 t1)))))), (t0, .inl (cA, 16, .inl (fun k => nI (T0 k)))), (t1, .inl (cA, 16, .inl (fun k => nI (T1 k)))), (mt, .inl (cZ, 16, .inl (fun k => zb (may k)))), (fx, .inl (cZ, 16, .inl (fun k => zb (fixd k))))]) ⟨hx, hb, hml, hown, hts⟩ (c_OR_exchange l D _ o2 a2 b2 cA ba2 po2 k2 (po2 (ba1 i0)) (po2 (ba1 j0)) h5 h6 h7 h8) ⟨km_PL_59, ki_OR_exchange, ks_OR_exchange, kn_OR, kd_OR_exchange⟩ (by decide +kernel) (by decide) ⟨Nat.zero_le _, Nat.zero_le _⟩ hK hP hD hS hA [4, 5, 6] [0, 1, 2, 3, 7, 8, 9, 10, 11, 12, 13, 14, 15, 16, 17, 18, 19, 20, 21, 22, 23] [0, 1, 2, 3, 21, 22, 23, 4, 5, 6, 7, 8, 9, 10, 11, 12, 13, 14, 15, 16, 17, 18, 19, 20] [0] rfl rfl (by decide) rfl (by decide) (by decide) rfl rfl (by decide) rfl rfl rfl rfl hl.1 rfl (Nat.le_of_ble_eq_true rfl) d_PL_move_59 (fun H locs hP hD hS => ?_)
  have hP : va_P D classes [(pl, .inr (6, [.ref bl, .ref o1, .ref o2, .ref tu, .ref st, .ref en, .ref ex])), (o1, .inr (4, [.ref a1, .ref b1, .int (nI k1)])), (a1, .inl (cA, 16, .inl (fun k => nI (ba1 k)))), (b1, .inl (cA, 16, .inl (fun k => nI (po1 k)))), (o2, .inr (4, [.ref a2, .ref b2, .int (nI k2)])), (a2, .inl (cA, 16, .inl (fun k => nI ((va_up (va_up ba2 (po2 (ba1 i0)) (ba2 (po2 (ba1 j0)))) (po2 (ba1 j0)) (ba2 (po2 (ba1 i0)))) k)))), (b2, .inl (cA, 16, .inl (fun k => nI ((va_up (va_up po2 (ba2 (po2 (ba1 j0))) (po2 (ba1 i0))) (ba2 (po2 (ba1 i0))) (po2 (ba1 j0))) k)))), (tu, .inl (cZ, 16, .inl (fun k => zb (tz k)))), (st, .inl (c2, 2, .inr (.inr (.inr (.inr (pr2 x0 x1)))))), (x0, .inl (cA, 16, .inl (fun k => nI (X0 k)))), (x1, .inl (cA, 16, .inl (fun k => nI (X1 k)))), (en, .inl (c2, 2, .inr (.inr (.inr (.inr (pr2 e0 e1)))))), (e0, .inl (cA, 16, .inl (fun k => nI (E0 k)))), (e1, .inl (cA, 16, .inl (fun k => nI (E1 k)))), (ex, .inl (cA, 2, .inl (fun k => nI (ext k)))), (bl, .inr (1, [.ref so, .ref to, .ref mt, .ref fx, .int (nI cnt)])), (so, .inl (c2, 2, .inr (.inr (.inr (.inr (pr2 s0 s1)))))), (s0, .inl (cA, 16, .inl (fun k => nI (Z0 k)))), (s1, .inl (cA, 16, .inl (fun k => nI (Z1 k)))), (to, .inl (c2, 2, .inr (.inr (.inr (.inr (pr2 t0 t1)))))), (t0, .inl (cA, 16, .inl (fun k => nI (T0 k)))), (t1, .inl (cA, 16, .inl (fun k => nI (T1 k)))), (mt, .inl (cZ, 16, .inl (fun k => zb (may k)))), (fx, .inl (cZ, 16, .inl (fun k => zb (fixd k))))] H := hP
  have hD : va_D A [(pl, .inr (6, [.ref bl, .ref o1, .ref o2, .ref tu, .ref st, .ref en, .ref ex])), (o1, .inr (4, [.ref a1, .ref b1, .int (nI k1)])), (a1, .inl (cA, 16, .inl (fun k => nI (ba1 k)))), (b1, .inl (cA, 16, .inl (fun k => nI (po1 k)))), (o2, .inr (4, [.ref a2, .ref b2, .int (nI k2)])), (a2, .inl (cA, 16, .inl (fun k => nI ((va_up (va_up ba2 (po2 (ba1 i0)) (ba2 (po2 (ba1 j0)))) (po2 (ba1 j0)) (ba2 (po2 (ba1 i0)))) k)))), (b2, .inl (cA, 16, .inl (fun k => nI ((va_up (va_up po2 (ba2 (po2 (ba1 j0))) (po2 (ba1 i0))) (ba2 (po2 (ba1 i0))) (po2 (ba1 j0))) k)))), (tu, .inl (cZ, 16, .inl (fun k => zb (tz k)))), (st, .inl (c2, 2, .inr (.inr (.inr (.inr (pr2 x0 x1)))))), (x0, .inl (cA, 16, .inl (fun k => nI (X0 k)))), (x1, .inl (cA, 16, .inl (fun k => nI (X1 k)))), (en, .inl (c2, 2, .inr (.inr (.inr (.inr (pr2 e0 e1)))))), (e0, .inl (cA, 16, .inl (fun k => nI (E0 k)))), (e1, .inl (cA, 16, .inl (fun k => nI (E1 k)))), (ex, .inl (cA, 2, .inl (fun k => nI (ext k)))), (bl, .inr (1, [.ref so, .ref to, .ref mt, .ref fx, .int (nI cnt)])), (so, .inl (c2, 2, .inr (.inr (.inr (.inr (pr2 s0 s1)))))), (s0, .inl (cA, 16, .inl (fun k => nI (Z0 k)))), (s1, .inl (cA, 16, .inl (fun k => nI (Z1 k)))), (to, .inl (c2, 2, .inr (.inr (.inr (.inr (pr2 t0 t1)))))), (t0, .inl (cA, 16, .inl (fun k => nI (T0 k)))), (t1, .inl (cA, 16, .inl (fun k => nI (T1 k)))), (mt, .inl (cZ, 16, .inl (fun k => zb (may k)))), (fx, .inl (cZ, 16, .inl (fun k => zb (fixd k))))] := hD
  refine lv_aload_n hx hb d_PL_move_62 rfl (lv_at hl 0 rfl) ?_
  refine va_get (D := D) (ci := 6) (v := .ref o1) (C := R_PL) (T := F_PL) (N := 7) hx hb hts i_PL hown hK hP 0 rfl rfl 1 (by decide) (hts _ kf_PL_18) (fun _ h9 => h9) rfl d_PL_move_63 ?_
  refine lv_iload_n hx hb d_PL_move_66 rfl (lv_at hl 2 rfl) ?_
  refine lv_iload_n hx hb d_PL_move_67 rfl (lv_at hl 3 rfl) ?_
  refine zw_V (ci := 4) (q0 := 0) (As := [.int (nI i0), .int (nI j0)]) (rest := []) (n := 2) (wsC' := [(o1, .inr (4, [.ref a1, .ref b1, .int (nI k1)])), (a1, .inl (cA, 16, .inl (fun k => nI ((va_up (va_up ba1 i0 (ba1 j0)) j0 (ba1 i0)) k)))), (b1, .inl (cA, 16, .inl (fun k => nI ((va_up (va_up po1 (ba1 j0) i0) (ba1 i0) j0) k))))]) (wr := [(pl, .inr (6, [.ref bl, .ref o1, .ref o2, .ref tu, .ref st, .ref en, .ref ex])), (o2, .inr (4, [.ref a2, .ref b2, .int (nI k2)])), (a2, .inl (cA, 16, .inl (fun k => nI ((va_up (va_up ba2 (po2 (ba1 i0)) (ba2 (po2 (ba1 j0)))) (po2 (ba1 j0)) (ba2 (po2 (ba1 i0)))) k)))), (b2, .inl (cA, 16, .inl (fun k => nI ((va_up (va_up po2 (ba2 (po2 (ba1 j0))) (po2 (ba1 i0))) (ba2 (po2 (ba1 i0))) (po2 (ba1 j0))) k)))), (tu, .inl (cZ, 16, .inl (fun k => zb (tz k)))), (st, .inl (c2, 2, .inr (.inr (.inr (.inr (pr2 x0 x1)))))), (x0, .inl (cA, 16, .inl (fun k => nI (X0 k)))), (x1, .inl (cA, 16, .inl (fun k => nI (X1 k)))), (en, .inl (c2, 2, .inr (.inr (.inr (.inr (pr2 e0 e1)))))), (e0, .inl (cA, 16, .inl (fun k => nI (E0 k)))), (e1, .inl (cA, 16, .inl (fun k => nI (E1 k)))), (ex, .inl (cA, 2, .inl (fun k => nI (ext k)))), (bl, .inr (1, [.ref so, .ref to, .ref mt, .ref fx, .int (nI cnt)])), (so, .inl (c2, 2, .inr (.inr (.inr (.inr (pr2 s0 s1)))))), (s0, .inl (cA, 16, .inl (fun k => nI (Z0 k)))), (s1, .inl (cA, 16, .inl (fun k => nI (Z1 k)))), (to, .inl (c2, 2, .inr (.inr (.inr (.inr (pr2 t0 t1)))))), (t0, .inl (cA, 16, .inl (fun k => nI (T0 k)))), (t1, .inl (cA, 16, .inl (fun k => nI (T1 k)))), (mt, .inl (cZ, 16, .inl (fun k => zb (may k)))), (fx, .inl (cZ, 16, .inl (fun k => zb (fixd k))))]) (ws' := [(pl, .inr (6, [.ref bl, .ref o1, .ref o2, .ref tu, .ref st, .ref en, .ref ex])), (o1, .inr (4, [.ref a1, .ref b1, .int (nI k1)])), (a1, .inl (cA, 16, .inl (fun k => nI ((va_up (va_up ba1 i0 (ba1 j0)) j0 (ba1 i0)) k)))), (b1, .inl (cA, 16, .inl (fun k => nI ((va_up (va_up po1 (ba1 j0) i0) (ba1 i0) j0) k)))), (o2, .inr (4, [.ref a2, .ref b2, .int (nI k2)])), (a2, .inl (cA, 16, .inl (fun k => nI ((va_up (va_up ba2 (po2 (ba1 i0)) (ba2 (po2 (ba1 j0)))) (po2 (ba1 j0)) (ba2 (po2 (ba1 i0)))) k)))), (b2, .inl (cA, 16, .inl (fun k => nI ((va_up (va_up po2 (ba2 (po2 (ba1 j0))) (po2 (ba1 i0))) (ba2 (po2 (ba1 i0))) (po2 (ba1 j0))) k)))), (tu, .inl (cZ, 16, .inl (fun k => zb (tz k)))), (st, .inl (c2, 2, .inr (.inr (.inr (.inr (pr2 x0 x1)))))), (x0, .inl (cA, 16, .inl (fun k => nI (X0 k)))), (x1, .inl (cA, 16, .inl (fun k => nI (X1 k)))), (en, .inl (c2, 2, .inr (.inr (.inr (.inr (pr2 e0 e1)))))), (e0, .inl (cA, 16, .inl (fun k => nI (E0 k)))), (e1, .inl (cA, 16, .inl (fun k => nI (E1 k)))), (ex, .inl (cA, 2, .inl (fun k => nI (ext k)))), (bl, .inr (1, [.ref so, .ref to, .ref mt, .ref fx, .int (nI cnt)])), (so, .inl (c2, 2, .inr (.inr (.inr (.inr (pr2 s0 s1)))))), (s0, .inl (cA, 16, .inl (fun k => nI (Z0 k)))), (s1, .inl (cA, 16, .inl (fun k => nI (Z1 k)))), (to, .inl (c2, 2, .inr (.inr (.inr (.inr (pr2 t0 t1)))))), (t0, .inl (cA, 16, .inl (fun k => nI (T0 k)))), (t1, .inl (cA, 16, .inl (fun k => nI (T1 k)))), (mt, .inl (cZ, 16, .inl (fun k => zb (may k)))), (fx, .inl (cZ, 16, .inl (fun k => zb (fixd k))))]) ⟨hx, hb, hml, hown, hts⟩ (c_OR_exchange l D _ o1 a1 b1 cA ba1 po1 k1 i0 j0 h1 h2 h3 h4) ⟨km_PL_59, ki_OR_exchange, ks_OR_exchange, kn_OR, kd_OR_exchange⟩ (by decide +kernel) (by decide) ⟨Nat.zero_le _, Nat.zero_le _⟩ hK hP hD hS hA [1, 2, 3] [0, 4, 5, 6, 7, 8, 9, 10, 11, 12, 13, 14, 15, 16, 17, 18, 19, 20, 21, 22, 23] [0, 21, 22, 23, 1, 2, 3, 4, 5, 6, 7, 8, 9, 10, 11, 12, 13, 14, 15, 16, 17, 18, 19, 20] [0] rfl rfl (by decide) rfl (by decide) (by decide) rfl rfl (by decide) rfl rfl rfl rfl hl.1 rfl (Nat.le_of_ble_eq_true rfl) d_PL_move_68 (fun H locs hP hD hS => ?_)
  have hP : va_P D classes [(pl, .inr (6, [.ref bl, .ref o1, .ref o2, .ref tu, .ref st, .ref en, .ref ex])), (o1, .inr (4, [.ref a1, .ref b1, .int (nI k1)])), (a1, .inl (cA, 16, .inl (fun k => nI ((va_up (va_up ba1 i0 (ba1 j0)) j0 (ba1 i0)) k)))), (b1, .inl (cA, 16, .inl (fun k => nI ((va_up (va_up po1 (ba1 j0) i0) (ba1 i0) j0) k)))), (o2, .inr (4, [.ref a2, .ref b2, .int (nI k2)])), (a2, .inl (cA, 16, .inl (fun k => nI ((va_up (va_up ba2 (po2 (ba1 i0)) (ba2 (po2 (ba1 j0)))) (po2 (ba1 j0)) (ba2 (po2 (ba1 i0)))) k)))), (b2, .inl (cA, 16, .inl (fun k => nI ((va_up (va_up po2 (ba2 (po2 (ba1 j0))) (po2 (ba1 i0))) (ba2 (po2 (ba1 i0))) (po2 (ba1 j0))) k)))), (tu, .inl (cZ, 16, .inl (fun k => zb (tz k)))), (st, .inl (c2, 2, .inr (.inr (.inr (.inr (pr2 x0 x1)))))), (x0, .inl (cA, 16, .inl (fun k => nI (X0 k)))), (x1, .inl (cA, 16, .inl (fun k => nI (X1 k)))), (en, .inl (c2, 2, .inr (.inr (.inr (.inr (pr2 e0 e1)))))), (e0, .inl (cA, 16, .inl (fun k => nI (E0 k)))), (e1, .inl (cA, 16, .inl (fun k => nI (E1 k)))), (ex, .inl (cA, 2, .inl (fun k => nI (ext k)))), (bl, .inr (1, [.ref so, .ref to, .ref mt, .ref fx, .int (nI cnt)])), (so, .inl (c2, 2, .inr (.inr (.inr (.inr (pr2 s0 s1)))))), (s0, .inl (cA, 16, .inl (fun k => nI (Z0 k)))), (s1, .inl (cA, 16, .inl (fun k => nI (Z1 k)))), (to, .inl (c2, 2, .inr (.inr (.inr (.inr (pr2 t0 t1)))))), (t0, .inl (cA, 16, .inl (fun k => nI (T0 k)))), (t1, .inl (cA, 16, .inl (fun k => nI (T1 k)))), (mt, .inl (cZ, 16, .inl (fun k => zb (may k)))), (fx, .inl (cZ, 16, .inl (fun k => zb (fixd k))))] H := hP
  have hD : va_D A [(pl, .inr (6, [.ref bl, .ref o1, .ref o2, .ref tu, .ref st, .ref en, .ref ex])), (o1, .inr (4, [.ref a1, .ref b1, .int (nI k1)])), (a1, .inl (cA, 16, .inl (fun k => nI ((va_up (va_up ba1 i0 (ba1 j0)) j0 (ba1 i0)) k)))), (b1, .inl (cA, 16, .inl (fun k => nI ((va_up (va_up po1 (ba1 j0) i0) (ba1 i0) j0) k)))), (o2, .inr (4, [.ref a2, .ref b2, .int (nI k2)])), (a2, .inl (cA, 16, .inl (fun k => nI ((va_up (va_up ba2 (po2 (ba1 i0)) (ba2 (po2 (ba1 j0)))) (po2 (ba1 j0)) (ba2 (po2 (ba1 i0)))) k)))), (b2, .inl (cA, 16, .inl (fun k => nI ((va_up (va_up po2 (ba2 (po2 (ba1 j0))) (po2 (ba1 i0))) (ba2 (po2 (ba1 i0))) (po2 (ba1 j0))) k)))), (tu, .inl (cZ, 16, .inl (fun k => zb (tz k)))), (st, .inl (c2, 2, .inr (.inr (.inr (.inr (pr2 x0 x1)))))), (x0, .inl (cA, 16, .inl (fun k => nI (X0 k)))), (x1, .inl (cA, 16, .inl (fun k => nI (X1 k)))), (en, .inl (c2, 2, .inr (.inr (.inr (.inr (pr2 e0 e1)))))), (e0, .inl (cA, 16, .inl (fun k => nI (E0 k)))), (e1, .inl (cA, 16, .inl (fun k => nI (E1 k)))), (ex, .inl (cA, 2, .inl (fun k => nI (ext k)))), (bl, .inr (1, [.ref so, .ref to, .ref mt, .ref fx, .int (nI cnt)])), (so, .inl (c2, 2, .inr (.inr (.inr (.inr (pr2 s0 s1)))))), (s0, .inl (cA, 16, .inl (fun k => nI (Z0 k)))), (s1, .inl (cA, 16, .inl (fun k => nI (Z1 k)))), (to, .inl (c2, 2, .inr (.inr (.inr (.inr (pr2 t0 t1)))))), (t0, .inl (cA, 16, .inl (fun k => nI (T0 k)))), (t1, .inl (cA, 16, .inl (fun k => nI (T1 k)))), (mt, .inl (cZ, 16, .inl (fun k => zb (may k)))), (fx, .inl (cZ, 16, .inl (fun k => zb (fixd k))))] := hD
  refine lv_goto (tgt := 87) hx hb d_PL_move_71 (by decide) ?_
  exact W.vret hx hb hr (fun t ht hW => ⟨rfl, ⟨by rw [ht]; exact hP, va_K.moved hW.alike hK, hD⟩, hS.F ht⟩) hS.2.2 d_PL_move_87
set_option maxHeartbeats 4000000 in
set_option maxRecDepth 100000 in
/-- Plan.move(2, i, j) -/
theorem c_PL_move_2 (l : Launch) (D : va_G) (sz : Nat) (pl o1 a1 b1 o2 a2 b2 tu st x0 x1 en e0 e1 ex : Nat) (k1 k2 : Nat) (ba1 po1 ba2 po2 X0 X1 E0 E1 ext : Nat → Nat) (tz : Nat → Bool) (bl so s0 s1 to t0 t1 mt fx : Nat) (cA cZ c2 : ClassId) (cnt : Nat) (Z0 Z1 T0 T1 : Nat → Nat) (may fixd : Nat → Bool) (i0 j0 : Nat) (h1 : i0 < 16) (h3 : ba1 i0 < 16) : Met l y_PL_move (wsA y_PL_move b_PL_move 4 none) ({ frames := 1, cells := 0, slots := 0, locals := 24 } : Room) (zP D [(cA, .int), (cZ, .boolean), (c2, .array .int)] [(pl, .inr (6, [.ref bl, .ref o1, .ref o2, .ref tu, .ref st, .ref en, .ref ex])), (o1, .inr (4, [.ref a1, .ref b1, .int (nI k1)])), (a1, .inl (cA, 16, .inl (fun k => nI (ba1 k)))), (b1, .inl (cA, 16, .inl (fun k => nI (po1 k)))), (o2, .inr (4, [.ref a2, .ref b2, .int (nI k2)])), (a2, .inl (cA, 16, .inl (fun k => nI (ba2 k)))), (b2, .inl (cA, 16, .inl (fun k => nI (po2 k)))), (tu, .inl (cZ, 16, .inl (fun k => zb (tz k)))), (st, .inl (c2, 2, .inr (.inr (.inr (.inr (pr2 x0 x1)))))), (x0, .inl (cA, 16, .inl (fun k => nI (X0 k)))), (x1, .inl (cA, 16, .inl (fun k => nI (X1 k)))), (en, .inl (c2, 2, .inr (.inr (.inr (.inr (pr2 e0 e1)))))), (e0, .inl (cA, 16, .inl (fun k => nI (E0 k)))), (e1, .inl (cA, 16, .inl (fun k => nI (E1 k)))), (ex, .inl (cA, 2, .inl (fun k => nI (ext k)))), (bl, .inr (1, [.ref so, .ref to, .ref mt, .ref fx, .int (nI cnt)])), (so, .inl (c2, 2, .inr (.inr (.inr (.inr (pr2 s0 s1)))))), (s0, .inl (cA, 16, .inl (fun k => nI (Z0 k)))), (s1, .inl (cA, 16, .inl (fun k => nI (Z1 k)))), (to, .inl (c2, 2, .inr (.inr (.inr (.inr (pr2 t0 t1)))))), (t0, .inl (cA, 16, .inl (fun k => nI (T0 k)))), (t1, .inl (cA, 16, .inl (fun k => nI (T1 k)))), (mt, .inl (cZ, 16, .inl (fun k => zb (may k)))), (fx, .inl (cZ, 16, .inl (fun k => zb (fixd k))))] [.ref pl, .int (nI 2), .int (nI i0), .int (nI j0)] sz) (zQ none (zB D [(cA, .int), (cZ, .boolean), (c2, .array .int)] (va_A [(pl, .inr (6, [.ref bl, .ref o1, .ref o2, .ref tu, .ref st, .ref en, .ref ex])), (o1, .inr (4, [.ref a1, .ref b1, .int (nI k1)])), (a1, .inl (cA, 16, .inl (fun k => nI (ba1 k)))), (b1, .inl (cA, 16, .inl (fun k => nI (po1 k)))), (o2, .inr (4, [.ref a2, .ref b2, .int (nI k2)])), (a2, .inl (cA, 16, .inl (fun k => nI (ba2 k)))), (b2, .inl (cA, 16, .inl (fun k => nI (po2 k)))), (tu, .inl (cZ, 16, .inl (fun k => zb (tz k)))), (st, .inl (c2, 2, .inr (.inr (.inr (.inr (pr2 x0 x1)))))), (x0, .inl (cA, 16, .inl (fun k => nI (X0 k)))), (x1, .inl (cA, 16, .inl (fun k => nI (X1 k)))), (en, .inl (c2, 2, .inr (.inr (.inr (.inr (pr2 e0 e1)))))), (e0, .inl (cA, 16, .inl (fun k => nI (E0 k)))), (e1, .inl (cA, 16, .inl (fun k => nI (E1 k)))), (ex, .inl (cA, 2, .inl (fun k => nI (ext k)))), (bl, .inr (1, [.ref so, .ref to, .ref mt, .ref fx, .int (nI cnt)])), (so, .inl (c2, 2, .inr (.inr (.inr (.inr (pr2 s0 s1)))))), (s0, .inl (cA, 16, .inl (fun k => nI (Z0 k)))), (s1, .inl (cA, 16, .inl (fun k => nI (Z1 k)))), (to, .inl (c2, 2, .inr (.inr (.inr (.inr (pr2 t0 t1)))))), (t0, .inl (cA, 16, .inl (fun k => nI (T0 k)))), (t1, .inl (cA, 16, .inl (fun k => nI (T1 k)))), (mt, .inl (cZ, 16, .inl (fun k => zb (may k)))), (fx, .inl (cZ, 16, .inl (fun k => zb (fixd k))))] sz) [(pl, .inr (6, [.ref bl, .ref o1, .ref o2, .ref tu, .ref st, .ref en, .ref ex])), (o1, .inr (4, [.ref a1, .ref b1, .int (nI k1)])), (a1, .inl (cA, 16, .inl (fun k => nI (ba1 k)))), (b1, .inl (cA, 16, .inl (fun k => nI (po1 k)))), (o2, .inr (4, [.ref a2, .ref b2, .int (nI k2)])), (a2, .inl (cA, 16, .inl (fun k => nI (ba2 k)))), (b2, .inl (cA, 16, .inl (fun k => nI (po2 k)))), (tu, .inl (cZ, 16, .inl (fun k => zb ((if may (ba1 i0) = true ∧ fixd (ba1 i0) = false then va_up tz (ba1 i0) (!tz (ba1 i0)) else tz) k)))), (st, .inl (c2, 2, .inr (.inr (.inr (.inr (pr2 x0 x1)))))), (x0, .inl (cA, 16, .inl (fun k => nI (X0 k)))), (x1, .inl (cA, 16, .inl (fun k => nI (X1 k)))), (en, .inl (c2, 2, .inr (.inr (.inr (.inr (pr2 e0 e1)))))), (e0, .inl (cA, 16, .inl (fun k => nI (E0 k)))), (e1, .inl (cA, 16, .inl (fun k => nI (E1 k)))), (ex, .inl (cA, 2, .inl (fun k => nI (ext k)))), (bl, .inr (1, [.ref so, .ref to, .ref mt, .ref fx, .int (nI cnt)])), (so, .inl (c2, 2, .inr (.inr (.inr (.inr (pr2 s0 s1)))))), (s0, .inl (cA, 16, .inl (fun k => nI (Z0 k)))), (s1, .inl (cA, 16, .inl (fun k => nI (Z1 k)))), (to, .inl (c2, 2, .inr (.inr (.inr (.inr (pr2 t0 t1)))))), (t0, .inl (cA, 16, .inl (fun k => nI (T0 k)))), (t1, .inl (cA, 16, .inl (fun k => nI (T1 k)))), (mt, .inl (cZ, 16, .inl (fun k => zb (may k)))), (fx, .inl (cZ, 16, .inl (fun k => zb (fixd k))))]) (va_A [(pl, .inr (6, [.ref bl, .ref o1, .ref o2, .ref tu, .ref st, .ref en, .ref ex])), (o1, .inr (4, [.ref a1, .ref b1, .int (nI k1)])), (a1, .inl (cA, 16, .inl (fun k => nI (ba1 k)))), (b1, .inl (cA, 16, .inl (fun k => nI (po1 k)))), (o2, .inr (4, [.ref a2, .ref b2, .int (nI k2)])), (a2, .inl (cA, 16, .inl (fun k => nI (ba2 k)))), (b2, .inl (cA, 16, .inl (fun k => nI (po2 k)))), (tu, .inl (cZ, 16, .inl (fun k => zb (tz k)))), (st, .inl (c2, 2, .inr (.inr (.inr (.inr (pr2 x0 x1)))))), (x0, .inl (cA, 16, .inl (fun k => nI (X0 k)))), (x1, .inl (cA, 16, .inl (fun k => nI (X1 k)))), (en, .inl (c2, 2, .inr (.inr (.inr (.inr (pr2 e0 e1)))))), (e0, .inl (cA, 16, .inl (fun k => nI (E0 k)))), (e1, .inl (cA, 16, .inl (fun k => nI (E1 k)))), (ex, .inl (cA, 2, .inl (fun k => nI (ext k)))), (bl, .inr (1, [.ref so, .ref to, .ref mt, .ref fx, .int (nI cnt)])), (so, .inl (c2, 2, .inr (.inr (.inr (.inr (pr2 s0 s1)))))), (s0, .inl (cA, 16, .inl (fun k => nI (Z0 k)))), (s1, .inl (cA, 16, .inl (fun k => nI (Z1 k)))), (to, .inl (c2, 2, .inr (.inr (.inr (.inr (pr2 t0 t1)))))), (t0, .inl (cA, 16, .inl (fun k => nI (T0 k)))), (t1, .inl (cA, 16, .inl (fun k => nI (T1 k)))), (mt, .inl (cZ, 16, .inl (fun k => zb (may k)))), (fx, .inl (cZ, 16, .inl (fun k => zb (fixd k))))] sz)) 0 0 (va_A [(pl, .inr (6, [.ref bl, .ref o1, .ref o2, .ref tu, .ref st, .ref en, .ref ex])), (o1, .inr (4, [.ref a1, .ref b1, .int (nI k1)])), (a1, .inl (cA, 16, .inl (fun k => nI (ba1 k)))), (b1, .inl (cA, 16, .inl (fun k => nI (po1 k)))), (o2, .inr (4, [.ref a2, .ref b2, .int (nI k2)])), (a2, .inl (cA, 16, .inl (fun k => nI (ba2 k)))), (b2, .inl (cA, 16, .inl (fun k => nI (po2 k)))), (tu, .inl (cZ, 16, .inl (fun k => zb (tz k)))), (st, .inl (c2, 2, .inr (.inr (.inr (.inr (pr2 x0 x1)))))), (x0, .inl (cA, 16, .inl (fun k => nI (X0 k)))), (x1, .inl (cA, 16, .inl (fun k => nI (X1 k)))), (en, .inl (c2, 2, .inr (.inr (.inr (.inr (pr2 e0 e1)))))), (e0, .inl (cA, 16, .inl (fun k => nI (E0 k)))), (e1, .inl (cA, 16, .inl (fun k => nI (E1 k)))), (ex, .inl (cA, 2, .inl (fun k => nI (ext k)))), (bl, .inr (1, [.ref so, .ref to, .ref mt, .ref fx, .int (nI cnt)])), (so, .inl (c2, 2, .inr (.inr (.inr (.inr (pr2 s0 s1)))))), (s0, .inl (cA, 16, .inl (fun k => nI (Z0 k)))), (s1, .inl (cA, 16, .inl (fun k => nI (Z1 k)))), (to, .inl (c2, 2, .inr (.inr (.inr (.inr (pr2 t0 t1)))))), (t0, .inl (cA, 16, .inl (fun k => nI (T0 k)))), (t1, .inl (cA, 16, .inl (fun k => nI (T1 k)))), (mt, .inl (cZ, 16, .inl (fun k => zb (may k)))), (fx, .inl (cZ, 16, .inl (fun k => zb (fixd k))))] sz) := by
  refine Met.ofW (cc := b_PL_move) (maxL := 4) (ret := none) (by decide) rfl ?_
  intro p e s m args below meth c s₁ B hml hv
  obtain ⟨rfl, hsz, hP, hK, hD0⟩ := hv
  have hx := B.exec
  have hb := B.bytes
  have hr := B.returns
  have hts : ∀ w ∈ lw_g, w.before _ s = true := fun w h => atoms_spec (ws := wsA y_PL_move b_PL_move 4 none) B.pre w (List.mem_cons_of_mem _ h)
  have hown : s.vm.findClass R_PL = some m.cls := findClass_of_methodNamed B.named
  have hlocks := B.notSynchronized
  obtain ⟨hD, hA, hS⟩ := z_start hsz hD0
  generalize va_A [(pl, .inr (6, [.ref bl, .ref o1, .ref o2, .ref tu, .ref st, .ref en, .ref ex])), (o1, .inr (4, [.ref a1, .ref b1, .int (nI k1)])), (a1, .inl (cA, 16, .inl (fun k => nI (ba1 k)))), (b1, .inl (cA, 16, .inl (fun k => nI (po1 k)))), (o2, .inr (4, [.ref a2, .ref b2, .int (nI k2)])), (a2, .inl (cA, 16, .inl (fun k => nI (ba2 k)))), (b2, .inl (cA, 16, .inl (fun k => nI (po2 k)))), (tu, .inl (cZ, 16, .inl (fun k => zb (tz k)))), (st, .inl (c2, 2, .inr (.inr (.inr (.inr (pr2 x0 x1)))))), (x0, .inl (cA, 16, .inl (fun k => nI (X0 k)))), (x1, .inl (cA, 16, .inl (fun k => nI (X1 k)))), (en, .inl (c2, 2, .inr (.inr (.inr (.inr (pr2 e0 e1)))))), (e0, .inl (cA, 16, .inl (fun k => nI (E0 k)))), (e1, .inl (cA, 16, .inl (fun k => nI (E1 k)))), (ex, .inl (cA, 2, .inl (fun k => nI (ext k)))), (bl, .inr (1, [.ref so, .ref to, .ref mt, .ref fx, .int (nI cnt)])), (so, .inl (c2, 2, .inr (.inr (.inr (.inr (pr2 s0 s1)))))), (s0, .inl (cA, 16, .inl (fun k => nI (Z0 k)))), (s1, .inl (cA, 16, .inl (fun k => nI (Z1 k)))), (to, .inl (c2, 2, .inr (.inr (.inr (.inr (pr2 t0 t1)))))), (t0, .inl (cA, 16, .inl (fun k => nI (T0 k)))), (t1, .inl (cA, 16, .inl (fun k => nI (T1 k)))), (mt, .inl (cZ, 16, .inl (fun k => zb (may k)))), (fx, .inl (cZ, 16, .inl (fun k => zb (fixd k))))] sz = A at hD hA hS ⊢
  have hl := lv_entry ([.ref pl, .int (nI 2), .int (nI i0), .int (nI j0)]) (n := 4) (Nat.le_of_ble_eq_true rfl)
  rw [lg_entry_eq]
  generalize (lg_sl ([.ref pl, .int (nI 2), .int (nI i0), .int (nI j0)]) ++ List.replicate (4 - (lg_sl ([.ref pl, .int (nI 2), .int (nI i0), .int (nI j0)])).length) Slot.unset).toArray = ls at hl ⊢
  have hl : lv_has ls 4 [(0, .ref pl), (1, .int (nI 2)), (2, .int (nI i0)), (3, .int (nI j0))] := hl
  have hP : va_P D classes [(pl, .inr (6, [.ref bl, .ref o1, .ref o2, .ref tu, .ref st, .ref en, .ref ex])), (o1, .inr (4, [.ref a1, .ref b1, .int (nI k1)])), (a1, .inl (cA, 16, .inl (fun k => nI (ba1 k)))), (b1, .inl (cA, 16, .inl (fun k => nI (po1 k)))), (o2, .inr (4, [.ref a2, .ref b2, .int (nI k2)])), (a2, .inl (cA, 16, .inl (fun k => nI (ba2 k)))), (b2, .inl (cA, 16, .inl (fun k => nI (po2 k)))), (tu, .inl (cZ, 16, .inl (fun k => zb (tz k)))), (st, .inl (c2, 2, .inr (.inr (.inr (.inr (pr2 x0 x1)))))), (x0, .inl (cA, 16, .inl (fun k => nI (X0 k)))), (x1, .inl (cA, 16, .inl (fun k => nI (X1 k)))), (en, .inl (c2, 2, .inr (.inr (.inr (.inr (pr2 e0 e1)))))), (e0, .inl (cA, 16, .inl (fun k => nI (E0 k)))), (e1, .inl (cA, 16, .inl (fun k => nI (E1 k)))), (ex, .inl (cA, 2, .inl (fun k => nI (ext k)))), (bl, .inr (1, [.ref so, .ref to, .ref mt, .ref fx, .int (nI cnt)])), (so, .inl (c2, 2, .inr (.inr (.inr (.inr (pr2 s0 s1)))))), (s0, .inl (cA, 16, .inl (fun k => nI (Z0 k)))), (s1, .inl (cA, 16, .inl (fun k => nI (Z1 k)))), (to, .inl (c2, 2, .inr (.inr (.inr (.inr (pr2 t0 t1)))))), (t0, .inl (cA, 16, .inl (fun k => nI (T0 k)))), (t1, .inl (cA, 16, .inl (fun k => nI (T1 k)))), (mt, .inl (cZ, 16, .inl (fun k => zb (may k)))), (fx, .inl (cZ, 16, .inl (fun k => zb (fixd k))))] s.heap := hP
  refine lv_iload_n hx hb d_PL_move_0 rfl (lv_at hl 1 rfl) ?_
  refine lv_if_ne (tgt := 16) hx hb d_PL_move_1 (by decide) (fun _ => ?_) (fun h => absurd h (by decide))
  refine lv_iload_n hx hb d_PL_move_16 rfl (lv_at hl 1 rfl) ?_
  refine lv_iconst (v := nI 1) hx hb d_PL_move_17 (by decide) ?_
  refine z_cne (tgt := 74) hx hb d_PL_move_18 (by decide) (by omega) (by omega) (fun _ => ?_) (fun h => absurd h (by omega))
  refine lv_aload_n hx hb d_PL_move_74 rfl (lv_at hl 0 rfl) ?_
  refine lv_aload_n hx hb d_PL_move_75 rfl (lv_at hl 0 rfl) ?_
  refine va_get (D := D) (ci := 6) (v := .ref o1) (C := R_PL) (T := F_PL) (N := 7) hx hb hts i_PL hown hK hP 0 rfl rfl 1 (by decide) (hts _ kf_PL_18) (fun _ h9 => h9) rfl d_PL_move_76 ?_
  refine va_get (D := D) (ci := 4) (v := .ref a1) (C := R_OR) (T := F_OR) (N := 3) hx hb hts i_OR hown hK hP 1 rfl rfl 0 (by decide) (hts _ kf_PL_66) (fun _ h9 => h9) rfl d_PL_move_79 ?_
  refine lv_iload_n hx hb d_PL_move_82 rfl (lv_at hl 2 rfl) ?_
  refine z_ild (j := i0) hx hb hK hP 2 0 rfl rfl (by omega) (by decide) d_PL_move_83 ?_
  refine zw_V (ci := 6) (q0 := 0) (As := [.int (nI (ba1 i0))]) (rest := []) (n := 1) (wsC' := [(pl, .inr (6, [.ref bl, .ref o1, .ref o2, .ref tu, .ref st, .ref en, .ref ex])), (tu, .inl (cZ, 16, .inl (fun k => zb ((if may (ba1 i0) = true ∧ fixd (ba1 i0) = false then va_up tz (ba1 i0) (!tz (ba1 i0)) else tz) k)))), (bl, .inr (1, [.ref so, .ref to, .ref mt, .ref fx, .int (nI cnt)])), (mt, .inl (cZ, 16, .inl (fun k => zb (may k)))), (fx, .inl (cZ, 16, .inl (fun k => zb (fixd k))))]) (wr := [(o1, .inr (4, [.ref a1, .ref b1, .int (nI k1)])), (a1, .inl (cA, 16, .inl (fun k => nI (ba1 k)))), (b1, .inl (cA, 16, .inl (fun k => nI (po1 k)))), (o2, .inr (4, [.ref a2, .ref b2, .int (nI k2)])), (a2, .inl (cA, 16, .inl (fun k => nI (ba2 k)))), (b2, .inl (cA, 16, .inl (fun k => nI (po2 k)))), (st, .inl (c2, 2, .inr (.inr (.inr (.inr (pr2 x0 x1)))))), (x0, .inl (cA, 16, .inl (fun k => nI (X0 k)))), (x1, .inl (cA, 16, .inl (fun k => nI (X1 k)))), (en, .inl (c2, 2, .inr (.inr (.inr (.inr (pr2 e0 e1)))))), (e0, .inl (cA, 16, .inl (fun k => nI (E0 k)))), (e1, .inl (cA, 16, .inl (fun k => nI (E1 k)))), (ex, .inl (cA, 2, .inl (fun k => nI (ext k)))), (so, .inl (c2, 2, .inr (.inr (.inr (.inr (pr2 s0 s1)))))), (s0, .inl (cA, 16, .inl (fun k => nI (Z0 k)))), (s1, .inl (cA, 16, .inl (fun k => nI (Z1 k)))), (to, .inl (c2, 2, .inr (.inr (.inr (.inr (pr2 t0 t1)))))), (t0, .inl (cA, 16, .inl (fun k => nI (T0 k)))), (t1, .inl (cA, 16, .inl (fun k => nI (T1 k))))]) (ws' := [(pl, .inr (6, [.ref bl, .ref o1, .ref o2, .ref tu, .ref st, .ref en, .ref ex])), (o1, .inr (4, [.ref a1, .ref b1, .int (nI k1)])), (a1, .inl (cA, 16, .inl (fun k => nI (ba1 k)))), (b1, .inl (cA, 16, .inl (fun k => nI (po1 k)))), (o2, .inr (4, [.ref a2, .ref b2, .int (nI k2)])), (a2, .inl (cA, 16, .inl (fun k => nI (ba2 k)))), (b2, .inl (cA, 16, .inl (fun k => nI (po2 k)))), (tu, .inl (cZ, 16, .inl (fun k => zb ((if may (ba1 i0) = true ∧ fixd (ba1 i0) = false then va_up tz (ba1 i0) (!tz (ba1 i0)) else tz) k)))), (st, .inl (c2, 2, .inr (.inr (.inr (.inr (pr2 x0 x1)))))), (x0, .inl (cA, 16, .inl (fun k => nI (X0 k)))), (x1, .inl (cA, 16, .inl (fun k => nI (X1 k)))), (en, .inl (c2, 2, .inr (.inr (.inr (.inr (pr2 e0 e1)))))), (e0, .inl (cA, 16, .inl (fun k => nI (E0 k)))), (e1, .inl (cA, 16, .inl (fun k => nI (E1 k)))), (ex, .inl (cA, 2, .inl (fun k => nI (ext k)))), (bl, .inr (1, [.ref so, .ref to, .ref mt, .ref fx, .int (nI cnt)])), (so, .inl (c2, 2, .inr (.inr (.inr (.inr (pr2 s0 s1)))))), (s0, .inl (cA, 16, .inl (fun k => nI (Z0 k)))), (s1, .inl (cA, 16, .inl (fun k => nI (Z1 k)))), (to, .inl (c2, 2, .inr (.inr (.inr (.inr (pr2 t0 t1)))))), (t0, .inl (cA, 16, .inl (fun k => nI (T0 k)))), (t1, .inl (cA, 16, .inl (fun k => nI (T1 k)))), (mt, .inl (cZ, 16, .inl (fun k => zb (may k)))), (fx, .inl (cZ, 16, .inl (fun k => zb (fixd k))))]) ⟨hx, hb, hml, hown, hts⟩ (c_PL_turnIfAllowed l D _ pl o1 o2 tu st en ex bl so to mt fx cnt cZ may fixd tz (ba1 i0) h3) ⟨km_PL_69, ki_PL_turnIfAllowed, ks_PL_turnIfAllowed, kn_PL, kd_PL_turnIfAllowed⟩ (by decide +kernel) (by decide) ⟨Nat.zero_le _, Nat.zero_le _⟩ hK hP hD hS hA [0, 7, 15, 22, 23] [1, 2, 3, 4, 5, 6, 8, 9, 10, 11, 12, 13, 14, 16, 17, 18, 19, 20, 21] [19, 0, 1, 2, 3, 4, 5, 20, 6, 7, 8, 9, 10, 11, 12, 21, 13, 14, 15, 16, 17, 18, 22, 23] [1] rfl rfl (by decide) rfl (by decide) (by decide) rfl rfl (by decide) rfl rfl rfl rfl hl.1 rfl (Nat.le_of_ble_eq_true rfl) d_PL_move_84 (fun H locs hP hD hS => ?_)
  have hP : va_P D classes [(pl, .inr (6, [.ref bl, .ref o1, .ref o2, .ref tu, .ref st, .ref en, .ref ex])), (o1, .inr (4, [.ref a1, .ref b1, .int (nI k1)])), (a1, .inl (cA, 16, .inl (fun k => nI (ba1 k)))), (b1, .inl (cA, 16, .inl (fun k => nI (po1 k)))), (o2, .inr (4, [.ref a2, .ref b2, .int (nI k2)])), (a2, .inl (cA, 16, .inl (fun k => nI (ba2 k)))), (b2, .inl (cA, 16, .inl (fun k => nI (po2 k)))), (tu, .inl (cZ, 16, .inl (fun k => zb ((if may (ba1 i0) = true ∧ fixd (ba1 i0) = false then va_up tz (ba1 i0) (!tz (ba1 i0)) else tz) k)))), (st, .inl (c2, 2, .inr (.inr (.inr (.inr (pr2 x0 x1)))))), (x0, .inl (cA, 16, .inl (fun k => nI (X0 k)))), (x1, .inl (cA, 16, .inl (fun k => nI (X1 k)))), (en, .inl (c2, 2, .inr (.inr (.inr (.inr (pr2 e0 e1)))))), (e0, .inl (cA, 16, .inl (fun k => nI (E0 k)))), (e1, .inl (cA, 16, .inl (fun k => nI (E1 k)))), (ex, .inl (cA, 2, .inl (fun k => nI (ext k)))), (bl, .inr (1, [.ref so, .ref to, .ref mt, .ref fx, .int (nI cnt)])), (so, .inl (c2, 2, .inr (.inr (.inr (.inr (pr2 s0 s1)))))), (s0, .inl (cA, 16, .inl (fun k => nI (Z0 k)))), (s1, .inl (cA, 16, .inl (fun k => nI (Z1 k)))), (to, .inl (c2, 2, .inr (.inr (.inr (.inr (pr2 t0 t1)))))), (t0, .inl (cA, 16, .inl (fun k => nI (T0 k)))), (t1, .inl (cA, 16, .inl (fun k => nI (T1 k)))), (mt, .inl (cZ, 16, .inl (fun k => zb (may k)))), (fx, .inl (cZ, 16, .inl (fun k => zb (fixd k))))] H := hP
  have hD : va_D A [(pl, .inr (6, [.ref bl, .ref o1, .ref o2, .ref tu, .ref st, .ref en, .ref ex])), (o1, .inr (4, [.ref a1, .ref b1, .int (nI k1)])), (a1, .inl (cA, 16, .inl (fun k => nI (ba1 k)))), (b1, .inl (cA, 16, .inl (fun k => nI (po1 k)))), (o2, .inr (4, [.ref a2, .ref b2, .int (nI k2)])), (a2, .inl (cA, 16, .inl (fun k => nI (ba2 k)))), (b2, .inl (cA, 16, .inl (fun k => nI (po2 k)))), (tu, .inl (cZ, 16, .inl (fun k => zb ((if may (ba1 i0) = true ∧ fixd (ba1 i0) = false then va_up tz (ba1 i0) (!tz (ba1 i0)) else tz) k)))), (st, .inl (c2, 2, .inr (.inr (.inr (.inr (pr2 x0 x1)))))), (x0, .inl (cA, 16, .inl (fun k => nI (X0 k)))), (x1, .inl (cA, 16, .inl (fun k => nI (X1 k)))), (en, .inl (c2, 2, .inr (.inr (.inr (.inr (pr2 e0 e1)))))), (e0, .inl (cA, 16, .inl (fun k => nI (E0 k)))), (e1, .inl (cA, 16, .inl (fun k => nI (E1 k)))), (ex, .inl (cA, 2, .inl (fun k => nI (ext k)))), (bl, .inr (1, [.ref so, .ref to, .ref mt, .ref fx, .int (nI cnt)])), (so, .inl (c2, 2, .inr (.inr (.inr (.inr (pr2 s0 s1)))))), (s0, .inl (cA, 16, .inl (fun k => nI (Z0 k)))), (s1, .inl (cA, 16, .inl (fun k => nI (Z1 k)))), (to, .inl (c2, 2, .inr (.inr (.inr (.inr (pr2 t0 t1)))))), (t0, .inl (cA, 16, .inl (fun k => nI (T0 k)))), (t1, .inl (cA, 16, .inl (fun k => nI (T1 k)))), (mt, .inl (cZ, 16, .inl (fun k => zb (may k)))), (fx, .inl (cZ, 16, .inl (fun k => zb (fixd k))))] := hD
  exact W.vret hx hb hr (fun t ht hW => ⟨rfl, ⟨by rw [ht]; exact hP, va_K.moved hW.alike hK, hD⟩, hS.F ht⟩) hS.2.2 d_PL_move_87
