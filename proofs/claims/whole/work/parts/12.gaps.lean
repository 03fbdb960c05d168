theorem d_PL_gapOfMiddles_0 : decode b_PL_gapOfMiddles 0 = .ok (.aload_n 0, 1) := by decide +kernel
theorem d_PL_gapOfMiddles_1 : decode b_PL_gapOfMiddles 1 = .ok (.iload_n 1, 1) := by decide +kernel
theorem d_PL_gapOfMiddles_2 : decode b_PL_gapOfMiddles 2 = .ok (.iconst 0, 1) := by decide +kernel
theorem d_PL_gapOfMiddles_3 : decode b_PL_gapOfMiddles 3 = .ok (.invokevirtual 107, 3) := by decide +kernel
theorem d_PL_gapOfMiddles_6 : decode b_PL_gapOfMiddles 6 = .ok (.aload_n 0, 1) := by decide +kernel
theorem d_PL_gapOfMiddles_7 : decode b_PL_gapOfMiddles 7 = .ok (.iload_n 2, 1) := by decide +kernel
theorem d_PL_gapOfMiddles_8 : decode b_PL_gapOfMiddles 8 = .ok (.iconst 0, 1) := by decide +kernel
theorem d_PL_gapOfMiddles_9 : decode b_PL_gapOfMiddles 9 = .ok (.invokevirtual 107, 3) := by decide +kernel
theorem d_PL_gapOfMiddles_12 : decode b_PL_gapOfMiddles 12 = .ok (.isub, 1) := by decide +kernel
theorem d_PL_gapOfMiddles_13 : decode b_PL_gapOfMiddles 13 = .ok (.invokestatic 110, 3) := by decide +kernel
theorem d_PL_gapOfMiddles_16 : decode b_PL_gapOfMiddles 16 = .ok (.aload_n 0, 1) := by decide +kernel
theorem d_PL_gapOfMiddles_17 : decode b_PL_gapOfMiddles 17 = .ok (.iload_n 1, 1) := by decide +kernel
theorem d_PL_gapOfMiddles_18 : decode b_PL_gapOfMiddles 18 = .ok (.iconst 1, 1) := by decide +kernel
theorem d_PL_gapOfMiddles_19 : decode b_PL_gapOfMiddles 19 = .ok (.invokevirtual 107, 3) := by decide +kernel
theorem d_PL_gapOfMiddles_22 : decode b_PL_gapOfMiddles 22 = .ok (.aload_n 0, 1) := by decide +kernel
theorem d_PL_gapOfMiddles_23 : decode b_PL_gapOfMiddles 23 = .ok (.iload_n 2, 1) := by decide +kernel
theorem d_PL_gapOfMiddles_24 : decode b_PL_gapOfMiddles 24 = .ok (.iconst 1, 1) := by decide +kernel
theorem d_PL_gapOfMiddles_25 : decode b_PL_gapOfMiddles 25 = .ok (.invokevirtual 107, 3) := by decide +kernel
theorem d_PL_gapOfMiddles_28 : decode b_PL_gapOfMiddles 28 = .ok (.isub, 1) := by decide +kernel
theorem d_PL_gapOfMiddles_29 : decode b_PL_gapOfMiddles 29 = .ok (.invokestatic 110, 3) := by decide +kernel
theorem d_PL_gapOfMiddles_32 : decode b_PL_gapOfMiddles 32 = .ok (.iadd, 1) := by decide +kernel
theorem d_PL_gapOfMiddles_33 : decode b_PL_gapOfMiddles 33 = .ok (.ireturn, 1) := by decide +kernel
theorem d_PL_gapOfSide_0 : decode b_PL_gapOfSide 0 = .ok (.iload_n 2, 1) := by decide +kernel
theorem d_PL_gapOfSide_1 : decode b_PL_gapOfSide 1 = .ok (.iconst 2, 1) := by decide +kernel
theorem d_PL_gapOfSide_2 : decode b_PL_gapOfSide 2 = .ok (.if_icmp .ge 7, 3) := by decide +kernel
theorem d_PL_gapOfSide_5 : decode b_PL_gapOfSide 5 = .ok (.iconst 0, 1) := by decide +kernel
theorem d_PL_gapOfSide_6 : decode b_PL_gapOfSide 6 = .ok (.goto 4, 3) := by decide +kernel
theorem d_PL_gapOfSide_9 : decode b_PL_gapOfSide 9 = .ok (.iconst 1, 1) := by decide +kernel
theorem d_PL_gapOfSide_10 : decode b_PL_gapOfSide 10 = .ok (.istore 4, 2) := by decide +kernel
theorem d_PL_gapOfSide_12 : decode b_PL_gapOfSide 12 = .ok (.iload_n 2, 1) := by decide +kernel
theorem d_PL_gapOfSide_13 : decode b_PL_gapOfSide 13 = .ok (.ifCond .eq 8, 3) := by decide +kernel
theorem d_PL_gapOfSide_16 : decode b_PL_gapOfSide 16 = .ok (.iload_n 2, 1) := by decide +kernel
theorem d_PL_gapOfSide_17 : decode b_PL_gapOfSide 17 = .ok (.iconst 2, 1) := by decide +kernel
theorem d_PL_gapOfSide_18 : decode b_PL_gapOfSide 18 = .ok (.if_icmp .ne 7, 3) := by decide +kernel
theorem d_PL_gapOfSide_21 : decode b_PL_gapOfSide 21 = .ok (.iconst 1, 1) := by decide +kernel
theorem d_PL_gapOfSide_22 : decode b_PL_gapOfSide 22 = .ok (.goto 4, 3) := by decide +kernel
theorem d_PL_gapOfSide_25 : decode b_PL_gapOfSide 25 = .ok (.iconst 0, 1) := by decide +kernel
theorem d_PL_gapOfSide_26 : decode b_PL_gapOfSide 26 = .ok (.istore 5, 2) := by decide +kernel
theorem d_PL_gapOfSide_28 : decode b_PL_gapOfSide 28 = .ok (.iconst 2, 1) := by decide +kernel
theorem d_PL_gapOfSide_29 : decode b_PL_gapOfSide 29 = .ok (.iload 5, 2) := by decide +kernel
theorem d_PL_gapOfSide_31 : decode b_PL_gapOfSide 31 = .ok (.ifCond .eq 15, 3) := by decide +kernel
theorem d_PL_gapOfSide_34 : decode b_PL_gapOfSide 34 = .ok (.aload_n 0, 1) := by decide +kernel
theorem d_PL_gapOfSide_35 : decode b_PL_gapOfSide 35 = .ok (.getfield 31, 3) := by decide +kernel
theorem d_PL_gapOfSide_38 : decode b_PL_gapOfSide 38 = .ok (.iload 4, 2) := by decide +kernel
theorem d_PL_gapOfSide_40 : decode b_PL_gapOfSide 40 = .ok (.aaload, 1) := by decide +kernel
theorem d_PL_gapOfSide_41 : decode b_PL_gapOfSide 41 = .ok (.iload_n 1, 1) := by decide +kernel
theorem d_PL_gapOfSide_42 : decode b_PL_gapOfSide 42 = .ok (.iaload, 1) := by decide +kernel
theorem d_PL_gapOfSide_43 : decode b_PL_gapOfSide 43 = .ok (.goto 12, 3) := by decide +kernel
theorem d_PL_gapOfSide_46 : decode b_PL_gapOfSide 46 = .ok (.aload_n 0, 1) := by decide +kernel
theorem d_PL_gapOfSide_47 : decode b_PL_gapOfSide 47 = .ok (.getfield 34, 3) := by decide +kernel
theorem d_PL_gapOfSide_50 : decode b_PL_gapOfSide 50 = .ok (.iload 4, 2) := by decide +kernel
theorem d_PL_gapOfSide_52 : decode b_PL_gapOfSide 52 = .ok (.aaload, 1) := by decide +kernel
theorem d_PL_gapOfSide_53 : decode b_PL_gapOfSide 53 = .ok (.iload_n 1, 1) := by decide +kernel
theorem d_PL_gapOfSide_54 : decode b_PL_gapOfSide 54 = .ok (.iaload, 1) := by decide +kernel
theorem d_PL_gapOfSide_55 : decode b_PL_gapOfSide 55 = .ok (.imul, 1) := by decide +kernel
theorem d_PL_gapOfSide_56 : decode b_PL_gapOfSide 56 = .ok (.istore 6, 2) := by decide +kernel
theorem d_PL_gapOfSide_58 : decode b_PL_gapOfSide 58 = .ok (.iload 6, 2) := by decide +kernel
theorem d_PL_gapOfSide_60 : decode b_PL_gapOfSide 60 = .ok (.aload_n 0, 1) := by decide +kernel
theorem d_PL_gapOfSide_61 : decode b_PL_gapOfSide 61 = .ok (.iload_n 3, 1) := by decide +kernel
theorem d_PL_gapOfSide_62 : decode b_PL_gapOfSide 62 = .ok (.iload 4, 2) := by decide +kernel
theorem d_PL_gapOfSide_64 : decode b_PL_gapOfSide 64 = .ok (.invokevirtual 107, 3) := by decide +kernel
theorem d_PL_gapOfSide_67 : decode b_PL_gapOfSide 67 = .ok (.isub, 1) := by decide +kernel
theorem d_PL_gapOfSide_68 : decode b_PL_gapOfSide 68 = .ok (.invokestatic 110, 3) := by decide +kernel
theorem d_PL_gapOfSide_71 : decode b_PL_gapOfSide 71 = .ok (.aload_n 0, 1) := by decide +kernel
theorem d_PL_gapOfSide_72 : decode b_PL_gapOfSide 72 = .ok (.iload_n 1, 1) := by decide +kernel
theorem d_PL_gapOfSide_73 : decode b_PL_gapOfSide 73 = .ok (.iconst 1, 1) := by decide +kernel
theorem d_PL_gapOfSide_74 : decode b_PL_gapOfSide 74 = .ok (.iload 4, 2) := by decide +kernel
theorem d_PL_gapOfSide_76 : decode b_PL_gapOfSide 76 = .ok (.isub, 1) := by decide +kernel
theorem d_PL_gapOfSide_77 : decode b_PL_gapOfSide 77 = .ok (.invokevirtual 107, 3) := by decide +kernel
theorem d_PL_gapOfSide_80 : decode b_PL_gapOfSide 80 = .ok (.aload_n 0, 1) := by decide +kernel
theorem d_PL_gapOfSide_81 : decode b_PL_gapOfSide 81 = .ok (.iload_n 3, 1) := by decide +kernel
theorem d_PL_gapOfSide_82 : decode b_PL_gapOfSide 82 = .ok (.iconst 1, 1) := by decide +kernel
theorem d_PL_gapOfSide_83 : decode b_PL_gapOfSide 83 = .ok (.iload 4, 2) := by decide +kernel
theorem d_PL_gapOfSide_85 : decode b_PL_gapOfSide 85 = .ok (.isub, 1) := by decide +kernel
theorem d_PL_gapOfSide_86 : decode b_PL_gapOfSide 86 = .ok (.invokevirtual 107, 3) := by decide +kernel
theorem d_PL_gapOfSide_89 : decode b_PL_gapOfSide 89 = .ok (.isub, 1) := by decide +kernel
theorem d_PL_gapOfSide_90 : decode b_PL_gapOfSide 90 = .ok (.invokestatic 110, 3) := by decide +kernel
theorem d_PL_gapOfSide_93 : decode b_PL_gapOfSide 93 = .ok (.iadd, 1) := by decide +kernel
theorem d_PL_gapOfSide_94 : decode b_PL_gapOfSide 94 = .ok (.ireturn, 1) := by decide +kernel
theorem d_PL_haveRoomInCommon_0 : decode b_PL_haveRoomInCommon 0 = .ok (.iconst 0, 1) := by decide +kernel
theorem d_PL_haveRoomInCommon_1 : decode b_PL_haveRoomInCommon 1 = .ok (.istore_n 3, 1) := by decide +kernel
theorem d_PL_haveRoomInCommon_2 : decode b_PL_haveRoomInCommon 2 = .ok (.iload_n 3, 1) := by decide +kernel
theorem d_PL_haveRoomInCommon_3 : decode b_PL_haveRoomInCommon 3 = .ok (.iconst 2, 1) := by decide +kernel
theorem d_PL_haveRoomInCommon_4 : decode b_PL_haveRoomInCommon 4 = .ok (.if_icmp .ge 49, 3) := by decide +kernel
theorem d_PL_haveRoomInCommon_7 : decode b_PL_haveRoomInCommon 7 = .ok (.aload_n 0, 1) := by decide +kernel
theorem d_PL_haveRoomInCommon_8 : decode b_PL_haveRoomInCommon 8 = .ok (.getfield 34, 3) := by decide +kernel
theorem d_PL_haveRoomInCommon_11 : decode b_PL_haveRoomInCommon 11 = .ok (.iload_n 3, 1) := by decide +kernel
theorem d_PL_haveRoomInCommon_12 : decode b_PL_haveRoomInCommon 12 = .ok (.aaload, 1) := by decide +kernel
theorem d_PL_haveRoomInCommon_13 : decode b_PL_haveRoomInCommon 13 = .ok (.iload_n 1, 1) := by decide +kernel
theorem d_PL_haveRoomInCommon_14 : decode b_PL_haveRoomInCommon 14 = .ok (.iaload, 1) := by decide +kernel
theorem d_PL_haveRoomInCommon_15 : decode b_PL_haveRoomInCommon 15 = .ok (.aload_n 0, 1) := by decide +kernel
theorem d_PL_haveRoomInCommon_16 : decode b_PL_haveRoomInCommon 16 = .ok (.getfield 31, 3) := by decide +kernel
theorem d_PL_haveRoomInCommon_19 : decode b_PL_haveRoomInCommon 19 = .ok (.iload_n 3, 1) := by decide +kernel
theorem d_PL_haveRoomInCommon_20 : decode b_PL_haveRoomInCommon 20 = .ok (.aaload, 1) := by decide +kernel
theorem d_PL_haveRoomInCommon_21 : decode b_PL_haveRoomInCommon 21 = .ok (.iload_n 2, 1) := by decide +kernel
theorem d_PL_haveRoomInCommon_22 : decode b_PL_haveRoomInCommon 22 = .ok (.iaload, 1) := by decide +kernel
theorem d_PL_haveRoomInCommon_23 : decode b_PL_haveRoomInCommon 23 = .ok (.if_icmp .le 22, 3) := by decide +kernel
theorem d_PL_haveRoomInCommon_26 : decode b_PL_haveRoomInCommon 26 = .ok (.aload_n 0, 1) := by decide +kernel
theorem d_PL_haveRoomInCommon_27 : decode b_PL_haveRoomInCommon 27 = .ok (.getfield 34, 3) := by decide +kernel
theorem d_PL_haveRoomInCommon_30 : decode b_PL_haveRoomInCommon 30 = .ok (.iload_n 3, 1) := by decide +kernel
theorem d_PL_haveRoomInCommon_31 : decode b_PL_haveRoomInCommon 31 = .ok (.aaload, 1) := by decide +kernel
theorem d_PL_haveRoomInCommon_32 : decode b_PL_haveRoomInCommon 32 = .ok (.iload_n 2, 1) := by decide +kernel
theorem d_PL_haveRoomInCommon_33 : decode b_PL_haveRoomInCommon 33 = .ok (.iaload, 1) := by decide +kernel
theorem d_PL_haveRoomInCommon_34 : decode b_PL_haveRoomInCommon 34 = .ok (.aload_n 0, 1) := by decide +kernel
theorem d_PL_haveRoomInCommon_35 : decode b_PL_haveRoomInCommon 35 = .ok (.getfield 31, 3) := by decide +kernel
theorem d_PL_haveRoomInCommon_38 : decode b_PL_haveRoomInCommon 38 = .ok (.iload_n 3, 1) := by decide +kernel
theorem d_PL_haveRoomInCommon_39 : decode b_PL_haveRoomInCommon 39 = .ok (.aaload, 1) := by decide +kernel
theorem d_PL_haveRoomInCommon_40 : decode b_PL_haveRoomInCommon 40 = .ok (.iload_n 1, 1) := by decide +kernel
theorem d_PL_haveRoomInCommon_41 : decode b_PL_haveRoomInCommon 41 = .ok (.iaload, 1) := by decide +kernel
theorem d_PL_haveRoomInCommon_42 : decode b_PL_haveRoomInCommon 42 = .ok (.if_icmp .gt 5, 3) := by decide +kernel
theorem d_PL_haveRoomInCommon_45 : decode b_PL_haveRoomInCommon 45 = .ok (.iconst 0, 1) := by decide +kernel
theorem d_PL_haveRoomInCommon_46 : decode b_PL_haveRoomInCommon 46 = .ok (.ireturn, 1) := by decide +kernel
theorem d_PL_haveRoomInCommon_47 : decode b_PL_haveRoomInCommon 47 = .ok (.iinc 3 1, 3) := by decide +kernel
theorem d_PL_haveRoomInCommon_50 : decode b_PL_haveRoomInCommon 50 = .ok (.goto (-48), 3) := by decide +kernel
theorem d_PL_haveRoomInCommon_53 : decode b_PL_haveRoomInCommon 53 = .ok (.iconst 1, 1) := by decide +kernel
theorem d_PL_haveRoomInCommon_54 : decode b_PL_haveRoomInCommon 54 = .ok (.ireturn, 1) := by decide +kernel
theorem d_OR_copy_0 : decode b_OR_copy 0 = .ok (.aload_n 1, 1) := by decide +kernel
theorem d_OR_copy_1 : decode b_OR_copy 1 = .ok (.getfield 9, 3) := by decide +kernel
theorem d_OR_copy_4 : decode b_OR_copy 4 = .ok (.iconst 0, 1) := by decide +kernel
theorem d_OR_copy_5 : decode b_OR_copy 5 = .ok (.aload_n 0, 1) := by decide +kernel
theorem d_OR_copy_6 : decode b_OR_copy 6 = .ok (.getfield 9, 3) := by decide +kernel
theorem d_OR_copy_9 : decode b_OR_copy 9 = .ok (.iconst 0, 1) := by decide +kernel
theorem d_OR_copy_10 : decode b_OR_copy 10 = .ok (.bipush 16, 2) := by decide +kernel
theorem d_OR_copy_12 : decode b_OR_copy 12 = .ok (.invokestatic 22, 3) := by decide +kernel
theorem d_OR_copy_15 : decode b_OR_copy 15 = .ok (.aload_n 1, 1) := by decide +kernel
theorem d_OR_copy_16 : decode b_OR_copy 16 = .ok (.getfield 15, 3) := by decide +kernel
theorem d_OR_copy_19 : decode b_OR_copy 19 = .ok (.iconst 0, 1) := by decide +kernel
theorem d_OR_copy_20 : decode b_OR_copy 20 = .ok (.aload_n 0, 1) := by decide +kernel
theorem d_OR_copy_21 : decode b_OR_copy 21 = .ok (.getfield 15, 3) := by decide +kernel
theorem d_OR_copy_24 : decode b_OR_copy 24 = .ok (.iconst 0, 1) := by decide +kernel
theorem d_OR_copy_25 : decode b_OR_copy 25 = .ok (.bipush 16, 2) := by decide +kernel
theorem d_OR_copy_27 : decode b_OR_copy 27 = .ok (.invokestatic 22, 3) := by decide +kernel
theorem d_OR_copy_30 : decode b_OR_copy 30 = .ok (.aload_n 0, 1) := by decide +kernel
theorem d_OR_copy_31 : decode b_OR_copy 31 = .ok (.aload_n 1, 1) := by decide +kernel
theorem d_OR_copy_32 : decode b_OR_copy 32 = .ok (.getfield 18, 3) := by decide +kernel
theorem d_OR_copy_35 : decode b_OR_copy 35 = .ok (.putfield 18, 3) := by decide +kernel
theorem d_OR_copy_38 : decode b_OR_copy 38 = .ok (.return_, 1) := by decide +kernel
/-- how far two numbers are from each other -/
def dd (i j : Nat) : Nat := i - j + (j - i)
set_option maxHeartbeats 4000000 in
set_option maxRecDepth 100000 in
/-- Plan.gapOfMiddles(u, v) -/
theorem c_PL_gapOfMiddles (l : Launch) (D : va_G) (pl o1 o2 tu st en ex bl x0 x1 e0 e1 : Nat) (cA c2 : ClassId) (X0 X1 E0 E1 : Nat → Nat) (u v : Nat) (h1 : u < 16) (h2 : v < 16) (g1 : X0 u + E0 u < 2 ^ 30) (g2 : X0 v + E0 v < 2 ^ 30) (g3 : X1 u + E1 u < 2 ^ 30) (g4 : X1 v + E1 v < 2 ^ 30) : Met l y_PL_gapOfMiddles (wsA y_PL_gapOfMiddles b_PL_gapOfMiddles 3 (some .int)) ({ frames := 1, cells := 0, slots := 0, locals := 30 } : Room) (zR D [(cA, .int), (c2, .array .int)] [(pl, .inr (6, [.ref bl, .ref o1, .ref o2, .ref tu, .ref st, .ref en, .ref ex])), (st, .inl (c2, 2, .inr (.inr (.inr (.inr (pr2 x0 x1)))))), (x0, .inl (cA, 16, .inl (fun k => nI (X0 k)))), (x1, .inl (cA, 16, .inl (fun k => nI (X1 k)))), (en, .inl (c2, 2, .inr (.inr (.inr (.inr (pr2 e0 e1)))))), (e0, .inl (cA, 16, .inl (fun k => nI (E0 k)))), (e1, .inl (cA, 16, .inl (fun k => nI (E1 k))))] [.ref pl, .int (nI u), .int (nI v)]) (k2_QcV (.int (nI (dd (X0 u + E0 u) (X0 v + E0 v) + dd (X1 u + E1 u) (X1 v + E1 v))))) 0 0 (fun _ => False) := by
  refine Met.ofW (cc := b_PL_gapOfMiddles) (maxL := 3) (ret := (some .int)) (by decide) rfl ?_
  intro p e s m args below meth c s₁ B hml hv
  obtain ⟨rfl, hP, hK⟩ := hv
  have hx := B.exec
  have hb := B.bytes
  have hr := B.returns
  have hts : ∀ w ∈ lw_g, w.before _ s = true := fun w h => atoms_spec (ws := wsA y_PL_gapOfMiddles b_PL_gapOfMiddles 3 (some .int)) B.pre w (List.mem_cons_of_mem _ h)
  have hown : s.vm.findClass R_PL = some m.cls := findClass_of_methodNamed B.named
  have hlocks := B.notSynchronized
  have hl := lv_entry ([.ref pl, .int (nI u), .int (nI v)]) (n := 3) (Nat.le_of_ble_eq_true rfl)
  rw [lg_entry_eq]
  generalize (lg_sl ([.ref pl, .int (nI u), .int (nI v)]) ++ List.replicate (3 - (lg_sl ([.ref pl, .int (nI u), .int (nI v)])).length) Slot.unset).toArray = ls at hl ⊢
  have hl : lv_has ls 3 [(0, .ref pl), (1, .int (nI u)), (2, .int (nI v))] := hl
  have hP : va_P D classes [(pl, .inr (6, [.ref bl, .ref o1, .ref o2, .ref tu, .ref st, .ref en, .ref ex])), (st, .inl (c2, 2, .inr (.inr (.inr (.inr (pr2 x0 x1)))))), (x0, .inl (cA, 16, .inl (fun k => nI (X0 k)))), (x1, .inl (cA, 16, .inl (fun k => nI (X1 k)))), (en, .inl (c2, 2, .inr (.inr (.inr (.inr (pr2 e0 e1)))))), (e0, .inl (cA, 16, .inl (fun k => nI (E0 k)))), (e1, .inl (cA, 16, .inl (fun k => nI (E1 k))))] s.heap := hP
  refine lv_aload_n hx hb d_PL_gapOfMiddles_0 rfl (lv_at hl 0 rfl) ?_
  refine lv_iload_n hx hb d_PL_gapOfMiddles_1 rfl (lv_at hl 1 rfl) ?_
  refine lv_iconst (v := nI 0) hx hb d_PL_gapOfMiddles_2 (by decide) ?_
  refine zr_V (ci := 6) (q0 := 0) (As := [.int (nI u), .int (nI 0)]) (rest := []) (n := 2) ⟨hx, hb, hml, hown, hts⟩ (c_PL_middleOf_0 l D pl o1 o2 tu st en ex bl x0 x1 e0 e1 cA c2 X0 E0 u h1) ⟨km_PL_107, ki_PL_middleOf, ks_PL_middleOf, kn_PL, kd_PL_middleOf⟩ (by decide +kernel) (by decide) ⟨Nat.zero_le _, Nat.zero_le _⟩ hK hP [0, 1, 2, 4, 5] rfl [0, 1] rfl rfl rfl rfl hl.1 rfl (Nat.le_of_ble_eq_true rfl) d_PL_gapOfMiddles_3 ?_
  refine lv_aload_n hx hb d_PL_gapOfMiddles_6 rfl (lv_at hl 0 rfl) ?_
  refine lv_iload_n hx hb d_PL_gapOfMiddles_7 rfl (lv_at hl 2 rfl) ?_
  refine lv_iconst (v := nI 0) hx hb d_PL_gapOfMiddles_8 (by decide) ?_
  refine zr_V (ci := 6) (q0 := 0) (As := [.int (nI v), .int (nI 0)]) (rest := [.int (nI (X0 u + E0 u))]) (n := 2) ⟨hx, hb, hml, hown, hts⟩ (c_PL_middleOf_0 l D pl o1 o2 tu st en ex bl x0 x1 e0 e1 cA c2 X0 E0 v h2) ⟨km_PL_107, ki_PL_middleOf, ks_PL_middleOf, kn_PL, kd_PL_middleOf⟩ (by decide +kernel) (by decide) ⟨Nat.zero_le _, Nat.zero_le _⟩ hK hP [0, 1, 2, 4, 5] rfl [0, 1] rfl rfl rfl rfl hl.1 rfl (Nat.le_of_ble_eq_true rfl) d_PL_gapOfMiddles_9 ?_
  refine lv_isub hx hb d_PL_gapOfMiddles_12 ?_
  refine z_abs (x := (X0 u + E0 u)) (y := (X0 v + E0 v)) ⟨hx, hb, hml, hown, hts⟩ hl.1 km_PL_110 (Nat.le_of_ble_eq_true rfl) (Nat.le_of_ble_eq_true rfl) ⟨Nat.zero_le _, Nat.zero_le _⟩ g1 g2 d_PL_gapOfMiddles_13 ?_
  refine lv_aload_n hx hb d_PL_gapOfMiddles_16 rfl (lv_at hl 0 rfl) ?_
  refine lv_iload_n hx hb d_PL_gapOfMiddles_17 rfl (lv_at hl 1 rfl) ?_
  refine lv_iconst (v := nI 1) hx hb d_PL_gapOfMiddles_18 (by decide) ?_
  refine zr_V (ci := 6) (q0 := 0) (As := [.int (nI u), .int (nI 1)]) (rest := [.int (nI ((X0 u + E0 u) - (X0 v + E0 v) + ((X0 v + E0 v) - (X0 u + E0 u))))]) (n := 2) ⟨hx, hb, hml, hown, hts⟩ (c_PL_middleOf_1 l D pl o1 o2 tu st en ex bl x0 x1 e0 e1 cA c2 X1 E1 u h1) ⟨km_PL_107, ki_PL_middleOf, ks_PL_middleOf, kn_PL, kd_PL_middleOf⟩ (by decide +kernel) (by decide) ⟨Nat.zero_le _, Nat.zero_le _⟩ hK hP [0, 1, 3, 4, 6] rfl [0, 1] rfl rfl rfl rfl hl.1 rfl (Nat.le_of_ble_eq_true rfl) d_PL_gapOfMiddles_19 ?_
  refine lv_aload_n hx hb d_PL_gapOfMiddles_22 rfl (lv_at hl 0 rfl) ?_
  refine lv_iload_n hx hb d_PL_gapOfMiddles_23 rfl (lv_at hl 2 rfl) ?_
  refine lv_iconst (v := nI 1) hx hb d_PL_gapOfMiddles_24 (by decide) ?_
  refine zr_V (ci := 6) (q0 := 0) (As := [.int (nI v), .int (nI 1)]) (rest := [.int (nI (X1 u + E1 u)), .int (nI ((X0 u + E0 u) - (X0 v + E0 v) + ((X0 v + E0 v) - (X0 u + E0 u))))]) (n := 2) ⟨hx, hb, hml, hown, hts⟩ (c_PL_middleOf_1 l D pl o1 o2 tu st en ex bl x0 x1 e0 e1 cA c2 X1 E1 v h2) ⟨km_PL_107, ki_PL_middleOf, ks_PL_middleOf, kn_PL, kd_PL_middleOf⟩ (by decide +kernel) (by decide) ⟨Nat.zero_le _, Nat.zero_le _⟩ hK hP [0, 1, 3, 4, 6] rfl [0, 1] rfl rfl rfl rfl hl.1 rfl (Nat.le_of_ble_eq_true rfl) d_PL_gapOfMiddles_25 ?_
  refine lv_isub hx hb d_PL_gapOfMiddles_28 ?_
  refine z_abs (x := (X1 u + E1 u)) (y := (X1 v + E1 v)) ⟨hx, hb, hml, hown, hts⟩ hl.1 km_PL_110 (Nat.le_of_ble_eq_true rfl) (Nat.le_of_ble_eq_true rfl) ⟨Nat.zero_le _, Nat.zero_le _⟩ g3 g4 d_PL_gapOfMiddles_29 ?_
  refine z_add hx hb d_PL_gapOfMiddles_32 ?_
  refine lv_toi (z := (nI (dd (X0 u + E0 u) (X0 v + E0 v) + dd (X1 u + E1 u) (X1 v + E1 v)))) rfl ?_
  exact W.iret hx hb hr (fun t ht hW => ⟨rfl, ht⟩) (fun q h => by cases h) d_PL_gapOfMiddles_33
set_option maxHeartbeats 4000000 in
set_option maxRecDepth 100000 in
/-- Plan.gapOfSide(bk, 0, ot) -/
theorem c_PL_gapOfSide_0 (l : Launch) (D : va_G) (pl o1 o2 tu st en ex bl x0 x1 e0 e1 : Nat) (cA c2 : ClassId) (X0 X1 E0 E1 : Nat → Nat) (bk ot : Nat) (h1 : bk < 16) (h2 : ot < 16) (g0 : 2 * X0 bk < 2 ^ 30) (g1 : X0 bk + E0 bk < 2 ^ 30) (g2 : X0 ot + E0 ot < 2 ^ 30) (g3 : X1 bk + E1 bk < 2 ^ 30) (g4 : X1 ot + E1 ot < 2 ^ 30) : Met l y_PL_gapOfSide (wsA y_PL_gapOfSide b_PL_gapOfSide 7 (some .int)) ({ frames := 1, cells := 0, slots := 0, locals := 30 } : Room) (zR D [(cA, .int), (c2, .array .int)] [(pl, .inr (6, [.ref bl, .ref o1, .ref o2, .ref tu, .ref st, .ref en, .ref ex])), (st, .inl (c2, 2, .inr (.inr (.inr (.inr (pr2 x0 x1)))))), (x0, .inl (cA, 16, .inl (fun k => nI (X0 k)))), (x1, .inl (cA, 16, .inl (fun k => nI (X1 k)))), (en, .inl (c2, 2, .inr (.inr (.inr (.inr (pr2 e0 e1)))))), (e0, .inl (cA, 16, .inl (fun k => nI (E0 k)))), (e1, .inl (cA, 16, .inl (fun k => nI (E1 k))))] [.ref pl, .int (nI bk), .int (nI 0), .int (nI ot)]) (k2_QcV (.int (nI (dd (2 * X0 bk) (X0 ot + E0 ot) + dd (X1 bk + E1 bk) (X1 ot + E1 ot))))) 0 0 (fun _ => False) := by
  refine Met.ofW (cc := b_PL_gapOfSide) (maxL := 7) (ret := (some .int)) (by decide) rfl ?_
  intro p e s m args below meth c s₁ B hml hv
  obtain ⟨rfl, hP, hK⟩ := hv
  have hx := B.exec
  have hb := B.bytes
  have hr := B.returns
  have hts : ∀ w ∈ lw_g, w.before _ s = true := fun w h => atoms_spec (ws := wsA y_PL_gapOfSide b_PL_gapOfSide 7 (some .int)) B.pre w (List.mem_cons_of_mem _ h)
  have hown : s.vm.findClass R_PL = some m.cls := findClass_of_methodNamed B.named
  have hlocks := B.notSynchronized
  have hl := lv_entry ([.ref pl, .int (nI bk), .int (nI 0), .int (nI ot)]) (n := 7) (Nat.le_of_ble_eq_true rfl)
  rw [lg_entry_eq]
  generalize (lg_sl ([.ref pl, .int (nI bk), .int (nI 0), .int (nI ot)]) ++ List.replicate (7 - (lg_sl ([.ref pl, .int (nI bk), .int (nI 0), .int (nI ot)])).length) Slot.unset).toArray = ls at hl ⊢
  have hl : lv_has ls 7 [(0, .ref pl), (1, .int (nI bk)), (2, .int (nI 0)), (3, .int (nI ot))] := hl
  have hP : va_P D classes [(pl, .inr (6, [.ref bl, .ref o1, .ref o2, .ref tu, .ref st, .ref en, .ref ex])), (st, .inl (c2, 2, .inr (.inr (.inr (.inr (pr2 x0 x1)))))), (x0, .inl (cA, 16, .inl (fun k => nI (X0 k)))), (x1, .inl (cA, 16, .inl (fun k => nI (X1 k)))), (en, .inl (c2, 2, .inr (.inr (.inr (.inr (pr2 e0 e1)))))), (e0, .inl (cA, 16, .inl (fun k => nI (E0 k)))), (e1, .inl (cA, 16, .inl (fun k => nI (E1 k))))] s.heap := hP
  refine lv_iload_n hx hb d_PL_gapOfSide_0 rfl (lv_at hl 2 rfl) ?_
  refine lv_iconst (v := nI 2) hx hb d_PL_gapOfSide_1 (by decide) ?_
  refine z_cge (tgt := 9) hx hb d_PL_gapOfSide_2 (by decide) (by omega) (by omega) (fun h => absurd h (by omega)) (fun _ => ?_)
  refine lv_iconst (v := nI 0) hx hb d_PL_gapOfSide_5 (by decide) ?_
  refine lv_goto (tgt := 10) hx hb d_PL_gapOfSide_6 (by decide) ?_
  refine lv_istore (lv' := [(4, .int (nI 0)), (0, .ref pl), (1, .int (nI bk)), (2, .int (nI 0)), (3, .int (nI ot))]) hx hb d_PL_gapOfSide_10 hl (by decide) rfl (fun ls hl => ?_)
  refine lv_iload_n hx hb d_PL_gapOfSide_12 rfl (lv_at hl 3 rfl) ?_
  refine lv_if_eq (tgt := 21) hx hb d_PL_gapOfSide_13 (by decide) (fun _ => ?_) (fun h => absurd h (by decide))
  refine lv_iconst (v := zb true) hx hb d_PL_gapOfSide_21 (by decide) ?_
  refine lv_goto (tgt := 26) hx hb d_PL_gapOfSide_22 (by decide) ?_
  refine lv_istore (lv' := [(5, .int (zb true)), (4, .int (nI 0)), (0, .ref pl), (1, .int (nI bk)), (2, .int (nI 0)), (3, .int (nI ot))]) hx hb d_PL_gapOfSide_26 hl (by decide) rfl (fun ls hl => ?_)
  refine lv_iconst (v := nI 2) hx hb d_PL_gapOfSide_28 (by decide) ?_
  refine lv_iload hx hb d_PL_gapOfSide_29 (lv_at hl 0 rfl) ?_
  refine z_zeq (tgt := 46) hx hb d_PL_gapOfSide_31 (by decide) (fun h => absurd h (by decide)) (fun _ => ?_)
  refine lv_aload_n hx hb d_PL_gapOfSide_34 rfl (lv_at hl 2 rfl) ?_
  refine va_get (D := D) (ci := 6) (v := .ref st) (C := R_PL) (T := F_PL) (N := 7) hx hb hts i_PL hown hK hP 0 rfl rfl 4 (by decide) (hts _ kf_PL_31) (fun _ h9 => h9) rfl d_PL_gapOfSide_35 ?_
  refine lv_iload hx hb d_PL_gapOfSide_38 (lv_at hl 1 rfl) ?_
  refine z_a2ld (j := 0) (r := x0) hx hb hK hP 1 1 rfl rfl (by omega) (by decide) rfl d_PL_gapOfSide_40 ?_
  refine lv_iload_n hx hb d_PL_gapOfSide_41 rfl (lv_at hl 3 rfl) ?_
  refine z_ild (j := bk) hx hb hK hP 2 0 rfl rfl (by omega) (by decide) d_PL_gapOfSide_42 ?_
  refine lv_goto (tgt := 55) hx hb d_PL_gapOfSide_43 (by decide) ?_
  refine z_mul hx hb d_PL_gapOfSide_55 ?_
  refine lv_istore (lv' := [(6, .int (nI (2 * (X0 bk)))), (5, .int (zb true)), (4, .int (nI 0)), (0, .ref pl), (1, .int (nI bk)), (2, .int (nI 0)), (3, .int (nI ot))]) hx hb d_PL_gapOfSide_56 hl (by decide) rfl (fun ls hl => ?_)
  refine lv_iload hx hb d_PL_gapOfSide_58 (lv_at hl 0 rfl) ?_
  refine lv_aload_n hx hb d_PL_gapOfSide_60 rfl (lv_at hl 3 rfl) ?_
  refine lv_iload_n hx hb d_PL_gapOfSide_61 rfl (lv_at hl 6 rfl) ?_
  refine lv_iload hx hb d_PL_gapOfSide_62 (lv_at hl 2 rfl) ?_
  refine zr_V (ci := 6) (q0 := 0) (As := [.int (nI ot), .int (nI 0)]) (rest := [.int (nI (2 * (X0 bk)))]) (n := 2) ⟨hx, hb, hml, hown, hts⟩ (c_PL_middleOf_0 l D pl o1 o2 tu st en ex bl x0 x1 e0 e1 cA c2 X0 E0 ot h2) ⟨km_PL_107, ki_PL_middleOf, ks_PL_middleOf, kn_PL, kd_PL_middleOf⟩ (by decide +kernel) (by decide) ⟨Nat.zero_le _, Nat.zero_le _⟩ hK hP [0, 1, 2, 4, 5] rfl [0, 1] rfl rfl rfl rfl hl.1 rfl (Nat.le_of_ble_eq_true rfl) d_PL_gapOfSide_64 ?_
  refine lv_isub hx hb d_PL_gapOfSide_67 ?_
  refine z_abs (x := (2 * (X0 bk))) (y := (X0 ot + E0 ot)) ⟨hx, hb, hml, hown, hts⟩ hl.1 km_PL_110 (Nat.le_of_ble_eq_true rfl) (Nat.le_of_ble_eq_true rfl) ⟨Nat.zero_le _, Nat.zero_le _⟩ g0 g2 d_PL_gapOfSide_68 ?_
  refine lv_aload_n hx hb d_PL_gapOfSide_71 rfl (lv_at hl 3 rfl) ?_
  refine lv_iload_n hx hb d_PL_gapOfSide_72 rfl (lv_at hl 4 rfl) ?_
  refine lv_iconst (v := nI 1) hx hb d_PL_gapOfSide_73 (by decide) ?_
  refine lv_iload hx hb d_PL_gapOfSide_74 (lv_at hl 2 rfl) ?_
  refine z_sub hx hb d_PL_gapOfSide_76 (by omega) ?_
  refine lv_toi (z := nI 1) (congrArg nI (by omega)) ?_
  refine zr_V (ci := 6) (q0 := 0) (As := [.int (nI bk), .int (nI 1)]) (rest := [.int (nI ((2 * (X0 bk)) - (X0 ot + E0 ot) + ((X0 ot + E0 ot) - (2 * (X0 bk)))))]) (n := 2) ⟨hx, hb, hml, hown, hts⟩ (c_PL_middleOf_1 l D pl o1 o2 tu st en ex bl x0 x1 e0 e1 cA c2 X1 E1 bk h1) ⟨km_PL_107, ki_PL_middleOf, ks_PL_middleOf, kn_PL, kd_PL_middleOf⟩ (by decide +kernel) (by decide) ⟨Nat.zero_le _, Nat.zero_le _⟩ hK hP [0, 1, 3, 4, 6] rfl [0, 1] rfl rfl rfl rfl hl.1 rfl (Nat.le_of_ble_eq_true rfl) d_PL_gapOfSide_77 ?_
  refine lv_aload_n hx hb d_PL_gapOfSide_80 rfl (lv_at hl 3 rfl) ?_
  refine lv_iload_n hx hb d_PL_gapOfSide_81 rfl (lv_at hl 6 rfl) ?_
  refine lv_iconst (v := nI 1) hx hb d_PL_gapOfSide_82 (by decide) ?_
  refine lv_iload hx hb d_PL_gapOfSide_83 (lv_at hl 2 rfl) ?_
  refine z_sub hx hb d_PL_gapOfSide_85 (by omega) ?_
  refine lv_toi (z := nI 1) (congrArg nI (by omega)) ?_
  refine zr_V (ci := 6) (q0 := 0) (As := [.int (nI ot), .int (nI 1)]) (rest := [.int (nI (X1 bk + E1 bk)), .int (nI ((2 * (X0 bk)) - (X0 ot + E0 ot) + ((X0 ot + E0 ot) - (2 * (X0 bk)))))]) (n := 2) ⟨hx, hb, hml, hown, hts⟩ (c_PL_middleOf_1 l D pl o1 o2 tu st en ex bl x0 x1 e0 e1 cA c2 X1 E1 ot h2) ⟨km_PL_107, ki_PL_middleOf, ks_PL_middleOf, kn_PL, kd_PL_middleOf⟩ (by decide +kernel) (by decide) ⟨Nat.zero_le _, Nat.zero_le _⟩ hK hP [0, 1, 3, 4, 6] rfl [0, 1] rfl rfl rfl rfl hl.1 rfl (Nat.le_of_ble_eq_true rfl) d_PL_gapOfSide_86 ?_
  refine lv_isub hx hb d_PL_gapOfSide_89 ?_
  refine z_abs (x := (X1 bk + E1 bk)) (y := (X1 ot + E1 ot)) ⟨hx, hb, hml, hown, hts⟩ hl.1 km_PL_110 (Nat.le_of_ble_eq_true rfl) (Nat.le_of_ble_eq_true rfl) ⟨Nat.zero_le _, Nat.zero_le _⟩ g3 g4 d_PL_gapOfSide_90 ?_
  refine z_add hx hb d_PL_gapOfSide_93 ?_
  refine lv_toi (z := (nI (dd (2 * X0 bk) (X0 ot + E0 ot) + dd (X1 bk + E1 bk) (X1 ot + E1 ot)))) rfl ?_
  exact W.iret hx hb hr (fun t ht hW => ⟨rfl, ht⟩) (fun q h => by cases h) d_PL_gapOfSide_94
set_option maxHeartbeats 4000000 in
set_option maxRecDepth 100000 in
/-- Plan.gapOfSide(bk, 1, ot) -/
theorem c_PL_gapOfSide_1 (l : Launch) (D : va_G) (pl o1 o2 tu st en ex bl x0 x1 e0 e1 : Nat) (cA c2 : ClassId) (X0 X1 E0 E1 : Nat → Nat) (bk ot : Nat) (h1 : bk < 16) (h2 : ot < 16) (g0 : 2 * E0 bk < 2 ^ 30) (g1 : X0 bk + E0 bk < 2 ^ 30) (g2 : X0 ot + E0 ot < 2 ^ 30) (g3 : X1 bk + E1 bk < 2 ^ 30) (g4 : X1 ot + E1 ot < 2 ^ 30) : Met l y_PL_gapOfSide (wsA y_PL_gapOfSide b_PL_gapOfSide 7 (some .int)) ({ frames := 1, cells := 0, slots := 0, locals := 30 } : Room) (zR D [(cA, .int), (c2, .array .int)] [(pl, .inr (6, [.ref bl, .ref o1, .ref o2, .ref tu, .ref st, .ref en, .ref ex])), (st, .inl (c2, 2, .inr (.inr (.inr (.inr (pr2 x0 x1)))))), (x0, .inl (cA, 16, .inl (fun k => nI (X0 k)))), (x1, .inl (cA, 16, .inl (fun k => nI (X1 k)))), (en, .inl (c2, 2, .inr (.inr (.inr (.inr (pr2 e0 e1)))))), (e0, .inl (cA, 16, .inl (fun k => nI (E0 k)))), (e1, .inl (cA, 16, .inl (fun k => nI (E1 k))))] [.ref pl, .int (nI bk), .int (nI 1), .int (nI ot)]) (k2_QcV (.int (nI (dd (2 * E0 bk) (X0 ot + E0 ot) + dd (X1 bk + E1 bk) (X1 ot + E1 ot))))) 0 0 (fun _ => False) := by
  refine Met.ofW (cc := b_PL_gapOfSide) (maxL := 7) (ret := (some .int)) (by decide) rfl ?_
  intro p e s m args below meth c s₁ B hml hv
  obtain ⟨rfl, hP, hK⟩ := hv
  have hx := B.exec
  have hb := B.bytes
  have hr := B.returns
  have hts : ∀ w ∈ lw_g, w.before _ s = true := fun w h => atoms_spec (ws := wsA y_PL_gapOfSide b_PL_gapOfSide 7 (some .int)) B.pre w (List.mem_cons_of_mem _ h)
  have hown : s.vm.findClass R_PL = some m.cls := findClass_of_methodNamed B.named
  have hlocks := B.notSynchronized
  have hl := lv_entry ([.ref pl, .int (nI bk), .int (nI 1), .int (nI ot)]) (n := 7) (Nat.le_of_ble_eq_true rfl)
  rw [lg_entry_eq]
  generalize (lg_sl ([.ref pl, .int (nI bk), .int (nI 1), .int (nI ot)]) ++ List.replicate (7 - (lg_sl ([.ref pl, .int (nI bk), .int (nI 1), .int (nI ot)])).length) Slot.unset).toArray = ls at hl ⊢
  have hl : lv_has ls 7 [(0, .ref pl), (1, .int (nI bk)), (2, .int (nI 1)), (3, .int (nI ot))] := hl
  have hP : va_P D classes [(pl, .inr (6, [.ref bl, .ref o1, .ref o2, .ref tu, .ref st, .ref en, .ref ex])), (st, .inl (c2, 2, .inr (.inr (.inr (.inr (pr2 x0 x1)))))), (x0, .inl (cA, 16, .inl (fun k => nI (X0 k)))), (x1, .inl (cA, 16, .inl (fun k => nI (X1 k)))), (en, .inl (c2, 2, .inr (.inr (.inr (.inr (pr2 e0 e1)))))), (e0, .inl (cA, 16, .inl (fun k => nI (E0 k)))), (e1, .inl (cA, 16, .inl (fun k => nI (E1 k))))] s.heap := hP
  refine lv_iload_n hx hb d_PL_gapOfSide_0 rfl (lv_at hl 2 rfl) ?_
  refine lv_iconst (v := nI 2) hx hb d_PL_gapOfSide_1 (by decide) ?_
  refine z_cge (tgt := 9) hx hb d_PL_gapOfSide_2 (by decide) (by omega) (by omega) (fun h => absurd h (by omega)) (fun _ => ?_)
  refine lv_iconst (v := nI 0) hx hb d_PL_gapOfSide_5 (by decide) ?_
  refine lv_goto (tgt := 10) hx hb d_PL_gapOfSide_6 (by decide) ?_
  refine lv_istore (lv' := [(4, .int (nI 0)), (0, .ref pl), (1, .int (nI bk)), (2, .int (nI 1)), (3, .int (nI ot))]) hx hb d_PL_gapOfSide_10 hl (by decide) rfl (fun ls hl => ?_)
  refine lv_iload_n hx hb d_PL_gapOfSide_12 rfl (lv_at hl 3 rfl) ?_
  refine lv_if_eq (tgt := 21) hx hb d_PL_gapOfSide_13 (by decide) (fun h => absurd h (by decide)) (fun _ => ?_)
  refine lv_iload_n hx hb d_PL_gapOfSide_16 rfl (lv_at hl 3 rfl) ?_
  refine lv_iconst (v := nI 2) hx hb d_PL_gapOfSide_17 (by decide) ?_
  refine z_cne (tgt := 25) hx hb d_PL_gapOfSide_18 (by decide) (by omega) (by omega) (fun _ => ?_) (fun h => absurd h (by omega))
  refine lv_iconst (v := zb false) hx hb d_PL_gapOfSide_25 (by decide) ?_
  refine lv_istore (lv' := [(5, .int (zb false)), (4, .int (nI 0)), (0, .ref pl), (1, .int (nI bk)), (2, .int (nI 1)), (3, .int (nI ot))]) hx hb d_PL_gapOfSide_26 hl (by decide) rfl (fun ls hl => ?_)
  refine lv_iconst (v := nI 2) hx hb d_PL_gapOfSide_28 (by decide) ?_
  refine lv_iload hx hb d_PL_gapOfSide_29 (lv_at hl 0 rfl) ?_
  refine z_zeq (tgt := 46) hx hb d_PL_gapOfSide_31 (by decide) (fun _ => ?_) (fun h => absurd h (by decide))
  refine lv_aload_n hx hb d_PL_gapOfSide_46 rfl (lv_at hl 2 rfl) ?_
  refine va_get (D := D) (ci := 6) (v := .ref en) (C := R_PL) (T := F_PL) (N := 7) hx hb hts i_PL hown hK hP 0 rfl rfl 5 (by decide) (hts _ kf_PL_34) (fun _ h9 => h9) rfl d_PL_gapOfSide_47 ?_
  refine lv_iload hx hb d_PL_gapOfSide_50 (lv_at hl 1 rfl) ?_
  refine z_a2ld (j := 0) (r := e0) hx hb hK hP 4 1 rfl rfl (by omega) (by decide) rfl d_PL_gapOfSide_52 ?_
  refine lv_iload_n hx hb d_PL_gapOfSide_53 rfl (lv_at hl 3 rfl) ?_
  refine z_ild (j := bk) hx hb hK hP 5 0 rfl rfl (by omega) (by decide) d_PL_gapOfSide_54 ?_
  refine z_mul hx hb d_PL_gapOfSide_55 ?_
  refine lv_istore (lv' := [(6, .int (nI (2 * (E0 bk)))), (5, .int (zb false)), (4, .int (nI 0)), (0, .ref pl), (1, .int (nI bk)), (2, .int (nI 1)), (3, .int (nI ot))]) hx hb d_PL_gapOfSide_56 hl (by decide) rfl (fun ls hl => ?_)
  refine lv_iload hx hb d_PL_gapOfSide_58 (lv_at hl 0 rfl) ?_
  refine lv_aload_n hx hb d_PL_gapOfSide_60 rfl (lv_at hl 3 rfl) ?_
  refine lv_iload_n hx hb d_PL_gapOfSide_61 rfl (lv_at hl 6 rfl) ?_
  refine lv_iload hx hb d_PL_gapOfSide_62 (lv_at hl 2 rfl) ?_
  refine zr_V (ci := 6) (q0 := 0) (As := [.int (nI ot), .int (nI 0)]) (rest := [.int (nI (2 * (E0 bk)))]) (n := 2) ⟨hx, hb, hml, hown, hts⟩ (c_PL_middleOf_0 l D pl o1 o2 tu st en ex bl x0 x1 e0 e1 cA c2 X0 E0 ot h2) ⟨km_PL_107, ki_PL_middleOf, ks_PL_middleOf, kn_PL, kd_PL_middleOf⟩ (by decide +kernel) (by decide) ⟨Nat.zero_le _, Nat.zero_le _⟩ hK hP [0, 1, 2, 4, 5] rfl [0, 1] rfl rfl rfl rfl hl.1 rfl (Nat.le_of_ble_eq_true rfl) d_PL_gapOfSide_64 ?_
  refine lv_isub hx hb d_PL_gapOfSide_67 ?_
  refine z_abs (x := (2 * (E0 bk))) (y := (X0 ot + E0 ot)) ⟨hx, hb, hml, hown, hts⟩ hl.1 km_PL_110 (Nat.le_of_ble_eq_true rfl) (Nat.le_of_ble_eq_true rfl) ⟨Nat.zero_le _, Nat.zero_le _⟩ g0 g2 d_PL_gapOfSide_68 ?_
  refine lv_aload_n hx hb d_PL_gapOfSide_71 rfl (lv_at hl 3 rfl) ?_
  refine lv_iload_n hx hb d_PL_gapOfSide_72 rfl (lv_at hl 4 rfl) ?_
  refine lv_iconst (v := nI 1) hx hb d_PL_gapOfSide_73 (by decide) ?_
  refine lv_iload hx hb d_PL_gapOfSide_74 (lv_at hl 2 rfl) ?_
  refine z_sub hx hb d_PL_gapOfSide_76 (by omega) ?_
  refine lv_toi (z := nI 1) (congrArg nI (by omega)) ?_
  refine zr_V (ci := 6) (q0 := 0) (As := [.int (nI bk), .int (nI 1)]) (rest := [.int (nI ((2 * (E0 bk)) - (X0 ot + E0 ot) + ((X0 ot + E0 ot) - (2 * (E0 bk)))))]) (n := 2) ⟨hx, hb, hml, hown, hts⟩ (c_PL_middleOf_1 l D pl o1 o2 tu st en ex bl x0 x1 e0 e1 cA c2 X1 E1 bk h1) ⟨km_PL_107, ki_PL_middleOf, ks_PL_middleOf, kn_PL, kd_PL_middleOf⟩ (by decide +kernel) (by decide) ⟨Nat.zero_le _, Nat.zero_le _⟩ hK hP [0, 1, 3, 4, 6] rfl [0, 1] rfl rfl rfl rfl hl.1 rfl (Nat.le_of_ble_eq_true rfl) d_PL_gapOfSide_77 ?_
  refine lv_aload_n hx hb d_PL_gapOfSide_80 rfl (lv_at hl 3 rfl) ?_
  refine lv_iload_n hx hb d_PL_gapOfSide_81 rfl (lv_at hl 6 rfl) ?_
  refine lv_iconst (v := nI 1) hx hb d_PL_gapOfSide_82 (by decide) ?_
  refine lv_iload hx hb d_PL_gapOfSide_83 (lv_at hl 2 rfl) ?_
  refine z_sub hx hb d_PL_gapOfSide_85 (by omega) ?_
  refine lv_toi (z := nI 1) (congrArg nI (by omega)) ?_
  refine zr_V (ci := 6) (q0 := 0) (As := [.int (nI ot), .int (nI 1)]) (rest := [.int (nI (X1 bk + E1 bk)), .int (nI ((2 * (E0 bk)) - (X0 ot + E0 ot) + ((X0 ot + E0 ot) - (2 * (E0 bk)))))]) (n := 2) ⟨hx, hb, hml, hown, hts⟩ (c_PL_middleOf_1 l D pl o1 o2 tu st en ex bl x0 x1 e0 e1 cA c2 X1 E1 ot h2) ⟨km_PL_107, ki_PL_middleOf, ks_PL_middleOf, kn_PL, kd_PL_middleOf⟩ (by decide +kernel) (by decide) ⟨Nat.zero_le _, Nat.zero_le _⟩ hK hP [0, 1, 3, 4, 6] rfl [0, 1] rfl rfl rfl rfl hl.1 rfl (Nat.le_of_ble_eq_true rfl) d_PL_gapOfSide_86 ?_
  refine lv_isub hx hb d_PL_gapOfSide_89 ?_
  refine z_abs (x := (X1 bk + E1 bk)) (y := (X1 ot + E1 ot)) ⟨hx, hb, hml, hown, hts⟩ hl.1 km_PL_110 (Nat.le_of_ble_eq_true rfl) (Nat.le_of_ble_eq_true rfl) ⟨Nat.zero_le _, Nat.zero_le _⟩ g3 g4 d_PL_gapOfSide_90 ?_
  refine z_add hx hb d_PL_gapOfSide_93 ?_
  refine lv_toi (z := (nI (dd (2 * E0 bk) (X0 ot + E0 ot) + dd (X1 bk + E1 bk) (X1 ot + E1 ot)))) rfl ?_
  exact W.iret hx hb hr (fun t ht hW => ⟨rfl, ht⟩) (fun q h => by cases h) d_PL_gapOfSide_94
set_option maxHeartbeats 4000000 in
set_option maxRecDepth 100000 in
/-- Plan.gapOfSide(bk, 2, ot) -/
theorem c_PL_gapOfSide_2 (l : Launch) (D : va_G) (pl o1 o2 tu st en ex bl x0 x1 e0 e1 : Nat) (cA c2 : ClassId) (X0 X1 E0 E1 : Nat → Nat) (bk ot : Nat) (h1 : bk < 16) (h2 : ot < 16) (g0 : 2 * X1 bk < 2 ^ 30) (g1 : X0 bk + E0 bk < 2 ^ 30) (g2 : X0 ot + E0 ot < 2 ^ 30) (g3 : X1 bk + E1 bk < 2 ^ 30) (g4 : X1 ot + E1 ot < 2 ^ 30) : Met l y_PL_gapOfSide (wsA y_PL_gapOfSide b_PL_gapOfSide 7 (some .int)) ({ frames := 1, cells := 0, slots := 0, locals := 30 } : Room) (zR D [(cA, .int), (c2, .array .int)] [(pl, .inr (6, [.ref bl, .ref o1, .ref o2, .ref tu, .ref st, .ref en, .ref ex])), (st, .inl (c2, 2, .inr (.inr (.inr (.inr (pr2 x0 x1)))))), (x0, .inl (cA, 16, .inl (fun k => nI (X0 k)))), (x1, .inl (cA, 16, .inl (fun k => nI (X1 k)))), (en, .inl (c2, 2, .inr (.inr (.inr (.inr (pr2 e0 e1)))))), (e0, .inl (cA, 16, .inl (fun k => nI (E0 k)))), (e1, .inl (cA, 16, .inl (fun k => nI (E1 k))))] [.ref pl, .int (nI bk), .int (nI 2), .int (nI ot)]) (k2_QcV (.int (nI (dd (2 * X1 bk) (X1 ot + E1 ot) + dd (X0 bk + E0 bk) (X0 ot + E0 ot))))) 0 0 (fun _ => False) := by
  refine Met.ofW (cc := b_PL_gapOfSide) (maxL := 7) (ret := (some .int)) (by decide) rfl ?_
  intro p e s m args below meth c s₁ B hml hv
  obtain ⟨rfl, hP, hK⟩ := hv
  have hx := B.exec
  have hb := B.bytes
  have hr := B.returns
  have hts : ∀ w ∈ lw_g, w.before _ s = true := fun w h => atoms_spec (ws := wsA y_PL_gapOfSide b_PL_gapOfSide 7 (some .int)) B.pre w (List.mem_cons_of_mem _ h)
  have hown : s.vm.findClass R_PL = some m.cls := findClass_of_methodNamed B.named
  have hlocks := B.notSynchronized
  have hl := lv_entry ([.ref pl, .int (nI bk), .int (nI 2), .int (nI ot)]) (n := 7) (Nat.le_of_ble_eq_true rfl)
  rw [lg_entry_eq]
  generalize (lg_sl ([.ref pl, .int (nI bk), .int (nI 2), .int (nI ot)]) ++ List.replicate (7 - (lg_sl ([.ref pl, .int (nI bk), .int (nI 2), .int (nI ot)])).length) Slot.unset).toArray = ls at hl ⊢
  have hl : lv_has ls 7 [(0, .ref pl), (1, .int (nI bk)), (2, .int (nI 2)), (3, .int (nI ot))] := hl
  have hP : va_P D classes [(pl, .inr (6, [.ref bl, .ref o1, .ref o2, .ref tu, .ref st, .ref en, .ref ex])), (st, .inl (c2, 2, .inr (.inr (.inr (.inr (pr2 x0 x1)))))), (x0, .inl (cA, 16, .inl (fun k => nI (X0 k)))), (x1, .inl (cA, 16, .inl (fun k => nI (X1 k)))), (en, .inl (c2, 2, .inr (.inr (.inr (.inr (pr2 e0 e1)))))), (e0, .inl (cA, 16, .inl (fun k => nI (E0 k)))), (e1, .inl (cA, 16, .inl (fun k => nI (E1 k))))] s.heap := hP
  refine lv_iload_n hx hb d_PL_gapOfSide_0 rfl (lv_at hl 2 rfl) ?_
  refine lv_iconst (v := nI 2) hx hb d_PL_gapOfSide_1 (by decide) ?_
  refine z_cge (tgt := 9) hx hb d_PL_gapOfSide_2 (by decide) (by omega) (by omega) (fun _ => ?_) (fun h => absurd h (by omega))
  refine lv_iconst (v := nI 1) hx hb d_PL_gapOfSide_9 (by decide) ?_
  refine lv_istore (lv' := [(4, .int (nI 1)), (0, .ref pl), (1, .int (nI bk)), (2, .int (nI 2)), (3, .int (nI ot))]) hx hb d_PL_gapOfSide_10 hl (by decide) rfl (fun ls hl => ?_)
  refine lv_iload_n hx hb d_PL_gapOfSide_12 rfl (lv_at hl 3 rfl) ?_
  refine lv_if_eq (tgt := 21) hx hb d_PL_gapOfSide_13 (by decide) (fun h => absurd h (by decide)) (fun _ => ?_)
  refine lv_iload_n hx hb d_PL_gapOfSide_16 rfl (lv_at hl 3 rfl) ?_
  refine lv_iconst (v := nI 2) hx hb d_PL_gapOfSide_17 (by decide) ?_
  refine z_cne (tgt := 25) hx hb d_PL_gapOfSide_18 (by decide) (by omega) (by omega) (fun h => absurd h (by omega)) (fun _ => ?_)
  refine lv_iconst (v := zb true) hx hb d_PL_gapOfSide_21 (by decide) ?_
  refine lv_goto (tgt := 26) hx hb d_PL_gapOfSide_22 (by decide) ?_
  refine lv_istore (lv' := [(5, .int (zb true)), (4, .int (nI 1)), (0, .ref pl), (1, .int (nI bk)), (2, .int (nI 2)), (3, .int (nI ot))]) hx hb d_PL_gapOfSide_26 hl (by decide) rfl (fun ls hl => ?_)
  refine lv_iconst (v := nI 2) hx hb d_PL_gapOfSide_28 (by decide) ?_
  refine lv_iload hx hb d_PL_gapOfSide_29 (lv_at hl 0 rfl) ?_
  refine z_zeq (tgt := 46) hx hb d_PL_gapOfSide_31 (by decide) (fun h => absurd h (by decide)) (fun _ => ?_)
  refine lv_aload_n hx hb d_PL_gapOfSide_34 rfl (lv_at hl 2 rfl) ?_
  refine va_get (D := D) (ci := 6) (v := .ref st) (C := R_PL) (T := F_PL) (N := 7) hx hb hts i_PL hown hK hP 0 rfl rfl 4 (by decide) (hts _ kf_PL_31) (fun _ h9 => h9) rfl d_PL_gapOfSide_35 ?_
  refine lv_iload hx hb d_PL_gapOfSide_38 (lv_at hl 1 rfl) ?_
  refine z_a2ld (j := 1) (r := x1) hx hb hK hP 1 1 rfl rfl (by omega) (by decide) rfl d_PL_gapOfSide_40 ?_
  refine lv_iload_n hx hb d_PL_gapOfSide_41 rfl (lv_at hl 3 rfl) ?_
  refine z_ild (j := bk) hx hb hK hP 3 0 rfl rfl (by omega) (by decide) d_PL_gapOfSide_42 ?_
  refine lv_goto (tgt := 55) hx hb d_PL_gapOfSide_43 (by decide) ?_
  refine z_mul hx hb d_PL_gapOfSide_55 ?_
  refine lv_istore (lv' := [(6, .int (nI (2 * (X1 bk)))), (5, .int (zb true)), (4, .int (nI 1)), (0, .ref pl), (1, .int (nI bk)), (2, .int (nI 2)), (3, .int (nI ot))]) hx hb d_PL_gapOfSide_56 hl (by decide) rfl (fun ls hl => ?_)
  refine lv_iload hx hb d_PL_gapOfSide_58 (lv_at hl 0 rfl) ?_
  refine lv_aload_n hx hb d_PL_gapOfSide_60 rfl (lv_at hl 3 rfl) ?_
  refine lv_iload_n hx hb d_PL_gapOfSide_61 rfl (lv_at hl 6 rfl) ?_
  refine lv_iload hx hb d_PL_gapOfSide_62 (lv_at hl 2 rfl) ?_
  refine zr_V (ci := 6) (q0 := 0) (As := [.int (nI ot), .int (nI 1)]) (rest := [.int (nI (2 * (X1 bk)))]) (n := 2) ⟨hx, hb, hml, hown, hts⟩ (c_PL_middleOf_1 l D pl o1 o2 tu st en ex bl x0 x1 e0 e1 cA c2 X1 E1 ot h2) ⟨km_PL_107, ki_PL_middleOf, ks_PL_middleOf, kn_PL, kd_PL_middleOf⟩ (by decide +kernel) (by decide) ⟨Nat.zero_le _, Nat.zero_le _⟩ hK hP [0, 1, 3, 4, 6] rfl [0, 1] rfl rfl rfl rfl hl.1 rfl (Nat.le_of_ble_eq_true rfl) d_PL_gapOfSide_64 ?_
  refine lv_isub hx hb d_PL_gapOfSide_67 ?_
  refine z_abs (x := (2 * (X1 bk))) (y := (X1 ot + E1 ot)) ⟨hx, hb, hml, hown, hts⟩ hl.1 km_PL_110 (Nat.le_of_ble_eq_true rfl) (Nat.le_of_ble_eq_true rfl) ⟨Nat.zero_le _, Nat.zero_le _⟩ g0 g4 d_PL_gapOfSide_68 ?_
  refine lv_aload_n hx hb d_PL_gapOfSide_71 rfl (lv_at hl 3 rfl) ?_
  refine lv_iload_n hx hb d_PL_gapOfSide_72 rfl (lv_at hl 4 rfl) ?_
  refine lv_iconst (v := nI 1) hx hb d_PL_gapOfSide_73 (by decide) ?_
  refine lv_iload hx hb d_PL_gapOfSide_74 (lv_at hl 2 rfl) ?_
  refine z_sub hx hb d_PL_gapOfSide_76 (by omega) ?_
  refine lv_toi (z := nI 0) (congrArg nI (by omega)) ?_
  refine zr_V (ci := 6) (q0 := 0) (As := [.int (nI bk), .int (nI 0)]) (rest := [.int (nI ((2 * (X1 bk)) - (X1 ot + E1 ot) + ((X1 ot + E1 ot) - (2 * (X1 bk)))))]) (n := 2) ⟨hx, hb, hml, hown, hts⟩ (c_PL_middleOf_0 l D pl o1 o2 tu st en ex bl x0 x1 e0 e1 cA c2 X0 E0 bk h1) ⟨km_PL_107, ki_PL_middleOf, ks_PL_middleOf, kn_PL, kd_PL_middleOf⟩ (by decide +kernel) (by decide) ⟨Nat.zero_le _, Nat.zero_le _⟩ hK hP [0, 1, 2, 4, 5] rfl [0, 1] rfl rfl rfl rfl hl.1 rfl (Nat.le_of_ble_eq_true rfl) d_PL_gapOfSide_77 ?_
  refine lv_aload_n hx hb d_PL_gapOfSide_80 rfl (lv_at hl 3 rfl) ?_
  refine lv_iload_n hx hb d_PL_gapOfSide_81 rfl (lv_at hl 6 rfl) ?_
  refine lv_iconst (v := nI 1) hx hb d_PL_gapOfSide_82 (by decide) ?_
  refine lv_iload hx hb d_PL_gapOfSide_83 (lv_at hl 2 rfl) ?_
  refine z_sub hx hb d_PL_gapOfSide_85 (by omega) ?_
  refine lv_toi (z := nI 0) (congrArg nI (by omega)) ?_
  refine zr_V (ci := 6) (q0 := 0) (As := [.int (nI ot), .int (nI 0)]) (rest := [.int (nI (X0 bk + E0 bk)), .int (nI ((2 * (X1 bk)) - (X1 ot + E1 ot) + ((X1 ot + E1 ot) - (2 * (X1 bk)))))]) (n := 2) ⟨hx, hb, hml, hown, hts⟩ (c_PL_middleOf_0 l D pl o1 o2 tu st en ex bl x0 x1 e0 e1 cA c2 X0 E0 ot h2) ⟨km_PL_107, ki_PL_middleOf, ks_PL_middleOf, kn_PL, kd_PL_middleOf⟩ (by decide +kernel) (by decide) ⟨Nat.zero_le _, Nat.zero_le _⟩ hK hP [0, 1, 2, 4, 5] rfl [0, 1] rfl rfl rfl rfl hl.1 rfl (Nat.le_of_ble_eq_true rfl) d_PL_gapOfSide_86 ?_
  refine lv_isub hx hb d_PL_gapOfSide_89 ?_
  refine z_abs (x := (X0 bk + E0 bk)) (y := (X0 ot + E0 ot)) ⟨hx, hb, hml, hown, hts⟩ hl.1 km_PL_110 (Nat.le_of_ble_eq_true rfl) (Nat.le_of_ble_eq_true rfl) ⟨Nat.zero_le _, Nat.zero_le _⟩ g1 g2 d_PL_gapOfSide_90 ?_
  refine z_add hx hb d_PL_gapOfSide_93 ?_
  refine lv_toi (z := (nI (dd (2 * X1 bk) (X1 ot + E1 ot) + dd (X0 bk + E0 bk) (X0 ot + E0 ot)))) rfl ?_
  exact W.iret hx hb hr (fun t ht hW => ⟨rfl, ht⟩) (fun q h => by cases h) d_PL_gapOfSide_94
set_option maxHeartbeats 4000000 in
set_option maxRecDepth 100000 in
/-- Plan.gapOfSide(bk, 3, ot) -/
theorem c_PL_gapOfSide_3 (l : Launch) (D : va_G) (pl o1 o2 tu st en ex bl x0 x1 e0 e1 : Nat) (cA c2 : ClassId) (X0 X1 E0 E1 : Nat → Nat) (bk ot : Nat) (h1 : bk < 16) (h2 : ot < 16) (g0 : 2 * E1 bk < 2 ^ 30) (g1 : X0 bk + E0 bk < 2 ^ 30) (g2 : X0 ot + E0 ot < 2 ^ 30) (g3 : X1 bk + E1 bk < 2 ^ 30) (g4 : X1 ot + E1 ot < 2 ^ 30) : Met l y_PL_gapOfSide (wsA y_PL_gapOfSide b_PL_gapOfSide 7 (some .int)) ({ frames := 1, cells := 0, slots := 0, locals := 30 } : Room) (zR D [(cA, .int), (c2, .array .int)] [(pl, .inr (6, [.ref bl, .ref o1, .ref o2, .ref tu, .ref st, .ref en, .ref ex])), (st, .inl (c2, 2, .inr (.inr (.inr (.inr (pr2 x0 x1)))))), (x0, .inl (cA, 16, .inl (fun k => nI (X0 k)))), (x1, .inl (cA, 16, .inl (fun k => nI (X1 k)))), (en, .inl (c2, 2, .inr (.inr (.inr (.inr (pr2 e0 e1)))))), (e0, .inl (cA, 16, .inl (fun k => nI (E0 k)))), (e1, .inl (cA, 16, .inl (fun k => nI (E1 k))))] [.ref pl, .int (nI bk), .int (nI 3), .int (nI ot)]) (k2_QcV (.int (nI (dd (2 * E1 bk) (X1 ot + E1 ot) + dd (X0 bk + E0 bk) (X0 ot + E0 ot))))) 0 0 (fun _ => False) := by
  refine Met.ofW (cc := b_PL_gapOfSide) (maxL := 7) (ret := (some .int)) (by decide) rfl ?_
  intro p e s m args below meth c s₁ B hml hv
  obtain ⟨rfl, hP, hK⟩ := hv
  have hx := B.exec
  have hb := B.bytes
  have hr := B.returns
  have hts : ∀ w ∈ lw_g, w.before _ s = true := fun w h => atoms_spec (ws := wsA y_PL_gapOfSide b_PL_gapOfSide 7 (some .int)) B.pre w (List.mem_cons_of_mem _ h)
  have hown : s.vm.findClass R_PL = some m.cls := findClass_of_methodNamed B.named
  have hlocks := B.notSynchronized
  have hl := lv_entry ([.ref pl, .int (nI bk), .int (nI 3), .int (nI ot)]) (n := 7) (Nat.le_of_ble_eq_true rfl)
  rw [lg_entry_eq]
  generalize (lg_sl ([.ref pl, .int (nI bk), .int (nI 3), .int (nI ot)]) ++ List.replicate (7 - (lg_sl ([.ref pl, .int (nI bk), .int (nI 3), .int (nI ot)])).length) Slot.unset).toArray = ls at hl ⊢
  have hl : lv_has ls 7 [(0, .ref pl), (1, .int (nI bk)), (2, .int (nI 3)), (3, .int (nI ot))] := hl
  have hP : va_P D classes [(pl, .inr (6, [.ref bl, .ref o1, .ref o2, .ref tu, .ref st, .ref en, .ref ex])), (st, .inl (c2, 2, .inr (.inr (.inr (.inr (pr2 x0 x1)))))), (x0, .inl (cA, 16, .inl (fun k => nI (X0 k)))), (x1, .inl (cA, 16, .inl (fun k => nI (X1 k)))), (en, .inl (c2, 2, .inr (.inr (.inr (.inr (pr2 e0 e1)))))), (e0, .inl (cA, 16, .inl (fun k => nI (E0 k)))), (e1, .inl (cA, 16, .inl (fun k => nI (E1 k))))] s.heap := hP
  refine lv_iload_n hx hb d_PL_gapOfSide_0 rfl (lv_at hl 2 rfl) ?_
  refine lv_iconst (v := nI 2) hx hb d_PL_gapOfSide_1 (by decide) ?_
  refine z_cge (tgt := 9) hx hb d_PL_gapOfSide_2 (by decide) (by omega) (by omega) (fun _ => ?_) (fun h => absurd h (by omega))
  refine lv_iconst (v := nI 1) hx hb d_PL_gapOfSide_9 (by decide) ?_
  refine lv_istore (lv' := [(4, .int (nI 1)), (0, .ref pl), (1, .int (nI bk)), (2, .int (nI 3)), (3, .int (nI ot))]) hx hb d_PL_gapOfSide_10 hl (by decide) rfl (fun ls hl => ?_)
  refine lv_iload_n hx hb d_PL_gapOfSide_12 rfl (lv_at hl 3 rfl) ?_
  refine lv_if_eq (tgt := 21) hx hb d_PL_gapOfSide_13 (by decide) (fun h => absurd h (by decide)) (fun _ => ?_)
  refine lv_iload_n hx hb d_PL_gapOfSide_16 rfl (lv_at hl 3 rfl) ?_
  refine lv_iconst (v := nI 2) hx hb d_PL_gapOfSide_17 (by decide) ?_
  refine z_cne (tgt := 25) hx hb d_PL_gapOfSide_18 (by decide) (by omega) (by omega) (fun _ => ?_) (fun h => absurd h (by omega))
  refine lv_iconst (v := zb false) hx hb d_PL_gapOfSide_25 (by decide) ?_
  refine lv_istore (lv' := [(5, .int (zb false)), (4, .int (nI 1)), (0, .ref pl), (1, .int (nI bk)), (2, .int (nI 3)), (3, .int (nI ot))]) hx hb d_PL_gapOfSide_26 hl (by decide) rfl (fun ls hl => ?_)
  refine lv_iconst (v := nI 2) hx hb d_PL_gapOfSide_28 (by decide) ?_
  refine lv_iload hx hb d_PL_gapOfSide_29 (lv_at hl 0 rfl) ?_
  refine z_zeq (tgt := 46) hx hb d_PL_gapOfSide_31 (by decide) (fun _ => ?_) (fun h => absurd h (by decide))
  refine lv_aload_n hx hb d_PL_gapOfSide_46 rfl (lv_at hl 2 rfl) ?_
  refine va_get (D := D) (ci := 6) (v := .ref en) (C := R_PL) (T := F_PL) (N := 7) hx hb hts i_PL hown hK hP 0 rfl rfl 5 (by decide) (hts _ kf_PL_34) (fun _ h9 => h9) rfl d_PL_gapOfSide_47 ?_
  refine lv_iload hx hb d_PL_gapOfSide_50 (lv_at hl 1 rfl) ?_
  refine z_a2ld (j := 1) (r := e1) hx hb hK hP 4 1 rfl rfl (by omega) (by decide) rfl d_PL_gapOfSide_52 ?_
  refine lv_iload_n hx hb d_PL_gapOfSide_53 rfl (lv_at hl 3 rfl) ?_
  refine z_ild (j := bk) hx hb hK hP 6 0 rfl rfl (by omega) (by decide) d_PL_gapOfSide_54 ?_
  refine z_mul hx hb d_PL_gapOfSide_55 ?_
  refine lv_istore (lv' := [(6, .int (nI (2 * (E1 bk)))), (5, .int (zb false)), (4, .int (nI 1)), (0, .ref pl), (1, .int (nI bk)), (2, .int (nI 3)), (3, .int (nI ot))]) hx hb d_PL_gapOfSide_56 hl (by decide) rfl (fun ls hl => ?_)
  refine lv_iload hx hb d_PL_gapOfSide_58 (lv_at hl 0 rfl) ?_
  refine lv_aload_n hx hb d_PL_gapOfSide_60 rfl (lv_at hl 3 rfl) ?_
  refine lv_iload_n hx hb d_PL_gapOfSide_61 rfl (lv_at hl 6 rfl) ?_
  refine lv_iload hx hb d_PL_gapOfSide_62 (lv_at hl 2 rfl) ?_
  refine zr_V (ci := 6) (q0 := 0) (As := [.int (nI ot), .int (nI 1)]) (rest := [.int (nI (2 * (E1 bk)))]) (n := 2) ⟨hx, hb, hml, hown, hts⟩ (c_PL_middleOf_1 l D pl o1 o2 tu st en ex bl x0 x1 e0 e1 cA c2 X1 E1 ot h2) ⟨km_PL_107, ki_PL_middleOf, ks_PL_middleOf, kn_PL, kd_PL_middleOf⟩ (by decide +kernel) (by decide) ⟨Nat.zero_le _, Nat.zero_le _⟩ hK hP [0, 1, 3, 4, 6] rfl [0, 1] rfl rfl rfl rfl hl.1 rfl (Nat.le_of_ble_eq_true rfl) d_PL_gapOfSide_64 ?_
  refine lv_isub hx hb d_PL_gapOfSide_67 ?_
  refine z_abs (x := (2 * (E1 bk))) (y := (X1 ot + E1 ot)) ⟨hx, hb, hml, hown, hts⟩ hl.1 km_PL_110 (Nat.le_of_ble_eq_true rfl) (Nat.le_of_ble_eq_true rfl) ⟨Nat.zero_le _, Nat.zero_le _⟩ g0 g4 d_PL_gapOfSide_68 ?_
  refine lv_aload_n hx hb d_PL_gapOfSide_71 rfl (lv_at hl 3 rfl) ?_
  refine lv_iload_n hx hb d_PL_gapOfSide_72 rfl (lv_at hl 4 rfl) ?_
  refine lv_iconst (v := nI 1) hx hb d_PL_gapOfSide_73 (by decide) ?_
  refine lv_iload hx hb d_PL_gapOfSide_74 (lv_at hl 2 rfl) ?_
  refine z_sub hx hb d_PL_gapOfSide_76 (by omega) ?_
  refine lv_toi (z := nI 0) (congrArg nI (by omega)) ?_
  refine zr_V (ci := 6) (q0 := 0) (As := [.int (nI bk), .int (nI 0)]) (rest := [.int (nI ((2 * (E1 bk)) - (X1 ot + E1 ot) + ((X1 ot + E1 ot) - (2 * (E1 bk)))))]) (n := 2) ⟨hx, hb, hml, hown, hts⟩ (c_PL_middleOf_0 l D pl o1 o2 tu st en ex bl x0 x1 e0 e1 cA c2 X0 E0 bk h1) ⟨km_PL_107, ki_PL_middleOf, ks_PL_middleOf, kn_PL, kd_PL_middleOf⟩ (by decide +kernel) (by decide) ⟨Nat.zero_le _, Nat.zero_le _⟩ hK hP [0, 1, 2, 4, 5] rfl [0, 1] rfl rfl rfl rfl hl.1 rfl (Nat.le_of_ble_eq_true rfl) d_PL_gapOfSide_77 ?_
  refine lv_aload_n hx hb d_PL_gapOfSide_80 rfl (lv_at hl 3 rfl) ?_
  refine lv_iload_n hx hb d_PL_gapOfSide_81 rfl (lv_at hl 6 rfl) ?_
  refine lv_iconst (v := nI 1) hx hb d_PL_gapOfSide_82 (by decide) ?_
  refine lv_iload hx hb d_PL_gapOfSide_83 (lv_at hl 2 rfl) ?_
  refine z_sub hx hb d_PL_gapOfSide_85 (by omega) ?_
  refine lv_toi (z := nI 0) (congrArg nI (by omega)) ?_
  refine zr_V (ci := 6) (q0 := 0) (As := [.int (nI ot), .int (nI 0)]) (rest := [.int (nI (X0 bk + E0 bk)), .int (nI ((2 * (E1 bk)) - (X1 ot + E1 ot) + ((X1 ot + E1 ot) - (2 * (E1 bk)))))]) (n := 2) ⟨hx, hb, hml, hown, hts⟩ (c_PL_middleOf_0 l D pl o1 o2 tu st en ex bl x0 x1 e0 e1 cA c2 X0 E0 ot h2) ⟨km_PL_107, ki_PL_middleOf, ks_PL_middleOf, kn_PL, kd_PL_middleOf⟩ (by decide +kernel) (by decide) ⟨Nat.zero_le _, Nat.zero_le _⟩ hK hP [0, 1, 2, 4, 5] rfl [0, 1] rfl rfl rfl rfl hl.1 rfl (Nat.le_of_ble_eq_true rfl) d_PL_gapOfSide_86 ?_
  refine lv_isub hx hb d_PL_gapOfSide_89 ?_
  refine z_abs (x := (X0 bk + E0 bk)) (y := (X0 ot + E0 ot)) ⟨hx, hb, hml, hown, hts⟩ hl.1 km_PL_110 (Nat.le_of_ble_eq_true rfl) (Nat.le_of_ble_eq_true rfl) ⟨Nat.zero_le _, Nat.zero_le _⟩ g1 g2 d_PL_gapOfSide_90 ?_
  refine z_add hx hb d_PL_gapOfSide_93 ?_
  refine lv_toi (z := (nI (dd (2 * E1 bk) (X1 ot + E1 ot) + dd (X0 bk + E0 bk) (X0 ot + E0 ot)))) rfl ?_
  exact W.iret hx hb hr (fun t ht hW => ⟨rfl, ht⟩) (fun q h => by cases h) d_PL_gapOfSide_94
set_option maxHeartbeats 4000000 in
set_option maxRecDepth 100000 in
/-- Order.copy(from) -/
theorem c_OR_copy (l : Launch) (D : va_G) (sz : Nat) (o1 a1 b1 o2 a2 b2 : Nat) (cA : ClassId) (k1 k2 : Nat) (ba1 po1 ba2 po2 : Nat → Nat)  : Met l y_OR_copy (wsA y_OR_copy b_OR_copy 2 none) ({ frames := 1, cells := 0, slots := 0, locals := 40 } : Room) (zP D [(cA, .int)] [(o1, .inr (4, [.ref a1, .ref b1, .int (nI k1)])), (a1, .inl (cA, 16, .inl (fun k => nI (ba1 k)))), (b1, .inl (cA, 16, .inl (fun k => nI (po1 k)))), (o2, .inr (4, [.ref a2, .ref b2, .int (nI k2)])), (a2, .inl (cA, 16, .inl (fun k => nI (ba2 k)))), (b2, .inl (cA, 16, .inl (fun k => nI (po2 k))))] [.ref o1, .ref o2] sz) (zQ none (zB D [(cA, .int)] (va_A [(o1, .inr (4, [.ref a1, .ref b1, .int (nI k1)])), (a1, .inl (cA, 16, .inl (fun k => nI (ba1 k)))), (b1, .inl (cA, 16, .inl (fun k => nI (po1 k)))), (o2, .inr (4, [.ref a2, .ref b2, .int (nI k2)])), (a2, .inl (cA, 16, .inl (fun k => nI (ba2 k)))), (b2, .inl (cA, 16, .inl (fun k => nI (po2 k))))] sz) [(o1, .inr (4, [.ref a1, .ref b1, .int (nI k2)])), (a1, .inl (cA, 16, .inl (fun k => nI ((va_cpy ba2 ba1 0 0 16) k)))), (b1, .inl (cA, 16, .inl (fun k => nI ((va_cpy po2 po1 0 0 16) k)))), (o2, .inr (4, [.ref a2, .ref b2, .int (nI k2)])), (a2, .inl (cA, 16, .inl (fun k => nI (ba2 k)))), (b2, .inl (cA, 16, .inl (fun k => nI (po2 k))))]) (va_A [(o1, .inr (4, [.ref a1, .ref b1, .int (nI k1)])), (a1, .inl (cA, 16, .inl (fun k => nI (ba1 k)))), (b1, .inl (cA, 16, .inl (fun k => nI (po1 k)))), (o2, .inr (4, [.ref a2, .ref b2, .int (nI k2)])), (a2, .inl (cA, 16, .inl (fun k => nI (ba2 k)))), (b2, .inl (cA, 16, .inl (fun k => nI (po2 k))))] sz)) 0 0 (va_A [(o1, .inr (4, [.ref a1, .ref b1, .int (nI k1)])), (a1, .inl (cA, 16, .inl (fun k => nI (ba1 k)))), (b1, .inl (cA, 16, .inl (fun k => nI (po1 k)))), (o2, .inr (4, [.ref a2, .ref b2, .int (nI k2)])), (a2, .inl (cA, 16, .inl (fun k => nI (ba2 k)))), (b2, .inl (cA, 16, .inl (fun k => nI (po2 k))))] sz) := by
  refine Met.ofW (cc := b_OR_copy) (maxL := 2) (ret := none) (by decide) rfl ?_
  intro p e s m args below meth c s₁ B hml hv
  obtain ⟨rfl, hsz, hP, hK, hD0⟩ := hv
  have hx := B.exec
  have hb := B.bytes
  have hr := B.returns
  have hts : ∀ w ∈ lw_g, w.before _ s = true := fun w h => atoms_spec (ws := wsA y_OR_copy b_OR_copy 2 none) B.pre w (List.mem_cons_of_mem _ h)
  have hown : s.vm.findClass R_OR = some m.cls := findClass_of_methodNamed B.named
  have hlocks := B.notSynchronized
  obtain ⟨hD, hA, hS⟩ := z_start hsz hD0
  generalize va_A [(o1, .inr (4, [.ref a1, .ref b1, .int (nI k1)])), (a1, .inl (cA, 16, .inl (fun k => nI (ba1 k)))), (b1, .inl (cA, 16, .inl (fun k => nI (po1 k)))), (o2, .inr (4, [.ref a2, .ref b2, .int (nI k2)])), (a2, .inl (cA, 16, .inl (fun k => nI (ba2 k)))), (b2, .inl (cA, 16, .inl (fun k => nI (po2 k))))] sz = A at hD hA hS ⊢
  have hl := lv_entry ([.ref o1, .ref o2]) (n := 2) (Nat.le_of_ble_eq_true rfl)
  rw [lg_entry_eq]
  generalize (lg_sl ([.ref o1, .ref o2]) ++ List.replicate (2 - (lg_sl ([.ref o1, .ref o2])).length) Slot.unset).toArray = ls at hl ⊢
  have hl : lv_has ls 2 [(0, .ref o1), (1, .ref o2)] := hl
  have hP : va_P D classes [(o1, .inr (4, [.ref a1, .ref b1, .int (nI k1)])), (a1, .inl (cA, 16, .inl (fun k => nI (ba1 k)))), (b1, .inl (cA, 16, .inl (fun k => nI (po1 k)))), (o2, .inr (4, [.ref a2, .ref b2, .int (nI k2)])), (a2, .inl (cA, 16, .inl (fun k => nI (ba2 k)))), (b2, .inl (cA, 16, .inl (fun k => nI (po2 k))))] s.heap := hP
  refine lv_aload_n hx hb d_OR_copy_0 rfl (lv_at hl 1 rfl) ?_
  refine va_get (D := D) (ci := 4) (v := .ref a2) (C := R_OR) (T := F_OR) (N := 3) hx hb hts i_OR hown hK hP 3 rfl rfl 0 (by decide) (hts _ kf_OR_9) (fun _ h9 => h9) rfl d_OR_copy_1 ?_
  refine lv_iconst (v := nI 0) hx hb d_OR_copy_4 (by decide) ?_
  refine lv_aload_n hx hb d_OR_copy_5 rfl (lv_at hl 0 rfl) ?_
  refine va_get (D := D) (ci := 4) (v := .ref a1) (C := R_OR) (T := F_OR) (N := 3) hx hb hts i_OR hown hK hP 0 rfl rfl 0 (by decide) (hts _ kf_OR_9) (fun _ h9 => h9) rfl d_OR_copy_6 ?_
  refine lv_iconst (v := nI 0) hx hb d_OR_copy_9 (by decide) ?_
  refine lv_bipush (v := nI 16) hx hb d_OR_copy_10 (by decide) ?_
  refine z_copy (k := 16) ⟨hx, hb, hml, hown, hts⟩ hl.1 km_OR_22 (Nat.le_of_ble_eq_true rfl) (Nat.le_of_ble_eq_true rfl) hK hP hD hS 4 1 0 rfl rfl rfl (by decide) (by decide) (by decide) d_OR_copy_12 (fun H locs hP hD hS => ?_)
  have hP : va_P D classes [(o1, .inr (4, [.ref a1, .ref b1, .int (nI k1)])), (a1, .inl (cA, 16, .inl (fun k => nI ((va_cpy ba2 ba1 0 0 16) k)))), (b1, .inl (cA, 16, .inl (fun k => nI (po1 k)))), (o2, .inr (4, [.ref a2, .ref b2, .int (nI k2)])), (a2, .inl (cA, 16, .inl (fun k => nI (ba2 k)))), (b2, .inl (cA, 16, .inl (fun k => nI (po2 k))))] H := hP
  have hD : va_D A [(o1, .inr (4, [.ref a1, .ref b1, .int (nI k1)])), (a1, .inl (cA, 16, .inl (fun k => nI ((va_cpy ba2 ba1 0 0 16) k)))), (b1, .inl (cA, 16, .inl (fun k => nI (po1 k)))), (o2, .inr (4, [.ref a2, .ref b2, .int (nI k2)])), (a2, .inl (cA, 16, .inl (fun k => nI (ba2 k)))), (b2, .inl (cA, 16, .inl (fun k => nI (po2 k))))] := hD
  refine lv_aload_n hx hb d_OR_copy_15 rfl (lv_at hl 1 rfl) ?_
  refine va_get (D := D) (ci := 4) (v := .ref b2) (C := R_OR) (T := F_OR) (N := 3) hx hb hts i_OR hown hK hP 3 rfl rfl 1 (by decide) (hts _ kf_OR_15) (fun _ h9 => h9) rfl d_OR_copy_16 ?_
  refine lv_iconst (v := nI 0) hx hb d_OR_copy_19 (by decide) ?_
  refine lv_aload_n hx hb d_OR_copy_20 rfl (lv_at hl 0 rfl) ?_
  refine va_get (D := D) (ci := 4) (v := .ref b1) (C := R_OR) (T := F_OR) (N := 3) hx hb hts i_OR hown hK hP 0 rfl rfl 1 (by decide) (hts _ kf_OR_15) (fun _ h9 => h9) rfl d_OR_copy_21 ?_
  refine lv_iconst (v := nI 0) hx hb d_OR_copy_24 (by decide) ?_
  refine lv_bipush (v := nI 16) hx hb d_OR_copy_25 (by decide) ?_
  refine z_copy (k := 16) ⟨hx, hb, hml, hown, hts⟩ hl.1 km_OR_22 (Nat.le_of_ble_eq_true rfl) (Nat.le_of_ble_eq_true rfl) hK hP hD hS 5 2 0 rfl rfl rfl (by decide) (by decide) (by decide) d_OR_copy_27 (fun H locs hP hD hS => ?_)
  have hP : va_P D classes [(o1, .inr (4, [.ref a1, .ref b1, .int (nI k1)])), (a1, .inl (cA, 16, .inl (fun k => nI ((va_cpy ba2 ba1 0 0 16) k)))), (b1, .inl (cA, 16, .inl (fun k => nI ((va_cpy po2 po1 0 0 16) k)))), (o2, .inr (4, [.ref a2, .ref b2, .int (nI k2)])), (a2, .inl (cA, 16, .inl (fun k => nI (ba2 k)))), (b2, .inl (cA, 16, .inl (fun k => nI (po2 k))))] H := hP
  have hD : va_D A [(o1, .inr (4, [.ref a1, .ref b1, .int (nI k1)])), (a1, .inl (cA, 16, .inl (fun k => nI ((va_cpy ba2 ba1 0 0 16) k)))), (b1, .inl (cA, 16, .inl (fun k => nI ((va_cpy po2 po1 0 0 16) k)))), (o2, .inr (4, [.ref a2, .ref b2, .int (nI k2)])), (a2, .inl (cA, 16, .inl (fun k => nI (ba2 k)))), (b2, .inl (cA, 16, .inl (fun k => nI (po2 k))))] := hD
  refine lv_aload_n hx hb d_OR_copy_30 rfl (lv_at hl 0 rfl) ?_
  refine lv_aload_n hx hb d_OR_copy_31 rfl (lv_at hl 1 rfl) ?_
  refine va_get (D := D) (ci := 4) (v := .int (nI k2)) (C := R_OR) (T := F_OR) (N := 3) hx hb hts i_OR hown hK hP 3 rfl rfl 2 (by decide) (hts _ kf_OR_18) (fun _ h9 => h9) rfl d_OR_copy_32 ?_
  refine va_put (D := D) (ci := 4) (v := .int (nI k2)) (ty := .int) (C := R_OR) (T := F_OR) (N := 3) hx hb hts i_OR t_OR to_OR n_OR hown hK hP hD hS 0 rfl rfl 2 (by decide) (hts _ kf_OR_18) (fun _ h9 => h9) rfl (by decide +kernel) rfl rfl (Nat.le_of_ble_eq_true rfl) d_OR_copy_35 (fun H locs hP hD hS => ?_)
  have hP : va_P D classes [(o1, .inr (4, [.ref a1, .ref b1, .int (nI k2)])), (a1, .inl (cA, 16, .inl (fun k => nI ((va_cpy ba2 ba1 0 0 16) k)))), (b1, .inl (cA, 16, .inl (fun k => nI ((va_cpy po2 po1 0 0 16) k)))), (o2, .inr (4, [.ref a2, .ref b2, .int (nI k2)])), (a2, .inl (cA, 16, .inl (fun k => nI (ba2 k)))), (b2, .inl (cA, 16, .inl (fun k => nI (po2 k))))] H := hP
  have hD : va_D A [(o1, .inr (4, [.ref a1, .ref b1, .int (nI k2)])), (a1, .inl (cA, 16, .inl (fun k => nI ((va_cpy ba2 ba1 0 0 16) k)))), (b1, .inl (cA, 16, .inl (fun k => nI ((va_cpy po2 po1 0 0 16) k)))), (o2, .inr (4, [.ref a2, .ref b2, .int (nI k2)])), (a2, .inl (cA, 16, .inl (fun k => nI (ba2 k)))), (b2, .inl (cA, 16, .inl (fun k => nI (po2 k))))] := hD
  exact W.vret hx hb hr (fun t ht hW => ⟨rfl, ⟨by rw [ht]; exact hP, va_K.moved hW.alike hK, hD⟩, hS.F ht⟩) hS.2.2 d_OR_copy_38
