/-! a number against 0 -/
section ZZ
variable {p : Program} {l : Launch} {e : Env} {R : Room} {s : State} {m : MethodId} {args : Array Value} {below : List Frame} {meth : Method} {c : Code} {H : Heap} {locs : List Loc} {cells slots : Nat} {Q : State → Prop} {cc : ByteArray} {pc : Nat} {ls : Array Slot} {rest : List Value} {off : Int} {tgt x : Nat}
theorem z_0le (hexec : p.tables.exec = Jvm.exec) (hb : c.code = cc) (hdg : decode cc pc = .ok (.ifCond .le off, 3)) (ht : (pc : Int) + off = (tgt : Int)) (hx : x < 2 ^ 31) (kt : x = 0 → W p l e R s m args below meth c H locs cells slots Q (F0 m tgt ls rest)) (kf : 0 < x → W p l e R s m args below meth c H locs cells slots Q (F0 m (pc + 3) ls rest)) : W p l e R s m args below meth c H locs cells slots Q (F0 m pc ls (.int (nI x) :: rest)) :=
  lv_if_le hexec hb hdg ht (fun h => kt (by rcases Nat.eq_zero_or_pos x with q | q; exact q; exact absurd h (nI_nle q hx))) (fun h => kf (by rcases Nat.eq_zero_or_pos x with q | q; exact absurd (by rw [q, nI_0]; decide) h; exact q))
theorem z_0gt (hexec : p.tables.exec = Jvm.exec) (hb : c.code = cc) (hdg : decode cc pc = .ok (.ifCond .gt off, 3)) (ht : (pc : Int) + off = (tgt : Int)) (hx : x < 2 ^ 31) (kt : 0 < x → W p l e R s m args below meth c H locs cells slots Q (F0 m tgt ls rest)) (kf : x = 0 → W p l e R s m args below meth c H locs cells slots Q (F0 m (pc + 3) ls rest)) : W p l e R s m args below meth c H locs cells slots Q (F0 m pc ls (.int (nI x) :: rest)) :=
  lv_if_gt hexec hb hdg ht (fun h => kt (by rcases Nat.eq_zero_or_pos x with q | q; exact absurd h (by rw [q, nI_0]; decide); exact q)) (fun h => kf (by rcases Nat.eq_zero_or_pos x with q | q; exact q; exact absurd (Int32.not_le.mp (nI_nle q hx)) h))
theorem z_0eq (hexec : p.tables.exec = Jvm.exec) (hb : c.code = cc) (hdg : decode cc pc = .ok (.ifCond .eq off, 3)) (ht : (pc : Int) + off = (tgt : Int)) (hx : x < 2 ^ 31) (kt : x = 0 → W p l e R s m args below meth c H locs cells slots Q (F0 m tgt ls rest)) (kf : x ≠ 0 → W p l e R s m args below meth c H locs cells slots Q (F0 m (pc + 3) ls rest)) : W p l e R s m args below meth c H locs cells slots Q (F0 m pc ls (.int (nI x) :: rest)) :=
  lv_if_eq hexec hb hdg ht (fun h => kt ((nI_eq hx (by decide)).mp (h.trans nI_0.symm))) (fun h => kf (fun q => h (by rw [q, nI_0])))
theorem z_0ne (hexec : p.tables.exec = Jvm.exec) (hb : c.code = cc) (hdg : decode cc pc = .ok (.ifCond .ne off, 3)) (ht : (pc : Int) + off = (tgt : Int)) (hx : x < 2 ^ 31) (kt : x ≠ 0 → W p l e R s m args below meth c H locs cells slots Q (F0 m tgt ls rest)) (kf : x = 0 → W p l e R s m args below meth c H locs cells slots Q (F0 m (pc + 3) ls rest)) : W p l e R s m args below meth c H locs cells slots Q (F0 m pc ls (.int (nI x) :: rest)) :=
  lv_if_ne hexec hb hdg ht (fun h => kt (fun q => h (by rw [q, nI_0]))) (fun h => kf ((nI_eq hx (by decide)).mp (h.trans nI_0.symm)))
end ZZ
theorem d_SL_hasMatchFor_0 : decode b_SL_hasMatchFor 0 = .ok (.iconst 0, 1) := by decide +kernel
theorem d_SL_hasMatchFor_1 : decode b_SL_hasMatchFor 1 = .ok (.istore_n 3, 1) := by decide +kernel
theorem d_SL_hasMatchFor_2 : decode b_SL_hasMatchFor 2 = .ok (.iload_n 3, 1) := by decide +kernel
theorem d_SL_hasMatchFor_3 : decode b_SL_hasMatchFor 3 = .ok (.aload_n 0, 1) := by decide +kernel
theorem d_SL_hasMatchFor_4 : decode b_SL_hasMatchFor 4 = .ok (.getfield 22, 3) := by decide +kernel
theorem d_SL_hasMatchFor_7 : decode b_SL_hasMatchFor 7 = .ok (.if_icmp .ge 31, 3) := by decide +kernel
theorem d_SL_hasMatchFor_10 : decode b_SL_hasMatchFor 10 = .ok (.aload_n 0, 1) := by decide +kernel
theorem d_SL_hasMatchFor_11 : decode b_SL_hasMatchFor 11 = .ok (.getfield 13, 3) := by decide +kernel
theorem d_SL_hasMatchFor_14 : decode b_SL_hasMatchFor 14 = .ok (.iload_n 3, 1) := by decide +kernel
theorem d_SL_hasMatchFor_15 : decode b_SL_hasMatchFor 15 = .ok (.iaload, 1) := by decide +kernel
theorem d_SL_hasMatchFor_16 : decode b_SL_hasMatchFor 16 = .ok (.iload_n 1, 1) := by decide +kernel
theorem d_SL_hasMatchFor_17 : decode b_SL_hasMatchFor 17 = .ok (.if_icmp .gt 15, 3) := by decide +kernel
theorem d_SL_hasMatchFor_20 : decode b_SL_hasMatchFor 20 = .ok (.aload_n 0, 1) := by decide +kernel
theorem d_SL_hasMatchFor_21 : decode b_SL_hasMatchFor 21 = .ok (.getfield 19, 3) := by decide +kernel
theorem d_SL_hasMatchFor_24 : decode b_SL_hasMatchFor 24 = .ok (.iload_n 3, 1) := by decide +kernel
theorem d_SL_hasMatchFor_25 : decode b_SL_hasMatchFor 25 = .ok (.iaload, 1) := by decide +kernel
theorem d_SL_hasMatchFor_26 : decode b_SL_hasMatchFor 26 = .ok (.iload_n 2, 1) := by decide +kernel
theorem d_SL_hasMatchFor_27 : decode b_SL_hasMatchFor 27 = .ok (.if_icmp .gt 5, 3) := by decide +kernel
theorem d_SL_hasMatchFor_30 : decode b_SL_hasMatchFor 30 = .ok (.iconst 1, 1) := by decide +kernel
theorem d_SL_hasMatchFor_31 : decode b_SL_hasMatchFor 31 = .ok (.ireturn, 1) := by decide +kernel
theorem d_SL_hasMatchFor_32 : decode b_SL_hasMatchFor 32 = .ok (.iinc 3 1, 3) := by decide +kernel
theorem d_SL_hasMatchFor_35 : decode b_SL_hasMatchFor 35 = .ok (.goto (-33), 3) := by decide +kernel
theorem d_SL_hasMatchFor_38 : decode b_SL_hasMatchFor 38 = .ok (.iconst 0, 1) := by decide +kernel
theorem d_SL_hasMatchFor_39 : decode b_SL_hasMatchFor 39 = .ok (.ireturn, 1) := by decide +kernel
theorem d_SL_dropMatchedBy_0 : decode b_SL_dropMatchedBy 0 = .ok (.iconst 0, 1) := by decide +kernel
theorem d_SL_dropMatchedBy_1 : decode b_SL_dropMatchedBy 1 = .ok (.istore_n 3, 1) := by decide +kernel
theorem d_SL_dropMatchedBy_2 : decode b_SL_dropMatchedBy 2 = .ok (.iconst 0, 1) := by decide +kernel
theorem d_SL_dropMatchedBy_3 : decode b_SL_dropMatchedBy 3 = .ok (.istore 4, 2) := by decide +kernel
theorem d_SL_dropMatchedBy_5 : decode b_SL_dropMatchedBy 5 = .ok (.iload 4, 2) := by decide +kernel
theorem d_SL_dropMatchedBy_7 : decode b_SL_dropMatchedBy 7 = .ok (.aload_n 0, 1) := by decide +kernel
theorem d_SL_dropMatchedBy_8 : decode b_SL_dropMatchedBy 8 = .ok (.getfield 22, 3) := by decide +kernel
theorem d_SL_dropMatchedBy_11 : decode b_SL_dropMatchedBy 11 = .ok (.if_icmp .ge 60, 3) := by decide +kernel
theorem d_SL_dropMatchedBy_14 : decode b_SL_dropMatchedBy 14 = .ok (.aload_n 0, 1) := by decide +kernel
theorem d_SL_dropMatchedBy_15 : decode b_SL_dropMatchedBy 15 = .ok (.getfield 13, 3) := by decide +kernel
theorem d_SL_dropMatchedBy_18 : decode b_SL_dropMatchedBy 18 = .ok (.iload 4, 2) := by decide +kernel
theorem d_SL_dropMatchedBy_20 : decode b_SL_dropMatchedBy 20 = .ok (.iaload, 1) := by decide +kernel
theorem d_SL_dropMatchedBy_21 : decode b_SL_dropMatchedBy 21 = .ok (.iload_n 1, 1) := by decide +kernel
theorem d_SL_dropMatchedBy_22 : decode b_SL_dropMatchedBy 22 = .ok (.if_icmp .lt 14, 3) := by decide +kernel
theorem d_SL_dropMatchedBy_25 : decode b_SL_dropMatchedBy 25 = .ok (.aload_n 0, 1) := by decide +kernel
theorem d_SL_dropMatchedBy_26 : decode b_SL_dropMatchedBy 26 = .ok (.getfield 19, 3) := by decide +kernel
theorem d_SL_dropMatchedBy_29 : decode b_SL_dropMatchedBy 29 = .ok (.iload 4, 2) := by decide +kernel
theorem d_SL_dropMatchedBy_31 : decode b_SL_dropMatchedBy 31 = .ok (.iaload, 1) := by decide +kernel
theorem d_SL_dropMatchedBy_32 : decode b_SL_dropMatchedBy 32 = .ok (.iload_n 2, 1) := by decide +kernel
theorem d_SL_dropMatchedBy_33 : decode b_SL_dropMatchedBy 33 = .ok (.if_icmp .ge 32, 3) := by decide +kernel
theorem d_SL_dropMatchedBy_36 : decode b_SL_dropMatchedBy 36 = .ok (.aload_n 0, 1) := by decide +kernel
theorem d_SL_dropMatchedBy_37 : decode b_SL_dropMatchedBy 37 = .ok (.getfield 13, 3) := by decide +kernel
theorem d_SL_dropMatchedBy_40 : decode b_SL_dropMatchedBy 40 = .ok (.iload_n 3, 1) := by decide +kernel
theorem d_SL_dropMatchedBy_41 : decode b_SL_dropMatchedBy 41 = .ok (.aload_n 0, 1) := by decide +kernel
theorem d_SL_dropMatchedBy_42 : decode b_SL_dropMatchedBy 42 = .ok (.getfield 13, 3) := by decide +kernel
theorem d_SL_dropMatchedBy_45 : decode b_SL_dropMatchedBy 45 = .ok (.iload 4, 2) := by decide +kernel
theorem d_SL_dropMatchedBy_47 : decode b_SL_dropMatchedBy 47 = .ok (.iaload, 1) := by decide +kernel
theorem d_SL_dropMatchedBy_48 : decode b_SL_dropMatchedBy 48 = .ok (.iastore, 1) := by decide +kernel
theorem d_SL_dropMatchedBy_49 : decode b_SL_dropMatchedBy 49 = .ok (.aload_n 0, 1) := by decide +kernel
theorem d_SL_dropMatchedBy_50 : decode b_SL_dropMatchedBy 50 = .ok (.getfield 19, 3) := by decide +kernel
theorem d_SL_dropMatchedBy_53 : decode b_SL_dropMatchedBy 53 = .ok (.iload_n 3, 1) := by decide +kernel
theorem d_SL_dropMatchedBy_54 : decode b_SL_dropMatchedBy 54 = .ok (.aload_n 0, 1) := by decide +kernel
theorem d_SL_dropMatchedBy_55 : decode b_SL_dropMatchedBy 55 = .ok (.getfield 19, 3) := by decide +kernel
theorem d_SL_dropMatchedBy_58 : decode b_SL_dropMatchedBy 58 = .ok (.iload 4, 2) := by decide +kernel
theorem d_SL_dropMatchedBy_60 : decode b_SL_dropMatchedBy 60 = .ok (.iaload, 1) := by decide +kernel
theorem d_SL_dropMatchedBy_61 : decode b_SL_dropMatchedBy 61 = .ok (.iastore, 1) := by decide +kernel
theorem d_SL_dropMatchedBy_62 : decode b_SL_dropMatchedBy 62 = .ok (.iinc 3 1, 3) := by decide +kernel
theorem d_SL_dropMatchedBy_65 : decode b_SL_dropMatchedBy 65 = .ok (.iinc 4 1, 3) := by decide +kernel
theorem d_SL_dropMatchedBy_68 : decode b_SL_dropMatchedBy 68 = .ok (.goto (-63), 3) := by decide +kernel
theorem d_SL_dropMatchedBy_71 : decode b_SL_dropMatchedBy 71 = .ok (.aload_n 0, 1) := by decide +kernel
theorem d_SL_dropMatchedBy_72 : decode b_SL_dropMatchedBy 72 = .ok (.iload_n 3, 1) := by decide +kernel
theorem d_SL_dropMatchedBy_73 : decode b_SL_dropMatchedBy 73 = .ok (.putfield 22, 3) := by decide +kernel
theorem d_SL_dropMatchedBy_76 : decode b_SL_dropMatchedBy 76 = .ok (.return_, 1) := by decide +kernel
theorem d_SL_insert_0 : decode b_SL_insert 0 = .ok (.aload_n 0, 1) := by decide +kernel
theorem d_SL_insert_1 : decode b_SL_insert 1 = .ok (.getfield 22, 3) := by decide +kernel
theorem d_SL_insert_4 : decode b_SL_insert 4 = .ok (.istore_n 3, 1) := by decide +kernel
theorem d_SL_insert_5 : decode b_SL_insert 5 = .ok (.iload_n 3, 1) := by decide +kernel
theorem d_SL_insert_6 : decode b_SL_insert 6 = .ok (.ifCond .le 49, 3) := by decide +kernel
theorem d_SL_insert_9 : decode b_SL_insert 9 = .ok (.aload_n 0, 1) := by decide +kernel
theorem d_SL_insert_10 : decode b_SL_insert 10 = .ok (.getfield 13, 3) := by decide +kernel
theorem d_SL_insert_13 : decode b_SL_insert 13 = .ok (.iload_n 3, 1) := by decide +kernel
theorem d_SL_insert_14 : decode b_SL_insert 14 = .ok (.iconst 1, 1) := by decide +kernel
theorem d_SL_insert_15 : decode b_SL_insert 15 = .ok (.isub, 1) := by decide +kernel
theorem d_SL_insert_16 : decode b_SL_insert 16 = .ok (.iaload, 1) := by decide +kernel
theorem d_SL_insert_17 : decode b_SL_insert 17 = .ok (.iload_n 1, 1) := by decide +kernel
theorem d_SL_insert_18 : decode b_SL_insert 18 = .ok (.if_icmp .le 37, 3) := by decide +kernel
theorem d_SL_insert_21 : decode b_SL_insert 21 = .ok (.aload_n 0, 1) := by decide +kernel
theorem d_SL_insert_22 : decode b_SL_insert 22 = .ok (.getfield 13, 3) := by decide +kernel
theorem d_SL_insert_25 : decode b_SL_insert 25 = .ok (.iload_n 3, 1) := by decide +kernel
theorem d_SL_insert_26 : decode b_SL_insert 26 = .ok (.aload_n 0, 1) := by decide +kernel
theorem d_SL_insert_27 : decode b_SL_insert 27 = .ok (.getfield 13, 3) := by decide +kernel
theorem d_SL_insert_30 : decode b_SL_insert 30 = .ok (.iload_n 3, 1) := by decide +kernel
theorem d_SL_insert_31 : decode b_SL_insert 31 = .ok (.iconst 1, 1) := by decide +kernel
theorem d_SL_insert_32 : decode b_SL_insert 32 = .ok (.isub, 1) := by decide +kernel
theorem d_SL_insert_33 : decode b_SL_insert 33 = .ok (.iaload, 1) := by decide +kernel
theorem d_SL_insert_34 : decode b_SL_insert 34 = .ok (.iastore, 1) := by decide +kernel
theorem d_SL_insert_35 : decode b_SL_insert 35 = .ok (.aload_n 0, 1) := by decide +kernel
theorem d_SL_insert_36 : decode b_SL_insert 36 = .ok (.getfield 19, 3) := by decide +kernel
theorem d_SL_insert_39 : decode b_SL_insert 39 = .ok (.iload_n 3, 1) := by decide +kernel
theorem d_SL_insert_40 : decode b_SL_insert 40 = .ok (.aload_n 0, 1) := by decide +kernel
theorem d_SL_insert_41 : decode b_SL_insert 41 = .ok (.getfield 19, 3) := by decide +kernel
theorem d_SL_insert_44 : decode b_SL_insert 44 = .ok (.iload_n 3, 1) := by decide +kernel
theorem d_SL_insert_45 : decode b_SL_insert 45 = .ok (.iconst 1, 1) := by decide +kernel
theorem d_SL_insert_46 : decode b_SL_insert 46 = .ok (.isub, 1) := by decide +kernel
theorem d_SL_insert_47 : decode b_SL_insert 47 = .ok (.iaload, 1) := by decide +kernel
theorem d_SL_insert_48 : decode b_SL_insert 48 = .ok (.iastore, 1) := by decide +kernel
theorem d_SL_insert_49 : decode b_SL_insert 49 = .ok (.iinc 3 (-1), 3) := by decide +kernel
theorem d_SL_insert_52 : decode b_SL_insert 52 = .ok (.goto (-47), 3) := by decide +kernel
theorem d_SL_insert_55 : decode b_SL_insert 55 = .ok (.aload_n 0, 1) := by decide +kernel
theorem d_SL_insert_56 : decode b_SL_insert 56 = .ok (.getfield 13, 3) := by decide +kernel
theorem d_SL_insert_59 : decode b_SL_insert 59 = .ok (.iload_n 3, 1) := by decide +kernel
theorem d_SL_insert_60 : decode b_SL_insert 60 = .ok (.iload_n 1, 1) := by decide +kernel
theorem d_SL_insert_61 : decode b_SL_insert 61 = .ok (.iastore, 1) := by decide +kernel
theorem d_SL_insert_62 : decode b_SL_insert 62 = .ok (.aload_n 0, 1) := by decide +kernel
theorem d_SL_insert_63 : decode b_SL_insert 63 = .ok (.getfield 19, 3) := by decide +kernel
theorem d_SL_insert_66 : decode b_SL_insert 66 = .ok (.iload_n 3, 1) := by decide +kernel
theorem d_SL_insert_67 : decode b_SL_insert 67 = .ok (.iload_n 2, 1) := by decide +kernel
theorem d_SL_insert_68 : decode b_SL_insert 68 = .ok (.iastore, 1) := by decide +kernel
theorem d_SL_insert_69 : decode b_SL_insert 69 = .ok (.aload_n 0, 1) := by decide +kernel
theorem d_SL_insert_70 : decode b_SL_insert 70 = .ok (.dup, 1) := by decide +kernel
theorem d_SL_insert_71 : decode b_SL_insert 71 = .ok (.getfield 22, 3) := by decide +kernel
theorem d_SL_insert_74 : decode b_SL_insert 74 = .ok (.iconst 1, 1) := by decide +kernel
theorem d_SL_insert_75 : decode b_SL_insert 75 = .ok (.iadd, 1) := by decide +kernel
theorem d_SL_insert_76 : decode b_SL_insert 76 = .ok (.putfield 22, 3) := by decide +kernel
theorem d_SL_insert_79 : decode b_SL_insert 79 = .ok (.return_, 1) := by decide +kernel
theorem d_SL_offer_0 : decode b_SL_offer 0 = .ok (.aload_n 0, 1) := by decide +kernel
theorem d_SL_offer_1 : decode b_SL_offer 1 = .ok (.iload_n 1, 1) := by decide +kernel
theorem d_SL_offer_2 : decode b_SL_offer 2 = .ok (.iload_n 2, 1) := by decide +kernel
theorem d_SL_offer_3 : decode b_SL_offer 3 = .ok (.invokevirtual 41, 3) := by decide +kernel
theorem d_SL_offer_6 : decode b_SL_offer 6 = .ok (.ifCond .eq 4, 3) := by decide +kernel
theorem d_SL_offer_9 : decode b_SL_offer 9 = .ok (.return_, 1) := by decide +kernel
theorem d_SL_offer_10 : decode b_SL_offer 10 = .ok (.aload_n 0, 1) := by decide +kernel
theorem d_SL_offer_11 : decode b_SL_offer 11 = .ok (.iload_n 1, 1) := by decide +kernel
theorem d_SL_offer_12 : decode b_SL_offer 12 = .ok (.iload_n 2, 1) := by decide +kernel
theorem d_SL_offer_13 : decode b_SL_offer 13 = .ok (.invokevirtual 45, 3) := by decide +kernel
theorem d_SL_offer_16 : decode b_SL_offer 16 = .ok (.aload_n 0, 1) := by decide +kernel
theorem d_SL_offer_17 : decode b_SL_offer 17 = .ok (.getfield 22, 3) := by decide +kernel
theorem d_SL_offer_20 : decode b_SL_offer 20 = .ok (.aload_n 0, 1) := by decide +kernel
theorem d_SL_offer_21 : decode b_SL_offer 21 = .ok (.getfield 13, 3) := by decide +kernel
theorem d_SL_offer_24 : decode b_SL_offer 24 = .ok (.arraylength, 1) := by decide +kernel
theorem d_SL_offer_25 : decode b_SL_offer 25 = .ok (.if_icmp .ge 9, 3) := by decide +kernel
theorem d_SL_offer_28 : decode b_SL_offer 28 = .ok (.aload_n 0, 1) := by decide +kernel
theorem d_SL_offer_29 : decode b_SL_offer 29 = .ok (.iload_n 1, 1) := by decide +kernel
theorem d_SL_offer_30 : decode b_SL_offer 30 = .ok (.iload_n 2, 1) := by decide +kernel
theorem d_SL_offer_31 : decode b_SL_offer 31 = .ok (.invokevirtual 48, 3) := by decide +kernel
theorem d_SL_offer_34 : decode b_SL_offer 34 = .ok (.return_, 1) := by decide +kernel
theorem d_SL_leastArea_0 : decode b_SL_leastArea 0 = .ok (.ldc2_w 35, 3) := by decide +kernel
theorem d_SL_leastArea_3 : decode b_SL_leastArea 3 = .ok (.lstore_n 1, 1) := by decide +kernel
theorem d_SL_leastArea_4 : decode b_SL_leastArea 4 = .ok (.iconst 0, 1) := by decide +kernel
theorem d_SL_leastArea_5 : decode b_SL_leastArea 5 = .ok (.istore_n 3, 1) := by decide +kernel
theorem d_SL_leastArea_6 : decode b_SL_leastArea 6 = .ok (.iload_n 3, 1) := by decide +kernel
theorem d_SL_leastArea_7 : decode b_SL_leastArea 7 = .ok (.aload_n 0, 1) := by decide +kernel
theorem d_SL_leastArea_8 : decode b_SL_leastArea 8 = .ok (.getfield 22, 3) := by decide +kernel
theorem d_SL_leastArea_11 : decode b_SL_leastArea 11 = .ok (.if_icmp .ge 29, 3) := by decide +kernel
theorem d_SL_leastArea_14 : decode b_SL_leastArea 14 = .ok (.lload_n 1, 1) := by decide +kernel
theorem d_SL_leastArea_15 : decode b_SL_leastArea 15 = .ok (.aload_n 0, 1) := by decide +kernel
theorem d_SL_leastArea_16 : decode b_SL_leastArea 16 = .ok (.getfield 13, 3) := by decide +kernel
theorem d_SL_leastArea_19 : decode b_SL_leastArea 19 = .ok (.iload_n 3, 1) := by decide +kernel
theorem d_SL_leastArea_20 : decode b_SL_leastArea 20 = .ok (.iaload, 1) := by decide +kernel
theorem d_SL_leastArea_21 : decode b_SL_leastArea 21 = .ok (.i2l, 1) := by decide +kernel
theorem d_SL_leastArea_22 : decode b_SL_leastArea 22 = .ok (.aload_n 0, 1) := by decide +kernel
theorem d_SL_leastArea_23 : decode b_SL_leastArea 23 = .ok (.getfield 19, 3) := by decide +kernel
theorem d_SL_leastArea_26 : decode b_SL_leastArea 26 = .ok (.iload_n 3, 1) := by decide +kernel
theorem d_SL_leastArea_27 : decode b_SL_leastArea 27 = .ok (.iaload, 1) := by decide +kernel
theorem d_SL_leastArea_28 : decode b_SL_leastArea 28 = .ok (.i2l, 1) := by decide +kernel
theorem d_SL_leastArea_29 : decode b_SL_leastArea 29 = .ok (.lmul, 1) := by decide +kernel
theorem d_SL_leastArea_30 : decode b_SL_leastArea 30 = .ok (.invokestatic 37, 3) := by decide +kernel
theorem d_SL_leastArea_33 : decode b_SL_leastArea 33 = .ok (.lstore_n 1, 1) := by decide +kernel
theorem d_SL_leastArea_34 : decode b_SL_leastArea 34 = .ok (.iinc 3 1, 3) := by decide +kernel
theorem d_SL_leastArea_37 : decode b_SL_leastArea 37 = .ok (.goto (-31), 3) := by decide +kernel
theorem d_SL_leastArea_40 : decode b_SL_leastArea 40 = .ok (.lload_n 1, 1) := by decide +kernel
theorem d_SL_leastArea_41 : decode b_SL_leastArea 41 = .ok (.lreturn, 1) := by decide +kernel
/-- does one of the first k match x, y -/
def hm (fw fh : Nat → Nat) (x y : Nat) : Nat → Bool
  | 0 => false
  | k + 1 => hm fw fh x y k || (decide (fw k ≤ x) && decide (fh k ≤ y))
theorem hm_mono {fw fh : Nat → Nat} {x y k : Nat} (h : hm fw fh x y k = true) : ∀ j, hm fw fh x y (k + j) = true
  | 0 => h
  | j + 1 => by
    show (hm fw fh x y (k + j) || _) = true
    rw [hm_mono h j]
    rfl
abbrev FL : Type := (Nat → Nat) × (Nat → Nat) × Nat
/-- those of the first k that x, y doesn't match -/
def dm (x y : Nat) (fw fh : Nat → Nat) : Nat → FL
  | 0 => (fw, fh, 0)
  | k + 1 => if (dm x y fw fh k).1 k < x ∨ (dm x y fw fh k).2.1 k < y then (va_up (dm x y fw fh k).1 (dm x y fw fh k).2.2 ((dm x y fw fh k).1 k), va_up (dm x y fw fh k).2.1 (dm x y fw fh k).2.2 ((dm x y fw fh k).2.1 k), (dm x y fw fh k).2.2 + 1) else dm x y fw fh k
/-- x, y put in, from place k down -/
def ins (x y : Nat) : Nat → (Nat → Nat) → (Nat → Nat) → (Nat → Nat) × (Nat → Nat)
  | 0, fw, fh => (va_up fw 0 x, va_up fh 0 y)
  | k + 1, fw, fh => if x < fw k then ins x y k (va_up fw (k + 1) (fw k)) (va_up fh (k + 1) (fh k)) else (va_up fw (k + 1) x, va_up fh (k + 1) y)
def ofr (cap x y : Nat) (u : FL) : FL :=
  if hm u.1 u.2.1 x y u.2.2 = true then u
  else if (dm x y u.1 u.2.1 u.2.2).2.2 < cap then ((ins x y (dm x y u.1 u.2.1 u.2.2).2.2 (dm x y u.1 u.2.1 u.2.2).1 (dm x y u.1 u.2.1 u.2.2).2.1).1, (ins x y (dm x y u.1 u.2.1 u.2.2).2.2 (dm x y u.1 u.2.1 u.2.2).1 (dm x y u.1 u.2.1 u.2.2).2.1).2, (dm x y u.1 u.2.1 u.2.2).2.2 + 1)
  else dm x y u.1 u.2.1 u.2.2
/-- the least area of the first k -/
def lar (fw fh : Nat → Nat) : Nat → Nat
  | 0 => 9223372036854775807
  | k + 1 => min (lar fw fh k) (fw k * fh k)
theorem lar_le {fw fh : Nat → Nat} : ∀ k, lar fw fh k ≤ 9223372036854775807
  | 0 => Nat.le_refl _
  | k + 1 => Nat.le_trans (Nat.min_le_left _ _) (lar_le k)
theorem dm_le {x y : Nat} {fw fh : Nat → Nat} : ∀ k, (dm x y fw fh k).2.2 ≤ k
  | 0 => Nat.le_refl _
  | k + 1 => by
    have ih := dm_le (x := x) (y := y) (fw := fw) (fh := fh) k
    rw [dm]
    split
    · dsimp only
      omega
    · omega
theorem dm_bd {x y M : Nat} {fw fh : Nat → Nat} (h : ∀ i, fw i < M ∧ fh i < M) : ∀ k i, (dm x y fw fh k).1 i < M ∧ (dm x y fw fh k).2.1 i < M
  | 0, i => h i
  | k + 1, i => by
    have ih := dm_bd (x := x) (y := y) h k
    rw [dm]
    split
    · exact ⟨up_lt (ih i).1 (ih k).1, up_lt (ih i).2 (ih k).2⟩
    · exact ih i
set_option maxHeartbeats 4000000 in
set_option maxRecDepth 100000 in
/-- ShapeList.hasMatchFor -/
theorem c_SL_hasMatchFor (l : Launch) (D : va_G) (sl aw ah : Nat) (cA : ClassId) (cap ct : Nat) (fw fh : Nat → Nat) (x0 y0 : Nat) (hcap : cap < 1000) (hct : ct ≤ cap) (hbd : ∀ i, fw i < 2 ^ 30 ∧ fh i < 2 ^ 30) (gx : x0 < 2 ^ 30) (gy : y0 < 2 ^ 30) : Met l y_SL_hasMatchFor (wsA y_SL_hasMatchFor b_SL_hasMatchFor 4 (some .boolean)) ({ frames := 0, cells := 0, slots := 0, locals := 0 } : Room) (zR D [(cA, .int)] [(sl, .inr (8, [.ref aw, .ref ah, .int (nI ct)])), (aw, .inl (cA, cap, .inl (fun zk => nI (fw zk)))), (ah, .inl (cA, cap, .inl (fun zk => nI (fh zk))))] [.ref sl, .int (nI x0), .int (nI y0)]) (k2_QcV (.int (zb (hm fw fh x0 y0 ct)))) 0 0 (fun _ => False) := by
  refine Met.ofW (cc := b_SL_hasMatchFor) (maxL := 4) (ret := (some .boolean)) (by decide) rfl ?_
  intro p e s m args below meth c s₁ Bd hml hv
  obtain ⟨rfl, hP, hK⟩ := hv
  have hx := Bd.exec
  have hb := Bd.bytes
  have hr := Bd.returns
  have hts : ∀ w ∈ lw_g, w.before _ s = true := fun w h => atoms_spec (ws := wsA y_SL_hasMatchFor b_SL_hasMatchFor 4 (some .boolean)) Bd.pre w (List.mem_cons_of_mem _ h)
  have hown : s.vm.findClass R_SL = some m.cls := findClass_of_methodNamed Bd.named
  have hlocks := Bd.notSynchronized
  have hl := lv_entry ([.ref sl, .int (nI x0), .int (nI y0)]) (n := 4) (Nat.le_of_ble_eq_true rfl)
  rw [lg_entry_eq]
  generalize (lg_sl ([.ref sl, .int (nI x0), .int (nI y0)]) ++ List.replicate (4 - (lg_sl ([.ref sl, .int (nI x0), .int (nI y0)])).length) Slot.unset).toArray = ls at hl ⊢
  have hl : lv_has ls 4 [(0, .ref sl), (1, .int (nI x0)), (2, .int (nI y0))] := hl
  have hP : va_P D classes [(sl, .inr (8, [.ref aw, .ref ah, .int (nI ct)])), (aw, .inl (cA, cap, .inl (fun zk => nI (fw zk)))), (ah, .inl (cA, cap, .inl (fun zk => nI (fh zk))))] s.heap := hP
  refine lv_iconst (v := nI 0) hx hb d_SL_hasMatchFor_0 (by decide) ?_
  refine lv_istore_n (lv' := [(3, .int (nI 0)), (0, .ref sl), (1, .int (nI x0)), (2, .int (nI y0))]) hx hb d_SL_hasMatchFor_1 rfl hl (by decide) rfl (fun ls hl => ?_)
  have lp : ∀ (fu : Nat), ∀ (k : Nat), (k ≤ ct) → (hm fw fh x0 y0 k = false) → (ct - k + 1) ≤ fu → ∀ (ls : Array Slot), lv_has ls 4 [(0, .ref sl), (1, .int (nI x0)), (2, .int (nI y0)), (3, .int (nI k))] → W p l e (headSpec (wsA y_SL_hasMatchFor b_SL_hasMatchFor 4 (some .boolean)) ({ frames := 0, cells := 0, slots := 0, locals := 0 } : Room)).room s m ([.ref sl, .int (nI x0), .int (nI y0)] : List Value).toArray below meth c s.heap [] 0 0 (MQ below (k2_QcV (.int (zb (hm fw fh x0 y0 ct)))) ([.ref sl, .int (nI x0), .int (nI y0)] : List Value).toArray s 0 0 (fun _ => False)) (F0 m 2 ls []) := by
    intro fu
    induction fu with
    | zero =>
      intro k hk hk2 hmu ls hl
      exact absurd hmu (by omega)
    | succ fu_lp ih_lp =>
      intro k hk hk2 hmu_lp ls hl
      refine lv_iload_n hx hb d_SL_hasMatchFor_2 rfl (lv_at hl 3 rfl) ?_
      refine lv_aload_n hx hb d_SL_hasMatchFor_3 rfl (lv_at hl 0 rfl) ?_
      refine va_get (D := D) (ci := 8) (v := .int (nI ct)) (C := R_SL) (T := F_SL) (N := 3) hx hb hts i_SL hown hK hP 0 rfl rfl 2 (by decide) (hts _ kf_SL_22) (fun _ h9 => h9) rfl d_SL_hasMatchFor_4 ?_
      refine z_cge (tgt := 38) hx hb d_SL_hasMatchFor_7 (by decide) (by omega) (by omega) (fun c_1 => ?_) (fun c_1 => ?_)
      · refine lv_iconst (v := zb false) hx hb d_SL_hasMatchFor_38 (by decide) ?_
        refine lv_toi (z := (zb (hm fw fh x0 y0 ct))) (congrArg zb (by rw [show ct = k by omega]; exact hk2.symm)) ?_
        exact W.zret (ty := .boolean) hx hb hr (zb_narrow _) (fun t ht hW => ⟨rfl, ht⟩) (fun q h => by cases h) d_SL_hasMatchFor_39
      · obtain ⟨g1, g2⟩ := hbd k
        refine lv_aload_n hx hb d_SL_hasMatchFor_10 rfl (lv_at hl 0 rfl) ?_
        refine va_get (D := D) (ci := 8) (v := .ref aw) (C := R_SL) (T := F_SL) (N := 3) hx hb hts i_SL hown hK hP 0 rfl rfl 0 (by decide) (hts _ kf_SL_13) (fun _ h9 => h9) rfl d_SL_hasMatchFor_11 ?_
        refine lv_iload_n hx hb d_SL_hasMatchFor_14 rfl (lv_at hl 3 rfl) ?_
        refine z_ild (j := k) hx hb hK hP 1 0 rfl rfl (by omega) (by omega) d_SL_hasMatchFor_15 ?_
        refine lv_iload_n hx hb d_SL_hasMatchFor_16 rfl (lv_at hl 1 rfl) ?_
        refine z_cgt (tgt := 32) hx hb d_SL_hasMatchFor_17 (by decide) (by omega) (by omega) (fun c_2 => ?_) (fun c_2 => ?_)
        · refine lv_iinc (v := nI (k + 1)) (lv' := [(3, .int (nI (k + 1))), (0, .ref sl), (1, .int (nI x0)), (2, .int (nI y0))]) hx hb d_SL_hasMatchFor_32 hl (k := 3) rfl (nI_1 _) (by decide) rfl (fun ls hl => ?_)
          refine lv_goto (tgt := 2) hx hb d_SL_hasMatchFor_35 (by decide) ?_
          exact ih_lp (k + 1) (by omega) (by rw [hm, hk2]; simp only [Bool.false_or, Bool.and_eq_false_iff, decide_eq_false_iff_not]; omega) (by omega) ls (lv_sub hl [1, 2, 3, 0] rfl)
        · refine lv_aload_n hx hb d_SL_hasMatchFor_20 rfl (lv_at hl 0 rfl) ?_
          refine va_get (D := D) (ci := 8) (v := .ref ah) (C := R_SL) (T := F_SL) (N := 3) hx hb hts i_SL hown hK hP 0 rfl rfl 1 (by decide) (hts _ kf_SL_19) (fun _ h9 => h9) rfl d_SL_hasMatchFor_21 ?_
          refine lv_iload_n hx hb d_SL_hasMatchFor_24 rfl (lv_at hl 3 rfl) ?_
          refine z_ild (j := k) hx hb hK hP 2 0 rfl rfl (by omega) (by omega) d_SL_hasMatchFor_25 ?_
          refine lv_iload_n hx hb d_SL_hasMatchFor_26 rfl (lv_at hl 2 rfl) ?_
          refine z_cgt (tgt := 32) hx hb d_SL_hasMatchFor_27 (by decide) (by omega) (by omega) (fun c_3 => ?_) (fun c_3 => ?_)
          · refine lv_iinc (v := nI (k + 1)) (lv' := [(3, .int (nI (k + 1))), (0, .ref sl), (1, .int (nI x0)), (2, .int (nI y0))]) hx hb d_SL_hasMatchFor_32 hl (k := 3) rfl (nI_1 _) (by decide) rfl (fun ls hl => ?_)
            refine lv_goto (tgt := 2) hx hb d_SL_hasMatchFor_35 (by decide) ?_
            exact ih_lp (k + 1) (by omega) (by rw [hm, hk2]; simp only [Bool.false_or, Bool.and_eq_false_iff, decide_eq_false_iff_not]; omega) (by omega) ls (lv_sub hl [1, 2, 3, 0] rfl)
          · refine lv_iconst (v := zb true) hx hb d_SL_hasMatchFor_30 (by decide) ?_
            have e9 : hm fw fh x0 y0 ct = true := by
              have e8 : hm fw fh x0 y0 (k + 1) = true := by rw [hm]; simp only [Bool.or_eq_true, Bool.and_eq_true, decide_eq_true_iff]; omega
              have e7 := hm_mono e8 (ct - (k + 1))
              rwa [show k + 1 + (ct - (k + 1)) = ct by omega] at e7
            refine lv_toi (z := (zb (hm fw fh x0 y0 ct))) (by rw [e9]) ?_
            exact W.zret (ty := .boolean) hx hb hr (zb_narrow _) (fun t ht hW => ⟨rfl, ht⟩) (fun q h => by cases h) d_SL_hasMatchFor_31
  exact lp _ 0 (Nat.zero_le _) rfl (Nat.le_refl _) ls (lv_sub hl [1, 2, 3, 0] rfl)
set_option maxHeartbeats 4000000 in
set_option maxRecDepth 100000 in
/-- ShapeList.dropMatchedBy -/
theorem c_SL_dropMatchedBy (l : Launch) (D : va_G) (sz : Nat) (sl aw ah : Nat) (cA : ClassId) (cap ct : Nat) (fw fh : Nat → Nat) (x0 y0 : Nat) (hcap : cap < 1000) (hct : ct ≤ cap) (hbd : ∀ i, fw i < 2 ^ 30 ∧ fh i < 2 ^ 30) (gx : x0 < 2 ^ 30) (gy : y0 < 2 ^ 30) : Met l y_SL_dropMatchedBy (wsA y_SL_dropMatchedBy b_SL_dropMatchedBy 5 none) ({ frames := 0, cells := 0, slots := 0, locals := 0 } : Room) (zP D [(cA, .int)] [(sl, .inr (8, [.ref aw, .ref ah, .int (nI ct)])), (aw, .inl (cA, cap, .inl (fun zk => nI (fw zk)))), (ah, .inl (cA, cap, .inl (fun zk => nI (fh zk))))] [.ref sl, .int (nI x0), .int (nI y0)] sz) (zQ none (zB D [(cA, .int)] (va_A [(sl, .inr (8, [.ref aw, .ref ah, .int (nI ct)])), (aw, .inl (cA, cap, .inl (fun zk => nI (fw zk)))), (ah, .inl (cA, cap, .inl (fun zk => nI (fh zk))))] sz) [(sl, .inr (8, [.ref aw, .ref ah, .int (nI ((dm x0 y0 fw fh ct).2.2))])), (aw, .inl (cA, cap, .inl (fun zk => nI (((dm x0 y0 fw fh ct).1) zk)))), (ah, .inl (cA, cap, .inl (fun zk => nI (((dm x0 y0 fw fh ct).2.1) zk))))]) (va_A [(sl, .inr (8, [.ref aw, .ref ah, .int (nI ct)])), (aw, .inl (cA, cap, .inl (fun zk => nI (fw zk)))), (ah, .inl (cA, cap, .inl (fun zk => nI (fh zk))))] sz)) 0 0 (va_A [(sl, .inr (8, [.ref aw, .ref ah, .int (nI ct)])), (aw, .inl (cA, cap, .inl (fun zk => nI (fw zk)))), (ah, .inl (cA, cap, .inl (fun zk => nI (fh zk))))] sz) := by
  refine Met.ofW (cc := b_SL_dropMatchedBy) (maxL := 5) (ret := none) (by decide) rfl ?_
  intro p e s m args below meth c s₁ Bd hml hv
  obtain ⟨rfl, hsz, hP, hK, hD0⟩ := hv
  have hx := Bd.exec
  have hb := Bd.bytes
  have hr := Bd.returns
  have hts : ∀ w ∈ lw_g, w.before _ s = true := fun w h => atoms_spec (ws := wsA y_SL_dropMatchedBy b_SL_dropMatchedBy 5 none) Bd.pre w (List.mem_cons_of_mem _ h)
  have hown : s.vm.findClass R_SL = some m.cls := findClass_of_methodNamed Bd.named
  have hlocks := Bd.notSynchronized
  obtain ⟨hD, hA, hS⟩ := z_start hsz hD0
  generalize va_A [(sl, .inr (8, [.ref aw, .ref ah, .int (nI ct)])), (aw, .inl (cA, cap, .inl (fun zk => nI (fw zk)))), (ah, .inl (cA, cap, .inl (fun zk => nI (fh zk))))] sz = A at hD hA hS ⊢
  have hl := lv_entry ([.ref sl, .int (nI x0), .int (nI y0)]) (n := 5) (Nat.le_of_ble_eq_true rfl)
  rw [lg_entry_eq]
  generalize (lg_sl ([.ref sl, .int (nI x0), .int (nI y0)]) ++ List.replicate (5 - (lg_sl ([.ref sl, .int (nI x0), .int (nI y0)])).length) Slot.unset).toArray = ls at hl ⊢
  have hl : lv_has ls 5 [(0, .ref sl), (1, .int (nI x0)), (2, .int (nI y0))] := hl
  have hP : va_P D classes [(sl, .inr (8, [.ref aw, .ref ah, .int (nI ct)])), (aw, .inl (cA, cap, .inl (fun zk => nI (fw zk)))), (ah, .inl (cA, cap, .inl (fun zk => nI (fh zk))))] s.heap := hP
  refine lv_iconst (v := nI 0) hx hb d_SL_dropMatchedBy_0 (by decide) ?_
  refine lv_istore_n (lv' := [(3, .int (nI 0)), (0, .ref sl), (1, .int (nI x0)), (2, .int (nI y0))]) hx hb d_SL_dropMatchedBy_1 rfl hl (by decide) rfl (fun ls hl => ?_)
  refine lv_iconst (v := nI 0) hx hb d_SL_dropMatchedBy_2 (by decide) ?_
  refine lv_istore (lv' := [(4, .int (nI 0)), (3, .int (nI 0)), (0, .ref sl), (1, .int (nI x0)), (2, .int (nI y0))]) hx hb d_SL_dropMatchedBy_3 hl (by decide) rfl (fun ls hl => ?_)
  have lp : ∀ (fu : Nat), ∀ (k : Nat) (vw : Nat → Nat) (vh : Nat → Nat) (st0 : Nat), (k ≤ ct) → (dm x0 y0 fw fh k = (vw, vh, st0)) → (ct - k + 1) ≤ fu → ∀ (H : Heap) (locs : List Loc), va_P D classes [(sl, .inr (8, [.ref aw, .ref ah, .int (nI ct)])), (aw, .inl (cA, cap, .inl (fun zk => nI (vw zk)))), (ah, .inl (cA, cap, .inl (fun zk => nI (vh zk))))] H → va_D A [(sl, .inr (8, [.ref aw, .ref ah, .int (nI ct)])), (aw, .inl (cA, cap, .inl (fun zk => nI (vw zk)))), (ah, .inl (cA, cap, .inl (fun zk => nI (vh zk))))] → va_S A s.heap H locs → ∀ (ls : Array Slot), lv_has ls 5 [(0, .ref sl), (1, .int (nI x0)), (2, .int (nI y0)), (3, .int (nI st0)), (4, .int (nI k))] → W p l e (headSpec (wsA y_SL_dropMatchedBy b_SL_dropMatchedBy 5 none) ({ frames := 0, cells := 0, slots := 0, locals := 0 } : Room)).room s m ([.ref sl, .int (nI x0), .int (nI y0)] : List Value).toArray below meth c H locs 0 0 (MQ below (zQ none (zB D [(cA, .int)] A [(sl, .inr (8, [.ref aw, .ref ah, .int (nI ((dm x0 y0 fw fh ct).2.2))])), (aw, .inl (cA, cap, .inl (fun zk => nI (((dm x0 y0 fw fh ct).1) zk)))), (ah, .inl (cA, cap, .inl (fun zk => nI (((dm x0 y0 fw fh ct).2.1) zk))))]) A) ([.ref sl, .int (nI x0), .int (nI y0)] : List Value).toArray s 0 0 A) (F0 m 5 ls []) := by
    intro fu
    induction fu with
    | zero =>
      intro k vw vh st0 hk hv hmu H locs hP hD hS ls hl
      exact absurd hmu (by omega)
    | succ fu_lp ih_lp =>
      intro k vw vh st0 hk hv hmu_lp H locs hP hD hS ls hl
      refine lv_iload hx hb d_SL_dropMatchedBy_5 (lv_at hl 4 rfl) ?_
      refine lv_aload_n hx hb d_SL_dropMatchedBy_7 rfl (lv_at hl 0 rfl) ?_
      refine va_get (D := D) (ci := 8) (v := .int (nI ct)) (C := R_SL) (T := F_SL) (N := 3) hx hb hts i_SL hown hK hP 0 rfl rfl 2 (by decide) (hts _ kf_SL_22) (fun _ h9 => h9) rfl d_SL_dropMatchedBy_8 ?_
      refine z_cge (tgt := 71) hx hb d_SL_dropMatchedBy_11 (by decide) (by omega) (by omega) (fun c_1 => ?_) (fun c_1 => ?_)
      · have e9 : dm x0 y0 fw fh ct = (vw, vh, st0) := by rw [← hv, show k = ct by omega]
        refine lv_aload_n hx hb d_SL_dropMatchedBy_71 rfl (lv_at hl 0 rfl) ?_
        refine lv_iload_n hx hb d_SL_dropMatchedBy_72 rfl (lv_at hl 3 rfl) ?_
        refine va_put (D := D) (ci := 8) (v := .int (nI st0)) (ty := .int) (C := R_SL) (T := F_SL) (N := 3) hx hb hts i_SL t_SL to_SL n_SL hown hK hP hD hS 0 rfl rfl 2 (by decide) (hts _ kf_SL_22) (fun _ h9 => h9) rfl (by decide +kernel) rfl rfl (Nat.le_of_ble_eq_true rfl) d_SL_dropMatchedBy_73 (fun H locs hP hD hS => ?_)
        have hP : va_P D classes [(sl, .inr (8, [.ref aw, .ref ah, .int (nI st0)])), (aw, .inl (cA, cap, .inl (fun zk => nI (vw zk)))), (ah, .inl (cA, cap, .inl (fun zk => nI (vh zk))))] H := hP
        have hD : va_D A [(sl, .inr (8, [.ref aw, .ref ah, .int (nI st0)])), (aw, .inl (cA, cap, .inl (fun zk => nI (vw zk)))), (ah, .inl (cA, cap, .inl (fun zk => nI (vh zk))))] := hD
        have hP : va_P D classes [(sl, .inr (8, [.ref aw, .ref ah, .int (nI ((dm x0 y0 fw fh ct).2.2))])), (aw, .inl (cA, cap, .inl (fun zk => nI (((dm x0 y0 fw fh ct).1) zk)))), (ah, .inl (cA, cap, .inl (fun zk => nI (((dm x0 y0 fw fh ct).2.1) zk))))] H := by rw [e9]; exact hP
        have hD : va_D A [(sl, .inr (8, [.ref aw, .ref ah, .int (nI ((dm x0 y0 fw fh ct).2.2))])), (aw, .inl (cA, cap, .inl (fun zk => nI (((dm x0 y0 fw fh ct).1) zk)))), (ah, .inl (cA, cap, .inl (fun zk => nI (((dm x0 y0 fw fh ct).2.1) zk))))] := by rw [e9]; exact hD
        exact W.vret hx hb hr (fun t ht hW => ⟨rfl, ⟨by rw [ht]; exact hP, va_K.moved hW.alike hK, hD⟩, hS.F ht⟩) hS.2.2 d_SL_dropMatchedBy_76
      · have hle := dm_le (x := x0) (y := y0) (fw := fw) (fh := fh) k
        have hb2 := dm_bd (x := x0) (y := y0) hbd k k
        rw [hv] at hle hb2
        dsimp only at hle hb2
        obtain ⟨g1, g2⟩ := hb2
        refine lv_aload_n hx hb d_SL_dropMatchedBy_14 rfl (lv_at hl 0 rfl) ?_
        refine va_get (D := D) (ci := 8) (v := .ref aw) (C := R_SL) (T := F_SL) (N := 3) hx hb hts i_SL hown hK hP 0 rfl rfl 0 (by decide) (hts _ kf_SL_13) (fun _ h9 => h9) rfl d_SL_dropMatchedBy_15 ?_
        refine lv_iload hx hb d_SL_dropMatchedBy_18 (lv_at hl 4 rfl) ?_
        refine z_ild (j := k) hx hb hK hP 1 0 rfl rfl (by omega) (by omega) d_SL_dropMatchedBy_20 ?_
        refine lv_iload_n hx hb d_SL_dropMatchedBy_21 rfl (lv_at hl 1 rfl) ?_
        refine z_clt (tgt := 36) hx hb d_SL_dropMatchedBy_22 (by decide) (by omega) (by omega) (fun c_2 => ?_) (fun c_2 => ?_)
        · refine lv_aload_n hx hb d_SL_dropMatchedBy_36 rfl (lv_at hl 0 rfl) ?_
          refine va_get (D := D) (ci := 8) (v := .ref aw) (C := R_SL) (T := F_SL) (N := 3) hx hb hts i_SL hown hK hP 0 rfl rfl 0 (by decide) (hts _ kf_SL_13) (fun _ h9 => h9) rfl d_SL_dropMatchedBy_37 ?_
          refine lv_iload_n hx hb d_SL_dropMatchedBy_40 rfl (lv_at hl 3 rfl) ?_
          refine lv_aload_n hx hb d_SL_dropMatchedBy_41 rfl (lv_at hl 0 rfl) ?_
          refine va_get (D := D) (ci := 8) (v := .ref aw) (C := R_SL) (T := F_SL) (N := 3) hx hb hts i_SL hown hK hP 0 rfl rfl 0 (by decide) (hts _ kf_SL_13) (fun _ h9 => h9) rfl d_SL_dropMatchedBy_42 ?_
          refine lv_iload hx hb d_SL_dropMatchedBy_45 (lv_at hl 4 rfl) ?_
          refine z_ild (j := k) hx hb hK hP 1 0 rfl rfl (by omega) (by omega) d_SL_dropMatchedBy_47 ?_
          refine z_ist (j := st0) (v := (vw k)) hx hb hK hP hD hS 1 0 rfl rfl (by omega) (by omega) d_SL_dropMatchedBy_48 (fun H locs hP hD hS => ?_)
          have hP : va_P D classes [(sl, .inr (8, [.ref aw, .ref ah, .int (nI ct)])), (aw, .inl (cA, cap, .inl (fun zk => nI ((va_up vw st0 (vw k)) zk)))), (ah, .inl (cA, cap, .inl (fun zk => nI (vh zk))))] H := hP
          have hD : va_D A [(sl, .inr (8, [.ref aw, .ref ah, .int (nI ct)])), (aw, .inl (cA, cap, .inl (fun zk => nI ((va_up vw st0 (vw k)) zk)))), (ah, .inl (cA, cap, .inl (fun zk => nI (vh zk))))] := hD
          refine lv_aload_n hx hb d_SL_dropMatchedBy_49 rfl (lv_at hl 0 rfl) ?_
          refine va_get (D := D) (ci := 8) (v := .ref ah) (C := R_SL) (T := F_SL) (N := 3) hx hb hts i_SL hown hK hP 0 rfl rfl 1 (by decide) (hts _ kf_SL_19) (fun _ h9 => h9) rfl d_SL_dropMatchedBy_50 ?_
          refine lv_iload_n hx hb d_SL_dropMatchedBy_53 rfl (lv_at hl 3 rfl) ?_
          refine lv_aload_n hx hb d_SL_dropMatchedBy_54 rfl (lv_at hl 0 rfl) ?_
          refine va_get (D := D) (ci := 8) (v := .ref ah) (C := R_SL) (T := F_SL) (N := 3) hx hb hts i_SL hown hK hP 0 rfl rfl 1 (by decide) (hts _ kf_SL_19) (fun _ h9 => h9) rfl d_SL_dropMatchedBy_55 ?_
          refine lv_iload hx hb d_SL_dropMatchedBy_58 (lv_at hl 4 rfl) ?_
          refine z_ild (j := k) hx hb hK hP 2 0 rfl rfl (by omega) (by omega) d_SL_dropMatchedBy_60 ?_
          refine z_ist (j := st0) (v := (vh k)) hx hb hK hP hD hS 2 0 rfl rfl (by omega) (by omega) d_SL_dropMatchedBy_61 (fun H locs hP hD hS => ?_)
          have hP : va_P D classes [(sl, .inr (8, [.ref aw, .ref ah, .int (nI ct)])), (aw, .inl (cA, cap, .inl (fun zk => nI ((va_up vw st0 (vw k)) zk)))), (ah, .inl (cA, cap, .inl (fun zk => nI ((va_up vh st0 (vh k)) zk))))] H := hP
          have hD : va_D A [(sl, .inr (8, [.ref aw, .ref ah, .int (nI ct)])), (aw, .inl (cA, cap, .inl (fun zk => nI ((va_up vw st0 (vw k)) zk)))), (ah, .inl (cA, cap, .inl (fun zk => nI ((va_up vh st0 (vh k)) zk))))] := hD
          refine lv_iinc (v := nI (st0 + 1)) (lv' := [(3, .int (nI (st0 + 1))), (0, .ref sl), (1, .int (nI x0)), (2, .int (nI y0)), (4, .int (nI k))]) hx hb d_SL_dropMatchedBy_62 hl (k := 3) rfl (nI_1 _) (by decide) rfl (fun ls hl => ?_)
          refine lv_iinc (v := nI (k + 1)) (lv' := [(4, .int (nI (k + 1))), (3, .int (nI (st0 + 1))), (0, .ref sl), (1, .int (nI x0)), (2, .int (nI y0))]) hx hb d_SL_dropMatchedBy_65 hl (k := 4) rfl (nI_1 _) (by decide) rfl (fun ls hl => ?_)
          refine lv_goto (tgt := 5) hx hb d_SL_dropMatchedBy_68 (by decide) ?_
          exact ih_lp (k + 1) (va_up vw st0 (vw k)) (va_up vh st0 (vh k)) (st0 + 1) (by omega) (by rw [dm, hv]; dsimp only; rw [if_pos (by omega)]) (by omega) _ _ hP hD hS ls (lv_sub hl [2, 3, 4, 1, 0] rfl)
        · refine lv_aload_n hx hb d_SL_dropMatchedBy_25 rfl (lv_at hl 0 rfl) ?_
          refine va_get (D := D) (ci := 8) (v := .ref ah) (C := R_SL) (T := F_SL) (N := 3) hx hb hts i_SL hown hK hP 0 rfl rfl 1 (by decide) (hts _ kf_SL_19) (fun _ h9 => h9) rfl d_SL_dropMatchedBy_26 ?_
          refine lv_iload hx hb d_SL_dropMatchedBy_29 (lv_at hl 4 rfl) ?_
          refine z_ild (j := k) hx hb hK hP 2 0 rfl rfl (by omega) (by omega) d_SL_dropMatchedBy_31 ?_
          refine lv_iload_n hx hb d_SL_dropMatchedBy_32 rfl (lv_at hl 2 rfl) ?_
          refine z_cge (tgt := 65) hx hb d_SL_dropMatchedBy_33 (by decide) (by omega) (by omega) (fun c_3 => ?_) (fun c_3 => ?_)
          · refine lv_iinc (v := nI (k + 1)) (lv' := [(4, .int (nI (k + 1))), (0, .ref sl), (1, .int (nI x0)), (2, .int (nI y0)), (3, .int (nI st0))]) hx hb d_SL_dropMatchedBy_65 hl (k := 4) rfl (nI_1 _) (by decide) rfl (fun ls hl => ?_)
            refine lv_goto (tgt := 5) hx hb d_SL_dropMatchedBy_68 (by decide) ?_
            exact ih_lp (k + 1) vw vh st0 (by omega) (by rw [dm, hv]; dsimp only; rw [if_neg (by omega)]) (by omega) _ _ hP hD hS ls (lv_sub hl [1, 2, 3, 4, 0] rfl)
          · refine lv_aload_n hx hb d_SL_dropMatchedBy_36 rfl (lv_at hl 0 rfl) ?_
            refine va_get (D := D) (ci := 8) (v := .ref aw) (C := R_SL) (T := F_SL) (N := 3) hx hb hts i_SL hown hK hP 0 rfl rfl 0 (by decide) (hts _ kf_SL_13) (fun _ h9 => h9) rfl d_SL_dropMatchedBy_37 ?_
            refine lv_iload_n hx hb d_SL_dropMatchedBy_40 rfl (lv_at hl 3 rfl) ?_
            refine lv_aload_n hx hb d_SL_dropMatchedBy_41 rfl (lv_at hl 0 rfl) ?_
            refine va_get (D := D) (ci := 8) (v := .ref aw) (C := R_SL) (T := F_SL) (N := 3) hx hb hts i_SL hown hK hP 0 rfl rfl 0 (by decide) (hts _ kf_SL_13) (fun _ h9 => h9) rfl d_SL_dropMatchedBy_42 ?_
            refine lv_iload hx hb d_SL_dropMatchedBy_45 (lv_at hl 4 rfl) ?_
            refine z_ild (j := k) hx hb hK hP 1 0 rfl rfl (by omega) (by omega) d_SL_dropMatchedBy_47 ?_
            refine z_ist (j := st0) (v := (vw k)) hx hb hK hP hD hS 1 0 rfl rfl (by omega) (by omega) d_SL_dropMatchedBy_48 (fun H locs hP hD hS => ?_)
            have hP : va_P D classes [(sl, .inr (8, [.ref aw, .ref ah, .int (nI ct)])), (aw, .inl (cA, cap, .inl (fun zk => nI ((va_up vw st0 (vw k)) zk)))), (ah, .inl (cA, cap, .inl (fun zk => nI (vh zk))))] H := hP
            have hD : va_D A [(sl, .inr (8, [.ref aw, .ref ah, .int (nI ct)])), (aw, .inl (cA, cap, .inl (fun zk => nI ((va_up vw st0 (vw k)) zk)))), (ah, .inl (cA, cap, .inl (fun zk => nI (vh zk))))] := hD
            refine lv_aload_n hx hb d_SL_dropMatchedBy_49 rfl (lv_at hl 0 rfl) ?_
            refine va_get (D := D) (ci := 8) (v := .ref ah) (C := R_SL) (T := F_SL) (N := 3) hx hb hts i_SL hown hK hP 0 rfl rfl 1 (by decide) (hts _ kf_SL_19) (fun _ h9 => h9) rfl d_SL_dropMatchedBy_50 ?_
            refine lv_iload_n hx hb d_SL_dropMatchedBy_53 rfl (lv_at hl 3 rfl) ?_
            refine lv_aload_n hx hb d_SL_dropMatchedBy_54 rfl (lv_at hl 0 rfl) ?_
            refine va_get (D := D) (ci := 8) (v := .ref ah) (C := R_SL) (T := F_SL) (N := 3) hx hb hts i_SL hown hK hP 0 rfl rfl 1 (by decide) (hts _ kf_SL_19) (fun _ h9 => h9) rfl d_SL_dropMatchedBy_55 ?_
            refine lv_iload hx hb d_SL_dropMatchedBy_58 (lv_at hl 4 rfl) ?_
            refine z_ild (j := k) hx hb hK hP 2 0 rfl rfl (by omega) (by omega) d_SL_dropMatchedBy_60 ?_
            refine z_ist (j := st0) (v := (vh k)) hx hb hK hP hD hS 2 0 rfl rfl (by omega) (by omega) d_SL_dropMatchedBy_61 (fun H locs hP hD hS => ?_)
            have hP : va_P D classes [(sl, .inr (8, [.ref aw, .ref ah, .int (nI ct)])), (aw, .inl (cA, cap, .inl (fun zk => nI ((va_up vw st0 (vw k)) zk)))), (ah, .inl (cA, cap, .inl (fun zk => nI ((va_up vh st0 (vh k)) zk))))] H := hP
            have hD : va_D A [(sl, .inr (8, [.ref aw, .ref ah, .int (nI ct)])), (aw, .inl (cA, cap, .inl (fun zk => nI ((va_up vw st0 (vw k)) zk)))), (ah, .inl (cA, cap, .inl (fun zk => nI ((va_up vh st0 (vh k)) zk))))] := hD
            refine lv_iinc (v := nI (st0 + 1)) (lv' := [(3, .int (nI (st0 + 1))), (0, .ref sl), (1, .int (nI x0)), (2, .int (nI y0)), (4, .int (nI k))]) hx hb d_SL_dropMatchedBy_62 hl (k := 3) rfl (nI_1 _) (by decide) rfl (fun ls hl => ?_)
            refine lv_iinc (v := nI (k + 1)) (lv' := [(4, .int (nI (k + 1))), (3, .int (nI (st0 + 1))), (0, .ref sl), (1, .int (nI x0)), (2, .int (nI y0))]) hx hb d_SL_dropMatchedBy_65 hl (k := 4) rfl (nI_1 _) (by decide) rfl (fun ls hl => ?_)
            refine lv_goto (tgt := 5) hx hb d_SL_dropMatchedBy_68 (by decide) ?_
            exact ih_lp (k + 1) (va_up vw st0 (vw k)) (va_up vh st0 (vh k)) (st0 + 1) (by omega) (by rw [dm, hv]; dsimp only; rw [if_pos (by omega)]) (by omega) _ _ hP hD hS ls (lv_sub hl [2, 3, 4, 1, 0] rfl)
  exact lp _ 0 fw fh 0 (Nat.zero_le _) rfl (Nat.le_refl _) _ _ hP hD hS ls (lv_sub hl [2, 3, 4, 1, 0] rfl)
set_option maxHeartbeats 4000000 in
set_option maxRecDepth 100000 in
/-- ShapeList.insert -/
theorem c_SL_insert (l : Launch) (D : va_G) (sz : Nat) (sl aw ah : Nat) (cA : ClassId) (cap ct : Nat) (fw fh : Nat → Nat) (x0 y0 : Nat) (hcap : cap < 1000) (hct : ct < cap) (hbd : ∀ i, fw i < 2 ^ 30 ∧ fh i < 2 ^ 30) (gx : x0 < 2 ^ 30) (gy : y0 < 2 ^ 30) : Met l y_SL_insert (wsA y_SL_insert b_SL_insert 4 none) ({ frames := 0, cells := 0, slots := 0, locals := 0 } : Room) (zP D [(cA, .int)] [(sl, .inr (8, [.ref aw, .ref ah, .int (nI ct)])), (aw, .inl (cA, cap, .inl (fun zk => nI (fw zk)))), (ah, .inl (cA, cap, .inl (fun zk => nI (fh zk))))] [.ref sl, .int (nI x0), .int (nI y0)] sz) (zQ none (zB D [(cA, .int)] (va_A [(sl, .inr (8, [.ref aw, .ref ah, .int (nI ct)])), (aw, .inl (cA, cap, .inl (fun zk => nI (fw zk)))), (ah, .inl (cA, cap, .inl (fun zk => nI (fh zk))))] sz) [(sl, .inr (8, [.ref aw, .ref ah, .int (nI (ct + 1))])), (aw, .inl (cA, cap, .inl (fun zk => nI (((ins x0 y0 ct fw fh).1) zk)))), (ah, .inl (cA, cap, .inl (fun zk => nI (((ins x0 y0 ct fw fh).2) zk))))]) (va_A [(sl, .inr (8, [.ref aw, .ref ah, .int (nI ct)])), (aw, .inl (cA, cap, .inl (fun zk => nI (fw zk)))), (ah, .inl (cA, cap, .inl (fun zk => nI (fh zk))))] sz)) 0 0 (va_A [(sl, .inr (8, [.ref aw, .ref ah, .int (nI ct)])), (aw, .inl (cA, cap, .inl (fun zk => nI (fw zk)))), (ah, .inl (cA, cap, .inl (fun zk => nI (fh zk))))] sz) := by
  refine Met.ofW (cc := b_SL_insert) (maxL := 4) (ret := none) (by decide) rfl ?_
  intro p e s m args below meth c s₁ Bd hml hv
  obtain ⟨rfl, hsz, hP, hK, hD0⟩ := hv
  have hx := Bd.exec
  have hb := Bd.bytes
  have hr := Bd.returns
  have hts : ∀ w ∈ lw_g, w.before _ s = true := fun w h => atoms_spec (ws := wsA y_SL_insert b_SL_insert 4 none) Bd.pre w (List.mem_cons_of_mem _ h)
  have hown : s.vm.findClass R_SL = some m.cls := findClass_of_methodNamed Bd.named
  have hlocks := Bd.notSynchronized
  obtain ⟨hD, hA, hS⟩ := z_start hsz hD0
  generalize va_A [(sl, .inr (8, [.ref aw, .ref ah, .int (nI ct)])), (aw, .inl (cA, cap, .inl (fun zk => nI (fw zk)))), (ah, .inl (cA, cap, .inl (fun zk => nI (fh zk))))] sz = A at hD hA hS ⊢
  have hl := lv_entry ([.ref sl, .int (nI x0), .int (nI y0)]) (n := 4) (Nat.le_of_ble_eq_true rfl)
  rw [lg_entry_eq]
  generalize (lg_sl ([.ref sl, .int (nI x0), .int (nI y0)]) ++ List.replicate (4 - (lg_sl ([.ref sl, .int (nI x0), .int (nI y0)])).length) Slot.unset).toArray = ls at hl ⊢
  have hl : lv_has ls 4 [(0, .ref sl), (1, .int (nI x0)), (2, .int (nI y0))] := hl
  have hP : va_P D classes [(sl, .inr (8, [.ref aw, .ref ah, .int (nI ct)])), (aw, .inl (cA, cap, .inl (fun zk => nI (fw zk)))), (ah, .inl (cA, cap, .inl (fun zk => nI (fh zk))))] s.heap := hP
  refine lv_aload_n hx hb d_SL_insert_0 rfl (lv_at hl 0 rfl) ?_
  refine va_get (D := D) (ci := 8) (v := .int (nI ct)) (C := R_SL) (T := F_SL) (N := 3) hx hb hts i_SL hown hK hP 0 rfl rfl 2 (by decide) (hts _ kf_SL_22) (fun _ h9 => h9) rfl d_SL_insert_1 ?_
  refine lv_istore_n (lv' := [(3, .int (nI ct)), (0, .ref sl), (1, .int (nI x0)), (2, .int (nI y0))]) hx hb d_SL_insert_4 rfl hl (by decide) rfl (fun ls hl => ?_)
  have lp : ∀ (fu : Nat), ∀ (k : Nat) (vw : Nat → Nat) (vh : Nat → Nat), (k ≤ ct) → (ins x0 y0 k vw vh = ins x0 y0 ct fw fh) → (∀ i, vw i < 2 ^ 30 ∧ vh i < 2 ^ 30) → (k + 1) ≤ fu → ∀ (H : Heap) (locs : List Loc), va_P D classes [(sl, .inr (8, [.ref aw, .ref ah, .int (nI ct)])), (aw, .inl (cA, cap, .inl (fun zk => nI (vw zk)))), (ah, .inl (cA, cap, .inl (fun zk => nI (vh zk))))] H → va_D A [(sl, .inr (8, [.ref aw, .ref ah, .int (nI ct)])), (aw, .inl (cA, cap, .inl (fun zk => nI (vw zk)))), (ah, .inl (cA, cap, .inl (fun zk => nI (vh zk))))] → va_S A s.heap H locs → ∀ (ls : Array Slot), lv_has ls 4 [(0, .ref sl), (1, .int (nI x0)), (2, .int (nI y0)), (3, .int (nI k))] → W p l e (headSpec (wsA y_SL_insert b_SL_insert 4 none) ({ frames := 0, cells := 0, slots := 0, locals := 0 } : Room)).room s m ([.ref sl, .int (nI x0), .int (nI y0)] : List Value).toArray below meth c H locs 0 0 (MQ below (zQ none (zB D [(cA, .int)] A [(sl, .inr (8, [.ref aw, .ref ah, .int (nI (ct + 1))])), (aw, .inl (cA, cap, .inl (fun zk => nI (((ins x0 y0 ct fw fh).1) zk)))), (ah, .inl (cA, cap, .inl (fun zk => nI (((ins x0 y0 ct fw fh).2) zk))))]) A) ([.ref sl, .int (nI x0), .int (nI y0)] : List Value).toArray s 0 0 A) (F0 m 5 ls []) := by
    intro fu
    induction fu with
    | zero =>
      intro k vw vh hk hv hvb hmu H locs hP hD hS ls hl
      exact absurd hmu (by omega)
    | succ fu_lp ih_lp =>
      intro k vw vh hk hv hvb hmu_lp H locs hP hD hS ls hl
      refine lv_iload_n hx hb d_SL_insert_5 rfl (lv_at hl 3 rfl) ?_
      refine z_0le (tgt := 55) hx hb d_SL_insert_6 (by decide) (by omega) (fun c_1 => ?_) (fun c_1 => ?_)
      · subst c_1
        have e9 : ins x0 y0 ct fw fh = (va_up vw 0 x0, va_up vh 0 y0) := by rw [← hv]; rfl
        refine lv_aload_n hx hb d_SL_insert_55 rfl (lv_at hl 0 rfl) ?_
        refine va_get (D := D) (ci := 8) (v := .ref aw) (C := R_SL) (T := F_SL) (N := 3) hx hb hts i_SL hown hK hP 0 rfl rfl 0 (by decide) (hts _ kf_SL_13) (fun _ h9 => h9) rfl d_SL_insert_56 ?_
        refine lv_iload_n hx hb d_SL_insert_59 rfl (lv_at hl 3 rfl) ?_
        refine lv_iload_n hx hb d_SL_insert_60 rfl (lv_at hl 1 rfl) ?_
        refine z_ist (j := 0) (v := x0) hx hb hK hP hD hS 1 0 rfl rfl (by omega) (by omega) d_SL_insert_61 (fun H locs hP hD hS => ?_)
        have hP : va_P D classes [(sl, .inr (8, [.ref aw, .ref ah, .int (nI ct)])), (aw, .inl (cA, cap, .inl (fun zk => nI ((va_up vw 0 x0) zk)))), (ah, .inl (cA, cap, .inl (fun zk => nI (vh zk))))] H := hP
        have hD : va_D A [(sl, .inr (8, [.ref aw, .ref ah, .int (nI ct)])), (aw, .inl (cA, cap, .inl (fun zk => nI ((va_up vw 0 x0) zk)))), (ah, .inl (cA, cap, .inl (fun zk => nI (vh zk))))] := hD
        refine lv_aload_n hx hb d_SL_insert_62 rfl (lv_at hl 0 rfl) ?_
        refine va_get (D := D) (ci := 8) (v := .ref ah) (C := R_SL) (T := F_SL) (N := 3) hx hb hts i_SL hown hK hP 0 rfl rfl 1 (by decide) (hts _ kf_SL_19) (fun _ h9 => h9) rfl d_SL_insert_63 ?_
        refine lv_iload_n hx hb d_SL_insert_66 rfl (lv_at hl 3 rfl) ?_
        refine lv_iload_n hx hb d_SL_insert_67 rfl (lv_at hl 2 rfl) ?_
        refine z_ist (j := 0) (v := y0) hx hb hK hP hD hS 2 0 rfl rfl (by omega) (by omega) d_SL_insert_68 (fun H locs hP hD hS => ?_)
        have hP : va_P D classes [(sl, .inr (8, [.ref aw, .ref ah, .int (nI ct)])), (aw, .inl (cA, cap, .inl (fun zk => nI ((va_up vw 0 x0) zk)))), (ah, .inl (cA, cap, .inl (fun zk => nI ((va_up vh 0 y0) zk))))] H := hP
        have hD : va_D A [(sl, .inr (8, [.ref aw, .ref ah, .int (nI ct)])), (aw, .inl (cA, cap, .inl (fun zk => nI ((va_up vw 0 x0) zk)))), (ah, .inl (cA, cap, .inl (fun zk => nI ((va_up vh 0 y0) zk))))] := hD
        refine lv_aload_n hx hb d_SL_insert_69 rfl (lv_at hl 0 rfl) ?_
        refine lv_dup hx hb d_SL_insert_70 rfl ?_
        refine va_get (D := D) (ci := 8) (v := .int (nI ct)) (C := R_SL) (T := F_SL) (N := 3) hx hb hts i_SL hown hK hP 0 rfl rfl 2 (by decide) (hts _ kf_SL_22) (fun _ h9 => h9) rfl d_SL_insert_71 ?_
        refine lv_iconst (v := nI 1) hx hb d_SL_insert_74 (by decide) ?_
        refine z_add hx hb d_SL_insert_75 ?_
        refine va_put (D := D) (ci := 8) (v := .int (nI (ct + 1))) (ty := .int) (C := R_SL) (T := F_SL) (N := 3) hx hb hts i_SL t_SL to_SL n_SL hown hK hP hD hS 0 rfl rfl 2 (by decide) (hts _ kf_SL_22) (fun _ h9 => h9) rfl (by decide +kernel) rfl rfl (Nat.le_of_ble_eq_true rfl) d_SL_insert_76 (fun H locs hP hD hS => ?_)
        have hP : va_P D classes [(sl, .inr (8, [.ref aw, .ref ah, .int (nI (ct + 1))])), (aw, .inl (cA, cap, .inl (fun zk => nI ((va_up vw 0 x0) zk)))), (ah, .inl (cA, cap, .inl (fun zk => nI ((va_up vh 0 y0) zk))))] H := hP
        have hD : va_D A [(sl, .inr (8, [.ref aw, .ref ah, .int (nI (ct + 1))])), (aw, .inl (cA, cap, .inl (fun zk => nI ((va_up vw 0 x0) zk)))), (ah, .inl (cA, cap, .inl (fun zk => nI ((va_up vh 0 y0) zk))))] := hD
        have hP : va_P D classes [(sl, .inr (8, [.ref aw, .ref ah, .int (nI (ct + 1))])), (aw, .inl (cA, cap, .inl (fun zk => nI (((ins x0 y0 ct fw fh).1) zk)))), (ah, .inl (cA, cap, .inl (fun zk => nI (((ins x0 y0 ct fw fh).2) zk))))] H := by rw [e9]; exact hP
        have hD : va_D A [(sl, .inr (8, [.ref aw, .ref ah, .int (nI (ct + 1))])), (aw, .inl (cA, cap, .inl (fun zk => nI (((ins x0 y0 ct fw fh).1) zk)))), (ah, .inl (cA, cap, .inl (fun zk => nI (((ins x0 y0 ct fw fh).2) zk))))] := by rw [e9]; exact hD
        exact W.vret hx hb hr (fun t ht hW => ⟨rfl, ⟨by rw [ht]; exact hP, va_K.moved hW.alike hK, hD⟩, hS.F ht⟩) hS.2.2 d_SL_insert_79
      · obtain ⟨k, rfl⟩ : ∃ k2, k = k2 + 1 := ⟨k - 1, by omega⟩
        have g1 := (hvb k).1
        have g2 := (hvb k).2
        refine lv_aload_n hx hb d_SL_insert_9 rfl (lv_at hl 0 rfl) ?_
        refine va_get (D := D) (ci := 8) (v := .ref aw) (C := R_SL) (T := F_SL) (N := 3) hx hb hts i_SL hown hK hP 0 rfl rfl 0 (by decide) (hts _ kf_SL_13) (fun _ h9 => h9) rfl d_SL_insert_10 ?_
        refine lv_iload_n hx hb d_SL_insert_13 rfl (lv_at hl 3 rfl) ?_
        refine lv_iconst (v := nI 1) hx hb d_SL_insert_14 (by decide) ?_
        refine z_sub hx hb d_SL_insert_15 (by omega) ?_
        refine lv_toi (z := nI k) (congrArg nI (by omega)) ?_
        refine z_ild (j := k) hx hb hK hP 1 0 rfl rfl (by omega) (by omega) d_SL_insert_16 ?_
        refine lv_iload_n hx hb d_SL_insert_17 rfl (lv_at hl 1 rfl) ?_
        refine z_cle (tgt := 55) hx hb d_SL_insert_18 (by decide) (by omega) (by omega) (fun c_1 => ?_) (fun c_1 => ?_)
        · have e9 : ins x0 y0 ct fw fh = (va_up vw (k + 1) x0, va_up vh (k + 1) y0) := by rw [← hv, ins, if_neg (by omega)]
          refine lv_aload_n hx hb d_SL_insert_55 rfl (lv_at hl 0 rfl) ?_
          refine va_get (D := D) (ci := 8) (v := .ref aw) (C := R_SL) (T := F_SL) (N := 3) hx hb hts i_SL hown hK hP 0 rfl rfl 0 (by decide) (hts _ kf_SL_13) (fun _ h9 => h9) rfl d_SL_insert_56 ?_
          refine lv_iload_n hx hb d_SL_insert_59 rfl (lv_at hl 3 rfl) ?_
          refine lv_iload_n hx hb d_SL_insert_60 rfl (lv_at hl 1 rfl) ?_
          refine z_ist (j := (k + 1)) (v := x0) hx hb hK hP hD hS 1 0 rfl rfl (by omega) (by omega) d_SL_insert_61 (fun H locs hP hD hS => ?_)
          have hP : va_P D classes [(sl, .inr (8, [.ref aw, .ref ah, .int (nI ct)])), (aw, .inl (cA, cap, .inl (fun zk => nI ((va_up vw (k + 1) x0) zk)))), (ah, .inl (cA, cap, .inl (fun zk => nI (vh zk))))] H := hP
          have hD : va_D A [(sl, .inr (8, [.ref aw, .ref ah, .int (nI ct)])), (aw, .inl (cA, cap, .inl (fun zk => nI ((va_up vw (k + 1) x0) zk)))), (ah, .inl (cA, cap, .inl (fun zk => nI (vh zk))))] := hD
          refine lv_aload_n hx hb d_SL_insert_62 rfl (lv_at hl 0 rfl) ?_
          refine va_get (D := D) (ci := 8) (v := .ref ah) (C := R_SL) (T := F_SL) (N := 3) hx hb hts i_SL hown hK hP 0 rfl rfl 1 (by decide) (hts _ kf_SL_19) (fun _ h9 => h9) rfl d_SL_insert_63 ?_
          refine lv_iload_n hx hb d_SL_insert_66 rfl (lv_at hl 3 rfl) ?_
          refine lv_iload_n hx hb d_SL_insert_67 rfl (lv_at hl 2 rfl) ?_
          refine z_ist (j := (k + 1)) (v := y0) hx hb hK hP hD hS 2 0 rfl rfl (by omega) (by omega) d_SL_insert_68 (fun H locs hP hD hS => ?_)
          have hP : va_P D classes [(sl, .inr (8, [.ref aw, .ref ah, .int (nI ct)])), (aw, .inl (cA, cap, .inl (fun zk => nI ((va_up vw (k + 1) x0) zk)))), (ah, .inl (cA, cap, .inl (fun zk => nI ((va_up vh (k + 1) y0) zk))))] H := hP
          have hD : va_D A [(sl, .inr (8, [.ref aw, .ref ah, .int (nI ct)])), (aw, .inl (cA, cap, .inl (fun zk => nI ((va_up vw (k + 1) x0) zk)))), (ah, .inl (cA, cap, .inl (fun zk => nI ((va_up vh (k + 1) y0) zk))))] := hD
          refine lv_aload_n hx hb d_SL_insert_69 rfl (lv_at hl 0 rfl) ?_
          refine lv_dup hx hb d_SL_insert_70 rfl ?_
          refine va_get (D := D) (ci := 8) (v := .int (nI ct)) (C := R_SL) (T := F_SL) (N := 3) hx hb hts i_SL hown hK hP 0 rfl rfl 2 (by decide) (hts _ kf_SL_22) (fun _ h9 => h9) rfl d_SL_insert_71 ?_
          refine lv_iconst (v := nI 1) hx hb d_SL_insert_74 (by decide) ?_
          refine z_add hx hb d_SL_insert_75 ?_
          refine va_put (D := D) (ci := 8) (v := .int (nI (ct + 1))) (ty := .int) (C := R_SL) (T := F_SL) (N := 3) hx hb hts i_SL t_SL to_SL n_SL hown hK hP hD hS 0 rfl rfl 2 (by decide) (hts _ kf_SL_22) (fun _ h9 => h9) rfl (by decide +kernel) rfl rfl (Nat.le_of_ble_eq_true rfl) d_SL_insert_76 (fun H locs hP hD hS => ?_)
          have hP : va_P D classes [(sl, .inr (8, [.ref aw, .ref ah, .int (nI (ct + 1))])), (aw, .inl (cA, cap, .inl (fun zk => nI ((va_up vw (k + 1) x0) zk)))), (ah, .inl (cA, cap, .inl (fun zk => nI ((va_up vh (k + 1) y0) zk))))] H := hP
          have hD : va_D A [(sl, .inr (8, [.ref aw, .ref ah, .int (nI (ct + 1))])), (aw, .inl (cA, cap, .inl (fun zk => nI ((va_up vw (k + 1) x0) zk)))), (ah, .inl (cA, cap, .inl (fun zk => nI ((va_up vh (k + 1) y0) zk))))] := hD
          have hP : va_P D classes [(sl, .inr (8, [.ref aw, .ref ah, .int (nI (ct + 1))])), (aw, .inl (cA, cap, .inl (fun zk => nI (((ins x0 y0 ct fw fh).1) zk)))), (ah, .inl (cA, cap, .inl (fun zk => nI (((ins x0 y0 ct fw fh).2) zk))))] H := by rw [e9]; exact hP
          have hD : va_D A [(sl, .inr (8, [.ref aw, .ref ah, .int (nI (ct + 1))])), (aw, .inl (cA, cap, .inl (fun zk => nI (((ins x0 y0 ct fw fh).1) zk)))), (ah, .inl (cA, cap, .inl (fun zk => nI (((ins x0 y0 ct fw fh).2) zk))))] := by rw [e9]; exact hD
          exact W.vret hx hb hr (fun t ht hW => ⟨rfl, ⟨by rw [ht]; exact hP, va_K.moved hW.alike hK, hD⟩, hS.F ht⟩) hS.2.2 d_SL_insert_79
        · refine lv_aload_n hx hb d_SL_insert_21 rfl (lv_at hl 0 rfl) ?_
          refine va_get (D := D) (ci := 8) (v := .ref aw) (C := R_SL) (T := F_SL) (N := 3) hx hb hts i_SL hown hK hP 0 rfl rfl 0 (by decide) (hts _ kf_SL_13) (fun _ h9 => h9) rfl d_SL_insert_22 ?_
          refine lv_iload_n hx hb d_SL_insert_25 rfl (lv_at hl 3 rfl) ?_
          refine lv_aload_n hx hb d_SL_insert_26 rfl (lv_at hl 0 rfl) ?_
          refine va_get (D := D) (ci := 8) (v := .ref aw) (C := R_SL) (T := F_SL) (N := 3) hx hb hts i_SL hown hK hP 0 rfl rfl 0 (by decide) (hts _ kf_SL_13) (fun _ h9 => h9) rfl d_SL_insert_27 ?_
          refine lv_iload_n hx hb d_SL_insert_30 rfl (lv_at hl 3 rfl) ?_
          refine lv_iconst (v := nI 1) hx hb d_SL_insert_31 (by decide) ?_
          refine z_sub hx hb d_SL_insert_32 (by omega) ?_
          refine lv_toi (z := nI k) (congrArg nI (by omega)) ?_
          refine z_ild (j := k) hx hb hK hP 1 0 rfl rfl (by omega) (by omega) d_SL_insert_33 ?_
          refine z_ist (j := (k + 1)) (v := (vw k)) hx hb hK hP hD hS 1 0 rfl rfl (by omega) (by omega) d_SL_insert_34 (fun H locs hP hD hS => ?_)
          have hP : va_P D classes [(sl, .inr (8, [.ref aw, .ref ah, .int (nI ct)])), (aw, .inl (cA, cap, .inl (fun zk => nI ((va_up vw (k + 1) (vw k)) zk)))), (ah, .inl (cA, cap, .inl (fun zk => nI (vh zk))))] H := hP
          have hD : va_D A [(sl, .inr (8, [.ref aw, .ref ah, .int (nI ct)])), (aw, .inl (cA, cap, .inl (fun zk => nI ((va_up vw (k + 1) (vw k)) zk)))), (ah, .inl (cA, cap, .inl (fun zk => nI (vh zk))))] := hD
          refine lv_aload_n hx hb d_SL_insert_35 rfl (lv_at hl 0 rfl) ?_
          refine va_get (D := D) (ci := 8) (v := .ref ah) (C := R_SL) (T := F_SL) (N := 3) hx hb hts i_SL hown hK hP 0 rfl rfl 1 (by decide) (hts _ kf_SL_19) (fun _ h9 => h9) rfl d_SL_insert_36 ?_
          refine lv_iload_n hx hb d_SL_insert_39 rfl (lv_at hl 3 rfl) ?_
          refine lv_aload_n hx hb d_SL_insert_40 rfl (lv_at hl 0 rfl) ?_
          refine va_get (D := D) (ci := 8) (v := .ref ah) (C := R_SL) (T := F_SL) (N := 3) hx hb hts i_SL hown hK hP 0 rfl rfl 1 (by decide) (hts _ kf_SL_19) (fun _ h9 => h9) rfl d_SL_insert_41 ?_
          refine lv_iload_n hx hb d_SL_insert_44 rfl (lv_at hl 3 rfl) ?_
          refine lv_iconst (v := nI 1) hx hb d_SL_insert_45 (by decide) ?_
          refine z_sub hx hb d_SL_insert_46 (by omega) ?_
          refine lv_toi (z := nI k) (congrArg nI (by omega)) ?_
          refine z_ild (j := k) hx hb hK hP 2 0 rfl rfl (by omega) (by omega) d_SL_insert_47 ?_
          refine z_ist (j := (k + 1)) (v := (vh k)) hx hb hK hP hD hS 2 0 rfl rfl (by omega) (by omega) d_SL_insert_48 (fun H locs hP hD hS => ?_)
          have hP : va_P D classes [(sl, .inr (8, [.ref aw, .ref ah, .int (nI ct)])), (aw, .inl (cA, cap, .inl (fun zk => nI ((va_up vw (k + 1) (vw k)) zk)))), (ah, .inl (cA, cap, .inl (fun zk => nI ((va_up vh (k + 1) (vh k)) zk))))] H := hP
          have hD : va_D A [(sl, .inr (8, [.ref aw, .ref ah, .int (nI ct)])), (aw, .inl (cA, cap, .inl (fun zk => nI ((va_up vw (k + 1) (vw k)) zk)))), (ah, .inl (cA, cap, .inl (fun zk => nI ((va_up vh (k + 1) (vh k)) zk))))] := hD
          refine lv_iinc (v := nI k) (lv' := [(3, .int (nI k)), (0, .ref sl), (1, .int (nI x0)), (2, .int (nI y0))]) hx hb d_SL_insert_49 hl (k := 3) rfl (pk_m1 k) (by decide) rfl (fun ls hl => ?_)
          refine lv_goto (tgt := 5) hx hb d_SL_insert_52 (by decide) ?_
          exact ih_lp k (va_up vw (k + 1) (vw k)) (va_up vh (k + 1) (vh k)) (by omega) (by rw [← hv, ins, if_pos (by omega)]) (fun i => ⟨up_lt (hvb i).1 g1, up_lt (hvb i).2 g2⟩) (by omega) _ _ hP hD hS ls (lv_sub hl [1, 2, 3, 0] rfl)
  exact lp _ ct fw fh (Nat.le_refl _) rfl hbd (Nat.le_refl _) _ _ hP hD hS ls (lv_sub hl [1, 2, 3, 0] rfl)
set_option maxHeartbeats 4000000 in
set_option maxRecDepth 100000 in
/-- ShapeList.offer -/
theorem c_SL_offer (l : Launch) (D : va_G) (sz : Nat) (sl aw ah : Nat) (cA : ClassId) (cap ct : Nat) (fw fh : Nat → Nat) (x0 y0 : Nat) (hcap : cap < 1000) (hct : ct ≤ cap) (hbd : ∀ i, fw i < 2 ^ 30 ∧ fh i < 2 ^ 30) (gx : x0 < 2 ^ 30) (gy : y0 < 2 ^ 30) : Met l y_SL_offer (wsA y_SL_offer b_SL_offer 3 none) ({ frames := 1, cells := 0, slots := 0, locals := 24 } : Room) (zP D [(cA, .int)] [(sl, .inr (8, [.ref aw, .ref ah, .int (nI ct)])), (aw, .inl (cA, cap, .inl (fun zk => nI (fw zk)))), (ah, .inl (cA, cap, .inl (fun zk => nI (fh zk))))] [.ref sl, .int (nI x0), .int (nI y0)] sz) (zQ none (zB D [(cA, .int)] (va_A [(sl, .inr (8, [.ref aw, .ref ah, .int (nI ct)])), (aw, .inl (cA, cap, .inl (fun zk => nI (fw zk)))), (ah, .inl (cA, cap, .inl (fun zk => nI (fh zk))))] sz) [(sl, .inr (8, [.ref aw, .ref ah, .int (nI ((ofr cap x0 y0 (fw, fh, ct)).2.2))])), (aw, .inl (cA, cap, .inl (fun zk => nI (((ofr cap x0 y0 (fw, fh, ct)).1) zk)))), (ah, .inl (cA, cap, .inl (fun zk => nI (((ofr cap x0 y0 (fw, fh, ct)).2.1) zk))))]) (va_A [(sl, .inr (8, [.ref aw, .ref ah, .int (nI ct)])), (aw, .inl (cA, cap, .inl (fun zk => nI (fw zk)))), (ah, .inl (cA, cap, .inl (fun zk => nI (fh zk))))] sz)) 0 0 (va_A [(sl, .inr (8, [.ref aw, .ref ah, .int (nI ct)])), (aw, .inl (cA, cap, .inl (fun zk => nI (fw zk)))), (ah, .inl (cA, cap, .inl (fun zk => nI (fh zk))))] sz) := by
  refine Met.ofW (cc := b_SL_offer) (maxL := 3) (ret := none) (by decide) rfl ?_
  intro p e s m args below meth c s₁ Bd hml hv
  obtain ⟨rfl, hsz, hP, hK, hD0⟩ := hv
  have hx := Bd.exec
  have hb := Bd.bytes
  have hr := Bd.returns
  have hts : ∀ w ∈ lw_g, w.before _ s = true := fun w h => atoms_spec (ws := wsA y_SL_offer b_SL_offer 3 none) Bd.pre w (List.mem_cons_of_mem _ h)
  have hown : s.vm.findClass R_SL = some m.cls := findClass_of_methodNamed Bd.named
  have hlocks := Bd.notSynchronized
  obtain ⟨hD, hA, hS⟩ := z_start hsz hD0
  generalize va_A [(sl, .inr (8, [.ref aw, .ref ah, .int (nI ct)])), (aw, .inl (cA, cap, .inl (fun zk => nI (fw zk)))), (ah, .inl (cA, cap, .inl (fun zk => nI (fh zk))))] sz = A at hD hA hS ⊢
  have hl := lv_entry ([.ref sl, .int (nI x0), .int (nI y0)]) (n := 3) (Nat.le_of_ble_eq_true rfl)
  rw [lg_entry_eq]
  generalize (lg_sl ([.ref sl, .int (nI x0), .int (nI y0)]) ++ List.replicate (3 - (lg_sl ([.ref sl, .int (nI x0), .int (nI y0)])).length) Slot.unset).toArray = ls at hl ⊢
  have hl : lv_has ls 3 [(0, .ref sl), (1, .int (nI x0)), (2, .int (nI y0))] := hl
  have hP : va_P D classes [(sl, .inr (8, [.ref aw, .ref ah, .int (nI ct)])), (aw, .inl (cA, cap, .inl (fun zk => nI (fw zk)))), (ah, .inl (cA, cap, .inl (fun zk => nI (fh zk))))] s.heap := hP
  refine lv_aload_n hx hb d_SL_offer_0 rfl (lv_at hl 0 rfl) ?_
  refine lv_iload_n hx hb d_SL_offer_1 rfl (lv_at hl 1 rfl) ?_
  refine lv_iload_n hx hb d_SL_offer_2 rfl (lv_at hl 2 rfl) ?_
  refine zr_V (ci := 8) (q0 := 0) (As := [.int (nI x0), .int (nI y0)]) (rest := []) (n := 2) ⟨hx, hb, hml, hown, hts⟩ (c_SL_hasMatchFor l D sl aw ah cA cap ct fw fh x0 y0 hcap hct hbd gx gy) ⟨km_SL_41, ki_SL_hasMatchFor, ks_SL_hasMatchFor, kn_SL, kd_SL_hasMatchFor⟩ (by decide +kernel) (by decide) ⟨Nat.zero_le _, Nat.zero_le _⟩ hK hP [0, 1, 2] rfl [0] rfl rfl rfl rfl hl.1 rfl (Nat.le_of_ble_eq_true rfl) d_SL_offer_3 ?_
  refine z_zeq (tgt := 10) hx hb d_SL_offer_6 (by decide) (fun c_1 => ?_) (fun c_1 => ?_)
  · refine lv_aload_n hx hb d_SL_offer_10 rfl (lv_at hl 0 rfl) ?_
    refine lv_iload_n hx hb d_SL_offer_11 rfl (lv_at hl 1 rfl) ?_
    refine lv_iload_n hx hb d_SL_offer_12 rfl (lv_at hl 2 rfl) ?_
    refine zw_V (ci := 8) (q0 := 0) (As := [.int (nI x0), .int (nI y0)]) (rest := []) (n := 2) (wsC' := [(sl, .inr (8, [.ref aw, .ref ah, .int (nI ((dm x0 y0 fw fh ct).2.2))])), (aw, .inl (cA, cap, .inl (fun zk => nI (((dm x0 y0 fw fh ct).1) zk)))), (ah, .inl (cA, cap, .inl (fun zk => nI (((dm x0 y0 fw fh ct).2.1) zk))))]) (wr := []) (ws' := [(sl, .inr (8, [.ref aw, .ref ah, .int (nI ((dm x0 y0 fw fh ct).2.2))])), (aw, .inl (cA, cap, .inl (fun zk => nI (((dm x0 y0 fw fh ct).1) zk)))), (ah, .inl (cA, cap, .inl (fun zk => nI (((dm x0 y0 fw fh ct).2.1) zk))))]) ⟨hx, hb, hml, hown, hts⟩ (c_SL_dropMatchedBy l D _ sl aw ah cA cap ct fw fh x0 y0 hcap hct hbd gx gy) ⟨km_SL_45, ki_SL_dropMatchedBy, ks_SL_dropMatchedBy, kn_SL, kd_SL_dropMatchedBy⟩ (by decide +kernel) (by decide) ⟨Nat.zero_le _, Nat.zero_le _⟩ hK hP hD hS hA [0, 1, 2] [] [0, 1, 2] [0] rfl rfl (by decide) rfl (by decide) (by decide) rfl rfl (by decide) rfl rfl rfl rfl hl.1 rfl (Nat.le_of_ble_eq_true rfl) d_SL_offer_13 (fun H locs hP hD hS => ?_)
    have hP : va_P D classes [(sl, .inr (8, [.ref aw, .ref ah, .int (nI ((dm x0 y0 fw fh ct).2.2))])), (aw, .inl (cA, cap, .inl (fun zk => nI (((dm x0 y0 fw fh ct).1) zk)))), (ah, .inl (cA, cap, .inl (fun zk => nI (((dm x0 y0 fw fh ct).2.1) zk))))] H := hP
    have hD : va_D A [(sl, .inr (8, [.ref aw, .ref ah, .int (nI ((dm x0 y0 fw fh ct).2.2))])), (aw, .inl (cA, cap, .inl (fun zk => nI (((dm x0 y0 fw fh ct).1) zk)))), (ah, .inl (cA, cap, .inl (fun zk => nI (((dm x0 y0 fw fh ct).2.1) zk))))] := hD
    have hle := dm_le (x := x0) (y := y0) (fw := fw) (fh := fh) ct
    refine lv_aload_n hx hb d_SL_offer_16 rfl (lv_at hl 0 rfl) ?_
    refine va_get (D := D) (ci := 8) (v := .int (nI ((dm x0 y0 fw fh ct).2.2))) (C := R_SL) (T := F_SL) (N := 3) hx hb hts i_SL hown hK hP 0 rfl rfl 2 (by decide) (hts _ kf_SL_22) (fun _ h9 => h9) rfl d_SL_offer_17 ?_
    refine lv_aload_n hx hb d_SL_offer_20 rfl (lv_at hl 0 rfl) ?_
    refine va_get (D := D) (ci := 8) (v := .ref aw) (C := R_SL) (T := F_SL) (N := 3) hx hb hts i_SL hown hK hP 0 rfl rfl 0 (by decide) (hts _ kf_SL_13) (fun _ h9 => h9) rfl d_SL_offer_21 ?_
    refine va_alen (v := nI cap) hx hb hK hP 1 0 rfl rfl rfl d_SL_offer_24 ?_
    refine z_cge (tgt := 34) hx hb d_SL_offer_25 (by decide) (by omega) (by omega) (fun c_2 => ?_) (fun c_2 => ?_)
    · have e9 : ofr cap x0 y0 (fw, fh, ct) = dm x0 y0 fw fh ct := by unfold ofr; dsimp only; rw [if_neg (by rw [c_1]; decide), if_neg (by omega)]
      have hP : va_P D classes [(sl, .inr (8, [.ref aw, .ref ah, .int (nI ((ofr cap x0 y0 (fw, fh, ct)).2.2))])), (aw, .inl (cA, cap, .inl (fun zk => nI (((ofr cap x0 y0 (fw, fh, ct)).1) zk)))), (ah, .inl (cA, cap, .inl (fun zk => nI (((ofr cap x0 y0 (fw, fh, ct)).2.1) zk))))] H := by rw [e9]; exact hP
      have hD : va_D A [(sl, .inr (8, [.ref aw, .ref ah, .int (nI ((ofr cap x0 y0 (fw, fh, ct)).2.2))])), (aw, .inl (cA, cap, .inl (fun zk => nI (((ofr cap x0 y0 (fw, fh, ct)).1) zk)))), (ah, .inl (cA, cap, .inl (fun zk => nI (((ofr cap x0 y0 (fw, fh, ct)).2.1) zk))))] := by rw [e9]; exact hD
      exact W.vret hx hb hr (fun t ht hW => ⟨rfl, ⟨by rw [ht]; exact hP, va_K.moved hW.alike hK, hD⟩, hS.F ht⟩) hS.2.2 d_SL_offer_34
    · refine lv_aload_n hx hb d_SL_offer_28 rfl (lv_at hl 0 rfl) ?_
      refine lv_iload_n hx hb d_SL_offer_29 rfl (lv_at hl 1 rfl) ?_
      refine lv_iload_n hx hb d_SL_offer_30 rfl (lv_at hl 2 rfl) ?_
      refine zw_V (ci := 8) (q0 := 0) (As := [.int (nI x0), .int (nI y0)]) (rest := []) (n := 2) (wsC' := [(sl, .inr (8, [.ref aw, .ref ah, .int (nI ((dm x0 y0 fw fh ct).2.2 + 1))])), (aw, .inl (cA, cap, .inl (fun zk => nI (((ins x0 y0 (dm x0 y0 fw fh ct).2.2 (dm x0 y0 fw fh ct).1 (dm x0 y0 fw fh ct).2.1).1) zk)))), (ah, .inl (cA, cap, .inl (fun zk => nI (((ins x0 y0 (dm x0 y0 fw fh ct).2.2 (dm x0 y0 fw fh ct).1 (dm x0 y0 fw fh ct).2.1).2) zk))))]) (wr := []) (ws' := [(sl, .inr (8, [.ref aw, .ref ah, .int (nI ((dm x0 y0 fw fh ct).2.2 + 1))])), (aw, .inl (cA, cap, .inl (fun zk => nI (((ins x0 y0 (dm x0 y0 fw fh ct).2.2 (dm x0 y0 fw fh ct).1 (dm x0 y0 fw fh ct).2.1).1) zk)))), (ah, .inl (cA, cap, .inl (fun zk => nI (((ins x0 y0 (dm x0 y0 fw fh ct).2.2 (dm x0 y0 fw fh ct).1 (dm x0 y0 fw fh ct).2.1).2) zk))))]) ⟨hx, hb, hml, hown, hts⟩ (c_SL_insert l D _ sl aw ah cA cap (dm x0 y0 fw fh ct).2.2 (dm x0 y0 fw fh ct).1 (dm x0 y0 fw fh ct).2.1 x0 y0 hcap c_2 (dm_bd hbd ct) gx gy) ⟨km_SL_48, ki_SL_insert, ks_SL_insert, kn_SL, kd_SL_insert⟩ (by decide +kernel) (by decide) ⟨Nat.zero_le _, Nat.zero_le _⟩ hK hP hD hS hA [0, 1, 2] [] [0, 1, 2] [0] rfl rfl (by decide) rfl (by decide) (by decide) rfl rfl (by decide) rfl rfl rfl rfl hl.1 rfl (Nat.le_of_ble_eq_true rfl) d_SL_offer_31 (fun H locs hP hD hS => ?_)
      have hP : va_P D classes [(sl, .inr (8, [.ref aw, .ref ah, .int (nI ((dm x0 y0 fw fh ct).2.2 + 1))])), (aw, .inl (cA, cap, .inl (fun zk => nI (((ins x0 y0 (dm x0 y0 fw fh ct).2.2 (dm x0 y0 fw fh ct).1 (dm x0 y0 fw fh ct).2.1).1) zk)))), (ah, .inl (cA, cap, .inl (fun zk => nI (((ins x0 y0 (dm x0 y0 fw fh ct).2.2 (dm x0 y0 fw fh ct).1 (dm x0 y0 fw fh ct).2.1).2) zk))))] H := hP
      have hD : va_D A [(sl, .inr (8, [.ref aw, .ref ah, .int (nI ((dm x0 y0 fw fh ct).2.2 + 1))])), (aw, .inl (cA, cap, .inl (fun zk => nI (((ins x0 y0 (dm x0 y0 fw fh ct).2.2 (dm x0 y0 fw fh ct).1 (dm x0 y0 fw fh ct).2.1).1) zk)))), (ah, .inl (cA, cap, .inl (fun zk => nI (((ins x0 y0 (dm x0 y0 fw fh ct).2.2 (dm x0 y0 fw fh ct).1 (dm x0 y0 fw fh ct).2.1).2) zk))))] := hD
      have e9 : ofr cap x0 y0 (fw, fh, ct) = ((ins x0 y0 (dm x0 y0 fw fh ct).2.2 (dm x0 y0 fw fh ct).1 (dm x0 y0 fw fh ct).2.1).1, (ins x0 y0 (dm x0 y0 fw fh ct).2.2 (dm x0 y0 fw fh ct).1 (dm x0 y0 fw fh ct).2.1).2, (dm x0 y0 fw fh ct).2.2 + 1) := by unfold ofr; dsimp only; rw [if_neg (by rw [c_1]; decide), if_pos c_2]
      have hP : va_P D classes [(sl, .inr (8, [.ref aw, .ref ah, .int (nI ((ofr cap x0 y0 (fw, fh, ct)).2.2))])), (aw, .inl (cA, cap, .inl (fun zk => nI (((ofr cap x0 y0 (fw, fh, ct)).1) zk)))), (ah, .inl (cA, cap, .inl (fun zk => nI (((ofr cap x0 y0 (fw, fh, ct)).2.1) zk))))] H := by rw [e9]; exact hP
      have hD : va_D A [(sl, .inr (8, [.ref aw, .ref ah, .int (nI ((ofr cap x0 y0 (fw, fh, ct)).2.2))])), (aw, .inl (cA, cap, .inl (fun zk => nI (((ofr cap x0 y0 (fw, fh, ct)).1) zk)))), (ah, .inl (cA, cap, .inl (fun zk => nI (((ofr cap x0 y0 (fw, fh, ct)).2.1) zk))))] := by rw [e9]; exact hD
      exact W.vret hx hb hr (fun t ht hW => ⟨rfl, ⟨by rw [ht]; exact hP, va_K.moved hW.alike hK, hD⟩, hS.F ht⟩) hS.2.2 d_SL_offer_34
  · have e9 : ofr cap x0 y0 (fw, fh, ct) = (fw, fh, ct) := by unfold ofr; dsimp only; rw [if_pos c_1]
    have hP : va_P D classes [(sl, .inr (8, [.ref aw, .ref ah, .int (nI ((ofr cap x0 y0 (fw, fh, ct)).2.2))])), (aw, .inl (cA, cap, .inl (fun zk => nI (((ofr cap x0 y0 (fw, fh, ct)).1) zk)))), (ah, .inl (cA, cap, .inl (fun zk => nI (((ofr cap x0 y0 (fw, fh, ct)).2.1) zk))))] s.heap := by rw [e9]; exact hP
    have hD : va_D A [(sl, .inr (8, [.ref aw, .ref ah, .int (nI ((ofr cap x0 y0 (fw, fh, ct)).2.2))])), (aw, .inl (cA, cap, .inl (fun zk => nI (((ofr cap x0 y0 (fw, fh, ct)).1) zk)))), (ah, .inl (cA, cap, .inl (fun zk => nI (((ofr cap x0 y0 (fw, fh, ct)).2.1) zk))))] := by rw [e9]; exact hD
    exact W.vret hx hb hr (fun t ht hW => ⟨rfl, ⟨by rw [ht]; exact hP, va_K.moved hW.alike hK, hD⟩, hS.F ht⟩) hS.2.2 d_SL_offer_9
set_option maxHeartbeats 4000000 in
set_option maxRecDepth 100000 in
/-- ShapeList.leastArea() -/
theorem c_SL_leastArea (l : Launch) (D : va_G) (sl aw ah : Nat) (cA : ClassId) (cap ct : Nat) (fw fh : Nat → Nat) (hcap : cap < 1000) (hct : ct ≤ cap) (hbd : ∀ i, fw i < 2 ^ 30 ∧ fh i < 2 ^ 30) : Met l y_SL_leastArea (wsA y_SL_leastArea b_SL_leastArea 4 (some .long)) ({ frames := 1, cells := 0, slots := 0, locals := 24 } : Room) (zR D [(cA, .int)] [(sl, .inr (8, [.ref aw, .ref ah, .int (nI ct)])), (aw, .inl (cA, cap, .inl (fun zk => nI (fw zk)))), (ah, .inl (cA, cap, .inl (fun zk => nI (fh zk))))] [.ref sl]) (k2_QcV (.long (lN (lar fw fh ct)))) 0 0 (fun _ => False) := by
  refine Met.ofW (cc := b_SL_leastArea) (maxL := 4) (ret := (some .long)) (by decide) rfl ?_
  intro p e s m args below meth c s₁ Bd hml hv
  obtain ⟨rfl, hP, hK⟩ := hv
  have hx := Bd.exec
  have hb := Bd.bytes
  have hr := Bd.returns
  have hts : ∀ w ∈ lw_g, w.before _ s = true := fun w h => atoms_spec (ws := wsA y_SL_leastArea b_SL_leastArea 4 (some .long)) Bd.pre w (List.mem_cons_of_mem _ h)
  have hown : s.vm.findClass R_SL = some m.cls := findClass_of_methodNamed Bd.named
  have hlocks := Bd.notSynchronized
  have hl := lv_entry ([.ref sl]) (n := 4) (Nat.le_of_ble_eq_true rfl)
  rw [lg_entry_eq]
  generalize (lg_sl ([.ref sl]) ++ List.replicate (4 - (lg_sl ([.ref sl])).length) Slot.unset).toArray = ls at hl ⊢
  have hl : lv_has ls 4 [(0, .ref sl)] := hl
  have hP : va_P D classes [(sl, .inr (8, [.ref aw, .ref ah, .int (nI ct)])), (aw, .inl (cA, cap, .inl (fun zk => nI (fw zk)))), (ah, .inl (cA, cap, .inl (fun zk => nI (fh zk))))] s.heap := hP
  refine lv_ldc2 hx hb hown (hts _ kL_SL_35) d_SL_leastArea_0 ?_
  refine lv_tol (z := lN (lar fw fh 0)) (show (9223372036854775807 : Int64) = lN 9223372036854775807 from by decide) ?_
  refine lv_lstore_n (lv' := [(1, .long (lN (lar fw fh 0))), (0, .ref sl)]) hx hb d_SL_leastArea_3 rfl hl (by decide) rfl (fun ls hl => ?_)
  refine lv_iconst (v := nI 0) hx hb d_SL_leastArea_4 (by decide) ?_
  refine lv_istore_n (lv' := [(3, .int (nI 0)), (1, .long (lN (lar fw fh 0))), (0, .ref sl)]) hx hb d_SL_leastArea_5 rfl hl (by decide) rfl (fun ls hl => ?_)
  have lp : ∀ (fu : Nat), ∀ (k : Nat), (k ≤ ct) → (ct - k + 1) ≤ fu → ∀ (ls : Array Slot), lv_has ls 4 [(0, .ref sl), (1, .long (lN (lar fw fh k))), (3, .int (nI k))] → W p l e (headSpec (wsA y_SL_leastArea b_SL_leastArea 4 (some .long)) ({ frames := 1, cells := 0, slots := 0, locals := 24 } : Room)).room s m ([.ref sl] : List Value).toArray below meth c s.heap [] 0 0 (MQ below (k2_QcV (.long (lN (lar fw fh ct)))) ([.ref sl] : List Value).toArray s 0 0 (fun _ => False)) (F0 m 6 ls []) := by
    intro fu
    induction fu with
    | zero =>
      intro k hk hmu ls hl
      exact absurd hmu (by omega)
    | succ fu_lp ih_lp =>
      intro k hk hmu_lp ls hl
      refine lv_iload_n hx hb d_SL_leastArea_6 rfl (lv_at hl 2 rfl) ?_
      refine lv_aload_n hx hb d_SL_leastArea_7 rfl (lv_at hl 0 rfl) ?_
      refine va_get (D := D) (ci := 8) (v := .int (nI ct)) (C := R_SL) (T := F_SL) (N := 3) hx hb hts i_SL hown hK hP 0 rfl rfl 2 (by decide) (hts _ kf_SL_22) (fun _ h9 => h9) rfl d_SL_leastArea_8 ?_
      refine z_cge (tgt := 40) hx hb d_SL_leastArea_11 (by decide) (by omega) (by omega) (fun c_1 => ?_) (fun c_1 => ?_)
      · refine lv_lload_n hx hb d_SL_leastArea_40 rfl (lv_at hl 1 rfl) ?_
        refine lv_tol (z := (lN (lar fw fh ct))) (by rw [show k = ct by omega]) ?_
        exact W.lret hx hb hr (fun t ht hW => ⟨rfl, ht⟩) (fun q h => by cases h) d_SL_leastArea_41
      · obtain ⟨g1, g2⟩ := hbd k
        have g3 := lar_le (fw := fw) (fh := fh) k
        have g4 : fw k * fh k ≤ (2 ^ 30 - 1) * (2 ^ 30 - 1) := Nat.mul_le_mul (by omega) (by omega)
        refine lv_lload_n hx hb d_SL_leastArea_14 rfl (lv_at hl 1 rfl) ?_
        refine lv_aload_n hx hb d_SL_leastArea_15 rfl (lv_at hl 0 rfl) ?_
        refine va_get (D := D) (ci := 8) (v := .ref aw) (C := R_SL) (T := F_SL) (N := 3) hx hb hts i_SL hown hK hP 0 rfl rfl 0 (by decide) (hts _ kf_SL_13) (fun _ h9 => h9) rfl d_SL_leastArea_16 ?_
        refine lv_iload_n hx hb d_SL_leastArea_19 rfl (lv_at hl 2 rfl) ?_
        refine z_ild (j := k) hx hb hK hP 1 0 rfl rfl (by omega) (by omega) d_SL_leastArea_20 ?_
        refine lv_i2l (v := lN (fw k)) hx hb d_SL_leastArea_21 (nI_l (by omega)) ?_
        refine lv_aload_n hx hb d_SL_leastArea_22 rfl (lv_at hl 0 rfl) ?_
        refine va_get (D := D) (ci := 8) (v := .ref ah) (C := R_SL) (T := F_SL) (N := 3) hx hb hts i_SL hown hK hP 0 rfl rfl 1 (by decide) (hts _ kf_SL_19) (fun _ h9 => h9) rfl d_SL_leastArea_23 ?_
        refine lv_iload_n hx hb d_SL_leastArea_26 rfl (lv_at hl 2 rfl) ?_
        refine z_ild (j := k) hx hb hK hP 2 0 rfl rfl (by omega) (by omega) d_SL_leastArea_27 ?_
        refine lv_i2l (v := lN (fh k)) hx hb d_SL_leastArea_28 (nI_l (by omega)) ?_
        refine lv_lmul hx hb d_SL_leastArea_29 ?_
        refine lv_tol (lN_mul (fw k) (fh k)) ?_
        refine z_minL (x := (lar fw fh k)) (y := ((fw k) * (fh k))) ⟨hx, hb, hml, hown, hts⟩ hl.1 km_SL_37 (Nat.le_of_ble_eq_true rfl) (Nat.le_of_ble_eq_true rfl) ⟨Nat.zero_le _, Nat.zero_le _⟩ (by omega) (by omega) d_SL_leastArea_30 ?_
        refine lv_tol (z := lN (lar fw fh (k + 1))) rfl ?_
        refine lv_lstore_n (lv' := [(1, .long (lN (lar fw fh (k + 1)))), (0, .ref sl), (3, .int (nI k))]) hx hb d_SL_leastArea_33 rfl hl (by decide) rfl (fun ls hl => ?_)
        refine lv_iinc (v := nI (k + 1)) (lv' := [(3, .int (nI (k + 1))), (1, .long (lN (lar fw fh (k + 1)))), (0, .ref sl)]) hx hb d_SL_leastArea_34 hl (k := 2) rfl (nI_1 _) (by decide) rfl (fun ls hl => ?_)
        refine lv_goto (tgt := 6) hx hb d_SL_leastArea_37 (by decide) ?_
        exact ih_lp (k + 1) (by omega) (by omega) ls (lv_sub hl [2, 1, 0] rfl)
  exact lp _ 0 (Nat.zero_le _) (Nat.le_refl _) ls (lv_sub hl [2, 1, 0] rfl)
