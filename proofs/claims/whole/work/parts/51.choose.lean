theorem chs_fil {C : Nat → Nat → Nat} {n : Nat} {σ0 : Nat → Nat} : ∀ k, k ≤ n → (chs C n σ0 k).2 = fil (chs C n σ0 n).1 k := by
  have hat : ∀ k, k < n → (chs C n σ0 n).1 k = pick C n k (chs C n σ0 k).2 := fun k hk => by
    rw [chs_keep n hk]
    exact va_up_self _ _ _
  intro k
  induction k with
  | zero => intro _; rfl
  | succ k ih =>
    intro hk
    rw [chs, fil_s (by rw [hat k (by omega)]; exact pick_lt), ← ih (by omega), hat k (by omega)]
theorem chs_81 {C : Nat → Nat → Nat} {n k : Nat} {σ0 : Nat → Nat} (hn : n ≤ 8) (hC : ∀ k s, k < n → s < 4 → C k s < 2 ^ 24) (hk : k ≤ n) : (chs C n σ0 k).2 < 81 := by
  rw [chs_fil k hk]
  exact (fil_dig (s := 0) (fun t => cn_le (chs_best (σ0 := σ0) hn hC).1 t k hk) (by decide)).2
theorem cw_bd {C : Nat → Nat → Nat} {lc : Nat → Nat} {k fl s : Nat} (h1 : C k s < 2 ^ 24) (h2 : fl + one s < 81 → lc (fl + one s) ≤ 268435456) (h3 : fl < 81) (hs : s < 4) : cw C lc k fl s < 2 ^ 31 := by
  unfold cw
  split
  · decide
  · rename_i e
    have := h2 (dig_in h3 hs e)
    omega
theorem cw_congr {C : Nat → Nat → Nat} {lc lc' : Nat → Nat} {k fl s : Nat} (h : ∀ q, q < 81 → lc q = lc' q) (h3 : fl < 81) (hs : s < 4) : cw C lc k fl s = cw C lc' k fl s := by
  unfold cw
  split
  · rfl
  · rename_i e
    rw [h _ (dig_in h3 hs e)]
theorem mn_congr {C : Nat → Nat → Nat} {lc lc' : Nat → Nat} {k fl : Nat} (h : ∀ q, q < 81 → lc q = lc' q) (h3 : fl < 81) : ∀ t, t ≤ 4 → mnW C lc k fl t = mnW C lc' k fl t
  | 0, _ => rfl
  | t + 1, ht => by rw [mnW, mnW, mn_congr h h3 t (by omega), cw_congr h h3 (by omega)]
theorem d_PI_costWith_0 : decode b_PI_costWith 0 = .ok (.getstatic 70, 3) := by decide +kernel
theorem d_PI_costWith_3 : decode b_PI_costWith 3 = .ok (.iload_n 3, 1) := by decide +kernel
theorem d_PI_costWith_4 : decode b_PI_costWith 4 = .ok (.iaload, 1) := by decide +kernel
theorem d_PI_costWith_5 : decode b_PI_costWith 5 = .ok (.istore 4, 2) := by decide +kernel
theorem d_PI_costWith_7 : decode b_PI_costWith 7 = .ok (.iload_n 2, 1) := by decide +kernel
theorem d_PI_costWith_8 : decode b_PI_costWith 8 = .ok (.iload 4, 2) := by decide +kernel
theorem d_PI_costWith_10 : decode b_PI_costWith 10 = .ok (.idiv, 1) := by decide +kernel
theorem d_PI_costWith_11 : decode b_PI_costWith 11 = .ok (.iconst 3, 1) := by decide +kernel
theorem d_PI_costWith_12 : decode b_PI_costWith 12 = .ok (.irem, 1) := by decide +kernel
theorem d_PI_costWith_13 : decode b_PI_costWith 13 = .ok (.iconst 2, 1) := by decide +kernel
theorem d_PI_costWith_14 : decode b_PI_costWith 14 = .ok (.if_icmp .ne 6, 3) := by decide +kernel
theorem d_PI_costWith_17 : decode b_PI_costWith 17 = .ok (.ldc 61, 2) := by decide +kernel
theorem d_PI_costWith_19 : decode b_PI_costWith 19 = .ok (.ireturn, 1) := by decide +kernel
theorem d_PI_costWith_20 : decode b_PI_costWith 20 = .ok (.aload_n 0, 1) := by decide +kernel
theorem d_PI_costWith_21 : decode b_PI_costWith 21 = .ok (.getfield 28, 3) := by decide +kernel
theorem d_PI_costWith_24 : decode b_PI_costWith 24 = .ok (.iload_n 1, 1) := by decide +kernel
theorem d_PI_costWith_25 : decode b_PI_costWith 25 = .ok (.aaload, 1) := by decide +kernel
theorem d_PI_costWith_26 : decode b_PI_costWith 26 = .ok (.iload_n 3, 1) := by decide +kernel
theorem d_PI_costWith_27 : decode b_PI_costWith 27 = .ok (.iaload, 1) := by decide +kernel
theorem d_PI_costWith_28 : decode b_PI_costWith 28 = .ok (.aload_n 0, 1) := by decide +kernel
theorem d_PI_costWith_29 : decode b_PI_costWith 29 = .ok (.getfield 31, 3) := by decide +kernel
theorem d_PI_costWith_32 : decode b_PI_costWith 32 = .ok (.iload_n 1, 1) := by decide +kernel
theorem d_PI_costWith_33 : decode b_PI_costWith 33 = .ok (.iconst 1, 1) := by decide +kernel
theorem d_PI_costWith_34 : decode b_PI_costWith 34 = .ok (.iadd, 1) := by decide +kernel
theorem d_PI_costWith_35 : decode b_PI_costWith 35 = .ok (.aaload, 1) := by decide +kernel
theorem d_PI_costWith_36 : decode b_PI_costWith 36 = .ok (.iload_n 2, 1) := by decide +kernel
theorem d_PI_costWith_37 : decode b_PI_costWith 37 = .ok (.iload 4, 2) := by decide +kernel
theorem d_PI_costWith_39 : decode b_PI_costWith 39 = .ok (.iadd, 1) := by decide +kernel
theorem d_PI_costWith_40 : decode b_PI_costWith 40 = .ok (.iaload, 1) := by decide +kernel
theorem d_PI_costWith_41 : decode b_PI_costWith 41 = .ok (.iadd, 1) := by decide +kernel
theorem d_PI_costWith_42 : decode b_PI_costWith 42 = .ok (.ireturn, 1) := by decide +kernel
theorem d_PI_leastCost_0 : decode b_PI_leastCost 0 = .ok (.ldc 61, 2) := by decide +kernel
theorem d_PI_leastCost_2 : decode b_PI_leastCost 2 = .ok (.istore_n 3, 1) := by decide +kernel
theorem d_PI_leastCost_3 : decode b_PI_leastCost 3 = .ok (.iconst 0, 1) := by decide +kernel
theorem d_PI_leastCost_4 : decode b_PI_leastCost 4 = .ok (.istore 4, 2) := by decide +kernel
theorem d_PI_leastCost_6 : decode b_PI_leastCost 6 = .ok (.iload 4, 2) := by decide +kernel
theorem d_PI_leastCost_8 : decode b_PI_leastCost 8 = .ok (.iconst 4, 1) := by decide +kernel
theorem d_PI_leastCost_9 : decode b_PI_leastCost 9 = .ok (.if_icmp .ge 22, 3) := by decide +kernel
theorem d_PI_leastCost_12 : decode b_PI_leastCost 12 = .ok (.iload_n 3, 1) := by decide +kernel
theorem d_PI_leastCost_13 : decode b_PI_leastCost 13 = .ok (.aload_n 0, 1) := by decide +kernel
theorem d_PI_leastCost_14 : decode b_PI_leastCost 14 = .ok (.iload_n 1, 1) := by decide +kernel
theorem d_PI_leastCost_15 : decode b_PI_leastCost 15 = .ok (.iload_n 2, 1) := by decide +kernel
theorem d_PI_leastCost_16 : decode b_PI_leastCost 16 = .ok (.iload 4, 2) := by decide +kernel
theorem d_PI_leastCost_18 : decode b_PI_leastCost 18 = .ok (.invokevirtual 62, 3) := by decide +kernel
theorem d_PI_leastCost_21 : decode b_PI_leastCost 21 = .ok (.invokestatic 65, 3) := by decide +kernel
theorem d_PI_leastCost_24 : decode b_PI_leastCost 24 = .ok (.istore_n 3, 1) := by decide +kernel
theorem d_PI_leastCost_25 : decode b_PI_leastCost 25 = .ok (.iinc 4 1, 3) := by decide +kernel
theorem d_PI_leastCost_28 : decode b_PI_leastCost 28 = .ok (.goto (-22), 3) := by decide +kernel
theorem d_PI_leastCost_31 : decode b_PI_leastCost 31 = .ok (.iload_n 3, 1) := by decide +kernel
theorem d_PI_leastCost_32 : decode b_PI_leastCost 32 = .ok (.ireturn, 1) := by decide +kernel
theorem d_PI_netAt_0 : decode b_PI_netAt 0 = .ok (.iconst 0, 1) := by decide +kernel
theorem d_PI_netAt_1 : decode b_PI_netAt 1 = .ok (.istore_n 3, 1) := by decide +kernel
theorem d_PI_netAt_2 : decode b_PI_netAt 2 = .ok (.iconst 0, 1) := by decide +kernel
theorem d_PI_netAt_3 : decode b_PI_netAt 3 = .ok (.istore 4, 2) := by decide +kernel
theorem d_PI_netAt_5 : decode b_PI_netAt 5 = .ok (.iload 4, 2) := by decide +kernel
theorem d_PI_netAt_7 : decode b_PI_netAt 7 = .ok (.aload_n 0, 1) := by decide +kernel
theorem d_PI_netAt_8 : decode b_PI_netAt 8 = .ok (.getfield 34, 3) := by decide +kernel
theorem d_PI_netAt_11 : decode b_PI_netAt 11 = .ok (.if_icmp .ge 36, 3) := by decide +kernel
theorem d_PI_netAt_14 : decode b_PI_netAt 14 = .ok (.aload_n 0, 1) := by decide +kernel
theorem d_PI_netAt_15 : decode b_PI_netAt 15 = .ok (.getfield 23, 3) := by decide +kernel
theorem d_PI_netAt_18 : decode b_PI_netAt 18 = .ok (.iload 4, 2) := by decide +kernel
theorem d_PI_netAt_20 : decode b_PI_netAt 20 = .ok (.iaload, 1) := by decide +kernel
theorem d_PI_netAt_21 : decode b_PI_netAt 21 = .ok (.iload_n 1, 1) := by decide +kernel
theorem d_PI_netAt_22 : decode b_PI_netAt 22 = .ok (.if_icmp .ne 19, 3) := by decide +kernel
theorem d_PI_netAt_25 : decode b_PI_netAt 25 = .ok (.iload_n 3, 1) := by decide +kernel
theorem d_PI_netAt_26 : decode b_PI_netAt 26 = .ok (.iload_n 2, 1) := by decide +kernel
theorem d_PI_netAt_27 : decode b_PI_netAt 27 = .ok (.if_icmp .ne 11, 3) := by decide +kernel
theorem d_PI_netAt_30 : decode b_PI_netAt 30 = .ok (.aload_n 0, 1) := by decide +kernel
theorem d_PI_netAt_31 : decode b_PI_netAt 31 = .ok (.getfield 19, 3) := by decide +kernel
theorem d_PI_netAt_34 : decode b_PI_netAt 34 = .ok (.iload 4, 2) := by decide +kernel
theorem d_PI_netAt_36 : decode b_PI_netAt 36 = .ok (.iaload, 1) := by decide +kernel
theorem d_PI_netAt_37 : decode b_PI_netAt 37 = .ok (.ireturn, 1) := by decide +kernel
theorem d_PI_netAt_38 : decode b_PI_netAt 38 = .ok (.iinc 3 1, 3) := by decide +kernel
theorem d_PI_netAt_41 : decode b_PI_netAt 41 = .ok (.iinc 4 1, 3) := by decide +kernel
theorem d_PI_netAt_44 : decode b_PI_netAt 44 = .ok (.goto (-39), 3) := by decide +kernel
theorem d_PI_netAt_47 : decode b_PI_netAt 47 = .ok (.iconst (-1), 1) := by decide +kernel
theorem d_PI_netAt_48 : decode b_PI_netAt 48 = .ok (.ireturn, 1) := by decide +kernel
theorem d_PI_choose_0 : decode b_PI_choose 0 = .ok (.iconst 0, 1) := by decide +kernel
theorem d_PI_choose_1 : decode b_PI_choose 1 = .ok (.istore_n 1, 1) := by decide +kernel
theorem d_PI_choose_2 : decode b_PI_choose 2 = .ok (.iconst 0, 1) := by decide +kernel
theorem d_PI_choose_3 : decode b_PI_choose 3 = .ok (.istore_n 2, 1) := by decide +kernel
theorem d_PI_choose_4 : decode b_PI_choose 4 = .ok (.iload_n 2, 1) := by decide +kernel
theorem d_PI_choose_5 : decode b_PI_choose 5 = .ok (.aload_n 0, 1) := by decide +kernel
theorem d_PI_choose_6 : decode b_PI_choose 6 = .ok (.getfield 34, 3) := by decide +kernel
theorem d_PI_choose_9 : decode b_PI_choose 9 = .ok (.if_icmp .ge 55, 3) := by decide +kernel
theorem d_PI_choose_12 : decode b_PI_choose 12 = .ok (.iconst 0, 1) := by decide +kernel
theorem d_PI_choose_13 : decode b_PI_choose 13 = .ok (.istore_n 3, 1) := by decide +kernel
theorem d_PI_choose_14 : decode b_PI_choose 14 = .ok (.iload_n 3, 1) := by decide +kernel
theorem d_PI_choose_15 : decode b_PI_choose 15 = .ok (.iconst 3, 1) := by decide +kernel
theorem d_PI_choose_16 : decode b_PI_choose 16 = .ok (.if_icmp .ge 27, 3) := by decide +kernel
theorem d_PI_choose_19 : decode b_PI_choose 19 = .ok (.aload_n 0, 1) := by decide +kernel
theorem d_PI_choose_20 : decode b_PI_choose 20 = .ok (.iload_n 2, 1) := by decide +kernel
theorem d_PI_choose_21 : decode b_PI_choose 21 = .ok (.iload_n 1, 1) := by decide +kernel
theorem d_PI_choose_22 : decode b_PI_choose 22 = .ok (.iload_n 3, 1) := by decide +kernel
theorem d_PI_choose_23 : decode b_PI_choose 23 = .ok (.invokevirtual 62, 3) := by decide +kernel
theorem d_PI_choose_26 : decode b_PI_choose 26 = .ok (.aload_n 0, 1) := by decide +kernel
theorem d_PI_choose_27 : decode b_PI_choose 27 = .ok (.getfield 31, 3) := by decide +kernel
theorem d_PI_choose_30 : decode b_PI_choose 30 = .ok (.iload_n 2, 1) := by decide +kernel
theorem d_PI_choose_31 : decode b_PI_choose 31 = .ok (.aaload, 1) := by decide +kernel
theorem d_PI_choose_32 : decode b_PI_choose 32 = .ok (.iload_n 1, 1) := by decide +kernel
theorem d_PI_choose_33 : decode b_PI_choose 33 = .ok (.iaload, 1) := by decide +kernel
theorem d_PI_choose_34 : decode b_PI_choose 34 = .ok (.if_icmp .eq 9, 3) := by decide +kernel
theorem d_PI_choose_37 : decode b_PI_choose 37 = .ok (.iinc 3 1, 3) := by decide +kernel
theorem d_PI_choose_40 : decode b_PI_choose 40 = .ok (.goto (-26), 3) := by decide +kernel
theorem d_PI_choose_43 : decode b_PI_choose 43 = .ok (.aload_n 0, 1) := by decide +kernel
theorem d_PI_choose_44 : decode b_PI_choose 44 = .ok (.getfield 23, 3) := by decide +kernel
theorem d_PI_choose_47 : decode b_PI_choose 47 = .ok (.iload_n 2, 1) := by decide +kernel
theorem d_PI_choose_48 : decode b_PI_choose 48 = .ok (.iload_n 3, 1) := by decide +kernel
theorem d_PI_choose_49 : decode b_PI_choose 49 = .ok (.iastore, 1) := by decide +kernel
theorem d_PI_choose_50 : decode b_PI_choose 50 = .ok (.iload_n 1, 1) := by decide +kernel
theorem d_PI_choose_51 : decode b_PI_choose 51 = .ok (.getstatic 70, 3) := by decide +kernel
theorem d_PI_choose_54 : decode b_PI_choose 54 = .ok (.iload_n 3, 1) := by decide +kernel
theorem d_PI_choose_55 : decode b_PI_choose 55 = .ok (.iaload, 1) := by decide +kernel
theorem d_PI_choose_56 : decode b_PI_choose 56 = .ok (.iadd, 1) := by decide +kernel
theorem d_PI_choose_57 : decode b_PI_choose 57 = .ok (.istore_n 1, 1) := by decide +kernel
theorem d_PI_choose_58 : decode b_PI_choose 58 = .ok (.iinc 2 1, 3) := by decide +kernel
theorem d_PI_choose_61 : decode b_PI_choose 61 = .ok (.goto (-57), 3) := by decide +kernel
theorem d_PI_choose_64 : decode b_PI_choose 64 = .ok (.return_, 1) := by decide +kernel
set_option maxHeartbeats 4000000 in
set_option maxRecDepth 100000 in
/-- Pins.costWith(k, fl, s0) -/
theorem c_PI_costWith (l : Launch) (D : va_G) (aI aC aL aP aN : Nat → Nat) (cA cZ c2 : ClassId) (nn sd : Nat → Nat) (cf lf : Nat → Nat → Nat) (cn : Nat) (k fl s0 : Nat) (hk : k < 8) (hf8 : fl < 81) (hs4 : s0 < 4) : Met l y_PI_costWith (wsA y_PI_costWith b_PI_costWith 5 (some .int)) ({ frames := 0, cells := 0, slots := 0, locals := 0 } : Room) (zRF zT1 D [(cA, .int), (cZ, .boolean), (c2, .array .int)] [(aI 0, .inr (5, [.ref (aP 0), .ref (aN 0), .ref (aI 1), .ref (aI 2), .ref (aI 3), .ref (aI 4), .int (nI cn)])), (aI 1, .inl (cA, 8, .inl (fun zk => nI (nn zk)))), (aI 2, .inl (cA, 8, .inl (fun zk => nI (sd zk)))), (aI 3, .inl (c2, 8, .inr (.inr (.inr (.inr (fun zk => some (aC zk))))))), (aI 4, .inl (c2, 9, .inr (.inr (.inr (.inr (fun zk => some (aL zk))))))), (aC 0, .inl (cA, 4, .inl (fun zk => nI ((cf 0) zk)))), (aC 1, .inl (cA, 4, .inl (fun zk => nI ((cf 1) zk)))), (aC 2, .inl (cA, 4, .inl (fun zk => nI ((cf 2) zk)))), (aC 3, .inl (cA, 4, .inl (fun zk => nI ((cf 3) zk)))), (aC 4, .inl (cA, 4, .inl (fun zk => nI ((cf 4) zk)))), (aC 5, .inl (cA, 4, .inl (fun zk => nI ((cf 5) zk)))), (aC 6, .inl (cA, 4, .inl (fun zk => nI ((cf 6) zk)))), (aC 7, .inl (cA, 4, .inl (fun zk => nI ((cf 7) zk)))), (aL 0, .inl (cA, 81, .inl (fun zk => nI ((lf 0) zk)))), (aL 1, .inl (cA, 81, .inl (fun zk => nI ((lf 1) zk)))), (aL 2, .inl (cA, 81, .inl (fun zk => nI ((lf 2) zk)))), (aL 3, .inl (cA, 81, .inl (fun zk => nI ((lf 3) zk)))), (aL 4, .inl (cA, 81, .inl (fun zk => nI ((lf 4) zk)))), (aL 5, .inl (cA, 81, .inl (fun zk => nI ((lf 5) zk)))), (aL 6, .inl (cA, 81, .inl (fun zk => nI ((lf 6) zk)))), (aL 7, .inl (cA, 81, .inl (fun zk => nI ((lf 7) zk)))), (aL 8, .inl (cA, 81, .inl (fun zk => nI ((lf 8) zk))))] [.ref (aI 0), .int (nI k), .int (nI fl), .int (nI s0)]) (k2_QcV (.int (nI (cw cf (lf (k + 1)) k fl s0)))) 0 0 (fun _ => False) := by
  refine Met.ofW (cc := b_PI_costWith) (maxL := 5) (ret := (some .int)) (by decide) rfl ?_
  intro p e s m args below meth c s₁ Bd hml hv
  obtain ⟨rfl, hP, hK, hF⟩ := hv
  have hx := Bd.exec
  have hb := Bd.bytes
  have hr := Bd.returns
  have hts : ∀ w ∈ lw_g, w.before _ s = true := fun w h => atoms_spec (ws := wsA y_PI_costWith b_PI_costWith 5 (some .int)) Bd.pre w (List.mem_cons_of_mem _ h)
  have hown : s.vm.findClass R_PI = some m.cls := findClass_of_methodNamed Bd.named
  have hlocks := Bd.notSynchronized
  have hl := lv_entry ([.ref (aI 0), .int (nI k), .int (nI fl), .int (nI s0)]) (n := 5) (Nat.le_of_ble_eq_true rfl)
  rw [lg_entry_eq]
  generalize (lg_sl ([.ref (aI 0), .int (nI k), .int (nI fl), .int (nI s0)]) ++ List.replicate (5 - (lg_sl ([.ref (aI 0), .int (nI k), .int (nI fl), .int (nI s0)])).length) Slot.unset).toArray = ls at hl ⊢
  have hl : lv_has ls 5 [(0, .ref (aI 0)), (1, .int (nI k)), (2, .int (nI fl)), (3, .int (nI s0))] := hl
  have hP : va_P D classes [(aI 0, .inr (5, [.ref (aP 0), .ref (aN 0), .ref (aI 1), .ref (aI 2), .ref (aI 3), .ref (aI 4), .int (nI cn)])), (aI 1, .inl (cA, 8, .inl (fun zk => nI (nn zk)))), (aI 2, .inl (cA, 8, .inl (fun zk => nI (sd zk)))), (aI 3, .inl (c2, 8, .inr (.inr (.inr (.inr (fun zk => some (aC zk))))))), (aI 4, .inl (c2, 9, .inr (.inr (.inr (.inr (fun zk => some (aL zk))))))), (aC 0, .inl (cA, 4, .inl (fun zk => nI ((cf 0) zk)))), (aC 1, .inl (cA, 4, .inl (fun zk => nI ((cf 1) zk)))), (aC 2, .inl (cA, 4, .inl (fun zk => nI ((cf 2) zk)))), (aC 3, .inl (cA, 4, .inl (fun zk => nI ((cf 3) zk)))), (aC 4, .inl (cA, 4, .inl (fun zk => nI ((cf 4) zk)))), (aC 5, .inl (cA, 4, .inl (fun zk => nI ((cf 5) zk)))), (aC 6, .inl (cA, 4, .inl (fun zk => nI ((cf 6) zk)))), (aC 7, .inl (cA, 4, .inl (fun zk => nI ((cf 7) zk)))), (aL 0, .inl (cA, 81, .inl (fun zk => nI ((lf 0) zk)))), (aL 1, .inl (cA, 81, .inl (fun zk => nI ((lf 1) zk)))), (aL 2, .inl (cA, 81, .inl (fun zk => nI ((lf 2) zk)))), (aL 3, .inl (cA, 81, .inl (fun zk => nI ((lf 3) zk)))), (aL 4, .inl (cA, 81, .inl (fun zk => nI ((lf 4) zk)))), (aL 5, .inl (cA, 81, .inl (fun zk => nI ((lf 5) zk)))), (aL 6, .inl (cA, 81, .inl (fun zk => nI ((lf 6) zk)))), (aL 7, .inl (cA, 81, .inl (fun zk => nI ((lf 7) zk)))), (aL 8, .inl (cA, 81, .inl (fun zk => nI ((lf 8) zk))))] s.heap := hP
  obtain ⟨tb, hZ1, hT1⟩ := hF
  obtain ⟨ho1, ho2⟩ := one_lt hs4
  refine va_gets hx hb hZ1 (va_S.rf (A := fun _ => False)) hown (hts _ kf_PI_70) (fun _ h9 => h9) d_PI_costWith_0 ?_
  refine lv_iload_n hx hb d_PI_costWith_3 rfl (lv_at hl 3 rfl) ?_
  refine z_oneld (j := s0) hx hb hT1 (va_S.rf (A := fun _ => False)) (by omega) d_PI_costWith_4 ?_
  refine lv_istore (lv' := [(4, .int (nI (one s0))), (0, .ref (aI 0)), (1, .int (nI k)), (2, .int (nI fl)), (3, .int (nI s0))]) hx hb d_PI_costWith_5 hl (by decide) rfl (fun ls hl => ?_)
  refine lv_iload_n hx hb d_PI_costWith_7 rfl (lv_at hl 3 rfl) ?_
  refine lv_iload hx hb d_PI_costWith_8 (lv_at hl 0 rfl) ?_
  refine lv_idiv hx hb d_PI_costWith_10 (nI_ne0 (by omega) (by omega)) ?_
  refine lv_toi (pk_div (by omega) (by omega) (by omega)) ?_
  refine lv_iconst (v := nI 3) hx hb d_PI_costWith_11 (by decide) ?_
  have hq9 := Nat.div_le_self fl (one s0)
  refine lv_irem hx hb d_PI_costWith_12 (nI_ne0 (by decide) (by decide)) ?_
  refine lv_toi (pk_rem (by omega) (by decide) (by decide)) ?_
  refine lv_iconst (v := nI 2) hx hb d_PI_costWith_13 (by decide) ?_
  refine z_cne (tgt := 20) hx hb d_PI_costWith_14 (by decide) (by omega) (by omega) (fun c_1 => ?_) (fun c_1 => ?_)
  · have hin9 := dig_in hf8 hs4 c_1
    refine lv_aload_n hx hb d_PI_costWith_20 rfl (lv_at hl 1 rfl) ?_
    refine va_get (D := D) (ci := 5) (v := .ref (aI 3)) (C := R_PI) (T := F_PI) (N := 7) hx hb hts i_PI hown hK hP 0 rfl rfl 4 (by decide) (hts _ kf_PI_28) (fun _ h9 => h9) rfl d_PI_costWith_21 ?_
    refine lv_iload_n hx hb d_PI_costWith_24 rfl (lv_at hl 2 rfl) ?_
    refine z_a2ld (j := k) (r := (aC k)) hx hb hK hP 3 2 rfl rfl (by omega) (by decide) rfl d_PI_costWith_25 ?_
    refine lv_iload_n hx hb d_PI_costWith_26 rfl (lv_at hl 4 rfl) ?_
    refine z_ild (j := s0) (f := cf k) hx hb hK hP (5 + k) 0 (pi_C (cf := cf) (by omega)) rfl (by omega) (by decide) d_PI_costWith_27 ?_
    refine lv_aload_n hx hb d_PI_costWith_28 rfl (lv_at hl 1 rfl) ?_
    refine va_get (D := D) (ci := 5) (v := .ref (aI 4)) (C := R_PI) (T := F_PI) (N := 7) hx hb hts i_PI hown hK hP 0 rfl rfl 5 (by decide) (hts _ kf_PI_31) (fun _ h9 => h9) rfl d_PI_costWith_29 ?_
    refine lv_iload_n hx hb d_PI_costWith_32 rfl (lv_at hl 2 rfl) ?_
    refine lv_iconst (v := nI 1) hx hb d_PI_costWith_33 (by decide) ?_
    refine z_add hx hb d_PI_costWith_34 ?_
    refine z_a2ld (j := (k + 1)) (r := (aL (k + 1))) hx hb hK hP 4 2 rfl rfl (by omega) (by decide) rfl d_PI_costWith_35 ?_
    refine lv_iload_n hx hb d_PI_costWith_36 rfl (lv_at hl 3 rfl) ?_
    refine lv_iload hx hb d_PI_costWith_37 (lv_at hl 0 rfl) ?_
    refine z_add hx hb d_PI_costWith_39 ?_
    refine z_ild (j := (fl + (one s0))) (f := lf (k + 1)) hx hb hK hP (13 + (k + 1)) 0 (pi_L (lf := lf) (by omega)) rfl (by omega) (by decide) d_PI_costWith_40 ?_
    refine z_add hx hb d_PI_costWith_41 ?_
    refine lv_toi (z := (nI (cw cf (lf (k + 1)) k fl s0))) (congrArg nI (by unfold cw; rw [if_neg c_1])) ?_
    exact W.iret hx hb hr (fun t ht hW => ⟨rfl, ht⟩) (fun q h => by cases h) d_PI_costWith_42
  · refine lv_ldc hx hb hown (hts _ kL_PI_61) d_PI_costWith_17 ?_
    refine lv_toi (z := nI 268435456) (by decide) ?_
    refine lv_toi (z := (nI (cw cf (lf (k + 1)) k fl s0))) (congrArg nI (by unfold cw; rw [if_pos c_1])) ?_
    exact W.iret hx hb hr (fun t ht hW => ⟨rfl, ht⟩) (fun q h => by cases h) d_PI_costWith_19
set_option maxHeartbeats 4000000 in
set_option maxRecDepth 100000 in
/-- Pins.leastCost(k, fl) -/
theorem c_PI_leastCost (l : Launch) (D : va_G) (aI aC aL aP aN : Nat → Nat) (cA cZ c2 : ClassId) (nn sd : Nat → Nat) (cf lf : Nat → Nat → Nat) (cn : Nat) (k fl : Nat) (hk : k < 8) (hf8 : fl < 81) (hcb : ∀ t, t < 4 → cf k t < 2 ^ 24) (hlb : ∀ q, q < 81 → lf (k + 1) q ≤ 268435456) : Met l y_PI_leastCost (wsA y_PI_leastCost b_PI_leastCost 5 (some .int)) ({ frames := 1, cells := 0, slots := 0, locals := 24 } : Room) (zRF zT1 D [(cA, .int), (cZ, .boolean), (c2, .array .int)] [(aI 0, .inr (5, [.ref (aP 0), .ref (aN 0), .ref (aI 1), .ref (aI 2), .ref (aI 3), .ref (aI 4), .int (nI cn)])), (aI 1, .inl (cA, 8, .inl (fun zk => nI (nn zk)))), (aI 2, .inl (cA, 8, .inl (fun zk => nI (sd zk)))), (aI 3, .inl (c2, 8, .inr (.inr (.inr (.inr (fun zk => some (aC zk))))))), (aI 4, .inl (c2, 9, .inr (.inr (.inr (.inr (fun zk => some (aL zk))))))), (aC 0, .inl (cA, 4, .inl (fun zk => nI ((cf 0) zk)))), (aC 1, .inl (cA, 4, .inl (fun zk => nI ((cf 1) zk)))), (aC 2, .inl (cA, 4, .inl (fun zk => nI ((cf 2) zk)))), (aC 3, .inl (cA, 4, .inl (fun zk => nI ((cf 3) zk)))), (aC 4, .inl (cA, 4, .inl (fun zk => nI ((cf 4) zk)))), (aC 5, .inl (cA, 4, .inl (fun zk => nI ((cf 5) zk)))), (aC 6, .inl (cA, 4, .inl (fun zk => nI ((cf 6) zk)))), (aC 7, .inl (cA, 4, .inl (fun zk => nI ((cf 7) zk)))), (aL 0, .inl (cA, 81, .inl (fun zk => nI ((lf 0) zk)))), (aL 1, .inl (cA, 81, .inl (fun zk => nI ((lf 1) zk)))), (aL 2, .inl (cA, 81, .inl (fun zk => nI ((lf 2) zk)))), (aL 3, .inl (cA, 81, .inl (fun zk => nI ((lf 3) zk)))), (aL 4, .inl (cA, 81, .inl (fun zk => nI ((lf 4) zk)))), (aL 5, .inl (cA, 81, .inl (fun zk => nI ((lf 5) zk)))), (aL 6, .inl (cA, 81, .inl (fun zk => nI ((lf 6) zk)))), (aL 7, .inl (cA, 81, .inl (fun zk => nI ((lf 7) zk)))), (aL 8, .inl (cA, 81, .inl (fun zk => nI ((lf 8) zk))))] [.ref (aI 0), .int (nI k), .int (nI fl)]) (k2_QcV (.int (nI (mnW cf (lf (k + 1)) k fl 4)))) 0 0 (fun _ => False) := by
  refine Met.ofW (cc := b_PI_leastCost) (maxL := 5) (ret := (some .int)) (by decide) rfl ?_
  intro p e s m args below meth c s₁ Bd hml hv
  obtain ⟨rfl, hP, hK, hF⟩ := hv
  have hx := Bd.exec
  have hb := Bd.bytes
  have hr := Bd.returns
  have hts : ∀ w ∈ lw_g, w.before _ s = true := fun w h => atoms_spec (ws := wsA y_PI_leastCost b_PI_leastCost 5 (some .int)) Bd.pre w (List.mem_cons_of_mem _ h)
  have hown : s.vm.findClass R_PI = some m.cls := findClass_of_methodNamed Bd.named
  have hlocks := Bd.notSynchronized
  have hl := lv_entry ([.ref (aI 0), .int (nI k), .int (nI fl)]) (n := 5) (Nat.le_of_ble_eq_true rfl)
  rw [lg_entry_eq]
  generalize (lg_sl ([.ref (aI 0), .int (nI k), .int (nI fl)]) ++ List.replicate (5 - (lg_sl ([.ref (aI 0), .int (nI k), .int (nI fl)])).length) Slot.unset).toArray = ls at hl ⊢
  have hl : lv_has ls 5 [(0, .ref (aI 0)), (1, .int (nI k)), (2, .int (nI fl))] := hl
  have hP : va_P D classes [(aI 0, .inr (5, [.ref (aP 0), .ref (aN 0), .ref (aI 1), .ref (aI 2), .ref (aI 3), .ref (aI 4), .int (nI cn)])), (aI 1, .inl (cA, 8, .inl (fun zk => nI (nn zk)))), (aI 2, .inl (cA, 8, .inl (fun zk => nI (sd zk)))), (aI 3, .inl (c2, 8, .inr (.inr (.inr (.inr (fun zk => some (aC zk))))))), (aI 4, .inl (c2, 9, .inr (.inr (.inr (.inr (fun zk => some (aL zk))))))), (aC 0, .inl (cA, 4, .inl (fun zk => nI ((cf 0) zk)))), (aC 1, .inl (cA, 4, .inl (fun zk => nI ((cf 1) zk)))), (aC 2, .inl (cA, 4, .inl (fun zk => nI ((cf 2) zk)))), (aC 3, .inl (cA, 4, .inl (fun zk => nI ((cf 3) zk)))), (aC 4, .inl (cA, 4, .inl (fun zk => nI ((cf 4) zk)))), (aC 5, .inl (cA, 4, .inl (fun zk => nI ((cf 5) zk)))), (aC 6, .inl (cA, 4, .inl (fun zk => nI ((cf 6) zk)))), (aC 7, .inl (cA, 4, .inl (fun zk => nI ((cf 7) zk)))), (aL 0, .inl (cA, 81, .inl (fun zk => nI ((lf 0) zk)))), (aL 1, .inl (cA, 81, .inl (fun zk => nI ((lf 1) zk)))), (aL 2, .inl (cA, 81, .inl (fun zk => nI ((lf 2) zk)))), (aL 3, .inl (cA, 81, .inl (fun zk => nI ((lf 3) zk)))), (aL 4, .inl (cA, 81, .inl (fun zk => nI ((lf 4) zk)))), (aL 5, .inl (cA, 81, .inl (fun zk => nI ((lf 5) zk)))), (aL 6, .inl (cA, 81, .inl (fun zk => nI ((lf 6) zk)))), (aL 7, .inl (cA, 81, .inl (fun zk => nI ((lf 7) zk)))), (aL 8, .inl (cA, 81, .inl (fun zk => nI ((lf 8) zk))))] s.heap := hP
  refine lv_ldc hx hb hown (hts _ kL_PI_61) d_PI_leastCost_0 ?_
  refine lv_toi (z := nI 268435456) (by decide) ?_
  refine lv_istore_n (lv' := [(3, .int (nI 268435456)), (0, .ref (aI 0)), (1, .int (nI k)), (2, .int (nI fl))]) hx hb d_PI_leastCost_2 rfl hl (by decide) rfl (fun ls hl => ?_)
  refine lv_iconst (v := nI 0) hx hb d_PI_leastCost_3 (by decide) ?_
  refine lv_istore (lv' := [(4, .int (nI 0)), (3, .int (nI 268435456)), (0, .ref (aI 0)), (1, .int (nI k)), (2, .int (nI fl))]) hx hb d_PI_leastCost_4 hl (by decide) rfl (fun ls hl => ?_)
  have hl : lv_has ls 5 [(4, .int (nI 0)), (3, .int (nI (mnW cf (lf (k + 1)) k fl 0))), (0, .ref (aI 0)), (1, .int (nI k)), (2, .int (nI fl))] := Eq.mp (congrArg (fun zz => lv_has ls 5 [(4, .int (nI 0)), (3, .int zz), (0, .ref (aI 0)), (1, .int (nI k)), (2, .int (nI fl))]) rfl) hl
  have lp : ∀ (fu : Nat), ∀ (s0 : Nat), (s0 ≤ 4) → (4 - s0 + 1) ≤ fu → ∀ (ls : Array Slot), lv_has ls 5 [(0, .ref (aI 0)), (1, .int (nI k)), (2, .int (nI fl)), (3, .int (nI (mnW cf (lf (k + 1)) k fl s0))), (4, .int (nI s0))] → W p l e (headSpec (wsA y_PI_leastCost b_PI_leastCost 5 (some .int)) ({ frames := 1, cells := 0, slots := 0, locals := 24 } : Room)).room s m ([.ref (aI 0), .int (nI k), .int (nI fl)] : List Value).toArray below meth c s.heap [] 0 0 (MQ below (k2_QcV (.int (nI (mnW cf (lf (k + 1)) k fl 4)))) ([.ref (aI 0), .int (nI k), .int (nI fl)] : List Value).toArray s 0 0 (fun _ => False)) (F0 m 6 ls []) := by
    intro fu
    induction fu with
    | zero =>
      intro s0 hs0 hmu ls hl
      exact absurd hmu (by omega)
    | succ fu_lp ih_lp =>
      intro s0 hs0 hmu_lp ls hl
      refine lv_iload hx hb d_PI_leastCost_6 (lv_at hl 4 rfl) ?_
      refine lv_iconst (v := nI 4) hx hb d_PI_leastCost_8 (by decide) ?_
      refine z_cge (tgt := 31) hx hb d_PI_leastCost_9 (by decide) (by omega) (by omega) (fun c_1 => ?_) (fun c_1 => ?_)
      · refine lv_iload_n hx hb d_PI_leastCost_31 rfl (lv_at hl 3 rfl) ?_
        refine lv_toi (z := (nI (mnW cf (lf (k + 1)) k fl 4))) (congrArg nI (by rw [show s0 = 4 by omega])) ?_
        exact W.iret hx hb hr (fun t ht hW => ⟨rfl, ht⟩) (fun q h => by cases h) d_PI_leastCost_32
      · refine lv_iload_n hx hb d_PI_leastCost_12 rfl (lv_at hl 3 rfl) ?_
        refine lv_aload_n hx hb d_PI_leastCost_13 rfl (lv_at hl 0 rfl) ?_
        refine lv_iload_n hx hb d_PI_leastCost_14 rfl (lv_at hl 1 rfl) ?_
        refine lv_iload_n hx hb d_PI_leastCost_15 rfl (lv_at hl 2 rfl) ?_
        refine lv_iload hx hb d_PI_leastCost_16 (lv_at hl 4 rfl) ?_
        refine zrF_V (ci := 5) (q0 := 0) (As := [.int (nI k), .int (nI fl), .int (nI s0)]) (rest := [.int (nI (mnW cf (lf (k + 1)) k fl s0))]) (n := 3) zT1_ok ⟨hx, hb, hml, hown, hts⟩ (c_PI_costWith l D aI aC aL aP aN cA cZ c2 nn sd cf lf cn k fl s0 hk hf8 (by omega)) ⟨km_PI_62, ki_PI_costWith, ks_PI_costWith, kn_PI, kd_PI_costWith⟩ (by decide +kernel) (by decide) ⟨Nat.zero_le _, Nat.zero_le _⟩ hK hP hF [0, 1, 2, 3, 4, 5, 6, 7, 8, 9, 10, 11, 12, 13, 14, 15, 16, 17, 18, 19, 20, 21] rfl [0, 1, 2] rfl rfl rfl rfl hl.1 rfl (Nat.le_of_ble_eq_true rfl) d_PI_leastCost_18 ?_
        have hb1 := cw_bd (C := cf) (lc := lf (k + 1)) (k := k) (fl := fl) (s := s0) (hcb s0 (by omega)) (fun h => hlb _ h) hf8 (by omega)
        have hb2 := mnW_top (C := cf) (lc := lf (k + 1)) (k := k) (fl := fl) s0
        refine z_min (x := (mnW cf (lf (k + 1)) k fl s0)) (y := (cw cf (lf (k + 1)) k fl s0)) ⟨hx, hb, hml, hown, hts⟩ hl.1 km_PI_65 (Nat.le_of_ble_eq_true rfl) (Nat.le_of_ble_eq_true rfl) ⟨Nat.zero_le _, Nat.zero_le _⟩ (by omega) (by omega) d_PI_leastCost_21 ?_
        refine lv_istore_n (lv' := [(3, .int (nI (min (mnW cf (lf (k + 1)) k fl s0) (cw cf (lf (k + 1)) k fl s0)))), (0, .ref (aI 0)), (1, .int (nI k)), (2, .int (nI fl)), (4, .int (nI s0))]) hx hb d_PI_leastCost_24 rfl hl (by decide) rfl (fun ls hl => ?_)
        refine lv_iinc (v := nI (s0 + 1)) (lv' := [(4, .int (nI (s0 + 1))), (3, .int (nI (min (mnW cf (lf (k + 1)) k fl s0) (cw cf (lf (k + 1)) k fl s0)))), (0, .ref (aI 0)), (1, .int (nI k)), (2, .int (nI fl))]) hx hb d_PI_leastCost_25 hl (k := 4) rfl (nI_1 _) (by decide) rfl (fun ls hl => ?_)
        refine lv_goto (tgt := 6) hx hb d_PI_leastCost_28 (by decide) ?_
        have hl : lv_has ls 5 [(4, .int (nI (s0 + 1))), (3, .int (nI (mnW cf (lf (k + 1)) k fl (s0 + 1)))), (0, .ref (aI 0)), (1, .int (nI k)), (2, .int (nI fl))] := Eq.mp (congrArg (fun zz => lv_has ls 5 [(4, .int (nI (s0 + 1))), (3, .int zz), (0, .ref (aI 0)), (1, .int (nI k)), (2, .int (nI fl))]) rfl) hl
        exact ih_lp (s0 + 1) (by omega) (by omega) ls (lv_sub hl [2, 3, 4, 1, 0] rfl)
  exact lp _ 0 (Nat.zero_le _) (Nat.le_refl _) ls (lv_sub hl [2, 3, 4, 1, 0] rfl)
set_option maxHeartbeats 4000000 in
set_option maxRecDepth 100000 in
/-- Pins.netAt(s0, kk) -/
theorem c_PI_netAt (l : Launch) (D : va_G) (aI aC aL aP aN : Nat → Nat) (cA cZ c2 : ClassId) (nn sd : Nat → Nat) (cf lf : Nat → Nat → Nat) (cn : Nat) (s0 kk : Nat) (h8 : cn ≤ 8) (hs4 : s0 < 4) (hkk : kk < 2) (hsd : ∀ q, q < cn → sd q < 4) : Met l y_PI_netAt (wsA y_PI_netAt b_PI_netAt 5 (some .int)) ({ frames := 0, cells := 0, slots := 0, locals := 0 } : Room) (zR D [(cA, .int), (cZ, .boolean), (c2, .array .int)] [(aI 0, .inr (5, [.ref (aP 0), .ref (aN 0), .ref (aI 1), .ref (aI 2), .ref (aI 3), .ref (aI 4), .int (nI cn)])), (aI 1, .inl (cA, 8, .inl (fun zk => nI (nn zk)))), (aI 2, .inl (cA, 8, .inl (fun zk => nI (sd zk)))), (aI 3, .inl (c2, 8, .inr (.inr (.inr (.inr (fun zk => some (aC zk))))))), (aI 4, .inl (c2, 9, .inr (.inr (.inr (.inr (fun zk => some (aL zk))))))), (aC 0, .inl (cA, 4, .inl (fun zk => nI ((cf 0) zk)))), (aC 1, .inl (cA, 4, .inl (fun zk => nI ((cf 1) zk)))), (aC 2, .inl (cA, 4, .inl (fun zk => nI ((cf 2) zk)))), (aC 3, .inl (cA, 4, .inl (fun zk => nI ((cf 3) zk)))), (aC 4, .inl (cA, 4, .inl (fun zk => nI ((cf 4) zk)))), (aC 5, .inl (cA, 4, .inl (fun zk => nI ((cf 5) zk)))), (aC 6, .inl (cA, 4, .inl (fun zk => nI ((cf 6) zk)))), (aC 7, .inl (cA, 4, .inl (fun zk => nI ((cf 7) zk)))), (aL 0, .inl (cA, 81, .inl (fun zk => nI ((lf 0) zk)))), (aL 1, .inl (cA, 81, .inl (fun zk => nI ((lf 1) zk)))), (aL 2, .inl (cA, 81, .inl (fun zk => nI ((lf 2) zk)))), (aL 3, .inl (cA, 81, .inl (fun zk => nI ((lf 3) zk)))), (aL 4, .inl (cA, 81, .inl (fun zk => nI ((lf 4) zk)))), (aL 5, .inl (cA, 81, .inl (fun zk => nI ((lf 5) zk)))), (aL 6, .inl (cA, 81, .inl (fun zk => nI ((lf 6) zk)))), (aL 7, .inl (cA, 81, .inl (fun zk => nI ((lf 7) zk)))), (aL 8, .inl (cA, 81, .inl (fun zk => nI ((lf 8) zk))))] [.ref (aI 0), .int (nI s0), .int (nI kk)]) (k2_QcV (.int (pkA sd nn s0 kk cn))) 0 0 (fun _ => False) := by
  refine Met.ofW (cc := b_PI_netAt) (maxL := 5) (ret := (some .int)) (by decide) rfl ?_
  intro p e s m args below meth c s₁ Bd hml hv
  obtain ⟨rfl, hP, hK⟩ := hv
  have hx := Bd.exec
  have hb := Bd.bytes
  have hr := Bd.returns
  have hts : ∀ w ∈ lw_g, w.before _ s = true := fun w h => atoms_spec (ws := wsA y_PI_netAt b_PI_netAt 5 (some .int)) Bd.pre w (List.mem_cons_of_mem _ h)
  have hown : s.vm.findClass R_PI = some m.cls := findClass_of_methodNamed Bd.named
  have hlocks := Bd.notSynchronized
  have hl := lv_entry ([.ref (aI 0), .int (nI s0), .int (nI kk)]) (n := 5) (Nat.le_of_ble_eq_true rfl)
  rw [lg_entry_eq]
  generalize (lg_sl ([.ref (aI 0), .int (nI s0), .int (nI kk)]) ++ List.replicate (5 - (lg_sl ([.ref (aI 0), .int (nI s0), .int (nI kk)])).length) Slot.unset).toArray = ls at hl ⊢
  have hl : lv_has ls 5 [(0, .ref (aI 0)), (1, .int (nI s0)), (2, .int (nI kk))] := hl
  have hP : va_P D classes [(aI 0, .inr (5, [.ref (aP 0), .ref (aN 0), .ref (aI 1), .ref (aI 2), .ref (aI 3), .ref (aI 4), .int (nI cn)])), (aI 1, .inl (cA, 8, .inl (fun zk => nI (nn zk)))), (aI 2, .inl (cA, 8, .inl (fun zk => nI (sd zk)))), (aI 3, .inl (c2, 8, .inr (.inr (.inr (.inr (fun zk => some (aC zk))))))), (aI 4, .inl (c2, 9, .inr (.inr (.inr (.inr (fun zk => some (aL zk))))))), (aC 0, .inl (cA, 4, .inl (fun zk => nI ((cf 0) zk)))), (aC 1, .inl (cA, 4, .inl (fun zk => nI ((cf 1) zk)))), (aC 2, .inl (cA, 4, .inl (fun zk => nI ((cf 2) zk)))), (aC 3, .inl (cA, 4, .inl (fun zk => nI ((cf 3) zk)))), (aC 4, .inl (cA, 4, .inl (fun zk => nI ((cf 4) zk)))), (aC 5, .inl (cA, 4, .inl (fun zk => nI ((cf 5) zk)))), (aC 6, .inl (cA, 4, .inl (fun zk => nI ((cf 6) zk)))), (aC 7, .inl (cA, 4, .inl (fun zk => nI ((cf 7) zk)))), (aL 0, .inl (cA, 81, .inl (fun zk => nI ((lf 0) zk)))), (aL 1, .inl (cA, 81, .inl (fun zk => nI ((lf 1) zk)))), (aL 2, .inl (cA, 81, .inl (fun zk => nI ((lf 2) zk)))), (aL 3, .inl (cA, 81, .inl (fun zk => nI ((lf 3) zk)))), (aL 4, .inl (cA, 81, .inl (fun zk => nI ((lf 4) zk)))), (aL 5, .inl (cA, 81, .inl (fun zk => nI ((lf 5) zk)))), (aL 6, .inl (cA, 81, .inl (fun zk => nI ((lf 6) zk)))), (aL 7, .inl (cA, 81, .inl (fun zk => nI ((lf 7) zk)))), (aL 8, .inl (cA, 81, .inl (fun zk => nI ((lf 8) zk))))] s.heap := hP
  refine lv_iconst (v := nI 0) hx hb d_PI_netAt_0 (by decide) ?_
  refine lv_istore_n (lv' := [(3, .int (nI 0)), (0, .ref (aI 0)), (1, .int (nI s0)), (2, .int (nI kk))]) hx hb d_PI_netAt_1 rfl hl (by decide) rfl (fun ls hl => ?_)
  refine lv_iconst (v := nI 0) hx hb d_PI_netAt_2 (by decide) ?_
  refine lv_istore (lv' := [(4, .int (nI 0)), (3, .int (nI 0)), (0, .ref (aI 0)), (1, .int (nI s0)), (2, .int (nI kk))]) hx hb d_PI_netAt_3 hl (by decide) rfl (fun ls hl => ?_)
  have hl : lv_has ls 5 [(4, .int (nI 0)), (3, .int (nI (cnS sd s0 0))), (0, .ref (aI 0)), (1, .int (nI s0)), (2, .int (nI kk))] := Eq.mp (congrArg (fun zz => lv_has ls 5 [(4, .int (nI 0)), (3, .int zz), (0, .ref (aI 0)), (1, .int (nI s0)), (2, .int (nI kk))]) rfl) hl
  have lp : ∀ (fu : Nat), ∀ (j : Nat), (j ≤ cn) → (pkF sd s0 kk j = none) → (cn - j + 1) ≤ fu → ∀ (ls : Array Slot), lv_has ls 5 [(0, .ref (aI 0)), (1, .int (nI s0)), (2, .int (nI kk)), (3, .int (nI (cnS sd s0 j))), (4, .int (nI j))] → W p l e (headSpec (wsA y_PI_netAt b_PI_netAt 5 (some .int)) ({ frames := 0, cells := 0, slots := 0, locals := 0 } : Room)).room s m ([.ref (aI 0), .int (nI s0), .int (nI kk)] : List Value).toArray below meth c s.heap [] 0 0 (MQ below (k2_QcV (.int (pkA sd nn s0 kk cn))) ([.ref (aI 0), .int (nI s0), .int (nI kk)] : List Value).toArray s 0 0 (fun _ => False)) (F0 m 5 ls []) := by
    intro fu
    induction fu with
    | zero =>
      intro j hj hpk hmu ls hl
      exact absurd hmu (by omega)
    | succ fu_lp ih_lp =>
      intro j hj hpk hmu_lp ls hl
      refine lv_iload hx hb d_PI_netAt_5 (lv_at hl 4 rfl) ?_
      refine lv_aload_n hx hb d_PI_netAt_7 rfl (lv_at hl 0 rfl) ?_
      refine va_get (D := D) (ci := 5) (v := .int (nI cn)) (C := R_PI) (T := F_PI) (N := 7) hx hb hts i_PI hown hK hP 0 rfl rfl 6 (by decide) (hts _ kf_PI_34) (fun _ h9 => h9) rfl d_PI_netAt_8 ?_
      refine z_cge (tgt := 47) hx hb d_PI_netAt_11 (by decide) (by omega) (by omega) (fun c_1 => ?_) (fun c_1 => ?_)
      · refine lv_iconst (v := (-1)) hx hb d_PI_netAt_47 (by decide) ?_
        refine lv_toi (z := (pkA sd nn s0 kk cn)) (by unfold pkA; rw [show cn = j by omega, hpk]) ?_
        exact W.iret hx hb hr (fun t ht hW => ⟨rfl, ht⟩) (fun q h => by cases h) d_PI_netAt_48
      · have h4 := hsd j (by omega)
        have hck := cn_k (σ := sd) (t := s0) j
        refine lv_aload_n hx hb d_PI_netAt_14 rfl (lv_at hl 0 rfl) ?_
        refine va_get (D := D) (ci := 5) (v := .ref (aI 2)) (C := R_PI) (T := F_PI) (N := 7) hx hb hts i_PI hown hK hP 0 rfl rfl 3 (by decide) (hts _ kf_PI_23) (fun _ h9 => h9) rfl d_PI_netAt_15 ?_
        refine lv_iload hx hb d_PI_netAt_18 (lv_at hl 4 rfl) ?_
        refine z_ild (j := j) hx hb hK hP 2 0 rfl rfl (by omega) (by decide) d_PI_netAt_20 ?_
        refine lv_iload_n hx hb d_PI_netAt_21 rfl (lv_at hl 1 rfl) ?_
        refine z_cne (tgt := 41) hx hb d_PI_netAt_22 (by decide) (by omega) (by omega) (fun c_1 => ?_) (fun c_1 => ?_)
        · refine lv_iinc (v := nI (j + 1)) (lv' := [(4, .int (nI (j + 1))), (0, .ref (aI 0)), (1, .int (nI s0)), (2, .int (nI kk)), (3, .int (nI (cnS sd s0 j)))]) hx hb d_PI_netAt_41 hl (k := 4) rfl (nI_1 _) (by decide) rfl (fun ls hl => ?_)
          refine lv_goto (tgt := 5) hx hb d_PI_netAt_44 (by decide) ?_
          have hl : lv_has ls 5 [(4, .int (nI (j + 1))), (0, .ref (aI 0)), (1, .int (nI s0)), (2, .int (nI kk)), (3, .int (nI (cnS sd s0 (j + 1))))] := Eq.mp (congrArg (fun zz => lv_has ls 5 [(4, .int (nI (j + 1))), (0, .ref (aI 0)), (1, .int (nI s0)), (2, .int (nI kk)), (3, .int zz)]) (congrArg nI (by rw [cnS, if_neg c_1, Nat.add_zero]))) hl
          exact ih_lp (j + 1) (by omega) (pkF_s0 hpk (fun q => c_1 q.1)) (by omega) ls (lv_sub hl [1, 2, 3, 4, 0] rfl)
        · refine lv_iload_n hx hb d_PI_netAt_25 rfl (lv_at hl 3 rfl) ?_
          refine lv_iload_n hx hb d_PI_netAt_26 rfl (lv_at hl 2 rfl) ?_
          refine z_cne (tgt := 38) hx hb d_PI_netAt_27 (by decide) (by omega) (by omega) (fun c_2 => ?_) (fun c_2 => ?_)
          · refine lv_iinc (v := nI ((cnS sd s0 j) + 1)) (lv' := [(3, .int (nI ((cnS sd s0 j) + 1))), (0, .ref (aI 0)), (1, .int (nI s0)), (2, .int (nI kk)), (4, .int (nI j))]) hx hb d_PI_netAt_38 hl (k := 3) rfl (nI_1 _) (by decide) rfl (fun ls hl => ?_)
            refine lv_iinc (v := nI (j + 1)) (lv' := [(4, .int (nI (j + 1))), (3, .int (nI ((cnS sd s0 j) + 1))), (0, .ref (aI 0)), (1, .int (nI s0)), (2, .int (nI kk))]) hx hb d_PI_netAt_41 hl (k := 4) rfl (nI_1 _) (by decide) rfl (fun ls hl => ?_)
            refine lv_goto (tgt := 5) hx hb d_PI_netAt_44 (by decide) ?_
            have hl : lv_has ls 5 [(4, .int (nI (j + 1))), (3, .int (nI (cnS sd s0 (j + 1)))), (0, .ref (aI 0)), (1, .int (nI s0)), (2, .int (nI kk))] := Eq.mp (congrArg (fun zz => lv_has ls 5 [(4, .int (nI (j + 1))), (3, .int zz), (0, .ref (aI 0)), (1, .int (nI s0)), (2, .int (nI kk))]) (congrArg nI (by rw [cnS, if_pos c_1]))) hl
            exact ih_lp (j + 1) (by omega) (pkF_s0 hpk (fun q => c_2 q.2)) (by omega) ls (lv_sub hl [2, 3, 4, 1, 0] rfl)
          · have hp1 := pkF_up (pkF_s1 hpk c_1 c_2) (cn - (j + 1))
            rw [show j + 1 + (cn - (j + 1)) = cn by omega] at hp1
            refine lv_aload_n hx hb d_PI_netAt_30 rfl (lv_at hl 0 rfl) ?_
            refine va_get (D := D) (ci := 5) (v := .ref (aI 1)) (C := R_PI) (T := F_PI) (N := 7) hx hb hts i_PI hown hK hP 0 rfl rfl 2 (by decide) (hts _ kf_PI_19) (fun _ h9 => h9) rfl d_PI_netAt_31 ?_
            refine lv_iload hx hb d_PI_netAt_34 (lv_at hl 4 rfl) ?_
            refine z_ild (j := j) hx hb hK hP 1 0 rfl rfl (by omega) (by decide) d_PI_netAt_36 ?_
            refine lv_toi (z := (pkA sd nn s0 kk cn)) (by unfold pkA; rw [hp1]) ?_
            exact W.iret hx hb hr (fun t ht hW => ⟨rfl, ht⟩) (fun q h => by cases h) d_PI_netAt_37
  exact lp _ 0 (Nat.zero_le _) rfl (Nat.le_refl _) ls (lv_sub hl [2, 3, 4, 1, 0] rfl)
set_option maxHeartbeats 4000000 in
set_option maxRecDepth 100000 in
/-- Pins.choose() -/
theorem c_PI_choose (l : Launch) (D : va_G) (sz : Nat) (aI aC aL aP aN : Nat → Nat) (cA cZ c2 : ClassId) (nn sd : Nat → Nat) (cf lf : Nat → Nat → Nat) (cn : Nat) (h8 : cn ≤ 8) (hcb : ∀ k t, k < cn → t < 4 → cf k t < 2 ^ 24) (hlf : ∀ k q, k ≤ cn → q < 81 → lf k q = lcf cf cn (cn - k) q) : Met l y_PI_choose (wsA y_PI_choose b_PI_choose 4 none) ({ frames := 1, cells := 0, slots := 0, locals := 24 } : Room) (zPF zT1 D [(cA, .int), (cZ, .boolean), (c2, .array .int)] [(aI 0, .inr (5, [.ref (aP 0), .ref (aN 0), .ref (aI 1), .ref (aI 2), .ref (aI 3), .ref (aI 4), .int (nI cn)])), (aI 1, .inl (cA, 8, .inl (fun zk => nI (nn zk)))), (aI 2, .inl (cA, 8, .inl (fun zk => nI (sd zk)))), (aI 3, .inl (c2, 8, .inr (.inr (.inr (.inr (fun zk => some (aC zk))))))), (aI 4, .inl (c2, 9, .inr (.inr (.inr (.inr (fun zk => some (aL zk))))))), (aC 0, .inl (cA, 4, .inl (fun zk => nI ((cf 0) zk)))), (aC 1, .inl (cA, 4, .inl (fun zk => nI ((cf 1) zk)))), (aC 2, .inl (cA, 4, .inl (fun zk => nI ((cf 2) zk)))), (aC 3, .inl (cA, 4, .inl (fun zk => nI ((cf 3) zk)))), (aC 4, .inl (cA, 4, .inl (fun zk => nI ((cf 4) zk)))), (aC 5, .inl (cA, 4, .inl (fun zk => nI ((cf 5) zk)))), (aC 6, .inl (cA, 4, .inl (fun zk => nI ((cf 6) zk)))), (aC 7, .inl (cA, 4, .inl (fun zk => nI ((cf 7) zk)))), (aL 0, .inl (cA, 81, .inl (fun zk => nI ((lf 0) zk)))), (aL 1, .inl (cA, 81, .inl (fun zk => nI ((lf 1) zk)))), (aL 2, .inl (cA, 81, .inl (fun zk => nI ((lf 2) zk)))), (aL 3, .inl (cA, 81, .inl (fun zk => nI ((lf 3) zk)))), (aL 4, .inl (cA, 81, .inl (fun zk => nI ((lf 4) zk)))), (aL 5, .inl (cA, 81, .inl (fun zk => nI ((lf 5) zk)))), (aL 6, .inl (cA, 81, .inl (fun zk => nI ((lf 6) zk)))), (aL 7, .inl (cA, 81, .inl (fun zk => nI ((lf 7) zk)))), (aL 8, .inl (cA, 81, .inl (fun zk => nI ((lf 8) zk))))] [.ref (aI 0)] sz) (zQ none (zB D [(cA, .int), (cZ, .boolean), (c2, .array .int)] (va_A [(aI 0, .inr (5, [.ref (aP 0), .ref (aN 0), .ref (aI 1), .ref (aI 2), .ref (aI 3), .ref (aI 4), .int (nI cn)])), (aI 1, .inl (cA, 8, .inl (fun zk => nI (nn zk)))), (aI 2, .inl (cA, 8, .inl (fun zk => nI (sd zk)))), (aI 3, .inl (c2, 8, .inr (.inr (.inr (.inr (fun zk => some (aC zk))))))), (aI 4, .inl (c2, 9, .inr (.inr (.inr (.inr (fun zk => some (aL zk))))))), (aC 0, .inl (cA, 4, .inl (fun zk => nI ((cf 0) zk)))), (aC 1, .inl (cA, 4, .inl (fun zk => nI ((cf 1) zk)))), (aC 2, .inl (cA, 4, .inl (fun zk => nI ((cf 2) zk)))), (aC 3, .inl (cA, 4, .inl (fun zk => nI ((cf 3) zk)))), (aC 4, .inl (cA, 4, .inl (fun zk => nI ((cf 4) zk)))), (aC 5, .inl (cA, 4, .inl (fun zk => nI ((cf 5) zk)))), (aC 6, .inl (cA, 4, .inl (fun zk => nI ((cf 6) zk)))), (aC 7, .inl (cA, 4, .inl (fun zk => nI ((cf 7) zk)))), (aL 0, .inl (cA, 81, .inl (fun zk => nI ((lf 0) zk)))), (aL 1, .inl (cA, 81, .inl (fun zk => nI ((lf 1) zk)))), (aL 2, .inl (cA, 81, .inl (fun zk => nI ((lf 2) zk)))), (aL 3, .inl (cA, 81, .inl (fun zk => nI ((lf 3) zk)))), (aL 4, .inl (cA, 81, .inl (fun zk => nI ((lf 4) zk)))), (aL 5, .inl (cA, 81, .inl (fun zk => nI ((lf 5) zk)))), (aL 6, .inl (cA, 81, .inl (fun zk => nI ((lf 6) zk)))), (aL 7, .inl (cA, 81, .inl (fun zk => nI ((lf 7) zk)))), (aL 8, .inl (cA, 81, .inl (fun zk => nI ((lf 8) zk))))] sz) [(aI 0, .inr (5, [.ref (aP 0), .ref (aN 0), .ref (aI 1), .ref (aI 2), .ref (aI 3), .ref (aI 4), .int (nI cn)])), (aI 1, .inl (cA, 8, .inl (fun zk => nI (nn zk)))), (aI 2, .inl (cA, 8, .inl (fun zk => nI (((chs cf cn sd cn).1) zk)))), (aI 3, .inl (c2, 8, .inr (.inr (.inr (.inr (fun zk => some (aC zk))))))), (aI 4, .inl (c2, 9, .inr (.inr (.inr (.inr (fun zk => some (aL zk))))))), (aC 0, .inl (cA, 4, .inl (fun zk => nI ((cf 0) zk)))), (aC 1, .inl (cA, 4, .inl (fun zk => nI ((cf 1) zk)))), (aC 2, .inl (cA, 4, .inl (fun zk => nI ((cf 2) zk)))), (aC 3, .inl (cA, 4, .inl (fun zk => nI ((cf 3) zk)))), (aC 4, .inl (cA, 4, .inl (fun zk => nI ((cf 4) zk)))), (aC 5, .inl (cA, 4, .inl (fun zk => nI ((cf 5) zk)))), (aC 6, .inl (cA, 4, .inl (fun zk => nI ((cf 6) zk)))), (aC 7, .inl (cA, 4, .inl (fun zk => nI ((cf 7) zk)))), (aL 0, .inl (cA, 81, .inl (fun zk => nI ((lf 0) zk)))), (aL 1, .inl (cA, 81, .inl (fun zk => nI ((lf 1) zk)))), (aL 2, .inl (cA, 81, .inl (fun zk => nI ((lf 2) zk)))), (aL 3, .inl (cA, 81, .inl (fun zk => nI ((lf 3) zk)))), (aL 4, .inl (cA, 81, .inl (fun zk => nI ((lf 4) zk)))), (aL 5, .inl (cA, 81, .inl (fun zk => nI ((lf 5) zk)))), (aL 6, .inl (cA, 81, .inl (fun zk => nI ((lf 6) zk)))), (aL 7, .inl (cA, 81, .inl (fun zk => nI ((lf 7) zk)))), (aL 8, .inl (cA, 81, .inl (fun zk => nI ((lf 8) zk))))]) (va_A [(aI 0, .inr (5, [.ref (aP 0), .ref (aN 0), .ref (aI 1), .ref (aI 2), .ref (aI 3), .ref (aI 4), .int (nI cn)])), (aI 1, .inl (cA, 8, .inl (fun zk => nI (nn zk)))), (aI 2, .inl (cA, 8, .inl (fun zk => nI (sd zk)))), (aI 3, .inl (c2, 8, .inr (.inr (.inr (.inr (fun zk => some (aC zk))))))), (aI 4, .inl (c2, 9, .inr (.inr (.inr (.inr (fun zk => some (aL zk))))))), (aC 0, .inl (cA, 4, .inl (fun zk => nI ((cf 0) zk)))), (aC 1, .inl (cA, 4, .inl (fun zk => nI ((cf 1) zk)))), (aC 2, .inl (cA, 4, .inl (fun zk => nI ((cf 2) zk)))), (aC 3, .inl (cA, 4, .inl (fun zk => nI ((cf 3) zk)))), (aC 4, .inl (cA, 4, .inl (fun zk => nI ((cf 4) zk)))), (aC 5, .inl (cA, 4, .inl (fun zk => nI ((cf 5) zk)))), (aC 6, .inl (cA, 4, .inl (fun zk => nI ((cf 6) zk)))), (aC 7, .inl (cA, 4, .inl (fun zk => nI ((cf 7) zk)))), (aL 0, .inl (cA, 81, .inl (fun zk => nI ((lf 0) zk)))), (aL 1, .inl (cA, 81, .inl (fun zk => nI ((lf 1) zk)))), (aL 2, .inl (cA, 81, .inl (fun zk => nI ((lf 2) zk)))), (aL 3, .inl (cA, 81, .inl (fun zk => nI ((lf 3) zk)))), (aL 4, .inl (cA, 81, .inl (fun zk => nI ((lf 4) zk)))), (aL 5, .inl (cA, 81, .inl (fun zk => nI ((lf 5) zk)))), (aL 6, .inl (cA, 81, .inl (fun zk => nI ((lf 6) zk)))), (aL 7, .inl (cA, 81, .inl (fun zk => nI ((lf 7) zk)))), (aL 8, .inl (cA, 81, .inl (fun zk => nI ((lf 8) zk))))] sz)) 0 0 (va_A [(aI 0, .inr (5, [.ref (aP 0), .ref (aN 0), .ref (aI 1), .ref (aI 2), .ref (aI 3), .ref (aI 4), .int (nI cn)])), (aI 1, .inl (cA, 8, .inl (fun zk => nI (nn zk)))), (aI 2, .inl (cA, 8, .inl (fun zk => nI (sd zk)))), (aI 3, .inl (c2, 8, .inr (.inr (.inr (.inr (fun zk => some (aC zk))))))), (aI 4, .inl (c2, 9, .inr (.inr (.inr (.inr (fun zk => some (aL zk))))))), (aC 0, .inl (cA, 4, .inl (fun zk => nI ((cf 0) zk)))), (aC 1, .inl (cA, 4, .inl (fun zk => nI ((cf 1) zk)))), (aC 2, .inl (cA, 4, .inl (fun zk => nI ((cf 2) zk)))), (aC 3, .inl (cA, 4, .inl (fun zk => nI ((cf 3) zk)))), (aC 4, .inl (cA, 4, .inl (fun zk => nI ((cf 4) zk)))), (aC 5, .inl (cA, 4, .inl (fun zk => nI ((cf 5) zk)))), (aC 6, .inl (cA, 4, .inl (fun zk => nI ((cf 6) zk)))), (aC 7, .inl (cA, 4, .inl (fun zk => nI ((cf 7) zk)))), (aL 0, .inl (cA, 81, .inl (fun zk => nI ((lf 0) zk)))), (aL 1, .inl (cA, 81, .inl (fun zk => nI ((lf 1) zk)))), (aL 2, .inl (cA, 81, .inl (fun zk => nI ((lf 2) zk)))), (aL 3, .inl (cA, 81, .inl (fun zk => nI ((lf 3) zk)))), (aL 4, .inl (cA, 81, .inl (fun zk => nI ((lf 4) zk)))), (aL 5, .inl (cA, 81, .inl (fun zk => nI ((lf 5) zk)))), (aL 6, .inl (cA, 81, .inl (fun zk => nI ((lf 6) zk)))), (aL 7, .inl (cA, 81, .inl (fun zk => nI ((lf 7) zk)))), (aL 8, .inl (cA, 81, .inl (fun zk => nI ((lf 8) zk))))] sz) := by
  refine Met.ofW (cc := b_PI_choose) (maxL := 4) (ret := none) (by decide) rfl ?_
  intro p e s m args below meth c s₁ Bd hml hv
  obtain ⟨rfl, hsz, hP, hK, hD0, hF⟩ := hv
  have hx := Bd.exec
  have hb := Bd.bytes
  have hr := Bd.returns
  have hts : ∀ w ∈ lw_g, w.before _ s = true := fun w h => atoms_spec (ws := wsA y_PI_choose b_PI_choose 4 none) Bd.pre w (List.mem_cons_of_mem _ h)
  have hown : s.vm.findClass R_PI = some m.cls := findClass_of_methodNamed Bd.named
  have hlocks := Bd.notSynchronized
  obtain ⟨hD, hA, hS⟩ := z_start hsz hD0
  generalize va_A [(aI 0, .inr (5, [.ref (aP 0), .ref (aN 0), .ref (aI 1), .ref (aI 2), .ref (aI 3), .ref (aI 4), .int (nI cn)])), (aI 1, .inl (cA, 8, .inl (fun zk => nI (nn zk)))), (aI 2, .inl (cA, 8, .inl (fun zk => nI (sd zk)))), (aI 3, .inl (c2, 8, .inr (.inr (.inr (.inr (fun zk => some (aC zk))))))), (aI 4, .inl (c2, 9, .inr (.inr (.inr (.inr (fun zk => some (aL zk))))))), (aC 0, .inl (cA, 4, .inl (fun zk => nI ((cf 0) zk)))), (aC 1, .inl (cA, 4, .inl (fun zk => nI ((cf 1) zk)))), (aC 2, .inl (cA, 4, .inl (fun zk => nI ((cf 2) zk)))), (aC 3, .inl (cA, 4, .inl (fun zk => nI ((cf 3) zk)))), (aC 4, .inl (cA, 4, .inl (fun zk => nI ((cf 4) zk)))), (aC 5, .inl (cA, 4, .inl (fun zk => nI ((cf 5) zk)))), (aC 6, .inl (cA, 4, .inl (fun zk => nI ((cf 6) zk)))), (aC 7, .inl (cA, 4, .inl (fun zk => nI ((cf 7) zk)))), (aL 0, .inl (cA, 81, .inl (fun zk => nI ((lf 0) zk)))), (aL 1, .inl (cA, 81, .inl (fun zk => nI ((lf 1) zk)))), (aL 2, .inl (cA, 81, .inl (fun zk => nI ((lf 2) zk)))), (aL 3, .inl (cA, 81, .inl (fun zk => nI ((lf 3) zk)))), (aL 4, .inl (cA, 81, .inl (fun zk => nI ((lf 4) zk)))), (aL 5, .inl (cA, 81, .inl (fun zk => nI ((lf 5) zk)))), (aL 6, .inl (cA, 81, .inl (fun zk => nI ((lf 6) zk)))), (aL 7, .inl (cA, 81, .inl (fun zk => nI ((lf 7) zk)))), (aL 8, .inl (cA, 81, .inl (fun zk => nI ((lf 8) zk))))] sz = A at hD hA hS hF ⊢
  have hl := lv_entry ([.ref (aI 0)]) (n := 4) (Nat.le_of_ble_eq_true rfl)
  rw [lg_entry_eq]
  generalize (lg_sl ([.ref (aI 0)]) ++ List.replicate (4 - (lg_sl ([.ref (aI 0)])).length) Slot.unset).toArray = ls at hl ⊢
  have hl : lv_has ls 4 [(0, .ref (aI 0))] := hl
  have hP : va_P D classes [(aI 0, .inr (5, [.ref (aP 0), .ref (aN 0), .ref (aI 1), .ref (aI 2), .ref (aI 3), .ref (aI 4), .int (nI cn)])), (aI 1, .inl (cA, 8, .inl (fun zk => nI (nn zk)))), (aI 2, .inl (cA, 8, .inl (fun zk => nI (sd zk)))), (aI 3, .inl (c2, 8, .inr (.inr (.inr (.inr (fun zk => some (aC zk))))))), (aI 4, .inl (c2, 9, .inr (.inr (.inr (.inr (fun zk => some (aL zk))))))), (aC 0, .inl (cA, 4, .inl (fun zk => nI ((cf 0) zk)))), (aC 1, .inl (cA, 4, .inl (fun zk => nI ((cf 1) zk)))), (aC 2, .inl (cA, 4, .inl (fun zk => nI ((cf 2) zk)))), (aC 3, .inl (cA, 4, .inl (fun zk => nI ((cf 3) zk)))), (aC 4, .inl (cA, 4, .inl (fun zk => nI ((cf 4) zk)))), (aC 5, .inl (cA, 4, .inl (fun zk => nI ((cf 5) zk)))), (aC 6, .inl (cA, 4, .inl (fun zk => nI ((cf 6) zk)))), (aC 7, .inl (cA, 4, .inl (fun zk => nI ((cf 7) zk)))), (aL 0, .inl (cA, 81, .inl (fun zk => nI ((lf 0) zk)))), (aL 1, .inl (cA, 81, .inl (fun zk => nI ((lf 1) zk)))), (aL 2, .inl (cA, 81, .inl (fun zk => nI ((lf 2) zk)))), (aL 3, .inl (cA, 81, .inl (fun zk => nI ((lf 3) zk)))), (aL 4, .inl (cA, 81, .inl (fun zk => nI ((lf 4) zk)))), (aL 5, .inl (cA, 81, .inl (fun zk => nI ((lf 5) zk)))), (aL 6, .inl (cA, 81, .inl (fun zk => nI ((lf 6) zk)))), (aL 7, .inl (cA, 81, .inl (fun zk => nI ((lf 7) zk)))), (aL 8, .inl (cA, 81, .inl (fun zk => nI ((lf 8) zk))))] s.heap := hP
  have hF0 := hF
  obtain ⟨tb, hZ1, hT1⟩ := hF0
  refine lv_iconst (v := nI 0) hx hb d_PI_choose_0 (by decide) ?_
  refine lv_istore_n (lv' := [(1, .int (nI 0)), (0, .ref (aI 0))]) hx hb d_PI_choose_1 rfl hl (by decide) rfl (fun ls hl => ?_)
  refine lv_iconst (v := nI 0) hx hb d_PI_choose_2 (by decide) ?_
  refine lv_istore_n (lv' := [(2, .int (nI 0)), (1, .int (nI 0)), (0, .ref (aI 0))]) hx hb d_PI_choose_3 rfl hl (by decide) rfl (fun ls hl => ?_)
  have hl : lv_has ls 4 [(2, .int (nI 0)), (1, .int (nI ((chs cf cn sd 0).2))), (0, .ref (aI 0))] := Eq.mp (congrArg (fun zz => lv_has ls 4 [(2, .int (nI 0)), (1, .int zz), (0, .ref (aI 0))]) rfl) hl
  have lp : ∀ (fu : Nat), ∀ (k : Nat), (k ≤ cn) → (cn - k + 1) ≤ fu → ∀ (H : Heap) (locs : List Loc), va_P D classes [(aI 0, .inr (5, [.ref (aP 0), .ref (aN 0), .ref (aI 1), .ref (aI 2), .ref (aI 3), .ref (aI 4), .int (nI cn)])), (aI 1, .inl (cA, 8, .inl (fun zk => nI (nn zk)))), (aI 2, .inl (cA, 8, .inl (fun zk => nI (((chs cf cn sd k).1) zk)))), (aI 3, .inl (c2, 8, .inr (.inr (.inr (.inr (fun zk => some (aC zk))))))), (aI 4, .inl (c2, 9, .inr (.inr (.inr (.inr (fun zk => some (aL zk))))))), (aC 0, .inl (cA, 4, .inl (fun zk => nI ((cf 0) zk)))), (aC 1, .inl (cA, 4, .inl (fun zk => nI ((cf 1) zk)))), (aC 2, .inl (cA, 4, .inl (fun zk => nI ((cf 2) zk)))), (aC 3, .inl (cA, 4, .inl (fun zk => nI ((cf 3) zk)))), (aC 4, .inl (cA, 4, .inl (fun zk => nI ((cf 4) zk)))), (aC 5, .inl (cA, 4, .inl (fun zk => nI ((cf 5) zk)))), (aC 6, .inl (cA, 4, .inl (fun zk => nI ((cf 6) zk)))), (aC 7, .inl (cA, 4, .inl (fun zk => nI ((cf 7) zk)))), (aL 0, .inl (cA, 81, .inl (fun zk => nI ((lf 0) zk)))), (aL 1, .inl (cA, 81, .inl (fun zk => nI ((lf 1) zk)))), (aL 2, .inl (cA, 81, .inl (fun zk => nI ((lf 2) zk)))), (aL 3, .inl (cA, 81, .inl (fun zk => nI ((lf 3) zk)))), (aL 4, .inl (cA, 81, .inl (fun zk => nI ((lf 4) zk)))), (aL 5, .inl (cA, 81, .inl (fun zk => nI ((lf 5) zk)))), (aL 6, .inl (cA, 81, .inl (fun zk => nI ((lf 6) zk)))), (aL 7, .inl (cA, 81, .inl (fun zk => nI ((lf 7) zk)))), (aL 8, .inl (cA, 81, .inl (fun zk => nI ((lf 8) zk))))] H → va_D A [(aI 0, .inr (5, [.ref (aP 0), .ref (aN 0), .ref (aI 1), .ref (aI 2), .ref (aI 3), .ref (aI 4), .int (nI cn)])), (aI 1, .inl (cA, 8, .inl (fun zk => nI (nn zk)))), (aI 2, .inl (cA, 8, .inl (fun zk => nI (((chs cf cn sd k).1) zk)))), (aI 3, .inl (c2, 8, .inr (.inr (.inr (.inr (fun zk => some (aC zk))))))), (aI 4, .inl (c2, 9, .inr (.inr (.inr (.inr (fun zk => some (aL zk))))))), (aC 0, .inl (cA, 4, .inl (fun zk => nI ((cf 0) zk)))), (aC 1, .inl (cA, 4, .inl (fun zk => nI ((cf 1) zk)))), (aC 2, .inl (cA, 4, .inl (fun zk => nI ((cf 2) zk)))), (aC 3, .inl (cA, 4, .inl (fun zk => nI ((cf 3) zk)))), (aC 4, .inl (cA, 4, .inl (fun zk => nI ((cf 4) zk)))), (aC 5, .inl (cA, 4, .inl (fun zk => nI ((cf 5) zk)))), (aC 6, .inl (cA, 4, .inl (fun zk => nI ((cf 6) zk)))), (aC 7, .inl (cA, 4, .inl (fun zk => nI ((cf 7) zk)))), (aL 0, .inl (cA, 81, .inl (fun zk => nI ((lf 0) zk)))), (aL 1, .inl (cA, 81, .inl (fun zk => nI ((lf 1) zk)))), (aL 2, .inl (cA, 81, .inl (fun zk => nI ((lf 2) zk)))), (aL 3, .inl (cA, 81, .inl (fun zk => nI ((lf 3) zk)))), (aL 4, .inl (cA, 81, .inl (fun zk => nI ((lf 4) zk)))), (aL 5, .inl (cA, 81, .inl (fun zk => nI ((lf 5) zk)))), (aL 6, .inl (cA, 81, .inl (fun zk => nI ((lf 6) zk)))), (aL 7, .inl (cA, 81, .inl (fun zk => nI ((lf 7) zk)))), (aL 8, .inl (cA, 81, .inl (fun zk => nI ((lf 8) zk))))] → va_S A s.heap H locs → ∀ (ls : Array Slot), lv_has ls 4 [(0, .ref (aI 0)), (1, .int (nI ((chs cf cn sd k).2))), (2, .int (nI k))] → W p l e (headSpec (wsA y_PI_choose b_PI_choose 4 none) ({ frames := 1, cells := 0, slots := 0, locals := 24 } : Room)).room s m ([.ref (aI 0)] : List Value).toArray below meth c H locs 0 0 (MQ below (zQ none (zB D [(cA, .int), (cZ, .boolean), (c2, .array .int)] A [(aI 0, .inr (5, [.ref (aP 0), .ref (aN 0), .ref (aI 1), .ref (aI 2), .ref (aI 3), .ref (aI 4), .int (nI cn)])), (aI 1, .inl (cA, 8, .inl (fun zk => nI (nn zk)))), (aI 2, .inl (cA, 8, .inl (fun zk => nI (((chs cf cn sd cn).1) zk)))), (aI 3, .inl (c2, 8, .inr (.inr (.inr (.inr (fun zk => some (aC zk))))))), (aI 4, .inl (c2, 9, .inr (.inr (.inr (.inr (fun zk => some (aL zk))))))), (aC 0, .inl (cA, 4, .inl (fun zk => nI ((cf 0) zk)))), (aC 1, .inl (cA, 4, .inl (fun zk => nI ((cf 1) zk)))), (aC 2, .inl (cA, 4, .inl (fun zk => nI ((cf 2) zk)))), (aC 3, .inl (cA, 4, .inl (fun zk => nI ((cf 3) zk)))), (aC 4, .inl (cA, 4, .inl (fun zk => nI ((cf 4) zk)))), (aC 5, .inl (cA, 4, .inl (fun zk => nI ((cf 5) zk)))), (aC 6, .inl (cA, 4, .inl (fun zk => nI ((cf 6) zk)))), (aC 7, .inl (cA, 4, .inl (fun zk => nI ((cf 7) zk)))), (aL 0, .inl (cA, 81, .inl (fun zk => nI ((lf 0) zk)))), (aL 1, .inl (cA, 81, .inl (fun zk => nI ((lf 1) zk)))), (aL 2, .inl (cA, 81, .inl (fun zk => nI ((lf 2) zk)))), (aL 3, .inl (cA, 81, .inl (fun zk => nI ((lf 3) zk)))), (aL 4, .inl (cA, 81, .inl (fun zk => nI ((lf 4) zk)))), (aL 5, .inl (cA, 81, .inl (fun zk => nI ((lf 5) zk)))), (aL 6, .inl (cA, 81, .inl (fun zk => nI ((lf 6) zk)))), (aL 7, .inl (cA, 81, .inl (fun zk => nI ((lf 7) zk)))), (aL 8, .inl (cA, 81, .inl (fun zk => nI ((lf 8) zk))))]) A) ([.ref (aI 0)] : List Value).toArray s 0 0 A) (F0 m 4 ls []) := by
    intro fu
    induction fu with
    | zero =>
      intro k hk hmu H locs hP hD hS ls hl
      exact absurd hmu (by omega)
    | succ fu_lp ih_lp =>
      intro k hk hmu_lp H locs hP hD hS ls hl
      refine lv_iload_n hx hb d_PI_choose_4 rfl (lv_at hl 2 rfl) ?_
      refine lv_aload_n hx hb d_PI_choose_5 rfl (lv_at hl 0 rfl) ?_
      refine va_get (D := D) (ci := 5) (v := .int (nI cn)) (C := R_PI) (T := F_PI) (N := 7) hx hb hts i_PI hown hK hP 0 rfl rfl 6 (by decide) (hts _ kf_PI_34) (fun _ h9 => h9) rfl d_PI_choose_6 ?_
      refine z_cge (tgt := 64) hx hb d_PI_choose_9 (by decide) (by omega) (by omega) (fun c_1 => ?_) (fun c_1 => ?_)
      · obtain rfl : k = cn := by omega
        exact W.vret hx hb hr (fun t ht hW => ⟨rfl, ⟨by rw [ht]; exact hP, va_K.moved hW.alike hK, hD⟩, hS.F ht⟩) hS.2.2 d_PI_choose_64
      · have h81 := chs_81 (σ0 := sd) h8 hcb (k := k) (by omega)
        have hlt := lcf_top (C := cf) (n := cn) (cn - k) ((chs cf cn sd k).2)
        have hce : ∀ t, t < 4 → cw cf (lf (k + 1)) k (chs cf cn sd k).2 t = cw cf (lcf cf cn (cn - (k + 1))) k (chs cf cn sd k).2 t := fun t ht => cw_congr (fun q hq => hlf (k + 1) q (by omega) hq) h81 ht
        have hcl : ∀ t, t < 4 → cw cf (lcf cf cn (cn - (k + 1))) k (chs cf cn sd k).2 t < 2 ^ 31 := fun t ht => cw_bd (hcb k t (by omega) ht) (fun _ => lcf_top _ _) h81 ht
        refine lv_iconst (v := nI 0) hx hb d_PI_choose_12 (by decide) ?_
        refine lv_istore_n (lv' := [(3, .int (nI 0)), (0, .ref (aI 0)), (1, .int (nI ((chs cf cn sd k).2))), (2, .int (nI k))]) hx hb d_PI_choose_13 rfl hl (by decide) rfl (fun ls hl => ?_)
        refine lv_iload_n hx hb d_PI_choose_14 rfl (lv_at hl 0 rfl) ?_
        refine lv_iconst (v := nI 3) hx hb d_PI_choose_15 (by decide) ?_
        refine z_cge (tgt := 43) hx hb d_PI_choose_16 (by decide) (by omega) (by omega) (fun h => absurd h (by omega)) (fun _ => ?_)
        refine lv_aload_n hx hb d_PI_choose_19 rfl (lv_at hl 1 rfl) ?_
        refine lv_iload_n hx hb d_PI_choose_20 rfl (lv_at hl 3 rfl) ?_
        refine lv_iload_n hx hb d_PI_choose_21 rfl (lv_at hl 2 rfl) ?_
        refine lv_iload_n hx hb d_PI_choose_22 rfl (lv_at hl 0 rfl) ?_
        refine zrF_V (ci := 5) (q0 := 0) (As := [.int (nI k), .int (nI ((chs cf cn sd k).2)), .int (nI 0)]) (rest := []) (n := 3) zT1_ok ⟨hx, hb, hml, hown, hts⟩ (c_PI_costWith l D aI aC aL aP aN cA cZ c2 nn (chs cf cn sd k).1 cf lf cn k ((chs cf cn sd k).2) 0 (by omega) h81 (by decide)) ⟨km_PI_62, ki_PI_costWith, ks_PI_costWith, kn_PI, kd_PI_costWith⟩ (by decide +kernel) (by decide) ⟨Nat.zero_le _, Nat.zero_le _⟩ hK hP (zF_now zT1_ok hF hS) [0, 1, 2, 3, 4, 5, 6, 7, 8, 9, 10, 11, 12, 13, 14, 15, 16, 17, 18, 19, 20, 21] rfl [0, 1, 2] rfl rfl rfl rfl hl.1 rfl (Nat.le_of_ble_eq_true rfl) d_PI_choose_23 ?_
        refine lv_toi (z := nI (cw cf (lcf cf cn (cn - (k + 1))) k (chs cf cn sd k).2 0)) (congrArg nI (hce 0 (by decide))) ?_
        have hb9 := hcl 0 (by decide)
        refine lv_aload_n hx hb d_PI_choose_26 rfl (lv_at hl 1 rfl) ?_
        refine va_get (D := D) (ci := 5) (v := .ref (aI 4)) (C := R_PI) (T := F_PI) (N := 7) hx hb hts i_PI hown hK hP 0 rfl rfl 5 (by decide) (hts _ kf_PI_31) (fun _ h9 => h9) rfl d_PI_choose_27 ?_
        refine lv_iload_n hx hb d_PI_choose_30 rfl (lv_at hl 3 rfl) ?_
        refine z_a2ld (j := k) (r := (aL k)) hx hb hK hP 4 2 rfl rfl (by omega) (by decide) rfl d_PI_choose_31 ?_
        refine lv_iload_n hx hb d_PI_choose_32 rfl (lv_at hl 2 rfl) ?_
        refine z_ild (j := ((chs cf cn sd k).2)) (f := lf k) hx hb hK hP (13 + k) 0 (pi_L (lf := lf) (by omega)) rfl (by omega) (by decide) d_PI_choose_33 ?_
        refine lv_toi (z := nI (lcf cf cn (cn - k) (chs cf cn sd k).2)) (congrArg nI (hlf k _ (by omega) h81)) ?_
        refine z_ceq (tgt := 43) hx hb d_PI_choose_34 (by decide) (by omega) (by omega) (fun c_0 => ?_) (fun c_0 => ?_)
        · have hpk : pick cf cn k (chs cf cn sd k).2 = 0 := by unfold pick; rw [if_pos c_0]
          refine lv_aload_n hx hb d_PI_choose_43 rfl (lv_at hl 1 rfl) ?_
          refine va_get (D := D) (ci := 5) (v := .ref (aI 2)) (C := R_PI) (T := F_PI) (N := 7) hx hb hts i_PI hown hK hP 0 rfl rfl 3 (by decide) (hts _ kf_PI_23) (fun _ h9 => h9) rfl d_PI_choose_44 ?_
          refine lv_iload_n hx hb d_PI_choose_47 rfl (lv_at hl 3 rfl) ?_
          refine lv_iload_n hx hb d_PI_choose_48 rfl (lv_at hl 0 rfl) ?_
          refine z_ist (j := k) (v := 0) hx hb hK hP hD hS 2 0 rfl rfl (by omega) (by decide) d_PI_choose_49 (fun H locs hP hD hS => ?_)
          have hP : va_P D classes [(aI 0, .inr (5, [.ref (aP 0), .ref (aN 0), .ref (aI 1), .ref (aI 2), .ref (aI 3), .ref (aI 4), .int (nI cn)])), (aI 1, .inl (cA, 8, .inl (fun zk => nI (nn zk)))), (aI 2, .inl (cA, 8, .inl (fun zk => nI ((va_up ((chs cf cn sd k).1) k 0) zk)))), (aI 3, .inl (c2, 8, .inr (.inr (.inr (.inr (fun zk => some (aC zk))))))), (aI 4, .inl (c2, 9, .inr (.inr (.inr (.inr (fun zk => some (aL zk))))))), (aC 0, .inl (cA, 4, .inl (fun zk => nI ((cf 0) zk)))), (aC 1, .inl (cA, 4, .inl (fun zk => nI ((cf 1) zk)))), (aC 2, .inl (cA, 4, .inl (fun zk => nI ((cf 2) zk)))), (aC 3, .inl (cA, 4, .inl (fun zk => nI ((cf 3) zk)))), (aC 4, .inl (cA, 4, .inl (fun zk => nI ((cf 4) zk)))), (aC 5, .inl (cA, 4, .inl (fun zk => nI ((cf 5) zk)))), (aC 6, .inl (cA, 4, .inl (fun zk => nI ((cf 6) zk)))), (aC 7, .inl (cA, 4, .inl (fun zk => nI ((cf 7) zk)))), (aL 0, .inl (cA, 81, .inl (fun zk => nI ((lf 0) zk)))), (aL 1, .inl (cA, 81, .inl (fun zk => nI ((lf 1) zk)))), (aL 2, .inl (cA, 81, .inl (fun zk => nI ((lf 2) zk)))), (aL 3, .inl (cA, 81, .inl (fun zk => nI ((lf 3) zk)))), (aL 4, .inl (cA, 81, .inl (fun zk => nI ((lf 4) zk)))), (aL 5, .inl (cA, 81, .inl (fun zk => nI ((lf 5) zk)))), (aL 6, .inl (cA, 81, .inl (fun zk => nI ((lf 6) zk)))), (aL 7, .inl (cA, 81, .inl (fun zk => nI ((lf 7) zk)))), (aL 8, .inl (cA, 81, .inl (fun zk => nI ((lf 8) zk))))] H := hP
          have hD : va_D A [(aI 0, .inr (5, [.ref (aP 0), .ref (aN 0), .ref (aI 1), .ref (aI 2), .ref (aI 3), .ref (aI 4), .int (nI cn)])), (aI 1, .inl (cA, 8, .inl (fun zk => nI (nn zk)))), (aI 2, .inl (cA, 8, .inl (fun zk => nI ((va_up ((chs cf cn sd k).1) k 0) zk)))), (aI 3, .inl (c2, 8, .inr (.inr (.inr (.inr (fun zk => some (aC zk))))))), (aI 4, .inl (c2, 9, .inr (.inr (.inr (.inr (fun zk => some (aL zk))))))), (aC 0, .inl (cA, 4, .inl (fun zk => nI ((cf 0) zk)))), (aC 1, .inl (cA, 4, .inl (fun zk => nI ((cf 1) zk)))), (aC 2, .inl (cA, 4, .inl (fun zk => nI ((cf 2) zk)))), (aC 3, .inl (cA, 4, .inl (fun zk => nI ((cf 3) zk)))), (aC 4, .inl (cA, 4, .inl (fun zk => nI ((cf 4) zk)))), (aC 5, .inl (cA, 4, .inl (fun zk => nI ((cf 5) zk)))), (aC 6, .inl (cA, 4, .inl (fun zk => nI ((cf 6) zk)))), (aC 7, .inl (cA, 4, .inl (fun zk => nI ((cf 7) zk)))), (aL 0, .inl (cA, 81, .inl (fun zk => nI ((lf 0) zk)))), (aL 1, .inl (cA, 81, .inl (fun zk => nI ((lf 1) zk)))), (aL 2, .inl (cA, 81, .inl (fun zk => nI ((lf 2) zk)))), (aL 3, .inl (cA, 81, .inl (fun zk => nI ((lf 3) zk)))), (aL 4, .inl (cA, 81, .inl (fun zk => nI ((lf 4) zk)))), (aL 5, .inl (cA, 81, .inl (fun zk => nI ((lf 5) zk)))), (aL 6, .inl (cA, 81, .inl (fun zk => nI ((lf 6) zk)))), (aL 7, .inl (cA, 81, .inl (fun zk => nI ((lf 7) zk)))), (aL 8, .inl (cA, 81, .inl (fun zk => nI ((lf 8) zk))))] := hD
          refine lv_iload_n hx hb d_PI_choose_50 rfl (lv_at hl 2 rfl) ?_
          refine va_gets hx hb hZ1 hS hown (hts _ kf_PI_70) (fun _ h9 => h9) d_PI_choose_51 ?_
          refine lv_iload_n hx hb d_PI_choose_54 rfl (lv_at hl 0 rfl) ?_
          refine z_oneld (j := 0) hx hb hT1 hS (by decide) d_PI_choose_55 ?_
          refine z_add hx hb d_PI_choose_56 ?_
          refine lv_istore_n (lv' := [(1, .int (nI (((chs cf cn sd k).2) + (one 0)))), (3, .int (nI 0)), (0, .ref (aI 0)), (2, .int (nI k))]) hx hb d_PI_choose_57 rfl hl (by decide) rfl (fun ls hl => ?_)
          refine lv_iinc (v := nI (k + 1)) (lv' := [(2, .int (nI (k + 1))), (1, .int (nI (((chs cf cn sd k).2) + (one 0)))), (3, .int (nI 0)), (0, .ref (aI 0))]) hx hb d_PI_choose_58 hl (k := 3) rfl (nI_1 _) (by decide) rfl (fun ls hl => ?_)
          refine lv_goto (tgt := 4) hx hb d_PI_choose_61 (by decide) ?_
          have hl : lv_has ls 4 [(2, .int (nI (k + 1))), (1, .int (nI ((chs cf cn sd (k + 1)).2))), (3, .int (nI 0)), (0, .ref (aI 0))] := Eq.mp (congrArg (fun zz => lv_has ls 4 [(2, .int (nI (k + 1))), (1, .int zz), (3, .int (nI 0)), (0, .ref (aI 0))]) (congrArg nI (by rw [chs, hpk]))) hl
          have hP : va_P D classes [(aI 0, .inr (5, [.ref (aP 0), .ref (aN 0), .ref (aI 1), .ref (aI 2), .ref (aI 3), .ref (aI 4), .int (nI cn)])), (aI 1, .inl (cA, 8, .inl (fun zk => nI (nn zk)))), (aI 2, .inl (cA, 8, .inl (fun zk => nI (((chs cf cn sd (k + 1)).1) zk)))), (aI 3, .inl (c2, 8, .inr (.inr (.inr (.inr (fun zk => some (aC zk))))))), (aI 4, .inl (c2, 9, .inr (.inr (.inr (.inr (fun zk => some (aL zk))))))), (aC 0, .inl (cA, 4, .inl (fun zk => nI ((cf 0) zk)))), (aC 1, .inl (cA, 4, .inl (fun zk => nI ((cf 1) zk)))), (aC 2, .inl (cA, 4, .inl (fun zk => nI ((cf 2) zk)))), (aC 3, .inl (cA, 4, .inl (fun zk => nI ((cf 3) zk)))), (aC 4, .inl (cA, 4, .inl (fun zk => nI ((cf 4) zk)))), (aC 5, .inl (cA, 4, .inl (fun zk => nI ((cf 5) zk)))), (aC 6, .inl (cA, 4, .inl (fun zk => nI ((cf 6) zk)))), (aC 7, .inl (cA, 4, .inl (fun zk => nI ((cf 7) zk)))), (aL 0, .inl (cA, 81, .inl (fun zk => nI ((lf 0) zk)))), (aL 1, .inl (cA, 81, .inl (fun zk => nI ((lf 1) zk)))), (aL 2, .inl (cA, 81, .inl (fun zk => nI ((lf 2) zk)))), (aL 3, .inl (cA, 81, .inl (fun zk => nI ((lf 3) zk)))), (aL 4, .inl (cA, 81, .inl (fun zk => nI ((lf 4) zk)))), (aL 5, .inl (cA, 81, .inl (fun zk => nI ((lf 5) zk)))), (aL 6, .inl (cA, 81, .inl (fun zk => nI ((lf 6) zk)))), (aL 7, .inl (cA, 81, .inl (fun zk => nI ((lf 7) zk)))), (aL 8, .inl (cA, 81, .inl (fun zk => nI ((lf 8) zk))))] H := by rw [show (chs cf cn sd (k + 1)).1 = va_up (chs cf cn sd k).1 k 0 by rw [chs, hpk]]; exact hP
          have hD : va_D A [(aI 0, .inr (5, [.ref (aP 0), .ref (aN 0), .ref (aI 1), .ref (aI 2), .ref (aI 3), .ref (aI 4), .int (nI cn)])), (aI 1, .inl (cA, 8, .inl (fun zk => nI (nn zk)))), (aI 2, .inl (cA, 8, .inl (fun zk => nI (((chs cf cn sd (k + 1)).1) zk)))), (aI 3, .inl (c2, 8, .inr (.inr (.inr (.inr (fun zk => some (aC zk))))))), (aI 4, .inl (c2, 9, .inr (.inr (.inr (.inr (fun zk => some (aL zk))))))), (aC 0, .inl (cA, 4, .inl (fun zk => nI ((cf 0) zk)))), (aC 1, .inl (cA, 4, .inl (fun zk => nI ((cf 1) zk)))), (aC 2, .inl (cA, 4, .inl (fun zk => nI ((cf 2) zk)))), (aC 3, .inl (cA, 4, .inl (fun zk => nI ((cf 3) zk)))), (aC 4, .inl (cA, 4, .inl (fun zk => nI ((cf 4) zk)))), (aC 5, .inl (cA, 4, .inl (fun zk => nI ((cf 5) zk)))), (aC 6, .inl (cA, 4, .inl (fun zk => nI ((cf 6) zk)))), (aC 7, .inl (cA, 4, .inl (fun zk => nI ((cf 7) zk)))), (aL 0, .inl (cA, 81, .inl (fun zk => nI ((lf 0) zk)))), (aL 1, .inl (cA, 81, .inl (fun zk => nI ((lf 1) zk)))), (aL 2, .inl (cA, 81, .inl (fun zk => nI ((lf 2) zk)))), (aL 3, .inl (cA, 81, .inl (fun zk => nI ((lf 3) zk)))), (aL 4, .inl (cA, 81, .inl (fun zk => nI ((lf 4) zk)))), (aL 5, .inl (cA, 81, .inl (fun zk => nI ((lf 5) zk)))), (aL 6, .inl (cA, 81, .inl (fun zk => nI ((lf 6) zk)))), (aL 7, .inl (cA, 81, .inl (fun zk => nI ((lf 7) zk)))), (aL 8, .inl (cA, 81, .inl (fun zk => nI ((lf 8) zk))))] := by rw [show (chs cf cn sd (k + 1)).1 = va_up (chs cf cn sd k).1 k 0 by rw [chs, hpk]]; exact hD
          exact ih_lp (k + 1) (by omega) (by omega) _ _ hP hD hS ls (lv_sub hl [3, 1, 0] rfl)
        · refine lv_iinc (v := nI (1)) (lv' := [(3, .int (nI 1)), (0, .ref (aI 0)), (1, .int (nI ((chs cf cn sd k).2))), (2, .int (nI k))]) hx hb d_PI_choose_37 hl (k := 0) rfl (nI_1 _) (by decide) rfl (fun ls hl => ?_)
          refine lv_goto (tgt := 14) hx hb d_PI_choose_40 (by decide) ?_
          refine lv_iload_n hx hb d_PI_choose_14 rfl (lv_at hl 0 rfl) ?_
          refine lv_iconst (v := nI 3) hx hb d_PI_choose_15 (by decide) ?_
          refine z_cge (tgt := 43) hx hb d_PI_choose_16 (by decide) (by omega) (by omega) (fun h => absurd h (by omega)) (fun _ => ?_)
          refine lv_aload_n hx hb d_PI_choose_19 rfl (lv_at hl 1 rfl) ?_
          refine lv_iload_n hx hb d_PI_choose_20 rfl (lv_at hl 3 rfl) ?_
          refine lv_iload_n hx hb d_PI_choose_21 rfl (lv_at hl 2 rfl) ?_
          refine lv_iload_n hx hb d_PI_choose_22 rfl (lv_at hl 0 rfl) ?_
          refine zrF_V (ci := 5) (q0 := 0) (As := [.int (nI k), .int (nI ((chs cf cn sd k).2)), .int (nI 1)]) (rest := []) (n := 3) zT1_ok ⟨hx, hb, hml, hown, hts⟩ (c_PI_costWith l D aI aC aL aP aN cA cZ c2 nn (chs cf cn sd k).1 cf lf cn k ((chs cf cn sd k).2) 1 (by omega) h81 (by decide)) ⟨km_PI_62, ki_PI_costWith, ks_PI_costWith, kn_PI, kd_PI_costWith⟩ (by decide +kernel) (by decide) ⟨Nat.zero_le _, Nat.zero_le _⟩ hK hP (zF_now zT1_ok hF hS) [0, 1, 2, 3, 4, 5, 6, 7, 8, 9, 10, 11, 12, 13, 14, 15, 16, 17, 18, 19, 20, 21] rfl [0, 1, 2] rfl rfl rfl rfl hl.1 rfl (Nat.le_of_ble_eq_true rfl) d_PI_choose_23 ?_
          refine lv_toi (z := nI (cw cf (lcf cf cn (cn - (k + 1))) k (chs cf cn sd k).2 1)) (congrArg nI (hce 1 (by decide))) ?_
          have hb9 := hcl 1 (by decide)
          refine lv_aload_n hx hb d_PI_choose_26 rfl (lv_at hl 1 rfl) ?_
          refine va_get (D := D) (ci := 5) (v := .ref (aI 4)) (C := R_PI) (T := F_PI) (N := 7) hx hb hts i_PI hown hK hP 0 rfl rfl 5 (by decide) (hts _ kf_PI_31) (fun _ h9 => h9) rfl d_PI_choose_27 ?_
          refine lv_iload_n hx hb d_PI_choose_30 rfl (lv_at hl 3 rfl) ?_
          refine z_a2ld (j := k) (r := (aL k)) hx hb hK hP 4 2 rfl rfl (by omega) (by decide) rfl d_PI_choose_31 ?_
          refine lv_iload_n hx hb d_PI_choose_32 rfl (lv_at hl 2 rfl) ?_
          refine z_ild (j := ((chs cf cn sd k).2)) (f := lf k) hx hb hK hP (13 + k) 0 (pi_L (lf := lf) (by omega)) rfl (by omega) (by decide) d_PI_choose_33 ?_
          refine lv_toi (z := nI (lcf cf cn (cn - k) (chs cf cn sd k).2)) (congrArg nI (hlf k _ (by omega) h81)) ?_
          refine z_ceq (tgt := 43) hx hb d_PI_choose_34 (by decide) (by omega) (by omega) (fun c_1 => ?_) (fun c_1 => ?_)
          · have hpk : pick cf cn k (chs cf cn sd k).2 = 1 := by unfold pick; rw [if_neg c_0, if_pos c_1]
            refine lv_aload_n hx hb d_PI_choose_43 rfl (lv_at hl 1 rfl) ?_
            refine va_get (D := D) (ci := 5) (v := .ref (aI 2)) (C := R_PI) (T := F_PI) (N := 7) hx hb hts i_PI hown hK hP 0 rfl rfl 3 (by decide) (hts _ kf_PI_23) (fun _ h9 => h9) rfl d_PI_choose_44 ?_
            refine lv_iload_n hx hb d_PI_choose_47 rfl (lv_at hl 3 rfl) ?_
            refine lv_iload_n hx hb d_PI_choose_48 rfl (lv_at hl 0 rfl) ?_
            refine z_ist (j := k) (v := 1) hx hb hK hP hD hS 2 0 rfl rfl (by omega) (by decide) d_PI_choose_49 (fun H locs hP hD hS => ?_)
            have hP : va_P D classes [(aI 0, .inr (5, [.ref (aP 0), .ref (aN 0), .ref (aI 1), .ref (aI 2), .ref (aI 3), .ref (aI 4), .int (nI cn)])), (aI 1, .inl (cA, 8, .inl (fun zk => nI (nn zk)))), (aI 2, .inl (cA, 8, .inl (fun zk => nI ((va_up ((chs cf cn sd k).1) k 1) zk)))), (aI 3, .inl (c2, 8, .inr (.inr (.inr (.inr (fun zk => some (aC zk))))))), (aI 4, .inl (c2, 9, .inr (.inr (.inr (.inr (fun zk => some (aL zk))))))), (aC 0, .inl (cA, 4, .inl (fun zk => nI ((cf 0) zk)))), (aC 1, .inl (cA, 4, .inl (fun zk => nI ((cf 1) zk)))), (aC 2, .inl (cA, 4, .inl (fun zk => nI ((cf 2) zk)))), (aC 3, .inl (cA, 4, .inl (fun zk => nI ((cf 3) zk)))), (aC 4, .inl (cA, 4, .inl (fun zk => nI ((cf 4) zk)))), (aC 5, .inl (cA, 4, .inl (fun zk => nI ((cf 5) zk)))), (aC 6, .inl (cA, 4, .inl (fun zk => nI ((cf 6) zk)))), (aC 7, .inl (cA, 4, .inl (fun zk => nI ((cf 7) zk)))), (aL 0, .inl (cA, 81, .inl (fun zk => nI ((lf 0) zk)))), (aL 1, .inl (cA, 81, .inl (fun zk => nI ((lf 1) zk)))), (aL 2, .inl (cA, 81, .inl (fun zk => nI ((lf 2) zk)))), (aL 3, .inl (cA, 81, .inl (fun zk => nI ((lf 3) zk)))), (aL 4, .inl (cA, 81, .inl (fun zk => nI ((lf 4) zk)))), (aL 5, .inl (cA, 81, .inl (fun zk => nI ((lf 5) zk)))), (aL 6, .inl (cA, 81, .inl (fun zk => nI ((lf 6) zk)))), (aL 7, .inl (cA, 81, .inl (fun zk => nI ((lf 7) zk)))), (aL 8, .inl (cA, 81, .inl (fun zk => nI ((lf 8) zk))))] H := hP
            have hD : va_D A [(aI 0, .inr (5, [.ref (aP 0), .ref (aN 0), .ref (aI 1), .ref (aI 2), .ref (aI 3), .ref (aI 4), .int (nI cn)])), (aI 1, .inl (cA, 8, .inl (fun zk => nI (nn zk)))), (aI 2, .inl (cA, 8, .inl (fun zk => nI ((va_up ((chs cf cn sd k).1) k 1) zk)))), (aI 3, .inl (c2, 8, .inr (.inr (.inr (.inr (fun zk => some (aC zk))))))), (aI 4, .inl (c2, 9, .inr (.inr (.inr (.inr (fun zk => some (aL zk))))))), (aC 0, .inl (cA, 4, .inl (fun zk => nI ((cf 0) zk)))), (aC 1, .inl (cA, 4, .inl (fun zk => nI ((cf 1) zk)))), (aC 2, .inl (cA, 4, .inl (fun zk => nI ((cf 2) zk)))), (aC 3, .inl (cA, 4, .inl (fun zk => nI ((cf 3) zk)))), (aC 4, .inl (cA, 4, .inl (fun zk => nI ((cf 4) zk)))), (aC 5, .inl (cA, 4, .inl (fun zk => nI ((cf 5) zk)))), (aC 6, .inl (cA, 4, .inl (fun zk => nI ((cf 6) zk)))), (aC 7, .inl (cA, 4, .inl (fun zk => nI ((cf 7) zk)))), (aL 0, .inl (cA, 81, .inl (fun zk => nI ((lf 0) zk)))), (aL 1, .inl (cA, 81, .inl (fun zk => nI ((lf 1) zk)))), (aL 2, .inl (cA, 81, .inl (fun zk => nI ((lf 2) zk)))), (aL 3, .inl (cA, 81, .inl (fun zk => nI ((lf 3) zk)))), (aL 4, .inl (cA, 81, .inl (fun zk => nI ((lf 4) zk)))), (aL 5, .inl (cA, 81, .inl (fun zk => nI ((lf 5) zk)))), (aL 6, .inl (cA, 81, .inl (fun zk => nI ((lf 6) zk)))), (aL 7, .inl (cA, 81, .inl (fun zk => nI ((lf 7) zk)))), (aL 8, .inl (cA, 81, .inl (fun zk => nI ((lf 8) zk))))] := hD
            refine lv_iload_n hx hb d_PI_choose_50 rfl (lv_at hl 2 rfl) ?_
            refine va_gets hx hb hZ1 hS hown (hts _ kf_PI_70) (fun _ h9 => h9) d_PI_choose_51 ?_
            refine lv_iload_n hx hb d_PI_choose_54 rfl (lv_at hl 0 rfl) ?_
            refine z_oneld (j := 1) hx hb hT1 hS (by decide) d_PI_choose_55 ?_
            refine z_add hx hb d_PI_choose_56 ?_
            refine lv_istore_n (lv' := [(1, .int (nI (((chs cf cn sd k).2) + (one 1)))), (3, .int (nI 1)), (0, .ref (aI 0)), (2, .int (nI k))]) hx hb d_PI_choose_57 rfl hl (by decide) rfl (fun ls hl => ?_)
            refine lv_iinc (v := nI (k + 1)) (lv' := [(2, .int (nI (k + 1))), (1, .int (nI (((chs cf cn sd k).2) + (one 1)))), (3, .int (nI 1)), (0, .ref (aI 0))]) hx hb d_PI_choose_58 hl (k := 3) rfl (nI_1 _) (by decide) rfl (fun ls hl => ?_)
            refine lv_goto (tgt := 4) hx hb d_PI_choose_61 (by decide) ?_
            have hl : lv_has ls 4 [(2, .int (nI (k + 1))), (1, .int (nI ((chs cf cn sd (k + 1)).2))), (3, .int (nI 1)), (0, .ref (aI 0))] := Eq.mp (congrArg (fun zz => lv_has ls 4 [(2, .int (nI (k + 1))), (1, .int zz), (3, .int (nI 1)), (0, .ref (aI 0))]) (congrArg nI (by rw [chs, hpk]))) hl
            have hP : va_P D classes [(aI 0, .inr (5, [.ref (aP 0), .ref (aN 0), .ref (aI 1), .ref (aI 2), .ref (aI 3), .ref (aI 4), .int (nI cn)])), (aI 1, .inl (cA, 8, .inl (fun zk => nI (nn zk)))), (aI 2, .inl (cA, 8, .inl (fun zk => nI (((chs cf cn sd (k + 1)).1) zk)))), (aI 3, .inl (c2, 8, .inr (.inr (.inr (.inr (fun zk => some (aC zk))))))), (aI 4, .inl (c2, 9, .inr (.inr (.inr (.inr (fun zk => some (aL zk))))))), (aC 0, .inl (cA, 4, .inl (fun zk => nI ((cf 0) zk)))), (aC 1, .inl (cA, 4, .inl (fun zk => nI ((cf 1) zk)))), (aC 2, .inl (cA, 4, .inl (fun zk => nI ((cf 2) zk)))), (aC 3, .inl (cA, 4, .inl (fun zk => nI ((cf 3) zk)))), (aC 4, .inl (cA, 4, .inl (fun zk => nI ((cf 4) zk)))), (aC 5, .inl (cA, 4, .inl (fun zk => nI ((cf 5) zk)))), (aC 6, .inl (cA, 4, .inl (fun zk => nI ((cf 6) zk)))), (aC 7, .inl (cA, 4, .inl (fun zk => nI ((cf 7) zk)))), (aL 0, .inl (cA, 81, .inl (fun zk => nI ((lf 0) zk)))), (aL 1, .inl (cA, 81, .inl (fun zk => nI ((lf 1) zk)))), (aL 2, .inl (cA, 81, .inl (fun zk => nI ((lf 2) zk)))), (aL 3, .inl (cA, 81, .inl (fun zk => nI ((lf 3) zk)))), (aL 4, .inl (cA, 81, .inl (fun zk => nI ((lf 4) zk)))), (aL 5, .inl (cA, 81, .inl (fun zk => nI ((lf 5) zk)))), (aL 6, .inl (cA, 81, .inl (fun zk => nI ((lf 6) zk)))), (aL 7, .inl (cA, 81, .inl (fun zk => nI ((lf 7) zk)))), (aL 8, .inl (cA, 81, .inl (fun zk => nI ((lf 8) zk))))] H := by rw [show (chs cf cn sd (k + 1)).1 = va_up (chs cf cn sd k).1 k 1 by rw [chs, hpk]]; exact hP
            have hD : va_D A [(aI 0, .inr (5, [.ref (aP 0), .ref (aN 0), .ref (aI 1), .ref (aI 2), .ref (aI 3), .ref (aI 4), .int (nI cn)])), (aI 1, .inl (cA, 8, .inl (fun zk => nI (nn zk)))), (aI 2, .inl (cA, 8, .inl (fun zk => nI (((chs cf cn sd (k + 1)).1) zk)))), (aI 3, .inl (c2, 8, .inr (.inr (.inr (.inr (fun zk => some (aC zk))))))), (aI 4, .inl (c2, 9, .inr (.inr (.inr (.inr (fun zk => some (aL zk))))))), (aC 0, .inl (cA, 4, .inl (fun zk => nI ((cf 0) zk)))), (aC 1, .inl (cA, 4, .inl (fun zk => nI ((cf 1) zk)))), (aC 2, .inl (cA, 4, .inl (fun zk => nI ((cf 2) zk)))), (aC 3, .inl (cA, 4, .inl (fun zk => nI ((cf 3) zk)))), (aC 4, .inl (cA, 4, .inl (fun zk => nI ((cf 4) zk)))), (aC 5, .inl (cA, 4, .inl (fun zk => nI ((cf 5) zk)))), (aC 6, .inl (cA, 4, .inl (fun zk => nI ((cf 6) zk)))), (aC 7, .inl (cA, 4, .inl (fun zk => nI ((cf 7) zk)))), (aL 0, .inl (cA, 81, .inl (fun zk => nI ((lf 0) zk)))), (aL 1, .inl (cA, 81, .inl (fun zk => nI ((lf 1) zk)))), (aL 2, .inl (cA, 81, .inl (fun zk => nI ((lf 2) zk)))), (aL 3, .inl (cA, 81, .inl (fun zk => nI ((lf 3) zk)))), (aL 4, .inl (cA, 81, .inl (fun zk => nI ((lf 4) zk)))), (aL 5, .inl (cA, 81, .inl (fun zk => nI ((lf 5) zk)))), (aL 6, .inl (cA, 81, .inl (fun zk => nI ((lf 6) zk)))), (aL 7, .inl (cA, 81, .inl (fun zk => nI ((lf 7) zk)))), (aL 8, .inl (cA, 81, .inl (fun zk => nI ((lf 8) zk))))] := by rw [show (chs cf cn sd (k + 1)).1 = va_up (chs cf cn sd k).1 k 1 by rw [chs, hpk]]; exact hD
            exact ih_lp (k + 1) (by omega) (by omega) _ _ hP hD hS ls (lv_sub hl [3, 1, 0] rfl)
          · refine lv_iinc (v := nI (2)) (lv' := [(3, .int (nI 2)), (0, .ref (aI 0)), (1, .int (nI ((chs cf cn sd k).2))), (2, .int (nI k))]) hx hb d_PI_choose_37 hl (k := 0) rfl (nI_1 _) (by decide) rfl (fun ls hl => ?_)
            refine lv_goto (tgt := 14) hx hb d_PI_choose_40 (by decide) ?_
            refine lv_iload_n hx hb d_PI_choose_14 rfl (lv_at hl 0 rfl) ?_
            refine lv_iconst (v := nI 3) hx hb d_PI_choose_15 (by decide) ?_
            refine z_cge (tgt := 43) hx hb d_PI_choose_16 (by decide) (by omega) (by omega) (fun h => absurd h (by omega)) (fun _ => ?_)
            refine lv_aload_n hx hb d_PI_choose_19 rfl (lv_at hl 1 rfl) ?_
            refine lv_iload_n hx hb d_PI_choose_20 rfl (lv_at hl 3 rfl) ?_
            refine lv_iload_n hx hb d_PI_choose_21 rfl (lv_at hl 2 rfl) ?_
            refine lv_iload_n hx hb d_PI_choose_22 rfl (lv_at hl 0 rfl) ?_
            refine zrF_V (ci := 5) (q0 := 0) (As := [.int (nI k), .int (nI ((chs cf cn sd k).2)), .int (nI 2)]) (rest := []) (n := 3) zT1_ok ⟨hx, hb, hml, hown, hts⟩ (c_PI_costWith l D aI aC aL aP aN cA cZ c2 nn (chs cf cn sd k).1 cf lf cn k ((chs cf cn sd k).2) 2 (by omega) h81 (by decide)) ⟨km_PI_62, ki_PI_costWith, ks_PI_costWith, kn_PI, kd_PI_costWith⟩ (by decide +kernel) (by decide) ⟨Nat.zero_le _, Nat.zero_le _⟩ hK hP (zF_now zT1_ok hF hS) [0, 1, 2, 3, 4, 5, 6, 7, 8, 9, 10, 11, 12, 13, 14, 15, 16, 17, 18, 19, 20, 21] rfl [0, 1, 2] rfl rfl rfl rfl hl.1 rfl (Nat.le_of_ble_eq_true rfl) d_PI_choose_23 ?_
            refine lv_toi (z := nI (cw cf (lcf cf cn (cn - (k + 1))) k (chs cf cn sd k).2 2)) (congrArg nI (hce 2 (by decide))) ?_
            have hb9 := hcl 2 (by decide)
            refine lv_aload_n hx hb d_PI_choose_26 rfl (lv_at hl 1 rfl) ?_
            refine va_get (D := D) (ci := 5) (v := .ref (aI 4)) (C := R_PI) (T := F_PI) (N := 7) hx hb hts i_PI hown hK hP 0 rfl rfl 5 (by decide) (hts _ kf_PI_31) (fun _ h9 => h9) rfl d_PI_choose_27 ?_
            refine lv_iload_n hx hb d_PI_choose_30 rfl (lv_at hl 3 rfl) ?_
            refine z_a2ld (j := k) (r := (aL k)) hx hb hK hP 4 2 rfl rfl (by omega) (by decide) rfl d_PI_choose_31 ?_
            refine lv_iload_n hx hb d_PI_choose_32 rfl (lv_at hl 2 rfl) ?_
            refine z_ild (j := ((chs cf cn sd k).2)) (f := lf k) hx hb hK hP (13 + k) 0 (pi_L (lf := lf) (by omega)) rfl (by omega) (by decide) d_PI_choose_33 ?_
            refine lv_toi (z := nI (lcf cf cn (cn - k) (chs cf cn sd k).2)) (congrArg nI (hlf k _ (by omega) h81)) ?_
            refine z_ceq (tgt := 43) hx hb d_PI_choose_34 (by decide) (by omega) (by omega) (fun c_2 => ?_) (fun c_2 => ?_)
            · have hpk : pick cf cn k (chs cf cn sd k).2 = 2 := by unfold pick; rw [if_neg c_0, if_neg c_1, if_pos c_2]
              refine lv_aload_n hx hb d_PI_choose_43 rfl (lv_at hl 1 rfl) ?_
              refine va_get (D := D) (ci := 5) (v := .ref (aI 2)) (C := R_PI) (T := F_PI) (N := 7) hx hb hts i_PI hown hK hP 0 rfl rfl 3 (by decide) (hts _ kf_PI_23) (fun _ h9 => h9) rfl d_PI_choose_44 ?_
              refine lv_iload_n hx hb d_PI_choose_47 rfl (lv_at hl 3 rfl) ?_
              refine lv_iload_n hx hb d_PI_choose_48 rfl (lv_at hl 0 rfl) ?_
              refine z_ist (j := k) (v := 2) hx hb hK hP hD hS 2 0 rfl rfl (by omega) (by decide) d_PI_choose_49 (fun H locs hP hD hS => ?_)
              have hP : va_P D classes [(aI 0, .inr (5, [.ref (aP 0), .ref (aN 0), .ref (aI 1), .ref (aI 2), .ref (aI 3), .ref (aI 4), .int (nI cn)])), (aI 1, .inl (cA, 8, .inl (fun zk => nI (nn zk)))), (aI 2, .inl (cA, 8, .inl (fun zk => nI ((va_up ((chs cf cn sd k).1) k 2) zk)))), (aI 3, .inl (c2, 8, .inr (.inr (.inr (.inr (fun zk => some (aC zk))))))), (aI 4, .inl (c2, 9, .inr (.inr (.inr (.inr (fun zk => some (aL zk))))))), (aC 0, .inl (cA, 4, .inl (fun zk => nI ((cf 0) zk)))), (aC 1, .inl (cA, 4, .inl (fun zk => nI ((cf 1) zk)))), (aC 2, .inl (cA, 4, .inl (fun zk => nI ((cf 2) zk)))), (aC 3, .inl (cA, 4, .inl (fun zk => nI ((cf 3) zk)))), (aC 4, .inl (cA, 4, .inl (fun zk => nI ((cf 4) zk)))), (aC 5, .inl (cA, 4, .inl (fun zk => nI ((cf 5) zk)))), (aC 6, .inl (cA, 4, .inl (fun zk => nI ((cf 6) zk)))), (aC 7, .inl (cA, 4, .inl (fun zk => nI ((cf 7) zk)))), (aL 0, .inl (cA, 81, .inl (fun zk => nI ((lf 0) zk)))), (aL 1, .inl (cA, 81, .inl (fun zk => nI ((lf 1) zk)))), (aL 2, .inl (cA, 81, .inl (fun zk => nI ((lf 2) zk)))), (aL 3, .inl (cA, 81, .inl (fun zk => nI ((lf 3) zk)))), (aL 4, .inl (cA, 81, .inl (fun zk => nI ((lf 4) zk)))), (aL 5, .inl (cA, 81, .inl (fun zk => nI ((lf 5) zk)))), (aL 6, .inl (cA, 81, .inl (fun zk => nI ((lf 6) zk)))), (aL 7, .inl (cA, 81, .inl (fun zk => nI ((lf 7) zk)))), (aL 8, .inl (cA, 81, .inl (fun zk => nI ((lf 8) zk))))] H := hP
              have hD : va_D A [(aI 0, .inr (5, [.ref (aP 0), .ref (aN 0), .ref (aI 1), .ref (aI 2), .ref (aI 3), .ref (aI 4), .int (nI cn)])), (aI 1, .inl (cA, 8, .inl (fun zk => nI (nn zk)))), (aI 2, .inl (cA, 8, .inl (fun zk => nI ((va_up ((chs cf cn sd k).1) k 2) zk)))), (aI 3, .inl (c2, 8, .inr (.inr (.inr (.inr (fun zk => some (aC zk))))))), (aI 4, .inl (c2, 9, .inr (.inr (.inr (.inr (fun zk => some (aL zk))))))), (aC 0, .inl (cA, 4, .inl (fun zk => nI ((cf 0) zk)))), (aC 1, .inl (cA, 4, .inl (fun zk => nI ((cf 1) zk)))), (aC 2, .inl (cA, 4, .inl (fun zk => nI ((cf 2) zk)))), (aC 3, .inl (cA, 4, .inl (fun zk => nI ((cf 3) zk)))), (aC 4, .inl (cA, 4, .inl (fun zk => nI ((cf 4) zk)))), (aC 5, .inl (cA, 4, .inl (fun zk => nI ((cf 5) zk)))), (aC 6, .inl (cA, 4, .inl (fun zk => nI ((cf 6) zk)))), (aC 7, .inl (cA, 4, .inl (fun zk => nI ((cf 7) zk)))), (aL 0, .inl (cA, 81, .inl (fun zk => nI ((lf 0) zk)))), (aL 1, .inl (cA, 81, .inl (fun zk => nI ((lf 1) zk)))), (aL 2, .inl (cA, 81, .inl (fun zk => nI ((lf 2) zk)))), (aL 3, .inl (cA, 81, .inl (fun zk => nI ((lf 3) zk)))), (aL 4, .inl (cA, 81, .inl (fun zk => nI ((lf 4) zk)))), (aL 5, .inl (cA, 81, .inl (fun zk => nI ((lf 5) zk)))), (aL 6, .inl (cA, 81, .inl (fun zk => nI ((lf 6) zk)))), (aL 7, .inl (cA, 81, .inl (fun zk => nI ((lf 7) zk)))), (aL 8, .inl (cA, 81, .inl (fun zk => nI ((lf 8) zk))))] := hD
              refine lv_iload_n hx hb d_PI_choose_50 rfl (lv_at hl 2 rfl) ?_
              refine va_gets hx hb hZ1 hS hown (hts _ kf_PI_70) (fun _ h9 => h9) d_PI_choose_51 ?_
              refine lv_iload_n hx hb d_PI_choose_54 rfl (lv_at hl 0 rfl) ?_
              refine z_oneld (j := 2) hx hb hT1 hS (by decide) d_PI_choose_55 ?_
              refine z_add hx hb d_PI_choose_56 ?_
              refine lv_istore_n (lv' := [(1, .int (nI (((chs cf cn sd k).2) + (one 2)))), (3, .int (nI 2)), (0, .ref (aI 0)), (2, .int (nI k))]) hx hb d_PI_choose_57 rfl hl (by decide) rfl (fun ls hl => ?_)
              refine lv_iinc (v := nI (k + 1)) (lv' := [(2, .int (nI (k + 1))), (1, .int (nI (((chs cf cn sd k).2) + (one 2)))), (3, .int (nI 2)), (0, .ref (aI 0))]) hx hb d_PI_choose_58 hl (k := 3) rfl (nI_1 _) (by decide) rfl (fun ls hl => ?_)
              refine lv_goto (tgt := 4) hx hb d_PI_choose_61 (by decide) ?_
              have hl : lv_has ls 4 [(2, .int (nI (k + 1))), (1, .int (nI ((chs cf cn sd (k + 1)).2))), (3, .int (nI 2)), (0, .ref (aI 0))] := Eq.mp (congrArg (fun zz => lv_has ls 4 [(2, .int (nI (k + 1))), (1, .int zz), (3, .int (nI 2)), (0, .ref (aI 0))]) (congrArg nI (by rw [chs, hpk]))) hl
              have hP : va_P D classes [(aI 0, .inr (5, [.ref (aP 0), .ref (aN 0), .ref (aI 1), .ref (aI 2), .ref (aI 3), .ref (aI 4), .int (nI cn)])), (aI 1, .inl (cA, 8, .inl (fun zk => nI (nn zk)))), (aI 2, .inl (cA, 8, .inl (fun zk => nI (((chs cf cn sd (k + 1)).1) zk)))), (aI 3, .inl (c2, 8, .inr (.inr (.inr (.inr (fun zk => some (aC zk))))))), (aI 4, .inl (c2, 9, .inr (.inr (.inr (.inr (fun zk => some (aL zk))))))), (aC 0, .inl (cA, 4, .inl (fun zk => nI ((cf 0) zk)))), (aC 1, .inl (cA, 4, .inl (fun zk => nI ((cf 1) zk)))), (aC 2, .inl (cA, 4, .inl (fun zk => nI ((cf 2) zk)))), (aC 3, .inl (cA, 4, .inl (fun zk => nI ((cf 3) zk)))), (aC 4, .inl (cA, 4, .inl (fun zk => nI ((cf 4) zk)))), (aC 5, .inl (cA, 4, .inl (fun zk => nI ((cf 5) zk)))), (aC 6, .inl (cA, 4, .inl (fun zk => nI ((cf 6) zk)))), (aC 7, .inl (cA, 4, .inl (fun zk => nI ((cf 7) zk)))), (aL 0, .inl (cA, 81, .inl (fun zk => nI ((lf 0) zk)))), (aL 1, .inl (cA, 81, .inl (fun zk => nI ((lf 1) zk)))), (aL 2, .inl (cA, 81, .inl (fun zk => nI ((lf 2) zk)))), (aL 3, .inl (cA, 81, .inl (fun zk => nI ((lf 3) zk)))), (aL 4, .inl (cA, 81, .inl (fun zk => nI ((lf 4) zk)))), (aL 5, .inl (cA, 81, .inl (fun zk => nI ((lf 5) zk)))), (aL 6, .inl (cA, 81, .inl (fun zk => nI ((lf 6) zk)))), (aL 7, .inl (cA, 81, .inl (fun zk => nI ((lf 7) zk)))), (aL 8, .inl (cA, 81, .inl (fun zk => nI ((lf 8) zk))))] H := by rw [show (chs cf cn sd (k + 1)).1 = va_up (chs cf cn sd k).1 k 2 by rw [chs, hpk]]; exact hP
              have hD : va_D A [(aI 0, .inr (5, [.ref (aP 0), .ref (aN 0), .ref (aI 1), .ref (aI 2), .ref (aI 3), .ref (aI 4), .int (nI cn)])), (aI 1, .inl (cA, 8, .inl (fun zk => nI (nn zk)))), (aI 2, .inl (cA, 8, .inl (fun zk => nI (((chs cf cn sd (k + 1)).1) zk)))), (aI 3, .inl (c2, 8, .inr (.inr (.inr (.inr (fun zk => some (aC zk))))))), (aI 4, .inl (c2, 9, .inr (.inr (.inr (.inr (fun zk => some (aL zk))))))), (aC 0, .inl (cA, 4, .inl (fun zk => nI ((cf 0) zk)))), (aC 1, .inl (cA, 4, .inl (fun zk => nI ((cf 1) zk)))), (aC 2, .inl (cA, 4, .inl (fun zk => nI ((cf 2) zk)))), (aC 3, .inl (cA, 4, .inl (fun zk => nI ((cf 3) zk)))), (aC 4, .inl (cA, 4, .inl (fun zk => nI ((cf 4) zk)))), (aC 5, .inl (cA, 4, .inl (fun zk => nI ((cf 5) zk)))), (aC 6, .inl (cA, 4, .inl (fun zk => nI ((cf 6) zk)))), (aC 7, .inl (cA, 4, .inl (fun zk => nI ((cf 7) zk)))), (aL 0, .inl (cA, 81, .inl (fun zk => nI ((lf 0) zk)))), (aL 1, .inl (cA, 81, .inl (fun zk => nI ((lf 1) zk)))), (aL 2, .inl (cA, 81, .inl (fun zk => nI ((lf 2) zk)))), (aL 3, .inl (cA, 81, .inl (fun zk => nI ((lf 3) zk)))), (aL 4, .inl (cA, 81, .inl (fun zk => nI ((lf 4) zk)))), (aL 5, .inl (cA, 81, .inl (fun zk => nI ((lf 5) zk)))), (aL 6, .inl (cA, 81, .inl (fun zk => nI ((lf 6) zk)))), (aL 7, .inl (cA, 81, .inl (fun zk => nI ((lf 7) zk)))), (aL 8, .inl (cA, 81, .inl (fun zk => nI ((lf 8) zk))))] := by rw [show (chs cf cn sd (k + 1)).1 = va_up (chs cf cn sd k).1 k 2 by rw [chs, hpk]]; exact hD
              exact ih_lp (k + 1) (by omega) (by omega) _ _ hP hD hS ls (lv_sub hl [3, 1, 0] rfl)
            · refine lv_iinc (v := nI (3)) (lv' := [(3, .int (nI 3)), (0, .ref (aI 0)), (1, .int (nI ((chs cf cn sd k).2))), (2, .int (nI k))]) hx hb d_PI_choose_37 hl (k := 0) rfl (nI_1 _) (by decide) rfl (fun ls hl => ?_)
              refine lv_goto (tgt := 14) hx hb d_PI_choose_40 (by decide) ?_
              refine lv_iload_n hx hb d_PI_choose_14 rfl (lv_at hl 0 rfl) ?_
              refine lv_iconst (v := nI 3) hx hb d_PI_choose_15 (by decide) ?_
              refine z_cge (tgt := 43) hx hb d_PI_choose_16 (by decide) (by omega) (by omega) (fun _ => ?_) (fun h => absurd h (by omega))
              have hpk : pick cf cn k (chs cf cn sd k).2 = 3 := by unfold pick; rw [if_neg c_0, if_neg c_1, if_neg c_2]
              refine lv_aload_n hx hb d_PI_choose_43 rfl (lv_at hl 1 rfl) ?_
              refine va_get (D := D) (ci := 5) (v := .ref (aI 2)) (C := R_PI) (T := F_PI) (N := 7) hx hb hts i_PI hown hK hP 0 rfl rfl 3 (by decide) (hts _ kf_PI_23) (fun _ h9 => h9) rfl d_PI_choose_44 ?_
              refine lv_iload_n hx hb d_PI_choose_47 rfl (lv_at hl 3 rfl) ?_
              refine lv_iload_n hx hb d_PI_choose_48 rfl (lv_at hl 0 rfl) ?_
              refine z_ist (j := k) (v := 3) hx hb hK hP hD hS 2 0 rfl rfl (by omega) (by decide) d_PI_choose_49 (fun H locs hP hD hS => ?_)
              have hP : va_P D classes [(aI 0, .inr (5, [.ref (aP 0), .ref (aN 0), .ref (aI 1), .ref (aI 2), .ref (aI 3), .ref (aI 4), .int (nI cn)])), (aI 1, .inl (cA, 8, .inl (fun zk => nI (nn zk)))), (aI 2, .inl (cA, 8, .inl (fun zk => nI ((va_up ((chs cf cn sd k).1) k 3) zk)))), (aI 3, .inl (c2, 8, .inr (.inr (.inr (.inr (fun zk => some (aC zk))))))), (aI 4, .inl (c2, 9, .inr (.inr (.inr (.inr (fun zk => some (aL zk))))))), (aC 0, .inl (cA, 4, .inl (fun zk => nI ((cf 0) zk)))), (aC 1, .inl (cA, 4, .inl (fun zk => nI ((cf 1) zk)))), (aC 2, .inl (cA, 4, .inl (fun zk => nI ((cf 2) zk)))), (aC 3, .inl (cA, 4, .inl (fun zk => nI ((cf 3) zk)))), (aC 4, .inl (cA, 4, .inl (fun zk => nI ((cf 4) zk)))), (aC 5, .inl (cA, 4, .inl (fun zk => nI ((cf 5) zk)))), (aC 6, .inl (cA, 4, .inl (fun zk => nI ((cf 6) zk)))), (aC 7, .inl (cA, 4, .inl (fun zk => nI ((cf 7) zk)))), (aL 0, .inl (cA, 81, .inl (fun zk => nI ((lf 0) zk)))), (aL 1, .inl (cA, 81, .inl (fun zk => nI ((lf 1) zk)))), (aL 2, .inl (cA, 81, .inl (fun zk => nI ((lf 2) zk)))), (aL 3, .inl (cA, 81, .inl (fun zk => nI ((lf 3) zk)))), (aL 4, .inl (cA, 81, .inl (fun zk => nI ((lf 4) zk)))), (aL 5, .inl (cA, 81, .inl (fun zk => nI ((lf 5) zk)))), (aL 6, .inl (cA, 81, .inl (fun zk => nI ((lf 6) zk)))), (aL 7, .inl (cA, 81, .inl (fun zk => nI ((lf 7) zk)))), (aL 8, .inl (cA, 81, .inl (fun zk => nI ((lf 8) zk))))] H := hP
              have hD : va_D A [(aI 0, .inr (5, [.ref (aP 0), .ref (aN 0), .ref (aI 1), .ref (aI 2), .ref (aI 3), .ref (aI 4), .int (nI cn)])), (aI 1, .inl (cA, 8, .inl (fun zk => nI (nn zk)))), (aI 2, .inl (cA, 8, .inl (fun zk => nI ((va_up ((chs cf cn sd k).1) k 3) zk)))), (aI 3, .inl (c2, 8, .inr (.inr (.inr (.inr (fun zk => some (aC zk))))))), (aI 4, .inl (c2, 9, .inr (.inr (.inr (.inr (fun zk => some (aL zk))))))), (aC 0, .inl (cA, 4, .inl (fun zk => nI ((cf 0) zk)))), (aC 1, .inl (cA, 4, .inl (fun zk => nI ((cf 1) zk)))), (aC 2, .inl (cA, 4, .inl (fun zk => nI ((cf 2) zk)))), (aC 3, .inl (cA, 4, .inl (fun zk => nI ((cf 3) zk)))), (aC 4, .inl (cA, 4, .inl (fun zk => nI ((cf 4) zk)))), (aC 5, .inl (cA, 4, .inl (fun zk => nI ((cf 5) zk)))), (aC 6, .inl (cA, 4, .inl (fun zk => nI ((cf 6) zk)))), (aC 7, .inl (cA, 4, .inl (fun zk => nI ((cf 7) zk)))), (aL 0, .inl (cA, 81, .inl (fun zk => nI ((lf 0) zk)))), (aL 1, .inl (cA, 81, .inl (fun zk => nI ((lf 1) zk)))), (aL 2, .inl (cA, 81, .inl (fun zk => nI ((lf 2) zk)))), (aL 3, .inl (cA, 81, .inl (fun zk => nI ((lf 3) zk)))), (aL 4, .inl (cA, 81, .inl (fun zk => nI ((lf 4) zk)))), (aL 5, .inl (cA, 81, .inl (fun zk => nI ((lf 5) zk)))), (aL 6, .inl (cA, 81, .inl (fun zk => nI ((lf 6) zk)))), (aL 7, .inl (cA, 81, .inl (fun zk => nI ((lf 7) zk)))), (aL 8, .inl (cA, 81, .inl (fun zk => nI ((lf 8) zk))))] := hD
              refine lv_iload_n hx hb d_PI_choose_50 rfl (lv_at hl 2 rfl) ?_
              refine va_gets hx hb hZ1 hS hown (hts _ kf_PI_70) (fun _ h9 => h9) d_PI_choose_51 ?_
              refine lv_iload_n hx hb d_PI_choose_54 rfl (lv_at hl 0 rfl) ?_
              refine z_oneld (j := 3) hx hb hT1 hS (by decide) d_PI_choose_55 ?_
              refine z_add hx hb d_PI_choose_56 ?_
              refine lv_istore_n (lv' := [(1, .int (nI (((chs cf cn sd k).2) + (one 3)))), (3, .int (nI 3)), (0, .ref (aI 0)), (2, .int (nI k))]) hx hb d_PI_choose_57 rfl hl (by decide) rfl (fun ls hl => ?_)
              refine lv_iinc (v := nI (k + 1)) (lv' := [(2, .int (nI (k + 1))), (1, .int (nI (((chs cf cn sd k).2) + (one 3)))), (3, .int (nI 3)), (0, .ref (aI 0))]) hx hb d_PI_choose_58 hl (k := 3) rfl (nI_1 _) (by decide) rfl (fun ls hl => ?_)
              refine lv_goto (tgt := 4) hx hb d_PI_choose_61 (by decide) ?_
              have hl : lv_has ls 4 [(2, .int (nI (k + 1))), (1, .int (nI ((chs cf cn sd (k + 1)).2))), (3, .int (nI 3)), (0, .ref (aI 0))] := Eq.mp (congrArg (fun zz => lv_has ls 4 [(2, .int (nI (k + 1))), (1, .int zz), (3, .int (nI 3)), (0, .ref (aI 0))]) (congrArg nI (by rw [chs, hpk]))) hl
              have hP : va_P D classes [(aI 0, .inr (5, [.ref (aP 0), .ref (aN 0), .ref (aI 1), .ref (aI 2), .ref (aI 3), .ref (aI 4), .int (nI cn)])), (aI 1, .inl (cA, 8, .inl (fun zk => nI (nn zk)))), (aI 2, .inl (cA, 8, .inl (fun zk => nI (((chs cf cn sd (k + 1)).1) zk)))), (aI 3, .inl (c2, 8, .inr (.inr (.inr (.inr (fun zk => some (aC zk))))))), (aI 4, .inl (c2, 9, .inr (.inr (.inr (.inr (fun zk => some (aL zk))))))), (aC 0, .inl (cA, 4, .inl (fun zk => nI ((cf 0) zk)))), (aC 1, .inl (cA, 4, .inl (fun zk => nI ((cf 1) zk)))), (aC 2, .inl (cA, 4, .inl (fun zk => nI ((cf 2) zk)))), (aC 3, .inl (cA, 4, .inl (fun zk => nI ((cf 3) zk)))), (aC 4, .inl (cA, 4, .inl (fun zk => nI ((cf 4) zk)))), (aC 5, .inl (cA, 4, .inl (fun zk => nI ((cf 5) zk)))), (aC 6, .inl (cA, 4, .inl (fun zk => nI ((cf 6) zk)))), (aC 7, .inl (cA, 4, .inl (fun zk => nI ((cf 7) zk)))), (aL 0, .inl (cA, 81, .inl (fun zk => nI ((lf 0) zk)))), (aL 1, .inl (cA, 81, .inl (fun zk => nI ((lf 1) zk)))), (aL 2, .inl (cA, 81, .inl (fun zk => nI ((lf 2) zk)))), (aL 3, .inl (cA, 81, .inl (fun zk => nI ((lf 3) zk)))), (aL 4, .inl (cA, 81, .inl (fun zk => nI ((lf 4) zk)))), (aL 5, .inl (cA, 81, .inl (fun zk => nI ((lf 5) zk)))), (aL 6, .inl (cA, 81, .inl (fun zk => nI ((lf 6) zk)))), (aL 7, .inl (cA, 81, .inl (fun zk => nI ((lf 7) zk)))), (aL 8, .inl (cA, 81, .inl (fun zk => nI ((lf 8) zk))))] H := by rw [show (chs cf cn sd (k + 1)).1 = va_up (chs cf cn sd k).1 k 3 by rw [chs, hpk]]; exact hP
              have hD : va_D A [(aI 0, .inr (5, [.ref (aP 0), .ref (aN 0), .ref (aI 1), .ref (aI 2), .ref (aI 3), .ref (aI 4), .int (nI cn)])), (aI 1, .inl (cA, 8, .inl (fun zk => nI (nn zk)))), (aI 2, .inl (cA, 8, .inl (fun zk => nI (((chs cf cn sd (k + 1)).1) zk)))), (aI 3, .inl (c2, 8, .inr (.inr (.inr (.inr (fun zk => some (aC zk))))))), (aI 4, .inl (c2, 9, .inr (.inr (.inr (.inr (fun zk => some (aL zk))))))), (aC 0, .inl (cA, 4, .inl (fun zk => nI ((cf 0) zk)))), (aC 1, .inl (cA, 4, .inl (fun zk => nI ((cf 1) zk)))), (aC 2, .inl (cA, 4, .inl (fun zk => nI ((cf 2) zk)))), (aC 3, .inl (cA, 4, .inl (fun zk => nI ((cf 3) zk)))), (aC 4, .inl (cA, 4, .inl (fun zk => nI ((cf 4) zk)))), (aC 5, .inl (cA, 4, .inl (fun zk => nI ((cf 5) zk)))), (aC 6, .inl (cA, 4, .inl (fun zk => nI ((cf 6) zk)))), (aC 7, .inl (cA, 4, .inl (fun zk => nI ((cf 7) zk)))), (aL 0, .inl (cA, 81, .inl (fun zk => nI ((lf 0) zk)))), (aL 1, .inl (cA, 81, .inl (fun zk => nI ((lf 1) zk)))), (aL 2, .inl (cA, 81, .inl (fun zk => nI ((lf 2) zk)))), (aL 3, .inl (cA, 81, .inl (fun zk => nI ((lf 3) zk)))), (aL 4, .inl (cA, 81, .inl (fun zk => nI ((lf 4) zk)))), (aL 5, .inl (cA, 81, .inl (fun zk => nI ((lf 5) zk)))), (aL 6, .inl (cA, 81, .inl (fun zk => nI ((lf 6) zk)))), (aL 7, .inl (cA, 81, .inl (fun zk => nI ((lf 7) zk)))), (aL 8, .inl (cA, 81, .inl (fun zk => nI ((lf 8) zk))))] := by rw [show (chs cf cn sd (k + 1)).1 = va_up (chs cf cn sd k).1 k 3 by rw [chs, hpk]]; exact hD
              exact ih_lp (k + 1) (by omega) (by omega) _ _ hP hD hS ls (lv_sub hl [3, 1, 0] rfl)
  exact lp _ 0 (Nat.zero_le _) (Nat.le_refl _) _ _ hP hD hS ls (lv_sub hl [2, 1, 0] rfl)
