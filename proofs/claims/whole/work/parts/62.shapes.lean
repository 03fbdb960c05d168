theorem ki_obj : Cond.instanceMethod Lib.objectInit ∈ lw_g := by decide +kernel
theorem kd_obj : Cond.code Lib.objectInit ⟨#[0xb1]⟩ 1 none ∈ lw_g := by decide +kernel
section ZAQ
variable {p : Program} {l : Launch} {e : Env} {R : Room} {s : State} {m : MethodId} {args : Array Value} {below : List Frame} {meth : Method} {c : Code} {H : Heap} {locs : List Loc} {cells slots : Nat} {Q : State → Prop}
variable {cc : ByteArray} {pc : Nat} {ls : Array Slot} {rest : List Value} {D : va_G} {cl : List vw_C} {tys : List (ClassId × FieldType)} {ws : va_W} {a : Nat} {A : Nat → Prop} {H0 : Heap} {cA : ClassId} {n j v : Nat} {r : vw_C} {vs : List Value} {f : Nat → Option Nat}
theorem z_astq (hexec : p.tables.exec = Jvm.exec) (hb : c.code = cc) (hK : va_K D cl tys s) (hP : va_P D cl ws H) (hD : va_D A ws) (hS : va_S A H0 H locs) (q0 t0 qk ci : Nat) (ha : ws[q0]? = some (a, .inl (cA, n, .inr (.inr (.inr (.inr f)))))) (ht : tys[t0]? = some (cA, .object r.1)) (hv : ws[qk]? = some (v, .inr (ci, vs))) (hc : cl[ci]? = some r) (hj : j < n) (hn : n < 2 ^ 31) (hdg : decode cc pc = .ok (.aastore, 1))
    (kk : ∀ (H1 : Heap) (locs1 : List Loc), va_P D cl (ws.set q0 (a, .inl (cA, n, .inr (.inr (.inr (.inr (va_up f j (some v)))))))) H1 → va_D A (ws.set q0 (a, .inl (cA, n, .inr (.inr (.inr (.inr (va_up f j (some v)))))))) → va_S A H0 H1 locs1 → W p l e R s m args below meth c H1 locs1 cells slots Q (F0 m (pc + 1) ls rest)) : W p l e R s m args below meth c H locs cells slots Q (F0 m pc ls (.ref v :: .int (nI j) :: .ref a :: rest)) := by
  refine va_astq hexec hb hK hP hD hS q0 t0 qk ci ha ht hv hc (vp_in_nI hj hn) hdg (fun H1 locs1 h1 h2 h3 => ?_)
  rw [nI_clamp (by omega)] at h1 h2
  exact kk H1 locs1 h1 h2 h3
end ZAQ
theorem d_SL_init_0 : decode b_SL_init 0 = .ok (.aload_n 0, 1) := by decide +kernel
theorem d_SL_init_1 : decode b_SL_init 1 = .ok (.invokespecial 1, 3) := by decide +kernel
theorem d_SL_init_4 : decode b_SL_init 4 = .ok (.iload_n 1, 1) := by decide +kernel
theorem d_SL_init_5 : decode b_SL_init 5 = .ok (.iconst 0, 1) := by decide +kernel
theorem d_SL_init_6 : decode b_SL_init 6 = .ok (.invokestatic 7, 3) := by decide +kernel
theorem d_SL_init_9 : decode b_SL_init 9 = .ok (.istore_n 2, 1) := by decide +kernel
theorem d_SL_init_10 : decode b_SL_init 10 = .ok (.aload_n 0, 1) := by decide +kernel
theorem d_SL_init_11 : decode b_SL_init 11 = .ok (.iload_n 2, 1) := by decide +kernel
theorem d_SL_init_12 : decode b_SL_init 12 = .ok (.newarray .int, 2) := by decide +kernel
theorem d_SL_init_14 : decode b_SL_init 14 = .ok (.putfield 13, 3) := by decide +kernel
theorem d_SL_init_17 : decode b_SL_init 17 = .ok (.aload_n 0, 1) := by decide +kernel
theorem d_SL_init_18 : decode b_SL_init 18 = .ok (.iload_n 2, 1) := by decide +kernel
theorem d_SL_init_19 : decode b_SL_init 19 = .ok (.newarray .int, 2) := by decide +kernel
theorem d_SL_init_21 : decode b_SL_init 21 = .ok (.putfield 19, 3) := by decide +kernel
theorem d_SL_init_24 : decode b_SL_init 24 = .ok (.aload_n 0, 1) := by decide +kernel
theorem d_SL_init_25 : decode b_SL_init 25 = .ok (.iconst 0, 1) := by decide +kernel
theorem d_SL_init_26 : decode b_SL_init 26 = .ok (.putfield 22, 3) := by decide +kernel
theorem d_SL_init_29 : decode b_SL_init 29 = .ok (.return_, 1) := by decide +kernel
theorem d_TH_init_0 : decode b_TH_init 0 = .ok (.aload_n 0, 1) := by decide +kernel
theorem d_TH_init_1 : decode b_TH_init 1 = .ok (.invokespecial 1, 3) := by decide +kernel
theorem d_TH_init_4 : decode b_TH_init 4 = .ok (.aload_n 0, 1) := by decide +kernel
theorem d_TH_init_5 : decode b_TH_init 5 = .ok (.iload_n 1, 1) := by decide +kernel
theorem d_TH_init_6 : decode b_TH_init 6 = .ok (.putfield 7, 3) := by decide +kernel
theorem d_TH_init_9 : decode b_TH_init 9 = .ok (.aload_n 0, 1) := by decide +kernel
theorem d_TH_init_10 : decode b_TH_init 10 = .ok (.aload_n 2, 1) := by decide +kernel
theorem d_TH_init_11 : decode b_TH_init 11 = .ok (.putfield 13, 3) := by decide +kernel
theorem d_TH_init_14 : decode b_TH_init 14 = .ok (.aload_n 0, 1) := by decide +kernel
theorem d_TH_init_15 : decode b_TH_init 15 = .ok (.iconst 0, 1) := by decide +kernel
theorem d_TH_init_16 : decode b_TH_init 16 = .ok (.putfield 17, 3) := by decide +kernel
theorem d_TH_init_19 : decode b_TH_init 19 = .ok (.return_, 1) := by decide +kernel
theorem d_SL_ofBlock_0 : decode b_SL_ofBlock 0 = .ok (.new 14, 3) := by decide +kernel
theorem d_SL_ofBlock_3 : decode b_SL_ofBlock 3 = .ok (.dup, 1) := by decide +kernel
theorem d_SL_ofBlock_4 : decode b_SL_ofBlock 4 = .ok (.iconst 2, 1) := by decide +kernel
theorem d_SL_ofBlock_5 : decode b_SL_ofBlock 5 = .ok (.invokespecial 26, 3) := by decide +kernel
theorem d_SL_ofBlock_8 : decode b_SL_ofBlock 8 = .ok (.astore_n 3, 1) := by decide +kernel
theorem d_SL_ofBlock_9 : decode b_SL_ofBlock 9 = .ok (.aload_n 3, 1) := by decide +kernel
theorem d_SL_ofBlock_10 : decode b_SL_ofBlock 10 = .ok (.iload_n 0, 1) := by decide +kernel
theorem d_SL_ofBlock_11 : decode b_SL_ofBlock 11 = .ok (.iload_n 1, 1) := by decide +kernel
theorem d_SL_ofBlock_12 : decode b_SL_ofBlock 12 = .ok (.invokevirtual 29, 3) := by decide +kernel
theorem d_SL_ofBlock_15 : decode b_SL_ofBlock 15 = .ok (.iload_n 2, 1) := by decide +kernel
theorem d_SL_ofBlock_16 : decode b_SL_ofBlock 16 = .ok (.ifCond .eq 9, 3) := by decide +kernel
theorem d_SL_ofBlock_19 : decode b_SL_ofBlock 19 = .ok (.aload_n 3, 1) := by decide +kernel
theorem d_SL_ofBlock_20 : decode b_SL_ofBlock 20 = .ok (.iload_n 1, 1) := by decide +kernel
theorem d_SL_ofBlock_21 : decode b_SL_ofBlock 21 = .ok (.iload_n 0, 1) := by decide +kernel
theorem d_SL_ofBlock_22 : decode b_SL_ofBlock 22 = .ok (.invokevirtual 29, 3) := by decide +kernel
theorem d_SL_ofBlock_25 : decode b_SL_ofBlock 25 = .ok (.aload_n 3, 1) := by decide +kernel
theorem d_SL_ofBlock_26 : decode b_SL_ofBlock 26 = .ok (.areturn, 1) := by decide +kernel
theorem d_SL_ofSlice_0 : decode b_SL_ofSlice 0 = .ok (.new 14, 3) := by decide +kernel
theorem d_SL_ofSlice_3 : decode b_SL_ofSlice 3 = .ok (.dup, 1) := by decide +kernel
theorem d_SL_ofSlice_4 : decode b_SL_ofSlice 4 = .ok (.aload_n 0, 1) := by decide +kernel
theorem d_SL_ofSlice_5 : decode b_SL_ofSlice 5 = .ok (.getfield 22, 3) := by decide +kernel
theorem d_SL_ofSlice_8 : decode b_SL_ofSlice 8 = .ok (.aload_n 1, 1) := by decide +kernel
theorem d_SL_ofSlice_9 : decode b_SL_ofSlice 9 = .ok (.getfield 22, 3) := by decide +kernel
theorem d_SL_ofSlice_12 : decode b_SL_ofSlice 12 = .ok (.iadd, 1) := by decide +kernel
theorem d_SL_ofSlice_13 : decode b_SL_ofSlice 13 = .ok (.invokespecial 26, 3) := by decide +kernel
theorem d_SL_ofSlice_16 : decode b_SL_ofSlice 16 = .ok (.astore_n 3, 1) := by decide +kernel
theorem d_SL_ofSlice_17 : decode b_SL_ofSlice 17 = .ok (.iconst 0, 1) := by decide +kernel
theorem d_SL_ofSlice_18 : decode b_SL_ofSlice 18 = .ok (.istore 4, 2) := by decide +kernel
theorem d_SL_ofSlice_20 : decode b_SL_ofSlice 20 = .ok (.iload 4, 2) := by decide +kernel
theorem d_SL_ofSlice_22 : decode b_SL_ofSlice 22 = .ok (.aload_n 0, 1) := by decide +kernel
theorem d_SL_ofSlice_23 : decode b_SL_ofSlice 23 = .ok (.getfield 22, 3) := by decide +kernel
theorem d_SL_ofSlice_26 : decode b_SL_ofSlice 26 = .ok (.if_icmp .ge 106, 3) := by decide +kernel
theorem d_SL_ofSlice_29 : decode b_SL_ofSlice 29 = .ok (.iconst 0, 1) := by decide +kernel
theorem d_SL_ofSlice_30 : decode b_SL_ofSlice 30 = .ok (.istore 5, 2) := by decide +kernel
theorem d_SL_ofSlice_32 : decode b_SL_ofSlice 32 = .ok (.iload 5, 2) := by decide +kernel
theorem d_SL_ofSlice_34 : decode b_SL_ofSlice 34 = .ok (.aload_n 1, 1) := by decide +kernel
theorem d_SL_ofSlice_35 : decode b_SL_ofSlice 35 = .ok (.getfield 22, 3) := by decide +kernel
theorem d_SL_ofSlice_38 : decode b_SL_ofSlice 38 = .ok (.if_icmp .ge 88, 3) := by decide +kernel
theorem d_SL_ofSlice_41 : decode b_SL_ofSlice 41 = .ok (.iload_n 2, 1) := by decide +kernel
theorem d_SL_ofSlice_42 : decode b_SL_ofSlice 42 = .ok (.ifCond .eq 42, 3) := by decide +kernel
theorem d_SL_ofSlice_45 : decode b_SL_ofSlice 45 = .ok (.aload_n 3, 1) := by decide +kernel
theorem d_SL_ofSlice_46 : decode b_SL_ofSlice 46 = .ok (.aload_n 0, 1) := by decide +kernel
theorem d_SL_ofSlice_47 : decode b_SL_ofSlice 47 = .ok (.getfield 13, 3) := by decide +kernel
theorem d_SL_ofSlice_50 : decode b_SL_ofSlice 50 = .ok (.iload 4, 2) := by decide +kernel
theorem d_SL_ofSlice_52 : decode b_SL_ofSlice 52 = .ok (.iaload, 1) := by decide +kernel
theorem d_SL_ofSlice_53 : decode b_SL_ofSlice 53 = .ok (.aload_n 1, 1) := by decide +kernel
theorem d_SL_ofSlice_54 : decode b_SL_ofSlice 54 = .ok (.getfield 13, 3) := by decide +kernel
theorem d_SL_ofSlice_57 : decode b_SL_ofSlice 57 = .ok (.iload 5, 2) := by decide +kernel
theorem d_SL_ofSlice_59 : decode b_SL_ofSlice 59 = .ok (.iaload, 1) := by decide +kernel
theorem d_SL_ofSlice_60 : decode b_SL_ofSlice 60 = .ok (.iadd, 1) := by decide +kernel
theorem d_SL_ofSlice_61 : decode b_SL_ofSlice 61 = .ok (.aload_n 0, 1) := by decide +kernel
theorem d_SL_ofSlice_62 : decode b_SL_ofSlice 62 = .ok (.getfield 19, 3) := by decide +kernel
theorem d_SL_ofSlice_65 : decode b_SL_ofSlice 65 = .ok (.iload 4, 2) := by decide +kernel
theorem d_SL_ofSlice_67 : decode b_SL_ofSlice 67 = .ok (.iaload, 1) := by decide +kernel
theorem d_SL_ofSlice_68 : decode b_SL_ofSlice 68 = .ok (.aload_n 1, 1) := by decide +kernel
theorem d_SL_ofSlice_69 : decode b_SL_ofSlice 69 = .ok (.getfield 19, 3) := by decide +kernel
theorem d_SL_ofSlice_72 : decode b_SL_ofSlice 72 = .ok (.iload 5, 2) := by decide +kernel
theorem d_SL_ofSlice_74 : decode b_SL_ofSlice 74 = .ok (.iaload, 1) := by decide +kernel
theorem d_SL_ofSlice_75 : decode b_SL_ofSlice 75 = .ok (.invokestatic 7, 3) := by decide +kernel
theorem d_SL_ofSlice_78 : decode b_SL_ofSlice 78 = .ok (.invokevirtual 29, 3) := by decide +kernel
theorem d_SL_ofSlice_81 : decode b_SL_ofSlice 81 = .ok (.goto 39, 3) := by decide +kernel
theorem d_SL_ofSlice_84 : decode b_SL_ofSlice 84 = .ok (.aload_n 3, 1) := by decide +kernel
theorem d_SL_ofSlice_85 : decode b_SL_ofSlice 85 = .ok (.aload_n 0, 1) := by decide +kernel
theorem d_SL_ofSlice_86 : decode b_SL_ofSlice 86 = .ok (.getfield 13, 3) := by decide +kernel
theorem d_SL_ofSlice_89 : decode b_SL_ofSlice 89 = .ok (.iload 4, 2) := by decide +kernel
theorem d_SL_ofSlice_91 : decode b_SL_ofSlice 91 = .ok (.iaload, 1) := by decide +kernel
theorem d_SL_ofSlice_92 : decode b_SL_ofSlice 92 = .ok (.aload_n 1, 1) := by decide +kernel
theorem d_SL_ofSlice_93 : decode b_SL_ofSlice 93 = .ok (.getfield 13, 3) := by decide +kernel
theorem d_SL_ofSlice_96 : decode b_SL_ofSlice 96 = .ok (.iload 5, 2) := by decide +kernel
theorem d_SL_ofSlice_98 : decode b_SL_ofSlice 98 = .ok (.iaload, 1) := by decide +kernel
theorem d_SL_ofSlice_99 : decode b_SL_ofSlice 99 = .ok (.invokestatic 7, 3) := by decide +kernel
theorem d_SL_ofSlice_102 : decode b_SL_ofSlice 102 = .ok (.aload_n 0, 1) := by decide +kernel
theorem d_SL_ofSlice_103 : decode b_SL_ofSlice 103 = .ok (.getfield 19, 3) := by decide +kernel
theorem d_SL_ofSlice_106 : decode b_SL_ofSlice 106 = .ok (.iload 4, 2) := by decide +kernel
theorem d_SL_ofSlice_108 : decode b_SL_ofSlice 108 = .ok (.iaload, 1) := by decide +kernel
theorem d_SL_ofSlice_109 : decode b_SL_ofSlice 109 = .ok (.aload_n 1, 1) := by decide +kernel
theorem d_SL_ofSlice_110 : decode b_SL_ofSlice 110 = .ok (.getfield 19, 3) := by decide +kernel
theorem d_SL_ofSlice_113 : decode b_SL_ofSlice 113 = .ok (.iload 5, 2) := by decide +kernel
theorem d_SL_ofSlice_115 : decode b_SL_ofSlice 115 = .ok (.iaload, 1) := by decide +kernel
theorem d_SL_ofSlice_116 : decode b_SL_ofSlice 116 = .ok (.iadd, 1) := by decide +kernel
theorem d_SL_ofSlice_117 : decode b_SL_ofSlice 117 = .ok (.invokevirtual 29, 3) := by decide +kernel
theorem d_SL_ofSlice_120 : decode b_SL_ofSlice 120 = .ok (.iinc 5 1, 3) := by decide +kernel
theorem d_SL_ofSlice_123 : decode b_SL_ofSlice 123 = .ok (.goto (-91), 3) := by decide +kernel
theorem d_SL_ofSlice_126 : decode b_SL_ofSlice 126 = .ok (.iinc 4 1, 3) := by decide +kernel
theorem d_SL_ofSlice_129 : decode b_SL_ofSlice 129 = .ok (.goto (-109), 3) := by decide +kernel
theorem d_SL_ofSlice_132 : decode b_SL_ofSlice 132 = .ok (.aload_n 3, 1) := by decide +kernel
theorem d_SL_ofSlice_133 : decode b_SL_ofSlice 133 = .ok (.areturn, 1) := by decide +kernel
theorem d_SB_appendThing_0 : decode b_SB_appendThing 0 = .ok (.aload_n 0, 1) := by decide +kernel
theorem d_SB_appendThing_1 : decode b_SB_appendThing 1 = .ok (.getfield 11, 3) := by decide +kernel
theorem d_SB_appendThing_4 : decode b_SB_appendThing 4 = .ok (.aload_n 0, 1) := by decide +kernel
theorem d_SB_appendThing_5 : decode b_SB_appendThing 5 = .ok (.getfield 15, 3) := by decide +kernel
theorem d_SB_appendThing_8 : decode b_SB_appendThing 8 = .ok (.aload_n 1, 1) := by decide +kernel
theorem d_SB_appendThing_9 : decode b_SB_appendThing 9 = .ok (.aastore, 1) := by decide +kernel
theorem d_SB_appendThing_10 : decode b_SB_appendThing 10 = .ok (.aload_n 0, 1) := by decide +kernel
theorem d_SB_appendThing_11 : decode b_SB_appendThing 11 = .ok (.dup, 1) := by decide +kernel
theorem d_SB_appendThing_12 : decode b_SB_appendThing 12 = .ok (.getfield 15, 3) := by decide +kernel
theorem d_SB_appendThing_15 : decode b_SB_appendThing 15 = .ok (.dup_x1, 1) := by decide +kernel
theorem d_SB_appendThing_16 : decode b_SB_appendThing 16 = .ok (.iconst 1, 1) := by decide +kernel
theorem d_SB_appendThing_17 : decode b_SB_appendThing 17 = .ok (.iadd, 1) := by decide +kernel
theorem d_SB_appendThing_18 : decode b_SB_appendThing 18 = .ok (.putfield 15, 3) := by decide +kernel
theorem d_SB_appendThing_21 : decode b_SB_appendThing 21 = .ok (.ireturn, 1) := by decide +kernel
set_option maxHeartbeats 4000000 in
set_option maxRecDepth 100000 in
/-- new ShapeList(cap) -/
theorem c_SL_init (l : Launch) (D : va_G) (sz : Nat) (aU cap : Nat) (cA : ClassId) (hcap : cap ≤ 64) : Met l y_SL_init (wsA y_SL_init b_SL_init 3 none) ({ frames := 1, cells := 2, slots := 128, locals := 24 } : Room) (zPF zF0 D [(cA, .int)] [(aU, .inr (8, [.null, .null, .int (nI 0)]))] [.ref aU, .int (nI cap)] sz) (zQ none (zB D [(cA, .int)] (va_A [(aU, .inr (8, [.null, .null, .int (nI 0)]))] sz) [(aU, .inr (8, [.ref sz, .ref (sz + 1), .int (nI 0)])), (sz, .inl (cA, cap, .inl (fun zk => nI ((fun _ => 0) zk)))), (sz + 1, .inl (cA, cap, .inl (fun zk => nI ((fun _ => 0) zk))))]) (va_A [(aU, .inr (8, [.null, .null, .int (nI 0)]))] sz)) 2 128 (va_A [(aU, .inr (8, [.null, .null, .int (nI 0)]))] sz) := by
  refine Met.ofW (cc := b_SL_init) (maxL := 3) (ret := none) (by decide) rfl ?_
  intro p e s m args below meth c s₁ Bd hml hv
  obtain ⟨rfl, hsz, hP, hK, hD0, hF⟩ := hv
  have hx := Bd.exec
  have hb := Bd.bytes
  have hr := Bd.returns
  have hts : ∀ w ∈ lw_g, w.before _ s = true := fun w h => atoms_spec (ws := wsA y_SL_init b_SL_init 3 none) Bd.pre w (List.mem_cons_of_mem _ h)
  have hown : s.vm.findClass R_SL = some m.cls := findClass_of_methodNamed Bd.named
  have hlocks := Bd.notSynchronized
  have hin : meth.name = "<init>" := (name_of_methodNamed Bd.named Bd.method).1
  obtain ⟨hD, hA, hS⟩ := z_start hsz hD0
  generalize va_A [(aU, .inr (8, [.null, .null, .int (nI 0)]))] sz = A at hD hA hS hF ⊢
  have hl := lv_entry ([.ref aU, .int (nI cap)]) (n := 3) (Nat.le_of_ble_eq_true rfl)
  rw [lg_entry_eq]
  generalize (lg_sl ([.ref aU, .int (nI cap)]) ++ List.replicate (3 - (lg_sl ([.ref aU, .int (nI cap)])).length) Slot.unset).toArray = ls at hl ⊢
  have hl : lv_has ls 3 [(0, .ref aU), (1, .int (nI cap))] := hl
  have hP : va_P D classes [(aU, .inr (8, [.null, .null, .int (nI 0)]))] s.heap := hP
  refine lv_aload_n hx hb d_SL_init_0 rfl (lv_at hl 0 rfl) ?_
  refine W.objInit hx hb hown (hts _ km_SL_1) (hts _ ki_obj) (hts _ kd_obj) rfl (by rw [hml]; exact hl.1) rfl d_SL_init_1 (Nat.le_of_ble_eq_true rfl) (Nat.le_of_ble_eq_true rfl) ?_
  refine lv_iload_n hx hb d_SL_init_4 rfl (lv_at hl 1 rfl) ?_
  refine lv_iconst (v := nI 0) hx hb d_SL_init_5 (by decide) ?_
  refine z_max (x := cap) (y := 0) ⟨hx, hb, hml, hown, hts⟩ hl.1 km_SL_7 (Nat.le_of_ble_eq_true rfl) (Nat.le_of_ble_eq_true rfl) ⟨Nat.zero_le _, Nat.zero_le _⟩ (by omega) (by omega) d_SL_init_6 ?_
  refine lv_toi (z := nI cap) (congrArg nI (by omega)) ?_
  refine lv_istore_n (lv' := [(2, .int (nI cap)), (0, .ref aU), (1, .int (nI cap))]) hx hb d_SL_init_9 rfl hl (by decide) rfl (fun ls hl => ?_)
  refine lv_aload_n hx hb d_SL_init_10 rfl (lv_at hl 1 rfl) ?_
  refine lv_iload_n hx hb d_SL_init_11 rfl (lv_at hl 0 rfl) ?_
  refine zsz (fun hub => ?_)
  have hz : s.heap.size = sz := by have hlo := hS.1; omega
  refine z_newa (ty := .int) (cA := cA) (N' := cap) (a0 := (cap, .inl (fun zk => nI ((fun _ => 0) zk)))) hx hb rfl (hts _ ka_60) (hK.2 0 _ rfl).2 hP hD hS hA (vp_zn cap) (nI_n0 (by omega)) (nI_clamp (by omega)) (by show cap * 4 ≤ 536870912; omega) (by show 0 + 1 ≤ 2; omega) (by show 0 + cap ≤ 128; omega) hz d_SL_init_12 (fun H hP hD hS => ?_)
  have hP : va_P D classes [(aU, .inr (8, [.null, .null, .int (nI 0)])), (sz, .inl (cA, cap, .inl (fun zk => nI ((fun _ => 0) zk))))] H := hP
  have hD : va_D A [(aU, .inr (8, [.null, .null, .int (nI 0)])), (sz, .inl (cA, cap, .inl (fun zk => nI ((fun _ => 0) zk))))] := hD
  refine va_putF (D := D) (ci := 8) (v := .ref sz) (ty := (.array .int)) (C := R_SL) (T := F_SL) (N := 3) hx hb hts i_SL t_SL to_SL n_SL hown hK hP hD hS 0 rfl rfl 0 (by decide) (hts _ kf_SL_13) (fun _ h9 => h9) rfl hin rfl (by decide +kernel) rfl rfl (Nat.le_of_ble_eq_true rfl) d_SL_init_14 (fun H locs hP hD hS => ?_)
  have hP : va_P D classes [(aU, .inr (8, [.ref sz, .null, .int (nI 0)])), (sz, .inl (cA, cap, .inl (fun zk => nI ((fun _ => 0) zk))))] H := hP
  have hD : va_D A [(aU, .inr (8, [.ref sz, .null, .int (nI 0)])), (sz, .inl (cA, cap, .inl (fun zk => nI ((fun _ => 0) zk))))] := hD
  refine lv_aload_n hx hb d_SL_init_17 rfl (lv_at hl 1 rfl) ?_
  refine lv_iload_n hx hb d_SL_init_18 rfl (lv_at hl 0 rfl) ?_
  refine zsz (fun hub => ?_)
  have hz : H.size = sz + 1 := by have hlo : sz < H.size := (hP 1 _ rfl).lt; omega
  refine z_newa (ty := .int) (cA := cA) (N' := cap) (a0 := (cap, .inl (fun zk => nI ((fun _ => 0) zk)))) hx hb rfl (hts _ ka_60) (hK.2 0 _ rfl).2 hP hD hS hA (vp_zn cap) (nI_n0 (by omega)) (nI_clamp (by omega)) (by show cap * 4 ≤ 536870912; omega) (by show 0 + 1 + 1 ≤ 2; omega) (by show 0 + cap + cap ≤ 128; omega) hz d_SL_init_19 (fun H hP hD hS => ?_)
  have hP : va_P D classes [(aU, .inr (8, [.ref sz, .null, .int (nI 0)])), (sz, .inl (cA, cap, .inl (fun zk => nI ((fun _ => 0) zk)))), (sz + 1, .inl (cA, cap, .inl (fun zk => nI ((fun _ => 0) zk))))] H := hP
  have hD : va_D A [(aU, .inr (8, [.ref sz, .null, .int (nI 0)])), (sz, .inl (cA, cap, .inl (fun zk => nI ((fun _ => 0) zk)))), (sz + 1, .inl (cA, cap, .inl (fun zk => nI ((fun _ => 0) zk))))] := hD
  refine va_putF (D := D) (ci := 8) (v := .ref (sz + 1)) (ty := (.array .int)) (C := R_SL) (T := F_SL) (N := 3) hx hb hts i_SL t_SL to_SL n_SL hown hK hP hD hS 0 rfl rfl 1 (by decide) (hts _ kf_SL_19) (fun _ h9 => h9) rfl hin rfl (by decide +kernel) rfl rfl (Nat.le_of_ble_eq_true rfl) d_SL_init_21 (fun H locs hP hD hS => ?_)
  have hP : va_P D classes [(aU, .inr (8, [.ref sz, .ref (sz + 1), .int (nI 0)])), (sz, .inl (cA, cap, .inl (fun zk => nI ((fun _ => 0) zk)))), (sz + 1, .inl (cA, cap, .inl (fun zk => nI ((fun _ => 0) zk))))] H := hP
  have hD : va_D A [(aU, .inr (8, [.ref sz, .ref (sz + 1), .int (nI 0)])), (sz, .inl (cA, cap, .inl (fun zk => nI ((fun _ => 0) zk)))), (sz + 1, .inl (cA, cap, .inl (fun zk => nI ((fun _ => 0) zk))))] := hD
  refine lv_aload_n hx hb d_SL_init_24 rfl (lv_at hl 1 rfl) ?_
  refine lv_iconst (v := nI 0) hx hb d_SL_init_25 (by decide) ?_
  refine va_put (D := D) (ci := 8) (v := .int (nI 0)) (ty := .int) (C := R_SL) (T := F_SL) (N := 3) hx hb hts i_SL t_SL to_SL n_SL hown hK hP hD hS 0 rfl rfl 2 (by decide) (hts _ kf_SL_22) (fun _ h9 => h9) rfl (by decide +kernel) rfl rfl (Nat.le_of_ble_eq_true rfl) d_SL_init_26 (fun H locs hP hD hS => ?_)
  have hP : va_P D classes [(aU, .inr (8, [.ref sz, .ref (sz + 1), .int (nI 0)])), (sz, .inl (cA, cap, .inl (fun zk => nI ((fun _ => 0) zk)))), (sz + 1, .inl (cA, cap, .inl (fun zk => nI ((fun _ => 0) zk))))] H := hP
  have hD : va_D A [(aU, .inr (8, [.ref sz, .ref (sz + 1), .int (nI 0)])), (sz, .inl (cA, cap, .inl (fun zk => nI ((fun _ => 0) zk)))), (sz + 1, .inl (cA, cap, .inl (fun zk => nI ((fun _ => 0) zk))))] := hD
  refine W.widen (k := 2) (n := 128) (by omega) (by omega) ?_
  exact W.vret hx hb hr (fun t ht hW => ⟨rfl, ⟨by rw [ht]; exact hP, va_K.moved hW.alike hK, hD⟩, hS.F ht⟩) hS.2.2 d_SL_init_29
set_option maxHeartbeats 4000000 in
set_option maxRecDepth 100000 in
/-- new Thing(bk, list) -/
theorem c_TH_init (l : Launch) (D : va_G) (sz : Nat) (aT aU : Nat) (bk : Int32)  : Met l y_TH_init (wsA y_TH_init b_TH_init 3 none) ({ frames := 1, cells := 0, slots := 0, locals := 24 } : Room) (zPF zF0 D [] [(aT, .inr (9, [.int (nI 0), .null, .int (zb false)]))] [.ref aT, .int bk, .ref aU] sz) (zQ none (zB D [] (va_A [(aT, .inr (9, [.int (nI 0), .null, .int (zb false)]))] sz) [(aT, .inr (9, [.int bk, .ref aU, .int (zb false)]))]) (va_A [(aT, .inr (9, [.int (nI 0), .null, .int (zb false)]))] sz)) 0 0 (va_A [(aT, .inr (9, [.int (nI 0), .null, .int (zb false)]))] sz) := by
  refine Met.ofW (cc := b_TH_init) (maxL := 3) (ret := none) (by decide) rfl ?_
  intro p e s m args below meth c s₁ Bd hml hv
  obtain ⟨rfl, hsz, hP, hK, hD0, hF⟩ := hv
  have hx := Bd.exec
  have hb := Bd.bytes
  have hr := Bd.returns
  have hts : ∀ w ∈ lw_g, w.before _ s = true := fun w h => atoms_spec (ws := wsA y_TH_init b_TH_init 3 none) Bd.pre w (List.mem_cons_of_mem _ h)
  have hown : s.vm.findClass R_TH = some m.cls := findClass_of_methodNamed Bd.named
  have hlocks := Bd.notSynchronized
  have hin : meth.name = "<init>" := (name_of_methodNamed Bd.named Bd.method).1
  obtain ⟨hD, hA, hS⟩ := z_start hsz hD0
  generalize va_A [(aT, .inr (9, [.int (nI 0), .null, .int (zb false)]))] sz = A at hD hA hS hF ⊢
  have hl := lv_entry ([.ref aT, .int bk, .ref aU]) (n := 3) (Nat.le_of_ble_eq_true rfl)
  rw [lg_entry_eq]
  generalize (lg_sl ([.ref aT, .int bk, .ref aU]) ++ List.replicate (3 - (lg_sl ([.ref aT, .int bk, .ref aU])).length) Slot.unset).toArray = ls at hl ⊢
  have hl : lv_has ls 3 [(0, .ref aT), (1, .int bk), (2, .ref aU)] := hl
  have hP : va_P D classes [(aT, .inr (9, [.int (nI 0), .null, .int (zb false)]))] s.heap := hP
  refine lv_aload_n hx hb d_TH_init_0 rfl (lv_at hl 0 rfl) ?_
  refine W.objInit hx hb hown (hts _ km_TH_1) (hts _ ki_obj) (hts _ kd_obj) rfl (by rw [hml]; exact hl.1) rfl d_TH_init_1 (Nat.le_of_ble_eq_true rfl) (Nat.le_of_ble_eq_true rfl) ?_
  refine lv_aload_n hx hb d_TH_init_4 rfl (lv_at hl 0 rfl) ?_
  refine lv_iload_n hx hb d_TH_init_5 rfl (lv_at hl 1 rfl) ?_
  refine va_putF (D := D) (ci := 9) (v := .int bk) (ty := .int) (C := R_TH) (T := F_TH) (N := 3) hx hb hts i_TH t_TH to_TH n_TH hown hK hP hD hS 0 rfl rfl 0 (by decide) (hts _ kf_TH_7) (fun _ h9 => h9) rfl hin rfl (by decide +kernel) rfl rfl (Nat.le_of_ble_eq_true rfl) d_TH_init_6 (fun H locs hP hD hS => ?_)
  have hP : va_P D classes [(aT, .inr (9, [.int bk, .null, .int (zb false)]))] H := hP
  have hD : va_D A [(aT, .inr (9, [.int bk, .null, .int (zb false)]))] := hD
  refine lv_aload_n hx hb d_TH_init_9 rfl (lv_at hl 0 rfl) ?_
  refine lv_aload_n hx hb d_TH_init_10 rfl (lv_at hl 2 rfl) ?_
  refine va_putF (D := D) (ci := 9) (v := .ref aU) (ty := (.object "SliceBlocks$ShapeList")) (C := R_TH) (T := F_TH) (N := 3) hx hb hts i_TH t_TH to_TH n_TH hown hK hP hD hS 0 rfl rfl 1 (by decide) (hts _ kf_TH_13) (fun _ h9 => h9) rfl hin rfl (by decide +kernel) rfl rfl (Nat.le_of_ble_eq_true rfl) d_TH_init_11 (fun H locs hP hD hS => ?_)
  have hP : va_P D classes [(aT, .inr (9, [.int bk, .ref aU, .int (zb false)]))] H := hP
  have hD : va_D A [(aT, .inr (9, [.int bk, .ref aU, .int (zb false)]))] := hD
  refine lv_aload_n hx hb d_TH_init_14 rfl (lv_at hl 0 rfl) ?_
  refine lv_iconst (v := zb false) hx hb d_TH_init_15 (by decide) ?_
  refine va_put (D := D) (ci := 9) (v := .int (zb false)) (ty := .boolean) (C := R_TH) (T := F_TH) (N := 3) hx hb hts i_TH t_TH to_TH n_TH hown hK hP hD hS 0 rfl rfl 2 (by decide) (hts _ kf_TH_17) (fun _ h9 => h9) rfl (by decide +kernel) rfl rfl (Nat.le_of_ble_eq_true rfl) d_TH_init_16 (fun H locs hP hD hS => ?_)
  have hP : va_P D classes [(aT, .inr (9, [.int bk, .ref aU, .int (zb false)]))] H := hP
  have hD : va_D A [(aT, .inr (9, [.int bk, .ref aU, .int (zb false)]))] := hD
  refine W.widen (k := 0) (n := 0) (by omega) (by omega) ?_
  exact W.vret hx hb hr (fun t ht hW => ⟨rfl, ⟨by rw [ht]; exact hP, va_K.moved hW.alike hK, hD⟩, hS.F ht⟩) hS.2.2 d_TH_init_19
set_option maxHeartbeats 4000000 in
set_option maxRecDepth 100000 in
/-- appendThing(thing) -/
theorem c_SB_appendThing (l : Launch) (D : va_G) (sz : Nat) (aS aB aN aP aE aI : Nat → Nat) (cA cZ c2 cT : ClassId) (tc : Nat) (tf : Nat → Option Nat) (aT aU : Nat) (bk : Int32) (us : Bool) (h40 : tc < 40) : Met l y_SB_appendThing (wsA y_SB_appendThing b_SB_appendThing 2 (some .int)) ({ frames := 0, cells := 0, slots := 0, locals := 0 } : Room) (zP D [(cA, .int), (cZ, .boolean), (c2, .array .int), (cT, .object R_TH)] [(aS 0, .inr (0, [.ref (aS 1), .int (nI tc), .ref (aB 0), .ref (aN 0), .ref (aP 0), .ref (aE 0), .ref (aI 0)])), (aS 1, .inl (cT, 40, .inr (.inr (.inr (.inr tf))))), (aT, .inr (9, [.int bk, .ref aU, .int (zb us)]))] [.ref (aS 0), .ref aT] sz) (zQ (some (.int (nI tc))) (zB D [(cA, .int), (cZ, .boolean), (c2, .array .int), (cT, .object R_TH)] (va_A [(aS 0, .inr (0, [.ref (aS 1), .int (nI tc), .ref (aB 0), .ref (aN 0), .ref (aP 0), .ref (aE 0), .ref (aI 0)])), (aS 1, .inl (cT, 40, .inr (.inr (.inr (.inr tf))))), (aT, .inr (9, [.int bk, .ref aU, .int (zb us)]))] sz) [(aS 0, .inr (0, [.ref (aS 1), .int (nI (tc + 1)), .ref (aB 0), .ref (aN 0), .ref (aP 0), .ref (aE 0), .ref (aI 0)])), (aS 1, .inl (cT, 40, .inr (.inr (.inr (.inr (va_up tf tc (some aT))))))), (aT, .inr (9, [.int bk, .ref aU, .int (zb us)]))]) (va_A [(aS 0, .inr (0, [.ref (aS 1), .int (nI tc), .ref (aB 0), .ref (aN 0), .ref (aP 0), .ref (aE 0), .ref (aI 0)])), (aS 1, .inl (cT, 40, .inr (.inr (.inr (.inr tf))))), (aT, .inr (9, [.int bk, .ref aU, .int (zb us)]))] sz)) 0 0 (va_A [(aS 0, .inr (0, [.ref (aS 1), .int (nI tc), .ref (aB 0), .ref (aN 0), .ref (aP 0), .ref (aE 0), .ref (aI 0)])), (aS 1, .inl (cT, 40, .inr (.inr (.inr (.inr tf))))), (aT, .inr (9, [.int bk, .ref aU, .int (zb us)]))] sz) := by
  refine Met.ofW (cc := b_SB_appendThing) (maxL := 2) (ret := (some .int)) (by decide) rfl ?_
  intro p e s m args below meth c s₁ Bd hml hv
  obtain ⟨rfl, hsz, hP, hK, hD0⟩ := hv
  have hx := Bd.exec
  have hb := Bd.bytes
  have hr := Bd.returns
  have hts : ∀ w ∈ lw_g, w.before _ s = true := fun w h => atoms_spec (ws := wsA y_SB_appendThing b_SB_appendThing 2 (some .int)) Bd.pre w (List.mem_cons_of_mem _ h)
  have hown : s.vm.findClass R_SB = some m.cls := findClass_of_methodNamed Bd.named
  have hlocks := Bd.notSynchronized
  obtain ⟨hD, hA, hS⟩ := z_start hsz hD0
  generalize va_A [(aS 0, .inr (0, [.ref (aS 1), .int (nI tc), .ref (aB 0), .ref (aN 0), .ref (aP 0), .ref (aE 0), .ref (aI 0)])), (aS 1, .inl (cT, 40, .inr (.inr (.inr (.inr tf))))), (aT, .inr (9, [.int bk, .ref aU, .int (zb us)]))] sz = A at hD hA hS ⊢
  have hl := lv_entry ([.ref (aS 0), .ref aT]) (n := 2) (Nat.le_of_ble_eq_true rfl)
  rw [lg_entry_eq]
  generalize (lg_sl ([.ref (aS 0), .ref aT]) ++ List.replicate (2 - (lg_sl ([.ref (aS 0), .ref aT])).length) Slot.unset).toArray = ls at hl ⊢
  have hl : lv_has ls 2 [(0, .ref (aS 0)), (1, .ref aT)] := hl
  have hP : va_P D classes [(aS 0, .inr (0, [.ref (aS 1), .int (nI tc), .ref (aB 0), .ref (aN 0), .ref (aP 0), .ref (aE 0), .ref (aI 0)])), (aS 1, .inl (cT, 40, .inr (.inr (.inr (.inr tf))))), (aT, .inr (9, [.int bk, .ref aU, .int (zb us)]))] s.heap := hP
  refine lv_aload_n hx hb d_SB_appendThing_0 rfl (lv_at hl 0 rfl) ?_
  refine va_get (D := D) (ci := 0) (v := .ref (aS 1)) (C := R_SB) (T := F_SB) (N := 7) hx hb hts i_SB hown hK hP 0 rfl rfl 0 (by decide) (hts _ kf_SB_11) (fun _ h9 => h9) rfl d_SB_appendThing_1 ?_
  refine lv_aload_n hx hb d_SB_appendThing_4 rfl (lv_at hl 0 rfl) ?_
  refine va_get (D := D) (ci := 0) (v := .int (nI tc)) (C := R_SB) (T := F_SB) (N := 7) hx hb hts i_SB hown hK hP 0 rfl rfl 1 (by decide) (hts _ kf_SB_15) (fun _ h9 => h9) rfl d_SB_appendThing_5 ?_
  refine lv_aload_n hx hb d_SB_appendThing_8 rfl (lv_at hl 1 rfl) ?_
  refine z_astq (j := tc) hx hb hK hP hD hS 1 3 2 9 rfl rfl rfl rfl (by omega) (by decide) d_SB_appendThing_9 (fun H locs hP hD hS => ?_)
  have hP : va_P D classes [(aS 0, .inr (0, [.ref (aS 1), .int (nI tc), .ref (aB 0), .ref (aN 0), .ref (aP 0), .ref (aE 0), .ref (aI 0)])), (aS 1, .inl (cT, 40, .inr (.inr (.inr (.inr (va_up tf tc (some aT))))))), (aT, .inr (9, [.int bk, .ref aU, .int (zb us)]))] H := hP
  have hD : va_D A [(aS 0, .inr (0, [.ref (aS 1), .int (nI tc), .ref (aB 0), .ref (aN 0), .ref (aP 0), .ref (aE 0), .ref (aI 0)])), (aS 1, .inl (cT, 40, .inr (.inr (.inr (.inr (va_up tf tc (some aT))))))), (aT, .inr (9, [.int bk, .ref aU, .int (zb us)]))] := hD
  refine lv_aload_n hx hb d_SB_appendThing_10 rfl (lv_at hl 0 rfl) ?_
  refine lv_dup hx hb d_SB_appendThing_11 rfl ?_
  refine va_get (D := D) (ci := 0) (v := .int (nI tc)) (C := R_SB) (T := F_SB) (N := 7) hx hb hts i_SB hown hK hP 0 rfl rfl 1 (by decide) (hts _ kf_SB_15) (fun _ h9 => h9) rfl d_SB_appendThing_12 ?_
  refine lv_dup_x1 hx hb d_SB_appendThing_15 rfl rfl ?_
  refine lv_iconst (v := nI 1) hx hb d_SB_appendThing_16 (by decide) ?_
  refine z_add hx hb d_SB_appendThing_17 ?_
  refine va_put (D := D) (ci := 0) (v := .int (nI (tc + 1))) (ty := .int) (C := R_SB) (T := F_SB) (N := 7) hx hb hts i_SB t_SB to_SB n_SB hown hK hP hD hS 0 rfl rfl 1 (by decide) (hts _ kf_SB_15) (fun _ h9 => h9) rfl (by decide +kernel) rfl rfl (Nat.le_of_ble_eq_true rfl) d_SB_appendThing_18 (fun H locs hP hD hS => ?_)
  have hP : va_P D classes [(aS 0, .inr (0, [.ref (aS 1), .int (nI (tc + 1)), .ref (aB 0), .ref (aN 0), .ref (aP 0), .ref (aE 0), .ref (aI 0)])), (aS 1, .inl (cT, 40, .inr (.inr (.inr (.inr (va_up tf tc (some aT))))))), (aT, .inr (9, [.int bk, .ref aU, .int (zb us)]))] H := hP
  have hD : va_D A [(aS 0, .inr (0, [.ref (aS 1), .int (nI (tc + 1)), .ref (aB 0), .ref (aN 0), .ref (aP 0), .ref (aE 0), .ref (aI 0)])), (aS 1, .inl (cT, 40, .inr (.inr (.inr (.inr (va_up tf tc (some aT))))))), (aT, .inr (9, [.int bk, .ref aU, .int (zb us)]))] := hD
  exact W.iret hx hb hr (fun t ht hW => ⟨rfl, ⟨by rw [ht]; exact hP, va_K.moved hW.alike hK, hD⟩, hS.F ht⟩) hS.2.2 d_SB_appendThing_21
