theorem d_OR_exchange_0 : decode b_OR_exchange 0 = .ok (.aload_n 0, 1) := by decide +kernel
theorem d_OR_exchange_1 : decode b_OR_exchange 1 = .ok (.getfield 9, 3) := by decide +kernel
theorem d_OR_exchange_4 : decode b_OR_exchange 4 = .ok (.iload_n 1, 1) := by decide +kernel
theorem d_OR_exchange_5 : decode b_OR_exchange 5 = .ok (.iaload, 1) := by decide +kernel
theorem d_OR_exchange_6 : decode b_OR_exchange 6 = .ok (.istore_n 3, 1) := by decide +kernel
theorem d_OR_exchange_7 : decode b_OR_exchange 7 = .ok (.aload_n 0, 1) := by decide +kernel
theorem d_OR_exchange_8 : decode b_OR_exchange 8 = .ok (.getfield 9, 3) := by decide +kernel
theorem d_OR_exchange_11 : decode b_OR_exchange 11 = .ok (.iload_n 2, 1) := by decide +kernel
theorem d_OR_exchange_12 : decode b_OR_exchange 12 = .ok (.iaload, 1) := by decide +kernel
theorem d_OR_exchange_13 : decode b_OR_exchange 13 = .ok (.istore 4, 2) := by decide +kernel
theorem d_OR_exchange_15 : decode b_OR_exchange 15 = .ok (.aload_n 0, 1) := by decide +kernel
theorem d_OR_exchange_16 : decode b_OR_exchange 16 = .ok (.getfield 9, 3) := by decide +kernel
theorem d_OR_exchange_19 : decode b_OR_exchange 19 = .ok (.iload_n 1, 1) := by decide +kernel
theorem d_OR_exchange_20 : decode b_OR_exchange 20 = .ok (.iload 4, 2) := by decide +kernel
theorem d_OR_exchange_22 : decode b_OR_exchange 22 = .ok (.iastore, 1) := by decide +kernel
theorem d_OR_exchange_23 : decode b_OR_exchange 23 = .ok (.aload_n 0, 1) := by decide +kernel
theorem d_OR_exchange_24 : decode b_OR_exchange 24 = .ok (.getfield 15, 3) := by decide +kernel
theorem d_OR_exchange_27 : decode b_OR_exchange 27 = .ok (.iload 4, 2) := by decide +kernel
theorem d_OR_exchange_29 : decode b_OR_exchange 29 = .ok (.iload_n 1, 1) := by decide +kernel
theorem d_OR_exchange_30 : decode b_OR_exchange 30 = .ok (.iastore, 1) := by decide +kernel
theorem d_OR_exchange_31 : decode b_OR_exchange 31 = .ok (.aload_n 0, 1) := by decide +kernel
theorem d_OR_exchange_32 : decode b_OR_exchange 32 = .ok (.getfield 9, 3) := by decide +kernel
theorem d_OR_exchange_35 : decode b_OR_exchange 35 = .ok (.iload_n 2, 1) := by decide +kernel
theorem d_OR_exchange_36 : decode b_OR_exchange 36 = .ok (.iload_n 3, 1) := by decide +kernel
theorem d_OR_exchange_37 : decode b_OR_exchange 37 = .ok (.iastore, 1) := by decide +kernel
theorem d_OR_exchange_38 : decode b_OR_exchange 38 = .ok (.aload_n 0, 1) := by decide +kernel
theorem d_OR_exchange_39 : decode b_OR_exchange 39 = .ok (.getfield 15, 3) := by decide +kernel
theorem d_OR_exchange_42 : decode b_OR_exchange 42 = .ok (.iload_n 3, 1) := by decide +kernel
theorem d_OR_exchange_43 : decode b_OR_exchange 43 = .ok (.iload_n 2, 1) := by decide +kernel
theorem d_OR_exchange_44 : decode b_OR_exchange 44 = .ok (.iastore, 1) := by decide +kernel
theorem d_OR_exchange_45 : decode b_OR_exchange 45 = .ok (.return_, 1) := by decide +kernel
theorem d_OR_append_0 : decode b_OR_append 0 = .ok (.aload_n 0, 1) := by decide +kernel
theorem d_OR_append_1 : decode b_OR_append 1 = .ok (.getfield 9, 3) := by decide +kernel
theorem d_OR_append_4 : decode b_OR_append 4 = .ok (.aload_n 0, 1) := by decide +kernel
theorem d_OR_append_5 : decode b_OR_append 5 = .ok (.getfield 18, 3) := by decide +kernel
theorem d_OR_append_8 : decode b_OR_append 8 = .ok (.iload_n 1, 1) := by decide +kernel
theorem d_OR_append_9 : decode b_OR_append 9 = .ok (.iastore, 1) := by decide +kernel
theorem d_OR_append_10 : decode b_OR_append 10 = .ok (.aload_n 0, 1) := by decide +kernel
theorem d_OR_append_11 : decode b_OR_append 11 = .ok (.getfield 15, 3) := by decide +kernel
theorem d_OR_append_14 : decode b_OR_append 14 = .ok (.iload_n 1, 1) := by decide +kernel
theorem d_OR_append_15 : decode b_OR_append 15 = .ok (.aload_n 0, 1) := by decide +kernel
theorem d_OR_append_16 : decode b_OR_append 16 = .ok (.getfield 18, 3) := by decide +kernel
theorem d_OR_append_19 : decode b_OR_append 19 = .ok (.iastore, 1) := by decide +kernel
theorem d_OR_append_20 : decode b_OR_append 20 = .ok (.aload_n 0, 1) := by decide +kernel
theorem d_OR_append_21 : decode b_OR_append 21 = .ok (.dup, 1) := by decide +kernel
theorem d_OR_append_22 : decode b_OR_append 22 = .ok (.getfield 18, 3) := by decide +kernel
theorem d_OR_append_25 : decode b_OR_append 25 = .ok (.iconst 1, 1) := by decide +kernel
theorem d_OR_append_26 : decode b_OR_append 26 = .ok (.iadd, 1) := by decide +kernel
theorem d_OR_append_27 : decode b_OR_append 27 = .ok (.putfield 18, 3) := by decide +kernel
theorem d_OR_append_30 : decode b_OR_append 30 = .ok (.return_, 1) := by decide +kernel
set_option maxHeartbeats 4000000 in
set_option maxRecDepth 100000 in
/-- Order.exchange(p, q) -/
theorem c_OR_exchange (l : Launch) (D : va_G) (sz : Nat) (o a b : Nat) (cA : ClassId) (ba po : Nat → Nat) (cnt p0 q0 : Nat) (h1 : p0 < 16) (h2 : q0 < 16) (h3 : ba p0 < 16) (h4 : ba q0 < 16) : Met l y_OR_exchange (wsA y_OR_exchange b_OR_exchange 5 none) ({ frames := 0, cells := 0, slots := 0, locals := 0 } : Room) (zP D [(cA, .int)] [(o, .inr (4, [.ref a, .ref b, .int (nI cnt)])), (a, .inl (cA, 16, .inl (fun k => nI (ba k)))), (b, .inl (cA, 16, .inl (fun k => nI (po k))))] [.ref o, .int (nI p0), .int (nI q0)] sz) (zQ none (zB D [(cA, .int)] (va_A [(o, .inr (4, [.ref a, .ref b, .int (nI cnt)])), (a, .inl (cA, 16, .inl (fun k => nI (ba k)))), (b, .inl (cA, 16, .inl (fun k => nI (po k))))] sz) [(o, .inr (4, [.ref a, .ref b, .int (nI cnt)])), (a, .inl (cA, 16, .inl (fun k => nI ((va_up (va_up ba p0 (ba q0)) q0 (ba p0)) k)))), (b, .inl (cA, 16, .inl (fun k => nI ((va_up (va_up po (ba q0) p0) (ba p0) q0) k))))]) (va_A [(o, .inr (4, [.ref a, .ref b, .int (nI cnt)])), (a, .inl (cA, 16, .inl (fun k => nI (ba k)))), (b, .inl (cA, 16, .inl (fun k => nI (po k))))] sz)) 0 0 (va_A [(o, .inr (4, [.ref a, .ref b, .int (nI cnt)])), (a, .inl (cA, 16, .inl (fun k => nI (ba k)))), (b, .inl (cA, 16, .inl (fun k => nI (po k))))] sz) := by
  refine Met.ofW (cc := b_OR_exchange) (maxL := 5) (ret := none) (by decide) rfl ?_
  intro p e s m args below meth c s₁ B hml hv
  obtain ⟨rfl, hsz, hP, hK, hD0⟩ := hv
  have hx := B.exec
  have hb := B.bytes
  have hr := B.returns
  have hts : ∀ w ∈ lw_g, w.before _ s = true := fun w h => atoms_spec (ws := wsA y_OR_exchange b_OR_exchange 5 none) B.pre w (List.mem_cons_of_mem _ h)
  have hown : s.vm.findClass R_OR = some m.cls := findClass_of_methodNamed B.named
  have hlocks := B.notSynchronized
  obtain ⟨hD, hA, hS⟩ := z_start hsz hD0
  generalize va_A [(o, .inr (4, [.ref a, .ref b, .int (nI cnt)])), (a, .inl (cA, 16, .inl (fun k => nI (ba k)))), (b, .inl (cA, 16, .inl (fun k => nI (po k))))] sz = A at hD hA hS ⊢
  have hl := lv_entry ([.ref o, .int (nI p0), .int (nI q0)]) (n := 5) (Nat.le_of_ble_eq_true rfl)
  rw [lg_entry_eq]
  generalize (lg_sl ([.ref o, .int (nI p0), .int (nI q0)]) ++ List.replicate (5 - (lg_sl ([.ref o, .int (nI p0), .int (nI q0)])).length) Slot.unset).toArray = ls at hl ⊢
  have hl : lv_has ls 5 [(0, .ref o), (1, .int (nI p0)), (2, .int (nI q0))] := hl
  have hP : va_P D classes [(o, .inr (4, [.ref a, .ref b, .int (nI cnt)])), (a, .inl (cA, 16, .inl (fun k => nI (ba k)))), (b, .inl (cA, 16, .inl (fun k => nI (po k))))] s.heap := hP
  refine lv_aload_n hx hb d_OR_exchange_0 rfl (lv_at hl 0 rfl) ?_
  refine va_get (D := D) (ci := 4) (v := .ref a) (C := R_OR) (T := F_OR) (N := 3) hx hb hts i_OR hown hK hP 0 rfl rfl 0 (by decide) (hts _ kf_OR_9) (fun _ h9 => h9) rfl d_OR_exchange_1 ?_
  refine lv_iload_n hx hb d_OR_exchange_4 rfl (lv_at hl 1 rfl) ?_
  refine z_ild (j := p0) hx hb hK hP 1 0 rfl rfl (by omega) (by decide) d_OR_exchange_5 ?_
  refine lv_istore_n (lv' := [(3, .int (nI (ba p0))), (0, .ref o), (1, .int (nI p0)), (2, .int (nI q0))]) hx hb d_OR_exchange_6 rfl hl (by decide) rfl (fun ls hl => ?_)
  refine lv_aload_n hx hb d_OR_exchange_7 rfl (lv_at hl 1 rfl) ?_
  refine va_get (D := D) (ci := 4) (v := .ref a) (C := R_OR) (T := F_OR) (N := 3) hx hb hts i_OR hown hK hP 0 rfl rfl 0 (by decide) (hts _ kf_OR_9) (fun _ h9 => h9) rfl d_OR_exchange_8 ?_
  refine lv_iload_n hx hb d_OR_exchange_11 rfl (lv_at hl 3 rfl) ?_
  refine z_ild (j := q0) hx hb hK hP 1 0 rfl rfl (by omega) (by decide) d_OR_exchange_12 ?_
  refine lv_istore (lv' := [(4, .int (nI (ba q0))), (3, .int (nI (ba p0))), (0, .ref o), (1, .int (nI p0)), (2, .int (nI q0))]) hx hb d_OR_exchange_13 hl (by decide) rfl (fun ls hl => ?_)
  refine lv_aload_n hx hb d_OR_exchange_15 rfl (lv_at hl 2 rfl) ?_
  refine va_get (D := D) (ci := 4) (v := .ref a) (C := R_OR) (T := F_OR) (N := 3) hx hb hts i_OR hown hK hP 0 rfl rfl 0 (by decide) (hts _ kf_OR_9) (fun _ h9 => h9) rfl d_OR_exchange_16 ?_
  refine lv_iload_n hx hb d_OR_exchange_19 rfl (lv_at hl 3 rfl) ?_
  refine lv_iload hx hb d_OR_exchange_20 (lv_at hl 0 rfl) ?_
  refine z_ist (j := p0) (v := (ba q0)) hx hb hK hP hD hS 1 0 rfl rfl (by omega) (by decide) d_OR_exchange_22 (fun H locs hP hD hS => ?_)
  have hP : va_P D classes [(o, .inr (4, [.ref a, .ref b, .int (nI cnt)])), (a, .inl (cA, 16, .inl (fun k => nI ((va_up ba p0 (ba q0)) k)))), (b, .inl (cA, 16, .inl (fun k => nI (po k))))] H := hP
  have hD : va_D A [(o, .inr (4, [.ref a, .ref b, .int (nI cnt)])), (a, .inl (cA, 16, .inl (fun k => nI ((va_up ba p0 (ba q0)) k)))), (b, .inl (cA, 16, .inl (fun k => nI (po k))))] := hD
  refine lv_aload_n hx hb d_OR_exchange_23 rfl (lv_at hl 2 rfl) ?_
  refine va_get (D := D) (ci := 4) (v := .ref b) (C := R_OR) (T := F_OR) (N := 3) hx hb hts i_OR hown hK hP 0 rfl rfl 1 (by decide) (hts _ kf_OR_15) (fun _ h9 => h9) rfl d_OR_exchange_24 ?_
  refine lv_iload hx hb d_OR_exchange_27 (lv_at hl 0 rfl) ?_
  refine lv_iload_n hx hb d_OR_exchange_29 rfl (lv_at hl 3 rfl) ?_
  refine z_ist (j := (ba q0)) (v := p0) hx hb hK hP hD hS 2 0 rfl rfl (by omega) (by decide) d_OR_exchange_30 (fun H locs hP hD hS => ?_)
  have hP : va_P D classes [(o, .inr (4, [.ref a, .ref b, .int (nI cnt)])), (a, .inl (cA, 16, .inl (fun k => nI ((va_up ba p0 (ba q0)) k)))), (b, .inl (cA, 16, .inl (fun k => nI ((va_up po (ba q0) p0) k))))] H := hP
  have hD : va_D A [(o, .inr (4, [.ref a, .ref b, .int (nI cnt)])), (a, .inl (cA, 16, .inl (fun k => nI ((va_up ba p0 (ba q0)) k)))), (b, .inl (cA, 16, .inl (fun k => nI ((va_up po (ba q0) p0) k))))] := hD
  refine lv_aload_n hx hb d_OR_exchange_31 rfl (lv_at hl 2 rfl) ?_
  refine va_get (D := D) (ci := 4) (v := .ref a) (C := R_OR) (T := F_OR) (N := 3) hx hb hts i_OR hown hK hP 0 rfl rfl 0 (by decide) (hts _ kf_OR_9) (fun _ h9 => h9) rfl d_OR_exchange_32 ?_
  refine lv_iload_n hx hb d_OR_exchange_35 rfl (lv_at hl 4 rfl) ?_
  refine lv_iload_n hx hb d_OR_exchange_36 rfl (lv_at hl 1 rfl) ?_
  refine z_ist (j := q0) (v := (ba p0)) hx hb hK hP hD hS 1 0 rfl rfl (by omega) (by decide) d_OR_exchange_37 (fun H locs hP hD hS => ?_)
  have hP : va_P D classes [(o, .inr (4, [.ref a, .ref b, .int (nI cnt)])), (a, .inl (cA, 16, .inl (fun k => nI ((va_up (va_up ba p0 (ba q0)) q0 (ba p0)) k)))), (b, .inl (cA, 16, .inl (fun k => nI ((va_up po (ba q0) p0) k))))] H := hP
  have hD : va_D A [(o, .inr (4, [.ref a, .ref b, .int (nI cnt)])), (a, .inl (cA, 16, .inl (fun k => nI ((va_up (va_up ba p0 (ba q0)) q0 (ba p0)) k)))), (b, .inl (cA, 16, .inl (fun k => nI ((va_up po (ba q0) p0) k))))] := hD
  refine lv_aload_n hx hb d_OR_exchange_38 rfl (lv_at hl 2 rfl) ?_
  refine va_get (D := D) (ci := 4) (v := .ref b) (C := R_OR) (T := F_OR) (N := 3) hx hb hts i_OR hown hK hP 0 rfl rfl 1 (by decide) (hts _ kf_OR_15) (fun _ h9 => h9) rfl d_OR_exchange_39 ?_
  refine lv_iload_n hx hb d_OR_exchange_42 rfl (lv_at hl 1 rfl) ?_
  refine lv_iload_n hx hb d_OR_exchange_43 rfl (lv_at hl 4 rfl) ?_
  refine z_ist (j := (ba p0)) (v := q0) hx hb hK hP hD hS 2 0 rfl rfl (by omega) (by decide) d_OR_exchange_44 (fun H locs hP hD hS => ?_)
  have hP : va_P D classes [(o, .inr (4, [.ref a, .ref b, .int (nI cnt)])), (a, .inl (cA, 16, .inl (fun k => nI ((va_up (va_up ba p0 (ba q0)) q0 (ba p0)) k)))), (b, .inl (cA, 16, .inl (fun k => nI ((va_up (va_up po (ba q0) p0) (ba p0) q0) k))))] H := hP
  have hD : va_D A [(o, .inr (4, [.ref a, .ref b, .int (nI cnt)])), (a, .inl (cA, 16, .inl (fun k => nI ((va_up (va_up ba p0 (ba q0)) q0 (ba p0)) k)))), (b, .inl (cA, 16, .inl (fun k => nI ((va_up (va_up po (ba q0) p0) (ba p0) q0) k))))] := hD
  exact W.vret hx hb hr (fun t ht hW => ⟨rfl, ⟨by rw [ht]; exact hP, va_K.moved hW.alike hK, hD⟩, hS.F ht⟩) hS.2.2 d_OR_exchange_45
set_option maxHeartbeats 4000000 in
set_option maxRecDepth 100000 in
/-- Order.append(block) -/
theorem c_OR_append (l : Launch) (D : va_G) (sz : Nat) (o a b : Nat) (cA : ClassId) (ba po : Nat → Nat) (cnt bk : Nat) (h1 : cnt < 16) (h2 : bk < 16) : Met l y_OR_append (wsA y_OR_append b_OR_append 2 none) ({ frames := 0, cells := 0, slots := 0, locals := 0 } : Room) (zP D [(cA, .int)] [(o, .inr (4, [.ref a, .ref b, .int (nI cnt)])), (a, .inl (cA, 16, .inl (fun k => nI (ba k)))), (b, .inl (cA, 16, .inl (fun k => nI (po k))))] [.ref o, .int (nI bk)] sz) (zQ none (zB D [(cA, .int)] (va_A [(o, .inr (4, [.ref a, .ref b, .int (nI cnt)])), (a, .inl (cA, 16, .inl (fun k => nI (ba k)))), (b, .inl (cA, 16, .inl (fun k => nI (po k))))] sz) [(o, .inr (4, [.ref a, .ref b, .int (nI (cnt + 1))])), (a, .inl (cA, 16, .inl (fun k => nI ((va_up ba cnt bk) k)))), (b, .inl (cA, 16, .inl (fun k => nI ((va_up po bk cnt) k))))]) (va_A [(o, .inr (4, [.ref a, .ref b, .int (nI cnt)])), (a, .inl (cA, 16, .inl (fun k => nI (ba k)))), (b, .inl (cA, 16, .inl (fun k => nI (po k))))] sz)) 0 0 (va_A [(o, .inr (4, [.ref a, .ref b, .int (nI cnt)])), (a, .inl (cA, 16, .inl (fun k => nI (ba k)))), (b, .inl (cA, 16, .inl (fun k => nI (po k))))] sz) := by
  refine Met.ofW (cc := b_OR_append) (maxL := 2) (ret := none) (by decide) rfl ?_
  intro p e s m args below meth c s₁ B hml hv
  obtain ⟨rfl, hsz, hP, hK, hD0⟩ := hv
  have hx := B.exec
  have hb := B.bytes
  have hr := B.returns
  have hts : ∀ w ∈ lw_g, w.before _ s = true := fun w h => atoms_spec (ws := wsA y_OR_append b_OR_append 2 none) B.pre w (List.mem_cons_of_mem _ h)
  have hown : s.vm.findClass R_OR = some m.cls := findClass_of_methodNamed B.named
  have hlocks := B.notSynchronized
  obtain ⟨hD, hA, hS⟩ := z_start hsz hD0
  generalize va_A [(o, .inr (4, [.ref a, .ref b, .int (nI cnt)])), (a, .inl (cA, 16, .inl (fun k => nI (ba k)))), (b, .inl (cA, 16, .inl (fun k => nI (po k))))] sz = A at hD hA hS ⊢
  have hl := lv_entry ([.ref o, .int (nI bk)]) (n := 2) (Nat.le_of_ble_eq_true rfl)
  rw [lg_entry_eq]
  generalize (lg_sl ([.ref o, .int (nI bk)]) ++ List.replicate (2 - (lg_sl ([.ref o, .int (nI bk)])).length) Slot.unset).toArray = ls at hl ⊢
  have hl : lv_has ls 2 [(0, .ref o), (1, .int (nI bk))] := hl
  have hP : va_P D classes [(o, .inr (4, [.ref a, .ref b, .int (nI cnt)])), (a, .inl (cA, 16, .inl (fun k => nI (ba k)))), (b, .inl (cA, 16, .inl (fun k => nI (po k))))] s.heap := hP
  refine lv_aload_n hx hb d_OR_append_0 rfl (lv_at hl 0 rfl) ?_
  refine va_get (D := D) (ci := 4) (v := .ref a) (C := R_OR) (T := F_OR) (N := 3) hx hb hts i_OR hown hK hP 0 rfl rfl 0 (by decide) (hts _ kf_OR_9) (fun _ h9 => h9) rfl d_OR_append_1 ?_
  refine lv_aload_n hx hb d_OR_append_4 rfl (lv_at hl 0 rfl) ?_
  refine va_get (D := D) (ci := 4) (v := .int (nI cnt)) (C := R_OR) (T := F_OR) (N := 3) hx hb hts i_OR hown hK hP 0 rfl rfl 2 (by decide) (hts _ kf_OR_18) (fun _ h9 => h9) rfl d_OR_append_5 ?_
  refine lv_iload_n hx hb d_OR_append_8 rfl (lv_at hl 1 rfl) ?_
  refine z_ist (j := cnt) (v := bk) hx hb hK hP hD hS 1 0 rfl rfl (by omega) (by decide) d_OR_append_9 (fun H locs hP hD hS => ?_)
  have hP : va_P D classes [(o, .inr (4, [.ref a, .ref b, .int (nI cnt)])), (a, .inl (cA, 16, .inl (fun k => nI ((va_up ba cnt bk) k)))), (b, .inl (cA, 16, .inl (fun k => nI (po k))))] H := hP
  have hD : va_D A [(o, .inr (4, [.ref a, .ref b, .int (nI cnt)])), (a, .inl (cA, 16, .inl (fun k => nI ((va_up ba cnt bk) k)))), (b, .inl (cA, 16, .inl (fun k => nI (po k))))] := hD
  refine lv_aload_n hx hb d_OR_append_10 rfl (lv_at hl 0 rfl) ?_
  refine va_get (D := D) (ci := 4) (v := .ref b) (C := R_OR) (T := F_OR) (N := 3) hx hb hts i_OR hown hK hP 0 rfl rfl 1 (by decide) (hts _ kf_OR_15) (fun _ h9 => h9) rfl d_OR_append_11 ?_
  refine lv_iload_n hx hb d_OR_append_14 rfl (lv_at hl 1 rfl) ?_
  refine lv_aload_n hx hb d_OR_append_15 rfl (lv_at hl 0 rfl) ?_
  refine va_get (D := D) (ci := 4) (v := .int (nI cnt)) (C := R_OR) (T := F_OR) (N := 3) hx hb hts i_OR hown hK hP 0 rfl rfl 2 (by decide) (hts _ kf_OR_18) (fun _ h9 => h9) rfl d_OR_append_16 ?_
  refine z_ist (j := bk) (v := cnt) hx hb hK hP hD hS 2 0 rfl rfl (by omega) (by decide) d_OR_append_19 (fun H locs hP hD hS => ?_)
  have hP : va_P D classes [(o, .inr (4, [.ref a, .ref b, .int (nI cnt)])), (a, .inl (cA, 16, .inl (fun k => nI ((va_up ba cnt bk) k)))), (b, .inl (cA, 16, .inl (fun k => nI ((va_up po bk cnt) k))))] H := hP
  have hD : va_D A [(o, .inr (4, [.ref a, .ref b, .int (nI cnt)])), (a, .inl (cA, 16, .inl (fun k => nI ((va_up ba cnt bk) k)))), (b, .inl (cA, 16, .inl (fun k => nI ((va_up po bk cnt) k))))] := hD
  refine lv_aload_n hx hb d_OR_append_20 rfl (lv_at hl 0 rfl) ?_
  refine lv_dup hx hb d_OR_append_21 rfl ?_
  refine va_get (D := D) (ci := 4) (v := .int (nI cnt)) (C := R_OR) (T := F_OR) (N := 3) hx hb hts i_OR hown hK hP 0 rfl rfl 2 (by decide) (hts _ kf_OR_18) (fun _ h9 => h9) rfl d_OR_append_22 ?_
  refine lv_iconst (v := nI 1) hx hb d_OR_append_25 (by decide) ?_
  refine z_add hx hb d_OR_append_26 ?_
  refine va_put (D := D) (ci := 4) (v := .int (nI (cnt + 1))) (ty := .int) (C := R_OR) (T := F_OR) (N := 3) hx hb hts i_OR t_OR to_OR n_OR hown hK hP hD hS 0 rfl rfl 2 (by decide) (hts _ kf_OR_18) (fun _ h9 => h9) rfl (by decide +kernel) rfl rfl (Nat.le_of_ble_eq_true rfl) d_OR_append_27 (fun H locs hP hD hS => ?_)
  have hP : va_P D classes [(o, .inr (4, [.ref a, .ref b, .int (nI (cnt + 1))])), (a, .inl (cA, 16, .inl (fun k => nI ((va_up ba cnt bk) k)))), (b, .inl (cA, 16, .inl (fun k => nI ((va_up po bk cnt) k))))] H := hP
  have hD : va_D A [(o, .inr (4, [.ref a, .ref b, .int (nI (cnt + 1))])), (a, .inl (cA, 16, .inl (fun k => nI ((va_up ba cnt bk) k)))), (b, .inl (cA, 16, .inl (fun k => nI ((va_up po bk cnt) k))))] := hD
  exact W.vret hx hb hr (fun t ht hW => ⟨rfl, ⟨by rw [ht]; exact hP, va_K.moved hW.alike hK, hD⟩, hS.F ht⟩) hS.2.2 d_OR_append_30
