theorem and15 (x : Int32) : ∃ k, k < 16 ∧ x &&& nI 15 = nI k := by
  refine ⟨x.toBitVec.toNat % 16, Nat.mod_lt _ (by decide), ?_⟩
  apply Int32.toBitVec_inj.mp
  apply BitVec.eq_of_toNat_eq
  show (x.toBitVec &&& (nI 15).toBitVec).toNat = (BitVec.ofNat 32 (x.toBitVec.toNat % 16)).toNat
  have h : ((nI 15).toBitVec).toNat = 2 ^ 4 - 1 := by decide
  rw [BitVec.toNat_and, h, Nat.and_two_pow_sub_one_eq_mod, BitVec.toNat_ofNat]
  omega
theorem lp_cmp {L i : Nat} (hL : L ≤ 3073) (hi : i ≤ 4000) (h : ¬ (Int32.ofNat L - nI 6 < nI i)) : i + 6 ≤ L := by
  have e0 : (Int32.ofNat L).toInt = L := nI_toInt (by omega)
  rw [Int32.lt_iff_toInt_lt, nI_toInt (n := i) (by omega), Int32.toInt_sub, e0, nI_toInt (by decide)] at h
  simp only [Int.bmod] at h
  split at h <;> omega
set_option maxHeartbeats 4000000 in
/-- one turn of the law's loop -/
theorem law_step {p : Program} {l : Launch} {e : Env} {s : State} {m : MethodId} {below : List Frame} {meth : Method} {c : Code} {b L : Nat} {xs : Nat → Int32} {D : va_G} {cA cZ c2 cT cL : ClassId} {Q : State → Prop} (C : lawC p l s m c b L xs D cA cZ c2 cT cL) {i cs sl : Nat} {H : Heap} {locs : List Loc} {ls : Array Slot} (hi : i ≤ 4000) (hcs : cs + 10 ≤ 601024) (hsl : sl + 200 ≤ 7293000) (hS : va_S (lA s) s.heap H locs) (hI : lawI D cA cZ c2 cT cL s.heap.size H) (hl : lv_has ls 8 [(0, .ref b), (1, .ref s.heap.size), (2, .ref (s.heap.size + 69)), (3, .ref (s.heap.size + 97)), (4, .int (nI i))]) (kend : W p l e room_1 s m #[Value.ref b] below meth c H locs cs sl Q (F0 m 1227 ls [])) (kk : i + 6 ≤ L → ∀ (H1 : Heap) (locs1 : List Loc) (cs1 sl1 : Nat) (ls1 : Array Slot), cs1 ≤ cs + 10 → sl1 ≤ sl + 200 → va_S (lA s) s.heap H1 locs1 → lawI D cA cZ c2 cT cL s.heap.size H1 → lv_has ls1 8 [(0, .ref b), (1, .ref s.heap.size), (2, .ref (s.heap.size + 69)), (3, .ref (s.heap.size + 97)), (4, .int (nI (i + 6)))] → W p l e room_1 s m #[Value.ref b] below meth c H1 locs1 cs1 sl1 Q (F0 m 35 ls1 [])) : W p l e room_1 s m #[Value.ref b] below meth c H locs cs sl Q (F0 m 35 ls []) := by
  have C' := C
  obtain ⟨hx, hb, hml, hown, hts, hX, hbl, hL, hK, htl, hF1, hF2⟩ := C'
  have hbA : ¬ lA s b := fun h => by have h : s.heap.size ≤ b := h; omega
  refine lv_iload hx hb d_LA_law_35 (lv_at hl 4 rfl) ?_
  refine lv_aload_n hx hb d_LA_law_37 rfl (lv_at hl 0 rfl) ?_
  refine va_slen hx hb hX hbl hbA hS d_LA_law_38 ?_
  refine lv_bipush (v := nI 6) hx hb d_LA_law_39 (by decide) ?_
  refine lv_isub hx hb d_LA_law_41 ?_
  refine lv_icmp_gt (tgt := 1227) hx hb d_LA_law_42 (by decide) (fun _ => kend) (fun c_1 => ?_)
  have h6 : i + 6 ≤ L := lp_cmp hL hi c_1
  refine lv_aload_n hx hb d_LA_law_45 rfl (lv_at hl 0 rfl) ?_
  refine lv_iload hx hb d_LA_law_46 (lv_at hl 4 rfl) ?_
  refine va_sld hx hb hX hbl hbA hS (vp_in_nI (n := i) (by omega) (by omega)) d_LA_law_48 ?_
  refine lv_bipush (v := nI 15) hx hb d_LA_law_49 (by decide) ?_
  refine lv_iand hx hb d_LA_law_51 ?_
  obtain ⟨k, hk, ek⟩ := and15 (xs (nI i).toNatClampNeg)
  refine lv_toi (z := nI k) ek ?_
  have kk2 : ∀ (H1 : Heap) (locs1 : List Loc) (cs1 sl1 : Nat) (ls1 : Array Slot), cs1 ≤ cs + 10 → sl1 ≤ sl + 200 → va_S (lA s) s.heap H1 locs1 → lawI D cA cZ c2 cT cL s.heap.size H1 → lv_has ls1 8 [(0, .ref b), (1, .ref s.heap.size), (2, .ref (s.heap.size + 69)), (3, .ref (s.heap.size + 97)), (4, .int (nI i))] → W p l e room_1 s m #[Value.ref b] below meth c H1 locs1 cs1 sl1 Q (F0 m 1221 ls1 []) := fun H1 locs1 cs1 sl1 ls1 a1 a2 a3 a4 a5 => by
    refine lv_iinc (v := nI (i + 6)) hx hb d_LA_law_1221 a5 (k := 4) rfl (nI_add i 6) (by decide) rfl (fun ls2 hl2 => ?_)
    refine lv_goto (tgt := 35) hx hb d_LA_law_1224 (by decide) ?_
    exact kk h6 H1 locs1 cs1 sl1 ls2 a1 a2 a3 a4 (lv_sub hl2 [1, 2, 3, 4, 0] rfl)
  rcases (show k = 0 ∨ k = 1 ∨ k = 2 ∨ k = 3 ∨ k = 4 ∨ k = 5 ∨ k = 6 ∨ k = 7 ∨ k = 8 ∨ k = 9 ∨ k = 10 ∨ k = 11 ∨ k = 12 ∨ k = 13 ∨ k = 14 ∨ k = 15 by omega) with rfl | rfl | rfl | rfl | rfl | rfl | rfl | rfl | rfl | rfl | rfl | rfl | rfl | rfl | rfl | rfl
  · exact lv_tableIn (off := 72) (tgt := 124) hx hb d_LA_law_52 (by decide) (by decide) rfl (by decide) (lc_block C h6 hcs hsl hS hI hl kk2)
  · exact lv_tableIn (off := 232) (tgt := 284) hx hb d_LA_law_52 (by decide) (by decide) rfl (by decide) (lc_fix C h6 hcs hsl hS hI hl kk2)
  · exact lv_tableIn (off := 383) (tgt := 435) hx hb d_LA_law_52 (by decide) (by decide) rfl (by decide) (lc_net C h6 hcs hsl hS hI hl kk2)
  · exact lv_tableIn (off := 451) (tgt := 503) hx hb d_LA_law_52 (by decide) (by decide) rfl (by decide) (lc_slice C h6 hcs hsl hS hI hl kk2)
  · exact lv_tableIn (off := 547) (tgt := 599) hx hb d_LA_law_52 (by decide) (by decide) rfl (by decide) (lc_shapes C h6 hcs hsl hS hI hl kk2)
  · exact lv_tableIn (off := 603) (tgt := 655) hx hb d_LA_law_52 (by decide) (by decide) rfl (by decide) (lc_shape C h6 hcs hsl hS hI hl kk2)
  · exact lv_tableIn (off := 682) (tgt := 734) hx hb d_LA_law_52 (by decide) (by decide) rfl (by decide) (lc_least C h6 hcs hsl hS hI hl kk2)
  · exact lv_tableIn (off := 737) (tgt := 789) hx hb d_LA_law_52 (by decide) (by decide) rfl (by decide) (lc_pair C h6 hcs hsl hS hI hl kk2)
  · exact lv_tableIn (off := 793) (tgt := 845) hx hb d_LA_law_52 (by decide) (by decide) rfl (by decide) (lc_at C h6 hcs hsl hS hI hl kk2)
  · exact lv_tableIn (off := 860) (tgt := 912) hx hb d_LA_law_52 (by decide) (by decide) rfl (by decide) (lc_turned C h6 hcs hsl hS hI hl kk2)
  · exact lv_tableIn (off := 923) (tgt := 975) hx hb d_LA_law_52 (by decide) (by decide) rfl (by decide) (lc_overlap C h6 hcs hsl hS hI hl kk2)
  · exact lv_tableIn (off := 936) (tgt := 988) hx hb d_LA_law_52 (by decide) (by decide) rfl (by decide) (lc_wire C h6 hcs hsl hS hI hl kk2)
  · exact lv_tableIn (off := 950) (tgt := 1002) hx hb d_LA_law_52 (by decide) (by decide) rfl (by decide) (lc_pin C h6 hcs hsl hS hI hl kk2)
  · exact lv_tableIn (off := 1030) (tgt := 1082) hx hb d_LA_law_52 (by decide) (by decide) rfl (by decide) (lc_outline C h6 hcs hsl hS hI hl kk2)
  · exact lv_tableOut (tgt := 1221) hx hb d_LA_law_52 (Or.inr (by decide)) (by decide) (kk2 H locs cs sl ls (by omega) (by omega) hS hI hl)
  · exact lv_tableOut (tgt := 1221) hx hb d_LA_law_52 (Or.inr (by decide)) (by decide) (kk2 H locs cs sl ls (by omega) (by omega) hS hI hl)
/-- THE LAW'S LOOP -/
theorem law_loop {p : Program} {l : Launch} {e : Env} {s : State} {m : MethodId} {below : List Frame} {meth : Method} {c : Code} {b L : Nat} {xs : Nat → Int32} {D : va_G} {cA cZ c2 cT cL : ClassId} {Q : State → Prop} (C : lawC p l s m c b L xs D cA cZ c2 cT cL) (kend : ∀ (H : Heap) (locs : List Loc) (cs sl : Nat) (ls : Array Slot), cs ≤ 601024 → sl ≤ 7293000 → va_S (lA s) s.heap H locs → W p l e room_1 s m #[Value.ref b] below meth c H locs cs sl Q (F0 m 1227 ls [])) :
    ∀ (n t : Nat), L ≤ 6 * t + 6 * n → 6 * t ≤ L → ∀ (H : Heap) (locs : List Loc) (cs sl : Nat) (ls : Array Slot), cs ≤ 98 + 10 * t → sl ≤ 16000 + 200 * t → va_S (lA s) s.heap H locs → lawI D cA cZ c2 cT cL s.heap.size H → lv_has ls 8 [(0, .ref b), (1, .ref s.heap.size), (2, .ref (s.heap.size + 69)), (3, .ref (s.heap.size + 97)), (4, .int (nI (1 + 6 * t)))] → W p l e room_1 s m #[Value.ref b] below meth c H locs cs sl Q (F0 m 35 ls []) := by
  have hL : L ≤ 3073 := C.2.2.2.2.2.2.2.1
  intro n
  induction n with
  | zero =>
    intro t h1 h2 H locs cs sl ls h3 h4 hS hI hl
    refine law_step C (i := 1 + 6 * t) (by omega) (by omega) (by omega) hS hI hl (kend H locs cs sl ls (by omega) (by omega) hS) (fun h6 => absurd h6 (by omega))
  | succ n ih =>
    intro t h1 h2 H locs cs sl ls h3 h4 hS hI hl
    refine law_step C (i := 1 + 6 * t) (by omega) (by omega) (by omega) hS hI hl (kend H locs cs sl ls (by omega) (by omega) hS) (fun h6 H1 locs1 cs1 sl1 ls1 a1 a2 a3 a4 a5 => ?_)
    exact ih (t + 1) (by omega) (by omega) H1 locs1 cs1 sl1 ls1 (by omega) (by omega) a3 a4 (by rw [show 1 + 6 * (t + 1) = 1 + 6 * t + 6 by omega]; exact a5)
