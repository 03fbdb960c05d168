set_option maxHeartbeats 4000000 in
set_option maxRecDepth 100000 in
/-- shape -/
theorem lc_shape {p : Program} {l : Launch} {e : Env} {s : State} {m : MethodId} {below : List Frame} {meth : Method} {c : Code} {b L : Nat} {xs : Nat → Int32} {D : va_G} {cA cZ c2 cT cL : ClassId} {Q : State → Prop} (C : lawC p l s m c b L xs D cA cZ c2 cT cL) {i cs sl : Nat} {H : Heap} {locs : List Loc} {ls : Array Slot} (hi : i + 6 ≤ L) (hcs : cs + 10 ≤ 601024) (hsl : sl + 200 ≤ 7293000) (hS : va_S (lA s) s.heap H locs) (hI : lawI D cA cZ c2 cT cL s.heap.size H) (hl : lv_has ls 8 [(0, .ref b), (1, .ref s.heap.size), (2, .ref (s.heap.size + 69)), (3, .ref (s.heap.size + 97)), (4, .int (nI i))]) (kk : ∀ (H1 : Heap) (locs1 : List Loc) (cs1 sl1 : Nat) (ls1 : Array Slot), cs1 ≤ cs + 10 → sl1 ≤ sl + 200 → va_S (lA s) s.heap H1 locs1 → lawI D cA cZ c2 cT cL s.heap.size H1 → lv_has ls1 8 [(0, .ref b), (1, .ref s.heap.size), (2, .ref (s.heap.size + 69)), (3, .ref (s.heap.size + 97)), (4, .int (nI i))] → W p l e room_1 s m #[Value.ref b] below meth c H1 locs1 cs1 sl1 Q (F0 m 1221 ls1 [])) : W p l e room_1 s m #[Value.ref b] below meth c H locs cs sl Q (F0 m 655 ls []) := by
  obtain ⟨hx, hb, hml, hown, hts, hX, hbl, hL, hK, htl, hF1, hF2⟩ := C
  have hbA : ¬ lA s b := fun h => by have h : s.heap.size ≤ b := h; omega
  obtain ⟨tc, tf, B, P, Qp, N, ah, kw, z, nn, sd, cf, lf, cn, M, fo, bk, us, u, cap, wt, tB, ⟨h_kSB, h_kBL, h_kNE, h_kP, h_kSE, h_kQ, h_kDR, h_kPI, h_kMO, h_kOU⟩, hT, hO, hG, hR, hq⟩ := hI
  have h40 : tc ≤ 40 := hR.2.1
  have h17 : M.2.2.1 17 = B.2.2.2 := hG.2.2.1.1.2.1
  have h16 : B.2.2.2 ≤ 16 := hG.1.1.1
  have hT : thA D cA bk us u cap tB tc tf s.heap.size H := hT
  by_cases hv : xs (i + 1) < 0 ∨ nI tc ≤ xs (i + 1)
  · refine lv_aload_n hx hb d_LA_law_655 rfl (lv_at hl 1 rfl) ?_
    refine lv_aload_n hx hb d_LA_law_656 rfl (lv_at hl 0 rfl) ?_
    refine lv_iload hx hb d_LA_law_657 (lv_at hl 4 rfl) ?_
    refine lv_iconst (v := nI 1) hx hb d_LA_law_659 (by decide) ?_
    refine z_add hx hb d_LA_law_660 ?_
    refine va_sld hx hb hX hbl hbA hS (vp_in_nI (n := (i + 1)) (by omega) (by omega)) d_LA_law_661 ?_
    refine lv_toi (z := xs (i + 1)) (congrArg xs (nI_clamp (by omega))) ?_
    refine lv_aload_n hx hb d_LA_law_662 rfl (lv_at hl 0 rfl) ?_
    refine lv_iload hx hb d_LA_law_663 (lv_at hl 4 rfl) ?_
    refine lv_iconst (v := nI 2) hx hb d_LA_law_665 (by decide) ?_
    refine z_add hx hb d_LA_law_666 ?_
    refine va_sld hx hb hX hbl hbA hS (vp_in_nI (n := (i + 2)) (by omega) (by omega)) d_LA_law_667 ?_
    refine lv_toi (z := xs (i + 2)) (congrArg xs (nI_clamp (by omega))) ?_
    refine lv_aload_n hx hb d_LA_law_668 rfl (lv_at hl 0 rfl) ?_
    refine lv_iload hx hb d_LA_law_669 (lv_at hl 4 rfl) ?_
    refine lv_iconst (v := nI 3) hx hb d_LA_law_671 (by decide) ?_
    refine z_add hx hb d_LA_law_672 ?_
    refine va_sld hx hb hX hbl hbA hS (vp_in_nI (n := (i + 3)) (by omega) (by omega)) d_LA_law_673 ?_
    refine lv_toi (z := xs (i + 3)) (congrArg xs (nI_clamp (by omega))) ?_
    refine lv_aload_n hx hb d_LA_law_674 rfl (lv_at hl 3 rfl) ?_
    have hi0 : ∀ p ∈ kSB cA cZ c2 cT cL s.heap.size tc tf, (s.heap.size + 0 ≤ p.1 ∧ p.1 < s.heap.size + 2) := in_kSB
    have hn0 : va_D (fun _ => True) (kSB cA cZ c2 cT cL s.heap.size tc tf) := nd_kSB
    refine zg_H (V := Unit) (F := zT2) (mc := 1) (ms := 6) (As := [.ref s.heap.size, .int (xs (i + 1)), .int (xs (i + 2)), .int (xs (i + 3)), .ref (s.heap.size + 97)]) (rest := []) (n := 5) (wsC := kSB cA cZ c2 cT cL s.heap.size tc tf) (φ := fun _ => True) (wv := fun _ => kSB cA cZ c2 cT cL s.heap.size tc tf) (rv := .int (nI 1)) zT2_ok ⟨hx, hb, hml, hown, hts⟩ (met_u (h_shape_x0 l D htl _ (fun k => s.heap.size + k) (fun k => s.heap.size + 2 + k) (fun k => s.heap.size + 11 + k) (fun k => s.heap.size + 15 + k) (fun k => s.heap.size + 30 + 16 * k) (laI s.heap.size) cA cZ c2 cT tc tf (s.heap.size + 97) (xs (i + 1)) (xs (i + 2)) (xs (i + 3)) hv)) ⟨km_LA_100, kst_LA_shape, kn_LA, kw_LA_shape⟩ (by decide +kernel) (by decide) ⟨(by show cs + 1 ≤ 601024; omega), (by show sl + 6 ≤ 7293000; omega)⟩ (hK.sub [0, 1, 2, 3] rfl) (h_kSB) hn0 hS (la_A hS (fun p hp => by have := hi0 p hp; omega)) hF2 rfl hl.1 rfl (Nat.le_of_ble_eq_true rfl) d_LA_law_675 (fun _ H1 locs1 hph hP1 hz1 hf1 hS1 => ?_)
    have hq0 := hP1
    have h_kBL := hf1.far h_kBL in_kBL (fun p hp => by have := hi0 p hp; omega)
    have h_kNE := hf1.far h_kNE in_kNE (fun p hp => by have := hi0 p hp; omega)
    have h_kP := hf1.far h_kP in_kP (fun p hp => by have := hi0 p hp; omega)
    have h_kSE := hf1.far h_kSE in_kSE (fun p hp => by have := hi0 p hp; omega)
    have h_kQ := hf1.far h_kQ in_kQ (fun p hp => by have := hi0 p hp; omega)
    have h_kDR := hf1.far h_kDR in_kDR (fun p hp => by have := hi0 p hp; omega)
    have h_kPI := hf1.far h_kPI in_kPI (fun p hp => by have := hi0 p hp; omega)
    have h_kMO := hf1.far h_kMO in_kMO (fun p hp => by have := hi0 p hp; omega)
    have h_kOU := hf1.far h_kOU in_kOU (fun p hp => by have := hi0 p hp; omega)
    have h_kSB := hq0
    have hT := th_kept0 hT hO hf1 (fun p hp => by have := hi0 p hp; omega)
    have hS := hS1
    clear hf1 hS1 hP1 hn0 hi0
    refine lv_istore (lv' := [(5, .int (nI 1)), (0, .ref b), (1, .ref s.heap.size), (2, .ref (s.heap.size + 69)), (3, .ref (s.heap.size + 97)), (4, .int (nI i))]) hx hb d_LA_law_678 hl (by decide) rfl (fun ls hl => ?_)
    refine lv_aload_n hx hb d_LA_law_680 rfl (lv_at hl 3 rfl) ?_
    refine lv_aload_n hx hb d_LA_law_681 rfl (lv_at hl 1 rfl) ?_
    refine lv_iload hx hb d_LA_law_682 (lv_at hl 5 rfl) ?_
    refine lv_iconst (v := nI 1) hx hb d_LA_law_684 (by decide) ?_
    refine z_add hx hb d_LA_law_685 ?_
    refine va_sld hx hb hX hbl hbA hS (vp_in_nI (n := (i + 1)) (by omega) (by omega)) d_LA_law_686 ?_
    refine lv_toi (z := xs (i + 1)) (congrArg xs (nI_clamp (by omega))) ?_
    refine lv_aload_n hx hb d_LA_law_687 rfl (lv_at hl 1 rfl) ?_
    refine lv_iload hx hb d_LA_law_688 (lv_at hl 5 rfl) ?_
    refine lv_iconst (v := nI 2) hx hb d_LA_law_690 (by decide) ?_
    refine z_add hx hb d_LA_law_691 ?_
    refine va_sld hx hb hX hbl hbA hS (vp_in_nI (n := (i + 2)) (by omega) (by omega)) d_LA_law_692 ?_
    refine lv_toi (z := xs (i + 2)) (congrArg xs (nI_clamp (by omega))) ?_
    refine lv_aload_n hx hb d_LA_law_693 rfl (lv_at hl 1 rfl) ?_
    refine lv_iload hx hb d_LA_law_694 (lv_at hl 5 rfl) ?_
    refine lv_iconst (v := nI 3) hx hb d_LA_law_696 (by decide) ?_
    refine z_add hx hb d_LA_law_697 ?_
    refine va_sld hx hb hX hbl hbA hS (vp_in_nI (n := (i + 3)) (by omega) (by omega)) d_LA_law_698 ?_
    refine lv_toi (z := xs (i + 3)) (congrArg xs (nI_clamp (by omega))) ?_
    have hi0 : ∀ p ∈ kMO cA cZ c2 cT cL s.heap.size M z, (s.heap.size + 69 ≤ p.1 ∧ p.1 < s.heap.size + 97) := in_kMO
    have hn0 : va_D (fun _ => True) (kMO cA cZ c2 cT cL s.heap.size M z) := nd_kMO
    refine zg_V (V := Unit) (ci := 10) (q0 := 0) (As := [.int (xs (i + 1)), .int (xs (i + 2)), .int (xs (i + 3))]) (rest := []) (n := 3) (wsC := kMO cA cZ c2 cT cL s.heap.size M z) (φ := fun _ => True) (wv := fun _ => kMO cA cZ c2 cT cL s.heap.size (mS 0 1 M) z) (rv := .long (lN 0)) ⟨hx, hb, hml, hown, hts⟩ (met_u (c_MO_shape_no0 l D _ (laM s.heap.size) cA cZ cL M z (xs (i + 1)) (xs (i + 2)) (xs (i + 3)) (by rw [hR.1]; exact isT_f hv))) ⟨km_LA_103, ki_MO_shape, ks_MO_shape, kn_MO, kd_MO_shape⟩ (by decide +kernel) (by decide) ⟨(by show cs + 1 + 0 ≤ 601024; omega), (by show sl + 6 + 0 ≤ 7293000; omega)⟩ (hK.sub [0, 1, 4] rfl) (h_kMO) hn0 hS (la_A hS (fun p hp => by have := hi0 p hp; omega)) rfl rfl rfl hl.1 rfl (Nat.le_of_ble_eq_true rfl) d_LA_law_699 (fun _ H1 locs1 hph hP1 hz1 hf1 hS1 => ?_)
    have hq0 := hP1
    have h_kSB := hf1.far h_kSB in_kSB (fun p hp => by have := hi0 p hp; omega)
    have h_kBL := hf1.far h_kBL in_kBL (fun p hp => by have := hi0 p hp; omega)
    have h_kNE := hf1.far h_kNE in_kNE (fun p hp => by have := hi0 p hp; omega)
    have h_kP := hf1.far h_kP in_kP (fun p hp => by have := hi0 p hp; omega)
    have h_kSE := hf1.far h_kSE in_kSE (fun p hp => by have := hi0 p hp; omega)
    have h_kQ := hf1.far h_kQ in_kQ (fun p hp => by have := hi0 p hp; omega)
    have h_kDR := hf1.far h_kDR in_kDR (fun p hp => by have := hi0 p hp; omega)
    have h_kPI := hf1.far h_kPI in_kPI (fun p hp => by have := hi0 p hp; omega)
    have h_kOU := hf1.far h_kOU in_kOU (fun p hp => by have := hi0 p hp; omega)
    have h_kMO := hq0
    have hT := th_kept0 hT hO hf1 (fun p hp => by have := hi0 p hp; omega)
    have hS := hS1
    clear hf1 hS1 hP1 hn0 hi0
    refine lv_lstore (lv' := [(6, .long (lN 0)), (5, .int (nI 1)), (0, .ref b), (1, .ref s.heap.size), (2, .ref (s.heap.size + 69)), (3, .ref (s.heap.size + 97)), (4, .int (nI i))]) hx hb d_LA_law_702 hl (by decide) rfl (fun ls hl => ?_)
    refine lv_aload_n hx hb d_LA_law_704 rfl (lv_at hl 4 rfl) ?_
    refine zrM_V (ci := 10) (q0 := 0) (As := []) (rest := []) (n := 0) (wsC := kMO cA cZ c2 cT cL s.heap.size (mS 0 1 M) z) ⟨hx, hb, hml, hown, hts⟩ (c_MO_thrown l D (laM s.heap.size) cA cZ cL (mS 0 1 M) z) ⟨km_LA_80, ki_MO_thrown, ks_MO_thrown, kn_MO, kd_MO_thrown⟩ (by decide +kernel) (by decide) ⟨(by show cs + 1 + 0 ≤ 601024; omega), (by show sl + 6 + 0 ≤ 7293000; omega)⟩ (hK.sub [0, 1, 4] rfl) h_kMO rfl rfl rfl hl.1 rfl (Nat.le_of_ble_eq_true rfl) d_LA_law_705 ?_
    refine lv_toi (z := nI 1) rfl ?_
    refine lv_iload hx hb d_LA_law_708 (lv_at hl 1 rfl) ?_
    refine z_ceq (tgt := 715) hx hb d_LA_law_710 (by decide) (by omega) (by omega) (fun _ => ?_) (fun h => absurd h (by omega))
    refine lv_iload hx hb d_LA_law_715 (lv_at hl 1 rfl) ?_
    refine z_0ne (tgt := 731) hx hb d_LA_law_717 (by decide) (by omega) (fun _ => ?_) (fun h => absurd h (by omega))
    refine lv_goto (tgt := 1221) hx hb d_LA_law_731 (by decide) ?_
    exact kk _ _ _ _ ls (by omega) (by omega) hS ⟨tc, tf, B, P, Qp, N, ah, kw, z, nn, sd, cf, lf, cn, (mS 0 1 M), fo, bk, us, u, cap, wt, tB, ⟨h_kSB, h_kBL, h_kNE, h_kP, h_kSE, h_kQ, h_kDR, h_kPI, h_kMO, h_kOU⟩, hT, hO, RelG_ag hG ⟨⟨rfl, rfl, rfl, rfl, rfl, rfl, rfl, rfl, rfl, rfl, rfl, rfl⟩, ⟨rfl, rfl, rfl, rfl⟩, rfl, rfl, rfl⟩, RelT_ag hR ⟨⟨rfl, rfl, rfl, rfl, rfl, rfl, rfl, rfl, rfl, rfl, rfl, rfl⟩, ⟨rfl, rfl, rfl, rfl⟩, rfl, rfl, rfl⟩, hq⟩ (lv_sub hl [2, 3, 4, 5, 6] rfl)
  · obtain ⟨kx, hkx, hke⟩ := tn_of h40 hv
    obtain ⟨a1, a2, a3, a4, a5, a6, a7, a8, a9⟩ := hR.2.2.2.2.1 kx hkx
    have hit : isT (M.2.2.1 9) (nI kx) = true := by rw [hR.1]; exact isT_t h40 hkx
    by_cases hw : xs (i + 2) < 0 ∨ nI (M.1 8 kx) ≤ xs (i + 2) ∨ ¬ (xs (i + 3) = 0 ∨ xs (i + 3) = 1)
    · refine lv_aload_n hx hb d_LA_law_655 rfl (lv_at hl 1 rfl) ?_
      refine lv_aload_n hx hb d_LA_law_656 rfl (lv_at hl 0 rfl) ?_
      refine lv_iload hx hb d_LA_law_657 (lv_at hl 4 rfl) ?_
      refine lv_iconst (v := nI 1) hx hb d_LA_law_659 (by decide) ?_
      refine z_add hx hb d_LA_law_660 ?_
      refine va_sld hx hb hX hbl hbA hS (vp_in_nI (n := (i + 1)) (by omega) (by omega)) d_LA_law_661 ?_
      refine lv_toi (z := (nI kx)) ((congrArg xs (nI_clamp (by omega))).trans hke) ?_
      refine lv_aload_n hx hb d_LA_law_662 rfl (lv_at hl 0 rfl) ?_
      refine lv_iload hx hb d_LA_law_663 (lv_at hl 4 rfl) ?_
      refine lv_iconst (v := nI 2) hx hb d_LA_law_665 (by decide) ?_
      refine z_add hx hb d_LA_law_666 ?_
      refine va_sld hx hb hX hbl hbA hS (vp_in_nI (n := (i + 2)) (by omega) (by omega)) d_LA_law_667 ?_
      refine lv_toi (z := xs (i + 2)) (congrArg xs (nI_clamp (by omega))) ?_
      refine lv_aload_n hx hb d_LA_law_668 rfl (lv_at hl 0 rfl) ?_
      refine lv_iload hx hb d_LA_law_669 (lv_at hl 4 rfl) ?_
      refine lv_iconst (v := nI 3) hx hb d_LA_law_671 (by decide) ?_
      refine z_add hx hb d_LA_law_672 ?_
      refine va_sld hx hb hX hbl hbA hS (vp_in_nI (n := (i + 3)) (by omega) (by omega)) d_LA_law_673 ?_
      refine lv_toi (z := xs (i + 3)) (congrArg xs (nI_clamp (by omega))) ?_
      refine lv_aload_n hx hb d_LA_law_674 rfl (lv_at hl 3 rfl) ?_
      have hTs : thS D cA bk us u cap tB tc (lTO cA (tB kx) (bk kx) (us kx) ++ lTL cA (tB kx) (cap kx) (u kx)) H := thS_q hT hkx
      have hTi := thS_in (h0 := s.heap.size) hT hTs
      have hi0 : ∀ p ∈ lTO cA (tB kx) (bk kx) (us kx) ++ lTL cA (tB kx) (cap kx) (u kx), (s.heap.size + 98 ≤ p.1) := hTi
      have hn0 : va_D (fun _ => True) (lTO cA (tB kx) (bk kx) (us kx) ++ lTL cA (tB kx) (cap kx) (u kx)) := hTs.2.1
      have hn1 : va_D (fun _ => True) ((lTO cA (tB kx) (bk kx) (us kx) ++ lTL cA (tB kx) (cap kx) (u kx)) ++ (kSB cA cZ c2 cT cL s.heap.size tc tf)) := nd_app hn0 nd_kSB (fun p hp q hq e9 => by have := hi0 p hp; have := in_kSB q hq; omega)
      have hi1 : ∀ p ∈ (lTO cA (tB kx) (bk kx) (us kx) ++ lTL cA (tB kx) (cap kx) (u kx)) ++ (kSB cA cZ c2 cT cL s.heap.size tc tf), (s.heap.size + 98 ≤ p.1) ∨ (s.heap.size + 0 ≤ p.1 ∧ p.1 < s.heap.size + 2) := fun p hp => (List.mem_append.mp hp).elim (fun h => by have := hi0 p h; omega) (fun h => by have := in_kSB p h; omega)
      have hw9 : ∀ p ∈ (lTO cA (tB kx) (bk kx) (us kx) ++ lTL cA (tB kx) (cap kx) (u kx)) ++ (kSB cA cZ c2 cT cL s.heap.size tc tf), p.1 < s.heap.size + 98 ∨ p ∈ lTO cA (tB kx) (bk kx) (us kx) ++ lTL cA (tB kx) (cap kx) (u kx) := fun p hp => (List.mem_append.mp hp).elim (fun h => Or.inr h) (fun h => Or.inl (by have := in_kSB p h; omega))
      refine zg_H (V := Unit) (F := zT2) (mc := 1) (ms := 6) (As := [.ref s.heap.size, .int (nI kx), .int (xs (i + 2)), .int (xs (i + 3)), .ref (s.heap.size + 97)]) (rest := []) (n := 5) (wsC := (lTO cA (tB kx) (bk kx) (us kx) ++ lTL cA (tB kx) (cap kx) (u kx)) ++ (kSB cA cZ c2 cT cL s.heap.size tc tf)) (φ := fun _ => True) (wv := fun _ => (lTO cA (tB kx) (bk kx) (us kx) ++ lTL cA (tB kx) (cap kx) (u kx)) ++ (kSB cA cZ c2 cT cL s.heap.size tc tf)) (rv := .int (nI 1)) zT2_ok ⟨hx, hb, hml, hown, hts⟩ (met_u (h_shape_x1 l D htl _ (fun k => s.heap.size + k) (fun k => s.heap.size + 2 + k) (fun k => s.heap.size + 11 + k) (fun k => s.heap.size + 15 + k) (fun k => s.heap.size + 30 + 16 * k) (laI s.heap.size) cA cZ c2 cT tc tf (s.heap.size + 97) (tB kx) (tB kx + 1) (tB kx + 2) (tB kx + 3) (cap kx) (u kx).2.2 (u kx).1 (u kx).2.1 (bk kx) (us kx) kx (xs (i + 2)) (xs (i + 3)) h40 hkx (hT kx hkx).2.2 (by rw [a2]; exact hw))) ⟨km_LA_100, kst_LA_shape, kn_LA, kw_LA_shape⟩ (by decide +kernel) (by decide) ⟨(by show cs + 1 ≤ 601024; omega), (by show sl + 6 ≤ 7293000; omega)⟩ (hK.sub [0, 1, 2, 3] rfl) ((hTs.1).app h_kSB) hn1 hS (la_A hS (fun p hp => by have := hi1 p hp; omega)) hF2 rfl hl.1 rfl (Nat.le_of_ble_eq_true rfl) d_LA_law_675 (fun _ H1 locs1 hph hP1 hz1 hf1 hS1 => ?_)
      have hq1 := va_P.right hP1
      have hr1 := va_P.left hP1
      have hq0 := hr1
      have h_kBL := hf1.far h_kBL in_kBL (fun p hp => by have := hi1 p hp; omega)
      have h_kNE := hf1.far h_kNE in_kNE (fun p hp => by have := hi1 p hp; omega)
      have h_kP := hf1.far h_kP in_kP (fun p hp => by have := hi1 p hp; omega)
      have h_kSE := hf1.far h_kSE in_kSE (fun p hp => by have := hi1 p hp; omega)
      have h_kQ := hf1.far h_kQ in_kQ (fun p hp => by have := hi1 p hp; omega)
      have h_kDR := hf1.far h_kDR in_kDR (fun p hp => by have := hi1 p hp; omega)
      have h_kPI := hf1.far h_kPI in_kPI (fun p hp => by have := hi1 p hp; omega)
      have h_kMO := hf1.far h_kMO in_kMO (fun p hp => by have := hi1 p hp; omega)
      have h_kOU := hf1.far h_kOU in_kOU (fun p hp => by have := hi1 p hp; omega)
      have h_kSB := hq1
      have hT := th_kept hT hO hf1 hw9 hTs hq0
      have hS := hS1
      clear hf1 hS1 hP1 hn0 hi0 hn1 hi1
      refine lv_istore (lv' := [(5, .int (nI 1)), (0, .ref b), (1, .ref s.heap.size), (2, .ref (s.heap.size + 69)), (3, .ref (s.heap.size + 97)), (4, .int (nI i))]) hx hb d_LA_law_678 hl (by decide) rfl (fun ls hl => ?_)
      refine lv_aload_n hx hb d_LA_law_680 rfl (lv_at hl 3 rfl) ?_
      refine lv_aload_n hx hb d_LA_law_681 rfl (lv_at hl 1 rfl) ?_
      refine lv_iload hx hb d_LA_law_682 (lv_at hl 5 rfl) ?_
      refine lv_iconst (v := nI 1) hx hb d_LA_law_684 (by decide) ?_
      refine z_add hx hb d_LA_law_685 ?_
      refine va_sld hx hb hX hbl hbA hS (vp_in_nI (n := (i + 1)) (by omega) (by omega)) d_LA_law_686 ?_
      refine lv_toi (z := (nI kx)) ((congrArg xs (nI_clamp (by omega))).trans hke) ?_
      refine lv_aload_n hx hb d_LA_law_687 rfl (lv_at hl 1 rfl) ?_
      refine lv_iload hx hb d_LA_law_688 (lv_at hl 5 rfl) ?_
      refine lv_iconst (v := nI 2) hx hb d_LA_law_690 (by decide) ?_
      refine z_add hx hb d_LA_law_691 ?_
      refine va_sld hx hb hX hbl hbA hS (vp_in_nI (n := (i + 2)) (by omega) (by omega)) d_LA_law_692 ?_
      refine lv_toi (z := xs (i + 2)) (congrArg xs (nI_clamp (by omega))) ?_
      refine lv_aload_n hx hb d_LA_law_693 rfl (lv_at hl 1 rfl) ?_
      refine lv_iload hx hb d_LA_law_694 (lv_at hl 5 rfl) ?_
      refine lv_iconst (v := nI 3) hx hb d_LA_law_696 (by decide) ?_
      refine z_add hx hb d_LA_law_697 ?_
      refine va_sld hx hb hX hbl hbA hS (vp_in_nI (n := (i + 3)) (by omega) (by omega)) d_LA_law_698 ?_
      refine lv_toi (z := xs (i + 3)) (congrArg xs (nI_clamp (by omega))) ?_
      have hi0 : ∀ p ∈ kMO cA cZ c2 cT cL s.heap.size M z, (s.heap.size + 69 ≤ p.1 ∧ p.1 < s.heap.size + 97) := in_kMO
      have hn0 : va_D (fun _ => True) (kMO cA cZ c2 cT cL s.heap.size M z) := nd_kMO
      refine zg_V (V := Unit) (ci := 10) (q0 := 0) (As := [.int (nI kx), .int (xs (i + 2)), .int (xs (i + 3))]) (rest := []) (n := 3) (wsC := kMO cA cZ c2 cT cL s.heap.size M z) (φ := fun _ => True) (wv := fun _ => kMO cA cZ c2 cT cL s.heap.size (mS 0 1 M) z) (rv := .long (lN 0)) ⟨hx, hb, hml, hown, hts⟩ (met_u (c_MO_shape_no1 l D _ (laM s.heap.size) cA cZ cL M z kx (xs (i + 2)) (xs (i + 3)) hit (by omega) hw)) ⟨km_LA_103, ki_MO_shape, ks_MO_shape, kn_MO, kd_MO_shape⟩ (by decide +kernel) (by decide) ⟨(by show cs + 1 + 0 ≤ 601024; omega), (by show sl + 6 + 0 ≤ 7293000; omega)⟩ (hK.sub [0, 1, 4] rfl) (h_kMO) hn0 hS (la_A hS (fun p hp => by have := hi0 p hp; omega)) rfl rfl rfl hl.1 rfl (Nat.le_of_ble_eq_true rfl) d_LA_law_699 (fun _ H1 locs1 hph hP1 hz1 hf1 hS1 => ?_)
      have hq0 := hP1
      have h_kSB := hf1.far h_kSB in_kSB (fun p hp => by have := hi0 p hp; omega)
      have h_kBL := hf1.far h_kBL in_kBL (fun p hp => by have := hi0 p hp; omega)
      have h_kNE := hf1.far h_kNE in_kNE (fun p hp => by have := hi0 p hp; omega)
      have h_kP := hf1.far h_kP in_kP (fun p hp => by have := hi0 p hp; omega)
      have h_kSE := hf1.far h_kSE in_kSE (fun p hp => by have := hi0 p hp; omega)
      have h_kQ := hf1.far h_kQ in_kQ (fun p hp => by have := hi0 p hp; omega)
      have h_kDR := hf1.far h_kDR in_kDR (fun p hp => by have := hi0 p hp; omega)
      have h_kPI := hf1.far h_kPI in_kPI (fun p hp => by have := hi0 p hp; omega)
      have h_kOU := hf1.far h_kOU in_kOU (fun p hp => by have := hi0 p hp; omega)
      have h_kMO := hq0
      have hT := th_kept0 hT hO hf1 (fun p hp => by have := hi0 p hp; omega)
      have hS := hS1
      clear hf1 hS1 hP1 hn0 hi0
      refine lv_lstore (lv' := [(6, .long (lN 0)), (5, .int (nI 1)), (0, .ref b), (1, .ref s.heap.size), (2, .ref (s.heap.size + 69)), (3, .ref (s.heap.size + 97)), (4, .int (nI i))]) hx hb d_LA_law_702 hl (by decide) rfl (fun ls hl => ?_)
      refine lv_aload_n hx hb d_LA_law_704 rfl (lv_at hl 4 rfl) ?_
      refine zrM_V (ci := 10) (q0 := 0) (As := []) (rest := []) (n := 0) (wsC := kMO cA cZ c2 cT cL s.heap.size (mS 0 1 M) z) ⟨hx, hb, hml, hown, hts⟩ (c_MO_thrown l D (laM s.heap.size) cA cZ cL (mS 0 1 M) z) ⟨km_LA_80, ki_MO_thrown, ks_MO_thrown, kn_MO, kd_MO_thrown⟩ (by decide +kernel) (by decide) ⟨(by show cs + 1 + 0 ≤ 601024; omega), (by show sl + 6 + 0 ≤ 7293000; omega)⟩ (hK.sub [0, 1, 4] rfl) h_kMO rfl rfl rfl hl.1 rfl (Nat.le_of_ble_eq_true rfl) d_LA_law_705 ?_
      refine lv_toi (z := nI 1) rfl ?_
      refine lv_iload hx hb d_LA_law_708 (lv_at hl 1 rfl) ?_
      refine z_ceq (tgt := 715) hx hb d_LA_law_710 (by decide) (by omega) (by omega) (fun _ => ?_) (fun h => absurd h (by omega))
      refine lv_iload hx hb d_LA_law_715 (lv_at hl 1 rfl) ?_
      refine z_0ne (tgt := 731) hx hb d_LA_law_717 (by decide) (by omega) (fun _ => ?_) (fun h => absurd h (by omega))
      refine lv_goto (tgt := 1221) hx hb d_LA_law_731 (by decide) ?_
      exact kk _ _ _ _ ls (by omega) (by omega) hS ⟨tc, tf, B, P, Qp, N, ah, kw, z, nn, sd, cf, lf, cn, (mS 0 1 M), fo, bk, us, u, cap, wt, tB, ⟨h_kSB, h_kBL, h_kNE, h_kP, h_kSE, h_kQ, h_kDR, h_kPI, h_kMO, h_kOU⟩, hT, hO, RelG_ag hG ⟨⟨rfl, rfl, rfl, rfl, rfl, rfl, rfl, rfl, rfl, rfl, rfl, rfl⟩, ⟨rfl, rfl, rfl, rfl⟩, rfl, rfl, rfl⟩, RelT_ag hR ⟨⟨rfl, rfl, rfl, rfl, rfl, rfl, rfl, rfl, rfl, rfl, rfl, rfl⟩, ⟨rfl, rfl, rfl, rfl⟩, rfl, rfl, rfl⟩, hq⟩ (lv_sub hl [2, 3, 4, 5, 6] rfl)
    · have hw1 : ¬ (xs (i + 2) < 0 ∨ nI (M.1 8 kx) ≤ xs (i + 2)) := fun h => hw (h.elim Or.inl (fun h => Or.inr (Or.inl h)))
      obtain ⟨ky, hky, hky2⟩ := tn_of (tc := M.1 8 kx) (by omega) hw1
      have hw2 : xs (i + 3) = 0 ∨ xs (i + 3) = 1 := Classical.byContradiction (fun h => hw (Or.inr (Or.inr h)))
      rcases hw2 with hs0 | hs0
      · have h7 := a7 ky
        refine lv_aload_n hx hb d_LA_law_655 rfl (lv_at hl 1 rfl) ?_
        refine lv_aload_n hx hb d_LA_law_656 rfl (lv_at hl 0 rfl) ?_
        refine lv_iload hx hb d_LA_law_657 (lv_at hl 4 rfl) ?_
        refine lv_iconst (v := nI 1) hx hb d_LA_law_659 (by decide) ?_
        refine z_add hx hb d_LA_law_660 ?_
        refine va_sld hx hb hX hbl hbA hS (vp_in_nI (n := (i + 1)) (by omega) (by omega)) d_LA_law_661 ?_
        refine lv_toi (z := (nI kx)) ((congrArg xs (nI_clamp (by omega))).trans hke) ?_
        refine lv_aload_n hx hb d_LA_law_662 rfl (lv_at hl 0 rfl) ?_
        refine lv_iload hx hb d_LA_law_663 (lv_at hl 4 rfl) ?_
        refine lv_iconst (v := nI 2) hx hb d_LA_law_665 (by decide) ?_
        refine z_add hx hb d_LA_law_666 ?_
        refine va_sld hx hb hX hbl hbA hS (vp_in_nI (n := (i + 2)) (by omega) (by omega)) d_LA_law_667 ?_
        refine lv_toi (z := (nI ky)) ((congrArg xs (nI_clamp (by omega))).trans hky2) ?_
        refine lv_aload_n hx hb d_LA_law_668 rfl (lv_at hl 0 rfl) ?_
        refine lv_iload hx hb d_LA_law_669 (lv_at hl 4 rfl) ?_
        refine lv_iconst (v := nI 3) hx hb d_LA_law_671 (by decide) ?_
        refine z_add hx hb d_LA_law_672 ?_
        refine va_sld hx hb hX hbl hbA hS (vp_in_nI (n := (i + 3)) (by omega) (by omega)) d_LA_law_673 ?_
        refine lv_toi (z := (nI 0)) ((congrArg xs (nI_clamp (by omega))).trans hs0) ?_
        refine lv_aload_n hx hb d_LA_law_674 rfl (lv_at hl 3 rfl) ?_
        have hTs : thS D cA bk us u cap tB tc (lTO cA (tB kx) (bk kx) (us kx) ++ lTL cA (tB kx) (cap kx) (u kx)) H := thS_q hT hkx
        have hTi := thS_in (h0 := s.heap.size) hT hTs
        have hi0 : ∀ p ∈ lTO cA (tB kx) (bk kx) (us kx) ++ lTL cA (tB kx) (cap kx) (u kx), (s.heap.size + 98 ≤ p.1) := hTi
        have hn0 : va_D (fun _ => True) (lTO cA (tB kx) (bk kx) (us kx) ++ lTL cA (tB kx) (cap kx) (u kx)) := hTs.2.1
        have hn1 : va_D (fun _ => True) ((lTO cA (tB kx) (bk kx) (us kx) ++ lTL cA (tB kx) (cap kx) (u kx)) ++ (kSB cA cZ c2 cT cL s.heap.size tc tf)) := nd_app hn0 nd_kSB (fun p hp q hq e9 => by have := hi0 p hp; have := in_kSB q hq; omega)
        have hi1 : ∀ p ∈ (lTO cA (tB kx) (bk kx) (us kx) ++ lTL cA (tB kx) (cap kx) (u kx)) ++ (kSB cA cZ c2 cT cL s.heap.size tc tf), (s.heap.size + 98 ≤ p.1) ∨ (s.heap.size + 0 ≤ p.1 ∧ p.1 < s.heap.size + 2) := fun p hp => (List.mem_append.mp hp).elim (fun h => by have := hi0 p h; omega) (fun h => by have := in_kSB p h; omega)
        have hn2 : va_D (fun _ => True) (((lTO cA (tB kx) (bk kx) (us kx) ++ lTL cA (tB kx) (cap kx) (u kx)) ++ (kSB cA cZ c2 cT cL s.heap.size tc tf)) ++ (kOU cA cZ c2 cT cL s.heap.size fo)) := nd_app hn1 nd_kOU (fun p hp q hq e9 => by have := hi1 p hp; have := in_kOU q hq; omega)
        have hi2 : ∀ p ∈ ((lTO cA (tB kx) (bk kx) (us kx) ++ lTL cA (tB kx) (cap kx) (u kx)) ++ (kSB cA cZ c2 cT cL s.heap.size tc tf)) ++ (kOU cA cZ c2 cT cL s.heap.size fo), (s.heap.size + 98 ≤ p.1) ∨ (s.heap.size + 0 ≤ p.1 ∧ p.1 < s.heap.size + 2) ∨ (s.heap.size + 97 ≤ p.1 ∧ p.1 < s.heap.size + 98) := fun p hp => (List.mem_append.mp hp).elim (fun h => by have := hi1 p h; omega) (fun h => by have := in_kOU p h; omega)
        have hw9 : ∀ p ∈ ((lTO cA (tB kx) (bk kx) (us kx) ++ lTL cA (tB kx) (cap kx) (u kx)) ++ (kSB cA cZ c2 cT cL s.heap.size tc tf)) ++ (kOU cA cZ c2 cT cL s.heap.size fo), p.1 < s.heap.size + 98 ∨ p ∈ lTO cA (tB kx) (bk kx) (us kx) ++ lTL cA (tB kx) (cap kx) (u kx) := fun p hp => (List.mem_append.mp hp).elim (fun h => (List.mem_append.mp h).elim (fun h => Or.inr h) (fun h => Or.inl (by have := in_kSB p h; omega))) (fun h => Or.inl (by have := in_kOU p h; omega))
        refine zg_H (V := Unit) (F := zF0) (mc := 0) (ms := 0) (As := [.ref s.heap.size, .int (nI kx), .int (nI ky), .int (nI 0), .ref (s.heap.size + 97)]) (rest := []) (n := 5) (wsC := ((lTO cA (tB kx) (bk kx) (us kx) ++ lTL cA (tB kx) (cap kx) (u kx)) ++ (kSB cA cZ c2 cT cL s.heap.size tc tf)) ++ (kOU cA cZ c2 cT cL s.heap.size fo)) (φ := fun _ => True) (wv := fun _ => ((lTO cA (tB kx) (bk kx) (us kx) ++ lTL cA (tB kx) (cap kx) (u kx)) ++ (kSB cA cZ c2 cT cL s.heap.size tc tf)) ++ (kOU cA cZ c2 cT cL s.heap.size (o1 fo (lN ((u kx).1 ky))))) (rv := .int (nI 0)) zF0_ok ⟨hx, hb, hml, hown, hts⟩ (met_u (met_f (h_shape_0 l D _ (fun k => s.heap.size + k) (fun k => s.heap.size + 2 + k) (fun k => s.heap.size + 11 + k) (fun k => s.heap.size + 15 + k) (fun k => s.heap.size + 30 + 16 * k) (laI s.heap.size) cA cZ c2 cT tc tf (s.heap.size + 97) cL fo (tB kx) (tB kx + 1) (tB kx + 2) (tB kx + 3) (cap kx) (u kx).2.2 (u kx).1 (u kx).2.1 (bk kx) (us kx) kx ky h40 hkx (hT kx hkx).2.2 (by omega) (by omega) (by omega) (by omega)))) ⟨km_LA_100, kst_LA_shape, kn_LA, kw_LA_shape⟩ (by decide +kernel) (by decide) ⟨(by show cs + 0 ≤ 601024; omega), (by show sl + 0 ≤ 7293000; omega)⟩ (hK.sub [0, 1, 2, 3, 4] rfl) (((hTs.1).app h_kSB).app h_kOU) hn2 hS (la_A hS (fun p hp => by have := hi2 p hp; omega)) trivial rfl hl.1 rfl (Nat.le_of_ble_eq_true rfl) d_LA_law_675 (fun _ H1 locs1 hph hP1 hz1 hf1 hS1 => ?_)
        have hq2 := va_P.right hP1
        have hr2 := va_P.left hP1
        have hq1 := va_P.right hr2
        have hr1 := va_P.left hr2
        have hq0 := hr1
        have h_kBL := hf1.far h_kBL in_kBL (fun p hp => by have := hi2 p hp; omega)
        have h_kNE := hf1.far h_kNE in_kNE (fun p hp => by have := hi2 p hp; omega)
        have h_kP := hf1.far h_kP in_kP (fun p hp => by have := hi2 p hp; omega)
        have h_kSE := hf1.far h_kSE in_kSE (fun p hp => by have := hi2 p hp; omega)
        have h_kQ := hf1.far h_kQ in_kQ (fun p hp => by have := hi2 p hp; omega)
        have h_kDR := hf1.far h_kDR in_kDR (fun p hp => by have := hi2 p hp; omega)
        have h_kPI := hf1.far h_kPI in_kPI (fun p hp => by have := hi2 p hp; omega)
        have h_kMO := hf1.far h_kMO in_kMO (fun p hp => by have := hi2 p hp; omega)
        have h_kSB := hq1
        have h_kOU := hq2
        have hT := th_kept hT hO hf1 hw9 hTs hq0
        have hS := hS1
        clear hf1 hS1 hP1 hn0 hi0 hn1 hi1 hn2 hi2
        refine lv_istore (lv' := [(5, .int (nI 0)), (0, .ref b), (1, .ref s.heap.size), (2, .ref (s.heap.size + 69)), (3, .ref (s.heap.size + 97)), (4, .int (nI i))]) hx hb d_LA_law_678 hl (by decide) rfl (fun ls hl => ?_)
        refine lv_aload_n hx hb d_LA_law_680 rfl (lv_at hl 3 rfl) ?_
        refine lv_aload_n hx hb d_LA_law_681 rfl (lv_at hl 1 rfl) ?_
        refine lv_iload hx hb d_LA_law_682 (lv_at hl 5 rfl) ?_
        refine lv_iconst (v := nI 1) hx hb d_LA_law_684 (by decide) ?_
        refine z_add hx hb d_LA_law_685 ?_
        refine va_sld hx hb hX hbl hbA hS (vp_in_nI (n := (i + 1)) (by omega) (by omega)) d_LA_law_686 ?_
        refine lv_toi (z := (nI kx)) ((congrArg xs (nI_clamp (by omega))).trans hke) ?_
        refine lv_aload_n hx hb d_LA_law_687 rfl (lv_at hl 1 rfl) ?_
        refine lv_iload hx hb d_LA_law_688 (lv_at hl 5 rfl) ?_
        refine lv_iconst (v := nI 2) hx hb d_LA_law_690 (by decide) ?_
        refine z_add hx hb d_LA_law_691 ?_
        refine va_sld hx hb hX hbl hbA hS (vp_in_nI (n := (i + 2)) (by omega) (by omega)) d_LA_law_692 ?_
        refine lv_toi (z := (nI ky)) ((congrArg xs (nI_clamp (by omega))).trans hky2) ?_
        refine lv_aload_n hx hb d_LA_law_693 rfl (lv_at hl 1 rfl) ?_
        refine lv_iload hx hb d_LA_law_694 (lv_at hl 5 rfl) ?_
        refine lv_iconst (v := nI 3) hx hb d_LA_law_696 (by decide) ?_
        refine z_add hx hb d_LA_law_697 ?_
        refine va_sld hx hb hX hbl hbA hS (vp_in_nI (n := (i + 3)) (by omega) (by omega)) d_LA_law_698 ?_
        refine lv_toi (z := (nI 0)) ((congrArg xs (nI_clamp (by omega))).trans hs0) ?_
        have hi0 : ∀ p ∈ kMO cA cZ c2 cT cL s.heap.size M z, (s.heap.size + 69 ≤ p.1 ∧ p.1 < s.heap.size + 97) := in_kMO
        have hn0 : va_D (fun _ => True) (kMO cA cZ c2 cT cL s.heap.size M z) := nd_kMO
        refine zg_V (V := Unit) (ci := 10) (q0 := 0) (As := [.int (nI kx), .int (nI ky), .int (nI 0)]) (rest := []) (n := 3) (wsC := kMO cA cZ c2 cT cL s.heap.size M z) (φ := fun _ => True) (wv := fun _ => kMO cA cZ c2 cT cL s.heap.size (mS 0 0 M) z) (rv := .long (lN (M.1 6 (64 * kx + ky)))) ⟨hx, hb, hml, hown, hts⟩ (met_u (c_MO_shape_0 l D _ (laM s.heap.size) cA cZ cL M z kx ky hit (by omega) hky (by omega))) ⟨km_LA_103, ki_MO_shape, ks_MO_shape, kn_MO, kd_MO_shape⟩ (by decide +kernel) (by decide) ⟨(by show cs + 0 ≤ 601024; omega), (by show sl + 0 ≤ 7293000; omega)⟩ (hK.sub [0, 1, 4] rfl) (h_kMO) hn0 hS (la_A hS (fun p hp => by have := hi0 p hp; omega)) rfl rfl rfl hl.1 rfl (Nat.le_of_ble_eq_true rfl) d_LA_law_699 (fun _ H1 locs1 hph hP1 hz1 hf1 hS1 => ?_)
        have hq0 := hP1
        have h_kSB := hf1.far h_kSB in_kSB (fun p hp => by have := hi0 p hp; omega)
        have h_kBL := hf1.far h_kBL in_kBL (fun p hp => by have := hi0 p hp; omega)
        have h_kNE := hf1.far h_kNE in_kNE (fun p hp => by have := hi0 p hp; omega)
        have h_kP := hf1.far h_kP in_kP (fun p hp => by have := hi0 p hp; omega)
        have h_kSE := hf1.far h_kSE in_kSE (fun p hp => by have := hi0 p hp; omega)
        have h_kQ := hf1.far h_kQ in_kQ (fun p hp => by have := hi0 p hp; omega)
        have h_kDR := hf1.far h_kDR in_kDR (fun p hp => by have := hi0 p hp; omega)
        have h_kPI := hf1.far h_kPI in_kPI (fun p hp => by have := hi0 p hp; omega)
        have h_kOU := hf1.far h_kOU in_kOU (fun p hp => by have := hi0 p hp; omega)
        have h_kMO := hq0
        have hT := th_kept0 hT hO hf1 (fun p hp => by have := hi0 p hp; omega)
        have hS := hS1
        clear hf1 hS1 hP1 hn0 hi0
        refine lv_lstore (lv' := [(6, .long (lN (M.1 6 (64 * kx + ky)))), (5, .int (nI 0)), (0, .ref b), (1, .ref s.heap.size), (2, .ref (s.heap.size + 69)), (3, .ref (s.heap.size + 97)), (4, .int (nI i))]) hx hb d_LA_law_702 hl (by decide) rfl (fun ls hl => ?_)
        refine lv_aload_n hx hb d_LA_law_704 rfl (lv_at hl 4 rfl) ?_
        refine zrM_V (ci := 10) (q0 := 0) (As := []) (rest := []) (n := 0) (wsC := kMO cA cZ c2 cT cL s.heap.size (mS 0 0 M) z) ⟨hx, hb, hml, hown, hts⟩ (c_MO_thrown l D (laM s.heap.size) cA cZ cL (mS 0 0 M) z) ⟨km_LA_80, ki_MO_thrown, ks_MO_thrown, kn_MO, kd_MO_thrown⟩ (by decide +kernel) (by decide) ⟨(by show cs + 0 ≤ 601024; omega), (by show sl + 0 ≤ 7293000; omega)⟩ (hK.sub [0, 1, 4] rfl) h_kMO rfl rfl rfl hl.1 rfl (Nat.le_of_ble_eq_true rfl) d_LA_law_705 ?_
        refine lv_toi (z := nI 0) rfl ?_
        refine lv_iload hx hb d_LA_law_708 (lv_at hl 1 rfl) ?_
        refine z_ceq (tgt := 715) hx hb d_LA_law_710 (by decide) (by omega) (by omega) (fun _ => ?_) (fun h => absurd h (by omega))
        refine lv_iload hx hb d_LA_law_715 (lv_at hl 1 rfl) ?_
        refine z_0ne (tgt := 731) hx hb d_LA_law_717 (by decide) (by omega) (fun h => absurd h (by omega)) (fun _ => ?_)
        refine lv_aload_n hx hb d_LA_law_720 rfl (lv_at hl 5 rfl) ?_
        refine lv_iconst (v := nI 0) hx hb d_LA_law_721 (by decide) ?_
        refine va_lald hx hb hK h_kOU 0 4 rfl rfl (vp_in_nI (n := 0) (by decide) (by decide)) d_LA_law_722 ?_
        refine lv_tol (z := lN ((u kx).1 ky)) rfl ?_
        refine lv_lload hx hb d_LA_law_723 (lv_at hl 0 rfl) ?_
        refine y_leq (tgt := 731) hx hb d_LA_law_725 d_LA_law_726 (by decide) (fun _ => ?_) (fun c9 => absurd (congrArg lN (a3 ky hky).1) c9)
        refine lv_goto (tgt := 1221) hx hb d_LA_law_731 (by decide) ?_
        exact kk _ _ _ _ ls (by omega) (by omega) hS ⟨tc, tf, B, P, Qp, N, ah, kw, z, nn, sd, cf, lf, cn, (mS 0 0 M), (o1 fo (lN ((u kx).1 ky))), bk, us, u, cap, wt, tB, ⟨h_kSB, h_kBL, h_kNE, h_kP, h_kSE, h_kQ, h_kDR, h_kPI, h_kMO, h_kOU⟩, hT, hO, RelG_ag hG ⟨⟨rfl, rfl, rfl, rfl, rfl, rfl, rfl, rfl, rfl, rfl, rfl, rfl⟩, ⟨rfl, rfl, rfl, rfl⟩, rfl, rfl, rfl⟩, RelT_ag hR ⟨⟨rfl, rfl, rfl, rfl, rfl, rfl, rfl, rfl, rfl, rfl, rfl, rfl⟩, ⟨rfl, rfl, rfl, rfl⟩, rfl, rfl, rfl⟩, hq⟩ (lv_sub hl [2, 3, 4, 5, 6] rfl)
      · have h7 := a7 ky
        refine lv_aload_n hx hb d_LA_law_655 rfl (lv_at hl 1 rfl) ?_
        refine lv_aload_n hx hb d_LA_law_656 rfl (lv_at hl 0 rfl) ?_
        refine lv_iload hx hb d_LA_law_657 (lv_at hl 4 rfl) ?_
        refine lv_iconst (v := nI 1) hx hb d_LA_law_659 (by decide) ?_
        refine z_add hx hb d_LA_law_660 ?_
        refine va_sld hx hb hX hbl hbA hS (vp_in_nI (n := (i + 1)) (by omega) (by omega)) d_LA_law_661 ?_
        refine lv_toi (z := (nI kx)) ((congrArg xs (nI_clamp (by omega))).trans hke) ?_
        refine lv_aload_n hx hb d_LA_law_662 rfl (lv_at hl 0 rfl) ?_
        refine lv_iload hx hb d_LA_law_663 (lv_at hl 4 rfl) ?_
        refine lv_iconst (v := nI 2) hx hb d_LA_law_665 (by decide) ?_
        refine z_add hx hb d_LA_law_666 ?_
        refine va_sld hx hb hX hbl hbA hS (vp_in_nI (n := (i + 2)) (by omega) (by omega)) d_LA_law_667 ?_
        refine lv_toi (z := (nI ky)) ((congrArg xs (nI_clamp (by omega))).trans hky2) ?_
        refine lv_aload_n hx hb d_LA_law_668 rfl (lv_at hl 0 rfl) ?_
        refine lv_iload hx hb d_LA_law_669 (lv_at hl 4 rfl) ?_
        refine lv_iconst (v := nI 3) hx hb d_LA_law_671 (by decide) ?_
        refine z_add hx hb d_LA_law_672 ?_
        refine va_sld hx hb hX hbl hbA hS (vp_in_nI (n := (i + 3)) (by omega) (by omega)) d_LA_law_673 ?_
        refine lv_toi (z := (nI 1)) ((congrArg xs (nI_clamp (by omega))).trans hs0) ?_
        refine lv_aload_n hx hb d_LA_law_674 rfl (lv_at hl 3 rfl) ?_
        have hTs : thS D cA bk us u cap tB tc (lTO cA (tB kx) (bk kx) (us kx) ++ lTL cA (tB kx) (cap kx) (u kx)) H := thS_q hT hkx
        have hTi := thS_in (h0 := s.heap.size) hT hTs
        have hi0 : ∀ p ∈ lTO cA (tB kx) (bk kx) (us kx) ++ lTL cA (tB kx) (cap kx) (u kx), (s.heap.size + 98 ≤ p.1) := hTi
        have hn0 : va_D (fun _ => True) (lTO cA (tB kx) (bk kx) (us kx) ++ lTL cA (tB kx) (cap kx) (u kx)) := hTs.2.1
        have hn1 : va_D (fun _ => True) ((lTO cA (tB kx) (bk kx) (us kx) ++ lTL cA (tB kx) (cap kx) (u kx)) ++ (kSB cA cZ c2 cT cL s.heap.size tc tf)) := nd_app hn0 nd_kSB (fun p hp q hq e9 => by have := hi0 p hp; have := in_kSB q hq; omega)
        have hi1 : ∀ p ∈ (lTO cA (tB kx) (bk kx) (us kx) ++ lTL cA (tB kx) (cap kx) (u kx)) ++ (kSB cA cZ c2 cT cL s.heap.size tc tf), (s.heap.size + 98 ≤ p.1) ∨ (s.heap.size + 0 ≤ p.1 ∧ p.1 < s.heap.size + 2) := fun p hp => (List.mem_append.mp hp).elim (fun h => by have := hi0 p h; omega) (fun h => by have := in_kSB p h; omega)
        have hn2 : va_D (fun _ => True) (((lTO cA (tB kx) (bk kx) (us kx) ++ lTL cA (tB kx) (cap kx) (u kx)) ++ (kSB cA cZ c2 cT cL s.heap.size tc tf)) ++ (kOU cA cZ c2 cT cL s.heap.size fo)) := nd_app hn1 nd_kOU (fun p hp q hq e9 => by have := hi1 p hp; have := in_kOU q hq; omega)
        have hi2 : ∀ p ∈ ((lTO cA (tB kx) (bk kx) (us kx) ++ lTL cA (tB kx) (cap kx) (u kx)) ++ (kSB cA cZ c2 cT cL s.heap.size tc tf)) ++ (kOU cA cZ c2 cT cL s.heap.size fo), (s.heap.size + 98 ≤ p.1) ∨ (s.heap.size + 0 ≤ p.1 ∧ p.1 < s.heap.size + 2) ∨ (s.heap.size + 97 ≤ p.1 ∧ p.1 < s.heap.size + 98) := fun p hp => (List.mem_append.mp hp).elim (fun h => by have := hi1 p h; omega) (fun h => by have := in_kOU p h; omega)
        have hw9 : ∀ p ∈ ((lTO cA (tB kx) (bk kx) (us kx) ++ lTL cA (tB kx) (cap kx) (u kx)) ++ (kSB cA cZ c2 cT cL s.heap.size tc tf)) ++ (kOU cA cZ c2 cT cL s.heap.size fo), p.1 < s.heap.size + 98 ∨ p ∈ lTO cA (tB kx) (bk kx) (us kx) ++ lTL cA (tB kx) (cap kx) (u kx) := fun p hp => (List.mem_append.mp hp).elim (fun h => (List.mem_append.mp h).elim (fun h => Or.inr h) (fun h => Or.inl (by have := in_kSB p h; omega))) (fun h => Or.inl (by have := in_kOU p h; omega))
        refine zg_H (V := Unit) (F := zF0) (mc := 0) (ms := 0) (As := [.ref s.heap.size, .int (nI kx), .int (nI ky), .int (nI 1), .ref (s.heap.size + 97)]) (rest := []) (n := 5) (wsC := ((lTO cA (tB kx) (bk kx) (us kx) ++ lTL cA (tB kx) (cap kx) (u kx)) ++ (kSB cA cZ c2 cT cL s.heap.size tc tf)) ++ (kOU cA cZ c2 cT cL s.heap.size fo)) (φ := fun _ => True) (wv := fun _ => ((lTO cA (tB kx) (bk kx) (us kx) ++ lTL cA (tB kx) (cap kx) (u kx)) ++ (kSB cA cZ c2 cT cL s.heap.size tc tf)) ++ (kOU cA cZ c2 cT cL s.heap.size (o1 fo (lN ((u kx).2.1 ky))))) (rv := .int (nI 0)) zF0_ok ⟨hx, hb, hml, hown, hts⟩ (met_u (met_f (h_shape_1 l D _ (fun k => s.heap.size + k) (fun k => s.heap.size + 2 + k) (fun k => s.heap.size + 11 + k) (fun k => s.heap.size + 15 + k) (fun k => s.heap.size + 30 + 16 * k) (laI s.heap.size) cA cZ c2 cT tc tf (s.heap.size + 97) cL fo (tB kx) (tB kx + 1) (tB kx + 2) (tB kx + 3) (cap kx) (u kx).2.2 (u kx).1 (u kx).2.1 (bk kx) (us kx) kx ky h40 hkx (hT kx hkx).2.2 (by omega) (by omega) (by omega) (by omega)))) ⟨km_LA_100, kst_LA_shape, kn_LA, kw_LA_shape⟩ (by decide +kernel) (by decide) ⟨(by show cs + 0 ≤ 601024; omega), (by show sl + 0 ≤ 7293000; omega)⟩ (hK.sub [0, 1, 2, 3, 4] rfl) (((hTs.1).app h_kSB).app h_kOU) hn2 hS (la_A hS (fun p hp => by have := hi2 p hp; omega)) trivial rfl hl.1 rfl (Nat.le_of_ble_eq_true rfl) d_LA_law_675 (fun _ H1 locs1 hph hP1 hz1 hf1 hS1 => ?_)
        have hq2 := va_P.right hP1
        have hr2 := va_P.left hP1
        have hq1 := va_P.right hr2
        have hr1 := va_P.left hr2
        have hq0 := hr1
        have h_kBL := hf1.far h_kBL in_kBL (fun p hp => by have := hi2 p hp; omega)
        have h_kNE := hf1.far h_kNE in_kNE (fun p hp => by have := hi2 p hp; omega)
        have h_kP := hf1.far h_kP in_kP (fun p hp => by have := hi2 p hp; omega)
        have h_kSE := hf1.far h_kSE in_kSE (fun p hp => by have := hi2 p hp; omega)
        have h_kQ := hf1.far h_kQ in_kQ (fun p hp => by have := hi2 p hp; omega)
        have h_kDR := hf1.far h_kDR in_kDR (fun p hp => by have := hi2 p hp; omega)
        have h_kPI := hf1.far h_kPI in_kPI (fun p hp => by have := hi2 p hp; omega)
        have h_kMO := hf1.far h_kMO in_kMO (fun p hp => by have := hi2 p hp; omega)
        have h_kSB := hq1
        have h_kOU := hq2
        have hT := th_kept hT hO hf1 hw9 hTs hq0
        have hS := hS1
        clear hf1 hS1 hP1 hn0 hi0 hn1 hi1 hn2 hi2
        refine lv_istore (lv' := [(5, .int (nI 0)), (0, .ref b), (1, .ref s.heap.size), (2, .ref (s.heap.size + 69)), (3, .ref (s.heap.size + 97)), (4, .int (nI i))]) hx hb d_LA_law_678 hl (by decide) rfl (fun ls hl => ?_)
        refine lv_aload_n hx hb d_LA_law_680 rfl (lv_at hl 3 rfl) ?_
        refine lv_aload_n hx hb d_LA_law_681 rfl (lv_at hl 1 rfl) ?_
        refine lv_iload hx hb d_LA_law_682 (lv_at hl 5 rfl) ?_
        refine lv_iconst (v := nI 1) hx hb d_LA_law_684 (by decide) ?_
        refine z_add hx hb d_LA_law_685 ?_
        refine va_sld hx hb hX hbl hbA hS (vp_in_nI (n := (i + 1)) (by omega) (by omega)) d_LA_law_686 ?_
        refine lv_toi (z := (nI kx)) ((congrArg xs (nI_clamp (by omega))).trans hke) ?_
        refine lv_aload_n hx hb d_LA_law_687 rfl (lv_at hl 1 rfl) ?_
        refine lv_iload hx hb d_LA_law_688 (lv_at hl 5 rfl) ?_
        refine lv_iconst (v := nI 2) hx hb d_LA_law_690 (by decide) ?_
        refine z_add hx hb d_LA_law_691 ?_
        refine va_sld hx hb hX hbl hbA hS (vp_in_nI (n := (i + 2)) (by omega) (by omega)) d_LA_law_692 ?_
        refine lv_toi (z := (nI ky)) ((congrArg xs (nI_clamp (by omega))).trans hky2) ?_
        refine lv_aload_n hx hb d_LA_law_693 rfl (lv_at hl 1 rfl) ?_
        refine lv_iload hx hb d_LA_law_694 (lv_at hl 5 rfl) ?_
        refine lv_iconst (v := nI 3) hx hb d_LA_law_696 (by decide) ?_
        refine z_add hx hb d_LA_law_697 ?_
        refine va_sld hx hb hX hbl hbA hS (vp_in_nI (n := (i + 3)) (by omega) (by omega)) d_LA_law_698 ?_
        refine lv_toi (z := (nI 1)) ((congrArg xs (nI_clamp (by omega))).trans hs0) ?_
        have hi0 : ∀ p ∈ kMO cA cZ c2 cT cL s.heap.size M z, (s.heap.size + 69 ≤ p.1 ∧ p.1 < s.heap.size + 97) := in_kMO
        have hn0 : va_D (fun _ => True) (kMO cA cZ c2 cT cL s.heap.size M z) := nd_kMO
        refine zg_V (V := Unit) (ci := 10) (q0 := 0) (As := [.int (nI kx), .int (nI ky), .int (nI 1)]) (rest := []) (n := 3) (wsC := kMO cA cZ c2 cT cL s.heap.size M z) (φ := fun _ => True) (wv := fun _ => kMO cA cZ c2 cT cL s.heap.size (mS 0 0 M) z) (rv := .long (lN (M.1 7 (64 * kx + ky)))) ⟨hx, hb, hml, hown, hts⟩ (met_u (c_MO_shape_1 l D _ (laM s.heap.size) cA cZ cL M z kx ky hit (by omega) hky (by omega))) ⟨km_LA_103, ki_MO_shape, ks_MO_shape, kn_MO, kd_MO_shape⟩ (by decide +kernel) (by decide) ⟨(by show cs + 0 ≤ 601024; omega), (by show sl + 0 ≤ 7293000; omega)⟩ (hK.sub [0, 1, 4] rfl) (h_kMO) hn0 hS (la_A hS (fun p hp => by have := hi0 p hp; omega)) rfl rfl rfl hl.1 rfl (Nat.le_of_ble_eq_true rfl) d_LA_law_699 (fun _ H1 locs1 hph hP1 hz1 hf1 hS1 => ?_)
        have hq0 := hP1
        have h_kSB := hf1.far h_kSB in_kSB (fun p hp => by have := hi0 p hp; omega)
        have h_kBL := hf1.far h_kBL in_kBL (fun p hp => by have := hi0 p hp; omega)
        have h_kNE := hf1.far h_kNE in_kNE (fun p hp => by have := hi0 p hp; omega)
        have h_kP := hf1.far h_kP in_kP (fun p hp => by have := hi0 p hp; omega)
        have h_kSE := hf1.far h_kSE in_kSE (fun p hp => by have := hi0 p hp; omega)
        have h_kQ := hf1.far h_kQ in_kQ (fun p hp => by have := hi0 p hp; omega)
        have h_kDR := hf1.far h_kDR in_kDR (fun p hp => by have := hi0 p hp; omega)
        have h_kPI := hf1.far h_kPI in_kPI (fun p hp => by have := hi0 p hp; omega)
        have h_kOU := hf1.far h_kOU in_kOU (fun p hp => by have := hi0 p hp; omega)
        have h_kMO := hq0
        have hT := th_kept0 hT hO hf1 (fun p hp => by have := hi0 p hp; omega)
        have hS := hS1
        clear hf1 hS1 hP1 hn0 hi0
        refine lv_lstore (lv' := [(6, .long (lN (M.1 7 (64 * kx + ky)))), (5, .int (nI 0)), (0, .ref b), (1, .ref s.heap.size), (2, .ref (s.heap.size + 69)), (3, .ref (s.heap.size + 97)), (4, .int (nI i))]) hx hb d_LA_law_702 hl (by decide) rfl (fun ls hl => ?_)
        refine lv_aload_n hx hb d_LA_law_704 rfl (lv_at hl 4 rfl) ?_
        refine zrM_V (ci := 10) (q0 := 0) (As := []) (rest := []) (n := 0) (wsC := kMO cA cZ c2 cT cL s.heap.size (mS 0 0 M) z) ⟨hx, hb, hml, hown, hts⟩ (c_MO_thrown l D (laM s.heap.size) cA cZ cL (mS 0 0 M) z) ⟨km_LA_80, ki_MO_thrown, ks_MO_thrown, kn_MO, kd_MO_thrown⟩ (by decide +kernel) (by decide) ⟨(by show cs + 0 ≤ 601024; omega), (by show sl + 0 ≤ 7293000; omega)⟩ (hK.sub [0, 1, 4] rfl) h_kMO rfl rfl rfl hl.1 rfl (Nat.le_of_ble_eq_true rfl) d_LA_law_705 ?_
        refine lv_toi (z := nI 0) rfl ?_
        refine lv_iload hx hb d_LA_law_708 (lv_at hl 1 rfl) ?_
        refine z_ceq (tgt := 715) hx hb d_LA_law_710 (by decide) (by omega) (by omega) (fun _ => ?_) (fun h => absurd h (by omega))
        refine lv_iload hx hb d_LA_law_715 (lv_at hl 1 rfl) ?_
        refine z_0ne (tgt := 731) hx hb d_LA_law_717 (by decide) (by omega) (fun h => absurd h (by omega)) (fun _ => ?_)
        refine lv_aload_n hx hb d_LA_law_720 rfl (lv_at hl 5 rfl) ?_
        refine lv_iconst (v := nI 0) hx hb d_LA_law_721 (by decide) ?_
        refine va_lald hx hb hK h_kOU 0 4 rfl rfl (vp_in_nI (n := 0) (by decide) (by decide)) d_LA_law_722 ?_
        refine lv_tol (z := lN ((u kx).2.1 ky)) rfl ?_
        refine lv_lload hx hb d_LA_law_723 (lv_at hl 0 rfl) ?_
        refine y_leq (tgt := 731) hx hb d_LA_law_725 d_LA_law_726 (by decide) (fun _ => ?_) (fun c9 => absurd (congrArg lN (a3 ky hky).2) c9)
        refine lv_goto (tgt := 1221) hx hb d_LA_law_731 (by decide) ?_
        exact kk _ _ _ _ ls (by omega) (by omega) hS ⟨tc, tf, B, P, Qp, N, ah, kw, z, nn, sd, cf, lf, cn, (mS 0 0 M), (o1 fo (lN ((u kx).2.1 ky))), bk, us, u, cap, wt, tB, ⟨h_kSB, h_kBL, h_kNE, h_kP, h_kSE, h_kQ, h_kDR, h_kPI, h_kMO, h_kOU⟩, hT, hO, RelG_ag hG ⟨⟨rfl, rfl, rfl, rfl, rfl, rfl, rfl, rfl, rfl, rfl, rfl, rfl⟩, ⟨rfl, rfl, rfl, rfl⟩, rfl, rfl, rfl⟩, RelT_ag hR ⟨⟨rfl, rfl, rfl, rfl, rfl, rfl, rfl, rfl, rfl, rfl, rfl, rfl⟩, ⟨rfl, rfl, rfl, rfl⟩, rfl, rfl, rfl⟩, hq⟩ (lv_sub hl [2, 3, 4, 5, 6] rfl)
set_option maxHeartbeats 4000000 in
set_option maxRecDepth 100000 in
/-- least -/
theorem lc_least {p : Program} {l : Launch} {e : Env} {s : State} {m : MethodId} {below : List Frame} {meth : Method} {c : Code} {b L : Nat} {xs : Nat → Int32} {D : va_G} {cA cZ c2 cT cL : ClassId} {Q : State → Prop} (C : lawC p l s m c b L xs D cA cZ c2 cT cL) {i cs sl : Nat} {H : Heap} {locs : List Loc} {ls : Array Slot} (hi : i + 6 ≤ L) (hcs : cs + 10 ≤ 601024) (hsl : sl + 200 ≤ 7293000) (hS : va_S (lA s) s.heap H locs) (hI : lawI D cA cZ c2 cT cL s.heap.size H) (hl : lv_has ls 8 [(0, .ref b), (1, .ref s.heap.size), (2, .ref (s.heap.size + 69)), (3, .ref (s.heap.size + 97)), (4, .int (nI i))]) (kk : ∀ (H1 : Heap) (locs1 : List Loc) (cs1 sl1 : Nat) (ls1 : Array Slot), cs1 ≤ cs + 10 → sl1 ≤ sl + 200 → va_S (lA s) s.heap H1 locs1 → lawI D cA cZ c2 cT cL s.heap.size H1 → lv_has ls1 8 [(0, .ref b), (1, .ref s.heap.size), (2, .ref (s.heap.size + 69)), (3, .ref (s.heap.size + 97)), (4, .int (nI i))] → W p l e room_1 s m #[Value.ref b] below meth c H1 locs1 cs1 sl1 Q (F0 m 1221 ls1 [])) : W p l e room_1 s m #[Value.ref b] below meth c H locs cs sl Q (F0 m 734 ls []) := by
  obtain ⟨hx, hb, hml, hown, hts, hX, hbl, hL, hK, htl, hF1, hF2⟩ := C
  have hbA : ¬ lA s b := fun h => by have h : s.heap.size ≤ b := h; omega
  obtain ⟨tc, tf, B, P, Qp, N, ah, kw, z, nn, sd, cf, lf, cn, M, fo, bk, us, u, cap, wt, tB, ⟨h_kSB, h_kBL, h_kNE, h_kP, h_kSE, h_kQ, h_kDR, h_kPI, h_kMO, h_kOU⟩, hT, hO, hG, hR, hq⟩ := hI
  have h40 : tc ≤ 40 := hR.2.1
  have h17 : M.2.2.1 17 = B.2.2.2 := hG.2.2.1.1.2.1
  have h16 : B.2.2.2 ≤ 16 := hG.1.1.1
  have hT : thA D cA bk us u cap tB tc tf s.heap.size H := hT
  by_cases hv : xs (i + 1) < 0 ∨ nI tc ≤ xs (i + 1)
  · refine lv_aload_n hx hb d_LA_law_734 rfl (lv_at hl 1 rfl) ?_
    refine lv_aload_n hx hb d_LA_law_735 rfl (lv_at hl 0 rfl) ?_
    refine lv_iload hx hb d_LA_law_736 (lv_at hl 4 rfl) ?_
    refine lv_iconst (v := nI 1) hx hb d_LA_law_738 (by decide) ?_
    refine z_add hx hb d_LA_law_739 ?_
    refine va_sld hx hb hX hbl hbA hS (vp_in_nI (n := (i + 1)) (by omega) (by omega)) d_LA_law_740 ?_
    refine lv_toi (z := xs (i + 1)) (congrArg xs (nI_clamp (by omega))) ?_
    refine lv_aload_n hx hb d_LA_law_741 rfl (lv_at hl 3 rfl) ?_
    have hi0 : ∀ p ∈ kSB cA cZ c2 cT cL s.heap.size tc tf, (s.heap.size + 0 ≤ p.1 ∧ p.1 < s.heap.size + 2) := in_kSB
    have hn0 : va_D (fun _ => True) (kSB cA cZ c2 cT cL s.heap.size tc tf) := nd_kSB
    refine zg_H (V := Unit) (F := zT2) (mc := 1) (ms := 6) (As := [.ref s.heap.size, .int (xs (i + 1)), .ref (s.heap.size + 97)]) (rest := []) (n := 3) (wsC := kSB cA cZ c2 cT cL s.heap.size tc tf) (φ := fun _ => True) (wv := fun _ => kSB cA cZ c2 cT cL s.heap.size tc tf) (rv := .int (nI 1)) zT2_ok ⟨hx, hb, hml, hown, hts⟩ (met_u (h_least_x l D htl _ (fun k => s.heap.size + k) (fun k => s.heap.size + 2 + k) (fun k => s.heap.size + 11 + k) (fun k => s.heap.size + 15 + k) (fun k => s.heap.size + 30 + 16 * k) (laI s.heap.size) cA cZ c2 cT tc tf (s.heap.size + 97) (xs (i + 1)) hv)) ⟨km_LA_104, kst_LA_least, kn_LA, kw_LA_least⟩ (by decide +kernel) (by decide) ⟨(by show cs + 1 ≤ 601024; omega), (by show sl + 6 ≤ 7293000; omega)⟩ (hK.sub [0, 1, 2, 3] rfl) (h_kSB) hn0 hS (la_A hS (fun p hp => by have := hi0 p hp; omega)) hF2 rfl hl.1 rfl (Nat.le_of_ble_eq_true rfl) d_LA_law_742 (fun _ H1 locs1 hph hP1 hz1 hf1 hS1 => ?_)
    have hq0 := hP1
    have h_kBL := hf1.far h_kBL in_kBL (fun p hp => by have := hi0 p hp; omega)
    have h_kNE := hf1.far h_kNE in_kNE (fun p hp => by have := hi0 p hp; omega)
    have h_kP := hf1.far h_kP in_kP (fun p hp => by have := hi0 p hp; omega)
    have h_kSE := hf1.far h_kSE in_kSE (fun p hp => by have := hi0 p hp; omega)
    have h_kQ := hf1.far h_kQ in_kQ (fun p hp => by have := hi0 p hp; omega)
    have h_kDR := hf1.far h_kDR in_kDR (fun p hp => by have := hi0 p hp; omega)
    have h_kPI := hf1.far h_kPI in_kPI (fun p hp => by have := hi0 p hp; omega)
    have h_kMO := hf1.far h_kMO in_kMO (fun p hp => by have := hi0 p hp; omega)
    have h_kOU := hf1.far h_kOU in_kOU (fun p hp => by have := hi0 p hp; omega)
    have h_kSB := hq0
    have hT := th_kept0 hT hO hf1 (fun p hp => by have := hi0 p hp; omega)
    have hS := hS1
    clear hf1 hS1 hP1 hn0 hi0
    refine lv_istore (lv' := [(5, .int (nI 1)), (0, .ref b), (1, .ref s.heap.size), (2, .ref (s.heap.size + 69)), (3, .ref (s.heap.size + 97)), (4, .int (nI i))]) hx hb d_LA_law_745 hl (by decide) rfl (fun ls hl => ?_)
    refine lv_aload_n hx hb d_LA_law_747 rfl (lv_at hl 3 rfl) ?_
    refine lv_aload_n hx hb d_LA_law_748 rfl (lv_at hl 1 rfl) ?_
    refine lv_iload hx hb d_LA_law_749 (lv_at hl 5 rfl) ?_
    refine lv_iconst (v := nI 1) hx hb d_LA_law_751 (by decide) ?_
    refine z_add hx hb d_LA_law_752 ?_
    refine va_sld hx hb hX hbl hbA hS (vp_in_nI (n := (i + 1)) (by omega) (by omega)) d_LA_law_753 ?_
    refine lv_toi (z := xs (i + 1)) (congrArg xs (nI_clamp (by omega))) ?_
    have hi0 : ∀ p ∈ kMO cA cZ c2 cT cL s.heap.size M z, (s.heap.size + 69 ≤ p.1 ∧ p.1 < s.heap.size + 97) := in_kMO
    have hn0 : va_D (fun _ => True) (kMO cA cZ c2 cT cL s.heap.size M z) := nd_kMO
    refine zg_V (V := Unit) (ci := 10) (q0 := 0) (As := [.int (xs (i + 1))]) (rest := []) (n := 1) (wsC := kMO cA cZ c2 cT cL s.heap.size M z) (φ := fun _ => True) (wv := fun _ => kMO cA cZ c2 cT cL s.heap.size (mS 0 1 M) z) (rv := .long (lN 0)) ⟨hx, hb, hml, hown, hts⟩ (met_u (c_MO_least_no l D _ (laM s.heap.size) cA cZ cL M z (xs (i + 1)) (by rw [hR.1]; exact isT_f hv))) ⟨km_LA_106, ki_MO_least, ks_MO_least, kn_MO, kd_MO_least⟩ (by decide +kernel) (by decide) ⟨(by show cs + 1 + 0 ≤ 601024; omega), (by show sl + 6 + 0 ≤ 7293000; omega)⟩ (hK.sub [0, 1, 4] rfl) (h_kMO) hn0 hS (la_A hS (fun p hp => by have := hi0 p hp; omega)) rfl rfl rfl hl.1 rfl (Nat.le_of_ble_eq_true rfl) d_LA_law_754 (fun _ H1 locs1 hph hP1 hz1 hf1 hS1 => ?_)
    have hq0 := hP1
    have h_kSB := hf1.far h_kSB in_kSB (fun p hp => by have := hi0 p hp; omega)
    have h_kBL := hf1.far h_kBL in_kBL (fun p hp => by have := hi0 p hp; omega)
    have h_kNE := hf1.far h_kNE in_kNE (fun p hp => by have := hi0 p hp; omega)
    have h_kP := hf1.far h_kP in_kP (fun p hp => by have := hi0 p hp; omega)
    have h_kSE := hf1.far h_kSE in_kSE (fun p hp => by have := hi0 p hp; omega)
    have h_kQ := hf1.far h_kQ in_kQ (fun p hp => by have := hi0 p hp; omega)
    have h_kDR := hf1.far h_kDR in_kDR (fun p hp => by have := hi0 p hp; omega)
    have h_kPI := hf1.far h_kPI in_kPI (fun p hp => by have := hi0 p hp; omega)
    have h_kOU := hf1.far h_kOU in_kOU (fun p hp => by have := hi0 p hp; omega)
    have h_kMO := hq0
    have hT := th_kept0 hT hO hf1 (fun p hp => by have := hi0 p hp; omega)
    have hS := hS1
    clear hf1 hS1 hP1 hn0 hi0
    refine lv_lstore (lv' := [(6, .long (lN 0)), (5, .int (nI 1)), (0, .ref b), (1, .ref s.heap.size), (2, .ref (s.heap.size + 69)), (3, .ref (s.heap.size + 97)), (4, .int (nI i))]) hx hb d_LA_law_757 hl (by decide) rfl (fun ls hl => ?_)
    refine lv_aload_n hx hb d_LA_law_759 rfl (lv_at hl 4 rfl) ?_
    refine zrM_V (ci := 10) (q0 := 0) (As := []) (rest := []) (n := 0) (wsC := kMO cA cZ c2 cT cL s.heap.size (mS 0 1 M) z) ⟨hx, hb, hml, hown, hts⟩ (c_MO_thrown l D (laM s.heap.size) cA cZ cL (mS 0 1 M) z) ⟨km_LA_80, ki_MO_thrown, ks_MO_thrown, kn_MO, kd_MO_thrown⟩ (by decide +kernel) (by decide) ⟨(by show cs + 1 + 0 ≤ 601024; omega), (by show sl + 6 + 0 ≤ 7293000; omega)⟩ (hK.sub [0, 1, 4] rfl) h_kMO rfl rfl rfl hl.1 rfl (Nat.le_of_ble_eq_true rfl) d_LA_law_760 ?_
    refine lv_toi (z := nI 1) rfl ?_
    refine lv_iload hx hb d_LA_law_763 (lv_at hl 1 rfl) ?_
    refine z_ceq (tgt := 770) hx hb d_LA_law_765 (by decide) (by omega) (by omega) (fun _ => ?_) (fun h => absurd h (by omega))
    refine lv_iload hx hb d_LA_law_770 (lv_at hl 1 rfl) ?_
    refine z_0ne (tgt := 786) hx hb d_LA_law_772 (by decide) (by omega) (fun _ => ?_) (fun h => absurd h (by omega))
    refine lv_goto (tgt := 1221) hx hb d_LA_law_786 (by decide) ?_
    exact kk _ _ _ _ ls (by omega) (by omega) hS ⟨tc, tf, B, P, Qp, N, ah, kw, z, nn, sd, cf, lf, cn, (mS 0 1 M), fo, bk, us, u, cap, wt, tB, ⟨h_kSB, h_kBL, h_kNE, h_kP, h_kSE, h_kQ, h_kDR, h_kPI, h_kMO, h_kOU⟩, hT, hO, RelG_ag hG ⟨⟨rfl, rfl, rfl, rfl, rfl, rfl, rfl, rfl, rfl, rfl, rfl, rfl⟩, ⟨rfl, rfl, rfl, rfl⟩, rfl, rfl, rfl⟩, RelT_ag hR ⟨⟨rfl, rfl, rfl, rfl, rfl, rfl, rfl, rfl, rfl, rfl, rfl, rfl⟩, ⟨rfl, rfl, rfl, rfl⟩, rfl, rfl, rfl⟩, hq⟩ (lv_sub hl [2, 3, 4, 5, 6] rfl)
  · obtain ⟨kx, hkx, hke⟩ := tn_of h40 hv
    obtain ⟨a1, a2, a3, a4, a5, a6, a7, a8, a9⟩ := hR.2.2.2.2.1 kx hkx
    have hit : isT (M.2.2.1 9) (nI kx) = true := by rw [hR.1]; exact isT_t h40 hkx
    have hlo := least_of hR hkx
    refine lv_aload_n hx hb d_LA_law_734 rfl (lv_at hl 1 rfl) ?_
    refine lv_aload_n hx hb d_LA_law_735 rfl (lv_at hl 0 rfl) ?_
    refine lv_iload hx hb d_LA_law_736 (lv_at hl 4 rfl) ?_
    refine lv_iconst (v := nI 1) hx hb d_LA_law_738 (by decide) ?_
    refine z_add hx hb d_LA_law_739 ?_
    refine va_sld hx hb hX hbl hbA hS (vp_in_nI (n := (i + 1)) (by omega) (by omega)) d_LA_law_740 ?_
    refine lv_toi (z := (nI kx)) ((congrArg xs (nI_clamp (by omega))).trans hke) ?_
    refine lv_aload_n hx hb d_LA_law_741 rfl (lv_at hl 3 rfl) ?_
    have hTs : thS D cA bk us u cap tB tc (lTO cA (tB kx) (bk kx) (us kx) ++ lTL cA (tB kx) (cap kx) (u kx)) H := thS_q hT hkx
    have hTi := thS_in (h0 := s.heap.size) hT hTs
    have hi0 : ∀ p ∈ lTO cA (tB kx) (bk kx) (us kx) ++ lTL cA (tB kx) (cap kx) (u kx), (s.heap.size + 98 ≤ p.1) := hTi
    have hn0 : va_D (fun _ => True) (lTO cA (tB kx) (bk kx) (us kx) ++ lTL cA (tB kx) (cap kx) (u kx)) := hTs.2.1
    have hn1 : va_D (fun _ => True) ((lTO cA (tB kx) (bk kx) (us kx) ++ lTL cA (tB kx) (cap kx) (u kx)) ++ (kSB cA cZ c2 cT cL s.heap.size tc tf)) := nd_app hn0 nd_kSB (fun p hp q hq e9 => by have := hi0 p hp; have := in_kSB q hq; omega)
    have hi1 : ∀ p ∈ (lTO cA (tB kx) (bk kx) (us kx) ++ lTL cA (tB kx) (cap kx) (u kx)) ++ (kSB cA cZ c2 cT cL s.heap.size tc tf), (s.heap.size + 98 ≤ p.1) ∨ (s.heap.size + 0 ≤ p.1 ∧ p.1 < s.heap.size + 2) := fun p hp => (List.mem_append.mp hp).elim (fun h => by have := hi0 p h; omega) (fun h => by have := in_kSB p h; omega)
    have hn2 : va_D (fun _ => True) (((lTO cA (tB kx) (bk kx) (us kx) ++ lTL cA (tB kx) (cap kx) (u kx)) ++ (kSB cA cZ c2 cT cL s.heap.size tc tf)) ++ (kOU cA cZ c2 cT cL s.heap.size fo)) := nd_app hn1 nd_kOU (fun p hp q hq e9 => by have := hi1 p hp; have := in_kOU q hq; omega)
    have hi2 : ∀ p ∈ ((lTO cA (tB kx) (bk kx) (us kx) ++ lTL cA (tB kx) (cap kx) (u kx)) ++ (kSB cA cZ c2 cT cL s.heap.size tc tf)) ++ (kOU cA cZ c2 cT cL s.heap.size fo), (s.heap.size + 98 ≤ p.1) ∨ (s.heap.size + 0 ≤ p.1 ∧ p.1 < s.heap.size + 2) ∨ (s.heap.size + 97 ≤ p.1 ∧ p.1 < s.heap.size + 98) := fun p hp => (List.mem_append.mp hp).elim (fun h => by have := hi1 p h; omega) (fun h => by have := in_kOU p h; omega)
    have hw9 : ∀ p ∈ ((lTO cA (tB kx) (bk kx) (us kx) ++ lTL cA (tB kx) (cap kx) (u kx)) ++ (kSB cA cZ c2 cT cL s.heap.size tc tf)) ++ (kOU cA cZ c2 cT cL s.heap.size fo), p.1 < s.heap.size + 98 ∨ p ∈ lTO cA (tB kx) (bk kx) (us kx) ++ lTL cA (tB kx) (cap kx) (u kx) := fun p hp => (List.mem_append.mp hp).elim (fun h => (List.mem_append.mp h).elim (fun h => Or.inr h) (fun h => Or.inl (by have := in_kSB p h; omega))) (fun h => Or.inl (by have := in_kOU p h; omega))
    refine zg_H (V := Unit) (F := zF0) (mc := 0) (ms := 0) (As := [.ref s.heap.size, .int (nI kx), .ref (s.heap.size + 97)]) (rest := []) (n := 3) (wsC := ((lTO cA (tB kx) (bk kx) (us kx) ++ lTL cA (tB kx) (cap kx) (u kx)) ++ (kSB cA cZ c2 cT cL s.heap.size tc tf)) ++ (kOU cA cZ c2 cT cL s.heap.size fo)) (φ := fun _ => True) (wv := fun _ => ((lTO cA (tB kx) (bk kx) (us kx) ++ lTL cA (tB kx) (cap kx) (u kx)) ++ (kSB cA cZ c2 cT cL s.heap.size tc tf)) ++ (kOU cA cZ c2 cT cL s.heap.size (o1 fo (lN (lar (u kx).1 (u kx).2.1 (u kx).2.2))))) (rv := .int (nI 0)) zF0_ok ⟨hx, hb, hml, hown, hts⟩ (met_u (met_f (h_least l D _ (fun k => s.heap.size + k) (fun k => s.heap.size + 2 + k) (fun k => s.heap.size + 11 + k) (fun k => s.heap.size + 15 + k) (fun k => s.heap.size + 30 + 16 * k) (laI s.heap.size) cA cZ c2 cT tc tf (s.heap.size + 97) cL fo (tB kx) (tB kx + 1) (tB kx + 2) (tB kx + 3) (cap kx) (u kx).2.2 (u kx).1 (u kx).2.1 (bk kx) (us kx) kx h40 hkx (hT kx hkx).2.2 (by omega) (by omega) (fun i => by have := a7 i; omega)))) ⟨km_LA_104, kst_LA_least, kn_LA, kw_LA_least⟩ (by decide +kernel) (by decide) ⟨(by show cs + 0 ≤ 601024; omega), (by show sl + 0 ≤ 7293000; omega)⟩ (hK.sub [0, 1, 2, 3, 4] rfl) (((hTs.1).app h_kSB).app h_kOU) hn2 hS (la_A hS (fun p hp => by have := hi2 p hp; omega)) trivial rfl hl.1 rfl (Nat.le_of_ble_eq_true rfl) d_LA_law_742 (fun _ H1 locs1 hph hP1 hz1 hf1 hS1 => ?_)
    have hq2 := va_P.right hP1
    have hr2 := va_P.left hP1
    have hq1 := va_P.right hr2
    have hr1 := va_P.left hr2
    have hq0 := hr1
    have h_kBL := hf1.far h_kBL in_kBL (fun p hp => by have := hi2 p hp; omega)
    have h_kNE := hf1.far h_kNE in_kNE (fun p hp => by have := hi2 p hp; omega)
    have h_kP := hf1.far h_kP in_kP (fun p hp => by have := hi2 p hp; omega)
    have h_kSE := hf1.far h_kSE in_kSE (fun p hp => by have := hi2 p hp; omega)
    have h_kQ := hf1.far h_kQ in_kQ (fun p hp => by have := hi2 p hp; omega)
    have h_kDR := hf1.far h_kDR in_kDR (fun p hp => by have := hi2 p hp; omega)
    have h_kPI := hf1.far h_kPI in_kPI (fun p hp => by have := hi2 p hp; omega)
    have h_kMO := hf1.far h_kMO in_kMO (fun p hp => by have := hi2 p hp; omega)
    have h_kSB := hq1
    have h_kOU := hq2
    have hT := th_kept hT hO hf1 hw9 hTs hq0
    have hS := hS1
    clear hf1 hS1 hP1 hn0 hi0 hn1 hi1 hn2 hi2
    refine lv_istore (lv' := [(5, .int (nI 0)), (0, .ref b), (1, .ref s.heap.size), (2, .ref (s.heap.size + 69)), (3, .ref (s.heap.size + 97)), (4, .int (nI i))]) hx hb d_LA_law_745 hl (by decide) rfl (fun ls hl => ?_)
    refine lv_aload_n hx hb d_LA_law_747 rfl (lv_at hl 3 rfl) ?_
    refine lv_aload_n hx hb d_LA_law_748 rfl (lv_at hl 1 rfl) ?_
    refine lv_iload hx hb d_LA_law_749 (lv_at hl 5 rfl) ?_
    refine lv_iconst (v := nI 1) hx hb d_LA_law_751 (by decide) ?_
    refine z_add hx hb d_LA_law_752 ?_
    refine va_sld hx hb hX hbl hbA hS (vp_in_nI (n := (i + 1)) (by omega) (by omega)) d_LA_law_753 ?_
    refine lv_toi (z := (nI kx)) ((congrArg xs (nI_clamp (by omega))).trans hke) ?_
    have hi0 : ∀ p ∈ kMO cA cZ c2 cT cL s.heap.size M z, (s.heap.size + 69 ≤ p.1 ∧ p.1 < s.heap.size + 97) := in_kMO
    have hn0 : va_D (fun _ => True) (kMO cA cZ c2 cT cL s.heap.size M z) := nd_kMO
    refine zg_V (V := Unit) (ci := 10) (q0 := 0) (As := [.int (nI kx)]) (rest := []) (n := 1) (wsC := kMO cA cZ c2 cT cL s.heap.size M z) (φ := fun _ => True) (wv := fun _ => kMO cA cZ c2 cT cL s.heap.size (mS 0 0 M) z) (rv := .long (lN (lea (fun k => M.1 6 (64 * kx + k)) (fun k => M.1 7 (64 * kx + k)) (M.1 8 kx - 1)))) ⟨hx, hb, hml, hown, hts⟩ (met_u (c_MO_least l D _ (laM s.heap.size) cA cZ cL M z kx hit (by omega) a4 (by omega) hlo.2)) ⟨km_LA_106, ki_MO_least, ks_MO_least, kn_MO, kd_MO_least⟩ (by decide +kernel) (by decide) ⟨(by show cs + 0 ≤ 601024; omega), (by show sl + 0 ≤ 7293000; omega)⟩ (hK.sub [0, 1, 4] rfl) (h_kMO) hn0 hS (la_A hS (fun p hp => by have := hi0 p hp; omega)) rfl rfl rfl hl.1 rfl (Nat.le_of_ble_eq_true rfl) d_LA_law_754 (fun _ H1 locs1 hph hP1 hz1 hf1 hS1 => ?_)
    have hq0 := hP1
    have h_kSB := hf1.far h_kSB in_kSB (fun p hp => by have := hi0 p hp; omega)
    have h_kBL := hf1.far h_kBL in_kBL (fun p hp => by have := hi0 p hp; omega)
    have h_kNE := hf1.far h_kNE in_kNE (fun p hp => by have := hi0 p hp; omega)
    have h_kP := hf1.far h_kP in_kP (fun p hp => by have := hi0 p hp; omega)
    have h_kSE := hf1.far h_kSE in_kSE (fun p hp => by have := hi0 p hp; omega)
    have h_kQ := hf1.far h_kQ in_kQ (fun p hp => by have := hi0 p hp; omega)
    have h_kDR := hf1.far h_kDR in_kDR (fun p hp => by have := hi0 p hp; omega)
    have h_kPI := hf1.far h_kPI in_kPI (fun p hp => by have := hi0 p hp; omega)
    have h_kOU := hf1.far h_kOU in_kOU (fun p hp => by have := hi0 p hp; omega)
    have h_kMO := hq0
    have hT := th_kept0 hT hO hf1 (fun p hp => by have := hi0 p hp; omega)
    have hS := hS1
    clear hf1 hS1 hP1 hn0 hi0
    refine lv_lstore (lv' := [(6, .long (lN (lea (fun k => M.1 6 (64 * kx + k)) (fun k => M.1 7 (64 * kx + k)) (M.1 8 kx - 1)))), (5, .int (nI 0)), (0, .ref b), (1, .ref s.heap.size), (2, .ref (s.heap.size + 69)), (3, .ref (s.heap.size + 97)), (4, .int (nI i))]) hx hb d_LA_law_757 hl (by decide) rfl (fun ls hl => ?_)
    refine lv_aload_n hx hb d_LA_law_759 rfl (lv_at hl 4 rfl) ?_
    refine zrM_V (ci := 10) (q0 := 0) (As := []) (rest := []) (n := 0) (wsC := kMO cA cZ c2 cT cL s.heap.size (mS 0 0 M) z) ⟨hx, hb, hml, hown, hts⟩ (c_MO_thrown l D (laM s.heap.size) cA cZ cL (mS 0 0 M) z) ⟨km_LA_80, ki_MO_thrown, ks_MO_thrown, kn_MO, kd_MO_thrown⟩ (by decide +kernel) (by decide) ⟨(by show cs + 0 ≤ 601024; omega), (by show sl + 0 ≤ 7293000; omega)⟩ (hK.sub [0, 1, 4] rfl) h_kMO rfl rfl rfl hl.1 rfl (Nat.le_of_ble_eq_true rfl) d_LA_law_760 ?_
    refine lv_toi (z := nI 0) rfl ?_
    refine lv_iload hx hb d_LA_law_763 (lv_at hl 1 rfl) ?_
    refine z_ceq (tgt := 770) hx hb d_LA_law_765 (by decide) (by omega) (by omega) (fun _ => ?_) (fun h => absurd h (by omega))
    refine lv_iload hx hb d_LA_law_770 (lv_at hl 1 rfl) ?_
    refine z_0ne (tgt := 786) hx hb d_LA_law_772 (by decide) (by omega) (fun h => absurd h (by omega)) (fun _ => ?_)
    refine lv_aload_n hx hb d_LA_law_775 rfl (lv_at hl 5 rfl) ?_
    refine lv_iconst (v := nI 0) hx hb d_LA_law_776 (by decide) ?_
    refine va_lald hx hb hK h_kOU 0 4 rfl rfl (vp_in_nI (n := 0) (by decide) (by decide)) d_LA_law_777 ?_
    refine lv_tol (z := lN (lar (u kx).1 (u kx).2.1 (u kx).2.2)) rfl ?_
    refine lv_lload hx hb d_LA_law_778 (lv_at hl 0 rfl) ?_
    refine y_leq (tgt := 786) hx hb d_LA_law_780 d_LA_law_781 (by decide) (fun _ => ?_) (fun c9 => absurd (congrArg lN hlo.1) c9)
    refine lv_goto (tgt := 1221) hx hb d_LA_law_786 (by decide) ?_
    exact kk _ _ _ _ ls (by omega) (by omega) hS ⟨tc, tf, B, P, Qp, N, ah, kw, z, nn, sd, cf, lf, cn, (mS 0 0 M), (o1 fo (lN (lar (u kx).1 (u kx).2.1 (u kx).2.2))), bk, us, u, cap, wt, tB, ⟨h_kSB, h_kBL, h_kNE, h_kP, h_kSE, h_kQ, h_kDR, h_kPI, h_kMO, h_kOU⟩, hT, hO, RelG_ag hG ⟨⟨rfl, rfl, rfl, rfl, rfl, rfl, rfl, rfl, rfl, rfl, rfl, rfl⟩, ⟨rfl, rfl, rfl, rfl⟩, rfl, rfl, rfl⟩, RelT_ag hR ⟨⟨rfl, rfl, rfl, rfl, rfl, rfl, rfl, rfl, rfl, rfl, rfl, rfl⟩, ⟨rfl, rfl, rfl, rfl⟩, rfl, rfl, rfl⟩, hq⟩ (lv_sub hl [2, 3, 4, 5, 6] rfl)
