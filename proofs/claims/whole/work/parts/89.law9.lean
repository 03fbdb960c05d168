theorem nI_inj9 {a b : Nat} (ha : a < 16) (hb : b < 16) (h : nI a = nI b) : a = b := by
  have e := congrArg Int32.toInt h
  rw [nI_toInt (by omega), nI_toInt (by omega)] at e
  omega
theorem RelT_nt {n tc k aa bb : Nat} {bk : Nat → Int32} {us : Nat → Bool} {u : Nat → FL} {cap wt : Nat → Nat} {M : MS} (h : RelT n tc bk us u cap wt M) : RelT n tc bk us u cap wt (mN 18 (va_up (M.1 18) (M.2.2.1 20) aa) (mN 19 (va_up (M.1 19) (M.2.2.1 20) bb) (mS 20 k (mS 0 0 M)))) := h
theorem RelT_fl {n tc bb fx fy : Nat} {bk : Nat → Int32} {us : Nat → Bool} {u : Nat → FL} {cap wt : Nat → Nat} {M : MS} {v2 : V5} (h : RelT n tc bk us u cap wt M) : RelT n tc bk us u cap wt (mq (flM bb fx fy (mS 0 0 M)) v2) := h
set_option maxHeartbeats 4000000 in
set_option maxRecDepth 100000 in
/-- net -/
theorem lc_net {p : Program} {l : Launch} {e : Env} {s : State} {m : MethodId} {below : List Frame} {meth : Method} {c : Code} {b L : Nat} {xs : Nat → Int32} {D : va_G} {cA cZ c2 cT cL : ClassId} {Q : State → Prop} (C : lawC p l s m c b L xs D cA cZ c2 cT cL) {i cs sl : Nat} {H : Heap} {locs : List Loc} {ls : Array Slot} (hi : i + 6 ≤ L) (hcs : cs + 10 ≤ 601024) (hsl : sl + 200 ≤ 7293000) (hS : va_S (lA s) s.heap H locs) (hI : lawI D cA cZ c2 cT cL s.heap.size H) (hl : lv_has ls 8 [(0, .ref b), (1, .ref s.heap.size), (2, .ref (s.heap.size + 69)), (3, .ref (s.heap.size + 97)), (4, .int (nI i))]) (kk : ∀ (H1 : Heap) (locs1 : List Loc) (cs1 sl1 : Nat) (ls1 : Array Slot), cs1 ≤ cs + 10 → sl1 ≤ sl + 200 → va_S (lA s) s.heap H1 locs1 → lawI D cA cZ c2 cT cL s.heap.size H1 → lv_has ls1 8 [(0, .ref b), (1, .ref s.heap.size), (2, .ref (s.heap.size + 69)), (3, .ref (s.heap.size + 97)), (4, .int (nI i))] → W p l e room_1 s m #[Value.ref b] below meth c H1 locs1 cs1 sl1 Q (F0 m 1221 ls1 [])) : W p l e room_1 s m #[Value.ref b] below meth c H locs cs sl Q (F0 m 435 ls []) := by
  obtain ⟨hx, hb, hml, hown, hts, hX, hbl, hL, hK, htl, hF1, hF2⟩ := C
  have hbA : ¬ lA s b := fun h => by have h : s.heap.size ≤ b := h; omega
  obtain ⟨tc, tf, B, P, Qp, N, ah, kw, z, nn, sd, cf, lf, cn, M, fo, bk, us, u, cap, wt, tB, ⟨h_kSB, h_kBL, h_kNE, h_kP, h_kSE, h_kQ, h_kDR, h_kPI, h_kMO, h_kOU⟩, hT, hO, hG, hR, hq⟩ := hI
  have h40 : tc ≤ 40 := hR.2.1
  have h17 : M.2.2.1 17 = B.2.2.2 := hG.2.2.1.1.2.1
  have h16 : B.2.2.2 ≤ 16 := hG.1.1.1
  have hT : thA D cA bk us u cap tB tc tf s.heap.size H := hT
  rcases find_fb hR h16 h17 (xs (i + 1)) with ⟨hfa, hba⟩ | ⟨ka, aa, hka, haa, hkea, hbka, hba⟩
  · rcases find_fb hR h16 h17 (xs (i + 2)) with ⟨hfb, hbb9⟩ | ⟨kb, bb, hkb, hbb, hkeb, hbkb, hbb9⟩
    · obtain ⟨T, hTs0, hfT, hfU⟩ := fb_T2 hT hO hfa hfb
      refine lv_aload_n hx hb d_LA_law_435 rfl (lv_at hl 1 rfl) ?_
      refine lv_aload_n hx hb d_LA_law_436 rfl (lv_at hl 0 rfl) ?_
      refine lv_iload hx hb d_LA_law_437 (lv_at hl 4 rfl) ?_
      refine lv_iconst (v := nI 1) hx hb d_LA_law_439 (by decide) ?_
      refine z_add hx hb d_LA_law_440 ?_
      refine va_sld hx hb hX hbl hbA hS (vp_in_nI (n := (i + 1)) (by omega) (by omega)) d_LA_law_441 ?_
      refine lv_toi (z := xs (i + 1)) (congrArg xs (nI_clamp (by omega))) ?_
      refine lv_aload_n hx hb d_LA_law_442 rfl (lv_at hl 0 rfl) ?_
      refine lv_iload hx hb d_LA_law_443 (lv_at hl 4 rfl) ?_
      refine lv_iconst (v := nI 2) hx hb d_LA_law_445 (by decide) ?_
      refine z_add hx hb d_LA_law_446 ?_
      refine va_sld hx hb hX hbl hbA hS (vp_in_nI (n := (i + 2)) (by omega) (by omega)) d_LA_law_447 ?_
      refine lv_toi (z := xs (i + 2)) (congrArg xs (nI_clamp (by omega))) ?_
      refine lv_aload_n hx hb d_LA_law_448 rfl (lv_at hl 3 rfl) ?_
      have hTs : thS D cA bk us u cap tB tc (T) H := hTs0
      have hTi := thS_in (h0 := s.heap.size) hT hTs
      have hi0 : ∀ p ∈ kSB cA cZ c2 cT cL s.heap.size tc tf, (s.heap.size + 0 ≤ p.1 ∧ p.1 < s.heap.size + 2) := in_kSB
      have hn0 : va_D (fun _ => True) (kSB cA cZ c2 cT cL s.heap.size tc tf) := nd_kSB
      have hn1 : va_D (fun _ => True) ((kSB cA cZ c2 cT cL s.heap.size tc tf) ++ (T)) := nd_app hn0 hTs.2.1 (fun p hp q hq e9 => by have := hi0 p hp; have := hTi q hq; omega)
      have hi1 : ∀ p ∈ (kSB cA cZ c2 cT cL s.heap.size tc tf) ++ (T), (s.heap.size + 0 ≤ p.1 ∧ p.1 < s.heap.size + 2) ∨ (s.heap.size + 98 ≤ p.1) := fun p hp => (List.mem_append.mp hp).elim (fun h => by have := hi0 p h; omega) (fun h => by have := hTi p h; omega)
      have hw9 : ∀ p ∈ (kSB cA cZ c2 cT cL s.heap.size tc tf) ++ (T), p.1 < s.heap.size + 98 ∨ p ∈ T := fun p hp => (List.mem_append.mp hp).elim (fun h => Or.inl (by have := in_kSB p h; omega)) (fun h => Or.inr h)
      refine zg_H (V := Unit) (F := zT2) (mc := 1) (ms := 6) (As := [.ref s.heap.size, .int (xs (i + 1)), .int (xs (i + 2)), .ref (s.heap.size + 97)]) (rest := []) (n := 4) (wsC := (kSB cA cZ c2 cT cL s.heap.size tc tf) ++ (T)) (φ := fun _ => True) (wv := fun _ => (kSB cA cZ c2 cT cL s.heap.size tc tf) ++ (T)) (rv := .int (nI 1)) zT2_ok ⟨hx, hb, hml, hown, hts⟩ (met_u (h_net_x1 l D htl _ (fun k => s.heap.size + k) (fun k => s.heap.size + 2 + k) (fun k => s.heap.size + 11 + k) (fun k => s.heap.size + 15 + k) (fun k => s.heap.size + 30 + 16 * k) (laI s.heap.size) cA cZ c2 cT tc tf (s.heap.size + 97) T (xs (i + 1)) (xs (i + 2)) (-1) (-1) h40 hfT hfU (Or.inl rfl))) ⟨km_LA_88, kst_LA_net, kn_LA, kw_LA_net⟩ (by decide +kernel) (by decide) ⟨(by show cs + 1 ≤ 601024; omega), (by show sl + 6 ≤ 7293000; omega)⟩ (hK.sub [0, 1, 2, 3] rfl) ((h_kSB).app hTs.1) hn1 hS (la_A hS (fun p hp => by have := hi1 p hp; omega)) hF2 rfl hl.1 rfl (Nat.le_of_ble_eq_true rfl) d_LA_law_449 (fun _ H1 locs1 hph hP1 hz1 hf1 hS1 => ?_)
      have hq1 := va_P.right hP1
      have hr1 := va_P.left hP1
      have hq0 := hr1
      have h_kBL := hf1.far h_kBL in_kBL (fun p hp => by have := hi1 p hp; omega)
      have h_kNE := hf1.far h_kNE in_kNE (fun p hp => by have := hi1 p hp; omega)
      have h_kP := hf1.far h_kP in_kP (fun p hp => by have := hi1 p hp; omega)
      have h_kSE := hf1.far h_kSE in_kSE (fun p hp => by have := hi1 p hp; omega)
      have h_kQ := hf1.far h_kQ in_kQ (fun p hp => by have := hi1 p hp; omega)
      have h_kDR := hf1.far h_kDR in_kDR (fun p hp => by have := hi1 p hp; omega)
      have h_kPI := hf1.far h_kPI in_kPI (fun p hp => by have := hi1 p hp; omega)
      have h_kMO := hf1.far h_kMO in_kMO (fun p hp => by have := hi1 p hp; omega)
      have h_kOU := hf1.far h_kOU in_kOU (fun p hp => by have := hi1 p hp; omega)
      have h_kSB := hq0
      have hT := th_kept hT hO hf1 hw9 hTs hq1
      have hS := hS1
      clear hf1 hS1 hP1 hn0 hi0 hn1 hi1
      refine lv_istore (lv' := [(5, .int (nI 1)), (0, .ref b), (1, .ref s.heap.size), (2, .ref (s.heap.size + 69)), (3, .ref (s.heap.size + 97)), (4, .int (nI i))]) hx hb d_LA_law_452 hl (by decide) rfl (fun ls hl => ?_)
      refine lv_aload_n hx hb d_LA_law_454 rfl (lv_at hl 3 rfl) ?_
      refine lv_aload_n hx hb d_LA_law_455 rfl (lv_at hl 1 rfl) ?_
      refine lv_iload hx hb d_LA_law_456 (lv_at hl 5 rfl) ?_
      refine lv_iconst (v := nI 1) hx hb d_LA_law_458 (by decide) ?_
      refine z_add hx hb d_LA_law_459 ?_
      refine va_sld hx hb hX hbl hbA hS (vp_in_nI (n := (i + 1)) (by omega) (by omega)) d_LA_law_460 ?_
      refine lv_toi (z := xs (i + 1)) (congrArg xs (nI_clamp (by omega))) ?_
      refine lv_aload_n hx hb d_LA_law_461 rfl (lv_at hl 1 rfl) ?_
      refine lv_iload hx hb d_LA_law_462 (lv_at hl 5 rfl) ?_
      refine lv_iconst (v := nI 2) hx hb d_LA_law_464 (by decide) ?_
      refine z_add hx hb d_LA_law_465 ?_
      refine va_sld hx hb hX hbl hbA hS (vp_in_nI (n := (i + 2)) (by omega) (by omega)) d_LA_law_466 ?_
      refine lv_toi (z := xs (i + 2)) (congrArg xs (nI_clamp (by omega))) ?_
      have hi0 : ∀ p ∈ kMO cA cZ c2 cT cL s.heap.size M z, (s.heap.size + 69 ≤ p.1 ∧ p.1 < s.heap.size + 97) := in_kMO
      have hn0 : va_D (fun _ => True) (kMO cA cZ c2 cT cL s.heap.size M z) := nd_kMO
      refine zg_V (V := Unit) (ci := 10) (q0 := 0) (As := [.int (xs (i + 1)), .int (xs (i + 2))]) (rest := []) (n := 2) (wsC := kMO cA cZ c2 cT cL s.heap.size M z) (φ := fun _ => True) (wv := fun _ => kMO cA cZ c2 cT cL s.heap.size (mS 0 1 M) z) (rv := .int (nI 0)) ⟨hx, hb, hml, hown, hts⟩ (met_u (c_MO_net_no1 l D _ (laM s.heap.size) cA cZ cL M z (xs (i + 1)) (xs (i + 2)) (by omega) (Or.inl hba))) ⟨km_LA_91, ki_MO_net, ks_MO_net, kn_MO, kd_MO_net⟩ (by decide +kernel) (by decide) ⟨(by show cs + 1 + 0 ≤ 601024; omega), (by show sl + 6 + 0 ≤ 7293000; omega)⟩ (hK.sub [0, 1, 4] rfl) (h_kMO) hn0 hS (la_A hS (fun p hp => by have := hi0 p hp; omega)) rfl rfl rfl hl.1 rfl (Nat.le_of_ble_eq_true rfl) d_LA_law_467 (fun _ H1 locs1 hph hP1 hz1 hf1 hS1 => ?_)
      have hq0 := hP1
      have h_kSB := hf1.far h_kSB in_kSB (fun p hp => by have := hi0 p hp; omega)
      have h_kBL := hf1.far h_kBL in_kBL (fun p hp => by have := hi0 p hp; omega)
      have h_kNE := hf1.far h_kNE in_kNE (fun p hp => by have := hi0 p hp; omega)
      have h_kP := hf1.far h_kP in_kP (fun p hp => by have := hi0 p hp; omega)
      have h_kSE := hf1.far h_kSE in_kSE (fun p hp => by have := hi0 p hp; omega)
      have h_kQ := hf1.far h_kQ in_kQ (fun p hp => by have := hi0 p hp; omega)
      have h_kDR := hf1.far h_kDR in_kDR (fun p hp => by have := hi0 p hp; omega)
      have h_kPI := hf1.far h_kPI in_kPI (fun p hp => by have := hi0 p hp; omega)
      have h_kOU := hf1.far h_kOU in_kOU (fun p hp => by have := hi0 p hp; omega)
      have h_kMO := hq0
      have hT := th_kept0 hT hO hf1 (fun p hp => by have := hi0 p hp; omega)
      have hS := hS1
      clear hf1 hS1 hP1 hn0 hi0
      refine lv_istore (lv' := [(6, .int (nI 0)), (5, .int (nI 1)), (0, .ref b), (1, .ref s.heap.size), (2, .ref (s.heap.size + 69)), (3, .ref (s.heap.size + 97)), (4, .int (nI i))]) hx hb d_LA_law_470 hl (by decide) rfl (fun ls hl => ?_)
      refine lv_aload_n hx hb d_LA_law_472 rfl (lv_at hl 4 rfl) ?_
      refine zrM_V (ci := 10) (q0 := 0) (As := []) (rest := []) (n := 0) (wsC := kMO cA cZ c2 cT cL s.heap.size (mS 0 1 M) z) ⟨hx, hb, hml, hown, hts⟩ (c_MO_thrown l D (laM s.heap.size) cA cZ cL (mS 0 1 M) z) ⟨km_LA_80, ki_MO_thrown, ks_MO_thrown, kn_MO, kd_MO_thrown⟩ (by decide +kernel) (by decide) ⟨(by show cs + 1 + 0 ≤ 601024; omega), (by show sl + 6 + 0 ≤ 7293000; omega)⟩ (hK.sub [0, 1, 4] rfl) h_kMO rfl rfl rfl hl.1 rfl (Nat.le_of_ble_eq_true rfl) d_LA_law_473 ?_
      refine lv_toi (z := nI 1) rfl ?_
      refine lv_iload hx hb d_LA_law_476 (lv_at hl 1 rfl) ?_
      refine z_ceq (tgt := 483) hx hb d_LA_law_478 (by decide) (by omega) (by omega) (fun _ => ?_) (fun h => absurd h (by omega))
      refine lv_iload hx hb d_LA_law_483 (lv_at hl 1 rfl) ?_
      refine z_0ne (tgt := 500) hx hb d_LA_law_485 (by decide) (by omega) (fun _ => ?_) (fun h => absurd h (by omega))
      refine lv_goto (tgt := 1221) hx hb d_LA_law_500 (by decide) ?_
      exact kk _ _ _ _ ls (by omega) (by omega) hS ⟨tc, tf, B, P, Qp, N, ah, kw, z, nn, sd, cf, lf, cn, (mS 0 1 M), fo, bk, us, u, cap, wt, tB, ⟨h_kSB, h_kBL, h_kNE, h_kP, h_kSE, h_kQ, h_kDR, h_kPI, h_kMO, h_kOU⟩, hT, hO, RelG_ag hG ⟨⟨rfl, rfl, rfl, rfl, rfl, rfl, rfl, rfl, rfl, rfl, rfl, rfl⟩, ⟨rfl, rfl, rfl, rfl⟩, rfl, rfl, rfl⟩, RelT_ag hR ⟨⟨rfl, rfl, rfl, rfl, rfl, rfl, rfl, rfl, rfl, rfl, rfl, rfl⟩, ⟨rfl, rfl, rfl, rfl⟩, rfl, rfl, rfl⟩, hq⟩ (lv_sub hl [2, 3, 4, 5, 6] rfl)
    · have hfb := fb1_k hkb hkeb hbkb
      obtain ⟨T, hTs0, hfT, hfU⟩ := fb_T2 hT hO hfa hfb
      refine lv_aload_n hx hb d_LA_law_435 rfl (lv_at hl 1 rfl) ?_
      refine lv_aload_n hx hb d_LA_law_436 rfl (lv_at hl 0 rfl) ?_
      refine lv_iload hx hb d_LA_law_437 (lv_at hl 4 rfl) ?_
      refine lv_iconst (v := nI 1) hx hb d_LA_law_439 (by decide) ?_
      refine z_add hx hb d_LA_law_440 ?_
      refine va_sld hx hb hX hbl hbA hS (vp_in_nI (n := (i + 1)) (by omega) (by omega)) d_LA_law_441 ?_
      refine lv_toi (z := xs (i + 1)) (congrArg xs (nI_clamp (by omega))) ?_
      refine lv_aload_n hx hb d_LA_law_442 rfl (lv_at hl 0 rfl) ?_
      refine lv_iload hx hb d_LA_law_443 (lv_at hl 4 rfl) ?_
      refine lv_iconst (v := nI 2) hx hb d_LA_law_445 (by decide) ?_
      refine z_add hx hb d_LA_law_446 ?_
      refine va_sld hx hb hX hbl hbA hS (vp_in_nI (n := (i + 2)) (by omega) (by omega)) d_LA_law_447 ?_
      refine lv_toi (z := xs (i + 2)) (congrArg xs (nI_clamp (by omega))) ?_
      refine lv_aload_n hx hb d_LA_law_448 rfl (lv_at hl 3 rfl) ?_
      have hTs : thS D cA bk us u cap tB tc (T) H := hTs0
      have hTi := thS_in (h0 := s.heap.size) hT hTs
      have hi0 : ∀ p ∈ kSB cA cZ c2 cT cL s.heap.size tc tf, (s.heap.size + 0 ≤ p.1 ∧ p.1 < s.heap.size + 2) := in_kSB
      have hn0 : va_D (fun _ => True) (kSB cA cZ c2 cT cL s.heap.size tc tf) := nd_kSB
      have hn1 : va_D (fun _ => True) ((kSB cA cZ c2 cT cL s.heap.size tc tf) ++ (T)) := nd_app hn0 hTs.2.1 (fun p hp q hq e9 => by have := hi0 p hp; have := hTi q hq; omega)
      have hi1 : ∀ p ∈ (kSB cA cZ c2 cT cL s.heap.size tc tf) ++ (T), (s.heap.size + 0 ≤ p.1 ∧ p.1 < s.heap.size + 2) ∨ (s.heap.size + 98 ≤ p.1) := fun p hp => (List.mem_append.mp hp).elim (fun h => by have := hi0 p h; omega) (fun h => by have := hTi p h; omega)
      have hw9 : ∀ p ∈ (kSB cA cZ c2 cT cL s.heap.size tc tf) ++ (T), p.1 < s.heap.size + 98 ∨ p ∈ T := fun p hp => (List.mem_append.mp hp).elim (fun h => Or.inl (by have := in_kSB p h; omega)) (fun h => Or.inr h)
      refine zg_H (V := Unit) (F := zT2) (mc := 1) (ms := 6) (As := [.ref s.heap.size, .int (xs (i + 1)), .int (xs (i + 2)), .ref (s.heap.size + 97)]) (rest := []) (n := 4) (wsC := (kSB cA cZ c2 cT cL s.heap.size tc tf) ++ (T)) (φ := fun _ => True) (wv := fun _ => (kSB cA cZ c2 cT cL s.heap.size tc tf) ++ (T)) (rv := .int (nI 1)) zT2_ok ⟨hx, hb, hml, hown, hts⟩ (met_u (h_net_x1 l D htl _ (fun k => s.heap.size + k) (fun k => s.heap.size + 2 + k) (fun k => s.heap.size + 11 + k) (fun k => s.heap.size + 15 + k) (fun k => s.heap.size + 30 + 16 * k) (laI s.heap.size) cA cZ c2 cT tc tf (s.heap.size + 97) T (xs (i + 1)) (xs (i + 2)) (-1) (nI bb) h40 hfT hfU (Or.inl rfl))) ⟨km_LA_88, kst_LA_net, kn_LA, kw_LA_net⟩ (by decide +kernel) (by decide) ⟨(by show cs + 1 ≤ 601024; omega), (by show sl + 6 ≤ 7293000; omega)⟩ (hK.sub [0, 1, 2, 3] rfl) ((h_kSB).app hTs.1) hn1 hS (la_A hS (fun p hp => by have := hi1 p hp; omega)) hF2 rfl hl.1 rfl (Nat.le_of_ble_eq_true rfl) d_LA_law_449 (fun _ H1 locs1 hph hP1 hz1 hf1 hS1 => ?_)
      have hq1 := va_P.right hP1
      have hr1 := va_P.left hP1
      have hq0 := hr1
      have h_kBL := hf1.far h_kBL in_kBL (fun p hp => by have := hi1 p hp; omega)
      have h_kNE := hf1.far h_kNE in_kNE (fun p hp => by have := hi1 p hp; omega)
      have h_kP := hf1.far h_kP in_kP (fun p hp => by have := hi1 p hp; omega)
      have h_kSE := hf1.far h_kSE in_kSE (fun p hp => by have := hi1 p hp; omega)
      have h_kQ := hf1.far h_kQ in_kQ (fun p hp => by have := hi1 p hp; omega)
      have h_kDR := hf1.far h_kDR in_kDR (fun p hp => by have := hi1 p hp; omega)
      have h_kPI := hf1.far h_kPI in_kPI (fun p hp => by have := hi1 p hp; omega)
      have h_kMO := hf1.far h_kMO in_kMO (fun p hp => by have := hi1 p hp; omega)
      have h_kOU := hf1.far h_kOU in_kOU (fun p hp => by have := hi1 p hp; omega)
      have h_kSB := hq0
      have hT := th_kept hT hO hf1 hw9 hTs hq1
      have hS := hS1
      clear hf1 hS1 hP1 hn0 hi0 hn1 hi1
      refine lv_istore (lv' := [(5, .int (nI 1)), (0, .ref b), (1, .ref s.heap.size), (2, .ref (s.heap.size + 69)), (3, .ref (s.heap.size + 97)), (4, .int (nI i))]) hx hb d_LA_law_452 hl (by decide) rfl (fun ls hl => ?_)
      refine lv_aload_n hx hb d_LA_law_454 rfl (lv_at hl 3 rfl) ?_
      refine lv_aload_n hx hb d_LA_law_455 rfl (lv_at hl 1 rfl) ?_
      refine lv_iload hx hb d_LA_law_456 (lv_at hl 5 rfl) ?_
      refine lv_iconst (v := nI 1) hx hb d_LA_law_458 (by decide) ?_
      refine z_add hx hb d_LA_law_459 ?_
      refine va_sld hx hb hX hbl hbA hS (vp_in_nI (n := (i + 1)) (by omega) (by omega)) d_LA_law_460 ?_
      refine lv_toi (z := xs (i + 1)) (congrArg xs (nI_clamp (by omega))) ?_
      refine lv_aload_n hx hb d_LA_law_461 rfl (lv_at hl 1 rfl) ?_
      refine lv_iload hx hb d_LA_law_462 (lv_at hl 5 rfl) ?_
      refine lv_iconst (v := nI 2) hx hb d_LA_law_464 (by decide) ?_
      refine z_add hx hb d_LA_law_465 ?_
      refine va_sld hx hb hX hbl hbA hS (vp_in_nI (n := (i + 2)) (by omega) (by omega)) d_LA_law_466 ?_
      refine lv_toi (z := xs (i + 2)) (congrArg xs (nI_clamp (by omega))) ?_
      have hi0 : ∀ p ∈ kMO cA cZ c2 cT cL s.heap.size M z, (s.heap.size + 69 ≤ p.1 ∧ p.1 < s.heap.size + 97) := in_kMO
      have hn0 : va_D (fun _ => True) (kMO cA cZ c2 cT cL s.heap.size M z) := nd_kMO
      refine zg_V (V := Unit) (ci := 10) (q0 := 0) (As := [.int (xs (i + 1)), .int (xs (i + 2))]) (rest := []) (n := 2) (wsC := kMO cA cZ c2 cT cL s.heap.size M z) (φ := fun _ => True) (wv := fun _ => kMO cA cZ c2 cT cL s.heap.size (mS 0 1 M) z) (rv := .int (nI 0)) ⟨hx, hb, hml, hown, hts⟩ (met_u (c_MO_net_no1 l D _ (laM s.heap.size) cA cZ cL M z (xs (i + 1)) (xs (i + 2)) (by omega) (Or.inl hba))) ⟨km_LA_91, ki_MO_net, ks_MO_net, kn_MO, kd_MO_net⟩ (by decide +kernel) (by decide) ⟨(by show cs + 1 + 0 ≤ 601024; omega), (by show sl + 6 + 0 ≤ 7293000; omega)⟩ (hK.sub [0, 1, 4] rfl) (h_kMO) hn0 hS (la_A hS (fun p hp => by have := hi0 p hp; omega)) rfl rfl rfl hl.1 rfl (Nat.le_of_ble_eq_true rfl) d_LA_law_467 (fun _ H1 locs1 hph hP1 hz1 hf1 hS1 => ?_)
      have hq0 := hP1
      have h_kSB := hf1.far h_kSB in_kSB (fun p hp => by have := hi0 p hp; omega)
      have h_kBL := hf1.far h_kBL in_kBL (fun p hp => by have := hi0 p hp; omega)
      have h_kNE := hf1.far h_kNE in_kNE (fun p hp => by have := hi0 p hp; omega)
      have h_kP := hf1.far h_kP in_kP (fun p hp => by have := hi0 p hp; omega)
      have h_kSE := hf1.far h_kSE in_kSE (fun p hp => by have := hi0 p hp; omega)
      have h_kQ := hf1.far h_kQ in_kQ (fun p hp => by have := hi0 p hp; omega)
      have h_kDR := hf1.far h_kDR in_kDR (fun p hp => by have := hi0 p hp; omega)
      have h_kPI := hf1.far h_kPI in_kPI (fun p hp => by have := hi0 p hp; omega)
      have h_kOU := hf1.far h_kOU in_kOU (fun p hp => by have := hi0 p hp; omega)
      have h_kMO := hq0
      have hT := th_kept0 hT hO hf1 (fun p hp => by have := hi0 p hp; omega)
      have hS := hS1
      clear hf1 hS1 hP1 hn0 hi0
      refine lv_istore (lv' := [(6, .int (nI 0)), (5, .int (nI 1)), (0, .ref b), (1, .ref s.heap.size), (2, .ref (s.heap.size + 69)), (3, .ref (s.heap.size + 97)), (4, .int (nI i))]) hx hb d_LA_law_470 hl (by decide) rfl (fun ls hl => ?_)
      refine lv_aload_n hx hb d_LA_law_472 rfl (lv_at hl 4 rfl) ?_
      refine zrM_V (ci := 10) (q0 := 0) (As := []) (rest := []) (n := 0) (wsC := kMO cA cZ c2 cT cL s.heap.size (mS 0 1 M) z) ⟨hx, hb, hml, hown, hts⟩ (c_MO_thrown l D (laM s.heap.size) cA cZ cL (mS 0 1 M) z) ⟨km_LA_80, ki_MO_thrown, ks_MO_thrown, kn_MO, kd_MO_thrown⟩ (by decide +kernel) (by decide) ⟨(by show cs + 1 + 0 ≤ 601024; omega), (by show sl + 6 + 0 ≤ 7293000; omega)⟩ (hK.sub [0, 1, 4] rfl) h_kMO rfl rfl rfl hl.1 rfl (Nat.le_of_ble_eq_true rfl) d_LA_law_473 ?_
      refine lv_toi (z := nI 1) rfl ?_
      refine lv_iload hx hb d_LA_law_476 (lv_at hl 1 rfl) ?_
      refine z_ceq (tgt := 483) hx hb d_LA_law_478 (by decide) (by omega) (by omega) (fun _ => ?_) (fun h => absurd h (by omega))
      refine lv_iload hx hb d_LA_law_483 (lv_at hl 1 rfl) ?_
      refine z_0ne (tgt := 500) hx hb d_LA_law_485 (by decide) (by omega) (fun _ => ?_) (fun h => absurd h (by omega))
      refine lv_goto (tgt := 1221) hx hb d_LA_law_500 (by decide) ?_
      exact kk _ _ _ _ ls (by omega) (by omega) hS ⟨tc, tf, B, P, Qp, N, ah, kw, z, nn, sd, cf, lf, cn, (mS 0 1 M), fo, bk, us, u, cap, wt, tB, ⟨h_kSB, h_kBL, h_kNE, h_kP, h_kSE, h_kQ, h_kDR, h_kPI, h_kMO, h_kOU⟩, hT, hO, RelG_ag hG ⟨⟨rfl, rfl, rfl, rfl, rfl, rfl, rfl, rfl, rfl, rfl, rfl, rfl⟩, ⟨rfl, rfl, rfl, rfl⟩, rfl, rfl, rfl⟩, RelT_ag hR ⟨⟨rfl, rfl, rfl, rfl, rfl, rfl, rfl, rfl, rfl, rfl, rfl, rfl⟩, ⟨rfl, rfl, rfl, rfl⟩, rfl, rfl, rfl⟩, hq⟩ (lv_sub hl [2, 3, 4, 5, 6] rfl)
  · rcases find_fb hR h16 h17 (xs (i + 2)) with ⟨hfb, hbb9⟩ | ⟨kb, bb, hkb, hbb, hkeb, hbkb, hbb9⟩
    · have hfa := fb1_k hka hkea hbka
      obtain ⟨T, hTs0, hfT, hfU⟩ := fb_T2 hT hO hfa hfb
      refine lv_aload_n hx hb d_LA_law_435 rfl (lv_at hl 1 rfl) ?_
      refine lv_aload_n hx hb d_LA_law_436 rfl (lv_at hl 0 rfl) ?_
      refine lv_iload hx hb d_LA_law_437 (lv_at hl 4 rfl) ?_
      refine lv_iconst (v := nI 1) hx hb d_LA_law_439 (by decide) ?_
      refine z_add hx hb d_LA_law_440 ?_
      refine va_sld hx hb hX hbl hbA hS (vp_in_nI (n := (i + 1)) (by omega) (by omega)) d_LA_law_441 ?_
      refine lv_toi (z := xs (i + 1)) (congrArg xs (nI_clamp (by omega))) ?_
      refine lv_aload_n hx hb d_LA_law_442 rfl (lv_at hl 0 rfl) ?_
      refine lv_iload hx hb d_LA_law_443 (lv_at hl 4 rfl) ?_
      refine lv_iconst (v := nI 2) hx hb d_LA_law_445 (by decide) ?_
      refine z_add hx hb d_LA_law_446 ?_
      refine va_sld hx hb hX hbl hbA hS (vp_in_nI (n := (i + 2)) (by omega) (by omega)) d_LA_law_447 ?_
      refine lv_toi (z := xs (i + 2)) (congrArg xs (nI_clamp (by omega))) ?_
      refine lv_aload_n hx hb d_LA_law_448 rfl (lv_at hl 3 rfl) ?_
      have hTs : thS D cA bk us u cap tB tc (T) H := hTs0
      have hTi := thS_in (h0 := s.heap.size) hT hTs
      have hi0 : ∀ p ∈ kSB cA cZ c2 cT cL s.heap.size tc tf, (s.heap.size + 0 ≤ p.1 ∧ p.1 < s.heap.size + 2) := in_kSB
      have hn0 : va_D (fun _ => True) (kSB cA cZ c2 cT cL s.heap.size tc tf) := nd_kSB
      have hn1 : va_D (fun _ => True) ((kSB cA cZ c2 cT cL s.heap.size tc tf) ++ (T)) := nd_app hn0 hTs.2.1 (fun p hp q hq e9 => by have := hi0 p hp; have := hTi q hq; omega)
      have hi1 : ∀ p ∈ (kSB cA cZ c2 cT cL s.heap.size tc tf) ++ (T), (s.heap.size + 0 ≤ p.1 ∧ p.1 < s.heap.size + 2) ∨ (s.heap.size + 98 ≤ p.1) := fun p hp => (List.mem_append.mp hp).elim (fun h => by have := hi0 p h; omega) (fun h => by have := hTi p h; omega)
      have hw9 : ∀ p ∈ (kSB cA cZ c2 cT cL s.heap.size tc tf) ++ (T), p.1 < s.heap.size + 98 ∨ p ∈ T := fun p hp => (List.mem_append.mp hp).elim (fun h => Or.inl (by have := in_kSB p h; omega)) (fun h => Or.inr h)
      refine zg_H (V := Unit) (F := zT2) (mc := 1) (ms := 6) (As := [.ref s.heap.size, .int (xs (i + 1)), .int (xs (i + 2)), .ref (s.heap.size + 97)]) (rest := []) (n := 4) (wsC := (kSB cA cZ c2 cT cL s.heap.size tc tf) ++ (T)) (φ := fun _ => True) (wv := fun _ => (kSB cA cZ c2 cT cL s.heap.size tc tf) ++ (T)) (rv := .int (nI 1)) zT2_ok ⟨hx, hb, hml, hown, hts⟩ (met_u (h_net_x1 l D htl _ (fun k => s.heap.size + k) (fun k => s.heap.size + 2 + k) (fun k => s.heap.size + 11 + k) (fun k => s.heap.size + 15 + k) (fun k => s.heap.size + 30 + 16 * k) (laI s.heap.size) cA cZ c2 cT tc tf (s.heap.size + 97) T (xs (i + 1)) (xs (i + 2)) (nI aa) (-1) h40 hfT hfU (Or.inr rfl))) ⟨km_LA_88, kst_LA_net, kn_LA, kw_LA_net⟩ (by decide +kernel) (by decide) ⟨(by show cs + 1 ≤ 601024; omega), (by show sl + 6 ≤ 7293000; omega)⟩ (hK.sub [0, 1, 2, 3] rfl) ((h_kSB).app hTs.1) hn1 hS (la_A hS (fun p hp => by have := hi1 p hp; omega)) hF2 rfl hl.1 rfl (Nat.le_of_ble_eq_true rfl) d_LA_law_449 (fun _ H1 locs1 hph hP1 hz1 hf1 hS1 => ?_)
      have hq1 := va_P.right hP1
      have hr1 := va_P.left hP1
      have hq0 := hr1
      have h_kBL := hf1.far h_kBL in_kBL (fun p hp => by have := hi1 p hp; omega)
      have h_kNE := hf1.far h_kNE in_kNE (fun p hp => by have := hi1 p hp; omega)
      have h_kP := hf1.far h_kP in_kP (fun p hp => by have := hi1 p hp; omega)
      have h_kSE := hf1.far h_kSE in_kSE (fun p hp => by have := hi1 p hp; omega)
      have h_kQ := hf1.far h_kQ in_kQ (fun p hp => by have := hi1 p hp; omega)
      have h_kDR := hf1.far h_kDR in_kDR (fun p hp => by have := hi1 p hp; omega)
      have h_kPI := hf1.far h_kPI in_kPI (fun p hp => by have := hi1 p hp; omega)
      have h_kMO := hf1.far h_kMO in_kMO (fun p hp => by have := hi1 p hp; omega)
      have h_kOU := hf1.far h_kOU in_kOU (fun p hp => by have := hi1 p hp; omega)
      have h_kSB := hq0
      have hT := th_kept hT hO hf1 hw9 hTs hq1
      have hS := hS1
      clear hf1 hS1 hP1 hn0 hi0 hn1 hi1
      refine lv_istore (lv' := [(5, .int (nI 1)), (0, .ref b), (1, .ref s.heap.size), (2, .ref (s.heap.size + 69)), (3, .ref (s.heap.size + 97)), (4, .int (nI i))]) hx hb d_LA_law_452 hl (by decide) rfl (fun ls hl => ?_)
      refine lv_aload_n hx hb d_LA_law_454 rfl (lv_at hl 3 rfl) ?_
      refine lv_aload_n hx hb d_LA_law_455 rfl (lv_at hl 1 rfl) ?_
      refine lv_iload hx hb d_LA_law_456 (lv_at hl 5 rfl) ?_
      refine lv_iconst (v := nI 1) hx hb d_LA_law_458 (by decide) ?_
      refine z_add hx hb d_LA_law_459 ?_
      refine va_sld hx hb hX hbl hbA hS (vp_in_nI (n := (i + 1)) (by omega) (by omega)) d_LA_law_460 ?_
      refine lv_toi (z := xs (i + 1)) (congrArg xs (nI_clamp (by omega))) ?_
      refine lv_aload_n hx hb d_LA_law_461 rfl (lv_at hl 1 rfl) ?_
      refine lv_iload hx hb d_LA_law_462 (lv_at hl 5 rfl) ?_
      refine lv_iconst (v := nI 2) hx hb d_LA_law_464 (by decide) ?_
      refine z_add hx hb d_LA_law_465 ?_
      refine va_sld hx hb hX hbl hbA hS (vp_in_nI (n := (i + 2)) (by omega) (by omega)) d_LA_law_466 ?_
      refine lv_toi (z := xs (i + 2)) (congrArg xs (nI_clamp (by omega))) ?_
      have hi0 : ∀ p ∈ kMO cA cZ c2 cT cL s.heap.size M z, (s.heap.size + 69 ≤ p.1 ∧ p.1 < s.heap.size + 97) := in_kMO
      have hn0 : va_D (fun _ => True) (kMO cA cZ c2 cT cL s.heap.size M z) := nd_kMO
      refine zg_V (V := Unit) (ci := 10) (q0 := 0) (As := [.int (xs (i + 1)), .int (xs (i + 2))]) (rest := []) (n := 2) (wsC := kMO cA cZ c2 cT cL s.heap.size M z) (φ := fun _ => True) (wv := fun _ => kMO cA cZ c2 cT cL s.heap.size (mS 0 1 M) z) (rv := .int (nI 0)) ⟨hx, hb, hml, hown, hts⟩ (met_u (c_MO_net_no1 l D _ (laM s.heap.size) cA cZ cL M z (xs (i + 1)) (xs (i + 2)) (by omega) (Or.inr hbb9))) ⟨km_LA_91, ki_MO_net, ks_MO_net, kn_MO, kd_MO_net⟩ (by decide +kernel) (by decide) ⟨(by show cs + 1 + 0 ≤ 601024; omega), (by show sl + 6 + 0 ≤ 7293000; omega)⟩ (hK.sub [0, 1, 4] rfl) (h_kMO) hn0 hS (la_A hS (fun p hp => by have := hi0 p hp; omega)) rfl rfl rfl hl.1 rfl (Nat.le_of_ble_eq_true rfl) d_LA_law_467 (fun _ H1 locs1 hph hP1 hz1 hf1 hS1 => ?_)
      have hq0 := hP1
      have h_kSB := hf1.far h_kSB in_kSB (fun p hp => by have := hi0 p hp; omega)
      have h_kBL := hf1.far h_kBL in_kBL (fun p hp => by have := hi0 p hp; omega)
      have h_kNE := hf1.far h_kNE in_kNE (fun p hp => by have := hi0 p hp; omega)
      have h_kP := hf1.far h_kP in_kP (fun p hp => by have := hi0 p hp; omega)
      have h_kSE := hf1.far h_kSE in_kSE (fun p hp => by have := hi0 p hp; omega)
      have h_kQ := hf1.far h_kQ in_kQ (fun p hp => by have := hi0 p hp; omega)
      have h_kDR := hf1.far h_kDR in_kDR (fun p hp => by have := hi0 p hp; omega)
      have h_kPI := hf1.far h_kPI in_kPI (fun p hp => by have := hi0 p hp; omega)
      have h_kOU := hf1.far h_kOU in_kOU (fun p hp => by have := hi0 p hp; omega)
      have h_kMO := hq0
      have hT := th_kept0 hT hO hf1 (fun p hp => by have := hi0 p hp; omega)
      have hS := hS1
      clear hf1 hS1 hP1 hn0 hi0
      refine lv_istore (lv' := [(6, .int (nI 0)), (5, .int (nI 1)), (0, .ref b), (1, .ref s.heap.size), (2, .ref (s.heap.size + 69)), (3, .ref (s.heap.size + 97)), (4, .int (nI i))]) hx hb d_LA_law_470 hl (by decide) rfl (fun ls hl => ?_)
      refine lv_aload_n hx hb d_LA_law_472 rfl (lv_at hl 4 rfl) ?_
      refine zrM_V (ci := 10) (q0 := 0) (As := []) (rest := []) (n := 0) (wsC := kMO cA cZ c2 cT cL s.heap.size (mS 0 1 M) z) ⟨hx, hb, hml, hown, hts⟩ (c_MO_thrown l D (laM s.heap.size) cA cZ cL (mS 0 1 M) z) ⟨km_LA_80, ki_MO_thrown, ks_MO_thrown, kn_MO, kd_MO_thrown⟩ (by decide +kernel) (by decide) ⟨(by show cs + 1 + 0 ≤ 601024; omega), (by show sl + 6 + 0 ≤ 7293000; omega)⟩ (hK.sub [0, 1, 4] rfl) h_kMO rfl rfl rfl hl.1 rfl (Nat.le_of_ble_eq_true rfl) d_LA_law_473 ?_
      refine lv_toi (z := nI 1) rfl ?_
      refine lv_iload hx hb d_LA_law_476 (lv_at hl 1 rfl) ?_
      refine z_ceq (tgt := 483) hx hb d_LA_law_478 (by decide) (by omega) (by omega) (fun _ => ?_) (fun h => absurd h (by omega))
      refine lv_iload hx hb d_LA_law_483 (lv_at hl 1 rfl) ?_
      refine z_0ne (tgt := 500) hx hb d_LA_law_485 (by decide) (by omega) (fun _ => ?_) (fun h => absurd h (by omega))
      refine lv_goto (tgt := 1221) hx hb d_LA_law_500 (by decide) ?_
      exact kk _ _ _ _ ls (by omega) (by omega) hS ⟨tc, tf, B, P, Qp, N, ah, kw, z, nn, sd, cf, lf, cn, (mS 0 1 M), fo, bk, us, u, cap, wt, tB, ⟨h_kSB, h_kBL, h_kNE, h_kP, h_kSE, h_kQ, h_kDR, h_kPI, h_kMO, h_kOU⟩, hT, hO, RelG_ag hG ⟨⟨rfl, rfl, rfl, rfl, rfl, rfl, rfl, rfl, rfl, rfl, rfl, rfl⟩, ⟨rfl, rfl, rfl, rfl⟩, rfl, rfl, rfl⟩, RelT_ag hR ⟨⟨rfl, rfl, rfl, rfl, rfl, rfl, rfl, rfl, rfl, rfl, rfl, rfl⟩, ⟨rfl, rfl, rfl, rfl⟩, rfl, rfl, rfl⟩, hq⟩ (lv_sub hl [2, 3, 4, 5, 6] rfl)
    · have ha16 : aa < 16 := by omega
      have hb16 : bb < 16 := by omega
      have hrn := hG.2.2.2.2.1
      have hon := hG.2.2.2.1
      have hr20 : M.2.2.1 20 = N.2 := hrn.1
      have ho40 : N.2 ≤ 40 := hon.1
      have hdga := (RelG_deg hG ha16).2.2
      have hdgb := (RelG_deg hG hb16).2.2
      have hNk : ∀ k, k < M.2.2.1 20 → M.1 18 k < 2 ^ 31 ∧ M.1 19 k < 2 ^ 31 := fun k hk => by rw [hr20] at hk; have e9 := hrn.2 k hk; have e8 := hon.2 k hk; omega
      have ha8 : N.1 2 aa ≤ 8 := (hG.2.2.2.2.2 aa ha16).2
      have hb8 : N.1 2 bb ≤ 8 := (hG.2.2.2.2.2 bb hb16).2
      by_cases hw : N.2 = 40 ∨ 8 ≤ N.1 2 aa ∨ 8 ≤ N.1 2 bb
      · have hfa := fb1_k hka hkea hbka
        have hfb := fb1_k hkb hkeb hbkb
        obtain ⟨T, hTs0, hfT, hfU⟩ := fb_T2 hT hO hfa hfb
        refine lv_aload_n hx hb d_LA_law_435 rfl (lv_at hl 1 rfl) ?_
        refine lv_aload_n hx hb d_LA_law_436 rfl (lv_at hl 0 rfl) ?_
        refine lv_iload hx hb d_LA_law_437 (lv_at hl 4 rfl) ?_
        refine lv_iconst (v := nI 1) hx hb d_LA_law_439 (by decide) ?_
        refine z_add hx hb d_LA_law_440 ?_
        refine va_sld hx hb hX hbl hbA hS (vp_in_nI (n := (i + 1)) (by omega) (by omega)) d_LA_law_441 ?_
        refine lv_toi (z := xs (i + 1)) (congrArg xs (nI_clamp (by omega))) ?_
        refine lv_aload_n hx hb d_LA_law_442 rfl (lv_at hl 0 rfl) ?_
        refine lv_iload hx hb d_LA_law_443 (lv_at hl 4 rfl) ?_
        refine lv_iconst (v := nI 2) hx hb d_LA_law_445 (by decide) ?_
        refine z_add hx hb d_LA_law_446 ?_
        refine va_sld hx hb hX hbl hbA hS (vp_in_nI (n := (i + 2)) (by omega) (by omega)) d_LA_law_447 ?_
        refine lv_toi (z := xs (i + 2)) (congrArg xs (nI_clamp (by omega))) ?_
        refine lv_aload_n hx hb d_LA_law_448 rfl (lv_at hl 3 rfl) ?_
        have hTs : thS D cA bk us u cap tB tc (T) H := hTs0
        have hTi := thS_in (h0 := s.heap.size) hT hTs
        have hi0 : ∀ p ∈ kNE cA cZ c2 cT cL s.heap.size N, (s.heap.size + 11 ≤ p.1 ∧ p.1 < s.heap.size + 15) := in_kNE
        have hn0 : va_D (fun _ => True) (kNE cA cZ c2 cT cL s.heap.size N) := nd_kNE
        have hn1 : va_D (fun _ => True) ((kNE cA cZ c2 cT cL s.heap.size N) ++ (kSB cA cZ c2 cT cL s.heap.size tc tf)) := nd_app hn0 nd_kSB (fun p hp q hq e9 => by have := hi0 p hp; have := in_kSB q hq; omega)
        have hi1 : ∀ p ∈ (kNE cA cZ c2 cT cL s.heap.size N) ++ (kSB cA cZ c2 cT cL s.heap.size tc tf), (s.heap.size + 11 ≤ p.1 ∧ p.1 < s.heap.size + 15) ∨ (s.heap.size + 0 ≤ p.1 ∧ p.1 < s.heap.size + 2) := fun p hp => (List.mem_append.mp hp).elim (fun h => by have := hi0 p h; omega) (fun h => by have := in_kSB p h; omega)
        have hn2 : va_D (fun _ => True) (((kNE cA cZ c2 cT cL s.heap.size N) ++ (kSB cA cZ c2 cT cL s.heap.size tc tf)) ++ (T)) := nd_app hn1 hTs.2.1 (fun p hp q hq e9 => by have := hi1 p hp; have := hTi q hq; omega)
        have hi2 : ∀ p ∈ ((kNE cA cZ c2 cT cL s.heap.size N) ++ (kSB cA cZ c2 cT cL s.heap.size tc tf)) ++ (T), (s.heap.size + 11 ≤ p.1 ∧ p.1 < s.heap.size + 15) ∨ (s.heap.size + 0 ≤ p.1 ∧ p.1 < s.heap.size + 2) ∨ (s.heap.size + 98 ≤ p.1) := fun p hp => (List.mem_append.mp hp).elim (fun h => by have := hi1 p h; omega) (fun h => by have := hTi p h; omega)
        have hw9 : ∀ p ∈ ((kNE cA cZ c2 cT cL s.heap.size N) ++ (kSB cA cZ c2 cT cL s.heap.size tc tf)) ++ (T), p.1 < s.heap.size + 98 ∨ p ∈ T := fun p hp => (List.mem_append.mp hp).elim (fun h => (List.mem_append.mp h).elim (fun h => Or.inl (by have := in_kNE p h; omega)) (fun h => Or.inl (by have := in_kSB p h; omega))) (fun h => Or.inr h)
        refine zg_H (V := Unit) (F := zT2) (mc := 1) (ms := 6) (As := [.ref s.heap.size, .int (xs (i + 1)), .int (xs (i + 2)), .ref (s.heap.size + 97)]) (rest := []) (n := 4) (wsC := ((kNE cA cZ c2 cT cL s.heap.size N) ++ (kSB cA cZ c2 cT cL s.heap.size tc tf)) ++ (T)) (φ := fun _ => True) (wv := fun _ => ((kNE cA cZ c2 cT cL s.heap.size N) ++ (kSB cA cZ c2 cT cL s.heap.size tc tf)) ++ (T)) (rv := .int (nI 2)) zT2_ok ⟨hx, hb, hml, hown, hts⟩ (met_u (h_net_x2 l D htl _ (fun k => s.heap.size + k) (fun k => s.heap.size + 2 + k) (fun k => s.heap.size + 11 + k) (fun k => s.heap.size + 15 + k) (fun k => s.heap.size + 30 + 16 * k) (laI s.heap.size) cA cZ c2 cT tc tf (s.heap.size + 97) T (xs (i + 1)) (xs (i + 2)) aa bb N h40 hfT hfU ha16 hb16 ho40 (by omega) (by omega) hw)) ⟨km_LA_88, kst_LA_net, kn_LA, kw_LA_net⟩ (by decide +kernel) (by decide) ⟨(by show cs + 1 ≤ 601024; omega), (by show sl + 6 ≤ 7293000; omega)⟩ (hK.sub [0, 1, 2, 3] rfl) (((h_kNE).app h_kSB).app hTs.1) hn2 hS (la_A hS (fun p hp => by have := hi2 p hp; omega)) hF2 rfl hl.1 rfl (Nat.le_of_ble_eq_true rfl) d_LA_law_449 (fun _ H1 locs1 hph hP1 hz1 hf1 hS1 => ?_)
        have hq2 := va_P.right hP1
        have hr2 := va_P.left hP1
        have hq1 := va_P.right hr2
        have hr1 := va_P.left hr2
        have hq0 := hr1
        have h_kBL := hf1.far h_kBL in_kBL (fun p hp => by have := hi2 p hp; omega)
        have h_kP := hf1.far h_kP in_kP (fun p hp => by have := hi2 p hp; omega)
        have h_kSE := hf1.far h_kSE in_kSE (fun p hp => by have := hi2 p hp; omega)
        have h_kQ := hf1.far h_kQ in_kQ (fun p hp => by have := hi2 p hp; omega)
        have h_kDR := hf1.far h_kDR in_kDR (fun p hp => by have := hi2 p hp; omega)
        have h_kPI := hf1.far h_kPI in_kPI (fun p hp => by have := hi2 p hp; omega)
        have h_kMO := hf1.far h_kMO in_kMO (fun p hp => by have := hi2 p hp; omega)
        have h_kOU := hf1.far h_kOU in_kOU (fun p hp => by have := hi2 p hp; omega)
        have h_kNE := hq0
        have h_kSB := hq1
        have hT := th_kept hT hO hf1 hw9 hTs hq2
        have hS := hS1
        clear hf1 hS1 hP1 hn0 hi0 hn1 hi1 hn2 hi2
        refine lv_istore (lv' := [(5, .int (nI 2)), (0, .ref b), (1, .ref s.heap.size), (2, .ref (s.heap.size + 69)), (3, .ref (s.heap.size + 97)), (4, .int (nI i))]) hx hb d_LA_law_452 hl (by decide) rfl (fun ls hl => ?_)
        refine lv_aload_n hx hb d_LA_law_454 rfl (lv_at hl 3 rfl) ?_
        refine lv_aload_n hx hb d_LA_law_455 rfl (lv_at hl 1 rfl) ?_
        refine lv_iload hx hb d_LA_law_456 (lv_at hl 5 rfl) ?_
        refine lv_iconst (v := nI 1) hx hb d_LA_law_458 (by decide) ?_
        refine z_add hx hb d_LA_law_459 ?_
        refine va_sld hx hb hX hbl hbA hS (vp_in_nI (n := (i + 1)) (by omega) (by omega)) d_LA_law_460 ?_
        refine lv_toi (z := xs (i + 1)) (congrArg xs (nI_clamp (by omega))) ?_
        refine lv_aload_n hx hb d_LA_law_461 rfl (lv_at hl 1 rfl) ?_
        refine lv_iload hx hb d_LA_law_462 (lv_at hl 5 rfl) ?_
        refine lv_iconst (v := nI 2) hx hb d_LA_law_464 (by decide) ?_
        refine z_add hx hb d_LA_law_465 ?_
        refine va_sld hx hb hX hbl hbA hS (vp_in_nI (n := (i + 2)) (by omega) (by omega)) d_LA_law_466 ?_
        refine lv_toi (z := xs (i + 2)) (congrArg xs (nI_clamp (by omega))) ?_
        have hi0 : ∀ p ∈ kMO cA cZ c2 cT cL s.heap.size M z, (s.heap.size + 69 ≤ p.1 ∧ p.1 < s.heap.size + 97) := in_kMO
        have hn0 : va_D (fun _ => True) (kMO cA cZ c2 cT cL s.heap.size M z) := nd_kMO
        refine zg_V (V := Unit) (ci := 10) (q0 := 0) (As := [.int (xs (i + 1)), .int (xs (i + 2))]) (rest := []) (n := 2) (wsC := kMO cA cZ c2 cT cL s.heap.size M z) (φ := fun _ => True) (wv := fun _ => kMO cA cZ c2 cT cL s.heap.size (mS 0 2 M) z) (rv := .int (nI 0)) ⟨hx, hb, hml, hown, hts⟩ (met_u (c_MO_net_no2 l D _ (laM s.heap.size) cA cZ cL M z (xs (i + 1)) (xs (i + 2)) aa bb (by omega) hba hbb9 ha16 hb16 (by omega) hNk (by rw [hdga, hdgb, hr20]; omega))) ⟨km_LA_91, ki_MO_net, ks_MO_net, kn_MO, kd_MO_net⟩ (by decide +kernel) (by decide) ⟨(by show cs + 1 + 0 ≤ 601024; omega), (by show sl + 6 + 0 ≤ 7293000; omega)⟩ (hK.sub [0, 1, 4] rfl) (h_kMO) hn0 hS (la_A hS (fun p hp => by have := hi0 p hp; omega)) rfl rfl rfl hl.1 rfl (Nat.le_of_ble_eq_true rfl) d_LA_law_467 (fun _ H1 locs1 hph hP1 hz1 hf1 hS1 => ?_)
        have hq0 := hP1
        have h_kSB := hf1.far h_kSB in_kSB (fun p hp => by have := hi0 p hp; omega)
        have h_kBL := hf1.far h_kBL in_kBL (fun p hp => by have := hi0 p hp; omega)
        have h_kNE := hf1.far h_kNE in_kNE (fun p hp => by have := hi0 p hp; omega)
        have h_kP := hf1.far h_kP in_kP (fun p hp => by have := hi0 p hp; omega)
        have h_kSE := hf1.far h_kSE in_kSE (fun p hp => by have := hi0 p hp; omega)
        have h_kQ := hf1.far h_kQ in_kQ (fun p hp => by have := hi0 p hp; omega)
        have h_kDR := hf1.far h_kDR in_kDR (fun p hp => by have := hi0 p hp; omega)
        have h_kPI := hf1.far h_kPI in_kPI (fun p hp => by have := hi0 p hp; omega)
        have h_kOU := hf1.far h_kOU in_kOU (fun p hp => by have := hi0 p hp; omega)
        have h_kMO := hq0
        have hT := th_kept0 hT hO hf1 (fun p hp => by have := hi0 p hp; omega)
        have hS := hS1
        clear hf1 hS1 hP1 hn0 hi0
        refine lv_istore (lv' := [(6, .int (nI 0)), (5, .int (nI 2)), (0, .ref b), (1, .ref s.heap.size), (2, .ref (s.heap.size + 69)), (3, .ref (s.heap.size + 97)), (4, .int (nI i))]) hx hb d_LA_law_470 hl (by decide) rfl (fun ls hl => ?_)
        refine lv_aload_n hx hb d_LA_law_472 rfl (lv_at hl 4 rfl) ?_
        refine zrM_V (ci := 10) (q0 := 0) (As := []) (rest := []) (n := 0) (wsC := kMO cA cZ c2 cT cL s.heap.size (mS 0 2 M) z) ⟨hx, hb, hml, hown, hts⟩ (c_MO_thrown l D (laM s.heap.size) cA cZ cL (mS 0 2 M) z) ⟨km_LA_80, ki_MO_thrown, ks_MO_thrown, kn_MO, kd_MO_thrown⟩ (by decide +kernel) (by decide) ⟨(by show cs + 1 + 0 ≤ 601024; omega), (by show sl + 6 + 0 ≤ 7293000; omega)⟩ (hK.sub [0, 1, 4] rfl) h_kMO rfl rfl rfl hl.1 rfl (Nat.le_of_ble_eq_true rfl) d_LA_law_473 ?_
        refine lv_toi (z := nI 2) rfl ?_
        refine lv_iload hx hb d_LA_law_476 (lv_at hl 1 rfl) ?_
        refine z_ceq (tgt := 483) hx hb d_LA_law_478 (by decide) (by omega) (by omega) (fun _ => ?_) (fun h => absurd h (by omega))
        refine lv_iload hx hb d_LA_law_483 (lv_at hl 1 rfl) ?_
        refine z_0ne (tgt := 500) hx hb d_LA_law_485 (by decide) (by omega) (fun _ => ?_) (fun h => absurd h (by omega))
        refine lv_goto (tgt := 1221) hx hb d_LA_law_500 (by decide) ?_
        exact kk _ _ _ _ ls (by omega) (by omega) hS ⟨tc, tf, B, P, Qp, N, ah, kw, z, nn, sd, cf, lf, cn, (mS 0 2 M), fo, bk, us, u, cap, wt, tB, ⟨h_kSB, h_kBL, h_kNE, h_kP, h_kSE, h_kQ, h_kDR, h_kPI, h_kMO, h_kOU⟩, hT, hO, RelG_ag hG ⟨⟨rfl, rfl, rfl, rfl, rfl, rfl, rfl, rfl, rfl, rfl, rfl, rfl⟩, ⟨rfl, rfl, rfl, rfl⟩, rfl, rfl, rfl⟩, RelT_ag hR ⟨⟨rfl, rfl, rfl, rfl, rfl, rfl, rfl, rfl, rfl, rfl, rfl, rfl⟩, ⟨rfl, rfl, rfl, rfl⟩, rfl, rfl, rfl⟩, hq⟩ (lv_sub hl [2, 3, 4, 5, 6] rfl)
      · by_cases hab : aa = bb
        · have hfa := fb1_k hka hkea hbka
          have hfb := fb1_k hkb hkeb hbkb
          obtain ⟨T, hTs0, hfT, hfU⟩ := fb_T2 hT hO hfa hfb
          refine lv_aload_n hx hb d_LA_law_435 rfl (lv_at hl 1 rfl) ?_
          refine lv_aload_n hx hb d_LA_law_436 rfl (lv_at hl 0 rfl) ?_
          refine lv_iload hx hb d_LA_law_437 (lv_at hl 4 rfl) ?_
          refine lv_iconst (v := nI 1) hx hb d_LA_law_439 (by decide) ?_
          refine z_add hx hb d_LA_law_440 ?_
          refine va_sld hx hb hX hbl hbA hS (vp_in_nI (n := (i + 1)) (by omega) (by omega)) d_LA_law_441 ?_
          refine lv_toi (z := xs (i + 1)) (congrArg xs (nI_clamp (by omega))) ?_
          refine lv_aload_n hx hb d_LA_law_442 rfl (lv_at hl 0 rfl) ?_
          refine lv_iload hx hb d_LA_law_443 (lv_at hl 4 rfl) ?_
          refine lv_iconst (v := nI 2) hx hb d_LA_law_445 (by decide) ?_
          refine z_add hx hb d_LA_law_446 ?_
          refine va_sld hx hb hX hbl hbA hS (vp_in_nI (n := (i + 2)) (by omega) (by omega)) d_LA_law_447 ?_
          refine lv_toi (z := xs (i + 2)) (congrArg xs (nI_clamp (by omega))) ?_
          refine lv_aload_n hx hb d_LA_law_448 rfl (lv_at hl 3 rfl) ?_
          have hTs : thS D cA bk us u cap tB tc (T) H := hTs0
          have hTi := thS_in (h0 := s.heap.size) hT hTs
          have hi0 : ∀ p ∈ kNE cA cZ c2 cT cL s.heap.size N, (s.heap.size + 11 ≤ p.1 ∧ p.1 < s.heap.size + 15) := in_kNE
          have hn0 : va_D (fun _ => True) (kNE cA cZ c2 cT cL s.heap.size N) := nd_kNE
          have hn1 : va_D (fun _ => True) ((kNE cA cZ c2 cT cL s.heap.size N) ++ (kSB cA cZ c2 cT cL s.heap.size tc tf)) := nd_app hn0 nd_kSB (fun p hp q hq e9 => by have := hi0 p hp; have := in_kSB q hq; omega)
          have hi1 : ∀ p ∈ (kNE cA cZ c2 cT cL s.heap.size N) ++ (kSB cA cZ c2 cT cL s.heap.size tc tf), (s.heap.size + 11 ≤ p.1 ∧ p.1 < s.heap.size + 15) ∨ (s.heap.size + 0 ≤ p.1 ∧ p.1 < s.heap.size + 2) := fun p hp => (List.mem_append.mp hp).elim (fun h => by have := hi0 p h; omega) (fun h => by have := in_kSB p h; omega)
          have hn2 : va_D (fun _ => True) (((kNE cA cZ c2 cT cL s.heap.size N) ++ (kSB cA cZ c2 cT cL s.heap.size tc tf)) ++ (T)) := nd_app hn1 hTs.2.1 (fun p hp q hq e9 => by have := hi1 p hp; have := hTi q hq; omega)
          have hi2 : ∀ p ∈ ((kNE cA cZ c2 cT cL s.heap.size N) ++ (kSB cA cZ c2 cT cL s.heap.size tc tf)) ++ (T), (s.heap.size + 11 ≤ p.1 ∧ p.1 < s.heap.size + 15) ∨ (s.heap.size + 0 ≤ p.1 ∧ p.1 < s.heap.size + 2) ∨ (s.heap.size + 98 ≤ p.1) := fun p hp => (List.mem_append.mp hp).elim (fun h => by have := hi1 p h; omega) (fun h => by have := hTi p h; omega)
          have hw9 : ∀ p ∈ ((kNE cA cZ c2 cT cL s.heap.size N) ++ (kSB cA cZ c2 cT cL s.heap.size tc tf)) ++ (T), p.1 < s.heap.size + 98 ∨ p ∈ T := fun p hp => (List.mem_append.mp hp).elim (fun h => (List.mem_append.mp h).elim (fun h => Or.inl (by have := in_kNE p h; omega)) (fun h => Or.inl (by have := in_kSB p h; omega))) (fun h => Or.inr h)
          refine zg_H (V := Unit) (F := zT2) (mc := 1) (ms := 6) (As := [.ref s.heap.size, .int (xs (i + 1)), .int (xs (i + 2)), .ref (s.heap.size + 97)]) (rest := []) (n := 4) (wsC := ((kNE cA cZ c2 cT cL s.heap.size N) ++ (kSB cA cZ c2 cT cL s.heap.size tc tf)) ++ (T)) (φ := fun _ => True) (wv := fun _ => ((kNE cA cZ c2 cT cL s.heap.size N) ++ (kSB cA cZ c2 cT cL s.heap.size tc tf)) ++ (T)) (rv := .int (nI 3)) zT2_ok ⟨hx, hb, hml, hown, hts⟩ (met_u (h_net_x3 l D htl _ (fun k => s.heap.size + k) (fun k => s.heap.size + 2 + k) (fun k => s.heap.size + 11 + k) (fun k => s.heap.size + 15 + k) (fun k => s.heap.size + 30 + 16 * k) (laI s.heap.size) cA cZ c2 cT tc tf (s.heap.size + 97) T (xs (i + 1)) (xs (i + 2)) aa bb N h40 hfT hfU ha16 hb16 ho40 (by omega) (by omega) (by omega) (by omega) (by omega) hab)) ⟨km_LA_88, kst_LA_net, kn_LA, kw_LA_net⟩ (by decide +kernel) (by decide) ⟨(by show cs + 1 ≤ 601024; omega), (by show sl + 6 ≤ 7293000; omega)⟩ (hK.sub [0, 1, 2, 3] rfl) (((h_kNE).app h_kSB).app hTs.1) hn2 hS (la_A hS (fun p hp => by have := hi2 p hp; omega)) hF2 rfl hl.1 rfl (Nat.le_of_ble_eq_true rfl) d_LA_law_449 (fun _ H1 locs1 hph hP1 hz1 hf1 hS1 => ?_)
          have hq2 := va_P.right hP1
          have hr2 := va_P.left hP1
          have hq1 := va_P.right hr2
          have hr1 := va_P.left hr2
          have hq0 := hr1
          have h_kBL := hf1.far h_kBL in_kBL (fun p hp => by have := hi2 p hp; omega)
          have h_kP := hf1.far h_kP in_kP (fun p hp => by have := hi2 p hp; omega)
          have h_kSE := hf1.far h_kSE in_kSE (fun p hp => by have := hi2 p hp; omega)
          have h_kQ := hf1.far h_kQ in_kQ (fun p hp => by have := hi2 p hp; omega)
          have h_kDR := hf1.far h_kDR in_kDR (fun p hp => by have := hi2 p hp; omega)
          have h_kPI := hf1.far h_kPI in_kPI (fun p hp => by have := hi2 p hp; omega)
          have h_kMO := hf1.far h_kMO in_kMO (fun p hp => by have := hi2 p hp; omega)
          have h_kOU := hf1.far h_kOU in_kOU (fun p hp => by have := hi2 p hp; omega)
          have h_kNE := hq0
          have h_kSB := hq1
          have hT := th_kept hT hO hf1 hw9 hTs hq2
          have hS := hS1
          clear hf1 hS1 hP1 hn0 hi0 hn1 hi1 hn2 hi2
          refine lv_istore (lv' := [(5, .int (nI 3)), (0, .ref b), (1, .ref s.heap.size), (2, .ref (s.heap.size + 69)), (3, .ref (s.heap.size + 97)), (4, .int (nI i))]) hx hb d_LA_law_452 hl (by decide) rfl (fun ls hl => ?_)
          refine lv_aload_n hx hb d_LA_law_454 rfl (lv_at hl 3 rfl) ?_
          refine lv_aload_n hx hb d_LA_law_455 rfl (lv_at hl 1 rfl) ?_
          refine lv_iload hx hb d_LA_law_456 (lv_at hl 5 rfl) ?_
          refine lv_iconst (v := nI 1) hx hb d_LA_law_458 (by decide) ?_
          refine z_add hx hb d_LA_law_459 ?_
          refine va_sld hx hb hX hbl hbA hS (vp_in_nI (n := (i + 1)) (by omega) (by omega)) d_LA_law_460 ?_
          refine lv_toi (z := xs (i + 1)) (congrArg xs (nI_clamp (by omega))) ?_
          refine lv_aload_n hx hb d_LA_law_461 rfl (lv_at hl 1 rfl) ?_
          refine lv_iload hx hb d_LA_law_462 (lv_at hl 5 rfl) ?_
          refine lv_iconst (v := nI 2) hx hb d_LA_law_464 (by decide) ?_
          refine z_add hx hb d_LA_law_465 ?_
          refine va_sld hx hb hX hbl hbA hS (vp_in_nI (n := (i + 2)) (by omega) (by omega)) d_LA_law_466 ?_
          refine lv_toi (z := xs (i + 2)) (congrArg xs (nI_clamp (by omega))) ?_
          have hi0 : ∀ p ∈ kMO cA cZ c2 cT cL s.heap.size M z, (s.heap.size + 69 ≤ p.1 ∧ p.1 < s.heap.size + 97) := in_kMO
          have hn0 : va_D (fun _ => True) (kMO cA cZ c2 cT cL s.heap.size M z) := nd_kMO
          refine zg_V (V := Unit) (ci := 10) (q0 := 0) (As := [.int (xs (i + 1)), .int (xs (i + 2))]) (rest := []) (n := 2) (wsC := kMO cA cZ c2 cT cL s.heap.size M z) (φ := fun _ => True) (wv := fun _ => kMO cA cZ c2 cT cL s.heap.size (mS 0 3 M) z) (rv := .int (nI 0)) ⟨hx, hb, hml, hown, hts⟩ (met_u (c_MO_net_no3 l D _ (laM s.heap.size) cA cZ cL M z (xs (i + 1)) (xs (i + 2)) aa bb (by omega) hba hbb9 ha16 hb16 (by omega) hNk (by rw [hdga, hdgb, hr20]; omega) hab)) ⟨km_LA_91, ki_MO_net, ks_MO_net, kn_MO, kd_MO_net⟩ (by decide +kernel) (by decide) ⟨(by show cs + 1 + 0 ≤ 601024; omega), (by show sl + 6 + 0 ≤ 7293000; omega)⟩ (hK.sub [0, 1, 4] rfl) (h_kMO) hn0 hS (la_A hS (fun p hp => by have := hi0 p hp; omega)) rfl rfl rfl hl.1 rfl (Nat.le_of_ble_eq_true rfl) d_LA_law_467 (fun _ H1 locs1 hph hP1 hz1 hf1 hS1 => ?_)
          have hq0 := hP1
          have h_kSB := hf1.far h_kSB in_kSB (fun p hp => by have := hi0 p hp; omega)
          have h_kBL := hf1.far h_kBL in_kBL (fun p hp => by have := hi0 p hp; omega)
          have h_kNE := hf1.far h_kNE in_kNE (fun p hp => by have := hi0 p hp; omega)
          have h_kP := hf1.far h_kP in_kP (fun p hp => by have := hi0 p hp; omega)
          have h_kSE := hf1.far h_kSE in_kSE (fun p hp => by have := hi0 p hp; omega)
          have h_kQ := hf1.far h_kQ in_kQ (fun p hp => by have := hi0 p hp; omega)
          have h_kDR := hf1.far h_kDR in_kDR (fun p hp => by have := hi0 p hp; omega)
          have h_kPI := hf1.far h_kPI in_kPI (fun p hp => by have := hi0 p hp; omega)
          have h_kOU := hf1.far h_kOU in_kOU (fun p hp => by have := hi0 p hp; omega)
          have h_kMO := hq0
          have hT := th_kept0 hT hO hf1 (fun p hp => by have := hi0 p hp; omega)
          have hS := hS1
          clear hf1 hS1 hP1 hn0 hi0
          refine lv_istore (lv' := [(6, .int (nI 0)), (5, .int (nI 3)), (0, .ref b), (1, .ref s.heap.size), (2, .ref (s.heap.size + 69)), (3, .ref (s.heap.size + 97)), (4, .int (nI i))]) hx hb d_LA_law_470 hl (by decide) rfl (fun ls hl => ?_)
          refine lv_aload_n hx hb d_LA_law_472 rfl (lv_at hl 4 rfl) ?_
          refine zrM_V (ci := 10) (q0 := 0) (As := []) (rest := []) (n := 0) (wsC := kMO cA cZ c2 cT cL s.heap.size (mS 0 3 M) z) ⟨hx, hb, hml, hown, hts⟩ (c_MO_thrown l D (laM s.heap.size) cA cZ cL (mS 0 3 M) z) ⟨km_LA_80, ki_MO_thrown, ks_MO_thrown, kn_MO, kd_MO_thrown⟩ (by decide +kernel) (by decide) ⟨(by show cs + 1 + 0 ≤ 601024; omega), (by show sl + 6 + 0 ≤ 7293000; omega)⟩ (hK.sub [0, 1, 4] rfl) h_kMO rfl rfl rfl hl.1 rfl (Nat.le_of_ble_eq_true rfl) d_LA_law_473 ?_
          refine lv_toi (z := nI 3) rfl ?_
          refine lv_iload hx hb d_LA_law_476 (lv_at hl 1 rfl) ?_
          refine z_ceq (tgt := 483) hx hb d_LA_law_478 (by decide) (by omega) (by omega) (fun _ => ?_) (fun h => absurd h (by omega))
          refine lv_iload hx hb d_LA_law_483 (lv_at hl 1 rfl) ?_
          refine z_0ne (tgt := 500) hx hb d_LA_law_485 (by decide) (by omega) (fun _ => ?_) (fun h => absurd h (by omega))
          refine lv_goto (tgt := 1221) hx hb d_LA_law_500 (by decide) ?_
          exact kk _ _ _ _ ls (by omega) (by omega) hS ⟨tc, tf, B, P, Qp, N, ah, kw, z, nn, sd, cf, lf, cn, (mS 0 3 M), fo, bk, us, u, cap, wt, tB, ⟨h_kSB, h_kBL, h_kNE, h_kP, h_kSE, h_kQ, h_kDR, h_kPI, h_kMO, h_kOU⟩, hT, hO, RelG_ag hG ⟨⟨rfl, rfl, rfl, rfl, rfl, rfl, rfl, rfl, rfl, rfl, rfl, rfl⟩, ⟨rfl, rfl, rfl, rfl⟩, rfl, rfl, rfl⟩, RelT_ag hR ⟨⟨rfl, rfl, rfl, rfl, rfl, rfl, rfl, rfl, rfl, rfl, rfl, rfl⟩, ⟨rfl, rfl, rfl, rfl⟩, rfl, rfl, rfl⟩, hq⟩ (lv_sub hl [2, 3, 4, 5, 6] rfl)
        · have hnek : ka ≠ kb := fun q => hab (nI_inj9 ha16 hb16 (by rw [← hbka, ← hbkb, q]))
          have hba2 : bfind (M.1 10) (nI ka) (M.2.2.1 17) = some aa := by rw [← hkea]; exact hba
          have hbb2 : bfind (M.1 10) (nI kb) (M.2.2.1 17) = some bb := by rw [← hkeb]; exact hbb9
          refine lv_aload_n hx hb d_LA_law_435 rfl (lv_at hl 1 rfl) ?_
          refine lv_aload_n hx hb d_LA_law_436 rfl (lv_at hl 0 rfl) ?_
          refine lv_iload hx hb d_LA_law_437 (lv_at hl 4 rfl) ?_
          refine lv_iconst (v := nI 1) hx hb d_LA_law_439 (by decide) ?_
          refine z_add hx hb d_LA_law_440 ?_
          refine va_sld hx hb hX hbl hbA hS (vp_in_nI (n := (i + 1)) (by omega) (by omega)) d_LA_law_441 ?_
          refine lv_toi (z := (nI ka)) ((congrArg xs (nI_clamp (by omega))).trans hkea) ?_
          refine lv_aload_n hx hb d_LA_law_442 rfl (lv_at hl 0 rfl) ?_
          refine lv_iload hx hb d_LA_law_443 (lv_at hl 4 rfl) ?_
          refine lv_iconst (v := nI 2) hx hb d_LA_law_445 (by decide) ?_
          refine z_add hx hb d_LA_law_446 ?_
          refine va_sld hx hb hX hbl hbA hS (vp_in_nI (n := (i + 2)) (by omega) (by omega)) d_LA_law_447 ?_
          refine lv_toi (z := (nI kb)) ((congrArg xs (nI_clamp (by omega))).trans hkeb) ?_
          refine lv_aload_n hx hb d_LA_law_448 rfl (lv_at hl 3 rfl) ?_
          have hTs : thS D cA bk us u cap tB tc (lTO cA (tB ka) (nI aa) (us ka) ++ lTO cA (tB kb) (nI bb) (us kb)) H := thS_oo hT hO hka hkb hnek hbka hbkb
          have hTi := thS_in (h0 := s.heap.size) hT hTs
          have hi0 : ∀ p ∈ kNE cA cZ c2 cT cL s.heap.size N, (s.heap.size + 11 ≤ p.1 ∧ p.1 < s.heap.size + 15) := in_kNE
          have hn0 : va_D (fun _ => True) (kNE cA cZ c2 cT cL s.heap.size N) := nd_kNE
          have hn1 : va_D (fun _ => True) ((kNE cA cZ c2 cT cL s.heap.size N) ++ (kSB cA cZ c2 cT cL s.heap.size tc tf)) := nd_app hn0 nd_kSB (fun p hp q hq e9 => by have := hi0 p hp; have := in_kSB q hq; omega)
          have hi1 : ∀ p ∈ (kNE cA cZ c2 cT cL s.heap.size N) ++ (kSB cA cZ c2 cT cL s.heap.size tc tf), (s.heap.size + 11 ≤ p.1 ∧ p.1 < s.heap.size + 15) ∨ (s.heap.size + 0 ≤ p.1 ∧ p.1 < s.heap.size + 2) := fun p hp => (List.mem_append.mp hp).elim (fun h => by have := hi0 p h; omega) (fun h => by have := in_kSB p h; omega)
          have hn2 : va_D (fun _ => True) (((kNE cA cZ c2 cT cL s.heap.size N) ++ (kSB cA cZ c2 cT cL s.heap.size tc tf)) ++ (lTO cA (tB ka) (nI aa) (us ka) ++ lTO cA (tB kb) (nI bb) (us kb))) := nd_app hn1 hTs.2.1 (fun p hp q hq e9 => by have := hi1 p hp; have := hTi q hq; omega)
          have hi2 : ∀ p ∈ ((kNE cA cZ c2 cT cL s.heap.size N) ++ (kSB cA cZ c2 cT cL s.heap.size tc tf)) ++ (lTO cA (tB ka) (nI aa) (us ka) ++ lTO cA (tB kb) (nI bb) (us kb)), (s.heap.size + 11 ≤ p.1 ∧ p.1 < s.heap.size + 15) ∨ (s.heap.size + 0 ≤ p.1 ∧ p.1 < s.heap.size + 2) ∨ (s.heap.size + 98 ≤ p.1) := fun p hp => (List.mem_append.mp hp).elim (fun h => by have := hi1 p h; omega) (fun h => by have := hTi p h; omega)
          have hn3 : va_D (fun _ => True) ((((kNE cA cZ c2 cT cL s.heap.size N) ++ (kSB cA cZ c2 cT cL s.heap.size tc tf)) ++ (lTO cA (tB ka) (nI aa) (us ka) ++ lTO cA (tB kb) (nI bb) (us kb))) ++ (kOU cA cZ c2 cT cL s.heap.size fo)) := nd_app hn2 nd_kOU (fun p hp q hq e9 => by have := hi2 p hp; have := in_kOU q hq; omega)
          have hi3 : ∀ p ∈ (((kNE cA cZ c2 cT cL s.heap.size N) ++ (kSB cA cZ c2 cT cL s.heap.size tc tf)) ++ (lTO cA (tB ka) (nI aa) (us ka) ++ lTO cA (tB kb) (nI bb) (us kb))) ++ (kOU cA cZ c2 cT cL s.heap.size fo), (s.heap.size + 11 ≤ p.1 ∧ p.1 < s.heap.size + 15) ∨ (s.heap.size + 0 ≤ p.1 ∧ p.1 < s.heap.size + 2) ∨ (s.heap.size + 98 ≤ p.1) ∨ (s.heap.size + 97 ≤ p.1 ∧ p.1 < s.heap.size + 98) := fun p hp => (List.mem_append.mp hp).elim (fun h => by have := hi2 p h; omega) (fun h => by have := in_kOU p h; omega)
          have hw9 : ∀ p ∈ (((kNE cA cZ c2 cT cL s.heap.size N) ++ (kSB cA cZ c2 cT cL s.heap.size tc tf)) ++ (lTO cA (tB ka) (nI aa) (us ka) ++ lTO cA (tB kb) (nI bb) (us kb))) ++ (kOU cA cZ c2 cT cL s.heap.size fo), p.1 < s.heap.size + 98 ∨ p ∈ lTO cA (tB ka) (nI aa) (us ka) ++ lTO cA (tB kb) (nI bb) (us kb) := fun p hp => (List.mem_append.mp hp).elim (fun h => (List.mem_append.mp h).elim (fun h => (List.mem_append.mp h).elim (fun h => Or.inl (by have := in_kNE p h; omega)) (fun h => Or.inl (by have := in_kSB p h; omega))) (fun h => Or.inr h)) (fun h => Or.inl (by have := in_kOU p h; omega))
          refine zg_H (V := Unit) (F := zF0) (mc := 0) (ms := 0) (As := [.ref s.heap.size, .int (nI ka), .int (nI kb), .ref (s.heap.size + 97)]) (rest := []) (n := 4) (wsC := (((kNE cA cZ c2 cT cL s.heap.size N) ++ (kSB cA cZ c2 cT cL s.heap.size tc tf)) ++ (lTO cA (tB ka) (nI aa) (us ka) ++ lTO cA (tB kb) (nI bb) (us kb))) ++ (kOU cA cZ c2 cT cL s.heap.size fo)) (φ := fun _ => True) (wv := fun _ => (((kNE cA cZ c2 cT cL s.heap.size (apN aa bb N)) ++ (kSB cA cZ c2 cT cL s.heap.size tc tf)) ++ (lTO cA (tB ka) (nI aa) (us ka) ++ lTO cA (tB kb) (nI bb) (us kb))) ++ (kOU cA cZ c2 cT cL s.heap.size (o1 fo (lN N.2)))) (rv := .int (nI 0)) zF0_ok ⟨hx, hb, hml, hown, hts⟩ (met_u (met_f (h_net l D _ (fun k => s.heap.size + k) (fun k => s.heap.size + 2 + k) (fun k => s.heap.size + 11 + k) (fun k => s.heap.size + 15 + k) (fun k => s.heap.size + 30 + 16 * k) (laI s.heap.size) cA cZ c2 cT tc tf (s.heap.size + 97) cL fo (tB ka) (tB ka + 1) (tB kb) (tB kb + 1) (us ka) (us kb) N ka kb aa bb h40 hka hkb (hT ka hka).2.2 (hT kb hkb).2.2 ha16 hb16 (by omega) (by omega) (by omega) hab))) ⟨km_LA_88, kst_LA_net, kn_LA, kw_LA_net⟩ (by decide +kernel) (by decide) ⟨(by show cs + 0 ≤ 601024; omega), (by show sl + 0 ≤ 7293000; omega)⟩ (hK.sub [0, 1, 2, 3, 4] rfl) ((((h_kNE).app h_kSB).app hTs.1).app h_kOU) hn3 hS (la_A hS (fun p hp => by have := hi3 p hp; omega)) trivial rfl hl.1 rfl (Nat.le_of_ble_eq_true rfl) d_LA_law_449 (fun _ H1 locs1 hph hP1 hz1 hf1 hS1 => ?_)
          have hq3 := va_P.right hP1
          have hr3 := va_P.left hP1
          have hq2 := va_P.right hr3
          have hr2 := va_P.left hr3
          have hq1 := va_P.right hr2
          have hr1 := va_P.left hr2
          have hq0 := hr1
          have h_kBL := hf1.far h_kBL in_kBL (fun p hp => by have := hi3 p hp; omega)
          have h_kP := hf1.far h_kP in_kP (fun p hp => by have := hi3 p hp; omega)
          have h_kSE := hf1.far h_kSE in_kSE (fun p hp => by have := hi3 p hp; omega)
          have h_kQ := hf1.far h_kQ in_kQ (fun p hp => by have := hi3 p hp; omega)
          have h_kDR := hf1.far h_kDR in_kDR (fun p hp => by have := hi3 p hp; omega)
          have h_kPI := hf1.far h_kPI in_kPI (fun p hp => by have := hi3 p hp; omega)
          have h_kMO := hf1.far h_kMO in_kMO (fun p hp => by have := hi3 p hp; omega)
          have h_kNE := hq0
          have h_kSB := hq1
          have h_kOU := hq3
          have hT := th_kept hT hO hf1 hw9 hTs hq2
          have hS := hS1
          clear hf1 hS1 hP1 hn0 hi0 hn1 hi1 hn2 hi2 hn3 hi3
          refine lv_istore (lv' := [(5, .int (nI 0)), (0, .ref b), (1, .ref s.heap.size), (2, .ref (s.heap.size + 69)), (3, .ref (s.heap.size + 97)), (4, .int (nI i))]) hx hb d_LA_law_452 hl (by decide) rfl (fun ls hl => ?_)
          refine lv_aload_n hx hb d_LA_law_454 rfl (lv_at hl 3 rfl) ?_
          refine lv_aload_n hx hb d_LA_law_455 rfl (lv_at hl 1 rfl) ?_
          refine lv_iload hx hb d_LA_law_456 (lv_at hl 5 rfl) ?_
          refine lv_iconst (v := nI 1) hx hb d_LA_law_458 (by decide) ?_
          refine z_add hx hb d_LA_law_459 ?_
          refine va_sld hx hb hX hbl hbA hS (vp_in_nI (n := (i + 1)) (by omega) (by omega)) d_LA_law_460 ?_
          refine lv_toi (z := (nI ka)) ((congrArg xs (nI_clamp (by omega))).trans hkea) ?_
          refine lv_aload_n hx hb d_LA_law_461 rfl (lv_at hl 1 rfl) ?_
          refine lv_iload hx hb d_LA_law_462 (lv_at hl 5 rfl) ?_
          refine lv_iconst (v := nI 2) hx hb d_LA_law_464 (by decide) ?_
          refine z_add hx hb d_LA_law_465 ?_
          refine va_sld hx hb hX hbl hbA hS (vp_in_nI (n := (i + 2)) (by omega) (by omega)) d_LA_law_466 ?_
          refine lv_toi (z := (nI kb)) ((congrArg xs (nI_clamp (by omega))).trans hkeb) ?_
          have hi0 : ∀ p ∈ kMO cA cZ c2 cT cL s.heap.size M z, (s.heap.size + 69 ≤ p.1 ∧ p.1 < s.heap.size + 97) := in_kMO
          have hn0 : va_D (fun _ => True) (kMO cA cZ c2 cT cL s.heap.size M z) := nd_kMO
          refine zg_V (V := Unit) (ci := 10) (q0 := 0) (As := [.int (nI ka), .int (nI kb)]) (rest := []) (n := 2) (wsC := kMO cA cZ c2 cT cL s.heap.size M z) (φ := fun _ => True) (wv := fun _ => kMO cA cZ c2 cT cL s.heap.size (mN 18 (va_up (M.1 18) (M.2.2.1 20) aa) (mN 19 (va_up (M.1 19) (M.2.2.1 20) bb) (mS 20 (M.2.2.1 20 + 1) (mS 0 0 M)))) z) (rv := .int (nI (M.2.2.1 20))) ⟨hx, hb, hml, hown, hts⟩ (met_u (c_MO_net l D _ (laM s.heap.size) cA cZ cL M z (nI ka) (nI kb) aa bb (by omega) hba2 hbb2 ha16 hb16 (by omega) hNk (by rw [hdga, hdgb, hr20]; omega) hab)) ⟨km_LA_91, ki_MO_net, ks_MO_net, kn_MO, kd_MO_net⟩ (by decide +kernel) (by decide) ⟨(by show cs + 0 ≤ 601024; omega), (by show sl + 0 ≤ 7293000; omega)⟩ (hK.sub [0, 1, 4] rfl) (h_kMO) hn0 hS (la_A hS (fun p hp => by have := hi0 p hp; omega)) rfl rfl rfl hl.1 rfl (Nat.le_of_ble_eq_true rfl) d_LA_law_467 (fun _ H1 locs1 hph hP1 hz1 hf1 hS1 => ?_)
          have hq0 := hP1
          have h_kSB := hf1.far h_kSB in_kSB (fun p hp => by have := hi0 p hp; omega)
          have h_kBL := hf1.far h_kBL in_kBL (fun p hp => by have := hi0 p hp; omega)
          have h_kNE := hf1.far h_kNE in_kNE (fun p hp => by have := hi0 p hp; omega)
          have h_kP := hf1.far h_kP in_kP (fun p hp => by have := hi0 p hp; omega)
          have h_kSE := hf1.far h_kSE in_kSE (fun p hp => by have := hi0 p hp; omega)
          have h_kQ := hf1.far h_kQ in_kQ (fun p hp => by have := hi0 p hp; omega)
          have h_kDR := hf1.far h_kDR in_kDR (fun p hp => by have := hi0 p hp; omega)
          have h_kPI := hf1.far h_kPI in_kPI (fun p hp => by have := hi0 p hp; omega)
          have h_kOU := hf1.far h_kOU in_kOU (fun p hp => by have := hi0 p hp; omega)
          have h_kMO := hq0
          have hT := th_kept0 hT hO hf1 (fun p hp => by have := hi0 p hp; omega)
          have hS := hS1
          clear hf1 hS1 hP1 hn0 hi0
          refine lv_istore (lv' := [(6, .int (nI (M.2.2.1 20))), (5, .int (nI 0)), (0, .ref b), (1, .ref s.heap.size), (2, .ref (s.heap.size + 69)), (3, .ref (s.heap.size + 97)), (4, .int (nI i))]) hx hb d_LA_law_470 hl (by decide) rfl (fun ls hl => ?_)
          refine lv_aload_n hx hb d_LA_law_472 rfl (lv_at hl 4 rfl) ?_
          refine zrM_V (ci := 10) (q0 := 0) (As := []) (rest := []) (n := 0) (wsC := kMO cA cZ c2 cT cL s.heap.size (mN 18 (va_up (M.1 18) (M.2.2.1 20) aa) (mN 19 (va_up (M.1 19) (M.2.2.1 20) bb) (mS 20 (M.2.2.1 20 + 1) (mS 0 0 M)))) z) ⟨hx, hb, hml, hown, hts⟩ (c_MO_thrown l D (laM s.heap.size) cA cZ cL (mN 18 (va_up (M.1 18) (M.2.2.1 20) aa) (mN 19 (va_up (M.1 19) (M.2.2.1 20) bb) (mS 20 (M.2.2.1 20 + 1) (mS 0 0 M)))) z) ⟨km_LA_80, ki_MO_thrown, ks_MO_thrown, kn_MO, kd_MO_thrown⟩ (by decide +kernel) (by decide) ⟨(by show cs + 0 ≤ 601024; omega), (by show sl + 0 ≤ 7293000; omega)⟩ (hK.sub [0, 1, 4] rfl) h_kMO rfl rfl rfl hl.1 rfl (Nat.le_of_ble_eq_true rfl) d_LA_law_473 ?_
          refine lv_toi (z := nI 0) rfl ?_
          refine lv_iload hx hb d_LA_law_476 (lv_at hl 1 rfl) ?_
          refine z_ceq (tgt := 483) hx hb d_LA_law_478 (by decide) (by omega) (by omega) (fun _ => ?_) (fun h => absurd h (by omega))
          refine lv_iload hx hb d_LA_law_483 (lv_at hl 1 rfl) ?_
          refine z_0ne (tgt := 500) hx hb d_LA_law_485 (by decide) (by omega) (fun h => absurd h (by omega)) (fun _ => ?_)
          refine lv_aload_n hx hb d_LA_law_488 rfl (lv_at hl 5 rfl) ?_
          refine lv_iconst (v := nI 0) hx hb d_LA_law_489 (by decide) ?_
          refine va_lald hx hb hK h_kOU 0 4 rfl rfl (vp_in_nI (n := 0) (by decide) (by decide)) d_LA_law_490 ?_
          refine lv_tol (z := lN N.2) rfl ?_
          refine lv_iload hx hb d_LA_law_491 (lv_at hl 0 rfl) ?_
          refine lv_i2l (v := lN (M.2.2.1 20)) hx hb d_LA_law_493 (nI_l (by omega)) ?_
          refine y_leq (tgt := 500) hx hb d_LA_law_494 d_LA_law_495 (by decide) (fun _ => ?_) (fun c9 => absurd (congrArg lN hr20.symm) c9)
          refine lv_goto (tgt := 1221) hx hb d_LA_law_500 (by decide) ?_
          exact kk _ _ _ _ ls (by omega) (by omega) hS ⟨tc, tf, B, P, Qp, (apN aa bb N), ah, kw, z, nn, sd, cf, lf, cn, (mN 18 (va_up (M.1 18) (M.2.2.1 20) aa) (mN 19 (va_up (M.1 19) (M.2.2.1 20) bb) (mS 20 (M.2.2.1 20 + 1) (mS 0 0 M)))), (o1 fo (lN N.2)), bk, us, u, cap, wt, tB, ⟨h_kSB, h_kBL, h_kNE, h_kP, h_kSE, h_kQ, h_kDR, h_kPI, h_kMO, h_kOU⟩, hT, hO, RelG_net hG h16 haa hbb hab (by omega) (by omega) (by omega), RelT_nt hR, hq⟩ (lv_sub hl [2, 3, 4, 5, 6] rfl)
set_option maxHeartbeats 4000000 in
set_option maxRecDepth 100000 in
/-- fix -/
theorem lc_fix {p : Program} {l : Launch} {e : Env} {s : State} {m : MethodId} {below : List Frame} {meth : Method} {c : Code} {b L : Nat} {xs : Nat → Int32} {D : va_G} {cA cZ c2 cT cL : ClassId} {Q : State → Prop} (C : lawC p l s m c b L xs D cA cZ c2 cT cL) {i cs sl : Nat} {H : Heap} {locs : List Loc} {ls : Array Slot} (hi : i + 6 ≤ L) (hcs : cs + 10 ≤ 601024) (hsl : sl + 200 ≤ 7293000) (hS : va_S (lA s) s.heap H locs) (hI : lawI D cA cZ c2 cT cL s.heap.size H) (hl : lv_has ls 8 [(0, .ref b), (1, .ref s.heap.size), (2, .ref (s.heap.size + 69)), (3, .ref (s.heap.size + 97)), (4, .int (nI i))]) (kk : ∀ (H1 : Heap) (locs1 : List Loc) (cs1 sl1 : Nat) (ls1 : Array Slot), cs1 ≤ cs + 10 → sl1 ≤ sl + 200 → va_S (lA s) s.heap H1 locs1 → lawI D cA cZ c2 cT cL s.heap.size H1 → lv_has ls1 8 [(0, .ref b), (1, .ref s.heap.size), (2, .ref (s.heap.size + 69)), (3, .ref (s.heap.size + 97)), (4, .int (nI i))] → W p l e room_1 s m #[Value.ref b] below meth c H1 locs1 cs1 sl1 Q (F0 m 1221 ls1 [])) : W p l e room_1 s m #[Value.ref b] below meth c H locs cs sl Q (F0 m 284 ls []) := by
  obtain ⟨hx, hb, hml, hown, hts, hX, hbl, hL, hK, htl, hF1, hF2⟩ := C
  have hbA : ¬ lA s b := fun h => by have h : s.heap.size ≤ b := h; omega
  obtain ⟨tc, tf, B, P, Qp, N, ah, kw, z, nn, sd, cf, lf, cn, M, fo, bk, us, u, cap, wt, tB, ⟨h_kSB, h_kBL, h_kNE, h_kP, h_kSE, h_kQ, h_kDR, h_kPI, h_kMO, h_kOU⟩, hT, hO, hG, hR, hq⟩ := hI
  have h40 : tc ≤ 40 := hR.2.1
  have h17 : M.2.2.1 17 = B.2.2.2 := hG.2.2.1.1.2.1
  have h16 : B.2.2.2 ≤ 16 := hG.1.1.1
  have hT : thA D cA bk us u cap tB tc tf s.heap.size H := hT
  rcases find_fb hR h16 h17 (xs (i + 1)) with ⟨hfb, hbf⟩ | ⟨kx, bx, hkx, hbx, hke, hbk, hbf⟩
  · obtain ⟨T, hTs0, hfT⟩ := fb_T1 hT hfb
    refine lv_aload_n hx hb d_LA_law_284 rfl (lv_at hl 1 rfl) ?_
    refine lv_aload_n hx hb d_LA_law_285 rfl (lv_at hl 0 rfl) ?_
    refine lv_iload hx hb d_LA_law_286 (lv_at hl 4 rfl) ?_
    refine lv_iconst (v := nI 1) hx hb d_LA_law_288 (by decide) ?_
    refine z_add hx hb d_LA_law_289 ?_
    refine va_sld hx hb hX hbl hbA hS (vp_in_nI (n := (i + 1)) (by omega) (by omega)) d_LA_law_290 ?_
    refine lv_toi (z := xs (i + 1)) (congrArg xs (nI_clamp (by omega))) ?_
    refine lv_aload_n hx hb d_LA_law_291 rfl (lv_at hl 0 rfl) ?_
    refine lv_iload hx hb d_LA_law_292 (lv_at hl 4 rfl) ?_
    refine lv_iconst (v := nI 2) hx hb d_LA_law_294 (by decide) ?_
    refine z_add hx hb d_LA_law_295 ?_
    refine va_sld hx hb hX hbl hbA hS (vp_in_nI (n := (i + 2)) (by omega) (by omega)) d_LA_law_296 ?_
    refine lv_toi (z := xs (i + 2)) (congrArg xs (nI_clamp (by omega))) ?_
    refine lv_i2l (v := (xs (i + 2)).toInt64) hx hb d_LA_law_297 rfl ?_
    refine lv_bipush (v := nI 32) hx hb d_LA_law_298 (by decide) ?_
    refine lv_lshl (v := _ <<< ((nI 32).toInt64 &&& 63)) hx hb d_LA_law_300 rfl ?_
    refine lv_aload_n hx hb d_LA_law_301 rfl (lv_at hl 0 rfl) ?_
    refine lv_iload hx hb d_LA_law_302 (lv_at hl 4 rfl) ?_
    refine lv_iconst (v := nI 3) hx hb d_LA_law_304 (by decide) ?_
    refine z_add hx hb d_LA_law_305 ?_
    refine va_sld hx hb hX hbl hbA hS (vp_in_nI (n := (i + 3)) (by omega) (by omega)) d_LA_law_306 ?_
    refine lv_toi (z := xs (i + 3)) (congrArg xs (nI_clamp (by omega))) ?_
    refine lv_i2l (v := (xs (i + 3)).toInt64) hx hb d_LA_law_307 rfl ?_
    refine lv_ldc2 hx hb hown (hts _ kL_LA_74) d_LA_law_308 ?_
    refine lv_land hx hb d_LA_law_311 ?_
    refine lv_lor hx hb d_LA_law_312 ?_
    refine lv_tol (z := lg (xs (i + 2)) (xs (i + 3))) rfl ?_
    refine lv_aload_n hx hb d_LA_law_313 rfl (lv_at hl 0 rfl) ?_
    refine lv_iload hx hb d_LA_law_314 (lv_at hl 4 rfl) ?_
    refine lv_iconst (v := nI 4) hx hb d_LA_law_316 (by decide) ?_
    refine z_add hx hb d_LA_law_317 ?_
    refine va_sld hx hb hX hbl hbA hS (vp_in_nI (n := (i + 4)) (by omega) (by omega)) d_LA_law_318 ?_
    refine lv_toi (z := xs (i + 4)) (congrArg xs (nI_clamp (by omega))) ?_
    refine lv_i2l (v := (xs (i + 4)).toInt64) hx hb d_LA_law_319 rfl ?_
    refine lv_bipush (v := nI 32) hx hb d_LA_law_320 (by decide) ?_
    refine lv_lshl (v := _ <<< ((nI 32).toInt64 &&& 63)) hx hb d_LA_law_322 rfl ?_
    refine lv_aload_n hx hb d_LA_law_323 rfl (lv_at hl 0 rfl) ?_
    refine lv_iload hx hb d_LA_law_324 (lv_at hl 4 rfl) ?_
    refine lv_iconst (v := nI 5) hx hb d_LA_law_326 (by decide) ?_
    refine z_add hx hb d_LA_law_327 ?_
    refine va_sld hx hb hX hbl hbA hS (vp_in_nI (n := (i + 5)) (by omega) (by omega)) d_LA_law_328 ?_
    refine lv_toi (z := xs (i + 5)) (congrArg xs (nI_clamp (by omega))) ?_
    refine lv_i2l (v := (xs (i + 5)).toInt64) hx hb d_LA_law_329 rfl ?_
    refine lv_ldc2 hx hb hown (hts _ kL_LA_74) d_LA_law_330 ?_
    refine lv_land hx hb d_LA_law_333 ?_
    refine lv_lor hx hb d_LA_law_334 ?_
    refine lv_tol (z := lg (xs (i + 4)) (xs (i + 5))) rfl ?_
    refine lv_aload_n hx hb d_LA_law_335 rfl (lv_at hl 3 rfl) ?_
    have hTs : thS D cA bk us u cap tB tc (T) H := hTs0
    have hTi := thS_in (h0 := s.heap.size) hT hTs
    have hi0 : ∀ p ∈ kSB cA cZ c2 cT cL s.heap.size tc tf, (s.heap.size + 0 ≤ p.1 ∧ p.1 < s.heap.size + 2) := in_kSB
    have hn0 : va_D (fun _ => True) (kSB cA cZ c2 cT cL s.heap.size tc tf) := nd_kSB
    have hn1 : va_D (fun _ => True) ((kSB cA cZ c2 cT cL s.heap.size tc tf) ++ (T)) := nd_app hn0 hTs.2.1 (fun p hp q hq e9 => by have := hi0 p hp; have := hTi q hq; omega)
    have hi1 : ∀ p ∈ (kSB cA cZ c2 cT cL s.heap.size tc tf) ++ (T), (s.heap.size + 0 ≤ p.1 ∧ p.1 < s.heap.size + 2) ∨ (s.heap.size + 98 ≤ p.1) := fun p hp => (List.mem_append.mp hp).elim (fun h => by have := hi0 p h; omega) (fun h => by have := hTi p h; omega)
    have hw9 : ∀ p ∈ (kSB cA cZ c2 cT cL s.heap.size tc tf) ++ (T), p.1 < s.heap.size + 98 ∨ p ∈ T := fun p hp => (List.mem_append.mp hp).elim (fun h => Or.inl (by have := in_kSB p h; omega)) (fun h => Or.inr h)
    refine zg_H (V := Unit) (F := zT2) (mc := 1) (ms := 6) (As := [.ref s.heap.size, .int (xs (i + 1)), .long (lg (xs (i + 2)) (xs (i + 3))), .long (lg (xs (i + 4)) (xs (i + 5))), .ref (s.heap.size + 97)]) (rest := []) (n := 5) (wsC := (kSB cA cZ c2 cT cL s.heap.size tc tf) ++ (T)) (φ := fun _ => True) (wv := fun _ => (kSB cA cZ c2 cT cL s.heap.size tc tf) ++ (T)) (rv := .int (nI 1)) zT2_ok ⟨hx, hb, hml, hown, hts⟩ (met_u (h_fix_x1 l D htl _ (fun k => s.heap.size + k) (fun k => s.heap.size + 2 + k) (fun k => s.heap.size + 11 + k) (fun k => s.heap.size + 15 + k) (fun k => s.heap.size + 30 + 16 * k) (laI s.heap.size) cA cZ c2 cT tc tf (s.heap.size + 97) T (xs (i + 1)) (-1) (lg (xs (i + 2)) (xs (i + 3))) (lg (xs (i + 4)) (xs (i + 5))) h40 hfT rfl)) ⟨km_LA_84, kst_LA_fix, kn_LA, kw_LA_fix⟩ (by decide +kernel) (by decide) ⟨(by show cs + 1 ≤ 601024; omega), (by show sl + 6 ≤ 7293000; omega)⟩ (hK.sub [0, 1, 2, 3] rfl) ((h_kSB).app hTs.1) hn1 hS (la_A hS (fun p hp => by have := hi1 p hp; omega)) hF2 rfl hl.1 rfl (Nat.le_of_ble_eq_true rfl) d_LA_law_336 (fun _ H1 locs1 hph hP1 hz1 hf1 hS1 => ?_)
    have hq1 := va_P.right hP1
    have hr1 := va_P.left hP1
    have hq0 := hr1
    have h_kBL := hf1.far h_kBL in_kBL (fun p hp => by have := hi1 p hp; omega)
    have h_kNE := hf1.far h_kNE in_kNE (fun p hp => by have := hi1 p hp; omega)
    have h_kP := hf1.far h_kP in_kP (fun p hp => by have := hi1 p hp; omega)
    have h_kSE := hf1.far h_kSE in_kSE (fun p hp => by have := hi1 p hp; omega)
    have h_kQ := hf1.far h_kQ in_kQ (fun p hp => by have := hi1 p hp; omega)
    have h_kDR := hf1.far h_kDR in_kDR (fun p hp => by have := hi1 p hp; omega)
    have h_kPI := hf1.far h_kPI in_kPI (fun p hp => by have := hi1 p hp; omega)
    have h_kMO := hf1.far h_kMO in_kMO (fun p hp => by have := hi1 p hp; omega)
    have h_kOU := hf1.far h_kOU in_kOU (fun p hp => by have := hi1 p hp; omega)
    have h_kSB := hq0
    have hT := th_kept hT hO hf1 hw9 hTs hq1
    have hS := hS1
    clear hf1 hS1 hP1 hn0 hi0 hn1 hi1
    refine lv_istore (lv' := [(5, .int (nI 1)), (0, .ref b), (1, .ref s.heap.size), (2, .ref (s.heap.size + 69)), (3, .ref (s.heap.size + 97)), (4, .int (nI i))]) hx hb d_LA_law_339 hl (by decide) rfl (fun ls hl => ?_)
    refine lv_aload_n hx hb d_LA_law_341 rfl (lv_at hl 3 rfl) ?_
    refine lv_aload_n hx hb d_LA_law_342 rfl (lv_at hl 1 rfl) ?_
    refine lv_iload hx hb d_LA_law_343 (lv_at hl 5 rfl) ?_
    refine lv_iconst (v := nI 1) hx hb d_LA_law_345 (by decide) ?_
    refine z_add hx hb d_LA_law_346 ?_
    refine va_sld hx hb hX hbl hbA hS (vp_in_nI (n := (i + 1)) (by omega) (by omega)) d_LA_law_347 ?_
    refine lv_toi (z := xs (i + 1)) (congrArg xs (nI_clamp (by omega))) ?_
    refine lv_aload_n hx hb d_LA_law_348 rfl (lv_at hl 1 rfl) ?_
    refine lv_iload hx hb d_LA_law_349 (lv_at hl 5 rfl) ?_
    refine lv_iconst (v := nI 2) hx hb d_LA_law_351 (by decide) ?_
    refine z_add hx hb d_LA_law_352 ?_
    refine va_sld hx hb hX hbl hbA hS (vp_in_nI (n := (i + 2)) (by omega) (by omega)) d_LA_law_353 ?_
    refine lv_toi (z := xs (i + 2)) (congrArg xs (nI_clamp (by omega))) ?_
    refine lv_i2l (v := (xs (i + 2)).toInt64) hx hb d_LA_law_354 rfl ?_
    refine lv_bipush (v := nI 32) hx hb d_LA_law_355 (by decide) ?_
    refine lv_lshl (v := _ <<< ((nI 32).toInt64 &&& 63)) hx hb d_LA_law_357 rfl ?_
    refine lv_aload_n hx hb d_LA_law_358 rfl (lv_at hl 1 rfl) ?_
    refine lv_iload hx hb d_LA_law_359 (lv_at hl 5 rfl) ?_
    refine lv_iconst (v := nI 3) hx hb d_LA_law_361 (by decide) ?_
    refine z_add hx hb d_LA_law_362 ?_
    refine va_sld hx hb hX hbl hbA hS (vp_in_nI (n := (i + 3)) (by omega) (by omega)) d_LA_law_363 ?_
    refine lv_toi (z := xs (i + 3)) (congrArg xs (nI_clamp (by omega))) ?_
    refine lv_i2l (v := (xs (i + 3)).toInt64) hx hb d_LA_law_364 rfl ?_
    refine lv_ldc2 hx hb hown (hts _ kL_LA_74) d_LA_law_365 ?_
    refine lv_land hx hb d_LA_law_368 ?_
    refine lv_lor hx hb d_LA_law_369 ?_
    refine lv_tol (z := lg (xs (i + 2)) (xs (i + 3))) rfl ?_
    refine lv_aload_n hx hb d_LA_law_370 rfl (lv_at hl 1 rfl) ?_
    refine lv_iload hx hb d_LA_law_371 (lv_at hl 5 rfl) ?_
    refine lv_iconst (v := nI 4) hx hb d_LA_law_373 (by decide) ?_
    refine z_add hx hb d_LA_law_374 ?_
    refine va_sld hx hb hX hbl hbA hS (vp_in_nI (n := (i + 4)) (by omega) (by omega)) d_LA_law_375 ?_
    refine lv_toi (z := xs (i + 4)) (congrArg xs (nI_clamp (by omega))) ?_
    refine lv_i2l (v := (xs (i + 4)).toInt64) hx hb d_LA_law_376 rfl ?_
    refine lv_bipush (v := nI 32) hx hb d_LA_law_377 (by decide) ?_
    refine lv_lshl (v := _ <<< ((nI 32).toInt64 &&& 63)) hx hb d_LA_law_379 rfl ?_
    refine lv_aload_n hx hb d_LA_law_380 rfl (lv_at hl 1 rfl) ?_
    refine lv_iload hx hb d_LA_law_381 (lv_at hl 5 rfl) ?_
    refine lv_iconst (v := nI 5) hx hb d_LA_law_383 (by decide) ?_
    refine z_add hx hb d_LA_law_384 ?_
    refine va_sld hx hb hX hbl hbA hS (vp_in_nI (n := (i + 5)) (by omega) (by omega)) d_LA_law_385 ?_
    refine lv_toi (z := xs (i + 5)) (congrArg xs (nI_clamp (by omega))) ?_
    refine lv_i2l (v := (xs (i + 5)).toInt64) hx hb d_LA_law_386 rfl ?_
    refine lv_ldc2 hx hb hown (hts _ kL_LA_74) d_LA_law_387 ?_
    refine lv_land hx hb d_LA_law_390 ?_
    refine lv_lor hx hb d_LA_law_391 ?_
    refine lv_tol (z := lg (xs (i + 4)) (xs (i + 5))) rfl ?_
    have hi0 : ∀ p ∈ kMO cA cZ c2 cT cL s.heap.size M z, (s.heap.size + 69 ≤ p.1 ∧ p.1 < s.heap.size + 97) := in_kMO
    have hn0 : va_D (fun _ => True) (kMO cA cZ c2 cT cL s.heap.size M z) := nd_kMO
    refine zg_V (V := Unit) (ci := 10) (q0 := 0) (As := [.int (xs (i + 1)), .long (lg (xs (i + 2)) (xs (i + 3))), .long (lg (xs (i + 4)) (xs (i + 5)))]) (rest := []) (n := 3) (wsC := kMO cA cZ c2 cT cL s.heap.size M z) (φ := fun _ => True) (wv := fun _ => kMO cA cZ c2 cT cL s.heap.size (mS 0 1 M) z) (rv := .int (zb false)) ⟨hx, hb, hml, hown, hts⟩ (met_u (c_MO_fix_no1 l D _ (laM s.heap.size) cA cZ cL M z (xs (i + 1)) (lg (xs (i + 2)) (xs (i + 3))) (lg (xs (i + 4)) (xs (i + 5))) (by omega) hbf)) ⟨km_LA_87, ki_MO_fix, ks_MO_fix, kn_MO, kd_MO_fix⟩ (by decide +kernel) (by decide) ⟨(by show cs + 1 + 0 ≤ 601024; omega), (by show sl + 6 + 0 ≤ 7293000; omega)⟩ (hK.sub [0, 1, 4] rfl) (h_kMO) hn0 hS (la_A hS (fun p hp => by have := hi0 p hp; omega)) rfl rfl rfl hl.1 rfl (Nat.le_of_ble_eq_true rfl) d_LA_law_392 (fun _ H1 locs1 hph hP1 hz1 hf1 hS1 => ?_)
    have hq0 := hP1
    have h_kSB := hf1.far h_kSB in_kSB (fun p hp => by have := hi0 p hp; omega)
    have h_kBL := hf1.far h_kBL in_kBL (fun p hp => by have := hi0 p hp; omega)
    have h_kNE := hf1.far h_kNE in_kNE (fun p hp => by have := hi0 p hp; omega)
    have h_kP := hf1.far h_kP in_kP (fun p hp => by have := hi0 p hp; omega)
    have h_kSE := hf1.far h_kSE in_kSE (fun p hp => by have := hi0 p hp; omega)
    have h_kQ := hf1.far h_kQ in_kQ (fun p hp => by have := hi0 p hp; omega)
    have h_kDR := hf1.far h_kDR in_kDR (fun p hp => by have := hi0 p hp; omega)
    have h_kPI := hf1.far h_kPI in_kPI (fun p hp => by have := hi0 p hp; omega)
    have h_kOU := hf1.far h_kOU in_kOU (fun p hp => by have := hi0 p hp; omega)
    have h_kMO := hq0
    have hT := th_kept0 hT hO hf1 (fun p hp => by have := hi0 p hp; omega)
    have hS := hS1
    clear hf1 hS1 hP1 hn0 hi0
    refine lv_istore (lv' := [(6, .int (zb false)), (5, .int (nI 1)), (0, .ref b), (1, .ref s.heap.size), (2, .ref (s.heap.size + 69)), (3, .ref (s.heap.size + 97)), (4, .int (nI i))]) hx hb d_LA_law_395 hl (by decide) rfl (fun ls hl => ?_)
    refine lv_aload_n hx hb d_LA_law_397 rfl (lv_at hl 4 rfl) ?_
    refine zrM_V (ci := 10) (q0 := 0) (As := []) (rest := []) (n := 0) (wsC := kMO cA cZ c2 cT cL s.heap.size (mS 0 1 M) z) ⟨hx, hb, hml, hown, hts⟩ (c_MO_thrown l D (laM s.heap.size) cA cZ cL (mS 0 1 M) z) ⟨km_LA_80, ki_MO_thrown, ks_MO_thrown, kn_MO, kd_MO_thrown⟩ (by decide +kernel) (by decide) ⟨(by show cs + 1 + 0 ≤ 601024; omega), (by show sl + 6 + 0 ≤ 7293000; omega)⟩ (hK.sub [0, 1, 4] rfl) h_kMO rfl rfl rfl hl.1 rfl (Nat.le_of_ble_eq_true rfl) d_LA_law_398 ?_
    refine lv_toi (z := nI 1) rfl ?_
    refine lv_iload hx hb d_LA_law_401 (lv_at hl 1 rfl) ?_
    refine z_ceq (tgt := 408) hx hb d_LA_law_403 (by decide) (by omega) (by omega) (fun _ => ?_) (fun h => absurd h (by omega))
    refine lv_iload hx hb d_LA_law_408 (lv_at hl 1 rfl) ?_
    refine z_0ne (tgt := 432) hx hb d_LA_law_410 (by decide) (by omega) (fun _ => ?_) (fun h => absurd h (by omega))
    refine lv_goto (tgt := 1221) hx hb d_LA_law_432 (by decide) ?_
    exact kk _ _ _ _ ls (by omega) (by omega) hS ⟨tc, tf, B, P, Qp, N, ah, kw, z, nn, sd, cf, lf, cn, (mS 0 1 M), fo, bk, us, u, cap, wt, tB, ⟨h_kSB, h_kBL, h_kNE, h_kP, h_kSE, h_kQ, h_kDR, h_kPI, h_kMO, h_kOU⟩, hT, hO, RelG_ag hG ⟨⟨rfl, rfl, rfl, rfl, rfl, rfl, rfl, rfl, rfl, rfl, rfl, rfl⟩, ⟨rfl, rfl, rfl, rfl⟩, rfl, rfl, rfl⟩, RelT_ag hR ⟨⟨rfl, rfl, rfl, rfl, rfl, rfl, rfl, rfl, rfl, rfl, rfl, rfl⟩, ⟨rfl, rfl, rfl, rfl⟩, rfl, rfl, rfl⟩, hq⟩ (lv_sub hl [2, 3, 4, 5, 6] rfl)
  · by_cases hw : lg (xs (i + 2)) (xs (i + 3)) < lN 0 ∨ lN 20000 < lg (xs (i + 2)) (xs (i + 3)) ∨ lg (xs (i + 4)) (xs (i + 5)) < lN 0 ∨ lN 20000 < lg (xs (i + 4)) (xs (i + 5))
    · have hfb := fb1_k hkx hke hbk
      obtain ⟨T, hTs0, hfT⟩ := fb_T1 hT hfb
      refine lv_aload_n hx hb d_LA_law_284 rfl (lv_at hl 1 rfl) ?_
      refine lv_aload_n hx hb d_LA_law_285 rfl (lv_at hl 0 rfl) ?_
      refine lv_iload hx hb d_LA_law_286 (lv_at hl 4 rfl) ?_
      refine lv_iconst (v := nI 1) hx hb d_LA_law_288 (by decide) ?_
      refine z_add hx hb d_LA_law_289 ?_
      refine va_sld hx hb hX hbl hbA hS (vp_in_nI (n := (i + 1)) (by omega) (by omega)) d_LA_law_290 ?_
      refine lv_toi (z := xs (i + 1)) (congrArg xs (nI_clamp (by omega))) ?_
      refine lv_aload_n hx hb d_LA_law_291 rfl (lv_at hl 0 rfl) ?_
      refine lv_iload hx hb d_LA_law_292 (lv_at hl 4 rfl) ?_
      refine lv_iconst (v := nI 2) hx hb d_LA_law_294 (by decide) ?_
      refine z_add hx hb d_LA_law_295 ?_
      refine va_sld hx hb hX hbl hbA hS (vp_in_nI (n := (i + 2)) (by omega) (by omega)) d_LA_law_296 ?_
      refine lv_toi (z := xs (i + 2)) (congrArg xs (nI_clamp (by omega))) ?_
      refine lv_i2l (v := (xs (i + 2)).toInt64) hx hb d_LA_law_297 rfl ?_
      refine lv_bipush (v := nI 32) hx hb d_LA_law_298 (by decide) ?_
      refine lv_lshl (v := _ <<< ((nI 32).toInt64 &&& 63)) hx hb d_LA_law_300 rfl ?_
      refine lv_aload_n hx hb d_LA_law_301 rfl (lv_at hl 0 rfl) ?_
      refine lv_iload hx hb d_LA_law_302 (lv_at hl 4 rfl) ?_
      refine lv_iconst (v := nI 3) hx hb d_LA_law_304 (by decide) ?_
      refine z_add hx hb d_LA_law_305 ?_
      refine va_sld hx hb hX hbl hbA hS (vp_in_nI (n := (i + 3)) (by omega) (by omega)) d_LA_law_306 ?_
      refine lv_toi (z := xs (i + 3)) (congrArg xs (nI_clamp (by omega))) ?_
      refine lv_i2l (v := (xs (i + 3)).toInt64) hx hb d_LA_law_307 rfl ?_
      refine lv_ldc2 hx hb hown (hts _ kL_LA_74) d_LA_law_308 ?_
      refine lv_land hx hb d_LA_law_311 ?_
      refine lv_lor hx hb d_LA_law_312 ?_
      refine lv_tol (z := lg (xs (i + 2)) (xs (i + 3))) rfl ?_
      refine lv_aload_n hx hb d_LA_law_313 rfl (lv_at hl 0 rfl) ?_
      refine lv_iload hx hb d_LA_law_314 (lv_at hl 4 rfl) ?_
      refine lv_iconst (v := nI 4) hx hb d_LA_law_316 (by decide) ?_
      refine z_add hx hb d_LA_law_317 ?_
      refine va_sld hx hb hX hbl hbA hS (vp_in_nI (n := (i + 4)) (by omega) (by omega)) d_LA_law_318 ?_
      refine lv_toi (z := xs (i + 4)) (congrArg xs (nI_clamp (by omega))) ?_
      refine lv_i2l (v := (xs (i + 4)).toInt64) hx hb d_LA_law_319 rfl ?_
      refine lv_bipush (v := nI 32) hx hb d_LA_law_320 (by decide) ?_
      refine lv_lshl (v := _ <<< ((nI 32).toInt64 &&& 63)) hx hb d_LA_law_322 rfl ?_
      refine lv_aload_n hx hb d_LA_law_323 rfl (lv_at hl 0 rfl) ?_
      refine lv_iload hx hb d_LA_law_324 (lv_at hl 4 rfl) ?_
      refine lv_iconst (v := nI 5) hx hb d_LA_law_326 (by decide) ?_
      refine z_add hx hb d_LA_law_327 ?_
      refine va_sld hx hb hX hbl hbA hS (vp_in_nI (n := (i + 5)) (by omega) (by omega)) d_LA_law_328 ?_
      refine lv_toi (z := xs (i + 5)) (congrArg xs (nI_clamp (by omega))) ?_
      refine lv_i2l (v := (xs (i + 5)).toInt64) hx hb d_LA_law_329 rfl ?_
      refine lv_ldc2 hx hb hown (hts _ kL_LA_74) d_LA_law_330 ?_
      refine lv_land hx hb d_LA_law_333 ?_
      refine lv_lor hx hb d_LA_law_334 ?_
      refine lv_tol (z := lg (xs (i + 4)) (xs (i + 5))) rfl ?_
      refine lv_aload_n hx hb d_LA_law_335 rfl (lv_at hl 3 rfl) ?_
      have hTs : thS D cA bk us u cap tB tc (T) H := hTs0
      have hTi := thS_in (h0 := s.heap.size) hT hTs
      have hi0 : ∀ p ∈ kSB cA cZ c2 cT cL s.heap.size tc tf, (s.heap.size + 0 ≤ p.1 ∧ p.1 < s.heap.size + 2) := in_kSB
      have hn0 : va_D (fun _ => True) (kSB cA cZ c2 cT cL s.heap.size tc tf) := nd_kSB
      have hn1 : va_D (fun _ => True) ((kSB cA cZ c2 cT cL s.heap.size tc tf) ++ (T)) := nd_app hn0 hTs.2.1 (fun p hp q hq e9 => by have := hi0 p hp; have := hTi q hq; omega)
      have hi1 : ∀ p ∈ (kSB cA cZ c2 cT cL s.heap.size tc tf) ++ (T), (s.heap.size + 0 ≤ p.1 ∧ p.1 < s.heap.size + 2) ∨ (s.heap.size + 98 ≤ p.1) := fun p hp => (List.mem_append.mp hp).elim (fun h => by have := hi0 p h; omega) (fun h => by have := hTi p h; omega)
      have hw9 : ∀ p ∈ (kSB cA cZ c2 cT cL s.heap.size tc tf) ++ (T), p.1 < s.heap.size + 98 ∨ p ∈ T := fun p hp => (List.mem_append.mp hp).elim (fun h => Or.inl (by have := in_kSB p h; omega)) (fun h => Or.inr h)
      refine zg_H (V := Unit) (F := zT2) (mc := 1) (ms := 6) (As := [.ref s.heap.size, .int (xs (i + 1)), .long (lg (xs (i + 2)) (xs (i + 3))), .long (lg (xs (i + 4)) (xs (i + 5))), .ref (s.heap.size + 97)]) (rest := []) (n := 5) (wsC := (kSB cA cZ c2 cT cL s.heap.size tc tf) ++ (T)) (φ := fun _ => True) (wv := fun _ => (kSB cA cZ c2 cT cL s.heap.size tc tf) ++ (T)) (rv := .int (nI 2)) zT2_ok ⟨hx, hb, hml, hown, hts⟩ (met_u (h_fix_x2 l D htl _ (fun k => s.heap.size + k) (fun k => s.heap.size + 2 + k) (fun k => s.heap.size + 11 + k) (fun k => s.heap.size + 15 + k) (fun k => s.heap.size + 30 + 16 * k) (laI s.heap.size) cA cZ c2 cT tc tf (s.heap.size + 97) T (xs (i + 1)) (nI bx) (lg (xs (i + 2)) (xs (i + 3))) (lg (xs (i + 4)) (xs (i + 5))) h40 hfT (nI_m1 (by omega)) hw)) ⟨km_LA_84, kst_LA_fix, kn_LA, kw_LA_fix⟩ (by decide +kernel) (by decide) ⟨(by show cs + 1 ≤ 601024; omega), (by show sl + 6 ≤ 7293000; omega)⟩ (hK.sub [0, 1, 2, 3] rfl) ((h_kSB).app hTs.1) hn1 hS (la_A hS (fun p hp => by have := hi1 p hp; omega)) hF2 rfl hl.1 rfl (Nat.le_of_ble_eq_true rfl) d_LA_law_336 (fun _ H1 locs1 hph hP1 hz1 hf1 hS1 => ?_)
      have hq1 := va_P.right hP1
      have hr1 := va_P.left hP1
      have hq0 := hr1
      have h_kBL := hf1.far h_kBL in_kBL (fun p hp => by have := hi1 p hp; omega)
      have h_kNE := hf1.far h_kNE in_kNE (fun p hp => by have := hi1 p hp; omega)
      have h_kP := hf1.far h_kP in_kP (fun p hp => by have := hi1 p hp; omega)
      have h_kSE := hf1.far h_kSE in_kSE (fun p hp => by have := hi1 p hp; omega)
      have h_kQ := hf1.far h_kQ in_kQ (fun p hp => by have := hi1 p hp; omega)
      have h_kDR := hf1.far h_kDR in_kDR (fun p hp => by have := hi1 p hp; omega)
      have h_kPI := hf1.far h_kPI in_kPI (fun p hp => by have := hi1 p hp; omega)
      have h_kMO := hf1.far h_kMO in_kMO (fun p hp => by have := hi1 p hp; omega)
      have h_kOU := hf1.far h_kOU in_kOU (fun p hp => by have := hi1 p hp; omega)
      have h_kSB := hq0
      have hT := th_kept hT hO hf1 hw9 hTs hq1
      have hS := hS1
      clear hf1 hS1 hP1 hn0 hi0 hn1 hi1
      refine lv_istore (lv' := [(5, .int (nI 2)), (0, .ref b), (1, .ref s.heap.size), (2, .ref (s.heap.size + 69)), (3, .ref (s.heap.size + 97)), (4, .int (nI i))]) hx hb d_LA_law_339 hl (by decide) rfl (fun ls hl => ?_)
      refine lv_aload_n hx hb d_LA_law_341 rfl (lv_at hl 3 rfl) ?_
      refine lv_aload_n hx hb d_LA_law_342 rfl (lv_at hl 1 rfl) ?_
      refine lv_iload hx hb d_LA_law_343 (lv_at hl 5 rfl) ?_
      refine lv_iconst (v := nI 1) hx hb d_LA_law_345 (by decide) ?_
      refine z_add hx hb d_LA_law_346 ?_
      refine va_sld hx hb hX hbl hbA hS (vp_in_nI (n := (i + 1)) (by omega) (by omega)) d_LA_law_347 ?_
      refine lv_toi (z := xs (i + 1)) (congrArg xs (nI_clamp (by omega))) ?_
      refine lv_aload_n hx hb d_LA_law_348 rfl (lv_at hl 1 rfl) ?_
      refine lv_iload hx hb d_LA_law_349 (lv_at hl 5 rfl) ?_
      refine lv_iconst (v := nI 2) hx hb d_LA_law_351 (by decide) ?_
      refine z_add hx hb d_LA_law_352 ?_
      refine va_sld hx hb hX hbl hbA hS (vp_in_nI (n := (i + 2)) (by omega) (by omega)) d_LA_law_353 ?_
      refine lv_toi (z := xs (i + 2)) (congrArg xs (nI_clamp (by omega))) ?_
      refine lv_i2l (v := (xs (i + 2)).toInt64) hx hb d_LA_law_354 rfl ?_
      refine lv_bipush (v := nI 32) hx hb d_LA_law_355 (by decide) ?_
      refine lv_lshl (v := _ <<< ((nI 32).toInt64 &&& 63)) hx hb d_LA_law_357 rfl ?_
      refine lv_aload_n hx hb d_LA_law_358 rfl (lv_at hl 1 rfl) ?_
      refine lv_iload hx hb d_LA_law_359 (lv_at hl 5 rfl) ?_
      refine lv_iconst (v := nI 3) hx hb d_LA_law_361 (by decide) ?_
      refine z_add hx hb d_LA_law_362 ?_
      refine va_sld hx hb hX hbl hbA hS (vp_in_nI (n := (i + 3)) (by omega) (by omega)) d_LA_law_363 ?_
      refine lv_toi (z := xs (i + 3)) (congrArg xs (nI_clamp (by omega))) ?_
      refine lv_i2l (v := (xs (i + 3)).toInt64) hx hb d_LA_law_364 rfl ?_
      refine lv_ldc2 hx hb hown (hts _ kL_LA_74) d_LA_law_365 ?_
      refine lv_land hx hb d_LA_law_368 ?_
      refine lv_lor hx hb d_LA_law_369 ?_
      refine lv_tol (z := lg (xs (i + 2)) (xs (i + 3))) rfl ?_
      refine lv_aload_n hx hb d_LA_law_370 rfl (lv_at hl 1 rfl) ?_
      refine lv_iload hx hb d_LA_law_371 (lv_at hl 5 rfl) ?_
      refine lv_iconst (v := nI 4) hx hb d_LA_law_373 (by decide) ?_
      refine z_add hx hb d_LA_law_374 ?_
      refine va_sld hx hb hX hbl hbA hS (vp_in_nI (n := (i + 4)) (by omega) (by omega)) d_LA_law_375 ?_
      refine lv_toi (z := xs (i + 4)) (congrArg xs (nI_clamp (by omega))) ?_
      refine lv_i2l (v := (xs (i + 4)).toInt64) hx hb d_LA_law_376 rfl ?_
      refine lv_bipush (v := nI 32) hx hb d_LA_law_377 (by decide) ?_
      refine lv_lshl (v := _ <<< ((nI 32).toInt64 &&& 63)) hx hb d_LA_law_379 rfl ?_
      refine lv_aload_n hx hb d_LA_law_380 rfl (lv_at hl 1 rfl) ?_
      refine lv_iload hx hb d_LA_law_381 (lv_at hl 5 rfl) ?_
      refine lv_iconst (v := nI 5) hx hb d_LA_law_383 (by decide) ?_
      refine z_add hx hb d_LA_law_384 ?_
      refine va_sld hx hb hX hbl hbA hS (vp_in_nI (n := (i + 5)) (by omega) (by omega)) d_LA_law_385 ?_
      refine lv_toi (z := xs (i + 5)) (congrArg xs (nI_clamp (by omega))) ?_
      refine lv_i2l (v := (xs (i + 5)).toInt64) hx hb d_LA_law_386 rfl ?_
      refine lv_ldc2 hx hb hown (hts _ kL_LA_74) d_LA_law_387 ?_
      refine lv_land hx hb d_LA_law_390 ?_
      refine lv_lor hx hb d_LA_law_391 ?_
      refine lv_tol (z := lg (xs (i + 4)) (xs (i + 5))) rfl ?_
      have hi0 : ∀ p ∈ kMO cA cZ c2 cT cL s.heap.size M z, (s.heap.size + 69 ≤ p.1 ∧ p.1 < s.heap.size + 97) := in_kMO
      have hn0 : va_D (fun _ => True) (kMO cA cZ c2 cT cL s.heap.size M z) := nd_kMO
      refine zg_V (V := Unit) (ci := 10) (q0 := 0) (As := [.int (xs (i + 1)), .long (lg (xs (i + 2)) (xs (i + 3))), .long (lg (xs (i + 4)) (xs (i + 5)))]) (rest := []) (n := 3) (wsC := kMO cA cZ c2 cT cL s.heap.size M z) (φ := fun _ => True) (wv := fun _ => kMO cA cZ c2 cT cL s.heap.size (mS 0 2 M) z) (rv := .int (zb false)) ⟨hx, hb, hml, hown, hts⟩ (met_u (c_MO_fix_no2 l D _ (laM s.heap.size) cA cZ cL M z (xs (i + 1)) bx (lg (xs (i + 2)) (xs (i + 3))) (lg (xs (i + 4)) (xs (i + 5))) (by omega) hbf (by omega) hw)) ⟨km_LA_87, ki_MO_fix, ks_MO_fix, kn_MO, kd_MO_fix⟩ (by decide +kernel) (by decide) ⟨(by show cs + 1 + 0 ≤ 601024; omega), (by show sl + 6 + 0 ≤ 7293000; omega)⟩ (hK.sub [0, 1, 4] rfl) (h_kMO) hn0 hS (la_A hS (fun p hp => by have := hi0 p hp; omega)) rfl rfl rfl hl.1 rfl (Nat.le_of_ble_eq_true rfl) d_LA_law_392 (fun _ H1 locs1 hph hP1 hz1 hf1 hS1 => ?_)
      have hq0 := hP1
      have h_kSB := hf1.far h_kSB in_kSB (fun p hp => by have := hi0 p hp; omega)
      have h_kBL := hf1.far h_kBL in_kBL (fun p hp => by have := hi0 p hp; omega)
      have h_kNE := hf1.far h_kNE in_kNE (fun p hp => by have := hi0 p hp; omega)
      have h_kP := hf1.far h_kP in_kP (fun p hp => by have := hi0 p hp; omega)
      have h_kSE := hf1.far h_kSE in_kSE (fun p hp => by have := hi0 p hp; omega)
      have h_kQ := hf1.far h_kQ in_kQ (fun p hp => by have := hi0 p hp; omega)
      have h_kDR := hf1.far h_kDR in_kDR (fun p hp => by have := hi0 p hp; omega)
      have h_kPI := hf1.far h_kPI in_kPI (fun p hp => by have := hi0 p hp; omega)
      have h_kOU := hf1.far h_kOU in_kOU (fun p hp => by have := hi0 p hp; omega)
      have h_kMO := hq0
      have hT := th_kept0 hT hO hf1 (fun p hp => by have := hi0 p hp; omega)
      have hS := hS1
      clear hf1 hS1 hP1 hn0 hi0
      refine lv_istore (lv' := [(6, .int (zb false)), (5, .int (nI 2)), (0, .ref b), (1, .ref s.heap.size), (2, .ref (s.heap.size + 69)), (3, .ref (s.heap.size + 97)), (4, .int (nI i))]) hx hb d_LA_law_395 hl (by decide) rfl (fun ls hl => ?_)
      refine lv_aload_n hx hb d_LA_law_397 rfl (lv_at hl 4 rfl) ?_
      refine zrM_V (ci := 10) (q0 := 0) (As := []) (rest := []) (n := 0) (wsC := kMO cA cZ c2 cT cL s.heap.size (mS 0 2 M) z) ⟨hx, hb, hml, hown, hts⟩ (c_MO_thrown l D (laM s.heap.size) cA cZ cL (mS 0 2 M) z) ⟨km_LA_80, ki_MO_thrown, ks_MO_thrown, kn_MO, kd_MO_thrown⟩ (by decide +kernel) (by decide) ⟨(by show cs + 1 + 0 ≤ 601024; omega), (by show sl + 6 + 0 ≤ 7293000; omega)⟩ (hK.sub [0, 1, 4] rfl) h_kMO rfl rfl rfl hl.1 rfl (Nat.le_of_ble_eq_true rfl) d_LA_law_398 ?_
      refine lv_toi (z := nI 2) rfl ?_
      refine lv_iload hx hb d_LA_law_401 (lv_at hl 1 rfl) ?_
      refine z_ceq (tgt := 408) hx hb d_LA_law_403 (by decide) (by omega) (by omega) (fun _ => ?_) (fun h => absurd h (by omega))
      refine lv_iload hx hb d_LA_law_408 (lv_at hl 1 rfl) ?_
      refine z_0ne (tgt := 432) hx hb d_LA_law_410 (by decide) (by omega) (fun _ => ?_) (fun h => absurd h (by omega))
      refine lv_goto (tgt := 1221) hx hb d_LA_law_432 (by decide) ?_
      exact kk _ _ _ _ ls (by omega) (by omega) hS ⟨tc, tf, B, P, Qp, N, ah, kw, z, nn, sd, cf, lf, cn, (mS 0 2 M), fo, bk, us, u, cap, wt, tB, ⟨h_kSB, h_kBL, h_kNE, h_kP, h_kSE, h_kQ, h_kDR, h_kPI, h_kMO, h_kOU⟩, hT, hO, RelG_ag hG ⟨⟨rfl, rfl, rfl, rfl, rfl, rfl, rfl, rfl, rfl, rfl, rfl, rfl⟩, ⟨rfl, rfl, rfl, rfl⟩, rfl, rfl, rfl⟩, RelT_ag hR ⟨⟨rfl, rfl, rfl, rfl, rfl, rfl, rfl, rfl, rfl, rfl, rfl, rfl⟩, ⟨rfl, rfl, rfl, rfl⟩, rfl, rfl, rfl⟩, hq⟩ (lv_sub hl [2, 3, 4, 5, 6] rfl)
    · have hb16 : bx < 16 := by omega
      have hbf2 : bfind (M.1 10) (nI kx) (M.2.2.1 17) = some bx := by rw [← hke]; exact hbf
      have hGv := RelG_ag hG (ag_v M)
      have hgb : P.1 4 bx ≤ 36000 ∧ P.1 5 bx ≤ 36000 ∧ P.1 6 bx ≤ 36000 ∧ P.1 7 bx ≤ 36000 := hG.1.2.2.2.1.2.2 bx hbx
      obtain ⟨fx, hfx, hxe⟩ := lN_of (k := 20000) (by decide) (fun q => hw (Or.inl q)) (fun q => hw (Or.inr (Or.inl q)))
      obtain ⟨fy, hfy, hye⟩ := lN_of (k := 20000) (by decide) (fun q => hw (Or.inr (Or.inr (Or.inl q)))) (fun q => hw (Or.inr (Or.inr (Or.inr q))))
      cases hr9 : (lyR (flB bx fx fy B) P).1
      · refine lv_aload_n hx hb d_LA_law_284 rfl (lv_at hl 1 rfl) ?_
        refine lv_aload_n hx hb d_LA_law_285 rfl (lv_at hl 0 rfl) ?_
        refine lv_iload hx hb d_LA_law_286 (lv_at hl 4 rfl) ?_
        refine lv_iconst (v := nI 1) hx hb d_LA_law_288 (by decide) ?_
        refine z_add hx hb d_LA_law_289 ?_
        refine va_sld hx hb hX hbl hbA hS (vp_in_nI (n := (i + 1)) (by omega) (by omega)) d_LA_law_290 ?_
        refine lv_toi (z := (nI kx)) ((congrArg xs (nI_clamp (by omega))).trans hke) ?_
        refine lv_aload_n hx hb d_LA_law_291 rfl (lv_at hl 0 rfl) ?_
        refine lv_iload hx hb d_LA_law_292 (lv_at hl 4 rfl) ?_
        refine lv_iconst (v := nI 2) hx hb d_LA_law_294 (by decide) ?_
        refine z_add hx hb d_LA_law_295 ?_
        refine va_sld hx hb hX hbl hbA hS (vp_in_nI (n := (i + 2)) (by omega) (by omega)) d_LA_law_296 ?_
        refine lv_toi (z := xs (i + 2)) (congrArg xs (nI_clamp (by omega))) ?_
        refine lv_i2l (v := (xs (i + 2)).toInt64) hx hb d_LA_law_297 rfl ?_
        refine lv_bipush (v := nI 32) hx hb d_LA_law_298 (by decide) ?_
        refine lv_lshl (v := _ <<< ((nI 32).toInt64 &&& 63)) hx hb d_LA_law_300 rfl ?_
        refine lv_aload_n hx hb d_LA_law_301 rfl (lv_at hl 0 rfl) ?_
        refine lv_iload hx hb d_LA_law_302 (lv_at hl 4 rfl) ?_
        refine lv_iconst (v := nI 3) hx hb d_LA_law_304 (by decide) ?_
        refine z_add hx hb d_LA_law_305 ?_
        refine va_sld hx hb hX hbl hbA hS (vp_in_nI (n := (i + 3)) (by omega) (by omega)) d_LA_law_306 ?_
        refine lv_toi (z := xs (i + 3)) (congrArg xs (nI_clamp (by omega))) ?_
        refine lv_i2l (v := (xs (i + 3)).toInt64) hx hb d_LA_law_307 rfl ?_
        refine lv_ldc2 hx hb hown (hts _ kL_LA_74) d_LA_law_308 ?_
        refine lv_land hx hb d_LA_law_311 ?_
        refine lv_lor hx hb d_LA_law_312 ?_
        refine lv_tol (z := (lN fx)) hxe ?_
        refine lv_aload_n hx hb d_LA_law_313 rfl (lv_at hl 0 rfl) ?_
        refine lv_iload hx hb d_LA_law_314 (lv_at hl 4 rfl) ?_
        refine lv_iconst (v := nI 4) hx hb d_LA_law_316 (by decide) ?_
        refine z_add hx hb d_LA_law_317 ?_
        refine va_sld hx hb hX hbl hbA hS (vp_in_nI (n := (i + 4)) (by omega) (by omega)) d_LA_law_318 ?_
        refine lv_toi (z := xs (i + 4)) (congrArg xs (nI_clamp (by omega))) ?_
        refine lv_i2l (v := (xs (i + 4)).toInt64) hx hb d_LA_law_319 rfl ?_
        refine lv_bipush (v := nI 32) hx hb d_LA_law_320 (by decide) ?_
        refine lv_lshl (v := _ <<< ((nI 32).toInt64 &&& 63)) hx hb d_LA_law_322 rfl ?_
        refine lv_aload_n hx hb d_LA_law_323 rfl (lv_at hl 0 rfl) ?_
        refine lv_iload hx hb d_LA_law_324 (lv_at hl 4 rfl) ?_
        refine lv_iconst (v := nI 5) hx hb d_LA_law_326 (by decide) ?_
        refine z_add hx hb d_LA_law_327 ?_
        refine va_sld hx hb hX hbl hbA hS (vp_in_nI (n := (i + 5)) (by omega) (by omega)) d_LA_law_328 ?_
        refine lv_toi (z := xs (i + 5)) (congrArg xs (nI_clamp (by omega))) ?_
        refine lv_i2l (v := (xs (i + 5)).toInt64) hx hb d_LA_law_329 rfl ?_
        refine lv_ldc2 hx hb hown (hts _ kL_LA_74) d_LA_law_330 ?_
        refine lv_land hx hb d_LA_law_333 ?_
        refine lv_lor hx hb d_LA_law_334 ?_
        refine lv_tol (z := (lN fy)) hye ?_
        refine lv_aload_n hx hb d_LA_law_335 rfl (lv_at hl 3 rfl) ?_
        have hTs : thS D cA bk us u cap tB tc (lTO cA (tB kx) (nI bx) (us kx)) H := thS_o hT hkx hbk
        have hTi := thS_in (h0 := s.heap.size) hT hTs
        have hi0 : ∀ p ∈ kP cA cZ c2 cT cL s.heap.size P, (s.heap.size + 15 ≤ p.1 ∧ p.1 < s.heap.size + 30) := in_kP
        have hn0 : va_D (fun _ => True) (kP cA cZ c2 cT cL s.heap.size P) := nd_kP
        have hn1 : va_D (fun _ => True) ((kP cA cZ c2 cT cL s.heap.size P) ++ (kBL cA cZ c2 cT cL s.heap.size B)) := nd_app hn0 nd_kBL (fun p hp q hq e9 => by have := hi0 p hp; have := in_kBL q hq; omega)
        have hi1 : ∀ p ∈ (kP cA cZ c2 cT cL s.heap.size P) ++ (kBL cA cZ c2 cT cL s.heap.size B), (s.heap.size + 15 ≤ p.1 ∧ p.1 < s.heap.size + 30) ∨ (s.heap.size + 2 ≤ p.1 ∧ p.1 < s.heap.size + 11) := fun p hp => (List.mem_append.mp hp).elim (fun h => by have := hi0 p h; omega) (fun h => by have := in_kBL p h; omega)
        have hn2 : va_D (fun _ => True) (((kP cA cZ c2 cT cL s.heap.size P) ++ (kBL cA cZ c2 cT cL s.heap.size B)) ++ (kSB cA cZ c2 cT cL s.heap.size tc tf)) := nd_app hn1 nd_kSB (fun p hp q hq e9 => by have := hi1 p hp; have := in_kSB q hq; omega)
        have hi2 : ∀ p ∈ ((kP cA cZ c2 cT cL s.heap.size P) ++ (kBL cA cZ c2 cT cL s.heap.size B)) ++ (kSB cA cZ c2 cT cL s.heap.size tc tf), (s.heap.size + 15 ≤ p.1 ∧ p.1 < s.heap.size + 30) ∨ (s.heap.size + 2 ≤ p.1 ∧ p.1 < s.heap.size + 11) ∨ (s.heap.size + 0 ≤ p.1 ∧ p.1 < s.heap.size + 2) := fun p hp => (List.mem_append.mp hp).elim (fun h => by have := hi1 p h; omega) (fun h => by have := in_kSB p h; omega)
        have hn3 : va_D (fun _ => True) ((((kP cA cZ c2 cT cL s.heap.size P) ++ (kBL cA cZ c2 cT cL s.heap.size B)) ++ (kSB cA cZ c2 cT cL s.heap.size tc tf)) ++ (lTO cA (tB kx) (nI bx) (us kx))) := nd_app hn2 hTs.2.1 (fun p hp q hq e9 => by have := hi2 p hp; have := hTi q hq; omega)
        have hi3 : ∀ p ∈ (((kP cA cZ c2 cT cL s.heap.size P) ++ (kBL cA cZ c2 cT cL s.heap.size B)) ++ (kSB cA cZ c2 cT cL s.heap.size tc tf)) ++ (lTO cA (tB kx) (nI bx) (us kx)), (s.heap.size + 15 ≤ p.1 ∧ p.1 < s.heap.size + 30) ∨ (s.heap.size + 2 ≤ p.1 ∧ p.1 < s.heap.size + 11) ∨ (s.heap.size + 0 ≤ p.1 ∧ p.1 < s.heap.size + 2) ∨ (s.heap.size + 98 ≤ p.1) := fun p hp => (List.mem_append.mp hp).elim (fun h => by have := hi2 p h; omega) (fun h => by have := hTi p h; omega)
        have hn4 : va_D (fun _ => True) (((((kP cA cZ c2 cT cL s.heap.size P) ++ (kBL cA cZ c2 cT cL s.heap.size B)) ++ (kSB cA cZ c2 cT cL s.heap.size tc tf)) ++ (lTO cA (tB kx) (nI bx) (us kx))) ++ (kOU cA cZ c2 cT cL s.heap.size fo)) := nd_app hn3 nd_kOU (fun p hp q hq e9 => by have := hi3 p hp; have := in_kOU q hq; omega)
        have hi4 : ∀ p ∈ ((((kP cA cZ c2 cT cL s.heap.size P) ++ (kBL cA cZ c2 cT cL s.heap.size B)) ++ (kSB cA cZ c2 cT cL s.heap.size tc tf)) ++ (lTO cA (tB kx) (nI bx) (us kx))) ++ (kOU cA cZ c2 cT cL s.heap.size fo), (s.heap.size + 15 ≤ p.1 ∧ p.1 < s.heap.size + 30) ∨ (s.heap.size + 2 ≤ p.1 ∧ p.1 < s.heap.size + 11) ∨ (s.heap.size + 0 ≤ p.1 ∧ p.1 < s.heap.size + 2) ∨ (s.heap.size + 98 ≤ p.1) ∨ (s.heap.size + 97 ≤ p.1 ∧ p.1 < s.heap.size + 98) := fun p hp => (List.mem_append.mp hp).elim (fun h => by have := hi3 p h; omega) (fun h => by have := in_kOU p h; omega)
        have hw9 : ∀ p ∈ ((((kP cA cZ c2 cT cL s.heap.size P) ++ (kBL cA cZ c2 cT cL s.heap.size B)) ++ (kSB cA cZ c2 cT cL s.heap.size tc tf)) ++ (lTO cA (tB kx) (nI bx) (us kx))) ++ (kOU cA cZ c2 cT cL s.heap.size fo), p.1 < s.heap.size + 98 ∨ p ∈ lTO cA (tB kx) (nI bx) (us kx) := fun p hp => (List.mem_append.mp hp).elim (fun h => (List.mem_append.mp h).elim (fun h => (List.mem_append.mp h).elim (fun h => (List.mem_append.mp h).elim (fun h => Or.inl (by have := in_kP p h; omega)) (fun h => Or.inl (by have := in_kBL p h; omega))) (fun h => Or.inl (by have := in_kSB p h; omega))) (fun h => Or.inr h)) (fun h => Or.inl (by have := in_kOU p h; omega))
        refine zg_H (V := Unit) (F := zF0) (mc := 0) (ms := 0) (As := [.ref s.heap.size, .int (nI kx), .long (lN fx), .long (lN fy), .ref (s.heap.size + 97)]) (rest := []) (n := 5) (wsC := ((((kP cA cZ c2 cT cL s.heap.size P) ++ (kBL cA cZ c2 cT cL s.heap.size B)) ++ (kSB cA cZ c2 cT cL s.heap.size tc tf)) ++ (lTO cA (tB kx) (nI bx) (us kx))) ++ (kOU cA cZ c2 cT cL s.heap.size fo)) (φ := fun _ => True) (wv := fun _ => ((((kP cA cZ c2 cT cL s.heap.size (lyQ B (lyQ (flB bx fx fy B) P))) ++ (kBL cA cZ c2 cT cL s.heap.size B)) ++ (kSB cA cZ c2 cT cL s.heap.size tc tf)) ++ (lTO cA (tB kx) (nI bx) (us kx))) ++ (kOU cA cZ c2 cT cL s.heap.size (o1 fo (bL false)))) (rv := .int (nI 0)) zF0_ok ⟨hx, hb, hml, hown, hts⟩ (met_u (met_f (h_fix_no l D _ (fun k => s.heap.size + k) (fun k => s.heap.size + 2 + k) (fun k => s.heap.size + 11 + k) (fun k => s.heap.size + 15 + k) (fun k => s.heap.size + 30 + 16 * k) (laI s.heap.size) cA cZ c2 cT tc tf (s.heap.size + 97) cL fo (tB kx) (tB kx + 1) (us kx) B P kx bx fx fy h40 hkx (hT kx hkx).2.2 hb16 hfx hfy hG.1.1 hG.1.2.2.1.1 hr9))) ⟨km_LA_84, kst_LA_fix, kn_LA, kw_LA_fix⟩ (by decide +kernel) (by decide) ⟨(by show cs + 0 ≤ 601024; omega), (by show sl + 0 ≤ 7293000; omega)⟩ (hK.sub [0, 1, 2, 3, 4] rfl) (((((h_kP).app h_kBL).app h_kSB).app hTs.1).app h_kOU) hn4 hS (la_A hS (fun p hp => by have := hi4 p hp; omega)) trivial rfl hl.1 rfl (Nat.le_of_ble_eq_true rfl) d_LA_law_336 (fun _ H1 locs1 hph hP1 hz1 hf1 hS1 => ?_)
        have hq4 := va_P.right hP1
        have hr4 := va_P.left hP1
        have hq3 := va_P.right hr4
        have hr3 := va_P.left hr4
        have hq2 := va_P.right hr3
        have hr2 := va_P.left hr3
        have hq1 := va_P.right hr2
        have hr1 := va_P.left hr2
        have hq0 := hr1
        have h_kNE := hf1.far h_kNE in_kNE (fun p hp => by have := hi4 p hp; omega)
        have h_kSE := hf1.far h_kSE in_kSE (fun p hp => by have := hi4 p hp; omega)
        have h_kQ := hf1.far h_kQ in_kQ (fun p hp => by have := hi4 p hp; omega)
        have h_kDR := hf1.far h_kDR in_kDR (fun p hp => by have := hi4 p hp; omega)
        have h_kPI := hf1.far h_kPI in_kPI (fun p hp => by have := hi4 p hp; omega)
        have h_kMO := hf1.far h_kMO in_kMO (fun p hp => by have := hi4 p hp; omega)
        have h_kP := hq0
        have h_kBL := hq1
        have h_kSB := hq2
        have h_kOU := hq4
        have hT := th_kept hT hO hf1 hw9 hTs hq3
        have hS := hS1
        clear hf1 hS1 hP1 hn0 hi0 hn1 hi1 hn2 hi2 hn3 hi3 hn4 hi4
        refine lv_istore (lv' := [(5, .int (nI 0)), (0, .ref b), (1, .ref s.heap.size), (2, .ref (s.heap.size + 69)), (3, .ref (s.heap.size + 97)), (4, .int (nI i))]) hx hb d_LA_law_339 hl (by decide) rfl (fun ls hl => ?_)
        refine lv_aload_n hx hb d_LA_law_341 rfl (lv_at hl 3 rfl) ?_
        refine lv_aload_n hx hb d_LA_law_342 rfl (lv_at hl 1 rfl) ?_
        refine lv_iload hx hb d_LA_law_343 (lv_at hl 5 rfl) ?_
        refine lv_iconst (v := nI 1) hx hb d_LA_law_345 (by decide) ?_
        refine z_add hx hb d_LA_law_346 ?_
        refine va_sld hx hb hX hbl hbA hS (vp_in_nI (n := (i + 1)) (by omega) (by omega)) d_LA_law_347 ?_
        refine lv_toi (z := (nI kx)) ((congrArg xs (nI_clamp (by omega))).trans hke) ?_
        refine lv_aload_n hx hb d_LA_law_348 rfl (lv_at hl 1 rfl) ?_
        refine lv_iload hx hb d_LA_law_349 (lv_at hl 5 rfl) ?_
        refine lv_iconst (v := nI 2) hx hb d_LA_law_351 (by decide) ?_
        refine z_add hx hb d_LA_law_352 ?_
        refine va_sld hx hb hX hbl hbA hS (vp_in_nI (n := (i + 2)) (by omega) (by omega)) d_LA_law_353 ?_
        refine lv_toi (z := xs (i + 2)) (congrArg xs (nI_clamp (by omega))) ?_
        refine lv_i2l (v := (xs (i + 2)).toInt64) hx hb d_LA_law_354 rfl ?_
        refine lv_bipush (v := nI 32) hx hb d_LA_law_355 (by decide) ?_
        refine lv_lshl (v := _ <<< ((nI 32).toInt64 &&& 63)) hx hb d_LA_law_357 rfl ?_
        refine lv_aload_n hx hb d_LA_law_358 rfl (lv_at hl 1 rfl) ?_
        refine lv_iload hx hb d_LA_law_359 (lv_at hl 5 rfl) ?_
        refine lv_iconst (v := nI 3) hx hb d_LA_law_361 (by decide) ?_
        refine z_add hx hb d_LA_law_362 ?_
        refine va_sld hx hb hX hbl hbA hS (vp_in_nI (n := (i + 3)) (by omega) (by omega)) d_LA_law_363 ?_
        refine lv_toi (z := xs (i + 3)) (congrArg xs (nI_clamp (by omega))) ?_
        refine lv_i2l (v := (xs (i + 3)).toInt64) hx hb d_LA_law_364 rfl ?_
        refine lv_ldc2 hx hb hown (hts _ kL_LA_74) d_LA_law_365 ?_
        refine lv_land hx hb d_LA_law_368 ?_
        refine lv_lor hx hb d_LA_law_369 ?_
        refine lv_tol (z := (lN fx)) hxe ?_
        refine lv_aload_n hx hb d_LA_law_370 rfl (lv_at hl 1 rfl) ?_
        refine lv_iload hx hb d_LA_law_371 (lv_at hl 5 rfl) ?_
        refine lv_iconst (v := nI 4) hx hb d_LA_law_373 (by decide) ?_
        refine z_add hx hb d_LA_law_374 ?_
        refine va_sld hx hb hX hbl hbA hS (vp_in_nI (n := (i + 4)) (by omega) (by omega)) d_LA_law_375 ?_
        refine lv_toi (z := xs (i + 4)) (congrArg xs (nI_clamp (by omega))) ?_
        refine lv_i2l (v := (xs (i + 4)).toInt64) hx hb d_LA_law_376 rfl ?_
        refine lv_bipush (v := nI 32) hx hb d_LA_law_377 (by decide) ?_
        refine lv_lshl (v := _ <<< ((nI 32).toInt64 &&& 63)) hx hb d_LA_law_379 rfl ?_
        refine lv_aload_n hx hb d_LA_law_380 rfl (lv_at hl 1 rfl) ?_
        refine lv_iload hx hb d_LA_law_381 (lv_at hl 5 rfl) ?_
        refine lv_iconst (v := nI 5) hx hb d_LA_law_383 (by decide) ?_
        refine z_add hx hb d_LA_law_384 ?_
        refine va_sld hx hb hX hbl hbA hS (vp_in_nI (n := (i + 5)) (by omega) (by omega)) d_LA_law_385 ?_
        refine lv_toi (z := xs (i + 5)) (congrArg xs (nI_clamp (by omega))) ?_
        refine lv_i2l (v := (xs (i + 5)).toInt64) hx hb d_LA_law_386 rfl ?_
        refine lv_ldc2 hx hb hown (hts _ kL_LA_74) d_LA_law_387 ?_
        refine lv_land hx hb d_LA_law_390 ?_
        refine lv_lor hx hb d_LA_law_391 ?_
        refine lv_tol (z := (lN fy)) hye ?_
        have hi0 : ∀ p ∈ kMO cA cZ c2 cT cL s.heap.size M z, (s.heap.size + 69 ≤ p.1 ∧ p.1 < s.heap.size + 97) := in_kMO
        have hn0 : va_D (fun _ => True) (kMO cA cZ c2 cT cL s.heap.size M z) := nd_kMO
        refine zg_V (V := V5) (ci := 10) (q0 := 0) (As := [.int (nI kx), .long (lN fx), .long (lN fy)]) (rest := []) (n := 3) (wsC := kMO cA cZ c2 cT cL s.heap.size M z) (φ := fun v2 => v2.1 = M.1 21 ∧ v2.2.1 = M.1 22 ∧ v2.2.2.1 = M.2.1 23) (wv := fun v2 => kMO cA cZ c2 cT cL s.heap.size (mq (mS 0 0 M) v2) z) (rv := .int (zb false)) ⟨hx, hb, hml, hown, hts⟩ (r_fix_no l D _ (laM s.heap.size) cA cZ cL M z (vM M) B.2.2.2 B P (nI kx) bx fx fy h16 hG.1.1 hGv.2.2.1.1 hGv.2.2.1.2.1 hG.2.2.1.2.2 hG.1.2.2.1 hbf2 hbx hfx hfy hr9) ⟨km_LA_87, ki_MO_fix, ks_MO_fix, kn_MO, kd_MO_fix⟩ (by decide +kernel) (by decide) ⟨(by show cs + 0 ≤ 601024; omega), (by show sl + 0 ≤ 7293000; omega)⟩ (hK.sub [0, 1, 4] rfl) (h_kMO) hn0 hS (la_A hS (fun p hp => by have := hi0 p hp; omega)) rfl rfl rfl hl.1 rfl (Nat.le_of_ble_eq_true rfl) d_LA_law_392 (fun v2 H1 locs1 hph hP1 hz1 hf1 hS1 => ?_)
        have hq0 := hP1
        have h_kSB := hf1.far h_kSB in_kSB (fun p hp => by have := hi0 p hp; omega)
        have h_kBL := hf1.far h_kBL in_kBL (fun p hp => by have := hi0 p hp; omega)
        have h_kNE := hf1.far h_kNE in_kNE (fun p hp => by have := hi0 p hp; omega)
        have h_kP := hf1.far h_kP in_kP (fun p hp => by have := hi0 p hp; omega)
        have h_kSE := hf1.far h_kSE in_kSE (fun p hp => by have := hi0 p hp; omega)
        have h_kQ := hf1.far h_kQ in_kQ (fun p hp => by have := hi0 p hp; omega)
        have h_kDR := hf1.far h_kDR in_kDR (fun p hp => by have := hi0 p hp; omega)
        have h_kPI := hf1.far h_kPI in_kPI (fun p hp => by have := hi0 p hp; omega)
        have h_kOU := hf1.far h_kOU in_kOU (fun p hp => by have := hi0 p hp; omega)
        have h_kMO := hq0
        have hT := th_kept0 hT hO hf1 (fun p hp => by have := hi0 p hp; omega)
        have hS := hS1
        clear hf1 hS1 hP1 hn0 hi0
        refine lv_istore (lv' := [(6, .int (zb false)), (5, .int (nI 0)), (0, .ref b), (1, .ref s.heap.size), (2, .ref (s.heap.size + 69)), (3, .ref (s.heap.size + 97)), (4, .int (nI i))]) hx hb d_LA_law_395 hl (by decide) rfl (fun ls hl => ?_)
        refine lv_aload_n hx hb d_LA_law_397 rfl (lv_at hl 4 rfl) ?_
        refine zrM_V (ci := 10) (q0 := 0) (As := []) (rest := []) (n := 0) (wsC := kMO cA cZ c2 cT cL s.heap.size (mq (mS 0 0 M) v2) z) ⟨hx, hb, hml, hown, hts⟩ (c_MO_thrown l D (laM s.heap.size) cA cZ cL (mq (mS 0 0 M) v2) z) ⟨km_LA_80, ki_MO_thrown, ks_MO_thrown, kn_MO, kd_MO_thrown⟩ (by decide +kernel) (by decide) ⟨(by show cs + 0 ≤ 601024; omega), (by show sl + 0 ≤ 7293000; omega)⟩ (hK.sub [0, 1, 4] rfl) h_kMO rfl rfl rfl hl.1 rfl (Nat.le_of_ble_eq_true rfl) d_LA_law_398 ?_
        refine lv_toi (z := nI 0) rfl ?_
        refine lv_iload hx hb d_LA_law_401 (lv_at hl 1 rfl) ?_
        refine z_ceq (tgt := 408) hx hb d_LA_law_403 (by decide) (by omega) (by omega) (fun _ => ?_) (fun h => absurd h (by omega))
        refine lv_iload hx hb d_LA_law_408 (lv_at hl 1 rfl) ?_
        refine z_0ne (tgt := 432) hx hb d_LA_law_410 (by decide) (by omega) (fun h => absurd h (by omega)) (fun _ => ?_)
        refine lv_aload_n hx hb d_LA_law_413 rfl (lv_at hl 5 rfl) ?_
        refine lv_iconst (v := nI 0) hx hb d_LA_law_414 (by decide) ?_
        refine va_lald hx hb hK h_kOU 0 4 rfl rfl (vp_in_nI (n := 0) (by decide) (by decide)) d_LA_law_415 ?_
        refine lv_tol (z := bL false) rfl ?_
        refine lv_iload hx hb d_LA_law_416 (lv_at hl 0 rfl) ?_
        refine zb_ans hx hb d_LA_law_418 (by decide) d_LA_law_421 d_LA_law_422 (by decide) d_LA_law_425 ?_
        refine y_leq (tgt := 432) hx hb d_LA_law_426 d_LA_law_427 (by decide) (fun _ => ?_) (fun c9 => absurd rfl c9)
        refine lv_goto (tgt := 1221) hx hb d_LA_law_432 (by decide) ?_
        exact kk _ _ _ _ ls (by omega) (by omega) hS ⟨tc, tf, B, (lyQ B (lyQ (flB bx fx fy B) P)), Qp, N, ah, kw, z, nn, sd, cf, lf, cn, (mq (mS 0 0 M) v2), (o1 fo (bL false)), bk, us, u, cap, wt, tB, ⟨h_kSB, h_kBL, h_kNE, h_kP, h_kSE, h_kQ, h_kDR, h_kPI, h_kMO, h_kOU⟩, hT, hO, RelG_fixn hG hph.1 hph.2.1 hph.2.2, RelT_q hR, hq⟩ (lv_sub hl [2, 3, 4, 5, 6] rfl)
      · refine lv_aload_n hx hb d_LA_law_284 rfl (lv_at hl 1 rfl) ?_
        refine lv_aload_n hx hb d_LA_law_285 rfl (lv_at hl 0 rfl) ?_
        refine lv_iload hx hb d_LA_law_286 (lv_at hl 4 rfl) ?_
        refine lv_iconst (v := nI 1) hx hb d_LA_law_288 (by decide) ?_
        refine z_add hx hb d_LA_law_289 ?_
        refine va_sld hx hb hX hbl hbA hS (vp_in_nI (n := (i + 1)) (by omega) (by omega)) d_LA_law_290 ?_
        refine lv_toi (z := (nI kx)) ((congrArg xs (nI_clamp (by omega))).trans hke) ?_
        refine lv_aload_n hx hb d_LA_law_291 rfl (lv_at hl 0 rfl) ?_
        refine lv_iload hx hb d_LA_law_292 (lv_at hl 4 rfl) ?_
        refine lv_iconst (v := nI 2) hx hb d_LA_law_294 (by decide) ?_
        refine z_add hx hb d_LA_law_295 ?_
        refine va_sld hx hb hX hbl hbA hS (vp_in_nI (n := (i + 2)) (by omega) (by omega)) d_LA_law_296 ?_
        refine lv_toi (z := xs (i + 2)) (congrArg xs (nI_clamp (by omega))) ?_
        refine lv_i2l (v := (xs (i + 2)).toInt64) hx hb d_LA_law_297 rfl ?_
        refine lv_bipush (v := nI 32) hx hb d_LA_law_298 (by decide) ?_
        refine lv_lshl (v := _ <<< ((nI 32).toInt64 &&& 63)) hx hb d_LA_law_300 rfl ?_
        refine lv_aload_n hx hb d_LA_law_301 rfl (lv_at hl 0 rfl) ?_
        refine lv_iload hx hb d_LA_law_302 (lv_at hl 4 rfl) ?_
        refine lv_iconst (v := nI 3) hx hb d_LA_law_304 (by decide) ?_
        refine z_add hx hb d_LA_law_305 ?_
        refine va_sld hx hb hX hbl hbA hS (vp_in_nI (n := (i + 3)) (by omega) (by omega)) d_LA_law_306 ?_
        refine lv_toi (z := xs (i + 3)) (congrArg xs (nI_clamp (by omega))) ?_
        refine lv_i2l (v := (xs (i + 3)).toInt64) hx hb d_LA_law_307 rfl ?_
        refine lv_ldc2 hx hb hown (hts _ kL_LA_74) d_LA_law_308 ?_
        refine lv_land hx hb d_LA_law_311 ?_
        refine lv_lor hx hb d_LA_law_312 ?_
        refine lv_tol (z := (lN fx)) hxe ?_
        refine lv_aload_n hx hb d_LA_law_313 rfl (lv_at hl 0 rfl) ?_
        refine lv_iload hx hb d_LA_law_314 (lv_at hl 4 rfl) ?_
        refine lv_iconst (v := nI 4) hx hb d_LA_law_316 (by decide) ?_
        refine z_add hx hb d_LA_law_317 ?_
        refine va_sld hx hb hX hbl hbA hS (vp_in_nI (n := (i + 4)) (by omega) (by omega)) d_LA_law_318 ?_
        refine lv_toi (z := xs (i + 4)) (congrArg xs (nI_clamp (by omega))) ?_
        refine lv_i2l (v := (xs (i + 4)).toInt64) hx hb d_LA_law_319 rfl ?_
        refine lv_bipush (v := nI 32) hx hb d_LA_law_320 (by decide) ?_
        refine lv_lshl (v := _ <<< ((nI 32).toInt64 &&& 63)) hx hb d_LA_law_322 rfl ?_
        refine lv_aload_n hx hb d_LA_law_323 rfl (lv_at hl 0 rfl) ?_
        refine lv_iload hx hb d_LA_law_324 (lv_at hl 4 rfl) ?_
        refine lv_iconst (v := nI 5) hx hb d_LA_law_326 (by decide) ?_
        refine z_add hx hb d_LA_law_327 ?_
        refine va_sld hx hb hX hbl hbA hS (vp_in_nI (n := (i + 5)) (by omega) (by omega)) d_LA_law_328 ?_
        refine lv_toi (z := xs (i + 5)) (congrArg xs (nI_clamp (by omega))) ?_
        refine lv_i2l (v := (xs (i + 5)).toInt64) hx hb d_LA_law_329 rfl ?_
        refine lv_ldc2 hx hb hown (hts _ kL_LA_74) d_LA_law_330 ?_
        refine lv_land hx hb d_LA_law_333 ?_
        refine lv_lor hx hb d_LA_law_334 ?_
        refine lv_tol (z := (lN fy)) hye ?_
        refine lv_aload_n hx hb d_LA_law_335 rfl (lv_at hl 3 rfl) ?_
        have hTs : thS D cA bk us u cap tB tc (lTO cA (tB kx) (nI bx) (us kx)) H := thS_o hT hkx hbk
        have hTi := thS_in (h0 := s.heap.size) hT hTs
        have hi0 : ∀ p ∈ kP cA cZ c2 cT cL s.heap.size P, (s.heap.size + 15 ≤ p.1 ∧ p.1 < s.heap.size + 30) := in_kP
        have hn0 : va_D (fun _ => True) (kP cA cZ c2 cT cL s.heap.size P) := nd_kP
        have hn1 : va_D (fun _ => True) ((kP cA cZ c2 cT cL s.heap.size P) ++ (kBL cA cZ c2 cT cL s.heap.size B)) := nd_app hn0 nd_kBL (fun p hp q hq e9 => by have := hi0 p hp; have := in_kBL q hq; omega)
        have hi1 : ∀ p ∈ (kP cA cZ c2 cT cL s.heap.size P) ++ (kBL cA cZ c2 cT cL s.heap.size B), (s.heap.size + 15 ≤ p.1 ∧ p.1 < s.heap.size + 30) ∨ (s.heap.size + 2 ≤ p.1 ∧ p.1 < s.heap.size + 11) := fun p hp => (List.mem_append.mp hp).elim (fun h => by have := hi0 p h; omega) (fun h => by have := in_kBL p h; omega)
        have hn2 : va_D (fun _ => True) (((kP cA cZ c2 cT cL s.heap.size P) ++ (kBL cA cZ c2 cT cL s.heap.size B)) ++ (kSB cA cZ c2 cT cL s.heap.size tc tf)) := nd_app hn1 nd_kSB (fun p hp q hq e9 => by have := hi1 p hp; have := in_kSB q hq; omega)
        have hi2 : ∀ p ∈ ((kP cA cZ c2 cT cL s.heap.size P) ++ (kBL cA cZ c2 cT cL s.heap.size B)) ++ (kSB cA cZ c2 cT cL s.heap.size tc tf), (s.heap.size + 15 ≤ p.1 ∧ p.1 < s.heap.size + 30) ∨ (s.heap.size + 2 ≤ p.1 ∧ p.1 < s.heap.size + 11) ∨ (s.heap.size + 0 ≤ p.1 ∧ p.1 < s.heap.size + 2) := fun p hp => (List.mem_append.mp hp).elim (fun h => by have := hi1 p h; omega) (fun h => by have := in_kSB p h; omega)
        have hn3 : va_D (fun _ => True) ((((kP cA cZ c2 cT cL s.heap.size P) ++ (kBL cA cZ c2 cT cL s.heap.size B)) ++ (kSB cA cZ c2 cT cL s.heap.size tc tf)) ++ (lTO cA (tB kx) (nI bx) (us kx))) := nd_app hn2 hTs.2.1 (fun p hp q hq e9 => by have := hi2 p hp; have := hTi q hq; omega)
        have hi3 : ∀ p ∈ (((kP cA cZ c2 cT cL s.heap.size P) ++ (kBL cA cZ c2 cT cL s.heap.size B)) ++ (kSB cA cZ c2 cT cL s.heap.size tc tf)) ++ (lTO cA (tB kx) (nI bx) (us kx)), (s.heap.size + 15 ≤ p.1 ∧ p.1 < s.heap.size + 30) ∨ (s.heap.size + 2 ≤ p.1 ∧ p.1 < s.heap.size + 11) ∨ (s.heap.size + 0 ≤ p.1 ∧ p.1 < s.heap.size + 2) ∨ (s.heap.size + 98 ≤ p.1) := fun p hp => (List.mem_append.mp hp).elim (fun h => by have := hi2 p h; omega) (fun h => by have := hTi p h; omega)
        have hn4 : va_D (fun _ => True) (((((kP cA cZ c2 cT cL s.heap.size P) ++ (kBL cA cZ c2 cT cL s.heap.size B)) ++ (kSB cA cZ c2 cT cL s.heap.size tc tf)) ++ (lTO cA (tB kx) (nI bx) (us kx))) ++ (kOU cA cZ c2 cT cL s.heap.size fo)) := nd_app hn3 nd_kOU (fun p hp q hq e9 => by have := hi3 p hp; have := in_kOU q hq; omega)
        have hi4 : ∀ p ∈ ((((kP cA cZ c2 cT cL s.heap.size P) ++ (kBL cA cZ c2 cT cL s.heap.size B)) ++ (kSB cA cZ c2 cT cL s.heap.size tc tf)) ++ (lTO cA (tB kx) (nI bx) (us kx))) ++ (kOU cA cZ c2 cT cL s.heap.size fo), (s.heap.size + 15 ≤ p.1 ∧ p.1 < s.heap.size + 30) ∨ (s.heap.size + 2 ≤ p.1 ∧ p.1 < s.heap.size + 11) ∨ (s.heap.size + 0 ≤ p.1 ∧ p.1 < s.heap.size + 2) ∨ (s.heap.size + 98 ≤ p.1) ∨ (s.heap.size + 97 ≤ p.1 ∧ p.1 < s.heap.size + 98) := fun p hp => (List.mem_append.mp hp).elim (fun h => by have := hi3 p h; omega) (fun h => by have := in_kOU p h; omega)
        have hw9 : ∀ p ∈ ((((kP cA cZ c2 cT cL s.heap.size P) ++ (kBL cA cZ c2 cT cL s.heap.size B)) ++ (kSB cA cZ c2 cT cL s.heap.size tc tf)) ++ (lTO cA (tB kx) (nI bx) (us kx))) ++ (kOU cA cZ c2 cT cL s.heap.size fo), p.1 < s.heap.size + 98 ∨ p ∈ lTO cA (tB kx) (nI bx) (us kx) := fun p hp => (List.mem_append.mp hp).elim (fun h => (List.mem_append.mp h).elim (fun h => (List.mem_append.mp h).elim (fun h => (List.mem_append.mp h).elim (fun h => Or.inl (by have := in_kP p h; omega)) (fun h => Or.inl (by have := in_kBL p h; omega))) (fun h => Or.inl (by have := in_kSB p h; omega))) (fun h => Or.inr h)) (fun h => Or.inl (by have := in_kOU p h; omega))
        refine zg_H (V := Unit) (F := zF0) (mc := 0) (ms := 0) (As := [.ref s.heap.size, .int (nI kx), .long (lN fx), .long (lN fy), .ref (s.heap.size + 97)]) (rest := []) (n := 5) (wsC := ((((kP cA cZ c2 cT cL s.heap.size P) ++ (kBL cA cZ c2 cT cL s.heap.size B)) ++ (kSB cA cZ c2 cT cL s.heap.size tc tf)) ++ (lTO cA (tB kx) (nI bx) (us kx))) ++ (kOU cA cZ c2 cT cL s.heap.size fo)) (φ := fun _ => True) (wv := fun _ => ((((kP cA cZ c2 cT cL s.heap.size (lyQ (flB bx fx fy B) P)) ++ (kBL cA cZ c2 cT cL s.heap.size (flB bx fx fy B))) ++ (kSB cA cZ c2 cT cL s.heap.size tc tf)) ++ (lTO cA (tB kx) (nI bx) (us kx))) ++ (kOU cA cZ c2 cT cL s.heap.size (o1 fo (bL true)))) (rv := .int (nI 0)) zF0_ok ⟨hx, hb, hml, hown, hts⟩ (met_u (met_f (h_fix_yes l D _ (fun k => s.heap.size + k) (fun k => s.heap.size + 2 + k) (fun k => s.heap.size + 11 + k) (fun k => s.heap.size + 15 + k) (fun k => s.heap.size + 30 + 16 * k) (laI s.heap.size) cA cZ c2 cT tc tf (s.heap.size + 97) cL fo (tB kx) (tB kx + 1) (us kx) B P kx bx fx fy h40 hkx (hT kx hkx).2.2 hb16 hfx hfy hG.1.1 hG.1.2.2.1.1 hr9))) ⟨km_LA_84, kst_LA_fix, kn_LA, kw_LA_fix⟩ (by decide +kernel) (by decide) ⟨(by show cs + 0 ≤ 601024; omega), (by show sl + 0 ≤ 7293000; omega)⟩ (hK.sub [0, 1, 2, 3, 4] rfl) (((((h_kP).app h_kBL).app h_kSB).app hTs.1).app h_kOU) hn4 hS (la_A hS (fun p hp => by have := hi4 p hp; omega)) trivial rfl hl.1 rfl (Nat.le_of_ble_eq_true rfl) d_LA_law_336 (fun _ H1 locs1 hph hP1 hz1 hf1 hS1 => ?_)
        have hq4 := va_P.right hP1
        have hr4 := va_P.left hP1
        have hq3 := va_P.right hr4
        have hr3 := va_P.left hr4
        have hq2 := va_P.right hr3
        have hr2 := va_P.left hr3
        have hq1 := va_P.right hr2
        have hr1 := va_P.left hr2
        have hq0 := hr1
        have h_kNE := hf1.far h_kNE in_kNE (fun p hp => by have := hi4 p hp; omega)
        have h_kSE := hf1.far h_kSE in_kSE (fun p hp => by have := hi4 p hp; omega)
        have h_kQ := hf1.far h_kQ in_kQ (fun p hp => by have := hi4 p hp; omega)
        have h_kDR := hf1.far h_kDR in_kDR (fun p hp => by have := hi4 p hp; omega)
        have h_kPI := hf1.far h_kPI in_kPI (fun p hp => by have := hi4 p hp; omega)
        have h_kMO := hf1.far h_kMO in_kMO (fun p hp => by have := hi4 p hp; omega)
        have h_kP := hq0
        have h_kBL := hq1
        have h_kSB := hq2
        have h_kOU := hq4
        have hT := th_kept hT hO hf1 hw9 hTs hq3
        have hS := hS1
        clear hf1 hS1 hP1 hn0 hi0 hn1 hi1 hn2 hi2 hn3 hi3 hn4 hi4
        refine lv_istore (lv' := [(5, .int (nI 0)), (0, .ref b), (1, .ref s.heap.size), (2, .ref (s.heap.size + 69)), (3, .ref (s.heap.size + 97)), (4, .int (nI i))]) hx hb d_LA_law_339 hl (by decide) rfl (fun ls hl => ?_)
        refine lv_aload_n hx hb d_LA_law_341 rfl (lv_at hl 3 rfl) ?_
        refine lv_aload_n hx hb d_LA_law_342 rfl (lv_at hl 1 rfl) ?_
        refine lv_iload hx hb d_LA_law_343 (lv_at hl 5 rfl) ?_
        refine lv_iconst (v := nI 1) hx hb d_LA_law_345 (by decide) ?_
        refine z_add hx hb d_LA_law_346 ?_
        refine va_sld hx hb hX hbl hbA hS (vp_in_nI (n := (i + 1)) (by omega) (by omega)) d_LA_law_347 ?_
        refine lv_toi (z := (nI kx)) ((congrArg xs (nI_clamp (by omega))).trans hke) ?_
        refine lv_aload_n hx hb d_LA_law_348 rfl (lv_at hl 1 rfl) ?_
        refine lv_iload hx hb d_LA_law_349 (lv_at hl 5 rfl) ?_
        refine lv_iconst (v := nI 2) hx hb d_LA_law_351 (by decide) ?_
        refine z_add hx hb d_LA_law_352 ?_
        refine va_sld hx hb hX hbl hbA hS (vp_in_nI (n := (i + 2)) (by omega) (by omega)) d_LA_law_353 ?_
        refine lv_toi (z := xs (i + 2)) (congrArg xs (nI_clamp (by omega))) ?_
        refine lv_i2l (v := (xs (i + 2)).toInt64) hx hb d_LA_law_354 rfl ?_
        refine lv_bipush (v := nI 32) hx hb d_LA_law_355 (by decide) ?_
        refine lv_lshl (v := _ <<< ((nI 32).toInt64 &&& 63)) hx hb d_LA_law_357 rfl ?_
        refine lv_aload_n hx hb d_LA_law_358 rfl (lv_at hl 1 rfl) ?_
        refine lv_iload hx hb d_LA_law_359 (lv_at hl 5 rfl) ?_
        refine lv_iconst (v := nI 3) hx hb d_LA_law_361 (by decide) ?_
        refine z_add hx hb d_LA_law_362 ?_
        refine va_sld hx hb hX hbl hbA hS (vp_in_nI (n := (i + 3)) (by omega) (by omega)) d_LA_law_363 ?_
        refine lv_toi (z := xs (i + 3)) (congrArg xs (nI_clamp (by omega))) ?_
        refine lv_i2l (v := (xs (i + 3)).toInt64) hx hb d_LA_law_364 rfl ?_
        refine lv_ldc2 hx hb hown (hts _ kL_LA_74) d_LA_law_365 ?_
        refine lv_land hx hb d_LA_law_368 ?_
        refine lv_lor hx hb d_LA_law_369 ?_
        refine lv_tol (z := (lN fx)) hxe ?_
        refine lv_aload_n hx hb d_LA_law_370 rfl (lv_at hl 1 rfl) ?_
        refine lv_iload hx hb d_LA_law_371 (lv_at hl 5 rfl) ?_
        refine lv_iconst (v := nI 4) hx hb d_LA_law_373 (by decide) ?_
        refine z_add hx hb d_LA_law_374 ?_
        refine va_sld hx hb hX hbl hbA hS (vp_in_nI (n := (i + 4)) (by omega) (by omega)) d_LA_law_375 ?_
        refine lv_toi (z := xs (i + 4)) (congrArg xs (nI_clamp (by omega))) ?_
        refine lv_i2l (v := (xs (i + 4)).toInt64) hx hb d_LA_law_376 rfl ?_
        refine lv_bipush (v := nI 32) hx hb d_LA_law_377 (by decide) ?_
        refine lv_lshl (v := _ <<< ((nI 32).toInt64 &&& 63)) hx hb d_LA_law_379 rfl ?_
        refine lv_aload_n hx hb d_LA_law_380 rfl (lv_at hl 1 rfl) ?_
        refine lv_iload hx hb d_LA_law_381 (lv_at hl 5 rfl) ?_
        refine lv_iconst (v := nI 5) hx hb d_LA_law_383 (by decide) ?_
        refine z_add hx hb d_LA_law_384 ?_
        refine va_sld hx hb hX hbl hbA hS (vp_in_nI (n := (i + 5)) (by omega) (by omega)) d_LA_law_385 ?_
        refine lv_toi (z := xs (i + 5)) (congrArg xs (nI_clamp (by omega))) ?_
        refine lv_i2l (v := (xs (i + 5)).toInt64) hx hb d_LA_law_386 rfl ?_
        refine lv_ldc2 hx hb hown (hts _ kL_LA_74) d_LA_law_387 ?_
        refine lv_land hx hb d_LA_law_390 ?_
        refine lv_lor hx hb d_LA_law_391 ?_
        refine lv_tol (z := (lN fy)) hye ?_
        have hi0 : ∀ p ∈ kMO cA cZ c2 cT cL s.heap.size M z, (s.heap.size + 69 ≤ p.1 ∧ p.1 < s.heap.size + 97) := in_kMO
        have hn0 : va_D (fun _ => True) (kMO cA cZ c2 cT cL s.heap.size M z) := nd_kMO
        refine zg_V (V := V5) (ci := 10) (q0 := 0) (As := [.int (nI kx), .long (lN fx), .long (lN fy)]) (rest := []) (n := 3) (wsC := kMO cA cZ c2 cT cL s.heap.size M z) (φ := fun v2 => v2.1 = M.1 21 ∧ v2.2.1 = M.1 22 ∧ v2.2.2.1 = M.2.1 23) (wv := fun v2 => kMO cA cZ c2 cT cL s.heap.size (mq (flM bx fx fy (mS 0 0 M)) v2) z) (rv := .int (zb true)) ⟨hx, hb, hml, hown, hts⟩ (r_fix_yes l D _ (laM s.heap.size) cA cZ cL M z (vM M) B.2.2.2 B P (nI kx) bx fx fy h16 hG.1.1 hGv.2.2.1.1 hGv.2.2.1.2.1 hG.2.2.1.2.2 hG.1.2.2.1 hbf2 hbx hfx hfy hr9) ⟨km_LA_87, ki_MO_fix, ks_MO_fix, kn_MO, kd_MO_fix⟩ (by decide +kernel) (by decide) ⟨(by show cs + 0 ≤ 601024; omega), (by show sl + 0 ≤ 7293000; omega)⟩ (hK.sub [0, 1, 4] rfl) (h_kMO) hn0 hS (la_A hS (fun p hp => by have := hi0 p hp; omega)) rfl rfl rfl hl.1 rfl (Nat.le_of_ble_eq_true rfl) d_LA_law_392 (fun v2 H1 locs1 hph hP1 hz1 hf1 hS1 => ?_)
        have hq0 := hP1
        have h_kSB := hf1.far h_kSB in_kSB (fun p hp => by have := hi0 p hp; omega)
        have h_kBL := hf1.far h_kBL in_kBL (fun p hp => by have := hi0 p hp; omega)
        have h_kNE := hf1.far h_kNE in_kNE (fun p hp => by have := hi0 p hp; omega)
        have h_kP := hf1.far h_kP in_kP (fun p hp => by have := hi0 p hp; omega)
        have h_kSE := hf1.far h_kSE in_kSE (fun p hp => by have := hi0 p hp; omega)
        have h_kQ := hf1.far h_kQ in_kQ (fun p hp => by have := hi0 p hp; omega)
        have h_kDR := hf1.far h_kDR in_kDR (fun p hp => by have := hi0 p hp; omega)
        have h_kPI := hf1.far h_kPI in_kPI (fun p hp => by have := hi0 p hp; omega)
        have h_kOU := hf1.far h_kOU in_kOU (fun p hp => by have := hi0 p hp; omega)
        have h_kMO := hq0
        have hT := th_kept0 hT hO hf1 (fun p hp => by have := hi0 p hp; omega)
        have hS := hS1
        clear hf1 hS1 hP1 hn0 hi0
        refine lv_istore (lv' := [(6, .int (zb true)), (5, .int (nI 0)), (0, .ref b), (1, .ref s.heap.size), (2, .ref (s.heap.size + 69)), (3, .ref (s.heap.size + 97)), (4, .int (nI i))]) hx hb d_LA_law_395 hl (by decide) rfl (fun ls hl => ?_)
        refine lv_aload_n hx hb d_LA_law_397 rfl (lv_at hl 4 rfl) ?_
        refine zrM_V (ci := 10) (q0 := 0) (As := []) (rest := []) (n := 0) (wsC := kMO cA cZ c2 cT cL s.heap.size (mq (flM bx fx fy (mS 0 0 M)) v2) z) ⟨hx, hb, hml, hown, hts⟩ (c_MO_thrown l D (laM s.heap.size) cA cZ cL (mq (flM bx fx fy (mS 0 0 M)) v2) z) ⟨km_LA_80, ki_MO_thrown, ks_MO_thrown, kn_MO, kd_MO_thrown⟩ (by decide +kernel) (by decide) ⟨(by show cs + 0 ≤ 601024; omega), (by show sl + 0 ≤ 7293000; omega)⟩ (hK.sub [0, 1, 4] rfl) h_kMO rfl rfl rfl hl.1 rfl (Nat.le_of_ble_eq_true rfl) d_LA_law_398 ?_
        refine lv_toi (z := nI 0) rfl ?_
        refine lv_iload hx hb d_LA_law_401 (lv_at hl 1 rfl) ?_
        refine z_ceq (tgt := 408) hx hb d_LA_law_403 (by decide) (by omega) (by omega) (fun _ => ?_) (fun h => absurd h (by omega))
        refine lv_iload hx hb d_LA_law_408 (lv_at hl 1 rfl) ?_
        refine z_0ne (tgt := 432) hx hb d_LA_law_410 (by decide) (by omega) (fun h => absurd h (by omega)) (fun _ => ?_)
        refine lv_aload_n hx hb d_LA_law_413 rfl (lv_at hl 5 rfl) ?_
        refine lv_iconst (v := nI 0) hx hb d_LA_law_414 (by decide) ?_
        refine va_lald hx hb hK h_kOU 0 4 rfl rfl (vp_in_nI (n := 0) (by decide) (by decide)) d_LA_law_415 ?_
        refine lv_tol (z := bL true) rfl ?_
        refine lv_iload hx hb d_LA_law_416 (lv_at hl 0 rfl) ?_
        refine zb_ans hx hb d_LA_law_418 (by decide) d_LA_law_421 d_LA_law_422 (by decide) d_LA_law_425 ?_
        refine y_leq (tgt := 432) hx hb d_LA_law_426 d_LA_law_427 (by decide) (fun _ => ?_) (fun c9 => absurd rfl c9)
        refine lv_goto (tgt := 1221) hx hb d_LA_law_432 (by decide) ?_
        exact kk _ _ _ _ ls (by omega) (by omega) hS ⟨tc, tf, (flB bx fx fy B), (lyQ (flB bx fx fy B) P), Qp, N, ah, kw, z, nn, sd, cf, lf, cn, (mq (flM bx fx fy (mS 0 0 M)) v2), (o1 fo (bL true)), bk, us, u, cap, wt, tB, ⟨h_kSB, h_kBL, h_kNE, h_kP, h_kSE, h_kQ, h_kDR, h_kPI, h_kMO, h_kOU⟩, hT, hO, RelG_fixy hG hbx hfx hfy hr9 hph.1 hph.2.1 hph.2.2, RelT_fl hR, hq⟩ (lv_sub hl [2, 3, 4, 5, 6] rfl)
