theorem bd_pair {n tries : Nat} {B : BS} {N : NS} {P Q : PS} {M : MS} {z : Int64} (h : RelG n B N P M) (h0 : 0 < n) : bd2Q n (runS B N (arQ P) tries ((P, cpQ P Q, arQ P, wrQ N P), z) tries).1.1 := by
  obtain ⟨⟨a1, a2, a3, a4, a5, a6⟩, b1, ⟨c1, c2, c3⟩, o1, r1, dg⟩ := h
  have hn16 : n ≤ 16 := by rw [← a2]; exact a1.1
  have hg : goodS n (P, cpQ P Q, arQ P, wrQ N P) := ⟨a3, wf_cp a3 hn16, a4, ar_le a4, wr_lt (okN_of o1 hn16) (bdQ_of o1 a4)⟩
  have hl : ldS n B N (P, cpQ P Q, arQ P, wrQ N P) := ⟨a5, rfl⟩
  exact (ld_run (u := ((P, cpQ P Q, arQ P, wrQ N P), z)) (first := arQ P) (tries := tries) a1 a2 h0 o1 hg hl tries).1.2.2.1
theorem RelG_pair0 {n : Nat} {B : BS} {N : NS} {P : PS} {M : MS} {v2 : V5} (h : RelG n B N P M) (_h0 : n = 0) (hr : RelP n P (mq (mS 0 0 M) v2) 0) (hb : ∀ q, v2.1 q < 16 ∧ v2.2.1 q < 16) : RelG n B N P (mq (mS 0 0 M) v2) := by
  obtain ⟨a, b1, ⟨c1, c2, c3⟩, o1, r1, dg⟩ := h
  exact ⟨a, b1, ⟨c1, hr, hb⟩, o1, r1, dg⟩
theorem RelT_q {n tc : Nat} {bk : Nat → Int32} {us : Nat → Bool} {u : Nat → FL} {cap wt : Nat → Nat} {M : MS} {v2 : V5} (h : RelT n tc bk us u cap wt M) : RelT n tc bk us u cap wt (mq (mS 0 0 M) v2) := h
set_option maxHeartbeats 4000000 in
set_option maxRecDepth 100000 in
/-- overlap -/
theorem lc_overlap {p : Program} {l : Launch} {e : Env} {s : State} {m : MethodId} {below : List Frame} {meth : Method} {c : Code} {b L : Nat} {xs : Nat → Int32} {D : va_G} {cA cZ c2 cT cL : ClassId} {Q : State → Prop} (C : lawC p l s m c b L xs D cA cZ c2 cT cL) {i cs sl : Nat} {H : Heap} {locs : List Loc} {ls : Array Slot} (hi : i + 6 ≤ L) (hcs : cs + 10 ≤ 601024) (hsl : sl + 200 ≤ 7293000) (hS : va_S (lA s) s.heap H locs) (hI : lawI D cA cZ c2 cT cL s.heap.size H) (hl : lv_has ls 8 [(0, .ref b), (1, .ref s.heap.size), (2, .ref (s.heap.size + 69)), (3, .ref (s.heap.size + 97)), (4, .int (nI i))]) (kk : ∀ (H1 : Heap) (locs1 : List Loc) (cs1 sl1 : Nat) (ls1 : Array Slot), cs1 ≤ cs + 10 → sl1 ≤ sl + 200 → va_S (lA s) s.heap H1 locs1 → lawI D cA cZ c2 cT cL s.heap.size H1 → lv_has ls1 8 [(0, .ref b), (1, .ref s.heap.size), (2, .ref (s.heap.size + 69)), (3, .ref (s.heap.size + 97)), (4, .int (nI i))] → W p l e room_1 s m #[Value.ref b] below meth c H1 locs1 cs1 sl1 Q (F0 m 1221 ls1 [])) : W p l e room_1 s m #[Value.ref b] below meth c H locs cs sl Q (F0 m 975 ls []) := by
  obtain ⟨hx, hb, hml, hown, hts, hX, hbl, hL, hK, htl, hF1, hF2⟩ := C
  have hbA : ¬ lA s b := fun h => by have h : s.heap.size ≤ b := h; omega
  obtain ⟨tc, tf, B, P, Qp, N, ah, kw, z, nn, sd, cf, lf, cn, M, fo, bk, us, u, cap, wt, tB, ⟨h_kSB, h_kBL, h_kNE, h_kP, h_kSE, h_kQ, h_kDR, h_kPI, h_kMO, h_kOU⟩, hT, hO, hG, hR, hq⟩ := hI
  have h40 : tc ≤ 40 := hR.2.1
  have h17 : M.2.2.1 17 = B.2.2.2 := hG.2.2.1.1.2.1
  have h16 : B.2.2.2 ≤ 16 := hG.1.1.1
  have hT : thA D cA bk us u cap tB tc tf s.heap.size H := hT
  have hGv := RelG_ag hG (ag_v M)
  refine lv_aload_n hx hb d_LA_law_975 rfl (lv_at hl 1 rfl) ?_
  refine zrM_V (ci := 0) (q0 := 24) (As := []) (rest := []) (n := 0) (wsC := ((kP cA cZ c2 cT cL s.heap.size P) ++ (kBL cA cZ c2 cT cL s.heap.size B)) ++ (kSB cA cZ c2 cT cL s.heap.size tc tf)) ⟨hx, hb, hml, hown, hts⟩ (c_SB_overlap l D (fun k => s.heap.size + k) (fun k => s.heap.size + 2 + k) (fun k => s.heap.size + 11 + k) (fun k => s.heap.size + 15 + k) (fun k => s.heap.size + 30 + 16 * k) (laI s.heap.size) cA cZ c2 cT tc tf B P hG.1.1 hG.1.2.2.2.1) ⟨km_LA_116, ki_SB_overlap, ks_SB_overlap, kn_SB, kd_SB_overlap⟩ (by decide +kernel) (by decide) ⟨(by show cs + 0 ≤ 601024; omega), (by show sl + 0 ≤ 7293000; omega)⟩ (hK.sub [0, 1, 2, 3] rfl) (((h_kP).app h_kBL).app h_kSB) rfl rfl rfl hl.1 rfl (Nat.le_of_ble_eq_true rfl) d_LA_law_976 ?_
  refine lv_aload_n hx hb d_LA_law_979 rfl (lv_at hl 2 rfl) ?_
  have hi0 : ∀ p ∈ kMO cA cZ c2 cT cL s.heap.size M z, (s.heap.size + 69 ≤ p.1 ∧ p.1 < s.heap.size + 97) := in_kMO
  have hn0 : va_D (fun _ => True) (kMO cA cZ c2 cT cL s.heap.size M z) := nd_kMO
  refine zg_V (V := V5) (ci := 10) (q0 := 0) (As := []) (rest := [.int (zb (ovl P B.2.2.2))]) (n := 0) (wsC := kMO cA cZ c2 cT cL s.heap.size M z) (φ := fun v2 => v2.1 = M.1 21 ∧ v2.2.1 = M.1 22 ∧ v2.2.2.1 = M.2.1 23) (wv := fun v2 => kMO cA cZ c2 cT cL s.heap.size (mq (mS 0 0 M) v2) z) (rv := .int (zb (ovl P B.2.2.2))) ⟨hx, hb, hml, hown, hts⟩ (r_overlap l D _ (laM s.heap.size) cA cZ cL M z (vM M) B.2.2.2 B P h16 hGv.2.2.1.1 hGv.2.2.1.2.1 hG.2.2.1.2.2 hG.1.2.2.1 hG.1.2.2.2.1 hG.1.2.2.2.2.1) ⟨km_LA_120, ki_MO_overlap, ks_MO_overlap, kn_MO, kd_MO_overlap⟩ (by decide +kernel) (by decide) ⟨(by show cs + 0 ≤ 601024; omega), (by show sl + 0 ≤ 7293000; omega)⟩ (hK.sub [0, 1, 4] rfl) (h_kMO) hn0 hS (la_A hS (fun p hp => by have := hi0 p hp; omega)) rfl rfl rfl hl.1 rfl (Nat.le_of_ble_eq_true rfl) d_LA_law_980 (fun v2 H1 locs1 hph hP1 hz1 hf1 hS1 => ?_)
  have hq0 := hP1
  have h_kSB := hf1.far h_kSB in_kSB (fun p hp => by have := hi0 p hp; omega)
  have h_kBL := hf1.far h_kBL in_kBL (fun p hp => by have := hi0 p hp; omega)
  have h_kNE := hf1.far h_kNE in_kNE (fun p hp => by have := hi0 p hp; omega)
  have h_kP := hf1.far h_kP in_kP (fun p hp => by have := hi0 p hp; omega)
  have h_kSE := hf1.far h_kSE in_kSE (fun p hp => by have := hi0 p hp; omega)
  have h_kQ := hf1.far h_kQ in_kQ (fun p hp => by have := hi0 p hp; omega)
  have h_kDR := hf1.far h_kDR in_kDR (fun p hp => by have := hi0 p hp; omega)
  have h_kPI := hf1.far h_kPI in_kPI (fun p hp => by have := hi0 p hp; omega)
  have h_kOU := hf1.far h_kOU in_kOU (fun p hp => by have := hi0 p hp; omega)
  have h_kMO := hq0
  have hT := th_kept0 hT hO hf1 (fun p hp => by have := hi0 p hp; omega)
  have hS := hS1
  clear hf1 hS1 hP1 hn0 hi0
  refine lv_icmp_eq (tgt := 1221) hx hb d_LA_law_983 (by decide) (fun _ => ?_) (fun c9 => absurd rfl c9)
  exact kk _ _ _ _ ls (by omega) (by omega) hS ⟨tc, tf, B, P, Qp, N, ah, kw, z, nn, sd, cf, lf, cn, (mq (mS 0 0 M) v2), fo, bk, us, u, cap, wt, tB, ⟨h_kSB, h_kBL, h_kNE, h_kP, h_kSE, h_kQ, h_kDR, h_kPI, h_kMO, h_kOU⟩, hT, hO, RelG_ag hG (ag_q hph.1 hph.2.1 hph.2.2), RelT_ag hR (ag_q hph.1 hph.2.1 hph.2.2), hq⟩ (lv_sub hl [0, 1, 2, 3, 4] rfl)
set_option maxHeartbeats 4000000 in
set_option maxRecDepth 100000 in
/-- wire -/
theorem lc_wire {p : Program} {l : Launch} {e : Env} {s : State} {m : MethodId} {below : List Frame} {meth : Method} {c : Code} {b L : Nat} {xs : Nat → Int32} {D : va_G} {cA cZ c2 cT cL : ClassId} {Q : State → Prop} (C : lawC p l s m c b L xs D cA cZ c2 cT cL) {i cs sl : Nat} {H : Heap} {locs : List Loc} {ls : Array Slot} (hi : i + 6 ≤ L) (hcs : cs + 10 ≤ 601024) (hsl : sl + 200 ≤ 7293000) (hS : va_S (lA s) s.heap H locs) (hI : lawI D cA cZ c2 cT cL s.heap.size H) (hl : lv_has ls 8 [(0, .ref b), (1, .ref s.heap.size), (2, .ref (s.heap.size + 69)), (3, .ref (s.heap.size + 97)), (4, .int (nI i))]) (kk : ∀ (H1 : Heap) (locs1 : List Loc) (cs1 sl1 : Nat) (ls1 : Array Slot), cs1 ≤ cs + 10 → sl1 ≤ sl + 200 → va_S (lA s) s.heap H1 locs1 → lawI D cA cZ c2 cT cL s.heap.size H1 → lv_has ls1 8 [(0, .ref b), (1, .ref s.heap.size), (2, .ref (s.heap.size + 69)), (3, .ref (s.heap.size + 97)), (4, .int (nI i))] → W p l e room_1 s m #[Value.ref b] below meth c H1 locs1 cs1 sl1 Q (F0 m 1221 ls1 [])) : W p l e room_1 s m #[Value.ref b] below meth c H locs cs sl Q (F0 m 988 ls []) := by
  obtain ⟨hx, hb, hml, hown, hts, hX, hbl, hL, hK, htl, hF1, hF2⟩ := C
  have hbA : ¬ lA s b := fun h => by have h : s.heap.size ≤ b := h; omega
  obtain ⟨tc, tf, B, P, Qp, N, ah, kw, z, nn, sd, cf, lf, cn, M, fo, bk, us, u, cap, wt, tB, ⟨h_kSB, h_kBL, h_kNE, h_kP, h_kSE, h_kQ, h_kDR, h_kPI, h_kMO, h_kOU⟩, hT, hO, hG, hR, hq⟩ := hI
  have h40 : tc ≤ 40 := hR.2.1
  have h17 : M.2.2.1 17 = B.2.2.2 := hG.2.2.1.1.2.1
  have h16 : B.2.2.2 ≤ 16 := hG.1.1.1
  have hT : thA D cA bk us u cap tB tc tf s.heap.size H := hT
  have hGv := RelG_ag hG (ag_v M)
  refine lv_aload_n hx hb d_LA_law_988 rfl (lv_at hl 1 rfl) ?_
  refine zrM_V (ci := 0) (q0 := 19) (As := []) (rest := []) (n := 0) (wsC := ((kNE cA cZ c2 cT cL s.heap.size N) ++ (kP cA cZ c2 cT cL s.heap.size P)) ++ (kSB cA cZ c2 cT cL s.heap.size tc tf)) ⟨hx, hb, hml, hown, hts⟩ (c_SB_wire l D (fun k => s.heap.size + k) (fun k => s.heap.size + 2 + k) (fun k => s.heap.size + 11 + k) (fun k => s.heap.size + 15 + k) (fun k => s.heap.size + 30 + 16 * k) (laI s.heap.size) cA cZ c2 cT tc tf B.2.2.2 N P h16 hG.2.2.2.1 hG.1.2.2.2.1) ⟨km_LA_121, ki_SB_wire, ks_SB_wire, kn_SB, kd_SB_wire⟩ (by decide +kernel) (by decide) ⟨(by show cs + 0 ≤ 601024; omega), (by show sl + 0 ≤ 7293000; omega)⟩ (hK.sub [0, 1, 2, 3] rfl) (((h_kNE).app h_kP).app h_kSB) rfl rfl rfl hl.1 rfl (Nat.le_of_ble_eq_true rfl) d_LA_law_989 ?_
  refine lv_aload_n hx hb d_LA_law_992 rfl (lv_at hl 2 rfl) ?_
  have hi0 : ∀ p ∈ kMO cA cZ c2 cT cL s.heap.size M z, (s.heap.size + 69 ≤ p.1 ∧ p.1 < s.heap.size + 97) := in_kMO
  have hn0 : va_D (fun _ => True) (kMO cA cZ c2 cT cL s.heap.size M z) := nd_kMO
  refine zg_V (V := V5) (ci := 10) (q0 := 0) (As := []) (rest := [.long (lN (wrQ N P))]) (n := 0) (wsC := kMO cA cZ c2 cT cL s.heap.size M z) (φ := fun v2 => v2.1 = M.1 21 ∧ v2.2.1 = M.1 22 ∧ v2.2.2.1 = M.2.1 23) (wv := fun v2 => kMO cA cZ c2 cT cL s.heap.size (mq (mS 0 0 M) v2) z) (rv := .long (lN (wrQ N P))) ⟨hx, hb, hml, hown, hts⟩ (r_wire l D _ (laM s.heap.size) cA cZ cL M z (vM M) B.2.2.2 B N P h16 hGv.2.2.1.1 hGv.2.2.1.2.1 hG.2.2.1.2.2 hG.1.2.2.1 hG.1.2.2.2.1 hG.1.2.2.2.2.1 hG.2.2.2.1 hGv.2.2.2.2.1) ⟨km_LA_125, ki_MO_wire, ks_MO_wire, kn_MO, kd_MO_wire⟩ (by decide +kernel) (by decide) ⟨(by show cs + 0 ≤ 601024; omega), (by show sl + 0 ≤ 7293000; omega)⟩ (hK.sub [0, 1, 4] rfl) (h_kMO) hn0 hS (la_A hS (fun p hp => by have := hi0 p hp; omega)) rfl rfl rfl hl.1 rfl (Nat.le_of_ble_eq_true rfl) d_LA_law_993 (fun v2 H1 locs1 hph hP1 hz1 hf1 hS1 => ?_)
  have hq0 := hP1
  have h_kSB := hf1.far h_kSB in_kSB (fun p hp => by have := hi0 p hp; omega)
  have h_kBL := hf1.far h_kBL in_kBL (fun p hp => by have := hi0 p hp; omega)
  have h_kNE := hf1.far h_kNE in_kNE (fun p hp => by have := hi0 p hp; omega)
  have h_kP := hf1.far h_kP in_kP (fun p hp => by have := hi0 p hp; omega)
  have h_kSE := hf1.far h_kSE in_kSE (fun p hp => by have := hi0 p hp; omega)
  have h_kQ := hf1.far h_kQ in_kQ (fun p hp => by have := hi0 p hp; omega)
  have h_kDR := hf1.far h_kDR in_kDR (fun p hp => by have := hi0 p hp; omega)
  have h_kPI := hf1.far h_kPI in_kPI (fun p hp => by have := hi0 p hp; omega)
  have h_kOU := hf1.far h_kOU in_kOU (fun p hp => by have := hi0 p hp; omega)
  have h_kMO := hq0
  have hT := th_kept0 hT hO hf1 (fun p hp => by have := hi0 p hp; omega)
  have hS := hS1
  clear hf1 hS1 hP1 hn0 hi0
  refine y_leq (tgt := 1221) hx hb d_LA_law_996 d_LA_law_997 (by decide) (fun _ => ?_) (fun c9 => absurd rfl c9)
  exact kk _ _ _ _ ls (by omega) (by omega) hS ⟨tc, tf, B, P, Qp, N, ah, kw, z, nn, sd, cf, lf, cn, (mq (mS 0 0 M) v2), fo, bk, us, u, cap, wt, tB, ⟨h_kSB, h_kBL, h_kNE, h_kP, h_kSE, h_kQ, h_kDR, h_kPI, h_kMO, h_kOU⟩, hT, hO, RelG_ag hG (ag_q hph.1 hph.2.1 hph.2.2), RelT_ag hR (ag_q hph.1 hph.2.1 hph.2.2), hq⟩ (lv_sub hl [0, 1, 2, 3, 4] rfl)
set_option maxHeartbeats 4000000 in
set_option maxRecDepth 100000 in
/-- outline -/
theorem lc_outline {p : Program} {l : Launch} {e : Env} {s : State} {m : MethodId} {below : List Frame} {meth : Method} {c : Code} {b L : Nat} {xs : Nat → Int32} {D : va_G} {cA cZ c2 cT cL : ClassId} {Q : State → Prop} (C : lawC p l s m c b L xs D cA cZ c2 cT cL) {i cs sl : Nat} {H : Heap} {locs : List Loc} {ls : Array Slot} (hi : i + 6 ≤ L) (hcs : cs + 10 ≤ 601024) (hsl : sl + 200 ≤ 7293000) (hS : va_S (lA s) s.heap H locs) (hI : lawI D cA cZ c2 cT cL s.heap.size H) (hl : lv_has ls 8 [(0, .ref b), (1, .ref s.heap.size), (2, .ref (s.heap.size + 69)), (3, .ref (s.heap.size + 97)), (4, .int (nI i))]) (kk : ∀ (H1 : Heap) (locs1 : List Loc) (cs1 sl1 : Nat) (ls1 : Array Slot), cs1 ≤ cs + 10 → sl1 ≤ sl + 200 → va_S (lA s) s.heap H1 locs1 → lawI D cA cZ c2 cT cL s.heap.size H1 → lv_has ls1 8 [(0, .ref b), (1, .ref s.heap.size), (2, .ref (s.heap.size + 69)), (3, .ref (s.heap.size + 97)), (4, .int (nI i))] → W p l e room_1 s m #[Value.ref b] below meth c H1 locs1 cs1 sl1 Q (F0 m 1221 ls1 [])) : W p l e room_1 s m #[Value.ref b] below meth c H locs cs sl Q (F0 m 1082 ls []) := by
  obtain ⟨hx, hb, hml, hown, hts, hX, hbl, hL, hK, htl, hF1, hF2⟩ := C
  have hbA : ¬ lA s b := fun h => by have h : s.heap.size ≤ b := h; omega
  obtain ⟨tc, tf, B, P, Qp, N, ah, kw, z, nn, sd, cf, lf, cn, M, fo, bk, us, u, cap, wt, tB, ⟨h_kSB, h_kBL, h_kNE, h_kP, h_kSE, h_kQ, h_kDR, h_kPI, h_kMO, h_kOU⟩, hT, hO, hG, hR, hq⟩ := hI
  have h40 : tc ≤ 40 := hR.2.1
  have h17 : M.2.2.1 17 = B.2.2.2 := hG.2.2.1.1.2.1
  have h16 : B.2.2.2 ≤ 16 := hG.1.1.1
  have hT : thA D cA bk us u cap tB tc tf s.heap.size H := hT
  by_cases hw : lg (xs (i + 1)) (xs (i + 2)) < lN 1 ∨ lg (xs (i + 3)) (xs (i + 4)) < lN 1
  · refine lv_aload_n hx hb d_LA_law_1082 rfl (lv_at hl 1 rfl) ?_
    refine lv_aload_n hx hb d_LA_law_1083 rfl (lv_at hl 0 rfl) ?_
    refine lv_iload hx hb d_LA_law_1084 (lv_at hl 4 rfl) ?_
    refine lv_iconst (v := nI 1) hx hb d_LA_law_1086 (by decide) ?_
    refine z_add hx hb d_LA_law_1087 ?_
    refine va_sld hx hb hX hbl hbA hS (vp_in_nI (n := (i + 1)) (by omega) (by omega)) d_LA_law_1088 ?_
    refine lv_toi (z := xs (i + 1)) (congrArg xs (nI_clamp (by omega))) ?_
    refine lv_i2l (v := (xs (i + 1)).toInt64) hx hb d_LA_law_1089 rfl ?_
    refine lv_bipush (v := nI 32) hx hb d_LA_law_1090 (by decide) ?_
    refine lv_lshl (v := _ <<< ((nI 32).toInt64 &&& 63)) hx hb d_LA_law_1092 rfl ?_
    refine lv_aload_n hx hb d_LA_law_1093 rfl (lv_at hl 0 rfl) ?_
    refine lv_iload hx hb d_LA_law_1094 (lv_at hl 4 rfl) ?_
    refine lv_iconst (v := nI 2) hx hb d_LA_law_1096 (by decide) ?_
    refine z_add hx hb d_LA_law_1097 ?_
    refine va_sld hx hb hX hbl hbA hS (vp_in_nI (n := (i + 2)) (by omega) (by omega)) d_LA_law_1098 ?_
    refine lv_toi (z := xs (i + 2)) (congrArg xs (nI_clamp (by omega))) ?_
    refine lv_i2l (v := (xs (i + 2)).toInt64) hx hb d_LA_law_1099 rfl ?_
    refine lv_ldc2 hx hb hown (hts _ kL_LA_74) d_LA_law_1100 ?_
    refine lv_land hx hb d_LA_law_1103 ?_
    refine lv_lor hx hb d_LA_law_1104 ?_
    refine lv_tol (z := lg (xs (i + 1)) (xs (i + 2))) rfl ?_
    refine lv_aload_n hx hb d_LA_law_1105 rfl (lv_at hl 0 rfl) ?_
    refine lv_iload hx hb d_LA_law_1106 (lv_at hl 4 rfl) ?_
    refine lv_iconst (v := nI 3) hx hb d_LA_law_1108 (by decide) ?_
    refine z_add hx hb d_LA_law_1109 ?_
    refine va_sld hx hb hX hbl hbA hS (vp_in_nI (n := (i + 3)) (by omega) (by omega)) d_LA_law_1110 ?_
    refine lv_toi (z := xs (i + 3)) (congrArg xs (nI_clamp (by omega))) ?_
    refine lv_i2l (v := (xs (i + 3)).toInt64) hx hb d_LA_law_1111 rfl ?_
    refine lv_bipush (v := nI 32) hx hb d_LA_law_1112 (by decide) ?_
    refine lv_lshl (v := _ <<< ((nI 32).toInt64 &&& 63)) hx hb d_LA_law_1114 rfl ?_
    refine lv_aload_n hx hb d_LA_law_1115 rfl (lv_at hl 0 rfl) ?_
    refine lv_iload hx hb d_LA_law_1116 (lv_at hl 4 rfl) ?_
    refine lv_iconst (v := nI 4) hx hb d_LA_law_1118 (by decide) ?_
    refine z_add hx hb d_LA_law_1119 ?_
    refine va_sld hx hb hX hbl hbA hS (vp_in_nI (n := (i + 4)) (by omega) (by omega)) d_LA_law_1120 ?_
    refine lv_toi (z := xs (i + 4)) (congrArg xs (nI_clamp (by omega))) ?_
    refine lv_i2l (v := (xs (i + 4)).toInt64) hx hb d_LA_law_1121 rfl ?_
    refine lv_ldc2 hx hb hown (hts _ kL_LA_74) d_LA_law_1122 ?_
    refine lv_land hx hb d_LA_law_1125 ?_
    refine lv_lor hx hb d_LA_law_1126 ?_
    refine lv_tol (z := lg (xs (i + 3)) (xs (i + 4))) rfl ?_
    refine lv_aload_n hx hb d_LA_law_1127 rfl (lv_at hl 3 rfl) ?_
    have hi0 : ∀ p ∈ kSB cA cZ c2 cT cL s.heap.size tc tf, (s.heap.size + 0 ≤ p.1 ∧ p.1 < s.heap.size + 2) := in_kSB
    have hn0 : va_D (fun _ => True) (kSB cA cZ c2 cT cL s.heap.size tc tf) := nd_kSB
    refine zg_H (V := Unit) (F := zT2) (mc := 1) (ms := 6) (As := [.ref s.heap.size, .long (lg (xs (i + 1)) (xs (i + 2))), .long (lg (xs (i + 3)) (xs (i + 4))), .ref (s.heap.size + 97)]) (rest := []) (n := 4) (wsC := kSB cA cZ c2 cT cL s.heap.size tc tf) (φ := fun _ => True) (wv := fun _ => kSB cA cZ c2 cT cL s.heap.size tc tf) (rv := .int (nI 1)) zT2_ok ⟨hx, hb, hml, hown, hts⟩ (met_u (h_outline_x l D htl _ (fun k => s.heap.size + k) (fun k => s.heap.size + 2 + k) (fun k => s.heap.size + 11 + k) (fun k => s.heap.size + 15 + k) (fun k => s.heap.size + 30 + 16 * k) (laI s.heap.size) cA cZ c2 cT tc tf (s.heap.size + 97) (lg (xs (i + 1)) (xs (i + 2))) (lg (xs (i + 3)) (xs (i + 4))) hw)) ⟨km_LA_129, kst_LA_outline, kn_LA, kw_LA_outline⟩ (by decide +kernel) (by decide) ⟨(by show cs + 1 ≤ 601024; omega), (by show sl + 6 ≤ 7293000; omega)⟩ (hK.sub [0, 1, 2, 3] rfl) (h_kSB) hn0 hS (la_A hS (fun p hp => by have := hi0 p hp; omega)) hF2 rfl hl.1 rfl (Nat.le_of_ble_eq_true rfl) d_LA_law_1128 (fun _ H1 locs1 hph hP1 hz1 hf1 hS1 => ?_)
    have hq0 := hP1
    have h_kBL := hf1.far h_kBL in_kBL (fun p hp => by have := hi0 p hp; omega)
    have h_kNE := hf1.far h_kNE in_kNE (fun p hp => by have := hi0 p hp; omega)
    have h_kP := hf1.far h_kP in_kP (fun p hp => by have := hi0 p hp; omega)
    have h_kSE := hf1.far h_kSE in_kSE (fun p hp => by have := hi0 p hp; omega)
    have h_kQ := hf1.far h_kQ in_kQ (fun p hp => by have := hi0 p hp; omega)
    have h_kDR := hf1.far h_kDR in_kDR (fun p hp => by have := hi0 p hp; omega)
    have h_kPI := hf1.far h_kPI in_kPI (fun p hp => by have := hi0 p hp; omega)
    have h_kMO := hf1.far h_kMO in_kMO (fun p hp => by have := hi0 p hp; omega)
    have h_kOU := hf1.far h_kOU in_kOU (fun p hp => by have := hi0 p hp; omega)
    have h_kSB := hq0
    have hT := th_kept0 hT hO hf1 (fun p hp => by have := hi0 p hp; omega)
    have hS := hS1
    clear hf1 hS1 hP1 hn0 hi0
    refine lv_istore (lv' := [(5, .int (nI 1)), (0, .ref b), (1, .ref s.heap.size), (2, .ref (s.heap.size + 69)), (3, .ref (s.heap.size + 97)), (4, .int (nI i))]) hx hb d_LA_law_1131 hl (by decide) rfl (fun ls hl => ?_)
    refine lv_aload_n hx hb d_LA_law_1133 rfl (lv_at hl 3 rfl) ?_
    refine lv_aload_n hx hb d_LA_law_1134 rfl (lv_at hl 1 rfl) ?_
    refine lv_iload hx hb d_LA_law_1135 (lv_at hl 5 rfl) ?_
    refine lv_iconst (v := nI 1) hx hb d_LA_law_1137 (by decide) ?_
    refine z_add hx hb d_LA_law_1138 ?_
    refine va_sld hx hb hX hbl hbA hS (vp_in_nI (n := (i + 1)) (by omega) (by omega)) d_LA_law_1139 ?_
    refine lv_toi (z := xs (i + 1)) (congrArg xs (nI_clamp (by omega))) ?_
    refine lv_i2l (v := (xs (i + 1)).toInt64) hx hb d_LA_law_1140 rfl ?_
    refine lv_bipush (v := nI 32) hx hb d_LA_law_1141 (by decide) ?_
    refine lv_lshl (v := _ <<< ((nI 32).toInt64 &&& 63)) hx hb d_LA_law_1143 rfl ?_
    refine lv_aload_n hx hb d_LA_law_1144 rfl (lv_at hl 1 rfl) ?_
    refine lv_iload hx hb d_LA_law_1145 (lv_at hl 5 rfl) ?_
    refine lv_iconst (v := nI 2) hx hb d_LA_law_1147 (by decide) ?_
    refine z_add hx hb d_LA_law_1148 ?_
    refine va_sld hx hb hX hbl hbA hS (vp_in_nI (n := (i + 2)) (by omega) (by omega)) d_LA_law_1149 ?_
    refine lv_toi (z := xs (i + 2)) (congrArg xs (nI_clamp (by omega))) ?_
    refine lv_i2l (v := (xs (i + 2)).toInt64) hx hb d_LA_law_1150 rfl ?_
    refine lv_ldc2 hx hb hown (hts _ kL_LA_74) d_LA_law_1151 ?_
    refine lv_land hx hb d_LA_law_1154 ?_
    refine lv_lor hx hb d_LA_law_1155 ?_
    refine lv_tol (z := lg (xs (i + 1)) (xs (i + 2))) rfl ?_
    refine lv_aload_n hx hb d_LA_law_1156 rfl (lv_at hl 1 rfl) ?_
    refine lv_iload hx hb d_LA_law_1157 (lv_at hl 5 rfl) ?_
    refine lv_iconst (v := nI 3) hx hb d_LA_law_1159 (by decide) ?_
    refine z_add hx hb d_LA_law_1160 ?_
    refine va_sld hx hb hX hbl hbA hS (vp_in_nI (n := (i + 3)) (by omega) (by omega)) d_LA_law_1161 ?_
    refine lv_toi (z := xs (i + 3)) (congrArg xs (nI_clamp (by omega))) ?_
    refine lv_i2l (v := (xs (i + 3)).toInt64) hx hb d_LA_law_1162 rfl ?_
    refine lv_bipush (v := nI 32) hx hb d_LA_law_1163 (by decide) ?_
    refine lv_lshl (v := _ <<< ((nI 32).toInt64 &&& 63)) hx hb d_LA_law_1165 rfl ?_
    refine lv_aload_n hx hb d_LA_law_1166 rfl (lv_at hl 1 rfl) ?_
    refine lv_iload hx hb d_LA_law_1167 (lv_at hl 5 rfl) ?_
    refine lv_iconst (v := nI 4) hx hb d_LA_law_1169 (by decide) ?_
    refine z_add hx hb d_LA_law_1170 ?_
    refine va_sld hx hb hX hbl hbA hS (vp_in_nI (n := (i + 4)) (by omega) (by omega)) d_LA_law_1171 ?_
    refine lv_toi (z := xs (i + 4)) (congrArg xs (nI_clamp (by omega))) ?_
    refine lv_i2l (v := (xs (i + 4)).toInt64) hx hb d_LA_law_1172 rfl ?_
    refine lv_ldc2 hx hb hown (hts _ kL_LA_74) d_LA_law_1173 ?_
    refine lv_land hx hb d_LA_law_1176 ?_
    refine lv_lor hx hb d_LA_law_1177 ?_
    refine lv_tol (z := lg (xs (i + 3)) (xs (i + 4))) rfl ?_
    have hi0 : ∀ p ∈ kMO cA cZ c2 cT cL s.heap.size M z, (s.heap.size + 69 ≤ p.1 ∧ p.1 < s.heap.size + 97) := in_kMO
    have hn0 : va_D (fun _ => True) (kMO cA cZ c2 cT cL s.heap.size M z) := nd_kMO
    refine zg_V (V := Unit) (ci := 10) (q0 := 0) (As := [.long (lg (xs (i + 1)) (xs (i + 2))), .long (lg (xs (i + 3)) (xs (i + 4)))]) (rest := []) (n := 2) (wsC := kMO cA cZ c2 cT cL s.heap.size M z) (φ := fun _ => True) (wv := fun _ => kMO cA cZ c2 cT cL s.heap.size (mS 0 1 M) z) (rv := .int (zb false)) ⟨hx, hb, hml, hown, hts⟩ (met_u (c_MO_outline_no l D _ (laM s.heap.size) cA cZ cL M z (lg (xs (i + 1)) (xs (i + 2))) (lg (xs (i + 3)) (xs (i + 4))) hw)) ⟨km_LA_132, ki_MO_outline, ks_MO_outline, kn_MO, kd_MO_outline⟩ (by decide +kernel) (by decide) ⟨(by show cs + 1 + 0 ≤ 601024; omega), (by show sl + 6 + 0 ≤ 7293000; omega)⟩ (hK.sub [0, 1, 4] rfl) (h_kMO) hn0 hS (la_A hS (fun p hp => by have := hi0 p hp; omega)) rfl rfl rfl hl.1 rfl (Nat.le_of_ble_eq_true rfl) d_LA_law_1178 (fun _ H1 locs1 hph hP1 hz1 hf1 hS1 => ?_)
    have hq0 := hP1
    have h_kSB := hf1.far h_kSB in_kSB (fun p hp => by have := hi0 p hp; omega)
    have h_kBL := hf1.far h_kBL in_kBL (fun p hp => by have := hi0 p hp; omega)
    have h_kNE := hf1.far h_kNE in_kNE (fun p hp => by have := hi0 p hp; omega)
    have h_kP := hf1.far h_kP in_kP (fun p hp => by have := hi0 p hp; omega)
    have h_kSE := hf1.far h_kSE in_kSE (fun p hp => by have := hi0 p hp; omega)
    have h_kQ := hf1.far h_kQ in_kQ (fun p hp => by have := hi0 p hp; omega)
    have h_kDR := hf1.far h_kDR in_kDR (fun p hp => by have := hi0 p hp; omega)
    have h_kPI := hf1.far h_kPI in_kPI (fun p hp => by have := hi0 p hp; omega)
    have h_kOU := hf1.far h_kOU in_kOU (fun p hp => by have := hi0 p hp; omega)
    have h_kMO := hq0
    have hT := th_kept0 hT hO hf1 (fun p hp => by have := hi0 p hp; omega)
    have hS := hS1
    clear hf1 hS1 hP1 hn0 hi0
    refine lv_istore (lv' := [(6, .int (zb false)), (5, .int (nI 1)), (0, .ref b), (1, .ref s.heap.size), (2, .ref (s.heap.size + 69)), (3, .ref (s.heap.size + 97)), (4, .int (nI i))]) hx hb d_LA_law_1181 hl (by decide) rfl (fun ls hl => ?_)
    refine lv_aload_n hx hb d_LA_law_1183 rfl (lv_at hl 4 rfl) ?_
    refine zrM_V (ci := 10) (q0 := 0) (As := []) (rest := []) (n := 0) (wsC := kMO cA cZ c2 cT cL s.heap.size (mS 0 1 M) z) ⟨hx, hb, hml, hown, hts⟩ (c_MO_thrown l D (laM s.heap.size) cA cZ cL (mS 0 1 M) z) ⟨km_LA_80, ki_MO_thrown, ks_MO_thrown, kn_MO, kd_MO_thrown⟩ (by decide +kernel) (by decide) ⟨(by show cs + 1 + 0 ≤ 601024; omega), (by show sl + 6 + 0 ≤ 7293000; omega)⟩ (hK.sub [0, 1, 4] rfl) h_kMO rfl rfl rfl hl.1 rfl (Nat.le_of_ble_eq_true rfl) d_LA_law_1184 ?_
    refine lv_toi (z := nI 1) rfl ?_
    refine lv_iload hx hb d_LA_law_1187 (lv_at hl 1 rfl) ?_
    refine z_ceq (tgt := 1194) hx hb d_LA_law_1189 (by decide) (by omega) (by omega) (fun _ => ?_) (fun h => absurd h (by omega))
    refine lv_iload hx hb d_LA_law_1194 (lv_at hl 1 rfl) ?_
    refine z_0ne (tgt := 1218) hx hb d_LA_law_1196 (by decide) (by omega) (fun _ => ?_) (fun h => absurd h (by omega))
    refine lv_goto (tgt := 1221) hx hb d_LA_law_1218 (by decide) ?_
    exact kk _ _ _ _ ls (by omega) (by omega) hS ⟨tc, tf, B, P, Qp, N, ah, kw, z, nn, sd, cf, lf, cn, (mS 0 1 M), fo, bk, us, u, cap, wt, tB, ⟨h_kSB, h_kBL, h_kNE, h_kP, h_kSE, h_kQ, h_kDR, h_kPI, h_kMO, h_kOU⟩, hT, hO, RelG_ag hG ⟨⟨rfl, rfl, rfl, rfl, rfl, rfl, rfl, rfl, rfl, rfl, rfl, rfl⟩, ⟨rfl, rfl, rfl, rfl⟩, rfl, rfl, rfl⟩, RelT_ag hR ⟨⟨rfl, rfl, rfl, rfl, rfl, rfl, rfl, rfl, rfl, rfl, rfl, rfl⟩, ⟨rfl, rfl, rfl, rfl⟩, rfl, rfl, rfl⟩, hq⟩ (lv_sub hl [2, 3, 4, 5, 6] rfl)
  · have hGv := RelG_ag hG (ag_v M)
    have h81 : P.1 8 0 ≤ 36000 := hG.1.2.2.2.1.1
    have h82 : P.1 8 1 ≤ 36000 := hG.1.2.2.2.1.2.1
    refine lv_aload_n hx hb d_LA_law_1082 rfl (lv_at hl 1 rfl) ?_
    refine lv_aload_n hx hb d_LA_law_1083 rfl (lv_at hl 0 rfl) ?_
    refine lv_iload hx hb d_LA_law_1084 (lv_at hl 4 rfl) ?_
    refine lv_iconst (v := nI 1) hx hb d_LA_law_1086 (by decide) ?_
    refine z_add hx hb d_LA_law_1087 ?_
    refine va_sld hx hb hX hbl hbA hS (vp_in_nI (n := (i + 1)) (by omega) (by omega)) d_LA_law_1088 ?_
    refine lv_toi (z := xs (i + 1)) (congrArg xs (nI_clamp (by omega))) ?_
    refine lv_i2l (v := (xs (i + 1)).toInt64) hx hb d_LA_law_1089 rfl ?_
    refine lv_bipush (v := nI 32) hx hb d_LA_law_1090 (by decide) ?_
    refine lv_lshl (v := _ <<< ((nI 32).toInt64 &&& 63)) hx hb d_LA_law_1092 rfl ?_
    refine lv_aload_n hx hb d_LA_law_1093 rfl (lv_at hl 0 rfl) ?_
    refine lv_iload hx hb d_LA_law_1094 (lv_at hl 4 rfl) ?_
    refine lv_iconst (v := nI 2) hx hb d_LA_law_1096 (by decide) ?_
    refine z_add hx hb d_LA_law_1097 ?_
    refine va_sld hx hb hX hbl hbA hS (vp_in_nI (n := (i + 2)) (by omega) (by omega)) d_LA_law_1098 ?_
    refine lv_toi (z := xs (i + 2)) (congrArg xs (nI_clamp (by omega))) ?_
    refine lv_i2l (v := (xs (i + 2)).toInt64) hx hb d_LA_law_1099 rfl ?_
    refine lv_ldc2 hx hb hown (hts _ kL_LA_74) d_LA_law_1100 ?_
    refine lv_land hx hb d_LA_law_1103 ?_
    refine lv_lor hx hb d_LA_law_1104 ?_
    refine lv_tol (z := lg (xs (i + 1)) (xs (i + 2))) rfl ?_
    refine lv_aload_n hx hb d_LA_law_1105 rfl (lv_at hl 0 rfl) ?_
    refine lv_iload hx hb d_LA_law_1106 (lv_at hl 4 rfl) ?_
    refine lv_iconst (v := nI 3) hx hb d_LA_law_1108 (by decide) ?_
    refine z_add hx hb d_LA_law_1109 ?_
    refine va_sld hx hb hX hbl hbA hS (vp_in_nI (n := (i + 3)) (by omega) (by omega)) d_LA_law_1110 ?_
    refine lv_toi (z := xs (i + 3)) (congrArg xs (nI_clamp (by omega))) ?_
    refine lv_i2l (v := (xs (i + 3)).toInt64) hx hb d_LA_law_1111 rfl ?_
    refine lv_bipush (v := nI 32) hx hb d_LA_law_1112 (by decide) ?_
    refine lv_lshl (v := _ <<< ((nI 32).toInt64 &&& 63)) hx hb d_LA_law_1114 rfl ?_
    refine lv_aload_n hx hb d_LA_law_1115 rfl (lv_at hl 0 rfl) ?_
    refine lv_iload hx hb d_LA_law_1116 (lv_at hl 4 rfl) ?_
    refine lv_iconst (v := nI 4) hx hb d_LA_law_1118 (by decide) ?_
    refine z_add hx hb d_LA_law_1119 ?_
    refine va_sld hx hb hX hbl hbA hS (vp_in_nI (n := (i + 4)) (by omega) (by omega)) d_LA_law_1120 ?_
    refine lv_toi (z := xs (i + 4)) (congrArg xs (nI_clamp (by omega))) ?_
    refine lv_i2l (v := (xs (i + 4)).toInt64) hx hb d_LA_law_1121 rfl ?_
    refine lv_ldc2 hx hb hown (hts _ kL_LA_74) d_LA_law_1122 ?_
    refine lv_land hx hb d_LA_law_1125 ?_
    refine lv_lor hx hb d_LA_law_1126 ?_
    refine lv_tol (z := lg (xs (i + 3)) (xs (i + 4))) rfl ?_
    refine lv_aload_n hx hb d_LA_law_1127 rfl (lv_at hl 3 rfl) ?_
    have hi0 : ∀ p ∈ kP cA cZ c2 cT cL s.heap.size P, (s.heap.size + 15 ≤ p.1 ∧ p.1 < s.heap.size + 30) := in_kP
    have hn0 : va_D (fun _ => True) (kP cA cZ c2 cT cL s.heap.size P) := nd_kP
    have hn1 : va_D (fun _ => True) ((kP cA cZ c2 cT cL s.heap.size P) ++ (kSB cA cZ c2 cT cL s.heap.size tc tf)) := nd_app hn0 nd_kSB (fun p hp q hq e9 => by have := hi0 p hp; have := in_kSB q hq; omega)
    have hi1 : ∀ p ∈ (kP cA cZ c2 cT cL s.heap.size P) ++ (kSB cA cZ c2 cT cL s.heap.size tc tf), (s.heap.size + 15 ≤ p.1 ∧ p.1 < s.heap.size + 30) ∨ (s.heap.size + 0 ≤ p.1 ∧ p.1 < s.heap.size + 2) := fun p hp => (List.mem_append.mp hp).elim (fun h => by have := hi0 p h; omega) (fun h => by have := in_kSB p h; omega)
    have hn2 : va_D (fun _ => True) (((kP cA cZ c2 cT cL s.heap.size P) ++ (kSB cA cZ c2 cT cL s.heap.size tc tf)) ++ (kOU cA cZ c2 cT cL s.heap.size fo)) := nd_app hn1 nd_kOU (fun p hp q hq e9 => by have := hi1 p hp; have := in_kOU q hq; omega)
    have hi2 : ∀ p ∈ ((kP cA cZ c2 cT cL s.heap.size P) ++ (kSB cA cZ c2 cT cL s.heap.size tc tf)) ++ (kOU cA cZ c2 cT cL s.heap.size fo), (s.heap.size + 15 ≤ p.1 ∧ p.1 < s.heap.size + 30) ∨ (s.heap.size + 0 ≤ p.1 ∧ p.1 < s.heap.size + 2) ∨ (s.heap.size + 97 ≤ p.1 ∧ p.1 < s.heap.size + 98) := fun p hp => (List.mem_append.mp hp).elim (fun h => by have := hi1 p h; omega) (fun h => by have := in_kOU p h; omega)
    refine zg_H (V := Unit) (F := zF0) (mc := 0) (ms := 0) (As := [.ref s.heap.size, .long (lg (xs (i + 1)) (xs (i + 2))), .long (lg (xs (i + 3)) (xs (i + 4))), .ref (s.heap.size + 97)]) (rest := []) (n := 4) (wsC := ((kP cA cZ c2 cT cL s.heap.size P) ++ (kSB cA cZ c2 cT cL s.heap.size tc tf)) ++ (kOU cA cZ c2 cT cL s.heap.size fo)) (φ := fun _ => True) (wv := fun _ => ((kP cA cZ c2 cT cL s.heap.size P) ++ (kSB cA cZ c2 cT cL s.heap.size tc tf)) ++ (kOU cA cZ c2 cT cL s.heap.size (o1 fo (bL (decide (lN (P.1 8 0) ≤ lg (xs (i + 1)) (xs (i + 2))) && decide (lN (P.1 8 1) ≤ lg (xs (i + 3)) (xs (i + 4)))))))) (rv := .int (nI 0)) zF0_ok ⟨hx, hb, hml, hown, hts⟩ (met_u (met_f (h_outline l D _ (fun k => s.heap.size + k) (fun k => s.heap.size + 2 + k) (fun k => s.heap.size + 11 + k) (fun k => s.heap.size + 15 + k) (fun k => s.heap.size + 30 + 16 * k) (laI s.heap.size) cA cZ c2 cT tc tf (s.heap.size + 97) cL fo P (lg (xs (i + 1)) (xs (i + 2))) (lg (xs (i + 3)) (xs (i + 4))) (by omega) (by omega) (fun h => hw (Or.inl h)) (fun h => hw (Or.inr h))))) ⟨km_LA_129, kst_LA_outline, kn_LA, kw_LA_outline⟩ (by decide +kernel) (by decide) ⟨(by show cs + 0 ≤ 601024; omega), (by show sl + 0 ≤ 7293000; omega)⟩ (hK.sub [0, 1, 2, 3, 4] rfl) (((h_kP).app h_kSB).app h_kOU) hn2 hS (la_A hS (fun p hp => by have := hi2 p hp; omega)) trivial rfl hl.1 rfl (Nat.le_of_ble_eq_true rfl) d_LA_law_1128 (fun _ H1 locs1 hph hP1 hz1 hf1 hS1 => ?_)
    have hq2 := va_P.right hP1
    have hr2 := va_P.left hP1
    have hq1 := va_P.right hr2
    have hr1 := va_P.left hr2
    have hq0 := hr1
    have h_kBL := hf1.far h_kBL in_kBL (fun p hp => by have := hi2 p hp; omega)
    have h_kNE := hf1.far h_kNE in_kNE (fun p hp => by have := hi2 p hp; omega)
    have h_kSE := hf1.far h_kSE in_kSE (fun p hp => by have := hi2 p hp; omega)
    have h_kQ := hf1.far h_kQ in_kQ (fun p hp => by have := hi2 p hp; omega)
    have h_kDR := hf1.far h_kDR in_kDR (fun p hp => by have := hi2 p hp; omega)
    have h_kPI := hf1.far h_kPI in_kPI (fun p hp => by have := hi2 p hp; omega)
    have h_kMO := hf1.far h_kMO in_kMO (fun p hp => by have := hi2 p hp; omega)
    have h_kP := hq0
    have h_kSB := hq1
    have h_kOU := hq2
    have hT := th_kept0 hT hO hf1 (fun p hp => by have := hi2 p hp; omega)
    have hS := hS1
    clear hf1 hS1 hP1 hn0 hi0 hn1 hi1 hn2 hi2
    refine lv_istore (lv' := [(5, .int (nI 0)), (0, .ref b), (1, .ref s.heap.size), (2, .ref (s.heap.size + 69)), (3, .ref (s.heap.size + 97)), (4, .int (nI i))]) hx hb d_LA_law_1131 hl (by decide) rfl (fun ls hl => ?_)
    refine lv_aload_n hx hb d_LA_law_1133 rfl (lv_at hl 3 rfl) ?_
    refine lv_aload_n hx hb d_LA_law_1134 rfl (lv_at hl 1 rfl) ?_
    refine lv_iload hx hb d_LA_law_1135 (lv_at hl 5 rfl) ?_
    refine lv_iconst (v := nI 1) hx hb d_LA_law_1137 (by decide) ?_
    refine z_add hx hb d_LA_law_1138 ?_
    refine va_sld hx hb hX hbl hbA hS (vp_in_nI (n := (i + 1)) (by omega) (by omega)) d_LA_law_1139 ?_
    refine lv_toi (z := xs (i + 1)) (congrArg xs (nI_clamp (by omega))) ?_
    refine lv_i2l (v := (xs (i + 1)).toInt64) hx hb d_LA_law_1140 rfl ?_
    refine lv_bipush (v := nI 32) hx hb d_LA_law_1141 (by decide) ?_
    refine lv_lshl (v := _ <<< ((nI 32).toInt64 &&& 63)) hx hb d_LA_law_1143 rfl ?_
    refine lv_aload_n hx hb d_LA_law_1144 rfl (lv_at hl 1 rfl) ?_
    refine lv_iload hx hb d_LA_law_1145 (lv_at hl 5 rfl) ?_
    refine lv_iconst (v := nI 2) hx hb d_LA_law_1147 (by decide) ?_
    refine z_add hx hb d_LA_law_1148 ?_
    refine va_sld hx hb hX hbl hbA hS (vp_in_nI (n := (i + 2)) (by omega) (by omega)) d_LA_law_1149 ?_
    refine lv_toi (z := xs (i + 2)) (congrArg xs (nI_clamp (by omega))) ?_
    refine lv_i2l (v := (xs (i + 2)).toInt64) hx hb d_LA_law_1150 rfl ?_
    refine lv_ldc2 hx hb hown (hts _ kL_LA_74) d_LA_law_1151 ?_
    refine lv_land hx hb d_LA_law_1154 ?_
    refine lv_lor hx hb d_LA_law_1155 ?_
    refine lv_tol (z := lg (xs (i + 1)) (xs (i + 2))) rfl ?_
    refine lv_aload_n hx hb d_LA_law_1156 rfl (lv_at hl 1 rfl) ?_
    refine lv_iload hx hb d_LA_law_1157 (lv_at hl 5 rfl) ?_
    refine lv_iconst (v := nI 3) hx hb d_LA_law_1159 (by decide) ?_
    refine z_add hx hb d_LA_law_1160 ?_
    refine va_sld hx hb hX hbl hbA hS (vp_in_nI (n := (i + 3)) (by omega) (by omega)) d_LA_law_1161 ?_
    refine lv_toi (z := xs (i + 3)) (congrArg xs (nI_clamp (by omega))) ?_
    refine lv_i2l (v := (xs (i + 3)).toInt64) hx hb d_LA_law_1162 rfl ?_
    refine lv_bipush (v := nI 32) hx hb d_LA_law_1163 (by decide) ?_
    refine lv_lshl (v := _ <<< ((nI 32).toInt64 &&& 63)) hx hb d_LA_law_1165 rfl ?_
    refine lv_aload_n hx hb d_LA_law_1166 rfl (lv_at hl 1 rfl) ?_
    refine lv_iload hx hb d_LA_law_1167 (lv_at hl 5 rfl) ?_
    refine lv_iconst (v := nI 4) hx hb d_LA_law_1169 (by decide) ?_
    refine z_add hx hb d_LA_law_1170 ?_
    refine va_sld hx hb hX hbl hbA hS (vp_in_nI (n := (i + 4)) (by omega) (by omega)) d_LA_law_1171 ?_
    refine lv_toi (z := xs (i + 4)) (congrArg xs (nI_clamp (by omega))) ?_
    refine lv_i2l (v := (xs (i + 4)).toInt64) hx hb d_LA_law_1172 rfl ?_
    refine lv_ldc2 hx hb hown (hts _ kL_LA_74) d_LA_law_1173 ?_
    refine lv_land hx hb d_LA_law_1176 ?_
    refine lv_lor hx hb d_LA_law_1177 ?_
    refine lv_tol (z := lg (xs (i + 3)) (xs (i + 4))) rfl ?_
    have hi0 : ∀ p ∈ kMO cA cZ c2 cT cL s.heap.size M z, (s.heap.size + 69 ≤ p.1 ∧ p.1 < s.heap.size + 97) := in_kMO
    have hn0 : va_D (fun _ => True) (kMO cA cZ c2 cT cL s.heap.size M z) := nd_kMO
    refine zg_V (V := V5) (ci := 10) (q0 := 0) (As := [.long (lg (xs (i + 1)) (xs (i + 2))), .long (lg (xs (i + 3)) (xs (i + 4)))]) (rest := []) (n := 2) (wsC := kMO cA cZ c2 cT cL s.heap.size M z) (φ := fun v2 => v2.1 = M.1 21 ∧ v2.2.1 = M.1 22 ∧ v2.2.2.1 = M.2.1 23) (wv := fun v2 => kMO cA cZ c2 cT cL s.heap.size (mq (mS 0 0 M) v2) z) (rv := .int (zb (decide (lN (P.1 8 0) ≤ lg (xs (i + 1)) (xs (i + 2))) && decide (lN (P.1 8 1) ≤ lg (xs (i + 3)) (xs (i + 4)))))) ⟨hx, hb, hml, hown, hts⟩ (r_outline l D _ (laM s.heap.size) cA cZ cL M z (vM M) B.2.2.2 B P (lg (xs (i + 1)) (xs (i + 2))) (lg (xs (i + 3)) (xs (i + 4))) h16 hGv.2.2.1.1 hGv.2.2.1.2.1 hG.2.2.1.2.2 hG.1.2.2.1 hG.1.2.2.2.1 hG.1.2.2.2.2.1 (fun h => hw (Or.inl h)) (fun h => hw (Or.inr h))) ⟨km_LA_132, ki_MO_outline, ks_MO_outline, kn_MO, kd_MO_outline⟩ (by decide +kernel) (by decide) ⟨(by show cs + 0 ≤ 601024; omega), (by show sl + 0 ≤ 7293000; omega)⟩ (hK.sub [0, 1, 4] rfl) (h_kMO) hn0 hS (la_A hS (fun p hp => by have := hi0 p hp; omega)) rfl rfl rfl hl.1 rfl (Nat.le_of_ble_eq_true rfl) d_LA_law_1178 (fun v2 H1 locs1 hph hP1 hz1 hf1 hS1 => ?_)
    have hq0 := hP1
    have h_kSB := hf1.far h_kSB in_kSB (fun p hp => by have := hi0 p hp; omega)
    have h_kBL := hf1.far h_kBL in_kBL (fun p hp => by have := hi0 p hp; omega)
    have h_kNE := hf1.far h_kNE in_kNE (fun p hp => by have := hi0 p hp; omega)
    have h_kP := hf1.far h_kP in_kP (fun p hp => by have := hi0 p hp; omega)
    have h_kSE := hf1.far h_kSE in_kSE (fun p hp => by have := hi0 p hp; omega)
    have h_kQ := hf1.far h_kQ in_kQ (fun p hp => by have := hi0 p hp; omega)
    have h_kDR := hf1.far h_kDR in_kDR (fun p hp => by have := hi0 p hp; omega)
    have h_kPI := hf1.far h_kPI in_kPI (fun p hp => by have := hi0 p hp; omega)
    have h_kOU := hf1.far h_kOU in_kOU (fun p hp => by have := hi0 p hp; omega)
    have h_kMO := hq0
    have hT := th_kept0 hT hO hf1 (fun p hp => by have := hi0 p hp; omega)
    have hS := hS1
    clear hf1 hS1 hP1 hn0 hi0
    refine lv_istore (lv' := [(6, .int (zb (decide (lN (P.1 8 0) ≤ lg (xs (i + 1)) (xs (i + 2))) && decide (lN (P.1 8 1) ≤ lg (xs (i + 3)) (xs (i + 4)))))), (5, .int (nI 0)), (0, .ref b), (1, .ref s.heap.size), (2, .ref (s.heap.size + 69)), (3, .ref (s.heap.size + 97)), (4, .int (nI i))]) hx hb d_LA_law_1181 hl (by decide) rfl (fun ls hl => ?_)
    refine lv_aload_n hx hb d_LA_law_1183 rfl (lv_at hl 4 rfl) ?_
    refine zrM_V (ci := 10) (q0 := 0) (As := []) (rest := []) (n := 0) (wsC := kMO cA cZ c2 cT cL s.heap.size (mq (mS 0 0 M) v2) z) ⟨hx, hb, hml, hown, hts⟩ (c_MO_thrown l D (laM s.heap.size) cA cZ cL (mq (mS 0 0 M) v2) z) ⟨km_LA_80, ki_MO_thrown, ks_MO_thrown, kn_MO, kd_MO_thrown⟩ (by decide +kernel) (by decide) ⟨(by show cs + 0 ≤ 601024; omega), (by show sl + 0 ≤ 7293000; omega)⟩ (hK.sub [0, 1, 4] rfl) h_kMO rfl rfl rfl hl.1 rfl (Nat.le_of_ble_eq_true rfl) d_LA_law_1184 ?_
    refine lv_toi (z := nI 0) rfl ?_
    refine lv_iload hx hb d_LA_law_1187 (lv_at hl 1 rfl) ?_
    refine z_ceq (tgt := 1194) hx hb d_LA_law_1189 (by decide) (by omega) (by omega) (fun _ => ?_) (fun h => absurd h (by omega))
    refine lv_iload hx hb d_LA_law_1194 (lv_at hl 1 rfl) ?_
    refine z_0ne (tgt := 1218) hx hb d_LA_law_1196 (by decide) (by omega) (fun h => absurd h (by omega)) (fun _ => ?_)
    refine lv_aload_n hx hb d_LA_law_1199 rfl (lv_at hl 5 rfl) ?_
    refine lv_iconst (v := nI 0) hx hb d_LA_law_1200 (by decide) ?_
    refine va_lald hx hb hK h_kOU 0 4 rfl rfl (vp_in_nI (n := 0) (by decide) (by decide)) d_LA_law_1201 ?_
    refine lv_tol (z := bL (decide (lN (P.1 8 0) ≤ lg (xs (i + 1)) (xs (i + 2))) && decide (lN (P.1 8 1) ≤ lg (xs (i + 3)) (xs (i + 4))))) rfl ?_
    refine lv_iload hx hb d_LA_law_1202 (lv_at hl 0 rfl) ?_
    refine zb_ans hx hb d_LA_law_1204 (by decide) d_LA_law_1207 d_LA_law_1208 (by decide) d_LA_law_1211 ?_
    refine y_leq (tgt := 1218) hx hb d_LA_law_1212 d_LA_law_1213 (by decide) (fun _ => ?_) (fun c9 => absurd rfl c9)
    refine lv_goto (tgt := 1221) hx hb d_LA_law_1218 (by decide) ?_
    exact kk _ _ _ _ ls (by omega) (by omega) hS ⟨tc, tf, B, P, Qp, N, ah, kw, z, nn, sd, cf, lf, cn, (mq (mS 0 0 M) v2), (o1 fo (bL (decide (lN (P.1 8 0) ≤ lg (xs (i + 1)) (xs (i + 2))) && decide (lN (P.1 8 1) ≤ lg (xs (i + 3)) (xs (i + 4)))))), bk, us, u, cap, wt, tB, ⟨h_kSB, h_kBL, h_kNE, h_kP, h_kSE, h_kQ, h_kDR, h_kPI, h_kMO, h_kOU⟩, hT, hO, RelG_ag hG (ag_q hph.1 hph.2.1 hph.2.2), RelT_ag hR (ag_q hph.1 hph.2.1 hph.2.2), hq⟩ (lv_sub hl [2, 3, 4, 5, 6] rfl)
set_option maxHeartbeats 4000000 in
set_option maxRecDepth 100000 in
/-- pair -/
theorem lc_pair {p : Program} {l : Launch} {e : Env} {s : State} {m : MethodId} {below : List Frame} {meth : Method} {c : Code} {b L : Nat} {xs : Nat → Int32} {D : va_G} {cA cZ c2 cT cL : ClassId} {Q : State → Prop} (C : lawC p l s m c b L xs D cA cZ c2 cT cL) {i cs sl : Nat} {H : Heap} {locs : List Loc} {ls : Array Slot} (hi : i + 6 ≤ L) (hcs : cs + 10 ≤ 601024) (hsl : sl + 200 ≤ 7293000) (hS : va_S (lA s) s.heap H locs) (hI : lawI D cA cZ c2 cT cL s.heap.size H) (hl : lv_has ls 8 [(0, .ref b), (1, .ref s.heap.size), (2, .ref (s.heap.size + 69)), (3, .ref (s.heap.size + 97)), (4, .int (nI i))]) (kk : ∀ (H1 : Heap) (locs1 : List Loc) (cs1 sl1 : Nat) (ls1 : Array Slot), cs1 ≤ cs + 10 → sl1 ≤ sl + 200 → va_S (lA s) s.heap H1 locs1 → lawI D cA cZ c2 cT cL s.heap.size H1 → lv_has ls1 8 [(0, .ref b), (1, .ref s.heap.size), (2, .ref (s.heap.size + 69)), (3, .ref (s.heap.size + 97)), (4, .int (nI i))] → W p l e room_1 s m #[Value.ref b] below meth c H1 locs1 cs1 sl1 Q (F0 m 1221 ls1 [])) : W p l e room_1 s m #[Value.ref b] below meth c H locs cs sl Q (F0 m 789 ls []) := by
  obtain ⟨hx, hb, hml, hown, hts, hX, hbl, hL, hK, htl, hF1, hF2⟩ := C
  have hbA : ¬ lA s b := fun h => by have h : s.heap.size ≤ b := h; omega
  obtain ⟨tc, tf, B, P, Qp, N, ah, kw, z, nn, sd, cf, lf, cn, M, fo, bk, us, u, cap, wt, tB, ⟨h_kSB, h_kBL, h_kNE, h_kP, h_kSE, h_kQ, h_kDR, h_kPI, h_kMO, h_kOU⟩, hT, hO, hG, hR, hq⟩ := hI
  have h40 : tc ≤ 40 := hR.2.1
  have h17 : M.2.2.1 17 = B.2.2.2 := hG.2.2.1.1.2.1
  have h16 : B.2.2.2 ≤ 16 := hG.1.1.1
  have hT : thA D cA bk us u cap tB tc tf s.heap.size H := hT
  by_cases hw : xs (i + 1) < 0 ∨ 2000 < xs (i + 1)
  · refine lv_aload_n hx hb d_LA_law_789 rfl (lv_at hl 1 rfl) ?_
    refine lv_aload_n hx hb d_LA_law_790 rfl (lv_at hl 0 rfl) ?_
    refine lv_iload hx hb d_LA_law_791 (lv_at hl 4 rfl) ?_
    refine lv_iconst (v := nI 1) hx hb d_LA_law_793 (by decide) ?_
    refine z_add hx hb d_LA_law_794 ?_
    refine va_sld hx hb hX hbl hbA hS (vp_in_nI (n := (i + 1)) (by omega) (by omega)) d_LA_law_795 ?_
    refine lv_toi (z := xs (i + 1)) (congrArg xs (nI_clamp (by omega))) ?_
    refine lv_aload_n hx hb d_LA_law_796 rfl (lv_at hl 3 rfl) ?_
    have hi0 : ∀ p ∈ kSB cA cZ c2 cT cL s.heap.size tc tf, (s.heap.size + 0 ≤ p.1 ∧ p.1 < s.heap.size + 2) := in_kSB
    have hn0 : va_D (fun _ => True) (kSB cA cZ c2 cT cL s.heap.size tc tf) := nd_kSB
    refine zg_H (V := Unit) (F := zT2) (mc := 1) (ms := 6) (As := [.ref s.heap.size, .int (xs (i + 1)), .ref (s.heap.size + 97)]) (rest := []) (n := 3) (wsC := kSB cA cZ c2 cT cL s.heap.size tc tf) (φ := fun _ => True) (wv := fun _ => kSB cA cZ c2 cT cL s.heap.size tc tf) (rv := .int (nI 1)) zT2_ok ⟨hx, hb, hml, hown, hts⟩ (met_u (h_pair_x l D htl _ (fun k => s.heap.size + k) (fun k => s.heap.size + 2 + k) (fun k => s.heap.size + 11 + k) (fun k => s.heap.size + 15 + k) (fun k => s.heap.size + 30 + 16 * k) (laI s.heap.size) cA cZ c2 cT tc tf (s.heap.size + 97) (xs (i + 1)) hw)) ⟨km_LA_107, kst_LA_pair, kn_LA, kw_LA_pair⟩ (by decide +kernel) (by decide) ⟨(by show cs + 1 ≤ 601024; omega), (by show sl + 6 ≤ 7293000; omega)⟩ (hK.sub [0, 1, 2, 3] rfl) (h_kSB) hn0 hS (la_A hS (fun p hp => by have := hi0 p hp; omega)) hF2 rfl hl.1 rfl (Nat.le_of_ble_eq_true rfl) d_LA_law_797 (fun _ H1 locs1 hph hP1 hz1 hf1 hS1 => ?_)
    have hq0 := hP1
    have h_kBL := hf1.far h_kBL in_kBL (fun p hp => by have := hi0 p hp; omega)
    have h_kNE := hf1.far h_kNE in_kNE (fun p hp => by have := hi0 p hp; omega)
    have h_kP := hf1.far h_kP in_kP (fun p hp => by have := hi0 p hp; omega)
    have h_kSE := hf1.far h_kSE in_kSE (fun p hp => by have := hi0 p hp; omega)
    have h_kQ := hf1.far h_kQ in_kQ (fun p hp => by have := hi0 p hp; omega)
    have h_kDR := hf1.far h_kDR in_kDR (fun p hp => by have := hi0 p hp; omega)
    have h_kPI := hf1.far h_kPI in_kPI (fun p hp => by have := hi0 p hp; omega)
    have h_kMO := hf1.far h_kMO in_kMO (fun p hp => by have := hi0 p hp; omega)
    have h_kOU := hf1.far h_kOU in_kOU (fun p hp => by have := hi0 p hp; omega)
    have h_kSB := hq0
    have hT := th_kept0 hT hO hf1 (fun p hp => by have := hi0 p hp; omega)
    have hS := hS1
    clear hf1 hS1 hP1 hn0 hi0
    refine lv_istore (lv' := [(5, .int (nI 1)), (0, .ref b), (1, .ref s.heap.size), (2, .ref (s.heap.size + 69)), (3, .ref (s.heap.size + 97)), (4, .int (nI i))]) hx hb d_LA_law_800 hl (by decide) rfl (fun ls hl => ?_)
    refine lv_aload_n hx hb d_LA_law_802 rfl (lv_at hl 3 rfl) ?_
    refine lv_aload_n hx hb d_LA_law_803 rfl (lv_at hl 1 rfl) ?_
    refine lv_iload hx hb d_LA_law_804 (lv_at hl 5 rfl) ?_
    refine lv_iconst (v := nI 1) hx hb d_LA_law_806 (by decide) ?_
    refine z_add hx hb d_LA_law_807 ?_
    refine va_sld hx hb hX hbl hbA hS (vp_in_nI (n := (i + 1)) (by omega) (by omega)) d_LA_law_808 ?_
    refine lv_toi (z := xs (i + 1)) (congrArg xs (nI_clamp (by omega))) ?_
    have hi0 : ∀ p ∈ kMO cA cZ c2 cT cL s.heap.size M z, (s.heap.size + 69 ≤ p.1 ∧ p.1 < s.heap.size + 97) := in_kMO
    have hn0 : va_D (fun _ => True) (kMO cA cZ c2 cT cL s.heap.size M z) := nd_kMO
    refine zg_V (V := Unit) (ci := 10) (q0 := 0) (As := [.int (xs (i + 1))]) (rest := []) (n := 1) (wsC := kMO cA cZ c2 cT cL s.heap.size M z) (φ := fun _ => True) (wv := fun _ => kMO cA cZ c2 cT cL s.heap.size (mS 0 1 M) z) (rv := .int (nI 0)) ⟨hx, hb, hml, hown, hts⟩ (met_u (c_MO_pair_no l D _ (laM s.heap.size) cA cZ cL M z (xs (i + 1)) hw)) ⟨km_LA_109, ki_MO_pair, ks_MO_pair, kn_MO, kd_MO_pair⟩ (by decide +kernel) (by decide) ⟨(by show cs + 1 + 0 ≤ 601024; omega), (by show sl + 6 + 0 ≤ 7293000; omega)⟩ (hK.sub [0, 1, 4] rfl) (h_kMO) hn0 hS (la_A hS (fun p hp => by have := hi0 p hp; omega)) rfl rfl rfl hl.1 rfl (Nat.le_of_ble_eq_true rfl) d_LA_law_809 (fun _ H1 locs1 hph hP1 hz1 hf1 hS1 => ?_)
    have hq0 := hP1
    have h_kSB := hf1.far h_kSB in_kSB (fun p hp => by have := hi0 p hp; omega)
    have h_kBL := hf1.far h_kBL in_kBL (fun p hp => by have := hi0 p hp; omega)
    have h_kNE := hf1.far h_kNE in_kNE (fun p hp => by have := hi0 p hp; omega)
    have h_kP := hf1.far h_kP in_kP (fun p hp => by have := hi0 p hp; omega)
    have h_kSE := hf1.far h_kSE in_kSE (fun p hp => by have := hi0 p hp; omega)
    have h_kQ := hf1.far h_kQ in_kQ (fun p hp => by have := hi0 p hp; omega)
    have h_kDR := hf1.far h_kDR in_kDR (fun p hp => by have := hi0 p hp; omega)
    have h_kPI := hf1.far h_kPI in_kPI (fun p hp => by have := hi0 p hp; omega)
    have h_kOU := hf1.far h_kOU in_kOU (fun p hp => by have := hi0 p hp; omega)
    have h_kMO := hq0
    have hT := th_kept0 hT hO hf1 (fun p hp => by have := hi0 p hp; omega)
    have hS := hS1
    clear hf1 hS1 hP1 hn0 hi0
    refine lv_istore (lv' := [(6, .int (nI 0)), (5, .int (nI 1)), (0, .ref b), (1, .ref s.heap.size), (2, .ref (s.heap.size + 69)), (3, .ref (s.heap.size + 97)), (4, .int (nI i))]) hx hb d_LA_law_812 hl (by decide) rfl (fun ls hl => ?_)
    refine lv_aload_n hx hb d_LA_law_814 rfl (lv_at hl 4 rfl) ?_
    refine zrM_V (ci := 10) (q0 := 0) (As := []) (rest := []) (n := 0) (wsC := kMO cA cZ c2 cT cL s.heap.size (mS 0 1 M) z) ⟨hx, hb, hml, hown, hts⟩ (c_MO_thrown l D (laM s.heap.size) cA cZ cL (mS 0 1 M) z) ⟨km_LA_80, ki_MO_thrown, ks_MO_thrown, kn_MO, kd_MO_thrown⟩ (by decide +kernel) (by decide) ⟨(by show cs + 1 + 0 ≤ 601024; omega), (by show sl + 6 + 0 ≤ 7293000; omega)⟩ (hK.sub [0, 1, 4] rfl) h_kMO rfl rfl rfl hl.1 rfl (Nat.le_of_ble_eq_true rfl) d_LA_law_815 ?_
    refine lv_toi (z := nI 1) rfl ?_
    refine lv_iload hx hb d_LA_law_818 (lv_at hl 1 rfl) ?_
    refine z_ceq (tgt := 825) hx hb d_LA_law_820 (by decide) (by omega) (by omega) (fun _ => ?_) (fun h => absurd h (by omega))
    refine lv_iload hx hb d_LA_law_825 (lv_at hl 1 rfl) ?_
    refine z_0ne (tgt := 842) hx hb d_LA_law_827 (by decide) (by omega) (fun _ => ?_) (fun h => absurd h (by omega))
    refine lv_goto (tgt := 1221) hx hb d_LA_law_842 (by decide) ?_
    exact kk _ _ _ _ ls (by omega) (by omega) hS ⟨tc, tf, B, P, Qp, N, ah, kw, z, nn, sd, cf, lf, cn, (mS 0 1 M), fo, bk, us, u, cap, wt, tB, ⟨h_kSB, h_kBL, h_kNE, h_kP, h_kSE, h_kQ, h_kDR, h_kPI, h_kMO, h_kOU⟩, hT, hO, RelG_ag hG ⟨⟨rfl, rfl, rfl, rfl, rfl, rfl, rfl, rfl, rfl, rfl, rfl, rfl⟩, ⟨rfl, rfl, rfl, rfl⟩, rfl, rfl, rfl⟩, RelT_ag hR ⟨⟨rfl, rfl, rfl, rfl, rfl, rfl, rfl, rfl, rfl, rfl, rfl, rfl⟩, ⟨rfl, rfl, rfl, rfl⟩, rfl, rfl, rfl⟩, hq⟩ (lv_sub hl [2, 3, 4, 5, 6] rfl)
  · have hGv := RelG_ag hG (ag_v M)
    obtain ⟨tries, hj, hje⟩ := nI_rng (M := 2000) (k := 2000) (by decide) (by decide) (fun q => hw (Or.inl q)) (fun q => hw (Or.inr q))
    by_cases hzn : B.2.2.2 = 0
    · refine lv_aload_n hx hb d_LA_law_789 rfl (lv_at hl 1 rfl) ?_
      refine lv_aload_n hx hb d_LA_law_790 rfl (lv_at hl 0 rfl) ?_
      refine lv_iload hx hb d_LA_law_791 (lv_at hl 4 rfl) ?_
      refine lv_iconst (v := nI 1) hx hb d_LA_law_793 (by decide) ?_
      refine z_add hx hb d_LA_law_794 ?_
      refine va_sld hx hb hX hbl hbA hS (vp_in_nI (n := (i + 1)) (by omega) (by omega)) d_LA_law_795 ?_
      refine lv_toi (z := (nI tries)) ((congrArg xs (nI_clamp (by omega))).trans hje) ?_
      refine lv_aload_n hx hb d_LA_law_796 rfl (lv_at hl 3 rfl) ?_
      have har := ar_le hG.1.2.2.2.1
      have hi0 : ∀ p ∈ kSE cA cZ c2 cT cL s.heap.size ah kw, (s.heap.size + 30 ≤ p.1 ∧ p.1 < s.heap.size + 31) := in_kSE
      have hn0 : va_D (fun _ => True) (kSE cA cZ c2 cT cL s.heap.size ah kw) := nd_kSE
      have hn1 : va_D (fun _ => True) ((kSE cA cZ c2 cT cL s.heap.size ah kw) ++ (kP cA cZ c2 cT cL s.heap.size P)) := nd_app hn0 nd_kP (fun p hp q hq e9 => by have := hi0 p hp; have := in_kP q hq; omega)
      have hi1 : ∀ p ∈ (kSE cA cZ c2 cT cL s.heap.size ah kw) ++ (kP cA cZ c2 cT cL s.heap.size P), (s.heap.size + 30 ≤ p.1 ∧ p.1 < s.heap.size + 31) ∨ (s.heap.size + 15 ≤ p.1 ∧ p.1 < s.heap.size + 30) := fun p hp => (List.mem_append.mp hp).elim (fun h => by have := hi0 p h; omega) (fun h => by have := in_kP p h; omega)
      have hn2 : va_D (fun _ => True) (((kSE cA cZ c2 cT cL s.heap.size ah kw) ++ (kP cA cZ c2 cT cL s.heap.size P)) ++ (kQ cA cZ c2 cT cL s.heap.size Qp)) := nd_app hn1 nd_kQ (fun p hp q hq e9 => by have := hi1 p hp; have := in_kQ q hq; omega)
      have hi2 : ∀ p ∈ ((kSE cA cZ c2 cT cL s.heap.size ah kw) ++ (kP cA cZ c2 cT cL s.heap.size P)) ++ (kQ cA cZ c2 cT cL s.heap.size Qp), (s.heap.size + 30 ≤ p.1 ∧ p.1 < s.heap.size + 31) ∨ (s.heap.size + 15 ≤ p.1 ∧ p.1 < s.heap.size + 30) ∨ (s.heap.size + 31 ≤ p.1 ∧ p.1 < s.heap.size + 46) := fun p hp => (List.mem_append.mp hp).elim (fun h => by have := hi1 p h; omega) (fun h => by have := in_kQ p h; omega)
      have hn3 : va_D (fun _ => True) ((((kSE cA cZ c2 cT cL s.heap.size ah kw) ++ (kP cA cZ c2 cT cL s.heap.size P)) ++ (kQ cA cZ c2 cT cL s.heap.size Qp)) ++ (kNE cA cZ c2 cT cL s.heap.size N)) := nd_app hn2 nd_kNE (fun p hp q hq e9 => by have := hi2 p hp; have := in_kNE q hq; omega)
      have hi3 : ∀ p ∈ (((kSE cA cZ c2 cT cL s.heap.size ah kw) ++ (kP cA cZ c2 cT cL s.heap.size P)) ++ (kQ cA cZ c2 cT cL s.heap.size Qp)) ++ (kNE cA cZ c2 cT cL s.heap.size N), (s.heap.size + 30 ≤ p.1 ∧ p.1 < s.heap.size + 31) ∨ (s.heap.size + 15 ≤ p.1 ∧ p.1 < s.heap.size + 30) ∨ (s.heap.size + 31 ≤ p.1 ∧ p.1 < s.heap.size + 46) ∨ (s.heap.size + 11 ≤ p.1 ∧ p.1 < s.heap.size + 15) := fun p hp => (List.mem_append.mp hp).elim (fun h => by have := hi2 p h; omega) (fun h => by have := in_kNE p h; omega)
      have hn4 : va_D (fun _ => True) (((((kSE cA cZ c2 cT cL s.heap.size ah kw) ++ (kP cA cZ c2 cT cL s.heap.size P)) ++ (kQ cA cZ c2 cT cL s.heap.size Qp)) ++ (kNE cA cZ c2 cT cL s.heap.size N)) ++ (kBL cA cZ c2 cT cL s.heap.size B)) := nd_app hn3 nd_kBL (fun p hp q hq e9 => by have := hi3 p hp; have := in_kBL q hq; omega)
      have hi4 : ∀ p ∈ ((((kSE cA cZ c2 cT cL s.heap.size ah kw) ++ (kP cA cZ c2 cT cL s.heap.size P)) ++ (kQ cA cZ c2 cT cL s.heap.size Qp)) ++ (kNE cA cZ c2 cT cL s.heap.size N)) ++ (kBL cA cZ c2 cT cL s.heap.size B), (s.heap.size + 30 ≤ p.1 ∧ p.1 < s.heap.size + 31) ∨ (s.heap.size + 15 ≤ p.1 ∧ p.1 < s.heap.size + 30) ∨ (s.heap.size + 31 ≤ p.1 ∧ p.1 < s.heap.size + 46) ∨ (s.heap.size + 11 ≤ p.1 ∧ p.1 < s.heap.size + 15) ∨ (s.heap.size + 2 ≤ p.1 ∧ p.1 < s.heap.size + 11) := fun p hp => (List.mem_append.mp hp).elim (fun h => by have := hi3 p h; omega) (fun h => by have := in_kBL p h; omega)
      have hn5 : va_D (fun _ => True) ((((((kSE cA cZ c2 cT cL s.heap.size ah kw) ++ (kP cA cZ c2 cT cL s.heap.size P)) ++ (kQ cA cZ c2 cT cL s.heap.size Qp)) ++ (kNE cA cZ c2 cT cL s.heap.size N)) ++ (kBL cA cZ c2 cT cL s.heap.size B)) ++ (kDR cA cZ c2 cT cL s.heap.size z)) := nd_app hn4 nd_kDR (fun p hp q hq e9 => by have := hi4 p hp; have := in_kDR q hq; omega)
      have hi5 : ∀ p ∈ (((((kSE cA cZ c2 cT cL s.heap.size ah kw) ++ (kP cA cZ c2 cT cL s.heap.size P)) ++ (kQ cA cZ c2 cT cL s.heap.size Qp)) ++ (kNE cA cZ c2 cT cL s.heap.size N)) ++ (kBL cA cZ c2 cT cL s.heap.size B)) ++ (kDR cA cZ c2 cT cL s.heap.size z), (s.heap.size + 30 ≤ p.1 ∧ p.1 < s.heap.size + 31) ∨ (s.heap.size + 15 ≤ p.1 ∧ p.1 < s.heap.size + 30) ∨ (s.heap.size + 31 ≤ p.1 ∧ p.1 < s.heap.size + 46) ∨ (s.heap.size + 11 ≤ p.1 ∧ p.1 < s.heap.size + 15) ∨ (s.heap.size + 2 ≤ p.1 ∧ p.1 < s.heap.size + 11) ∨ (s.heap.size + 46 ≤ p.1 ∧ p.1 < s.heap.size + 47) := fun p hp => (List.mem_append.mp hp).elim (fun h => by have := hi4 p h; omega) (fun h => by have := in_kDR p h; omega)
      have hn6 : va_D (fun _ => True) (((((((kSE cA cZ c2 cT cL s.heap.size ah kw) ++ (kP cA cZ c2 cT cL s.heap.size P)) ++ (kQ cA cZ c2 cT cL s.heap.size Qp)) ++ (kNE cA cZ c2 cT cL s.heap.size N)) ++ (kBL cA cZ c2 cT cL s.heap.size B)) ++ (kDR cA cZ c2 cT cL s.heap.size z)) ++ (kSB cA cZ c2 cT cL s.heap.size tc tf)) := nd_app hn5 nd_kSB (fun p hp q hq e9 => by have := hi5 p hp; have := in_kSB q hq; omega)
      have hi6 : ∀ p ∈ ((((((kSE cA cZ c2 cT cL s.heap.size ah kw) ++ (kP cA cZ c2 cT cL s.heap.size P)) ++ (kQ cA cZ c2 cT cL s.heap.size Qp)) ++ (kNE cA cZ c2 cT cL s.heap.size N)) ++ (kBL cA cZ c2 cT cL s.heap.size B)) ++ (kDR cA cZ c2 cT cL s.heap.size z)) ++ (kSB cA cZ c2 cT cL s.heap.size tc tf), (s.heap.size + 30 ≤ p.1 ∧ p.1 < s.heap.size + 31) ∨ (s.heap.size + 15 ≤ p.1 ∧ p.1 < s.heap.size + 30) ∨ (s.heap.size + 31 ≤ p.1 ∧ p.1 < s.heap.size + 46) ∨ (s.heap.size + 11 ≤ p.1 ∧ p.1 < s.heap.size + 15) ∨ (s.heap.size + 2 ≤ p.1 ∧ p.1 < s.heap.size + 11) ∨ (s.heap.size + 46 ≤ p.1 ∧ p.1 < s.heap.size + 47) ∨ (s.heap.size + 0 ≤ p.1 ∧ p.1 < s.heap.size + 2) := fun p hp => (List.mem_append.mp hp).elim (fun h => by have := hi5 p h; omega) (fun h => by have := in_kSB p h; omega)
      have hn7 : va_D (fun _ => True) ((((((((kSE cA cZ c2 cT cL s.heap.size ah kw) ++ (kP cA cZ c2 cT cL s.heap.size P)) ++ (kQ cA cZ c2 cT cL s.heap.size Qp)) ++ (kNE cA cZ c2 cT cL s.heap.size N)) ++ (kBL cA cZ c2 cT cL s.heap.size B)) ++ (kDR cA cZ c2 cT cL s.heap.size z)) ++ (kSB cA cZ c2 cT cL s.heap.size tc tf)) ++ (kOU cA cZ c2 cT cL s.heap.size fo)) := nd_app hn6 nd_kOU (fun p hp q hq e9 => by have := hi6 p hp; have := in_kOU q hq; omega)
      have hi7 : ∀ p ∈ (((((((kSE cA cZ c2 cT cL s.heap.size ah kw) ++ (kP cA cZ c2 cT cL s.heap.size P)) ++ (kQ cA cZ c2 cT cL s.heap.size Qp)) ++ (kNE cA cZ c2 cT cL s.heap.size N)) ++ (kBL cA cZ c2 cT cL s.heap.size B)) ++ (kDR cA cZ c2 cT cL s.heap.size z)) ++ (kSB cA cZ c2 cT cL s.heap.size tc tf)) ++ (kOU cA cZ c2 cT cL s.heap.size fo), (s.heap.size + 30 ≤ p.1 ∧ p.1 < s.heap.size + 31) ∨ (s.heap.size + 15 ≤ p.1 ∧ p.1 < s.heap.size + 30) ∨ (s.heap.size + 31 ≤ p.1 ∧ p.1 < s.heap.size + 46) ∨ (s.heap.size + 11 ≤ p.1 ∧ p.1 < s.heap.size + 15) ∨ (s.heap.size + 2 ≤ p.1 ∧ p.1 < s.heap.size + 11) ∨ (s.heap.size + 46 ≤ p.1 ∧ p.1 < s.heap.size + 47) ∨ (s.heap.size + 0 ≤ p.1 ∧ p.1 < s.heap.size + 2) ∨ (s.heap.size + 97 ≤ p.1 ∧ p.1 < s.heap.size + 98) := fun p hp => (List.mem_append.mp hp).elim (fun h => by have := hi6 p h; omega) (fun h => by have := in_kOU p h; omega)
      refine zg_H (V := Unit) (F := zF0) (mc := 0) (ms := 0) (As := [.ref s.heap.size, .int (nI tries), .ref (s.heap.size + 97)]) (rest := []) (n := 3) (wsC := (((((((kSE cA cZ c2 cT cL s.heap.size ah kw) ++ (kP cA cZ c2 cT cL s.heap.size P)) ++ (kQ cA cZ c2 cT cL s.heap.size Qp)) ++ (kNE cA cZ c2 cT cL s.heap.size N)) ++ (kBL cA cZ c2 cT cL s.heap.size B)) ++ (kDR cA cZ c2 cT cL s.heap.size z)) ++ (kSB cA cZ c2 cT cL s.heap.size tc tf)) ++ (kOU cA cZ c2 cT cL s.heap.size fo)) (φ := fun _ => True) (wv := fun _ => (((((((kSE cA cZ c2 cT cL s.heap.size ah kw) ++ (kP cA cZ c2 cT cL s.heap.size P)) ++ (kQ cA cZ c2 cT cL s.heap.size Qp)) ++ (kNE cA cZ c2 cT cL s.heap.size N)) ++ (kBL cA cZ c2 cT cL s.heap.size B)) ++ (kDR cA cZ c2 cT cL s.heap.size z)) ++ (kSB cA cZ c2 cT cL s.heap.size tc tf)) ++ (kOU cA cZ c2 cT cL s.heap.size (o1 fo (lN (arQ P))))) (rv := .int (nI 0)) zF0_ok ⟨hx, hb, hml, hown, hts⟩ (met_u (met_f (h_pair0 l D _ (fun k => s.heap.size + k) (fun k => s.heap.size + 2 + k) (fun k => s.heap.size + 11 + k) (fun k => s.heap.size + 15 + k) (fun k => s.heap.size + 30 + 16 * k) (laI s.heap.size) (fun k => s.heap.size + 31 + k) cA cZ c2 cT tc tf B N P Qp ah kw tries z (s.heap.size + 97) cL fo hG.1.1 hG.2.2.2.1 hG.1.2.2.1 hG.1.2.2.2.1 hj hzn))) ⟨km_LA_107, kst_LA_pair, kn_LA, kw_LA_pair⟩ (by decide +kernel) (by decide) ⟨(by show cs + 0 ≤ 601024; omega), (by show sl + 0 ≤ 7293000; omega)⟩ (hK.sub [0, 1, 2, 3, 4] rfl) ((((((((h_kSE).app h_kP).app h_kQ).app h_kNE).app h_kBL).app h_kDR).app h_kSB).app h_kOU) hn7 hS (la_A hS (fun p hp => by have := hi7 p hp; omega)) trivial rfl hl.1 rfl (Nat.le_of_ble_eq_true rfl) d_LA_law_797 (fun _ H1 locs1 hph hP1 hz1 hf1 hS1 => ?_)
      have hq7 := va_P.right hP1
      have hr7 := va_P.left hP1
      have hq6 := va_P.right hr7
      have hr6 := va_P.left hr7
      have hq5 := va_P.right hr6
      have hr5 := va_P.left hr6
      have hq4 := va_P.right hr5
      have hr4 := va_P.left hr5
      have hq3 := va_P.right hr4
      have hr3 := va_P.left hr4
      have hq2 := va_P.right hr3
      have hr2 := va_P.left hr3
      have hq1 := va_P.right hr2
      have hr1 := va_P.left hr2
      have hq0 := hr1
      have h_kPI := hf1.far h_kPI in_kPI (fun p hp => by have := hi7 p hp; omega)
      have h_kMO := hf1.far h_kMO in_kMO (fun p hp => by have := hi7 p hp; omega)
      have h_kSE := hq0
      have h_kP := hq1
      have h_kQ := hq2
      have h_kNE := hq3
      have h_kBL := hq4
      have h_kDR := hq5
      have h_kSB := hq6
      have h_kOU := hq7
      have hT := th_kept0 hT hO hf1 (fun p hp => by have := hi7 p hp; omega)
      have hS := hS1
      clear hf1 hS1 hP1 hn0 hi0 hn1 hi1 hn2 hi2 hn3 hi3 hn4 hi4 hn5 hi5 hn6 hi6 hn7 hi7
      refine lv_istore (lv' := [(5, .int (nI 0)), (0, .ref b), (1, .ref s.heap.size), (2, .ref (s.heap.size + 69)), (3, .ref (s.heap.size + 97)), (4, .int (nI i))]) hx hb d_LA_law_800 hl (by decide) rfl (fun ls hl => ?_)
      refine lv_aload_n hx hb d_LA_law_802 rfl (lv_at hl 3 rfl) ?_
      refine lv_aload_n hx hb d_LA_law_803 rfl (lv_at hl 1 rfl) ?_
      refine lv_iload hx hb d_LA_law_804 (lv_at hl 5 rfl) ?_
      refine lv_iconst (v := nI 1) hx hb d_LA_law_806 (by decide) ?_
      refine z_add hx hb d_LA_law_807 ?_
      refine va_sld hx hb hX hbl hbA hS (vp_in_nI (n := (i + 1)) (by omega) (by omega)) d_LA_law_808 ?_
      refine lv_toi (z := (nI tries)) ((congrArg xs (nI_clamp (by omega))).trans hje) ?_
      have hi0 : ∀ p ∈ kMO cA cZ c2 cT cL s.heap.size M z, (s.heap.size + 69 ≤ p.1 ∧ p.1 < s.heap.size + 97) := in_kMO
      have hn0 : va_D (fun _ => True) (kMO cA cZ c2 cT cL s.heap.size M z) := nd_kMO
      refine zg_V (V := V5) (ci := 10) (q0 := 0) (As := [.int (nI tries)]) (rest := []) (n := 1) (wsC := kMO cA cZ c2 cT cL s.heap.size M z) (φ := fun v2 => RelP B.2.2.2 (P) (mq (mS 0 0 M) v2) 0 ∧ ∀ q, v2.1 q < 16 ∧ v2.2.1 q < 16) (wv := fun v2 => kMO cA cZ c2 cT cL s.heap.size (mq (mS 0 0 M) v2) z) (rv := .int (nI (arQ P))) ⟨hx, hb, hml, hown, hts⟩ (r_pair0 l D _ (laM s.heap.size) cA cZ cL M z (vM M) B.2.2.2 B N P Qp tries hG.1.1 hG.2.2.2.1 hGv.2.2.1.1 hGv.2.2.2.2.1 hGv.2.2.1.2.1 hG.2.2.1.2.2 hG.1.2.2.1 hG.1.2.2.2.1 hG.1.2.2.2.2.1 hj hzn) ⟨km_LA_109, ki_MO_pair, ks_MO_pair, kn_MO, kd_MO_pair⟩ (by decide +kernel) (by decide) ⟨(by show cs + 0 ≤ 601024; omega), (by show sl + 0 ≤ 7293000; omega)⟩ (hK.sub [0, 1, 4] rfl) (h_kMO) hn0 hS (la_A hS (fun p hp => by have := hi0 p hp; omega)) rfl rfl rfl hl.1 rfl (Nat.le_of_ble_eq_true rfl) d_LA_law_809 (fun v2 H1 locs1 hph hP1 hz1 hf1 hS1 => ?_)
      have hq0 := hP1
      have h_kSB := hf1.far h_kSB in_kSB (fun p hp => by have := hi0 p hp; omega)
      have h_kBL := hf1.far h_kBL in_kBL (fun p hp => by have := hi0 p hp; omega)
      have h_kNE := hf1.far h_kNE in_kNE (fun p hp => by have := hi0 p hp; omega)
      have h_kP := hf1.far h_kP in_kP (fun p hp => by have := hi0 p hp; omega)
      have h_kSE := hf1.far h_kSE in_kSE (fun p hp => by have := hi0 p hp; omega)
      have h_kQ := hf1.far h_kQ in_kQ (fun p hp => by have := hi0 p hp; omega)
      have h_kDR := hf1.far h_kDR in_kDR (fun p hp => by have := hi0 p hp; omega)
      have h_kPI := hf1.far h_kPI in_kPI (fun p hp => by have := hi0 p hp; omega)
      have h_kOU := hf1.far h_kOU in_kOU (fun p hp => by have := hi0 p hp; omega)
      have h_kMO := hq0
      have hT := th_kept0 hT hO hf1 (fun p hp => by have := hi0 p hp; omega)
      have hS := hS1
      clear hf1 hS1 hP1 hn0 hi0
      refine lv_istore (lv' := [(6, .int (nI (arQ P))), (5, .int (nI 0)), (0, .ref b), (1, .ref s.heap.size), (2, .ref (s.heap.size + 69)), (3, .ref (s.heap.size + 97)), (4, .int (nI i))]) hx hb d_LA_law_812 hl (by decide) rfl (fun ls hl => ?_)
      refine lv_aload_n hx hb d_LA_law_814 rfl (lv_at hl 4 rfl) ?_
      refine zrM_V (ci := 10) (q0 := 0) (As := []) (rest := []) (n := 0) (wsC := kMO cA cZ c2 cT cL s.heap.size (mq (mS 0 0 M) v2) z) ⟨hx, hb, hml, hown, hts⟩ (c_MO_thrown l D (laM s.heap.size) cA cZ cL (mq (mS 0 0 M) v2) z) ⟨km_LA_80, ki_MO_thrown, ks_MO_thrown, kn_MO, kd_MO_thrown⟩ (by decide +kernel) (by decide) ⟨(by show cs + 0 ≤ 601024; omega), (by show sl + 0 ≤ 7293000; omega)⟩ (hK.sub [0, 1, 4] rfl) h_kMO rfl rfl rfl hl.1 rfl (Nat.le_of_ble_eq_true rfl) d_LA_law_815 ?_
      refine lv_toi (z := nI 0) rfl ?_
      refine lv_iload hx hb d_LA_law_818 (lv_at hl 1 rfl) ?_
      refine z_ceq (tgt := 825) hx hb d_LA_law_820 (by decide) (by omega) (by omega) (fun _ => ?_) (fun h => absurd h (by omega))
      refine lv_iload hx hb d_LA_law_825 (lv_at hl 1 rfl) ?_
      refine z_0ne (tgt := 842) hx hb d_LA_law_827 (by decide) (by omega) (fun h => absurd h (by omega)) (fun _ => ?_)
      refine lv_aload_n hx hb d_LA_law_830 rfl (lv_at hl 5 rfl) ?_
      refine lv_iconst (v := nI 0) hx hb d_LA_law_831 (by decide) ?_
      refine va_lald hx hb hK h_kOU 0 4 rfl rfl (vp_in_nI (n := 0) (by decide) (by decide)) d_LA_law_832 ?_
      refine lv_tol (z := lN (arQ P)) rfl ?_
      refine lv_iload hx hb d_LA_law_833 (lv_at hl 0 rfl) ?_
      refine lv_i2l (v := lN (arQ P)) hx hb d_LA_law_835 (nI_l (by omega)) ?_
      refine y_leq (tgt := 842) hx hb d_LA_law_836 d_LA_law_837 (by decide) (fun _ => ?_) (fun c9 => absurd rfl c9)
      refine lv_goto (tgt := 1221) hx hb d_LA_law_842 (by decide) ?_
      exact kk _ _ _ _ ls (by omega) (by omega) hS ⟨tc, tf, B, P, Qp, N, ah, kw, z, nn, sd, cf, lf, cn, (mq (mS 0 0 M) v2), (o1 fo (lN (arQ P))), bk, us, u, cap, wt, tB, ⟨h_kSB, h_kBL, h_kNE, h_kP, h_kSE, h_kQ, h_kDR, h_kPI, h_kMO, h_kOU⟩, hT, hO, RelG_pair0 hG hzn hph.1 hph.2, RelT_q hR, hq⟩ (lv_sub hl [2, 3, 4, 5, 6] rfl)
    · have hbd := bd_pair (tries := tries) (z := z) (Q := Qp) hG (by omega)
      have har := ar_le hbd
      refine lv_aload_n hx hb d_LA_law_789 rfl (lv_at hl 1 rfl) ?_
      refine lv_aload_n hx hb d_LA_law_790 rfl (lv_at hl 0 rfl) ?_
      refine lv_iload hx hb d_LA_law_791 (lv_at hl 4 rfl) ?_
      refine lv_iconst (v := nI 1) hx hb d_LA_law_793 (by decide) ?_
      refine z_add hx hb d_LA_law_794 ?_
      refine va_sld hx hb hX hbl hbA hS (vp_in_nI (n := (i + 1)) (by omega) (by omega)) d_LA_law_795 ?_
      refine lv_toi (z := (nI tries)) ((congrArg xs (nI_clamp (by omega))).trans hje) ?_
      refine lv_aload_n hx hb d_LA_law_796 rfl (lv_at hl 3 rfl) ?_
      have hi0 : ∀ p ∈ kSE cA cZ c2 cT cL s.heap.size ah kw, (s.heap.size + 30 ≤ p.1 ∧ p.1 < s.heap.size + 31) := in_kSE
      have hn0 : va_D (fun _ => True) (kSE cA cZ c2 cT cL s.heap.size ah kw) := nd_kSE
      have hn1 : va_D (fun _ => True) ((kSE cA cZ c2 cT cL s.heap.size ah kw) ++ (kP cA cZ c2 cT cL s.heap.size P)) := nd_app hn0 nd_kP (fun p hp q hq e9 => by have := hi0 p hp; have := in_kP q hq; omega)
      have hi1 : ∀ p ∈ (kSE cA cZ c2 cT cL s.heap.size ah kw) ++ (kP cA cZ c2 cT cL s.heap.size P), (s.heap.size + 30 ≤ p.1 ∧ p.1 < s.heap.size + 31) ∨ (s.heap.size + 15 ≤ p.1 ∧ p.1 < s.heap.size + 30) := fun p hp => (List.mem_append.mp hp).elim (fun h => by have := hi0 p h; omega) (fun h => by have := in_kP p h; omega)
      have hn2 : va_D (fun _ => True) (((kSE cA cZ c2 cT cL s.heap.size ah kw) ++ (kP cA cZ c2 cT cL s.heap.size P)) ++ (kQ cA cZ c2 cT cL s.heap.size Qp)) := nd_app hn1 nd_kQ (fun p hp q hq e9 => by have := hi1 p hp; have := in_kQ q hq; omega)
      have hi2 : ∀ p ∈ ((kSE cA cZ c2 cT cL s.heap.size ah kw) ++ (kP cA cZ c2 cT cL s.heap.size P)) ++ (kQ cA cZ c2 cT cL s.heap.size Qp), (s.heap.size + 30 ≤ p.1 ∧ p.1 < s.heap.size + 31) ∨ (s.heap.size + 15 ≤ p.1 ∧ p.1 < s.heap.size + 30) ∨ (s.heap.size + 31 ≤ p.1 ∧ p.1 < s.heap.size + 46) := fun p hp => (List.mem_append.mp hp).elim (fun h => by have := hi1 p h; omega) (fun h => by have := in_kQ p h; omega)
      have hn3 : va_D (fun _ => True) ((((kSE cA cZ c2 cT cL s.heap.size ah kw) ++ (kP cA cZ c2 cT cL s.heap.size P)) ++ (kQ cA cZ c2 cT cL s.heap.size Qp)) ++ (kNE cA cZ c2 cT cL s.heap.size N)) := nd_app hn2 nd_kNE (fun p hp q hq e9 => by have := hi2 p hp; have := in_kNE q hq; omega)
      have hi3 : ∀ p ∈ (((kSE cA cZ c2 cT cL s.heap.size ah kw) ++ (kP cA cZ c2 cT cL s.heap.size P)) ++ (kQ cA cZ c2 cT cL s.heap.size Qp)) ++ (kNE cA cZ c2 cT cL s.heap.size N), (s.heap.size + 30 ≤ p.1 ∧ p.1 < s.heap.size + 31) ∨ (s.heap.size + 15 ≤ p.1 ∧ p.1 < s.heap.size + 30) ∨ (s.heap.size + 31 ≤ p.1 ∧ p.1 < s.heap.size + 46) ∨ (s.heap.size + 11 ≤ p.1 ∧ p.1 < s.heap.size + 15) := fun p hp => (List.mem_append.mp hp).elim (fun h => by have := hi2 p h; omega) (fun h => by have := in_kNE p h; omega)
      have hn4 : va_D (fun _ => True) (((((kSE cA cZ c2 cT cL s.heap.size ah kw) ++ (kP cA cZ c2 cT cL s.heap.size P)) ++ (kQ cA cZ c2 cT cL s.heap.size Qp)) ++ (kNE cA cZ c2 cT cL s.heap.size N)) ++ (kBL cA cZ c2 cT cL s.heap.size B)) := nd_app hn3 nd_kBL (fun p hp q hq e9 => by have := hi3 p hp; have := in_kBL q hq; omega)
      have hi4 : ∀ p ∈ ((((kSE cA cZ c2 cT cL s.heap.size ah kw) ++ (kP cA cZ c2 cT cL s.heap.size P)) ++ (kQ cA cZ c2 cT cL s.heap.size Qp)) ++ (kNE cA cZ c2 cT cL s.heap.size N)) ++ (kBL cA cZ c2 cT cL s.heap.size B), (s.heap.size + 30 ≤ p.1 ∧ p.1 < s.heap.size + 31) ∨ (s.heap.size + 15 ≤ p.1 ∧ p.1 < s.heap.size + 30) ∨ (s.heap.size + 31 ≤ p.1 ∧ p.1 < s.heap.size + 46) ∨ (s.heap.size + 11 ≤ p.1 ∧ p.1 < s.heap.size + 15) ∨ (s.heap.size + 2 ≤ p.1 ∧ p.1 < s.heap.size + 11) := fun p hp => (List.mem_append.mp hp).elim (fun h => by have := hi3 p h; omega) (fun h => by have := in_kBL p h; omega)
      have hn5 : va_D (fun _ => True) ((((((kSE cA cZ c2 cT cL s.heap.size ah kw) ++ (kP cA cZ c2 cT cL s.heap.size P)) ++ (kQ cA cZ c2 cT cL s.heap.size Qp)) ++ (kNE cA cZ c2 cT cL s.heap.size N)) ++ (kBL cA cZ c2 cT cL s.heap.size B)) ++ (kDR cA cZ c2 cT cL s.heap.size z)) := nd_app hn4 nd_kDR (fun p hp q hq e9 => by have := hi4 p hp; have := in_kDR q hq; omega)
      have hi5 : ∀ p ∈ (((((kSE cA cZ c2 cT cL s.heap.size ah kw) ++ (kP cA cZ c2 cT cL s.heap.size P)) ++ (kQ cA cZ c2 cT cL s.heap.size Qp)) ++ (kNE cA cZ c2 cT cL s.heap.size N)) ++ (kBL cA cZ c2 cT cL s.heap.size B)) ++ (kDR cA cZ c2 cT cL s.heap.size z), (s.heap.size + 30 ≤ p.1 ∧ p.1 < s.heap.size + 31) ∨ (s.heap.size + 15 ≤ p.1 ∧ p.1 < s.heap.size + 30) ∨ (s.heap.size + 31 ≤ p.1 ∧ p.1 < s.heap.size + 46) ∨ (s.heap.size + 11 ≤ p.1 ∧ p.1 < s.heap.size + 15) ∨ (s.heap.size + 2 ≤ p.1 ∧ p.1 < s.heap.size + 11) ∨ (s.heap.size + 46 ≤ p.1 ∧ p.1 < s.heap.size + 47) := fun p hp => (List.mem_append.mp hp).elim (fun h => by have := hi4 p h; omega) (fun h => by have := in_kDR p h; omega)
      have hn6 : va_D (fun _ => True) (((((((kSE cA cZ c2 cT cL s.heap.size ah kw) ++ (kP cA cZ c2 cT cL s.heap.size P)) ++ (kQ cA cZ c2 cT cL s.heap.size Qp)) ++ (kNE cA cZ c2 cT cL s.heap.size N)) ++ (kBL cA cZ c2 cT cL s.heap.size B)) ++ (kDR cA cZ c2 cT cL s.heap.size z)) ++ (kSB cA cZ c2 cT cL s.heap.size tc tf)) := nd_app hn5 nd_kSB (fun p hp q hq e9 => by have := hi5 p hp; have := in_kSB q hq; omega)
      have hi6 : ∀ p ∈ ((((((kSE cA cZ c2 cT cL s.heap.size ah kw) ++ (kP cA cZ c2 cT cL s.heap.size P)) ++ (kQ cA cZ c2 cT cL s.heap.size Qp)) ++ (kNE cA cZ c2 cT cL s.heap.size N)) ++ (kBL cA cZ c2 cT cL s.heap.size B)) ++ (kDR cA cZ c2 cT cL s.heap.size z)) ++ (kSB cA cZ c2 cT cL s.heap.size tc tf), (s.heap.size + 30 ≤ p.1 ∧ p.1 < s.heap.size + 31) ∨ (s.heap.size + 15 ≤ p.1 ∧ p.1 < s.heap.size + 30) ∨ (s.heap.size + 31 ≤ p.1 ∧ p.1 < s.heap.size + 46) ∨ (s.heap.size + 11 ≤ p.1 ∧ p.1 < s.heap.size + 15) ∨ (s.heap.size + 2 ≤ p.1 ∧ p.1 < s.heap.size + 11) ∨ (s.heap.size + 46 ≤ p.1 ∧ p.1 < s.heap.size + 47) ∨ (s.heap.size + 0 ≤ p.1 ∧ p.1 < s.heap.size + 2) := fun p hp => (List.mem_append.mp hp).elim (fun h => by have := hi5 p h; omega) (fun h => by have := in_kSB p h; omega)
      have hn7 : va_D (fun _ => True) ((((((((kSE cA cZ c2 cT cL s.heap.size ah kw) ++ (kP cA cZ c2 cT cL s.heap.size P)) ++ (kQ cA cZ c2 cT cL s.heap.size Qp)) ++ (kNE cA cZ c2 cT cL s.heap.size N)) ++ (kBL cA cZ c2 cT cL s.heap.size B)) ++ (kDR cA cZ c2 cT cL s.heap.size z)) ++ (kSB cA cZ c2 cT cL s.heap.size tc tf)) ++ (kOU cA cZ c2 cT cL s.heap.size fo)) := nd_app hn6 nd_kOU (fun p hp q hq e9 => by have := hi6 p hp; have := in_kOU q hq; omega)
      have hi7 : ∀ p ∈ (((((((kSE cA cZ c2 cT cL s.heap.size ah kw) ++ (kP cA cZ c2 cT cL s.heap.size P)) ++ (kQ cA cZ c2 cT cL s.heap.size Qp)) ++ (kNE cA cZ c2 cT cL s.heap.size N)) ++ (kBL cA cZ c2 cT cL s.heap.size B)) ++ (kDR cA cZ c2 cT cL s.heap.size z)) ++ (kSB cA cZ c2 cT cL s.heap.size tc tf)) ++ (kOU cA cZ c2 cT cL s.heap.size fo), (s.heap.size + 30 ≤ p.1 ∧ p.1 < s.heap.size + 31) ∨ (s.heap.size + 15 ≤ p.1 ∧ p.1 < s.heap.size + 30) ∨ (s.heap.size + 31 ≤ p.1 ∧ p.1 < s.heap.size + 46) ∨ (s.heap.size + 11 ≤ p.1 ∧ p.1 < s.heap.size + 15) ∨ (s.heap.size + 2 ≤ p.1 ∧ p.1 < s.heap.size + 11) ∨ (s.heap.size + 46 ≤ p.1 ∧ p.1 < s.heap.size + 47) ∨ (s.heap.size + 0 ≤ p.1 ∧ p.1 < s.heap.size + 2) ∨ (s.heap.size + 97 ≤ p.1 ∧ p.1 < s.heap.size + 98) := fun p hp => (List.mem_append.mp hp).elim (fun h => by have := hi6 p h; omega) (fun h => by have := in_kOU p h; omega)
      refine zg_H (V := Unit) (F := zF0) (mc := 0) (ms := 0) (As := [.ref s.heap.size, .int (nI tries), .ref (s.heap.size + 97)]) (rest := []) (n := 3) (wsC := (((((((kSE cA cZ c2 cT cL s.heap.size ah kw) ++ (kP cA cZ c2 cT cL s.heap.size P)) ++ (kQ cA cZ c2 cT cL s.heap.size Qp)) ++ (kNE cA cZ c2 cT cL s.heap.size N)) ++ (kBL cA cZ c2 cT cL s.heap.size B)) ++ (kDR cA cZ c2 cT cL s.heap.size z)) ++ (kSB cA cZ c2 cT cL s.heap.size tc tf)) ++ (kOU cA cZ c2 cT cL s.heap.size fo)) (φ := fun _ => True) (wv := fun _ => (((((((kSE cA cZ c2 cT cL s.heap.size ((runS B N (arQ P) tries ((P, cpQ P Qp, arQ P, wrQ N P), z) tries).1.2.2.1) ((runS B N (arQ P) tries ((P, cpQ P Qp, arQ P, wrQ N P), z) tries).1.2.2.2)) ++ (kP cA cZ c2 cT cL s.heap.size ((runS B N (arQ P) tries ((P, cpQ P Qp, arQ P, wrQ N P), z) tries).1.1))) ++ (kQ cA cZ c2 cT cL s.heap.size ((runS B N (arQ P) tries ((P, cpQ P Qp, arQ P, wrQ N P), z) tries).1.2.1))) ++ (kNE cA cZ c2 cT cL s.heap.size N)) ++ (kBL cA cZ c2 cT cL s.heap.size B)) ++ (kDR cA cZ c2 cT cL s.heap.size ((runS B N (arQ P) tries ((P, cpQ P Qp, arQ P, wrQ N P), z) tries).2))) ++ (kSB cA cZ c2 cT cL s.heap.size tc tf)) ++ (kOU cA cZ c2 cT cL s.heap.size (o1 fo (lN (arQ (runS B N (arQ P) tries ((P, cpQ P Qp, arQ P, wrQ N P), z) tries).1.1))))) (rv := .int (nI 0)) zF0_ok ⟨hx, hb, hml, hown, hts⟩ (met_u (met_f (h_pair l D _ (fun k => s.heap.size + k) (fun k => s.heap.size + 2 + k) (fun k => s.heap.size + 11 + k) (fun k => s.heap.size + 15 + k) (fun k => s.heap.size + 30 + 16 * k) (laI s.heap.size) (fun k => s.heap.size + 31 + k) cA cZ c2 cT tc tf B N P Qp ah kw tries z (s.heap.size + 97) cL fo hG.1.1 hG.2.2.2.1 hG.1.2.2.1 hG.1.2.2.2.1 hj (by omega) hbd))) ⟨km_LA_107, kst_LA_pair, kn_LA, kw_LA_pair⟩ (by decide +kernel) (by decide) ⟨(by show cs + 0 ≤ 601024; omega), (by show sl + 0 ≤ 7293000; omega)⟩ (hK.sub [0, 1, 2, 3, 4] rfl) ((((((((h_kSE).app h_kP).app h_kQ).app h_kNE).app h_kBL).app h_kDR).app h_kSB).app h_kOU) hn7 hS (la_A hS (fun p hp => by have := hi7 p hp; omega)) trivial rfl hl.1 rfl (Nat.le_of_ble_eq_true rfl) d_LA_law_797 (fun _ H1 locs1 hph hP1 hz1 hf1 hS1 => ?_)
      have hq7 := va_P.right hP1
      have hr7 := va_P.left hP1
      have hq6 := va_P.right hr7
      have hr6 := va_P.left hr7
      have hq5 := va_P.right hr6
      have hr5 := va_P.left hr6
      have hq4 := va_P.right hr5
      have hr4 := va_P.left hr5
      have hq3 := va_P.right hr4
      have hr3 := va_P.left hr4
      have hq2 := va_P.right hr3
      have hr2 := va_P.left hr3
      have hq1 := va_P.right hr2
      have hr1 := va_P.left hr2
      have hq0 := hr1
      have h_kPI := hf1.far h_kPI in_kPI (fun p hp => by have := hi7 p hp; omega)
      have h_kMO := hf1.far h_kMO in_kMO (fun p hp => by have := hi7 p hp; omega)
      have h_kSE := hq0
      have h_kP := hq1
      have h_kQ := hq2
      have h_kNE := hq3
      have h_kBL := hq4
      have h_kDR := hq5
      have h_kSB := hq6
      have h_kOU := hq7
      have hT := th_kept0 hT hO hf1 (fun p hp => by have := hi7 p hp; omega)
      have hS := hS1
      clear hf1 hS1 hP1 hn0 hi0 hn1 hi1 hn2 hi2 hn3 hi3 hn4 hi4 hn5 hi5 hn6 hi6 hn7 hi7
      refine lv_istore (lv' := [(5, .int (nI 0)), (0, .ref b), (1, .ref s.heap.size), (2, .ref (s.heap.size + 69)), (3, .ref (s.heap.size + 97)), (4, .int (nI i))]) hx hb d_LA_law_800 hl (by decide) rfl (fun ls hl => ?_)
      refine lv_aload_n hx hb d_LA_law_802 rfl (lv_at hl 3 rfl) ?_
      refine lv_aload_n hx hb d_LA_law_803 rfl (lv_at hl 1 rfl) ?_
      refine lv_iload hx hb d_LA_law_804 (lv_at hl 5 rfl) ?_
      refine lv_iconst (v := nI 1) hx hb d_LA_law_806 (by decide) ?_
      refine z_add hx hb d_LA_law_807 ?_
      refine va_sld hx hb hX hbl hbA hS (vp_in_nI (n := (i + 1)) (by omega) (by omega)) d_LA_law_808 ?_
      refine lv_toi (z := (nI tries)) ((congrArg xs (nI_clamp (by omega))).trans hje) ?_
      have hi0 : ∀ p ∈ kMO cA cZ c2 cT cL s.heap.size M z, (s.heap.size + 69 ≤ p.1 ∧ p.1 < s.heap.size + 97) := in_kMO
      have hn0 : va_D (fun _ => True) (kMO cA cZ c2 cT cL s.heap.size M z) := nd_kMO
      refine zg_V (V := V5) (ci := 10) (q0 := 0) (As := [.int (nI tries)]) (rest := []) (n := 1) (wsC := kMO cA cZ c2 cT cL s.heap.size M z) (φ := fun v2 => RelP B.2.2.2 ((runS B N (arQ P) tries ((P, cpQ P Qp, arQ P, wrQ N P), z) tries).1.1) (mq (mS 0 0 M) v2) 0 ∧ ∀ q, v2.1 q < 16 ∧ v2.2.1 q < 16) (wv := fun v2 => kMO cA cZ c2 cT cL s.heap.size (mq (mS 0 0 M) v2) ((runS B N (arQ P) tries ((P, cpQ P Qp, arQ P, wrQ N P), z) tries).2)) (rv := .int (nI (arQ (runS B N (arQ P) tries ((P, cpQ P Qp, arQ P, wrQ N P), z) tries).1.1))) ⟨hx, hb, hml, hown, hts⟩ (r_pair l D _ (laM s.heap.size) cA cZ cL M z (vM M) B.2.2.2 B N P Qp tries hG.1.1 hG.2.2.2.1 hGv.2.2.1.1 hGv.2.2.2.2.1 hGv.2.2.1.2.1 hG.2.2.1.2.2 hG.1.2.2.1 hG.1.2.2.2.1 hG.1.2.2.2.2.1 hj (by omega)) ⟨km_LA_109, ki_MO_pair, ks_MO_pair, kn_MO, kd_MO_pair⟩ (by decide +kernel) (by decide) ⟨(by show cs + 0 ≤ 601024; omega), (by show sl + 0 ≤ 7293000; omega)⟩ (hK.sub [0, 1, 4] rfl) (h_kMO) hn0 hS (la_A hS (fun p hp => by have := hi0 p hp; omega)) rfl rfl rfl hl.1 rfl (Nat.le_of_ble_eq_true rfl) d_LA_law_809 (fun v2 H1 locs1 hph hP1 hz1 hf1 hS1 => ?_)
      have hq0 := hP1
      have h_kSB := hf1.far h_kSB in_kSB (fun p hp => by have := hi0 p hp; omega)
      have h_kBL := hf1.far h_kBL in_kBL (fun p hp => by have := hi0 p hp; omega)
      have h_kNE := hf1.far h_kNE in_kNE (fun p hp => by have := hi0 p hp; omega)
      have h_kP := hf1.far h_kP in_kP (fun p hp => by have := hi0 p hp; omega)
      have h_kSE := hf1.far h_kSE in_kSE (fun p hp => by have := hi0 p hp; omega)
      have h_kQ := hf1.far h_kQ in_kQ (fun p hp => by have := hi0 p hp; omega)
      have h_kDR := hf1.far h_kDR in_kDR (fun p hp => by have := hi0 p hp; omega)
      have h_kPI := hf1.far h_kPI in_kPI (fun p hp => by have := hi0 p hp; omega)
      have h_kOU := hf1.far h_kOU in_kOU (fun p hp => by have := hi0 p hp; omega)
      have h_kMO := hq0
      have hT := th_kept0 hT hO hf1 (fun p hp => by have := hi0 p hp; omega)
      have hS := hS1
      clear hf1 hS1 hP1 hn0 hi0
      have hgg := RelG_pair hG (by omega) hq hph.1 hph.2
      refine lv_istore (lv' := [(6, .int (nI (arQ (runS B N (arQ P) tries ((P, cpQ P Qp, arQ P, wrQ N P), z) tries).1.1))), (5, .int (nI 0)), (0, .ref b), (1, .ref s.heap.size), (2, .ref (s.heap.size + 69)), (3, .ref (s.heap.size + 97)), (4, .int (nI i))]) hx hb d_LA_law_812 hl (by decide) rfl (fun ls hl => ?_)
      refine lv_aload_n hx hb d_LA_law_814 rfl (lv_at hl 4 rfl) ?_
      refine zrM_V (ci := 10) (q0 := 0) (As := []) (rest := []) (n := 0) (wsC := kMO cA cZ c2 cT cL s.heap.size (mq (mS 0 0 M) v2) ((runS B N (arQ P) tries ((P, cpQ P Qp, arQ P, wrQ N P), z) tries).2)) ⟨hx, hb, hml, hown, hts⟩ (c_MO_thrown l D (laM s.heap.size) cA cZ cL (mq (mS 0 0 M) v2) ((runS B N (arQ P) tries ((P, cpQ P Qp, arQ P, wrQ N P), z) tries).2)) ⟨km_LA_80, ki_MO_thrown, ks_MO_thrown, kn_MO, kd_MO_thrown⟩ (by decide +kernel) (by decide) ⟨(by show cs + 0 ≤ 601024; omega), (by show sl + 0 ≤ 7293000; omega)⟩ (hK.sub [0, 1, 4] rfl) h_kMO rfl rfl rfl hl.1 rfl (Nat.le_of_ble_eq_true rfl) d_LA_law_815 ?_
      refine lv_toi (z := nI 0) rfl ?_
      refine lv_iload hx hb d_LA_law_818 (lv_at hl 1 rfl) ?_
      refine z_ceq (tgt := 825) hx hb d_LA_law_820 (by decide) (by omega) (by omega) (fun _ => ?_) (fun h => absurd h (by omega))
      refine lv_iload hx hb d_LA_law_825 (lv_at hl 1 rfl) ?_
      refine z_0ne (tgt := 842) hx hb d_LA_law_827 (by decide) (by omega) (fun h => absurd h (by omega)) (fun _ => ?_)
      refine lv_aload_n hx hb d_LA_law_830 rfl (lv_at hl 5 rfl) ?_
      refine lv_iconst (v := nI 0) hx hb d_LA_law_831 (by decide) ?_
      refine va_lald hx hb hK h_kOU 0 4 rfl rfl (vp_in_nI (n := 0) (by decide) (by decide)) d_LA_law_832 ?_
      refine lv_tol (z := lN (arQ (runS B N (arQ P) tries ((P, cpQ P Qp, arQ P, wrQ N P), z) tries).1.1)) rfl ?_
      refine lv_iload hx hb d_LA_law_833 (lv_at hl 0 rfl) ?_
      refine lv_i2l (v := lN (arQ (runS B N (arQ P) tries ((P, cpQ P Qp, arQ P, wrQ N P), z) tries).1.1)) hx hb d_LA_law_835 (nI_l (by omega)) ?_
      refine y_leq (tgt := 842) hx hb d_LA_law_836 d_LA_law_837 (by decide) (fun _ => ?_) (fun c9 => absurd rfl c9)
      refine lv_goto (tgt := 1221) hx hb d_LA_law_842 (by decide) ?_
      exact kk _ _ _ _ ls (by omega) (by omega) hS ⟨tc, tf, B, ((runS B N (arQ P) tries ((P, cpQ P Qp, arQ P, wrQ N P), z) tries).1.1), ((runS B N (arQ P) tries ((P, cpQ P Qp, arQ P, wrQ N P), z) tries).1.2.1), N, ((runS B N (arQ P) tries ((P, cpQ P Qp, arQ P, wrQ N P), z) tries).1.2.2.1), ((runS B N (arQ P) tries ((P, cpQ P Qp, arQ P, wrQ N P), z) tries).1.2.2.2), ((runS B N (arQ P) tries ((P, cpQ P Qp, arQ P, wrQ N P), z) tries).2), nn, sd, cf, lf, cn, (mq (mS 0 0 M) v2), (o1 fo (lN (arQ (runS B N (arQ P) tries ((P, cpQ P Qp, arQ P, wrQ N P), z) tries).1.1))), bk, us, u, cap, wt, tB, ⟨h_kSB, h_kBL, h_kNE, h_kP, h_kSE, h_kQ, h_kDR, h_kPI, h_kMO, h_kOU⟩, hT, hO, hgg.1, RelT_q hR, hgg.2⟩ (lv_sub hl [2, 3, 4, 5, 6] rfl)
