theorem nI_rng {x M : Int32} {k : Nat} (hM : M.toInt = k) (hk : k < 2 ^ 30) (h1 : ¬ x < 0) (h2 : ¬ M < x) : ∃ j, j ≤ k ∧ x = nI j := nI_of2 hM h1 (by rw [Int32.le_iff_toInt_le]; rw [Int32.lt_iff_toInt_lt] at h2; omega)
theorem ax_of {x : Int32} (h : ¬ (x < 0 ∨ 1 < x)) : ∃ j, (j = 0 ∨ j = 1) ∧ x = nI j := by
  obtain ⟨j, hj, e⟩ := nI_rng (M := 1) (k := 1) (by decide) (by decide) (fun q => h (Or.inl q)) (fun q => h (Or.inr q))
  exact ⟨j, by omega, e⟩
theorem pin_of {x y : Int32} (h : ¬ (x < 0 ∨ 3 < x ∨ y < 0 ∨ 1 < y)) : ∃ j k, j < 4 ∧ k < 2 ∧ x = nI j ∧ y = nI k := by
  obtain ⟨j, hj, e⟩ := nI_rng (M := 3) (k := 3) (by decide) (by decide) (fun q => h (Or.inl q)) (fun q => h (Or.inr (Or.inl q)))
  obtain ⟨k, hk, e2⟩ := nI_rng (M := 1) (k := 1) (by decide) (by decide) (fun q => h (Or.inr (Or.inr (Or.inl q)))) (fun q => h (Or.inr (Or.inr (Or.inr q))))
  exact ⟨j, k, by omega, by omega, e, e2⟩
set_option maxHeartbeats 4000000 in
set_option maxRecDepth 100000 in
/-- at -/
theorem lc_at {p : Program} {l : Launch} {e : Env} {s : State} {m : MethodId} {below : List Frame} {meth : Method} {c : Code} {b L : Nat} {xs : Nat → Int32} {D : va_G} {cA cZ c2 cT cL : ClassId} {Q : State → Prop} (C : lawC p l s m c b L xs D cA cZ c2 cT cL) {i cs sl : Nat} {H : Heap} {locs : List Loc} {ls : Array Slot} (hi : i + 6 ≤ L) (hcs : cs + 10 ≤ 601024) (hsl : sl + 200 ≤ 7293000) (hS : va_S (lA s) s.heap H locs) (hI : lawI D cA cZ c2 cT cL s.heap.size H) (hl : lv_has ls 8 [(0, .ref b), (1, .ref s.heap.size), (2, .ref (s.heap.size + 69)), (3, .ref (s.heap.size + 97)), (4, .int (nI i))]) (kk : ∀ (H1 : Heap) (locs1 : List Loc) (cs1 sl1 : Nat) (ls1 : Array Slot), cs1 ≤ cs + 10 → sl1 ≤ sl + 200 → va_S (lA s) s.heap H1 locs1 → lawI D cA cZ c2 cT cL s.heap.size H1 → lv_has ls1 8 [(0, .ref b), (1, .ref s.heap.size), (2, .ref (s.heap.size + 69)), (3, .ref (s.heap.size + 97)), (4, .int (nI i))] → W p l e room_1 s m #[Value.ref b] below meth c H1 locs1 cs1 sl1 Q (F0 m 1221 ls1 [])) : W p l e room_1 s m #[Value.ref b] below meth c H locs cs sl Q (F0 m 845 ls []) := by
  obtain ⟨hx, hb, hml, hown, hts, hX, hbl, hL, hK, htl, hF1, hF2⟩ := C
  have hbA : ¬ lA s b := fun h => by have h : s.heap.size ≤ b := h; omega
  obtain ⟨tc, tf, B, P, Qp, N, ah, kw, z, nn, sd, cf, lf, cn, M, fo, bk, us, u, cap, wt, tB, ⟨h_kSB, h_kBL, h_kNE, h_kP, h_kSE, h_kQ, h_kDR, h_kPI, h_kMO, h_kOU⟩, hT, hO, hG, hR, hq⟩ := hI
  have h40 : tc ≤ 40 := hR.2.1
  have h17 : M.2.2.1 17 = B.2.2.2 := hG.2.2.1.1.2.1
  have h16 : B.2.2.2 ≤ 16 := hG.1.1.1
  have hT : thA D cA bk us u cap tB tc tf s.heap.size H := hT
  rcases find_fb hR h16 h17 (xs (i + 1)) with ⟨hfb, hbf⟩ | ⟨kx, bx, hkx, hbx, hke, hbk, hbf⟩
  · obtain ⟨T, hTs0, hfT⟩ := fb_T1 hT hfb
    refine lv_aload_n hx hb d_LA_law_845 rfl (lv_at hl 1 rfl) ?_
    refine lv_aload_n hx hb d_LA_law_846 rfl (lv_at hl 0 rfl) ?_
    refine lv_iload hx hb d_LA_law_847 (lv_at hl 4 rfl) ?_
    refine lv_iconst (v := nI 1) hx hb d_LA_law_849 (by decide) ?_
    refine z_add hx hb d_LA_law_850 ?_
    refine va_sld hx hb hX hbl hbA hS (vp_in_nI (n := (i + 1)) (by omega) (by omega)) d_LA_law_851 ?_
    refine lv_toi (z := xs (i + 1)) (congrArg xs (nI_clamp (by omega))) ?_
    refine lv_aload_n hx hb d_LA_law_852 rfl (lv_at hl 0 rfl) ?_
    refine lv_iload hx hb d_LA_law_853 (lv_at hl 4 rfl) ?_
    refine lv_iconst (v := nI 2) hx hb d_LA_law_855 (by decide) ?_
    refine z_add hx hb d_LA_law_856 ?_
    refine va_sld hx hb hX hbl hbA hS (vp_in_nI (n := (i + 2)) (by omega) (by omega)) d_LA_law_857 ?_
    refine lv_toi (z := xs (i + 2)) (congrArg xs (nI_clamp (by omega))) ?_
    refine lv_aload_n hx hb d_LA_law_858 rfl (lv_at hl 3 rfl) ?_
    have hTs : thS D cA bk us u cap tB tc (T) H := hTs0
    have hTi := thS_in (h0 := s.heap.size) hT hTs
    have hi0 : ∀ p ∈ kSB cA cZ c2 cT cL s.heap.size tc tf, (s.heap.size + 0 ≤ p.1 ∧ p.1 < s.heap.size + 2) := in_kSB
    have hn0 : va_D (fun _ => True) (kSB cA cZ c2 cT cL s.heap.size tc tf) := nd_kSB
    have hn1 : va_D (fun _ => True) ((kSB cA cZ c2 cT cL s.heap.size tc tf) ++ (T)) := nd_app hn0 hTs.2.1 (fun p hp q hq e9 => by have := hi0 p hp; have := hTi q hq; omega)
    have hi1 : ∀ p ∈ (kSB cA cZ c2 cT cL s.heap.size tc tf) ++ (T), (s.heap.size + 0 ≤ p.1 ∧ p.1 < s.heap.size + 2) ∨ (s.heap.size + 98 ≤ p.1) := fun p hp => (List.mem_append.mp hp).elim (fun h => by have := hi0 p h; omega) (fun h => by have := hTi p h; omega)
    have hw9 : ∀ p ∈ (kSB cA cZ c2 cT cL s.heap.size tc tf) ++ (T), p.1 < s.heap.size + 98 ∨ p ∈ T := fun p hp => (List.mem_append.mp hp).elim (fun h => Or.inl (by have := in_kSB p h; omega)) (fun h => Or.inr h)
    refine zg_H (V := Unit) (F := zT2) (mc := 1) (ms := 6) (As := [.ref s.heap.size, .int (xs (i + 1)), .int (xs (i + 2)), .ref (s.heap.size + 97)]) (rest := []) (n := 4) (wsC := (kSB cA cZ c2 cT cL s.heap.size tc tf) ++ (T)) (φ := fun _ => True) (wv := fun _ => (kSB cA cZ c2 cT cL s.heap.size tc tf) ++ (T)) (rv := .int (nI 1)) zT2_ok ⟨hx, hb, hml, hown, hts⟩ (met_u (h_at_x l D htl _ (fun k => s.heap.size + k) (fun k => s.heap.size + 2 + k) (fun k => s.heap.size + 11 + k) (fun k => s.heap.size + 15 + k) (fun k => s.heap.size + 30 + 16 * k) (laI s.heap.size) cA cZ c2 cT tc tf (s.heap.size + 97) T (xs (i + 1)) (-1) (xs (i + 2)) h40 hfT (Or.inl rfl))) ⟨km_LA_110, kst_LA_at, kn_LA, kw_LA_at⟩ (by decide +kernel) (by decide) ⟨(by show cs + 1 ≤ 601024; omega), (by show sl + 6 ≤ 7293000; omega)⟩ (hK.sub [0, 1, 2, 3] rfl) ((h_kSB).app hTs.1) hn1 hS (la_A hS (fun p hp => by have := hi1 p hp; omega)) hF2 rfl hl.1 rfl (Nat.le_of_ble_eq_true rfl) d_LA_law_859 (fun _ H1 locs1 hph hP1 hz1 hf1 hS1 => ?_)
    have hq1 := va_P.right hP1
    have hr1 := va_P.left hP1
    have hq0 := hr1
    have h_kBL := hf1.far h_kBL in_kBL (fun p hp => by have := hi1 p hp; omega)
    have h_kNE := hf1.far h_kNE in_kNE (fun p hp => by have := hi1 p hp; omega)
    have h_kP := hf1.far h_kP in_kP (fun p hp => by have := hi1 p hp; omega)
    have h_kSE := hf1.far h_kSE in_kSE (fun p hp => by have := hi1 p hp; omega)
    have h_kQ := hf1.far h_kQ in_kQ (fun p hp => by have := hi1 p hp; omega)
    have h_kDR := hf1.far h_kDR in_kDR (fun p hp => by have := hi1 p hp; omega)
    have h_kPI := hf1.far h_kPI in_kPI (fun p hp => by have := hi1 p hp; omega)
    have h_kMO := hf1.far h_kMO in_kMO (fun p hp => by have := hi1 p hp; omega)
    have h_kOU := hf1.far h_kOU in_kOU (fun p hp => by have := hi1 p hp; omega)
    have h_kSB := hq0
    have hT := th_kept hT hO hf1 hw9 hTs hq1
    have hS := hS1
    clear hf1 hS1 hP1 hn0 hi0 hn1 hi1
    refine lv_istore (lv' := [(5, .int (nI 1)), (0, .ref b), (1, .ref s.heap.size), (2, .ref (s.heap.size + 69)), (3, .ref (s.heap.size + 97)), (4, .int (nI i))]) hx hb d_LA_law_862 hl (by decide) rfl (fun ls hl => ?_)
    refine lv_aload_n hx hb d_LA_law_864 rfl (lv_at hl 3 rfl) ?_
    refine lv_aload_n hx hb d_LA_law_865 rfl (lv_at hl 1 rfl) ?_
    refine lv_iload hx hb d_LA_law_866 (lv_at hl 5 rfl) ?_
    refine lv_iconst (v := nI 1) hx hb d_LA_law_868 (by decide) ?_
    refine z_add hx hb d_LA_law_869 ?_
    refine va_sld hx hb hX hbl hbA hS (vp_in_nI (n := (i + 1)) (by omega) (by omega)) d_LA_law_870 ?_
    refine lv_toi (z := xs (i + 1)) (congrArg xs (nI_clamp (by omega))) ?_
    refine lv_aload_n hx hb d_LA_law_871 rfl (lv_at hl 1 rfl) ?_
    refine lv_iload hx hb d_LA_law_872 (lv_at hl 5 rfl) ?_
    refine lv_iconst (v := nI 2) hx hb d_LA_law_874 (by decide) ?_
    refine z_add hx hb d_LA_law_875 ?_
    refine va_sld hx hb hX hbl hbA hS (vp_in_nI (n := (i + 2)) (by omega) (by omega)) d_LA_law_876 ?_
    refine lv_toi (z := xs (i + 2)) (congrArg xs (nI_clamp (by omega))) ?_
    have hi0 : ∀ p ∈ kMO cA cZ c2 cT cL s.heap.size M z, (s.heap.size + 69 ≤ p.1 ∧ p.1 < s.heap.size + 97) := in_kMO
    have hn0 : va_D (fun _ => True) (kMO cA cZ c2 cT cL s.heap.size M z) := nd_kMO
    refine zg_V (V := Unit) (ci := 10) (q0 := 0) (As := [.int (xs (i + 1)), .int (xs (i + 2))]) (rest := []) (n := 2) (wsC := kMO cA cZ c2 cT cL s.heap.size M z) (φ := fun _ => True) (wv := fun _ => kMO cA cZ c2 cT cL s.heap.size (mS 0 1 M) z) (rv := .long (lN 0)) ⟨hx, hb, hml, hown, hts⟩ (met_u (c_MO_at_no l D _ (laM s.heap.size) cA cZ cL M z (xs (i + 1)) (xs (i + 2)) (by omega) (Or.inl hbf))) ⟨km_LA_112, ki_MO_at, ks_MO_at, kn_MO, kd_MO_at⟩ (by decide +kernel) (by decide) ⟨(by show cs + 1 + 0 ≤ 601024; omega), (by show sl + 6 + 0 ≤ 7293000; omega)⟩ (hK.sub [0, 1, 4] rfl) (h_kMO) hn0 hS (la_A hS (fun p hp => by have := hi0 p hp; omega)) rfl rfl rfl hl.1 rfl (Nat.le_of_ble_eq_true rfl) d_LA_law_877 (fun _ H1 locs1 hph hP1 hz1 hf1 hS1 => ?_)
    have hq0 := hP1
    have h_kSB := hf1.far h_kSB in_kSB (fun p hp => by have := hi0 p hp; omega)
    have h_kBL := hf1.far h_kBL in_kBL (fun p hp => by have := hi0 p hp; omega)
    have h_kNE := hf1.far h_kNE in_kNE (fun p hp => by have := hi0 p hp; omega)
    have h_kP := hf1.far h_kP in_kP (fun p hp => by have := hi0 p hp; omega)
    have h_kSE := hf1.far h_kSE in_kSE (fun p hp => by have := hi0 p hp; omega)
    have h_kQ := hf1.far h_kQ in_kQ (fun p hp => by have := hi0 p hp; omega)
    have h_kDR := hf1.far h_kDR in_kDR (fun p hp => by have := hi0 p hp; omega)
    have h_kPI := hf1.far h_kPI in_kPI (fun p hp => by have := hi0 p hp; omega)
    have h_kOU := hf1.far h_kOU in_kOU (fun p hp => by have := hi0 p hp; omega)
    have h_kMO := hq0
    have hT := th_kept0 hT hO hf1 (fun p hp => by have := hi0 p hp; omega)
    have hS := hS1
    clear hf1 hS1 hP1 hn0 hi0
    refine lv_lstore (lv' := [(6, .long (lN 0)), (5, .int (nI 1)), (0, .ref b), (1, .ref s.heap.size), (2, .ref (s.heap.size + 69)), (3, .ref (s.heap.size + 97)), (4, .int (nI i))]) hx hb d_LA_law_880 hl (by decide) rfl (fun ls hl => ?_)
    refine lv_aload_n hx hb d_LA_law_882 rfl (lv_at hl 4 rfl) ?_
    refine zrM_V (ci := 10) (q0 := 0) (As := []) (rest := []) (n := 0) (wsC := kMO cA cZ c2 cT cL s.heap.size (mS 0 1 M) z) ⟨hx, hb, hml, hown, hts⟩ (c_MO_thrown l D (laM s.heap.size) cA cZ cL (mS 0 1 M) z) ⟨km_LA_80, ki_MO_thrown, ks_MO_thrown, kn_MO, kd_MO_thrown⟩ (by decide +kernel) (by decide) ⟨(by show cs + 1 + 0 ≤ 601024; omega), (by show sl + 6 + 0 ≤ 7293000; omega)⟩ (hK.sub [0, 1, 4] rfl) h_kMO rfl rfl rfl hl.1 rfl (Nat.le_of_ble_eq_true rfl) d_LA_law_883 ?_
    refine lv_toi (z := nI 1) rfl ?_
    refine lv_iload hx hb d_LA_law_886 (lv_at hl 1 rfl) ?_
    refine z_ceq (tgt := 893) hx hb d_LA_law_888 (by decide) (by omega) (by omega) (fun _ => ?_) (fun h => absurd h (by omega))
    refine lv_iload hx hb d_LA_law_893 (lv_at hl 1 rfl) ?_
    refine z_0ne (tgt := 909) hx hb d_LA_law_895 (by decide) (by omega) (fun _ => ?_) (fun h => absurd h (by omega))
    refine lv_goto (tgt := 1221) hx hb d_LA_law_909 (by decide) ?_
    exact kk _ _ _ _ ls (by omega) (by omega) hS ⟨tc, tf, B, P, Qp, N, ah, kw, z, nn, sd, cf, lf, cn, (mS 0 1 M), fo, bk, us, u, cap, wt, tB, ⟨h_kSB, h_kBL, h_kNE, h_kP, h_kSE, h_kQ, h_kDR, h_kPI, h_kMO, h_kOU⟩, hT, hO, RelG_ag hG ⟨⟨rfl, rfl, rfl, rfl, rfl, rfl, rfl, rfl, rfl, rfl, rfl, rfl⟩, ⟨rfl, rfl, rfl, rfl⟩, rfl, rfl, rfl⟩, RelT_ag hR ⟨⟨rfl, rfl, rfl, rfl, rfl, rfl, rfl, rfl, rfl, rfl, rfl, rfl⟩, ⟨rfl, rfl, rfl, rfl⟩, rfl, rfl, rfl⟩, hq⟩ (lv_sub hl [2, 3, 4, 5, 6] rfl)
  · by_cases hw : xs (i + 2) < 0 ∨ 1 < xs (i + 2)
    · have hfb := fb1_k hkx hke hbk
      obtain ⟨T, hTs0, hfT⟩ := fb_T1 hT hfb
      refine lv_aload_n hx hb d_LA_law_845 rfl (lv_at hl 1 rfl) ?_
      refine lv_aload_n hx hb d_LA_law_846 rfl (lv_at hl 0 rfl) ?_
      refine lv_iload hx hb d_LA_law_847 (lv_at hl 4 rfl) ?_
      refine lv_iconst (v := nI 1) hx hb d_LA_law_849 (by decide) ?_
      refine z_add hx hb d_LA_law_850 ?_
      refine va_sld hx hb hX hbl hbA hS (vp_in_nI (n := (i + 1)) (by omega) (by omega)) d_LA_law_851 ?_
      refine lv_toi (z := xs (i + 1)) (congrArg xs (nI_clamp (by omega))) ?_
      refine lv_aload_n hx hb d_LA_law_852 rfl (lv_at hl 0 rfl) ?_
      refine lv_iload hx hb d_LA_law_853 (lv_at hl 4 rfl) ?_
      refine lv_iconst (v := nI 2) hx hb d_LA_law_855 (by decide) ?_
      refine z_add hx hb d_LA_law_856 ?_
      refine va_sld hx hb hX hbl hbA hS (vp_in_nI (n := (i + 2)) (by omega) (by omega)) d_LA_law_857 ?_
      refine lv_toi (z := xs (i + 2)) (congrArg xs (nI_clamp (by omega))) ?_
      refine lv_aload_n hx hb d_LA_law_858 rfl (lv_at hl 3 rfl) ?_
      have hTs : thS D cA bk us u cap tB tc (T) H := hTs0
      have hTi := thS_in (h0 := s.heap.size) hT hTs
      have hi0 : ∀ p ∈ kSB cA cZ c2 cT cL s.heap.size tc tf, (s.heap.size + 0 ≤ p.1 ∧ p.1 < s.heap.size + 2) := in_kSB
      have hn0 : va_D (fun _ => True) (kSB cA cZ c2 cT cL s.heap.size tc tf) := nd_kSB
      have hn1 : va_D (fun _ => True) ((kSB cA cZ c2 cT cL s.heap.size tc tf) ++ (T)) := nd_app hn0 hTs.2.1 (fun p hp q hq e9 => by have := hi0 p hp; have := hTi q hq; omega)
      have hi1 : ∀ p ∈ (kSB cA cZ c2 cT cL s.heap.size tc tf) ++ (T), (s.heap.size + 0 ≤ p.1 ∧ p.1 < s.heap.size + 2) ∨ (s.heap.size + 98 ≤ p.1) := fun p hp => (List.mem_append.mp hp).elim (fun h => by have := hi0 p h; omega) (fun h => by have := hTi p h; omega)
      have hw9 : ∀ p ∈ (kSB cA cZ c2 cT cL s.heap.size tc tf) ++ (T), p.1 < s.heap.size + 98 ∨ p ∈ T := fun p hp => (List.mem_append.mp hp).elim (fun h => Or.inl (by have := in_kSB p h; omega)) (fun h => Or.inr h)
      refine zg_H (V := Unit) (F := zT2) (mc := 1) (ms := 6) (As := [.ref s.heap.size, .int (xs (i + 1)), .int (xs (i + 2)), .ref (s.heap.size + 97)]) (rest := []) (n := 4) (wsC := (kSB cA cZ c2 cT cL s.heap.size tc tf) ++ (T)) (φ := fun _ => True) (wv := fun _ => (kSB cA cZ c2 cT cL s.heap.size tc tf) ++ (T)) (rv := .int (nI 1)) zT2_ok ⟨hx, hb, hml, hown, hts⟩ (met_u (h_at_x l D htl _ (fun k => s.heap.size + k) (fun k => s.heap.size + 2 + k) (fun k => s.heap.size + 11 + k) (fun k => s.heap.size + 15 + k) (fun k => s.heap.size + 30 + 16 * k) (laI s.heap.size) cA cZ c2 cT tc tf (s.heap.size + 97) T (xs (i + 1)) (nI bx) (xs (i + 2)) h40 hfT (Or.inr hw))) ⟨km_LA_110, kst_LA_at, kn_LA, kw_LA_at⟩ (by decide +kernel) (by decide) ⟨(by show cs + 1 ≤ 601024; omega), (by show sl + 6 ≤ 7293000; omega)⟩ (hK.sub [0, 1, 2, 3] rfl) ((h_kSB).app hTs.1) hn1 hS (la_A hS (fun p hp => by have := hi1 p hp; omega)) hF2 rfl hl.1 rfl (Nat.le_of_ble_eq_true rfl) d_LA_law_859 (fun _ H1 locs1 hph hP1 hz1 hf1 hS1 => ?_)
      have hq1 := va_P.right hP1
      have hr1 := va_P.left hP1
      have hq0 := hr1
      have h_kBL := hf1.far h_kBL in_kBL (fun p hp => by have := hi1 p hp; omega)
      have h_kNE := hf1.far h_kNE in_kNE (fun p hp => by have := hi1 p hp; omega)
      have h_kP := hf1.far h_kP in_kP (fun p hp => by have := hi1 p hp; omega)
      have h_kSE := hf1.far h_kSE in_kSE (fun p hp => by have := hi1 p hp; omega)
      have h_kQ := hf1.far h_kQ in_kQ (fun p hp => by have := hi1 p hp; omega)
      have h_kDR := hf1.far h_kDR in_kDR (fun p hp => by have := hi1 p hp; omega)
      have h_kPI := hf1.far h_kPI in_kPI (fun p hp => by have := hi1 p hp; omega)
      have h_kMO := hf1.far h_kMO in_kMO (fun p hp => by have := hi1 p hp; omega)
      have h_kOU := hf1.far h_kOU in_kOU (fun p hp => by have := hi1 p hp; omega)
      have h_kSB := hq0
      have hT := th_kept hT hO hf1 hw9 hTs hq1
      have hS := hS1
      clear hf1 hS1 hP1 hn0 hi0 hn1 hi1
      refine lv_istore (lv' := [(5, .int (nI 1)), (0, .ref b), (1, .ref s.heap.size), (2, .ref (s.heap.size + 69)), (3, .ref (s.heap.size + 97)), (4, .int (nI i))]) hx hb d_LA_law_862 hl (by decide) rfl (fun ls hl => ?_)
      refine lv_aload_n hx hb d_LA_law_864 rfl (lv_at hl 3 rfl) ?_
      refine lv_aload_n hx hb d_LA_law_865 rfl (lv_at hl 1 rfl) ?_
      refine lv_iload hx hb d_LA_law_866 (lv_at hl 5 rfl) ?_
      refine lv_iconst (v := nI 1) hx hb d_LA_law_868 (by decide) ?_
      refine z_add hx hb d_LA_law_869 ?_
      refine va_sld hx hb hX hbl hbA hS (vp_in_nI (n := (i + 1)) (by omega) (by omega)) d_LA_law_870 ?_
      refine lv_toi (z := xs (i + 1)) (congrArg xs (nI_clamp (by omega))) ?_
      refine lv_aload_n hx hb d_LA_law_871 rfl (lv_at hl 1 rfl) ?_
      refine lv_iload hx hb d_LA_law_872 (lv_at hl 5 rfl) ?_
      refine lv_iconst (v := nI 2) hx hb d_LA_law_874 (by decide) ?_
      refine z_add hx hb d_LA_law_875 ?_
      refine va_sld hx hb hX hbl hbA hS (vp_in_nI (n := (i + 2)) (by omega) (by omega)) d_LA_law_876 ?_
      refine lv_toi (z := xs (i + 2)) (congrArg xs (nI_clamp (by omega))) ?_
      have hi0 : ∀ p ∈ kMO cA cZ c2 cT cL s.heap.size M z, (s.heap.size + 69 ≤ p.1 ∧ p.1 < s.heap.size + 97) := in_kMO
      have hn0 : va_D (fun _ => True) (kMO cA cZ c2 cT cL s.heap.size M z) := nd_kMO
      refine zg_V (V := Unit) (ci := 10) (q0 := 0) (As := [.int (xs (i + 1)), .int (xs (i + 2))]) (rest := []) (n := 2) (wsC := kMO cA cZ c2 cT cL s.heap.size M z) (φ := fun _ => True) (wv := fun _ => kMO cA cZ c2 cT cL s.heap.size (mS 0 1 M) z) (rv := .long (lN 0)) ⟨hx, hb, hml, hown, hts⟩ (met_u (c_MO_at_no l D _ (laM s.heap.size) cA cZ cL M z (xs (i + 1)) (xs (i + 2)) (by omega) (Or.inr hw))) ⟨km_LA_112, ki_MO_at, ks_MO_at, kn_MO, kd_MO_at⟩ (by decide +kernel) (by decide) ⟨(by show cs + 1 + 0 ≤ 601024; omega), (by show sl + 6 + 0 ≤ 7293000; omega)⟩ (hK.sub [0, 1, 4] rfl) (h_kMO) hn0 hS (la_A hS (fun p hp => by have := hi0 p hp; omega)) rfl rfl rfl hl.1 rfl (Nat.le_of_ble_eq_true rfl) d_LA_law_877 (fun _ H1 locs1 hph hP1 hz1 hf1 hS1 => ?_)
      have hq0 := hP1
      have h_kSB := hf1.far h_kSB in_kSB (fun p hp => by have := hi0 p hp; omega)
      have h_kBL := hf1.far h_kBL in_kBL (fun p hp => by have := hi0 p hp; omega)
      have h_kNE := hf1.far h_kNE in_kNE (fun p hp => by have := hi0 p hp; omega)
      have h_kP := hf1.far h_kP in_kP (fun p hp => by have := hi0 p hp; omega)
      have h_kSE := hf1.far h_kSE in_kSE (fun p hp => by have := hi0 p hp; omega)
      have h_kQ := hf1.far h_kQ in_kQ (fun p hp => by have := hi0 p hp; omega)
      have h_kDR := hf1.far h_kDR in_kDR (fun p hp => by have := hi0 p hp; omega)
      have h_kPI := hf1.far h_kPI in_kPI (fun p hp => by have := hi0 p hp; omega)
      have h_kOU := hf1.far h_kOU in_kOU (fun p hp => by have := hi0 p hp; omega)
      have h_kMO := hq0
      have hT := th_kept0 hT hO hf1 (fun p hp => by have := hi0 p hp; omega)
      have hS := hS1
      clear hf1 hS1 hP1 hn0 hi0
      refine lv_lstore (lv' := [(6, .long (lN 0)), (5, .int (nI 1)), (0, .ref b), (1, .ref s.heap.size), (2, .ref (s.heap.size + 69)), (3, .ref (s.heap.size + 97)), (4, .int (nI i))]) hx hb d_LA_law_880 hl (by decide) rfl (fun ls hl => ?_)
      refine lv_aload_n hx hb d_LA_law_882 rfl (lv_at hl 4 rfl) ?_
      refine zrM_V (ci := 10) (q0 := 0) (As := []) (rest := []) (n := 0) (wsC := kMO cA cZ c2 cT cL s.heap.size (mS 0 1 M) z) ⟨hx, hb, hml, hown, hts⟩ (c_MO_thrown l D (laM s.heap.size) cA cZ cL (mS 0 1 M) z) ⟨km_LA_80, ki_MO_thrown, ks_MO_thrown, kn_MO, kd_MO_thrown⟩ (by decide +kernel) (by decide) ⟨(by show cs + 1 + 0 ≤ 601024; omega), (by show sl + 6 + 0 ≤ 7293000; omega)⟩ (hK.sub [0, 1, 4] rfl) h_kMO rfl rfl rfl hl.1 rfl (Nat.le_of_ble_eq_true rfl) d_LA_law_883 ?_
      refine lv_toi (z := nI 1) rfl ?_
      refine lv_iload hx hb d_LA_law_886 (lv_at hl 1 rfl) ?_
      refine z_ceq (tgt := 893) hx hb d_LA_law_888 (by decide) (by omega) (by omega) (fun _ => ?_) (fun h => absurd h (by omega))
      refine lv_iload hx hb d_LA_law_893 (lv_at hl 1 rfl) ?_
      refine z_0ne (tgt := 909) hx hb d_LA_law_895 (by decide) (by omega) (fun _ => ?_) (fun h => absurd h (by omega))
      refine lv_goto (tgt := 1221) hx hb d_LA_law_909 (by decide) ?_
      exact kk _ _ _ _ ls (by omega) (by omega) hS ⟨tc, tf, B, P, Qp, N, ah, kw, z, nn, sd, cf, lf, cn, (mS 0 1 M), fo, bk, us, u, cap, wt, tB, ⟨h_kSB, h_kBL, h_kNE, h_kP, h_kSE, h_kQ, h_kDR, h_kPI, h_kMO, h_kOU⟩, hT, hO, RelG_ag hG ⟨⟨rfl, rfl, rfl, rfl, rfl, rfl, rfl, rfl, rfl, rfl, rfl, rfl⟩, ⟨rfl, rfl, rfl, rfl⟩, rfl, rfl, rfl⟩, RelT_ag hR ⟨⟨rfl, rfl, rfl, rfl, rfl, rfl, rfl, rfl, rfl, rfl, rfl, rfl⟩, ⟨rfl, rfl, rfl, rfl⟩, rfl, rfl, rfl⟩, hq⟩ (lv_sub hl [2, 3, 4, 5, 6] rfl)
    · have hb16 : bx < 16 := by omega
      have hbf2 : bfind (M.1 10) (nI kx) (M.2.2.1 17) = some bx := by rw [← hke]; exact hbf
      have hGv := RelG_ag hG (ag_v M)
      have hgb : P.1 4 bx ≤ 36000 ∧ P.1 5 bx ≤ 36000 ∧ P.1 6 bx ≤ 36000 ∧ P.1 7 bx ≤ 36000 := hG.1.2.2.2.1.2.2 bx hbx
      obtain ⟨j, hj, hje⟩ := ax_of hw
      rcases hj with rfl | rfl
      · refine lv_aload_n hx hb d_LA_law_845 rfl (lv_at hl 1 rfl) ?_
        refine lv_aload_n hx hb d_LA_law_846 rfl (lv_at hl 0 rfl) ?_
        refine lv_iload hx hb d_LA_law_847 (lv_at hl 4 rfl) ?_
        refine lv_iconst (v := nI 1) hx hb d_LA_law_849 (by decide) ?_
        refine z_add hx hb d_LA_law_850 ?_
        refine va_sld hx hb hX hbl hbA hS (vp_in_nI (n := (i + 1)) (by omega) (by omega)) d_LA_law_851 ?_
        refine lv_toi (z := (nI kx)) ((congrArg xs (nI_clamp (by omega))).trans hke) ?_
        refine lv_aload_n hx hb d_LA_law_852 rfl (lv_at hl 0 rfl) ?_
        refine lv_iload hx hb d_LA_law_853 (lv_at hl 4 rfl) ?_
        refine lv_iconst (v := nI 2) hx hb d_LA_law_855 (by decide) ?_
        refine z_add hx hb d_LA_law_856 ?_
        refine va_sld hx hb hX hbl hbA hS (vp_in_nI (n := (i + 2)) (by omega) (by omega)) d_LA_law_857 ?_
        refine lv_toi (z := (nI 0)) ((congrArg xs (nI_clamp (by omega))).trans hje) ?_
        refine lv_aload_n hx hb d_LA_law_858 rfl (lv_at hl 3 rfl) ?_
        have hTs : thS D cA bk us u cap tB tc (lTO cA (tB kx) (nI bx) (us kx)) H := thS_o hT hkx hbk
        have hTi := thS_in (h0 := s.heap.size) hT hTs
        have hi0 : ∀ p ∈ kP cA cZ c2 cT cL s.heap.size P, (s.heap.size + 15 ≤ p.1 ∧ p.1 < s.heap.size + 30) := in_kP
        have hn0 : va_D (fun _ => True) (kP cA cZ c2 cT cL s.heap.size P) := nd_kP
        have hn1 : va_D (fun _ => True) ((kP cA cZ c2 cT cL s.heap.size P) ++ (kSB cA cZ c2 cT cL s.heap.size tc tf)) := nd_app hn0 nd_kSB (fun p hp q hq e9 => by have := hi0 p hp; have := in_kSB q hq; omega)
        have hi1 : ∀ p ∈ (kP cA cZ c2 cT cL s.heap.size P) ++ (kSB cA cZ c2 cT cL s.heap.size tc tf), (s.heap.size + 15 ≤ p.1 ∧ p.1 < s.heap.size + 30) ∨ (s.heap.size + 0 ≤ p.1 ∧ p.1 < s.heap.size + 2) := fun p hp => (List.mem_append.mp hp).elim (fun h => by have := hi0 p h; omega) (fun h => by have := in_kSB p h; omega)
        have hn2 : va_D (fun _ => True) (((kP cA cZ c2 cT cL s.heap.size P) ++ (kSB cA cZ c2 cT cL s.heap.size tc tf)) ++ (lTO cA (tB kx) (nI bx) (us kx))) := nd_app hn1 hTs.2.1 (fun p hp q hq e9 => by have := hi1 p hp; have := hTi q hq; omega)
        have hi2 : ∀ p ∈ ((kP cA cZ c2 cT cL s.heap.size P) ++ (kSB cA cZ c2 cT cL s.heap.size tc tf)) ++ (lTO cA (tB kx) (nI bx) (us kx)), (s.heap.size + 15 ≤ p.1 ∧ p.1 < s.heap.size + 30) ∨ (s.heap.size + 0 ≤ p.1 ∧ p.1 < s.heap.size + 2) ∨ (s.heap.size + 98 ≤ p.1) := fun p hp => (List.mem_append.mp hp).elim (fun h => by have := hi1 p h; omega) (fun h => by have := hTi p h; omega)
        have hn3 : va_D (fun _ => True) ((((kP cA cZ c2 cT cL s.heap.size P) ++ (kSB cA cZ c2 cT cL s.heap.size tc tf)) ++ (lTO cA (tB kx) (nI bx) (us kx))) ++ (kOU cA cZ c2 cT cL s.heap.size fo)) := nd_app hn2 nd_kOU (fun p hp q hq e9 => by have := hi2 p hp; have := in_kOU q hq; omega)
        have hi3 : ∀ p ∈ (((kP cA cZ c2 cT cL s.heap.size P) ++ (kSB cA cZ c2 cT cL s.heap.size tc tf)) ++ (lTO cA (tB kx) (nI bx) (us kx))) ++ (kOU cA cZ c2 cT cL s.heap.size fo), (s.heap.size + 15 ≤ p.1 ∧ p.1 < s.heap.size + 30) ∨ (s.heap.size + 0 ≤ p.1 ∧ p.1 < s.heap.size + 2) ∨ (s.heap.size + 98 ≤ p.1) ∨ (s.heap.size + 97 ≤ p.1 ∧ p.1 < s.heap.size + 98) := fun p hp => (List.mem_append.mp hp).elim (fun h => by have := hi2 p h; omega) (fun h => by have := in_kOU p h; omega)
        have hw9 : ∀ p ∈ (((kP cA cZ c2 cT cL s.heap.size P) ++ (kSB cA cZ c2 cT cL s.heap.size tc tf)) ++ (lTO cA (tB kx) (nI bx) (us kx))) ++ (kOU cA cZ c2 cT cL s.heap.size fo), p.1 < s.heap.size + 98 ∨ p ∈ lTO cA (tB kx) (nI bx) (us kx) := fun p hp => (List.mem_append.mp hp).elim (fun h => (List.mem_append.mp h).elim (fun h => (List.mem_append.mp h).elim (fun h => Or.inl (by have := in_kP p h; omega)) (fun h => Or.inl (by have := in_kSB p h; omega))) (fun h => Or.inr h)) (fun h => Or.inl (by have := in_kOU p h; omega))
        refine zg_H (V := Unit) (F := zF0) (mc := 0) (ms := 0) (As := [.ref s.heap.size, .int (nI kx), .int (nI 0), .ref (s.heap.size + 97)]) (rest := []) (n := 4) (wsC := (((kP cA cZ c2 cT cL s.heap.size P) ++ (kSB cA cZ c2 cT cL s.heap.size tc tf)) ++ (lTO cA (tB kx) (nI bx) (us kx))) ++ (kOU cA cZ c2 cT cL s.heap.size fo)) (φ := fun _ => True) (wv := fun _ => (((kP cA cZ c2 cT cL s.heap.size P) ++ (kSB cA cZ c2 cT cL s.heap.size tc tf)) ++ (lTO cA (tB kx) (nI bx) (us kx))) ++ (kOU cA cZ c2 cT cL s.heap.size (o1 fo (lN (P.1 4 bx))))) (rv := .int (nI 0)) zF0_ok ⟨hx, hb, hml, hown, hts⟩ (met_u (met_f (h_at_0 l D _ (fun k => s.heap.size + k) (fun k => s.heap.size + 2 + k) (fun k => s.heap.size + 11 + k) (fun k => s.heap.size + 15 + k) (fun k => s.heap.size + 30 + 16 * k) (laI s.heap.size) cA cZ c2 cT tc tf (s.heap.size + 97) cL fo (tB kx) (tB kx + 1) (us kx) P kx bx h40 hkx (hT kx hkx).2.2 hb16 (by omega)))) ⟨km_LA_110, kst_LA_at, kn_LA, kw_LA_at⟩ (by decide +kernel) (by decide) ⟨(by show cs + 0 ≤ 601024; omega), (by show sl + 0 ≤ 7293000; omega)⟩ (hK.sub [0, 1, 2, 3, 4] rfl) ((((h_kP).app h_kSB).app hTs.1).app h_kOU) hn3 hS (la_A hS (fun p hp => by have := hi3 p hp; omega)) trivial rfl hl.1 rfl (Nat.le_of_ble_eq_true rfl) d_LA_law_859 (fun _ H1 locs1 hph hP1 hz1 hf1 hS1 => ?_)
        have hq3 := va_P.right hP1
        have hr3 := va_P.left hP1
        have hq2 := va_P.right hr3
        have hr2 := va_P.left hr3
        have hq1 := va_P.right hr2
        have hr1 := va_P.left hr2
        have hq0 := hr1
        have h_kBL := hf1.far h_kBL in_kBL (fun p hp => by have := hi3 p hp; omega)
        have h_kNE := hf1.far h_kNE in_kNE (fun p hp => by have := hi3 p hp; omega)
        have h_kSE := hf1.far h_kSE in_kSE (fun p hp => by have := hi3 p hp; omega)
        have h_kQ := hf1.far h_kQ in_kQ (fun p hp => by have := hi3 p hp; omega)
        have h_kDR := hf1.far h_kDR in_kDR (fun p hp => by have := hi3 p hp; omega)
        have h_kPI := hf1.far h_kPI in_kPI (fun p hp => by have := hi3 p hp; omega)
        have h_kMO := hf1.far h_kMO in_kMO (fun p hp => by have := hi3 p hp; omega)
        have h_kP := hq0
        have h_kSB := hq1
        have h_kOU := hq3
        have hT := th_kept hT hO hf1 hw9 hTs hq2
        have hS := hS1
        clear hf1 hS1 hP1 hn0 hi0 hn1 hi1 hn2 hi2 hn3 hi3
        refine lv_istore (lv' := [(5, .int (nI 0)), (0, .ref b), (1, .ref s.heap.size), (2, .ref (s.heap.size + 69)), (3, .ref (s.heap.size + 97)), (4, .int (nI i))]) hx hb d_LA_law_862 hl (by decide) rfl (fun ls hl => ?_)
        refine lv_aload_n hx hb d_LA_law_864 rfl (lv_at hl 3 rfl) ?_
        refine lv_aload_n hx hb d_LA_law_865 rfl (lv_at hl 1 rfl) ?_
        refine lv_iload hx hb d_LA_law_866 (lv_at hl 5 rfl) ?_
        refine lv_iconst (v := nI 1) hx hb d_LA_law_868 (by decide) ?_
        refine z_add hx hb d_LA_law_869 ?_
        refine va_sld hx hb hX hbl hbA hS (vp_in_nI (n := (i + 1)) (by omega) (by omega)) d_LA_law_870 ?_
        refine lv_toi (z := (nI kx)) ((congrArg xs (nI_clamp (by omega))).trans hke) ?_
        refine lv_aload_n hx hb d_LA_law_871 rfl (lv_at hl 1 rfl) ?_
        refine lv_iload hx hb d_LA_law_872 (lv_at hl 5 rfl) ?_
        refine lv_iconst (v := nI 2) hx hb d_LA_law_874 (by decide) ?_
        refine z_add hx hb d_LA_law_875 ?_
        refine va_sld hx hb hX hbl hbA hS (vp_in_nI (n := (i + 2)) (by omega) (by omega)) d_LA_law_876 ?_
        refine lv_toi (z := (nI 0)) ((congrArg xs (nI_clamp (by omega))).trans hje) ?_
        have hi0 : ∀ p ∈ kMO cA cZ c2 cT cL s.heap.size M z, (s.heap.size + 69 ≤ p.1 ∧ p.1 < s.heap.size + 97) := in_kMO
        have hn0 : va_D (fun _ => True) (kMO cA cZ c2 cT cL s.heap.size M z) := nd_kMO
        refine zg_V (V := V5) (ci := 10) (q0 := 0) (As := [.int (nI kx), .int (nI 0)]) (rest := []) (n := 2) (wsC := kMO cA cZ c2 cT cL s.heap.size M z) (φ := fun v2 => v2.1 = M.1 21 ∧ v2.2.1 = M.1 22 ∧ v2.2.2.1 = M.2.1 23) (wv := fun v2 => kMO cA cZ c2 cT cL s.heap.size (mq (mS 0 0 M) v2) z) (rv := .long (lN (P.1 4 bx))) ⟨hx, hb, hml, hown, hts⟩ (r_at_0 l D _ (laM s.heap.size) cA cZ cL M z (vM M) B.2.2.2 B P (nI kx) bx h16 hGv.2.2.1.1 hGv.2.2.1.2.1 hG.2.2.1.2.2 hG.1.2.2.1 hG.1.2.2.2.1 hG.1.2.2.2.2.1 hbf2 hbx) ⟨km_LA_112, ki_MO_at, ks_MO_at, kn_MO, kd_MO_at⟩ (by decide +kernel) (by decide) ⟨(by show cs + 0 ≤ 601024; omega), (by show sl + 0 ≤ 7293000; omega)⟩ (hK.sub [0, 1, 4] rfl) (h_kMO) hn0 hS (la_A hS (fun p hp => by have := hi0 p hp; omega)) rfl rfl rfl hl.1 rfl (Nat.le_of_ble_eq_true rfl) d_LA_law_877 (fun v2 H1 locs1 hph hP1 hz1 hf1 hS1 => ?_)
        have hq0 := hP1
        have h_kSB := hf1.far h_kSB in_kSB (fun p hp => by have := hi0 p hp; omega)
        have h_kBL := hf1.far h_kBL in_kBL (fun p hp => by have := hi0 p hp; omega)
        have h_kNE := hf1.far h_kNE in_kNE (fun p hp => by have := hi0 p hp; omega)
        have h_kP := hf1.far h_kP in_kP (fun p hp => by have := hi0 p hp; omega)
        have h_kSE := hf1.far h_kSE in_kSE (fun p hp => by have := hi0 p hp; omega)
        have h_kQ := hf1.far h_kQ in_kQ (fun p hp => by have := hi0 p hp; omega)
        have h_kDR := hf1.far h_kDR in_kDR (fun p hp => by have := hi0 p hp; omega)
        have h_kPI := hf1.far h_kPI in_kPI (fun p hp => by have := hi0 p hp; omega)
        have h_kOU := hf1.far h_kOU in_kOU (fun p hp => by have := hi0 p hp; omega)
        have h_kMO := hq0
        have hT := th_kept0 hT hO hf1 (fun p hp => by have := hi0 p hp; omega)
        have hS := hS1
        clear hf1 hS1 hP1 hn0 hi0
        refine lv_lstore (lv' := [(6, .long (lN (P.1 4 bx))), (5, .int (nI 0)), (0, .ref b), (1, .ref s.heap.size), (2, .ref (s.heap.size + 69)), (3, .ref (s.heap.size + 97)), (4, .int (nI i))]) hx hb d_LA_law_880 hl (by decide) rfl (fun ls hl => ?_)
        refine lv_aload_n hx hb d_LA_law_882 rfl (lv_at hl 4 rfl) ?_
        refine zrM_V (ci := 10) (q0 := 0) (As := []) (rest := []) (n := 0) (wsC := kMO cA cZ c2 cT cL s.heap.size (mq (mS 0 0 M) v2) z) ⟨hx, hb, hml, hown, hts⟩ (c_MO_thrown l D (laM s.heap.size) cA cZ cL (mq (mS 0 0 M) v2) z) ⟨km_LA_80, ki_MO_thrown, ks_MO_thrown, kn_MO, kd_MO_thrown⟩ (by decide +kernel) (by decide) ⟨(by show cs + 0 ≤ 601024; omega), (by show sl + 0 ≤ 7293000; omega)⟩ (hK.sub [0, 1, 4] rfl) h_kMO rfl rfl rfl hl.1 rfl (Nat.le_of_ble_eq_true rfl) d_LA_law_883 ?_
        refine lv_toi (z := nI 0) rfl ?_
        refine lv_iload hx hb d_LA_law_886 (lv_at hl 1 rfl) ?_
        refine z_ceq (tgt := 893) hx hb d_LA_law_888 (by decide) (by omega) (by omega) (fun _ => ?_) (fun h => absurd h (by omega))
        refine lv_iload hx hb d_LA_law_893 (lv_at hl 1 rfl) ?_
        refine z_0ne (tgt := 909) hx hb d_LA_law_895 (by decide) (by omega) (fun h => absurd h (by omega)) (fun _ => ?_)
        refine lv_aload_n hx hb d_LA_law_898 rfl (lv_at hl 5 rfl) ?_
        refine lv_iconst (v := nI 0) hx hb d_LA_law_899 (by decide) ?_
        refine va_lald hx hb hK h_kOU 0 4 rfl rfl (vp_in_nI (n := 0) (by decide) (by decide)) d_LA_law_900 ?_
        refine lv_tol (z := lN (P.1 4 bx)) rfl ?_
        refine lv_lload hx hb d_LA_law_901 (lv_at hl 0 rfl) ?_
        refine y_leq (tgt := 909) hx hb d_LA_law_903 d_LA_law_904 (by decide) (fun _ => ?_) (fun c9 => absurd rfl c9)
        refine lv_goto (tgt := 1221) hx hb d_LA_law_909 (by decide) ?_
        exact kk _ _ _ _ ls (by omega) (by omega) hS ⟨tc, tf, B, P, Qp, N, ah, kw, z, nn, sd, cf, lf, cn, (mq (mS 0 0 M) v2), (o1 fo (lN (P.1 4 bx))), bk, us, u, cap, wt, tB, ⟨h_kSB, h_kBL, h_kNE, h_kP, h_kSE, h_kQ, h_kDR, h_kPI, h_kMO, h_kOU⟩, hT, hO, RelG_ag hG (ag_q hph.1 hph.2.1 hph.2.2), RelT_ag hR (ag_q hph.1 hph.2.1 hph.2.2), hq⟩ (lv_sub hl [2, 3, 4, 5, 6] rfl)
      · refine lv_aload_n hx hb d_LA_law_845 rfl (lv_at hl 1 rfl) ?_
        refine lv_aload_n hx hb d_LA_law_846 rfl (lv_at hl 0 rfl) ?_
        refine lv_iload hx hb d_LA_law_847 (lv_at hl 4 rfl) ?_
        refine lv_iconst (v := nI 1) hx hb d_LA_law_849 (by decide) ?_
        refine z_add hx hb d_LA_law_850 ?_
        refine va_sld hx hb hX hbl hbA hS (vp_in_nI (n := (i + 1)) (by omega) (by omega)) d_LA_law_851 ?_
        refine lv_toi (z := (nI kx)) ((congrArg xs (nI_clamp (by omega))).trans hke) ?_
        refine lv_aload_n hx hb d_LA_law_852 rfl (lv_at hl 0 rfl) ?_
        refine lv_iload hx hb d_LA_law_853 (lv_at hl 4 rfl) ?_
        refine lv_iconst (v := nI 2) hx hb d_LA_law_855 (by decide) ?_
        refine z_add hx hb d_LA_law_856 ?_
        refine va_sld hx hb hX hbl hbA hS (vp_in_nI (n := (i + 2)) (by omega) (by omega)) d_LA_law_857 ?_
        refine lv_toi (z := (nI 1)) ((congrArg xs (nI_clamp (by omega))).trans hje) ?_
        refine lv_aload_n hx hb d_LA_law_858 rfl (lv_at hl 3 rfl) ?_
        have hTs : thS D cA bk us u cap tB tc (lTO cA (tB kx) (nI bx) (us kx)) H := thS_o hT hkx hbk
        have hTi := thS_in (h0 := s.heap.size) hT hTs
        have hi0 : ∀ p ∈ kP cA cZ c2 cT cL s.heap.size P, (s.heap.size + 15 ≤ p.1 ∧ p.1 < s.heap.size + 30) := in_kP
        have hn0 : va_D (fun _ => True) (kP cA cZ c2 cT cL s.heap.size P) := nd_kP
        have hn1 : va_D (fun _ => True) ((kP cA cZ c2 cT cL s.heap.size P) ++ (kSB cA cZ c2 cT cL s.heap.size tc tf)) := nd_app hn0 nd_kSB (fun p hp q hq e9 => by have := hi0 p hp; have := in_kSB q hq; omega)
        have hi1 : ∀ p ∈ (kP cA cZ c2 cT cL s.heap.size P) ++ (kSB cA cZ c2 cT cL s.heap.size tc tf), (s.heap.size + 15 ≤ p.1 ∧ p.1 < s.heap.size + 30) ∨ (s.heap.size + 0 ≤ p.1 ∧ p.1 < s.heap.size + 2) := fun p hp => (List.mem_append.mp hp).elim (fun h => by have := hi0 p h; omega) (fun h => by have := in_kSB p h; omega)
        have hn2 : va_D (fun _ => True) (((kP cA cZ c2 cT cL s.heap.size P) ++ (kSB cA cZ c2 cT cL s.heap.size tc tf)) ++ (lTO cA (tB kx) (nI bx) (us kx))) := nd_app hn1 hTs.2.1 (fun p hp q hq e9 => by have := hi1 p hp; have := hTi q hq; omega)
        have hi2 : ∀ p ∈ ((kP cA cZ c2 cT cL s.heap.size P) ++ (kSB cA cZ c2 cT cL s.heap.size tc tf)) ++ (lTO cA (tB kx) (nI bx) (us kx)), (s.heap.size + 15 ≤ p.1 ∧ p.1 < s.heap.size + 30) ∨ (s.heap.size + 0 ≤ p.1 ∧ p.1 < s.heap.size + 2) ∨ (s.heap.size + 98 ≤ p.1) := fun p hp => (List.mem_append.mp hp).elim (fun h => by have := hi1 p h; omega) (fun h => by have := hTi p h; omega)
        have hn3 : va_D (fun _ => True) ((((kP cA cZ c2 cT cL s.heap.size P) ++ (kSB cA cZ c2 cT cL s.heap.size tc tf)) ++ (lTO cA (tB kx) (nI bx) (us kx))) ++ (kOU cA cZ c2 cT cL s.heap.size fo)) := nd_app hn2 nd_kOU (fun p hp q hq e9 => by have := hi2 p hp; have := in_kOU q hq; omega)
        have hi3 : ∀ p ∈ (((kP cA cZ c2 cT cL s.heap.size P) ++ (kSB cA cZ c2 cT cL s.heap.size tc tf)) ++ (lTO cA (tB kx) (nI bx) (us kx))) ++ (kOU cA cZ c2 cT cL s.heap.size fo), (s.heap.size + 15 ≤ p.1 ∧ p.1 < s.heap.size + 30) ∨ (s.heap.size + 0 ≤ p.1 ∧ p.1 < s.heap.size + 2) ∨ (s.heap.size + 98 ≤ p.1) ∨ (s.heap.size + 97 ≤ p.1 ∧ p.1 < s.heap.size + 98) := fun p hp => (List.mem_append.mp hp).elim (fun h => by have := hi2 p h; omega) (fun h => by have := in_kOU p h; omega)
        have hw9 : ∀ p ∈ (((kP cA cZ c2 cT cL s.heap.size P) ++ (kSB cA cZ c2 cT cL s.heap.size tc tf)) ++ (lTO cA (tB kx) (nI bx) (us kx))) ++ (kOU cA cZ c2 cT cL s.heap.size fo), p.1 < s.heap.size + 98 ∨ p ∈ lTO cA (tB kx) (nI bx) (us kx) := fun p hp => (List.mem_append.mp hp).elim (fun h => (List.mem_append.mp h).elim (fun h => (List.mem_append.mp h).elim (fun h => Or.inl (by have := in_kP p h; omega)) (fun h => Or.inl (by have := in_kSB p h; omega))) (fun h => Or.inr h)) (fun h => Or.inl (by have := in_kOU p h; omega))
        refine zg_H (V := Unit) (F := zF0) (mc := 0) (ms := 0) (As := [.ref s.heap.size, .int (nI kx), .int (nI 1), .ref (s.heap.size + 97)]) (rest := []) (n := 4) (wsC := (((kP cA cZ c2 cT cL s.heap.size P) ++ (kSB cA cZ c2 cT cL s.heap.size tc tf)) ++ (lTO cA (tB kx) (nI bx) (us kx))) ++ (kOU cA cZ c2 cT cL s.heap.size fo)) (φ := fun _ => True) (wv := fun _ => (((kP cA cZ c2 cT cL s.heap.size P) ++ (kSB cA cZ c2 cT cL s.heap.size tc tf)) ++ (lTO cA (tB kx) (nI bx) (us kx))) ++ (kOU cA cZ c2 cT cL s.heap.size (o1 fo (lN (P.1 5 bx))))) (rv := .int (nI 0)) zF0_ok ⟨hx, hb, hml, hown, hts⟩ (met_u (met_f (h_at_1 l D _ (fun k => s.heap.size + k) (fun k => s.heap.size + 2 + k) (fun k => s.heap.size + 11 + k) (fun k => s.heap.size + 15 + k) (fun k => s.heap.size + 30 + 16 * k) (laI s.heap.size) cA cZ c2 cT tc tf (s.heap.size + 97) cL fo (tB kx) (tB kx + 1) (us kx) P kx bx h40 hkx (hT kx hkx).2.2 hb16 (by omega)))) ⟨km_LA_110, kst_LA_at, kn_LA, kw_LA_at⟩ (by decide +kernel) (by decide) ⟨(by show cs + 0 ≤ 601024; omega), (by show sl + 0 ≤ 7293000; omega)⟩ (hK.sub [0, 1, 2, 3, 4] rfl) ((((h_kP).app h_kSB).app hTs.1).app h_kOU) hn3 hS (la_A hS (fun p hp => by have := hi3 p hp; omega)) trivial rfl hl.1 rfl (Nat.le_of_ble_eq_true rfl) d_LA_law_859 (fun _ H1 locs1 hph hP1 hz1 hf1 hS1 => ?_)
        have hq3 := va_P.right hP1
        have hr3 := va_P.left hP1
        have hq2 := va_P.right hr3
        have hr2 := va_P.left hr3
        have hq1 := va_P.right hr2
        have hr1 := va_P.left hr2
        have hq0 := hr1
        have h_kBL := hf1.far h_kBL in_kBL (fun p hp => by have := hi3 p hp; omega)
        have h_kNE := hf1.far h_kNE in_kNE (fun p hp => by have := hi3 p hp; omega)
        have h_kSE := hf1.far h_kSE in_kSE (fun p hp => by have := hi3 p hp; omega)
        have h_kQ := hf1.far h_kQ in_kQ (fun p hp => by have := hi3 p hp; omega)
        have h_kDR := hf1.far h_kDR in_kDR (fun p hp => by have := hi3 p hp; omega)
        have h_kPI := hf1.far h_kPI in_kPI (fun p hp => by have := hi3 p hp; omega)
        have h_kMO := hf1.far h_kMO in_kMO (fun p hp => by have := hi3 p hp; omega)
        have h_kP := hq0
        have h_kSB := hq1
        have h_kOU := hq3
        have hT := th_kept hT hO hf1 hw9 hTs hq2
        have hS := hS1
        clear hf1 hS1 hP1 hn0 hi0 hn1 hi1 hn2 hi2 hn3 hi3
        refine lv_istore (lv' := [(5, .int (nI 0)), (0, .ref b), (1, .ref s.heap.size), (2, .ref (s.heap.size + 69)), (3, .ref (s.heap.size + 97)), (4, .int (nI i))]) hx hb d_LA_law_862 hl (by decide) rfl (fun ls hl => ?_)
        refine lv_aload_n hx hb d_LA_law_864 rfl (lv_at hl 3 rfl) ?_
        refine lv_aload_n hx hb d_LA_law_865 rfl (lv_at hl 1 rfl) ?_
        refine lv_iload hx hb d_LA_law_866 (lv_at hl 5 rfl) ?_
        refine lv_iconst (v := nI 1) hx hb d_LA_law_868 (by decide) ?_
        refine z_add hx hb d_LA_law_869 ?_
        refine va_sld hx hb hX hbl hbA hS (vp_in_nI (n := (i + 1)) (by omega) (by omega)) d_LA_law_870 ?_
        refine lv_toi (z := (nI kx)) ((congrArg xs (nI_clamp (by omega))).trans hke) ?_
        refine lv_aload_n hx hb d_LA_law_871 rfl (lv_at hl 1 rfl) ?_
        refine lv_iload hx hb d_LA_law_872 (lv_at hl 5 rfl) ?_
        refine lv_iconst (v := nI 2) hx hb d_LA_law_874 (by decide) ?_
        refine z_add hx hb d_LA_law_875 ?_
        refine va_sld hx hb hX hbl hbA hS (vp_in_nI (n := (i + 2)) (by omega) (by omega)) d_LA_law_876 ?_
        refine lv_toi (z := (nI 1)) ((congrArg xs (nI_clamp (by omega))).trans hje) ?_
        have hi0 : ∀ p ∈ kMO cA cZ c2 cT cL s.heap.size M z, (s.heap.size + 69 ≤ p.1 ∧ p.1 < s.heap.size + 97) := in_kMO
        have hn0 : va_D (fun _ => True) (kMO cA cZ c2 cT cL s.heap.size M z) := nd_kMO
        refine zg_V (V := V5) (ci := 10) (q0 := 0) (As := [.int (nI kx), .int (nI 1)]) (rest := []) (n := 2) (wsC := kMO cA cZ c2 cT cL s.heap.size M z) (φ := fun v2 => v2.1 = M.1 21 ∧ v2.2.1 = M.1 22 ∧ v2.2.2.1 = M.2.1 23) (wv := fun v2 => kMO cA cZ c2 cT cL s.heap.size (mq (mS 0 0 M) v2) z) (rv := .long (lN (P.1 5 bx))) ⟨hx, hb, hml, hown, hts⟩ (r_at_1 l D _ (laM s.heap.size) cA cZ cL M z (vM M) B.2.2.2 B P (nI kx) bx h16 hGv.2.2.1.1 hGv.2.2.1.2.1 hG.2.2.1.2.2 hG.1.2.2.1 hG.1.2.2.2.1 hG.1.2.2.2.2.1 hbf2 hbx) ⟨km_LA_112, ki_MO_at, ks_MO_at, kn_MO, kd_MO_at⟩ (by decide +kernel) (by decide) ⟨(by show cs + 0 ≤ 601024; omega), (by show sl + 0 ≤ 7293000; omega)⟩ (hK.sub [0, 1, 4] rfl) (h_kMO) hn0 hS (la_A hS (fun p hp => by have := hi0 p hp; omega)) rfl rfl rfl hl.1 rfl (Nat.le_of_ble_eq_true rfl) d_LA_law_877 (fun v2 H1 locs1 hph hP1 hz1 hf1 hS1 => ?_)
        have hq0 := hP1
        have h_kSB := hf1.far h_kSB in_kSB (fun p hp => by have := hi0 p hp; omega)
        have h_kBL := hf1.far h_kBL in_kBL (fun p hp => by have := hi0 p hp; omega)
        have h_kNE := hf1.far h_kNE in_kNE (fun p hp => by have := hi0 p hp; omega)
        have h_kP := hf1.far h_kP in_kP (fun p hp => by have := hi0 p hp; omega)
        have h_kSE := hf1.far h_kSE in_kSE (fun p hp => by have := hi0 p hp; omega)
        have h_kQ := hf1.far h_kQ in_kQ (fun p hp => by have := hi0 p hp; omega)
        have h_kDR := hf1.far h_kDR in_kDR (fun p hp => by have := hi0 p hp; omega)
        have h_kPI := hf1.far h_kPI in_kPI (fun p hp => by have := hi0 p hp; omega)
        have h_kOU := hf1.far h_kOU in_kOU (fun p hp => by have := hi0 p hp; omega)
        have h_kMO := hq0
        have hT := th_kept0 hT hO hf1 (fun p hp => by have := hi0 p hp; omega)
        have hS := hS1
        clear hf1 hS1 hP1 hn0 hi0
        refine lv_lstore (lv' := [(6, .long (lN (P.1 5 bx))), (5, .int (nI 0)), (0, .ref b), (1, .ref s.heap.size), (2, .ref (s.heap.size + 69)), (3, .ref (s.heap.size + 97)), (4, .int (nI i))]) hx hb d_LA_law_880 hl (by decide) rfl (fun ls hl => ?_)
        refine lv_aload_n hx hb d_LA_law_882 rfl (lv_at hl 4 rfl) ?_
        refine zrM_V (ci := 10) (q0 := 0) (As := []) (rest := []) (n := 0) (wsC := kMO cA cZ c2 cT cL s.heap.size (mq (mS 0 0 M) v2) z) ⟨hx, hb, hml, hown, hts⟩ (c_MO_thrown l D (laM s.heap.size) cA cZ cL (mq (mS 0 0 M) v2) z) ⟨km_LA_80, ki_MO_thrown, ks_MO_thrown, kn_MO, kd_MO_thrown⟩ (by decide +kernel) (by decide) ⟨(by show cs + 0 ≤ 601024; omega), (by show sl + 0 ≤ 7293000; omega)⟩ (hK.sub [0, 1, 4] rfl) h_kMO rfl rfl rfl hl.1 rfl (Nat.le_of_ble_eq_true rfl) d_LA_law_883 ?_
        refine lv_toi (z := nI 0) rfl ?_
        refine lv_iload hx hb d_LA_law_886 (lv_at hl 1 rfl) ?_
        refine z_ceq (tgt := 893) hx hb d_LA_law_888 (by decide) (by omega) (by omega) (fun _ => ?_) (fun h => absurd h (by omega))
        refine lv_iload hx hb d_LA_law_893 (lv_at hl 1 rfl) ?_
        refine z_0ne (tgt := 909) hx hb d_LA_law_895 (by decide) (by omega) (fun h => absurd h (by omega)) (fun _ => ?_)
        refine lv_aload_n hx hb d_LA_law_898 rfl (lv_at hl 5 rfl) ?_
        refine lv_iconst (v := nI 0) hx hb d_LA_law_899 (by decide) ?_
        refine va_lald hx hb hK h_kOU 0 4 rfl rfl (vp_in_nI (n := 0) (by decide) (by decide)) d_LA_law_900 ?_
        refine lv_tol (z := lN (P.1 5 bx)) rfl ?_
        refine lv_lload hx hb d_LA_law_901 (lv_at hl 0 rfl) ?_
        refine y_leq (tgt := 909) hx hb d_LA_law_903 d_LA_law_904 (by decide) (fun _ => ?_) (fun c9 => absurd rfl c9)
        refine lv_goto (tgt := 1221) hx hb d_LA_law_909 (by decide) ?_
        exact kk _ _ _ _ ls (by omega) (by omega) hS ⟨tc, tf, B, P, Qp, N, ah, kw, z, nn, sd, cf, lf, cn, (mq (mS 0 0 M) v2), (o1 fo (lN (P.1 5 bx))), bk, us, u, cap, wt, tB, ⟨h_kSB, h_kBL, h_kNE, h_kP, h_kSE, h_kQ, h_kDR, h_kPI, h_kMO, h_kOU⟩, hT, hO, RelG_ag hG (ag_q hph.1 hph.2.1 hph.2.2), RelT_ag hR (ag_q hph.1 hph.2.1 hph.2.2), hq⟩ (lv_sub hl [2, 3, 4, 5, 6] rfl)
set_option maxHeartbeats 4000000 in
set_option maxRecDepth 100000 in
/-- turned -/
theorem lc_turned {p : Program} {l : Launch} {e : Env} {s : State} {m : MethodId} {below : List Frame} {meth : Method} {c : Code} {b L : Nat} {xs : Nat → Int32} {D : va_G} {cA cZ c2 cT cL : ClassId} {Q : State → Prop} (C : lawC p l s m c b L xs D cA cZ c2 cT cL) {i cs sl : Nat} {H : Heap} {locs : List Loc} {ls : Array Slot} (hi : i + 6 ≤ L) (hcs : cs + 10 ≤ 601024) (hsl : sl + 200 ≤ 7293000) (hS : va_S (lA s) s.heap H locs) (hI : lawI D cA cZ c2 cT cL s.heap.size H) (hl : lv_has ls 8 [(0, .ref b), (1, .ref s.heap.size), (2, .ref (s.heap.size + 69)), (3, .ref (s.heap.size + 97)), (4, .int (nI i))]) (kk : ∀ (H1 : Heap) (locs1 : List Loc) (cs1 sl1 : Nat) (ls1 : Array Slot), cs1 ≤ cs + 10 → sl1 ≤ sl + 200 → va_S (lA s) s.heap H1 locs1 → lawI D cA cZ c2 cT cL s.heap.size H1 → lv_has ls1 8 [(0, .ref b), (1, .ref s.heap.size), (2, .ref (s.heap.size + 69)), (3, .ref (s.heap.size + 97)), (4, .int (nI i))] → W p l e room_1 s m #[Value.ref b] below meth c H1 locs1 cs1 sl1 Q (F0 m 1221 ls1 [])) : W p l e room_1 s m #[Value.ref b] below meth c H locs cs sl Q (F0 m 912 ls []) := by
  obtain ⟨hx, hb, hml, hown, hts, hX, hbl, hL, hK, htl, hF1, hF2⟩ := C
  have hbA : ¬ lA s b := fun h => by have h : s.heap.size ≤ b := h; omega
  obtain ⟨tc, tf, B, P, Qp, N, ah, kw, z, nn, sd, cf, lf, cn, M, fo, bk, us, u, cap, wt, tB, ⟨h_kSB, h_kBL, h_kNE, h_kP, h_kSE, h_kQ, h_kDR, h_kPI, h_kMO, h_kOU⟩, hT, hO, hG, hR, hq⟩ := hI
  have h40 : tc ≤ 40 := hR.2.1
  have h17 : M.2.2.1 17 = B.2.2.2 := hG.2.2.1.1.2.1
  have h16 : B.2.2.2 ≤ 16 := hG.1.1.1
  have hT : thA D cA bk us u cap tB tc tf s.heap.size H := hT
  rcases find_fb hR h16 h17 (xs (i + 1)) with ⟨hfb, hbf⟩ | ⟨kx, bx, hkx, hbx, hke, hbk, hbf⟩
  · obtain ⟨T, hTs0, hfT⟩ := fb_T1 hT hfb
    refine lv_aload_n hx hb d_LA_law_912 rfl (lv_at hl 1 rfl) ?_
    refine lv_aload_n hx hb d_LA_law_913 rfl (lv_at hl 0 rfl) ?_
    refine lv_iload hx hb d_LA_law_914 (lv_at hl 4 rfl) ?_
    refine lv_iconst (v := nI 1) hx hb d_LA_law_916 (by decide) ?_
    refine z_add hx hb d_LA_law_917 ?_
    refine va_sld hx hb hX hbl hbA hS (vp_in_nI (n := (i + 1)) (by omega) (by omega)) d_LA_law_918 ?_
    refine lv_toi (z := xs (i + 1)) (congrArg xs (nI_clamp (by omega))) ?_
    refine lv_aload_n hx hb d_LA_law_919 rfl (lv_at hl 3 rfl) ?_
    have hTs : thS D cA bk us u cap tB tc (T) H := hTs0
    have hTi := thS_in (h0 := s.heap.size) hT hTs
    have hi0 : ∀ p ∈ kSB cA cZ c2 cT cL s.heap.size tc tf, (s.heap.size + 0 ≤ p.1 ∧ p.1 < s.heap.size + 2) := in_kSB
    have hn0 : va_D (fun _ => True) (kSB cA cZ c2 cT cL s.heap.size tc tf) := nd_kSB
    have hn1 : va_D (fun _ => True) ((kSB cA cZ c2 cT cL s.heap.size tc tf) ++ (T)) := nd_app hn0 hTs.2.1 (fun p hp q hq e9 => by have := hi0 p hp; have := hTi q hq; omega)
    have hi1 : ∀ p ∈ (kSB cA cZ c2 cT cL s.heap.size tc tf) ++ (T), (s.heap.size + 0 ≤ p.1 ∧ p.1 < s.heap.size + 2) ∨ (s.heap.size + 98 ≤ p.1) := fun p hp => (List.mem_append.mp hp).elim (fun h => by have := hi0 p h; omega) (fun h => by have := hTi p h; omega)
    have hw9 : ∀ p ∈ (kSB cA cZ c2 cT cL s.heap.size tc tf) ++ (T), p.1 < s.heap.size + 98 ∨ p ∈ T := fun p hp => (List.mem_append.mp hp).elim (fun h => Or.inl (by have := in_kSB p h; omega)) (fun h => Or.inr h)
    refine zg_H (V := Unit) (F := zT2) (mc := 1) (ms := 6) (As := [.ref s.heap.size, .int (xs (i + 1)), .ref (s.heap.size + 97)]) (rest := []) (n := 3) (wsC := (kSB cA cZ c2 cT cL s.heap.size tc tf) ++ (T)) (φ := fun _ => True) (wv := fun _ => (kSB cA cZ c2 cT cL s.heap.size tc tf) ++ (T)) (rv := .int (nI 1)) zT2_ok ⟨hx, hb, hml, hown, hts⟩ (met_u (h_turned_x l D htl _ (fun k => s.heap.size + k) (fun k => s.heap.size + 2 + k) (fun k => s.heap.size + 11 + k) (fun k => s.heap.size + 15 + k) (fun k => s.heap.size + 30 + 16 * k) (laI s.heap.size) cA cZ c2 cT tc tf (s.heap.size + 97) T (xs (i + 1)) (-1) h40 hfT rfl)) ⟨km_LA_113, kst_LA_turned, kn_LA, kw_LA_turned⟩ (by decide +kernel) (by decide) ⟨(by show cs + 1 ≤ 601024; omega), (by show sl + 6 ≤ 7293000; omega)⟩ (hK.sub [0, 1, 2, 3] rfl) ((h_kSB).app hTs.1) hn1 hS (la_A hS (fun p hp => by have := hi1 p hp; omega)) hF2 rfl hl.1 rfl (Nat.le_of_ble_eq_true rfl) d_LA_law_920 (fun _ H1 locs1 hph hP1 hz1 hf1 hS1 => ?_)
    have hq1 := va_P.right hP1
    have hr1 := va_P.left hP1
    have hq0 := hr1
    have h_kBL := hf1.far h_kBL in_kBL (fun p hp => by have := hi1 p hp; omega)
    have h_kNE := hf1.far h_kNE in_kNE (fun p hp => by have := hi1 p hp; omega)
    have h_kP := hf1.far h_kP in_kP (fun p hp => by have := hi1 p hp; omega)
    have h_kSE := hf1.far h_kSE in_kSE (fun p hp => by have := hi1 p hp; omega)
    have h_kQ := hf1.far h_kQ in_kQ (fun p hp => by have := hi1 p hp; omega)
    have h_kDR := hf1.far h_kDR in_kDR (fun p hp => by have := hi1 p hp; omega)
    have h_kPI := hf1.far h_kPI in_kPI (fun p hp => by have := hi1 p hp; omega)
    have h_kMO := hf1.far h_kMO in_kMO (fun p hp => by have := hi1 p hp; omega)
    have h_kOU := hf1.far h_kOU in_kOU (fun p hp => by have := hi1 p hp; omega)
    have h_kSB := hq0
    have hT := th_kept hT hO hf1 hw9 hTs hq1
    have hS := hS1
    clear hf1 hS1 hP1 hn0 hi0 hn1 hi1
    refine lv_istore (lv' := [(5, .int (nI 1)), (0, .ref b), (1, .ref s.heap.size), (2, .ref (s.heap.size + 69)), (3, .ref (s.heap.size + 97)), (4, .int (nI i))]) hx hb d_LA_law_923 hl (by decide) rfl (fun ls hl => ?_)
    refine lv_aload_n hx hb d_LA_law_925 rfl (lv_at hl 3 rfl) ?_
    refine lv_aload_n hx hb d_LA_law_926 rfl (lv_at hl 1 rfl) ?_
    refine lv_iload hx hb d_LA_law_927 (lv_at hl 5 rfl) ?_
    refine lv_iconst (v := nI 1) hx hb d_LA_law_929 (by decide) ?_
    refine z_add hx hb d_LA_law_930 ?_
    refine va_sld hx hb hX hbl hbA hS (vp_in_nI (n := (i + 1)) (by omega) (by omega)) d_LA_law_931 ?_
    refine lv_toi (z := xs (i + 1)) (congrArg xs (nI_clamp (by omega))) ?_
    have hi0 : ∀ p ∈ kMO cA cZ c2 cT cL s.heap.size M z, (s.heap.size + 69 ≤ p.1 ∧ p.1 < s.heap.size + 97) := in_kMO
    have hn0 : va_D (fun _ => True) (kMO cA cZ c2 cT cL s.heap.size M z) := nd_kMO
    refine zg_V (V := Unit) (ci := 10) (q0 := 0) (As := [.int (xs (i + 1))]) (rest := []) (n := 1) (wsC := kMO cA cZ c2 cT cL s.heap.size M z) (φ := fun _ => True) (wv := fun _ => kMO cA cZ c2 cT cL s.heap.size (mS 0 1 M) z) (rv := .int (zb false)) ⟨hx, hb, hml, hown, hts⟩ (met_u (c_MO_turned_no l D _ (laM s.heap.size) cA cZ cL M z (xs (i + 1)) (by omega) hbf)) ⟨km_LA_115, ki_MO_turned, ks_MO_turned, kn_MO, kd_MO_turned⟩ (by decide +kernel) (by decide) ⟨(by show cs + 1 + 0 ≤ 601024; omega), (by show sl + 6 + 0 ≤ 7293000; omega)⟩ (hK.sub [0, 1, 4] rfl) (h_kMO) hn0 hS (la_A hS (fun p hp => by have := hi0 p hp; omega)) rfl rfl rfl hl.1 rfl (Nat.le_of_ble_eq_true rfl) d_LA_law_932 (fun _ H1 locs1 hph hP1 hz1 hf1 hS1 => ?_)
    have hq0 := hP1
    have h_kSB := hf1.far h_kSB in_kSB (fun p hp => by have := hi0 p hp; omega)
    have h_kBL := hf1.far h_kBL in_kBL (fun p hp => by have := hi0 p hp; omega)
    have h_kNE := hf1.far h_kNE in_kNE (fun p hp => by have := hi0 p hp; omega)
    have h_kP := hf1.far h_kP in_kP (fun p hp => by have := hi0 p hp; omega)
    have h_kSE := hf1.far h_kSE in_kSE (fun p hp => by have := hi0 p hp; omega)
    have h_kQ := hf1.far h_kQ in_kQ (fun p hp => by have := hi0 p hp; omega)
    have h_kDR := hf1.far h_kDR in_kDR (fun p hp => by have := hi0 p hp; omega)
    have h_kPI := hf1.far h_kPI in_kPI (fun p hp => by have := hi0 p hp; omega)
    have h_kOU := hf1.far h_kOU in_kOU (fun p hp => by have := hi0 p hp; omega)
    have h_kMO := hq0
    have hT := th_kept0 hT hO hf1 (fun p hp => by have := hi0 p hp; omega)
    have hS := hS1
    clear hf1 hS1 hP1 hn0 hi0
    refine lv_istore (lv' := [(6, .int (zb false)), (5, .int (nI 1)), (0, .ref b), (1, .ref s.heap.size), (2, .ref (s.heap.size + 69)), (3, .ref (s.heap.size + 97)), (4, .int (nI i))]) hx hb d_LA_law_935 hl (by decide) rfl (fun ls hl => ?_)
    refine lv_aload_n hx hb d_LA_law_937 rfl (lv_at hl 4 rfl) ?_
    refine zrM_V (ci := 10) (q0 := 0) (As := []) (rest := []) (n := 0) (wsC := kMO cA cZ c2 cT cL s.heap.size (mS 0 1 M) z) ⟨hx, hb, hml, hown, hts⟩ (c_MO_thrown l D (laM s.heap.size) cA cZ cL (mS 0 1 M) z) ⟨km_LA_80, ki_MO_thrown, ks_MO_thrown, kn_MO, kd_MO_thrown⟩ (by decide +kernel) (by decide) ⟨(by show cs + 1 + 0 ≤ 601024; omega), (by show sl + 6 + 0 ≤ 7293000; omega)⟩ (hK.sub [0, 1, 4] rfl) h_kMO rfl rfl rfl hl.1 rfl (Nat.le_of_ble_eq_true rfl) d_LA_law_938 ?_
    refine lv_toi (z := nI 1) rfl ?_
    refine lv_iload hx hb d_LA_law_941 (lv_at hl 1 rfl) ?_
    refine z_ceq (tgt := 948) hx hb d_LA_law_943 (by decide) (by omega) (by omega) (fun _ => ?_) (fun h => absurd h (by omega))
    refine lv_iload hx hb d_LA_law_948 (lv_at hl 1 rfl) ?_
    refine z_0ne (tgt := 972) hx hb d_LA_law_950 (by decide) (by omega) (fun _ => ?_) (fun h => absurd h (by omega))
    refine lv_goto (tgt := 1221) hx hb d_LA_law_972 (by decide) ?_
    exact kk _ _ _ _ ls (by omega) (by omega) hS ⟨tc, tf, B, P, Qp, N, ah, kw, z, nn, sd, cf, lf, cn, (mS 0 1 M), fo, bk, us, u, cap, wt, tB, ⟨h_kSB, h_kBL, h_kNE, h_kP, h_kSE, h_kQ, h_kDR, h_kPI, h_kMO, h_kOU⟩, hT, hO, RelG_ag hG ⟨⟨rfl, rfl, rfl, rfl, rfl, rfl, rfl, rfl, rfl, rfl, rfl, rfl⟩, ⟨rfl, rfl, rfl, rfl⟩, rfl, rfl, rfl⟩, RelT_ag hR ⟨⟨rfl, rfl, rfl, rfl, rfl, rfl, rfl, rfl, rfl, rfl, rfl, rfl⟩, ⟨rfl, rfl, rfl, rfl⟩, rfl, rfl, rfl⟩, hq⟩ (lv_sub hl [2, 3, 4, 5, 6] rfl)
  · have hb16 : bx < 16 := by omega
    have hbf2 : bfind (M.1 10) (nI kx) (M.2.2.1 17) = some bx := by rw [← hke]; exact hbf
    have hGv := RelG_ag hG (ag_v M)
    have hgb : P.1 4 bx ≤ 36000 ∧ P.1 5 bx ≤ 36000 ∧ P.1 6 bx ≤ 36000 ∧ P.1 7 bx ≤ 36000 := hG.1.2.2.2.1.2.2 bx hbx
    refine lv_aload_n hx hb d_LA_law_912 rfl (lv_at hl 1 rfl) ?_
    refine lv_aload_n hx hb d_LA_law_913 rfl (lv_at hl 0 rfl) ?_
    refine lv_iload hx hb d_LA_law_914 (lv_at hl 4 rfl) ?_
    refine lv_iconst (v := nI 1) hx hb d_LA_law_916 (by decide) ?_
    refine z_add hx hb d_LA_law_917 ?_
    refine va_sld hx hb hX hbl hbA hS (vp_in_nI (n := (i + 1)) (by omega) (by omega)) d_LA_law_918 ?_
    refine lv_toi (z := (nI kx)) ((congrArg xs (nI_clamp (by omega))).trans hke) ?_
    refine lv_aload_n hx hb d_LA_law_919 rfl (lv_at hl 3 rfl) ?_
    have hrp : M.2.1 23 bx = P.2.1 bx := by have := (hG.2.2.1.2.1 bx hbx).2.2; rw [Nat.mul_zero, Nat.zero_add] at this; exact this
    have hTs : thS D cA bk us u cap tB tc (lTO cA (tB kx) (nI bx) (us kx)) H := thS_o hT hkx hbk
    have hTi := thS_in (h0 := s.heap.size) hT hTs
    have hi0 : ∀ p ∈ kP cA cZ c2 cT cL s.heap.size P, (s.heap.size + 15 ≤ p.1 ∧ p.1 < s.heap.size + 30) := in_kP
    have hn0 : va_D (fun _ => True) (kP cA cZ c2 cT cL s.heap.size P) := nd_kP
    have hn1 : va_D (fun _ => True) ((kP cA cZ c2 cT cL s.heap.size P) ++ (kSB cA cZ c2 cT cL s.heap.size tc tf)) := nd_app hn0 nd_kSB (fun p hp q hq e9 => by have := hi0 p hp; have := in_kSB q hq; omega)
    have hi1 : ∀ p ∈ (kP cA cZ c2 cT cL s.heap.size P) ++ (kSB cA cZ c2 cT cL s.heap.size tc tf), (s.heap.size + 15 ≤ p.1 ∧ p.1 < s.heap.size + 30) ∨ (s.heap.size + 0 ≤ p.1 ∧ p.1 < s.heap.size + 2) := fun p hp => (List.mem_append.mp hp).elim (fun h => by have := hi0 p h; omega) (fun h => by have := in_kSB p h; omega)
    have hn2 : va_D (fun _ => True) (((kP cA cZ c2 cT cL s.heap.size P) ++ (kSB cA cZ c2 cT cL s.heap.size tc tf)) ++ (lTO cA (tB kx) (nI bx) (us kx))) := nd_app hn1 hTs.2.1 (fun p hp q hq e9 => by have := hi1 p hp; have := hTi q hq; omega)
    have hi2 : ∀ p ∈ ((kP cA cZ c2 cT cL s.heap.size P) ++ (kSB cA cZ c2 cT cL s.heap.size tc tf)) ++ (lTO cA (tB kx) (nI bx) (us kx)), (s.heap.size + 15 ≤ p.1 ∧ p.1 < s.heap.size + 30) ∨ (s.heap.size + 0 ≤ p.1 ∧ p.1 < s.heap.size + 2) ∨ (s.heap.size + 98 ≤ p.1) := fun p hp => (List.mem_append.mp hp).elim (fun h => by have := hi1 p h; omega) (fun h => by have := hTi p h; omega)
    have hn3 : va_D (fun _ => True) ((((kP cA cZ c2 cT cL s.heap.size P) ++ (kSB cA cZ c2 cT cL s.heap.size tc tf)) ++ (lTO cA (tB kx) (nI bx) (us kx))) ++ (kOU cA cZ c2 cT cL s.heap.size fo)) := nd_app hn2 nd_kOU (fun p hp q hq e9 => by have := hi2 p hp; have := in_kOU q hq; omega)
    have hi3 : ∀ p ∈ (((kP cA cZ c2 cT cL s.heap.size P) ++ (kSB cA cZ c2 cT cL s.heap.size tc tf)) ++ (lTO cA (tB kx) (nI bx) (us kx))) ++ (kOU cA cZ c2 cT cL s.heap.size fo), (s.heap.size + 15 ≤ p.1 ∧ p.1 < s.heap.size + 30) ∨ (s.heap.size + 0 ≤ p.1 ∧ p.1 < s.heap.size + 2) ∨ (s.heap.size + 98 ≤ p.1) ∨ (s.heap.size + 97 ≤ p.1 ∧ p.1 < s.heap.size + 98) := fun p hp => (List.mem_append.mp hp).elim (fun h => by have := hi2 p h; omega) (fun h => by have := in_kOU p h; omega)
    have hw9 : ∀ p ∈ (((kP cA cZ c2 cT cL s.heap.size P) ++ (kSB cA cZ c2 cT cL s.heap.size tc tf)) ++ (lTO cA (tB kx) (nI bx) (us kx))) ++ (kOU cA cZ c2 cT cL s.heap.size fo), p.1 < s.heap.size + 98 ∨ p ∈ lTO cA (tB kx) (nI bx) (us kx) := fun p hp => (List.mem_append.mp hp).elim (fun h => (List.mem_append.mp h).elim (fun h => (List.mem_append.mp h).elim (fun h => Or.inl (by have := in_kP p h; omega)) (fun h => Or.inl (by have := in_kSB p h; omega))) (fun h => Or.inr h)) (fun h => Or.inl (by have := in_kOU p h; omega))
    refine zg_H (V := Unit) (F := zF0) (mc := 0) (ms := 0) (As := [.ref s.heap.size, .int (nI kx), .ref (s.heap.size + 97)]) (rest := []) (n := 3) (wsC := (((kP cA cZ c2 cT cL s.heap.size P) ++ (kSB cA cZ c2 cT cL s.heap.size tc tf)) ++ (lTO cA (tB kx) (nI bx) (us kx))) ++ (kOU cA cZ c2 cT cL s.heap.size fo)) (φ := fun _ => True) (wv := fun _ => (((kP cA cZ c2 cT cL s.heap.size P) ++ (kSB cA cZ c2 cT cL s.heap.size tc tf)) ++ (lTO cA (tB kx) (nI bx) (us kx))) ++ (kOU cA cZ c2 cT cL s.heap.size (o1 fo (bL (P.2.1 bx))))) (rv := .int (nI 0)) zF0_ok ⟨hx, hb, hml, hown, hts⟩ (met_u (met_f (h_turned l D _ (fun k => s.heap.size + k) (fun k => s.heap.size + 2 + k) (fun k => s.heap.size + 11 + k) (fun k => s.heap.size + 15 + k) (fun k => s.heap.size + 30 + 16 * k) (laI s.heap.size) cA cZ c2 cT tc tf (s.heap.size + 97) cL fo (tB kx) (tB kx + 1) (us kx) P kx bx h40 hkx (hT kx hkx).2.2 hb16))) ⟨km_LA_113, kst_LA_turned, kn_LA, kw_LA_turned⟩ (by decide +kernel) (by decide) ⟨(by show cs + 0 ≤ 601024; omega), (by show sl + 0 ≤ 7293000; omega)⟩ (hK.sub [0, 1, 2, 3, 4] rfl) ((((h_kP).app h_kSB).app hTs.1).app h_kOU) hn3 hS (la_A hS (fun p hp => by have := hi3 p hp; omega)) trivial rfl hl.1 rfl (Nat.le_of_ble_eq_true rfl) d_LA_law_920 (fun _ H1 locs1 hph hP1 hz1 hf1 hS1 => ?_)
    have hq3 := va_P.right hP1
    have hr3 := va_P.left hP1
    have hq2 := va_P.right hr3
    have hr2 := va_P.left hr3
    have hq1 := va_P.right hr2
    have hr1 := va_P.left hr2
    have hq0 := hr1
    have h_kBL := hf1.far h_kBL in_kBL (fun p hp => by have := hi3 p hp; omega)
    have h_kNE := hf1.far h_kNE in_kNE (fun p hp => by have := hi3 p hp; omega)
    have h_kSE := hf1.far h_kSE in_kSE (fun p hp => by have := hi3 p hp; omega)
    have h_kQ := hf1.far h_kQ in_kQ (fun p hp => by have := hi3 p hp; omega)
    have h_kDR := hf1.far h_kDR in_kDR (fun p hp => by have := hi3 p hp; omega)
    have h_kPI := hf1.far h_kPI in_kPI (fun p hp => by have := hi3 p hp; omega)
    have h_kMO := hf1.far h_kMO in_kMO (fun p hp => by have := hi3 p hp; omega)
    have h_kP := hq0
    have h_kSB := hq1
    have h_kOU := hq3
    have hT := th_kept hT hO hf1 hw9 hTs hq2
    have hS := hS1
    clear hf1 hS1 hP1 hn0 hi0 hn1 hi1 hn2 hi2 hn3 hi3
    refine lv_istore (lv' := [(5, .int (nI 0)), (0, .ref b), (1, .ref s.heap.size), (2, .ref (s.heap.size + 69)), (3, .ref (s.heap.size + 97)), (4, .int (nI i))]) hx hb d_LA_law_923 hl (by decide) rfl (fun ls hl => ?_)
    refine lv_aload_n hx hb d_LA_law_925 rfl (lv_at hl 3 rfl) ?_
    refine lv_aload_n hx hb d_LA_law_926 rfl (lv_at hl 1 rfl) ?_
    refine lv_iload hx hb d_LA_law_927 (lv_at hl 5 rfl) ?_
    refine lv_iconst (v := nI 1) hx hb d_LA_law_929 (by decide) ?_
    refine z_add hx hb d_LA_law_930 ?_
    refine va_sld hx hb hX hbl hbA hS (vp_in_nI (n := (i + 1)) (by omega) (by omega)) d_LA_law_931 ?_
    refine lv_toi (z := (nI kx)) ((congrArg xs (nI_clamp (by omega))).trans hke) ?_
    have hi0 : ∀ p ∈ kMO cA cZ c2 cT cL s.heap.size M z, (s.heap.size + 69 ≤ p.1 ∧ p.1 < s.heap.size + 97) := in_kMO
    have hn0 : va_D (fun _ => True) (kMO cA cZ c2 cT cL s.heap.size M z) := nd_kMO
    refine zg_V (V := Unit) (ci := 10) (q0 := 0) (As := [.int (nI kx)]) (rest := []) (n := 1) (wsC := kMO cA cZ c2 cT cL s.heap.size M z) (φ := fun _ => True) (wv := fun _ => kMO cA cZ c2 cT cL s.heap.size (mS 0 0 M) z) (rv := .int (zb (M.2.1 23 bx))) ⟨hx, hb, hml, hown, hts⟩ (met_u (c_MO_turned l D _ (laM s.heap.size) cA cZ cL M z (nI kx) bx (by omega) hbf2 hb16)) ⟨km_LA_115, ki_MO_turned, ks_MO_turned, kn_MO, kd_MO_turned⟩ (by decide +kernel) (by decide) ⟨(by show cs + 0 ≤ 601024; omega), (by show sl + 0 ≤ 7293000; omega)⟩ (hK.sub [0, 1, 4] rfl) (h_kMO) hn0 hS (la_A hS (fun p hp => by have := hi0 p hp; omega)) rfl rfl rfl hl.1 rfl (Nat.le_of_ble_eq_true rfl) d_LA_law_932 (fun _ H1 locs1 hph hP1 hz1 hf1 hS1 => ?_)
    have hq0 := hP1
    have h_kSB := hf1.far h_kSB in_kSB (fun p hp => by have := hi0 p hp; omega)
    have h_kBL := hf1.far h_kBL in_kBL (fun p hp => by have := hi0 p hp; omega)
    have h_kNE := hf1.far h_kNE in_kNE (fun p hp => by have := hi0 p hp; omega)
    have h_kP := hf1.far h_kP in_kP (fun p hp => by have := hi0 p hp; omega)
    have h_kSE := hf1.far h_kSE in_kSE (fun p hp => by have := hi0 p hp; omega)
    have h_kQ := hf1.far h_kQ in_kQ (fun p hp => by have := hi0 p hp; omega)
    have h_kDR := hf1.far h_kDR in_kDR (fun p hp => by have := hi0 p hp; omega)
    have h_kPI := hf1.far h_kPI in_kPI (fun p hp => by have := hi0 p hp; omega)
    have h_kOU := hf1.far h_kOU in_kOU (fun p hp => by have := hi0 p hp; omega)
    have h_kMO := hq0
    have hT := th_kept0 hT hO hf1 (fun p hp => by have := hi0 p hp; omega)
    have hS := hS1
    clear hf1 hS1 hP1 hn0 hi0
    refine lv_istore (lv' := [(6, .int (zb (M.2.1 23 bx))), (5, .int (nI 0)), (0, .ref b), (1, .ref s.heap.size), (2, .ref (s.heap.size + 69)), (3, .ref (s.heap.size + 97)), (4, .int (nI i))]) hx hb d_LA_law_935 hl (by decide) rfl (fun ls hl => ?_)
    refine lv_aload_n hx hb d_LA_law_937 rfl (lv_at hl 4 rfl) ?_
    refine zrM_V (ci := 10) (q0 := 0) (As := []) (rest := []) (n := 0) (wsC := kMO cA cZ c2 cT cL s.heap.size (mS 0 0 M) z) ⟨hx, hb, hml, hown, hts⟩ (c_MO_thrown l D (laM s.heap.size) cA cZ cL (mS 0 0 M) z) ⟨km_LA_80, ki_MO_thrown, ks_MO_thrown, kn_MO, kd_MO_thrown⟩ (by decide +kernel) (by decide) ⟨(by show cs + 0 ≤ 601024; omega), (by show sl + 0 ≤ 7293000; omega)⟩ (hK.sub [0, 1, 4] rfl) h_kMO rfl rfl rfl hl.1 rfl (Nat.le_of_ble_eq_true rfl) d_LA_law_938 ?_
    refine lv_toi (z := nI 0) rfl ?_
    refine lv_iload hx hb d_LA_law_941 (lv_at hl 1 rfl) ?_
    refine z_ceq (tgt := 948) hx hb d_LA_law_943 (by decide) (by omega) (by omega) (fun _ => ?_) (fun h => absurd h (by omega))
    refine lv_iload hx hb d_LA_law_948 (lv_at hl 1 rfl) ?_
    refine z_0ne (tgt := 972) hx hb d_LA_law_950 (by decide) (by omega) (fun h => absurd h (by omega)) (fun _ => ?_)
    refine lv_aload_n hx hb d_LA_law_953 rfl (lv_at hl 5 rfl) ?_
    refine lv_iconst (v := nI 0) hx hb d_LA_law_954 (by decide) ?_
    refine va_lald hx hb hK h_kOU 0 4 rfl rfl (vp_in_nI (n := 0) (by decide) (by decide)) d_LA_law_955 ?_
    refine lv_tol (z := bL (P.2.1 bx)) rfl ?_
    refine lv_iload hx hb d_LA_law_956 (lv_at hl 0 rfl) ?_
    refine zb_ans hx hb d_LA_law_958 (by decide) d_LA_law_961 d_LA_law_962 (by decide) d_LA_law_965 ?_
    refine y_leq (tgt := 972) hx hb d_LA_law_966 d_LA_law_967 (by decide) (fun _ => ?_) (fun c9 => absurd (congrArg bL hrp.symm) c9)
    refine lv_goto (tgt := 1221) hx hb d_LA_law_972 (by decide) ?_
    exact kk _ _ _ _ ls (by omega) (by omega) hS ⟨tc, tf, B, P, Qp, N, ah, kw, z, nn, sd, cf, lf, cn, (mS 0 0 M), (o1 fo (bL (P.2.1 bx))), bk, us, u, cap, wt, tB, ⟨h_kSB, h_kBL, h_kNE, h_kP, h_kSE, h_kQ, h_kDR, h_kPI, h_kMO, h_kOU⟩, hT, hO, RelG_ag hG ⟨⟨rfl, rfl, rfl, rfl, rfl, rfl, rfl, rfl, rfl, rfl, rfl, rfl⟩, ⟨rfl, rfl, rfl, rfl⟩, rfl, rfl, rfl⟩, RelT_ag hR ⟨⟨rfl, rfl, rfl, rfl, rfl, rfl, rfl, rfl, rfl, rfl, rfl, rfl⟩, ⟨rfl, rfl, rfl, rfl⟩, rfl, rfl, rfl⟩, hq⟩ (lv_sub hl [2, 3, 4, 5, 6] rfl)
set_option maxHeartbeats 4000000 in
set_option maxRecDepth 100000 in
/-- pin -/
theorem lc_pin {p : Program} {l : Launch} {e : Env} {s : State} {m : MethodId} {below : List Frame} {meth : Method} {c : Code} {b L : Nat} {xs : Nat → Int32} {D : va_G} {cA cZ c2 cT cL : ClassId} {Q : State → Prop} (C : lawC p l s m c b L xs D cA cZ c2 cT cL) {i cs sl : Nat} {H : Heap} {locs : List Loc} {ls : Array Slot} (hi : i + 6 ≤ L) (hcs : cs + 10 ≤ 601024) (hsl : sl + 200 ≤ 7293000) (hS : va_S (lA s) s.heap H locs) (hI : lawI D cA cZ c2 cT cL s.heap.size H) (hl : lv_has ls 8 [(0, .ref b), (1, .ref s.heap.size), (2, .ref (s.heap.size + 69)), (3, .ref (s.heap.size + 97)), (4, .int (nI i))]) (kk : ∀ (H1 : Heap) (locs1 : List Loc) (cs1 sl1 : Nat) (ls1 : Array Slot), cs1 ≤ cs + 10 → sl1 ≤ sl + 200 → va_S (lA s) s.heap H1 locs1 → lawI D cA cZ c2 cT cL s.heap.size H1 → lv_has ls1 8 [(0, .ref b), (1, .ref s.heap.size), (2, .ref (s.heap.size + 69)), (3, .ref (s.heap.size + 97)), (4, .int (nI i))] → W p l e room_1 s m #[Value.ref b] below meth c H1 locs1 cs1 sl1 Q (F0 m 1221 ls1 [])) : W p l e room_1 s m #[Value.ref b] below meth c H locs cs sl Q (F0 m 1002 ls []) := by
  obtain ⟨hx, hb, hml, hown, hts, hX, hbl, hL, hK, htl, hF1, hF2⟩ := C
  have hbA : ¬ lA s b := fun h => by have h : s.heap.size ≤ b := h; omega
  obtain ⟨tc, tf, B, P, Qp, N, ah, kw, z, nn, sd, cf, lf, cn, M, fo, bk, us, u, cap, wt, tB, ⟨h_kSB, h_kBL, h_kNE, h_kP, h_kSE, h_kQ, h_kDR, h_kPI, h_kMO, h_kOU⟩, hT, hO, hG, hR, hq⟩ := hI
  have h40 : tc ≤ 40 := hR.2.1
  have h17 : M.2.2.1 17 = B.2.2.2 := hG.2.2.1.1.2.1
  have h16 : B.2.2.2 ≤ 16 := hG.1.1.1
  have hT : thA D cA bk us u cap tB tc tf s.heap.size H := hT
  rcases find_fb hR h16 h17 (xs (i + 1)) with ⟨hfb, hbf⟩ | ⟨kx, bx, hkx, hbx, hke, hbk, hbf⟩
  · obtain ⟨T, hTs0, hfT⟩ := fb_T1 hT hfb
    refine lv_aload_n hx hb d_LA_law_1002 rfl (lv_at hl 1 rfl) ?_
    refine lv_aload_n hx hb d_LA_law_1003 rfl (lv_at hl 0 rfl) ?_
    refine lv_iload hx hb d_LA_law_1004 (lv_at hl 4 rfl) ?_
    refine lv_iconst (v := nI 1) hx hb d_LA_law_1006 (by decide) ?_
    refine z_add hx hb d_LA_law_1007 ?_
    refine va_sld hx hb hX hbl hbA hS (vp_in_nI (n := (i + 1)) (by omega) (by omega)) d_LA_law_1008 ?_
    refine lv_toi (z := xs (i + 1)) (congrArg xs (nI_clamp (by omega))) ?_
    refine lv_aload_n hx hb d_LA_law_1009 rfl (lv_at hl 0 rfl) ?_
    refine lv_iload hx hb d_LA_law_1010 (lv_at hl 4 rfl) ?_
    refine lv_iconst (v := nI 2) hx hb d_LA_law_1012 (by decide) ?_
    refine z_add hx hb d_LA_law_1013 ?_
    refine va_sld hx hb hX hbl hbA hS (vp_in_nI (n := (i + 2)) (by omega) (by omega)) d_LA_law_1014 ?_
    refine lv_toi (z := xs (i + 2)) (congrArg xs (nI_clamp (by omega))) ?_
    refine lv_aload_n hx hb d_LA_law_1015 rfl (lv_at hl 0 rfl) ?_
    refine lv_iload hx hb d_LA_law_1016 (lv_at hl 4 rfl) ?_
    refine lv_iconst (v := nI 3) hx hb d_LA_law_1018 (by decide) ?_
    refine z_add hx hb d_LA_law_1019 ?_
    refine va_sld hx hb hX hbl hbA hS (vp_in_nI (n := (i + 3)) (by omega) (by omega)) d_LA_law_1020 ?_
    refine lv_toi (z := xs (i + 3)) (congrArg xs (nI_clamp (by omega))) ?_
    refine lv_aload_n hx hb d_LA_law_1021 rfl (lv_at hl 3 rfl) ?_
    have hTs : thS D cA bk us u cap tB tc (T) H := hTs0
    have hTi := thS_in (h0 := s.heap.size) hT hTs
    have hi0 : ∀ p ∈ kSB cA cZ c2 cT cL s.heap.size tc tf, (s.heap.size + 0 ≤ p.1 ∧ p.1 < s.heap.size + 2) := in_kSB
    have hn0 : va_D (fun _ => True) (kSB cA cZ c2 cT cL s.heap.size tc tf) := nd_kSB
    have hn1 : va_D (fun _ => True) ((kSB cA cZ c2 cT cL s.heap.size tc tf) ++ (T)) := nd_app hn0 hTs.2.1 (fun p hp q hq e9 => by have := hi0 p hp; have := hTi q hq; omega)
    have hi1 : ∀ p ∈ (kSB cA cZ c2 cT cL s.heap.size tc tf) ++ (T), (s.heap.size + 0 ≤ p.1 ∧ p.1 < s.heap.size + 2) ∨ (s.heap.size + 98 ≤ p.1) := fun p hp => (List.mem_append.mp hp).elim (fun h => by have := hi0 p h; omega) (fun h => by have := hTi p h; omega)
    have hw9 : ∀ p ∈ (kSB cA cZ c2 cT cL s.heap.size tc tf) ++ (T), p.1 < s.heap.size + 98 ∨ p ∈ T := fun p hp => (List.mem_append.mp hp).elim (fun h => Or.inl (by have := in_kSB p h; omega)) (fun h => Or.inr h)
    refine zg_H (V := Unit) (F := zT2) (mc := 1) (ms := 6) (As := [.ref s.heap.size, .int (xs (i + 1)), .int (xs (i + 2)), .int (xs (i + 3)), .ref (s.heap.size + 97)]) (rest := []) (n := 5) (wsC := (kSB cA cZ c2 cT cL s.heap.size tc tf) ++ (T)) (φ := fun _ => True) (wv := fun _ => (kSB cA cZ c2 cT cL s.heap.size tc tf) ++ (T)) (rv := .int (nI 1)) zT2_ok ⟨hx, hb, hml, hown, hts⟩ (met_u (h_pin_x l D htl _ (fun k => s.heap.size + k) (fun k => s.heap.size + 2 + k) (fun k => s.heap.size + 11 + k) (fun k => s.heap.size + 15 + k) (fun k => s.heap.size + 30 + 16 * k) (laI s.heap.size) cA cZ c2 cT tc tf (s.heap.size + 97) T (xs (i + 1)) (-1) (xs (i + 2)) (xs (i + 3)) h40 hfT (Or.inl rfl))) ⟨km_LA_126, kst_LA_pin, kn_LA, kw_LA_pin⟩ (by decide +kernel) (by decide) ⟨(by show cs + 1 ≤ 601024; omega), (by show sl + 6 ≤ 7293000; omega)⟩ (hK.sub [0, 1, 2, 3] rfl) ((h_kSB).app hTs.1) hn1 hS (la_A hS (fun p hp => by have := hi1 p hp; omega)) hF2 rfl hl.1 rfl (Nat.le_of_ble_eq_true rfl) d_LA_law_1022 (fun _ H1 locs1 hph hP1 hz1 hf1 hS1 => ?_)
    have hq1 := va_P.right hP1
    have hr1 := va_P.left hP1
    have hq0 := hr1
    have h_kBL := hf1.far h_kBL in_kBL (fun p hp => by have := hi1 p hp; omega)
    have h_kNE := hf1.far h_kNE in_kNE (fun p hp => by have := hi1 p hp; omega)
    have h_kP := hf1.far h_kP in_kP (fun p hp => by have := hi1 p hp; omega)
    have h_kSE := hf1.far h_kSE in_kSE (fun p hp => by have := hi1 p hp; omega)
    have h_kQ := hf1.far h_kQ in_kQ (fun p hp => by have := hi1 p hp; omega)
    have h_kDR := hf1.far h_kDR in_kDR (fun p hp => by have := hi1 p hp; omega)
    have h_kPI := hf1.far h_kPI in_kPI (fun p hp => by have := hi1 p hp; omega)
    have h_kMO := hf1.far h_kMO in_kMO (fun p hp => by have := hi1 p hp; omega)
    have h_kOU := hf1.far h_kOU in_kOU (fun p hp => by have := hi1 p hp; omega)
    have h_kSB := hq0
    have hT := th_kept hT hO hf1 hw9 hTs hq1
    have hS := hS1
    clear hf1 hS1 hP1 hn0 hi0 hn1 hi1
    refine lv_istore (lv' := [(5, .int (nI 1)), (0, .ref b), (1, .ref s.heap.size), (2, .ref (s.heap.size + 69)), (3, .ref (s.heap.size + 97)), (4, .int (nI i))]) hx hb d_LA_law_1025 hl (by decide) rfl (fun ls hl => ?_)
    refine lv_aload_n hx hb d_LA_law_1027 rfl (lv_at hl 3 rfl) ?_
    refine lv_aload_n hx hb d_LA_law_1028 rfl (lv_at hl 1 rfl) ?_
    refine lv_iload hx hb d_LA_law_1029 (lv_at hl 5 rfl) ?_
    refine lv_iconst (v := nI 1) hx hb d_LA_law_1031 (by decide) ?_
    refine z_add hx hb d_LA_law_1032 ?_
    refine va_sld hx hb hX hbl hbA hS (vp_in_nI (n := (i + 1)) (by omega) (by omega)) d_LA_law_1033 ?_
    refine lv_toi (z := xs (i + 1)) (congrArg xs (nI_clamp (by omega))) ?_
    refine lv_aload_n hx hb d_LA_law_1034 rfl (lv_at hl 1 rfl) ?_
    refine lv_iload hx hb d_LA_law_1035 (lv_at hl 5 rfl) ?_
    refine lv_iconst (v := nI 2) hx hb d_LA_law_1037 (by decide) ?_
    refine z_add hx hb d_LA_law_1038 ?_
    refine va_sld hx hb hX hbl hbA hS (vp_in_nI (n := (i + 2)) (by omega) (by omega)) d_LA_law_1039 ?_
    refine lv_toi (z := xs (i + 2)) (congrArg xs (nI_clamp (by omega))) ?_
    refine lv_aload_n hx hb d_LA_law_1040 rfl (lv_at hl 1 rfl) ?_
    refine lv_iload hx hb d_LA_law_1041 (lv_at hl 5 rfl) ?_
    refine lv_iconst (v := nI 3) hx hb d_LA_law_1043 (by decide) ?_
    refine z_add hx hb d_LA_law_1044 ?_
    refine va_sld hx hb hX hbl hbA hS (vp_in_nI (n := (i + 3)) (by omega) (by omega)) d_LA_law_1045 ?_
    refine lv_toi (z := xs (i + 3)) (congrArg xs (nI_clamp (by omega))) ?_
    have hi0 : ∀ p ∈ kMO cA cZ c2 cT cL s.heap.size M z, (s.heap.size + 69 ≤ p.1 ∧ p.1 < s.heap.size + 97) := in_kMO
    have hn0 : va_D (fun _ => True) (kMO cA cZ c2 cT cL s.heap.size M z) := nd_kMO
    refine zg_V (V := Unit) (ci := 10) (q0 := 0) (As := [.int (xs (i + 1)), .int (xs (i + 2)), .int (xs (i + 3))]) (rest := []) (n := 3) (wsC := kMO cA cZ c2 cT cL s.heap.size M z) (φ := fun _ => True) (wv := fun _ => kMO cA cZ c2 cT cL s.heap.size (mS 0 1 M) z) (rv := .int (nI 0)) ⟨hx, hb, hml, hown, hts⟩ (met_u (c_MO_pin_no l D _ (laM s.heap.size) cA cZ cL M z (xs (i + 1)) (xs (i + 2)) (xs (i + 3)) (by omega) (Or.inl hbf))) ⟨km_LA_128, ki_MO_pin, ks_MO_pin, kn_MO, kd_MO_pin⟩ (by decide +kernel) (by decide) ⟨(by show cs + 1 + 0 ≤ 601024; omega), (by show sl + 6 + 0 ≤ 7293000; omega)⟩ (hK.sub [0, 1, 4] rfl) (h_kMO) hn0 hS (la_A hS (fun p hp => by have := hi0 p hp; omega)) rfl rfl rfl hl.1 rfl (Nat.le_of_ble_eq_true rfl) d_LA_law_1046 (fun _ H1 locs1 hph hP1 hz1 hf1 hS1 => ?_)
    have hq0 := hP1
    have h_kSB := hf1.far h_kSB in_kSB (fun p hp => by have := hi0 p hp; omega)
    have h_kBL := hf1.far h_kBL in_kBL (fun p hp => by have := hi0 p hp; omega)
    have h_kNE := hf1.far h_kNE in_kNE (fun p hp => by have := hi0 p hp; omega)
    have h_kP := hf1.far h_kP in_kP (fun p hp => by have := hi0 p hp; omega)
    have h_kSE := hf1.far h_kSE in_kSE (fun p hp => by have := hi0 p hp; omega)
    have h_kQ := hf1.far h_kQ in_kQ (fun p hp => by have := hi0 p hp; omega)
    have h_kDR := hf1.far h_kDR in_kDR (fun p hp => by have := hi0 p hp; omega)
    have h_kPI := hf1.far h_kPI in_kPI (fun p hp => by have := hi0 p hp; omega)
    have h_kOU := hf1.far h_kOU in_kOU (fun p hp => by have := hi0 p hp; omega)
    have h_kMO := hq0
    have hT := th_kept0 hT hO hf1 (fun p hp => by have := hi0 p hp; omega)
    have hS := hS1
    clear hf1 hS1 hP1 hn0 hi0
    refine lv_istore (lv' := [(6, .int (nI 0)), (5, .int (nI 1)), (0, .ref b), (1, .ref s.heap.size), (2, .ref (s.heap.size + 69)), (3, .ref (s.heap.size + 97)), (4, .int (nI i))]) hx hb d_LA_law_1049 hl (by decide) rfl (fun ls hl => ?_)
    refine lv_aload_n hx hb d_LA_law_1051 rfl (lv_at hl 4 rfl) ?_
    refine zrM_V (ci := 10) (q0 := 0) (As := []) (rest := []) (n := 0) (wsC := kMO cA cZ c2 cT cL s.heap.size (mS 0 1 M) z) ⟨hx, hb, hml, hown, hts⟩ (c_MO_thrown l D (laM s.heap.size) cA cZ cL (mS 0 1 M) z) ⟨km_LA_80, ki_MO_thrown, ks_MO_thrown, kn_MO, kd_MO_thrown⟩ (by decide +kernel) (by decide) ⟨(by show cs + 1 + 0 ≤ 601024; omega), (by show sl + 6 + 0 ≤ 7293000; omega)⟩ (hK.sub [0, 1, 4] rfl) h_kMO rfl rfl rfl hl.1 rfl (Nat.le_of_ble_eq_true rfl) d_LA_law_1052 ?_
    refine lv_toi (z := nI 1) rfl ?_
    refine lv_iload hx hb d_LA_law_1055 (lv_at hl 1 rfl) ?_
    refine z_ceq (tgt := 1062) hx hb d_LA_law_1057 (by decide) (by omega) (by omega) (fun _ => ?_) (fun h => absurd h (by omega))
    refine lv_iload hx hb d_LA_law_1062 (lv_at hl 1 rfl) ?_
    refine z_0ne (tgt := 1079) hx hb d_LA_law_1064 (by decide) (by omega) (fun _ => ?_) (fun h => absurd h (by omega))
    refine lv_goto (tgt := 1221) hx hb d_LA_law_1079 (by decide) ?_
    exact kk _ _ _ _ ls (by omega) (by omega) hS ⟨tc, tf, B, P, Qp, N, ah, kw, z, nn, sd, cf, lf, cn, (mS 0 1 M), fo, bk, us, u, cap, wt, tB, ⟨h_kSB, h_kBL, h_kNE, h_kP, h_kSE, h_kQ, h_kDR, h_kPI, h_kMO, h_kOU⟩, hT, hO, RelG_ag hG ⟨⟨rfl, rfl, rfl, rfl, rfl, rfl, rfl, rfl, rfl, rfl, rfl, rfl⟩, ⟨rfl, rfl, rfl, rfl⟩, rfl, rfl, rfl⟩, RelT_ag hR ⟨⟨rfl, rfl, rfl, rfl, rfl, rfl, rfl, rfl, rfl, rfl, rfl, rfl⟩, ⟨rfl, rfl, rfl, rfl⟩, rfl, rfl, rfl⟩, hq⟩ (lv_sub hl [2, 3, 4, 5, 6] rfl)
  · by_cases hw : xs (i + 2) < 0 ∨ 3 < xs (i + 2) ∨ xs (i + 3) < 0 ∨ 1 < xs (i + 3)
    · have hfb := fb1_k hkx hke hbk
      obtain ⟨T, hTs0, hfT⟩ := fb_T1 hT hfb
      refine lv_aload_n hx hb d_LA_law_1002 rfl (lv_at hl 1 rfl) ?_
      refine lv_aload_n hx hb d_LA_law_1003 rfl (lv_at hl 0 rfl) ?_
      refine lv_iload hx hb d_LA_law_1004 (lv_at hl 4 rfl) ?_
      refine lv_iconst (v := nI 1) hx hb d_LA_law_1006 (by decide) ?_
      refine z_add hx hb d_LA_law_1007 ?_
      refine va_sld hx hb hX hbl hbA hS (vp_in_nI (n := (i + 1)) (by omega) (by omega)) d_LA_law_1008 ?_
      refine lv_toi (z := xs (i + 1)) (congrArg xs (nI_clamp (by omega))) ?_
      refine lv_aload_n hx hb d_LA_law_1009 rfl (lv_at hl 0 rfl) ?_
      refine lv_iload hx hb d_LA_law_1010 (lv_at hl 4 rfl) ?_
      refine lv_iconst (v := nI 2) hx hb d_LA_law_1012 (by decide) ?_
      refine z_add hx hb d_LA_law_1013 ?_
      refine va_sld hx hb hX hbl hbA hS (vp_in_nI (n := (i + 2)) (by omega) (by omega)) d_LA_law_1014 ?_
      refine lv_toi (z := xs (i + 2)) (congrArg xs (nI_clamp (by omega))) ?_
      refine lv_aload_n hx hb d_LA_law_1015 rfl (lv_at hl 0 rfl) ?_
      refine lv_iload hx hb d_LA_law_1016 (lv_at hl 4 rfl) ?_
      refine lv_iconst (v := nI 3) hx hb d_LA_law_1018 (by decide) ?_
      refine z_add hx hb d_LA_law_1019 ?_
      refine va_sld hx hb hX hbl hbA hS (vp_in_nI (n := (i + 3)) (by omega) (by omega)) d_LA_law_1020 ?_
      refine lv_toi (z := xs (i + 3)) (congrArg xs (nI_clamp (by omega))) ?_
      refine lv_aload_n hx hb d_LA_law_1021 rfl (lv_at hl 3 rfl) ?_
      have hTs : thS D cA bk us u cap tB tc (T) H := hTs0
      have hTi := thS_in (h0 := s.heap.size) hT hTs
      have hi0 : ∀ p ∈ kSB cA cZ c2 cT cL s.heap.size tc tf, (s.heap.size + 0 ≤ p.1 ∧ p.1 < s.heap.size + 2) := in_kSB
      have hn0 : va_D (fun _ => True) (kSB cA cZ c2 cT cL s.heap.size tc tf) := nd_kSB
      have hn1 : va_D (fun _ => True) ((kSB cA cZ c2 cT cL s.heap.size tc tf) ++ (T)) := nd_app hn0 hTs.2.1 (fun p hp q hq e9 => by have := hi0 p hp; have := hTi q hq; omega)
      have hi1 : ∀ p ∈ (kSB cA cZ c2 cT cL s.heap.size tc tf) ++ (T), (s.heap.size + 0 ≤ p.1 ∧ p.1 < s.heap.size + 2) ∨ (s.heap.size + 98 ≤ p.1) := fun p hp => (List.mem_append.mp hp).elim (fun h => by have := hi0 p h; omega) (fun h => by have := hTi p h; omega)
      have hw9 : ∀ p ∈ (kSB cA cZ c2 cT cL s.heap.size tc tf) ++ (T), p.1 < s.heap.size + 98 ∨ p ∈ T := fun p hp => (List.mem_append.mp hp).elim (fun h => Or.inl (by have := in_kSB p h; omega)) (fun h => Or.inr h)
      refine zg_H (V := Unit) (F := zT2) (mc := 1) (ms := 6) (As := [.ref s.heap.size, .int (xs (i + 1)), .int (xs (i + 2)), .int (xs (i + 3)), .ref (s.heap.size + 97)]) (rest := []) (n := 5) (wsC := (kSB cA cZ c2 cT cL s.heap.size tc tf) ++ (T)) (φ := fun _ => True) (wv := fun _ => (kSB cA cZ c2 cT cL s.heap.size tc tf) ++ (T)) (rv := .int (nI 1)) zT2_ok ⟨hx, hb, hml, hown, hts⟩ (met_u (h_pin_x l D htl _ (fun k => s.heap.size + k) (fun k => s.heap.size + 2 + k) (fun k => s.heap.size + 11 + k) (fun k => s.heap.size + 15 + k) (fun k => s.heap.size + 30 + 16 * k) (laI s.heap.size) cA cZ c2 cT tc tf (s.heap.size + 97) T (xs (i + 1)) (nI bx) (xs (i + 2)) (xs (i + 3)) h40 hfT (Or.inr hw))) ⟨km_LA_126, kst_LA_pin, kn_LA, kw_LA_pin⟩ (by decide +kernel) (by decide) ⟨(by show cs + 1 ≤ 601024; omega), (by show sl + 6 ≤ 7293000; omega)⟩ (hK.sub [0, 1, 2, 3] rfl) ((h_kSB).app hTs.1) hn1 hS (la_A hS (fun p hp => by have := hi1 p hp; omega)) hF2 rfl hl.1 rfl (Nat.le_of_ble_eq_true rfl) d_LA_law_1022 (fun _ H1 locs1 hph hP1 hz1 hf1 hS1 => ?_)
      have hq1 := va_P.right hP1
      have hr1 := va_P.left hP1
      have hq0 := hr1
      have h_kBL := hf1.far h_kBL in_kBL (fun p hp => by have := hi1 p hp; omega)
      have h_kNE := hf1.far h_kNE in_kNE (fun p hp => by have := hi1 p hp; omega)
      have h_kP := hf1.far h_kP in_kP (fun p hp => by have := hi1 p hp; omega)
      have h_kSE := hf1.far h_kSE in_kSE (fun p hp => by have := hi1 p hp; omega)
      have h_kQ := hf1.far h_kQ in_kQ (fun p hp => by have := hi1 p hp; omega)
      have h_kDR := hf1.far h_kDR in_kDR (fun p hp => by have := hi1 p hp; omega)
      have h_kPI := hf1.far h_kPI in_kPI (fun p hp => by have := hi1 p hp; omega)
      have h_kMO := hf1.far h_kMO in_kMO (fun p hp => by have := hi1 p hp; omega)
      have h_kOU := hf1.far h_kOU in_kOU (fun p hp => by have := hi1 p hp; omega)
      have h_kSB := hq0
      have hT := th_kept hT hO hf1 hw9 hTs hq1
      have hS := hS1
      clear hf1 hS1 hP1 hn0 hi0 hn1 hi1
      refine lv_istore (lv' := [(5, .int (nI 1)), (0, .ref b), (1, .ref s.heap.size), (2, .ref (s.heap.size + 69)), (3, .ref (s.heap.size + 97)), (4, .int (nI i))]) hx hb d_LA_law_1025 hl (by decide) rfl (fun ls hl => ?_)
      refine lv_aload_n hx hb d_LA_law_1027 rfl (lv_at hl 3 rfl) ?_
      refine lv_aload_n hx hb d_LA_law_1028 rfl (lv_at hl 1 rfl) ?_
      refine lv_iload hx hb d_LA_law_1029 (lv_at hl 5 rfl) ?_
      refine lv_iconst (v := nI 1) hx hb d_LA_law_1031 (by decide) ?_
      refine z_add hx hb d_LA_law_1032 ?_
      refine va_sld hx hb hX hbl hbA hS (vp_in_nI (n := (i + 1)) (by omega) (by omega)) d_LA_law_1033 ?_
      refine lv_toi (z := xs (i + 1)) (congrArg xs (nI_clamp (by omega))) ?_
      refine lv_aload_n hx hb d_LA_law_1034 rfl (lv_at hl 1 rfl) ?_
      refine lv_iload hx hb d_LA_law_1035 (lv_at hl 5 rfl) ?_
      refine lv_iconst (v := nI 2) hx hb d_LA_law_1037 (by decide) ?_
      refine z_add hx hb d_LA_law_1038 ?_
      refine va_sld hx hb hX hbl hbA hS (vp_in_nI (n := (i + 2)) (by omega) (by omega)) d_LA_law_1039 ?_
      refine lv_toi (z := xs (i + 2)) (congrArg xs (nI_clamp (by omega))) ?_
      refine lv_aload_n hx hb d_LA_law_1040 rfl (lv_at hl 1 rfl) ?_
      refine lv_iload hx hb d_LA_law_1041 (lv_at hl 5 rfl) ?_
      refine lv_iconst (v := nI 3) hx hb d_LA_law_1043 (by decide) ?_
      refine z_add hx hb d_LA_law_1044 ?_
      refine va_sld hx hb hX hbl hbA hS (vp_in_nI (n := (i + 3)) (by omega) (by omega)) d_LA_law_1045 ?_
      refine lv_toi (z := xs (i + 3)) (congrArg xs (nI_clamp (by omega))) ?_
      have hi0 : ∀ p ∈ kMO cA cZ c2 cT cL s.heap.size M z, (s.heap.size + 69 ≤ p.1 ∧ p.1 < s.heap.size + 97) := in_kMO
      have hn0 : va_D (fun _ => True) (kMO cA cZ c2 cT cL s.heap.size M z) := nd_kMO
      refine zg_V (V := Unit) (ci := 10) (q0 := 0) (As := [.int (xs (i + 1)), .int (xs (i + 2)), .int (xs (i + 3))]) (rest := []) (n := 3) (wsC := kMO cA cZ c2 cT cL s.heap.size M z) (φ := fun _ => True) (wv := fun _ => kMO cA cZ c2 cT cL s.heap.size (mS 0 1 M) z) (rv := .int (nI 0)) ⟨hx, hb, hml, hown, hts⟩ (met_u (c_MO_pin_no l D _ (laM s.heap.size) cA cZ cL M z (xs (i + 1)) (xs (i + 2)) (xs (i + 3)) (by omega) (Or.inr hw))) ⟨km_LA_128, ki_MO_pin, ks_MO_pin, kn_MO, kd_MO_pin⟩ (by decide +kernel) (by decide) ⟨(by show cs + 1 + 0 ≤ 601024; omega), (by show sl + 6 + 0 ≤ 7293000; omega)⟩ (hK.sub [0, 1, 4] rfl) (h_kMO) hn0 hS (la_A hS (fun p hp => by have := hi0 p hp; omega)) rfl rfl rfl hl.1 rfl (Nat.le_of_ble_eq_true rfl) d_LA_law_1046 (fun _ H1 locs1 hph hP1 hz1 hf1 hS1 => ?_)
      have hq0 := hP1
      have h_kSB := hf1.far h_kSB in_kSB (fun p hp => by have := hi0 p hp; omega)
      have h_kBL := hf1.far h_kBL in_kBL (fun p hp => by have := hi0 p hp; omega)
      have h_kNE := hf1.far h_kNE in_kNE (fun p hp => by have := hi0 p hp; omega)
      have h_kP := hf1.far h_kP in_kP (fun p hp => by have := hi0 p hp; omega)
      have h_kSE := hf1.far h_kSE in_kSE (fun p hp => by have := hi0 p hp; omega)
      have h_kQ := hf1.far h_kQ in_kQ (fun p hp => by have := hi0 p hp; omega)
      have h_kDR := hf1.far h_kDR in_kDR (fun p hp => by have := hi0 p hp; omega)
      have h_kPI := hf1.far h_kPI in_kPI (fun p hp => by have := hi0 p hp; omega)
      have h_kOU := hf1.far h_kOU in_kOU (fun p hp => by have := hi0 p hp; omega)
      have h_kMO := hq0
      have hT := th_kept0 hT hO hf1 (fun p hp => by have := hi0 p hp; omega)
      have hS := hS1
      clear hf1 hS1 hP1 hn0 hi0
      refine lv_istore (lv' := [(6, .int (nI 0)), (5, .int (nI 1)), (0, .ref b), (1, .ref s.heap.size), (2, .ref (s.heap.size + 69)), (3, .ref (s.heap.size + 97)), (4, .int (nI i))]) hx hb d_LA_law_1049 hl (by decide) rfl (fun ls hl => ?_)
      refine lv_aload_n hx hb d_LA_law_1051 rfl (lv_at hl 4 rfl) ?_
      refine zrM_V (ci := 10) (q0 := 0) (As := []) (rest := []) (n := 0) (wsC := kMO cA cZ c2 cT cL s.heap.size (mS 0 1 M) z) ⟨hx, hb, hml, hown, hts⟩ (c_MO_thrown l D (laM s.heap.size) cA cZ cL (mS 0 1 M) z) ⟨km_LA_80, ki_MO_thrown, ks_MO_thrown, kn_MO, kd_MO_thrown⟩ (by decide +kernel) (by decide) ⟨(by show cs + 1 + 0 ≤ 601024; omega), (by show sl + 6 + 0 ≤ 7293000; omega)⟩ (hK.sub [0, 1, 4] rfl) h_kMO rfl rfl rfl hl.1 rfl (Nat.le_of_ble_eq_true rfl) d_LA_law_1052 ?_
      refine lv_toi (z := nI 1) rfl ?_
      refine lv_iload hx hb d_LA_law_1055 (lv_at hl 1 rfl) ?_
      refine z_ceq (tgt := 1062) hx hb d_LA_law_1057 (by decide) (by omega) (by omega) (fun _ => ?_) (fun h => absurd h (by omega))
      refine lv_iload hx hb d_LA_law_1062 (lv_at hl 1 rfl) ?_
      refine z_0ne (tgt := 1079) hx hb d_LA_law_1064 (by decide) (by omega) (fun _ => ?_) (fun h => absurd h (by omega))
      refine lv_goto (tgt := 1221) hx hb d_LA_law_1079 (by decide) ?_
      exact kk _ _ _ _ ls (by omega) (by omega) hS ⟨tc, tf, B, P, Qp, N, ah, kw, z, nn, sd, cf, lf, cn, (mS 0 1 M), fo, bk, us, u, cap, wt, tB, ⟨h_kSB, h_kBL, h_kNE, h_kP, h_kSE, h_kQ, h_kDR, h_kPI, h_kMO, h_kOU⟩, hT, hO, RelG_ag hG ⟨⟨rfl, rfl, rfl, rfl, rfl, rfl, rfl, rfl, rfl, rfl, rfl, rfl⟩, ⟨rfl, rfl, rfl, rfl⟩, rfl, rfl, rfl⟩, RelT_ag hR ⟨⟨rfl, rfl, rfl, rfl, rfl, rfl, rfl, rfl, rfl, rfl, rfl, rfl⟩, ⟨rfl, rfl, rfl, rfl⟩, rfl, rfl, rfl⟩, hq⟩ (lv_sub hl [2, 3, 4, 5, 6] rfl)
    · have hb16 : bx < 16 := by omega
      have hbf2 : bfind (M.1 10) (nI kx) (M.2.2.1 17) = some bx := by rw [← hke]; exact hbf
      have hGv := RelG_ag hG (ag_v M)
      have hgb : P.1 4 bx ≤ 36000 ∧ P.1 5 bx ≤ 36000 ∧ P.1 6 bx ≤ 36000 ∧ P.1 7 bx ≤ 36000 := hG.1.2.2.2.1.2.2 bx hbx
      obtain ⟨s0, k0, hs0, hk0, hse, hke2⟩ := pin_of hw
      have hdg := RelG_deg hG hb16
      have hrn := hG.2.2.2.2.1
      have hon := hG.2.2.2.1
      refine lv_aload_n hx hb d_LA_law_1002 rfl (lv_at hl 1 rfl) ?_
      refine lv_aload_n hx hb d_LA_law_1003 rfl (lv_at hl 0 rfl) ?_
      refine lv_iload hx hb d_LA_law_1004 (lv_at hl 4 rfl) ?_
      refine lv_iconst (v := nI 1) hx hb d_LA_law_1006 (by decide) ?_
      refine z_add hx hb d_LA_law_1007 ?_
      refine va_sld hx hb hX hbl hbA hS (vp_in_nI (n := (i + 1)) (by omega) (by omega)) d_LA_law_1008 ?_
      refine lv_toi (z := (nI kx)) ((congrArg xs (nI_clamp (by omega))).trans hke) ?_
      refine lv_aload_n hx hb d_LA_law_1009 rfl (lv_at hl 0 rfl) ?_
      refine lv_iload hx hb d_LA_law_1010 (lv_at hl 4 rfl) ?_
      refine lv_iconst (v := nI 2) hx hb d_LA_law_1012 (by decide) ?_
      refine z_add hx hb d_LA_law_1013 ?_
      refine va_sld hx hb hX hbl hbA hS (vp_in_nI (n := (i + 2)) (by omega) (by omega)) d_LA_law_1014 ?_
      refine lv_toi (z := (nI s0)) ((congrArg xs (nI_clamp (by omega))).trans hse) ?_
      refine lv_aload_n hx hb d_LA_law_1015 rfl (lv_at hl 0 rfl) ?_
      refine lv_iload hx hb d_LA_law_1016 (lv_at hl 4 rfl) ?_
      refine lv_iconst (v := nI 3) hx hb d_LA_law_1018 (by decide) ?_
      refine z_add hx hb d_LA_law_1019 ?_
      refine va_sld hx hb hX hbl hbA hS (vp_in_nI (n := (i + 3)) (by omega) (by omega)) d_LA_law_1020 ?_
      refine lv_toi (z := (nI k0)) ((congrArg xs (nI_clamp (by omega))).trans hke2) ?_
      refine lv_aload_n hx hb d_LA_law_1021 rfl (lv_at hl 3 rfl) ?_
      have hTs : thS D cA bk us u cap tB tc (lTO cA (tB kx) (nI bx) (us kx)) H := thS_o hT hkx hbk
      have hTi := thS_in (h0 := s.heap.size) hT hTs
      have hi0 : ∀ p ∈ kPI cA cZ c2 cT cL s.heap.size nn sd cf lf cn, (s.heap.size + 47 ≤ p.1 ∧ p.1 < s.heap.size + 69) := in_kPI
      have hn0 : va_D (fun _ => True) (kPI cA cZ c2 cT cL s.heap.size nn sd cf lf cn) := nd_kPI
      have hn1 : va_D (fun _ => True) ((kPI cA cZ c2 cT cL s.heap.size nn sd cf lf cn) ++ (kP cA cZ c2 cT cL s.heap.size P)) := nd_app hn0 nd_kP (fun p hp q hq e9 => by have := hi0 p hp; have := in_kP q hq; omega)
      have hi1 : ∀ p ∈ (kPI cA cZ c2 cT cL s.heap.size nn sd cf lf cn) ++ (kP cA cZ c2 cT cL s.heap.size P), (s.heap.size + 47 ≤ p.1 ∧ p.1 < s.heap.size + 69) ∨ (s.heap.size + 15 ≤ p.1 ∧ p.1 < s.heap.size + 30) := fun p hp => (List.mem_append.mp hp).elim (fun h => by have := hi0 p h; omega) (fun h => by have := in_kP p h; omega)
      have hn2 : va_D (fun _ => True) (((kPI cA cZ c2 cT cL s.heap.size nn sd cf lf cn) ++ (kP cA cZ c2 cT cL s.heap.size P)) ++ (kNE cA cZ c2 cT cL s.heap.size N)) := nd_app hn1 nd_kNE (fun p hp q hq e9 => by have := hi1 p hp; have := in_kNE q hq; omega)
      have hi2 : ∀ p ∈ ((kPI cA cZ c2 cT cL s.heap.size nn sd cf lf cn) ++ (kP cA cZ c2 cT cL s.heap.size P)) ++ (kNE cA cZ c2 cT cL s.heap.size N), (s.heap.size + 47 ≤ p.1 ∧ p.1 < s.heap.size + 69) ∨ (s.heap.size + 15 ≤ p.1 ∧ p.1 < s.heap.size + 30) ∨ (s.heap.size + 11 ≤ p.1 ∧ p.1 < s.heap.size + 15) := fun p hp => (List.mem_append.mp hp).elim (fun h => by have := hi1 p h; omega) (fun h => by have := in_kNE p h; omega)
      have hn3 : va_D (fun _ => True) ((((kPI cA cZ c2 cT cL s.heap.size nn sd cf lf cn) ++ (kP cA cZ c2 cT cL s.heap.size P)) ++ (kNE cA cZ c2 cT cL s.heap.size N)) ++ (kSB cA cZ c2 cT cL s.heap.size tc tf)) := nd_app hn2 nd_kSB (fun p hp q hq e9 => by have := hi2 p hp; have := in_kSB q hq; omega)
      have hi3 : ∀ p ∈ (((kPI cA cZ c2 cT cL s.heap.size nn sd cf lf cn) ++ (kP cA cZ c2 cT cL s.heap.size P)) ++ (kNE cA cZ c2 cT cL s.heap.size N)) ++ (kSB cA cZ c2 cT cL s.heap.size tc tf), (s.heap.size + 47 ≤ p.1 ∧ p.1 < s.heap.size + 69) ∨ (s.heap.size + 15 ≤ p.1 ∧ p.1 < s.heap.size + 30) ∨ (s.heap.size + 11 ≤ p.1 ∧ p.1 < s.heap.size + 15) ∨ (s.heap.size + 0 ≤ p.1 ∧ p.1 < s.heap.size + 2) := fun p hp => (List.mem_append.mp hp).elim (fun h => by have := hi2 p h; omega) (fun h => by have := in_kSB p h; omega)
      have hn4 : va_D (fun _ => True) (((((kPI cA cZ c2 cT cL s.heap.size nn sd cf lf cn) ++ (kP cA cZ c2 cT cL s.heap.size P)) ++ (kNE cA cZ c2 cT cL s.heap.size N)) ++ (kSB cA cZ c2 cT cL s.heap.size tc tf)) ++ (lTO cA (tB kx) (nI bx) (us kx))) := nd_app hn3 hTs.2.1 (fun p hp q hq e9 => by have := hi3 p hp; have := hTi q hq; omega)
      have hi4 : ∀ p ∈ ((((kPI cA cZ c2 cT cL s.heap.size nn sd cf lf cn) ++ (kP cA cZ c2 cT cL s.heap.size P)) ++ (kNE cA cZ c2 cT cL s.heap.size N)) ++ (kSB cA cZ c2 cT cL s.heap.size tc tf)) ++ (lTO cA (tB kx) (nI bx) (us kx)), (s.heap.size + 47 ≤ p.1 ∧ p.1 < s.heap.size + 69) ∨ (s.heap.size + 15 ≤ p.1 ∧ p.1 < s.heap.size + 30) ∨ (s.heap.size + 11 ≤ p.1 ∧ p.1 < s.heap.size + 15) ∨ (s.heap.size + 0 ≤ p.1 ∧ p.1 < s.heap.size + 2) ∨ (s.heap.size + 98 ≤ p.1) := fun p hp => (List.mem_append.mp hp).elim (fun h => by have := hi3 p h; omega) (fun h => by have := hTi p h; omega)
      have hn5 : va_D (fun _ => True) ((((((kPI cA cZ c2 cT cL s.heap.size nn sd cf lf cn) ++ (kP cA cZ c2 cT cL s.heap.size P)) ++ (kNE cA cZ c2 cT cL s.heap.size N)) ++ (kSB cA cZ c2 cT cL s.heap.size tc tf)) ++ (lTO cA (tB kx) (nI bx) (us kx))) ++ (kOU cA cZ c2 cT cL s.heap.size fo)) := nd_app hn4 nd_kOU (fun p hp q hq e9 => by have := hi4 p hp; have := in_kOU q hq; omega)
      have hi5 : ∀ p ∈ (((((kPI cA cZ c2 cT cL s.heap.size nn sd cf lf cn) ++ (kP cA cZ c2 cT cL s.heap.size P)) ++ (kNE cA cZ c2 cT cL s.heap.size N)) ++ (kSB cA cZ c2 cT cL s.heap.size tc tf)) ++ (lTO cA (tB kx) (nI bx) (us kx))) ++ (kOU cA cZ c2 cT cL s.heap.size fo), (s.heap.size + 47 ≤ p.1 ∧ p.1 < s.heap.size + 69) ∨ (s.heap.size + 15 ≤ p.1 ∧ p.1 < s.heap.size + 30) ∨ (s.heap.size + 11 ≤ p.1 ∧ p.1 < s.heap.size + 15) ∨ (s.heap.size + 0 ≤ p.1 ∧ p.1 < s.heap.size + 2) ∨ (s.heap.size + 98 ≤ p.1) ∨ (s.heap.size + 97 ≤ p.1 ∧ p.1 < s.heap.size + 98) := fun p hp => (List.mem_append.mp hp).elim (fun h => by have := hi4 p h; omega) (fun h => by have := in_kOU p h; omega)
      have hw9 : ∀ p ∈ (((((kPI cA cZ c2 cT cL s.heap.size nn sd cf lf cn) ++ (kP cA cZ c2 cT cL s.heap.size P)) ++ (kNE cA cZ c2 cT cL s.heap.size N)) ++ (kSB cA cZ c2 cT cL s.heap.size tc tf)) ++ (lTO cA (tB kx) (nI bx) (us kx))) ++ (kOU cA cZ c2 cT cL s.heap.size fo), p.1 < s.heap.size + 98 ∨ p ∈ lTO cA (tB kx) (nI bx) (us kx) := fun p hp => (List.mem_append.mp hp).elim (fun h => (List.mem_append.mp h).elim (fun h => (List.mem_append.mp h).elim (fun h => (List.mem_append.mp h).elim (fun h => (List.mem_append.mp h).elim (fun h => Or.inl (by have := in_kPI p h; omega)) (fun h => Or.inl (by have := in_kP p h; omega))) (fun h => Or.inl (by have := in_kNE p h; omega))) (fun h => Or.inl (by have := in_kSB p h; omega))) (fun h => Or.inr h)) (fun h => Or.inl (by have := in_kOU p h; omega))
      refine zg_H (V := (Nat → Nat) × (Nat → Nat) × (Nat → Nat → Nat) × (Nat → Nat → Nat)) (F := zT1) (mc := 0) (ms := 0) (As := [.ref s.heap.size, .int (nI kx), .int (nI s0), .int (nI k0), .ref (s.heap.size + 97)]) (rest := []) (n := 5) (wsC := (((((kPI cA cZ c2 cT cL s.heap.size nn sd cf lf cn) ++ (kP cA cZ c2 cT cL s.heap.size P)) ++ (kNE cA cZ c2 cT cL s.heap.size N)) ++ (kSB cA cZ c2 cT cL s.heap.size tc tf)) ++ (lTO cA (tB kx) (nI bx) (us kx))) ++ (kOU cA cZ c2 cT cL s.heap.size fo)) (φ := fun _ => True) (wv := fun v4 => (((((kPI cA cZ c2 cT cL s.heap.size v4.1 v4.2.1 v4.2.2.1 v4.2.2.2 ((gO (N.1 0) (N.1 1) bx N.2).2)) ++ (kP cA cZ c2 cT cL s.heap.size P)) ++ (kNE cA cZ c2 cT cL s.heap.size N)) ++ (kSB cA cZ c2 cT cL s.heap.size tc tf)) ++ (lTO cA (tB kx) (nI bx) (us kx))) ++ (kOU cA cZ c2 cT cL s.heap.size (o1 fo ((pinV P (N.1 0) (N.1 1) N.2 bx s0 k0).toInt64)))) (rv := .int (nI 0)) zT1_ok ⟨hx, hb, hml, hown, hts⟩ (h_pin l D _ (fun k => s.heap.size + k) (fun k => s.heap.size + 2 + k) (fun k => s.heap.size + 11 + k) (fun k => s.heap.size + 15 + k) (fun k => s.heap.size + 30 + 16 * k) (laI s.heap.size) (fun k => s.heap.size + 51 + k) (fun k => s.heap.size + 60 + k) cA cZ c2 cT tc tf (s.heap.size + 97) cL fo (tB kx) (tB kx + 1) (us kx) nn sd cf lf cn P N B.2.2.2 kx bx s0 k0 h40 hkx (hT kx hkx).2.2 h16 hbx hG.1.2.2.2.1 hon.1 hon.2 hdg.1 hs0 hk0) ⟨km_LA_126, kst_LA_pin, kn_LA, kw_LA_pin⟩ (by decide +kernel) (by decide) ⟨(by show cs + 0 ≤ 601024; omega), (by show sl + 0 ≤ 7293000; omega)⟩ (hK.sub [0, 1, 2, 3, 4] rfl) ((((((h_kPI).app h_kP).app h_kNE).app h_kSB).app hTs.1).app h_kOU) hn5 hS (la_A hS (fun p hp => by have := hi5 p hp; omega)) hF1 rfl hl.1 rfl (Nat.le_of_ble_eq_true rfl) d_LA_law_1022 (fun v4 H1 locs1 hph hP1 hz1 hf1 hS1 => ?_)
      have hq5 := va_P.right hP1
      have hr5 := va_P.left hP1
      have hq4 := va_P.right hr5
      have hr4 := va_P.left hr5
      have hq3 := va_P.right hr4
      have hr3 := va_P.left hr4
      have hq2 := va_P.right hr3
      have hr2 := va_P.left hr3
      have hq1 := va_P.right hr2
      have hr1 := va_P.left hr2
      have hq0 := hr1
      have h_kBL := hf1.far h_kBL in_kBL (fun p hp => by have := hi5 p hp; omega)
      have h_kSE := hf1.far h_kSE in_kSE (fun p hp => by have := hi5 p hp; omega)
      have h_kQ := hf1.far h_kQ in_kQ (fun p hp => by have := hi5 p hp; omega)
      have h_kDR := hf1.far h_kDR in_kDR (fun p hp => by have := hi5 p hp; omega)
      have h_kMO := hf1.far h_kMO in_kMO (fun p hp => by have := hi5 p hp; omega)
      have h_kPI := hq0
      have h_kP := hq1
      have h_kNE := hq2
      have h_kSB := hq3
      have h_kOU := hq5
      have hT := th_kept hT hO hf1 hw9 hTs hq4
      have hS := hS1
      clear hf1 hS1 hP1 hn0 hi0 hn1 hi1 hn2 hi2 hn3 hi3 hn4 hi4 hn5 hi5
      refine lv_istore (lv' := [(5, .int (nI 0)), (0, .ref b), (1, .ref s.heap.size), (2, .ref (s.heap.size + 69)), (3, .ref (s.heap.size + 97)), (4, .int (nI i))]) hx hb d_LA_law_1025 hl (by decide) rfl (fun ls hl => ?_)
      refine lv_aload_n hx hb d_LA_law_1027 rfl (lv_at hl 3 rfl) ?_
      refine lv_aload_n hx hb d_LA_law_1028 rfl (lv_at hl 1 rfl) ?_
      refine lv_iload hx hb d_LA_law_1029 (lv_at hl 5 rfl) ?_
      refine lv_iconst (v := nI 1) hx hb d_LA_law_1031 (by decide) ?_
      refine z_add hx hb d_LA_law_1032 ?_
      refine va_sld hx hb hX hbl hbA hS (vp_in_nI (n := (i + 1)) (by omega) (by omega)) d_LA_law_1033 ?_
      refine lv_toi (z := (nI kx)) ((congrArg xs (nI_clamp (by omega))).trans hke) ?_
      refine lv_aload_n hx hb d_LA_law_1034 rfl (lv_at hl 1 rfl) ?_
      refine lv_iload hx hb d_LA_law_1035 (lv_at hl 5 rfl) ?_
      refine lv_iconst (v := nI 2) hx hb d_LA_law_1037 (by decide) ?_
      refine z_add hx hb d_LA_law_1038 ?_
      refine va_sld hx hb hX hbl hbA hS (vp_in_nI (n := (i + 2)) (by omega) (by omega)) d_LA_law_1039 ?_
      refine lv_toi (z := (nI s0)) ((congrArg xs (nI_clamp (by omega))).trans hse) ?_
      refine lv_aload_n hx hb d_LA_law_1040 rfl (lv_at hl 1 rfl) ?_
      refine lv_iload hx hb d_LA_law_1041 (lv_at hl 5 rfl) ?_
      refine lv_iconst (v := nI 3) hx hb d_LA_law_1043 (by decide) ?_
      refine z_add hx hb d_LA_law_1044 ?_
      refine va_sld hx hb hX hbl hbA hS (vp_in_nI (n := (i + 3)) (by omega) (by omega)) d_LA_law_1045 ?_
      refine lv_toi (z := (nI k0)) ((congrArg xs (nI_clamp (by omega))).trans hke2) ?_
      have hi0 : ∀ p ∈ kMO cA cZ c2 cT cL s.heap.size M z, (s.heap.size + 69 ≤ p.1 ∧ p.1 < s.heap.size + 97) := in_kMO
      have hn0 : va_D (fun _ => True) (kMO cA cZ c2 cT cL s.heap.size M z) := nd_kMO
      refine zg_V (V := V5 × ((Nat → Nat) × (Nat → Nat) × (Nat → Nat) × (Nat → Nat))) (ci := 10) (q0 := 0) (As := [.int (nI kx), .int (nI s0), .int (nI k0)]) (rest := []) (n := 3) (wsC := kMO cA cZ c2 cT cL s.heap.size M z) (φ := fun v2 => v2.1.1 = M.1 21 ∧ v2.1.2.1 = M.1 22 ∧ v2.1.2.2.1 = M.2.1 23) (wv := fun v2 => kMO cA cZ c2 cT cL s.heap.size (mN 28 v2.2.1 (mN 29 v2.2.2.1 (mN 30 v2.2.2.2.1 (mN 31 v2.2.2.2.2 (mq (mS 0 0 M) v2.1))))) z) (rv := .int (pinV P (M.1 18) (M.1 19) (M.2.2.1 20) bx s0 k0)) ⟨hx, hb, hml, hown, hts⟩ (r_pin l D _ (laM s.heap.size) cA cZ cL M z (vM M) B.2.2.2 B P (nI kx) bx s0 k0 h16 hGv.2.2.1.1 hGv.2.2.1.2.1 hG.2.2.1.2.2 hG.1.2.2.1 hG.1.2.2.2.1 hG.1.2.2.2.2.1 hbf2 hbx hs0 hk0 (by rw [hrn.1]; exact hon.1) (fun k hk => by rw [hrn.1] at hk; rw [(hrn.2 k hk).1, (hrn.2 k hk).2]; exact hon.2 k hk) (by rw [hdg.2.1]; exact hdg.1)) ⟨km_LA_128, ki_MO_pin, ks_MO_pin, kn_MO, kd_MO_pin⟩ (by decide +kernel) (by decide) ⟨(by show cs + 0 ≤ 601024; omega), (by show sl + 0 ≤ 7293000; omega)⟩ (hK.sub [0, 1, 4] rfl) (h_kMO) hn0 hS (la_A hS (fun p hp => by have := hi0 p hp; omega)) rfl rfl rfl hl.1 rfl (Nat.le_of_ble_eq_true rfl) d_LA_law_1046 (fun v2 H1 locs1 hph hP1 hz1 hf1 hS1 => ?_)
      have hq0 := hP1
      have h_kSB := hf1.far h_kSB in_kSB (fun p hp => by have := hi0 p hp; omega)
      have h_kBL := hf1.far h_kBL in_kBL (fun p hp => by have := hi0 p hp; omega)
      have h_kNE := hf1.far h_kNE in_kNE (fun p hp => by have := hi0 p hp; omega)
      have h_kP := hf1.far h_kP in_kP (fun p hp => by have := hi0 p hp; omega)
      have h_kSE := hf1.far h_kSE in_kSE (fun p hp => by have := hi0 p hp; omega)
      have h_kQ := hf1.far h_kQ in_kQ (fun p hp => by have := hi0 p hp; omega)
      have h_kDR := hf1.far h_kDR in_kDR (fun p hp => by have := hi0 p hp; omega)
      have h_kPI := hf1.far h_kPI in_kPI (fun p hp => by have := hi0 p hp; omega)
      have h_kOU := hf1.far h_kOU in_kOU (fun p hp => by have := hi0 p hp; omega)
      have h_kMO := hq0
      have hT := th_kept0 hT hO hf1 (fun p hp => by have := hi0 p hp; omega)
      have hS := hS1
      clear hf1 hS1 hP1 hn0 hi0
      refine lv_istore (lv' := [(6, .int (pinV P (M.1 18) (M.1 19) (M.2.2.1 20) bx s0 k0)), (5, .int (nI 0)), (0, .ref b), (1, .ref s.heap.size), (2, .ref (s.heap.size + 69)), (3, .ref (s.heap.size + 97)), (4, .int (nI i))]) hx hb d_LA_law_1049 hl (by decide) rfl (fun ls hl => ?_)
      refine lv_aload_n hx hb d_LA_law_1051 rfl (lv_at hl 4 rfl) ?_
      refine zrM_V (ci := 10) (q0 := 0) (As := []) (rest := []) (n := 0) (wsC := kMO cA cZ c2 cT cL s.heap.size (mN 28 v2.2.1 (mN 29 v2.2.2.1 (mN 30 v2.2.2.2.1 (mN 31 v2.2.2.2.2 (mq (mS 0 0 M) v2.1))))) z) ⟨hx, hb, hml, hown, hts⟩ (c_MO_thrown l D (laM s.heap.size) cA cZ cL (mN 28 v2.2.1 (mN 29 v2.2.2.1 (mN 30 v2.2.2.2.1 (mN 31 v2.2.2.2.2 (mq (mS 0 0 M) v2.1))))) z) ⟨km_LA_80, ki_MO_thrown, ks_MO_thrown, kn_MO, kd_MO_thrown⟩ (by decide +kernel) (by decide) ⟨(by show cs + 0 ≤ 601024; omega), (by show sl + 0 ≤ 7293000; omega)⟩ (hK.sub [0, 1, 4] rfl) h_kMO rfl rfl rfl hl.1 rfl (Nat.le_of_ble_eq_true rfl) d_LA_law_1052 ?_
      refine lv_toi (z := nI 0) rfl ?_
      refine lv_iload hx hb d_LA_law_1055 (lv_at hl 1 rfl) ?_
      refine z_ceq (tgt := 1062) hx hb d_LA_law_1057 (by decide) (by omega) (by omega) (fun _ => ?_) (fun h => absurd h (by omega))
      refine lv_iload hx hb d_LA_law_1062 (lv_at hl 1 rfl) ?_
      refine z_0ne (tgt := 1079) hx hb d_LA_law_1064 (by decide) (by omega) (fun h => absurd h (by omega)) (fun _ => ?_)
      refine lv_aload_n hx hb d_LA_law_1067 rfl (lv_at hl 5 rfl) ?_
      refine lv_iconst (v := nI 0) hx hb d_LA_law_1068 (by decide) ?_
      refine va_lald hx hb hK h_kOU 0 4 rfl rfl (vp_in_nI (n := 0) (by decide) (by decide)) d_LA_law_1069 ?_
      refine lv_tol (z := (pinV P (N.1 0) (N.1 1) N.2 bx s0 k0).toInt64) rfl ?_
      refine lv_iload hx hb d_LA_law_1070 (lv_at hl 0 rfl) ?_
      refine lv_i2l (v := (pinV P (M.1 18) (M.1 19) (M.2.2.1 20) bx s0 k0).toInt64) hx hb d_LA_law_1072 rfl ?_
      refine y_leq (tgt := 1079) hx hb d_LA_law_1073 d_LA_law_1074 (by decide) (fun _ => ?_) (fun c9 => absurd (congrArg Int32.toInt64 (pin_eq hG hb16).symm) c9)
      refine lv_goto (tgt := 1221) hx hb d_LA_law_1079 (by decide) ?_
      exact kk _ _ _ _ ls (by omega) (by omega) hS ⟨tc, tf, B, P, Qp, N, ah, kw, z, v4.1, v4.2.1, v4.2.2.1, v4.2.2.2, ((gO (N.1 0) (N.1 1) bx N.2).2), (mN 28 v2.2.1 (mN 29 v2.2.2.1 (mN 30 v2.2.2.2.1 (mN 31 v2.2.2.2.2 (mq (mS 0 0 M) v2.1))))), (o1 fo ((pinV P (N.1 0) (N.1 1) N.2 bx s0 k0).toInt64)), bk, us, u, cap, wt, tB, ⟨h_kSB, h_kBL, h_kNE, h_kP, h_kSE, h_kQ, h_kDR, h_kPI, h_kMO, h_kOU⟩, hT, hO, RelG_ag hG ⟨⟨rfl, rfl, rfl, rfl, rfl, rfl, rfl, rfl, rfl, rfl, hph.1, hph.2.1⟩, ⟨rfl, rfl, rfl, hph.2.2⟩, rfl, rfl, rfl⟩, RelT_ag hR ⟨⟨rfl, rfl, rfl, rfl, rfl, rfl, rfl, rfl, rfl, rfl, hph.1, hph.2.1⟩, ⟨rfl, rfl, rfl, hph.2.2⟩, rfl, rfl, rfl⟩, hq⟩ (lv_sub hl [2, 3, 4, 5, 6] rfl)
