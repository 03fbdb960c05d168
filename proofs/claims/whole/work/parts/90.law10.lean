def kBO (cA cZ c2 cT cL : ClassId) (h0 : Nat) (B : BS) : va_W := [(h0 + 2, .inr (1, [.ref (h0 + 3), .ref (h0 + 6), .ref (h0 + 9), .ref (h0 + 10), .int (nI B.2.2.2)]))]
theorem ad_kBO {cA cZ c2 cT cL : ClassId} {h0 : Nat} {B : BS} : (kBO cA cZ c2 cT cL h0 B).map Prod.fst = ([2] : List Nat).map (h0 + ·) := rfl
theorem in_kBO {cA cZ c2 cT cL : ClassId} {h0 : Nat} {B : BS} : ∀ q ∈ kBO cA cZ c2 cT cL h0 B, h0 + 2 ≤ q.1 ∧ q.1 < h0 + 3 := in_lits ad_kBO (by decide)
theorem nd_kBO {cA cZ c2 cT cL : ClassId} {h0 : Nat} {B : BS} : va_D (fun _ => True) (kBO cA cZ c2 cT cL h0 B) := nd_lits ad_kBO (by decide)
def kBR (cA cZ c2 cT cL : ClassId) (h0 : Nat) (B : BS) : va_W := [(h0 + 3, .inl (c2, 2, .inr (.inr (.inr (.inr (pr2 (h0 + 4) (h0 + 5))))))), (h0 + 4, .inl (cA, 16, .inl (fun zk => nI ((B.1 0) zk)))), (h0 + 5, .inl (cA, 16, .inl (fun zk => nI ((B.1 1) zk)))), (h0 + 6, .inl (c2, 2, .inr (.inr (.inr (.inr (pr2 (h0 + 7) (h0 + 8))))))), (h0 + 7, .inl (cA, 16, .inl (fun zk => nI ((B.1 2) zk)))), (h0 + 8, .inl (cA, 16, .inl (fun zk => nI ((B.1 3) zk)))), (h0 + 9, .inl (cZ, 16, .inl (fun zk => zb (B.2.1 zk)))), (h0 + 10, .inl (cZ, 16, .inl (fun zk => zb (B.2.2.1 zk))))]
theorem ad_kBR {cA cZ c2 cT cL : ClassId} {h0 : Nat} {B : BS} : (kBR cA cZ c2 cT cL h0 B).map Prod.fst = ([3, 4, 5, 6, 7, 8, 9, 10] : List Nat).map (h0 + ·) := rfl
theorem in_kBR {cA cZ c2 cT cL : ClassId} {h0 : Nat} {B : BS} : ∀ q ∈ kBR cA cZ c2 cT cL h0 B, h0 + 3 ≤ q.1 ∧ q.1 < h0 + 11 := in_lits ad_kBR (by decide)
theorem nd_kBR {cA cZ c2 cT cL : ClassId} {h0 : Nat} {B : BS} : va_D (fun _ => True) (kBR cA cZ c2 cT cL h0 B) := nd_lits ad_kBR (by decide)
section TH2
variable {D : va_G} {cA : ClassId} {bk : Nat → Int32} {us : Nat → Bool} {u : Nat → FL} {cap tB : Nat → Nat} {tc h0 : Nat} {tf : Nat → Option Nat} {H H1 : Heap}
theorem th_lt (hT : thA D cA bk us u cap tB tc tf h0 H) : ∀ k, k < tc → tB k + 4 ≤ H.size := fun k hk => by
  have h : tB k + 3 < H.size := ((hT k hk).1.2 2 _ rfl).lt
  omega
theorem th_app (hT : thA D cA bk us u cap tB tc tf h0 H) {a cp : Nat} {v : Int32} {w : Bool} {x : FL} (ha : h0 + 98 ≤ a) (hP : va_P D classes (lTO cA a v w ++ lTL cA a cp x) H) : thA D cA (va_up bk tc v) (va_up us tc w) (va_up u tc x) (va_up cap tc cp) (va_up tB tc a) (tc + 1) (va_up tf tc (some a)) h0 H := fun k hk => by
  by_cases e : k = tc
  · subst e
    simp only [va_up, if_true]
    exact ⟨⟨va_P.left hP, va_P.right hP⟩, ha, trivial⟩
  · simp only [va_up, if_neg e]
    exact hT k (by omega)
theorem hO_app (hO : ∀ i j, i < j → j < tc → tB i + 4 ≤ tB j) {a : Nat} (hb : ∀ k, k < tc → tB k + 4 ≤ a) : ∀ i j, i < j → j < tc + 1 → va_up tB tc a i + 4 ≤ va_up tB tc a j := fun i j hij hj => by
  have hi : i ≠ tc := by omega
  by_cases e : j = tc
  · subst e
    simp only [va_up, if_neg hi, if_true]
    exact hb i (by omega)
  · simp only [va_up, if_neg hi, if_neg e]
    exact hO i j hij (by omega)
theorem tB_ap (hO : ∀ i j, i < j → j < tc → tB i + 4 ≤ tB j) {a b : Nat} (ha : a < tc) (hb : b < tc) (h : a ≠ b) : tB a + 4 ≤ tB b ∨ tB b + 4 ≤ tB a := by
  rcases Nat.lt_or_ge a b with q | q
  · exact Or.inl (hO a b q hb)
  · exact Or.inr (hO b a (by omega) ha)
abbrev thW (cA : ClassId) (bk : Nat → Int32) (u : Nat → FL) (cap tB : Nat → Nat) (a b : Nat) (x y : Bool) : va_W := ((lTO cA (tB a) (bk a) x ++ lTO cA (tB b) (bk b) y) ++ lTL cA (tB a) (cap a) (u a)) ++ lTL cA (tB b) (cap b) (u b)
theorem in_thW {a b : Nat} {x y : Bool} : ∀ p ∈ thW cA bk u cap tB a b x y, (tB a ≤ p.1 ∧ p.1 < tB a + 4) ∨ (tB b ≤ p.1 ∧ p.1 < tB b + 4) := fun p h => by
  rcases List.mem_append.mp h with h | h
  · rcases List.mem_append.mp h with h | h
    · rcases List.mem_append.mp h with h | h
      · have := in_lTO p h
        omega
      · have := in_lTO p h
        omega
    · have := in_lTL p h
      omega
  · have := in_lTL p h
    omega
theorem thS_two (hT : thA D cA bk us u cap tB tc tf h0 H) (hO : ∀ i j, i < j → j < tc → tB i + 4 ≤ tB j) {a b : Nat} {x y : Bool} (ha : a < tc) (hb : b < tc) (hne : a ≠ b) (ex : us a = x) (ey : us b = y) : thS D cA bk us u cap tB tc (thW cA bk u cap tB a b x y) H := by
  subst ex
  subst ey
  have hd := tB_ap hO ha hb hne
  refine ⟨(((hT a ha).1.1.app (hT b hb).1.1).app (hT a ha).1.2).app (hT b hb).1.2, nd_app (nd_app (nd_app nd_lTO nd_lTO (fun p hp q hq e => ?_)) nd_lTL (fun p hp q hq e => ?_)) nd_lTL (fun p hp q hq e => ?_), fun q hq => ?_⟩
  · have := in_lTO p hp
    have := in_lTO q hq
    omega
  · have := in_lTL q hq
    rcases List.mem_append.mp hp with h | h
    · have := in_lTO p h
      omega
    · have := in_lTO p h
      omega
  · have := in_lTL q hq
    rcases List.mem_append.mp hp with h | h
    · rcases List.mem_append.mp h with h | h
      · have := in_lTO p h
        omega
      · have := in_lTO p h
        omega
    · have := in_lTL p h
      omega
  · rcases List.mem_append.mp hq with h | h
    · rcases List.mem_append.mp h with h | h
      · rcases List.mem_append.mp h with h | h
        · exact ⟨a, ha, List.mem_append_left _ h⟩
        · exact ⟨b, hb, List.mem_append_left _ h⟩
      · exact ⟨a, ha, List.mem_append_right _ h⟩
    · exact ⟨b, hb, List.mem_append_right _ h⟩
theorem th_sl {wsC : va_W} {a b : Nat} {x y : Bool} (hT : thA D cA bk us u cap tB tc tf h0 H) (hO : ∀ i j, i < j → j < tc → tB i + 4 ≤ tB j) (hf : zfr wsC H H1) (ha : a < tc) (hb : b < tc) (hw : ∀ p ∈ wsC, p.1 < h0 + 98 ∨ p ∈ thW cA bk u cap tB a b x y) (h1 : va_P D classes (thW cA bk u cap tB a b true true) H1) : thA D cA bk (va_up (va_up us a true) b true) u cap tB tc tf h0 H1 := fun k hk => by
  by_cases e : k = b
  · subst e
    simp only [va_up, if_true]
    exact ⟨⟨va_P.right (va_P.left (va_P.left h1)), va_P.right h1⟩, (hT k hk).2⟩
  · by_cases e2 : k = a
    · subst e2
      simp only [va_up, if_neg e, if_true]
      exact ⟨⟨va_P.left (va_P.left (va_P.left h1)), va_P.right (va_P.left h1)⟩, (hT k hk).2⟩
    · simp only [va_up, if_neg e, if_neg e2]
      have hl := (hT k hk).2.1
      have far : ∀ p ∈ wsC, p.1 < tB k ∨ tB k + 4 ≤ p.1 := fun p hp => by
        rcases hw p hp with h | h
        · omega
        · have hr := in_thW p h
          have q1 := tB_ap hO hk ha e2
          have q2 := tB_ap hO hk hb e
          omega
      exact ⟨⟨hf.far (hT k hk).1.1 in_lTO (fun p hp => by have := far p hp; omega), hf.far (hT k hk).1.2 in_lTL (fun p hp => by have := far p hp; omega)⟩, (hT k hk).2⟩
end TH2
theorem RelG_sl {n ta tb : Nat} {ac : Bool} {B : BS} {N : NS} {P : PS} {M : MS} {v : V7} (h : RelG n B N P M) : RelG n B N P (slM v ta tb ac M) := by
  obtain ⟨a, b1, ⟨c1, c2, c3⟩, o1, r1, dg⟩ := h
  exact ⟨a, b1, ⟨c1, c2, c3⟩, o1, r1, dg⟩
theorem two_le {n tc ta tb : Nat} {bk : Nat → Int32} {us : Nat → Bool} {u : Nat → FL} {cap wt : Nat → Nat} {M : MS} (h : RelT n tc bk us u cap wt M) (h16 : n ≤ 16) (hta : ta < tc) (htb : tb < tc) (hab : ta ≠ tb) (hua : us ta = false) (hub : us tb = false) : wt ta + wt tb ≤ 16 := by
  have hw := h.2.2.2.2.2.1
  rcases Nat.lt_or_ge ta tb with q | q
  · have := sumW_two (wt := wt) q tc htb hua hub
    omega
  · have := sumW_two (wt := wt) (show tb < ta by omega) tc hta hub hua
    omega
theorem lN_of1 {x : Int64} {k : Nat} (hk : k < 2 ^ 62) (h1 : ¬ x < lN 1) (h2 : ¬ lN k < x) : ∃ j, 1 ≤ j ∧ j ≤ k ∧ x = lN j := by
  have h0 : ¬ x < lN 0 := fun q => h1 (by rw [Int64.lt_iff_toInt_lt] at q ⊢; rw [lN_toInt (by decide)] at q ⊢; omega)
  obtain ⟨j, hj, e⟩ := lN_of hk h0 h2
  subst e
  refine ⟨j, ?_, hj, rfl⟩
  rcases Nat.eq_zero_or_pos j with q | q
  · subst q
    exact absurd (by decide) h1
  · exact q
theorem thg_of {tc : Nat} {t : Int32} (ht : tc ≤ 40) (h : ¬ (t < 0 ∨ nI tc ≤ t)) : ∃ k, k < tc ∧ t = nI k := by
  have h1 : ¬ t < 0 := fun q => h (Or.inl q)
  have h2 : ¬ nI tc ≤ t := fun q => h (Or.inr q)
  rw [Int32.lt_iff_toInt_lt] at h1
  rw [Int32.le_iff_toInt_le, nI_toInt (by omega)] at h2
  have e0 : (0 : Int32).toInt = 0 := by decide
  refine ⟨t.toInt.toNat, by omega, ?_⟩
  apply Int32.toInt_inj.mp
  rw [nI_toInt (by omega)]
  omega
theorem bf9 {b : Bool} (h : ¬ b = true) : b = false := by
  cases b
  · rfl
  · exact absurd rfl h
theorem th2_of {D : va_G} {cA : ClassId} {bk : Nat → Int32} {us : Nat → Bool} {u : Nat → FL} {cap tB : Nat → Nat} {tc h0 : Nat} {tf : Nat → Option Nat} {H : Heap} (hT : thA D cA bk us u cap tB tc tf h0 H) (h40 : tc ≤ 40) (t : Int32) : (t < 0 ∨ nI tc ≤ t) ∨ ∃ tt aT : Nat, t = nI tt ∧ tt < tc ∧ tf tt = some aT := by
  by_cases h : t < 0 ∨ nI tc ≤ t
  · exact Or.inl h
  · obtain ⟨k, hk, e⟩ := thg_of h40 h
    exact Or.inr ⟨k, tB k, e, hk, (hT k hk).2.2⟩
set_option maxHeartbeats 4000000 in
set_option maxRecDepth 100000 in
/-- block -/
theorem lc_block {p : Program} {l : Launch} {e : Env} {s : State} {m : MethodId} {below : List Frame} {meth : Method} {c : Code} {b L : Nat} {xs : Nat → Int32} {D : va_G} {cA cZ c2 cT cL : ClassId} {Q : State → Prop} (C : lawC p l s m c b L xs D cA cZ c2 cT cL) {i cs sl : Nat} {H : Heap} {locs : List Loc} {ls : Array Slot} (hi : i + 6 ≤ L) (hcs : cs + 10 ≤ 601024) (hsl : sl + 200 ≤ 7293000) (hS : va_S (lA s) s.heap H locs) (hI : lawI D cA cZ c2 cT cL s.heap.size H) (hl : lv_has ls 8 [(0, .ref b), (1, .ref s.heap.size), (2, .ref (s.heap.size + 69)), (3, .ref (s.heap.size + 97)), (4, .int (nI i))]) (kk : ∀ (H1 : Heap) (locs1 : List Loc) (cs1 sl1 : Nat) (ls1 : Array Slot), cs1 ≤ cs + 10 → sl1 ≤ sl + 200 → va_S (lA s) s.heap H1 locs1 → lawI D cA cZ c2 cT cL s.heap.size H1 → lv_has ls1 8 [(0, .ref b), (1, .ref s.heap.size), (2, .ref (s.heap.size + 69)), (3, .ref (s.heap.size + 97)), (4, .int (nI i))] → W p l e room_1 s m #[Value.ref b] below meth c H1 locs1 cs1 sl1 Q (F0 m 1221 ls1 [])) : W p l e room_1 s m #[Value.ref b] below meth c H locs cs sl Q (F0 m 124 ls []) := by
  obtain ⟨hx, hb, hml, hown, hts, hX, hbl, hL, hK, htl, hF1, hF2⟩ := C
  have hbA : ¬ lA s b := fun h => by have h : s.heap.size ≤ b := h; omega
  obtain ⟨tc, tf, B, P, Qp, N, ah, kw, z, nn, sd, cf, lf, cn, M, fo, bk, us, u, cap, wt, tB, ⟨h_kSB, h_kBL, h_kNE, h_kP, h_kSE, h_kQ, h_kDR, h_kPI, h_kMO, h_kOU⟩, hT, hO, hG, hR, hq⟩ := hI
  have h40 : tc ≤ 40 := hR.2.1
  have h17 : M.2.2.1 17 = B.2.2.2 := hG.2.2.1.1.2.1
  have h16 : B.2.2.2 ≤ 16 := hG.1.1.1
  have hT : thA D cA bk us u cap tB tc tf s.heap.size H := hT
  by_cases hw : B.2.2.2 = 16 ∨ tc = 40
  · have h9 : M.2.2.1 9 = tc := hR.1
    refine lv_aload_n hx hb d_LA_law_124 rfl (lv_at hl 1 rfl) ?_
    refine lv_aload_n hx hb d_LA_law_125 rfl (lv_at hl 0 rfl) ?_
    refine lv_iload hx hb d_LA_law_126 (lv_at hl 4 rfl) ?_
    refine lv_iconst (v := nI 1) hx hb d_LA_law_128 (by decide) ?_
    refine z_add hx hb d_LA_law_129 ?_
    refine va_sld hx hb hX hbl hbA hS (vp_in_nI (n := (i + 1)) (by omega) (by omega)) d_LA_law_130 ?_
    refine lv_toi (z := xs (i + 1)) (congrArg xs (nI_clamp (by omega))) ?_
    refine lv_i2l (v := (xs (i + 1)).toInt64) hx hb d_LA_law_131 rfl ?_
    refine lv_bipush (v := nI 32) hx hb d_LA_law_132 (by decide) ?_
    refine lv_lshl (v := _ <<< ((nI 32).toInt64 &&& 63)) hx hb d_LA_law_134 rfl ?_
    refine lv_aload_n hx hb d_LA_law_135 rfl (lv_at hl 0 rfl) ?_
    refine lv_iload hx hb d_LA_law_136 (lv_at hl 4 rfl) ?_
    refine lv_iconst (v := nI 2) hx hb d_LA_law_138 (by decide) ?_
    refine z_add hx hb d_LA_law_139 ?_
    refine va_sld hx hb hX hbl hbA hS (vp_in_nI (n := (i + 2)) (by omega) (by omega)) d_LA_law_140 ?_
    refine lv_toi (z := xs (i + 2)) (congrArg xs (nI_clamp (by omega))) ?_
    refine lv_i2l (v := (xs (i + 2)).toInt64) hx hb d_LA_law_141 rfl ?_
    refine lv_ldc2 hx hb hown (hts _ kL_LA_74) d_LA_law_142 ?_
    refine lv_land hx hb d_LA_law_145 ?_
    refine lv_lor hx hb d_LA_law_146 ?_
    refine lv_tol (z := lg (xs (i + 1)) (xs (i + 2))) rfl ?_
    refine lv_aload_n hx hb d_LA_law_147 rfl (lv_at hl 0 rfl) ?_
    refine lv_iload hx hb d_LA_law_148 (lv_at hl 4 rfl) ?_
    refine lv_iconst (v := nI 3) hx hb d_LA_law_150 (by decide) ?_
    refine z_add hx hb d_LA_law_151 ?_
    refine va_sld hx hb hX hbl hbA hS (vp_in_nI (n := (i + 3)) (by omega) (by omega)) d_LA_law_152 ?_
    refine lv_toi (z := xs (i + 3)) (congrArg xs (nI_clamp (by omega))) ?_
    refine lv_i2l (v := (xs (i + 3)).toInt64) hx hb d_LA_law_153 rfl ?_
    refine lv_bipush (v := nI 32) hx hb d_LA_law_154 (by decide) ?_
    refine lv_lshl (v := _ <<< ((nI 32).toInt64 &&& 63)) hx hb d_LA_law_156 rfl ?_
    refine lv_aload_n hx hb d_LA_law_157 rfl (lv_at hl 0 rfl) ?_
    refine lv_iload hx hb d_LA_law_158 (lv_at hl 4 rfl) ?_
    refine lv_iconst (v := nI 4) hx hb d_LA_law_160 (by decide) ?_
    refine z_add hx hb d_LA_law_161 ?_
    refine va_sld hx hb hX hbl hbA hS (vp_in_nI (n := (i + 4)) (by omega) (by omega)) d_LA_law_162 ?_
    refine lv_toi (z := xs (i + 4)) (congrArg xs (nI_clamp (by omega))) ?_
    refine lv_i2l (v := (xs (i + 4)).toInt64) hx hb d_LA_law_163 rfl ?_
    refine lv_ldc2 hx hb hown (hts _ kL_LA_74) d_LA_law_164 ?_
    refine lv_land hx hb d_LA_law_167 ?_
    refine lv_lor hx hb d_LA_law_168 ?_
    refine lv_tol (z := lg (xs (i + 3)) (xs (i + 4))) rfl ?_
    refine lv_aload_n hx hb d_LA_law_169 rfl (lv_at hl 0 rfl) ?_
    refine lv_iload hx hb d_LA_law_170 (lv_at hl 4 rfl) ?_
    refine lv_iconst (v := nI 5) hx hb d_LA_law_172 (by decide) ?_
    refine z_add hx hb d_LA_law_173 ?_
    refine va_sld hx hb hX hbl hbA hS (vp_in_nI (n := (i + 5)) (by omega) (by omega)) d_LA_law_174 ?_
    refine lv_toi (z := xs (i + 5)) (congrArg xs (nI_clamp (by omega))) ?_
    refine zb_arg hx hb d_LA_law_175 (by decide) d_LA_law_178 d_LA_law_179 (by decide) d_LA_law_182 ?_
    refine lv_aload_n hx hb d_LA_law_183 rfl (lv_at hl 3 rfl) ?_
    have hi0 : ∀ p ∈ kBO cA cZ c2 cT cL s.heap.size B, (s.heap.size + 2 ≤ p.1 ∧ p.1 < s.heap.size + 3) := in_kBO
    have hn0 : va_D (fun _ => True) (kBO cA cZ c2 cT cL s.heap.size B) := nd_kBO
    have hn1 : va_D (fun _ => True) ((kBO cA cZ c2 cT cL s.heap.size B) ++ (kSB cA cZ c2 cT cL s.heap.size tc tf)) := nd_app hn0 nd_kSB (fun p hp q hq e9 => by have := hi0 p hp; have := in_kSB q hq; omega)
    have hi1 : ∀ p ∈ (kBO cA cZ c2 cT cL s.heap.size B) ++ (kSB cA cZ c2 cT cL s.heap.size tc tf), (s.heap.size + 2 ≤ p.1 ∧ p.1 < s.heap.size + 3) ∨ (s.heap.size + 0 ≤ p.1 ∧ p.1 < s.heap.size + 2) := fun p hp => (List.mem_append.mp hp).elim (fun h => by have := hi0 p h; omega) (fun h => by have := in_kSB p h; omega)
    have h_kBO : va_P D classes (kBO cA cZ c2 cT cL s.heap.size B) H := va_P.left (w2 := kBR cA cZ c2 cT cL s.heap.size B) h_kBL
    have h_kBR : va_P D classes (kBR cA cZ c2 cT cL s.heap.size B) H := va_P.right (w1 := kBO cA cZ c2 cT cL s.heap.size B) h_kBL
    refine zg_H (V := Unit) (F := zT2) (mc := 1) (ms := 6) (As := [.ref s.heap.size, .long (lg (xs (i + 1)) (xs (i + 2))), .long (lg (xs (i + 3)) (xs (i + 4))), .int (zb (bA (xs (i + 5)))), .ref (s.heap.size + 97)]) (rest := []) (n := 5) (wsC := (kBO cA cZ c2 cT cL s.heap.size B) ++ (kSB cA cZ c2 cT cL s.heap.size tc tf)) (φ := fun _ => True) (wv := fun _ => (kBO cA cZ c2 cT cL s.heap.size B) ++ (kSB cA cZ c2 cT cL s.heap.size tc tf)) (rv := .int (nI 1)) zT2_ok ⟨hx, hb, hml, hown, hts⟩ (met_u (h_block_x1 l D htl _ (fun k => s.heap.size + k) (fun k => s.heap.size + 2 + k) (fun k => s.heap.size + 11 + k) (fun k => s.heap.size + 15 + k) (fun k => s.heap.size + 30 + 16 * k) (laI s.heap.size) cA cZ c2 cT tc tf (s.heap.size + 97) B (lg (xs (i + 1)) (xs (i + 2))) (lg (xs (i + 3)) (xs (i + 4))) (bA (xs (i + 5))) h40 h16 hw)) ⟨km_LA_76, kst_LA_block, kn_LA, kw_LA_block⟩ (by decide +kernel) (by decide) ⟨(by show cs + 1 ≤ 601024; omega), (by show sl + 6 ≤ 7293000; omega)⟩ (hK.sub [0, 1, 2, 3] rfl) ((h_kBO).app h_kSB) hn1 hS (la_A hS (fun p hp => by have := hi1 p hp; omega)) hF2 rfl hl.1 rfl (Nat.le_of_ble_eq_true rfl) d_LA_law_184 (fun _ H1 locs1 hph hP1 hz1 hf1 hS1 => ?_)
    have hq1 := va_P.right hP1
    have hr1 := va_P.left hP1
    have hq0 := hr1
    have h_kBR : va_P D classes (kBR cA cZ c2 cT cL s.heap.size B) H1 := hf1.far h_kBR in_kBR (fun p hp => by have := hi1 p hp; omega)
    have h_kBL : va_P D classes (kBL cA cZ c2 cT cL s.heap.size B) H1 := va_P.app (w1 := kBO cA cZ c2 cT cL s.heap.size B) (w2 := kBR cA cZ c2 cT cL s.heap.size B) hq0 h_kBR
    have h_kNE := hf1.far h_kNE in_kNE (fun p hp => by have := hi1 p hp; omega)
    have h_kP := hf1.far h_kP in_kP (fun p hp => by have := hi1 p hp; omega)
    have h_kSE := hf1.far h_kSE in_kSE (fun p hp => by have := hi1 p hp; omega)
    have h_kQ := hf1.far h_kQ in_kQ (fun p hp => by have := hi1 p hp; omega)
    have h_kDR := hf1.far h_kDR in_kDR (fun p hp => by have := hi1 p hp; omega)
    have h_kPI := hf1.far h_kPI in_kPI (fun p hp => by have := hi1 p hp; omega)
    have h_kMO := hf1.far h_kMO in_kMO (fun p hp => by have := hi1 p hp; omega)
    have h_kOU := hf1.far h_kOU in_kOU (fun p hp => by have := hi1 p hp; omega)
    have h_kBO := hq0
    have h_kSB := hq1
    have hT := th_kept0 hT hO hf1 (fun p hp => by have := hi1 p hp; omega)
    have hS := hS1
    clear hf1 hS1 hP1 hn0 hi0 hn1 hi1
    refine lv_istore (lv' := [(5, .int (nI 1)), (0, .ref b), (1, .ref s.heap.size), (2, .ref (s.heap.size + 69)), (3, .ref (s.heap.size + 97)), (4, .int (nI i))]) hx hb d_LA_law_187 hl (by decide) rfl (fun ls hl => ?_)
    refine lv_aload_n hx hb d_LA_law_189 rfl (lv_at hl 3 rfl) ?_
    refine lv_aload_n hx hb d_LA_law_190 rfl (lv_at hl 1 rfl) ?_
    refine lv_iload hx hb d_LA_law_191 (lv_at hl 5 rfl) ?_
    refine lv_iconst (v := nI 1) hx hb d_LA_law_193 (by decide) ?_
    refine z_add hx hb d_LA_law_194 ?_
    refine va_sld hx hb hX hbl hbA hS (vp_in_nI (n := (i + 1)) (by omega) (by omega)) d_LA_law_195 ?_
    refine lv_toi (z := xs (i + 1)) (congrArg xs (nI_clamp (by omega))) ?_
    refine lv_i2l (v := (xs (i + 1)).toInt64) hx hb d_LA_law_196 rfl ?_
    refine lv_bipush (v := nI 32) hx hb d_LA_law_197 (by decide) ?_
    refine lv_lshl (v := _ <<< ((nI 32).toInt64 &&& 63)) hx hb d_LA_law_199 rfl ?_
    refine lv_aload_n hx hb d_LA_law_200 rfl (lv_at hl 1 rfl) ?_
    refine lv_iload hx hb d_LA_law_201 (lv_at hl 5 rfl) ?_
    refine lv_iconst (v := nI 2) hx hb d_LA_law_203 (by decide) ?_
    refine z_add hx hb d_LA_law_204 ?_
    refine va_sld hx hb hX hbl hbA hS (vp_in_nI (n := (i + 2)) (by omega) (by omega)) d_LA_law_205 ?_
    refine lv_toi (z := xs (i + 2)) (congrArg xs (nI_clamp (by omega))) ?_
    refine lv_i2l (v := (xs (i + 2)).toInt64) hx hb d_LA_law_206 rfl ?_
    refine lv_ldc2 hx hb hown (hts _ kL_LA_74) d_LA_law_207 ?_
    refine lv_land hx hb d_LA_law_210 ?_
    refine lv_lor hx hb d_LA_law_211 ?_
    refine lv_tol (z := lg (xs (i + 1)) (xs (i + 2))) rfl ?_
    refine lv_aload_n hx hb d_LA_law_212 rfl (lv_at hl 1 rfl) ?_
    refine lv_iload hx hb d_LA_law_213 (lv_at hl 5 rfl) ?_
    refine lv_iconst (v := nI 3) hx hb d_LA_law_215 (by decide) ?_
    refine z_add hx hb d_LA_law_216 ?_
    refine va_sld hx hb hX hbl hbA hS (vp_in_nI (n := (i + 3)) (by omega) (by omega)) d_LA_law_217 ?_
    refine lv_toi (z := xs (i + 3)) (congrArg xs (nI_clamp (by omega))) ?_
    refine lv_i2l (v := (xs (i + 3)).toInt64) hx hb d_LA_law_218 rfl ?_
    refine lv_bipush (v := nI 32) hx hb d_LA_law_219 (by decide) ?_
    refine lv_lshl (v := _ <<< ((nI 32).toInt64 &&& 63)) hx hb d_LA_law_221 rfl ?_
    refine lv_aload_n hx hb d_LA_law_222 rfl (lv_at hl 1 rfl) ?_
    refine lv_iload hx hb d_LA_law_223 (lv_at hl 5 rfl) ?_
    refine lv_iconst (v := nI 4) hx hb d_LA_law_225 (by decide) ?_
    refine z_add hx hb d_LA_law_226 ?_
    refine va_sld hx hb hX hbl hbA hS (vp_in_nI (n := (i + 4)) (by omega) (by omega)) d_LA_law_227 ?_
    refine lv_toi (z := xs (i + 4)) (congrArg xs (nI_clamp (by omega))) ?_
    refine lv_i2l (v := (xs (i + 4)).toInt64) hx hb d_LA_law_228 rfl ?_
    refine lv_ldc2 hx hb hown (hts _ kL_LA_74) d_LA_law_229 ?_
    refine lv_land hx hb d_LA_law_232 ?_
    refine lv_lor hx hb d_LA_law_233 ?_
    refine lv_tol (z := lg (xs (i + 3)) (xs (i + 4))) rfl ?_
    refine lv_aload_n hx hb d_LA_law_234 rfl (lv_at hl 1 rfl) ?_
    refine lv_iload hx hb d_LA_law_235 (lv_at hl 5 rfl) ?_
    refine lv_iconst (v := nI 5) hx hb d_LA_law_237 (by decide) ?_
    refine z_add hx hb d_LA_law_238 ?_
    refine va_sld hx hb hX hbl hbA hS (vp_in_nI (n := (i + 5)) (by omega) (by omega)) d_LA_law_239 ?_
    refine lv_toi (z := xs (i + 5)) (congrArg xs (nI_clamp (by omega))) ?_
    refine zb_arg hx hb d_LA_law_240 (by decide) d_LA_law_243 d_LA_law_244 (by decide) d_LA_law_247 ?_
    have hi0 : ∀ p ∈ kMO cA cZ c2 cT cL s.heap.size M z, (s.heap.size + 69 ≤ p.1 ∧ p.1 < s.heap.size + 97) := in_kMO
    have hn0 : va_D (fun _ => True) (kMO cA cZ c2 cT cL s.heap.size M z) := nd_kMO
    refine zg_V (V := Unit) (ci := 10) (q0 := 0) (As := [.long (lg (xs (i + 1)) (xs (i + 2))), .long (lg (xs (i + 3)) (xs (i + 4))), .int (zb (bA (xs (i + 5))))]) (rest := []) (n := 3) (wsC := kMO cA cZ c2 cT cL s.heap.size M z) (φ := fun _ => True) (wv := fun _ => kMO cA cZ c2 cT cL s.heap.size (mS 0 1 M) z) (rv := .int (nI 0)) ⟨hx, hb, hml, hown, hts⟩ (met_u (c_MO_block_no1 l D _ (laM s.heap.size) cA cZ cL M z (lg (xs (i + 1)) (xs (i + 2))) (lg (xs (i + 3)) (xs (i + 4))) (bA (xs (i + 5))) (by omega) (by omega) (by omega))) ⟨km_LA_79, ki_MO_block, ks_MO_block, kn_MO, kd_MO_block⟩ (by decide +kernel) (by decide) ⟨(by show cs + 1 + 0 ≤ 601024; omega), (by show sl + 6 + 0 ≤ 7293000; omega)⟩ (hK.sub [0, 1, 4] rfl) (h_kMO) hn0 hS (la_A hS (fun p hp => by have := hi0 p hp; omega)) rfl rfl rfl hl.1 rfl (Nat.le_of_ble_eq_true rfl) d_LA_law_248 (fun _ H1 locs1 hph hP1 hz1 hf1 hS1 => ?_)
    have hq0 := hP1
    have h_kSB := hf1.far h_kSB in_kSB (fun p hp => by have := hi0 p hp; omega)
    have h_kBL := hf1.far h_kBL in_kBL (fun p hp => by have := hi0 p hp; omega)
    have h_kNE := hf1.far h_kNE in_kNE (fun p hp => by have := hi0 p hp; omega)
    have h_kP := hf1.far h_kP in_kP (fun p hp => by have := hi0 p hp; omega)
    have h_kSE := hf1.far h_kSE in_kSE (fun p hp => by have := hi0 p hp; omega)
    have h_kQ := hf1.far h_kQ in_kQ (fun p hp => by have := hi0 p hp; omega)
    have h_kDR := hf1.far h_kDR in_kDR (fun p hp => by have := hi0 p hp; omega)
    have h_kPI := hf1.far h_kPI in_kPI (fun p hp => by have := hi0 p hp; omega)
    have h_kOU := hf1.far h_kOU in_kOU (fun p hp => by have := hi0 p hp; omega)
    have h_kMO := hq0
    have hT := th_kept0 hT hO hf1 (fun p hp => by have := hi0 p hp; omega)
    have hS := hS1
    clear hf1 hS1 hP1 hn0 hi0
    refine lv_istore (lv' := [(6, .int (nI 0)), (5, .int (nI 1)), (0, .ref b), (1, .ref s.heap.size), (2, .ref (s.heap.size + 69)), (3, .ref (s.heap.size + 97)), (4, .int (nI i))]) hx hb d_LA_law_251 hl (by decide) rfl (fun ls hl => ?_)
    refine lv_aload_n hx hb d_LA_law_253 rfl (lv_at hl 4 rfl) ?_
    refine zrM_V (ci := 10) (q0 := 0) (As := []) (rest := []) (n := 0) (wsC := kMO cA cZ c2 cT cL s.heap.size (mS 0 1 M) z) ⟨hx, hb, hml, hown, hts⟩ (c_MO_thrown l D (laM s.heap.size) cA cZ cL (mS 0 1 M) z) ⟨km_LA_80, ki_MO_thrown, ks_MO_thrown, kn_MO, kd_MO_thrown⟩ (by decide +kernel) (by decide) ⟨(by show cs + 1 + 0 ≤ 601024; omega), (by show sl + 6 + 0 ≤ 7293000; omega)⟩ (hK.sub [0, 1, 4] rfl) h_kMO rfl rfl rfl hl.1 rfl (Nat.le_of_ble_eq_true rfl) d_LA_law_254 ?_
    refine lv_toi (z := nI 1) rfl ?_
    refine lv_iload hx hb d_LA_law_257 (lv_at hl 1 rfl) ?_
    refine z_ceq (tgt := 264) hx hb d_LA_law_259 (by decide) (by omega) (by omega) (fun _ => ?_) (fun h => absurd h (by omega))
    refine lv_iload hx hb d_LA_law_264 (lv_at hl 1 rfl) ?_
    refine z_0ne (tgt := 281) hx hb d_LA_law_266 (by decide) (by omega) (fun _ => ?_) (fun h => absurd h (by omega))
    refine lv_goto (tgt := 1221) hx hb d_LA_law_281 (by decide) ?_
    exact kk _ _ _ _ ls (by omega) (by omega) hS ⟨tc, tf, B, P, Qp, N, ah, kw, z, nn, sd, cf, lf, cn, (mS 0 1 M), fo, bk, us, u, cap, wt, tB, ⟨h_kSB, h_kBL, h_kNE, h_kP, h_kSE, h_kQ, h_kDR, h_kPI, h_kMO, h_kOU⟩, hT, hO, RelG_ag hG ⟨⟨rfl, rfl, rfl, rfl, rfl, rfl, rfl, rfl, rfl, rfl, rfl, rfl⟩, ⟨rfl, rfl, rfl, rfl⟩, rfl, rfl, rfl⟩, RelT_ag hR ⟨⟨rfl, rfl, rfl, rfl, rfl, rfl, rfl, rfl, rfl, rfl, rfl, rfl⟩, ⟨rfl, rfl, rfl, rfl⟩, rfl, rfl, rfl⟩, hq⟩ (lv_sub hl [2, 3, 4, 5, 6] rfl)
  · by_cases hv : lg (xs (i + 1)) (xs (i + 2)) < lN 1 ∨ lN 1000 < lg (xs (i + 1)) (xs (i + 2)) ∨ lg (xs (i + 3)) (xs (i + 4)) < lN 1 ∨ lN 1000 < lg (xs (i + 3)) (xs (i + 4))
    · have h9 : M.2.2.1 9 = tc := hR.1
      refine lv_aload_n hx hb d_LA_law_124 rfl (lv_at hl 1 rfl) ?_
      refine lv_aload_n hx hb d_LA_law_125 rfl (lv_at hl 0 rfl) ?_
      refine lv_iload hx hb d_LA_law_126 (lv_at hl 4 rfl) ?_
      refine lv_iconst (v := nI 1) hx hb d_LA_law_128 (by decide) ?_
      refine z_add hx hb d_LA_law_129 ?_
      refine va_sld hx hb hX hbl hbA hS (vp_in_nI (n := (i + 1)) (by omega) (by omega)) d_LA_law_130 ?_
      refine lv_toi (z := xs (i + 1)) (congrArg xs (nI_clamp (by omega))) ?_
      refine lv_i2l (v := (xs (i + 1)).toInt64) hx hb d_LA_law_131 rfl ?_
      refine lv_bipush (v := nI 32) hx hb d_LA_law_132 (by decide) ?_
      refine lv_lshl (v := _ <<< ((nI 32).toInt64 &&& 63)) hx hb d_LA_law_134 rfl ?_
      refine lv_aload_n hx hb d_LA_law_135 rfl (lv_at hl 0 rfl) ?_
      refine lv_iload hx hb d_LA_law_136 (lv_at hl 4 rfl) ?_
      refine lv_iconst (v := nI 2) hx hb d_LA_law_138 (by decide) ?_
      refine z_add hx hb d_LA_law_139 ?_
      refine va_sld hx hb hX hbl hbA hS (vp_in_nI (n := (i + 2)) (by omega) (by omega)) d_LA_law_140 ?_
      refine lv_toi (z := xs (i + 2)) (congrArg xs (nI_clamp (by omega))) ?_
      refine lv_i2l (v := (xs (i + 2)).toInt64) hx hb d_LA_law_141 rfl ?_
      refine lv_ldc2 hx hb hown (hts _ kL_LA_74) d_LA_law_142 ?_
      refine lv_land hx hb d_LA_law_145 ?_
      refine lv_lor hx hb d_LA_law_146 ?_
      refine lv_tol (z := lg (xs (i + 1)) (xs (i + 2))) rfl ?_
      refine lv_aload_n hx hb d_LA_law_147 rfl (lv_at hl 0 rfl) ?_
      refine lv_iload hx hb d_LA_law_148 (lv_at hl 4 rfl) ?_
      refine lv_iconst (v := nI 3) hx hb d_LA_law_150 (by decide) ?_
      refine z_add hx hb d_LA_law_151 ?_
      refine va_sld hx hb hX hbl hbA hS (vp_in_nI (n := (i + 3)) (by omega) (by omega)) d_LA_law_152 ?_
      refine lv_toi (z := xs (i + 3)) (congrArg xs (nI_clamp (by omega))) ?_
      refine lv_i2l (v := (xs (i + 3)).toInt64) hx hb d_LA_law_153 rfl ?_
      refine lv_bipush (v := nI 32) hx hb d_LA_law_154 (by decide) ?_
      refine lv_lshl (v := _ <<< ((nI 32).toInt64 &&& 63)) hx hb d_LA_law_156 rfl ?_
      refine lv_aload_n hx hb d_LA_law_157 rfl (lv_at hl 0 rfl) ?_
      refine lv_iload hx hb d_LA_law_158 (lv_at hl 4 rfl) ?_
      refine lv_iconst (v := nI 4) hx hb d_LA_law_160 (by decide) ?_
      refine z_add hx hb d_LA_law_161 ?_
      refine va_sld hx hb hX hbl hbA hS (vp_in_nI (n := (i + 4)) (by omega) (by omega)) d_LA_law_162 ?_
      refine lv_toi (z := xs (i + 4)) (congrArg xs (nI_clamp (by omega))) ?_
      refine lv_i2l (v := (xs (i + 4)).toInt64) hx hb d_LA_law_163 rfl ?_
      refine lv_ldc2 hx hb hown (hts _ kL_LA_74) d_LA_law_164 ?_
      refine lv_land hx hb d_LA_law_167 ?_
      refine lv_lor hx hb d_LA_law_168 ?_
      refine lv_tol (z := lg (xs (i + 3)) (xs (i + 4))) rfl ?_
      refine lv_aload_n hx hb d_LA_law_169 rfl (lv_at hl 0 rfl) ?_
      refine lv_iload hx hb d_LA_law_170 (lv_at hl 4 rfl) ?_
      refine lv_iconst (v := nI 5) hx hb d_LA_law_172 (by decide) ?_
      refine z_add hx hb d_LA_law_173 ?_
      refine va_sld hx hb hX hbl hbA hS (vp_in_nI (n := (i + 5)) (by omega) (by omega)) d_LA_law_174 ?_
      refine lv_toi (z := xs (i + 5)) (congrArg xs (nI_clamp (by omega))) ?_
      refine zb_arg hx hb d_LA_law_175 (by decide) d_LA_law_178 d_LA_law_179 (by decide) d_LA_law_182 ?_
      refine lv_aload_n hx hb d_LA_law_183 rfl (lv_at hl 3 rfl) ?_
      have hi0 : ∀ p ∈ kBO cA cZ c2 cT cL s.heap.size B, (s.heap.size + 2 ≤ p.1 ∧ p.1 < s.heap.size + 3) := in_kBO
      have hn0 : va_D (fun _ => True) (kBO cA cZ c2 cT cL s.heap.size B) := nd_kBO
      have hn1 : va_D (fun _ => True) ((kBO cA cZ c2 cT cL s.heap.size B) ++ (kSB cA cZ c2 cT cL s.heap.size tc tf)) := nd_app hn0 nd_kSB (fun p hp q hq e9 => by have := hi0 p hp; have := in_kSB q hq; omega)
      have hi1 : ∀ p ∈ (kBO cA cZ c2 cT cL s.heap.size B) ++ (kSB cA cZ c2 cT cL s.heap.size tc tf), (s.heap.size + 2 ≤ p.1 ∧ p.1 < s.heap.size + 3) ∨ (s.heap.size + 0 ≤ p.1 ∧ p.1 < s.heap.size + 2) := fun p hp => (List.mem_append.mp hp).elim (fun h => by have := hi0 p h; omega) (fun h => by have := in_kSB p h; omega)
      have h_kBO : va_P D classes (kBO cA cZ c2 cT cL s.heap.size B) H := va_P.left (w2 := kBR cA cZ c2 cT cL s.heap.size B) h_kBL
      have h_kBR : va_P D classes (kBR cA cZ c2 cT cL s.heap.size B) H := va_P.right (w1 := kBO cA cZ c2 cT cL s.heap.size B) h_kBL
      refine zg_H (V := Unit) (F := zT2) (mc := 1) (ms := 6) (As := [.ref s.heap.size, .long (lg (xs (i + 1)) (xs (i + 2))), .long (lg (xs (i + 3)) (xs (i + 4))), .int (zb (bA (xs (i + 5)))), .ref (s.heap.size + 97)]) (rest := []) (n := 5) (wsC := (kBO cA cZ c2 cT cL s.heap.size B) ++ (kSB cA cZ c2 cT cL s.heap.size tc tf)) (φ := fun _ => True) (wv := fun _ => (kBO cA cZ c2 cT cL s.heap.size B) ++ (kSB cA cZ c2 cT cL s.heap.size tc tf)) (rv := .int (nI 2)) zT2_ok ⟨hx, hb, hml, hown, hts⟩ (met_u (h_block_x2 l D htl _ (fun k => s.heap.size + k) (fun k => s.heap.size + 2 + k) (fun k => s.heap.size + 11 + k) (fun k => s.heap.size + 15 + k) (fun k => s.heap.size + 30 + 16 * k) (laI s.heap.size) cA cZ c2 cT tc tf (s.heap.size + 97) B (lg (xs (i + 1)) (xs (i + 2))) (lg (xs (i + 3)) (xs (i + 4))) (bA (xs (i + 5))) (by omega) (by omega) hv)) ⟨km_LA_76, kst_LA_block, kn_LA, kw_LA_block⟩ (by decide +kernel) (by decide) ⟨(by show cs + 1 ≤ 601024; omega), (by show sl + 6 ≤ 7293000; omega)⟩ (hK.sub [0, 1, 2, 3] rfl) ((h_kBO).app h_kSB) hn1 hS (la_A hS (fun p hp => by have := hi1 p hp; omega)) hF2 rfl hl.1 rfl (Nat.le_of_ble_eq_true rfl) d_LA_law_184 (fun _ H1 locs1 hph hP1 hz1 hf1 hS1 => ?_)
      have hq1 := va_P.right hP1
      have hr1 := va_P.left hP1
      have hq0 := hr1
      have h_kBR : va_P D classes (kBR cA cZ c2 cT cL s.heap.size B) H1 := hf1.far h_kBR in_kBR (fun p hp => by have := hi1 p hp; omega)
      have h_kBL : va_P D classes (kBL cA cZ c2 cT cL s.heap.size B) H1 := va_P.app (w1 := kBO cA cZ c2 cT cL s.heap.size B) (w2 := kBR cA cZ c2 cT cL s.heap.size B) hq0 h_kBR
      have h_kNE := hf1.far h_kNE in_kNE (fun p hp => by have := hi1 p hp; omega)
      have h_kP := hf1.far h_kP in_kP (fun p hp => by have := hi1 p hp; omega)
      have h_kSE := hf1.far h_kSE in_kSE (fun p hp => by have := hi1 p hp; omega)
      have h_kQ := hf1.far h_kQ in_kQ (fun p hp => by have := hi1 p hp; omega)
      have h_kDR := hf1.far h_kDR in_kDR (fun p hp => by have := hi1 p hp; omega)
      have h_kPI := hf1.far h_kPI in_kPI (fun p hp => by have := hi1 p hp; omega)
      have h_kMO := hf1.far h_kMO in_kMO (fun p hp => by have := hi1 p hp; omega)
      have h_kOU := hf1.far h_kOU in_kOU (fun p hp => by have := hi1 p hp; omega)
      have h_kBO := hq0
      have h_kSB := hq1
      have hT := th_kept0 hT hO hf1 (fun p hp => by have := hi1 p hp; omega)
      have hS := hS1
      clear hf1 hS1 hP1 hn0 hi0 hn1 hi1
      refine lv_istore (lv' := [(5, .int (nI 2)), (0, .ref b), (1, .ref s.heap.size), (2, .ref (s.heap.size + 69)), (3, .ref (s.heap.size + 97)), (4, .int (nI i))]) hx hb d_LA_law_187 hl (by decide) rfl (fun ls hl => ?_)
      refine lv_aload_n hx hb d_LA_law_189 rfl (lv_at hl 3 rfl) ?_
      refine lv_aload_n hx hb d_LA_law_190 rfl (lv_at hl 1 rfl) ?_
      refine lv_iload hx hb d_LA_law_191 (lv_at hl 5 rfl) ?_
      refine lv_iconst (v := nI 1) hx hb d_LA_law_193 (by decide) ?_
      refine z_add hx hb d_LA_law_194 ?_
      refine va_sld hx hb hX hbl hbA hS (vp_in_nI (n := (i + 1)) (by omega) (by omega)) d_LA_law_195 ?_
      refine lv_toi (z := xs (i + 1)) (congrArg xs (nI_clamp (by omega))) ?_
      refine lv_i2l (v := (xs (i + 1)).toInt64) hx hb d_LA_law_196 rfl ?_
      refine lv_bipush (v := nI 32) hx hb d_LA_law_197 (by decide) ?_
      refine lv_lshl (v := _ <<< ((nI 32).toInt64 &&& 63)) hx hb d_LA_law_199 rfl ?_
      refine lv_aload_n hx hb d_LA_law_200 rfl (lv_at hl 1 rfl) ?_
      refine lv_iload hx hb d_LA_law_201 (lv_at hl 5 rfl) ?_
      refine lv_iconst (v := nI 2) hx hb d_LA_law_203 (by decide) ?_
      refine z_add hx hb d_LA_law_204 ?_
      refine va_sld hx hb hX hbl hbA hS (vp_in_nI (n := (i + 2)) (by omega) (by omega)) d_LA_law_205 ?_
      refine lv_toi (z := xs (i + 2)) (congrArg xs (nI_clamp (by omega))) ?_
      refine lv_i2l (v := (xs (i + 2)).toInt64) hx hb d_LA_law_206 rfl ?_
      refine lv_ldc2 hx hb hown (hts _ kL_LA_74) d_LA_law_207 ?_
      refine lv_land hx hb d_LA_law_210 ?_
      refine lv_lor hx hb d_LA_law_211 ?_
      refine lv_tol (z := lg (xs (i + 1)) (xs (i + 2))) rfl ?_
      refine lv_aload_n hx hb d_LA_law_212 rfl (lv_at hl 1 rfl) ?_
      refine lv_iload hx hb d_LA_law_213 (lv_at hl 5 rfl) ?_
      refine lv_iconst (v := nI 3) hx hb d_LA_law_215 (by decide) ?_
      refine z_add hx hb d_LA_law_216 ?_
      refine va_sld hx hb hX hbl hbA hS (vp_in_nI (n := (i + 3)) (by omega) (by omega)) d_LA_law_217 ?_
      refine lv_toi (z := xs (i + 3)) (congrArg xs (nI_clamp (by omega))) ?_
      refine lv_i2l (v := (xs (i + 3)).toInt64) hx hb d_LA_law_218 rfl ?_
      refine lv_bipush (v := nI 32) hx hb d_LA_law_219 (by decide) ?_
      refine lv_lshl (v := _ <<< ((nI 32).toInt64 &&& 63)) hx hb d_LA_law_221 rfl ?_
      refine lv_aload_n hx hb d_LA_law_222 rfl (lv_at hl 1 rfl) ?_
      refine lv_iload hx hb d_LA_law_223 (lv_at hl 5 rfl) ?_
      refine lv_iconst (v := nI 4) hx hb d_LA_law_225 (by decide) ?_
      refine z_add hx hb d_LA_law_226 ?_
      refine va_sld hx hb hX hbl hbA hS (vp_in_nI (n := (i + 4)) (by omega) (by omega)) d_LA_law_227 ?_
      refine lv_toi (z := xs (i + 4)) (congrArg xs (nI_clamp (by omega))) ?_
      refine lv_i2l (v := (xs (i + 4)).toInt64) hx hb d_LA_law_228 rfl ?_
      refine lv_ldc2 hx hb hown (hts _ kL_LA_74) d_LA_law_229 ?_
      refine lv_land hx hb d_LA_law_232 ?_
      refine lv_lor hx hb d_LA_law_233 ?_
      refine lv_tol (z := lg (xs (i + 3)) (xs (i + 4))) rfl ?_
      refine lv_aload_n hx hb d_LA_law_234 rfl (lv_at hl 1 rfl) ?_
      refine lv_iload hx hb d_LA_law_235 (lv_at hl 5 rfl) ?_
      refine lv_iconst (v := nI 5) hx hb d_LA_law_237 (by decide) ?_
      refine z_add hx hb d_LA_law_238 ?_
      refine va_sld hx hb hX hbl hbA hS (vp_in_nI (n := (i + 5)) (by omega) (by omega)) d_LA_law_239 ?_
      refine lv_toi (z := xs (i + 5)) (congrArg xs (nI_clamp (by omega))) ?_
      refine zb_arg hx hb d_LA_law_240 (by decide) d_LA_law_243 d_LA_law_244 (by decide) d_LA_law_247 ?_
      have hi0 : ∀ p ∈ kMO cA cZ c2 cT cL s.heap.size M z, (s.heap.size + 69 ≤ p.1 ∧ p.1 < s.heap.size + 97) := in_kMO
      have hn0 : va_D (fun _ => True) (kMO cA cZ c2 cT cL s.heap.size M z) := nd_kMO
      refine zg_V (V := Unit) (ci := 10) (q0 := 0) (As := [.long (lg (xs (i + 1)) (xs (i + 2))), .long (lg (xs (i + 3)) (xs (i + 4))), .int (zb (bA (xs (i + 5))))]) (rest := []) (n := 3) (wsC := kMO cA cZ c2 cT cL s.heap.size M z) (φ := fun _ => True) (wv := fun _ => kMO cA cZ c2 cT cL s.heap.size (mS 0 2 M) z) (rv := .int (nI 0)) ⟨hx, hb, hml, hown, hts⟩ (met_u (c_MO_block_no2 l D _ (laM s.heap.size) cA cZ cL M z (lg (xs (i + 1)) (xs (i + 2))) (lg (xs (i + 3)) (xs (i + 4))) (bA (xs (i + 5))) (by omega) (by omega) (by omega) hv)) ⟨km_LA_79, ki_MO_block, ks_MO_block, kn_MO, kd_MO_block⟩ (by decide +kernel) (by decide) ⟨(by show cs + 1 + 0 ≤ 601024; omega), (by show sl + 6 + 0 ≤ 7293000; omega)⟩ (hK.sub [0, 1, 4] rfl) (h_kMO) hn0 hS (la_A hS (fun p hp => by have := hi0 p hp; omega)) rfl rfl rfl hl.1 rfl (Nat.le_of_ble_eq_true rfl) d_LA_law_248 (fun _ H1 locs1 hph hP1 hz1 hf1 hS1 => ?_)
      have hq0 := hP1
      have h_kSB := hf1.far h_kSB in_kSB (fun p hp => by have := hi0 p hp; omega)
      have h_kBL := hf1.far h_kBL in_kBL (fun p hp => by have := hi0 p hp; omega)
      have h_kNE := hf1.far h_kNE in_kNE (fun p hp => by have := hi0 p hp; omega)
      have h_kP := hf1.far h_kP in_kP (fun p hp => by have := hi0 p hp; omega)
      have h_kSE := hf1.far h_kSE in_kSE (fun p hp => by have := hi0 p hp; omega)
      have h_kQ := hf1.far h_kQ in_kQ (fun p hp => by have := hi0 p hp; omega)
      have h_kDR := hf1.far h_kDR in_kDR (fun p hp => by have := hi0 p hp; omega)
      have h_kPI := hf1.far h_kPI in_kPI (fun p hp => by have := hi0 p hp; omega)
      have h_kOU := hf1.far h_kOU in_kOU (fun p hp => by have := hi0 p hp; omega)
      have h_kMO := hq0
      have hT := th_kept0 hT hO hf1 (fun p hp => by have := hi0 p hp; omega)
      have hS := hS1
      clear hf1 hS1 hP1 hn0 hi0
      refine lv_istore (lv' := [(6, .int (nI 0)), (5, .int (nI 2)), (0, .ref b), (1, .ref s.heap.size), (2, .ref (s.heap.size + 69)), (3, .ref (s.heap.size + 97)), (4, .int (nI i))]) hx hb d_LA_law_251 hl (by decide) rfl (fun ls hl => ?_)
      refine lv_aload_n hx hb d_LA_law_253 rfl (lv_at hl 4 rfl) ?_
      refine zrM_V (ci := 10) (q0 := 0) (As := []) (rest := []) (n := 0) (wsC := kMO cA cZ c2 cT cL s.heap.size (mS 0 2 M) z) ⟨hx, hb, hml, hown, hts⟩ (c_MO_thrown l D (laM s.heap.size) cA cZ cL (mS 0 2 M) z) ⟨km_LA_80, ki_MO_thrown, ks_MO_thrown, kn_MO, kd_MO_thrown⟩ (by decide +kernel) (by decide) ⟨(by show cs + 1 + 0 ≤ 601024; omega), (by show sl + 6 + 0 ≤ 7293000; omega)⟩ (hK.sub [0, 1, 4] rfl) h_kMO rfl rfl rfl hl.1 rfl (Nat.le_of_ble_eq_true rfl) d_LA_law_254 ?_
      refine lv_toi (z := nI 2) rfl ?_
      refine lv_iload hx hb d_LA_law_257 (lv_at hl 1 rfl) ?_
      refine z_ceq (tgt := 264) hx hb d_LA_law_259 (by decide) (by omega) (by omega) (fun _ => ?_) (fun h => absurd h (by omega))
      refine lv_iload hx hb d_LA_law_264 (lv_at hl 1 rfl) ?_
      refine z_0ne (tgt := 281) hx hb d_LA_law_266 (by decide) (by omega) (fun _ => ?_) (fun h => absurd h (by omega))
      refine lv_goto (tgt := 1221) hx hb d_LA_law_281 (by decide) ?_
      exact kk _ _ _ _ ls (by omega) (by omega) hS ⟨tc, tf, B, P, Qp, N, ah, kw, z, nn, sd, cf, lf, cn, (mS 0 2 M), fo, bk, us, u, cap, wt, tB, ⟨h_kSB, h_kBL, h_kNE, h_kP, h_kSE, h_kQ, h_kDR, h_kPI, h_kMO, h_kOU⟩, hT, hO, RelG_ag hG ⟨⟨rfl, rfl, rfl, rfl, rfl, rfl, rfl, rfl, rfl, rfl, rfl, rfl⟩, ⟨rfl, rfl, rfl, rfl⟩, rfl, rfl, rfl⟩, RelT_ag hR ⟨⟨rfl, rfl, rfl, rfl, rfl, rfl, rfl, rfl, rfl, rfl, rfl, rfl⟩, ⟨rfl, rfl, rfl, rfl⟩, rfl, rfl, rfl⟩, hq⟩ (lv_sub hl [2, 3, 4, 5, 6] rfl)
    · have h9 : M.2.2.1 9 = tc := hR.1
      obtain ⟨x0, hx1, hx2, hxe⟩ := lN_of1 (k := 1000) (by decide) (fun q => hv (Or.inl q)) (fun q => hv (Or.inr (Or.inl q)))
      obtain ⟨y0, hy1, hy2, hye⟩ := lN_of1 (k := 1000) (by decide) (fun q => hv (Or.inr (Or.inr (Or.inl q)))) (fun q => hv (Or.inr (Or.inr (Or.inr q))))
      have hn16 : B.2.2.2 < 16 := by omega
      have ht40 : tc < 40 := by omega
      have hG9 := RelG_block (t := bA (xs (i + 5))) (v := ((M.1 6, M.1 7), (M.1 6, M.1 7), 0)) hG hn16 hx2 hy2
      have hey := hG.1.2.2.2.2.2
      have hey1 : P.2.2.1 = B.2.2.2 := hey.1
      have hey2 : P.2.2.2 = B.2.2.2 := hey.2.1
      have hok9 : okQ (apQ B.2.2.2 P) := (ap_wf hn16 hG.1.2.2.1 hey1 hey2).1
      refine lv_aload_n hx hb d_LA_law_124 rfl (lv_at hl 1 rfl) ?_
      refine lv_aload_n hx hb d_LA_law_125 rfl (lv_at hl 0 rfl) ?_
      refine lv_iload hx hb d_LA_law_126 (lv_at hl 4 rfl) ?_
      refine lv_iconst (v := nI 1) hx hb d_LA_law_128 (by decide) ?_
      refine z_add hx hb d_LA_law_129 ?_
      refine va_sld hx hb hX hbl hbA hS (vp_in_nI (n := (i + 1)) (by omega) (by omega)) d_LA_law_130 ?_
      refine lv_toi (z := xs (i + 1)) (congrArg xs (nI_clamp (by omega))) ?_
      refine lv_i2l (v := (xs (i + 1)).toInt64) hx hb d_LA_law_131 rfl ?_
      refine lv_bipush (v := nI 32) hx hb d_LA_law_132 (by decide) ?_
      refine lv_lshl (v := _ <<< ((nI 32).toInt64 &&& 63)) hx hb d_LA_law_134 rfl ?_
      refine lv_aload_n hx hb d_LA_law_135 rfl (lv_at hl 0 rfl) ?_
      refine lv_iload hx hb d_LA_law_136 (lv_at hl 4 rfl) ?_
      refine lv_iconst (v := nI 2) hx hb d_LA_law_138 (by decide) ?_
      refine z_add hx hb d_LA_law_139 ?_
      refine va_sld hx hb hX hbl hbA hS (vp_in_nI (n := (i + 2)) (by omega) (by omega)) d_LA_law_140 ?_
      refine lv_toi (z := xs (i + 2)) (congrArg xs (nI_clamp (by omega))) ?_
      refine lv_i2l (v := (xs (i + 2)).toInt64) hx hb d_LA_law_141 rfl ?_
      refine lv_ldc2 hx hb hown (hts _ kL_LA_74) d_LA_law_142 ?_
      refine lv_land hx hb d_LA_law_145 ?_
      refine lv_lor hx hb d_LA_law_146 ?_
      refine lv_tol (z := (lN x0)) hxe ?_
      refine lv_aload_n hx hb d_LA_law_147 rfl (lv_at hl 0 rfl) ?_
      refine lv_iload hx hb d_LA_law_148 (lv_at hl 4 rfl) ?_
      refine lv_iconst (v := nI 3) hx hb d_LA_law_150 (by decide) ?_
      refine z_add hx hb d_LA_law_151 ?_
      refine va_sld hx hb hX hbl hbA hS (vp_in_nI (n := (i + 3)) (by omega) (by omega)) d_LA_law_152 ?_
      refine lv_toi (z := xs (i + 3)) (congrArg xs (nI_clamp (by omega))) ?_
      refine lv_i2l (v := (xs (i + 3)).toInt64) hx hb d_LA_law_153 rfl ?_
      refine lv_bipush (v := nI 32) hx hb d_LA_law_154 (by decide) ?_
      refine lv_lshl (v := _ <<< ((nI 32).toInt64 &&& 63)) hx hb d_LA_law_156 rfl ?_
      refine lv_aload_n hx hb d_LA_law_157 rfl (lv_at hl 0 rfl) ?_
      refine lv_iload hx hb d_LA_law_158 (lv_at hl 4 rfl) ?_
      refine lv_iconst (v := nI 4) hx hb d_LA_law_160 (by decide) ?_
      refine z_add hx hb d_LA_law_161 ?_
      refine va_sld hx hb hX hbl hbA hS (vp_in_nI (n := (i + 4)) (by omega) (by omega)) d_LA_law_162 ?_
      refine lv_toi (z := xs (i + 4)) (congrArg xs (nI_clamp (by omega))) ?_
      refine lv_i2l (v := (xs (i + 4)).toInt64) hx hb d_LA_law_163 rfl ?_
      refine lv_ldc2 hx hb hown (hts _ kL_LA_74) d_LA_law_164 ?_
      refine lv_land hx hb d_LA_law_167 ?_
      refine lv_lor hx hb d_LA_law_168 ?_
      refine lv_tol (z := (lN y0)) hye ?_
      refine lv_aload_n hx hb d_LA_law_169 rfl (lv_at hl 0 rfl) ?_
      refine lv_iload hx hb d_LA_law_170 (lv_at hl 4 rfl) ?_
      refine lv_iconst (v := nI 5) hx hb d_LA_law_172 (by decide) ?_
      refine z_add hx hb d_LA_law_173 ?_
      refine va_sld hx hb hX hbl hbA hS (vp_in_nI (n := (i + 5)) (by omega) (by omega)) d_LA_law_174 ?_
      refine lv_toi (z := xs (i + 5)) (congrArg xs (nI_clamp (by omega))) ?_
      refine zb_arg hx hb d_LA_law_175 (by decide) d_LA_law_178 d_LA_law_179 (by decide) d_LA_law_182 ?_
      refine lv_aload_n hx hb d_LA_law_183 rfl (lv_at hl 3 rfl) ?_
      have hz98 : s.heap.size + 98 ≤ H.size := by have h8 : s.heap.size + 97 < H.size := (h_kOU 0 _ rfl).lt; omega
      have hlt9 := th_lt hT
      have hi0 : ∀ p ∈ kP cA cZ c2 cT cL s.heap.size P, (s.heap.size + 15 ≤ p.1 ∧ p.1 < s.heap.size + 30) := in_kP
      have hn0 : va_D (fun _ => True) (kP cA cZ c2 cT cL s.heap.size P) := nd_kP
      have hn1 : va_D (fun _ => True) ((kP cA cZ c2 cT cL s.heap.size P) ++ (kBL cA cZ c2 cT cL s.heap.size B)) := nd_app hn0 nd_kBL (fun p hp q hq e9 => by have := hi0 p hp; have := in_kBL q hq; omega)
      have hi1 : ∀ p ∈ (kP cA cZ c2 cT cL s.heap.size P) ++ (kBL cA cZ c2 cT cL s.heap.size B), (s.heap.size + 15 ≤ p.1 ∧ p.1 < s.heap.size + 30) ∨ (s.heap.size + 2 ≤ p.1 ∧ p.1 < s.heap.size + 11) := fun p hp => (List.mem_append.mp hp).elim (fun h => by have := hi0 p h; omega) (fun h => by have := in_kBL p h; omega)
      have hn2 : va_D (fun _ => True) (((kP cA cZ c2 cT cL s.heap.size P) ++ (kBL cA cZ c2 cT cL s.heap.size B)) ++ (kSB cA cZ c2 cT cL s.heap.size tc tf)) := nd_app hn1 nd_kSB (fun p hp q hq e9 => by have := hi1 p hp; have := in_kSB q hq; omega)
      have hi2 : ∀ p ∈ ((kP cA cZ c2 cT cL s.heap.size P) ++ (kBL cA cZ c2 cT cL s.heap.size B)) ++ (kSB cA cZ c2 cT cL s.heap.size tc tf), (s.heap.size + 15 ≤ p.1 ∧ p.1 < s.heap.size + 30) ∨ (s.heap.size + 2 ≤ p.1 ∧ p.1 < s.heap.size + 11) ∨ (s.heap.size + 0 ≤ p.1 ∧ p.1 < s.heap.size + 2) := fun p hp => (List.mem_append.mp hp).elim (fun h => by have := hi1 p h; omega) (fun h => by have := in_kSB p h; omega)
      have hn3 : va_D (fun _ => True) ((((kP cA cZ c2 cT cL s.heap.size P) ++ (kBL cA cZ c2 cT cL s.heap.size B)) ++ (kSB cA cZ c2 cT cL s.heap.size tc tf)) ++ (kOU cA cZ c2 cT cL s.heap.size fo)) := nd_app hn2 nd_kOU (fun p hp q hq e9 => by have := hi2 p hp; have := in_kOU q hq; omega)
      have hi3 : ∀ p ∈ (((kP cA cZ c2 cT cL s.heap.size P) ++ (kBL cA cZ c2 cT cL s.heap.size B)) ++ (kSB cA cZ c2 cT cL s.heap.size tc tf)) ++ (kOU cA cZ c2 cT cL s.heap.size fo), (s.heap.size + 15 ≤ p.1 ∧ p.1 < s.heap.size + 30) ∨ (s.heap.size + 2 ≤ p.1 ∧ p.1 < s.heap.size + 11) ∨ (s.heap.size + 0 ≤ p.1 ∧ p.1 < s.heap.size + 2) ∨ (s.heap.size + 97 ≤ p.1 ∧ p.1 < s.heap.size + 98) := fun p hp => (List.mem_append.mp hp).elim (fun h => by have := hi2 p h; omega) (fun h => by have := in_kOU p h; omega)
      refine zg_H (V := Unit) (F := zF0) (mc := 4) (ms := 134) (As := [.ref s.heap.size, .long (lN x0), .long (lN y0), .int (zb (bA (xs (i + 5)))), .ref (s.heap.size + 97)]) (rest := []) (n := 5) (wsC := (((kP cA cZ c2 cT cL s.heap.size P) ++ (kBL cA cZ c2 cT cL s.heap.size B)) ++ (kSB cA cZ c2 cT cL s.heap.size tc tf)) ++ (kOU cA cZ c2 cT cL s.heap.size fo)) (φ := fun _ => True) (wv := fun _ => ((((kP cA cZ c2 cT cL s.heap.size (lyQ (apB x0 y0 (bA (xs (i + 5))) B) (apQ B.2.2.2 P))) ++ (kBL cA cZ c2 cT cL s.heap.size (apB x0 y0 (bA (xs (i + 5))) B))) ++ (kSB cA cZ c2 cT cL s.heap.size (tc + 1) (va_up tf tc (some H.size)))) ++ (kOU cA cZ c2 cT cL s.heap.size (o1 fo (lN tc)))) ++ (lTO cA H.size (nI B.2.2.2) false ++ lTL cA H.size 2 (obL (bA (xs (i + 5))) x0 y0))) (rv := .int (nI 0)) zF0_ok ⟨hx, hb, hml, hown, hts⟩ (met_u (h_block l D _ (fun k => s.heap.size + k) (fun k => s.heap.size + 2 + k) (fun k => s.heap.size + 11 + k) (fun k => s.heap.size + 15 + k) (fun k => s.heap.size + 30 + 16 * k) (laI s.heap.size) cA cZ c2 cT tc tf B P x0 y0 (bA (xs (i + 5))) (s.heap.size + 97) cL fo ht40 hn16 hx1 hx2 hy1 hy2 hG9.1.1 hok9 (by omega) (by omega))) ⟨km_LA_76, kst_LA_block, kn_LA, kw_LA_block⟩ (by decide +kernel) (by decide) ⟨(by show cs + 4 ≤ 601024; omega), (by show sl + 134 ≤ 7293000; omega)⟩ (hK.sub [0, 1, 2, 3, 4] rfl) ((((h_kP).app h_kBL).app h_kSB).app h_kOU) hn3 hS (la_A hS (fun p hp => by have := hi3 p hp; omega)) trivial rfl hl.1 rfl (Nat.le_of_ble_eq_true rfl) d_LA_law_184 (fun _ H1 locs1 hph hP1 hz1 hf1 hS1 => ?_)
      have hqN := va_P.right hP1
      have hP9 := va_P.left hP1
      have hq3 := va_P.right hP9
      have hr3 := va_P.left hP9
      have hq2 := va_P.right hr3
      have hr2 := va_P.left hr3
      have hq1 := va_P.right hr2
      have hr1 := va_P.left hr2
      have hq0 := hr1
      have h_kNE := hf1.far h_kNE in_kNE (fun p hp => by have := hi3 p hp; omega)
      have h_kSE := hf1.far h_kSE in_kSE (fun p hp => by have := hi3 p hp; omega)
      have h_kQ := hf1.far h_kQ in_kQ (fun p hp => by have := hi3 p hp; omega)
      have h_kDR := hf1.far h_kDR in_kDR (fun p hp => by have := hi3 p hp; omega)
      have h_kPI := hf1.far h_kPI in_kPI (fun p hp => by have := hi3 p hp; omega)
      have h_kMO := hf1.far h_kMO in_kMO (fun p hp => by have := hi3 p hp; omega)
      have h_kP := hq0
      have h_kBL := hq1
      have h_kSB := hq2
      have h_kOU := hq3
      have hT := th_app (th_kept0 hT hO hf1 (fun p hp => by have := hi3 p hp; omega)) hz98 hqN
      have hO := hO_app hO hlt9
      have hS := hS1
      clear hf1 hS1 hP1 hn0 hi0 hn1 hi1 hn2 hi2 hn3 hi3
      refine lv_istore (lv' := [(5, .int (nI 0)), (0, .ref b), (1, .ref s.heap.size), (2, .ref (s.heap.size + 69)), (3, .ref (s.heap.size + 97)), (4, .int (nI i))]) hx hb d_LA_law_187 hl (by decide) rfl (fun ls hl => ?_)
      refine lv_aload_n hx hb d_LA_law_189 rfl (lv_at hl 3 rfl) ?_
      refine lv_aload_n hx hb d_LA_law_190 rfl (lv_at hl 1 rfl) ?_
      refine lv_iload hx hb d_LA_law_191 (lv_at hl 5 rfl) ?_
      refine lv_iconst (v := nI 1) hx hb d_LA_law_193 (by decide) ?_
      refine z_add hx hb d_LA_law_194 ?_
      refine va_sld hx hb hX hbl hbA hS (vp_in_nI (n := (i + 1)) (by omega) (by omega)) d_LA_law_195 ?_
      refine lv_toi (z := xs (i + 1)) (congrArg xs (nI_clamp (by omega))) ?_
      refine lv_i2l (v := (xs (i + 1)).toInt64) hx hb d_LA_law_196 rfl ?_
      refine lv_bipush (v := nI 32) hx hb d_LA_law_197 (by decide) ?_
      refine lv_lshl (v := _ <<< ((nI 32).toInt64 &&& 63)) hx hb d_LA_law_199 rfl ?_
      refine lv_aload_n hx hb d_LA_law_200 rfl (lv_at hl 1 rfl) ?_
      refine lv_iload hx hb d_LA_law_201 (lv_at hl 5 rfl) ?_
      refine lv_iconst (v := nI 2) hx hb d_LA_law_203 (by decide) ?_
      refine z_add hx hb d_LA_law_204 ?_
      refine va_sld hx hb hX hbl hbA hS (vp_in_nI (n := (i + 2)) (by omega) (by omega)) d_LA_law_205 ?_
      refine lv_toi (z := xs (i + 2)) (congrArg xs (nI_clamp (by omega))) ?_
      refine lv_i2l (v := (xs (i + 2)).toInt64) hx hb d_LA_law_206 rfl ?_
      refine lv_ldc2 hx hb hown (hts _ kL_LA_74) d_LA_law_207 ?_
      refine lv_land hx hb d_LA_law_210 ?_
      refine lv_lor hx hb d_LA_law_211 ?_
      refine lv_tol (z := (lN x0)) hxe ?_
      refine lv_aload_n hx hb d_LA_law_212 rfl (lv_at hl 1 rfl) ?_
      refine lv_iload hx hb d_LA_law_213 (lv_at hl 5 rfl) ?_
      refine lv_iconst (v := nI 3) hx hb d_LA_law_215 (by decide) ?_
      refine z_add hx hb d_LA_law_216 ?_
      refine va_sld hx hb hX hbl hbA hS (vp_in_nI (n := (i + 3)) (by omega) (by omega)) d_LA_law_217 ?_
      refine lv_toi (z := xs (i + 3)) (congrArg xs (nI_clamp (by omega))) ?_
      refine lv_i2l (v := (xs (i + 3)).toInt64) hx hb d_LA_law_218 rfl ?_
      refine lv_bipush (v := nI 32) hx hb d_LA_law_219 (by decide) ?_
      refine lv_lshl (v := _ <<< ((nI 32).toInt64 &&& 63)) hx hb d_LA_law_221 rfl ?_
      refine lv_aload_n hx hb d_LA_law_222 rfl (lv_at hl 1 rfl) ?_
      refine lv_iload hx hb d_LA_law_223 (lv_at hl 5 rfl) ?_
      refine lv_iconst (v := nI 4) hx hb d_LA_law_225 (by decide) ?_
      refine z_add hx hb d_LA_law_226 ?_
      refine va_sld hx hb hX hbl hbA hS (vp_in_nI (n := (i + 4)) (by omega) (by omega)) d_LA_law_227 ?_
      refine lv_toi (z := xs (i + 4)) (congrArg xs (nI_clamp (by omega))) ?_
      refine lv_i2l (v := (xs (i + 4)).toInt64) hx hb d_LA_law_228 rfl ?_
      refine lv_ldc2 hx hb hown (hts _ kL_LA_74) d_LA_law_229 ?_
      refine lv_land hx hb d_LA_law_232 ?_
      refine lv_lor hx hb d_LA_law_233 ?_
      refine lv_tol (z := (lN y0)) hye ?_
      refine lv_aload_n hx hb d_LA_law_234 rfl (lv_at hl 1 rfl) ?_
      refine lv_iload hx hb d_LA_law_235 (lv_at hl 5 rfl) ?_
      refine lv_iconst (v := nI 5) hx hb d_LA_law_237 (by decide) ?_
      refine z_add hx hb d_LA_law_238 ?_
      refine va_sld hx hb hX hbl hbA hS (vp_in_nI (n := (i + 5)) (by omega) (by omega)) d_LA_law_239 ?_
      refine lv_toi (z := xs (i + 5)) (congrArg xs (nI_clamp (by omega))) ?_
      refine zb_arg hx hb d_LA_law_240 (by decide) d_LA_law_243 d_LA_law_244 (by decide) d_LA_law_247 ?_
      have hi0 : ∀ p ∈ kMO cA cZ c2 cT cL s.heap.size M z, (s.heap.size + 69 ≤ p.1 ∧ p.1 < s.heap.size + 97) := in_kMO
      have hn0 : va_D (fun _ => True) (kMO cA cZ c2 cT cL s.heap.size M z) := nd_kMO
      refine zg_V (V := V7) (ci := 10) (q0 := 0) (As := [.long (lN x0), .long (lN y0), .int (zb (bA (xs (i + 5))))]) (rest := []) (n := 3) (wsC := kMO cA cZ c2 cT cL s.heap.size M z) (φ := fun v7 => newSh (bkS (bA (xs (i + 5))) x0 y0) M v7) (wv := fun v7 => kMO cA cZ c2 cT cL s.heap.size (bkM v7 x0 y0 (bA (xs (i + 5))) M) z) (rv := .int (nI (M.2.2.1 9))) ⟨hx, hb, hml, hown, hts⟩ (r_block l D _ (laM s.heap.size) cA cZ cL M z x0 y0 (bA (xs (i + 5))) (by omega) (by omega) (by omega) hR.2.2.2.2.2.2.1 hx1 hx2 hy1 hy2) ⟨km_LA_79, ki_MO_block, ks_MO_block, kn_MO, kd_MO_block⟩ (by decide +kernel) (by decide) ⟨(by show cs + 4 + 0 ≤ 601024; omega), (by show sl + 134 + 0 ≤ 7293000; omega)⟩ (hK.sub [0, 1, 4] rfl) (h_kMO) hn0 hS (la_A hS (fun p hp => by have := hi0 p hp; omega)) rfl rfl rfl hl.1 rfl (Nat.le_of_ble_eq_true rfl) d_LA_law_248 (fun v7 H1 locs1 hph hP1 hz1 hf1 hS1 => ?_)
      have hq0 := hP1
      have h_kSB := hf1.far h_kSB in_kSB (fun p hp => by have := hi0 p hp; omega)
      have h_kBL := hf1.far h_kBL in_kBL (fun p hp => by have := hi0 p hp; omega)
      have h_kNE := hf1.far h_kNE in_kNE (fun p hp => by have := hi0 p hp; omega)
      have h_kP := hf1.far h_kP in_kP (fun p hp => by have := hi0 p hp; omega)
      have h_kSE := hf1.far h_kSE in_kSE (fun p hp => by have := hi0 p hp; omega)
      have h_kQ := hf1.far h_kQ in_kQ (fun p hp => by have := hi0 p hp; omega)
      have h_kDR := hf1.far h_kDR in_kDR (fun p hp => by have := hi0 p hp; omega)
      have h_kPI := hf1.far h_kPI in_kPI (fun p hp => by have := hi0 p hp; omega)
      have h_kOU := hf1.far h_kOU in_kOU (fun p hp => by have := hi0 p hp; omega)
      have h_kMO := hq0
      have hT := th_kept0 hT hO hf1 (fun p hp => by have := hi0 p hp; omega)
      have hS := hS1
      clear hf1 hS1 hP1 hn0 hi0
      refine lv_istore (lv' := [(6, .int (nI (M.2.2.1 9))), (5, .int (nI 0)), (0, .ref b), (1, .ref s.heap.size), (2, .ref (s.heap.size + 69)), (3, .ref (s.heap.size + 97)), (4, .int (nI i))]) hx hb d_LA_law_251 hl (by decide) rfl (fun ls hl => ?_)
      refine lv_aload_n hx hb d_LA_law_253 rfl (lv_at hl 4 rfl) ?_
      refine zrM_V (ci := 10) (q0 := 0) (As := []) (rest := []) (n := 0) (wsC := kMO cA cZ c2 cT cL s.heap.size (bkM v7 x0 y0 (bA (xs (i + 5))) M) z) ⟨hx, hb, hml, hown, hts⟩ (c_MO_thrown l D (laM s.heap.size) cA cZ cL (bkM v7 x0 y0 (bA (xs (i + 5))) M) z) ⟨km_LA_80, ki_MO_thrown, ks_MO_thrown, kn_MO, kd_MO_thrown⟩ (by decide +kernel) (by decide) ⟨(by show cs + 4 + 0 ≤ 601024; omega), (by show sl + 134 + 0 ≤ 7293000; omega)⟩ (hK.sub [0, 1, 4] rfl) h_kMO rfl rfl rfl hl.1 rfl (Nat.le_of_ble_eq_true rfl) d_LA_law_254 ?_
      refine lv_toi (z := nI 0) rfl ?_
      refine lv_iload hx hb d_LA_law_257 (lv_at hl 1 rfl) ?_
      refine z_ceq (tgt := 264) hx hb d_LA_law_259 (by decide) (by omega) (by omega) (fun _ => ?_) (fun h => absurd h (by omega))
      refine lv_iload hx hb d_LA_law_264 (lv_at hl 1 rfl) ?_
      refine z_0ne (tgt := 281) hx hb d_LA_law_266 (by decide) (by omega) (fun h => absurd h (by omega)) (fun _ => ?_)
      refine lv_aload_n hx hb d_LA_law_269 rfl (lv_at hl 5 rfl) ?_
      refine lv_iconst (v := nI 0) hx hb d_LA_law_270 (by decide) ?_
      refine va_lald hx hb hK h_kOU 0 4 rfl rfl (vp_in_nI (n := 0) (by decide) (by decide)) d_LA_law_271 ?_
      refine lv_tol (z := lN tc) rfl ?_
      refine lv_iload hx hb d_LA_law_272 (lv_at hl 0 rfl) ?_
      refine lv_i2l (v := lN (M.2.2.1 9)) hx hb d_LA_law_274 (nI_l (by omega)) ?_
      refine y_leq (tgt := 281) hx hb d_LA_law_275 d_LA_law_276 (by decide) (fun _ => ?_) (fun c9 => absurd (congrArg lN h9.symm) c9)
      refine lv_goto (tgt := 1221) hx hb d_LA_law_281 (by decide) ?_
      exact kk _ _ _ _ ls (by omega) (by omega) hS ⟨(tc + 1), (va_up tf tc (some H.size)), (apB x0 y0 (bA (xs (i + 5))) B), (lyQ (apB x0 y0 (bA (xs (i + 5))) B) (apQ B.2.2.2 P)), Qp, N, ah, kw, z, nn, sd, cf, lf, cn, (bkM v7 x0 y0 (bA (xs (i + 5))) M), (o1 fo (lN tc)), va_up bk tc (nI B.2.2.2), va_up us tc false, va_up u tc (obL (bA (xs (i + 5))) x0 y0), va_up cap tc 2, va_up wt tc 1, va_up tB tc H.size, ⟨h_kSB, h_kBL, h_kNE, h_kP, h_kSE, h_kQ, h_kDR, h_kPI, h_kMO, h_kOU⟩, hT, hO, RelG_block hG hn16 hx2 hy2, RelT_block hR h17 hn16 ht40 hph hx2 hy2, hq⟩ (lv_sub hl [2, 3, 4, 5, 6] rfl)
set_option maxHeartbeats 4000000 in
set_option maxRecDepth 100000 in
/-- slice -/
theorem lc_slice {p : Program} {l : Launch} {e : Env} {s : State} {m : MethodId} {below : List Frame} {meth : Method} {c : Code} {b L : Nat} {xs : Nat → Int32} {D : va_G} {cA cZ c2 cT cL : ClassId} {Q : State → Prop} (C : lawC p l s m c b L xs D cA cZ c2 cT cL) {i cs sl : Nat} {H : Heap} {locs : List Loc} {ls : Array Slot} (hi : i + 6 ≤ L) (hcs : cs + 10 ≤ 601024) (hsl : sl + 200 ≤ 7293000) (hS : va_S (lA s) s.heap H locs) (hI : lawI D cA cZ c2 cT cL s.heap.size H) (hl : lv_has ls 8 [(0, .ref b), (1, .ref s.heap.size), (2, .ref (s.heap.size + 69)), (3, .ref (s.heap.size + 97)), (4, .int (nI i))]) (kk : ∀ (H1 : Heap) (locs1 : List Loc) (cs1 sl1 : Nat) (ls1 : Array Slot), cs1 ≤ cs + 10 → sl1 ≤ sl + 200 → va_S (lA s) s.heap H1 locs1 → lawI D cA cZ c2 cT cL s.heap.size H1 → lv_has ls1 8 [(0, .ref b), (1, .ref s.heap.size), (2, .ref (s.heap.size + 69)), (3, .ref (s.heap.size + 97)), (4, .int (nI i))] → W p l e room_1 s m #[Value.ref b] below meth c H1 locs1 cs1 sl1 Q (F0 m 1221 ls1 [])) : W p l e room_1 s m #[Value.ref b] below meth c H locs cs sl Q (F0 m 503 ls []) := by
  obtain ⟨hx, hb, hml, hown, hts, hX, hbl, hL, hK, htl, hF1, hF2⟩ := C
  have hbA : ¬ lA s b := fun h => by have h : s.heap.size ≤ b := h; omega
  obtain ⟨tc, tf, B, P, Qp, N, ah, kw, z, nn, sd, cf, lf, cn, M, fo, bk, us, u, cap, wt, tB, ⟨h_kSB, h_kBL, h_kNE, h_kP, h_kSE, h_kQ, h_kDR, h_kPI, h_kMO, h_kOU⟩, hT, hO, hG, hR, hq⟩ := hI
  have h40 : tc ≤ 40 := hR.2.1
  have h17 : M.2.2.1 17 = B.2.2.2 := hG.2.2.1.1.2.1
  have h16 : B.2.2.2 ≤ 16 := hG.1.1.1
  have hT : thA D cA bk us u cap tB tc tf s.heap.size H := hT
  by_cases hv : xs (i + 1) < 0 ∨ nI tc ≤ xs (i + 1)
  · have ht2 := th2_of hT h40 (xs (i + 2))
    refine lv_aload_n hx hb d_LA_law_503 rfl (lv_at hl 1 rfl) ?_
    refine lv_aload_n hx hb d_LA_law_504 rfl (lv_at hl 0 rfl) ?_
    refine lv_iload hx hb d_LA_law_505 (lv_at hl 4 rfl) ?_
    refine lv_iconst (v := nI 1) hx hb d_LA_law_507 (by decide) ?_
    refine z_add hx hb d_LA_law_508 ?_
    refine va_sld hx hb hX hbl hbA hS (vp_in_nI (n := (i + 1)) (by omega) (by omega)) d_LA_law_509 ?_
    refine lv_toi (z := xs (i + 1)) (congrArg xs (nI_clamp (by omega))) ?_
    refine lv_aload_n hx hb d_LA_law_510 rfl (lv_at hl 0 rfl) ?_
    refine lv_iload hx hb d_LA_law_511 (lv_at hl 4 rfl) ?_
    refine lv_iconst (v := nI 2) hx hb d_LA_law_513 (by decide) ?_
    refine z_add hx hb d_LA_law_514 ?_
    refine va_sld hx hb hX hbl hbA hS (vp_in_nI (n := (i + 2)) (by omega) (by omega)) d_LA_law_515 ?_
    refine lv_toi (z := xs (i + 2)) (congrArg xs (nI_clamp (by omega))) ?_
    refine lv_aload_n hx hb d_LA_law_516 rfl (lv_at hl 0 rfl) ?_
    refine lv_iload hx hb d_LA_law_517 (lv_at hl 4 rfl) ?_
    refine lv_iconst (v := nI 3) hx hb d_LA_law_519 (by decide) ?_
    refine z_add hx hb d_LA_law_520 ?_
    refine va_sld hx hb hX hbl hbA hS (vp_in_nI (n := (i + 3)) (by omega) (by omega)) d_LA_law_521 ?_
    refine lv_toi (z := xs (i + 3)) (congrArg xs (nI_clamp (by omega))) ?_
    refine zb_arg hx hb d_LA_law_522 (by decide) d_LA_law_525 d_LA_law_526 (by decide) d_LA_law_529 ?_
    refine lv_aload_n hx hb d_LA_law_530 rfl (lv_at hl 3 rfl) ?_
    have hi0 : ∀ p ∈ kSB cA cZ c2 cT cL s.heap.size tc tf, (s.heap.size + 0 ≤ p.1 ∧ p.1 < s.heap.size + 2) := in_kSB
    have hn0 : va_D (fun _ => True) (kSB cA cZ c2 cT cL s.heap.size tc tf) := nd_kSB
    refine zg_H (V := Unit) (F := zT2) (mc := 1) (ms := 6) (As := [.ref s.heap.size, .int (xs (i + 1)), .int (xs (i + 2)), .int (zb (bA (xs (i + 3)))), .ref (s.heap.size + 97)]) (rest := []) (n := 5) (wsC := kSB cA cZ c2 cT cL s.heap.size tc tf) (φ := fun _ => True) (wv := fun _ => kSB cA cZ c2 cT cL s.heap.size tc tf) (rv := .int (nI 1)) zT2_ok ⟨hx, hb, hml, hown, hts⟩ (met_u (h_slice_x1a l D htl _ (fun k => s.heap.size + k) (fun k => s.heap.size + 2 + k) (fun k => s.heap.size + 11 + k) (fun k => s.heap.size + 15 + k) (fun k => s.heap.size + 30 + 16 * k) (laI s.heap.size) cA cZ c2 cT tc tf (s.heap.size + 97) (xs (i + 1)) (xs (i + 2)) (bA (xs (i + 3))) h40 hv ht2)) ⟨km_LA_92, kst_LA_slice, kn_LA, kw_LA_slice⟩ (by decide +kernel) (by decide) ⟨(by show cs + 1 ≤ 601024; omega), (by show sl + 6 ≤ 7293000; omega)⟩ (hK.sub [0, 1, 2, 3] rfl) (h_kSB) hn0 hS (la_A hS (fun p hp => by have := hi0 p hp; omega)) hF2 rfl hl.1 rfl (Nat.le_of_ble_eq_true rfl) d_LA_law_531 (fun _ H1 locs1 hph hP1 hz1 hf1 hS1 => ?_)
    have hq0 := hP1
    have h_kBL := hf1.far h_kBL in_kBL (fun p hp => by have := hi0 p hp; omega)
    have h_kNE := hf1.far h_kNE in_kNE (fun p hp => by have := hi0 p hp; omega)
    have h_kP := hf1.far h_kP in_kP (fun p hp => by have := hi0 p hp; omega)
    have h_kSE := hf1.far h_kSE in_kSE (fun p hp => by have := hi0 p hp; omega)
    have h_kQ := hf1.far h_kQ in_kQ (fun p hp => by have := hi0 p hp; omega)
    have h_kDR := hf1.far h_kDR in_kDR (fun p hp => by have := hi0 p hp; omega)
    have h_kPI := hf1.far h_kPI in_kPI (fun p hp => by have := hi0 p hp; omega)
    have h_kMO := hf1.far h_kMO in_kMO (fun p hp => by have := hi0 p hp; omega)
    have h_kOU := hf1.far h_kOU in_kOU (fun p hp => by have := hi0 p hp; omega)
    have h_kSB := hq0
    have hT := th_kept0 hT hO hf1 (fun p hp => by have := hi0 p hp; omega)
    have hS := hS1
    clear hf1 hS1 hP1 hn0 hi0
    refine lv_istore (lv' := [(5, .int (nI 1)), (0, .ref b), (1, .ref s.heap.size), (2, .ref (s.heap.size + 69)), (3, .ref (s.heap.size + 97)), (4, .int (nI i))]) hx hb d_LA_law_534 hl (by decide) rfl (fun ls hl => ?_)
    refine lv_aload_n hx hb d_LA_law_536 rfl (lv_at hl 3 rfl) ?_
    refine lv_aload_n hx hb d_LA_law_537 rfl (lv_at hl 1 rfl) ?_
    refine lv_iload hx hb d_LA_law_538 (lv_at hl 5 rfl) ?_
    refine lv_iconst (v := nI 1) hx hb d_LA_law_540 (by decide) ?_
    refine z_add hx hb d_LA_law_541 ?_
    refine va_sld hx hb hX hbl hbA hS (vp_in_nI (n := (i + 1)) (by omega) (by omega)) d_LA_law_542 ?_
    refine lv_toi (z := xs (i + 1)) (congrArg xs (nI_clamp (by omega))) ?_
    refine lv_aload_n hx hb d_LA_law_543 rfl (lv_at hl 1 rfl) ?_
    refine lv_iload hx hb d_LA_law_544 (lv_at hl 5 rfl) ?_
    refine lv_iconst (v := nI 2) hx hb d_LA_law_546 (by decide) ?_
    refine z_add hx hb d_LA_law_547 ?_
    refine va_sld hx hb hX hbl hbA hS (vp_in_nI (n := (i + 2)) (by omega) (by omega)) d_LA_law_548 ?_
    refine lv_toi (z := xs (i + 2)) (congrArg xs (nI_clamp (by omega))) ?_
    refine lv_aload_n hx hb d_LA_law_549 rfl (lv_at hl 1 rfl) ?_
    refine lv_iload hx hb d_LA_law_550 (lv_at hl 5 rfl) ?_
    refine lv_iconst (v := nI 3) hx hb d_LA_law_552 (by decide) ?_
    refine z_add hx hb d_LA_law_553 ?_
    refine va_sld hx hb hX hbl hbA hS (vp_in_nI (n := (i + 3)) (by omega) (by omega)) d_LA_law_554 ?_
    refine lv_toi (z := xs (i + 3)) (congrArg xs (nI_clamp (by omega))) ?_
    refine zb_arg hx hb d_LA_law_555 (by decide) d_LA_law_558 d_LA_law_559 (by decide) d_LA_law_562 ?_
    have hi0 : ∀ p ∈ kMO cA cZ c2 cT cL s.heap.size M z, (s.heap.size + 69 ≤ p.1 ∧ p.1 < s.heap.size + 97) := in_kMO
    have hn0 : va_D (fun _ => True) (kMO cA cZ c2 cT cL s.heap.size M z) := nd_kMO
    refine zg_V (V := Unit) (ci := 10) (q0 := 0) (As := [.int (xs (i + 1)), .int (xs (i + 2)), .int (zb (bA (xs (i + 3))))]) (rest := []) (n := 3) (wsC := kMO cA cZ c2 cT cL s.heap.size M z) (φ := fun _ => True) (wv := fun _ => kMO cA cZ c2 cT cL s.heap.size (mS 0 1 M) z) (rv := .int (nI 0)) ⟨hx, hb, hml, hown, hts⟩ (met_u (c_MO_slice_no1 l D _ (laM s.heap.size) cA cZ cL M z (xs (i + 1)) (xs (i + 2)) (bA (xs (i + 3))) (Or.inl (by rw [hR.1]; exact isT_f hv)))) ⟨km_LA_95, ki_MO_slice, ks_MO_slice, kn_MO, kd_MO_slice⟩ (by decide +kernel) (by decide) ⟨(by show cs + 1 + 0 ≤ 601024; omega), (by show sl + 6 + 0 ≤ 7293000; omega)⟩ (hK.sub [0, 1, 4] rfl) (h_kMO) hn0 hS (la_A hS (fun p hp => by have := hi0 p hp; omega)) rfl rfl rfl hl.1 rfl (Nat.le_of_ble_eq_true rfl) d_LA_law_563 (fun _ H1 locs1 hph hP1 hz1 hf1 hS1 => ?_)
    have hq0 := hP1
    have h_kSB := hf1.far h_kSB in_kSB (fun p hp => by have := hi0 p hp; omega)
    have h_kBL := hf1.far h_kBL in_kBL (fun p hp => by have := hi0 p hp; omega)
    have h_kNE := hf1.far h_kNE in_kNE (fun p hp => by have := hi0 p hp; omega)
    have h_kP := hf1.far h_kP in_kP (fun p hp => by have := hi0 p hp; omega)
    have h_kSE := hf1.far h_kSE in_kSE (fun p hp => by have := hi0 p hp; omega)
    have h_kQ := hf1.far h_kQ in_kQ (fun p hp => by have := hi0 p hp; omega)
    have h_kDR := hf1.far h_kDR in_kDR (fun p hp => by have := hi0 p hp; omega)
    have h_kPI := hf1.far h_kPI in_kPI (fun p hp => by have := hi0 p hp; omega)
    have h_kOU := hf1.far h_kOU in_kOU (fun p hp => by have := hi0 p hp; omega)
    have h_kMO := hq0
    have hT := th_kept0 hT hO hf1 (fun p hp => by have := hi0 p hp; omega)
    have hS := hS1
    clear hf1 hS1 hP1 hn0 hi0
    refine lv_istore (lv' := [(6, .int (nI 0)), (5, .int (nI 1)), (0, .ref b), (1, .ref s.heap.size), (2, .ref (s.heap.size + 69)), (3, .ref (s.heap.size + 97)), (4, .int (nI i))]) hx hb d_LA_law_566 hl (by decide) rfl (fun ls hl => ?_)
    refine lv_aload_n hx hb d_LA_law_568 rfl (lv_at hl 4 rfl) ?_
    refine zrM_V (ci := 10) (q0 := 0) (As := []) (rest := []) (n := 0) (wsC := kMO cA cZ c2 cT cL s.heap.size (mS 0 1 M) z) ⟨hx, hb, hml, hown, hts⟩ (c_MO_thrown l D (laM s.heap.size) cA cZ cL (mS 0 1 M) z) ⟨km_LA_80, ki_MO_thrown, ks_MO_thrown, kn_MO, kd_MO_thrown⟩ (by decide +kernel) (by decide) ⟨(by show cs + 1 + 0 ≤ 601024; omega), (by show sl + 6 + 0 ≤ 7293000; omega)⟩ (hK.sub [0, 1, 4] rfl) h_kMO rfl rfl rfl hl.1 rfl (Nat.le_of_ble_eq_true rfl) d_LA_law_569 ?_
    refine lv_toi (z := nI 1) rfl ?_
    refine lv_iload hx hb d_LA_law_572 (lv_at hl 1 rfl) ?_
    refine z_ceq (tgt := 579) hx hb d_LA_law_574 (by decide) (by omega) (by omega) (fun _ => ?_) (fun h => absurd h (by omega))
    refine lv_iload hx hb d_LA_law_579 (lv_at hl 1 rfl) ?_
    refine z_0ne (tgt := 596) hx hb d_LA_law_581 (by decide) (by omega) (fun _ => ?_) (fun h => absurd h (by omega))
    refine lv_goto (tgt := 1221) hx hb d_LA_law_596 (by decide) ?_
    exact kk _ _ _ _ ls (by omega) (by omega) hS ⟨tc, tf, B, P, Qp, N, ah, kw, z, nn, sd, cf, lf, cn, (mS 0 1 M), fo, bk, us, u, cap, wt, tB, ⟨h_kSB, h_kBL, h_kNE, h_kP, h_kSE, h_kQ, h_kDR, h_kPI, h_kMO, h_kOU⟩, hT, hO, RelG_ag hG ⟨⟨rfl, rfl, rfl, rfl, rfl, rfl, rfl, rfl, rfl, rfl, rfl, rfl⟩, ⟨rfl, rfl, rfl, rfl⟩, rfl, rfl, rfl⟩, RelT_ag hR ⟨⟨rfl, rfl, rfl, rfl, rfl, rfl, rfl, rfl, rfl, rfl, rfl, rfl⟩, ⟨rfl, rfl, rfl, rfl⟩, rfl, rfl, rfl⟩, hq⟩ (lv_sub hl [2, 3, 4, 5, 6] rfl)
  · obtain ⟨ka, hka, hkea⟩ := thg_of h40 hv
    by_cases hw : xs (i + 2) < 0 ∨ nI tc ≤ xs (i + 2)
    · refine lv_aload_n hx hb d_LA_law_503 rfl (lv_at hl 1 rfl) ?_
      refine lv_aload_n hx hb d_LA_law_504 rfl (lv_at hl 0 rfl) ?_
      refine lv_iload hx hb d_LA_law_505 (lv_at hl 4 rfl) ?_
      refine lv_iconst (v := nI 1) hx hb d_LA_law_507 (by decide) ?_
      refine z_add hx hb d_LA_law_508 ?_
      refine va_sld hx hb hX hbl hbA hS (vp_in_nI (n := (i + 1)) (by omega) (by omega)) d_LA_law_509 ?_
      refine lv_toi (z := (nI ka)) ((congrArg xs (nI_clamp (by omega))).trans hkea) ?_
      refine lv_aload_n hx hb d_LA_law_510 rfl (lv_at hl 0 rfl) ?_
      refine lv_iload hx hb d_LA_law_511 (lv_at hl 4 rfl) ?_
      refine lv_iconst (v := nI 2) hx hb d_LA_law_513 (by decide) ?_
      refine z_add hx hb d_LA_law_514 ?_
      refine va_sld hx hb hX hbl hbA hS (vp_in_nI (n := (i + 2)) (by omega) (by omega)) d_LA_law_515 ?_
      refine lv_toi (z := xs (i + 2)) (congrArg xs (nI_clamp (by omega))) ?_
      refine lv_aload_n hx hb d_LA_law_516 rfl (lv_at hl 0 rfl) ?_
      refine lv_iload hx hb d_LA_law_517 (lv_at hl 4 rfl) ?_
      refine lv_iconst (v := nI 3) hx hb d_LA_law_519 (by decide) ?_
      refine z_add hx hb d_LA_law_520 ?_
      refine va_sld hx hb hX hbl hbA hS (vp_in_nI (n := (i + 3)) (by omega) (by omega)) d_LA_law_521 ?_
      refine lv_toi (z := xs (i + 3)) (congrArg xs (nI_clamp (by omega))) ?_
      refine zb_arg hx hb d_LA_law_522 (by decide) d_LA_law_525 d_LA_law_526 (by decide) d_LA_law_529 ?_
      refine lv_aload_n hx hb d_LA_law_530 rfl (lv_at hl 3 rfl) ?_
      have hi0 : ∀ p ∈ kSB cA cZ c2 cT cL s.heap.size tc tf, (s.heap.size + 0 ≤ p.1 ∧ p.1 < s.heap.size + 2) := in_kSB
      have hn0 : va_D (fun _ => True) (kSB cA cZ c2 cT cL s.heap.size tc tf) := nd_kSB
      refine zg_H (V := Unit) (F := zT2) (mc := 1) (ms := 6) (As := [.ref s.heap.size, .int (nI ka), .int (xs (i + 2)), .int (zb (bA (xs (i + 3)))), .ref (s.heap.size + 97)]) (rest := []) (n := 5) (wsC := kSB cA cZ c2 cT cL s.heap.size tc tf) (φ := fun _ => True) (wv := fun _ => kSB cA cZ c2 cT cL s.heap.size tc tf) (rv := .int (nI 1)) zT2_ok ⟨hx, hb, hml, hown, hts⟩ (met_u (h_slice_x1b l D htl _ (fun k => s.heap.size + k) (fun k => s.heap.size + 2 + k) (fun k => s.heap.size + 11 + k) (fun k => s.heap.size + 15 + k) (fun k => s.heap.size + 30 + 16 * k) (laI s.heap.size) cA cZ c2 cT tc tf (s.heap.size + 97) ka (tB ka) (xs (i + 2)) (bA (xs (i + 3))) h40 hka (hT ka hka).2.2 hw)) ⟨km_LA_92, kst_LA_slice, kn_LA, kw_LA_slice⟩ (by decide +kernel) (by decide) ⟨(by show cs + 1 ≤ 601024; omega), (by show sl + 6 ≤ 7293000; omega)⟩ (hK.sub [0, 1, 2, 3] rfl) (h_kSB) hn0 hS (la_A hS (fun p hp => by have := hi0 p hp; omega)) hF2 rfl hl.1 rfl (Nat.le_of_ble_eq_true rfl) d_LA_law_531 (fun _ H1 locs1 hph hP1 hz1 hf1 hS1 => ?_)
      have hq0 := hP1
      have h_kBL := hf1.far h_kBL in_kBL (fun p hp => by have := hi0 p hp; omega)
      have h_kNE := hf1.far h_kNE in_kNE (fun p hp => by have := hi0 p hp; omega)
      have h_kP := hf1.far h_kP in_kP (fun p hp => by have := hi0 p hp; omega)
      have h_kSE := hf1.far h_kSE in_kSE (fun p hp => by have := hi0 p hp; omega)
      have h_kQ := hf1.far h_kQ in_kQ (fun p hp => by have := hi0 p hp; omega)
      have h_kDR := hf1.far h_kDR in_kDR (fun p hp => by have := hi0 p hp; omega)
      have h_kPI := hf1.far h_kPI in_kPI (fun p hp => by have := hi0 p hp; omega)
      have h_kMO := hf1.far h_kMO in_kMO (fun p hp => by have := hi0 p hp; omega)
      have h_kOU := hf1.far h_kOU in_kOU (fun p hp => by have := hi0 p hp; omega)
      have h_kSB := hq0
      have hT := th_kept0 hT hO hf1 (fun p hp => by have := hi0 p hp; omega)
      have hS := hS1
      clear hf1 hS1 hP1 hn0 hi0
      refine lv_istore (lv' := [(5, .int (nI 1)), (0, .ref b), (1, .ref s.heap.size), (2, .ref (s.heap.size + 69)), (3, .ref (s.heap.size + 97)), (4, .int (nI i))]) hx hb d_LA_law_534 hl (by decide) rfl (fun ls hl => ?_)
      refine lv_aload_n hx hb d_LA_law_536 rfl (lv_at hl 3 rfl) ?_
      refine lv_aload_n hx hb d_LA_law_537 rfl (lv_at hl 1 rfl) ?_
      refine lv_iload hx hb d_LA_law_538 (lv_at hl 5 rfl) ?_
      refine lv_iconst (v := nI 1) hx hb d_LA_law_540 (by decide) ?_
      refine z_add hx hb d_LA_law_541 ?_
      refine va_sld hx hb hX hbl hbA hS (vp_in_nI (n := (i + 1)) (by omega) (by omega)) d_LA_law_542 ?_
      refine lv_toi (z := (nI ka)) ((congrArg xs (nI_clamp (by omega))).trans hkea) ?_
      refine lv_aload_n hx hb d_LA_law_543 rfl (lv_at hl 1 rfl) ?_
      refine lv_iload hx hb d_LA_law_544 (lv_at hl 5 rfl) ?_
      refine lv_iconst (v := nI 2) hx hb d_LA_law_546 (by decide) ?_
      refine z_add hx hb d_LA_law_547 ?_
      refine va_sld hx hb hX hbl hbA hS (vp_in_nI (n := (i + 2)) (by omega) (by omega)) d_LA_law_548 ?_
      refine lv_toi (z := xs (i + 2)) (congrArg xs (nI_clamp (by omega))) ?_
      refine lv_aload_n hx hb d_LA_law_549 rfl (lv_at hl 1 rfl) ?_
      refine lv_iload hx hb d_LA_law_550 (lv_at hl 5 rfl) ?_
      refine lv_iconst (v := nI 3) hx hb d_LA_law_552 (by decide) ?_
      refine z_add hx hb d_LA_law_553 ?_
      refine va_sld hx hb hX hbl hbA hS (vp_in_nI (n := (i + 3)) (by omega) (by omega)) d_LA_law_554 ?_
      refine lv_toi (z := xs (i + 3)) (congrArg xs (nI_clamp (by omega))) ?_
      refine zb_arg hx hb d_LA_law_555 (by decide) d_LA_law_558 d_LA_law_559 (by decide) d_LA_law_562 ?_
      have hi0 : ∀ p ∈ kMO cA cZ c2 cT cL s.heap.size M z, (s.heap.size + 69 ≤ p.1 ∧ p.1 < s.heap.size + 97) := in_kMO
      have hn0 : va_D (fun _ => True) (kMO cA cZ c2 cT cL s.heap.size M z) := nd_kMO
      refine zg_V (V := Unit) (ci := 10) (q0 := 0) (As := [.int (nI ka), .int (xs (i + 2)), .int (zb (bA (xs (i + 3))))]) (rest := []) (n := 3) (wsC := kMO cA cZ c2 cT cL s.heap.size M z) (φ := fun _ => True) (wv := fun _ => kMO cA cZ c2 cT cL s.heap.size (mS 0 1 M) z) (rv := .int (nI 0)) ⟨hx, hb, hml, hown, hts⟩ (met_u (c_MO_slice_no1 l D _ (laM s.heap.size) cA cZ cL M z (nI ka) (xs (i + 2)) (bA (xs (i + 3))) (Or.inr (by rw [hR.1]; exact isT_f hw)))) ⟨km_LA_95, ki_MO_slice, ks_MO_slice, kn_MO, kd_MO_slice⟩ (by decide +kernel) (by decide) ⟨(by show cs + 1 + 0 ≤ 601024; omega), (by show sl + 6 + 0 ≤ 7293000; omega)⟩ (hK.sub [0, 1, 4] rfl) (h_kMO) hn0 hS (la_A hS (fun p hp => by have := hi0 p hp; omega)) rfl rfl rfl hl.1 rfl (Nat.le_of_ble_eq_true rfl) d_LA_law_563 (fun _ H1 locs1 hph hP1 hz1 hf1 hS1 => ?_)
      have hq0 := hP1
      have h_kSB := hf1.far h_kSB in_kSB (fun p hp => by have := hi0 p hp; omega)
      have h_kBL := hf1.far h_kBL in_kBL (fun p hp => by have := hi0 p hp; omega)
      have h_kNE := hf1.far h_kNE in_kNE (fun p hp => by have := hi0 p hp; omega)
      have h_kP := hf1.far h_kP in_kP (fun p hp => by have := hi0 p hp; omega)
      have h_kSE := hf1.far h_kSE in_kSE (fun p hp => by have := hi0 p hp; omega)
      have h_kQ := hf1.far h_kQ in_kQ (fun p hp => by have := hi0 p hp; omega)
      have h_kDR := hf1.far h_kDR in_kDR (fun p hp => by have := hi0 p hp; omega)
      have h_kPI := hf1.far h_kPI in_kPI (fun p hp => by have := hi0 p hp; omega)
      have h_kOU := hf1.far h_kOU in_kOU (fun p hp => by have := hi0 p hp; omega)
      have h_kMO := hq0
      have hT := th_kept0 hT hO hf1 (fun p hp => by have := hi0 p hp; omega)
      have hS := hS1
      clear hf1 hS1 hP1 hn0 hi0
      refine lv_istore (lv' := [(6, .int (nI 0)), (5, .int (nI 1)), (0, .ref b), (1, .ref s.heap.size), (2, .ref (s.heap.size + 69)), (3, .ref (s.heap.size + 97)), (4, .int (nI i))]) hx hb d_LA_law_566 hl (by decide) rfl (fun ls hl => ?_)
      refine lv_aload_n hx hb d_LA_law_568 rfl (lv_at hl 4 rfl) ?_
      refine zrM_V (ci := 10) (q0 := 0) (As := []) (rest := []) (n := 0) (wsC := kMO cA cZ c2 cT cL s.heap.size (mS 0 1 M) z) ⟨hx, hb, hml, hown, hts⟩ (c_MO_thrown l D (laM s.heap.size) cA cZ cL (mS 0 1 M) z) ⟨km_LA_80, ki_MO_thrown, ks_MO_thrown, kn_MO, kd_MO_thrown⟩ (by decide +kernel) (by decide) ⟨(by show cs + 1 + 0 ≤ 601024; omega), (by show sl + 6 + 0 ≤ 7293000; omega)⟩ (hK.sub [0, 1, 4] rfl) h_kMO rfl rfl rfl hl.1 rfl (Nat.le_of_ble_eq_true rfl) d_LA_law_569 ?_
      refine lv_toi (z := nI 1) rfl ?_
      refine lv_iload hx hb d_LA_law_572 (lv_at hl 1 rfl) ?_
      refine z_ceq (tgt := 579) hx hb d_LA_law_574 (by decide) (by omega) (by omega) (fun _ => ?_) (fun h => absurd h (by omega))
      refine lv_iload hx hb d_LA_law_579 (lv_at hl 1 rfl) ?_
      refine z_0ne (tgt := 596) hx hb d_LA_law_581 (by decide) (by omega) (fun _ => ?_) (fun h => absurd h (by omega))
      refine lv_goto (tgt := 1221) hx hb d_LA_law_596 (by decide) ?_
      exact kk _ _ _ _ ls (by omega) (by omega) hS ⟨tc, tf, B, P, Qp, N, ah, kw, z, nn, sd, cf, lf, cn, (mS 0 1 M), fo, bk, us, u, cap, wt, tB, ⟨h_kSB, h_kBL, h_kNE, h_kP, h_kSE, h_kQ, h_kDR, h_kPI, h_kMO, h_kOU⟩, hT, hO, RelG_ag hG ⟨⟨rfl, rfl, rfl, rfl, rfl, rfl, rfl, rfl, rfl, rfl, rfl, rfl⟩, ⟨rfl, rfl, rfl, rfl⟩, rfl, rfl, rfl⟩, RelT_ag hR ⟨⟨rfl, rfl, rfl, rfl, rfl, rfl, rfl, rfl, rfl, rfl, rfl, rfl⟩, ⟨rfl, rfl, rfl, rfl⟩, rfl, rfl, rfl⟩, hq⟩ (lv_sub hl [2, 3, 4, 5, 6] rfl)
    · obtain ⟨kb, hkb, hkeb⟩ := thg_of h40 hw
      have h9 : M.2.2.1 9 = tc := hR.1
      have hia : isT (M.2.2.1 9) (nI ka) = true := by rw [h9]; exact isT_t h40 hka
      have hib : isT (M.2.2.1 9) (nI kb) = true := by rw [h9]; exact isT_t h40 hkb
      have hra := hR.2.2.2.2.1 ka hka
      have hrb := hR.2.2.2.2.1 kb hkb
      have hua : us ka = M.2.1 5 ka := hra.1
      have hub : us kb = M.2.1 5 kb := hrb.1
      by_cases hu : us ka = true ∨ us kb = true ∨ tc = 40
      · by_cases hab : ka = kb
        · subst hab
          refine lv_aload_n hx hb d_LA_law_503 rfl (lv_at hl 1 rfl) ?_
          refine lv_aload_n hx hb d_LA_law_504 rfl (lv_at hl 0 rfl) ?_
          refine lv_iload hx hb d_LA_law_505 (lv_at hl 4 rfl) ?_
          refine lv_iconst (v := nI 1) hx hb d_LA_law_507 (by decide) ?_
          refine z_add hx hb d_LA_law_508 ?_
          refine va_sld hx hb hX hbl hbA hS (vp_in_nI (n := (i + 1)) (by omega) (by omega)) d_LA_law_509 ?_
          refine lv_toi (z := (nI ka)) ((congrArg xs (nI_clamp (by omega))).trans hkea) ?_
          refine lv_aload_n hx hb d_LA_law_510 rfl (lv_at hl 0 rfl) ?_
          refine lv_iload hx hb d_LA_law_511 (lv_at hl 4 rfl) ?_
          refine lv_iconst (v := nI 2) hx hb d_LA_law_513 (by decide) ?_
          refine z_add hx hb d_LA_law_514 ?_
          refine va_sld hx hb hX hbl hbA hS (vp_in_nI (n := (i + 2)) (by omega) (by omega)) d_LA_law_515 ?_
          refine lv_toi (z := (nI ka)) ((congrArg xs (nI_clamp (by omega))).trans hkeb) ?_
          refine lv_aload_n hx hb d_LA_law_516 rfl (lv_at hl 0 rfl) ?_
          refine lv_iload hx hb d_LA_law_517 (lv_at hl 4 rfl) ?_
          refine lv_iconst (v := nI 3) hx hb d_LA_law_519 (by decide) ?_
          refine z_add hx hb d_LA_law_520 ?_
          refine va_sld hx hb hX hbl hbA hS (vp_in_nI (n := (i + 3)) (by omega) (by omega)) d_LA_law_521 ?_
          refine lv_toi (z := xs (i + 3)) (congrArg xs (nI_clamp (by omega))) ?_
          refine zb_arg hx hb d_LA_law_522 (by decide) d_LA_law_525 d_LA_law_526 (by decide) d_LA_law_529 ?_
          refine lv_aload_n hx hb d_LA_law_530 rfl (lv_at hl 3 rfl) ?_
          have hTs : thS D cA bk us u cap tB tc (lTO cA (tB ka) (bk ka) (us ka)) H := thS_o hT hka rfl
          have hTi := thS_in (h0 := s.heap.size) hT hTs
          have hi0 : ∀ p ∈ lTO cA (tB ka) (bk ka) (us ka), (s.heap.size + 98 ≤ p.1) := hTi
          have hn0 : va_D (fun _ => True) (lTO cA (tB ka) (bk ka) (us ka)) := hTs.2.1
          have hn1 : va_D (fun _ => True) ((lTO cA (tB ka) (bk ka) (us ka)) ++ (kSB cA cZ c2 cT cL s.heap.size tc tf)) := nd_app hn0 nd_kSB (fun p hp q hq e9 => by have := hi0 p hp; have := in_kSB q hq; omega)
          have hi1 : ∀ p ∈ (lTO cA (tB ka) (bk ka) (us ka)) ++ (kSB cA cZ c2 cT cL s.heap.size tc tf), (s.heap.size + 98 ≤ p.1) ∨ (s.heap.size + 0 ≤ p.1 ∧ p.1 < s.heap.size + 2) := fun p hp => (List.mem_append.mp hp).elim (fun h => by have := hi0 p h; omega) (fun h => by have := in_kSB p h; omega)
          have hw9 : ∀ p ∈ (lTO cA (tB ka) (bk ka) (us ka)) ++ (kSB cA cZ c2 cT cL s.heap.size tc tf), p.1 < s.heap.size + 98 ∨ p ∈ lTO cA (tB ka) (bk ka) (us ka) := fun p hp => (List.mem_append.mp hp).elim (fun h => Or.inr h) (fun h => Or.inl (by have := in_kSB p h; omega))
          refine zg_H (V := Unit) (F := zT2) (mc := 1) (ms := 6) (As := [.ref s.heap.size, .int (nI ka), .int (nI ka), .int (zb (bA (xs (i + 3)))), .ref (s.heap.size + 97)]) (rest := []) (n := 5) (wsC := (lTO cA (tB ka) (bk ka) (us ka)) ++ (kSB cA cZ c2 cT cL s.heap.size tc tf)) (φ := fun _ => True) (wv := fun _ => (lTO cA (tB ka) (bk ka) (us ka)) ++ (kSB cA cZ c2 cT cL s.heap.size tc tf)) (rv := .int (nI 2)) zT2_ok ⟨hx, hb, hml, hown, hts⟩ (met_u (h_slice_x2s l D htl _ (fun k => s.heap.size + k) (fun k => s.heap.size + 2 + k) (fun k => s.heap.size + 11 + k) (fun k => s.heap.size + 15 + k) (fun k => s.heap.size + 30 + 16 * k) (laI s.heap.size) cA cZ c2 cT tc tf (s.heap.size + 97) (tB ka) (tB ka + 1) (bk ka) (us ka) ka (bA (xs (i + 3))) h40 hka (hT ka hka).2.2 hu)) ⟨km_LA_92, kst_LA_slice, kn_LA, kw_LA_slice⟩ (by decide +kernel) (by decide) ⟨(by show cs + 1 ≤ 601024; omega), (by show sl + 6 ≤ 7293000; omega)⟩ (hK.sub [0, 1, 2, 3] rfl) ((hTs.1).app h_kSB) hn1 hS (la_A hS (fun p hp => by have := hi1 p hp; omega)) hF2 rfl hl.1 rfl (Nat.le_of_ble_eq_true rfl) d_LA_law_531 (fun _ H1 locs1 hph hP1 hz1 hf1 hS1 => ?_)
          have hq1 := va_P.right hP1
          have hr1 := va_P.left hP1
          have hq0 := hr1
          have h_kBL := hf1.far h_kBL in_kBL (fun p hp => by have := hi1 p hp; omega)
          have h_kNE := hf1.far h_kNE in_kNE (fun p hp => by have := hi1 p hp; omega)
          have h_kP := hf1.far h_kP in_kP (fun p hp => by have := hi1 p hp; omega)
          have h_kSE := hf1.far h_kSE in_kSE (fun p hp => by have := hi1 p hp; omega)
          have h_kQ := hf1.far h_kQ in_kQ (fun p hp => by have := hi1 p hp; omega)
          have h_kDR := hf1.far h_kDR in_kDR (fun p hp => by have := hi1 p hp; omega)
          have h_kPI := hf1.far h_kPI in_kPI (fun p hp => by have := hi1 p hp; omega)
          have h_kMO := hf1.far h_kMO in_kMO (fun p hp => by have := hi1 p hp; omega)
          have h_kOU := hf1.far h_kOU in_kOU (fun p hp => by have := hi1 p hp; omega)
          have h_kSB := hq1
          have hT := th_kept hT hO hf1 hw9 hTs hq0
          have hS := hS1
          clear hf1 hS1 hP1 hn0 hi0 hn1 hi1
          refine lv_istore (lv' := [(5, .int (nI 2)), (0, .ref b), (1, .ref s.heap.size), (2, .ref (s.heap.size + 69)), (3, .ref (s.heap.size + 97)), (4, .int (nI i))]) hx hb d_LA_law_534 hl (by decide) rfl (fun ls hl => ?_)
          refine lv_aload_n hx hb d_LA_law_536 rfl (lv_at hl 3 rfl) ?_
          refine lv_aload_n hx hb d_LA_law_537 rfl (lv_at hl 1 rfl) ?_
          refine lv_iload hx hb d_LA_law_538 (lv_at hl 5 rfl) ?_
          refine lv_iconst (v := nI 1) hx hb d_LA_law_540 (by decide) ?_
          refine z_add hx hb d_LA_law_541 ?_
          refine va_sld hx hb hX hbl hbA hS (vp_in_nI (n := (i + 1)) (by omega) (by omega)) d_LA_law_542 ?_
          refine lv_toi (z := (nI ka)) ((congrArg xs (nI_clamp (by omega))).trans hkea) ?_
          refine lv_aload_n hx hb d_LA_law_543 rfl (lv_at hl 1 rfl) ?_
          refine lv_iload hx hb d_LA_law_544 (lv_at hl 5 rfl) ?_
          refine lv_iconst (v := nI 2) hx hb d_LA_law_546 (by decide) ?_
          refine z_add hx hb d_LA_law_547 ?_
          refine va_sld hx hb hX hbl hbA hS (vp_in_nI (n := (i + 2)) (by omega) (by omega)) d_LA_law_548 ?_
          refine lv_toi (z := (nI ka)) ((congrArg xs (nI_clamp (by omega))).trans hkeb) ?_
          refine lv_aload_n hx hb d_LA_law_549 rfl (lv_at hl 1 rfl) ?_
          refine lv_iload hx hb d_LA_law_550 (lv_at hl 5 rfl) ?_
          refine lv_iconst (v := nI 3) hx hb d_LA_law_552 (by decide) ?_
          refine z_add hx hb d_LA_law_553 ?_
          refine va_sld hx hb hX hbl hbA hS (vp_in_nI (n := (i + 3)) (by omega) (by omega)) d_LA_law_554 ?_
          refine lv_toi (z := xs (i + 3)) (congrArg xs (nI_clamp (by omega))) ?_
          refine zb_arg hx hb d_LA_law_555 (by decide) d_LA_law_558 d_LA_law_559 (by decide) d_LA_law_562 ?_
          have hi0 : ∀ p ∈ kMO cA cZ c2 cT cL s.heap.size M z, (s.heap.size + 69 ≤ p.1 ∧ p.1 < s.heap.size + 97) := in_kMO
          have hn0 : va_D (fun _ => True) (kMO cA cZ c2 cT cL s.heap.size M z) := nd_kMO
          refine zg_V (V := Unit) (ci := 10) (q0 := 0) (As := [.int (nI ka), .int (nI ka), .int (zb (bA (xs (i + 3))))]) (rest := []) (n := 3) (wsC := kMO cA cZ c2 cT cL s.heap.size M z) (φ := fun _ => True) (wv := fun _ => kMO cA cZ c2 cT cL s.heap.size (mS 0 2 M) z) (rv := .int (nI 0)) ⟨hx, hb, hml, hown, hts⟩ (met_u (c_MO_slice_no2 l D _ (laM s.heap.size) cA cZ cL M z ka ka (bA (xs (i + 3))) hia hib (by omega) (by omega) (by omega) (by rw [← hua, h9]; exact hu))) ⟨km_LA_95, ki_MO_slice, ks_MO_slice, kn_MO, kd_MO_slice⟩ (by decide +kernel) (by decide) ⟨(by show cs + 1 + 0 ≤ 601024; omega), (by show sl + 6 + 0 ≤ 7293000; omega)⟩ (hK.sub [0, 1, 4] rfl) (h_kMO) hn0 hS (la_A hS (fun p hp => by have := hi0 p hp; omega)) rfl rfl rfl hl.1 rfl (Nat.le_of_ble_eq_true rfl) d_LA_law_563 (fun _ H1 locs1 hph hP1 hz1 hf1 hS1 => ?_)
          have hq0 := hP1
          have h_kSB := hf1.far h_kSB in_kSB (fun p hp => by have := hi0 p hp; omega)
          have h_kBL := hf1.far h_kBL in_kBL (fun p hp => by have := hi0 p hp; omega)
          have h_kNE := hf1.far h_kNE in_kNE (fun p hp => by have := hi0 p hp; omega)
          have h_kP := hf1.far h_kP in_kP (fun p hp => by have := hi0 p hp; omega)
          have h_kSE := hf1.far h_kSE in_kSE (fun p hp => by have := hi0 p hp; omega)
          have h_kQ := hf1.far h_kQ in_kQ (fun p hp => by have := hi0 p hp; omega)
          have h_kDR := hf1.far h_kDR in_kDR (fun p hp => by have := hi0 p hp; omega)
          have h_kPI := hf1.far h_kPI in_kPI (fun p hp => by have := hi0 p hp; omega)
          have h_kOU := hf1.far h_kOU in_kOU (fun p hp => by have := hi0 p hp; omega)
          have h_kMO := hq0
          have hT := th_kept0 hT hO hf1 (fun p hp => by have := hi0 p hp; omega)
          have hS := hS1
          clear hf1 hS1 hP1 hn0 hi0
          refine lv_istore (lv' := [(6, .int (nI 0)), (5, .int (nI 2)), (0, .ref b), (1, .ref s.heap.size), (2, .ref (s.heap.size + 69)), (3, .ref (s.heap.size + 97)), (4, .int (nI i))]) hx hb d_LA_law_566 hl (by decide) rfl (fun ls hl => ?_)
          refine lv_aload_n hx hb d_LA_law_568 rfl (lv_at hl 4 rfl) ?_
          refine zrM_V (ci := 10) (q0 := 0) (As := []) (rest := []) (n := 0) (wsC := kMO cA cZ c2 cT cL s.heap.size (mS 0 2 M) z) ⟨hx, hb, hml, hown, hts⟩ (c_MO_thrown l D (laM s.heap.size) cA cZ cL (mS 0 2 M) z) ⟨km_LA_80, ki_MO_thrown, ks_MO_thrown, kn_MO, kd_MO_thrown⟩ (by decide +kernel) (by decide) ⟨(by show cs + 1 + 0 ≤ 601024; omega), (by show sl + 6 + 0 ≤ 7293000; omega)⟩ (hK.sub [0, 1, 4] rfl) h_kMO rfl rfl rfl hl.1 rfl (Nat.le_of_ble_eq_true rfl) d_LA_law_569 ?_
          refine lv_toi (z := nI 2) rfl ?_
          refine lv_iload hx hb d_LA_law_572 (lv_at hl 1 rfl) ?_
          refine z_ceq (tgt := 579) hx hb d_LA_law_574 (by decide) (by omega) (by omega) (fun _ => ?_) (fun h => absurd h (by omega))
          refine lv_iload hx hb d_LA_law_579 (lv_at hl 1 rfl) ?_
          refine z_0ne (tgt := 596) hx hb d_LA_law_581 (by decide) (by omega) (fun _ => ?_) (fun h => absurd h (by omega))
          refine lv_goto (tgt := 1221) hx hb d_LA_law_596 (by decide) ?_
          exact kk _ _ _ _ ls (by omega) (by omega) hS ⟨tc, tf, B, P, Qp, N, ah, kw, z, nn, sd, cf, lf, cn, (mS 0 2 M), fo, bk, us, u, cap, wt, tB, ⟨h_kSB, h_kBL, h_kNE, h_kP, h_kSE, h_kQ, h_kDR, h_kPI, h_kMO, h_kOU⟩, hT, hO, RelG_ag hG ⟨⟨rfl, rfl, rfl, rfl, rfl, rfl, rfl, rfl, rfl, rfl, rfl, rfl⟩, ⟨rfl, rfl, rfl, rfl⟩, rfl, rfl, rfl⟩, RelT_ag hR ⟨⟨rfl, rfl, rfl, rfl, rfl, rfl, rfl, rfl, rfl, rfl, rfl, rfl⟩, ⟨rfl, rfl, rfl, rfl⟩, rfl, rfl, rfl⟩, hq⟩ (lv_sub hl [2, 3, 4, 5, 6] rfl)
        · refine lv_aload_n hx hb d_LA_law_503 rfl (lv_at hl 1 rfl) ?_
          refine lv_aload_n hx hb d_LA_law_504 rfl (lv_at hl 0 rfl) ?_
          refine lv_iload hx hb d_LA_law_505 (lv_at hl 4 rfl) ?_
          refine lv_iconst (v := nI 1) hx hb d_LA_law_507 (by decide) ?_
          refine z_add hx hb d_LA_law_508 ?_
          refine va_sld hx hb hX hbl hbA hS (vp_in_nI (n := (i + 1)) (by omega) (by omega)) d_LA_law_509 ?_
          refine lv_toi (z := (nI ka)) ((congrArg xs (nI_clamp (by omega))).trans hkea) ?_
          refine lv_aload_n hx hb d_LA_law_510 rfl (lv_at hl 0 rfl) ?_
          refine lv_iload hx hb d_LA_law_511 (lv_at hl 4 rfl) ?_
          refine lv_iconst (v := nI 2) hx hb d_LA_law_513 (by decide) ?_
          refine z_add hx hb d_LA_law_514 ?_
          refine va_sld hx hb hX hbl hbA hS (vp_in_nI (n := (i + 2)) (by omega) (by omega)) d_LA_law_515 ?_
          refine lv_toi (z := (nI kb)) ((congrArg xs (nI_clamp (by omega))).trans hkeb) ?_
          refine lv_aload_n hx hb d_LA_law_516 rfl (lv_at hl 0 rfl) ?_
          refine lv_iload hx hb d_LA_law_517 (lv_at hl 4 rfl) ?_
          refine lv_iconst (v := nI 3) hx hb d_LA_law_519 (by decide) ?_
          refine z_add hx hb d_LA_law_520 ?_
          refine va_sld hx hb hX hbl hbA hS (vp_in_nI (n := (i + 3)) (by omega) (by omega)) d_LA_law_521 ?_
          refine lv_toi (z := xs (i + 3)) (congrArg xs (nI_clamp (by omega))) ?_
          refine zb_arg hx hb d_LA_law_522 (by decide) d_LA_law_525 d_LA_law_526 (by decide) d_LA_law_529 ?_
          refine lv_aload_n hx hb d_LA_law_530 rfl (lv_at hl 3 rfl) ?_
          have hTs : thS D cA bk us u cap tB tc (lTO cA (tB ka) (bk ka) (us ka) ++ lTO cA (tB kb) (bk kb) (us kb)) H := thS_oo hT hO hka hkb hab rfl rfl
          have hTi := thS_in (h0 := s.heap.size) hT hTs
          have hi0 : ∀ p ∈ lTO cA (tB ka) (bk ka) (us ka) ++ lTO cA (tB kb) (bk kb) (us kb), (s.heap.size + 98 ≤ p.1) := hTi
          have hn0 : va_D (fun _ => True) (lTO cA (tB ka) (bk ka) (us ka) ++ lTO cA (tB kb) (bk kb) (us kb)) := hTs.2.1
          have hn1 : va_D (fun _ => True) ((lTO cA (tB ka) (bk ka) (us ka) ++ lTO cA (tB kb) (bk kb) (us kb)) ++ (kSB cA cZ c2 cT cL s.heap.size tc tf)) := nd_app hn0 nd_kSB (fun p hp q hq e9 => by have := hi0 p hp; have := in_kSB q hq; omega)
          have hi1 : ∀ p ∈ (lTO cA (tB ka) (bk ka) (us ka) ++ lTO cA (tB kb) (bk kb) (us kb)) ++ (kSB cA cZ c2 cT cL s.heap.size tc tf), (s.heap.size + 98 ≤ p.1) ∨ (s.heap.size + 0 ≤ p.1 ∧ p.1 < s.heap.size + 2) := fun p hp => (List.mem_append.mp hp).elim (fun h => by have := hi0 p h; omega) (fun h => by have := in_kSB p h; omega)
          have hw9 : ∀ p ∈ (lTO cA (tB ka) (bk ka) (us ka) ++ lTO cA (tB kb) (bk kb) (us kb)) ++ (kSB cA cZ c2 cT cL s.heap.size tc tf), p.1 < s.heap.size + 98 ∨ p ∈ lTO cA (tB ka) (bk ka) (us ka) ++ lTO cA (tB kb) (bk kb) (us kb) := fun p hp => (List.mem_append.mp hp).elim (fun h => Or.inr h) (fun h => Or.inl (by have := in_kSB p h; omega))
          refine zg_H (V := Unit) (F := zT2) (mc := 1) (ms := 6) (As := [.ref s.heap.size, .int (nI ka), .int (nI kb), .int (zb (bA (xs (i + 3)))), .ref (s.heap.size + 97)]) (rest := []) (n := 5) (wsC := (lTO cA (tB ka) (bk ka) (us ka) ++ lTO cA (tB kb) (bk kb) (us kb)) ++ (kSB cA cZ c2 cT cL s.heap.size tc tf)) (φ := fun _ => True) (wv := fun _ => (lTO cA (tB ka) (bk ka) (us ka) ++ lTO cA (tB kb) (bk kb) (us kb)) ++ (kSB cA cZ c2 cT cL s.heap.size tc tf)) (rv := .int (nI 2)) zT2_ok ⟨hx, hb, hml, hown, hts⟩ (met_u (h_slice_x2 l D htl _ (fun k => s.heap.size + k) (fun k => s.heap.size + 2 + k) (fun k => s.heap.size + 11 + k) (fun k => s.heap.size + 15 + k) (fun k => s.heap.size + 30 + 16 * k) (laI s.heap.size) cA cZ c2 cT tc tf (s.heap.size + 97) (tB ka) (tB ka + 1) (tB kb) (tB kb + 1) (bk ka) (bk kb) (us ka) (us kb) ka kb (bA (xs (i + 3))) h40 hka hkb (hT ka hka).2.2 (hT kb hkb).2.2 hu)) ⟨km_LA_92, kst_LA_slice, kn_LA, kw_LA_slice⟩ (by decide +kernel) (by decide) ⟨(by show cs + 1 ≤ 601024; omega), (by show sl + 6 ≤ 7293000; omega)⟩ (hK.sub [0, 1, 2, 3] rfl) ((hTs.1).app h_kSB) hn1 hS (la_A hS (fun p hp => by have := hi1 p hp; omega)) hF2 rfl hl.1 rfl (Nat.le_of_ble_eq_true rfl) d_LA_law_531 (fun _ H1 locs1 hph hP1 hz1 hf1 hS1 => ?_)
          have hq1 := va_P.right hP1
          have hr1 := va_P.left hP1
          have hq0 := hr1
          have h_kBL := hf1.far h_kBL in_kBL (fun p hp => by have := hi1 p hp; omega)
          have h_kNE := hf1.far h_kNE in_kNE (fun p hp => by have := hi1 p hp; omega)
          have h_kP := hf1.far h_kP in_kP (fun p hp => by have := hi1 p hp; omega)
          have h_kSE := hf1.far h_kSE in_kSE (fun p hp => by have := hi1 p hp; omega)
          have h_kQ := hf1.far h_kQ in_kQ (fun p hp => by have := hi1 p hp; omega)
          have h_kDR := hf1.far h_kDR in_kDR (fun p hp => by have := hi1 p hp; omega)
          have h_kPI := hf1.far h_kPI in_kPI (fun p hp => by have := hi1 p hp; omega)
          have h_kMO := hf1.far h_kMO in_kMO (fun p hp => by have := hi1 p hp; omega)
          have h_kOU := hf1.far h_kOU in_kOU (fun p hp => by have := hi1 p hp; omega)
          have h_kSB := hq1
          have hT := th_kept hT hO hf1 hw9 hTs hq0
          have hS := hS1
          clear hf1 hS1 hP1 hn0 hi0 hn1 hi1
          refine lv_istore (lv' := [(5, .int (nI 2)), (0, .ref b), (1, .ref s.heap.size), (2, .ref (s.heap.size + 69)), (3, .ref (s.heap.size + 97)), (4, .int (nI i))]) hx hb d_LA_law_534 hl (by decide) rfl (fun ls hl => ?_)
          refine lv_aload_n hx hb d_LA_law_536 rfl (lv_at hl 3 rfl) ?_
          refine lv_aload_n hx hb d_LA_law_537 rfl (lv_at hl 1 rfl) ?_
          refine lv_iload hx hb d_LA_law_538 (lv_at hl 5 rfl) ?_
          refine lv_iconst (v := nI 1) hx hb d_LA_law_540 (by decide) ?_
          refine z_add hx hb d_LA_law_541 ?_
          refine va_sld hx hb hX hbl hbA hS (vp_in_nI (n := (i + 1)) (by omega) (by omega)) d_LA_law_542 ?_
          refine lv_toi (z := (nI ka)) ((congrArg xs (nI_clamp (by omega))).trans hkea) ?_
          refine lv_aload_n hx hb d_LA_law_543 rfl (lv_at hl 1 rfl) ?_
          refine lv_iload hx hb d_LA_law_544 (lv_at hl 5 rfl) ?_
          refine lv_iconst (v := nI 2) hx hb d_LA_law_546 (by decide) ?_
          refine z_add hx hb d_LA_law_547 ?_
          refine va_sld hx hb hX hbl hbA hS (vp_in_nI (n := (i + 2)) (by omega) (by omega)) d_LA_law_548 ?_
          refine lv_toi (z := (nI kb)) ((congrArg xs (nI_clamp (by omega))).trans hkeb) ?_
          refine lv_aload_n hx hb d_LA_law_549 rfl (lv_at hl 1 rfl) ?_
          refine lv_iload hx hb d_LA_law_550 (lv_at hl 5 rfl) ?_
          refine lv_iconst (v := nI 3) hx hb d_LA_law_552 (by decide) ?_
          refine z_add hx hb d_LA_law_553 ?_
          refine va_sld hx hb hX hbl hbA hS (vp_in_nI (n := (i + 3)) (by omega) (by omega)) d_LA_law_554 ?_
          refine lv_toi (z := xs (i + 3)) (congrArg xs (nI_clamp (by omega))) ?_
          refine zb_arg hx hb d_LA_law_555 (by decide) d_LA_law_558 d_LA_law_559 (by decide) d_LA_law_562 ?_
          have hi0 : ∀ p ∈ kMO cA cZ c2 cT cL s.heap.size M z, (s.heap.size + 69 ≤ p.1 ∧ p.1 < s.heap.size + 97) := in_kMO
          have hn0 : va_D (fun _ => True) (kMO cA cZ c2 cT cL s.heap.size M z) := nd_kMO
          refine zg_V (V := Unit) (ci := 10) (q0 := 0) (As := [.int (nI ka), .int (nI kb), .int (zb (bA (xs (i + 3))))]) (rest := []) (n := 3) (wsC := kMO cA cZ c2 cT cL s.heap.size M z) (φ := fun _ => True) (wv := fun _ => kMO cA cZ c2 cT cL s.heap.size (mS 0 2 M) z) (rv := .int (nI 0)) ⟨hx, hb, hml, hown, hts⟩ (met_u (c_MO_slice_no2 l D _ (laM s.heap.size) cA cZ cL M z ka kb (bA (xs (i + 3))) hia hib (by omega) (by omega) (by omega) (by rw [← hua, ← hub, h9]; exact hu))) ⟨km_LA_95, ki_MO_slice, ks_MO_slice, kn_MO, kd_MO_slice⟩ (by decide +kernel) (by decide) ⟨(by show cs + 1 + 0 ≤ 601024; omega), (by show sl + 6 + 0 ≤ 7293000; omega)⟩ (hK.sub [0, 1, 4] rfl) (h_kMO) hn0 hS (la_A hS (fun p hp => by have := hi0 p hp; omega)) rfl rfl rfl hl.1 rfl (Nat.le_of_ble_eq_true rfl) d_LA_law_563 (fun _ H1 locs1 hph hP1 hz1 hf1 hS1 => ?_)
          have hq0 := hP1
          have h_kSB := hf1.far h_kSB in_kSB (fun p hp => by have := hi0 p hp; omega)
          have h_kBL := hf1.far h_kBL in_kBL (fun p hp => by have := hi0 p hp; omega)
          have h_kNE := hf1.far h_kNE in_kNE (fun p hp => by have := hi0 p hp; omega)
          have h_kP := hf1.far h_kP in_kP (fun p hp => by have := hi0 p hp; omega)
          have h_kSE := hf1.far h_kSE in_kSE (fun p hp => by have := hi0 p hp; omega)
          have h_kQ := hf1.far h_kQ in_kQ (fun p hp => by have := hi0 p hp; omega)
          have h_kDR := hf1.far h_kDR in_kDR (fun p hp => by have := hi0 p hp; omega)
          have h_kPI := hf1.far h_kPI in_kPI (fun p hp => by have := hi0 p hp; omega)
          have h_kOU := hf1.far h_kOU in_kOU (fun p hp => by have := hi0 p hp; omega)
          have h_kMO := hq0
          have hT := th_kept0 hT hO hf1 (fun p hp => by have := hi0 p hp; omega)
          have hS := hS1
          clear hf1 hS1 hP1 hn0 hi0
          refine lv_istore (lv' := [(6, .int (nI 0)), (5, .int (nI 2)), (0, .ref b), (1, .ref s.heap.size), (2, .ref (s.heap.size + 69)), (3, .ref (s.heap.size + 97)), (4, .int (nI i))]) hx hb d_LA_law_566 hl (by decide) rfl (fun ls hl => ?_)
          refine lv_aload_n hx hb d_LA_law_568 rfl (lv_at hl 4 rfl) ?_
          refine zrM_V (ci := 10) (q0 := 0) (As := []) (rest := []) (n := 0) (wsC := kMO cA cZ c2 cT cL s.heap.size (mS 0 2 M) z) ⟨hx, hb, hml, hown, hts⟩ (c_MO_thrown l D (laM s.heap.size) cA cZ cL (mS 0 2 M) z) ⟨km_LA_80, ki_MO_thrown, ks_MO_thrown, kn_MO, kd_MO_thrown⟩ (by decide +kernel) (by decide) ⟨(by show cs + 1 + 0 ≤ 601024; omega), (by show sl + 6 + 0 ≤ 7293000; omega)⟩ (hK.sub [0, 1, 4] rfl) h_kMO rfl rfl rfl hl.1 rfl (Nat.le_of_ble_eq_true rfl) d_LA_law_569 ?_
          refine lv_toi (z := nI 2) rfl ?_
          refine lv_iload hx hb d_LA_law_572 (lv_at hl 1 rfl) ?_
          refine z_ceq (tgt := 579) hx hb d_LA_law_574 (by decide) (by omega) (by omega) (fun _ => ?_) (fun h => absurd h (by omega))
          refine lv_iload hx hb d_LA_law_579 (lv_at hl 1 rfl) ?_
          refine z_0ne (tgt := 596) hx hb d_LA_law_581 (by decide) (by omega) (fun _ => ?_) (fun h => absurd h (by omega))
          refine lv_goto (tgt := 1221) hx hb d_LA_law_596 (by decide) ?_
          exact kk _ _ _ _ ls (by omega) (by omega) hS ⟨tc, tf, B, P, Qp, N, ah, kw, z, nn, sd, cf, lf, cn, (mS 0 2 M), fo, bk, us, u, cap, wt, tB, ⟨h_kSB, h_kBL, h_kNE, h_kP, h_kSE, h_kQ, h_kDR, h_kPI, h_kMO, h_kOU⟩, hT, hO, RelG_ag hG ⟨⟨rfl, rfl, rfl, rfl, rfl, rfl, rfl, rfl, rfl, rfl, rfl, rfl⟩, ⟨rfl, rfl, rfl, rfl⟩, rfl, rfl, rfl⟩, RelT_ag hR ⟨⟨rfl, rfl, rfl, rfl, rfl, rfl, rfl, rfl, rfl, rfl, rfl, rfl⟩, ⟨rfl, rfl, rfl, rfl⟩, rfl, rfl, rfl⟩, hq⟩ (lv_sub hl [2, 3, 4, 5, 6] rfl)
      · by_cases hab : ka = kb
        · have hua0 : us ka = false := bf9 (fun q => hu (Or.inl q))
          have ht40 : tc < 40 := by have h : tc ≠ 40 := fun q => hu (Or.inr (Or.inr q)); omega
          subst hab
          refine lv_aload_n hx hb d_LA_law_503 rfl (lv_at hl 1 rfl) ?_
          refine lv_aload_n hx hb d_LA_law_504 rfl (lv_at hl 0 rfl) ?_
          refine lv_iload hx hb d_LA_law_505 (lv_at hl 4 rfl) ?_
          refine lv_iconst (v := nI 1) hx hb d_LA_law_507 (by decide) ?_
          refine z_add hx hb d_LA_law_508 ?_
          refine va_sld hx hb hX hbl hbA hS (vp_in_nI (n := (i + 1)) (by omega) (by omega)) d_LA_law_509 ?_
          refine lv_toi (z := (nI ka)) ((congrArg xs (nI_clamp (by omega))).trans hkea) ?_
          refine lv_aload_n hx hb d_LA_law_510 rfl (lv_at hl 0 rfl) ?_
          refine lv_iload hx hb d_LA_law_511 (lv_at hl 4 rfl) ?_
          refine lv_iconst (v := nI 2) hx hb d_LA_law_513 (by decide) ?_
          refine z_add hx hb d_LA_law_514 ?_
          refine va_sld hx hb hX hbl hbA hS (vp_in_nI (n := (i + 2)) (by omega) (by omega)) d_LA_law_515 ?_
          refine lv_toi (z := (nI ka)) ((congrArg xs (nI_clamp (by omega))).trans hkeb) ?_
          refine lv_aload_n hx hb d_LA_law_516 rfl (lv_at hl 0 rfl) ?_
          refine lv_iload hx hb d_LA_law_517 (lv_at hl 4 rfl) ?_
          refine lv_iconst (v := nI 3) hx hb d_LA_law_519 (by decide) ?_
          refine z_add hx hb d_LA_law_520 ?_
          refine va_sld hx hb hX hbl hbA hS (vp_in_nI (n := (i + 3)) (by omega) (by omega)) d_LA_law_521 ?_
          refine lv_toi (z := xs (i + 3)) (congrArg xs (nI_clamp (by omega))) ?_
          refine zb_arg hx hb d_LA_law_522 (by decide) d_LA_law_525 d_LA_law_526 (by decide) d_LA_law_529 ?_
          refine lv_aload_n hx hb d_LA_law_530 rfl (lv_at hl 3 rfl) ?_
          have hTs : thS D cA bk us u cap tB tc (lTO cA (tB ka) (bk ka) (us ka)) H := thS_o hT hka rfl
          have hTi := thS_in (h0 := s.heap.size) hT hTs
          have hi0 : ∀ p ∈ lTO cA (tB ka) (bk ka) (us ka), (s.heap.size + 98 ≤ p.1) := hTi
          have hn0 : va_D (fun _ => True) (lTO cA (tB ka) (bk ka) (us ka)) := hTs.2.1
          have hn1 : va_D (fun _ => True) ((lTO cA (tB ka) (bk ka) (us ka)) ++ (kSB cA cZ c2 cT cL s.heap.size tc tf)) := nd_app hn0 nd_kSB (fun p hp q hq e9 => by have := hi0 p hp; have := in_kSB q hq; omega)
          have hi1 : ∀ p ∈ (lTO cA (tB ka) (bk ka) (us ka)) ++ (kSB cA cZ c2 cT cL s.heap.size tc tf), (s.heap.size + 98 ≤ p.1) ∨ (s.heap.size + 0 ≤ p.1 ∧ p.1 < s.heap.size + 2) := fun p hp => (List.mem_append.mp hp).elim (fun h => by have := hi0 p h; omega) (fun h => by have := in_kSB p h; omega)
          have hw9 : ∀ p ∈ (lTO cA (tB ka) (bk ka) (us ka)) ++ (kSB cA cZ c2 cT cL s.heap.size tc tf), p.1 < s.heap.size + 98 ∨ p ∈ lTO cA (tB ka) (bk ka) (us ka) := fun p hp => (List.mem_append.mp hp).elim (fun h => Or.inr h) (fun h => Or.inl (by have := in_kSB p h; omega))
          refine zg_H (V := Unit) (F := zT2) (mc := 1) (ms := 6) (As := [.ref s.heap.size, .int (nI ka), .int (nI ka), .int (zb (bA (xs (i + 3)))), .ref (s.heap.size + 97)]) (rest := []) (n := 5) (wsC := (lTO cA (tB ka) (bk ka) (us ka)) ++ (kSB cA cZ c2 cT cL s.heap.size tc tf)) (φ := fun _ => True) (wv := fun _ => (lTO cA (tB ka) (bk ka) (us ka)) ++ (kSB cA cZ c2 cT cL s.heap.size tc tf)) (rv := .int (nI 3)) zT2_ok ⟨hx, hb, hml, hown, hts⟩ (met_u (h_slice_x3 l D htl _ (fun k => s.heap.size + k) (fun k => s.heap.size + 2 + k) (fun k => s.heap.size + 11 + k) (fun k => s.heap.size + 15 + k) (fun k => s.heap.size + 30 + 16 * k) (laI s.heap.size) cA cZ c2 cT tc tf (s.heap.size + 97) (tB ka) (tB ka + 1) (bk ka) (us ka) ka (bA (xs (i + 3))) ht40 hka (hT ka hka).2.2 hua0)) ⟨km_LA_92, kst_LA_slice, kn_LA, kw_LA_slice⟩ (by decide +kernel) (by decide) ⟨(by show cs + 1 ≤ 601024; omega), (by show sl + 6 ≤ 7293000; omega)⟩ (hK.sub [0, 1, 2, 3] rfl) ((hTs.1).app h_kSB) hn1 hS (la_A hS (fun p hp => by have := hi1 p hp; omega)) hF2 rfl hl.1 rfl (Nat.le_of_ble_eq_true rfl) d_LA_law_531 (fun _ H1 locs1 hph hP1 hz1 hf1 hS1 => ?_)
          have hq1 := va_P.right hP1
          have hr1 := va_P.left hP1
          have hq0 := hr1
          have h_kBL := hf1.far h_kBL in_kBL (fun p hp => by have := hi1 p hp; omega)
          have h_kNE := hf1.far h_kNE in_kNE (fun p hp => by have := hi1 p hp; omega)
          have h_kP := hf1.far h_kP in_kP (fun p hp => by have := hi1 p hp; omega)
          have h_kSE := hf1.far h_kSE in_kSE (fun p hp => by have := hi1 p hp; omega)
          have h_kQ := hf1.far h_kQ in_kQ (fun p hp => by have := hi1 p hp; omega)
          have h_kDR := hf1.far h_kDR in_kDR (fun p hp => by have := hi1 p hp; omega)
          have h_kPI := hf1.far h_kPI in_kPI (fun p hp => by have := hi1 p hp; omega)
          have h_kMO := hf1.far h_kMO in_kMO (fun p hp => by have := hi1 p hp; omega)
          have h_kOU := hf1.far h_kOU in_kOU (fun p hp => by have := hi1 p hp; omega)
          have h_kSB := hq1
          have hT := th_kept hT hO hf1 hw9 hTs hq0
          have hS := hS1
          clear hf1 hS1 hP1 hn0 hi0 hn1 hi1
          refine lv_istore (lv' := [(5, .int (nI 3)), (0, .ref b), (1, .ref s.heap.size), (2, .ref (s.heap.size + 69)), (3, .ref (s.heap.size + 97)), (4, .int (nI i))]) hx hb d_LA_law_534 hl (by decide) rfl (fun ls hl => ?_)
          refine lv_aload_n hx hb d_LA_law_536 rfl (lv_at hl 3 rfl) ?_
          refine lv_aload_n hx hb d_LA_law_537 rfl (lv_at hl 1 rfl) ?_
          refine lv_iload hx hb d_LA_law_538 (lv_at hl 5 rfl) ?_
          refine lv_iconst (v := nI 1) hx hb d_LA_law_540 (by decide) ?_
          refine z_add hx hb d_LA_law_541 ?_
          refine va_sld hx hb hX hbl hbA hS (vp_in_nI (n := (i + 1)) (by omega) (by omega)) d_LA_law_542 ?_
          refine lv_toi (z := (nI ka)) ((congrArg xs (nI_clamp (by omega))).trans hkea) ?_
          refine lv_aload_n hx hb d_LA_law_543 rfl (lv_at hl 1 rfl) ?_
          refine lv_iload hx hb d_LA_law_544 (lv_at hl 5 rfl) ?_
          refine lv_iconst (v := nI 2) hx hb d_LA_law_546 (by decide) ?_
          refine z_add hx hb d_LA_law_547 ?_
          refine va_sld hx hb hX hbl hbA hS (vp_in_nI (n := (i + 2)) (by omega) (by omega)) d_LA_law_548 ?_
          refine lv_toi (z := (nI ka)) ((congrArg xs (nI_clamp (by omega))).trans hkeb) ?_
          refine lv_aload_n hx hb d_LA_law_549 rfl (lv_at hl 1 rfl) ?_
          refine lv_iload hx hb d_LA_law_550 (lv_at hl 5 rfl) ?_
          refine lv_iconst (v := nI 3) hx hb d_LA_law_552 (by decide) ?_
          refine z_add hx hb d_LA_law_553 ?_
          refine va_sld hx hb hX hbl hbA hS (vp_in_nI (n := (i + 3)) (by omega) (by omega)) d_LA_law_554 ?_
          refine lv_toi (z := xs (i + 3)) (congrArg xs (nI_clamp (by omega))) ?_
          refine zb_arg hx hb d_LA_law_555 (by decide) d_LA_law_558 d_LA_law_559 (by decide) d_LA_law_562 ?_
          have hi0 : ∀ p ∈ kMO cA cZ c2 cT cL s.heap.size M z, (s.heap.size + 69 ≤ p.1 ∧ p.1 < s.heap.size + 97) := in_kMO
          have hn0 : va_D (fun _ => True) (kMO cA cZ c2 cT cL s.heap.size M z) := nd_kMO
          refine zg_V (V := Unit) (ci := 10) (q0 := 0) (As := [.int (nI ka), .int (nI ka), .int (zb (bA (xs (i + 3))))]) (rest := []) (n := 3) (wsC := kMO cA cZ c2 cT cL s.heap.size M z) (φ := fun _ => True) (wv := fun _ => kMO cA cZ c2 cT cL s.heap.size (mS 0 3 M) z) (rv := .int (nI 0)) ⟨hx, hb, hml, hown, hts⟩ (met_u (c_MO_slice_no3 l D _ (laM s.heap.size) cA cZ cL M z ka ka (bA (xs (i + 3))) hia hib (by omega) (by omega) (by omega) (by rw [← hua, h9]; exact hu) rfl)) ⟨km_LA_95, ki_MO_slice, ks_MO_slice, kn_MO, kd_MO_slice⟩ (by decide +kernel) (by decide) ⟨(by show cs + 1 + 0 ≤ 601024; omega), (by show sl + 6 + 0 ≤ 7293000; omega)⟩ (hK.sub [0, 1, 4] rfl) (h_kMO) hn0 hS (la_A hS (fun p hp => by have := hi0 p hp; omega)) rfl rfl rfl hl.1 rfl (Nat.le_of_ble_eq_true rfl) d_LA_law_563 (fun _ H1 locs1 hph hP1 hz1 hf1 hS1 => ?_)
          have hq0 := hP1
          have h_kSB := hf1.far h_kSB in_kSB (fun p hp => by have := hi0 p hp; omega)
          have h_kBL := hf1.far h_kBL in_kBL (fun p hp => by have := hi0 p hp; omega)
          have h_kNE := hf1.far h_kNE in_kNE (fun p hp => by have := hi0 p hp; omega)
          have h_kP := hf1.far h_kP in_kP (fun p hp => by have := hi0 p hp; omega)
          have h_kSE := hf1.far h_kSE in_kSE (fun p hp => by have := hi0 p hp; omega)
          have h_kQ := hf1.far h_kQ in_kQ (fun p hp => by have := hi0 p hp; omega)
          have h_kDR := hf1.far h_kDR in_kDR (fun p hp => by have := hi0 p hp; omega)
          have h_kPI := hf1.far h_kPI in_kPI (fun p hp => by have := hi0 p hp; omega)
          have h_kOU := hf1.far h_kOU in_kOU (fun p hp => by have := hi0 p hp; omega)
          have h_kMO := hq0
          have hT := th_kept0 hT hO hf1 (fun p hp => by have := hi0 p hp; omega)
          have hS := hS1
          clear hf1 hS1 hP1 hn0 hi0
          refine lv_istore (lv' := [(6, .int (nI 0)), (5, .int (nI 3)), (0, .ref b), (1, .ref s.heap.size), (2, .ref (s.heap.size + 69)), (3, .ref (s.heap.size + 97)), (4, .int (nI i))]) hx hb d_LA_law_566 hl (by decide) rfl (fun ls hl => ?_)
          refine lv_aload_n hx hb d_LA_law_568 rfl (lv_at hl 4 rfl) ?_
          refine zrM_V (ci := 10) (q0 := 0) (As := []) (rest := []) (n := 0) (wsC := kMO cA cZ c2 cT cL s.heap.size (mS 0 3 M) z) ⟨hx, hb, hml, hown, hts⟩ (c_MO_thrown l D (laM s.heap.size) cA cZ cL (mS 0 3 M) z) ⟨km_LA_80, ki_MO_thrown, ks_MO_thrown, kn_MO, kd_MO_thrown⟩ (by decide +kernel) (by decide) ⟨(by show cs + 1 + 0 ≤ 601024; omega), (by show sl + 6 + 0 ≤ 7293000; omega)⟩ (hK.sub [0, 1, 4] rfl) h_kMO rfl rfl rfl hl.1 rfl (Nat.le_of_ble_eq_true rfl) d_LA_law_569 ?_
          refine lv_toi (z := nI 3) rfl ?_
          refine lv_iload hx hb d_LA_law_572 (lv_at hl 1 rfl) ?_
          refine z_ceq (tgt := 579) hx hb d_LA_law_574 (by decide) (by omega) (by omega) (fun _ => ?_) (fun h => absurd h (by omega))
          refine lv_iload hx hb d_LA_law_579 (lv_at hl 1 rfl) ?_
          refine z_0ne (tgt := 596) hx hb d_LA_law_581 (by decide) (by omega) (fun _ => ?_) (fun h => absurd h (by omega))
          refine lv_goto (tgt := 1221) hx hb d_LA_law_596 (by decide) ?_
          exact kk _ _ _ _ ls (by omega) (by omega) hS ⟨tc, tf, B, P, Qp, N, ah, kw, z, nn, sd, cf, lf, cn, (mS 0 3 M), fo, bk, us, u, cap, wt, tB, ⟨h_kSB, h_kBL, h_kNE, h_kP, h_kSE, h_kQ, h_kDR, h_kPI, h_kMO, h_kOU⟩, hT, hO, RelG_ag hG ⟨⟨rfl, rfl, rfl, rfl, rfl, rfl, rfl, rfl, rfl, rfl, rfl, rfl⟩, ⟨rfl, rfl, rfl, rfl⟩, rfl, rfl, rfl⟩, RelT_ag hR ⟨⟨rfl, rfl, rfl, rfl, rfl, rfl, rfl, rfl, rfl, rfl, rfl, rfl⟩, ⟨rfl, rfl, rfl, rfl⟩, rfl, rfl, rfl⟩, hq⟩ (lv_sub hl [2, 3, 4, 5, 6] rfl)
        · have hua0 : us ka = false := bf9 (fun q => hu (Or.inl q))
          have hub0 : us kb = false := bf9 (fun q => hu (Or.inr (Or.inl q)))
          have ht40 : tc < 40 := by have h : tc ≠ 40 := fun q => hu (Or.inr (Or.inr q)); omega
          have hsum := two_le hR h16 hka hkb hab hua0 hub0
          obtain ⟨ea, na, la, pa, ca, c6, ba, wa2, wa⟩ := hra
          obtain ⟨eb, nb, lb, pb, cb, d6, bb, wb2, wb⟩ := hrb
          have hdj := tB_ap hO hka hkb hab
          refine lv_aload_n hx hb d_LA_law_503 rfl (lv_at hl 1 rfl) ?_
          refine lv_aload_n hx hb d_LA_law_504 rfl (lv_at hl 0 rfl) ?_
          refine lv_iload hx hb d_LA_law_505 (lv_at hl 4 rfl) ?_
          refine lv_iconst (v := nI 1) hx hb d_LA_law_507 (by decide) ?_
          refine z_add hx hb d_LA_law_508 ?_
          refine va_sld hx hb hX hbl hbA hS (vp_in_nI (n := (i + 1)) (by omega) (by omega)) d_LA_law_509 ?_
          refine lv_toi (z := (nI ka)) ((congrArg xs (nI_clamp (by omega))).trans hkea) ?_
          refine lv_aload_n hx hb d_LA_law_510 rfl (lv_at hl 0 rfl) ?_
          refine lv_iload hx hb d_LA_law_511 (lv_at hl 4 rfl) ?_
          refine lv_iconst (v := nI 2) hx hb d_LA_law_513 (by decide) ?_
          refine z_add hx hb d_LA_law_514 ?_
          refine va_sld hx hb hX hbl hbA hS (vp_in_nI (n := (i + 2)) (by omega) (by omega)) d_LA_law_515 ?_
          refine lv_toi (z := (nI kb)) ((congrArg xs (nI_clamp (by omega))).trans hkeb) ?_
          refine lv_aload_n hx hb d_LA_law_516 rfl (lv_at hl 0 rfl) ?_
          refine lv_iload hx hb d_LA_law_517 (lv_at hl 4 rfl) ?_
          refine lv_iconst (v := nI 3) hx hb d_LA_law_519 (by decide) ?_
          refine z_add hx hb d_LA_law_520 ?_
          refine va_sld hx hb hX hbl hbA hS (vp_in_nI (n := (i + 3)) (by omega) (by omega)) d_LA_law_521 ?_
          refine lv_toi (z := xs (i + 3)) (congrArg xs (nI_clamp (by omega))) ?_
          refine zb_arg hx hb d_LA_law_522 (by decide) d_LA_law_525 d_LA_law_526 (by decide) d_LA_law_529 ?_
          refine lv_aload_n hx hb d_LA_law_530 rfl (lv_at hl 3 rfl) ?_
          have hz98 : s.heap.size + 98 ≤ H.size := by have h8 : s.heap.size + 97 < H.size := (h_kOU 0 _ rfl).lt; omega
          have hlt9 := th_lt hT
          have hTs : thS D cA bk us u cap tB tc (thW cA bk u cap tB ka kb false false) H := thS_two hT hO hka hkb hab hua0 hub0
          have hTi := thS_in (h0 := s.heap.size) hT hTs
          have hi0 : ∀ p ∈ thW cA bk u cap tB ka kb false false, (s.heap.size + 98 ≤ p.1) := hTi
          have hn0 : va_D (fun _ => True) (thW cA bk u cap tB ka kb false false) := hTs.2.1
          have hn1 : va_D (fun _ => True) ((thW cA bk u cap tB ka kb false false) ++ (kSB cA cZ c2 cT cL s.heap.size tc tf)) := nd_app hn0 nd_kSB (fun p hp q hq e9 => by have := hi0 p hp; have := in_kSB q hq; omega)
          have hi1 : ∀ p ∈ (thW cA bk u cap tB ka kb false false) ++ (kSB cA cZ c2 cT cL s.heap.size tc tf), (s.heap.size + 98 ≤ p.1) ∨ (s.heap.size + 0 ≤ p.1 ∧ p.1 < s.heap.size + 2) := fun p hp => (List.mem_append.mp hp).elim (fun h => by have := hi0 p h; omega) (fun h => by have := in_kSB p h; omega)
          have hn2 : va_D (fun _ => True) (((thW cA bk u cap tB ka kb false false) ++ (kSB cA cZ c2 cT cL s.heap.size tc tf)) ++ (kOU cA cZ c2 cT cL s.heap.size fo)) := nd_app hn1 nd_kOU (fun p hp q hq e9 => by have := hi1 p hp; have := in_kOU q hq; omega)
          have hi2 : ∀ p ∈ ((thW cA bk u cap tB ka kb false false) ++ (kSB cA cZ c2 cT cL s.heap.size tc tf)) ++ (kOU cA cZ c2 cT cL s.heap.size fo), (s.heap.size + 98 ≤ p.1) ∨ (s.heap.size + 0 ≤ p.1 ∧ p.1 < s.heap.size + 2) ∨ (s.heap.size + 97 ≤ p.1 ∧ p.1 < s.heap.size + 98) := fun p hp => (List.mem_append.mp hp).elim (fun h => by have := hi1 p h; omega) (fun h => by have := in_kOU p h; omega)
          have hw9 : ∀ p ∈ ((thW cA bk u cap tB ka kb false false) ++ (kSB cA cZ c2 cT cL s.heap.size tc tf)) ++ (kOU cA cZ c2 cT cL s.heap.size fo), p.1 < s.heap.size + 98 ∨ p ∈ thW cA bk u cap tB ka kb false false := fun p hp => (List.mem_append.mp hp).elim (fun h => (List.mem_append.mp h).elim (fun h => Or.inr h) (fun h => Or.inl (by have := in_kSB p h; omega))) (fun h => Or.inl (by have := in_kOU p h; omega))
          refine zg_H (V := Unit) (F := zF0) (mc := 4) (ms := 134) (As := [.ref s.heap.size, .int (nI ka), .int (nI kb), .int (zb (bA (xs (i + 3)))), .ref (s.heap.size + 97)]) (rest := []) (n := 5) (wsC := ((thW cA bk u cap tB ka kb false false) ++ (kSB cA cZ c2 cT cL s.heap.size tc tf)) ++ (kOU cA cZ c2 cT cL s.heap.size fo)) (φ := fun _ => True) (wv := fun _ => (((thW cA bk u cap tB ka kb true true) ++ (kSB cA cZ c2 cT cL s.heap.size (tc + 1) (va_up tf tc (some H.size)))) ++ (kOU cA cZ c2 cT cL s.heap.size (o1 fo (lN tc)))) ++ (lTO cA H.size (-1) false ++ lTL cA H.size ((u ka).2.2 + (u kb).2.2) (slI (bA (xs (i + 3))) ((u ka).2.2 + (u kb).2.2) (u ka).1 (u ka).2.1 (u kb).1 (u kb).2.1 (u kb).2.2 (u ka).2.2))) (rv := .int (nI 0)) zF0_ok ⟨hx, hb, hml, hown, hts⟩ (met_u (h_slice l D _ (fun k => s.heap.size + k) (fun k => s.heap.size + 2 + k) (fun k => s.heap.size + 11 + k) (fun k => s.heap.size + 15 + k) (fun k => s.heap.size + 30 + 16 * k) (laI s.heap.size) cA cZ c2 cT tc tf (tB ka) (tB kb) (bk ka) (bk kb) (tB ka + 1) (tB ka + 2) (tB ka + 3) (cap ka) (u ka).2.2 (tB kb + 1) (tB kb + 2) (tB kb + 3) (cap kb) (u kb).2.2 (u ka).1 (u ka).2.1 (u kb).1 (u kb).2.1 ka kb (bA (xs (i + 3))) (s.heap.size + 97) cL fo ht40 hka hkb (hT ka hka).2.2 (hT kb hkb).2.2 (by omega) (by omega) (by omega) (by omega) (by omega) (by omega) (fun k => by have := ba k; omega) (fun k => by have := bb k; omega))) ⟨km_LA_92, kst_LA_slice, kn_LA, kw_LA_slice⟩ (by decide +kernel) (by decide) ⟨(by show cs + 4 ≤ 601024; omega), (by show sl + 134 ≤ 7293000; omega)⟩ (hK.sub [0, 1, 2, 3, 4] rfl) (((hTs.1).app h_kSB).app h_kOU) hn2 hS (la_A hS (fun p hp => by have := hi2 p hp; omega)) trivial rfl hl.1 rfl (Nat.le_of_ble_eq_true rfl) d_LA_law_531 (fun _ H1 locs1 hph hP1 hz1 hf1 hS1 => ?_)
          have hqN := va_P.right hP1
          have hP9 := va_P.left hP1
          have hq2 := va_P.right hP9
          have hr2 := va_P.left hP9
          have hq1 := va_P.right hr2
          have hr1 := va_P.left hr2
          have hq0 := hr1
          have h_kBL := hf1.far h_kBL in_kBL (fun p hp => by have := hi2 p hp; omega)
          have h_kNE := hf1.far h_kNE in_kNE (fun p hp => by have := hi2 p hp; omega)
          have h_kP := hf1.far h_kP in_kP (fun p hp => by have := hi2 p hp; omega)
          have h_kSE := hf1.far h_kSE in_kSE (fun p hp => by have := hi2 p hp; omega)
          have h_kQ := hf1.far h_kQ in_kQ (fun p hp => by have := hi2 p hp; omega)
          have h_kDR := hf1.far h_kDR in_kDR (fun p hp => by have := hi2 p hp; omega)
          have h_kPI := hf1.far h_kPI in_kPI (fun p hp => by have := hi2 p hp; omega)
          have h_kMO := hf1.far h_kMO in_kMO (fun p hp => by have := hi2 p hp; omega)
          have h_kSB := hq1
          have h_kOU := hq2
          have hT := th_app (th_sl hT hO hf1 hka hkb hw9 hq0) hz98 hqN
          have hO := hO_app hO hlt9
          have hS := hS1
          clear hf1 hS1 hP1 hn0 hi0 hn1 hi1 hn2 hi2
          refine lv_istore (lv' := [(5, .int (nI 0)), (0, .ref b), (1, .ref s.heap.size), (2, .ref (s.heap.size + 69)), (3, .ref (s.heap.size + 97)), (4, .int (nI i))]) hx hb d_LA_law_534 hl (by decide) rfl (fun ls hl => ?_)
          refine lv_aload_n hx hb d_LA_law_536 rfl (lv_at hl 3 rfl) ?_
          refine lv_aload_n hx hb d_LA_law_537 rfl (lv_at hl 1 rfl) ?_
          refine lv_iload hx hb d_LA_law_538 (lv_at hl 5 rfl) ?_
          refine lv_iconst (v := nI 1) hx hb d_LA_law_540 (by decide) ?_
          refine z_add hx hb d_LA_law_541 ?_
          refine va_sld hx hb hX hbl hbA hS (vp_in_nI (n := (i + 1)) (by omega) (by omega)) d_LA_law_542 ?_
          refine lv_toi (z := (nI ka)) ((congrArg xs (nI_clamp (by omega))).trans hkea) ?_
          refine lv_aload_n hx hb d_LA_law_543 rfl (lv_at hl 1 rfl) ?_
          refine lv_iload hx hb d_LA_law_544 (lv_at hl 5 rfl) ?_
          refine lv_iconst (v := nI 2) hx hb d_LA_law_546 (by decide) ?_
          refine z_add hx hb d_LA_law_547 ?_
          refine va_sld hx hb hX hbl hbA hS (vp_in_nI (n := (i + 2)) (by omega) (by omega)) d_LA_law_548 ?_
          refine lv_toi (z := (nI kb)) ((congrArg xs (nI_clamp (by omega))).trans hkeb) ?_
          refine lv_aload_n hx hb d_LA_law_549 rfl (lv_at hl 1 rfl) ?_
          refine lv_iload hx hb d_LA_law_550 (lv_at hl 5 rfl) ?_
          refine lv_iconst (v := nI 3) hx hb d_LA_law_552 (by decide) ?_
          refine z_add hx hb d_LA_law_553 ?_
          refine va_sld hx hb hX hbl hbA hS (vp_in_nI (n := (i + 3)) (by omega) (by omega)) d_LA_law_554 ?_
          refine lv_toi (z := xs (i + 3)) (congrArg xs (nI_clamp (by omega))) ?_
          refine zb_arg hx hb d_LA_law_555 (by decide) d_LA_law_558 d_LA_law_559 (by decide) d_LA_law_562 ?_
          have hi0 : ∀ p ∈ kMO cA cZ c2 cT cL s.heap.size M z, (s.heap.size + 69 ≤ p.1 ∧ p.1 < s.heap.size + 97) := in_kMO
          have hn0 : va_D (fun _ => True) (kMO cA cZ c2 cT cL s.heap.size M z) := nd_kMO
          refine zg_V (V := V7) (ci := 10) (q0 := 0) (As := [.int (nI ka), .int (nI kb), .int (zb (bA (xs (i + 3))))]) (rest := []) (n := 3) (wsC := kMO cA cZ c2 cT cL s.heap.size M z) (φ := fun v7 => newSh (slS (bA (xs (i + 3))) (M.1 8 ka) (off (M.1 6) ka) (off (M.1 7) ka) (M.1 8 kb) (off (M.1 6) kb) (off (M.1 7) kb)) M v7) (wv := fun v7 => kMO cA cZ c2 cT cL s.heap.size (slM v7 ka kb (bA (xs (i + 3))) M) z) (rv := .int (nI (M.2.2.1 9))) ⟨hx, hb, hml, hown, hts⟩ (r_slice l D _ (laM s.heap.size) cA cZ cL M z ka kb (bA (xs (i + 3))) hia hib (by omega) (by omega) (by omega) (by rw [← hua, ← hub, h9]; exact hu) hab hR.2.2.2.2.2.2.1 (by omega) (fun k hk => by have := la k hk; have := ba k; omega) (fun k hk => by have := lb k hk; have := bb k; omega)) ⟨km_LA_95, ki_MO_slice, ks_MO_slice, kn_MO, kd_MO_slice⟩ (by decide +kernel) (by decide) ⟨(by show cs + 4 + 0 ≤ 601024; omega), (by show sl + 134 + 0 ≤ 7293000; omega)⟩ (hK.sub [0, 1, 4] rfl) (h_kMO) hn0 hS (la_A hS (fun p hp => by have := hi0 p hp; omega)) rfl rfl rfl hl.1 rfl (Nat.le_of_ble_eq_true rfl) d_LA_law_563 (fun v7 H1 locs1 hph hP1 hz1 hf1 hS1 => ?_)
          have hq0 := hP1
          have h_kSB := hf1.far h_kSB in_kSB (fun p hp => by have := hi0 p hp; omega)
          have h_kBL := hf1.far h_kBL in_kBL (fun p hp => by have := hi0 p hp; omega)
          have h_kNE := hf1.far h_kNE in_kNE (fun p hp => by have := hi0 p hp; omega)
          have h_kP := hf1.far h_kP in_kP (fun p hp => by have := hi0 p hp; omega)
          have h_kSE := hf1.far h_kSE in_kSE (fun p hp => by have := hi0 p hp; omega)
          have h_kQ := hf1.far h_kQ in_kQ (fun p hp => by have := hi0 p hp; omega)
          have h_kDR := hf1.far h_kDR in_kDR (fun p hp => by have := hi0 p hp; omega)
          have h_kPI := hf1.far h_kPI in_kPI (fun p hp => by have := hi0 p hp; omega)
          have h_kOU := hf1.far h_kOU in_kOU (fun p hp => by have := hi0 p hp; omega)
          have h_kMO := hq0
          have hT := th_kept0 hT hO hf1 (fun p hp => by have := hi0 p hp; omega)
          have hS := hS1
          clear hf1 hS1 hP1 hn0 hi0
          refine lv_istore (lv' := [(6, .int (nI (M.2.2.1 9))), (5, .int (nI 0)), (0, .ref b), (1, .ref s.heap.size), (2, .ref (s.heap.size + 69)), (3, .ref (s.heap.size + 97)), (4, .int (nI i))]) hx hb d_LA_law_566 hl (by decide) rfl (fun ls hl => ?_)
          refine lv_aload_n hx hb d_LA_law_568 rfl (lv_at hl 4 rfl) ?_
          refine zrM_V (ci := 10) (q0 := 0) (As := []) (rest := []) (n := 0) (wsC := kMO cA cZ c2 cT cL s.heap.size (slM v7 ka kb (bA (xs (i + 3))) M) z) ⟨hx, hb, hml, hown, hts⟩ (c_MO_thrown l D (laM s.heap.size) cA cZ cL (slM v7 ka kb (bA (xs (i + 3))) M) z) ⟨km_LA_80, ki_MO_thrown, ks_MO_thrown, kn_MO, kd_MO_thrown⟩ (by decide +kernel) (by decide) ⟨(by show cs + 4 + 0 ≤ 601024; omega), (by show sl + 134 + 0 ≤ 7293000; omega)⟩ (hK.sub [0, 1, 4] rfl) h_kMO rfl rfl rfl hl.1 rfl (Nat.le_of_ble_eq_true rfl) d_LA_law_569 ?_
          refine lv_toi (z := nI 0) rfl ?_
          refine lv_iload hx hb d_LA_law_572 (lv_at hl 1 rfl) ?_
          refine z_ceq (tgt := 579) hx hb d_LA_law_574 (by decide) (by omega) (by omega) (fun _ => ?_) (fun h => absurd h (by omega))
          refine lv_iload hx hb d_LA_law_579 (lv_at hl 1 rfl) ?_
          refine z_0ne (tgt := 596) hx hb d_LA_law_581 (by decide) (by omega) (fun h => absurd h (by omega)) (fun _ => ?_)
          refine lv_aload_n hx hb d_LA_law_584 rfl (lv_at hl 5 rfl) ?_
          refine lv_iconst (v := nI 0) hx hb d_LA_law_585 (by decide) ?_
          refine va_lald hx hb hK h_kOU 0 4 rfl rfl (vp_in_nI (n := 0) (by decide) (by decide)) d_LA_law_586 ?_
          refine lv_tol (z := lN tc) rfl ?_
          refine lv_iload hx hb d_LA_law_587 (lv_at hl 0 rfl) ?_
          refine lv_i2l (v := lN (M.2.2.1 9)) hx hb d_LA_law_589 (nI_l (by omega)) ?_
          refine y_leq (tgt := 596) hx hb d_LA_law_590 d_LA_law_591 (by decide) (fun _ => ?_) (fun c9 => absurd (congrArg lN h9.symm) c9)
          refine lv_goto (tgt := 1221) hx hb d_LA_law_596 (by decide) ?_
          exact kk _ _ _ _ ls (by omega) (by omega) hS ⟨(tc + 1), (va_up tf tc (some H.size)), B, P, Qp, N, ah, kw, z, nn, sd, cf, lf, cn, (slM v7 ka kb (bA (xs (i + 3))) M), (o1 fo (lN tc)), va_up bk tc (-1), va_up (va_up (va_up us ka true) kb true) tc false, va_up u tc (slI (bA (xs (i + 3))) ((u ka).2.2 + (u kb).2.2) (u ka).1 (u ka).2.1 (u kb).1 (u kb).2.1 (u kb).2.2 (u ka).2.2), va_up cap tc ((u ka).2.2 + (u kb).2.2), va_up wt tc (wt ka + wt kb), va_up tB tc H.size, ⟨h_kSB, h_kBL, h_kNE, h_kP, h_kSE, h_kQ, h_kDR, h_kPI, h_kMO, h_kOU⟩, hT, hO, RelG_sl hG, (RelT_slice hR h16 ht40 hka hkb hab hua0 hub0 hph).1, hq⟩ (lv_sub hl [2, 3, 4, 5, 6] rfl)
