/-! class and reference: blocks, plan, nets -/
/-- what stands behind the blocks that there are -/
def bey (n : Nat) (P : PS) : Prop := P.2.2.1 = n ∧ P.2.2.2 = n ∧ ∀ k, n ≤ k → P.2.1 k = false
theorem bey_mv {n w i j : Nat} {B : BS} {Q : PS} (hw : wfQ n Q) (hi : i < n) (h : bey n Q) : bey n (mv w i j B Q) := by
  obtain ⟨a, b, c⟩ := h
  unfold mv
  split
  · exact ⟨a, b, c⟩
  · split
    · exact ⟨a, b, c⟩
    · refine ⟨a, b, fun k hk => ?_⟩
      dsimp only
      split
      · have q := (hw.2.1.1 i hi).1
        rw [va_up_ne _ _ (by omega)]
        exact c k hk
      · exact c k hk
theorem bey_ly {n : Nat} {B : BS} {Q : PS} (h : bey n Q) : bey n (lyQ B Q) := h
theorem bey_cp {n : Nat} {P Q : PS} (h : bey n Q) (h2 : bey n P) : bey n (cpQ Q P) := ⟨h.1, h.2.1, fun k hk => by
  show cz Q.2.1 P.2.1 16 k = false
  unfold cz
  split
  · exact h.2.2 k hk
  · exact h2.2.2 k hk⟩
theorem bey_att {n w i j most : Nat} {B : BS} {N : NS} {u : SS} (hg : goodS n u) (hn16 : n ≤ 16) (hi : i < n) (hj : j < n) (h : bey n u.1 ∧ bey n u.2.1) : bey n (attS B N w i j most u).1 ∧ bey n (attS B N w i j most u).2.1 := by
  have w2 := hg.2.1
  have wm := wf_mv (w := w) (i := i) (j := j) (B := B) w2 hn16 hi hj
  have m1 := bey_mv (w := w) (i := i) (j := j) (B := B) w2 hi h.2
  unfold attS
  split
  · unfold keepS
    split
    · exact ⟨h.1, bey_ly m1⟩
    · split
      · exact ⟨bey_cp (bey_ly m1) h.1, bey_ly m1⟩
      · exact ⟨h.1, bey_ly m1⟩
  · exact ⟨h.1, bey_mv (wf_ly wm) hi (bey_ly m1)⟩
theorem bey_run {n first tries : Nat} {B : BS} {N : NS} {u : SS × Int64} (hB : okB B) (hn : B.2.2.2 = n) (h0 : 0 < n) (hN : okN2 n N) (hg : goodS n u.1) (hl : ldS n B N u.1) (h : bey n u.1.1 ∧ bey n u.1.2.1) : ∀ t, bey n (runS B N first tries u t).1.1 ∧ bey n (runS B N first tries u t).1.2.1
  | 0 => h
  | t + 1 => by
    have ih := bey_run hB hn h0 hN hg hl h (first := first) (tries := tries) t
    have g := (ld_run hB hn h0 hN hg hl (first := first) (tries := tries) t).1
    have hn16 : n ≤ 16 := by rw [← hn]; exact hB.1
    rw [runS]
    refine bey_att g hn16 ?_ ?_ ih
    · rw [hn]; exact Nat.mod_lt _ h0
    · rw [hn]; exact Nat.mod_lt _ h0
theorem dg_gO {M : MS} {b : Nat} : ∀ k, dgM M b k = (gO (M.1 18) (M.1 19) b k).2
  | 0 => rfl
  | k + 1 => by
    rw [dgM, dg_gO k, gO]
    split
    · rfl
    · rfl
def RelG (n : Nat) (B : BS) (N : NS) (P : PS) (M : MS) : Prop :=
  (okB B ∧ B.2.2.2 = n ∧ wfQ n P ∧ bd2Q n P ∧ LdP n B P ∧ bey n P) ∧ (∀ k, n ≤ k → B.2.2.1 k = false ∧ B.1 2 k = 0 ∧ B.1 3 k = 0 ∧ M.2.1 14 k = false ∧ M.1 15 k = 0 ∧ M.1 16 k = 0) ∧ (RelB n B M ∧ RelP n P M 0 ∧ ∀ q, M.1 21 q < 16 ∧ M.1 22 q < 16) ∧
  okN2 n N ∧ RelN n N M ∧ ∀ b, b < 16 → N.1 2 b = (gO (N.1 0) (N.1 1) b N.2).2 ∧ N.1 2 b ≤ 8
/-- the reference's rows that the relation speaks of -/
def agM (M M' : MS) : Prop := (M'.1 6 = M.1 6 ∧ M'.1 7 = M.1 7 ∧ M'.1 8 = M.1 8 ∧ M'.1 10 = M.1 10 ∧ M'.1 11 = M.1 11 ∧ M'.1 12 = M.1 12 ∧ M'.1 15 = M.1 15 ∧ M'.1 16 = M.1 16 ∧ M'.1 18 = M.1 18 ∧ M'.1 19 = M.1 19 ∧ M'.1 21 = M.1 21 ∧ M'.1 22 = M.1 22) ∧ (M'.2.1 5 = M.2.1 5 ∧ M'.2.1 13 = M.2.1 13 ∧ M'.2.1 14 = M.2.1 14 ∧ M'.2.1 23 = M.2.1 23) ∧ M'.2.2.1 9 = M.2.2.1 9 ∧ M'.2.2.1 17 = M.2.2.1 17 ∧ M'.2.2.1 20 = M.2.2.1 20
theorem RelG_ag {n : Nat} {B : BS} {N : NS} {P : PS} {M M' : MS} (h : RelG n B N P M) (e : agM M M') : RelG n B N P M' := by
  obtain ⟨⟨e6, e7, e8, e10, e11, e12, e15, e16, e18, e19, e21, e22⟩, ⟨d5, d13, d14, d23⟩, c9, c17, c20⟩ := e
  unfold RelG RelB RelP RelN at h ⊢
  rw [e11, e12, e15, e16, e18, e19, e21, e22, d13, d14, d23, c17, c20]
  exact h
theorem RelT_ag {n tc : Nat} {bk : Nat → Int32} {us : Nat → Bool} {u : Nat → FL} {cap wt : Nat → Nat} {M M' : MS} (h : RelT n tc bk us u cap wt M) (e : agM M M') : RelT n tc bk us u cap wt M' := by
  obtain ⟨⟨e6, e7, e8, e10, e11, e12, e15, e16, e18, e19, e21, e22⟩, ⟨d5, d13, d14, d23⟩, c9, c17, c20⟩ := e
  unfold RelT at h ⊢
  rw [e6, e7, e8, e10, d5, c9]
  exact h
/-- a net -/
theorem RelG_net {n aa bb : Nat} {B : BS} {N : NS} {P : PS} {M : MS} (h : RelG n B N P M) (hn : n ≤ 16) (ha : aa < n) (hb : bb < n) (hab : aa ≠ bb) (hN : N.2 < 40) (h1 : N.1 2 aa < 8) (h2 : N.1 2 bb < 8) : RelG n B (apN aa bb N) P (mN 18 (va_up (M.1 18) (M.2.2.1 20) aa) (mN 19 (va_up (M.1 19) (M.2.2.1 20) bb) (mS 20 (M.2.2.1 20 + 1) (mS 0 0 M)))) := by
  obtain ⟨g1, g2, g3, ⟨o1, o2⟩, ⟨r1, r2⟩, dg⟩ := h
  have a0 : (apN aa bb N).1 0 = va_up (N.1 0) N.2 aa := rfl
  have a1 : (apN aa bb N).1 1 = va_up (N.1 1) N.2 bb := rfl
  have a2 : (apN aa bb N).1 2 = va_up (va_up (N.1 2) aa (N.1 2 aa + 1)) bb (va_up (N.1 2) aa (N.1 2 aa + 1) bb + 1) := rfl
  have a3 : (apN aa bb N).2 = N.2 + 1 := rfl
  refine ⟨g1, g2, g3, ⟨by rw [a3]; omega, fun k hk => ?_⟩, ⟨?_, fun k hk => ?_⟩, fun b hb' => ?_⟩
  · rw [a3] at hk
    rw [a0, a1]
    by_cases e : k = N.2
    · subst e
      rw [va_up_self, va_up_self]
      exact ⟨ha, hb⟩
    · rw [va_up_ne _ _ e, va_up_ne _ _ e]
      exact o2 k (by omega)
  · show M.2.2.1 20 + 1 = N.2 + 1
    rw [r1]
  · rw [a3] at hk
    show va_up (M.1 18) (M.2.2.1 20) aa k = (apN aa bb N).1 0 k ∧ va_up (M.1 19) (M.2.2.1 20) bb k = (apN aa bb N).1 1 k
    rw [a0, a1, r1]
    by_cases e : k = N.2
    · subst e
      rw [va_up_self, va_up_self, va_up_self, va_up_self]
      exact ⟨rfl, rfl⟩
    · rw [va_up_ne _ _ e, va_up_ne _ _ e, va_up_ne _ _ e, va_up_ne _ _ e]
      exact r2 k (by omega)
  · obtain ⟨d1, d2⟩ := dg b hb'
    have gc : gO (va_up (N.1 0) N.2 aa) (va_up (N.1 1) N.2 bb) b N.2 = gO (N.1 0) (N.1 1) b N.2 := gO_congr N.2 (fun k hk => ⟨va_up_ne _ _ (by omega), va_up_ne _ _ (by omega)⟩)
    rw [a0, a1, a2, a3, gO, va_up_self, va_up_self, gc]
    by_cases eb : b = bb
    · subst eb
      rw [va_up_self, va_up_ne _ _ (fun z => hab z.symm), if_pos (Or.inr rfl)]
      exact ⟨by dsimp only; omega, by omega⟩
    · rw [va_up_ne _ _ eb]
      by_cases ea : b = aa
      · subst ea
        rw [va_up_self, if_pos (Or.inl rfl)]
        exact ⟨by dsimp only; omega, by omega⟩
      · rw [va_up_ne _ _ ea, if_neg (fun q => q.elim (fun z => ea z.symm) (fun z => eb z.symm))]
        exact ⟨d1, d2⟩
/-- pins: few nets at a block -/
theorem RelG_deg {n b : Nat} {B : BS} {N : NS} {P : PS} {M : MS} (h : RelG n B N P M) (hb : b < 16) : (gO (N.1 0) (N.1 1) b N.2).2 ≤ 8 ∧ (gO (M.1 18) (M.1 19) b (M.2.2.1 20)) = (gO (N.1 0) (N.1 1) b N.2) ∧ dgM M b (M.2.2.1 20) = N.1 2 b := by
  obtain ⟨-, -, -, -, ⟨r1, r2⟩, dg⟩ := h
  obtain ⟨d1, d2⟩ := dg b hb
  have e : gO (M.1 18) (M.1 19) b (M.2.2.1 20) = gO (N.1 0) (N.1 1) b N.2 := by
    rw [r1]
    exact gO_congr N.2 (fun k hk => r2 k hk)
  exact ⟨by omega, e, by rw [dg_gO, e]; exact d1.symm⟩
theorem cw_C {C C' : Nat → Nat → Nat} {lc : Nat → Nat} {k fl s : Nat} (h : C k s = C' k s) : cw C lc k fl s = cw C' lc k fl s := by
  unfold cw
  rw [h]
theorem mnW_C {C C' : Nat → Nat → Nat} {lc : Nat → Nat} {k fl : Nat} (h : ∀ s, C k s = C' k s) : ∀ t, mnW C lc k fl t = mnW C' lc k fl t
  | 0 => rfl
  | t + 1 => by rw [mnW, mnW, mnW_C h t, cw_C (h t)]
theorem lcf_C {C C' : Nat → Nat → Nat} {n : Nat} (h : ∀ k s, k < n → C k s = C' k s) : ∀ j, j ≤ n → lcf C n j = lcf C' n j
  | 0, _ => rfl
  | j + 1, hj => by
    funext fl
    show mnW C (lcf C n j) (n - (j + 1)) fl 4 = mnW C' (lcf C' n j) (n - (j + 1)) fl 4
    rw [lcf_C h j (by omega), mnW_C (fun s => h _ s (by omega))]
theorem pick_C {C C' : Nat → Nat → Nat} {n k fl : Nat} (h : ∀ k s, k < n → C k s = C' k s) (hk : k < n) : pick C n k fl = pick C' n k fl := by
  unfold pick
  rw [lcf_C h (n - (k + 1)) (by omega), lcf_C h (n - k) (by omega), cw_C (h k 0 hk), cw_C (h k 1 hk), cw_C (h k 2 hk)]
theorem chs_congr {C C' : Nat → Nat → Nat} {n : Nat} {σ0 : Nat → Nat} (h : ∀ k s, k < n → C k s = C' k s) : ∀ k, k ≤ n → chs C n σ0 k = chs C' n σ0 k
  | 0, _ => rfl
  | k + 1, hk => by rw [chs, chs, chs_congr h k (by omega), pick_C h (by omega)]
/-- what the pins of both sides answer -/
theorem pin_eq {n b sd kk : Nat} {B : BS} {N : NS} {P : PS} {M : MS} (h : RelG n B N P M) (hb : b < 16) : pinV P (M.1 18) (M.1 19) (M.2.2.1 20) b sd kk = pinV P (N.1 0) (N.1 1) N.2 b sd kk := by
  have e := (RelG_deg h hb).2.1
  obtain ⟨-, -, -, -, ⟨r1, r2⟩, -⟩ := h
  unfold pinV
  rw [e]
  have hc : ∀ k s, k < (gO (N.1 0) (N.1 1) b N.2).2 → pinC P (M.1 18) (M.1 19) (M.2.2.1 20) b k s = pinC P (N.1 0) (N.1 1) N.2 b k s := fun k s hk => by
    unfold pinC
    rw [e]
    have := gO_at N.2 hk
    unfold oEnd
    rw [(r2 _ this).1, (r2 _ this).2]
  rw [chs_congr hc _ (Nat.le_refl _)]
