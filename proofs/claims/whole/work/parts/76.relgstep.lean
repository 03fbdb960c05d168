/-! a block, a fix, a search: both sides stay alike -/
theorem bey_cp2 {n : Nat} {P Q : PS} (hn : n ≤ 16) (h : bey n Q) (h2 : ∀ k, 16 ≤ k → P.2.1 k = false) : bey n (cpQ Q P) := ⟨h.1, h.2.1, fun k hk => by
  show cz Q.2.1 P.2.1 16 k = false
  unfold cz
  split
  · exact h.2.2 k hk
  · exact h2 k (by omega)⟩
theorem RelG_block {n x y : Nat} {t : Bool} {B : BS} {N : NS} {P : PS} {M : MS} {v : V7} (h : RelG n B N P M) (h16 : n < 16) (hx : x ≤ 1000) (hy : y ≤ 1000) : RelG (n + 1) (apB x y t B) N (lyQ (apB x y t B) (apQ n P)) (bkM v x y t M) := by
  obtain ⟨⟨a1, a2, a3, a4, a5, a6⟩, b1, ⟨c1, c2, c3⟩, ⟨o1, o2⟩, r1, dg⟩ := h
  have hB' : okB (apB x y t B) := okB_ap a1 (by omega) hx hy
  have hn' : (apB x y t B).2.2.2 = n + 1 := by show B.2.2.2 + 1 = n + 1; omega
  have hw' := ap_wf h16 a3 a6.1 a6.2.1
  have hok : (lyR (apB x y t B) (apQ n P)).1 = true := ap_ok a2 h16 (b1 n (Nat.le_refl _)).1 a3 a6.1 a6.2.1 a5
  have m17 : M.2.2.1 17 = n := c1.2.1
  refine ⟨⟨hB', hn', wf_ly hw', bd_ly hB' hn' hw' hok, LdP_ly hn' hw' hok, ?_⟩, fun k hk => b1 k (by omega), ⟨⟨hn', ?_, fun k hk => ?_⟩, fun k hk => ?_, fun q => ?_⟩, ⟨o1, fun k hk => ?_⟩, r1, dg⟩
  · refine ⟨?_, ?_, fun k hk => a6.2.2 k (by omega)⟩
    · show P.2.2.1 + 1 = n + 1
      rw [a6.1]
    · show P.2.2.2 + 1 = n + 1
      rw [a6.2.1]
  · show M.2.2.1 17 + 1 = n + 1
    rw [m17]
  · show va_up (M.1 11) (M.2.2.1 17) x k = va_up (B.1 0) B.2.2.2 x k ∧ va_up (M.1 12) (M.2.2.1 17) y k = va_up (B.1 1) B.2.2.2 y k ∧ va_up (M.2.1 13) (M.2.2.1 17) t k = va_up B.2.1 B.2.2.2 t k ∧ M.2.1 14 k = B.2.2.1 k ∧ M.1 15 k = B.1 2 k ∧ M.1 16 k = B.1 3 k
    rw [m17, a2]
    by_cases e : k = n
    · subst e
      obtain ⟨p1, p2, p3, p4, p5, p6⟩ := b1 k (Nat.le_refl _)
      rw [va_up_self, va_up_self, va_up_self, va_up_self, va_up_self, va_up_self, p1, p2, p3, p4, p5, p6]
      exact ⟨rfl, rfl, rfl, rfl, rfl, rfl⟩
    · rw [va_up_ne _ _ e, va_up_ne _ _ e, va_up_ne _ _ e, va_up_ne _ _ e, va_up_ne _ _ e, va_up_ne _ _ e]
      exact c1.2.2 k (by omega)
  · show va_up (M.1 21) (M.2.2.1 17) (M.2.2.1 17) (16 * 0 + k) = va_up (P.1 0) P.2.2.1 n k ∧ va_up (M.1 22) (M.2.2.1 17) (M.2.2.1 17) (16 * 0 + k) = va_up (P.1 2) P.2.2.2 n k ∧ va_up (M.2.1 23) (M.2.2.1 17) false (16 * 0 + k) = P.2.1 k
    rw [m17, a6.1, a6.2.1, show 16 * 0 + k = k by omega]
    by_cases e : k = n
    · subst e
      rw [va_up_self, va_up_self, va_up_self, va_up_self, va_up_self]
      exact ⟨rfl, rfl, (a6.2.2 k (Nat.le_refl _)).symm⟩
    · rw [va_up_ne _ _ e, va_up_ne _ _ e, va_up_ne _ _ e, va_up_ne _ _ e, va_up_ne _ _ e]
      have q := c2 k (by omega)
      rw [show 16 * 0 + k = k by omega] at q
      exact q
  · show va_up (M.1 21) (M.2.2.1 17) (M.2.2.1 17) q < 16 ∧ va_up (M.1 22) (M.2.2.1 17) (M.2.2.1 17) q < 16
    rw [m17]
    have := c3 q
    exact ⟨up_lt this.1 h16, up_lt this.2 h16⟩
  · have := o2 k hk
    omega
theorem RelG_fixy {n bb fx fy : Nat} {B : BS} {N : NS} {P : PS} {M : MS} {v2 : V5} (h : RelG n B N P M) (hbb : bb < n) (hfx : fx ≤ 20000) (hfy : fy ≤ 20000) (hok : (lyR (flB bb fx fy B) P).1 = true) (e1 : v2.1 = M.1 21) (e2 : v2.2.1 = M.1 22) (e3 : v2.2.2.1 = M.2.1 23) : RelG n (flB bb fx fy B) N (lyQ (flB bb fx fy B) P) (mq (flM bb fx fy (mS 0 0 M)) v2) := by
  obtain ⟨⟨a1, a2, a3, a4, a5, a6⟩, b1, ⟨c1, c2, c3⟩, o1, r1, dg⟩ := h
  have hB' := okB_fl (k := bb) a1 hfx hfy
  refine ⟨⟨hB', a2, wf_ly a3, bd_ly hB' a2 a3 hok, LdP_ly a2 a3 hok, a6⟩, fun k hk => ?_, ⟨rel_fl (M := mS 0 0 M) c1, fun k hk => ?_, fun q => ?_⟩, o1, r1, dg⟩
  · obtain ⟨p1, p2, p3, p4, p5, p6⟩ := b1 k hk
    show va_up B.2.2.1 bb true k = false ∧ va_up (B.1 2) bb fx k = 0 ∧ va_up (B.1 3) bb fy k = 0 ∧ va_up (M.2.1 14) bb true k = false ∧ va_up (M.1 15) bb fx k = 0 ∧ va_up (M.1 16) bb fy k = 0
    have e : k ≠ bb := by omega
    rw [va_up_ne _ _ e, va_up_ne _ _ e, va_up_ne _ _ e, va_up_ne _ _ e, va_up_ne _ _ e, va_up_ne _ _ e]
    exact ⟨p1, p2, p3, p4, p5, p6⟩
  · show v2.1 (16 * 0 + k) = P.1 0 k ∧ v2.2.1 (16 * 0 + k) = P.1 2 k ∧ v2.2.2.1 (16 * 0 + k) = P.2.1 k
    rw [e1, e2, e3]
    exact c2 k hk
  · show v2.1 q < 16 ∧ v2.2.1 q < 16
    rw [e1, e2]
    exact c3 q
theorem RelG_fixn {n bb fx fy : Nat} {B : BS} {N : NS} {P : PS} {M : MS} {v2 : V5} (h : RelG n B N P M) (e1 : v2.1 = M.1 21) (e2 : v2.2.1 = M.1 22) (e3 : v2.2.2.1 = M.2.1 23) : RelG n B N (lyQ B (lyQ (flB bb fx fy B) P)) (mq (mS 0 0 M) v2) := by
  obtain ⟨⟨a1, a2, a3, a4, a5, a6⟩, b1, ⟨c1, c2, c3⟩, o1, r1, dg⟩ := h
  have hok := fix_back (k := bb) (x := fx) (y := fy) a2 a3 a5
  have hw : wfQ n (lyQ (flB bb fx fy B) P) := wf_ly a3
  refine ⟨⟨a1, a2, wf_ly hw, bd_ly a1 a2 hw hok, LdP_ly a2 hw hok, a6⟩, b1, ⟨c1, fun k hk => ?_, fun q => ?_⟩, o1, r1, dg⟩
  · show v2.1 (16 * 0 + k) = P.1 0 k ∧ v2.2.1 (16 * 0 + k) = P.1 2 k ∧ v2.2.2.1 (16 * 0 + k) = P.2.1 k
    rw [e1, e2, e3]
    exact c2 k hk
  · show v2.1 q < 16 ∧ v2.2.1 q < 16
    rw [e1, e2]
    exact c3 q
theorem RelG_pair {n tries : Nat} {B : BS} {N : NS} {P Q : PS} {M : MS} {v2 : V5} {z : Int64} (h : RelG n B N P M) (h0 : 0 < n) (hq : ∀ k, 16 ≤ k → Q.2.1 k = false) (hr : RelP n (runS B N (arQ P) tries ((P, cpQ P Q, arQ P, wrQ N P), z) tries).1.1 (mq (mS 0 0 M) v2) 0) (hb : ∀ q, v2.1 q < 16 ∧ v2.2.1 q < 16) :
    RelG n B N (runS B N (arQ P) tries ((P, cpQ P Q, arQ P, wrQ N P), z) tries).1.1 (mq (mS 0 0 M) v2) ∧ ∀ k, 16 ≤ k → (runS B N (arQ P) tries ((P, cpQ P Q, arQ P, wrQ N P), z) tries).1.2.1.2.1 k = false := by
  obtain ⟨⟨a1, a2, a3, a4, a5, a6⟩, b1, ⟨c1, c2, c3⟩, o1, r1, dg⟩ := h
  have hn16 : n ≤ 16 := by rw [← a2]; exact a1.1
  have hg : goodS n (P, cpQ P Q, arQ P, wrQ N P) := ⟨a3, wf_cp a3 hn16, a4, ar_le a4, wr_lt (okN_of o1 hn16) (bdQ_of o1 a4)⟩
  have hl : ldS n B N (P, cpQ P Q, arQ P, wrQ N P) := ⟨a5, rfl⟩
  have hr1 := ld_run (u := ((P, cpQ P Q, arQ P, wrQ N P), z)) (first := arQ P) (tries := tries) a1 a2 h0 o1 hg hl tries
  have hb1 := bey_run (u := ((P, cpQ P Q, arQ P, wrQ N P), z)) (first := arQ P) (tries := tries) a1 a2 h0 o1 hg hl ⟨a6, bey_cp2 hn16 a6 hq⟩ tries
  exact ⟨⟨⟨a1, a2, hr1.1.1, hr1.1.2.2.1, hr1.2.1, hb1.1⟩, b1, ⟨c1, hr, hb⟩, o1, r1, dg⟩, fun k hk => hb1.2.2.2 k (by omega)⟩
/-- at the start -/
def B0 : BS := (fun _ _ => 0, fun _ => false, fun _ => false, 0)
def P0 : PS := (fun _ _ => 0, fun _ => false, 0, 0)
def N0 : NS := (fun _ _ => 0, 0)
def M0 : MS := (fun _ _ => 0, fun _ _ => false, fun _ => 0, fun _ => 0)
theorem RelG_0 : RelG 0 B0 N0 P0 M0 := by
  have no : ∀ {p : Prop} (k : Nat), k < 0 → p := fun k h => absurd h (Nat.not_lt_zero _)
  refine ⟨⟨⟨by decide, fun k hk => ⟨Nat.zero_le _, Nat.zero_le _, Nat.zero_le _, Nat.zero_le _⟩⟩, rfl, ⟨fun k hk => ⟨by show 0 < 16; decide, by show 0 < 16; decide, by show 0 < 16; decide, by show 0 < 16; decide⟩, ⟨fun k hk => no k hk, fun k hk => no k hk⟩, fun k hk => no k hk, fun k hk => no k hk⟩, ⟨Nat.zero_le _, Nat.zero_le _, fun k hk => no k hk⟩, ⟨⟨fun k hk => no k hk, fun k _ hk => no k hk, fun k hk => no k hk⟩, fun k _ hk => no k hk, fun k hk => no k hk, fun k hk => no k hk, Or.inl rfl, Or.inl rfl⟩, rfl, rfl, fun _ _ => rfl⟩, fun k hk => ⟨rfl, rfl, rfl, rfl, rfl, rfl⟩, ⟨⟨rfl, rfl, fun k hk => no k hk⟩, fun k hk => no k hk, fun q => ⟨by show 0 < 16; decide, by show 0 < 16; decide⟩⟩, ⟨Nat.zero_le _, fun k hk => no k hk⟩, ⟨rfl, fun k hk => no k hk⟩, fun b hb => ⟨rfl, Nat.zero_le _⟩⟩
theorem RelT_0 {bk : Nat → Int32} {us : Nat → Bool} {u : Nat → FL} {cap wt : Nat → Nat} : RelT 0 0 bk us u cap wt M0 := by
  have no : ∀ {p : Prop} (k : Nat), k < 0 → p := fun k h => absurd h (Nat.not_lt_zero _)
  exact ⟨rfl, by decide, fun k hk => no k hk, fun k hk => no k hk, fun k hk => no k hk, Nat.zero_le _, fun q => by show 0 < 2 ^ 62; decide, fun k _ => rfl⟩
