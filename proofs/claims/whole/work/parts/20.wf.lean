/-! what the search keeps: the orders are orders, the places are bounded -/
theorem ex_inv {f g : Nat → Nat} {n i j : Nat} (hf : ∀ k, k < n → f k < n ∧ g (f k) = k) (hg : ∀ b, b < n → g b < n ∧ f (g b) = b) (hi : i < n) (hj : j < n) : (∀ k, k < n → exB f i j k < n ∧ exP f g i j (exB f i j k) = k) ∧ ∀ b, b < n → exP f g i j b < n ∧ exB f i j (exP f g i j b) = b := by
  have inj : ∀ a b, a < n → b < n → f a = f b → a = b := fun a b ha hb h => by rw [← (hf a ha).2, h, (hf b hb).2]
  refine ⟨fun k hk => ?_, fun b hb => ?_⟩
  · unfold exB exP va_up
    by_cases h1 : k = j
    · subst h1
      simp [(hf i hi).1]
    · by_cases h2 : k = i
      · subst h2
        have h3 : ¬ f j = f k := fun h => h1 (inj _ _ hk hj h.symm)
        simp [h1, h3, (hf j hj).1]
      · have h3 : ¬ f k = f i := fun h => h2 (inj _ _ hk hi h)
        have h4 : ¬ f k = f j := fun h => h1 (inj _ _ hk hj h)
        simp [h1, h2, h3, h4, hf k hk]
  · unfold exB exP va_up
    by_cases h1 : b = f i
    · subst h1
      simp [hj]
    · by_cases h2 : b = f j
      · subst h2
        have h3 : ¬ i = j := fun h => h1 (by rw [h])
        simp [h1, h3, hi]
      · have h3 : ¬ g b = j := fun h => h2 (by rw [← h, (hg b hb).2])
        have h4 : ¬ g b = i := fun h => h1 (by rw [← h, (hg b hb).2])
        simp [h1, h2, h3, h4, hg b hb]
/-- a plan's orders are orders of the first n -/
def wfQ (n : Nat) (Q : PS) : Prop := okQ Q ∧ ((∀ k, k < n → Q.1 0 k < n ∧ Q.1 1 (Q.1 0 k) = k) ∧ ∀ b, b < n → Q.1 1 b < n ∧ Q.1 0 (Q.1 1 b) = b) ∧ ((∀ k, k < n → Q.1 2 k < n ∧ Q.1 3 (Q.1 2 k) = k) ∧ ∀ b, b < n → Q.1 3 b < n ∧ Q.1 2 (Q.1 3 b) = b)
theorem wf_mv {n w i j : Nat} {B : BS} {Q : PS} (h : wfQ n Q) (hn : n ≤ 16) (hi : i < n) (hj : j < n) : wfQ n (mv w i j B Q) := by
  obtain ⟨h0, h1, h2⟩ := h
  refine ⟨okQ_mv h0 (by omega) (by omega), ?_⟩
  unfold mv
  split
  · exact ⟨ex_inv h1.1 h1.2 hi hj, h2⟩
  · split
    · exact ⟨ex_inv h1.1 h1.2 hi hj, ex_inv h2.1 h2.2 (h2.2 _ (h1.1 i hi).1).1 (h2.2 _ (h1.1 j hj).1).1⟩
    · exact ⟨h1, h2⟩
theorem wf_ly {n : Nat} {B : BS} {Q : PS} (h : wfQ n Q) : wfQ n (lyQ B Q) := h
theorem cp_at {f g : Nat → Nat} {k : Nat} (h : k < 16) : va_cpy f g 0 0 16 k = f k := by
  rw [pk_cpy_in (Nat.zero_le _) (by omega)]
  simp
theorem wf_cp {n : Nat} {P Q : PS} (h : wfQ n Q) (hn : n ≤ 16) : wfQ n (cpQ Q P) := by
  obtain ⟨h0, h1, h2⟩ := h
  have e : ∀ (i k : Nat), i < 8 → k < 16 → (cpQ Q P).1 i k = Q.1 i k := fun i k hi hk => by
    rcases (show i = 0 ∨ i = 1 ∨ i = 2 ∨ i = 3 ∨ i = 4 ∨ i = 5 ∨ i = 6 ∨ i = 7 by omega) with rfl | rfl | rfl | rfl | rfl | rfl | rfl | rfl <;> exact cp_at hk
  refine ⟨fun k hk => ?_, ⟨fun k hk => ?_, fun b hb => ?_⟩, ⟨fun k hk => ?_, fun b hb => ?_⟩⟩
  · rw [e 0 k (by omega) hk, e 1 k (by omega) hk, e 2 k (by omega) hk, e 3 k (by omega) hk]
    exact h0 k hk
  · have := (h1.1 k hk).1
    rw [e 0 k (by omega) (by omega), e 1 _ (by omega) (by omega)]
    exact h1.1 k hk
  · have := (h1.2 b hb).1
    rw [e 1 b (by omega) (by omega), e 0 _ (by omega) (by omega)]
    exact h1.2 b hb
  · have := (h2.1 k hk).1
    rw [e 2 k (by omega) (by omega), e 3 _ (by omega) (by omega)]
    exact h2.1 k hk
  · have := (h2.2 b hb).1
    rw [e 3 b (by omega) (by omega), e 2 _ (by omega) (by omega)]
    exact h2.2 b hb
theorem la_mx_le {E ba po : Nat → Nat} {wb : Bool} {q M : Nat} : ∀ n, (∀ k, k < n → E (ba k) ≤ M) → la_mx E ba po wb q n ≤ M
  | 0, _ => Nat.zero_le _
  | n + 1, h => by
    have ih := la_mx_le (E := E) (ba := ba) (po := po) (wb := wb) (q := q) n (fun k hk => h k (by omega))
    rw [la_mx]
    split
    · exact h n (by omega)
    · exact ih
theorem la_bd {ba po : Nat → Nat} {wb : Bool} {fixd : Nat → Bool} {T Z X E : Nat → Nat} {n : Nat} (hb : ∀ k, k < n → ba k < 16) (hT : ∀ k, k < 16 → T k ≤ 20000) (hZ : ∀ k, k < 16 → Z k ≤ 1000) :
    ∀ i, i ≤ n → (la_go ba po wb fixd T Z X E i).1 = true → (∀ k, k < i → (la_go ba po wb fixd T Z X E i).2.1 (ba k) ≤ 20000 + 1000 * i ∧ (la_go ba po wb fixd T Z X E i).2.2.1 (ba k) ≤ 20000 + 1000 * i) ∧ (la_go ba po wb fixd T Z X E i).2.2.2 ≤ 20000 + 1000 * i
  | 0, _, _ => ⟨fun k h => absurd h (Nat.not_lt_zero _), Nat.zero_le _⟩
  | i + 1, hi, hok => by
    have ih := la_bd (po := po) (wb := wb) (fixd := fixd) (X := X) (E := E) hb hT hZ i (by omega)
    rw [la_go] at hok ⊢
    generalize la_go ba po wb fixd T Z X E i = u at ih hok ⊢
    unfold la_one at hok ⊢
    by_cases h1 : u.1 = false
    · rw [if_pos h1] at hok
      rw [h1] at hok
      cases hok
    · rw [if_neg h1] at hok ⊢
      by_cases h2 : fixd (ba i) = true ∧ T (ba i) < la_mx u.2.2.1 ba po wb (po (ba i)) i
      · rw [if_pos h2] at hok
        cases hok
      · rw [if_neg h2]
        obtain ⟨g1, g2⟩ := ih (by simpa using h1)
        have hbi := hb i (by omega)
        have h3 := hT _ hbi
        have h4 := hZ _ hbi
        have h5 := la_mx_le (E := u.2.2.1) (ba := ba) (po := po) (wb := wb) (q := po (ba i)) i (fun k hk => (g1 k hk).2)
        have h6 : (if fixd (ba i) = true then T (ba i) else la_mx u.2.2.1 ba po wb (po (ba i)) i) ≤ 20000 + 1000 * i := by
          split
          · omega
          · exact h5
        generalize (if fixd (ba i) = true then T (ba i) else la_mx u.2.2.1 ba po wb (po (ba i)) i) = v at h6
        refine ⟨fun k hk => ?_, ?_⟩
        · by_cases hk2 : ba k = ba i
          · dsimp only
            rw [hk2, va_up_self, va_up_self]
            omega
          · have hki : k < i := by
              rcases Nat.lt_or_ge k i with z | z
              · exact z
              · exact absurd (by rw [show k = i by omega]) hk2
            dsimp only
            rw [va_up_ne _ _ hk2, va_up_ne _ _ hk2]
            have := g1 k hki
            omega
        · dsimp only
          omega
/-- the places of the first n are bounded -/
def bd2Q (n : Nat) (Q : PS) : Prop := Q.1 8 0 ≤ 36000 ∧ Q.1 8 1 ≤ 36000 ∧ ∀ b, b < n → Q.1 4 b ≤ 36000 ∧ Q.1 5 b ≤ 36000 ∧ Q.1 6 b ≤ 36000 ∧ Q.1 7 b ≤ 36000
theorem bd_ly {n : Nat} {B : BS} {Q : PS} (hB : okB B) (hn : B.2.2.2 = n) (h : wfQ n Q) (hok : (lyR B Q).1 = true) : bd2Q n (lyQ B Q) := by
  subst hn
  obtain ⟨h0, h1, h2⟩ := h
  obtain ⟨hn16, hB2⟩ := hB
  have hok' := hok
  unfold lyR lay at hok'
  simp only [Bool.and_eq_true] at hok'
  obtain ⟨ok1, ok2⟩ := hok'
  have q1 := la_bd (fun k hk => (h0 k (by omega)).1) (fun k hk => (hB2 k hk).2.2.1) (zt_le (tz := Q.2.1) (fun k hk => (hB2 k hk).1) (fun k hk => (hB2 k hk).2.1)) B.2.2.2 (Nat.le_refl _) ok1
  have q2 := la_bd (fun k hk => (h0 k (by omega)).2.2.1) (fun k hk => (hB2 k hk).2.2.2) (zt_le (tz := Q.2.1) (fun k hk => (hB2 k hk).2.1) (fun k hk => (hB2 k hk).1)) B.2.2.2 (Nat.le_refl _) ok2
  have e8 : (lyQ B Q).1 8 = va_up (va_up (Q.1 8) 0 (la_go (Q.1 0) (Q.1 3) true B.2.2.1 (B.1 2) (zt Q.2.1 (B.1 0) (B.1 1)) (Q.1 4) (Q.1 6) B.2.2.2).2.2.2) 1 (la_go (Q.1 2) (Q.1 1) false B.2.2.1 (B.1 3) (zt Q.2.1 (B.1 1) (B.1 0)) (Q.1 5) (Q.1 7) B.2.2.2).2.2.2 := by
    show (lyR B Q).2.2.2.2.2 = _
    unfold lyR lay
    dsimp only
    rw [if_pos ok1, if_pos ok2]
  have e5 : (lyQ B Q).1 5 = (la_go (Q.1 2) (Q.1 1) false B.2.2.1 (B.1 3) (zt Q.2.1 (B.1 1) (B.1 0)) (Q.1 5) (Q.1 7) B.2.2.2).2.1 := by
    show (lyR B Q).2.2.1 = _
    unfold lyR lay
    dsimp only
    rw [if_pos ok1]
  have e7 : (lyQ B Q).1 7 = (la_go (Q.1 2) (Q.1 1) false B.2.2.1 (B.1 3) (zt Q.2.1 (B.1 1) (B.1 0)) (Q.1 5) (Q.1 7) B.2.2.2).2.2.1 := by
    show (lyR B Q).2.2.2.2.1 = _
    unfold lyR lay
    dsimp only
    rw [if_pos ok1]
  refine ⟨?_, ?_, fun b hb => ?_⟩
  · rw [e8, va_up_ne _ _ (by decide), va_up_self]
    have := q1.2
    omega
  · rw [e8, va_up_self]
    have := q2.2
    omega
  · obtain ⟨a1, a2⟩ := h1.2 b hb
    obtain ⟨a3, a4⟩ := h2.2 b hb
    have r1 := q1.1 _ a1
    have r2 := q2.1 _ a3
    rw [a2] at r1
    rw [a4] at r2
    rw [e5, e7]
    refine ⟨?_, ?_, ?_, ?_⟩
    · show (la_go (Q.1 0) (Q.1 3) true B.2.2.1 (B.1 2) (zt Q.2.1 (B.1 0) (B.1 1)) (Q.1 4) (Q.1 6) B.2.2.2).2.1 b ≤ _
      omega
    · omega
    · show (la_go (Q.1 0) (Q.1 3) true B.2.2.1 (B.1 2) (zt Q.2.1 (B.1 0) (B.1 1)) (Q.1 4) (Q.1 6) B.2.2.2).2.2.1 b ≤ _
      omega
    · omega
theorem bd_cp {n : Nat} {P Q : PS} (h : bd2Q n Q) (hn : n ≤ 16) : bd2Q n (cpQ Q P) := by
  obtain ⟨h1, h2, h3⟩ := h
  refine ⟨?_, ?_, fun b hb => ?_⟩
  · show va_up (va_up (P.1 8) 0 (Q.1 8 0)) 1 (Q.1 8 1) 0 ≤ _
    rw [va_up_ne _ _ (by decide), va_up_self]
    exact h1
  · show va_up (va_up (P.1 8) 0 (Q.1 8 0)) 1 (Q.1 8 1) 1 ≤ _
    rw [va_up_self]
    exact h2
  · have e : ∀ (i : Nat), i < 8 → (cpQ Q P).1 i b = Q.1 i b := fun i hi => by
      rcases (show i = 0 ∨ i = 1 ∨ i = 2 ∨ i = 3 ∨ i = 4 ∨ i = 5 ∨ i = 6 ∨ i = 7 by omega) with rfl | rfl | rfl | rfl | rfl | rfl | rfl | rfl <;> exact cp_at (by omega)
    rw [e 4 (by omega), e 5 (by omega), e 6 (by omega), e 7 (by omega)]
    exact h3 b hb
/-- the nets' ends are blocks -/
def okN2 (n : Nat) (N : NS) : Prop := N.2 ≤ 40 ∧ ∀ k, k < N.2 → N.1 0 k < n ∧ N.1 1 k < n
theorem okN_of {n : Nat} {N : NS} (h : okN2 n N) (hn : n ≤ 16) : okN N := ⟨h.1, fun k hk => by have := h.2 k hk; omega⟩
theorem bdQ_of {n : Nat} {N : NS} {Q : PS} (hN : okN2 n N) (h : bd2Q n Q) : bdQ N Q := by
  refine ⟨by have := h.1; omega, by have := h.2.1; omega, fun k hk => ?_⟩
  obtain ⟨a1, a2⟩ := hN.2 k hk
  have b1 := h.2.2 _ a1
  have b2 := h.2.2 _ a2
  omega
def goodS (n : Nat) (u : SS) : Prop := wfQ n u.1 ∧ wfQ n u.2.1 ∧ bd2Q n u.1 ∧ u.2.2.1 ≤ 36000 * 36000 ∧ u.2.2.2 < 2 ^ 62
theorem ar_le {n : Nat} {Q : PS} (h : bd2Q n Q) : arQ Q ≤ 36000 * 36000 := Nat.mul_le_mul h.1 h.2.1
theorem good_keep {n : Nat} {N : NS} {u : SS} (hn : n ≤ 16) (hN : okN2 n N) (h : goodS n u) (hb : bd2Q n u.2.1) : goodS n (keepS N u) := by
  unfold keepS
  split
  · exact h
  · split
    · exact ⟨wf_cp h.2.1 hn, h.2.1, bd_cp hb hn, h.2.2.2.1, wr_lt (okN_of hN hn) (bdQ_of hN hb)⟩
    · exact h
theorem good_att {n w i j most : Nat} {B : BS} {N : NS} {u : SS} (hB : okB B) (hn : B.2.2.2 = n) (hN : okN2 n N) (hi : i < n) (hj : j < n) (h : goodS n u) : goodS n (attS B N w i j most u) := by
  have hn16 : n ≤ 16 := by have := hB.1; omega
  have w1 : wfQ n (mv w i j B u.2.1) := wf_mv h.2.1 hn16 hi hj
  unfold attS
  split
  · rename_i hc
    have b1 := bd_ly hB hn w1 hc.1
    exact good_keep hn16 hN ⟨h.1, wf_ly w1, h.2.2.1, ar_le b1, h.2.2.2.2⟩ b1
  · exact ⟨h.1, wf_mv (wf_ly w1) hn16 hi hj, h.2.2.1, h.2.2.2⟩
/-- t tries -/
def runS (B : BS) (N : NS) (first tries : Nat) (u : SS × Int64) : Nat → SS × Int64
  | 0 => u
  | t + 1 => (attS B N (bts (drw (runS B N first tries u t).2) % 3) (bts (drw (drw (runS B N first tries u t).2)) % B.2.2.2) (bts (drw (drw (drw (runS B N first tries u t).2))) % B.2.2.2) ((runS B N first tries u t).1.2.2.1 + first * (tries - 1 - t) / (4 * tries)) (runS B N first tries u t).1, drw (drw (drw (runS B N first tries u t).2)))
