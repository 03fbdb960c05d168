/-! the reference's copies and moves of plans -/
theorem cp1_eq {f : Nat → Nat} {i j : Nat} (hij : i ≠ j) : ∀ n, n ≤ 16 → (∀ k, k < n → cp1 f i j n (16 * j + k) = f (16 * i + k)) ∧ ∀ q, (∀ k, k < n → q ≠ 16 * j + k) → cp1 f i j n q = f q
  | 0, _ => ⟨fun k h => absurd h (Nat.not_lt_zero _), fun q _ => rfl⟩
  | n + 1, hn => by
    obtain ⟨h1, h2⟩ := cp1_eq (f := f) hij n (by omega)
    refine ⟨fun k hk => ?_, fun q hq => ?_⟩
    · rw [cp1]
      by_cases e : k = n
      · subst e
        rw [va_up_self]
        exact h2 _ (fun k2 hk2 => by omega)
      · rw [va_up_ne _ _ (by omega)]
        exact h1 k (by omega)
    · rw [cp1, va_up_ne _ _ (hq n (by omega))]
      exact h2 q (fun k hk => hq k (by omega))
theorem cp1b_eq {f : Nat → Bool} {i j : Nat} (hij : i ≠ j) : ∀ n, n ≤ 16 → (∀ k, k < n → cp1b f i j n (16 * j + k) = f (16 * i + k)) ∧ ∀ q, (∀ k, k < n → q ≠ 16 * j + k) → cp1b f i j n q = f q
  | 0, _ => ⟨fun k h => absurd h (Nat.not_lt_zero _), fun q _ => rfl⟩
  | n + 1, hn => by
    obtain ⟨h1, h2⟩ := cp1b_eq (f := f) hij n (by omega)
    refine ⟨fun k hk => ?_, fun q hq => ?_⟩
    · rw [cp1b]
      by_cases e : k = n
      · subst e
        rw [va_up_self]
        exact h2 _ (fun k2 hk2 => by omega)
      · rw [va_up_ne _ _ (by omega)]
        exact h1 k (by omega)
    · rw [cp1b, va_up_ne _ _ (hq n (by omega))]
      exact h2 q (fun k hk => hq k (by omega))
theorem rel_cp {n i j : Nat} {Q : PS} {M : MS} (hij : i ≠ j) (hn : n ≤ 16) (hM : M.2.2.1 17 = n) (h : RelP n Q M i) : RelP n Q (cpM i j M) j := by
  intro k hk
  have e1 : (cpM i j M).1 21 = cp1 (M.1 21) i j n := by rw [← hM]; rfl
  have e2 : (cpM i j M).1 22 = cp1 (M.1 22) i j n := by rw [← hM]; rfl
  have e3 : (cpM i j M).2.1 23 = cp1b (M.2.1 23) i j n := by rw [← hM]; rfl
  rw [e1, e2, e3, (cp1_eq hij n hn).1 k hk, (cp1_eq hij n hn).1 k hk, (cp1b_eq hij n hn).1 k hk]
  exact h k hk
theorem rel_cp0 {n i j r : Nat} {Q : PS} {M : MS} (hij : i ≠ j) (hr : r ≠ j) (hn : n ≤ 16) (hM : M.2.2.1 17 = n) (h : RelP n Q M r) : RelP n Q (cpM i j M) r := by
  intro k hk
  have e1 : (cpM i j M).1 21 = cp1 (M.1 21) i j n := by rw [← hM]; rfl
  have e2 : (cpM i j M).1 22 = cp1 (M.1 22) i j n := by rw [← hM]; rfl
  have e3 : (cpM i j M).2.1 23 = cp1b (M.2.1 23) i j n := by rw [← hM]; rfl
  rw [e1, e2, e3, (cp1_eq hij n hn).2 _ (fun k2 hk2 => by omega), (cp1_eq hij n hn).2 _ (fun k2 hk2 => by omega), (cp1b_eq hij n hn).2 _ (fun k2 hk2 => by omega)]
  exact h k hk
/-- the reference's move; pa, pb: places in the second order -/
def chM (w i j pa pb : Nat) (M : MS) : MS :=
  if w = 0 then mN 21 (exR ((cpM 1 2 M).1 21) i j) (cpM 1 2 M)
  else if w = 1 then mN 22 (exR ((cpM 1 2 M).1 22) pa pb) (mN 21 (exR ((cpM 1 2 M).1 21) i j) (cpM 1 2 M))
  else if M.2.1 13 ((cpM 1 2 M).1 21 (32 + i)) = true ∧ M.2.1 14 ((cpM 1 2 M).1 21 (32 + i)) = false then mB 23 (va_up ((cpM 1 2 M).2.1 23) (32 + (cpM 1 2 M).1 21 (32 + i)) (!(cpM 1 2 M).2.1 23 (32 + (cpM 1 2 M).1 21 (32 + i)))) (cpM 1 2 M)
  else cpM 1 2 M
theorem exR_at {f g : Nat → Nat} {n i j : Nat} (hi : i < n) (hj : j < n) (h : ∀ k, k < n → f (32 + k) = g k) : ∀ k, k < n → exR f i j (32 + k) = exB g i j k := by
  intro k hk
  unfold exR exB va_up
  by_cases e1 : k = j
  · rw [if_pos (by omega), if_pos e1]
    exact h i hi
  · rw [if_neg (by omega), if_neg e1]
    by_cases e2 : k = i
    · rw [if_pos (by omega), if_pos e2]
      exact h j hj
    · rw [if_neg (by omega), if_neg e2]
      exact h k hk
theorem exR_off {f : Nat → Nat} {i j q : Nat} (h : q < 32) : exR f i j q = f q := by
  unfold exR
  rw [va_up_ne _ _ (by omega), va_up_ne _ _ (by omega)]
theorem rel_ch {n w i j : Nat} {B : BS} {Q : PS} {M : MS} (hn : n ≤ 16) (hb : RelB n B M) (hw : wfQ n Q) (hi : i < n) (hj : j < n) (hw3 : w < 3) (h : RelP n Q M 1) : RelP n (mv w i j B Q) (chM w i j (Q.1 3 (Q.1 0 i)) (Q.1 3 (Q.1 0 j)) M) 2 := by
  have h2 := rel_cp (i := 1) (j := 2) (by decide) hn hb.2.1 h
  have hi0 := hw.2.1.1 i hi
  have hj0 := hw.2.1.1 j hj
  have ea : (cpM 1 2 M).1 21 (32 + i) = Q.1 0 i := (h2 i hi).1
  rcases (show w = 0 ∨ w = 1 ∨ w = 2 by omega) with rfl | rfl | rfl
  · intro k hk
    refine ⟨?_, (h2 k hk).2.1, (h2 k hk).2.2⟩
    exact exR_at hi hj (fun k hk => (h2 k hk).1) k hk
  · intro k hk
    refine ⟨?_, ?_, (h2 k hk).2.2⟩
    · exact exR_at hi hj (fun k hk => (h2 k hk).1) k hk
    · exact exR_at (hw.2.2.2 _ hi0.1).1 (hw.2.2.2 _ hj0.1).1 (fun k hk => (h2 k hk).2.1) k hk
  · intro k hk
    have e13 := (hb.2.2 _ hi0.1).2.2.1
    have e14 := (hb.2.2 _ hi0.1).2.2.2.1
    have hc : chM 2 i j (Q.1 3 (Q.1 0 i)) (Q.1 3 (Q.1 0 j)) M = if M.2.1 13 ((cpM 1 2 M).1 21 (32 + i)) = true ∧ M.2.1 14 ((cpM 1 2 M).1 21 (32 + i)) = false then mB 23 (va_up ((cpM 1 2 M).2.1 23) (32 + (cpM 1 2 M).1 21 (32 + i)) (!(cpM 1 2 M).2.1 23 (32 + (cpM 1 2 M).1 21 (32 + i)))) (cpM 1 2 M) else cpM 1 2 M := rfl
    have hm : mv 2 i j B Q = (Q.1, if B.2.1 (Q.1 0 i) = true ∧ B.2.2.1 (Q.1 0 i) = false then va_up Q.2.1 (Q.1 0 i) (!Q.2.1 (Q.1 0 i)) else Q.2.1, Q.2.2) := rfl
    rw [hc, hm, ea, e13, e14]
    by_cases hcd : B.2.1 (Q.1 0 i) = true ∧ B.2.2.1 (Q.1 0 i) = false
    · rw [if_pos hcd, if_pos hcd]
      refine ⟨(h2 k hk).1, (h2 k hk).2.1, ?_⟩
      show va_up ((cpM 1 2 M).2.1 23) (32 + Q.1 0 i) (!(cpM 1 2 M).2.1 23 (32 + Q.1 0 i)) (32 + k) = va_up Q.2.1 (Q.1 0 i) (!Q.2.1 (Q.1 0 i)) k
      have e23 := (h2 _ hi0.1).2.2
      unfold va_up
      by_cases e : k = Q.1 0 i
      · rw [if_pos (by omega), if_pos e, ← e23]
      · rw [if_neg (by omega), if_neg e]
        exact (h2 k hk).2.2
    · rw [if_neg hcd, if_neg hcd]
      exact h2 k hk
theorem rel_ch0 {n w i j pa pb r : Nat} {P : PS} {M : MS} (hn : n ≤ 16) (hM : M.2.2.1 17 = n) (hr : r < 2) (h : RelP n P M r) : RelP n P (chM w i j pa pb M) r := by
  have h2 := rel_cp0 (i := 1) (j := 2) (r := r) (by decide) (by omega) hn hM h
  intro k hk
  have hq : 16 * r + k < 32 := by omega
  unfold chM
  split
  · exact ⟨(exR_off hq).trans (h2 k hk).1, (h2 k hk).2⟩
  · split
    · exact ⟨(exR_off hq).trans (h2 k hk).1, (exR_off hq).trans (h2 k hk).2.1, (h2 k hk).2.2⟩
    · split
      · refine ⟨(h2 k hk).1, (h2 k hk).2.1, ?_⟩
        show va_up ((cpM 1 2 M).2.1 23) (32 + (cpM 1 2 M).1 21 (32 + i)) _ (16 * r + k) = _
        rw [va_up_ne _ _ (by omega)]
        exact (h2 k hk).2.2
      · exact h2 k hk
/-- the numbers of the nets -/
def RelN (n : Nat) (N : NS) (M : MS) : Prop := M.2.2.1 20 = N.2 ∧ ∀ k, k < N.2 → M.1 18 k = N.1 0 k ∧ M.1 19 k = N.1 1 k
theorem egX_le {M : MS} {q c : Nat} : ∀ k, egX M q k ≤ c ↔ ∀ v, v < k → M.1 24 v + wdM M q v ≤ c
  | 0 => ⟨fun _ v h => absurd h (Nat.not_lt_zero _), fun _ => Nat.zero_le _⟩
  | k + 1 => by
    rw [egX, Nat.max_le, egX_le k]
    constructor
    · rintro ⟨h1, h2⟩ v hv
      by_cases e : v = k
      · rw [e]; exact h2
      · exact h1 v (by omega)
    · intro h
      exact ⟨fun v hv => h v (by omega), h k (by omega)⟩
theorem egY_le {M : MS} {q c : Nat} : ∀ k, egY M q k ≤ c ↔ ∀ v, v < k → M.1 25 v + hgM M q v ≤ c
  | 0 => ⟨fun _ v h => absurd h (Nat.not_lt_zero _), fun _ => Nat.zero_le _⟩
  | k + 1 => by
    rw [egY, Nat.max_le, egY_le k]
    constructor
    · rintro ⟨h1, h2⟩ v hv
      by_cases e : v = k
      · rw [e]; exact h2
      · exact h1 v (by omega)
    · intro h
      exact ⟨fun v hv => h v (by omega), h k (by omega)⟩
/-- the reference's rows x, y hold the places of P -/
def atM (n : Nat) (P : PS) (M : MS) : Prop := ∀ v, v < n → M.1 24 v = P.1 4 v ∧ M.1 25 v = P.1 5 v
theorem eg_of {n q : Nat} {B : BS} {P : PS} {M : MS} (hb : RelB n B M) (hr : RelP n P M q) (hl : LdP n B P) (ha : atM n P M) : egX M q n = P.1 8 0 ∧ egY M q n = P.1 8 1 := by
  obtain ⟨-, -, l3, l4, l5, l6⟩ := hl
  have hx : ∀ v, v < n → M.1 24 v + wdM M q v = P.1 6 v ∧ M.1 25 v + hgM M q v = P.1 7 v := fun v hv => by
    rw [(ha v hv).1, (ha v hv).2, (wd_of hb hr hv).1, (wd_of hb hr hv).2]
    exact ⟨(l3 v hv).1.symm, (l3 v hv).2.symm⟩
  refine ⟨Nat.le_antisymm ((egX_le n).mpr fun v hv => by rw [(hx v hv).1]; exact (l4 v hv).1) ?_, Nat.le_antisymm ((egY_le n).mpr fun v hv => by rw [(hx v hv).2]; exact (l4 v hv).2) ?_⟩
  · rcases l5 with h | ⟨v, hv, h⟩
    · omega
    · rw [h, ← (hx v hv).1]
      exact (egX_le n).mp (Nat.le_refl _) v hv
  · rcases l6 with h | ⟨v, hv, h⟩
    · omega
    · rw [h, ← (hx v hv).2]
      exact (egY_le n).mp (Nat.le_refl _) v hv
theorem wi_of {n q : Nat} {B : BS} {N : NS} {P : PS} {M : MS} (hb : RelB n B M) (hN : okN2 n N) (hr : RelP n P M q) (hl : LdP n B P) (ha : atM n P M) (hn : RelN n N M) : ∀ k, k ≤ N.2 → wiM M q k = wsum (N.1 0) (N.1 1) (P.1 4) (P.1 5) (P.1 6) (P.1 7) k
  | 0, _ => rfl
  | k + 1, hk => by
    rw [wiM, wsum, wi_of hb hN hr hl ha hn k (by omega), (hn.2 k (by omega)).1, (hn.2 k (by omega)).2]
    obtain ⟨u1, u2⟩ := hN.2 k (by omega)
    have f : ∀ v, v < n → 2 * M.1 24 v + wdM M q v = P.1 4 v + P.1 6 v ∧ 2 * M.1 25 v + hgM M q v = P.1 5 v + P.1 7 v := fun v hv => by
      rw [(ha v hv).1, (ha v hv).2, (wd_of hb hr hv).1, (wd_of hb hr hv).2]
      have q9 : P.1 6 v = P.1 4 v + zt P.2.1 (B.1 0) (B.1 1) v ∧ P.1 7 v = P.1 5 v + zt P.2.1 (B.1 1) (B.1 0) v := hl.2.2.1 v hv
      omega
    rw [(f _ u1).1, (f _ u2).1, (f _ u1).2, (f _ u2).2]
    rfl
