/-! class and reference: the things -/
theorem bfind_some {f : Nat → Nat} {t : Int32} {b : Nat} : ∀ n, bfind f t n = some b → b < n ∧ nI (f b) = t
  | 0, h => by cases h
  | n + 1, h => by
    rw [bfind] at h
    cases hq : bfind f t n with
    | some j =>
      rw [hq] at h
      cases h
      obtain ⟨a, c⟩ := bfind_some n hq
      exact ⟨by omega, c⟩
    | none =>
      rw [hq] at h
      dsimp only at h
      split at h
      · cases h
        rename_i e
        exact ⟨by omega, e⟩
      · cases h
theorem bfind_none {f : Nat → Nat} {t : Int32} : ∀ n, bfind f t n = none → ∀ b, b < n → nI (f b) ≠ t
  | 0, _, b, h => absurd h (Nat.not_lt_zero _)
  | n + 1, h, b, hb => by
    rw [bfind] at h
    cases hq : bfind f t n with
    | some j => rw [hq] at h; cases h
    | none =>
      rw [hq] at h
      dsimp only at h
      split at h
      · cases h
      · rename_i e
        by_cases z : b = n
        · rw [z]; exact e
        · exact bfind_none n hq b (by omega)
/-- the weight of things that are in no slice: how many blocks -/
def sumW (us : Nat → Bool) (wt : Nat → Nat) : Nat → Nat
  | 0 => 0
  | k + 1 => sumW us wt k + (if us k = true then 0 else wt k)
theorem sumW_ge {us : Nat → Bool} {wt : Nat → Nat} {k : Nat} : ∀ n, k < n → us k = false → wt k ≤ sumW us wt n
  | 0, h, _ => absurd h (Nat.not_lt_zero _)
  | n + 1, h, hu => by
    rw [sumW]
    by_cases e : k = n
    · subst e
      rw [hu]
      simp
    · have := sumW_ge (wt := wt) n (by omega) hu
      omega
theorem sumW_two {us : Nat → Bool} {wt : Nat → Nat} {i j : Nat} (hij : i < j) : ∀ n, j < n → us i = false → us j = false → wt i + wt j ≤ sumW us wt n
  | 0, h, _, _ => absurd h (Nat.not_lt_zero _)
  | n + 1, h, hi, hj => by
    rw [sumW]
    by_cases e : j = n
    · subst e
      have := sumW_ge (us := us) (wt := wt) j hij hi
      rw [hj]
      simp
      omega
    · have := sumW_two (wt := wt) hij n (by omega) hi hj
      omega
theorem sumW_congr {us us' : Nat → Bool} {wt wt' : Nat → Nat} : ∀ n, (∀ k, k < n → us k = us' k ∧ wt k = wt' k) → sumW us wt n = sumW us' wt' n
  | 0, _ => rfl
  | n + 1, h => by rw [sumW, sumW, sumW_congr n (fun k hk => h k (by omega)), (h n (by omega)).1, (h n (by omega)).2]
/-- a thing goes into a slice -/
theorem sumW_use {us : Nat → Bool} {wt : Nat → Nat} {i : Nat} : ∀ n, i < n → us i = false → sumW (va_up us i true) wt n + wt i = sumW us wt n
  | 0, h, _ => absurd h (Nat.not_lt_zero _)
  | n + 1, h, hu => by
    rw [sumW, sumW]
    by_cases e : i = n
    · subst e
      rw [va_up_self, hu, sumW_congr (us := va_up us i true) (us' := us) (wt := wt) (wt' := wt) i (fun k hk => ⟨va_up_ne _ _ (by omega), rfl⟩)]
      simp
    · have := sumW_use (wt := wt) n (by omega) hu
      rw [va_up_ne _ _ (by omega : n ≠ i)]
      omega
/-- bk: the block of a thing or -1; us: is it in a slice; u: its shapes; cap: their room; wt: how many blocks are in it -/
def RelT (n tc : Nat) (bk : Nat → Int32) (us : Nat → Bool) (u : Nat → FL) (cap wt : Nat → Nat) (M : MS) : Prop :=
  M.2.2.1 9 = tc ∧ tc ≤ 40 ∧ (∀ b, b < n → M.1 10 b < tc ∧ bk (M.1 10 b) = nI b) ∧ (∀ k, k < tc → bk k = -1 ∨ ∃ b, b < n ∧ M.1 10 b = k) ∧
  (∀ k, k < tc → us k = M.2.1 5 k ∧ (u k).2.2 = M.1 8 k ∧ (∀ j, j < M.1 8 k → (u k).1 j = M.1 6 (64 * k + j) ∧ (u k).2.1 j = M.1 7 (64 * k + j)) ∧ 0 < M.1 8 k ∧ M.1 8 k ≤ cap k ∧ cap k ≤ 64 ∧ (∀ i, (u k).1 i < 1000 * wt k + 1 ∧ (u k).2.1 i < 1000 * wt k + 1) ∧ M.1 8 k ≤ 2 * wt k ∧ wt k ≤ 16) ∧
  sumW us wt tc ≤ n ∧ (∀ q, M.1 6 q < 2 ^ 62) ∧ ∀ k, tc ≤ k → M.2.1 5 k = false
theorem tn_of {tc : Nat} {t : Int32} (h40 : tc ≤ 40) (h : ¬ (t < 0 ∨ nI tc ≤ t)) : ∃ k, k < tc ∧ t = nI k := by
  obtain ⟨j, hj, rfl⟩ := nI_of (fun q => h (Or.inl q))
  refine ⟨j, ?_, rfl⟩
  rcases Nat.lt_or_ge j tc with q | q
  · exact q
  · exact absurd (Or.inr ((nI_leI (by omega) hj).mpr q)) h
theorem isT_f {tc : Nat} {t : Int32} (h : t < 0 ∨ nI tc ≤ t) : isT tc t = false := by
  unfold isT
  rcases h with h | h <;> simp [h]
theorem isT_t {tc k : Nat} (h40 : tc ≤ 40) (h : k < tc) : isT tc (nI k) = true := by
  unfold isT
  have a : ¬ nI k < 0 := nI_n0 (by omega)
  have b : ¬ nI tc ≤ nI k := fun q => by
    have := (nI_leI (by omega) (by omega)).mp q
    omega
  simp [a, b]
/-- what is found under a number -/
theorem find_cases {n tc : Nat} {bk : Nat → Int32} {us : Nat → Bool} {u : Nat → FL} {cap wt : Nat → Nat} {M : MS} (h : RelT n tc bk us u cap wt M) (hn : n ≤ 16) (t : Int32) :
    ((t < 0 ∨ nI tc ≤ t) ∧ bfind (M.1 10) t n = none) ∨ ∃ k, k < tc ∧ t = nI k ∧ ((bk k = -1 ∧ bfind (M.1 10) t n = none) ∨ ∃ b, b < n ∧ bk k = nI b ∧ bfind (M.1 10) t n = some b) := by
  obtain ⟨h9, h40, hb, hk, -⟩ := h
  by_cases hv : t < 0 ∨ nI tc ≤ t
  · refine Or.inl ⟨hv, ?_⟩
    cases hq : bfind (M.1 10) t n with
    | none => rfl
    | some b =>
      obtain ⟨a, c⟩ := bfind_some n hq
      have d := (hb b a).1
      subst c
      rcases hv with q | q
      · exact absurd q (nI_n0 (by omega))
      · have := (nI_leI (by omega) (by omega)).mp q
        omega
  · obtain ⟨k, hkt, rfl⟩ := tn_of h40 hv
    refine Or.inr ⟨k, hkt, rfl, ?_⟩
    cases hq : bfind (M.1 10) (nI k) n with
    | some b =>
      obtain ⟨a, c⟩ := bfind_some n hq
      have d := hb b a
      have e : M.1 10 b = k := (nI_eq (by omega) (by omega)).mp c
      refine Or.inr ⟨b, a, ?_, rfl⟩
      rw [← e]
      exact d.2
    | none =>
      rcases hk k hkt with q | ⟨b, q1, q2⟩
      · exact Or.inl ⟨q, rfl⟩
      · exact absurd (by rw [q2]) (bfind_none n hq b q1)
/-- the shapes' least area -/
theorem least_of {n tc k : Nat} {bk : Nat → Int32} {us : Nat → Bool} {u : Nat → FL} {cap wt : Nat → Nat} {M : MS} (h : RelT n tc bk us u cap wt M) (hk : k < tc) : lar (u k).1 (u k).2.1 (u k).2.2 = lea (fun j => M.1 6 (64 * k + j)) (fun j => M.1 7 (64 * k + j)) (M.1 8 k - 1) ∧ ∀ j, j < M.1 8 k → M.1 6 (64 * k + j) * M.1 7 (64 * k + j) < 2 ^ 62 := by
  obtain ⟨-, -, -, -, h5, -⟩ := h
  obtain ⟨a1, a2, a3, a4, a5, a6, a7, a8, a9⟩ := h5 k hk
  have ar : ∀ j, (u k).1 j * (u k).2.1 j ≤ 20000 * 20000 := fun j => by
    have q := a7 j
    exact Nat.mul_le_mul (by omega) (by omega)
  refine ⟨?_, fun j hj => ?_⟩
  · rw [a2, show M.1 8 k = (M.1 8 k - 1) + 1 by omega, show (M.1 8 k - 1) + 1 - 1 = M.1 8 k - 1 by omega]
    refine lar_lea (M.1 8 k - 1) (fun i hi => ?_)
    obtain ⟨p, q⟩ := a3 i (by omega)
    have := ar i
    exact ⟨p, q, by omega⟩
  · obtain ⟨p, q⟩ := a3 j hj
    rw [← p, ← q]
    have := ar j
    omega
