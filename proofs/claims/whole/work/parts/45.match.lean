/-! matchings: nets 0 .. n-1 at sides 0 .. 3, each side at most two -/
/-- how many of the first k are at side t -/
def cnS (σ : Nat → Nat) (t : Nat) : Nat → Nat
  | 0 => 0
  | k + 1 => cnS σ t k + (if σ k = t then 1 else 0)
def vld (σ : Nat → Nat) (n : Nat) : Prop := ∀ k, k < n → σ k < 4 ∧ cnS σ (σ k) k ≤ 1
def smC (C : Nat → Nat → Nat) (σ : Nat → Nat) : Nat → Nat
  | 0 => 0
  | k + 1 => smC C σ k + C k (σ k)
def isBest (n : Nat) (C : Nat → Nat → Nat) (σ : Nat → Nat) : Prop := vld σ n ∧ ∀ τ, vld τ n → smC C σ n ≤ smC C τ n ∧ (smC C σ n = smC C τ n → ∀ k, k < n → (∀ j, j < k → σ j = τ j) → σ k ≤ τ k)
theorem cnS_congr {σ τ : Nat → Nat} {t : Nat} : ∀ n, (∀ k, k < n → σ k = τ k) → cnS σ t n = cnS τ t n
  | 0, _ => rfl
  | n + 1, h => by rw [cnS, cnS, cnS_congr n (fun k hk => h k (by omega)), h n (by omega)]
theorem vld_congr {σ τ : Nat → Nat} {n : Nat} (h : ∀ k, k < n → σ k = τ k) (hv : vld σ n) : vld τ n := fun k hk => by
  have a := hv k hk
  rw [← h k hk, ← cnS_congr k (fun j hj => h j (by omega))]
  exact a
theorem smC_congr {C D : Nat → Nat → Nat} {σ τ : Nat → Nat} : ∀ n, (∀ k, k < n → σ k = τ k ∧ C k (σ k) = D k (τ k)) → smC C σ n = smC D τ n
  | 0, _ => rfl
  | n + 1, h => by rw [smC, smC, smC_congr n (fun k hk => h k (by omega)), (h n (by omega)).2]
theorem best_uniq {n : Nat} {C : Nat → Nat → Nat} {σ τ : Nat → Nat} (h : isBest n C σ) (h' : isBest n C τ) : ∀ k, k < n → σ k = τ k := by
  intro k
  induction k using Nat.strongRecOn with
  | _ k ih =>
    intro hk
    have a := h.2 τ h'.1
    have b := h'.2 σ h.1
    have e : smC C σ n = smC C τ n := Nat.le_antisymm a.1 b.1
    exact Nat.le_antisymm (a.2 e k hk (fun j hj => ih j hj (by omega))) (b.2 e.symm k hk (fun j hj => (ih j hj (by omega)).symm))
theorem best_congr {n : Nat} {C D : Nat → Nat → Nat} {σ τ : Nat → Nat} (hC : ∀ k s, k < n → s < 4 → C k s = D k s) (hs : ∀ k, k < n → σ k = τ k) (h : isBest n C σ) : isBest n D τ := by
  have e : ∀ ρ, vld ρ n → smC C ρ n = smC D ρ n := fun ρ hρ => smC_congr n (fun k hk => ⟨rfl, hC k _ hk (hρ k hk).1⟩)
  have e2 : smC D τ n = smC C σ n := by
    rw [e σ h.1]
    exact smC_congr n (fun k hk => ⟨(hs k hk).symm, by rw [hs k hk]⟩)
  refine ⟨vld_congr hs h.1, fun ρ hρ => ?_⟩
  have a := h.2 ρ hρ
  rw [e2, ← e ρ hρ]
  exact ⟨a.1, fun q k hk hj => by rw [← hs k hk]; exact a.2 q k hk (fun j hj2 => by rw [hs j (by omega)]; exact hj j hj2)⟩
/-! the reference's ways: numbers to base 4 -/
def dig (n w k : Nat) : Nat := w / 4 ^ (n - (k + 1)) % 4
def num (τ : Nat → Nat) : Nat → Nat
  | 0 => 0
  | k + 1 => num τ k * 4 + τ k
theorem num_lt {τ : Nat → Nat} : ∀ n, (∀ k, k < n → τ k < 4) → num τ n < 4 ^ n
  | 0, _ => by show 0 < 1; decide
  | n + 1, h => by
    have ih := num_lt n (fun k hk => h k (by omega))
    have a := h n (by omega)
    rw [num, Nat.pow_succ]
    omega
theorem num_div {τ : Nat → Nat} : ∀ n, (∀ k, k < n → τ k < 4) → ∀ j, j ≤ n → num τ n / 4 ^ (n - j) = num τ j
  | 0, _, j, hj => by
    obtain rfl : j = 0 := by omega
    exact Nat.zero_div _
  | n + 1, h, j, hj => by
    by_cases e : j = n + 1
    · subst e
      rw [Nat.sub_self, Nat.pow_zero, Nat.div_one]
    · have ih := num_div n (fun k hk => h k (by omega)) j (by omega)
      have a := h n (by omega)
      rw [num, show n + 1 - j = (n - j) + 1 by omega, Nat.pow_succ, Nat.mul_comm (4 ^ (n - j)) 4, ← Nat.div_div_eq_div_mul, show (num τ n * 4 + τ n) / 4 = num τ n by omega]
      exact ih
theorem dig_num {τ : Nat → Nat} {n k : Nat} (h : ∀ k, k < n → τ k < 4) (hk : k < n) : dig n (num τ n) k = τ k := by
  unfold dig
  rw [num_div n h (k + 1) (by omega), num]
  have a := h k hk
  omega
theorem dig_lt {n w k : Nat} : dig n w k < 4 := Nat.mod_lt _ (by decide)
theorem pre_s {n w j : Nat} (hj : j < n) : w / 4 ^ (n - (j + 1)) = w / 4 ^ (n - j) * 4 + dig n w j := by
  unfold dig
  rw [show n - j = (n - (j + 1)) + 1 by omega, Nat.pow_succ, ← Nat.div_div_eq_div_mul]
  omega
theorem dig_ord {n w w' k : Nat} (h1 : w < 4 ^ n) (h2 : w' < 4 ^ n) (hk : k < n) (he : ∀ j, j < k → dig n w j = dig n w' j) (hlt : dig n w' k < dig n w k) : w' < w := by
  have pre : ∀ j, j ≤ k → w / 4 ^ (n - j) = w' / 4 ^ (n - j) := by
    intro j
    induction j with
    | zero =>
      intro _
      rw [Nat.sub_zero, Nat.div_eq_of_lt h1, Nat.div_eq_of_lt h2]
    | succ j ih =>
      intro hj
      rw [pre_s (by omega), pre_s (w := w') (by omega), ih (by omega), he j (by omega)]
  have a := pre_s (w := w) hk
  have b := pre_s (w := w') hk
  rw [pre k (Nat.le_refl _)] at a
  rcases Nat.lt_or_ge w' w with q | q
  · exact q
  · have := Nat.div_le_div_right (c := 4 ^ (n - (k + 1))) q
    omega
/-- the least way, and the first of the least, is the best matching -/
theorem best_of_way {n w0 : Nat} {C : Nat → Nat → Nat} (hw0 : w0 < 4 ^ n) (hv : vld (dig n w0) n) (h : ∀ w, w < 4 ^ n → vld (dig n w) n → smC C (dig n w0) n < smC C (dig n w) n ∨ (smC C (dig n w0) n = smC C (dig n w) n ∧ w0 ≤ w)) : isBest n C (dig n w0) := by
  refine ⟨hv, fun τ hτ => ?_⟩
  have h4 : ∀ k, k < n → τ k < 4 := fun k hk => (hτ k hk).1
  have e : ∀ k, k < n → dig n (num τ n) k = τ k := fun k hk => dig_num h4 hk
  have hn := num_lt n h4
  have es : smC C (dig n (num τ n)) n = smC C τ n := smC_congr n (fun k hk => ⟨e k hk, by rw [e k hk]⟩)
  have q := h _ hn (vld_congr (fun k hk => (e k hk).symm) hτ)
  rw [es] at q
  refine ⟨by omega, fun hq k hk hj => ?_⟩
  rcases Nat.lt_or_ge (τ k) (dig n w0 k) with z | z
  · have := dig_ord hw0 hn hk (fun j hjk => by rw [hj j hjk, e j (by omega)]) (by rw [e k hk]; exact z)
    omega
  · exact z
theorem vld_some {n : Nat} (h : n ≤ 8) : vld (fun k => k / 2) n := fun k hk => by
  have a : ∀ k, k < 8 → cnS (fun k => k / 2) (k / 2) k ≤ 1 := by decide
  exact ⟨by show k / 2 < 4; omega, a k (by omega)⟩
/-! the class's tables -/
def one (s : Nat) : Nat := if s = 0 then 1 else if s = 1 then 3 else if s = 2 then 9 else 27
def fil (σ : Nat → Nat) (k : Nat) : Nat := cnS σ 0 k + 3 * cnS σ 1 k + 9 * cnS σ 2 k + 27 * cnS σ 3 k
theorem s4 {s : Nat} (h : s < 4) : s = 0 ∨ s = 1 ∨ s = 2 ∨ s = 3 := by omega
theorem fil_s {σ : Nat → Nat} {k : Nat} (h : σ k < 4) : fil σ (k + 1) = fil σ k + one (σ k) := by
  unfold fil one
  rw [cnS, cnS, cnS, cnS]
  rcases s4 h with e | e | e | e <;> rw [e] <;> simp <;> omega
theorem cn_le {σ : Nat → Nat} {n : Nat} (hv : vld σ n) (t : Nat) : ∀ k, k ≤ n → cnS σ t k ≤ 2
  | 0, _ => Nat.zero_le _
  | k + 1, hk => by
    have ih := cn_le hv t k (by omega)
    have a := hv k (by omega)
    rw [cnS]
    split
    · rename_i e
      rw [← e]
      omega
    · omega
theorem fil_dig {σ : Nat → Nat} {k s : Nat} (h : ∀ t, cnS σ t k ≤ 2) (hs : s < 4) : fil σ k / one s % 3 = cnS σ s k ∧ fil σ k < 81 := by
  have a := h 0
  have b := h 1
  have c := h 2
  have d := h 3
  unfold fil one
  rcases s4 hs with e | e | e | e <;> rw [e] <;> simp <;> omega
/-- the cost of net k at side s, and the least of those behind it -/
def cw (C : Nat → Nat → Nat) (lc : Nat → Nat) (k fl s : Nat) : Nat := if fl / one s % 3 = 2 then 268435456 else C k s + lc (fl + one s)
def mnW (C : Nat → Nat → Nat) (lc : Nat → Nat) (k fl : Nat) : Nat → Nat
  | 0 => 268435456
  | s + 1 => min (mnW C lc k fl s) (cw C lc k fl s)
def lcf (C : Nat → Nat → Nat) (n : Nat) : Nat → Nat → Nat
  | 0 => fun _ => 0
  | j + 1 => fun fl => mnW C (lcf C n j) (n - (j + 1)) fl 4
theorem mnW_le {C : Nat → Nat → Nat} {lc : Nat → Nat} {k fl : Nat} : ∀ t s, s < t → mnW C lc k fl t ≤ cw C lc k fl s
  | 0, s, h => absurd h (Nat.not_lt_zero _)
  | t + 1, s, h => by
    rw [mnW]
    by_cases e : s = t
    · subst e
      omega
    · have := mnW_le (C := C) (lc := lc) (k := k) (fl := fl) t s (by omega)
      omega
theorem mnW_at {C : Nat → Nat → Nat} {lc : Nat → Nat} {k fl : Nat} : ∀ t, mnW C lc k fl t = 268435456 ∨ ∃ s, s < t ∧ mnW C lc k fl t = cw C lc k fl s
  | 0 => Or.inl rfl
  | t + 1 => by
    rw [mnW]
    rcases Nat.le_total (mnW C lc k fl t) (cw C lc k fl t) with h | h
    · rw [Nat.min_eq_left h]
      rcases mnW_at (C := C) (lc := lc) (k := k) (fl := fl) t with q | ⟨s, q1, q2⟩
      · exact Or.inl q
      · exact Or.inr ⟨s, by omega, q2⟩
    · rw [Nat.min_eq_right h]
      exact Or.inr ⟨t, by omega, rfl⟩
theorem mnW_top {C : Nat → Nat → Nat} {lc : Nat → Nat} {k fl : Nat} : ∀ t, mnW C lc k fl t ≤ 268435456
  | 0 => Nat.le_refl _
  | t + 1 => Nat.le_trans (Nat.min_le_left _ _) (mnW_top t)
theorem lcf_top {C : Nat → Nat → Nat} {n : Nat} : ∀ j fl, lcf C n j fl ≤ 268435456
  | 0, _ => Nat.zero_le _
  | _ + 1, _ => mnW_top 4
/-- the cost of nets k and up -/
def tlC (C : Nat → Nat → Nat) (σ : Nat → Nat) (n k : Nat) : Nat := smC C σ n - smC C σ k
theorem sm_mono {C : Nat → Nat → Nat} {σ : Nat → Nat} : ∀ n k, k ≤ n → smC C σ k ≤ smC C σ n
  | 0, k, h => by
    obtain rfl : k = 0 := by omega
    exact Nat.le_refl _
  | n + 1, k, h => by
    by_cases e : k = n + 1
    · subst e
      exact Nat.le_refl _
    · have := sm_mono (C := C) (σ := σ) n k (by omega)
      rw [smC]
      omega
theorem lc_low {C : Nat → Nat → Nat} {n : Nat} {τ : Nat → Nat} (hv : vld τ n) : ∀ j, j ≤ n → lcf C n j (fil τ (n - j)) + smC C τ (n - j) ≤ smC C τ n
  | 0, _ => by
    show 0 + smC C τ n ≤ _
    omega
  | j + 1, hj => by
    have ih := lc_low hv (C := C) j (by omega)
    obtain ⟨a1, a2⟩ := hv (n - (j + 1)) (by omega)
    have hd := fil_dig (s := τ (n - (j + 1))) (fun t => cn_le hv t (n - (j + 1)) (by omega)) a1
    have b := mnW_le (C := C) (lc := lcf C n j) (k := n - (j + 1)) (fl := fil τ (n - (j + 1))) 4 _ a1
    have c : cw C (lcf C n j) (n - (j + 1)) (fil τ (n - (j + 1))) (τ (n - (j + 1))) = C (n - (j + 1)) (τ (n - (j + 1))) + lcf C n j (fil τ (n - j)) := by
      unfold cw
      rw [if_neg (by omega), ← fil_s a1, show n - (j + 1) + 1 = n - j by omega]
    have d : smC C τ (n - j) = smC C τ (n - (j + 1)) + C (n - (j + 1)) (τ (n - (j + 1))) := by
      rw [show n - j = n - (j + 1) + 1 by omega, smC]
    show mnW C (lcf C n j) (n - (j + 1)) (fil τ (n - (j + 1))) 4 + _ ≤ _
    omega
/-- the side that the class takes -/
def pick (C : Nat → Nat → Nat) (n k fl : Nat) : Nat :=
  if cw C (lcf C n (n - (k + 1))) k fl 0 = lcf C n (n - k) fl then 0 else if cw C (lcf C n (n - (k + 1))) k fl 1 = lcf C n (n - k) fl then 1 else if cw C (lcf C n (n - (k + 1))) k fl 2 = lcf C n (n - k) fl then 2 else 3
theorem pick_lt {C : Nat → Nat → Nat} {n k fl : Nat} : pick C n k fl < 4 := by
  unfold pick
  split
  · decide
  · split
    · decide
    · split <;> decide
theorem pick_le {C : Nat → Nat → Nat} {n k fl s : Nat} (hs : s < 4) (h : cw C (lcf C n (n - (k + 1))) k fl s = lcf C n (n - k) fl) : pick C n k fl ≤ s := by
  unfold pick
  rcases s4 hs with e | e | e | e
  · subst e
    rw [if_pos h]
    omega
  · subst e
    split
    · omega
    · exact Nat.le_refl _
  · subst e
    split
    · omega
    · split
      · omega
      · exact Nat.le_refl _
  · subst e
    split
    · omega
    · split
      · omega
      · split <;> omega
theorem pick_at {C : Nat → Nat → Nat} {n k fl : Nat} (hk : k < n) (h : lcf C n (n - k) fl < 268435456) : cw C (lcf C n (n - (k + 1))) k fl (pick C n k fl) = lcf C n (n - k) fl := by
  have e : lcf C n (n - k) fl = mnW C (lcf C n (n - (k + 1))) k fl 4 := by
    rw [show n - k = (n - (k + 1)) + 1 by omega]
    show mnW C (lcf C n (n - (k + 1))) (n - (n - (k + 1) + 1)) fl 4 = _
    rw [show n - (n - (k + 1) + 1) = k by omega]
  rcases mnW_at (C := C) (lc := lcf C n (n - (k + 1))) (k := k) (fl := fl) 4 with q | ⟨s, hs, q⟩
  · omega
  · rw [← e] at q
    unfold pick
    by_cases c0 : cw C (lcf C n (n - (k + 1))) k fl 0 = lcf C n (n - k) fl
    · rw [if_pos c0]; exact c0
    · rw [if_neg c0]
      by_cases c1 : cw C (lcf C n (n - (k + 1))) k fl 1 = lcf C n (n - k) fl
      · rw [if_pos c1]; exact c1
      · rw [if_neg c1]
        by_cases c2 : cw C (lcf C n (n - (k + 1))) k fl 2 = lcf C n (n - k) fl
        · rw [if_pos c2]; exact c2
        · rw [if_neg c2]
          rcases s4 hs with z | z | z | z
          · subst z; exact absurd q.symm c0
          · subst z; exact absurd q.symm c1
          · subst z; exact absurd q.symm c2
          · subst z; exact q.symm
/-- the class's choice: sides and filling -/
def chs (C : Nat → Nat → Nat) (n : Nat) (σ0 : Nat → Nat) : Nat → (Nat → Nat) × Nat
  | 0 => (σ0, 0)
  | k + 1 => (va_up (chs C n σ0 k).1 k (pick C n k (chs C n σ0 k).2), (chs C n σ0 k).2 + one (pick C n k (chs C n σ0 k).2))
theorem chs_keep {C : Nat → Nat → Nat} {n : Nat} {σ0 : Nat → Nat} {j : Nat} : ∀ k, j < k → (chs C n σ0 k).1 j = (chs C n σ0 (j + 1)).1 j
  | 0, h => absurd h (Nat.not_lt_zero _)
  | k + 1, h => by
    by_cases e : j = k
    · subst e; rfl
    · show va_up (chs C n σ0 k).1 k _ j = _
      rw [va_up_ne _ _ e]
      exact chs_keep k (by omega)
theorem chs_best {C : Nat → Nat → Nat} {n : Nat} {σ0 : Nat → Nat} (hn : n ≤ 8) (hC : ∀ k s, k < n → s < 4 → C k s < 2 ^ 24) : isBest n C (chs C n σ0 n).1 := by
  obtain ⟨σ, hσ⟩ : ∃ σ, σ = (chs C n σ0 n).1 := ⟨_, rfl⟩
  have hat : ∀ k, k < n → σ k = pick C n k (chs C n σ0 k).2 := fun k hk => by
    rw [hσ, chs_keep n hk]
    exact va_up_self _ _ _
  have hfil : ∀ k, k ≤ n → (chs C n σ0 k).2 = fil σ k := by
    intro k
    induction k with
    | zero => intro _; rfl
    | succ k ih =>
      intro hk
      rw [chs, fil_s (by rw [hat k (by omega)]; exact pick_lt), ← ih (by omega), hat k (by omega)]
  have hat2 : ∀ k, k < n → σ k = pick C n k (fil σ k) := fun k hk => by rw [hat k hk, hfil k (by omega)]
  have h0 : lcf C n n 0 < 268435456 := by
    have a := lc_low (C := C) (vld_some hn) n (Nat.le_refl _)
    rw [Nat.sub_self] at a
    have b : ∀ m, m ≤ n → smC C (fun k => k / 2) m ≤ m * 2 ^ 24 := by
      intro m
      induction m with
      | zero => intro _; exact Nat.zero_le _
      | succ m ih =>
        intro hm
        have := hC m (m / 2) (by omega) (by omega)
        have := ih (by omega)
        rw [smC]
        omega
    have c := b n (Nat.le_refl _)
    have d : fil (fun k => k / 2) 0 = 0 := rfl
    rw [d] at a
    omega
  have key : ∀ k, k ≤ n → (∀ j, j < k → cnS σ (σ j) j ≤ 1) ∧ lcf C n (n - k) (fil σ k) < 268435456 ∧ lcf C n (n - k) (fil σ k) + smC C σ k = lcf C n n 0 := by
    intro k
    induction k with
    | zero =>
      intro _
      exact ⟨fun j h => absurd h (Nat.not_lt_zero _), h0, rfl⟩
    | succ k ih =>
      intro hk
      obtain ⟨a, b, c⟩ := ih (by omega)
      have p := pick_at (C := C) (n := n) (k := k) (fl := fil σ k) (by omega) b
      rw [← hat2 k (by omega)] at p
      have h4 : σ k < 4 := by rw [hat k (by omega)]; exact pick_lt
      have hvk : vld σ k := fun j hj => ⟨by rw [hat j (by omega)]; exact pick_lt, a j hj⟩
      have hd := fil_dig (s := σ k) (fun t => cn_le hvk t k (Nat.le_refl _)) h4
      have hc2 := cn_le hvk (σ k) k (Nat.le_refl _)
      unfold cw at p
      by_cases e : fil σ k / one (σ k) % 3 = 2
      · rw [if_pos e] at p
        omega
      · rw [if_neg e, ← fil_s h4] at p
        refine ⟨fun j hj => ?_, by omega, by rw [smC]; omega⟩
        by_cases ej : j = k
        · subst ej
          omega
        · exact a j (by omega)
  have kn := key n (Nat.le_refl _)
  rw [Nat.sub_self] at kn
  have hsum : smC C σ n = lcf C n n 0 := by
    have : lcf C n 0 (fil σ n) = 0 := rfl
    omega
  rw [← hσ]
  refine ⟨fun k hk => ⟨by rw [hat k hk]; exact pick_lt, kn.1 k hk⟩, fun τ hτ => ?_⟩
  have low := lc_low (C := C) hτ n (Nat.le_refl _)
  rw [Nat.sub_self] at low
  have low0 : lcf C n n 0 ≤ smC C τ n := by
    have : fil τ 0 = 0 := rfl
    rw [this] at low
    omega
  refine ⟨by omega, fun he k hk hj => ?_⟩
  have ef : fil σ k = fil τ k := by
    unfold fil
    rw [cnS_congr k hj, cnS_congr k hj, cnS_congr k hj, cnS_congr k hj]
  have es : smC C σ k = smC C τ k := smC_congr k (fun j hjk => ⟨hj j hjk, by rw [hj j hjk]⟩)
  obtain ⟨a1, a2⟩ := hτ k hk
  have hd := fil_dig (s := τ k) (fun t => cn_le hτ t k (by omega)) a1
  have l1 := lc_low (C := C) hτ (n - (k + 1)) (by omega)
  rw [show n - (n - (k + 1)) = k + 1 by omega, fil_s a1, smC] at l1
  have kk := (key k (by omega)).2.2
  have up := mnW_le (C := C) (lc := lcf C n (n - (k + 1))) (k := k) (fl := fil σ k) 4 _ a1
  have e4 : lcf C n (n - k) (fil σ k) = mnW C (lcf C n (n - (k + 1))) k (fil σ k) 4 := by
    rw [show n - k = (n - (k + 1)) + 1 by omega]
    show mnW C (lcf C n (n - (k + 1))) (n - (n - (k + 1) + 1)) _ 4 = _
    rw [show n - (n - (k + 1) + 1) = k by omega]
  rw [hat2 k hk]
  refine pick_le a1 ?_
  have ec : cw C (lcf C n (n - (k + 1))) k (fil σ k) (τ k) = C k (τ k) + lcf C n (n - (k + 1)) (fil τ k + one (τ k)) := by
    unfold cw
    rw [ef, if_neg (by omega)]
  omega
/-- the net at place kk of side sd -/
def pkF (σ : Nat → Nat) (sd kk : Nat) : Nat → Option Nat
  | 0 => none
  | k + 1 => match pkF σ sd kk k with
    | some j => some j
    | none => if σ k = sd ∧ cnS σ sd k = kk then some k else none
theorem pkF_up {σ : Nat → Nat} {sd kk k j : Nat} (h : pkF σ sd kk k = some j) : ∀ i, pkF σ sd kk (k + i) = some j
  | 0 => h
  | i + 1 => by
    show (match pkF σ sd kk (k + i) with | some j => some j | none => _) = _
    rw [pkF_up h i]
theorem pkF_lt {σ : Nat → Nat} {sd kk j : Nat} : ∀ k, pkF σ sd kk k = some j → j < k
  | 0, h => by cases h
  | k + 1, h => by
    rw [pkF] at h
    cases hq : pkF σ sd kk k with
    | some i =>
      rw [hq] at h
      have := pkF_lt k hq
      cases h
      omega
    | none =>
      rw [hq] at h
      dsimp only at h
      split at h
      · cases h
        omega
      · cases h
theorem pkF_congr {σ τ : Nat → Nat} {sd kk : Nat} : ∀ n, (∀ k, k < n → σ k = τ k) → pkF σ sd kk n = pkF τ sd kk n
  | 0, _ => rfl
  | n + 1, h => by rw [pkF, pkF, pkF_congr n (fun k hk => h k (by omega)), h n (by omega), cnS_congr n (fun k hk => h k (by omega))]
/-- what is answered -/
def pkA (σ own : Nat → Nat) (sd kk n : Nat) : Int32 := match pkF σ sd kk n with
  | some j => nI (own j)
  | none => -1
theorem pkA_congr {σ τ own own' : Nat → Nat} {sd kk n : Nat} (h : ∀ k, k < n → σ k = τ k) (ho : ∀ k, k < n → own k = own' k) : pkA σ own sd kk n = pkA τ own' sd kk n := by
  unfold pkA
  rw [pkF_congr n h]
  cases hq : pkF τ sd kk n with
  | some j => dsimp only; rw [ho j (pkF_lt n hq)]
  | none => rfl
/-- the nets of block b: their numbers, how many -/
def gO (NA NB : Nat → Nat) (b : Nat) : Nat → (Nat → Nat) × Nat
  | 0 => (fun _ => 0, 0)
  | k + 1 => if NA k = b ∨ NB k = b then (va_up (gO NA NB b k).1 (gO NA NB b k).2 k, (gO NA NB b k).2 + 1) else gO NA NB b k
theorem gO_le {NA NB : Nat → Nat} {b : Nat} : ∀ k, (gO NA NB b k).2 ≤ k
  | 0 => Nat.le_refl _
  | k + 1 => by
    have := gO_le (NA := NA) (NB := NB) (b := b) k
    rw [gO]
    split
    · dsimp only; omega
    · omega
theorem gO_mono {NA NB : Nat → Nat} {b : Nat} : ∀ n k, k ≤ n → (gO NA NB b k).2 ≤ (gO NA NB b n).2
  | 0, k, h => by
    obtain rfl : k = 0 := by omega
    exact Nat.le_refl _
  | n + 1, k, h => by
    by_cases e : k = n + 1
    · subst e; exact Nat.le_refl _
    · have := gO_mono (NA := NA) (NB := NB) (b := b) n k (by omega)
      rw [gO]
      split
      · dsimp only; omega
      · omega
theorem gO_congr {NA NB NA' NB' : Nat → Nat} {b : Nat} : ∀ n, (∀ k, k < n → NA k = NA' k ∧ NB k = NB' k) → gO NA NB b n = gO NA' NB' b n
  | 0, _ => rfl
  | n + 1, h => by rw [gO, gO, gO_congr n (fun k hk => h k (by omega)), (h n (by omega)).1, (h n (by omega)).2]
/-- the cost of block b's pin at side s for a net to o -/
def cst (P : PS) (b o s : Nat) : Nat := dd (if s = 0 then 2 * P.1 4 b else if s = 1 then 2 * P.1 6 b else P.1 4 b + P.1 6 b) (P.1 4 o + P.1 6 o) + dd (if s = 2 then 2 * P.1 5 b else if s = 3 then 2 * P.1 7 b else P.1 5 b + P.1 7 b) (P.1 5 o + P.1 7 o)
theorem cst_lt {n b o s : Nat} {P : PS} (h : bd2Q n P) (hb : b < n) (ho : o < n) : cst P b o s < 2 ^ 24 := by
  have h1 := h.2.2 b hb
  have h2 := h.2.2 o ho
  unfold cst dd
  split <;> split <;> (try split) <;> (try split) <;> omega
/-- the other end of net k -/
def oEnd (NA NB : Nat → Nat) (b k : Nat) : Nat := if NA k = b then NB k else NA k
