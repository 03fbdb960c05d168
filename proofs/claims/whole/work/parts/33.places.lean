/-! the places that the class finds along an order are the least ones -/
def lt_go (ba po : Nat → Nat) (wb : Bool) (fixd : Nat → Bool) (T Z : Nat → Nat) : Nat → Nat → Nat
  | 0 => fun _ => 0
  | i + 1 => va_up (lt_go ba po wb fixd T Z i) (ba i) ((if fixd (ba i) = true then T (ba i) else la_mx (lt_go ba po wb fixd T Z i) ba po wb (po (ba i)) i) + Z (ba i))
theorem la_mx_congr {E E' ba po : Nat → Nat} {wb : Bool} {q : Nat} : ∀ k, (∀ j, j < k → E (ba j) = E' (ba j)) → la_mx E ba po wb q k = la_mx E' ba po wb q k
  | 0, _ => rfl
  | k + 1, h => by
    rw [la_mx, la_mx, la_mx_congr k (fun j hj => h j (by omega)), h k (by omega)]
theorem la_mx_ge {E ba po : Nat → Nat} {wb : Bool} {q : Nat} : ∀ k j, j < k → decide (po (ba j) < q) = wb → E (ba j) ≤ la_mx E ba po wb q k
  | 0, _, h, _ => absurd h (Nat.not_lt_zero _)
  | k + 1, j, h, hd => by
    rw [la_mx]
    by_cases e : j = k
    · subst e
      split
      · exact Nat.le_refl _
      · rename_i hn
        exact Nat.le_of_not_lt (fun z => hn ⟨hd, z⟩)
    · have ih := la_mx_ge (E := E) (ba := ba) (po := po) k j (by omega) hd
      split
      · rename_i hn
        omega
      · exact ih
theorem la_mx_at {E ba po : Nat → Nat} {wb : Bool} {q : Nat} : ∀ k, la_mx E ba po wb q k = 0 ∨ ∃ j, j < k ∧ decide (po (ba j) < q) = wb ∧ la_mx E ba po wb q k = E (ba j)
  | 0 => Or.inl rfl
  | k + 1 => by
    rw [la_mx]
    split
    · rename_i hc
      exact Or.inr ⟨k, by omega, hc.1, rfl⟩
    · rcases la_mx_at (E := E) (ba := ba) (po := po) (wb := wb) (q := q) k with h | ⟨j, h1, h2, h3⟩
      · exact Or.inl h
      · exact Or.inr ⟨j, by omega, h2, h3⟩
section AX
variable {ba po : Nat → Nat} {wb : Bool} {fixd : Nat → Bool} {T Z : Nat → Nat} {n : Nat}
theorem lt_stab (inj : ∀ j k, j < n → k < n → ba j = ba k → j = k) {k : Nat} : ∀ d, k + 1 + d ≤ n → lt_go ba po wb fixd T Z (k + 1 + d) (ba k) = lt_go ba po wb fixd T Z (k + 1) (ba k)
  | 0, _ => rfl
  | d + 1, h => by
    show va_up (lt_go ba po wb fixd T Z (k + 1 + d)) (ba (k + 1 + d)) _ (ba k) = _
    rw [va_up_ne _ _ (fun e => by have := inj k (k + 1 + d) (by omega) (by omega) e; omega)]
    exact lt_stab inj d (by omega)
theorem lt_fix (inj : ∀ j k, j < n → k < n → ba j = ba k → j = k) {k : Nat} (hk : k < n) : lt_go ba po wb fixd T Z n (ba k) = (if fixd (ba k) = true then T (ba k) else la_mx (lt_go ba po wb fixd T Z n) ba po wb (po (ba k)) k) + Z (ba k) := by
  have e1 : ∀ i, i ≤ n → ∀ j, j < i → lt_go ba po wb fixd T Z i (ba j) = lt_go ba po wb fixd T Z n (ba j) := by
    intro i hi j hj
    have a1 := lt_stab (po := po) (wb := wb) (fixd := fixd) (T := T) (Z := Z) inj (k := j) (i - (j + 1)) (by omega)
    have a2 := lt_stab (po := po) (wb := wb) (fixd := fixd) (T := T) (Z := Z) inj (k := j) (n - (j + 1)) (by omega)
    rw [show j + 1 + (i - (j + 1)) = i by omega] at a1
    rw [show j + 1 + (n - (j + 1)) = n by omega] at a2
    rw [a1, a2]
  rw [← e1 (k + 1) (by omega) k (by omega)]
  show va_up _ _ _ _ = _
  rw [va_up_self, la_mx_congr k (fun j hj => e1 k (by omega) j hj)]
/-- a fixed block that would have to lie further on -/
def badA (ba po : Nat → Nat) (wb : Bool) (fixd : Nat → Bool) (T EE : Nat → Nat) (k : Nat) : Prop := fixd (ba k) = true ∧ T (ba k) < la_mx EE ba po wb (po (ba k)) k
def mxE (EE ba : Nat → Nat) : Nat → Nat
  | 0 => 0
  | k + 1 => max (mxE EE ba k) (EE (ba k))
theorem la_eq {X E : Nat → Nat} (inj : ∀ j k, j < n → k < n → ba j = ba k → j = k) : ∀ i, i ≤ n →
    (((la_go ba po wb fixd T Z X E i).1 = true ↔ ∀ k, k < i → ¬ badA ba po wb fixd T (lt_go ba po wb fixd T Z n) k) ∧
      ((la_go ba po wb fixd T Z X E i).1 = true → (∀ k, k < i → (la_go ba po wb fixd T Z X E i).2.2.1 (ba k) = lt_go ba po wb fixd T Z n (ba k) ∧ (la_go ba po wb fixd T Z X E i).2.1 (ba k) + Z (ba k) = lt_go ba po wb fixd T Z n (ba k)) ∧ (la_go ba po wb fixd T Z X E i).2.2.2 = mxE (lt_go ba po wb fixd T Z n) ba i))
  | 0, _ => ⟨⟨fun _ k h => absurd h (Nat.not_lt_zero _), fun _ => rfl⟩, fun _ => ⟨fun k h => absurd h (Nat.not_lt_zero _), rfl⟩⟩
  | i + 1, hi => by
    obtain ⟨ih1, ih2⟩ := la_eq (X := X) (E := E) inj i (by omega)
    have hfix := lt_fix (po := po) (wb := wb) (fixd := fixd) (T := T) (Z := Z) inj (k := i) (by omega)
    rw [la_go]
    generalize la_go ba po wb fixd T Z X E i = u at ih1 ih2 ⊢
    generalize hEE : lt_go ba po wb fixd T Z n = EE at ih1 ih2 hfix ⊢
    unfold la_one
    by_cases h1 : u.1 = false
    · rw [if_pos h1]
      refine ⟨⟨fun h => absurd (h1.symm.trans h) (by decide), fun h => ih1.mpr (fun k hk => h k (by omega))⟩, fun h => absurd (h1.symm.trans h) (by decide)⟩
    · rw [if_neg h1]
      have h1t : u.1 = true := by simpa using h1
      obtain ⟨g1, g2⟩ := ih2 h1t
      have hmx : la_mx u.2.2.1 ba po wb (po (ba i)) i = la_mx EE ba po wb (po (ba i)) i := la_mx_congr i (fun j hj => (g1 j hj).1)
      rw [hmx]
      by_cases h2 : fixd (ba i) = true ∧ T (ba i) < la_mx EE ba po wb (po (ba i)) i
      · rw [if_pos h2]
        exact ⟨⟨fun h => absurd h Bool.false_ne_true, fun h => absurd h2 (h i (by omega))⟩, fun h => absurd h Bool.false_ne_true⟩
      · rw [if_neg h2]
        refine ⟨⟨fun _ k hk => ?_, fun _ => rfl⟩, fun _ => ⟨fun k hk => ?_, ?_⟩⟩
        · by_cases e : k = i
          · subst e
            exact h2
          · exact (ih1.mp h1t) k (by omega)
        · by_cases e : k = i
          · subst e
            dsimp only
            rw [va_up_self, va_up_self, hfix]
            exact ⟨rfl, rfl⟩
          · have hne : ba k ≠ ba i := fun z => e (inj k i (by omega) (by omega) z)
            dsimp only
            rw [va_up_ne _ _ hne, va_up_ne _ _ hne]
            exact g1 k (by omega)
        · dsimp only
          rw [mxE, g2, ← hfix]
/-- one axis: rk the place of a block in the order along which the axis goes -/
theorem ax_sol {rk : Nat → Nat} (hba : ∀ k, k < n → ba k < n ∧ rk (ba k) = k) (hrk : ∀ v, v < n → rk v < n ∧ ba (rk v) = v) :
    (∀ v, v < n → Z v ≤ lt_go ba po wb fixd T Z n v) ∧
    (∀ v, v < n → fixd v = true → lt_go ba po wb fixd T Z n v = T v + Z v) ∧
    (∀ u v, u < n → v < n → fixd v = false → rk u < rk v → decide (po u < po v) = wb → lt_go ba po wb fixd T Z n u + Z v ≤ lt_go ba po wb fixd T Z n v) ∧
    (∀ v, v < n → fixd v = false → lt_go ba po wb fixd T Z n v = Z v ∨ ∃ u, u < n ∧ rk u < rk v ∧ decide (po u < po v) = wb ∧ lt_go ba po wb fixd T Z n v = lt_go ba po wb fixd T Z n u + Z v) ∧
    ((∀ k, k < n → ¬ badA ba po wb fixd T (lt_go ba po wb fixd T Z n) k) ↔ ∀ u v, u < n → v < n → fixd v = true → rk u < rk v → decide (po u < po v) = wb → lt_go ba po wb fixd T Z n u ≤ T v) := by
  have inj : ∀ j k, j < n → k < n → ba j = ba k → j = k := fun j k hj hk h => by rw [← (hba j hj).2, h, (hba k hk).2]
  have hfix : ∀ v, v < n → lt_go ba po wb fixd T Z n v = (if fixd v = true then T v else la_mx (lt_go ba po wb fixd T Z n) ba po wb (po v) (rk v)) + Z v := by
    intro v hv
    have h := lt_fix (po := po) (wb := wb) (fixd := fixd) (T := T) (Z := Z) inj (hrk v hv).1
    rw [(hrk v hv).2] at h
    exact h
  generalize lt_go ba po wb fixd T Z n = EE at hfix ⊢
  refine ⟨fun v hv => ?_, fun v hv hf => ?_, fun u v hu hv hf hr hd => ?_, fun v hv hf => ?_, ⟨fun h u v hu hv hf hr hd => ?_, fun h k hk hb => ?_⟩⟩
  · rw [hfix v hv]
    omega
  · rw [hfix v hv, if_pos hf]
  · rw [hfix v hv, if_neg (by rw [hf]; decide)]
    have q := la_mx_ge (E := EE) (ba := ba) (po := po) (wb := wb) (q := po v) (rk v) (rk u) hr (by rw [(hrk u hu).2]; exact hd)
    rw [(hrk u hu).2] at q
    omega
  · rw [hfix v hv, if_neg (by rw [hf]; decide)]
    rcases la_mx_at (E := EE) (ba := ba) (po := po) (wb := wb) (q := po v) (rk v) with e | ⟨j, h1, h2, h3⟩
    · exact Or.inl (by omega)
    · have hj : j < n := by have := (hrk v hv).1; omega
      exact Or.inr ⟨ba j, (hba j hj).1, by rw [(hba j hj).2]; exact h1, h2, by omega⟩
  · have hb := h (rk v) (hrk v hv).1
    have q := la_mx_ge (E := EE) (ba := ba) (po := po) (wb := wb) (q := po v) (rk v) (rk u) hr (by rw [(hrk u hu).2]; exact hd)
    rw [(hrk u hu).2] at q
    rcases Nat.lt_or_ge (T v) (la_mx EE ba po wb (po v) (rk v)) with z | z
    · exact absurd (show badA ba po wb fixd T EE (rk v) from ⟨by rw [(hrk v hv).2]; exact hf, by rw [(hrk v hv).2]; exact z⟩) hb
    · omega
  · obtain ⟨b1, b2⟩ := hb
    rcases la_mx_at (E := EE) (ba := ba) (po := po) (wb := wb) (q := po (ba k)) k with e | ⟨j, h1, h2, h3⟩
    · omega
    · have q := h (ba j) (ba k) (hba j (by omega)).1 (hba k hk).1 b1 (by rw [(hba j (by omega)).2, (hba k hk).2]; exact h1) h2
      omega
end AX
