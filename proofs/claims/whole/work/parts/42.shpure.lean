/-! least shapes: what both sides keep of a family of shapes -/
/-- by rising widths, and so by falling heights -/
def sorted2 (n : Nat) (f g : Nat → Nat) : Prop := ∀ i j, i < j → j < n → f i < f j ∧ g j < g i
/-- n, f, g: the least shapes of the family S -/
def isSh (S : Nat → Nat → Prop) (n : Nat) (f g : Nat → Nat) : Prop := sorted2 n f g ∧ (∀ k, k < n → S (f k) (g k)) ∧ ∀ x y, S x y → ∃ k, k < n ∧ f k ≤ x ∧ g k ≤ y
theorem sh_same {n i j : Nat} {f g : Nat → Nat} (h : sorted2 n f g) (hi : i < n) (hj : j < n) (h1 : f i ≤ f j) (h2 : g i ≤ g j) : i = j := by
  rcases Nat.lt_trichotomy i j with q | q | q
  · have := h i j q hj
    omega
  · exact q
  · have := h j i q hi
    omega
theorem sh_in {S : Nat → Nat → Prop} {n n' : Nat} {f g f' g' : Nat → Nat} (h : isSh S n f g) (h' : isSh S n' f' g') : ∀ k, k < n → ∃ q, q < n' ∧ f' q = f k ∧ g' q = g k := by
  intro k hk
  obtain ⟨q, hq, a1, a2⟩ := h'.2.2 _ _ (h.2.1 k hk)
  obtain ⟨r, hr, b1, b2⟩ := h.2.2 _ _ (h'.2.1 q hq)
  have e := sh_same h.1 hr hk (by omega) (by omega)
  subst e
  exact ⟨q, hq, by omega, by omega⟩
theorem sh_eq {S : Nat → Nat → Prop} {n n' : Nat} {f g f' g' : Nat → Nat} (h : isSh S n f g) (h' : isSh S n' f' g') : ∀ k, k < n → k < n' ∧ f k = f' k ∧ g k = g' k := by
  intro k
  induction k using Nat.strongRecOn with
  | _ k ih =>
    intro hk
    obtain ⟨q, hq, e1, e2⟩ := sh_in h h' k hk
    have h1 : ¬ q < k := fun z => by
      obtain ⟨-, c1, c2⟩ := ih q z (by omega)
      have := (h.1 q k z hk).1
      omega
    have hk' : k < n' := by omega
    have h2 : ¬ k < q := fun z => by
      obtain ⟨r, hr, d1, d2⟩ := sh_in h' h k hk'
      have c1 := (h'.1 k q z hq).1
      have hrk : r < k := by
        rcases Nat.lt_trichotomy r k with w | w | w
        · exact w
        · subst w; omega
        · have := (h.1 k r w hr).1
          omega
      obtain ⟨-, c2, c3⟩ := ih r hrk (by omega)
      have := (h'.1 r k hrk hk').1
      omega
    have e : q = k := by omega
    subst e
    exact ⟨hk', e1.symm, e2.symm⟩
theorem sh_uniq {S : Nat → Nat → Prop} {n n' : Nat} {f g f' g' : Nat → Nat} (h : isSh S n f g) (h' : isSh S n' f' g') : n = n' ∧ ∀ k, k < n → f k = f' k ∧ g k = g' k := by
  refine ⟨?_, fun k hk => (sh_eq h h' k hk).2⟩
  rcases Nat.lt_trichotomy n n' with q | q | q
  · have := (sh_eq h' h n q).1
    omega
  · exact q
  · have := (sh_eq h h' n' q).1
    omega
theorem pig : ∀ (m c : Nat) (φ : Nat → Nat), (∀ i, i < c → φ i < m) → (∀ i j, i < j → j < c → φ i ≠ φ j) → c ≤ m
  | 0, c, φ, h, _ => by
    rcases Nat.eq_zero_or_pos c with q | q
    · omega
    · exact absurd (h 0 q) (Nat.not_lt_zero _)
  | m + 1, c, φ, h, hi => by
    by_cases hex : ∃ i, i < c ∧ φ i = m
    · obtain ⟨i0, h0, e0⟩ := hex
      have ih := pig m (c - 1) (fun i => φ (if i < i0 then i else i + 1)) (fun i hic => by
        by_cases q : i < i0
        · have a := h i (by omega)
          have b := hi i i0 q h0
          simp only [if_pos q]
          omega
        · have a := h (i + 1) (by omega)
          have b := hi i0 (i + 1) (by omega) (by omega)
          simp only [if_neg q]
          omega) (fun i j hij hjc => by
        by_cases q : i < i0
        · by_cases r : j < i0
          · simp only [if_pos q, if_pos r]
            exact hi i j hij (by omega)
          · simp only [if_pos q, if_neg r]
            exact hi i (j + 1) (by omega) (by omega)
        · simp only [if_neg q, if_neg (show ¬ j < i0 by omega)]
          exact hi (i + 1) (j + 1) (by omega) (by omega))
      omega
    · have ih := pig m c φ (fun i hic => by
        have a := h i hic
        have b : φ i ≠ m := fun e => hex ⟨i, hic, e⟩
        omega) hi
      omega
/-- as many as there are widths, or heights -/
theorem sh_cap {n m : Nat} {f g E : Nat → Nat} (hs : sorted2 n f g) (h : (∀ k, k < n → ∃ q, q < m ∧ E q = f k) ∨ (∀ k, k < n → ∃ q, q < m ∧ E q = g k)) : n ≤ m := by
  rcases h with h | h
  · have h2 : ∀ k, ∃ q, k < n → q < m ∧ E q = f k := fun k => by
      by_cases e : k < n
      · obtain ⟨q, hq⟩ := h k e
        exact ⟨q, fun _ => hq⟩
      · exact ⟨0, fun z => absurd z e⟩
    refine pig m n (fun k => Classical.choose (h2 k)) (fun i hi => (Classical.choose_spec (h2 i) hi).1) (fun i j hij hj e => ?_)
    have a := (Classical.choose_spec (h2 i) (by omega)).2
    have b := (Classical.choose_spec (h2 j) hj).2
    have c := (hs i j hij hj).1
    rw [e, b] at a
    omega
  · have h2 : ∀ k, ∃ q, k < n → q < m ∧ E q = g k := fun k => by
      by_cases e : k < n
      · obtain ⟨q, hq⟩ := h k e
        exact ⟨q, fun _ => hq⟩
      · exact ⟨0, fun z => absurd z e⟩
    refine pig m n (fun k => Classical.choose (h2 k)) (fun i hi => (Classical.choose_spec (h2 i) hi).1) (fun i j hij hj e => ?_)
    have a := (Classical.choose_spec (h2 i) (by omega)).2
    have b := (Classical.choose_spec (h2 j) hj).2
    have c := (hs i j hij hj).2
    rw [e, b] at a
    omega
/-- where x, y is put -/
theorem ins_at {x y : Nat} : ∀ (k : Nat) (fw fh : Nat → Nat), ∃ p, p ≤ k ∧ (∀ i, i < p → (ins x y k fw fh).1 i = fw i ∧ (ins x y k fw fh).2 i = fh i) ∧ (ins x y k fw fh).1 p = x ∧ (ins x y k fw fh).2 p = y ∧ (∀ i, p < i → i ≤ k → (ins x y k fw fh).1 i = fw (i - 1) ∧ (ins x y k fw fh).2 i = fh (i - 1)) ∧ (∀ i, p ≤ i → i < k → x < fw i) ∧ (0 < p → fw (p - 1) ≤ x)
  | 0, fw, fh => ⟨0, Nat.le_refl _, fun i h => absurd h (Nat.not_lt_zero _), va_up_self fw 0 x, va_up_self fh 0 y, fun i h1 h2 => absurd h1 (by omega), fun i _ h => absurd h (Nat.not_lt_zero _), fun h => absurd h (Nat.lt_irrefl _)⟩
  | k + 1, fw, fh => by
    rw [ins]
    by_cases hc : x < fw k
    · rw [if_pos hc]
      obtain ⟨p, p1, p2, p3, p4, p5, p6, p7⟩ := ins_at (x := x) (y := y) k (va_up fw (k + 1) (fw k)) (va_up fh (k + 1) (fh k))
      have hk1 : (ins x y k (va_up fw (k + 1) (fw k)) (va_up fh (k + 1) (fh k))).1 (k + 1) = fw k ∧ (ins x y k (va_up fw (k + 1) (fw k)) (va_up fh (k + 1) (fh k))).2 (k + 1) = fh k := by
        have q : ∀ (k : Nat) (fw fh : Nat → Nat) (i : Nat), k < i → (ins x y k fw fh).1 i = fw i ∧ (ins x y k fw fh).2 i = fh i := by
          intro k
          induction k with
          | zero =>
            intro fw fh i hi
            exact ⟨va_up_ne _ _ (by omega), va_up_ne _ _ (by omega)⟩
          | succ k ih =>
            intro fw fh i hi
            rw [ins]
            split
            · rw [(ih _ _ i (by omega)).1, (ih _ _ i (by omega)).2, va_up_ne _ _ (by omega), va_up_ne _ _ (by omega)]
              exact ⟨rfl, rfl⟩
            · exact ⟨va_up_ne _ _ (by omega), va_up_ne _ _ (by omega)⟩
        rw [(q k _ _ (k + 1) (by omega)).1, (q k _ _ (k + 1) (by omega)).2, va_up_self, va_up_self]
        exact ⟨rfl, rfl⟩
      refine ⟨p, by omega, fun i hi => ?_, p3, p4, fun i h1 h2 => ?_, fun i h1 h2 => ?_, fun h => ?_⟩
      · rw [(p2 i hi).1, (p2 i hi).2, va_up_ne _ _ (by omega), va_up_ne _ _ (by omega)]
        exact ⟨rfl, rfl⟩
      · by_cases e : i = k + 1
        · subst e
          exact hk1
        · rw [(p5 i h1 (by omega)).1, (p5 i h1 (by omega)).2, va_up_ne _ _ (by omega), va_up_ne _ _ (by omega)]
          exact ⟨rfl, rfl⟩
      · by_cases e : i = k
        · subst e
          exact hc
        · have := p6 i h1 (by omega)
          rwa [va_up_ne _ _ (by omega)] at this
      · have := p7 h
        rwa [va_up_ne _ _ (by omega)] at this
    · rw [if_neg hc]
      refine ⟨k + 1, Nat.le_refl _, fun i hi => ⟨va_up_ne _ _ (by omega), va_up_ne _ _ (by omega)⟩, va_up_self _ _ _, va_up_self _ _ _, fun i h1 h2 => absurd h1 (by omega), fun i h1 h2 => absurd h1 (by omega), fun _ => ?_⟩
      show fw k ≤ x
      omega
/-- x, y that matches none and is matched by none is put in -/
theorem ins_sh {x y c : Nat} {f g : Nat → Nat} (hs : sorted2 c f g) (hf : ∀ k, k < c → (f k < x ∧ y < g k) ∨ (x < f k ∧ g k < y)) :
    sorted2 (c + 1) (ins x y c f g).1 (ins x y c f g).2 ∧ (∀ i, i < c + 1 → ((ins x y c f g).1 i = x ∧ (ins x y c f g).2 i = y) ∨ ∃ k, k < c ∧ (ins x y c f g).1 i = f k ∧ (ins x y c f g).2 i = g k) ∧ (∃ i, i < c + 1 ∧ (ins x y c f g).1 i = x ∧ (ins x y c f g).2 i = y) ∧ ∀ k, k < c → ∃ i, i < c + 1 ∧ (ins x y c f g).1 i = f k ∧ (ins x y c f g).2 i = g k := by
  obtain ⟨p, p1, p2, p3, p4, p5, p6, p7⟩ := ins_at (x := x) (y := y) c f g
  have lo : ∀ i, i < p → f i < x ∧ y < g i := fun i hi => by
    rcases hf i (by omega) with h | h
    · exact h
    · have a := p7 (by omega)
      rcases Nat.lt_or_ge i (p - 1) with q | q
      · have := (hs i (p - 1) q (by omega)).1
        omega
      · have e : i = p - 1 := by omega
        subst e
        omega
  have hi : ∀ i, p ≤ i → i < c → x < f i ∧ g i < y := fun i h1 h2 => by
    rcases hf i h2 with h | h
    · have := p6 i h1 h2
      omega
    · exact h
  refine ⟨fun i j hij hj => ?_, fun i hi1 => ?_, ⟨p, by omega, p3, p4⟩, fun k hk => ?_⟩
  · rcases Nat.lt_trichotomy j p with q | q | q
    · rw [(p2 i (by omega)).1, (p2 i (by omega)).2, (p2 j q).1, (p2 j q).2]
      exact hs i j hij (by omega)
    · subst q
      rw [p3, p4, (p2 i hij).1, (p2 i hij).2]
      exact lo i hij
    · rw [(p5 j q (by omega)).1, (p5 j q (by omega)).2]
      rcases Nat.lt_trichotomy i p with r | r | r
      · rw [(p2 i r).1, (p2 i r).2]
        have a := lo i r
        have b := hi (j - 1) (by omega) (by omega)
        omega
      · subst r
        rw [p3, p4]
        exact hi (j - 1) (by omega) (by omega)
      · rw [(p5 i r (by omega)).1, (p5 i r (by omega)).2]
        exact hs (i - 1) (j - 1) (by omega) (by omega)
  · rcases Nat.lt_trichotomy i p with r | r | r
    · exact Or.inr ⟨i, by omega, p2 i r⟩
    · subst r
      exact Or.inl ⟨p3, p4⟩
    · exact Or.inr ⟨i - 1, by omega, p5 i r (by omega)⟩
  · rcases Nat.lt_or_ge k p with r | r
    · exact ⟨k, by omega, p2 k r⟩
    · exact ⟨k + 1, by omega, p5 (k + 1) (by omega) (by omega)⟩
/-- what stays when those that x, y matches are dropped -/
theorem dm_at {x y n : Nat} {f g : Nat → Nat} (hs : sorted2 n f g) : ∀ k, k ≤ n → (∀ j, k ≤ j → (dm x y f g k).1 j = f j ∧ (dm x y f g k).2.1 j = g j) ∧ (∀ i, i < (dm x y f g k).2.2 → ∃ q, q < k ∧ (dm x y f g k).1 i = f q ∧ (dm x y f g k).2.1 i = g q ∧ (f q < x ∨ g q < y)) ∧ sorted2 (dm x y f g k).2.2 (dm x y f g k).1 (dm x y f g k).2.1 ∧ ∀ q, q < k → (f q < x ∨ g q < y) → ∃ i, i < (dm x y f g k).2.2 ∧ (dm x y f g k).1 i = f q ∧ (dm x y f g k).2.1 i = g q
  | 0, _ => ⟨fun j _ => ⟨rfl, rfl⟩, fun i h => absurd h (Nat.not_lt_zero _), fun i j _ h => absurd h (Nat.not_lt_zero _), fun q h => absurd h (Nat.not_lt_zero _)⟩
  | k + 1, hk => by
    obtain ⟨a, b, c, d⟩ := dm_at (x := x) (y := y) hs k (by omega)
    have hle := dm_le (x := x) (y := y) (fw := f) (fh := g) k
    rw [dm]
    generalize dm x y f g k = u at a b c d hle ⊢
    obtain ⟨a1, a2⟩ := a k (Nat.le_refl _)
    by_cases hc : u.1 k < x ∨ u.2.1 k < y
    · rw [if_pos hc]
      dsimp only
      refine ⟨fun j hj => ?_, fun i hi => ?_, fun i j hij hj => ?_, fun q hq hqx => ?_⟩
      · rw [va_up_ne _ _ (by omega), va_up_ne _ _ (by omega)]
        exact a j (by omega)
      · by_cases e : i = u.2.2
        · subst e
          rw [va_up_self, va_up_self]
          exact ⟨k, by omega, a1, a2, by rw [← a1, ← a2]; exact hc⟩
        · rw [va_up_ne _ _ e, va_up_ne _ _ e]
          obtain ⟨q, q1, q2⟩ := b i (by omega)
          exact ⟨q, by omega, q2⟩
      · by_cases e : j = u.2.2
        · subst e
          rw [va_up_self, va_up_self, va_up_ne _ _ (by omega), va_up_ne _ _ (by omega), a1, a2]
          obtain ⟨q, q1, q2, q3, -⟩ := b i hij
          rw [q2, q3]
          exact hs q k q1 (by omega)
        · rw [va_up_ne _ _ e, va_up_ne _ _ e, va_up_ne _ _ (by omega), va_up_ne _ _ (by omega)]
          exact c i j hij (by omega)
      · by_cases e : q = k
        · subst e
          exact ⟨u.2.2, by omega, by rw [va_up_self, a1], by rw [va_up_self, a2]⟩
        · obtain ⟨i, i1, i2, i3⟩ := d q (by omega) hqx
          exact ⟨i, by omega, by rw [va_up_ne _ _ (by omega)]; exact i2, by rw [va_up_ne _ _ (by omega)]; exact i3⟩
    · rw [if_neg hc]
      refine ⟨fun j hj => a j (by omega), fun i hi => ?_, c, fun q hq hqx => ?_⟩
      · obtain ⟨q, q1, q2⟩ := b i hi
        exact ⟨q, by omega, q2⟩
      · by_cases e : q = k
        · subst e
          rw [a1, a2] at hc
          exact absurd hqx hc
        · exact d q (by omega) hqx
theorem hm_iff {fw fh : Nat → Nat} {x y : Nat} : ∀ k, hm fw fh x y k = true ↔ ∃ i, i < k ∧ fw i ≤ x ∧ fh i ≤ y
  | 0 => ⟨fun h => absurd (show false = true from h) (by decide), fun ⟨i, h, _⟩ => absurd h (Nat.not_lt_zero _)⟩
  | k + 1 => by
    rw [hm, Bool.or_eq_true, hm_iff k, Bool.and_eq_true, decide_eq_true_iff, decide_eq_true_iff]
    constructor
    · rintro (⟨i, h1, h2⟩ | h)
      · exact ⟨i, by omega, h2⟩
      · exact ⟨k, by omega, h⟩
    · rintro ⟨i, h1, h2⟩
      by_cases e : i = k
      · subst e
        exact Or.inr h2
      · exact Or.inl ⟨i, by omega, h2⟩
/-- a shape is offered -/
theorem sh_ofr {S : Nat → Nat → Prop} {cap x y : Nat} {u : FL} (h : isSh S u.2.2 u.1 u.2.1) (hcap : ∀ n f g, isSh (fun a b => S a b ∨ (a = x ∧ b = y)) n f g → n ≤ cap) : isSh (fun a b => S a b ∨ (a = x ∧ b = y)) (ofr cap x y u).2.2 (ofr cap x y u).1 (ofr cap x y u).2.1 := by
  obtain ⟨h1, h2, h3⟩ := h
  unfold ofr
  by_cases hm1 : hm u.1 u.2.1 x y u.2.2 = true
  · rw [if_pos hm1]
    refine ⟨h1, fun k hk => Or.inl (h2 k hk), fun a b hab => ?_⟩
    rcases hab with q | ⟨rfl, rfl⟩
    · exact h3 a b q
    · exact (hm_iff _).mp hm1
  · rw [if_neg hm1]
    obtain ⟨-, b, c, d⟩ := dm_at (x := x) (y := y) h1 u.2.2 (Nat.le_refl _)
    have hno : ∀ i, i < u.2.2 → ¬ (u.1 i ≤ x ∧ u.2.1 i ≤ y) := fun i hi q => hm1 ((hm_iff _).mpr ⟨i, hi, q⟩)
    generalize dm x y u.1 u.2.1 u.2.2 = w at b c d ⊢
    have hfr : ∀ k, k < w.2.2 → (w.1 k < x ∧ y < w.2.1 k) ∨ (x < w.1 k ∧ w.2.1 k < y) := fun k hk => by
      obtain ⟨q, q1, q2, q3, q4⟩ := b k hk
      have := hno q q1
      omega
    obtain ⟨e1, e2, e3, e4⟩ := ins_sh (x := x) (y := y) c hfr
    have key : isSh (fun a b => S a b ∨ (a = x ∧ b = y)) (w.2.2 + 1) (ins x y w.2.2 w.1 w.2.1).1 (ins x y w.2.2 w.1 w.2.1).2 := by
      refine ⟨e1, fun i hi => ?_, fun a' b' hab => ?_⟩
      · rcases e2 i hi with q | ⟨k, k1, k2, k3⟩
        · exact Or.inr q
        · obtain ⟨q, q1, q2, q3, q4⟩ := b k k1
          rw [k2, k3, q2, q3]
          exact Or.inl (h2 q q1)
      · rcases hab with q | ⟨rfl, rfl⟩
        · obtain ⟨k, k1, k2, k3⟩ := h3 a' b' q
          by_cases hx : u.1 k < x ∨ u.2.1 k < y
          · obtain ⟨i, i1, i2, i3⟩ := d k k1 hx
            obtain ⟨j, j1, j2, j3⟩ := e4 i i1
            exact ⟨j, j1, by rw [j2, i2]; exact k2, by rw [j3, i3]; exact k3⟩
          · obtain ⟨j, j1, j2, j3⟩ := e3
            exact ⟨j, j1, by rw [j2]; omega, by rw [j3]; omega⟩
        · obtain ⟨j, j1, j2, j3⟩ := e3
          exact ⟨j, j1, by omega, by omega⟩
    have hc := hcap _ _ _ key
    rw [if_pos (by omega)]
    exact key
/-! the reference's settling of a family that is told by two rows -/
def fam (m : Nat) (f g : Nat → Nat) : Nat → Nat → Prop := fun a b => ∃ j, j < m ∧ f j = a ∧ g j = b
def st1 (f g : Nat → Nat) (i j : Nat) : Bool := if f j = f i ∧ g j = g i then decide (i ≤ j) else (decide (f i < f j) || decide (g i < g j))
/-- does i stay, against the first k -/
def stB (f g : Nat → Nat) (i : Nat) : Nat → Bool
  | 0 => true
  | k + 1 => stB f g i k && st1 f g i k
theorem stB_iff {f g : Nat → Nat} {i : Nat} : ∀ k, stB f g i k = true ↔ ∀ j, j < k → st1 f g i j = true
  | 0 => ⟨fun _ j h => absurd h (Nat.not_lt_zero _), fun _ => rfl⟩
  | k + 1 => by
    rw [stB, Bool.and_eq_true, stB_iff k]
    constructor
    · rintro ⟨h1, h2⟩ j hj
      by_cases e : j = k
      · subst e; exact h2
      · exact h1 j (by omega)
    · intro h
      exact ⟨fun j hj => h j (by omega), h k (by omega)⟩
def stl (m : Nat) (f g fw fh : Nat → Nat) : Nat → FL
  | 0 => (fw, fh, 0)
  | i + 1 => if stB f g i m = true then ((ins (f i) (g i) (stl m f g fw fh i).2.2 (stl m f g fw fh i).1 (stl m f g fw fh i).2.1).1, (ins (f i) (g i) (stl m f g fw fh i).2.2 (stl m f g fw fh i).1 (stl m f g fw fh i).2.1).2, (stl m f g fw fh i).2.2 + 1) else stl m f g fw fh i
theorem stl_at {m : Nat} {f g fw fh : Nat → Nat} : ∀ i, i ≤ m → sorted2 (stl m f g fw fh i).2.2 (stl m f g fw fh i).1 (stl m f g fw fh i).2.1 ∧ (∀ k, k < (stl m f g fw fh i).2.2 → ∃ q, q < i ∧ stB f g q m = true ∧ (stl m f g fw fh i).1 k = f q ∧ (stl m f g fw fh i).2.1 k = g q) ∧ ∀ q, q < i → stB f g q m = true → ∃ k, k < (stl m f g fw fh i).2.2 ∧ (stl m f g fw fh i).1 k = f q ∧ (stl m f g fw fh i).2.1 k = g q
  | 0, _ => ⟨fun i j _ h => absurd h (Nat.not_lt_zero _), fun k h => absurd h (Nat.not_lt_zero _), fun q h => absurd h (Nat.not_lt_zero _)⟩
  | i + 1, hi => by
    obtain ⟨a, b, c⟩ := stl_at (m := m) (f := f) (g := g) (fw := fw) (fh := fh) i (by omega)
    rw [stl]
    generalize stl m f g fw fh i = u at a b c ⊢
    by_cases hs : stB f g i m = true
    · rw [if_pos hs]
      have hfr : ∀ k, k < u.2.2 → (u.1 k < f i ∧ g i < u.2.1 k) ∨ (f i < u.1 k ∧ u.2.1 k < g i) := fun k hk => by
        obtain ⟨q, q1, q2, q3, q4⟩ := b k hk
        have r1 := (stB_iff m).mp hs q (by omega)
        have r2 := (stB_iff m).mp q2 i (by omega)
        unfold st1 at r1 r2
        have hne : ¬ (f q = f i ∧ g q = g i) := fun z => by
          rw [if_pos z, decide_eq_true_iff] at r1
          omega
        rw [if_neg hne, Bool.or_eq_true, decide_eq_true_iff, decide_eq_true_iff] at r1
        rw [if_neg (fun z => hne ⟨z.1.symm, z.2.symm⟩), Bool.or_eq_true, decide_eq_true_iff, decide_eq_true_iff] at r2
        omega
      obtain ⟨e1, e2, e3, e4⟩ := ins_sh (x := f i) (y := g i) a hfr
      dsimp only
      refine ⟨e1, fun k hk => ?_, fun q hq hqs => ?_⟩
      · rcases e2 k hk with z | ⟨j, j1, j2, j3⟩
        · exact ⟨i, by omega, hs, z⟩
        · obtain ⟨q, q1, q2, q3, q4⟩ := b j j1
          exact ⟨q, by omega, q2, j2.trans q3, j3.trans q4⟩
      · by_cases e : q = i
        · subst e
          exact e3
        · obtain ⟨j, j1, j2, j3⟩ := c q (by omega) hqs
          obtain ⟨k, k1, k2, k3⟩ := e4 j j1
          exact ⟨k, k1, k2.trans j2, k3.trans j3⟩
    · rw [if_neg hs]
      refine ⟨a, fun k hk => ?_, fun q hq hqs => ?_⟩
      · obtain ⟨q, q1, q2⟩ := b k hk
        exact ⟨q, by omega, q2⟩
      · by_cases e : q = i
        · subst e
          exact absurd hqs hs
        · exact c q (by omega) hqs
/-- one that stays matches it -/
theorem st_cov {m : Nat} {f g : Nat → Nat} : ∀ (r j : Nat), j < m → (f j + g j) * (m + 1) + j ≤ r → ∃ q, q < m ∧ stB f g q m = true ∧ f q ≤ f j ∧ g q ≤ g j := by
  intro r
  induction r using Nat.strongRecOn with
  | _ r ih =>
    intro j hj hr
    by_cases hs : stB f g j m = true
    · exact ⟨j, hj, hs, Nat.le_refl _, Nat.le_refl _⟩
    · have hex : ∃ i, i < m ∧ st1 f g j i = false := by
        apply Classical.byContradiction
        intro hn
        refine hs ((stB_iff m).mpr fun i hi => ?_)
        cases hq : st1 f g j i with
        | true => rfl
        | false => exact absurd ⟨i, hi, hq⟩ hn
      obtain ⟨i, hi, hf⟩ := hex
      have key : f i ≤ f j ∧ g i ≤ g j ∧ (f i + g i) * (m + 1) + i < (f j + g j) * (m + 1) + j := by
        unfold st1 at hf
        by_cases he : f i = f j ∧ g i = g j
        · rw [if_pos he, decide_eq_false_iff_not] at hf
          rw [he.1, he.2]
          omega
        · rw [if_neg he, Bool.or_eq_false_iff, decide_eq_false_iff_not, decide_eq_false_iff_not] at hf
          have hlt : f i + g i + 1 ≤ f j + g j := by omega
          have := Nat.mul_le_mul_right (m + 1) hlt
          rw [Nat.add_mul] at this
          omega
      obtain ⟨q, q1, q2, q3, q4⟩ := ih _ (Nat.lt_of_lt_of_le key.2.2 hr) i hi (Nat.le_refl _)
      exact ⟨q, q1, q2, Nat.le_trans q3 key.1, Nat.le_trans q4 key.2.1⟩
theorem stl_sh {m : Nat} {f g fw fh : Nat → Nat} : isSh (fam m f g) (stl m f g fw fh m).2.2 (stl m f g fw fh m).1 (stl m f g fw fh m).2.1 := by
  obtain ⟨a, b, c⟩ := stl_at (m := m) (f := f) (g := g) (fw := fw) (fh := fh) m (Nat.le_refl _)
  refine ⟨a, fun k hk => ?_, fun x y hxy => ?_⟩
  · obtain ⟨q, q1, q2, q3, q4⟩ := b k hk
    exact ⟨q, q1, q3.symm, q4.symm⟩
  · obtain ⟨j, j1, rfl, rfl⟩ := hxy
    obtain ⟨q, q1, q2, q3, q4⟩ := st_cov (f := f) (g := g) _ j j1 (Nat.le_refl _)
    obtain ⟨k, k1, k2, k3⟩ := c q q1 q2
    exact ⟨k, k1, by rw [k2]; exact q3, by rw [k3]; exact q4⟩
/-- how many there are at most, on the way -/
theorem stl_cap {m i cap : Nat} {f g fw fh E : Nat → Nat} (hi : i ≤ m) (hE : (∀ k, k < m → ∃ q, q < cap ∧ E q = f k) ∨ (∀ k, k < m → ∃ q, q < cap ∧ E q = g k)) : (stl m f g fw fh i).2.2 ≤ cap := by
  obtain ⟨a, b, -⟩ := stl_at (m := m) (f := f) (g := g) (fw := fw) (fh := fh) i hi
  refine sh_cap (E := E) a ?_
  rcases hE with h | h
  · left
    intro k hk
    obtain ⟨q, q1, -, q3, q4⟩ := b k hk
    rw [q3]
    exact h q (by omega)
  · right
    intro k hk
    obtain ⟨q, q1, -, q3, q4⟩ := b k hk
    rw [q4]
    exact h q (by omega)
