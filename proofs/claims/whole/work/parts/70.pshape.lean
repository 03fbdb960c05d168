/-! the class's shapes are the least shapes of their family -/
theorem ofr_b {cap x y b : Nat} {u : FL} (h : ∀ i, u.1 i < b ∧ u.2.1 i < b) (hx : x < b) (hy : y < b) : ∀ i, (ofr cap x y u).1 i < b ∧ (ofr cap x y u).2.1 i < b := by
  unfold ofr
  split
  · exact h
  · obtain ⟨a, p, q⟩ := dm_ok (x := x) (y := y) (fun i => (h i).1) (fun i => (h i).2) u.2.2
    split
    · obtain ⟨p2, q2⟩ := ins_ok (x := x) (y := y) hx hy (dm x y u.1 u.2.1 u.2.2).2.2 _ _ p q
      exact fun i => ⟨p2 i, q2 i⟩
    · exact fun i => ⟨p i, q i⟩
theorem ob_b {tu : Bool} {x y b : Nat} (hx : x < b) (hy : y < b) : ∀ i, (obL tu x y).1 i < b ∧ (obL tu x y).2.1 i < b := by
  have h0 : ∀ i, z0F.1 i < b ∧ z0F.2.1 i < b := fun i => ⟨by show 0 < b; omega, by show 0 < b; omega⟩
  unfold obL
  split
  · exact ofr_b (ofr_b h0 hx hy) hy hx
  · exact ofr_b h0 hx hy
theorem slJ_b {ac : Bool} {cap i a b : Nat} {wa ha wb hb : Nat → Nat} {u : FL} (h : ∀ i, u.1 i < a + b ∧ u.2.1 i < a + b) (h1 : ∀ i, wa i < a ∧ ha i < a) (h2 : ∀ i, wb i < b ∧ hb i < b) : ∀ j k, (slJ ac cap wa ha wb hb i u j).1 k < a + b ∧ (slJ ac cap wa ha wb hb i u j).2.1 k < a + b
  | 0 => h
  | j + 1 => by
    have p := h1 i
    have q := h2 j
    refine ofr_b (slJ_b h h1 h2 j) ?_ ?_ <;> split <;> omega
theorem slI_b {ac : Bool} {cap nb a b : Nat} {wa ha wb hb : Nat → Nat} (h1 : ∀ i, wa i < a ∧ ha i < a) (h2 : ∀ i, wb i < b ∧ hb i < b) : ∀ i k, (slI ac cap wa ha wb hb nb i).1 k < a + b ∧ (slI ac cap wa ha wb hb nb i).2.1 k < a + b
  | 0 => fun k => by
    have := h1 0
    exact ⟨by show 0 < a + b; omega, by show 0 < a + b; omega⟩
  | i + 1 => slJ_b (slI_b h1 h2 i) h1 h2 nb
theorem sh_none {f g : Nat → Nat} : isSh (fun _ _ => False) 0 f g := ⟨fun _ _ _ h => absurd h (Nat.not_lt_zero _), fun _ h => absurd h (Nat.not_lt_zero _), fun _ _ h => h.elim⟩
theorem ob_sh {tu : Bool} {x y : Nat} : isSh (bkS tu x y) (obL tu x y).2.2 (obL tu x y).1 (obL tu x y).2.1 := by
  have h1 : isSh (fun a b => False ∨ (a = x ∧ b = y)) (ofr 2 x y z0F).2.2 (ofr 2 x y z0F).1 (ofr 2 x y z0F).2.1 := sh_ofr (u := z0F) sh_none (fun n f g h => by
    have := sh_cap (m := 1) (E := fun _ => x) h.1 (Or.inl (fun k hk => ⟨0, by decide, by rcases h.2.1 k hk with q | q; exact q.elim; exact q.1.symm⟩))
    omega)
  unfold obL
  cases tu with
  | false =>
    rw [if_neg (by decide)]
    refine sh_S (fun a b => ?_) h1
    unfold bkS
    simp
  | true =>
    rw [if_pos rfl]
    refine sh_S (S := fun a b => (False ∨ (a = x ∧ b = y)) ∨ (a = y ∧ b = x)) (fun a b => ?_) (sh_ofr h1 (fun n f g h => sh_cap (m := 2) (E := fun q => if q = 0 then x else y) h.1 (Or.inl (fun k hk => ?_))))
    · unfold bkS
      simp
    · rcases h.2.1 k hk with (q | q) | q
      · exact q.elim
      · exact ⟨0, by decide, q.1.symm⟩
      · exact ⟨1, by decide, q.1.symm⟩
theorem cap_pairs {ac : Bool} {na nb n : Nat} {wa ha wb hb f g : Nat → Nat} {T : Nat → Nat → Prop} (hT : ∀ x y, T x y → slS ac na wa ha nb wb hb x y) (h : isSh T n f g) : n ≤ na + nb := by
  cases ac with
  | true =>
    refine sh_cap (E := fun q => if q < na then ha q else hb (q - na)) h.1 (Or.inr (fun k hk => ?_))
    obtain ⟨i, j, hi, hj, -, e⟩ := hT _ _ (h.2.1 k hk)
    rw [if_pos rfl] at e
    rcases Nat.le_total (ha i) (hb j) with q | q
    · exact ⟨na + j, by omega, by rw [if_neg (by omega), show na + j - na = j by omega, e]; omega⟩
    · exact ⟨i, by omega, by rw [if_pos hi, e]; omega⟩
  | false =>
    refine sh_cap (E := fun q => if q < na then wa q else wb (q - na)) h.1 (Or.inl (fun k hk => ?_))
    obtain ⟨i, j, hi, hj, e, -⟩ := hT _ _ (h.2.1 k hk)
    rw [if_neg (by decide)] at e
    rcases Nat.le_total (wa i) (wb j) with q | q
    · exact ⟨na + j, by omega, by rw [if_neg (by omega), show na + j - na = j by omega, e]; omega⟩
    · exact ⟨i, by omega, by rw [if_pos hi, e]; omega⟩
/-- the pairs before (i, j) -/
def slT (ac : Bool) (wa ha : Nat → Nat) (nb : Nat) (wb hb : Nat → Nat) (i j : Nat) : Nat → Nat → Prop := fun x y => ∃ u v, (u < i ∨ (u = i ∧ v < j)) ∧ v < nb ∧ x = (if ac = true then wa u + wb v else max (wa u) (wb v)) ∧ y = (if ac = true then max (ha u) (hb v) else ha u + hb v)
theorem slT_S {ac : Bool} {na nb i j : Nat} {wa ha wb hb : Nat → Nat} (hi : i < na) (x y : Nat) (h : slT ac wa ha nb wb hb i j x y) : slS ac na wa ha nb wb hb x y := by
  obtain ⟨u, v, a, b, c⟩ := h
  exact ⟨u, v, by omega, b, c⟩
theorem slJ_sh {ac : Bool} {na nb i : Nat} {wa ha wb hb : Nat → Nat} {u : FL} (hi : i < na) (h : isSh (slT ac wa ha nb wb hb i 0) u.2.2 u.1 u.2.1) : ∀ j, j ≤ nb → isSh (slT ac wa ha nb wb hb i j) (slJ ac (na + nb) wa ha wb hb i u j).2.2 (slJ ac (na + nb) wa ha wb hb i u j).1 (slJ ac (na + nb) wa ha wb hb i u j).2.1
  | 0, _ => h
  | j + 1, hj => by
    have ih := slJ_sh hi h j (by omega)
    have e : ∀ x y, (slT ac wa ha nb wb hb i j x y ∨ (x = (if ac = true then wa i + wb j else max (wa i) (wb j)) ∧ y = (if ac = true then max (ha i) (hb j) else ha i + hb j))) ↔ slT ac wa ha nb wb hb i (j + 1) x y := fun x y => by
      constructor
      · rintro (⟨p, q, a, b, c⟩ | ⟨a, b⟩)
        · exact ⟨p, q, by omega, b, c⟩
        · exact ⟨i, j, by omega, by omega, a, b⟩
      · rintro ⟨p, q, a, b, c, d⟩
        by_cases z : p = i ∧ q = j
        · obtain ⟨rfl, rfl⟩ := z
          exact Or.inr ⟨c, d⟩
        · exact Or.inl ⟨p, q, by omega, b, c, d⟩
    exact sh_S e (sh_ofr ih (fun n f g hh => cap_pairs (fun x y q => slT_S hi x y ((e x y).mp q)) hh))
theorem slI_sh {ac : Bool} {na nb : Nat} {wa ha wb hb : Nat → Nat} : ∀ i, i ≤ na → isSh (slT ac wa ha nb wb hb i 0) (slI ac (na + nb) wa ha wb hb nb i).2.2 (slI ac (na + nb) wa ha wb hb nb i).1 (slI ac (na + nb) wa ha wb hb nb i).2.1
  | 0, _ => sh_S (S := fun _ _ => False) (fun x y => ⟨fun h => h.elim, fun ⟨u, v, a, _⟩ => by omega⟩) sh_none
  | i + 1, hi => by
    have h := slJ_sh (na := na) (i := i) (by omega) (slI_sh (ac := ac) (na := na) (nb := nb) (wa := wa) (ha := ha) (wb := wb) (hb := hb) i (by omega)) nb (Nat.le_refl _)
    refine sh_S (fun x y => ⟨fun ⟨u, v, a, b, c⟩ => ⟨u, v, by omega, b, c⟩, fun ⟨u, v, a, b, c⟩ => ⟨u, v, by omega, b, c⟩⟩) h
theorem slI_S {ac : Bool} {na nb : Nat} {wa ha wb hb : Nat → Nat} : isSh (slS ac na wa ha nb wb hb) (slI ac (na + nb) wa ha wb hb nb na).2.2 (slI ac (na + nb) wa ha wb hb nb na).1 (slI ac (na + nb) wa ha wb hb nb na).2.1 := sh_S (fun x y => ⟨fun ⟨u, v, a, b, c⟩ => ⟨u, v, by omega, b, c⟩, fun ⟨u, v, a, b, c⟩ => ⟨u, v, by omega, b, c⟩⟩) (slI_sh na (Nat.le_refl _))
theorem slS_congr {ac : Bool} {na nb : Nat} {wa ha wb hb wa' ha' wb' hb' : Nat → Nat} (h1 : ∀ i, i < na → wa i = wa' i ∧ ha i = ha' i) (h2 : ∀ i, i < nb → wb i = wb' i ∧ hb i = hb' i) (x y : Nat) : slS ac na wa ha nb wb hb x y ↔ slS ac na wa' ha' nb wb' hb' x y := by
  constructor
  · rintro ⟨i, j, hi, hj, a, b⟩
    refine ⟨i, j, hi, hj, ?_, ?_⟩
    · rw [a, (h1 i hi).1, (h2 j hj).1]
    · rw [b, (h1 i hi).2, (h2 j hj).2]
  · rintro ⟨i, j, hi, hj, a, b⟩
    refine ⟨i, j, hi, hj, ?_, ?_⟩
    · rw [a, (h1 i hi).1, (h2 j hj).1]
    · rw [b, (h1 i hi).2, (h2 j hj).2]
/-- the least areas -/
theorem lar_lea {f g f' g' : Nat → Nat} : ∀ k, (∀ i, i ≤ k → f i = f' i ∧ g i = g' i ∧ f i * g i ≤ 9223372036854775807) → lar f g (k + 1) = lea f' g' k
  | 0, h => by
    obtain ⟨a, b, c⟩ := h 0 (Nat.le_refl _)
    show min 9223372036854775807 (f 0 * g 0) = f' 0 * g' 0
    rw [← a, ← b]
    omega
  | k + 1, h => by
    obtain ⟨a, b, c⟩ := h (k + 1) (Nat.le_refl _)
    rw [lar, lar_lea k (fun i hi => h i (by omega)), lea, a, b]
    split <;> omega
/-- a family that is not empty has a shape -/
theorem sh_pos {S : Nat → Nat → Prop} {n x y : Nat} {f g : Nat → Nat} (h : isSh S n f g) (hs : S x y) : 0 < n := by
  obtain ⟨k, hk, _⟩ := h.2.2 x y hs
  omega
theorem slJ_c {ac : Bool} {cap i a b : Nat} {wa ha wb hb : Nat → Nat} {u : FL} (h : ∀ i, u.1 i < a + b + 1 ∧ u.2.1 i < a + b + 1) (h1 : ∀ i, wa i ≤ a ∧ ha i ≤ a) (h2 : ∀ i, wb i ≤ b ∧ hb i ≤ b) : ∀ j k, (slJ ac cap wa ha wb hb i u j).1 k < a + b + 1 ∧ (slJ ac cap wa ha wb hb i u j).2.1 k < a + b + 1
  | 0 => h
  | j + 1 => by
    have p := h1 i
    have q := h2 j
    refine ofr_b (slJ_c h h1 h2 j) ?_ ?_ <;> split <;> omega
theorem slI_c0 {ac : Bool} {cap nb a b : Nat} {wa ha wb hb : Nat → Nat} (h1 : ∀ i, wa i ≤ a ∧ ha i ≤ a) (h2 : ∀ i, wb i ≤ b ∧ hb i ≤ b) : ∀ i k, (slI ac cap wa ha wb hb nb i).1 k < a + b + 1 ∧ (slI ac cap wa ha wb hb nb i).2.1 k < a + b + 1
  | 0 => fun k => ⟨by show 0 < a + b + 1; omega, by show 0 < a + b + 1; omega⟩
  | i + 1 => slJ_c (slI_c0 h1 h2 i) h1 h2 nb
theorem slI_c {ac : Bool} {cap nb a b c : Nat} {wa ha wb hb : Nat → Nat} (h1 : ∀ i, wa i ≤ a ∧ ha i ≤ a) (h2 : ∀ i, wb i ≤ b ∧ hb i ≤ b) (i : Nat) (hc : a + b = c) : ∀ k, (slI ac cap wa ha wb hb nb i).1 k < c + 1 ∧ (slI ac cap wa ha wb hb nb i).2.1 k < c + 1 := by
  subst hc
  exact slI_c0 h1 h2 i
