/-! class and reference: the same blocks, the same plan -/
def RelB (n : Nat) (B : BS) (M : MS) : Prop := B.2.2.2 = n ∧ M.2.2.1 17 = n ∧ ∀ v, v < n → M.1 11 v = B.1 0 v ∧ M.1 12 v = B.1 1 v ∧ M.2.1 13 v = B.2.1 v ∧ M.2.1 14 v = B.2.2.1 v ∧ M.1 15 v = B.1 2 v ∧ M.1 16 v = B.1 3 v
def RelP (n : Nat) (Q : PS) (M : MS) (q : Nat) : Prop := ∀ k, k < n → M.1 21 (16 * q + k) = Q.1 0 k ∧ M.1 22 (16 * q + k) = Q.1 2 k ∧ M.2.1 23 (16 * q + k) = Q.2.1 k
def eeX (B : BS) (Q : PS) : Nat → Nat := lt_go (Q.1 0) (Q.1 3) true B.2.2.1 (B.1 2) (zt Q.2.1 (B.1 0) (B.1 1)) B.2.2.2
def eeY (B : BS) (Q : PS) : Nat → Nat := lt_go (Q.1 2) (Q.1 1) false B.2.2.1 (B.1 3) (zt Q.2.1 (B.1 1) (B.1 0)) B.2.2.2
def pX (B : BS) (Q : PS) : Nat → Nat := fun v => eeX B Q v - zt Q.2.1 (B.1 0) (B.1 1) v
def pY (B : BS) (Q : PS) : Nat → Nat := fun v => eeY B Q v - zt Q.2.1 (B.1 1) (B.1 0) v
theorem ord_of {n q : Nat} {Q : PS} {M : MS} (hw : wfQ n Q) (hr : RelP n Q M q) : ordM M q n (Q.1 1) (Q.1 3) := by
  obtain ⟨-, h1, h2⟩ := hw
  intro v hv
  obtain ⟨a1, a2⟩ := h1.2 v hv
  obtain ⟨b1, b2⟩ := h2.2 v hv
  refine ⟨⟨a1, by rw [(hr _ a1).1, a2], fun j hj e => ?_⟩, ⟨b1, by rw [(hr _ b1).2.1, b2], fun j hj e => ?_⟩⟩
  · rw [(hr j (by omega)).1] at e
    have := (h1.1 j (by omega)).2
    rw [e] at this
    omega
  · rw [(hr j (by omega)).2.1] at e
    have := (h2.1 j (by omega)).2
    rw [e] at this
    omega
theorem wd_of {n q v : Nat} {B : BS} {Q : PS} {M : MS} (hb : RelB n B M) (hr : RelP n Q M q) (hv : v < n) : wdM M q v = zt Q.2.1 (B.1 0) (B.1 1) v ∧ hgM M q v = zt Q.2.1 (B.1 1) (B.1 0) v := by
  obtain ⟨-, -, h⟩ := hb
  obtain ⟨h1, h2, -⟩ := h v hv
  unfold wdM hgM zt
  rw [(hr v hv).2.2, h1, h2]
  exact ⟨rfl, rfl⟩
theorem sol_of {n q : Nat} {B : BS} {Q : PS} {M : MS} (hb : RelB n B M) (hw : wfQ n Q) (hr : RelP n Q M q) :
    solM n (Q.1 1) (Q.1 3) (wdM M q) (hgM M q) (M.1 15) (M.1 16) (pX B Q) (pY B Q) (M.2.1 14) ∧
    ((lyR B Q).1 = true ↔ okM n (Q.1 1) (Q.1 3) (wdM M q) (hgM M q) (pX B Q) (pY B Q)) ∧
    (∀ v, v < n → pX B Q v + wdM M q v = eeX B Q v ∧ pY B Q v + hgM M q v = eeY B Q v) ∧
    ((lyR B Q).1 = true → (∀ v, v < n → (lyQ B Q).1 4 v = pX B Q v ∧ (lyQ B Q).1 5 v = pY B Q v ∧ (lyQ B Q).1 6 v = eeX B Q v ∧ (lyQ B Q).1 7 v = eeY B Q v) ∧ (lyQ B Q).1 8 0 = mxE (eeX B Q) (Q.1 0) n ∧ (lyQ B Q).1 8 1 = mxE (eeY B Q) (Q.1 2) n) := by
  have hwd : ∀ v, v < n → wdM M q v = zt Q.2.1 (B.1 0) (B.1 1) v ∧ hgM M q v = zt Q.2.1 (B.1 1) (B.1 0) v := fun v hv => wd_of hb hr hv
  obtain ⟨hn, -, hB⟩ := hb
  obtain ⟨-, h1, h2⟩ := hw
  subst hn
  obtain ⟨x1, x2, x3, x4, x5⟩ := ax_sol (po := Q.1 3) (wb := true) (fixd := B.2.2.1) (T := B.1 2) (Z := zt Q.2.1 (B.1 0) (B.1 1)) h1.1 h1.2
  obtain ⟨y1, y2, y3, y4, y5⟩ := ax_sol (po := Q.1 1) (wb := false) (fixd := B.2.2.1) (T := B.1 3) (Z := zt Q.2.1 (B.1 1) (B.1 0)) h2.1 h2.2
  have inj1 : ∀ j k, j < B.2.2.2 → k < B.2.2.2 → Q.1 0 j = Q.1 0 k → j = k := fun j k hj hk h => by rw [← (h1.1 j hj).2, h, (h1.1 k hk).2]
  have inj2 : ∀ j k, j < B.2.2.2 → k < B.2.2.2 → Q.1 2 j = Q.1 2 k → j = k := fun j k hj hk h => by rw [← (h2.1 j hj).2, h, (h2.1 k hk).2]
  have injp : ∀ u v, u < B.2.2.2 → v < B.2.2.2 → Q.1 3 u = Q.1 3 v → u = v := fun u v hu hv h => by rw [← (h2.2 u hu).2, h, (h2.2 v hv).2]
  have eX_iff : ∀ u v, u < B.2.2.2 → v < B.2.2.2 → (eX (Q.1 1) (Q.1 3) u v ↔ Q.1 1 u < Q.1 1 v ∧ decide (Q.1 3 u < Q.1 3 v) = true) := fun u v hu hv => by
    unfold eX
    rw [decide_eq_true_iff]
    constructor
    · rintro ⟨a, b, c⟩
      refine ⟨c, ?_⟩
      have : Q.1 3 u ≠ Q.1 3 v := fun z => a (injp u v hu hv z)
      omega
    · rintro ⟨a, b⟩
      exact ⟨fun z => by rw [z] at a; omega, by omega, a⟩
  have eY_iff : ∀ u v, u < B.2.2.2 → v < B.2.2.2 → (eY (Q.1 1) (Q.1 3) u v ↔ Q.1 3 u < Q.1 3 v ∧ decide (Q.1 1 u < Q.1 1 v) = false) := fun u v hu hv => by
    unfold eY
    rw [decide_eq_false_iff_not]
    constructor
    · rintro ⟨a, b, c⟩
      have : Q.1 3 u ≠ Q.1 3 v := fun z => a (injp u v hu hv z)
      omega
    · rintro ⟨a, b⟩
      exact ⟨fun z => by rw [z] at a; omega, by omega, by omega⟩
  have hee : ∀ v, v < B.2.2.2 → pX B Q v + wdM M q v = eeX B Q v ∧ pY B Q v + hgM M q v = eeY B Q v := fun v hv => by
    have a := x1 v hv
    have b := y1 v hv
    rw [(hwd v hv).1, (hwd v hv).2]
    unfold pX pY eeX eeY
    omega
  have ux : lt_go (Q.1 0) (Q.1 3) true B.2.2.1 (B.1 2) (zt Q.2.1 (B.1 0) (B.1 1)) B.2.2.2 = eeX B Q := rfl
  have uy : lt_go (Q.1 2) (Q.1 1) false B.2.2.1 (B.1 3) (zt Q.2.1 (B.1 1) (B.1 0)) B.2.2.2 = eeY B Q := rfl
  rw [ux] at x1 x2 x3 x4 x5
  rw [uy] at y1 y2 y3 y4 y5
  obtain ⟨lx1, lx2⟩ := la_eq (po := Q.1 3) (wb := true) (fixd := B.2.2.1) (T := B.1 2) (Z := zt Q.2.1 (B.1 0) (B.1 1)) (X := Q.1 4) (E := Q.1 6) inj1 B.2.2.2 (Nat.le_refl _)
  obtain ⟨ly1, ly2⟩ := la_eq (po := Q.1 1) (wb := false) (fixd := B.2.2.1) (T := B.1 3) (Z := zt Q.2.1 (B.1 1) (B.1 0)) (X := Q.1 5) (E := Q.1 7) inj2 B.2.2.2 (Nat.le_refl _)
  rw [ux] at lx1 lx2
  rw [uy] at ly1 ly2
  refine ⟨⟨fun v hv hf => ?_, fun u v hu hv hf => ⟨fun he => ?_, fun he => ?_⟩, fun v hv hf => ⟨?_, ?_⟩⟩, ?_, hee, fun hok => ?_⟩
  · obtain ⟨-, -, -, f4, f5, f6⟩ := hB v hv
    rw [f4] at hf
    have a := x2 v hv hf
    have b := y2 v hv hf
    have c := hee v hv
    rw [(hwd v hv).1, (hwd v hv).2] at c
    rw [f5, f6]
    omega
  · obtain ⟨-, -, -, f4, -, -⟩ := hB v hv
    rw [f4] at hf
    obtain ⟨e1, e2⟩ := (eX_iff u v hu hv).mp he
    have a := x3 u v hu hv hf e1 e2
    have c := hee v hv
    rw [(hee u hu).1]
    rw [(hwd v hv).1, (hwd v hv).2] at c
    omega
  · obtain ⟨-, -, -, f4, -, -⟩ := hB v hv
    rw [f4] at hf
    obtain ⟨e1, e2⟩ := (eY_iff u v hu hv).mp he
    have a := y3 u v hu hv hf e1 e2
    have c := hee v hv
    rw [(hee u hu).2]
    rw [(hwd v hv).1, (hwd v hv).2] at c
    omega
  · obtain ⟨-, -, -, f4, -, -⟩ := hB v hv
    rw [f4] at hf
    have c := hee v hv
    rw [(hwd v hv).1, (hwd v hv).2] at c
    rcases x4 v hv hf with e | ⟨u, hu, e1, e2, e3⟩
    · exact Or.inl (by omega)
    · exact Or.inr ⟨u, hu, (eX_iff u v hu hv).mpr ⟨e1, e2⟩, by rw [(hee u hu).1]; omega⟩
  · obtain ⟨-, -, -, f4, -, -⟩ := hB v hv
    rw [f4] at hf
    have c := hee v hv
    rw [(hwd v hv).1, (hwd v hv).2] at c
    rcases y4 v hv hf with e | ⟨u, hu, e1, e2, e3⟩
    · exact Or.inl (by omega)
    · exact Or.inr ⟨u, hu, (eY_iff u v hu hv).mpr ⟨e1, e2⟩, by rw [(hee u hu).2]; omega⟩
  · have hlr : (lyR B Q).1 = ((la_go (Q.1 0) (Q.1 3) true B.2.2.1 (B.1 2) (zt Q.2.1 (B.1 0) (B.1 1)) (Q.1 4) (Q.1 6) B.2.2.2).1 && (la_go (Q.1 2) (Q.1 1) false B.2.2.1 (B.1 3) (zt Q.2.1 (B.1 1) (B.1 0)) (Q.1 5) (Q.1 7) B.2.2.2).1) := rfl
    rw [hlr, Bool.and_eq_true, lx1, ly1, x5, y5]
    constructor
    · rintro ⟨a, b⟩ u v hu hv
      have c := hee v hv
      rw [(hwd v hv).1, (hwd v hv).2] at c
      refine ⟨fun he => ?_, fun he => ?_⟩
      · obtain ⟨e1, e2⟩ := (eX_iff u v hu hv).mp he
        rw [(hee u hu).1]
        cases hf : B.2.2.1 v with
        | true => have := a u v hu hv hf e1 e2; have := x2 v hv hf; omega
        | false => have := x3 u v hu hv hf e1 e2; omega
      · obtain ⟨e1, e2⟩ := (eY_iff u v hu hv).mp he
        rw [(hee u hu).2]
        cases hf : B.2.2.1 v with
        | true => have := b u v hu hv hf e1 e2; have := y2 v hv hf; omega
        | false => have := y3 u v hu hv hf e1 e2; omega
    · intro h
      refine ⟨fun u v hu hv hf e1 e2 => ?_, fun u v hu hv hf e1 e2 => ?_⟩
      · have a := (h u v hu hv).1 ((eX_iff u v hu hv).mpr ⟨e1, e2⟩)
        rw [(hee u hu).1] at a
        have c := hee v hv
        rw [(hwd v hv).1, (hwd v hv).2] at c
        have := x2 v hv hf
        omega
      · have a := (h u v hu hv).2 ((eY_iff u v hu hv).mpr ⟨e1, e2⟩)
        rw [(hee u hu).2] at a
        have c := hee v hv
        rw [(hwd v hv).1, (hwd v hv).2] at c
        have := y2 v hv hf
        omega
  · have hok' := hok
    unfold lyR lay at hok'
    simp only [Bool.and_eq_true] at hok'
    obtain ⟨ok1, ok2⟩ := hok'
    obtain ⟨gx, gx2⟩ := lx2 ok1
    obtain ⟨gy, gy2⟩ := ly2 ok2
    have e5 : (lyQ B Q).1 5 = (la_go (Q.1 2) (Q.1 1) false B.2.2.1 (B.1 3) (zt Q.2.1 (B.1 1) (B.1 0)) (Q.1 5) (Q.1 7) B.2.2.2).2.1 := by
      show (lyR B Q).2.2.1 = _
      unfold lyR lay
      dsimp only
      rw [if_pos ok1]
    have e7 : (lyQ B Q).1 7 = (la_go (Q.1 2) (Q.1 1) false B.2.2.1 (B.1 3) (zt Q.2.1 (B.1 1) (B.1 0)) (Q.1 5) (Q.1 7) B.2.2.2).2.2.1 := by
      show (lyR B Q).2.2.2.2.1 = _
      unfold lyR lay
      dsimp only
      rw [if_pos ok1]
    have e8 : (lyQ B Q).1 8 = va_up (va_up (Q.1 8) 0 (la_go (Q.1 0) (Q.1 3) true B.2.2.1 (B.1 2) (zt Q.2.1 (B.1 0) (B.1 1)) (Q.1 4) (Q.1 6) B.2.2.2).2.2.2) 1 (la_go (Q.1 2) (Q.1 1) false B.2.2.1 (B.1 3) (zt Q.2.1 (B.1 1) (B.1 0)) (Q.1 5) (Q.1 7) B.2.2.2).2.2.2 := by
      show (lyR B Q).2.2.2.2.2 = _
      unfold lyR lay
      dsimp only
      rw [if_pos ok1, if_pos ok2]
    refine ⟨fun v hv => ?_, ?_, ?_⟩
    · have a := gx (Q.1 1 v) (h1.2 v hv).1
      have b := gy (Q.1 3 v) (h2.2 v hv).1
      rw [(h1.2 v hv).2] at a
      rw [(h2.2 v hv).2] at b
      have c := hee v hv
      rw [(hwd v hv).1, (hwd v hv).2] at c
      have e4 : (lyQ B Q).1 4 = (la_go (Q.1 0) (Q.1 3) true B.2.2.1 (B.1 2) (zt Q.2.1 (B.1 0) (B.1 1)) (Q.1 4) (Q.1 6) B.2.2.2).2.1 := rfl
      have e6 : (lyQ B Q).1 6 = (la_go (Q.1 0) (Q.1 3) true B.2.2.1 (B.1 2) (zt Q.2.1 (B.1 0) (B.1 1)) (Q.1 4) (Q.1 6) B.2.2.2).2.2.1 := rfl
      rw [e4, e5, e6, e7]
      omega
    · rw [e8, va_up_ne _ _ (by decide), va_up_self]
      exact gx2
    · rw [e8, va_up_self]
      exact gy2
