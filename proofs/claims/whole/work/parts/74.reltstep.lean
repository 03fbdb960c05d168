/-! a block, a slice: the things of both sides stay alike -/
theorem RelT_block {n tc x y : Nat} {tu : Bool} {bk : Nat → Int32} {us : Nat → Bool} {u : Nat → FL} {cap wt : Nat → Nat} {M : MS} {v : V7} (h : RelT n tc bk us u cap wt M) (hn : M.2.2.1 17 = n) (h16 : n < 16) (h40 : tc < 40) (hv : newSh (bkS tu x y) M v) (hx : x ≤ 1000) (hy : y ≤ 1000) :
    RelT (n + 1) (tc + 1) (va_up bk tc (nI n)) (va_up us tc false) (va_up u tc (obL tu x y)) (va_up cap tc 2) (va_up wt tc 1) (bkM v x y tu M) := by
  obtain ⟨h9, -, hb, hk, h5, hw, -, hu⟩ := h
  obtain ⟨s1, s2, s3⟩ := hv
  have e6 : (bkM v x y tu M).1 6 = v.1.1 := rfl
  have e7 : (bkM v x y tu M).1 7 = v.1.2 := rfl
  have e8 : (bkM v x y tu M).1 8 = va_up (M.1 8) (M.2.2.1 9) v.2.2 := rfl
  have e10 : (bkM v x y tu M).1 10 = va_up (M.1 10) (M.2.2.1 17) (M.2.2.1 9) := rfl
  have e5 : (bkM v x y tu M).2.1 5 = M.2.1 5 := rfl
  have e9 : (bkM v x y tu M).2.2.1 9 = M.2.2.1 9 + 1 := rfl
  unfold RelT
  rw [e6, e7, e8, e10, e5, e9, h9, hn]
  rw [h9] at s1 s2
  refine ⟨rfl, by omega, fun b hb' => ?_, fun k hk' => ?_, fun k hk' => ?_, ?_, s3, fun k hk' => hu k (by omega)⟩
  · by_cases e : b = n
    · subst e
      rw [va_up_self, va_up_self]
      exact ⟨by omega, rfl⟩
    · obtain ⟨p, q⟩ := hb b (by omega)
      rw [va_up_ne _ _ e, va_up_ne _ _ (by omega)]
      exact ⟨by omega, q⟩
  · by_cases e : k = tc
    · subst e
      exact Or.inr ⟨n, by omega, va_up_self _ _ _⟩
    · rcases hk k (by omega) with q | ⟨b, q1, q2⟩
      · exact Or.inl (by rw [va_up_ne _ _ e]; exact q)
      · exact Or.inr ⟨b, by omega, by rw [va_up_ne _ _ (by omega)]; exact q2⟩
  · by_cases e : k = tc
    · subst e
      rw [va_up_self, va_up_self, va_up_self, va_up_self, va_up_self]
      obtain ⟨c1, c2⟩ := sh_uniq ob_sh s1
      have ok := ob_ok (tu := tu) (x := x) (y := y) (by omega) (by omega)
      have pos := sh_pos s1 (show bkS tu x y x y from Or.inl ⟨rfl, rfl⟩)
      have le := ok.1
      refine ⟨(hu k (Nat.le_refl _)).symm, c1, fun j hj => ?_, pos, by omega, by omega, fun i => ?_, by omega, by omega⟩
      · exact c2 j (by omega)
      · exact ob_b (by omega) (by omega) i
    · obtain ⟨a1, a2, a3, a4, a5, a6, a7, a8, a9⟩ := h5 k (by omega)
      rw [va_up_ne _ _ e, va_up_ne _ _ e, va_up_ne _ _ e, va_up_ne _ _ e, va_up_ne _ _ e]
      refine ⟨a1, a2, fun j hj => ?_, a4, a5, a6, a7, a8, a9⟩
      obtain ⟨q1, q2⟩ := s2 (64 * k + j) (fun i hi => by omega)
      rw [q1, q2]
      exact a3 j hj
  · rw [sumW, va_up_self, va_up_self, sumW_congr (us := va_up us tc false) (us' := us) (wt := va_up wt tc 1) (wt' := wt) tc (fun k hk => ⟨va_up_ne _ _ (by omega), va_up_ne _ _ (by omega)⟩)]
    simp
    omega
theorem RelT_slice {n tc ta tb : Nat} {ac : Bool} {bk : Nat → Int32} {us : Nat → Bool} {u : Nat → FL} {cap wt : Nat → Nat} {M : MS} {v : V7} (h : RelT n tc bk us u cap wt M) (h16 : n ≤ 16) (h40 : tc < 40) (hta : ta < tc) (htb : tb < tc) (hab : ta ≠ tb) (hua : us ta = false) (hub : us tb = false)
    (hv : newSh (slS ac (M.1 8 ta) (off (M.1 6) ta) (off (M.1 7) ta) (M.1 8 tb) (off (M.1 6) tb) (off (M.1 7) tb)) M v) :
    RelT n (tc + 1) (va_up bk tc (-1)) (va_up (va_up (va_up us ta true) tb true) tc false) (va_up u tc (slI ac ((u ta).2.2 + (u tb).2.2) (u ta).1 (u ta).2.1 (u tb).1 (u tb).2.1 (u tb).2.2 (u ta).2.2)) (va_up cap tc ((u ta).2.2 + (u tb).2.2)) (va_up wt tc (wt ta + wt tb)) (slM v ta tb ac M) ∧ wt ta + wt tb ≤ 16 ∧ (u ta).2.2 + (u tb).2.2 ≤ 32 := by
  obtain ⟨h9, -, hb, hk, h5, hw, -, hu⟩ := h
  obtain ⟨s1, s2, s3⟩ := hv
  obtain ⟨a1, a2, a3, a4, a5, a6, a7, a8, a9⟩ := h5 ta hta
  obtain ⟨b1, b2, b3, b4, b5, b6, b7, b8, b9⟩ := h5 tb htb
  have w16 : wt ta + wt tb ≤ n := by
    rcases Nat.lt_or_ge ta tb with q | q
    · have := sumW_two (wt := wt) q tc htb hua hub
      omega
    · have := sumW_two (wt := wt) (show tb < ta by omega) tc hta hub hua
      omega
  have e6 : (slM v ta tb ac M).1 6 = v.1.1 := rfl
  have e7 : (slM v ta tb ac M).1 7 = v.1.2 := rfl
  have e8 : (slM v ta tb ac M).1 8 = va_up (M.1 8) (M.2.2.1 9) v.2.2 := rfl
  have e10 : (slM v ta tb ac M).1 10 = M.1 10 := rfl
  have e5 : (slM v ta tb ac M).2.1 5 = va_up (va_up (M.2.1 5) ta true) tb true := rfl
  have e9 : (slM v ta tb ac M).2.2.1 9 = M.2.2.1 9 + 1 := rfl
  refine ⟨?_, by omega, by omega⟩
  unfold RelT
  rw [e6, e7, e8, e10, e5, e9, h9]
  rw [h9] at s1 s2
  refine ⟨rfl, by omega, fun b hb' => ?_, fun k hk' => ?_, fun k hk' => ?_, ?_, s3, fun k hk' => ?_⟩
  · obtain ⟨p, q⟩ := hb b (by omega)
    rw [va_up_ne _ _ (by omega)]
    exact ⟨by omega, q⟩
  · by_cases e : k = tc
    · subst e
      exact Or.inl (va_up_self _ _ _)
    · rcases hk k (by omega) with q | q
      · exact Or.inl (by rw [va_up_ne _ _ e]; exact q)
      · exact Or.inr q
  · by_cases e : k = tc
    · subst e
      rw [va_up_self, va_up_self, va_up_self, va_up_self, va_up_self]
      have cg : ∀ x y, slS ac (u ta).2.2 (u ta).1 (u ta).2.1 (u tb).2.2 (u tb).1 (u tb).2.1 x y ↔ slS ac (M.1 8 ta) (off (M.1 6) ta) (off (M.1 7) ta) (M.1 8 tb) (off (M.1 6) tb) (off (M.1 7) tb) x y := fun x y => by
        rw [a2, b2]
        exact slS_congr (fun i hi => a3 i hi) (fun i hi => b3 i hi) x y
      obtain ⟨c1, c2⟩ := sh_uniq (sh_S cg slI_S) s1
      have ok := slI_ok (ac := ac) (cap := (u ta).2.2 + (u tb).2.2) (nb := (u tb).2.2) (fun i => ⟨show (u ta).1 i < 2 ^ 29 by have := a7 i; omega, show (u ta).2.1 i < 2 ^ 29 by have := a7 i; omega⟩) (fun i => ⟨show (u tb).1 i < 2 ^ 29 by have := b7 i; omega, show (u tb).2.1 i < 2 ^ 29 by have := b7 i; omega⟩) (u ta).2.2
      have pos := sh_pos s1 (show slS ac (M.1 8 ta) (off (M.1 6) ta) (off (M.1 7) ta) (M.1 8 tb) (off (M.1 6) tb) (off (M.1 7) tb) _ _ from ⟨0, 0, a4, b4, rfl, rfl⟩)
      have le := ok.1
      refine ⟨?_, c1, fun j hj => c2 j (by omega), pos, by omega, by omega, fun i => ?_, by omega, by omega⟩
      · rw [va_up_ne _ _ (by omega), va_up_ne _ _ (by omega)]
        exact (hu k (Nat.le_refl _)).symm
      · have q := slI_b (ac := ac) (cap := (u ta).2.2 + (u tb).2.2) (nb := (u tb).2.2) (a := 1000 * wt ta + 1) (b := 1000 * wt tb + 1) a7 b7 (u ta).2.2 i
        have z : ∀ i, (slI ac ((u ta).2.2 + (u tb).2.2) (u ta).1 (u ta).2.1 (u tb).1 (u tb).2.1 (u tb).2.2 (u ta).2.2).1 i < 1000 * (wt ta + wt tb) + 1 ∧ (slI ac ((u ta).2.2 + (u tb).2.2) (u ta).1 (u ta).2.1 (u tb).1 (u tb).2.1 (u tb).2.2 (u ta).2.2).2.1 i < 1000 * (wt ta + wt tb) + 1 := slI_c (a := 1000 * wt ta) (b := 1000 * wt tb) (fun i => ⟨by have := a7 i; omega, by have := a7 i; omega⟩) (fun i => ⟨by have := b7 i; omega, by have := b7 i; omega⟩) _ (by omega)
        exact z i
    · obtain ⟨d1, d2, d3, d4, d5, d6, d7, d8, d9⟩ := h5 k (by omega)
      rw [va_up_ne _ _ e, va_up_ne _ _ e, va_up_ne _ _ e, va_up_ne _ _ e, va_up_ne _ _ e]
      refine ⟨?_, d2, fun j hj => ?_, d4, d5, d6, d7, d8, d9⟩
      · by_cases z : k = tb
        · subst z
          rw [va_up_self, va_up_self]
        · rw [va_up_ne _ _ z, va_up_ne _ _ z]
          by_cases z2 : k = ta
          · subst z2
            rw [va_up_self, va_up_self]
          · rw [va_up_ne _ _ z2, va_up_ne _ _ z2]
            exact d1
      · obtain ⟨q1, q2⟩ := s2 (64 * k + j) (fun i hi => by omega)
        rw [q1, q2]
        exact d3 j hj
  · rw [sumW, va_up_self, va_up_self, sumW_congr (us := va_up (va_up (va_up us ta true) tb true) tc false) (us' := va_up (va_up us ta true) tb true) (wt := va_up wt tc (wt ta + wt tb)) (wt' := wt) tc (fun k hk => ⟨va_up_ne _ _ (by omega), va_up_ne _ _ (by omega)⟩)]
    have q1 := sumW_use (us := us) (wt := wt) (i := ta) tc hta hua
    have q2 := sumW_use (us := va_up us ta true) (wt := wt) (i := tb) tc htb (by rw [va_up_ne _ _ (fun z => hab z.symm)]; exact hub)
    simp
    omega
  · rw [va_up_ne _ _ (by omega), va_up_ne _ _ (by omega)]
    exact hu k (by omega)
