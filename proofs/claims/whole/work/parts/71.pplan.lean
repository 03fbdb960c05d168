/-! a block that is appended: the plan stays one -/
theorem ap_wf {n : Nat} {P : PS} (hn : n < 16) (hw : wfQ n P) (h1 : P.2.2.1 = n) (h2 : P.2.2.2 = n) : wfQ (n + 1) (apQ n P) := by
  obtain ⟨ok, ⟨a1, a2⟩, b1, b2⟩ := hw
  have go : ∀ (f g : Nat → Nat), (∀ k, k < n → f k < n ∧ g (f k) = k) → (∀ b, b < n → g b < n ∧ f (g b) = b) → (∀ k, k < n + 1 → va_up f n n k < n + 1 ∧ va_up g n n (va_up f n n k) = k) ∧ ∀ b, b < n + 1 → va_up g n n b < n + 1 ∧ va_up f n n (va_up g n n b) = b := by
    intro f g hf hg
    refine ⟨fun k hk => ?_, fun k hk => ?_⟩
    · by_cases e : k = n
      · subst e
        rw [va_up_self, va_up_self]
        exact ⟨by omega, rfl⟩
      · obtain ⟨p, q⟩ := hf k (by omega)
        rw [va_up_ne _ _ e, va_up_ne _ _ (by omega)]
        exact ⟨by omega, q⟩
    · by_cases e : k = n
      · subst e
        rw [va_up_self, va_up_self]
        exact ⟨by omega, rfl⟩
      · obtain ⟨p, q⟩ := hg k (by omega)
        rw [va_up_ne _ _ e, va_up_ne _ _ (by omega)]
        exact ⟨by omega, q⟩
  refine ⟨fun k hk => ?_, ?_, ?_⟩
  · obtain ⟨p, q, r, s⟩ := ok k hk
    show va_up (P.1 0) P.2.2.1 n k < 16 ∧ va_up (P.1 1) n P.2.2.1 k < 16 ∧ va_up (P.1 2) P.2.2.2 n k < 16 ∧ va_up (P.1 3) n P.2.2.2 k < 16
    rw [h1, h2]
    unfold va_up
    refine ⟨?_, ?_, ?_, ?_⟩ <;> split <;> omega
  · have h := go _ _ a1 a2
    show (∀ k, k < n + 1 → va_up (P.1 0) P.2.2.1 n k < n + 1 ∧ va_up (P.1 1) n P.2.2.1 (va_up (P.1 0) P.2.2.1 n k) = k) ∧ ∀ b, b < n + 1 → va_up (P.1 1) n P.2.2.1 b < n + 1 ∧ va_up (P.1 0) P.2.2.1 n (va_up (P.1 1) n P.2.2.1 b) = b
    rw [h1]
    exact h
  · have h := go _ _ b1 b2
    show (∀ k, k < n + 1 → va_up (P.1 2) P.2.2.2 n k < n + 1 ∧ va_up (P.1 3) n P.2.2.2 (va_up (P.1 2) P.2.2.2 n k) = k) ∧ ∀ b, b < n + 1 → va_up (P.1 3) n P.2.2.2 b < n + 1 ∧ va_up (P.1 2) P.2.2.2 n (va_up (P.1 3) n P.2.2.2 b) = b
    rw [h2]
    exact h
theorem okB_ap {x y : Nat} {t : Bool} {B : BS} (h : okB B) (hn : B.2.2.2 < 16) (hx : x ≤ 1000) (hy : y ≤ 1000) : okB (apB x y t B) := ⟨by show B.2.2.2 + 1 ≤ 16; omega, fun k hk => by
  obtain ⟨a, b, c, d⟩ := h.2 k hk
  exact ⟨up_le a hx, up_le b hy, c, d⟩⟩
theorem ap_ok {n x y : Nat} {t : Bool} {B : BS} {P : PS} (hn : B.2.2.2 = n) (h16 : n < 16) (hf : B.2.2.1 n = false) (hw : wfQ n P) (h1 : P.2.2.1 = n) (h2 : P.2.2.2 = n) (hl : LdP n B P) : (lyR (apB x y t B) (apQ n P)).1 = true := by
  have hwx := ap_wf h16 hw h1 h2
  obtain ⟨rb, rp⟩ := rel_mk (n := n + 1) (B := apB x y t B) (Q := apQ n P) (by show B.2.2.2 + 1 = n + 1; omega)
  obtain ⟨s1, s2, -, -⟩ := sol_of rb hwx rp
  have p1 : ∀ v, v < n → (apQ n P).1 1 v = P.1 1 v ∧ (apQ n P).1 3 v = P.1 3 v := fun v hv => ⟨va_up_ne _ _ (by omega), va_up_ne _ _ (by omega)⟩
  have pn : (apQ n P).1 1 n = n ∧ (apQ n P).1 3 n = n := ⟨by show va_up (P.1 1) n P.2.2.1 n = n; rw [va_up_self, h1], by show va_up (P.1 3) n P.2.2.2 n = n; rw [va_up_self, h2]⟩
  have lt : ∀ v, v < n → P.1 1 v < n ∧ P.1 3 v < n := fun v hv => ⟨(hw.2.1.2 v hv).1, (hw.2.2.2 v hv).1⟩
  have nX : ∀ v, v < n → ¬ eX ((apQ n P).1 1) ((apQ n P).1 3) n v := fun v hv h => by
    have a := h.2.1
    rw [pn.2, (p1 v hv).2] at a
    have := (lt v hv).2
    omega
  have nY : ∀ v, v < n → ¬ eY ((apQ n P).1 1) ((apQ n P).1 3) n v := fun v hv h => by
    have a := h.2.1
    rw [pn.2, (p1 v hv).2] at a
    have := (lt v hv).2
    omega
  have hwd : ∀ v, v < n → wdM (mkM (apB x y t B) (apQ n P)) 0 v = zX B P v ∧ hgM (mkM (apB x y t B) (apQ n P)) 0 v = zY B P v := fun v hv => by
    have q := wd_of rb rp (v := v) (by omega)
    have e0 : (apB x y t B).1 0 v = B.1 0 v := va_up_ne _ _ (by omega)
    have e1 : (apB x y t B).1 1 v = B.1 1 v := va_up_ne _ _ (by omega)
    rw [q.1, q.2]
    show zt P.2.1 ((apB x y t B).1 0) ((apB x y t B).1 1) v = zt P.2.1 (B.1 0) (B.1 1) v ∧ zt P.2.1 ((apB x y t B).1 1) ((apB x y t B).1 0) v = zt P.2.1 (B.1 1) (B.1 0) v
    unfold zt
    rw [e0, e1]
    exact ⟨rfl, rfl⟩
  have eXe : ∀ u v, u < n → v < n → (eX ((apQ n P).1 1) ((apQ n P).1 3) u v ↔ eX (P.1 1) (P.1 3) u v) := fun u v hu hv => by
    unfold eX
    rw [(p1 u hu).1, (p1 u hu).2, (p1 v hv).1, (p1 v hv).2]
  have eYe : ∀ u v, u < n → v < n → (eY ((apQ n P).1 1) ((apQ n P).1 3) u v ↔ eY (P.1 1) (P.1 3) u v) := fun u v hu hv => by
    unfold eY
    rw [(p1 u hu).1, (p1 u hu).2, (p1 v hv).1, (p1 v hv).2]
  obtain ⟨c1, c2, c3⟩ := s1
  have r1 : solM n (P.1 1) (P.1 3) (zX B P) (zY B P) (B.1 2) (B.1 3) (pX (apB x y t B) (apQ n P)) (pY (apB x y t B) (apQ n P)) B.2.2.1 := by
    refine ⟨fun v hv hfx => c1 v (by omega) hfx, fun u v hu hv hfx => ?_, fun v hv hfx => ?_⟩
    · obtain ⟨g1, g2⟩ := c2 u v (by omega) (by omega) hfx
      rw [(hwd u hu).1] at g1
      rw [(hwd u hu).2] at g2
      exact ⟨fun h => g1 ((eXe u v hu hv).mpr h), fun h => g2 ((eYe u v hu hv).mpr h)⟩
    · obtain ⟨g1, g2⟩ := c3 v (by omega) hfx
      constructor
      · rcases g1 with g1 | ⟨u, hu, g1, g3⟩
        · exact Or.inl g1
        · by_cases e : u = n
          · subst e
            exact absurd g1 (nX v hv)
          · rw [(hwd u (by omega)).1] at g3
            exact Or.inr ⟨u, by omega, (eXe u v (by omega) hv).mp g1, g3⟩
      · rcases g2 with g2 | ⟨u, hu, g2, g3⟩
        · exact Or.inl g2
        · by_cases e : u = n
          · subst e
            exact absurd g2 (nY v hv)
          · rw [(hwd u (by omega)).2] at g3
            exact Or.inr ⟨u, by omega, (eYe u v (by omega) hv).mp g2, g3⟩
  have inj : ∀ u v, u < n → v < n → P.1 3 u = P.1 3 v → u = v := fun u v hu hv e => by rw [← (hw.2.2.2 u hu).2, e, (hw.2.2.2 v hv).2]
  have hu := sol_uniq inj r1 hl.1
  refine s2.mpr (fun u v hu' hv' => ?_)
  by_cases ev : v = n
  · subst ev
    exact c2 u v hu' hv' hf
  · by_cases eu : u = n
    · subst eu
      exact ⟨fun h => absurd h (nX v (by omega)), fun h => absurd h (nY v (by omega))⟩
    · obtain ⟨g1, g2⟩ := hl.2.1 u v (by omega) (by omega)
      rw [(hwd u (by omega)).1, (hwd u (by omega)).2, (hu u (by omega)).1, (hu u (by omega)).2, (hu v (by omega)).1, (hu v (by omega)).2]
      exact ⟨fun h => g1 ((eXe u v (by omega) (by omega)).mp h), fun h => g2 ((eYe u v (by omega) (by omega)).mp h)⟩
/-- behind a fix that fails the old places are found again -/
theorem fix_back {n k x y : Nat} {B : BS} {P : PS} (hn : B.2.2.2 = n) (hw : wfQ n P) (hl : LdP n B P) : (lyR B (lyQ (flB k x y B) P)).1 = true := ly_ok (P := P) hn (wf_ly hw) rfl rfl rfl hl
