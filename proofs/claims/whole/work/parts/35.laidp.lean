/-! a plan that is laid out: its rows of places are the least places -/
abbrev zX (B : BS) (Q : PS) : Nat → Nat := zt Q.2.1 (B.1 0) (B.1 1)
abbrev zY (B : BS) (Q : PS) : Nat → Nat := zt Q.2.1 (B.1 1) (B.1 0)
def LdP (n : Nat) (B : BS) (P : PS) : Prop :=
  solM n (P.1 1) (P.1 3) (zX B P) (zY B P) (B.1 2) (B.1 3) (P.1 4) (P.1 5) B.2.2.1 ∧ okM n (P.1 1) (P.1 3) (zX B P) (zY B P) (P.1 4) (P.1 5) ∧
  (∀ v, v < n → P.1 6 v = P.1 4 v + zX B P v ∧ P.1 7 v = P.1 5 v + zY B P v) ∧
  (∀ v, v < n → P.1 6 v ≤ P.1 8 0 ∧ P.1 7 v ≤ P.1 8 1) ∧ (P.1 8 0 = 0 ∨ ∃ v, v < n ∧ P.1 8 0 = P.1 6 v) ∧ (P.1 8 1 = 0 ∨ ∃ v, v < n ∧ P.1 8 1 = P.1 7 v)
theorem solM_congr {n : Nat} {a1 a2 a3 a4 a5 a6 a7 a8 b1 b2 b3 b4 b5 b6 b7 b8 : Nat → Nat} {f g : Nat → Bool} (h : ∀ v, v < n → a1 v = b1 v ∧ a2 v = b2 v ∧ a3 v = b3 v ∧ a4 v = b4 v ∧ a5 v = b5 v ∧ a6 v = b6 v ∧ a7 v = b7 v ∧ a8 v = b8 v ∧ f v = g v) (hs : solM n a1 a2 a3 a4 a5 a6 a7 a8 f) : solM n b1 b2 b3 b4 b5 b6 b7 b8 g := by
  obtain ⟨s1, s2, s3⟩ := hs
  refine ⟨fun v hv hf => ?_, fun u v hu hv hf => ?_, fun v hv hf => ?_⟩
  · obtain ⟨-, -, -, -, e5, e6, e7, e8, e9⟩ := h v hv
    have q := s1 v hv (e9.trans hf)
    rw [e5, e6, e7, e8] at q
    exact q
  · obtain ⟨e1, e2, -, -, -, -, e7, e8, e9⟩ := h v hv
    obtain ⟨d1, d2, d3, d4, -, -, d7, d8, -⟩ := h u hu
    have q := s2 u v hu hv (e9.trans hf)
    unfold eX eY at q ⊢
    rw [d1, d2, d3, d4, d7, d8, e1, e2, e7, e8] at q
    exact q
  · obtain ⟨e1, e2, -, -, -, -, e7, e8, e9⟩ := h v hv
    obtain ⟨q1, q2⟩ := s3 v hv (e9.trans hf)
    refine ⟨?_, ?_⟩
    · rcases q1 with q | ⟨u, hu, q, r⟩
      · exact Or.inl (e7.symm.trans q)
      · obtain ⟨d1, d2, d3, d4, -, -, d7, d8, -⟩ := h u hu
        unfold eX at q ⊢
        rw [d1, d2, e1, e2] at q
        rw [e7, d7, d3] at r
        exact Or.inr ⟨u, hu, q, r⟩
    · rcases q2 with q | ⟨u, hu, q, r⟩
      · exact Or.inl (e8.symm.trans q)
      · obtain ⟨d1, d2, d3, d4, -, -, d7, d8, -⟩ := h u hu
        unfold eY at q ⊢
        rw [d1, d2, e1, e2] at q
        rw [e8, d8, d4] at r
        exact Or.inr ⟨u, hu, q, r⟩
theorem okM_congr {n : Nat} {a1 a2 a3 a4 a7 a8 b1 b2 b3 b4 b7 b8 : Nat → Nat} (h : ∀ v, v < n → a1 v = b1 v ∧ a2 v = b2 v ∧ a3 v = b3 v ∧ a4 v = b4 v ∧ a7 v = b7 v ∧ a8 v = b8 v) (hs : okM n a1 a2 a3 a4 a7 a8) : okM n b1 b2 b3 b4 b7 b8 := by
  intro u v hu hv
  obtain ⟨e1, e2, -, -, e7, e8⟩ := h v hv
  obtain ⟨d1, d2, d3, d4, d7, d8⟩ := h u hu
  have q := hs u v hu hv
  unfold eX eY at q ⊢
  rw [d1, d2, d3, d4, d7, d8, e1, e2, e7, e8] at q
  exact q
theorem mxE_ge {EE ba : Nat → Nat} : ∀ n k, k < n → EE (ba k) ≤ mxE EE ba n
  | 0, _, h => absurd h (Nat.not_lt_zero _)
  | n + 1, k, h => by
    rw [mxE]
    by_cases e : k = n
    · subst e
      omega
    · have := mxE_ge (EE := EE) (ba := ba) n k (by omega)
      omega
theorem mxE_at {EE ba : Nat → Nat} : ∀ n, mxE EE ba n = 0 ∨ ∃ k, k < n ∧ mxE EE ba n = EE (ba k)
  | 0 => Or.inl rfl
  | n + 1 => by
    rw [mxE]
    rcases Nat.le_total (mxE EE ba n) (EE (ba n)) with h | h
    · exact Or.inr ⟨n, by omega, by omega⟩
    · rcases mxE_at (EE := EE) (ba := ba) n with q | ⟨k, hk, q⟩
      · exact Or.inl (by omega)
      · exact Or.inr ⟨k, by omega, by omega⟩
/-- a reference's state that has the blocks B and the plan Q -/
def mkM (B : BS) (Q : PS) : MS := (fun i => match i with
  | 11 => B.1 0
  | 12 => B.1 1
  | 15 => B.1 2
  | 16 => B.1 3
  | 21 => Q.1 0
  | 22 => Q.1 2
  | _ => fun _ => 0, fun i => match i with
  | 13 => B.2.1
  | 14 => B.2.2.1
  | _ => Q.2.1, fun _ => B.2.2.2, fun _ => 0)
theorem LdP_ly {n : Nat} {B : BS} {Q : PS} (hn : B.2.2.2 = n) (hw : wfQ n Q) (hok : (lyR B Q).1 = true) : LdP n B (lyQ B Q) := by
  have rb : RelB n B (mkM B Q) := ⟨hn, hn, fun v hv => ⟨rfl, rfl, rfl, rfl, rfl, rfl⟩⟩
  have rp : RelP n Q (mkM B Q) 0 := fun k hk => by
    rw [Nat.mul_zero, Nat.zero_add]
    exact ⟨rfl, rfl, rfl⟩
  obtain ⟨s1, s2, s3, s4⟩ := sol_of rb hw rp
  obtain ⟨t1, t2, t3⟩ := s4 hok
  have hwd : ∀ v, v < n → wdM (mkM B Q) 0 v = zX B (lyQ B Q) v ∧ hgM (mkM B Q) 0 v = zY B (lyQ B Q) v := fun v hv => wd_of rb rp hv
  have hE : ∀ v, v < n → (lyQ B Q).1 6 v = (lyQ B Q).1 4 v + zX B (lyQ B Q) v ∧ (lyQ B Q).1 7 v = (lyQ B Q).1 5 v + zY B (lyQ B Q) v := fun v hv => by
    obtain ⟨a, b, c, d⟩ := t1 v hv
    obtain ⟨e, f⟩ := s3 v hv
    rw [(hwd v hv).1] at e
    rw [(hwd v hv).2] at f
    omega
  refine ⟨solM_congr (fun v hv => ⟨rfl, rfl, (hwd v hv).1, (hwd v hv).2, rfl, rfl, (t1 v hv).1.symm, (t1 v hv).2.1.symm, rfl⟩) s1, okM_congr (fun v hv => ⟨rfl, rfl, (hwd v hv).1, (hwd v hv).2, (t1 v hv).1.symm, (t1 v hv).2.1.symm⟩) (s2.mp hok), hE, fun v hv => ?_, ?_, ?_⟩
  · rw [t2, t3, (t1 v hv).2.2.1, (t1 v hv).2.2.2]
    have a := mxE_ge (EE := eeX B Q) (ba := Q.1 0) n (Q.1 1 v) (hw.2.1.2 v hv).1
    have b := mxE_ge (EE := eeY B Q) (ba := Q.1 2) n (Q.1 3 v) (hw.2.2.2 v hv).1
    rw [(hw.2.1.2 v hv).2] at a
    rw [(hw.2.2.2 v hv).2] at b
    exact ⟨a, b⟩
  · rw [t2]
    rcases mxE_at (EE := eeX B Q) (ba := Q.1 0) n with h | ⟨k, hk, h⟩
    · exact Or.inl h
    · exact Or.inr ⟨Q.1 0 k, (hw.2.1.1 k hk).1, by rw [h, (t1 _ (hw.2.1.1 k hk).1).2.2.1]⟩
  · rw [t3]
    rcases mxE_at (EE := eeY B Q) (ba := Q.1 2) n with h | ⟨k, hk, h⟩
    · exact Or.inl h
    · exact Or.inr ⟨Q.1 2 k, (hw.2.2.1 k hk).1, by rw [h, (t1 _ (hw.2.2.1 k hk).1).2.2.2]⟩
/-- P and Q tell the same of the first n -/
def EqP (n : Nat) (P Q : PS) : Prop := (∀ v, v < n → ∀ i, i < 8 → P.1 i v = Q.1 i v) ∧ (∀ v, v < n → P.2.1 v = Q.2.1 v) ∧ P.1 8 0 = Q.1 8 0 ∧ P.1 8 1 = Q.1 8 1
theorem EqP_cp {n : Nat} {P Q : PS} (hn : n ≤ 16) : EqP n Q (cpQ Q P) := by
  refine ⟨fun v hv i hi => ?_, fun v hv => ?_, ?_, ?_⟩
  · rcases (show i = 0 ∨ i = 1 ∨ i = 2 ∨ i = 3 ∨ i = 4 ∨ i = 5 ∨ i = 6 ∨ i = 7 by omega) with rfl | rfl | rfl | rfl | rfl | rfl | rfl | rfl <;> exact (cp_at (by omega)).symm
  · show _ = cz Q.2.1 P.2.1 16 v
    unfold cz
    rw [if_pos (by omega)]
  · show _ = va_up (va_up (P.1 8) 0 (Q.1 8 0)) 1 (Q.1 8 1) 0
    rw [va_up_ne _ _ (by decide), va_up_self]
  · show _ = va_up (va_up (P.1 8) 0 (Q.1 8 0)) 1 (Q.1 8 1) 1
    rw [va_up_self]
theorem LdP_eq {n : Nat} {B : BS} {P Q : PS} (h : EqP n P Q) (hl : LdP n B P) : LdP n B Q := by
  obtain ⟨h1, h2, h3, h4⟩ := h
  obtain ⟨l1, l2, l3, l4, l5, l6⟩ := hl
  have hz : ∀ v, v < n → zX B P v = zX B Q v ∧ zY B P v = zY B Q v := fun v hv => by
    unfold zX zY zt
    rw [h2 v hv]
    exact ⟨rfl, rfl⟩
  refine ⟨solM_congr (fun v hv => ⟨h1 v hv 1 (by omega), h1 v hv 3 (by omega), (hz v hv).1, (hz v hv).2, rfl, rfl, h1 v hv 4 (by omega), h1 v hv 5 (by omega), rfl⟩) l1, okM_congr (fun v hv => ⟨h1 v hv 1 (by omega), h1 v hv 3 (by omega), (hz v hv).1, (hz v hv).2, h1 v hv 4 (by omega), h1 v hv 5 (by omega)⟩) l2, fun v hv => ?_, fun v hv => ?_, ?_, ?_⟩
  · rw [← h1 v hv 6 (by omega), ← h1 v hv 4 (by omega), ← h1 v hv 7 (by omega), ← h1 v hv 5 (by omega), ← (hz v hv).1, ← (hz v hv).2]
    exact l3 v hv
  · rw [← h1 v hv 6 (by omega), ← h1 v hv 7 (by omega), ← h3, ← h4]
    exact l4 v hv
  · rw [← h3]
    rcases l5 with h | ⟨v, hv, h⟩
    · exact Or.inl h
    · exact Or.inr ⟨v, hv, by rw [h, h1 v hv 6 (by omega)]⟩
  · rw [← h4]
    rcases l6 with h | ⟨v, hv, h⟩
    · exact Or.inl h
    · exact Or.inr ⟨v, hv, by rw [h, h1 v hv 7 (by omega)]⟩
