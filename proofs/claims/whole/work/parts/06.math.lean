/-! Math.abs, max, min and System.arraycopy over numbers -/
theorem kt_at {w : Cond} (i : Nat) (h : tables_1[i]? = some w) (hg : goodWord w = true) : w ∈ lw_g := List.mem_filter.mpr ⟨List.mem_append_right _ (List.mem_of_getElem? (i := i) h), hg⟩
theorem kst_abs : Cond.static Lib.Math.abs.name ∈ lw_g := kt_at 244 (by decide +kernel) rfl
theorem kd_abs : Cond.code Lib.Math.abs.name Lib.Math.abs.code 1 (some .int) ∈ lw_g := kt_at 245 (by decide +kernel) rfl
theorem kst_max : Cond.static Lib.Math.max.name ∈ lw_g := kt_at 371 (by decide +kernel) rfl
theorem kd_max : Cond.code Lib.Math.max.name Lib.Math.max.code 2 (some .int) ∈ lw_g := kt_at 372 (by decide +kernel) rfl
theorem kst_min : Cond.static Lib.Math.min.name ∈ lw_g := kt_at 649 (by decide +kernel) rfl
theorem kd_min : Cond.code Lib.Math.min.name Lib.Math.min.code 2 (some .int) ∈ lw_g := kt_at 650 (by decide +kernel) rfl
theorem kst_minL : Cond.static Lib.MathLoose.min_long.x ∈ lw_g := kt_at 534 (by decide +kernel) rfl
theorem kd_minL : Cond.code Lib.MathLoose.min_long.x Lib.MathLoose.min_long.code 4 (some .long) ∈ lw_g := kt_at 535 (by decide +kernel) rfl
theorem kst_copy : Cond.static arraycopyName ∈ lw_g := kt_at 565 (by decide +kernel) rfl
theorem kt_copy : Cond.native arraycopyName ∈ lw_g := kt_at 566 (by decide +kernel) rfl
theorem mx_nI {x y : Nat} (hx : x < 2 ^ 31) (hy : y < 2 ^ 31) : (if nI x < nI y then nI y else nI x) = nI (max x y) := by
  by_cases h : x < y
  · rw [if_pos ((nI_ltI hx hy).mpr h), Nat.max_eq_right (Nat.le_of_lt h)]
  · rw [if_neg (fun q => h ((nI_ltI hx hy).mp q)), Nat.max_eq_left (Nat.le_of_not_lt h)]
theorem mn_nI {x y : Nat} (hx : x < 2 ^ 31) (hy : y < 2 ^ 31) : (if nI y < nI x then nI y else nI x) = nI (min x y) := by
  by_cases h : y < x
  · rw [if_pos ((nI_ltI hy hx).mpr h), Nat.min_eq_right (Nat.le_of_lt h)]
  · rw [if_neg (fun q => h ((nI_ltI hy hx).mp q)), Nat.min_eq_left (Nat.le_of_not_lt h)]
theorem mn_lN {x y : Nat} (hx : x < 2 ^ 63) (hy : y < 2 ^ 63) : (if lN y < lN x then lN y else lN x) = lN (min x y) := by
  by_cases h : y < x
  · rw [if_pos ((pk_lLT hy hx).mpr h), Nat.min_eq_right (Nat.le_of_lt h)]
  · rw [if_neg (fun q => h ((pk_lLT hy hx).mp q)), Nat.min_eq_left (Nat.le_of_not_lt h)]
theorem ab_nI {x y : Nat} (hx : x < 2 ^ 30) (hy : y < 2 ^ 30) : (if 0 ≤ nI x - nI y then nI x - nI y else 0 - (nI x - nI y)) = nI (x - y + (y - x)) := by
  have e := pk_sub_toInt hx hy
  by_cases h : y ≤ x
  · have h0 : (0 : Int32) ≤ nI x - nI y := by
      rw [Int32.le_iff_toInt_le, e]
      show (0 : Int) ≤ _
      omega
    rw [if_pos h0, pk_sub h, Nat.sub_eq_zero_of_le h, Nat.add_zero]
  · have h0 : ¬ (0 : Int32) ≤ nI x - nI y := by
      rw [Int32.le_iff_toInt_le, e]
      show ¬ (0 : Int) ≤ _
      omega
    have h1 : x ≤ y := by omega
    rw [if_neg h0, Nat.sub_eq_zero_of_le h1, Nat.zero_add, ← pk_sub h1, Int32.zero_sub, Int32.neg_sub]
theorem cp_nI (f g : Nat → Nat) (i j k : Nat) : va_cpy (fun q => nI (f q)) (fun q => nI (g q)) i j k = fun q => nI (va_cpy f g i j k q) := by
  funext q
  simp only [va_cpy]
  split <;> rfl
section ZM
variable {p : Program} {l : Launch} {e : Env} {R : Room} {s : State} {m : MethodId} {args : Array Value} {below : List Frame} {meth : Method} {c : Code} {H : Heap} {locs : List Loc} {cells slots : Nat} {Q : State → Prop}
variable {cc : ByteArray} {pc : Nat} {ls : Array Slot} {rest : List Value} {D : va_G} {cl : List vw_C} {tys : List (ClassId × FieldType)} {ws : va_W} {a : Nat} {A : Nat → Prop} {H0 : Heap} {x y nL index : Nat} {own : String}
theorem z_max (S : CallFix p m c cc nL s args lw_g own) (hsz : ls.size = nL) (hk : Cond.methodLink own index Lib.Math.max.name ∈ lw_g) (hf : 1 ≤ R.frames) (hlo : (rest.map fun v => v.category).sum + 13 ≤ R.locals) (hc : cells ≤ R.cells ∧ slots ≤ R.slots) (hx : x < 2 ^ 31) (hy : y < 2 ^ 31) (hdg : decode cc pc = .ok (.invokestatic index, 3))
    (kk : W p l e R s m args below meth c H locs cells slots Q (F0 m (pc + 3) ls (.int (nI (max x y)) :: rest))) : W p l e R s m args below meth c H locs cells slots Q (F0 m pc ls (.int (nI y) :: .int (nI x) :: rest)) := by
  obtain ⟨h1, h2, h3, h4, hts⟩ := S
  exact va_mmax h1 h2 (h3.trans hsz.symm) h4 (hts _ hk) (hts _ kst_max) (hts _ kn_JMath) (hts _ kd_max) hf hlo hc.1 hc.2 hdg (lv_toi (mx_nI hx hy) kk)
theorem z_min (S : CallFix p m c cc nL s args lw_g own) (hsz : ls.size = nL) (hk : Cond.methodLink own index Lib.Math.min.name ∈ lw_g) (hf : 1 ≤ R.frames) (hlo : (rest.map fun v => v.category).sum + 13 ≤ R.locals) (hc : cells ≤ R.cells ∧ slots ≤ R.slots) (hx : x < 2 ^ 31) (hy : y < 2 ^ 31) (hdg : decode cc pc = .ok (.invokestatic index, 3))
    (kk : W p l e R s m args below meth c H locs cells slots Q (F0 m (pc + 3) ls (.int (nI (min x y)) :: rest))) : W p l e R s m args below meth c H locs cells slots Q (F0 m pc ls (.int (nI y) :: .int (nI x) :: rest)) := by
  obtain ⟨h1, h2, h3, h4, hts⟩ := S
  exact va_mmin h1 h2 (h3.trans hsz.symm) h4 (hts _ hk) (hts _ kst_min) (hts _ kn_JMath) (hts _ kd_min) hf hlo hc.1 hc.2 hdg (lv_toi (mn_nI hx hy) kk)
theorem z_minL (S : CallFix p m c cc nL s args lw_g own) (hsz : ls.size = nL) (hk : Cond.methodLink own index Lib.MathLoose.min_long.x ∈ lw_g) (hf : 1 ≤ R.frames) (hlo : (rest.map fun v => v.category).sum + 15 ≤ R.locals) (hc : cells ≤ R.cells ∧ slots ≤ R.slots) (hx : x < 2 ^ 63) (hy : y < 2 ^ 63) (hdg : decode cc pc = .ok (.invokestatic index, 3))
    (kk : W p l e R s m args below meth c H locs cells slots Q (F0 m (pc + 3) ls (.long (lN (min x y)) :: rest))) : W p l e R s m args below meth c H locs cells slots Q (F0 m pc ls (.long (lN y) :: .long (lN x) :: rest)) := by
  obtain ⟨h1, h2, h3, h4, hts⟩ := S
  exact va_mmin_long h1 h2 (h3.trans hsz.symm) h4 (hts _ hk) (hts _ kst_minL) (hts _ kn_JMath) (hts _ kd_minL) hf hlo hc.1 hc.2 hdg (lv_tol (mn_lN hx hy) kk)
theorem z_abs (S : CallFix p m c cc nL s args lw_g own) (hsz : ls.size = nL) (hk : Cond.methodLink own index Lib.Math.abs.name ∈ lw_g) (hf : 1 ≤ R.frames) (hlo : (rest.map fun v => v.category).sum + 13 ≤ R.locals) (hc : cells ≤ R.cells ∧ slots ≤ R.slots) (hx : x < 2 ^ 30) (hy : y < 2 ^ 30) (hdg : decode cc pc = .ok (.invokestatic index, 3))
    (kk : W p l e R s m args below meth c H locs cells slots Q (F0 m (pc + 3) ls (.int (nI (x - y + (y - x))) :: rest))) : W p l e R s m args below meth c H locs cells slots Q (F0 m pc ls (.int (nI x - nI y) :: rest)) := by
  obtain ⟨h1, h2, h3, h4, hts⟩ := S
  exact va_mabs h1 h2 (h3.trans hsz.symm) h4 (hts _ hk) (hts _ kst_abs) (hts _ kn_JMath) (hts _ kd_abs) hf hlo hc.1 hc.2 hdg (lv_toi (ab_nI hx hy) kk)
theorem z_copy (S : CallFix p m c cc nL s args lw_g own) (hsz : ls.size = nL) (hk : Cond.methodLink own index arraycopyName ∈ lw_g) (hf : 1 ≤ R.frames) (hlo : (rest.map fun v => v.category).sum + (nativeFrameWords "java/lang/System" "arraycopy" 5 + 11) ≤ R.locals)
    (hK : va_K D cl tys s) (hP : va_P D cl ws H) (hD : va_D A ws) (hS : va_S A H0 H locs) (q0 q1 t0 : Nat) {a0 : Nat} {c0 : ClassId} {n0 n1 : Nat} {f g : Nat → Nat} (ha0 : ws[q0]? = some (a0, .inl (c0, n0, .inl (fun k => nI (f k))))) (ha1 : ws[q1]? = some (a, .inl (c0, n1, .inl (fun k => nI (g k))))) (ht0 : tys[t0]? = some (c0, .int)) {k : Nat} (h4 : k ≤ n0) (h5 : k ≤ n1) (hkk : k < 2 ^ 31) (hdg : decode cc pc = .ok (.invokestatic index, 3))
    (kk : ∀ (H1 : Heap) (locs1 : List Loc), va_P D cl (ws.set q1 (a, .inl (c0, n1, .inl (fun q => nI (va_cpy f g 0 0 k q))))) H1 → va_D A (ws.set q1 (a, .inl (c0, n1, .inl (fun q => nI (va_cpy f g 0 0 k q))))) → va_S A H0 H1 locs1 → W p l e R s m args below meth c H1 locs1 cells slots Q (F0 m (pc + 3) ls rest)) : W p l e R s m args below meth c H locs cells slots Q (F0 m pc ls (.int (nI k) :: .int (nI 0) :: .ref a :: .int (nI 0) :: .ref a0 :: rest)) := by
  obtain ⟨h1, h2, h3, h6, hts⟩ := S
  refine va_copyi h1 h2 (h3.trans hsz.symm) h6 (hts _ hk) (hts _ kt_copy) (hts _ kst_copy) (hts _ kn_JSys) hK hP hD hS q0 q1 t0 t0 ha0 ha1 ht0 ht0 rfl (nI_pos (by decide)) (nI_pos (by decide)) (nI_pos hkk) (by rw [nI_clamp (by decide), nI_clamp hkk]; omega) (by rw [nI_clamp (by decide), nI_clamp hkk]; omega) (fun i _ => rfl) hf hlo hdg (fun H1 locs1 g1 g2 g3 => ?_)
  rw [nI_clamp (by decide), nI_clamp hkk, cp_nI] at g1 g2
  exact kk H1 locs1 g1 g2 g3
end ZM
