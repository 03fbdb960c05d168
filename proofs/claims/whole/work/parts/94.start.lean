theorem ty_prim {s : State} {args : Array Value} {ty : FieldType} (h : (Cond.arrayClass ty).before args s = true) : ∃ cA : ClassId, ArrOfT s cA ty ∧ s.vm.findClass ("[" ++ ty.toString) = some cA := by
  obtain ⟨c, k, comp, h1, h2, h3⟩ := Cond.arrayClass_spec h
  exact ⟨c, fun N z => ⟨(fun k h => by cases h), k, h2, comp, h3⟩, h1⟩
theorem ty_arr {s : State} {args : Array Value} {ty : FieldType} (h : (Cond.arrayOver (.array ty)).before args s = true) : ∃ cA : ClassId, ArrOfT s cA (.array ty) ∧ s.vm.findClass ("[" ++ (FieldType.array ty).toString) = some cA := by
  obtain ⟨comp, c, k, h1, h2, h3, h4⟩ := Cond.arrayOver_specA h
  exact ⟨c, fun N z => ⟨(fun k h => by cases h), k, h2, comp, h3⟩, h4⟩
theorem ty_obj {s : State} {args : Array Value} {C : String} (h : (Cond.arrayOver (.object C)).before args s = true) : ∃ cA : ClassId, ArrOfT s cA (.object C) ∧ va_RA s cA (.object C) := by
  obtain ⟨comp, c, k, h1, -, h3, h4, h5⟩ := Cond.arrayOver_spec h
  exact ⟨c, fun N z => ⟨(fun k h => by cases h), k, h3, comp, h4⟩, ⟨k, comp, h3, h4, h1, h5⟩⟩
theorem lw_K {s : State} {b : Nat} (hts0 : ∀ w ∈ lw_tbl, w.before #[Value.ref b] s = true) (hts : ∀ w ∈ lw_g, w.before #[Value.ref b] s = true) : ∃ (D : va_G) (cA cZ c2 cT cL : ClassId), va_K D classes [(cA, .int), (cZ, .boolean), (c2, .array .int), (cT, .object R_TH), (cL, .long)] s := by
  obtain ⟨c0, i0, hk0⟩ := u_known (C := R_SB) (T := F_SB) (N := 7) (n := 7) hts i_SB (hts _ kI_SB)
  obtain ⟨c1, i1, hk1⟩ := u_known (C := R_BL) (T := F_BL) (N := 5) (n := 5) hts i_BL (hts _ kI_BL)
  obtain ⟨c2, i2, hk2⟩ := u_known (C := R_DR) (T := F_DR) (N := 1) (n := 1) hts i_DR (hts _ kI_DR)
  obtain ⟨c3, i3, hk3⟩ := u_known (C := R_NE) (T := F_NE) (N := 4) (n := 4) hts i_NE (hts _ kI_NE)
  obtain ⟨c4, i4, hk4⟩ := u_known (C := R_OR) (T := F_OR) (N := 3) (n := 3) hts i_OR (hts _ kI_OR)
  obtain ⟨c5, i5, hk5⟩ := u_known (C := R_PI) (T := F_PI) (N := 7) (n := 7) hts i_PI (hts _ kI_PI)
  obtain ⟨c6, i6, hk6⟩ := u_known (C := R_PL) (T := F_PL) (N := 7) (n := 7) hts i_PL (hts _ kI_PL)
  obtain ⟨c7, i7, hk7⟩ := u_known (C := R_SE) (T := F_SE) (N := 6) (n := 6) hts i_SE (hts _ kI_SE)
  obtain ⟨c8, i8, hk8⟩ := u_known (C := R_SL) (T := F_SL) (N := 3) (n := 3) hts i_SL (hts _ kI_SL)
  obtain ⟨c9, i9, hk9⟩ := u_known (C := R_TH) (T := F_TH) (N := 3) (n := 3) hts i_TH (hts _ kI_TH)
  obtain ⟨c10, i10, hk10⟩ := u_known (C := R_MO) (T := F_MO) (N := 32) (n := 32) hts i_MO (hts _ kI_MO)
  obtain ⟨cA, a1, a2⟩ := ty_prim (hts _ ka_60)
  obtain ⟨cZ, b1, b2⟩ := ty_prim (hts _ ka_61)
  obtain ⟨cL, l1, l2⟩ := ty_prim (hts _ ka_770)
  obtain ⟨cX, x1, x2⟩ := ty_arr (hts0 _ ka_37)
  obtain ⟨cT, t1, t2⟩ := ty_obj (hts0 _ ka_29)
  refine ⟨(fun k => match k with | 0 => c0 | 1 => c1 | 2 => c2 | 3 => c3 | 4 => c4 | 5 => c5 | 6 => c6 | 7 => c7 | 8 => c8 | 9 => c9 | _ => c10, fun k => match k with | 0 => i0 | 1 => i1 | 2 => i2 | 3 => i3 | 4 => i4 | 5 => i5 | 6 => i6 | 7 => i7 | 8 => i8 | 9 => i9 | _ => i10), cA, cZ, cX, cT, cL, fun k q hq => ?_, fun k q hq => ?_⟩
  · match k, hq with
    | 0, hq => cases hq; exact hk0
    | 1, hq => cases hq; exact hk1
    | 2, hq => cases hq; exact hk2
    | 3, hq => cases hq; exact hk3
    | 4, hq => cases hq; exact hk4
    | 5, hq => cases hq; exact hk5
    | 6, hq => cases hq; exact hk6
    | 7, hq => cases hq; exact hk7
    | 8, hq => cases hq; exact hk8
    | 9, hq => cases hq; exact hk9
    | 10, hq => cases hq; exact hk10
    | k + 11, hq => simp [classes] at hq
  · match k, hq with
    | 0, hq => cases hq; exact ⟨a1, a2⟩
    | 1, hq => cases hq; exact ⟨b1, b2⟩
    | 2, hq => cases hq; exact ⟨x1, x2⟩
    | 3, hq => cases hq; exact ⟨t1, t2⟩
    | 4, hq => cases hq; exact ⟨l1, l2⟩
    | k + 5, hq => simp at hq
theorem lA_no {s : State} : ∀ a : Nat, a < s.heap.size → ¬ lA s a := fun a h z => by
  have z : s.heap.size ≤ a := z
  omega
theorem lw_T3 {s : State} {b : Nat} (hts0 : ∀ w ∈ lw_tbl, w.before #[Value.ref b] s = true) : zT3 (lA s) s s.heap := ⟨hts0 _ ka_29, hts0 _ ka_37⟩
theorem zSt_of {args : Array Value} {s : State} {C n d : String} {A : Nat → Prop} (hl : (Cond.laysStatic C n d).before args s = true) (h : (Cond.isRef (.static C n d)).before args s = true) (hA : ∀ a : Nat, a < s.heap.size → ¬ A a) : zSt C n d A s s.heap := by
  obtain ⟨c, k, i, f, a, cell, hc, hi, hst, ha, hcell, hs, hcls, hlt, hty⟩ := Cond.laysStatic_spec hl
  cases hv : (Term.static C n d).eval args s none [] s with
  | none => simp [Cond.before, Cond.holds, Cond.value, hv] at h
  | some w =>
    obtain ⟨hst', a', cell', ha', hcell', -, hslot⟩ := Term.static_spec hi hv
    cases ha.symm.trans ha'
    cases hcell.symm.trans hcell'
    refine ⟨c, k, i, f, a, cell, w, hc, hi, hst, ha, hcell, hs, hcls, hlt, hty, hslot, ?_, hA a (Array.getElem?_eq_some_iff.mp hcell).1⟩
    simp only [Cond.before, Cond.holds, Cond.value, hv] at h
    cases w with
    | null => exact Or.inl rfl
    | ref t => exact Or.inr ⟨t, rfl⟩
    | _ => simp at h
theorem nc_of {X Y : String} {args : Array Value} {U : State} (h : (Cond.not (Cond.castable X Y)).before args U = true) : ncF X Y U := by
  simp only [Cond.before, Cond.holds, Cond.value] at h
  cases hc : U.vm.findClass X with
  | none => simp [hc] at h
  | some c =>
    cases ht : U.vm.findClass Y with
    | none => simp [hc, ht] at h
    | some t => exact ⟨c, t, hc, ht, by simpa [hc, ht] using h⟩
theorem vkR_of {own tx : String} {k : Nat} {A : Array Value} {U : State} {cur : ClassId} (hcur : U.vm.findClass own = some cur) (h : (Cond.stringRef own k tx).before A U = true) : ∃ a, vk_R own k tx a U := by
  obtain ⟨_, _, _, a, _, _, _, _, _, ha⟩ := Cond.stringRef_spec hcur h
  exact ⟨a, vk_R.of h ha⟩
theorem cs_ok : ∀ X ∈ exs, Cond.castable X X ∈ lw_tbl := by decide +kernel
theorem dc_ok : ∀ x ∈ dcl, Cond.declares x ∈ lw_tbl := by decide +kernel
theorem st_ok : ∀ q ∈ strs, Cond.stringRef R_SB q.1 q.2 ∈ lw_tbl := by decide +kernel
theorem nc_ok : ∀ X ∈ exs, ∀ Y ∈ exs, X ≠ Y → Cond.not (Cond.castable X Y) ∈ flatC (Jvm.Cond.and given_1 narrow_1) := by decide +kernel
theorem us_ok : Cond.laysStatic thN usN usD ∈ lw_tbl ∧ Cond.isRef (.static thN usN usD) ∈ flatC (Jvm.Cond.and given_1 narrow_1) := by decide +kernel
theorem ss_ok : Cond.laysStatic thN ssN ssD ∈ lw_tbl ∧ Cond.isRef (.static thN ssN ssD) ∈ flatC (Jvm.Cond.and given_1 narrow_1) := by decide +kernel
theorem on_ok : Cond.laysStatic R_PI "ONE_AT_SIDE" "[I" ∈ lw_tbl ∧ Cond.arrayOf (Term.static R_PI "ONE_AT_SIDE" "[I") .int ∈ flatC (Jvm.Cond.and given_1 narrow_1) ∧ Cond.eq (.length (Term.static R_PI "ONE_AT_SIDE" "[I")) (.int 4) ∈ flatC (Jvm.Cond.and given_1 narrow_1) ∧ Cond.eq (.elem (Term.static R_PI "ONE_AT_SIDE" "[I") (.int 0)) (.int 1) ∈ flatC (Jvm.Cond.and given_1 narrow_1) ∧ Cond.eq (.elem (Term.static R_PI "ONE_AT_SIDE" "[I") (.int 1)) (.int 3) ∈ flatC (Jvm.Cond.and given_1 narrow_1) ∧ Cond.eq (.elem (Term.static R_PI "ONE_AT_SIDE" "[I") (.int 2)) (.int 9) ∈ flatC (Jvm.Cond.and given_1 narrow_1) ∧ Cond.eq (.elem (Term.static R_PI "ONE_AT_SIDE" "[I") (.int 3)) (.int 27) ∈ flatC (Jvm.Cond.and given_1 narrow_1) := by decide +kernel
theorem lw_T1 {s : State} {b : Nat} (hts0 : ∀ w ∈ lw_tbl, w.before #[Value.ref b] s = true) (hts : ∀ w ∈ lw_g, w.before #[Value.ref b] s = true) (hgv : (Jvm.Cond.and given_1 narrow_1).before #[Value.ref b] s = true) : zT1 (lA s) s s.heap := by
  have hs := flat_of_before _ hgv
  obtain ⟨o1, o2, o3, o4, o5, o6, o7⟩ := on_ok
  obtain ⟨t, ht, hT⟩ := va_Tof (N := 4) (f := fun j => .int (nI (one j))) (A := lA s) (by decide) (hs _ o2) (va_eqt (hs _ o3)) (fun j hj => by
    rcases (show j = 0 ∨ j = 1 ∨ j = 2 ∨ j = 3 by omega) with rfl | rfl | rfl | rfl
    · exact va_eqt (hs _ o4)
    · exact va_eqt (hs _ o5)
    · exact va_eqt (hs _ o6)
    · exact va_eqt (hs _ o7)) lA_no
  exact ⟨t, va_Zref (hts0 _ o1) (hts _ kn_PI) ht lA_no, hT⟩
theorem lw_T2 {s : State} {b : Nat} {cur : ClassId} (hcur : s.vm.findClass R_SB = some cur) (hts0 : ∀ w ∈ lw_tbl, w.before #[Value.ref b] s = true) (hgv : (Jvm.Cond.and given_1 narrow_1).before #[Value.ref b] s = true) : zT2 (lA s) s s.heap := by
  have hs := flat_of_before _ hgv
  refine ⟨zSt_of (hts0 _ us_ok.1) (hs _ us_ok.2) lA_no, zSt_of (hts0 _ ss_ok.1) (hs _ ss_ok.2) lA_no, fun X hX => va_any rfl (hts0 _ (cs_ok X hX)), fun x hx => va_any rfl (hts0 _ (dc_ok x hx)), fun q hq => vkR_of hcur (hts0 _ (st_ok q hq)), fun X hX Y hY hne => nc_of (hs _ (nc_ok X hX Y hY hne))⟩
