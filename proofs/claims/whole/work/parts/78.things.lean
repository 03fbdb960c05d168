/-! the things' cells as one list; what a call leaves of them; which block a thing is -/
theorem met_f {l : Launch} {y : MethodName} {ws : List Cond} {rm : Room} {D : va_G} {tys : List (ClassId × FieldType)} {w : va_W} {As : List Value} {sz : Nat} {Qc : Array Value → State → Outcome → State → Prop} {mc ms : Nat} {free : Addr → Prop} (h : Met l y ws rm (zP D tys w As sz) Qc mc ms free) : Met l y ws rm (zPF zF0 D tys w As sz) Qc mc ms free := by
  intro p e ha hc hk s m args below hf happ hP hK
  exact h p e ha hc hk s m args below hf happ ⟨hP.1, hP.2.1, hP.2.2.1, hP.2.2.2.1, hP.2.2.2.2.1⟩ hK
abbrev thQ (cA : ClassId) (bk : Nat → Int32) (us : Nat → Bool) (u : Nat → FL) (cap tB : Nat → Nat) (k : Nat) : va_W := lTO cA (tB k) (bk k) (us k) ++ lTL cA (tB k) (cap k) (u k)
theorem in_thQ {cA : ClassId} {bk : Nat → Int32} {us : Nat → Bool} {u : Nat → FL} {cap tB : Nat → Nat} {k : Nat} : ∀ q ∈ thQ cA bk us u cap tB k, tB k ≤ q.1 ∧ q.1 < tB k + 4 := fun q hq => by
  rcases List.mem_append.mp hq with h | h
  · have := in_lTO q h
    omega
  · have := in_lTL q h
    omega
theorem nd_thQ {cA : ClassId} {bk : Nat → Int32} {us : Nat → Bool} {u : Nat → FL} {cap tB : Nat → Nat} {k : Nat} : va_D (fun _ => True) (thQ cA bk us u cap tB k) := nd_ap nd_lTO nd_lTL in_lTO in_lTL (Or.inl (Nat.le_refl _))
theorem nd_eq {w : va_W} (h : va_D (fun _ => True) w) {p q : Nat × va_E} (hp : p ∈ w) (hq : q ∈ w) (e : p.1 = q.1) : p = q := by
  obtain ⟨i, hi⟩ := List.getElem?_of_mem hp
  obtain ⟨j, hj⟩ := List.getElem?_of_mem hq
  have := h.1 i j p q hi hj e
  subst this
  exact Option.some.inj (hi.symm.trans hj)
/-- all the things stand -/
def thA (D : va_G) (cA : ClassId) (bk : Nat → Int32) (us : Nat → Bool) (u : Nat → FL) (cap tB : Nat → Nat) (tc : Nat) (tf : Nat → Option Nat) (h0 : Nat) (H : Heap) : Prop := ∀ k, k < tc → (va_P D classes (lTO cA (tB k) (bk k) (us k)) H ∧ va_P D classes (lTL cA (tB k) (cap k) (u k)) H) ∧ h0 + 98 ≤ tB k ∧ tf k = some (tB k)
/-- some cells of things -/
def thS (D : va_G) (cA : ClassId) (bk : Nat → Int32) (us : Nat → Bool) (u : Nat → FL) (cap tB : Nat → Nat) (tc : Nat) (T : va_W) (H : Heap) : Prop := va_P D classes T H ∧ va_D (fun _ => True) T ∧ ∀ q ∈ T, ∃ k, k < tc ∧ q ∈ thQ cA bk us u cap tB k
section TH
variable {D : va_G} {cA : ClassId} {bk : Nat → Int32} {us : Nat → Bool} {u : Nat → FL} {cap tB : Nat → Nat} {tc h0 : Nat} {tf : Nat → Option Nat} {H H1 : Heap}
theorem th_kept {wsC T : va_W} (hT : thA D cA bk us u cap tB tc tf h0 H) (hO : ∀ i j, i < j → j < tc → tB i + 4 ≤ tB j) (hf : zfr wsC H H1) (hw : ∀ p ∈ wsC, p.1 < h0 + 98 ∨ p ∈ T) (hs : thS D cA bk us u cap tB tc T H) (h1 : va_P D classes T H1) : thA D cA bk us u cap tB tc tf h0 H1 := fun k hk => by
  have key : ∀ q ∈ thQ cA bk us u cap tB k, va_at D classes q H1 := fun q hq => by
    have hr := in_thQ q hq
    have hl := (hT k hk).2.1
    by_cases hc : ∃ p ∈ wsC, p.1 = q.1
    · obtain ⟨p, hp, e⟩ := hc
      rcases hw p hp with h | h
      · omega
      · obtain ⟨k', hk', hq'⟩ := hs.2.2 p h
        have hr' := in_thQ p hq'
        have ek : k' = k := by
          rcases Nat.lt_trichotomy k k' with h2 | h2 | h2
          · have := hO k k' h2 hk'
            omega
          · exact h2.symm
          · have := hO k' k h2 hk
            omega
        subst ek
        have ep : p = q := nd_eq nd_thQ hq' hq e
        subst ep
        obtain ⟨i, hi⟩ := List.getElem?_of_mem h
        exact h1 i p hi
    · have hP := (hT k hk).1.1.app (hT k hk).1.2
      obtain ⟨i, hi⟩ := List.getElem?_of_mem hq
      exact (hP i q hi).kept (hf q.1 (hP i q hi).lt (fun z => by
        rcases z with ⟨j, e, hj⟩ | z
        · exact hc ⟨(q.1, e), List.mem_of_getElem? hj, rfl⟩
        · have := (hP i q hi).lt
          omega))
  exact ⟨⟨fun i q hi => key q (List.mem_append_left _ (List.mem_of_getElem? hi)), fun i q hi => key q (List.mem_append_right _ (List.mem_of_getElem? hi))⟩, (hT k hk).2⟩
theorem thS_in {T : va_W} (hT : thA D cA bk us u cap tB tc tf h0 H) (hs : thS D cA bk us u cap tB tc T H) : ∀ p ∈ T, h0 + 98 ≤ p.1 := fun p hp => by
  obtain ⟨k, hk, hq⟩ := hs.2.2 p hp
  have := in_thQ p hq
  have := (hT k hk).2.1
  omega
theorem thS_nil : thS D cA bk us u cap tB tc [] H := ⟨(fun k q hk => nomatch hk), ⟨(fun i j p q hi => nomatch hi), (fun k q hk => nomatch hk)⟩, fun q hq => nomatch hq⟩
theorem th_kept0 {wsC : va_W} (hT : thA D cA bk us u cap tB tc tf h0 H) (hO : ∀ i j, i < j → j < tc → tB i + 4 ≤ tB j) (hf : zfr wsC H H1) (hw : ∀ p ∈ wsC, p.1 < h0 + 98) : thA D cA bk us u cap tB tc tf h0 H1 := th_kept (T := []) hT hO hf (fun p hp => Or.inl (hw p hp)) thS_nil (fun k q hk => nomatch hk)
theorem thS_q (hT : thA D cA bk us u cap tB tc tf h0 H) {k : Nat} (hk : k < tc) : thS D cA bk us u cap tB tc (lTO cA (tB k) (bk k) (us k) ++ lTL cA (tB k) (cap k) (u k)) H := ⟨(hT k hk).1.1.app (hT k hk).1.2, nd_thQ, fun q hq => ⟨k, hk, hq⟩⟩
theorem thS_o (hT : thA D cA bk us u cap tB tc tf h0 H) {k : Nat} {v : Int32} (hk : k < tc) (e : bk k = v) : thS D cA bk us u cap tB tc (lTO cA (tB k) v (us k)) H := by
  subst e
  exact ⟨(hT k hk).1.1, nd_lTO, fun q hq => ⟨k, hk, List.mem_append_left _ hq⟩⟩
theorem thS_oo (hT : thA D cA bk us u cap tB tc tf h0 H) (hO : ∀ i j, i < j → j < tc → tB i + 4 ≤ tB j) {k k' : Nat} {v v' : Int32} (hk : k < tc) (hk' : k' < tc) (hne : k ≠ k') (e : bk k = v) (e' : bk k' = v') : thS D cA bk us u cap tB tc (lTO cA (tB k) v (us k) ++ lTO cA (tB k') v' (us k')) H := by
  subst e
  subst e'
  refine ⟨(hT k hk).1.1.app (hT k' hk').1.1, nd_ap nd_lTO nd_lTO in_lTO in_lTO ?_, fun q hq => ?_⟩
  · rcases Nat.lt_or_ge k k' with h | h
    · have := hO k k' h hk'
      omega
    · have := hO k' k (by omega) hk
      omega
  · rcases List.mem_append.mp hq with h | h
    · exact ⟨k, hk, List.mem_append_left _ h⟩
    · exact ⟨k', hk', List.mem_append_left _ h⟩
/-- the number that the class finds for t -/
def fb1 (tc : Nat) (bk : Nat → Int32) (t v : Int32) : Prop := ((t < 0 ∨ nI tc ≤ t) ∧ v = -1) ∨ ∃ k, k < tc ∧ t = nI k ∧ bk k = v
theorem fbR_l {T T2 : va_W} {t v : Int32} (h : fbR tc tf T t v) : fbR tc tf (T ++ T2) t v := by
  rcases h with h | ⟨tt, aT, aU, us, k, a, b, c, d⟩
  · exact Or.inl h
  · exact Or.inr ⟨tt, aT, aU, us, k, a, b, c, by rw [List.getElem?_append_left (List.getElem?_eq_some_iff.mp d).1]; exact d⟩
theorem fbR_r {T T2 : va_W} {t v : Int32} (h : fbR tc tf T t v) : fbR tc tf (T2 ++ T) t v := by
  rcases h with h | ⟨tt, aT, aU, us, k, a, b, c, d⟩
  · exact Or.inl h
  · exact Or.inr ⟨tt, aT, aU, us, T2.length + k, a, b, c, by rw [List.getElem?_append_right (by omega), Nat.add_sub_cancel_left]; exact d⟩
theorem fbR_o (hT : thA D cA bk us u cap tB tc tf h0 H) {k : Nat} {v : Int32} (hk : k < tc) : fbR tc tf (lTO cA (tB k) v (us k)) (nI k) v := Or.inr ⟨k, tB k, tB k + 1, us k, 0, rfl, hk, (hT k hk).2.2, rfl⟩
theorem fb_T1 (hT : thA D cA bk us u cap tB tc tf h0 H) {t v : Int32} (h : fb1 tc bk t v) : ∃ T, thS D cA bk us u cap tB tc T H ∧ fbR tc tf T t v := by
  rcases h with h | ⟨k, hk, rfl, e⟩
  · exact ⟨[], thS_nil, Or.inl h⟩
  · exact ⟨_, thS_o hT hk e, fbR_o hT hk⟩
theorem fb_T2 (hT : thA D cA bk us u cap tB tc tf h0 H) (hO : ∀ i j, i < j → j < tc → tB i + 4 ≤ tB j) {t v t' v' : Int32} (h : fb1 tc bk t v) (h' : fb1 tc bk t' v') : ∃ T, thS D cA bk us u cap tB tc T H ∧ fbR tc tf T t v ∧ fbR tc tf T t' v' := by
  rcases h with h | ⟨k, hk, rfl, e⟩
  · obtain ⟨T, a, b⟩ := fb_T1 hT h'
    exact ⟨T, a, Or.inl h, b⟩
  · rcases h' with h' | ⟨k', hk', rfl, e'⟩
    · exact ⟨_, thS_o hT hk e, fbR_o hT hk, Or.inl h'⟩
    · by_cases hc : k = k'
      · subst hc
        cases e.symm.trans e'
        exact ⟨_, thS_o hT hk e, fbR_o hT hk, fbR_o hT hk⟩
      · exact ⟨_, thS_oo hT hO hk hk' hc e e', fbR_l (fbR_o hT hk), fbR_r (fbR_o hT hk')⟩
end TH
theorem find_fb {n tc : Nat} {bk : Nat → Int32} {us : Nat → Bool} {u : Nat → FL} {cap wt : Nat → Nat} {M : MS} (h : RelT n tc bk us u cap wt M) (hn : n ≤ 16) (h17 : M.2.2.1 17 = n) (t : Int32) :
    (fb1 tc bk t (-1) ∧ bfind (M.1 10) t (M.2.2.1 17) = none) ∨ ∃ k b, k < tc ∧ b < n ∧ t = nI k ∧ bk k = nI b ∧ bfind (M.1 10) t (M.2.2.1 17) = some b := by
  rw [h17]
  rcases find_cases h hn t with ⟨a, b⟩ | ⟨k, hk, e, ⟨a, b⟩ | ⟨j, hj, a, b⟩⟩
  · exact Or.inl ⟨Or.inl ⟨a, rfl⟩, b⟩
  · exact Or.inl ⟨Or.inr ⟨k, hk, e, a⟩, b⟩
  · exact Or.inr ⟨k, j, hk, hj, e, a, b⟩
theorem fb1_k {tc k b : Nat} {bk : Nat → Int32} {t : Int32} (hk : k < tc) (e : t = nI k) (h : bk k = nI b) : fb1 tc bk t (nI b) := Or.inr ⟨k, hk, e, h⟩
/-- a long that two ints make -/
def lg (a b : Int32) : Int64 := (a.toInt64 <<< ((nI 32).toInt64 &&& 63)) ||| (b.toInt64 &&& 4294967295)
theorem lN_of {x : Int64} {k : Nat} (hk : k < 2 ^ 62) (h1 : ¬ x < lN 0) (h2 : ¬ lN k < x) : ∃ j, j ≤ k ∧ x = lN j := by
  obtain ⟨j, hj, rfl⟩ := pk_lOf (fun q => h1 (by rw [lN_00]; exact q))
  refine ⟨j, ?_, rfl⟩
  rcases Nat.lt_or_ge k j with h | h
  · exact absurd ((pk_lLT (by omega) hj).mpr h) h2
  · exact h
/-- the reference's orders and places as they stand -/
abbrev vM (M : MS) : V5 := (M.1 21, M.1 22, M.2.1 23, M.1 24, M.1 25)
theorem ag_v (M : MS) : agM M (mq M (vM M)) := ⟨⟨rfl, rfl, rfl, rfl, rfl, rfl, rfl, rfl, rfl, rfl, rfl, rfl⟩, ⟨rfl, rfl, rfl, rfl⟩, rfl, rfl, rfl⟩
theorem ag_q {M : MS} {v : V5} (e1 : v.1 = M.1 21) (e2 : v.2.1 = M.1 22) (e3 : v.2.2.1 = M.2.1 23) : agM M (mq (mS 0 0 M) v) := ⟨⟨rfl, rfl, rfl, rfl, rfl, rfl, rfl, rfl, rfl, rfl, e1, e2⟩, ⟨rfl, rfl, rfl, e3⟩, rfl, rfl, rfl⟩
def bA (x : Int32) : Bool := !decide (x = 0)
section ZB
variable {p : Program} {l : Launch} {e : Env} {R : Room} {s : State} {m : MethodId} {args : Array Value} {below : List Frame} {meth : Method} {c : Code} {H : Heap} {locs : List Loc} {cells slots : Nat} {Q : State → Prop} {cc : ByteArray} {pc tgt : Nat} {off off2 : Int} {ls : Array Slot} {rest : List Value}
/-- x != 0 as an argument -/
theorem zb_arg {x : Int32} (hexec : p.tables.exec = Jvm.exec) (hb : c.code = cc) (d0 : decode cc pc = .ok (.ifCond .eq off, 3)) (ht : (pc : Int) + off = (tgt : Int)) (d1 : decode cc (pc + 3) = .ok (.iconst 1, 1)) (d2 : decode cc (pc + 3 + 1) = .ok (.goto off2, 3)) (ht2 : ((pc + 3 + 1 : Nat) : Int) + off2 = ((tgt + 1 : Nat) : Int)) (d3 : decode cc tgt = .ok (.iconst 0, 1)) (k : W p l e R s m args below meth c H locs cells slots Q (F0 m (tgt + 1) ls (.int (zb (bA x)) :: rest))) : W p l e R s m args below meth c H locs cells slots Q (F0 m pc ls (.int x :: rest)) := by
  refine lv_if_eq (tgt := tgt) hexec hb d0 ht (fun h => ?_) (fun h => ?_)
  · refine lv_iconst (v := zb (bA x)) hexec hb d3 (by rw [show bA x = false by simp [bA, h]]; decide) k
  · refine lv_iconst (v := zb (bA x)) hexec hb d1 (by rw [show bA x = true by simp [bA, h]]; decide) ?_
    exact lv_goto (tgt := tgt + 1) hexec hb d2 ht2 k
/-- a boolean answer as a long -/
theorem zb_ans {x : Bool} (hexec : p.tables.exec = Jvm.exec) (hb : c.code = cc) (d0 : decode cc pc = .ok (.ifCond .eq off, 3)) (ht : (pc : Int) + off = (tgt : Int)) (d1 : decode cc (pc + 3) = .ok (.lconst 1, 1)) (d2 : decode cc (pc + 3 + 1) = .ok (.goto off2, 3)) (ht2 : ((pc + 3 + 1 : Nat) : Int) + off2 = ((tgt + 1 : Nat) : Int)) (d3 : decode cc tgt = .ok (.lconst 0, 1)) (k : W p l e R s m args below meth c H locs cells slots Q (F0 m (tgt + 1) ls (.long (bL x) :: rest))) : W p l e R s m args below meth c H locs cells slots Q (F0 m pc ls (.int (zb x) :: rest)) := by
  refine z_zeq (tgt := tgt) hexec hb d0 ht (fun h => ?_) (fun h => ?_)
  · refine lv_lconst (v := bL x) hexec hb d3 (by rw [h]; decide) k
  · refine lv_lconst (v := bL x) hexec hb d1 (by rw [h]; decide) ?_
    exact lv_goto (tgt := tgt + 1) hexec hb d2 ht2 k
end ZB
