/-! what a throw wants beside the good words: Throwable's two statics, which class is which, who declares, the texts -/
def zSt (C n d : String) (A : Nat → Prop) (U : State) (H : Heap) : Prop := ∃ (c : ClassId) (k : Class) (i : Nat) (f : Field) (a : Nat) (cell : Cell) (v : Value), U.vm.findClass C = some c ∧ U.fieldFound? C n d = some (c, k, i, f) ∧ f.isStatic = true ∧ k.statics = some a ∧ H[a]? = some cell ∧ cell.vm.isStatics = true ∧ cell.cls = c ∧ f.slot < cell.slots.size ∧ k.staticTypes[f.slot]? = some f.type ∧ cell.slots[f.slot]? = some v ∧ (v = .null ∨ ∃ t, v = .ref t) ∧ ¬ A a
theorem zSt.moved {C n d : String} {A : Nat → Prop} {u U : State} {H : Heap} (hvm : u.vm.Alike U.vm) (h : zSt C n d A u H) : zSt C n d A U H := by
  obtain ⟨c, k, i, f, a, cell, v, h0, h1, h2, h3, h4, h5, h6, h7, h8, h9⟩ := h
  obtain ⟨k', hi', he⟩ := State.fieldFound?_setVm hvm h1
  exact ⟨c, k', i, f, a, cell, v, by rw [hvm.findClass]; exact h0, hi', h2, by rw [he]; exact h3, h4, h5, h6, h7, by rw [he]; exact h8, h9⟩
theorem zSt.kept {C n d : String} {A : Nat → Prop} {U : State} {H H1 : Heap} (h : zSt C n d A U H) (hq : ∀ a : Nat, a < H.size → ¬ A a → H1[a]? = H[a]?) : zSt C n d A U H1 := by
  obtain ⟨c, k, i, f, a, cell, v, h0, h1, h2, h3, h4, h5, h6, h7, h8, h9, h10, h11⟩ := h
  exact ⟨c, k, i, f, a, cell, v, h0, h1, h2, h3, by rw [hq a (Array.getElem?_eq_some_iff.mp h4).1 h11]; exact h4, h5, h6, h7, h8, h9, h10, h11⟩
theorem zSt.narrow {C n d : String} {A B : Nat → Prop} {U : State} {H : Heap} (h : zSt C n d A U H) (hAB : ∀ q, B q → A q) : zSt C n d B U H := by
  obtain ⟨c, k, i, f, a, cell, v, h0, h1, h2, h3, h4, h5, h6, h7, h8, h9, h10, h11⟩ := h
  exact ⟨c, k, i, f, a, cell, v, h0, h1, h2, h3, h4, h5, h6, h7, h8, h9, h10, fun z => h11 (hAB a z)⟩
theorem zSt.lays {C n d : String} {A : Nat → Prop} {U : State} {args : Array Value} (h : zSt C n d A U U.heap) : (Cond.laysStatic C n d).before args U = true := by
  obtain ⟨c, k, i, f, a, cell, v, h0, h1, h2, h3, h4, h5, h6, h7, h8, h9, h10, h11⟩ := h
  simp [Cond.before, Cond.holds, Cond.value, h0, h1, h2, h3, h4, h5, h6, h7, h8]
theorem zSt.isRef {C n d : String} {A : Nat → Prop} {U : State} {args : Array Value} (h : zSt C n d A U U.heap) : (Cond.isRef (.static C n d)).before args U = true := by
  obtain ⟨c, k, i, f, a, cell, v, h0, h1, h2, h3, h4, h5, h6, h7, h8, h9, h10, h11⟩ := h
  rcases h10 with rfl | ⟨t, rfl⟩ <;> simp [Cond.before, Cond.holds, Cond.value, Term.eval, State.fieldNamed?, h1, h2, h3, h4, h5, h9]
abbrev thN : String := "java/lang/Throwable"
abbrev usN : String := "UNASSIGNED_STACK"
abbrev usD : String := "[Ljava/lang/StackTraceElement;"
abbrev ssN : String := "SUPPRESSED_SENTINEL"
abbrev ssD : String := "Ljava/util/List;"
def strs : List (Nat × String) := [(70, "no room for a block"), (83, "a side is not 1 .. 1000"), (112, "no such block"), (117, "a place is not 0 .. 20000"), (128, "no room for a net"), (130, "both blocks are the same"), (139, "no such thing"), (145, "no room for a slice, or a thing is in one"), (147, "both things are the same"), (158, "no such thing, shape or side"), (171, "tries are not 0 .. 2000"), (179, "no such block or axis"), (197, "no such block, side or pin"), (205, "a side is below 1")]
def exs : List String := [R_JISE, R_JIAE, R_JIOB]
def dcl : List MethodName := [Bundle.initS R_JRun, Bundle.initS R_JExc, Bundle.initS R_JThr]
/-- no Y is an X -/
def ncF (X Y : String) (U : State) : Prop := ∃ c d : ClassId, U.vm.findClass X = some c ∧ U.vm.findClass Y = some d ∧ U.vm.assignable c d = false
theorem ncF.moved {X Y : String} {u U : State} (hvm : u.vm.Alike U.vm) (h : ncF X Y u) : ncF X Y U := by
  obtain ⟨c, d, a, b, q⟩ := h
  exact ⟨c, d, by rw [hvm.findClass]; exact a, by rw [hvm.findClass]; exact b, by rw [hvm.assignable]; exact q⟩
def zT2 (A : Nat → Prop) (U : State) (H : Heap) : Prop := zSt thN usN usD A U H ∧ zSt thN ssN ssD A U H ∧ (∀ X ∈ exs, (Cond.castable X X).before #[] U = true) ∧ (∀ x ∈ dcl, (Cond.declares x).before #[] U = true) ∧ (∀ q ∈ strs, ∃ a, vk_R R_SB q.1 q.2 a U) ∧ ∀ X ∈ exs, ∀ Y ∈ exs, X ≠ Y → ncF X Y U
theorem zt_tr {u U : State} {w : Cond} (hc : w.onTables = true) (h : w.before #[] (u.setVm U.vm) = true) : w.before #[] U = true := by
  have e := Cond.onTables_vm (A := #[]) (A' := #[]) (U := u) (U' := U) U.vm w hc
  have hU : U.setVm U.vm = U := rfl
  rw [hU] at e
  rw [← e]
  exact h
theorem zT2_ok : zFok zT2 := by
  refine ⟨fun A u U H h z => ?_, fun A u U H h z => ?_, fun A U H H1 z h => ?_, fun A B U H z h => ?_⟩
  · obtain ⟨a, b, c, d, f, g⟩ := z
    refine ⟨a.moved h.alike, b.moved h.alike, fun X hX => zt_tr (u := u) rfl (by rw [Cond.castable_setVm h.alike]; exact c X hX), fun x hx => zt_tr (u := u) rfl (by rw [Cond.declares_setVm h.alike]; exact d x hx), fun q hq => ?_, fun X hX Y hY hne => (g X hX Y hY hne).moved h.alike⟩
    obtain ⟨y, hy⟩ := f q hq
    exact ⟨y, hy.warm h⟩
  · obtain ⟨a, b, c, d, f, g⟩ := z
    have h' := al_of h
    refine ⟨a.moved h', b.moved h', fun X hX => zt_tr (u := u) rfl (by rw [Cond.castable_setVm h']; exact c X hX), fun x hx => zt_tr (u := u) rfl (by rw [Cond.declares_setVm h']; exact d x hx), fun q hq => ?_, fun X hX Y hY hne => (g X hX Y hY hne).moved h'⟩
    obtain ⟨y, hy⟩ := f q hq
    exact ⟨y, hy.same h⟩
  · obtain ⟨a, b, c⟩ := z
    exact ⟨a.kept h, b.kept h, c⟩
  · obtain ⟨a, b, c⟩ := z
    exact ⟨a.narrow h, b.narrow h, c⟩
def xtW (X : String) (w : Cond) : Prop := w = .laysStatic thN usN usD ∨ w = .laysStatic thN ssN ssD ∨ w = .castable X X ∨ w = .isRef (.static thN usN usD) ∨ w = .isRef (.static thN ssN ssD) ∨ ∃ x ∈ dcl, w = .declares x
def xtB (X : String) (w : Cond) : Bool := decide (w = .laysStatic thN usN usD) || decide (w = .laysStatic thN ssN ssD) || decide (w = .castable X X) || decide (w = .isRef (.static thN usN usD)) || decide (w = .isRef (.static thN ssN ssD)) || dcl.any (fun x => decide (w = .declares x))
theorem xt_of {X : String} {w : Cond} (h : xtB X w = true) : xtW X w := by
  unfold xtB at h
  unfold xtW
  simp only [Bool.or_eq_true, decide_eq_true_eq, List.any_eq_true] at h
  rcases h with ((((h | h) | h) | h) | h) | h
  · exact Or.inl h
  · exact Or.inr (Or.inl h)
  · exact Or.inr (Or.inr (Or.inl h))
  · exact Or.inr (Or.inr (Or.inr (Or.inl h)))
  · exact Or.inr (Or.inr (Or.inr (Or.inr (Or.inl h))))
  · exact Or.inr (Or.inr (Or.inr (Or.inr (Or.inr h))))
theorem zT2_hat {A : Nat → Prop} {U : State} {args : Array Value} {own X : String} {ic : Nat} {names : List String} (h : zT2 A U U.heap) (hts : ∀ w ∈ lw_g, w.before args U = true) (hX : X ∈ exs) (hm : ∀ w ∈ Bundle.ownAtoms own ic X names, w ∈ lw_g ∨ xtB X w = true) : ∀ w ∈ Bundle.ownAtoms own ic X names, w.before args U = true := fun w hw => by
  rcases hm w hw with q | q
  · exact hts w q
  · rcases xt_of q with rfl | rfl | rfl | rfl | rfl | ⟨x, hx, rfl⟩
    · exact h.1.lays
    · exact h.2.1.lays
    · exact va_any rfl (h.2.2.1 X hX)
    · exact h.1.isRef
    · exact h.2.1.isRef
    · exact va_any rfl (h.2.2.2.1 x hx)
abbrev exN : List String := [R_JRun, R_JExc]
theorem tm_JISE : ∀ w ∈ Bundle.ownAtoms R_SB 72 R_JISE exN, w ∈ lw_g ∨ xtB R_JISE w = true := by decide +kernel
theorem tm_JIAE : ∀ w ∈ Bundle.ownAtoms R_SB 85 R_JIAE exN, w ∈ lw_g ∨ xtB R_JIAE w = true := by decide +kernel
theorem tm_JIOB : ∀ w ∈ Bundle.ownAtoms R_SB 114 R_JIOB exN, w ∈ lw_g ∨ xtB R_JIOB w = true := by decide +kernel
