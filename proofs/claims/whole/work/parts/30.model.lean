/-- the reference's state: number rows by field, boolean rows by field, counters by field, the row 'firsts' -/
abbrev MS : Type := (Nat → Nat → Nat) × (Nat → Nat → Bool) × (Nat → Nat) × (Nat → Int32)
def mN (i : Nat) (f : Nat → Nat) (M : MS) : MS := (va_up M.1 i f, M.2)
def mB (i : Nat) (f : Nat → Bool) (M : MS) : MS := (M.1, va_up M.2.1 i f, M.2.2)
def mS (i v : Nat) (M : MS) : MS := (M.1, M.2.1, va_up M.2.2.1 i v, M.2.2.2)
def mF (f : Nat → Int32) (M : MS) : MS := (M.1, M.2.1, M.2.2.1, f)
def isT (k : Nat) (t : Int32) : Bool := !decide (t < 0) && !decide (nI k ≤ t)
/-- the block whose thing is t, of the first k -/
def bfind (f : Nat → Nat) (t : Int32) : Nat → Option Nat
  | 0 => none
  | k + 1 => match bfind f t k with
    | some j => some j
    | none => if nI (f k) = t then some k else none
theorem bfind_up {f : Nat → Nat} {t : Int32} {k j : Nat} (h : bfind f t k = some j) : ∀ i, bfind f t (k + i) = some j
  | 0 => h
  | i + 1 => by
    show (match bfind f t (k + i) with | some j => some j | none => _) = _
    rw [bfind_up h i]
def oI (x : Option Nat) : Int32 := match x with
  | some j => nI j
  | none => -1
def wdM (M : MS) (q b : Nat) : Nat := if M.2.1 23 (16 * q + b) = true then M.1 12 b else M.1 11 b
def hgM (M : MS) (q b : Nat) : Nat := if M.2.1 23 (16 * q + b) = true then M.1 11 b else M.1 12 b
/-- the greatest end, over the first k -/
def egX (M : MS) (q : Nat) : Nat → Nat
  | 0 => 0
  | k + 1 => max (egX M q k) (M.1 24 k + wdM M q k)
def egY (M : MS) (q : Nat) : Nat → Nat
  | 0 => 0
  | k + 1 => max (egY M q k) (M.1 25 k + hgM M q k)
/-- the wire of the first k nets -/
def wiM (M : MS) (q : Nat) : Nat → Nat
  | 0 => 0
  | k + 1 => wiM M q k + (dd (2 * M.1 24 (M.1 18 k) + wdM M q (M.1 18 k)) (2 * M.1 24 (M.1 19 k) + wdM M q (M.1 19 k)) + dd (2 * M.1 25 (M.1 18 k) + hgM M q (M.1 18 k)) (2 * M.1 25 (M.1 19 k) + hgM M q (M.1 19 k)))
def dgM (M : MS) (b : Nat) : Nat → Nat
  | 0 => 0
  | k + 1 => dgM M b k + (if M.1 18 k = b ∨ M.1 19 k = b then 1 else 0)
theorem dg_le {M : MS} {b : Nat} : ∀ k, dgM M b k ≤ k
  | 0 => Nat.le_refl _
  | k + 1 => by
    have := dg_le (M := M) (b := b) k
    rw [dgM]
    split <;> omega
theorem d_MO_thrown_0 : decode b_MO_thrown 0 = .ok (.aload_n 0, 1) := by decide +kernel
theorem d_MO_thrown_1 : decode b_MO_thrown 1 = .ok (.getfield 97, 3) := by decide +kernel
theorem d_MO_thrown_4 : decode b_MO_thrown 4 = .ok (.ireturn, 1) := by decide +kernel
theorem d_MO_draw_0 : decode b_MO_draw 0 = .ok (.aload_n 0, 1) := by decide +kernel
theorem d_MO_draw_1 : decode b_MO_draw 1 = .ok (.aload_n 0, 1) := by decide +kernel
theorem d_MO_draw_2 : decode b_MO_draw 2 = .ok (.getfield 93, 3) := by decide +kernel
theorem d_MO_draw_5 : decode b_MO_draw 5 = .ok (.ldc2_w 101, 3) := by decide +kernel
theorem d_MO_draw_8 : decode b_MO_draw 8 = .ok (.lmul, 1) := by decide +kernel
theorem d_MO_draw_9 : decode b_MO_draw 9 = .ok (.ldc2_w 103, 3) := by decide +kernel
theorem d_MO_draw_12 : decode b_MO_draw 12 = .ok (.ladd, 1) := by decide +kernel
theorem d_MO_draw_13 : decode b_MO_draw 13 = .ok (.putfield 93, 3) := by decide +kernel
theorem d_MO_draw_16 : decode b_MO_draw 16 = .ok (.aload_n 0, 1) := by decide +kernel
theorem d_MO_draw_17 : decode b_MO_draw 17 = .ok (.getfield 93, 3) := by decide +kernel
theorem d_MO_draw_20 : decode b_MO_draw 20 = .ok (.bipush 33, 2) := by decide +kernel
theorem d_MO_draw_22 : decode b_MO_draw 22 = .ok (.lushr, 1) := by decide +kernel
theorem d_MO_draw_23 : decode b_MO_draw 23 = .ok (.iload_n 1, 1) := by decide +kernel
theorem d_MO_draw_24 : decode b_MO_draw 24 = .ok (.i2l, 1) := by decide +kernel
theorem d_MO_draw_25 : decode b_MO_draw 25 = .ok (.lrem, 1) := by decide +kernel
theorem d_MO_draw_26 : decode b_MO_draw 26 = .ok (.l2i, 1) := by decide +kernel
theorem d_MO_draw_27 : decode b_MO_draw 27 = .ok (.ireturn, 1) := by decide +kernel
theorem d_MO_isThing_0 : decode b_MO_isThing 0 = .ok (.iload_n 1, 1) := by decide +kernel
theorem d_MO_isThing_1 : decode b_MO_isThing 1 = .ok (.ifCond .lt 15, 3) := by decide +kernel
theorem d_MO_isThing_4 : decode b_MO_isThing 4 = .ok (.iload_n 1, 1) := by decide +kernel
theorem d_MO_isThing_5 : decode b_MO_isThing 5 = .ok (.aload_n 0, 1) := by decide +kernel
theorem d_MO_isThing_6 : decode b_MO_isThing 6 = .ok (.getfield 108, 3) := by decide +kernel
theorem d_MO_isThing_9 : decode b_MO_isThing 9 = .ok (.if_icmp .ge 7, 3) := by decide +kernel
theorem d_MO_isThing_12 : decode b_MO_isThing 12 = .ok (.iconst 1, 1) := by decide +kernel
theorem d_MO_isThing_13 : decode b_MO_isThing 13 = .ok (.goto 4, 3) := by decide +kernel
theorem d_MO_isThing_16 : decode b_MO_isThing 16 = .ok (.iconst 0, 1) := by decide +kernel
theorem d_MO_isThing_17 : decode b_MO_isThing 17 = .ok (.ireturn, 1) := by decide +kernel
theorem d_MO_blockOf_0 : decode b_MO_blockOf 0 = .ok (.iconst 0, 1) := by decide +kernel
theorem d_MO_blockOf_1 : decode b_MO_blockOf 1 = .ok (.istore_n 2, 1) := by decide +kernel
theorem d_MO_blockOf_2 : decode b_MO_blockOf 2 = .ok (.iload_n 2, 1) := by decide +kernel
theorem d_MO_blockOf_3 : decode b_MO_blockOf 3 = .ok (.aload_n 0, 1) := by decide +kernel
theorem d_MO_blockOf_4 : decode b_MO_blockOf 4 = .ok (.getfield 105, 3) := by decide +kernel
theorem d_MO_blockOf_7 : decode b_MO_blockOf 7 = .ok (.if_icmp .ge 21, 3) := by decide +kernel
theorem d_MO_blockOf_10 : decode b_MO_blockOf 10 = .ok (.aload_n 0, 1) := by decide +kernel
theorem d_MO_blockOf_11 : decode b_MO_blockOf 11 = .ok (.getfield 33, 3) := by decide +kernel
theorem d_MO_blockOf_14 : decode b_MO_blockOf 14 = .ok (.iload_n 2, 1) := by decide +kernel
theorem d_MO_blockOf_15 : decode b_MO_blockOf 15 = .ok (.iaload, 1) := by decide +kernel
theorem d_MO_blockOf_16 : decode b_MO_blockOf 16 = .ok (.iload_n 1, 1) := by decide +kernel
theorem d_MO_blockOf_17 : decode b_MO_blockOf 17 = .ok (.if_icmp .ne 5, 3) := by decide +kernel
theorem d_MO_blockOf_20 : decode b_MO_blockOf 20 = .ok (.iload_n 2, 1) := by decide +kernel
theorem d_MO_blockOf_21 : decode b_MO_blockOf 21 = .ok (.ireturn, 1) := by decide +kernel
theorem d_MO_blockOf_22 : decode b_MO_blockOf 22 = .ok (.iinc 2 1, 3) := by decide +kernel
theorem d_MO_blockOf_25 : decode b_MO_blockOf 25 = .ok (.goto (-23), 3) := by decide +kernel
theorem d_MO_blockOf_28 : decode b_MO_blockOf 28 = .ok (.iconst (-1), 1) := by decide +kernel
theorem d_MO_blockOf_29 : decode b_MO_blockOf 29 = .ok (.ireturn, 1) := by decide +kernel
theorem d_MO_wide_0 : decode b_MO_wide 0 = .ok (.aload_n 0, 1) := by decide +kernel
theorem d_MO_wide_1 : decode b_MO_wide 1 = .ok (.getfield 66, 3) := by decide +kernel
theorem d_MO_wide_4 : decode b_MO_wide 4 = .ok (.bipush 16, 2) := by decide +kernel
theorem d_MO_wide_6 : decode b_MO_wide 6 = .ok (.iload_n 1, 1) := by decide +kernel
theorem d_MO_wide_7 : decode b_MO_wide 7 = .ok (.imul, 1) := by decide +kernel
theorem d_MO_wide_8 : decode b_MO_wide 8 = .ok (.iload_n 2, 1) := by decide +kernel
theorem d_MO_wide_9 : decode b_MO_wide 9 = .ok (.iadd, 1) := by decide +kernel
theorem d_MO_wide_10 : decode b_MO_wide 10 = .ok (.baload, 1) := by decide +kernel
theorem d_MO_wide_11 : decode b_MO_wide 11 = .ok (.ifCond .eq 12, 3) := by decide +kernel
theorem d_MO_wide_14 : decode b_MO_wide 14 = .ok (.aload_n 0, 1) := by decide +kernel
theorem d_MO_wide_15 : decode b_MO_wide 15 = .ok (.getfield 39, 3) := by decide +kernel
theorem d_MO_wide_18 : decode b_MO_wide 18 = .ok (.iload_n 2, 1) := by decide +kernel
theorem d_MO_wide_19 : decode b_MO_wide 19 = .ok (.laload, 1) := by decide +kernel
theorem d_MO_wide_20 : decode b_MO_wide 20 = .ok (.goto 9, 3) := by decide +kernel
theorem d_MO_wide_23 : decode b_MO_wide 23 = .ok (.aload_n 0, 1) := by decide +kernel
theorem d_MO_wide_24 : decode b_MO_wide 24 = .ok (.getfield 36, 3) := by decide +kernel
theorem d_MO_wide_27 : decode b_MO_wide 27 = .ok (.iload_n 2, 1) := by decide +kernel
theorem d_MO_wide_28 : decode b_MO_wide 28 = .ok (.laload, 1) := by decide +kernel
theorem d_MO_wide_29 : decode b_MO_wide 29 = .ok (.lreturn, 1) := by decide +kernel
theorem d_MO_high_0 : decode b_MO_high 0 = .ok (.aload_n 0, 1) := by decide +kernel
theorem d_MO_high_1 : decode b_MO_high 1 = .ok (.getfield 66, 3) := by decide +kernel
theorem d_MO_high_4 : decode b_MO_high 4 = .ok (.bipush 16, 2) := by decide +kernel
theorem d_MO_high_6 : decode b_MO_high 6 = .ok (.iload_n 1, 1) := by decide +kernel
theorem d_MO_high_7 : decode b_MO_high 7 = .ok (.imul, 1) := by decide +kernel
theorem d_MO_high_8 : decode b_MO_high 8 = .ok (.iload_n 2, 1) := by decide +kernel
theorem d_MO_high_9 : decode b_MO_high 9 = .ok (.iadd, 1) := by decide +kernel
theorem d_MO_high_10 : decode b_MO_high 10 = .ok (.baload, 1) := by decide +kernel
theorem d_MO_high_11 : decode b_MO_high 11 = .ok (.ifCond .eq 12, 3) := by decide +kernel
theorem d_MO_high_14 : decode b_MO_high 14 = .ok (.aload_n 0, 1) := by decide +kernel
theorem d_MO_high_15 : decode b_MO_high 15 = .ok (.getfield 36, 3) := by decide +kernel
theorem d_MO_high_18 : decode b_MO_high 18 = .ok (.iload_n 2, 1) := by decide +kernel
theorem d_MO_high_19 : decode b_MO_high 19 = .ok (.laload, 1) := by decide +kernel
theorem d_MO_high_20 : decode b_MO_high 20 = .ok (.goto 9, 3) := by decide +kernel
theorem d_MO_high_23 : decode b_MO_high 23 = .ok (.aload_n 0, 1) := by decide +kernel
theorem d_MO_high_24 : decode b_MO_high 24 = .ok (.getfield 39, 3) := by decide +kernel
theorem d_MO_high_27 : decode b_MO_high 27 = .ok (.iload_n 2, 1) := by decide +kernel
theorem d_MO_high_28 : decode b_MO_high 28 = .ok (.laload, 1) := by decide +kernel
theorem d_MO_high_29 : decode b_MO_high 29 = .ok (.lreturn, 1) := by decide +kernel
theorem d_MO_place_0 : decode b_MO_place 0 = .ok (.iconst 0, 1) := by decide +kernel
theorem d_MO_place_1 : decode b_MO_place 1 = .ok (.istore_n 3, 1) := by decide +kernel
theorem d_MO_place_2 : decode b_MO_place 2 = .ok (.aload_n 0, 1) := by decide +kernel
theorem d_MO_place_3 : decode b_MO_place 3 = .ok (.bipush 16, 2) := by decide +kernel
theorem d_MO_place_5 : decode b_MO_place 5 = .ok (.iload_n 1, 1) := by decide +kernel
theorem d_MO_place_6 : decode b_MO_place 6 = .ok (.imul, 1) := by decide +kernel
theorem d_MO_place_7 : decode b_MO_place 7 = .ok (.iload_n 3, 1) := by decide +kernel
theorem d_MO_place_8 : decode b_MO_place 8 = .ok (.iadd, 1) := by decide +kernel
theorem d_MO_place_9 : decode b_MO_place 9 = .ok (.iaload, 1) := by decide +kernel
theorem d_MO_place_10 : decode b_MO_place 10 = .ok (.iload_n 2, 1) := by decide +kernel
theorem d_MO_place_11 : decode b_MO_place 11 = .ok (.if_icmp .eq 9, 3) := by decide +kernel
theorem d_MO_place_14 : decode b_MO_place 14 = .ok (.iinc 3 1, 3) := by decide +kernel
theorem d_MO_place_17 : decode b_MO_place 17 = .ok (.goto (-15), 3) := by decide +kernel
theorem d_MO_place_20 : decode b_MO_place 20 = .ok (.iload_n 3, 1) := by decide +kernel
theorem d_MO_place_21 : decode b_MO_place 21 = .ok (.ireturn, 1) := by decide +kernel
theorem d_MO_far_0 : decode b_MO_far 0 = .ok (.lload_n 0, 1) := by decide +kernel
theorem d_MO_far_1 : decode b_MO_far 1 = .ok (.lload_n 2, 1) := by decide +kernel
theorem d_MO_far_2 : decode b_MO_far 2 = .ok (.lcmp, 1) := by decide +kernel
theorem d_MO_far_3 : decode b_MO_far 3 = .ok (.ifCond .le 9, 3) := by decide +kernel
theorem d_MO_far_6 : decode b_MO_far 6 = .ok (.lload_n 0, 1) := by decide +kernel
theorem d_MO_far_7 : decode b_MO_far 7 = .ok (.lload_n 2, 1) := by decide +kernel
theorem d_MO_far_8 : decode b_MO_far 8 = .ok (.lsub, 1) := by decide +kernel
theorem d_MO_far_9 : decode b_MO_far 9 = .ok (.goto 6, 3) := by decide +kernel
theorem d_MO_far_12 : decode b_MO_far 12 = .ok (.lload_n 2, 1) := by decide +kernel
theorem d_MO_far_13 : decode b_MO_far 13 = .ok (.lload_n 0, 1) := by decide +kernel
theorem d_MO_far_14 : decode b_MO_far 14 = .ok (.lsub, 1) := by decide +kernel
theorem d_MO_far_15 : decode b_MO_far 15 = .ok (.lreturn, 1) := by decide +kernel
theorem d_MO_edge_0 : decode b_MO_edge 0 = .ok (.lconst 0, 1) := by decide +kernel
theorem d_MO_edge_1 : decode b_MO_edge 1 = .ok (.lstore_n 3, 1) := by decide +kernel
theorem d_MO_edge_2 : decode b_MO_edge 2 = .ok (.iconst 0, 1) := by decide +kernel
theorem d_MO_edge_3 : decode b_MO_edge 3 = .ok (.istore 5, 2) := by decide +kernel
theorem d_MO_edge_5 : decode b_MO_edge 5 = .ok (.iload 5, 2) := by decide +kernel
theorem d_MO_edge_7 : decode b_MO_edge 7 = .ok (.aload_n 0, 1) := by decide +kernel
theorem d_MO_edge_8 : decode b_MO_edge 8 = .ok (.getfield 105, 3) := by decide +kernel
theorem d_MO_edge_11 : decode b_MO_edge 11 = .ok (.if_icmp .ge 62, 3) := by decide +kernel
theorem d_MO_edge_14 : decode b_MO_edge 14 = .ok (.iload_n 2, 1) := by decide +kernel
theorem d_MO_edge_15 : decode b_MO_edge 15 = .ok (.ifCond .eq 21, 3) := by decide +kernel
theorem d_MO_edge_18 : decode b_MO_edge 18 = .ok (.aload_n 0, 1) := by decide +kernel
theorem d_MO_edge_19 : decode b_MO_edge 19 = .ok (.getfield 72, 3) := by decide +kernel
theorem d_MO_edge_22 : decode b_MO_edge 22 = .ok (.iload 5, 2) := by decide +kernel
theorem d_MO_edge_24 : decode b_MO_edge 24 = .ok (.laload, 1) := by decide +kernel
theorem d_MO_edge_25 : decode b_MO_edge 25 = .ok (.aload_n 0, 1) := by decide +kernel
theorem d_MO_edge_26 : decode b_MO_edge 26 = .ok (.iload_n 1, 1) := by decide +kernel
theorem d_MO_edge_27 : decode b_MO_edge 27 = .ok (.iload 5, 2) := by decide +kernel
theorem d_MO_edge_29 : decode b_MO_edge 29 = .ok (.invokevirtual 129, 3) := by decide +kernel
theorem d_MO_edge_32 : decode b_MO_edge 32 = .ok (.ladd, 1) := by decide +kernel
theorem d_MO_edge_33 : decode b_MO_edge 33 = .ok (.goto 18, 3) := by decide +kernel
theorem d_MO_edge_36 : decode b_MO_edge 36 = .ok (.aload_n 0, 1) := by decide +kernel
theorem d_MO_edge_37 : decode b_MO_edge 37 = .ok (.getfield 69, 3) := by decide +kernel
theorem d_MO_edge_40 : decode b_MO_edge 40 = .ok (.iload 5, 2) := by decide +kernel
theorem d_MO_edge_42 : decode b_MO_edge 42 = .ok (.laload, 1) := by decide +kernel
theorem d_MO_edge_43 : decode b_MO_edge 43 = .ok (.aload_n 0, 1) := by decide +kernel
theorem d_MO_edge_44 : decode b_MO_edge 44 = .ok (.iload_n 1, 1) := by decide +kernel
theorem d_MO_edge_45 : decode b_MO_edge 45 = .ok (.iload 5, 2) := by decide +kernel
theorem d_MO_edge_47 : decode b_MO_edge 47 = .ok (.invokevirtual 125, 3) := by decide +kernel
theorem d_MO_edge_50 : decode b_MO_edge 50 = .ok (.ladd, 1) := by decide +kernel
theorem d_MO_edge_51 : decode b_MO_edge 51 = .ok (.lstore 6, 2) := by decide +kernel
theorem d_MO_edge_53 : decode b_MO_edge 53 = .ok (.lload 6, 2) := by decide +kernel
theorem d_MO_edge_55 : decode b_MO_edge 55 = .ok (.lload_n 3, 1) := by decide +kernel
theorem d_MO_edge_56 : decode b_MO_edge 56 = .ok (.lcmp, 1) := by decide +kernel
theorem d_MO_edge_57 : decode b_MO_edge 57 = .ok (.ifCond .le 8, 3) := by decide +kernel
theorem d_MO_edge_60 : decode b_MO_edge 60 = .ok (.lload 6, 2) := by decide +kernel
theorem d_MO_edge_62 : decode b_MO_edge 62 = .ok (.goto 4, 3) := by decide +kernel
theorem d_MO_edge_65 : decode b_MO_edge 65 = .ok (.lload_n 3, 1) := by decide +kernel
theorem d_MO_edge_66 : decode b_MO_edge 66 = .ok (.lstore_n 3, 1) := by decide +kernel
theorem d_MO_edge_67 : decode b_MO_edge 67 = .ok (.iinc 5 1, 3) := by decide +kernel
theorem d_MO_edge_70 : decode b_MO_edge 70 = .ok (.goto (-65), 3) := by decide +kernel
theorem d_MO_edge_73 : decode b_MO_edge 73 = .ok (.lload_n 3, 1) := by decide +kernel
theorem d_MO_edge_74 : decode b_MO_edge 74 = .ok (.lreturn, 1) := by decide +kernel
theorem d_MO_area_0 : decode b_MO_area 0 = .ok (.aload_n 0, 1) := by decide +kernel
theorem d_MO_area_1 : decode b_MO_area 1 = .ok (.iload_n 1, 1) := by decide +kernel
theorem d_MO_area_2 : decode b_MO_area 2 = .ok (.iconst 0, 1) := by decide +kernel
theorem d_MO_area_3 : decode b_MO_area 3 = .ok (.invokevirtual 132, 3) := by decide +kernel
theorem d_MO_area_6 : decode b_MO_area 6 = .ok (.aload_n 0, 1) := by decide +kernel
theorem d_MO_area_7 : decode b_MO_area 7 = .ok (.iload_n 1, 1) := by decide +kernel
theorem d_MO_area_8 : decode b_MO_area 8 = .ok (.iconst 1, 1) := by decide +kernel
theorem d_MO_area_9 : decode b_MO_area 9 = .ok (.invokevirtual 132, 3) := by decide +kernel
theorem d_MO_area_12 : decode b_MO_area 12 = .ok (.lmul, 1) := by decide +kernel
theorem d_MO_area_13 : decode b_MO_area 13 = .ok (.lreturn, 1) := by decide +kernel
set_option maxHeartbeats 4000000 in
set_option maxRecDepth 100000 in
/-- thrown() -/
theorem c_MO_thrown (l : Launch) (D : va_G) (aM : Nat → Nat) (cI cZ cL : ClassId) (M : MS) (z : Int64)  : Met l y_MO_thrown (wsA y_MO_thrown b_MO_thrown 1 (some .int)) ({ frames := 0, cells := 0, slots := 0, locals := 0 } : Room) (zR D [(cI, .int), (cZ, .boolean), (cL, .long)] [(aM 0, .inr (10, [.int (nI (M.2.2.1 0)), .long z, .ref (aM 2), .ref (aM 3), .ref (aM 4), .ref (aM 5), .ref (aM 6), .ref (aM 7), .ref (aM 8), .int (nI (M.2.2.1 9)), .ref (aM 10), .ref (aM 11), .ref (aM 12), .ref (aM 13), .ref (aM 14), .ref (aM 15), .ref (aM 16), .int (nI (M.2.2.1 17)), .ref (aM 18), .ref (aM 19), .int (nI (M.2.2.1 20)), .ref (aM 21), .ref (aM 22), .ref (aM 23), .ref (aM 24), .ref (aM 25), .ref (aM 26), .ref (aM 27), .ref (aM 28), .ref (aM 29), .ref (aM 30), .ref (aM 31)])), (aM 2, .inl (cI, 40, .inl M.2.2.2)), (aM 3, .inl (cI, 40, .inl (fun zk => nI ((M.1 3) zk)))), (aM 4, .inl (cZ, 40, .inl (fun zk => zb ((M.2.1 4) zk)))), (aM 5, .inl (cZ, 40, .inl (fun zk => zb ((M.2.1 5) zk)))), (aM 6, .inl (cL, 2560, .inr (.inl (fun zk => lN ((M.1 6) zk))))), (aM 7, .inl (cL, 2560, .inr (.inl (fun zk => lN ((M.1 7) zk))))), (aM 8, .inl (cI, 40, .inl (fun zk => nI ((M.1 8) zk)))), (aM 10, .inl (cI, 16, .inl (fun zk => nI ((M.1 10) zk)))), (aM 11, .inl (cL, 16, .inr (.inl (fun zk => lN ((M.1 11) zk))))), (aM 12, .inl (cL, 16, .inr (.inl (fun zk => lN ((M.1 12) zk))))), (aM 13, .inl (cZ, 16, .inl (fun zk => zb ((M.2.1 13) zk)))), (aM 14, .inl (cZ, 16, .inl (fun zk => zb ((M.2.1 14) zk)))), (aM 15, .inl (cL, 16, .inr (.inl (fun zk => lN ((M.1 15) zk))))), (aM 16, .inl (cL, 16, .inr (.inl (fun zk => lN ((M.1 16) zk))))), (aM 18, .inl (cI, 40, .inl (fun zk => nI ((M.1 18) zk)))), (aM 19, .inl (cI, 40, .inl (fun zk => nI ((M.1 19) zk)))), (aM 21, .inl (cI, 48, .inl (fun zk => nI ((M.1 21) zk)))), (aM 22, .inl (cI, 48, .inl (fun zk => nI ((M.1 22) zk)))), (aM 23, .inl (cZ, 48, .inl (fun zk => zb ((M.2.1 23) zk)))), (aM 24, .inl (cL, 16, .inr (.inl (fun zk => lN ((M.1 24) zk))))), (aM 25, .inl (cL, 16, .inr (.inl (fun zk => lN ((M.1 25) zk))))), (aM 26, .inl (cL, 4200, .inr (.inl (fun zk => lN ((M.1 26) zk))))), (aM 27, .inl (cL, 4200, .inr (.inl (fun zk => lN ((M.1 27) zk))))), (aM 28, .inl (cL, 32, .inr (.inl (fun zk => lN ((M.1 28) zk))))), (aM 29, .inl (cI, 8, .inl (fun zk => nI ((M.1 29) zk)))), (aM 30, .inl (cI, 8, .inl (fun zk => nI ((M.1 30) zk)))), (aM 31, .inl (cI, 8, .inl (fun zk => nI ((M.1 31) zk))))] [.ref (aM 0)]) (k2_QcV (.int (nI (M.2.2.1 0)))) 0 0 (fun _ => False) := by
  refine Met.ofW (cc := b_MO_thrown) (maxL := 1) (ret := (some .int)) (by decide) rfl ?_
  intro p e s m args below meth c s₁ Bd hml hv
  obtain ⟨rfl, hP, hK⟩ := hv
  have hx := Bd.exec
  have hb := Bd.bytes
  have hr := Bd.returns
  have hts : ∀ w ∈ lw_g, w.before _ s = true := fun w h => atoms_spec (ws := wsA y_MO_thrown b_MO_thrown 1 (some .int)) Bd.pre w (List.mem_cons_of_mem _ h)
  have hown : s.vm.findClass R_MO = some m.cls := findClass_of_methodNamed Bd.named
  have hlocks := Bd.notSynchronized
  have hl := lv_entry ([.ref (aM 0)]) (n := 1) (Nat.le_of_ble_eq_true rfl)
  rw [lg_entry_eq]
  generalize (lg_sl ([.ref (aM 0)]) ++ List.replicate (1 - (lg_sl ([.ref (aM 0)])).length) Slot.unset).toArray = ls at hl ⊢
  have hl : lv_has ls 1 [(0, .ref (aM 0))] := hl
  have hP : va_P D classes [(aM 0, .inr (10, [.int (nI (M.2.2.1 0)), .long z, .ref (aM 2), .ref (aM 3), .ref (aM 4), .ref (aM 5), .ref (aM 6), .ref (aM 7), .ref (aM 8), .int (nI (M.2.2.1 9)), .ref (aM 10), .ref (aM 11), .ref (aM 12), .ref (aM 13), .ref (aM 14), .ref (aM 15), .ref (aM 16), .int (nI (M.2.2.1 17)), .ref (aM 18), .ref (aM 19), .int (nI (M.2.2.1 20)), .ref (aM 21), .ref (aM 22), .ref (aM 23), .ref (aM 24), .ref (aM 25), .ref (aM 26), .ref (aM 27), .ref (aM 28), .ref (aM 29), .ref (aM 30), .ref (aM 31)])), (aM 2, .inl (cI, 40, .inl M.2.2.2)), (aM 3, .inl (cI, 40, .inl (fun zk => nI ((M.1 3) zk)))), (aM 4, .inl (cZ, 40, .inl (fun zk => zb ((M.2.1 4) zk)))), (aM 5, .inl (cZ, 40, .inl (fun zk => zb ((M.2.1 5) zk)))), (aM 6, .inl (cL, 2560, .inr (.inl (fun zk => lN ((M.1 6) zk))))), (aM 7, .inl (cL, 2560, .inr (.inl (fun zk => lN ((M.1 7) zk))))), (aM 8, .inl (cI, 40, .inl (fun zk => nI ((M.1 8) zk)))), (aM 10, .inl (cI, 16, .inl (fun zk => nI ((M.1 10) zk)))), (aM 11, .inl (cL, 16, .inr (.inl (fun zk => lN ((M.1 11) zk))))), (aM 12, .inl (cL, 16, .inr (.inl (fun zk => lN ((M.1 12) zk))))), (aM 13, .inl (cZ, 16, .inl (fun zk => zb ((M.2.1 13) zk)))), (aM 14, .inl (cZ, 16, .inl (fun zk => zb ((M.2.1 14) zk)))), (aM 15, .inl (cL, 16, .inr (.inl (fun zk => lN ((M.1 15) zk))))), (aM 16, .inl (cL, 16, .inr (.inl (fun zk => lN ((M.1 16) zk))))), (aM 18, .inl (cI, 40, .inl (fun zk => nI ((M.1 18) zk)))), (aM 19, .inl (cI, 40, .inl (fun zk => nI ((M.1 19) zk)))), (aM 21, .inl (cI, 48, .inl (fun zk => nI ((M.1 21) zk)))), (aM 22, .inl (cI, 48, .inl (fun zk => nI ((M.1 22) zk)))), (aM 23, .inl (cZ, 48, .inl (fun zk => zb ((M.2.1 23) zk)))), (aM 24, .inl (cL, 16, .inr (.inl (fun zk => lN ((M.1 24) zk))))), (aM 25, .inl (cL, 16, .inr (.inl (fun zk => lN ((M.1 25) zk))))), (aM 26, .inl (cL, 4200, .inr (.inl (fun zk => lN ((M.1 26) zk))))), (aM 27, .inl (cL, 4200, .inr (.inl (fun zk => lN ((M.1 27) zk))))), (aM 28, .inl (cL, 32, .inr (.inl (fun zk => lN ((M.1 28) zk))))), (aM 29, .inl (cI, 8, .inl (fun zk => nI ((M.1 29) zk)))), (aM 30, .inl (cI, 8, .inl (fun zk => nI ((M.1 30) zk)))), (aM 31, .inl (cI, 8, .inl (fun zk => nI ((M.1 31) zk))))] s.heap := hP
  refine lv_aload_n hx hb d_MO_thrown_0 rfl (lv_at hl 0 rfl) ?_
  refine va_get (D := D) (ci := 10) (v := .int (nI (M.2.2.1 0))) (C := R_MO) (T := F_MO) (N := 32) hx hb hts i_MO hown hK hP 0 rfl rfl 0 (by decide) (hts _ kf_MO_97) (fun _ h9 => h9) rfl d_MO_thrown_1 ?_
  exact W.iret hx hb hr (fun t ht hW => ⟨rfl, ht⟩) (fun q h => by cases h) d_MO_thrown_4
set_option maxHeartbeats 4000000 in
set_option maxRecDepth 100000 in
/-- draw(k) -/
theorem c_MO_draw (l : Launch) (D : va_G) (sz : Nat) (aM : Nat → Nat) (cI cZ cL : ClassId) (M : MS) (z : Int64) (k : Nat) (h1 : 0 < k) (h2 : k < 2 ^ 31) : Met l y_MO_draw (wsA y_MO_draw b_MO_draw 2 (some .int)) ({ frames := 0, cells := 0, slots := 0, locals := 0 } : Room) (zP D [(cI, .int), (cZ, .boolean), (cL, .long)] [(aM 0, .inr (10, [.int (nI (M.2.2.1 0)), .long z, .ref (aM 2), .ref (aM 3), .ref (aM 4), .ref (aM 5), .ref (aM 6), .ref (aM 7), .ref (aM 8), .int (nI (M.2.2.1 9)), .ref (aM 10), .ref (aM 11), .ref (aM 12), .ref (aM 13), .ref (aM 14), .ref (aM 15), .ref (aM 16), .int (nI (M.2.2.1 17)), .ref (aM 18), .ref (aM 19), .int (nI (M.2.2.1 20)), .ref (aM 21), .ref (aM 22), .ref (aM 23), .ref (aM 24), .ref (aM 25), .ref (aM 26), .ref (aM 27), .ref (aM 28), .ref (aM 29), .ref (aM 30), .ref (aM 31)])), (aM 2, .inl (cI, 40, .inl M.2.2.2)), (aM 3, .inl (cI, 40, .inl (fun zk => nI ((M.1 3) zk)))), (aM 4, .inl (cZ, 40, .inl (fun zk => zb ((M.2.1 4) zk)))), (aM 5, .inl (cZ, 40, .inl (fun zk => zb ((M.2.1 5) zk)))), (aM 6, .inl (cL, 2560, .inr (.inl (fun zk => lN ((M.1 6) zk))))), (aM 7, .inl (cL, 2560, .inr (.inl (fun zk => lN ((M.1 7) zk))))), (aM 8, .inl (cI, 40, .inl (fun zk => nI ((M.1 8) zk)))), (aM 10, .inl (cI, 16, .inl (fun zk => nI ((M.1 10) zk)))), (aM 11, .inl (cL, 16, .inr (.inl (fun zk => lN ((M.1 11) zk))))), (aM 12, .inl (cL, 16, .inr (.inl (fun zk => lN ((M.1 12) zk))))), (aM 13, .inl (cZ, 16, .inl (fun zk => zb ((M.2.1 13) zk)))), (aM 14, .inl (cZ, 16, .inl (fun zk => zb ((M.2.1 14) zk)))), (aM 15, .inl (cL, 16, .inr (.inl (fun zk => lN ((M.1 15) zk))))), (aM 16, .inl (cL, 16, .inr (.inl (fun zk => lN ((M.1 16) zk))))), (aM 18, .inl (cI, 40, .inl (fun zk => nI ((M.1 18) zk)))), (aM 19, .inl (cI, 40, .inl (fun zk => nI ((M.1 19) zk)))), (aM 21, .inl (cI, 48, .inl (fun zk => nI ((M.1 21) zk)))), (aM 22, .inl (cI, 48, .inl (fun zk => nI ((M.1 22) zk)))), (aM 23, .inl (cZ, 48, .inl (fun zk => zb ((M.2.1 23) zk)))), (aM 24, .inl (cL, 16, .inr (.inl (fun zk => lN ((M.1 24) zk))))), (aM 25, .inl (cL, 16, .inr (.inl (fun zk => lN ((M.1 25) zk))))), (aM 26, .inl (cL, 4200, .inr (.inl (fun zk => lN ((M.1 26) zk))))), (aM 27, .inl (cL, 4200, .inr (.inl (fun zk => lN ((M.1 27) zk))))), (aM 28, .inl (cL, 32, .inr (.inl (fun zk => lN ((M.1 28) zk))))), (aM 29, .inl (cI, 8, .inl (fun zk => nI ((M.1 29) zk)))), (aM 30, .inl (cI, 8, .inl (fun zk => nI ((M.1 30) zk)))), (aM 31, .inl (cI, 8, .inl (fun zk => nI ((M.1 31) zk))))] [.ref (aM 0), .int (nI k)] sz) (zQ (some (.int (nI (bts (drw z) % k)))) (zB D [(cI, .int), (cZ, .boolean), (cL, .long)] (va_A [(aM 0, .inr (10, [.int (nI (M.2.2.1 0)), .long z, .ref (aM 2), .ref (aM 3), .ref (aM 4), .ref (aM 5), .ref (aM 6), .ref (aM 7), .ref (aM 8), .int (nI (M.2.2.1 9)), .ref (aM 10), .ref (aM 11), .ref (aM 12), .ref (aM 13), .ref (aM 14), .ref (aM 15), .ref (aM 16), .int (nI (M.2.2.1 17)), .ref (aM 18), .ref (aM 19), .int (nI (M.2.2.1 20)), .ref (aM 21), .ref (aM 22), .ref (aM 23), .ref (aM 24), .ref (aM 25), .ref (aM 26), .ref (aM 27), .ref (aM 28), .ref (aM 29), .ref (aM 30), .ref (aM 31)])), (aM 2, .inl (cI, 40, .inl M.2.2.2)), (aM 3, .inl (cI, 40, .inl (fun zk => nI ((M.1 3) zk)))), (aM 4, .inl (cZ, 40, .inl (fun zk => zb ((M.2.1 4) zk)))), (aM 5, .inl (cZ, 40, .inl (fun zk => zb ((M.2.1 5) zk)))), (aM 6, .inl (cL, 2560, .inr (.inl (fun zk => lN ((M.1 6) zk))))), (aM 7, .inl (cL, 2560, .inr (.inl (fun zk => lN ((M.1 7) zk))))), (aM 8, .inl (cI, 40, .inl (fun zk => nI ((M.1 8) zk)))), (aM 10, .inl (cI, 16, .inl (fun zk => nI ((M.1 10) zk)))), (aM 11, .inl (cL, 16, .inr (.inl (fun zk => lN ((M.1 11) zk))))), (aM 12, .inl (cL, 16, .inr (.inl (fun zk => lN ((M.1 12) zk))))), (aM 13, .inl (cZ, 16, .inl (fun zk => zb ((M.2.1 13) zk)))), (aM 14, .inl (cZ, 16, .inl (fun zk => zb ((M.2.1 14) zk)))), (aM 15, .inl (cL, 16, .inr (.inl (fun zk => lN ((M.1 15) zk))))), (aM 16, .inl (cL, 16, .inr (.inl (fun zk => lN ((M.1 16) zk))))), (aM 18, .inl (cI, 40, .inl (fun zk => nI ((M.1 18) zk)))), (aM 19, .inl (cI, 40, .inl (fun zk => nI ((M.1 19) zk)))), (aM 21, .inl (cI, 48, .inl (fun zk => nI ((M.1 21) zk)))), (aM 22, .inl (cI, 48, .inl (fun zk => nI ((M.1 22) zk)))), (aM 23, .inl (cZ, 48, .inl (fun zk => zb ((M.2.1 23) zk)))), (aM 24, .inl (cL, 16, .inr (.inl (fun zk => lN ((M.1 24) zk))))), (aM 25, .inl (cL, 16, .inr (.inl (fun zk => lN ((M.1 25) zk))))), (aM 26, .inl (cL, 4200, .inr (.inl (fun zk => lN ((M.1 26) zk))))), (aM 27, .inl (cL, 4200, .inr (.inl (fun zk => lN ((M.1 27) zk))))), (aM 28, .inl (cL, 32, .inr (.inl (fun zk => lN ((M.1 28) zk))))), (aM 29, .inl (cI, 8, .inl (fun zk => nI ((M.1 29) zk)))), (aM 30, .inl (cI, 8, .inl (fun zk => nI ((M.1 30) zk)))), (aM 31, .inl (cI, 8, .inl (fun zk => nI ((M.1 31) zk))))] sz) [(aM 0, .inr (10, [.int (nI (M.2.2.1 0)), .long (drw z), .ref (aM 2), .ref (aM 3), .ref (aM 4), .ref (aM 5), .ref (aM 6), .ref (aM 7), .ref (aM 8), .int (nI (M.2.2.1 9)), .ref (aM 10), .ref (aM 11), .ref (aM 12), .ref (aM 13), .ref (aM 14), .ref (aM 15), .ref (aM 16), .int (nI (M.2.2.1 17)), .ref (aM 18), .ref (aM 19), .int (nI (M.2.2.1 20)), .ref (aM 21), .ref (aM 22), .ref (aM 23), .ref (aM 24), .ref (aM 25), .ref (aM 26), .ref (aM 27), .ref (aM 28), .ref (aM 29), .ref (aM 30), .ref (aM 31)])), (aM 2, .inl (cI, 40, .inl M.2.2.2)), (aM 3, .inl (cI, 40, .inl (fun zk => nI ((M.1 3) zk)))), (aM 4, .inl (cZ, 40, .inl (fun zk => zb ((M.2.1 4) zk)))), (aM 5, .inl (cZ, 40, .inl (fun zk => zb ((M.2.1 5) zk)))), (aM 6, .inl (cL, 2560, .inr (.inl (fun zk => lN ((M.1 6) zk))))), (aM 7, .inl (cL, 2560, .inr (.inl (fun zk => lN ((M.1 7) zk))))), (aM 8, .inl (cI, 40, .inl (fun zk => nI ((M.1 8) zk)))), (aM 10, .inl (cI, 16, .inl (fun zk => nI ((M.1 10) zk)))), (aM 11, .inl (cL, 16, .inr (.inl (fun zk => lN ((M.1 11) zk))))), (aM 12, .inl (cL, 16, .inr (.inl (fun zk => lN ((M.1 12) zk))))), (aM 13, .inl (cZ, 16, .inl (fun zk => zb ((M.2.1 13) zk)))), (aM 14, .inl (cZ, 16, .inl (fun zk => zb ((M.2.1 14) zk)))), (aM 15, .inl (cL, 16, .inr (.inl (fun zk => lN ((M.1 15) zk))))), (aM 16, .inl (cL, 16, .inr (.inl (fun zk => lN ((M.1 16) zk))))), (aM 18, .inl (cI, 40, .inl (fun zk => nI ((M.1 18) zk)))), (aM 19, .inl (cI, 40, .inl (fun zk => nI ((M.1 19) zk)))), (aM 21, .inl (cI, 48, .inl (fun zk => nI ((M.1 21) zk)))), (aM 22, .inl (cI, 48, .inl (fun zk => nI ((M.1 22) zk)))), (aM 23, .inl (cZ, 48, .inl (fun zk => zb ((M.2.1 23) zk)))), (aM 24, .inl (cL, 16, .inr (.inl (fun zk => lN ((M.1 24) zk))))), (aM 25, .inl (cL, 16, .inr (.inl (fun zk => lN ((M.1 25) zk))))), (aM 26, .inl (cL, 4200, .inr (.inl (fun zk => lN ((M.1 26) zk))))), (aM 27, .inl (cL, 4200, .inr (.inl (fun zk => lN ((M.1 27) zk))))), (aM 28, .inl (cL, 32, .inr (.inl (fun zk => lN ((M.1 28) zk))))), (aM 29, .inl (cI, 8, .inl (fun zk => nI ((M.1 29) zk)))), (aM 30, .inl (cI, 8, .inl (fun zk => nI ((M.1 30) zk)))), (aM 31, .inl (cI, 8, .inl (fun zk => nI ((M.1 31) zk))))]) (va_A [(aM 0, .inr (10, [.int (nI (M.2.2.1 0)), .long z, .ref (aM 2), .ref (aM 3), .ref (aM 4), .ref (aM 5), .ref (aM 6), .ref (aM 7), .ref (aM 8), .int (nI (M.2.2.1 9)), .ref (aM 10), .ref (aM 11), .ref (aM 12), .ref (aM 13), .ref (aM 14), .ref (aM 15), .ref (aM 16), .int (nI (M.2.2.1 17)), .ref (aM 18), .ref (aM 19), .int (nI (M.2.2.1 20)), .ref (aM 21), .ref (aM 22), .ref (aM 23), .ref (aM 24), .ref (aM 25), .ref (aM 26), .ref (aM 27), .ref (aM 28), .ref (aM 29), .ref (aM 30), .ref (aM 31)])), (aM 2, .inl (cI, 40, .inl M.2.2.2)), (aM 3, .inl (cI, 40, .inl (fun zk => nI ((M.1 3) zk)))), (aM 4, .inl (cZ, 40, .inl (fun zk => zb ((M.2.1 4) zk)))), (aM 5, .inl (cZ, 40, .inl (fun zk => zb ((M.2.1 5) zk)))), (aM 6, .inl (cL, 2560, .inr (.inl (fun zk => lN ((M.1 6) zk))))), (aM 7, .inl (cL, 2560, .inr (.inl (fun zk => lN ((M.1 7) zk))))), (aM 8, .inl (cI, 40, .inl (fun zk => nI ((M.1 8) zk)))), (aM 10, .inl (cI, 16, .inl (fun zk => nI ((M.1 10) zk)))), (aM 11, .inl (cL, 16, .inr (.inl (fun zk => lN ((M.1 11) zk))))), (aM 12, .inl (cL, 16, .inr (.inl (fun zk => lN ((M.1 12) zk))))), (aM 13, .inl (cZ, 16, .inl (fun zk => zb ((M.2.1 13) zk)))), (aM 14, .inl (cZ, 16, .inl (fun zk => zb ((M.2.1 14) zk)))), (aM 15, .inl (cL, 16, .inr (.inl (fun zk => lN ((M.1 15) zk))))), (aM 16, .inl (cL, 16, .inr (.inl (fun zk => lN ((M.1 16) zk))))), (aM 18, .inl (cI, 40, .inl (fun zk => nI ((M.1 18) zk)))), (aM 19, .inl (cI, 40, .inl (fun zk => nI ((M.1 19) zk)))), (aM 21, .inl (cI, 48, .inl (fun zk => nI ((M.1 21) zk)))), (aM 22, .inl (cI, 48, .inl (fun zk => nI ((M.1 22) zk)))), (aM 23, .inl (cZ, 48, .inl (fun zk => zb ((M.2.1 23) zk)))), (aM 24, .inl (cL, 16, .inr (.inl (fun zk => lN ((M.1 24) zk))))), (aM 25, .inl (cL, 16, .inr (.inl (fun zk => lN ((M.1 25) zk))))), (aM 26, .inl (cL, 4200, .inr (.inl (fun zk => lN ((M.1 26) zk))))), (aM 27, .inl (cL, 4200, .inr (.inl (fun zk => lN ((M.1 27) zk))))), (aM 28, .inl (cL, 32, .inr (.inl (fun zk => lN ((M.1 28) zk))))), (aM 29, .inl (cI, 8, .inl (fun zk => nI ((M.1 29) zk)))), (aM 30, .inl (cI, 8, .inl (fun zk => nI ((M.1 30) zk)))), (aM 31, .inl (cI, 8, .inl (fun zk => nI ((M.1 31) zk))))] sz)) 0 0 (va_A [(aM 0, .inr (10, [.int (nI (M.2.2.1 0)), .long z, .ref (aM 2), .ref (aM 3), .ref (aM 4), .ref (aM 5), .ref (aM 6), .ref (aM 7), .ref (aM 8), .int (nI (M.2.2.1 9)), .ref (aM 10), .ref (aM 11), .ref (aM 12), .ref (aM 13), .ref (aM 14), .ref (aM 15), .ref (aM 16), .int (nI (M.2.2.1 17)), .ref (aM 18), .ref (aM 19), .int (nI (M.2.2.1 20)), .ref (aM 21), .ref (aM 22), .ref (aM 23), .ref (aM 24), .ref (aM 25), .ref (aM 26), .ref (aM 27), .ref (aM 28), .ref (aM 29), .ref (aM 30), .ref (aM 31)])), (aM 2, .inl (cI, 40, .inl M.2.2.2)), (aM 3, .inl (cI, 40, .inl (fun zk => nI ((M.1 3) zk)))), (aM 4, .inl (cZ, 40, .inl (fun zk => zb ((M.2.1 4) zk)))), (aM 5, .inl (cZ, 40, .inl (fun zk => zb ((M.2.1 5) zk)))), (aM 6, .inl (cL, 2560, .inr (.inl (fun zk => lN ((M.1 6) zk))))), (aM 7, .inl (cL, 2560, .inr (.inl (fun zk => lN ((M.1 7) zk))))), (aM 8, .inl (cI, 40, .inl (fun zk => nI ((M.1 8) zk)))), (aM 10, .inl (cI, 16, .inl (fun zk => nI ((M.1 10) zk)))), (aM 11, .inl (cL, 16, .inr (.inl (fun zk => lN ((M.1 11) zk))))), (aM 12, .inl (cL, 16, .inr (.inl (fun zk => lN ((M.1 12) zk))))), (aM 13, .inl (cZ, 16, .inl (fun zk => zb ((M.2.1 13) zk)))), (aM 14, .inl (cZ, 16, .inl (fun zk => zb ((M.2.1 14) zk)))), (aM 15, .inl (cL, 16, .inr (.inl (fun zk => lN ((M.1 15) zk))))), (aM 16, .inl (cL, 16, .inr (.inl (fun zk => lN ((M.1 16) zk))))), (aM 18, .inl (cI, 40, .inl (fun zk => nI ((M.1 18) zk)))), (aM 19, .inl (cI, 40, .inl (fun zk => nI ((M.1 19) zk)))), (aM 21, .inl (cI, 48, .inl (fun zk => nI ((M.1 21) zk)))), (aM 22, .inl (cI, 48, .inl (fun zk => nI ((M.1 22) zk)))), (aM 23, .inl (cZ, 48, .inl (fun zk => zb ((M.2.1 23) zk)))), (aM 24, .inl (cL, 16, .inr (.inl (fun zk => lN ((M.1 24) zk))))), (aM 25, .inl (cL, 16, .inr (.inl (fun zk => lN ((M.1 25) zk))))), (aM 26, .inl (cL, 4200, .inr (.inl (fun zk => lN ((M.1 26) zk))))), (aM 27, .inl (cL, 4200, .inr (.inl (fun zk => lN ((M.1 27) zk))))), (aM 28, .inl (cL, 32, .inr (.inl (fun zk => lN ((M.1 28) zk))))), (aM 29, .inl (cI, 8, .inl (fun zk => nI ((M.1 29) zk)))), (aM 30, .inl (cI, 8, .inl (fun zk => nI ((M.1 30) zk)))), (aM 31, .inl (cI, 8, .inl (fun zk => nI ((M.1 31) zk))))] sz) := by
  refine Met.ofW (cc := b_MO_draw) (maxL := 2) (ret := (some .int)) (by decide) rfl ?_
  intro p e s m args below meth c s₁ Bd hml hv
  obtain ⟨rfl, hsz, hP, hK, hD0⟩ := hv
  have hx := Bd.exec
  have hb := Bd.bytes
  have hr := Bd.returns
  have hts : ∀ w ∈ lw_g, w.before _ s = true := fun w h => atoms_spec (ws := wsA y_MO_draw b_MO_draw 2 (some .int)) Bd.pre w (List.mem_cons_of_mem _ h)
  have hown : s.vm.findClass R_MO = some m.cls := findClass_of_methodNamed Bd.named
  have hlocks := Bd.notSynchronized
  obtain ⟨hD, hA, hS⟩ := z_start hsz hD0
  generalize va_A [(aM 0, .inr (10, [.int (nI (M.2.2.1 0)), .long z, .ref (aM 2), .ref (aM 3), .ref (aM 4), .ref (aM 5), .ref (aM 6), .ref (aM 7), .ref (aM 8), .int (nI (M.2.2.1 9)), .ref (aM 10), .ref (aM 11), .ref (aM 12), .ref (aM 13), .ref (aM 14), .ref (aM 15), .ref (aM 16), .int (nI (M.2.2.1 17)), .ref (aM 18), .ref (aM 19), .int (nI (M.2.2.1 20)), .ref (aM 21), .ref (aM 22), .ref (aM 23), .ref (aM 24), .ref (aM 25), .ref (aM 26), .ref (aM 27), .ref (aM 28), .ref (aM 29), .ref (aM 30), .ref (aM 31)])), (aM 2, .inl (cI, 40, .inl M.2.2.2)), (aM 3, .inl (cI, 40, .inl (fun zk => nI ((M.1 3) zk)))), (aM 4, .inl (cZ, 40, .inl (fun zk => zb ((M.2.1 4) zk)))), (aM 5, .inl (cZ, 40, .inl (fun zk => zb ((M.2.1 5) zk)))), (aM 6, .inl (cL, 2560, .inr (.inl (fun zk => lN ((M.1 6) zk))))), (aM 7, .inl (cL, 2560, .inr (.inl (fun zk => lN ((M.1 7) zk))))), (aM 8, .inl (cI, 40, .inl (fun zk => nI ((M.1 8) zk)))), (aM 10, .inl (cI, 16, .inl (fun zk => nI ((M.1 10) zk)))), (aM 11, .inl (cL, 16, .inr (.inl (fun zk => lN ((M.1 11) zk))))), (aM 12, .inl (cL, 16, .inr (.inl (fun zk => lN ((M.1 12) zk))))), (aM 13, .inl (cZ, 16, .inl (fun zk => zb ((M.2.1 13) zk)))), (aM 14, .inl (cZ, 16, .inl (fun zk => zb ((M.2.1 14) zk)))), (aM 15, .inl (cL, 16, .inr (.inl (fun zk => lN ((M.1 15) zk))))), (aM 16, .inl (cL, 16, .inr (.inl (fun zk => lN ((M.1 16) zk))))), (aM 18, .inl (cI, 40, .inl (fun zk => nI ((M.1 18) zk)))), (aM 19, .inl (cI, 40, .inl (fun zk => nI ((M.1 19) zk)))), (aM 21, .inl (cI, 48, .inl (fun zk => nI ((M.1 21) zk)))), (aM 22, .inl (cI, 48, .inl (fun zk => nI ((M.1 22) zk)))), (aM 23, .inl (cZ, 48, .inl (fun zk => zb ((M.2.1 23) zk)))), (aM 24, .inl (cL, 16, .inr (.inl (fun zk => lN ((M.1 24) zk))))), (aM 25, .inl (cL, 16, .inr (.inl (fun zk => lN ((M.1 25) zk))))), (aM 26, .inl (cL, 4200, .inr (.inl (fun zk => lN ((M.1 26) zk))))), (aM 27, .inl (cL, 4200, .inr (.inl (fun zk => lN ((M.1 27) zk))))), (aM 28, .inl (cL, 32, .inr (.inl (fun zk => lN ((M.1 28) zk))))), (aM 29, .inl (cI, 8, .inl (fun zk => nI ((M.1 29) zk)))), (aM 30, .inl (cI, 8, .inl (fun zk => nI ((M.1 30) zk)))), (aM 31, .inl (cI, 8, .inl (fun zk => nI ((M.1 31) zk))))] sz = A at hD hA hS ⊢
  have hl := lv_entry ([.ref (aM 0), .int (nI k)]) (n := 2) (Nat.le_of_ble_eq_true rfl)
  rw [lg_entry_eq]
  generalize (lg_sl ([.ref (aM 0), .int (nI k)]) ++ List.replicate (2 - (lg_sl ([.ref (aM 0), .int (nI k)])).length) Slot.unset).toArray = ls at hl ⊢
  have hl : lv_has ls 2 [(0, .ref (aM 0)), (1, .int (nI k))] := hl
  have hP : va_P D classes [(aM 0, .inr (10, [.int (nI (M.2.2.1 0)), .long z, .ref (aM 2), .ref (aM 3), .ref (aM 4), .ref (aM 5), .ref (aM 6), .ref (aM 7), .ref (aM 8), .int (nI (M.2.2.1 9)), .ref (aM 10), .ref (aM 11), .ref (aM 12), .ref (aM 13), .ref (aM 14), .ref (aM 15), .ref (aM 16), .int (nI (M.2.2.1 17)), .ref (aM 18), .ref (aM 19), .int (nI (M.2.2.1 20)), .ref (aM 21), .ref (aM 22), .ref (aM 23), .ref (aM 24), .ref (aM 25), .ref (aM 26), .ref (aM 27), .ref (aM 28), .ref (aM 29), .ref (aM 30), .ref (aM 31)])), (aM 2, .inl (cI, 40, .inl M.2.2.2)), (aM 3, .inl (cI, 40, .inl (fun zk => nI ((M.1 3) zk)))), (aM 4, .inl (cZ, 40, .inl (fun zk => zb ((M.2.1 4) zk)))), (aM 5, .inl (cZ, 40, .inl (fun zk => zb ((M.2.1 5) zk)))), (aM 6, .inl (cL, 2560, .inr (.inl (fun zk => lN ((M.1 6) zk))))), (aM 7, .inl (cL, 2560, .inr (.inl (fun zk => lN ((M.1 7) zk))))), (aM 8, .inl (cI, 40, .inl (fun zk => nI ((M.1 8) zk)))), (aM 10, .inl (cI, 16, .inl (fun zk => nI ((M.1 10) zk)))), (aM 11, .inl (cL, 16, .inr (.inl (fun zk => lN ((M.1 11) zk))))), (aM 12, .inl (cL, 16, .inr (.inl (fun zk => lN ((M.1 12) zk))))), (aM 13, .inl (cZ, 16, .inl (fun zk => zb ((M.2.1 13) zk)))), (aM 14, .inl (cZ, 16, .inl (fun zk => zb ((M.2.1 14) zk)))), (aM 15, .inl (cL, 16, .inr (.inl (fun zk => lN ((M.1 15) zk))))), (aM 16, .inl (cL, 16, .inr (.inl (fun zk => lN ((M.1 16) zk))))), (aM 18, .inl (cI, 40, .inl (fun zk => nI ((M.1 18) zk)))), (aM 19, .inl (cI, 40, .inl (fun zk => nI ((M.1 19) zk)))), (aM 21, .inl (cI, 48, .inl (fun zk => nI ((M.1 21) zk)))), (aM 22, .inl (cI, 48, .inl (fun zk => nI ((M.1 22) zk)))), (aM 23, .inl (cZ, 48, .inl (fun zk => zb ((M.2.1 23) zk)))), (aM 24, .inl (cL, 16, .inr (.inl (fun zk => lN ((M.1 24) zk))))), (aM 25, .inl (cL, 16, .inr (.inl (fun zk => lN ((M.1 25) zk))))), (aM 26, .inl (cL, 4200, .inr (.inl (fun zk => lN ((M.1 26) zk))))), (aM 27, .inl (cL, 4200, .inr (.inl (fun zk => lN ((M.1 27) zk))))), (aM 28, .inl (cL, 32, .inr (.inl (fun zk => lN ((M.1 28) zk))))), (aM 29, .inl (cI, 8, .inl (fun zk => nI ((M.1 29) zk)))), (aM 30, .inl (cI, 8, .inl (fun zk => nI ((M.1 30) zk)))), (aM 31, .inl (cI, 8, .inl (fun zk => nI ((M.1 31) zk))))] s.heap := hP
  refine lv_aload_n hx hb d_MO_draw_0 rfl (lv_at hl 0 rfl) ?_
  refine lv_aload_n hx hb d_MO_draw_1 rfl (lv_at hl 0 rfl) ?_
  refine va_get (D := D) (ci := 10) (v := .long z) (C := R_MO) (T := F_MO) (N := 32) hx hb hts i_MO hown hK hP 0 rfl rfl 1 (by decide) (hts _ kf_MO_93) (fun _ h9 => h9) rfl d_MO_draw_2 ?_
  refine lv_ldc2 hx hb hown (hts _ kL_MO_101) d_MO_draw_5 ?_
  refine lv_lmul hx hb d_MO_draw_8 ?_
  refine lv_ldc2 hx hb hown (hts _ kL_MO_103) d_MO_draw_9 ?_
  refine lv_ladd hx hb d_MO_draw_12 ?_
  refine lv_tol (z := drw z) rfl ?_
  refine va_put (D := D) (ci := 10) (v := .long (drw z)) (ty := .long) (C := R_MO) (T := F_MO) (N := 32) hx hb hts i_MO t_MO to_MO n_MO hown hK hP hD hS 0 rfl rfl 1 (by decide) (hts _ kf_MO_93) (fun _ h9 => h9) rfl (by decide +kernel) rfl rfl (Nat.le_of_ble_eq_true rfl) d_MO_draw_13 (fun H locs hP hD hS => ?_)
  have hP : va_P D classes [(aM 0, .inr (10, [.int (nI (M.2.2.1 0)), .long (drw z), .ref (aM 2), .ref (aM 3), .ref (aM 4), .ref (aM 5), .ref (aM 6), .ref (aM 7), .ref (aM 8), .int (nI (M.2.2.1 9)), .ref (aM 10), .ref (aM 11), .ref (aM 12), .ref (aM 13), .ref (aM 14), .ref (aM 15), .ref (aM 16), .int (nI (M.2.2.1 17)), .ref (aM 18), .ref (aM 19), .int (nI (M.2.2.1 20)), .ref (aM 21), .ref (aM 22), .ref (aM 23), .ref (aM 24), .ref (aM 25), .ref (aM 26), .ref (aM 27), .ref (aM 28), .ref (aM 29), .ref (aM 30), .ref (aM 31)])), (aM 2, .inl (cI, 40, .inl M.2.2.2)), (aM 3, .inl (cI, 40, .inl (fun zk => nI ((M.1 3) zk)))), (aM 4, .inl (cZ, 40, .inl (fun zk => zb ((M.2.1 4) zk)))), (aM 5, .inl (cZ, 40, .inl (fun zk => zb ((M.2.1 5) zk)))), (aM 6, .inl (cL, 2560, .inr (.inl (fun zk => lN ((M.1 6) zk))))), (aM 7, .inl (cL, 2560, .inr (.inl (fun zk => lN ((M.1 7) zk))))), (aM 8, .inl (cI, 40, .inl (fun zk => nI ((M.1 8) zk)))), (aM 10, .inl (cI, 16, .inl (fun zk => nI ((M.1 10) zk)))), (aM 11, .inl (cL, 16, .inr (.inl (fun zk => lN ((M.1 11) zk))))), (aM 12, .inl (cL, 16, .inr (.inl (fun zk => lN ((M.1 12) zk))))), (aM 13, .inl (cZ, 16, .inl (fun zk => zb ((M.2.1 13) zk)))), (aM 14, .inl (cZ, 16, .inl (fun zk => zb ((M.2.1 14) zk)))), (aM 15, .inl (cL, 16, .inr (.inl (fun zk => lN ((M.1 15) zk))))), (aM 16, .inl (cL, 16, .inr (.inl (fun zk => lN ((M.1 16) zk))))), (aM 18, .inl (cI, 40, .inl (fun zk => nI ((M.1 18) zk)))), (aM 19, .inl (cI, 40, .inl (fun zk => nI ((M.1 19) zk)))), (aM 21, .inl (cI, 48, .inl (fun zk => nI ((M.1 21) zk)))), (aM 22, .inl (cI, 48, .inl (fun zk => nI ((M.1 22) zk)))), (aM 23, .inl (cZ, 48, .inl (fun zk => zb ((M.2.1 23) zk)))), (aM 24, .inl (cL, 16, .inr (.inl (fun zk => lN ((M.1 24) zk))))), (aM 25, .inl (cL, 16, .inr (.inl (fun zk => lN ((M.1 25) zk))))), (aM 26, .inl (cL, 4200, .inr (.inl (fun zk => lN ((M.1 26) zk))))), (aM 27, .inl (cL, 4200, .inr (.inl (fun zk => lN ((M.1 27) zk))))), (aM 28, .inl (cL, 32, .inr (.inl (fun zk => lN ((M.1 28) zk))))), (aM 29, .inl (cI, 8, .inl (fun zk => nI ((M.1 29) zk)))), (aM 30, .inl (cI, 8, .inl (fun zk => nI ((M.1 30) zk)))), (aM 31, .inl (cI, 8, .inl (fun zk => nI ((M.1 31) zk))))] H := hP
  have hD : va_D A [(aM 0, .inr (10, [.int (nI (M.2.2.1 0)), .long (drw z), .ref (aM 2), .ref (aM 3), .ref (aM 4), .ref (aM 5), .ref (aM 6), .ref (aM 7), .ref (aM 8), .int (nI (M.2.2.1 9)), .ref (aM 10), .ref (aM 11), .ref (aM 12), .ref (aM 13), .ref (aM 14), .ref (aM 15), .ref (aM 16), .int (nI (M.2.2.1 17)), .ref (aM 18), .ref (aM 19), .int (nI (M.2.2.1 20)), .ref (aM 21), .ref (aM 22), .ref (aM 23), .ref (aM 24), .ref (aM 25), .ref (aM 26), .ref (aM 27), .ref (aM 28), .ref (aM 29), .ref (aM 30), .ref (aM 31)])), (aM 2, .inl (cI, 40, .inl M.2.2.2)), (aM 3, .inl (cI, 40, .inl (fun zk => nI ((M.1 3) zk)))), (aM 4, .inl (cZ, 40, .inl (fun zk => zb ((M.2.1 4) zk)))), (aM 5, .inl (cZ, 40, .inl (fun zk => zb ((M.2.1 5) zk)))), (aM 6, .inl (cL, 2560, .inr (.inl (fun zk => lN ((M.1 6) zk))))), (aM 7, .inl (cL, 2560, .inr (.inl (fun zk => lN ((M.1 7) zk))))), (aM 8, .inl (cI, 40, .inl (fun zk => nI ((M.1 8) zk)))), (aM 10, .inl (cI, 16, .inl (fun zk => nI ((M.1 10) zk)))), (aM 11, .inl (cL, 16, .inr (.inl (fun zk => lN ((M.1 11) zk))))), (aM 12, .inl (cL, 16, .inr (.inl (fun zk => lN ((M.1 12) zk))))), (aM 13, .inl (cZ, 16, .inl (fun zk => zb ((M.2.1 13) zk)))), (aM 14, .inl (cZ, 16, .inl (fun zk => zb ((M.2.1 14) zk)))), (aM 15, .inl (cL, 16, .inr (.inl (fun zk => lN ((M.1 15) zk))))), (aM 16, .inl (cL, 16, .inr (.inl (fun zk => lN ((M.1 16) zk))))), (aM 18, .inl (cI, 40, .inl (fun zk => nI ((M.1 18) zk)))), (aM 19, .inl (cI, 40, .inl (fun zk => nI ((M.1 19) zk)))), (aM 21, .inl (cI, 48, .inl (fun zk => nI ((M.1 21) zk)))), (aM 22, .inl (cI, 48, .inl (fun zk => nI ((M.1 22) zk)))), (aM 23, .inl (cZ, 48, .inl (fun zk => zb ((M.2.1 23) zk)))), (aM 24, .inl (cL, 16, .inr (.inl (fun zk => lN ((M.1 24) zk))))), (aM 25, .inl (cL, 16, .inr (.inl (fun zk => lN ((M.1 25) zk))))), (aM 26, .inl (cL, 4200, .inr (.inl (fun zk => lN ((M.1 26) zk))))), (aM 27, .inl (cL, 4200, .inr (.inl (fun zk => lN ((M.1 27) zk))))), (aM 28, .inl (cL, 32, .inr (.inl (fun zk => lN ((M.1 28) zk))))), (aM 29, .inl (cI, 8, .inl (fun zk => nI ((M.1 29) zk)))), (aM 30, .inl (cI, 8, .inl (fun zk => nI ((M.1 30) zk)))), (aM 31, .inl (cI, 8, .inl (fun zk => nI ((M.1 31) zk))))] := hD
  refine lv_aload_n hx hb d_MO_draw_16 rfl (lv_at hl 0 rfl) ?_
  refine va_get (D := D) (ci := 10) (v := .long (drw z)) (C := R_MO) (T := F_MO) (N := 32) hx hb hts i_MO hown hK hP 0 rfl rfl 1 (by decide) (hts _ kf_MO_93) (fun _ h9 => h9) rfl d_MO_draw_17 ?_
  refine lv_bipush (v := nI 33) hx hb d_MO_draw_20 (by decide) ?_
  refine lv_lushr (v := lN (bts (drw z))) hx hb d_MO_draw_22 (bts_eq _) ?_
  refine lv_iload_n hx hb d_MO_draw_23 rfl (lv_at hl 1 rfl) ?_
  refine lv_i2l (v := lN k) hx hb d_MO_draw_24 (nI_l (by omega)) ?_
  have hb9 := bts_lt (drw z)
  refine lv_lrem hx hb d_MO_draw_25 (fun h => absurd ((pk_lEQ (a := k) (b := 0) (by omega) (by decide)).mp h) (by omega)) ?_
  refine lv_tol (pk_lRem (by omega) h1 (by omega)) ?_
  refine lv_l2i (v := nI (bts (drw z) % k)) hx hb d_MO_draw_26 (lN_i _) ?_
  exact W.iret hx hb hr (fun t ht hW => ⟨rfl, ⟨by rw [ht]; exact hP, va_K.moved hW.alike hK, hD⟩, hS.F ht⟩) hS.2.2 d_MO_draw_27
set_option maxHeartbeats 4000000 in
set_option maxRecDepth 100000 in
/-- isThing(t) -/
theorem c_MO_isThing (l : Launch) (D : va_G) (aM : Nat → Nat) (cI cZ cL : ClassId) (M : MS) (z : Int64) (t : Int32)  : Met l y_MO_isThing (wsA y_MO_isThing b_MO_isThing 2 (some .boolean)) ({ frames := 0, cells := 0, slots := 0, locals := 0 } : Room) (zR D [(cI, .int), (cZ, .boolean), (cL, .long)] [(aM 0, .inr (10, [.int (nI (M.2.2.1 0)), .long z, .ref (aM 2), .ref (aM 3), .ref (aM 4), .ref (aM 5), .ref (aM 6), .ref (aM 7), .ref (aM 8), .int (nI (M.2.2.1 9)), .ref (aM 10), .ref (aM 11), .ref (aM 12), .ref (aM 13), .ref (aM 14), .ref (aM 15), .ref (aM 16), .int (nI (M.2.2.1 17)), .ref (aM 18), .ref (aM 19), .int (nI (M.2.2.1 20)), .ref (aM 21), .ref (aM 22), .ref (aM 23), .ref (aM 24), .ref (aM 25), .ref (aM 26), .ref (aM 27), .ref (aM 28), .ref (aM 29), .ref (aM 30), .ref (aM 31)])), (aM 2, .inl (cI, 40, .inl M.2.2.2)), (aM 3, .inl (cI, 40, .inl (fun zk => nI ((M.1 3) zk)))), (aM 4, .inl (cZ, 40, .inl (fun zk => zb ((M.2.1 4) zk)))), (aM 5, .inl (cZ, 40, .inl (fun zk => zb ((M.2.1 5) zk)))), (aM 6, .inl (cL, 2560, .inr (.inl (fun zk => lN ((M.1 6) zk))))), (aM 7, .inl (cL, 2560, .inr (.inl (fun zk => lN ((M.1 7) zk))))), (aM 8, .inl (cI, 40, .inl (fun zk => nI ((M.1 8) zk)))), (aM 10, .inl (cI, 16, .inl (fun zk => nI ((M.1 10) zk)))), (aM 11, .inl (cL, 16, .inr (.inl (fun zk => lN ((M.1 11) zk))))), (aM 12, .inl (cL, 16, .inr (.inl (fun zk => lN ((M.1 12) zk))))), (aM 13, .inl (cZ, 16, .inl (fun zk => zb ((M.2.1 13) zk)))), (aM 14, .inl (cZ, 16, .inl (fun zk => zb ((M.2.1 14) zk)))), (aM 15, .inl (cL, 16, .inr (.inl (fun zk => lN ((M.1 15) zk))))), (aM 16, .inl (cL, 16, .inr (.inl (fun zk => lN ((M.1 16) zk))))), (aM 18, .inl (cI, 40, .inl (fun zk => nI ((M.1 18) zk)))), (aM 19, .inl (cI, 40, .inl (fun zk => nI ((M.1 19) zk)))), (aM 21, .inl (cI, 48, .inl (fun zk => nI ((M.1 21) zk)))), (aM 22, .inl (cI, 48, .inl (fun zk => nI ((M.1 22) zk)))), (aM 23, .inl (cZ, 48, .inl (fun zk => zb ((M.2.1 23) zk)))), (aM 24, .inl (cL, 16, .inr (.inl (fun zk => lN ((M.1 24) zk))))), (aM 25, .inl (cL, 16, .inr (.inl (fun zk => lN ((M.1 25) zk))))), (aM 26, .inl (cL, 4200, .inr (.inl (fun zk => lN ((M.1 26) zk))))), (aM 27, .inl (cL, 4200, .inr (.inl (fun zk => lN ((M.1 27) zk))))), (aM 28, .inl (cL, 32, .inr (.inl (fun zk => lN ((M.1 28) zk))))), (aM 29, .inl (cI, 8, .inl (fun zk => nI ((M.1 29) zk)))), (aM 30, .inl (cI, 8, .inl (fun zk => nI ((M.1 30) zk)))), (aM 31, .inl (cI, 8, .inl (fun zk => nI ((M.1 31) zk))))] [.ref (aM 0), .int t]) (k2_QcV (.int (zb (isT (M.2.2.1 9) t)))) 0 0 (fun _ => False) := by
  refine Met.ofW (cc := b_MO_isThing) (maxL := 2) (ret := (some .boolean)) (by decide) rfl ?_
  intro p e s m args below meth c s₁ Bd hml hv
  obtain ⟨rfl, hP, hK⟩ := hv
  have hx := Bd.exec
  have hb := Bd.bytes
  have hr := Bd.returns
  have hts : ∀ w ∈ lw_g, w.before _ s = true := fun w h => atoms_spec (ws := wsA y_MO_isThing b_MO_isThing 2 (some .boolean)) Bd.pre w (List.mem_cons_of_mem _ h)
  have hown : s.vm.findClass R_MO = some m.cls := findClass_of_methodNamed Bd.named
  have hlocks := Bd.notSynchronized
  have hl := lv_entry ([.ref (aM 0), .int t]) (n := 2) (Nat.le_of_ble_eq_true rfl)
  rw [lg_entry_eq]
  generalize (lg_sl ([.ref (aM 0), .int t]) ++ List.replicate (2 - (lg_sl ([.ref (aM 0), .int t])).length) Slot.unset).toArray = ls at hl ⊢
  have hl : lv_has ls 2 [(0, .ref (aM 0)), (1, .int t)] := hl
  have hP : va_P D classes [(aM 0, .inr (10, [.int (nI (M.2.2.1 0)), .long z, .ref (aM 2), .ref (aM 3), .ref (aM 4), .ref (aM 5), .ref (aM 6), .ref (aM 7), .ref (aM 8), .int (nI (M.2.2.1 9)), .ref (aM 10), .ref (aM 11), .ref (aM 12), .ref (aM 13), .ref (aM 14), .ref (aM 15), .ref (aM 16), .int (nI (M.2.2.1 17)), .ref (aM 18), .ref (aM 19), .int (nI (M.2.2.1 20)), .ref (aM 21), .ref (aM 22), .ref (aM 23), .ref (aM 24), .ref (aM 25), .ref (aM 26), .ref (aM 27), .ref (aM 28), .ref (aM 29), .ref (aM 30), .ref (aM 31)])), (aM 2, .inl (cI, 40, .inl M.2.2.2)), (aM 3, .inl (cI, 40, .inl (fun zk => nI ((M.1 3) zk)))), (aM 4, .inl (cZ, 40, .inl (fun zk => zb ((M.2.1 4) zk)))), (aM 5, .inl (cZ, 40, .inl (fun zk => zb ((M.2.1 5) zk)))), (aM 6, .inl (cL, 2560, .inr (.inl (fun zk => lN ((M.1 6) zk))))), (aM 7, .inl (cL, 2560, .inr (.inl (fun zk => lN ((M.1 7) zk))))), (aM 8, .inl (cI, 40, .inl (fun zk => nI ((M.1 8) zk)))), (aM 10, .inl (cI, 16, .inl (fun zk => nI ((M.1 10) zk)))), (aM 11, .inl (cL, 16, .inr (.inl (fun zk => lN ((M.1 11) zk))))), (aM 12, .inl (cL, 16, .inr (.inl (fun zk => lN ((M.1 12) zk))))), (aM 13, .inl (cZ, 16, .inl (fun zk => zb ((M.2.1 13) zk)))), (aM 14, .inl (cZ, 16, .inl (fun zk => zb ((M.2.1 14) zk)))), (aM 15, .inl (cL, 16, .inr (.inl (fun zk => lN ((M.1 15) zk))))), (aM 16, .inl (cL, 16, .inr (.inl (fun zk => lN ((M.1 16) zk))))), (aM 18, .inl (cI, 40, .inl (fun zk => nI ((M.1 18) zk)))), (aM 19, .inl (cI, 40, .inl (fun zk => nI ((M.1 19) zk)))), (aM 21, .inl (cI, 48, .inl (fun zk => nI ((M.1 21) zk)))), (aM 22, .inl (cI, 48, .inl (fun zk => nI ((M.1 22) zk)))), (aM 23, .inl (cZ, 48, .inl (fun zk => zb ((M.2.1 23) zk)))), (aM 24, .inl (cL, 16, .inr (.inl (fun zk => lN ((M.1 24) zk))))), (aM 25, .inl (cL, 16, .inr (.inl (fun zk => lN ((M.1 25) zk))))), (aM 26, .inl (cL, 4200, .inr (.inl (fun zk => lN ((M.1 26) zk))))), (aM 27, .inl (cL, 4200, .inr (.inl (fun zk => lN ((M.1 27) zk))))), (aM 28, .inl (cL, 32, .inr (.inl (fun zk => lN ((M.1 28) zk))))), (aM 29, .inl (cI, 8, .inl (fun zk => nI ((M.1 29) zk)))), (aM 30, .inl (cI, 8, .inl (fun zk => nI ((M.1 30) zk)))), (aM 31, .inl (cI, 8, .inl (fun zk => nI ((M.1 31) zk))))] s.heap := hP
  refine lv_iload_n hx hb d_MO_isThing_0 rfl (lv_at hl 1 rfl) ?_
  refine lv_if_lt (tgt := 16) hx hb d_MO_isThing_1 (by decide) (fun c_1 => ?_) (fun c_1 => ?_)
  · refine lv_iconst (v := zb false) hx hb d_MO_isThing_16 (by decide) ?_
    refine lv_toi (z := (zb (isT (M.2.2.1 9) t))) (congrArg zb (by simp [isT, c_1])) ?_
    exact W.zret (ty := .boolean) hx hb hr (zb_narrow _) (fun t ht hW => ⟨rfl, ht⟩) (fun q h => by cases h) d_MO_isThing_17
  · refine lv_iload_n hx hb d_MO_isThing_4 rfl (lv_at hl 1 rfl) ?_
    refine lv_aload_n hx hb d_MO_isThing_5 rfl (lv_at hl 0 rfl) ?_
    refine va_get (D := D) (ci := 10) (v := .int (nI (M.2.2.1 9))) (C := R_MO) (T := F_MO) (N := 32) hx hb hts i_MO hown hK hP 0 rfl rfl 9 (by decide) (hts _ kf_MO_108) (fun _ h9 => h9) rfl d_MO_isThing_6 ?_
    refine lv_icmp_ge (tgt := 16) hx hb d_MO_isThing_9 (by decide) (fun c_2 => ?_) (fun c_2 => ?_)
    · refine lv_iconst (v := zb false) hx hb d_MO_isThing_16 (by decide) ?_
      refine lv_toi (z := (zb (isT (M.2.2.1 9) t))) (congrArg zb (by simp [isT, c_1, c_2])) ?_
      exact W.zret (ty := .boolean) hx hb hr (zb_narrow _) (fun t ht hW => ⟨rfl, ht⟩) (fun q h => by cases h) d_MO_isThing_17
    · refine lv_iconst (v := zb true) hx hb d_MO_isThing_12 (by decide) ?_
      refine lv_goto (tgt := 17) hx hb d_MO_isThing_13 (by decide) ?_
      refine lv_toi (z := (zb (isT (M.2.2.1 9) t))) (congrArg zb (by simp [isT, c_1, c_2])) ?_
      exact W.zret (ty := .boolean) hx hb hr (zb_narrow _) (fun t ht hW => ⟨rfl, ht⟩) (fun q h => by cases h) d_MO_isThing_17
set_option maxHeartbeats 4000000 in
set_option maxRecDepth 100000 in
/-- blockOf(t) -/
theorem c_MO_blockOf (l : Launch) (D : va_G) (aM : Nat → Nat) (cI cZ cL : ClassId) (M : MS) (z : Int64) (t : Int32) (h1 : M.2.2.1 17 ≤ 16) : Met l y_MO_blockOf (wsA y_MO_blockOf b_MO_blockOf 3 (some .int)) ({ frames := 0, cells := 0, slots := 0, locals := 0 } : Room) (zR D [(cI, .int), (cZ, .boolean), (cL, .long)] [(aM 0, .inr (10, [.int (nI (M.2.2.1 0)), .long z, .ref (aM 2), .ref (aM 3), .ref (aM 4), .ref (aM 5), .ref (aM 6), .ref (aM 7), .ref (aM 8), .int (nI (M.2.2.1 9)), .ref (aM 10), .ref (aM 11), .ref (aM 12), .ref (aM 13), .ref (aM 14), .ref (aM 15), .ref (aM 16), .int (nI (M.2.2.1 17)), .ref (aM 18), .ref (aM 19), .int (nI (M.2.2.1 20)), .ref (aM 21), .ref (aM 22), .ref (aM 23), .ref (aM 24), .ref (aM 25), .ref (aM 26), .ref (aM 27), .ref (aM 28), .ref (aM 29), .ref (aM 30), .ref (aM 31)])), (aM 2, .inl (cI, 40, .inl M.2.2.2)), (aM 3, .inl (cI, 40, .inl (fun zk => nI ((M.1 3) zk)))), (aM 4, .inl (cZ, 40, .inl (fun zk => zb ((M.2.1 4) zk)))), (aM 5, .inl (cZ, 40, .inl (fun zk => zb ((M.2.1 5) zk)))), (aM 6, .inl (cL, 2560, .inr (.inl (fun zk => lN ((M.1 6) zk))))), (aM 7, .inl (cL, 2560, .inr (.inl (fun zk => lN ((M.1 7) zk))))), (aM 8, .inl (cI, 40, .inl (fun zk => nI ((M.1 8) zk)))), (aM 10, .inl (cI, 16, .inl (fun zk => nI ((M.1 10) zk)))), (aM 11, .inl (cL, 16, .inr (.inl (fun zk => lN ((M.1 11) zk))))), (aM 12, .inl (cL, 16, .inr (.inl (fun zk => lN ((M.1 12) zk))))), (aM 13, .inl (cZ, 16, .inl (fun zk => zb ((M.2.1 13) zk)))), (aM 14, .inl (cZ, 16, .inl (fun zk => zb ((M.2.1 14) zk)))), (aM 15, .inl (cL, 16, .inr (.inl (fun zk => lN ((M.1 15) zk))))), (aM 16, .inl (cL, 16, .inr (.inl (fun zk => lN ((M.1 16) zk))))), (aM 18, .inl (cI, 40, .inl (fun zk => nI ((M.1 18) zk)))), (aM 19, .inl (cI, 40, .inl (fun zk => nI ((M.1 19) zk)))), (aM 21, .inl (cI, 48, .inl (fun zk => nI ((M.1 21) zk)))), (aM 22, .inl (cI, 48, .inl (fun zk => nI ((M.1 22) zk)))), (aM 23, .inl (cZ, 48, .inl (fun zk => zb ((M.2.1 23) zk)))), (aM 24, .inl (cL, 16, .inr (.inl (fun zk => lN ((M.1 24) zk))))), (aM 25, .inl (cL, 16, .inr (.inl (fun zk => lN ((M.1 25) zk))))), (aM 26, .inl (cL, 4200, .inr (.inl (fun zk => lN ((M.1 26) zk))))), (aM 27, .inl (cL, 4200, .inr (.inl (fun zk => lN ((M.1 27) zk))))), (aM 28, .inl (cL, 32, .inr (.inl (fun zk => lN ((M.1 28) zk))))), (aM 29, .inl (cI, 8, .inl (fun zk => nI ((M.1 29) zk)))), (aM 30, .inl (cI, 8, .inl (fun zk => nI ((M.1 30) zk)))), (aM 31, .inl (cI, 8, .inl (fun zk => nI ((M.1 31) zk))))] [.ref (aM 0), .int t]) (k2_QcV (.int (oI (bfind (M.1 10) t (M.2.2.1 17))))) 0 0 (fun _ => False) := by
  refine Met.ofW (cc := b_MO_blockOf) (maxL := 3) (ret := (some .int)) (by decide) rfl ?_
  intro p e s m args below meth c s₁ Bd hml hv
  obtain ⟨rfl, hP, hK⟩ := hv
  have hx := Bd.exec
  have hb := Bd.bytes
  have hr := Bd.returns
  have hts : ∀ w ∈ lw_g, w.before _ s = true := fun w h => atoms_spec (ws := wsA y_MO_blockOf b_MO_blockOf 3 (some .int)) Bd.pre w (List.mem_cons_of_mem _ h)
  have hown : s.vm.findClass R_MO = some m.cls := findClass_of_methodNamed Bd.named
  have hlocks := Bd.notSynchronized
  have hl := lv_entry ([.ref (aM 0), .int t]) (n := 3) (Nat.le_of_ble_eq_true rfl)
  rw [lg_entry_eq]
  generalize (lg_sl ([.ref (aM 0), .int t]) ++ List.replicate (3 - (lg_sl ([.ref (aM 0), .int t])).length) Slot.unset).toArray = ls at hl ⊢
  have hl : lv_has ls 3 [(0, .ref (aM 0)), (1, .int t)] := hl
  have hP : va_P D classes [(aM 0, .inr (10, [.int (nI (M.2.2.1 0)), .long z, .ref (aM 2), .ref (aM 3), .ref (aM 4), .ref (aM 5), .ref (aM 6), .ref (aM 7), .ref (aM 8), .int (nI (M.2.2.1 9)), .ref (aM 10), .ref (aM 11), .ref (aM 12), .ref (aM 13), .ref (aM 14), .ref (aM 15), .ref (aM 16), .int (nI (M.2.2.1 17)), .ref (aM 18), .ref (aM 19), .int (nI (M.2.2.1 20)), .ref (aM 21), .ref (aM 22), .ref (aM 23), .ref (aM 24), .ref (aM 25), .ref (aM 26), .ref (aM 27), .ref (aM 28), .ref (aM 29), .ref (aM 30), .ref (aM 31)])), (aM 2, .inl (cI, 40, .inl M.2.2.2)), (aM 3, .inl (cI, 40, .inl (fun zk => nI ((M.1 3) zk)))), (aM 4, .inl (cZ, 40, .inl (fun zk => zb ((M.2.1 4) zk)))), (aM 5, .inl (cZ, 40, .inl (fun zk => zb ((M.2.1 5) zk)))), (aM 6, .inl (cL, 2560, .inr (.inl (fun zk => lN ((M.1 6) zk))))), (aM 7, .inl (cL, 2560, .inr (.inl (fun zk => lN ((M.1 7) zk))))), (aM 8, .inl (cI, 40, .inl (fun zk => nI ((M.1 8) zk)))), (aM 10, .inl (cI, 16, .inl (fun zk => nI ((M.1 10) zk)))), (aM 11, .inl (cL, 16, .inr (.inl (fun zk => lN ((M.1 11) zk))))), (aM 12, .inl (cL, 16, .inr (.inl (fun zk => lN ((M.1 12) zk))))), (aM 13, .inl (cZ, 16, .inl (fun zk => zb ((M.2.1 13) zk)))), (aM 14, .inl (cZ, 16, .inl (fun zk => zb ((M.2.1 14) zk)))), (aM 15, .inl (cL, 16, .inr (.inl (fun zk => lN ((M.1 15) zk))))), (aM 16, .inl (cL, 16, .inr (.inl (fun zk => lN ((M.1 16) zk))))), (aM 18, .inl (cI, 40, .inl (fun zk => nI ((M.1 18) zk)))), (aM 19, .inl (cI, 40, .inl (fun zk => nI ((M.1 19) zk)))), (aM 21, .inl (cI, 48, .inl (fun zk => nI ((M.1 21) zk)))), (aM 22, .inl (cI, 48, .inl (fun zk => nI ((M.1 22) zk)))), (aM 23, .inl (cZ, 48, .inl (fun zk => zb ((M.2.1 23) zk)))), (aM 24, .inl (cL, 16, .inr (.inl (fun zk => lN ((M.1 24) zk))))), (aM 25, .inl (cL, 16, .inr (.inl (fun zk => lN ((M.1 25) zk))))), (aM 26, .inl (cL, 4200, .inr (.inl (fun zk => lN ((M.1 26) zk))))), (aM 27, .inl (cL, 4200, .inr (.inl (fun zk => lN ((M.1 27) zk))))), (aM 28, .inl (cL, 32, .inr (.inl (fun zk => lN ((M.1 28) zk))))), (aM 29, .inl (cI, 8, .inl (fun zk => nI ((M.1 29) zk)))), (aM 30, .inl (cI, 8, .inl (fun zk => nI ((M.1 30) zk)))), (aM 31, .inl (cI, 8, .inl (fun zk => nI ((M.1 31) zk))))] s.heap := hP
  refine lv_iconst (v := nI 0) hx hb d_MO_blockOf_0 (by decide) ?_
  refine lv_istore_n (lv' := [(2, .int (nI 0)), (0, .ref (aM 0)), (1, .int t)]) hx hb d_MO_blockOf_1 rfl hl (by decide) rfl (fun ls hl => ?_)
  have lp : ∀ (fu : Nat), ∀ (k : Nat), (k ≤ M.2.2.1 17) → (bfind (M.1 10) t k = none) → (M.2.2.1 17 - k + 1) ≤ fu → ∀ (ls : Array Slot), lv_has ls 3 [(0, .ref (aM 0)), (1, .int t), (2, .int (nI k))] → W p l e (headSpec (wsA y_MO_blockOf b_MO_blockOf 3 (some .int)) ({ frames := 0, cells := 0, slots := 0, locals := 0 } : Room)).room s m ([.ref (aM 0), .int t] : List Value).toArray below meth c s.heap [] 0 0 (MQ below (k2_QcV (.int (oI (bfind (M.1 10) t (M.2.2.1 17))))) ([.ref (aM 0), .int t] : List Value).toArray s 0 0 (fun _ => False)) (F0 m 2 ls []) := by
    intro fu
    induction fu with
    | zero =>
      intro k hk hk2 hmu ls hl
      exact absurd hmu (by omega)
    | succ fu_lp ih_lp =>
      intro k hk hk2 hmu_lp ls hl
      refine lv_iload_n hx hb d_MO_blockOf_2 rfl (lv_at hl 2 rfl) ?_
      refine lv_aload_n hx hb d_MO_blockOf_3 rfl (lv_at hl 0 rfl) ?_
      refine va_get (D := D) (ci := 10) (v := .int (nI (M.2.2.1 17))) (C := R_MO) (T := F_MO) (N := 32) hx hb hts i_MO hown hK hP 0 rfl rfl 17 (by decide) (hts _ kf_MO_105) (fun _ h9 => h9) rfl d_MO_blockOf_4 ?_
      refine z_cge (tgt := 28) hx hb d_MO_blockOf_7 (by decide) (by omega) (by omega) (fun c_1 => ?_) (fun c_1 => ?_)
      · refine lv_iconst (v := (-1)) hx hb d_MO_blockOf_28 (by decide) ?_
        refine lv_toi (z := (oI (bfind (M.1 10) t (M.2.2.1 17)))) (by rw [show M.2.2.1 17 = k by omega, hk2]; rfl) ?_
        exact W.iret hx hb hr (fun t ht hW => ⟨rfl, ht⟩) (fun q h => by cases h) d_MO_blockOf_29
      · refine lv_aload_n hx hb d_MO_blockOf_10 rfl (lv_at hl 0 rfl) ?_
        refine va_get (D := D) (ci := 10) (v := .ref (aM 10)) (C := R_MO) (T := F_MO) (N := 32) hx hb hts i_MO hown hK hP 0 rfl rfl 10 (by decide) (hts _ kf_MO_33) (fun _ h9 => h9) rfl d_MO_blockOf_11 ?_
        refine lv_iload_n hx hb d_MO_blockOf_14 rfl (lv_at hl 2 rfl) ?_
        refine z_ild (j := k) hx hb hK hP 8 0 rfl rfl (by omega) (by decide) d_MO_blockOf_15 ?_
        refine lv_iload_n hx hb d_MO_blockOf_16 rfl (lv_at hl 1 rfl) ?_
        refine lv_icmp_ne (tgt := 22) hx hb d_MO_blockOf_17 (by decide) (fun c_2 => ?_) (fun c_2 => ?_)
        · refine lv_iinc (v := nI (k + 1)) (lv' := [(2, .int (nI (k + 1))), (0, .ref (aM 0)), (1, .int t)]) hx hb d_MO_blockOf_22 hl (k := 2) rfl (nI_1 _) (by decide) rfl (fun ls hl => ?_)
          refine lv_goto (tgt := 2) hx hb d_MO_blockOf_25 (by decide) ?_
          exact ih_lp (k + 1) (by omega) (by rw [bfind, hk2]; exact if_neg c_2) (by omega) ls (lv_sub hl [1, 2, 0] rfl)
        · have e9 : bfind (M.1 10) t (M.2.2.1 17) = some k := by
            have e8 : bfind (M.1 10) t (k + 1) = some k := by rw [bfind, hk2]; exact if_pos c_2
            have e7 := bfind_up e8 (M.2.2.1 17 - (k + 1))
            rwa [show k + 1 + (M.2.2.1 17 - (k + 1)) = M.2.2.1 17 by omega] at e7
          refine lv_iload_n hx hb d_MO_blockOf_20 rfl (lv_at hl 2 rfl) ?_
          refine lv_toi (z := (oI (bfind (M.1 10) t (M.2.2.1 17)))) (by rw [e9]; rfl) ?_
          exact W.iret hx hb hr (fun t ht hW => ⟨rfl, ht⟩) (fun q h => by cases h) d_MO_blockOf_21
  exact lp _ 0 (Nat.zero_le _) rfl (Nat.le_refl _) ls (lv_sub hl [1, 2, 0] rfl)
set_option maxHeartbeats 4000000 in
set_option maxRecDepth 100000 in
/-- wide -/
theorem c_MO_wide (l : Launch) (D : va_G) (aM : Nat → Nat) (cI cZ cL : ClassId) (M : MS) (z : Int64) (q0 bk : Nat) (h1 : q0 < 3) (h2 : bk < 16) : Met l y_MO_wide (wsA y_MO_wide b_MO_wide 3 (some .long)) ({ frames := 0, cells := 0, slots := 0, locals := 0 } : Room) (zR D [(cI, .int), (cZ, .boolean), (cL, .long)] [(aM 0, .inr (10, [.int (nI (M.2.2.1 0)), .long z, .ref (aM 2), .ref (aM 3), .ref (aM 4), .ref (aM 5), .ref (aM 6), .ref (aM 7), .ref (aM 8), .int (nI (M.2.2.1 9)), .ref (aM 10), .ref (aM 11), .ref (aM 12), .ref (aM 13), .ref (aM 14), .ref (aM 15), .ref (aM 16), .int (nI (M.2.2.1 17)), .ref (aM 18), .ref (aM 19), .int (nI (M.2.2.1 20)), .ref (aM 21), .ref (aM 22), .ref (aM 23), .ref (aM 24), .ref (aM 25), .ref (aM 26), .ref (aM 27), .ref (aM 28), .ref (aM 29), .ref (aM 30), .ref (aM 31)])), (aM 2, .inl (cI, 40, .inl M.2.2.2)), (aM 3, .inl (cI, 40, .inl (fun zk => nI ((M.1 3) zk)))), (aM 4, .inl (cZ, 40, .inl (fun zk => zb ((M.2.1 4) zk)))), (aM 5, .inl (cZ, 40, .inl (fun zk => zb ((M.2.1 5) zk)))), (aM 6, .inl (cL, 2560, .inr (.inl (fun zk => lN ((M.1 6) zk))))), (aM 7, .inl (cL, 2560, .inr (.inl (fun zk => lN ((M.1 7) zk))))), (aM 8, .inl (cI, 40, .inl (fun zk => nI ((M.1 8) zk)))), (aM 10, .inl (cI, 16, .inl (fun zk => nI ((M.1 10) zk)))), (aM 11, .inl (cL, 16, .inr (.inl (fun zk => lN ((M.1 11) zk))))), (aM 12, .inl (cL, 16, .inr (.inl (fun zk => lN ((M.1 12) zk))))), (aM 13, .inl (cZ, 16, .inl (fun zk => zb ((M.2.1 13) zk)))), (aM 14, .inl (cZ, 16, .inl (fun zk => zb ((M.2.1 14) zk)))), (aM 15, .inl (cL, 16, .inr (.inl (fun zk => lN ((M.1 15) zk))))), (aM 16, .inl (cL, 16, .inr (.inl (fun zk => lN ((M.1 16) zk))))), (aM 18, .inl (cI, 40, .inl (fun zk => nI ((M.1 18) zk)))), (aM 19, .inl (cI, 40, .inl (fun zk => nI ((M.1 19) zk)))), (aM 21, .inl (cI, 48, .inl (fun zk => nI ((M.1 21) zk)))), (aM 22, .inl (cI, 48, .inl (fun zk => nI ((M.1 22) zk)))), (aM 23, .inl (cZ, 48, .inl (fun zk => zb ((M.2.1 23) zk)))), (aM 24, .inl (cL, 16, .inr (.inl (fun zk => lN ((M.1 24) zk))))), (aM 25, .inl (cL, 16, .inr (.inl (fun zk => lN ((M.1 25) zk))))), (aM 26, .inl (cL, 4200, .inr (.inl (fun zk => lN ((M.1 26) zk))))), (aM 27, .inl (cL, 4200, .inr (.inl (fun zk => lN ((M.1 27) zk))))), (aM 28, .inl (cL, 32, .inr (.inl (fun zk => lN ((M.1 28) zk))))), (aM 29, .inl (cI, 8, .inl (fun zk => nI ((M.1 29) zk)))), (aM 30, .inl (cI, 8, .inl (fun zk => nI ((M.1 30) zk)))), (aM 31, .inl (cI, 8, .inl (fun zk => nI ((M.1 31) zk))))] [.ref (aM 0), .int (nI q0), .int (nI bk)]) (k2_QcV (.long (lN (wdM M q0 bk)))) 0 0 (fun _ => False) := by
  refine Met.ofW (cc := b_MO_wide) (maxL := 3) (ret := (some .long)) (by decide) rfl ?_
  intro p e s m args below meth c s₁ Bd hml hv
  obtain ⟨rfl, hP, hK⟩ := hv
  have hx := Bd.exec
  have hb := Bd.bytes
  have hr := Bd.returns
  have hts : ∀ w ∈ lw_g, w.before _ s = true := fun w h => atoms_spec (ws := wsA y_MO_wide b_MO_wide 3 (some .long)) Bd.pre w (List.mem_cons_of_mem _ h)
  have hown : s.vm.findClass R_MO = some m.cls := findClass_of_methodNamed Bd.named
  have hlocks := Bd.notSynchronized
  have hl := lv_entry ([.ref (aM 0), .int (nI q0), .int (nI bk)]) (n := 3) (Nat.le_of_ble_eq_true rfl)
  rw [lg_entry_eq]
  generalize (lg_sl ([.ref (aM 0), .int (nI q0), .int (nI bk)]) ++ List.replicate (3 - (lg_sl ([.ref (aM 0), .int (nI q0), .int (nI bk)])).length) Slot.unset).toArray = ls at hl ⊢
  have hl : lv_has ls 3 [(0, .ref (aM 0)), (1, .int (nI q0)), (2, .int (nI bk))] := hl
  have hP : va_P D classes [(aM 0, .inr (10, [.int (nI (M.2.2.1 0)), .long z, .ref (aM 2), .ref (aM 3), .ref (aM 4), .ref (aM 5), .ref (aM 6), .ref (aM 7), .ref (aM 8), .int (nI (M.2.2.1 9)), .ref (aM 10), .ref (aM 11), .ref (aM 12), .ref (aM 13), .ref (aM 14), .ref (aM 15), .ref (aM 16), .int (nI (M.2.2.1 17)), .ref (aM 18), .ref (aM 19), .int (nI (M.2.2.1 20)), .ref (aM 21), .ref (aM 22), .ref (aM 23), .ref (aM 24), .ref (aM 25), .ref (aM 26), .ref (aM 27), .ref (aM 28), .ref (aM 29), .ref (aM 30), .ref (aM 31)])), (aM 2, .inl (cI, 40, .inl M.2.2.2)), (aM 3, .inl (cI, 40, .inl (fun zk => nI ((M.1 3) zk)))), (aM 4, .inl (cZ, 40, .inl (fun zk => zb ((M.2.1 4) zk)))), (aM 5, .inl (cZ, 40, .inl (fun zk => zb ((M.2.1 5) zk)))), (aM 6, .inl (cL, 2560, .inr (.inl (fun zk => lN ((M.1 6) zk))))), (aM 7, .inl (cL, 2560, .inr (.inl (fun zk => lN ((M.1 7) zk))))), (aM 8, .inl (cI, 40, .inl (fun zk => nI ((M.1 8) zk)))), (aM 10, .inl (cI, 16, .inl (fun zk => nI ((M.1 10) zk)))), (aM 11, .inl (cL, 16, .inr (.inl (fun zk => lN ((M.1 11) zk))))), (aM 12, .inl (cL, 16, .inr (.inl (fun zk => lN ((M.1 12) zk))))), (aM 13, .inl (cZ, 16, .inl (fun zk => zb ((M.2.1 13) zk)))), (aM 14, .inl (cZ, 16, .inl (fun zk => zb ((M.2.1 14) zk)))), (aM 15, .inl (cL, 16, .inr (.inl (fun zk => lN ((M.1 15) zk))))), (aM 16, .inl (cL, 16, .inr (.inl (fun zk => lN ((M.1 16) zk))))), (aM 18, .inl (cI, 40, .inl (fun zk => nI ((M.1 18) zk)))), (aM 19, .inl (cI, 40, .inl (fun zk => nI ((M.1 19) zk)))), (aM 21, .inl (cI, 48, .inl (fun zk => nI ((M.1 21) zk)))), (aM 22, .inl (cI, 48, .inl (fun zk => nI ((M.1 22) zk)))), (aM 23, .inl (cZ, 48, .inl (fun zk => zb ((M.2.1 23) zk)))), (aM 24, .inl (cL, 16, .inr (.inl (fun zk => lN ((M.1 24) zk))))), (aM 25, .inl (cL, 16, .inr (.inl (fun zk => lN ((M.1 25) zk))))), (aM 26, .inl (cL, 4200, .inr (.inl (fun zk => lN ((M.1 26) zk))))), (aM 27, .inl (cL, 4200, .inr (.inl (fun zk => lN ((M.1 27) zk))))), (aM 28, .inl (cL, 32, .inr (.inl (fun zk => lN ((M.1 28) zk))))), (aM 29, .inl (cI, 8, .inl (fun zk => nI ((M.1 29) zk)))), (aM 30, .inl (cI, 8, .inl (fun zk => nI ((M.1 30) zk)))), (aM 31, .inl (cI, 8, .inl (fun zk => nI ((M.1 31) zk))))] s.heap := hP
  refine lv_aload_n hx hb d_MO_wide_0 rfl (lv_at hl 0 rfl) ?_
  refine va_get (D := D) (ci := 10) (v := .ref (aM 23)) (C := R_MO) (T := F_MO) (N := 32) hx hb hts i_MO hown hK hP 0 rfl rfl 23 (by decide) (hts _ kf_MO_66) (fun _ h9 => h9) rfl d_MO_wide_1 ?_
  refine lv_bipush (v := nI 16) hx hb d_MO_wide_4 (by decide) ?_
  refine lv_iload_n hx hb d_MO_wide_6 rfl (lv_at hl 1 rfl) ?_
  refine z_mul hx hb d_MO_wide_7 ?_
  refine lv_iload_n hx hb d_MO_wide_8 rfl (lv_at hl 2 rfl) ?_
  refine z_add hx hb d_MO_wide_9 ?_
  refine z_zld (j := ((16 * q0) + bk)) hx hb hK hP 19 1 rfl rfl (by omega) (by decide) d_MO_wide_10 ?_
  refine z_zeq (tgt := 23) hx hb d_MO_wide_11 (by decide) (fun c_1 => ?_) (fun c_1 => ?_)
  · refine lv_aload_n hx hb d_MO_wide_23 rfl (lv_at hl 0 rfl) ?_
    refine va_get (D := D) (ci := 10) (v := .ref (aM 11)) (C := R_MO) (T := F_MO) (N := 32) hx hb hts i_MO hown hK hP 0 rfl rfl 11 (by decide) (hts _ kf_MO_36) (fun _ h9 => h9) rfl d_MO_wide_24 ?_
    refine lv_iload_n hx hb d_MO_wide_27 rfl (lv_at hl 2 rfl) ?_
    refine z_lld (j := bk) hx hb hK hP 9 2 rfl rfl (by omega) (by decide) d_MO_wide_28 ?_
    refine lv_tol (z := (lN (wdM M q0 bk))) (congrArg lN (by unfold wdM; rw [c_1]; rfl)) ?_
    exact W.lret hx hb hr (fun t ht hW => ⟨rfl, ht⟩) (fun q h => by cases h) d_MO_wide_29
  · refine lv_aload_n hx hb d_MO_wide_14 rfl (lv_at hl 0 rfl) ?_
    refine va_get (D := D) (ci := 10) (v := .ref (aM 12)) (C := R_MO) (T := F_MO) (N := 32) hx hb hts i_MO hown hK hP 0 rfl rfl 12 (by decide) (hts _ kf_MO_39) (fun _ h9 => h9) rfl d_MO_wide_15 ?_
    refine lv_iload_n hx hb d_MO_wide_18 rfl (lv_at hl 2 rfl) ?_
    refine z_lld (j := bk) hx hb hK hP 10 2 rfl rfl (by omega) (by decide) d_MO_wide_19 ?_
    refine lv_goto (tgt := 29) hx hb d_MO_wide_20 (by decide) ?_
    refine lv_tol (z := (lN (wdM M q0 bk))) (congrArg lN (by unfold wdM; rw [c_1]; rfl)) ?_
    exact W.lret hx hb hr (fun t ht hW => ⟨rfl, ht⟩) (fun q h => by cases h) d_MO_wide_29
set_option maxHeartbeats 4000000 in
set_option maxRecDepth 100000 in
/-- high -/
theorem c_MO_high (l : Launch) (D : va_G) (aM : Nat → Nat) (cI cZ cL : ClassId) (M : MS) (z : Int64) (q0 bk : Nat) (h1 : q0 < 3) (h2 : bk < 16) : Met l y_MO_high (wsA y_MO_high b_MO_high 3 (some .long)) ({ frames := 0, cells := 0, slots := 0, locals := 0 } : Room) (zR D [(cI, .int), (cZ, .boolean), (cL, .long)] [(aM 0, .inr (10, [.int (nI (M.2.2.1 0)), .long z, .ref (aM 2), .ref (aM 3), .ref (aM 4), .ref (aM 5), .ref (aM 6), .ref (aM 7), .ref (aM 8), .int (nI (M.2.2.1 9)), .ref (aM 10), .ref (aM 11), .ref (aM 12), .ref (aM 13), .ref (aM 14), .ref (aM 15), .ref (aM 16), .int (nI (M.2.2.1 17)), .ref (aM 18), .ref (aM 19), .int (nI (M.2.2.1 20)), .ref (aM 21), .ref (aM 22), .ref (aM 23), .ref (aM 24), .ref (aM 25), .ref (aM 26), .ref (aM 27), .ref (aM 28), .ref (aM 29), .ref (aM 30), .ref (aM 31)])), (aM 2, .inl (cI, 40, .inl M.2.2.2)), (aM 3, .inl (cI, 40, .inl (fun zk => nI ((M.1 3) zk)))), (aM 4, .inl (cZ, 40, .inl (fun zk => zb ((M.2.1 4) zk)))), (aM 5, .inl (cZ, 40, .inl (fun zk => zb ((M.2.1 5) zk)))), (aM 6, .inl (cL, 2560, .inr (.inl (fun zk => lN ((M.1 6) zk))))), (aM 7, .inl (cL, 2560, .inr (.inl (fun zk => lN ((M.1 7) zk))))), (aM 8, .inl (cI, 40, .inl (fun zk => nI ((M.1 8) zk)))), (aM 10, .inl (cI, 16, .inl (fun zk => nI ((M.1 10) zk)))), (aM 11, .inl (cL, 16, .inr (.inl (fun zk => lN ((M.1 11) zk))))), (aM 12, .inl (cL, 16, .inr (.inl (fun zk => lN ((M.1 12) zk))))), (aM 13, .inl (cZ, 16, .inl (fun zk => zb ((M.2.1 13) zk)))), (aM 14, .inl (cZ, 16, .inl (fun zk => zb ((M.2.1 14) zk)))), (aM 15, .inl (cL, 16, .inr (.inl (fun zk => lN ((M.1 15) zk))))), (aM 16, .inl (cL, 16, .inr (.inl (fun zk => lN ((M.1 16) zk))))), (aM 18, .inl (cI, 40, .inl (fun zk => nI ((M.1 18) zk)))), (aM 19, .inl (cI, 40, .inl (fun zk => nI ((M.1 19) zk)))), (aM 21, .inl (cI, 48, .inl (fun zk => nI ((M.1 21) zk)))), (aM 22, .inl (cI, 48, .inl (fun zk => nI ((M.1 22) zk)))), (aM 23, .inl (cZ, 48, .inl (fun zk => zb ((M.2.1 23) zk)))), (aM 24, .inl (cL, 16, .inr (.inl (fun zk => lN ((M.1 24) zk))))), (aM 25, .inl (cL, 16, .inr (.inl (fun zk => lN ((M.1 25) zk))))), (aM 26, .inl (cL, 4200, .inr (.inl (fun zk => lN ((M.1 26) zk))))), (aM 27, .inl (cL, 4200, .inr (.inl (fun zk => lN ((M.1 27) zk))))), (aM 28, .inl (cL, 32, .inr (.inl (fun zk => lN ((M.1 28) zk))))), (aM 29, .inl (cI, 8, .inl (fun zk => nI ((M.1 29) zk)))), (aM 30, .inl (cI, 8, .inl (fun zk => nI ((M.1 30) zk)))), (aM 31, .inl (cI, 8, .inl (fun zk => nI ((M.1 31) zk))))] [.ref (aM 0), .int (nI q0), .int (nI bk)]) (k2_QcV (.long (lN (hgM M q0 bk)))) 0 0 (fun _ => False) := by
  refine Met.ofW (cc := b_MO_high) (maxL := 3) (ret := (some .long)) (by decide) rfl ?_
  intro p e s m args below meth c s₁ Bd hml hv
  obtain ⟨rfl, hP, hK⟩ := hv
  have hx := Bd.exec
  have hb := Bd.bytes
  have hr := Bd.returns
  have hts : ∀ w ∈ lw_g, w.before _ s = true := fun w h => atoms_spec (ws := wsA y_MO_high b_MO_high 3 (some .long)) Bd.pre w (List.mem_cons_of_mem _ h)
  have hown : s.vm.findClass R_MO = some m.cls := findClass_of_methodNamed Bd.named
  have hlocks := Bd.notSynchronized
  have hl := lv_entry ([.ref (aM 0), .int (nI q0), .int (nI bk)]) (n := 3) (Nat.le_of_ble_eq_true rfl)
  rw [lg_entry_eq]
  generalize (lg_sl ([.ref (aM 0), .int (nI q0), .int (nI bk)]) ++ List.replicate (3 - (lg_sl ([.ref (aM 0), .int (nI q0), .int (nI bk)])).length) Slot.unset).toArray = ls at hl ⊢
  have hl : lv_has ls 3 [(0, .ref (aM 0)), (1, .int (nI q0)), (2, .int (nI bk))] := hl
  have hP : va_P D classes [(aM 0, .inr (10, [.int (nI (M.2.2.1 0)), .long z, .ref (aM 2), .ref (aM 3), .ref (aM 4), .ref (aM 5), .ref (aM 6), .ref (aM 7), .ref (aM 8), .int (nI (M.2.2.1 9)), .ref (aM 10), .ref (aM 11), .ref (aM 12), .ref (aM 13), .ref (aM 14), .ref (aM 15), .ref (aM 16), .int (nI (M.2.2.1 17)), .ref (aM 18), .ref (aM 19), .int (nI (M.2.2.1 20)), .ref (aM 21), .ref (aM 22), .ref (aM 23), .ref (aM 24), .ref (aM 25), .ref (aM 26), .ref (aM 27), .ref (aM 28), .ref (aM 29), .ref (aM 30), .ref (aM 31)])), (aM 2, .inl (cI, 40, .inl M.2.2.2)), (aM 3, .inl (cI, 40, .inl (fun zk => nI ((M.1 3) zk)))), (aM 4, .inl (cZ, 40, .inl (fun zk => zb ((M.2.1 4) zk)))), (aM 5, .inl (cZ, 40, .inl (fun zk => zb ((M.2.1 5) zk)))), (aM 6, .inl (cL, 2560, .inr (.inl (fun zk => lN ((M.1 6) zk))))), (aM 7, .inl (cL, 2560, .inr (.inl (fun zk => lN ((M.1 7) zk))))), (aM 8, .inl (cI, 40, .inl (fun zk => nI ((M.1 8) zk)))), (aM 10, .inl (cI, 16, .inl (fun zk => nI ((M.1 10) zk)))), (aM 11, .inl (cL, 16, .inr (.inl (fun zk => lN ((M.1 11) zk))))), (aM 12, .inl (cL, 16, .inr (.inl (fun zk => lN ((M.1 12) zk))))), (aM 13, .inl (cZ, 16, .inl (fun zk => zb ((M.2.1 13) zk)))), (aM 14, .inl (cZ, 16, .inl (fun zk => zb ((M.2.1 14) zk)))), (aM 15, .inl (cL, 16, .inr (.inl (fun zk => lN ((M.1 15) zk))))), (aM 16, .inl (cL, 16, .inr (.inl (fun zk => lN ((M.1 16) zk))))), (aM 18, .inl (cI, 40, .inl (fun zk => nI ((M.1 18) zk)))), (aM 19, .inl (cI, 40, .inl (fun zk => nI ((M.1 19) zk)))), (aM 21, .inl (cI, 48, .inl (fun zk => nI ((M.1 21) zk)))), (aM 22, .inl (cI, 48, .inl (fun zk => nI ((M.1 22) zk)))), (aM 23, .inl (cZ, 48, .inl (fun zk => zb ((M.2.1 23) zk)))), (aM 24, .inl (cL, 16, .inr (.inl (fun zk => lN ((M.1 24) zk))))), (aM 25, .inl (cL, 16, .inr (.inl (fun zk => lN ((M.1 25) zk))))), (aM 26, .inl (cL, 4200, .inr (.inl (fun zk => lN ((M.1 26) zk))))), (aM 27, .inl (cL, 4200, .inr (.inl (fun zk => lN ((M.1 27) zk))))), (aM 28, .inl (cL, 32, .inr (.inl (fun zk => lN ((M.1 28) zk))))), (aM 29, .inl (cI, 8, .inl (fun zk => nI ((M.1 29) zk)))), (aM 30, .inl (cI, 8, .inl (fun zk => nI ((M.1 30) zk)))), (aM 31, .inl (cI, 8, .inl (fun zk => nI ((M.1 31) zk))))] s.heap := hP
  refine lv_aload_n hx hb d_MO_high_0 rfl (lv_at hl 0 rfl) ?_
  refine va_get (D := D) (ci := 10) (v := .ref (aM 23)) (C := R_MO) (T := F_MO) (N := 32) hx hb hts i_MO hown hK hP 0 rfl rfl 23 (by decide) (hts _ kf_MO_66) (fun _ h9 => h9) rfl d_MO_high_1 ?_
  refine lv_bipush (v := nI 16) hx hb d_MO_high_4 (by decide) ?_
  refine lv_iload_n hx hb d_MO_high_6 rfl (lv_at hl 1 rfl) ?_
  refine z_mul hx hb d_MO_high_7 ?_
  refine lv_iload_n hx hb d_MO_high_8 rfl (lv_at hl 2 rfl) ?_
  refine z_add hx hb d_MO_high_9 ?_
  refine z_zld (j := ((16 * q0) + bk)) hx hb hK hP 19 1 rfl rfl (by omega) (by decide) d_MO_high_10 ?_
  refine z_zeq (tgt := 23) hx hb d_MO_high_11 (by decide) (fun c_1 => ?_) (fun c_1 => ?_)
  · refine lv_aload_n hx hb d_MO_high_23 rfl (lv_at hl 0 rfl) ?_
    refine va_get (D := D) (ci := 10) (v := .ref (aM 12)) (C := R_MO) (T := F_MO) (N := 32) hx hb hts i_MO hown hK hP 0 rfl rfl 12 (by decide) (hts _ kf_MO_39) (fun _ h9 => h9) rfl d_MO_high_24 ?_
    refine lv_iload_n hx hb d_MO_high_27 rfl (lv_at hl 2 rfl) ?_
    refine z_lld (j := bk) hx hb hK hP 10 2 rfl rfl (by omega) (by decide) d_MO_high_28 ?_
    refine lv_tol (z := (lN (hgM M q0 bk))) (congrArg lN (by unfold hgM; rw [c_1]; rfl)) ?_
    exact W.lret hx hb hr (fun t ht hW => ⟨rfl, ht⟩) (fun q h => by cases h) d_MO_high_29
  · refine lv_aload_n hx hb d_MO_high_14 rfl (lv_at hl 0 rfl) ?_
    refine va_get (D := D) (ci := 10) (v := .ref (aM 11)) (C := R_MO) (T := F_MO) (N := 32) hx hb hts i_MO hown hK hP 0 rfl rfl 11 (by decide) (hts _ kf_MO_36) (fun _ h9 => h9) rfl d_MO_high_15 ?_
    refine lv_iload_n hx hb d_MO_high_18 rfl (lv_at hl 2 rfl) ?_
    refine z_lld (j := bk) hx hb hK hP 9 2 rfl rfl (by omega) (by decide) d_MO_high_19 ?_
    refine lv_goto (tgt := 29) hx hb d_MO_high_20 (by decide) ?_
    refine lv_tol (z := (lN (hgM M q0 bk))) (congrArg lN (by unfold hgM; rw [c_1]; rfl)) ?_
    exact W.lret hx hb hr (fun t ht hW => ⟨rfl, ht⟩) (fun q h => by cases h) d_MO_high_29
set_option maxHeartbeats 4000000 in
set_option maxRecDepth 100000 in
/-- far(u, v) -/
theorem c_MO_far (l : Launch) (D : va_G) (aM : Nat → Nat) (cI cZ cL : ClassId) (M : MS) (z : Int64) (u0 v0 : Nat) (h1 : u0 < 2 ^ 62) (h2 : v0 < 2 ^ 62) : Met l y_MO_far (wsA y_MO_far b_MO_far 4 (some .long)) ({ frames := 0, cells := 0, slots := 0, locals := 0 } : Room) (zR D [(cI, .int), (cZ, .boolean), (cL, .long)] [(aM 0, .inr (10, [.int (nI (M.2.2.1 0)), .long z, .ref (aM 2), .ref (aM 3), .ref (aM 4), .ref (aM 5), .ref (aM 6), .ref (aM 7), .ref (aM 8), .int (nI (M.2.2.1 9)), .ref (aM 10), .ref (aM 11), .ref (aM 12), .ref (aM 13), .ref (aM 14), .ref (aM 15), .ref (aM 16), .int (nI (M.2.2.1 17)), .ref (aM 18), .ref (aM 19), .int (nI (M.2.2.1 20)), .ref (aM 21), .ref (aM 22), .ref (aM 23), .ref (aM 24), .ref (aM 25), .ref (aM 26), .ref (aM 27), .ref (aM 28), .ref (aM 29), .ref (aM 30), .ref (aM 31)])), (aM 2, .inl (cI, 40, .inl M.2.2.2)), (aM 3, .inl (cI, 40, .inl (fun zk => nI ((M.1 3) zk)))), (aM 4, .inl (cZ, 40, .inl (fun zk => zb ((M.2.1 4) zk)))), (aM 5, .inl (cZ, 40, .inl (fun zk => zb ((M.2.1 5) zk)))), (aM 6, .inl (cL, 2560, .inr (.inl (fun zk => lN ((M.1 6) zk))))), (aM 7, .inl (cL, 2560, .inr (.inl (fun zk => lN ((M.1 7) zk))))), (aM 8, .inl (cI, 40, .inl (fun zk => nI ((M.1 8) zk)))), (aM 10, .inl (cI, 16, .inl (fun zk => nI ((M.1 10) zk)))), (aM 11, .inl (cL, 16, .inr (.inl (fun zk => lN ((M.1 11) zk))))), (aM 12, .inl (cL, 16, .inr (.inl (fun zk => lN ((M.1 12) zk))))), (aM 13, .inl (cZ, 16, .inl (fun zk => zb ((M.2.1 13) zk)))), (aM 14, .inl (cZ, 16, .inl (fun zk => zb ((M.2.1 14) zk)))), (aM 15, .inl (cL, 16, .inr (.inl (fun zk => lN ((M.1 15) zk))))), (aM 16, .inl (cL, 16, .inr (.inl (fun zk => lN ((M.1 16) zk))))), (aM 18, .inl (cI, 40, .inl (fun zk => nI ((M.1 18) zk)))), (aM 19, .inl (cI, 40, .inl (fun zk => nI ((M.1 19) zk)))), (aM 21, .inl (cI, 48, .inl (fun zk => nI ((M.1 21) zk)))), (aM 22, .inl (cI, 48, .inl (fun zk => nI ((M.1 22) zk)))), (aM 23, .inl (cZ, 48, .inl (fun zk => zb ((M.2.1 23) zk)))), (aM 24, .inl (cL, 16, .inr (.inl (fun zk => lN ((M.1 24) zk))))), (aM 25, .inl (cL, 16, .inr (.inl (fun zk => lN ((M.1 25) zk))))), (aM 26, .inl (cL, 4200, .inr (.inl (fun zk => lN ((M.1 26) zk))))), (aM 27, .inl (cL, 4200, .inr (.inl (fun zk => lN ((M.1 27) zk))))), (aM 28, .inl (cL, 32, .inr (.inl (fun zk => lN ((M.1 28) zk))))), (aM 29, .inl (cI, 8, .inl (fun zk => nI ((M.1 29) zk)))), (aM 30, .inl (cI, 8, .inl (fun zk => nI ((M.1 30) zk)))), (aM 31, .inl (cI, 8, .inl (fun zk => nI ((M.1 31) zk))))] [.long (lN u0), .long (lN v0)]) (k2_QcV (.long (lN (dd u0 v0)))) 0 0 (fun _ => False) := by
  refine Met.ofW (cc := b_MO_far) (maxL := 4) (ret := (some .long)) (by decide) rfl ?_
  intro p e s m args below meth c s₁ Bd hml hv
  obtain ⟨rfl, hP, hK⟩ := hv
  have hx := Bd.exec
  have hb := Bd.bytes
  have hr := Bd.returns
  have hts : ∀ w ∈ lw_g, w.before _ s = true := fun w h => atoms_spec (ws := wsA y_MO_far b_MO_far 4 (some .long)) Bd.pre w (List.mem_cons_of_mem _ h)
  have hown : s.vm.findClass R_MO = some m.cls := findClass_of_methodNamed Bd.named
  have hlocks := Bd.notSynchronized
  have hl := lv_entry ([.long (lN u0), .long (lN v0)]) (n := 4) (Nat.le_of_ble_eq_true rfl)
  rw [lg_entry_eq]
  generalize (lg_sl ([.long (lN u0), .long (lN v0)]) ++ List.replicate (4 - (lg_sl ([.long (lN u0), .long (lN v0)])).length) Slot.unset).toArray = ls at hl ⊢
  have hl : lv_has ls 4 [(0, .long (lN u0)), (2, .long (lN v0))] := hl
  have hP : va_P D classes [(aM 0, .inr (10, [.int (nI (M.2.2.1 0)), .long z, .ref (aM 2), .ref (aM 3), .ref (aM 4), .ref (aM 5), .ref (aM 6), .ref (aM 7), .ref (aM 8), .int (nI (M.2.2.1 9)), .ref (aM 10), .ref (aM 11), .ref (aM 12), .ref (aM 13), .ref (aM 14), .ref (aM 15), .ref (aM 16), .int (nI (M.2.2.1 17)), .ref (aM 18), .ref (aM 19), .int (nI (M.2.2.1 20)), .ref (aM 21), .ref (aM 22), .ref (aM 23), .ref (aM 24), .ref (aM 25), .ref (aM 26), .ref (aM 27), .ref (aM 28), .ref (aM 29), .ref (aM 30), .ref (aM 31)])), (aM 2, .inl (cI, 40, .inl M.2.2.2)), (aM 3, .inl (cI, 40, .inl (fun zk => nI ((M.1 3) zk)))), (aM 4, .inl (cZ, 40, .inl (fun zk => zb ((M.2.1 4) zk)))), (aM 5, .inl (cZ, 40, .inl (fun zk => zb ((M.2.1 5) zk)))), (aM 6, .inl (cL, 2560, .inr (.inl (fun zk => lN ((M.1 6) zk))))), (aM 7, .inl (cL, 2560, .inr (.inl (fun zk => lN ((M.1 7) zk))))), (aM 8, .inl (cI, 40, .inl (fun zk => nI ((M.1 8) zk)))), (aM 10, .inl (cI, 16, .inl (fun zk => nI ((M.1 10) zk)))), (aM 11, .inl (cL, 16, .inr (.inl (fun zk => lN ((M.1 11) zk))))), (aM 12, .inl (cL, 16, .inr (.inl (fun zk => lN ((M.1 12) zk))))), (aM 13, .inl (cZ, 16, .inl (fun zk => zb ((M.2.1 13) zk)))), (aM 14, .inl (cZ, 16, .inl (fun zk => zb ((M.2.1 14) zk)))), (aM 15, .inl (cL, 16, .inr (.inl (fun zk => lN ((M.1 15) zk))))), (aM 16, .inl (cL, 16, .inr (.inl (fun zk => lN ((M.1 16) zk))))), (aM 18, .inl (cI, 40, .inl (fun zk => nI ((M.1 18) zk)))), (aM 19, .inl (cI, 40, .inl (fun zk => nI ((M.1 19) zk)))), (aM 21, .inl (cI, 48, .inl (fun zk => nI ((M.1 21) zk)))), (aM 22, .inl (cI, 48, .inl (fun zk => nI ((M.1 22) zk)))), (aM 23, .inl (cZ, 48, .inl (fun zk => zb ((M.2.1 23) zk)))), (aM 24, .inl (cL, 16, .inr (.inl (fun zk => lN ((M.1 24) zk))))), (aM 25, .inl (cL, 16, .inr (.inl (fun zk => lN ((M.1 25) zk))))), (aM 26, .inl (cL, 4200, .inr (.inl (fun zk => lN ((M.1 26) zk))))), (aM 27, .inl (cL, 4200, .inr (.inl (fun zk => lN ((M.1 27) zk))))), (aM 28, .inl (cL, 32, .inr (.inl (fun zk => lN ((M.1 28) zk))))), (aM 29, .inl (cI, 8, .inl (fun zk => nI ((M.1 29) zk)))), (aM 30, .inl (cI, 8, .inl (fun zk => nI ((M.1 30) zk)))), (aM 31, .inl (cI, 8, .inl (fun zk => nI ((M.1 31) zk))))] s.heap := hP
  refine lv_lload_n hx hb d_MO_far_0 rfl (lv_at hl 0 rfl) ?_
  refine lv_lload_n hx hb d_MO_far_1 rfl (lv_at hl 1 rfl) ?_
  refine z_lle (tgt := 12) hx hb d_MO_far_2 d_MO_far_3 (by decide) (by omega) (by omega) (fun c_1 => ?_) (fun c_1 => ?_)
  · refine lv_lload_n hx hb d_MO_far_12 rfl (lv_at hl 1 rfl) ?_
    refine lv_lload_n hx hb d_MO_far_13 rfl (lv_at hl 0 rfl) ?_
    refine lv_lsub hx hb d_MO_far_14 ?_
    refine lv_tol (lN_sub (by omega)) ?_
    refine lv_tol (z := (lN (dd u0 v0))) (congrArg lN (by unfold dd; omega)) ?_
    exact W.lret hx hb hr (fun t ht hW => ⟨rfl, ht⟩) (fun q h => by cases h) d_MO_far_15
  · refine lv_lload_n hx hb d_MO_far_6 rfl (lv_at hl 0 rfl) ?_
    refine lv_lload_n hx hb d_MO_far_7 rfl (lv_at hl 1 rfl) ?_
    refine lv_lsub hx hb d_MO_far_8 ?_
    refine lv_tol (lN_sub (by omega)) ?_
    refine lv_goto (tgt := 15) hx hb d_MO_far_9 (by decide) ?_
    refine lv_tol (z := (lN (dd u0 v0))) (congrArg lN (by unfold dd; omega)) ?_
    exact W.lret hx hb hr (fun t ht hW => ⟨rfl, ht⟩) (fun q h => by cases h) d_MO_far_15
set_option maxHeartbeats 4000000 in
set_option maxRecDepth 100000 in
/-- edge(q, 0) -/
theorem c_MO_edge_0 (l : Launch) (D : va_G) (aM : Nat → Nat) (cI cZ cL : ClassId) (M : MS) (z : Int64) (q0 : Nat) (h1 : q0 < 3) (h2 : M.2.2.1 17 ≤ 16) (h3 : ∀ k, k < M.2.2.1 17 → M.1 24 k + wdM M q0 k < 2 ^ 60) : Met l y_MO_edge (wsA y_MO_edge b_MO_edge 8 (some .long)) ({ frames := 1, cells := 0, slots := 0, locals := 24 } : Room) (zR D [(cI, .int), (cZ, .boolean), (cL, .long)] [(aM 0, .inr (10, [.int (nI (M.2.2.1 0)), .long z, .ref (aM 2), .ref (aM 3), .ref (aM 4), .ref (aM 5), .ref (aM 6), .ref (aM 7), .ref (aM 8), .int (nI (M.2.2.1 9)), .ref (aM 10), .ref (aM 11), .ref (aM 12), .ref (aM 13), .ref (aM 14), .ref (aM 15), .ref (aM 16), .int (nI (M.2.2.1 17)), .ref (aM 18), .ref (aM 19), .int (nI (M.2.2.1 20)), .ref (aM 21), .ref (aM 22), .ref (aM 23), .ref (aM 24), .ref (aM 25), .ref (aM 26), .ref (aM 27), .ref (aM 28), .ref (aM 29), .ref (aM 30), .ref (aM 31)])), (aM 2, .inl (cI, 40, .inl M.2.2.2)), (aM 3, .inl (cI, 40, .inl (fun zk => nI ((M.1 3) zk)))), (aM 4, .inl (cZ, 40, .inl (fun zk => zb ((M.2.1 4) zk)))), (aM 5, .inl (cZ, 40, .inl (fun zk => zb ((M.2.1 5) zk)))), (aM 6, .inl (cL, 2560, .inr (.inl (fun zk => lN ((M.1 6) zk))))), (aM 7, .inl (cL, 2560, .inr (.inl (fun zk => lN ((M.1 7) zk))))), (aM 8, .inl (cI, 40, .inl (fun zk => nI ((M.1 8) zk)))), (aM 10, .inl (cI, 16, .inl (fun zk => nI ((M.1 10) zk)))), (aM 11, .inl (cL, 16, .inr (.inl (fun zk => lN ((M.1 11) zk))))), (aM 12, .inl (cL, 16, .inr (.inl (fun zk => lN ((M.1 12) zk))))), (aM 13, .inl (cZ, 16, .inl (fun zk => zb ((M.2.1 13) zk)))), (aM 14, .inl (cZ, 16, .inl (fun zk => zb ((M.2.1 14) zk)))), (aM 15, .inl (cL, 16, .inr (.inl (fun zk => lN ((M.1 15) zk))))), (aM 16, .inl (cL, 16, .inr (.inl (fun zk => lN ((M.1 16) zk))))), (aM 18, .inl (cI, 40, .inl (fun zk => nI ((M.1 18) zk)))), (aM 19, .inl (cI, 40, .inl (fun zk => nI ((M.1 19) zk)))), (aM 21, .inl (cI, 48, .inl (fun zk => nI ((M.1 21) zk)))), (aM 22, .inl (cI, 48, .inl (fun zk => nI ((M.1 22) zk)))), (aM 23, .inl (cZ, 48, .inl (fun zk => zb ((M.2.1 23) zk)))), (aM 24, .inl (cL, 16, .inr (.inl (fun zk => lN ((M.1 24) zk))))), (aM 25, .inl (cL, 16, .inr (.inl (fun zk => lN ((M.1 25) zk))))), (aM 26, .inl (cL, 4200, .inr (.inl (fun zk => lN ((M.1 26) zk))))), (aM 27, .inl (cL, 4200, .inr (.inl (fun zk => lN ((M.1 27) zk))))), (aM 28, .inl (cL, 32, .inr (.inl (fun zk => lN ((M.1 28) zk))))), (aM 29, .inl (cI, 8, .inl (fun zk => nI ((M.1 29) zk)))), (aM 30, .inl (cI, 8, .inl (fun zk => nI ((M.1 30) zk)))), (aM 31, .inl (cI, 8, .inl (fun zk => nI ((M.1 31) zk))))] [.ref (aM 0), .int (nI q0), .int (zb false)]) (k2_QcV (.long (lN (egX M q0 (M.2.2.1 17))))) 0 0 (fun _ => False) := by
  refine Met.ofW (cc := b_MO_edge) (maxL := 8) (ret := (some .long)) (by decide) rfl ?_
  intro p e s m args below meth c s₁ Bd hml hv
  obtain ⟨rfl, hP, hK⟩ := hv
  have hx := Bd.exec
  have hb := Bd.bytes
  have hr := Bd.returns
  have hts : ∀ w ∈ lw_g, w.before _ s = true := fun w h => atoms_spec (ws := wsA y_MO_edge b_MO_edge 8 (some .long)) Bd.pre w (List.mem_cons_of_mem _ h)
  have hown : s.vm.findClass R_MO = some m.cls := findClass_of_methodNamed Bd.named
  have hlocks := Bd.notSynchronized
  have hl := lv_entry ([.ref (aM 0), .int (nI q0), .int (zb false)]) (n := 8) (Nat.le_of_ble_eq_true rfl)
  rw [lg_entry_eq]
  generalize (lg_sl ([.ref (aM 0), .int (nI q0), .int (zb false)]) ++ List.replicate (8 - (lg_sl ([.ref (aM 0), .int (nI q0), .int (zb false)])).length) Slot.unset).toArray = ls at hl ⊢
  have hl : lv_has ls 8 [(0, .ref (aM 0)), (1, .int (nI q0)), (2, .int (zb false))] := hl
  have hP : va_P D classes [(aM 0, .inr (10, [.int (nI (M.2.2.1 0)), .long z, .ref (aM 2), .ref (aM 3), .ref (aM 4), .ref (aM 5), .ref (aM 6), .ref (aM 7), .ref (aM 8), .int (nI (M.2.2.1 9)), .ref (aM 10), .ref (aM 11), .ref (aM 12), .ref (aM 13), .ref (aM 14), .ref (aM 15), .ref (aM 16), .int (nI (M.2.2.1 17)), .ref (aM 18), .ref (aM 19), .int (nI (M.2.2.1 20)), .ref (aM 21), .ref (aM 22), .ref (aM 23), .ref (aM 24), .ref (aM 25), .ref (aM 26), .ref (aM 27), .ref (aM 28), .ref (aM 29), .ref (aM 30), .ref (aM 31)])), (aM 2, .inl (cI, 40, .inl M.2.2.2)), (aM 3, .inl (cI, 40, .inl (fun zk => nI ((M.1 3) zk)))), (aM 4, .inl (cZ, 40, .inl (fun zk => zb ((M.2.1 4) zk)))), (aM 5, .inl (cZ, 40, .inl (fun zk => zb ((M.2.1 5) zk)))), (aM 6, .inl (cL, 2560, .inr (.inl (fun zk => lN ((M.1 6) zk))))), (aM 7, .inl (cL, 2560, .inr (.inl (fun zk => lN ((M.1 7) zk))))), (aM 8, .inl (cI, 40, .inl (fun zk => nI ((M.1 8) zk)))), (aM 10, .inl (cI, 16, .inl (fun zk => nI ((M.1 10) zk)))), (aM 11, .inl (cL, 16, .inr (.inl (fun zk => lN ((M.1 11) zk))))), (aM 12, .inl (cL, 16, .inr (.inl (fun zk => lN ((M.1 12) zk))))), (aM 13, .inl (cZ, 16, .inl (fun zk => zb ((M.2.1 13) zk)))), (aM 14, .inl (cZ, 16, .inl (fun zk => zb ((M.2.1 14) zk)))), (aM 15, .inl (cL, 16, .inr (.inl (fun zk => lN ((M.1 15) zk))))), (aM 16, .inl (cL, 16, .inr (.inl (fun zk => lN ((M.1 16) zk))))), (aM 18, .inl (cI, 40, .inl (fun zk => nI ((M.1 18) zk)))), (aM 19, .inl (cI, 40, .inl (fun zk => nI ((M.1 19) zk)))), (aM 21, .inl (cI, 48, .inl (fun zk => nI ((M.1 21) zk)))), (aM 22, .inl (cI, 48, .inl (fun zk => nI ((M.1 22) zk)))), (aM 23, .inl (cZ, 48, .inl (fun zk => zb ((M.2.1 23) zk)))), (aM 24, .inl (cL, 16, .inr (.inl (fun zk => lN ((M.1 24) zk))))), (aM 25, .inl (cL, 16, .inr (.inl (fun zk => lN ((M.1 25) zk))))), (aM 26, .inl (cL, 4200, .inr (.inl (fun zk => lN ((M.1 26) zk))))), (aM 27, .inl (cL, 4200, .inr (.inl (fun zk => lN ((M.1 27) zk))))), (aM 28, .inl (cL, 32, .inr (.inl (fun zk => lN ((M.1 28) zk))))), (aM 29, .inl (cI, 8, .inl (fun zk => nI ((M.1 29) zk)))), (aM 30, .inl (cI, 8, .inl (fun zk => nI ((M.1 30) zk)))), (aM 31, .inl (cI, 8, .inl (fun zk => nI ((M.1 31) zk))))] s.heap := hP
  refine lv_lconst (v := lN 0) hx hb d_MO_edge_0 (by decide) ?_
  refine lv_lstore_n (lv' := [(3, .long (lN 0)), (0, .ref (aM 0)), (1, .int (nI q0)), (2, .int (zb false))]) hx hb d_MO_edge_1 rfl hl (by decide) rfl (fun ls hl => ?_)
  refine lv_iconst (v := nI 0) hx hb d_MO_edge_2 (by decide) ?_
  refine lv_istore (lv' := [(5, .int (nI 0)), (3, .long (lN 0)), (0, .ref (aM 0)), (1, .int (nI q0)), (2, .int (zb false))]) hx hb d_MO_edge_3 hl (by decide) rfl (fun ls hl => ?_)
  have lp : ∀ (fu : Nat), ∀ (k : Nat) (mx : Nat), (k ≤ M.2.2.1 17) → (mx = egX M q0 k) → (mx < 2 ^ 60) → (M.2.2.1 17 - k + 1) ≤ fu → ∀ (ls : Array Slot), lv_has ls 8 [(0, .ref (aM 0)), (1, .int (nI q0)), (2, .int (zb false)), (3, .long (lN mx)), (5, .int (nI k))] → W p l e (headSpec (wsA y_MO_edge b_MO_edge 8 (some .long)) ({ frames := 1, cells := 0, slots := 0, locals := 24 } : Room)).room s m ([.ref (aM 0), .int (nI q0), .int (zb false)] : List Value).toArray below meth c s.heap [] 0 0 (MQ below (k2_QcV (.long (lN (egX M q0 (M.2.2.1 17))))) ([.ref (aM 0), .int (nI q0), .int (zb false)] : List Value).toArray s 0 0 (fun _ => False)) (F0 m 5 ls []) := by
    intro fu
    induction fu with
    | zero =>
      intro k mx hk hk2 hmx hmu ls hl
      exact absurd hmu (by omega)
    | succ fu_lp ih_lp =>
      intro k mx hk hk2 hmx hmu_lp ls hl
      refine lv_iload hx hb d_MO_edge_5 (lv_at hl 4 rfl) ?_
      refine lv_aload_n hx hb d_MO_edge_7 rfl (lv_at hl 0 rfl) ?_
      refine va_get (D := D) (ci := 10) (v := .int (nI (M.2.2.1 17))) (C := R_MO) (T := F_MO) (N := 32) hx hb hts i_MO hown hK hP 0 rfl rfl 17 (by decide) (hts _ kf_MO_105) (fun _ h9 => h9) rfl d_MO_edge_8 ?_
      refine z_cge (tgt := 73) hx hb d_MO_edge_11 (by decide) (by omega) (by omega) (fun c_1 => ?_) (fun c_1 => ?_)
      · refine lv_lload_n hx hb d_MO_edge_73 rfl (lv_at hl 3 rfl) ?_
        refine lv_tol (z := (lN (egX M q0 (M.2.2.1 17)))) (by rw [show M.2.2.1 17 = k by omega, hk2]) ?_
        exact W.lret hx hb hr (fun t ht hW => ⟨rfl, ht⟩) (fun q h => by cases h) d_MO_edge_74
      · have g1 := h3 k (by omega)
        refine lv_iload_n hx hb d_MO_edge_14 rfl (lv_at hl 2 rfl) ?_
        refine z_zeq (tgt := 36) hx hb d_MO_edge_15 (by decide) (fun _ => ?_) (fun h => absurd h (by decide))
        refine lv_aload_n hx hb d_MO_edge_36 rfl (lv_at hl 0 rfl) ?_
        refine va_get (D := D) (ci := 10) (v := .ref (aM 24)) (C := R_MO) (T := F_MO) (N := 32) hx hb hts i_MO hown hK hP 0 rfl rfl 24 (by decide) (hts _ kf_MO_69) (fun _ h9 => h9) rfl d_MO_edge_37 ?_
        refine lv_iload hx hb d_MO_edge_40 (lv_at hl 4 rfl) ?_
        refine z_lld (j := k) hx hb hK hP 20 2 rfl rfl (by omega) (by decide) d_MO_edge_42 ?_
        refine lv_aload_n hx hb d_MO_edge_43 rfl (lv_at hl 0 rfl) ?_
        refine lv_iload_n hx hb d_MO_edge_44 rfl (lv_at hl 1 rfl) ?_
        refine lv_iload hx hb d_MO_edge_45 (lv_at hl 4 rfl) ?_
        refine zr_V (ci := 10) (q0 := 0) (As := [.int (nI q0), .int (nI k)]) (rest := [.long (lN ((M.1 24) k))]) (n := 2) ⟨hx, hb, hml, hown, hts⟩ (c_MO_wide l D aM cI cZ cL M z q0 k h1 (by omega)) ⟨km_MO_125, ki_MO_wide, ks_MO_wide, kn_MO, kd_MO_wide⟩ (by decide +kernel) (by decide) ⟨Nat.zero_le _, Nat.zero_le _⟩ hK hP [0, 1, 2, 3, 4, 5, 6, 7, 8, 9, 10, 11, 12, 13, 14, 15, 16, 17, 18, 19, 20, 21, 22, 23, 24, 25, 26, 27] rfl [0, 1, 2] rfl rfl rfl rfl hl.1 rfl (Nat.le_of_ble_eq_true rfl) d_MO_edge_47 ?_
        refine lv_ladd hx hb d_MO_edge_50 ?_
        refine lv_tol (lN_add ((M.1 24) k) (wdM M q0 k)) ?_
        refine lv_lstore (lv' := [(6, .long (lN (((M.1 24) k) + (wdM M q0 k)))), (0, .ref (aM 0)), (1, .int (nI q0)), (2, .int (zb false)), (3, .long (lN mx)), (5, .int (nI k))]) hx hb d_MO_edge_51 hl (by decide) rfl (fun ls hl => ?_)
        refine lv_lload hx hb d_MO_edge_53 (lv_at hl 0 rfl) ?_
        refine lv_lload_n hx hb d_MO_edge_55 rfl (lv_at hl 4 rfl) ?_
        refine z_lle (tgt := 65) hx hb d_MO_edge_56 d_MO_edge_57 (by decide) (by omega) (by omega) (fun c_2 => ?_) (fun c_2 => ?_)
        · refine lv_lload_n hx hb d_MO_edge_65 rfl (lv_at hl 4 rfl) ?_
          refine lv_lstore_n (lv' := [(3, .long (lN mx)), (6, .long (lN (((M.1 24) k) + (wdM M q0 k)))), (0, .ref (aM 0)), (1, .int (nI q0)), (2, .int (zb false)), (5, .int (nI k))]) hx hb d_MO_edge_66 rfl hl (by decide) rfl (fun ls hl => ?_)
          refine lv_iinc (v := nI (k + 1)) (lv' := [(5, .int (nI (k + 1))), (3, .long (lN mx)), (6, .long (lN (((M.1 24) k) + (wdM M q0 k)))), (0, .ref (aM 0)), (1, .int (nI q0)), (2, .int (zb false))]) hx hb d_MO_edge_67 hl (k := 5) rfl (nI_1 _) (by decide) rfl (fun ls hl => ?_)
          refine lv_goto (tgt := 5) hx hb d_MO_edge_70 (by decide) ?_
          exact ih_lp (k + 1) mx (by omega) (by rw [egX, ← hk2]; omega) hmx (by omega) ls (lv_sub hl [3, 4, 5, 1, 0] rfl)
        · refine lv_lload hx hb d_MO_edge_60 (lv_at hl 0 rfl) ?_
          refine lv_goto (tgt := 66) hx hb d_MO_edge_62 (by decide) ?_
          refine lv_lstore_n (lv' := [(3, .long (lN (((M.1 24) k) + (wdM M q0 k)))), (6, .long (lN (((M.1 24) k) + (wdM M q0 k)))), (0, .ref (aM 0)), (1, .int (nI q0)), (2, .int (zb false)), (5, .int (nI k))]) hx hb d_MO_edge_66 rfl hl (by decide) rfl (fun ls hl => ?_)
          refine lv_iinc (v := nI (k + 1)) (lv' := [(5, .int (nI (k + 1))), (3, .long (lN (((M.1 24) k) + (wdM M q0 k)))), (6, .long (lN (((M.1 24) k) + (wdM M q0 k)))), (0, .ref (aM 0)), (1, .int (nI q0)), (2, .int (zb false))]) hx hb d_MO_edge_67 hl (k := 5) rfl (nI_1 _) (by decide) rfl (fun ls hl => ?_)
          refine lv_goto (tgt := 5) hx hb d_MO_edge_70 (by decide) ?_
          exact ih_lp (k + 1) (M.1 24 k + wdM M q0 k) (by omega) (by rw [egX, ← hk2]; omega) (by omega) (by omega) ls (lv_sub hl [3, 4, 5, 1, 0] rfl)
  exact lp _ 0 0 (Nat.zero_le _) rfl (by decide) (Nat.le_refl _) ls (lv_sub hl [2, 3, 4, 1, 0] rfl)
set_option maxHeartbeats 4000000 in
set_option maxRecDepth 100000 in
/-- edge(q, 1) -/
theorem c_MO_edge_1 (l : Launch) (D : va_G) (aM : Nat → Nat) (cI cZ cL : ClassId) (M : MS) (z : Int64) (q0 : Nat) (h1 : q0 < 3) (h2 : M.2.2.1 17 ≤ 16) (h3 : ∀ k, k < M.2.2.1 17 → M.1 25 k + hgM M q0 k < 2 ^ 60) : Met l y_MO_edge (wsA y_MO_edge b_MO_edge 8 (some .long)) ({ frames := 1, cells := 0, slots := 0, locals := 24 } : Room) (zR D [(cI, .int), (cZ, .boolean), (cL, .long)] [(aM 0, .inr (10, [.int (nI (M.2.2.1 0)), .long z, .ref (aM 2), .ref (aM 3), .ref (aM 4), .ref (aM 5), .ref (aM 6), .ref (aM 7), .ref (aM 8), .int (nI (M.2.2.1 9)), .ref (aM 10), .ref (aM 11), .ref (aM 12), .ref (aM 13), .ref (aM 14), .ref (aM 15), .ref (aM 16), .int (nI (M.2.2.1 17)), .ref (aM 18), .ref (aM 19), .int (nI (M.2.2.1 20)), .ref (aM 21), .ref (aM 22), .ref (aM 23), .ref (aM 24), .ref (aM 25), .ref (aM 26), .ref (aM 27), .ref (aM 28), .ref (aM 29), .ref (aM 30), .ref (aM 31)])), (aM 2, .inl (cI, 40, .inl M.2.2.2)), (aM 3, .inl (cI, 40, .inl (fun zk => nI ((M.1 3) zk)))), (aM 4, .inl (cZ, 40, .inl (fun zk => zb ((M.2.1 4) zk)))), (aM 5, .inl (cZ, 40, .inl (fun zk => zb ((M.2.1 5) zk)))), (aM 6, .inl (cL, 2560, .inr (.inl (fun zk => lN ((M.1 6) zk))))), (aM 7, .inl (cL, 2560, .inr (.inl (fun zk => lN ((M.1 7) zk))))), (aM 8, .inl (cI, 40, .inl (fun zk => nI ((M.1 8) zk)))), (aM 10, .inl (cI, 16, .inl (fun zk => nI ((M.1 10) zk)))), (aM 11, .inl (cL, 16, .inr (.inl (fun zk => lN ((M.1 11) zk))))), (aM 12, .inl (cL, 16, .inr (.inl (fun zk => lN ((M.1 12) zk))))), (aM 13, .inl (cZ, 16, .inl (fun zk => zb ((M.2.1 13) zk)))), (aM 14, .inl (cZ, 16, .inl (fun zk => zb ((M.2.1 14) zk)))), (aM 15, .inl (cL, 16, .inr (.inl (fun zk => lN ((M.1 15) zk))))), (aM 16, .inl (cL, 16, .inr (.inl (fun zk => lN ((M.1 16) zk))))), (aM 18, .inl (cI, 40, .inl (fun zk => nI ((M.1 18) zk)))), (aM 19, .inl (cI, 40, .inl (fun zk => nI ((M.1 19) zk)))), (aM 21, .inl (cI, 48, .inl (fun zk => nI ((M.1 21) zk)))), (aM 22, .inl (cI, 48, .inl (fun zk => nI ((M.1 22) zk)))), (aM 23, .inl (cZ, 48, .inl (fun zk => zb ((M.2.1 23) zk)))), (aM 24, .inl (cL, 16, .inr (.inl (fun zk => lN ((M.1 24) zk))))), (aM 25, .inl (cL, 16, .inr (.inl (fun zk => lN ((M.1 25) zk))))), (aM 26, .inl (cL, 4200, .inr (.inl (fun zk => lN ((M.1 26) zk))))), (aM 27, .inl (cL, 4200, .inr (.inl (fun zk => lN ((M.1 27) zk))))), (aM 28, .inl (cL, 32, .inr (.inl (fun zk => lN ((M.1 28) zk))))), (aM 29, .inl (cI, 8, .inl (fun zk => nI ((M.1 29) zk)))), (aM 30, .inl (cI, 8, .inl (fun zk => nI ((M.1 30) zk)))), (aM 31, .inl (cI, 8, .inl (fun zk => nI ((M.1 31) zk))))] [.ref (aM 0), .int (nI q0), .int (zb true)]) (k2_QcV (.long (lN (egY M q0 (M.2.2.1 17))))) 0 0 (fun _ => False) := by
  refine Met.ofW (cc := b_MO_edge) (maxL := 8) (ret := (some .long)) (by decide) rfl ?_
  intro p e s m args below meth c s₁ Bd hml hv
  obtain ⟨rfl, hP, hK⟩ := hv
  have hx := Bd.exec
  have hb := Bd.bytes
  have hr := Bd.returns
  have hts : ∀ w ∈ lw_g, w.before _ s = true := fun w h => atoms_spec (ws := wsA y_MO_edge b_MO_edge 8 (some .long)) Bd.pre w (List.mem_cons_of_mem _ h)
  have hown : s.vm.findClass R_MO = some m.cls := findClass_of_methodNamed Bd.named
  have hlocks := Bd.notSynchronized
  have hl := lv_entry ([.ref (aM 0), .int (nI q0), .int (zb true)]) (n := 8) (Nat.le_of_ble_eq_true rfl)
  rw [lg_entry_eq]
  generalize (lg_sl ([.ref (aM 0), .int (nI q0), .int (zb true)]) ++ List.replicate (8 - (lg_sl ([.ref (aM 0), .int (nI q0), .int (zb true)])).length) Slot.unset).toArray = ls at hl ⊢
  have hl : lv_has ls 8 [(0, .ref (aM 0)), (1, .int (nI q0)), (2, .int (zb true))] := hl
  have hP : va_P D classes [(aM 0, .inr (10, [.int (nI (M.2.2.1 0)), .long z, .ref (aM 2), .ref (aM 3), .ref (aM 4), .ref (aM 5), .ref (aM 6), .ref (aM 7), .ref (aM 8), .int (nI (M.2.2.1 9)), .ref (aM 10), .ref (aM 11), .ref (aM 12), .ref (aM 13), .ref (aM 14), .ref (aM 15), .ref (aM 16), .int (nI (M.2.2.1 17)), .ref (aM 18), .ref (aM 19), .int (nI (M.2.2.1 20)), .ref (aM 21), .ref (aM 22), .ref (aM 23), .ref (aM 24), .ref (aM 25), .ref (aM 26), .ref (aM 27), .ref (aM 28), .ref (aM 29), .ref (aM 30), .ref (aM 31)])), (aM 2, .inl (cI, 40, .inl M.2.2.2)), (aM 3, .inl (cI, 40, .inl (fun zk => nI ((M.1 3) zk)))), (aM 4, .inl (cZ, 40, .inl (fun zk => zb ((M.2.1 4) zk)))), (aM 5, .inl (cZ, 40, .inl (fun zk => zb ((M.2.1 5) zk)))), (aM 6, .inl (cL, 2560, .inr (.inl (fun zk => lN ((M.1 6) zk))))), (aM 7, .inl (cL, 2560, .inr (.inl (fun zk => lN ((M.1 7) zk))))), (aM 8, .inl (cI, 40, .inl (fun zk => nI ((M.1 8) zk)))), (aM 10, .inl (cI, 16, .inl (fun zk => nI ((M.1 10) zk)))), (aM 11, .inl (cL, 16, .inr (.inl (fun zk => lN ((M.1 11) zk))))), (aM 12, .inl (cL, 16, .inr (.inl (fun zk => lN ((M.1 12) zk))))), (aM 13, .inl (cZ, 16, .inl (fun zk => zb ((M.2.1 13) zk)))), (aM 14, .inl (cZ, 16, .inl (fun zk => zb ((M.2.1 14) zk)))), (aM 15, .inl (cL, 16, .inr (.inl (fun zk => lN ((M.1 15) zk))))), (aM 16, .inl (cL, 16, .inr (.inl (fun zk => lN ((M.1 16) zk))))), (aM 18, .inl (cI, 40, .inl (fun zk => nI ((M.1 18) zk)))), (aM 19, .inl (cI, 40, .inl (fun zk => nI ((M.1 19) zk)))), (aM 21, .inl (cI, 48, .inl (fun zk => nI ((M.1 21) zk)))), (aM 22, .inl (cI, 48, .inl (fun zk => nI ((M.1 22) zk)))), (aM 23, .inl (cZ, 48, .inl (fun zk => zb ((M.2.1 23) zk)))), (aM 24, .inl (cL, 16, .inr (.inl (fun zk => lN ((M.1 24) zk))))), (aM 25, .inl (cL, 16, .inr (.inl (fun zk => lN ((M.1 25) zk))))), (aM 26, .inl (cL, 4200, .inr (.inl (fun zk => lN ((M.1 26) zk))))), (aM 27, .inl (cL, 4200, .inr (.inl (fun zk => lN ((M.1 27) zk))))), (aM 28, .inl (cL, 32, .inr (.inl (fun zk => lN ((M.1 28) zk))))), (aM 29, .inl (cI, 8, .inl (fun zk => nI ((M.1 29) zk)))), (aM 30, .inl (cI, 8, .inl (fun zk => nI ((M.1 30) zk)))), (aM 31, .inl (cI, 8, .inl (fun zk => nI ((M.1 31) zk))))] s.heap := hP
  refine lv_lconst (v := lN 0) hx hb d_MO_edge_0 (by decide) ?_
  refine lv_lstore_n (lv' := [(3, .long (lN 0)), (0, .ref (aM 0)), (1, .int (nI q0)), (2, .int (zb true))]) hx hb d_MO_edge_1 rfl hl (by decide) rfl (fun ls hl => ?_)
  refine lv_iconst (v := nI 0) hx hb d_MO_edge_2 (by decide) ?_
  refine lv_istore (lv' := [(5, .int (nI 0)), (3, .long (lN 0)), (0, .ref (aM 0)), (1, .int (nI q0)), (2, .int (zb true))]) hx hb d_MO_edge_3 hl (by decide) rfl (fun ls hl => ?_)
  have lp : ∀ (fu : Nat), ∀ (k : Nat) (mx : Nat), (k ≤ M.2.2.1 17) → (mx = egY M q0 k) → (mx < 2 ^ 60) → (M.2.2.1 17 - k + 1) ≤ fu → ∀ (ls : Array Slot), lv_has ls 8 [(0, .ref (aM 0)), (1, .int (nI q0)), (2, .int (zb true)), (3, .long (lN mx)), (5, .int (nI k))] → W p l e (headSpec (wsA y_MO_edge b_MO_edge 8 (some .long)) ({ frames := 1, cells := 0, slots := 0, locals := 24 } : Room)).room s m ([.ref (aM 0), .int (nI q0), .int (zb true)] : List Value).toArray below meth c s.heap [] 0 0 (MQ below (k2_QcV (.long (lN (egY M q0 (M.2.2.1 17))))) ([.ref (aM 0), .int (nI q0), .int (zb true)] : List Value).toArray s 0 0 (fun _ => False)) (F0 m 5 ls []) := by
    intro fu
    induction fu with
    | zero =>
      intro k mx hk hk2 hmx hmu ls hl
      exact absurd hmu (by omega)
    | succ fu_lp ih_lp =>
      intro k mx hk hk2 hmx hmu_lp ls hl
      refine lv_iload hx hb d_MO_edge_5 (lv_at hl 4 rfl) ?_
      refine lv_aload_n hx hb d_MO_edge_7 rfl (lv_at hl 0 rfl) ?_
      refine va_get (D := D) (ci := 10) (v := .int (nI (M.2.2.1 17))) (C := R_MO) (T := F_MO) (N := 32) hx hb hts i_MO hown hK hP 0 rfl rfl 17 (by decide) (hts _ kf_MO_105) (fun _ h9 => h9) rfl d_MO_edge_8 ?_
      refine z_cge (tgt := 73) hx hb d_MO_edge_11 (by decide) (by omega) (by omega) (fun c_1 => ?_) (fun c_1 => ?_)
      · refine lv_lload_n hx hb d_MO_edge_73 rfl (lv_at hl 3 rfl) ?_
        refine lv_tol (z := (lN (egY M q0 (M.2.2.1 17)))) (by rw [show M.2.2.1 17 = k by omega, hk2]) ?_
        exact W.lret hx hb hr (fun t ht hW => ⟨rfl, ht⟩) (fun q h => by cases h) d_MO_edge_74
      · have g1 := h3 k (by omega)
        refine lv_iload_n hx hb d_MO_edge_14 rfl (lv_at hl 2 rfl) ?_
        refine z_zeq (tgt := 36) hx hb d_MO_edge_15 (by decide) (fun h => absurd h (by decide)) (fun _ => ?_)
        refine lv_aload_n hx hb d_MO_edge_18 rfl (lv_at hl 0 rfl) ?_
        refine va_get (D := D) (ci := 10) (v := .ref (aM 25)) (C := R_MO) (T := F_MO) (N := 32) hx hb hts i_MO hown hK hP 0 rfl rfl 25 (by decide) (hts _ kf_MO_72) (fun _ h9 => h9) rfl d_MO_edge_19 ?_
        refine lv_iload hx hb d_MO_edge_22 (lv_at hl 4 rfl) ?_
        refine z_lld (j := k) hx hb hK hP 21 2 rfl rfl (by omega) (by decide) d_MO_edge_24 ?_
        refine lv_aload_n hx hb d_MO_edge_25 rfl (lv_at hl 0 rfl) ?_
        refine lv_iload_n hx hb d_MO_edge_26 rfl (lv_at hl 1 rfl) ?_
        refine lv_iload hx hb d_MO_edge_27 (lv_at hl 4 rfl) ?_
        refine zr_V (ci := 10) (q0 := 0) (As := [.int (nI q0), .int (nI k)]) (rest := [.long (lN ((M.1 25) k))]) (n := 2) ⟨hx, hb, hml, hown, hts⟩ (c_MO_high l D aM cI cZ cL M z q0 k h1 (by omega)) ⟨km_MO_129, ki_MO_high, ks_MO_high, kn_MO, kd_MO_high⟩ (by decide +kernel) (by decide) ⟨Nat.zero_le _, Nat.zero_le _⟩ hK hP [0, 1, 2, 3, 4, 5, 6, 7, 8, 9, 10, 11, 12, 13, 14, 15, 16, 17, 18, 19, 20, 21, 22, 23, 24, 25, 26, 27] rfl [0, 1, 2] rfl rfl rfl rfl hl.1 rfl (Nat.le_of_ble_eq_true rfl) d_MO_edge_29 ?_
        refine lv_ladd hx hb d_MO_edge_32 ?_
        refine lv_tol (lN_add ((M.1 25) k) (hgM M q0 k)) ?_
        refine lv_goto (tgt := 51) hx hb d_MO_edge_33 (by decide) ?_
        refine lv_lstore (lv' := [(6, .long (lN (((M.1 25) k) + (hgM M q0 k)))), (0, .ref (aM 0)), (1, .int (nI q0)), (2, .int (zb true)), (3, .long (lN mx)), (5, .int (nI k))]) hx hb d_MO_edge_51 hl (by decide) rfl (fun ls hl => ?_)
        refine lv_lload hx hb d_MO_edge_53 (lv_at hl 0 rfl) ?_
        refine lv_lload_n hx hb d_MO_edge_55 rfl (lv_at hl 4 rfl) ?_
        refine z_lle (tgt := 65) hx hb d_MO_edge_56 d_MO_edge_57 (by decide) (by omega) (by omega) (fun c_2 => ?_) (fun c_2 => ?_)
        · refine lv_lload_n hx hb d_MO_edge_65 rfl (lv_at hl 4 rfl) ?_
          refine lv_lstore_n (lv' := [(3, .long (lN mx)), (6, .long (lN (((M.1 25) k) + (hgM M q0 k)))), (0, .ref (aM 0)), (1, .int (nI q0)), (2, .int (zb true)), (5, .int (nI k))]) hx hb d_MO_edge_66 rfl hl (by decide) rfl (fun ls hl => ?_)
          refine lv_iinc (v := nI (k + 1)) (lv' := [(5, .int (nI (k + 1))), (3, .long (lN mx)), (6, .long (lN (((M.1 25) k) + (hgM M q0 k)))), (0, .ref (aM 0)), (1, .int (nI q0)), (2, .int (zb true))]) hx hb d_MO_edge_67 hl (k := 5) rfl (nI_1 _) (by decide) rfl (fun ls hl => ?_)
          refine lv_goto (tgt := 5) hx hb d_MO_edge_70 (by decide) ?_
          exact ih_lp (k + 1) mx (by omega) (by rw [egY, ← hk2]; omega) hmx (by omega) ls (lv_sub hl [3, 4, 5, 1, 0] rfl)
        · refine lv_lload hx hb d_MO_edge_60 (lv_at hl 0 rfl) ?_
          refine lv_goto (tgt := 66) hx hb d_MO_edge_62 (by decide) ?_
          refine lv_lstore_n (lv' := [(3, .long (lN (((M.1 25) k) + (hgM M q0 k)))), (6, .long (lN (((M.1 25) k) + (hgM M q0 k)))), (0, .ref (aM 0)), (1, .int (nI q0)), (2, .int (zb true)), (5, .int (nI k))]) hx hb d_MO_edge_66 rfl hl (by decide) rfl (fun ls hl => ?_)
          refine lv_iinc (v := nI (k + 1)) (lv' := [(5, .int (nI (k + 1))), (3, .long (lN (((M.1 25) k) + (hgM M q0 k)))), (6, .long (lN (((M.1 25) k) + (hgM M q0 k)))), (0, .ref (aM 0)), (1, .int (nI q0)), (2, .int (zb true))]) hx hb d_MO_edge_67 hl (k := 5) rfl (nI_1 _) (by decide) rfl (fun ls hl => ?_)
          refine lv_goto (tgt := 5) hx hb d_MO_edge_70 (by decide) ?_
          exact ih_lp (k + 1) (M.1 25 k + hgM M q0 k) (by omega) (by rw [egY, ← hk2]; omega) (by omega) (by omega) ls (lv_sub hl [3, 4, 5, 1, 0] rfl)
  exact lp _ 0 0 (Nat.zero_le _) rfl (by decide) (Nat.le_refl _) ls (lv_sub hl [2, 3, 4, 1, 0] rfl)
set_option maxHeartbeats 4000000 in
set_option maxRecDepth 100000 in
/-- area(q) -/
theorem c_MO_area (l : Launch) (D : va_G) (aM : Nat → Nat) (cI cZ cL : ClassId) (M : MS) (z : Int64) (q0 : Nat) (h1 : q0 < 3) (h2 : M.2.2.1 17 ≤ 16) (h3 : ∀ k, k < M.2.2.1 17 → M.1 24 k + wdM M q0 k < 2 ^ 60) (h4 : ∀ k, k < M.2.2.1 17 → M.1 25 k + hgM M q0 k < 2 ^ 60) : Met l y_MO_area (wsA y_MO_area b_MO_area 2 (some .long)) ({ frames := 2, cells := 0, slots := 0, locals := 60 } : Room) (zR D [(cI, .int), (cZ, .boolean), (cL, .long)] [(aM 0, .inr (10, [.int (nI (M.2.2.1 0)), .long z, .ref (aM 2), .ref (aM 3), .ref (aM 4), .ref (aM 5), .ref (aM 6), .ref (aM 7), .ref (aM 8), .int (nI (M.2.2.1 9)), .ref (aM 10), .ref (aM 11), .ref (aM 12), .ref (aM 13), .ref (aM 14), .ref (aM 15), .ref (aM 16), .int (nI (M.2.2.1 17)), .ref (aM 18), .ref (aM 19), .int (nI (M.2.2.1 20)), .ref (aM 21), .ref (aM 22), .ref (aM 23), .ref (aM 24), .ref (aM 25), .ref (aM 26), .ref (aM 27), .ref (aM 28), .ref (aM 29), .ref (aM 30), .ref (aM 31)])), (aM 2, .inl (cI, 40, .inl M.2.2.2)), (aM 3, .inl (cI, 40, .inl (fun zk => nI ((M.1 3) zk)))), (aM 4, .inl (cZ, 40, .inl (fun zk => zb ((M.2.1 4) zk)))), (aM 5, .inl (cZ, 40, .inl (fun zk => zb ((M.2.1 5) zk)))), (aM 6, .inl (cL, 2560, .inr (.inl (fun zk => lN ((M.1 6) zk))))), (aM 7, .inl (cL, 2560, .inr (.inl (fun zk => lN ((M.1 7) zk))))), (aM 8, .inl (cI, 40, .inl (fun zk => nI ((M.1 8) zk)))), (aM 10, .inl (cI, 16, .inl (fun zk => nI ((M.1 10) zk)))), (aM 11, .inl (cL, 16, .inr (.inl (fun zk => lN ((M.1 11) zk))))), (aM 12, .inl (cL, 16, .inr (.inl (fun zk => lN ((M.1 12) zk))))), (aM 13, .inl (cZ, 16, .inl (fun zk => zb ((M.2.1 13) zk)))), (aM 14, .inl (cZ, 16, .inl (fun zk => zb ((M.2.1 14) zk)))), (aM 15, .inl (cL, 16, .inr (.inl (fun zk => lN ((M.1 15) zk))))), (aM 16, .inl (cL, 16, .inr (.inl (fun zk => lN ((M.1 16) zk))))), (aM 18, .inl (cI, 40, .inl (fun zk => nI ((M.1 18) zk)))), (aM 19, .inl (cI, 40, .inl (fun zk => nI ((M.1 19) zk)))), (aM 21, .inl (cI, 48, .inl (fun zk => nI ((M.1 21) zk)))), (aM 22, .inl (cI, 48, .inl (fun zk => nI ((M.1 22) zk)))), (aM 23, .inl (cZ, 48, .inl (fun zk => zb ((M.2.1 23) zk)))), (aM 24, .inl (cL, 16, .inr (.inl (fun zk => lN ((M.1 24) zk))))), (aM 25, .inl (cL, 16, .inr (.inl (fun zk => lN ((M.1 25) zk))))), (aM 26, .inl (cL, 4200, .inr (.inl (fun zk => lN ((M.1 26) zk))))), (aM 27, .inl (cL, 4200, .inr (.inl (fun zk => lN ((M.1 27) zk))))), (aM 28, .inl (cL, 32, .inr (.inl (fun zk => lN ((M.1 28) zk))))), (aM 29, .inl (cI, 8, .inl (fun zk => nI ((M.1 29) zk)))), (aM 30, .inl (cI, 8, .inl (fun zk => nI ((M.1 30) zk)))), (aM 31, .inl (cI, 8, .inl (fun zk => nI ((M.1 31) zk))))] [.ref (aM 0), .int (nI q0)]) (k2_QcV (.long (lN (egX M q0 (M.2.2.1 17) * egY M q0 (M.2.2.1 17))))) 0 0 (fun _ => False) := by
  refine Met.ofW (cc := b_MO_area) (maxL := 2) (ret := (some .long)) (by decide) rfl ?_
  intro p e s m args below meth c s₁ Bd hml hv
  obtain ⟨rfl, hP, hK⟩ := hv
  have hx := Bd.exec
  have hb := Bd.bytes
  have hr := Bd.returns
  have hts : ∀ w ∈ lw_g, w.before _ s = true := fun w h => atoms_spec (ws := wsA y_MO_area b_MO_area 2 (some .long)) Bd.pre w (List.mem_cons_of_mem _ h)
  have hown : s.vm.findClass R_MO = some m.cls := findClass_of_methodNamed Bd.named
  have hlocks := Bd.notSynchronized
  have hl := lv_entry ([.ref (aM 0), .int (nI q0)]) (n := 2) (Nat.le_of_ble_eq_true rfl)
  rw [lg_entry_eq]
  generalize (lg_sl ([.ref (aM 0), .int (nI q0)]) ++ List.replicate (2 - (lg_sl ([.ref (aM 0), .int (nI q0)])).length) Slot.unset).toArray = ls at hl ⊢
  have hl : lv_has ls 2 [(0, .ref (aM 0)), (1, .int (nI q0))] := hl
  have hP : va_P D classes [(aM 0, .inr (10, [.int (nI (M.2.2.1 0)), .long z, .ref (aM 2), .ref (aM 3), .ref (aM 4), .ref (aM 5), .ref (aM 6), .ref (aM 7), .ref (aM 8), .int (nI (M.2.2.1 9)), .ref (aM 10), .ref (aM 11), .ref (aM 12), .ref (aM 13), .ref (aM 14), .ref (aM 15), .ref (aM 16), .int (nI (M.2.2.1 17)), .ref (aM 18), .ref (aM 19), .int (nI (M.2.2.1 20)), .ref (aM 21), .ref (aM 22), .ref (aM 23), .ref (aM 24), .ref (aM 25), .ref (aM 26), .ref (aM 27), .ref (aM 28), .ref (aM 29), .ref (aM 30), .ref (aM 31)])), (aM 2, .inl (cI, 40, .inl M.2.2.2)), (aM 3, .inl (cI, 40, .inl (fun zk => nI ((M.1 3) zk)))), (aM 4, .inl (cZ, 40, .inl (fun zk => zb ((M.2.1 4) zk)))), (aM 5, .inl (cZ, 40, .inl (fun zk => zb ((M.2.1 5) zk)))), (aM 6, .inl (cL, 2560, .inr (.inl (fun zk => lN ((M.1 6) zk))))), (aM 7, .inl (cL, 2560, .inr (.inl (fun zk => lN ((M.1 7) zk))))), (aM 8, .inl (cI, 40, .inl (fun zk => nI ((M.1 8) zk)))), (aM 10, .inl (cI, 16, .inl (fun zk => nI ((M.1 10) zk)))), (aM 11, .inl (cL, 16, .inr (.inl (fun zk => lN ((M.1 11) zk))))), (aM 12, .inl (cL, 16, .inr (.inl (fun zk => lN ((M.1 12) zk))))), (aM 13, .inl (cZ, 16, .inl (fun zk => zb ((M.2.1 13) zk)))), (aM 14, .inl (cZ, 16, .inl (fun zk => zb ((M.2.1 14) zk)))), (aM 15, .inl (cL, 16, .inr (.inl (fun zk => lN ((M.1 15) zk))))), (aM 16, .inl (cL, 16, .inr (.inl (fun zk => lN ((M.1 16) zk))))), (aM 18, .inl (cI, 40, .inl (fun zk => nI ((M.1 18) zk)))), (aM 19, .inl (cI, 40, .inl (fun zk => nI ((M.1 19) zk)))), (aM 21, .inl (cI, 48, .inl (fun zk => nI ((M.1 21) zk)))), (aM 22, .inl (cI, 48, .inl (fun zk => nI ((M.1 22) zk)))), (aM 23, .inl (cZ, 48, .inl (fun zk => zb ((M.2.1 23) zk)))), (aM 24, .inl (cL, 16, .inr (.inl (fun zk => lN ((M.1 24) zk))))), (aM 25, .inl (cL, 16, .inr (.inl (fun zk => lN ((M.1 25) zk))))), (aM 26, .inl (cL, 4200, .inr (.inl (fun zk => lN ((M.1 26) zk))))), (aM 27, .inl (cL, 4200, .inr (.inl (fun zk => lN ((M.1 27) zk))))), (aM 28, .inl (cL, 32, .inr (.inl (fun zk => lN ((M.1 28) zk))))), (aM 29, .inl (cI, 8, .inl (fun zk => nI ((M.1 29) zk)))), (aM 30, .inl (cI, 8, .inl (fun zk => nI ((M.1 30) zk)))), (aM 31, .inl (cI, 8, .inl (fun zk => nI ((M.1 31) zk))))] s.heap := hP
  refine lv_aload_n hx hb d_MO_area_0 rfl (lv_at hl 0 rfl) ?_
  refine lv_iload_n hx hb d_MO_area_1 rfl (lv_at hl 1 rfl) ?_
  refine lv_iconst (v := zb false) hx hb d_MO_area_2 (by decide) ?_
  refine zr_V (ci := 10) (q0 := 0) (As := [.int (nI q0), .int (zb false)]) (rest := []) (n := 2) ⟨hx, hb, hml, hown, hts⟩ (c_MO_edge_0 l D aM cI cZ cL M z q0 h1 h2 h3) ⟨km_MO_132, ki_MO_edge, ks_MO_edge, kn_MO, kd_MO_edge⟩ (by decide +kernel) (by decide) ⟨Nat.zero_le _, Nat.zero_le _⟩ hK hP [0, 1, 2, 3, 4, 5, 6, 7, 8, 9, 10, 11, 12, 13, 14, 15, 16, 17, 18, 19, 20, 21, 22, 23, 24, 25, 26, 27] rfl [0, 1, 2] rfl rfl rfl rfl hl.1 rfl (Nat.le_of_ble_eq_true rfl) d_MO_area_3 ?_
  refine lv_aload_n hx hb d_MO_area_6 rfl (lv_at hl 0 rfl) ?_
  refine lv_iload_n hx hb d_MO_area_7 rfl (lv_at hl 1 rfl) ?_
  refine lv_iconst (v := zb true) hx hb d_MO_area_8 (by decide) ?_
  refine zr_V (ci := 10) (q0 := 0) (As := [.int (nI q0), .int (zb true)]) (rest := [.long (lN (egX M q0 (M.2.2.1 17)))]) (n := 2) ⟨hx, hb, hml, hown, hts⟩ (c_MO_edge_1 l D aM cI cZ cL M z q0 h1 h2 h4) ⟨km_MO_132, ki_MO_edge, ks_MO_edge, kn_MO, kd_MO_edge⟩ (by decide +kernel) (by decide) ⟨Nat.zero_le _, Nat.zero_le _⟩ hK hP [0, 1, 2, 3, 4, 5, 6, 7, 8, 9, 10, 11, 12, 13, 14, 15, 16, 17, 18, 19, 20, 21, 22, 23, 24, 25, 26, 27] rfl [0, 1, 2] rfl rfl rfl rfl hl.1 rfl (Nat.le_of_ble_eq_true rfl) d_MO_area_9 ?_
  refine lv_lmul hx hb d_MO_area_12 ?_
  refine lv_tol (lN_mul (egX M q0 (M.2.2.1 17)) (egY M q0 (M.2.2.1 17))) ?_
  exact W.lret hx hb hr (fun t ht hW => ⟨rfl, ht⟩) (fun q h => by cases h) d_MO_area_13
