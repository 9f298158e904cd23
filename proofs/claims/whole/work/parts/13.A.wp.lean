theorem dA_isKind_0 : decode mA_isKind.2.1 0 = .ok (.iload_n 0, 1) := by decide +kernel
theorem dA_isKind_1 : decode mA_isKind.2.1 1 = .ok (.ifCond .lt 13, 3) := by decide +kernel
theorem dA_isKind_4 : decode mA_isKind.2.1 4 = .ok (.iload_n 0, 1) := by decide +kernel
theorem dA_isKind_5 : decode mA_isKind.2.1 5 = .ok (.bipush 8, 2) := by decide +kernel
theorem dA_isKind_7 : decode mA_isKind.2.1 7 = .ok (.if_icmp .ge 7, 3) := by decide +kernel
theorem dA_isKind_10 : decode mA_isKind.2.1 10 = .ok (.iconst 1, 1) := by decide +kernel
theorem dA_isKind_11 : decode mA_isKind.2.1 11 = .ok (.goto 4, 3) := by decide +kernel
theorem dA_isKind_14 : decode mA_isKind.2.1 14 = .ok (.iconst 0, 1) := by decide +kernel
theorem dA_isKind_15 : decode mA_isKind.2.1 15 = .ok (.ireturn, 1) := by decide +kernel
/- A_isKind: (I)Z -/
set_option maxRecDepth 4000 in
theorem wA_isKind {X : Cx} (a0 : Int) (sw : Bool) (m : Mem) (Q : Int → Bool → Mem → Prop) (h : ((w32 a0 < 0 → Q 0 sw m) ∧ (¬ (w32 a0 < 0) → ((8 ≤ w32 a0 → Q 0 sw m) ∧ (¬ (8 ≤ w32 a0) → Q 1 sw m))))) : M2 X 1 mA_isKind [vi a0] sw m Q := by
  refine Mt.of pA_isKind (Nat.le_of_ble_eq_true rfl) (Nat.le_refl _) ?_
  show R2 X 1 mA_isKind 0 [(0, vi a0)] [] sw m Q
  refine r_iload_n 0 0 rfl dA_isKind_0 rfl ?_
  refine r_if_lt (tgt := 14) dA_isKind_1 (by decide) (fun hc => ?_) (fun hc => ?_)
  · replace h := h.1 hc
    refine r_iconst dA_isKind_14 ?_
    exact q_bret rfl (Or.inl rfl) h dA_isKind_15
  · replace h := h.2 hc
    refine r_iload_n 0 0 rfl dA_isKind_4 rfl ?_
    refine r_bipush (by decide) dA_isKind_5 ?_
    refine r_ifc_ge (tgt := 14) dA_isKind_7 (by decide) (fun hc => ?_) (fun hc => ?_)
    · replace h := h.1 hc
      refine r_iconst dA_isKind_14 ?_
      exact q_bret rfl (Or.inl rfl) h dA_isKind_15
    · replace h := h.2 hc
      refine r_iconst dA_isKind_10 ?_
      refine r_goto (tgt := 15) dA_isKind_11 (by decide) ?_
      exact q_bret rfl (Or.inr rfl) h dA_isKind_15
theorem dA_isUnder_0 : decode mA_isUnder.2.1 0 = .ok (.iload_n 0, 1) := by decide +kernel
theorem dA_isUnder_1 : decode mA_isUnder.2.1 1 = .ok (.istore_n 2, 1) := by decide +kernel
theorem dA_isUnder_2 : decode mA_isUnder.2.1 2 = .ok (.iconst 0, 1) := by decide +kernel
theorem dA_isUnder_3 : decode mA_isUnder.2.1 3 = .ok (.istore_n 3, 1) := by decide +kernel
theorem dA_isUnder_4 : decode mA_isUnder.2.1 4 = .ok (.iload_n 3, 1) := by decide +kernel
theorem dA_isUnder_5 : decode mA_isUnder.2.1 5 = .ok (.bipush 8, 2) := by decide +kernel
theorem dA_isUnder_7 : decode mA_isUnder.2.1 7 = .ok (.if_icmp .ge 27, 3) := by decide +kernel
theorem dA_isUnder_10 : decode mA_isUnder.2.1 10 = .ok (.iload_n 2, 1) := by decide +kernel
theorem dA_isUnder_11 : decode mA_isUnder.2.1 11 = .ok (.invokestatic 18, 3) := by decide +kernel
theorem dA_isUnder_14 : decode mA_isUnder.2.1 14 = .ok (.ifCond .eq 20, 3) := by decide +kernel
theorem dA_isUnder_17 : decode mA_isUnder.2.1 17 = .ok (.iload_n 2, 1) := by decide +kernel
theorem dA_isUnder_18 : decode mA_isUnder.2.1 18 = .ok (.iload_n 1, 1) := by decide +kernel
theorem dA_isUnder_19 : decode mA_isUnder.2.1 19 = .ok (.if_icmp .eq 15, 3) := by decide +kernel
theorem dA_isUnder_22 : decode mA_isUnder.2.1 22 = .ok (.getstatic 22, 3) := by decide +kernel
theorem dA_isUnder_25 : decode mA_isUnder.2.1 25 = .ok (.iload_n 2, 1) := by decide +kernel
theorem dA_isUnder_26 : decode mA_isUnder.2.1 26 = .ok (.iaload, 1) := by decide +kernel
theorem dA_isUnder_27 : decode mA_isUnder.2.1 27 = .ok (.istore_n 2, 1) := by decide +kernel
theorem dA_isUnder_28 : decode mA_isUnder.2.1 28 = .ok (.iinc 3 1, 3) := by decide +kernel
theorem dA_isUnder_31 : decode mA_isUnder.2.1 31 = .ok (.goto (-27), 3) := by decide +kernel
theorem dA_isUnder_34 : decode mA_isUnder.2.1 34 = .ok (.iload_n 2, 1) := by decide +kernel
theorem dA_isUnder_35 : decode mA_isUnder.2.1 35 = .ok (.iload_n 1, 1) := by decide +kernel
theorem dA_isUnder_36 : decode mA_isUnder.2.1 36 = .ok (.if_icmp .ne 7, 3) := by decide +kernel
theorem dA_isUnder_39 : decode mA_isUnder.2.1 39 = .ok (.iconst 1, 1) := by decide +kernel
theorem dA_isUnder_40 : decode mA_isUnder.2.1 40 = .ok (.goto 4, 3) := by decide +kernel
theorem dA_isUnder_43 : decode mA_isUnder.2.1 43 = .ok (.iconst 0, 1) := by decide +kernel
theorem dA_isUnder_44 : decode mA_isUnder.2.1 44 = .ok (.ireturn, 1) := by decide +kernel
/- A_isUnder: (II)Z -/
set_option maxRecDepth 4000 in
theorem wA_isUnder {X : Cx} (a0 a1 : Int) (sw : Bool) (m : Mem) (Q : Int → Bool → Mem → Prop) (h : R2 X 2 mA_isUnder 4 [(1, vi a1), (2, vi a0), (3, vi 0)] [] sw m Q) : M2 X 2 mA_isUnder [vi a0, vi a1] sw m Q := by
  refine Mt.of pA_isUnder (Nat.le_of_ble_eq_true rfl) (Nat.le_refl _) ?_
  show R2 X 2 mA_isUnder 0 [(0, vi a0), (1, vi a1)] [] sw m Q
  refine r_iload_n 0 0 rfl dA_isUnder_0 rfl ?_
  refine r_istore_n 2 (by decide) dA_isUnder_1 rfl ?_
  refine r_iconst dA_isUnder_2 ?_
  refine r_istore_n 3 (by decide) dA_isUnder_3 rfl ?_
  refine r_sub [3, 1, 0] ?_ h
  rfl
set_option maxRecDepth 4000 in
theorem wA_isUnder_4 {X : Cx} (x1 x2 x3 : Int) (sw : Bool) (m : Mem) (Q : Int → Bool → Mem → Prop) (h : ((8 ≤ w32 x3 → ((¬ w32 x2 = w32 x1 → Q 0 sw m) ∧ (¬ (¬ w32 x2 = w32 x1) → Q 1 sw m))) ∧ (¬ (8 ≤ w32 x3) → M2 X 1 mA_isKind [vi x2] sw m (fun z1 sw1 m1 => ((w32 z1 = 0 → ((¬ w32 x2 = w32 x1 → Q 0 sw1 m1) ∧ (¬ (¬ w32 x2 = w32 x1) → Q 1 sw1 m1))) ∧ (¬ (w32 z1 = 0) → ((w32 x2 = w32 x1 → ((¬ w32 x2 = w32 x1 → Q 0 sw1 m1) ∧ (¬ (¬ w32 x2 = w32 x1) → Q 1 sw1 m1))) ∧ (¬ (w32 x2 = w32 x1) → ((0 ≤ w32 x2 ∧ w32 x2 < 8) ∧ R2 X 2 mA_isUnder 4 [(1, vi x1), (2, vi (ext5.getD (w32 x2).toNat 0)), (3, vi (x3 + 1))] [] sw1 m1 Q))))))))) : R2 X 2 mA_isUnder 4 [(1, vi x1), (2, vi x2), (3, vi x3)] [] sw m Q := by
  refine r_iload_n 3 2 rfl dA_isUnder_4 rfl ?_
  refine r_bipush (by decide) dA_isUnder_5 ?_
  refine r_ifc_ge (tgt := 34) dA_isUnder_7 (by decide) (fun hc => ?_) (fun hc => ?_)
  · replace h := h.1 hc
    refine r_iload_n 2 1 rfl dA_isUnder_34 rfl ?_
    refine r_iload_n 1 0 rfl dA_isUnder_35 rfl ?_
    refine r_ifc_ne (tgt := 43) dA_isUnder_36 (by decide) (fun hc => ?_) (fun hc => ?_)
    · replace h := h.1 hc
      refine r_iconst dA_isUnder_43 ?_
      exact q_bret rfl (Or.inl rfl) h dA_isUnder_44
    · replace h := h.2 hc
      refine r_iconst dA_isUnder_39 ?_
      refine r_goto (tgt := 44) dA_isUnder_40 (by decide) ?_
      exact q_bret rfl (Or.inr rfl) h dA_isUnder_44
  · replace h := h.2 hc
    refine r_iload_n 2 1 rfl dA_isUnder_10 rfl ?_
    refine r_callSb [_] rfl oA_isKind iA_isKind yA_18 (by decide) ⟨Nat.le_refl _, Nat.le_refl _⟩ rfl (Nat.le_of_ble_eq_true rfl) dA_isUnder_11 h (fun z1 r1 m1 h => ?_)
    obtain ⟨sw1, rfl, h⟩ := h
    refine r_if_eq (tgt := 34) dA_isUnder_14 (by decide) (fun hc => ?_) (fun hc => ?_)
    · replace h := h.1 hc
      refine r_iload_n 2 1 rfl dA_isUnder_34 rfl ?_
      refine r_iload_n 1 0 rfl dA_isUnder_35 rfl ?_
      refine r_ifc_ne (tgt := 43) dA_isUnder_36 (by decide) (fun hc => ?_) (fun hc => ?_)
      · replace h := h.1 hc
        refine r_iconst dA_isUnder_43 ?_
        exact q_bret rfl (Or.inl rfl) h dA_isUnder_44
      · replace h := h.2 hc
        refine r_iconst dA_isUnder_39 ?_
        refine r_goto (tgt := 44) dA_isUnder_40 (by decide) ?_
        exact q_bret rfl (Or.inr rfl) h dA_isUnder_44
    · replace h := h.2 hc
      refine r_iload_n 2 1 rfl dA_isUnder_17 rfl ?_
      refine r_iload_n 1 0 rfl dA_isUnder_18 rfl ?_
      refine r_ifc_eq (tgt := 34) dA_isUnder_19 (by decide) (fun hc => ?_) (fun hc => ?_)
      · replace h := h.1 hc
        refine r_iload_n 2 1 rfl dA_isUnder_34 rfl ?_
        refine r_iload_n 1 0 rfl dA_isUnder_35 rfl ?_
        refine r_ifc_ne (tgt := 43) dA_isUnder_36 (by decide) (fun hc => ?_) (fun hc => ?_)
        · replace h := h.1 hc
          refine r_iconst dA_isUnder_43 ?_
          exact q_bret rfl (Or.inl rfl) h dA_isUnder_44
        · replace h := h.2 hc
          refine r_iconst dA_isUnder_39 ?_
          refine r_goto (tgt := 44) dA_isUnder_40 (by decide) ?_
          exact q_bret rfl (Or.inr rfl) h dA_isUnder_44
      · replace h := h.2 hc
        refine r_gets (e := 5) rfl vA_22 dA_isUnder_22 ?_
        refine r_iload_n 2 1 rfl dA_isUnder_25 rfl ?_
        refine q_xiload (e := 5) (w32 x2) rfl rfl h.1 dA_isUnder_26 ?_
        replace h := h.2
        refine r_istore_n 2 (by decide) dA_isUnder_27 rfl ?_
        refine r_iinc 3 2 rfl (by decide) dA_isUnder_28 ?_
        refine r_goto (tgt := 4) dA_isUnder_31 (by decide) ?_
        refine r_sub [2, 1, 0] ?_ h
        rfl
theorem dA_add_0 : decode mA_add.2.1 0 = .ok (.iload_n 1, 1) := by decide +kernel
theorem dA_add_1 : decode mA_add.2.1 1 = .ok (.invokestatic 18, 3) := by decide +kernel
theorem dA_add_4 : decode mA_add.2.1 4 = .ok (.ifCond .ne 5, 3) := by decide +kernel
theorem dA_add_7 : decode mA_add.2.1 7 = .ok (.iconst (-1), 1) := by decide +kernel
theorem dA_add_8 : decode mA_add.2.1 8 = .ok (.ireturn, 1) := by decide +kernel
theorem dA_add_9 : decode mA_add.2.1 9 = .ok (.aload_n 0, 1) := by decide +kernel
theorem dA_add_10 : decode mA_add.2.1 10 = .ok (.getfield 25, 3) := by decide +kernel
theorem dA_add_13 : decode mA_add.2.1 13 = .ok (.bipush 50, 2) := by decide +kernel
theorem dA_add_15 : decode mA_add.2.1 15 = .ok (.if_icmp .lt 6, 3) := by decide +kernel
theorem dA_add_18 : decode mA_add.2.1 18 = .ok (.bipush (-3), 2) := by decide +kernel
theorem dA_add_20 : decode mA_add.2.1 20 = .ok (.ireturn, 1) := by decide +kernel
theorem dA_add_21 : decode mA_add.2.1 21 = .ok (.aload_n 0, 1) := by decide +kernel
theorem dA_add_22 : decode mA_add.2.1 22 = .ok (.getfield 11, 3) := by decide +kernel
theorem dA_add_25 : decode mA_add.2.1 25 = .ok (.aload_n 0, 1) := by decide +kernel
theorem dA_add_26 : decode mA_add.2.1 26 = .ok (.getfield 25, 3) := by decide +kernel
theorem dA_add_29 : decode mA_add.2.1 29 = .ok (.iload_n 1, 1) := by decide +kernel
theorem dA_add_30 : decode mA_add.2.1 30 = .ok (.iastore, 1) := by decide +kernel
theorem dA_add_31 : decode mA_add.2.1 31 = .ok (.aload_n 0, 1) := by decide +kernel
theorem dA_add_32 : decode mA_add.2.1 32 = .ok (.dup, 1) := by decide +kernel
theorem dA_add_33 : decode mA_add.2.1 33 = .ok (.getfield 25, 3) := by decide +kernel
theorem dA_add_36 : decode mA_add.2.1 36 = .ok (.iconst 1, 1) := by decide +kernel
theorem dA_add_37 : decode mA_add.2.1 37 = .ok (.iadd, 1) := by decide +kernel
theorem dA_add_38 : decode mA_add.2.1 38 = .ok (.putfield 25, 3) := by decide +kernel
theorem dA_add_41 : decode mA_add.2.1 41 = .ok (.aload_n 0, 1) := by decide +kernel
theorem dA_add_42 : decode mA_add.2.1 42 = .ok (.getfield 25, 3) := by decide +kernel
theorem dA_add_45 : decode mA_add.2.1 45 = .ok (.iconst 1, 1) := by decide +kernel
theorem dA_add_46 : decode mA_add.2.1 46 = .ok (.isub, 1) := by decide +kernel
theorem dA_add_47 : decode mA_add.2.1 47 = .ok (.ireturn, 1) := by decide +kernel
/- A_add: (I)I -/
set_option maxRecDepth 4000 in
theorem wA_add {X : Cx} (a1 : Int) (sw : Bool) (m : Mem) (Q : Int → Bool → Mem → Prop) (h : M2 X 1 mA_isKind [vi a1] sw m (fun z1 sw1 m1 => ((¬ w32 z1 = 0 → ((w32 (m1 69 2) < 50 → ((0 ≤ w32 (m1 69 2) ∧ w32 (m1 69 2) < 50) ∧ Q (((m1 69 2) + 1) - 1) sw1 (upm (upm m1 70 (w32 (m1 69 2)) a1) 69 2 ((m1 69 2) + 1)))) ∧ (¬ (w32 (m1 69 2) < 50) → Q (-3) sw1 m1))) ∧ (¬ (¬ w32 z1 = 0) → Q (-1) sw1 m1)))) : M2 X 2 mA_add [vr 69, vi a1] sw m Q := by
  refine Mt.of pA_add (Nat.le_of_ble_eq_true rfl) (Nat.le_refl _) ?_
  show R2 X 2 mA_add 0 [(0, vr 69), (1, vi a1)] [] sw m Q
  refine r_iload_n 1 1 rfl dA_add_0 rfl ?_
  refine r_callSb [_] rfl oA_isKind iA_isKind yA_18 (by decide) ⟨Nat.le_refl _, Nat.le_refl _⟩ rfl (Nat.le_of_ble_eq_true rfl) dA_add_1 h (fun z1 r1 m1 h => ?_)
  obtain ⟨sw1, rfl, h⟩ := h
  refine r_if_ne (tgt := 9) dA_add_4 (by decide) (fun hc => ?_) (fun hc => ?_)
  · replace h := h.1 hc
    refine r_aload_n 0 0 rfl dA_add_9 rfl ?_
    refine q_getI 2 c69 fA_25 rfl rfl dA_add_10 ?_
    refine r_bipush (by decide) dA_add_13 ?_
    refine r_ifc_lt (tgt := 21) dA_add_15 (by decide) (fun hc => ?_) (fun hc => ?_)
    · replace h := h.1 hc
      refine r_aload_n 0 0 rfl dA_add_21 rfl ?_
      refine q_getR 0 c69 fA_11 rfl rfl (g69_0 sw1) (by decide) dA_add_22 ?_
      refine r_aload_n 0 0 rfl dA_add_25 rfl ?_
      refine q_getI 2 c69 fA_25 rfl rfl dA_add_26 ?_
      refine r_iload_n 1 1 rfl dA_add_29 rfl ?_
      refine q_iastore (w32 (m1 69 2)) rfl c70 h.1 dA_add_30 ?_
      replace h := h.2
      refine r_aload_n 0 0 rfl dA_add_31 rfl ?_
      refine r_dup (fun q => by cases q) dA_add_32 ?_
      refine q_getI 2 c69 fA_25 rfl rfl dA_add_33 ?_
      refine r_iconst dA_add_36 ?_
      refine r_iadd dA_add_37 ?_
      refine q_putI 2 c69 pfA_25 rfl rfl dA_add_38 ?_
      refine r_aload_n 0 0 rfl dA_add_41 rfl ?_
      refine q_getI 2 c69 fA_25 rfl rfl dA_add_42 ?_
      refine r_iconst dA_add_45 ?_
      refine r_isub dA_add_46 ?_
      exact q_iret rfl h dA_add_47
    · replace h := h.2 hc
      refine r_bipush (by decide) dA_add_18 ?_
      exact q_iret rfl h dA_add_20
  · replace h := h.2 hc
    refine r_iconst dA_add_7 ?_
    exact q_iret rfl h dA_add_8
theorem dA_has_0 : decode mA_has.2.1 0 = .ok (.iload_n 1, 1) := by decide +kernel
theorem dA_has_1 : decode mA_has.2.1 1 = .ok (.ifCond .lt 15, 3) := by decide +kernel
theorem dA_has_4 : decode mA_has.2.1 4 = .ok (.iload_n 1, 1) := by decide +kernel
theorem dA_has_5 : decode mA_has.2.1 5 = .ok (.aload_n 0, 1) := by decide +kernel
theorem dA_has_6 : decode mA_has.2.1 6 = .ok (.getfield 25, 3) := by decide +kernel
theorem dA_has_9 : decode mA_has.2.1 9 = .ok (.if_icmp .ge 7, 3) := by decide +kernel
theorem dA_has_12 : decode mA_has.2.1 12 = .ok (.iconst 1, 1) := by decide +kernel
theorem dA_has_13 : decode mA_has.2.1 13 = .ok (.goto 4, 3) := by decide +kernel
theorem dA_has_16 : decode mA_has.2.1 16 = .ok (.iconst 0, 1) := by decide +kernel
theorem dA_has_17 : decode mA_has.2.1 17 = .ok (.ireturn, 1) := by decide +kernel
/- A_has: (I)Z -/
set_option maxRecDepth 4000 in
theorem wA_has {X : Cx} (a1 : Int) (sw : Bool) (m : Mem) (Q : Int → Bool → Mem → Prop) (h : ((w32 a1 < 0 → Q 0 sw m) ∧ (¬ (w32 a1 < 0) → ((w32 (m 69 2) ≤ w32 a1 → Q 0 sw m) ∧ (¬ (w32 (m 69 2) ≤ w32 a1) → Q 1 sw m))))) : M2 X 1 mA_has [vr 69, vi a1] sw m Q := by
  refine Mt.of pA_has (Nat.le_of_ble_eq_true rfl) (Nat.le_refl _) ?_
  show R2 X 1 mA_has 0 [(0, vr 69), (1, vi a1)] [] sw m Q
  refine r_iload_n 1 1 rfl dA_has_0 rfl ?_
  refine r_if_lt (tgt := 16) dA_has_1 (by decide) (fun hc => ?_) (fun hc => ?_)
  · replace h := h.1 hc
    refine r_iconst dA_has_16 ?_
    exact q_bret rfl (Or.inl rfl) h dA_has_17
  · replace h := h.2 hc
    refine r_iload_n 1 1 rfl dA_has_4 rfl ?_
    refine r_aload_n 0 0 rfl dA_has_5 rfl ?_
    refine q_getI 2 c69 fA_25 rfl rfl dA_has_6 ?_
    refine r_ifc_ge (tgt := 16) dA_has_9 (by decide) (fun hc => ?_) (fun hc => ?_)
    · replace h := h.1 hc
      refine r_iconst dA_has_16 ?_
      exact q_bret rfl (Or.inl rfl) h dA_has_17
    · replace h := h.2 hc
      refine r_iconst dA_has_12 ?_
      refine r_goto (tgt := 17) dA_has_13 (by decide) ?_
      exact q_bret rfl (Or.inr rfl) h dA_has_17
theorem dA_kindOf_0 : decode mA_kindOf.2.1 0 = .ok (.aload_n 0, 1) := by decide +kernel
theorem dA_kindOf_1 : decode mA_kindOf.2.1 1 = .ok (.iload_n 1, 1) := by decide +kernel
theorem dA_kindOf_2 : decode mA_kindOf.2.1 2 = .ok (.invokevirtual 29, 3) := by decide +kernel
theorem dA_kindOf_5 : decode mA_kindOf.2.1 5 = .ok (.ifCond .eq 12, 3) := by decide +kernel
theorem dA_kindOf_8 : decode mA_kindOf.2.1 8 = .ok (.aload_n 0, 1) := by decide +kernel
theorem dA_kindOf_9 : decode mA_kindOf.2.1 9 = .ok (.getfield 11, 3) := by decide +kernel
theorem dA_kindOf_12 : decode mA_kindOf.2.1 12 = .ok (.iload_n 1, 1) := by decide +kernel
theorem dA_kindOf_13 : decode mA_kindOf.2.1 13 = .ok (.iaload, 1) := by decide +kernel
theorem dA_kindOf_14 : decode mA_kindOf.2.1 14 = .ok (.goto 4, 3) := by decide +kernel
theorem dA_kindOf_17 : decode mA_kindOf.2.1 17 = .ok (.iconst (-1), 1) := by decide +kernel
theorem dA_kindOf_18 : decode mA_kindOf.2.1 18 = .ok (.ireturn, 1) := by decide +kernel
/- A_kindOf: (I)I -/
set_option maxRecDepth 4000 in
theorem wA_kindOf {X : Cx} (a1 : Int) (sw : Bool) (m : Mem) (Q : Int → Bool → Mem → Prop) (h : M2 X 1 mA_has [vr 69, vi a1] sw m (fun z1 sw1 m1 => ((w32 z1 = 0 → Q (-1) sw1 m1) ∧ (¬ (w32 z1 = 0) → ((0 ≤ w32 a1 ∧ w32 a1 < 50) ∧ Q (m1 70 (w32 a1)) sw1 m1))))) : M2 X 2 mA_kindOf [vr 69, vi a1] sw m Q := by
  refine Mt.of pA_kindOf (Nat.le_of_ble_eq_true rfl) (Nat.le_refl _) ?_
  show R2 X 2 mA_kindOf 0 [(0, vr 69), (1, vi a1)] [] sw m Q
  refine r_aload_n 0 0 rfl dA_kindOf_0 rfl ?_
  refine r_iload_n 1 1 rfl dA_kindOf_1 rfl ?_
  refine r_callVb 10 [_] rfl c69 rfl rfl oA_has iA_has sA_has yA_29 (by decide) ⟨Nat.le_refl _, Nat.le_refl _⟩ rfl (Nat.le_of_ble_eq_true rfl) dA_kindOf_2 h (fun z1 r1 m1 h => ?_)
  obtain ⟨sw1, rfl, h⟩ := h
  refine r_if_eq (tgt := 17) dA_kindOf_5 (by decide) (fun hc => ?_) (fun hc => ?_)
  · replace h := h.1 hc
    refine r_iconst dA_kindOf_17 ?_
    exact q_iret rfl h dA_kindOf_18
  · replace h := h.2 hc
    refine r_aload_n 0 0 rfl dA_kindOf_8 rfl ?_
    refine q_getR 0 c69 fA_11 rfl rfl (g69_0 sw1) (by decide) dA_kindOf_9 ?_
    refine r_iload_n 1 1 rfl dA_kindOf_12 rfl ?_
    refine q_iaload (w32 a1) rfl c70 h.1 dA_kindOf_13 ?_
    replace h := h.2
    refine r_goto (tgt := 18) dA_kindOf_14 (by decide) ?_
    exact q_iret rfl h dA_kindOf_18
theorem dA_perform_0 : decode mA_perform.2.1 0 = .ok (.aload_n 0, 1) := by decide +kernel
theorem dA_perform_1 : decode mA_perform.2.1 1 = .ok (.iconst 0, 1) := by decide +kernel
theorem dA_perform_2 : decode mA_perform.2.1 2 = .ok (.putfield 32, 3) := by decide +kernel
theorem dA_perform_5 : decode mA_perform.2.1 5 = .ok (.aload_n 0, 1) := by decide +kernel
theorem dA_perform_6 : decode mA_perform.2.1 6 = .ok (.iload_n 1, 1) := by decide +kernel
theorem dA_perform_7 : decode mA_perform.2.1 7 = .ok (.invokevirtual 29, 3) := by decide +kernel
theorem dA_perform_10 : decode mA_perform.2.1 10 = .ok (.ifCond .eq 12, 3) := by decide +kernel
theorem dA_perform_13 : decode mA_perform.2.1 13 = .ok (.iload_n 2, 1) := by decide +kernel
theorem dA_perform_14 : decode mA_perform.2.1 14 = .ok (.ifCond .lt 8, 3) := by decide +kernel
theorem dA_perform_17 : decode mA_perform.2.1 17 = .ok (.iload_n 2, 1) := by decide +kernel
theorem dA_perform_18 : decode mA_perform.2.1 18 = .ok (.iconst 4, 1) := by decide +kernel
theorem dA_perform_19 : decode mA_perform.2.1 19 = .ok (.if_icmp .lt 5, 3) := by decide +kernel
theorem dA_perform_22 : decode mA_perform.2.1 22 = .ok (.iconst 0, 1) := by decide +kernel
theorem dA_perform_23 : decode mA_perform.2.1 23 = .ok (.ireturn, 1) := by decide +kernel
theorem dA_perform_24 : decode mA_perform.2.1 24 = .ok (.aload_n 0, 1) := by decide +kernel
theorem dA_perform_25 : decode mA_perform.2.1 25 = .ok (.iload_n 1, 1) := by decide +kernel
theorem dA_perform_26 : decode mA_perform.2.1 26 = .ok (.putfield 35, 3) := by decide +kernel
theorem dA_perform_29 : decode mA_perform.2.1 29 = .ok (.aload_n 0, 1) := by decide +kernel
theorem dA_perform_30 : decode mA_perform.2.1 30 = .ok (.aload_n 0, 1) := by decide +kernel
theorem dA_perform_31 : decode mA_perform.2.1 31 = .ok (.getfield 11, 3) := by decide +kernel
theorem dA_perform_34 : decode mA_perform.2.1 34 = .ok (.iload_n 1, 1) := by decide +kernel
theorem dA_perform_35 : decode mA_perform.2.1 35 = .ok (.iaload, 1) := by decide +kernel
theorem dA_perform_36 : decode mA_perform.2.1 36 = .ok (.putfield 38, 3) := by decide +kernel
theorem dA_perform_39 : decode mA_perform.2.1 39 = .ok (.aload_n 0, 1) := by decide +kernel
theorem dA_perform_40 : decode mA_perform.2.1 40 = .ok (.iload_n 2, 1) := by decide +kernel
theorem dA_perform_41 : decode mA_perform.2.1 41 = .ok (.aload_n 0, 1) := by decide +kernel
theorem dA_perform_42 : decode mA_perform.2.1 42 = .ok (.getfield 38, 3) := by decide +kernel
theorem dA_perform_45 : decode mA_perform.2.1 45 = .ok (.iload_n 3, 1) := by decide +kernel
theorem dA_perform_46 : decode mA_perform.2.1 46 = .ok (.iconst 0, 1) := by decide +kernel
theorem dA_perform_47 : decode mA_perform.2.1 47 = .ok (.invokestatic 41, 3) := by decide +kernel
theorem dA_perform_50 : decode mA_perform.2.1 50 = .ok (.ireturn, 1) := by decide +kernel
/- A_perform: (III)I -/
set_option maxRecDepth 4000 in
theorem wA_perform {X : Cx} (a1 a2 a3 : Int) (sw : Bool) (m : Mem) (Q : Int → Bool → Mem → Prop) (h : M2 X 1 mA_has [vr 69, vi a1] sw (upm m 69 3 0) (fun z1 sw1 m1 => ((w32 z1 = 0 → Q 0 sw1 m1) ∧ (¬ (w32 z1 = 0) → ((w32 a2 < 0 → Q 0 sw1 m1) ∧ (¬ (w32 a2 < 0) → ((w32 a2 < 4 → ((0 ≤ w32 a1 ∧ w32 a1 < 50) ∧ M2 X 60 mA_run [vr 69, vi a2, vi (m1 70 (w32 a1)), vi a3, vi 0] sw1 (upm (upm m1 69 4 a1) 69 5 (m1 70 (w32 a1))) (fun z2 sw2 m2 => Q z2 sw2 m2))) ∧ (¬ (w32 a2 < 4) → Q 0 sw1 m1)))))))) : M2 X 61 mA_perform [vr 69, vi a1, vi a2, vi a3] sw m Q := by
  refine Mt.of pA_perform (Nat.le_of_ble_eq_true rfl) (Nat.le_refl _) ?_
  show R2 X 61 mA_perform 0 [(0, vr 69), (1, vi a1), (2, vi a2), (3, vi a3)] [] sw m Q
  refine r_aload_n 0 0 rfl dA_perform_0 rfl ?_
  refine r_iconst dA_perform_1 ?_
  refine q_putI 3 c69 pfA_32 rfl rfl dA_perform_2 ?_
  refine r_aload_n 0 0 rfl dA_perform_5 rfl ?_
  refine r_iload_n 1 1 rfl dA_perform_6 rfl ?_
  refine r_callVb 10 [_] rfl c69 rfl rfl oA_has iA_has sA_has yA_29 (by decide) ⟨Nat.le_refl _, Nat.le_refl _⟩ rfl (Nat.le_of_ble_eq_true rfl) dA_perform_7 h (fun z1 r1 m1 h => ?_)
  obtain ⟨sw1, rfl, h⟩ := h
  refine r_if_eq (tgt := 22) dA_perform_10 (by decide) (fun hc => ?_) (fun hc => ?_)
  · replace h := h.1 hc
    refine r_iconst dA_perform_22 ?_
    exact q_iret rfl h dA_perform_23
  · replace h := h.2 hc
    refine r_iload_n 2 2 rfl dA_perform_13 rfl ?_
    refine r_if_lt (tgt := 22) dA_perform_14 (by decide) (fun hc => ?_) (fun hc => ?_)
    · replace h := h.1 hc
      refine r_iconst dA_perform_22 ?_
      exact q_iret rfl h dA_perform_23
    · replace h := h.2 hc
      refine r_iload_n 2 2 rfl dA_perform_17 rfl ?_
      refine r_iconst dA_perform_18 ?_
      refine r_ifc_lt (tgt := 24) dA_perform_19 (by decide) (fun hc => ?_) (fun hc => ?_)
      · replace h := h.1 hc
        refine r_aload_n 0 0 rfl dA_perform_24 rfl ?_
        refine r_iload_n 1 1 rfl dA_perform_25 rfl ?_
        refine q_putI 4 c69 pfA_35 rfl rfl dA_perform_26 ?_
        refine r_aload_n 0 0 rfl dA_perform_29 rfl ?_
        refine r_aload_n 0 0 rfl dA_perform_30 rfl ?_
        refine q_getR 0 c69 fA_11 rfl rfl (g69_0 sw1) (by decide) dA_perform_31 ?_
        refine r_iload_n 1 1 rfl dA_perform_34 rfl ?_
        refine q_iaload (w32 a1) rfl c70 h.1 dA_perform_35 ?_
        replace h := h.2
        refine q_putI 5 c69 pfA_38 rfl rfl dA_perform_36 ?_
        refine r_aload_n 0 0 rfl dA_perform_39 rfl ?_
        refine r_iload_n 2 2 rfl dA_perform_40 rfl ?_
        refine r_aload_n 0 0 rfl dA_perform_41 rfl ?_
        refine q_getI 5 c69 fA_38 rfl rfl dA_perform_42 ?_
        refine r_iload_n 3 3 rfl dA_perform_45 rfl ?_
        refine r_iconst dA_perform_46 ?_
        refine r_callSi [_, _, _, _, _] rfl oA_run iA_run yA_41 (by decide) ⟨Nat.le_refl _, Nat.le_refl _⟩ rfl (Nat.le_of_ble_eq_true rfl) dA_perform_47 h (fun z2 r2 m2 h => ?_)
        obtain ⟨sw2, rfl, h⟩ := h
        exact q_iret rfl h dA_perform_50
      · replace h := h.2 hc
        refine r_iconst dA_perform_22 ?_
        exact q_iret rfl h dA_perform_23
theorem dA_ranAt_0 : decode mA_ranAt.2.1 0 = .ok (.iload_n 1, 1) := by decide +kernel
theorem dA_ranAt_1 : decode mA_ranAt.2.1 1 = .ok (.ifCond .lt 17, 3) := by decide +kernel
theorem dA_ranAt_4 : decode mA_ranAt.2.1 4 = .ok (.iload_n 1, 1) := by decide +kernel
theorem dA_ranAt_5 : decode mA_ranAt.2.1 5 = .ok (.aload_n 0, 1) := by decide +kernel
theorem dA_ranAt_6 : decode mA_ranAt.2.1 6 = .ok (.getfield 32, 3) := by decide +kernel
theorem dA_ranAt_9 : decode mA_ranAt.2.1 9 = .ok (.if_icmp .ge 9, 3) := by decide +kernel
theorem dA_ranAt_12 : decode mA_ranAt.2.1 12 = .ok (.iload_n 1, 1) := by decide +kernel
theorem dA_ranAt_13 : decode mA_ranAt.2.1 13 = .ok (.bipush 24, 2) := by decide +kernel
theorem dA_ranAt_15 : decode mA_ranAt.2.1 15 = .ok (.if_icmp .lt 7, 3) := by decide +kernel
theorem dA_ranAt_18 : decode mA_ranAt.2.1 18 = .ok (.iconst (-1), 1) := by decide +kernel
theorem dA_ranAt_19 : decode mA_ranAt.2.1 19 = .ok (.goto 9, 3) := by decide +kernel
theorem dA_ranAt_22 : decode mA_ranAt.2.1 22 = .ok (.aload_n 0, 1) := by decide +kernel
theorem dA_ranAt_23 : decode mA_ranAt.2.1 23 = .ok (.getfield 15, 3) := by decide +kernel
theorem dA_ranAt_26 : decode mA_ranAt.2.1 26 = .ok (.iload_n 1, 1) := by decide +kernel
theorem dA_ranAt_27 : decode mA_ranAt.2.1 27 = .ok (.iaload, 1) := by decide +kernel
theorem dA_ranAt_28 : decode mA_ranAt.2.1 28 = .ok (.ireturn, 1) := by decide +kernel
/- A_ranAt: (I)I -/
set_option maxRecDepth 4000 in
theorem wA_ranAt {X : Cx} (a1 : Int) (sw : Bool) (m : Mem) (Q : Int → Bool → Mem → Prop) (h : ((w32 a1 < 0 → Q (-1) sw m) ∧ (¬ (w32 a1 < 0) → ((w32 (m 69 3) ≤ w32 a1 → Q (-1) sw m) ∧ (¬ (w32 (m 69 3) ≤ w32 a1) → ((w32 a1 < 24 → ((0 ≤ w32 a1 ∧ w32 a1 < 24) ∧ Q (m 71 (w32 a1)) sw m)) ∧ (¬ (w32 a1 < 24) → Q (-1) sw m))))))) : M2 X 1 mA_ranAt [vr 69, vi a1] sw m Q := by
  refine Mt.of pA_ranAt (Nat.le_of_ble_eq_true rfl) (Nat.le_refl _) ?_
  show R2 X 1 mA_ranAt 0 [(0, vr 69), (1, vi a1)] [] sw m Q
  refine r_iload_n 1 1 rfl dA_ranAt_0 rfl ?_
  refine r_if_lt (tgt := 18) dA_ranAt_1 (by decide) (fun hc => ?_) (fun hc => ?_)
  · replace h := h.1 hc
    refine r_iconst dA_ranAt_18 ?_
    refine r_goto (tgt := 28) dA_ranAt_19 (by decide) ?_
    exact q_iret rfl h dA_ranAt_28
  · replace h := h.2 hc
    refine r_iload_n 1 1 rfl dA_ranAt_4 rfl ?_
    refine r_aload_n 0 0 rfl dA_ranAt_5 rfl ?_
    refine q_getI 3 c69 fA_32 rfl rfl dA_ranAt_6 ?_
    refine r_ifc_ge (tgt := 18) dA_ranAt_9 (by decide) (fun hc => ?_) (fun hc => ?_)
    · replace h := h.1 hc
      refine r_iconst dA_ranAt_18 ?_
      refine r_goto (tgt := 28) dA_ranAt_19 (by decide) ?_
      exact q_iret rfl h dA_ranAt_28
    · replace h := h.2 hc
      refine r_iload_n 1 1 rfl dA_ranAt_12 rfl ?_
      refine r_bipush (by decide) dA_ranAt_13 ?_
      refine r_ifc_lt (tgt := 22) dA_ranAt_15 (by decide) (fun hc => ?_) (fun hc => ?_)
      · replace h := h.1 hc
        refine r_aload_n 0 0 rfl dA_ranAt_22 rfl ?_
        refine q_getR 1 c69 fA_15 rfl rfl (g69_1 sw) (by decide) dA_ranAt_23 ?_
        refine r_iload_n 1 1 rfl dA_ranAt_26 rfl ?_
        refine q_iaload (w32 a1) rfl c71 h.1 dA_ranAt_27 ?_
        replace h := h.2
        exact q_iret rfl h dA_ranAt_28
      · replace h := h.2 hc
        refine r_iconst dA_ranAt_18 ?_
        refine r_goto (tgt := 28) dA_ranAt_19 (by decide) ?_
        exact q_iret rfl h dA_ranAt_28
theorem dA_began_0 : decode mA_began.2.1 0 = .ok (.aload_n 0, 1) := by decide +kernel
theorem dA_began_1 : decode mA_began.2.1 1 = .ok (.getfield 32, 3) := by decide +kernel
theorem dA_began_4 : decode mA_began.2.1 4 = .ok (.bipush 24, 2) := by decide +kernel
theorem dA_began_6 : decode mA_began.2.1 6 = .ok (.if_icmp .ge 13, 3) := by decide +kernel
theorem dA_began_9 : decode mA_began.2.1 9 = .ok (.aload_n 0, 1) := by decide +kernel
theorem dA_began_10 : decode mA_began.2.1 10 = .ok (.getfield 15, 3) := by decide +kernel
theorem dA_began_13 : decode mA_began.2.1 13 = .ok (.aload_n 0, 1) := by decide +kernel
theorem dA_began_14 : decode mA_began.2.1 14 = .ok (.getfield 32, 3) := by decide +kernel
theorem dA_began_17 : decode mA_began.2.1 17 = .ok (.iload_n 1, 1) := by decide +kernel
theorem dA_began_18 : decode mA_began.2.1 18 = .ok (.iastore, 1) := by decide +kernel
theorem dA_began_19 : decode mA_began.2.1 19 = .ok (.aload_n 0, 1) := by decide +kernel
theorem dA_began_20 : decode mA_began.2.1 20 = .ok (.dup, 1) := by decide +kernel
theorem dA_began_21 : decode mA_began.2.1 21 = .ok (.getfield 32, 3) := by decide +kernel
theorem dA_began_24 : decode mA_began.2.1 24 = .ok (.iconst 1, 1) := by decide +kernel
theorem dA_began_25 : decode mA_began.2.1 25 = .ok (.iadd, 1) := by decide +kernel
theorem dA_began_26 : decode mA_began.2.1 26 = .ok (.putfield 32, 3) := by decide +kernel
theorem dA_began_29 : decode mA_began.2.1 29 = .ok (.return_, 1) := by decide +kernel
/- A_began: (I)V -/
set_option maxRecDepth 4000 in
theorem wA_began {X : Cx} (a1 : Int) (sw : Bool) (m : Mem) (Q : Int → Bool → Mem → Prop) (h : ((24 ≤ w32 (m 69 3) → Q 0 sw (upm m 69 3 ((m 69 3) + 1))) ∧ (¬ (24 ≤ w32 (m 69 3)) → ((0 ≤ w32 (m 69 3) ∧ w32 (m 69 3) < 24) ∧ Q 0 sw (upm (upm m 71 (w32 (m 69 3)) a1) 69 3 ((m 69 3) + 1)))))) : M2 X 1 mA_began [vr 69, vi a1] sw m Q := by
  refine Mt.of pA_began (Nat.le_of_ble_eq_true rfl) (Nat.le_refl _) ?_
  show R2 X 1 mA_began 0 [(0, vr 69), (1, vi a1)] [] sw m Q
  refine r_aload_n 0 0 rfl dA_began_0 rfl ?_
  refine q_getI 3 c69 fA_32 rfl rfl dA_began_1 ?_
  refine r_bipush (by decide) dA_began_4 ?_
  refine r_ifc_ge (tgt := 19) dA_began_6 (by decide) (fun hc => ?_) (fun hc => ?_)
  · replace h := h.1 hc
    refine r_aload_n 0 0 rfl dA_began_19 rfl ?_
    refine r_dup (fun q => by cases q) dA_began_20 ?_
    refine q_getI 3 c69 fA_32 rfl rfl dA_began_21 ?_
    refine r_iconst dA_began_24 ?_
    refine r_iadd dA_began_25 ?_
    refine q_putI 3 c69 pfA_32 rfl rfl dA_began_26 ?_
    exact q_vret rfl h dA_began_29
  · replace h := h.2 hc
    refine r_aload_n 0 0 rfl dA_began_9 rfl ?_
    refine q_getR 1 c69 fA_15 rfl rfl (g69_1 sw) (by decide) dA_began_10 ?_
    refine r_aload_n 0 0 rfl dA_began_13 rfl ?_
    refine q_getI 3 c69 fA_32 rfl rfl dA_began_14 ?_
    refine r_iload_n 1 1 rfl dA_began_17 rfl ?_
    refine q_iastore (w32 (m 69 3)) rfl c71 h.1 dA_began_18 ?_
    replace h := h.2
    refine r_aload_n 0 0 rfl dA_began_19 rfl ?_
    refine r_dup (fun q => by cases q) dA_began_20 ?_
    refine q_getI 3 c69 fA_32 rfl rfl dA_began_21 ?_
    refine r_iconst dA_began_24 ?_
    refine r_iadd dA_began_25 ?_
    refine q_putI 3 c69 pfA_32 rfl rfl dA_began_26 ?_
    exact q_vret rfl h dA_began_29
theorem dA_ownerOf_0 : decode mA_ownerOf.2.1 0 = .ok (.iload_n 1, 1) := by decide +kernel
theorem dA_ownerOf_1 : decode mA_ownerOf.2.1 1 = .ok (.istore_n 2, 1) := by decide +kernel
theorem dA_ownerOf_2 : decode mA_ownerOf.2.1 2 = .ok (.iconst 0, 1) := by decide +kernel
theorem dA_ownerOf_3 : decode mA_ownerOf.2.1 3 = .ok (.istore_n 3, 1) := by decide +kernel
theorem dA_ownerOf_4 : decode mA_ownerOf.2.1 4 = .ok (.iload_n 3, 1) := by decide +kernel
theorem dA_ownerOf_5 : decode mA_ownerOf.2.1 5 = .ok (.bipush 8, 2) := by decide +kernel
theorem dA_ownerOf_7 : decode mA_ownerOf.2.1 7 = .ok (.if_icmp .ge 35, 3) := by decide +kernel
theorem dA_ownerOf_10 : decode mA_ownerOf.2.1 10 = .ok (.iload_n 2, 1) := by decide +kernel
theorem dA_ownerOf_11 : decode mA_ownerOf.2.1 11 = .ok (.invokestatic 18, 3) := by decide +kernel
theorem dA_ownerOf_14 : decode mA_ownerOf.2.1 14 = .ok (.ifCond .eq 28, 3) := by decide +kernel
theorem dA_ownerOf_17 : decode mA_ownerOf.2.1 17 = .ok (.getstatic 45, 3) := by decide +kernel
theorem dA_ownerOf_20 : decode mA_ownerOf.2.1 20 = .ok (.iload_n 0, 1) := by decide +kernel
theorem dA_ownerOf_21 : decode mA_ownerOf.2.1 21 = .ok (.bipush 8, 2) := by decide +kernel
theorem dA_ownerOf_23 : decode mA_ownerOf.2.1 23 = .ok (.imul, 1) := by decide +kernel
theorem dA_ownerOf_24 : decode mA_ownerOf.2.1 24 = .ok (.iload_n 2, 1) := by decide +kernel
theorem dA_ownerOf_25 : decode mA_ownerOf.2.1 25 = .ok (.iadd, 1) := by decide +kernel
theorem dA_ownerOf_26 : decode mA_ownerOf.2.1 26 = .ok (.iaload, 1) := by decide +kernel
theorem dA_ownerOf_27 : decode mA_ownerOf.2.1 27 = .ok (.ifCond .ne 15, 3) := by decide +kernel
theorem dA_ownerOf_30 : decode mA_ownerOf.2.1 30 = .ok (.getstatic 22, 3) := by decide +kernel
theorem dA_ownerOf_33 : decode mA_ownerOf.2.1 33 = .ok (.iload_n 2, 1) := by decide +kernel
theorem dA_ownerOf_34 : decode mA_ownerOf.2.1 34 = .ok (.iaload, 1) := by decide +kernel
theorem dA_ownerOf_35 : decode mA_ownerOf.2.1 35 = .ok (.istore_n 2, 1) := by decide +kernel
theorem dA_ownerOf_36 : decode mA_ownerOf.2.1 36 = .ok (.iinc 3 1, 3) := by decide +kernel
theorem dA_ownerOf_39 : decode mA_ownerOf.2.1 39 = .ok (.goto (-35), 3) := by decide +kernel
theorem dA_ownerOf_42 : decode mA_ownerOf.2.1 42 = .ok (.iload_n 2, 1) := by decide +kernel
theorem dA_ownerOf_43 : decode mA_ownerOf.2.1 43 = .ok (.ireturn, 1) := by decide +kernel
/- A_ownerOf: (II)I -/
set_option maxRecDepth 4000 in
theorem wA_ownerOf {X : Cx} (a0 a1 : Int) (sw : Bool) (m : Mem) (Q : Int → Bool → Mem → Prop) (h : R2 X 2 mA_ownerOf 4 [(0, vi a0), (2, vi a1), (3, vi 0)] [] sw m Q) : M2 X 2 mA_ownerOf [vi a0, vi a1] sw m Q := by
  refine Mt.of pA_ownerOf (Nat.le_of_ble_eq_true rfl) (Nat.le_refl _) ?_
  show R2 X 2 mA_ownerOf 0 [(0, vi a0), (1, vi a1)] [] sw m Q
  refine r_iload_n 1 1 rfl dA_ownerOf_0 rfl ?_
  refine r_istore_n 2 (by decide) dA_ownerOf_1 rfl ?_
  refine r_iconst dA_ownerOf_2 ?_
  refine r_istore_n 3 (by decide) dA_ownerOf_3 rfl ?_
  refine r_sub [2, 1, 0] ?_ h
  rfl
set_option maxRecDepth 4000 in
theorem wA_ownerOf_4 {X : Cx} (x0 x2 x3 : Int) (sw : Bool) (m : Mem) (Q : Int → Bool → Mem → Prop) (h : ((8 ≤ w32 x3 → Q x2 sw m) ∧ (¬ (8 ≤ w32 x3) → M2 X 1 mA_isKind [vi x2] sw m (fun z1 sw1 m1 => ((w32 z1 = 0 → Q x2 sw1 m1) ∧ (¬ (w32 z1 = 0) → ((0 ≤ w32 ((x0 * 8) + x2) ∧ w32 ((x0 * 8) + x2) < 32) ∧ ((¬ w32 (ext6.getD (w32 ((x0 * 8) + x2)).toNat 0) = 0 → Q x2 sw1 m1) ∧ (¬ (¬ w32 (ext6.getD (w32 ((x0 * 8) + x2)).toNat 0) = 0) → ((0 ≤ w32 x2 ∧ w32 x2 < 8) ∧ R2 X 2 mA_ownerOf 4 [(0, vi x0), (2, vi (ext5.getD (w32 x2).toNat 0)), (3, vi (x3 + 1))] [] sw1 m1 Q)))))))))) : R2 X 2 mA_ownerOf 4 [(0, vi x0), (2, vi x2), (3, vi x3)] [] sw m Q := by
  refine r_iload_n 3 2 rfl dA_ownerOf_4 rfl ?_
  refine r_bipush (by decide) dA_ownerOf_5 ?_
  refine r_ifc_ge (tgt := 42) dA_ownerOf_7 (by decide) (fun hc => ?_) (fun hc => ?_)
  · replace h := h.1 hc
    refine r_iload_n 2 1 rfl dA_ownerOf_42 rfl ?_
    exact q_iret rfl h dA_ownerOf_43
  · replace h := h.2 hc
    refine r_iload_n 2 1 rfl dA_ownerOf_10 rfl ?_
    refine r_callSb [_] rfl oA_isKind iA_isKind yA_18 (by decide) ⟨Nat.le_refl _, Nat.le_refl _⟩ rfl (Nat.le_of_ble_eq_true rfl) dA_ownerOf_11 h (fun z1 r1 m1 h => ?_)
    obtain ⟨sw1, rfl, h⟩ := h
    refine r_if_eq (tgt := 42) dA_ownerOf_14 (by decide) (fun hc => ?_) (fun hc => ?_)
    · replace h := h.1 hc
      refine r_iload_n 2 1 rfl dA_ownerOf_42 rfl ?_
      exact q_iret rfl h dA_ownerOf_43
    · replace h := h.2 hc
      refine r_gets (e := 6) rfl vA_45 dA_ownerOf_17 ?_
      refine r_iload_n 0 0 rfl dA_ownerOf_20 rfl ?_
      refine r_bipush (by decide) dA_ownerOf_21 ?_
      refine r_imul dA_ownerOf_23 ?_
      refine r_iload_n 2 1 rfl dA_ownerOf_24 rfl ?_
      refine r_iadd dA_ownerOf_25 ?_
      refine q_xiload (e := 6) (w32 ((x0 * 8) + x2)) rfl rfl h.1 dA_ownerOf_26 ?_
      replace h := h.2
      refine r_if_ne (tgt := 42) dA_ownerOf_27 (by decide) (fun hc => ?_) (fun hc => ?_)
      · replace h := h.1 hc
        refine r_iload_n 2 1 rfl dA_ownerOf_42 rfl ?_
        exact q_iret rfl h dA_ownerOf_43
      · replace h := h.2 hc
        refine r_gets (e := 5) rfl vA_22 dA_ownerOf_30 ?_
        refine r_iload_n 2 1 rfl dA_ownerOf_33 rfl ?_
        refine q_xiload (e := 5) (w32 x2) rfl rfl h.1 dA_ownerOf_34 ?_
        replace h := h.2
        refine r_istore_n 2 (by decide) dA_ownerOf_35 rfl ?_
        refine r_iinc 3 2 rfl (by decide) dA_ownerOf_36 ?_
        refine r_goto (tgt := 4) dA_ownerOf_39 (by decide) ?_
        refine r_sub [2, 1, 0] ?_ h
        rfl
theorem dA_run_0 : decode mA_run.2.1 0 = .ok (.iload_n 1, 1) := by decide +kernel
theorem dA_run_1 : decode mA_run.2.1 1 = .ok (.iload_n 2, 1) := by decide +kernel
theorem dA_run_2 : decode mA_run.2.1 2 = .ok (.invokestatic 48, 3) := by decide +kernel
theorem dA_run_5 : decode mA_run.2.1 5 = .ok (.istore 5, 2) := by decide +kernel
theorem dA_run_7 : decode mA_run.2.1 7 = .ok (.iload 5, 2) := by decide +kernel
theorem dA_run_9 : decode mA_run.2.1 9 = .ok (.invokestatic 18, 3) := by decide +kernel
theorem dA_run_12 : decode mA_run.2.1 12 = .ok (.ifCond .eq 10, 3) := by decide +kernel
theorem dA_run_15 : decode mA_run.2.1 15 = .ok (.iload 4, 2) := by decide +kernel
theorem dA_run_17 : decode mA_run.2.1 17 = .ok (.bipush 40, 2) := by decide +kernel
theorem dA_run_19 : decode mA_run.2.1 19 = .ok (.if_icmp .lt 5, 3) := by decide +kernel
theorem dA_run_22 : decode mA_run.2.1 22 = .ok (.iconst 0, 1) := by decide +kernel
theorem dA_run_23 : decode mA_run.2.1 23 = .ok (.ireturn, 1) := by decide +kernel
theorem dA_run_24 : decode mA_run.2.1 24 = .ok (.getstatic 22, 3) := by decide +kernel
theorem dA_run_27 : decode mA_run.2.1 27 = .ok (.iload 5, 2) := by decide +kernel
theorem dA_run_29 : decode mA_run.2.1 29 = .ok (.iaload, 1) := by decide +kernel
theorem dA_run_30 : decode mA_run.2.1 30 = .ok (.istore 6, 2) := by decide +kernel
theorem dA_run_32 : decode mA_run.2.1 32 = .ok (.aload_n 0, 1) := by decide +kernel
theorem dA_run_33 : decode mA_run.2.1 33 = .ok (.getfield 38, 3) := by decide +kernel
theorem dA_run_36 : decode mA_run.2.1 36 = .ok (.istore 7, 2) := by decide +kernel
theorem dA_run_38 : decode mA_run.2.1 38 = .ok (.iload 4, 2) := by decide +kernel
theorem dA_run_40 : decode mA_run.2.1 40 = .ok (.iconst 1, 1) := by decide +kernel
theorem dA_run_41 : decode mA_run.2.1 41 = .ok (.iadd, 1) := by decide +kernel
theorem dA_run_42 : decode mA_run.2.1 42 = .ok (.istore 8, 2) := by decide +kernel
theorem dA_run_44 : decode mA_run.2.1 44 = .ok (.getstatic 45, 3) := by decide +kernel
theorem dA_run_47 : decode mA_run.2.1 47 = .ok (.iload_n 1, 1) := by decide +kernel
theorem dA_run_48 : decode mA_run.2.1 48 = .ok (.bipush 8, 2) := by decide +kernel
theorem dA_run_50 : decode mA_run.2.1 50 = .ok (.imul, 1) := by decide +kernel
theorem dA_run_51 : decode mA_run.2.1 51 = .ok (.iload 5, 2) := by decide +kernel
theorem dA_run_53 : decode mA_run.2.1 53 = .ok (.iadd, 1) := by decide +kernel
theorem dA_run_54 : decode mA_run.2.1 54 = .ok (.iaload, 1) := by decide +kernel
theorem dA_run_55 : decode mA_run.2.1 55 = .ok (.istore 9, 2) := by decide +kernel
theorem dA_run_57 : decode mA_run.2.1 57 = .ok (.aload_n 0, 1) := by decide +kernel
theorem dA_run_58 : decode mA_run.2.1 58 = .ok (.iload 9, 2) := by decide +kernel
theorem dA_run_60 : decode mA_run.2.1 60 = .ok (.invokevirtual 52, 3) := by decide +kernel
theorem dA_run_63 : decode mA_run.2.1 63 = .ok (.iload 9, 2) := by decide +kernel
theorem dA_run_65 : decode mA_run.2.1 65 = .ok (.lookupswitch 319 #[(1, 123), (2, 130), (10, 152), (11, 165), (20, 172), (30, 185), (40, 197), (41, 210), (50, 223), (60, 236), (61, 258), (70, 271), (80, 284), (81, 306)], 123) := by decide +kernel
theorem dA_run_188 : decode mA_run.2.1 188 = .ok (.iload_n 3, 1) := by decide +kernel
theorem dA_run_189 : decode mA_run.2.1 189 = .ok (.aload_n 0, 1) := by decide +kernel
theorem dA_run_190 : decode mA_run.2.1 190 = .ok (.getfield 35, 3) := by decide +kernel
theorem dA_run_193 : decode mA_run.2.1 193 = .ok (.iadd, 1) := by decide +kernel
theorem dA_run_194 : decode mA_run.2.1 194 = .ok (.ireturn, 1) := by decide +kernel
theorem dA_run_195 : decode mA_run.2.1 195 = .ok (.aload_n 0, 1) := by decide +kernel
theorem dA_run_196 : decode mA_run.2.1 196 = .ok (.iconst 1, 1) := by decide +kernel
theorem dA_run_197 : decode mA_run.2.1 197 = .ok (.iload 7, 2) := by decide +kernel
theorem dA_run_199 : decode mA_run.2.1 199 = .ok (.iload_n 3, 1) := by decide +kernel
theorem dA_run_200 : decode mA_run.2.1 200 = .ok (.iload 8, 2) := by decide +kernel
theorem dA_run_202 : decode mA_run.2.1 202 = .ok (.invokestatic 41, 3) := by decide +kernel
theorem dA_run_205 : decode mA_run.2.1 205 = .ok (.aload_n 0, 1) := by decide +kernel
theorem dA_run_206 : decode mA_run.2.1 206 = .ok (.iconst 2, 1) := by decide +kernel
theorem dA_run_207 : decode mA_run.2.1 207 = .ok (.iload 7, 2) := by decide +kernel
theorem dA_run_209 : decode mA_run.2.1 209 = .ok (.iconst 1, 1) := by decide +kernel
theorem dA_run_210 : decode mA_run.2.1 210 = .ok (.iload 8, 2) := by decide +kernel
theorem dA_run_212 : decode mA_run.2.1 212 = .ok (.invokestatic 41, 3) := by decide +kernel
theorem dA_run_215 : decode mA_run.2.1 215 = .ok (.isub, 1) := by decide +kernel
theorem dA_run_216 : decode mA_run.2.1 216 = .ok (.ireturn, 1) := by decide +kernel
theorem dA_run_217 : decode mA_run.2.1 217 = .ok (.aload_n 0, 1) := by decide +kernel
theorem dA_run_218 : decode mA_run.2.1 218 = .ok (.iconst 0, 1) := by decide +kernel
theorem dA_run_219 : decode mA_run.2.1 219 = .ok (.iload 7, 2) := by decide +kernel
theorem dA_run_221 : decode mA_run.2.1 221 = .ok (.iload_n 3, 1) := by decide +kernel
theorem dA_run_222 : decode mA_run.2.1 222 = .ok (.iload 8, 2) := by decide +kernel
theorem dA_run_224 : decode mA_run.2.1 224 = .ok (.invokestatic 41, 3) := by decide +kernel
theorem dA_run_227 : decode mA_run.2.1 227 = .ok (.iconst 2, 1) := by decide +kernel
theorem dA_run_228 : decode mA_run.2.1 228 = .ok (.imul, 1) := by decide +kernel
theorem dA_run_229 : decode mA_run.2.1 229 = .ok (.ireturn, 1) := by decide +kernel
theorem dA_run_230 : decode mA_run.2.1 230 = .ok (.iload_n 3, 1) := by decide +kernel
theorem dA_run_231 : decode mA_run.2.1 231 = .ok (.aload_n 0, 1) := by decide +kernel
theorem dA_run_232 : decode mA_run.2.1 232 = .ok (.getfield 35, 3) := by decide +kernel
theorem dA_run_235 : decode mA_run.2.1 235 = .ok (.ixor, 1) := by decide +kernel
theorem dA_run_236 : decode mA_run.2.1 236 = .ok (.ireturn, 1) := by decide +kernel
theorem dA_run_237 : decode mA_run.2.1 237 = .ok (.aload_n 0, 1) := by decide +kernel
theorem dA_run_238 : decode mA_run.2.1 238 = .ok (.iload_n 1, 1) := by decide +kernel
theorem dA_run_239 : decode mA_run.2.1 239 = .ok (.iload 6, 2) := by decide +kernel
theorem dA_run_241 : decode mA_run.2.1 241 = .ok (.iload_n 3, 1) := by decide +kernel
theorem dA_run_242 : decode mA_run.2.1 242 = .ok (.iload 8, 2) := by decide +kernel
theorem dA_run_244 : decode mA_run.2.1 244 = .ok (.invokestatic 41, 3) := by decide +kernel
theorem dA_run_247 : decode mA_run.2.1 247 = .ok (.iconst 3, 1) := by decide +kernel
theorem dA_run_248 : decode mA_run.2.1 248 = .ok (.iadd, 1) := by decide +kernel
theorem dA_run_249 : decode mA_run.2.1 249 = .ok (.ireturn, 1) := by decide +kernel
theorem dA_run_250 : decode mA_run.2.1 250 = .ok (.aload_n 0, 1) := by decide +kernel
theorem dA_run_251 : decode mA_run.2.1 251 = .ok (.iload_n 1, 1) := by decide +kernel
theorem dA_run_252 : decode mA_run.2.1 252 = .ok (.iload 6, 2) := by decide +kernel
theorem dA_run_254 : decode mA_run.2.1 254 = .ok (.iload_n 3, 1) := by decide +kernel
theorem dA_run_255 : decode mA_run.2.1 255 = .ok (.iload 8, 2) := by decide +kernel
theorem dA_run_257 : decode mA_run.2.1 257 = .ok (.invokestatic 41, 3) := by decide +kernel
theorem dA_run_260 : decode mA_run.2.1 260 = .ok (.ineg, 1) := by decide +kernel
theorem dA_run_261 : decode mA_run.2.1 261 = .ok (.ireturn, 1) := by decide +kernel
theorem dA_run_262 : decode mA_run.2.1 262 = .ok (.aload_n 0, 1) := by decide +kernel
theorem dA_run_263 : decode mA_run.2.1 263 = .ok (.iload_n 1, 1) := by decide +kernel
theorem dA_run_264 : decode mA_run.2.1 264 = .ok (.iload 6, 2) := by decide +kernel
theorem dA_run_266 : decode mA_run.2.1 266 = .ok (.iload_n 3, 1) := by decide +kernel
theorem dA_run_267 : decode mA_run.2.1 267 = .ok (.iload 8, 2) := by decide +kernel
theorem dA_run_269 : decode mA_run.2.1 269 = .ok (.invokestatic 41, 3) := by decide +kernel
theorem dA_run_272 : decode mA_run.2.1 272 = .ok (.iconst 3, 1) := by decide +kernel
theorem dA_run_273 : decode mA_run.2.1 273 = .ok (.imul, 1) := by decide +kernel
theorem dA_run_274 : decode mA_run.2.1 274 = .ok (.ireturn, 1) := by decide +kernel
theorem dA_run_275 : decode mA_run.2.1 275 = .ok (.aload_n 0, 1) := by decide +kernel
theorem dA_run_276 : decode mA_run.2.1 276 = .ok (.iload_n 1, 1) := by decide +kernel
theorem dA_run_277 : decode mA_run.2.1 277 = .ok (.iload 6, 2) := by decide +kernel
theorem dA_run_279 : decode mA_run.2.1 279 = .ok (.iload_n 3, 1) := by decide +kernel
theorem dA_run_280 : decode mA_run.2.1 280 = .ok (.iconst 1, 1) := by decide +kernel
theorem dA_run_281 : decode mA_run.2.1 281 = .ok (.iadd, 1) := by decide +kernel
theorem dA_run_282 : decode mA_run.2.1 282 = .ok (.iload 8, 2) := by decide +kernel
theorem dA_run_284 : decode mA_run.2.1 284 = .ok (.invokestatic 41, 3) := by decide +kernel
theorem dA_run_287 : decode mA_run.2.1 287 = .ok (.ireturn, 1) := by decide +kernel
theorem dA_run_288 : decode mA_run.2.1 288 = .ok (.aload_n 0, 1) := by decide +kernel
theorem dA_run_289 : decode mA_run.2.1 289 = .ok (.iload_n 1, 1) := by decide +kernel
theorem dA_run_290 : decode mA_run.2.1 290 = .ok (.iload 6, 2) := by decide +kernel
theorem dA_run_292 : decode mA_run.2.1 292 = .ok (.iload_n 3, 1) := by decide +kernel
theorem dA_run_293 : decode mA_run.2.1 293 = .ok (.iload 8, 2) := by decide +kernel
theorem dA_run_295 : decode mA_run.2.1 295 = .ok (.invokestatic 41, 3) := by decide +kernel
theorem dA_run_298 : decode mA_run.2.1 298 = .ok (.iconst 5, 1) := by decide +kernel
theorem dA_run_299 : decode mA_run.2.1 299 = .ok (.ixor, 1) := by decide +kernel
theorem dA_run_300 : decode mA_run.2.1 300 = .ok (.ireturn, 1) := by decide +kernel
theorem dA_run_301 : decode mA_run.2.1 301 = .ok (.aload_n 0, 1) := by decide +kernel
theorem dA_run_302 : decode mA_run.2.1 302 = .ok (.iload_n 1, 1) := by decide +kernel
theorem dA_run_303 : decode mA_run.2.1 303 = .ok (.iload 6, 2) := by decide +kernel
theorem dA_run_305 : decode mA_run.2.1 305 = .ok (.iload_n 3, 1) := by decide +kernel
theorem dA_run_306 : decode mA_run.2.1 306 = .ok (.iload 8, 2) := by decide +kernel
theorem dA_run_308 : decode mA_run.2.1 308 = .ok (.invokestatic 41, 3) := by decide +kernel
theorem dA_run_311 : decode mA_run.2.1 311 = .ok (.aload_n 0, 1) := by decide +kernel
theorem dA_run_312 : decode mA_run.2.1 312 = .ok (.iconst 0, 1) := by decide +kernel
theorem dA_run_313 : decode mA_run.2.1 313 = .ok (.iload 7, 2) := by decide +kernel
theorem dA_run_315 : decode mA_run.2.1 315 = .ok (.iconst 2, 1) := by decide +kernel
theorem dA_run_316 : decode mA_run.2.1 316 = .ok (.iload 8, 2) := by decide +kernel
theorem dA_run_318 : decode mA_run.2.1 318 = .ok (.invokestatic 41, 3) := by decide +kernel
theorem dA_run_321 : decode mA_run.2.1 321 = .ok (.isub, 1) := by decide +kernel
theorem dA_run_322 : decode mA_run.2.1 322 = .ok (.ireturn, 1) := by decide +kernel
theorem dA_run_323 : decode mA_run.2.1 323 = .ok (.aload_n 0, 1) := by decide +kernel
theorem dA_run_324 : decode mA_run.2.1 324 = .ok (.iload_n 1, 1) := by decide +kernel
theorem dA_run_325 : decode mA_run.2.1 325 = .ok (.iload 6, 2) := by decide +kernel
theorem dA_run_327 : decode mA_run.2.1 327 = .ok (.iload_n 3, 1) := by decide +kernel
theorem dA_run_328 : decode mA_run.2.1 328 = .ok (.iload 8, 2) := by decide +kernel
theorem dA_run_330 : decode mA_run.2.1 330 = .ok (.invokestatic 41, 3) := by decide +kernel
theorem dA_run_333 : decode mA_run.2.1 333 = .ok (.iconst 1, 1) := by decide +kernel
theorem dA_run_334 : decode mA_run.2.1 334 = .ok (.iadd, 1) := by decide +kernel
theorem dA_run_335 : decode mA_run.2.1 335 = .ok (.ireturn, 1) := by decide +kernel
theorem dA_run_336 : decode mA_run.2.1 336 = .ok (.aload_n 0, 1) := by decide +kernel
theorem dA_run_337 : decode mA_run.2.1 337 = .ok (.iload_n 1, 1) := by decide +kernel
theorem dA_run_338 : decode mA_run.2.1 338 = .ok (.iload 6, 2) := by decide +kernel
theorem dA_run_340 : decode mA_run.2.1 340 = .ok (.iload_n 3, 1) := by decide +kernel
theorem dA_run_341 : decode mA_run.2.1 341 = .ok (.iload 8, 2) := by decide +kernel
theorem dA_run_343 : decode mA_run.2.1 343 = .ok (.invokestatic 41, 3) := by decide +kernel
theorem dA_run_346 : decode mA_run.2.1 346 = .ok (.iconst 2, 1) := by decide +kernel
theorem dA_run_347 : decode mA_run.2.1 347 = .ok (.imul, 1) := by decide +kernel
theorem dA_run_348 : decode mA_run.2.1 348 = .ok (.ireturn, 1) := by decide +kernel
theorem dA_run_349 : decode mA_run.2.1 349 = .ok (.aload_n 0, 1) := by decide +kernel
theorem dA_run_350 : decode mA_run.2.1 350 = .ok (.iload_n 1, 1) := by decide +kernel
theorem dA_run_351 : decode mA_run.2.1 351 = .ok (.iload 6, 2) := by decide +kernel
theorem dA_run_353 : decode mA_run.2.1 353 = .ok (.iload_n 3, 1) := by decide +kernel
theorem dA_run_354 : decode mA_run.2.1 354 = .ok (.iload 8, 2) := by decide +kernel
theorem dA_run_356 : decode mA_run.2.1 356 = .ok (.invokestatic 41, 3) := by decide +kernel
theorem dA_run_359 : decode mA_run.2.1 359 = .ok (.aload_n 0, 1) := by decide +kernel
theorem dA_run_360 : decode mA_run.2.1 360 = .ok (.iconst 2, 1) := by decide +kernel
theorem dA_run_361 : decode mA_run.2.1 361 = .ok (.iload 7, 2) := by decide +kernel
theorem dA_run_363 : decode mA_run.2.1 363 = .ok (.iconst 2, 1) := by decide +kernel
theorem dA_run_364 : decode mA_run.2.1 364 = .ok (.iload 8, 2) := by decide +kernel
theorem dA_run_366 : decode mA_run.2.1 366 = .ok (.invokestatic 41, 3) := by decide +kernel
theorem dA_run_369 : decode mA_run.2.1 369 = .ok (.iadd, 1) := by decide +kernel
theorem dA_run_370 : decode mA_run.2.1 370 = .ok (.ireturn, 1) := by decide +kernel
theorem dA_run_371 : decode mA_run.2.1 371 = .ok (.aload_n 0, 1) := by decide +kernel
theorem dA_run_372 : decode mA_run.2.1 372 = .ok (.iload_n 1, 1) := by decide +kernel
theorem dA_run_373 : decode mA_run.2.1 373 = .ok (.iload 6, 2) := by decide +kernel
theorem dA_run_375 : decode mA_run.2.1 375 = .ok (.iload_n 3, 1) := by decide +kernel
theorem dA_run_376 : decode mA_run.2.1 376 = .ok (.iload 8, 2) := by decide +kernel
theorem dA_run_378 : decode mA_run.2.1 378 = .ok (.invokestatic 41, 3) := by decide +kernel
theorem dA_run_381 : decode mA_run.2.1 381 = .ok (.iconst 1, 1) := by decide +kernel
theorem dA_run_382 : decode mA_run.2.1 382 = .ok (.isub, 1) := by decide +kernel
theorem dA_run_383 : decode mA_run.2.1 383 = .ok (.ireturn, 1) := by decide +kernel
theorem dA_run_384 : decode mA_run.2.1 384 = .ok (.iconst 0, 1) := by decide +kernel
theorem dA_run_385 : decode mA_run.2.1 385 = .ok (.ireturn, 1) := by decide +kernel
/- A_run: (LWokenByKettle$Acts;IIII)I -/
set_option maxRecDepth 4000 in
theorem wA_run {X : Cx} {d : Nat} (hd0 : 2 ≤ d) (a1 a2 a3 a4 : Int) (sw : Bool) (m : Mem) (Q : Int → Bool → Mem → Prop) (h : M2 X 2 mA_ownerOf [vi a1, vi a2] sw m (fun z1 sw1 m1 => M2 X 1 mA_isKind [vi z1] sw1 m1 (fun z2 sw2 m2 => ((w32 z2 = 0 → Q 0 sw2 m2) ∧ (¬ (w32 z2 = 0) → ((w32 a4 < 40 → ((0 ≤ w32 z1 ∧ w32 z1 < 8) ∧ ((0 ≤ w32 ((a1 * 8) + z1) ∧ w32 ((a1 * 8) + z1) < 32) ∧ M2 X 1 mA_began [vr 69, vi (ext6.getD (w32 ((a1 * 8) + z1)).toNat 0)] sw2 m2 (fun z3 sw3 m3 => ((w32 (ext6.getD (w32 ((a1 * 8) + z1)).toNat 0) = 1 → Q (a3 + (m3 69 4)) sw3 m3) ∧ ((w32 (ext6.getD (w32 ((a1 * 8) + z1)).toNat 0) = 2 → M2 X d mA_run [vr 69, vi 1, vi (m2 69 5), vi a3, vi (a4 + 1)] sw3 m3 (fun z4 sw4 m4 => M2 X d mA_run [vr 69, vi 2, vi (m2 69 5), vi 1, vi (a4 + 1)] sw4 m4 (fun z5 sw5 m5 => Q (z4 - z5) sw5 m5))) ∧ ((w32 (ext6.getD (w32 ((a1 * 8) + z1)).toNat 0) = 10 → M2 X d mA_run [vr 69, vi 0, vi (m2 69 5), vi a3, vi (a4 + 1)] sw3 m3 (fun z6 sw6 m6 => Q (z6 * 2) sw6 m6)) ∧ ((w32 (ext6.getD (w32 ((a1 * 8) + z1)).toNat 0) = 11 → Q (zxor a3 (m3 69 4)) sw3 m3) ∧ ((w32 (ext6.getD (w32 ((a1 * 8) + z1)).toNat 0) = 20 → M2 X d mA_run [vr 69, vi a1, vi (ext5.getD (w32 z1).toNat 0), vi a3, vi (a4 + 1)] sw3 m3 (fun z7 sw7 m7 => Q (z7 + 3) sw7 m7)) ∧ ((w32 (ext6.getD (w32 ((a1 * 8) + z1)).toNat 0) = 30 → M2 X d mA_run [vr 69, vi a1, vi (ext5.getD (w32 z1).toNat 0), vi a3, vi (a4 + 1)] sw3 m3 (fun z8 sw8 m8 => Q (-z8) sw8 m8)) ∧ ((w32 (ext6.getD (w32 ((a1 * 8) + z1)).toNat 0) = 40 → M2 X d mA_run [vr 69, vi a1, vi (ext5.getD (w32 z1).toNat 0), vi a3, vi (a4 + 1)] sw3 m3 (fun z9 sw9 m9 => Q (z9 * 3) sw9 m9)) ∧ ((w32 (ext6.getD (w32 ((a1 * 8) + z1)).toNat 0) = 41 → M2 X d mA_run [vr 69, vi a1, vi (ext5.getD (w32 z1).toNat 0), vi (a3 + 1), vi (a4 + 1)] sw3 m3 (fun z10 sw10 m10 => Q z10 sw10 m10)) ∧ ((w32 (ext6.getD (w32 ((a1 * 8) + z1)).toNat 0) = 50 → M2 X d mA_run [vr 69, vi a1, vi (ext5.getD (w32 z1).toNat 0), vi a3, vi (a4 + 1)] sw3 m3 (fun z11 sw11 m11 => Q (zxor z11 5) sw11 m11)) ∧ ((w32 (ext6.getD (w32 ((a1 * 8) + z1)).toNat 0) = 60 → M2 X d mA_run [vr 69, vi a1, vi (ext5.getD (w32 z1).toNat 0), vi a3, vi (a4 + 1)] sw3 m3 (fun z12 sw12 m12 => M2 X d mA_run [vr 69, vi 0, vi (m2 69 5), vi 2, vi (a4 + 1)] sw12 m12 (fun z13 sw13 m13 => Q (z12 - z13) sw13 m13))) ∧ ((w32 (ext6.getD (w32 ((a1 * 8) + z1)).toNat 0) = 61 → M2 X d mA_run [vr 69, vi a1, vi (ext5.getD (w32 z1).toNat 0), vi a3, vi (a4 + 1)] sw3 m3 (fun z14 sw14 m14 => Q (z14 + 1) sw14 m14)) ∧ ((w32 (ext6.getD (w32 ((a1 * 8) + z1)).toNat 0) = 70 → M2 X d mA_run [vr 69, vi a1, vi (ext5.getD (w32 z1).toNat 0), vi a3, vi (a4 + 1)] sw3 m3 (fun z15 sw15 m15 => Q (z15 * 2) sw15 m15)) ∧ ((w32 (ext6.getD (w32 ((a1 * 8) + z1)).toNat 0) = 80 → M2 X d mA_run [vr 69, vi a1, vi (ext5.getD (w32 z1).toNat 0), vi a3, vi (a4 + 1)] sw3 m3 (fun z16 sw16 m16 => M2 X d mA_run [vr 69, vi 2, vi (m2 69 5), vi 2, vi (a4 + 1)] sw16 m16 (fun z17 sw17 m17 => Q (z16 + z17) sw17 m17))) ∧ ((w32 (ext6.getD (w32 ((a1 * 8) + z1)).toNat 0) = 81 → M2 X d mA_run [vr 69, vi a1, vi (ext5.getD (w32 z1).toNat 0), vi a3, vi (a4 + 1)] sw3 m3 (fun z18 sw18 m18 => Q (z18 - 1) sw18 m18)) ∧ ((¬ w32 (ext6.getD (w32 ((a1 * 8) + z1)).toNat 0) = 1 ∧ ¬ w32 (ext6.getD (w32 ((a1 * 8) + z1)).toNat 0) = 2 ∧ ¬ w32 (ext6.getD (w32 ((a1 * 8) + z1)).toNat 0) = 10 ∧ ¬ w32 (ext6.getD (w32 ((a1 * 8) + z1)).toNat 0) = 11 ∧ ¬ w32 (ext6.getD (w32 ((a1 * 8) + z1)).toNat 0) = 20 ∧ ¬ w32 (ext6.getD (w32 ((a1 * 8) + z1)).toNat 0) = 30 ∧ ¬ w32 (ext6.getD (w32 ((a1 * 8) + z1)).toNat 0) = 40 ∧ ¬ w32 (ext6.getD (w32 ((a1 * 8) + z1)).toNat 0) = 41 ∧ ¬ w32 (ext6.getD (w32 ((a1 * 8) + z1)).toNat 0) = 50 ∧ ¬ w32 (ext6.getD (w32 ((a1 * 8) + z1)).toNat 0) = 60 ∧ ¬ w32 (ext6.getD (w32 ((a1 * 8) + z1)).toNat 0) = 61 ∧ ¬ w32 (ext6.getD (w32 ((a1 * 8) + z1)).toNat 0) = 70 ∧ ¬ w32 (ext6.getD (w32 ((a1 * 8) + z1)).toNat 0) = 80 ∧ ¬ w32 (ext6.getD (w32 ((a1 * 8) + z1)).toNat 0) = 81) → Q 0 sw3 m3))))))))))))))))))) ∧ (¬ (w32 a4 < 40) → Q 0 sw2 m2))))))) : M2 X (d + 1) mA_run [vr 69, vi a1, vi a2, vi a3, vi a4] sw m Q := by
  refine Mt.of pA_run (Nat.le_of_ble_eq_true rfl) (Nat.le_refl _) ?_
  show R2 X (d + 1) mA_run 0 [(0, vr 69), (1, vi a1), (2, vi a2), (3, vi a3), (4, vi a4)] [] sw m Q
  refine r_iload_n 1 1 rfl dA_run_0 rfl ?_
  refine r_iload_n 2 2 rfl dA_run_1 rfl ?_
  refine r_callSi [_, _] rfl oA_ownerOf iA_ownerOf yA_48 (by omega) ⟨Nat.le_refl _, Nat.le_refl _⟩ rfl (Nat.le_of_ble_eq_true rfl) dA_run_2 h (fun z1 r1 m1 h => ?_)
  obtain ⟨sw1, rfl, h⟩ := h
  refine r_istore 5 (by decide) dA_run_5 ?_
  refine r_iload 5 0 rfl dA_run_7 ?_
  refine r_callSb [_] rfl oA_isKind iA_isKind yA_18 (by omega) ⟨Nat.le_refl _, Nat.le_refl _⟩ rfl (Nat.le_of_ble_eq_true rfl) dA_run_9 h (fun z2 r2 m2 h => ?_)
  obtain ⟨sw2, rfl, h⟩ := h
  refine r_if_eq (tgt := 22) dA_run_12 (by decide) (fun hc => ?_) (fun hc => ?_)
  · replace h := h.1 hc
    refine r_iconst dA_run_22 ?_
    exact q_iret rfl h dA_run_23
  · replace h := h.2 hc
    refine r_iload 4 5 rfl dA_run_15 ?_
    refine r_bipush (by decide) dA_run_17 ?_
    refine r_ifc_lt (tgt := 24) dA_run_19 (by decide) (fun hc => ?_) (fun hc => ?_)
    · replace h := h.1 hc
      refine r_gets (e := 5) rfl vA_22 dA_run_24 ?_
      refine r_iload 5 0 rfl dA_run_27 ?_
      refine q_xiload (e := 5) (w32 z1) rfl rfl h.1 dA_run_29 ?_
      replace h := h.2
      refine r_istore 6 (by decide) dA_run_30 ?_
      refine r_aload_n 0 2 rfl dA_run_32 rfl ?_
      refine q_getI 5 c69 fA_38 rfl rfl dA_run_33 ?_
      refine r_istore 7 (by decide) dA_run_36 ?_
      refine r_iload 4 7 rfl dA_run_38 ?_
      refine r_iconst dA_run_40 ?_
      refine r_iadd dA_run_41 ?_
      refine r_istore 8 (by decide) dA_run_42 ?_
      refine r_gets (e := 6) rfl vA_45 dA_run_44 ?_
      refine r_iload_n 1 5 rfl dA_run_47 rfl ?_
      refine r_bipush (by decide) dA_run_48 ?_
      refine r_imul dA_run_50 ?_
      refine r_iload 5 3 rfl dA_run_51 ?_
      refine r_iadd dA_run_53 ?_
      refine q_xiload (e := 6) (w32 ((a1 * 8) + z1)) rfl rfl h.1 dA_run_54 ?_
      replace h := h.2
      refine r_istore 9 (by decide) dA_run_55 ?_
      refine r_aload_n 0 5 rfl dA_run_57 rfl ?_
      refine r_iload 9 0 rfl dA_run_58 ?_
      refine r_callVv 10 [_] rfl c69 rfl rfl oA_began iA_began sA_began yA_52 (by omega) ⟨Nat.le_refl _, Nat.le_refl _⟩ rfl (Nat.le_of_ble_eq_true rfl) dA_run_60 h (fun z3 r3 m3 h => ?_)
      obtain ⟨sw3, rfl, h⟩ := h
      refine r_iload 9 0 rfl dA_run_63 ?_
      by_cases hs0 : w32 (ext6.getD (w32 ((a1 * 8) + z1)).toNat 0) = 1
      · refine r_lookup (off := 123) (tgt := 188) dA_run_65 (by decide) (by rw [hs0]; decide) (by decide) ?_
        replace h := h.1 hs0
        refine r_iload_n 3 8 rfl dA_run_188 rfl ?_
        refine r_aload_n 0 5 rfl dA_run_189 rfl ?_
        refine q_getI 4 c69 fA_35 rfl rfl dA_run_190 ?_
        refine r_iadd dA_run_193 ?_
        exact q_iret rfl h dA_run_194
      · replace h := h.2
        by_cases hs1 : w32 (ext6.getD (w32 ((a1 * 8) + z1)).toNat 0) = 2
        · refine r_lookup (off := 130) (tgt := 195) dA_run_65 (by decide) (by rw [hs1]; decide) (by decide) ?_
          replace h := h.1 hs1
          refine r_aload_n 0 5 rfl dA_run_195 rfl ?_
          refine r_iconst dA_run_196 ?_
          refine r_iload 7 2 rfl dA_run_197 ?_
          refine r_iload_n 3 8 rfl dA_run_199 rfl ?_
          refine r_iload 8 1 rfl dA_run_200 ?_
          refine r_callSi [_, _, _, _, _] rfl oA_run iA_run yA_41 (by omega) ⟨Nat.le_refl _, Nat.le_refl _⟩ rfl (Nat.le_of_ble_eq_true rfl) dA_run_202 h (fun z4 r4 m4 h => ?_)
          obtain ⟨sw4, rfl, h⟩ := h
          refine r_aload_n 0 5 rfl dA_run_205 rfl ?_
          refine r_iconst dA_run_206 ?_
          refine r_iload 7 2 rfl dA_run_207 ?_
          refine r_iconst dA_run_209 ?_
          refine r_iload 8 1 rfl dA_run_210 ?_
          refine r_callSi [_, _, _, _, _] rfl oA_run iA_run yA_41 (by omega) ⟨Nat.le_refl _, Nat.le_refl _⟩ rfl (Nat.le_of_ble_eq_true rfl) dA_run_212 h (fun z5 r5 m5 h => ?_)
          obtain ⟨sw5, rfl, h⟩ := h
          refine r_isub dA_run_215 ?_
          exact q_iret rfl h dA_run_216
        · replace h := h.2
          by_cases hs2 : w32 (ext6.getD (w32 ((a1 * 8) + z1)).toNat 0) = 10
          · refine r_lookup (off := 152) (tgt := 217) dA_run_65 (by decide) (by rw [hs2]; decide) (by decide) ?_
            replace h := h.1 hs2
            refine r_aload_n 0 5 rfl dA_run_217 rfl ?_
            refine r_iconst dA_run_218 ?_
            refine r_iload 7 2 rfl dA_run_219 ?_
            refine r_iload_n 3 8 rfl dA_run_221 rfl ?_
            refine r_iload 8 1 rfl dA_run_222 ?_
            refine r_callSi [_, _, _, _, _] rfl oA_run iA_run yA_41 (by omega) ⟨Nat.le_refl _, Nat.le_refl _⟩ rfl (Nat.le_of_ble_eq_true rfl) dA_run_224 h (fun z6 r6 m6 h => ?_)
            obtain ⟨sw6, rfl, h⟩ := h
            refine r_iconst dA_run_227 ?_
            refine r_imul dA_run_228 ?_
            exact q_iret rfl h dA_run_229
          · replace h := h.2
            by_cases hs3 : w32 (ext6.getD (w32 ((a1 * 8) + z1)).toNat 0) = 11
            · refine r_lookup (off := 165) (tgt := 230) dA_run_65 (by decide) (by rw [hs3]; decide) (by decide) ?_
              replace h := h.1 hs3
              refine r_iload_n 3 8 rfl dA_run_230 rfl ?_
              refine r_aload_n 0 5 rfl dA_run_231 rfl ?_
              refine q_getI 4 c69 fA_35 rfl rfl dA_run_232 ?_
              refine r_ixor dA_run_235 ?_
              exact q_iret rfl h dA_run_236
            · replace h := h.2
              by_cases hs4 : w32 (ext6.getD (w32 ((a1 * 8) + z1)).toNat 0) = 20
              · refine r_lookup (off := 172) (tgt := 237) dA_run_65 (by decide) (by rw [hs4]; decide) (by decide) ?_
                replace h := h.1 hs4
                refine r_aload_n 0 5 rfl dA_run_237 rfl ?_
                refine r_iload_n 1 6 rfl dA_run_238 rfl ?_
                refine r_iload 6 3 rfl dA_run_239 ?_
                refine r_iload_n 3 8 rfl dA_run_241 rfl ?_
                refine r_iload 8 1 rfl dA_run_242 ?_
                refine r_callSi [_, _, _, _, _] rfl oA_run iA_run yA_41 (by omega) ⟨Nat.le_refl _, Nat.le_refl _⟩ rfl (Nat.le_of_ble_eq_true rfl) dA_run_244 h (fun z7 r7 m7 h => ?_)
                obtain ⟨sw7, rfl, h⟩ := h
                refine r_iconst dA_run_247 ?_
                refine r_iadd dA_run_248 ?_
                exact q_iret rfl h dA_run_249
              · replace h := h.2
                by_cases hs5 : w32 (ext6.getD (w32 ((a1 * 8) + z1)).toNat 0) = 30
                · refine r_lookup (off := 185) (tgt := 250) dA_run_65 (by decide) (by rw [hs5]; decide) (by decide) ?_
                  replace h := h.1 hs5
                  refine r_aload_n 0 5 rfl dA_run_250 rfl ?_
                  refine r_iload_n 1 6 rfl dA_run_251 rfl ?_
                  refine r_iload 6 3 rfl dA_run_252 ?_
                  refine r_iload_n 3 8 rfl dA_run_254 rfl ?_
                  refine r_iload 8 1 rfl dA_run_255 ?_
                  refine r_callSi [_, _, _, _, _] rfl oA_run iA_run yA_41 (by omega) ⟨Nat.le_refl _, Nat.le_refl _⟩ rfl (Nat.le_of_ble_eq_true rfl) dA_run_257 h (fun z8 r8 m8 h => ?_)
                  obtain ⟨sw8, rfl, h⟩ := h
                  refine r_ineg dA_run_260 ?_
                  exact q_iret rfl h dA_run_261
                · replace h := h.2
                  by_cases hs6 : w32 (ext6.getD (w32 ((a1 * 8) + z1)).toNat 0) = 40
                  · refine r_lookup (off := 197) (tgt := 262) dA_run_65 (by decide) (by rw [hs6]; decide) (by decide) ?_
                    replace h := h.1 hs6
                    refine r_aload_n 0 5 rfl dA_run_262 rfl ?_
                    refine r_iload_n 1 6 rfl dA_run_263 rfl ?_
                    refine r_iload 6 3 rfl dA_run_264 ?_
                    refine r_iload_n 3 8 rfl dA_run_266 rfl ?_
                    refine r_iload 8 1 rfl dA_run_267 ?_
                    refine r_callSi [_, _, _, _, _] rfl oA_run iA_run yA_41 (by omega) ⟨Nat.le_refl _, Nat.le_refl _⟩ rfl (Nat.le_of_ble_eq_true rfl) dA_run_269 h (fun z9 r9 m9 h => ?_)
                    obtain ⟨sw9, rfl, h⟩ := h
                    refine r_iconst dA_run_272 ?_
                    refine r_imul dA_run_273 ?_
                    exact q_iret rfl h dA_run_274
                  · replace h := h.2
                    by_cases hs7 : w32 (ext6.getD (w32 ((a1 * 8) + z1)).toNat 0) = 41
                    · refine r_lookup (off := 210) (tgt := 275) dA_run_65 (by decide) (by rw [hs7]; decide) (by decide) ?_
                      replace h := h.1 hs7
                      refine r_aload_n 0 5 rfl dA_run_275 rfl ?_
                      refine r_iload_n 1 6 rfl dA_run_276 rfl ?_
                      refine r_iload 6 3 rfl dA_run_277 ?_
                      refine r_iload_n 3 8 rfl dA_run_279 rfl ?_
                      refine r_iconst dA_run_280 ?_
                      refine r_iadd dA_run_281 ?_
                      refine r_iload 8 1 rfl dA_run_282 ?_
                      refine r_callSi [_, _, _, _, _] rfl oA_run iA_run yA_41 (by omega) ⟨Nat.le_refl _, Nat.le_refl _⟩ rfl (Nat.le_of_ble_eq_true rfl) dA_run_284 h (fun z10 r10 m10 h => ?_)
                      obtain ⟨sw10, rfl, h⟩ := h
                      exact q_iret rfl h dA_run_287
                    · replace h := h.2
                      by_cases hs8 : w32 (ext6.getD (w32 ((a1 * 8) + z1)).toNat 0) = 50
                      · refine r_lookup (off := 223) (tgt := 288) dA_run_65 (by decide) (by rw [hs8]; decide) (by decide) ?_
                        replace h := h.1 hs8
                        refine r_aload_n 0 5 rfl dA_run_288 rfl ?_
                        refine r_iload_n 1 6 rfl dA_run_289 rfl ?_
                        refine r_iload 6 3 rfl dA_run_290 ?_
                        refine r_iload_n 3 8 rfl dA_run_292 rfl ?_
                        refine r_iload 8 1 rfl dA_run_293 ?_
                        refine r_callSi [_, _, _, _, _] rfl oA_run iA_run yA_41 (by omega) ⟨Nat.le_refl _, Nat.le_refl _⟩ rfl (Nat.le_of_ble_eq_true rfl) dA_run_295 h (fun z11 r11 m11 h => ?_)
                        obtain ⟨sw11, rfl, h⟩ := h
                        refine r_iconst dA_run_298 ?_
                        refine r_ixor dA_run_299 ?_
                        exact q_iret rfl h dA_run_300
                      · replace h := h.2
                        by_cases hs9 : w32 (ext6.getD (w32 ((a1 * 8) + z1)).toNat 0) = 60
                        · refine r_lookup (off := 236) (tgt := 301) dA_run_65 (by decide) (by rw [hs9]; decide) (by decide) ?_
                          replace h := h.1 hs9
                          refine r_aload_n 0 5 rfl dA_run_301 rfl ?_
                          refine r_iload_n 1 6 rfl dA_run_302 rfl ?_
                          refine r_iload 6 3 rfl dA_run_303 ?_
                          refine r_iload_n 3 8 rfl dA_run_305 rfl ?_
                          refine r_iload 8 1 rfl dA_run_306 ?_
                          refine r_callSi [_, _, _, _, _] rfl oA_run iA_run yA_41 (by omega) ⟨Nat.le_refl _, Nat.le_refl _⟩ rfl (Nat.le_of_ble_eq_true rfl) dA_run_308 h (fun z12 r12 m12 h => ?_)
                          obtain ⟨sw12, rfl, h⟩ := h
                          refine r_aload_n 0 5 rfl dA_run_311 rfl ?_
                          refine r_iconst dA_run_312 ?_
                          refine r_iload 7 2 rfl dA_run_313 ?_
                          refine r_iconst dA_run_315 ?_
                          refine r_iload 8 1 rfl dA_run_316 ?_
                          refine r_callSi [_, _, _, _, _] rfl oA_run iA_run yA_41 (by omega) ⟨Nat.le_refl _, Nat.le_refl _⟩ rfl (Nat.le_of_ble_eq_true rfl) dA_run_318 h (fun z13 r13 m13 h => ?_)
                          obtain ⟨sw13, rfl, h⟩ := h
                          refine r_isub dA_run_321 ?_
                          exact q_iret rfl h dA_run_322
                        · replace h := h.2
                          by_cases hs10 : w32 (ext6.getD (w32 ((a1 * 8) + z1)).toNat 0) = 61
                          · refine r_lookup (off := 258) (tgt := 323) dA_run_65 (by decide) (by rw [hs10]; decide) (by decide) ?_
                            replace h := h.1 hs10
                            refine r_aload_n 0 5 rfl dA_run_323 rfl ?_
                            refine r_iload_n 1 6 rfl dA_run_324 rfl ?_
                            refine r_iload 6 3 rfl dA_run_325 ?_
                            refine r_iload_n 3 8 rfl dA_run_327 rfl ?_
                            refine r_iload 8 1 rfl dA_run_328 ?_
                            refine r_callSi [_, _, _, _, _] rfl oA_run iA_run yA_41 (by omega) ⟨Nat.le_refl _, Nat.le_refl _⟩ rfl (Nat.le_of_ble_eq_true rfl) dA_run_330 h (fun z14 r14 m14 h => ?_)
                            obtain ⟨sw14, rfl, h⟩ := h
                            refine r_iconst dA_run_333 ?_
                            refine r_iadd dA_run_334 ?_
                            exact q_iret rfl h dA_run_335
                          · replace h := h.2
                            by_cases hs11 : w32 (ext6.getD (w32 ((a1 * 8) + z1)).toNat 0) = 70
                            · refine r_lookup (off := 271) (tgt := 336) dA_run_65 (by decide) (by rw [hs11]; decide) (by decide) ?_
                              replace h := h.1 hs11
                              refine r_aload_n 0 5 rfl dA_run_336 rfl ?_
                              refine r_iload_n 1 6 rfl dA_run_337 rfl ?_
                              refine r_iload 6 3 rfl dA_run_338 ?_
                              refine r_iload_n 3 8 rfl dA_run_340 rfl ?_
                              refine r_iload 8 1 rfl dA_run_341 ?_
                              refine r_callSi [_, _, _, _, _] rfl oA_run iA_run yA_41 (by omega) ⟨Nat.le_refl _, Nat.le_refl _⟩ rfl (Nat.le_of_ble_eq_true rfl) dA_run_343 h (fun z15 r15 m15 h => ?_)
                              obtain ⟨sw15, rfl, h⟩ := h
                              refine r_iconst dA_run_346 ?_
                              refine r_imul dA_run_347 ?_
                              exact q_iret rfl h dA_run_348
                            · replace h := h.2
                              by_cases hs12 : w32 (ext6.getD (w32 ((a1 * 8) + z1)).toNat 0) = 80
                              · refine r_lookup (off := 284) (tgt := 349) dA_run_65 (by decide) (by rw [hs12]; decide) (by decide) ?_
                                replace h := h.1 hs12
                                refine r_aload_n 0 5 rfl dA_run_349 rfl ?_
                                refine r_iload_n 1 6 rfl dA_run_350 rfl ?_
                                refine r_iload 6 3 rfl dA_run_351 ?_
                                refine r_iload_n 3 8 rfl dA_run_353 rfl ?_
                                refine r_iload 8 1 rfl dA_run_354 ?_
                                refine r_callSi [_, _, _, _, _] rfl oA_run iA_run yA_41 (by omega) ⟨Nat.le_refl _, Nat.le_refl _⟩ rfl (Nat.le_of_ble_eq_true rfl) dA_run_356 h (fun z16 r16 m16 h => ?_)
                                obtain ⟨sw16, rfl, h⟩ := h
                                refine r_aload_n 0 5 rfl dA_run_359 rfl ?_
                                refine r_iconst dA_run_360 ?_
                                refine r_iload 7 2 rfl dA_run_361 ?_
                                refine r_iconst dA_run_363 ?_
                                refine r_iload 8 1 rfl dA_run_364 ?_
                                refine r_callSi [_, _, _, _, _] rfl oA_run iA_run yA_41 (by omega) ⟨Nat.le_refl _, Nat.le_refl _⟩ rfl (Nat.le_of_ble_eq_true rfl) dA_run_366 h (fun z17 r17 m17 h => ?_)
                                obtain ⟨sw17, rfl, h⟩ := h
                                refine r_iadd dA_run_369 ?_
                                exact q_iret rfl h dA_run_370
                              · replace h := h.2
                                by_cases hs13 : w32 (ext6.getD (w32 ((a1 * 8) + z1)).toNat 0) = 81
                                · refine r_lookup (off := 306) (tgt := 371) dA_run_65 (by decide) (by rw [hs13]; decide) (by decide) ?_
                                  replace h := h.1 hs13
                                  refine r_aload_n 0 5 rfl dA_run_371 rfl ?_
                                  refine r_iload_n 1 6 rfl dA_run_372 rfl ?_
                                  refine r_iload 6 3 rfl dA_run_373 ?_
                                  refine r_iload_n 3 8 rfl dA_run_375 rfl ?_
                                  refine r_iload 8 1 rfl dA_run_376 ?_
                                  refine r_callSi [_, _, _, _, _] rfl oA_run iA_run yA_41 (by omega) ⟨Nat.le_refl _, Nat.le_refl _⟩ rfl (Nat.le_of_ble_eq_true rfl) dA_run_378 h (fun z18 r18 m18 h => ?_)
                                  obtain ⟨sw18, rfl, h⟩ := h
                                  refine r_iconst dA_run_381 ?_
                                  refine r_isub dA_run_382 ?_
                                  exact q_iret rfl h dA_run_383
                                · replace h := h.2
                                  refine r_lookup (off := 319) (tgt := 384) dA_run_65 (by decide) (by simp only [osw_z hs0, osw_z hs1, osw_z hs2, osw_z hs3, osw_z hs4, osw_z hs5, osw_z hs6, osw_z hs7, osw_z hs8, osw_z hs9, osw_z hs10, osw_z hs11, osw_z hs12, osw_z hs13]; rfl) (by decide) ?_
                                  replace h := h ⟨hs0, hs1, hs2, hs3, hs4, hs5, hs6, hs7, hs8, hs9, hs10, hs11, hs12, hs13⟩
                                  refine r_iconst dA_run_384 ?_
                                  exact q_iret rfl h dA_run_385
    · replace h := h.2 hc
      refine r_iconst dA_run_22 ?_
      exact q_iret rfl h dA_run_23
