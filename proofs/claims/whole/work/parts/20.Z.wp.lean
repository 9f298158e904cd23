theorem dZ_part_0 : decode mZ_part.2.1 0 = .ok (.iload_n 2, 1) := by decide +kernel
theorem dZ_part_1 : decode mZ_part.2.1 1 = .ok (.ifCond .ge 7, 3) := by decide +kernel
theorem dZ_part_4 : decode mZ_part.2.1 4 = .ok (.iconst (-1), 1) := by decide +kernel
theorem dZ_part_5 : decode mZ_part.2.1 5 = .ok (.goto 19, 3) := by decide +kernel
theorem dZ_part_8 : decode mZ_part.2.1 8 = .ok (.aload_n 0, 1) := by decide +kernel
theorem dZ_part_9 : decode mZ_part.2.1 9 = .ok (.getfield 20, 3) := by decide +kernel
theorem dZ_part_12 : decode mZ_part.2.1 12 = .ok (.iload_n 1, 1) := by decide +kernel
theorem dZ_part_13 : decode mZ_part.2.1 13 = .ok (.iload_n 2, 1) := by decide +kernel
theorem dZ_part_14 : decode mZ_part.2.1 14 = .ok (.bipush 100, 2) := by decide +kernel
theorem dZ_part_16 : decode mZ_part.2.1 16 = .ok (.idiv, 1) := by decide +kernel
theorem dZ_part_17 : decode mZ_part.2.1 17 = .ok (.iload_n 2, 1) := by decide +kernel
theorem dZ_part_18 : decode mZ_part.2.1 18 = .ok (.bipush 100, 2) := by decide +kernel
theorem dZ_part_20 : decode mZ_part.2.1 20 = .ok (.irem, 1) := by decide +kernel
theorem dZ_part_21 : decode mZ_part.2.1 21 = .ok (.invokevirtual 85, 3) := by decide +kernel
theorem dZ_part_24 : decode mZ_part.2.1 24 = .ok (.ireturn, 1) := by decide +kernel
/- Z_part: (II)I -/
set_option maxRecDepth 4000 in
theorem wZ_part {X : Cx} (a1 a2 : Int) (sw : Bool) (m : Mem) (Q : Int → Bool → Mem → Prop) (h : ((0 ≤ w32 a2 → M2 X 3 mK_add [vr 2, vi a1, vi (zdiv a2 100), vi (zrem a2 100)] sw m (fun z1 sw1 m1 => Q z1 sw1 m1)) ∧ (¬ (0 ≤ w32 a2) → Q (-1) sw m))) : M2 X 4 mZ_part [vr 1, vi a1, vi a2] sw m Q := by
  refine Mt.of pZ_part (Nat.le_of_ble_eq_true rfl) (Nat.le_refl _) ?_
  show R2 X 4 mZ_part 0 [(0, vr 1), (1, vi a1), (2, vi a2)] [] sw m Q
  refine r_iload_n 2 2 rfl dZ_part_0 rfl ?_
  refine r_if_ge (tgt := 8) dZ_part_1 (by decide) (fun hc => ?_) (fun hc => ?_)
  · replace h := h.1 hc
    refine r_aload_n 0 0 rfl dZ_part_8 rfl ?_
    refine q_getR 0 c1 fZ_20 rfl rfl (g1_0 sw) (by decide) dZ_part_9 ?_
    refine r_iload_n 1 1 rfl dZ_part_12 rfl ?_
    refine r_iload_n 2 2 rfl dZ_part_13 rfl ?_
    refine r_bipush (by decide) dZ_part_14 ?_
    refine r_idiv (by decide) dZ_part_16 ?_
    refine r_iload_n 2 2 rfl dZ_part_17 rfl ?_
    refine r_bipush (by decide) dZ_part_18 ?_
    refine r_irem (by decide) dZ_part_20 ?_
    refine r_callVi 1 [_, _, _] rfl c2 rfl rfl oK_add iK_add sK_add yZ_85 (by decide) ⟨Nat.le_refl _, Nat.le_refl _⟩ rfl (Nat.le_of_ble_eq_true rfl) dZ_part_21 h (fun z1 r1 m1 h => ?_)
    obtain ⟨sw1, rfl, h⟩ := h
    exact q_iret rfl h dZ_part_24
  · replace h := h.2 hc
    refine r_iconst dZ_part_4 ?_
    refine r_goto (tgt := 24) dZ_part_5 (by decide) ?_
    exact q_iret rfl h dZ_part_24
theorem dZ_parts_0 : decode mZ_parts.2.1 0 = .ok (.iload_n 3, 1) := by decide +kernel
theorem dZ_parts_1 : decode mZ_parts.2.1 1 = .ok (.iconst 1, 1) := by decide +kernel
theorem dZ_parts_2 : decode mZ_parts.2.1 2 = .ok (.if_icmp .lt 9, 3) := by decide +kernel
theorem dZ_parts_5 : decode mZ_parts.2.1 5 = .ok (.iload_n 3, 1) := by decide +kernel
theorem dZ_parts_6 : decode mZ_parts.2.1 6 = .ok (.bipush 9, 2) := by decide +kernel
theorem dZ_parts_8 : decode mZ_parts.2.1 8 = .ok (.if_icmp .le 5, 3) := by decide +kernel
theorem dZ_parts_11 : decode mZ_parts.2.1 11 = .ok (.iconst (-1), 1) := by decide +kernel
theorem dZ_parts_12 : decode mZ_parts.2.1 12 = .ok (.ireturn, 1) := by decide +kernel
theorem dZ_parts_13 : decode mZ_parts.2.1 13 = .ok (.aload_n 0, 1) := by decide +kernel
theorem dZ_parts_14 : decode mZ_parts.2.1 14 = .ok (.getfield 81, 3) := by decide +kernel
theorem dZ_parts_17 : decode mZ_parts.2.1 17 = .ok (.iload_n 1, 1) := by decide +kernel
theorem dZ_parts_18 : decode mZ_parts.2.1 18 = .ok (.invokevirtual 89, 3) := by decide +kernel
theorem dZ_parts_21 : decode mZ_parts.2.1 21 = .ok (.istore 4, 2) := by decide +kernel
theorem dZ_parts_23 : decode mZ_parts.2.1 23 = .ok (.iload 4, 2) := by decide +kernel
theorem dZ_parts_25 : decode mZ_parts.2.1 25 = .ok (.ifCond .eq 17, 3) := by decide +kernel
theorem dZ_parts_28 : decode mZ_parts.2.1 28 = .ok (.iload 4, 2) := by decide +kernel
theorem dZ_parts_30 : decode mZ_parts.2.1 30 = .ok (.bipush (-11), 2) := by decide +kernel
theorem dZ_parts_32 : decode mZ_parts.2.1 32 = .ok (.if_icmp .ne 7, 3) := by decide +kernel
theorem dZ_parts_35 : decode mZ_parts.2.1 35 = .ok (.iconst 0, 1) := by decide +kernel
theorem dZ_parts_36 : decode mZ_parts.2.1 36 = .ok (.goto 5, 3) := by decide +kernel
theorem dZ_parts_39 : decode mZ_parts.2.1 39 = .ok (.iload 4, 2) := by decide +kernel
theorem dZ_parts_41 : decode mZ_parts.2.1 41 = .ok (.ireturn, 1) := by decide +kernel
theorem dZ_parts_42 : decode mZ_parts.2.1 42 = .ok (.iconst 0, 1) := by decide +kernel
theorem dZ_parts_43 : decode mZ_parts.2.1 43 = .ok (.istore 5, 2) := by decide +kernel
theorem dZ_parts_45 : decode mZ_parts.2.1 45 = .ok (.iload 5, 2) := by decide +kernel
theorem dZ_parts_47 : decode mZ_parts.2.1 47 = .ok (.iload_n 3, 1) := by decide +kernel
theorem dZ_parts_48 : decode mZ_parts.2.1 48 = .ok (.if_icmp .ge 27, 3) := by decide +kernel
theorem dZ_parts_51 : decode mZ_parts.2.1 51 = .ok (.aload_n 0, 1) := by decide +kernel
theorem dZ_parts_52 : decode mZ_parts.2.1 52 = .ok (.iload_n 1, 1) := by decide +kernel
theorem dZ_parts_53 : decode mZ_parts.2.1 53 = .ok (.iload_n 2, 1) := by decide +kernel
theorem dZ_parts_54 : decode mZ_parts.2.1 54 = .ok (.i2l, 1) := by decide +kernel
theorem dZ_parts_55 : decode mZ_parts.2.1 55 = .ok (.ldc2_w 93, 3) := by decide +kernel
theorem dZ_parts_58 : decode mZ_parts.2.1 58 = .ok (.iload 5, 2) := by decide +kernel
theorem dZ_parts_60 : decode mZ_parts.2.1 60 = .ok (.i2l, 1) := by decide +kernel
theorem dZ_parts_61 : decode mZ_parts.2.1 61 = .ok (.lmul, 1) := by decide +kernel
theorem dZ_parts_62 : decode mZ_parts.2.1 62 = .ok (.ladd, 1) := by decide +kernel
theorem dZ_parts_63 : decode mZ_parts.2.1 63 = .ok (.invokevirtual 95, 3) := by decide +kernel
theorem dZ_parts_66 : decode mZ_parts.2.1 66 = .ok (.ifCond .eq 9, 3) := by decide +kernel
theorem dZ_parts_69 : decode mZ_parts.2.1 69 = .ok (.iinc 5 1, 3) := by decide +kernel
theorem dZ_parts_72 : decode mZ_parts.2.1 72 = .ok (.goto (-27), 3) := by decide +kernel
theorem dZ_parts_75 : decode mZ_parts.2.1 75 = .ok (.iload 5, 2) := by decide +kernel
theorem dZ_parts_77 : decode mZ_parts.2.1 77 = .ok (.ireturn, 1) := by decide +kernel
/- Z_parts: (III)I -/
set_option maxRecDepth 4000 in
theorem wZ_parts {X : Cx} (a1 a2 a3 : Int) (sw : Bool) (m : Mem) (Q : Int → Bool → Mem → Prop) (h : ((w32 a3 < 1 → Q (-1) sw m) ∧ (¬ (w32 a3 < 1) → ((w32 a3 ≤ 9 → M2 X 3 mS_refusalOfShorts [vr 72, vi a1] sw m (fun z1 sw1 m1 => ((w32 z1 = 0 → R2 X 6 mZ_parts 45 [(0, vr 1), (1, vi a1), (2, vi a2), (3, vi a3), (5, vi 0)] [] sw1 m1 Q) ∧ (¬ (w32 z1 = 0) → ((¬ w32 z1 = (-11) → Q z1 sw1 m1) ∧ (¬ (¬ w32 z1 = (-11)) → Q 0 sw1 m1)))))) ∧ (¬ (w32 a3 ≤ 9) → Q (-1) sw m))))) : M2 X 6 mZ_parts [vr 1, vi a1, vi a2, vi a3] sw m Q := by
  refine Mt.of pZ_parts (Nat.le_of_ble_eq_true rfl) (Nat.le_refl _) ?_
  show R2 X 6 mZ_parts 0 [(0, vr 1), (1, vi a1), (2, vi a2), (3, vi a3)] [] sw m Q
  refine r_iload_n 3 3 rfl dZ_parts_0 rfl ?_
  refine r_iconst dZ_parts_1 ?_
  refine r_ifc_lt (tgt := 11) dZ_parts_2 (by decide) (fun hc => ?_) (fun hc => ?_)
  · replace h := h.1 hc
    refine r_iconst dZ_parts_11 ?_
    exact q_iret rfl h dZ_parts_12
  · replace h := h.2 hc
    refine r_iload_n 3 3 rfl dZ_parts_5 rfl ?_
    refine r_bipush (by decide) dZ_parts_6 ?_
    refine r_ifc_le (tgt := 13) dZ_parts_8 (by decide) (fun hc => ?_) (fun hc => ?_)
    · replace h := h.1 hc
      refine r_aload_n 0 0 rfl dZ_parts_13 rfl ?_
      refine q_getR 9 c1 fZ_81 rfl rfl (g1_9 sw) (by decide) dZ_parts_14 ?_
      refine r_iload_n 1 1 rfl dZ_parts_17 rfl ?_
      refine r_callVi 11 [_] rfl c72 rfl rfl oS_refusalOfShorts iS_refusalOfShorts sS_refusalOfShorts yZ_89 (by decide) ⟨Nat.le_refl _, Nat.le_refl _⟩ rfl (Nat.le_of_ble_eq_true rfl) dZ_parts_18 h (fun z1 r1 m1 h => ?_)
      obtain ⟨sw1, rfl, h⟩ := h
      refine r_istore 4 (by decide) dZ_parts_21 ?_
      refine r_iload 4 0 rfl dZ_parts_23 ?_
      refine r_if_eq (tgt := 42) dZ_parts_25 (by decide) (fun hc => ?_) (fun hc => ?_)
      · replace h := h.1 hc
        refine r_iconst dZ_parts_42 ?_
        refine r_istore 5 (by decide) dZ_parts_43 ?_
        refine r_sub [2, 3, 4, 5, 0] ?_ h
        rfl
      · replace h := h.2 hc
        refine r_iload 4 0 rfl dZ_parts_28 ?_
        refine r_bipush (by decide) dZ_parts_30 ?_
        refine r_ifc_ne (tgt := 39) dZ_parts_32 (by decide) (fun hc => ?_) (fun hc => ?_)
        · replace h := h.1 hc
          refine r_iload 4 0 rfl dZ_parts_39 ?_
          exact q_iret rfl h dZ_parts_41
        · replace h := h.2 hc
          refine r_iconst dZ_parts_35 ?_
          refine r_goto (tgt := 41) dZ_parts_36 (by decide) ?_
          exact q_iret rfl h dZ_parts_41
    · replace h := h.2 hc
      refine r_iconst dZ_parts_11 ?_
      exact q_iret rfl h dZ_parts_12
set_option maxRecDepth 4000 in
theorem wZ_parts_45 {X : Cx} (x1 x2 x3 x5 : Int) (sw : Bool) (m : Mem) (Q : Int → Bool → Mem → Prop) (h : ((w32 x3 ≤ w32 x5 → Q x5 sw m) ∧ (¬ (w32 x3 ≤ w32 x5) → M2 X 5 mZ_addFromRow [vr 1, vi x1, vl (w32 x2 + (3 * w32 x5))] sw m (fun z1 sw1 m1 => ((w32 z1 = 0 → Q x5 sw1 m1) ∧ (¬ (w32 z1 = 0) → R2 X 6 mZ_parts 45 [(0, vr 1), (1, vi x1), (2, vi x2), (3, vi x3), (5, vi (x5 + 1))] [] sw1 m1 Q)))))) : R2 X 6 mZ_parts 45 [(0, vr 1), (1, vi x1), (2, vi x2), (3, vi x3), (5, vi x5)] [] sw m Q := by
  refine r_iload 5 4 rfl dZ_parts_45 ?_
  refine r_iload_n 3 3 rfl dZ_parts_47 rfl ?_
  refine r_ifc_ge (tgt := 75) dZ_parts_48 (by decide) (fun hc => ?_) (fun hc => ?_)
  · replace h := h.1 hc
    refine r_iload 5 4 rfl dZ_parts_75 ?_
    exact q_iret rfl h dZ_parts_77
  · replace h := h.2 hc
    refine r_aload_n 0 0 rfl dZ_parts_51 rfl ?_
    refine r_iload_n 1 1 rfl dZ_parts_52 rfl ?_
    refine r_iload_n 2 2 rfl dZ_parts_53 rfl ?_
    refine r_i2l dZ_parts_54 ?_
    refine r_ldc2 (z := 3) dZ_parts_55 kZ_93 ?_
    refine r_iload 5 4 rfl dZ_parts_58 ?_
    refine r_i2l dZ_parts_60 ?_
    refine r_lmul dZ_parts_61 ?_
    refine r_ladd dZ_parts_62 ?_
    refine r_callVb 0 [_, _] rfl c1 rfl rfl oZ_addFromRow iZ_addFromRow sZ_addFromRow yZ_95 (by decide) ⟨Nat.le_refl _, Nat.le_refl _⟩ rfl (Nat.le_of_ble_eq_true rfl) dZ_parts_63 h (fun z1 r1 m1 h => ?_)
    obtain ⟨sw1, rfl, h⟩ := h
    refine r_if_eq (tgt := 75) dZ_parts_66 (by decide) (fun hc => ?_) (fun hc => ?_)
    · replace h := h.1 hc
      refine r_iload 5 4 rfl dZ_parts_75 ?_
      exact q_iret rfl h dZ_parts_77
    · replace h := h.2 hc
      refine r_iinc 5 4 rfl (by decide) dZ_parts_69 ?_
      refine r_goto (tgt := 45) dZ_parts_72 (by decide) ?_
      refine r_sub [1, 2, 3, 4, 0] ?_ h
      rfl
theorem dZ_addFromRow_0 : decode mZ_addFromRow.2.1 0 = .ok (.lload_n 2, 1) := by decide +kernel
theorem dZ_addFromRow_1 : decode mZ_addFromRow.2.1 1 = .ok (.lconst 0, 1) := by decide +kernel
theorem dZ_addFromRow_2 : decode mZ_addFromRow.2.1 2 = .ok (.lcmp, 1) := by decide +kernel
theorem dZ_addFromRow_3 : decode mZ_addFromRow.2.1 3 = .ok (.ifCond .lt 21, 3) := by decide +kernel
theorem dZ_addFromRow_6 : decode mZ_addFromRow.2.1 6 = .ok (.lload_n 2, 1) := by decide +kernel
theorem dZ_addFromRow_7 : decode mZ_addFromRow.2.1 7 = .ok (.ldc2_w 93, 3) := by decide +kernel
theorem dZ_addFromRow_10 : decode mZ_addFromRow.2.1 10 = .ok (.ladd, 1) := by decide +kernel
theorem dZ_addFromRow_11 : decode mZ_addFromRow.2.1 11 = .ok (.aload_n 0, 1) := by decide +kernel
theorem dZ_addFromRow_12 : decode mZ_addFromRow.2.1 12 = .ok (.getfield 81, 3) := by decide +kernel
theorem dZ_addFromRow_15 : decode mZ_addFromRow.2.1 15 = .ok (.iload_n 1, 1) := by decide +kernel
theorem dZ_addFromRow_16 : decode mZ_addFromRow.2.1 16 = .ok (.invokevirtual 99, 3) := by decide +kernel
theorem dZ_addFromRow_19 : decode mZ_addFromRow.2.1 19 = .ok (.i2l, 1) := by decide +kernel
theorem dZ_addFromRow_20 : decode mZ_addFromRow.2.1 20 = .ok (.lcmp, 1) := by decide +kernel
theorem dZ_addFromRow_21 : decode mZ_addFromRow.2.1 21 = .ok (.ifCond .le 5, 3) := by decide +kernel
theorem dZ_addFromRow_24 : decode mZ_addFromRow.2.1 24 = .ok (.iconst 0, 1) := by decide +kernel
theorem dZ_addFromRow_25 : decode mZ_addFromRow.2.1 25 = .ok (.ireturn, 1) := by decide +kernel
theorem dZ_addFromRow_26 : decode mZ_addFromRow.2.1 26 = .ok (.lload_n 2, 1) := by decide +kernel
theorem dZ_addFromRow_27 : decode mZ_addFromRow.2.1 27 = .ok (.l2i, 1) := by decide +kernel
theorem dZ_addFromRow_28 : decode mZ_addFromRow.2.1 28 = .ok (.istore 4, 2) := by decide +kernel
theorem dZ_addFromRow_30 : decode mZ_addFromRow.2.1 30 = .ok (.aload_n 0, 1) := by decide +kernel
theorem dZ_addFromRow_31 : decode mZ_addFromRow.2.1 31 = .ok (.getfield 81, 3) := by decide +kernel
theorem dZ_addFromRow_34 : decode mZ_addFromRow.2.1 34 = .ok (.iload_n 1, 1) := by decide +kernel
theorem dZ_addFromRow_35 : decode mZ_addFromRow.2.1 35 = .ok (.iload 4, 2) := by decide +kernel
theorem dZ_addFromRow_37 : decode mZ_addFromRow.2.1 37 = .ok (.invokevirtual 102, 3) := by decide +kernel
theorem dZ_addFromRow_40 : decode mZ_addFromRow.2.1 40 = .ok (.l2i, 1) := by decide +kernel
theorem dZ_addFromRow_41 : decode mZ_addFromRow.2.1 41 = .ok (.istore 5, 2) := by decide +kernel
theorem dZ_addFromRow_43 : decode mZ_addFromRow.2.1 43 = .ok (.aload_n 0, 1) := by decide +kernel
theorem dZ_addFromRow_44 : decode mZ_addFromRow.2.1 44 = .ok (.getfield 81, 3) := by decide +kernel
theorem dZ_addFromRow_47 : decode mZ_addFromRow.2.1 47 = .ok (.iload_n 1, 1) := by decide +kernel
theorem dZ_addFromRow_48 : decode mZ_addFromRow.2.1 48 = .ok (.iload 4, 2) := by decide +kernel
theorem dZ_addFromRow_50 : decode mZ_addFromRow.2.1 50 = .ok (.iconst 1, 1) := by decide +kernel
theorem dZ_addFromRow_51 : decode mZ_addFromRow.2.1 51 = .ok (.iadd, 1) := by decide +kernel
theorem dZ_addFromRow_52 : decode mZ_addFromRow.2.1 52 = .ok (.invokevirtual 102, 3) := by decide +kernel
theorem dZ_addFromRow_55 : decode mZ_addFromRow.2.1 55 = .ok (.l2i, 1) := by decide +kernel
theorem dZ_addFromRow_56 : decode mZ_addFromRow.2.1 56 = .ok (.istore 6, 2) := by decide +kernel
theorem dZ_addFromRow_58 : decode mZ_addFromRow.2.1 58 = .ok (.aload_n 0, 1) := by decide +kernel
theorem dZ_addFromRow_59 : decode mZ_addFromRow.2.1 59 = .ok (.getfield 81, 3) := by decide +kernel
theorem dZ_addFromRow_62 : decode mZ_addFromRow.2.1 62 = .ok (.iload_n 1, 1) := by decide +kernel
theorem dZ_addFromRow_63 : decode mZ_addFromRow.2.1 63 = .ok (.iload 4, 2) := by decide +kernel
theorem dZ_addFromRow_65 : decode mZ_addFromRow.2.1 65 = .ok (.iconst 2, 1) := by decide +kernel
theorem dZ_addFromRow_66 : decode mZ_addFromRow.2.1 66 = .ok (.iadd, 1) := by decide +kernel
theorem dZ_addFromRow_67 : decode mZ_addFromRow.2.1 67 = .ok (.invokevirtual 102, 3) := by decide +kernel
theorem dZ_addFromRow_70 : decode mZ_addFromRow.2.1 70 = .ok (.l2i, 1) := by decide +kernel
theorem dZ_addFromRow_71 : decode mZ_addFromRow.2.1 71 = .ok (.istore 7, 2) := by decide +kernel
theorem dZ_addFromRow_73 : decode mZ_addFromRow.2.1 73 = .ok (.aload_n 0, 1) := by decide +kernel
theorem dZ_addFromRow_74 : decode mZ_addFromRow.2.1 74 = .ok (.getfield 20, 3) := by decide +kernel
theorem dZ_addFromRow_77 : decode mZ_addFromRow.2.1 77 = .ok (.iload 5, 2) := by decide +kernel
theorem dZ_addFromRow_79 : decode mZ_addFromRow.2.1 79 = .ok (.iload 6, 2) := by decide +kernel
theorem dZ_addFromRow_81 : decode mZ_addFromRow.2.1 81 = .ok (.iload 7, 2) := by decide +kernel
theorem dZ_addFromRow_83 : decode mZ_addFromRow.2.1 83 = .ok (.invokevirtual 85, 3) := by decide +kernel
theorem dZ_addFromRow_86 : decode mZ_addFromRow.2.1 86 = .ok (.ifCond .lt 7, 3) := by decide +kernel
theorem dZ_addFromRow_89 : decode mZ_addFromRow.2.1 89 = .ok (.iconst 1, 1) := by decide +kernel
theorem dZ_addFromRow_90 : decode mZ_addFromRow.2.1 90 = .ok (.goto 4, 3) := by decide +kernel
theorem dZ_addFromRow_93 : decode mZ_addFromRow.2.1 93 = .ok (.iconst 0, 1) := by decide +kernel
theorem dZ_addFromRow_94 : decode mZ_addFromRow.2.1 94 = .ok (.ireturn, 1) := by decide +kernel
/- Z_addFromRow: (IJ)Z -/
set_option maxRecDepth 4000 in
theorem wZ_addFromRow {X : Cx} (a1 a2 : Int) (sw : Bool) (m : Mem) (Q : Int → Bool → Mem → Prop) (h : ((w64 a2 < 0 → Q 0 sw m) ∧ (¬ (w64 a2 < 0) → M2 X 3 mS_sizeOf [vr 72, vi a1] sw m (fun z1 sw1 m1 => ((w64 (a2 + 3) ≤ w64 (w32 z1) → M2 X 4 mS_cell [vr 72, vi a1, vi a2] sw1 m1 (fun z2 sw2 m2 => M2 X 4 mS_cell [vr 72, vi a1, vi (a2 + 1)] sw2 m2 (fun z3 sw3 m3 => M2 X 4 mS_cell [vr 72, vi a1, vi (a2 + 2)] sw3 m3 (fun z4 sw4 m4 => M2 X 3 mK_add [vr 2, vi z2, vi z3, vi z4] sw4 m4 (fun z5 sw5 m5 => ((w32 z5 < 0 → Q 0 sw5 m5) ∧ (¬ (w32 z5 < 0) → Q 1 sw5 m5))))))) ∧ (¬ (w64 (a2 + 3) ≤ w64 (w32 z1)) → Q 0 sw1 m1)))))) : M2 X 5 mZ_addFromRow [vr 1, vi a1, vl a2] sw m Q := by
  refine Mt.of pZ_addFromRow (Nat.le_of_ble_eq_true rfl) (Nat.le_refl _) ?_
  show R2 X 5 mZ_addFromRow 0 [(0, vr 1), (1, vi a1), (2, vl a2)] [] sw m Q
  refine r_lload_n 2 2 rfl dZ_addFromRow_0 rfl ?_
  refine r_lconst dZ_addFromRow_1 ?_
  refine q_lc_lt (tgt := 24) (A := w64 a2) (B := 0) rfl (by decide +kernel) dZ_addFromRow_2 dZ_addFromRow_3 (by decide) (fun hc => ?_) (fun hc => ?_)
  · replace h := h.1 hc
    refine r_iconst dZ_addFromRow_24 ?_
    exact q_bret rfl (Or.inl rfl) h dZ_addFromRow_25
  · replace h := h.2 hc
    refine r_lload_n 2 2 rfl dZ_addFromRow_6 rfl ?_
    refine r_ldc2 (z := 3) dZ_addFromRow_7 kZ_93 ?_
    refine r_ladd dZ_addFromRow_10 ?_
    refine r_aload_n 0 0 rfl dZ_addFromRow_11 rfl ?_
    refine q_getR 9 c1 fZ_81 rfl rfl (g1_9 sw) (by decide) dZ_addFromRow_12 ?_
    refine r_iload_n 1 1 rfl dZ_addFromRow_15 rfl ?_
    refine r_callVi 11 [_] rfl c72 rfl rfl oS_sizeOf iS_sizeOf sS_sizeOf yZ_99 (by decide) ⟨Nat.le_refl _, Nat.le_refl _⟩ rfl (Nat.le_of_ble_eq_true rfl) dZ_addFromRow_16 h (fun z1 r1 m1 h => ?_)
    obtain ⟨sw1, rfl, h⟩ := h
    refine r_i2l dZ_addFromRow_19 ?_
    refine q_lc_le (tgt := 26) (A := w64 (a2 + 3)) (B := w64 (w32 z1)) rfl rfl dZ_addFromRow_20 dZ_addFromRow_21 (by decide) (fun hc => ?_) (fun hc => ?_)
    · replace h := h.1 hc
      refine r_lload_n 2 2 rfl dZ_addFromRow_26 rfl ?_
      refine r_l2i dZ_addFromRow_27 ?_
      refine r_istore 4 (by decide) dZ_addFromRow_28 ?_
      refine r_aload_n 0 1 rfl dZ_addFromRow_30 rfl ?_
      refine q_getR 9 c1 fZ_81 rfl rfl (g1_9 sw1) (by decide) dZ_addFromRow_31 ?_
      refine r_iload_n 1 2 rfl dZ_addFromRow_34 rfl ?_
      refine r_iload 4 0 rfl dZ_addFromRow_35 ?_
      refine r_callVl 11 [_, _] rfl c72 rfl rfl oS_cell iS_cell sS_cell yZ_102 (by decide) ⟨Nat.le_refl _, Nat.le_refl _⟩ rfl (Nat.le_of_ble_eq_true rfl) dZ_addFromRow_37 h (fun z2 r2 m2 h => ?_)
      obtain ⟨sw2, rfl, h⟩ := h
      refine r_l2i dZ_addFromRow_40 ?_
      refine r_istore 5 (by decide) dZ_addFromRow_41 ?_
      refine r_aload_n 0 2 rfl dZ_addFromRow_43 rfl ?_
      refine q_getR 9 c1 fZ_81 rfl rfl (g1_9 sw2) (by decide) dZ_addFromRow_44 ?_
      refine r_iload_n 1 3 rfl dZ_addFromRow_47 rfl ?_
      refine r_iload 4 1 rfl dZ_addFromRow_48 ?_
      refine r_iconst dZ_addFromRow_50 ?_
      refine r_iadd dZ_addFromRow_51 ?_
      refine r_callVl 11 [_, _] rfl c72 rfl rfl oS_cell iS_cell sS_cell yZ_102 (by decide) ⟨Nat.le_refl _, Nat.le_refl _⟩ rfl (Nat.le_of_ble_eq_true rfl) dZ_addFromRow_52 h (fun z3 r3 m3 h => ?_)
      obtain ⟨sw3, rfl, h⟩ := h
      refine r_l2i dZ_addFromRow_55 ?_
      refine r_istore 6 (by decide) dZ_addFromRow_56 ?_
      refine r_aload_n 0 3 rfl dZ_addFromRow_58 rfl ?_
      refine q_getR 9 c1 fZ_81 rfl rfl (g1_9 sw3) (by decide) dZ_addFromRow_59 ?_
      refine r_iload_n 1 4 rfl dZ_addFromRow_62 rfl ?_
      refine r_iload 4 2 rfl dZ_addFromRow_63 ?_
      refine r_iconst dZ_addFromRow_65 ?_
      refine r_iadd dZ_addFromRow_66 ?_
      refine r_callVl 11 [_, _] rfl c72 rfl rfl oS_cell iS_cell sS_cell yZ_102 (by decide) ⟨Nat.le_refl _, Nat.le_refl _⟩ rfl (Nat.le_of_ble_eq_true rfl) dZ_addFromRow_67 h (fun z4 r4 m4 h => ?_)
      obtain ⟨sw4, rfl, h⟩ := h
      refine r_l2i dZ_addFromRow_70 ?_
      refine r_istore 7 (by decide) dZ_addFromRow_71 ?_
      refine r_aload_n 0 4 rfl dZ_addFromRow_73 rfl ?_
      refine q_getR 0 c1 fZ_20 rfl rfl (g1_0 sw4) (by decide) dZ_addFromRow_74 ?_
      refine r_iload 5 2 rfl dZ_addFromRow_77 ?_
      refine r_iload 6 1 rfl dZ_addFromRow_79 ?_
      refine r_iload 7 0 rfl dZ_addFromRow_81 ?_
      refine r_callVi 1 [_, _, _] rfl c2 rfl rfl oK_add iK_add sK_add yZ_85 (by decide) ⟨Nat.le_refl _, Nat.le_refl _⟩ rfl (Nat.le_of_ble_eq_true rfl) dZ_addFromRow_83 h (fun z5 r5 m5 h => ?_)
      obtain ⟨sw5, rfl, h⟩ := h
      refine r_if_lt (tgt := 93) dZ_addFromRow_86 (by decide) (fun hc => ?_) (fun hc => ?_)
      · replace h := h.1 hc
        refine r_iconst dZ_addFromRow_93 ?_
        exact q_bret rfl (Or.inl rfl) h dZ_addFromRow_94
      · replace h := h.2 hc
        refine r_iconst dZ_addFromRow_89 ?_
        refine r_goto (tgt := 94) dZ_addFromRow_90 (by decide) ?_
        exact q_bret rfl (Or.inr rfl) h dZ_addFromRow_94
    · replace h := h.2 hc
      refine r_iconst dZ_addFromRow_24 ?_
      exact q_bret rfl (Or.inl rfl) h dZ_addFromRow_25
theorem dZ_mend_0 : decode mZ_mend.2.1 0 = .ok (.aload_n 0, 1) := by decide +kernel
theorem dZ_mend_1 : decode mZ_mend.2.1 1 = .ok (.getfield 20, 3) := by decide +kernel
theorem dZ_mend_4 : decode mZ_mend.2.1 4 = .ok (.iload_n 1, 1) := by decide +kernel
theorem dZ_mend_5 : decode mZ_mend.2.1 5 = .ok (.iload_n 2, 1) := by decide +kernel
theorem dZ_mend_6 : decode mZ_mend.2.1 6 = .ok (.invokevirtual 106, 3) := by decide +kernel
theorem dZ_mend_9 : decode mZ_mend.2.1 9 = .ok (.ifCond .eq 16, 3) := by decide +kernel
theorem dZ_mend_12 : decode mZ_mend.2.1 12 = .ok (.aload_n 0, 1) := by decide +kernel
theorem dZ_mend_13 : decode mZ_mend.2.1 13 = .ok (.getfield 20, 3) := by decide +kernel
theorem dZ_mend_16 : decode mZ_mend.2.1 16 = .ok (.iload_n 1, 1) := by decide +kernel
theorem dZ_mend_17 : decode mZ_mend.2.1 17 = .ok (.iload_n 2, 1) := by decide +kernel
theorem dZ_mend_18 : decode mZ_mend.2.1 18 = .ok (.iload_n 3, 1) := by decide +kernel
theorem dZ_mend_19 : decode mZ_mend.2.1 19 = .ok (.invokevirtual 110, 3) := by decide +kernel
theorem dZ_mend_22 : decode mZ_mend.2.1 22 = .ok (.ifCond .ne 5, 3) := by decide +kernel
theorem dZ_mend_25 : decode mZ_mend.2.1 25 = .ok (.iconst (-1), 1) := by decide +kernel
theorem dZ_mend_26 : decode mZ_mend.2.1 26 = .ok (.ireturn, 1) := by decide +kernel
theorem dZ_mend_27 : decode mZ_mend.2.1 27 = .ok (.aload_n 0, 1) := by decide +kernel
theorem dZ_mend_28 : decode mZ_mend.2.1 28 = .ok (.getfield 20, 3) := by decide +kernel
theorem dZ_mend_31 : decode mZ_mend.2.1 31 = .ok (.iload_n 1, 1) := by decide +kernel
theorem dZ_mend_32 : decode mZ_mend.2.1 32 = .ok (.iload_n 2, 1) := by decide +kernel
theorem dZ_mend_33 : decode mZ_mend.2.1 33 = .ok (.invokevirtual 114, 3) := by decide +kernel
theorem dZ_mend_36 : decode mZ_mend.2.1 36 = .ok (.istore 4, 2) := by decide +kernel
theorem dZ_mend_38 : decode mZ_mend.2.1 38 = .ok (.iload 4, 2) := by decide +kernel
theorem dZ_mend_40 : decode mZ_mend.2.1 40 = .ok (.iload_n 3, 1) := by decide +kernel
theorem dZ_mend_41 : decode mZ_mend.2.1 41 = .ok (.if_icmp .eq 13, 3) := by decide +kernel
theorem dZ_mend_44 : decode mZ_mend.2.1 44 = .ok (.aload_n 0, 1) := by decide +kernel
theorem dZ_mend_45 : decode mZ_mend.2.1 45 = .ok (.getfield 67, 3) := by decide +kernel
theorem dZ_mend_48 : decode mZ_mend.2.1 48 = .ok (.iload_n 1, 1) := by decide +kernel
theorem dZ_mend_49 : decode mZ_mend.2.1 49 = .ok (.iload_n 2, 1) := by decide +kernel
theorem dZ_mend_50 : decode mZ_mend.2.1 50 = .ok (.iload_n 3, 1) := by decide +kernel
theorem dZ_mend_51 : decode mZ_mend.2.1 51 = .ok (.invokevirtual 118, 3) := by decide +kernel
theorem dZ_mend_54 : decode mZ_mend.2.1 54 = .ok (.iload 4, 2) := by decide +kernel
theorem dZ_mend_56 : decode mZ_mend.2.1 56 = .ok (.ireturn, 1) := by decide +kernel
/- Z_mend: (III)I -/
set_option maxRecDepth 4000 in
theorem wZ_mend {X : Cx} (a1 a2 a3 : Int) (sw : Bool) (m : Mem) (Q : Int → Bool → Mem → Prop) (h : M2 X 2 mK_knows [vr 2, vi a1, vi a2] sw m (fun z1 sw1 m1 => ((w32 z1 = 0 → Q (-1) sw1 m1) ∧ (¬ (w32 z1 = 0) → M2 X 1 mK_fits [vr 2, vi a1, vi a2, vi a3] sw1 m1 (fun z2 sw2 m2 => ((¬ w32 z2 = 0 → M2 X 2 mK_told [vr 2, vi a1, vi a2] sw2 m2 (fun z3 sw3 m3 => ((w32 z3 = w32 a3 → Q z3 sw3 m3) ∧ (¬ (w32 z3 = w32 a3) → M2 X 3 mG_tell [vr 64, vi a1, vi a2, vi a3] sw3 m3 (fun z4 sw4 m4 => Q z3 sw4 m4))))) ∧ (¬ (¬ w32 z2 = 0) → Q (-1) sw2 m2))))))) : M2 X 4 mZ_mend [vr 1, vi a1, vi a2, vi a3] sw m Q := by
  refine Mt.of pZ_mend (Nat.le_of_ble_eq_true rfl) (Nat.le_refl _) ?_
  show R2 X 4 mZ_mend 0 [(0, vr 1), (1, vi a1), (2, vi a2), (3, vi a3)] [] sw m Q
  refine r_aload_n 0 0 rfl dZ_mend_0 rfl ?_
  refine q_getR 0 c1 fZ_20 rfl rfl (g1_0 sw) (by decide) dZ_mend_1 ?_
  refine r_iload_n 1 1 rfl dZ_mend_4 rfl ?_
  refine r_iload_n 2 2 rfl dZ_mend_5 rfl ?_
  refine r_callVb 1 [_, _] rfl c2 rfl rfl oK_knows iK_knows sK_knows yZ_106 (by decide) ⟨Nat.le_refl _, Nat.le_refl _⟩ rfl (Nat.le_of_ble_eq_true rfl) dZ_mend_6 h (fun z1 r1 m1 h => ?_)
  obtain ⟨sw1, rfl, h⟩ := h
  refine r_if_eq (tgt := 25) dZ_mend_9 (by decide) (fun hc => ?_) (fun hc => ?_)
  · replace h := h.1 hc
    refine r_iconst dZ_mend_25 ?_
    exact q_iret rfl h dZ_mend_26
  · replace h := h.2 hc
    refine r_aload_n 0 0 rfl dZ_mend_12 rfl ?_
    refine q_getR 0 c1 fZ_20 rfl rfl (g1_0 sw1) (by decide) dZ_mend_13 ?_
    refine r_iload_n 1 1 rfl dZ_mend_16 rfl ?_
    refine r_iload_n 2 2 rfl dZ_mend_17 rfl ?_
    refine r_iload_n 3 3 rfl dZ_mend_18 rfl ?_
    refine r_callVb 1 [_, _, _] rfl c2 rfl rfl oK_fits iK_fits sK_fits yZ_110 (by decide) ⟨Nat.le_refl _, Nat.le_refl _⟩ rfl (Nat.le_of_ble_eq_true rfl) dZ_mend_19 h (fun z2 r2 m2 h => ?_)
    obtain ⟨sw2, rfl, h⟩ := h
    refine r_if_ne (tgt := 27) dZ_mend_22 (by decide) (fun hc => ?_) (fun hc => ?_)
    · replace h := h.1 hc
      refine r_aload_n 0 0 rfl dZ_mend_27 rfl ?_
      refine q_getR 0 c1 fZ_20 rfl rfl (g1_0 sw2) (by decide) dZ_mend_28 ?_
      refine r_iload_n 1 1 rfl dZ_mend_31 rfl ?_
      refine r_iload_n 2 2 rfl dZ_mend_32 rfl ?_
      refine r_callVi 1 [_, _] rfl c2 rfl rfl oK_told iK_told sK_told yZ_114 (by decide) ⟨Nat.le_refl _, Nat.le_refl _⟩ rfl (Nat.le_of_ble_eq_true rfl) dZ_mend_33 h (fun z3 r3 m3 h => ?_)
      obtain ⟨sw3, rfl, h⟩ := h
      refine r_istore 4 (by decide) dZ_mend_36 ?_
      refine r_iload 4 0 rfl dZ_mend_38 ?_
      refine r_iload_n 3 4 rfl dZ_mend_40 rfl ?_
      refine r_ifc_eq (tgt := 54) dZ_mend_41 (by decide) (fun hc => ?_) (fun hc => ?_)
      · replace h := h.1 hc
        refine r_iload 4 0 rfl dZ_mend_54 ?_
        exact q_iret rfl h dZ_mend_56
      · replace h := h.2 hc
        refine r_aload_n 0 1 rfl dZ_mend_44 rfl ?_
        refine q_getR 7 c1 fZ_67 rfl rfl (g1_7 sw3) (by decide) dZ_mend_45 ?_
        refine r_iload_n 1 2 rfl dZ_mend_48 rfl ?_
        refine r_iload_n 2 3 rfl dZ_mend_49 rfl ?_
        refine r_iload_n 3 4 rfl dZ_mend_50 rfl ?_
        refine r_callVv 9 [_, _, _] rfl c64 rfl rfl oG_tell iG_tell sG_tell yZ_118 (by decide) ⟨Nat.le_refl _, Nat.le_refl _⟩ rfl (Nat.le_of_ble_eq_true rfl) dZ_mend_51 h (fun z4 r4 m4 h => ?_)
        obtain ⟨sw4, rfl, h⟩ := h
        refine r_iload 4 0 rfl dZ_mend_54 ?_
        exact q_iret rfl h dZ_mend_56
    · replace h := h.2 hc
      refine r_iconst dZ_mend_25 ?_
      exact q_iret rfl h dZ_mend_26
theorem dZ_of_0 : decode mZ_of.2.1 0 = .ok (.aload_n 0, 1) := by decide +kernel
theorem dZ_of_1 : decode mZ_of.2.1 1 = .ok (.getfield 20, 3) := by decide +kernel
theorem dZ_of_4 : decode mZ_of.2.1 4 = .ok (.iload_n 1, 1) := by decide +kernel
theorem dZ_of_5 : decode mZ_of.2.1 5 = .ok (.iload_n 2, 1) := by decide +kernel
theorem dZ_of_6 : decode mZ_of.2.1 6 = .ok (.invokevirtual 106, 3) := by decide +kernel
theorem dZ_of_9 : decode mZ_of.2.1 9 = .ok (.ifCond .eq 15, 3) := by decide +kernel
theorem dZ_of_12 : decode mZ_of.2.1 12 = .ok (.aload_n 0, 1) := by decide +kernel
theorem dZ_of_13 : decode mZ_of.2.1 13 = .ok (.getfield 20, 3) := by decide +kernel
theorem dZ_of_16 : decode mZ_of.2.1 16 = .ok (.iload_n 1, 1) := by decide +kernel
theorem dZ_of_17 : decode mZ_of.2.1 17 = .ok (.iload_n 2, 1) := by decide +kernel
theorem dZ_of_18 : decode mZ_of.2.1 18 = .ok (.invokevirtual 114, 3) := by decide +kernel
theorem dZ_of_21 : decode mZ_of.2.1 21 = .ok (.goto 4, 3) := by decide +kernel
theorem dZ_of_24 : decode mZ_of.2.1 24 = .ok (.iconst (-1), 1) := by decide +kernel
theorem dZ_of_25 : decode mZ_of.2.1 25 = .ok (.ireturn, 1) := by decide +kernel
/- Z_of: (II)I -/
set_option maxRecDepth 4000 in
theorem wZ_of {X : Cx} (a1 a2 : Int) (sw : Bool) (m : Mem) (Q : Int → Bool → Mem → Prop) (h : M2 X 2 mK_knows [vr 2, vi a1, vi a2] sw m (fun z1 sw1 m1 => ((w32 z1 = 0 → Q (-1) sw1 m1) ∧ (¬ (w32 z1 = 0) → M2 X 2 mK_told [vr 2, vi a1, vi a2] sw1 m1 (fun z2 sw2 m2 => Q z2 sw2 m2))))) : M2 X 3 mZ_of [vr 1, vi a1, vi a2] sw m Q := by
  refine Mt.of pZ_of (Nat.le_of_ble_eq_true rfl) (Nat.le_refl _) ?_
  show R2 X 3 mZ_of 0 [(0, vr 1), (1, vi a1), (2, vi a2)] [] sw m Q
  refine r_aload_n 0 0 rfl dZ_of_0 rfl ?_
  refine q_getR 0 c1 fZ_20 rfl rfl (g1_0 sw) (by decide) dZ_of_1 ?_
  refine r_iload_n 1 1 rfl dZ_of_4 rfl ?_
  refine r_iload_n 2 2 rfl dZ_of_5 rfl ?_
  refine r_callVb 1 [_, _] rfl c2 rfl rfl oK_knows iK_knows sK_knows yZ_106 (by decide) ⟨Nat.le_refl _, Nat.le_refl _⟩ rfl (Nat.le_of_ble_eq_true rfl) dZ_of_6 h (fun z1 r1 m1 h => ?_)
  obtain ⟨sw1, rfl, h⟩ := h
  refine r_if_eq (tgt := 24) dZ_of_9 (by decide) (fun hc => ?_) (fun hc => ?_)
  · replace h := h.1 hc
    refine r_iconst dZ_of_24 ?_
    exact q_iret rfl h dZ_of_25
  · replace h := h.2 hc
    refine r_aload_n 0 0 rfl dZ_of_12 rfl ?_
    refine q_getR 0 c1 fZ_20 rfl rfl (g1_0 sw1) (by decide) dZ_of_13 ?_
    refine r_iload_n 1 1 rfl dZ_of_16 rfl ?_
    refine r_iload_n 2 2 rfl dZ_of_17 rfl ?_
    refine r_callVi 1 [_, _] rfl c2 rfl rfl oK_told iK_told sK_told yZ_114 (by decide) ⟨Nat.le_refl _, Nat.le_refl _⟩ rfl (Nat.le_of_ble_eq_true rfl) dZ_of_18 h (fun z2 r2 m2 h => ?_)
    obtain ⟨sw2, rfl, h⟩ := h
    refine r_goto (tgt := 25) dZ_of_21 (by decide) ?_
    exact q_iret rfl h dZ_of_25
theorem dZ_feed_0 : decode mZ_feed.2.1 0 = .ok (.iload_n 1, 1) := by decide +kernel
theorem dZ_feed_1 : decode mZ_feed.2.1 1 = .ok (.ifCond .lt 10, 3) := by decide +kernel
theorem dZ_feed_4 : decode mZ_feed.2.1 4 = .ok (.iload_n 1, 1) := by decide +kernel
theorem dZ_feed_5 : decode mZ_feed.2.1 5 = .ok (.sipush 255, 3) := by decide +kernel
theorem dZ_feed_8 : decode mZ_feed.2.1 8 = .ok (.if_icmp .le 7, 3) := by decide +kernel
theorem dZ_feed_11 : decode mZ_feed.2.1 11 = .ok (.iconst (-1), 1) := by decide +kernel
theorem dZ_feed_12 : decode mZ_feed.2.1 12 = .ok (.goto 14, 3) := by decide +kernel
theorem dZ_feed_15 : decode mZ_feed.2.1 15 = .ok (.aload_n 0, 1) := by decide +kernel
theorem dZ_feed_16 : decode mZ_feed.2.1 16 = .ok (.getfield 20, 3) := by decide +kernel
theorem dZ_feed_19 : decode mZ_feed.2.1 19 = .ok (.getfield 122, 3) := by decide +kernel
theorem dZ_feed_22 : decode mZ_feed.2.1 22 = .ok (.iload_n 1, 1) := by decide +kernel
theorem dZ_feed_23 : decode mZ_feed.2.1 23 = .ok (.invokevirtual 126, 3) := by decide +kernel
theorem dZ_feed_26 : decode mZ_feed.2.1 26 = .ok (.ireturn, 1) := by decide +kernel
/- Z_feed: (I)I -/
set_option maxRecDepth 4000 in
theorem wZ_feed {X : Cx} (a1 : Int) (sw : Bool) (m : Mem) (Q : Int → Bool → Mem → Prop) (h : ((w32 a1 < 0 → Q (-1) sw m) ∧ (¬ (w32 a1 < 0) → ((w32 a1 ≤ 255 → M2 X 1 mL_append [vr 18, vi a1] sw m (fun z1 sw1 m1 => Q z1 sw1 m1)) ∧ (¬ (w32 a1 ≤ 255) → Q (-1) sw m))))) : M2 X 2 mZ_feed [vr 1, vi a1] sw m Q := by
  refine Mt.of pZ_feed (Nat.le_of_ble_eq_true rfl) (Nat.le_refl _) ?_
  show R2 X 2 mZ_feed 0 [(0, vr 1), (1, vi a1)] [] sw m Q
  refine r_iload_n 1 1 rfl dZ_feed_0 rfl ?_
  refine r_if_lt (tgt := 11) dZ_feed_1 (by decide) (fun hc => ?_) (fun hc => ?_)
  · replace h := h.1 hc
    refine r_iconst dZ_feed_11 ?_
    refine r_goto (tgt := 26) dZ_feed_12 (by decide) ?_
    exact q_iret rfl h dZ_feed_26
  · replace h := h.2 hc
    refine r_iload_n 1 1 rfl dZ_feed_4 rfl ?_
    refine r_sipush (by decide) dZ_feed_5 ?_
    refine r_ifc_le (tgt := 15) dZ_feed_8 (by decide) (fun hc => ?_) (fun hc => ?_)
    · replace h := h.1 hc
      refine r_aload_n 0 0 rfl dZ_feed_15 rfl ?_
      refine q_getR 0 c1 fZ_20 rfl rfl (g1_0 sw) (by decide) dZ_feed_16 ?_
      refine q_getR 2 c2 fZ_122 rfl rfl (g2_2 sw) (by decide) dZ_feed_19 ?_
      refine r_iload_n 1 1 rfl dZ_feed_22 rfl ?_
      refine r_callVi 2 [_] rfl c18 rfl rfl oL_append iL_append sL_append yZ_126 (by decide) ⟨Nat.le_refl _, Nat.le_refl _⟩ rfl (Nat.le_of_ble_eq_true rfl) dZ_feed_23 h (fun z1 r1 m1 h => ?_)
      obtain ⟨sw1, rfl, h⟩ := h
      exact q_iret rfl h dZ_feed_26
    · replace h := h.2 hc
      refine r_iconst dZ_feed_11 ?_
      refine r_goto (tgt := 26) dZ_feed_12 (by decide) ?_
      exact q_iret rfl h dZ_feed_26
theorem dZ_law_0 : decode mZ_law.2.1 0 = .ok (.aload_n 0, 1) := by decide +kernel
theorem dZ_law_1 : decode mZ_law.2.1 1 = .ok (.getfield 20, 3) := by decide +kernel
theorem dZ_law_4 : decode mZ_law.2.1 4 = .ok (.getfield 122, 3) := by decide +kernel
theorem dZ_law_7 : decode mZ_law.2.1 7 = .ok (.invokevirtual 131, 3) := by decide +kernel
theorem dZ_law_10 : decode mZ_law.2.1 10 = .ok (.ifCond .ne 17, 3) := by decide +kernel
theorem dZ_law_13 : decode mZ_law.2.1 13 = .ok (.bipush (-100), 2) := by decide +kernel
theorem dZ_law_15 : decode mZ_law.2.1 15 = .ok (.aload_n 0, 1) := by decide +kernel
theorem dZ_law_16 : decode mZ_law.2.1 16 = .ok (.getfield 20, 3) := by decide +kernel
theorem dZ_law_19 : decode mZ_law.2.1 19 = .ok (.getfield 122, 3) := by decide +kernel
theorem dZ_law_22 : decode mZ_law.2.1 22 = .ok (.getfield 135, 3) := by decide +kernel
theorem dZ_law_25 : decode mZ_law.2.1 25 = .ok (.isub, 1) := by decide +kernel
theorem dZ_law_26 : decode mZ_law.2.1 26 = .ok (.ireturn, 1) := by decide +kernel
theorem dZ_law_27 : decode mZ_law.2.1 27 = .ok (.aload_n 0, 1) := by decide +kernel
theorem dZ_law_28 : decode mZ_law.2.1 28 = .ok (.getfield 20, 3) := by decide +kernel
theorem dZ_law_31 : decode mZ_law.2.1 31 = .ok (.dup, 1) := by decide +kernel
theorem dZ_law_32 : decode mZ_law.2.1 32 = .ok (.getfield 139, 3) := by decide +kernel
theorem dZ_law_35 : decode mZ_law.2.1 35 = .ok (.iconst 1, 1) := by decide +kernel
theorem dZ_law_36 : decode mZ_law.2.1 36 = .ok (.iadd, 1) := by decide +kernel
theorem dZ_law_37 : decode mZ_law.2.1 37 = .ok (.putfield 139, 3) := by decide +kernel
theorem dZ_law_40 : decode mZ_law.2.1 40 = .ok (.iconst 1, 1) := by decide +kernel
theorem dZ_law_41 : decode mZ_law.2.1 41 = .ok (.ireturn, 1) := by decide +kernel
/- Z_law: ()I -/
set_option maxRecDepth 4000 in
theorem wZ_law {X : Cx} (sw : Bool) (m : Mem) (Q : Int → Bool → Mem → Prop) (h : M2 X 82 mL_adopt [vr 18] sw m (fun z1 sw1 m1 => ((¬ w32 z1 = 0 → Q 1 sw1 (upm m1 2 4 ((m1 2 4) + 1))) ∧ (¬ (¬ w32 z1 = 0) → Q ((-100) - (m1 18 7)) sw1 m1)))) : M2 X 83 mZ_law [vr 1] sw m Q := by
  refine Mt.of pZ_law (Nat.le_of_ble_eq_true rfl) (Nat.le_refl _) ?_
  show R2 X 83 mZ_law 0 [(0, vr 1)] [] sw m Q
  refine r_aload_n 0 0 rfl dZ_law_0 rfl ?_
  refine q_getR 0 c1 fZ_20 rfl rfl (g1_0 sw) (by decide) dZ_law_1 ?_
  refine q_getR 2 c2 fZ_122 rfl rfl (g2_2 sw) (by decide) dZ_law_4 ?_
  refine r_callVb 2 [] rfl c18 rfl rfl oL_adopt iL_adopt sL_adopt yZ_131 (by decide) ⟨Nat.le_refl _, Nat.le_refl _⟩ rfl (Nat.le_of_ble_eq_true rfl) dZ_law_7 h (fun z1 r1 m1 h => ?_)
  obtain ⟨sw1, rfl, h⟩ := h
  refine r_if_ne (tgt := 27) dZ_law_10 (by decide) (fun hc => ?_) (fun hc => ?_)
  · replace h := h.1 hc
    refine r_aload_n 0 0 rfl dZ_law_27 rfl ?_
    refine q_getR 0 c1 fZ_20 rfl rfl (g1_0 sw1) (by decide) dZ_law_28 ?_
    refine r_dup (fun q => by cases q) dZ_law_31 ?_
    refine q_getI 4 c2 fZ_139 rfl rfl dZ_law_32 ?_
    refine r_iconst dZ_law_35 ?_
    refine r_iadd dZ_law_36 ?_
    refine q_putI 4 c2 pfZ_139 rfl rfl dZ_law_37 ?_
    refine r_iconst dZ_law_40 ?_
    exact q_iret rfl h dZ_law_41
  · replace h := h.2 hc
    refine r_bipush (by decide) dZ_law_13 ?_
    refine r_aload_n 0 0 rfl dZ_law_15 rfl ?_
    refine q_getR 0 c1 fZ_20 rfl rfl (g1_0 sw1) (by decide) dZ_law_16 ?_
    refine q_getR 2 c2 fZ_122 rfl rfl (g2_2 sw1) (by decide) dZ_law_19 ?_
    refine q_getI 7 c18 fZ_135 rfl rfl dZ_law_22 ?_
    refine r_isub dZ_law_25 ?_
    exact q_iret rfl h dZ_law_26
theorem dZ_works_0 : decode mZ_works.2.1 0 = .ok (.aload_n 0, 1) := by decide +kernel
theorem dZ_works_1 : decode mZ_works.2.1 1 = .ok (.getfield 20, 3) := by decide +kernel
theorem dZ_works_4 : decode mZ_works.2.1 4 = .ok (.iload_n 1, 1) := by decide +kernel
theorem dZ_works_5 : decode mZ_works.2.1 5 = .ok (.invokevirtual 142, 3) := by decide +kernel
theorem dZ_works_8 : decode mZ_works.2.1 8 = .ok (.ifCond .eq 23, 3) := by decide +kernel
theorem dZ_works_11 : decode mZ_works.2.1 11 = .ok (.aload_n 0, 1) := by decide +kernel
theorem dZ_works_12 : decode mZ_works.2.1 12 = .ok (.getfield 20, 3) := by decide +kernel
theorem dZ_works_15 : decode mZ_works.2.1 15 = .ok (.iload_n 1, 1) := by decide +kernel
theorem dZ_works_16 : decode mZ_works.2.1 16 = .ok (.aload_n 0, 1) := by decide +kernel
theorem dZ_works_17 : decode mZ_works.2.1 17 = .ok (.getfield 20, 3) := by decide +kernel
theorem dZ_works_20 : decode mZ_works.2.1 20 = .ok (.iload_n 1, 1) := by decide +kernel
theorem dZ_works_21 : decode mZ_works.2.1 21 = .ok (.iconst 5, 1) := by decide +kernel
theorem dZ_works_22 : decode mZ_works.2.1 22 = .ok (.invokevirtual 114, 3) := by decide +kernel
theorem dZ_works_25 : decode mZ_works.2.1 25 = .ok (.invokevirtual 146, 3) := by decide +kernel
theorem dZ_works_28 : decode mZ_works.2.1 28 = .ok (.goto 4, 3) := by decide +kernel
theorem dZ_works_31 : decode mZ_works.2.1 31 = .ok (.iconst (-1), 1) := by decide +kernel
theorem dZ_works_32 : decode mZ_works.2.1 32 = .ok (.ireturn, 1) := by decide +kernel
/- Z_works: (I)I -/
set_option maxRecDepth 4000 in
theorem wZ_works {X : Cx} (a1 : Int) (sw : Bool) (m : Mem) (Q : Int → Bool → Mem → Prop) (h : M2 X 1 mK_has [vr 2, vi a1] sw m (fun z1 sw1 m1 => ((w32 z1 = 0 → Q (-1) sw1 m1) ∧ (¬ (w32 z1 = 0) → M2 X 2 mK_told [vr 2, vi a1, vi 5] sw1 m1 (fun z2 sw2 m2 => M2 X 4 mK_twelfths [vr 2, vi a1, vi z2] sw2 m2 (fun z3 sw3 m3 => Q z3 sw3 m3)))))) : M2 X 5 mZ_works [vr 1, vi a1] sw m Q := by
  refine Mt.of pZ_works (Nat.le_of_ble_eq_true rfl) (Nat.le_refl _) ?_
  show R2 X 5 mZ_works 0 [(0, vr 1), (1, vi a1)] [] sw m Q
  refine r_aload_n 0 0 rfl dZ_works_0 rfl ?_
  refine q_getR 0 c1 fZ_20 rfl rfl (g1_0 sw) (by decide) dZ_works_1 ?_
  refine r_iload_n 1 1 rfl dZ_works_4 rfl ?_
  refine r_callVb 1 [_] rfl c2 rfl rfl oK_has iK_has sK_has yZ_142 (by decide) ⟨Nat.le_refl _, Nat.le_refl _⟩ rfl (Nat.le_of_ble_eq_true rfl) dZ_works_5 h (fun z1 r1 m1 h => ?_)
  obtain ⟨sw1, rfl, h⟩ := h
  refine r_if_eq (tgt := 31) dZ_works_8 (by decide) (fun hc => ?_) (fun hc => ?_)
  · replace h := h.1 hc
    refine r_iconst dZ_works_31 ?_
    exact q_iret rfl h dZ_works_32
  · replace h := h.2 hc
    refine r_aload_n 0 0 rfl dZ_works_11 rfl ?_
    refine q_getR 0 c1 fZ_20 rfl rfl (g1_0 sw1) (by decide) dZ_works_12 ?_
    refine r_iload_n 1 1 rfl dZ_works_15 rfl ?_
    refine r_aload_n 0 0 rfl dZ_works_16 rfl ?_
    refine q_getR 0 c1 fZ_20 rfl rfl (g1_0 sw1) (by decide) dZ_works_17 ?_
    refine r_iload_n 1 1 rfl dZ_works_20 rfl ?_
    refine r_iconst dZ_works_21 ?_
    refine r_callVi 1 [_, _] rfl c2 rfl rfl oK_told iK_told sK_told yZ_114 (by decide) ⟨Nat.le_refl _, Nat.le_refl _⟩ rfl (Nat.le_of_ble_eq_true rfl) dZ_works_22 h (fun z2 r2 m2 h => ?_)
    obtain ⟨sw2, rfl, h⟩ := h
    refine r_callVi 1 [_, _] rfl c2 rfl rfl oK_twelfths iK_twelfths sK_twelfths yZ_146 (by decide) ⟨Nat.le_refl _, Nat.le_refl _⟩ rfl (Nat.le_of_ble_eq_true rfl) dZ_works_25 h (fun z3 r3 m3 h => ?_)
    obtain ⟨sw3, rfl, h⟩ := h
    refine r_goto (tgt := 32) dZ_works_28 (by decide) ?_
    exact q_iret rfl h dZ_works_32
theorem dZ_gone_0 : decode mZ_gone.2.1 0 = .ok (.iload_n 1, 1) := by decide +kernel
theorem dZ_gone_1 : decode mZ_gone.2.1 1 = .ok (.invokestatic 149, 3) := by decide +kernel
theorem dZ_gone_4 : decode mZ_gone.2.1 4 = .ok (.ifCond .eq 14, 3) := by decide +kernel
theorem dZ_gone_7 : decode mZ_gone.2.1 7 = .ok (.aload_n 0, 1) := by decide +kernel
theorem dZ_gone_8 : decode mZ_gone.2.1 8 = .ok (.getfield 20, 3) := by decide +kernel
theorem dZ_gone_11 : decode mZ_gone.2.1 11 = .ok (.iload_n 2, 1) := by decide +kernel
theorem dZ_gone_12 : decode mZ_gone.2.1 12 = .ok (.invokevirtual 142, 3) := by decide +kernel
theorem dZ_gone_15 : decode mZ_gone.2.1 15 = .ok (.ifCond .ne 5, 3) := by decide +kernel
theorem dZ_gone_18 : decode mZ_gone.2.1 18 = .ok (.iconst (-1), 1) := by decide +kernel
theorem dZ_gone_19 : decode mZ_gone.2.1 19 = .ok (.ireturn, 1) := by decide +kernel
theorem dZ_gone_20 : decode mZ_gone.2.1 20 = .ok (.aload_n 0, 1) := by decide +kernel
theorem dZ_gone_21 : decode mZ_gone.2.1 21 = .ok (.getfield 26, 3) := by decide +kernel
theorem dZ_gone_24 : decode mZ_gone.2.1 24 = .ok (.invokevirtual 152, 3) := by decide +kernel
theorem dZ_gone_27 : decode mZ_gone.2.1 27 = .ok (.aload_n 0, 1) := by decide +kernel
theorem dZ_gone_28 : decode mZ_gone.2.1 28 = .ok (.getfield 26, 3) := by decide +kernel
theorem dZ_gone_31 : decode mZ_gone.2.1 31 = .ok (.iload_n 1, 1) := by decide +kernel
theorem dZ_gone_32 : decode mZ_gone.2.1 32 = .ok (.iload_n 2, 1) := by decide +kernel
theorem dZ_gone_33 : decode mZ_gone.2.1 33 = .ok (.invokevirtual 155, 3) := by decide +kernel
theorem dZ_gone_36 : decode mZ_gone.2.1 36 = .ok (.istore_n 3, 1) := by decide +kernel
theorem dZ_gone_37 : decode mZ_gone.2.1 37 = .ok (.iload_n 3, 1) := by decide +kernel
theorem dZ_gone_38 : decode mZ_gone.2.1 38 = .ok (.iconst (-1), 1) := by decide +kernel
theorem dZ_gone_39 : decode mZ_gone.2.1 39 = .ok (.if_icmp .ne 8, 3) := by decide +kernel
theorem dZ_gone_42 : decode mZ_gone.2.1 42 = .ok (.bipush (-2), 2) := by decide +kernel
theorem dZ_gone_44 : decode mZ_gone.2.1 44 = .ok (.goto 4, 3) := by decide +kernel
theorem dZ_gone_47 : decode mZ_gone.2.1 47 = .ok (.iload_n 3, 1) := by decide +kernel
theorem dZ_gone_48 : decode mZ_gone.2.1 48 = .ok (.ireturn, 1) := by decide +kernel
/- Z_gone: (II)I -/
set_option maxRecDepth 4000 in
theorem wZ_gone {X : Cx} (a1 a2 : Int) (sw : Bool) (m : Mem) (Q : Int → Bool → Mem → Prop) (h : M2 X 1 mZ_isSet [vi a1] sw m (fun z1 sw1 m1 => ((w32 z1 = 0 → Q (-1) sw1 m1) ∧ (¬ (w32 z1 = 0) → M2 X 1 mK_has [vr 2, vi a2] sw1 m1 (fun z2 sw2 m2 => ((¬ w32 z2 = 0 → M2 X 5 mP_follow [vr 23] sw2 m2 (fun z3 sw3 m3 => M2 X 2 mP_minuteOf [vr 23, vi a1, vi a2] sw3 m3 (fun z4 sw4 m4 => ((¬ w32 z4 = (-1) → Q z4 sw4 m4) ∧ (¬ (¬ w32 z4 = (-1)) → Q (-2) sw4 m4))))) ∧ (¬ (¬ w32 z2 = 0) → Q (-1) sw2 m2))))))) : M2 X 6 mZ_gone [vr 1, vi a1, vi a2] sw m Q := by
  refine Mt.of pZ_gone (Nat.le_of_ble_eq_true rfl) (Nat.le_refl _) ?_
  show R2 X 6 mZ_gone 0 [(0, vr 1), (1, vi a1), (2, vi a2)] [] sw m Q
  refine r_iload_n 1 1 rfl dZ_gone_0 rfl ?_
  refine r_callSb [_] rfl oZ_isSet iZ_isSet yZ_149 (by decide) ⟨Nat.le_refl _, Nat.le_refl _⟩ rfl (Nat.le_of_ble_eq_true rfl) dZ_gone_1 h (fun z1 r1 m1 h => ?_)
  obtain ⟨sw1, rfl, h⟩ := h
  refine r_if_eq (tgt := 18) dZ_gone_4 (by decide) (fun hc => ?_) (fun hc => ?_)
  · replace h := h.1 hc
    refine r_iconst dZ_gone_18 ?_
    exact q_iret rfl h dZ_gone_19
  · replace h := h.2 hc
    refine r_aload_n 0 0 rfl dZ_gone_7 rfl ?_
    refine q_getR 0 c1 fZ_20 rfl rfl (g1_0 sw1) (by decide) dZ_gone_8 ?_
    refine r_iload_n 2 2 rfl dZ_gone_11 rfl ?_
    refine r_callVb 1 [_] rfl c2 rfl rfl oK_has iK_has sK_has yZ_142 (by decide) ⟨Nat.le_refl _, Nat.le_refl _⟩ rfl (Nat.le_of_ble_eq_true rfl) dZ_gone_12 h (fun z2 r2 m2 h => ?_)
    obtain ⟨sw2, rfl, h⟩ := h
    refine r_if_ne (tgt := 20) dZ_gone_15 (by decide) (fun hc => ?_) (fun hc => ?_)
    · replace h := h.1 hc
      refine r_aload_n 0 0 rfl dZ_gone_20 rfl ?_
      refine q_getR 1 c1 fZ_26 rfl rfl (g1_1 sw2) (by decide) dZ_gone_21 ?_
      refine r_callVv 3 [] rfl c23 rfl rfl oP_follow iP_follow sP_follow yZ_152 (by decide) ⟨Nat.le_refl _, Nat.le_refl _⟩ rfl (Nat.le_of_ble_eq_true rfl) dZ_gone_24 h (fun z3 r3 m3 h => ?_)
      obtain ⟨sw3, rfl, h⟩ := h
      refine r_aload_n 0 0 rfl dZ_gone_27 rfl ?_
      refine q_getR 1 c1 fZ_26 rfl rfl (g1_1 sw3) (by decide) dZ_gone_28 ?_
      refine r_iload_n 1 1 rfl dZ_gone_31 rfl ?_
      refine r_iload_n 2 2 rfl dZ_gone_32 rfl ?_
      refine r_callVi 3 [_, _] rfl c23 rfl rfl oP_minuteOf iP_minuteOf sP_minuteOf yZ_155 (by decide) ⟨Nat.le_refl _, Nat.le_refl _⟩ rfl (Nat.le_of_ble_eq_true rfl) dZ_gone_33 h (fun z4 r4 m4 h => ?_)
      obtain ⟨sw4, rfl, h⟩ := h
      refine r_istore_n 3 (by decide) dZ_gone_36 rfl ?_
      refine r_iload_n 3 0 rfl dZ_gone_37 rfl ?_
      refine r_iconst dZ_gone_38 ?_
      refine r_ifc_ne (tgt := 47) dZ_gone_39 (by decide) (fun hc => ?_) (fun hc => ?_)
      · replace h := h.1 hc
        refine r_iload_n 3 0 rfl dZ_gone_47 rfl ?_
        exact q_iret rfl h dZ_gone_48
      · replace h := h.2 hc
        refine r_bipush (by decide) dZ_gone_42 ?_
        refine r_goto (tgt := 48) dZ_gone_44 (by decide) ?_
        exact q_iret rfl h dZ_gone_48
    · replace h := h.2 hc
      refine r_iconst dZ_gone_18 ?_
      exact q_iret rfl h dZ_gone_19
theorem dZ_stuck_0 : decode mZ_stuck.2.1 0 = .ok (.iload_n 1, 1) := by decide +kernel
theorem dZ_stuck_1 : decode mZ_stuck.2.1 1 = .ok (.invokestatic 149, 3) := by decide +kernel
theorem dZ_stuck_4 : decode mZ_stuck.2.1 4 = .ok (.ifCond .ne 5, 3) := by decide +kernel
theorem dZ_stuck_7 : decode mZ_stuck.2.1 7 = .ok (.iconst (-1), 1) := by decide +kernel
theorem dZ_stuck_8 : decode mZ_stuck.2.1 8 = .ok (.ireturn, 1) := by decide +kernel
theorem dZ_stuck_9 : decode mZ_stuck.2.1 9 = .ok (.aload_n 0, 1) := by decide +kernel
theorem dZ_stuck_10 : decode mZ_stuck.2.1 10 = .ok (.getfield 26, 3) := by decide +kernel
theorem dZ_stuck_13 : decode mZ_stuck.2.1 13 = .ok (.invokevirtual 152, 3) := by decide +kernel
theorem dZ_stuck_16 : decode mZ_stuck.2.1 16 = .ok (.aload_n 0, 1) := by decide +kernel
theorem dZ_stuck_17 : decode mZ_stuck.2.1 17 = .ok (.getfield 26, 3) := by decide +kernel
theorem dZ_stuck_20 : decode mZ_stuck.2.1 20 = .ok (.iload_n 1, 1) := by decide +kernel
theorem dZ_stuck_21 : decode mZ_stuck.2.1 21 = .ok (.invokevirtual 158, 3) := by decide +kernel
theorem dZ_stuck_24 : decode mZ_stuck.2.1 24 = .ok (.ireturn, 1) := by decide +kernel
/- Z_stuck: (I)I -/
set_option maxRecDepth 4000 in
theorem wZ_stuck {X : Cx} (a1 : Int) (sw : Bool) (m : Mem) (Q : Int → Bool → Mem → Prop) (h : M2 X 1 mZ_isSet [vi a1] sw m (fun z1 sw1 m1 => ((¬ w32 z1 = 0 → M2 X 5 mP_follow [vr 23] sw1 m1 (fun z2 sw2 m2 => M2 X 1 mP_stuckOf [vr 23, vi a1] sw2 m2 (fun z3 sw3 m3 => Q z3 sw3 m3))) ∧ (¬ (¬ w32 z1 = 0) → Q (-1) sw1 m1)))) : M2 X 6 mZ_stuck [vr 1, vi a1] sw m Q := by
  refine Mt.of pZ_stuck (Nat.le_of_ble_eq_true rfl) (Nat.le_refl _) ?_
  show R2 X 6 mZ_stuck 0 [(0, vr 1), (1, vi a1)] [] sw m Q
  refine r_iload_n 1 1 rfl dZ_stuck_0 rfl ?_
  refine r_callSb [_] rfl oZ_isSet iZ_isSet yZ_149 (by decide) ⟨Nat.le_refl _, Nat.le_refl _⟩ rfl (Nat.le_of_ble_eq_true rfl) dZ_stuck_1 h (fun z1 r1 m1 h => ?_)
  obtain ⟨sw1, rfl, h⟩ := h
  refine r_if_ne (tgt := 9) dZ_stuck_4 (by decide) (fun hc => ?_) (fun hc => ?_)
  · replace h := h.1 hc
    refine r_aload_n 0 0 rfl dZ_stuck_9 rfl ?_
    refine q_getR 1 c1 fZ_26 rfl rfl (g1_1 sw1) (by decide) dZ_stuck_10 ?_
    refine r_callVv 3 [] rfl c23 rfl rfl oP_follow iP_follow sP_follow yZ_152 (by decide) ⟨Nat.le_refl _, Nat.le_refl _⟩ rfl (Nat.le_of_ble_eq_true rfl) dZ_stuck_13 h (fun z2 r2 m2 h => ?_)
    obtain ⟨sw2, rfl, h⟩ := h
    refine r_aload_n 0 0 rfl dZ_stuck_16 rfl ?_
    refine q_getR 1 c1 fZ_26 rfl rfl (g1_1 sw2) (by decide) dZ_stuck_17 ?_
    refine r_iload_n 1 1 rfl dZ_stuck_20 rfl ?_
    refine r_callVi 3 [_] rfl c23 rfl rfl oP_stuckOf iP_stuckOf sP_stuckOf yZ_158 (by decide) ⟨Nat.le_refl _, Nat.le_refl _⟩ rfl (Nat.le_of_ble_eq_true rfl) dZ_stuck_21 h (fun z3 r3 m3 h => ?_)
    obtain ⟨sw3, rfl, h⟩ := h
    exact q_iret rfl h dZ_stuck_24
  · replace h := h.2 hc
    refine r_iconst dZ_stuck_7 ?_
    exact q_iret rfl h dZ_stuck_8
theorem dZ_likely_0 : decode mZ_likely.2.1 0 = .ok (.iconst (-1), 1) := by decide +kernel
theorem dZ_likely_1 : decode mZ_likely.2.1 1 = .ok (.iload_n 1, 1) := by decide +kernel
theorem dZ_likely_2 : decode mZ_likely.2.1 2 = .ok (.isub, 1) := by decide +kernel
theorem dZ_likely_3 : decode mZ_likely.2.1 3 = .ok (.istore_n 3, 1) := by decide +kernel
theorem dZ_likely_4 : decode mZ_likely.2.1 4 = .ok (.iload_n 2, 1) := by decide +kernel
theorem dZ_likely_5 : decode mZ_likely.2.1 5 = .ok (.invokestatic 161, 3) := by decide +kernel
theorem dZ_likely_8 : decode mZ_likely.2.1 8 = .ok (.ifCond .eq 25, 3) := by decide +kernel
theorem dZ_likely_11 : decode mZ_likely.2.1 11 = .ok (.iload_n 1, 1) := by decide +kernel
theorem dZ_likely_12 : decode mZ_likely.2.1 12 = .ok (.sipush 999, 3) := by decide +kernel
theorem dZ_likely_15 : decode mZ_likely.2.1 15 = .ok (.if_icmp .gt 18, 3) := by decide +kernel
theorem dZ_likely_18 : decode mZ_likely.2.1 18 = .ok (.iload_n 1, 1) := by decide +kernel
theorem dZ_likely_19 : decode mZ_likely.2.1 19 = .ok (.ifCond .ge 18, 3) := by decide +kernel
theorem dZ_likely_22 : decode mZ_likely.2.1 22 = .ok (.aload_n 0, 1) := by decide +kernel
theorem dZ_likely_23 : decode mZ_likely.2.1 23 = .ok (.getfield 20, 3) := by decide +kernel
theorem dZ_likely_26 : decode mZ_likely.2.1 26 = .ok (.iload_n 3, 1) := by decide +kernel
theorem dZ_likely_27 : decode mZ_likely.2.1 27 = .ok (.invokevirtual 142, 3) := by decide +kernel
theorem dZ_likely_30 : decode mZ_likely.2.1 30 = .ok (.ifCond .ne 7, 3) := by decide +kernel
theorem dZ_likely_33 : decode mZ_likely.2.1 33 = .ok (.ldc2_w 166, 3) := by decide +kernel
theorem dZ_likely_36 : decode mZ_likely.2.1 36 = .ok (.lreturn, 1) := by decide +kernel
theorem dZ_likely_37 : decode mZ_likely.2.1 37 = .ok (.aload_n 0, 1) := by decide +kernel
theorem dZ_likely_38 : decode mZ_likely.2.1 38 = .ok (.getfield 30, 3) := by decide +kernel
theorem dZ_likely_41 : decode mZ_likely.2.1 41 = .ok (.invokevirtual 168, 3) := by decide +kernel
theorem dZ_likely_44 : decode mZ_likely.2.1 44 = .ok (.iload_n 1, 1) := by decide +kernel
theorem dZ_likely_45 : decode mZ_likely.2.1 45 = .ok (.ifCond .ge 14, 3) := by decide +kernel
theorem dZ_likely_48 : decode mZ_likely.2.1 48 = .ok (.aload_n 0, 1) := by decide +kernel
theorem dZ_likely_49 : decode mZ_likely.2.1 49 = .ok (.getfield 30, 3) := by decide +kernel
theorem dZ_likely_52 : decode mZ_likely.2.1 52 = .ok (.iload_n 3, 1) := by decide +kernel
theorem dZ_likely_53 : decode mZ_likely.2.1 53 = .ok (.invokevirtual 171, 3) := by decide +kernel
theorem dZ_likely_56 : decode mZ_likely.2.1 56 = .ok (.goto 11, 3) := by decide +kernel
theorem dZ_likely_59 : decode mZ_likely.2.1 59 = .ok (.aload_n 0, 1) := by decide +kernel
theorem dZ_likely_60 : decode mZ_likely.2.1 60 = .ok (.getfield 30, 3) := by decide +kernel
theorem dZ_likely_63 : decode mZ_likely.2.1 63 = .ok (.iload_n 1, 1) := by decide +kernel
theorem dZ_likely_64 : decode mZ_likely.2.1 64 = .ok (.invokevirtual 175, 3) := by decide +kernel
theorem dZ_likely_67 : decode mZ_likely.2.1 67 = .ok (.lstore 4, 2) := by decide +kernel
theorem dZ_likely_69 : decode mZ_likely.2.1 69 = .ok (.lload 4, 2) := by decide +kernel
theorem dZ_likely_71 : decode mZ_likely.2.1 71 = .ok (.aload_n 0, 1) := by decide +kernel
theorem dZ_likely_72 : decode mZ_likely.2.1 72 = .ok (.getfield 30, 3) := by decide +kernel
theorem dZ_likely_75 : decode mZ_likely.2.1 75 = .ok (.getfield 178, 3) := by decide +kernel
theorem dZ_likely_78 : decode mZ_likely.2.1 78 = .ok (.iload_n 2, 1) := by decide +kernel
theorem dZ_likely_79 : decode mZ_likely.2.1 79 = .ok (.invokestatic 182, 3) := by decide +kernel
theorem dZ_likely_82 : decode mZ_likely.2.1 82 = .ok (.lreturn, 1) := by decide +kernel
/- Z_likely: (II)J -/
set_option maxRecDepth 4000 in
theorem wZ_likely {X : Cx} (a1 a2 : Int) (sw : Bool) (m : Mem) (Q : Int → Bool → Mem → Prop) (h : M2 X 1 mZ_isSide [vi a2] sw m (fun z1 sw1 m1 => ((w32 z1 = 0 → Q (-9223372036854775808) sw1 m1) ∧ (¬ (w32 z1 = 0) → ((999 < w32 a1 → Q (-9223372036854775808) sw1 m1) ∧ (¬ (999 < w32 a1) → ((0 ≤ w32 a1 → M2 X 6 mT_think [vr 37] sw1 m1 (fun z2 sw2 m2 => ((0 ≤ w32 a1 → M2 X 1 mT_oddsBy [vr 37, vi a1] sw2 m2 (fun z3 sw3 m3 => M2 X 2 mZ_side [vl z3, vl (m3 37 7), vi a2] sw3 m3 (fun z4 sw4 m4 => Q z4 sw4 m4))) ∧ (¬ (0 ≤ w32 a1) → M2 X 1 mT_oddsToGo [vr 37, vi ((-1) - a1)] sw2 m2 (fun z5 sw5 m5 => M2 X 2 mZ_side [vl z5, vl (m5 37 7), vi a2] sw5 m5 (fun z6 sw6 m6 => Q z6 sw6 m6)))))) ∧ (¬ (0 ≤ w32 a1) → M2 X 1 mK_has [vr 2, vi ((-1) - a1)] sw1 m1 (fun z7 sw7 m7 => ((¬ w32 z7 = 0 → M2 X 6 mT_think [vr 37] sw7 m7 (fun z8 sw8 m8 => ((0 ≤ w32 a1 → M2 X 1 mT_oddsBy [vr 37, vi a1] sw8 m8 (fun z9 sw9 m9 => M2 X 2 mZ_side [vl z9, vl (m9 37 7), vi a2] sw9 m9 (fun z10 sw10 m10 => Q z10 sw10 m10))) ∧ (¬ (0 ≤ w32 a1) → M2 X 1 mT_oddsToGo [vr 37, vi ((-1) - a1)] sw8 m8 (fun z11 sw11 m11 => M2 X 2 mZ_side [vl z11, vl (m11 37 7), vi a2] sw11 m11 (fun z12 sw12 m12 => Q z12 sw12 m12)))))) ∧ (¬ (¬ w32 z7 = 0) → Q (-9223372036854775808) sw7 m7))))))))))) : M2 X 7 mZ_likely [vr 1, vi a1, vi a2] sw m Q := by
  refine Mt.of pZ_likely (Nat.le_of_ble_eq_true rfl) (Nat.le_refl _) ?_
  show R2 X 7 mZ_likely 0 [(0, vr 1), (1, vi a1), (2, vi a2)] [] sw m Q
  refine r_iconst dZ_likely_0 ?_
  refine r_iload_n 1 1 rfl dZ_likely_1 rfl ?_
  refine r_isub dZ_likely_2 ?_
  refine r_istore_n 3 (by decide) dZ_likely_3 rfl ?_
  refine r_iload_n 2 3 rfl dZ_likely_4 rfl ?_
  refine r_callSb [_] rfl oZ_isSide iZ_isSide yZ_161 (by decide) ⟨Nat.le_refl _, Nat.le_refl _⟩ rfl (Nat.le_of_ble_eq_true rfl) dZ_likely_5 h (fun z1 r1 m1 h => ?_)
  obtain ⟨sw1, rfl, h⟩ := h
  refine r_if_eq (tgt := 33) dZ_likely_8 (by decide) (fun hc => ?_) (fun hc => ?_)
  · replace h := h.1 hc
    refine r_ldc2 (z := (-9223372036854775808)) dZ_likely_33 kZ_166 ?_
    exact q_lret rfl h dZ_likely_36
  · replace h := h.2 hc
    refine r_iload_n 1 2 rfl dZ_likely_11 rfl ?_
    refine r_sipush (by decide) dZ_likely_12 ?_
    refine r_ifc_gt (tgt := 33) dZ_likely_15 (by decide) (fun hc => ?_) (fun hc => ?_)
    · replace h := h.1 hc
      refine r_ldc2 (z := (-9223372036854775808)) dZ_likely_33 kZ_166 ?_
      exact q_lret rfl h dZ_likely_36
    · replace h := h.2 hc
      refine r_iload_n 1 2 rfl dZ_likely_18 rfl ?_
      refine r_if_ge (tgt := 37) dZ_likely_19 (by decide) (fun hc => ?_) (fun hc => ?_)
      · replace h := h.1 hc
        refine r_aload_n 0 1 rfl dZ_likely_37 rfl ?_
        refine q_getR 2 c1 fZ_30 rfl rfl (g1_2 sw1) (by decide) dZ_likely_38 ?_
        refine r_callVv 4 [] rfl c37 rfl rfl oT_think iT_think sT_think yZ_168 (by decide) ⟨Nat.le_refl _, Nat.le_refl _⟩ rfl (Nat.le_of_ble_eq_true rfl) dZ_likely_41 h (fun z2 r2 m2 h => ?_)
        obtain ⟨sw2, rfl, h⟩ := h
        refine r_iload_n 1 2 rfl dZ_likely_44 rfl ?_
        refine r_if_ge (tgt := 59) dZ_likely_45 (by decide) (fun hc => ?_) (fun hc => ?_)
        · replace h := h.1 hc
          refine r_aload_n 0 1 rfl dZ_likely_59 rfl ?_
          refine q_getR 2 c1 fZ_30 rfl rfl (g1_2 sw2) (by decide) dZ_likely_60 ?_
          refine r_iload_n 1 2 rfl dZ_likely_63 rfl ?_
          refine r_callVl 4 [_] rfl c37 rfl rfl oT_oddsBy iT_oddsBy sT_oddsBy yZ_175 (by decide) ⟨Nat.le_refl _, Nat.le_refl _⟩ rfl (Nat.le_of_ble_eq_true rfl) dZ_likely_64 h (fun z3 r3 m3 h => ?_)
          obtain ⟨sw3, rfl, h⟩ := h
          refine r_lstore 4 (by decide) dZ_likely_67 ?_
          refine r_lload 4 0 rfl dZ_likely_69 ?_
          refine r_aload_n 0 2 rfl dZ_likely_71 rfl ?_
          refine q_getR 2 c1 fZ_30 rfl rfl (g1_2 sw3) (by decide) dZ_likely_72 ?_
          refine q_getL 7 c37 fZ_178 rfl rfl dZ_likely_75 ?_
          refine r_iload_n 2 4 rfl dZ_likely_78 rfl ?_
          refine r_callSl [_, _, _] rfl oZ_side iZ_side yZ_182 (by decide) ⟨Nat.le_refl _, Nat.le_refl _⟩ rfl (Nat.le_of_ble_eq_true rfl) dZ_likely_79 h (fun z4 r4 m4 h => ?_)
          obtain ⟨sw4, rfl, h⟩ := h
          exact q_lret rfl h dZ_likely_82
        · replace h := h.2 hc
          refine r_aload_n 0 1 rfl dZ_likely_48 rfl ?_
          refine q_getR 2 c1 fZ_30 rfl rfl (g1_2 sw2) (by decide) dZ_likely_49 ?_
          refine r_iload_n 3 0 rfl dZ_likely_52 rfl ?_
          refine r_callVl 4 [_] rfl c37 rfl rfl oT_oddsToGo iT_oddsToGo sT_oddsToGo yZ_171 (by decide) ⟨Nat.le_refl _, Nat.le_refl _⟩ rfl (Nat.le_of_ble_eq_true rfl) dZ_likely_53 h (fun z5 r5 m5 h => ?_)
          obtain ⟨sw5, rfl, h⟩ := h
          refine r_goto (tgt := 67) dZ_likely_56 (by decide) ?_
          refine r_lstore 4 (by decide) dZ_likely_67 ?_
          refine r_lload 4 0 rfl dZ_likely_69 ?_
          refine r_aload_n 0 2 rfl dZ_likely_71 rfl ?_
          refine q_getR 2 c1 fZ_30 rfl rfl (g1_2 sw5) (by decide) dZ_likely_72 ?_
          refine q_getL 7 c37 fZ_178 rfl rfl dZ_likely_75 ?_
          refine r_iload_n 2 4 rfl dZ_likely_78 rfl ?_
          refine r_callSl [_, _, _] rfl oZ_side iZ_side yZ_182 (by decide) ⟨Nat.le_refl _, Nat.le_refl _⟩ rfl (Nat.le_of_ble_eq_true rfl) dZ_likely_79 h (fun z6 r6 m6 h => ?_)
          obtain ⟨sw6, rfl, h⟩ := h
          exact q_lret rfl h dZ_likely_82
      · replace h := h.2 hc
        refine r_aload_n 0 1 rfl dZ_likely_22 rfl ?_
        refine q_getR 0 c1 fZ_20 rfl rfl (g1_0 sw1) (by decide) dZ_likely_23 ?_
        refine r_iload_n 3 0 rfl dZ_likely_26 rfl ?_
        refine r_callVb 1 [_] rfl c2 rfl rfl oK_has iK_has sK_has yZ_142 (by decide) ⟨Nat.le_refl _, Nat.le_refl _⟩ rfl (Nat.le_of_ble_eq_true rfl) dZ_likely_27 h (fun z7 r7 m7 h => ?_)
        obtain ⟨sw7, rfl, h⟩ := h
        refine r_if_ne (tgt := 37) dZ_likely_30 (by decide) (fun hc => ?_) (fun hc => ?_)
        · replace h := h.1 hc
          refine r_aload_n 0 1 rfl dZ_likely_37 rfl ?_
          refine q_getR 2 c1 fZ_30 rfl rfl (g1_2 sw7) (by decide) dZ_likely_38 ?_
          refine r_callVv 4 [] rfl c37 rfl rfl oT_think iT_think sT_think yZ_168 (by decide) ⟨Nat.le_refl _, Nat.le_refl _⟩ rfl (Nat.le_of_ble_eq_true rfl) dZ_likely_41 h (fun z8 r8 m8 h => ?_)
          obtain ⟨sw8, rfl, h⟩ := h
          refine r_iload_n 1 2 rfl dZ_likely_44 rfl ?_
          refine r_if_ge (tgt := 59) dZ_likely_45 (by decide) (fun hc => ?_) (fun hc => ?_)
          · replace h := h.1 hc
            refine r_aload_n 0 1 rfl dZ_likely_59 rfl ?_
            refine q_getR 2 c1 fZ_30 rfl rfl (g1_2 sw8) (by decide) dZ_likely_60 ?_
            refine r_iload_n 1 2 rfl dZ_likely_63 rfl ?_
            refine r_callVl 4 [_] rfl c37 rfl rfl oT_oddsBy iT_oddsBy sT_oddsBy yZ_175 (by decide) ⟨Nat.le_refl _, Nat.le_refl _⟩ rfl (Nat.le_of_ble_eq_true rfl) dZ_likely_64 h (fun z9 r9 m9 h => ?_)
            obtain ⟨sw9, rfl, h⟩ := h
            refine r_lstore 4 (by decide) dZ_likely_67 ?_
            refine r_lload 4 0 rfl dZ_likely_69 ?_
            refine r_aload_n 0 2 rfl dZ_likely_71 rfl ?_
            refine q_getR 2 c1 fZ_30 rfl rfl (g1_2 sw9) (by decide) dZ_likely_72 ?_
            refine q_getL 7 c37 fZ_178 rfl rfl dZ_likely_75 ?_
            refine r_iload_n 2 4 rfl dZ_likely_78 rfl ?_
            refine r_callSl [_, _, _] rfl oZ_side iZ_side yZ_182 (by decide) ⟨Nat.le_refl _, Nat.le_refl _⟩ rfl (Nat.le_of_ble_eq_true rfl) dZ_likely_79 h (fun z10 r10 m10 h => ?_)
            obtain ⟨sw10, rfl, h⟩ := h
            exact q_lret rfl h dZ_likely_82
          · replace h := h.2 hc
            refine r_aload_n 0 1 rfl dZ_likely_48 rfl ?_
            refine q_getR 2 c1 fZ_30 rfl rfl (g1_2 sw8) (by decide) dZ_likely_49 ?_
            refine r_iload_n 3 0 rfl dZ_likely_52 rfl ?_
            refine r_callVl 4 [_] rfl c37 rfl rfl oT_oddsToGo iT_oddsToGo sT_oddsToGo yZ_171 (by decide) ⟨Nat.le_refl _, Nat.le_refl _⟩ rfl (Nat.le_of_ble_eq_true rfl) dZ_likely_53 h (fun z11 r11 m11 h => ?_)
            obtain ⟨sw11, rfl, h⟩ := h
            refine r_goto (tgt := 67) dZ_likely_56 (by decide) ?_
            refine r_lstore 4 (by decide) dZ_likely_67 ?_
            refine r_lload 4 0 rfl dZ_likely_69 ?_
            refine r_aload_n 0 2 rfl dZ_likely_71 rfl ?_
            refine q_getR 2 c1 fZ_30 rfl rfl (g1_2 sw11) (by decide) dZ_likely_72 ?_
            refine q_getL 7 c37 fZ_178 rfl rfl dZ_likely_75 ?_
            refine r_iload_n 2 4 rfl dZ_likely_78 rfl ?_
            refine r_callSl [_, _, _] rfl oZ_side iZ_side yZ_182 (by decide) ⟨Nat.le_refl _, Nat.le_refl _⟩ rfl (Nat.le_of_ble_eq_true rfl) dZ_likely_79 h (fun z12 r12 m12 h => ?_)
            obtain ⟨sw12, rfl, h⟩ := h
            exact q_lret rfl h dZ_likely_82
        · replace h := h.2 hc
          refine r_ldc2 (z := (-9223372036854775808)) dZ_likely_33 kZ_166 ?_
          exact q_lret rfl h dZ_likely_36
theorem dZ_when_0 : decode mZ_when.2.1 0 = .ok (.iload_n 1, 1) := by decide +kernel
theorem dZ_when_1 : decode mZ_when.2.1 1 = .ok (.invokestatic 161, 3) := by decide +kernel
theorem dZ_when_4 : decode mZ_when.2.1 4 = .ok (.ifCond .ne 5, 3) := by decide +kernel
theorem dZ_when_7 : decode mZ_when.2.1 7 = .ok (.iconst (-1), 1) := by decide +kernel
theorem dZ_when_8 : decode mZ_when.2.1 8 = .ok (.ireturn, 1) := by decide +kernel
theorem dZ_when_9 : decode mZ_when.2.1 9 = .ok (.aload_n 0, 1) := by decide +kernel
theorem dZ_when_10 : decode mZ_when.2.1 10 = .ok (.getfield 30, 3) := by decide +kernel
theorem dZ_when_13 : decode mZ_when.2.1 13 = .ok (.invokevirtual 168, 3) := by decide +kernel
theorem dZ_when_16 : decode mZ_when.2.1 16 = .ok (.iload_n 1, 1) := by decide +kernel
theorem dZ_when_17 : decode mZ_when.2.1 17 = .ok (.ifCond .ne 13, 3) := by decide +kernel
theorem dZ_when_20 : decode mZ_when.2.1 20 = .ok (.aload_n 0, 1) := by decide +kernel
theorem dZ_when_21 : decode mZ_when.2.1 21 = .ok (.getfield 30, 3) := by decide +kernel
theorem dZ_when_24 : decode mZ_when.2.1 24 = .ok (.invokevirtual 186, 3) := by decide +kernel
theorem dZ_when_27 : decode mZ_when.2.1 27 = .ok (.goto 10, 3) := by decide +kernel
theorem dZ_when_30 : decode mZ_when.2.1 30 = .ok (.aload_n 0, 1) := by decide +kernel
theorem dZ_when_31 : decode mZ_when.2.1 31 = .ok (.getfield 30, 3) := by decide +kernel
theorem dZ_when_34 : decode mZ_when.2.1 34 = .ok (.invokevirtual 190, 3) := by decide +kernel
theorem dZ_when_37 : decode mZ_when.2.1 37 = .ok (.istore_n 2, 1) := by decide +kernel
theorem dZ_when_38 : decode mZ_when.2.1 38 = .ok (.iload_n 2, 1) := by decide +kernel
theorem dZ_when_39 : decode mZ_when.2.1 39 = .ok (.iconst (-1), 1) := by decide +kernel
theorem dZ_when_40 : decode mZ_when.2.1 40 = .ok (.if_icmp .ne 8, 3) := by decide +kernel
theorem dZ_when_43 : decode mZ_when.2.1 43 = .ok (.bipush (-2), 2) := by decide +kernel
theorem dZ_when_45 : decode mZ_when.2.1 45 = .ok (.goto 4, 3) := by decide +kernel
theorem dZ_when_48 : decode mZ_when.2.1 48 = .ok (.iload_n 2, 1) := by decide +kernel
theorem dZ_when_49 : decode mZ_when.2.1 49 = .ok (.ireturn, 1) := by decide +kernel
/- Z_when: (I)I -/
set_option maxRecDepth 4000 in
theorem wZ_when {X : Cx} (a1 : Int) (sw : Bool) (m : Mem) (Q : Int → Bool → Mem → Prop) (h : M2 X 1 mZ_isSide [vi a1] sw m (fun z1 sw1 m1 => ((¬ w32 z1 = 0 → M2 X 6 mT_think [vr 37] sw1 m1 (fun z2 sw2 m2 => ((¬ w32 a1 = 0 → M2 X 1 mT_latest [vr 37] sw2 m2 (fun z3 sw3 m3 => ((¬ w32 z3 = (-1) → Q z3 sw3 m3) ∧ (¬ (¬ w32 z3 = (-1)) → Q (-2) sw3 m3)))) ∧ (¬ (¬ w32 a1 = 0) → M2 X 1 mT_soonest [vr 37] sw2 m2 (fun z4 sw4 m4 => ((¬ w32 z4 = (-1) → Q z4 sw4 m4) ∧ (¬ (¬ w32 z4 = (-1)) → Q (-2) sw4 m4))))))) ∧ (¬ (¬ w32 z1 = 0) → Q (-1) sw1 m1)))) : M2 X 7 mZ_when [vr 1, vi a1] sw m Q := by
  refine Mt.of pZ_when (Nat.le_of_ble_eq_true rfl) (Nat.le_refl _) ?_
  show R2 X 7 mZ_when 0 [(0, vr 1), (1, vi a1)] [] sw m Q
  refine r_iload_n 1 1 rfl dZ_when_0 rfl ?_
  refine r_callSb [_] rfl oZ_isSide iZ_isSide yZ_161 (by decide) ⟨Nat.le_refl _, Nat.le_refl _⟩ rfl (Nat.le_of_ble_eq_true rfl) dZ_when_1 h (fun z1 r1 m1 h => ?_)
  obtain ⟨sw1, rfl, h⟩ := h
  refine r_if_ne (tgt := 9) dZ_when_4 (by decide) (fun hc => ?_) (fun hc => ?_)
  · replace h := h.1 hc
    refine r_aload_n 0 0 rfl dZ_when_9 rfl ?_
    refine q_getR 2 c1 fZ_30 rfl rfl (g1_2 sw1) (by decide) dZ_when_10 ?_
    refine r_callVv 4 [] rfl c37 rfl rfl oT_think iT_think sT_think yZ_168 (by decide) ⟨Nat.le_refl _, Nat.le_refl _⟩ rfl (Nat.le_of_ble_eq_true rfl) dZ_when_13 h (fun z2 r2 m2 h => ?_)
    obtain ⟨sw2, rfl, h⟩ := h
    refine r_iload_n 1 1 rfl dZ_when_16 rfl ?_
    refine r_if_ne (tgt := 30) dZ_when_17 (by decide) (fun hc => ?_) (fun hc => ?_)
    · replace h := h.1 hc
      refine r_aload_n 0 0 rfl dZ_when_30 rfl ?_
      refine q_getR 2 c1 fZ_30 rfl rfl (g1_2 sw2) (by decide) dZ_when_31 ?_
      refine r_callVi 4 [] rfl c37 rfl rfl oT_latest iT_latest sT_latest yZ_190 (by decide) ⟨Nat.le_refl _, Nat.le_refl _⟩ rfl (Nat.le_of_ble_eq_true rfl) dZ_when_34 h (fun z3 r3 m3 h => ?_)
      obtain ⟨sw3, rfl, h⟩ := h
      refine r_istore_n 2 (by decide) dZ_when_37 rfl ?_
      refine r_iload_n 2 0 rfl dZ_when_38 rfl ?_
      refine r_iconst dZ_when_39 ?_
      refine r_ifc_ne (tgt := 48) dZ_when_40 (by decide) (fun hc => ?_) (fun hc => ?_)
      · replace h := h.1 hc
        refine r_iload_n 2 0 rfl dZ_when_48 rfl ?_
        exact q_iret rfl h dZ_when_49
      · replace h := h.2 hc
        refine r_bipush (by decide) dZ_when_43 ?_
        refine r_goto (tgt := 49) dZ_when_45 (by decide) ?_
        exact q_iret rfl h dZ_when_49
    · replace h := h.2 hc
      refine r_aload_n 0 0 rfl dZ_when_20 rfl ?_
      refine q_getR 2 c1 fZ_30 rfl rfl (g1_2 sw2) (by decide) dZ_when_21 ?_
      refine r_callVi 4 [] rfl c37 rfl rfl oT_soonest iT_soonest sT_soonest yZ_186 (by decide) ⟨Nat.le_refl _, Nat.le_refl _⟩ rfl (Nat.le_of_ble_eq_true rfl) dZ_when_24 h (fun z4 r4 m4 h => ?_)
      obtain ⟨sw4, rfl, h⟩ := h
      refine r_goto (tgt := 37) dZ_when_27 (by decide) ?_
      refine r_istore_n 2 (by decide) dZ_when_37 rfl ?_
      refine r_iload_n 2 0 rfl dZ_when_38 rfl ?_
      refine r_iconst dZ_when_39 ?_
      refine r_ifc_ne (tgt := 48) dZ_when_40 (by decide) (fun hc => ?_) (fun hc => ?_)
      · replace h := h.1 hc
        refine r_iload_n 2 0 rfl dZ_when_48 rfl ?_
        exact q_iret rfl h dZ_when_49
      · replace h := h.2 hc
        refine r_bipush (by decide) dZ_when_43 ?_
        refine r_goto (tgt := 49) dZ_when_45 (by decide) ?_
        exact q_iret rfl h dZ_when_49
  · replace h := h.2 hc
    refine r_iconst dZ_when_7 ?_
    exact q_iret rfl h dZ_when_8
theorem dZ_mean_0 : decode mZ_mean.2.1 0 = .ok (.iload_n 1, 1) := by decide +kernel
theorem dZ_mean_1 : decode mZ_mean.2.1 1 = .ok (.invokestatic 161, 3) := by decide +kernel
theorem dZ_mean_4 : decode mZ_mean.2.1 4 = .ok (.ifCond .ne 7, 3) := by decide +kernel
theorem dZ_mean_7 : decode mZ_mean.2.1 7 = .ok (.ldc2_w 166, 3) := by decide +kernel
theorem dZ_mean_10 : decode mZ_mean.2.1 10 = .ok (.lreturn, 1) := by decide +kernel
theorem dZ_mean_11 : decode mZ_mean.2.1 11 = .ok (.aload_n 0, 1) := by decide +kernel
theorem dZ_mean_12 : decode mZ_mean.2.1 12 = .ok (.getfield 30, 3) := by decide +kernel
theorem dZ_mean_15 : decode mZ_mean.2.1 15 = .ok (.invokevirtual 168, 3) := by decide +kernel
theorem dZ_mean_18 : decode mZ_mean.2.1 18 = .ok (.aload_n 0, 1) := by decide +kernel
theorem dZ_mean_19 : decode mZ_mean.2.1 19 = .ok (.getfield 30, 3) := by decide +kernel
theorem dZ_mean_22 : decode mZ_mean.2.1 22 = .ok (.invokevirtual 193, 3) := by decide +kernel
theorem dZ_mean_25 : decode mZ_mean.2.1 25 = .ok (.aload_n 0, 1) := by decide +kernel
theorem dZ_mean_26 : decode mZ_mean.2.1 26 = .ok (.getfield 30, 3) := by decide +kernel
theorem dZ_mean_29 : decode mZ_mean.2.1 29 = .ok (.sipush 999, 3) := by decide +kernel
theorem dZ_mean_32 : decode mZ_mean.2.1 32 = .ok (.invokevirtual 175, 3) := by decide +kernel
theorem dZ_mean_35 : decode mZ_mean.2.1 35 = .ok (.iload_n 1, 1) := by decide +kernel
theorem dZ_mean_36 : decode mZ_mean.2.1 36 = .ok (.invokestatic 182, 3) := by decide +kernel
theorem dZ_mean_39 : decode mZ_mean.2.1 39 = .ok (.lreturn, 1) := by decide +kernel
/- Z_mean: (I)J -/
set_option maxRecDepth 4000 in
theorem wZ_mean {X : Cx} (a1 : Int) (sw : Bool) (m : Mem) (Q : Int → Bool → Mem → Prop) (h : M2 X 1 mZ_isSide [vi a1] sw m (fun z1 sw1 m1 => ((¬ w32 z1 = 0 → M2 X 6 mT_think [vr 37] sw1 m1 (fun z2 sw2 m2 => M2 X 1 mT_minutesTogether [vr 37] sw2 m2 (fun z3 sw3 m3 => M2 X 1 mT_oddsBy [vr 37, vi 999] sw3 m3 (fun z4 sw4 m4 => M2 X 2 mZ_side [vl z3, vl z4, vi a1] sw4 m4 (fun z5 sw5 m5 => Q z5 sw5 m5))))) ∧ (¬ (¬ w32 z1 = 0) → Q (-9223372036854775808) sw1 m1)))) : M2 X 7 mZ_mean [vr 1, vi a1] sw m Q := by
  refine Mt.of pZ_mean (Nat.le_of_ble_eq_true rfl) (Nat.le_refl _) ?_
  show R2 X 7 mZ_mean 0 [(0, vr 1), (1, vi a1)] [] sw m Q
  refine r_iload_n 1 1 rfl dZ_mean_0 rfl ?_
  refine r_callSb [_] rfl oZ_isSide iZ_isSide yZ_161 (by decide) ⟨Nat.le_refl _, Nat.le_refl _⟩ rfl (Nat.le_of_ble_eq_true rfl) dZ_mean_1 h (fun z1 r1 m1 h => ?_)
  obtain ⟨sw1, rfl, h⟩ := h
  refine r_if_ne (tgt := 11) dZ_mean_4 (by decide) (fun hc => ?_) (fun hc => ?_)
  · replace h := h.1 hc
    refine r_aload_n 0 0 rfl dZ_mean_11 rfl ?_
    refine q_getR 2 c1 fZ_30 rfl rfl (g1_2 sw1) (by decide) dZ_mean_12 ?_
    refine r_callVv 4 [] rfl c37 rfl rfl oT_think iT_think sT_think yZ_168 (by decide) ⟨Nat.le_refl _, Nat.le_refl _⟩ rfl (Nat.le_of_ble_eq_true rfl) dZ_mean_15 h (fun z2 r2 m2 h => ?_)
    obtain ⟨sw2, rfl, h⟩ := h
    refine r_aload_n 0 0 rfl dZ_mean_18 rfl ?_
    refine q_getR 2 c1 fZ_30 rfl rfl (g1_2 sw2) (by decide) dZ_mean_19 ?_
    refine r_callVl 4 [] rfl c37 rfl rfl oT_minutesTogether iT_minutesTogether sT_minutesTogether yZ_193 (by decide) ⟨Nat.le_refl _, Nat.le_refl _⟩ rfl (Nat.le_of_ble_eq_true rfl) dZ_mean_22 h (fun z3 r3 m3 h => ?_)
    obtain ⟨sw3, rfl, h⟩ := h
    refine r_aload_n 0 0 rfl dZ_mean_25 rfl ?_
    refine q_getR 2 c1 fZ_30 rfl rfl (g1_2 sw3) (by decide) dZ_mean_26 ?_
    refine r_sipush (by decide) dZ_mean_29 ?_
    refine r_callVl 4 [_] rfl c37 rfl rfl oT_oddsBy iT_oddsBy sT_oddsBy yZ_175 (by decide) ⟨Nat.le_refl _, Nat.le_refl _⟩ rfl (Nat.le_of_ble_eq_true rfl) dZ_mean_32 h (fun z4 r4 m4 h => ?_)
    obtain ⟨sw4, rfl, h⟩ := h
    refine r_iload_n 1 1 rfl dZ_mean_35 rfl ?_
    refine r_callSl [_, _, _] rfl oZ_side iZ_side yZ_182 (by decide) ⟨Nat.le_refl _, Nat.le_refl _⟩ rfl (Nat.le_of_ble_eq_true rfl) dZ_mean_36 h (fun z5 r5 m5 h => ?_)
    obtain ⟨sw5, rfl, h⟩ := h
    exact q_lret rfl h dZ_mean_39
  · replace h := h.2 hc
    refine r_ldc2 (z := (-9223372036854775808)) dZ_mean_7 kZ_166 ?_
    exact q_lret rfl h dZ_mean_10
theorem dZ_worth_0 : decode mZ_worth.2.1 0 = .ok (.iload_n 1, 1) := by decide +kernel
theorem dZ_worth_1 : decode mZ_worth.2.1 1 = .ok (.sipush (-300), 3) := by decide +kernel
theorem dZ_worth_4 : decode mZ_worth.2.1 4 = .ok (.if_icmp .lt 10, 3) := by decide +kernel
theorem dZ_worth_7 : decode mZ_worth.2.1 7 = .ok (.iload_n 1, 1) := by decide +kernel
theorem dZ_worth_8 : decode mZ_worth.2.1 8 = .ok (.sipush 300, 3) := by decide +kernel
theorem dZ_worth_11 : decode mZ_worth.2.1 11 = .ok (.if_icmp .le 6, 3) := by decide +kernel
theorem dZ_worth_14 : decode mZ_worth.2.1 14 = .ok (.ldc 197, 2) := by decide +kernel
theorem dZ_worth_16 : decode mZ_worth.2.1 16 = .ok (.ireturn, 1) := by decide +kernel
theorem dZ_worth_17 : decode mZ_worth.2.1 17 = .ok (.aload_n 0, 1) := by decide +kernel
theorem dZ_worth_18 : decode mZ_worth.2.1 18 = .ok (.getfield 30, 3) := by decide +kernel
theorem dZ_worth_21 : decode mZ_worth.2.1 21 = .ok (.invokevirtual 168, 3) := by decide +kernel
theorem dZ_worth_24 : decode mZ_worth.2.1 24 = .ok (.aload_n 0, 1) := by decide +kernel
theorem dZ_worth_25 : decode mZ_worth.2.1 25 = .ok (.getfield 39, 3) := by decide +kernel
theorem dZ_worth_28 : decode mZ_worth.2.1 28 = .ok (.iload_n 1, 1) := by decide +kernel
theorem dZ_worth_29 : decode mZ_worth.2.1 29 = .ok (.invokevirtual 198, 3) := by decide +kernel
theorem dZ_worth_32 : decode mZ_worth.2.1 32 = .ok (.ireturn, 1) := by decide +kernel
/- Z_worth: (I)I -/
set_option maxRecDepth 4000 in
theorem wZ_worth {X : Cx} (a1 : Int) (sw : Bool) (m : Mem) (Q : Int → Bool → Mem → Prop) (h : ((w32 a1 < (-300) → Q (-2000000000) sw m) ∧ (¬ (w32 a1 < (-300)) → ((w32 a1 ≤ 300 → M2 X 6 mT_think [vr 37] sw m (fun z1 sw1 m1 => M2 X 3 mC_worthOf [vr 42, vi a1] sw1 m1 (fun z2 sw2 m2 => Q z2 sw2 m2))) ∧ (¬ (w32 a1 ≤ 300) → Q (-2000000000) sw m))))) : M2 X 7 mZ_worth [vr 1, vi a1] sw m Q := by
  refine Mt.of pZ_worth (Nat.le_of_ble_eq_true rfl) (Nat.le_refl _) ?_
  show R2 X 7 mZ_worth 0 [(0, vr 1), (1, vi a1)] [] sw m Q
  refine r_iload_n 1 1 rfl dZ_worth_0 rfl ?_
  refine r_sipush (by decide) dZ_worth_1 ?_
  refine r_ifc_lt (tgt := 14) dZ_worth_4 (by decide) (fun hc => ?_) (fun hc => ?_)
  · replace h := h.1 hc
    refine r_ldc (z := (-2000000000)) dZ_worth_14 kZ_197 ?_
    exact q_iret rfl h dZ_worth_16
  · replace h := h.2 hc
    refine r_iload_n 1 1 rfl dZ_worth_7 rfl ?_
    refine r_sipush (by decide) dZ_worth_8 ?_
    refine r_ifc_le (tgt := 17) dZ_worth_11 (by decide) (fun hc => ?_) (fun hc => ?_)
    · replace h := h.1 hc
      refine r_aload_n 0 0 rfl dZ_worth_17 rfl ?_
      refine q_getR 2 c1 fZ_30 rfl rfl (g1_2 sw) (by decide) dZ_worth_18 ?_
      refine r_callVv 4 [] rfl c37 rfl rfl oT_think iT_think sT_think yZ_168 (by decide) ⟨Nat.le_refl _, Nat.le_refl _⟩ rfl (Nat.le_of_ble_eq_true rfl) dZ_worth_21 h (fun z1 r1 m1 h => ?_)
      obtain ⟨sw1, rfl, h⟩ := h
      refine r_aload_n 0 0 rfl dZ_worth_24 rfl ?_
      refine q_getR 3 c1 fZ_39 rfl rfl (g1_3 sw1) (by decide) dZ_worth_25 ?_
      refine r_iload_n 1 1 rfl dZ_worth_28 rfl ?_
      refine r_callVi 5 [_] rfl c42 rfl rfl oC_worthOf iC_worthOf sC_worthOf yZ_198 (by decide) ⟨Nat.le_refl _, Nat.le_refl _⟩ rfl (Nat.le_of_ble_eq_true rfl) dZ_worth_29 h (fun z2 r2 m2 h => ?_)
      obtain ⟨sw2, rfl, h⟩ := h
      exact q_iret rfl h dZ_worth_32
    · replace h := h.2 hc
      refine r_ldc (z := (-2000000000)) dZ_worth_14 kZ_197 ?_
      exact q_iret rfl h dZ_worth_16
theorem dZ_begin_0 : decode mZ_begin.2.1 0 = .ok (.iload_n 1, 1) := by decide +kernel
theorem dZ_begin_1 : decode mZ_begin.2.1 1 = .ok (.invokestatic 161, 3) := by decide +kernel
theorem dZ_begin_4 : decode mZ_begin.2.1 4 = .ok (.ifCond .ne 6, 3) := by decide +kernel
theorem dZ_begin_7 : decode mZ_begin.2.1 7 = .ok (.ldc 197, 2) := by decide +kernel
theorem dZ_begin_9 : decode mZ_begin.2.1 9 = .ok (.ireturn, 1) := by decide +kernel
theorem dZ_begin_10 : decode mZ_begin.2.1 10 = .ok (.aload_n 0, 1) := by decide +kernel
theorem dZ_begin_11 : decode mZ_begin.2.1 11 = .ok (.getfield 30, 3) := by decide +kernel
theorem dZ_begin_14 : decode mZ_begin.2.1 14 = .ok (.invokevirtual 168, 3) := by decide +kernel
theorem dZ_begin_17 : decode mZ_begin.2.1 17 = .ok (.aload_n 0, 1) := by decide +kernel
theorem dZ_begin_18 : decode mZ_begin.2.1 18 = .ok (.getfield 39, 3) := by decide +kernel
theorem dZ_begin_21 : decode mZ_begin.2.1 21 = .ok (.invokevirtual 201, 3) := by decide +kernel
theorem dZ_begin_24 : decode mZ_begin.2.1 24 = .ok (.istore_n 2, 1) := by decide +kernel
theorem dZ_begin_25 : decode mZ_begin.2.1 25 = .ok (.iload_n 1, 1) := by decide +kernel
theorem dZ_begin_26 : decode mZ_begin.2.1 26 = .ok (.ifCond .ne 7, 3) := by decide +kernel
theorem dZ_begin_29 : decode mZ_begin.2.1 29 = .ok (.iload_n 2, 1) := by decide +kernel
theorem dZ_begin_30 : decode mZ_begin.2.1 30 = .ok (.goto 11, 3) := by decide +kernel
theorem dZ_begin_33 : decode mZ_begin.2.1 33 = .ok (.aload_n 0, 1) := by decide +kernel
theorem dZ_begin_34 : decode mZ_begin.2.1 34 = .ok (.getfield 39, 3) := by decide +kernel
theorem dZ_begin_37 : decode mZ_begin.2.1 37 = .ok (.iload_n 2, 1) := by decide +kernel
theorem dZ_begin_38 : decode mZ_begin.2.1 38 = .ok (.invokevirtual 198, 3) := by decide +kernel
theorem dZ_begin_41 : decode mZ_begin.2.1 41 = .ok (.ireturn, 1) := by decide +kernel
/- Z_begin: (I)I -/
set_option maxRecDepth 4000 in
theorem wZ_begin {X : Cx} (a1 : Int) (sw : Bool) (m : Mem) (Q : Int → Bool → Mem → Prop) (h : M2 X 1 mZ_isSide [vi a1] sw m (fun z1 sw1 m1 => ((¬ w32 z1 = 0 → M2 X 6 mT_think [vr 37] sw1 m1 (fun z2 sw2 m2 => M2 X 4 mC_bestBegin [vr 42] sw2 m2 (fun z3 sw3 m3 => ((¬ w32 a1 = 0 → M2 X 3 mC_worthOf [vr 42, vi z3] sw3 m3 (fun z4 sw4 m4 => Q z4 sw4 m4)) ∧ (¬ (¬ w32 a1 = 0) → Q z3 sw3 m3))))) ∧ (¬ (¬ w32 z1 = 0) → Q (-2000000000) sw1 m1)))) : M2 X 7 mZ_begin [vr 1, vi a1] sw m Q := by
  refine Mt.of pZ_begin (Nat.le_of_ble_eq_true rfl) (Nat.le_refl _) ?_
  show R2 X 7 mZ_begin 0 [(0, vr 1), (1, vi a1)] [] sw m Q
  refine r_iload_n 1 1 rfl dZ_begin_0 rfl ?_
  refine r_callSb [_] rfl oZ_isSide iZ_isSide yZ_161 (by decide) ⟨Nat.le_refl _, Nat.le_refl _⟩ rfl (Nat.le_of_ble_eq_true rfl) dZ_begin_1 h (fun z1 r1 m1 h => ?_)
  obtain ⟨sw1, rfl, h⟩ := h
  refine r_if_ne (tgt := 10) dZ_begin_4 (by decide) (fun hc => ?_) (fun hc => ?_)
  · replace h := h.1 hc
    refine r_aload_n 0 0 rfl dZ_begin_10 rfl ?_
    refine q_getR 2 c1 fZ_30 rfl rfl (g1_2 sw1) (by decide) dZ_begin_11 ?_
    refine r_callVv 4 [] rfl c37 rfl rfl oT_think iT_think sT_think yZ_168 (by decide) ⟨Nat.le_refl _, Nat.le_refl _⟩ rfl (Nat.le_of_ble_eq_true rfl) dZ_begin_14 h (fun z2 r2 m2 h => ?_)
    obtain ⟨sw2, rfl, h⟩ := h
    refine r_aload_n 0 0 rfl dZ_begin_17 rfl ?_
    refine q_getR 3 c1 fZ_39 rfl rfl (g1_3 sw2) (by decide) dZ_begin_18 ?_
    refine r_callVi 5 [] rfl c42 rfl rfl oC_bestBegin iC_bestBegin sC_bestBegin yZ_201 (by decide) ⟨Nat.le_refl _, Nat.le_refl _⟩ rfl (Nat.le_of_ble_eq_true rfl) dZ_begin_21 h (fun z3 r3 m3 h => ?_)
    obtain ⟨sw3, rfl, h⟩ := h
    refine r_istore_n 2 (by decide) dZ_begin_24 rfl ?_
    refine r_iload_n 1 2 rfl dZ_begin_25 rfl ?_
    refine r_if_ne (tgt := 33) dZ_begin_26 (by decide) (fun hc => ?_) (fun hc => ?_)
    · replace h := h.1 hc
      refine r_aload_n 0 1 rfl dZ_begin_33 rfl ?_
      refine q_getR 3 c1 fZ_39 rfl rfl (g1_3 sw3) (by decide) dZ_begin_34 ?_
      refine r_iload_n 2 0 rfl dZ_begin_37 rfl ?_
      refine r_callVi 5 [_] rfl c42 rfl rfl oC_worthOf iC_worthOf sC_worthOf yZ_198 (by decide) ⟨Nat.le_refl _, Nat.le_refl _⟩ rfl (Nat.le_of_ble_eq_true rfl) dZ_begin_38 h (fun z4 r4 m4 h => ?_)
      obtain ⟨sw4, rfl, h⟩ := h
      exact q_iret rfl h dZ_begin_41
    · replace h := h.2 hc
      refine r_iload_n 2 0 rfl dZ_begin_29 rfl ?_
      refine r_goto (tgt := 41) dZ_begin_30 (by decide) ?_
      exact q_iret rfl h dZ_begin_41
  · replace h := h.2 hc
    refine r_ldc (z := (-2000000000)) dZ_begin_7 kZ_197 ?_
    exact q_iret rfl h dZ_begin_9
theorem dZ_change_0 : decode mZ_change.2.1 0 = .ok (.iload_n 1, 1) := by decide +kernel
theorem dZ_change_1 : decode mZ_change.2.1 1 = .ok (.ifCond .lt 15, 3) := by decide +kernel
theorem dZ_change_4 : decode mZ_change.2.1 4 = .ok (.iload_n 1, 1) := by decide +kernel
theorem dZ_change_5 : decode mZ_change.2.1 5 = .ok (.iconst 2, 1) := by decide +kernel
theorem dZ_change_6 : decode mZ_change.2.1 6 = .ok (.if_icmp .gt 10, 3) := by decide +kernel
theorem dZ_change_9 : decode mZ_change.2.1 9 = .ok (.iload_n 2, 1) := by decide +kernel
theorem dZ_change_10 : decode mZ_change.2.1 10 = .ok (.invokestatic 161, 3) := by decide +kernel
theorem dZ_change_13 : decode mZ_change.2.1 13 = .ok (.ifCond .ne 5, 3) := by decide +kernel
theorem dZ_change_16 : decode mZ_change.2.1 16 = .ok (.iconst (-1), 1) := by decide +kernel
theorem dZ_change_17 : decode mZ_change.2.1 17 = .ok (.ireturn, 1) := by decide +kernel
theorem dZ_change_18 : decode mZ_change.2.1 18 = .ok (.aload_n 0, 1) := by decide +kernel
theorem dZ_change_19 : decode mZ_change.2.1 19 = .ok (.getfield 20, 3) := by decide +kernel
theorem dZ_change_22 : decode mZ_change.2.1 22 = .ok (.getfield 204, 3) := by decide +kernel
theorem dZ_change_25 : decode mZ_change.2.1 25 = .ok (.ifCond .ne 6, 3) := by decide +kernel
theorem dZ_change_28 : decode mZ_change.2.1 28 = .ok (.bipush (-2), 2) := by decide +kernel
theorem dZ_change_30 : decode mZ_change.2.1 30 = .ok (.ireturn, 1) := by decide +kernel
theorem dZ_change_31 : decode mZ_change.2.1 31 = .ok (.aload_n 0, 1) := by decide +kernel
theorem dZ_change_32 : decode mZ_change.2.1 32 = .ok (.getfield 30, 3) := by decide +kernel
theorem dZ_change_35 : decode mZ_change.2.1 35 = .ok (.invokevirtual 168, 3) := by decide +kernel
theorem dZ_change_38 : decode mZ_change.2.1 38 = .ok (.aload_n 0, 1) := by decide +kernel
theorem dZ_change_39 : decode mZ_change.2.1 39 = .ok (.getfield 39, 3) := by decide +kernel
theorem dZ_change_42 : decode mZ_change.2.1 42 = .ok (.iload_n 1, 1) := by decide +kernel
theorem dZ_change_43 : decode mZ_change.2.1 43 = .ok (.iload_n 2, 1) := by decide +kernel
theorem dZ_change_44 : decode mZ_change.2.1 44 = .ok (.ifCond .ne 7, 3) := by decide +kernel
theorem dZ_change_47 : decode mZ_change.2.1 47 = .ok (.iconst 1, 1) := by decide +kernel
theorem dZ_change_48 : decode mZ_change.2.1 48 = .ok (.goto 4, 3) := by decide +kernel
theorem dZ_change_51 : decode mZ_change.2.1 51 = .ok (.iconst 0, 1) := by decide +kernel
theorem dZ_change_52 : decode mZ_change.2.1 52 = .ok (.invokevirtual 207, 3) := by decide +kernel
theorem dZ_change_55 : decode mZ_change.2.1 55 = .ok (.ireturn, 1) := by decide +kernel
/- Z_change: (II)I -/
set_option maxRecDepth 4000 in
theorem wZ_change {X : Cx} (a1 a2 : Int) (sw : Bool) (m : Mem) (Q : Int → Bool → Mem → Prop) (h : ((w32 a1 < 0 → Q (-1) sw m) ∧ (¬ (w32 a1 < 0) → ((2 < w32 a1 → Q (-1) sw m) ∧ (¬ (2 < w32 a1) → M2 X 1 mZ_isSide [vi a2] sw m (fun z1 sw1 m1 => ((¬ w32 z1 = 0 → ((¬ w32 (m1 2 3) = 0 → M2 X 6 mT_think [vr 37] sw1 m1 (fun z2 sw2 m2 => ((¬ w32 a2 = 0 → M2 X 4 mC_bestChange [vr 42, vi a1, vi 0] sw2 m2 (fun z3 sw3 m3 => Q z3 sw3 m3)) ∧ (¬ (¬ w32 a2 = 0) → M2 X 4 mC_bestChange [vr 42, vi a1, vi 1] sw2 m2 (fun z4 sw4 m4 => Q z4 sw4 m4))))) ∧ (¬ (¬ w32 (m1 2 3) = 0) → Q (-2) sw1 m1))) ∧ (¬ (¬ w32 z1 = 0) → Q (-1) sw1 m1)))))))) : M2 X 7 mZ_change [vr 1, vi a1, vi a2] sw m Q := by
  refine Mt.of pZ_change (Nat.le_of_ble_eq_true rfl) (Nat.le_refl _) ?_
  show R2 X 7 mZ_change 0 [(0, vr 1), (1, vi a1), (2, vi a2)] [] sw m Q
  refine r_iload_n 1 1 rfl dZ_change_0 rfl ?_
  refine r_if_lt (tgt := 16) dZ_change_1 (by decide) (fun hc => ?_) (fun hc => ?_)
  · replace h := h.1 hc
    refine r_iconst dZ_change_16 ?_
    exact q_iret rfl h dZ_change_17
  · replace h := h.2 hc
    refine r_iload_n 1 1 rfl dZ_change_4 rfl ?_
    refine r_iconst dZ_change_5 ?_
    refine r_ifc_gt (tgt := 16) dZ_change_6 (by decide) (fun hc => ?_) (fun hc => ?_)
    · replace h := h.1 hc
      refine r_iconst dZ_change_16 ?_
      exact q_iret rfl h dZ_change_17
    · replace h := h.2 hc
      refine r_iload_n 2 2 rfl dZ_change_9 rfl ?_
      refine r_callSb [_] rfl oZ_isSide iZ_isSide yZ_161 (by decide) ⟨Nat.le_refl _, Nat.le_refl _⟩ rfl (Nat.le_of_ble_eq_true rfl) dZ_change_10 h (fun z1 r1 m1 h => ?_)
      obtain ⟨sw1, rfl, h⟩ := h
      refine r_if_ne (tgt := 18) dZ_change_13 (by decide) (fun hc => ?_) (fun hc => ?_)
      · replace h := h.1 hc
        refine r_aload_n 0 0 rfl dZ_change_18 rfl ?_
        refine q_getR 0 c1 fZ_20 rfl rfl (g1_0 sw1) (by decide) dZ_change_19 ?_
        refine q_getI 3 c2 fZ_204 rfl rfl dZ_change_22 ?_
        refine r_if_ne (tgt := 31) dZ_change_25 (by decide) (fun hc => ?_) (fun hc => ?_)
        · replace h := h.1 hc
          refine r_aload_n 0 0 rfl dZ_change_31 rfl ?_
          refine q_getR 2 c1 fZ_30 rfl rfl (g1_2 sw1) (by decide) dZ_change_32 ?_
          refine r_callVv 4 [] rfl c37 rfl rfl oT_think iT_think sT_think yZ_168 (by decide) ⟨Nat.le_refl _, Nat.le_refl _⟩ rfl (Nat.le_of_ble_eq_true rfl) dZ_change_35 h (fun z2 r2 m2 h => ?_)
          obtain ⟨sw2, rfl, h⟩ := h
          refine r_aload_n 0 0 rfl dZ_change_38 rfl ?_
          refine q_getR 3 c1 fZ_39 rfl rfl (g1_3 sw2) (by decide) dZ_change_39 ?_
          refine r_iload_n 1 1 rfl dZ_change_42 rfl ?_
          refine r_iload_n 2 2 rfl dZ_change_43 rfl ?_
          refine r_if_ne (tgt := 51) dZ_change_44 (by decide) (fun hc => ?_) (fun hc => ?_)
          · replace h := h.1 hc
            refine r_iconst dZ_change_51 ?_
            refine r_callVi 5 [_, _] rfl c42 rfl rfl oC_bestChange iC_bestChange sC_bestChange yZ_207 (by decide) ⟨Nat.le_refl _, Nat.le_refl _⟩ rfl (Nat.le_of_ble_eq_true rfl) dZ_change_52 h (fun z3 r3 m3 h => ?_)
            obtain ⟨sw3, rfl, h⟩ := h
            exact q_iret rfl h dZ_change_55
          · replace h := h.2 hc
            refine r_iconst dZ_change_47 ?_
            refine r_goto (tgt := 52) dZ_change_48 (by decide) ?_
            refine r_callVi 5 [_, _] rfl c42 rfl rfl oC_bestChange iC_bestChange sC_bestChange yZ_207 (by decide) ⟨Nat.le_refl _, Nat.le_refl _⟩ rfl (Nat.le_of_ble_eq_true rfl) dZ_change_52 h (fun z4 r4 m4 h => ?_)
            obtain ⟨sw4, rfl, h⟩ := h
            exact q_iret rfl h dZ_change_55
        · replace h := h.2 hc
          refine r_bipush (by decide) dZ_change_28 ?_
          exact q_iret rfl h dZ_change_30
      · replace h := h.2 hc
        refine r_iconst dZ_change_16 ?_
        exact q_iret rfl h dZ_change_17
theorem dZ_fire_0 : decode mZ_fire.2.1 0 = .ok (.iload_n 1, 1) := by decide +kernel
theorem dZ_fire_1 : decode mZ_fire.2.1 1 = .ok (.invokestatic 161, 3) := by decide +kernel
theorem dZ_fire_4 : decode mZ_fire.2.1 4 = .ok (.ifCond .ne 7, 3) := by decide +kernel
theorem dZ_fire_7 : decode mZ_fire.2.1 7 = .ok (.ldc2_w 166, 3) := by decide +kernel
theorem dZ_fire_10 : decode mZ_fire.2.1 10 = .ok (.lreturn, 1) := by decide +kernel
theorem dZ_fire_11 : decode mZ_fire.2.1 11 = .ok (.aload_n 0, 1) := by decide +kernel
theorem dZ_fire_12 : decode mZ_fire.2.1 12 = .ok (.getfield 30, 3) := by decide +kernel
theorem dZ_fire_15 : decode mZ_fire.2.1 15 = .ok (.invokevirtual 168, 3) := by decide +kernel
theorem dZ_fire_18 : decode mZ_fire.2.1 18 = .ok (.aload_n 0, 1) := by decide +kernel
theorem dZ_fire_19 : decode mZ_fire.2.1 19 = .ok (.getfield 39, 3) := by decide +kernel
theorem dZ_fire_22 : decode mZ_fire.2.1 22 = .ok (.invokevirtual 211, 3) := by decide +kernel
theorem dZ_fire_25 : decode mZ_fire.2.1 25 = .ok (.aload_n 0, 1) := by decide +kernel
theorem dZ_fire_26 : decode mZ_fire.2.1 26 = .ok (.getfield 30, 3) := by decide +kernel
theorem dZ_fire_29 : decode mZ_fire.2.1 29 = .ok (.getfield 178, 3) := by decide +kernel
theorem dZ_fire_32 : decode mZ_fire.2.1 32 = .ok (.iload_n 1, 1) := by decide +kernel
theorem dZ_fire_33 : decode mZ_fire.2.1 33 = .ok (.invokestatic 182, 3) := by decide +kernel
theorem dZ_fire_36 : decode mZ_fire.2.1 36 = .ok (.lreturn, 1) := by decide +kernel
/- Z_fire: (I)J -/
set_option maxRecDepth 4000 in
theorem wZ_fire {X : Cx} (a1 : Int) (sw : Bool) (m : Mem) (Q : Int → Bool → Mem → Prop) (h : M2 X 1 mZ_isSide [vi a1] sw m (fun z1 sw1 m1 => ((¬ w32 z1 = 0 → M2 X 6 mT_think [vr 37] sw1 m1 (fun z2 sw2 m2 => M2 X 4 mC_oddsOfFire [vr 42] sw2 m2 (fun z3 sw3 m3 => M2 X 2 mZ_side [vl z3, vl (m3 37 7), vi a1] sw3 m3 (fun z4 sw4 m4 => Q z4 sw4 m4)))) ∧ (¬ (¬ w32 z1 = 0) → Q (-9223372036854775808) sw1 m1)))) : M2 X 7 mZ_fire [vr 1, vi a1] sw m Q := by
  refine Mt.of pZ_fire (Nat.le_of_ble_eq_true rfl) (Nat.le_refl _) ?_
  show R2 X 7 mZ_fire 0 [(0, vr 1), (1, vi a1)] [] sw m Q
  refine r_iload_n 1 1 rfl dZ_fire_0 rfl ?_
  refine r_callSb [_] rfl oZ_isSide iZ_isSide yZ_161 (by decide) ⟨Nat.le_refl _, Nat.le_refl _⟩ rfl (Nat.le_of_ble_eq_true rfl) dZ_fire_1 h (fun z1 r1 m1 h => ?_)
  obtain ⟨sw1, rfl, h⟩ := h
  refine r_if_ne (tgt := 11) dZ_fire_4 (by decide) (fun hc => ?_) (fun hc => ?_)
  · replace h := h.1 hc
    refine r_aload_n 0 0 rfl dZ_fire_11 rfl ?_
    refine q_getR 2 c1 fZ_30 rfl rfl (g1_2 sw1) (by decide) dZ_fire_12 ?_
    refine r_callVv 4 [] rfl c37 rfl rfl oT_think iT_think sT_think yZ_168 (by decide) ⟨Nat.le_refl _, Nat.le_refl _⟩ rfl (Nat.le_of_ble_eq_true rfl) dZ_fire_15 h (fun z2 r2 m2 h => ?_)
    obtain ⟨sw2, rfl, h⟩ := h
    refine r_aload_n 0 0 rfl dZ_fire_18 rfl ?_
    refine q_getR 3 c1 fZ_39 rfl rfl (g1_3 sw2) (by decide) dZ_fire_19 ?_
    refine r_callVl 5 [] rfl c42 rfl rfl oC_oddsOfFire iC_oddsOfFire sC_oddsOfFire yZ_211 (by decide) ⟨Nat.le_refl _, Nat.le_refl _⟩ rfl (Nat.le_of_ble_eq_true rfl) dZ_fire_22 h (fun z3 r3 m3 h => ?_)
    obtain ⟨sw3, rfl, h⟩ := h
    refine r_aload_n 0 0 rfl dZ_fire_25 rfl ?_
    refine q_getR 2 c1 fZ_30 rfl rfl (g1_2 sw3) (by decide) dZ_fire_26 ?_
    refine q_getL 7 c37 fZ_178 rfl rfl dZ_fire_29 ?_
    refine r_iload_n 1 1 rfl dZ_fire_32 rfl ?_
    refine r_callSl [_, _, _] rfl oZ_side iZ_side yZ_182 (by decide) ⟨Nat.le_refl _, Nat.le_refl _⟩ rfl (Nat.le_of_ble_eq_true rfl) dZ_fire_33 h (fun z4 r4 m4 h => ?_)
    obtain ⟨sw4, rfl, h⟩ := h
    exact q_lret rfl h dZ_fire_36
  · replace h := h.2 hc
    refine r_ldc2 (z := (-9223372036854775808)) dZ_fire_7 kZ_166 ?_
    exact q_lret rfl h dZ_fire_10
theorem dZ_failed_0 : decode mZ_failed.2.1 0 = .ok (.iload_n 1, 1) := by decide +kernel
theorem dZ_failed_1 : decode mZ_failed.2.1 1 = .ok (.invokestatic 214, 3) := by decide +kernel
theorem dZ_failed_4 : decode mZ_failed.2.1 4 = .ok (.ifCond .eq 21, 3) := by decide +kernel
theorem dZ_failed_7 : decode mZ_failed.2.1 7 = .ok (.aload_n 0, 1) := by decide +kernel
theorem dZ_failed_8 : decode mZ_failed.2.1 8 = .ok (.getfield 20, 3) := by decide +kernel
theorem dZ_failed_11 : decode mZ_failed.2.1 11 = .ok (.iload_n 2, 1) := by decide +kernel
theorem dZ_failed_12 : decode mZ_failed.2.1 12 = .ok (.invokevirtual 142, 3) := by decide +kernel
theorem dZ_failed_15 : decode mZ_failed.2.1 15 = .ok (.ifCond .eq 10, 3) := by decide +kernel
theorem dZ_failed_18 : decode mZ_failed.2.1 18 = .ok (.iload_n 3, 1) := by decide +kernel
theorem dZ_failed_19 : decode mZ_failed.2.1 19 = .ok (.invokestatic 161, 3) := by decide +kernel
theorem dZ_failed_22 : decode mZ_failed.2.1 22 = .ok (.ifCond .ne 7, 3) := by decide +kernel
theorem dZ_failed_25 : decode mZ_failed.2.1 25 = .ok (.ldc2_w 166, 3) := by decide +kernel
theorem dZ_failed_28 : decode mZ_failed.2.1 28 = .ok (.lreturn, 1) := by decide +kernel
theorem dZ_failed_29 : decode mZ_failed.2.1 29 = .ok (.aload_n 0, 1) := by decide +kernel
theorem dZ_failed_30 : decode mZ_failed.2.1 30 = .ok (.getfield 30, 3) := by decide +kernel
theorem dZ_failed_33 : decode mZ_failed.2.1 33 = .ok (.invokevirtual 168, 3) := by decide +kernel
theorem dZ_failed_36 : decode mZ_failed.2.1 36 = .ok (.aload_n 0, 1) := by decide +kernel
theorem dZ_failed_37 : decode mZ_failed.2.1 37 = .ok (.getfield 46, 3) := by decide +kernel
theorem dZ_failed_40 : decode mZ_failed.2.1 40 = .ok (.iload_n 1, 1) := by decide +kernel
theorem dZ_failed_41 : decode mZ_failed.2.1 41 = .ok (.invokevirtual 217, 3) := by decide +kernel
theorem dZ_failed_44 : decode mZ_failed.2.1 44 = .ok (.aload_n 0, 1) := by decide +kernel
theorem dZ_failed_45 : decode mZ_failed.2.1 45 = .ok (.getfield 46, 3) := by decide +kernel
theorem dZ_failed_48 : decode mZ_failed.2.1 48 = .ok (.iload_n 2, 1) := by decide +kernel
theorem dZ_failed_49 : decode mZ_failed.2.1 49 = .ok (.invokevirtual 221, 3) := by decide +kernel
theorem dZ_failed_52 : decode mZ_failed.2.1 52 = .ok (.aload_n 0, 1) := by decide +kernel
theorem dZ_failed_53 : decode mZ_failed.2.1 53 = .ok (.getfield 46, 3) := by decide +kernel
theorem dZ_failed_56 : decode mZ_failed.2.1 56 = .ok (.invokevirtual 224, 3) := by decide +kernel
theorem dZ_failed_59 : decode mZ_failed.2.1 59 = .ok (.iload_n 3, 1) := by decide +kernel
theorem dZ_failed_60 : decode mZ_failed.2.1 60 = .ok (.invokestatic 182, 3) := by decide +kernel
theorem dZ_failed_63 : decode mZ_failed.2.1 63 = .ok (.lreturn, 1) := by decide +kernel
/- Z_failed: (III)J -/
set_option maxRecDepth 4000 in
theorem wZ_failed {X : Cx} (a1 a2 a3 : Int) (sw : Bool) (m : Mem) (Q : Int → Bool → Mem → Prop) (h : M2 X 1 mI_isTold [vi a1] sw m (fun z1 sw1 m1 => ((w32 z1 = 0 → Q (-9223372036854775808) sw1 m1) ∧ (¬ (w32 z1 = 0) → M2 X 1 mK_has [vr 2, vi a2] sw1 m1 (fun z2 sw2 m2 => ((w32 z2 = 0 → Q (-9223372036854775808) sw2 m2) ∧ (¬ (w32 z2 = 0) → M2 X 1 mZ_isSide [vi a3] sw2 m2 (fun z3 sw3 m3 => ((¬ w32 z3 = 0 → M2 X 6 mT_think [vr 37] sw3 m3 (fun z4 sw4 m4 => M2 X 1 mI_hear [vr 44, vi a1] sw4 m4 (fun z5 sw5 m5 => M2 X 2 mI_oddsStuck [vr 44, vi a2] sw5 m5 (fun z6 sw6 m6 => M2 X 2 mI_oddsHeard [vr 44] sw6 m6 (fun z7 sw7 m7 => M2 X 2 mZ_side [vl z6, vl z7, vi a3] sw7 m7 (fun z8 sw8 m8 => Q z8 sw8 m8)))))) ∧ (¬ (¬ w32 z3 = 0) → Q (-9223372036854775808) sw3 m3)))))))))) : M2 X 7 mZ_failed [vr 1, vi a1, vi a2, vi a3] sw m Q := by
  refine Mt.of pZ_failed (Nat.le_of_ble_eq_true rfl) (Nat.le_refl _) ?_
  show R2 X 7 mZ_failed 0 [(0, vr 1), (1, vi a1), (2, vi a2), (3, vi a3)] [] sw m Q
  refine r_iload_n 1 1 rfl dZ_failed_0 rfl ?_
  refine r_callSb [_] rfl oI_isTold iI_isTold yZ_214 (by decide) ⟨Nat.le_refl _, Nat.le_refl _⟩ rfl (Nat.le_of_ble_eq_true rfl) dZ_failed_1 h (fun z1 r1 m1 h => ?_)
  obtain ⟨sw1, rfl, h⟩ := h
  refine r_if_eq (tgt := 25) dZ_failed_4 (by decide) (fun hc => ?_) (fun hc => ?_)
  · replace h := h.1 hc
    refine r_ldc2 (z := (-9223372036854775808)) dZ_failed_25 kZ_166 ?_
    exact q_lret rfl h dZ_failed_28
  · replace h := h.2 hc
    refine r_aload_n 0 0 rfl dZ_failed_7 rfl ?_
    refine q_getR 0 c1 fZ_20 rfl rfl (g1_0 sw1) (by decide) dZ_failed_8 ?_
    refine r_iload_n 2 2 rfl dZ_failed_11 rfl ?_
    refine r_callVb 1 [_] rfl c2 rfl rfl oK_has iK_has sK_has yZ_142 (by decide) ⟨Nat.le_refl _, Nat.le_refl _⟩ rfl (Nat.le_of_ble_eq_true rfl) dZ_failed_12 h (fun z2 r2 m2 h => ?_)
    obtain ⟨sw2, rfl, h⟩ := h
    refine r_if_eq (tgt := 25) dZ_failed_15 (by decide) (fun hc => ?_) (fun hc => ?_)
    · replace h := h.1 hc
      refine r_ldc2 (z := (-9223372036854775808)) dZ_failed_25 kZ_166 ?_
      exact q_lret rfl h dZ_failed_28
    · replace h := h.2 hc
      refine r_iload_n 3 3 rfl dZ_failed_18 rfl ?_
      refine r_callSb [_] rfl oZ_isSide iZ_isSide yZ_161 (by decide) ⟨Nat.le_refl _, Nat.le_refl _⟩ rfl (Nat.le_of_ble_eq_true rfl) dZ_failed_19 h (fun z3 r3 m3 h => ?_)
      obtain ⟨sw3, rfl, h⟩ := h
      refine r_if_ne (tgt := 29) dZ_failed_22 (by decide) (fun hc => ?_) (fun hc => ?_)
      · replace h := h.1 hc
        refine r_aload_n 0 0 rfl dZ_failed_29 rfl ?_
        refine q_getR 2 c1 fZ_30 rfl rfl (g1_2 sw3) (by decide) dZ_failed_30 ?_
        refine r_callVv 4 [] rfl c37 rfl rfl oT_think iT_think sT_think yZ_168 (by decide) ⟨Nat.le_refl _, Nat.le_refl _⟩ rfl (Nat.le_of_ble_eq_true rfl) dZ_failed_33 h (fun z4 r4 m4 h => ?_)
        obtain ⟨sw4, rfl, h⟩ := h
        refine r_aload_n 0 0 rfl dZ_failed_36 rfl ?_
        refine q_getR 4 c1 fZ_46 rfl rfl (g1_4 sw4) (by decide) dZ_failed_37 ?_
        refine r_iload_n 1 1 rfl dZ_failed_40 rfl ?_
        refine r_callVv 6 [_] rfl c44 rfl rfl oI_hear iI_hear sI_hear yZ_217 (by decide) ⟨Nat.le_refl _, Nat.le_refl _⟩ rfl (Nat.le_of_ble_eq_true rfl) dZ_failed_41 h (fun z5 r5 m5 h => ?_)
        obtain ⟨sw5, rfl, h⟩ := h
        refine r_aload_n 0 0 rfl dZ_failed_44 rfl ?_
        refine q_getR 4 c1 fZ_46 rfl rfl (g1_4 sw5) (by decide) dZ_failed_45 ?_
        refine r_iload_n 2 2 rfl dZ_failed_48 rfl ?_
        refine r_callVl 6 [_] rfl c44 rfl rfl oI_oddsStuck iI_oddsStuck sI_oddsStuck yZ_221 (by decide) ⟨Nat.le_refl _, Nat.le_refl _⟩ rfl (Nat.le_of_ble_eq_true rfl) dZ_failed_49 h (fun z6 r6 m6 h => ?_)
        obtain ⟨sw6, rfl, h⟩ := h
        refine r_aload_n 0 0 rfl dZ_failed_52 rfl ?_
        refine q_getR 4 c1 fZ_46 rfl rfl (g1_4 sw6) (by decide) dZ_failed_53 ?_
        refine r_callVl 6 [] rfl c44 rfl rfl oI_oddsHeard iI_oddsHeard sI_oddsHeard yZ_224 (by decide) ⟨Nat.le_refl _, Nat.le_refl _⟩ rfl (Nat.le_of_ble_eq_true rfl) dZ_failed_56 h (fun z7 r7 m7 h => ?_)
        obtain ⟨sw7, rfl, h⟩ := h
        refine r_iload_n 3 3 rfl dZ_failed_59 rfl ?_
        refine r_callSl [_, _, _] rfl oZ_side iZ_side yZ_182 (by decide) ⟨Nat.le_refl _, Nat.le_refl _⟩ rfl (Nat.le_of_ble_eq_true rfl) dZ_failed_60 h (fun z8 r8 m8 h => ?_)
        obtain ⟨sw8, rfl, h⟩ := h
        exact q_lret rfl h dZ_failed_63
      · replace h := h.2 hc
        refine r_ldc2 (z := (-9223372036854775808)) dZ_failed_25 kZ_166 ?_
        exact q_lret rfl h dZ_failed_28
theorem dZ_look_0 : decode mZ_look.2.1 0 = .ok (.iload_n 1, 1) := by decide +kernel
theorem dZ_look_1 : decode mZ_look.2.1 1 = .ok (.invokestatic 214, 3) := by decide +kernel
theorem dZ_look_4 : decode mZ_look.2.1 4 = .ok (.ifCond .ne 5, 3) := by decide +kernel
theorem dZ_look_7 : decode mZ_look.2.1 7 = .ok (.iconst (-1), 1) := by decide +kernel
theorem dZ_look_8 : decode mZ_look.2.1 8 = .ok (.ireturn, 1) := by decide +kernel
theorem dZ_look_9 : decode mZ_look.2.1 9 = .ok (.aload_n 0, 1) := by decide +kernel
theorem dZ_look_10 : decode mZ_look.2.1 10 = .ok (.getfield 30, 3) := by decide +kernel
theorem dZ_look_13 : decode mZ_look.2.1 13 = .ok (.invokevirtual 168, 3) := by decide +kernel
theorem dZ_look_16 : decode mZ_look.2.1 16 = .ok (.aload_n 0, 1) := by decide +kernel
theorem dZ_look_17 : decode mZ_look.2.1 17 = .ok (.getfield 46, 3) := by decide +kernel
theorem dZ_look_20 : decode mZ_look.2.1 20 = .ok (.iload_n 1, 1) := by decide +kernel
theorem dZ_look_21 : decode mZ_look.2.1 21 = .ok (.invokevirtual 217, 3) := by decide +kernel
theorem dZ_look_24 : decode mZ_look.2.1 24 = .ok (.aload_n 0, 1) := by decide +kernel
theorem dZ_look_25 : decode mZ_look.2.1 25 = .ok (.getfield 46, 3) := by decide +kernel
theorem dZ_look_28 : decode mZ_look.2.1 28 = .ok (.invokevirtual 227, 3) := by decide +kernel
theorem dZ_look_31 : decode mZ_look.2.1 31 = .ok (.ireturn, 1) := by decide +kernel
/- Z_look: (I)I -/
set_option maxRecDepth 4000 in
theorem wZ_look {X : Cx} (a1 : Int) (sw : Bool) (m : Mem) (Q : Int → Bool → Mem → Prop) (h : M2 X 1 mI_isTold [vi a1] sw m (fun z1 sw1 m1 => ((¬ w32 z1 = 0 → M2 X 6 mT_think [vr 37] sw1 m1 (fun z2 sw2 m2 => M2 X 1 mI_hear [vr 44, vi a1] sw2 m2 (fun z3 sw3 m3 => M2 X 3 mI_likeliestStuck [vr 44] sw3 m3 (fun z4 sw4 m4 => Q z4 sw4 m4)))) ∧ (¬ (¬ w32 z1 = 0) → Q (-1) sw1 m1)))) : M2 X 7 mZ_look [vr 1, vi a1] sw m Q := by
  refine Mt.of pZ_look (Nat.le_of_ble_eq_true rfl) (Nat.le_refl _) ?_
  show R2 X 7 mZ_look 0 [(0, vr 1), (1, vi a1)] [] sw m Q
  refine r_iload_n 1 1 rfl dZ_look_0 rfl ?_
  refine r_callSb [_] rfl oI_isTold iI_isTold yZ_214 (by decide) ⟨Nat.le_refl _, Nat.le_refl _⟩ rfl (Nat.le_of_ble_eq_true rfl) dZ_look_1 h (fun z1 r1 m1 h => ?_)
  obtain ⟨sw1, rfl, h⟩ := h
  refine r_if_ne (tgt := 9) dZ_look_4 (by decide) (fun hc => ?_) (fun hc => ?_)
  · replace h := h.1 hc
    refine r_aload_n 0 0 rfl dZ_look_9 rfl ?_
    refine q_getR 2 c1 fZ_30 rfl rfl (g1_2 sw1) (by decide) dZ_look_10 ?_
    refine r_callVv 4 [] rfl c37 rfl rfl oT_think iT_think sT_think yZ_168 (by decide) ⟨Nat.le_refl _, Nat.le_refl _⟩ rfl (Nat.le_of_ble_eq_true rfl) dZ_look_13 h (fun z2 r2 m2 h => ?_)
    obtain ⟨sw2, rfl, h⟩ := h
    refine r_aload_n 0 0 rfl dZ_look_16 rfl ?_
    refine q_getR 4 c1 fZ_46 rfl rfl (g1_4 sw2) (by decide) dZ_look_17 ?_
    refine r_iload_n 1 1 rfl dZ_look_20 rfl ?_
    refine r_callVv 6 [_] rfl c44 rfl rfl oI_hear iI_hear sI_hear yZ_217 (by decide) ⟨Nat.le_refl _, Nat.le_refl _⟩ rfl (Nat.le_of_ble_eq_true rfl) dZ_look_21 h (fun z3 r3 m3 h => ?_)
    obtain ⟨sw3, rfl, h⟩ := h
    refine r_aload_n 0 0 rfl dZ_look_24 rfl ?_
    refine q_getR 4 c1 fZ_46 rfl rfl (g1_4 sw3) (by decide) dZ_look_25 ?_
    refine r_callVi 6 [] rfl c44 rfl rfl oI_likeliestStuck iI_likeliestStuck sI_likeliestStuck yZ_227 (by decide) ⟨Nat.le_refl _, Nat.le_refl _⟩ rfl (Nat.le_of_ble_eq_true rfl) dZ_look_28 h (fun z4 r4 m4 h => ?_)
    obtain ⟨sw4, rfl, h⟩ := h
    exact q_iret rfl h dZ_look_31
  · replace h := h.2 hc
    refine r_iconst dZ_look_7 ?_
    exact q_iret rfl h dZ_look_8
theorem dZ_test_0 : decode mZ_test.2.1 0 = .ok (.iload_n 1, 1) := by decide +kernel
theorem dZ_test_1 : decode mZ_test.2.1 1 = .ok (.invokestatic 214, 3) := by decide +kernel
theorem dZ_test_4 : decode mZ_test.2.1 4 = .ok (.ifCond .ne 5, 3) := by decide +kernel
theorem dZ_test_7 : decode mZ_test.2.1 7 = .ok (.iconst (-1), 1) := by decide +kernel
theorem dZ_test_8 : decode mZ_test.2.1 8 = .ok (.ireturn, 1) := by decide +kernel
theorem dZ_test_9 : decode mZ_test.2.1 9 = .ok (.aload_n 0, 1) := by decide +kernel
theorem dZ_test_10 : decode mZ_test.2.1 10 = .ok (.getfield 30, 3) := by decide +kernel
theorem dZ_test_13 : decode mZ_test.2.1 13 = .ok (.invokevirtual 168, 3) := by decide +kernel
theorem dZ_test_16 : decode mZ_test.2.1 16 = .ok (.aload_n 0, 1) := by decide +kernel
theorem dZ_test_17 : decode mZ_test.2.1 17 = .ok (.getfield 46, 3) := by decide +kernel
theorem dZ_test_20 : decode mZ_test.2.1 20 = .ok (.iload_n 1, 1) := by decide +kernel
theorem dZ_test_21 : decode mZ_test.2.1 21 = .ok (.invokevirtual 217, 3) := by decide +kernel
theorem dZ_test_24 : decode mZ_test.2.1 24 = .ok (.aload_n 0, 1) := by decide +kernel
theorem dZ_test_25 : decode mZ_test.2.1 25 = .ok (.getfield 46, 3) := by decide +kernel
theorem dZ_test_28 : decode mZ_test.2.1 28 = .ok (.invokevirtual 230, 3) := by decide +kernel
theorem dZ_test_31 : decode mZ_test.2.1 31 = .ok (.ireturn, 1) := by decide +kernel
/- Z_test: (I)I -/
set_option maxRecDepth 4000 in
theorem wZ_test {X : Cx} (a1 : Int) (sw : Bool) (m : Mem) (Q : Int → Bool → Mem → Prop) (h : M2 X 1 mI_isTold [vi a1] sw m (fun z1 sw1 m1 => ((¬ w32 z1 = 0 → M2 X 6 mT_think [vr 37] sw1 m1 (fun z2 sw2 m2 => M2 X 1 mI_hear [vr 44, vi a1] sw2 m2 (fun z3 sw3 m3 => M2 X 3 mI_bestTest [vr 44] sw3 m3 (fun z4 sw4 m4 => Q z4 sw4 m4)))) ∧ (¬ (¬ w32 z1 = 0) → Q (-1) sw1 m1)))) : M2 X 7 mZ_test [vr 1, vi a1] sw m Q := by
  refine Mt.of pZ_test (Nat.le_of_ble_eq_true rfl) (Nat.le_refl _) ?_
  show R2 X 7 mZ_test 0 [(0, vr 1), (1, vi a1)] [] sw m Q
  refine r_iload_n 1 1 rfl dZ_test_0 rfl ?_
  refine r_callSb [_] rfl oI_isTold iI_isTold yZ_214 (by decide) ⟨Nat.le_refl _, Nat.le_refl _⟩ rfl (Nat.le_of_ble_eq_true rfl) dZ_test_1 h (fun z1 r1 m1 h => ?_)
  obtain ⟨sw1, rfl, h⟩ := h
  refine r_if_ne (tgt := 9) dZ_test_4 (by decide) (fun hc => ?_) (fun hc => ?_)
  · replace h := h.1 hc
    refine r_aload_n 0 0 rfl dZ_test_9 rfl ?_
    refine q_getR 2 c1 fZ_30 rfl rfl (g1_2 sw1) (by decide) dZ_test_10 ?_
    refine r_callVv 4 [] rfl c37 rfl rfl oT_think iT_think sT_think yZ_168 (by decide) ⟨Nat.le_refl _, Nat.le_refl _⟩ rfl (Nat.le_of_ble_eq_true rfl) dZ_test_13 h (fun z2 r2 m2 h => ?_)
    obtain ⟨sw2, rfl, h⟩ := h
    refine r_aload_n 0 0 rfl dZ_test_16 rfl ?_
    refine q_getR 4 c1 fZ_46 rfl rfl (g1_4 sw2) (by decide) dZ_test_17 ?_
    refine r_iload_n 1 1 rfl dZ_test_20 rfl ?_
    refine r_callVv 6 [_] rfl c44 rfl rfl oI_hear iI_hear sI_hear yZ_217 (by decide) ⟨Nat.le_refl _, Nat.le_refl _⟩ rfl (Nat.le_of_ble_eq_true rfl) dZ_test_21 h (fun z3 r3 m3 h => ?_)
    obtain ⟨sw3, rfl, h⟩ := h
    refine r_aload_n 0 0 rfl dZ_test_24 rfl ?_
    refine q_getR 4 c1 fZ_46 rfl rfl (g1_4 sw3) (by decide) dZ_test_25 ?_
    refine r_callVi 6 [] rfl c44 rfl rfl oI_bestTest iI_bestTest sI_bestTest yZ_230 (by decide) ⟨Nat.le_refl _, Nat.le_refl _⟩ rfl (Nat.le_of_ble_eq_true rfl) dZ_test_28 h (fun z4 r4 m4 h => ?_)
    obtain ⟨sw4, rfl, h⟩ := h
    exact q_iret rfl h dZ_test_31
  · replace h := h.2 hc
    refine r_iconst dZ_test_7 ?_
    exact q_iret rfl h dZ_test_8
theorem dZ_mending_0 : decode mZ_mending.2.1 0 = .ok (.iload_n 1, 1) := by decide +kernel
theorem dZ_mending_1 : decode mZ_mending.2.1 1 = .ok (.iconst 1, 1) := by decide +kernel
theorem dZ_mending_2 : decode mZ_mending.2.1 2 = .ok (.if_icmp .lt 13, 3) := by decide +kernel
theorem dZ_mending_5 : decode mZ_mending.2.1 5 = .ok (.iload_n 1, 1) := by decide +kernel
theorem dZ_mending_6 : decode mZ_mending.2.1 6 = .ok (.iconst 3, 1) := by decide +kernel
theorem dZ_mending_7 : decode mZ_mending.2.1 7 = .ok (.if_icmp .gt 8, 3) := by decide +kernel
theorem dZ_mending_10 : decode mZ_mending.2.1 10 = .ok (.iload_n 2, 1) := by decide +kernel
theorem dZ_mending_11 : decode mZ_mending.2.1 11 = .ok (.iconst (-1), 1) := by decide +kernel
theorem dZ_mending_12 : decode mZ_mending.2.1 12 = .ok (.if_icmp .ge 6, 3) := by decide +kernel
theorem dZ_mending_15 : decode mZ_mending.2.1 15 = .ok (.bipush (-3), 2) := by decide +kernel
theorem dZ_mending_17 : decode mZ_mending.2.1 17 = .ok (.ireturn, 1) := by decide +kernel
theorem dZ_mending_18 : decode mZ_mending.2.1 18 = .ok (.aload_n 0, 1) := by decide +kernel
theorem dZ_mending_19 : decode mZ_mending.2.1 19 = .ok (.getfield 20, 3) := by decide +kernel
theorem dZ_mending_22 : decode mZ_mending.2.1 22 = .ok (.getfield 204, 3) := by decide +kernel
theorem dZ_mending_25 : decode mZ_mending.2.1 25 = .ok (.iconst 5, 1) := by decide +kernel
theorem dZ_mending_26 : decode mZ_mending.2.1 26 = .ok (.if_icmp .le 6, 3) := by decide +kernel
theorem dZ_mending_29 : decode mZ_mending.2.1 29 = .ok (.bipush (-5), 2) := by decide +kernel
theorem dZ_mending_31 : decode mZ_mending.2.1 31 = .ok (.ireturn, 1) := by decide +kernel
theorem dZ_mending_32 : decode mZ_mending.2.1 32 = .ok (.aload_n 0, 1) := by decide +kernel
theorem dZ_mending_33 : decode mZ_mending.2.1 33 = .ok (.getfield 30, 3) := by decide +kernel
theorem dZ_mending_36 : decode mZ_mending.2.1 36 = .ok (.invokevirtual 168, 3) := by decide +kernel
theorem dZ_mending_39 : decode mZ_mending.2.1 39 = .ok (.aload_n 0, 1) := by decide +kernel
theorem dZ_mending_40 : decode mZ_mending.2.1 40 = .ok (.getfield 53, 3) := by decide +kernel
theorem dZ_mending_43 : decode mZ_mending.2.1 43 = .ok (.iload_n 1, 1) := by decide +kernel
theorem dZ_mending_44 : decode mZ_mending.2.1 44 = .ok (.invokevirtual 233, 3) := by decide +kernel
theorem dZ_mending_47 : decode mZ_mending.2.1 47 = .ok (.istore_n 3, 1) := by decide +kernel
theorem dZ_mending_48 : decode mZ_mending.2.1 48 = .ok (.iload_n 2, 1) := by decide +kernel
theorem dZ_mending_49 : decode mZ_mending.2.1 49 = .ok (.iconst (-1), 1) := by decide +kernel
theorem dZ_mending_50 : decode mZ_mending.2.1 50 = .ok (.if_icmp .ne 13, 3) := by decide +kernel
theorem dZ_mending_53 : decode mZ_mending.2.1 53 = .ok (.aload_n 0, 1) := by decide +kernel
theorem dZ_mending_54 : decode mZ_mending.2.1 54 = .ok (.getfield 53, 3) := by decide +kernel
theorem dZ_mending_57 : decode mZ_mending.2.1 57 = .ok (.iload_n 1, 1) := by decide +kernel
theorem dZ_mending_58 : decode mZ_mending.2.1 58 = .ok (.iload_n 3, 1) := by decide +kernel
theorem dZ_mending_59 : decode mZ_mending.2.1 59 = .ok (.invokevirtual 236, 3) := by decide +kernel
theorem dZ_mending_62 : decode mZ_mending.2.1 62 = .ok (.ireturn, 1) := by decide +kernel
theorem dZ_mending_63 : decode mZ_mending.2.1 63 = .ok (.iload_n 2, 1) := by decide +kernel
theorem dZ_mending_64 : decode mZ_mending.2.1 64 = .ok (.iload_n 1, 1) := by decide +kernel
theorem dZ_mending_65 : decode mZ_mending.2.1 65 = .ok (.if_icmp .ge 16, 3) := by decide +kernel
theorem dZ_mending_68 : decode mZ_mending.2.1 68 = .ok (.aload_n 0, 1) := by decide +kernel
theorem dZ_mending_69 : decode mZ_mending.2.1 69 = .ok (.getfield 53, 3) := by decide +kernel
theorem dZ_mending_72 : decode mZ_mending.2.1 72 = .ok (.iload_n 3, 1) := by decide +kernel
theorem dZ_mending_73 : decode mZ_mending.2.1 73 = .ok (.iload_n 1, 1) := by decide +kernel
theorem dZ_mending_74 : decode mZ_mending.2.1 74 = .ok (.iload_n 2, 1) := by decide +kernel
theorem dZ_mending_75 : decode mZ_mending.2.1 75 = .ok (.invokevirtual 239, 3) := by decide +kernel
theorem dZ_mending_78 : decode mZ_mending.2.1 78 = .ok (.goto 5, 3) := by decide +kernel
theorem dZ_mending_81 : decode mZ_mending.2.1 81 = .ok (.bipush (-2), 2) := by decide +kernel
theorem dZ_mending_83 : decode mZ_mending.2.1 83 = .ok (.ireturn, 1) := by decide +kernel
/- Z_mending: (II)I -/
set_option maxRecDepth 4000 in
theorem wZ_mending {X : Cx} (a1 a2 : Int) (sw : Bool) (m : Mem) (Q : Int → Bool → Mem → Prop) (h : ((w32 a1 < 1 → Q (-3) sw m) ∧ (¬ (w32 a1 < 1) → ((3 < w32 a1 → Q (-3) sw m) ∧ (¬ (3 < w32 a1) → (((-1) ≤ w32 a2 → ((w32 (m 2 3) ≤ 5 → M2 X 6 mT_think [vr 37] sw m (fun z1 sw1 m1 => M2 X 6 mN_bestWay [vr 47, vi a1] sw1 m1 (fun z2 sw2 m2 => ((¬ w32 a2 = (-1) → ((w32 a1 ≤ w32 a2 → Q (-2) sw2 m2) ∧ (¬ (w32 a1 ≤ w32 a2) → M2 X 2 mN_whom [vr 47, vi z2, vi a1, vi a2] sw2 m2 (fun z3 sw3 m3 => Q z3 sw3 m3)))) ∧ (¬ (¬ w32 a2 = (-1)) → M2 X 1 mN_togetherOf [vr 47, vi a1, vi z2] sw2 m2 (fun z4 sw4 m4 => Q z4 sw4 m4)))))) ∧ (¬ (w32 (m 2 3) ≤ 5) → Q (-5) sw m))) ∧ (¬ ((-1) ≤ w32 a2) → Q (-3) sw m))))))) : M2 X 7 mZ_mending [vr 1, vi a1, vi a2] sw m Q := by
  refine Mt.of pZ_mending (Nat.le_of_ble_eq_true rfl) (Nat.le_refl _) ?_
  show R2 X 7 mZ_mending 0 [(0, vr 1), (1, vi a1), (2, vi a2)] [] sw m Q
  refine r_iload_n 1 1 rfl dZ_mending_0 rfl ?_
  refine r_iconst dZ_mending_1 ?_
  refine r_ifc_lt (tgt := 15) dZ_mending_2 (by decide) (fun hc => ?_) (fun hc => ?_)
  · replace h := h.1 hc
    refine r_bipush (by decide) dZ_mending_15 ?_
    exact q_iret rfl h dZ_mending_17
  · replace h := h.2 hc
    refine r_iload_n 1 1 rfl dZ_mending_5 rfl ?_
    refine r_iconst dZ_mending_6 ?_
    refine r_ifc_gt (tgt := 15) dZ_mending_7 (by decide) (fun hc => ?_) (fun hc => ?_)
    · replace h := h.1 hc
      refine r_bipush (by decide) dZ_mending_15 ?_
      exact q_iret rfl h dZ_mending_17
    · replace h := h.2 hc
      refine r_iload_n 2 2 rfl dZ_mending_10 rfl ?_
      refine r_iconst dZ_mending_11 ?_
      refine r_ifc_ge (tgt := 18) dZ_mending_12 (by decide) (fun hc => ?_) (fun hc => ?_)
      · replace h := h.1 hc
        refine r_aload_n 0 0 rfl dZ_mending_18 rfl ?_
        refine q_getR 0 c1 fZ_20 rfl rfl (g1_0 sw) (by decide) dZ_mending_19 ?_
        refine q_getI 3 c2 fZ_204 rfl rfl dZ_mending_22 ?_
        refine r_iconst dZ_mending_25 ?_
        refine r_ifc_le (tgt := 32) dZ_mending_26 (by decide) (fun hc => ?_) (fun hc => ?_)
        · replace h := h.1 hc
          refine r_aload_n 0 0 rfl dZ_mending_32 rfl ?_
          refine q_getR 2 c1 fZ_30 rfl rfl (g1_2 sw) (by decide) dZ_mending_33 ?_
          refine r_callVv 4 [] rfl c37 rfl rfl oT_think iT_think sT_think yZ_168 (by decide) ⟨Nat.le_refl _, Nat.le_refl _⟩ rfl (Nat.le_of_ble_eq_true rfl) dZ_mending_36 h (fun z1 r1 m1 h => ?_)
          obtain ⟨sw1, rfl, h⟩ := h
          refine r_aload_n 0 0 rfl dZ_mending_39 rfl ?_
          refine q_getR 5 c1 fZ_53 rfl rfl (g1_5 sw1) (by decide) dZ_mending_40 ?_
          refine r_iload_n 1 1 rfl dZ_mending_43 rfl ?_
          refine r_callVi 7 [_] rfl c47 rfl rfl oN_bestWay iN_bestWay sN_bestWay yZ_233 (by decide) ⟨Nat.le_refl _, Nat.le_refl _⟩ rfl (Nat.le_of_ble_eq_true rfl) dZ_mending_44 h (fun z2 r2 m2 h => ?_)
          obtain ⟨sw2, rfl, h⟩ := h
          refine r_istore_n 3 (by decide) dZ_mending_47 rfl ?_
          refine r_iload_n 2 3 rfl dZ_mending_48 rfl ?_
          refine r_iconst dZ_mending_49 ?_
          refine r_ifc_ne (tgt := 63) dZ_mending_50 (by decide) (fun hc => ?_) (fun hc => ?_)
          · replace h := h.1 hc
            refine r_iload_n 2 3 rfl dZ_mending_63 rfl ?_
            refine r_iload_n 1 2 rfl dZ_mending_64 rfl ?_
            refine r_ifc_ge (tgt := 81) dZ_mending_65 (by decide) (fun hc => ?_) (fun hc => ?_)
            · replace h := h.1 hc
              refine r_bipush (by decide) dZ_mending_81 ?_
              exact q_iret rfl h dZ_mending_83
            · replace h := h.2 hc
              refine r_aload_n 0 1 rfl dZ_mending_68 rfl ?_
              refine q_getR 5 c1 fZ_53 rfl rfl (g1_5 sw2) (by decide) dZ_mending_69 ?_
              refine r_iload_n 3 0 rfl dZ_mending_72 rfl ?_
              refine r_iload_n 1 2 rfl dZ_mending_73 rfl ?_
              refine r_iload_n 2 3 rfl dZ_mending_74 rfl ?_
              refine r_callVi 7 [_, _, _] rfl c47 rfl rfl oN_whom iN_whom sN_whom yZ_239 (by decide) ⟨Nat.le_refl _, Nat.le_refl _⟩ rfl (Nat.le_of_ble_eq_true rfl) dZ_mending_75 h (fun z3 r3 m3 h => ?_)
              obtain ⟨sw3, rfl, h⟩ := h
              refine r_goto (tgt := 83) dZ_mending_78 (by decide) ?_
              exact q_iret rfl h dZ_mending_83
          · replace h := h.2 hc
            refine r_aload_n 0 1 rfl dZ_mending_53 rfl ?_
            refine q_getR 5 c1 fZ_53 rfl rfl (g1_5 sw2) (by decide) dZ_mending_54 ?_
            refine r_iload_n 1 2 rfl dZ_mending_57 rfl ?_
            refine r_iload_n 3 0 rfl dZ_mending_58 rfl ?_
            refine r_callVi 7 [_, _] rfl c47 rfl rfl oN_togetherOf iN_togetherOf sN_togetherOf yZ_236 (by decide) ⟨Nat.le_refl _, Nat.le_refl _⟩ rfl (Nat.le_of_ble_eq_true rfl) dZ_mending_59 h (fun z4 r4 m4 h => ?_)
            obtain ⟨sw4, rfl, h⟩ := h
            exact q_iret rfl h dZ_mending_62
        · replace h := h.2 hc
          refine r_bipush (by decide) dZ_mending_29 ?_
          exact q_iret rfl h dZ_mending_31
      · replace h := h.2 hc
        refine r_bipush (by decide) dZ_mending_15 ?_
        exact q_iret rfl h dZ_mending_17
theorem dZ_judge_0 : decode mZ_judge.2.1 0 = .ok (.aload_n 0, 1) := by decide +kernel
theorem dZ_judge_1 : decode mZ_judge.2.1 1 = .ok (.getfield 81, 3) := by decide +kernel
theorem dZ_judge_4 : decode mZ_judge.2.1 4 = .ok (.iload_n 1, 1) := by decide +kernel
theorem dZ_judge_5 : decode mZ_judge.2.1 5 = .ok (.invokevirtual 89, 3) := by decide +kernel
theorem dZ_judge_8 : decode mZ_judge.2.1 8 = .ok (.istore_n 2, 1) := by decide +kernel
theorem dZ_judge_9 : decode mZ_judge.2.1 9 = .ok (.iload_n 2, 1) := by decide +kernel
theorem dZ_judge_10 : decode mZ_judge.2.1 10 = .ok (.ifCond .eq 5, 3) := by decide +kernel
theorem dZ_judge_13 : decode mZ_judge.2.1 13 = .ok (.iload_n 2, 1) := by decide +kernel
theorem dZ_judge_14 : decode mZ_judge.2.1 14 = .ok (.ireturn, 1) := by decide +kernel
theorem dZ_judge_15 : decode mZ_judge.2.1 15 = .ok (.aload_n 0, 1) := by decide +kernel
theorem dZ_judge_16 : decode mZ_judge.2.1 16 = .ok (.getfield 30, 3) := by decide +kernel
theorem dZ_judge_19 : decode mZ_judge.2.1 19 = .ok (.invokevirtual 168, 3) := by decide +kernel
theorem dZ_judge_22 : decode mZ_judge.2.1 22 = .ok (.iconst 0, 1) := by decide +kernel
theorem dZ_judge_23 : decode mZ_judge.2.1 23 = .ok (.istore_n 3, 1) := by decide +kernel
theorem dZ_judge_24 : decode mZ_judge.2.1 24 = .ok (.iload_n 3, 1) := by decide +kernel
theorem dZ_judge_25 : decode mZ_judge.2.1 25 = .ok (.aload_n 0, 1) := by decide +kernel
theorem dZ_judge_26 : decode mZ_judge.2.1 26 = .ok (.getfield 81, 3) := by decide +kernel
theorem dZ_judge_29 : decode mZ_judge.2.1 29 = .ok (.iload_n 1, 1) := by decide +kernel
theorem dZ_judge_30 : decode mZ_judge.2.1 30 = .ok (.invokevirtual 99, 3) := by decide +kernel
theorem dZ_judge_33 : decode mZ_judge.2.1 33 = .ok (.if_icmp .ge 33, 3) := by decide +kernel
theorem dZ_judge_36 : decode mZ_judge.2.1 36 = .ok (.aload_n 0, 1) := by decide +kernel
theorem dZ_judge_37 : decode mZ_judge.2.1 37 = .ok (.getfield 30, 3) := by decide +kernel
theorem dZ_judge_40 : decode mZ_judge.2.1 40 = .ok (.aload_n 0, 1) := by decide +kernel
theorem dZ_judge_41 : decode mZ_judge.2.1 41 = .ok (.getfield 81, 3) := by decide +kernel
theorem dZ_judge_44 : decode mZ_judge.2.1 44 = .ok (.iload_n 1, 1) := by decide +kernel
theorem dZ_judge_45 : decode mZ_judge.2.1 45 = .ok (.iload_n 3, 1) := by decide +kernel
theorem dZ_judge_46 : decode mZ_judge.2.1 46 = .ok (.invokevirtual 102, 3) := by decide +kernel
theorem dZ_judge_49 : decode mZ_judge.2.1 49 = .ok (.l2i, 1) := by decide +kernel
theorem dZ_judge_50 : decode mZ_judge.2.1 50 = .ok (.invokevirtual 242, 3) := by decide +kernel
theorem dZ_judge_53 : decode mZ_judge.2.1 53 = .ok (.lconst 0, 1) := by decide +kernel
theorem dZ_judge_54 : decode mZ_judge.2.1 54 = .ok (.lcmp, 1) := by decide +kernel
theorem dZ_judge_55 : decode mZ_judge.2.1 55 = .ok (.ifCond .ne 5, 3) := by decide +kernel
theorem dZ_judge_58 : decode mZ_judge.2.1 58 = .ok (.iload_n 3, 1) := by decide +kernel
theorem dZ_judge_59 : decode mZ_judge.2.1 59 = .ok (.ireturn, 1) := by decide +kernel
theorem dZ_judge_60 : decode mZ_judge.2.1 60 = .ok (.iinc 3 1, 3) := by decide +kernel
theorem dZ_judge_63 : decode mZ_judge.2.1 63 = .ok (.goto (-39), 3) := by decide +kernel
theorem dZ_judge_66 : decode mZ_judge.2.1 66 = .ok (.bipush (-2), 2) := by decide +kernel
theorem dZ_judge_68 : decode mZ_judge.2.1 68 = .ok (.ireturn, 1) := by decide +kernel
/- Z_judge: (I)I -/
set_option maxRecDepth 4000 in
theorem wZ_judge {X : Cx} (a1 : Int) (sw : Bool) (m : Mem) (Q : Int → Bool → Mem → Prop) (h : M2 X 3 mS_refusalOfShorts [vr 72, vi a1] sw m (fun z1 sw1 m1 => ((w32 z1 = 0 → M2 X 6 mT_think [vr 37] sw1 m1 (fun z2 sw2 m2 => R2 X 7 mZ_judge 24 [(0, vr 1), (1, vi a1), (3, vi 0)] [] sw2 m2 Q)) ∧ (¬ (w32 z1 = 0) → Q z1 sw1 m1)))) : M2 X 7 mZ_judge [vr 1, vi a1] sw m Q := by
  refine Mt.of pZ_judge (Nat.le_of_ble_eq_true rfl) (Nat.le_refl _) ?_
  show R2 X 7 mZ_judge 0 [(0, vr 1), (1, vi a1)] [] sw m Q
  refine r_aload_n 0 0 rfl dZ_judge_0 rfl ?_
  refine q_getR 9 c1 fZ_81 rfl rfl (g1_9 sw) (by decide) dZ_judge_1 ?_
  refine r_iload_n 1 1 rfl dZ_judge_4 rfl ?_
  refine r_callVi 11 [_] rfl c72 rfl rfl oS_refusalOfShorts iS_refusalOfShorts sS_refusalOfShorts yZ_89 (by decide) ⟨Nat.le_refl _, Nat.le_refl _⟩ rfl (Nat.le_of_ble_eq_true rfl) dZ_judge_5 h (fun z1 r1 m1 h => ?_)
  obtain ⟨sw1, rfl, h⟩ := h
  refine r_istore_n 2 (by decide) dZ_judge_8 rfl ?_
  refine r_iload_n 2 0 rfl dZ_judge_9 rfl ?_
  refine r_if_eq (tgt := 15) dZ_judge_10 (by decide) (fun hc => ?_) (fun hc => ?_)
  · replace h := h.1 hc
    refine r_aload_n 0 1 rfl dZ_judge_15 rfl ?_
    refine q_getR 2 c1 fZ_30 rfl rfl (g1_2 sw1) (by decide) dZ_judge_16 ?_
    refine r_callVv 4 [] rfl c37 rfl rfl oT_think iT_think sT_think yZ_168 (by decide) ⟨Nat.le_refl _, Nat.le_refl _⟩ rfl (Nat.le_of_ble_eq_true rfl) dZ_judge_19 h (fun z2 r2 m2 h => ?_)
    obtain ⟨sw2, rfl, h⟩ := h
    refine r_iconst dZ_judge_22 ?_
    refine r_istore_n 3 (by decide) dZ_judge_23 rfl ?_
    refine r_sub [2, 3, 0] ?_ h
    rfl
  · replace h := h.2 hc
    refine r_iload_n 2 0 rfl dZ_judge_13 rfl ?_
    exact q_iret rfl h dZ_judge_14
set_option maxRecDepth 4000 in
theorem wZ_judge_24 {X : Cx} (x1 x3 : Int) (sw : Bool) (m : Mem) (Q : Int → Bool → Mem → Prop) (h : M2 X 3 mS_sizeOf [vr 72, vi x1] sw m (fun z1 sw1 m1 => ((w32 z1 ≤ w32 x3 → Q (-2) sw1 m1) ∧ (¬ (w32 z1 ≤ w32 x3) → M2 X 4 mS_cell [vr 72, vi x1, vi x3] sw1 m1 (fun z2 sw2 m2 => M2 X 2 mT_oddsIn [vr 37, vi z2] sw2 m2 (fun z3 sw3 m3 => ((¬ w64 z3 = 0 → R2 X 7 mZ_judge 24 [(0, vr 1), (1, vi x1), (3, vi (x3 + 1))] [] sw3 m3 Q) ∧ (¬ (¬ w64 z3 = 0) → Q x3 sw3 m3)))))))) : R2 X 7 mZ_judge 24 [(0, vr 1), (1, vi x1), (3, vi x3)] [] sw m Q := by
  refine r_iload_n 3 2 rfl dZ_judge_24 rfl ?_
  refine r_aload_n 0 0 rfl dZ_judge_25 rfl ?_
  refine q_getR 9 c1 fZ_81 rfl rfl (g1_9 sw) (by decide) dZ_judge_26 ?_
  refine r_iload_n 1 1 rfl dZ_judge_29 rfl ?_
  refine r_callVi 11 [_] rfl c72 rfl rfl oS_sizeOf iS_sizeOf sS_sizeOf yZ_99 (by decide) ⟨Nat.le_refl _, Nat.le_refl _⟩ rfl (Nat.le_of_ble_eq_true rfl) dZ_judge_30 h (fun z1 r1 m1 h => ?_)
  obtain ⟨sw1, rfl, h⟩ := h
  refine r_ifc_ge (tgt := 66) dZ_judge_33 (by decide) (fun hc => ?_) (fun hc => ?_)
  · replace h := h.1 hc
    refine r_bipush (by decide) dZ_judge_66 ?_
    exact q_iret rfl h dZ_judge_68
  · replace h := h.2 hc
    refine r_aload_n 0 0 rfl dZ_judge_36 rfl ?_
    refine q_getR 2 c1 fZ_30 rfl rfl (g1_2 sw1) (by decide) dZ_judge_37 ?_
    refine r_aload_n 0 0 rfl dZ_judge_40 rfl ?_
    refine q_getR 9 c1 fZ_81 rfl rfl (g1_9 sw1) (by decide) dZ_judge_41 ?_
    refine r_iload_n 1 1 rfl dZ_judge_44 rfl ?_
    refine r_iload_n 3 2 rfl dZ_judge_45 rfl ?_
    refine r_callVl 11 [_, _] rfl c72 rfl rfl oS_cell iS_cell sS_cell yZ_102 (by decide) ⟨Nat.le_refl _, Nat.le_refl _⟩ rfl (Nat.le_of_ble_eq_true rfl) dZ_judge_46 h (fun z2 r2 m2 h => ?_)
    obtain ⟨sw2, rfl, h⟩ := h
    refine r_l2i dZ_judge_49 ?_
    refine r_callVl 4 [_] rfl c37 rfl rfl oT_oddsIn iT_oddsIn sT_oddsIn yZ_242 (by decide) ⟨Nat.le_refl _, Nat.le_refl _⟩ rfl (Nat.le_of_ble_eq_true rfl) dZ_judge_50 h (fun z3 r3 m3 h => ?_)
    obtain ⟨sw3, rfl, h⟩ := h
    refine r_lconst dZ_judge_53 ?_
    refine q_lc_ne (tgt := 60) (A := w64 z3) (B := 0) rfl (by decide +kernel) dZ_judge_54 dZ_judge_55 (by decide) (fun hc => ?_) (fun hc => ?_)
    · replace h := h.1 hc
      refine r_iinc 3 2 rfl (by decide) dZ_judge_60 ?_
      refine r_goto (tgt := 24) dZ_judge_63 (by decide) ?_
      refine r_sub [1, 2, 0] ?_ h
      rfl
    · replace h := h.2 hc
      refine r_iload_n 3 2 rfl dZ_judge_58 rfl ?_
      exact q_iret rfl h dZ_judge_59
theorem dZ_how_0 : decode mZ_how.2.1 0 = .ok (.iload_n 1, 1) := by decide +kernel
theorem dZ_how_1 : decode mZ_how.2.1 1 = .ok (.iconst (-1), 1) := by decide +kernel
theorem dZ_how_2 : decode mZ_how.2.1 2 = .ok (.if_icmp .lt 17, 3) := by decide +kernel
theorem dZ_how_5 : decode mZ_how.2.1 5 = .ok (.iload_n 1, 1) := by decide +kernel
theorem dZ_how_6 : decode mZ_how.2.1 6 = .ok (.sipush 999, 3) := by decide +kernel
theorem dZ_how_9 : decode mZ_how.2.1 9 = .ok (.if_icmp .gt 10, 3) := by decide +kernel
theorem dZ_how_12 : decode mZ_how.2.1 12 = .ok (.iload_n 2, 1) := by decide +kernel
theorem dZ_how_13 : decode mZ_how.2.1 13 = .ok (.invokestatic 161, 3) := by decide +kernel
theorem dZ_how_16 : decode mZ_how.2.1 16 = .ok (.ifCond .ne 5, 3) := by decide +kernel
theorem dZ_how_19 : decode mZ_how.2.1 19 = .ok (.iconst (-1), 1) := by decide +kernel
theorem dZ_how_20 : decode mZ_how.2.1 20 = .ok (.ireturn, 1) := by decide +kernel
theorem dZ_how_21 : decode mZ_how.2.1 21 = .ok (.aload_n 0, 1) := by decide +kernel
theorem dZ_how_22 : decode mZ_how.2.1 22 = .ok (.getfield 30, 3) := by decide +kernel
theorem dZ_how_25 : decode mZ_how.2.1 25 = .ok (.invokevirtual 168, 3) := by decide +kernel
theorem dZ_how_28 : decode mZ_how.2.1 28 = .ok (.iload_n 2, 1) := by decide +kernel
theorem dZ_how_29 : decode mZ_how.2.1 29 = .ok (.ifCond .ne 14, 3) := by decide +kernel
theorem dZ_how_32 : decode mZ_how.2.1 32 = .ok (.aload_n 0, 1) := by decide +kernel
theorem dZ_how_33 : decode mZ_how.2.1 33 = .ok (.getfield 30, 3) := by decide +kernel
theorem dZ_how_36 : decode mZ_how.2.1 36 = .ok (.iload_n 1, 1) := by decide +kernel
theorem dZ_how_37 : decode mZ_how.2.1 37 = .ok (.invokevirtual 245, 3) := by decide +kernel
theorem dZ_how_40 : decode mZ_how.2.1 40 = .ok (.goto 11, 3) := by decide +kernel
theorem dZ_how_43 : decode mZ_how.2.1 43 = .ok (.aload_n 0, 1) := by decide +kernel
theorem dZ_how_44 : decode mZ_how.2.1 44 = .ok (.getfield 30, 3) := by decide +kernel
theorem dZ_how_47 : decode mZ_how.2.1 47 = .ok (.iload_n 1, 1) := by decide +kernel
theorem dZ_how_48 : decode mZ_how.2.1 48 = .ok (.invokevirtual 248, 3) := by decide +kernel
theorem dZ_how_51 : decode mZ_how.2.1 51 = .ok (.ireturn, 1) := by decide +kernel
/- Z_how: (II)I -/
set_option maxRecDepth 4000 in
theorem wZ_how {X : Cx} (a1 a2 : Int) (sw : Bool) (m : Mem) (Q : Int → Bool → Mem → Prop) (h : ((w32 a1 < (-1) → Q (-1) sw m) ∧ (¬ (w32 a1 < (-1)) → ((999 < w32 a1 → Q (-1) sw m) ∧ (¬ (999 < w32 a1) → M2 X 1 mZ_isSide [vi a2] sw m (fun z1 sw1 m1 => ((¬ w32 z1 = 0 → M2 X 6 mT_think [vr 37] sw1 m1 (fun z2 sw2 m2 => ((¬ w32 a2 = 0 → M2 X 1 mT_likeliestWayTo [vr 37, vi a1] sw2 m2 (fun z3 sw3 m3 => Q z3 sw3 m3)) ∧ (¬ (¬ w32 a2 = 0) → M2 X 1 mT_waysTo [vr 37, vi a1] sw2 m2 (fun z4 sw4 m4 => Q z4 sw4 m4))))) ∧ (¬ (¬ w32 z1 = 0) → Q (-1) sw1 m1)))))))) : M2 X 7 mZ_how [vr 1, vi a1, vi a2] sw m Q := by
  refine Mt.of pZ_how (Nat.le_of_ble_eq_true rfl) (Nat.le_refl _) ?_
  show R2 X 7 mZ_how 0 [(0, vr 1), (1, vi a1), (2, vi a2)] [] sw m Q
  refine r_iload_n 1 1 rfl dZ_how_0 rfl ?_
  refine r_iconst dZ_how_1 ?_
  refine r_ifc_lt (tgt := 19) dZ_how_2 (by decide) (fun hc => ?_) (fun hc => ?_)
  · replace h := h.1 hc
    refine r_iconst dZ_how_19 ?_
    exact q_iret rfl h dZ_how_20
  · replace h := h.2 hc
    refine r_iload_n 1 1 rfl dZ_how_5 rfl ?_
    refine r_sipush (by decide) dZ_how_6 ?_
    refine r_ifc_gt (tgt := 19) dZ_how_9 (by decide) (fun hc => ?_) (fun hc => ?_)
    · replace h := h.1 hc
      refine r_iconst dZ_how_19 ?_
      exact q_iret rfl h dZ_how_20
    · replace h := h.2 hc
      refine r_iload_n 2 2 rfl dZ_how_12 rfl ?_
      refine r_callSb [_] rfl oZ_isSide iZ_isSide yZ_161 (by decide) ⟨Nat.le_refl _, Nat.le_refl _⟩ rfl (Nat.le_of_ble_eq_true rfl) dZ_how_13 h (fun z1 r1 m1 h => ?_)
      obtain ⟨sw1, rfl, h⟩ := h
      refine r_if_ne (tgt := 21) dZ_how_16 (by decide) (fun hc => ?_) (fun hc => ?_)
      · replace h := h.1 hc
        refine r_aload_n 0 0 rfl dZ_how_21 rfl ?_
        refine q_getR 2 c1 fZ_30 rfl rfl (g1_2 sw1) (by decide) dZ_how_22 ?_
        refine r_callVv 4 [] rfl c37 rfl rfl oT_think iT_think sT_think yZ_168 (by decide) ⟨Nat.le_refl _, Nat.le_refl _⟩ rfl (Nat.le_of_ble_eq_true rfl) dZ_how_25 h (fun z2 r2 m2 h => ?_)
        obtain ⟨sw2, rfl, h⟩ := h
        refine r_iload_n 2 2 rfl dZ_how_28 rfl ?_
        refine r_if_ne (tgt := 43) dZ_how_29 (by decide) (fun hc => ?_) (fun hc => ?_)
        · replace h := h.1 hc
          refine r_aload_n 0 0 rfl dZ_how_43 rfl ?_
          refine q_getR 2 c1 fZ_30 rfl rfl (g1_2 sw2) (by decide) dZ_how_44 ?_
          refine r_iload_n 1 1 rfl dZ_how_47 rfl ?_
          refine r_callVi 4 [_] rfl c37 rfl rfl oT_likeliestWayTo iT_likeliestWayTo sT_likeliestWayTo yZ_248 (by decide) ⟨Nat.le_refl _, Nat.le_refl _⟩ rfl (Nat.le_of_ble_eq_true rfl) dZ_how_48 h (fun z3 r3 m3 h => ?_)
          obtain ⟨sw3, rfl, h⟩ := h
          exact q_iret rfl h dZ_how_51
        · replace h := h.2 hc
          refine r_aload_n 0 0 rfl dZ_how_32 rfl ?_
          refine q_getR 2 c1 fZ_30 rfl rfl (g1_2 sw2) (by decide) dZ_how_33 ?_
          refine r_iload_n 1 1 rfl dZ_how_36 rfl ?_
          refine r_callVi 4 [_] rfl c37 rfl rfl oT_waysTo iT_waysTo sT_waysTo yZ_245 (by decide) ⟨Nat.le_refl _, Nat.le_refl _⟩ rfl (Nat.le_of_ble_eq_true rfl) dZ_how_37 h (fun z4 r4 m4 h => ?_)
          obtain ⟨sw4, rfl, h⟩ := h
          refine r_goto (tgt := 51) dZ_how_40 (by decide) ?_
          exact q_iret rfl h dZ_how_51
      · replace h := h.2 hc
        refine r_iconst dZ_how_19 ?_
        exact q_iret rfl h dZ_how_20
theorem dZ_whose_0 : decode mZ_whose.2.1 0 = .ok (.aload_n 0, 1) := by decide +kernel
theorem dZ_whose_1 : decode mZ_whose.2.1 1 = .ok (.getfield 20, 3) := by decide +kernel
theorem dZ_whose_4 : decode mZ_whose.2.1 4 = .ok (.iload_n 2, 1) := by decide +kernel
theorem dZ_whose_5 : decode mZ_whose.2.1 5 = .ok (.invokevirtual 142, 3) := by decide +kernel
theorem dZ_whose_8 : decode mZ_whose.2.1 8 = .ok (.ifCond .ne 5, 3) := by decide +kernel
theorem dZ_whose_11 : decode mZ_whose.2.1 11 = .ok (.iconst (-1), 1) := by decide +kernel
theorem dZ_whose_12 : decode mZ_whose.2.1 12 = .ok (.ireturn, 1) := by decide +kernel
theorem dZ_whose_13 : decode mZ_whose.2.1 13 = .ok (.aload_n 0, 1) := by decide +kernel
theorem dZ_whose_14 : decode mZ_whose.2.1 14 = .ok (.getfield 81, 3) := by decide +kernel
theorem dZ_whose_17 : decode mZ_whose.2.1 17 = .ok (.iload_n 1, 1) := by decide +kernel
theorem dZ_whose_18 : decode mZ_whose.2.1 18 = .ok (.invokevirtual 89, 3) := by decide +kernel
theorem dZ_whose_21 : decode mZ_whose.2.1 21 = .ok (.istore_n 3, 1) := by decide +kernel
theorem dZ_whose_22 : decode mZ_whose.2.1 22 = .ok (.iload_n 3, 1) := by decide +kernel
theorem dZ_whose_23 : decode mZ_whose.2.1 23 = .ok (.ifCond .eq 5, 3) := by decide +kernel
theorem dZ_whose_26 : decode mZ_whose.2.1 26 = .ok (.iload_n 3, 1) := by decide +kernel
theorem dZ_whose_27 : decode mZ_whose.2.1 27 = .ok (.ireturn, 1) := by decide +kernel
theorem dZ_whose_28 : decode mZ_whose.2.1 28 = .ok (.aload_n 0, 1) := by decide +kernel
theorem dZ_whose_29 : decode mZ_whose.2.1 29 = .ok (.getfield 81, 3) := by decide +kernel
theorem dZ_whose_32 : decode mZ_whose.2.1 32 = .ok (.iload_n 1, 1) := by decide +kernel
theorem dZ_whose_33 : decode mZ_whose.2.1 33 = .ok (.invokevirtual 99, 3) := by decide +kernel
theorem dZ_whose_36 : decode mZ_whose.2.1 36 = .ok (.istore 4, 2) := by decide +kernel
theorem dZ_whose_38 : decode mZ_whose.2.1 38 = .ok (.iload 4, 2) := by decide +kernel
theorem dZ_whose_40 : decode mZ_whose.2.1 40 = .ok (.bipush 8, 2) := by decide +kernel
theorem dZ_whose_42 : decode mZ_whose.2.1 42 = .ok (.if_icmp .le 6, 3) := by decide +kernel
theorem dZ_whose_45 : decode mZ_whose.2.1 45 = .ok (.bipush (-5), 2) := by decide +kernel
theorem dZ_whose_47 : decode mZ_whose.2.1 47 = .ok (.ireturn, 1) := by decide +kernel
theorem dZ_whose_48 : decode mZ_whose.2.1 48 = .ok (.aload_n 0, 1) := by decide +kernel
theorem dZ_whose_49 : decode mZ_whose.2.1 49 = .ok (.getfield 30, 3) := by decide +kernel
theorem dZ_whose_52 : decode mZ_whose.2.1 52 = .ok (.invokevirtual 168, 3) := by decide +kernel
theorem dZ_whose_55 : decode mZ_whose.2.1 55 = .ok (.aload_n 0, 1) := by decide +kernel
theorem dZ_whose_56 : decode mZ_whose.2.1 56 = .ok (.getfield 46, 3) := by decide +kernel
theorem dZ_whose_59 : decode mZ_whose.2.1 59 = .ok (.iload_n 2, 1) := by decide +kernel
theorem dZ_whose_60 : decode mZ_whose.2.1 60 = .ok (.invokevirtual 251, 3) := by decide +kernel
theorem dZ_whose_63 : decode mZ_whose.2.1 63 = .ok (.iconst 0, 1) := by decide +kernel
theorem dZ_whose_64 : decode mZ_whose.2.1 64 = .ok (.istore 5, 2) := by decide +kernel
theorem dZ_whose_66 : decode mZ_whose.2.1 66 = .ok (.iload 5, 2) := by decide +kernel
theorem dZ_whose_68 : decode mZ_whose.2.1 68 = .ok (.iload 4, 2) := by decide +kernel
theorem dZ_whose_70 : decode mZ_whose.2.1 70 = .ok (.if_icmp .ge 27, 3) := by decide +kernel
theorem dZ_whose_73 : decode mZ_whose.2.1 73 = .ok (.aload_n 0, 1) := by decide +kernel
theorem dZ_whose_74 : decode mZ_whose.2.1 74 = .ok (.getfield 46, 3) := by decide +kernel
theorem dZ_whose_77 : decode mZ_whose.2.1 77 = .ok (.aload_n 0, 1) := by decide +kernel
theorem dZ_whose_78 : decode mZ_whose.2.1 78 = .ok (.getfield 81, 3) := by decide +kernel
theorem dZ_whose_81 : decode mZ_whose.2.1 81 = .ok (.iload_n 1, 1) := by decide +kernel
theorem dZ_whose_82 : decode mZ_whose.2.1 82 = .ok (.iload 5, 2) := by decide +kernel
theorem dZ_whose_84 : decode mZ_whose.2.1 84 = .ok (.invokevirtual 102, 3) := by decide +kernel
theorem dZ_whose_87 : decode mZ_whose.2.1 87 = .ok (.l2i, 1) := by decide +kernel
theorem dZ_whose_88 : decode mZ_whose.2.1 88 = .ok (.invokevirtual 254, 3) := by decide +kernel
theorem dZ_whose_91 : decode mZ_whose.2.1 91 = .ok (.iinc 5 1, 3) := by decide +kernel
theorem dZ_whose_94 : decode mZ_whose.2.1 94 = .ok (.goto (-28), 3) := by decide +kernel
theorem dZ_whose_97 : decode mZ_whose.2.1 97 = .ok (.aload_n 0, 1) := by decide +kernel
theorem dZ_whose_98 : decode mZ_whose.2.1 98 = .ok (.getfield 46, 3) := by decide +kernel
theorem dZ_whose_101 : decode mZ_whose.2.1 101 = .ok (.invokevirtual 257, 3) := by decide +kernel
theorem dZ_whose_104 : decode mZ_whose.2.1 104 = .ok (.ireturn, 1) := by decide +kernel
/- Z_whose: (II)I -/
set_option maxRecDepth 4000 in
theorem wZ_whose {X : Cx} (a1 a2 : Int) (sw : Bool) (m : Mem) (Q : Int → Bool → Mem → Prop) (h : M2 X 1 mK_has [vr 2, vi a2] sw m (fun z1 sw1 m1 => ((¬ w32 z1 = 0 → M2 X 3 mS_refusalOfShorts [vr 72, vi a1] sw1 m1 (fun z2 sw2 m2 => ((w32 z2 = 0 → M2 X 3 mS_sizeOf [vr 72, vi a1] sw2 m2 (fun z3 sw3 m3 => ((w32 z3 ≤ 8 → M2 X 6 mT_think [vr 37] sw3 m3 (fun z4 sw4 m4 => M2 X 2 mI_open [vr 44, vi a2] sw4 m4 (fun z5 sw5 m5 => R2 X 7 mZ_whose 66 [(0, vr 1), (1, vi a1), (4, vi z3), (5, vi 0)] [] sw5 m5 Q))) ∧ (¬ (w32 z3 ≤ 8) → Q (-5) sw3 m3)))) ∧ (¬ (w32 z2 = 0) → Q z2 sw2 m2)))) ∧ (¬ (¬ w32 z1 = 0) → Q (-1) sw1 m1)))) : M2 X 7 mZ_whose [vr 1, vi a1, vi a2] sw m Q := by
  refine Mt.of pZ_whose (Nat.le_of_ble_eq_true rfl) (Nat.le_refl _) ?_
  show R2 X 7 mZ_whose 0 [(0, vr 1), (1, vi a1), (2, vi a2)] [] sw m Q
  refine r_aload_n 0 0 rfl dZ_whose_0 rfl ?_
  refine q_getR 0 c1 fZ_20 rfl rfl (g1_0 sw) (by decide) dZ_whose_1 ?_
  refine r_iload_n 2 2 rfl dZ_whose_4 rfl ?_
  refine r_callVb 1 [_] rfl c2 rfl rfl oK_has iK_has sK_has yZ_142 (by decide) ⟨Nat.le_refl _, Nat.le_refl _⟩ rfl (Nat.le_of_ble_eq_true rfl) dZ_whose_5 h (fun z1 r1 m1 h => ?_)
  obtain ⟨sw1, rfl, h⟩ := h
  refine r_if_ne (tgt := 13) dZ_whose_8 (by decide) (fun hc => ?_) (fun hc => ?_)
  · replace h := h.1 hc
    refine r_aload_n 0 0 rfl dZ_whose_13 rfl ?_
    refine q_getR 9 c1 fZ_81 rfl rfl (g1_9 sw1) (by decide) dZ_whose_14 ?_
    refine r_iload_n 1 1 rfl dZ_whose_17 rfl ?_
    refine r_callVi 11 [_] rfl c72 rfl rfl oS_refusalOfShorts iS_refusalOfShorts sS_refusalOfShorts yZ_89 (by decide) ⟨Nat.le_refl _, Nat.le_refl _⟩ rfl (Nat.le_of_ble_eq_true rfl) dZ_whose_18 h (fun z2 r2 m2 h => ?_)
    obtain ⟨sw2, rfl, h⟩ := h
    refine r_istore_n 3 (by decide) dZ_whose_21 rfl ?_
    refine r_iload_n 3 0 rfl dZ_whose_22 rfl ?_
    refine r_if_eq (tgt := 28) dZ_whose_23 (by decide) (fun hc => ?_) (fun hc => ?_)
    · replace h := h.1 hc
      refine r_aload_n 0 1 rfl dZ_whose_28 rfl ?_
      refine q_getR 9 c1 fZ_81 rfl rfl (g1_9 sw2) (by decide) dZ_whose_29 ?_
      refine r_iload_n 1 2 rfl dZ_whose_32 rfl ?_
      refine r_callVi 11 [_] rfl c72 rfl rfl oS_sizeOf iS_sizeOf sS_sizeOf yZ_99 (by decide) ⟨Nat.le_refl _, Nat.le_refl _⟩ rfl (Nat.le_of_ble_eq_true rfl) dZ_whose_33 h (fun z3 r3 m3 h => ?_)
      obtain ⟨sw3, rfl, h⟩ := h
      refine r_istore 4 (by decide) dZ_whose_36 ?_
      refine r_iload 4 0 rfl dZ_whose_38 ?_
      refine r_bipush (by decide) dZ_whose_40 ?_
      refine r_ifc_le (tgt := 48) dZ_whose_42 (by decide) (fun hc => ?_) (fun hc => ?_)
      · replace h := h.1 hc
        refine r_aload_n 0 2 rfl dZ_whose_48 rfl ?_
        refine q_getR 2 c1 fZ_30 rfl rfl (g1_2 sw3) (by decide) dZ_whose_49 ?_
        refine r_callVv 4 [] rfl c37 rfl rfl oT_think iT_think sT_think yZ_168 (by decide) ⟨Nat.le_refl _, Nat.le_refl _⟩ rfl (Nat.le_of_ble_eq_true rfl) dZ_whose_52 h (fun z4 r4 m4 h => ?_)
        obtain ⟨sw4, rfl, h⟩ := h
        refine r_aload_n 0 2 rfl dZ_whose_55 rfl ?_
        refine q_getR 4 c1 fZ_46 rfl rfl (g1_4 sw4) (by decide) dZ_whose_56 ?_
        refine r_iload_n 2 4 rfl dZ_whose_59 rfl ?_
        refine r_callVv 6 [_] rfl c44 rfl rfl oI_open iI_open sI_open yZ_251 (by decide) ⟨Nat.le_refl _, Nat.le_refl _⟩ rfl (Nat.le_of_ble_eq_true rfl) dZ_whose_60 h (fun z5 r5 m5 h => ?_)
        obtain ⟨sw5, rfl, h⟩ := h
        refine r_iconst dZ_whose_63 ?_
        refine r_istore 5 (by decide) dZ_whose_64 ?_
        refine r_sub [3, 4, 1, 0] ?_ h
        rfl
      · replace h := h.2 hc
        refine r_bipush (by decide) dZ_whose_45 ?_
        exact q_iret rfl h dZ_whose_47
    · replace h := h.2 hc
      refine r_iload_n 3 0 rfl dZ_whose_26 rfl ?_
      exact q_iret rfl h dZ_whose_27
  · replace h := h.2 hc
    refine r_iconst dZ_whose_11 ?_
    exact q_iret rfl h dZ_whose_12
set_option maxRecDepth 4000 in
theorem wZ_whose_66 {X : Cx} (x1 x4 x5 : Int) (sw : Bool) (m : Mem) (Q : Int → Bool → Mem → Prop) (h : ((w32 x4 ≤ w32 x5 → M2 X 1 mI_bestTwelfths [vr 44] sw m (fun z1 sw1 m1 => Q z1 sw1 m1)) ∧ (¬ (w32 x4 ≤ w32 x5) → M2 X 4 mS_cell [vr 72, vi x1, vi x5] sw m (fun z2 sw2 m2 => M2 X 2 mI_read [vr 44, vi z2] sw2 m2 (fun z3 sw3 m3 => R2 X 7 mZ_whose 66 [(0, vr 1), (1, vi x1), (4, vi x4), (5, vi (x5 + 1))] [] sw3 m3 Q))))) : R2 X 7 mZ_whose 66 [(0, vr 1), (1, vi x1), (4, vi x4), (5, vi x5)] [] sw m Q := by
  refine r_iload 5 3 rfl dZ_whose_66 ?_
  refine r_iload 4 2 rfl dZ_whose_68 ?_
  refine r_ifc_ge (tgt := 97) dZ_whose_70 (by decide) (fun hc => ?_) (fun hc => ?_)
  · replace h := h.1 hc
    refine r_aload_n 0 0 rfl dZ_whose_97 rfl ?_
    refine q_getR 4 c1 fZ_46 rfl rfl (g1_4 sw) (by decide) dZ_whose_98 ?_
    refine r_callVi 6 [] rfl c44 rfl rfl oI_bestTwelfths iI_bestTwelfths sI_bestTwelfths yZ_257 (by decide) ⟨Nat.le_refl _, Nat.le_refl _⟩ rfl (Nat.le_of_ble_eq_true rfl) dZ_whose_101 h (fun z1 r1 m1 h => ?_)
    obtain ⟨sw1, rfl, h⟩ := h
    exact q_iret rfl h dZ_whose_104
  · replace h := h.2 hc
    refine r_aload_n 0 0 rfl dZ_whose_73 rfl ?_
    refine q_getR 4 c1 fZ_46 rfl rfl (g1_4 sw) (by decide) dZ_whose_74 ?_
    refine r_aload_n 0 0 rfl dZ_whose_77 rfl ?_
    refine q_getR 9 c1 fZ_81 rfl rfl (g1_9 sw) (by decide) dZ_whose_78 ?_
    refine r_iload_n 1 1 rfl dZ_whose_81 rfl ?_
    refine r_iload 5 3 rfl dZ_whose_82 ?_
    refine r_callVl 11 [_, _] rfl c72 rfl rfl oS_cell iS_cell sS_cell yZ_102 (by decide) ⟨Nat.le_refl _, Nat.le_refl _⟩ rfl (Nat.le_of_ble_eq_true rfl) dZ_whose_84 h (fun z2 r2 m2 h => ?_)
    obtain ⟨sw2, rfl, h⟩ := h
    refine r_l2i dZ_whose_87 ?_
    refine r_callVv 6 [_] rfl c44 rfl rfl oI_read iI_read sI_read yZ_254 (by decide) ⟨Nat.le_refl _, Nat.le_refl _⟩ rfl (Nat.le_of_ble_eq_true rfl) dZ_whose_88 h (fun z3 r3 m3 h => ?_)
    obtain ⟨sw3, rfl, h⟩ := h
    refine r_iinc 5 3 rfl (by decide) dZ_whose_91 ?_
    refine r_goto (tgt := 66) dZ_whose_94 (by decide) ?_
    refine r_sub [1, 2, 3, 0] ?_ h
    rfl
theorem dZ_drawn_0 : decode mZ_drawn.2.1 0 = .ok (.iload_n 2, 1) := by decide +kernel
theorem dZ_drawn_1 : decode mZ_drawn.2.1 1 = .ok (.iconst 1, 1) := by decide +kernel
theorem dZ_drawn_2 : decode mZ_drawn.2.1 2 = .ok (.if_icmp .lt 16, 3) := by decide +kernel
theorem dZ_drawn_5 : decode mZ_drawn.2.1 5 = .ok (.iload_n 2, 1) := by decide +kernel
theorem dZ_drawn_6 : decode mZ_drawn.2.1 6 = .ok (.bipush 50, 2) := by decide +kernel
theorem dZ_drawn_8 : decode mZ_drawn.2.1 8 = .ok (.if_icmp .gt 10, 3) := by decide +kernel
theorem dZ_drawn_11 : decode mZ_drawn.2.1 11 = .ok (.iload_n 3, 1) := by decide +kernel
theorem dZ_drawn_12 : decode mZ_drawn.2.1 12 = .ok (.invokestatic 161, 3) := by decide +kernel
theorem dZ_drawn_15 : decode mZ_drawn.2.1 15 = .ok (.ifCond .ne 5, 3) := by decide +kernel
theorem dZ_drawn_18 : decode mZ_drawn.2.1 18 = .ok (.iconst (-1), 1) := by decide +kernel
theorem dZ_drawn_19 : decode mZ_drawn.2.1 19 = .ok (.ireturn, 1) := by decide +kernel
theorem dZ_drawn_20 : decode mZ_drawn.2.1 20 = .ok (.aload_n 0, 1) := by decide +kernel
theorem dZ_drawn_21 : decode mZ_drawn.2.1 21 = .ok (.getfield 30, 3) := by decide +kernel
theorem dZ_drawn_24 : decode mZ_drawn.2.1 24 = .ok (.invokevirtual 168, 3) := by decide +kernel
theorem dZ_drawn_27 : decode mZ_drawn.2.1 27 = .ok (.aload_n 0, 1) := by decide +kernel
theorem dZ_drawn_28 : decode mZ_drawn.2.1 28 = .ok (.getfield 39, 3) := by decide +kernel
theorem dZ_drawn_31 : decode mZ_drawn.2.1 31 = .ok (.iload_n 1, 1) := by decide +kernel
theorem dZ_drawn_32 : decode mZ_drawn.2.1 32 = .ok (.iload_n 2, 1) := by decide +kernel
theorem dZ_drawn_33 : decode mZ_drawn.2.1 33 = .ok (.iload_n 3, 1) := by decide +kernel
theorem dZ_drawn_34 : decode mZ_drawn.2.1 34 = .ok (.ifCond .ne 7, 3) := by decide +kernel
theorem dZ_drawn_37 : decode mZ_drawn.2.1 37 = .ok (.iconst 1, 1) := by decide +kernel
theorem dZ_drawn_38 : decode mZ_drawn.2.1 38 = .ok (.goto 4, 3) := by decide +kernel
theorem dZ_drawn_41 : decode mZ_drawn.2.1 41 = .ok (.iconst 0, 1) := by decide +kernel
theorem dZ_drawn_42 : decode mZ_drawn.2.1 42 = .ok (.invokevirtual 260, 3) := by decide +kernel
theorem dZ_drawn_45 : decode mZ_drawn.2.1 45 = .ok (.ireturn, 1) := by decide +kernel
/- Z_drawn: (III)I -/
set_option maxRecDepth 4000 in
theorem wZ_drawn {X : Cx} (a1 a2 a3 : Int) (sw : Bool) (m : Mem) (Q : Int → Bool → Mem → Prop) (h : ((w32 a2 < 1 → Q (-1) sw m) ∧ (¬ (w32 a2 < 1) → ((50 < w32 a2 → Q (-1) sw m) ∧ (¬ (50 < w32 a2) → M2 X 1 mZ_isSide [vi a3] sw m (fun z1 sw1 m1 => ((¬ w32 z1 = 0 → M2 X 6 mT_think [vr 37] sw1 m1 (fun z2 sw2 m2 => ((¬ w32 a3 = 0 → M2 X 1 mC_draw [vr 42, vi a1, vi a2, vi 0] sw2 m2 (fun z3 sw3 m3 => Q z3 sw3 m3)) ∧ (¬ (¬ w32 a3 = 0) → M2 X 1 mC_draw [vr 42, vi a1, vi a2, vi 1] sw2 m2 (fun z4 sw4 m4 => Q z4 sw4 m4))))) ∧ (¬ (¬ w32 z1 = 0) → Q (-1) sw1 m1)))))))) : M2 X 7 mZ_drawn [vr 1, vi a1, vi a2, vi a3] sw m Q := by
  refine Mt.of pZ_drawn (Nat.le_of_ble_eq_true rfl) (Nat.le_refl _) ?_
  show R2 X 7 mZ_drawn 0 [(0, vr 1), (1, vi a1), (2, vi a2), (3, vi a3)] [] sw m Q
  refine r_iload_n 2 2 rfl dZ_drawn_0 rfl ?_
  refine r_iconst dZ_drawn_1 ?_
  refine r_ifc_lt (tgt := 18) dZ_drawn_2 (by decide) (fun hc => ?_) (fun hc => ?_)
  · replace h := h.1 hc
    refine r_iconst dZ_drawn_18 ?_
    exact q_iret rfl h dZ_drawn_19
  · replace h := h.2 hc
    refine r_iload_n 2 2 rfl dZ_drawn_5 rfl ?_
    refine r_bipush (by decide) dZ_drawn_6 ?_
    refine r_ifc_gt (tgt := 18) dZ_drawn_8 (by decide) (fun hc => ?_) (fun hc => ?_)
    · replace h := h.1 hc
      refine r_iconst dZ_drawn_18 ?_
      exact q_iret rfl h dZ_drawn_19
    · replace h := h.2 hc
      refine r_iload_n 3 3 rfl dZ_drawn_11 rfl ?_
      refine r_callSb [_] rfl oZ_isSide iZ_isSide yZ_161 (by decide) ⟨Nat.le_refl _, Nat.le_refl _⟩ rfl (Nat.le_of_ble_eq_true rfl) dZ_drawn_12 h (fun z1 r1 m1 h => ?_)
      obtain ⟨sw1, rfl, h⟩ := h
      refine r_if_ne (tgt := 20) dZ_drawn_15 (by decide) (fun hc => ?_) (fun hc => ?_)
      · replace h := h.1 hc
        refine r_aload_n 0 0 rfl dZ_drawn_20 rfl ?_
        refine q_getR 2 c1 fZ_30 rfl rfl (g1_2 sw1) (by decide) dZ_drawn_21 ?_
        refine r_callVv 4 [] rfl c37 rfl rfl oT_think iT_think sT_think yZ_168 (by decide) ⟨Nat.le_refl _, Nat.le_refl _⟩ rfl (Nat.le_of_ble_eq_true rfl) dZ_drawn_24 h (fun z2 r2 m2 h => ?_)
        obtain ⟨sw2, rfl, h⟩ := h
        refine r_aload_n 0 0 rfl dZ_drawn_27 rfl ?_
        refine q_getR 3 c1 fZ_39 rfl rfl (g1_3 sw2) (by decide) dZ_drawn_28 ?_
        refine r_iload_n 1 1 rfl dZ_drawn_31 rfl ?_
        refine r_iload_n 2 2 rfl dZ_drawn_32 rfl ?_
        refine r_iload_n 3 3 rfl dZ_drawn_33 rfl ?_
        refine r_if_ne (tgt := 41) dZ_drawn_34 (by decide) (fun hc => ?_) (fun hc => ?_)
        · replace h := h.1 hc
          refine r_iconst dZ_drawn_41 ?_
          refine r_callVi 5 [_, _, _] rfl c42 rfl rfl oC_draw iC_draw sC_draw yZ_260 (by decide) ⟨Nat.le_refl _, Nat.le_refl _⟩ rfl (Nat.le_of_ble_eq_true rfl) dZ_drawn_42 h (fun z3 r3 m3 h => ?_)
          obtain ⟨sw3, rfl, h⟩ := h
          exact q_iret rfl h dZ_drawn_45
        · replace h := h.2 hc
          refine r_iconst dZ_drawn_37 ?_
          refine r_goto (tgt := 42) dZ_drawn_38 (by decide) ?_
          refine r_callVi 5 [_, _, _] rfl c42 rfl rfl oC_draw iC_draw sC_draw yZ_260 (by decide) ⟨Nat.le_refl _, Nat.le_refl _⟩ rfl (Nat.le_of_ble_eq_true rfl) dZ_drawn_42 h (fun z4 r4 m4 h => ?_)
          obtain ⟨sw4, rfl, h⟩ := h
          exact q_iret rfl h dZ_drawn_45
      · replace h := h.2 hc
        refine r_iconst dZ_drawn_18 ?_
        exact q_iret rfl h dZ_drawn_19
theorem dZ_morning_0 : decode mZ_morning.2.1 0 = .ok (.iload_n 1, 1) := by decide +kernel
theorem dZ_morning_1 : decode mZ_morning.2.1 1 = .ok (.invokestatic 149, 3) := by decide +kernel
theorem dZ_morning_4 : decode mZ_morning.2.1 4 = .ok (.ifCond .eq 14, 3) := by decide +kernel
theorem dZ_morning_7 : decode mZ_morning.2.1 7 = .ok (.aload_n 0, 1) := by decide +kernel
theorem dZ_morning_8 : decode mZ_morning.2.1 8 = .ok (.getfield 60, 3) := by decide +kernel
theorem dZ_morning_11 : decode mZ_morning.2.1 11 = .ok (.iload_n 1, 1) := by decide +kernel
theorem dZ_morning_12 : decode mZ_morning.2.1 12 = .ok (.invokevirtual 264, 3) := by decide +kernel
theorem dZ_morning_15 : decode mZ_morning.2.1 15 = .ok (.goto 4, 3) := by decide +kernel
theorem dZ_morning_18 : decode mZ_morning.2.1 18 = .ok (.iconst (-1), 1) := by decide +kernel
theorem dZ_morning_19 : decode mZ_morning.2.1 19 = .ok (.ireturn, 1) := by decide +kernel
/- Z_morning: (I)I -/
set_option maxRecDepth 4000 in
theorem wZ_morning {X : Cx} (a1 : Int) (sw : Bool) (m : Mem) (Q : Int → Bool → Mem → Prop) (h : M2 X 1 mZ_isSet [vi a1] sw m (fun z1 sw1 m1 => ((w32 z1 = 0 → Q (-1) sw1 m1) ∧ (¬ (w32 z1 = 0) → M2 X 6 mD_live [vr 60, vi a1] sw1 m1 (fun z2 sw2 m2 => Q z2 sw2 m2))))) : M2 X 7 mZ_morning [vr 1, vi a1] sw m Q := by
  refine Mt.of pZ_morning (Nat.le_of_ble_eq_true rfl) (Nat.le_refl _) ?_
  show R2 X 7 mZ_morning 0 [(0, vr 1), (1, vi a1)] [] sw m Q
  refine r_iload_n 1 1 rfl dZ_morning_0 rfl ?_
  refine r_callSb [_] rfl oZ_isSet iZ_isSet yZ_149 (by decide) ⟨Nat.le_refl _, Nat.le_refl _⟩ rfl (Nat.le_of_ble_eq_true rfl) dZ_morning_1 h (fun z1 r1 m1 h => ?_)
  obtain ⟨sw1, rfl, h⟩ := h
  refine r_if_eq (tgt := 18) dZ_morning_4 (by decide) (fun hc => ?_) (fun hc => ?_)
  · replace h := h.1 hc
    refine r_iconst dZ_morning_18 ?_
    exact q_iret rfl h dZ_morning_19
  · replace h := h.2 hc
    refine r_aload_n 0 0 rfl dZ_morning_7 rfl ?_
    refine q_getR 6 c1 fZ_60 rfl rfl (g1_6 sw1) (by decide) dZ_morning_8 ?_
    refine r_iload_n 1 1 rfl dZ_morning_11 rfl ?_
    refine r_callVi 8 [_] rfl c60 rfl rfl oD_live iD_live sD_live yZ_264 (by decide) ⟨Nat.le_refl _, Nat.le_refl _⟩ rfl (Nat.le_of_ble_eq_true rfl) dZ_morning_12 h (fun z2 r2 m2 h => ?_)
    obtain ⟨sw2, rfl, h⟩ := h
    refine r_goto (tgt := 19) dZ_morning_15 (by decide) ?_
    exact q_iret rfl h dZ_morning_19
theorem dZ_mended_0 : decode mZ_mended.2.1 0 = .ok (.aload_n 0, 1) := by decide +kernel
theorem dZ_mended_1 : decode mZ_mended.2.1 1 = .ok (.getfield 20, 3) := by decide +kernel
theorem dZ_mended_4 : decode mZ_mended.2.1 4 = .ok (.iload_n 1, 1) := by decide +kernel
theorem dZ_mended_5 : decode mZ_mended.2.1 5 = .ok (.invokevirtual 142, 3) := by decide +kernel
theorem dZ_mended_8 : decode mZ_mended.2.1 8 = .ok (.ifCond .eq 14, 3) := by decide +kernel
theorem dZ_mended_11 : decode mZ_mended.2.1 11 = .ok (.aload_n 0, 1) := by decide +kernel
theorem dZ_mended_12 : decode mZ_mended.2.1 12 = .ok (.getfield 60, 3) := by decide +kernel
theorem dZ_mended_15 : decode mZ_mended.2.1 15 = .ok (.iload_n 1, 1) := by decide +kernel
theorem dZ_mended_16 : decode mZ_mended.2.1 16 = .ok (.invokevirtual 267, 3) := by decide +kernel
theorem dZ_mended_19 : decode mZ_mended.2.1 19 = .ok (.goto 4, 3) := by decide +kernel
theorem dZ_mended_22 : decode mZ_mended.2.1 22 = .ok (.iconst (-1), 1) := by decide +kernel
theorem dZ_mended_23 : decode mZ_mended.2.1 23 = .ok (.ireturn, 1) := by decide +kernel
/- Z_mended: (I)I -/
set_option maxRecDepth 4000 in
theorem wZ_mended {X : Cx} (a1 : Int) (sw : Bool) (m : Mem) (Q : Int → Bool → Mem → Prop) (h : M2 X 1 mK_has [vr 2, vi a1] sw m (fun z1 sw1 m1 => ((w32 z1 = 0 → Q (-1) sw1 m1) ∧ (¬ (w32 z1 = 0) → M2 X 3 mD_repair [vr 60, vi a1] sw1 m1 (fun z2 sw2 m2 => Q z2 sw2 m2))))) : M2 X 4 mZ_mended [vr 1, vi a1] sw m Q := by
  refine Mt.of pZ_mended (Nat.le_of_ble_eq_true rfl) (Nat.le_refl _) ?_
  show R2 X 4 mZ_mended 0 [(0, vr 1), (1, vi a1)] [] sw m Q
  refine r_aload_n 0 0 rfl dZ_mended_0 rfl ?_
  refine q_getR 0 c1 fZ_20 rfl rfl (g1_0 sw) (by decide) dZ_mended_1 ?_
  refine r_iload_n 1 1 rfl dZ_mended_4 rfl ?_
  refine r_callVb 1 [_] rfl c2 rfl rfl oK_has iK_has sK_has yZ_142 (by decide) ⟨Nat.le_refl _, Nat.le_refl _⟩ rfl (Nat.le_of_ble_eq_true rfl) dZ_mended_5 h (fun z1 r1 m1 h => ?_)
  obtain ⟨sw1, rfl, h⟩ := h
  refine r_if_eq (tgt := 22) dZ_mended_8 (by decide) (fun hc => ?_) (fun hc => ?_)
  · replace h := h.1 hc
    refine r_iconst dZ_mended_22 ?_
    exact q_iret rfl h dZ_mended_23
  · replace h := h.2 hc
    refine r_aload_n 0 0 rfl dZ_mended_11 rfl ?_
    refine q_getR 6 c1 fZ_60 rfl rfl (g1_6 sw1) (by decide) dZ_mended_12 ?_
    refine r_iload_n 1 1 rfl dZ_mended_15 rfl ?_
    refine r_callVi 8 [_] rfl c60 rfl rfl oD_repair iD_repair sD_repair yZ_267 (by decide) ⟨Nat.le_refl _, Nat.le_refl _⟩ rfl (Nat.le_of_ble_eq_true rfl) dZ_mended_16 h (fun z2 r2 m2 h => ?_)
    obtain ⟨sw2, rfl, h⟩ := h
    refine r_goto (tgt := 23) dZ_mended_19 (by decide) ?_
    exact q_iret rfl h dZ_mended_23
theorem dZ_led_0 : decode mZ_led.2.1 0 = .ok (.aload_n 0, 1) := by decide +kernel
theorem dZ_led_1 : decode mZ_led.2.1 1 = .ok (.getfield 60, 3) := by decide +kernel
theorem dZ_led_4 : decode mZ_led.2.1 4 = .ok (.iload_n 1, 1) := by decide +kernel
theorem dZ_led_5 : decode mZ_led.2.1 5 = .ok (.invokevirtual 270, 3) := by decide +kernel
theorem dZ_led_8 : decode mZ_led.2.1 8 = .ok (.ireturn, 1) := by decide +kernel
/- Z_led: (I)I -/
set_option maxRecDepth 4000 in
theorem wZ_led {X : Cx} (a1 : Int) (sw : Bool) (m : Mem) (Q : Int → Bool → Mem → Prop) (h : M2 X 1 mD_ledgerAt [vr 60, vi a1] sw m (fun z1 sw1 m1 => Q z1 sw1 m1)) : M2 X 2 mZ_led [vr 1, vi a1] sw m Q := by
  refine Mt.of pZ_led (Nat.le_of_ble_eq_true rfl) (Nat.le_refl _) ?_
  show R2 X 2 mZ_led 0 [(0, vr 1), (1, vi a1)] [] sw m Q
  refine r_aload_n 0 0 rfl dZ_led_0 rfl ?_
  refine q_getR 6 c1 fZ_60 rfl rfl (g1_6 sw) (by decide) dZ_led_1 ?_
  refine r_iload_n 1 1 rfl dZ_led_4 rfl ?_
  refine r_callVi 8 [_] rfl c60 rfl rfl oD_ledgerAt iD_ledgerAt sD_ledgerAt yZ_270 (by decide) ⟨Nat.le_refl _, Nat.le_refl _⟩ rfl (Nat.le_of_ble_eq_true rfl) dZ_led_5 h (fun z1 r1 m1 h => ?_)
  obtain ⟨sw1, rfl, h⟩ := h
  exact q_iret rfl h dZ_led_8
theorem dZ_image_0 : decode mZ_image.2.1 0 = .ok (.aload_n 0, 1) := by decide +kernel
theorem dZ_image_1 : decode mZ_image.2.1 1 = .ok (.getfield 60, 3) := by decide +kernel
theorem dZ_image_4 : decode mZ_image.2.1 4 = .ok (.invokevirtual 273, 3) := by decide +kernel
theorem dZ_image_7 : decode mZ_image.2.1 7 = .ok (.ireturn, 1) := by decide +kernel
/- Z_image: ()I -/
set_option maxRecDepth 4000 in
theorem wZ_image {X : Cx} (sw : Bool) (m : Mem) (Q : Int → Bool → Mem → Prop) (h : M2 X 3 mD_keepImage [vr 60] sw m (fun z1 sw1 m1 => Q z1 sw1 m1)) : M2 X 4 mZ_image [vr 1] sw m Q := by
  refine Mt.of pZ_image (Nat.le_of_ble_eq_true rfl) (Nat.le_refl _) ?_
  show R2 X 4 mZ_image 0 [(0, vr 1)] [] sw m Q
  refine r_aload_n 0 0 rfl dZ_image_0 rfl ?_
  refine q_getR 6 c1 fZ_60 rfl rfl (g1_6 sw) (by decide) dZ_image_1 ?_
  refine r_callVi 8 [] rfl c60 rfl rfl oD_keepImage iD_keepImage sD_keepImage yZ_273 (by decide) ⟨Nat.le_refl _, Nat.le_refl _⟩ rfl (Nat.le_of_ble_eq_true rfl) dZ_image_4 h (fun z1 r1 m1 h => ?_)
  obtain ⟨sw1, rfl, h⟩ := h
  exact q_iret rfl h dZ_image_7
theorem dZ_back_0 : decode mZ_back.2.1 0 = .ok (.aload_n 0, 1) := by decide +kernel
theorem dZ_back_1 : decode mZ_back.2.1 1 = .ok (.getfield 60, 3) := by decide +kernel
theorem dZ_back_4 : decode mZ_back.2.1 4 = .ok (.invokevirtual 276, 3) := by decide +kernel
theorem dZ_back_7 : decode mZ_back.2.1 7 = .ok (.ireturn, 1) := by decide +kernel
/- Z_back: ()I -/
set_option maxRecDepth 4000 in
theorem wZ_back {X : Cx} (sw : Bool) (m : Mem) (Q : Int → Bool → Mem → Prop) (h : M2 X 3 mD_layBack [vr 60] sw m (fun z1 sw1 m1 => Q z1 sw1 m1)) : M2 X 4 mZ_back [vr 1] sw m Q := by
  refine Mt.of pZ_back (Nat.le_of_ble_eq_true rfl) (Nat.le_refl _) ?_
  show R2 X 4 mZ_back 0 [(0, vr 1)] [] sw m Q
  refine r_aload_n 0 0 rfl dZ_back_0 rfl ?_
  refine q_getR 6 c1 fZ_60 rfl rfl (g1_6 sw) (by decide) dZ_back_1 ?_
  refine r_callVi 8 [] rfl c60 rfl rfl oD_layBack iD_layBack sD_layBack yZ_276 (by decide) ⟨Nat.le_refl _, Nat.le_refl _⟩ rfl (Nat.le_of_ble_eq_true rfl) dZ_back_4 h (fun z1 r1 m1 h => ?_)
  obtain ⟨sw1, rfl, h⟩ := h
  exact q_iret rfl h dZ_back_7
theorem dZ_undo_0 : decode mZ_undo.2.1 0 = .ok (.aload_n 0, 1) := by decide +kernel
theorem dZ_undo_1 : decode mZ_undo.2.1 1 = .ok (.getfield 67, 3) := by decide +kernel
theorem dZ_undo_4 : decode mZ_undo.2.1 4 = .ok (.invokevirtual 279, 3) := by decide +kernel
theorem dZ_undo_7 : decode mZ_undo.2.1 7 = .ok (.ireturn, 1) := by decide +kernel
/- Z_undo: ()I -/
set_option maxRecDepth 4000 in
theorem wZ_undo {X : Cx} (sw : Bool) (m : Mem) (Q : Int → Bool → Mem → Prop) (h : M2 X 3 mG_takeBack [vr 64] sw m (fun z1 sw1 m1 => Q z1 sw1 m1)) : M2 X 4 mZ_undo [vr 1] sw m Q := by
  refine Mt.of pZ_undo (Nat.le_of_ble_eq_true rfl) (Nat.le_refl _) ?_
  show R2 X 4 mZ_undo 0 [(0, vr 1)] [] sw m Q
  refine r_aload_n 0 0 rfl dZ_undo_0 rfl ?_
  refine q_getR 7 c1 fZ_67 rfl rfl (g1_7 sw) (by decide) dZ_undo_1 ?_
  refine r_callVi 9 [] rfl c64 rfl rfl oG_takeBack iG_takeBack sG_takeBack yZ_279 (by decide) ⟨Nat.le_refl _, Nat.le_refl _⟩ rfl (Nat.le_of_ble_eq_true rfl) dZ_undo_4 h (fun z1 r1 m1 h => ?_)
  obtain ⟨sw1, rfl, h⟩ := h
  exact q_iret rfl h dZ_undo_7
theorem dZ_redo_0 : decode mZ_redo.2.1 0 = .ok (.aload_n 0, 1) := by decide +kernel
theorem dZ_redo_1 : decode mZ_redo.2.1 1 = .ok (.getfield 67, 3) := by decide +kernel
theorem dZ_redo_4 : decode mZ_redo.2.1 4 = .ok (.invokevirtual 282, 3) := by decide +kernel
theorem dZ_redo_7 : decode mZ_redo.2.1 7 = .ok (.ireturn, 1) := by decide +kernel
/- Z_redo: ()I -/
set_option maxRecDepth 4000 in
theorem wZ_redo {X : Cx} (sw : Bool) (m : Mem) (Q : Int → Bool → Mem → Prop) (h : M2 X 3 mG_doAgain [vr 64] sw m (fun z1 sw1 m1 => Q z1 sw1 m1)) : M2 X 4 mZ_redo [vr 1] sw m Q := by
  refine Mt.of pZ_redo (Nat.le_of_ble_eq_true rfl) (Nat.le_refl _) ?_
  show R2 X 4 mZ_redo 0 [(0, vr 1)] [] sw m Q
  refine r_aload_n 0 0 rfl dZ_redo_0 rfl ?_
  refine q_getR 7 c1 fZ_67 rfl rfl (g1_7 sw) (by decide) dZ_redo_1 ?_
  refine r_callVi 9 [] rfl c64 rfl rfl oG_doAgain iG_doAgain sG_doAgain yZ_282 (by decide) ⟨Nat.le_refl _, Nat.le_refl _⟩ rfl (Nat.le_of_ble_eq_true rfl) dZ_redo_4 h (fun z1 r1 m1 h => ?_)
  obtain ⟨sw1, rfl, h⟩ := h
  exact q_iret rfl h dZ_redo_7
theorem dZ_body_0 : decode mZ_body.2.1 0 = .ok (.aload_n 0, 1) := by decide +kernel
theorem dZ_body_1 : decode mZ_body.2.1 1 = .ok (.getfield 74, 3) := by decide +kernel
theorem dZ_body_4 : decode mZ_body.2.1 4 = .ok (.iload_n 1, 1) := by decide +kernel
theorem dZ_body_5 : decode mZ_body.2.1 5 = .ok (.invokevirtual 285, 3) := by decide +kernel
theorem dZ_body_8 : decode mZ_body.2.1 8 = .ok (.ireturn, 1) := by decide +kernel
/- Z_body: (I)I -/
set_option maxRecDepth 4000 in
theorem wZ_body {X : Cx} (a1 : Int) (sw : Bool) (m : Mem) (Q : Int → Bool → Mem → Prop) (h : M2 X 2 mA_add [vr 69, vi a1] sw m (fun z1 sw1 m1 => Q z1 sw1 m1)) : M2 X 3 mZ_body [vr 1, vi a1] sw m Q := by
  refine Mt.of pZ_body (Nat.le_of_ble_eq_true rfl) (Nat.le_refl _) ?_
  show R2 X 3 mZ_body 0 [(0, vr 1), (1, vi a1)] [] sw m Q
  refine r_aload_n 0 0 rfl dZ_body_0 rfl ?_
  refine q_getR 8 c1 fZ_74 rfl rfl (g1_8 sw) (by decide) dZ_body_1 ?_
  refine r_iload_n 1 1 rfl dZ_body_4 rfl ?_
  refine r_callVi 10 [_] rfl c69 rfl rfl oA_add iA_add sA_add yZ_285 (by decide) ⟨Nat.le_refl _, Nat.le_refl _⟩ rfl (Nat.le_of_ble_eq_true rfl) dZ_body_5 h (fun z1 r1 m1 h => ?_)
  obtain ⟨sw1, rfl, h⟩ := h
  exact q_iret rfl h dZ_body_8
theorem dZ_act_0 : decode mZ_act.2.1 0 = .ok (.aload_n 0, 1) := by decide +kernel
theorem dZ_act_1 : decode mZ_act.2.1 1 = .ok (.getfield 74, 3) := by decide +kernel
theorem dZ_act_4 : decode mZ_act.2.1 4 = .ok (.iload_n 1, 1) := by decide +kernel
theorem dZ_act_5 : decode mZ_act.2.1 5 = .ok (.iload_n 2, 1) := by decide +kernel
theorem dZ_act_6 : decode mZ_act.2.1 6 = .ok (.iload_n 3, 1) := by decide +kernel
theorem dZ_act_7 : decode mZ_act.2.1 7 = .ok (.invokevirtual 287, 3) := by decide +kernel
theorem dZ_act_10 : decode mZ_act.2.1 10 = .ok (.ireturn, 1) := by decide +kernel
/- Z_act: (III)I -/
set_option maxRecDepth 4000 in
theorem wZ_act {X : Cx} (a1 a2 a3 : Int) (sw : Bool) (m : Mem) (Q : Int → Bool → Mem → Prop) (h : M2 X 61 mA_perform [vr 69, vi a1, vi a2, vi a3] sw m (fun z1 sw1 m1 => Q z1 sw1 m1)) : M2 X 62 mZ_act [vr 1, vi a1, vi a2, vi a3] sw m Q := by
  refine Mt.of pZ_act (Nat.le_of_ble_eq_true rfl) (Nat.le_refl _) ?_
  show R2 X 62 mZ_act 0 [(0, vr 1), (1, vi a1), (2, vi a2), (3, vi a3)] [] sw m Q
  refine r_aload_n 0 0 rfl dZ_act_0 rfl ?_
  refine q_getR 8 c1 fZ_74 rfl rfl (g1_8 sw) (by decide) dZ_act_1 ?_
  refine r_iload_n 1 1 rfl dZ_act_4 rfl ?_
  refine r_iload_n 2 2 rfl dZ_act_5 rfl ?_
  refine r_iload_n 3 3 rfl dZ_act_6 rfl ?_
  refine r_callVi 10 [_, _, _] rfl c69 rfl rfl oA_perform iA_perform sA_perform yZ_287 (by decide) ⟨Nat.le_refl _, Nat.le_refl _⟩ rfl (Nat.le_of_ble_eq_true rfl) dZ_act_7 h (fun z1 r1 m1 h => ?_)
  obtain ⟨sw1, rfl, h⟩ := h
  exact q_iret rfl h dZ_act_10
theorem dZ_trace_0 : decode mZ_trace.2.1 0 = .ok (.aload_n 0, 1) := by decide +kernel
theorem dZ_trace_1 : decode mZ_trace.2.1 1 = .ok (.getfield 74, 3) := by decide +kernel
theorem dZ_trace_4 : decode mZ_trace.2.1 4 = .ok (.iload_n 1, 1) := by decide +kernel
theorem dZ_trace_5 : decode mZ_trace.2.1 5 = .ok (.invokevirtual 290, 3) := by decide +kernel
theorem dZ_trace_8 : decode mZ_trace.2.1 8 = .ok (.ireturn, 1) := by decide +kernel
/- Z_trace: (I)I -/
set_option maxRecDepth 4000 in
theorem wZ_trace {X : Cx} (a1 : Int) (sw : Bool) (m : Mem) (Q : Int → Bool → Mem → Prop) (h : M2 X 1 mA_ranAt [vr 69, vi a1] sw m (fun z1 sw1 m1 => Q z1 sw1 m1)) : M2 X 2 mZ_trace [vr 1, vi a1] sw m Q := by
  refine Mt.of pZ_trace (Nat.le_of_ble_eq_true rfl) (Nat.le_refl _) ?_
  show R2 X 2 mZ_trace 0 [(0, vr 1), (1, vi a1)] [] sw m Q
  refine r_aload_n 0 0 rfl dZ_trace_0 rfl ?_
  refine q_getR 8 c1 fZ_74 rfl rfl (g1_8 sw) (by decide) dZ_trace_1 ?_
  refine r_iload_n 1 1 rfl dZ_trace_4 rfl ?_
  refine r_callVi 10 [_] rfl c69 rfl rfl oA_ranAt iA_ranAt sA_ranAt yZ_290 (by decide) ⟨Nat.le_refl _, Nat.le_refl _⟩ rfl (Nat.le_of_ble_eq_true rfl) dZ_trace_5 h (fun z1 r1 m1 h => ?_)
  obtain ⟨sw1, rfl, h⟩ := h
  exact q_iret rfl h dZ_trace_8
theorem dZ_keep_0 : decode mZ_keep.2.1 0 = .ok (.iload_n 2, 1) := by decide +kernel
theorem dZ_keep_1 : decode mZ_keep.2.1 1 = .ok (.iconst (-1), 1) := by decide +kernel
theorem dZ_keep_2 : decode mZ_keep.2.1 2 = .ok (.if_icmp .eq 14, 3) := by decide +kernel
theorem dZ_keep_5 : decode mZ_keep.2.1 5 = .ok (.aload_n 0, 1) := by decide +kernel
theorem dZ_keep_6 : decode mZ_keep.2.1 6 = .ok (.getfield 74, 3) := by decide +kernel
theorem dZ_keep_9 : decode mZ_keep.2.1 9 = .ok (.iload_n 2, 1) := by decide +kernel
theorem dZ_keep_10 : decode mZ_keep.2.1 10 = .ok (.invokevirtual 293, 3) := by decide +kernel
theorem dZ_keep_13 : decode mZ_keep.2.1 13 = .ok (.ifCond .eq 7, 3) := by decide +kernel
theorem dZ_keep_16 : decode mZ_keep.2.1 16 = .ok (.iconst 1, 1) := by decide +kernel
theorem dZ_keep_17 : decode mZ_keep.2.1 17 = .ok (.goto 4, 3) := by decide +kernel
theorem dZ_keep_20 : decode mZ_keep.2.1 20 = .ok (.iconst 0, 1) := by decide +kernel
theorem dZ_keep_21 : decode mZ_keep.2.1 21 = .ok (.istore_n 3, 1) := by decide +kernel
theorem dZ_keep_22 : decode mZ_keep.2.1 22 = .ok (.iload_n 3, 1) := by decide +kernel
theorem dZ_keep_23 : decode mZ_keep.2.1 23 = .ok (.ifCond .eq 15, 3) := by decide +kernel
theorem dZ_keep_26 : decode mZ_keep.2.1 26 = .ok (.aload_n 0, 1) := by decide +kernel
theorem dZ_keep_27 : decode mZ_keep.2.1 27 = .ok (.getfield 81, 3) := by decide +kernel
theorem dZ_keep_30 : decode mZ_keep.2.1 30 = .ok (.iload_n 1, 1) := by decide +kernel
theorem dZ_keep_31 : decode mZ_keep.2.1 31 = .ok (.iload_n 2, 1) := by decide +kernel
theorem dZ_keep_32 : decode mZ_keep.2.1 32 = .ok (.invokevirtual 294, 3) := by decide +kernel
theorem dZ_keep_35 : decode mZ_keep.2.1 35 = .ok (.goto 4, 3) := by decide +kernel
theorem dZ_keep_38 : decode mZ_keep.2.1 38 = .ok (.iconst (-1), 1) := by decide +kernel
theorem dZ_keep_39 : decode mZ_keep.2.1 39 = .ok (.ireturn, 1) := by decide +kernel
/- Z_keep: (II)I -/
set_option maxRecDepth 4000 in
theorem wZ_keep {X : Cx} (a1 a2 : Int) (sw : Bool) (m : Mem) (Q : Int → Bool → Mem → Prop) (h : ((w32 a2 = (-1) → M2 X 2 mS_holdBody [vr 72, vi a1, vi a2] sw m (fun z1 sw1 m1 => Q z1 sw1 m1)) ∧ (¬ (w32 a2 = (-1)) → M2 X 1 mA_has [vr 69, vi a2] sw m (fun z2 sw2 m2 => ((w32 z2 = 0 → Q (-1) sw2 m2) ∧ (¬ (w32 z2 = 0) → M2 X 2 mS_holdBody [vr 72, vi a1, vi a2] sw2 m2 (fun z3 sw3 m3 => Q z3 sw3 m3))))))) : M2 X 3 mZ_keep [vr 1, vi a1, vi a2] sw m Q := by
  refine Mt.of pZ_keep (Nat.le_of_ble_eq_true rfl) (Nat.le_refl _) ?_
  show R2 X 3 mZ_keep 0 [(0, vr 1), (1, vi a1), (2, vi a2)] [] sw m Q
  refine r_iload_n 2 2 rfl dZ_keep_0 rfl ?_
  refine r_iconst dZ_keep_1 ?_
  refine r_ifc_eq (tgt := 16) dZ_keep_2 (by decide) (fun hc => ?_) (fun hc => ?_)
  · replace h := h.1 hc
    refine r_iconst dZ_keep_16 ?_
    refine r_goto (tgt := 21) dZ_keep_17 (by decide) ?_
    refine r_istore_n 3 (by decide) dZ_keep_21 rfl ?_
    refine r_iload_n 3 0 rfl dZ_keep_22 rfl ?_
    refine r_if_eq (tgt := 38) dZ_keep_23 (by decide) (fun q => absurd (show w32 1 = 0 from q) (by decide)) (fun _ => ?_)
    refine r_aload_n 0 1 rfl dZ_keep_26 rfl ?_
    refine q_getR 9 c1 fZ_81 rfl rfl (g1_9 sw) (by decide) dZ_keep_27 ?_
    refine r_iload_n 1 2 rfl dZ_keep_30 rfl ?_
    refine r_iload_n 2 3 rfl dZ_keep_31 rfl ?_
    refine r_callVi 11 [_, _] rfl c72 rfl rfl oS_holdBody iS_holdBody sS_holdBody yZ_294 (by decide) ⟨Nat.le_refl _, Nat.le_refl _⟩ rfl (Nat.le_of_ble_eq_true rfl) dZ_keep_32 h (fun z1 r1 m1 h => ?_)
    obtain ⟨sw1, rfl, h⟩ := h
    refine r_goto (tgt := 39) dZ_keep_35 (by decide) ?_
    exact q_iret rfl h dZ_keep_39
  · replace h := h.2 hc
    refine r_aload_n 0 0 rfl dZ_keep_5 rfl ?_
    refine q_getR 8 c1 fZ_74 rfl rfl (g1_8 sw) (by decide) dZ_keep_6 ?_
    refine r_iload_n 2 2 rfl dZ_keep_9 rfl ?_
    refine r_callVb 10 [_] rfl c69 rfl rfl oA_has iA_has sA_has yZ_293 (by decide) ⟨Nat.le_refl _, Nat.le_refl _⟩ rfl (Nat.le_of_ble_eq_true rfl) dZ_keep_10 h (fun z2 r2 m2 h => ?_)
    obtain ⟨sw2, rfl, h⟩ := h
    refine r_if_eq (tgt := 20) dZ_keep_13 (by decide) (fun hc => ?_) (fun hc => ?_)
    · replace h := h.1 hc
      refine r_iconst dZ_keep_20 ?_
      refine r_istore_n 3 (by decide) dZ_keep_21 rfl ?_
      refine r_iload_n 3 0 rfl dZ_keep_22 rfl ?_
      refine r_if_eq (tgt := 38) dZ_keep_23 (by decide) (fun _ => ?_) (fun q => absurd (show w32 0 = 0 by decide) q)
      refine r_iconst dZ_keep_38 ?_
      exact q_iret rfl h dZ_keep_39
    · replace h := h.2 hc
      refine r_iconst dZ_keep_16 ?_
      refine r_goto (tgt := 21) dZ_keep_17 (by decide) ?_
      refine r_istore_n 3 (by decide) dZ_keep_21 rfl ?_
      refine r_iload_n 3 0 rfl dZ_keep_22 rfl ?_
      refine r_if_eq (tgt := 38) dZ_keep_23 (by decide) (fun q => absurd (show w32 1 = 0 from q) (by decide)) (fun _ => ?_)
      refine r_aload_n 0 1 rfl dZ_keep_26 rfl ?_
      refine q_getR 9 c1 fZ_81 rfl rfl (g1_9 sw2) (by decide) dZ_keep_27 ?_
      refine r_iload_n 1 2 rfl dZ_keep_30 rfl ?_
      refine r_iload_n 2 3 rfl dZ_keep_31 rfl ?_
      refine r_callVi 11 [_, _] rfl c72 rfl rfl oS_holdBody iS_holdBody sS_holdBody yZ_294 (by decide) ⟨Nat.le_refl _, Nat.le_refl _⟩ rfl (Nat.le_of_ble_eq_true rfl) dZ_keep_32 h (fun z3 r3 m3 h => ?_)
      obtain ⟨sw3, rfl, h⟩ := h
      refine r_goto (tgt := 39) dZ_keep_35 (by decide) ?_
      exact q_iret rfl h dZ_keep_39
theorem dZ_row_0 : decode mZ_row.2.1 0 = .ok (.aload_n 0, 1) := by decide +kernel
theorem dZ_row_1 : decode mZ_row.2.1 1 = .ok (.getfield 81, 3) := by decide +kernel
theorem dZ_row_4 : decode mZ_row.2.1 4 = .ok (.iload_n 1, 1) := by decide +kernel
theorem dZ_row_5 : decode mZ_row.2.1 5 = .ok (.iload_n 2, 1) := by decide +kernel
theorem dZ_row_6 : decode mZ_row.2.1 6 = .ok (.iload_n 3, 1) := by decide +kernel
theorem dZ_row_7 : decode mZ_row.2.1 7 = .ok (.invokevirtual 297, 3) := by decide +kernel
theorem dZ_row_10 : decode mZ_row.2.1 10 = .ok (.ireturn, 1) := by decide +kernel
/- Z_row: (III)I -/
set_option maxRecDepth 4000 in
theorem wZ_row {X : Cx} (a1 a2 a3 : Int) (sw : Bool) (m : Mem) (Q : Int → Bool → Mem → Prop) (h : M2 X 2 mS_holdRow [vr 72, vi a1, vi a2, vi a3] sw m (fun z1 sw1 m1 => Q z1 sw1 m1)) : M2 X 3 mZ_row [vr 1, vi a1, vi a2, vi a3] sw m Q := by
  refine Mt.of pZ_row (Nat.le_of_ble_eq_true rfl) (Nat.le_refl _) ?_
  show R2 X 3 mZ_row 0 [(0, vr 1), (1, vi a1), (2, vi a2), (3, vi a3)] [] sw m Q
  refine r_aload_n 0 0 rfl dZ_row_0 rfl ?_
  refine q_getR 9 c1 fZ_81 rfl rfl (g1_9 sw) (by decide) dZ_row_1 ?_
  refine r_iload_n 1 1 rfl dZ_row_4 rfl ?_
  refine r_iload_n 2 2 rfl dZ_row_5 rfl ?_
  refine r_iload_n 3 3 rfl dZ_row_6 rfl ?_
  refine r_callVi 11 [_, _, _] rfl c72 rfl rfl oS_holdRow iS_holdRow sS_holdRow yZ_297 (by decide) ⟨Nat.le_refl _, Nat.le_refl _⟩ rfl (Nat.le_of_ble_eq_true rfl) dZ_row_7 h (fun z1 r1 m1 h => ?_)
  obtain ⟨sw1, rfl, h⟩ := h
  exact q_iret rfl h dZ_row_10
theorem dZ_put_0 : decode mZ_put.2.1 0 = .ok (.aload_n 0, 1) := by decide +kernel
theorem dZ_put_1 : decode mZ_put.2.1 1 = .ok (.getfield 81, 3) := by decide +kernel
theorem dZ_put_4 : decode mZ_put.2.1 4 = .ok (.iload_n 1, 1) := by decide +kernel
theorem dZ_put_5 : decode mZ_put.2.1 5 = .ok (.iload_n 2, 1) := by decide +kernel
theorem dZ_put_6 : decode mZ_put.2.1 6 = .ok (.lload_n 3, 1) := by decide +kernel
theorem dZ_put_7 : decode mZ_put.2.1 7 = .ok (.invokevirtual 300, 3) := by decide +kernel
theorem dZ_put_10 : decode mZ_put.2.1 10 = .ok (.ireturn, 1) := by decide +kernel
/- Z_put: (IIJ)I -/
set_option maxRecDepth 4000 in
theorem wZ_put {X : Cx} (a1 a2 a3 : Int) (sw : Bool) (m : Mem) (Q : Int → Bool → Mem → Prop) (h : M2 X 4 mS_write [vr 72, vi a1, vi a2, vl a3] sw m (fun z1 sw1 m1 => Q z1 sw1 m1)) : M2 X 5 mZ_put [vr 1, vi a1, vi a2, vl a3] sw m Q := by
  refine Mt.of pZ_put (Nat.le_of_ble_eq_true rfl) (Nat.le_refl _) ?_
  show R2 X 5 mZ_put 0 [(0, vr 1), (1, vi a1), (2, vi a2), (3, vl a3)] [] sw m Q
  refine r_aload_n 0 0 rfl dZ_put_0 rfl ?_
  refine q_getR 9 c1 fZ_81 rfl rfl (g1_9 sw) (by decide) dZ_put_1 ?_
  refine r_iload_n 1 1 rfl dZ_put_4 rfl ?_
  refine r_iload_n 2 2 rfl dZ_put_5 rfl ?_
  refine r_lload_n 3 3 rfl dZ_put_6 rfl ?_
  refine r_callVi 11 [_, _, _] rfl c72 rfl rfl oS_write iS_write sS_write yZ_300 (by decide) ⟨Nat.le_refl _, Nat.le_refl _⟩ rfl (Nat.le_of_ble_eq_true rfl) dZ_put_7 h (fun z1 r1 m1 h => ?_)
  obtain ⟨sw1, rfl, h⟩ := h
  exact q_iret rfl h dZ_put_10
theorem dZ_element_0 : decode mZ_element.2.1 0 = .ok (.aload_n 0, 1) := by decide +kernel
theorem dZ_element_1 : decode mZ_element.2.1 1 = .ok (.getfield 81, 3) := by decide +kernel
theorem dZ_element_4 : decode mZ_element.2.1 4 = .ok (.iload_n 1, 1) := by decide +kernel
theorem dZ_element_5 : decode mZ_element.2.1 5 = .ok (.iload_n 2, 1) := by decide +kernel
theorem dZ_element_6 : decode mZ_element.2.1 6 = .ok (.invokevirtual 304, 3) := by decide +kernel
theorem dZ_element_9 : decode mZ_element.2.1 9 = .ok (.ifCond .ne 15, 3) := by decide +kernel
theorem dZ_element_12 : decode mZ_element.2.1 12 = .ok (.aload_n 0, 1) := by decide +kernel
theorem dZ_element_13 : decode mZ_element.2.1 13 = .ok (.getfield 81, 3) := by decide +kernel
theorem dZ_element_16 : decode mZ_element.2.1 16 = .ok (.iload_n 1, 1) := by decide +kernel
theorem dZ_element_17 : decode mZ_element.2.1 17 = .ok (.iload_n 2, 1) := by decide +kernel
theorem dZ_element_18 : decode mZ_element.2.1 18 = .ok (.invokevirtual 102, 3) := by decide +kernel
theorem dZ_element_21 : decode mZ_element.2.1 21 = .ok (.goto 6, 3) := by decide +kernel
theorem dZ_element_24 : decode mZ_element.2.1 24 = .ok (.ldc2_w 166, 3) := by decide +kernel
theorem dZ_element_27 : decode mZ_element.2.1 27 = .ok (.lreturn, 1) := by decide +kernel
/- Z_element: (II)J -/
set_option maxRecDepth 4000 in
theorem wZ_element {X : Cx} (a1 a2 : Int) (sw : Bool) (m : Mem) (Q : Int → Bool → Mem → Prop) (h : M2 X 3 mS_refusalOfPlace [vr 72, vi a1, vi a2] sw m (fun z1 sw1 m1 => ((¬ w32 z1 = 0 → Q (-9223372036854775808) sw1 m1) ∧ (¬ (¬ w32 z1 = 0) → M2 X 4 mS_cell [vr 72, vi a1, vi a2] sw1 m1 (fun z2 sw2 m2 => Q z2 sw2 m2))))) : M2 X 5 mZ_element [vr 1, vi a1, vi a2] sw m Q := by
  refine Mt.of pZ_element (Nat.le_of_ble_eq_true rfl) (Nat.le_refl _) ?_
  show R2 X 5 mZ_element 0 [(0, vr 1), (1, vi a1), (2, vi a2)] [] sw m Q
  refine r_aload_n 0 0 rfl dZ_element_0 rfl ?_
  refine q_getR 9 c1 fZ_81 rfl rfl (g1_9 sw) (by decide) dZ_element_1 ?_
  refine r_iload_n 1 1 rfl dZ_element_4 rfl ?_
  refine r_iload_n 2 2 rfl dZ_element_5 rfl ?_
  refine r_callVi 11 [_, _] rfl c72 rfl rfl oS_refusalOfPlace iS_refusalOfPlace sS_refusalOfPlace yZ_304 (by decide) ⟨Nat.le_refl _, Nat.le_refl _⟩ rfl (Nat.le_of_ble_eq_true rfl) dZ_element_6 h (fun z1 r1 m1 h => ?_)
  obtain ⟨sw1, rfl, h⟩ := h
  refine r_if_ne (tgt := 24) dZ_element_9 (by decide) (fun hc => ?_) (fun hc => ?_)
  · replace h := h.1 hc
    refine r_ldc2 (z := (-9223372036854775808)) dZ_element_24 kZ_166 ?_
    exact q_lret rfl h dZ_element_27
  · replace h := h.2 hc
    refine r_aload_n 0 0 rfl dZ_element_12 rfl ?_
    refine q_getR 9 c1 fZ_81 rfl rfl (g1_9 sw1) (by decide) dZ_element_13 ?_
    refine r_iload_n 1 1 rfl dZ_element_16 rfl ?_
    refine r_iload_n 2 2 rfl dZ_element_17 rfl ?_
    refine r_callVl 11 [_, _] rfl c72 rfl rfl oS_cell iS_cell sS_cell yZ_102 (by decide) ⟨Nat.le_refl _, Nat.le_refl _⟩ rfl (Nat.le_of_ble_eq_true rfl) dZ_element_18 h (fun z2 r2 m2 h => ?_)
    obtain ⟨sw2, rfl, h⟩ := h
    refine r_goto (tgt := 27) dZ_element_21 (by decide) ?_
    exact q_lret rfl h dZ_element_27
theorem dZ_shift_0 : decode mZ_shift.2.1 0 = .ok (.aload_n 0, 1) := by decide +kernel
theorem dZ_shift_1 : decode mZ_shift.2.1 1 = .ok (.getfield 81, 3) := by decide +kernel
theorem dZ_shift_4 : decode mZ_shift.2.1 4 = .ok (.iload_n 1, 1) := by decide +kernel
theorem dZ_shift_5 : decode mZ_shift.2.1 5 = .ok (.iload_n 2, 1) := by decide +kernel
theorem dZ_shift_6 : decode mZ_shift.2.1 6 = .ok (.iload_n 3, 1) := by decide +kernel
theorem dZ_shift_7 : decode mZ_shift.2.1 7 = .ok (.iload 4, 2) := by decide +kernel
theorem dZ_shift_9 : decode mZ_shift.2.1 9 = .ok (.iload 5, 2) := by decide +kernel
theorem dZ_shift_11 : decode mZ_shift.2.1 11 = .ok (.invokevirtual 307, 3) := by decide +kernel
theorem dZ_shift_14 : decode mZ_shift.2.1 14 = .ok (.ireturn, 1) := by decide +kernel
/- Z_shift: (IIIII)I -/
set_option maxRecDepth 4000 in
theorem wZ_shift {X : Cx} (a1 a2 a3 a4 a5 : Int) (sw : Bool) (m : Mem) (Q : Int → Bool → Mem → Prop) (h : M2 X 3 mS_move [vr 72, vi a1, vi a2, vi a3, vi a4, vi a5] sw m (fun z1 sw1 m1 => Q z1 sw1 m1)) : M2 X 4 mZ_shift [vr 1, vi a1, vi a2, vi a3, vi a4, vi a5] sw m Q := by
  refine Mt.of pZ_shift (Nat.le_of_ble_eq_true rfl) (Nat.le_refl _) ?_
  show R2 X 4 mZ_shift 0 [(0, vr 1), (1, vi a1), (2, vi a2), (3, vi a3), (4, vi a4), (5, vi a5)] [] sw m Q
  refine r_aload_n 0 0 rfl dZ_shift_0 rfl ?_
  refine q_getR 9 c1 fZ_81 rfl rfl (g1_9 sw) (by decide) dZ_shift_1 ?_
  refine r_iload_n 1 1 rfl dZ_shift_4 rfl ?_
  refine r_iload_n 2 2 rfl dZ_shift_5 rfl ?_
  refine r_iload_n 3 3 rfl dZ_shift_6 rfl ?_
  refine r_iload 4 4 rfl dZ_shift_7 ?_
  refine r_iload 5 5 rfl dZ_shift_9 ?_
  refine r_callVi 11 [_, _, _, _, _] rfl c72 rfl rfl oS_move iS_move sS_move yZ_307 (by decide) ⟨Nat.le_refl _, Nat.le_refl _⟩ rfl (Nat.le_of_ble_eq_true rfl) dZ_shift_11 h (fun z1 r1 m1 h => ?_)
  obtain ⟨sw1, rfl, h⟩ := h
  exact q_iret rfl h dZ_shift_14
theorem dZ_taken_0 : decode mZ_taken.2.1 0 = .ok (.iload_n 1, 1) := by decide +kernel
theorem dZ_taken_1 : decode mZ_taken.2.1 1 = .ok (.invokestatic 311, 3) := by decide +kernel
theorem dZ_taken_4 : decode mZ_taken.2.1 4 = .ok (.ifCond .eq 10, 3) := by decide +kernel
theorem dZ_taken_7 : decode mZ_taken.2.1 7 = .ok (.iload_n 2, 1) := by decide +kernel
theorem dZ_taken_8 : decode mZ_taken.2.1 8 = .ok (.invokestatic 314, 3) := by decide +kernel
theorem dZ_taken_11 : decode mZ_taken.2.1 11 = .ok (.ifCond .ne 5, 3) := by decide +kernel
theorem dZ_taken_14 : decode mZ_taken.2.1 14 = .ok (.iconst (-1), 1) := by decide +kernel
theorem dZ_taken_15 : decode mZ_taken.2.1 15 = .ok (.ireturn, 1) := by decide +kernel
theorem dZ_taken_16 : decode mZ_taken.2.1 16 = .ok (.aload_n 0, 1) := by decide +kernel
theorem dZ_taken_17 : decode mZ_taken.2.1 17 = .ok (.getfield 81, 3) := by decide +kernel
theorem dZ_taken_20 : decode mZ_taken.2.1 20 = .ok (.iload_n 1, 1) := by decide +kernel
theorem dZ_taken_21 : decode mZ_taken.2.1 21 = .ok (.invokevirtual 317, 3) := by decide +kernel
theorem dZ_taken_24 : decode mZ_taken.2.1 24 = .ok (.istore_n 3, 1) := by decide +kernel
theorem dZ_taken_25 : decode mZ_taken.2.1 25 = .ok (.iload_n 3, 1) := by decide +kernel
theorem dZ_taken_26 : decode mZ_taken.2.1 26 = .ok (.ifCond .eq 5, 3) := by decide +kernel
theorem dZ_taken_29 : decode mZ_taken.2.1 29 = .ok (.iload_n 3, 1) := by decide +kernel
theorem dZ_taken_30 : decode mZ_taken.2.1 30 = .ok (.ireturn, 1) := by decide +kernel
theorem dZ_taken_31 : decode mZ_taken.2.1 31 = .ok (.aload_n 0, 1) := by decide +kernel
theorem dZ_taken_32 : decode mZ_taken.2.1 32 = .ok (.getfield 74, 3) := by decide +kernel
theorem dZ_taken_35 : decode mZ_taken.2.1 35 = .ok (.aload_n 0, 1) := by decide +kernel
theorem dZ_taken_36 : decode mZ_taken.2.1 36 = .ok (.getfield 81, 3) := by decide +kernel
theorem dZ_taken_39 : decode mZ_taken.2.1 39 = .ok (.iload_n 1, 1) := by decide +kernel
theorem dZ_taken_40 : decode mZ_taken.2.1 40 = .ok (.invokevirtual 320, 3) := by decide +kernel
theorem dZ_taken_43 : decode mZ_taken.2.1 43 = .ok (.invokevirtual 323, 3) := by decide +kernel
theorem dZ_taken_46 : decode mZ_taken.2.1 46 = .ok (.istore 4, 2) := by decide +kernel
theorem dZ_taken_48 : decode mZ_taken.2.1 48 = .ok (.iload 4, 2) := by decide +kernel
theorem dZ_taken_50 : decode mZ_taken.2.1 50 = .ok (.iload_n 2, 1) := by decide +kernel
theorem dZ_taken_51 : decode mZ_taken.2.1 51 = .ok (.invokestatic 326, 3) := by decide +kernel
theorem dZ_taken_54 : decode mZ_taken.2.1 54 = .ok (.ifCond .eq 8, 3) := by decide +kernel
theorem dZ_taken_57 : decode mZ_taken.2.1 57 = .ok (.iload 4, 2) := by decide +kernel
theorem dZ_taken_59 : decode mZ_taken.2.1 59 = .ok (.goto 5, 3) := by decide +kernel
theorem dZ_taken_62 : decode mZ_taken.2.1 62 = .ok (.bipush (-12), 2) := by decide +kernel
theorem dZ_taken_64 : decode mZ_taken.2.1 64 = .ok (.ireturn, 1) := by decide +kernel
/- Z_taken: (II)I -/
set_option maxRecDepth 4000 in
theorem wZ_taken {X : Cx} (a1 a2 : Int) (sw : Bool) (m : Mem) (Q : Int → Bool → Mem → Prop) (h : M2 X 1 mS_isShelf [vi a1] sw m (fun z1 sw1 m1 => ((w32 z1 = 0 → Q (-1) sw1 m1) ∧ (¬ (w32 z1 = 0) → M2 X 1 mA_isKind [vi a2] sw1 m1 (fun z2 sw2 m2 => ((¬ w32 z2 = 0 → M2 X 3 mS_refusalOfBody [vr 72, vi a1] sw2 m2 (fun z3 sw3 m3 => ((w32 z3 = 0 → M2 X 4 mS_bodyOn [vr 72, vi a1] sw3 m3 (fun z4 sw4 m4 => M2 X 2 mA_kindOf [vr 69, vi z4] sw4 m4 (fun z5 sw5 m5 => M2 X 2 mA_isUnder [vi z5, vi a2] sw5 m5 (fun z6 sw6 m6 => ((w32 z6 = 0 → Q (-12) sw6 m6) ∧ (¬ (w32 z6 = 0) → Q z5 sw6 m6)))))) ∧ (¬ (w32 z3 = 0) → Q z3 sw3 m3)))) ∧ (¬ (¬ w32 z2 = 0) → Q (-1) sw2 m2))))))) : M2 X 5 mZ_taken [vr 1, vi a1, vi a2] sw m Q := by
  refine Mt.of pZ_taken (Nat.le_of_ble_eq_true rfl) (Nat.le_refl _) ?_
  show R2 X 5 mZ_taken 0 [(0, vr 1), (1, vi a1), (2, vi a2)] [] sw m Q
  refine r_iload_n 1 1 rfl dZ_taken_0 rfl ?_
  refine r_callSb [_] rfl oS_isShelf iS_isShelf yZ_311 (by decide) ⟨Nat.le_refl _, Nat.le_refl _⟩ rfl (Nat.le_of_ble_eq_true rfl) dZ_taken_1 h (fun z1 r1 m1 h => ?_)
  obtain ⟨sw1, rfl, h⟩ := h
  refine r_if_eq (tgt := 14) dZ_taken_4 (by decide) (fun hc => ?_) (fun hc => ?_)
  · replace h := h.1 hc
    refine r_iconst dZ_taken_14 ?_
    exact q_iret rfl h dZ_taken_15
  · replace h := h.2 hc
    refine r_iload_n 2 2 rfl dZ_taken_7 rfl ?_
    refine r_callSb [_] rfl oA_isKind iA_isKind yZ_314 (by decide) ⟨Nat.le_refl _, Nat.le_refl _⟩ rfl (Nat.le_of_ble_eq_true rfl) dZ_taken_8 h (fun z2 r2 m2 h => ?_)
    obtain ⟨sw2, rfl, h⟩ := h
    refine r_if_ne (tgt := 16) dZ_taken_11 (by decide) (fun hc => ?_) (fun hc => ?_)
    · replace h := h.1 hc
      refine r_aload_n 0 0 rfl dZ_taken_16 rfl ?_
      refine q_getR 9 c1 fZ_81 rfl rfl (g1_9 sw2) (by decide) dZ_taken_17 ?_
      refine r_iload_n 1 1 rfl dZ_taken_20 rfl ?_
      refine r_callVi 11 [_] rfl c72 rfl rfl oS_refusalOfBody iS_refusalOfBody sS_refusalOfBody yZ_317 (by decide) ⟨Nat.le_refl _, Nat.le_refl _⟩ rfl (Nat.le_of_ble_eq_true rfl) dZ_taken_21 h (fun z3 r3 m3 h => ?_)
      obtain ⟨sw3, rfl, h⟩ := h
      refine r_istore_n 3 (by decide) dZ_taken_24 rfl ?_
      refine r_iload_n 3 0 rfl dZ_taken_25 rfl ?_
      refine r_if_eq (tgt := 31) dZ_taken_26 (by decide) (fun hc => ?_) (fun hc => ?_)
      · replace h := h.1 hc
        refine r_aload_n 0 1 rfl dZ_taken_31 rfl ?_
        refine q_getR 8 c1 fZ_74 rfl rfl (g1_8 sw3) (by decide) dZ_taken_32 ?_
        refine r_aload_n 0 1 rfl dZ_taken_35 rfl ?_
        refine q_getR 9 c1 fZ_81 rfl rfl (g1_9 sw3) (by decide) dZ_taken_36 ?_
        refine r_iload_n 1 2 rfl dZ_taken_39 rfl ?_
        refine r_callVi 11 [_] rfl c72 rfl rfl oS_bodyOn iS_bodyOn sS_bodyOn yZ_320 (by decide) ⟨Nat.le_refl _, Nat.le_refl _⟩ rfl (Nat.le_of_ble_eq_true rfl) dZ_taken_40 h (fun z4 r4 m4 h => ?_)
        obtain ⟨sw4, rfl, h⟩ := h
        refine r_callVi 10 [_] rfl c69 rfl rfl oA_kindOf iA_kindOf sA_kindOf yZ_323 (by decide) ⟨Nat.le_refl _, Nat.le_refl _⟩ rfl (Nat.le_of_ble_eq_true rfl) dZ_taken_43 h (fun z5 r5 m5 h => ?_)
        obtain ⟨sw5, rfl, h⟩ := h
        refine r_istore 4 (by decide) dZ_taken_46 ?_
        refine r_iload 4 0 rfl dZ_taken_48 ?_
        refine r_iload_n 2 4 rfl dZ_taken_50 rfl ?_
        refine r_callSb [_, _] rfl oA_isUnder iA_isUnder yZ_326 (by decide) ⟨Nat.le_refl _, Nat.le_refl _⟩ rfl (Nat.le_of_ble_eq_true rfl) dZ_taken_51 h (fun z6 r6 m6 h => ?_)
        obtain ⟨sw6, rfl, h⟩ := h
        refine r_if_eq (tgt := 62) dZ_taken_54 (by decide) (fun hc => ?_) (fun hc => ?_)
        · replace h := h.1 hc
          refine r_bipush (by decide) dZ_taken_62 ?_
          exact q_iret rfl h dZ_taken_64
        · replace h := h.2 hc
          refine r_iload 4 0 rfl dZ_taken_57 ?_
          refine r_goto (tgt := 64) dZ_taken_59 (by decide) ?_
          exact q_iret rfl h dZ_taken_64
      · replace h := h.2 hc
        refine r_iload_n 3 0 rfl dZ_taken_29 rfl ?_
        exact q_iret rfl h dZ_taken_30
    · replace h := h.2 hc
      refine r_iconst dZ_taken_14 ?_
      exact q_iret rfl h dZ_taken_15
theorem dZ_count_0 : decode mZ_count.2.1 0 = .ok (.iload_n 1, 1) := by decide +kernel
theorem dZ_count_1 : decode mZ_count.2.1 1 = .ok (.tableswitch 78 0 4 #[35, 43, 54, 62, 70], 35) := by decide +kernel
theorem dZ_count_36 : decode mZ_count.2.1 36 = .ok (.aload_n 0, 1) := by decide +kernel
theorem dZ_count_37 : decode mZ_count.2.1 37 = .ok (.getfield 20, 3) := by decide +kernel
theorem dZ_count_40 : decode mZ_count.2.1 40 = .ok (.getfield 204, 3) := by decide +kernel
theorem dZ_count_43 : decode mZ_count.2.1 43 = .ok (.ireturn, 1) := by decide +kernel
theorem dZ_count_44 : decode mZ_count.2.1 44 = .ok (.aload_n 0, 1) := by decide +kernel
theorem dZ_count_45 : decode mZ_count.2.1 45 = .ok (.getfield 20, 3) := by decide +kernel
theorem dZ_count_48 : decode mZ_count.2.1 48 = .ok (.getfield 122, 3) := by decide +kernel
theorem dZ_count_51 : decode mZ_count.2.1 51 = .ok (.getfield 329, 3) := by decide +kernel
theorem dZ_count_54 : decode mZ_count.2.1 54 = .ok (.ireturn, 1) := by decide +kernel
theorem dZ_count_55 : decode mZ_count.2.1 55 = .ok (.aload_n 0, 1) := by decide +kernel
theorem dZ_count_56 : decode mZ_count.2.1 56 = .ok (.getfield 67, 3) := by decide +kernel
theorem dZ_count_59 : decode mZ_count.2.1 59 = .ok (.getfield 332, 3) := by decide +kernel
theorem dZ_count_62 : decode mZ_count.2.1 62 = .ok (.ireturn, 1) := by decide +kernel
theorem dZ_count_63 : decode mZ_count.2.1 63 = .ok (.aload_n 0, 1) := by decide +kernel
theorem dZ_count_64 : decode mZ_count.2.1 64 = .ok (.getfield 74, 3) := by decide +kernel
theorem dZ_count_67 : decode mZ_count.2.1 67 = .ok (.getfield 335, 3) := by decide +kernel
theorem dZ_count_70 : decode mZ_count.2.1 70 = .ok (.ireturn, 1) := by decide +kernel
theorem dZ_count_71 : decode mZ_count.2.1 71 = .ok (.aload_n 0, 1) := by decide +kernel
theorem dZ_count_72 : decode mZ_count.2.1 72 = .ok (.getfield 74, 3) := by decide +kernel
theorem dZ_count_75 : decode mZ_count.2.1 75 = .ok (.getfield 338, 3) := by decide +kernel
theorem dZ_count_78 : decode mZ_count.2.1 78 = .ok (.ireturn, 1) := by decide +kernel
theorem dZ_count_79 : decode mZ_count.2.1 79 = .ok (.iconst (-1), 1) := by decide +kernel
theorem dZ_count_80 : decode mZ_count.2.1 80 = .ok (.ireturn, 1) := by decide +kernel
/- Z_count: (I)I -/
set_option maxRecDepth 4000 in
theorem wZ_count {X : Cx} (a1 : Int) (sw : Bool) (m : Mem) (Q : Int → Bool → Mem → Prop) (h : ((w32 a1 = 0 → Q (m 2 3) sw m) ∧ ((w32 a1 = 1 → Q (m 18 4) sw m) ∧ ((w32 a1 = 2 → Q (m 64 5) sw m) ∧ ((w32 a1 = 3 → Q (m 69 2) sw m) ∧ ((w32 a1 = 4 → Q (m 69 3) sw m) ∧ ((w32 a1 < 0 ∨ 4 < w32 a1) → Q (-1) sw m))))))) : M2 X 1 mZ_count [vr 1, vi a1] sw m Q := by
  refine Mt.of pZ_count (Nat.le_of_ble_eq_true rfl) (Nat.le_refl _) ?_
  show R2 X 1 mZ_count 0 [(0, vr 1), (1, vi a1)] [] sw m Q
  refine r_iload_n 1 1 rfl dZ_count_0 rfl ?_
  by_cases hs0 : w32 a1 = 0
  · refine r_tabIn (off := 35) (tgt := 36) 0 hs0 dZ_count_1 (by decide) (by decide) (by decide) (by decide) ?_
    replace h := h.1 hs0
    refine r_aload_n 0 0 rfl dZ_count_36 rfl ?_
    refine q_getR 0 c1 fZ_20 rfl rfl (g1_0 sw) (by decide) dZ_count_37 ?_
    refine q_getI 3 c2 fZ_204 rfl rfl dZ_count_40 ?_
    exact q_iret rfl h dZ_count_43
  · replace h := h.2
    by_cases hs1 : w32 a1 = 1
    · refine r_tabIn (off := 43) (tgt := 44) 1 hs1 dZ_count_1 (by decide) (by decide) (by decide) (by decide) ?_
      replace h := h.1 hs1
      refine r_aload_n 0 0 rfl dZ_count_44 rfl ?_
      refine q_getR 0 c1 fZ_20 rfl rfl (g1_0 sw) (by decide) dZ_count_45 ?_
      refine q_getR 2 c2 fZ_122 rfl rfl (g2_2 sw) (by decide) dZ_count_48 ?_
      refine q_getI 4 c18 fZ_329 rfl rfl dZ_count_51 ?_
      exact q_iret rfl h dZ_count_54
    · replace h := h.2
      by_cases hs2 : w32 a1 = 2
      · refine r_tabIn (off := 54) (tgt := 55) 2 hs2 dZ_count_1 (by decide) (by decide) (by decide) (by decide) ?_
        replace h := h.1 hs2
        refine r_aload_n 0 0 rfl dZ_count_55 rfl ?_
        refine q_getR 7 c1 fZ_67 rfl rfl (g1_7 sw) (by decide) dZ_count_56 ?_
        refine q_getI 5 c64 fZ_332 rfl rfl dZ_count_59 ?_
        exact q_iret rfl h dZ_count_62
      · replace h := h.2
        by_cases hs3 : w32 a1 = 3
        · refine r_tabIn (off := 62) (tgt := 63) 3 hs3 dZ_count_1 (by decide) (by decide) (by decide) (by decide) ?_
          replace h := h.1 hs3
          refine r_aload_n 0 0 rfl dZ_count_63 rfl ?_
          refine q_getR 8 c1 fZ_74 rfl rfl (g1_8 sw) (by decide) dZ_count_64 ?_
          refine q_getI 2 c69 fZ_335 rfl rfl dZ_count_67 ?_
          exact q_iret rfl h dZ_count_70
        · replace h := h.2
          by_cases hs4 : w32 a1 = 4
          · refine r_tabIn (off := 70) (tgt := 71) 4 hs4 dZ_count_1 (by decide) (by decide) (by decide) (by decide) ?_
            replace h := h.1 hs4
            refine r_aload_n 0 0 rfl dZ_count_71 rfl ?_
            refine q_getR 8 c1 fZ_74 rfl rfl (g1_8 sw) (by decide) dZ_count_72 ?_
            refine q_getI 3 c69 fZ_338 rfl rfl dZ_count_75 ?_
            exact q_iret rfl h dZ_count_78
          · replace h := h.2
            have hq : w32 a1 < 0 ∨ 4 < w32 a1 := by omega
            refine r_tabOut (tgt := 79) dZ_count_1 hq (by decide) ?_
            replace h := h hq
            refine r_iconst dZ_count_79 ?_
            exact q_iret rfl h dZ_count_80
theorem dZ_isSet_0 : decode mZ_isSet.2.1 0 = .ok (.iload_n 0, 1) := by decide +kernel
theorem dZ_isSet_1 : decode mZ_isSet.2.1 1 = .ok (.ifCond .lt 14, 3) := by decide +kernel
theorem dZ_isSet_4 : decode mZ_isSet.2.1 4 = .ok (.iload_n 0, 1) := by decide +kernel
theorem dZ_isSet_5 : decode mZ_isSet.2.1 5 = .ok (.sipush 512, 3) := by decide +kernel
theorem dZ_isSet_8 : decode mZ_isSet.2.1 8 = .ok (.if_icmp .ge 7, 3) := by decide +kernel
theorem dZ_isSet_11 : decode mZ_isSet.2.1 11 = .ok (.iconst 1, 1) := by decide +kernel
theorem dZ_isSet_12 : decode mZ_isSet.2.1 12 = .ok (.goto 4, 3) := by decide +kernel
theorem dZ_isSet_15 : decode mZ_isSet.2.1 15 = .ok (.iconst 0, 1) := by decide +kernel
theorem dZ_isSet_16 : decode mZ_isSet.2.1 16 = .ok (.ireturn, 1) := by decide +kernel
/- Z_isSet: (I)Z -/
set_option maxRecDepth 4000 in
theorem wZ_isSet {X : Cx} (a0 : Int) (sw : Bool) (m : Mem) (Q : Int → Bool → Mem → Prop) (h : ((w32 a0 < 0 → Q 0 sw m) ∧ (¬ (w32 a0 < 0) → ((512 ≤ w32 a0 → Q 0 sw m) ∧ (¬ (512 ≤ w32 a0) → Q 1 sw m))))) : M2 X 1 mZ_isSet [vi a0] sw m Q := by
  refine Mt.of pZ_isSet (Nat.le_of_ble_eq_true rfl) (Nat.le_refl _) ?_
  show R2 X 1 mZ_isSet 0 [(0, vi a0)] [] sw m Q
  refine r_iload_n 0 0 rfl dZ_isSet_0 rfl ?_
  refine r_if_lt (tgt := 15) dZ_isSet_1 (by decide) (fun hc => ?_) (fun hc => ?_)
  · replace h := h.1 hc
    refine r_iconst dZ_isSet_15 ?_
    exact q_bret rfl (Or.inl rfl) h dZ_isSet_16
  · replace h := h.2 hc
    refine r_iload_n 0 0 rfl dZ_isSet_4 rfl ?_
    refine r_sipush (by decide) dZ_isSet_5 ?_
    refine r_ifc_ge (tgt := 15) dZ_isSet_8 (by decide) (fun hc => ?_) (fun hc => ?_)
    · replace h := h.1 hc
      refine r_iconst dZ_isSet_15 ?_
      exact q_bret rfl (Or.inl rfl) h dZ_isSet_16
    · replace h := h.2 hc
      refine r_iconst dZ_isSet_11 ?_
      refine r_goto (tgt := 16) dZ_isSet_12 (by decide) ?_
      exact q_bret rfl (Or.inr rfl) h dZ_isSet_16
theorem dZ_isSide_0 : decode mZ_isSide.2.1 0 = .ok (.iload_n 0, 1) := by decide +kernel
theorem dZ_isSide_1 : decode mZ_isSide.2.1 1 = .ok (.ifCond .eq 8, 3) := by decide +kernel
theorem dZ_isSide_4 : decode mZ_isSide.2.1 4 = .ok (.iload_n 0, 1) := by decide +kernel
theorem dZ_isSide_5 : decode mZ_isSide.2.1 5 = .ok (.iconst 1, 1) := by decide +kernel
theorem dZ_isSide_6 : decode mZ_isSide.2.1 6 = .ok (.if_icmp .ne 7, 3) := by decide +kernel
theorem dZ_isSide_9 : decode mZ_isSide.2.1 9 = .ok (.iconst 1, 1) := by decide +kernel
theorem dZ_isSide_10 : decode mZ_isSide.2.1 10 = .ok (.goto 4, 3) := by decide +kernel
theorem dZ_isSide_13 : decode mZ_isSide.2.1 13 = .ok (.iconst 0, 1) := by decide +kernel
theorem dZ_isSide_14 : decode mZ_isSide.2.1 14 = .ok (.ireturn, 1) := by decide +kernel
/- Z_isSide: (I)Z -/
set_option maxRecDepth 4000 in
theorem wZ_isSide {X : Cx} (a0 : Int) (sw : Bool) (m : Mem) (Q : Int → Bool → Mem → Prop) (h : ((w32 a0 = 0 → Q 1 sw m) ∧ (¬ (w32 a0 = 0) → ((¬ w32 a0 = 1 → Q 0 sw m) ∧ (¬ (¬ w32 a0 = 1) → Q 1 sw m))))) : M2 X 1 mZ_isSide [vi a0] sw m Q := by
  refine Mt.of pZ_isSide (Nat.le_of_ble_eq_true rfl) (Nat.le_refl _) ?_
  show R2 X 1 mZ_isSide 0 [(0, vi a0)] [] sw m Q
  refine r_iload_n 0 0 rfl dZ_isSide_0 rfl ?_
  refine r_if_eq (tgt := 9) dZ_isSide_1 (by decide) (fun hc => ?_) (fun hc => ?_)
  · replace h := h.1 hc
    refine r_iconst dZ_isSide_9 ?_
    refine r_goto (tgt := 14) dZ_isSide_10 (by decide) ?_
    exact q_bret rfl (Or.inr rfl) h dZ_isSide_14
  · replace h := h.2 hc
    refine r_iload_n 0 0 rfl dZ_isSide_4 rfl ?_
    refine r_iconst dZ_isSide_5 ?_
    refine r_ifc_ne (tgt := 13) dZ_isSide_6 (by decide) (fun hc => ?_) (fun hc => ?_)
    · replace h := h.1 hc
      refine r_iconst dZ_isSide_13 ?_
      exact q_bret rfl (Or.inl rfl) h dZ_isSide_14
    · replace h := h.2 hc
      refine r_iconst dZ_isSide_9 ?_
      refine r_goto (tgt := 14) dZ_isSide_10 (by decide) ?_
      exact q_bret rfl (Or.inr rfl) h dZ_isSide_14
theorem dZ_side_0 : decode mZ_side.2.1 0 = .ok (.lload_n 0, 1) := by decide +kernel
theorem dZ_side_1 : decode mZ_side.2.1 1 = .ok (.lconst 0, 1) := by decide +kernel
theorem dZ_side_2 : decode mZ_side.2.1 2 = .ok (.lcmp, 1) := by decide +kernel
theorem dZ_side_3 : decode mZ_side.2.1 3 = .ok (.ifCond .eq 9, 3) := by decide +kernel
theorem dZ_side_6 : decode mZ_side.2.1 6 = .ok (.lload_n 2, 1) := by decide +kernel
theorem dZ_side_7 : decode mZ_side.2.1 7 = .ok (.lconst 0, 1) := by decide +kernel
theorem dZ_side_8 : decode mZ_side.2.1 8 = .ok (.lcmp, 1) := by decide +kernel
theorem dZ_side_9 : decode mZ_side.2.1 9 = .ok (.ifCond .ne 7, 3) := by decide +kernel
theorem dZ_side_12 : decode mZ_side.2.1 12 = .ok (.iload 4, 2) := by decide +kernel
theorem dZ_side_14 : decode mZ_side.2.1 14 = .ok (.i2l, 1) := by decide +kernel
theorem dZ_side_15 : decode mZ_side.2.1 15 = .ok (.lreturn, 1) := by decide +kernel
theorem dZ_side_16 : decode mZ_side.2.1 16 = .ok (.lload_n 0, 1) := by decide +kernel
theorem dZ_side_17 : decode mZ_side.2.1 17 = .ok (.lload_n 2, 1) := by decide +kernel
theorem dZ_side_18 : decode mZ_side.2.1 18 = .ok (.invokestatic 341, 3) := by decide +kernel
theorem dZ_side_21 : decode mZ_side.2.1 21 = .ok (.lstore 5, 2) := by decide +kernel
theorem dZ_side_23 : decode mZ_side.2.1 23 = .ok (.iload 4, 2) := by decide +kernel
theorem dZ_side_25 : decode mZ_side.2.1 25 = .ok (.ifCond .ne 7, 3) := by decide +kernel
theorem dZ_side_28 : decode mZ_side.2.1 28 = .ok (.lload_n 0, 1) := by decide +kernel
theorem dZ_side_29 : decode mZ_side.2.1 29 = .ok (.goto 4, 3) := by decide +kernel
theorem dZ_side_32 : decode mZ_side.2.1 32 = .ok (.lload_n 2, 1) := by decide +kernel
theorem dZ_side_33 : decode mZ_side.2.1 33 = .ok (.lstore 7, 2) := by decide +kernel
theorem dZ_side_35 : decode mZ_side.2.1 35 = .ok (.lload 5, 2) := by decide +kernel
theorem dZ_side_37 : decode mZ_side.2.1 37 = .ok (.lconst 0, 1) := by decide +kernel
theorem dZ_side_38 : decode mZ_side.2.1 38 = .ok (.lcmp, 1) := by decide +kernel
theorem dZ_side_39 : decode mZ_side.2.1 39 = .ok (.ifCond .ne 8, 3) := by decide +kernel
theorem dZ_side_42 : decode mZ_side.2.1 42 = .ok (.lload 7, 2) := by decide +kernel
theorem dZ_side_44 : decode mZ_side.2.1 44 = .ok (.goto 8, 3) := by decide +kernel
theorem dZ_side_47 : decode mZ_side.2.1 47 = .ok (.lload 7, 2) := by decide +kernel
theorem dZ_side_49 : decode mZ_side.2.1 49 = .ok (.lload 5, 2) := by decide +kernel
theorem dZ_side_51 : decode mZ_side.2.1 51 = .ok (.ldiv, 1) := by decide +kernel
theorem dZ_side_52 : decode mZ_side.2.1 52 = .ok (.lreturn, 1) := by decide +kernel
/- Z_side: (JJI)J -/
set_option maxRecDepth 4000 in
theorem wZ_side {X : Cx} (a0 a2 a4 : Int) (sw : Bool) (m : Mem) (Q : Int → Bool → Mem → Prop) (h : ((w64 a0 = 0 → Q (w32 a4) sw m) ∧ (¬ (w64 a0 = 0) → ((¬ w64 a2 = 0 → M2 X 1 mZ_commonDivisor [vl a0, vl a2] sw m (fun z1 sw1 m1 => ((¬ w32 a4 = 0 → ((¬ w64 z1 = 0 → (¬ w64 z1 = 0 ∧ Q (zldiv a2 z1) sw1 m1)) ∧ (¬ (¬ w64 z1 = 0) → Q a2 sw1 m1))) ∧ (¬ (¬ w32 a4 = 0) → ((¬ w64 z1 = 0 → (¬ w64 z1 = 0 ∧ Q (zldiv a0 z1) sw1 m1)) ∧ (¬ (¬ w64 z1 = 0) → Q a0 sw1 m1)))))) ∧ (¬ (¬ w64 a2 = 0) → Q (w32 a4) sw m))))) : M2 X 2 mZ_side [vl a0, vl a2, vi a4] sw m Q := by
  refine Mt.of pZ_side (Nat.le_of_ble_eq_true rfl) (Nat.le_refl _) ?_
  show R2 X 2 mZ_side 0 [(0, vl a0), (2, vl a2), (4, vi a4)] [] sw m Q
  refine r_lload_n 0 0 rfl dZ_side_0 rfl ?_
  refine r_lconst dZ_side_1 ?_
  refine q_lc_eq (tgt := 12) (A := w64 a0) (B := 0) rfl (by decide +kernel) dZ_side_2 dZ_side_3 (by decide) (fun hc => ?_) (fun hc => ?_)
  · replace h := h.1 hc
    refine r_iload 4 2 rfl dZ_side_12 ?_
    refine r_i2l dZ_side_14 ?_
    exact q_lret rfl h dZ_side_15
  · replace h := h.2 hc
    refine r_lload_n 2 1 rfl dZ_side_6 rfl ?_
    refine r_lconst dZ_side_7 ?_
    refine q_lc_ne (tgt := 16) (A := w64 a2) (B := 0) rfl (by decide +kernel) dZ_side_8 dZ_side_9 (by decide) (fun hc => ?_) (fun hc => ?_)
    · replace h := h.1 hc
      refine r_lload_n 0 0 rfl dZ_side_16 rfl ?_
      refine r_lload_n 2 1 rfl dZ_side_17 rfl ?_
      refine r_callSl [_, _] rfl oZ_commonDivisor iZ_commonDivisor yZ_341 (by decide) ⟨Nat.le_refl _, Nat.le_refl _⟩ rfl (Nat.le_of_ble_eq_true rfl) dZ_side_18 h (fun z1 r1 m1 h => ?_)
      obtain ⟨sw1, rfl, h⟩ := h
      refine r_lstore 5 (by decide) dZ_side_21 ?_
      refine r_iload 4 3 rfl dZ_side_23 ?_
      refine r_if_ne (tgt := 32) dZ_side_25 (by decide) (fun hc => ?_) (fun hc => ?_)
      · replace h := h.1 hc
        refine r_lload_n 2 2 rfl dZ_side_32 rfl ?_
        refine r_lstore 7 (by decide) dZ_side_33 ?_
        refine r_lload 5 1 rfl dZ_side_35 ?_
        refine r_lconst dZ_side_37 ?_
        refine q_lc_ne (tgt := 47) (A := w64 z1) (B := 0) rfl (by decide +kernel) dZ_side_38 dZ_side_39 (by decide) (fun hc => ?_) (fun hc => ?_)
        · replace h := h.1 hc
          refine r_lload 7 0 rfl dZ_side_47 ?_
          refine r_lload 5 1 rfl dZ_side_49 ?_
          refine r_ldiv h.1 dZ_side_51 ?_
          replace h := h.2
          exact q_lret rfl h dZ_side_52
        · replace h := h.2 hc
          refine r_lload 7 0 rfl dZ_side_42 ?_
          refine r_goto (tgt := 52) dZ_side_44 (by decide) ?_
          exact q_lret rfl h dZ_side_52
      · replace h := h.2 hc
        refine r_lload_n 0 1 rfl dZ_side_28 rfl ?_
        refine r_goto (tgt := 33) dZ_side_29 (by decide) ?_
        refine r_lstore 7 (by decide) dZ_side_33 ?_
        refine r_lload 5 1 rfl dZ_side_35 ?_
        refine r_lconst dZ_side_37 ?_
        refine q_lc_ne (tgt := 47) (A := w64 z1) (B := 0) rfl (by decide +kernel) dZ_side_38 dZ_side_39 (by decide) (fun hc => ?_) (fun hc => ?_)
        · replace h := h.1 hc
          refine r_lload 7 0 rfl dZ_side_47 ?_
          refine r_lload 5 1 rfl dZ_side_49 ?_
          refine r_ldiv h.1 dZ_side_51 ?_
          replace h := h.2
          exact q_lret rfl h dZ_side_52
        · replace h := h.2 hc
          refine r_lload 7 0 rfl dZ_side_42 ?_
          refine r_goto (tgt := 52) dZ_side_44 (by decide) ?_
          exact q_lret rfl h dZ_side_52
    · replace h := h.2 hc
      refine r_iload 4 2 rfl dZ_side_12 ?_
      refine r_i2l dZ_side_14 ?_
      exact q_lret rfl h dZ_side_15
theorem dZ_commonDivisor_0 : decode mZ_commonDivisor.2.1 0 = .ok (.lload_n 0, 1) := by decide +kernel
theorem dZ_commonDivisor_1 : decode mZ_commonDivisor.2.1 1 = .ok (.lstore 4, 2) := by decide +kernel
theorem dZ_commonDivisor_3 : decode mZ_commonDivisor.2.1 3 = .ok (.lload_n 2, 1) := by decide +kernel
theorem dZ_commonDivisor_4 : decode mZ_commonDivisor.2.1 4 = .ok (.lstore 6, 2) := by decide +kernel
theorem dZ_commonDivisor_6 : decode mZ_commonDivisor.2.1 6 = .ok (.iconst 0, 1) := by decide +kernel
theorem dZ_commonDivisor_7 : decode mZ_commonDivisor.2.1 7 = .ok (.istore 8, 2) := by decide +kernel
theorem dZ_commonDivisor_9 : decode mZ_commonDivisor.2.1 9 = .ok (.iload 8, 2) := by decide +kernel
theorem dZ_commonDivisor_11 : decode mZ_commonDivisor.2.1 11 = .ok (.sipush 1000, 3) := by decide +kernel
theorem dZ_commonDivisor_14 : decode mZ_commonDivisor.2.1 14 = .ok (.if_icmp .ge 31, 3) := by decide +kernel
theorem dZ_commonDivisor_17 : decode mZ_commonDivisor.2.1 17 = .ok (.lload 6, 2) := by decide +kernel
theorem dZ_commonDivisor_19 : decode mZ_commonDivisor.2.1 19 = .ok (.lconst 0, 1) := by decide +kernel
theorem dZ_commonDivisor_20 : decode mZ_commonDivisor.2.1 20 = .ok (.lcmp, 1) := by decide +kernel
theorem dZ_commonDivisor_21 : decode mZ_commonDivisor.2.1 21 = .ok (.ifCond .eq 24, 3) := by decide +kernel
theorem dZ_commonDivisor_24 : decode mZ_commonDivisor.2.1 24 = .ok (.lload 4, 2) := by decide +kernel
theorem dZ_commonDivisor_26 : decode mZ_commonDivisor.2.1 26 = .ok (.lload 6, 2) := by decide +kernel
theorem dZ_commonDivisor_28 : decode mZ_commonDivisor.2.1 28 = .ok (.lrem, 1) := by decide +kernel
theorem dZ_commonDivisor_29 : decode mZ_commonDivisor.2.1 29 = .ok (.lstore 9, 2) := by decide +kernel
theorem dZ_commonDivisor_31 : decode mZ_commonDivisor.2.1 31 = .ok (.lload 6, 2) := by decide +kernel
theorem dZ_commonDivisor_33 : decode mZ_commonDivisor.2.1 33 = .ok (.lstore 4, 2) := by decide +kernel
theorem dZ_commonDivisor_35 : decode mZ_commonDivisor.2.1 35 = .ok (.lload 9, 2) := by decide +kernel
theorem dZ_commonDivisor_37 : decode mZ_commonDivisor.2.1 37 = .ok (.lstore 6, 2) := by decide +kernel
theorem dZ_commonDivisor_39 : decode mZ_commonDivisor.2.1 39 = .ok (.iinc 8 1, 3) := by decide +kernel
theorem dZ_commonDivisor_42 : decode mZ_commonDivisor.2.1 42 = .ok (.goto (-33), 3) := by decide +kernel
theorem dZ_commonDivisor_45 : decode mZ_commonDivisor.2.1 45 = .ok (.lload 4, 2) := by decide +kernel
theorem dZ_commonDivisor_47 : decode mZ_commonDivisor.2.1 47 = .ok (.lreturn, 1) := by decide +kernel
/- Z_commonDivisor: (JJ)J -/
set_option maxRecDepth 4000 in
theorem wZ_commonDivisor {X : Cx} (a0 a2 : Int) (sw : Bool) (m : Mem) (Q : Int → Bool → Mem → Prop) (h : R2 X 1 mZ_commonDivisor 9 [(4, vl a0), (6, vl a2), (8, vi 0)] [] sw m Q) : M2 X 1 mZ_commonDivisor [vl a0, vl a2] sw m Q := by
  refine Mt.of pZ_commonDivisor (Nat.le_of_ble_eq_true rfl) (Nat.le_refl _) ?_
  show R2 X 1 mZ_commonDivisor 0 [(0, vl a0), (2, vl a2)] [] sw m Q
  refine r_lload_n 0 0 rfl dZ_commonDivisor_0 rfl ?_
  refine r_lstore 4 (by decide) dZ_commonDivisor_1 ?_
  refine r_lload_n 2 2 rfl dZ_commonDivisor_3 rfl ?_
  refine r_lstore 6 (by decide) dZ_commonDivisor_4 ?_
  refine r_iconst dZ_commonDivisor_6 ?_
  refine r_istore 8 (by decide) dZ_commonDivisor_7 ?_
  refine r_sub [2, 1, 0] ?_ h
  rfl
set_option maxRecDepth 4000 in
theorem wZ_commonDivisor_9 {X : Cx} (x4 x6 x8 : Int) (sw : Bool) (m : Mem) (Q : Int → Bool → Mem → Prop) (h : ((1000 ≤ w32 x8 → Q x4 sw m) ∧ (¬ (1000 ≤ w32 x8) → ((w64 x6 = 0 → Q x4 sw m) ∧ (¬ (w64 x6 = 0) → (¬ w64 x6 = 0 ∧ R2 X 1 mZ_commonDivisor 9 [(4, vl x6), (6, vl (zlrem x4 x6)), (8, vi (x8 + 1))] [] sw m Q)))))) : R2 X 1 mZ_commonDivisor 9 [(4, vl x4), (6, vl x6), (8, vi x8)] [] sw m Q := by
  refine r_iload 8 2 rfl dZ_commonDivisor_9 ?_
  refine r_sipush (by decide) dZ_commonDivisor_11 ?_
  refine r_ifc_ge (tgt := 45) dZ_commonDivisor_14 (by decide) (fun hc => ?_) (fun hc => ?_)
  · replace h := h.1 hc
    refine r_lload 4 0 rfl dZ_commonDivisor_45 ?_
    exact q_lret rfl h dZ_commonDivisor_47
  · replace h := h.2 hc
    refine r_lload 6 1 rfl dZ_commonDivisor_17 ?_
    refine r_lconst dZ_commonDivisor_19 ?_
    refine q_lc_eq (tgt := 45) (A := w64 x6) (B := 0) rfl (by decide +kernel) dZ_commonDivisor_20 dZ_commonDivisor_21 (by decide) (fun hc => ?_) (fun hc => ?_)
    · replace h := h.1 hc
      refine r_lload 4 0 rfl dZ_commonDivisor_45 ?_
      exact q_lret rfl h dZ_commonDivisor_47
    · replace h := h.2 hc
      refine r_lload 4 0 rfl dZ_commonDivisor_24 ?_
      refine r_lload 6 1 rfl dZ_commonDivisor_26 ?_
      refine r_lrem h.1 dZ_commonDivisor_28 ?_
      replace h := h.2
      refine r_lstore 9 (by decide) dZ_commonDivisor_29 ?_
      refine r_lload 6 2 rfl dZ_commonDivisor_31 ?_
      refine r_lstore 4 (by decide) dZ_commonDivisor_33 ?_
      refine r_lload 9 1 rfl dZ_commonDivisor_35 ?_
      refine r_lstore 6 (by decide) dZ_commonDivisor_37 ?_
      refine r_iinc 8 3 rfl (by decide) dZ_commonDivisor_39 ?_
      refine r_goto (tgt := 9) dZ_commonDivisor_42 (by decide) ?_
      refine r_sub [2, 1, 0] ?_ h
      rfl
theorem dZ_cut_0 : decode mZ_cut.2.1 0 = .ok (.lload 4, 2) := by decide +kernel
theorem dZ_cut_2 : decode mZ_cut.2.1 2 = .ok (.lconst 0, 1) := by decide +kernel
theorem dZ_cut_3 : decode mZ_cut.2.1 3 = .ok (.lcmp, 1) := by decide +kernel
theorem dZ_cut_4 : decode mZ_cut.2.1 4 = .ok (.ifCond .ne 7, 3) := by decide +kernel
theorem dZ_cut_7 : decode mZ_cut.2.1 7 = .ok (.lconst 0, 1) := by decide +kernel
theorem dZ_cut_8 : decode mZ_cut.2.1 8 = .ok (.goto 9, 3) := by decide +kernel
theorem dZ_cut_11 : decode mZ_cut.2.1 11 = .ok (.lload_n 0, 1) := by decide +kernel
theorem dZ_cut_12 : decode mZ_cut.2.1 12 = .ok (.lload_n 2, 1) := by decide +kernel
theorem dZ_cut_13 : decode mZ_cut.2.1 13 = .ok (.lmul, 1) := by decide +kernel
theorem dZ_cut_14 : decode mZ_cut.2.1 14 = .ok (.lload 4, 2) := by decide +kernel
theorem dZ_cut_16 : decode mZ_cut.2.1 16 = .ok (.ldiv, 1) := by decide +kernel
theorem dZ_cut_17 : decode mZ_cut.2.1 17 = .ok (.lreturn, 1) := by decide +kernel
/- Z_cut: (JJJ)J -/
set_option maxRecDepth 4000 in
theorem wZ_cut {X : Cx} (a0 a2 a4 : Int) (sw : Bool) (m : Mem) (Q : Int → Bool → Mem → Prop) (h : ((¬ w64 a4 = 0 → (¬ w64 a4 = 0 ∧ Q (zldiv (a0 * a2) a4) sw m)) ∧ (¬ (¬ w64 a4 = 0) → Q 0 sw m))) : M2 X 1 mZ_cut [vl a0, vl a2, vl a4] sw m Q := by
  refine Mt.of pZ_cut (Nat.le_of_ble_eq_true rfl) (Nat.le_refl _) ?_
  show R2 X 1 mZ_cut 0 [(0, vl a0), (2, vl a2), (4, vl a4)] [] sw m Q
  refine r_lload 4 2 rfl dZ_cut_0 ?_
  refine r_lconst dZ_cut_2 ?_
  refine q_lc_ne (tgt := 11) (A := w64 a4) (B := 0) rfl (by decide +kernel) dZ_cut_3 dZ_cut_4 (by decide) (fun hc => ?_) (fun hc => ?_)
  · replace h := h.1 hc
    refine r_lload_n 0 0 rfl dZ_cut_11 rfl ?_
    refine r_lload_n 2 1 rfl dZ_cut_12 rfl ?_
    refine r_lmul dZ_cut_13 ?_
    refine r_lload 4 2 rfl dZ_cut_14 ?_
    refine r_ldiv h.1 dZ_cut_16 ?_
    replace h := h.2
    exact q_lret rfl h dZ_cut_17
  · replace h := h.2 hc
    refine r_lconst dZ_cut_7 ?_
    refine r_goto (tgt := 17) dZ_cut_8 (by decide) ?_
    exact q_lret rfl h dZ_cut_17
