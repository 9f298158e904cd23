theorem dY_isShelf_0 : decode mY_isShelf.2.1 0 = .ok (.iload_n 0, 1) := by decide +kernel
theorem dY_isShelf_1 : decode mY_isShelf.2.1 1 = .ok (.iconst 0, 1) := by decide +kernel
theorem dY_isShelf_2 : decode mY_isShelf.2.1 2 = .ok (.iconst 5, 1) := by decide +kernel
theorem dY_isShelf_3 : decode mY_isShelf.2.1 3 = .ok (.invokestatic 133, 3) := by decide +kernel
theorem dY_isShelf_6 : decode mY_isShelf.2.1 6 = .ok (.ireturn, 1) := by decide +kernel
/- Y_isShelf: (I)Z -/
set_option maxRecDepth 4000 in
theorem wY_isShelf {X : Cx} (a0 : Int) (sw : Bool) (m : Mem) (Q : Int → Bool → Mem → Prop) (h : M2 X 1 mY_in [vi a0, vi 0, vi 5] sw m (fun z1 sw1 m1 => ((z1 = 0 ∨ z1 = 1) ∧ Q z1 sw1 m1))) : M2 X 2 mY_isShelf [vi a0] sw m Q := by
  refine Mt.of pY_isShelf (Nat.le_of_ble_eq_true rfl) (Nat.le_refl _) ?_
  show R2 X 2 mY_isShelf 0 [(0, vi a0)] [] sw m Q
  refine r_iload_n 0 0 rfl dY_isShelf_0 rfl ?_
  refine r_iconst dY_isShelf_1 ?_
  refine r_iconst dY_isShelf_2 ?_
  refine r_callSb [_, _, _] rfl oY_in iY_in yY_133 (by decide) ⟨Nat.le_refl _, Nat.le_refl _⟩ rfl (Nat.le_of_ble_eq_true rfl) dY_isShelf_3 h (fun z1 r1 m1 h => ?_)
  obtain ⟨sw1, rfl, h⟩ := h
  exact q_bret rfl h.1 h.2 dY_isShelf_6
theorem dY_keep_0 : decode mY_keep.2.1 0 = .ok (.iload_n 1, 1) := by decide +kernel
theorem dY_keep_1 : decode mY_keep.2.1 1 = .ok (.invokestatic 144, 3) := by decide +kernel
theorem dY_keep_4 : decode mY_keep.2.1 4 = .ok (.ifCond .eq 16, 3) := by decide +kernel
theorem dY_keep_7 : decode mY_keep.2.1 7 = .ok (.iload_n 2, 1) := by decide +kernel
theorem dY_keep_8 : decode mY_keep.2.1 8 = .ok (.iconst (-1), 1) := by decide +kernel
theorem dY_keep_9 : decode mY_keep.2.1 9 = .ok (.if_icmp .eq 13, 3) := by decide +kernel
theorem dY_keep_12 : decode mY_keep.2.1 12 = .ok (.aload_n 0, 1) := by decide +kernel
theorem dY_keep_13 : decode mY_keep.2.1 13 = .ok (.iload_n 2, 1) := by decide +kernel
theorem dY_keep_14 : decode mY_keep.2.1 14 = .ok (.invokevirtual 401, 3) := by decide +kernel
theorem dY_keep_17 : decode mY_keep.2.1 17 = .ok (.ifCond .ne 5, 3) := by decide +kernel
theorem dY_keep_20 : decode mY_keep.2.1 20 = .ok (.iconst (-1), 1) := by decide +kernel
theorem dY_keep_21 : decode mY_keep.2.1 21 = .ok (.ireturn, 1) := by decide +kernel
theorem dY_keep_22 : decode mY_keep.2.1 22 = .ok (.aload_n 0, 1) := by decide +kernel
theorem dY_keep_23 : decode mY_keep.2.1 23 = .ok (.getfield 115, 3) := by decide +kernel
theorem dY_keep_26 : decode mY_keep.2.1 26 = .ok (.iload_n 1, 1) := by decide +kernel
theorem dY_keep_27 : decode mY_keep.2.1 27 = .ok (.iload_n 2, 1) := by decide +kernel
theorem dY_keep_28 : decode mY_keep.2.1 28 = .ok (.iastore, 1) := by decide +kernel
theorem dY_keep_29 : decode mY_keep.2.1 29 = .ok (.iconst 1, 1) := by decide +kernel
theorem dY_keep_30 : decode mY_keep.2.1 30 = .ok (.ireturn, 1) := by decide +kernel
/- Y_keep: (II)I -/
set_option maxRecDepth 4000 in
theorem wY_keep {X : Cx} (a1 a2 : Int) (sw : Bool) (m : Mem) (Q : Int → Bool → Mem → Prop) (h : M2 X 2 mY_isShelf [vi a1] sw m (fun z1 sw1 m1 => ((w32 z1 = 0 → Q (-1) sw1 m1) ∧ (¬ (w32 z1 = 0) → ((w32 a2 = (-1) → ((0 ≤ w32 a1 ∧ w32 a1 < 6) ∧ Q 1 sw1 (upm m1 117 (w32 a1) a2))) ∧ (¬ (w32 a2 = (-1)) → M2 X 2 mY_isBody [vr 84, vi a2] sw1 m1 (fun z2 sw2 m2 => ((¬ w32 z2 = 0 → ((0 ≤ w32 a1 ∧ w32 a1 < 6) ∧ Q 1 sw2 (upm m2 117 (w32 a1) a2))) ∧ (¬ (¬ w32 z2 = 0) → Q (-1) sw2 m2))))))))) : M2 X 3 mY_keep [vr 84, vi a1, vi a2] sw m Q := by
  refine Mt.of pY_keep (Nat.le_of_ble_eq_true rfl) (Nat.le_refl _) ?_
  show R2 X 3 mY_keep 0 [(0, vr 84), (1, vi a1), (2, vi a2)] [] sw m Q
  refine r_iload_n 1 1 rfl dY_keep_0 rfl ?_
  refine r_callSb [_] rfl oY_isShelf iY_isShelf yY_144 (by decide) ⟨Nat.le_refl _, Nat.le_refl _⟩ rfl (Nat.le_of_ble_eq_true rfl) dY_keep_1 h (fun z1 r1 m1 h => ?_)
  obtain ⟨sw1, rfl, h⟩ := h
  refine r_if_eq (tgt := 20) dY_keep_4 (by decide) (fun hc => ?_) (fun hc => ?_)
  · replace h := h.1 hc
    refine r_iconst dY_keep_20 ?_
    exact q_iret rfl h dY_keep_21
  · replace h := h.2 hc
    refine r_iload_n 2 2 rfl dY_keep_7 rfl ?_
    refine r_iconst dY_keep_8 ?_
    refine r_ifc_eq (tgt := 22) dY_keep_9 (by decide) (fun hc => ?_) (fun hc => ?_)
    · replace h := h.1 hc
      refine r_aload_n 0 0 rfl dY_keep_22 rfl ?_
      refine q_getR 51 c84 fY_115 rfl rfl (g84_51 sw1) (by decide) dY_keep_23 ?_
      refine r_iload_n 1 1 rfl dY_keep_26 rfl ?_
      refine r_iload_n 2 2 rfl dY_keep_27 rfl ?_
      refine q_iastore (w32 a1) rfl c117 h.1 dY_keep_28 ?_
      replace h := h.2
      refine r_iconst dY_keep_29 ?_
      exact q_iret rfl h dY_keep_30
    · replace h := h.2 hc
      refine r_aload_n 0 0 rfl dY_keep_12 rfl ?_
      refine r_iload_n 2 2 rfl dY_keep_13 rfl ?_
      refine r_callVb 12 [_] rfl c84 rfl rfl oY_isBody iY_isBody sY_isBody yY_401 (by decide) ⟨Nat.le_refl _, Nat.le_refl _⟩ rfl (Nat.le_of_ble_eq_true rfl) dY_keep_14 h (fun z2 r2 m2 h => ?_)
      obtain ⟨sw2, rfl, h⟩ := h
      refine r_if_ne (tgt := 22) dY_keep_17 (by decide) (fun hc => ?_) (fun hc => ?_)
      · replace h := h.1 hc
        refine r_aload_n 0 0 rfl dY_keep_22 rfl ?_
        refine q_getR 51 c84 fY_115 rfl rfl (g84_51 sw2) (by decide) dY_keep_23 ?_
        refine r_iload_n 1 1 rfl dY_keep_26 rfl ?_
        refine r_iload_n 2 2 rfl dY_keep_27 rfl ?_
        refine q_iastore (w32 a1) rfl c117 h.1 dY_keep_28 ?_
        replace h := h.2
        refine r_iconst dY_keep_29 ?_
        exact q_iret rfl h dY_keep_30
      · replace h := h.2 hc
        refine r_iconst dY_keep_20 ?_
        exact q_iret rfl h dY_keep_21
theorem dY_row_0 : decode mY_row.2.1 0 = .ok (.iload_n 1, 1) := by decide +kernel
theorem dY_row_1 : decode mY_row.2.1 1 = .ok (.invokestatic 144, 3) := by decide +kernel
theorem dY_row_4 : decode mY_row.2.1 4 = .ok (.ifCond .eq 18, 3) := by decide +kernel
theorem dY_row_7 : decode mY_row.2.1 7 = .ok (.iload_n 2, 1) := by decide +kernel
theorem dY_row_8 : decode mY_row.2.1 8 = .ok (.iconst 0, 1) := by decide +kernel
theorem dY_row_9 : decode mY_row.2.1 9 = .ok (.iconst 4, 1) := by decide +kernel
theorem dY_row_10 : decode mY_row.2.1 10 = .ok (.invokestatic 133, 3) := by decide +kernel
theorem dY_row_13 : decode mY_row.2.1 13 = .ok (.ifCond .eq 9, 3) := by decide +kernel
theorem dY_row_16 : decode mY_row.2.1 16 = .ok (.iload_n 3, 1) := by decide +kernel
theorem dY_row_17 : decode mY_row.2.1 17 = .ok (.bipush 60, 2) := by decide +kernel
theorem dY_row_19 : decode mY_row.2.1 19 = .ok (.if_icmp .le 5, 3) := by decide +kernel
theorem dY_row_22 : decode mY_row.2.1 22 = .ok (.iconst (-1), 1) := by decide +kernel
theorem dY_row_23 : decode mY_row.2.1 23 = .ok (.ireturn, 1) := by decide +kernel
theorem dY_row_24 : decode mY_row.2.1 24 = .ok (.iload_n 3, 1) := by decide +kernel
theorem dY_row_25 : decode mY_row.2.1 25 = .ok (.ifCond .ge 6, 3) := by decide +kernel
theorem dY_row_28 : decode mY_row.2.1 28 = .ok (.bipush (-14), 2) := by decide +kernel
theorem dY_row_30 : decode mY_row.2.1 30 = .ok (.ireturn, 1) := by decide +kernel
theorem dY_row_31 : decode mY_row.2.1 31 = .ok (.aload_n 0, 1) := by decide +kernel
theorem dY_row_32 : decode mY_row.2.1 32 = .ok (.getfield 115, 3) := by decide +kernel
theorem dY_row_35 : decode mY_row.2.1 35 = .ok (.iload_n 1, 1) := by decide +kernel
theorem dY_row_36 : decode mY_row.2.1 36 = .ok (.bipush (-2), 2) := by decide +kernel
theorem dY_row_38 : decode mY_row.2.1 38 = .ok (.iload_n 2, 1) := by decide +kernel
theorem dY_row_39 : decode mY_row.2.1 39 = .ok (.isub, 1) := by decide +kernel
theorem dY_row_40 : decode mY_row.2.1 40 = .ok (.iastore, 1) := by decide +kernel
theorem dY_row_41 : decode mY_row.2.1 41 = .ok (.aload_n 0, 1) := by decide +kernel
theorem dY_row_42 : decode mY_row.2.1 42 = .ok (.getfield 118, 3) := by decide +kernel
theorem dY_row_45 : decode mY_row.2.1 45 = .ok (.iload_n 1, 1) := by decide +kernel
theorem dY_row_46 : decode mY_row.2.1 46 = .ok (.iload_n 3, 1) := by decide +kernel
theorem dY_row_47 : decode mY_row.2.1 47 = .ok (.iastore, 1) := by decide +kernel
theorem dY_row_48 : decode mY_row.2.1 48 = .ok (.bipush 60, 2) := by decide +kernel
theorem dY_row_50 : decode mY_row.2.1 50 = .ok (.iload_n 1, 1) := by decide +kernel
theorem dY_row_51 : decode mY_row.2.1 51 = .ok (.imul, 1) := by decide +kernel
theorem dY_row_52 : decode mY_row.2.1 52 = .ok (.istore 4, 2) := by decide +kernel
theorem dY_row_54 : decode mY_row.2.1 54 = .ok (.iload 4, 2) := by decide +kernel
theorem dY_row_56 : decode mY_row.2.1 56 = .ok (.bipush 60, 2) := by decide +kernel
theorem dY_row_58 : decode mY_row.2.1 58 = .ok (.iload_n 1, 1) := by decide +kernel
theorem dY_row_59 : decode mY_row.2.1 59 = .ok (.imul, 1) := by decide +kernel
theorem dY_row_60 : decode mY_row.2.1 60 = .ok (.bipush 60, 2) := by decide +kernel
theorem dY_row_62 : decode mY_row.2.1 62 = .ok (.iadd, 1) := by decide +kernel
theorem dY_row_63 : decode mY_row.2.1 63 = .ok (.if_icmp .ge 17, 3) := by decide +kernel
theorem dY_row_66 : decode mY_row.2.1 66 = .ok (.aload_n 0, 1) := by decide +kernel
theorem dY_row_67 : decode mY_row.2.1 67 = .ok (.getfield 121, 3) := by decide +kernel
theorem dY_row_70 : decode mY_row.2.1 70 = .ok (.iload 4, 2) := by decide +kernel
theorem dY_row_72 : decode mY_row.2.1 72 = .ok (.lconst 0, 1) := by decide +kernel
theorem dY_row_73 : decode mY_row.2.1 73 = .ok (.lastore, 1) := by decide +kernel
theorem dY_row_74 : decode mY_row.2.1 74 = .ok (.iinc 4 1, 3) := by decide +kernel
theorem dY_row_77 : decode mY_row.2.1 77 = .ok (.goto (-23), 3) := by decide +kernel
theorem dY_row_80 : decode mY_row.2.1 80 = .ok (.iconst 1, 1) := by decide +kernel
theorem dY_row_81 : decode mY_row.2.1 81 = .ok (.ireturn, 1) := by decide +kernel
/- Y_row: (III)I -/
set_option maxRecDepth 4000 in
theorem wY_row {X : Cx} (a1 a2 a3 : Int) (sw : Bool) (m : Mem) (Q : Int → Bool → Mem → Prop) (h : M2 X 2 mY_isShelf [vi a1] sw m (fun z1 sw1 m1 => ((w32 z1 = 0 → Q (-1) sw1 m1) ∧ (¬ (w32 z1 = 0) → M2 X 1 mY_in [vi a2, vi 0, vi 4] sw1 m1 (fun z2 sw2 m2 => ((w32 z2 = 0 → Q (-1) sw2 m2) ∧ (¬ (w32 z2 = 0) → ((w32 a3 ≤ 60 → ((0 ≤ w32 a3 → ((0 ≤ w32 a1 ∧ w32 a1 < 6) ∧ ((0 ≤ w32 a1 ∧ w32 a1 < 6) ∧ R2 X 3 mY_row 54 [(0, vr 84), (1, vi a1), (4, vi (60 * a1))] [] sw2 (upm (upm m2 117 (w32 a1) ((-2) - a2)) 118 (w32 a1) a3) Q))) ∧ (¬ (0 ≤ w32 a3) → Q (-14) sw2 m2))) ∧ (¬ (w32 a3 ≤ 60) → Q (-1) sw2 m2))))))))) : M2 X 3 mY_row [vr 84, vi a1, vi a2, vi a3] sw m Q := by
  refine Mt.of pY_row (Nat.le_of_ble_eq_true rfl) (Nat.le_refl _) ?_
  show R2 X 3 mY_row 0 [(0, vr 84), (1, vi a1), (2, vi a2), (3, vi a3)] [] sw m Q
  refine r_iload_n 1 1 rfl dY_row_0 rfl ?_
  refine r_callSb [_] rfl oY_isShelf iY_isShelf yY_144 (by decide) ⟨Nat.le_refl _, Nat.le_refl _⟩ rfl (Nat.le_of_ble_eq_true rfl) dY_row_1 h (fun z1 r1 m1 h => ?_)
  obtain ⟨sw1, rfl, h⟩ := h
  refine r_if_eq (tgt := 22) dY_row_4 (by decide) (fun hc => ?_) (fun hc => ?_)
  · replace h := h.1 hc
    refine r_iconst dY_row_22 ?_
    exact q_iret rfl h dY_row_23
  · replace h := h.2 hc
    refine r_iload_n 2 2 rfl dY_row_7 rfl ?_
    refine r_iconst dY_row_8 ?_
    refine r_iconst dY_row_9 ?_
    refine r_callSb [_, _, _] rfl oY_in iY_in yY_133 (by decide) ⟨Nat.le_refl _, Nat.le_refl _⟩ rfl (Nat.le_of_ble_eq_true rfl) dY_row_10 h (fun z2 r2 m2 h => ?_)
    obtain ⟨sw2, rfl, h⟩ := h
    refine r_if_eq (tgt := 22) dY_row_13 (by decide) (fun hc => ?_) (fun hc => ?_)
    · replace h := h.1 hc
      refine r_iconst dY_row_22 ?_
      exact q_iret rfl h dY_row_23
    · replace h := h.2 hc
      refine r_iload_n 3 3 rfl dY_row_16 rfl ?_
      refine r_bipush (by decide) dY_row_17 ?_
      refine r_ifc_le (tgt := 24) dY_row_19 (by decide) (fun hc => ?_) (fun hc => ?_)
      · replace h := h.1 hc
        refine r_iload_n 3 3 rfl dY_row_24 rfl ?_
        refine r_if_ge (tgt := 31) dY_row_25 (by decide) (fun hc => ?_) (fun hc => ?_)
        · replace h := h.1 hc
          refine r_aload_n 0 0 rfl dY_row_31 rfl ?_
          refine q_getR 51 c84 fY_115 rfl rfl (g84_51 sw2) (by decide) dY_row_32 ?_
          refine r_iload_n 1 1 rfl dY_row_35 rfl ?_
          refine r_bipush (by decide) dY_row_36 ?_
          refine r_iload_n 2 2 rfl dY_row_38 rfl ?_
          refine r_isub dY_row_39 ?_
          refine q_iastore (w32 a1) rfl c117 h.1 dY_row_40 ?_
          replace h := h.2
          refine r_aload_n 0 0 rfl dY_row_41 rfl ?_
          refine q_getR 52 c84 fY_118 rfl rfl (g84_52 sw2) (by decide) dY_row_42 ?_
          refine r_iload_n 1 1 rfl dY_row_45 rfl ?_
          refine r_iload_n 3 3 rfl dY_row_46 rfl ?_
          refine q_iastore (w32 a1) rfl c118 h.1 dY_row_47 ?_
          replace h := h.2
          refine r_bipush (by decide) dY_row_48 ?_
          refine r_iload_n 1 1 rfl dY_row_50 rfl ?_
          refine r_imul dY_row_51 ?_
          refine r_istore 4 (by decide) dY_row_52 ?_
          refine r_sub [1, 2, 0] ?_ h
          rfl
        · replace h := h.2 hc
          refine r_bipush (by decide) dY_row_28 ?_
          exact q_iret rfl h dY_row_30
      · replace h := h.2 hc
        refine r_iconst dY_row_22 ?_
        exact q_iret rfl h dY_row_23
set_option maxRecDepth 4000 in
theorem wY_row_54 {X : Cx} (x1 x4 : Int) (sw : Bool) (m : Mem) (Q : Int → Bool → Mem → Prop) (h : ((w32 ((60 * x1) + 60) ≤ w32 x4 → Q 1 sw m) ∧ (¬ (w32 ((60 * x1) + 60) ≤ w32 x4) → ((0 ≤ w32 x4 ∧ w32 x4 < 360) ∧ R2 X 3 mY_row 54 [(0, vr 84), (1, vi x1), (4, vi (x4 + 1))] [] sw (upm m 119 (w32 x4) 0) Q)))) : R2 X 3 mY_row 54 [(0, vr 84), (1, vi x1), (4, vi x4)] [] sw m Q := by
  refine r_iload 4 2 rfl dY_row_54 ?_
  refine r_bipush (by decide) dY_row_56 ?_
  refine r_iload_n 1 1 rfl dY_row_58 rfl ?_
  refine r_imul dY_row_59 ?_
  refine r_bipush (by decide) dY_row_60 ?_
  refine r_iadd dY_row_62 ?_
  refine r_ifc_ge (tgt := 80) dY_row_63 (by decide) (fun hc => ?_) (fun hc => ?_)
  · replace h := h.1 hc
    refine r_iconst dY_row_80 ?_
    exact q_iret rfl h dY_row_81
  · replace h := h.2 hc
    refine r_aload_n 0 0 rfl dY_row_66 rfl ?_
    refine q_getR 53 c84 fY_121 rfl rfl (g84_53 sw) (by decide) dY_row_67 ?_
    refine r_iload 4 2 rfl dY_row_70 ?_
    refine r_lconst dY_row_72 ?_
    refine q_lastore (w32 x4) rfl c119 h.1 dY_row_73 ?_
    replace h := h.2
    refine r_iinc 4 2 rfl (by decide) dY_row_74 ?_
    refine r_goto (tgt := 54) dY_row_77 (by decide) ?_
    refine r_sub [1, 2, 0] ?_ h
    rfl
theorem dY_whyNoPlace_0 : decode mY_whyNoPlace.2.1 0 = .ok (.iload_n 1, 1) := by decide +kernel
theorem dY_whyNoPlace_1 : decode mY_whyNoPlace.2.1 1 = .ok (.invokestatic 144, 3) := by decide +kernel
theorem dY_whyNoPlace_4 : decode mY_whyNoPlace.2.1 4 = .ok (.ifCond .ne 5, 3) := by decide +kernel
theorem dY_whyNoPlace_7 : decode mY_whyNoPlace.2.1 7 = .ok (.iconst (-1), 1) := by decide +kernel
theorem dY_whyNoPlace_8 : decode mY_whyNoPlace.2.1 8 = .ok (.ireturn, 1) := by decide +kernel
theorem dY_whyNoPlace_9 : decode mY_whyNoPlace.2.1 9 = .ok (.aload_n 0, 1) := by decide +kernel
theorem dY_whyNoPlace_10 : decode mY_whyNoPlace.2.1 10 = .ok (.getfield 115, 3) := by decide +kernel
theorem dY_whyNoPlace_13 : decode mY_whyNoPlace.2.1 13 = .ok (.iload_n 1, 1) := by decide +kernel
theorem dY_whyNoPlace_14 : decode mY_whyNoPlace.2.1 14 = .ok (.iaload, 1) := by decide +kernel
theorem dY_whyNoPlace_15 : decode mY_whyNoPlace.2.1 15 = .ok (.iconst (-1), 1) := by decide +kernel
theorem dY_whyNoPlace_16 : decode mY_whyNoPlace.2.1 16 = .ok (.if_icmp .ne 6, 3) := by decide +kernel
theorem dY_whyNoPlace_19 : decode mY_whyNoPlace.2.1 19 = .ok (.bipush (-11), 2) := by decide +kernel
theorem dY_whyNoPlace_21 : decode mY_whyNoPlace.2.1 21 = .ok (.ireturn, 1) := by decide +kernel
theorem dY_whyNoPlace_22 : decode mY_whyNoPlace.2.1 22 = .ok (.aload_n 0, 1) := by decide +kernel
theorem dY_whyNoPlace_23 : decode mY_whyNoPlace.2.1 23 = .ok (.getfield 115, 3) := by decide +kernel
theorem dY_whyNoPlace_26 : decode mY_whyNoPlace.2.1 26 = .ok (.iload_n 1, 1) := by decide +kernel
theorem dY_whyNoPlace_27 : decode mY_whyNoPlace.2.1 27 = .ok (.iaload, 1) := by decide +kernel
theorem dY_whyNoPlace_28 : decode mY_whyNoPlace.2.1 28 = .ok (.ifCond .lt 6, 3) := by decide +kernel
theorem dY_whyNoPlace_31 : decode mY_whyNoPlace.2.1 31 = .ok (.bipush (-12), 2) := by decide +kernel
theorem dY_whyNoPlace_33 : decode mY_whyNoPlace.2.1 33 = .ok (.ireturn, 1) := by decide +kernel
theorem dY_whyNoPlace_34 : decode mY_whyNoPlace.2.1 34 = .ok (.iload_n 2, 1) := by decide +kernel
theorem dY_whyNoPlace_35 : decode mY_whyNoPlace.2.1 35 = .ok (.iconst 0, 1) := by decide +kernel
theorem dY_whyNoPlace_36 : decode mY_whyNoPlace.2.1 36 = .ok (.aload_n 0, 1) := by decide +kernel
theorem dY_whyNoPlace_37 : decode mY_whyNoPlace.2.1 37 = .ok (.getfield 118, 3) := by decide +kernel
theorem dY_whyNoPlace_40 : decode mY_whyNoPlace.2.1 40 = .ok (.iload_n 1, 1) := by decide +kernel
theorem dY_whyNoPlace_41 : decode mY_whyNoPlace.2.1 41 = .ok (.iaload, 1) := by decide +kernel
theorem dY_whyNoPlace_42 : decode mY_whyNoPlace.2.1 42 = .ok (.iconst 1, 1) := by decide +kernel
theorem dY_whyNoPlace_43 : decode mY_whyNoPlace.2.1 43 = .ok (.isub, 1) := by decide +kernel
theorem dY_whyNoPlace_44 : decode mY_whyNoPlace.2.1 44 = .ok (.invokestatic 133, 3) := by decide +kernel
theorem dY_whyNoPlace_47 : decode mY_whyNoPlace.2.1 47 = .ok (.ifCond .eq 7, 3) := by decide +kernel
theorem dY_whyNoPlace_50 : decode mY_whyNoPlace.2.1 50 = .ok (.iconst 0, 1) := by decide +kernel
theorem dY_whyNoPlace_51 : decode mY_whyNoPlace.2.1 51 = .ok (.goto 5, 3) := by decide +kernel
theorem dY_whyNoPlace_54 : decode mY_whyNoPlace.2.1 54 = .ok (.bipush (-13), 2) := by decide +kernel
theorem dY_whyNoPlace_56 : decode mY_whyNoPlace.2.1 56 = .ok (.ireturn, 1) := by decide +kernel
/- Y_whyNoPlace: (II)I -/
set_option maxRecDepth 4000 in
theorem wY_whyNoPlace {X : Cx} (a1 a2 : Int) (sw : Bool) (m : Mem) (Q : Int → Bool → Mem → Prop) (h : M2 X 2 mY_isShelf [vi a1] sw m (fun z1 sw1 m1 => ((¬ w32 z1 = 0 → ((0 ≤ w32 a1 ∧ w32 a1 < 6) ∧ ((¬ w32 (m1 117 (w32 a1)) = (-1) → ((0 ≤ w32 a1 ∧ w32 a1 < 6) ∧ ((w32 (m1 117 (w32 a1)) < 0 → ((0 ≤ w32 a1 ∧ w32 a1 < 6) ∧ M2 X 1 mY_in [vi a2, vi 0, vi ((m1 118 (w32 a1)) - 1)] sw1 m1 (fun z2 sw2 m2 => ((w32 z2 = 0 → Q (-13) sw2 m2) ∧ (¬ (w32 z2 = 0) → Q 0 sw2 m2))))) ∧ (¬ (w32 (m1 117 (w32 a1)) < 0) → Q (-12) sw1 m1)))) ∧ (¬ (¬ w32 (m1 117 (w32 a1)) = (-1)) → Q (-11) sw1 m1)))) ∧ (¬ (¬ w32 z1 = 0) → Q (-1) sw1 m1)))) : M2 X 3 mY_whyNoPlace [vr 84, vi a1, vi a2] sw m Q := by
  refine Mt.of pY_whyNoPlace (Nat.le_of_ble_eq_true rfl) (Nat.le_refl _) ?_
  show R2 X 3 mY_whyNoPlace 0 [(0, vr 84), (1, vi a1), (2, vi a2)] [] sw m Q
  refine r_iload_n 1 1 rfl dY_whyNoPlace_0 rfl ?_
  refine r_callSb [_] rfl oY_isShelf iY_isShelf yY_144 (by decide) ⟨Nat.le_refl _, Nat.le_refl _⟩ rfl (Nat.le_of_ble_eq_true rfl) dY_whyNoPlace_1 h (fun z1 r1 m1 h => ?_)
  obtain ⟨sw1, rfl, h⟩ := h
  refine r_if_ne (tgt := 9) dY_whyNoPlace_4 (by decide) (fun hc => ?_) (fun hc => ?_)
  · replace h := h.1 hc
    refine r_aload_n 0 0 rfl dY_whyNoPlace_9 rfl ?_
    refine q_getR 51 c84 fY_115 rfl rfl (g84_51 sw1) (by decide) dY_whyNoPlace_10 ?_
    refine r_iload_n 1 1 rfl dY_whyNoPlace_13 rfl ?_
    refine q_iaload (w32 a1) rfl c117 h.1 dY_whyNoPlace_14 ?_
    replace h := h.2
    refine r_iconst dY_whyNoPlace_15 ?_
    refine r_ifc_ne (tgt := 22) dY_whyNoPlace_16 (by decide) (fun hc => ?_) (fun hc => ?_)
    · replace h := h.1 hc
      refine r_aload_n 0 0 rfl dY_whyNoPlace_22 rfl ?_
      refine q_getR 51 c84 fY_115 rfl rfl (g84_51 sw1) (by decide) dY_whyNoPlace_23 ?_
      refine r_iload_n 1 1 rfl dY_whyNoPlace_26 rfl ?_
      refine q_iaload (w32 a1) rfl c117 h.1 dY_whyNoPlace_27 ?_
      replace h := h.2
      refine r_if_lt (tgt := 34) dY_whyNoPlace_28 (by decide) (fun hc => ?_) (fun hc => ?_)
      · replace h := h.1 hc
        refine r_iload_n 2 2 rfl dY_whyNoPlace_34 rfl ?_
        refine r_iconst dY_whyNoPlace_35 ?_
        refine r_aload_n 0 0 rfl dY_whyNoPlace_36 rfl ?_
        refine q_getR 52 c84 fY_118 rfl rfl (g84_52 sw1) (by decide) dY_whyNoPlace_37 ?_
        refine r_iload_n 1 1 rfl dY_whyNoPlace_40 rfl ?_
        refine q_iaload (w32 a1) rfl c118 h.1 dY_whyNoPlace_41 ?_
        replace h := h.2
        refine r_iconst dY_whyNoPlace_42 ?_
        refine r_isub dY_whyNoPlace_43 ?_
        refine r_callSb [_, _, _] rfl oY_in iY_in yY_133 (by decide) ⟨Nat.le_refl _, Nat.le_refl _⟩ rfl (Nat.le_of_ble_eq_true rfl) dY_whyNoPlace_44 h (fun z2 r2 m2 h => ?_)
        obtain ⟨sw2, rfl, h⟩ := h
        refine r_if_eq (tgt := 54) dY_whyNoPlace_47 (by decide) (fun hc => ?_) (fun hc => ?_)
        · replace h := h.1 hc
          refine r_bipush (by decide) dY_whyNoPlace_54 ?_
          exact q_iret rfl h dY_whyNoPlace_56
        · replace h := h.2 hc
          refine r_iconst dY_whyNoPlace_50 ?_
          refine r_goto (tgt := 56) dY_whyNoPlace_51 (by decide) ?_
          exact q_iret rfl h dY_whyNoPlace_56
      · replace h := h.2 hc
        refine r_bipush (by decide) dY_whyNoPlace_31 ?_
        exact q_iret rfl h dY_whyNoPlace_33
    · replace h := h.2 hc
      refine r_bipush (by decide) dY_whyNoPlace_19 ?_
      exact q_iret rfl h dY_whyNoPlace_21
  · replace h := h.2 hc
    refine r_iconst dY_whyNoPlace_7 ?_
    exact q_iret rfl h dY_whyNoPlace_8
theorem dY_put_0 : decode mY_put.2.1 0 = .ok (.aload_n 0, 1) := by decide +kernel
theorem dY_put_1 : decode mY_put.2.1 1 = .ok (.iload_n 1, 1) := by decide +kernel
theorem dY_put_2 : decode mY_put.2.1 2 = .ok (.iload_n 2, 1) := by decide +kernel
theorem dY_put_3 : decode mY_put.2.1 3 = .ok (.invokevirtual 407, 3) := by decide +kernel
theorem dY_put_6 : decode mY_put.2.1 6 = .ok (.istore 5, 2) := by decide +kernel
theorem dY_put_8 : decode mY_put.2.1 8 = .ok (.iload 5, 2) := by decide +kernel
theorem dY_put_10 : decode mY_put.2.1 10 = .ok (.ifCond .ge 6, 3) := by decide +kernel
theorem dY_put_13 : decode mY_put.2.1 13 = .ok (.iload 5, 2) := by decide +kernel
theorem dY_put_15 : decode mY_put.2.1 15 = .ok (.ireturn, 1) := by decide +kernel
theorem dY_put_16 : decode mY_put.2.1 16 = .ok (.bipush (-2), 2) := by decide +kernel
theorem dY_put_18 : decode mY_put.2.1 18 = .ok (.aload_n 0, 1) := by decide +kernel
theorem dY_put_19 : decode mY_put.2.1 19 = .ok (.getfield 115, 3) := by decide +kernel
theorem dY_put_22 : decode mY_put.2.1 22 = .ok (.iload_n 1, 1) := by decide +kernel
theorem dY_put_23 : decode mY_put.2.1 23 = .ok (.iaload, 1) := by decide +kernel
theorem dY_put_24 : decode mY_put.2.1 24 = .ok (.isub, 1) := by decide +kernel
theorem dY_put_25 : decode mY_put.2.1 25 = .ok (.istore 6, 2) := by decide +kernel
theorem dY_put_27 : decode mY_put.2.1 27 = .ok (.aload_n 0, 1) := by decide +kernel
theorem dY_put_28 : decode mY_put.2.1 28 = .ok (.getfield 121, 3) := by decide +kernel
theorem dY_put_31 : decode mY_put.2.1 31 = .ok (.bipush 60, 2) := by decide +kernel
theorem dY_put_33 : decode mY_put.2.1 33 = .ok (.iload_n 1, 1) := by decide +kernel
theorem dY_put_34 : decode mY_put.2.1 34 = .ok (.imul, 1) := by decide +kernel
theorem dY_put_35 : decode mY_put.2.1 35 = .ok (.iload_n 2, 1) := by decide +kernel
theorem dY_put_36 : decode mY_put.2.1 36 = .ok (.iadd, 1) := by decide +kernel
theorem dY_put_37 : decode mY_put.2.1 37 = .ok (.iload 6, 2) := by decide +kernel
theorem dY_put_39 : decode mY_put.2.1 39 = .ok (.ifCond .ne 10, 3) := by decide +kernel
theorem dY_put_42 : decode mY_put.2.1 42 = .ok (.lload_n 3, 1) := by decide +kernel
theorem dY_put_43 : decode mY_put.2.1 43 = .ok (.l2i, 1) := by decide +kernel
theorem dY_put_44 : decode mY_put.2.1 44 = .ok (.i2b, 1) := by decide +kernel
theorem dY_put_45 : decode mY_put.2.1 45 = .ok (.i2l, 1) := by decide +kernel
theorem dY_put_46 : decode mY_put.2.1 46 = .ok (.goto 49, 3) := by decide +kernel
theorem dY_put_49 : decode mY_put.2.1 49 = .ok (.iload 6, 2) := by decide +kernel
theorem dY_put_51 : decode mY_put.2.1 51 = .ok (.iconst 1, 1) := by decide +kernel
theorem dY_put_52 : decode mY_put.2.1 52 = .ok (.if_icmp .ne 10, 3) := by decide +kernel
theorem dY_put_55 : decode mY_put.2.1 55 = .ok (.lload_n 3, 1) := by decide +kernel
theorem dY_put_56 : decode mY_put.2.1 56 = .ok (.l2i, 1) := by decide +kernel
theorem dY_put_57 : decode mY_put.2.1 57 = .ok (.i2s, 1) := by decide +kernel
theorem dY_put_58 : decode mY_put.2.1 58 = .ok (.i2l, 1) := by decide +kernel
theorem dY_put_59 : decode mY_put.2.1 59 = .ok (.goto 36, 3) := by decide +kernel
theorem dY_put_62 : decode mY_put.2.1 62 = .ok (.iload 6, 2) := by decide +kernel
theorem dY_put_64 : decode mY_put.2.1 64 = .ok (.iconst 2, 1) := by decide +kernel
theorem dY_put_65 : decode mY_put.2.1 65 = .ok (.if_icmp .ne 9, 3) := by decide +kernel
theorem dY_put_68 : decode mY_put.2.1 68 = .ok (.lload_n 3, 1) := by decide +kernel
theorem dY_put_69 : decode mY_put.2.1 69 = .ok (.l2i, 1) := by decide +kernel
theorem dY_put_70 : decode mY_put.2.1 70 = .ok (.i2l, 1) := by decide +kernel
theorem dY_put_71 : decode mY_put.2.1 71 = .ok (.goto 24, 3) := by decide +kernel
theorem dY_put_74 : decode mY_put.2.1 74 = .ok (.iload 6, 2) := by decide +kernel
theorem dY_put_76 : decode mY_put.2.1 76 = .ok (.iconst 3, 1) := by decide +kernel
theorem dY_put_77 : decode mY_put.2.1 77 = .ok (.if_icmp .ne 7, 3) := by decide +kernel
theorem dY_put_80 : decode mY_put.2.1 80 = .ok (.lload_n 3, 1) := by decide +kernel
theorem dY_put_81 : decode mY_put.2.1 81 = .ok (.goto 14, 3) := by decide +kernel
theorem dY_put_84 : decode mY_put.2.1 84 = .ok (.lload_n 3, 1) := by decide +kernel
theorem dY_put_85 : decode mY_put.2.1 85 = .ok (.lconst 0, 1) := by decide +kernel
theorem dY_put_86 : decode mY_put.2.1 86 = .ok (.lcmp, 1) := by decide +kernel
theorem dY_put_87 : decode mY_put.2.1 87 = .ok (.ifCond .eq 7, 3) := by decide +kernel
theorem dY_put_90 : decode mY_put.2.1 90 = .ok (.lconst 1, 1) := by decide +kernel
theorem dY_put_91 : decode mY_put.2.1 91 = .ok (.goto 4, 3) := by decide +kernel
theorem dY_put_94 : decode mY_put.2.1 94 = .ok (.lconst 0, 1) := by decide +kernel
theorem dY_put_95 : decode mY_put.2.1 95 = .ok (.lastore, 1) := by decide +kernel
theorem dY_put_96 : decode mY_put.2.1 96 = .ok (.iconst 1, 1) := by decide +kernel
theorem dY_put_97 : decode mY_put.2.1 97 = .ok (.ireturn, 1) := by decide +kernel
/- Y_put: (IIJ)I -/
set_option maxRecDepth 4000 in
theorem wY_put {X : Cx} (a1 a2 a3 : Int) (sw : Bool) (m : Mem) (Q : Int → Bool → Mem → Prop) (h : M2 X 3 mY_whyNoPlace [vr 84, vi a1, vi a2] sw m (fun z1 sw1 m1 => ((0 ≤ w32 z1 → ((0 ≤ w32 a1 ∧ w32 a1 < 6) ∧ ((¬ w32 ((-2) - (m1 117 (w32 a1))) = 0 → ((¬ w32 ((-2) - (m1 117 (w32 a1))) = 1 → ((¬ w32 ((-2) - (m1 117 (w32 a1))) = 2 → ((¬ w32 ((-2) - (m1 117 (w32 a1))) = 3 → ((w64 a3 = 0 → ((0 ≤ w32 ((60 * a1) + a2) ∧ w32 ((60 * a1) + a2) < 360) ∧ Q 1 sw1 (upm m1 119 (w32 ((60 * a1) + a2)) 0))) ∧ (¬ (w64 a3 = 0) → ((0 ≤ w32 ((60 * a1) + a2) ∧ w32 ((60 * a1) + a2) < 360) ∧ Q 1 sw1 (upm m1 119 (w32 ((60 * a1) + a2)) 1))))) ∧ (¬ (¬ w32 ((-2) - (m1 117 (w32 a1))) = 3) → ((0 ≤ w32 ((60 * a1) + a2) ∧ w32 ((60 * a1) + a2) < 360) ∧ Q 1 sw1 (upm m1 119 (w32 ((60 * a1) + a2)) a3))))) ∧ (¬ (¬ w32 ((-2) - (m1 117 (w32 a1))) = 2) → ((0 ≤ w32 ((60 * a1) + a2) ∧ w32 ((60 * a1) + a2) < 360) ∧ Q 1 sw1 (upm m1 119 (w32 ((60 * a1) + a2)) (w32 a3)))))) ∧ (¬ (¬ w32 ((-2) - (m1 117 (w32 a1))) = 1) → ((0 ≤ w32 ((60 * a1) + a2) ∧ w32 ((60 * a1) + a2) < 360) ∧ Q 1 sw1 (upm m1 119 (w32 ((60 * a1) + a2)) (w32 (w16 a3))))))) ∧ (¬ (¬ w32 ((-2) - (m1 117 (w32 a1))) = 0) → ((0 ≤ w32 ((60 * a1) + a2) ∧ w32 ((60 * a1) + a2) < 360) ∧ Q 1 sw1 (upm m1 119 (w32 ((60 * a1) + a2)) (w32 (w8 a3)))))))) ∧ (¬ (0 ≤ w32 z1) → Q z1 sw1 m1)))) : M2 X 4 mY_put [vr 84, vi a1, vi a2, vl a3] sw m Q := by
  refine Mt.of pY_put (Nat.le_of_ble_eq_true rfl) (Nat.le_refl _) ?_
  show R2 X 4 mY_put 0 [(0, vr 84), (1, vi a1), (2, vi a2), (3, vl a3)] [] sw m Q
  refine r_aload_n 0 0 rfl dY_put_0 rfl ?_
  refine r_iload_n 1 1 rfl dY_put_1 rfl ?_
  refine r_iload_n 2 2 rfl dY_put_2 rfl ?_
  refine r_callVi 12 [_, _] rfl c84 rfl rfl oY_whyNoPlace iY_whyNoPlace sY_whyNoPlace yY_407 (by decide) ⟨Nat.le_refl _, Nat.le_refl _⟩ rfl (Nat.le_of_ble_eq_true rfl) dY_put_3 h (fun z1 r1 m1 h => ?_)
  obtain ⟨sw1, rfl, h⟩ := h
  refine r_istore 5 (by decide) dY_put_6 ?_
  refine r_iload 5 0 rfl dY_put_8 ?_
  refine r_if_ge (tgt := 16) dY_put_10 (by decide) (fun hc => ?_) (fun hc => ?_)
  · replace h := h.1 hc
    refine r_bipush (by decide) dY_put_16 ?_
    refine r_aload_n 0 1 rfl dY_put_18 rfl ?_
    refine q_getR 51 c84 fY_115 rfl rfl (g84_51 sw1) (by decide) dY_put_19 ?_
    refine r_iload_n 1 2 rfl dY_put_22 rfl ?_
    refine q_iaload (w32 a1) rfl c117 h.1 dY_put_23 ?_
    replace h := h.2
    refine r_isub dY_put_24 ?_
    refine r_istore 6 (by decide) dY_put_25 ?_
    refine r_aload_n 0 2 rfl dY_put_27 rfl ?_
    refine q_getR 53 c84 fY_121 rfl rfl (g84_53 sw1) (by decide) dY_put_28 ?_
    refine r_bipush (by decide) dY_put_31 ?_
    refine r_iload_n 1 3 rfl dY_put_33 rfl ?_
    refine r_imul dY_put_34 ?_
    refine r_iload_n 2 4 rfl dY_put_35 rfl ?_
    refine r_iadd dY_put_36 ?_
    refine r_iload 6 0 rfl dY_put_37 ?_
    refine r_if_ne (tgt := 49) dY_put_39 (by decide) (fun hc => ?_) (fun hc => ?_)
    · replace h := h.1 hc
      refine r_iload 6 0 rfl dY_put_49 ?_
      refine r_iconst dY_put_51 ?_
      refine r_ifc_ne (tgt := 62) dY_put_52 (by decide) (fun hc => ?_) (fun hc => ?_)
      · replace h := h.1 hc
        refine r_iload 6 0 rfl dY_put_62 ?_
        refine r_iconst dY_put_64 ?_
        refine r_ifc_ne (tgt := 74) dY_put_65 (by decide) (fun hc => ?_) (fun hc => ?_)
        · replace h := h.1 hc
          refine r_iload 6 0 rfl dY_put_74 ?_
          refine r_iconst dY_put_76 ?_
          refine r_ifc_ne (tgt := 84) dY_put_77 (by decide) (fun hc => ?_) (fun hc => ?_)
          · replace h := h.1 hc
            refine r_lload_n 3 5 rfl dY_put_84 rfl ?_
            refine r_lconst dY_put_85 ?_
            refine q_lc_eq (tgt := 94) (A := w64 a3) (B := 0) rfl (by decide +kernel) dY_put_86 dY_put_87 (by decide) (fun hc => ?_) (fun hc => ?_)
            · replace h := h.1 hc
              refine r_lconst dY_put_94 ?_
              refine q_lastore (w32 ((60 * a1) + a2)) rfl c119 h.1 dY_put_95 ?_
              replace h := h.2
              refine r_iconst dY_put_96 ?_
              exact q_iret rfl h dY_put_97
            · replace h := h.2 hc
              refine r_lconst dY_put_90 ?_
              refine r_goto (tgt := 95) dY_put_91 (by decide) ?_
              refine q_lastore (w32 ((60 * a1) + a2)) rfl c119 h.1 dY_put_95 ?_
              replace h := h.2
              refine r_iconst dY_put_96 ?_
              exact q_iret rfl h dY_put_97
          · replace h := h.2 hc
            refine r_lload_n 3 5 rfl dY_put_80 rfl ?_
            refine r_goto (tgt := 95) dY_put_81 (by decide) ?_
            refine q_lastore (w32 ((60 * a1) + a2)) rfl c119 h.1 dY_put_95 ?_
            replace h := h.2
            refine r_iconst dY_put_96 ?_
            exact q_iret rfl h dY_put_97
        · replace h := h.2 hc
          refine r_lload_n 3 5 rfl dY_put_68 rfl ?_
          refine r_l2i dY_put_69 ?_
          refine r_i2l dY_put_70 ?_
          refine r_goto (tgt := 95) dY_put_71 (by decide) ?_
          refine q_lastore (w32 ((60 * a1) + a2)) rfl c119 h.1 dY_put_95 ?_
          replace h := h.2
          refine r_iconst dY_put_96 ?_
          exact q_iret rfl h dY_put_97
      · replace h := h.2 hc
        refine r_lload_n 3 5 rfl dY_put_55 rfl ?_
        refine r_l2i dY_put_56 ?_
        refine r_i2s dY_put_57 ?_
        refine r_i2l dY_put_58 ?_
        refine r_goto (tgt := 95) dY_put_59 (by decide) ?_
        refine q_lastore (w32 ((60 * a1) + a2)) rfl c119 h.1 dY_put_95 ?_
        replace h := h.2
        refine r_iconst dY_put_96 ?_
        exact q_iret rfl h dY_put_97
    · replace h := h.2 hc
      refine r_lload_n 3 5 rfl dY_put_42 rfl ?_
      refine r_l2i dY_put_43 ?_
      refine r_i2b dY_put_44 ?_
      refine r_i2l dY_put_45 ?_
      refine r_goto (tgt := 95) dY_put_46 (by decide) ?_
      refine q_lastore (w32 ((60 * a1) + a2)) rfl c119 h.1 dY_put_95 ?_
      replace h := h.2
      refine r_iconst dY_put_96 ?_
      exact q_iret rfl h dY_put_97
  · replace h := h.2 hc
    refine r_iload 5 0 rfl dY_put_13 ?_
    exact q_iret rfl h dY_put_15
theorem dY_element_0 : decode mY_element.2.1 0 = .ok (.aload_n 0, 1) := by decide +kernel
theorem dY_element_1 : decode mY_element.2.1 1 = .ok (.iload_n 1, 1) := by decide +kernel
theorem dY_element_2 : decode mY_element.2.1 2 = .ok (.iload_n 2, 1) := by decide +kernel
theorem dY_element_3 : decode mY_element.2.1 3 = .ok (.invokevirtual 407, 3) := by decide +kernel
theorem dY_element_6 : decode mY_element.2.1 6 = .ok (.ifCond .ge 9, 3) := by decide +kernel
theorem dY_element_9 : decode mY_element.2.1 9 = .ok (.ldc2_w 282, 3) := by decide +kernel
theorem dY_element_12 : decode mY_element.2.1 12 = .ok (.goto 14, 3) := by decide +kernel
theorem dY_element_15 : decode mY_element.2.1 15 = .ok (.aload_n 0, 1) := by decide +kernel
theorem dY_element_16 : decode mY_element.2.1 16 = .ok (.getfield 121, 3) := by decide +kernel
theorem dY_element_19 : decode mY_element.2.1 19 = .ok (.bipush 60, 2) := by decide +kernel
theorem dY_element_21 : decode mY_element.2.1 21 = .ok (.iload_n 1, 1) := by decide +kernel
theorem dY_element_22 : decode mY_element.2.1 22 = .ok (.imul, 1) := by decide +kernel
theorem dY_element_23 : decode mY_element.2.1 23 = .ok (.iload_n 2, 1) := by decide +kernel
theorem dY_element_24 : decode mY_element.2.1 24 = .ok (.iadd, 1) := by decide +kernel
theorem dY_element_25 : decode mY_element.2.1 25 = .ok (.laload, 1) := by decide +kernel
theorem dY_element_26 : decode mY_element.2.1 26 = .ok (.lreturn, 1) := by decide +kernel
/- Y_element: (II)J -/
set_option maxRecDepth 4000 in
theorem wY_element {X : Cx} (a1 a2 : Int) (sw : Bool) (m : Mem) (Q : Int → Bool → Mem → Prop) (h : M2 X 3 mY_whyNoPlace [vr 84, vi a1, vi a2] sw m (fun z1 sw1 m1 => ((0 ≤ w32 z1 → ((0 ≤ w32 ((60 * a1) + a2) ∧ w32 ((60 * a1) + a2) < 360) ∧ Q (m1 119 (w32 ((60 * a1) + a2))) sw1 m1)) ∧ (¬ (0 ≤ w32 z1) → Q (-9223372036854775808) sw1 m1)))) : M2 X 4 mY_element [vr 84, vi a1, vi a2] sw m Q := by
  refine Mt.of pY_element (Nat.le_of_ble_eq_true rfl) (Nat.le_refl _) ?_
  show R2 X 4 mY_element 0 [(0, vr 84), (1, vi a1), (2, vi a2)] [] sw m Q
  refine r_aload_n 0 0 rfl dY_element_0 rfl ?_
  refine r_iload_n 1 1 rfl dY_element_1 rfl ?_
  refine r_iload_n 2 2 rfl dY_element_2 rfl ?_
  refine r_callVi 12 [_, _] rfl c84 rfl rfl oY_whyNoPlace iY_whyNoPlace sY_whyNoPlace yY_407 (by decide) ⟨Nat.le_refl _, Nat.le_refl _⟩ rfl (Nat.le_of_ble_eq_true rfl) dY_element_3 h (fun z1 r1 m1 h => ?_)
  obtain ⟨sw1, rfl, h⟩ := h
  refine r_if_ge (tgt := 15) dY_element_6 (by decide) (fun hc => ?_) (fun hc => ?_)
  · replace h := h.1 hc
    refine r_aload_n 0 0 rfl dY_element_15 rfl ?_
    refine q_getR 53 c84 fY_121 rfl rfl (g84_53 sw1) (by decide) dY_element_16 ?_
    refine r_bipush (by decide) dY_element_19 ?_
    refine r_iload_n 1 1 rfl dY_element_21 rfl ?_
    refine r_imul dY_element_22 ?_
    refine r_iload_n 2 2 rfl dY_element_23 rfl ?_
    refine r_iadd dY_element_24 ?_
    refine q_laload (w32 ((60 * a1) + a2)) rfl c119 h.1 dY_element_25 ?_
    replace h := h.2
    exact q_lret rfl h dY_element_26
  · replace h := h.2 hc
    refine r_ldc2 (z := (-9223372036854775808)) dY_element_9 kY_282 ?_
    refine r_goto (tgt := 26) dY_element_12 (by decide) ?_
    exact q_lret rfl h dY_element_26
theorem dY_shift_0 : decode mY_shift.2.1 0 = .ok (.iload_n 1, 1) := by decide +kernel
theorem dY_shift_1 : decode mY_shift.2.1 1 = .ok (.invokestatic 144, 3) := by decide +kernel
theorem dY_shift_4 : decode mY_shift.2.1 4 = .ok (.ifCond .eq 10, 3) := by decide +kernel
theorem dY_shift_7 : decode mY_shift.2.1 7 = .ok (.iload_n 3, 1) := by decide +kernel
theorem dY_shift_8 : decode mY_shift.2.1 8 = .ok (.invokestatic 144, 3) := by decide +kernel
theorem dY_shift_11 : decode mY_shift.2.1 11 = .ok (.ifCond .ne 5, 3) := by decide +kernel
theorem dY_shift_14 : decode mY_shift.2.1 14 = .ok (.iconst (-1), 1) := by decide +kernel
theorem dY_shift_15 : decode mY_shift.2.1 15 = .ok (.ireturn, 1) := by decide +kernel
theorem dY_shift_16 : decode mY_shift.2.1 16 = .ok (.aload_n 0, 1) := by decide +kernel
theorem dY_shift_17 : decode mY_shift.2.1 17 = .ok (.getfield 115, 3) := by decide +kernel
theorem dY_shift_20 : decode mY_shift.2.1 20 = .ok (.iload_n 1, 1) := by decide +kernel
theorem dY_shift_21 : decode mY_shift.2.1 21 = .ok (.iaload, 1) := by decide +kernel
theorem dY_shift_22 : decode mY_shift.2.1 22 = .ok (.iconst (-1), 1) := by decide +kernel
theorem dY_shift_23 : decode mY_shift.2.1 23 = .ok (.if_icmp .eq 13, 3) := by decide +kernel
theorem dY_shift_26 : decode mY_shift.2.1 26 = .ok (.aload_n 0, 1) := by decide +kernel
theorem dY_shift_27 : decode mY_shift.2.1 27 = .ok (.getfield 115, 3) := by decide +kernel
theorem dY_shift_30 : decode mY_shift.2.1 30 = .ok (.iload_n 3, 1) := by decide +kernel
theorem dY_shift_31 : decode mY_shift.2.1 31 = .ok (.iaload, 1) := by decide +kernel
theorem dY_shift_32 : decode mY_shift.2.1 32 = .ok (.iconst (-1), 1) := by decide +kernel
theorem dY_shift_33 : decode mY_shift.2.1 33 = .ok (.if_icmp .ne 6, 3) := by decide +kernel
theorem dY_shift_36 : decode mY_shift.2.1 36 = .ok (.bipush (-11), 2) := by decide +kernel
theorem dY_shift_38 : decode mY_shift.2.1 38 = .ok (.ireturn, 1) := by decide +kernel
theorem dY_shift_39 : decode mY_shift.2.1 39 = .ok (.aload_n 0, 1) := by decide +kernel
theorem dY_shift_40 : decode mY_shift.2.1 40 = .ok (.getfield 115, 3) := by decide +kernel
theorem dY_shift_43 : decode mY_shift.2.1 43 = .ok (.iload_n 1, 1) := by decide +kernel
theorem dY_shift_44 : decode mY_shift.2.1 44 = .ok (.iaload, 1) := by decide +kernel
theorem dY_shift_45 : decode mY_shift.2.1 45 = .ok (.ifCond .ge 18, 3) := by decide +kernel
theorem dY_shift_48 : decode mY_shift.2.1 48 = .ok (.aload_n 0, 1) := by decide +kernel
theorem dY_shift_49 : decode mY_shift.2.1 49 = .ok (.getfield 115, 3) := by decide +kernel
theorem dY_shift_52 : decode mY_shift.2.1 52 = .ok (.iload_n 1, 1) := by decide +kernel
theorem dY_shift_53 : decode mY_shift.2.1 53 = .ok (.iaload, 1) := by decide +kernel
theorem dY_shift_54 : decode mY_shift.2.1 54 = .ok (.aload_n 0, 1) := by decide +kernel
theorem dY_shift_55 : decode mY_shift.2.1 55 = .ok (.getfield 115, 3) := by decide +kernel
theorem dY_shift_58 : decode mY_shift.2.1 58 = .ok (.iload_n 3, 1) := by decide +kernel
theorem dY_shift_59 : decode mY_shift.2.1 59 = .ok (.iaload, 1) := by decide +kernel
theorem dY_shift_60 : decode mY_shift.2.1 60 = .ok (.if_icmp .eq 6, 3) := by decide +kernel
theorem dY_shift_63 : decode mY_shift.2.1 63 = .ok (.bipush (-12), 2) := by decide +kernel
theorem dY_shift_65 : decode mY_shift.2.1 65 = .ok (.ireturn, 1) := by decide +kernel
theorem dY_shift_66 : decode mY_shift.2.1 66 = .ok (.iload 5, 2) := by decide +kernel
theorem dY_shift_68 : decode mY_shift.2.1 68 = .ok (.ifCond .lt 39, 3) := by decide +kernel
theorem dY_shift_71 : decode mY_shift.2.1 71 = .ok (.iload_n 2, 1) := by decide +kernel
theorem dY_shift_72 : decode mY_shift.2.1 72 = .ok (.ifCond .lt 35, 3) := by decide +kernel
theorem dY_shift_75 : decode mY_shift.2.1 75 = .ok (.iload 4, 2) := by decide +kernel
theorem dY_shift_77 : decode mY_shift.2.1 77 = .ok (.ifCond .lt 30, 3) := by decide +kernel
theorem dY_shift_80 : decode mY_shift.2.1 80 = .ok (.iload_n 2, 1) := by decide +kernel
theorem dY_shift_81 : decode mY_shift.2.1 81 = .ok (.aload_n 0, 1) := by decide +kernel
theorem dY_shift_82 : decode mY_shift.2.1 82 = .ok (.getfield 118, 3) := by decide +kernel
theorem dY_shift_85 : decode mY_shift.2.1 85 = .ok (.iload_n 1, 1) := by decide +kernel
theorem dY_shift_86 : decode mY_shift.2.1 86 = .ok (.iaload, 1) := by decide +kernel
theorem dY_shift_87 : decode mY_shift.2.1 87 = .ok (.iload 5, 2) := by decide +kernel
theorem dY_shift_89 : decode mY_shift.2.1 89 = .ok (.isub, 1) := by decide +kernel
theorem dY_shift_90 : decode mY_shift.2.1 90 = .ok (.if_icmp .gt 17, 3) := by decide +kernel
theorem dY_shift_93 : decode mY_shift.2.1 93 = .ok (.iload 4, 2) := by decide +kernel
theorem dY_shift_95 : decode mY_shift.2.1 95 = .ok (.aload_n 0, 1) := by decide +kernel
theorem dY_shift_96 : decode mY_shift.2.1 96 = .ok (.getfield 118, 3) := by decide +kernel
theorem dY_shift_99 : decode mY_shift.2.1 99 = .ok (.iload_n 3, 1) := by decide +kernel
theorem dY_shift_100 : decode mY_shift.2.1 100 = .ok (.iaload, 1) := by decide +kernel
theorem dY_shift_101 : decode mY_shift.2.1 101 = .ok (.iload 5, 2) := by decide +kernel
theorem dY_shift_103 : decode mY_shift.2.1 103 = .ok (.isub, 1) := by decide +kernel
theorem dY_shift_104 : decode mY_shift.2.1 104 = .ok (.if_icmp .le 6, 3) := by decide +kernel
theorem dY_shift_107 : decode mY_shift.2.1 107 = .ok (.bipush (-13), 2) := by decide +kernel
theorem dY_shift_109 : decode mY_shift.2.1 109 = .ok (.ireturn, 1) := by decide +kernel
theorem dY_shift_110 : decode mY_shift.2.1 110 = .ok (.iconst 0, 1) := by decide +kernel
theorem dY_shift_111 : decode mY_shift.2.1 111 = .ok (.istore 6, 2) := by decide +kernel
theorem dY_shift_113 : decode mY_shift.2.1 113 = .ok (.iload 6, 2) := by decide +kernel
theorem dY_shift_115 : decode mY_shift.2.1 115 = .ok (.iload 5, 2) := by decide +kernel
theorem dY_shift_117 : decode mY_shift.2.1 117 = .ok (.if_icmp .ge 30, 3) := by decide +kernel
theorem dY_shift_120 : decode mY_shift.2.1 120 = .ok (.aload_n 0, 1) := by decide +kernel
theorem dY_shift_121 : decode mY_shift.2.1 121 = .ok (.getfield 124, 3) := by decide +kernel
theorem dY_shift_124 : decode mY_shift.2.1 124 = .ok (.iload 6, 2) := by decide +kernel
theorem dY_shift_126 : decode mY_shift.2.1 126 = .ok (.aload_n 0, 1) := by decide +kernel
theorem dY_shift_127 : decode mY_shift.2.1 127 = .ok (.getfield 121, 3) := by decide +kernel
theorem dY_shift_130 : decode mY_shift.2.1 130 = .ok (.bipush 60, 2) := by decide +kernel
theorem dY_shift_132 : decode mY_shift.2.1 132 = .ok (.iload_n 1, 1) := by decide +kernel
theorem dY_shift_133 : decode mY_shift.2.1 133 = .ok (.imul, 1) := by decide +kernel
theorem dY_shift_134 : decode mY_shift.2.1 134 = .ok (.iload_n 2, 1) := by decide +kernel
theorem dY_shift_135 : decode mY_shift.2.1 135 = .ok (.iadd, 1) := by decide +kernel
theorem dY_shift_136 : decode mY_shift.2.1 136 = .ok (.iload 6, 2) := by decide +kernel
theorem dY_shift_138 : decode mY_shift.2.1 138 = .ok (.iadd, 1) := by decide +kernel
theorem dY_shift_139 : decode mY_shift.2.1 139 = .ok (.laload, 1) := by decide +kernel
theorem dY_shift_140 : decode mY_shift.2.1 140 = .ok (.lastore, 1) := by decide +kernel
theorem dY_shift_141 : decode mY_shift.2.1 141 = .ok (.iinc 6 1, 3) := by decide +kernel
theorem dY_shift_144 : decode mY_shift.2.1 144 = .ok (.goto (-31), 3) := by decide +kernel
theorem dY_shift_147 : decode mY_shift.2.1 147 = .ok (.iconst 0, 1) := by decide +kernel
theorem dY_shift_148 : decode mY_shift.2.1 148 = .ok (.istore 6, 2) := by decide +kernel
theorem dY_shift_150 : decode mY_shift.2.1 150 = .ok (.iload 6, 2) := by decide +kernel
theorem dY_shift_152 : decode mY_shift.2.1 152 = .ok (.iload 5, 2) := by decide +kernel
theorem dY_shift_154 : decode mY_shift.2.1 154 = .ok (.if_icmp .ge 31, 3) := by decide +kernel
theorem dY_shift_157 : decode mY_shift.2.1 157 = .ok (.aload_n 0, 1) := by decide +kernel
theorem dY_shift_158 : decode mY_shift.2.1 158 = .ok (.getfield 121, 3) := by decide +kernel
theorem dY_shift_161 : decode mY_shift.2.1 161 = .ok (.bipush 60, 2) := by decide +kernel
theorem dY_shift_163 : decode mY_shift.2.1 163 = .ok (.iload_n 3, 1) := by decide +kernel
theorem dY_shift_164 : decode mY_shift.2.1 164 = .ok (.imul, 1) := by decide +kernel
theorem dY_shift_165 : decode mY_shift.2.1 165 = .ok (.iload 4, 2) := by decide +kernel
theorem dY_shift_167 : decode mY_shift.2.1 167 = .ok (.iadd, 1) := by decide +kernel
theorem dY_shift_168 : decode mY_shift.2.1 168 = .ok (.iload 6, 2) := by decide +kernel
theorem dY_shift_170 : decode mY_shift.2.1 170 = .ok (.iadd, 1) := by decide +kernel
theorem dY_shift_171 : decode mY_shift.2.1 171 = .ok (.aload_n 0, 1) := by decide +kernel
theorem dY_shift_172 : decode mY_shift.2.1 172 = .ok (.getfield 124, 3) := by decide +kernel
theorem dY_shift_175 : decode mY_shift.2.1 175 = .ok (.iload 6, 2) := by decide +kernel
theorem dY_shift_177 : decode mY_shift.2.1 177 = .ok (.laload, 1) := by decide +kernel
theorem dY_shift_178 : decode mY_shift.2.1 178 = .ok (.lastore, 1) := by decide +kernel
theorem dY_shift_179 : decode mY_shift.2.1 179 = .ok (.iinc 6 1, 3) := by decide +kernel
theorem dY_shift_182 : decode mY_shift.2.1 182 = .ok (.goto (-32), 3) := by decide +kernel
theorem dY_shift_185 : decode mY_shift.2.1 185 = .ok (.iload 5, 2) := by decide +kernel
theorem dY_shift_187 : decode mY_shift.2.1 187 = .ok (.ireturn, 1) := by decide +kernel
/- Y_shift: (IIIII)I -/
set_option maxRecDepth 4000 in
theorem wY_shift {X : Cx} (a1 a2 a3 a4 a5 : Int) (sw : Bool) (m : Mem) (Q : Int → Bool → Mem → Prop) (h : M2 X 2 mY_isShelf [vi a1] sw m (fun z1 sw1 m1 => ((w32 z1 = 0 → Q (-1) sw1 m1) ∧ (¬ (w32 z1 = 0) → M2 X 2 mY_isShelf [vi a3] sw1 m1 (fun z2 sw2 m2 => ((¬ w32 z2 = 0 → ((0 ≤ w32 a1 ∧ w32 a1 < 6) ∧ ((w32 (m2 117 (w32 a1)) = (-1) → Q (-11) sw2 m2) ∧ (¬ (w32 (m2 117 (w32 a1)) = (-1)) → ((0 ≤ w32 a3 ∧ w32 a3 < 6) ∧ ((¬ w32 (m2 117 (w32 a3)) = (-1) → ((0 ≤ w32 a1 ∧ w32 a1 < 6) ∧ ((0 ≤ w32 (m2 117 (w32 a1)) → Q (-12) sw2 m2) ∧ (¬ (0 ≤ w32 (m2 117 (w32 a1))) → ((0 ≤ w32 a1 ∧ w32 a1 < 6) ∧ ((0 ≤ w32 a3 ∧ w32 a3 < 6) ∧ ((w32 (m2 117 (w32 a1)) = w32 (m2 117 (w32 a3)) → ((w32 a5 < 0 → Q (-13) sw2 m2) ∧ (¬ (w32 a5 < 0) → ((w32 a2 < 0 → Q (-13) sw2 m2) ∧ (¬ (w32 a2 < 0) → ((w32 a4 < 0 → Q (-13) sw2 m2) ∧ (¬ (w32 a4 < 0) → ((0 ≤ w32 a1 ∧ w32 a1 < 6) ∧ ((w32 ((m2 118 (w32 a1)) - a5) < w32 a2 → Q (-13) sw2 m2) ∧ (¬ (w32 ((m2 118 (w32 a1)) - a5) < w32 a2) → ((0 ≤ w32 a3 ∧ w32 a3 < 6) ∧ ((w32 a4 ≤ w32 ((m2 118 (w32 a3)) - a5) → R2 X 3 mY_shift 113 [(0, vr 84), (1, vi a1), (2, vi a2), (3, vi a3), (4, vi a4), (5, vi a5), (6, vi 0)] [] sw2 m2 Q) ∧ (¬ (w32 a4 ≤ w32 ((m2 118 (w32 a3)) - a5)) → Q (-13) sw2 m2))))))))))))) ∧ (¬ (w32 (m2 117 (w32 a1)) = w32 (m2 117 (w32 a3))) → Q (-12) sw2 m2)))))))) ∧ (¬ (¬ w32 (m2 117 (w32 a3)) = (-1)) → Q (-11) sw2 m2))))))) ∧ (¬ (¬ w32 z2 = 0) → Q (-1) sw2 m2))))))) : M2 X 3 mY_shift [vr 84, vi a1, vi a2, vi a3, vi a4, vi a5] sw m Q := by
  refine Mt.of pY_shift (Nat.le_of_ble_eq_true rfl) (Nat.le_refl _) ?_
  show R2 X 3 mY_shift 0 [(0, vr 84), (1, vi a1), (2, vi a2), (3, vi a3), (4, vi a4), (5, vi a5)] [] sw m Q
  refine r_iload_n 1 1 rfl dY_shift_0 rfl ?_
  refine r_callSb [_] rfl oY_isShelf iY_isShelf yY_144 (by decide) ⟨Nat.le_refl _, Nat.le_refl _⟩ rfl (Nat.le_of_ble_eq_true rfl) dY_shift_1 h (fun z1 r1 m1 h => ?_)
  obtain ⟨sw1, rfl, h⟩ := h
  refine r_if_eq (tgt := 14) dY_shift_4 (by decide) (fun hc => ?_) (fun hc => ?_)
  · replace h := h.1 hc
    refine r_iconst dY_shift_14 ?_
    exact q_iret rfl h dY_shift_15
  · replace h := h.2 hc
    refine r_iload_n 3 3 rfl dY_shift_7 rfl ?_
    refine r_callSb [_] rfl oY_isShelf iY_isShelf yY_144 (by decide) ⟨Nat.le_refl _, Nat.le_refl _⟩ rfl (Nat.le_of_ble_eq_true rfl) dY_shift_8 h (fun z2 r2 m2 h => ?_)
    obtain ⟨sw2, rfl, h⟩ := h
    refine r_if_ne (tgt := 16) dY_shift_11 (by decide) (fun hc => ?_) (fun hc => ?_)
    · replace h := h.1 hc
      refine r_aload_n 0 0 rfl dY_shift_16 rfl ?_
      refine q_getR 51 c84 fY_115 rfl rfl (g84_51 sw2) (by decide) dY_shift_17 ?_
      refine r_iload_n 1 1 rfl dY_shift_20 rfl ?_
      refine q_iaload (w32 a1) rfl c117 h.1 dY_shift_21 ?_
      replace h := h.2
      refine r_iconst dY_shift_22 ?_
      refine r_ifc_eq (tgt := 36) dY_shift_23 (by decide) (fun hc => ?_) (fun hc => ?_)
      · replace h := h.1 hc
        refine r_bipush (by decide) dY_shift_36 ?_
        exact q_iret rfl h dY_shift_38
      · replace h := h.2 hc
        refine r_aload_n 0 0 rfl dY_shift_26 rfl ?_
        refine q_getR 51 c84 fY_115 rfl rfl (g84_51 sw2) (by decide) dY_shift_27 ?_
        refine r_iload_n 3 3 rfl dY_shift_30 rfl ?_
        refine q_iaload (w32 a3) rfl c117 h.1 dY_shift_31 ?_
        replace h := h.2
        refine r_iconst dY_shift_32 ?_
        refine r_ifc_ne (tgt := 39) dY_shift_33 (by decide) (fun hc => ?_) (fun hc => ?_)
        · replace h := h.1 hc
          refine r_aload_n 0 0 rfl dY_shift_39 rfl ?_
          refine q_getR 51 c84 fY_115 rfl rfl (g84_51 sw2) (by decide) dY_shift_40 ?_
          refine r_iload_n 1 1 rfl dY_shift_43 rfl ?_
          refine q_iaload (w32 a1) rfl c117 h.1 dY_shift_44 ?_
          replace h := h.2
          refine r_if_ge (tgt := 63) dY_shift_45 (by decide) (fun hc => ?_) (fun hc => ?_)
          · replace h := h.1 hc
            refine r_bipush (by decide) dY_shift_63 ?_
            exact q_iret rfl h dY_shift_65
          · replace h := h.2 hc
            refine r_aload_n 0 0 rfl dY_shift_48 rfl ?_
            refine q_getR 51 c84 fY_115 rfl rfl (g84_51 sw2) (by decide) dY_shift_49 ?_
            refine r_iload_n 1 1 rfl dY_shift_52 rfl ?_
            refine q_iaload (w32 a1) rfl c117 h.1 dY_shift_53 ?_
            replace h := h.2
            refine r_aload_n 0 0 rfl dY_shift_54 rfl ?_
            refine q_getR 51 c84 fY_115 rfl rfl (g84_51 sw2) (by decide) dY_shift_55 ?_
            refine r_iload_n 3 3 rfl dY_shift_58 rfl ?_
            refine q_iaload (w32 a3) rfl c117 h.1 dY_shift_59 ?_
            replace h := h.2
            refine r_ifc_eq (tgt := 66) dY_shift_60 (by decide) (fun hc => ?_) (fun hc => ?_)
            · replace h := h.1 hc
              refine r_iload 5 5 rfl dY_shift_66 ?_
              refine r_if_lt (tgt := 107) dY_shift_68 (by decide) (fun hc => ?_) (fun hc => ?_)
              · replace h := h.1 hc
                refine r_bipush (by decide) dY_shift_107 ?_
                exact q_iret rfl h dY_shift_109
              · replace h := h.2 hc
                refine r_iload_n 2 2 rfl dY_shift_71 rfl ?_
                refine r_if_lt (tgt := 107) dY_shift_72 (by decide) (fun hc => ?_) (fun hc => ?_)
                · replace h := h.1 hc
                  refine r_bipush (by decide) dY_shift_107 ?_
                  exact q_iret rfl h dY_shift_109
                · replace h := h.2 hc
                  refine r_iload 4 4 rfl dY_shift_75 ?_
                  refine r_if_lt (tgt := 107) dY_shift_77 (by decide) (fun hc => ?_) (fun hc => ?_)
                  · replace h := h.1 hc
                    refine r_bipush (by decide) dY_shift_107 ?_
                    exact q_iret rfl h dY_shift_109
                  · replace h := h.2 hc
                    refine r_iload_n 2 2 rfl dY_shift_80 rfl ?_
                    refine r_aload_n 0 0 rfl dY_shift_81 rfl ?_
                    refine q_getR 52 c84 fY_118 rfl rfl (g84_52 sw2) (by decide) dY_shift_82 ?_
                    refine r_iload_n 1 1 rfl dY_shift_85 rfl ?_
                    refine q_iaload (w32 a1) rfl c118 h.1 dY_shift_86 ?_
                    replace h := h.2
                    refine r_iload 5 5 rfl dY_shift_87 ?_
                    refine r_isub dY_shift_89 ?_
                    refine r_ifc_gt (tgt := 107) dY_shift_90 (by decide) (fun hc => ?_) (fun hc => ?_)
                    · replace h := h.1 hc
                      refine r_bipush (by decide) dY_shift_107 ?_
                      exact q_iret rfl h dY_shift_109
                    · replace h := h.2 hc
                      refine r_iload 4 4 rfl dY_shift_93 ?_
                      refine r_aload_n 0 0 rfl dY_shift_95 rfl ?_
                      refine q_getR 52 c84 fY_118 rfl rfl (g84_52 sw2) (by decide) dY_shift_96 ?_
                      refine r_iload_n 3 3 rfl dY_shift_99 rfl ?_
                      refine q_iaload (w32 a3) rfl c118 h.1 dY_shift_100 ?_
                      replace h := h.2
                      refine r_iload 5 5 rfl dY_shift_101 ?_
                      refine r_isub dY_shift_103 ?_
                      refine r_ifc_le (tgt := 110) dY_shift_104 (by decide) (fun hc => ?_) (fun hc => ?_)
                      · replace h := h.1 hc
                        refine r_iconst dY_shift_110 ?_
                        refine r_istore 6 (by decide) dY_shift_111 ?_
                        refine r_sub [1, 2, 3, 4, 5, 6, 0] ?_ h
                        rfl
                      · replace h := h.2 hc
                        refine r_bipush (by decide) dY_shift_107 ?_
                        exact q_iret rfl h dY_shift_109
            · replace h := h.2 hc
              refine r_bipush (by decide) dY_shift_63 ?_
              exact q_iret rfl h dY_shift_65
        · replace h := h.2 hc
          refine r_bipush (by decide) dY_shift_36 ?_
          exact q_iret rfl h dY_shift_38
    · replace h := h.2 hc
      refine r_iconst dY_shift_14 ?_
      exact q_iret rfl h dY_shift_15
set_option maxRecDepth 4000 in
theorem wY_shift_113 {X : Cx} (x1 x2 x3 x4 x5 x6 : Int) (sw : Bool) (m : Mem) (Q : Int → Bool → Mem → Prop) (h : ((w32 x5 ≤ w32 x6 → R2 X 3 mY_shift 150 [(0, vr 84), (3, vi x3), (4, vi x4), (5, vi x5), (6, vi 0)] [] sw m Q) ∧ (¬ (w32 x5 ≤ w32 x6) → ((0 ≤ w32 (((60 * x1) + x2) + x6) ∧ w32 (((60 * x1) + x2) + x6) < 360) ∧ ((0 ≤ w32 x6 ∧ w32 x6 < 60) ∧ R2 X 3 mY_shift 113 [(0, vr 84), (1, vi x1), (2, vi x2), (3, vi x3), (4, vi x4), (5, vi x5), (6, vi (x6 + 1))] [] sw (upm m 120 (w32 x6) (m 119 (w32 (((60 * x1) + x2) + x6)))) Q))))) : R2 X 3 mY_shift 113 [(0, vr 84), (1, vi x1), (2, vi x2), (3, vi x3), (4, vi x4), (5, vi x5), (6, vi x6)] [] sw m Q := by
  refine r_iload 6 6 rfl dY_shift_113 ?_
  refine r_iload 5 5 rfl dY_shift_115 ?_
  refine r_ifc_ge (tgt := 147) dY_shift_117 (by decide) (fun hc => ?_) (fun hc => ?_)
  · replace h := h.1 hc
    refine r_iconst dY_shift_147 ?_
    refine r_istore 6 (by decide) dY_shift_148 ?_
    refine r_sub [1, 4, 5, 6, 0] ?_ h
    rfl
  · replace h := h.2 hc
    refine r_aload_n 0 0 rfl dY_shift_120 rfl ?_
    refine q_getR 54 c84 fY_124 rfl rfl (g84_54 sw) (by decide) dY_shift_121 ?_
    refine r_iload 6 6 rfl dY_shift_124 ?_
    refine r_aload_n 0 0 rfl dY_shift_126 rfl ?_
    refine q_getR 53 c84 fY_121 rfl rfl (g84_53 sw) (by decide) dY_shift_127 ?_
    refine r_bipush (by decide) dY_shift_130 ?_
    refine r_iload_n 1 1 rfl dY_shift_132 rfl ?_
    refine r_imul dY_shift_133 ?_
    refine r_iload_n 2 2 rfl dY_shift_134 rfl ?_
    refine r_iadd dY_shift_135 ?_
    refine r_iload 6 6 rfl dY_shift_136 ?_
    refine r_iadd dY_shift_138 ?_
    refine q_laload (w32 (((60 * x1) + x2) + x6)) rfl c119 h.1 dY_shift_139 ?_
    replace h := h.2
    refine q_lastore (w32 x6) rfl c120 h.1 dY_shift_140 ?_
    replace h := h.2
    refine r_iinc 6 6 rfl (by decide) dY_shift_141 ?_
    refine r_goto (tgt := 113) dY_shift_144 (by decide) ?_
    refine r_sub [1, 2, 3, 4, 5, 6, 0] ?_ h
    rfl
set_option maxRecDepth 4000 in
theorem wY_shift_150 {X : Cx} (x3 x4 x5 x6 : Int) (sw : Bool) (m : Mem) (Q : Int → Bool → Mem → Prop) (h : ((w32 x5 ≤ w32 x6 → Q x5 sw m) ∧ (¬ (w32 x5 ≤ w32 x6) → ((0 ≤ w32 x6 ∧ w32 x6 < 60) ∧ ((0 ≤ w32 (((60 * x3) + x4) + x6) ∧ w32 (((60 * x3) + x4) + x6) < 360) ∧ R2 X 3 mY_shift 150 [(0, vr 84), (3, vi x3), (4, vi x4), (5, vi x5), (6, vi (x6 + 1))] [] sw (upm m 119 (w32 (((60 * x3) + x4) + x6)) (m 120 (w32 x6))) Q))))) : R2 X 3 mY_shift 150 [(0, vr 84), (3, vi x3), (4, vi x4), (5, vi x5), (6, vi x6)] [] sw m Q := by
  refine r_iload 6 4 rfl dY_shift_150 ?_
  refine r_iload 5 3 rfl dY_shift_152 ?_
  refine r_ifc_ge (tgt := 185) dY_shift_154 (by decide) (fun hc => ?_) (fun hc => ?_)
  · replace h := h.1 hc
    refine r_iload 5 3 rfl dY_shift_185 ?_
    exact q_iret rfl h dY_shift_187
  · replace h := h.2 hc
    refine r_aload_n 0 0 rfl dY_shift_157 rfl ?_
    refine q_getR 53 c84 fY_121 rfl rfl (g84_53 sw) (by decide) dY_shift_158 ?_
    refine r_bipush (by decide) dY_shift_161 ?_
    refine r_iload_n 3 1 rfl dY_shift_163 rfl ?_
    refine r_imul dY_shift_164 ?_
    refine r_iload 4 2 rfl dY_shift_165 ?_
    refine r_iadd dY_shift_167 ?_
    refine r_iload 6 4 rfl dY_shift_168 ?_
    refine r_iadd dY_shift_170 ?_
    refine r_aload_n 0 0 rfl dY_shift_171 rfl ?_
    refine q_getR 54 c84 fY_124 rfl rfl (g84_54 sw) (by decide) dY_shift_172 ?_
    refine r_iload 6 4 rfl dY_shift_175 ?_
    refine q_laload (w32 x6) rfl c120 h.1 dY_shift_177 ?_
    replace h := h.2
    refine q_lastore (w32 (((60 * x3) + x4) + x6)) rfl c119 h.1 dY_shift_178 ?_
    replace h := h.2
    refine r_iinc 6 4 rfl (by decide) dY_shift_179 ?_
    refine r_goto (tgt := 150) dY_shift_182 (by decide) ?_
    refine r_sub [1, 2, 3, 4, 0] ?_ h
    rfl
theorem dY_taken_0 : decode mY_taken.2.1 0 = .ok (.iload_n 1, 1) := by decide +kernel
theorem dY_taken_1 : decode mY_taken.2.1 1 = .ok (.invokestatic 144, 3) := by decide +kernel
theorem dY_taken_4 : decode mY_taken.2.1 4 = .ok (.ifCond .eq 13, 3) := by decide +kernel
theorem dY_taken_7 : decode mY_taken.2.1 7 = .ok (.iload_n 2, 1) := by decide +kernel
theorem dY_taken_8 : decode mY_taken.2.1 8 = .ok (.iconst 0, 1) := by decide +kernel
theorem dY_taken_9 : decode mY_taken.2.1 9 = .ok (.bipush 7, 2) := by decide +kernel
theorem dY_taken_11 : decode mY_taken.2.1 11 = .ok (.invokestatic 133, 3) := by decide +kernel
theorem dY_taken_14 : decode mY_taken.2.1 14 = .ok (.ifCond .ne 5, 3) := by decide +kernel
theorem dY_taken_17 : decode mY_taken.2.1 17 = .ok (.iconst (-1), 1) := by decide +kernel
theorem dY_taken_18 : decode mY_taken.2.1 18 = .ok (.ireturn, 1) := by decide +kernel
theorem dY_taken_19 : decode mY_taken.2.1 19 = .ok (.aload_n 0, 1) := by decide +kernel
theorem dY_taken_20 : decode mY_taken.2.1 20 = .ok (.getfield 115, 3) := by decide +kernel
theorem dY_taken_23 : decode mY_taken.2.1 23 = .ok (.iload_n 1, 1) := by decide +kernel
theorem dY_taken_24 : decode mY_taken.2.1 24 = .ok (.iaload, 1) := by decide +kernel
theorem dY_taken_25 : decode mY_taken.2.1 25 = .ok (.iconst (-1), 1) := by decide +kernel
theorem dY_taken_26 : decode mY_taken.2.1 26 = .ok (.if_icmp .ne 6, 3) := by decide +kernel
theorem dY_taken_29 : decode mY_taken.2.1 29 = .ok (.bipush (-11), 2) := by decide +kernel
theorem dY_taken_31 : decode mY_taken.2.1 31 = .ok (.ireturn, 1) := by decide +kernel
theorem dY_taken_32 : decode mY_taken.2.1 32 = .ok (.aload_n 0, 1) := by decide +kernel
theorem dY_taken_33 : decode mY_taken.2.1 33 = .ok (.getfield 115, 3) := by decide +kernel
theorem dY_taken_36 : decode mY_taken.2.1 36 = .ok (.iload_n 1, 1) := by decide +kernel
theorem dY_taken_37 : decode mY_taken.2.1 37 = .ok (.iaload, 1) := by decide +kernel
theorem dY_taken_38 : decode mY_taken.2.1 38 = .ok (.ifCond .lt 35, 3) := by decide +kernel
theorem dY_taken_41 : decode mY_taken.2.1 41 = .ok (.aload_n 0, 1) := by decide +kernel
theorem dY_taken_42 : decode mY_taken.2.1 42 = .ok (.getfield 109, 3) := by decide +kernel
theorem dY_taken_45 : decode mY_taken.2.1 45 = .ok (.aload_n 0, 1) := by decide +kernel
theorem dY_taken_46 : decode mY_taken.2.1 46 = .ok (.getfield 115, 3) := by decide +kernel
theorem dY_taken_49 : decode mY_taken.2.1 49 = .ok (.iload_n 1, 1) := by decide +kernel
theorem dY_taken_50 : decode mY_taken.2.1 50 = .ok (.iaload, 1) := by decide +kernel
theorem dY_taken_51 : decode mY_taken.2.1 51 = .ok (.iaload, 1) := by decide +kernel
theorem dY_taken_52 : decode mY_taken.2.1 52 = .ok (.iload_n 2, 1) := by decide +kernel
theorem dY_taken_53 : decode mY_taken.2.1 53 = .ok (.invokestatic 371, 3) := by decide +kernel
theorem dY_taken_56 : decode mY_taken.2.1 56 = .ok (.ifCond .eq 17, 3) := by decide +kernel
theorem dY_taken_59 : decode mY_taken.2.1 59 = .ok (.aload_n 0, 1) := by decide +kernel
theorem dY_taken_60 : decode mY_taken.2.1 60 = .ok (.getfield 109, 3) := by decide +kernel
theorem dY_taken_63 : decode mY_taken.2.1 63 = .ok (.aload_n 0, 1) := by decide +kernel
theorem dY_taken_64 : decode mY_taken.2.1 64 = .ok (.getfield 115, 3) := by decide +kernel
theorem dY_taken_67 : decode mY_taken.2.1 67 = .ok (.iload_n 1, 1) := by decide +kernel
theorem dY_taken_68 : decode mY_taken.2.1 68 = .ok (.iaload, 1) := by decide +kernel
theorem dY_taken_69 : decode mY_taken.2.1 69 = .ok (.iaload, 1) := by decide +kernel
theorem dY_taken_70 : decode mY_taken.2.1 70 = .ok (.goto 5, 3) := by decide +kernel
theorem dY_taken_73 : decode mY_taken.2.1 73 = .ok (.bipush (-12), 2) := by decide +kernel
theorem dY_taken_75 : decode mY_taken.2.1 75 = .ok (.ireturn, 1) := by decide +kernel
/- Y_taken: (II)I -/
set_option maxRecDepth 4000 in
theorem wY_taken {X : Cx} (a1 a2 : Int) (sw : Bool) (m : Mem) (Q : Int → Bool → Mem → Prop) (h : M2 X 2 mY_isShelf [vi a1] sw m (fun z1 sw1 m1 => ((w32 z1 = 0 → Q (-1) sw1 m1) ∧ (¬ (w32 z1 = 0) → M2 X 1 mY_in [vi a2, vi 0, vi 7] sw1 m1 (fun z2 sw2 m2 => ((¬ w32 z2 = 0 → ((0 ≤ w32 a1 ∧ w32 a1 < 6) ∧ ((¬ w32 (m2 117 (w32 a1)) = (-1) → ((0 ≤ w32 a1 ∧ w32 a1 < 6) ∧ ((w32 (m2 117 (w32 a1)) < 0 → Q (-12) sw2 m2) ∧ (¬ (w32 (m2 117 (w32 a1)) < 0) → ((0 ≤ w32 a1 ∧ w32 a1 < 6) ∧ ((0 ≤ w32 (m2 117 (w32 a1)) ∧ w32 (m2 117 (w32 a1)) < 50) ∧ M2 X 1 mY_isUnder [vi (m2 115 (w32 (m2 117 (w32 a1)))), vi a2] sw2 m2 (fun z3 sw3 m3 => ((w32 z3 = 0 → Q (-12) sw3 m3) ∧ (¬ (w32 z3 = 0) → ((0 ≤ w32 a1 ∧ w32 a1 < 6) ∧ ((0 ≤ w32 (m3 117 (w32 a1)) ∧ w32 (m3 117 (w32 a1)) < 50) ∧ Q (m3 115 (w32 (m3 117 (w32 a1)))) sw3 m3))))))))))) ∧ (¬ (¬ w32 (m2 117 (w32 a1)) = (-1)) → Q (-11) sw2 m2)))) ∧ (¬ (¬ w32 z2 = 0) → Q (-1) sw2 m2))))))) : M2 X 3 mY_taken [vr 84, vi a1, vi a2] sw m Q := by
  refine Mt.of pY_taken (Nat.le_of_ble_eq_true rfl) (Nat.le_refl _) ?_
  show R2 X 3 mY_taken 0 [(0, vr 84), (1, vi a1), (2, vi a2)] [] sw m Q
  refine r_iload_n 1 1 rfl dY_taken_0 rfl ?_
  refine r_callSb [_] rfl oY_isShelf iY_isShelf yY_144 (by decide) ⟨Nat.le_refl _, Nat.le_refl _⟩ rfl (Nat.le_of_ble_eq_true rfl) dY_taken_1 h (fun z1 r1 m1 h => ?_)
  obtain ⟨sw1, rfl, h⟩ := h
  refine r_if_eq (tgt := 17) dY_taken_4 (by decide) (fun hc => ?_) (fun hc => ?_)
  · replace h := h.1 hc
    refine r_iconst dY_taken_17 ?_
    exact q_iret rfl h dY_taken_18
  · replace h := h.2 hc
    refine r_iload_n 2 2 rfl dY_taken_7 rfl ?_
    refine r_iconst dY_taken_8 ?_
    refine r_bipush (by decide) dY_taken_9 ?_
    refine r_callSb [_, _, _] rfl oY_in iY_in yY_133 (by decide) ⟨Nat.le_refl _, Nat.le_refl _⟩ rfl (Nat.le_of_ble_eq_true rfl) dY_taken_11 h (fun z2 r2 m2 h => ?_)
    obtain ⟨sw2, rfl, h⟩ := h
    refine r_if_ne (tgt := 19) dY_taken_14 (by decide) (fun hc => ?_) (fun hc => ?_)
    · replace h := h.1 hc
      refine r_aload_n 0 0 rfl dY_taken_19 rfl ?_
      refine q_getR 51 c84 fY_115 rfl rfl (g84_51 sw2) (by decide) dY_taken_20 ?_
      refine r_iload_n 1 1 rfl dY_taken_23 rfl ?_
      refine q_iaload (w32 a1) rfl c117 h.1 dY_taken_24 ?_
      replace h := h.2
      refine r_iconst dY_taken_25 ?_
      refine r_ifc_ne (tgt := 32) dY_taken_26 (by decide) (fun hc => ?_) (fun hc => ?_)
      · replace h := h.1 hc
        refine r_aload_n 0 0 rfl dY_taken_32 rfl ?_
        refine q_getR 51 c84 fY_115 rfl rfl (g84_51 sw2) (by decide) dY_taken_33 ?_
        refine r_iload_n 1 1 rfl dY_taken_36 rfl ?_
        refine q_iaload (w32 a1) rfl c117 h.1 dY_taken_37 ?_
        replace h := h.2
        refine r_if_lt (tgt := 73) dY_taken_38 (by decide) (fun hc => ?_) (fun hc => ?_)
        · replace h := h.1 hc
          refine r_bipush (by decide) dY_taken_73 ?_
          exact q_iret rfl h dY_taken_75
        · replace h := h.2 hc
          refine r_aload_n 0 0 rfl dY_taken_41 rfl ?_
          refine q_getR 48 c84 fY_109 rfl rfl (g84_48 sw2) (by decide) dY_taken_42 ?_
          refine r_aload_n 0 0 rfl dY_taken_45 rfl ?_
          refine q_getR 51 c84 fY_115 rfl rfl (g84_51 sw2) (by decide) dY_taken_46 ?_
          refine r_iload_n 1 1 rfl dY_taken_49 rfl ?_
          refine q_iaload (w32 a1) rfl c117 h.1 dY_taken_50 ?_
          replace h := h.2
          refine q_iaload (w32 (m2 117 (w32 a1))) rfl c115 h.1 dY_taken_51 ?_
          replace h := h.2
          refine r_iload_n 2 2 rfl dY_taken_52 rfl ?_
          refine r_callSb [_, _] rfl oY_isUnder iY_isUnder yY_371 (by decide) ⟨Nat.le_refl _, Nat.le_refl _⟩ rfl (Nat.le_of_ble_eq_true rfl) dY_taken_53 h (fun z3 r3 m3 h => ?_)
          obtain ⟨sw3, rfl, h⟩ := h
          refine r_if_eq (tgt := 73) dY_taken_56 (by decide) (fun hc => ?_) (fun hc => ?_)
          · replace h := h.1 hc
            refine r_bipush (by decide) dY_taken_73 ?_
            exact q_iret rfl h dY_taken_75
          · replace h := h.2 hc
            refine r_aload_n 0 0 rfl dY_taken_59 rfl ?_
            refine q_getR 48 c84 fY_109 rfl rfl (g84_48 sw3) (by decide) dY_taken_60 ?_
            refine r_aload_n 0 0 rfl dY_taken_63 rfl ?_
            refine q_getR 51 c84 fY_115 rfl rfl (g84_51 sw3) (by decide) dY_taken_64 ?_
            refine r_iload_n 1 1 rfl dY_taken_67 rfl ?_
            refine q_iaload (w32 a1) rfl c117 h.1 dY_taken_68 ?_
            replace h := h.2
            refine q_iaload (w32 (m3 117 (w32 a1))) rfl c115 h.1 dY_taken_69 ?_
            replace h := h.2
            refine r_goto (tgt := 75) dY_taken_70 (by decide) ?_
            exact q_iret rfl h dY_taken_75
      · replace h := h.2 hc
        refine r_bipush (by decide) dY_taken_29 ?_
        exact q_iret rfl h dY_taken_31
    · replace h := h.2 hc
      refine r_iconst dY_taken_17 ?_
      exact q_iret rfl h dY_taken_18
