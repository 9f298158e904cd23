theorem dN_bestWay_0 : decode mN_bestWay.2.1 0 = .ok (.aload_n 0, 1) := by decide +kernel
theorem dN_bestWay_1 : decode mN_bestWay.2.1 1 = .ok (.aload_n 0, 1) := by decide +kernel
theorem dN_bestWay_2 : decode mN_bestWay.2.1 2 = .ok (.getfield 31, 3) := by decide +kernel
theorem dN_bestWay_5 : decode mN_bestWay.2.1 5 = .ok (.getfield 43, 3) := by decide +kernel
theorem dN_bestWay_8 : decode mN_bestWay.2.1 8 = .ok (.iconst 1, 1) := by decide +kernel
theorem dN_bestWay_9 : decode mN_bestWay.2.1 9 = .ok (.iadd, 1) := by decide +kernel
theorem dN_bestWay_10 : decode mN_bestWay.2.1 10 = .ok (.putfield 27, 3) := by decide +kernel
theorem dN_bestWay_13 : decode mN_bestWay.2.1 13 = .ok (.aload_n 0, 1) := by decide +kernel
theorem dN_bestWay_14 : decode mN_bestWay.2.1 14 = .ok (.invokevirtual 48, 3) := by decide +kernel
theorem dN_bestWay_17 : decode mN_bestWay.2.1 17 = .ok (.iconst 1, 1) := by decide +kernel
theorem dN_bestWay_18 : decode mN_bestWay.2.1 18 = .ok (.istore_n 2, 1) := by decide +kernel
theorem dN_bestWay_19 : decode mN_bestWay.2.1 19 = .ok (.iconst 0, 1) := by decide +kernel
theorem dN_bestWay_20 : decode mN_bestWay.2.1 20 = .ok (.istore_n 3, 1) := by decide +kernel
theorem dN_bestWay_21 : decode mN_bestWay.2.1 21 = .ok (.iload_n 3, 1) := by decide +kernel
theorem dN_bestWay_22 : decode mN_bestWay.2.1 22 = .ok (.iload_n 1, 1) := by decide +kernel
theorem dN_bestWay_23 : decode mN_bestWay.2.1 23 = .ok (.if_icmp .ge 75, 3) := by decide +kernel
theorem dN_bestWay_26 : decode mN_bestWay.2.1 26 = .ok (.iload_n 2, 1) := by decide +kernel
theorem dN_bestWay_27 : decode mN_bestWay.2.1 27 = .ok (.aload_n 0, 1) := by decide +kernel
theorem dN_bestWay_28 : decode mN_bestWay.2.1 28 = .ok (.getfield 27, 3) := by decide +kernel
theorem dN_bestWay_31 : decode mN_bestWay.2.1 31 = .ok (.imul, 1) := by decide +kernel
theorem dN_bestWay_32 : decode mN_bestWay.2.1 32 = .ok (.istore_n 2, 1) := by decide +kernel
theorem dN_bestWay_33 : decode mN_bestWay.2.1 33 = .ok (.iconst 0, 1) := by decide +kernel
theorem dN_bestWay_34 : decode mN_bestWay.2.1 34 = .ok (.istore 4, 2) := by decide +kernel
theorem dN_bestWay_36 : decode mN_bestWay.2.1 36 = .ok (.iload 4, 2) := by decide +kernel
theorem dN_bestWay_38 : decode mN_bestWay.2.1 38 = .ok (.iload_n 2, 1) := by decide +kernel
theorem dN_bestWay_39 : decode mN_bestWay.2.1 39 = .ok (.if_icmp .ge 53, 3) := by decide +kernel
theorem dN_bestWay_42 : decode mN_bestWay.2.1 42 = .ok (.iload_n 3, 1) := by decide +kernel
theorem dN_bestWay_43 : decode mN_bestWay.2.1 43 = .ok (.ifCond .ne 7, 3) := by decide +kernel
theorem dN_bestWay_46 : decode mN_bestWay.2.1 46 = .ok (.iconst 0, 1) := by decide +kernel
theorem dN_bestWay_47 : decode mN_bestWay.2.1 47 = .ok (.goto 18, 3) := by decide +kernel
theorem dN_bestWay_50 : decode mN_bestWay.2.1 50 = .ok (.aload_n 0, 1) := by decide +kernel
theorem dN_bestWay_51 : decode mN_bestWay.2.1 51 = .ok (.getfield 13, 3) := by decide +kernel
theorem dN_bestWay_54 : decode mN_bestWay.2.1 54 = .ok (.iload_n 3, 1) := by decide +kernel
theorem dN_bestWay_55 : decode mN_bestWay.2.1 55 = .ok (.iconst 1, 1) := by decide +kernel
theorem dN_bestWay_56 : decode mN_bestWay.2.1 56 = .ok (.isub, 1) := by decide +kernel
theorem dN_bestWay_57 : decode mN_bestWay.2.1 57 = .ok (.aaload, 1) := by decide +kernel
theorem dN_bestWay_58 : decode mN_bestWay.2.1 58 = .ok (.aload_n 0, 1) := by decide +kernel
theorem dN_bestWay_59 : decode mN_bestWay.2.1 59 = .ok (.iload 4, 2) := by decide +kernel
theorem dN_bestWay_61 : decode mN_bestWay.2.1 61 = .ok (.invokevirtual 51, 3) := by decide +kernel
theorem dN_bestWay_64 : decode mN_bestWay.2.1 64 = .ok (.iaload, 1) := by decide +kernel
theorem dN_bestWay_65 : decode mN_bestWay.2.1 65 = .ok (.istore 5, 2) := by decide +kernel
theorem dN_bestWay_67 : decode mN_bestWay.2.1 67 = .ok (.aload_n 0, 1) := by decide +kernel
theorem dN_bestWay_68 : decode mN_bestWay.2.1 68 = .ok (.getfield 13, 3) := by decide +kernel
theorem dN_bestWay_71 : decode mN_bestWay.2.1 71 = .ok (.iload_n 3, 1) := by decide +kernel
theorem dN_bestWay_72 : decode mN_bestWay.2.1 72 = .ok (.aaload, 1) := by decide +kernel
theorem dN_bestWay_73 : decode mN_bestWay.2.1 73 = .ok (.iload 4, 2) := by decide +kernel
theorem dN_bestWay_75 : decode mN_bestWay.2.1 75 = .ok (.iload 5, 2) := by decide +kernel
theorem dN_bestWay_77 : decode mN_bestWay.2.1 77 = .ok (.aload_n 0, 1) := by decide +kernel
theorem dN_bestWay_78 : decode mN_bestWay.2.1 78 = .ok (.iload_n 3, 1) := by decide +kernel
theorem dN_bestWay_79 : decode mN_bestWay.2.1 79 = .ok (.iload 4, 2) := by decide +kernel
theorem dN_bestWay_81 : decode mN_bestWay.2.1 81 = .ok (.invokevirtual 55, 3) := by decide +kernel
theorem dN_bestWay_84 : decode mN_bestWay.2.1 84 = .ok (.iadd, 1) := by decide +kernel
theorem dN_bestWay_85 : decode mN_bestWay.2.1 85 = .ok (.iastore, 1) := by decide +kernel
theorem dN_bestWay_86 : decode mN_bestWay.2.1 86 = .ok (.iinc 4 1, 3) := by decide +kernel
theorem dN_bestWay_89 : decode mN_bestWay.2.1 89 = .ok (.goto (-53), 3) := by decide +kernel
theorem dN_bestWay_92 : decode mN_bestWay.2.1 92 = .ok (.iinc 3 1, 3) := by decide +kernel
theorem dN_bestWay_95 : decode mN_bestWay.2.1 95 = .ok (.goto (-74), 3) := by decide +kernel
theorem dN_bestWay_98 : decode mN_bestWay.2.1 98 = .ok (.iconst 0, 1) := by decide +kernel
theorem dN_bestWay_99 : decode mN_bestWay.2.1 99 = .ok (.istore_n 3, 1) := by decide +kernel
theorem dN_bestWay_100 : decode mN_bestWay.2.1 100 = .ok (.iconst 1, 1) := by decide +kernel
theorem dN_bestWay_101 : decode mN_bestWay.2.1 101 = .ok (.istore 4, 2) := by decide +kernel
theorem dN_bestWay_103 : decode mN_bestWay.2.1 103 = .ok (.iload 4, 2) := by decide +kernel
theorem dN_bestWay_105 : decode mN_bestWay.2.1 105 = .ok (.iload_n 2, 1) := by decide +kernel
theorem dN_bestWay_106 : decode mN_bestWay.2.1 106 = .ok (.if_icmp .ge 36, 3) := by decide +kernel
theorem dN_bestWay_109 : decode mN_bestWay.2.1 109 = .ok (.aload_n 0, 1) := by decide +kernel
theorem dN_bestWay_110 : decode mN_bestWay.2.1 110 = .ok (.getfield 13, 3) := by decide +kernel
theorem dN_bestWay_113 : decode mN_bestWay.2.1 113 = .ok (.iload_n 1, 1) := by decide +kernel
theorem dN_bestWay_114 : decode mN_bestWay.2.1 114 = .ok (.iconst 1, 1) := by decide +kernel
theorem dN_bestWay_115 : decode mN_bestWay.2.1 115 = .ok (.isub, 1) := by decide +kernel
theorem dN_bestWay_116 : decode mN_bestWay.2.1 116 = .ok (.aaload, 1) := by decide +kernel
theorem dN_bestWay_117 : decode mN_bestWay.2.1 117 = .ok (.iload 4, 2) := by decide +kernel
theorem dN_bestWay_119 : decode mN_bestWay.2.1 119 = .ok (.iaload, 1) := by decide +kernel
theorem dN_bestWay_120 : decode mN_bestWay.2.1 120 = .ok (.aload_n 0, 1) := by decide +kernel
theorem dN_bestWay_121 : decode mN_bestWay.2.1 121 = .ok (.getfield 13, 3) := by decide +kernel
theorem dN_bestWay_124 : decode mN_bestWay.2.1 124 = .ok (.iload_n 1, 1) := by decide +kernel
theorem dN_bestWay_125 : decode mN_bestWay.2.1 125 = .ok (.iconst 1, 1) := by decide +kernel
theorem dN_bestWay_126 : decode mN_bestWay.2.1 126 = .ok (.isub, 1) := by decide +kernel
theorem dN_bestWay_127 : decode mN_bestWay.2.1 127 = .ok (.aaload, 1) := by decide +kernel
theorem dN_bestWay_128 : decode mN_bestWay.2.1 128 = .ok (.iload_n 3, 1) := by decide +kernel
theorem dN_bestWay_129 : decode mN_bestWay.2.1 129 = .ok (.iaload, 1) := by decide +kernel
theorem dN_bestWay_130 : decode mN_bestWay.2.1 130 = .ok (.if_icmp .le 6, 3) := by decide +kernel
theorem dN_bestWay_133 : decode mN_bestWay.2.1 133 = .ok (.iload 4, 2) := by decide +kernel
theorem dN_bestWay_135 : decode mN_bestWay.2.1 135 = .ok (.istore_n 3, 1) := by decide +kernel
theorem dN_bestWay_136 : decode mN_bestWay.2.1 136 = .ok (.iinc 4 1, 3) := by decide +kernel
theorem dN_bestWay_139 : decode mN_bestWay.2.1 139 = .ok (.goto (-36), 3) := by decide +kernel
theorem dN_bestWay_142 : decode mN_bestWay.2.1 142 = .ok (.iload_n 3, 1) := by decide +kernel
theorem dN_bestWay_143 : decode mN_bestWay.2.1 143 = .ok (.ireturn, 1) := by decide +kernel
/- N_bestWay: (I)I -/
set_option maxRecDepth 4000 in
theorem wN_bestWay {X : Cx} (a1 : Int) (sw : Bool) (m : Mem) (Q : Int → Bool → Mem → Prop) (h : M2 X 5 mN_foreseeTwelfths [vr 47] sw (upm m 47 7 ((m 2 3) + 1)) (fun z1 sw1 m1 => R2 X 6 mN_bestWay 21 [(0, vr 47), (1, vi a1), (2, vi 1), (3, vi 0)] [] sw1 m1 Q)) : M2 X 6 mN_bestWay [vr 47, vi a1] sw m Q := by
  refine Mt.of pN_bestWay (Nat.le_of_ble_eq_true rfl) (Nat.le_refl _) ?_
  show R2 X 6 mN_bestWay 0 [(0, vr 47), (1, vi a1)] [] sw m Q
  refine r_aload_n 0 0 rfl dN_bestWay_0 rfl ?_
  refine r_aload_n 0 0 rfl dN_bestWay_1 rfl ?_
  refine q_getR 0 c47 fN_31 rfl rfl (g47_0 sw) (by decide) dN_bestWay_2 ?_
  refine q_getI 3 c2 fN_43 rfl rfl dN_bestWay_5 ?_
  refine r_iconst dN_bestWay_8 ?_
  refine r_iadd dN_bestWay_9 ?_
  refine q_putI 7 c47 pfN_27 rfl rfl dN_bestWay_10 ?_
  refine r_aload_n 0 0 rfl dN_bestWay_13 rfl ?_
  refine r_callVv 7 [] rfl c47 rfl rfl oN_foreseeTwelfths iN_foreseeTwelfths sN_foreseeTwelfths yN_48 (by decide) ⟨Nat.le_refl _, Nat.le_refl _⟩ rfl (Nat.le_of_ble_eq_true rfl) dN_bestWay_14 h (fun z1 r1 m1 h => ?_)
  obtain ⟨sw1, rfl, h⟩ := h
  refine r_iconst dN_bestWay_17 ?_
  refine r_istore_n 2 (by decide) dN_bestWay_18 rfl ?_
  refine r_iconst dN_bestWay_19 ?_
  refine r_istore_n 3 (by decide) dN_bestWay_20 rfl ?_
  refine r_sub [2, 3, 1, 0] ?_ h
  rfl
set_option maxRecDepth 4000 in
theorem wN_bestWay_21 {X : Cx} (x1 x2 x3 : Int) (sw : Bool) (m : Mem) (Q : Int → Bool → Mem → Prop) (h : ((w32 x1 ≤ w32 x3 → R2 X 6 mN_bestWay 103 [(0, vr 47), (1, vi x1), (2, vi x2), (3, vi 0), (4, vi 1)] [] sw m Q) ∧ (¬ (w32 x1 ≤ w32 x3) → R2 X 6 mN_bestWay 36 [(0, vr 47), (1, vi x1), (2, vi (x2 * (m 47 7))), (3, vi x3), (4, vi 0)] [] sw m Q))) : R2 X 6 mN_bestWay 21 [(0, vr 47), (1, vi x1), (2, vi x2), (3, vi x3)] [] sw m Q := by
  refine r_iload_n 3 3 rfl dN_bestWay_21 rfl ?_
  refine r_iload_n 1 1 rfl dN_bestWay_22 rfl ?_
  refine r_ifc_ge (tgt := 98) dN_bestWay_23 (by decide) (fun hc => ?_) (fun hc => ?_)
  · replace h := h.1 hc
    refine r_iconst dN_bestWay_98 ?_
    refine r_istore_n 3 (by decide) dN_bestWay_99 rfl ?_
    refine r_iconst dN_bestWay_100 ?_
    refine r_istore 4 (by decide) dN_bestWay_101 ?_
    refine r_sub [2, 3, 4, 1, 0] ?_ h
    rfl
  · replace h := h.2 hc
    refine r_iload_n 2 2 rfl dN_bestWay_26 rfl ?_
    refine r_aload_n 0 0 rfl dN_bestWay_27 rfl ?_
    refine q_getI 7 c47 fN_27 rfl rfl dN_bestWay_28 ?_
    refine r_imul dN_bestWay_31 ?_
    refine r_istore_n 2 (by decide) dN_bestWay_32 rfl ?_
    refine r_iconst dN_bestWay_33 ?_
    refine r_istore 4 (by decide) dN_bestWay_34 ?_
    refine r_sub [2, 3, 1, 4, 0] ?_ h
    rfl
set_option maxRecDepth 4000 in
theorem wN_bestWay_36 {X : Cx} (x1 x2 x3 x4 : Int) (sw : Bool) (m : Mem) (Q : Int → Bool → Mem → Prop) (h : ((w32 x2 ≤ w32 x4 → R2 X 6 mN_bestWay 21 [(0, vr 47), (1, vi x1), (2, vi x2), (3, vi (x3 + 1))] [] sw m Q) ∧ (¬ (w32 x2 ≤ w32 x4) → ((¬ w32 x3 = 0 → ((0 ≤ w32 (x3 - 1) ∧ w32 (x3 - 1) < 3) ∧ M2 X 1 mN_withoutLast [vr 47, vi x4] sw m (fun z2 sw2 m2 => ((0 ≤ w32 z2 ∧ w32 z2 < 216) ∧ ((0 ≤ w32 x3 ∧ w32 x3 < 3) ∧ M2 X 3 mN_millionths [vr 47, vi x3, vi x4] sw2 m2 (fun z4 sw4 m4 => ((0 ≤ w32 x4 ∧ w32 x4 < 216) ∧ R2 X 6 mN_bestWay 36 [(0, vr 47), (1, vi x1), (2, vi x2), (3, vi x3), (4, vi (x4 + 1))] [] sw4 (upm m4 (49 + w32 x3) (w32 x4) ((m2 (49 + w32 (x3 - 1)) (w32 z2)) + z4)) Q))))))) ∧ (¬ (¬ w32 x3 = 0) → ((0 ≤ w32 x3 ∧ w32 x3 < 3) ∧ M2 X 3 mN_millionths [vr 47, vi x3, vi x4] sw m (fun z6 sw6 m6 => ((0 ≤ w32 x4 ∧ w32 x4 < 216) ∧ R2 X 6 mN_bestWay 36 [(0, vr 47), (1, vi x1), (2, vi x2), (3, vi x3), (4, vi (x4 + 1))] [] sw6 (upm m6 (49 + w32 x3) (w32 x4) (0 + z6)) Q)))))))) : R2 X 6 mN_bestWay 36 [(0, vr 47), (1, vi x1), (2, vi x2), (3, vi x3), (4, vi x4)] [] sw m Q := by
  refine r_iload 4 4 rfl dN_bestWay_36 ?_
  refine r_iload_n 2 2 rfl dN_bestWay_38 rfl ?_
  refine r_ifc_ge (tgt := 92) dN_bestWay_39 (by decide) (fun hc => ?_) (fun hc => ?_)
  · replace h := h.1 hc
    refine r_iinc 3 3 rfl (by decide) dN_bestWay_92 ?_
    refine r_goto (tgt := 21) dN_bestWay_95 (by decide) ?_
    refine r_sub [1, 2, 3, 0] ?_ h
    rfl
  · replace h := h.2 hc
    refine r_iload_n 3 3 rfl dN_bestWay_42 rfl ?_
    refine r_if_ne (tgt := 50) dN_bestWay_43 (by decide) (fun hc => ?_) (fun hc => ?_)
    · replace h := h.1 hc
      refine r_aload_n 0 0 rfl dN_bestWay_50 rfl ?_
      refine q_getR 3 c47 fN_13 rfl rfl (g47_3 sw) (by decide) dN_bestWay_51 ?_
      refine r_iload_n 3 3 rfl dN_bestWay_54 rfl ?_
      refine r_iconst dN_bestWay_55 ?_
      refine r_isub dN_bestWay_56 ?_
      have hi0 := h.1
      replace h := h.2
      refine q_aaload (w32 (x3 - 1)) (by decide) rfl c48 hi0 (gr48 sw hi0) (nr48 hi0) dN_bestWay_57 ?_
      refine r_aload_n 0 0 rfl dN_bestWay_58 rfl ?_
      refine r_iload 4 4 rfl dN_bestWay_59 ?_
      refine r_callVi 7 [_] rfl c47 rfl rfl oN_withoutLast iN_withoutLast sN_withoutLast yN_51 (by decide) ⟨Nat.le_refl _, Nat.le_refl _⟩ rfl (Nat.le_of_ble_eq_true rfl) dN_bestWay_61 h (fun z2 r2 m2 h => ?_)
      obtain ⟨sw2, rfl, h⟩ := h
      refine q_iaload (w32 z2) rfl (cr48 hi0) h.1 dN_bestWay_64 ?_
      replace h := h.2
      refine r_istore 5 (by decide) dN_bestWay_65 ?_
      refine r_aload_n 0 1 rfl dN_bestWay_67 rfl ?_
      refine q_getR 3 c47 fN_13 rfl rfl (g47_3 sw2) (by decide) dN_bestWay_68 ?_
      refine r_iload_n 3 4 rfl dN_bestWay_71 rfl ?_
      have hi2 := h.1
      replace h := h.2
      refine q_aaload (w32 x3) (by decide) rfl c48 hi2 (gr48 sw2 hi2) (nr48 hi2) dN_bestWay_72 ?_
      refine r_iload 4 5 rfl dN_bestWay_73 ?_
      refine r_iload 5 0 rfl dN_bestWay_75 ?_
      refine r_aload_n 0 1 rfl dN_bestWay_77 rfl ?_
      refine r_iload_n 3 4 rfl dN_bestWay_78 rfl ?_
      refine r_iload 4 5 rfl dN_bestWay_79 ?_
      refine r_callVi 7 [_, _] rfl c47 rfl rfl oN_millionths iN_millionths sN_millionths yN_55 (by decide) ⟨Nat.le_refl _, Nat.le_refl _⟩ rfl (Nat.le_of_ble_eq_true rfl) dN_bestWay_81 h (fun z4 r4 m4 h => ?_)
      obtain ⟨sw4, rfl, h⟩ := h
      refine r_iadd dN_bestWay_84 ?_
      refine q_iastore (w32 x4) rfl (cr48 hi2) h.1 dN_bestWay_85 ?_
      replace h := h.2
      refine r_iinc 4 5 rfl (by decide) dN_bestWay_86 ?_
      refine r_goto (tgt := 36) dN_bestWay_89 (by decide) ?_
      refine r_sub [2, 3, 4, 5, 0] ?_ h
      rfl
    · replace h := h.2 hc
      refine r_iconst dN_bestWay_46 ?_
      refine r_goto (tgt := 65) dN_bestWay_47 (by decide) ?_
      refine r_istore 5 (by decide) dN_bestWay_65 ?_
      refine r_aload_n 0 1 rfl dN_bestWay_67 rfl ?_
      refine q_getR 3 c47 fN_13 rfl rfl (g47_3 sw) (by decide) dN_bestWay_68 ?_
      refine r_iload_n 3 4 rfl dN_bestWay_71 rfl ?_
      have hi4 := h.1
      replace h := h.2
      refine q_aaload (w32 x3) (by decide) rfl c48 hi4 (gr48 sw hi4) (nr48 hi4) dN_bestWay_72 ?_
      refine r_iload 4 5 rfl dN_bestWay_73 ?_
      refine r_iload 5 0 rfl dN_bestWay_75 ?_
      refine r_aload_n 0 1 rfl dN_bestWay_77 rfl ?_
      refine r_iload_n 3 4 rfl dN_bestWay_78 rfl ?_
      refine r_iload 4 5 rfl dN_bestWay_79 ?_
      refine r_callVi 7 [_, _] rfl c47 rfl rfl oN_millionths iN_millionths sN_millionths yN_55 (by decide) ⟨Nat.le_refl _, Nat.le_refl _⟩ rfl (Nat.le_of_ble_eq_true rfl) dN_bestWay_81 h (fun z6 r6 m6 h => ?_)
      obtain ⟨sw6, rfl, h⟩ := h
      refine r_iadd dN_bestWay_84 ?_
      refine q_iastore (w32 x4) rfl (cr48 hi4) h.1 dN_bestWay_85 ?_
      replace h := h.2
      refine r_iinc 4 5 rfl (by decide) dN_bestWay_86 ?_
      refine r_goto (tgt := 36) dN_bestWay_89 (by decide) ?_
      refine r_sub [2, 3, 4, 5, 0] ?_ h
      rfl
set_option maxRecDepth 4000 in
theorem wN_bestWay_103 {X : Cx} (x1 x2 x3 x4 : Int) (sw : Bool) (m : Mem) (Q : Int → Bool → Mem → Prop) (h : ((w32 x2 ≤ w32 x4 → Q x3 sw m) ∧ (¬ (w32 x2 ≤ w32 x4) → ((0 ≤ w32 (x1 - 1) ∧ w32 (x1 - 1) < 3) ∧ ((0 ≤ w32 x4 ∧ w32 x4 < 216) ∧ ((0 ≤ w32 (x1 - 1) ∧ w32 (x1 - 1) < 3) ∧ ((0 ≤ w32 x3 ∧ w32 x3 < 216) ∧ ((w32 (m (49 + w32 (x1 - 1)) (w32 x4)) ≤ w32 (m (49 + w32 (x1 - 1)) (w32 x3)) → R2 X 6 mN_bestWay 103 [(0, vr 47), (1, vi x1), (2, vi x2), (3, vi x3), (4, vi (x4 + 1))] [] sw m Q) ∧ (¬ (w32 (m (49 + w32 (x1 - 1)) (w32 x4)) ≤ w32 (m (49 + w32 (x1 - 1)) (w32 x3))) → R2 X 6 mN_bestWay 103 [(0, vr 47), (1, vi x1), (2, vi x2), (3, vi x4), (4, vi (x4 + 1))] [] sw m Q))))))))) : R2 X 6 mN_bestWay 103 [(0, vr 47), (1, vi x1), (2, vi x2), (3, vi x3), (4, vi x4)] [] sw m Q := by
  refine r_iload 4 4 rfl dN_bestWay_103 ?_
  refine r_iload_n 2 2 rfl dN_bestWay_105 rfl ?_
  refine r_ifc_ge (tgt := 142) dN_bestWay_106 (by decide) (fun hc => ?_) (fun hc => ?_)
  · replace h := h.1 hc
    refine r_iload_n 3 3 rfl dN_bestWay_142 rfl ?_
    exact q_iret rfl h dN_bestWay_143
  · replace h := h.2 hc
    refine r_aload_n 0 0 rfl dN_bestWay_109 rfl ?_
    refine q_getR 3 c47 fN_13 rfl rfl (g47_3 sw) (by decide) dN_bestWay_110 ?_
    refine r_iload_n 1 1 rfl dN_bestWay_113 rfl ?_
    refine r_iconst dN_bestWay_114 ?_
    refine r_isub dN_bestWay_115 ?_
    have hi0 := h.1
    replace h := h.2
    refine q_aaload (w32 (x1 - 1)) (by decide) rfl c48 hi0 (gr48 sw hi0) (nr48 hi0) dN_bestWay_116 ?_
    refine r_iload 4 4 rfl dN_bestWay_117 ?_
    refine q_iaload (w32 x4) rfl (cr48 hi0) h.1 dN_bestWay_119 ?_
    replace h := h.2
    refine r_aload_n 0 0 rfl dN_bestWay_120 rfl ?_
    refine q_getR 3 c47 fN_13 rfl rfl (g47_3 sw) (by decide) dN_bestWay_121 ?_
    refine r_iload_n 1 1 rfl dN_bestWay_124 rfl ?_
    refine r_iconst dN_bestWay_125 ?_
    refine r_isub dN_bestWay_126 ?_
    have hi1 := h.1
    replace h := h.2
    refine q_aaload (w32 (x1 - 1)) (by decide) rfl c48 hi1 (gr48 sw hi1) (nr48 hi1) dN_bestWay_127 ?_
    refine r_iload_n 3 3 rfl dN_bestWay_128 rfl ?_
    refine q_iaload (w32 x3) rfl (cr48 hi1) h.1 dN_bestWay_129 ?_
    replace h := h.2
    refine r_ifc_le (tgt := 136) dN_bestWay_130 (by decide) (fun hc => ?_) (fun hc => ?_)
    · replace h := h.1 hc
      refine r_iinc 4 4 rfl (by decide) dN_bestWay_136 ?_
      refine r_goto (tgt := 103) dN_bestWay_139 (by decide) ?_
      refine r_sub [1, 2, 3, 4, 0] ?_ h
      rfl
    · replace h := h.2 hc
      refine r_iload 4 4 rfl dN_bestWay_133 ?_
      refine r_istore_n 3 (by decide) dN_bestWay_135 rfl ?_
      refine r_iinc 4 4 rfl (by decide) dN_bestWay_136 ?_
      refine r_goto (tgt := 103) dN_bestWay_139 (by decide) ?_
      refine r_sub [2, 3, 4, 1, 0] ?_ h
      rfl
theorem dN_foreseeTwelfths_0 : decode mN_foreseeTwelfths.2.1 0 = .ok (.iconst 0, 1) := by decide +kernel
theorem dN_foreseeTwelfths_1 : decode mN_foreseeTwelfths.2.1 1 = .ok (.istore_n 1, 1) := by decide +kernel
theorem dN_foreseeTwelfths_2 : decode mN_foreseeTwelfths.2.1 2 = .ok (.iload_n 1, 1) := by decide +kernel
theorem dN_foreseeTwelfths_3 : decode mN_foreseeTwelfths.2.1 3 = .ok (.aload_n 0, 1) := by decide +kernel
theorem dN_foreseeTwelfths_4 : decode mN_foreseeTwelfths.2.1 4 = .ok (.getfield 31, 3) := by decide +kernel
theorem dN_foreseeTwelfths_7 : decode mN_foreseeTwelfths.2.1 7 = .ok (.getfield 43, 3) := by decide +kernel
theorem dN_foreseeTwelfths_10 : decode mN_foreseeTwelfths.2.1 10 = .ok (.if_icmp .ge 75, 3) := by decide +kernel
theorem dN_foreseeTwelfths_13 : decode mN_foreseeTwelfths.2.1 13 = .ok (.aload_n 0, 1) := by decide +kernel
theorem dN_foreseeTwelfths_14 : decode mN_foreseeTwelfths.2.1 14 = .ok (.getfield 31, 3) := by decide +kernel
theorem dN_foreseeTwelfths_17 : decode mN_foreseeTwelfths.2.1 17 = .ok (.iload_n 1, 1) := by decide +kernel
theorem dN_foreseeTwelfths_18 : decode mN_foreseeTwelfths.2.1 18 = .ok (.iconst 5, 1) := by decide +kernel
theorem dN_foreseeTwelfths_19 : decode mN_foreseeTwelfths.2.1 19 = .ok (.invokevirtual 59, 3) := by decide +kernel
theorem dN_foreseeTwelfths_22 : decode mN_foreseeTwelfths.2.1 22 = .ok (.istore_n 2, 1) := by decide +kernel
theorem dN_foreseeTwelfths_23 : decode mN_foreseeTwelfths.2.1 23 = .ok (.iconst 0, 1) := by decide +kernel
theorem dN_foreseeTwelfths_24 : decode mN_foreseeTwelfths.2.1 24 = .ok (.istore_n 3, 1) := by decide +kernel
theorem dN_foreseeTwelfths_25 : decode mN_foreseeTwelfths.2.1 25 = .ok (.iload_n 3, 1) := by decide +kernel
theorem dN_foreseeTwelfths_26 : decode mN_foreseeTwelfths.2.1 26 = .ok (.iconst 3, 1) := by decide +kernel
theorem dN_foreseeTwelfths_27 : decode mN_foreseeTwelfths.2.1 27 = .ok (.if_icmp .ge 52, 3) := by decide +kernel
theorem dN_foreseeTwelfths_30 : decode mN_foreseeTwelfths.2.1 30 = .ok (.aload_n 0, 1) := by decide +kernel
theorem dN_foreseeTwelfths_31 : decode mN_foreseeTwelfths.2.1 31 = .ok (.getfield 16, 3) := by decide +kernel
theorem dN_foreseeTwelfths_34 : decode mN_foreseeTwelfths.2.1 34 = .ok (.iload_n 1, 1) := by decide +kernel
theorem dN_foreseeTwelfths_35 : decode mN_foreseeTwelfths.2.1 35 = .ok (.aaload, 1) := by decide +kernel
theorem dN_foreseeTwelfths_36 : decode mN_foreseeTwelfths.2.1 36 = .ok (.iload_n 3, 1) := by decide +kernel
theorem dN_foreseeTwelfths_37 : decode mN_foreseeTwelfths.2.1 37 = .ok (.aload_n 0, 1) := by decide +kernel
theorem dN_foreseeTwelfths_38 : decode mN_foreseeTwelfths.2.1 38 = .ok (.getfield 31, 3) := by decide +kernel
theorem dN_foreseeTwelfths_41 : decode mN_foreseeTwelfths.2.1 41 = .ok (.iload_n 1, 1) := by decide +kernel
theorem dN_foreseeTwelfths_42 : decode mN_foreseeTwelfths.2.1 42 = .ok (.iload_n 3, 1) := by decide +kernel
theorem dN_foreseeTwelfths_43 : decode mN_foreseeTwelfths.2.1 43 = .ok (.invokevirtual 62, 3) := by decide +kernel
theorem dN_foreseeTwelfths_46 : decode mN_foreseeTwelfths.2.1 46 = .ok (.iastore, 1) := by decide +kernel
theorem dN_foreseeTwelfths_47 : decode mN_foreseeTwelfths.2.1 47 = .ok (.aload_n 0, 1) := by decide +kernel
theorem dN_foreseeTwelfths_48 : decode mN_foreseeTwelfths.2.1 48 = .ok (.getfield 16, 3) := by decide +kernel
theorem dN_foreseeTwelfths_51 : decode mN_foreseeTwelfths.2.1 51 = .ok (.iload_n 1, 1) := by decide +kernel
theorem dN_foreseeTwelfths_52 : decode mN_foreseeTwelfths.2.1 52 = .ok (.aaload, 1) := by decide +kernel
theorem dN_foreseeTwelfths_53 : decode mN_foreseeTwelfths.2.1 53 = .ok (.iconst 3, 1) := by decide +kernel
theorem dN_foreseeTwelfths_54 : decode mN_foreseeTwelfths.2.1 54 = .ok (.iload_n 3, 1) := by decide +kernel
theorem dN_foreseeTwelfths_55 : decode mN_foreseeTwelfths.2.1 55 = .ok (.iadd, 1) := by decide +kernel
theorem dN_foreseeTwelfths_56 : decode mN_foreseeTwelfths.2.1 56 = .ok (.aload_n 0, 1) := by decide +kernel
theorem dN_foreseeTwelfths_57 : decode mN_foreseeTwelfths.2.1 57 = .ok (.getfield 31, 3) := by decide +kernel
theorem dN_foreseeTwelfths_60 : decode mN_foreseeTwelfths.2.1 60 = .ok (.iload_n 1, 1) := by decide +kernel
theorem dN_foreseeTwelfths_61 : decode mN_foreseeTwelfths.2.1 61 = .ok (.bipush 99, 2) := by decide +kernel
theorem dN_foreseeTwelfths_63 : decode mN_foreseeTwelfths.2.1 63 = .ok (.iload_n 2, 1) := by decide +kernel
theorem dN_foreseeTwelfths_64 : decode mN_foreseeTwelfths.2.1 64 = .ok (.iload_n 3, 1) := by decide +kernel
theorem dN_foreseeTwelfths_65 : decode mN_foreseeTwelfths.2.1 65 = .ok (.iadd, 1) := by decide +kernel
theorem dN_foreseeTwelfths_66 : decode mN_foreseeTwelfths.2.1 66 = .ok (.invokestatic 64, 3) := by decide +kernel
theorem dN_foreseeTwelfths_69 : decode mN_foreseeTwelfths.2.1 69 = .ok (.invokevirtual 62, 3) := by decide +kernel
theorem dN_foreseeTwelfths_72 : decode mN_foreseeTwelfths.2.1 72 = .ok (.iastore, 1) := by decide +kernel
theorem dN_foreseeTwelfths_73 : decode mN_foreseeTwelfths.2.1 73 = .ok (.iinc 3 1, 3) := by decide +kernel
theorem dN_foreseeTwelfths_76 : decode mN_foreseeTwelfths.2.1 76 = .ok (.goto (-51), 3) := by decide +kernel
theorem dN_foreseeTwelfths_79 : decode mN_foreseeTwelfths.2.1 79 = .ok (.iinc 1 1, 3) := by decide +kernel
theorem dN_foreseeTwelfths_82 : decode mN_foreseeTwelfths.2.1 82 = .ok (.goto (-80), 3) := by decide +kernel
theorem dN_foreseeTwelfths_85 : decode mN_foreseeTwelfths.2.1 85 = .ok (.return_, 1) := by decide +kernel
/- N_foreseeTwelfths: ()V -/
set_option maxRecDepth 4000 in
theorem wN_foreseeTwelfths {X : Cx} (sw : Bool) (m : Mem) (Q : Int → Bool → Mem → Prop) (h : R2 X 5 mN_foreseeTwelfths 2 [(0, vr 47), (1, vi 0)] [] sw m Q) : M2 X 5 mN_foreseeTwelfths [vr 47] sw m Q := by
  refine Mt.of pN_foreseeTwelfths (Nat.le_of_ble_eq_true rfl) (Nat.le_refl _) ?_
  show R2 X 5 mN_foreseeTwelfths 0 [(0, vr 47)] [] sw m Q
  refine r_iconst dN_foreseeTwelfths_0 ?_
  refine r_istore_n 1 (by decide) dN_foreseeTwelfths_1 rfl ?_
  refine r_sub [1, 0] ?_ h
  rfl
set_option maxRecDepth 4000 in
theorem wN_foreseeTwelfths_2 {X : Cx} (x1 : Int) (sw : Bool) (m : Mem) (Q : Int → Bool → Mem → Prop) (h : ((w32 (m 2 3) ≤ w32 x1 → Q 0 sw m) ∧ (¬ (w32 (m 2 3) ≤ w32 x1) → M2 X 2 mK_told [vr 2, vi x1, vi 5] sw m (fun z1 sw1 m1 => R2 X 5 mN_foreseeTwelfths 25 [(0, vr 47), (1, vi x1), (2, vi z1), (3, vi 0)] [] sw1 m1 Q)))) : R2 X 5 mN_foreseeTwelfths 2 [(0, vr 47), (1, vi x1)] [] sw m Q := by
  refine r_iload_n 1 1 rfl dN_foreseeTwelfths_2 rfl ?_
  refine r_aload_n 0 0 rfl dN_foreseeTwelfths_3 rfl ?_
  refine q_getR 0 c47 fN_31 rfl rfl (g47_0 sw) (by decide) dN_foreseeTwelfths_4 ?_
  refine q_getI 3 c2 fN_43 rfl rfl dN_foreseeTwelfths_7 ?_
  refine r_ifc_ge (tgt := 85) dN_foreseeTwelfths_10 (by decide) (fun hc => ?_) (fun hc => ?_)
  · replace h := h.1 hc
    exact q_vret rfl h dN_foreseeTwelfths_85
  · replace h := h.2 hc
    refine r_aload_n 0 0 rfl dN_foreseeTwelfths_13 rfl ?_
    refine q_getR 0 c47 fN_31 rfl rfl (g47_0 sw) (by decide) dN_foreseeTwelfths_14 ?_
    refine r_iload_n 1 1 rfl dN_foreseeTwelfths_17 rfl ?_
    refine r_iconst dN_foreseeTwelfths_18 ?_
    refine r_callVi 1 [_, _] rfl c2 rfl rfl oK_told iK_told sK_told yN_59 (by decide) ⟨Nat.le_refl _, Nat.le_refl _⟩ rfl (Nat.le_of_ble_eq_true rfl) dN_foreseeTwelfths_19 h (fun z1 r1 m1 h => ?_)
    obtain ⟨sw1, rfl, h⟩ := h
    refine r_istore_n 2 (by decide) dN_foreseeTwelfths_22 rfl ?_
    refine r_iconst dN_foreseeTwelfths_23 ?_
    refine r_istore_n 3 (by decide) dN_foreseeTwelfths_24 rfl ?_
    refine r_sub [2, 3, 1, 0] ?_ h
    rfl
set_option maxRecDepth 4000 in
theorem wN_foreseeTwelfths_25 {X : Cx} (x1 x2 x3 : Int) (sw : Bool) (m : Mem) (Q : Int → Bool → Mem → Prop) (h : ((3 ≤ w32 x3 → R2 X 5 mN_foreseeTwelfths 2 [(0, vr 47), (1, vi (x1 + 1))] [] sw m Q) ∧ (¬ (3 ≤ w32 x3) → ((0 ≤ w32 x1 ∧ w32 x1 < 5) ∧ M2 X 4 mK_twelfths [vr 2, vi x1, vi x3] sw m (fun z2 sw2 m2 => ((0 ≤ w32 x3 ∧ w32 x3 < 6) ∧ ((0 ≤ w32 x1 ∧ w32 x1 < 5) ∧ M2 X 4 mK_twelfths [vr 2, vi x1, vi (min 99 (w32 (x2 + x3)))] sw2 (upm m2 (53 + w32 x1) (w32 x3) z2) (fun z4 sw4 m4 => ((0 ≤ w32 (3 + x3) ∧ w32 (3 + x3) < 6) ∧ R2 X 5 mN_foreseeTwelfths 25 [(0, vr 47), (1, vi x1), (2, vi x2), (3, vi (x3 + 1))] [] sw4 (upm m4 (53 + w32 x1) (w32 (3 + x3)) z4) Q))))))))) : R2 X 5 mN_foreseeTwelfths 25 [(0, vr 47), (1, vi x1), (2, vi x2), (3, vi x3)] [] sw m Q := by
  refine r_iload_n 3 3 rfl dN_foreseeTwelfths_25 rfl ?_
  refine r_iconst dN_foreseeTwelfths_26 ?_
  refine r_ifc_ge (tgt := 79) dN_foreseeTwelfths_27 (by decide) (fun hc => ?_) (fun hc => ?_)
  · replace h := h.1 hc
    refine r_iinc 1 1 rfl (by decide) dN_foreseeTwelfths_79 ?_
    refine r_goto (tgt := 2) dN_foreseeTwelfths_82 (by decide) ?_
    refine r_sub [1, 0] ?_ h
    rfl
  · replace h := h.2 hc
    refine r_aload_n 0 0 rfl dN_foreseeTwelfths_30 rfl ?_
    refine q_getR 4 c47 fN_16 rfl rfl (g47_4 sw) (by decide) dN_foreseeTwelfths_31 ?_
    refine r_iload_n 1 1 rfl dN_foreseeTwelfths_34 rfl ?_
    have hi0 := h.1
    replace h := h.2
    refine q_aaload (w32 x1) (by decide) rfl c52 hi0 (gr52 sw hi0) (nr52 hi0) dN_foreseeTwelfths_35 ?_
    refine r_iload_n 3 3 rfl dN_foreseeTwelfths_36 rfl ?_
    refine r_aload_n 0 0 rfl dN_foreseeTwelfths_37 rfl ?_
    refine q_getR 0 c47 fN_31 rfl rfl (g47_0 sw) (by decide) dN_foreseeTwelfths_38 ?_
    refine r_iload_n 1 1 rfl dN_foreseeTwelfths_41 rfl ?_
    refine r_iload_n 3 3 rfl dN_foreseeTwelfths_42 rfl ?_
    refine r_callVi 1 [_, _] rfl c2 rfl rfl oK_twelfths iK_twelfths sK_twelfths yN_62 (by decide) ⟨Nat.le_refl _, Nat.le_refl _⟩ rfl (Nat.le_of_ble_eq_true rfl) dN_foreseeTwelfths_43 h (fun z2 r2 m2 h => ?_)
    obtain ⟨sw2, rfl, h⟩ := h
    refine q_iastore (w32 x3) rfl (cr52 hi0) h.1 dN_foreseeTwelfths_46 ?_
    replace h := h.2
    refine r_aload_n 0 0 rfl dN_foreseeTwelfths_47 rfl ?_
    refine q_getR 4 c47 fN_16 rfl rfl (g47_4 sw2) (by decide) dN_foreseeTwelfths_48 ?_
    refine r_iload_n 1 1 rfl dN_foreseeTwelfths_51 rfl ?_
    have hi2 := h.1
    replace h := h.2
    refine q_aaload (w32 x1) (by decide) rfl c52 hi2 (gr52 sw2 hi2) (nr52 hi2) dN_foreseeTwelfths_52 ?_
    refine r_iconst dN_foreseeTwelfths_53 ?_
    refine r_iload_n 3 3 rfl dN_foreseeTwelfths_54 rfl ?_
    refine r_iadd dN_foreseeTwelfths_55 ?_
    refine r_aload_n 0 0 rfl dN_foreseeTwelfths_56 rfl ?_
    refine q_getR 0 c47 fN_31 rfl rfl (g47_0 sw2) (by decide) dN_foreseeTwelfths_57 ?_
    refine r_iload_n 1 1 rfl dN_foreseeTwelfths_60 rfl ?_
    refine r_bipush (by decide) dN_foreseeTwelfths_61 ?_
    refine r_iload_n 2 2 rfl dN_foreseeTwelfths_63 rfl ?_
    refine r_iload_n 3 3 rfl dN_foreseeTwelfths_64 rfl ?_
    refine r_iadd dN_foreseeTwelfths_65 ?_
    refine r_min yN_64 kS_min kMathI kC_min (by decide) (Nat.le_of_ble_eq_true rfl) dN_foreseeTwelfths_66 ?_
    refine r_callVi 1 [_, _] rfl c2 rfl rfl oK_twelfths iK_twelfths sK_twelfths yN_62 (by decide) ⟨Nat.le_refl _, Nat.le_refl _⟩ rfl (Nat.le_of_ble_eq_true rfl) dN_foreseeTwelfths_69 h (fun z4 r4 m4 h => ?_)
    obtain ⟨sw4, rfl, h⟩ := h
    refine q_iastore (w32 (3 + x3)) rfl (cr52 hi2) h.1 dN_foreseeTwelfths_72 ?_
    replace h := h.2
    refine r_iinc 3 3 rfl (by decide) dN_foreseeTwelfths_73 ?_
    refine r_goto (tgt := 25) dN_foreseeTwelfths_76 (by decide) ?_
    refine r_sub [1, 2, 3, 0] ?_ h
    rfl
theorem dN_millionths_0 : decode mN_millionths.2.1 0 = .ok (.iconst 0, 1) := by decide +kernel
theorem dN_millionths_1 : decode mN_millionths.2.1 1 = .ok (.istore_n 3, 1) := by decide +kernel
theorem dN_millionths_2 : decode mN_millionths.2.1 2 = .ok (.iload_n 3, 1) := by decide +kernel
theorem dN_millionths_3 : decode mN_millionths.2.1 3 = .ok (.aload_n 0, 1) := by decide +kernel
theorem dN_millionths_4 : decode mN_millionths.2.1 4 = .ok (.getfield 31, 3) := by decide +kernel
theorem dN_millionths_7 : decode mN_millionths.2.1 7 = .ok (.getfield 43, 3) := by decide +kernel
theorem dN_millionths_10 : decode mN_millionths.2.1 10 = .ok (.if_icmp .ge 25, 3) := by decide +kernel
theorem dN_millionths_13 : decode mN_millionths.2.1 13 = .ok (.aload_n 0, 1) := by decide +kernel
theorem dN_millionths_14 : decode mN_millionths.2.1 14 = .ok (.getfield 19, 3) := by decide +kernel
theorem dN_millionths_17 : decode mN_millionths.2.1 17 = .ok (.iload_n 3, 1) := by decide +kernel
theorem dN_millionths_18 : decode mN_millionths.2.1 18 = .ok (.aload_n 0, 1) := by decide +kernel
theorem dN_millionths_19 : decode mN_millionths.2.1 19 = .ok (.getfield 16, 3) := by decide +kernel
theorem dN_millionths_22 : decode mN_millionths.2.1 22 = .ok (.iload_n 3, 1) := by decide +kernel
theorem dN_millionths_23 : decode mN_millionths.2.1 23 = .ok (.aaload, 1) := by decide +kernel
theorem dN_millionths_24 : decode mN_millionths.2.1 24 = .ok (.iconst 3, 1) := by decide +kernel
theorem dN_millionths_25 : decode mN_millionths.2.1 25 = .ok (.iload_n 1, 1) := by decide +kernel
theorem dN_millionths_26 : decode mN_millionths.2.1 26 = .ok (.iadd, 1) := by decide +kernel
theorem dN_millionths_27 : decode mN_millionths.2.1 27 = .ok (.iaload, 1) := by decide +kernel
theorem dN_millionths_28 : decode mN_millionths.2.1 28 = .ok (.iastore, 1) := by decide +kernel
theorem dN_millionths_29 : decode mN_millionths.2.1 29 = .ok (.iinc 3 1, 3) := by decide +kernel
theorem dN_millionths_32 : decode mN_millionths.2.1 32 = .ok (.goto (-30), 3) := by decide +kernel
theorem dN_millionths_35 : decode mN_millionths.2.1 35 = .ok (.iconst 0, 1) := by decide +kernel
theorem dN_millionths_36 : decode mN_millionths.2.1 36 = .ok (.istore_n 3, 1) := by decide +kernel
theorem dN_millionths_37 : decode mN_millionths.2.1 37 = .ok (.iload_n 3, 1) := by decide +kernel
theorem dN_millionths_38 : decode mN_millionths.2.1 38 = .ok (.iload_n 1, 1) := by decide +kernel
theorem dN_millionths_39 : decode mN_millionths.2.1 39 = .ok (.if_icmp .gt 44, 3) := by decide +kernel
theorem dN_millionths_42 : decode mN_millionths.2.1 42 = .ok (.aload_n 0, 1) := by decide +kernel
theorem dN_millionths_43 : decode mN_millionths.2.1 43 = .ok (.iload_n 2, 1) := by decide +kernel
theorem dN_millionths_44 : decode mN_millionths.2.1 44 = .ok (.iload_n 1, 1) := by decide +kernel
theorem dN_millionths_45 : decode mN_millionths.2.1 45 = .ok (.iconst 1, 1) := by decide +kernel
theorem dN_millionths_46 : decode mN_millionths.2.1 46 = .ok (.iadd, 1) := by decide +kernel
theorem dN_millionths_47 : decode mN_millionths.2.1 47 = .ok (.iload_n 3, 1) := by decide +kernel
theorem dN_millionths_48 : decode mN_millionths.2.1 48 = .ok (.invokevirtual 69, 3) := by decide +kernel
theorem dN_millionths_51 : decode mN_millionths.2.1 51 = .ok (.istore 4, 2) := by decide +kernel
theorem dN_millionths_53 : decode mN_millionths.2.1 53 = .ok (.iload 4, 2) := by decide +kernel
theorem dN_millionths_55 : decode mN_millionths.2.1 55 = .ok (.iconst (-1), 1) := by decide +kernel
theorem dN_millionths_56 : decode mN_millionths.2.1 56 = .ok (.if_icmp .eq 21, 3) := by decide +kernel
theorem dN_millionths_59 : decode mN_millionths.2.1 59 = .ok (.aload_n 0, 1) := by decide +kernel
theorem dN_millionths_60 : decode mN_millionths.2.1 60 = .ok (.getfield 19, 3) := by decide +kernel
theorem dN_millionths_63 : decode mN_millionths.2.1 63 = .ok (.iload 4, 2) := by decide +kernel
theorem dN_millionths_65 : decode mN_millionths.2.1 65 = .ok (.aload_n 0, 1) := by decide +kernel
theorem dN_millionths_66 : decode mN_millionths.2.1 66 = .ok (.getfield 16, 3) := by decide +kernel
theorem dN_millionths_69 : decode mN_millionths.2.1 69 = .ok (.iload 4, 2) := by decide +kernel
theorem dN_millionths_71 : decode mN_millionths.2.1 71 = .ok (.aaload, 1) := by decide +kernel
theorem dN_millionths_72 : decode mN_millionths.2.1 72 = .ok (.iload_n 1, 1) := by decide +kernel
theorem dN_millionths_73 : decode mN_millionths.2.1 73 = .ok (.iload_n 3, 1) := by decide +kernel
theorem dN_millionths_74 : decode mN_millionths.2.1 74 = .ok (.isub, 1) := by decide +kernel
theorem dN_millionths_75 : decode mN_millionths.2.1 75 = .ok (.iaload, 1) := by decide +kernel
theorem dN_millionths_76 : decode mN_millionths.2.1 76 = .ok (.iastore, 1) := by decide +kernel
theorem dN_millionths_77 : decode mN_millionths.2.1 77 = .ok (.iinc 3 1, 3) := by decide +kernel
theorem dN_millionths_80 : decode mN_millionths.2.1 80 = .ok (.goto (-43), 3) := by decide +kernel
theorem dN_millionths_83 : decode mN_millionths.2.1 83 = .ok (.aload_n 0, 1) := by decide +kernel
theorem dN_millionths_84 : decode mN_millionths.2.1 84 = .ok (.getfield 23, 3) := by decide +kernel
theorem dN_millionths_87 : decode mN_millionths.2.1 87 = .ok (.aload_n 0, 1) := by decide +kernel
theorem dN_millionths_88 : decode mN_millionths.2.1 88 = .ok (.getfield 19, 3) := by decide +kernel
theorem dN_millionths_91 : decode mN_millionths.2.1 91 = .ok (.aload_n 0, 1) := by decide +kernel
theorem dN_millionths_92 : decode mN_millionths.2.1 92 = .ok (.getfield 31, 3) := by decide +kernel
theorem dN_millionths_95 : decode mN_millionths.2.1 95 = .ok (.getfield 43, 3) := by decide +kernel
theorem dN_millionths_98 : decode mN_millionths.2.1 98 = .ok (.iconst (-1), 1) := by decide +kernel
theorem dN_millionths_99 : decode mN_millionths.2.1 99 = .ok (.invokestatic 73, 3) := by decide +kernel
theorem dN_millionths_102 : decode mN_millionths.2.1 102 = .ok (.lconst 0, 1) := by decide +kernel
theorem dN_millionths_103 : decode mN_millionths.2.1 103 = .ok (.lstore_n 3, 1) := by decide +kernel
theorem dN_millionths_104 : decode mN_millionths.2.1 104 = .ok (.iconst 0, 1) := by decide +kernel
theorem dN_millionths_105 : decode mN_millionths.2.1 105 = .ok (.istore 5, 2) := by decide +kernel
theorem dN_millionths_107 : decode mN_millionths.2.1 107 = .ok (.iload 5, 2) := by decide +kernel
theorem dN_millionths_109 : decode mN_millionths.2.1 109 = .ok (.aload_n 0, 1) := by decide +kernel
theorem dN_millionths_110 : decode mN_millionths.2.1 110 = .ok (.getfield 35, 3) := by decide +kernel
theorem dN_millionths_113 : decode mN_millionths.2.1 113 = .ok (.getfield 79, 3) := by decide +kernel
theorem dN_millionths_116 : decode mN_millionths.2.1 116 = .ok (.if_icmp .ge 33, 3) := by decide +kernel
theorem dN_millionths_119 : decode mN_millionths.2.1 119 = .ok (.aload_n 0, 1) := by decide +kernel
theorem dN_millionths_120 : decode mN_millionths.2.1 120 = .ok (.getfield 35, 3) := by decide +kernel
theorem dN_millionths_123 : decode mN_millionths.2.1 123 = .ok (.getfield 84, 3) := by decide +kernel
theorem dN_millionths_126 : decode mN_millionths.2.1 126 = .ok (.iload 5, 2) := by decide +kernel
theorem dN_millionths_128 : decode mN_millionths.2.1 128 = .ok (.iaload, 1) := by decide +kernel
theorem dN_millionths_129 : decode mN_millionths.2.1 129 = .ok (.iconst (-1), 1) := by decide +kernel
theorem dN_millionths_130 : decode mN_millionths.2.1 130 = .ok (.if_icmp .eq 13, 3) := by decide +kernel
theorem dN_millionths_133 : decode mN_millionths.2.1 133 = .ok (.lload_n 3, 1) := by decide +kernel
theorem dN_millionths_134 : decode mN_millionths.2.1 134 = .ok (.aload_n 0, 1) := by decide +kernel
theorem dN_millionths_135 : decode mN_millionths.2.1 135 = .ok (.getfield 23, 3) := by decide +kernel
theorem dN_millionths_138 : decode mN_millionths.2.1 138 = .ok (.iload 5, 2) := by decide +kernel
theorem dN_millionths_140 : decode mN_millionths.2.1 140 = .ok (.laload, 1) := by decide +kernel
theorem dN_millionths_141 : decode mN_millionths.2.1 141 = .ok (.ladd, 1) := by decide +kernel
theorem dN_millionths_142 : decode mN_millionths.2.1 142 = .ok (.lstore_n 3, 1) := by decide +kernel
theorem dN_millionths_143 : decode mN_millionths.2.1 143 = .ok (.iinc 5 1, 3) := by decide +kernel
theorem dN_millionths_146 : decode mN_millionths.2.1 146 = .ok (.goto (-39), 3) := by decide +kernel
theorem dN_millionths_149 : decode mN_millionths.2.1 149 = .ok (.lload_n 3, 1) := by decide +kernel
theorem dN_millionths_150 : decode mN_millionths.2.1 150 = .ok (.ldc2_w 87, 3) := by decide +kernel
theorem dN_millionths_153 : decode mN_millionths.2.1 153 = .ok (.aload_n 0, 1) := by decide +kernel
theorem dN_millionths_154 : decode mN_millionths.2.1 154 = .ok (.getfield 39, 3) := by decide +kernel
theorem dN_millionths_157 : decode mN_millionths.2.1 157 = .ok (.getfield 89, 3) := by decide +kernel
theorem dN_millionths_160 : decode mN_millionths.2.1 160 = .ok (.invokestatic 93, 3) := by decide +kernel
theorem dN_millionths_163 : decode mN_millionths.2.1 163 = .ok (.l2i, 1) := by decide +kernel
theorem dN_millionths_164 : decode mN_millionths.2.1 164 = .ok (.ireturn, 1) := by decide +kernel
/- N_millionths: (II)I -/
set_option maxRecDepth 4000 in
theorem wN_millionths {X : Cx} (a1 a2 : Int) (sw : Bool) (m : Mem) (Q : Int → Bool → Mem → Prop) (h : R2 X 3 mN_millionths 2 [(0, vr 47), (1, vi a1), (2, vi a2), (3, vi 0)] [] sw m Q) : M2 X 3 mN_millionths [vr 47, vi a1, vi a2] sw m Q := by
  refine Mt.of pN_millionths (Nat.le_of_ble_eq_true rfl) (Nat.le_refl _) ?_
  show R2 X 3 mN_millionths 0 [(0, vr 47), (1, vi a1), (2, vi a2)] [] sw m Q
  refine r_iconst dN_millionths_0 ?_
  refine r_istore_n 3 (by decide) dN_millionths_1 rfl ?_
  refine r_sub [1, 2, 3, 0] ?_ h
  rfl
set_option maxRecDepth 4000 in
theorem wN_millionths_2 {X : Cx} (x1 x2 x3 : Int) (sw : Bool) (m : Mem) (Q : Int → Bool → Mem → Prop) (h : ((w32 (m 2 3) ≤ w32 x3 → R2 X 3 mN_millionths 37 [(0, vr 47), (1, vi x1), (2, vi x2), (3, vi 0)] [] sw m Q) ∧ (¬ (w32 (m 2 3) ≤ w32 x3) → ((0 ≤ w32 x3 ∧ w32 x3 < 5) ∧ ((0 ≤ w32 (3 + x1) ∧ w32 (3 + x1) < 6) ∧ ((0 ≤ w32 x3 ∧ w32 x3 < 5) ∧ R2 X 3 mN_millionths 2 [(0, vr 47), (1, vi x1), (2, vi x2), (3, vi (x3 + 1))] [] sw (upm m 58 (w32 x3) (m (53 + w32 x3) (w32 (3 + x1)))) Q)))))) : R2 X 3 mN_millionths 2 [(0, vr 47), (1, vi x1), (2, vi x2), (3, vi x3)] [] sw m Q := by
  refine r_iload_n 3 3 rfl dN_millionths_2 rfl ?_
  refine r_aload_n 0 0 rfl dN_millionths_3 rfl ?_
  refine q_getR 0 c47 fN_31 rfl rfl (g47_0 sw) (by decide) dN_millionths_4 ?_
  refine q_getI 3 c2 fN_43 rfl rfl dN_millionths_7 ?_
  refine r_ifc_ge (tgt := 35) dN_millionths_10 (by decide) (fun hc => ?_) (fun hc => ?_)
  · replace h := h.1 hc
    refine r_iconst dN_millionths_35 ?_
    refine r_istore_n 3 (by decide) dN_millionths_36 rfl ?_
    refine r_sub [1, 2, 3, 0] ?_ h
    rfl
  · replace h := h.2 hc
    refine r_aload_n 0 0 rfl dN_millionths_13 rfl ?_
    refine q_getR 5 c47 fN_19 rfl rfl (g47_5 sw) (by decide) dN_millionths_14 ?_
    refine r_iload_n 3 3 rfl dN_millionths_17 rfl ?_
    refine r_aload_n 0 0 rfl dN_millionths_18 rfl ?_
    refine q_getR 4 c47 fN_16 rfl rfl (g47_4 sw) (by decide) dN_millionths_19 ?_
    refine r_iload_n 3 3 rfl dN_millionths_22 rfl ?_
    have hi0 := h.1
    replace h := h.2
    refine q_aaload (w32 x3) (by decide) rfl c52 hi0 (gr52 sw hi0) (nr52 hi0) dN_millionths_23 ?_
    refine r_iconst dN_millionths_24 ?_
    refine r_iload_n 1 1 rfl dN_millionths_25 rfl ?_
    refine r_iadd dN_millionths_26 ?_
    refine q_iaload (w32 (3 + x1)) rfl (cr52 hi0) h.1 dN_millionths_27 ?_
    replace h := h.2
    refine q_iastore (w32 x3) rfl c58 h.1 dN_millionths_28 ?_
    replace h := h.2
    refine r_iinc 3 3 rfl (by decide) dN_millionths_29 ?_
    refine r_goto (tgt := 2) dN_millionths_32 (by decide) ?_
    refine r_sub [1, 2, 3, 0] ?_ h
    rfl
set_option maxRecDepth 4000 in
theorem wN_millionths_37 {X : Cx} (x1 x2 x3 : Int) (sw : Bool) (m : Mem) (Q : Int → Bool → Mem → Prop) (h : ((w32 x1 < w32 x3 → M2 X 1 mT_weigh [vr 59, vr 58, vi (m 2 3), vi (-1)] sw m (fun z1 sw1 m1 => R2 X 3 mN_millionths 107 [(0, vr 47), (3, vl 0), (5, vi 0)] [] sw1 m1 Q)) ∧ (¬ (w32 x1 < w32 x3) → M2 X 2 mN_whom [vr 47, vi x2, vi (x1 + 1), vi x3] sw m (fun z2 sw2 m2 => ((w32 z2 = (-1) → R2 X 3 mN_millionths 37 [(0, vr 47), (1, vi x1), (2, vi x2), (3, vi (x3 + 1))] [] sw2 m2 Q) ∧ (¬ (w32 z2 = (-1)) → ((0 ≤ w32 z2 ∧ w32 z2 < 5) ∧ ((0 ≤ w32 (x1 - x3) ∧ w32 (x1 - x3) < 6) ∧ ((0 ≤ w32 z2 ∧ w32 z2 < 5) ∧ R2 X 3 mN_millionths 37 [(0, vr 47), (1, vi x1), (2, vi x2), (3, vi (x3 + 1))] [] sw2 (upm m2 58 (w32 z2) (m2 (53 + w32 z2) (w32 (x1 - x3)))) Q))))))))) : R2 X 3 mN_millionths 37 [(0, vr 47), (1, vi x1), (2, vi x2), (3, vi x3)] [] sw m Q := by
  refine r_iload_n 3 3 rfl dN_millionths_37 rfl ?_
  refine r_iload_n 1 1 rfl dN_millionths_38 rfl ?_
  refine r_ifc_gt (tgt := 83) dN_millionths_39 (by decide) (fun hc => ?_) (fun hc => ?_)
  · replace h := h.1 hc
    refine r_aload_n 0 0 rfl dN_millionths_83 rfl ?_
    refine q_getR 6 c47 fN_23 rfl rfl (g47_6 sw) (by decide) dN_millionths_84 ?_
    refine r_aload_n 0 0 rfl dN_millionths_87 rfl ?_
    refine q_getR 5 c47 fN_19 rfl rfl (g47_5 sw) (by decide) dN_millionths_88 ?_
    refine r_aload_n 0 0 rfl dN_millionths_91 rfl ?_
    refine q_getR 0 c47 fN_31 rfl rfl (g47_0 sw) (by decide) dN_millionths_92 ?_
    refine q_getI 3 c2 fN_43 rfl rfl dN_millionths_95 ?_
    refine r_iconst dN_millionths_98 ?_
    refine r_callSv [_, _, _, _] rfl oT_weigh iT_weigh yN_73 (by decide) ⟨Nat.le_refl _, Nat.le_refl _⟩ rfl (Nat.le_of_ble_eq_true rfl) dN_millionths_99 h (fun z1 r1 m1 h => ?_)
    obtain ⟨sw1, rfl, h⟩ := h
    refine r_lconst dN_millionths_102 ?_
    refine r_lstore_n 3 (by decide) dN_millionths_103 rfl ?_
    refine r_iconst dN_millionths_104 ?_
    refine r_istore 5 (by decide) dN_millionths_105 ?_
    refine r_sub [2, 1, 0] ?_ h
    rfl
  · replace h := h.2 hc
    refine r_aload_n 0 0 rfl dN_millionths_42 rfl ?_
    refine r_iload_n 2 2 rfl dN_millionths_43 rfl ?_
    refine r_iload_n 1 1 rfl dN_millionths_44 rfl ?_
    refine r_iconst dN_millionths_45 ?_
    refine r_iadd dN_millionths_46 ?_
    refine r_iload_n 3 3 rfl dN_millionths_47 rfl ?_
    refine r_callVi 7 [_, _, _] rfl c47 rfl rfl oN_whom iN_whom sN_whom yN_69 (by decide) ⟨Nat.le_refl _, Nat.le_refl _⟩ rfl (Nat.le_of_ble_eq_true rfl) dN_millionths_48 h (fun z2 r2 m2 h => ?_)
    obtain ⟨sw2, rfl, h⟩ := h
    refine r_istore 4 (by decide) dN_millionths_51 ?_
    refine r_iload 4 0 rfl dN_millionths_53 ?_
    refine r_iconst dN_millionths_55 ?_
    refine r_ifc_eq (tgt := 77) dN_millionths_56 (by decide) (fun hc => ?_) (fun hc => ?_)
    · replace h := h.1 hc
      refine r_iinc 3 4 rfl (by decide) dN_millionths_77 ?_
      refine r_goto (tgt := 37) dN_millionths_80 (by decide) ?_
      refine r_sub [2, 3, 4, 0] ?_ h
      rfl
    · replace h := h.2 hc
      refine r_aload_n 0 1 rfl dN_millionths_59 rfl ?_
      refine q_getR 5 c47 fN_19 rfl rfl (g47_5 sw2) (by decide) dN_millionths_60 ?_
      refine r_iload 4 0 rfl dN_millionths_63 ?_
      refine r_aload_n 0 1 rfl dN_millionths_65 rfl ?_
      refine q_getR 4 c47 fN_16 rfl rfl (g47_4 sw2) (by decide) dN_millionths_66 ?_
      refine r_iload 4 0 rfl dN_millionths_69 ?_
      have hi2 := h.1
      replace h := h.2
      refine q_aaload (w32 z2) (by decide) rfl c52 hi2 (gr52 sw2 hi2) (nr52 hi2) dN_millionths_71 ?_
      refine r_iload_n 1 2 rfl dN_millionths_72 rfl ?_
      refine r_iload_n 3 4 rfl dN_millionths_73 rfl ?_
      refine r_isub dN_millionths_74 ?_
      refine q_iaload (w32 (x1 - x3)) rfl (cr52 hi2) h.1 dN_millionths_75 ?_
      replace h := h.2
      refine q_iastore (w32 z2) rfl c58 h.1 dN_millionths_76 ?_
      replace h := h.2
      refine r_iinc 3 4 rfl (by decide) dN_millionths_77 ?_
      refine r_goto (tgt := 37) dN_millionths_80 (by decide) ?_
      refine r_sub [2, 3, 4, 0] ?_ h
      rfl
set_option maxRecDepth 4000 in
theorem wN_millionths_107 {X : Cx} (x3 x5 : Int) (sw : Bool) (m : Mem) (Q : Int → Bool → Mem → Prop) (h : ((w32 (m 23 5) ≤ w32 x5 → M2 X 1 mZ_cut [vl x3, vl 1000000, vl (m 37 7)] sw m (fun z1 sw1 m1 => Q z1 sw1 m1)) ∧ (¬ (w32 (m 23 5) ≤ w32 x5) → ((0 ≤ w32 x5 ∧ w32 x5 < 512) ∧ ((w32 (m 36 (w32 x5)) = (-1) → R2 X 3 mN_millionths 107 [(0, vr 47), (3, vl x3), (5, vi (x5 + 1))] [] sw m Q) ∧ (¬ (w32 (m 36 (w32 x5)) = (-1)) → ((0 ≤ w32 x5 ∧ w32 x5 < 32) ∧ R2 X 3 mN_millionths 107 [(0, vr 47), (3, vl (x3 + (m 59 (w32 x5)))), (5, vi (x5 + 1))] [] sw m Q))))))) : R2 X 3 mN_millionths 107 [(0, vr 47), (3, vl x3), (5, vi x5)] [] sw m Q := by
  refine r_iload 5 2 rfl dN_millionths_107 ?_
  refine r_aload_n 0 0 rfl dN_millionths_109 rfl ?_
  refine q_getR 1 c47 fN_35 rfl rfl (g47_1 sw) (by decide) dN_millionths_110 ?_
  refine q_getI 5 c23 fN_79 rfl rfl dN_millionths_113 ?_
  refine r_ifc_ge (tgt := 149) dN_millionths_116 (by decide) (fun hc => ?_) (fun hc => ?_)
  · replace h := h.1 hc
    refine r_lload_n 3 1 rfl dN_millionths_149 rfl ?_
    refine r_ldc2 (z := 1000000) dN_millionths_150 kN_87 ?_
    refine r_aload_n 0 0 rfl dN_millionths_153 rfl ?_
    refine q_getR 2 c47 fN_39 rfl rfl (g47_2 sw) (by decide) dN_millionths_154 ?_
    refine q_getL 7 c37 fN_89 rfl rfl dN_millionths_157 ?_
    refine r_callSl [_, _, _] rfl oZ_cut iZ_cut yN_93 (by decide) ⟨Nat.le_refl _, Nat.le_refl _⟩ rfl (Nat.le_of_ble_eq_true rfl) dN_millionths_160 h (fun z1 r1 m1 h => ?_)
    obtain ⟨sw1, rfl, h⟩ := h
    refine r_l2i dN_millionths_163 ?_
    exact q_iret rfl h dN_millionths_164
  · replace h := h.2 hc
    refine r_aload_n 0 0 rfl dN_millionths_119 rfl ?_
    refine q_getR 1 c47 fN_35 rfl rfl (g47_1 sw) (by decide) dN_millionths_120 ?_
    refine q_getR 4 c23 fN_84 rfl rfl (g23_4 sw) (by decide) dN_millionths_123 ?_
    refine r_iload 5 2 rfl dN_millionths_126 ?_
    refine q_iaload (w32 x5) rfl c36 h.1 dN_millionths_128 ?_
    replace h := h.2
    refine r_iconst dN_millionths_129 ?_
    refine r_ifc_eq (tgt := 143) dN_millionths_130 (by decide) (fun hc => ?_) (fun hc => ?_)
    · replace h := h.1 hc
      refine r_iinc 5 2 rfl (by decide) dN_millionths_143 ?_
      refine r_goto (tgt := 107) dN_millionths_146 (by decide) ?_
      refine r_sub [1, 2, 0] ?_ h
      rfl
    · replace h := h.2 hc
      refine r_lload_n 3 1 rfl dN_millionths_133 rfl ?_
      refine r_aload_n 0 0 rfl dN_millionths_134 rfl ?_
      refine q_getR 6 c47 fN_23 rfl rfl (g47_6 sw) (by decide) dN_millionths_135 ?_
      refine r_iload 5 2 rfl dN_millionths_138 ?_
      refine q_laload (w32 x5) rfl c59 h.1 dN_millionths_140 ?_
      replace h := h.2
      refine r_ladd dN_millionths_141 ?_
      refine r_lstore_n 3 (by decide) dN_millionths_142 rfl ?_
      refine r_iinc 5 2 rfl (by decide) dN_millionths_143 ?_
      refine r_goto (tgt := 107) dN_millionths_146 (by decide) ?_
      refine r_sub [2, 1, 0] ?_ h
      rfl
theorem dN_togetherOf_0 : decode mN_togetherOf.2.1 0 = .ok (.aload_n 0, 1) := by decide +kernel
theorem dN_togetherOf_1 : decode mN_togetherOf.2.1 1 = .ok (.getfield 13, 3) := by decide +kernel
theorem dN_togetherOf_4 : decode mN_togetherOf.2.1 4 = .ok (.iload_n 1, 1) := by decide +kernel
theorem dN_togetherOf_5 : decode mN_togetherOf.2.1 5 = .ok (.iconst 1, 1) := by decide +kernel
theorem dN_togetherOf_6 : decode mN_togetherOf.2.1 6 = .ok (.isub, 1) := by decide +kernel
theorem dN_togetherOf_7 : decode mN_togetherOf.2.1 7 = .ok (.aaload, 1) := by decide +kernel
theorem dN_togetherOf_8 : decode mN_togetherOf.2.1 8 = .ok (.iload_n 2, 1) := by decide +kernel
theorem dN_togetherOf_9 : decode mN_togetherOf.2.1 9 = .ok (.iaload, 1) := by decide +kernel
theorem dN_togetherOf_10 : decode mN_togetherOf.2.1 10 = .ok (.ireturn, 1) := by decide +kernel
/- N_togetherOf: (II)I -/
set_option maxRecDepth 4000 in
theorem wN_togetherOf {X : Cx} (a1 a2 : Int) (sw : Bool) (m : Mem) (Q : Int → Bool → Mem → Prop) (h : ((0 ≤ w32 (a1 - 1) ∧ w32 (a1 - 1) < 3) ∧ ((0 ≤ w32 a2 ∧ w32 a2 < 216) ∧ Q (m (49 + w32 (a1 - 1)) (w32 a2)) sw m))) : M2 X 1 mN_togetherOf [vr 47, vi a1, vi a2] sw m Q := by
  refine Mt.of pN_togetherOf (Nat.le_of_ble_eq_true rfl) (Nat.le_refl _) ?_
  show R2 X 1 mN_togetherOf 0 [(0, vr 47), (1, vi a1), (2, vi a2)] [] sw m Q
  refine r_aload_n 0 0 rfl dN_togetherOf_0 rfl ?_
  refine q_getR 3 c47 fN_13 rfl rfl (g47_3 sw) (by decide) dN_togetherOf_1 ?_
  refine r_iload_n 1 1 rfl dN_togetherOf_4 rfl ?_
  refine r_iconst dN_togetherOf_5 ?_
  refine r_isub dN_togetherOf_6 ?_
  have hi0 := h.1
  replace h := h.2
  refine q_aaload (w32 (a1 - 1)) (by decide) rfl c48 hi0 (gr48 sw hi0) (nr48 hi0) dN_togetherOf_7 ?_
  refine r_iload_n 2 2 rfl dN_togetherOf_8 rfl ?_
  refine q_iaload (w32 a2) rfl (cr48 hi0) h.1 dN_togetherOf_9 ?_
  replace h := h.2
  exact q_iret rfl h dN_togetherOf_10
theorem dN_whom_0 : decode mN_whom.2.1 0 = .ok (.iload_n 1, 1) := by decide +kernel
theorem dN_whom_1 : decode mN_whom.2.1 1 = .ok (.istore 4, 2) := by decide +kernel
theorem dN_whom_3 : decode mN_whom.2.1 3 = .ok (.iload_n 2, 1) := by decide +kernel
theorem dN_whom_4 : decode mN_whom.2.1 4 = .ok (.iconst 1, 1) := by decide +kernel
theorem dN_whom_5 : decode mN_whom.2.1 5 = .ok (.isub, 1) := by decide +kernel
theorem dN_whom_6 : decode mN_whom.2.1 6 = .ok (.istore 5, 2) := by decide +kernel
theorem dN_whom_8 : decode mN_whom.2.1 8 = .ok (.iload 5, 2) := by decide +kernel
theorem dN_whom_10 : decode mN_whom.2.1 10 = .ok (.iload_n 3, 1) := by decide +kernel
theorem dN_whom_11 : decode mN_whom.2.1 11 = .ok (.if_icmp .le 17, 3) := by decide +kernel
theorem dN_whom_14 : decode mN_whom.2.1 14 = .ok (.aload_n 0, 1) := by decide +kernel
theorem dN_whom_15 : decode mN_whom.2.1 15 = .ok (.iload 4, 2) := by decide +kernel
theorem dN_whom_17 : decode mN_whom.2.1 17 = .ok (.invokevirtual 51, 3) := by decide +kernel
theorem dN_whom_20 : decode mN_whom.2.1 20 = .ok (.istore 4, 2) := by decide +kernel
theorem dN_whom_22 : decode mN_whom.2.1 22 = .ok (.iinc 5 (-1), 3) := by decide +kernel
theorem dN_whom_25 : decode mN_whom.2.1 25 = .ok (.goto (-17), 3) := by decide +kernel
theorem dN_whom_28 : decode mN_whom.2.1 28 = .ok (.iload 4, 2) := by decide +kernel
theorem dN_whom_30 : decode mN_whom.2.1 30 = .ok (.aload_n 0, 1) := by decide +kernel
theorem dN_whom_31 : decode mN_whom.2.1 31 = .ok (.iload 4, 2) := by decide +kernel
theorem dN_whom_33 : decode mN_whom.2.1 33 = .ok (.invokevirtual 51, 3) := by decide +kernel
theorem dN_whom_36 : decode mN_whom.2.1 36 = .ok (.aload_n 0, 1) := by decide +kernel
theorem dN_whom_37 : decode mN_whom.2.1 37 = .ok (.getfield 27, 3) := by decide +kernel
theorem dN_whom_40 : decode mN_whom.2.1 40 = .ok (.imul, 1) := by decide +kernel
theorem dN_whom_41 : decode mN_whom.2.1 41 = .ok (.isub, 1) := by decide +kernel
theorem dN_whom_42 : decode mN_whom.2.1 42 = .ok (.iconst 1, 1) := by decide +kernel
theorem dN_whom_43 : decode mN_whom.2.1 43 = .ok (.isub, 1) := by decide +kernel
theorem dN_whom_44 : decode mN_whom.2.1 44 = .ok (.ireturn, 1) := by decide +kernel
/- N_whom: (III)I -/
set_option maxRecDepth 4000 in
theorem wN_whom {X : Cx} (a1 a2 a3 : Int) (sw : Bool) (m : Mem) (Q : Int → Bool → Mem → Prop) (h : R2 X 2 mN_whom 8 [(0, vr 47), (3, vi a3), (4, vi a1), (5, vi (a2 - 1))] [] sw m Q) : M2 X 2 mN_whom [vr 47, vi a1, vi a2, vi a3] sw m Q := by
  refine Mt.of pN_whom (Nat.le_of_ble_eq_true rfl) (Nat.le_refl _) ?_
  show R2 X 2 mN_whom 0 [(0, vr 47), (1, vi a1), (2, vi a2), (3, vi a3)] [] sw m Q
  refine r_iload_n 1 1 rfl dN_whom_0 rfl ?_
  refine r_istore 4 (by decide) dN_whom_1 ?_
  refine r_iload_n 2 3 rfl dN_whom_3 rfl ?_
  refine r_iconst dN_whom_4 ?_
  refine r_isub dN_whom_5 ?_
  refine r_istore 5 (by decide) dN_whom_6 ?_
  refine r_sub [2, 5, 1, 0] ?_ h
  rfl
set_option maxRecDepth 4000 in
theorem wN_whom_8 {X : Cx} (x3 x4 x5 : Int) (sw : Bool) (m : Mem) (Q : Int → Bool → Mem → Prop) (h : ((w32 x5 ≤ w32 x3 → M2 X 1 mN_withoutLast [vr 47, vi x4] sw m (fun z1 sw1 m1 => Q ((x4 - (z1 * (m1 47 7))) - 1) sw1 m1)) ∧ (¬ (w32 x5 ≤ w32 x3) → M2 X 1 mN_withoutLast [vr 47, vi x4] sw m (fun z2 sw2 m2 => R2 X 2 mN_whom 8 [(0, vr 47), (3, vi x3), (4, vi z2), (5, vi (x5 + (-1)))] [] sw2 m2 Q)))) : R2 X 2 mN_whom 8 [(0, vr 47), (3, vi x3), (4, vi x4), (5, vi x5)] [] sw m Q := by
  refine r_iload 5 3 rfl dN_whom_8 ?_
  refine r_iload_n 3 1 rfl dN_whom_10 rfl ?_
  refine r_ifc_le (tgt := 28) dN_whom_11 (by decide) (fun hc => ?_) (fun hc => ?_)
  · replace h := h.1 hc
    refine r_iload 4 2 rfl dN_whom_28 ?_
    refine r_aload_n 0 0 rfl dN_whom_30 rfl ?_
    refine r_iload 4 2 rfl dN_whom_31 ?_
    refine r_callVi 7 [_] rfl c47 rfl rfl oN_withoutLast iN_withoutLast sN_withoutLast yN_51 (by decide) ⟨Nat.le_refl _, Nat.le_refl _⟩ rfl (Nat.le_of_ble_eq_true rfl) dN_whom_33 h (fun z1 r1 m1 h => ?_)
    obtain ⟨sw1, rfl, h⟩ := h
    refine r_aload_n 0 0 rfl dN_whom_36 rfl ?_
    refine q_getI 7 c47 fN_27 rfl rfl dN_whom_37 ?_
    refine r_imul dN_whom_40 ?_
    refine r_isub dN_whom_41 ?_
    refine r_iconst dN_whom_42 ?_
    refine r_isub dN_whom_43 ?_
    exact q_iret rfl h dN_whom_44
  · replace h := h.2 hc
    refine r_aload_n 0 0 rfl dN_whom_14 rfl ?_
    refine r_iload 4 2 rfl dN_whom_15 ?_
    refine r_callVi 7 [_] rfl c47 rfl rfl oN_withoutLast iN_withoutLast sN_withoutLast yN_51 (by decide) ⟨Nat.le_refl _, Nat.le_refl _⟩ rfl (Nat.le_of_ble_eq_true rfl) dN_whom_17 h (fun z2 r2 m2 h => ?_)
    obtain ⟨sw2, rfl, h⟩ := h
    refine r_istore 4 (by decide) dN_whom_20 ?_
    refine r_iinc 5 3 rfl (by decide) dN_whom_22 ?_
    refine r_goto (tgt := 8) dN_whom_25 (by decide) ?_
    refine r_sub [2, 3, 1, 0] ?_ h
    rfl
theorem dN_withoutLast_0 : decode mN_withoutLast.2.1 0 = .ok (.aload_n 0, 1) := by decide +kernel
theorem dN_withoutLast_1 : decode mN_withoutLast.2.1 1 = .ok (.getfield 27, 3) := by decide +kernel
theorem dN_withoutLast_4 : decode mN_withoutLast.2.1 4 = .ok (.ifCond .le 12, 3) := by decide +kernel
theorem dN_withoutLast_7 : decode mN_withoutLast.2.1 7 = .ok (.iload_n 1, 1) := by decide +kernel
theorem dN_withoutLast_8 : decode mN_withoutLast.2.1 8 = .ok (.aload_n 0, 1) := by decide +kernel
theorem dN_withoutLast_9 : decode mN_withoutLast.2.1 9 = .ok (.getfield 27, 3) := by decide +kernel
theorem dN_withoutLast_12 : decode mN_withoutLast.2.1 12 = .ok (.idiv, 1) := by decide +kernel
theorem dN_withoutLast_13 : decode mN_withoutLast.2.1 13 = .ok (.goto 4, 3) := by decide +kernel
theorem dN_withoutLast_16 : decode mN_withoutLast.2.1 16 = .ok (.iconst 0, 1) := by decide +kernel
theorem dN_withoutLast_17 : decode mN_withoutLast.2.1 17 = .ok (.ireturn, 1) := by decide +kernel
/- N_withoutLast: (I)I -/
set_option maxRecDepth 4000 in
theorem wN_withoutLast {X : Cx} (a1 : Int) (sw : Bool) (m : Mem) (Q : Int → Bool → Mem → Prop) (h : ((w32 (m 47 7) ≤ 0 → Q 0 sw m) ∧ (¬ (w32 (m 47 7) ≤ 0) → (¬ w32 (m 47 7) = 0 ∧ Q (zdiv a1 (m 47 7)) sw m)))) : M2 X 1 mN_withoutLast [vr 47, vi a1] sw m Q := by
  refine Mt.of pN_withoutLast (Nat.le_of_ble_eq_true rfl) (Nat.le_refl _) ?_
  show R2 X 1 mN_withoutLast 0 [(0, vr 47), (1, vi a1)] [] sw m Q
  refine r_aload_n 0 0 rfl dN_withoutLast_0 rfl ?_
  refine q_getI 7 c47 fN_27 rfl rfl dN_withoutLast_1 ?_
  refine r_if_le (tgt := 16) dN_withoutLast_4 (by decide) (fun hc => ?_) (fun hc => ?_)
  · replace h := h.1 hc
    refine r_iconst dN_withoutLast_16 ?_
    exact q_iret rfl h dN_withoutLast_17
  · replace h := h.2 hc
    refine r_iload_n 1 1 rfl dN_withoutLast_7 rfl ?_
    refine r_aload_n 0 0 rfl dN_withoutLast_8 rfl ?_
    refine q_getI 7 c47 fN_27 rfl rfl dN_withoutLast_9 ?_
    refine r_idiv h.1 dN_withoutLast_12 ?_
    replace h := h.2
    refine r_goto (tgt := 17) dN_withoutLast_13 (by decide) ?_
    exact q_iret rfl h dN_withoutLast_17
