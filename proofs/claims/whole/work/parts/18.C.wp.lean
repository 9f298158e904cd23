theorem dC_worthOf_0 : decode mC_worthOf.2.1 0 = .ok (.aload_n 0, 1) := by decide +kernel
theorem dC_worthOf_1 : decode mC_worthOf.2.1 1 = .ok (.getfield 15, 3) := by decide +kernel
theorem dC_worthOf_4 : decode mC_worthOf.2.1 4 = .ok (.iconst 0, 1) := by decide +kernel
theorem dC_worthOf_5 : decode mC_worthOf.2.1 5 = .ok (.bipush 8, 2) := by decide +kernel
theorem dC_worthOf_7 : decode mC_worthOf.2.1 7 = .ok (.invokevirtual 29, 3) := by decide +kernel
theorem dC_worthOf_10 : decode mC_worthOf.2.1 10 = .ok (.istore_n 2, 1) := by decide +kernel
theorem dC_worthOf_11 : decode mC_worthOf.2.1 11 = .ok (.aload_n 0, 1) := by decide +kernel
theorem dC_worthOf_12 : decode mC_worthOf.2.1 12 = .ok (.getfield 15, 3) := by decide +kernel
theorem dC_worthOf_15 : decode mC_worthOf.2.1 15 = .ok (.iconst 0, 1) := by decide +kernel
theorem dC_worthOf_16 : decode mC_worthOf.2.1 16 = .ok (.bipush 9, 2) := by decide +kernel
theorem dC_worthOf_18 : decode mC_worthOf.2.1 18 = .ok (.invokevirtual 29, 3) := by decide +kernel
theorem dC_worthOf_21 : decode mC_worthOf.2.1 21 = .ok (.istore_n 3, 1) := by decide +kernel
theorem dC_worthOf_22 : decode mC_worthOf.2.1 22 = .ok (.aload_n 0, 1) := by decide +kernel
theorem dC_worthOf_23 : decode mC_worthOf.2.1 23 = .ok (.getfield 15, 3) := by decide +kernel
theorem dC_worthOf_26 : decode mC_worthOf.2.1 26 = .ok (.iconst 0, 1) := by decide +kernel
theorem dC_worthOf_27 : decode mC_worthOf.2.1 27 = .ok (.bipush 10, 2) := by decide +kernel
theorem dC_worthOf_29 : decode mC_worthOf.2.1 29 = .ok (.invokevirtual 29, 3) := by decide +kernel
theorem dC_worthOf_32 : decode mC_worthOf.2.1 32 = .ok (.istore 4, 2) := by decide +kernel
theorem dC_worthOf_34 : decode mC_worthOf.2.1 34 = .ok (.lconst 0, 1) := by decide +kernel
theorem dC_worthOf_35 : decode mC_worthOf.2.1 35 = .ok (.lstore 5, 2) := by decide +kernel
theorem dC_worthOf_37 : decode mC_worthOf.2.1 37 = .ok (.iconst 0, 1) := by decide +kernel
theorem dC_worthOf_38 : decode mC_worthOf.2.1 38 = .ok (.istore 7, 2) := by decide +kernel
theorem dC_worthOf_40 : decode mC_worthOf.2.1 40 = .ok (.iload 7, 2) := by decide +kernel
theorem dC_worthOf_42 : decode mC_worthOf.2.1 42 = .ok (.aload_n 0, 1) := by decide +kernel
theorem dC_worthOf_43 : decode mC_worthOf.2.1 43 = .ok (.getfield 23, 3) := by decide +kernel
theorem dC_worthOf_46 : decode mC_worthOf.2.1 46 = .ok (.getfield 33, 3) := by decide +kernel
theorem dC_worthOf_49 : decode mC_worthOf.2.1 49 = .ok (.if_icmp .ge 75, 3) := by decide +kernel
theorem dC_worthOf_52 : decode mC_worthOf.2.1 52 = .ok (.aload_n 0, 1) := by decide +kernel
theorem dC_worthOf_53 : decode mC_worthOf.2.1 53 = .ok (.getfield 23, 3) := by decide +kernel
theorem dC_worthOf_56 : decode mC_worthOf.2.1 56 = .ok (.getfield 39, 3) := by decide +kernel
theorem dC_worthOf_59 : decode mC_worthOf.2.1 59 = .ok (.iload 7, 2) := by decide +kernel
theorem dC_worthOf_61 : decode mC_worthOf.2.1 61 = .ok (.iaload, 1) := by decide +kernel
theorem dC_worthOf_62 : decode mC_worthOf.2.1 62 = .ok (.istore 8, 2) := by decide +kernel
theorem dC_worthOf_64 : decode mC_worthOf.2.1 64 = .ok (.iload 8, 2) := by decide +kernel
theorem dC_worthOf_66 : decode mC_worthOf.2.1 66 = .ok (.iload_n 1, 1) := by decide +kernel
theorem dC_worthOf_67 : decode mC_worthOf.2.1 67 = .ok (.iadd, 1) := by decide +kernel
theorem dC_worthOf_68 : decode mC_worthOf.2.1 68 = .ok (.iload_n 2, 1) := by decide +kernel
theorem dC_worthOf_69 : decode mC_worthOf.2.1 69 = .ok (.isub, 1) := by decide +kernel
theorem dC_worthOf_70 : decode mC_worthOf.2.1 70 = .ok (.istore 9, 2) := by decide +kernel
theorem dC_worthOf_72 : decode mC_worthOf.2.1 72 = .ok (.iload 9, 2) := by decide +kernel
theorem dC_worthOf_74 : decode mC_worthOf.2.1 74 = .ok (.ifCond .le 11, 3) := by decide +kernel
theorem dC_worthOf_77 : decode mC_worthOf.2.1 77 = .ok (.iload 9, 2) := by decide +kernel
theorem dC_worthOf_79 : decode mC_worthOf.2.1 79 = .ok (.iload 4, 2) := by decide +kernel
theorem dC_worthOf_81 : decode mC_worthOf.2.1 81 = .ok (.imul, 1) := by decide +kernel
theorem dC_worthOf_82 : decode mC_worthOf.2.1 82 = .ok (.goto 8, 3) := by decide +kernel
theorem dC_worthOf_85 : decode mC_worthOf.2.1 85 = .ok (.iload 9, 2) := by decide +kernel
theorem dC_worthOf_87 : decode mC_worthOf.2.1 87 = .ok (.ineg, 1) := by decide +kernel
theorem dC_worthOf_88 : decode mC_worthOf.2.1 88 = .ok (.iload_n 3, 1) := by decide +kernel
theorem dC_worthOf_89 : decode mC_worthOf.2.1 89 = .ok (.imul, 1) := by decide +kernel
theorem dC_worthOf_90 : decode mC_worthOf.2.1 90 = .ok (.istore 10, 2) := by decide +kernel
theorem dC_worthOf_92 : decode mC_worthOf.2.1 92 = .ok (.lload 5, 2) := by decide +kernel
theorem dC_worthOf_94 : decode mC_worthOf.2.1 94 = .ok (.aload_n 0, 1) := by decide +kernel
theorem dC_worthOf_95 : decode mC_worthOf.2.1 95 = .ok (.getfield 23, 3) := by decide +kernel
theorem dC_worthOf_98 : decode mC_worthOf.2.1 98 = .ok (.getfield 43, 3) := by decide +kernel
theorem dC_worthOf_101 : decode mC_worthOf.2.1 101 = .ok (.iload 8, 2) := by decide +kernel
theorem dC_worthOf_103 : decode mC_worthOf.2.1 103 = .ok (.laload, 1) := by decide +kernel
theorem dC_worthOf_104 : decode mC_worthOf.2.1 104 = .ok (.iconst 0, 1) := by decide +kernel
theorem dC_worthOf_105 : decode mC_worthOf.2.1 105 = .ok (.bipush 100, 2) := by decide +kernel
theorem dC_worthOf_107 : decode mC_worthOf.2.1 107 = .ok (.iload 10, 2) := by decide +kernel
theorem dC_worthOf_109 : decode mC_worthOf.2.1 109 = .ok (.isub, 1) := by decide +kernel
theorem dC_worthOf_110 : decode mC_worthOf.2.1 110 = .ok (.invokestatic 46, 3) := by decide +kernel
theorem dC_worthOf_113 : decode mC_worthOf.2.1 113 = .ok (.i2l, 1) := by decide +kernel
theorem dC_worthOf_114 : decode mC_worthOf.2.1 114 = .ok (.lmul, 1) := by decide +kernel
theorem dC_worthOf_115 : decode mC_worthOf.2.1 115 = .ok (.ladd, 1) := by decide +kernel
theorem dC_worthOf_116 : decode mC_worthOf.2.1 116 = .ok (.lstore 5, 2) := by decide +kernel
theorem dC_worthOf_118 : decode mC_worthOf.2.1 118 = .ok (.iinc 7 1, 3) := by decide +kernel
theorem dC_worthOf_121 : decode mC_worthOf.2.1 121 = .ok (.goto (-81), 3) := by decide +kernel
theorem dC_worthOf_124 : decode mC_worthOf.2.1 124 = .ok (.lload 5, 2) := by decide +kernel
theorem dC_worthOf_126 : decode mC_worthOf.2.1 126 = .ok (.ldc2_w 51, 3) := by decide +kernel
theorem dC_worthOf_129 : decode mC_worthOf.2.1 129 = .ok (.aload_n 0, 1) := by decide +kernel
theorem dC_worthOf_130 : decode mC_worthOf.2.1 130 = .ok (.getfield 23, 3) := by decide +kernel
theorem dC_worthOf_133 : decode mC_worthOf.2.1 133 = .ok (.getfield 53, 3) := by decide +kernel
theorem dC_worthOf_136 : decode mC_worthOf.2.1 136 = .ok (.invokestatic 57, 3) := by decide +kernel
theorem dC_worthOf_139 : decode mC_worthOf.2.1 139 = .ok (.l2i, 1) := by decide +kernel
theorem dC_worthOf_140 : decode mC_worthOf.2.1 140 = .ok (.ireturn, 1) := by decide +kernel
/- C_worthOf: (I)I -/
set_option maxRecDepth 4000 in
theorem wC_worthOf {X : Cx} (a1 : Int) (sw : Bool) (m : Mem) (Q : Int → Bool → Mem → Prop) (h : M2 X 2 mK_told [vr 2, vi 0, vi 8] sw m (fun z1 sw1 m1 => M2 X 2 mK_told [vr 2, vi 0, vi 9] sw1 m1 (fun z2 sw2 m2 => M2 X 2 mK_told [vr 2, vi 0, vi 10] sw2 m2 (fun z3 sw3 m3 => R2 X 3 mC_worthOf 40 [(0, vr 42), (1, vi a1), (2, vi z1), (3, vi z2), (4, vi z3), (5, vl 0), (7, vi 0)] [] sw3 m3 Q)))) : M2 X 3 mC_worthOf [vr 42, vi a1] sw m Q := by
  refine Mt.of pC_worthOf (Nat.le_of_ble_eq_true rfl) (Nat.le_refl _) ?_
  show R2 X 3 mC_worthOf 0 [(0, vr 42), (1, vi a1)] [] sw m Q
  refine r_aload_n 0 0 rfl dC_worthOf_0 rfl ?_
  refine q_getR 0 c42 fC_15 rfl rfl (g42_0 sw) (by decide) dC_worthOf_1 ?_
  refine r_iconst dC_worthOf_4 ?_
  refine r_bipush (by decide) dC_worthOf_5 ?_
  refine r_callVi 1 [_, _] rfl c2 rfl rfl oK_told iK_told sK_told yC_29 (by decide) ⟨Nat.le_refl _, Nat.le_refl _⟩ rfl (Nat.le_of_ble_eq_true rfl) dC_worthOf_7 h (fun z1 r1 m1 h => ?_)
  obtain ⟨sw1, rfl, h⟩ := h
  refine r_istore_n 2 (by decide) dC_worthOf_10 rfl ?_
  refine r_aload_n 0 1 rfl dC_worthOf_11 rfl ?_
  refine q_getR 0 c42 fC_15 rfl rfl (g42_0 sw1) (by decide) dC_worthOf_12 ?_
  refine r_iconst dC_worthOf_15 ?_
  refine r_bipush (by decide) dC_worthOf_16 ?_
  refine r_callVi 1 [_, _] rfl c2 rfl rfl oK_told iK_told sK_told yC_29 (by decide) ⟨Nat.le_refl _, Nat.le_refl _⟩ rfl (Nat.le_of_ble_eq_true rfl) dC_worthOf_18 h (fun z2 r2 m2 h => ?_)
  obtain ⟨sw2, rfl, h⟩ := h
  refine r_istore_n 3 (by decide) dC_worthOf_21 rfl ?_
  refine r_aload_n 0 2 rfl dC_worthOf_22 rfl ?_
  refine q_getR 0 c42 fC_15 rfl rfl (g42_0 sw2) (by decide) dC_worthOf_23 ?_
  refine r_iconst dC_worthOf_26 ?_
  refine r_bipush (by decide) dC_worthOf_27 ?_
  refine r_callVi 1 [_, _] rfl c2 rfl rfl oK_told iK_told sK_told yC_29 (by decide) ⟨Nat.le_refl _, Nat.le_refl _⟩ rfl (Nat.le_of_ble_eq_true rfl) dC_worthOf_29 h (fun z3 r3 m3 h => ?_)
  obtain ⟨sw3, rfl, h⟩ := h
  refine r_istore 4 (by decide) dC_worthOf_32 ?_
  refine r_lconst dC_worthOf_34 ?_
  refine r_lstore 5 (by decide) dC_worthOf_35 ?_
  refine r_iconst dC_worthOf_37 ?_
  refine r_istore 7 (by decide) dC_worthOf_38 ?_
  refine r_sub [5, 6, 4, 3, 2, 1, 0] ?_ h
  rfl
set_option maxRecDepth 4000 in
theorem wC_worthOf_40 {X : Cx} (x1 x2 x3 x4 x5 x7 : Int) (sw : Bool) (m : Mem) (Q : Int → Bool → Mem → Prop) (h : ((w32 (m 37 6) ≤ w32 x7 → M2 X 1 mZ_cut [vl x5, vl 1000, vl (m 37 7)] sw m (fun z1 sw1 m1 => Q z1 sw1 m1)) ∧ (¬ (w32 (m 37 6) ≤ w32 x7) → ((0 ≤ w32 x7 ∧ w32 x7 < 512) ∧ ((w32 (((m 41 (w32 x7)) + x1) - x2) ≤ 0 → ((0 ≤ w32 (m 41 (w32 x7)) ∧ w32 (m 41 (w32 x7)) < 541) ∧ R2 X 3 mC_worthOf 40 [(0, vr 42), (1, vi x1), (2, vi x2), (3, vi x3), (4, vi x4), (5, vl (x5 + ((m 40 (w32 (m 41 (w32 x7)))) * w32 (max 0 (w32 (100 - ((-(((m 41 (w32 x7)) + x1) - x2)) * x3))))))), (7, vi (x7 + 1))] [] sw m Q)) ∧ (¬ (w32 (((m 41 (w32 x7)) + x1) - x2) ≤ 0) → ((0 ≤ w32 (m 41 (w32 x7)) ∧ w32 (m 41 (w32 x7)) < 541) ∧ R2 X 3 mC_worthOf 40 [(0, vr 42), (1, vi x1), (2, vi x2), (3, vi x3), (4, vi x4), (5, vl (x5 + ((m 40 (w32 (m 41 (w32 x7)))) * w32 (max 0 (w32 (100 - ((((m 41 (w32 x7)) + x1) - x2) * x4))))))), (7, vi (x7 + 1))] [] sw m Q))))))) : R2 X 3 mC_worthOf 40 [(0, vr 42), (1, vi x1), (2, vi x2), (3, vi x3), (4, vi x4), (5, vl x5), (7, vi x7)] [] sw m Q := by
  refine r_iload 7 6 rfl dC_worthOf_40 ?_
  refine r_aload_n 0 0 rfl dC_worthOf_42 rfl ?_
  refine q_getR 2 c42 fC_23 rfl rfl (g42_2 sw) (by decide) dC_worthOf_43 ?_
  refine q_getI 6 c37 fC_33 rfl rfl dC_worthOf_46 ?_
  refine r_ifc_ge (tgt := 124) dC_worthOf_49 (by decide) (fun hc => ?_) (fun hc => ?_)
  · replace h := h.1 hc
    refine r_lload 5 5 rfl dC_worthOf_124 ?_
    refine r_ldc2 (z := 1000) dC_worthOf_126 kC_51 ?_
    refine r_aload_n 0 0 rfl dC_worthOf_129 rfl ?_
    refine q_getR 2 c42 fC_23 rfl rfl (g42_2 sw) (by decide) dC_worthOf_130 ?_
    refine q_getL 7 c37 fC_53 rfl rfl dC_worthOf_133 ?_
    refine r_callSl [_, _, _] rfl oZ_cut iZ_cut yC_57 (by decide) ⟨Nat.le_refl _, Nat.le_refl _⟩ rfl (Nat.le_of_ble_eq_true rfl) dC_worthOf_136 h (fun z1 r1 m1 h => ?_)
    obtain ⟨sw1, rfl, h⟩ := h
    refine r_l2i dC_worthOf_139 ?_
    exact q_iret rfl h dC_worthOf_140
  · replace h := h.2 hc
    refine r_aload_n 0 0 rfl dC_worthOf_52 rfl ?_
    refine q_getR 2 c42 fC_23 rfl rfl (g42_2 sw) (by decide) dC_worthOf_53 ?_
    refine q_getR 5 c37 fC_39 rfl rfl (g37_5 sw) (by decide) dC_worthOf_56 ?_
    refine r_iload 7 6 rfl dC_worthOf_59 ?_
    refine q_iaload (w32 x7) rfl c41 h.1 dC_worthOf_61 ?_
    replace h := h.2
    refine r_istore 8 (by decide) dC_worthOf_62 ?_
    refine r_iload 8 0 rfl dC_worthOf_64 ?_
    refine r_iload_n 1 2 rfl dC_worthOf_66 rfl ?_
    refine r_iadd dC_worthOf_67 ?_
    refine r_iload_n 2 3 rfl dC_worthOf_68 rfl ?_
    refine r_isub dC_worthOf_69 ?_
    refine r_istore 9 (by decide) dC_worthOf_70 ?_
    refine r_iload 9 0 rfl dC_worthOf_72 ?_
    refine r_if_le (tgt := 85) dC_worthOf_74 (by decide) (fun hc => ?_) (fun hc => ?_)
    · replace h := h.1 hc
      refine r_iload 9 0 rfl dC_worthOf_85 ?_
      refine r_ineg dC_worthOf_87 ?_
      refine r_iload_n 3 5 rfl dC_worthOf_88 rfl ?_
      refine r_imul dC_worthOf_89 ?_
      refine r_istore 10 (by decide) dC_worthOf_90 ?_
      refine r_lload 5 8 rfl dC_worthOf_92 ?_
      refine r_aload_n 0 3 rfl dC_worthOf_94 rfl ?_
      refine q_getR 2 c42 fC_23 rfl rfl (g42_2 sw) (by decide) dC_worthOf_95 ?_
      refine q_getR 4 c37 fC_43 rfl rfl (g37_4 sw) (by decide) dC_worthOf_98 ?_
      refine r_iload 8 2 rfl dC_worthOf_101 ?_
      refine q_laload (w32 (m 41 (w32 x7))) rfl c40 h.1 dC_worthOf_103 ?_
      replace h := h.2
      refine r_iconst dC_worthOf_104 ?_
      refine r_bipush (by decide) dC_worthOf_105 ?_
      refine r_iload 10 0 rfl dC_worthOf_107 ?_
      refine r_isub dC_worthOf_109 ?_
      refine r_max yC_46 kS_max kMathI kC_max (by decide) (Nat.le_of_ble_eq_true rfl) dC_worthOf_110 ?_
      refine r_i2l dC_worthOf_113 ?_
      refine r_lmul dC_worthOf_114 ?_
      refine r_ladd dC_worthOf_115 ?_
      refine r_lstore 5 (by decide) dC_worthOf_116 ?_
      refine r_iinc 7 9 rfl (by decide) dC_worthOf_118 ?_
      refine r_goto (tgt := 40) dC_worthOf_121 (by decide) ?_
      refine r_sub [5, 6, 7, 8, 9, 1, 0] ?_ h
      rfl
    · replace h := h.2 hc
      refine r_iload 9 0 rfl dC_worthOf_77 ?_
      refine r_iload 4 6 rfl dC_worthOf_79 ?_
      refine r_imul dC_worthOf_81 ?_
      refine r_goto (tgt := 90) dC_worthOf_82 (by decide) ?_
      refine r_istore 10 (by decide) dC_worthOf_90 ?_
      refine r_lload 5 8 rfl dC_worthOf_92 ?_
      refine r_aload_n 0 3 rfl dC_worthOf_94 rfl ?_
      refine q_getR 2 c42 fC_23 rfl rfl (g42_2 sw) (by decide) dC_worthOf_95 ?_
      refine q_getR 4 c37 fC_43 rfl rfl (g37_4 sw) (by decide) dC_worthOf_98 ?_
      refine r_iload 8 2 rfl dC_worthOf_101 ?_
      refine q_laload (w32 (m 41 (w32 x7))) rfl c40 h.1 dC_worthOf_103 ?_
      replace h := h.2
      refine r_iconst dC_worthOf_104 ?_
      refine r_bipush (by decide) dC_worthOf_105 ?_
      refine r_iload 10 0 rfl dC_worthOf_107 ?_
      refine r_isub dC_worthOf_109 ?_
      refine r_max yC_46 kS_max kMathI kC_max (by decide) (Nat.le_of_ble_eq_true rfl) dC_worthOf_110 ?_
      refine r_i2l dC_worthOf_113 ?_
      refine r_lmul dC_worthOf_114 ?_
      refine r_ladd dC_worthOf_115 ?_
      refine r_lstore 5 (by decide) dC_worthOf_116 ?_
      refine r_iinc 7 9 rfl (by decide) dC_worthOf_118 ?_
      refine r_goto (tgt := 40) dC_worthOf_121 (by decide) ?_
      refine r_sub [5, 6, 7, 8, 9, 1, 0] ?_ h
      rfl
theorem dC_bestBegin_0 : decode mC_bestBegin.2.1 0 = .ok (.sipush (-300), 3) := by decide +kernel
theorem dC_bestBegin_3 : decode mC_bestBegin.2.1 3 = .ok (.istore_n 1, 1) := by decide +kernel
theorem dC_bestBegin_4 : decode mC_bestBegin.2.1 4 = .ok (.iconst (-1), 1) := by decide +kernel
theorem dC_bestBegin_5 : decode mC_bestBegin.2.1 5 = .ok (.istore_n 2, 1) := by decide +kernel
theorem dC_bestBegin_6 : decode mC_bestBegin.2.1 6 = .ok (.sipush (-300), 3) := by decide +kernel
theorem dC_bestBegin_9 : decode mC_bestBegin.2.1 9 = .ok (.istore_n 3, 1) := by decide +kernel
theorem dC_bestBegin_10 : decode mC_bestBegin.2.1 10 = .ok (.iload_n 3, 1) := by decide +kernel
theorem dC_bestBegin_11 : decode mC_bestBegin.2.1 11 = .ok (.sipush 300, 3) := by decide +kernel
theorem dC_bestBegin_14 : decode mC_bestBegin.2.1 14 = .ok (.if_icmp .gt 27, 3) := by decide +kernel
theorem dC_bestBegin_17 : decode mC_bestBegin.2.1 17 = .ok (.aload_n 0, 1) := by decide +kernel
theorem dC_bestBegin_18 : decode mC_bestBegin.2.1 18 = .ok (.iload_n 3, 1) := by decide +kernel
theorem dC_bestBegin_19 : decode mC_bestBegin.2.1 19 = .ok (.invokevirtual 61, 3) := by decide +kernel
theorem dC_bestBegin_22 : decode mC_bestBegin.2.1 22 = .ok (.istore 4, 2) := by decide +kernel
theorem dC_bestBegin_24 : decode mC_bestBegin.2.1 24 = .ok (.iload 4, 2) := by decide +kernel
theorem dC_bestBegin_26 : decode mC_bestBegin.2.1 26 = .ok (.iload_n 2, 1) := by decide +kernel
theorem dC_bestBegin_27 : decode mC_bestBegin.2.1 27 = .ok (.if_icmp .le 8, 3) := by decide +kernel
theorem dC_bestBegin_30 : decode mC_bestBegin.2.1 30 = .ok (.iload_n 3, 1) := by decide +kernel
theorem dC_bestBegin_31 : decode mC_bestBegin.2.1 31 = .ok (.istore_n 1, 1) := by decide +kernel
theorem dC_bestBegin_32 : decode mC_bestBegin.2.1 32 = .ok (.iload 4, 2) := by decide +kernel
theorem dC_bestBegin_34 : decode mC_bestBegin.2.1 34 = .ok (.istore_n 2, 1) := by decide +kernel
theorem dC_bestBegin_35 : decode mC_bestBegin.2.1 35 = .ok (.iinc 3 1, 3) := by decide +kernel
theorem dC_bestBegin_38 : decode mC_bestBegin.2.1 38 = .ok (.goto (-28), 3) := by decide +kernel
theorem dC_bestBegin_41 : decode mC_bestBegin.2.1 41 = .ok (.iload_n 1, 1) := by decide +kernel
theorem dC_bestBegin_42 : decode mC_bestBegin.2.1 42 = .ok (.ireturn, 1) := by decide +kernel
/- C_bestBegin: ()I -/
set_option maxRecDepth 4000 in
theorem wC_bestBegin {X : Cx} (sw : Bool) (m : Mem) (Q : Int → Bool → Mem → Prop) (h : R2 X 4 mC_bestBegin 10 [(0, vr 42), (1, vi (-300)), (2, vi (-1)), (3, vi (-300))] [] sw m Q) : M2 X 4 mC_bestBegin [vr 42] sw m Q := by
  refine Mt.of pC_bestBegin (Nat.le_of_ble_eq_true rfl) (Nat.le_refl _) ?_
  show R2 X 4 mC_bestBegin 0 [(0, vr 42)] [] sw m Q
  refine r_sipush (by decide) dC_bestBegin_0 ?_
  refine r_istore_n 1 (by decide) dC_bestBegin_3 rfl ?_
  refine r_iconst dC_bestBegin_4 ?_
  refine r_istore_n 2 (by decide) dC_bestBegin_5 rfl ?_
  refine r_sipush (by decide) dC_bestBegin_6 ?_
  refine r_istore_n 3 (by decide) dC_bestBegin_9 rfl ?_
  refine r_sub [3, 2, 1, 0] ?_ h
  rfl
set_option maxRecDepth 4000 in
theorem wC_bestBegin_10 {X : Cx} (x1 x2 x3 : Int) (sw : Bool) (m : Mem) (Q : Int → Bool → Mem → Prop) (h : ((300 < w32 x3 → Q x1 sw m) ∧ (¬ (300 < w32 x3) → M2 X 3 mC_worthOf [vr 42, vi x3] sw m (fun z1 sw1 m1 => ((w32 z1 ≤ w32 x2 → R2 X 4 mC_bestBegin 10 [(0, vr 42), (1, vi x1), (2, vi x2), (3, vi (x3 + 1))] [] sw1 m1 Q) ∧ (¬ (w32 z1 ≤ w32 x2) → R2 X 4 mC_bestBegin 10 [(0, vr 42), (1, vi x3), (2, vi z1), (3, vi (x3 + 1))] [] sw1 m1 Q)))))) : R2 X 4 mC_bestBegin 10 [(0, vr 42), (1, vi x1), (2, vi x2), (3, vi x3)] [] sw m Q := by
  refine r_iload_n 3 3 rfl dC_bestBegin_10 rfl ?_
  refine r_sipush (by decide) dC_bestBegin_11 ?_
  refine r_ifc_gt (tgt := 41) dC_bestBegin_14 (by decide) (fun hc => ?_) (fun hc => ?_)
  · replace h := h.1 hc
    refine r_iload_n 1 1 rfl dC_bestBegin_41 rfl ?_
    exact q_iret rfl h dC_bestBegin_42
  · replace h := h.2 hc
    refine r_aload_n 0 0 rfl dC_bestBegin_17 rfl ?_
    refine r_iload_n 3 3 rfl dC_bestBegin_18 rfl ?_
    refine r_callVi 5 [_] rfl c42 rfl rfl oC_worthOf iC_worthOf sC_worthOf yC_61 (by decide) ⟨Nat.le_refl _, Nat.le_refl _⟩ rfl (Nat.le_of_ble_eq_true rfl) dC_bestBegin_19 h (fun z1 r1 m1 h => ?_)
    obtain ⟨sw1, rfl, h⟩ := h
    refine r_istore 4 (by decide) dC_bestBegin_22 ?_
    refine r_iload 4 0 rfl dC_bestBegin_24 ?_
    refine r_iload_n 2 3 rfl dC_bestBegin_26 rfl ?_
    refine r_ifc_le (tgt := 35) dC_bestBegin_27 (by decide) (fun hc => ?_) (fun hc => ?_)
    · replace h := h.1 hc
      refine r_iinc 3 4 rfl (by decide) dC_bestBegin_35 ?_
      refine r_goto (tgt := 10) dC_bestBegin_38 (by decide) ?_
      refine r_sub [2, 3, 4, 0] ?_ h
      rfl
    · replace h := h.2 hc
      refine r_iload_n 3 4 rfl dC_bestBegin_30 rfl ?_
      refine r_istore_n 1 (by decide) dC_bestBegin_31 rfl ?_
      refine r_iload 4 1 rfl dC_bestBegin_32 ?_
      refine r_istore_n 2 (by decide) dC_bestBegin_34 rfl ?_
      refine r_iinc 3 4 rfl (by decide) dC_bestBegin_35 ?_
      refine r_goto (tgt := 10) dC_bestBegin_38 (by decide) ?_
      refine r_sub [4, 2, 1, 0] ?_ h
      rfl
theorem dC_bestChange_0 : decode mC_bestChange.2.1 0 = .ok (.iconst 0, 1) := by decide +kernel
theorem dC_bestChange_1 : decode mC_bestChange.2.1 1 = .ok (.istore_n 3, 1) := by decide +kernel
theorem dC_bestChange_2 : decode mC_bestChange.2.1 2 = .ok (.ldc2_w 65, 3) := by decide +kernel
theorem dC_bestChange_5 : decode mC_bestChange.2.1 5 = .ok (.lstore 4, 2) := by decide +kernel
theorem dC_bestChange_7 : decode mC_bestChange.2.1 7 = .ok (.iconst 0, 1) := by decide +kernel
theorem dC_bestChange_8 : decode mC_bestChange.2.1 8 = .ok (.istore 6, 2) := by decide +kernel
theorem dC_bestChange_10 : decode mC_bestChange.2.1 10 = .ok (.iload 6, 2) := by decide +kernel
theorem dC_bestChange_12 : decode mC_bestChange.2.1 12 = .ok (.aload_n 0, 1) := by decide +kernel
theorem dC_bestChange_13 : decode mC_bestChange.2.1 13 = .ok (.getfield 15, 3) := by decide +kernel
theorem dC_bestChange_16 : decode mC_bestChange.2.1 16 = .ok (.getfield 67, 3) := by decide +kernel
theorem dC_bestChange_19 : decode mC_bestChange.2.1 19 = .ok (.if_icmp .ge 33, 3) := by decide +kernel
theorem dC_bestChange_22 : decode mC_bestChange.2.1 22 = .ok (.aload_n 0, 1) := by decide +kernel
theorem dC_bestChange_23 : decode mC_bestChange.2.1 23 = .ok (.iload_n 1, 1) := by decide +kernel
theorem dC_bestChange_24 : decode mC_bestChange.2.1 24 = .ok (.iload 6, 2) := by decide +kernel
theorem dC_bestChange_26 : decode mC_bestChange.2.1 26 = .ok (.invokevirtual 70, 3) := by decide +kernel
theorem dC_bestChange_29 : decode mC_bestChange.2.1 29 = .ok (.lstore 7, 2) := by decide +kernel
theorem dC_bestChange_31 : decode mC_bestChange.2.1 31 = .ok (.lload 7, 2) := by decide +kernel
theorem dC_bestChange_33 : decode mC_bestChange.2.1 33 = .ok (.lload 4, 2) := by decide +kernel
theorem dC_bestChange_35 : decode mC_bestChange.2.1 35 = .ok (.lcmp, 1) := by decide +kernel
theorem dC_bestChange_36 : decode mC_bestChange.2.1 36 = .ok (.ifCond .le 10, 3) := by decide +kernel
theorem dC_bestChange_39 : decode mC_bestChange.2.1 39 = .ok (.iload 6, 2) := by decide +kernel
theorem dC_bestChange_41 : decode mC_bestChange.2.1 41 = .ok (.istore_n 3, 1) := by decide +kernel
theorem dC_bestChange_42 : decode mC_bestChange.2.1 42 = .ok (.lload 7, 2) := by decide +kernel
theorem dC_bestChange_44 : decode mC_bestChange.2.1 44 = .ok (.lstore 4, 2) := by decide +kernel
theorem dC_bestChange_46 : decode mC_bestChange.2.1 46 = .ok (.iinc 6 1, 3) := by decide +kernel
theorem dC_bestChange_49 : decode mC_bestChange.2.1 49 = .ok (.goto (-39), 3) := by decide +kernel
theorem dC_bestChange_52 : decode mC_bestChange.2.1 52 = .ok (.iload_n 1, 1) := by decide +kernel
theorem dC_bestChange_53 : decode mC_bestChange.2.1 53 = .ok (.ifCond .ne 17, 3) := by decide +kernel
theorem dC_bestChange_56 : decode mC_bestChange.2.1 56 = .ok (.aload_n 0, 1) := by decide +kernel
theorem dC_bestChange_57 : decode mC_bestChange.2.1 57 = .ok (.getfield 23, 3) := by decide +kernel
theorem dC_bestChange_60 : decode mC_bestChange.2.1 60 = .ok (.getfield 53, 3) := by decide +kernel
theorem dC_bestChange_63 : decode mC_bestChange.2.1 63 = .ok (.ldc2_w 74, 3) := by decide +kernel
theorem dC_bestChange_66 : decode mC_bestChange.2.1 66 = .ok (.lmul, 1) := by decide +kernel
theorem dC_bestChange_67 : decode mC_bestChange.2.1 67 = .ok (.goto 10, 3) := by decide +kernel
theorem dC_bestChange_70 : decode mC_bestChange.2.1 70 = .ok (.aload_n 0, 1) := by decide +kernel
theorem dC_bestChange_71 : decode mC_bestChange.2.1 71 = .ok (.getfield 23, 3) := by decide +kernel
theorem dC_bestChange_74 : decode mC_bestChange.2.1 74 = .ok (.getfield 53, 3) := by decide +kernel
theorem dC_bestChange_77 : decode mC_bestChange.2.1 77 = .ok (.lstore 6, 2) := by decide +kernel
theorem dC_bestChange_79 : decode mC_bestChange.2.1 79 = .ok (.iload_n 2, 1) := by decide +kernel
theorem dC_bestChange_80 : decode mC_bestChange.2.1 80 = .ok (.ifCond .eq 7, 3) := by decide +kernel
theorem dC_bestChange_83 : decode mC_bestChange.2.1 83 = .ok (.iload_n 3, 1) := by decide +kernel
theorem dC_bestChange_84 : decode mC_bestChange.2.1 84 = .ok (.goto 14, 3) := by decide +kernel
theorem dC_bestChange_87 : decode mC_bestChange.2.1 87 = .ok (.lload 4, 2) := by decide +kernel
theorem dC_bestChange_89 : decode mC_bestChange.2.1 89 = .ok (.ldc2_w 76, 3) := by decide +kernel
theorem dC_bestChange_92 : decode mC_bestChange.2.1 92 = .ok (.lload 6, 2) := by decide +kernel
theorem dC_bestChange_94 : decode mC_bestChange.2.1 94 = .ok (.invokestatic 57, 3) := by decide +kernel
theorem dC_bestChange_97 : decode mC_bestChange.2.1 97 = .ok (.l2i, 1) := by decide +kernel
theorem dC_bestChange_98 : decode mC_bestChange.2.1 98 = .ok (.ireturn, 1) := by decide +kernel
/- C_bestChange: (IZ)I -/
set_option maxRecDepth 4000 in
theorem wC_bestChange {X : Cx} (a1 a2 : Int) (sw : Bool) (m : Mem) (Q : Int → Bool → Mem → Prop) (h : R2 X 4 mC_bestChange 10 [(0, vr 42), (1, vi a1), (2, vi a2), (3, vi 0), (4, vl (-1)), (6, vi 0)] [] sw m Q) : M2 X 4 mC_bestChange [vr 42, vi a1, vi a2] sw m Q := by
  refine Mt.of pC_bestChange (Nat.le_of_ble_eq_true rfl) (Nat.le_refl _) ?_
  show R2 X 4 mC_bestChange 0 [(0, vr 42), (1, vi a1), (2, vi a2)] [] sw m Q
  refine r_iconst dC_bestChange_0 ?_
  refine r_istore_n 3 (by decide) dC_bestChange_1 rfl ?_
  refine r_ldc2 (z := (-1)) dC_bestChange_2 kC_65 ?_
  refine r_lstore 4 (by decide) dC_bestChange_5 ?_
  refine r_iconst dC_bestChange_7 ?_
  refine r_istore 6 (by decide) dC_bestChange_8 ?_
  refine r_sub [3, 4, 5, 2, 1, 0] ?_ h
  rfl
set_option maxRecDepth 4000 in
theorem wC_bestChange_10 {X : Cx} (x1 x2 x3 x4 x6 : Int) (sw : Bool) (m : Mem) (Q : Int → Bool → Mem → Prop) (h : ((w32 (m 2 3) ≤ w32 x6 → ((¬ w32 x1 = 0 → ((w32 x2 = 0 → M2 X 1 mZ_cut [vl x4, vl 1000000, vl (m 37 7)] sw m (fun z1 sw1 m1 => Q z1 sw1 m1)) ∧ (¬ (w32 x2 = 0) → Q x3 sw m))) ∧ (¬ (¬ w32 x1 = 0) → ((w32 x2 = 0 → M2 X 1 mZ_cut [vl x4, vl 1000000, vl ((m 37 7) * 12)] sw m (fun z2 sw2 m2 => Q z2 sw2 m2)) ∧ (¬ (w32 x2 = 0) → Q x3 sw m))))) ∧ (¬ (w32 (m 2 3) ≤ w32 x6) → M2 X 3 mC_oddsChanged [vr 42, vi x1, vi x6] sw m (fun z3 sw3 m3 => ((w64 z3 ≤ w64 x4 → R2 X 4 mC_bestChange 10 [(0, vr 42), (1, vi x1), (2, vi x2), (3, vi x3), (4, vl x4), (6, vi (x6 + 1))] [] sw3 m3 Q) ∧ (¬ (w64 z3 ≤ w64 x4) → R2 X 4 mC_bestChange 10 [(0, vr 42), (1, vi x1), (2, vi x2), (3, vi x6), (4, vl z3), (6, vi (x6 + 1))] [] sw3 m3 Q)))))) : R2 X 4 mC_bestChange 10 [(0, vr 42), (1, vi x1), (2, vi x2), (3, vi x3), (4, vl x4), (6, vi x6)] [] sw m Q := by
  refine r_iload 6 5 rfl dC_bestChange_10 ?_
  refine r_aload_n 0 0 rfl dC_bestChange_12 rfl ?_
  refine q_getR 0 c42 fC_15 rfl rfl (g42_0 sw) (by decide) dC_bestChange_13 ?_
  refine q_getI 3 c2 fC_67 rfl rfl dC_bestChange_16 ?_
  refine r_ifc_ge (tgt := 52) dC_bestChange_19 (by decide) (fun hc => ?_) (fun hc => ?_)
  · replace h := h.1 hc
    refine r_iload_n 1 1 rfl dC_bestChange_52 rfl ?_
    refine r_if_ne (tgt := 70) dC_bestChange_53 (by decide) (fun hc => ?_) (fun hc => ?_)
    · replace h := h.1 hc
      refine r_aload_n 0 0 rfl dC_bestChange_70 rfl ?_
      refine q_getR 2 c42 fC_23 rfl rfl (g42_2 sw) (by decide) dC_bestChange_71 ?_
      refine q_getL 7 c37 fC_53 rfl rfl dC_bestChange_74 ?_
      refine r_lstore 6 (by decide) dC_bestChange_77 ?_
      refine r_iload_n 2 3 rfl dC_bestChange_79 rfl ?_
      refine r_if_eq (tgt := 87) dC_bestChange_80 (by decide) (fun hc => ?_) (fun hc => ?_)
      · replace h := h.1 hc
        refine r_lload 4 5 rfl dC_bestChange_87 ?_
        refine r_ldc2 (z := 1000000) dC_bestChange_89 kC_76 ?_
        refine r_lload 6 0 rfl dC_bestChange_92 ?_
        refine r_callSl [_, _, _] rfl oZ_cut iZ_cut yC_57 (by decide) ⟨Nat.le_refl _, Nat.le_refl _⟩ rfl (Nat.le_of_ble_eq_true rfl) dC_bestChange_94 h (fun z1 r1 m1 h => ?_)
        obtain ⟨sw1, rfl, h⟩ := h
        refine r_l2i dC_bestChange_97 ?_
        exact q_iret rfl h dC_bestChange_98
      · replace h := h.2 hc
        refine r_iload_n 3 4 rfl dC_bestChange_83 rfl ?_
        refine r_goto (tgt := 98) dC_bestChange_84 (by decide) ?_
        exact q_iret rfl h dC_bestChange_98
    · replace h := h.2 hc
      refine r_aload_n 0 0 rfl dC_bestChange_56 rfl ?_
      refine q_getR 2 c42 fC_23 rfl rfl (g42_2 sw) (by decide) dC_bestChange_57 ?_
      refine q_getL 7 c37 fC_53 rfl rfl dC_bestChange_60 ?_
      refine r_ldc2 (z := 12) dC_bestChange_63 kC_74 ?_
      refine r_lmul dC_bestChange_66 ?_
      refine r_goto (tgt := 77) dC_bestChange_67 (by decide) ?_
      refine r_lstore 6 (by decide) dC_bestChange_77 ?_
      refine r_iload_n 2 3 rfl dC_bestChange_79 rfl ?_
      refine r_if_eq (tgt := 87) dC_bestChange_80 (by decide) (fun hc => ?_) (fun hc => ?_)
      · replace h := h.1 hc
        refine r_lload 4 5 rfl dC_bestChange_87 ?_
        refine r_ldc2 (z := 1000000) dC_bestChange_89 kC_76 ?_
        refine r_lload 6 0 rfl dC_bestChange_92 ?_
        refine r_callSl [_, _, _] rfl oZ_cut iZ_cut yC_57 (by decide) ⟨Nat.le_refl _, Nat.le_refl _⟩ rfl (Nat.le_of_ble_eq_true rfl) dC_bestChange_94 h (fun z2 r2 m2 h => ?_)
        obtain ⟨sw2, rfl, h⟩ := h
        refine r_l2i dC_bestChange_97 ?_
        exact q_iret rfl h dC_bestChange_98
      · replace h := h.2 hc
        refine r_iload_n 3 4 rfl dC_bestChange_83 rfl ?_
        refine r_goto (tgt := 98) dC_bestChange_84 (by decide) ?_
        exact q_iret rfl h dC_bestChange_98
  · replace h := h.2 hc
    refine r_aload_n 0 0 rfl dC_bestChange_22 rfl ?_
    refine r_iload_n 1 1 rfl dC_bestChange_23 rfl ?_
    refine r_iload 6 5 rfl dC_bestChange_24 ?_
    refine r_callVl 5 [_, _] rfl c42 rfl rfl oC_oddsChanged iC_oddsChanged sC_oddsChanged yC_70 (by decide) ⟨Nat.le_refl _, Nat.le_refl _⟩ rfl (Nat.le_of_ble_eq_true rfl) dC_bestChange_26 h (fun z3 r3 m3 h => ?_)
    obtain ⟨sw3, rfl, h⟩ := h
    refine r_lstore 7 (by decide) dC_bestChange_29 ?_
    refine r_lload 7 0 rfl dC_bestChange_31 ?_
    refine r_lload 4 5 rfl dC_bestChange_33 ?_
    refine q_lc_le (tgt := 46) (A := w64 z3) (B := w64 x4) rfl rfl dC_bestChange_35 dC_bestChange_36 (by decide) (fun hc => ?_) (fun hc => ?_)
    · replace h := h.1 hc
      refine r_iinc 6 6 rfl (by decide) dC_bestChange_46 ?_
      refine r_goto (tgt := 10) dC_bestChange_49 (by decide) ?_
      refine r_sub [2, 3, 4, 5, 6, 0] ?_ h
      rfl
    · replace h := h.2 hc
      refine r_iload 6 6 rfl dC_bestChange_39 ?_
      refine r_istore_n 3 (by decide) dC_bestChange_41 rfl ?_
      refine r_lload 7 1 rfl dC_bestChange_42 ?_
      refine r_lstore 4 (by decide) dC_bestChange_44 ?_
      refine r_iinc 6 6 rfl (by decide) dC_bestChange_46 ?_
      refine r_goto (tgt := 10) dC_bestChange_49 (by decide) ?_
      refine r_sub [4, 5, 6, 2, 1, 0] ?_ h
      rfl
theorem dC_oddsChanged_0 : decode mC_oddsChanged.2.1 0 = .ok (.bipush 12, 2) := by decide +kernel
theorem dC_oddsChanged_2 : decode mC_oddsChanged.2.1 2 = .ok (.aload_n 0, 1) := by decide +kernel
theorem dC_oddsChanged_3 : decode mC_oddsChanged.2.1 3 = .ok (.getfield 23, 3) := by decide +kernel
theorem dC_oddsChanged_6 : decode mC_oddsChanged.2.1 6 = .ok (.getfield 78, 3) := by decide +kernel
theorem dC_oddsChanged_9 : decode mC_oddsChanged.2.1 9 = .ok (.iload_n 2, 1) := by decide +kernel
theorem dC_oddsChanged_10 : decode mC_oddsChanged.2.1 10 = .ok (.iaload, 1) := by decide +kernel
theorem dC_oddsChanged_11 : decode mC_oddsChanged.2.1 11 = .ok (.isub, 1) := by decide +kernel
theorem dC_oddsChanged_12 : decode mC_oddsChanged.2.1 12 = .ok (.istore_n 3, 1) := by decide +kernel
theorem dC_oddsChanged_13 : decode mC_oddsChanged.2.1 13 = .ok (.iload_n 1, 1) := by decide +kernel
theorem dC_oddsChanged_14 : decode mC_oddsChanged.2.1 14 = .ok (.ifCond .ne 21, 3) := by decide +kernel
theorem dC_oddsChanged_17 : decode mC_oddsChanged.2.1 17 = .ok (.aload_n 0, 1) := by decide +kernel
theorem dC_oddsChanged_18 : decode mC_oddsChanged.2.1 18 = .ok (.iload_n 2, 1) := by decide +kernel
theorem dC_oddsChanged_19 : decode mC_oddsChanged.2.1 19 = .ok (.sipush 144, 3) := by decide +kernel
theorem dC_oddsChanged_22 : decode mC_oddsChanged.2.1 22 = .ok (.iload_n 3, 1) := by decide +kernel
theorem dC_oddsChanged_23 : decode mC_oddsChanged.2.1 23 = .ok (.iload_n 3, 1) := by decide +kernel
theorem dC_oddsChanged_24 : decode mC_oddsChanged.2.1 24 = .ok (.imul, 1) := by decide +kernel
theorem dC_oddsChanged_25 : decode mC_oddsChanged.2.1 25 = .ok (.isub, 1) := by decide +kernel
theorem dC_oddsChanged_26 : decode mC_oddsChanged.2.1 26 = .ok (.i2l, 1) := by decide +kernel
theorem dC_oddsChanged_27 : decode mC_oddsChanged.2.1 27 = .ok (.iload_n 3, 1) := by decide +kernel
theorem dC_oddsChanged_28 : decode mC_oddsChanged.2.1 28 = .ok (.iload_n 3, 1) := by decide +kernel
theorem dC_oddsChanged_29 : decode mC_oddsChanged.2.1 29 = .ok (.imul, 1) := by decide +kernel
theorem dC_oddsChanged_30 : decode mC_oddsChanged.2.1 30 = .ok (.i2l, 1) := by decide +kernel
theorem dC_oddsChanged_31 : decode mC_oddsChanged.2.1 31 = .ok (.invokevirtual 81, 3) := by decide +kernel
theorem dC_oddsChanged_34 : decode mC_oddsChanged.2.1 34 = .ok (.lreturn, 1) := by decide +kernel
theorem dC_oddsChanged_35 : decode mC_oddsChanged.2.1 35 = .ok (.iload_n 1, 1) := by decide +kernel
theorem dC_oddsChanged_36 : decode mC_oddsChanged.2.1 36 = .ok (.iconst 1, 1) := by decide +kernel
theorem dC_oddsChanged_37 : decode mC_oddsChanged.2.1 37 = .ok (.if_icmp .ne 13, 3) := by decide +kernel
theorem dC_oddsChanged_40 : decode mC_oddsChanged.2.1 40 = .ok (.iconst 0, 1) := by decide +kernel
theorem dC_oddsChanged_41 : decode mC_oddsChanged.2.1 41 = .ok (.iload_n 3, 1) := by decide +kernel
theorem dC_oddsChanged_42 : decode mC_oddsChanged.2.1 42 = .ok (.iconst 1, 1) := by decide +kernel
theorem dC_oddsChanged_43 : decode mC_oddsChanged.2.1 43 = .ok (.isub, 1) := by decide +kernel
theorem dC_oddsChanged_44 : decode mC_oddsChanged.2.1 44 = .ok (.invokestatic 46, 3) := by decide +kernel
theorem dC_oddsChanged_47 : decode mC_oddsChanged.2.1 47 = .ok (.goto 4, 3) := by decide +kernel
theorem dC_oddsChanged_50 : decode mC_oddsChanged.2.1 50 = .ok (.iconst 0, 1) := by decide +kernel
theorem dC_oddsChanged_51 : decode mC_oddsChanged.2.1 51 = .ok (.istore 4, 2) := by decide +kernel
theorem dC_oddsChanged_53 : decode mC_oddsChanged.2.1 53 = .ok (.aload_n 0, 1) := by decide +kernel
theorem dC_oddsChanged_54 : decode mC_oddsChanged.2.1 54 = .ok (.iload_n 2, 1) := by decide +kernel
theorem dC_oddsChanged_55 : decode mC_oddsChanged.2.1 55 = .ok (.bipush 12, 2) := by decide +kernel
theorem dC_oddsChanged_57 : decode mC_oddsChanged.2.1 57 = .ok (.iload 4, 2) := by decide +kernel
theorem dC_oddsChanged_59 : decode mC_oddsChanged.2.1 59 = .ok (.isub, 1) := by decide +kernel
theorem dC_oddsChanged_60 : decode mC_oddsChanged.2.1 60 = .ok (.i2l, 1) := by decide +kernel
theorem dC_oddsChanged_61 : decode mC_oddsChanged.2.1 61 = .ok (.iload 4, 2) := by decide +kernel
theorem dC_oddsChanged_63 : decode mC_oddsChanged.2.1 63 = .ok (.i2l, 1) := by decide +kernel
theorem dC_oddsChanged_64 : decode mC_oddsChanged.2.1 64 = .ok (.invokevirtual 81, 3) := by decide +kernel
theorem dC_oddsChanged_67 : decode mC_oddsChanged.2.1 67 = .ok (.lreturn, 1) := by decide +kernel
/- C_oddsChanged: (II)J -/
set_option maxRecDepth 4000 in
theorem wC_oddsChanged {X : Cx} (a1 a2 : Int) (sw : Bool) (m : Mem) (Q : Int → Bool → Mem → Prop) (h : ((0 ≤ w32 a2 ∧ w32 a2 < 9) ∧ ((¬ w32 a1 = 0 → ((¬ w32 a1 = 1 → M2 X 2 mC_oddsOfEnd [vr 42, vi a2, vl 12, vl 0] sw m (fun z1 sw1 m1 => Q z1 sw1 m1)) ∧ (¬ (¬ w32 a1 = 1) → M2 X 2 mC_oddsOfEnd [vr 42, vi a2, vl (w32 (12 - (max 0 (w32 ((12 - (m 38 (w32 a2))) - 1))))), vl (w32 (max 0 (w32 ((12 - (m 38 (w32 a2))) - 1))))] sw m (fun z2 sw2 m2 => Q z2 sw2 m2)))) ∧ (¬ (¬ w32 a1 = 0) → M2 X 2 mC_oddsOfEnd [vr 42, vi a2, vl (w32 (144 - ((12 - (m 38 (w32 a2))) * (12 - (m 38 (w32 a2)))))), vl (w32 ((12 - (m 38 (w32 a2))) * (12 - (m 38 (w32 a2)))))] sw m (fun z3 sw3 m3 => Q z3 sw3 m3))))) : M2 X 3 mC_oddsChanged [vr 42, vi a1, vi a2] sw m Q := by
  refine Mt.of pC_oddsChanged (Nat.le_of_ble_eq_true rfl) (Nat.le_refl _) ?_
  show R2 X 3 mC_oddsChanged 0 [(0, vr 42), (1, vi a1), (2, vi a2)] [] sw m Q
  refine r_bipush (by decide) dC_oddsChanged_0 ?_
  refine r_aload_n 0 0 rfl dC_oddsChanged_2 rfl ?_
  refine q_getR 2 c42 fC_23 rfl rfl (g42_2 sw) (by decide) dC_oddsChanged_3 ?_
  refine q_getR 2 c37 fC_78 rfl rfl (g37_2 sw) (by decide) dC_oddsChanged_6 ?_
  refine r_iload_n 2 2 rfl dC_oddsChanged_9 rfl ?_
  refine q_iaload (w32 a2) rfl c38 h.1 dC_oddsChanged_10 ?_
  replace h := h.2
  refine r_isub dC_oddsChanged_11 ?_
  refine r_istore_n 3 (by decide) dC_oddsChanged_12 rfl ?_
  refine r_iload_n 1 2 rfl dC_oddsChanged_13 rfl ?_
  refine r_if_ne (tgt := 35) dC_oddsChanged_14 (by decide) (fun hc => ?_) (fun hc => ?_)
  · replace h := h.1 hc
    refine r_iload_n 1 2 rfl dC_oddsChanged_35 rfl ?_
    refine r_iconst dC_oddsChanged_36 ?_
    refine r_ifc_ne (tgt := 50) dC_oddsChanged_37 (by decide) (fun hc => ?_) (fun hc => ?_)
    · replace h := h.1 hc
      refine r_iconst dC_oddsChanged_50 ?_
      refine r_istore 4 (by decide) dC_oddsChanged_51 ?_
      refine r_aload_n 0 2 rfl dC_oddsChanged_53 rfl ?_
      refine r_iload_n 2 4 rfl dC_oddsChanged_54 rfl ?_
      refine r_bipush (by decide) dC_oddsChanged_55 ?_
      refine r_iload 4 0 rfl dC_oddsChanged_57 ?_
      refine r_isub dC_oddsChanged_59 ?_
      refine r_i2l dC_oddsChanged_60 ?_
      refine r_iload 4 0 rfl dC_oddsChanged_61 ?_
      refine r_i2l dC_oddsChanged_63 ?_
      refine r_callVl 5 [_, _, _] rfl c42 rfl rfl oC_oddsOfEnd iC_oddsOfEnd sC_oddsOfEnd yC_81 (by decide) ⟨Nat.le_refl _, Nat.le_refl _⟩ rfl (Nat.le_of_ble_eq_true rfl) dC_oddsChanged_64 h (fun z1 r1 m1 h => ?_)
      obtain ⟨sw1, rfl, h⟩ := h
      exact q_lret rfl h dC_oddsChanged_67
    · replace h := h.2 hc
      refine r_iconst dC_oddsChanged_40 ?_
      refine r_iload_n 3 0 rfl dC_oddsChanged_41 rfl ?_
      refine r_iconst dC_oddsChanged_42 ?_
      refine r_isub dC_oddsChanged_43 ?_
      refine r_max yC_46 kS_max kMathI kC_max (by decide) (Nat.le_of_ble_eq_true rfl) dC_oddsChanged_44 ?_
      refine r_goto (tgt := 51) dC_oddsChanged_47 (by decide) ?_
      refine r_istore 4 (by decide) dC_oddsChanged_51 ?_
      refine r_aload_n 0 2 rfl dC_oddsChanged_53 rfl ?_
      refine r_iload_n 2 4 rfl dC_oddsChanged_54 rfl ?_
      refine r_bipush (by decide) dC_oddsChanged_55 ?_
      refine r_iload 4 0 rfl dC_oddsChanged_57 ?_
      refine r_isub dC_oddsChanged_59 ?_
      refine r_i2l dC_oddsChanged_60 ?_
      refine r_iload 4 0 rfl dC_oddsChanged_61 ?_
      refine r_i2l dC_oddsChanged_63 ?_
      refine r_callVl 5 [_, _, _] rfl c42 rfl rfl oC_oddsOfEnd iC_oddsOfEnd sC_oddsOfEnd yC_81 (by decide) ⟨Nat.le_refl _, Nat.le_refl _⟩ rfl (Nat.le_of_ble_eq_true rfl) dC_oddsChanged_64 h (fun z2 r2 m2 h => ?_)
      obtain ⟨sw2, rfl, h⟩ := h
      exact q_lret rfl h dC_oddsChanged_67
  · replace h := h.2 hc
    refine r_aload_n 0 1 rfl dC_oddsChanged_17 rfl ?_
    refine r_iload_n 2 3 rfl dC_oddsChanged_18 rfl ?_
    refine r_sipush (by decide) dC_oddsChanged_19 ?_
    refine r_iload_n 3 0 rfl dC_oddsChanged_22 rfl ?_
    refine r_iload_n 3 0 rfl dC_oddsChanged_23 rfl ?_
    refine r_imul dC_oddsChanged_24 ?_
    refine r_isub dC_oddsChanged_25 ?_
    refine r_i2l dC_oddsChanged_26 ?_
    refine r_iload_n 3 0 rfl dC_oddsChanged_27 rfl ?_
    refine r_iload_n 3 0 rfl dC_oddsChanged_28 rfl ?_
    refine r_imul dC_oddsChanged_29 ?_
    refine r_i2l dC_oddsChanged_30 ?_
    refine r_callVl 5 [_, _, _] rfl c42 rfl rfl oC_oddsOfEnd iC_oddsOfEnd sC_oddsOfEnd yC_81 (by decide) ⟨Nat.le_refl _, Nat.le_refl _⟩ rfl (Nat.le_of_ble_eq_true rfl) dC_oddsChanged_31 h (fun z3 r3 m3 h => ?_)
    obtain ⟨sw3, rfl, h⟩ := h
    exact q_lret rfl h dC_oddsChanged_34
theorem dC_oddsOfEnd_0 : decode mC_oddsOfEnd.2.1 0 = .ok (.aload_n 0, 1) := by decide +kernel
theorem dC_oddsOfEnd_1 : decode mC_oddsOfEnd.2.1 1 = .ok (.getfield 9, 3) := by decide +kernel
theorem dC_oddsOfEnd_4 : decode mC_oddsOfEnd.2.1 4 = .ok (.aload_n 0, 1) := by decide +kernel
theorem dC_oddsOfEnd_5 : decode mC_oddsOfEnd.2.1 5 = .ok (.getfield 23, 3) := by decide +kernel
theorem dC_oddsOfEnd_8 : decode mC_oddsOfEnd.2.1 8 = .ok (.getfield 78, 3) := by decide +kernel
theorem dC_oddsOfEnd_11 : decode mC_oddsOfEnd.2.1 11 = .ok (.aload_n 0, 1) := by decide +kernel
theorem dC_oddsOfEnd_12 : decode mC_oddsOfEnd.2.1 12 = .ok (.getfield 15, 3) := by decide +kernel
theorem dC_oddsOfEnd_15 : decode mC_oddsOfEnd.2.1 15 = .ok (.getfield 67, 3) := by decide +kernel
theorem dC_oddsOfEnd_18 : decode mC_oddsOfEnd.2.1 18 = .ok (.iload_n 1, 1) := by decide +kernel
theorem dC_oddsOfEnd_19 : decode mC_oddsOfEnd.2.1 19 = .ok (.invokestatic 85, 3) := by decide +kernel
theorem dC_oddsOfEnd_22 : decode mC_oddsOfEnd.2.1 22 = .ok (.lconst 0, 1) := by decide +kernel
theorem dC_oddsOfEnd_23 : decode mC_oddsOfEnd.2.1 23 = .ok (.lstore 6, 2) := by decide +kernel
theorem dC_oddsOfEnd_25 : decode mC_oddsOfEnd.2.1 25 = .ok (.iconst 0, 1) := by decide +kernel
theorem dC_oddsOfEnd_26 : decode mC_oddsOfEnd.2.1 26 = .ok (.istore 8, 2) := by decide +kernel
theorem dC_oddsOfEnd_28 : decode mC_oddsOfEnd.2.1 28 = .ok (.iload 8, 2) := by decide +kernel
theorem dC_oddsOfEnd_30 : decode mC_oddsOfEnd.2.1 30 = .ok (.aload_n 0, 1) := by decide +kernel
theorem dC_oddsOfEnd_31 : decode mC_oddsOfEnd.2.1 31 = .ok (.getfield 19, 3) := by decide +kernel
theorem dC_oddsOfEnd_34 : decode mC_oddsOfEnd.2.1 34 = .ok (.getfield 89, 3) := by decide +kernel
theorem dC_oddsOfEnd_37 : decode mC_oddsOfEnd.2.1 37 = .ok (.if_icmp .ge 52, 3) := by decide +kernel
theorem dC_oddsOfEnd_40 : decode mC_oddsOfEnd.2.1 40 = .ok (.aload_n 0, 1) := by decide +kernel
theorem dC_oddsOfEnd_41 : decode mC_oddsOfEnd.2.1 41 = .ok (.getfield 19, 3) := by decide +kernel
theorem dC_oddsOfEnd_44 : decode mC_oddsOfEnd.2.1 44 = .ok (.getfield 94, 3) := by decide +kernel
theorem dC_oddsOfEnd_47 : decode mC_oddsOfEnd.2.1 47 = .ok (.iload 8, 2) := by decide +kernel
theorem dC_oddsOfEnd_49 : decode mC_oddsOfEnd.2.1 49 = .ok (.iaload, 1) := by decide +kernel
theorem dC_oddsOfEnd_50 : decode mC_oddsOfEnd.2.1 50 = .ok (.iconst (-1), 1) := by decide +kernel
theorem dC_oddsOfEnd_51 : decode mC_oddsOfEnd.2.1 51 = .ok (.if_icmp .eq 32, 3) := by decide +kernel
theorem dC_oddsOfEnd_54 : decode mC_oddsOfEnd.2.1 54 = .ok (.lload 6, 2) := by decide +kernel
theorem dC_oddsOfEnd_56 : decode mC_oddsOfEnd.2.1 56 = .ok (.aload_n 0, 1) := by decide +kernel
theorem dC_oddsOfEnd_57 : decode mC_oddsOfEnd.2.1 57 = .ok (.getfield 9, 3) := by decide +kernel
theorem dC_oddsOfEnd_60 : decode mC_oddsOfEnd.2.1 60 = .ok (.iload 8, 2) := by decide +kernel
theorem dC_oddsOfEnd_62 : decode mC_oddsOfEnd.2.1 62 = .ok (.laload, 1) := by decide +kernel
theorem dC_oddsOfEnd_63 : decode mC_oddsOfEnd.2.1 63 = .ok (.iload 8, 2) := by decide +kernel
theorem dC_oddsOfEnd_65 : decode mC_oddsOfEnd.2.1 65 = .ok (.iload_n 1, 1) := by decide +kernel
theorem dC_oddsOfEnd_66 : decode mC_oddsOfEnd.2.1 66 = .ok (.ishr, 1) := by decide +kernel
theorem dC_oddsOfEnd_67 : decode mC_oddsOfEnd.2.1 67 = .ok (.iconst 1, 1) := by decide +kernel
theorem dC_oddsOfEnd_68 : decode mC_oddsOfEnd.2.1 68 = .ok (.iand, 1) := by decide +kernel
theorem dC_oddsOfEnd_69 : decode mC_oddsOfEnd.2.1 69 = .ok (.iconst 1, 1) := by decide +kernel
theorem dC_oddsOfEnd_70 : decode mC_oddsOfEnd.2.1 70 = .ok (.if_icmp .ne 7, 3) := by decide +kernel
theorem dC_oddsOfEnd_73 : decode mC_oddsOfEnd.2.1 73 = .ok (.lload_n 2, 1) := by decide +kernel
theorem dC_oddsOfEnd_74 : decode mC_oddsOfEnd.2.1 74 = .ok (.goto 5, 3) := by decide +kernel
theorem dC_oddsOfEnd_77 : decode mC_oddsOfEnd.2.1 77 = .ok (.lload 4, 2) := by decide +kernel
theorem dC_oddsOfEnd_79 : decode mC_oddsOfEnd.2.1 79 = .ok (.lmul, 1) := by decide +kernel
theorem dC_oddsOfEnd_80 : decode mC_oddsOfEnd.2.1 80 = .ok (.ladd, 1) := by decide +kernel
theorem dC_oddsOfEnd_81 : decode mC_oddsOfEnd.2.1 81 = .ok (.lstore 6, 2) := by decide +kernel
theorem dC_oddsOfEnd_83 : decode mC_oddsOfEnd.2.1 83 = .ok (.iinc 8 1, 3) := by decide +kernel
theorem dC_oddsOfEnd_86 : decode mC_oddsOfEnd.2.1 86 = .ok (.goto (-58), 3) := by decide +kernel
theorem dC_oddsOfEnd_89 : decode mC_oddsOfEnd.2.1 89 = .ok (.lload 6, 2) := by decide +kernel
theorem dC_oddsOfEnd_91 : decode mC_oddsOfEnd.2.1 91 = .ok (.lreturn, 1) := by decide +kernel
/- C_oddsOfEnd: (IJJ)J -/
set_option maxRecDepth 4000 in
theorem wC_oddsOfEnd {X : Cx} (a1 a2 a4 : Int) (sw : Bool) (m : Mem) (Q : Int → Bool → Mem → Prop) (h : M2 X 1 mT_weigh [vr 43, vr 38, vi (m 2 3), vi a1] sw m (fun z1 sw1 m1 => R2 X 2 mC_oddsOfEnd 28 [(0, vr 42), (1, vi a1), (2, vl a2), (4, vl a4), (6, vl 0), (8, vi 0)] [] sw1 m1 Q)) : M2 X 2 mC_oddsOfEnd [vr 42, vi a1, vl a2, vl a4] sw m Q := by
  refine Mt.of pC_oddsOfEnd (Nat.le_of_ble_eq_true rfl) (Nat.le_refl _) ?_
  show R2 X 2 mC_oddsOfEnd 0 [(0, vr 42), (1, vi a1), (2, vl a2), (4, vl a4)] [] sw m Q
  refine r_aload_n 0 0 rfl dC_oddsOfEnd_0 rfl ?_
  refine q_getR 3 c42 fC_9 rfl rfl (g42_3 sw) (by decide) dC_oddsOfEnd_1 ?_
  refine r_aload_n 0 0 rfl dC_oddsOfEnd_4 rfl ?_
  refine q_getR 2 c42 fC_23 rfl rfl (g42_2 sw) (by decide) dC_oddsOfEnd_5 ?_
  refine q_getR 2 c37 fC_78 rfl rfl (g37_2 sw) (by decide) dC_oddsOfEnd_8 ?_
  refine r_aload_n 0 0 rfl dC_oddsOfEnd_11 rfl ?_
  refine q_getR 0 c42 fC_15 rfl rfl (g42_0 sw) (by decide) dC_oddsOfEnd_12 ?_
  refine q_getI 3 c2 fC_67 rfl rfl dC_oddsOfEnd_15 ?_
  refine r_iload_n 1 1 rfl dC_oddsOfEnd_18 rfl ?_
  refine r_callSv [_, _, _, _] rfl oT_weigh iT_weigh yC_85 (by decide) ⟨Nat.le_refl _, Nat.le_refl _⟩ rfl (Nat.le_of_ble_eq_true rfl) dC_oddsOfEnd_19 h (fun z1 r1 m1 h => ?_)
  obtain ⟨sw1, rfl, h⟩ := h
  refine r_lconst dC_oddsOfEnd_22 ?_
  refine r_lstore 6 (by decide) dC_oddsOfEnd_23 ?_
  refine r_iconst dC_oddsOfEnd_25 ?_
  refine r_istore 8 (by decide) dC_oddsOfEnd_26 ?_
  refine r_sub [2, 3, 4, 5, 1, 0] ?_ h
  rfl
set_option maxRecDepth 4000 in
theorem wC_oddsOfEnd_28 {X : Cx} (x1 x2 x4 x6 x8 : Int) (sw : Bool) (m : Mem) (Q : Int → Bool → Mem → Prop) (h : ((w32 (m 23 5) ≤ w32 x8 → Q x6 sw m) ∧ (¬ (w32 (m 23 5) ≤ w32 x8) → ((0 ≤ w32 x8 ∧ w32 x8 < 512) ∧ ((w32 (m 36 (w32 x8)) = (-1) → R2 X 2 mC_oddsOfEnd 28 [(0, vr 42), (1, vi x1), (2, vl x2), (4, vl x4), (6, vl x6), (8, vi (x8 + 1))] [] sw m Q) ∧ (¬ (w32 (m 36 (w32 x8)) = (-1)) → ((0 ≤ w32 x8 ∧ w32 x8 < 512) ∧ ((¬ w32 (zand (zshr x8 x1) 1) = 1 → R2 X 2 mC_oddsOfEnd 28 [(0, vr 42), (1, vi x1), (2, vl x2), (4, vl x4), (6, vl (x6 + ((m 43 (w32 x8)) * x4))), (8, vi (x8 + 1))] [] sw m Q) ∧ (¬ (¬ w32 (zand (zshr x8 x1) 1) = 1) → R2 X 2 mC_oddsOfEnd 28 [(0, vr 42), (1, vi x1), (2, vl x2), (4, vl x4), (6, vl (x6 + ((m 43 (w32 x8)) * x2))), (8, vi (x8 + 1))] [] sw m Q))))))))) : R2 X 2 mC_oddsOfEnd 28 [(0, vr 42), (1, vi x1), (2, vl x2), (4, vl x4), (6, vl x6), (8, vi x8)] [] sw m Q := by
  refine r_iload 8 5 rfl dC_oddsOfEnd_28 ?_
  refine r_aload_n 0 0 rfl dC_oddsOfEnd_30 rfl ?_
  refine q_getR 1 c42 fC_19 rfl rfl (g42_1 sw) (by decide) dC_oddsOfEnd_31 ?_
  refine q_getI 5 c23 fC_89 rfl rfl dC_oddsOfEnd_34 ?_
  refine r_ifc_ge (tgt := 89) dC_oddsOfEnd_37 (by decide) (fun hc => ?_) (fun hc => ?_)
  · replace h := h.1 hc
    refine r_lload 6 4 rfl dC_oddsOfEnd_89 ?_
    exact q_lret rfl h dC_oddsOfEnd_91
  · replace h := h.2 hc
    refine r_aload_n 0 0 rfl dC_oddsOfEnd_40 rfl ?_
    refine q_getR 1 c42 fC_19 rfl rfl (g42_1 sw) (by decide) dC_oddsOfEnd_41 ?_
    refine q_getR 4 c23 fC_94 rfl rfl (g23_4 sw) (by decide) dC_oddsOfEnd_44 ?_
    refine r_iload 8 5 rfl dC_oddsOfEnd_47 ?_
    refine q_iaload (w32 x8) rfl c36 h.1 dC_oddsOfEnd_49 ?_
    replace h := h.2
    refine r_iconst dC_oddsOfEnd_50 ?_
    refine r_ifc_eq (tgt := 83) dC_oddsOfEnd_51 (by decide) (fun hc => ?_) (fun hc => ?_)
    · replace h := h.1 hc
      refine r_iinc 8 5 rfl (by decide) dC_oddsOfEnd_83 ?_
      refine r_goto (tgt := 28) dC_oddsOfEnd_86 (by decide) ?_
      refine r_sub [1, 2, 3, 4, 5, 0] ?_ h
      rfl
    · replace h := h.2 hc
      refine r_lload 6 4 rfl dC_oddsOfEnd_54 ?_
      refine r_aload_n 0 0 rfl dC_oddsOfEnd_56 rfl ?_
      refine q_getR 3 c42 fC_9 rfl rfl (g42_3 sw) (by decide) dC_oddsOfEnd_57 ?_
      refine r_iload 8 5 rfl dC_oddsOfEnd_60 ?_
      refine q_laload (w32 x8) rfl c43 h.1 dC_oddsOfEnd_62 ?_
      replace h := h.2
      refine r_iload 8 5 rfl dC_oddsOfEnd_63 ?_
      refine r_iload_n 1 1 rfl dC_oddsOfEnd_65 rfl ?_
      refine r_ishr dC_oddsOfEnd_66 ?_
      refine r_iconst dC_oddsOfEnd_67 ?_
      refine r_iand dC_oddsOfEnd_68 ?_
      refine r_iconst dC_oddsOfEnd_69 ?_
      refine r_ifc_ne (tgt := 77) dC_oddsOfEnd_70 (by decide) (fun hc => ?_) (fun hc => ?_)
      · replace h := h.1 hc
        refine r_lload 4 3 rfl dC_oddsOfEnd_77 ?_
        refine r_lmul dC_oddsOfEnd_79 ?_
        refine r_ladd dC_oddsOfEnd_80 ?_
        refine r_lstore 6 (by decide) dC_oddsOfEnd_81 ?_
        refine r_iinc 8 5 rfl (by decide) dC_oddsOfEnd_83 ?_
        refine r_goto (tgt := 28) dC_oddsOfEnd_86 (by decide) ?_
        refine r_sub [2, 3, 4, 5, 1, 0] ?_ h
        rfl
      · replace h := h.2 hc
        refine r_lload_n 2 2 rfl dC_oddsOfEnd_73 rfl ?_
        refine r_goto (tgt := 79) dC_oddsOfEnd_74 (by decide) ?_
        refine r_lmul dC_oddsOfEnd_79 ?_
        refine r_ladd dC_oddsOfEnd_80 ?_
        refine r_lstore 6 (by decide) dC_oddsOfEnd_81 ?_
        refine r_iinc 8 5 rfl (by decide) dC_oddsOfEnd_83 ?_
        refine r_goto (tgt := 28) dC_oddsOfEnd_86 (by decide) ?_
        refine r_sub [2, 3, 4, 5, 1, 0] ?_ h
        rfl
theorem dC_oddsOfFire_0 : decode mC_oddsOfFire.2.1 0 = .ok (.lconst 0, 1) := by decide +kernel
theorem dC_oddsOfFire_1 : decode mC_oddsOfFire.2.1 1 = .ok (.lstore_n 1, 1) := by decide +kernel
theorem dC_oddsOfFire_2 : decode mC_oddsOfFire.2.1 2 = .ok (.iconst 0, 1) := by decide +kernel
theorem dC_oddsOfFire_3 : decode mC_oddsOfFire.2.1 3 = .ok (.istore_n 3, 1) := by decide +kernel
theorem dC_oddsOfFire_4 : decode mC_oddsOfFire.2.1 4 = .ok (.iload_n 3, 1) := by decide +kernel
theorem dC_oddsOfFire_5 : decode mC_oddsOfFire.2.1 5 = .ok (.aload_n 0, 1) := by decide +kernel
theorem dC_oddsOfFire_6 : decode mC_oddsOfFire.2.1 6 = .ok (.getfield 19, 3) := by decide +kernel
theorem dC_oddsOfFire_9 : decode mC_oddsOfFire.2.1 9 = .ok (.getfield 89, 3) := by decide +kernel
theorem dC_oddsOfFire_12 : decode mC_oddsOfFire.2.1 12 = .ok (.if_icmp .ge 40, 3) := by decide +kernel
theorem dC_oddsOfFire_15 : decode mC_oddsOfFire.2.1 15 = .ok (.aload_n 0, 1) := by decide +kernel
theorem dC_oddsOfFire_16 : decode mC_oddsOfFire.2.1 16 = .ok (.getfield 15, 3) := by decide +kernel
theorem dC_oddsOfFire_19 : decode mC_oddsOfFire.2.1 19 = .ok (.aload_n 0, 1) := by decide +kernel
theorem dC_oddsOfFire_20 : decode mC_oddsOfFire.2.1 20 = .ok (.getfield 19, 3) := by decide +kernel
theorem dC_oddsOfFire_23 : decode mC_oddsOfFire.2.1 23 = .ok (.getfield 97, 3) := by decide +kernel
theorem dC_oddsOfFire_26 : decode mC_oddsOfFire.2.1 26 = .ok (.iload_n 3, 1) := by decide +kernel
theorem dC_oddsOfFire_27 : decode mC_oddsOfFire.2.1 27 = .ok (.iaload, 1) := by decide +kernel
theorem dC_oddsOfFire_28 : decode mC_oddsOfFire.2.1 28 = .ok (.invokestatic 100, 3) := by decide +kernel
theorem dC_oddsOfFire_31 : decode mC_oddsOfFire.2.1 31 = .ok (.ifCond .eq 15, 3) := by decide +kernel
theorem dC_oddsOfFire_34 : decode mC_oddsOfFire.2.1 34 = .ok (.lload_n 1, 1) := by decide +kernel
theorem dC_oddsOfFire_35 : decode mC_oddsOfFire.2.1 35 = .ok (.aload_n 0, 1) := by decide +kernel
theorem dC_oddsOfFire_36 : decode mC_oddsOfFire.2.1 36 = .ok (.getfield 23, 3) := by decide +kernel
theorem dC_oddsOfFire_39 : decode mC_oddsOfFire.2.1 39 = .ok (.getfield 104, 3) := by decide +kernel
theorem dC_oddsOfFire_42 : decode mC_oddsOfFire.2.1 42 = .ok (.iload_n 3, 1) := by decide +kernel
theorem dC_oddsOfFire_43 : decode mC_oddsOfFire.2.1 43 = .ok (.laload, 1) := by decide +kernel
theorem dC_oddsOfFire_44 : decode mC_oddsOfFire.2.1 44 = .ok (.ladd, 1) := by decide +kernel
theorem dC_oddsOfFire_45 : decode mC_oddsOfFire.2.1 45 = .ok (.lstore_n 1, 1) := by decide +kernel
theorem dC_oddsOfFire_46 : decode mC_oddsOfFire.2.1 46 = .ok (.iinc 3 1, 3) := by decide +kernel
theorem dC_oddsOfFire_49 : decode mC_oddsOfFire.2.1 49 = .ok (.goto (-45), 3) := by decide +kernel
theorem dC_oddsOfFire_52 : decode mC_oddsOfFire.2.1 52 = .ok (.lload_n 1, 1) := by decide +kernel
theorem dC_oddsOfFire_53 : decode mC_oddsOfFire.2.1 53 = .ok (.lreturn, 1) := by decide +kernel
/- C_oddsOfFire: ()J -/
set_option maxRecDepth 4000 in
theorem wC_oddsOfFire {X : Cx} (sw : Bool) (m : Mem) (Q : Int → Bool → Mem → Prop) (h : R2 X 4 mC_oddsOfFire 4 [(0, vr 42), (1, vl 0), (3, vi 0)] [] sw m Q) : M2 X 4 mC_oddsOfFire [vr 42] sw m Q := by
  refine Mt.of pC_oddsOfFire (Nat.le_of_ble_eq_true rfl) (Nat.le_refl _) ?_
  show R2 X 4 mC_oddsOfFire 0 [(0, vr 42)] [] sw m Q
  refine r_lconst dC_oddsOfFire_0 ?_
  refine r_lstore_n 1 (by decide) dC_oddsOfFire_1 rfl ?_
  refine r_iconst dC_oddsOfFire_2 ?_
  refine r_istore_n 3 (by decide) dC_oddsOfFire_3 rfl ?_
  refine r_sub [2, 1, 0] ?_ h
  rfl
set_option maxRecDepth 4000 in
theorem wC_oddsOfFire_4 {X : Cx} (x1 x3 : Int) (sw : Bool) (m : Mem) (Q : Int → Bool → Mem → Prop) (h : ((w32 (m 23 5) ≤ w32 x3 → Q x1 sw m) ∧ (¬ (w32 (m 23 5) ≤ w32 x3) → ((0 ≤ w32 x3 ∧ w32 x3 < 512) ∧ M2 X 3 mC_burns [vr 2, vi (m 34 (w32 x3))] sw m (fun z1 sw1 m1 => ((w32 z1 = 0 → R2 X 4 mC_oddsOfFire 4 [(0, vr 42), (1, vl x1), (3, vi (x3 + 1))] [] sw1 m1 Q) ∧ (¬ (w32 z1 = 0) → ((0 ≤ w32 x3 ∧ w32 x3 < 512) ∧ R2 X 4 mC_oddsOfFire 4 [(0, vr 42), (1, vl (x1 + (m1 39 (w32 x3)))), (3, vi (x3 + 1))] [] sw1 m1 Q)))))))) : R2 X 4 mC_oddsOfFire 4 [(0, vr 42), (1, vl x1), (3, vi x3)] [] sw m Q := by
  refine r_iload_n 3 2 rfl dC_oddsOfFire_4 rfl ?_
  refine r_aload_n 0 0 rfl dC_oddsOfFire_5 rfl ?_
  refine q_getR 1 c42 fC_19 rfl rfl (g42_1 sw) (by decide) dC_oddsOfFire_6 ?_
  refine q_getI 5 c23 fC_89 rfl rfl dC_oddsOfFire_9 ?_
  refine r_ifc_ge (tgt := 52) dC_oddsOfFire_12 (by decide) (fun hc => ?_) (fun hc => ?_)
  · replace h := h.1 hc
    refine r_lload_n 1 1 rfl dC_oddsOfFire_52 rfl ?_
    exact q_lret rfl h dC_oddsOfFire_53
  · replace h := h.2 hc
    refine r_aload_n 0 0 rfl dC_oddsOfFire_15 rfl ?_
    refine q_getR 0 c42 fC_15 rfl rfl (g42_0 sw) (by decide) dC_oddsOfFire_16 ?_
    refine r_aload_n 0 0 rfl dC_oddsOfFire_19 rfl ?_
    refine q_getR 1 c42 fC_19 rfl rfl (g42_1 sw) (by decide) dC_oddsOfFire_20 ?_
    refine q_getR 2 c23 fC_97 rfl rfl (g23_2 sw) (by decide) dC_oddsOfFire_23 ?_
    refine r_iload_n 3 2 rfl dC_oddsOfFire_26 rfl ?_
    refine q_iaload (w32 x3) rfl c34 h.1 dC_oddsOfFire_27 ?_
    replace h := h.2
    refine r_callSb [_, _] rfl oC_burns iC_burns yC_100 (by decide) ⟨Nat.le_refl _, Nat.le_refl _⟩ rfl (Nat.le_of_ble_eq_true rfl) dC_oddsOfFire_28 h (fun z1 r1 m1 h => ?_)
    obtain ⟨sw1, rfl, h⟩ := h
    refine r_if_eq (tgt := 46) dC_oddsOfFire_31 (by decide) (fun hc => ?_) (fun hc => ?_)
    · replace h := h.1 hc
      refine r_iinc 3 2 rfl (by decide) dC_oddsOfFire_46 ?_
      refine r_goto (tgt := 4) dC_oddsOfFire_49 (by decide) ?_
      refine r_sub [1, 2, 0] ?_ h
      rfl
    · replace h := h.2 hc
      refine r_lload_n 1 1 rfl dC_oddsOfFire_34 rfl ?_
      refine r_aload_n 0 0 rfl dC_oddsOfFire_35 rfl ?_
      refine q_getR 2 c42 fC_23 rfl rfl (g42_2 sw1) (by decide) dC_oddsOfFire_36 ?_
      refine q_getR 3 c37 fC_104 rfl rfl (g37_3 sw1) (by decide) dC_oddsOfFire_39 ?_
      refine r_iload_n 3 2 rfl dC_oddsOfFire_42 rfl ?_
      refine q_laload (w32 x3) rfl c39 h.1 dC_oddsOfFire_43 ?_
      replace h := h.2
      refine r_ladd dC_oddsOfFire_44 ?_
      refine r_lstore_n 1 (by decide) dC_oddsOfFire_45 rfl ?_
      refine r_iinc 3 2 rfl (by decide) dC_oddsOfFire_46 ?_
      refine r_goto (tgt := 4) dC_oddsOfFire_49 (by decide) ?_
      refine r_sub [2, 1, 0] ?_ h
      rfl
theorem dC_burns_0 : decode mC_burns.2.1 0 = .ok (.iload_n 1, 1) := by decide +kernel
theorem dC_burns_1 : decode mC_burns.2.1 1 = .ok (.aload_n 0, 1) := by decide +kernel
theorem dC_burns_2 : decode mC_burns.2.1 2 = .ok (.iconst 0, 1) := by decide +kernel
theorem dC_burns_3 : decode mC_burns.2.1 3 = .ok (.bipush 11, 2) := by decide +kernel
theorem dC_burns_5 : decode mC_burns.2.1 5 = .ok (.invokevirtual 29, 3) := by decide +kernel
theorem dC_burns_8 : decode mC_burns.2.1 8 = .ok (.ishr, 1) := by decide +kernel
theorem dC_burns_9 : decode mC_burns.2.1 9 = .ok (.iconst 1, 1) := by decide +kernel
theorem dC_burns_10 : decode mC_burns.2.1 10 = .ok (.iand, 1) := by decide +kernel
theorem dC_burns_11 : decode mC_burns.2.1 11 = .ok (.istore_n 2, 1) := by decide +kernel
theorem dC_burns_12 : decode mC_burns.2.1 12 = .ok (.iload_n 1, 1) := by decide +kernel
theorem dC_burns_13 : decode mC_burns.2.1 13 = .ok (.aload_n 0, 1) := by decide +kernel
theorem dC_burns_14 : decode mC_burns.2.1 14 = .ok (.iconst 0, 1) := by decide +kernel
theorem dC_burns_15 : decode mC_burns.2.1 15 = .ok (.bipush 12, 2) := by decide +kernel
theorem dC_burns_17 : decode mC_burns.2.1 17 = .ok (.invokevirtual 29, 3) := by decide +kernel
theorem dC_burns_20 : decode mC_burns.2.1 20 = .ok (.ishr, 1) := by decide +kernel
theorem dC_burns_21 : decode mC_burns.2.1 21 = .ok (.iconst 1, 1) := by decide +kernel
theorem dC_burns_22 : decode mC_burns.2.1 22 = .ok (.iand, 1) := by decide +kernel
theorem dC_burns_23 : decode mC_burns.2.1 23 = .ok (.istore_n 3, 1) := by decide +kernel
theorem dC_burns_24 : decode mC_burns.2.1 24 = .ok (.iload_n 2, 1) := by decide +kernel
theorem dC_burns_25 : decode mC_burns.2.1 25 = .ok (.iconst 1, 1) := by decide +kernel
theorem dC_burns_26 : decode mC_burns.2.1 26 = .ok (.if_icmp .ne 11, 3) := by decide +kernel
theorem dC_burns_29 : decode mC_burns.2.1 29 = .ok (.iload_n 3, 1) := by decide +kernel
theorem dC_burns_30 : decode mC_burns.2.1 30 = .ok (.ifCond .ne 7, 3) := by decide +kernel
theorem dC_burns_33 : decode mC_burns.2.1 33 = .ok (.iconst 1, 1) := by decide +kernel
theorem dC_burns_34 : decode mC_burns.2.1 34 = .ok (.goto 4, 3) := by decide +kernel
theorem dC_burns_37 : decode mC_burns.2.1 37 = .ok (.iconst 0, 1) := by decide +kernel
theorem dC_burns_38 : decode mC_burns.2.1 38 = .ok (.ireturn, 1) := by decide +kernel
/- C_burns: (LWokenByKettle$Kitchen;I)Z -/
set_option maxRecDepth 4000 in
theorem wC_burns {X : Cx} (a1 : Int) (sw : Bool) (m : Mem) (Q : Int → Bool → Mem → Prop) (h : M2 X 2 mK_told [vr 2, vi 0, vi 11] sw m (fun z1 sw1 m1 => M2 X 2 mK_told [vr 2, vi 0, vi 12] sw1 m1 (fun z2 sw2 m2 => ((¬ w32 (zand (zshr a1 z1) 1) = 1 → Q 0 sw2 m2) ∧ (¬ (¬ w32 (zand (zshr a1 z1) 1) = 1) → ((¬ w32 (zand (zshr a1 z2) 1) = 0 → Q 0 sw2 m2) ∧ (¬ (¬ w32 (zand (zshr a1 z2) 1) = 0) → Q 1 sw2 m2))))))) : M2 X 3 mC_burns [vr 2, vi a1] sw m Q := by
  refine Mt.of pC_burns (Nat.le_of_ble_eq_true rfl) (Nat.le_refl _) ?_
  show R2 X 3 mC_burns 0 [(0, vr 2), (1, vi a1)] [] sw m Q
  refine r_iload_n 1 1 rfl dC_burns_0 rfl ?_
  refine r_aload_n 0 0 rfl dC_burns_1 rfl ?_
  refine r_iconst dC_burns_2 ?_
  refine r_bipush (by decide) dC_burns_3 ?_
  refine r_callVi 1 [_, _] rfl c2 rfl rfl oK_told iK_told sK_told yC_29 (by decide) ⟨Nat.le_refl _, Nat.le_refl _⟩ rfl (Nat.le_of_ble_eq_true rfl) dC_burns_5 h (fun z1 r1 m1 h => ?_)
  obtain ⟨sw1, rfl, h⟩ := h
  refine r_ishr dC_burns_8 ?_
  refine r_iconst dC_burns_9 ?_
  refine r_iand dC_burns_10 ?_
  refine r_istore_n 2 (by decide) dC_burns_11 rfl ?_
  refine r_iload_n 1 2 rfl dC_burns_12 rfl ?_
  refine r_aload_n 0 1 rfl dC_burns_13 rfl ?_
  refine r_iconst dC_burns_14 ?_
  refine r_bipush (by decide) dC_burns_15 ?_
  refine r_callVi 1 [_, _] rfl c2 rfl rfl oK_told iK_told sK_told yC_29 (by decide) ⟨Nat.le_refl _, Nat.le_refl _⟩ rfl (Nat.le_of_ble_eq_true rfl) dC_burns_17 h (fun z2 r2 m2 h => ?_)
  obtain ⟨sw2, rfl, h⟩ := h
  refine r_ishr dC_burns_20 ?_
  refine r_iconst dC_burns_21 ?_
  refine r_iand dC_burns_22 ?_
  refine r_istore_n 3 (by decide) dC_burns_23 rfl ?_
  refine r_iload_n 2 1 rfl dC_burns_24 rfl ?_
  refine r_iconst dC_burns_25 ?_
  refine r_ifc_ne (tgt := 37) dC_burns_26 (by decide) (fun hc => ?_) (fun hc => ?_)
  · replace h := h.1 hc
    refine r_iconst dC_burns_37 ?_
    exact q_bret rfl (Or.inl rfl) h dC_burns_38
  · replace h := h.2 hc
    refine r_iload_n 3 0 rfl dC_burns_29 rfl ?_
    refine r_if_ne (tgt := 37) dC_burns_30 (by decide) (fun hc => ?_) (fun hc => ?_)
    · replace h := h.1 hc
      refine r_iconst dC_burns_37 ?_
      exact q_bret rfl (Or.inl rfl) h dC_burns_38
    · replace h := h.2 hc
      refine r_iconst dC_burns_33 ?_
      refine r_goto (tgt := 38) dC_burns_34 (by decide) ?_
      exact q_bret rfl (Or.inr rfl) h dC_burns_38
theorem dC_draw_0 : decode mC_draw.2.1 0 = .ok (.iload_n 1, 1) := by decide +kernel
theorem dC_draw_1 : decode mC_draw.2.1 1 = .ok (.istore 4, 2) := by decide +kernel
theorem dC_draw_3 : decode mC_draw.2.1 3 = .ok (.iconst 0, 1) := by decide +kernel
theorem dC_draw_4 : decode mC_draw.2.1 4 = .ok (.istore 5, 2) := by decide +kernel
theorem dC_draw_6 : decode mC_draw.2.1 6 = .ok (.iconst 0, 1) := by decide +kernel
theorem dC_draw_7 : decode mC_draw.2.1 7 = .ok (.istore 6, 2) := by decide +kernel
theorem dC_draw_9 : decode mC_draw.2.1 9 = .ok (.iconst 0, 1) := by decide +kernel
theorem dC_draw_10 : decode mC_draw.2.1 10 = .ok (.istore 7, 2) := by decide +kernel
theorem dC_draw_12 : decode mC_draw.2.1 12 = .ok (.iload 7, 2) := by decide +kernel
theorem dC_draw_14 : decode mC_draw.2.1 14 = .ok (.iload_n 2, 1) := by decide +kernel
theorem dC_draw_15 : decode mC_draw.2.1 15 = .ok (.if_icmp .ge 106, 3) := by decide +kernel
theorem dC_draw_18 : decode mC_draw.2.1 18 = .ok (.iconst 0, 1) := by decide +kernel
theorem dC_draw_19 : decode mC_draw.2.1 19 = .ok (.istore 8, 2) := by decide +kernel
theorem dC_draw_21 : decode mC_draw.2.1 21 = .ok (.iconst 0, 1) := by decide +kernel
theorem dC_draw_22 : decode mC_draw.2.1 22 = .ok (.istore 9, 2) := by decide +kernel
theorem dC_draw_24 : decode mC_draw.2.1 24 = .ok (.iload 9, 2) := by decide +kernel
theorem dC_draw_26 : decode mC_draw.2.1 26 = .ok (.aload_n 0, 1) := by decide +kernel
theorem dC_draw_27 : decode mC_draw.2.1 27 = .ok (.getfield 15, 3) := by decide +kernel
theorem dC_draw_30 : decode mC_draw.2.1 30 = .ok (.getfield 67, 3) := by decide +kernel
theorem dC_draw_33 : decode mC_draw.2.1 33 = .ok (.if_icmp .ge 50, 3) := by decide +kernel
theorem dC_draw_36 : decode mC_draw.2.1 36 = .ok (.iload 4, 2) := by decide +kernel
theorem dC_draw_38 : decode mC_draw.2.1 38 = .ok (.ldc 107, 2) := by decide +kernel
theorem dC_draw_40 : decode mC_draw.2.1 40 = .ok (.imul, 1) := by decide +kernel
theorem dC_draw_41 : decode mC_draw.2.1 41 = .ok (.sipush 12345, 3) := by decide +kernel
theorem dC_draw_44 : decode mC_draw.2.1 44 = .ok (.iadd, 1) := by decide +kernel
theorem dC_draw_45 : decode mC_draw.2.1 45 = .ok (.istore 4, 2) := by decide +kernel
theorem dC_draw_47 : decode mC_draw.2.1 47 = .ok (.iload 4, 2) := by decide +kernel
theorem dC_draw_49 : decode mC_draw.2.1 49 = .ok (.bipush 8, 2) := by decide +kernel
theorem dC_draw_51 : decode mC_draw.2.1 51 = .ok (.iushr, 1) := by decide +kernel
theorem dC_draw_52 : decode mC_draw.2.1 52 = .ok (.bipush 12, 2) := by decide +kernel
theorem dC_draw_54 : decode mC_draw.2.1 54 = .ok (.irem, 1) := by decide +kernel
theorem dC_draw_55 : decode mC_draw.2.1 55 = .ok (.aload_n 0, 1) := by decide +kernel
theorem dC_draw_56 : decode mC_draw.2.1 56 = .ok (.getfield 23, 3) := by decide +kernel
theorem dC_draw_59 : decode mC_draw.2.1 59 = .ok (.getfield 78, 3) := by decide +kernel
theorem dC_draw_62 : decode mC_draw.2.1 62 = .ok (.iload 9, 2) := by decide +kernel
theorem dC_draw_64 : decode mC_draw.2.1 64 = .ok (.iaload, 1) := by decide +kernel
theorem dC_draw_65 : decode mC_draw.2.1 65 = .ok (.if_icmp .ge 12, 3) := by decide +kernel
theorem dC_draw_68 : decode mC_draw.2.1 68 = .ok (.iload 8, 2) := by decide +kernel
theorem dC_draw_70 : decode mC_draw.2.1 70 = .ok (.iconst 1, 1) := by decide +kernel
theorem dC_draw_71 : decode mC_draw.2.1 71 = .ok (.iload 9, 2) := by decide +kernel
theorem dC_draw_73 : decode mC_draw.2.1 73 = .ok (.ishl, 1) := by decide +kernel
theorem dC_draw_74 : decode mC_draw.2.1 74 = .ok (.ior, 1) := by decide +kernel
theorem dC_draw_75 : decode mC_draw.2.1 75 = .ok (.istore 8, 2) := by decide +kernel
theorem dC_draw_77 : decode mC_draw.2.1 77 = .ok (.iinc 9 1, 3) := by decide +kernel
theorem dC_draw_80 : decode mC_draw.2.1 80 = .ok (.goto (-56), 3) := by decide +kernel
theorem dC_draw_83 : decode mC_draw.2.1 83 = .ok (.aload_n 0, 1) := by decide +kernel
theorem dC_draw_84 : decode mC_draw.2.1 84 = .ok (.getfield 19, 3) := by decide +kernel
theorem dC_draw_87 : decode mC_draw.2.1 87 = .ok (.getfield 94, 3) := by decide +kernel
theorem dC_draw_90 : decode mC_draw.2.1 90 = .ok (.iload 8, 2) := by decide +kernel
theorem dC_draw_92 : decode mC_draw.2.1 92 = .ok (.iaload, 1) := by decide +kernel
theorem dC_draw_93 : decode mC_draw.2.1 93 = .ok (.iconst (-1), 1) := by decide +kernel
theorem dC_draw_94 : decode mC_draw.2.1 94 = .ok (.if_icmp .eq 21, 3) := by decide +kernel
theorem dC_draw_97 : decode mC_draw.2.1 97 = .ok (.iinc 5 1, 3) := by decide +kernel
theorem dC_draw_100 : decode mC_draw.2.1 100 = .ok (.iload 6, 2) := by decide +kernel
theorem dC_draw_102 : decode mC_draw.2.1 102 = .ok (.aload_n 0, 1) := by decide +kernel
theorem dC_draw_103 : decode mC_draw.2.1 103 = .ok (.getfield 19, 3) := by decide +kernel
theorem dC_draw_106 : decode mC_draw.2.1 106 = .ok (.getfield 94, 3) := by decide +kernel
theorem dC_draw_109 : decode mC_draw.2.1 109 = .ok (.iload 8, 2) := by decide +kernel
theorem dC_draw_111 : decode mC_draw.2.1 111 = .ok (.iaload, 1) := by decide +kernel
theorem dC_draw_112 : decode mC_draw.2.1 112 = .ok (.iadd, 1) := by decide +kernel
theorem dC_draw_113 : decode mC_draw.2.1 113 = .ok (.istore 6, 2) := by decide +kernel
theorem dC_draw_115 : decode mC_draw.2.1 115 = .ok (.iinc 7 1, 3) := by decide +kernel
theorem dC_draw_118 : decode mC_draw.2.1 118 = .ok (.goto (-106), 3) := by decide +kernel
theorem dC_draw_121 : decode mC_draw.2.1 121 = .ok (.iload_n 3, 1) := by decide +kernel
theorem dC_draw_122 : decode mC_draw.2.1 122 = .ok (.ifCond .eq 8, 3) := by decide +kernel
theorem dC_draw_125 : decode mC_draw.2.1 125 = .ok (.iload 5, 2) := by decide +kernel
theorem dC_draw_127 : decode mC_draw.2.1 127 = .ok (.goto 5, 3) := by decide +kernel
theorem dC_draw_130 : decode mC_draw.2.1 130 = .ok (.iload 6, 2) := by decide +kernel
theorem dC_draw_132 : decode mC_draw.2.1 132 = .ok (.ireturn, 1) := by decide +kernel
/- C_draw: (IIZ)I -/
set_option maxRecDepth 4000 in
theorem wC_draw {X : Cx} (a1 a2 a3 : Int) (sw : Bool) (m : Mem) (Q : Int → Bool → Mem → Prop) (h : R2 X 1 mC_draw 12 [(0, vr 42), (2, vi a2), (3, vi a3), (4, vi a1), (5, vi 0), (6, vi 0), (7, vi 0)] [] sw m Q) : M2 X 1 mC_draw [vr 42, vi a1, vi a2, vi a3] sw m Q := by
  refine Mt.of pC_draw (Nat.le_of_ble_eq_true rfl) (Nat.le_refl _) ?_
  show R2 X 1 mC_draw 0 [(0, vr 42), (1, vi a1), (2, vi a2), (3, vi a3)] [] sw m Q
  refine r_iload_n 1 1 rfl dC_draw_0 rfl ?_
  refine r_istore 4 (by decide) dC_draw_1 ?_
  refine r_iconst dC_draw_3 ?_
  refine r_istore 5 (by decide) dC_draw_4 ?_
  refine r_iconst dC_draw_6 ?_
  refine r_istore 6 (by decide) dC_draw_7 ?_
  refine r_iconst dC_draw_9 ?_
  refine r_istore 7 (by decide) dC_draw_10 ?_
  refine r_sub [4, 6, 7, 3, 2, 1, 0] ?_ h
  rfl
set_option maxRecDepth 4000 in
theorem wC_draw_12 {X : Cx} (x2 x3 x4 x5 x6 x7 : Int) (sw : Bool) (m : Mem) (Q : Int → Bool → Mem → Prop) (h : ((w32 x2 ≤ w32 x7 → ((w32 x3 = 0 → Q x6 sw m) ∧ (¬ (w32 x3 = 0) → Q x5 sw m))) ∧ (¬ (w32 x2 ≤ w32 x7) → R2 X 1 mC_draw 24 [(0, vr 42), (2, vi x2), (3, vi x3), (4, vi x4), (5, vi x5), (6, vi x6), (7, vi x7), (8, vi 0), (9, vi 0)] [] sw m Q))) : R2 X 1 mC_draw 12 [(0, vr 42), (2, vi x2), (3, vi x3), (4, vi x4), (5, vi x5), (6, vi x6), (7, vi x7)] [] sw m Q := by
  refine r_iload 7 6 rfl dC_draw_12 ?_
  refine r_iload_n 2 1 rfl dC_draw_14 rfl ?_
  refine r_ifc_ge (tgt := 121) dC_draw_15 (by decide) (fun hc => ?_) (fun hc => ?_)
  · replace h := h.1 hc
    refine r_iload_n 3 2 rfl dC_draw_121 rfl ?_
    refine r_if_eq (tgt := 130) dC_draw_122 (by decide) (fun hc => ?_) (fun hc => ?_)
    · replace h := h.1 hc
      refine r_iload 6 5 rfl dC_draw_130 ?_
      exact q_iret rfl h dC_draw_132
    · replace h := h.2 hc
      refine r_iload 5 4 rfl dC_draw_125 ?_
      refine r_goto (tgt := 132) dC_draw_127 (by decide) ?_
      exact q_iret rfl h dC_draw_132
  · replace h := h.2 hc
    refine r_iconst dC_draw_18 ?_
    refine r_istore 8 (by decide) dC_draw_19 ?_
    refine r_iconst dC_draw_21 ?_
    refine r_istore 9 (by decide) dC_draw_22 ?_
    refine r_sub [2, 3, 4, 5, 6, 7, 8, 1, 0] ?_ h
    rfl
set_option maxRecDepth 4000 in
theorem wC_draw_24 {X : Cx} (x2 x3 x4 x5 x6 x7 x8 x9 : Int) (sw : Bool) (m : Mem) (Q : Int → Bool → Mem → Prop) (h : ((w32 (m 2 3) ≤ w32 x9 → ((0 ≤ w32 x8 ∧ w32 x8 < 512) ∧ ((w32 (m 36 (w32 x8)) = (-1) → R2 X 1 mC_draw 12 [(0, vr 42), (2, vi x2), (3, vi x3), (4, vi x4), (5, vi x5), (6, vi x6), (7, vi (x7 + 1))] [] sw m Q) ∧ (¬ (w32 (m 36 (w32 x8)) = (-1)) → ((0 ≤ w32 x8 ∧ w32 x8 < 512) ∧ R2 X 1 mC_draw 12 [(0, vr 42), (2, vi x2), (3, vi x3), (4, vi x4), (5, vi (x5 + 1)), (6, vi (x6 + (m 36 (w32 x8)))), (7, vi (x7 + 1))] [] sw m Q))))) ∧ (¬ (w32 (m 2 3) ≤ w32 x9) → ((0 ≤ w32 x9 ∧ w32 x9 < 9) ∧ ((w32 (m 38 (w32 x9)) ≤ w32 (zrem (zushr ((x4 * 1103515245) + 12345) 8) 12) → R2 X 1 mC_draw 24 [(0, vr 42), (2, vi x2), (3, vi x3), (4, vi ((x4 * 1103515245) + 12345)), (5, vi x5), (6, vi x6), (7, vi x7), (8, vi x8), (9, vi (x9 + 1))] [] sw m Q) ∧ (¬ (w32 (m 38 (w32 x9)) ≤ w32 (zrem (zushr ((x4 * 1103515245) + 12345) 8) 12)) → R2 X 1 mC_draw 24 [(0, vr 42), (2, vi x2), (3, vi x3), (4, vi ((x4 * 1103515245) + 12345)), (5, vi x5), (6, vi x6), (7, vi x7), (8, vi (zor x8 (zshl 1 x9))), (9, vi (x9 + 1))] [] sw m Q)))))) : R2 X 1 mC_draw 24 [(0, vr 42), (2, vi x2), (3, vi x3), (4, vi x4), (5, vi x5), (6, vi x6), (7, vi x7), (8, vi x8), (9, vi x9)] [] sw m Q := by
  refine r_iload 9 8 rfl dC_draw_24 ?_
  refine r_aload_n 0 0 rfl dC_draw_26 rfl ?_
  refine q_getR 0 c42 fC_15 rfl rfl (g42_0 sw) (by decide) dC_draw_27 ?_
  refine q_getI 3 c2 fC_67 rfl rfl dC_draw_30 ?_
  refine r_ifc_ge (tgt := 83) dC_draw_33 (by decide) (fun hc => ?_) (fun hc => ?_)
  · replace h := h.1 hc
    refine r_aload_n 0 0 rfl dC_draw_83 rfl ?_
    refine q_getR 1 c42 fC_19 rfl rfl (g42_1 sw) (by decide) dC_draw_84 ?_
    refine q_getR 4 c23 fC_94 rfl rfl (g23_4 sw) (by decide) dC_draw_87 ?_
    refine r_iload 8 7 rfl dC_draw_90 ?_
    refine q_iaload (w32 x8) rfl c36 h.1 dC_draw_92 ?_
    replace h := h.2
    refine r_iconst dC_draw_93 ?_
    refine r_ifc_eq (tgt := 115) dC_draw_94 (by decide) (fun hc => ?_) (fun hc => ?_)
    · replace h := h.1 hc
      refine r_iinc 7 6 rfl (by decide) dC_draw_115 ?_
      refine r_goto (tgt := 12) dC_draw_118 (by decide) ?_
      refine r_sub [1, 2, 3, 4, 5, 6, 0] ?_ h
      rfl
    · replace h := h.2 hc
      refine r_iinc 5 4 rfl (by decide) dC_draw_97 ?_
      refine r_iload 6 5 rfl dC_draw_100 ?_
      refine r_aload_n 0 1 rfl dC_draw_102 rfl ?_
      refine q_getR 1 c42 fC_19 rfl rfl (g42_1 sw) (by decide) dC_draw_103 ?_
      refine q_getR 4 c23 fC_94 rfl rfl (g23_4 sw) (by decide) dC_draw_106 ?_
      refine r_iload 8 7 rfl dC_draw_109 ?_
      refine q_iaload (w32 x8) rfl c36 h.1 dC_draw_111 ?_
      replace h := h.2
      refine r_iadd dC_draw_112 ?_
      refine r_istore 6 (by decide) dC_draw_113 ?_
      refine r_iinc 7 6 rfl (by decide) dC_draw_115 ?_
      refine r_goto (tgt := 12) dC_draw_118 (by decide) ?_
      refine r_sub [3, 4, 5, 6, 2, 1, 0] ?_ h
      rfl
  · replace h := h.2 hc
    refine r_iload 4 3 rfl dC_draw_36 ?_
    refine r_ldc (z := 1103515245) dC_draw_38 kC_107 ?_
    refine r_imul dC_draw_40 ?_
    refine r_sipush (by decide) dC_draw_41 ?_
    refine r_iadd dC_draw_44 ?_
    refine r_istore 4 (by decide) dC_draw_45 ?_
    refine r_iload 4 0 rfl dC_draw_47 ?_
    refine r_bipush (by decide) dC_draw_49 ?_
    refine r_iushr dC_draw_51 ?_
    refine r_bipush (by decide) dC_draw_52 ?_
    refine r_irem (by decide) dC_draw_54 ?_
    refine r_aload_n 0 1 rfl dC_draw_55 rfl ?_
    refine q_getR 2 c42 fC_23 rfl rfl (g42_2 sw) (by decide) dC_draw_56 ?_
    refine q_getR 2 c37 fC_78 rfl rfl (g37_2 sw) (by decide) dC_draw_59 ?_
    refine r_iload 9 8 rfl dC_draw_62 ?_
    refine q_iaload (w32 x9) rfl c38 h.1 dC_draw_64 ?_
    replace h := h.2
    refine r_ifc_ge (tgt := 77) dC_draw_65 (by decide) (fun hc => ?_) (fun hc => ?_)
    · replace h := h.1 hc
      refine r_iinc 9 8 rfl (by decide) dC_draw_77 ?_
      refine r_goto (tgt := 24) dC_draw_80 (by decide) ?_
      refine r_sub [2, 3, 4, 1, 5, 6, 7, 8, 0] ?_ h
      rfl
    · replace h := h.2 hc
      refine r_iload 8 7 rfl dC_draw_68 ?_
      refine r_iconst dC_draw_70 ?_
      refine r_iload 9 8 rfl dC_draw_71 ?_
      refine r_ishl dC_draw_73 ?_
      refine r_ior dC_draw_74 ?_
      refine r_istore 8 (by decide) dC_draw_75 ?_
      refine r_iinc 9 8 rfl (by decide) dC_draw_77 ?_
      refine r_goto (tgt := 24) dC_draw_80 (by decide) ?_
      refine r_sub [3, 4, 5, 2, 6, 7, 8, 1, 0] ?_ h
      rfl
theorem dI_isTold_0 : decode mI_isTold.2.1 0 = .ok (.iload_n 0, 1) := by decide +kernel
theorem dI_isTold_1 : decode mI_isTold.2.1 1 = .ok (.ifCond .lt 29, 3) := by decide +kernel
theorem dI_isTold_4 : decode mI_isTold.2.1 4 = .ok (.iload_n 0, 1) := by decide +kernel
theorem dI_isTold_5 : decode mI_isTold.2.1 5 = .ok (.ldc 30, 2) := by decide +kernel
theorem dI_isTold_7 : decode mI_isTold.2.1 7 = .ok (.if_icmp .ge 23, 3) := by decide +kernel
theorem dI_isTold_10 : decode mI_isTold.2.1 10 = .ok (.iload_n 0, 1) := by decide +kernel
theorem dI_isTold_11 : decode mI_isTold.2.1 11 = .ok (.sipush 512, 3) := by decide +kernel
theorem dI_isTold_14 : decode mI_isTold.2.1 14 = .ok (.irem, 1) := by decide +kernel
theorem dI_isTold_15 : decode mI_isTold.2.1 15 = .ok (.iload_n 0, 1) := by decide +kernel
theorem dI_isTold_16 : decode mI_isTold.2.1 16 = .ok (.sipush 512, 3) := by decide +kernel
theorem dI_isTold_19 : decode mI_isTold.2.1 19 = .ok (.idiv, 1) := by decide +kernel
theorem dI_isTold_20 : decode mI_isTold.2.1 20 = .ok (.iconst (-1), 1) := by decide +kernel
theorem dI_isTold_21 : decode mI_isTold.2.1 21 = .ok (.ixor, 1) := by decide +kernel
theorem dI_isTold_22 : decode mI_isTold.2.1 22 = .ok (.iand, 1) := by decide +kernel
theorem dI_isTold_23 : decode mI_isTold.2.1 23 = .ok (.ifCond .ne 7, 3) := by decide +kernel
theorem dI_isTold_26 : decode mI_isTold.2.1 26 = .ok (.iconst 1, 1) := by decide +kernel
theorem dI_isTold_27 : decode mI_isTold.2.1 27 = .ok (.goto 4, 3) := by decide +kernel
theorem dI_isTold_30 : decode mI_isTold.2.1 30 = .ok (.iconst 0, 1) := by decide +kernel
theorem dI_isTold_31 : decode mI_isTold.2.1 31 = .ok (.ireturn, 1) := by decide +kernel
/- I_isTold: (I)Z -/
set_option maxRecDepth 4000 in
theorem wI_isTold {X : Cx} (a0 : Int) (sw : Bool) (m : Mem) (Q : Int → Bool → Mem → Prop) (h : ((w32 a0 < 0 → Q 0 sw m) ∧ (¬ (w32 a0 < 0) → ((262144 ≤ w32 a0 → Q 0 sw m) ∧ (¬ (262144 ≤ w32 a0) → ((¬ w32 (zand (zrem a0 512) (zxor (zdiv a0 512) (-1))) = 0 → Q 0 sw m) ∧ (¬ (¬ w32 (zand (zrem a0 512) (zxor (zdiv a0 512) (-1))) = 0) → Q 1 sw m))))))) : M2 X 1 mI_isTold [vi a0] sw m Q := by
  refine Mt.of pI_isTold (Nat.le_of_ble_eq_true rfl) (Nat.le_refl _) ?_
  show R2 X 1 mI_isTold 0 [(0, vi a0)] [] sw m Q
  refine r_iload_n 0 0 rfl dI_isTold_0 rfl ?_
  refine r_if_lt (tgt := 30) dI_isTold_1 (by decide) (fun hc => ?_) (fun hc => ?_)
  · replace h := h.1 hc
    refine r_iconst dI_isTold_30 ?_
    exact q_bret rfl (Or.inl rfl) h dI_isTold_31
  · replace h := h.2 hc
    refine r_iload_n 0 0 rfl dI_isTold_4 rfl ?_
    refine r_ldc (z := 262144) dI_isTold_5 kI_30 ?_
    refine r_ifc_ge (tgt := 30) dI_isTold_7 (by decide) (fun hc => ?_) (fun hc => ?_)
    · replace h := h.1 hc
      refine r_iconst dI_isTold_30 ?_
      exact q_bret rfl (Or.inl rfl) h dI_isTold_31
    · replace h := h.2 hc
      refine r_iload_n 0 0 rfl dI_isTold_10 rfl ?_
      refine r_sipush (by decide) dI_isTold_11 ?_
      refine r_irem (by decide) dI_isTold_14 ?_
      refine r_iload_n 0 0 rfl dI_isTold_15 rfl ?_
      refine r_sipush (by decide) dI_isTold_16 ?_
      refine r_idiv (by decide) dI_isTold_19 ?_
      refine r_iconst dI_isTold_20 ?_
      refine r_ixor dI_isTold_21 ?_
      refine r_iand dI_isTold_22 ?_
      refine r_if_ne (tgt := 30) dI_isTold_23 (by decide) (fun hc => ?_) (fun hc => ?_)
      · replace h := h.1 hc
        refine r_iconst dI_isTold_30 ?_
        exact q_bret rfl (Or.inl rfl) h dI_isTold_31
      · replace h := h.2 hc
        refine r_iconst dI_isTold_26 ?_
        refine r_goto (tgt := 31) dI_isTold_27 (by decide) ?_
        exact q_bret rfl (Or.inr rfl) h dI_isTold_31
theorem dI_hear_0 : decode mI_hear.2.1 0 = .ok (.aload_n 0, 1) := by decide +kernel
theorem dI_hear_1 : decode mI_hear.2.1 1 = .ok (.iload_n 1, 1) := by decide +kernel
theorem dI_hear_2 : decode mI_hear.2.1 2 = .ok (.sipush 512, 3) := by decide +kernel
theorem dI_hear_5 : decode mI_hear.2.1 5 = .ok (.idiv, 1) := by decide +kernel
theorem dI_hear_6 : decode mI_hear.2.1 6 = .ok (.aload_n 0, 1) := by decide +kernel
theorem dI_hear_7 : decode mI_hear.2.1 7 = .ok (.getfield 22, 3) := by decide +kernel
theorem dI_hear_10 : decode mI_hear.2.1 10 = .ok (.getfield 31, 3) := by decide +kernel
theorem dI_hear_13 : decode mI_hear.2.1 13 = .ok (.iconst 1, 1) := by decide +kernel
theorem dI_hear_14 : decode mI_hear.2.1 14 = .ok (.isub, 1) := by decide +kernel
theorem dI_hear_15 : decode mI_hear.2.1 15 = .ok (.iand, 1) := by decide +kernel
theorem dI_hear_16 : decode mI_hear.2.1 16 = .ok (.putfield 37, 3) := by decide +kernel
theorem dI_hear_19 : decode mI_hear.2.1 19 = .ok (.aload_n 0, 1) := by decide +kernel
theorem dI_hear_20 : decode mI_hear.2.1 20 = .ok (.iload_n 1, 1) := by decide +kernel
theorem dI_hear_21 : decode mI_hear.2.1 21 = .ok (.sipush 512, 3) := by decide +kernel
theorem dI_hear_24 : decode mI_hear.2.1 24 = .ok (.irem, 1) := by decide +kernel
theorem dI_hear_25 : decode mI_hear.2.1 25 = .ok (.aload_n 0, 1) := by decide +kernel
theorem dI_hear_26 : decode mI_hear.2.1 26 = .ok (.getfield 22, 3) := by decide +kernel
theorem dI_hear_29 : decode mI_hear.2.1 29 = .ok (.getfield 31, 3) := by decide +kernel
theorem dI_hear_32 : decode mI_hear.2.1 32 = .ok (.iconst 1, 1) := by decide +kernel
theorem dI_hear_33 : decode mI_hear.2.1 33 = .ok (.isub, 1) := by decide +kernel
theorem dI_hear_34 : decode mI_hear.2.1 34 = .ok (.iand, 1) := by decide +kernel
theorem dI_hear_35 : decode mI_hear.2.1 35 = .ok (.putfield 40, 3) := by decide +kernel
theorem dI_hear_38 : decode mI_hear.2.1 38 = .ok (.return_, 1) := by decide +kernel
/- I_hear: (I)V -/
set_option maxRecDepth 4000 in
theorem wI_hear {X : Cx} (a1 : Int) (sw : Bool) (m : Mem) (Q : Int → Bool → Mem → Prop) (h : Q 0 sw (upm (upm m 44 5 (zand (zdiv a1 512) ((m 23 5) - 1))) 44 6 (zand (zrem a1 512) ((m 23 5) - 1)))) : M2 X 1 mI_hear [vr 44, vi a1] sw m Q := by
  refine Mt.of pI_hear (Nat.le_of_ble_eq_true rfl) (Nat.le_refl _) ?_
  show R2 X 1 mI_hear 0 [(0, vr 44), (1, vi a1)] [] sw m Q
  refine r_aload_n 0 0 rfl dI_hear_0 rfl ?_
  refine r_iload_n 1 1 rfl dI_hear_1 rfl ?_
  refine r_sipush (by decide) dI_hear_2 ?_
  refine r_idiv (by decide) dI_hear_5 ?_
  refine r_aload_n 0 0 rfl dI_hear_6 rfl ?_
  refine q_getR 1 c44 fI_22 rfl rfl (g44_1 sw) (by decide) dI_hear_7 ?_
  refine q_getI 5 c23 fI_31 rfl rfl dI_hear_10 ?_
  refine r_iconst dI_hear_13 ?_
  refine r_isub dI_hear_14 ?_
  refine r_iand dI_hear_15 ?_
  refine q_putI 5 c44 pfI_37 rfl rfl dI_hear_16 ?_
  refine r_aload_n 0 0 rfl dI_hear_19 rfl ?_
  refine r_iload_n 1 1 rfl dI_hear_20 rfl ?_
  refine r_sipush (by decide) dI_hear_21 ?_
  refine r_irem (by decide) dI_hear_24 ?_
  refine r_aload_n 0 0 rfl dI_hear_25 rfl ?_
  refine q_getR 1 c44 fI_22 rfl rfl (g44_1 sw) (by decide) dI_hear_26 ?_
  refine q_getI 5 c23 fI_31 rfl rfl dI_hear_29 ?_
  refine r_iconst dI_hear_32 ?_
  refine r_isub dI_hear_33 ?_
  refine r_iand dI_hear_34 ?_
  refine q_putI 6 c44 pfI_40 rfl rfl dI_hear_35 ?_
  exact q_vret rfl h dI_hear_38
theorem dI_oddsSo_0 : decode mI_oddsSo.2.1 0 = .ok (.aload_n 0, 1) := by decide +kernel
theorem dI_oddsSo_1 : decode mI_oddsSo.2.1 1 = .ok (.getfield 22, 3) := by decide +kernel
theorem dI_oddsSo_4 : decode mI_oddsSo.2.1 4 = .ok (.getfield 43, 3) := by decide +kernel
theorem dI_oddsSo_7 : decode mI_oddsSo.2.1 7 = .ok (.iload_n 1, 1) := by decide +kernel
theorem dI_oddsSo_8 : decode mI_oddsSo.2.1 8 = .ok (.iaload, 1) := by decide +kernel
theorem dI_oddsSo_9 : decode mI_oddsSo.2.1 9 = .ok (.aload_n 0, 1) := by decide +kernel
theorem dI_oddsSo_10 : decode mI_oddsSo.2.1 10 = .ok (.getfield 37, 3) := by decide +kernel
theorem dI_oddsSo_13 : decode mI_oddsSo.2.1 13 = .ok (.iand, 1) := by decide +kernel
theorem dI_oddsSo_14 : decode mI_oddsSo.2.1 14 = .ok (.aload_n 0, 1) := by decide +kernel
theorem dI_oddsSo_15 : decode mI_oddsSo.2.1 15 = .ok (.getfield 40, 3) := by decide +kernel
theorem dI_oddsSo_18 : decode mI_oddsSo.2.1 18 = .ok (.if_icmp .ne 15, 3) := by decide +kernel
theorem dI_oddsSo_21 : decode mI_oddsSo.2.1 21 = .ok (.aload_n 0, 1) := by decide +kernel
theorem dI_oddsSo_22 : decode mI_oddsSo.2.1 22 = .ok (.getfield 26, 3) := by decide +kernel
theorem dI_oddsSo_25 : decode mI_oddsSo.2.1 25 = .ok (.getfield 47, 3) := by decide +kernel
theorem dI_oddsSo_28 : decode mI_oddsSo.2.1 28 = .ok (.iload_n 1, 1) := by decide +kernel
theorem dI_oddsSo_29 : decode mI_oddsSo.2.1 29 = .ok (.laload, 1) := by decide +kernel
theorem dI_oddsSo_30 : decode mI_oddsSo.2.1 30 = .ok (.goto 4, 3) := by decide +kernel
theorem dI_oddsSo_33 : decode mI_oddsSo.2.1 33 = .ok (.lconst 0, 1) := by decide +kernel
theorem dI_oddsSo_34 : decode mI_oddsSo.2.1 34 = .ok (.lreturn, 1) := by decide +kernel
/- I_oddsSo: (I)J -/
set_option maxRecDepth 4000 in
theorem wI_oddsSo {X : Cx} (a1 : Int) (sw : Bool) (m : Mem) (Q : Int → Bool → Mem → Prop) (h : ((0 ≤ w32 a1 ∧ w32 a1 < 512) ∧ ((¬ w32 (zand (m 34 (w32 a1)) (m 44 5)) = w32 (m 44 6) → Q 0 sw m) ∧ (¬ (¬ w32 (zand (m 34 (w32 a1)) (m 44 5)) = w32 (m 44 6)) → ((0 ≤ w32 a1 ∧ w32 a1 < 512) ∧ Q (m 39 (w32 a1)) sw m))))) : M2 X 1 mI_oddsSo [vr 44, vi a1] sw m Q := by
  refine Mt.of pI_oddsSo (Nat.le_of_ble_eq_true rfl) (Nat.le_refl _) ?_
  show R2 X 1 mI_oddsSo 0 [(0, vr 44), (1, vi a1)] [] sw m Q
  refine r_aload_n 0 0 rfl dI_oddsSo_0 rfl ?_
  refine q_getR 1 c44 fI_22 rfl rfl (g44_1 sw) (by decide) dI_oddsSo_1 ?_
  refine q_getR 2 c23 fI_43 rfl rfl (g23_2 sw) (by decide) dI_oddsSo_4 ?_
  refine r_iload_n 1 1 rfl dI_oddsSo_7 rfl ?_
  refine q_iaload (w32 a1) rfl c34 h.1 dI_oddsSo_8 ?_
  replace h := h.2
  refine r_aload_n 0 0 rfl dI_oddsSo_9 rfl ?_
  refine q_getI 5 c44 fI_37 rfl rfl dI_oddsSo_10 ?_
  refine r_iand dI_oddsSo_13 ?_
  refine r_aload_n 0 0 rfl dI_oddsSo_14 rfl ?_
  refine q_getI 6 c44 fI_40 rfl rfl dI_oddsSo_15 ?_
  refine r_ifc_ne (tgt := 33) dI_oddsSo_18 (by decide) (fun hc => ?_) (fun hc => ?_)
  · replace h := h.1 hc
    refine r_lconst dI_oddsSo_33 ?_
    exact q_lret rfl h dI_oddsSo_34
  · replace h := h.2 hc
    refine r_aload_n 0 0 rfl dI_oddsSo_21 rfl ?_
    refine q_getR 2 c44 fI_26 rfl rfl (g44_2 sw) (by decide) dI_oddsSo_22 ?_
    refine q_getR 3 c37 fI_47 rfl rfl (g37_3 sw) (by decide) dI_oddsSo_25 ?_
    refine r_iload_n 1 1 rfl dI_oddsSo_28 rfl ?_
    refine q_laload (w32 a1) rfl c39 h.1 dI_oddsSo_29 ?_
    replace h := h.2
    refine r_goto (tgt := 34) dI_oddsSo_30 (by decide) ?_
    exact q_lret rfl h dI_oddsSo_34
theorem dI_oddsHeard_0 : decode mI_oddsHeard.2.1 0 = .ok (.lconst 0, 1) := by decide +kernel
theorem dI_oddsHeard_1 : decode mI_oddsHeard.2.1 1 = .ok (.lstore_n 1, 1) := by decide +kernel
theorem dI_oddsHeard_2 : decode mI_oddsHeard.2.1 2 = .ok (.iconst 0, 1) := by decide +kernel
theorem dI_oddsHeard_3 : decode mI_oddsHeard.2.1 3 = .ok (.istore_n 3, 1) := by decide +kernel
theorem dI_oddsHeard_4 : decode mI_oddsHeard.2.1 4 = .ok (.iload_n 3, 1) := by decide +kernel
theorem dI_oddsHeard_5 : decode mI_oddsHeard.2.1 5 = .ok (.aload_n 0, 1) := by decide +kernel
theorem dI_oddsHeard_6 : decode mI_oddsHeard.2.1 6 = .ok (.getfield 22, 3) := by decide +kernel
theorem dI_oddsHeard_9 : decode mI_oddsHeard.2.1 9 = .ok (.getfield 31, 3) := by decide +kernel
theorem dI_oddsHeard_12 : decode mI_oddsHeard.2.1 12 = .ok (.if_icmp .ge 17, 3) := by decide +kernel
theorem dI_oddsHeard_15 : decode mI_oddsHeard.2.1 15 = .ok (.lload_n 1, 1) := by decide +kernel
theorem dI_oddsHeard_16 : decode mI_oddsHeard.2.1 16 = .ok (.aload_n 0, 1) := by decide +kernel
theorem dI_oddsHeard_17 : decode mI_oddsHeard.2.1 17 = .ok (.iload_n 3, 1) := by decide +kernel
theorem dI_oddsHeard_18 : decode mI_oddsHeard.2.1 18 = .ok (.invokevirtual 52, 3) := by decide +kernel
theorem dI_oddsHeard_21 : decode mI_oddsHeard.2.1 21 = .ok (.ladd, 1) := by decide +kernel
theorem dI_oddsHeard_22 : decode mI_oddsHeard.2.1 22 = .ok (.lstore_n 1, 1) := by decide +kernel
theorem dI_oddsHeard_23 : decode mI_oddsHeard.2.1 23 = .ok (.iinc 3 1, 3) := by decide +kernel
theorem dI_oddsHeard_26 : decode mI_oddsHeard.2.1 26 = .ok (.goto (-22), 3) := by decide +kernel
theorem dI_oddsHeard_29 : decode mI_oddsHeard.2.1 29 = .ok (.lload_n 1, 1) := by decide +kernel
theorem dI_oddsHeard_30 : decode mI_oddsHeard.2.1 30 = .ok (.lreturn, 1) := by decide +kernel
/- I_oddsHeard: ()J -/
set_option maxRecDepth 4000 in
theorem wI_oddsHeard {X : Cx} (sw : Bool) (m : Mem) (Q : Int → Bool → Mem → Prop) (h : R2 X 2 mI_oddsHeard 4 [(0, vr 44), (1, vl 0), (3, vi 0)] [] sw m Q) : M2 X 2 mI_oddsHeard [vr 44] sw m Q := by
  refine Mt.of pI_oddsHeard (Nat.le_of_ble_eq_true rfl) (Nat.le_refl _) ?_
  show R2 X 2 mI_oddsHeard 0 [(0, vr 44)] [] sw m Q
  refine r_lconst dI_oddsHeard_0 ?_
  refine r_lstore_n 1 (by decide) dI_oddsHeard_1 rfl ?_
  refine r_iconst dI_oddsHeard_2 ?_
  refine r_istore_n 3 (by decide) dI_oddsHeard_3 rfl ?_
  refine r_sub [2, 1, 0] ?_ h
  rfl
set_option maxRecDepth 4000 in
theorem wI_oddsHeard_4 {X : Cx} (x1 x3 : Int) (sw : Bool) (m : Mem) (Q : Int → Bool → Mem → Prop) (h : ((w32 (m 23 5) ≤ w32 x3 → Q x1 sw m) ∧ (¬ (w32 (m 23 5) ≤ w32 x3) → M2 X 1 mI_oddsSo [vr 44, vi x3] sw m (fun z1 sw1 m1 => R2 X 2 mI_oddsHeard 4 [(0, vr 44), (1, vl (x1 + z1)), (3, vi (x3 + 1))] [] sw1 m1 Q)))) : R2 X 2 mI_oddsHeard 4 [(0, vr 44), (1, vl x1), (3, vi x3)] [] sw m Q := by
  refine r_iload_n 3 2 rfl dI_oddsHeard_4 rfl ?_
  refine r_aload_n 0 0 rfl dI_oddsHeard_5 rfl ?_
  refine q_getR 1 c44 fI_22 rfl rfl (g44_1 sw) (by decide) dI_oddsHeard_6 ?_
  refine q_getI 5 c23 fI_31 rfl rfl dI_oddsHeard_9 ?_
  refine r_ifc_ge (tgt := 29) dI_oddsHeard_12 (by decide) (fun hc => ?_) (fun hc => ?_)
  · replace h := h.1 hc
    refine r_lload_n 1 1 rfl dI_oddsHeard_29 rfl ?_
    exact q_lret rfl h dI_oddsHeard_30
  · replace h := h.2 hc
    refine r_lload_n 1 1 rfl dI_oddsHeard_15 rfl ?_
    refine r_aload_n 0 0 rfl dI_oddsHeard_16 rfl ?_
    refine r_iload_n 3 2 rfl dI_oddsHeard_17 rfl ?_
    refine r_callVl 6 [_] rfl c44 rfl rfl oI_oddsSo iI_oddsSo sI_oddsSo yI_52 (by decide) ⟨Nat.le_refl _, Nat.le_refl _⟩ rfl (Nat.le_of_ble_eq_true rfl) dI_oddsHeard_18 h (fun z1 r1 m1 h => ?_)
    obtain ⟨sw1, rfl, h⟩ := h
    refine r_ladd dI_oddsHeard_21 ?_
    refine r_lstore_n 1 (by decide) dI_oddsHeard_22 rfl ?_
    refine r_iinc 3 2 rfl (by decide) dI_oddsHeard_23 ?_
    refine r_goto (tgt := 4) dI_oddsHeard_26 (by decide) ?_
    refine r_sub [2, 1, 0] ?_ h
    rfl
theorem dI_oddsStuck_0 : decode mI_oddsStuck.2.1 0 = .ok (.lconst 0, 1) := by decide +kernel
theorem dI_oddsStuck_1 : decode mI_oddsStuck.2.1 1 = .ok (.lstore_n 2, 1) := by decide +kernel
theorem dI_oddsStuck_2 : decode mI_oddsStuck.2.1 2 = .ok (.iconst 0, 1) := by decide +kernel
theorem dI_oddsStuck_3 : decode mI_oddsStuck.2.1 3 = .ok (.istore 4, 2) := by decide +kernel
theorem dI_oddsStuck_5 : decode mI_oddsStuck.2.1 5 = .ok (.iload 4, 2) := by decide +kernel
theorem dI_oddsStuck_7 : decode mI_oddsStuck.2.1 7 = .ok (.aload_n 0, 1) := by decide +kernel
theorem dI_oddsStuck_8 : decode mI_oddsStuck.2.1 8 = .ok (.getfield 22, 3) := by decide +kernel
theorem dI_oddsStuck_11 : decode mI_oddsStuck.2.1 11 = .ok (.getfield 31, 3) := by decide +kernel
theorem dI_oddsStuck_14 : decode mI_oddsStuck.2.1 14 = .ok (.if_icmp .ge 34, 3) := by decide +kernel
theorem dI_oddsStuck_17 : decode mI_oddsStuck.2.1 17 = .ok (.lload_n 2, 1) := by decide +kernel
theorem dI_oddsStuck_18 : decode mI_oddsStuck.2.1 18 = .ok (.aload_n 0, 1) := by decide +kernel
theorem dI_oddsStuck_19 : decode mI_oddsStuck.2.1 19 = .ok (.getfield 22, 3) := by decide +kernel
theorem dI_oddsStuck_22 : decode mI_oddsStuck.2.1 22 = .ok (.getfield 56, 3) := by decide +kernel
theorem dI_oddsStuck_25 : decode mI_oddsStuck.2.1 25 = .ok (.iload 4, 2) := by decide +kernel
theorem dI_oddsStuck_27 : decode mI_oddsStuck.2.1 27 = .ok (.iaload, 1) := by decide +kernel
theorem dI_oddsStuck_28 : decode mI_oddsStuck.2.1 28 = .ok (.iload_n 1, 1) := by decide +kernel
theorem dI_oddsStuck_29 : decode mI_oddsStuck.2.1 29 = .ok (.ishr, 1) := by decide +kernel
theorem dI_oddsStuck_30 : decode mI_oddsStuck.2.1 30 = .ok (.iconst 1, 1) := by decide +kernel
theorem dI_oddsStuck_31 : decode mI_oddsStuck.2.1 31 = .ok (.iand, 1) := by decide +kernel
theorem dI_oddsStuck_32 : decode mI_oddsStuck.2.1 32 = .ok (.i2l, 1) := by decide +kernel
theorem dI_oddsStuck_33 : decode mI_oddsStuck.2.1 33 = .ok (.aload_n 0, 1) := by decide +kernel
theorem dI_oddsStuck_34 : decode mI_oddsStuck.2.1 34 = .ok (.iload 4, 2) := by decide +kernel
theorem dI_oddsStuck_36 : decode mI_oddsStuck.2.1 36 = .ok (.invokevirtual 52, 3) := by decide +kernel
theorem dI_oddsStuck_39 : decode mI_oddsStuck.2.1 39 = .ok (.lmul, 1) := by decide +kernel
theorem dI_oddsStuck_40 : decode mI_oddsStuck.2.1 40 = .ok (.ladd, 1) := by decide +kernel
theorem dI_oddsStuck_41 : decode mI_oddsStuck.2.1 41 = .ok (.lstore_n 2, 1) := by decide +kernel
theorem dI_oddsStuck_42 : decode mI_oddsStuck.2.1 42 = .ok (.iinc 4 1, 3) := by decide +kernel
theorem dI_oddsStuck_45 : decode mI_oddsStuck.2.1 45 = .ok (.goto (-40), 3) := by decide +kernel
theorem dI_oddsStuck_48 : decode mI_oddsStuck.2.1 48 = .ok (.lload_n 2, 1) := by decide +kernel
theorem dI_oddsStuck_49 : decode mI_oddsStuck.2.1 49 = .ok (.lreturn, 1) := by decide +kernel
/- I_oddsStuck: (I)J -/
set_option maxRecDepth 4000 in
theorem wI_oddsStuck {X : Cx} (a1 : Int) (sw : Bool) (m : Mem) (Q : Int → Bool → Mem → Prop) (h : R2 X 2 mI_oddsStuck 5 [(0, vr 44), (1, vi a1), (2, vl 0), (4, vi 0)] [] sw m Q) : M2 X 2 mI_oddsStuck [vr 44, vi a1] sw m Q := by
  refine Mt.of pI_oddsStuck (Nat.le_of_ble_eq_true rfl) (Nat.le_refl _) ?_
  show R2 X 2 mI_oddsStuck 0 [(0, vr 44), (1, vi a1)] [] sw m Q
  refine r_lconst dI_oddsStuck_0 ?_
  refine r_lstore_n 2 (by decide) dI_oddsStuck_1 rfl ?_
  refine r_iconst dI_oddsStuck_2 ?_
  refine r_istore 4 (by decide) dI_oddsStuck_3 ?_
  refine r_sub [2, 3, 1, 0] ?_ h
  rfl
set_option maxRecDepth 4000 in
theorem wI_oddsStuck_5 {X : Cx} (x1 x2 x4 : Int) (sw : Bool) (m : Mem) (Q : Int → Bool → Mem → Prop) (h : ((w32 (m 23 5) ≤ w32 x4 → Q x2 sw m) ∧ (¬ (w32 (m 23 5) ≤ w32 x4) → ((0 ≤ w32 x4 ∧ w32 x4 < 512) ∧ M2 X 1 mI_oddsSo [vr 44, vi x4] sw m (fun z1 sw1 m1 => R2 X 2 mI_oddsStuck 5 [(0, vr 44), (1, vi x1), (2, vl (x2 + (w32 (zand (zshr (m 35 (w32 x4)) x1) 1) * z1))), (4, vi (x4 + 1))] [] sw1 m1 Q))))) : R2 X 2 mI_oddsStuck 5 [(0, vr 44), (1, vi x1), (2, vl x2), (4, vi x4)] [] sw m Q := by
  refine r_iload 4 3 rfl dI_oddsStuck_5 ?_
  refine r_aload_n 0 0 rfl dI_oddsStuck_7 rfl ?_
  refine q_getR 1 c44 fI_22 rfl rfl (g44_1 sw) (by decide) dI_oddsStuck_8 ?_
  refine q_getI 5 c23 fI_31 rfl rfl dI_oddsStuck_11 ?_
  refine r_ifc_ge (tgt := 48) dI_oddsStuck_14 (by decide) (fun hc => ?_) (fun hc => ?_)
  · replace h := h.1 hc
    refine r_lload_n 2 2 rfl dI_oddsStuck_48 rfl ?_
    exact q_lret rfl h dI_oddsStuck_49
  · replace h := h.2 hc
    refine r_lload_n 2 2 rfl dI_oddsStuck_17 rfl ?_
    refine r_aload_n 0 0 rfl dI_oddsStuck_18 rfl ?_
    refine q_getR 1 c44 fI_22 rfl rfl (g44_1 sw) (by decide) dI_oddsStuck_19 ?_
    refine q_getR 3 c23 fI_56 rfl rfl (g23_3 sw) (by decide) dI_oddsStuck_22 ?_
    refine r_iload 4 3 rfl dI_oddsStuck_25 ?_
    refine q_iaload (w32 x4) rfl c35 h.1 dI_oddsStuck_27 ?_
    replace h := h.2
    refine r_iload_n 1 1 rfl dI_oddsStuck_28 rfl ?_
    refine r_ishr dI_oddsStuck_29 ?_
    refine r_iconst dI_oddsStuck_30 ?_
    refine r_iand dI_oddsStuck_31 ?_
    refine r_i2l dI_oddsStuck_32 ?_
    refine r_aload_n 0 0 rfl dI_oddsStuck_33 rfl ?_
    refine r_iload 4 3 rfl dI_oddsStuck_34 ?_
    refine r_callVl 6 [_] rfl c44 rfl rfl oI_oddsSo iI_oddsSo sI_oddsSo yI_52 (by decide) ⟨Nat.le_refl _, Nat.le_refl _⟩ rfl (Nat.le_of_ble_eq_true rfl) dI_oddsStuck_36 h (fun z1 r1 m1 h => ?_)
    obtain ⟨sw1, rfl, h⟩ := h
    refine r_lmul dI_oddsStuck_39 ?_
    refine r_ladd dI_oddsStuck_40 ?_
    refine r_lstore_n 2 (by decide) dI_oddsStuck_41 rfl ?_
    refine r_iinc 4 3 rfl (by decide) dI_oddsStuck_42 ?_
    refine r_goto (tgt := 5) dI_oddsStuck_45 (by decide) ?_
    refine r_sub [2, 3, 1, 0] ?_ h
    rfl
theorem dI_oddsGone_0 : decode mI_oddsGone.2.1 0 = .ok (.lconst 0, 1) := by decide +kernel
theorem dI_oddsGone_1 : decode mI_oddsGone.2.1 1 = .ok (.lstore_n 2, 1) := by decide +kernel
theorem dI_oddsGone_2 : decode mI_oddsGone.2.1 2 = .ok (.iconst 0, 1) := by decide +kernel
theorem dI_oddsGone_3 : decode mI_oddsGone.2.1 3 = .ok (.istore 4, 2) := by decide +kernel
theorem dI_oddsGone_5 : decode mI_oddsGone.2.1 5 = .ok (.iload 4, 2) := by decide +kernel
theorem dI_oddsGone_7 : decode mI_oddsGone.2.1 7 = .ok (.aload_n 0, 1) := by decide +kernel
theorem dI_oddsGone_8 : decode mI_oddsGone.2.1 8 = .ok (.getfield 22, 3) := by decide +kernel
theorem dI_oddsGone_11 : decode mI_oddsGone.2.1 11 = .ok (.getfield 31, 3) := by decide +kernel
theorem dI_oddsGone_14 : decode mI_oddsGone.2.1 14 = .ok (.if_icmp .ge 34, 3) := by decide +kernel
theorem dI_oddsGone_17 : decode mI_oddsGone.2.1 17 = .ok (.lload_n 2, 1) := by decide +kernel
theorem dI_oddsGone_18 : decode mI_oddsGone.2.1 18 = .ok (.aload_n 0, 1) := by decide +kernel
theorem dI_oddsGone_19 : decode mI_oddsGone.2.1 19 = .ok (.getfield 22, 3) := by decide +kernel
theorem dI_oddsGone_22 : decode mI_oddsGone.2.1 22 = .ok (.getfield 43, 3) := by decide +kernel
theorem dI_oddsGone_25 : decode mI_oddsGone.2.1 25 = .ok (.iload 4, 2) := by decide +kernel
theorem dI_oddsGone_27 : decode mI_oddsGone.2.1 27 = .ok (.iaload, 1) := by decide +kernel
theorem dI_oddsGone_28 : decode mI_oddsGone.2.1 28 = .ok (.iload_n 1, 1) := by decide +kernel
theorem dI_oddsGone_29 : decode mI_oddsGone.2.1 29 = .ok (.ishr, 1) := by decide +kernel
theorem dI_oddsGone_30 : decode mI_oddsGone.2.1 30 = .ok (.iconst 1, 1) := by decide +kernel
theorem dI_oddsGone_31 : decode mI_oddsGone.2.1 31 = .ok (.iand, 1) := by decide +kernel
theorem dI_oddsGone_32 : decode mI_oddsGone.2.1 32 = .ok (.i2l, 1) := by decide +kernel
theorem dI_oddsGone_33 : decode mI_oddsGone.2.1 33 = .ok (.aload_n 0, 1) := by decide +kernel
theorem dI_oddsGone_34 : decode mI_oddsGone.2.1 34 = .ok (.iload 4, 2) := by decide +kernel
theorem dI_oddsGone_36 : decode mI_oddsGone.2.1 36 = .ok (.invokevirtual 52, 3) := by decide +kernel
theorem dI_oddsGone_39 : decode mI_oddsGone.2.1 39 = .ok (.lmul, 1) := by decide +kernel
theorem dI_oddsGone_40 : decode mI_oddsGone.2.1 40 = .ok (.ladd, 1) := by decide +kernel
theorem dI_oddsGone_41 : decode mI_oddsGone.2.1 41 = .ok (.lstore_n 2, 1) := by decide +kernel
theorem dI_oddsGone_42 : decode mI_oddsGone.2.1 42 = .ok (.iinc 4 1, 3) := by decide +kernel
theorem dI_oddsGone_45 : decode mI_oddsGone.2.1 45 = .ok (.goto (-40), 3) := by decide +kernel
theorem dI_oddsGone_48 : decode mI_oddsGone.2.1 48 = .ok (.lload_n 2, 1) := by decide +kernel
theorem dI_oddsGone_49 : decode mI_oddsGone.2.1 49 = .ok (.lreturn, 1) := by decide +kernel
/- I_oddsGone: (I)J -/
set_option maxRecDepth 4000 in
theorem wI_oddsGone {X : Cx} (a1 : Int) (sw : Bool) (m : Mem) (Q : Int → Bool → Mem → Prop) (h : R2 X 2 mI_oddsGone 5 [(0, vr 44), (1, vi a1), (2, vl 0), (4, vi 0)] [] sw m Q) : M2 X 2 mI_oddsGone [vr 44, vi a1] sw m Q := by
  refine Mt.of pI_oddsGone (Nat.le_of_ble_eq_true rfl) (Nat.le_refl _) ?_
  show R2 X 2 mI_oddsGone 0 [(0, vr 44), (1, vi a1)] [] sw m Q
  refine r_lconst dI_oddsGone_0 ?_
  refine r_lstore_n 2 (by decide) dI_oddsGone_1 rfl ?_
  refine r_iconst dI_oddsGone_2 ?_
  refine r_istore 4 (by decide) dI_oddsGone_3 ?_
  refine r_sub [2, 3, 1, 0] ?_ h
  rfl
set_option maxRecDepth 4000 in
theorem wI_oddsGone_5 {X : Cx} (x1 x2 x4 : Int) (sw : Bool) (m : Mem) (Q : Int → Bool → Mem → Prop) (h : ((w32 (m 23 5) ≤ w32 x4 → Q x2 sw m) ∧ (¬ (w32 (m 23 5) ≤ w32 x4) → ((0 ≤ w32 x4 ∧ w32 x4 < 512) ∧ M2 X 1 mI_oddsSo [vr 44, vi x4] sw m (fun z1 sw1 m1 => R2 X 2 mI_oddsGone 5 [(0, vr 44), (1, vi x1), (2, vl (x2 + (w32 (zand (zshr (m 34 (w32 x4)) x1) 1) * z1))), (4, vi (x4 + 1))] [] sw1 m1 Q))))) : R2 X 2 mI_oddsGone 5 [(0, vr 44), (1, vi x1), (2, vl x2), (4, vi x4)] [] sw m Q := by
  refine r_iload 4 3 rfl dI_oddsGone_5 ?_
  refine r_aload_n 0 0 rfl dI_oddsGone_7 rfl ?_
  refine q_getR 1 c44 fI_22 rfl rfl (g44_1 sw) (by decide) dI_oddsGone_8 ?_
  refine q_getI 5 c23 fI_31 rfl rfl dI_oddsGone_11 ?_
  refine r_ifc_ge (tgt := 48) dI_oddsGone_14 (by decide) (fun hc => ?_) (fun hc => ?_)
  · replace h := h.1 hc
    refine r_lload_n 2 2 rfl dI_oddsGone_48 rfl ?_
    exact q_lret rfl h dI_oddsGone_49
  · replace h := h.2 hc
    refine r_lload_n 2 2 rfl dI_oddsGone_17 rfl ?_
    refine r_aload_n 0 0 rfl dI_oddsGone_18 rfl ?_
    refine q_getR 1 c44 fI_22 rfl rfl (g44_1 sw) (by decide) dI_oddsGone_19 ?_
    refine q_getR 2 c23 fI_43 rfl rfl (g23_2 sw) (by decide) dI_oddsGone_22 ?_
    refine r_iload 4 3 rfl dI_oddsGone_25 ?_
    refine q_iaload (w32 x4) rfl c34 h.1 dI_oddsGone_27 ?_
    replace h := h.2
    refine r_iload_n 1 1 rfl dI_oddsGone_28 rfl ?_
    refine r_ishr dI_oddsGone_29 ?_
    refine r_iconst dI_oddsGone_30 ?_
    refine r_iand dI_oddsGone_31 ?_
    refine r_i2l dI_oddsGone_32 ?_
    refine r_aload_n 0 0 rfl dI_oddsGone_33 rfl ?_
    refine r_iload 4 3 rfl dI_oddsGone_34 ?_
    refine r_callVl 6 [_] rfl c44 rfl rfl oI_oddsSo iI_oddsSo sI_oddsSo yI_52 (by decide) ⟨Nat.le_refl _, Nat.le_refl _⟩ rfl (Nat.le_of_ble_eq_true rfl) dI_oddsGone_36 h (fun z1 r1 m1 h => ?_)
    obtain ⟨sw1, rfl, h⟩ := h
    refine r_lmul dI_oddsGone_39 ?_
    refine r_ladd dI_oddsGone_40 ?_
    refine r_lstore_n 2 (by decide) dI_oddsGone_41 rfl ?_
    refine r_iinc 4 3 rfl (by decide) dI_oddsGone_42 ?_
    refine r_goto (tgt := 5) dI_oddsGone_45 (by decide) ?_
    refine r_sub [2, 3, 1, 0] ?_ h
    rfl
theorem dI_likeliestStuck_0 : decode mI_likeliestStuck.2.1 0 = .ok (.bipush (-2), 2) := by decide +kernel
theorem dI_likeliestStuck_2 : decode mI_likeliestStuck.2.1 2 = .ok (.istore_n 1, 1) := by decide +kernel
theorem dI_likeliestStuck_3 : decode mI_likeliestStuck.2.1 3 = .ok (.lconst 0, 1) := by decide +kernel
theorem dI_likeliestStuck_4 : decode mI_likeliestStuck.2.1 4 = .ok (.lstore_n 2, 1) := by decide +kernel
theorem dI_likeliestStuck_5 : decode mI_likeliestStuck.2.1 5 = .ok (.iconst 0, 1) := by decide +kernel
theorem dI_likeliestStuck_6 : decode mI_likeliestStuck.2.1 6 = .ok (.istore 4, 2) := by decide +kernel
theorem dI_likeliestStuck_8 : decode mI_likeliestStuck.2.1 8 = .ok (.iload 4, 2) := by decide +kernel
theorem dI_likeliestStuck_10 : decode mI_likeliestStuck.2.1 10 = .ok (.aload_n 0, 1) := by decide +kernel
theorem dI_likeliestStuck_11 : decode mI_likeliestStuck.2.1 11 = .ok (.getfield 18, 3) := by decide +kernel
theorem dI_likeliestStuck_14 : decode mI_likeliestStuck.2.1 14 = .ok (.getfield 59, 3) := by decide +kernel
theorem dI_likeliestStuck_17 : decode mI_likeliestStuck.2.1 17 = .ok (.if_icmp .ge 30, 3) := by decide +kernel
theorem dI_likeliestStuck_20 : decode mI_likeliestStuck.2.1 20 = .ok (.aload_n 0, 1) := by decide +kernel
theorem dI_likeliestStuck_21 : decode mI_likeliestStuck.2.1 21 = .ok (.iload 4, 2) := by decide +kernel
theorem dI_likeliestStuck_23 : decode mI_likeliestStuck.2.1 23 = .ok (.invokevirtual 64, 3) := by decide +kernel
theorem dI_likeliestStuck_26 : decode mI_likeliestStuck.2.1 26 = .ok (.lstore 5, 2) := by decide +kernel
theorem dI_likeliestStuck_28 : decode mI_likeliestStuck.2.1 28 = .ok (.lload 5, 2) := by decide +kernel
theorem dI_likeliestStuck_30 : decode mI_likeliestStuck.2.1 30 = .ok (.lload_n 2, 1) := by decide +kernel
theorem dI_likeliestStuck_31 : decode mI_likeliestStuck.2.1 31 = .ok (.lcmp, 1) := by decide +kernel
theorem dI_likeliestStuck_32 : decode mI_likeliestStuck.2.1 32 = .ok (.ifCond .le 9, 3) := by decide +kernel
theorem dI_likeliestStuck_35 : decode mI_likeliestStuck.2.1 35 = .ok (.iload 4, 2) := by decide +kernel
theorem dI_likeliestStuck_37 : decode mI_likeliestStuck.2.1 37 = .ok (.istore_n 1, 1) := by decide +kernel
theorem dI_likeliestStuck_38 : decode mI_likeliestStuck.2.1 38 = .ok (.lload 5, 2) := by decide +kernel
theorem dI_likeliestStuck_40 : decode mI_likeliestStuck.2.1 40 = .ok (.lstore_n 2, 1) := by decide +kernel
theorem dI_likeliestStuck_41 : decode mI_likeliestStuck.2.1 41 = .ok (.iinc 4 1, 3) := by decide +kernel
theorem dI_likeliestStuck_44 : decode mI_likeliestStuck.2.1 44 = .ok (.goto (-36), 3) := by decide +kernel
theorem dI_likeliestStuck_47 : decode mI_likeliestStuck.2.1 47 = .ok (.iload_n 1, 1) := by decide +kernel
theorem dI_likeliestStuck_48 : decode mI_likeliestStuck.2.1 48 = .ok (.ireturn, 1) := by decide +kernel
/- I_likeliestStuck: ()I -/
set_option maxRecDepth 4000 in
theorem wI_likeliestStuck {X : Cx} (sw : Bool) (m : Mem) (Q : Int → Bool → Mem → Prop) (h : R2 X 3 mI_likeliestStuck 8 [(0, vr 44), (1, vi (-2)), (2, vl 0), (4, vi 0)] [] sw m Q) : M2 X 3 mI_likeliestStuck [vr 44] sw m Q := by
  refine Mt.of pI_likeliestStuck (Nat.le_of_ble_eq_true rfl) (Nat.le_refl _) ?_
  show R2 X 3 mI_likeliestStuck 0 [(0, vr 44)] [] sw m Q
  refine r_bipush (by decide) dI_likeliestStuck_0 ?_
  refine r_istore_n 1 (by decide) dI_likeliestStuck_2 rfl ?_
  refine r_lconst dI_likeliestStuck_3 ?_
  refine r_lstore_n 2 (by decide) dI_likeliestStuck_4 rfl ?_
  refine r_iconst dI_likeliestStuck_5 ?_
  refine r_istore 4 (by decide) dI_likeliestStuck_6 ?_
  refine r_sub [3, 2, 1, 0] ?_ h
  rfl
set_option maxRecDepth 4000 in
theorem wI_likeliestStuck_8 {X : Cx} (x1 x2 x4 : Int) (sw : Bool) (m : Mem) (Q : Int → Bool → Mem → Prop) (h : ((w32 (m 2 3) ≤ w32 x4 → Q x1 sw m) ∧ (¬ (w32 (m 2 3) ≤ w32 x4) → M2 X 2 mI_oddsStuck [vr 44, vi x4] sw m (fun z1 sw1 m1 => ((w64 z1 ≤ w64 x2 → R2 X 3 mI_likeliestStuck 8 [(0, vr 44), (1, vi x1), (2, vl x2), (4, vi (x4 + 1))] [] sw1 m1 Q) ∧ (¬ (w64 z1 ≤ w64 x2) → R2 X 3 mI_likeliestStuck 8 [(0, vr 44), (1, vi x4), (2, vl z1), (4, vi (x4 + 1))] [] sw1 m1 Q)))))) : R2 X 3 mI_likeliestStuck 8 [(0, vr 44), (1, vi x1), (2, vl x2), (4, vi x4)] [] sw m Q := by
  refine r_iload 4 3 rfl dI_likeliestStuck_8 ?_
  refine r_aload_n 0 0 rfl dI_likeliestStuck_10 rfl ?_
  refine q_getR 0 c44 fI_18 rfl rfl (g44_0 sw) (by decide) dI_likeliestStuck_11 ?_
  refine q_getI 3 c2 fI_59 rfl rfl dI_likeliestStuck_14 ?_
  refine r_ifc_ge (tgt := 47) dI_likeliestStuck_17 (by decide) (fun hc => ?_) (fun hc => ?_)
  · replace h := h.1 hc
    refine r_iload_n 1 1 rfl dI_likeliestStuck_47 rfl ?_
    exact q_iret rfl h dI_likeliestStuck_48
  · replace h := h.2 hc
    refine r_aload_n 0 0 rfl dI_likeliestStuck_20 rfl ?_
    refine r_iload 4 3 rfl dI_likeliestStuck_21 ?_
    refine r_callVl 6 [_] rfl c44 rfl rfl oI_oddsStuck iI_oddsStuck sI_oddsStuck yI_64 (by decide) ⟨Nat.le_refl _, Nat.le_refl _⟩ rfl (Nat.le_of_ble_eq_true rfl) dI_likeliestStuck_23 h (fun z1 r1 m1 h => ?_)
    obtain ⟨sw1, rfl, h⟩ := h
    refine r_lstore 5 (by decide) dI_likeliestStuck_26 ?_
    refine r_lload 5 0 rfl dI_likeliestStuck_28 ?_
    refine r_lload_n 2 3 rfl dI_likeliestStuck_30 rfl ?_
    refine q_lc_le (tgt := 41) (A := w64 z1) (B := w64 x2) rfl rfl dI_likeliestStuck_31 dI_likeliestStuck_32 (by decide) (fun hc => ?_) (fun hc => ?_)
    · replace h := h.1 hc
      refine r_iinc 4 4 rfl (by decide) dI_likeliestStuck_41 ?_
      refine r_goto (tgt := 8) dI_likeliestStuck_44 (by decide) ?_
      refine r_sub [2, 3, 4, 0] ?_ h
      rfl
    · replace h := h.2 hc
      refine r_iload 4 4 rfl dI_likeliestStuck_35 ?_
      refine r_istore_n 1 (by decide) dI_likeliestStuck_37 rfl ?_
      refine r_lload 5 1 rfl dI_likeliestStuck_38 ?_
      refine r_lstore_n 2 (by decide) dI_likeliestStuck_40 rfl ?_
      refine r_iinc 4 4 rfl (by decide) dI_likeliestStuck_41 ?_
      refine r_goto (tgt := 8) dI_likeliestStuck_44 (by decide) ?_
      refine r_sub [4, 2, 1, 0] ?_ h
      rfl
theorem dI_bestTest_0 : decode mI_bestTest.2.1 0 = .ok (.aload_n 0, 1) := by decide +kernel
theorem dI_bestTest_1 : decode mI_bestTest.2.1 1 = .ok (.invokevirtual 67, 3) := by decide +kernel
theorem dI_bestTest_4 : decode mI_bestTest.2.1 4 = .ok (.lstore_n 1, 1) := by decide +kernel
theorem dI_bestTest_5 : decode mI_bestTest.2.1 5 = .ok (.bipush (-2), 2) := by decide +kernel
theorem dI_bestTest_7 : decode mI_bestTest.2.1 7 = .ok (.istore_n 3, 1) := by decide +kernel
theorem dI_bestTest_8 : decode mI_bestTest.2.1 8 = .ok (.ldc2_w 73, 3) := by decide +kernel
theorem dI_bestTest_11 : decode mI_bestTest.2.1 11 = .ok (.lstore 4, 2) := by decide +kernel
theorem dI_bestTest_13 : decode mI_bestTest.2.1 13 = .ok (.iconst 0, 1) := by decide +kernel
theorem dI_bestTest_14 : decode mI_bestTest.2.1 14 = .ok (.istore 6, 2) := by decide +kernel
theorem dI_bestTest_16 : decode mI_bestTest.2.1 16 = .ok (.iload 6, 2) := by decide +kernel
theorem dI_bestTest_18 : decode mI_bestTest.2.1 18 = .ok (.aload_n 0, 1) := by decide +kernel
theorem dI_bestTest_19 : decode mI_bestTest.2.1 19 = .ok (.getfield 18, 3) := by decide +kernel
theorem dI_bestTest_22 : decode mI_bestTest.2.1 22 = .ok (.getfield 59, 3) := by decide +kernel
theorem dI_bestTest_25 : decode mI_bestTest.2.1 25 = .ok (.if_icmp .ge 61, 3) := by decide +kernel
theorem dI_bestTest_28 : decode mI_bestTest.2.1 28 = .ok (.lload_n 1, 1) := by decide +kernel
theorem dI_bestTest_29 : decode mI_bestTest.2.1 29 = .ok (.lconst 0, 1) := by decide +kernel
theorem dI_bestTest_30 : decode mI_bestTest.2.1 30 = .ok (.lcmp, 1) := by decide +kernel
theorem dI_bestTest_31 : decode mI_bestTest.2.1 31 = .ok (.ifCond .le 55, 3) := by decide +kernel
theorem dI_bestTest_34 : decode mI_bestTest.2.1 34 = .ok (.aload_n 0, 1) := by decide +kernel
theorem dI_bestTest_35 : decode mI_bestTest.2.1 35 = .ok (.iload 6, 2) := by decide +kernel
theorem dI_bestTest_37 : decode mI_bestTest.2.1 37 = .ok (.invokevirtual 75, 3) := by decide +kernel
theorem dI_bestTest_40 : decode mI_bestTest.2.1 40 = .ok (.lstore 7, 2) := by decide +kernel
theorem dI_bestTest_42 : decode mI_bestTest.2.1 42 = .ok (.lload 7, 2) := by decide +kernel
theorem dI_bestTest_44 : decode mI_bestTest.2.1 44 = .ok (.lload_n 1, 1) := by decide +kernel
theorem dI_bestTest_45 : decode mI_bestTest.2.1 45 = .ok (.lload 7, 2) := by decide +kernel
theorem dI_bestTest_47 : decode mI_bestTest.2.1 47 = .ok (.lsub, 1) := by decide +kernel
theorem dI_bestTest_48 : decode mI_bestTest.2.1 48 = .ok (.invokestatic 78, 3) := by decide +kernel
theorem dI_bestTest_51 : decode mI_bestTest.2.1 51 = .ok (.lstore 9, 2) := by decide +kernel
theorem dI_bestTest_53 : decode mI_bestTest.2.1 53 = .ok (.aload_n 0, 1) := by decide +kernel
theorem dI_bestTest_54 : decode mI_bestTest.2.1 54 = .ok (.getfield 37, 3) := by decide +kernel
theorem dI_bestTest_57 : decode mI_bestTest.2.1 57 = .ok (.iload 6, 2) := by decide +kernel
theorem dI_bestTest_59 : decode mI_bestTest.2.1 59 = .ok (.ishr, 1) := by decide +kernel
theorem dI_bestTest_60 : decode mI_bestTest.2.1 60 = .ok (.iconst 1, 1) := by decide +kernel
theorem dI_bestTest_61 : decode mI_bestTest.2.1 61 = .ok (.iand, 1) := by decide +kernel
theorem dI_bestTest_62 : decode mI_bestTest.2.1 62 = .ok (.ifCond .ne 18, 3) := by decide +kernel
theorem dI_bestTest_65 : decode mI_bestTest.2.1 65 = .ok (.lload 9, 2) := by decide +kernel
theorem dI_bestTest_67 : decode mI_bestTest.2.1 67 = .ok (.lload 4, 2) := by decide +kernel
theorem dI_bestTest_69 : decode mI_bestTest.2.1 69 = .ok (.lcmp, 1) := by decide +kernel
theorem dI_bestTest_70 : decode mI_bestTest.2.1 70 = .ok (.ifCond .ge 10, 3) := by decide +kernel
theorem dI_bestTest_73 : decode mI_bestTest.2.1 73 = .ok (.iload 6, 2) := by decide +kernel
theorem dI_bestTest_75 : decode mI_bestTest.2.1 75 = .ok (.istore_n 3, 1) := by decide +kernel
theorem dI_bestTest_76 : decode mI_bestTest.2.1 76 = .ok (.lload 9, 2) := by decide +kernel
theorem dI_bestTest_78 : decode mI_bestTest.2.1 78 = .ok (.lstore 4, 2) := by decide +kernel
theorem dI_bestTest_80 : decode mI_bestTest.2.1 80 = .ok (.iinc 6 1, 3) := by decide +kernel
theorem dI_bestTest_83 : decode mI_bestTest.2.1 83 = .ok (.goto (-67), 3) := by decide +kernel
theorem dI_bestTest_86 : decode mI_bestTest.2.1 86 = .ok (.iload_n 3, 1) := by decide +kernel
theorem dI_bestTest_87 : decode mI_bestTest.2.1 87 = .ok (.ireturn, 1) := by decide +kernel
/- I_bestTest: ()I -/
set_option maxRecDepth 4000 in
theorem wI_bestTest {X : Cx} (sw : Bool) (m : Mem) (Q : Int → Bool → Mem → Prop) (h : M2 X 2 mI_oddsHeard [vr 44] sw m (fun z1 sw1 m1 => R2 X 3 mI_bestTest 16 [(0, vr 44), (1, vl z1), (3, vi (-2)), (4, vl 9223372036854775807), (6, vi 0)] [] sw1 m1 Q)) : M2 X 3 mI_bestTest [vr 44] sw m Q := by
  refine Mt.of pI_bestTest (Nat.le_of_ble_eq_true rfl) (Nat.le_refl _) ?_
  show R2 X 3 mI_bestTest 0 [(0, vr 44)] [] sw m Q
  refine r_aload_n 0 0 rfl dI_bestTest_0 rfl ?_
  refine r_callVl 6 [] rfl c44 rfl rfl oI_oddsHeard iI_oddsHeard sI_oddsHeard yI_67 (by decide) ⟨Nat.le_refl _, Nat.le_refl _⟩ rfl (Nat.le_of_ble_eq_true rfl) dI_bestTest_1 h (fun z1 r1 m1 h => ?_)
  obtain ⟨sw1, rfl, h⟩ := h
  refine r_lstore_n 1 (by decide) dI_bestTest_4 rfl ?_
  refine r_bipush (by decide) dI_bestTest_5 ?_
  refine r_istore_n 3 (by decide) dI_bestTest_7 rfl ?_
  refine r_ldc2 (z := 9223372036854775807) dI_bestTest_8 kI_73 ?_
  refine r_lstore 4 (by decide) dI_bestTest_11 ?_
  refine r_iconst dI_bestTest_13 ?_
  refine r_istore 6 (by decide) dI_bestTest_14 ?_
  refine r_sub [4, 3, 2, 1, 0] ?_ h
  rfl
set_option maxRecDepth 4000 in
theorem wI_bestTest_16 {X : Cx} (x1 x3 x4 x6 : Int) (sw : Bool) (m : Mem) (Q : Int → Bool → Mem → Prop) (h : ((w32 (m 2 3) ≤ w32 x6 → Q x3 sw m) ∧ (¬ (w32 (m 2 3) ≤ w32 x6) → ((w64 x1 ≤ 0 → Q x3 sw m) ∧ (¬ (w64 x1 ≤ 0) → M2 X 2 mI_oddsGone [vr 44, vi x6] sw m (fun z1 sw1 m1 => ((¬ w32 (zand (zshr (m1 44 5) x6) 1) = 0 → R2 X 3 mI_bestTest 16 [(0, vr 44), (1, vl x1), (3, vi x3), (4, vl x4), (6, vi (x6 + 1))] [] sw1 m1 Q) ∧ (¬ (¬ w32 (zand (zshr (m1 44 5) x6) 1) = 0) → ((w64 x4 ≤ w64 (max (w64 z1) (w64 (x1 - z1))) → R2 X 3 mI_bestTest 16 [(0, vr 44), (1, vl x1), (3, vi x3), (4, vl x4), (6, vi (x6 + 1))] [] sw1 m1 Q) ∧ (¬ (w64 x4 ≤ w64 (max (w64 z1) (w64 (x1 - z1)))) → R2 X 3 mI_bestTest 16 [(0, vr 44), (1, vl x1), (3, vi x6), (4, vl (max (w64 z1) (w64 (x1 - z1)))), (6, vi (x6 + 1))] [] sw1 m1 Q)))))))))) : R2 X 3 mI_bestTest 16 [(0, vr 44), (1, vl x1), (3, vi x3), (4, vl x4), (6, vi x6)] [] sw m Q := by
  refine r_iload 6 4 rfl dI_bestTest_16 ?_
  refine r_aload_n 0 0 rfl dI_bestTest_18 rfl ?_
  refine q_getR 0 c44 fI_18 rfl rfl (g44_0 sw) (by decide) dI_bestTest_19 ?_
  refine q_getI 3 c2 fI_59 rfl rfl dI_bestTest_22 ?_
  refine r_ifc_ge (tgt := 86) dI_bestTest_25 (by decide) (fun hc => ?_) (fun hc => ?_)
  · replace h := h.1 hc
    refine r_iload_n 3 2 rfl dI_bestTest_86 rfl ?_
    exact q_iret rfl h dI_bestTest_87
  · replace h := h.2 hc
    refine r_lload_n 1 1 rfl dI_bestTest_28 rfl ?_
    refine r_lconst dI_bestTest_29 ?_
    refine q_lc_le (tgt := 86) (A := w64 x1) (B := 0) rfl (by decide +kernel) dI_bestTest_30 dI_bestTest_31 (by decide) (fun hc => ?_) (fun hc => ?_)
    · replace h := h.1 hc
      refine r_iload_n 3 2 rfl dI_bestTest_86 rfl ?_
      exact q_iret rfl h dI_bestTest_87
    · replace h := h.2 hc
      refine r_aload_n 0 0 rfl dI_bestTest_34 rfl ?_
      refine r_iload 6 4 rfl dI_bestTest_35 ?_
      refine r_callVl 6 [_] rfl c44 rfl rfl oI_oddsGone iI_oddsGone sI_oddsGone yI_75 (by decide) ⟨Nat.le_refl _, Nat.le_refl _⟩ rfl (Nat.le_of_ble_eq_true rfl) dI_bestTest_37 h (fun z1 r1 m1 h => ?_)
      obtain ⟨sw1, rfl, h⟩ := h
      refine r_lstore 7 (by decide) dI_bestTest_40 ?_
      refine r_lload 7 0 rfl dI_bestTest_42 ?_
      refine r_lload_n 1 2 rfl dI_bestTest_44 rfl ?_
      refine r_lload 7 0 rfl dI_bestTest_45 ?_
      refine r_lsub dI_bestTest_47 ?_
      refine r_maxl yI_78 kS_maxl kMathI kC_maxl (by decide) (Nat.le_of_ble_eq_true rfl) dI_bestTest_48 ?_
      refine r_lstore 9 (by decide) dI_bestTest_51 ?_
      refine r_aload_n 0 2 rfl dI_bestTest_53 rfl ?_
      refine q_getI 5 c44 fI_37 rfl rfl dI_bestTest_54 ?_
      refine r_iload 6 6 rfl dI_bestTest_57 ?_
      refine r_ishr dI_bestTest_59 ?_
      refine r_iconst dI_bestTest_60 ?_
      refine r_iand dI_bestTest_61 ?_
      refine r_if_ne (tgt := 80) dI_bestTest_62 (by decide) (fun hc => ?_) (fun hc => ?_)
      · replace h := h.1 hc
        refine r_iinc 6 6 rfl (by decide) dI_bestTest_80 ?_
        refine r_goto (tgt := 16) dI_bestTest_83 (by decide) ?_
        refine r_sub [3, 4, 5, 6, 0] ?_ h
        rfl
      · replace h := h.2 hc
        refine r_lload 9 0 rfl dI_bestTest_65 ?_
        refine r_lload 4 5 rfl dI_bestTest_67 ?_
        refine q_lc_ge (tgt := 80) (A := w64 (max (w64 z1) (w64 (x1 - z1)))) (B := w64 x4) rfl rfl dI_bestTest_69 dI_bestTest_70 (by decide) (fun hc => ?_) (fun hc => ?_)
        · replace h := h.1 hc
          refine r_iinc 6 6 rfl (by decide) dI_bestTest_80 ?_
          refine r_goto (tgt := 16) dI_bestTest_83 (by decide) ?_
          refine r_sub [3, 4, 5, 6, 0] ?_ h
          rfl
        · replace h := h.2 hc
          refine r_iload 6 6 rfl dI_bestTest_73 ?_
          refine r_istore_n 3 (by decide) dI_bestTest_75 rfl ?_
          refine r_lload 9 1 rfl dI_bestTest_76 ?_
          refine r_lstore 4 (by decide) dI_bestTest_78 ?_
          refine r_iinc 6 6 rfl (by decide) dI_bestTest_80 ?_
          refine r_goto (tgt := 16) dI_bestTest_83 (by decide) ?_
          refine r_sub [5, 6, 2, 1, 0] ?_ h
          rfl
theorem dI_open_0 : decode mI_open.2.1 0 = .ok (.aload_n 0, 1) := by decide +kernel
theorem dI_open_1 : decode mI_open.2.1 1 = .ok (.iload_n 1, 1) := by decide +kernel
theorem dI_open_2 : decode mI_open.2.1 2 = .ok (.putfield 84, 3) := by decide +kernel
theorem dI_open_5 : decode mI_open.2.1 5 = .ok (.aload_n 0, 1) := by decide +kernel
theorem dI_open_6 : decode mI_open.2.1 6 = .ok (.getfield 9, 3) := by decide +kernel
theorem dI_open_9 : decode mI_open.2.1 9 = .ok (.aload_n 0, 1) := by decide +kernel
theorem dI_open_10 : decode mI_open.2.1 10 = .ok (.getfield 26, 3) := by decide +kernel
theorem dI_open_13 : decode mI_open.2.1 13 = .ok (.getfield 87, 3) := by decide +kernel
theorem dI_open_16 : decode mI_open.2.1 16 = .ok (.aload_n 0, 1) := by decide +kernel
theorem dI_open_17 : decode mI_open.2.1 17 = .ok (.getfield 18, 3) := by decide +kernel
theorem dI_open_20 : decode mI_open.2.1 20 = .ok (.getfield 59, 3) := by decide +kernel
theorem dI_open_23 : decode mI_open.2.1 23 = .ok (.iload_n 1, 1) := by decide +kernel
theorem dI_open_24 : decode mI_open.2.1 24 = .ok (.invokestatic 90, 3) := by decide +kernel
theorem dI_open_27 : decode mI_open.2.1 27 = .ok (.aload_n 0, 1) := by decide +kernel
theorem dI_open_28 : decode mI_open.2.1 28 = .ok (.getfield 15, 3) := by decide +kernel
theorem dI_open_31 : decode mI_open.2.1 31 = .ok (.lconst 1, 1) := by decide +kernel
theorem dI_open_32 : decode mI_open.2.1 32 = .ok (.invokestatic 94, 3) := by decide +kernel
theorem dI_open_35 : decode mI_open.2.1 35 = .ok (.return_, 1) := by decide +kernel
/- I_open: (I)V -/
set_option maxRecDepth 4000 in
theorem wI_open {X : Cx} (a1 : Int) (sw : Bool) (m : Mem) (Q : Int → Bool → Mem → Prop) (h : M2 X 1 mT_weigh [vr 45, vr 38, vi (m 2 3), vi a1] sw (upm m 44 7 a1) (fun z1 sw1 m1 => M2 X 1 mJ_fill [vr 46, vl 1] sw1 m1 (fun z2 sw2 m2 => Q 0 sw2 m2))) : M2 X 2 mI_open [vr 44, vi a1] sw m Q := by
  refine Mt.of pI_open (Nat.le_of_ble_eq_true rfl) (Nat.le_refl _) ?_
  show R2 X 2 mI_open 0 [(0, vr 44), (1, vi a1)] [] sw m Q
  refine r_aload_n 0 0 rfl dI_open_0 rfl ?_
  refine r_iload_n 1 1 rfl dI_open_1 rfl ?_
  refine q_putI 7 c44 pfI_84 rfl rfl dI_open_2 ?_
  refine r_aload_n 0 0 rfl dI_open_5 rfl ?_
  refine q_getR 3 c44 fI_9 rfl rfl (g44_3 sw) (by decide) dI_open_6 ?_
  refine r_aload_n 0 0 rfl dI_open_9 rfl ?_
  refine q_getR 2 c44 fI_26 rfl rfl (g44_2 sw) (by decide) dI_open_10 ?_
  refine q_getR 2 c37 fI_87 rfl rfl (g37_2 sw) (by decide) dI_open_13 ?_
  refine r_aload_n 0 0 rfl dI_open_16 rfl ?_
  refine q_getR 0 c44 fI_18 rfl rfl (g44_0 sw) (by decide) dI_open_17 ?_
  refine q_getI 3 c2 fI_59 rfl rfl dI_open_20 ?_
  refine r_iload_n 1 1 rfl dI_open_23 rfl ?_
  refine r_callSv [_, _, _, _] rfl oT_weigh iT_weigh yI_90 (by decide) ⟨Nat.le_refl _, Nat.le_refl _⟩ rfl (Nat.le_of_ble_eq_true rfl) dI_open_24 h (fun z1 r1 m1 h => ?_)
  obtain ⟨sw1, rfl, h⟩ := h
  refine r_aload_n 0 0 rfl dI_open_27 rfl ?_
  refine q_getR 4 c44 fI_15 rfl rfl (g44_4 sw1) (by decide) dI_open_28 ?_
  refine r_lconst dI_open_31 ?_
  refine r_callSv [_, _] rfl oJ_fill iJ_fill yI_94 (by decide) ⟨Nat.le_refl _, Nat.le_refl _⟩ rfl (Nat.le_of_ble_eq_true rfl) dI_open_32 h (fun z2 r2 m2 h => ?_)
  obtain ⟨sw2, rfl, h⟩ := h
  exact q_vret rfl h dI_open_35
theorem dI_read_0 : decode mI_read.2.1 0 = .ok (.lconst 0, 1) := by decide +kernel
theorem dI_read_1 : decode mI_read.2.1 1 = .ok (.lstore_n 2, 1) := by decide +kernel
theorem dI_read_2 : decode mI_read.2.1 2 = .ok (.lconst 0, 1) := by decide +kernel
theorem dI_read_3 : decode mI_read.2.1 3 = .ok (.lstore 4, 2) := by decide +kernel
theorem dI_read_5 : decode mI_read.2.1 5 = .ok (.iconst 0, 1) := by decide +kernel
theorem dI_read_6 : decode mI_read.2.1 6 = .ok (.istore 6, 2) := by decide +kernel
theorem dI_read_8 : decode mI_read.2.1 8 = .ok (.iload 6, 2) := by decide +kernel
theorem dI_read_10 : decode mI_read.2.1 10 = .ok (.aload_n 0, 1) := by decide +kernel
theorem dI_read_11 : decode mI_read.2.1 11 = .ok (.getfield 22, 3) := by decide +kernel
theorem dI_read_14 : decode mI_read.2.1 14 = .ok (.getfield 31, 3) := by decide +kernel
theorem dI_read_17 : decode mI_read.2.1 17 = .ok (.if_icmp .ge 75, 3) := by decide +kernel
theorem dI_read_20 : decode mI_read.2.1 20 = .ok (.aload_n 0, 1) := by decide +kernel
theorem dI_read_21 : decode mI_read.2.1 21 = .ok (.getfield 22, 3) := by decide +kernel
theorem dI_read_24 : decode mI_read.2.1 24 = .ok (.getfield 100, 3) := by decide +kernel
theorem dI_read_27 : decode mI_read.2.1 27 = .ok (.iload 6, 2) := by decide +kernel
theorem dI_read_29 : decode mI_read.2.1 29 = .ok (.iaload, 1) := by decide +kernel
theorem dI_read_30 : decode mI_read.2.1 30 = .ok (.iload_n 1, 1) := by decide +kernel
theorem dI_read_31 : decode mI_read.2.1 31 = .ok (.if_icmp .ne 29, 3) := by decide +kernel
theorem dI_read_34 : decode mI_read.2.1 34 = .ok (.iload 6, 2) := by decide +kernel
theorem dI_read_36 : decode mI_read.2.1 36 = .ok (.aload_n 0, 1) := by decide +kernel
theorem dI_read_37 : decode mI_read.2.1 37 = .ok (.getfield 84, 3) := by decide +kernel
theorem dI_read_40 : decode mI_read.2.1 40 = .ok (.ishr, 1) := by decide +kernel
theorem dI_read_41 : decode mI_read.2.1 41 = .ok (.iconst 1, 1) := by decide +kernel
theorem dI_read_42 : decode mI_read.2.1 42 = .ok (.iand, 1) := by decide +kernel
theorem dI_read_43 : decode mI_read.2.1 43 = .ok (.iconst 1, 1) := by decide +kernel
theorem dI_read_44 : decode mI_read.2.1 44 = .ok (.if_icmp .ne 16, 3) := by decide +kernel
theorem dI_read_47 : decode mI_read.2.1 47 = .ok (.lload_n 2, 1) := by decide +kernel
theorem dI_read_48 : decode mI_read.2.1 48 = .ok (.aload_n 0, 1) := by decide +kernel
theorem dI_read_49 : decode mI_read.2.1 49 = .ok (.getfield 9, 3) := by decide +kernel
theorem dI_read_52 : decode mI_read.2.1 52 = .ok (.iload 6, 2) := by decide +kernel
theorem dI_read_54 : decode mI_read.2.1 54 = .ok (.laload, 1) := by decide +kernel
theorem dI_read_55 : decode mI_read.2.1 55 = .ok (.ladd, 1) := by decide +kernel
theorem dI_read_56 : decode mI_read.2.1 56 = .ok (.lstore_n 2, 1) := by decide +kernel
theorem dI_read_57 : decode mI_read.2.1 57 = .ok (.goto 29, 3) := by decide +kernel
theorem dI_read_60 : decode mI_read.2.1 60 = .ok (.aload_n 0, 1) := by decide +kernel
theorem dI_read_61 : decode mI_read.2.1 61 = .ok (.getfield 22, 3) := by decide +kernel
theorem dI_read_64 : decode mI_read.2.1 64 = .ok (.getfield 100, 3) := by decide +kernel
theorem dI_read_67 : decode mI_read.2.1 67 = .ok (.iload 6, 2) := by decide +kernel
theorem dI_read_69 : decode mI_read.2.1 69 = .ok (.iaload, 1) := by decide +kernel
theorem dI_read_70 : decode mI_read.2.1 70 = .ok (.iload_n 1, 1) := by decide +kernel
theorem dI_read_71 : decode mI_read.2.1 71 = .ok (.if_icmp .ne 15, 3) := by decide +kernel
theorem dI_read_74 : decode mI_read.2.1 74 = .ok (.lload 4, 2) := by decide +kernel
theorem dI_read_76 : decode mI_read.2.1 76 = .ok (.aload_n 0, 1) := by decide +kernel
theorem dI_read_77 : decode mI_read.2.1 77 = .ok (.getfield 9, 3) := by decide +kernel
theorem dI_read_80 : decode mI_read.2.1 80 = .ok (.iload 6, 2) := by decide +kernel
theorem dI_read_82 : decode mI_read.2.1 82 = .ok (.laload, 1) := by decide +kernel
theorem dI_read_83 : decode mI_read.2.1 83 = .ok (.ladd, 1) := by decide +kernel
theorem dI_read_84 : decode mI_read.2.1 84 = .ok (.lstore 4, 2) := by decide +kernel
theorem dI_read_86 : decode mI_read.2.1 86 = .ok (.iinc 6 1, 3) := by decide +kernel
theorem dI_read_89 : decode mI_read.2.1 89 = .ok (.goto (-81), 3) := by decide +kernel
theorem dI_read_92 : decode mI_read.2.1 92 = .ok (.iconst 0, 1) := by decide +kernel
theorem dI_read_93 : decode mI_read.2.1 93 = .ok (.istore 6, 2) := by decide +kernel
theorem dI_read_95 : decode mI_read.2.1 95 = .ok (.iload 6, 2) := by decide +kernel
theorem dI_read_97 : decode mI_read.2.1 97 = .ok (.bipush 12, 2) := by decide +kernel
theorem dI_read_99 : decode mI_read.2.1 99 = .ok (.if_icmp .gt 47, 3) := by decide +kernel
theorem dI_read_102 : decode mI_read.2.1 102 = .ok (.aload_n 0, 1) := by decide +kernel
theorem dI_read_103 : decode mI_read.2.1 103 = .ok (.getfield 15, 3) := by decide +kernel
theorem dI_read_106 : decode mI_read.2.1 106 = .ok (.iload 6, 2) := by decide +kernel
theorem dI_read_108 : decode mI_read.2.1 108 = .ok (.dup2, 1) := by decide +kernel
theorem dI_read_109 : decode mI_read.2.1 109 = .ok (.laload, 1) := by decide +kernel
theorem dI_read_110 : decode mI_read.2.1 110 = .ok (.iload 6, 2) := by decide +kernel
theorem dI_read_112 : decode mI_read.2.1 112 = .ok (.i2l, 1) := by decide +kernel
theorem dI_read_113 : decode mI_read.2.1 113 = .ok (.lload_n 2, 1) := by decide +kernel
theorem dI_read_114 : decode mI_read.2.1 114 = .ok (.lmul, 1) := by decide +kernel
theorem dI_read_115 : decode mI_read.2.1 115 = .ok (.bipush 12, 2) := by decide +kernel
theorem dI_read_117 : decode mI_read.2.1 117 = .ok (.iload 6, 2) := by decide +kernel
theorem dI_read_119 : decode mI_read.2.1 119 = .ok (.isub, 1) := by decide +kernel
theorem dI_read_120 : decode mI_read.2.1 120 = .ok (.i2l, 1) := by decide +kernel
theorem dI_read_121 : decode mI_read.2.1 121 = .ok (.lload 4, 2) := by decide +kernel
theorem dI_read_123 : decode mI_read.2.1 123 = .ok (.lmul, 1) := by decide +kernel
theorem dI_read_124 : decode mI_read.2.1 124 = .ok (.ladd, 1) := by decide +kernel
theorem dI_read_125 : decode mI_read.2.1 125 = .ok (.ldc2_w 103, 3) := by decide +kernel
theorem dI_read_128 : decode mI_read.2.1 128 = .ok (.aload_n 0, 1) := by decide +kernel
theorem dI_read_129 : decode mI_read.2.1 129 = .ok (.getfield 26, 3) := by decide +kernel
theorem dI_read_132 : decode mI_read.2.1 132 = .ok (.getfield 105, 3) := by decide +kernel
theorem dI_read_135 : decode mI_read.2.1 135 = .ok (.invokestatic 109, 3) := by decide +kernel
theorem dI_read_138 : decode mI_read.2.1 138 = .ok (.lmul, 1) := by decide +kernel
theorem dI_read_139 : decode mI_read.2.1 139 = .ok (.lastore, 1) := by decide +kernel
theorem dI_read_140 : decode mI_read.2.1 140 = .ok (.iinc 6 1, 3) := by decide +kernel
theorem dI_read_143 : decode mI_read.2.1 143 = .ok (.goto (-48), 3) := by decide +kernel
theorem dI_read_146 : decode mI_read.2.1 146 = .ok (.return_, 1) := by decide +kernel
/- I_read: (I)V -/
set_option maxRecDepth 4000 in
theorem wI_read {X : Cx} (a1 : Int) (sw : Bool) (m : Mem) (Q : Int → Bool → Mem → Prop) (h : R2 X 2 mI_read 8 [(0, vr 44), (1, vi a1), (2, vl 0), (4, vl 0), (6, vi 0)] [] sw m Q) : M2 X 2 mI_read [vr 44, vi a1] sw m Q := by
  refine Mt.of pI_read (Nat.le_of_ble_eq_true rfl) (Nat.le_refl _) ?_
  show R2 X 2 mI_read 0 [(0, vr 44), (1, vi a1)] [] sw m Q
  refine r_lconst dI_read_0 ?_
  refine r_lstore_n 2 (by decide) dI_read_1 rfl ?_
  refine r_lconst dI_read_2 ?_
  refine r_lstore 4 (by decide) dI_read_3 ?_
  refine r_iconst dI_read_5 ?_
  refine r_istore 6 (by decide) dI_read_6 ?_
  refine r_sub [3, 4, 2, 1, 0] ?_ h
  rfl
set_option maxRecDepth 4000 in
theorem wI_read_8 {X : Cx} (x1 x2 x4 x6 : Int) (sw : Bool) (m : Mem) (Q : Int → Bool → Mem → Prop) (h : ((w32 (m 23 5) ≤ w32 x6 → R2 X 2 mI_read 95 [(0, vr 44), (2, vl x2), (4, vl x4), (6, vi 0)] [] sw m Q) ∧ (¬ (w32 (m 23 5) ≤ w32 x6) → ((0 ≤ w32 x6 ∧ w32 x6 < 512) ∧ ((¬ w32 (m 36 (w32 x6)) = w32 x1 → ((0 ≤ w32 x6 ∧ w32 x6 < 512) ∧ ((¬ w32 (m 36 (w32 x6)) = w32 x1 → R2 X 2 mI_read 8 [(0, vr 44), (1, vi x1), (2, vl x2), (4, vl x4), (6, vi (x6 + 1))] [] sw m Q) ∧ (¬ (¬ w32 (m 36 (w32 x6)) = w32 x1) → ((0 ≤ w32 x6 ∧ w32 x6 < 512) ∧ R2 X 2 mI_read 8 [(0, vr 44), (1, vi x1), (2, vl x2), (4, vl (x4 + (m 45 (w32 x6)))), (6, vi (x6 + 1))] [] sw m Q))))) ∧ (¬ (¬ w32 (m 36 (w32 x6)) = w32 x1) → ((¬ w32 (zand (zshr x6 (m 44 7)) 1) = 1 → ((0 ≤ w32 x6 ∧ w32 x6 < 512) ∧ ((¬ w32 (m 36 (w32 x6)) = w32 x1 → R2 X 2 mI_read 8 [(0, vr 44), (1, vi x1), (2, vl x2), (4, vl x4), (6, vi (x6 + 1))] [] sw m Q) ∧ (¬ (¬ w32 (m 36 (w32 x6)) = w32 x1) → ((0 ≤ w32 x6 ∧ w32 x6 < 512) ∧ R2 X 2 mI_read 8 [(0, vr 44), (1, vi x1), (2, vl x2), (4, vl (x4 + (m 45 (w32 x6)))), (6, vi (x6 + 1))] [] sw m Q))))) ∧ (¬ (¬ w32 (zand (zshr x6 (m 44 7)) 1) = 1) → ((0 ≤ w32 x6 ∧ w32 x6 < 512) ∧ R2 X 2 mI_read 8 [(0, vr 44), (1, vi x1), (2, vl (x2 + (m 45 (w32 x6)))), (4, vl x4), (6, vi (x6 + 1))] [] sw m Q))))))))) : R2 X 2 mI_read 8 [(0, vr 44), (1, vi x1), (2, vl x2), (4, vl x4), (6, vi x6)] [] sw m Q := by
  refine r_iload 6 4 rfl dI_read_8 ?_
  refine r_aload_n 0 0 rfl dI_read_10 rfl ?_
  refine q_getR 1 c44 fI_22 rfl rfl (g44_1 sw) (by decide) dI_read_11 ?_
  refine q_getI 5 c23 fI_31 rfl rfl dI_read_14 ?_
  refine r_ifc_ge (tgt := 92) dI_read_17 (by decide) (fun hc => ?_) (fun hc => ?_)
  · replace h := h.1 hc
    refine r_iconst dI_read_92 ?_
    refine r_istore 6 (by decide) dI_read_93 ?_
    refine r_sub [1, 3, 4, 0] ?_ h
    rfl
  · replace h := h.2 hc
    refine r_aload_n 0 0 rfl dI_read_20 rfl ?_
    refine q_getR 1 c44 fI_22 rfl rfl (g44_1 sw) (by decide) dI_read_21 ?_
    refine q_getR 4 c23 fI_100 rfl rfl (g23_4 sw) (by decide) dI_read_24 ?_
    refine r_iload 6 4 rfl dI_read_27 ?_
    refine q_iaload (w32 x6) rfl c36 h.1 dI_read_29 ?_
    replace h := h.2
    refine r_iload_n 1 1 rfl dI_read_30 rfl ?_
    refine r_ifc_ne (tgt := 60) dI_read_31 (by decide) (fun hc => ?_) (fun hc => ?_)
    · replace h := h.1 hc
      refine r_aload_n 0 0 rfl dI_read_60 rfl ?_
      refine q_getR 1 c44 fI_22 rfl rfl (g44_1 sw) (by decide) dI_read_61 ?_
      refine q_getR 4 c23 fI_100 rfl rfl (g23_4 sw) (by decide) dI_read_64 ?_
      refine r_iload 6 4 rfl dI_read_67 ?_
      refine q_iaload (w32 x6) rfl c36 h.1 dI_read_69 ?_
      replace h := h.2
      refine r_iload_n 1 1 rfl dI_read_70 rfl ?_
      refine r_ifc_ne (tgt := 86) dI_read_71 (by decide) (fun hc => ?_) (fun hc => ?_)
      · replace h := h.1 hc
        refine r_iinc 6 4 rfl (by decide) dI_read_86 ?_
        refine r_goto (tgt := 8) dI_read_89 (by decide) ?_
        refine r_sub [1, 2, 3, 4, 0] ?_ h
        rfl
      · replace h := h.2 hc
        refine r_lload 4 3 rfl dI_read_74 ?_
        refine r_aload_n 0 0 rfl dI_read_76 rfl ?_
        refine q_getR 3 c44 fI_9 rfl rfl (g44_3 sw) (by decide) dI_read_77 ?_
        refine r_iload 6 4 rfl dI_read_80 ?_
        refine q_laload (w32 x6) rfl c45 h.1 dI_read_82 ?_
        replace h := h.2
        refine r_ladd dI_read_83 ?_
        refine r_lstore 4 (by decide) dI_read_84 ?_
        refine r_iinc 6 4 rfl (by decide) dI_read_86 ?_
        refine r_goto (tgt := 8) dI_read_89 (by decide) ?_
        refine r_sub [2, 3, 4, 1, 0] ?_ h
        rfl
    · replace h := h.2 hc
      refine r_iload 6 4 rfl dI_read_34 ?_
      refine r_aload_n 0 0 rfl dI_read_36 rfl ?_
      refine q_getI 7 c44 fI_84 rfl rfl dI_read_37 ?_
      refine r_ishr dI_read_40 ?_
      refine r_iconst dI_read_41 ?_
      refine r_iand dI_read_42 ?_
      refine r_iconst dI_read_43 ?_
      refine r_ifc_ne (tgt := 60) dI_read_44 (by decide) (fun hc => ?_) (fun hc => ?_)
      · replace h := h.1 hc
        refine r_aload_n 0 0 rfl dI_read_60 rfl ?_
        refine q_getR 1 c44 fI_22 rfl rfl (g44_1 sw) (by decide) dI_read_61 ?_
        refine q_getR 4 c23 fI_100 rfl rfl (g23_4 sw) (by decide) dI_read_64 ?_
        refine r_iload 6 4 rfl dI_read_67 ?_
        refine q_iaload (w32 x6) rfl c36 h.1 dI_read_69 ?_
        replace h := h.2
        refine r_iload_n 1 1 rfl dI_read_70 rfl ?_
        refine r_ifc_ne (tgt := 86) dI_read_71 (by decide) (fun hc => ?_) (fun hc => ?_)
        · replace h := h.1 hc
          refine r_iinc 6 4 rfl (by decide) dI_read_86 ?_
          refine r_goto (tgt := 8) dI_read_89 (by decide) ?_
          refine r_sub [1, 2, 3, 4, 0] ?_ h
          rfl
        · replace h := h.2 hc
          refine r_lload 4 3 rfl dI_read_74 ?_
          refine r_aload_n 0 0 rfl dI_read_76 rfl ?_
          refine q_getR 3 c44 fI_9 rfl rfl (g44_3 sw) (by decide) dI_read_77 ?_
          refine r_iload 6 4 rfl dI_read_80 ?_
          refine q_laload (w32 x6) rfl c45 h.1 dI_read_82 ?_
          replace h := h.2
          refine r_ladd dI_read_83 ?_
          refine r_lstore 4 (by decide) dI_read_84 ?_
          refine r_iinc 6 4 rfl (by decide) dI_read_86 ?_
          refine r_goto (tgt := 8) dI_read_89 (by decide) ?_
          refine r_sub [2, 3, 4, 1, 0] ?_ h
          rfl
      · replace h := h.2 hc
        refine r_lload_n 2 2 rfl dI_read_47 rfl ?_
        refine r_aload_n 0 0 rfl dI_read_48 rfl ?_
        refine q_getR 3 c44 fI_9 rfl rfl (g44_3 sw) (by decide) dI_read_49 ?_
        refine r_iload 6 4 rfl dI_read_52 ?_
        refine q_laload (w32 x6) rfl c45 h.1 dI_read_54 ?_
        replace h := h.2
        refine r_ladd dI_read_55 ?_
        refine r_lstore_n 2 (by decide) dI_read_56 rfl ?_
        refine r_goto (tgt := 86) dI_read_57 (by decide) ?_
        refine r_iinc 6 4 rfl (by decide) dI_read_86 ?_
        refine r_goto (tgt := 8) dI_read_89 (by decide) ?_
        refine r_sub [2, 3, 1, 4, 0] ?_ h
        rfl
set_option maxRecDepth 4000 in
theorem wI_read_95 {X : Cx} (x2 x4 x6 : Int) (sw : Bool) (m : Mem) (Q : Int → Bool → Mem → Prop) (h : ((12 < w32 x6 → Q 0 sw m) ∧ (¬ (12 < w32 x6) → ((0 ≤ w32 x6 ∧ w32 x6 < 13) ∧ M2 X 1 mZ_cut [vl ((w32 x6 * x2) + (w32 (12 - x6) * x4)), vl 100, vl (m 37 7)] sw m (fun z1 sw1 m1 => ((0 ≤ w32 x6 ∧ w32 x6 < 13) ∧ R2 X 2 mI_read 95 [(0, vr 44), (2, vl x2), (4, vl x4), (6, vi (x6 + 1))] [] sw1 (upm m1 46 (w32 x6) ((m 46 (w32 x6)) * z1)) Q)))))) : R2 X 2 mI_read 95 [(0, vr 44), (2, vl x2), (4, vl x4), (6, vi x6)] [] sw m Q := by
  refine r_iload 6 3 rfl dI_read_95 ?_
  refine r_bipush (by decide) dI_read_97 ?_
  refine r_ifc_gt (tgt := 146) dI_read_99 (by decide) (fun hc => ?_) (fun hc => ?_)
  · replace h := h.1 hc
    exact q_vret rfl h dI_read_146
  · replace h := h.2 hc
    refine r_aload_n 0 0 rfl dI_read_102 rfl ?_
    refine q_getR 4 c44 fI_15 rfl rfl (g44_4 sw) (by decide) dI_read_103 ?_
    refine r_iload 6 3 rfl dI_read_106 ?_
    refine r_dup2 (fun q => by cases q) (fun q => by cases q) dI_read_108 ?_
    refine q_laload (w32 x6) rfl c46 h.1 dI_read_109 ?_
    replace h := h.2
    refine r_iload 6 3 rfl dI_read_110 ?_
    refine r_i2l dI_read_112 ?_
    refine r_lload_n 2 1 rfl dI_read_113 rfl ?_
    refine r_lmul dI_read_114 ?_
    refine r_bipush (by decide) dI_read_115 ?_
    refine r_iload 6 3 rfl dI_read_117 ?_
    refine r_isub dI_read_119 ?_
    refine r_i2l dI_read_120 ?_
    refine r_lload 4 2 rfl dI_read_121 ?_
    refine r_lmul dI_read_123 ?_
    refine r_ladd dI_read_124 ?_
    refine r_ldc2 (z := 100) dI_read_125 kI_103 ?_
    refine r_aload_n 0 0 rfl dI_read_128 rfl ?_
    refine q_getR 2 c44 fI_26 rfl rfl (g44_2 sw) (by decide) dI_read_129 ?_
    refine q_getL 7 c37 fI_105 rfl rfl dI_read_132 ?_
    refine r_callSl [_, _, _] rfl oZ_cut iZ_cut yI_109 (by decide) ⟨Nat.le_refl _, Nat.le_refl _⟩ rfl (Nat.le_of_ble_eq_true rfl) dI_read_135 h (fun z1 r1 m1 h => ?_)
    obtain ⟨sw1, rfl, h⟩ := h
    refine r_lmul dI_read_138 ?_
    refine q_lastore (w32 x6) rfl c46 h.1 dI_read_139 ?_
    replace h := h.2
    refine r_iinc 6 3 rfl (by decide) dI_read_140 ?_
    refine r_goto (tgt := 95) dI_read_143 (by decide) ?_
    refine r_sub [1, 2, 3, 0] ?_ h
    rfl
theorem dI_bestTwelfths_0 : decode mI_bestTwelfths.2.1 0 = .ok (.iconst 0, 1) := by decide +kernel
theorem dI_bestTwelfths_1 : decode mI_bestTwelfths.2.1 1 = .ok (.istore_n 1, 1) := by decide +kernel
theorem dI_bestTwelfths_2 : decode mI_bestTwelfths.2.1 2 = .ok (.iconst 1, 1) := by decide +kernel
theorem dI_bestTwelfths_3 : decode mI_bestTwelfths.2.1 3 = .ok (.istore_n 2, 1) := by decide +kernel
theorem dI_bestTwelfths_4 : decode mI_bestTwelfths.2.1 4 = .ok (.iload_n 2, 1) := by decide +kernel
theorem dI_bestTwelfths_5 : decode mI_bestTwelfths.2.1 5 = .ok (.bipush 12, 2) := by decide +kernel
theorem dI_bestTwelfths_7 : decode mI_bestTwelfths.2.1 7 = .ok (.if_icmp .gt 27, 3) := by decide +kernel
theorem dI_bestTwelfths_10 : decode mI_bestTwelfths.2.1 10 = .ok (.aload_n 0, 1) := by decide +kernel
theorem dI_bestTwelfths_11 : decode mI_bestTwelfths.2.1 11 = .ok (.getfield 15, 3) := by decide +kernel
theorem dI_bestTwelfths_14 : decode mI_bestTwelfths.2.1 14 = .ok (.iload_n 2, 1) := by decide +kernel
theorem dI_bestTwelfths_15 : decode mI_bestTwelfths.2.1 15 = .ok (.laload, 1) := by decide +kernel
theorem dI_bestTwelfths_16 : decode mI_bestTwelfths.2.1 16 = .ok (.aload_n 0, 1) := by decide +kernel
theorem dI_bestTwelfths_17 : decode mI_bestTwelfths.2.1 17 = .ok (.getfield 15, 3) := by decide +kernel
theorem dI_bestTwelfths_20 : decode mI_bestTwelfths.2.1 20 = .ok (.iload_n 1, 1) := by decide +kernel
theorem dI_bestTwelfths_21 : decode mI_bestTwelfths.2.1 21 = .ok (.laload, 1) := by decide +kernel
theorem dI_bestTwelfths_22 : decode mI_bestTwelfths.2.1 22 = .ok (.lcmp, 1) := by decide +kernel
theorem dI_bestTwelfths_23 : decode mI_bestTwelfths.2.1 23 = .ok (.ifCond .le 5, 3) := by decide +kernel
theorem dI_bestTwelfths_26 : decode mI_bestTwelfths.2.1 26 = .ok (.iload_n 2, 1) := by decide +kernel
theorem dI_bestTwelfths_27 : decode mI_bestTwelfths.2.1 27 = .ok (.istore_n 1, 1) := by decide +kernel
theorem dI_bestTwelfths_28 : decode mI_bestTwelfths.2.1 28 = .ok (.iinc 2 1, 3) := by decide +kernel
theorem dI_bestTwelfths_31 : decode mI_bestTwelfths.2.1 31 = .ok (.goto (-27), 3) := by decide +kernel
theorem dI_bestTwelfths_34 : decode mI_bestTwelfths.2.1 34 = .ok (.iload_n 1, 1) := by decide +kernel
theorem dI_bestTwelfths_35 : decode mI_bestTwelfths.2.1 35 = .ok (.ireturn, 1) := by decide +kernel
/- I_bestTwelfths: ()I -/
set_option maxRecDepth 4000 in
theorem wI_bestTwelfths {X : Cx} (sw : Bool) (m : Mem) (Q : Int → Bool → Mem → Prop) (h : R2 X 1 mI_bestTwelfths 4 [(0, vr 44), (1, vi 0), (2, vi 1)] [] sw m Q) : M2 X 1 mI_bestTwelfths [vr 44] sw m Q := by
  refine Mt.of pI_bestTwelfths (Nat.le_of_ble_eq_true rfl) (Nat.le_refl _) ?_
  show R2 X 1 mI_bestTwelfths 0 [(0, vr 44)] [] sw m Q
  refine r_iconst dI_bestTwelfths_0 ?_
  refine r_istore_n 1 (by decide) dI_bestTwelfths_1 rfl ?_
  refine r_iconst dI_bestTwelfths_2 ?_
  refine r_istore_n 2 (by decide) dI_bestTwelfths_3 rfl ?_
  refine r_sub [2, 1, 0] ?_ h
  rfl
set_option maxRecDepth 4000 in
theorem wI_bestTwelfths_4 {X : Cx} (x1 x2 : Int) (sw : Bool) (m : Mem) (Q : Int → Bool → Mem → Prop) (h : ((12 < w32 x2 → Q x1 sw m) ∧ (¬ (12 < w32 x2) → ((0 ≤ w32 x2 ∧ w32 x2 < 13) ∧ ((0 ≤ w32 x1 ∧ w32 x1 < 13) ∧ ((w64 (m 46 (w32 x2)) ≤ w64 (m 46 (w32 x1)) → R2 X 1 mI_bestTwelfths 4 [(0, vr 44), (1, vi x1), (2, vi (x2 + 1))] [] sw m Q) ∧ (¬ (w64 (m 46 (w32 x2)) ≤ w64 (m 46 (w32 x1))) → R2 X 1 mI_bestTwelfths 4 [(0, vr 44), (1, vi x2), (2, vi (x2 + 1))] [] sw m Q))))))) : R2 X 1 mI_bestTwelfths 4 [(0, vr 44), (1, vi x1), (2, vi x2)] [] sw m Q := by
  refine r_iload_n 2 2 rfl dI_bestTwelfths_4 rfl ?_
  refine r_bipush (by decide) dI_bestTwelfths_5 ?_
  refine r_ifc_gt (tgt := 34) dI_bestTwelfths_7 (by decide) (fun hc => ?_) (fun hc => ?_)
  · replace h := h.1 hc
    refine r_iload_n 1 1 rfl dI_bestTwelfths_34 rfl ?_
    exact q_iret rfl h dI_bestTwelfths_35
  · replace h := h.2 hc
    refine r_aload_n 0 0 rfl dI_bestTwelfths_10 rfl ?_
    refine q_getR 4 c44 fI_15 rfl rfl (g44_4 sw) (by decide) dI_bestTwelfths_11 ?_
    refine r_iload_n 2 2 rfl dI_bestTwelfths_14 rfl ?_
    refine q_laload (w32 x2) rfl c46 h.1 dI_bestTwelfths_15 ?_
    replace h := h.2
    refine r_aload_n 0 0 rfl dI_bestTwelfths_16 rfl ?_
    refine q_getR 4 c44 fI_15 rfl rfl (g44_4 sw) (by decide) dI_bestTwelfths_17 ?_
    refine r_iload_n 1 1 rfl dI_bestTwelfths_20 rfl ?_
    refine q_laload (w32 x1) rfl c46 h.1 dI_bestTwelfths_21 ?_
    replace h := h.2
    refine q_lc_le (tgt := 28) (A := w64 (m 46 (w32 x2))) (B := w64 (m 46 (w32 x1))) rfl rfl dI_bestTwelfths_22 dI_bestTwelfths_23 (by decide) (fun hc => ?_) (fun hc => ?_)
    · replace h := h.1 hc
      refine r_iinc 2 2 rfl (by decide) dI_bestTwelfths_28 ?_
      refine r_goto (tgt := 4) dI_bestTwelfths_31 (by decide) ?_
      refine r_sub [1, 2, 0] ?_ h
      rfl
    · replace h := h.2 hc
      refine r_iload_n 2 2 rfl dI_bestTwelfths_26 rfl ?_
      refine r_istore_n 1 (by decide) dI_bestTwelfths_27 rfl ?_
      refine r_iinc 2 2 rfl (by decide) dI_bestTwelfths_28 ?_
      refine r_goto (tgt := 4) dI_bestTwelfths_31 (by decide) ?_
      refine r_sub [2, 1, 0] ?_ h
      rfl
