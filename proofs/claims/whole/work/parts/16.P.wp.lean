theorem dD_live_0 : decode mD_live.2.1 0 = .ok (.aload_n 0, 1) := by decide +kernel
theorem dD_live_1 : decode mD_live.2.1 1 = .ok (.getfield 25, 3) := by decide +kernel
theorem dD_live_4 : decode mD_live.2.1 4 = .ok (.invokevirtual 29, 3) := by decide +kernel
theorem dD_live_7 : decode mD_live.2.1 7 = .ok (.aload_n 0, 1) := by decide +kernel
theorem dD_live_8 : decode mD_live.2.1 8 = .ok (.getfield 25, 3) := by decide +kernel
theorem dD_live_11 : decode mD_live.2.1 11 = .ok (.iload_n 1, 1) := by decide +kernel
theorem dD_live_12 : decode mD_live.2.1 12 = .ok (.invokevirtual 34, 3) := by decide +kernel
theorem dD_live_15 : decode mD_live.2.1 15 = .ok (.istore_n 2, 1) := by decide +kernel
theorem dD_live_16 : decode mD_live.2.1 16 = .ok (.aload_n 0, 1) := by decide +kernel
theorem dD_live_17 : decode mD_live.2.1 17 = .ok (.getfield 11, 3) := by decide +kernel
theorem dD_live_20 : decode mD_live.2.1 20 = .ok (.iconst 0, 1) := by decide +kernel
theorem dD_live_21 : decode mD_live.2.1 21 = .ok (.dup2, 1) := by decide +kernel
theorem dD_live_22 : decode mD_live.2.1 22 = .ok (.iaload, 1) := by decide +kernel
theorem dD_live_23 : decode mD_live.2.1 23 = .ok (.iconst 1, 1) := by decide +kernel
theorem dD_live_24 : decode mD_live.2.1 24 = .ok (.iadd, 1) := by decide +kernel
theorem dD_live_25 : decode mD_live.2.1 25 = .ok (.iastore, 1) := by decide +kernel
theorem dD_live_26 : decode mD_live.2.1 26 = .ok (.aload_n 0, 1) := by decide +kernel
theorem dD_live_27 : decode mD_live.2.1 27 = .ok (.getfield 11, 3) := by decide +kernel
theorem dD_live_30 : decode mD_live.2.1 30 = .ok (.iconst 3, 1) := by decide +kernel
theorem dD_live_31 : decode mD_live.2.1 31 = .ok (.dup2, 1) := by decide +kernel
theorem dD_live_32 : decode mD_live.2.1 32 = .ok (.iaload, 1) := by decide +kernel
theorem dD_live_33 : decode mD_live.2.1 33 = .ok (.aload_n 0, 1) := by decide +kernel
theorem dD_live_34 : decode mD_live.2.1 34 = .ok (.getfield 25, 3) := by decide +kernel
theorem dD_live_37 : decode mD_live.2.1 37 = .ok (.iload_n 1, 1) := by decide +kernel
theorem dD_live_38 : decode mD_live.2.1 38 = .ok (.invokevirtual 38, 3) := by decide +kernel
theorem dD_live_41 : decode mD_live.2.1 41 = .ok (.invokestatic 41, 3) := by decide +kernel
theorem dD_live_44 : decode mD_live.2.1 44 = .ok (.iadd, 1) := by decide +kernel
theorem dD_live_45 : decode mD_live.2.1 45 = .ok (.iastore, 1) := by decide +kernel
theorem dD_live_46 : decode mD_live.2.1 46 = .ok (.aload_n 0, 1) := by decide +kernel
theorem dD_live_47 : decode mD_live.2.1 47 = .ok (.getfield 21, 3) := by decide +kernel
theorem dD_live_50 : decode mD_live.2.1 50 = .ok (.aload_n 0, 1) := by decide +kernel
theorem dD_live_51 : decode mD_live.2.1 51 = .ok (.getfield 25, 3) := by decide +kernel
theorem dD_live_54 : decode mD_live.2.1 54 = .ok (.iload_n 1, 1) := by decide +kernel
theorem dD_live_55 : decode mD_live.2.1 55 = .ok (.invokevirtual 46, 3) := by decide +kernel
theorem dD_live_58 : decode mD_live.2.1 58 = .ok (.invokestatic 49, 3) := by decide +kernel
theorem dD_live_61 : decode mD_live.2.1 61 = .ok (.ifCond .eq 13, 3) := by decide +kernel
theorem dD_live_64 : decode mD_live.2.1 64 = .ok (.aload_n 0, 1) := by decide +kernel
theorem dD_live_65 : decode mD_live.2.1 65 = .ok (.getfield 11, 3) := by decide +kernel
theorem dD_live_68 : decode mD_live.2.1 68 = .ok (.iconst 4, 1) := by decide +kernel
theorem dD_live_69 : decode mD_live.2.1 69 = .ok (.dup2, 1) := by decide +kernel
theorem dD_live_70 : decode mD_live.2.1 70 = .ok (.iaload, 1) := by decide +kernel
theorem dD_live_71 : decode mD_live.2.1 71 = .ok (.iconst 1, 1) := by decide +kernel
theorem dD_live_72 : decode mD_live.2.1 72 = .ok (.iadd, 1) := by decide +kernel
theorem dD_live_73 : decode mD_live.2.1 73 = .ok (.iastore, 1) := by decide +kernel
theorem dD_live_74 : decode mD_live.2.1 74 = .ok (.aload_n 0, 1) := by decide +kernel
theorem dD_live_75 : decode mD_live.2.1 75 = .ok (.getfield 21, 3) := by decide +kernel
theorem dD_live_78 : decode mD_live.2.1 78 = .ok (.invokevirtual 55, 3) := by decide +kernel
theorem dD_live_81 : decode mD_live.2.1 81 = .ok (.iload_n 2, 1) := by decide +kernel
theorem dD_live_82 : decode mD_live.2.1 82 = .ok (.iconst (-1), 1) := by decide +kernel
theorem dD_live_83 : decode mD_live.2.1 83 = .ok (.if_icmp .ne 6, 3) := by decide +kernel
theorem dD_live_86 : decode mD_live.2.1 86 = .ok (.bipush (-2), 2) := by decide +kernel
theorem dD_live_88 : decode mD_live.2.1 88 = .ok (.ireturn, 1) := by decide +kernel
theorem dD_live_89 : decode mD_live.2.1 89 = .ok (.aload_n 0, 1) := by decide +kernel
theorem dD_live_90 : decode mD_live.2.1 90 = .ok (.getfield 11, 3) := by decide +kernel
theorem dD_live_93 : decode mD_live.2.1 93 = .ok (.iconst 1, 1) := by decide +kernel
theorem dD_live_94 : decode mD_live.2.1 94 = .ok (.dup2, 1) := by decide +kernel
theorem dD_live_95 : decode mD_live.2.1 95 = .ok (.iaload, 1) := by decide +kernel
theorem dD_live_96 : decode mD_live.2.1 96 = .ok (.iconst 1, 1) := by decide +kernel
theorem dD_live_97 : decode mD_live.2.1 97 = .ok (.iadd, 1) := by decide +kernel
theorem dD_live_98 : decode mD_live.2.1 98 = .ok (.iastore, 1) := by decide +kernel
theorem dD_live_99 : decode mD_live.2.1 99 = .ok (.aload_n 0, 1) := by decide +kernel
theorem dD_live_100 : decode mD_live.2.1 100 = .ok (.getfield 11, 3) := by decide +kernel
theorem dD_live_103 : decode mD_live.2.1 103 = .ok (.iconst 2, 1) := by decide +kernel
theorem dD_live_104 : decode mD_live.2.1 104 = .ok (.dup2, 1) := by decide +kernel
theorem dD_live_105 : decode mD_live.2.1 105 = .ok (.iaload, 1) := by decide +kernel
theorem dD_live_106 : decode mD_live.2.1 106 = .ok (.iload_n 2, 1) := by decide +kernel
theorem dD_live_107 : decode mD_live.2.1 107 = .ok (.iadd, 1) := by decide +kernel
theorem dD_live_108 : decode mD_live.2.1 108 = .ok (.iastore, 1) := by decide +kernel
theorem dD_live_109 : decode mD_live.2.1 109 = .ok (.iload_n 2, 1) := by decide +kernel
theorem dD_live_110 : decode mD_live.2.1 110 = .ok (.ireturn, 1) := by decide +kernel
/- D_live: (I)I -/
set_option maxRecDepth 4000 in
theorem wD_live {X : Cx} (a1 : Int) (sw : Bool) (m : Mem) (Q : Int → Bool → Mem → Prop) (h : M2 X 5 mP_follow [vr 23] sw m (fun z1 sw1 m1 => M2 X 1 mP_endOf [vr 23, vi a1] sw1 m1 (fun z2 sw2 m2 => M2 X 1 mP_stuckOf [vr 23, vi a1] sw2 (upm m2 61 0 ((m2 61 0) + 1)) (fun z3 sw3 m3 => M2 X 1 mJ_bitCount [vi z3] sw3 m3 (fun z4 sw4 m4 => M2 X 1 mP_goersOf [vr 23, vi a1] sw4 (upm m4 61 3 ((m2 61 3) + z4)) (fun z5 sw5 m5 => M2 X 3 mC_burns [vr 2, vi z5] sw5 m5 (fun z6 sw6 m6 => ((w32 z6 = 0 → M2 X 3 mK_ageAll [vr 2] sw6 m6 (fun z7 sw7 m7 => ((¬ w32 z2 = (-1) → Q z2 sw7 (upm (upm m7 61 1 ((m7 61 1) + 1)) 61 2 ((m7 61 2) + z2))) ∧ (¬ (¬ w32 z2 = (-1)) → Q (-2) sw7 m7)))) ∧ (¬ (w32 z6 = 0) → M2 X 3 mK_ageAll [vr 2] sw6 (upm m6 61 4 ((m6 61 4) + 1)) (fun z8 sw8 m8 => ((¬ w32 z2 = (-1) → Q z2 sw8 (upm (upm m8 61 1 ((m8 61 1) + 1)) 61 2 ((m8 61 2) + z2))) ∧ (¬ (¬ w32 z2 = (-1)) → Q (-2) sw8 m8)))))))))))) : M2 X 6 mD_live [vr 60, vi a1] sw m Q := by
  refine Mt.of pD_live (Nat.le_of_ble_eq_true rfl) (Nat.le_refl _) ?_
  show R2 X 6 mD_live 0 [(0, vr 60), (1, vi a1)] [] sw m Q
  refine r_aload_n 0 0 rfl dD_live_0 rfl ?_
  refine q_getR 1 c60 fD_25 rfl rfl (g60_1 sw) (by decide) dD_live_1 ?_
  refine r_callVv 3 [] rfl c23 rfl rfl oP_follow iP_follow sP_follow yD_29 (by decide) ⟨Nat.le_refl _, Nat.le_refl _⟩ rfl (Nat.le_of_ble_eq_true rfl) dD_live_4 h (fun z1 r1 m1 h => ?_)
  obtain ⟨sw1, rfl, h⟩ := h
  refine r_aload_n 0 0 rfl dD_live_7 rfl ?_
  refine q_getR 1 c60 fD_25 rfl rfl (g60_1 sw1) (by decide) dD_live_8 ?_
  refine r_iload_n 1 1 rfl dD_live_11 rfl ?_
  refine r_callVi 3 [_] rfl c23 rfl rfl oP_endOf iP_endOf sP_endOf yD_34 (by decide) ⟨Nat.le_refl _, Nat.le_refl _⟩ rfl (Nat.le_of_ble_eq_true rfl) dD_live_12 h (fun z2 r2 m2 h => ?_)
  obtain ⟨sw2, rfl, h⟩ := h
  refine r_istore_n 2 (by decide) dD_live_15 rfl ?_
  refine r_aload_n 0 1 rfl dD_live_16 rfl ?_
  refine q_getR 2 c60 fD_11 rfl rfl (g60_2 sw2) (by decide) dD_live_17 ?_
  refine r_iconst dD_live_20 ?_
  refine r_dup2 (fun q => by cases q) (fun q => by cases q) dD_live_21 ?_
  refine q_iaload 0 rfl c61 (by decide) dD_live_22 ?_
  refine r_iconst dD_live_23 ?_
  refine r_iadd dD_live_24 ?_
  refine q_iastore 0 rfl c61 (by decide) dD_live_25 ?_
  refine r_aload_n 0 1 rfl dD_live_26 rfl ?_
  refine q_getR 2 c60 fD_11 rfl rfl (g60_2 sw2) (by decide) dD_live_27 ?_
  refine r_iconst dD_live_30 ?_
  refine r_dup2 (fun q => by cases q) (fun q => by cases q) dD_live_31 ?_
  refine q_iaload 3 rfl c61 (by decide) dD_live_32 ?_
  refine r_aload_n 0 1 rfl dD_live_33 rfl ?_
  refine q_getR 1 c60 fD_25 rfl rfl (g60_1 sw2) (by decide) dD_live_34 ?_
  refine r_iload_n 1 2 rfl dD_live_37 rfl ?_
  refine r_callVi 3 [_] rfl c23 rfl rfl oP_stuckOf iP_stuckOf sP_stuckOf yD_38 (by decide) ⟨Nat.le_refl _, Nat.le_refl _⟩ rfl (Nat.le_of_ble_eq_true rfl) dD_live_38 h (fun z3 r3 m3 h => ?_)
  obtain ⟨sw3, rfl, h⟩ := h
  refine r_callSi [_] rfl oJ_bitCount iJ_bitCount yD_41 (by decide) ⟨Nat.le_refl _, Nat.le_refl _⟩ rfl (Nat.le_of_ble_eq_true rfl) dD_live_41 h (fun z4 r4 m4 h => ?_)
  obtain ⟨sw4, rfl, h⟩ := h
  refine r_iadd dD_live_44 ?_
  refine q_iastore 3 rfl c61 (by decide) dD_live_45 ?_
  refine r_aload_n 0 1 rfl dD_live_46 rfl ?_
  refine q_getR 0 c60 fD_21 rfl rfl (g60_0 sw4) (by decide) dD_live_47 ?_
  refine r_aload_n 0 1 rfl dD_live_50 rfl ?_
  refine q_getR 1 c60 fD_25 rfl rfl (g60_1 sw4) (by decide) dD_live_51 ?_
  refine r_iload_n 1 2 rfl dD_live_54 rfl ?_
  refine r_callVi 3 [_] rfl c23 rfl rfl oP_goersOf iP_goersOf sP_goersOf yD_46 (by decide) ⟨Nat.le_refl _, Nat.le_refl _⟩ rfl (Nat.le_of_ble_eq_true rfl) dD_live_55 h (fun z5 r5 m5 h => ?_)
  obtain ⟨sw5, rfl, h⟩ := h
  refine r_callSb [_, _] rfl oC_burns iC_burns yD_49 (by decide) ⟨Nat.le_refl _, Nat.le_refl _⟩ rfl (Nat.le_of_ble_eq_true rfl) dD_live_58 h (fun z6 r6 m6 h => ?_)
  obtain ⟨sw6, rfl, h⟩ := h
  refine r_if_eq (tgt := 74) dD_live_61 (by decide) (fun hc => ?_) (fun hc => ?_)
  · replace h := h.1 hc
    refine r_aload_n 0 1 rfl dD_live_74 rfl ?_
    refine q_getR 0 c60 fD_21 rfl rfl (g60_0 sw6) (by decide) dD_live_75 ?_
    refine r_callVv 1 [] rfl c2 rfl rfl oK_ageAll iK_ageAll sK_ageAll yD_55 (by decide) ⟨Nat.le_refl _, Nat.le_refl _⟩ rfl (Nat.le_of_ble_eq_true rfl) dD_live_78 h (fun z7 r7 m7 h => ?_)
    obtain ⟨sw7, rfl, h⟩ := h
    refine r_iload_n 2 0 rfl dD_live_81 rfl ?_
    refine r_iconst dD_live_82 ?_
    refine r_ifc_ne (tgt := 89) dD_live_83 (by decide) (fun hc => ?_) (fun hc => ?_)
    · replace h := h.1 hc
      refine r_aload_n 0 1 rfl dD_live_89 rfl ?_
      refine q_getR 2 c60 fD_11 rfl rfl (g60_2 sw7) (by decide) dD_live_90 ?_
      refine r_iconst dD_live_93 ?_
      refine r_dup2 (fun q => by cases q) (fun q => by cases q) dD_live_94 ?_
      refine q_iaload 1 rfl c61 (by decide) dD_live_95 ?_
      refine r_iconst dD_live_96 ?_
      refine r_iadd dD_live_97 ?_
      refine q_iastore 1 rfl c61 (by decide) dD_live_98 ?_
      refine r_aload_n 0 1 rfl dD_live_99 rfl ?_
      refine q_getR 2 c60 fD_11 rfl rfl (g60_2 sw7) (by decide) dD_live_100 ?_
      refine r_iconst dD_live_103 ?_
      refine r_dup2 (fun q => by cases q) (fun q => by cases q) dD_live_104 ?_
      refine q_iaload 2 rfl c61 (by decide) dD_live_105 ?_
      refine r_iload_n 2 0 rfl dD_live_106 rfl ?_
      refine r_iadd dD_live_107 ?_
      refine q_iastore 2 rfl c61 (by decide) dD_live_108 ?_
      refine r_iload_n 2 0 rfl dD_live_109 rfl ?_
      exact q_iret rfl h dD_live_110
    · replace h := h.2 hc
      refine r_bipush (by decide) dD_live_86 ?_
      exact q_iret rfl h dD_live_88
  · replace h := h.2 hc
    refine r_aload_n 0 1 rfl dD_live_64 rfl ?_
    refine q_getR 2 c60 fD_11 rfl rfl (g60_2 sw6) (by decide) dD_live_65 ?_
    refine r_iconst dD_live_68 ?_
    refine r_dup2 (fun q => by cases q) (fun q => by cases q) dD_live_69 ?_
    refine q_iaload 4 rfl c61 (by decide) dD_live_70 ?_
    refine r_iconst dD_live_71 ?_
    refine r_iadd dD_live_72 ?_
    refine q_iastore 4 rfl c61 (by decide) dD_live_73 ?_
    refine r_aload_n 0 1 rfl dD_live_74 rfl ?_
    refine q_getR 0 c60 fD_21 rfl rfl (g60_0 sw6) (by decide) dD_live_75 ?_
    refine r_callVv 1 [] rfl c2 rfl rfl oK_ageAll iK_ageAll sK_ageAll yD_55 (by decide) ⟨Nat.le_refl _, Nat.le_refl _⟩ rfl (Nat.le_of_ble_eq_true rfl) dD_live_78 h (fun z8 r8 m8 h => ?_)
    obtain ⟨sw8, rfl, h⟩ := h
    refine r_iload_n 2 0 rfl dD_live_81 rfl ?_
    refine r_iconst dD_live_82 ?_
    refine r_ifc_ne (tgt := 89) dD_live_83 (by decide) (fun hc => ?_) (fun hc => ?_)
    · replace h := h.1 hc
      refine r_aload_n 0 1 rfl dD_live_89 rfl ?_
      refine q_getR 2 c60 fD_11 rfl rfl (g60_2 sw8) (by decide) dD_live_90 ?_
      refine r_iconst dD_live_93 ?_
      refine r_dup2 (fun q => by cases q) (fun q => by cases q) dD_live_94 ?_
      refine q_iaload 1 rfl c61 (by decide) dD_live_95 ?_
      refine r_iconst dD_live_96 ?_
      refine r_iadd dD_live_97 ?_
      refine q_iastore 1 rfl c61 (by decide) dD_live_98 ?_
      refine r_aload_n 0 1 rfl dD_live_99 rfl ?_
      refine q_getR 2 c60 fD_11 rfl rfl (g60_2 sw8) (by decide) dD_live_100 ?_
      refine r_iconst dD_live_103 ?_
      refine r_dup2 (fun q => by cases q) (fun q => by cases q) dD_live_104 ?_
      refine q_iaload 2 rfl c61 (by decide) dD_live_105 ?_
      refine r_iload_n 2 0 rfl dD_live_106 rfl ?_
      refine r_iadd dD_live_107 ?_
      refine q_iastore 2 rfl c61 (by decide) dD_live_108 ?_
      refine r_iload_n 2 0 rfl dD_live_109 rfl ?_
      exact q_iret rfl h dD_live_110
    · replace h := h.2 hc
      refine r_bipush (by decide) dD_live_86 ?_
      exact q_iret rfl h dD_live_88
theorem dD_repair_0 : decode mD_repair.2.1 0 = .ok (.aload_n 0, 1) := by decide +kernel
theorem dD_repair_1 : decode mD_repair.2.1 1 = .ok (.getfield 21, 3) := by decide +kernel
theorem dD_repair_4 : decode mD_repair.2.1 4 = .ok (.iload_n 1, 1) := by decide +kernel
theorem dD_repair_5 : decode mD_repair.2.1 5 = .ok (.iconst 5, 1) := by decide +kernel
theorem dD_repair_6 : decode mD_repair.2.1 6 = .ok (.invokevirtual 60, 3) := by decide +kernel
theorem dD_repair_9 : decode mD_repair.2.1 9 = .ok (.istore_n 2, 1) := by decide +kernel
theorem dD_repair_10 : decode mD_repair.2.1 10 = .ok (.aload_n 0, 1) := by decide +kernel
theorem dD_repair_11 : decode mD_repair.2.1 11 = .ok (.getfield 21, 3) := by decide +kernel
theorem dD_repair_14 : decode mD_repair.2.1 14 = .ok (.iload_n 1, 1) := by decide +kernel
theorem dD_repair_15 : decode mD_repair.2.1 15 = .ok (.iconst 5, 1) := by decide +kernel
theorem dD_repair_16 : decode mD_repair.2.1 16 = .ok (.iconst 0, 1) := by decide +kernel
theorem dD_repair_17 : decode mD_repair.2.1 17 = .ok (.invokevirtual 64, 3) := by decide +kernel
theorem dD_repair_20 : decode mD_repair.2.1 20 = .ok (.aload_n 0, 1) := by decide +kernel
theorem dD_repair_21 : decode mD_repair.2.1 21 = .ok (.getfield 11, 3) := by decide +kernel
theorem dD_repair_24 : decode mD_repair.2.1 24 = .ok (.iconst 5, 1) := by decide +kernel
theorem dD_repair_25 : decode mD_repair.2.1 25 = .ok (.dup2, 1) := by decide +kernel
theorem dD_repair_26 : decode mD_repair.2.1 26 = .ok (.iaload, 1) := by decide +kernel
theorem dD_repair_27 : decode mD_repair.2.1 27 = .ok (.iconst 1, 1) := by decide +kernel
theorem dD_repair_28 : decode mD_repair.2.1 28 = .ok (.iadd, 1) := by decide +kernel
theorem dD_repair_29 : decode mD_repair.2.1 29 = .ok (.iastore, 1) := by decide +kernel
theorem dD_repair_30 : decode mD_repair.2.1 30 = .ok (.iload_n 2, 1) := by decide +kernel
theorem dD_repair_31 : decode mD_repair.2.1 31 = .ok (.ireturn, 1) := by decide +kernel
/- D_repair: (I)I -/
set_option maxRecDepth 4000 in
theorem wD_repair {X : Cx} (a1 : Int) (sw : Bool) (m : Mem) (Q : Int → Bool → Mem → Prop) (h : M2 X 2 mK_told [vr 2, vi a1, vi 5] sw m (fun z1 sw1 m1 => M2 X 2 mK_write [vr 2, vi a1, vi 5, vi 0] sw1 m1 (fun z2 sw2 m2 => Q z1 sw2 (upm m2 61 5 ((m2 61 5) + 1))))) : M2 X 3 mD_repair [vr 60, vi a1] sw m Q := by
  refine Mt.of pD_repair (Nat.le_of_ble_eq_true rfl) (Nat.le_refl _) ?_
  show R2 X 3 mD_repair 0 [(0, vr 60), (1, vi a1)] [] sw m Q
  refine r_aload_n 0 0 rfl dD_repair_0 rfl ?_
  refine q_getR 0 c60 fD_21 rfl rfl (g60_0 sw) (by decide) dD_repair_1 ?_
  refine r_iload_n 1 1 rfl dD_repair_4 rfl ?_
  refine r_iconst dD_repair_5 ?_
  refine r_callVi 1 [_, _] rfl c2 rfl rfl oK_told iK_told sK_told yD_60 (by decide) ⟨Nat.le_refl _, Nat.le_refl _⟩ rfl (Nat.le_of_ble_eq_true rfl) dD_repair_6 h (fun z1 r1 m1 h => ?_)
  obtain ⟨sw1, rfl, h⟩ := h
  refine r_istore_n 2 (by decide) dD_repair_9 rfl ?_
  refine r_aload_n 0 1 rfl dD_repair_10 rfl ?_
  refine q_getR 0 c60 fD_21 rfl rfl (g60_0 sw1) (by decide) dD_repair_11 ?_
  refine r_iload_n 1 2 rfl dD_repair_14 rfl ?_
  refine r_iconst dD_repair_15 ?_
  refine r_iconst dD_repair_16 ?_
  refine r_callVv 1 [_, _, _] rfl c2 rfl rfl oK_write iK_write sK_write yD_64 (by decide) ⟨Nat.le_refl _, Nat.le_refl _⟩ rfl (Nat.le_of_ble_eq_true rfl) dD_repair_17 h (fun z2 r2 m2 h => ?_)
  obtain ⟨sw2, rfl, h⟩ := h
  refine r_aload_n 0 1 rfl dD_repair_20 rfl ?_
  refine q_getR 2 c60 fD_11 rfl rfl (g60_2 sw2) (by decide) dD_repair_21 ?_
  refine r_iconst dD_repair_24 ?_
  refine r_dup2 (fun q => by cases q) (fun q => by cases q) dD_repair_25 ?_
  refine q_iaload 5 rfl c61 (by decide) dD_repair_26 ?_
  refine r_iconst dD_repair_27 ?_
  refine r_iadd dD_repair_28 ?_
  refine q_iastore 5 rfl c61 (by decide) dD_repair_29 ?_
  refine r_iload_n 2 0 rfl dD_repair_30 rfl ?_
  exact q_iret rfl h dD_repair_31
theorem dD_ledgerAt_0 : decode mD_ledgerAt.2.1 0 = .ok (.iload_n 1, 1) := by decide +kernel
theorem dD_ledgerAt_1 : decode mD_ledgerAt.2.1 1 = .ok (.ifCond .lt 9, 3) := by decide +kernel
theorem dD_ledgerAt_4 : decode mD_ledgerAt.2.1 4 = .ok (.iload_n 1, 1) := by decide +kernel
theorem dD_ledgerAt_5 : decode mD_ledgerAt.2.1 5 = .ok (.bipush 6, 2) := by decide +kernel
theorem dD_ledgerAt_7 : decode mD_ledgerAt.2.1 7 = .ok (.if_icmp .lt 7, 3) := by decide +kernel
theorem dD_ledgerAt_10 : decode mD_ledgerAt.2.1 10 = .ok (.iconst (-1), 1) := by decide +kernel
theorem dD_ledgerAt_11 : decode mD_ledgerAt.2.1 11 = .ok (.goto 9, 3) := by decide +kernel
theorem dD_ledgerAt_14 : decode mD_ledgerAt.2.1 14 = .ok (.aload_n 0, 1) := by decide +kernel
theorem dD_ledgerAt_15 : decode mD_ledgerAt.2.1 15 = .ok (.getfield 11, 3) := by decide +kernel
theorem dD_ledgerAt_18 : decode mD_ledgerAt.2.1 18 = .ok (.iload_n 1, 1) := by decide +kernel
theorem dD_ledgerAt_19 : decode mD_ledgerAt.2.1 19 = .ok (.iaload, 1) := by decide +kernel
theorem dD_ledgerAt_20 : decode mD_ledgerAt.2.1 20 = .ok (.ireturn, 1) := by decide +kernel
/- D_ledgerAt: (I)I -/
set_option maxRecDepth 4000 in
theorem wD_ledgerAt {X : Cx} (a1 : Int) (sw : Bool) (m : Mem) (Q : Int → Bool → Mem → Prop) (h : ((w32 a1 < 0 → Q (-1) sw m) ∧ (¬ (w32 a1 < 0) → ((w32 a1 < 6 → ((0 ≤ w32 a1 ∧ w32 a1 < 6) ∧ Q (m 61 (w32 a1)) sw m)) ∧ (¬ (w32 a1 < 6) → Q (-1) sw m))))) : M2 X 1 mD_ledgerAt [vr 60, vi a1] sw m Q := by
  refine Mt.of pD_ledgerAt (Nat.le_of_ble_eq_true rfl) (Nat.le_refl _) ?_
  show R2 X 1 mD_ledgerAt 0 [(0, vr 60), (1, vi a1)] [] sw m Q
  refine r_iload_n 1 1 rfl dD_ledgerAt_0 rfl ?_
  refine r_if_lt (tgt := 10) dD_ledgerAt_1 (by decide) (fun hc => ?_) (fun hc => ?_)
  · replace h := h.1 hc
    refine r_iconst dD_ledgerAt_10 ?_
    refine r_goto (tgt := 20) dD_ledgerAt_11 (by decide) ?_
    exact q_iret rfl h dD_ledgerAt_20
  · replace h := h.2 hc
    refine r_iload_n 1 1 rfl dD_ledgerAt_4 rfl ?_
    refine r_bipush (by decide) dD_ledgerAt_5 ?_
    refine r_ifc_lt (tgt := 14) dD_ledgerAt_7 (by decide) (fun hc => ?_) (fun hc => ?_)
    · replace h := h.1 hc
      refine r_aload_n 0 0 rfl dD_ledgerAt_14 rfl ?_
      refine q_getR 2 c60 fD_11 rfl rfl (g60_2 sw) (by decide) dD_ledgerAt_15 ?_
      refine r_iload_n 1 1 rfl dD_ledgerAt_18 rfl ?_
      refine q_iaload (w32 a1) rfl c61 h.1 dD_ledgerAt_19 ?_
      replace h := h.2
      exact q_iret rfl h dD_ledgerAt_20
    · replace h := h.2 hc
      refine r_iconst dD_ledgerAt_10 ?_
      refine r_goto (tgt := 20) dD_ledgerAt_11 (by decide) ?_
      exact q_iret rfl h dD_ledgerAt_20
theorem dD_keepImage_0 : decode mD_keepImage.2.1 0 = .ok (.aload_n 0, 1) := by decide +kernel
theorem dD_keepImage_1 : decode mD_keepImage.2.1 1 = .ok (.iconst 1, 1) := by decide +kernel
theorem dD_keepImage_2 : decode mD_keepImage.2.1 2 = .ok (.putfield 68, 3) := by decide +kernel
theorem dD_keepImage_5 : decode mD_keepImage.2.1 5 = .ok (.aload_n 0, 1) := by decide +kernel
theorem dD_keepImage_6 : decode mD_keepImage.2.1 6 = .ok (.aload_n 0, 1) := by decide +kernel
theorem dD_keepImage_7 : decode mD_keepImage.2.1 7 = .ok (.getfield 21, 3) := by decide +kernel
theorem dD_keepImage_10 : decode mD_keepImage.2.1 10 = .ok (.getfield 72, 3) := by decide +kernel
theorem dD_keepImage_13 : decode mD_keepImage.2.1 13 = .ok (.putfield 76, 3) := by decide +kernel
theorem dD_keepImage_16 : decode mD_keepImage.2.1 16 = .ok (.iconst 0, 1) := by decide +kernel
theorem dD_keepImage_17 : decode mD_keepImage.2.1 17 = .ok (.istore_n 1, 1) := by decide +kernel
theorem dD_keepImage_18 : decode mD_keepImage.2.1 18 = .ok (.iload_n 1, 1) := by decide +kernel
theorem dD_keepImage_19 : decode mD_keepImage.2.1 19 = .ok (.aload_n 0, 1) := by decide +kernel
theorem dD_keepImage_20 : decode mD_keepImage.2.1 20 = .ok (.getfield 76, 3) := by decide +kernel
theorem dD_keepImage_23 : decode mD_keepImage.2.1 23 = .ok (.if_icmp .ge 24, 3) := by decide +kernel
theorem dD_keepImage_26 : decode mD_keepImage.2.1 26 = .ok (.aload_n 0, 1) := by decide +kernel
theorem dD_keepImage_27 : decode mD_keepImage.2.1 27 = .ok (.getfield 18, 3) := by decide +kernel
theorem dD_keepImage_30 : decode mD_keepImage.2.1 30 = .ok (.iload_n 1, 1) := by decide +kernel
theorem dD_keepImage_31 : decode mD_keepImage.2.1 31 = .ok (.aload_n 0, 1) := by decide +kernel
theorem dD_keepImage_32 : decode mD_keepImage.2.1 32 = .ok (.getfield 21, 3) := by decide +kernel
theorem dD_keepImage_35 : decode mD_keepImage.2.1 35 = .ok (.iload_n 1, 1) := by decide +kernel
theorem dD_keepImage_36 : decode mD_keepImage.2.1 36 = .ok (.iconst 5, 1) := by decide +kernel
theorem dD_keepImage_37 : decode mD_keepImage.2.1 37 = .ok (.invokevirtual 60, 3) := by decide +kernel
theorem dD_keepImage_40 : decode mD_keepImage.2.1 40 = .ok (.iastore, 1) := by decide +kernel
theorem dD_keepImage_41 : decode mD_keepImage.2.1 41 = .ok (.iinc 1 1, 3) := by decide +kernel
theorem dD_keepImage_44 : decode mD_keepImage.2.1 44 = .ok (.goto (-26), 3) := by decide +kernel
theorem dD_keepImage_47 : decode mD_keepImage.2.1 47 = .ok (.aload_n 0, 1) := by decide +kernel
theorem dD_keepImage_48 : decode mD_keepImage.2.1 48 = .ok (.getfield 11, 3) := by decide +kernel
theorem dD_keepImage_51 : decode mD_keepImage.2.1 51 = .ok (.iconst 0, 1) := by decide +kernel
theorem dD_keepImage_52 : decode mD_keepImage.2.1 52 = .ok (.aload_n 0, 1) := by decide +kernel
theorem dD_keepImage_53 : decode mD_keepImage.2.1 53 = .ok (.getfield 15, 3) := by decide +kernel
theorem dD_keepImage_56 : decode mD_keepImage.2.1 56 = .ok (.iconst 0, 1) := by decide +kernel
theorem dD_keepImage_57 : decode mD_keepImage.2.1 57 = .ok (.bipush 6, 2) := by decide +kernel
theorem dD_keepImage_59 : decode mD_keepImage.2.1 59 = .ok (.invokestatic 79, 3) := by decide +kernel
theorem dD_keepImage_62 : decode mD_keepImage.2.1 62 = .ok (.aload_n 0, 1) := by decide +kernel
theorem dD_keepImage_63 : decode mD_keepImage.2.1 63 = .ok (.getfield 11, 3) := by decide +kernel
theorem dD_keepImage_66 : decode mD_keepImage.2.1 66 = .ok (.iconst 0, 1) := by decide +kernel
theorem dD_keepImage_67 : decode mD_keepImage.2.1 67 = .ok (.iaload, 1) := by decide +kernel
theorem dD_keepImage_68 : decode mD_keepImage.2.1 68 = .ok (.ireturn, 1) := by decide +kernel
/- D_keepImage: ()I -/
set_option maxRecDepth 4000 in
theorem wD_keepImage {X : Cx} (sw : Bool) (m : Mem) (Q : Int → Bool → Mem → Prop) (h : R2 X 3 mD_keepImage 18 [(0, vr 60), (1, vi 0)] [] sw (upm (upm m 60 6 1) 60 5 (m 2 3)) Q) : M2 X 3 mD_keepImage [vr 60] sw m Q := by
  refine Mt.of pD_keepImage (Nat.le_of_ble_eq_true rfl) (Nat.le_refl _) ?_
  show R2 X 3 mD_keepImage 0 [(0, vr 60)] [] sw m Q
  refine r_aload_n 0 0 rfl dD_keepImage_0 rfl ?_
  refine r_iconst dD_keepImage_1 ?_
  refine q_putZ 6 c60 pfD_68 rfl rfl (Or.inr rfl) dD_keepImage_2 ?_
  refine r_aload_n 0 0 rfl dD_keepImage_5 rfl ?_
  refine r_aload_n 0 0 rfl dD_keepImage_6 rfl ?_
  refine q_getR 0 c60 fD_21 rfl rfl (g60_0 sw) (by decide) dD_keepImage_7 ?_
  refine q_getI 3 c2 fD_72 rfl rfl dD_keepImage_10 ?_
  refine q_putI 5 c60 pfD_76 rfl rfl dD_keepImage_13 ?_
  refine r_iconst dD_keepImage_16 ?_
  refine r_istore_n 1 (by decide) dD_keepImage_17 rfl ?_
  refine r_sub [1, 0] ?_ h
  rfl
set_option maxRecDepth 4000 in
theorem wD_keepImage_18 {X : Cx} (x1 : Int) (sw : Bool) (m : Mem) (Q : Int → Bool → Mem → Prop) (h : ((w32 (m 60 5) ≤ w32 x1 → Q (m 61 0) sw (cpm m 61 0 62 0 6)) ∧ (¬ (w32 (m 60 5) ≤ w32 x1) → M2 X 2 mK_told [vr 2, vi x1, vi 5] sw m (fun z1 sw1 m1 => ((0 ≤ w32 x1 ∧ w32 x1 < 9) ∧ R2 X 3 mD_keepImage 18 [(0, vr 60), (1, vi (x1 + 1))] [] sw1 (upm m1 63 (w32 x1) z1) Q))))) : R2 X 3 mD_keepImage 18 [(0, vr 60), (1, vi x1)] [] sw m Q := by
  refine r_iload_n 1 1 rfl dD_keepImage_18 rfl ?_
  refine r_aload_n 0 0 rfl dD_keepImage_19 rfl ?_
  refine q_getI 5 c60 fD_76 rfl rfl dD_keepImage_20 ?_
  refine r_ifc_ge (tgt := 47) dD_keepImage_23 (by decide) (fun hc => ?_) (fun hc => ?_)
  · replace h := h.1 hc
    refine r_aload_n 0 0 rfl dD_keepImage_47 rfl ?_
    refine q_getR 2 c60 fD_11 rfl rfl (g60_2 sw) (by decide) dD_keepImage_48 ?_
    refine r_iconst dD_keepImage_51 ?_
    refine r_aload_n 0 0 rfl dD_keepImage_52 rfl ?_
    refine q_getR 3 c60 fD_15 rfl rfl (g60_3 sw) (by decide) dD_keepImage_53 ?_
    refine r_iconst dD_keepImage_56 ?_
    refine r_bipush (by decide) dD_keepImage_57 ?_
    refine r_copy (ty := .int) (by decide) (Or.inl rfl) c61 c62 (by decide) (by decide) (by decide) (by decide) (by decide) yD_79 kCpN kCpS kSysI (by decide) (Nat.le_of_ble_eq_true rfl) dD_keepImage_59 ?_
    refine r_aload_n 0 0 rfl dD_keepImage_62 rfl ?_
    refine q_getR 2 c60 fD_11 rfl rfl (g60_2 sw) (by decide) dD_keepImage_63 ?_
    refine r_iconst dD_keepImage_66 ?_
    refine q_iaload 0 rfl c61 (by decide) dD_keepImage_67 ?_
    exact q_iret rfl h dD_keepImage_68
  · replace h := h.2 hc
    refine r_aload_n 0 0 rfl dD_keepImage_26 rfl ?_
    refine q_getR 4 c60 fD_18 rfl rfl (g60_4 sw) (by decide) dD_keepImage_27 ?_
    refine r_iload_n 1 1 rfl dD_keepImage_30 rfl ?_
    refine r_aload_n 0 0 rfl dD_keepImage_31 rfl ?_
    refine q_getR 0 c60 fD_21 rfl rfl (g60_0 sw) (by decide) dD_keepImage_32 ?_
    refine r_iload_n 1 1 rfl dD_keepImage_35 rfl ?_
    refine r_iconst dD_keepImage_36 ?_
    refine r_callVi 1 [_, _] rfl c2 rfl rfl oK_told iK_told sK_told yD_60 (by decide) ⟨Nat.le_refl _, Nat.le_refl _⟩ rfl (Nat.le_of_ble_eq_true rfl) dD_keepImage_37 h (fun z1 r1 m1 h => ?_)
    obtain ⟨sw1, rfl, h⟩ := h
    refine q_iastore (w32 x1) rfl c63 h.1 dD_keepImage_40 ?_
    replace h := h.2
    refine r_iinc 1 1 rfl (by decide) dD_keepImage_41 ?_
    refine r_goto (tgt := 18) dD_keepImage_44 (by decide) ?_
    refine r_sub [1, 0] ?_ h
    rfl
theorem dD_layBack_0 : decode mD_layBack.2.1 0 = .ok (.aload_n 0, 1) := by decide +kernel
theorem dD_layBack_1 : decode mD_layBack.2.1 1 = .ok (.getfield 68, 3) := by decide +kernel
theorem dD_layBack_4 : decode mD_layBack.2.1 4 = .ok (.ifCond .ne 6, 3) := by decide +kernel
theorem dD_layBack_7 : decode mD_layBack.2.1 7 = .ok (.bipush (-5), 2) := by decide +kernel
theorem dD_layBack_9 : decode mD_layBack.2.1 9 = .ok (.ireturn, 1) := by decide +kernel
theorem dD_layBack_10 : decode mD_layBack.2.1 10 = .ok (.iconst 0, 1) := by decide +kernel
theorem dD_layBack_11 : decode mD_layBack.2.1 11 = .ok (.istore_n 1, 1) := by decide +kernel
theorem dD_layBack_12 : decode mD_layBack.2.1 12 = .ok (.iload_n 1, 1) := by decide +kernel
theorem dD_layBack_13 : decode mD_layBack.2.1 13 = .ok (.aload_n 0, 1) := by decide +kernel
theorem dD_layBack_14 : decode mD_layBack.2.1 14 = .ok (.getfield 76, 3) := by decide +kernel
theorem dD_layBack_17 : decode mD_layBack.2.1 17 = .ok (.if_icmp .ge 24, 3) := by decide +kernel
theorem dD_layBack_20 : decode mD_layBack.2.1 20 = .ok (.aload_n 0, 1) := by decide +kernel
theorem dD_layBack_21 : decode mD_layBack.2.1 21 = .ok (.getfield 21, 3) := by decide +kernel
theorem dD_layBack_24 : decode mD_layBack.2.1 24 = .ok (.iload_n 1, 1) := by decide +kernel
theorem dD_layBack_25 : decode mD_layBack.2.1 25 = .ok (.iconst 5, 1) := by decide +kernel
theorem dD_layBack_26 : decode mD_layBack.2.1 26 = .ok (.aload_n 0, 1) := by decide +kernel
theorem dD_layBack_27 : decode mD_layBack.2.1 27 = .ok (.getfield 18, 3) := by decide +kernel
theorem dD_layBack_30 : decode mD_layBack.2.1 30 = .ok (.iload_n 1, 1) := by decide +kernel
theorem dD_layBack_31 : decode mD_layBack.2.1 31 = .ok (.iaload, 1) := by decide +kernel
theorem dD_layBack_32 : decode mD_layBack.2.1 32 = .ok (.invokevirtual 64, 3) := by decide +kernel
theorem dD_layBack_35 : decode mD_layBack.2.1 35 = .ok (.iinc 1 1, 3) := by decide +kernel
theorem dD_layBack_38 : decode mD_layBack.2.1 38 = .ok (.goto (-26), 3) := by decide +kernel
theorem dD_layBack_41 : decode mD_layBack.2.1 41 = .ok (.aload_n 0, 1) := by decide +kernel
theorem dD_layBack_42 : decode mD_layBack.2.1 42 = .ok (.getfield 15, 3) := by decide +kernel
theorem dD_layBack_45 : decode mD_layBack.2.1 45 = .ok (.iconst 0, 1) := by decide +kernel
theorem dD_layBack_46 : decode mD_layBack.2.1 46 = .ok (.aload_n 0, 1) := by decide +kernel
theorem dD_layBack_47 : decode mD_layBack.2.1 47 = .ok (.getfield 11, 3) := by decide +kernel
theorem dD_layBack_50 : decode mD_layBack.2.1 50 = .ok (.iconst 0, 1) := by decide +kernel
theorem dD_layBack_51 : decode mD_layBack.2.1 51 = .ok (.bipush 6, 2) := by decide +kernel
theorem dD_layBack_53 : decode mD_layBack.2.1 53 = .ok (.invokestatic 79, 3) := by decide +kernel
theorem dD_layBack_56 : decode mD_layBack.2.1 56 = .ok (.aload_n 0, 1) := by decide +kernel
theorem dD_layBack_57 : decode mD_layBack.2.1 57 = .ok (.getfield 11, 3) := by decide +kernel
theorem dD_layBack_60 : decode mD_layBack.2.1 60 = .ok (.iconst 0, 1) := by decide +kernel
theorem dD_layBack_61 : decode mD_layBack.2.1 61 = .ok (.iaload, 1) := by decide +kernel
theorem dD_layBack_62 : decode mD_layBack.2.1 62 = .ok (.ireturn, 1) := by decide +kernel
/- D_layBack: ()I -/
set_option maxRecDepth 4000 in
theorem wD_layBack {X : Cx} (sw : Bool) (m : Mem) (Q : Int → Bool → Mem → Prop) (h : ((¬ w32 (m 60 6) = 0 → R2 X 3 mD_layBack 12 [(0, vr 60), (1, vi 0)] [] sw m Q) ∧ (¬ (¬ w32 (m 60 6) = 0) → Q (-5) sw m))) : M2 X 3 mD_layBack [vr 60] sw m Q := by
  refine Mt.of pD_layBack (Nat.le_of_ble_eq_true rfl) (Nat.le_refl _) ?_
  show R2 X 3 mD_layBack 0 [(0, vr 60)] [] sw m Q
  refine r_aload_n 0 0 rfl dD_layBack_0 rfl ?_
  refine q_getZ 6 c60 fD_68 rfl rfl dD_layBack_1 ?_
  refine r_if_ne (tgt := 10) dD_layBack_4 (by decide) (fun hc => ?_) (fun hc => ?_)
  · replace h := h.1 hc
    refine r_iconst dD_layBack_10 ?_
    refine r_istore_n 1 (by decide) dD_layBack_11 rfl ?_
    refine r_sub [1, 0] ?_ h
    rfl
  · replace h := h.2 hc
    refine r_bipush (by decide) dD_layBack_7 ?_
    exact q_iret rfl h dD_layBack_9
set_option maxRecDepth 4000 in
theorem wD_layBack_12 {X : Cx} (x1 : Int) (sw : Bool) (m : Mem) (Q : Int → Bool → Mem → Prop) (h : ((w32 (m 60 5) ≤ w32 x1 → Q ((cpm m 62 0 61 0 6) 61 0) sw (cpm m 62 0 61 0 6)) ∧ (¬ (w32 (m 60 5) ≤ w32 x1) → ((0 ≤ w32 x1 ∧ w32 x1 < 9) ∧ M2 X 2 mK_write [vr 2, vi x1, vi 5, vi (m 63 (w32 x1))] sw m (fun z1 sw1 m1 => R2 X 3 mD_layBack 12 [(0, vr 60), (1, vi (x1 + 1))] [] sw1 m1 Q))))) : R2 X 3 mD_layBack 12 [(0, vr 60), (1, vi x1)] [] sw m Q := by
  refine r_iload_n 1 1 rfl dD_layBack_12 rfl ?_
  refine r_aload_n 0 0 rfl dD_layBack_13 rfl ?_
  refine q_getI 5 c60 fD_76 rfl rfl dD_layBack_14 ?_
  refine r_ifc_ge (tgt := 41) dD_layBack_17 (by decide) (fun hc => ?_) (fun hc => ?_)
  · replace h := h.1 hc
    refine r_aload_n 0 0 rfl dD_layBack_41 rfl ?_
    refine q_getR 3 c60 fD_15 rfl rfl (g60_3 sw) (by decide) dD_layBack_42 ?_
    refine r_iconst dD_layBack_45 ?_
    refine r_aload_n 0 0 rfl dD_layBack_46 rfl ?_
    refine q_getR 2 c60 fD_11 rfl rfl (g60_2 sw) (by decide) dD_layBack_47 ?_
    refine r_iconst dD_layBack_50 ?_
    refine r_bipush (by decide) dD_layBack_51 ?_
    refine r_copy (ty := .int) (by decide) (Or.inl rfl) c62 c61 (by decide) (by decide) (by decide) (by decide) (by decide) yD_79 kCpN kCpS kSysI (by decide) (Nat.le_of_ble_eq_true rfl) dD_layBack_53 ?_
    refine r_aload_n 0 0 rfl dD_layBack_56 rfl ?_
    refine q_getR 2 c60 fD_11 rfl rfl (g60_2 sw) (by decide) dD_layBack_57 ?_
    refine r_iconst dD_layBack_60 ?_
    refine q_iaload 0 rfl c61 (by decide) dD_layBack_61 ?_
    exact q_iret rfl h dD_layBack_62
  · replace h := h.2 hc
    refine r_aload_n 0 0 rfl dD_layBack_20 rfl ?_
    refine q_getR 0 c60 fD_21 rfl rfl (g60_0 sw) (by decide) dD_layBack_21 ?_
    refine r_iload_n 1 1 rfl dD_layBack_24 rfl ?_
    refine r_iconst dD_layBack_25 ?_
    refine r_aload_n 0 0 rfl dD_layBack_26 rfl ?_
    refine q_getR 4 c60 fD_18 rfl rfl (g60_4 sw) (by decide) dD_layBack_27 ?_
    refine r_iload_n 1 1 rfl dD_layBack_30 rfl ?_
    refine q_iaload (w32 x1) rfl c63 h.1 dD_layBack_31 ?_
    replace h := h.2
    refine r_callVv 1 [_, _, _] rfl c2 rfl rfl oK_write iK_write sK_write yD_64 (by decide) ⟨Nat.le_refl _, Nat.le_refl _⟩ rfl (Nat.le_of_ble_eq_true rfl) dD_layBack_32 h (fun z1 r1 m1 h => ?_)
    obtain ⟨sw1, rfl, h⟩ := h
    refine r_iinc 1 1 rfl (by decide) dD_layBack_35 ?_
    refine r_goto (tgt := 12) dD_layBack_38 (by decide) ?_
    refine r_sub [1, 0] ?_ h
    rfl
theorem dP_follow_0 : decode mP_follow.2.1 0 = .ok (.aload_n 0, 1) := by decide +kernel
theorem dP_follow_1 : decode mP_follow.2.1 1 = .ok (.getfield 30, 3) := by decide +kernel
theorem dP_follow_4 : decode mP_follow.2.1 4 = .ok (.aload_n 0, 1) := by decide +kernel
theorem dP_follow_5 : decode mP_follow.2.1 5 = .ok (.getfield 33, 3) := by decide +kernel
theorem dP_follow_8 : decode mP_follow.2.1 8 = .ok (.getfield 37, 3) := by decide +kernel
theorem dP_follow_11 : decode mP_follow.2.1 11 = .ok (.if_icmp .ne 4, 3) := by decide +kernel
theorem dP_follow_14 : decode mP_follow.2.1 14 = .ok (.return_, 1) := by decide +kernel
theorem dP_follow_15 : decode mP_follow.2.1 15 = .ok (.aload_n 0, 1) := by decide +kernel
theorem dP_follow_16 : decode mP_follow.2.1 16 = .ok (.aload_n 0, 1) := by decide +kernel
theorem dP_follow_17 : decode mP_follow.2.1 17 = .ok (.getfield 33, 3) := by decide +kernel
theorem dP_follow_20 : decode mP_follow.2.1 20 = .ok (.getfield 37, 3) := by decide +kernel
theorem dP_follow_23 : decode mP_follow.2.1 23 = .ok (.putfield 30, 3) := by decide +kernel
theorem dP_follow_26 : decode mP_follow.2.1 26 = .ok (.aload_n 0, 1) := by decide +kernel
theorem dP_follow_27 : decode mP_follow.2.1 27 = .ok (.iconst 1, 1) := by decide +kernel
theorem dP_follow_28 : decode mP_follow.2.1 28 = .ok (.aload_n 0, 1) := by decide +kernel
theorem dP_follow_29 : decode mP_follow.2.1 29 = .ok (.getfield 33, 3) := by decide +kernel
theorem dP_follow_32 : decode mP_follow.2.1 32 = .ok (.getfield 42, 3) := by decide +kernel
theorem dP_follow_35 : decode mP_follow.2.1 35 = .ok (.ishl, 1) := by decide +kernel
theorem dP_follow_36 : decode mP_follow.2.1 36 = .ok (.putfield 26, 3) := by decide +kernel
theorem dP_follow_39 : decode mP_follow.2.1 39 = .ok (.aload_n 0, 1) := by decide +kernel
theorem dP_follow_40 : decode mP_follow.2.1 40 = .ok (.getfield 16, 3) := by decide +kernel
theorem dP_follow_43 : decode mP_follow.2.1 43 = .ok (.iconst 0, 1) := by decide +kernel
theorem dP_follow_44 : decode mP_follow.2.1 44 = .ok (.iconst 0, 1) := by decide +kernel
theorem dP_follow_45 : decode mP_follow.2.1 45 = .ok (.iastore, 1) := by decide +kernel
theorem dP_follow_46 : decode mP_follow.2.1 46 = .ok (.aload_n 0, 1) := by decide +kernel
theorem dP_follow_47 : decode mP_follow.2.1 47 = .ok (.getfield 20, 3) := by decide +kernel
theorem dP_follow_50 : decode mP_follow.2.1 50 = .ok (.iconst 0, 1) := by decide +kernel
theorem dP_follow_51 : decode mP_follow.2.1 51 = .ok (.iconst 0, 1) := by decide +kernel
theorem dP_follow_52 : decode mP_follow.2.1 52 = .ok (.iastore, 1) := by decide +kernel
theorem dP_follow_53 : decode mP_follow.2.1 53 = .ok (.iconst 0, 1) := by decide +kernel
theorem dP_follow_54 : decode mP_follow.2.1 54 = .ok (.istore_n 1, 1) := by decide +kernel
theorem dP_follow_55 : decode mP_follow.2.1 55 = .ok (.iload_n 1, 1) := by decide +kernel
theorem dP_follow_56 : decode mP_follow.2.1 56 = .ok (.aload_n 0, 1) := by decide +kernel
theorem dP_follow_57 : decode mP_follow.2.1 57 = .ok (.getfield 33, 3) := by decide +kernel
theorem dP_follow_60 : decode mP_follow.2.1 60 = .ok (.getfield 42, 3) := by decide +kernel
theorem dP_follow_63 : decode mP_follow.2.1 63 = .ok (.if_icmp .ge 20, 3) := by decide +kernel
theorem dP_follow_66 : decode mP_follow.2.1 66 = .ok (.iload_n 1, 1) := by decide +kernel
theorem dP_follow_67 : decode mP_follow.2.1 67 = .ok (.bipush 9, 2) := by decide +kernel
theorem dP_follow_69 : decode mP_follow.2.1 69 = .ok (.if_icmp .ge 14, 3) := by decide +kernel
theorem dP_follow_72 : decode mP_follow.2.1 72 = .ok (.aload_n 0, 1) := by decide +kernel
theorem dP_follow_73 : decode mP_follow.2.1 73 = .ok (.iload_n 1, 1) := by decide +kernel
theorem dP_follow_74 : decode mP_follow.2.1 74 = .ok (.invokevirtual 45, 3) := by decide +kernel
theorem dP_follow_77 : decode mP_follow.2.1 77 = .ok (.iinc 1 1, 3) := by decide +kernel
theorem dP_follow_80 : decode mP_follow.2.1 80 = .ok (.goto (-25), 3) := by decide +kernel
theorem dP_follow_83 : decode mP_follow.2.1 83 = .ok (.iconst 0, 1) := by decide +kernel
theorem dP_follow_84 : decode mP_follow.2.1 84 = .ok (.istore_n 1, 1) := by decide +kernel
theorem dP_follow_85 : decode mP_follow.2.1 85 = .ok (.iload_n 1, 1) := by decide +kernel
theorem dP_follow_86 : decode mP_follow.2.1 86 = .ok (.aload_n 0, 1) := by decide +kernel
theorem dP_follow_87 : decode mP_follow.2.1 87 = .ok (.getfield 26, 3) := by decide +kernel
theorem dP_follow_90 : decode mP_follow.2.1 90 = .ok (.if_icmp .ge 29, 3) := by decide +kernel
theorem dP_follow_93 : decode mP_follow.2.1 93 = .ok (.aload_n 0, 1) := by decide +kernel
theorem dP_follow_94 : decode mP_follow.2.1 94 = .ok (.getfield 23, 3) := by decide +kernel
theorem dP_follow_97 : decode mP_follow.2.1 97 = .ok (.iload_n 1, 1) := by decide +kernel
theorem dP_follow_98 : decode mP_follow.2.1 98 = .ok (.aload_n 0, 1) := by decide +kernel
theorem dP_follow_99 : decode mP_follow.2.1 99 = .ok (.iload_n 1, 1) := by decide +kernel
theorem dP_follow_100 : decode mP_follow.2.1 100 = .ok (.aload_n 0, 1) := by decide +kernel
theorem dP_follow_101 : decode mP_follow.2.1 101 = .ok (.getfield 33, 3) := by decide +kernel
theorem dP_follow_104 : decode mP_follow.2.1 104 = .ok (.getfield 42, 3) := by decide +kernel
theorem dP_follow_107 : decode mP_follow.2.1 107 = .ok (.iconst 1, 1) := by decide +kernel
theorem dP_follow_108 : decode mP_follow.2.1 108 = .ok (.isub, 1) := by decide +kernel
theorem dP_follow_109 : decode mP_follow.2.1 109 = .ok (.invokevirtual 49, 3) := by decide +kernel
theorem dP_follow_112 : decode mP_follow.2.1 112 = .ok (.iastore, 1) := by decide +kernel
theorem dP_follow_113 : decode mP_follow.2.1 113 = .ok (.iinc 1 1, 3) := by decide +kernel
theorem dP_follow_116 : decode mP_follow.2.1 116 = .ok (.goto (-31), 3) := by decide +kernel
theorem dP_follow_119 : decode mP_follow.2.1 119 = .ok (.return_, 1) := by decide +kernel
/- P_follow: ()V -/
set_option maxRecDepth 4000 in
theorem wP_follow {X : Cx} (sw : Bool) (m : Mem) (Q : Int → Bool → Mem → Prop) (h : ((¬ w32 (m 23 6) = w32 (m 2 5) → R2 X 5 mP_follow 55 [(0, vr 23), (1, vi 0)] [] sw (upm (upm (upm (upm m 23 6 (m 2 5)) 23 5 (zshl 1 (m 2 3))) 34 0 0) 35 0 0) Q) ∧ (¬ (¬ w32 (m 23 6) = w32 (m 2 5)) → Q 0 sw m))) : M2 X 5 mP_follow [vr 23] sw m Q := by
  refine Mt.of pP_follow (Nat.le_of_ble_eq_true rfl) (Nat.le_refl _) ?_
  show R2 X 5 mP_follow 0 [(0, vr 23)] [] sw m Q
  refine r_aload_n 0 0 rfl dP_follow_0 rfl ?_
  refine q_getI 6 c23 fP_30 rfl rfl dP_follow_1 ?_
  refine r_aload_n 0 0 rfl dP_follow_4 rfl ?_
  refine q_getR 0 c23 fP_33 rfl rfl (g23_0 sw) (by decide) dP_follow_5 ?_
  refine q_getI 5 c2 fP_37 rfl rfl dP_follow_8 ?_
  refine r_ifc_ne (tgt := 15) dP_follow_11 (by decide) (fun hc => ?_) (fun hc => ?_)
  · replace h := h.1 hc
    refine r_aload_n 0 0 rfl dP_follow_15 rfl ?_
    refine r_aload_n 0 0 rfl dP_follow_16 rfl ?_
    refine q_getR 0 c23 fP_33 rfl rfl (g23_0 sw) (by decide) dP_follow_17 ?_
    refine q_getI 5 c2 fP_37 rfl rfl dP_follow_20 ?_
    refine q_putI 6 c23 pfP_30 rfl rfl dP_follow_23 ?_
    refine r_aload_n 0 0 rfl dP_follow_26 rfl ?_
    refine r_iconst dP_follow_27 ?_
    refine r_aload_n 0 0 rfl dP_follow_28 rfl ?_
    refine q_getR 0 c23 fP_33 rfl rfl (g23_0 sw) (by decide) dP_follow_29 ?_
    refine q_getI 3 c2 fP_42 rfl rfl dP_follow_32 ?_
    refine r_ishl dP_follow_35 ?_
    refine q_putI 5 c23 pfP_26 rfl rfl dP_follow_36 ?_
    refine r_aload_n 0 0 rfl dP_follow_39 rfl ?_
    refine q_getR 2 c23 fP_16 rfl rfl (g23_2 sw) (by decide) dP_follow_40 ?_
    refine r_iconst dP_follow_43 ?_
    refine r_iconst dP_follow_44 ?_
    refine q_iastore 0 rfl c34 (by decide) dP_follow_45 ?_
    refine r_aload_n 0 0 rfl dP_follow_46 rfl ?_
    refine q_getR 3 c23 fP_20 rfl rfl (g23_3 sw) (by decide) dP_follow_47 ?_
    refine r_iconst dP_follow_50 ?_
    refine r_iconst dP_follow_51 ?_
    refine q_iastore 0 rfl c35 (by decide) dP_follow_52 ?_
    refine r_iconst dP_follow_53 ?_
    refine r_istore_n 1 (by decide) dP_follow_54 rfl ?_
    refine r_sub [1, 0] ?_ h
    rfl
  · replace h := h.2 hc
    exact q_vret rfl h dP_follow_14
set_option maxRecDepth 4000 in
theorem wP_follow_55 {X : Cx} (x1 : Int) (sw : Bool) (m : Mem) (Q : Int → Bool → Mem → Prop) (h : ((w32 (m 2 3) ≤ w32 x1 → R2 X 5 mP_follow 85 [(0, vr 23), (1, vi 0)] [] sw m Q) ∧ (¬ (w32 (m 2 3) ≤ w32 x1) → ((9 ≤ w32 x1 → R2 X 5 mP_follow 85 [(0, vr 23), (1, vi 0)] [] sw m Q) ∧ (¬ (9 ≤ w32 x1) → M2 X 4 mP_followOne [vr 23, vi x1] sw m (fun z1 sw1 m1 => R2 X 5 mP_follow 55 [(0, vr 23), (1, vi (x1 + 1))] [] sw1 m1 Q)))))) : R2 X 5 mP_follow 55 [(0, vr 23), (1, vi x1)] [] sw m Q := by
  refine r_iload_n 1 1 rfl dP_follow_55 rfl ?_
  refine r_aload_n 0 0 rfl dP_follow_56 rfl ?_
  refine q_getR 0 c23 fP_33 rfl rfl (g23_0 sw) (by decide) dP_follow_57 ?_
  refine q_getI 3 c2 fP_42 rfl rfl dP_follow_60 ?_
  refine r_ifc_ge (tgt := 83) dP_follow_63 (by decide) (fun hc => ?_) (fun hc => ?_)
  · replace h := h.1 hc
    refine r_iconst dP_follow_83 ?_
    refine r_istore_n 1 (by decide) dP_follow_84 rfl ?_
    refine r_sub [1, 0] ?_ h
    rfl
  · replace h := h.2 hc
    refine r_iload_n 1 1 rfl dP_follow_66 rfl ?_
    refine r_bipush (by decide) dP_follow_67 ?_
    refine r_ifc_ge (tgt := 83) dP_follow_69 (by decide) (fun hc => ?_) (fun hc => ?_)
    · replace h := h.1 hc
      refine r_iconst dP_follow_83 ?_
      refine r_istore_n 1 (by decide) dP_follow_84 rfl ?_
      refine r_sub [1, 0] ?_ h
      rfl
    · replace h := h.2 hc
      refine r_aload_n 0 0 rfl dP_follow_72 rfl ?_
      refine r_iload_n 1 1 rfl dP_follow_73 rfl ?_
      refine r_callVv 3 [_] rfl c23 rfl rfl oP_followOne iP_followOne sP_followOne yP_45 (by decide) ⟨Nat.le_refl _, Nat.le_refl _⟩ rfl (Nat.le_of_ble_eq_true rfl) dP_follow_74 h (fun z1 r1 m1 h => ?_)
      obtain ⟨sw1, rfl, h⟩ := h
      refine r_iinc 1 1 rfl (by decide) dP_follow_77 ?_
      refine r_goto (tgt := 55) dP_follow_80 (by decide) ?_
      refine r_sub [1, 0] ?_ h
      rfl
set_option maxRecDepth 4000 in
theorem wP_follow_85 {X : Cx} (x1 : Int) (sw : Bool) (m : Mem) (Q : Int → Bool → Mem → Prop) (h : ((w32 (m 23 5) ≤ w32 x1 → Q 0 sw m) ∧ (¬ (w32 (m 23 5) ≤ w32 x1) → M2 X 2 mP_minuteOf [vr 23, vi x1, vi ((m 2 3) - 1)] sw m (fun z1 sw1 m1 => ((0 ≤ w32 x1 ∧ w32 x1 < 512) ∧ R2 X 5 mP_follow 85 [(0, vr 23), (1, vi (x1 + 1))] [] sw1 (upm m1 36 (w32 x1) z1) Q))))) : R2 X 5 mP_follow 85 [(0, vr 23), (1, vi x1)] [] sw m Q := by
  refine r_iload_n 1 1 rfl dP_follow_85 rfl ?_
  refine r_aload_n 0 0 rfl dP_follow_86 rfl ?_
  refine q_getI 5 c23 fP_26 rfl rfl dP_follow_87 ?_
  refine r_ifc_ge (tgt := 119) dP_follow_90 (by decide) (fun hc => ?_) (fun hc => ?_)
  · replace h := h.1 hc
    exact q_vret rfl h dP_follow_119
  · replace h := h.2 hc
    refine r_aload_n 0 0 rfl dP_follow_93 rfl ?_
    refine q_getR 4 c23 fP_23 rfl rfl (g23_4 sw) (by decide) dP_follow_94 ?_
    refine r_iload_n 1 1 rfl dP_follow_97 rfl ?_
    refine r_aload_n 0 0 rfl dP_follow_98 rfl ?_
    refine r_iload_n 1 1 rfl dP_follow_99 rfl ?_
    refine r_aload_n 0 0 rfl dP_follow_100 rfl ?_
    refine q_getR 0 c23 fP_33 rfl rfl (g23_0 sw) (by decide) dP_follow_101 ?_
    refine q_getI 3 c2 fP_42 rfl rfl dP_follow_104 ?_
    refine r_iconst dP_follow_107 ?_
    refine r_isub dP_follow_108 ?_
    refine r_callVi 3 [_, _] rfl c23 rfl rfl oP_minuteOf iP_minuteOf sP_minuteOf yP_49 (by decide) ⟨Nat.le_refl _, Nat.le_refl _⟩ rfl (Nat.le_of_ble_eq_true rfl) dP_follow_109 h (fun z1 r1 m1 h => ?_)
    obtain ⟨sw1, rfl, h⟩ := h
    refine q_iastore (w32 x1) rfl c36 h.1 dP_follow_112 ?_
    replace h := h.2
    refine r_iinc 1 1 rfl (by decide) dP_follow_113 ?_
    refine r_goto (tgt := 85) dP_follow_116 (by decide) ?_
    refine r_sub [1, 0] ?_ h
    rfl
theorem dP_followOne_0 : decode mP_followOne.2.1 0 = .ok (.aload_n 0, 1) := by decide +kernel
theorem dP_followOne_1 : decode mP_followOne.2.1 1 = .ok (.getfield 33, 3) := by decide +kernel
theorem dP_followOne_4 : decode mP_followOne.2.1 4 = .ok (.iload_n 1, 1) := by decide +kernel
theorem dP_followOne_5 : decode mP_followOne.2.1 5 = .ok (.iconst 3, 1) := by decide +kernel
theorem dP_followOne_6 : decode mP_followOne.2.1 6 = .ok (.invokevirtual 53, 3) := by decide +kernel
theorem dP_followOne_9 : decode mP_followOne.2.1 9 = .ok (.istore_n 2, 1) := by decide +kernel
theorem dP_followOne_10 : decode mP_followOne.2.1 10 = .ok (.iconst 1, 1) := by decide +kernel
theorem dP_followOne_11 : decode mP_followOne.2.1 11 = .ok (.iload_n 1, 1) := by decide +kernel
theorem dP_followOne_12 : decode mP_followOne.2.1 12 = .ok (.ishl, 1) := by decide +kernel
theorem dP_followOne_13 : decode mP_followOne.2.1 13 = .ok (.istore_n 3, 1) := by decide +kernel
theorem dP_followOne_14 : decode mP_followOne.2.1 14 = .ok (.iconst 0, 1) := by decide +kernel
theorem dP_followOne_15 : decode mP_followOne.2.1 15 = .ok (.istore 4, 2) := by decide +kernel
theorem dP_followOne_17 : decode mP_followOne.2.1 17 = .ok (.iload 4, 2) := by decide +kernel
theorem dP_followOne_19 : decode mP_followOne.2.1 19 = .ok (.iload_n 3, 1) := by decide +kernel
theorem dP_followOne_20 : decode mP_followOne.2.1 20 = .ok (.if_icmp .ge 113, 3) := by decide +kernel
theorem dP_followOne_23 : decode mP_followOne.2.1 23 = .ok (.aload_n 0, 1) := by decide +kernel
theorem dP_followOne_24 : decode mP_followOne.2.1 24 = .ok (.iload_n 1, 1) := by decide +kernel
theorem dP_followOne_25 : decode mP_followOne.2.1 25 = .ok (.iload 4, 2) := by decide +kernel
theorem dP_followOne_27 : decode mP_followOne.2.1 27 = .ok (.invokevirtual 56, 3) := by decide +kernel
theorem dP_followOne_30 : decode mP_followOne.2.1 30 = .ok (.istore 5, 2) := by decide +kernel
theorem dP_followOne_32 : decode mP_followOne.2.1 32 = .ok (.iload 5, 2) := by decide +kernel
theorem dP_followOne_34 : decode mP_followOne.2.1 34 = .ok (.iconst (-1), 1) := by decide +kernel
theorem dP_followOne_35 : decode mP_followOne.2.1 35 = .ok (.if_icmp .ne 7, 3) := by decide +kernel
theorem dP_followOne_38 : decode mP_followOne.2.1 38 = .ok (.iconst 0, 1) := by decide +kernel
theorem dP_followOne_39 : decode mP_followOne.2.1 39 = .ok (.goto 4, 3) := by decide +kernel
theorem dP_followOne_42 : decode mP_followOne.2.1 42 = .ok (.iload_n 3, 1) := by decide +kernel
theorem dP_followOne_43 : decode mP_followOne.2.1 43 = .ok (.istore 6, 2) := by decide +kernel
theorem dP_followOne_45 : decode mP_followOne.2.1 45 = .ok (.aload_n 0, 1) := by decide +kernel
theorem dP_followOne_46 : decode mP_followOne.2.1 46 = .ok (.getfield 11, 3) := by decide +kernel
theorem dP_followOne_49 : decode mP_followOne.2.1 49 = .ok (.iload_n 1, 1) := by decide +kernel
theorem dP_followOne_50 : decode mP_followOne.2.1 50 = .ok (.aaload, 1) := by decide +kernel
theorem dP_followOne_51 : decode mP_followOne.2.1 51 = .ok (.iload 4, 2) := by decide +kernel
theorem dP_followOne_53 : decode mP_followOne.2.1 53 = .ok (.iconst (-1), 1) := by decide +kernel
theorem dP_followOne_54 : decode mP_followOne.2.1 54 = .ok (.iastore, 1) := by decide +kernel
theorem dP_followOne_55 : decode mP_followOne.2.1 55 = .ok (.aload_n 0, 1) := by decide +kernel
theorem dP_followOne_56 : decode mP_followOne.2.1 56 = .ok (.getfield 11, 3) := by decide +kernel
theorem dP_followOne_59 : decode mP_followOne.2.1 59 = .ok (.iload_n 1, 1) := by decide +kernel
theorem dP_followOne_60 : decode mP_followOne.2.1 60 = .ok (.aaload, 1) := by decide +kernel
theorem dP_followOne_61 : decode mP_followOne.2.1 61 = .ok (.iload 4, 2) := by decide +kernel
theorem dP_followOne_63 : decode mP_followOne.2.1 63 = .ok (.iload_n 3, 1) := by decide +kernel
theorem dP_followOne_64 : decode mP_followOne.2.1 64 = .ok (.iadd, 1) := by decide +kernel
theorem dP_followOne_65 : decode mP_followOne.2.1 65 = .ok (.iload 5, 2) := by decide +kernel
theorem dP_followOne_67 : decode mP_followOne.2.1 67 = .ok (.iconst (-1), 1) := by decide +kernel
theorem dP_followOne_68 : decode mP_followOne.2.1 68 = .ok (.if_icmp .ne 7, 3) := by decide +kernel
theorem dP_followOne_71 : decode mP_followOne.2.1 71 = .ok (.iconst (-1), 1) := by decide +kernel
theorem dP_followOne_72 : decode mP_followOne.2.1 72 = .ok (.goto 7, 3) := by decide +kernel
theorem dP_followOne_75 : decode mP_followOne.2.1 75 = .ok (.iload 5, 2) := by decide +kernel
theorem dP_followOne_77 : decode mP_followOne.2.1 77 = .ok (.iload_n 2, 1) := by decide +kernel
theorem dP_followOne_78 : decode mP_followOne.2.1 78 = .ok (.iadd, 1) := by decide +kernel
theorem dP_followOne_79 : decode mP_followOne.2.1 79 = .ok (.iastore, 1) := by decide +kernel
theorem dP_followOne_80 : decode mP_followOne.2.1 80 = .ok (.aload_n 0, 1) := by decide +kernel
theorem dP_followOne_81 : decode mP_followOne.2.1 81 = .ok (.getfield 16, 3) := by decide +kernel
theorem dP_followOne_84 : decode mP_followOne.2.1 84 = .ok (.iload 4, 2) := by decide +kernel
theorem dP_followOne_86 : decode mP_followOne.2.1 86 = .ok (.iload_n 3, 1) := by decide +kernel
theorem dP_followOne_87 : decode mP_followOne.2.1 87 = .ok (.iadd, 1) := by decide +kernel
theorem dP_followOne_88 : decode mP_followOne.2.1 88 = .ok (.aload_n 0, 1) := by decide +kernel
theorem dP_followOne_89 : decode mP_followOne.2.1 89 = .ok (.getfield 16, 3) := by decide +kernel
theorem dP_followOne_92 : decode mP_followOne.2.1 92 = .ok (.iload 4, 2) := by decide +kernel
theorem dP_followOne_94 : decode mP_followOne.2.1 94 = .ok (.iaload, 1) := by decide +kernel
theorem dP_followOne_95 : decode mP_followOne.2.1 95 = .ok (.iload 6, 2) := by decide +kernel
theorem dP_followOne_97 : decode mP_followOne.2.1 97 = .ok (.ior, 1) := by decide +kernel
theorem dP_followOne_98 : decode mP_followOne.2.1 98 = .ok (.iastore, 1) := by decide +kernel
theorem dP_followOne_99 : decode mP_followOne.2.1 99 = .ok (.aload_n 0, 1) := by decide +kernel
theorem dP_followOne_100 : decode mP_followOne.2.1 100 = .ok (.getfield 20, 3) := by decide +kernel
theorem dP_followOne_103 : decode mP_followOne.2.1 103 = .ok (.iload 4, 2) := by decide +kernel
theorem dP_followOne_105 : decode mP_followOne.2.1 105 = .ok (.iload_n 3, 1) := by decide +kernel
theorem dP_followOne_106 : decode mP_followOne.2.1 106 = .ok (.iadd, 1) := by decide +kernel
theorem dP_followOne_107 : decode mP_followOne.2.1 107 = .ok (.aload_n 0, 1) := by decide +kernel
theorem dP_followOne_108 : decode mP_followOne.2.1 108 = .ok (.getfield 20, 3) := by decide +kernel
theorem dP_followOne_111 : decode mP_followOne.2.1 111 = .ok (.iload 4, 2) := by decide +kernel
theorem dP_followOne_113 : decode mP_followOne.2.1 113 = .ok (.iaload, 1) := by decide +kernel
theorem dP_followOne_114 : decode mP_followOne.2.1 114 = .ok (.iastore, 1) := by decide +kernel
theorem dP_followOne_115 : decode mP_followOne.2.1 115 = .ok (.aload_n 0, 1) := by decide +kernel
theorem dP_followOne_116 : decode mP_followOne.2.1 116 = .ok (.getfield 20, 3) := by decide +kernel
theorem dP_followOne_119 : decode mP_followOne.2.1 119 = .ok (.iload 4, 2) := by decide +kernel
theorem dP_followOne_121 : decode mP_followOne.2.1 121 = .ok (.dup2, 1) := by decide +kernel
theorem dP_followOne_122 : decode mP_followOne.2.1 122 = .ok (.iaload, 1) := by decide +kernel
theorem dP_followOne_123 : decode mP_followOne.2.1 123 = .ok (.iload 6, 2) := by decide +kernel
theorem dP_followOne_125 : decode mP_followOne.2.1 125 = .ok (.ior, 1) := by decide +kernel
theorem dP_followOne_126 : decode mP_followOne.2.1 126 = .ok (.iastore, 1) := by decide +kernel
theorem dP_followOne_127 : decode mP_followOne.2.1 127 = .ok (.iinc 4 1, 3) := by decide +kernel
theorem dP_followOne_130 : decode mP_followOne.2.1 130 = .ok (.goto (-113), 3) := by decide +kernel
theorem dP_followOne_133 : decode mP_followOne.2.1 133 = .ok (.return_, 1) := by decide +kernel
/- P_followOne: (I)V -/
set_option maxRecDepth 4000 in
theorem wP_followOne {X : Cx} (a1 : Int) (sw : Bool) (m : Mem) (Q : Int → Bool → Mem → Prop) (h : M2 X 2 mK_told [vr 2, vi a1, vi 3] sw m (fun z1 sw1 m1 => R2 X 4 mP_followOne 17 [(0, vr 23), (1, vi a1), (2, vi z1), (3, vi (zshl 1 a1)), (4, vi 0)] [] sw1 m1 Q)) : M2 X 4 mP_followOne [vr 23, vi a1] sw m Q := by
  refine Mt.of pP_followOne (Nat.le_of_ble_eq_true rfl) (Nat.le_refl _) ?_
  show R2 X 4 mP_followOne 0 [(0, vr 23), (1, vi a1)] [] sw m Q
  refine r_aload_n 0 0 rfl dP_followOne_0 rfl ?_
  refine q_getR 0 c23 fP_33 rfl rfl (g23_0 sw) (by decide) dP_followOne_1 ?_
  refine r_iload_n 1 1 rfl dP_followOne_4 rfl ?_
  refine r_iconst dP_followOne_5 ?_
  refine r_callVi 1 [_, _] rfl c2 rfl rfl oK_told iK_told sK_told yP_53 (by decide) ⟨Nat.le_refl _, Nat.le_refl _⟩ rfl (Nat.le_of_ble_eq_true rfl) dP_followOne_6 h (fun z1 r1 m1 h => ?_)
  obtain ⟨sw1, rfl, h⟩ := h
  refine r_istore_n 2 (by decide) dP_followOne_9 rfl ?_
  refine r_iconst dP_followOne_10 ?_
  refine r_iload_n 1 2 rfl dP_followOne_11 rfl ?_
  refine r_ishl dP_followOne_12 ?_
  refine r_istore_n 3 (by decide) dP_followOne_13 rfl ?_
  refine r_iconst dP_followOne_14 ?_
  refine r_istore 4 (by decide) dP_followOne_15 ?_
  refine r_sub [3, 4, 2, 1, 0] ?_ h
  rfl
set_option maxRecDepth 4000 in
theorem wP_followOne_17 {X : Cx} (x1 x2 x3 x4 : Int) (sw : Bool) (m : Mem) (Q : Int → Bool → Mem → Prop) (h : ((w32 x3 ≤ w32 x4 → Q 0 sw m) ∧ (¬ (w32 x3 ≤ w32 x4) → M2 X 3 mP_startOf [vr 23, vi x1, vi x4] sw m (fun z1 sw1 m1 => ((¬ w32 z1 = (-1) → ((0 ≤ w32 x1 ∧ w32 x1 < 9) ∧ ((0 ≤ w32 x4 ∧ w32 x4 < 512) ∧ ((0 ≤ w32 x1 ∧ w32 x1 < 9) ∧ ((¬ w32 z1 = (-1) → ((0 ≤ w32 (x4 + x3) ∧ w32 (x4 + x3) < 512) ∧ ((0 ≤ w32 x4 ∧ w32 x4 < 512) ∧ ((0 ≤ w32 (x4 + x3) ∧ w32 (x4 + x3) < 512) ∧ ((0 ≤ w32 x4 ∧ w32 x4 < 512) ∧ ((0 ≤ w32 (x4 + x3) ∧ w32 (x4 + x3) < 512) ∧ ((0 ≤ w32 x4 ∧ w32 x4 < 512) ∧ ((0 ≤ w32 x4 ∧ w32 x4 < 512) ∧ R2 X 4 mP_followOne 17 [(0, vr 23), (1, vi x1), (2, vi x2), (3, vi x3), (4, vi (x4 + 1))] [] sw1 (upm (upm (upm (upm (upm m1 (25 + w32 x1) (w32 x4) (-1)) (25 + w32 x1) (w32 (x4 + x3)) (z1 + x2)) 34 (w32 (x4 + x3)) (zor ((upm (upm m1 (25 + w32 x1) (w32 x4) (-1)) (25 + w32 x1) (w32 (x4 + x3)) (z1 + x2)) 34 (w32 x4)) x3)) 35 (w32 (x4 + x3)) ((upm (upm m1 (25 + w32 x1) (w32 x4) (-1)) (25 + w32 x1) (w32 (x4 + x3)) (z1 + x2)) 35 (w32 x4))) 35 (w32 x4) (zor ((upm (upm (upm (upm m1 (25 + w32 x1) (w32 x4) (-1)) (25 + w32 x1) (w32 (x4 + x3)) (z1 + x2)) 34 (w32 (x4 + x3)) (zor ((upm (upm m1 (25 + w32 x1) (w32 x4) (-1)) (25 + w32 x1) (w32 (x4 + x3)) (z1 + x2)) 34 (w32 x4)) x3)) 35 (w32 (x4 + x3)) ((upm (upm m1 (25 + w32 x1) (w32 x4) (-1)) (25 + w32 x1) (w32 (x4 + x3)) (z1 + x2)) 35 (w32 x4))) 35 (w32 x4)) x3)) Q)))))))) ∧ (¬ (¬ w32 z1 = (-1)) → ((0 ≤ w32 (x4 + x3) ∧ w32 (x4 + x3) < 512) ∧ ((0 ≤ w32 x4 ∧ w32 x4 < 512) ∧ ((0 ≤ w32 (x4 + x3) ∧ w32 (x4 + x3) < 512) ∧ ((0 ≤ w32 x4 ∧ w32 x4 < 512) ∧ ((0 ≤ w32 (x4 + x3) ∧ w32 (x4 + x3) < 512) ∧ ((0 ≤ w32 x4 ∧ w32 x4 < 512) ∧ ((0 ≤ w32 x4 ∧ w32 x4 < 512) ∧ R2 X 4 mP_followOne 17 [(0, vr 23), (1, vi x1), (2, vi x2), (3, vi x3), (4, vi (x4 + 1))] [] sw1 (upm (upm (upm (upm (upm m1 (25 + w32 x1) (w32 x4) (-1)) (25 + w32 x1) (w32 (x4 + x3)) (-1)) 34 (w32 (x4 + x3)) (zor ((upm (upm m1 (25 + w32 x1) (w32 x4) (-1)) (25 + w32 x1) (w32 (x4 + x3)) (-1)) 34 (w32 x4)) x3)) 35 (w32 (x4 + x3)) ((upm (upm m1 (25 + w32 x1) (w32 x4) (-1)) (25 + w32 x1) (w32 (x4 + x3)) (-1)) 35 (w32 x4))) 35 (w32 x4) (zor ((upm (upm (upm (upm m1 (25 + w32 x1) (w32 x4) (-1)) (25 + w32 x1) (w32 (x4 + x3)) (-1)) 34 (w32 (x4 + x3)) (zor ((upm (upm m1 (25 + w32 x1) (w32 x4) (-1)) (25 + w32 x1) (w32 (x4 + x3)) (-1)) 34 (w32 x4)) x3)) 35 (w32 (x4 + x3)) ((upm (upm m1 (25 + w32 x1) (w32 x4) (-1)) (25 + w32 x1) (w32 (x4 + x3)) (-1)) 35 (w32 x4))) 35 (w32 x4)) x3)) Q))))))))))))) ∧ (¬ (¬ w32 z1 = (-1)) → ((0 ≤ w32 x1 ∧ w32 x1 < 9) ∧ ((0 ≤ w32 x4 ∧ w32 x4 < 512) ∧ ((0 ≤ w32 x1 ∧ w32 x1 < 9) ∧ ((¬ w32 z1 = (-1) → ((0 ≤ w32 (x4 + x3) ∧ w32 (x4 + x3) < 512) ∧ ((0 ≤ w32 x4 ∧ w32 x4 < 512) ∧ ((0 ≤ w32 (x4 + x3) ∧ w32 (x4 + x3) < 512) ∧ ((0 ≤ w32 x4 ∧ w32 x4 < 512) ∧ ((0 ≤ w32 (x4 + x3) ∧ w32 (x4 + x3) < 512) ∧ ((0 ≤ w32 x4 ∧ w32 x4 < 512) ∧ ((0 ≤ w32 x4 ∧ w32 x4 < 512) ∧ R2 X 4 mP_followOne 17 [(0, vr 23), (1, vi x1), (2, vi x2), (3, vi x3), (4, vi (x4 + 1))] [] sw1 (upm (upm (upm (upm (upm m1 (25 + w32 x1) (w32 x4) (-1)) (25 + w32 x1) (w32 (x4 + x3)) (z1 + x2)) 34 (w32 (x4 + x3)) (zor ((upm (upm m1 (25 + w32 x1) (w32 x4) (-1)) (25 + w32 x1) (w32 (x4 + x3)) (z1 + x2)) 34 (w32 x4)) 0)) 35 (w32 (x4 + x3)) ((upm (upm m1 (25 + w32 x1) (w32 x4) (-1)) (25 + w32 x1) (w32 (x4 + x3)) (z1 + x2)) 35 (w32 x4))) 35 (w32 x4) (zor ((upm (upm (upm (upm m1 (25 + w32 x1) (w32 x4) (-1)) (25 + w32 x1) (w32 (x4 + x3)) (z1 + x2)) 34 (w32 (x4 + x3)) (zor ((upm (upm m1 (25 + w32 x1) (w32 x4) (-1)) (25 + w32 x1) (w32 (x4 + x3)) (z1 + x2)) 34 (w32 x4)) 0)) 35 (w32 (x4 + x3)) ((upm (upm m1 (25 + w32 x1) (w32 x4) (-1)) (25 + w32 x1) (w32 (x4 + x3)) (z1 + x2)) 35 (w32 x4))) 35 (w32 x4)) 0)) Q)))))))) ∧ (¬ (¬ w32 z1 = (-1)) → ((0 ≤ w32 (x4 + x3) ∧ w32 (x4 + x3) < 512) ∧ ((0 ≤ w32 x4 ∧ w32 x4 < 512) ∧ ((0 ≤ w32 (x4 + x3) ∧ w32 (x4 + x3) < 512) ∧ ((0 ≤ w32 x4 ∧ w32 x4 < 512) ∧ ((0 ≤ w32 (x4 + x3) ∧ w32 (x4 + x3) < 512) ∧ ((0 ≤ w32 x4 ∧ w32 x4 < 512) ∧ ((0 ≤ w32 x4 ∧ w32 x4 < 512) ∧ R2 X 4 mP_followOne 17 [(0, vr 23), (1, vi x1), (2, vi x2), (3, vi x3), (4, vi (x4 + 1))] [] sw1 (upm (upm (upm (upm (upm m1 (25 + w32 x1) (w32 x4) (-1)) (25 + w32 x1) (w32 (x4 + x3)) (-1)) 34 (w32 (x4 + x3)) (zor ((upm (upm m1 (25 + w32 x1) (w32 x4) (-1)) (25 + w32 x1) (w32 (x4 + x3)) (-1)) 34 (w32 x4)) 0)) 35 (w32 (x4 + x3)) ((upm (upm m1 (25 + w32 x1) (w32 x4) (-1)) (25 + w32 x1) (w32 (x4 + x3)) (-1)) 35 (w32 x4))) 35 (w32 x4) (zor ((upm (upm (upm (upm m1 (25 + w32 x1) (w32 x4) (-1)) (25 + w32 x1) (w32 (x4 + x3)) (-1)) 34 (w32 (x4 + x3)) (zor ((upm (upm m1 (25 + w32 x1) (w32 x4) (-1)) (25 + w32 x1) (w32 (x4 + x3)) (-1)) 34 (w32 x4)) 0)) 35 (w32 (x4 + x3)) ((upm (upm m1 (25 + w32 x1) (w32 x4) (-1)) (25 + w32 x1) (w32 (x4 + x3)) (-1)) 35 (w32 x4))) 35 (w32 x4)) 0)) Q)))))))))))))))))) : R2 X 4 mP_followOne 17 [(0, vr 23), (1, vi x1), (2, vi x2), (3, vi x3), (4, vi x4)] [] sw m Q := by
  refine r_iload 4 4 rfl dP_followOne_17 ?_
  refine r_iload_n 3 3 rfl dP_followOne_19 rfl ?_
  refine r_ifc_ge (tgt := 133) dP_followOne_20 (by decide) (fun hc => ?_) (fun hc => ?_)
  · replace h := h.1 hc
    exact q_vret rfl h dP_followOne_133
  · replace h := h.2 hc
    refine r_aload_n 0 0 rfl dP_followOne_23 rfl ?_
    refine r_iload_n 1 1 rfl dP_followOne_24 rfl ?_
    refine r_iload 4 4 rfl dP_followOne_25 ?_
    refine r_callVi 3 [_, _] rfl c23 rfl rfl oP_startOf iP_startOf sP_startOf yP_56 (by decide) ⟨Nat.le_refl _, Nat.le_refl _⟩ rfl (Nat.le_of_ble_eq_true rfl) dP_followOne_27 h (fun z1 r1 m1 h => ?_)
    obtain ⟨sw1, rfl, h⟩ := h
    refine r_istore 5 (by decide) dP_followOne_30 ?_
    refine r_iload 5 0 rfl dP_followOne_32 ?_
    refine r_iconst dP_followOne_34 ?_
    refine r_ifc_ne (tgt := 42) dP_followOne_35 (by decide) (fun hc => ?_) (fun hc => ?_)
    · replace h := h.1 hc
      refine r_iload_n 3 4 rfl dP_followOne_42 rfl ?_
      refine r_istore 6 (by decide) dP_followOne_43 ?_
      refine r_aload_n 0 2 rfl dP_followOne_45 rfl ?_
      refine q_getR 1 c23 fP_11 rfl rfl (g23_1 sw1) (by decide) dP_followOne_46 ?_
      refine r_iload_n 1 3 rfl dP_followOne_49 rfl ?_
      have hi1 := h.1
      replace h := h.2
      refine q_aaload (w32 x1) (by decide) rfl c24 hi1 (gr24 sw1 hi1) (nr24 hi1) dP_followOne_50 ?_
      refine r_iload 4 6 rfl dP_followOne_51 ?_
      refine r_iconst dP_followOne_53 ?_
      refine q_iastore (w32 x4) rfl (cr24 hi1) h.1 dP_followOne_54 ?_
      replace h := h.2
      refine r_aload_n 0 2 rfl dP_followOne_55 rfl ?_
      refine q_getR 1 c23 fP_11 rfl rfl (g23_1 sw1) (by decide) dP_followOne_56 ?_
      refine r_iload_n 1 3 rfl dP_followOne_59 rfl ?_
      have hi2 := h.1
      replace h := h.2
      refine q_aaload (w32 x1) (by decide) rfl c24 hi2 (gr24 sw1 hi2) (nr24 hi2) dP_followOne_60 ?_
      refine r_iload 4 6 rfl dP_followOne_61 ?_
      refine r_iload_n 3 5 rfl dP_followOne_63 rfl ?_
      refine r_iadd dP_followOne_64 ?_
      refine r_iload 5 1 rfl dP_followOne_65 ?_
      refine r_iconst dP_followOne_67 ?_
      refine r_ifc_ne (tgt := 75) dP_followOne_68 (by decide) (fun hc => ?_) (fun hc => ?_)
      · replace h := h.1 hc
        refine r_iload 5 1 rfl dP_followOne_75 ?_
        refine r_iload_n 2 4 rfl dP_followOne_77 rfl ?_
        refine r_iadd dP_followOne_78 ?_
        refine q_iastore (w32 (x4 + x3)) rfl (cr24 hi2) h.1 dP_followOne_79 ?_
        replace h := h.2
        refine r_aload_n 0 2 rfl dP_followOne_80 rfl ?_
        refine q_getR 2 c23 fP_16 rfl rfl (g23_2 sw1) (by decide) dP_followOne_81 ?_
        refine r_iload 4 6 rfl dP_followOne_84 ?_
        refine r_iload_n 3 5 rfl dP_followOne_86 rfl ?_
        refine r_iadd dP_followOne_87 ?_
        refine r_aload_n 0 2 rfl dP_followOne_88 rfl ?_
        refine q_getR 2 c23 fP_16 rfl rfl (g23_2 sw1) (by decide) dP_followOne_89 ?_
        refine r_iload 4 6 rfl dP_followOne_92 ?_
        refine q_iaload (w32 x4) rfl c34 h.1 dP_followOne_94 ?_
        replace h := h.2
        refine r_iload 6 0 rfl dP_followOne_95 ?_
        refine r_ior dP_followOne_97 ?_
        refine q_iastore (w32 (x4 + x3)) rfl c34 h.1 dP_followOne_98 ?_
        replace h := h.2
        refine r_aload_n 0 2 rfl dP_followOne_99 rfl ?_
        refine q_getR 3 c23 fP_20 rfl rfl (g23_3 sw1) (by decide) dP_followOne_100 ?_
        refine r_iload 4 6 rfl dP_followOne_103 ?_
        refine r_iload_n 3 5 rfl dP_followOne_105 rfl ?_
        refine r_iadd dP_followOne_106 ?_
        refine r_aload_n 0 2 rfl dP_followOne_107 rfl ?_
        refine q_getR 3 c23 fP_20 rfl rfl (g23_3 sw1) (by decide) dP_followOne_108 ?_
        refine r_iload 4 6 rfl dP_followOne_111 ?_
        refine q_iaload (w32 x4) rfl c35 h.1 dP_followOne_113 ?_
        replace h := h.2
        refine q_iastore (w32 (x4 + x3)) rfl c35 h.1 dP_followOne_114 ?_
        replace h := h.2
        refine r_aload_n 0 2 rfl dP_followOne_115 rfl ?_
        refine q_getR 3 c23 fP_20 rfl rfl (g23_3 sw1) (by decide) dP_followOne_116 ?_
        refine r_iload 4 6 rfl dP_followOne_119 ?_
        refine r_dup2 (fun q => by cases q) (fun q => by cases q) dP_followOne_121 ?_
        refine q_iaload (w32 x4) rfl c35 h.1 dP_followOne_122 ?_
        replace h := h.2
        refine r_iload 6 0 rfl dP_followOne_123 ?_
        refine r_ior dP_followOne_125 ?_
        refine q_iastore (w32 x4) rfl c35 h.1 dP_followOne_126 ?_
        replace h := h.2
        refine r_iinc 4 6 rfl (by decide) dP_followOne_127 ?_
        refine r_goto (tgt := 17) dP_followOne_130 (by decide) ?_
        refine r_sub [3, 4, 5, 6, 0] ?_ h
        rfl
      · replace h := h.2 hc
        refine r_iconst dP_followOne_71 ?_
        refine r_goto (tgt := 79) dP_followOne_72 (by decide) ?_
        refine q_iastore (w32 (x4 + x3)) rfl (cr24 hi2) h.1 dP_followOne_79 ?_
        replace h := h.2
        refine r_aload_n 0 2 rfl dP_followOne_80 rfl ?_
        refine q_getR 2 c23 fP_16 rfl rfl (g23_2 sw1) (by decide) dP_followOne_81 ?_
        refine r_iload 4 6 rfl dP_followOne_84 ?_
        refine r_iload_n 3 5 rfl dP_followOne_86 rfl ?_
        refine r_iadd dP_followOne_87 ?_
        refine r_aload_n 0 2 rfl dP_followOne_88 rfl ?_
        refine q_getR 2 c23 fP_16 rfl rfl (g23_2 sw1) (by decide) dP_followOne_89 ?_
        refine r_iload 4 6 rfl dP_followOne_92 ?_
        refine q_iaload (w32 x4) rfl c34 h.1 dP_followOne_94 ?_
        replace h := h.2
        refine r_iload 6 0 rfl dP_followOne_95 ?_
        refine r_ior dP_followOne_97 ?_
        refine q_iastore (w32 (x4 + x3)) rfl c34 h.1 dP_followOne_98 ?_
        replace h := h.2
        refine r_aload_n 0 2 rfl dP_followOne_99 rfl ?_
        refine q_getR 3 c23 fP_20 rfl rfl (g23_3 sw1) (by decide) dP_followOne_100 ?_
        refine r_iload 4 6 rfl dP_followOne_103 ?_
        refine r_iload_n 3 5 rfl dP_followOne_105 rfl ?_
        refine r_iadd dP_followOne_106 ?_
        refine r_aload_n 0 2 rfl dP_followOne_107 rfl ?_
        refine q_getR 3 c23 fP_20 rfl rfl (g23_3 sw1) (by decide) dP_followOne_108 ?_
        refine r_iload 4 6 rfl dP_followOne_111 ?_
        refine q_iaload (w32 x4) rfl c35 h.1 dP_followOne_113 ?_
        replace h := h.2
        refine q_iastore (w32 (x4 + x3)) rfl c35 h.1 dP_followOne_114 ?_
        replace h := h.2
        refine r_aload_n 0 2 rfl dP_followOne_115 rfl ?_
        refine q_getR 3 c23 fP_20 rfl rfl (g23_3 sw1) (by decide) dP_followOne_116 ?_
        refine r_iload 4 6 rfl dP_followOne_119 ?_
        refine r_dup2 (fun q => by cases q) (fun q => by cases q) dP_followOne_121 ?_
        refine q_iaload (w32 x4) rfl c35 h.1 dP_followOne_122 ?_
        replace h := h.2
        refine r_iload 6 0 rfl dP_followOne_123 ?_
        refine r_ior dP_followOne_125 ?_
        refine q_iastore (w32 x4) rfl c35 h.1 dP_followOne_126 ?_
        replace h := h.2
        refine r_iinc 4 6 rfl (by decide) dP_followOne_127 ?_
        refine r_goto (tgt := 17) dP_followOne_130 (by decide) ?_
        refine r_sub [3, 4, 5, 6, 0] ?_ h
        rfl
    · replace h := h.2 hc
      refine r_iconst dP_followOne_38 ?_
      refine r_goto (tgt := 43) dP_followOne_39 (by decide) ?_
      refine r_istore 6 (by decide) dP_followOne_43 ?_
      refine r_aload_n 0 2 rfl dP_followOne_45 rfl ?_
      refine q_getR 1 c23 fP_11 rfl rfl (g23_1 sw1) (by decide) dP_followOne_46 ?_
      refine r_iload_n 1 3 rfl dP_followOne_49 rfl ?_
      have hi3 := h.1
      replace h := h.2
      refine q_aaload (w32 x1) (by decide) rfl c24 hi3 (gr24 sw1 hi3) (nr24 hi3) dP_followOne_50 ?_
      refine r_iload 4 6 rfl dP_followOne_51 ?_
      refine r_iconst dP_followOne_53 ?_
      refine q_iastore (w32 x4) rfl (cr24 hi3) h.1 dP_followOne_54 ?_
      replace h := h.2
      refine r_aload_n 0 2 rfl dP_followOne_55 rfl ?_
      refine q_getR 1 c23 fP_11 rfl rfl (g23_1 sw1) (by decide) dP_followOne_56 ?_
      refine r_iload_n 1 3 rfl dP_followOne_59 rfl ?_
      have hi4 := h.1
      replace h := h.2
      refine q_aaload (w32 x1) (by decide) rfl c24 hi4 (gr24 sw1 hi4) (nr24 hi4) dP_followOne_60 ?_
      refine r_iload 4 6 rfl dP_followOne_61 ?_
      refine r_iload_n 3 5 rfl dP_followOne_63 rfl ?_
      refine r_iadd dP_followOne_64 ?_
      refine r_iload 5 1 rfl dP_followOne_65 ?_
      refine r_iconst dP_followOne_67 ?_
      refine r_ifc_ne (tgt := 75) dP_followOne_68 (by decide) (fun hc => ?_) (fun hc => ?_)
      · replace h := h.1 hc
        refine r_iload 5 1 rfl dP_followOne_75 ?_
        refine r_iload_n 2 4 rfl dP_followOne_77 rfl ?_
        refine r_iadd dP_followOne_78 ?_
        refine q_iastore (w32 (x4 + x3)) rfl (cr24 hi4) h.1 dP_followOne_79 ?_
        replace h := h.2
        refine r_aload_n 0 2 rfl dP_followOne_80 rfl ?_
        refine q_getR 2 c23 fP_16 rfl rfl (g23_2 sw1) (by decide) dP_followOne_81 ?_
        refine r_iload 4 6 rfl dP_followOne_84 ?_
        refine r_iload_n 3 5 rfl dP_followOne_86 rfl ?_
        refine r_iadd dP_followOne_87 ?_
        refine r_aload_n 0 2 rfl dP_followOne_88 rfl ?_
        refine q_getR 2 c23 fP_16 rfl rfl (g23_2 sw1) (by decide) dP_followOne_89 ?_
        refine r_iload 4 6 rfl dP_followOne_92 ?_
        refine q_iaload (w32 x4) rfl c34 h.1 dP_followOne_94 ?_
        replace h := h.2
        refine r_iload 6 0 rfl dP_followOne_95 ?_
        refine r_ior dP_followOne_97 ?_
        refine q_iastore (w32 (x4 + x3)) rfl c34 h.1 dP_followOne_98 ?_
        replace h := h.2
        refine r_aload_n 0 2 rfl dP_followOne_99 rfl ?_
        refine q_getR 3 c23 fP_20 rfl rfl (g23_3 sw1) (by decide) dP_followOne_100 ?_
        refine r_iload 4 6 rfl dP_followOne_103 ?_
        refine r_iload_n 3 5 rfl dP_followOne_105 rfl ?_
        refine r_iadd dP_followOne_106 ?_
        refine r_aload_n 0 2 rfl dP_followOne_107 rfl ?_
        refine q_getR 3 c23 fP_20 rfl rfl (g23_3 sw1) (by decide) dP_followOne_108 ?_
        refine r_iload 4 6 rfl dP_followOne_111 ?_
        refine q_iaload (w32 x4) rfl c35 h.1 dP_followOne_113 ?_
        replace h := h.2
        refine q_iastore (w32 (x4 + x3)) rfl c35 h.1 dP_followOne_114 ?_
        replace h := h.2
        refine r_aload_n 0 2 rfl dP_followOne_115 rfl ?_
        refine q_getR 3 c23 fP_20 rfl rfl (g23_3 sw1) (by decide) dP_followOne_116 ?_
        refine r_iload 4 6 rfl dP_followOne_119 ?_
        refine r_dup2 (fun q => by cases q) (fun q => by cases q) dP_followOne_121 ?_
        refine q_iaload (w32 x4) rfl c35 h.1 dP_followOne_122 ?_
        replace h := h.2
        refine r_iload 6 0 rfl dP_followOne_123 ?_
        refine r_ior dP_followOne_125 ?_
        refine q_iastore (w32 x4) rfl c35 h.1 dP_followOne_126 ?_
        replace h := h.2
        refine r_iinc 4 6 rfl (by decide) dP_followOne_127 ?_
        refine r_goto (tgt := 17) dP_followOne_130 (by decide) ?_
        refine r_sub [3, 4, 5, 6, 0] ?_ h
        rfl
      · replace h := h.2 hc
        refine r_iconst dP_followOne_71 ?_
        refine r_goto (tgt := 79) dP_followOne_72 (by decide) ?_
        refine q_iastore (w32 (x4 + x3)) rfl (cr24 hi4) h.1 dP_followOne_79 ?_
        replace h := h.2
        refine r_aload_n 0 2 rfl dP_followOne_80 rfl ?_
        refine q_getR 2 c23 fP_16 rfl rfl (g23_2 sw1) (by decide) dP_followOne_81 ?_
        refine r_iload 4 6 rfl dP_followOne_84 ?_
        refine r_iload_n 3 5 rfl dP_followOne_86 rfl ?_
        refine r_iadd dP_followOne_87 ?_
        refine r_aload_n 0 2 rfl dP_followOne_88 rfl ?_
        refine q_getR 2 c23 fP_16 rfl rfl (g23_2 sw1) (by decide) dP_followOne_89 ?_
        refine r_iload 4 6 rfl dP_followOne_92 ?_
        refine q_iaload (w32 x4) rfl c34 h.1 dP_followOne_94 ?_
        replace h := h.2
        refine r_iload 6 0 rfl dP_followOne_95 ?_
        refine r_ior dP_followOne_97 ?_
        refine q_iastore (w32 (x4 + x3)) rfl c34 h.1 dP_followOne_98 ?_
        replace h := h.2
        refine r_aload_n 0 2 rfl dP_followOne_99 rfl ?_
        refine q_getR 3 c23 fP_20 rfl rfl (g23_3 sw1) (by decide) dP_followOne_100 ?_
        refine r_iload 4 6 rfl dP_followOne_103 ?_
        refine r_iload_n 3 5 rfl dP_followOne_105 rfl ?_
        refine r_iadd dP_followOne_106 ?_
        refine r_aload_n 0 2 rfl dP_followOne_107 rfl ?_
        refine q_getR 3 c23 fP_20 rfl rfl (g23_3 sw1) (by decide) dP_followOne_108 ?_
        refine r_iload 4 6 rfl dP_followOne_111 ?_
        refine q_iaload (w32 x4) rfl c35 h.1 dP_followOne_113 ?_
        replace h := h.2
        refine q_iastore (w32 (x4 + x3)) rfl c35 h.1 dP_followOne_114 ?_
        replace h := h.2
        refine r_aload_n 0 2 rfl dP_followOne_115 rfl ?_
        refine q_getR 3 c23 fP_20 rfl rfl (g23_3 sw1) (by decide) dP_followOne_116 ?_
        refine r_iload 4 6 rfl dP_followOne_119 ?_
        refine r_dup2 (fun q => by cases q) (fun q => by cases q) dP_followOne_121 ?_
        refine q_iaload (w32 x4) rfl c35 h.1 dP_followOne_122 ?_
        replace h := h.2
        refine r_iload 6 0 rfl dP_followOne_123 ?_
        refine r_ior dP_followOne_125 ?_
        refine q_iastore (w32 x4) rfl c35 h.1 dP_followOne_126 ?_
        replace h := h.2
        refine r_iinc 4 6 rfl (by decide) dP_followOne_127 ?_
        refine r_goto (tgt := 17) dP_followOne_130 (by decide) ?_
        refine r_sub [3, 4, 5, 6, 0] ?_ h
        rfl
theorem dP_startOf_0 : decode mP_startOf.2.1 0 = .ok (.aload_n 0, 1) := by decide +kernel
theorem dP_startOf_1 : decode mP_startOf.2.1 1 = .ok (.getfield 33, 3) := by decide +kernel
theorem dP_startOf_4 : decode mP_startOf.2.1 4 = .ok (.iload_n 1, 1) := by decide +kernel
theorem dP_startOf_5 : decode mP_startOf.2.1 5 = .ok (.iconst 0, 1) := by decide +kernel
theorem dP_startOf_6 : decode mP_startOf.2.1 6 = .ok (.invokevirtual 53, 3) := by decide +kernel
theorem dP_startOf_9 : decode mP_startOf.2.1 9 = .ok (.istore_n 3, 1) := by decide +kernel
theorem dP_startOf_10 : decode mP_startOf.2.1 10 = .ok (.aload_n 0, 1) := by decide +kernel
theorem dP_startOf_11 : decode mP_startOf.2.1 11 = .ok (.getfield 33, 3) := by decide +kernel
theorem dP_startOf_14 : decode mP_startOf.2.1 14 = .ok (.iload_n 1, 1) := by decide +kernel
theorem dP_startOf_15 : decode mP_startOf.2.1 15 = .ok (.iconst 1, 1) := by decide +kernel
theorem dP_startOf_16 : decode mP_startOf.2.1 16 = .ok (.invokevirtual 53, 3) := by decide +kernel
theorem dP_startOf_19 : decode mP_startOf.2.1 19 = .ok (.iconst 1, 1) := by decide +kernel
theorem dP_startOf_20 : decode mP_startOf.2.1 20 = .ok (.if_icmp .ne 7, 3) := by decide +kernel
theorem dP_startOf_23 : decode mP_startOf.2.1 23 = .ok (.iconst 1, 1) := by decide +kernel
theorem dP_startOf_24 : decode mP_startOf.2.1 24 = .ok (.goto 4, 3) := by decide +kernel
theorem dP_startOf_27 : decode mP_startOf.2.1 27 = .ok (.iconst 0, 1) := by decide +kernel
theorem dP_startOf_28 : decode mP_startOf.2.1 28 = .ok (.istore 4, 2) := by decide +kernel
theorem dP_startOf_30 : decode mP_startOf.2.1 30 = .ok (.iload_n 3, 1) := by decide +kernel
theorem dP_startOf_31 : decode mP_startOf.2.1 31 = .ok (.aload_n 0, 1) := by decide +kernel
theorem dP_startOf_32 : decode mP_startOf.2.1 32 = .ok (.getfield 16, 3) := by decide +kernel
theorem dP_startOf_35 : decode mP_startOf.2.1 35 = .ok (.iload_n 2, 1) := by decide +kernel
theorem dP_startOf_36 : decode mP_startOf.2.1 36 = .ok (.iaload, 1) := by decide +kernel
theorem dP_startOf_37 : decode mP_startOf.2.1 37 = .ok (.iand, 1) := by decide +kernel
theorem dP_startOf_38 : decode mP_startOf.2.1 38 = .ok (.istore 5, 2) := by decide +kernel
theorem dP_startOf_40 : decode mP_startOf.2.1 40 = .ok (.iload_n 3, 1) := by decide +kernel
theorem dP_startOf_41 : decode mP_startOf.2.1 41 = .ok (.ifCond .ne 5, 3) := by decide +kernel
theorem dP_startOf_44 : decode mP_startOf.2.1 44 = .ok (.iconst 0, 1) := by decide +kernel
theorem dP_startOf_45 : decode mP_startOf.2.1 45 = .ok (.ireturn, 1) := by decide +kernel
theorem dP_startOf_46 : decode mP_startOf.2.1 46 = .ok (.iload 5, 2) := by decide +kernel
theorem dP_startOf_48 : decode mP_startOf.2.1 48 = .ok (.ifCond .eq 14, 3) := by decide +kernel
theorem dP_startOf_51 : decode mP_startOf.2.1 51 = .ok (.iload 4, 2) := by decide +kernel
theorem dP_startOf_53 : decode mP_startOf.2.1 53 = .ok (.ifCond .ne 11, 3) := by decide +kernel
theorem dP_startOf_56 : decode mP_startOf.2.1 56 = .ok (.iload 5, 2) := by decide +kernel
theorem dP_startOf_58 : decode mP_startOf.2.1 58 = .ok (.iload_n 3, 1) := by decide +kernel
theorem dP_startOf_59 : decode mP_startOf.2.1 59 = .ok (.if_icmp .eq 5, 3) := by decide +kernel
theorem dP_startOf_62 : decode mP_startOf.2.1 62 = .ok (.iconst (-1), 1) := by decide +kernel
theorem dP_startOf_63 : decode mP_startOf.2.1 63 = .ok (.ireturn, 1) := by decide +kernel
theorem dP_startOf_64 : decode mP_startOf.2.1 64 = .ok (.ldc 61, 2) := by decide +kernel
theorem dP_startOf_66 : decode mP_startOf.2.1 66 = .ok (.istore 6, 2) := by decide +kernel
theorem dP_startOf_68 : decode mP_startOf.2.1 68 = .ok (.iconst 0, 1) := by decide +kernel
theorem dP_startOf_69 : decode mP_startOf.2.1 69 = .ok (.istore 7, 2) := by decide +kernel
theorem dP_startOf_71 : decode mP_startOf.2.1 71 = .ok (.iconst 0, 1) := by decide +kernel
theorem dP_startOf_72 : decode mP_startOf.2.1 72 = .ok (.istore 8, 2) := by decide +kernel
theorem dP_startOf_74 : decode mP_startOf.2.1 74 = .ok (.iload 8, 2) := by decide +kernel
theorem dP_startOf_76 : decode mP_startOf.2.1 76 = .ok (.iload_n 1, 1) := by decide +kernel
theorem dP_startOf_77 : decode mP_startOf.2.1 77 = .ok (.if_icmp .ge 47, 3) := by decide +kernel
theorem dP_startOf_80 : decode mP_startOf.2.1 80 = .ok (.iload 5, 2) := by decide +kernel
theorem dP_startOf_82 : decode mP_startOf.2.1 82 = .ok (.iload 8, 2) := by decide +kernel
theorem dP_startOf_84 : decode mP_startOf.2.1 84 = .ok (.ishr, 1) := by decide +kernel
theorem dP_startOf_85 : decode mP_startOf.2.1 85 = .ok (.iconst 1, 1) := by decide +kernel
theorem dP_startOf_86 : decode mP_startOf.2.1 86 = .ok (.iand, 1) := by decide +kernel
theorem dP_startOf_87 : decode mP_startOf.2.1 87 = .ok (.iconst 1, 1) := by decide +kernel
theorem dP_startOf_88 : decode mP_startOf.2.1 88 = .ok (.if_icmp .ne 30, 3) := by decide +kernel
theorem dP_startOf_91 : decode mP_startOf.2.1 91 = .ok (.aload_n 0, 1) := by decide +kernel
theorem dP_startOf_92 : decode mP_startOf.2.1 92 = .ok (.iload_n 2, 1) := by decide +kernel
theorem dP_startOf_93 : decode mP_startOf.2.1 93 = .ok (.iload 8, 2) := by decide +kernel
theorem dP_startOf_95 : decode mP_startOf.2.1 95 = .ok (.invokevirtual 49, 3) := by decide +kernel
theorem dP_startOf_98 : decode mP_startOf.2.1 98 = .ok (.istore 9, 2) := by decide +kernel
theorem dP_startOf_100 : decode mP_startOf.2.1 100 = .ok (.iload 6, 2) := by decide +kernel
theorem dP_startOf_102 : decode mP_startOf.2.1 102 = .ok (.iload 9, 2) := by decide +kernel
theorem dP_startOf_104 : decode mP_startOf.2.1 104 = .ok (.invokestatic 62, 3) := by decide +kernel
theorem dP_startOf_107 : decode mP_startOf.2.1 107 = .ok (.istore 6, 2) := by decide +kernel
theorem dP_startOf_109 : decode mP_startOf.2.1 109 = .ok (.iload 7, 2) := by decide +kernel
theorem dP_startOf_111 : decode mP_startOf.2.1 111 = .ok (.iload 9, 2) := by decide +kernel
theorem dP_startOf_113 : decode mP_startOf.2.1 113 = .ok (.invokestatic 67, 3) := by decide +kernel
theorem dP_startOf_116 : decode mP_startOf.2.1 116 = .ok (.istore 7, 2) := by decide +kernel
theorem dP_startOf_118 : decode mP_startOf.2.1 118 = .ok (.iinc 8 1, 3) := by decide +kernel
theorem dP_startOf_121 : decode mP_startOf.2.1 121 = .ok (.goto (-47), 3) := by decide +kernel
theorem dP_startOf_124 : decode mP_startOf.2.1 124 = .ok (.iload 4, 2) := by decide +kernel
theorem dP_startOf_126 : decode mP_startOf.2.1 126 = .ok (.ifCond .eq 8, 3) := by decide +kernel
theorem dP_startOf_129 : decode mP_startOf.2.1 129 = .ok (.iload 6, 2) := by decide +kernel
theorem dP_startOf_131 : decode mP_startOf.2.1 131 = .ok (.goto 5, 3) := by decide +kernel
theorem dP_startOf_134 : decode mP_startOf.2.1 134 = .ok (.iload 7, 2) := by decide +kernel
theorem dP_startOf_136 : decode mP_startOf.2.1 136 = .ok (.ireturn, 1) := by decide +kernel
/- P_startOf: (II)I -/
set_option maxRecDepth 4000 in
theorem wP_startOf {X : Cx} (a1 a2 : Int) (sw : Bool) (m : Mem) (Q : Int → Bool → Mem → Prop) (h : M2 X 2 mK_told [vr 2, vi a1, vi 0] sw m (fun z1 sw1 m1 => M2 X 2 mK_told [vr 2, vi a1, vi 1] sw1 m1 (fun z2 sw2 m2 => ((¬ w32 z2 = 1 → ((0 ≤ w32 a2 ∧ w32 a2 < 512) ∧ ((¬ w32 z1 = 0 → ((w32 (zand z1 (m2 34 (w32 a2))) = 0 → Q (-1) sw2 m2) ∧ (¬ (w32 (zand z1 (m2 34 (w32 a2))) = 0) → ((w32 (zand z1 (m2 34 (w32 a2))) = w32 z1 → R2 X 3 mP_startOf 74 [(0, vr 23), (1, vi a1), (2, vi a2), (4, vi 0), (5, vi (zand z1 (m2 34 (w32 a2)))), (6, vi 2147483647), (7, vi 0), (8, vi 0)] [] sw2 m2 Q) ∧ (¬ (w32 (zand z1 (m2 34 (w32 a2))) = w32 z1) → Q (-1) sw2 m2))))) ∧ (¬ (¬ w32 z1 = 0) → Q 0 sw2 m2)))) ∧ (¬ (¬ w32 z2 = 1) → ((0 ≤ w32 a2 ∧ w32 a2 < 512) ∧ ((¬ w32 z1 = 0 → ((w32 (zand z1 (m2 34 (w32 a2))) = 0 → Q (-1) sw2 m2) ∧ (¬ (w32 (zand z1 (m2 34 (w32 a2))) = 0) → R2 X 3 mP_startOf 74 [(0, vr 23), (1, vi a1), (2, vi a2), (4, vi 1), (5, vi (zand z1 (m2 34 (w32 a2)))), (6, vi 2147483647), (7, vi 0), (8, vi 0)] [] sw2 m2 Q))) ∧ (¬ (¬ w32 z1 = 0) → Q 0 sw2 m2)))))))) : M2 X 3 mP_startOf [vr 23, vi a1, vi a2] sw m Q := by
  refine Mt.of pP_startOf (Nat.le_of_ble_eq_true rfl) (Nat.le_refl _) ?_
  show R2 X 3 mP_startOf 0 [(0, vr 23), (1, vi a1), (2, vi a2)] [] sw m Q
  refine r_aload_n 0 0 rfl dP_startOf_0 rfl ?_
  refine q_getR 0 c23 fP_33 rfl rfl (g23_0 sw) (by decide) dP_startOf_1 ?_
  refine r_iload_n 1 1 rfl dP_startOf_4 rfl ?_
  refine r_iconst dP_startOf_5 ?_
  refine r_callVi 1 [_, _] rfl c2 rfl rfl oK_told iK_told sK_told yP_53 (by decide) ⟨Nat.le_refl _, Nat.le_refl _⟩ rfl (Nat.le_of_ble_eq_true rfl) dP_startOf_6 h (fun z1 r1 m1 h => ?_)
  obtain ⟨sw1, rfl, h⟩ := h
  refine r_istore_n 3 (by decide) dP_startOf_9 rfl ?_
  refine r_aload_n 0 1 rfl dP_startOf_10 rfl ?_
  refine q_getR 0 c23 fP_33 rfl rfl (g23_0 sw1) (by decide) dP_startOf_11 ?_
  refine r_iload_n 1 2 rfl dP_startOf_14 rfl ?_
  refine r_iconst dP_startOf_15 ?_
  refine r_callVi 1 [_, _] rfl c2 rfl rfl oK_told iK_told sK_told yP_53 (by decide) ⟨Nat.le_refl _, Nat.le_refl _⟩ rfl (Nat.le_of_ble_eq_true rfl) dP_startOf_16 h (fun z2 r2 m2 h => ?_)
  obtain ⟨sw2, rfl, h⟩ := h
  refine r_iconst dP_startOf_19 ?_
  refine r_ifc_ne (tgt := 27) dP_startOf_20 (by decide) (fun hc => ?_) (fun hc => ?_)
  · replace h := h.1 hc
    refine r_iconst dP_startOf_27 ?_
    refine r_istore 4 (by decide) dP_startOf_28 ?_
    refine r_iload_n 3 1 rfl dP_startOf_30 rfl ?_
    refine r_aload_n 0 2 rfl dP_startOf_31 rfl ?_
    refine q_getR 2 c23 fP_16 rfl rfl (g23_2 sw2) (by decide) dP_startOf_32 ?_
    refine r_iload_n 2 4 rfl dP_startOf_35 rfl ?_
    refine q_iaload (w32 a2) rfl c34 h.1 dP_startOf_36 ?_
    replace h := h.2
    refine r_iand dP_startOf_37 ?_
    refine r_istore 5 (by decide) dP_startOf_38 ?_
    refine r_iload_n 3 2 rfl dP_startOf_40 rfl ?_
    refine r_if_ne (tgt := 46) dP_startOf_41 (by decide) (fun hc => ?_) (fun hc => ?_)
    · replace h := h.1 hc
      refine r_iload 5 0 rfl dP_startOf_46 ?_
      refine r_if_eq (tgt := 62) dP_startOf_48 (by decide) (fun hc => ?_) (fun hc => ?_)
      · replace h := h.1 hc
        refine r_iconst dP_startOf_62 ?_
        exact q_iret rfl h dP_startOf_63
      · replace h := h.2 hc
        refine r_iload 4 1 rfl dP_startOf_51 ?_
        refine r_if_ne (tgt := 64) dP_startOf_53 (by decide) (fun q => absurd (show ¬ w32 0 = 0 from q) (by decide)) (fun _ => ?_)
        refine r_iload 5 0 rfl dP_startOf_56 ?_
        refine r_iload_n 3 2 rfl dP_startOf_58 rfl ?_
        refine r_ifc_eq (tgt := 64) dP_startOf_59 (by decide) (fun hc => ?_) (fun hc => ?_)
        · replace h := h.1 hc
          refine r_ldc (z := 2147483647) dP_startOf_64 kP_61 ?_
          refine r_istore 6 (by decide) dP_startOf_66 ?_
          refine r_iconst dP_startOf_68 ?_
          refine r_istore 7 (by decide) dP_startOf_69 ?_
          refine r_iconst dP_startOf_71 ?_
          refine r_istore 8 (by decide) dP_startOf_72 ?_
          refine r_sub [6, 7, 8, 4, 3, 2, 1, 0] ?_ h
          rfl
        · replace h := h.2 hc
          refine r_iconst dP_startOf_62 ?_
          exact q_iret rfl h dP_startOf_63
    · replace h := h.2 hc
      refine r_iconst dP_startOf_44 ?_
      exact q_iret rfl h dP_startOf_45
  · replace h := h.2 hc
    refine r_iconst dP_startOf_23 ?_
    refine r_goto (tgt := 28) dP_startOf_24 (by decide) ?_
    refine r_istore 4 (by decide) dP_startOf_28 ?_
    refine r_iload_n 3 1 rfl dP_startOf_30 rfl ?_
    refine r_aload_n 0 2 rfl dP_startOf_31 rfl ?_
    refine q_getR 2 c23 fP_16 rfl rfl (g23_2 sw2) (by decide) dP_startOf_32 ?_
    refine r_iload_n 2 4 rfl dP_startOf_35 rfl ?_
    refine q_iaload (w32 a2) rfl c34 h.1 dP_startOf_36 ?_
    replace h := h.2
    refine r_iand dP_startOf_37 ?_
    refine r_istore 5 (by decide) dP_startOf_38 ?_
    refine r_iload_n 3 2 rfl dP_startOf_40 rfl ?_
    refine r_if_ne (tgt := 46) dP_startOf_41 (by decide) (fun hc => ?_) (fun hc => ?_)
    · replace h := h.1 hc
      refine r_iload 5 0 rfl dP_startOf_46 ?_
      refine r_if_eq (tgt := 62) dP_startOf_48 (by decide) (fun hc => ?_) (fun hc => ?_)
      · replace h := h.1 hc
        refine r_iconst dP_startOf_62 ?_
        exact q_iret rfl h dP_startOf_63
      · replace h := h.2 hc
        refine r_iload 4 1 rfl dP_startOf_51 ?_
        refine r_if_ne (tgt := 64) dP_startOf_53 (by decide) (fun _ => ?_) (fun q => absurd (show ¬ w32 1 = 0 by decide) q)
        refine r_ldc (z := 2147483647) dP_startOf_64 kP_61 ?_
        refine r_istore 6 (by decide) dP_startOf_66 ?_
        refine r_iconst dP_startOf_68 ?_
        refine r_istore 7 (by decide) dP_startOf_69 ?_
        refine r_iconst dP_startOf_71 ?_
        refine r_istore 8 (by decide) dP_startOf_72 ?_
        refine r_sub [6, 7, 8, 4, 3, 2, 1, 0] ?_ h
        rfl
    · replace h := h.2 hc
      refine r_iconst dP_startOf_44 ?_
      exact q_iret rfl h dP_startOf_45
set_option maxRecDepth 4000 in
theorem wP_startOf_74 {X : Cx} (x1 x2 x4 x5 x6 x7 x8 : Int) (sw : Bool) (m : Mem) (Q : Int → Bool → Mem → Prop) (h : ((w32 x1 ≤ w32 x8 → ((w32 x4 = 0 → Q x7 sw m) ∧ (¬ (w32 x4 = 0) → Q x6 sw m))) ∧ (¬ (w32 x1 ≤ w32 x8) → ((¬ w32 (zand (zshr x5 x8) 1) = 1 → R2 X 3 mP_startOf 74 [(0, vr 23), (1, vi x1), (2, vi x2), (4, vi x4), (5, vi x5), (6, vi x6), (7, vi x7), (8, vi (x8 + 1))] [] sw m Q) ∧ (¬ (¬ w32 (zand (zshr x5 x8) 1) = 1) → M2 X 2 mP_minuteOf [vr 23, vi x2, vi x8] sw m (fun z1 sw1 m1 => R2 X 3 mP_startOf 74 [(0, vr 23), (1, vi x1), (2, vi x2), (4, vi x4), (5, vi x5), (6, vi (min (w32 x6) (w32 z1))), (7, vi (max (w32 x7) (w32 z1))), (8, vi (x8 + 1))] [] sw1 m1 Q)))))) : R2 X 3 mP_startOf 74 [(0, vr 23), (1, vi x1), (2, vi x2), (4, vi x4), (5, vi x5), (6, vi x6), (7, vi x7), (8, vi x8)] [] sw m Q := by
  refine r_iload 8 7 rfl dP_startOf_74 ?_
  refine r_iload_n 1 1 rfl dP_startOf_76 rfl ?_
  refine r_ifc_ge (tgt := 124) dP_startOf_77 (by decide) (fun hc => ?_) (fun hc => ?_)
  · replace h := h.1 hc
    refine r_iload 4 3 rfl dP_startOf_124 ?_
    refine r_if_eq (tgt := 134) dP_startOf_126 (by decide) (fun hc => ?_) (fun hc => ?_)
    · replace h := h.1 hc
      refine r_iload 7 6 rfl dP_startOf_134 ?_
      exact q_iret rfl h dP_startOf_136
    · replace h := h.2 hc
      refine r_iload 6 5 rfl dP_startOf_129 ?_
      refine r_goto (tgt := 136) dP_startOf_131 (by decide) ?_
      exact q_iret rfl h dP_startOf_136
  · replace h := h.2 hc
    refine r_iload 5 4 rfl dP_startOf_80 ?_
    refine r_iload 8 7 rfl dP_startOf_82 ?_
    refine r_ishr dP_startOf_84 ?_
    refine r_iconst dP_startOf_85 ?_
    refine r_iand dP_startOf_86 ?_
    refine r_iconst dP_startOf_87 ?_
    refine r_ifc_ne (tgt := 118) dP_startOf_88 (by decide) (fun hc => ?_) (fun hc => ?_)
    · replace h := h.1 hc
      refine r_iinc 8 7 rfl (by decide) dP_startOf_118 ?_
      refine r_goto (tgt := 74) dP_startOf_121 (by decide) ?_
      refine r_sub [1, 2, 3, 4, 5, 6, 7, 0] ?_ h
      rfl
    · replace h := h.2 hc
      refine r_aload_n 0 0 rfl dP_startOf_91 rfl ?_
      refine r_iload_n 2 2 rfl dP_startOf_92 rfl ?_
      refine r_iload 8 7 rfl dP_startOf_93 ?_
      refine r_callVi 3 [_, _] rfl c23 rfl rfl oP_minuteOf iP_minuteOf sP_minuteOf yP_49 (by decide) ⟨Nat.le_refl _, Nat.le_refl _⟩ rfl (Nat.le_of_ble_eq_true rfl) dP_startOf_95 h (fun z1 r1 m1 h => ?_)
      obtain ⟨sw1, rfl, h⟩ := h
      refine r_istore 9 (by decide) dP_startOf_98 ?_
      refine r_iload 6 6 rfl dP_startOf_100 ?_
      refine r_iload 9 0 rfl dP_startOf_102 ?_
      refine r_min yP_62 kS_min kMathI kC_min (by decide) (Nat.le_of_ble_eq_true rfl) dP_startOf_104 ?_
      refine r_istore 6 (by decide) dP_startOf_107 ?_
      refine r_iload 7 7 rfl dP_startOf_109 ?_
      refine r_iload 9 1 rfl dP_startOf_111 ?_
      refine r_max yP_67 kS_max kMathI kC_max (by decide) (Nat.le_of_ble_eq_true rfl) dP_startOf_113 ?_
      refine r_istore 7 (by decide) dP_startOf_116 ?_
      refine r_iinc 8 8 rfl (by decide) dP_startOf_118 ?_
      refine r_goto (tgt := 74) dP_startOf_121 (by decide) ?_
      refine r_sub [4, 5, 6, 7, 8, 2, 1, 0] ?_ h
      rfl
theorem dP_minuteOf_0 : decode mP_minuteOf.2.1 0 = .ok (.aload_n 0, 1) := by decide +kernel
theorem dP_minuteOf_1 : decode mP_minuteOf.2.1 1 = .ok (.getfield 33, 3) := by decide +kernel
theorem dP_minuteOf_4 : decode mP_minuteOf.2.1 4 = .ok (.iload_n 2, 1) := by decide +kernel
theorem dP_minuteOf_5 : decode mP_minuteOf.2.1 5 = .ok (.invokevirtual 70, 3) := by decide +kernel
theorem dP_minuteOf_8 : decode mP_minuteOf.2.1 8 = .ok (.ifCond .eq 20, 3) := by decide +kernel
theorem dP_minuteOf_11 : decode mP_minuteOf.2.1 11 = .ok (.aload_n 0, 1) := by decide +kernel
theorem dP_minuteOf_12 : decode mP_minuteOf.2.1 12 = .ok (.getfield 11, 3) := by decide +kernel
theorem dP_minuteOf_15 : decode mP_minuteOf.2.1 15 = .ok (.iload_n 2, 1) := by decide +kernel
theorem dP_minuteOf_16 : decode mP_minuteOf.2.1 16 = .ok (.aaload, 1) := by decide +kernel
theorem dP_minuteOf_17 : decode mP_minuteOf.2.1 17 = .ok (.iload_n 1, 1) := by decide +kernel
theorem dP_minuteOf_18 : decode mP_minuteOf.2.1 18 = .ok (.iconst 2, 1) := by decide +kernel
theorem dP_minuteOf_19 : decode mP_minuteOf.2.1 19 = .ok (.iload_n 2, 1) := by decide +kernel
theorem dP_minuteOf_20 : decode mP_minuteOf.2.1 20 = .ok (.ishl, 1) := by decide +kernel
theorem dP_minuteOf_21 : decode mP_minuteOf.2.1 21 = .ok (.iconst 1, 1) := by decide +kernel
theorem dP_minuteOf_22 : decode mP_minuteOf.2.1 22 = .ok (.isub, 1) := by decide +kernel
theorem dP_minuteOf_23 : decode mP_minuteOf.2.1 23 = .ok (.iand, 1) := by decide +kernel
theorem dP_minuteOf_24 : decode mP_minuteOf.2.1 24 = .ok (.iaload, 1) := by decide +kernel
theorem dP_minuteOf_25 : decode mP_minuteOf.2.1 25 = .ok (.goto 4, 3) := by decide +kernel
theorem dP_minuteOf_28 : decode mP_minuteOf.2.1 28 = .ok (.iconst (-1), 1) := by decide +kernel
theorem dP_minuteOf_29 : decode mP_minuteOf.2.1 29 = .ok (.ireturn, 1) := by decide +kernel
/- P_minuteOf: (II)I -/
set_option maxRecDepth 4000 in
theorem wP_minuteOf {X : Cx} (a1 a2 : Int) (sw : Bool) (m : Mem) (Q : Int → Bool → Mem → Prop) (h : M2 X 1 mK_has [vr 2, vi a2] sw m (fun z1 sw1 m1 => ((w32 z1 = 0 → Q (-1) sw1 m1) ∧ (¬ (w32 z1 = 0) → ((0 ≤ w32 a2 ∧ w32 a2 < 9) ∧ ((0 ≤ w32 (zand a1 ((zshl 2 a2) - 1)) ∧ w32 (zand a1 ((zshl 2 a2) - 1)) < 512) ∧ Q (m1 (25 + w32 a2) (w32 (zand a1 ((zshl 2 a2) - 1)))) sw1 m1)))))) : M2 X 2 mP_minuteOf [vr 23, vi a1, vi a2] sw m Q := by
  refine Mt.of pP_minuteOf (Nat.le_of_ble_eq_true rfl) (Nat.le_refl _) ?_
  show R2 X 2 mP_minuteOf 0 [(0, vr 23), (1, vi a1), (2, vi a2)] [] sw m Q
  refine r_aload_n 0 0 rfl dP_minuteOf_0 rfl ?_
  refine q_getR 0 c23 fP_33 rfl rfl (g23_0 sw) (by decide) dP_minuteOf_1 ?_
  refine r_iload_n 2 2 rfl dP_minuteOf_4 rfl ?_
  refine r_callVb 1 [_] rfl c2 rfl rfl oK_has iK_has sK_has yP_70 (by decide) ⟨Nat.le_refl _, Nat.le_refl _⟩ rfl (Nat.le_of_ble_eq_true rfl) dP_minuteOf_5 h (fun z1 r1 m1 h => ?_)
  obtain ⟨sw1, rfl, h⟩ := h
  refine r_if_eq (tgt := 28) dP_minuteOf_8 (by decide) (fun hc => ?_) (fun hc => ?_)
  · replace h := h.1 hc
    refine r_iconst dP_minuteOf_28 ?_
    exact q_iret rfl h dP_minuteOf_29
  · replace h := h.2 hc
    refine r_aload_n 0 0 rfl dP_minuteOf_11 rfl ?_
    refine q_getR 1 c23 fP_11 rfl rfl (g23_1 sw1) (by decide) dP_minuteOf_12 ?_
    refine r_iload_n 2 2 rfl dP_minuteOf_15 rfl ?_
    have hi1 := h.1
    replace h := h.2
    refine q_aaload (w32 a2) (by decide) rfl c24 hi1 (gr24 sw1 hi1) (nr24 hi1) dP_minuteOf_16 ?_
    refine r_iload_n 1 1 rfl dP_minuteOf_17 rfl ?_
    refine r_iconst dP_minuteOf_18 ?_
    refine r_iload_n 2 2 rfl dP_minuteOf_19 rfl ?_
    refine r_ishl dP_minuteOf_20 ?_
    refine r_iconst dP_minuteOf_21 ?_
    refine r_isub dP_minuteOf_22 ?_
    refine r_iand dP_minuteOf_23 ?_
    refine q_iaload (w32 (zand a1 ((zshl 2 a2) - 1))) rfl (cr24 hi1) h.1 dP_minuteOf_24 ?_
    replace h := h.2
    refine r_goto (tgt := 29) dP_minuteOf_25 (by decide) ?_
    exact q_iret rfl h dP_minuteOf_29
theorem dP_endOf_0 : decode mP_endOf.2.1 0 = .ok (.aload_n 0, 1) := by decide +kernel
theorem dP_endOf_1 : decode mP_endOf.2.1 1 = .ok (.getfield 23, 3) := by decide +kernel
theorem dP_endOf_4 : decode mP_endOf.2.1 4 = .ok (.iload_n 1, 1) := by decide +kernel
theorem dP_endOf_5 : decode mP_endOf.2.1 5 = .ok (.aload_n 0, 1) := by decide +kernel
theorem dP_endOf_6 : decode mP_endOf.2.1 6 = .ok (.getfield 26, 3) := by decide +kernel
theorem dP_endOf_9 : decode mP_endOf.2.1 9 = .ok (.iconst 1, 1) := by decide +kernel
theorem dP_endOf_10 : decode mP_endOf.2.1 10 = .ok (.isub, 1) := by decide +kernel
theorem dP_endOf_11 : decode mP_endOf.2.1 11 = .ok (.iand, 1) := by decide +kernel
theorem dP_endOf_12 : decode mP_endOf.2.1 12 = .ok (.iaload, 1) := by decide +kernel
theorem dP_endOf_13 : decode mP_endOf.2.1 13 = .ok (.ireturn, 1) := by decide +kernel
/- P_endOf: (I)I -/
set_option maxRecDepth 4000 in
theorem wP_endOf {X : Cx} (a1 : Int) (sw : Bool) (m : Mem) (Q : Int → Bool → Mem → Prop) (h : ((0 ≤ w32 (zand a1 ((m 23 5) - 1)) ∧ w32 (zand a1 ((m 23 5) - 1)) < 512) ∧ Q (m 36 (w32 (zand a1 ((m 23 5) - 1)))) sw m)) : M2 X 1 mP_endOf [vr 23, vi a1] sw m Q := by
  refine Mt.of pP_endOf (Nat.le_of_ble_eq_true rfl) (Nat.le_refl _) ?_
  show R2 X 1 mP_endOf 0 [(0, vr 23), (1, vi a1)] [] sw m Q
  refine r_aload_n 0 0 rfl dP_endOf_0 rfl ?_
  refine q_getR 4 c23 fP_23 rfl rfl (g23_4 sw) (by decide) dP_endOf_1 ?_
  refine r_iload_n 1 1 rfl dP_endOf_4 rfl ?_
  refine r_aload_n 0 0 rfl dP_endOf_5 rfl ?_
  refine q_getI 5 c23 fP_26 rfl rfl dP_endOf_6 ?_
  refine r_iconst dP_endOf_9 ?_
  refine r_isub dP_endOf_10 ?_
  refine r_iand dP_endOf_11 ?_
  refine q_iaload (w32 (zand a1 ((m 23 5) - 1))) rfl c36 h.1 dP_endOf_12 ?_
  replace h := h.2
  exact q_iret rfl h dP_endOf_13
theorem dP_goersOf_0 : decode mP_goersOf.2.1 0 = .ok (.aload_n 0, 1) := by decide +kernel
theorem dP_goersOf_1 : decode mP_goersOf.2.1 1 = .ok (.getfield 16, 3) := by decide +kernel
theorem dP_goersOf_4 : decode mP_goersOf.2.1 4 = .ok (.iload_n 1, 1) := by decide +kernel
theorem dP_goersOf_5 : decode mP_goersOf.2.1 5 = .ok (.aload_n 0, 1) := by decide +kernel
theorem dP_goersOf_6 : decode mP_goersOf.2.1 6 = .ok (.getfield 26, 3) := by decide +kernel
theorem dP_goersOf_9 : decode mP_goersOf.2.1 9 = .ok (.iconst 1, 1) := by decide +kernel
theorem dP_goersOf_10 : decode mP_goersOf.2.1 10 = .ok (.isub, 1) := by decide +kernel
theorem dP_goersOf_11 : decode mP_goersOf.2.1 11 = .ok (.iand, 1) := by decide +kernel
theorem dP_goersOf_12 : decode mP_goersOf.2.1 12 = .ok (.iaload, 1) := by decide +kernel
theorem dP_goersOf_13 : decode mP_goersOf.2.1 13 = .ok (.ireturn, 1) := by decide +kernel
/- P_goersOf: (I)I -/
set_option maxRecDepth 4000 in
theorem wP_goersOf {X : Cx} (a1 : Int) (sw : Bool) (m : Mem) (Q : Int → Bool → Mem → Prop) (h : ((0 ≤ w32 (zand a1 ((m 23 5) - 1)) ∧ w32 (zand a1 ((m 23 5) - 1)) < 512) ∧ Q (m 34 (w32 (zand a1 ((m 23 5) - 1)))) sw m)) : M2 X 1 mP_goersOf [vr 23, vi a1] sw m Q := by
  refine Mt.of pP_goersOf (Nat.le_of_ble_eq_true rfl) (Nat.le_refl _) ?_
  show R2 X 1 mP_goersOf 0 [(0, vr 23), (1, vi a1)] [] sw m Q
  refine r_aload_n 0 0 rfl dP_goersOf_0 rfl ?_
  refine q_getR 2 c23 fP_16 rfl rfl (g23_2 sw) (by decide) dP_goersOf_1 ?_
  refine r_iload_n 1 1 rfl dP_goersOf_4 rfl ?_
  refine r_aload_n 0 0 rfl dP_goersOf_5 rfl ?_
  refine q_getI 5 c23 fP_26 rfl rfl dP_goersOf_6 ?_
  refine r_iconst dP_goersOf_9 ?_
  refine r_isub dP_goersOf_10 ?_
  refine r_iand dP_goersOf_11 ?_
  refine q_iaload (w32 (zand a1 ((m 23 5) - 1))) rfl c34 h.1 dP_goersOf_12 ?_
  replace h := h.2
  exact q_iret rfl h dP_goersOf_13
theorem dP_stuckOf_0 : decode mP_stuckOf.2.1 0 = .ok (.aload_n 0, 1) := by decide +kernel
theorem dP_stuckOf_1 : decode mP_stuckOf.2.1 1 = .ok (.getfield 20, 3) := by decide +kernel
theorem dP_stuckOf_4 : decode mP_stuckOf.2.1 4 = .ok (.iload_n 1, 1) := by decide +kernel
theorem dP_stuckOf_5 : decode mP_stuckOf.2.1 5 = .ok (.aload_n 0, 1) := by decide +kernel
theorem dP_stuckOf_6 : decode mP_stuckOf.2.1 6 = .ok (.getfield 26, 3) := by decide +kernel
theorem dP_stuckOf_9 : decode mP_stuckOf.2.1 9 = .ok (.iconst 1, 1) := by decide +kernel
theorem dP_stuckOf_10 : decode mP_stuckOf.2.1 10 = .ok (.isub, 1) := by decide +kernel
theorem dP_stuckOf_11 : decode mP_stuckOf.2.1 11 = .ok (.iand, 1) := by decide +kernel
theorem dP_stuckOf_12 : decode mP_stuckOf.2.1 12 = .ok (.iaload, 1) := by decide +kernel
theorem dP_stuckOf_13 : decode mP_stuckOf.2.1 13 = .ok (.ireturn, 1) := by decide +kernel
/- P_stuckOf: (I)I -/
set_option maxRecDepth 4000 in
theorem wP_stuckOf {X : Cx} (a1 : Int) (sw : Bool) (m : Mem) (Q : Int → Bool → Mem → Prop) (h : ((0 ≤ w32 (zand a1 ((m 23 5) - 1)) ∧ w32 (zand a1 ((m 23 5) - 1)) < 512) ∧ Q (m 35 (w32 (zand a1 ((m 23 5) - 1)))) sw m)) : M2 X 1 mP_stuckOf [vr 23, vi a1] sw m Q := by
  refine Mt.of pP_stuckOf (Nat.le_of_ble_eq_true rfl) (Nat.le_refl _) ?_
  show R2 X 1 mP_stuckOf 0 [(0, vr 23), (1, vi a1)] [] sw m Q
  refine r_aload_n 0 0 rfl dP_stuckOf_0 rfl ?_
  refine q_getR 3 c23 fP_20 rfl rfl (g23_3 sw) (by decide) dP_stuckOf_1 ?_
  refine r_iload_n 1 1 rfl dP_stuckOf_4 rfl ?_
  refine r_aload_n 0 0 rfl dP_stuckOf_5 rfl ?_
  refine q_getI 5 c23 fP_26 rfl rfl dP_stuckOf_6 ?_
  refine r_iconst dP_stuckOf_9 ?_
  refine r_isub dP_stuckOf_10 ?_
  refine r_iand dP_stuckOf_11 ?_
  refine q_iaload (w32 (zand a1 ((m 23 5) - 1))) rfl c35 h.1 dP_stuckOf_12 ?_
  replace h := h.2
  exact q_iret rfl h dP_stuckOf_13
