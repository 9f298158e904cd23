theorem dG_tell_0 : decode mG_tell.2.1 0 = .ok (.aload_n 0, 1) := by decide +kernel
theorem dG_tell_1 : decode mG_tell.2.1 1 = .ok (.getfield 28, 3) := by decide +kernel
theorem dG_tell_4 : decode mG_tell.2.1 4 = .ok (.bipush 40, 2) := by decide +kernel
theorem dG_tell_6 : decode mG_tell.2.1 6 = .ok (.if_icmp .lt 7, 3) := by decide +kernel
theorem dG_tell_9 : decode mG_tell.2.1 9 = .ok (.aload_n 0, 1) := by decide +kernel
theorem dG_tell_10 : decode mG_tell.2.1 10 = .ok (.invokevirtual 32, 3) := by decide +kernel
theorem dG_tell_13 : decode mG_tell.2.1 13 = .ok (.aload_n 0, 1) := by decide +kernel
theorem dG_tell_14 : decode mG_tell.2.1 14 = .ok (.getfield 11, 3) := by decide +kernel
theorem dG_tell_17 : decode mG_tell.2.1 17 = .ok (.aload_n 0, 1) := by decide +kernel
theorem dG_tell_18 : decode mG_tell.2.1 18 = .ok (.getfield 28, 3) := by decide +kernel
theorem dG_tell_21 : decode mG_tell.2.1 21 = .ok (.iload_n 1, 1) := by decide +kernel
theorem dG_tell_22 : decode mG_tell.2.1 22 = .ok (.iastore, 1) := by decide +kernel
theorem dG_tell_23 : decode mG_tell.2.1 23 = .ok (.aload_n 0, 1) := by decide +kernel
theorem dG_tell_24 : decode mG_tell.2.1 24 = .ok (.getfield 15, 3) := by decide +kernel
theorem dG_tell_27 : decode mG_tell.2.1 27 = .ok (.aload_n 0, 1) := by decide +kernel
theorem dG_tell_28 : decode mG_tell.2.1 28 = .ok (.getfield 28, 3) := by decide +kernel
theorem dG_tell_31 : decode mG_tell.2.1 31 = .ok (.iload_n 2, 1) := by decide +kernel
theorem dG_tell_32 : decode mG_tell.2.1 32 = .ok (.iastore, 1) := by decide +kernel
theorem dG_tell_33 : decode mG_tell.2.1 33 = .ok (.aload_n 0, 1) := by decide +kernel
theorem dG_tell_34 : decode mG_tell.2.1 34 = .ok (.getfield 18, 3) := by decide +kernel
theorem dG_tell_37 : decode mG_tell.2.1 37 = .ok (.aload_n 0, 1) := by decide +kernel
theorem dG_tell_38 : decode mG_tell.2.1 38 = .ok (.getfield 28, 3) := by decide +kernel
theorem dG_tell_41 : decode mG_tell.2.1 41 = .ok (.aload_n 0, 1) := by decide +kernel
theorem dG_tell_42 : decode mG_tell.2.1 42 = .ok (.getfield 24, 3) := by decide +kernel
theorem dG_tell_45 : decode mG_tell.2.1 45 = .ok (.iload_n 1, 1) := by decide +kernel
theorem dG_tell_46 : decode mG_tell.2.1 46 = .ok (.iload_n 2, 1) := by decide +kernel
theorem dG_tell_47 : decode mG_tell.2.1 47 = .ok (.invokevirtual 35, 3) := by decide +kernel
theorem dG_tell_50 : decode mG_tell.2.1 50 = .ok (.iastore, 1) := by decide +kernel
theorem dG_tell_51 : decode mG_tell.2.1 51 = .ok (.aload_n 0, 1) := by decide +kernel
theorem dG_tell_52 : decode mG_tell.2.1 52 = .ok (.getfield 21, 3) := by decide +kernel
theorem dG_tell_55 : decode mG_tell.2.1 55 = .ok (.aload_n 0, 1) := by decide +kernel
theorem dG_tell_56 : decode mG_tell.2.1 56 = .ok (.getfield 28, 3) := by decide +kernel
theorem dG_tell_59 : decode mG_tell.2.1 59 = .ok (.iload_n 3, 1) := by decide +kernel
theorem dG_tell_60 : decode mG_tell.2.1 60 = .ok (.iastore, 1) := by decide +kernel
theorem dG_tell_61 : decode mG_tell.2.1 61 = .ok (.aload_n 0, 1) := by decide +kernel
theorem dG_tell_62 : decode mG_tell.2.1 62 = .ok (.getfield 24, 3) := by decide +kernel
theorem dG_tell_65 : decode mG_tell.2.1 65 = .ok (.iload_n 1, 1) := by decide +kernel
theorem dG_tell_66 : decode mG_tell.2.1 66 = .ok (.iload_n 2, 1) := by decide +kernel
theorem dG_tell_67 : decode mG_tell.2.1 67 = .ok (.iload_n 3, 1) := by decide +kernel
theorem dG_tell_68 : decode mG_tell.2.1 68 = .ok (.invokevirtual 41, 3) := by decide +kernel
theorem dG_tell_71 : decode mG_tell.2.1 71 = .ok (.aload_n 0, 1) := by decide +kernel
theorem dG_tell_72 : decode mG_tell.2.1 72 = .ok (.dup, 1) := by decide +kernel
theorem dG_tell_73 : decode mG_tell.2.1 73 = .ok (.getfield 28, 3) := by decide +kernel
theorem dG_tell_76 : decode mG_tell.2.1 76 = .ok (.iconst 1, 1) := by decide +kernel
theorem dG_tell_77 : decode mG_tell.2.1 77 = .ok (.iadd, 1) := by decide +kernel
theorem dG_tell_78 : decode mG_tell.2.1 78 = .ok (.putfield 28, 3) := by decide +kernel
theorem dG_tell_81 : decode mG_tell.2.1 81 = .ok (.aload_n 0, 1) := by decide +kernel
theorem dG_tell_82 : decode mG_tell.2.1 82 = .ok (.aload_n 0, 1) := by decide +kernel
theorem dG_tell_83 : decode mG_tell.2.1 83 = .ok (.getfield 28, 3) := by decide +kernel
theorem dG_tell_86 : decode mG_tell.2.1 86 = .ok (.putfield 45, 3) := by decide +kernel
theorem dG_tell_89 : decode mG_tell.2.1 89 = .ok (.return_, 1) := by decide +kernel
/- G_tell: (III)V -/
set_option maxRecDepth 4000 in
theorem wG_tell {X : Cx} (a1 a2 a3 : Int) (sw : Bool) (m : Mem) (Q : Int → Bool → Mem → Prop) (h : ((w32 (m 64 5) < 40 → ((0 ≤ w32 (m 64 5) ∧ w32 (m 64 5) < 40) ∧ ((0 ≤ w32 (m 64 5) ∧ w32 (m 64 5) < 40) ∧ M2 X 2 mK_told [vr 2, vi a1, vi a2] sw (upm (upm m 65 (w32 (m 64 5)) a1) 66 (w32 (m 64 5)) a2) (fun z1 sw1 m1 => ((0 ≤ w32 (m 64 5) ∧ w32 (m 64 5) < 40) ∧ ((0 ≤ w32 (m1 64 5) ∧ w32 (m1 64 5) < 40) ∧ M2 X 2 mK_write [vr 2, vi a1, vi a2, vi a3] sw1 (upm (upm m1 67 (w32 (m 64 5)) z1) 68 (w32 (m1 64 5)) a3) (fun z2 sw2 m2 => Q 0 sw2 (upm (upm m2 64 5 ((m2 64 5) + 1)) 64 6 ((m2 64 5) + 1))))))))) ∧ (¬ (w32 (m 64 5) < 40) → M2 X 1 mG_forgetOldest [vr 64] sw m (fun z3 sw3 m3 => ((0 ≤ w32 (m3 64 5) ∧ w32 (m3 64 5) < 40) ∧ ((0 ≤ w32 (m3 64 5) ∧ w32 (m3 64 5) < 40) ∧ M2 X 2 mK_told [vr 2, vi a1, vi a2] sw3 (upm (upm m3 65 (w32 (m3 64 5)) a1) 66 (w32 (m3 64 5)) a2) (fun z4 sw4 m4 => ((0 ≤ w32 (m3 64 5) ∧ w32 (m3 64 5) < 40) ∧ ((0 ≤ w32 (m4 64 5) ∧ w32 (m4 64 5) < 40) ∧ M2 X 2 mK_write [vr 2, vi a1, vi a2, vi a3] sw4 (upm (upm m4 67 (w32 (m3 64 5)) z4) 68 (w32 (m4 64 5)) a3) (fun z5 sw5 m5 => Q 0 sw5 (upm (upm m5 64 5 ((m5 64 5) + 1)) 64 6 ((m5 64 5) + 1)))))))))))) : M2 X 3 mG_tell [vr 64, vi a1, vi a2, vi a3] sw m Q := by
  refine Mt.of pG_tell (Nat.le_of_ble_eq_true rfl) (Nat.le_refl _) ?_
  show R2 X 3 mG_tell 0 [(0, vr 64), (1, vi a1), (2, vi a2), (3, vi a3)] [] sw m Q
  refine r_aload_n 0 0 rfl dG_tell_0 rfl ?_
  refine q_getI 5 c64 fG_28 rfl rfl dG_tell_1 ?_
  refine r_bipush (by decide) dG_tell_4 ?_
  refine r_ifc_lt (tgt := 13) dG_tell_6 (by decide) (fun hc => ?_) (fun hc => ?_)
  · replace h := h.1 hc
    refine r_aload_n 0 0 rfl dG_tell_13 rfl ?_
    refine q_getR 1 c64 fG_11 rfl rfl (g64_1 sw) (by decide) dG_tell_14 ?_
    refine r_aload_n 0 0 rfl dG_tell_17 rfl ?_
    refine q_getI 5 c64 fG_28 rfl rfl dG_tell_18 ?_
    refine r_iload_n 1 1 rfl dG_tell_21 rfl ?_
    refine q_iastore (w32 (m 64 5)) rfl c65 h.1 dG_tell_22 ?_
    replace h := h.2
    refine r_aload_n 0 0 rfl dG_tell_23 rfl ?_
    refine q_getR 2 c64 fG_15 rfl rfl (g64_2 sw) (by decide) dG_tell_24 ?_
    refine r_aload_n 0 0 rfl dG_tell_27 rfl ?_
    refine q_getI 5 c64 fG_28 rfl rfl dG_tell_28 ?_
    refine r_iload_n 2 2 rfl dG_tell_31 rfl ?_
    refine q_iastore (w32 (m 64 5)) rfl c66 h.1 dG_tell_32 ?_
    replace h := h.2
    refine r_aload_n 0 0 rfl dG_tell_33 rfl ?_
    refine q_getR 3 c64 fG_18 rfl rfl (g64_3 sw) (by decide) dG_tell_34 ?_
    refine r_aload_n 0 0 rfl dG_tell_37 rfl ?_
    refine q_getI 5 c64 fG_28 rfl rfl dG_tell_38 ?_
    refine r_aload_n 0 0 rfl dG_tell_41 rfl ?_
    refine q_getR 0 c64 fG_24 rfl rfl (g64_0 sw) (by decide) dG_tell_42 ?_
    refine r_iload_n 1 1 rfl dG_tell_45 rfl ?_
    refine r_iload_n 2 2 rfl dG_tell_46 rfl ?_
    refine r_callVi 1 [_, _] rfl c2 rfl rfl oK_told iK_told sK_told yG_35 (by decide) ⟨Nat.le_refl _, Nat.le_refl _⟩ rfl (Nat.le_of_ble_eq_true rfl) dG_tell_47 h (fun z1 r1 m1 h => ?_)
    obtain ⟨sw1, rfl, h⟩ := h
    refine q_iastore (w32 (m 64 5)) rfl c67 h.1 dG_tell_50 ?_
    replace h := h.2
    refine r_aload_n 0 0 rfl dG_tell_51 rfl ?_
    refine q_getR 4 c64 fG_21 rfl rfl (g64_4 sw1) (by decide) dG_tell_52 ?_
    refine r_aload_n 0 0 rfl dG_tell_55 rfl ?_
    refine q_getI 5 c64 fG_28 rfl rfl dG_tell_56 ?_
    refine r_iload_n 3 3 rfl dG_tell_59 rfl ?_
    refine q_iastore (w32 (m1 64 5)) rfl c68 h.1 dG_tell_60 ?_
    replace h := h.2
    refine r_aload_n 0 0 rfl dG_tell_61 rfl ?_
    refine q_getR 0 c64 fG_24 rfl rfl (g64_0 sw1) (by decide) dG_tell_62 ?_
    refine r_iload_n 1 1 rfl dG_tell_65 rfl ?_
    refine r_iload_n 2 2 rfl dG_tell_66 rfl ?_
    refine r_iload_n 3 3 rfl dG_tell_67 rfl ?_
    refine r_callVv 1 [_, _, _] rfl c2 rfl rfl oK_write iK_write sK_write yG_41 (by decide) ⟨Nat.le_refl _, Nat.le_refl _⟩ rfl (Nat.le_of_ble_eq_true rfl) dG_tell_68 h (fun z2 r2 m2 h => ?_)
    obtain ⟨sw2, rfl, h⟩ := h
    refine r_aload_n 0 0 rfl dG_tell_71 rfl ?_
    refine r_dup (fun q => by cases q) dG_tell_72 ?_
    refine q_getI 5 c64 fG_28 rfl rfl dG_tell_73 ?_
    refine r_iconst dG_tell_76 ?_
    refine r_iadd dG_tell_77 ?_
    refine q_putI 5 c64 pfG_28 rfl rfl dG_tell_78 ?_
    refine r_aload_n 0 0 rfl dG_tell_81 rfl ?_
    refine r_aload_n 0 0 rfl dG_tell_82 rfl ?_
    refine q_getI 5 c64 fG_28 rfl rfl dG_tell_83 ?_
    refine q_putI 6 c64 pfG_45 rfl rfl dG_tell_86 ?_
    exact q_vret rfl h dG_tell_89
  · replace h := h.2 hc
    refine r_aload_n 0 0 rfl dG_tell_9 rfl ?_
    refine r_callVv 9 [] rfl c64 rfl rfl oG_forgetOldest iG_forgetOldest sG_forgetOldest yG_32 (by decide) ⟨Nat.le_refl _, Nat.le_refl _⟩ rfl (Nat.le_of_ble_eq_true rfl) dG_tell_10 h (fun z3 r3 m3 h => ?_)
    obtain ⟨sw3, rfl, h⟩ := h
    refine r_aload_n 0 0 rfl dG_tell_13 rfl ?_
    refine q_getR 1 c64 fG_11 rfl rfl (g64_1 sw3) (by decide) dG_tell_14 ?_
    refine r_aload_n 0 0 rfl dG_tell_17 rfl ?_
    refine q_getI 5 c64 fG_28 rfl rfl dG_tell_18 ?_
    refine r_iload_n 1 1 rfl dG_tell_21 rfl ?_
    refine q_iastore (w32 (m3 64 5)) rfl c65 h.1 dG_tell_22 ?_
    replace h := h.2
    refine r_aload_n 0 0 rfl dG_tell_23 rfl ?_
    refine q_getR 2 c64 fG_15 rfl rfl (g64_2 sw3) (by decide) dG_tell_24 ?_
    refine r_aload_n 0 0 rfl dG_tell_27 rfl ?_
    refine q_getI 5 c64 fG_28 rfl rfl dG_tell_28 ?_
    refine r_iload_n 2 2 rfl dG_tell_31 rfl ?_
    refine q_iastore (w32 (m3 64 5)) rfl c66 h.1 dG_tell_32 ?_
    replace h := h.2
    refine r_aload_n 0 0 rfl dG_tell_33 rfl ?_
    refine q_getR 3 c64 fG_18 rfl rfl (g64_3 sw3) (by decide) dG_tell_34 ?_
    refine r_aload_n 0 0 rfl dG_tell_37 rfl ?_
    refine q_getI 5 c64 fG_28 rfl rfl dG_tell_38 ?_
    refine r_aload_n 0 0 rfl dG_tell_41 rfl ?_
    refine q_getR 0 c64 fG_24 rfl rfl (g64_0 sw3) (by decide) dG_tell_42 ?_
    refine r_iload_n 1 1 rfl dG_tell_45 rfl ?_
    refine r_iload_n 2 2 rfl dG_tell_46 rfl ?_
    refine r_callVi 1 [_, _] rfl c2 rfl rfl oK_told iK_told sK_told yG_35 (by decide) ⟨Nat.le_refl _, Nat.le_refl _⟩ rfl (Nat.le_of_ble_eq_true rfl) dG_tell_47 h (fun z4 r4 m4 h => ?_)
    obtain ⟨sw4, rfl, h⟩ := h
    refine q_iastore (w32 (m3 64 5)) rfl c67 h.1 dG_tell_50 ?_
    replace h := h.2
    refine r_aload_n 0 0 rfl dG_tell_51 rfl ?_
    refine q_getR 4 c64 fG_21 rfl rfl (g64_4 sw4) (by decide) dG_tell_52 ?_
    refine r_aload_n 0 0 rfl dG_tell_55 rfl ?_
    refine q_getI 5 c64 fG_28 rfl rfl dG_tell_56 ?_
    refine r_iload_n 3 3 rfl dG_tell_59 rfl ?_
    refine q_iastore (w32 (m4 64 5)) rfl c68 h.1 dG_tell_60 ?_
    replace h := h.2
    refine r_aload_n 0 0 rfl dG_tell_61 rfl ?_
    refine q_getR 0 c64 fG_24 rfl rfl (g64_0 sw4) (by decide) dG_tell_62 ?_
    refine r_iload_n 1 1 rfl dG_tell_65 rfl ?_
    refine r_iload_n 2 2 rfl dG_tell_66 rfl ?_
    refine r_iload_n 3 3 rfl dG_tell_67 rfl ?_
    refine r_callVv 1 [_, _, _] rfl c2 rfl rfl oK_write iK_write sK_write yG_41 (by decide) ⟨Nat.le_refl _, Nat.le_refl _⟩ rfl (Nat.le_of_ble_eq_true rfl) dG_tell_68 h (fun z5 r5 m5 h => ?_)
    obtain ⟨sw5, rfl, h⟩ := h
    refine r_aload_n 0 0 rfl dG_tell_71 rfl ?_
    refine r_dup (fun q => by cases q) dG_tell_72 ?_
    refine q_getI 5 c64 fG_28 rfl rfl dG_tell_73 ?_
    refine r_iconst dG_tell_76 ?_
    refine r_iadd dG_tell_77 ?_
    refine q_putI 5 c64 pfG_28 rfl rfl dG_tell_78 ?_
    refine r_aload_n 0 0 rfl dG_tell_81 rfl ?_
    refine r_aload_n 0 0 rfl dG_tell_82 rfl ?_
    refine q_getI 5 c64 fG_28 rfl rfl dG_tell_83 ?_
    refine q_putI 6 c64 pfG_45 rfl rfl dG_tell_86 ?_
    exact q_vret rfl h dG_tell_89
theorem dG_forgetOldest_0 : decode mG_forgetOldest.2.1 0 = .ok (.aload_n 0, 1) := by decide +kernel
theorem dG_forgetOldest_1 : decode mG_forgetOldest.2.1 1 = .ok (.getfield 11, 3) := by decide +kernel
theorem dG_forgetOldest_4 : decode mG_forgetOldest.2.1 4 = .ok (.iconst 1, 1) := by decide +kernel
theorem dG_forgetOldest_5 : decode mG_forgetOldest.2.1 5 = .ok (.aload_n 0, 1) := by decide +kernel
theorem dG_forgetOldest_6 : decode mG_forgetOldest.2.1 6 = .ok (.getfield 11, 3) := by decide +kernel
theorem dG_forgetOldest_9 : decode mG_forgetOldest.2.1 9 = .ok (.iconst 0, 1) := by decide +kernel
theorem dG_forgetOldest_10 : decode mG_forgetOldest.2.1 10 = .ok (.bipush 39, 2) := by decide +kernel
theorem dG_forgetOldest_12 : decode mG_forgetOldest.2.1 12 = .ok (.invokestatic 48, 3) := by decide +kernel
theorem dG_forgetOldest_15 : decode mG_forgetOldest.2.1 15 = .ok (.aload_n 0, 1) := by decide +kernel
theorem dG_forgetOldest_16 : decode mG_forgetOldest.2.1 16 = .ok (.getfield 15, 3) := by decide +kernel
theorem dG_forgetOldest_19 : decode mG_forgetOldest.2.1 19 = .ok (.iconst 1, 1) := by decide +kernel
theorem dG_forgetOldest_20 : decode mG_forgetOldest.2.1 20 = .ok (.aload_n 0, 1) := by decide +kernel
theorem dG_forgetOldest_21 : decode mG_forgetOldest.2.1 21 = .ok (.getfield 15, 3) := by decide +kernel
theorem dG_forgetOldest_24 : decode mG_forgetOldest.2.1 24 = .ok (.iconst 0, 1) := by decide +kernel
theorem dG_forgetOldest_25 : decode mG_forgetOldest.2.1 25 = .ok (.bipush 39, 2) := by decide +kernel
theorem dG_forgetOldest_27 : decode mG_forgetOldest.2.1 27 = .ok (.invokestatic 48, 3) := by decide +kernel
theorem dG_forgetOldest_30 : decode mG_forgetOldest.2.1 30 = .ok (.aload_n 0, 1) := by decide +kernel
theorem dG_forgetOldest_31 : decode mG_forgetOldest.2.1 31 = .ok (.getfield 18, 3) := by decide +kernel
theorem dG_forgetOldest_34 : decode mG_forgetOldest.2.1 34 = .ok (.iconst 1, 1) := by decide +kernel
theorem dG_forgetOldest_35 : decode mG_forgetOldest.2.1 35 = .ok (.aload_n 0, 1) := by decide +kernel
theorem dG_forgetOldest_36 : decode mG_forgetOldest.2.1 36 = .ok (.getfield 18, 3) := by decide +kernel
theorem dG_forgetOldest_39 : decode mG_forgetOldest.2.1 39 = .ok (.iconst 0, 1) := by decide +kernel
theorem dG_forgetOldest_40 : decode mG_forgetOldest.2.1 40 = .ok (.bipush 39, 2) := by decide +kernel
theorem dG_forgetOldest_42 : decode mG_forgetOldest.2.1 42 = .ok (.invokestatic 48, 3) := by decide +kernel
theorem dG_forgetOldest_45 : decode mG_forgetOldest.2.1 45 = .ok (.aload_n 0, 1) := by decide +kernel
theorem dG_forgetOldest_46 : decode mG_forgetOldest.2.1 46 = .ok (.getfield 21, 3) := by decide +kernel
theorem dG_forgetOldest_49 : decode mG_forgetOldest.2.1 49 = .ok (.iconst 1, 1) := by decide +kernel
theorem dG_forgetOldest_50 : decode mG_forgetOldest.2.1 50 = .ok (.aload_n 0, 1) := by decide +kernel
theorem dG_forgetOldest_51 : decode mG_forgetOldest.2.1 51 = .ok (.getfield 21, 3) := by decide +kernel
theorem dG_forgetOldest_54 : decode mG_forgetOldest.2.1 54 = .ok (.iconst 0, 1) := by decide +kernel
theorem dG_forgetOldest_55 : decode mG_forgetOldest.2.1 55 = .ok (.bipush 39, 2) := by decide +kernel
theorem dG_forgetOldest_57 : decode mG_forgetOldest.2.1 57 = .ok (.invokestatic 48, 3) := by decide +kernel
theorem dG_forgetOldest_60 : decode mG_forgetOldest.2.1 60 = .ok (.aload_n 0, 1) := by decide +kernel
theorem dG_forgetOldest_61 : decode mG_forgetOldest.2.1 61 = .ok (.bipush 39, 2) := by decide +kernel
theorem dG_forgetOldest_63 : decode mG_forgetOldest.2.1 63 = .ok (.putfield 28, 3) := by decide +kernel
theorem dG_forgetOldest_66 : decode mG_forgetOldest.2.1 66 = .ok (.return_, 1) := by decide +kernel
/- G_forgetOldest: ()V -/
set_option maxRecDepth 4000 in
theorem wG_forgetOldest {X : Cx} (sw : Bool) (m : Mem) (Q : Int → Bool → Mem → Prop) (h : Q 0 sw (upm (cpm (cpm (cpm (cpm m 65 1 65 0 39) 66 1 66 0 39) 67 1 67 0 39) 68 1 68 0 39) 64 5 39)) : M2 X 1 mG_forgetOldest [vr 64] sw m Q := by
  refine Mt.of pG_forgetOldest (Nat.le_of_ble_eq_true rfl) (Nat.le_refl _) ?_
  show R2 X 1 mG_forgetOldest 0 [(0, vr 64)] [] sw m Q
  refine r_aload_n 0 0 rfl dG_forgetOldest_0 rfl ?_
  refine q_getR 1 c64 fG_11 rfl rfl (g64_1 sw) (by decide) dG_forgetOldest_1 ?_
  refine r_iconst dG_forgetOldest_4 ?_
  refine r_aload_n 0 0 rfl dG_forgetOldest_5 rfl ?_
  refine q_getR 1 c64 fG_11 rfl rfl (g64_1 sw) (by decide) dG_forgetOldest_6 ?_
  refine r_iconst dG_forgetOldest_9 ?_
  refine r_bipush (by decide) dG_forgetOldest_10 ?_
  refine r_copy (ty := .int) (by decide) (Or.inl rfl) c65 c65 (by decide) (by decide) (by decide) (by decide) (by decide) yG_48 kCpN kCpS kSysI (by decide) (Nat.le_of_ble_eq_true rfl) dG_forgetOldest_12 ?_
  refine r_aload_n 0 0 rfl dG_forgetOldest_15 rfl ?_
  refine q_getR 2 c64 fG_15 rfl rfl (g64_2 sw) (by decide) dG_forgetOldest_16 ?_
  refine r_iconst dG_forgetOldest_19 ?_
  refine r_aload_n 0 0 rfl dG_forgetOldest_20 rfl ?_
  refine q_getR 2 c64 fG_15 rfl rfl (g64_2 sw) (by decide) dG_forgetOldest_21 ?_
  refine r_iconst dG_forgetOldest_24 ?_
  refine r_bipush (by decide) dG_forgetOldest_25 ?_
  refine r_copy (ty := .int) (by decide) (Or.inl rfl) c66 c66 (by decide) (by decide) (by decide) (by decide) (by decide) yG_48 kCpN kCpS kSysI (by decide) (Nat.le_of_ble_eq_true rfl) dG_forgetOldest_27 ?_
  refine r_aload_n 0 0 rfl dG_forgetOldest_30 rfl ?_
  refine q_getR 3 c64 fG_18 rfl rfl (g64_3 sw) (by decide) dG_forgetOldest_31 ?_
  refine r_iconst dG_forgetOldest_34 ?_
  refine r_aload_n 0 0 rfl dG_forgetOldest_35 rfl ?_
  refine q_getR 3 c64 fG_18 rfl rfl (g64_3 sw) (by decide) dG_forgetOldest_36 ?_
  refine r_iconst dG_forgetOldest_39 ?_
  refine r_bipush (by decide) dG_forgetOldest_40 ?_
  refine r_copy (ty := .int) (by decide) (Or.inl rfl) c67 c67 (by decide) (by decide) (by decide) (by decide) (by decide) yG_48 kCpN kCpS kSysI (by decide) (Nat.le_of_ble_eq_true rfl) dG_forgetOldest_42 ?_
  refine r_aload_n 0 0 rfl dG_forgetOldest_45 rfl ?_
  refine q_getR 4 c64 fG_21 rfl rfl (g64_4 sw) (by decide) dG_forgetOldest_46 ?_
  refine r_iconst dG_forgetOldest_49 ?_
  refine r_aload_n 0 0 rfl dG_forgetOldest_50 rfl ?_
  refine q_getR 4 c64 fG_21 rfl rfl (g64_4 sw) (by decide) dG_forgetOldest_51 ?_
  refine r_iconst dG_forgetOldest_54 ?_
  refine r_bipush (by decide) dG_forgetOldest_55 ?_
  refine r_copy (ty := .int) (by decide) (Or.inl rfl) c68 c68 (by decide) (by decide) (by decide) (by decide) (by decide) yG_48 kCpN kCpS kSysI (by decide) (Nat.le_of_ble_eq_true rfl) dG_forgetOldest_57 ?_
  refine r_aload_n 0 0 rfl dG_forgetOldest_60 rfl ?_
  refine r_bipush (by decide) dG_forgetOldest_61 ?_
  refine q_putI 5 c64 pfG_28 rfl rfl dG_forgetOldest_63 ?_
  exact q_vret rfl h dG_forgetOldest_66
theorem dG_takeBack_0 : decode mG_takeBack.2.1 0 = .ok (.aload_n 0, 1) := by decide +kernel
theorem dG_takeBack_1 : decode mG_takeBack.2.1 1 = .ok (.getfield 28, 3) := by decide +kernel
theorem dG_takeBack_4 : decode mG_takeBack.2.1 4 = .ok (.ifCond .gt 6, 3) := by decide +kernel
theorem dG_takeBack_7 : decode mG_takeBack.2.1 7 = .ok (.bipush (-5), 2) := by decide +kernel
theorem dG_takeBack_9 : decode mG_takeBack.2.1 9 = .ok (.ireturn, 1) := by decide +kernel
theorem dG_takeBack_10 : decode mG_takeBack.2.1 10 = .ok (.aload_n 0, 1) := by decide +kernel
theorem dG_takeBack_11 : decode mG_takeBack.2.1 11 = .ok (.dup, 1) := by decide +kernel
theorem dG_takeBack_12 : decode mG_takeBack.2.1 12 = .ok (.getfield 28, 3) := by decide +kernel
theorem dG_takeBack_15 : decode mG_takeBack.2.1 15 = .ok (.iconst 1, 1) := by decide +kernel
theorem dG_takeBack_16 : decode mG_takeBack.2.1 16 = .ok (.isub, 1) := by decide +kernel
theorem dG_takeBack_17 : decode mG_takeBack.2.1 17 = .ok (.putfield 28, 3) := by decide +kernel
theorem dG_takeBack_20 : decode mG_takeBack.2.1 20 = .ok (.aload_n 0, 1) := by decide +kernel
theorem dG_takeBack_21 : decode mG_takeBack.2.1 21 = .ok (.getfield 24, 3) := by decide +kernel
theorem dG_takeBack_24 : decode mG_takeBack.2.1 24 = .ok (.aload_n 0, 1) := by decide +kernel
theorem dG_takeBack_25 : decode mG_takeBack.2.1 25 = .ok (.getfield 11, 3) := by decide +kernel
theorem dG_takeBack_28 : decode mG_takeBack.2.1 28 = .ok (.aload_n 0, 1) := by decide +kernel
theorem dG_takeBack_29 : decode mG_takeBack.2.1 29 = .ok (.getfield 28, 3) := by decide +kernel
theorem dG_takeBack_32 : decode mG_takeBack.2.1 32 = .ok (.iaload, 1) := by decide +kernel
theorem dG_takeBack_33 : decode mG_takeBack.2.1 33 = .ok (.aload_n 0, 1) := by decide +kernel
theorem dG_takeBack_34 : decode mG_takeBack.2.1 34 = .ok (.getfield 15, 3) := by decide +kernel
theorem dG_takeBack_37 : decode mG_takeBack.2.1 37 = .ok (.aload_n 0, 1) := by decide +kernel
theorem dG_takeBack_38 : decode mG_takeBack.2.1 38 = .ok (.getfield 28, 3) := by decide +kernel
theorem dG_takeBack_41 : decode mG_takeBack.2.1 41 = .ok (.iaload, 1) := by decide +kernel
theorem dG_takeBack_42 : decode mG_takeBack.2.1 42 = .ok (.aload_n 0, 1) := by decide +kernel
theorem dG_takeBack_43 : decode mG_takeBack.2.1 43 = .ok (.getfield 18, 3) := by decide +kernel
theorem dG_takeBack_46 : decode mG_takeBack.2.1 46 = .ok (.aload_n 0, 1) := by decide +kernel
theorem dG_takeBack_47 : decode mG_takeBack.2.1 47 = .ok (.getfield 28, 3) := by decide +kernel
theorem dG_takeBack_50 : decode mG_takeBack.2.1 50 = .ok (.iaload, 1) := by decide +kernel
theorem dG_takeBack_51 : decode mG_takeBack.2.1 51 = .ok (.invokevirtual 41, 3) := by decide +kernel
theorem dG_takeBack_54 : decode mG_takeBack.2.1 54 = .ok (.aload_n 0, 1) := by decide +kernel
theorem dG_takeBack_55 : decode mG_takeBack.2.1 55 = .ok (.getfield 28, 3) := by decide +kernel
theorem dG_takeBack_58 : decode mG_takeBack.2.1 58 = .ok (.ireturn, 1) := by decide +kernel
/- G_takeBack: ()I -/
set_option maxRecDepth 4000 in
theorem wG_takeBack {X : Cx} (sw : Bool) (m : Mem) (Q : Int → Bool → Mem → Prop) (h : ((0 < w32 (m 64 5) → ((0 ≤ w32 ((m 64 5) - 1) ∧ w32 ((m 64 5) - 1) < 40) ∧ ((0 ≤ w32 ((m 64 5) - 1) ∧ w32 ((m 64 5) - 1) < 40) ∧ ((0 ≤ w32 ((m 64 5) - 1) ∧ w32 ((m 64 5) - 1) < 40) ∧ M2 X 2 mK_write [vr 2, vi (m 65 (w32 ((m 64 5) - 1))), vi (m 66 (w32 ((m 64 5) - 1))), vi (m 67 (w32 ((m 64 5) - 1)))] sw (upm m 64 5 ((m 64 5) - 1)) (fun z1 sw1 m1 => Q (m1 64 5) sw1 m1))))) ∧ (¬ (0 < w32 (m 64 5)) → Q (-5) sw m))) : M2 X 3 mG_takeBack [vr 64] sw m Q := by
  refine Mt.of pG_takeBack (Nat.le_of_ble_eq_true rfl) (Nat.le_refl _) ?_
  show R2 X 3 mG_takeBack 0 [(0, vr 64)] [] sw m Q
  refine r_aload_n 0 0 rfl dG_takeBack_0 rfl ?_
  refine q_getI 5 c64 fG_28 rfl rfl dG_takeBack_1 ?_
  refine r_if_gt (tgt := 10) dG_takeBack_4 (by decide) (fun hc => ?_) (fun hc => ?_)
  · replace h := h.1 hc
    refine r_aload_n 0 0 rfl dG_takeBack_10 rfl ?_
    refine r_dup (fun q => by cases q) dG_takeBack_11 ?_
    refine q_getI 5 c64 fG_28 rfl rfl dG_takeBack_12 ?_
    refine r_iconst dG_takeBack_15 ?_
    refine r_isub dG_takeBack_16 ?_
    refine q_putI 5 c64 pfG_28 rfl rfl dG_takeBack_17 ?_
    refine r_aload_n 0 0 rfl dG_takeBack_20 rfl ?_
    refine q_getR 0 c64 fG_24 rfl rfl (g64_0 sw) (by decide) dG_takeBack_21 ?_
    refine r_aload_n 0 0 rfl dG_takeBack_24 rfl ?_
    refine q_getR 1 c64 fG_11 rfl rfl (g64_1 sw) (by decide) dG_takeBack_25 ?_
    refine r_aload_n 0 0 rfl dG_takeBack_28 rfl ?_
    refine q_getI 5 c64 fG_28 rfl rfl dG_takeBack_29 ?_
    refine q_iaload (w32 ((m 64 5) - 1)) rfl c65 h.1 dG_takeBack_32 ?_
    replace h := h.2
    refine r_aload_n 0 0 rfl dG_takeBack_33 rfl ?_
    refine q_getR 2 c64 fG_15 rfl rfl (g64_2 sw) (by decide) dG_takeBack_34 ?_
    refine r_aload_n 0 0 rfl dG_takeBack_37 rfl ?_
    refine q_getI 5 c64 fG_28 rfl rfl dG_takeBack_38 ?_
    refine q_iaload (w32 ((m 64 5) - 1)) rfl c66 h.1 dG_takeBack_41 ?_
    replace h := h.2
    refine r_aload_n 0 0 rfl dG_takeBack_42 rfl ?_
    refine q_getR 3 c64 fG_18 rfl rfl (g64_3 sw) (by decide) dG_takeBack_43 ?_
    refine r_aload_n 0 0 rfl dG_takeBack_46 rfl ?_
    refine q_getI 5 c64 fG_28 rfl rfl dG_takeBack_47 ?_
    refine q_iaload (w32 ((m 64 5) - 1)) rfl c67 h.1 dG_takeBack_50 ?_
    replace h := h.2
    refine r_callVv 1 [_, _, _] rfl c2 rfl rfl oK_write iK_write sK_write yG_41 (by decide) ⟨Nat.le_refl _, Nat.le_refl _⟩ rfl (Nat.le_of_ble_eq_true rfl) dG_takeBack_51 h (fun z1 r1 m1 h => ?_)
    obtain ⟨sw1, rfl, h⟩ := h
    refine r_aload_n 0 0 rfl dG_takeBack_54 rfl ?_
    refine q_getI 5 c64 fG_28 rfl rfl dG_takeBack_55 ?_
    exact q_iret rfl h dG_takeBack_58
  · replace h := h.2 hc
    refine r_bipush (by decide) dG_takeBack_7 ?_
    exact q_iret rfl h dG_takeBack_9
theorem dG_doAgain_0 : decode mG_doAgain.2.1 0 = .ok (.aload_n 0, 1) := by decide +kernel
theorem dG_doAgain_1 : decode mG_doAgain.2.1 1 = .ok (.getfield 28, 3) := by decide +kernel
theorem dG_doAgain_4 : decode mG_doAgain.2.1 4 = .ok (.aload_n 0, 1) := by decide +kernel
theorem dG_doAgain_5 : decode mG_doAgain.2.1 5 = .ok (.getfield 45, 3) := by decide +kernel
theorem dG_doAgain_8 : decode mG_doAgain.2.1 8 = .ok (.if_icmp .lt 6, 3) := by decide +kernel
theorem dG_doAgain_11 : decode mG_doAgain.2.1 11 = .ok (.bipush (-5), 2) := by decide +kernel
theorem dG_doAgain_13 : decode mG_doAgain.2.1 13 = .ok (.ireturn, 1) := by decide +kernel
theorem dG_doAgain_14 : decode mG_doAgain.2.1 14 = .ok (.aload_n 0, 1) := by decide +kernel
theorem dG_doAgain_15 : decode mG_doAgain.2.1 15 = .ok (.getfield 24, 3) := by decide +kernel
theorem dG_doAgain_18 : decode mG_doAgain.2.1 18 = .ok (.aload_n 0, 1) := by decide +kernel
theorem dG_doAgain_19 : decode mG_doAgain.2.1 19 = .ok (.getfield 11, 3) := by decide +kernel
theorem dG_doAgain_22 : decode mG_doAgain.2.1 22 = .ok (.aload_n 0, 1) := by decide +kernel
theorem dG_doAgain_23 : decode mG_doAgain.2.1 23 = .ok (.getfield 28, 3) := by decide +kernel
theorem dG_doAgain_26 : decode mG_doAgain.2.1 26 = .ok (.iaload, 1) := by decide +kernel
theorem dG_doAgain_27 : decode mG_doAgain.2.1 27 = .ok (.aload_n 0, 1) := by decide +kernel
theorem dG_doAgain_28 : decode mG_doAgain.2.1 28 = .ok (.getfield 15, 3) := by decide +kernel
theorem dG_doAgain_31 : decode mG_doAgain.2.1 31 = .ok (.aload_n 0, 1) := by decide +kernel
theorem dG_doAgain_32 : decode mG_doAgain.2.1 32 = .ok (.getfield 28, 3) := by decide +kernel
theorem dG_doAgain_35 : decode mG_doAgain.2.1 35 = .ok (.iaload, 1) := by decide +kernel
theorem dG_doAgain_36 : decode mG_doAgain.2.1 36 = .ok (.aload_n 0, 1) := by decide +kernel
theorem dG_doAgain_37 : decode mG_doAgain.2.1 37 = .ok (.getfield 21, 3) := by decide +kernel
theorem dG_doAgain_40 : decode mG_doAgain.2.1 40 = .ok (.aload_n 0, 1) := by decide +kernel
theorem dG_doAgain_41 : decode mG_doAgain.2.1 41 = .ok (.getfield 28, 3) := by decide +kernel
theorem dG_doAgain_44 : decode mG_doAgain.2.1 44 = .ok (.iaload, 1) := by decide +kernel
theorem dG_doAgain_45 : decode mG_doAgain.2.1 45 = .ok (.invokevirtual 41, 3) := by decide +kernel
theorem dG_doAgain_48 : decode mG_doAgain.2.1 48 = .ok (.aload_n 0, 1) := by decide +kernel
theorem dG_doAgain_49 : decode mG_doAgain.2.1 49 = .ok (.dup, 1) := by decide +kernel
theorem dG_doAgain_50 : decode mG_doAgain.2.1 50 = .ok (.getfield 28, 3) := by decide +kernel
theorem dG_doAgain_53 : decode mG_doAgain.2.1 53 = .ok (.iconst 1, 1) := by decide +kernel
theorem dG_doAgain_54 : decode mG_doAgain.2.1 54 = .ok (.iadd, 1) := by decide +kernel
theorem dG_doAgain_55 : decode mG_doAgain.2.1 55 = .ok (.putfield 28, 3) := by decide +kernel
theorem dG_doAgain_58 : decode mG_doAgain.2.1 58 = .ok (.aload_n 0, 1) := by decide +kernel
theorem dG_doAgain_59 : decode mG_doAgain.2.1 59 = .ok (.getfield 45, 3) := by decide +kernel
theorem dG_doAgain_62 : decode mG_doAgain.2.1 62 = .ok (.aload_n 0, 1) := by decide +kernel
theorem dG_doAgain_63 : decode mG_doAgain.2.1 63 = .ok (.getfield 28, 3) := by decide +kernel
theorem dG_doAgain_66 : decode mG_doAgain.2.1 66 = .ok (.isub, 1) := by decide +kernel
theorem dG_doAgain_67 : decode mG_doAgain.2.1 67 = .ok (.ireturn, 1) := by decide +kernel
/- G_doAgain: ()I -/
set_option maxRecDepth 4000 in
theorem wG_doAgain {X : Cx} (sw : Bool) (m : Mem) (Q : Int → Bool → Mem → Prop) (h : ((w32 (m 64 5) < w32 (m 64 6) → ((0 ≤ w32 (m 64 5) ∧ w32 (m 64 5) < 40) ∧ ((0 ≤ w32 (m 64 5) ∧ w32 (m 64 5) < 40) ∧ ((0 ≤ w32 (m 64 5) ∧ w32 (m 64 5) < 40) ∧ M2 X 2 mK_write [vr 2, vi (m 65 (w32 (m 64 5))), vi (m 66 (w32 (m 64 5))), vi (m 68 (w32 (m 64 5)))] sw m (fun z1 sw1 m1 => Q ((m1 64 6) - ((m1 64 5) + 1)) sw1 (upm m1 64 5 ((m1 64 5) + 1))))))) ∧ (¬ (w32 (m 64 5) < w32 (m 64 6)) → Q (-5) sw m))) : M2 X 3 mG_doAgain [vr 64] sw m Q := by
  refine Mt.of pG_doAgain (Nat.le_of_ble_eq_true rfl) (Nat.le_refl _) ?_
  show R2 X 3 mG_doAgain 0 [(0, vr 64)] [] sw m Q
  refine r_aload_n 0 0 rfl dG_doAgain_0 rfl ?_
  refine q_getI 5 c64 fG_28 rfl rfl dG_doAgain_1 ?_
  refine r_aload_n 0 0 rfl dG_doAgain_4 rfl ?_
  refine q_getI 6 c64 fG_45 rfl rfl dG_doAgain_5 ?_
  refine r_ifc_lt (tgt := 14) dG_doAgain_8 (by decide) (fun hc => ?_) (fun hc => ?_)
  · replace h := h.1 hc
    refine r_aload_n 0 0 rfl dG_doAgain_14 rfl ?_
    refine q_getR 0 c64 fG_24 rfl rfl (g64_0 sw) (by decide) dG_doAgain_15 ?_
    refine r_aload_n 0 0 rfl dG_doAgain_18 rfl ?_
    refine q_getR 1 c64 fG_11 rfl rfl (g64_1 sw) (by decide) dG_doAgain_19 ?_
    refine r_aload_n 0 0 rfl dG_doAgain_22 rfl ?_
    refine q_getI 5 c64 fG_28 rfl rfl dG_doAgain_23 ?_
    refine q_iaload (w32 (m 64 5)) rfl c65 h.1 dG_doAgain_26 ?_
    replace h := h.2
    refine r_aload_n 0 0 rfl dG_doAgain_27 rfl ?_
    refine q_getR 2 c64 fG_15 rfl rfl (g64_2 sw) (by decide) dG_doAgain_28 ?_
    refine r_aload_n 0 0 rfl dG_doAgain_31 rfl ?_
    refine q_getI 5 c64 fG_28 rfl rfl dG_doAgain_32 ?_
    refine q_iaload (w32 (m 64 5)) rfl c66 h.1 dG_doAgain_35 ?_
    replace h := h.2
    refine r_aload_n 0 0 rfl dG_doAgain_36 rfl ?_
    refine q_getR 4 c64 fG_21 rfl rfl (g64_4 sw) (by decide) dG_doAgain_37 ?_
    refine r_aload_n 0 0 rfl dG_doAgain_40 rfl ?_
    refine q_getI 5 c64 fG_28 rfl rfl dG_doAgain_41 ?_
    refine q_iaload (w32 (m 64 5)) rfl c68 h.1 dG_doAgain_44 ?_
    replace h := h.2
    refine r_callVv 1 [_, _, _] rfl c2 rfl rfl oK_write iK_write sK_write yG_41 (by decide) ⟨Nat.le_refl _, Nat.le_refl _⟩ rfl (Nat.le_of_ble_eq_true rfl) dG_doAgain_45 h (fun z1 r1 m1 h => ?_)
    obtain ⟨sw1, rfl, h⟩ := h
    refine r_aload_n 0 0 rfl dG_doAgain_48 rfl ?_
    refine r_dup (fun q => by cases q) dG_doAgain_49 ?_
    refine q_getI 5 c64 fG_28 rfl rfl dG_doAgain_50 ?_
    refine r_iconst dG_doAgain_53 ?_
    refine r_iadd dG_doAgain_54 ?_
    refine q_putI 5 c64 pfG_28 rfl rfl dG_doAgain_55 ?_
    refine r_aload_n 0 0 rfl dG_doAgain_58 rfl ?_
    refine q_getI 6 c64 fG_45 rfl rfl dG_doAgain_59 ?_
    refine r_aload_n 0 0 rfl dG_doAgain_62 rfl ?_
    refine q_getI 5 c64 fG_28 rfl rfl dG_doAgain_63 ?_
    refine r_isub dG_doAgain_66 ?_
    exact q_iret rfl h dG_doAgain_67
  · replace h := h.2 hc
    refine r_bipush (by decide) dG_doAgain_11 ?_
    exact q_iret rfl h dG_doAgain_13
theorem dK_has_0 : decode mK_has.2.1 0 = .ok (.iload_n 1, 1) := by decide +kernel
theorem dK_has_1 : decode mK_has.2.1 1 = .ok (.ifCond .lt 15, 3) := by decide +kernel
theorem dK_has_4 : decode mK_has.2.1 4 = .ok (.iload_n 1, 1) := by decide +kernel
theorem dK_has_5 : decode mK_has.2.1 5 = .ok (.aload_n 0, 1) := by decide +kernel
theorem dK_has_6 : decode mK_has.2.1 6 = .ok (.getfield 27, 3) := by decide +kernel
theorem dK_has_9 : decode mK_has.2.1 9 = .ok (.if_icmp .ge 7, 3) := by decide +kernel
theorem dK_has_12 : decode mK_has.2.1 12 = .ok (.iconst 1, 1) := by decide +kernel
theorem dK_has_13 : decode mK_has.2.1 13 = .ok (.goto 4, 3) := by decide +kernel
theorem dK_has_16 : decode mK_has.2.1 16 = .ok (.iconst 0, 1) := by decide +kernel
theorem dK_has_17 : decode mK_has.2.1 17 = .ok (.ireturn, 1) := by decide +kernel
/- K_has: (I)Z -/
set_option maxRecDepth 4000 in
theorem wK_has {X : Cx} (a1 : Int) (sw : Bool) (m : Mem) (Q : Int → Bool → Mem → Prop) (h : ((w32 a1 < 0 → Q 0 sw m) ∧ (¬ (w32 a1 < 0) → ((w32 (m 2 3) ≤ w32 a1 → Q 0 sw m) ∧ (¬ (w32 (m 2 3) ≤ w32 a1) → Q 1 sw m))))) : M2 X 1 mK_has [vr 2, vi a1] sw m Q := by
  refine Mt.of pK_has (Nat.le_of_ble_eq_true rfl) (Nat.le_refl _) ?_
  show R2 X 1 mK_has 0 [(0, vr 2), (1, vi a1)] [] sw m Q
  refine r_iload_n 1 1 rfl dK_has_0 rfl ?_
  refine r_if_lt (tgt := 16) dK_has_1 (by decide) (fun hc => ?_) (fun hc => ?_)
  · replace h := h.1 hc
    refine r_iconst dK_has_16 ?_
    exact q_bret rfl (Or.inl rfl) h dK_has_17
  · replace h := h.2 hc
    refine r_iload_n 1 1 rfl dK_has_4 rfl ?_
    refine r_aload_n 0 0 rfl dK_has_5 rfl ?_
    refine q_getI 3 c2 fK_27 rfl rfl dK_has_6 ?_
    refine r_ifc_ge (tgt := 16) dK_has_9 (by decide) (fun hc => ?_) (fun hc => ?_)
    · replace h := h.1 hc
      refine r_iconst dK_has_16 ?_
      exact q_bret rfl (Or.inl rfl) h dK_has_17
    · replace h := h.2 hc
      refine r_iconst dK_has_12 ?_
      refine r_goto (tgt := 17) dK_has_13 (by decide) ?_
      exact q_bret rfl (Or.inr rfl) h dK_has_17
theorem dK_knows_0 : decode mK_knows.2.1 0 = .ok (.iload_n 2, 1) := by decide +kernel
theorem dK_knows_1 : decode mK_knows.2.1 1 = .ok (.ifCond .lt 9, 3) := by decide +kernel
theorem dK_knows_4 : decode mK_knows.2.1 4 = .ok (.iload_n 2, 1) := by decide +kernel
theorem dK_knows_5 : decode mK_knows.2.1 5 = .ok (.bipush 13, 2) := by decide +kernel
theorem dK_knows_7 : decode mK_knows.2.1 7 = .ok (.if_icmp .lt 5, 3) := by decide +kernel
theorem dK_knows_10 : decode mK_knows.2.1 10 = .ok (.iconst 0, 1) := by decide +kernel
theorem dK_knows_11 : decode mK_knows.2.1 11 = .ok (.ireturn, 1) := by decide +kernel
theorem dK_knows_12 : decode mK_knows.2.1 12 = .ok (.iload_n 2, 1) := by decide +kernel
theorem dK_knows_13 : decode mK_knows.2.1 13 = .ok (.bipush 6, 2) := by decide +kernel
theorem dK_knows_15 : decode mK_knows.2.1 15 = .ok (.if_icmp .ge 11, 3) := by decide +kernel
theorem dK_knows_18 : decode mK_knows.2.1 18 = .ok (.aload_n 0, 1) := by decide +kernel
theorem dK_knows_19 : decode mK_knows.2.1 19 = .ok (.iload_n 1, 1) := by decide +kernel
theorem dK_knows_20 : decode mK_knows.2.1 20 = .ok (.invokevirtual 31, 3) := by decide +kernel
theorem dK_knows_23 : decode mK_knows.2.1 23 = .ok (.goto 12, 3) := by decide +kernel
theorem dK_knows_26 : decode mK_knows.2.1 26 = .ok (.iload_n 1, 1) := by decide +kernel
theorem dK_knows_27 : decode mK_knows.2.1 27 = .ok (.ifCond .ne 7, 3) := by decide +kernel
theorem dK_knows_30 : decode mK_knows.2.1 30 = .ok (.iconst 1, 1) := by decide +kernel
theorem dK_knows_31 : decode mK_knows.2.1 31 = .ok (.goto 4, 3) := by decide +kernel
theorem dK_knows_34 : decode mK_knows.2.1 34 = .ok (.iconst 0, 1) := by decide +kernel
theorem dK_knows_35 : decode mK_knows.2.1 35 = .ok (.ireturn, 1) := by decide +kernel
/- K_knows: (II)Z -/
set_option maxRecDepth 4000 in
theorem wK_knows {X : Cx} (a1 a2 : Int) (sw : Bool) (m : Mem) (Q : Int → Bool → Mem → Prop) (h : ((w32 a2 < 0 → Q 0 sw m) ∧ (¬ (w32 a2 < 0) → ((w32 a2 < 13 → ((6 ≤ w32 a2 → ((¬ w32 a1 = 0 → Q 0 sw m) ∧ (¬ (¬ w32 a1 = 0) → Q 1 sw m))) ∧ (¬ (6 ≤ w32 a2) → M2 X 1 mK_has [vr 2, vi a1] sw m (fun z1 sw1 m1 => ((z1 = 0 ∨ z1 = 1) ∧ Q z1 sw1 m1))))) ∧ (¬ (w32 a2 < 13) → Q 0 sw m))))) : M2 X 2 mK_knows [vr 2, vi a1, vi a2] sw m Q := by
  refine Mt.of pK_knows (Nat.le_of_ble_eq_true rfl) (Nat.le_refl _) ?_
  show R2 X 2 mK_knows 0 [(0, vr 2), (1, vi a1), (2, vi a2)] [] sw m Q
  refine r_iload_n 2 2 rfl dK_knows_0 rfl ?_
  refine r_if_lt (tgt := 10) dK_knows_1 (by decide) (fun hc => ?_) (fun hc => ?_)
  · replace h := h.1 hc
    refine r_iconst dK_knows_10 ?_
    exact q_bret rfl (Or.inl rfl) h dK_knows_11
  · replace h := h.2 hc
    refine r_iload_n 2 2 rfl dK_knows_4 rfl ?_
    refine r_bipush (by decide) dK_knows_5 ?_
    refine r_ifc_lt (tgt := 12) dK_knows_7 (by decide) (fun hc => ?_) (fun hc => ?_)
    · replace h := h.1 hc
      refine r_iload_n 2 2 rfl dK_knows_12 rfl ?_
      refine r_bipush (by decide) dK_knows_13 ?_
      refine r_ifc_ge (tgt := 26) dK_knows_15 (by decide) (fun hc => ?_) (fun hc => ?_)
      · replace h := h.1 hc
        refine r_iload_n 1 1 rfl dK_knows_26 rfl ?_
        refine r_if_ne (tgt := 34) dK_knows_27 (by decide) (fun hc => ?_) (fun hc => ?_)
        · replace h := h.1 hc
          refine r_iconst dK_knows_34 ?_
          exact q_bret rfl (Or.inl rfl) h dK_knows_35
        · replace h := h.2 hc
          refine r_iconst dK_knows_30 ?_
          refine r_goto (tgt := 35) dK_knows_31 (by decide) ?_
          exact q_bret rfl (Or.inr rfl) h dK_knows_35
      · replace h := h.2 hc
        refine r_aload_n 0 0 rfl dK_knows_18 rfl ?_
        refine r_iload_n 1 1 rfl dK_knows_19 rfl ?_
        refine r_callVb 1 [_] rfl c2 rfl rfl oK_has iK_has sK_has yK_31 (by decide) ⟨Nat.le_refl _, Nat.le_refl _⟩ rfl (Nat.le_of_ble_eq_true rfl) dK_knows_20 h (fun z1 r1 m1 h => ?_)
        obtain ⟨sw1, rfl, h⟩ := h
        refine r_goto (tgt := 35) dK_knows_23 (by decide) ?_
        exact q_bret rfl h.1 h.2 dK_knows_35
    · replace h := h.2 hc
      refine r_iconst dK_knows_10 ?_
      exact q_bret rfl (Or.inl rfl) h dK_knows_11
theorem dK_fits_0 : decode mK_fits.2.1 0 = .ok (.iload_n 2, 1) := by decide +kernel
theorem dK_fits_1 : decode mK_fits.2.1 1 = .ok (.ifCond .lt 27, 3) := by decide +kernel
theorem dK_fits_4 : decode mK_fits.2.1 4 = .ok (.iload_n 2, 1) := by decide +kernel
theorem dK_fits_5 : decode mK_fits.2.1 5 = .ok (.bipush 13, 2) := by decide +kernel
theorem dK_fits_7 : decode mK_fits.2.1 7 = .ok (.if_icmp .ge 21, 3) := by decide +kernel
theorem dK_fits_10 : decode mK_fits.2.1 10 = .ok (.iload_n 3, 1) := by decide +kernel
theorem dK_fits_11 : decode mK_fits.2.1 11 = .ok (.getstatic 35, 3) := by decide +kernel
theorem dK_fits_14 : decode mK_fits.2.1 14 = .ok (.iload_n 2, 1) := by decide +kernel
theorem dK_fits_15 : decode mK_fits.2.1 15 = .ok (.iaload, 1) := by decide +kernel
theorem dK_fits_16 : decode mK_fits.2.1 16 = .ok (.if_icmp .lt 12, 3) := by decide +kernel
theorem dK_fits_19 : decode mK_fits.2.1 19 = .ok (.iload_n 3, 1) := by decide +kernel
theorem dK_fits_20 : decode mK_fits.2.1 20 = .ok (.getstatic 38, 3) := by decide +kernel
theorem dK_fits_23 : decode mK_fits.2.1 23 = .ok (.iload_n 2, 1) := by decide +kernel
theorem dK_fits_24 : decode mK_fits.2.1 24 = .ok (.iaload, 1) := by decide +kernel
theorem dK_fits_25 : decode mK_fits.2.1 25 = .ok (.if_icmp .le 5, 3) := by decide +kernel
theorem dK_fits_28 : decode mK_fits.2.1 28 = .ok (.iconst 0, 1) := by decide +kernel
theorem dK_fits_29 : decode mK_fits.2.1 29 = .ok (.ireturn, 1) := by decide +kernel
theorem dK_fits_30 : decode mK_fits.2.1 30 = .ok (.iload_n 2, 1) := by decide +kernel
theorem dK_fits_31 : decode mK_fits.2.1 31 = .ok (.ifCond .ne 10, 3) := by decide +kernel
theorem dK_fits_34 : decode mK_fits.2.1 34 = .ok (.iload_n 3, 1) := by decide +kernel
theorem dK_fits_35 : decode mK_fits.2.1 35 = .ok (.iconst 1, 1) := by decide +kernel
theorem dK_fits_36 : decode mK_fits.2.1 36 = .ok (.iload_n 1, 1) := by decide +kernel
theorem dK_fits_37 : decode mK_fits.2.1 37 = .ok (.ishl, 1) := by decide +kernel
theorem dK_fits_38 : decode mK_fits.2.1 38 = .ok (.if_icmp .ge 7, 3) := by decide +kernel
theorem dK_fits_41 : decode mK_fits.2.1 41 = .ok (.iconst 1, 1) := by decide +kernel
theorem dK_fits_42 : decode mK_fits.2.1 42 = .ok (.goto 4, 3) := by decide +kernel
theorem dK_fits_45 : decode mK_fits.2.1 45 = .ok (.iconst 0, 1) := by decide +kernel
theorem dK_fits_46 : decode mK_fits.2.1 46 = .ok (.ireturn, 1) := by decide +kernel
/- K_fits: (III)Z -/
set_option maxRecDepth 4000 in
theorem wK_fits {X : Cx} (a1 a2 a3 : Int) (sw : Bool) (m : Mem) (Q : Int → Bool → Mem → Prop) (h : ((w32 a2 < 0 → Q 0 sw m) ∧ (¬ (w32 a2 < 0) → ((13 ≤ w32 a2 → Q 0 sw m) ∧ (¬ (13 ≤ w32 a2) → ((0 ≤ w32 a2 ∧ w32 a2 < 13) ∧ ((w32 a3 < w32 (ext0.getD (w32 a2).toNat 0) → Q 0 sw m) ∧ (¬ (w32 a3 < w32 (ext0.getD (w32 a2).toNat 0)) → ((0 ≤ w32 a2 ∧ w32 a2 < 13) ∧ ((w32 a3 ≤ w32 (ext1.getD (w32 a2).toNat 0) → ((¬ w32 a2 = 0 → Q 1 sw m) ∧ (¬ (¬ w32 a2 = 0) → ((w32 (zshl 1 a1) ≤ w32 a3 → Q 0 sw m) ∧ (¬ (w32 (zshl 1 a1) ≤ w32 a3) → Q 1 sw m))))) ∧ (¬ (w32 a3 ≤ w32 (ext1.getD (w32 a2).toNat 0)) → Q 0 sw m))))))))))) : M2 X 1 mK_fits [vr 2, vi a1, vi a2, vi a3] sw m Q := by
  refine Mt.of pK_fits (Nat.le_of_ble_eq_true rfl) (Nat.le_refl _) ?_
  show R2 X 1 mK_fits 0 [(0, vr 2), (1, vi a1), (2, vi a2), (3, vi a3)] [] sw m Q
  refine r_iload_n 2 2 rfl dK_fits_0 rfl ?_
  refine r_if_lt (tgt := 28) dK_fits_1 (by decide) (fun hc => ?_) (fun hc => ?_)
  · replace h := h.1 hc
    refine r_iconst dK_fits_28 ?_
    exact q_bret rfl (Or.inl rfl) h dK_fits_29
  · replace h := h.2 hc
    refine r_iload_n 2 2 rfl dK_fits_4 rfl ?_
    refine r_bipush (by decide) dK_fits_5 ?_
    refine r_ifc_ge (tgt := 28) dK_fits_7 (by decide) (fun hc => ?_) (fun hc => ?_)
    · replace h := h.1 hc
      refine r_iconst dK_fits_28 ?_
      exact q_bret rfl (Or.inl rfl) h dK_fits_29
    · replace h := h.2 hc
      refine r_iload_n 3 3 rfl dK_fits_10 rfl ?_
      refine r_gets (e := 0) rfl vK_35 dK_fits_11 ?_
      refine r_iload_n 2 2 rfl dK_fits_14 rfl ?_
      refine q_xiload (e := 0) (w32 a2) rfl rfl h.1 dK_fits_15 ?_
      replace h := h.2
      refine r_ifc_lt (tgt := 28) dK_fits_16 (by decide) (fun hc => ?_) (fun hc => ?_)
      · replace h := h.1 hc
        refine r_iconst dK_fits_28 ?_
        exact q_bret rfl (Or.inl rfl) h dK_fits_29
      · replace h := h.2 hc
        refine r_iload_n 3 3 rfl dK_fits_19 rfl ?_
        refine r_gets (e := 1) rfl vK_38 dK_fits_20 ?_
        refine r_iload_n 2 2 rfl dK_fits_23 rfl ?_
        refine q_xiload (e := 1) (w32 a2) rfl rfl h.1 dK_fits_24 ?_
        replace h := h.2
        refine r_ifc_le (tgt := 30) dK_fits_25 (by decide) (fun hc => ?_) (fun hc => ?_)
        · replace h := h.1 hc
          refine r_iload_n 2 2 rfl dK_fits_30 rfl ?_
          refine r_if_ne (tgt := 41) dK_fits_31 (by decide) (fun hc => ?_) (fun hc => ?_)
          · replace h := h.1 hc
            refine r_iconst dK_fits_41 ?_
            refine r_goto (tgt := 46) dK_fits_42 (by decide) ?_
            exact q_bret rfl (Or.inr rfl) h dK_fits_46
          · replace h := h.2 hc
            refine r_iload_n 3 3 rfl dK_fits_34 rfl ?_
            refine r_iconst dK_fits_35 ?_
            refine r_iload_n 1 1 rfl dK_fits_36 rfl ?_
            refine r_ishl dK_fits_37 ?_
            refine r_ifc_ge (tgt := 45) dK_fits_38 (by decide) (fun hc => ?_) (fun hc => ?_)
            · replace h := h.1 hc
              refine r_iconst dK_fits_45 ?_
              exact q_bret rfl (Or.inl rfl) h dK_fits_46
            · replace h := h.2 hc
              refine r_iconst dK_fits_41 ?_
              refine r_goto (tgt := 46) dK_fits_42 (by decide) ?_
              exact q_bret rfl (Or.inr rfl) h dK_fits_46
        · replace h := h.2 hc
          refine r_iconst dK_fits_28 ?_
          exact q_bret rfl (Or.inl rfl) h dK_fits_29
theorem dK_told_0 : decode mK_told.2.1 0 = .ok (.iload_n 1, 1) := by decide +kernel
theorem dK_told_1 : decode mK_told.2.1 1 = .ok (.iload_n 2, 1) := by decide +kernel
theorem dK_told_2 : decode mK_told.2.1 2 = .ok (.invokestatic 41, 3) := by decide +kernel
theorem dK_told_5 : decode mK_told.2.1 5 = .ok (.ifCond .eq 14, 3) := by decide +kernel
theorem dK_told_8 : decode mK_told.2.1 8 = .ok (.aload_n 0, 1) := by decide +kernel
theorem dK_told_9 : decode mK_told.2.1 9 = .ok (.getfield 13, 3) := by decide +kernel
theorem dK_told_12 : decode mK_told.2.1 12 = .ok (.iload_n 2, 1) := by decide +kernel
theorem dK_told_13 : decode mK_told.2.1 13 = .ok (.aaload, 1) := by decide +kernel
theorem dK_told_14 : decode mK_told.2.1 14 = .ok (.iload_n 1, 1) := by decide +kernel
theorem dK_told_15 : decode mK_told.2.1 15 = .ok (.iaload, 1) := by decide +kernel
theorem dK_told_16 : decode mK_told.2.1 16 = .ok (.goto 4, 3) := by decide +kernel
theorem dK_told_19 : decode mK_told.2.1 19 = .ok (.iconst 0, 1) := by decide +kernel
theorem dK_told_20 : decode mK_told.2.1 20 = .ok (.ireturn, 1) := by decide +kernel
/- K_told: (II)I -/
set_option maxRecDepth 4000 in
theorem wK_told {X : Cx} (a1 a2 : Int) (sw : Bool) (m : Mem) (Q : Int → Bool → Mem → Prop) (h : M2 X 1 mK_isPlace [vi a1, vi a2] sw m (fun z1 sw1 m1 => ((w32 z1 = 0 → Q 0 sw1 m1) ∧ (¬ (w32 z1 = 0) → ((0 ≤ w32 a2 ∧ w32 a2 < 13) ∧ ((0 ≤ w32 a1 ∧ w32 a1 < 9) ∧ Q (m1 (4 + w32 a2) (w32 a1)) sw1 m1)))))) : M2 X 2 mK_told [vr 2, vi a1, vi a2] sw m Q := by
  refine Mt.of pK_told (Nat.le_of_ble_eq_true rfl) (Nat.le_refl _) ?_
  show R2 X 2 mK_told 0 [(0, vr 2), (1, vi a1), (2, vi a2)] [] sw m Q
  refine r_iload_n 1 1 rfl dK_told_0 rfl ?_
  refine r_iload_n 2 2 rfl dK_told_1 rfl ?_
  refine r_callSb [_, _] rfl oK_isPlace iK_isPlace yK_41 (by decide) ⟨Nat.le_refl _, Nat.le_refl _⟩ rfl (Nat.le_of_ble_eq_true rfl) dK_told_2 h (fun z1 r1 m1 h => ?_)
  obtain ⟨sw1, rfl, h⟩ := h
  refine r_if_eq (tgt := 19) dK_told_5 (by decide) (fun hc => ?_) (fun hc => ?_)
  · replace h := h.1 hc
    refine r_iconst dK_told_19 ?_
    exact q_iret rfl h dK_told_20
  · replace h := h.2 hc
    refine r_aload_n 0 0 rfl dK_told_8 rfl ?_
    refine q_getR 0 c2 fK_13 rfl rfl (g2_0 sw1) (by decide) dK_told_9 ?_
    refine r_iload_n 2 2 rfl dK_told_12 rfl ?_
    have hi1 := h.1
    replace h := h.2
    refine q_aaload (w32 a2) (by decide) rfl c3 hi1 (gr3 sw1 hi1) (nr3 hi1) dK_told_13 ?_
    refine r_iload_n 1 1 rfl dK_told_14 rfl ?_
    refine q_iaload (w32 a1) rfl (cr3 hi1) h.1 dK_told_15 ?_
    replace h := h.2
    refine r_goto (tgt := 20) dK_told_16 (by decide) ?_
    exact q_iret rfl h dK_told_20
theorem dK_write_0 : decode mK_write.2.1 0 = .ok (.iload_n 1, 1) := by decide +kernel
theorem dK_write_1 : decode mK_write.2.1 1 = .ok (.iload_n 2, 1) := by decide +kernel
theorem dK_write_2 : decode mK_write.2.1 2 = .ok (.invokestatic 41, 3) := by decide +kernel
theorem dK_write_5 : decode mK_write.2.1 5 = .ok (.ifCond .eq 50, 3) := by decide +kernel
theorem dK_write_8 : decode mK_write.2.1 8 = .ok (.aload_n 0, 1) := by decide +kernel
theorem dK_write_9 : decode mK_write.2.1 9 = .ok (.getfield 13, 3) := by decide +kernel
theorem dK_write_12 : decode mK_write.2.1 12 = .ok (.iload_n 2, 1) := by decide +kernel
theorem dK_write_13 : decode mK_write.2.1 13 = .ok (.aaload, 1) := by decide +kernel
theorem dK_write_14 : decode mK_write.2.1 14 = .ok (.iload_n 1, 1) := by decide +kernel
theorem dK_write_15 : decode mK_write.2.1 15 = .ok (.iload_n 3, 1) := by decide +kernel
theorem dK_write_16 : decode mK_write.2.1 16 = .ok (.iastore, 1) := by decide +kernel
theorem dK_write_17 : decode mK_write.2.1 17 = .ok (.aload_n 0, 1) := by decide +kernel
theorem dK_write_18 : decode mK_write.2.1 18 = .ok (.dup, 1) := by decide +kernel
theorem dK_write_19 : decode mK_write.2.1 19 = .ok (.getfield 45, 3) := by decide +kernel
theorem dK_write_22 : decode mK_write.2.1 22 = .ok (.iconst 1, 1) := by decide +kernel
theorem dK_write_23 : decode mK_write.2.1 23 = .ok (.iadd, 1) := by decide +kernel
theorem dK_write_24 : decode mK_write.2.1 24 = .ok (.putfield 45, 3) := by decide +kernel
theorem dK_write_27 : decode mK_write.2.1 27 = .ok (.aload_n 0, 1) := by decide +kernel
theorem dK_write_28 : decode mK_write.2.1 28 = .ok (.dup, 1) := by decide +kernel
theorem dK_write_29 : decode mK_write.2.1 29 = .ok (.getfield 48, 3) := by decide +kernel
theorem dK_write_32 : decode mK_write.2.1 32 = .ok (.iload_n 2, 1) := by decide +kernel
theorem dK_write_33 : decode mK_write.2.1 33 = .ok (.ifCond .eq 13, 3) := by decide +kernel
theorem dK_write_36 : decode mK_write.2.1 36 = .ok (.iload_n 2, 1) := by decide +kernel
theorem dK_write_37 : decode mK_write.2.1 37 = .ok (.iconst 1, 1) := by decide +kernel
theorem dK_write_38 : decode mK_write.2.1 38 = .ok (.if_icmp .eq 8, 3) := by decide +kernel
theorem dK_write_41 : decode mK_write.2.1 41 = .ok (.iload_n 2, 1) := by decide +kernel
theorem dK_write_42 : decode mK_write.2.1 42 = .ok (.iconst 3, 1) := by decide +kernel
theorem dK_write_43 : decode mK_write.2.1 43 = .ok (.if_icmp .ne 7, 3) := by decide +kernel
theorem dK_write_46 : decode mK_write.2.1 46 = .ok (.iconst 1, 1) := by decide +kernel
theorem dK_write_47 : decode mK_write.2.1 47 = .ok (.goto 4, 3) := by decide +kernel
theorem dK_write_50 : decode mK_write.2.1 50 = .ok (.iconst 0, 1) := by decide +kernel
theorem dK_write_51 : decode mK_write.2.1 51 = .ok (.iadd, 1) := by decide +kernel
theorem dK_write_52 : decode mK_write.2.1 52 = .ok (.putfield 48, 3) := by decide +kernel
theorem dK_write_55 : decode mK_write.2.1 55 = .ok (.return_, 1) := by decide +kernel
/- K_write: (III)V -/
set_option maxRecDepth 4000 in
theorem wK_write {X : Cx} (a1 a2 a3 : Int) (sw : Bool) (m : Mem) (Q : Int → Bool → Mem → Prop) (h : M2 X 1 mK_isPlace [vi a1, vi a2] sw m (fun z1 sw1 m1 => ((w32 z1 = 0 → Q 0 sw1 m1) ∧ (¬ (w32 z1 = 0) → ((0 ≤ w32 a2 ∧ w32 a2 < 13) ∧ ((0 ≤ w32 a1 ∧ w32 a1 < 9) ∧ ((w32 a2 = 0 → Q 0 sw1 (upm (upm (upm m1 (4 + w32 a2) (w32 a1) a3) 2 4 (((upm m1 (4 + w32 a2) (w32 a1) a3) 2 4) + 1)) 2 5 (((upm m1 (4 + w32 a2) (w32 a1) a3) 2 5) + 1))) ∧ (¬ (w32 a2 = 0) → ((w32 a2 = 1 → Q 0 sw1 (upm (upm (upm m1 (4 + w32 a2) (w32 a1) a3) 2 4 (((upm m1 (4 + w32 a2) (w32 a1) a3) 2 4) + 1)) 2 5 (((upm m1 (4 + w32 a2) (w32 a1) a3) 2 5) + 1))) ∧ (¬ (w32 a2 = 1) → ((¬ w32 a2 = 3 → Q 0 sw1 (upm (upm (upm m1 (4 + w32 a2) (w32 a1) a3) 2 4 (((upm m1 (4 + w32 a2) (w32 a1) a3) 2 4) + 1)) 2 5 (((upm m1 (4 + w32 a2) (w32 a1) a3) 2 5) + 0))) ∧ (¬ (¬ w32 a2 = 3) → Q 0 sw1 (upm (upm (upm m1 (4 + w32 a2) (w32 a1) a3) 2 4 (((upm m1 (4 + w32 a2) (w32 a1) a3) 2 4) + 1)) 2 5 (((upm m1 (4 + w32 a2) (w32 a1) a3) 2 5) + 1)))))))))))))) : M2 X 2 mK_write [vr 2, vi a1, vi a2, vi a3] sw m Q := by
  refine Mt.of pK_write (Nat.le_of_ble_eq_true rfl) (Nat.le_refl _) ?_
  show R2 X 2 mK_write 0 [(0, vr 2), (1, vi a1), (2, vi a2), (3, vi a3)] [] sw m Q
  refine r_iload_n 1 1 rfl dK_write_0 rfl ?_
  refine r_iload_n 2 2 rfl dK_write_1 rfl ?_
  refine r_callSb [_, _] rfl oK_isPlace iK_isPlace yK_41 (by decide) ⟨Nat.le_refl _, Nat.le_refl _⟩ rfl (Nat.le_of_ble_eq_true rfl) dK_write_2 h (fun z1 r1 m1 h => ?_)
  obtain ⟨sw1, rfl, h⟩ := h
  refine r_if_eq (tgt := 55) dK_write_5 (by decide) (fun hc => ?_) (fun hc => ?_)
  · replace h := h.1 hc
    exact q_vret rfl h dK_write_55
  · replace h := h.2 hc
    refine r_aload_n 0 0 rfl dK_write_8 rfl ?_
    refine q_getR 0 c2 fK_13 rfl rfl (g2_0 sw1) (by decide) dK_write_9 ?_
    refine r_iload_n 2 2 rfl dK_write_12 rfl ?_
    have hi1 := h.1
    replace h := h.2
    refine q_aaload (w32 a2) (by decide) rfl c3 hi1 (gr3 sw1 hi1) (nr3 hi1) dK_write_13 ?_
    refine r_iload_n 1 1 rfl dK_write_14 rfl ?_
    refine r_iload_n 3 3 rfl dK_write_15 rfl ?_
    refine q_iastore (w32 a1) rfl (cr3 hi1) h.1 dK_write_16 ?_
    replace h := h.2
    refine r_aload_n 0 0 rfl dK_write_17 rfl ?_
    refine r_dup (fun q => by cases q) dK_write_18 ?_
    refine q_getI 4 c2 fK_45 rfl rfl dK_write_19 ?_
    refine r_iconst dK_write_22 ?_
    refine r_iadd dK_write_23 ?_
    refine q_putI 4 c2 pfK_45 rfl rfl dK_write_24 ?_
    refine r_aload_n 0 0 rfl dK_write_27 rfl ?_
    refine r_dup (fun q => by cases q) dK_write_28 ?_
    refine q_getI 5 c2 fK_48 rfl rfl dK_write_29 ?_
    refine r_iload_n 2 2 rfl dK_write_32 rfl ?_
    refine r_if_eq (tgt := 46) dK_write_33 (by decide) (fun hc => ?_) (fun hc => ?_)
    · replace h := h.1 hc
      refine r_iconst dK_write_46 ?_
      refine r_goto (tgt := 51) dK_write_47 (by decide) ?_
      refine r_iadd dK_write_51 ?_
      refine q_putI 5 c2 pfK_48 rfl rfl dK_write_52 ?_
      exact q_vret rfl h dK_write_55
    · replace h := h.2 hc
      refine r_iload_n 2 2 rfl dK_write_36 rfl ?_
      refine r_iconst dK_write_37 ?_
      refine r_ifc_eq (tgt := 46) dK_write_38 (by decide) (fun hc => ?_) (fun hc => ?_)
      · replace h := h.1 hc
        refine r_iconst dK_write_46 ?_
        refine r_goto (tgt := 51) dK_write_47 (by decide) ?_
        refine r_iadd dK_write_51 ?_
        refine q_putI 5 c2 pfK_48 rfl rfl dK_write_52 ?_
        exact q_vret rfl h dK_write_55
      · replace h := h.2 hc
        refine r_iload_n 2 2 rfl dK_write_41 rfl ?_
        refine r_iconst dK_write_42 ?_
        refine r_ifc_ne (tgt := 50) dK_write_43 (by decide) (fun hc => ?_) (fun hc => ?_)
        · replace h := h.1 hc
          refine r_iconst dK_write_50 ?_
          refine r_iadd dK_write_51 ?_
          refine q_putI 5 c2 pfK_48 rfl rfl dK_write_52 ?_
          exact q_vret rfl h dK_write_55
        · replace h := h.2 hc
          refine r_iconst dK_write_46 ?_
          refine r_goto (tgt := 51) dK_write_47 (by decide) ?_
          refine r_iadd dK_write_51 ?_
          refine q_putI 5 c2 pfK_48 rfl rfl dK_write_52 ?_
          exact q_vret rfl h dK_write_55
theorem dK_isPlace_0 : decode mK_isPlace.2.1 0 = .ok (.iload_n 1, 1) := by decide +kernel
theorem dK_isPlace_1 : decode mK_isPlace.2.1 1 = .ok (.ifCond .lt 23, 3) := by decide +kernel
theorem dK_isPlace_4 : decode mK_isPlace.2.1 4 = .ok (.iload_n 1, 1) := by decide +kernel
theorem dK_isPlace_5 : decode mK_isPlace.2.1 5 = .ok (.bipush 13, 2) := by decide +kernel
theorem dK_isPlace_7 : decode mK_isPlace.2.1 7 = .ok (.if_icmp .ge 17, 3) := by decide +kernel
theorem dK_isPlace_10 : decode mK_isPlace.2.1 10 = .ok (.iload_n 0, 1) := by decide +kernel
theorem dK_isPlace_11 : decode mK_isPlace.2.1 11 = .ok (.ifCond .lt 13, 3) := by decide +kernel
theorem dK_isPlace_14 : decode mK_isPlace.2.1 14 = .ok (.iload_n 0, 1) := by decide +kernel
theorem dK_isPlace_15 : decode mK_isPlace.2.1 15 = .ok (.bipush 9, 2) := by decide +kernel
theorem dK_isPlace_17 : decode mK_isPlace.2.1 17 = .ok (.if_icmp .ge 7, 3) := by decide +kernel
theorem dK_isPlace_20 : decode mK_isPlace.2.1 20 = .ok (.iconst 1, 1) := by decide +kernel
theorem dK_isPlace_21 : decode mK_isPlace.2.1 21 = .ok (.goto 4, 3) := by decide +kernel
theorem dK_isPlace_24 : decode mK_isPlace.2.1 24 = .ok (.iconst 0, 1) := by decide +kernel
theorem dK_isPlace_25 : decode mK_isPlace.2.1 25 = .ok (.ireturn, 1) := by decide +kernel
/- K_isPlace: (II)Z -/
set_option maxRecDepth 4000 in
theorem wK_isPlace {X : Cx} (a0 a1 : Int) (sw : Bool) (m : Mem) (Q : Int → Bool → Mem → Prop) (h : ((w32 a1 < 0 → Q 0 sw m) ∧ (¬ (w32 a1 < 0) → ((13 ≤ w32 a1 → Q 0 sw m) ∧ (¬ (13 ≤ w32 a1) → ((w32 a0 < 0 → Q 0 sw m) ∧ (¬ (w32 a0 < 0) → ((9 ≤ w32 a0 → Q 0 sw m) ∧ (¬ (9 ≤ w32 a0) → Q 1 sw m))))))))) : M2 X 1 mK_isPlace [vi a0, vi a1] sw m Q := by
  refine Mt.of pK_isPlace (Nat.le_of_ble_eq_true rfl) (Nat.le_refl _) ?_
  show R2 X 1 mK_isPlace 0 [(0, vi a0), (1, vi a1)] [] sw m Q
  refine r_iload_n 1 1 rfl dK_isPlace_0 rfl ?_
  refine r_if_lt (tgt := 24) dK_isPlace_1 (by decide) (fun hc => ?_) (fun hc => ?_)
  · replace h := h.1 hc
    refine r_iconst dK_isPlace_24 ?_
    exact q_bret rfl (Or.inl rfl) h dK_isPlace_25
  · replace h := h.2 hc
    refine r_iload_n 1 1 rfl dK_isPlace_4 rfl ?_
    refine r_bipush (by decide) dK_isPlace_5 ?_
    refine r_ifc_ge (tgt := 24) dK_isPlace_7 (by decide) (fun hc => ?_) (fun hc => ?_)
    · replace h := h.1 hc
      refine r_iconst dK_isPlace_24 ?_
      exact q_bret rfl (Or.inl rfl) h dK_isPlace_25
    · replace h := h.2 hc
      refine r_iload_n 0 0 rfl dK_isPlace_10 rfl ?_
      refine r_if_lt (tgt := 24) dK_isPlace_11 (by decide) (fun hc => ?_) (fun hc => ?_)
      · replace h := h.1 hc
        refine r_iconst dK_isPlace_24 ?_
        exact q_bret rfl (Or.inl rfl) h dK_isPlace_25
      · replace h := h.2 hc
        refine r_iload_n 0 0 rfl dK_isPlace_14 rfl ?_
        refine r_bipush (by decide) dK_isPlace_15 ?_
        refine r_ifc_ge (tgt := 24) dK_isPlace_17 (by decide) (fun hc => ?_) (fun hc => ?_)
        · replace h := h.1 hc
          refine r_iconst dK_isPlace_24 ?_
          exact q_bret rfl (Or.inl rfl) h dK_isPlace_25
        · replace h := h.2 hc
          refine r_iconst dK_isPlace_20 ?_
          refine r_goto (tgt := 25) dK_isPlace_21 (by decide) ?_
          exact q_bret rfl (Or.inr rfl) h dK_isPlace_25
theorem dK_add_0 : decode mK_add.2.1 0 = .ok (.aload_n 0, 1) := by decide +kernel
theorem dK_add_1 : decode mK_add.2.1 1 = .ok (.aload_n 0, 1) := by decide +kernel
theorem dK_add_2 : decode mK_add.2.1 2 = .ok (.getfield 27, 3) := by decide +kernel
theorem dK_add_5 : decode mK_add.2.1 5 = .ok (.iconst 0, 1) := by decide +kernel
theorem dK_add_6 : decode mK_add.2.1 6 = .ok (.iload_n 1, 1) := by decide +kernel
theorem dK_add_7 : decode mK_add.2.1 7 = .ok (.invokevirtual 51, 3) := by decide +kernel
theorem dK_add_10 : decode mK_add.2.1 10 = .ok (.ifCond .eq 29, 3) := by decide +kernel
theorem dK_add_13 : decode mK_add.2.1 13 = .ok (.aload_n 0, 1) := by decide +kernel
theorem dK_add_14 : decode mK_add.2.1 14 = .ok (.aload_n 0, 1) := by decide +kernel
theorem dK_add_15 : decode mK_add.2.1 15 = .ok (.getfield 27, 3) := by decide +kernel
theorem dK_add_18 : decode mK_add.2.1 18 = .ok (.iconst 2, 1) := by decide +kernel
theorem dK_add_19 : decode mK_add.2.1 19 = .ok (.iload_n 2, 1) := by decide +kernel
theorem dK_add_20 : decode mK_add.2.1 20 = .ok (.invokevirtual 51, 3) := by decide +kernel
theorem dK_add_23 : decode mK_add.2.1 23 = .ok (.ifCond .eq 16, 3) := by decide +kernel
theorem dK_add_26 : decode mK_add.2.1 26 = .ok (.aload_n 0, 1) := by decide +kernel
theorem dK_add_27 : decode mK_add.2.1 27 = .ok (.aload_n 0, 1) := by decide +kernel
theorem dK_add_28 : decode mK_add.2.1 28 = .ok (.getfield 27, 3) := by decide +kernel
theorem dK_add_31 : decode mK_add.2.1 31 = .ok (.iconst 3, 1) := by decide +kernel
theorem dK_add_32 : decode mK_add.2.1 32 = .ok (.iload_n 3, 1) := by decide +kernel
theorem dK_add_33 : decode mK_add.2.1 33 = .ok (.invokevirtual 51, 3) := by decide +kernel
theorem dK_add_36 : decode mK_add.2.1 36 = .ok (.ifCond .ne 5, 3) := by decide +kernel
theorem dK_add_39 : decode mK_add.2.1 39 = .ok (.iconst (-1), 1) := by decide +kernel
theorem dK_add_40 : decode mK_add.2.1 40 = .ok (.ireturn, 1) := by decide +kernel
theorem dK_add_41 : decode mK_add.2.1 41 = .ok (.aload_n 0, 1) := by decide +kernel
theorem dK_add_42 : decode mK_add.2.1 42 = .ok (.getfield 27, 3) := by decide +kernel
theorem dK_add_45 : decode mK_add.2.1 45 = .ok (.bipush 9, 2) := by decide +kernel
theorem dK_add_47 : decode mK_add.2.1 47 = .ok (.if_icmp .lt 6, 3) := by decide +kernel
theorem dK_add_50 : decode mK_add.2.1 50 = .ok (.bipush (-3), 2) := by decide +kernel
theorem dK_add_52 : decode mK_add.2.1 52 = .ok (.ireturn, 1) := by decide +kernel
theorem dK_add_53 : decode mK_add.2.1 53 = .ok (.aload_n 0, 1) := by decide +kernel
theorem dK_add_54 : decode mK_add.2.1 54 = .ok (.getfield 27, 3) := by decide +kernel
theorem dK_add_57 : decode mK_add.2.1 57 = .ok (.istore 4, 2) := by decide +kernel
theorem dK_add_59 : decode mK_add.2.1 59 = .ok (.aload_n 0, 1) := by decide +kernel
theorem dK_add_60 : decode mK_add.2.1 60 = .ok (.dup, 1) := by decide +kernel
theorem dK_add_61 : decode mK_add.2.1 61 = .ok (.getfield 27, 3) := by decide +kernel
theorem dK_add_64 : decode mK_add.2.1 64 = .ok (.iconst 1, 1) := by decide +kernel
theorem dK_add_65 : decode mK_add.2.1 65 = .ok (.iadd, 1) := by decide +kernel
theorem dK_add_66 : decode mK_add.2.1 66 = .ok (.putfield 27, 3) := by decide +kernel
theorem dK_add_69 : decode mK_add.2.1 69 = .ok (.aload_n 0, 1) := by decide +kernel
theorem dK_add_70 : decode mK_add.2.1 70 = .ok (.iload 4, 2) := by decide +kernel
theorem dK_add_72 : decode mK_add.2.1 72 = .ok (.iconst 0, 1) := by decide +kernel
theorem dK_add_73 : decode mK_add.2.1 73 = .ok (.iload_n 1, 1) := by decide +kernel
theorem dK_add_74 : decode mK_add.2.1 74 = .ok (.invokevirtual 55, 3) := by decide +kernel
theorem dK_add_77 : decode mK_add.2.1 77 = .ok (.aload_n 0, 1) := by decide +kernel
theorem dK_add_78 : decode mK_add.2.1 78 = .ok (.iload 4, 2) := by decide +kernel
theorem dK_add_80 : decode mK_add.2.1 80 = .ok (.iconst 2, 1) := by decide +kernel
theorem dK_add_81 : decode mK_add.2.1 81 = .ok (.iload_n 2, 1) := by decide +kernel
theorem dK_add_82 : decode mK_add.2.1 82 = .ok (.invokevirtual 55, 3) := by decide +kernel
theorem dK_add_85 : decode mK_add.2.1 85 = .ok (.aload_n 0, 1) := by decide +kernel
theorem dK_add_86 : decode mK_add.2.1 86 = .ok (.iload 4, 2) := by decide +kernel
theorem dK_add_88 : decode mK_add.2.1 88 = .ok (.iconst 3, 1) := by decide +kernel
theorem dK_add_89 : decode mK_add.2.1 89 = .ok (.iload_n 3, 1) := by decide +kernel
theorem dK_add_90 : decode mK_add.2.1 90 = .ok (.invokevirtual 55, 3) := by decide +kernel
theorem dK_add_93 : decode mK_add.2.1 93 = .ok (.iload 4, 2) := by decide +kernel
theorem dK_add_95 : decode mK_add.2.1 95 = .ok (.ireturn, 1) := by decide +kernel
/- K_add: (III)I -/
set_option maxRecDepth 4000 in
theorem wK_add {X : Cx} (a1 a2 a3 : Int) (sw : Bool) (m : Mem) (Q : Int → Bool → Mem → Prop) (h : M2 X 1 mK_fits [vr 2, vi (m 2 3), vi 0, vi a1] sw m (fun z1 sw1 m1 => ((w32 z1 = 0 → Q (-1) sw1 m1) ∧ (¬ (w32 z1 = 0) → M2 X 1 mK_fits [vr 2, vi (m1 2 3), vi 2, vi a2] sw1 m1 (fun z2 sw2 m2 => ((w32 z2 = 0 → Q (-1) sw2 m2) ∧ (¬ (w32 z2 = 0) → M2 X 1 mK_fits [vr 2, vi (m2 2 3), vi 3, vi a3] sw2 m2 (fun z3 sw3 m3 => ((¬ w32 z3 = 0 → ((w32 (m3 2 3) < 9 → M2 X 2 mK_write [vr 2, vi (m3 2 3), vi 0, vi a1] sw3 (upm m3 2 3 ((m3 2 3) + 1)) (fun z4 sw4 m4 => M2 X 2 mK_write [vr 2, vi (m3 2 3), vi 2, vi a2] sw4 m4 (fun z5 sw5 m5 => M2 X 2 mK_write [vr 2, vi (m3 2 3), vi 3, vi a3] sw5 m5 (fun z6 sw6 m6 => Q (m3 2 3) sw6 m6)))) ∧ (¬ (w32 (m3 2 3) < 9) → Q (-3) sw3 m3))) ∧ (¬ (¬ w32 z3 = 0) → Q (-1) sw3 m3)))))))))) : M2 X 3 mK_add [vr 2, vi a1, vi a2, vi a3] sw m Q := by
  refine Mt.of pK_add (Nat.le_of_ble_eq_true rfl) (Nat.le_refl _) ?_
  show R2 X 3 mK_add 0 [(0, vr 2), (1, vi a1), (2, vi a2), (3, vi a3)] [] sw m Q
  refine r_aload_n 0 0 rfl dK_add_0 rfl ?_
  refine r_aload_n 0 0 rfl dK_add_1 rfl ?_
  refine q_getI 3 c2 fK_27 rfl rfl dK_add_2 ?_
  refine r_iconst dK_add_5 ?_
  refine r_iload_n 1 1 rfl dK_add_6 rfl ?_
  refine r_callVb 1 [_, _, _] rfl c2 rfl rfl oK_fits iK_fits sK_fits yK_51 (by decide) ⟨Nat.le_refl _, Nat.le_refl _⟩ rfl (Nat.le_of_ble_eq_true rfl) dK_add_7 h (fun z1 r1 m1 h => ?_)
  obtain ⟨sw1, rfl, h⟩ := h
  refine r_if_eq (tgt := 39) dK_add_10 (by decide) (fun hc => ?_) (fun hc => ?_)
  · replace h := h.1 hc
    refine r_iconst dK_add_39 ?_
    exact q_iret rfl h dK_add_40
  · replace h := h.2 hc
    refine r_aload_n 0 0 rfl dK_add_13 rfl ?_
    refine r_aload_n 0 0 rfl dK_add_14 rfl ?_
    refine q_getI 3 c2 fK_27 rfl rfl dK_add_15 ?_
    refine r_iconst dK_add_18 ?_
    refine r_iload_n 2 2 rfl dK_add_19 rfl ?_
    refine r_callVb 1 [_, _, _] rfl c2 rfl rfl oK_fits iK_fits sK_fits yK_51 (by decide) ⟨Nat.le_refl _, Nat.le_refl _⟩ rfl (Nat.le_of_ble_eq_true rfl) dK_add_20 h (fun z2 r2 m2 h => ?_)
    obtain ⟨sw2, rfl, h⟩ := h
    refine r_if_eq (tgt := 39) dK_add_23 (by decide) (fun hc => ?_) (fun hc => ?_)
    · replace h := h.1 hc
      refine r_iconst dK_add_39 ?_
      exact q_iret rfl h dK_add_40
    · replace h := h.2 hc
      refine r_aload_n 0 0 rfl dK_add_26 rfl ?_
      refine r_aload_n 0 0 rfl dK_add_27 rfl ?_
      refine q_getI 3 c2 fK_27 rfl rfl dK_add_28 ?_
      refine r_iconst dK_add_31 ?_
      refine r_iload_n 3 3 rfl dK_add_32 rfl ?_
      refine r_callVb 1 [_, _, _] rfl c2 rfl rfl oK_fits iK_fits sK_fits yK_51 (by decide) ⟨Nat.le_refl _, Nat.le_refl _⟩ rfl (Nat.le_of_ble_eq_true rfl) dK_add_33 h (fun z3 r3 m3 h => ?_)
      obtain ⟨sw3, rfl, h⟩ := h
      refine r_if_ne (tgt := 41) dK_add_36 (by decide) (fun hc => ?_) (fun hc => ?_)
      · replace h := h.1 hc
        refine r_aload_n 0 0 rfl dK_add_41 rfl ?_
        refine q_getI 3 c2 fK_27 rfl rfl dK_add_42 ?_
        refine r_bipush (by decide) dK_add_45 ?_
        refine r_ifc_lt (tgt := 53) dK_add_47 (by decide) (fun hc => ?_) (fun hc => ?_)
        · replace h := h.1 hc
          refine r_aload_n 0 0 rfl dK_add_53 rfl ?_
          refine q_getI 3 c2 fK_27 rfl rfl dK_add_54 ?_
          refine r_istore 4 (by decide) dK_add_57 ?_
          refine r_aload_n 0 1 rfl dK_add_59 rfl ?_
          refine r_dup (fun q => by cases q) dK_add_60 ?_
          refine q_getI 3 c2 fK_27 rfl rfl dK_add_61 ?_
          refine r_iconst dK_add_64 ?_
          refine r_iadd dK_add_65 ?_
          refine q_putI 3 c2 pfK_27 rfl rfl dK_add_66 ?_
          refine r_aload_n 0 1 rfl dK_add_69 rfl ?_
          refine r_iload 4 0 rfl dK_add_70 ?_
          refine r_iconst dK_add_72 ?_
          refine r_iload_n 1 2 rfl dK_add_73 rfl ?_
          refine r_callVv 1 [_, _, _] rfl c2 rfl rfl oK_write iK_write sK_write yK_55 (by decide) ⟨Nat.le_refl _, Nat.le_refl _⟩ rfl (Nat.le_of_ble_eq_true rfl) dK_add_74 h (fun z4 r4 m4 h => ?_)
          obtain ⟨sw4, rfl, h⟩ := h
          refine r_aload_n 0 1 rfl dK_add_77 rfl ?_
          refine r_iload 4 0 rfl dK_add_78 ?_
          refine r_iconst dK_add_80 ?_
          refine r_iload_n 2 3 rfl dK_add_81 rfl ?_
          refine r_callVv 1 [_, _, _] rfl c2 rfl rfl oK_write iK_write sK_write yK_55 (by decide) ⟨Nat.le_refl _, Nat.le_refl _⟩ rfl (Nat.le_of_ble_eq_true rfl) dK_add_82 h (fun z5 r5 m5 h => ?_)
          obtain ⟨sw5, rfl, h⟩ := h
          refine r_aload_n 0 1 rfl dK_add_85 rfl ?_
          refine r_iload 4 0 rfl dK_add_86 ?_
          refine r_iconst dK_add_88 ?_
          refine r_iload_n 3 4 rfl dK_add_89 rfl ?_
          refine r_callVv 1 [_, _, _] rfl c2 rfl rfl oK_write iK_write sK_write yK_55 (by decide) ⟨Nat.le_refl _, Nat.le_refl _⟩ rfl (Nat.le_of_ble_eq_true rfl) dK_add_90 h (fun z6 r6 m6 h => ?_)
          obtain ⟨sw6, rfl, h⟩ := h
          refine r_iload 4 0 rfl dK_add_93 ?_
          exact q_iret rfl h dK_add_95
        · replace h := h.2 hc
          refine r_bipush (by decide) dK_add_50 ?_
          exact q_iret rfl h dK_add_52
      · replace h := h.2 hc
        refine r_iconst dK_add_39 ?_
        exact q_iret rfl h dK_add_40
theorem dK_twelfths_0 : decode mK_twelfths.2.1 0 = .ok (.aload_n 0, 1) := by decide +kernel
theorem dK_twelfths_1 : decode mK_twelfths.2.1 1 = .ok (.iload_n 1, 1) := by decide +kernel
theorem dK_twelfths_2 : decode mK_twelfths.2.1 2 = .ok (.iconst 2, 1) := by decide +kernel
theorem dK_twelfths_3 : decode mK_twelfths.2.1 3 = .ok (.invokevirtual 59, 3) := by decide +kernel
theorem dK_twelfths_6 : decode mK_twelfths.2.1 6 = .ok (.istore_n 3, 1) := by decide +kernel
theorem dK_twelfths_7 : decode mK_twelfths.2.1 7 = .ok (.aload_n 0, 1) := by decide +kernel
theorem dK_twelfths_8 : decode mK_twelfths.2.1 8 = .ok (.iconst 0, 1) := by decide +kernel
theorem dK_twelfths_9 : decode mK_twelfths.2.1 9 = .ok (.bipush 6, 2) := by decide +kernel
theorem dK_twelfths_11 : decode mK_twelfths.2.1 11 = .ok (.invokevirtual 59, 3) := by decide +kernel
theorem dK_twelfths_14 : decode mK_twelfths.2.1 14 = .ok (.istore 4, 2) := by decide +kernel
theorem dK_twelfths_16 : decode mK_twelfths.2.1 16 = .ok (.aload_n 0, 1) := by decide +kernel
theorem dK_twelfths_17 : decode mK_twelfths.2.1 17 = .ok (.iload_n 1, 1) := by decide +kernel
theorem dK_twelfths_18 : decode mK_twelfths.2.1 18 = .ok (.iconst 4, 1) := by decide +kernel
theorem dK_twelfths_19 : decode mK_twelfths.2.1 19 = .ok (.invokevirtual 59, 3) := by decide +kernel
theorem dK_twelfths_22 : decode mK_twelfths.2.1 22 = .ok (.istore 5, 2) := by decide +kernel
theorem dK_twelfths_24 : decode mK_twelfths.2.1 24 = .ok (.aload_n 0, 1) := by decide +kernel
theorem dK_twelfths_25 : decode mK_twelfths.2.1 25 = .ok (.iconst 0, 1) := by decide +kernel
theorem dK_twelfths_26 : decode mK_twelfths.2.1 26 = .ok (.bipush 7, 2) := by decide +kernel
theorem dK_twelfths_28 : decode mK_twelfths.2.1 28 = .ok (.invokevirtual 59, 3) := by decide +kernel
theorem dK_twelfths_31 : decode mK_twelfths.2.1 31 = .ok (.istore 6, 2) := by decide +kernel
theorem dK_twelfths_33 : decode mK_twelfths.2.1 33 = .ok (.iload_n 3, 1) := by decide +kernel
theorem dK_twelfths_34 : decode mK_twelfths.2.1 34 = .ok (.iload 4, 2) := by decide +kernel
theorem dK_twelfths_36 : decode mK_twelfths.2.1 36 = .ok (.iconst 3, 1) := by decide +kernel
theorem dK_twelfths_37 : decode mK_twelfths.2.1 37 = .ok (.idiv, 1) := by decide +kernel
theorem dK_twelfths_38 : decode mK_twelfths.2.1 38 = .ok (.isub, 1) := by decide +kernel
theorem dK_twelfths_39 : decode mK_twelfths.2.1 39 = .ok (.iload_n 2, 1) := by decide +kernel
theorem dK_twelfths_40 : decode mK_twelfths.2.1 40 = .ok (.iload 5, 2) := by decide +kernel
theorem dK_twelfths_42 : decode mK_twelfths.2.1 42 = .ok (.imul, 1) := by decide +kernel
theorem dK_twelfths_43 : decode mK_twelfths.2.1 43 = .ok (.bipush 10, 2) := by decide +kernel
theorem dK_twelfths_45 : decode mK_twelfths.2.1 45 = .ok (.idiv, 1) := by decide +kernel
theorem dK_twelfths_46 : decode mK_twelfths.2.1 46 = .ok (.isub, 1) := by decide +kernel
theorem dK_twelfths_47 : decode mK_twelfths.2.1 47 = .ok (.iload 6, 2) := by decide +kernel
theorem dK_twelfths_49 : decode mK_twelfths.2.1 49 = .ok (.isub, 1) := by decide +kernel
theorem dK_twelfths_50 : decode mK_twelfths.2.1 50 = .ok (.istore 7, 2) := by decide +kernel
theorem dK_twelfths_52 : decode mK_twelfths.2.1 52 = .ok (.aload_n 0, 1) := by decide +kernel
theorem dK_twelfths_53 : decode mK_twelfths.2.1 53 = .ok (.getfield 23, 3) := by decide +kernel
theorem dK_twelfths_56 : decode mK_twelfths.2.1 56 = .ok (.invokevirtual 63, 3) := by decide +kernel
theorem dK_twelfths_59 : decode mK_twelfths.2.1 59 = .ok (.ifCond .eq 61, 3) := by decide +kernel
theorem dK_twelfths_62 : decode mK_twelfths.2.1 62 = .ok (.aload_n 0, 1) := by decide +kernel
theorem dK_twelfths_63 : decode mK_twelfths.2.1 63 = .ok (.getfield 16, 3) := by decide +kernel
theorem dK_twelfths_66 : decode mK_twelfths.2.1 66 = .ok (.iconst 0, 1) := by decide +kernel
theorem dK_twelfths_67 : decode mK_twelfths.2.1 67 = .ok (.iload_n 3, 1) := by decide +kernel
theorem dK_twelfths_68 : decode mK_twelfths.2.1 68 = .ok (.iastore, 1) := by decide +kernel
theorem dK_twelfths_69 : decode mK_twelfths.2.1 69 = .ok (.aload_n 0, 1) := by decide +kernel
theorem dK_twelfths_70 : decode mK_twelfths.2.1 70 = .ok (.getfield 16, 3) := by decide +kernel
theorem dK_twelfths_73 : decode mK_twelfths.2.1 73 = .ok (.iconst 1, 1) := by decide +kernel
theorem dK_twelfths_74 : decode mK_twelfths.2.1 74 = .ok (.iload 4, 2) := by decide +kernel
theorem dK_twelfths_76 : decode mK_twelfths.2.1 76 = .ok (.iastore, 1) := by decide +kernel
theorem dK_twelfths_77 : decode mK_twelfths.2.1 77 = .ok (.aload_n 0, 1) := by decide +kernel
theorem dK_twelfths_78 : decode mK_twelfths.2.1 78 = .ok (.getfield 16, 3) := by decide +kernel
theorem dK_twelfths_81 : decode mK_twelfths.2.1 81 = .ok (.iconst 2, 1) := by decide +kernel
theorem dK_twelfths_82 : decode mK_twelfths.2.1 82 = .ok (.iload_n 2, 1) := by decide +kernel
theorem dK_twelfths_83 : decode mK_twelfths.2.1 83 = .ok (.iastore, 1) := by decide +kernel
theorem dK_twelfths_84 : decode mK_twelfths.2.1 84 = .ok (.aload_n 0, 1) := by decide +kernel
theorem dK_twelfths_85 : decode mK_twelfths.2.1 85 = .ok (.getfield 16, 3) := by decide +kernel
theorem dK_twelfths_88 : decode mK_twelfths.2.1 88 = .ok (.iconst 3, 1) := by decide +kernel
theorem dK_twelfths_89 : decode mK_twelfths.2.1 89 = .ok (.iload 5, 2) := by decide +kernel
theorem dK_twelfths_91 : decode mK_twelfths.2.1 91 = .ok (.iastore, 1) := by decide +kernel
theorem dK_twelfths_92 : decode mK_twelfths.2.1 92 = .ok (.aload_n 0, 1) := by decide +kernel
theorem dK_twelfths_93 : decode mK_twelfths.2.1 93 = .ok (.getfield 16, 3) := by decide +kernel
theorem dK_twelfths_96 : decode mK_twelfths.2.1 96 = .ok (.iconst 4, 1) := by decide +kernel
theorem dK_twelfths_97 : decode mK_twelfths.2.1 97 = .ok (.iload 6, 2) := by decide +kernel
theorem dK_twelfths_99 : decode mK_twelfths.2.1 99 = .ok (.iastore, 1) := by decide +kernel
theorem dK_twelfths_100 : decode mK_twelfths.2.1 100 = .ok (.aload_n 0, 1) := by decide +kernel
theorem dK_twelfths_101 : decode mK_twelfths.2.1 101 = .ok (.getfield 16, 3) := by decide +kernel
theorem dK_twelfths_104 : decode mK_twelfths.2.1 104 = .ok (.iconst 5, 1) := by decide +kernel
theorem dK_twelfths_105 : decode mK_twelfths.2.1 105 = .ok (.iload_n 1, 1) := by decide +kernel
theorem dK_twelfths_106 : decode mK_twelfths.2.1 106 = .ok (.iastore, 1) := by decide +kernel
theorem dK_twelfths_107 : decode mK_twelfths.2.1 107 = .ok (.aload_n 0, 1) := by decide +kernel
theorem dK_twelfths_108 : decode mK_twelfths.2.1 108 = .ok (.getfield 23, 3) := by decide +kernel
theorem dK_twelfths_111 : decode mK_twelfths.2.1 111 = .ok (.aload_n 0, 1) := by decide +kernel
theorem dK_twelfths_112 : decode mK_twelfths.2.1 112 = .ok (.getfield 16, 3) := by decide +kernel
theorem dK_twelfths_115 : decode mK_twelfths.2.1 115 = .ok (.invokevirtual 67, 3) := by decide +kernel
theorem dK_twelfths_118 : decode mK_twelfths.2.1 118 = .ok (.istore 7, 2) := by decide +kernel
theorem dK_twelfths_120 : decode mK_twelfths.2.1 120 = .ok (.iconst 0, 1) := by decide +kernel
theorem dK_twelfths_121 : decode mK_twelfths.2.1 121 = .ok (.bipush 12, 2) := by decide +kernel
theorem dK_twelfths_123 : decode mK_twelfths.2.1 123 = .ok (.iload 7, 2) := by decide +kernel
theorem dK_twelfths_125 : decode mK_twelfths.2.1 125 = .ok (.invokestatic 71, 3) := by decide +kernel
theorem dK_twelfths_128 : decode mK_twelfths.2.1 128 = .ok (.invokestatic 76, 3) := by decide +kernel
theorem dK_twelfths_131 : decode mK_twelfths.2.1 131 = .ok (.ireturn, 1) := by decide +kernel
/- K_twelfths: (II)I -/
set_option maxRecDepth 4000 in
theorem wK_twelfths {X : Cx} (a1 a2 : Int) (sw : Bool) (m : Mem) (Q : Int → Bool → Mem → Prop) (h : M2 X 2 mK_told [vr 2, vi a1, vi 2] sw m (fun z1 sw1 m1 => M2 X 2 mK_told [vr 2, vi 0, vi 6] sw1 m1 (fun z2 sw2 m2 => M2 X 2 mK_told [vr 2, vi a1, vi 4] sw2 m2 (fun z3 sw3 m3 => M2 X 2 mK_told [vr 2, vi 0, vi 7] sw3 m3 (fun z4 sw4 m4 => M2 X 1 mL_isWritten [vr 18] sw4 m4 (fun z5 sw5 m5 => ((w32 z5 = 0 → Q (max 0 (w32 (min 12 (w32 (((z1 - (zdiv z2 3)) - (zdiv (a2 * z3) 10)) - z4))))) sw5 m5) ∧ (¬ (w32 z5 = 0) → M2 X 3 mL_give [vr 18, vr 17] sw5 (upm (upm (upm (upm (upm (upm m5 17 0 z1) 17 1 z2) 17 2 a2) 17 3 z3) 17 4 z4) 17 5 a1) (fun z6 sw6 m6 => Q (max 0 (w32 (min 12 (w32 z6)))) sw6 m6))))))))) : M2 X 4 mK_twelfths [vr 2, vi a1, vi a2] sw m Q := by
  refine Mt.of pK_twelfths (Nat.le_of_ble_eq_true rfl) (Nat.le_refl _) ?_
  show R2 X 4 mK_twelfths 0 [(0, vr 2), (1, vi a1), (2, vi a2)] [] sw m Q
  refine r_aload_n 0 0 rfl dK_twelfths_0 rfl ?_
  refine r_iload_n 1 1 rfl dK_twelfths_1 rfl ?_
  refine r_iconst dK_twelfths_2 ?_
  refine r_callVi 1 [_, _] rfl c2 rfl rfl oK_told iK_told sK_told yK_59 (by decide) ⟨Nat.le_refl _, Nat.le_refl _⟩ rfl (Nat.le_of_ble_eq_true rfl) dK_twelfths_3 h (fun z1 r1 m1 h => ?_)
  obtain ⟨sw1, rfl, h⟩ := h
  refine r_istore_n 3 (by decide) dK_twelfths_6 rfl ?_
  refine r_aload_n 0 1 rfl dK_twelfths_7 rfl ?_
  refine r_iconst dK_twelfths_8 ?_
  refine r_bipush (by decide) dK_twelfths_9 ?_
  refine r_callVi 1 [_, _] rfl c2 rfl rfl oK_told iK_told sK_told yK_59 (by decide) ⟨Nat.le_refl _, Nat.le_refl _⟩ rfl (Nat.le_of_ble_eq_true rfl) dK_twelfths_11 h (fun z2 r2 m2 h => ?_)
  obtain ⟨sw2, rfl, h⟩ := h
  refine r_istore 4 (by decide) dK_twelfths_14 ?_
  refine r_aload_n 0 2 rfl dK_twelfths_16 rfl ?_
  refine r_iload_n 1 3 rfl dK_twelfths_17 rfl ?_
  refine r_iconst dK_twelfths_18 ?_
  refine r_callVi 1 [_, _] rfl c2 rfl rfl oK_told iK_told sK_told yK_59 (by decide) ⟨Nat.le_refl _, Nat.le_refl _⟩ rfl (Nat.le_of_ble_eq_true rfl) dK_twelfths_19 h (fun z3 r3 m3 h => ?_)
  obtain ⟨sw3, rfl, h⟩ := h
  refine r_istore 5 (by decide) dK_twelfths_22 ?_
  refine r_aload_n 0 3 rfl dK_twelfths_24 rfl ?_
  refine r_iconst dK_twelfths_25 ?_
  refine r_bipush (by decide) dK_twelfths_26 ?_
  refine r_callVi 1 [_, _] rfl c2 rfl rfl oK_told iK_told sK_told yK_59 (by decide) ⟨Nat.le_refl _, Nat.le_refl _⟩ rfl (Nat.le_of_ble_eq_true rfl) dK_twelfths_28 h (fun z4 r4 m4 h => ?_)
  obtain ⟨sw4, rfl, h⟩ := h
  refine r_istore 6 (by decide) dK_twelfths_31 ?_
  refine r_iload_n 3 3 rfl dK_twelfths_33 rfl ?_
  refine r_iload 4 2 rfl dK_twelfths_34 ?_
  refine r_iconst dK_twelfths_36 ?_
  refine r_idiv (by decide) dK_twelfths_37 ?_
  refine r_isub dK_twelfths_38 ?_
  refine r_iload_n 2 6 rfl dK_twelfths_39 rfl ?_
  refine r_iload 5 1 rfl dK_twelfths_40 ?_
  refine r_imul dK_twelfths_42 ?_
  refine r_bipush (by decide) dK_twelfths_43 ?_
  refine r_idiv (by decide) dK_twelfths_45 ?_
  refine r_isub dK_twelfths_46 ?_
  refine r_iload 6 0 rfl dK_twelfths_47 ?_
  refine r_isub dK_twelfths_49 ?_
  refine r_istore 7 (by decide) dK_twelfths_50 ?_
  refine r_aload_n 0 5 rfl dK_twelfths_52 rfl ?_
  refine q_getR 2 c2 fK_23 rfl rfl (g2_2 sw4) (by decide) dK_twelfths_53 ?_
  refine r_callVb 2 [] rfl c18 rfl rfl oL_isWritten iL_isWritten sL_isWritten yK_63 (by decide) ⟨Nat.le_refl _, Nat.le_refl _⟩ rfl (Nat.le_of_ble_eq_true rfl) dK_twelfths_56 h (fun z5 r5 m5 h => ?_)
  obtain ⟨sw5, rfl, h⟩ := h
  refine r_if_eq (tgt := 120) dK_twelfths_59 (by decide) (fun hc => ?_) (fun hc => ?_)
  · replace h := h.1 hc
    refine r_iconst dK_twelfths_120 ?_
    refine r_bipush (by decide) dK_twelfths_121 ?_
    refine r_iload 7 0 rfl dK_twelfths_123 ?_
    refine r_min yK_71 kS_min kMathI kC_min (by decide) (Nat.le_of_ble_eq_true rfl) dK_twelfths_125 ?_
    refine r_max yK_76 kS_max kMathI kC_max (by decide) (Nat.le_of_ble_eq_true rfl) dK_twelfths_128 ?_
    exact q_iret rfl h dK_twelfths_131
  · replace h := h.2 hc
    refine r_aload_n 0 5 rfl dK_twelfths_62 rfl ?_
    refine q_getR 1 c2 fK_16 rfl rfl (g2_1 sw5) (by decide) dK_twelfths_63 ?_
    refine r_iconst dK_twelfths_66 ?_
    refine r_iload_n 3 4 rfl dK_twelfths_67 rfl ?_
    refine q_iastore 0 rfl c17 (by decide) dK_twelfths_68 ?_
    refine r_aload_n 0 5 rfl dK_twelfths_69 rfl ?_
    refine q_getR 1 c2 fK_16 rfl rfl (g2_1 sw5) (by decide) dK_twelfths_70 ?_
    refine r_iconst dK_twelfths_73 ?_
    refine r_iload 4 3 rfl dK_twelfths_74 ?_
    refine q_iastore 1 rfl c17 (by decide) dK_twelfths_76 ?_
    refine r_aload_n 0 5 rfl dK_twelfths_77 rfl ?_
    refine q_getR 1 c2 fK_16 rfl rfl (g2_1 sw5) (by decide) dK_twelfths_78 ?_
    refine r_iconst dK_twelfths_81 ?_
    refine r_iload_n 2 7 rfl dK_twelfths_82 rfl ?_
    refine q_iastore 2 rfl c17 (by decide) dK_twelfths_83 ?_
    refine r_aload_n 0 5 rfl dK_twelfths_84 rfl ?_
    refine q_getR 1 c2 fK_16 rfl rfl (g2_1 sw5) (by decide) dK_twelfths_85 ?_
    refine r_iconst dK_twelfths_88 ?_
    refine r_iload 5 2 rfl dK_twelfths_89 ?_
    refine q_iastore 3 rfl c17 (by decide) dK_twelfths_91 ?_
    refine r_aload_n 0 5 rfl dK_twelfths_92 rfl ?_
    refine q_getR 1 c2 fK_16 rfl rfl (g2_1 sw5) (by decide) dK_twelfths_93 ?_
    refine r_iconst dK_twelfths_96 ?_
    refine r_iload 6 1 rfl dK_twelfths_97 ?_
    refine q_iastore 4 rfl c17 (by decide) dK_twelfths_99 ?_
    refine r_aload_n 0 5 rfl dK_twelfths_100 rfl ?_
    refine q_getR 1 c2 fK_16 rfl rfl (g2_1 sw5) (by decide) dK_twelfths_101 ?_
    refine r_iconst dK_twelfths_104 ?_
    refine r_iload_n 1 6 rfl dK_twelfths_105 rfl ?_
    refine q_iastore 5 rfl c17 (by decide) dK_twelfths_106 ?_
    refine r_aload_n 0 5 rfl dK_twelfths_107 rfl ?_
    refine q_getR 2 c2 fK_23 rfl rfl (g2_2 sw5) (by decide) dK_twelfths_108 ?_
    refine r_aload_n 0 5 rfl dK_twelfths_111 rfl ?_
    refine q_getR 1 c2 fK_16 rfl rfl (g2_1 sw5) (by decide) dK_twelfths_112 ?_
    refine r_callVi 2 [_] rfl c18 rfl rfl oL_give iL_give sL_give yK_67 (by decide) ⟨Nat.le_refl _, Nat.le_refl _⟩ rfl (Nat.le_of_ble_eq_true rfl) dK_twelfths_115 h (fun z6 r6 m6 h => ?_)
    obtain ⟨sw6, rfl, h⟩ := h
    refine r_istore 7 (by decide) dK_twelfths_118 ?_
    refine r_iconst dK_twelfths_120 ?_
    refine r_bipush (by decide) dK_twelfths_121 ?_
    refine r_iload 7 0 rfl dK_twelfths_123 ?_
    refine r_min yK_71 kS_min kMathI kC_min (by decide) (Nat.le_of_ble_eq_true rfl) dK_twelfths_125 ?_
    refine r_max yK_76 kS_max kMathI kC_max (by decide) (Nat.le_of_ble_eq_true rfl) dK_twelfths_128 ?_
    exact q_iret rfl h dK_twelfths_131
theorem dK_ageAll_0 : decode mK_ageAll.2.1 0 = .ok (.iconst 0, 1) := by decide +kernel
theorem dK_ageAll_1 : decode mK_ageAll.2.1 1 = .ok (.istore_n 1, 1) := by decide +kernel
theorem dK_ageAll_2 : decode mK_ageAll.2.1 2 = .ok (.iload_n 1, 1) := by decide +kernel
theorem dK_ageAll_3 : decode mK_ageAll.2.1 3 = .ok (.aload_n 0, 1) := by decide +kernel
theorem dK_ageAll_4 : decode mK_ageAll.2.1 4 = .ok (.getfield 27, 3) := by decide +kernel
theorem dK_ageAll_7 : decode mK_ageAll.2.1 7 = .ok (.if_icmp .ge 28, 3) := by decide +kernel
theorem dK_ageAll_10 : decode mK_ageAll.2.1 10 = .ok (.aload_n 0, 1) := by decide +kernel
theorem dK_ageAll_11 : decode mK_ageAll.2.1 11 = .ok (.iload_n 1, 1) := by decide +kernel
theorem dK_ageAll_12 : decode mK_ageAll.2.1 12 = .ok (.iconst 5, 1) := by decide +kernel
theorem dK_ageAll_13 : decode mK_ageAll.2.1 13 = .ok (.bipush 99, 2) := by decide +kernel
theorem dK_ageAll_15 : decode mK_ageAll.2.1 15 = .ok (.aload_n 0, 1) := by decide +kernel
theorem dK_ageAll_16 : decode mK_ageAll.2.1 16 = .ok (.iload_n 1, 1) := by decide +kernel
theorem dK_ageAll_17 : decode mK_ageAll.2.1 17 = .ok (.iconst 5, 1) := by decide +kernel
theorem dK_ageAll_18 : decode mK_ageAll.2.1 18 = .ok (.invokevirtual 59, 3) := by decide +kernel
theorem dK_ageAll_21 : decode mK_ageAll.2.1 21 = .ok (.iconst 1, 1) := by decide +kernel
theorem dK_ageAll_22 : decode mK_ageAll.2.1 22 = .ok (.iadd, 1) := by decide +kernel
theorem dK_ageAll_23 : decode mK_ageAll.2.1 23 = .ok (.invokestatic 71, 3) := by decide +kernel
theorem dK_ageAll_26 : decode mK_ageAll.2.1 26 = .ok (.invokevirtual 55, 3) := by decide +kernel
theorem dK_ageAll_29 : decode mK_ageAll.2.1 29 = .ok (.iinc 1 1, 3) := by decide +kernel
theorem dK_ageAll_32 : decode mK_ageAll.2.1 32 = .ok (.goto (-30), 3) := by decide +kernel
theorem dK_ageAll_35 : decode mK_ageAll.2.1 35 = .ok (.return_, 1) := by decide +kernel
/- K_ageAll: ()V -/
set_option maxRecDepth 4000 in
theorem wK_ageAll {X : Cx} (sw : Bool) (m : Mem) (Q : Int → Bool → Mem → Prop) (h : R2 X 3 mK_ageAll 2 [(0, vr 2), (1, vi 0)] [] sw m Q) : M2 X 3 mK_ageAll [vr 2] sw m Q := by
  refine Mt.of pK_ageAll (Nat.le_of_ble_eq_true rfl) (Nat.le_refl _) ?_
  show R2 X 3 mK_ageAll 0 [(0, vr 2)] [] sw m Q
  refine r_iconst dK_ageAll_0 ?_
  refine r_istore_n 1 (by decide) dK_ageAll_1 rfl ?_
  refine r_sub [1, 0] ?_ h
  rfl
set_option maxRecDepth 4000 in
theorem wK_ageAll_2 {X : Cx} (x1 : Int) (sw : Bool) (m : Mem) (Q : Int → Bool → Mem → Prop) (h : ((w32 (m 2 3) ≤ w32 x1 → Q 0 sw m) ∧ (¬ (w32 (m 2 3) ≤ w32 x1) → M2 X 2 mK_told [vr 2, vi x1, vi 5] sw m (fun z1 sw1 m1 => M2 X 2 mK_write [vr 2, vi x1, vi 5, vi (min 99 (w32 (z1 + 1)))] sw1 m1 (fun z2 sw2 m2 => R2 X 3 mK_ageAll 2 [(0, vr 2), (1, vi (x1 + 1))] [] sw2 m2 Q))))) : R2 X 3 mK_ageAll 2 [(0, vr 2), (1, vi x1)] [] sw m Q := by
  refine r_iload_n 1 1 rfl dK_ageAll_2 rfl ?_
  refine r_aload_n 0 0 rfl dK_ageAll_3 rfl ?_
  refine q_getI 3 c2 fK_27 rfl rfl dK_ageAll_4 ?_
  refine r_ifc_ge (tgt := 35) dK_ageAll_7 (by decide) (fun hc => ?_) (fun hc => ?_)
  · replace h := h.1 hc
    exact q_vret rfl h dK_ageAll_35
  · replace h := h.2 hc
    refine r_aload_n 0 0 rfl dK_ageAll_10 rfl ?_
    refine r_iload_n 1 1 rfl dK_ageAll_11 rfl ?_
    refine r_iconst dK_ageAll_12 ?_
    refine r_bipush (by decide) dK_ageAll_13 ?_
    refine r_aload_n 0 0 rfl dK_ageAll_15 rfl ?_
    refine r_iload_n 1 1 rfl dK_ageAll_16 rfl ?_
    refine r_iconst dK_ageAll_17 ?_
    refine r_callVi 1 [_, _] rfl c2 rfl rfl oK_told iK_told sK_told yK_59 (by decide) ⟨Nat.le_refl _, Nat.le_refl _⟩ rfl (Nat.le_of_ble_eq_true rfl) dK_ageAll_18 h (fun z1 r1 m1 h => ?_)
    obtain ⟨sw1, rfl, h⟩ := h
    refine r_iconst dK_ageAll_21 ?_
    refine r_iadd dK_ageAll_22 ?_
    refine r_min yK_71 kS_min kMathI kC_min (by decide) (Nat.le_of_ble_eq_true rfl) dK_ageAll_23 ?_
    refine r_callVv 1 [_, _, _] rfl c2 rfl rfl oK_write iK_write sK_write yK_55 (by decide) ⟨Nat.le_refl _, Nat.le_refl _⟩ rfl (Nat.le_of_ble_eq_true rfl) dK_ageAll_26 h (fun z2 r2 m2 h => ?_)
    obtain ⟨sw2, rfl, h⟩ := h
    refine r_iinc 1 1 rfl (by decide) dK_ageAll_29 ?_
    refine r_goto (tgt := 2) dK_ageAll_32 (by decide) ?_
    refine r_sub [1, 0] ?_ h
    rfl
