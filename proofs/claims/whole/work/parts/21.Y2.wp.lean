theorem dY_failed_0 : decode mY_failed.2.1 0 = .ok (.iload_n 1, 1) := by decide +kernel
theorem dY_failed_1 : decode mY_failed.2.1 1 = .ok (.invokestatic 324, 3) := by decide +kernel
theorem dY_failed_4 : decode mY_failed.2.1 4 = .ok (.ifCond .eq 20, 3) := by decide +kernel
theorem dY_failed_7 : decode mY_failed.2.1 7 = .ok (.aload_n 0, 1) := by decide +kernel
theorem dY_failed_8 : decode mY_failed.2.1 8 = .ok (.iload_n 2, 1) := by decide +kernel
theorem dY_failed_9 : decode mY_failed.2.1 9 = .ok (.invokevirtual 164, 3) := by decide +kernel
theorem dY_failed_12 : decode mY_failed.2.1 12 = .ok (.ifCond .eq 12, 3) := by decide +kernel
theorem dY_failed_15 : decode mY_failed.2.1 15 = .ok (.iload_n 3, 1) := by decide +kernel
theorem dY_failed_16 : decode mY_failed.2.1 16 = .ok (.iconst 0, 1) := by decide +kernel
theorem dY_failed_17 : decode mY_failed.2.1 17 = .ok (.iconst 1, 1) := by decide +kernel
theorem dY_failed_18 : decode mY_failed.2.1 18 = .ok (.invokestatic 133, 3) := by decide +kernel
theorem dY_failed_21 : decode mY_failed.2.1 21 = .ok (.ifCond .ne 7, 3) := by decide +kernel
theorem dY_failed_24 : decode mY_failed.2.1 24 = .ok (.ldc2_w 282, 3) := by decide +kernel
theorem dY_failed_27 : decode mY_failed.2.1 27 = .ok (.lreturn, 1) := by decide +kernel
theorem dY_failed_28 : decode mY_failed.2.1 28 = .ok (.aload_n 0, 1) := by decide +kernel
theorem dY_failed_29 : decode mY_failed.2.1 29 = .ok (.iload_n 1, 1) := by decide +kernel
theorem dY_failed_30 : decode mY_failed.2.1 30 = .ok (.invokevirtual 327, 3) := by decide +kernel
theorem dY_failed_33 : decode mY_failed.2.1 33 = .ok (.aload_n 0, 1) := by decide +kernel
theorem dY_failed_34 : decode mY_failed.2.1 34 = .ok (.getfield 85, 3) := by decide +kernel
theorem dY_failed_37 : decode mY_failed.2.1 37 = .ok (.iload_n 2, 1) := by decide +kernel
theorem dY_failed_38 : decode mY_failed.2.1 38 = .ok (.laload, 1) := by decide +kernel
theorem dY_failed_39 : decode mY_failed.2.1 39 = .ok (.aload_n 0, 1) := by decide +kernel
theorem dY_failed_40 : decode mY_failed.2.1 40 = .ok (.getfield 320, 3) := by decide +kernel
theorem dY_failed_43 : decode mY_failed.2.1 43 = .ok (.iload_n 3, 1) := by decide +kernel
theorem dY_failed_44 : decode mY_failed.2.1 44 = .ok (.invokestatic 297, 3) := by decide +kernel
theorem dY_failed_47 : decode mY_failed.2.1 47 = .ok (.lreturn, 1) := by decide +kernel
/- Y_failed: (III)J -/
set_option maxRecDepth 4000 in
theorem wY_failed {X : Cx} (a1 a2 a3 : Int) (sw : Bool) (m : Mem) (Q : Int → Bool → Mem → Prop) (h : M2 X 2 mY_areSeen [vi a1] sw m (fun z1 sw1 m1 => ((w32 z1 = 0 → Q (-9223372036854775808) sw1 m1) ∧ (¬ (w32 z1 = 0) → M2 X 2 mY_isPart [vr 84, vi a2] sw1 m1 (fun z2 sw2 m2 => ((w32 z2 = 0 → Q (-9223372036854775808) sw2 m2) ∧ (¬ (w32 z2 = 0) → M2 X 1 mY_in [vi a3, vi 0, vi 1] sw2 m2 (fun z3 sw3 m3 => ((¬ w32 z3 = 0 → M2 X 6 mY_findSo [vr 84, vi a1] sw3 m3 (fun z4 sw4 m4 => ((0 ≤ w32 a2 ∧ w32 a2 < 9) ∧ M2 X 1 mY_lowest [vl (m4 107 (w32 a2)), vl (m4 84 35), vi a3] sw4 m4 (fun z5 sw5 m5 => Q z5 sw5 m5)))) ∧ (¬ (¬ w32 z3 = 0) → Q (-9223372036854775808) sw3 m3)))))))))) : M2 X 7 mY_failed [vr 84, vi a1, vi a2, vi a3] sw m Q := by
  refine Mt.of pY_failed (Nat.le_of_ble_eq_true rfl) (Nat.le_refl _) ?_
  show R2 X 7 mY_failed 0 [(0, vr 84), (1, vi a1), (2, vi a2), (3, vi a3)] [] sw m Q
  refine r_iload_n 1 1 rfl dY_failed_0 rfl ?_
  refine r_callSb [_] rfl oY_areSeen iY_areSeen yY_324 (by decide) ⟨Nat.le_refl _, Nat.le_refl _⟩ rfl (Nat.le_of_ble_eq_true rfl) dY_failed_1 h (fun z1 r1 m1 h => ?_)
  obtain ⟨sw1, rfl, h⟩ := h
  refine r_if_eq (tgt := 24) dY_failed_4 (by decide) (fun hc => ?_) (fun hc => ?_)
  · replace h := h.1 hc
    refine r_ldc2 (z := (-9223372036854775808)) dY_failed_24 kY_282 ?_
    exact q_lret rfl h dY_failed_27
  · replace h := h.2 hc
    refine r_aload_n 0 0 rfl dY_failed_7 rfl ?_
    refine r_iload_n 2 2 rfl dY_failed_8 rfl ?_
    refine r_callVb 12 [_] rfl c84 rfl rfl oY_isPart iY_isPart sY_isPart yY_164 (by decide) ⟨Nat.le_refl _, Nat.le_refl _⟩ rfl (Nat.le_of_ble_eq_true rfl) dY_failed_9 h (fun z2 r2 m2 h => ?_)
    obtain ⟨sw2, rfl, h⟩ := h
    refine r_if_eq (tgt := 24) dY_failed_12 (by decide) (fun hc => ?_) (fun hc => ?_)
    · replace h := h.1 hc
      refine r_ldc2 (z := (-9223372036854775808)) dY_failed_24 kY_282 ?_
      exact q_lret rfl h dY_failed_27
    · replace h := h.2 hc
      refine r_iload_n 3 3 rfl dY_failed_15 rfl ?_
      refine r_iconst dY_failed_16 ?_
      refine r_iconst dY_failed_17 ?_
      refine r_callSb [_, _, _] rfl oY_in iY_in yY_133 (by decide) ⟨Nat.le_refl _, Nat.le_refl _⟩ rfl (Nat.le_of_ble_eq_true rfl) dY_failed_18 h (fun z3 r3 m3 h => ?_)
      obtain ⟨sw3, rfl, h⟩ := h
      refine r_if_ne (tgt := 28) dY_failed_21 (by decide) (fun hc => ?_) (fun hc => ?_)
      · replace h := h.1 hc
        refine r_aload_n 0 0 rfl dY_failed_28 rfl ?_
        refine r_iload_n 1 1 rfl dY_failed_29 rfl ?_
        refine r_callVv 12 [_] rfl c84 rfl rfl oY_findSo iY_findSo sY_findSo yY_327 (by decide) ⟨Nat.le_refl _, Nat.le_refl _⟩ rfl (Nat.le_of_ble_eq_true rfl) dY_failed_30 h (fun z4 r4 m4 h => ?_)
        obtain ⟨sw4, rfl, h⟩ := h
        refine r_aload_n 0 0 rfl dY_failed_33 rfl ?_
        refine q_getR 36 c84 fY_85 rfl rfl (g84_36 sw4) (by decide) dY_failed_34 ?_
        refine r_iload_n 2 2 rfl dY_failed_37 rfl ?_
        refine q_laload (w32 a2) rfl c107 h.1 dY_failed_38 ?_
        replace h := h.2
        refine r_aload_n 0 0 rfl dY_failed_39 rfl ?_
        refine q_getL 35 c84 fY_320 rfl rfl dY_failed_40 ?_
        refine r_iload_n 3 3 rfl dY_failed_43 rfl ?_
        refine r_callSl [_, _, _] rfl oY_lowest iY_lowest yY_297 (by decide) ⟨Nat.le_refl _, Nat.le_refl _⟩ rfl (Nat.le_of_ble_eq_true rfl) dY_failed_44 h (fun z5 r5 m5 h => ?_)
        obtain ⟨sw5, rfl, h⟩ := h
        exact q_lret rfl h dY_failed_47
      · replace h := h.2 hc
        refine r_ldc2 (z := (-9223372036854775808)) dY_failed_24 kY_282 ?_
        exact q_lret rfl h dY_failed_27
theorem dY_look_0 : decode mY_look.2.1 0 = .ok (.iload_n 1, 1) := by decide +kernel
theorem dY_look_1 : decode mY_look.2.1 1 = .ok (.invokestatic 324, 3) := by decide +kernel
theorem dY_look_4 : decode mY_look.2.1 4 = .ok (.ifCond .ne 5, 3) := by decide +kernel
theorem dY_look_7 : decode mY_look.2.1 7 = .ok (.iconst (-1), 1) := by decide +kernel
theorem dY_look_8 : decode mY_look.2.1 8 = .ok (.ireturn, 1) := by decide +kernel
theorem dY_look_9 : decode mY_look.2.1 9 = .ok (.aload_n 0, 1) := by decide +kernel
theorem dY_look_10 : decode mY_look.2.1 10 = .ok (.iload_n 1, 1) := by decide +kernel
theorem dY_look_11 : decode mY_look.2.1 11 = .ok (.invokevirtual 327, 3) := by decide +kernel
theorem dY_look_14 : decode mY_look.2.1 14 = .ok (.bipush (-2), 2) := by decide +kernel
theorem dY_look_16 : decode mY_look.2.1 16 = .ok (.istore_n 2, 1) := by decide +kernel
theorem dY_look_17 : decode mY_look.2.1 17 = .ok (.lconst 0, 1) := by decide +kernel
theorem dY_look_18 : decode mY_look.2.1 18 = .ok (.lstore_n 3, 1) := by decide +kernel
theorem dY_look_19 : decode mY_look.2.1 19 = .ok (.iconst 0, 1) := by decide +kernel
theorem dY_look_20 : decode mY_look.2.1 20 = .ok (.istore 5, 2) := by decide +kernel
theorem dY_look_22 : decode mY_look.2.1 22 = .ok (.iload 5, 2) := by decide +kernel
theorem dY_look_24 : decode mY_look.2.1 24 = .ok (.aload_n 0, 1) := by decide +kernel
theorem dY_look_25 : decode mY_look.2.1 25 = .ok (.getfield 130, 3) := by decide +kernel
theorem dY_look_28 : decode mY_look.2.1 28 = .ok (.if_icmp .ge 35, 3) := by decide +kernel
theorem dY_look_31 : decode mY_look.2.1 31 = .ok (.aload_n 0, 1) := by decide +kernel
theorem dY_look_32 : decode mY_look.2.1 32 = .ok (.getfield 85, 3) := by decide +kernel
theorem dY_look_35 : decode mY_look.2.1 35 = .ok (.iload 5, 2) := by decide +kernel
theorem dY_look_37 : decode mY_look.2.1 37 = .ok (.laload, 1) := by decide +kernel
theorem dY_look_38 : decode mY_look.2.1 38 = .ok (.lload_n 3, 1) := by decide +kernel
theorem dY_look_39 : decode mY_look.2.1 39 = .ok (.lcmp, 1) := by decide +kernel
theorem dY_look_40 : decode mY_look.2.1 40 = .ok (.ifCond .gt 6, 3) := by decide +kernel
theorem dY_look_43 : decode mY_look.2.1 43 = .ok (.goto 14, 3) := by decide +kernel
theorem dY_look_46 : decode mY_look.2.1 46 = .ok (.iload 5, 2) := by decide +kernel
theorem dY_look_48 : decode mY_look.2.1 48 = .ok (.istore_n 2, 1) := by decide +kernel
theorem dY_look_49 : decode mY_look.2.1 49 = .ok (.aload_n 0, 1) := by decide +kernel
theorem dY_look_50 : decode mY_look.2.1 50 = .ok (.getfield 85, 3) := by decide +kernel
theorem dY_look_53 : decode mY_look.2.1 53 = .ok (.iload 5, 2) := by decide +kernel
theorem dY_look_55 : decode mY_look.2.1 55 = .ok (.laload, 1) := by decide +kernel
theorem dY_look_56 : decode mY_look.2.1 56 = .ok (.lstore_n 3, 1) := by decide +kernel
theorem dY_look_57 : decode mY_look.2.1 57 = .ok (.iinc 5 1, 3) := by decide +kernel
theorem dY_look_60 : decode mY_look.2.1 60 = .ok (.goto (-38), 3) := by decide +kernel
theorem dY_look_63 : decode mY_look.2.1 63 = .ok (.iload_n 2, 1) := by decide +kernel
theorem dY_look_64 : decode mY_look.2.1 64 = .ok (.ireturn, 1) := by decide +kernel
/- Y_look: (I)I -/
set_option maxRecDepth 4000 in
theorem wY_look {X : Cx} (a1 : Int) (sw : Bool) (m : Mem) (Q : Int → Bool → Mem → Prop) (h : M2 X 2 mY_areSeen [vi a1] sw m (fun z1 sw1 m1 => ((¬ w32 z1 = 0 → M2 X 6 mY_findSo [vr 84, vi a1] sw1 m1 (fun z2 sw2 m2 => R2 X 7 mY_look 22 [(0, vr 84), (2, vi (-2)), (3, vl 0), (5, vi 0)] [] sw2 m2 Q)) ∧ (¬ (¬ w32 z1 = 0) → Q (-1) sw1 m1)))) : M2 X 7 mY_look [vr 84, vi a1] sw m Q := by
  refine Mt.of pY_look (Nat.le_of_ble_eq_true rfl) (Nat.le_refl _) ?_
  show R2 X 7 mY_look 0 [(0, vr 84), (1, vi a1)] [] sw m Q
  refine r_iload_n 1 1 rfl dY_look_0 rfl ?_
  refine r_callSb [_] rfl oY_areSeen iY_areSeen yY_324 (by decide) ⟨Nat.le_refl _, Nat.le_refl _⟩ rfl (Nat.le_of_ble_eq_true rfl) dY_look_1 h (fun z1 r1 m1 h => ?_)
  obtain ⟨sw1, rfl, h⟩ := h
  refine r_if_ne (tgt := 9) dY_look_4 (by decide) (fun hc => ?_) (fun hc => ?_)
  · replace h := h.1 hc
    refine r_aload_n 0 0 rfl dY_look_9 rfl ?_
    refine r_iload_n 1 1 rfl dY_look_10 rfl ?_
    refine r_callVv 12 [_] rfl c84 rfl rfl oY_findSo iY_findSo sY_findSo yY_327 (by decide) ⟨Nat.le_refl _, Nat.le_refl _⟩ rfl (Nat.le_of_ble_eq_true rfl) dY_look_11 h (fun z2 r2 m2 h => ?_)
    obtain ⟨sw2, rfl, h⟩ := h
    refine r_bipush (by decide) dY_look_14 ?_
    refine r_istore_n 2 (by decide) dY_look_16 rfl ?_
    refine r_lconst dY_look_17 ?_
    refine r_lstore_n 3 (by decide) dY_look_18 rfl ?_
    refine r_iconst dY_look_19 ?_
    refine r_istore 5 (by decide) dY_look_20 ?_
    refine r_sub [3, 2, 1, 0] ?_ h
    rfl
  · replace h := h.2 hc
    refine r_iconst dY_look_7 ?_
    exact q_iret rfl h dY_look_8
set_option maxRecDepth 4000 in
theorem wY_look_22 {X : Cx} (x2 x3 x5 : Int) (sw : Bool) (m : Mem) (Q : Int → Bool → Mem → Prop) (h : ((w32 (m 84 1) ≤ w32 x5 → Q x2 sw m) ∧ (¬ (w32 (m 84 1) ≤ w32 x5) → ((0 ≤ w32 x5 ∧ w32 x5 < 9) ∧ ((w64 x3 < w64 (m 107 (w32 x5)) → ((0 ≤ w32 x5 ∧ w32 x5 < 9) ∧ R2 X 7 mY_look 22 [(0, vr 84), (2, vi x5), (3, vl (m 107 (w32 x5))), (5, vi (x5 + 1))] [] sw m Q)) ∧ (¬ (w64 x3 < w64 (m 107 (w32 x5))) → R2 X 7 mY_look 22 [(0, vr 84), (2, vi x2), (3, vl x3), (5, vi (x5 + 1))] [] sw m Q)))))) : R2 X 7 mY_look 22 [(0, vr 84), (2, vi x2), (3, vl x3), (5, vi x5)] [] sw m Q := by
  refine r_iload 5 3 rfl dY_look_22 ?_
  refine r_aload_n 0 0 rfl dY_look_24 rfl ?_
  refine q_getI 1 c84 fY_130 rfl rfl dY_look_25 ?_
  refine r_ifc_ge (tgt := 63) dY_look_28 (by decide) (fun hc => ?_) (fun hc => ?_)
  · replace h := h.1 hc
    refine r_iload_n 2 1 rfl dY_look_63 rfl ?_
    exact q_iret rfl h dY_look_64
  · replace h := h.2 hc
    refine r_aload_n 0 0 rfl dY_look_31 rfl ?_
    refine q_getR 36 c84 fY_85 rfl rfl (g84_36 sw) (by decide) dY_look_32 ?_
    refine r_iload 5 3 rfl dY_look_35 ?_
    refine q_laload (w32 x5) rfl c107 h.1 dY_look_37 ?_
    replace h := h.2
    refine r_lload_n 3 2 rfl dY_look_38 rfl ?_
    refine q_lc_gt (tgt := 46) (A := w64 (m 107 (w32 x5))) (B := w64 x3) rfl rfl dY_look_39 dY_look_40 (by decide) (fun hc => ?_) (fun hc => ?_)
    · replace h := h.1 hc
      refine r_iload 5 3 rfl dY_look_46 ?_
      refine r_istore_n 2 (by decide) dY_look_48 rfl ?_
      refine r_aload_n 0 1 rfl dY_look_49 rfl ?_
      refine q_getR 36 c84 fY_85 rfl rfl (g84_36 sw) (by decide) dY_look_50 ?_
      refine r_iload 5 3 rfl dY_look_53 ?_
      refine q_laload (w32 x5) rfl c107 h.1 dY_look_55 ?_
      replace h := h.2
      refine r_lstore_n 3 (by decide) dY_look_56 rfl ?_
      refine r_iinc 5 3 rfl (by decide) dY_look_57 ?_
      refine r_goto (tgt := 22) dY_look_60 (by decide) ?_
      refine r_sub [3, 2, 1, 0] ?_ h
      rfl
    · replace h := h.2 hc
      refine r_goto (tgt := 57) dY_look_43 (by decide) ?_
      refine r_iinc 5 3 rfl (by decide) dY_look_57 ?_
      refine r_goto (tgt := 22) dY_look_60 (by decide) ?_
      refine r_sub [1, 2, 3, 0] ?_ h
      rfl
theorem dY_test_0 : decode mY_test.2.1 0 = .ok (.iload_n 1, 1) := by decide +kernel
theorem dY_test_1 : decode mY_test.2.1 1 = .ok (.invokestatic 324, 3) := by decide +kernel
theorem dY_test_4 : decode mY_test.2.1 4 = .ok (.ifCond .ne 5, 3) := by decide +kernel
theorem dY_test_7 : decode mY_test.2.1 7 = .ok (.iconst (-1), 1) := by decide +kernel
theorem dY_test_8 : decode mY_test.2.1 8 = .ok (.ireturn, 1) := by decide +kernel
theorem dY_test_9 : decode mY_test.2.1 9 = .ok (.aload_n 0, 1) := by decide +kernel
theorem dY_test_10 : decode mY_test.2.1 10 = .ok (.iload_n 1, 1) := by decide +kernel
theorem dY_test_11 : decode mY_test.2.1 11 = .ok (.invokevirtual 327, 3) := by decide +kernel
theorem dY_test_14 : decode mY_test.2.1 14 = .ok (.bipush (-2), 2) := by decide +kernel
theorem dY_test_16 : decode mY_test.2.1 16 = .ok (.istore_n 2, 1) := by decide +kernel
theorem dY_test_17 : decode mY_test.2.1 17 = .ok (.lconst 0, 1) := by decide +kernel
theorem dY_test_18 : decode mY_test.2.1 18 = .ok (.lstore_n 3, 1) := by decide +kernel
theorem dY_test_19 : decode mY_test.2.1 19 = .ok (.iconst 0, 1) := by decide +kernel
theorem dY_test_20 : decode mY_test.2.1 20 = .ok (.istore 5, 2) := by decide +kernel
theorem dY_test_22 : decode mY_test.2.1 22 = .ok (.iload 5, 2) := by decide +kernel
theorem dY_test_24 : decode mY_test.2.1 24 = .ok (.aload_n 0, 1) := by decide +kernel
theorem dY_test_25 : decode mY_test.2.1 25 = .ok (.getfield 130, 3) := by decide +kernel
theorem dY_test_28 : decode mY_test.2.1 28 = .ok (.if_icmp .ge 102, 3) := by decide +kernel
theorem dY_test_31 : decode mY_test.2.1 31 = .ok (.aload_n 0, 1) := by decide +kernel
theorem dY_test_32 : decode mY_test.2.1 32 = .ok (.getfield 320, 3) := by decide +kernel
theorem dY_test_35 : decode mY_test.2.1 35 = .ok (.lconst 0, 1) := by decide +kernel
theorem dY_test_36 : decode mY_test.2.1 36 = .ok (.lcmp, 1) := by decide +kernel
theorem dY_test_37 : decode mY_test.2.1 37 = .ok (.ifCond .le 93, 3) := by decide +kernel
theorem dY_test_40 : decode mY_test.2.1 40 = .ok (.iload_n 1, 1) := by decide +kernel
theorem dY_test_41 : decode mY_test.2.1 41 = .ok (.sipush 512, 3) := by decide +kernel
theorem dY_test_44 : decode mY_test.2.1 44 = .ok (.idiv, 1) := by decide +kernel
theorem dY_test_45 : decode mY_test.2.1 45 = .ok (.iload 5, 2) := by decide +kernel
theorem dY_test_47 : decode mY_test.2.1 47 = .ok (.ishr, 1) := by decide +kernel
theorem dY_test_48 : decode mY_test.2.1 48 = .ok (.iconst 1, 1) := by decide +kernel
theorem dY_test_49 : decode mY_test.2.1 49 = .ok (.iand, 1) := by decide +kernel
theorem dY_test_50 : decode mY_test.2.1 50 = .ok (.iconst 1, 1) := by decide +kernel
theorem dY_test_51 : decode mY_test.2.1 51 = .ok (.if_icmp .ne 6, 3) := by decide +kernel
theorem dY_test_54 : decode mY_test.2.1 54 = .ok (.goto 70, 3) := by decide +kernel
theorem dY_test_57 : decode mY_test.2.1 57 = .ok (.aload_n 0, 1) := by decide +kernel
theorem dY_test_58 : decode mY_test.2.1 58 = .ok (.getfield 88, 3) := by decide +kernel
theorem dY_test_61 : decode mY_test.2.1 61 = .ok (.iload 5, 2) := by decide +kernel
theorem dY_test_63 : decode mY_test.2.1 63 = .ok (.laload, 1) := by decide +kernel
theorem dY_test_64 : decode mY_test.2.1 64 = .ok (.aload_n 0, 1) := by decide +kernel
theorem dY_test_65 : decode mY_test.2.1 65 = .ok (.getfield 320, 3) := by decide +kernel
theorem dY_test_68 : decode mY_test.2.1 68 = .ok (.aload_n 0, 1) := by decide +kernel
theorem dY_test_69 : decode mY_test.2.1 69 = .ok (.getfield 88, 3) := by decide +kernel
theorem dY_test_72 : decode mY_test.2.1 72 = .ok (.iload 5, 2) := by decide +kernel
theorem dY_test_74 : decode mY_test.2.1 74 = .ok (.laload, 1) := by decide +kernel
theorem dY_test_75 : decode mY_test.2.1 75 = .ok (.lsub, 1) := by decide +kernel
theorem dY_test_76 : decode mY_test.2.1 76 = .ok (.lcmp, 1) := by decide +kernel
theorem dY_test_77 : decode mY_test.2.1 77 = .ok (.ifCond .le 13, 3) := by decide +kernel
theorem dY_test_80 : decode mY_test.2.1 80 = .ok (.aload_n 0, 1) := by decide +kernel
theorem dY_test_81 : decode mY_test.2.1 81 = .ok (.getfield 88, 3) := by decide +kernel
theorem dY_test_84 : decode mY_test.2.1 84 = .ok (.iload 5, 2) := by decide +kernel
theorem dY_test_86 : decode mY_test.2.1 86 = .ok (.laload, 1) := by decide +kernel
theorem dY_test_87 : decode mY_test.2.1 87 = .ok (.goto 15, 3) := by decide +kernel
theorem dY_test_90 : decode mY_test.2.1 90 = .ok (.aload_n 0, 1) := by decide +kernel
theorem dY_test_91 : decode mY_test.2.1 91 = .ok (.getfield 320, 3) := by decide +kernel
theorem dY_test_94 : decode mY_test.2.1 94 = .ok (.aload_n 0, 1) := by decide +kernel
theorem dY_test_95 : decode mY_test.2.1 95 = .ok (.getfield 88, 3) := by decide +kernel
theorem dY_test_98 : decode mY_test.2.1 98 = .ok (.iload 5, 2) := by decide +kernel
theorem dY_test_100 : decode mY_test.2.1 100 = .ok (.laload, 1) := by decide +kernel
theorem dY_test_101 : decode mY_test.2.1 101 = .ok (.lsub, 1) := by decide +kernel
theorem dY_test_102 : decode mY_test.2.1 102 = .ok (.lstore 6, 2) := by decide +kernel
theorem dY_test_104 : decode mY_test.2.1 104 = .ok (.iload_n 2, 1) := by decide +kernel
theorem dY_test_105 : decode mY_test.2.1 105 = .ok (.ifCond .lt 13, 3) := by decide +kernel
theorem dY_test_108 : decode mY_test.2.1 108 = .ok (.lload 6, 2) := by decide +kernel
theorem dY_test_110 : decode mY_test.2.1 110 = .ok (.lload_n 3, 1) := by decide +kernel
theorem dY_test_111 : decode mY_test.2.1 111 = .ok (.lcmp, 1) := by decide +kernel
theorem dY_test_112 : decode mY_test.2.1 112 = .ok (.ifCond .lt 6, 3) := by decide +kernel
theorem dY_test_115 : decode mY_test.2.1 115 = .ok (.goto 9, 3) := by decide +kernel
theorem dY_test_118 : decode mY_test.2.1 118 = .ok (.iload 5, 2) := by decide +kernel
theorem dY_test_120 : decode mY_test.2.1 120 = .ok (.istore_n 2, 1) := by decide +kernel
theorem dY_test_121 : decode mY_test.2.1 121 = .ok (.lload 6, 2) := by decide +kernel
theorem dY_test_123 : decode mY_test.2.1 123 = .ok (.lstore_n 3, 1) := by decide +kernel
theorem dY_test_124 : decode mY_test.2.1 124 = .ok (.iinc 5 1, 3) := by decide +kernel
theorem dY_test_127 : decode mY_test.2.1 127 = .ok (.goto (-105), 3) := by decide +kernel
theorem dY_test_130 : decode mY_test.2.1 130 = .ok (.iload_n 2, 1) := by decide +kernel
theorem dY_test_131 : decode mY_test.2.1 131 = .ok (.ireturn, 1) := by decide +kernel
/- Y_test: (I)I -/
set_option maxRecDepth 4000 in
theorem wY_test {X : Cx} (a1 : Int) (sw : Bool) (m : Mem) (Q : Int → Bool → Mem → Prop) (h : M2 X 2 mY_areSeen [vi a1] sw m (fun z1 sw1 m1 => ((¬ w32 z1 = 0 → M2 X 6 mY_findSo [vr 84, vi a1] sw1 m1 (fun z2 sw2 m2 => R2 X 7 mY_test 22 [(0, vr 84), (1, vi a1), (2, vi (-2)), (3, vl 0), (5, vi 0)] [] sw2 m2 Q)) ∧ (¬ (¬ w32 z1 = 0) → Q (-1) sw1 m1)))) : M2 X 7 mY_test [vr 84, vi a1] sw m Q := by
  refine Mt.of pY_test (Nat.le_of_ble_eq_true rfl) (Nat.le_refl _) ?_
  show R2 X 7 mY_test 0 [(0, vr 84), (1, vi a1)] [] sw m Q
  refine r_iload_n 1 1 rfl dY_test_0 rfl ?_
  refine r_callSb [_] rfl oY_areSeen iY_areSeen yY_324 (by decide) ⟨Nat.le_refl _, Nat.le_refl _⟩ rfl (Nat.le_of_ble_eq_true rfl) dY_test_1 h (fun z1 r1 m1 h => ?_)
  obtain ⟨sw1, rfl, h⟩ := h
  refine r_if_ne (tgt := 9) dY_test_4 (by decide) (fun hc => ?_) (fun hc => ?_)
  · replace h := h.1 hc
    refine r_aload_n 0 0 rfl dY_test_9 rfl ?_
    refine r_iload_n 1 1 rfl dY_test_10 rfl ?_
    refine r_callVv 12 [_] rfl c84 rfl rfl oY_findSo iY_findSo sY_findSo yY_327 (by decide) ⟨Nat.le_refl _, Nat.le_refl _⟩ rfl (Nat.le_of_ble_eq_true rfl) dY_test_11 h (fun z2 r2 m2 h => ?_)
    obtain ⟨sw2, rfl, h⟩ := h
    refine r_bipush (by decide) dY_test_14 ?_
    refine r_istore_n 2 (by decide) dY_test_16 rfl ?_
    refine r_lconst dY_test_17 ?_
    refine r_lstore_n 3 (by decide) dY_test_18 rfl ?_
    refine r_iconst dY_test_19 ?_
    refine r_istore 5 (by decide) dY_test_20 ?_
    refine r_sub [3, 4, 2, 1, 0] ?_ h
    rfl
  · replace h := h.2 hc
    refine r_iconst dY_test_7 ?_
    exact q_iret rfl h dY_test_8
set_option maxRecDepth 4000 in
theorem wY_test_22 {X : Cx} (x1 x2 x3 x5 : Int) (sw : Bool) (m : Mem) (Q : Int → Bool → Mem → Prop) (h : ((w32 (m 84 1) ≤ w32 x5 → Q x2 sw m) ∧ (¬ (w32 (m 84 1) ≤ w32 x5) → ((w64 (m 84 35) ≤ 0 → Q x2 sw m) ∧ (¬ (w64 (m 84 35) ≤ 0) → ((¬ w32 (zand (zshr (zdiv x1 512) x5) 1) = 1 → ((0 ≤ w32 x5 ∧ w32 x5 < 9) ∧ ((0 ≤ w32 x5 ∧ w32 x5 < 9) ∧ ((w64 (m 108 (w32 x5)) ≤ w64 ((m 84 35) - (m 108 (w32 x5))) → ((0 ≤ w32 x5 ∧ w32 x5 < 9) ∧ ((w32 x2 < 0 → R2 X 7 mY_test 22 [(0, vr 84), (1, vi x1), (2, vi x5), (3, vl ((m 84 35) - (m 108 (w32 x5)))), (5, vi (x5 + 1))] [] sw m Q) ∧ (¬ (w32 x2 < 0) → ((w64 ((m 84 35) - (m 108 (w32 x5))) < w64 x3 → R2 X 7 mY_test 22 [(0, vr 84), (1, vi x1), (2, vi x5), (3, vl ((m 84 35) - (m 108 (w32 x5)))), (5, vi (x5 + 1))] [] sw m Q) ∧ (¬ (w64 ((m 84 35) - (m 108 (w32 x5))) < w64 x3) → R2 X 7 mY_test 22 [(0, vr 84), (1, vi x1), (2, vi x2), (3, vl x3), (5, vi (x5 + 1))] [] sw m Q)))))) ∧ (¬ (w64 (m 108 (w32 x5)) ≤ w64 ((m 84 35) - (m 108 (w32 x5)))) → ((0 ≤ w32 x5 ∧ w32 x5 < 9) ∧ ((w32 x2 < 0 → R2 X 7 mY_test 22 [(0, vr 84), (1, vi x1), (2, vi x5), (3, vl (m 108 (w32 x5))), (5, vi (x5 + 1))] [] sw m Q) ∧ (¬ (w32 x2 < 0) → ((w64 (m 108 (w32 x5)) < w64 x3 → R2 X 7 mY_test 22 [(0, vr 84), (1, vi x1), (2, vi x5), (3, vl (m 108 (w32 x5))), (5, vi (x5 + 1))] [] sw m Q) ∧ (¬ (w64 (m 108 (w32 x5)) < w64 x3) → R2 X 7 mY_test 22 [(0, vr 84), (1, vi x1), (2, vi x2), (3, vl x3), (5, vi (x5 + 1))] [] sw m Q)))))))))) ∧ (¬ (¬ w32 (zand (zshr (zdiv x1 512) x5) 1) = 1) → R2 X 7 mY_test 22 [(0, vr 84), (1, vi x1), (2, vi x2), (3, vl x3), (5, vi (x5 + 1))] [] sw m Q))))))) : R2 X 7 mY_test 22 [(0, vr 84), (1, vi x1), (2, vi x2), (3, vl x3), (5, vi x5)] [] sw m Q := by
  refine r_iload 5 4 rfl dY_test_22 ?_
  refine r_aload_n 0 0 rfl dY_test_24 rfl ?_
  refine q_getI 1 c84 fY_130 rfl rfl dY_test_25 ?_
  refine r_ifc_ge (tgt := 130) dY_test_28 (by decide) (fun hc => ?_) (fun hc => ?_)
  · replace h := h.1 hc
    refine r_iload_n 2 2 rfl dY_test_130 rfl ?_
    exact q_iret rfl h dY_test_131
  · replace h := h.2 hc
    refine r_aload_n 0 0 rfl dY_test_31 rfl ?_
    refine q_getL 35 c84 fY_320 rfl rfl dY_test_32 ?_
    refine r_lconst dY_test_35 ?_
    refine q_lc_le (tgt := 130) (A := w64 (m 84 35)) (B := 0) rfl (by decide +kernel) dY_test_36 dY_test_37 (by decide) (fun hc => ?_) (fun hc => ?_)
    · replace h := h.1 hc
      refine r_iload_n 2 2 rfl dY_test_130 rfl ?_
      exact q_iret rfl h dY_test_131
    · replace h := h.2 hc
      refine r_iload_n 1 1 rfl dY_test_40 rfl ?_
      refine r_sipush (by decide) dY_test_41 ?_
      refine r_idiv (by decide) dY_test_44 ?_
      refine r_iload 5 4 rfl dY_test_45 ?_
      refine r_ishr dY_test_47 ?_
      refine r_iconst dY_test_48 ?_
      refine r_iand dY_test_49 ?_
      refine r_iconst dY_test_50 ?_
      refine r_ifc_ne (tgt := 57) dY_test_51 (by decide) (fun hc => ?_) (fun hc => ?_)
      · replace h := h.1 hc
        refine r_aload_n 0 0 rfl dY_test_57 rfl ?_
        refine q_getR 37 c84 fY_88 rfl rfl (g84_37 sw) (by decide) dY_test_58 ?_
        refine r_iload 5 4 rfl dY_test_61 ?_
        refine q_laload (w32 x5) rfl c108 h.1 dY_test_63 ?_
        replace h := h.2
        refine r_aload_n 0 0 rfl dY_test_64 rfl ?_
        refine q_getL 35 c84 fY_320 rfl rfl dY_test_65 ?_
        refine r_aload_n 0 0 rfl dY_test_68 rfl ?_
        refine q_getR 37 c84 fY_88 rfl rfl (g84_37 sw) (by decide) dY_test_69 ?_
        refine r_iload 5 4 rfl dY_test_72 ?_
        refine q_laload (w32 x5) rfl c108 h.1 dY_test_74 ?_
        replace h := h.2
        refine r_lsub dY_test_75 ?_
        refine q_lc_le (tgt := 90) (A := w64 (m 108 (w32 x5))) (B := w64 ((m 84 35) - (m 108 (w32 x5)))) rfl rfl dY_test_76 dY_test_77 (by decide) (fun hc => ?_) (fun hc => ?_)
        · replace h := h.1 hc
          refine r_aload_n 0 0 rfl dY_test_90 rfl ?_
          refine q_getL 35 c84 fY_320 rfl rfl dY_test_91 ?_
          refine r_aload_n 0 0 rfl dY_test_94 rfl ?_
          refine q_getR 37 c84 fY_88 rfl rfl (g84_37 sw) (by decide) dY_test_95 ?_
          refine r_iload 5 4 rfl dY_test_98 ?_
          refine q_laload (w32 x5) rfl c108 h.1 dY_test_100 ?_
          replace h := h.2
          refine r_lsub dY_test_101 ?_
          refine r_lstore 6 (by decide) dY_test_102 ?_
          refine r_iload_n 2 3 rfl dY_test_104 rfl ?_
          refine r_if_lt (tgt := 118) dY_test_105 (by decide) (fun hc => ?_) (fun hc => ?_)
          · replace h := h.1 hc
            refine r_iload 5 5 rfl dY_test_118 ?_
            refine r_istore_n 2 (by decide) dY_test_120 rfl ?_
            refine r_lload 6 1 rfl dY_test_121 ?_
            refine r_lstore_n 3 (by decide) dY_test_123 rfl ?_
            refine r_iinc 5 5 rfl (by decide) dY_test_124 ?_
            refine r_goto (tgt := 22) dY_test_127 (by decide) ?_
            refine r_sub [4, 5, 2, 1, 0] ?_ h
            rfl
          · replace h := h.2 hc
            refine r_lload 6 0 rfl dY_test_108 ?_
            refine r_lload_n 3 4 rfl dY_test_110 rfl ?_
            refine q_lc_lt (tgt := 118) (A := w64 ((m 84 35) - (m 108 (w32 x5)))) (B := w64 x3) rfl rfl dY_test_111 dY_test_112 (by decide) (fun hc => ?_) (fun hc => ?_)
            · replace h := h.1 hc
              refine r_iload 5 5 rfl dY_test_118 ?_
              refine r_istore_n 2 (by decide) dY_test_120 rfl ?_
              refine r_lload 6 1 rfl dY_test_121 ?_
              refine r_lstore_n 3 (by decide) dY_test_123 rfl ?_
              refine r_iinc 5 5 rfl (by decide) dY_test_124 ?_
              refine r_goto (tgt := 22) dY_test_127 (by decide) ?_
              refine r_sub [4, 5, 2, 1, 0] ?_ h
              rfl
            · replace h := h.2 hc
              refine r_goto (tgt := 124) dY_test_115 (by decide) ?_
              refine r_iinc 5 5 rfl (by decide) dY_test_124 ?_
              refine r_goto (tgt := 22) dY_test_127 (by decide) ?_
              refine r_sub [2, 3, 4, 5, 0] ?_ h
              rfl
        · replace h := h.2 hc
          refine r_aload_n 0 0 rfl dY_test_80 rfl ?_
          refine q_getR 37 c84 fY_88 rfl rfl (g84_37 sw) (by decide) dY_test_81 ?_
          refine r_iload 5 4 rfl dY_test_84 ?_
          refine q_laload (w32 x5) rfl c108 h.1 dY_test_86 ?_
          replace h := h.2
          refine r_goto (tgt := 102) dY_test_87 (by decide) ?_
          refine r_lstore 6 (by decide) dY_test_102 ?_
          refine r_iload_n 2 3 rfl dY_test_104 rfl ?_
          refine r_if_lt (tgt := 118) dY_test_105 (by decide) (fun hc => ?_) (fun hc => ?_)
          · replace h := h.1 hc
            refine r_iload 5 5 rfl dY_test_118 ?_
            refine r_istore_n 2 (by decide) dY_test_120 rfl ?_
            refine r_lload 6 1 rfl dY_test_121 ?_
            refine r_lstore_n 3 (by decide) dY_test_123 rfl ?_
            refine r_iinc 5 5 rfl (by decide) dY_test_124 ?_
            refine r_goto (tgt := 22) dY_test_127 (by decide) ?_
            refine r_sub [4, 5, 2, 1, 0] ?_ h
            rfl
          · replace h := h.2 hc
            refine r_lload 6 0 rfl dY_test_108 ?_
            refine r_lload_n 3 4 rfl dY_test_110 rfl ?_
            refine q_lc_lt (tgt := 118) (A := w64 (m 108 (w32 x5))) (B := w64 x3) rfl rfl dY_test_111 dY_test_112 (by decide) (fun hc => ?_) (fun hc => ?_)
            · replace h := h.1 hc
              refine r_iload 5 5 rfl dY_test_118 ?_
              refine r_istore_n 2 (by decide) dY_test_120 rfl ?_
              refine r_lload 6 1 rfl dY_test_121 ?_
              refine r_lstore_n 3 (by decide) dY_test_123 rfl ?_
              refine r_iinc 5 5 rfl (by decide) dY_test_124 ?_
              refine r_goto (tgt := 22) dY_test_127 (by decide) ?_
              refine r_sub [4, 5, 2, 1, 0] ?_ h
              rfl
            · replace h := h.2 hc
              refine r_goto (tgt := 124) dY_test_115 (by decide) ?_
              refine r_iinc 5 5 rfl (by decide) dY_test_124 ?_
              refine r_goto (tgt := 22) dY_test_127 (by decide) ?_
              refine r_sub [2, 3, 4, 5, 0] ?_ h
              rfl
      · replace h := h.2 hc
        refine r_goto (tgt := 124) dY_test_54 (by decide) ?_
        refine r_iinc 5 4 rfl (by decide) dY_test_124 ?_
        refine r_goto (tgt := 22) dY_test_127 (by decide) ?_
        refine r_sub [1, 2, 3, 4, 0] ?_ h
        rfl
theorem dY_oddsNow_0 : decode mY_oddsNow.2.1 0 = .ok (.aload_n 0, 1) := by decide +kernel
theorem dY_oddsNow_1 : decode mY_oddsNow.2.1 1 = .ok (.invokevirtual 284, 3) := by decide +kernel
theorem dY_oddsNow_4 : decode mY_oddsNow.2.1 4 = .ok (.aload_n 0, 1) := by decide +kernel
theorem dY_oddsNow_5 : decode mY_oddsNow.2.1 5 = .ok (.sipush 999, 3) := by decide +kernel
theorem dY_oddsNow_8 : decode mY_oddsNow.2.1 8 = .ok (.invokevirtual 287, 3) := by decide +kernel
theorem dY_oddsNow_11 : decode mY_oddsNow.2.1 11 = .ok (.ldc2_w 314, 3) := by decide +kernel
theorem dY_oddsNow_14 : decode mY_oddsNow.2.1 14 = .ok (.lmul, 1) := by decide +kernel
theorem dY_oddsNow_15 : decode mY_oddsNow.2.1 15 = .ok (.aload_n 0, 1) := by decide +kernel
theorem dY_oddsNow_16 : decode mY_oddsNow.2.1 16 = .ok (.invokevirtual 293, 3) := by decide +kernel
theorem dY_oddsNow_19 : decode mY_oddsNow.2.1 19 = .ok (.ldiv, 1) := by decide +kernel
theorem dY_oddsNow_20 : decode mY_oddsNow.2.1 20 = .ok (.l2i, 1) := by decide +kernel
theorem dY_oddsNow_21 : decode mY_oddsNow.2.1 21 = .ok (.ireturn, 1) := by decide +kernel
/- Y_oddsNow: ()I -/
set_option maxRecDepth 4000 in
theorem wY_oddsNow {X : Cx} (sw : Bool) (m : Mem) (Q : Int → Bool → Mem → Prop) (h : M2 X 5 mY_layTwelfths [vr 84] sw m (fun z1 sw1 m1 => M2 X 3 mY_endsBy [vr 84, vi 999] sw1 m1 (fun z2 sw2 m2 => M2 X 1 mY_whole [vr 84] sw2 m2 (fun z3 sw3 m3 => (¬ w64 z3 = 0 ∧ Q (zldiv (z2 * 1000000) z3) sw3 m3))))) : M2 X 6 mY_oddsNow [vr 84] sw m Q := by
  refine Mt.of pY_oddsNow (Nat.le_of_ble_eq_true rfl) (Nat.le_refl _) ?_
  show R2 X 6 mY_oddsNow 0 [(0, vr 84)] [] sw m Q
  refine r_aload_n 0 0 rfl dY_oddsNow_0 rfl ?_
  refine r_callVv 12 [] rfl c84 rfl rfl oY_layTwelfths iY_layTwelfths sY_layTwelfths yY_284 (by decide) ⟨Nat.le_refl _, Nat.le_refl _⟩ rfl (Nat.le_of_ble_eq_true rfl) dY_oddsNow_1 h (fun z1 r1 m1 h => ?_)
  obtain ⟨sw1, rfl, h⟩ := h
  refine r_aload_n 0 0 rfl dY_oddsNow_4 rfl ?_
  refine r_sipush (by decide) dY_oddsNow_5 ?_
  refine r_callVl 12 [_] rfl c84 rfl rfl oY_endsBy iY_endsBy sY_endsBy yY_287 (by decide) ⟨Nat.le_refl _, Nat.le_refl _⟩ rfl (Nat.le_of_ble_eq_true rfl) dY_oddsNow_8 h (fun z2 r2 m2 h => ?_)
  obtain ⟨sw2, rfl, h⟩ := h
  refine r_ldc2 (z := 1000000) dY_oddsNow_11 kY_314 ?_
  refine r_lmul dY_oddsNow_14 ?_
  refine r_aload_n 0 0 rfl dY_oddsNow_15 rfl ?_
  refine r_callVl 12 [] rfl c84 rfl rfl oY_whole iY_whole sY_whole yY_293 (by decide) ⟨Nat.le_refl _, Nat.le_refl _⟩ rfl (Nat.le_of_ble_eq_true rfl) dY_oddsNow_16 h (fun z3 r3 m3 h => ?_)
  obtain ⟨sw3, rfl, h⟩ := h
  refine r_ldiv h.1 dY_oddsNow_19 ?_
  replace h := h.2
  refine r_l2i dY_oddsNow_20 ?_
  exact q_iret rfl h dY_oddsNow_21
theorem dY_goMends_0 : decode mY_goMends.2.1 0 = .ok (.iload_n 2, 1) := by decide +kernel
theorem dY_goMends_1 : decode mY_goMends.2.1 1 = .ok (.iload_n 1, 1) := by decide +kernel
theorem dY_goMends_2 : decode mY_goMends.2.1 2 = .ok (.if_icmp .ne 47, 3) := by decide +kernel
theorem dY_goMends_5 : decode mY_goMends.2.1 5 = .ok (.iload_n 3, 1) := by decide +kernel
theorem dY_goMends_6 : decode mY_goMends.2.1 6 = .ok (.aload_n 0, 1) := by decide +kernel
theorem dY_goMends_7 : decode mY_goMends.2.1 7 = .ok (.getfield 330, 3) := by decide +kernel
theorem dY_goMends_10 : decode mY_goMends.2.1 10 = .ok (.if_icmp .gt 4, 3) := by decide +kernel
theorem dY_goMends_13 : decode mY_goMends.2.1 13 = .ok (.return_, 1) := by decide +kernel
theorem dY_goMends_14 : decode mY_goMends.2.1 14 = .ok (.aload_n 0, 1) := by decide +kernel
theorem dY_goMends_15 : decode mY_goMends.2.1 15 = .ok (.iload_n 3, 1) := by decide +kernel
theorem dY_goMends_16 : decode mY_goMends.2.1 16 = .ok (.putfield 330, 3) := by decide +kernel
theorem dY_goMends_19 : decode mY_goMends.2.1 19 = .ok (.iconst 0, 1) := by decide +kernel
theorem dY_goMends_20 : decode mY_goMends.2.1 20 = .ok (.istore 4, 2) := by decide +kernel
theorem dY_goMends_22 : decode mY_goMends.2.1 22 = .ok (.iload 4, 2) := by decide +kernel
theorem dY_goMends_24 : decode mY_goMends.2.1 24 = .ok (.iload_n 1, 1) := by decide +kernel
theorem dY_goMends_25 : decode mY_goMends.2.1 25 = .ok (.if_icmp .ge 23, 3) := by decide +kernel
theorem dY_goMends_28 : decode mY_goMends.2.1 28 = .ok (.aload_n 0, 1) := by decide +kernel
theorem dY_goMends_29 : decode mY_goMends.2.1 29 = .ok (.getfield 94, 3) := by decide +kernel
theorem dY_goMends_32 : decode mY_goMends.2.1 32 = .ok (.iload 4, 2) := by decide +kernel
theorem dY_goMends_34 : decode mY_goMends.2.1 34 = .ok (.aload_n 0, 1) := by decide +kernel
theorem dY_goMends_35 : decode mY_goMends.2.1 35 = .ok (.getfield 91, 3) := by decide +kernel
theorem dY_goMends_38 : decode mY_goMends.2.1 38 = .ok (.iload 4, 2) := by decide +kernel
theorem dY_goMends_40 : decode mY_goMends.2.1 40 = .ok (.iaload, 1) := by decide +kernel
theorem dY_goMends_41 : decode mY_goMends.2.1 41 = .ok (.iastore, 1) := by decide +kernel
theorem dY_goMends_42 : decode mY_goMends.2.1 42 = .ok (.iinc 4 1, 3) := by decide +kernel
theorem dY_goMends_45 : decode mY_goMends.2.1 45 = .ok (.goto (-23), 3) := by decide +kernel
theorem dY_goMends_48 : decode mY_goMends.2.1 48 = .ok (.return_, 1) := by decide +kernel
theorem dY_goMends_49 : decode mY_goMends.2.1 49 = .ok (.iconst 0, 1) := by decide +kernel
theorem dY_goMends_50 : decode mY_goMends.2.1 50 = .ok (.istore 4, 2) := by decide +kernel
theorem dY_goMends_52 : decode mY_goMends.2.1 52 = .ok (.iload 4, 2) := by decide +kernel
theorem dY_goMends_54 : decode mY_goMends.2.1 54 = .ok (.aload_n 0, 1) := by decide +kernel
theorem dY_goMends_55 : decode mY_goMends.2.1 55 = .ok (.getfield 130, 3) := by decide +kernel
theorem dY_goMends_58 : decode mY_goMends.2.1 58 = .ok (.if_icmp .ge 27, 3) := by decide +kernel
theorem dY_goMends_61 : decode mY_goMends.2.1 61 = .ok (.aload_n 0, 1) := by decide +kernel
theorem dY_goMends_62 : decode mY_goMends.2.1 62 = .ok (.getfield 97, 3) := by decide +kernel
theorem dY_goMends_65 : decode mY_goMends.2.1 65 = .ok (.iconst 5, 1) := by decide +kernel
theorem dY_goMends_66 : decode mY_goMends.2.1 66 = .ok (.iload_n 2, 1) := by decide +kernel
theorem dY_goMends_67 : decode mY_goMends.2.1 67 = .ok (.imul, 1) := by decide +kernel
theorem dY_goMends_68 : decode mY_goMends.2.1 68 = .ok (.iload 4, 2) := by decide +kernel
theorem dY_goMends_70 : decode mY_goMends.2.1 70 = .ok (.iadd, 1) := by decide +kernel
theorem dY_goMends_71 : decode mY_goMends.2.1 71 = .ok (.aload_n 0, 1) := by decide +kernel
theorem dY_goMends_72 : decode mY_goMends.2.1 72 = .ok (.getfield 27, 3) := by decide +kernel
theorem dY_goMends_75 : decode mY_goMends.2.1 75 = .ok (.iload 4, 2) := by decide +kernel
theorem dY_goMends_77 : decode mY_goMends.2.1 77 = .ok (.iaload, 1) := by decide +kernel
theorem dY_goMends_78 : decode mY_goMends.2.1 78 = .ok (.iastore, 1) := by decide +kernel
theorem dY_goMends_79 : decode mY_goMends.2.1 79 = .ok (.iinc 4 1, 3) := by decide +kernel
theorem dY_goMends_82 : decode mY_goMends.2.1 82 = .ok (.goto (-30), 3) := by decide +kernel
theorem dY_goMends_85 : decode mY_goMends.2.1 85 = .ok (.iconst (-1), 1) := by decide +kernel
theorem dY_goMends_86 : decode mY_goMends.2.1 86 = .ok (.istore 4, 2) := by decide +kernel
theorem dY_goMends_88 : decode mY_goMends.2.1 88 = .ok (.iload 4, 2) := by decide +kernel
theorem dY_goMends_90 : decode mY_goMends.2.1 90 = .ok (.aload_n 0, 1) := by decide +kernel
theorem dY_goMends_91 : decode mY_goMends.2.1 91 = .ok (.getfield 130, 3) := by decide +kernel
theorem dY_goMends_94 : decode mY_goMends.2.1 94 = .ok (.if_icmp .ge 125, 3) := by decide +kernel
theorem dY_goMends_97 : decode mY_goMends.2.1 97 = .ok (.aload_n 0, 1) := by decide +kernel
theorem dY_goMends_98 : decode mY_goMends.2.1 98 = .ok (.getfield 91, 3) := by decide +kernel
theorem dY_goMends_101 : decode mY_goMends.2.1 101 = .ok (.iload_n 2, 1) := by decide +kernel
theorem dY_goMends_102 : decode mY_goMends.2.1 102 = .ok (.iload 4, 2) := by decide +kernel
theorem dY_goMends_104 : decode mY_goMends.2.1 104 = .ok (.iastore, 1) := by decide +kernel
theorem dY_goMends_105 : decode mY_goMends.2.1 105 = .ok (.iload 4, 2) := by decide +kernel
theorem dY_goMends_107 : decode mY_goMends.2.1 107 = .ok (.ifCond .lt 11, 3) := by decide +kernel
theorem dY_goMends_110 : decode mY_goMends.2.1 110 = .ok (.aload_n 0, 1) := by decide +kernel
theorem dY_goMends_111 : decode mY_goMends.2.1 111 = .ok (.getfield 27, 3) := by decide +kernel
theorem dY_goMends_114 : decode mY_goMends.2.1 114 = .ok (.iload 4, 2) := by decide +kernel
theorem dY_goMends_116 : decode mY_goMends.2.1 116 = .ok (.iconst 0, 1) := by decide +kernel
theorem dY_goMends_117 : decode mY_goMends.2.1 117 = .ok (.iastore, 1) := by decide +kernel
theorem dY_goMends_118 : decode mY_goMends.2.1 118 = .ok (.aload_n 0, 1) := by decide +kernel
theorem dY_goMends_119 : decode mY_goMends.2.1 119 = .ok (.invokevirtual 333, 3) := by decide +kernel
theorem dY_goMends_122 : decode mY_goMends.2.1 122 = .ok (.istore 5, 2) := by decide +kernel
theorem dY_goMends_124 : decode mY_goMends.2.1 124 = .ok (.iconst 0, 1) := by decide +kernel
theorem dY_goMends_125 : decode mY_goMends.2.1 125 = .ok (.istore 6, 2) := by decide +kernel
theorem dY_goMends_127 : decode mY_goMends.2.1 127 = .ok (.iload 6, 2) := by decide +kernel
theorem dY_goMends_129 : decode mY_goMends.2.1 129 = .ok (.aload_n 0, 1) := by decide +kernel
theorem dY_goMends_130 : decode mY_goMends.2.1 130 = .ok (.getfield 130, 3) := by decide +kernel
theorem dY_goMends_133 : decode mY_goMends.2.1 133 = .ok (.if_icmp .ge 32, 3) := by decide +kernel
theorem dY_goMends_136 : decode mY_goMends.2.1 136 = .ok (.aload_n 0, 1) := by decide +kernel
theorem dY_goMends_137 : decode mY_goMends.2.1 137 = .ok (.getfield 27, 3) := by decide +kernel
theorem dY_goMends_140 : decode mY_goMends.2.1 140 = .ok (.iload 6, 2) := by decide +kernel
theorem dY_goMends_142 : decode mY_goMends.2.1 142 = .ok (.iaload, 1) := by decide +kernel
theorem dY_goMends_143 : decode mY_goMends.2.1 143 = .ok (.bipush 99, 2) := by decide +kernel
theorem dY_goMends_145 : decode mY_goMends.2.1 145 = .ok (.if_icmp .ge 14, 3) := by decide +kernel
theorem dY_goMends_148 : decode mY_goMends.2.1 148 = .ok (.aload_n 0, 1) := by decide +kernel
theorem dY_goMends_149 : decode mY_goMends.2.1 149 = .ok (.getfield 27, 3) := by decide +kernel
theorem dY_goMends_152 : decode mY_goMends.2.1 152 = .ok (.iload 6, 2) := by decide +kernel
theorem dY_goMends_154 : decode mY_goMends.2.1 154 = .ok (.dup2, 1) := by decide +kernel
theorem dY_goMends_155 : decode mY_goMends.2.1 155 = .ok (.iaload, 1) := by decide +kernel
theorem dY_goMends_156 : decode mY_goMends.2.1 156 = .ok (.iconst 1, 1) := by decide +kernel
theorem dY_goMends_157 : decode mY_goMends.2.1 157 = .ok (.iadd, 1) := by decide +kernel
theorem dY_goMends_158 : decode mY_goMends.2.1 158 = .ok (.iastore, 1) := by decide +kernel
theorem dY_goMends_159 : decode mY_goMends.2.1 159 = .ok (.iinc 6 1, 3) := by decide +kernel
theorem dY_goMends_162 : decode mY_goMends.2.1 162 = .ok (.goto (-35), 3) := by decide +kernel
theorem dY_goMends_165 : decode mY_goMends.2.1 165 = .ok (.aload_n 0, 1) := by decide +kernel
theorem dY_goMends_166 : decode mY_goMends.2.1 166 = .ok (.iload_n 1, 1) := by decide +kernel
theorem dY_goMends_167 : decode mY_goMends.2.1 167 = .ok (.iload_n 2, 1) := by decide +kernel
theorem dY_goMends_168 : decode mY_goMends.2.1 168 = .ok (.iconst 1, 1) := by decide +kernel
theorem dY_goMends_169 : decode mY_goMends.2.1 169 = .ok (.iadd, 1) := by decide +kernel
theorem dY_goMends_170 : decode mY_goMends.2.1 170 = .ok (.iload_n 3, 1) := by decide +kernel
theorem dY_goMends_171 : decode mY_goMends.2.1 171 = .ok (.iload 5, 2) := by decide +kernel
theorem dY_goMends_173 : decode mY_goMends.2.1 173 = .ok (.iadd, 1) := by decide +kernel
theorem dY_goMends_174 : decode mY_goMends.2.1 174 = .ok (.invokevirtual 336, 3) := by decide +kernel
theorem dY_goMends_177 : decode mY_goMends.2.1 177 = .ok (.iconst 0, 1) := by decide +kernel
theorem dY_goMends_178 : decode mY_goMends.2.1 178 = .ok (.istore 6, 2) := by decide +kernel
theorem dY_goMends_180 : decode mY_goMends.2.1 180 = .ok (.iload 6, 2) := by decide +kernel
theorem dY_goMends_182 : decode mY_goMends.2.1 182 = .ok (.aload_n 0, 1) := by decide +kernel
theorem dY_goMends_183 : decode mY_goMends.2.1 183 = .ok (.getfield 130, 3) := by decide +kernel
theorem dY_goMends_186 : decode mY_goMends.2.1 186 = .ok (.if_icmp .ge 27, 3) := by decide +kernel
theorem dY_goMends_189 : decode mY_goMends.2.1 189 = .ok (.aload_n 0, 1) := by decide +kernel
theorem dY_goMends_190 : decode mY_goMends.2.1 190 = .ok (.getfield 27, 3) := by decide +kernel
theorem dY_goMends_193 : decode mY_goMends.2.1 193 = .ok (.iload 6, 2) := by decide +kernel
theorem dY_goMends_195 : decode mY_goMends.2.1 195 = .ok (.aload_n 0, 1) := by decide +kernel
theorem dY_goMends_196 : decode mY_goMends.2.1 196 = .ok (.getfield 97, 3) := by decide +kernel
theorem dY_goMends_199 : decode mY_goMends.2.1 199 = .ok (.iconst 5, 1) := by decide +kernel
theorem dY_goMends_200 : decode mY_goMends.2.1 200 = .ok (.iload_n 2, 1) := by decide +kernel
theorem dY_goMends_201 : decode mY_goMends.2.1 201 = .ok (.imul, 1) := by decide +kernel
theorem dY_goMends_202 : decode mY_goMends.2.1 202 = .ok (.iload 6, 2) := by decide +kernel
theorem dY_goMends_204 : decode mY_goMends.2.1 204 = .ok (.iadd, 1) := by decide +kernel
theorem dY_goMends_205 : decode mY_goMends.2.1 205 = .ok (.iaload, 1) := by decide +kernel
theorem dY_goMends_206 : decode mY_goMends.2.1 206 = .ok (.iastore, 1) := by decide +kernel
theorem dY_goMends_207 : decode mY_goMends.2.1 207 = .ok (.iinc 6 1, 3) := by decide +kernel
theorem dY_goMends_210 : decode mY_goMends.2.1 210 = .ok (.goto (-30), 3) := by decide +kernel
theorem dY_goMends_213 : decode mY_goMends.2.1 213 = .ok (.iinc 4 1, 3) := by decide +kernel
theorem dY_goMends_216 : decode mY_goMends.2.1 216 = .ok (.goto (-128), 3) := by decide +kernel
theorem dY_goMends_219 : decode mY_goMends.2.1 219 = .ok (.return_, 1) := by decide +kernel
/- Y_goMends: (III)V -/
set_option maxRecDepth 4000 in
theorem wY_goMends {X : Cx} {d : Nat} (hd0 : 6 ≤ d) (a1 a2 a3 : Int) (sw : Bool) (m : Mem) (Q : Int → Bool → Mem → Prop) (h : ((¬ w32 a2 = w32 a1 → R2 X (d + 1) mY_goMends 52 [(0, vr 84), (1, vi a1), (2, vi a2), (3, vi a3), (4, vi 0)] [] sw m Q) ∧ (¬ (¬ w32 a2 = w32 a1) → ((w32 (m 84 40) < w32 a3 → R2 X (d + 1) mY_goMends 22 [(0, vr 84), (1, vi a1), (4, vi 0)] [] sw (upm m 84 40 a3) Q) ∧ (¬ (w32 (m 84 40) < w32 a3) → Q 0 sw m))))) : M2 X (d + 1) mY_goMends [vr 84, vi a1, vi a2, vi a3] sw m Q := by
  refine Mt.of pY_goMends (Nat.le_of_ble_eq_true rfl) (Nat.le_refl _) ?_
  show R2 X (d + 1) mY_goMends 0 [(0, vr 84), (1, vi a1), (2, vi a2), (3, vi a3)] [] sw m Q
  refine r_iload_n 2 2 rfl dY_goMends_0 rfl ?_
  refine r_iload_n 1 1 rfl dY_goMends_1 rfl ?_
  refine r_ifc_ne (tgt := 49) dY_goMends_2 (by decide) (fun hc => ?_) (fun hc => ?_)
  · replace h := h.1 hc
    refine r_iconst dY_goMends_49 ?_
    refine r_istore 4 (by decide) dY_goMends_50 ?_
    refine r_sub [1, 2, 3, 4, 0] ?_ h
    rfl
  · replace h := h.2 hc
    refine r_iload_n 3 3 rfl dY_goMends_5 rfl ?_
    refine r_aload_n 0 0 rfl dY_goMends_6 rfl ?_
    refine q_getI 40 c84 fY_330 rfl rfl dY_goMends_7 ?_
    refine r_ifc_gt (tgt := 14) dY_goMends_10 (by decide) (fun hc => ?_) (fun hc => ?_)
    · replace h := h.1 hc
      refine r_aload_n 0 0 rfl dY_goMends_14 rfl ?_
      refine r_iload_n 3 3 rfl dY_goMends_15 rfl ?_
      refine q_putI 40 c84 pfY_330 rfl rfl dY_goMends_16 ?_
      refine r_iconst dY_goMends_19 ?_
      refine r_istore 4 (by decide) dY_goMends_20 ?_
      refine r_sub [1, 2, 0] ?_ h
      rfl
    · replace h := h.2 hc
      exact q_vret rfl h dY_goMends_13
set_option maxRecDepth 4000 in
theorem wY_goMends_22 {X : Cx} {d : Nat} (hd0 : 6 ≤ d) (x1 x4 : Int) (sw : Bool) (m : Mem) (Q : Int → Bool → Mem → Prop) (h : ((w32 x1 ≤ w32 x4 → Q 0 sw m) ∧ (¬ (w32 x1 ≤ w32 x4) → ((0 ≤ w32 x4 ∧ w32 x4 < 3) ∧ ((0 ≤ w32 x4 ∧ w32 x4 < 3) ∧ R2 X (d + 1) mY_goMends 22 [(0, vr 84), (1, vi x1), (4, vi (x4 + 1))] [] sw (upm m 110 (w32 x4) (m 109 (w32 x4))) Q))))) : R2 X (d + 1) mY_goMends 22 [(0, vr 84), (1, vi x1), (4, vi x4)] [] sw m Q := by
  refine r_iload 4 2 rfl dY_goMends_22 ?_
  refine r_iload_n 1 1 rfl dY_goMends_24 rfl ?_
  refine r_ifc_ge (tgt := 48) dY_goMends_25 (by decide) (fun hc => ?_) (fun hc => ?_)
  · replace h := h.1 hc
    exact q_vret rfl h dY_goMends_48
  · replace h := h.2 hc
    refine r_aload_n 0 0 rfl dY_goMends_28 rfl ?_
    refine q_getR 39 c84 fY_94 rfl rfl (g84_39 sw) (by decide) dY_goMends_29 ?_
    refine r_iload 4 2 rfl dY_goMends_32 ?_
    refine r_aload_n 0 0 rfl dY_goMends_34 rfl ?_
    refine q_getR 38 c84 fY_91 rfl rfl (g84_38 sw) (by decide) dY_goMends_35 ?_
    refine r_iload 4 2 rfl dY_goMends_38 ?_
    refine q_iaload (w32 x4) rfl c109 h.1 dY_goMends_40 ?_
    replace h := h.2
    refine q_iastore (w32 x4) rfl c110 h.1 dY_goMends_41 ?_
    replace h := h.2
    refine r_iinc 4 2 rfl (by decide) dY_goMends_42 ?_
    refine r_goto (tgt := 22) dY_goMends_45 (by decide) ?_
    refine r_sub [1, 2, 0] ?_ h
    rfl
set_option maxRecDepth 4000 in
theorem wY_goMends_52 {X : Cx} {d : Nat} (hd0 : 6 ≤ d) (x1 x2 x3 x4 : Int) (sw : Bool) (m : Mem) (Q : Int → Bool → Mem → Prop) (h : ((w32 (m 84 1) ≤ w32 x4 → R2 X (d + 1) mY_goMends 88 [(0, vr 84), (1, vi x1), (2, vi x2), (3, vi x3), (4, vi (-1))] [] sw m Q) ∧ (¬ (w32 (m 84 1) ≤ w32 x4) → ((0 ≤ w32 x4 ∧ w32 x4 < 9) ∧ ((0 ≤ w32 ((5 * x2) + x4) ∧ w32 ((5 * x2) + x4) < 15) ∧ R2 X (d + 1) mY_goMends 52 [(0, vr 84), (1, vi x1), (2, vi x2), (3, vi x3), (4, vi (x4 + 1))] [] sw (upm m 111 (w32 ((5 * x2) + x4)) (m 90 (w32 x4))) Q))))) : R2 X (d + 1) mY_goMends 52 [(0, vr 84), (1, vi x1), (2, vi x2), (3, vi x3), (4, vi x4)] [] sw m Q := by
  refine r_iload 4 4 rfl dY_goMends_52 ?_
  refine r_aload_n 0 0 rfl dY_goMends_54 rfl ?_
  refine q_getI 1 c84 fY_130 rfl rfl dY_goMends_55 ?_
  refine r_ifc_ge (tgt := 85) dY_goMends_58 (by decide) (fun hc => ?_) (fun hc => ?_)
  · replace h := h.1 hc
    refine r_iconst dY_goMends_85 ?_
    refine r_istore 4 (by decide) dY_goMends_86 ?_
    refine r_sub [1, 2, 3, 4, 0] ?_ h
    rfl
  · replace h := h.2 hc
    refine r_aload_n 0 0 rfl dY_goMends_61 rfl ?_
    refine q_getR 41 c84 fY_97 rfl rfl (g84_41 sw) (by decide) dY_goMends_62 ?_
    refine r_iconst dY_goMends_65 ?_
    refine r_iload_n 2 2 rfl dY_goMends_66 rfl ?_
    refine r_imul dY_goMends_67 ?_
    refine r_iload 4 4 rfl dY_goMends_68 ?_
    refine r_iadd dY_goMends_70 ?_
    refine r_aload_n 0 0 rfl dY_goMends_71 rfl ?_
    refine q_getR 7 c84 fY_27 rfl rfl (g84_7 sw) (by decide) dY_goMends_72 ?_
    refine r_iload 4 4 rfl dY_goMends_75 ?_
    refine q_iaload (w32 x4) rfl c90 h.1 dY_goMends_77 ?_
    replace h := h.2
    refine q_iastore (w32 ((5 * x2) + x4)) rfl c111 h.1 dY_goMends_78 ?_
    replace h := h.2
    refine r_iinc 4 4 rfl (by decide) dY_goMends_79 ?_
    refine r_goto (tgt := 52) dY_goMends_82 (by decide) ?_
    refine r_sub [1, 2, 3, 4, 0] ?_ h
    rfl
set_option maxRecDepth 4000 in
theorem wY_goMends_88 {X : Cx} {d : Nat} (hd0 : 6 ≤ d) (x1 x2 x3 x4 : Int) (sw : Bool) (m : Mem) (Q : Int → Bool → Mem → Prop) (h : ((w32 (m 84 1) ≤ w32 x4 → Q 0 sw m) ∧ (¬ (w32 (m 84 1) ≤ w32 x4) → ((0 ≤ w32 x2 ∧ w32 x2 < 3) ∧ ((w32 x4 < 0 → M2 X 6 mY_oddsNow [vr 84] sw (upm m 109 (w32 x2) x4) (fun z1 sw1 m1 => R2 X (d + 1) mY_goMends 127 [(0, vr 84), (1, vi x1), (2, vi x2), (3, vi x3), (4, vi x4), (5, vi z1), (6, vi 0)] [] sw1 m1 Q)) ∧ (¬ (w32 x4 < 0) → ((0 ≤ w32 x4 ∧ w32 x4 < 9) ∧ M2 X 6 mY_oddsNow [vr 84] sw (upm (upm m 109 (w32 x2) x4) 90 (w32 x4) 0) (fun z2 sw2 m2 => R2 X (d + 1) mY_goMends 127 [(0, vr 84), (1, vi x1), (2, vi x2), (3, vi x3), (4, vi x4), (5, vi z2), (6, vi 0)] [] sw2 m2 Q)))))))) : R2 X (d + 1) mY_goMends 88 [(0, vr 84), (1, vi x1), (2, vi x2), (3, vi x3), (4, vi x4)] [] sw m Q := by
  refine r_iload 4 4 rfl dY_goMends_88 ?_
  refine r_aload_n 0 0 rfl dY_goMends_90 rfl ?_
  refine q_getI 1 c84 fY_130 rfl rfl dY_goMends_91 ?_
  refine r_ifc_ge (tgt := 219) dY_goMends_94 (by decide) (fun hc => ?_) (fun hc => ?_)
  · replace h := h.1 hc
    exact q_vret rfl h dY_goMends_219
  · replace h := h.2 hc
    refine r_aload_n 0 0 rfl dY_goMends_97 rfl ?_
    refine q_getR 38 c84 fY_91 rfl rfl (g84_38 sw) (by decide) dY_goMends_98 ?_
    refine r_iload_n 2 2 rfl dY_goMends_101 rfl ?_
    refine r_iload 4 4 rfl dY_goMends_102 ?_
    refine q_iastore (w32 x2) rfl c109 h.1 dY_goMends_104 ?_
    replace h := h.2
    refine r_iload 4 4 rfl dY_goMends_105 ?_
    refine r_if_lt (tgt := 118) dY_goMends_107 (by decide) (fun hc => ?_) (fun hc => ?_)
    · replace h := h.1 hc
      refine r_aload_n 0 0 rfl dY_goMends_118 rfl ?_
      refine r_callVi 12 [] rfl c84 rfl rfl oY_oddsNow iY_oddsNow sY_oddsNow yY_333 (by omega) ⟨Nat.le_refl _, Nat.le_refl _⟩ rfl (Nat.le_of_ble_eq_true rfl) dY_goMends_119 h (fun z1 r1 m1 h => ?_)
      obtain ⟨sw1, rfl, h⟩ := h
      refine r_istore 5 (by decide) dY_goMends_122 ?_
      refine r_iconst dY_goMends_124 ?_
      refine r_istore 6 (by decide) dY_goMends_125 ?_
      refine r_sub [2, 3, 4, 5, 6, 1, 0] ?_ h
      rfl
    · replace h := h.2 hc
      refine r_aload_n 0 0 rfl dY_goMends_110 rfl ?_
      refine q_getR 7 c84 fY_27 rfl rfl (g84_7 sw) (by decide) dY_goMends_111 ?_
      refine r_iload 4 4 rfl dY_goMends_114 ?_
      refine r_iconst dY_goMends_116 ?_
      refine q_iastore (w32 x4) rfl c90 h.1 dY_goMends_117 ?_
      replace h := h.2
      refine r_aload_n 0 0 rfl dY_goMends_118 rfl ?_
      refine r_callVi 12 [] rfl c84 rfl rfl oY_oddsNow iY_oddsNow sY_oddsNow yY_333 (by omega) ⟨Nat.le_refl _, Nat.le_refl _⟩ rfl (Nat.le_of_ble_eq_true rfl) dY_goMends_119 h (fun z2 r2 m2 h => ?_)
      obtain ⟨sw2, rfl, h⟩ := h
      refine r_istore 5 (by decide) dY_goMends_122 ?_
      refine r_iconst dY_goMends_124 ?_
      refine r_istore 6 (by decide) dY_goMends_125 ?_
      refine r_sub [2, 3, 4, 5, 6, 1, 0] ?_ h
      rfl
set_option maxRecDepth 4000 in
theorem wY_goMends_127 {X : Cx} {d : Nat} (hd0 : 6 ≤ d) (x1 x2 x3 x4 x5 x6 : Int) (sw : Bool) (m : Mem) (Q : Int → Bool → Mem → Prop) (h : ((w32 (m 84 1) ≤ w32 x6 → M2 X d mY_goMends [vr 84, vi x1, vi (x2 + 1), vi (x3 + x5)] sw m (fun z1 sw1 m1 => R2 X (d + 1) mY_goMends 180 [(0, vr 84), (1, vi x1), (2, vi x2), (3, vi x3), (4, vi x4), (6, vi 0)] [] sw1 m1 Q)) ∧ (¬ (w32 (m 84 1) ≤ w32 x6) → ((0 ≤ w32 x6 ∧ w32 x6 < 9) ∧ ((99 ≤ w32 (m 90 (w32 x6)) → R2 X (d + 1) mY_goMends 127 [(0, vr 84), (1, vi x1), (2, vi x2), (3, vi x3), (4, vi x4), (5, vi x5), (6, vi (x6 + 1))] [] sw m Q) ∧ (¬ (99 ≤ w32 (m 90 (w32 x6))) → ((0 ≤ w32 x6 ∧ w32 x6 < 9) ∧ ((0 ≤ w32 x6 ∧ w32 x6 < 9) ∧ R2 X (d + 1) mY_goMends 127 [(0, vr 84), (1, vi x1), (2, vi x2), (3, vi x3), (4, vi x4), (5, vi x5), (6, vi (x6 + 1))] [] sw (upm m 90 (w32 x6) ((m 90 (w32 x6)) + 1)) Q)))))))) : R2 X (d + 1) mY_goMends 127 [(0, vr 84), (1, vi x1), (2, vi x2), (3, vi x3), (4, vi x4), (5, vi x5), (6, vi x6)] [] sw m Q := by
  refine r_iload 6 6 rfl dY_goMends_127 ?_
  refine r_aload_n 0 0 rfl dY_goMends_129 rfl ?_
  refine q_getI 1 c84 fY_130 rfl rfl dY_goMends_130 ?_
  refine r_ifc_ge (tgt := 165) dY_goMends_133 (by decide) (fun hc => ?_) (fun hc => ?_)
  · replace h := h.1 hc
    refine r_aload_n 0 0 rfl dY_goMends_165 rfl ?_
    refine r_iload_n 1 1 rfl dY_goMends_166 rfl ?_
    refine r_iload_n 2 2 rfl dY_goMends_167 rfl ?_
    refine r_iconst dY_goMends_168 ?_
    refine r_iadd dY_goMends_169 ?_
    refine r_iload_n 3 3 rfl dY_goMends_170 rfl ?_
    refine r_iload 5 5 rfl dY_goMends_171 ?_
    refine r_iadd dY_goMends_173 ?_
    refine r_callVv 12 [_, _, _] rfl c84 rfl rfl oY_goMends iY_goMends sY_goMends yY_336 (by omega) ⟨Nat.le_refl _, Nat.le_refl _⟩ rfl (Nat.le_of_ble_eq_true rfl) dY_goMends_174 h (fun z1 r1 m1 h => ?_)
    obtain ⟨sw1, rfl, h⟩ := h
    refine r_iconst dY_goMends_177 ?_
    refine r_istore 6 (by decide) dY_goMends_178 ?_
    refine r_sub [1, 2, 3, 4, 5, 0] ?_ h
    rfl
  · replace h := h.2 hc
    refine r_aload_n 0 0 rfl dY_goMends_136 rfl ?_
    refine q_getR 7 c84 fY_27 rfl rfl (g84_7 sw) (by decide) dY_goMends_137 ?_
    refine r_iload 6 6 rfl dY_goMends_140 ?_
    refine q_iaload (w32 x6) rfl c90 h.1 dY_goMends_142 ?_
    replace h := h.2
    refine r_bipush (by decide) dY_goMends_143 ?_
    refine r_ifc_ge (tgt := 159) dY_goMends_145 (by decide) (fun hc => ?_) (fun hc => ?_)
    · replace h := h.1 hc
      refine r_iinc 6 6 rfl (by decide) dY_goMends_159 ?_
      refine r_goto (tgt := 127) dY_goMends_162 (by decide) ?_
      refine r_sub [1, 2, 3, 4, 5, 6, 0] ?_ h
      rfl
    · replace h := h.2 hc
      refine r_aload_n 0 0 rfl dY_goMends_148 rfl ?_
      refine q_getR 7 c84 fY_27 rfl rfl (g84_7 sw) (by decide) dY_goMends_149 ?_
      refine r_iload 6 6 rfl dY_goMends_152 ?_
      refine r_dup2 (fun q => by cases q) (fun q => by cases q) dY_goMends_154 ?_
      refine q_iaload (w32 x6) rfl c90 h.1 dY_goMends_155 ?_
      replace h := h.2
      refine r_iconst dY_goMends_156 ?_
      refine r_iadd dY_goMends_157 ?_
      refine q_iastore (w32 x6) rfl c90 h.1 dY_goMends_158 ?_
      replace h := h.2
      refine r_iinc 6 6 rfl (by decide) dY_goMends_159 ?_
      refine r_goto (tgt := 127) dY_goMends_162 (by decide) ?_
      refine r_sub [1, 2, 3, 4, 5, 6, 0] ?_ h
      rfl
set_option maxRecDepth 4000 in
theorem wY_goMends_180 {X : Cx} {d : Nat} (hd0 : 6 ≤ d) (x1 x2 x3 x4 x6 : Int) (sw : Bool) (m : Mem) (Q : Int → Bool → Mem → Prop) (h : ((w32 (m 84 1) ≤ w32 x6 → R2 X (d + 1) mY_goMends 88 [(0, vr 84), (1, vi x1), (2, vi x2), (3, vi x3), (4, vi (x4 + 1))] [] sw m Q) ∧ (¬ (w32 (m 84 1) ≤ w32 x6) → ((0 ≤ w32 ((5 * x2) + x6) ∧ w32 ((5 * x2) + x6) < 15) ∧ ((0 ≤ w32 x6 ∧ w32 x6 < 9) ∧ R2 X (d + 1) mY_goMends 180 [(0, vr 84), (1, vi x1), (2, vi x2), (3, vi x3), (4, vi x4), (6, vi (x6 + 1))] [] sw (upm m 90 (w32 x6) (m 111 (w32 ((5 * x2) + x6)))) Q))))) : R2 X (d + 1) mY_goMends 180 [(0, vr 84), (1, vi x1), (2, vi x2), (3, vi x3), (4, vi x4), (6, vi x6)] [] sw m Q := by
  refine r_iload 6 5 rfl dY_goMends_180 ?_
  refine r_aload_n 0 0 rfl dY_goMends_182 rfl ?_
  refine q_getI 1 c84 fY_130 rfl rfl dY_goMends_183 ?_
  refine r_ifc_ge (tgt := 213) dY_goMends_186 (by decide) (fun hc => ?_) (fun hc => ?_)
  · replace h := h.1 hc
    refine r_iinc 4 4 rfl (by decide) dY_goMends_213 ?_
    refine r_goto (tgt := 88) dY_goMends_216 (by decide) ?_
    refine r_sub [1, 2, 3, 4, 0] ?_ h
    rfl
  · replace h := h.2 hc
    refine r_aload_n 0 0 rfl dY_goMends_189 rfl ?_
    refine q_getR 7 c84 fY_27 rfl rfl (g84_7 sw) (by decide) dY_goMends_190 ?_
    refine r_iload 6 5 rfl dY_goMends_193 ?_
    refine r_aload_n 0 0 rfl dY_goMends_195 rfl ?_
    refine q_getR 41 c84 fY_97 rfl rfl (g84_41 sw) (by decide) dY_goMends_196 ?_
    refine r_iconst dY_goMends_199 ?_
    refine r_iload_n 2 2 rfl dY_goMends_200 rfl ?_
    refine r_imul dY_goMends_201 ?_
    refine r_iload 6 5 rfl dY_goMends_202 ?_
    refine r_iadd dY_goMends_204 ?_
    refine q_iaload (w32 ((5 * x2) + x6)) rfl c111 h.1 dY_goMends_205 ?_
    replace h := h.2
    refine q_iastore (w32 x6) rfl c90 h.1 dY_goMends_206 ?_
    replace h := h.2
    refine r_iinc 6 5 rfl (by decide) dY_goMends_207 ?_
    refine r_goto (tgt := 180) dY_goMends_210 (by decide) ?_
    refine r_sub [1, 2, 3, 4, 5, 0] ?_ h
    rfl
theorem dY_mending_0 : decode mY_mending.2.1 0 = .ok (.iload_n 1, 1) := by decide +kernel
theorem dY_mending_1 : decode mY_mending.2.1 1 = .ok (.iconst 1, 1) := by decide +kernel
theorem dY_mending_2 : decode mY_mending.2.1 2 = .ok (.iconst 3, 1) := by decide +kernel
theorem dY_mending_3 : decode mY_mending.2.1 3 = .ok (.invokestatic 133, 3) := by decide +kernel
theorem dY_mending_6 : decode mY_mending.2.1 6 = .ok (.ifCond .eq 8, 3) := by decide +kernel
theorem dY_mending_9 : decode mY_mending.2.1 9 = .ok (.iload_n 2, 1) := by decide +kernel
theorem dY_mending_10 : decode mY_mending.2.1 10 = .ok (.iconst (-1), 1) := by decide +kernel
theorem dY_mending_11 : decode mY_mending.2.1 11 = .ok (.if_icmp .ge 6, 3) := by decide +kernel
theorem dY_mending_14 : decode mY_mending.2.1 14 = .ok (.bipush (-3), 2) := by decide +kernel
theorem dY_mending_16 : decode mY_mending.2.1 16 = .ok (.ireturn, 1) := by decide +kernel
theorem dY_mending_17 : decode mY_mending.2.1 17 = .ok (.aload_n 0, 1) := by decide +kernel
theorem dY_mending_18 : decode mY_mending.2.1 18 = .ok (.getfield 130, 3) := by decide +kernel
theorem dY_mending_21 : decode mY_mending.2.1 21 = .ok (.iconst 5, 1) := by decide +kernel
theorem dY_mending_22 : decode mY_mending.2.1 22 = .ok (.if_icmp .le 6, 3) := by decide +kernel
theorem dY_mending_25 : decode mY_mending.2.1 25 = .ok (.bipush (-5), 2) := by decide +kernel
theorem dY_mending_27 : decode mY_mending.2.1 27 = .ok (.ireturn, 1) := by decide +kernel
theorem dY_mending_28 : decode mY_mending.2.1 28 = .ok (.aload_n 0, 1) := by decide +kernel
theorem dY_mending_29 : decode mY_mending.2.1 29 = .ok (.iconst (-1), 1) := by decide +kernel
theorem dY_mending_30 : decode mY_mending.2.1 30 = .ok (.putfield 330, 3) := by decide +kernel
theorem dY_mending_33 : decode mY_mending.2.1 33 = .ok (.aload_n 0, 1) := by decide +kernel
theorem dY_mending_34 : decode mY_mending.2.1 34 = .ok (.iload_n 1, 1) := by decide +kernel
theorem dY_mending_35 : decode mY_mending.2.1 35 = .ok (.iconst 0, 1) := by decide +kernel
theorem dY_mending_36 : decode mY_mending.2.1 36 = .ok (.iconst 0, 1) := by decide +kernel
theorem dY_mending_37 : decode mY_mending.2.1 37 = .ok (.invokevirtual 336, 3) := by decide +kernel
theorem dY_mending_40 : decode mY_mending.2.1 40 = .ok (.iload_n 2, 1) := by decide +kernel
theorem dY_mending_41 : decode mY_mending.2.1 41 = .ok (.ifCond .ge 10, 3) := by decide +kernel
theorem dY_mending_44 : decode mY_mending.2.1 44 = .ok (.aload_n 0, 1) := by decide +kernel
theorem dY_mending_45 : decode mY_mending.2.1 45 = .ok (.getfield 330, 3) := by decide +kernel
theorem dY_mending_48 : decode mY_mending.2.1 48 = .ok (.goto 19, 3) := by decide +kernel
theorem dY_mending_51 : decode mY_mending.2.1 51 = .ok (.iload_n 2, 1) := by decide +kernel
theorem dY_mending_52 : decode mY_mending.2.1 52 = .ok (.iload_n 1, 1) := by decide +kernel
theorem dY_mending_53 : decode mY_mending.2.1 53 = .ok (.if_icmp .ge 12, 3) := by decide +kernel
theorem dY_mending_56 : decode mY_mending.2.1 56 = .ok (.aload_n 0, 1) := by decide +kernel
theorem dY_mending_57 : decode mY_mending.2.1 57 = .ok (.getfield 94, 3) := by decide +kernel
theorem dY_mending_60 : decode mY_mending.2.1 60 = .ok (.iload_n 2, 1) := by decide +kernel
theorem dY_mending_61 : decode mY_mending.2.1 61 = .ok (.iaload, 1) := by decide +kernel
theorem dY_mending_62 : decode mY_mending.2.1 62 = .ok (.goto 5, 3) := by decide +kernel
theorem dY_mending_65 : decode mY_mending.2.1 65 = .ok (.bipush (-2), 2) := by decide +kernel
theorem dY_mending_67 : decode mY_mending.2.1 67 = .ok (.ireturn, 1) := by decide +kernel
/- Y_mending: (II)I -/
set_option maxRecDepth 4000 in
theorem wY_mending {X : Cx} (a1 a2 : Int) (sw : Bool) (m : Mem) (Q : Int → Bool → Mem → Prop) (h : M2 X 1 mY_in [vi a1, vi 1, vi 3] sw m (fun z1 sw1 m1 => ((w32 z1 = 0 → Q (-3) sw1 m1) ∧ (¬ (w32 z1 = 0) → (((-1) ≤ w32 a2 → ((w32 (m1 84 1) ≤ 5 → M2 X 20 mY_goMends [vr 84, vi a1, vi 0, vi 0] sw1 (upm m1 84 40 (-1)) (fun z2 sw2 m2 => ((0 ≤ w32 a2 → ((w32 a1 ≤ w32 a2 → Q (-2) sw2 m2) ∧ (¬ (w32 a1 ≤ w32 a2) → ((0 ≤ w32 a2 ∧ w32 a2 < 3) ∧ Q (m2 110 (w32 a2)) sw2 m2)))) ∧ (¬ (0 ≤ w32 a2) → Q (m2 84 40) sw2 m2)))) ∧ (¬ (w32 (m1 84 1) ≤ 5) → Q (-5) sw1 m1))) ∧ (¬ ((-1) ≤ w32 a2) → Q (-3) sw1 m1)))))) : M2 X 21 mY_mending [vr 84, vi a1, vi a2] sw m Q := by
  refine Mt.of pY_mending (Nat.le_of_ble_eq_true rfl) (Nat.le_refl _) ?_
  show R2 X 21 mY_mending 0 [(0, vr 84), (1, vi a1), (2, vi a2)] [] sw m Q
  refine r_iload_n 1 1 rfl dY_mending_0 rfl ?_
  refine r_iconst dY_mending_1 ?_
  refine r_iconst dY_mending_2 ?_
  refine r_callSb [_, _, _] rfl oY_in iY_in yY_133 (by decide) ⟨Nat.le_refl _, Nat.le_refl _⟩ rfl (Nat.le_of_ble_eq_true rfl) dY_mending_3 h (fun z1 r1 m1 h => ?_)
  obtain ⟨sw1, rfl, h⟩ := h
  refine r_if_eq (tgt := 14) dY_mending_6 (by decide) (fun hc => ?_) (fun hc => ?_)
  · replace h := h.1 hc
    refine r_bipush (by decide) dY_mending_14 ?_
    exact q_iret rfl h dY_mending_16
  · replace h := h.2 hc
    refine r_iload_n 2 2 rfl dY_mending_9 rfl ?_
    refine r_iconst dY_mending_10 ?_
    refine r_ifc_ge (tgt := 17) dY_mending_11 (by decide) (fun hc => ?_) (fun hc => ?_)
    · replace h := h.1 hc
      refine r_aload_n 0 0 rfl dY_mending_17 rfl ?_
      refine q_getI 1 c84 fY_130 rfl rfl dY_mending_18 ?_
      refine r_iconst dY_mending_21 ?_
      refine r_ifc_le (tgt := 28) dY_mending_22 (by decide) (fun hc => ?_) (fun hc => ?_)
      · replace h := h.1 hc
        refine r_aload_n 0 0 rfl dY_mending_28 rfl ?_
        refine r_iconst dY_mending_29 ?_
        refine q_putI 40 c84 pfY_330 rfl rfl dY_mending_30 ?_
        refine r_aload_n 0 0 rfl dY_mending_33 rfl ?_
        refine r_iload_n 1 1 rfl dY_mending_34 rfl ?_
        refine r_iconst dY_mending_35 ?_
        refine r_iconst dY_mending_36 ?_
        refine r_callVv 12 [_, _, _] rfl c84 rfl rfl oY_goMends iY_goMends sY_goMends yY_336 (by decide) ⟨Nat.le_refl _, Nat.le_refl _⟩ rfl (Nat.le_of_ble_eq_true rfl) dY_mending_37 h (fun z2 r2 m2 h => ?_)
        obtain ⟨sw2, rfl, h⟩ := h
        refine r_iload_n 2 2 rfl dY_mending_40 rfl ?_
        refine r_if_ge (tgt := 51) dY_mending_41 (by decide) (fun hc => ?_) (fun hc => ?_)
        · replace h := h.1 hc
          refine r_iload_n 2 2 rfl dY_mending_51 rfl ?_
          refine r_iload_n 1 1 rfl dY_mending_52 rfl ?_
          refine r_ifc_ge (tgt := 65) dY_mending_53 (by decide) (fun hc => ?_) (fun hc => ?_)
          · replace h := h.1 hc
            refine r_bipush (by decide) dY_mending_65 ?_
            exact q_iret rfl h dY_mending_67
          · replace h := h.2 hc
            refine r_aload_n 0 0 rfl dY_mending_56 rfl ?_
            refine q_getR 39 c84 fY_94 rfl rfl (g84_39 sw2) (by decide) dY_mending_57 ?_
            refine r_iload_n 2 2 rfl dY_mending_60 rfl ?_
            refine q_iaload (w32 a2) rfl c110 h.1 dY_mending_61 ?_
            replace h := h.2
            refine r_goto (tgt := 67) dY_mending_62 (by decide) ?_
            exact q_iret rfl h dY_mending_67
        · replace h := h.2 hc
          refine r_aload_n 0 0 rfl dY_mending_44 rfl ?_
          refine q_getI 40 c84 fY_330 rfl rfl dY_mending_45 ?_
          refine r_goto (tgt := 67) dY_mending_48 (by decide) ?_
          exact q_iret rfl h dY_mending_67
      · replace h := h.2 hc
        refine r_bipush (by decide) dY_mending_25 ?_
        exact q_iret rfl h dY_mending_27
    · replace h := h.2 hc
      refine r_bipush (by decide) dY_mending_14 ?_
      exact q_iret rfl h dY_mending_16
theorem dY_rowFault_0 : decode mY_rowFault.2.1 0 = .ok (.aload_n 0, 1) := by decide +kernel
theorem dY_rowFault_1 : decode mY_rowFault.2.1 1 = .ok (.getfield 115, 3) := by decide +kernel
theorem dY_rowFault_4 : decode mY_rowFault.2.1 4 = .ok (.iload_n 1, 1) := by decide +kernel
theorem dY_rowFault_5 : decode mY_rowFault.2.1 5 = .ok (.iaload, 1) := by decide +kernel
theorem dY_rowFault_6 : decode mY_rowFault.2.1 6 = .ok (.iconst (-1), 1) := by decide +kernel
theorem dY_rowFault_7 : decode mY_rowFault.2.1 7 = .ok (.if_icmp .ne 8, 3) := by decide +kernel
theorem dY_rowFault_10 : decode mY_rowFault.2.1 10 = .ok (.bipush (-11), 2) := by decide +kernel
theorem dY_rowFault_12 : decode mY_rowFault.2.1 12 = .ok (.goto 20, 3) := by decide +kernel
theorem dY_rowFault_15 : decode mY_rowFault.2.1 15 = .ok (.aload_n 0, 1) := by decide +kernel
theorem dY_rowFault_16 : decode mY_rowFault.2.1 16 = .ok (.getfield 115, 3) := by decide +kernel
theorem dY_rowFault_19 : decode mY_rowFault.2.1 19 = .ok (.iload_n 1, 1) := by decide +kernel
theorem dY_rowFault_20 : decode mY_rowFault.2.1 20 = .ok (.iaload, 1) := by decide +kernel
theorem dY_rowFault_21 : decode mY_rowFault.2.1 21 = .ok (.bipush (-3), 2) := by decide +kernel
theorem dY_rowFault_23 : decode mY_rowFault.2.1 23 = .ok (.if_icmp .ne 7, 3) := by decide +kernel
theorem dY_rowFault_26 : decode mY_rowFault.2.1 26 = .ok (.iconst 0, 1) := by decide +kernel
theorem dY_rowFault_27 : decode mY_rowFault.2.1 27 = .ok (.goto 5, 3) := by decide +kernel
theorem dY_rowFault_30 : decode mY_rowFault.2.1 30 = .ok (.bipush (-12), 2) := by decide +kernel
theorem dY_rowFault_32 : decode mY_rowFault.2.1 32 = .ok (.ireturn, 1) := by decide +kernel
/- Y_rowFault: (I)I -/
set_option maxRecDepth 4000 in
theorem wY_rowFault {X : Cx} (a1 : Int) (sw : Bool) (m : Mem) (Q : Int → Bool → Mem → Prop) (h : ((0 ≤ w32 a1 ∧ w32 a1 < 6) ∧ ((¬ w32 (m 117 (w32 a1)) = (-1) → ((0 ≤ w32 a1 ∧ w32 a1 < 6) ∧ ((¬ w32 (m 117 (w32 a1)) = (-3) → Q (-12) sw m) ∧ (¬ (¬ w32 (m 117 (w32 a1)) = (-3)) → Q 0 sw m)))) ∧ (¬ (¬ w32 (m 117 (w32 a1)) = (-1)) → Q (-11) sw m)))) : M2 X 1 mY_rowFault [vr 84, vi a1] sw m Q := by
  refine Mt.of pY_rowFault (Nat.le_of_ble_eq_true rfl) (Nat.le_refl _) ?_
  show R2 X 1 mY_rowFault 0 [(0, vr 84), (1, vi a1)] [] sw m Q
  refine r_aload_n 0 0 rfl dY_rowFault_0 rfl ?_
  refine q_getR 51 c84 fY_115 rfl rfl (g84_51 sw) (by decide) dY_rowFault_1 ?_
  refine r_iload_n 1 1 rfl dY_rowFault_4 rfl ?_
  refine q_iaload (w32 a1) rfl c117 h.1 dY_rowFault_5 ?_
  replace h := h.2
  refine r_iconst dY_rowFault_6 ?_
  refine r_ifc_ne (tgt := 15) dY_rowFault_7 (by decide) (fun hc => ?_) (fun hc => ?_)
  · replace h := h.1 hc
    refine r_aload_n 0 0 rfl dY_rowFault_15 rfl ?_
    refine q_getR 51 c84 fY_115 rfl rfl (g84_51 sw) (by decide) dY_rowFault_16 ?_
    refine r_iload_n 1 1 rfl dY_rowFault_19 rfl ?_
    refine q_iaload (w32 a1) rfl c117 h.1 dY_rowFault_20 ?_
    replace h := h.2
    refine r_bipush (by decide) dY_rowFault_21 ?_
    refine r_ifc_ne (tgt := 30) dY_rowFault_23 (by decide) (fun hc => ?_) (fun hc => ?_)
    · replace h := h.1 hc
      refine r_bipush (by decide) dY_rowFault_30 ?_
      exact q_iret rfl h dY_rowFault_32
    · replace h := h.2 hc
      refine r_iconst dY_rowFault_26 ?_
      refine r_goto (tgt := 32) dY_rowFault_27 (by decide) ?_
      exact q_iret rfl h dY_rowFault_32
  · replace h := h.2 hc
    refine r_bipush (by decide) dY_rowFault_10 ?_
    refine r_goto (tgt := 32) dY_rowFault_12 (by decide) ?_
    exact q_iret rfl h dY_rowFault_32
theorem dY_justOdds_0 : decode mY_justOdds.2.1 0 = .ok (.lconst 0, 1) := by decide +kernel
theorem dY_justOdds_1 : decode mY_justOdds.2.1 1 = .ok (.lstore_n 2, 1) := by decide +kernel
theorem dY_justOdds_2 : decode mY_justOdds.2.1 2 = .ok (.iconst 0, 1) := by decide +kernel
theorem dY_justOdds_3 : decode mY_justOdds.2.1 3 = .ok (.istore 4, 2) := by decide +kernel
theorem dY_justOdds_5 : decode mY_justOdds.2.1 5 = .ok (.iload 4, 2) := by decide +kernel
theorem dY_justOdds_7 : decode mY_justOdds.2.1 7 = .ok (.aload_n 0, 1) := by decide +kernel
theorem dY_justOdds_8 : decode mY_justOdds.2.1 8 = .ok (.invokevirtual 272, 3) := by decide +kernel
theorem dY_justOdds_11 : decode mY_justOdds.2.1 11 = .ok (.if_icmp .ge 32, 3) := by decide +kernel
theorem dY_justOdds_14 : decode mY_justOdds.2.1 14 = .ok (.aload_n 0, 1) := by decide +kernel
theorem dY_justOdds_15 : decode mY_justOdds.2.1 15 = .ok (.iload 4, 2) := by decide +kernel
theorem dY_justOdds_17 : decode mY_justOdds.2.1 17 = .ok (.invokevirtual 268, 3) := by decide +kernel
theorem dY_justOdds_20 : decode mY_justOdds.2.1 20 = .ok (.aload_n 0, 1) := by decide +kernel
theorem dY_justOdds_21 : decode mY_justOdds.2.1 21 = .ok (.invokevirtual 275, 3) := by decide +kernel
theorem dY_justOdds_24 : decode mY_justOdds.2.1 24 = .ok (.iload_n 1, 1) := by decide +kernel
theorem dY_justOdds_25 : decode mY_justOdds.2.1 25 = .ok (.if_icmp .ne 12, 3) := by decide +kernel
theorem dY_justOdds_28 : decode mY_justOdds.2.1 28 = .ok (.lload_n 2, 1) := by decide +kernel
theorem dY_justOdds_29 : decode mY_justOdds.2.1 29 = .ok (.aload_n 0, 1) := by decide +kernel
theorem dY_justOdds_30 : decode mY_justOdds.2.1 30 = .ok (.iload 4, 2) := by decide +kernel
theorem dY_justOdds_32 : decode mY_justOdds.2.1 32 = .ok (.invokevirtual 278, 3) := by decide +kernel
theorem dY_justOdds_35 : decode mY_justOdds.2.1 35 = .ok (.ladd, 1) := by decide +kernel
theorem dY_justOdds_36 : decode mY_justOdds.2.1 36 = .ok (.lstore_n 2, 1) := by decide +kernel
theorem dY_justOdds_37 : decode mY_justOdds.2.1 37 = .ok (.iinc 4 1, 3) := by decide +kernel
theorem dY_justOdds_40 : decode mY_justOdds.2.1 40 = .ok (.goto (-35), 3) := by decide +kernel
theorem dY_justOdds_43 : decode mY_justOdds.2.1 43 = .ok (.lload_n 2, 1) := by decide +kernel
theorem dY_justOdds_44 : decode mY_justOdds.2.1 44 = .ok (.lreturn, 1) := by decide +kernel
/- Y_justOdds: (I)J -/
set_option maxRecDepth 4000 in
theorem wY_justOdds {X : Cx} (a1 : Int) (sw : Bool) (m : Mem) (Q : Int → Bool → Mem → Prop) (h : R2 X 3 mY_justOdds 5 [(0, vr 84), (1, vi a1), (2, vl 0), (4, vi 0)] [] sw m Q) : M2 X 3 mY_justOdds [vr 84, vi a1] sw m Q := by
  refine Mt.of pY_justOdds (Nat.le_of_ble_eq_true rfl) (Nat.le_refl _) ?_
  show R2 X 3 mY_justOdds 0 [(0, vr 84), (1, vi a1)] [] sw m Q
  refine r_lconst dY_justOdds_0 ?_
  refine r_lstore_n 2 (by decide) dY_justOdds_1 rfl ?_
  refine r_iconst dY_justOdds_2 ?_
  refine r_istore 4 (by decide) dY_justOdds_3 ?_
  refine r_sub [2, 3, 1, 0] ?_ h
  rfl
set_option maxRecDepth 4000 in
theorem wY_justOdds_5 {X : Cx} (x1 x2 x4 : Int) (sw : Bool) (m : Mem) (Q : Int → Bool → Mem → Prop) (h : M2 X 1 mY_sets [vr 84] sw m (fun z1 sw1 m1 => ((w32 z1 ≤ w32 x4 → Q x2 sw1 m1) ∧ (¬ (w32 z1 ≤ w32 x4) → M2 X 2 mY_goMorning [vr 84, vi x4] sw1 m1 (fun z2 sw2 m2 => M2 X 1 mY_endNow [vr 84] sw2 m2 (fun z3 sw3 m3 => ((¬ w32 z3 = w32 x1 → R2 X 3 mY_justOdds 5 [(0, vr 84), (1, vi x1), (2, vl x2), (4, vi (x4 + 1))] [] sw3 m3 Q) ∧ (¬ (¬ w32 z3 = w32 x1) → M2 X 1 mY_oddsOf [vr 84, vi x4] sw3 m3 (fun z4 sw4 m4 => R2 X 3 mY_justOdds 5 [(0, vr 84), (1, vi x1), (2, vl (x2 + z4)), (4, vi (x4 + 1))] [] sw4 m4 Q))))))))) : R2 X 3 mY_justOdds 5 [(0, vr 84), (1, vi x1), (2, vl x2), (4, vi x4)] [] sw m Q := by
  refine r_iload 4 3 rfl dY_justOdds_5 ?_
  refine r_aload_n 0 0 rfl dY_justOdds_7 rfl ?_
  refine r_callVi 12 [] rfl c84 rfl rfl oY_sets iY_sets sY_sets yY_272 (by decide) ⟨Nat.le_refl _, Nat.le_refl _⟩ rfl (Nat.le_of_ble_eq_true rfl) dY_justOdds_8 h (fun z1 r1 m1 h => ?_)
  obtain ⟨sw1, rfl, h⟩ := h
  refine r_ifc_ge (tgt := 43) dY_justOdds_11 (by decide) (fun hc => ?_) (fun hc => ?_)
  · replace h := h.1 hc
    refine r_lload_n 2 2 rfl dY_justOdds_43 rfl ?_
    exact q_lret rfl h dY_justOdds_44
  · replace h := h.2 hc
    refine r_aload_n 0 0 rfl dY_justOdds_14 rfl ?_
    refine r_iload 4 3 rfl dY_justOdds_15 ?_
    refine r_callVv 12 [_] rfl c84 rfl rfl oY_goMorning iY_goMorning sY_goMorning yY_268 (by decide) ⟨Nat.le_refl _, Nat.le_refl _⟩ rfl (Nat.le_of_ble_eq_true rfl) dY_justOdds_17 h (fun z2 r2 m2 h => ?_)
    obtain ⟨sw2, rfl, h⟩ := h
    refine r_aload_n 0 0 rfl dY_justOdds_20 rfl ?_
    refine r_callVi 12 [] rfl c84 rfl rfl oY_endNow iY_endNow sY_endNow yY_275 (by decide) ⟨Nat.le_refl _, Nat.le_refl _⟩ rfl (Nat.le_of_ble_eq_true rfl) dY_justOdds_21 h (fun z3 r3 m3 h => ?_)
    obtain ⟨sw3, rfl, h⟩ := h
    refine r_iload_n 1 1 rfl dY_justOdds_24 rfl ?_
    refine r_ifc_ne (tgt := 37) dY_justOdds_25 (by decide) (fun hc => ?_) (fun hc => ?_)
    · replace h := h.1 hc
      refine r_iinc 4 3 rfl (by decide) dY_justOdds_37 ?_
      refine r_goto (tgt := 5) dY_justOdds_40 (by decide) ?_
      refine r_sub [1, 2, 3, 0] ?_ h
      rfl
    · replace h := h.2 hc
      refine r_lload_n 2 2 rfl dY_justOdds_28 rfl ?_
      refine r_aload_n 0 0 rfl dY_justOdds_29 rfl ?_
      refine r_iload 4 3 rfl dY_justOdds_30 ?_
      refine r_callVl 12 [_] rfl c84 rfl rfl oY_oddsOf iY_oddsOf sY_oddsOf yY_278 (by decide) ⟨Nat.le_refl _, Nat.le_refl _⟩ rfl (Nat.le_of_ble_eq_true rfl) dY_justOdds_32 h (fun z4 r4 m4 h => ?_)
      obtain ⟨sw4, rfl, h⟩ := h
      refine r_ladd dY_justOdds_35 ?_
      refine r_lstore_n 2 (by decide) dY_justOdds_36 rfl ?_
      refine r_iinc 4 3 rfl (by decide) dY_justOdds_37 ?_
      refine r_goto (tgt := 5) dY_justOdds_40 (by decide) ?_
      refine r_sub [2, 3, 1, 0] ?_ h
      rfl
theorem dY_judge_0 : decode mY_judge.2.1 0 = .ok (.iload_n 1, 1) := by decide +kernel
theorem dY_judge_1 : decode mY_judge.2.1 1 = .ok (.invokestatic 144, 3) := by decide +kernel
theorem dY_judge_4 : decode mY_judge.2.1 4 = .ok (.ifCond .ne 5, 3) := by decide +kernel
theorem dY_judge_7 : decode mY_judge.2.1 7 = .ok (.iconst (-1), 1) := by decide +kernel
theorem dY_judge_8 : decode mY_judge.2.1 8 = .ok (.ireturn, 1) := by decide +kernel
theorem dY_judge_9 : decode mY_judge.2.1 9 = .ok (.aload_n 0, 1) := by decide +kernel
theorem dY_judge_10 : decode mY_judge.2.1 10 = .ok (.iload_n 1, 1) := by decide +kernel
theorem dY_judge_11 : decode mY_judge.2.1 11 = .ok (.invokevirtual 339, 3) := by decide +kernel
theorem dY_judge_14 : decode mY_judge.2.1 14 = .ok (.istore_n 2, 1) := by decide +kernel
theorem dY_judge_15 : decode mY_judge.2.1 15 = .ok (.iload_n 2, 1) := by decide +kernel
theorem dY_judge_16 : decode mY_judge.2.1 16 = .ok (.ifCond .ge 5, 3) := by decide +kernel
theorem dY_judge_19 : decode mY_judge.2.1 19 = .ok (.iload_n 2, 1) := by decide +kernel
theorem dY_judge_20 : decode mY_judge.2.1 20 = .ok (.ireturn, 1) := by decide +kernel
theorem dY_judge_21 : decode mY_judge.2.1 21 = .ok (.aload_n 0, 1) := by decide +kernel
theorem dY_judge_22 : decode mY_judge.2.1 22 = .ok (.invokevirtual 284, 3) := by decide +kernel
theorem dY_judge_25 : decode mY_judge.2.1 25 = .ok (.iconst 0, 1) := by decide +kernel
theorem dY_judge_26 : decode mY_judge.2.1 26 = .ok (.istore_n 3, 1) := by decide +kernel
theorem dY_judge_27 : decode mY_judge.2.1 27 = .ok (.iload_n 3, 1) := by decide +kernel
theorem dY_judge_28 : decode mY_judge.2.1 28 = .ok (.aload_n 0, 1) := by decide +kernel
theorem dY_judge_29 : decode mY_judge.2.1 29 = .ok (.getfield 118, 3) := by decide +kernel
theorem dY_judge_32 : decode mY_judge.2.1 32 = .ok (.iload_n 1, 1) := by decide +kernel
theorem dY_judge_33 : decode mY_judge.2.1 33 = .ok (.iaload, 1) := by decide +kernel
theorem dY_judge_34 : decode mY_judge.2.1 34 = .ok (.if_icmp .ge 32, 3) := by decide +kernel
theorem dY_judge_37 : decode mY_judge.2.1 37 = .ok (.aload_n 0, 1) := by decide +kernel
theorem dY_judge_38 : decode mY_judge.2.1 38 = .ok (.aload_n 0, 1) := by decide +kernel
theorem dY_judge_39 : decode mY_judge.2.1 39 = .ok (.getfield 121, 3) := by decide +kernel
theorem dY_judge_42 : decode mY_judge.2.1 42 = .ok (.bipush 60, 2) := by decide +kernel
theorem dY_judge_44 : decode mY_judge.2.1 44 = .ok (.iload_n 1, 1) := by decide +kernel
theorem dY_judge_45 : decode mY_judge.2.1 45 = .ok (.imul, 1) := by decide +kernel
theorem dY_judge_46 : decode mY_judge.2.1 46 = .ok (.iload_n 3, 1) := by decide +kernel
theorem dY_judge_47 : decode mY_judge.2.1 47 = .ok (.iadd, 1) := by decide +kernel
theorem dY_judge_48 : decode mY_judge.2.1 48 = .ok (.laload, 1) := by decide +kernel
theorem dY_judge_49 : decode mY_judge.2.1 49 = .ok (.l2i, 1) := by decide +kernel
theorem dY_judge_50 : decode mY_judge.2.1 50 = .ok (.invokevirtual 342, 3) := by decide +kernel
theorem dY_judge_53 : decode mY_judge.2.1 53 = .ok (.lconst 0, 1) := by decide +kernel
theorem dY_judge_54 : decode mY_judge.2.1 54 = .ok (.lcmp, 1) := by decide +kernel
theorem dY_judge_55 : decode mY_judge.2.1 55 = .ok (.ifCond .ne 5, 3) := by decide +kernel
theorem dY_judge_58 : decode mY_judge.2.1 58 = .ok (.iload_n 3, 1) := by decide +kernel
theorem dY_judge_59 : decode mY_judge.2.1 59 = .ok (.ireturn, 1) := by decide +kernel
theorem dY_judge_60 : decode mY_judge.2.1 60 = .ok (.iinc 3 1, 3) := by decide +kernel
theorem dY_judge_63 : decode mY_judge.2.1 63 = .ok (.goto (-36), 3) := by decide +kernel
theorem dY_judge_66 : decode mY_judge.2.1 66 = .ok (.bipush (-2), 2) := by decide +kernel
theorem dY_judge_68 : decode mY_judge.2.1 68 = .ok (.ireturn, 1) := by decide +kernel
/- Y_judge: (I)I -/
set_option maxRecDepth 4000 in
theorem wY_judge {X : Cx} (a1 : Int) (sw : Bool) (m : Mem) (Q : Int → Bool → Mem → Prop) (h : M2 X 2 mY_isShelf [vi a1] sw m (fun z1 sw1 m1 => ((¬ w32 z1 = 0 → M2 X 1 mY_rowFault [vr 84, vi a1] sw1 m1 (fun z2 sw2 m2 => ((0 ≤ w32 z2 → M2 X 5 mY_layTwelfths [vr 84] sw2 m2 (fun z3 sw3 m3 => R2 X 6 mY_judge 27 [(0, vr 84), (1, vi a1), (3, vi 0)] [] sw3 m3 Q)) ∧ (¬ (0 ≤ w32 z2) → Q z2 sw2 m2)))) ∧ (¬ (¬ w32 z1 = 0) → Q (-1) sw1 m1)))) : M2 X 6 mY_judge [vr 84, vi a1] sw m Q := by
  refine Mt.of pY_judge (Nat.le_of_ble_eq_true rfl) (Nat.le_refl _) ?_
  show R2 X 6 mY_judge 0 [(0, vr 84), (1, vi a1)] [] sw m Q
  refine r_iload_n 1 1 rfl dY_judge_0 rfl ?_
  refine r_callSb [_] rfl oY_isShelf iY_isShelf yY_144 (by decide) ⟨Nat.le_refl _, Nat.le_refl _⟩ rfl (Nat.le_of_ble_eq_true rfl) dY_judge_1 h (fun z1 r1 m1 h => ?_)
  obtain ⟨sw1, rfl, h⟩ := h
  refine r_if_ne (tgt := 9) dY_judge_4 (by decide) (fun hc => ?_) (fun hc => ?_)
  · replace h := h.1 hc
    refine r_aload_n 0 0 rfl dY_judge_9 rfl ?_
    refine r_iload_n 1 1 rfl dY_judge_10 rfl ?_
    refine r_callVi 12 [_] rfl c84 rfl rfl oY_rowFault iY_rowFault sY_rowFault yY_339 (by decide) ⟨Nat.le_refl _, Nat.le_refl _⟩ rfl (Nat.le_of_ble_eq_true rfl) dY_judge_11 h (fun z2 r2 m2 h => ?_)
    obtain ⟨sw2, rfl, h⟩ := h
    refine r_istore_n 2 (by decide) dY_judge_14 rfl ?_
    refine r_iload_n 2 0 rfl dY_judge_15 rfl ?_
    refine r_if_ge (tgt := 21) dY_judge_16 (by decide) (fun hc => ?_) (fun hc => ?_)
    · replace h := h.1 hc
      refine r_aload_n 0 1 rfl dY_judge_21 rfl ?_
      refine r_callVv 12 [] rfl c84 rfl rfl oY_layTwelfths iY_layTwelfths sY_layTwelfths yY_284 (by decide) ⟨Nat.le_refl _, Nat.le_refl _⟩ rfl (Nat.le_of_ble_eq_true rfl) dY_judge_22 h (fun z3 r3 m3 h => ?_)
      obtain ⟨sw3, rfl, h⟩ := h
      refine r_iconst dY_judge_25 ?_
      refine r_istore_n 3 (by decide) dY_judge_26 rfl ?_
      refine r_sub [2, 3, 0] ?_ h
      rfl
    · replace h := h.2 hc
      refine r_iload_n 2 0 rfl dY_judge_19 rfl ?_
      exact q_iret rfl h dY_judge_20
  · replace h := h.2 hc
    refine r_iconst dY_judge_7 ?_
    exact q_iret rfl h dY_judge_8
set_option maxRecDepth 4000 in
theorem wY_judge_27 {X : Cx} (x1 x3 : Int) (sw : Bool) (m : Mem) (Q : Int → Bool → Mem → Prop) (h : ((0 ≤ w32 x1 ∧ w32 x1 < 6) ∧ ((w32 (m 118 (w32 x1)) ≤ w32 x3 → Q (-2) sw m) ∧ (¬ (w32 (m 118 (w32 x1)) ≤ w32 x3) → ((0 ≤ w32 ((60 * x1) + x3) ∧ w32 ((60 * x1) + x3) < 360) ∧ M2 X 3 mY_justOdds [vr 84, vi (m 119 (w32 ((60 * x1) + x3)))] sw m (fun z1 sw1 m1 => ((¬ w64 z1 = 0 → R2 X 6 mY_judge 27 [(0, vr 84), (1, vi x1), (3, vi (x3 + 1))] [] sw1 m1 Q) ∧ (¬ (¬ w64 z1 = 0) → Q x3 sw1 m1)))))))) : R2 X 6 mY_judge 27 [(0, vr 84), (1, vi x1), (3, vi x3)] [] sw m Q := by
  refine r_iload_n 3 2 rfl dY_judge_27 rfl ?_
  refine r_aload_n 0 0 rfl dY_judge_28 rfl ?_
  refine q_getR 52 c84 fY_118 rfl rfl (g84_52 sw) (by decide) dY_judge_29 ?_
  refine r_iload_n 1 1 rfl dY_judge_32 rfl ?_
  refine q_iaload (w32 x1) rfl c118 h.1 dY_judge_33 ?_
  replace h := h.2
  refine r_ifc_ge (tgt := 66) dY_judge_34 (by decide) (fun hc => ?_) (fun hc => ?_)
  · replace h := h.1 hc
    refine r_bipush (by decide) dY_judge_66 ?_
    exact q_iret rfl h dY_judge_68
  · replace h := h.2 hc
    refine r_aload_n 0 0 rfl dY_judge_37 rfl ?_
    refine r_aload_n 0 0 rfl dY_judge_38 rfl ?_
    refine q_getR 53 c84 fY_121 rfl rfl (g84_53 sw) (by decide) dY_judge_39 ?_
    refine r_bipush (by decide) dY_judge_42 ?_
    refine r_iload_n 1 1 rfl dY_judge_44 rfl ?_
    refine r_imul dY_judge_45 ?_
    refine r_iload_n 3 2 rfl dY_judge_46 rfl ?_
    refine r_iadd dY_judge_47 ?_
    refine q_laload (w32 ((60 * x1) + x3)) rfl c119 h.1 dY_judge_48 ?_
    replace h := h.2
    refine r_l2i dY_judge_49 ?_
    refine r_callVl 12 [_] rfl c84 rfl rfl oY_justOdds iY_justOdds sY_justOdds yY_342 (by decide) ⟨Nat.le_refl _, Nat.le_refl _⟩ rfl (Nat.le_of_ble_eq_true rfl) dY_judge_50 h (fun z1 r1 m1 h => ?_)
    obtain ⟨sw1, rfl, h⟩ := h
    refine r_lconst dY_judge_53 ?_
    refine q_lc_ne (tgt := 60) (A := w64 z1) (B := 0) rfl (by decide +kernel) dY_judge_54 dY_judge_55 (by decide) (fun hc => ?_) (fun hc => ?_)
    · replace h := h.1 hc
      refine r_iinc 3 2 rfl (by decide) dY_judge_60 ?_
      refine r_goto (tgt := 27) dY_judge_63 (by decide) ?_
      refine r_sub [1, 2, 0] ?_ h
      rfl
    · replace h := h.2 hc
      refine r_iload_n 3 2 rfl dY_judge_58 rfl ?_
      exact q_iret rfl h dY_judge_59
theorem dY_how_0 : decode mY_how.2.1 0 = .ok (.iload_n 1, 1) := by decide +kernel
theorem dY_how_1 : decode mY_how.2.1 1 = .ok (.iconst (-1), 1) := by decide +kernel
theorem dY_how_2 : decode mY_how.2.1 2 = .ok (.sipush 999, 3) := by decide +kernel
theorem dY_how_5 : decode mY_how.2.1 5 = .ok (.invokestatic 133, 3) := by decide +kernel
theorem dY_how_8 : decode mY_how.2.1 8 = .ok (.ifCond .eq 12, 3) := by decide +kernel
theorem dY_how_11 : decode mY_how.2.1 11 = .ok (.iload_n 2, 1) := by decide +kernel
theorem dY_how_12 : decode mY_how.2.1 12 = .ok (.iconst 0, 1) := by decide +kernel
theorem dY_how_13 : decode mY_how.2.1 13 = .ok (.iconst 1, 1) := by decide +kernel
theorem dY_how_14 : decode mY_how.2.1 14 = .ok (.invokestatic 133, 3) := by decide +kernel
theorem dY_how_17 : decode mY_how.2.1 17 = .ok (.ifCond .ne 5, 3) := by decide +kernel
theorem dY_how_20 : decode mY_how.2.1 20 = .ok (.iconst (-1), 1) := by decide +kernel
theorem dY_how_21 : decode mY_how.2.1 21 = .ok (.ireturn, 1) := by decide +kernel
theorem dY_how_22 : decode mY_how.2.1 22 = .ok (.aload_n 0, 1) := by decide +kernel
theorem dY_how_23 : decode mY_how.2.1 23 = .ok (.invokevirtual 284, 3) := by decide +kernel
theorem dY_how_26 : decode mY_how.2.1 26 = .ok (.iconst 0, 1) := by decide +kernel
theorem dY_how_27 : decode mY_how.2.1 27 = .ok (.istore_n 3, 1) := by decide +kernel
theorem dY_how_28 : decode mY_how.2.1 28 = .ok (.bipush (-2), 2) := by decide +kernel
theorem dY_how_30 : decode mY_how.2.1 30 = .ok (.istore 4, 2) := by decide +kernel
theorem dY_how_32 : decode mY_how.2.1 32 = .ok (.lconst 0, 1) := by decide +kernel
theorem dY_how_33 : decode mY_how.2.1 33 = .ok (.lstore 5, 2) := by decide +kernel
theorem dY_how_35 : decode mY_how.2.1 35 = .ok (.iconst 0, 1) := by decide +kernel
theorem dY_how_36 : decode mY_how.2.1 36 = .ok (.istore 7, 2) := by decide +kernel
theorem dY_how_38 : decode mY_how.2.1 38 = .ok (.iload 7, 2) := by decide +kernel
theorem dY_how_40 : decode mY_how.2.1 40 = .ok (.aload_n 0, 1) := by decide +kernel
theorem dY_how_41 : decode mY_how.2.1 41 = .ok (.invokevirtual 272, 3) := by decide +kernel
theorem dY_how_44 : decode mY_how.2.1 44 = .ok (.if_icmp .ge 63, 3) := by decide +kernel
theorem dY_how_47 : decode mY_how.2.1 47 = .ok (.aload_n 0, 1) := by decide +kernel
theorem dY_how_48 : decode mY_how.2.1 48 = .ok (.iload 7, 2) := by decide +kernel
theorem dY_how_50 : decode mY_how.2.1 50 = .ok (.invokevirtual 268, 3) := by decide +kernel
theorem dY_how_53 : decode mY_how.2.1 53 = .ok (.aload_n 0, 1) := by decide +kernel
theorem dY_how_54 : decode mY_how.2.1 54 = .ok (.iload 7, 2) := by decide +kernel
theorem dY_how_56 : decode mY_how.2.1 56 = .ok (.invokevirtual 278, 3) := by decide +kernel
theorem dY_how_59 : decode mY_how.2.1 59 = .ok (.lstore 8, 2) := by decide +kernel
theorem dY_how_61 : decode mY_how.2.1 61 = .ok (.aload_n 0, 1) := by decide +kernel
theorem dY_how_62 : decode mY_how.2.1 62 = .ok (.invokevirtual 275, 3) := by decide +kernel
theorem dY_how_65 : decode mY_how.2.1 65 = .ok (.iload_n 1, 1) := by decide +kernel
theorem dY_how_66 : decode mY_how.2.1 66 = .ok (.if_icmp .ne 35, 3) := by decide +kernel
theorem dY_how_69 : decode mY_how.2.1 69 = .ok (.lload 8, 2) := by decide +kernel
theorem dY_how_71 : decode mY_how.2.1 71 = .ok (.lconst 0, 1) := by decide +kernel
theorem dY_how_72 : decode mY_how.2.1 72 = .ok (.lcmp, 1) := by decide +kernel
theorem dY_how_73 : decode mY_how.2.1 73 = .ok (.ifCond .ne 6, 3) := by decide +kernel
theorem dY_how_76 : decode mY_how.2.1 76 = .ok (.goto 25, 3) := by decide +kernel
theorem dY_how_79 : decode mY_how.2.1 79 = .ok (.iinc 3 1, 3) := by decide +kernel
theorem dY_how_82 : decode mY_how.2.1 82 = .ok (.lload 8, 2) := by decide +kernel
theorem dY_how_84 : decode mY_how.2.1 84 = .ok (.lload 5, 2) := by decide +kernel
theorem dY_how_86 : decode mY_how.2.1 86 = .ok (.lcmp, 1) := by decide +kernel
theorem dY_how_87 : decode mY_how.2.1 87 = .ok (.ifCond .gt 6, 3) := by decide +kernel
theorem dY_how_90 : decode mY_how.2.1 90 = .ok (.goto 11, 3) := by decide +kernel
theorem dY_how_93 : decode mY_how.2.1 93 = .ok (.iload 7, 2) := by decide +kernel
theorem dY_how_95 : decode mY_how.2.1 95 = .ok (.istore 4, 2) := by decide +kernel
theorem dY_how_97 : decode mY_how.2.1 97 = .ok (.lload 8, 2) := by decide +kernel
theorem dY_how_99 : decode mY_how.2.1 99 = .ok (.lstore 5, 2) := by decide +kernel
theorem dY_how_101 : decode mY_how.2.1 101 = .ok (.iinc 7 1, 3) := by decide +kernel
theorem dY_how_104 : decode mY_how.2.1 104 = .ok (.goto (-66), 3) := by decide +kernel
theorem dY_how_107 : decode mY_how.2.1 107 = .ok (.iload_n 2, 1) := by decide +kernel
theorem dY_how_108 : decode mY_how.2.1 108 = .ok (.ifCond .ne 7, 3) := by decide +kernel
theorem dY_how_111 : decode mY_how.2.1 111 = .ok (.iload_n 3, 1) := by decide +kernel
theorem dY_how_112 : decode mY_how.2.1 112 = .ok (.goto 5, 3) := by decide +kernel
theorem dY_how_115 : decode mY_how.2.1 115 = .ok (.iload 4, 2) := by decide +kernel
theorem dY_how_117 : decode mY_how.2.1 117 = .ok (.ireturn, 1) := by decide +kernel
/- Y_how: (II)I -/
set_option maxRecDepth 4000 in
theorem wY_how {X : Cx} (a1 a2 : Int) (sw : Bool) (m : Mem) (Q : Int → Bool → Mem → Prop) (h : M2 X 1 mY_in [vi a1, vi (-1), vi 999] sw m (fun z1 sw1 m1 => ((w32 z1 = 0 → Q (-1) sw1 m1) ∧ (¬ (w32 z1 = 0) → M2 X 1 mY_in [vi a2, vi 0, vi 1] sw1 m1 (fun z2 sw2 m2 => ((¬ w32 z2 = 0 → M2 X 5 mY_layTwelfths [vr 84] sw2 m2 (fun z3 sw3 m3 => R2 X 6 mY_how 38 [(0, vr 84), (1, vi a1), (2, vi a2), (3, vi 0), (4, vi (-2)), (5, vl 0), (7, vi 0)] [] sw3 m3 Q)) ∧ (¬ (¬ w32 z2 = 0) → Q (-1) sw2 m2))))))) : M2 X 6 mY_how [vr 84, vi a1, vi a2] sw m Q := by
  refine Mt.of pY_how (Nat.le_of_ble_eq_true rfl) (Nat.le_refl _) ?_
  show R2 X 6 mY_how 0 [(0, vr 84), (1, vi a1), (2, vi a2)] [] sw m Q
  refine r_iload_n 1 1 rfl dY_how_0 rfl ?_
  refine r_iconst dY_how_1 ?_
  refine r_sipush (by decide) dY_how_2 ?_
  refine r_callSb [_, _, _] rfl oY_in iY_in yY_133 (by decide) ⟨Nat.le_refl _, Nat.le_refl _⟩ rfl (Nat.le_of_ble_eq_true rfl) dY_how_5 h (fun z1 r1 m1 h => ?_)
  obtain ⟨sw1, rfl, h⟩ := h
  refine r_if_eq (tgt := 20) dY_how_8 (by decide) (fun hc => ?_) (fun hc => ?_)
  · replace h := h.1 hc
    refine r_iconst dY_how_20 ?_
    exact q_iret rfl h dY_how_21
  · replace h := h.2 hc
    refine r_iload_n 2 2 rfl dY_how_11 rfl ?_
    refine r_iconst dY_how_12 ?_
    refine r_iconst dY_how_13 ?_
    refine r_callSb [_, _, _] rfl oY_in iY_in yY_133 (by decide) ⟨Nat.le_refl _, Nat.le_refl _⟩ rfl (Nat.le_of_ble_eq_true rfl) dY_how_14 h (fun z2 r2 m2 h => ?_)
    obtain ⟨sw2, rfl, h⟩ := h
    refine r_if_ne (tgt := 22) dY_how_17 (by decide) (fun hc => ?_) (fun hc => ?_)
    · replace h := h.1 hc
      refine r_aload_n 0 0 rfl dY_how_22 rfl ?_
      refine r_callVv 12 [] rfl c84 rfl rfl oY_layTwelfths iY_layTwelfths sY_layTwelfths yY_284 (by decide) ⟨Nat.le_refl _, Nat.le_refl _⟩ rfl (Nat.le_of_ble_eq_true rfl) dY_how_23 h (fun z3 r3 m3 h => ?_)
      obtain ⟨sw3, rfl, h⟩ := h
      refine r_iconst dY_how_26 ?_
      refine r_istore_n 3 (by decide) dY_how_27 rfl ?_
      refine r_bipush (by decide) dY_how_28 ?_
      refine r_istore 4 (by decide) dY_how_30 ?_
      refine r_lconst dY_how_32 ?_
      refine r_lstore 5 (by decide) dY_how_33 ?_
      refine r_iconst dY_how_35 ?_
      refine r_istore 7 (by decide) dY_how_36 ?_
      refine r_sub [4, 5, 6, 3, 2, 1, 0] ?_ h
      rfl
    · replace h := h.2 hc
      refine r_iconst dY_how_20 ?_
      exact q_iret rfl h dY_how_21
set_option maxRecDepth 4000 in
theorem wY_how_38 {X : Cx} (x1 x2 x3 x4 x5 x7 : Int) (sw : Bool) (m : Mem) (Q : Int → Bool → Mem → Prop) (h : M2 X 1 mY_sets [vr 84] sw m (fun z1 sw1 m1 => ((w32 z1 ≤ w32 x7 → ((¬ w32 x2 = 0 → Q x4 sw1 m1) ∧ (¬ (¬ w32 x2 = 0) → Q x3 sw1 m1))) ∧ (¬ (w32 z1 ≤ w32 x7) → M2 X 2 mY_goMorning [vr 84, vi x7] sw1 m1 (fun z2 sw2 m2 => M2 X 1 mY_oddsOf [vr 84, vi x7] sw2 m2 (fun z3 sw3 m3 => M2 X 1 mY_endNow [vr 84] sw3 m3 (fun z4 sw4 m4 => ((¬ w32 z4 = w32 x1 → R2 X 6 mY_how 38 [(0, vr 84), (1, vi x1), (2, vi x2), (3, vi x3), (4, vi x4), (5, vl x5), (7, vi (x7 + 1))] [] sw4 m4 Q) ∧ (¬ (¬ w32 z4 = w32 x1) → ((¬ w64 z3 = 0 → ((w64 x5 < w64 z3 → R2 X 6 mY_how 38 [(0, vr 84), (1, vi x1), (2, vi x2), (3, vi (x3 + 1)), (4, vi x7), (5, vl z3), (7, vi (x7 + 1))] [] sw4 m4 Q) ∧ (¬ (w64 x5 < w64 z3) → R2 X 6 mY_how 38 [(0, vr 84), (1, vi x1), (2, vi x2), (3, vi (x3 + 1)), (4, vi x4), (5, vl x5), (7, vi (x7 + 1))] [] sw4 m4 Q))) ∧ (¬ (¬ w64 z3 = 0) → R2 X 6 mY_how 38 [(0, vr 84), (1, vi x1), (2, vi x2), (3, vi x3), (4, vi x4), (5, vl x5), (7, vi (x7 + 1))] [] sw4 m4 Q))))))))))) : R2 X 6 mY_how 38 [(0, vr 84), (1, vi x1), (2, vi x2), (3, vi x3), (4, vi x4), (5, vl x5), (7, vi x7)] [] sw m Q := by
  refine r_iload 7 6 rfl dY_how_38 ?_
  refine r_aload_n 0 0 rfl dY_how_40 rfl ?_
  refine r_callVi 12 [] rfl c84 rfl rfl oY_sets iY_sets sY_sets yY_272 (by decide) ⟨Nat.le_refl _, Nat.le_refl _⟩ rfl (Nat.le_of_ble_eq_true rfl) dY_how_41 h (fun z1 r1 m1 h => ?_)
  obtain ⟨sw1, rfl, h⟩ := h
  refine r_ifc_ge (tgt := 107) dY_how_44 (by decide) (fun hc => ?_) (fun hc => ?_)
  · replace h := h.1 hc
    refine r_iload_n 2 2 rfl dY_how_107 rfl ?_
    refine r_if_ne (tgt := 115) dY_how_108 (by decide) (fun hc => ?_) (fun hc => ?_)
    · replace h := h.1 hc
      refine r_iload 4 4 rfl dY_how_115 ?_
      exact q_iret rfl h dY_how_117
    · replace h := h.2 hc
      refine r_iload_n 3 3 rfl dY_how_111 rfl ?_
      refine r_goto (tgt := 117) dY_how_112 (by decide) ?_
      exact q_iret rfl h dY_how_117
  · replace h := h.2 hc
    refine r_aload_n 0 0 rfl dY_how_47 rfl ?_
    refine r_iload 7 6 rfl dY_how_48 ?_
    refine r_callVv 12 [_] rfl c84 rfl rfl oY_goMorning iY_goMorning sY_goMorning yY_268 (by decide) ⟨Nat.le_refl _, Nat.le_refl _⟩ rfl (Nat.le_of_ble_eq_true rfl) dY_how_50 h (fun z2 r2 m2 h => ?_)
    obtain ⟨sw2, rfl, h⟩ := h
    refine r_aload_n 0 0 rfl dY_how_53 rfl ?_
    refine r_iload 7 6 rfl dY_how_54 ?_
    refine r_callVl 12 [_] rfl c84 rfl rfl oY_oddsOf iY_oddsOf sY_oddsOf yY_278 (by decide) ⟨Nat.le_refl _, Nat.le_refl _⟩ rfl (Nat.le_of_ble_eq_true rfl) dY_how_56 h (fun z3 r3 m3 h => ?_)
    obtain ⟨sw3, rfl, h⟩ := h
    refine r_lstore 8 (by decide) dY_how_59 ?_
    refine r_aload_n 0 1 rfl dY_how_61 rfl ?_
    refine r_callVi 12 [] rfl c84 rfl rfl oY_endNow iY_endNow sY_endNow yY_275 (by decide) ⟨Nat.le_refl _, Nat.le_refl _⟩ rfl (Nat.le_of_ble_eq_true rfl) dY_how_62 h (fun z4 r4 m4 h => ?_)
    obtain ⟨sw4, rfl, h⟩ := h
    refine r_iload_n 1 2 rfl dY_how_65 rfl ?_
    refine r_ifc_ne (tgt := 101) dY_how_66 (by decide) (fun hc => ?_) (fun hc => ?_)
    · replace h := h.1 hc
      refine r_iinc 7 7 rfl (by decide) dY_how_101 ?_
      refine r_goto (tgt := 38) dY_how_104 (by decide) ?_
      refine r_sub [2, 3, 4, 5, 6, 7, 0] ?_ h
      rfl
    · replace h := h.2 hc
      refine r_lload 8 0 rfl dY_how_69 ?_
      refine r_lconst dY_how_71 ?_
      refine q_lc_ne (tgt := 79) (A := w64 z3) (B := 0) rfl (by decide +kernel) dY_how_72 dY_how_73 (by decide) (fun hc => ?_) (fun hc => ?_)
      · replace h := h.1 hc
        refine r_iinc 3 4 rfl (by decide) dY_how_79 ?_
        refine r_lload 8 1 rfl dY_how_82 ?_
        refine r_lload 5 6 rfl dY_how_84 ?_
        refine q_lc_gt (tgt := 93) (A := w64 z3) (B := w64 x5) rfl rfl dY_how_86 dY_how_87 (by decide) (fun hc => ?_) (fun hc => ?_)
        · replace h := h.1 hc
          refine r_iload 7 7 rfl dY_how_93 ?_
          refine r_istore 4 (by decide) dY_how_95 ?_
          refine r_lload 8 2 rfl dY_how_97 ?_
          refine r_lstore 5 (by decide) dY_how_99 ?_
          refine r_iinc 7 7 rfl (by decide) dY_how_101 ?_
          refine r_goto (tgt := 38) dY_how_104 (by decide) ?_
          refine r_sub [5, 6, 7, 3, 2, 1, 0] ?_ h
          rfl
        · replace h := h.2 hc
          refine r_goto (tgt := 101) dY_how_90 (by decide) ?_
          refine r_iinc 7 7 rfl (by decide) dY_how_101 ?_
          refine r_goto (tgt := 38) dY_how_104 (by decide) ?_
          refine r_sub [3, 4, 5, 1, 6, 7, 0] ?_ h
          rfl
      · replace h := h.2 hc
        refine r_goto (tgt := 101) dY_how_76 (by decide) ?_
        refine r_iinc 7 7 rfl (by decide) dY_how_101 ?_
        refine r_goto (tgt := 38) dY_how_104 (by decide) ?_
        refine r_sub [2, 3, 4, 5, 6, 7, 0] ?_ h
        rfl
theorem dY_productBy_0 : decode mY_productBy.2.1 0 = .ok (.lconst 1, 1) := by decide +kernel
theorem dY_productBy_1 : decode mY_productBy.2.1 1 = .ok (.lstore_n 2, 1) := by decide +kernel
theorem dY_productBy_2 : decode mY_productBy.2.1 2 = .ok (.iconst 0, 1) := by decide +kernel
theorem dY_productBy_3 : decode mY_productBy.2.1 3 = .ok (.istore 4, 2) := by decide +kernel
theorem dY_productBy_5 : decode mY_productBy.2.1 5 = .ok (.iload 4, 2) := by decide +kernel
theorem dY_productBy_7 : decode mY_productBy.2.1 7 = .ok (.aload_n 0, 1) := by decide +kernel
theorem dY_productBy_8 : decode mY_productBy.2.1 8 = .ok (.getfield 118, 3) := by decide +kernel
theorem dY_productBy_11 : decode mY_productBy.2.1 11 = .ok (.iload_n 1, 1) := by decide +kernel
theorem dY_productBy_12 : decode mY_productBy.2.1 12 = .ok (.iaload, 1) := by decide +kernel
theorem dY_productBy_13 : decode mY_productBy.2.1 13 = .ok (.if_icmp .ge 38, 3) := by decide +kernel
theorem dY_productBy_16 : decode mY_productBy.2.1 16 = .ok (.lload_n 2, 1) := by decide +kernel
theorem dY_productBy_17 : decode mY_productBy.2.1 17 = .ok (.aload_n 0, 1) := by decide +kernel
theorem dY_productBy_18 : decode mY_productBy.2.1 18 = .ok (.aload_n 0, 1) := by decide +kernel
theorem dY_productBy_19 : decode mY_productBy.2.1 19 = .ok (.getfield 121, 3) := by decide +kernel
theorem dY_productBy_22 : decode mY_productBy.2.1 22 = .ok (.bipush 60, 2) := by decide +kernel
theorem dY_productBy_24 : decode mY_productBy.2.1 24 = .ok (.iload_n 1, 1) := by decide +kernel
theorem dY_productBy_25 : decode mY_productBy.2.1 25 = .ok (.imul, 1) := by decide +kernel
theorem dY_productBy_26 : decode mY_productBy.2.1 26 = .ok (.iload 4, 2) := by decide +kernel
theorem dY_productBy_28 : decode mY_productBy.2.1 28 = .ok (.iadd, 1) := by decide +kernel
theorem dY_productBy_29 : decode mY_productBy.2.1 29 = .ok (.laload, 1) := by decide +kernel
theorem dY_productBy_30 : decode mY_productBy.2.1 30 = .ok (.l2i, 1) := by decide +kernel
theorem dY_productBy_31 : decode mY_productBy.2.1 31 = .ok (.invokevirtual 342, 3) := by decide +kernel
theorem dY_productBy_34 : decode mY_productBy.2.1 34 = .ok (.ldc2_w 345, 3) := by decide +kernel
theorem dY_productBy_37 : decode mY_productBy.2.1 37 = .ok (.lmul, 1) := by decide +kernel
theorem dY_productBy_38 : decode mY_productBy.2.1 38 = .ok (.aload_n 0, 1) := by decide +kernel
theorem dY_productBy_39 : decode mY_productBy.2.1 39 = .ok (.invokevirtual 293, 3) := by decide +kernel
theorem dY_productBy_42 : decode mY_productBy.2.1 42 = .ok (.ldiv, 1) := by decide +kernel
theorem dY_productBy_43 : decode mY_productBy.2.1 43 = .ok (.lmul, 1) := by decide +kernel
theorem dY_productBy_44 : decode mY_productBy.2.1 44 = .ok (.lstore_n 2, 1) := by decide +kernel
theorem dY_productBy_45 : decode mY_productBy.2.1 45 = .ok (.iinc 4 1, 3) := by decide +kernel
theorem dY_productBy_48 : decode mY_productBy.2.1 48 = .ok (.goto (-43), 3) := by decide +kernel
theorem dY_productBy_51 : decode mY_productBy.2.1 51 = .ok (.lload_n 2, 1) := by decide +kernel
theorem dY_productBy_52 : decode mY_productBy.2.1 52 = .ok (.lreturn, 1) := by decide +kernel
/- Y_productBy: (I)J -/
set_option maxRecDepth 4000 in
theorem wY_productBy {X : Cx} (a1 : Int) (sw : Bool) (m : Mem) (Q : Int → Bool → Mem → Prop) (h : R2 X 4 mY_productBy 5 [(0, vr 84), (1, vi a1), (2, vl 1), (4, vi 0)] [] sw m Q) : M2 X 4 mY_productBy [vr 84, vi a1] sw m Q := by
  refine Mt.of pY_productBy (Nat.le_of_ble_eq_true rfl) (Nat.le_refl _) ?_
  show R2 X 4 mY_productBy 0 [(0, vr 84), (1, vi a1)] [] sw m Q
  refine r_lconst dY_productBy_0 ?_
  refine r_lstore_n 2 (by decide) dY_productBy_1 rfl ?_
  refine r_iconst dY_productBy_2 ?_
  refine r_istore 4 (by decide) dY_productBy_3 ?_
  refine r_sub [2, 3, 1, 0] ?_ h
  rfl
set_option maxRecDepth 4000 in
theorem wY_productBy_5 {X : Cx} (x1 x2 x4 : Int) (sw : Bool) (m : Mem) (Q : Int → Bool → Mem → Prop) (h : ((0 ≤ w32 x1 ∧ w32 x1 < 6) ∧ ((w32 (m 118 (w32 x1)) ≤ w32 x4 → Q x2 sw m) ∧ (¬ (w32 (m 118 (w32 x1)) ≤ w32 x4) → ((0 ≤ w32 ((60 * x1) + x4) ∧ w32 ((60 * x1) + x4) < 360) ∧ M2 X 3 mY_justOdds [vr 84, vi (m 119 (w32 ((60 * x1) + x4)))] sw m (fun z1 sw1 m1 => M2 X 1 mY_whole [vr 84] sw1 m1 (fun z2 sw2 m2 => (¬ w64 z2 = 0 ∧ R2 X 4 mY_productBy 5 [(0, vr 84), (1, vi x1), (2, vl (x2 * (zldiv (z1 * 100) z2))), (4, vi (x4 + 1))] [] sw2 m2 Q)))))))) : R2 X 4 mY_productBy 5 [(0, vr 84), (1, vi x1), (2, vl x2), (4, vi x4)] [] sw m Q := by
  refine r_iload 4 3 rfl dY_productBy_5 ?_
  refine r_aload_n 0 0 rfl dY_productBy_7 rfl ?_
  refine q_getR 52 c84 fY_118 rfl rfl (g84_52 sw) (by decide) dY_productBy_8 ?_
  refine r_iload_n 1 1 rfl dY_productBy_11 rfl ?_
  refine q_iaload (w32 x1) rfl c118 h.1 dY_productBy_12 ?_
  replace h := h.2
  refine r_ifc_ge (tgt := 51) dY_productBy_13 (by decide) (fun hc => ?_) (fun hc => ?_)
  · replace h := h.1 hc
    refine r_lload_n 2 2 rfl dY_productBy_51 rfl ?_
    exact q_lret rfl h dY_productBy_52
  · replace h := h.2 hc
    refine r_lload_n 2 2 rfl dY_productBy_16 rfl ?_
    refine r_aload_n 0 0 rfl dY_productBy_17 rfl ?_
    refine r_aload_n 0 0 rfl dY_productBy_18 rfl ?_
    refine q_getR 53 c84 fY_121 rfl rfl (g84_53 sw) (by decide) dY_productBy_19 ?_
    refine r_bipush (by decide) dY_productBy_22 ?_
    refine r_iload_n 1 1 rfl dY_productBy_24 rfl ?_
    refine r_imul dY_productBy_25 ?_
    refine r_iload 4 3 rfl dY_productBy_26 ?_
    refine r_iadd dY_productBy_28 ?_
    refine q_laload (w32 ((60 * x1) + x4)) rfl c119 h.1 dY_productBy_29 ?_
    replace h := h.2
    refine r_l2i dY_productBy_30 ?_
    refine r_callVl 12 [_] rfl c84 rfl rfl oY_justOdds iY_justOdds sY_justOdds yY_342 (by decide) ⟨Nat.le_refl _, Nat.le_refl _⟩ rfl (Nat.le_of_ble_eq_true rfl) dY_productBy_31 h (fun z1 r1 m1 h => ?_)
    obtain ⟨sw1, rfl, h⟩ := h
    refine r_ldc2 (z := 100) dY_productBy_34 kY_345 ?_
    refine r_lmul dY_productBy_37 ?_
    refine r_aload_n 0 0 rfl dY_productBy_38 rfl ?_
    refine r_callVl 12 [] rfl c84 rfl rfl oY_whole iY_whole sY_whole yY_293 (by decide) ⟨Nat.le_refl _, Nat.le_refl _⟩ rfl (Nat.le_of_ble_eq_true rfl) dY_productBy_39 h (fun z2 r2 m2 h => ?_)
    obtain ⟨sw2, rfl, h⟩ := h
    refine r_ldiv h.1 dY_productBy_42 ?_
    replace h := h.2
    refine r_lmul dY_productBy_43 ?_
    refine r_lstore_n 2 (by decide) dY_productBy_44 rfl ?_
    refine r_iinc 4 3 rfl (by decide) dY_productBy_45 ?_
    refine r_goto (tgt := 5) dY_productBy_48 (by decide) ?_
    refine r_sub [2, 3, 1, 0] ?_ h
    rfl
theorem dY_whose_0 : decode mY_whose.2.1 0 = .ok (.iload_n 1, 1) := by decide +kernel
theorem dY_whose_1 : decode mY_whose.2.1 1 = .ok (.invokestatic 144, 3) := by decide +kernel
theorem dY_whose_4 : decode mY_whose.2.1 4 = .ok (.ifCond .eq 11, 3) := by decide +kernel
theorem dY_whose_7 : decode mY_whose.2.1 7 = .ok (.aload_n 0, 1) := by decide +kernel
theorem dY_whose_8 : decode mY_whose.2.1 8 = .ok (.iload_n 2, 1) := by decide +kernel
theorem dY_whose_9 : decode mY_whose.2.1 9 = .ok (.invokevirtual 164, 3) := by decide +kernel
theorem dY_whose_12 : decode mY_whose.2.1 12 = .ok (.ifCond .ne 5, 3) := by decide +kernel
theorem dY_whose_15 : decode mY_whose.2.1 15 = .ok (.iconst (-1), 1) := by decide +kernel
theorem dY_whose_16 : decode mY_whose.2.1 16 = .ok (.ireturn, 1) := by decide +kernel
theorem dY_whose_17 : decode mY_whose.2.1 17 = .ok (.aload_n 0, 1) := by decide +kernel
theorem dY_whose_18 : decode mY_whose.2.1 18 = .ok (.iload_n 1, 1) := by decide +kernel
theorem dY_whose_19 : decode mY_whose.2.1 19 = .ok (.invokevirtual 339, 3) := by decide +kernel
theorem dY_whose_22 : decode mY_whose.2.1 22 = .ok (.istore_n 3, 1) := by decide +kernel
theorem dY_whose_23 : decode mY_whose.2.1 23 = .ok (.iload_n 3, 1) := by decide +kernel
theorem dY_whose_24 : decode mY_whose.2.1 24 = .ok (.ifCond .ge 5, 3) := by decide +kernel
theorem dY_whose_27 : decode mY_whose.2.1 27 = .ok (.iload_n 3, 1) := by decide +kernel
theorem dY_whose_28 : decode mY_whose.2.1 28 = .ok (.ireturn, 1) := by decide +kernel
theorem dY_whose_29 : decode mY_whose.2.1 29 = .ok (.aload_n 0, 1) := by decide +kernel
theorem dY_whose_30 : decode mY_whose.2.1 30 = .ok (.getfield 118, 3) := by decide +kernel
theorem dY_whose_33 : decode mY_whose.2.1 33 = .ok (.iload_n 1, 1) := by decide +kernel
theorem dY_whose_34 : decode mY_whose.2.1 34 = .ok (.iaload, 1) := by decide +kernel
theorem dY_whose_35 : decode mY_whose.2.1 35 = .ok (.bipush 8, 2) := by decide +kernel
theorem dY_whose_37 : decode mY_whose.2.1 37 = .ok (.if_icmp .le 6, 3) := by decide +kernel
theorem dY_whose_40 : decode mY_whose.2.1 40 = .ok (.bipush (-5), 2) := by decide +kernel
theorem dY_whose_42 : decode mY_whose.2.1 42 = .ok (.ireturn, 1) := by decide +kernel
theorem dY_whose_43 : decode mY_whose.2.1 43 = .ok (.aload_n 0, 1) := by decide +kernel
theorem dY_whose_44 : decode mY_whose.2.1 44 = .ok (.invokevirtual 284, 3) := by decide +kernel
theorem dY_whose_47 : decode mY_whose.2.1 47 = .ok (.iconst 0, 1) := by decide +kernel
theorem dY_whose_48 : decode mY_whose.2.1 48 = .ok (.istore 4, 2) := by decide +kernel
theorem dY_whose_50 : decode mY_whose.2.1 50 = .ok (.ldc2_w 347, 3) := by decide +kernel
theorem dY_whose_53 : decode mY_whose.2.1 53 = .ok (.lstore 5, 2) := by decide +kernel
theorem dY_whose_55 : decode mY_whose.2.1 55 = .ok (.iconst 0, 1) := by decide +kernel
theorem dY_whose_56 : decode mY_whose.2.1 56 = .ok (.istore 7, 2) := by decide +kernel
theorem dY_whose_58 : decode mY_whose.2.1 58 = .ok (.iload 7, 2) := by decide +kernel
theorem dY_whose_60 : decode mY_whose.2.1 60 = .ok (.bipush 12, 2) := by decide +kernel
theorem dY_whose_62 : decode mY_whose.2.1 62 = .ok (.if_icmp .gt 43, 3) := by decide +kernel
theorem dY_whose_65 : decode mY_whose.2.1 65 = .ok (.aload_n 0, 1) := by decide +kernel
theorem dY_whose_66 : decode mY_whose.2.1 66 = .ok (.getfield 74, 3) := by decide +kernel
theorem dY_whose_69 : decode mY_whose.2.1 69 = .ok (.iload_n 2, 1) := by decide +kernel
theorem dY_whose_70 : decode mY_whose.2.1 70 = .ok (.iload 7, 2) := by decide +kernel
theorem dY_whose_72 : decode mY_whose.2.1 72 = .ok (.iastore, 1) := by decide +kernel
theorem dY_whose_73 : decode mY_whose.2.1 73 = .ok (.aload_n 0, 1) := by decide +kernel
theorem dY_whose_74 : decode mY_whose.2.1 74 = .ok (.iload_n 1, 1) := by decide +kernel
theorem dY_whose_75 : decode mY_whose.2.1 75 = .ok (.invokevirtual 349, 3) := by decide +kernel
theorem dY_whose_78 : decode mY_whose.2.1 78 = .ok (.lstore 8, 2) := by decide +kernel
theorem dY_whose_80 : decode mY_whose.2.1 80 = .ok (.lload 8, 2) := by decide +kernel
theorem dY_whose_82 : decode mY_whose.2.1 82 = .ok (.lload 5, 2) := by decide +kernel
theorem dY_whose_84 : decode mY_whose.2.1 84 = .ok (.lcmp, 1) := by decide +kernel
theorem dY_whose_85 : decode mY_whose.2.1 85 = .ok (.ifCond .gt 6, 3) := by decide +kernel
theorem dY_whose_88 : decode mY_whose.2.1 88 = .ok (.goto 11, 3) := by decide +kernel
theorem dY_whose_91 : decode mY_whose.2.1 91 = .ok (.iload 7, 2) := by decide +kernel
theorem dY_whose_93 : decode mY_whose.2.1 93 = .ok (.istore 4, 2) := by decide +kernel
theorem dY_whose_95 : decode mY_whose.2.1 95 = .ok (.lload 8, 2) := by decide +kernel
theorem dY_whose_97 : decode mY_whose.2.1 97 = .ok (.lstore 5, 2) := by decide +kernel
theorem dY_whose_99 : decode mY_whose.2.1 99 = .ok (.iinc 7 1, 3) := by decide +kernel
theorem dY_whose_102 : decode mY_whose.2.1 102 = .ok (.goto (-44), 3) := by decide +kernel
theorem dY_whose_105 : decode mY_whose.2.1 105 = .ok (.iload 4, 2) := by decide +kernel
theorem dY_whose_107 : decode mY_whose.2.1 107 = .ok (.ireturn, 1) := by decide +kernel
/- Y_whose: (II)I -/
set_option maxRecDepth 4000 in
theorem wY_whose {X : Cx} (a1 a2 : Int) (sw : Bool) (m : Mem) (Q : Int → Bool → Mem → Prop) (h : M2 X 2 mY_isShelf [vi a1] sw m (fun z1 sw1 m1 => ((w32 z1 = 0 → Q (-1) sw1 m1) ∧ (¬ (w32 z1 = 0) → M2 X 2 mY_isPart [vr 84, vi a2] sw1 m1 (fun z2 sw2 m2 => ((¬ w32 z2 = 0 → M2 X 1 mY_rowFault [vr 84, vi a1] sw2 m2 (fun z3 sw3 m3 => ((0 ≤ w32 z3 → ((0 ≤ w32 a1 ∧ w32 a1 < 6) ∧ ((w32 (m3 118 (w32 a1)) ≤ 8 → M2 X 5 mY_layTwelfths [vr 84] sw3 m3 (fun z4 sw4 m4 => R2 X 6 mY_whose 58 [(0, vr 84), (1, vi a1), (2, vi a2), (4, vi 0), (5, vl (-1)), (7, vi 0)] [] sw4 m4 Q)) ∧ (¬ (w32 (m3 118 (w32 a1)) ≤ 8) → Q (-5) sw3 m3)))) ∧ (¬ (0 ≤ w32 z3) → Q z3 sw3 m3)))) ∧ (¬ (¬ w32 z2 = 0) → Q (-1) sw2 m2))))))) : M2 X 6 mY_whose [vr 84, vi a1, vi a2] sw m Q := by
  refine Mt.of pY_whose (Nat.le_of_ble_eq_true rfl) (Nat.le_refl _) ?_
  show R2 X 6 mY_whose 0 [(0, vr 84), (1, vi a1), (2, vi a2)] [] sw m Q
  refine r_iload_n 1 1 rfl dY_whose_0 rfl ?_
  refine r_callSb [_] rfl oY_isShelf iY_isShelf yY_144 (by decide) ⟨Nat.le_refl _, Nat.le_refl _⟩ rfl (Nat.le_of_ble_eq_true rfl) dY_whose_1 h (fun z1 r1 m1 h => ?_)
  obtain ⟨sw1, rfl, h⟩ := h
  refine r_if_eq (tgt := 15) dY_whose_4 (by decide) (fun hc => ?_) (fun hc => ?_)
  · replace h := h.1 hc
    refine r_iconst dY_whose_15 ?_
    exact q_iret rfl h dY_whose_16
  · replace h := h.2 hc
    refine r_aload_n 0 0 rfl dY_whose_7 rfl ?_
    refine r_iload_n 2 2 rfl dY_whose_8 rfl ?_
    refine r_callVb 12 [_] rfl c84 rfl rfl oY_isPart iY_isPart sY_isPart yY_164 (by decide) ⟨Nat.le_refl _, Nat.le_refl _⟩ rfl (Nat.le_of_ble_eq_true rfl) dY_whose_9 h (fun z2 r2 m2 h => ?_)
    obtain ⟨sw2, rfl, h⟩ := h
    refine r_if_ne (tgt := 17) dY_whose_12 (by decide) (fun hc => ?_) (fun hc => ?_)
    · replace h := h.1 hc
      refine r_aload_n 0 0 rfl dY_whose_17 rfl ?_
      refine r_iload_n 1 1 rfl dY_whose_18 rfl ?_
      refine r_callVi 12 [_] rfl c84 rfl rfl oY_rowFault iY_rowFault sY_rowFault yY_339 (by decide) ⟨Nat.le_refl _, Nat.le_refl _⟩ rfl (Nat.le_of_ble_eq_true rfl) dY_whose_19 h (fun z3 r3 m3 h => ?_)
      obtain ⟨sw3, rfl, h⟩ := h
      refine r_istore_n 3 (by decide) dY_whose_22 rfl ?_
      refine r_iload_n 3 0 rfl dY_whose_23 rfl ?_
      refine r_if_ge (tgt := 29) dY_whose_24 (by decide) (fun hc => ?_) (fun hc => ?_)
      · replace h := h.1 hc
        refine r_aload_n 0 1 rfl dY_whose_29 rfl ?_
        refine q_getR 52 c84 fY_118 rfl rfl (g84_52 sw3) (by decide) dY_whose_30 ?_
        refine r_iload_n 1 2 rfl dY_whose_33 rfl ?_
        refine q_iaload (w32 a1) rfl c118 h.1 dY_whose_34 ?_
        replace h := h.2
        refine r_bipush (by decide) dY_whose_35 ?_
        refine r_ifc_le (tgt := 43) dY_whose_37 (by decide) (fun hc => ?_) (fun hc => ?_)
        · replace h := h.1 hc
          refine r_aload_n 0 1 rfl dY_whose_43 rfl ?_
          refine r_callVv 12 [] rfl c84 rfl rfl oY_layTwelfths iY_layTwelfths sY_layTwelfths yY_284 (by decide) ⟨Nat.le_refl _, Nat.le_refl _⟩ rfl (Nat.le_of_ble_eq_true rfl) dY_whose_44 h (fun z4 r4 m4 h => ?_)
          obtain ⟨sw4, rfl, h⟩ := h
          refine r_iconst dY_whose_47 ?_
          refine r_istore 4 (by decide) dY_whose_48 ?_
          refine r_ldc2 (z := (-1)) dY_whose_50 kY_347 ?_
          refine r_lstore 5 (by decide) dY_whose_53 ?_
          refine r_iconst dY_whose_55 ?_
          refine r_istore 7 (by decide) dY_whose_56 ?_
          refine r_sub [4, 5, 6, 2, 1, 0] ?_ h
          rfl
        · replace h := h.2 hc
          refine r_bipush (by decide) dY_whose_40 ?_
          exact q_iret rfl h dY_whose_42
      · replace h := h.2 hc
        refine r_iload_n 3 0 rfl dY_whose_27 rfl ?_
        exact q_iret rfl h dY_whose_28
    · replace h := h.2 hc
      refine r_iconst dY_whose_15 ?_
      exact q_iret rfl h dY_whose_16
set_option maxRecDepth 4000 in
theorem wY_whose_58 {X : Cx} (x1 x2 x4 x5 x7 : Int) (sw : Bool) (m : Mem) (Q : Int → Bool → Mem → Prop) (h : ((12 < w32 x7 → Q x4 sw m) ∧ (¬ (12 < w32 x7) → ((0 ≤ w32 x2 ∧ w32 x2 < 9) ∧ M2 X 4 mY_productBy [vr 84, vi x1] sw (upm m 105 (w32 x2) x7) (fun z1 sw1 m1 => ((w64 x5 < w64 z1 → R2 X 6 mY_whose 58 [(0, vr 84), (1, vi x1), (2, vi x2), (4, vi x7), (5, vl z1), (7, vi (x7 + 1))] [] sw1 m1 Q) ∧ (¬ (w64 x5 < w64 z1) → R2 X 6 mY_whose 58 [(0, vr 84), (1, vi x1), (2, vi x2), (4, vi x4), (5, vl x5), (7, vi (x7 + 1))] [] sw1 m1 Q))))))) : R2 X 6 mY_whose 58 [(0, vr 84), (1, vi x1), (2, vi x2), (4, vi x4), (5, vl x5), (7, vi x7)] [] sw m Q := by
  refine r_iload 7 5 rfl dY_whose_58 ?_
  refine r_bipush (by decide) dY_whose_60 ?_
  refine r_ifc_gt (tgt := 105) dY_whose_62 (by decide) (fun hc => ?_) (fun hc => ?_)
  · replace h := h.1 hc
    refine r_iload 4 3 rfl dY_whose_105 ?_
    exact q_iret rfl h dY_whose_107
  · replace h := h.2 hc
    refine r_aload_n 0 0 rfl dY_whose_65 rfl ?_
    refine q_getR 32 c84 fY_74 rfl rfl (g84_32 sw) (by decide) dY_whose_66 ?_
    refine r_iload_n 2 2 rfl dY_whose_69 rfl ?_
    refine r_iload 7 5 rfl dY_whose_70 ?_
    refine q_iastore (w32 x2) rfl c105 h.1 dY_whose_72 ?_
    replace h := h.2
    refine r_aload_n 0 0 rfl dY_whose_73 rfl ?_
    refine r_iload_n 1 1 rfl dY_whose_74 rfl ?_
    refine r_callVl 12 [_] rfl c84 rfl rfl oY_productBy iY_productBy sY_productBy yY_349 (by decide) ⟨Nat.le_refl _, Nat.le_refl _⟩ rfl (Nat.le_of_ble_eq_true rfl) dY_whose_75 h (fun z1 r1 m1 h => ?_)
    obtain ⟨sw1, rfl, h⟩ := h
    refine r_lstore 8 (by decide) dY_whose_78 ?_
    refine r_lload 8 0 rfl dY_whose_80 ?_
    refine r_lload 5 5 rfl dY_whose_82 ?_
    refine q_lc_gt (tgt := 91) (A := w64 z1) (B := w64 x5) rfl rfl dY_whose_84 dY_whose_85 (by decide) (fun hc => ?_) (fun hc => ?_)
    · replace h := h.1 hc
      refine r_iload 7 6 rfl dY_whose_91 ?_
      refine r_istore 4 (by decide) dY_whose_93 ?_
      refine r_lload 8 1 rfl dY_whose_95 ?_
      refine r_lstore 5 (by decide) dY_whose_97 ?_
      refine r_iinc 7 6 rfl (by decide) dY_whose_99 ?_
      refine r_goto (tgt := 58) dY_whose_102 (by decide) ?_
      refine r_sub [4, 5, 6, 2, 1, 0] ?_ h
      rfl
    · replace h := h.2 hc
      refine r_goto (tgt := 99) dY_whose_88 (by decide) ?_
      refine r_iinc 7 6 rfl (by decide) dY_whose_99 ?_
      refine r_goto (tgt := 58) dY_whose_102 (by decide) ?_
      refine r_sub [2, 3, 4, 5, 6, 0] ?_ h
      rfl
theorem dY_drawn_0 : decode mY_drawn.2.1 0 = .ok (.iload_n 2, 1) := by decide +kernel
theorem dY_drawn_1 : decode mY_drawn.2.1 1 = .ok (.iconst 1, 1) := by decide +kernel
theorem dY_drawn_2 : decode mY_drawn.2.1 2 = .ok (.bipush 50, 2) := by decide +kernel
theorem dY_drawn_4 : decode mY_drawn.2.1 4 = .ok (.invokestatic 133, 3) := by decide +kernel
theorem dY_drawn_7 : decode mY_drawn.2.1 7 = .ok (.ifCond .eq 12, 3) := by decide +kernel
theorem dY_drawn_10 : decode mY_drawn.2.1 10 = .ok (.iload_n 3, 1) := by decide +kernel
theorem dY_drawn_11 : decode mY_drawn.2.1 11 = .ok (.iconst 0, 1) := by decide +kernel
theorem dY_drawn_12 : decode mY_drawn.2.1 12 = .ok (.iconst 1, 1) := by decide +kernel
theorem dY_drawn_13 : decode mY_drawn.2.1 13 = .ok (.invokestatic 133, 3) := by decide +kernel
theorem dY_drawn_16 : decode mY_drawn.2.1 16 = .ok (.ifCond .ne 5, 3) := by decide +kernel
theorem dY_drawn_19 : decode mY_drawn.2.1 19 = .ok (.iconst (-1), 1) := by decide +kernel
theorem dY_drawn_20 : decode mY_drawn.2.1 20 = .ok (.ireturn, 1) := by decide +kernel
theorem dY_drawn_21 : decode mY_drawn.2.1 21 = .ok (.aload_n 0, 1) := by decide +kernel
theorem dY_drawn_22 : decode mY_drawn.2.1 22 = .ok (.invokevirtual 284, 3) := by decide +kernel
theorem dY_drawn_25 : decode mY_drawn.2.1 25 = .ok (.iload_n 1, 1) := by decide +kernel
theorem dY_drawn_26 : decode mY_drawn.2.1 26 = .ok (.istore 4, 2) := by decide +kernel
theorem dY_drawn_28 : decode mY_drawn.2.1 28 = .ok (.iconst 0, 1) := by decide +kernel
theorem dY_drawn_29 : decode mY_drawn.2.1 29 = .ok (.istore 5, 2) := by decide +kernel
theorem dY_drawn_31 : decode mY_drawn.2.1 31 = .ok (.iconst 0, 1) := by decide +kernel
theorem dY_drawn_32 : decode mY_drawn.2.1 32 = .ok (.istore 6, 2) := by decide +kernel
theorem dY_drawn_34 : decode mY_drawn.2.1 34 = .ok (.iconst 0, 1) := by decide +kernel
theorem dY_drawn_35 : decode mY_drawn.2.1 35 = .ok (.istore 7, 2) := by decide +kernel
theorem dY_drawn_37 : decode mY_drawn.2.1 37 = .ok (.iload 7, 2) := by decide +kernel
theorem dY_drawn_39 : decode mY_drawn.2.1 39 = .ok (.iload_n 2, 1) := by decide +kernel
theorem dY_drawn_40 : decode mY_drawn.2.1 40 = .ok (.if_icmp .ge 97, 3) := by decide +kernel
theorem dY_drawn_43 : decode mY_drawn.2.1 43 = .ok (.iconst 0, 1) := by decide +kernel
theorem dY_drawn_44 : decode mY_drawn.2.1 44 = .ok (.istore 8, 2) := by decide +kernel
theorem dY_drawn_46 : decode mY_drawn.2.1 46 = .ok (.iconst 0, 1) := by decide +kernel
theorem dY_drawn_47 : decode mY_drawn.2.1 47 = .ok (.istore 9, 2) := by decide +kernel
theorem dY_drawn_49 : decode mY_drawn.2.1 49 = .ok (.iload 9, 2) := by decide +kernel
theorem dY_drawn_51 : decode mY_drawn.2.1 51 = .ok (.aload_n 0, 1) := by decide +kernel
theorem dY_drawn_52 : decode mY_drawn.2.1 52 = .ok (.getfield 130, 3) := by decide +kernel
theorem dY_drawn_55 : decode mY_drawn.2.1 55 = .ok (.if_icmp .ge 48, 3) := by decide +kernel
theorem dY_drawn_58 : decode mY_drawn.2.1 58 = .ok (.iload 4, 2) := by decide +kernel
theorem dY_drawn_60 : decode mY_drawn.2.1 60 = .ok (.ldc_w 352, 3) := by decide +kernel
theorem dY_drawn_63 : decode mY_drawn.2.1 63 = .ok (.imul, 1) := by decide +kernel
theorem dY_drawn_64 : decode mY_drawn.2.1 64 = .ok (.sipush 12345, 3) := by decide +kernel
theorem dY_drawn_67 : decode mY_drawn.2.1 67 = .ok (.iadd, 1) := by decide +kernel
theorem dY_drawn_68 : decode mY_drawn.2.1 68 = .ok (.istore 4, 2) := by decide +kernel
theorem dY_drawn_70 : decode mY_drawn.2.1 70 = .ok (.iload 4, 2) := by decide +kernel
theorem dY_drawn_72 : decode mY_drawn.2.1 72 = .ok (.bipush 8, 2) := by decide +kernel
theorem dY_drawn_74 : decode mY_drawn.2.1 74 = .ok (.iushr, 1) := by decide +kernel
theorem dY_drawn_75 : decode mY_drawn.2.1 75 = .ok (.bipush 12, 2) := by decide +kernel
theorem dY_drawn_77 : decode mY_drawn.2.1 77 = .ok (.irem, 1) := by decide +kernel
theorem dY_drawn_78 : decode mY_drawn.2.1 78 = .ok (.aload_n 0, 1) := by decide +kernel
theorem dY_drawn_79 : decode mY_drawn.2.1 79 = .ok (.getfield 74, 3) := by decide +kernel
theorem dY_drawn_82 : decode mY_drawn.2.1 82 = .ok (.iload 9, 2) := by decide +kernel
theorem dY_drawn_84 : decode mY_drawn.2.1 84 = .ok (.iaload, 1) := by decide +kernel
theorem dY_drawn_85 : decode mY_drawn.2.1 85 = .ok (.if_icmp .ge 12, 3) := by decide +kernel
theorem dY_drawn_88 : decode mY_drawn.2.1 88 = .ok (.iload 8, 2) := by decide +kernel
theorem dY_drawn_90 : decode mY_drawn.2.1 90 = .ok (.iconst 1, 1) := by decide +kernel
theorem dY_drawn_91 : decode mY_drawn.2.1 91 = .ok (.iload 9, 2) := by decide +kernel
theorem dY_drawn_93 : decode mY_drawn.2.1 93 = .ok (.ishl, 1) := by decide +kernel
theorem dY_drawn_94 : decode mY_drawn.2.1 94 = .ok (.ior, 1) := by decide +kernel
theorem dY_drawn_95 : decode mY_drawn.2.1 95 = .ok (.istore 8, 2) := by decide +kernel
theorem dY_drawn_97 : decode mY_drawn.2.1 97 = .ok (.iinc 9 1, 3) := by decide +kernel
theorem dY_drawn_100 : decode mY_drawn.2.1 100 = .ok (.goto (-51), 3) := by decide +kernel
theorem dY_drawn_103 : decode mY_drawn.2.1 103 = .ok (.aload_n 0, 1) := by decide +kernel
theorem dY_drawn_104 : decode mY_drawn.2.1 104 = .ok (.iload 8, 2) := by decide +kernel
theorem dY_drawn_106 : decode mY_drawn.2.1 106 = .ok (.invokevirtual 268, 3) := by decide +kernel
theorem dY_drawn_109 : decode mY_drawn.2.1 109 = .ok (.aload_n 0, 1) := by decide +kernel
theorem dY_drawn_110 : decode mY_drawn.2.1 110 = .ok (.invokevirtual 275, 3) := by decide +kernel
theorem dY_drawn_113 : decode mY_drawn.2.1 113 = .ok (.ifCond .ge 6, 3) := by decide +kernel
theorem dY_drawn_116 : decode mY_drawn.2.1 116 = .ok (.goto 15, 3) := by decide +kernel
theorem dY_drawn_119 : decode mY_drawn.2.1 119 = .ok (.iinc 5 1, 3) := by decide +kernel
theorem dY_drawn_122 : decode mY_drawn.2.1 122 = .ok (.iload 6, 2) := by decide +kernel
theorem dY_drawn_124 : decode mY_drawn.2.1 124 = .ok (.aload_n 0, 1) := by decide +kernel
theorem dY_drawn_125 : decode mY_drawn.2.1 125 = .ok (.invokevirtual 275, 3) := by decide +kernel
theorem dY_drawn_128 : decode mY_drawn.2.1 128 = .ok (.iadd, 1) := by decide +kernel
theorem dY_drawn_129 : decode mY_drawn.2.1 129 = .ok (.istore 6, 2) := by decide +kernel
theorem dY_drawn_131 : decode mY_drawn.2.1 131 = .ok (.iinc 7 1, 3) := by decide +kernel
theorem dY_drawn_134 : decode mY_drawn.2.1 134 = .ok (.goto (-97), 3) := by decide +kernel
theorem dY_drawn_137 : decode mY_drawn.2.1 137 = .ok (.iload_n 3, 1) := by decide +kernel
theorem dY_drawn_138 : decode mY_drawn.2.1 138 = .ok (.ifCond .ne 8, 3) := by decide +kernel
theorem dY_drawn_141 : decode mY_drawn.2.1 141 = .ok (.iload 5, 2) := by decide +kernel
theorem dY_drawn_143 : decode mY_drawn.2.1 143 = .ok (.goto 5, 3) := by decide +kernel
theorem dY_drawn_146 : decode mY_drawn.2.1 146 = .ok (.iload 6, 2) := by decide +kernel
theorem dY_drawn_148 : decode mY_drawn.2.1 148 = .ok (.ireturn, 1) := by decide +kernel
/- Y_drawn: (III)I -/
set_option maxRecDepth 4000 in
theorem wY_drawn {X : Cx} (a1 a2 a3 : Int) (sw : Bool) (m : Mem) (Q : Int → Bool → Mem → Prop) (h : M2 X 1 mY_in [vi a2, vi 1, vi 50] sw m (fun z1 sw1 m1 => ((w32 z1 = 0 → Q (-1) sw1 m1) ∧ (¬ (w32 z1 = 0) → M2 X 1 mY_in [vi a3, vi 0, vi 1] sw1 m1 (fun z2 sw2 m2 => ((¬ w32 z2 = 0 → M2 X 5 mY_layTwelfths [vr 84] sw2 m2 (fun z3 sw3 m3 => R2 X 6 mY_drawn 37 [(0, vr 84), (2, vi a2), (3, vi a3), (4, vi a1), (5, vi 0), (6, vi 0), (7, vi 0)] [] sw3 m3 Q)) ∧ (¬ (¬ w32 z2 = 0) → Q (-1) sw2 m2))))))) : M2 X 6 mY_drawn [vr 84, vi a1, vi a2, vi a3] sw m Q := by
  refine Mt.of pY_drawn (Nat.le_of_ble_eq_true rfl) (Nat.le_refl _) ?_
  show R2 X 6 mY_drawn 0 [(0, vr 84), (1, vi a1), (2, vi a2), (3, vi a3)] [] sw m Q
  refine r_iload_n 2 2 rfl dY_drawn_0 rfl ?_
  refine r_iconst dY_drawn_1 ?_
  refine r_bipush (by decide) dY_drawn_2 ?_
  refine r_callSb [_, _, _] rfl oY_in iY_in yY_133 (by decide) ⟨Nat.le_refl _, Nat.le_refl _⟩ rfl (Nat.le_of_ble_eq_true rfl) dY_drawn_4 h (fun z1 r1 m1 h => ?_)
  obtain ⟨sw1, rfl, h⟩ := h
  refine r_if_eq (tgt := 19) dY_drawn_7 (by decide) (fun hc => ?_) (fun hc => ?_)
  · replace h := h.1 hc
    refine r_iconst dY_drawn_19 ?_
    exact q_iret rfl h dY_drawn_20
  · replace h := h.2 hc
    refine r_iload_n 3 3 rfl dY_drawn_10 rfl ?_
    refine r_iconst dY_drawn_11 ?_
    refine r_iconst dY_drawn_12 ?_
    refine r_callSb [_, _, _] rfl oY_in iY_in yY_133 (by decide) ⟨Nat.le_refl _, Nat.le_refl _⟩ rfl (Nat.le_of_ble_eq_true rfl) dY_drawn_13 h (fun z2 r2 m2 h => ?_)
    obtain ⟨sw2, rfl, h⟩ := h
    refine r_if_ne (tgt := 21) dY_drawn_16 (by decide) (fun hc => ?_) (fun hc => ?_)
    · replace h := h.1 hc
      refine r_aload_n 0 0 rfl dY_drawn_21 rfl ?_
      refine r_callVv 12 [] rfl c84 rfl rfl oY_layTwelfths iY_layTwelfths sY_layTwelfths yY_284 (by decide) ⟨Nat.le_refl _, Nat.le_refl _⟩ rfl (Nat.le_of_ble_eq_true rfl) dY_drawn_22 h (fun z3 r3 m3 h => ?_)
      obtain ⟨sw3, rfl, h⟩ := h
      refine r_iload_n 1 1 rfl dY_drawn_25 rfl ?_
      refine r_istore 4 (by decide) dY_drawn_26 ?_
      refine r_iconst dY_drawn_28 ?_
      refine r_istore 5 (by decide) dY_drawn_29 ?_
      refine r_iconst dY_drawn_31 ?_
      refine r_istore 6 (by decide) dY_drawn_32 ?_
      refine r_iconst dY_drawn_34 ?_
      refine r_istore 7 (by decide) dY_drawn_35 ?_
      refine r_sub [4, 6, 7, 3, 2, 1, 0] ?_ h
      rfl
    · replace h := h.2 hc
      refine r_iconst dY_drawn_19 ?_
      exact q_iret rfl h dY_drawn_20
set_option maxRecDepth 4000 in
theorem wY_drawn_37 {X : Cx} (x2 x3 x4 x5 x6 x7 : Int) (sw : Bool) (m : Mem) (Q : Int → Bool → Mem → Prop) (h : ((w32 x2 ≤ w32 x7 → ((¬ w32 x3 = 0 → Q x6 sw m) ∧ (¬ (¬ w32 x3 = 0) → Q x5 sw m))) ∧ (¬ (w32 x2 ≤ w32 x7) → R2 X 6 mY_drawn 49 [(0, vr 84), (2, vi x2), (3, vi x3), (4, vi x4), (5, vi x5), (6, vi x6), (7, vi x7), (8, vi 0), (9, vi 0)] [] sw m Q))) : R2 X 6 mY_drawn 37 [(0, vr 84), (2, vi x2), (3, vi x3), (4, vi x4), (5, vi x5), (6, vi x6), (7, vi x7)] [] sw m Q := by
  refine r_iload 7 6 rfl dY_drawn_37 ?_
  refine r_iload_n 2 1 rfl dY_drawn_39 rfl ?_
  refine r_ifc_ge (tgt := 137) dY_drawn_40 (by decide) (fun hc => ?_) (fun hc => ?_)
  · replace h := h.1 hc
    refine r_iload_n 3 2 rfl dY_drawn_137 rfl ?_
    refine r_if_ne (tgt := 146) dY_drawn_138 (by decide) (fun hc => ?_) (fun hc => ?_)
    · replace h := h.1 hc
      refine r_iload 6 5 rfl dY_drawn_146 ?_
      exact q_iret rfl h dY_drawn_148
    · replace h := h.2 hc
      refine r_iload 5 4 rfl dY_drawn_141 ?_
      refine r_goto (tgt := 148) dY_drawn_143 (by decide) ?_
      exact q_iret rfl h dY_drawn_148
  · replace h := h.2 hc
    refine r_iconst dY_drawn_43 ?_
    refine r_istore 8 (by decide) dY_drawn_44 ?_
    refine r_iconst dY_drawn_46 ?_
    refine r_istore 9 (by decide) dY_drawn_47 ?_
    refine r_sub [2, 3, 4, 5, 6, 7, 8, 1, 0] ?_ h
    rfl
set_option maxRecDepth 4000 in
theorem wY_drawn_49 {X : Cx} (x2 x3 x4 x5 x6 x7 x8 x9 : Int) (sw : Bool) (m : Mem) (Q : Int → Bool → Mem → Prop) (h : ((w32 (m 84 1) ≤ w32 x9 → M2 X 2 mY_goMorning [vr 84, vi x8] sw m (fun z1 sw1 m1 => M2 X 1 mY_endNow [vr 84] sw1 m1 (fun z2 sw2 m2 => ((0 ≤ w32 z2 → M2 X 1 mY_endNow [vr 84] sw2 m2 (fun z3 sw3 m3 => R2 X 6 mY_drawn 37 [(0, vr 84), (2, vi x2), (3, vi x3), (4, vi x4), (5, vi (x5 + 1)), (6, vi (x6 + z3)), (7, vi (x7 + 1))] [] sw3 m3 Q)) ∧ (¬ (0 ≤ w32 z2) → R2 X 6 mY_drawn 37 [(0, vr 84), (2, vi x2), (3, vi x3), (4, vi x4), (5, vi x5), (6, vi x6), (7, vi (x7 + 1))] [] sw2 m2 Q))))) ∧ (¬ (w32 (m 84 1) ≤ w32 x9) → ((0 ≤ w32 x9 ∧ w32 x9 < 9) ∧ ((w32 (m 105 (w32 x9)) ≤ w32 (zrem (zushr ((x4 * 1103515245) + 12345) 8) 12) → R2 X 6 mY_drawn 49 [(0, vr 84), (2, vi x2), (3, vi x3), (4, vi ((x4 * 1103515245) + 12345)), (5, vi x5), (6, vi x6), (7, vi x7), (8, vi x8), (9, vi (x9 + 1))] [] sw m Q) ∧ (¬ (w32 (m 105 (w32 x9)) ≤ w32 (zrem (zushr ((x4 * 1103515245) + 12345) 8) 12)) → R2 X 6 mY_drawn 49 [(0, vr 84), (2, vi x2), (3, vi x3), (4, vi ((x4 * 1103515245) + 12345)), (5, vi x5), (6, vi x6), (7, vi x7), (8, vi (zor x8 (zshl 1 x9))), (9, vi (x9 + 1))] [] sw m Q)))))) : R2 X 6 mY_drawn 49 [(0, vr 84), (2, vi x2), (3, vi x3), (4, vi x4), (5, vi x5), (6, vi x6), (7, vi x7), (8, vi x8), (9, vi x9)] [] sw m Q := by
  refine r_iload 9 8 rfl dY_drawn_49 ?_
  refine r_aload_n 0 0 rfl dY_drawn_51 rfl ?_
  refine q_getI 1 c84 fY_130 rfl rfl dY_drawn_52 ?_
  refine r_ifc_ge (tgt := 103) dY_drawn_55 (by decide) (fun hc => ?_) (fun hc => ?_)
  · replace h := h.1 hc
    refine r_aload_n 0 0 rfl dY_drawn_103 rfl ?_
    refine r_iload 8 7 rfl dY_drawn_104 ?_
    refine r_callVv 12 [_] rfl c84 rfl rfl oY_goMorning iY_goMorning sY_goMorning yY_268 (by decide) ⟨Nat.le_refl _, Nat.le_refl _⟩ rfl (Nat.le_of_ble_eq_true rfl) dY_drawn_106 h (fun z1 r1 m1 h => ?_)
    obtain ⟨sw1, rfl, h⟩ := h
    refine r_aload_n 0 0 rfl dY_drawn_109 rfl ?_
    refine r_callVi 12 [] rfl c84 rfl rfl oY_endNow iY_endNow sY_endNow yY_275 (by decide) ⟨Nat.le_refl _, Nat.le_refl _⟩ rfl (Nat.le_of_ble_eq_true rfl) dY_drawn_110 h (fun z2 r2 m2 h => ?_)
    obtain ⟨sw2, rfl, h⟩ := h
    refine r_if_ge (tgt := 119) dY_drawn_113 (by decide) (fun hc => ?_) (fun hc => ?_)
    · replace h := h.1 hc
      refine r_iinc 5 4 rfl (by decide) dY_drawn_119 ?_
      refine r_iload 6 5 rfl dY_drawn_122 ?_
      refine r_aload_n 0 1 rfl dY_drawn_124 rfl ?_
      refine r_callVi 12 [] rfl c84 rfl rfl oY_endNow iY_endNow sY_endNow yY_275 (by decide) ⟨Nat.le_refl _, Nat.le_refl _⟩ rfl (Nat.le_of_ble_eq_true rfl) dY_drawn_125 h (fun z3 r3 m3 h => ?_)
      obtain ⟨sw3, rfl, h⟩ := h
      refine r_iadd dY_drawn_128 ?_
      refine r_istore 6 (by decide) dY_drawn_129 ?_
      refine r_iinc 7 6 rfl (by decide) dY_drawn_131 ?_
      refine r_goto (tgt := 37) dY_drawn_134 (by decide) ?_
      refine r_sub [3, 4, 5, 6, 2, 1, 0] ?_ h
      rfl
    · replace h := h.2 hc
      refine r_goto (tgt := 131) dY_drawn_116 (by decide) ?_
      refine r_iinc 7 6 rfl (by decide) dY_drawn_131 ?_
      refine r_goto (tgt := 37) dY_drawn_134 (by decide) ?_
      refine r_sub [1, 2, 3, 4, 5, 6, 0] ?_ h
      rfl
  · replace h := h.2 hc
    refine r_iload 4 3 rfl dY_drawn_58 ?_
    refine r_ldcw (z := 1103515245) dY_drawn_60 kY_352 ?_
    refine r_imul dY_drawn_63 ?_
    refine r_sipush (by decide) dY_drawn_64 ?_
    refine r_iadd dY_drawn_67 ?_
    refine r_istore 4 (by decide) dY_drawn_68 ?_
    refine r_iload 4 0 rfl dY_drawn_70 ?_
    refine r_bipush (by decide) dY_drawn_72 ?_
    refine r_iushr dY_drawn_74 ?_
    refine r_bipush (by decide) dY_drawn_75 ?_
    refine r_irem (by decide) dY_drawn_77 ?_
    refine r_aload_n 0 1 rfl dY_drawn_78 rfl ?_
    refine q_getR 32 c84 fY_74 rfl rfl (g84_32 sw) (by decide) dY_drawn_79 ?_
    refine r_iload 9 8 rfl dY_drawn_82 ?_
    refine q_iaload (w32 x9) rfl c105 h.1 dY_drawn_84 ?_
    replace h := h.2
    refine r_ifc_ge (tgt := 97) dY_drawn_85 (by decide) (fun hc => ?_) (fun hc => ?_)
    · replace h := h.1 hc
      refine r_iinc 9 8 rfl (by decide) dY_drawn_97 ?_
      refine r_goto (tgt := 49) dY_drawn_100 (by decide) ?_
      refine r_sub [2, 3, 4, 1, 5, 6, 7, 8, 0] ?_ h
      rfl
    · replace h := h.2 hc
      refine r_iload 8 7 rfl dY_drawn_88 ?_
      refine r_iconst dY_drawn_90 ?_
      refine r_iload 9 8 rfl dY_drawn_91 ?_
      refine r_ishl dY_drawn_93 ?_
      refine r_ior dY_drawn_94 ?_
      refine r_istore 8 (by decide) dY_drawn_95 ?_
      refine r_iinc 9 8 rfl (by decide) dY_drawn_97 ?_
      refine r_goto (tgt := 49) dY_drawn_100 (by decide) ?_
      refine r_sub [3, 4, 5, 2, 6, 7, 8, 1, 0] ?_ h
      rfl
theorem dY_morning_0 : decode mY_morning.2.1 0 = .ok (.iload_n 1, 1) := by decide +kernel
theorem dY_morning_1 : decode mY_morning.2.1 1 = .ok (.invokestatic 265, 3) := by decide +kernel
theorem dY_morning_4 : decode mY_morning.2.1 4 = .ok (.ifCond .ne 5, 3) := by decide +kernel
theorem dY_morning_7 : decode mY_morning.2.1 7 = .ok (.iconst (-1), 1) := by decide +kernel
theorem dY_morning_8 : decode mY_morning.2.1 8 = .ok (.ireturn, 1) := by decide +kernel
theorem dY_morning_9 : decode mY_morning.2.1 9 = .ok (.aload_n 0, 1) := by decide +kernel
theorem dY_morning_10 : decode mY_morning.2.1 10 = .ok (.iload_n 1, 1) := by decide +kernel
theorem dY_morning_11 : decode mY_morning.2.1 11 = .ok (.invokevirtual 268, 3) := by decide +kernel
theorem dY_morning_14 : decode mY_morning.2.1 14 = .ok (.aload_n 0, 1) := by decide +kernel
theorem dY_morning_15 : decode mY_morning.2.1 15 = .ok (.getfield 100, 3) := by decide +kernel
theorem dY_morning_18 : decode mY_morning.2.1 18 = .ok (.iconst 0, 1) := by decide +kernel
theorem dY_morning_19 : decode mY_morning.2.1 19 = .ok (.dup2, 1) := by decide +kernel
theorem dY_morning_20 : decode mY_morning.2.1 20 = .ok (.iaload, 1) := by decide +kernel
theorem dY_morning_21 : decode mY_morning.2.1 21 = .ok (.iconst 1, 1) := by decide +kernel
theorem dY_morning_22 : decode mY_morning.2.1 22 = .ok (.iadd, 1) := by decide +kernel
theorem dY_morning_23 : decode mY_morning.2.1 23 = .ok (.iastore, 1) := by decide +kernel
theorem dY_morning_24 : decode mY_morning.2.1 24 = .ok (.aload_n 0, 1) := by decide +kernel
theorem dY_morning_25 : decode mY_morning.2.1 25 = .ok (.getfield 254, 3) := by decide +kernel
theorem dY_morning_28 : decode mY_morning.2.1 28 = .ok (.istore_n 2, 1) := by decide +kernel
theorem dY_morning_29 : decode mY_morning.2.1 29 = .ok (.iload_n 2, 1) := by decide +kernel
theorem dY_morning_30 : decode mY_morning.2.1 30 = .ok (.ifCond .eq 22, 3) := by decide +kernel
theorem dY_morning_33 : decode mY_morning.2.1 33 = .ok (.aload_n 0, 1) := by decide +kernel
theorem dY_morning_34 : decode mY_morning.2.1 34 = .ok (.getfield 100, 3) := by decide +kernel
theorem dY_morning_37 : decode mY_morning.2.1 37 = .ok (.iconst 3, 1) := by decide +kernel
theorem dY_morning_38 : decode mY_morning.2.1 38 = .ok (.dup2, 1) := by decide +kernel
theorem dY_morning_39 : decode mY_morning.2.1 39 = .ok (.iaload, 1) := by decide +kernel
theorem dY_morning_40 : decode mY_morning.2.1 40 = .ok (.iconst 1, 1) := by decide +kernel
theorem dY_morning_41 : decode mY_morning.2.1 41 = .ok (.iadd, 1) := by decide +kernel
theorem dY_morning_42 : decode mY_morning.2.1 42 = .ok (.iastore, 1) := by decide +kernel
theorem dY_morning_43 : decode mY_morning.2.1 43 = .ok (.iload_n 2, 1) := by decide +kernel
theorem dY_morning_44 : decode mY_morning.2.1 44 = .ok (.iload_n 2, 1) := by decide +kernel
theorem dY_morning_45 : decode mY_morning.2.1 45 = .ok (.iconst 1, 1) := by decide +kernel
theorem dY_morning_46 : decode mY_morning.2.1 46 = .ok (.isub, 1) := by decide +kernel
theorem dY_morning_47 : decode mY_morning.2.1 47 = .ok (.iand, 1) := by decide +kernel
theorem dY_morning_48 : decode mY_morning.2.1 48 = .ok (.istore_n 2, 1) := by decide +kernel
theorem dY_morning_49 : decode mY_morning.2.1 49 = .ok (.goto (-20), 3) := by decide +kernel
theorem dY_morning_52 : decode mY_morning.2.1 52 = .ok (.aload_n 0, 1) := by decide +kernel
theorem dY_morning_53 : decode mY_morning.2.1 53 = .ok (.invokevirtual 316, 3) := by decide +kernel
theorem dY_morning_56 : decode mY_morning.2.1 56 = .ok (.ifCond .eq 13, 3) := by decide +kernel
theorem dY_morning_59 : decode mY_morning.2.1 59 = .ok (.aload_n 0, 1) := by decide +kernel
theorem dY_morning_60 : decode mY_morning.2.1 60 = .ok (.getfield 100, 3) := by decide +kernel
theorem dY_morning_63 : decode mY_morning.2.1 63 = .ok (.iconst 4, 1) := by decide +kernel
theorem dY_morning_64 : decode mY_morning.2.1 64 = .ok (.dup2, 1) := by decide +kernel
theorem dY_morning_65 : decode mY_morning.2.1 65 = .ok (.iaload, 1) := by decide +kernel
theorem dY_morning_66 : decode mY_morning.2.1 66 = .ok (.iconst 1, 1) := by decide +kernel
theorem dY_morning_67 : decode mY_morning.2.1 67 = .ok (.iadd, 1) := by decide +kernel
theorem dY_morning_68 : decode mY_morning.2.1 68 = .ok (.iastore, 1) := by decide +kernel
theorem dY_morning_69 : decode mY_morning.2.1 69 = .ok (.iconst 0, 1) := by decide +kernel
theorem dY_morning_70 : decode mY_morning.2.1 70 = .ok (.istore_n 2, 1) := by decide +kernel
theorem dY_morning_71 : decode mY_morning.2.1 71 = .ok (.iload_n 2, 1) := by decide +kernel
theorem dY_morning_72 : decode mY_morning.2.1 72 = .ok (.aload_n 0, 1) := by decide +kernel
theorem dY_morning_73 : decode mY_morning.2.1 73 = .ok (.getfield 130, 3) := by decide +kernel
theorem dY_morning_76 : decode mY_morning.2.1 76 = .ok (.if_icmp .ge 30, 3) := by decide +kernel
theorem dY_morning_79 : decode mY_morning.2.1 79 = .ok (.aload_n 0, 1) := by decide +kernel
theorem dY_morning_80 : decode mY_morning.2.1 80 = .ok (.getfield 27, 3) := by decide +kernel
theorem dY_morning_83 : decode mY_morning.2.1 83 = .ok (.iload_n 2, 1) := by decide +kernel
theorem dY_morning_84 : decode mY_morning.2.1 84 = .ok (.iaload, 1) := by decide +kernel
theorem dY_morning_85 : decode mY_morning.2.1 85 = .ok (.bipush 99, 2) := by decide +kernel
theorem dY_morning_87 : decode mY_morning.2.1 87 = .ok (.if_icmp .ge 13, 3) := by decide +kernel
theorem dY_morning_90 : decode mY_morning.2.1 90 = .ok (.aload_n 0, 1) := by decide +kernel
theorem dY_morning_91 : decode mY_morning.2.1 91 = .ok (.getfield 27, 3) := by decide +kernel
theorem dY_morning_94 : decode mY_morning.2.1 94 = .ok (.iload_n 2, 1) := by decide +kernel
theorem dY_morning_95 : decode mY_morning.2.1 95 = .ok (.dup2, 1) := by decide +kernel
theorem dY_morning_96 : decode mY_morning.2.1 96 = .ok (.iaload, 1) := by decide +kernel
theorem dY_morning_97 : decode mY_morning.2.1 97 = .ok (.iconst 1, 1) := by decide +kernel
theorem dY_morning_98 : decode mY_morning.2.1 98 = .ok (.iadd, 1) := by decide +kernel
theorem dY_morning_99 : decode mY_morning.2.1 99 = .ok (.iastore, 1) := by decide +kernel
theorem dY_morning_100 : decode mY_morning.2.1 100 = .ok (.iinc 2 1, 3) := by decide +kernel
theorem dY_morning_103 : decode mY_morning.2.1 103 = .ok (.goto (-32), 3) := by decide +kernel
theorem dY_morning_106 : decode mY_morning.2.1 106 = .ok (.aload_n 0, 1) := by decide +kernel
theorem dY_morning_107 : decode mY_morning.2.1 107 = .ok (.invokevirtual 275, 3) := by decide +kernel
theorem dY_morning_110 : decode mY_morning.2.1 110 = .ok (.ifCond .ge 6, 3) := by decide +kernel
theorem dY_morning_113 : decode mY_morning.2.1 113 = .ok (.bipush (-2), 2) := by decide +kernel
theorem dY_morning_115 : decode mY_morning.2.1 115 = .ok (.ireturn, 1) := by decide +kernel
theorem dY_morning_116 : decode mY_morning.2.1 116 = .ok (.aload_n 0, 1) := by decide +kernel
theorem dY_morning_117 : decode mY_morning.2.1 117 = .ok (.getfield 100, 3) := by decide +kernel
theorem dY_morning_120 : decode mY_morning.2.1 120 = .ok (.iconst 1, 1) := by decide +kernel
theorem dY_morning_121 : decode mY_morning.2.1 121 = .ok (.dup2, 1) := by decide +kernel
theorem dY_morning_122 : decode mY_morning.2.1 122 = .ok (.iaload, 1) := by decide +kernel
theorem dY_morning_123 : decode mY_morning.2.1 123 = .ok (.iconst 1, 1) := by decide +kernel
theorem dY_morning_124 : decode mY_morning.2.1 124 = .ok (.iadd, 1) := by decide +kernel
theorem dY_morning_125 : decode mY_morning.2.1 125 = .ok (.iastore, 1) := by decide +kernel
theorem dY_morning_126 : decode mY_morning.2.1 126 = .ok (.aload_n 0, 1) := by decide +kernel
theorem dY_morning_127 : decode mY_morning.2.1 127 = .ok (.getfield 100, 3) := by decide +kernel
theorem dY_morning_130 : decode mY_morning.2.1 130 = .ok (.iconst 2, 1) := by decide +kernel
theorem dY_morning_131 : decode mY_morning.2.1 131 = .ok (.dup2, 1) := by decide +kernel
theorem dY_morning_132 : decode mY_morning.2.1 132 = .ok (.iaload, 1) := by decide +kernel
theorem dY_morning_133 : decode mY_morning.2.1 133 = .ok (.aload_n 0, 1) := by decide +kernel
theorem dY_morning_134 : decode mY_morning.2.1 134 = .ok (.invokevirtual 275, 3) := by decide +kernel
theorem dY_morning_137 : decode mY_morning.2.1 137 = .ok (.iadd, 1) := by decide +kernel
theorem dY_morning_138 : decode mY_morning.2.1 138 = .ok (.iastore, 1) := by decide +kernel
theorem dY_morning_139 : decode mY_morning.2.1 139 = .ok (.aload_n 0, 1) := by decide +kernel
theorem dY_morning_140 : decode mY_morning.2.1 140 = .ok (.invokevirtual 275, 3) := by decide +kernel
theorem dY_morning_143 : decode mY_morning.2.1 143 = .ok (.ireturn, 1) := by decide +kernel
/- Y_morning: (I)I -/
set_option maxRecDepth 4000 in
theorem wY_morning {X : Cx} (a1 : Int) (sw : Bool) (m : Mem) (Q : Int → Bool → Mem → Prop) (h : M2 X 2 mY_isSet [vi a1] sw m (fun z1 sw1 m1 => ((¬ w32 z1 = 0 → M2 X 2 mY_goMorning [vr 84, vi a1] sw1 m1 (fun z2 sw2 m2 => R2 X 3 mY_morning 29 [(0, vr 84), (2, vi (m2 84 30))] [] sw2 (upm m2 112 0 ((m2 112 0) + 1)) Q)) ∧ (¬ (¬ w32 z1 = 0) → Q (-1) sw1 m1)))) : M2 X 3 mY_morning [vr 84, vi a1] sw m Q := by
  refine Mt.of pY_morning (Nat.le_of_ble_eq_true rfl) (Nat.le_refl _) ?_
  show R2 X 3 mY_morning 0 [(0, vr 84), (1, vi a1)] [] sw m Q
  refine r_iload_n 1 1 rfl dY_morning_0 rfl ?_
  refine r_callSb [_] rfl oY_isSet iY_isSet yY_265 (by decide) ⟨Nat.le_refl _, Nat.le_refl _⟩ rfl (Nat.le_of_ble_eq_true rfl) dY_morning_1 h (fun z1 r1 m1 h => ?_)
  obtain ⟨sw1, rfl, h⟩ := h
  refine r_if_ne (tgt := 9) dY_morning_4 (by decide) (fun hc => ?_) (fun hc => ?_)
  · replace h := h.1 hc
    refine r_aload_n 0 0 rfl dY_morning_9 rfl ?_
    refine r_iload_n 1 1 rfl dY_morning_10 rfl ?_
    refine r_callVv 12 [_] rfl c84 rfl rfl oY_goMorning iY_goMorning sY_goMorning yY_268 (by decide) ⟨Nat.le_refl _, Nat.le_refl _⟩ rfl (Nat.le_of_ble_eq_true rfl) dY_morning_11 h (fun z2 r2 m2 h => ?_)
    obtain ⟨sw2, rfl, h⟩ := h
    refine r_aload_n 0 0 rfl dY_morning_14 rfl ?_
    refine q_getR 42 c84 fY_100 rfl rfl (g84_42 sw2) (by decide) dY_morning_15 ?_
    refine r_iconst dY_morning_18 ?_
    refine r_dup2 (fun q => by cases q) (fun q => by cases q) dY_morning_19 ?_
    refine q_iaload 0 rfl c112 (by decide) dY_morning_20 ?_
    refine r_iconst dY_morning_21 ?_
    refine r_iadd dY_morning_22 ?_
    refine q_iastore 0 rfl c112 (by decide) dY_morning_23 ?_
    refine r_aload_n 0 0 rfl dY_morning_24 rfl ?_
    refine q_getI 30 c84 fY_254 rfl rfl dY_morning_25 ?_
    refine r_istore_n 2 (by decide) dY_morning_28 rfl ?_
    refine r_sub [1, 0] ?_ h
    rfl
  · replace h := h.2 hc
    refine r_iconst dY_morning_7 ?_
    exact q_iret rfl h dY_morning_8
set_option maxRecDepth 4000 in
theorem wY_morning_29 {X : Cx} (x2 : Int) (sw : Bool) (m : Mem) (Q : Int → Bool → Mem → Prop) (h : ((w32 x2 = 0 → M2 X 1 mY_burnsNow [vr 84] sw m (fun z1 sw1 m1 => ((w32 z1 = 0 → R2 X 3 mY_morning 71 [(0, vr 84), (2, vi 0)] [] sw1 m1 Q) ∧ (¬ (w32 z1 = 0) → R2 X 3 mY_morning 71 [(0, vr 84), (2, vi 0)] [] sw1 (upm m1 112 4 ((m1 112 4) + 1)) Q)))) ∧ (¬ (w32 x2 = 0) → R2 X 3 mY_morning 29 [(0, vr 84), (2, vi (zand x2 (x2 - 1)))] [] sw (upm m 112 3 ((m 112 3) + 1)) Q))) : R2 X 3 mY_morning 29 [(0, vr 84), (2, vi x2)] [] sw m Q := by
  refine r_iload_n 2 1 rfl dY_morning_29 rfl ?_
  refine r_if_eq (tgt := 52) dY_morning_30 (by decide) (fun hc => ?_) (fun hc => ?_)
  · replace h := h.1 hc
    refine r_aload_n 0 0 rfl dY_morning_52 rfl ?_
    refine r_callVb 12 [] rfl c84 rfl rfl oY_burnsNow iY_burnsNow sY_burnsNow yY_316 (by decide) ⟨Nat.le_refl _, Nat.le_refl _⟩ rfl (Nat.le_of_ble_eq_true rfl) dY_morning_53 h (fun z1 r1 m1 h => ?_)
    obtain ⟨sw1, rfl, h⟩ := h
    refine r_if_eq (tgt := 69) dY_morning_56 (by decide) (fun hc => ?_) (fun hc => ?_)
    · replace h := h.1 hc
      refine r_iconst dY_morning_69 ?_
      refine r_istore_n 2 (by decide) dY_morning_70 rfl ?_
      refine r_sub [1, 0] ?_ h
      rfl
    · replace h := h.2 hc
      refine r_aload_n 0 0 rfl dY_morning_59 rfl ?_
      refine q_getR 42 c84 fY_100 rfl rfl (g84_42 sw1) (by decide) dY_morning_60 ?_
      refine r_iconst dY_morning_63 ?_
      refine r_dup2 (fun q => by cases q) (fun q => by cases q) dY_morning_64 ?_
      refine q_iaload 4 rfl c112 (by decide) dY_morning_65 ?_
      refine r_iconst dY_morning_66 ?_
      refine r_iadd dY_morning_67 ?_
      refine q_iastore 4 rfl c112 (by decide) dY_morning_68 ?_
      refine r_iconst dY_morning_69 ?_
      refine r_istore_n 2 (by decide) dY_morning_70 rfl ?_
      refine r_sub [1, 0] ?_ h
      rfl
  · replace h := h.2 hc
    refine r_aload_n 0 0 rfl dY_morning_33 rfl ?_
    refine q_getR 42 c84 fY_100 rfl rfl (g84_42 sw) (by decide) dY_morning_34 ?_
    refine r_iconst dY_morning_37 ?_
    refine r_dup2 (fun q => by cases q) (fun q => by cases q) dY_morning_38 ?_
    refine q_iaload 3 rfl c112 (by decide) dY_morning_39 ?_
    refine r_iconst dY_morning_40 ?_
    refine r_iadd dY_morning_41 ?_
    refine q_iastore 3 rfl c112 (by decide) dY_morning_42 ?_
    refine r_iload_n 2 1 rfl dY_morning_43 rfl ?_
    refine r_iload_n 2 1 rfl dY_morning_44 rfl ?_
    refine r_iconst dY_morning_45 ?_
    refine r_isub dY_morning_46 ?_
    refine r_iand dY_morning_47 ?_
    refine r_istore_n 2 (by decide) dY_morning_48 rfl ?_
    refine r_goto (tgt := 29) dY_morning_49 (by decide) ?_
    refine r_sub [1, 0] ?_ h
    rfl
set_option maxRecDepth 4000 in
theorem wY_morning_71 {X : Cx} (x2 : Int) (sw : Bool) (m : Mem) (Q : Int → Bool → Mem → Prop) (h : ((w32 (m 84 1) ≤ w32 x2 → M2 X 1 mY_endNow [vr 84] sw m (fun z1 sw1 m1 => ((0 ≤ w32 z1 → M2 X 1 mY_endNow [vr 84] sw1 (upm m1 112 1 ((m1 112 1) + 1)) (fun z2 sw2 m2 => M2 X 1 mY_endNow [vr 84] sw2 (upm m2 112 2 ((m1 112 2) + z2)) (fun z3 sw3 m3 => Q z3 sw3 m3))) ∧ (¬ (0 ≤ w32 z1) → Q (-2) sw1 m1)))) ∧ (¬ (w32 (m 84 1) ≤ w32 x2) → ((0 ≤ w32 x2 ∧ w32 x2 < 9) ∧ ((99 ≤ w32 (m 90 (w32 x2)) → R2 X 3 mY_morning 71 [(0, vr 84), (2, vi (x2 + 1))] [] sw m Q) ∧ (¬ (99 ≤ w32 (m 90 (w32 x2))) → ((0 ≤ w32 x2 ∧ w32 x2 < 9) ∧ ((0 ≤ w32 x2 ∧ w32 x2 < 9) ∧ R2 X 3 mY_morning 71 [(0, vr 84), (2, vi (x2 + 1))] [] sw (upm m 90 (w32 x2) ((m 90 (w32 x2)) + 1)) Q)))))))) : R2 X 3 mY_morning 71 [(0, vr 84), (2, vi x2)] [] sw m Q := by
  refine r_iload_n 2 1 rfl dY_morning_71 rfl ?_
  refine r_aload_n 0 0 rfl dY_morning_72 rfl ?_
  refine q_getI 1 c84 fY_130 rfl rfl dY_morning_73 ?_
  refine r_ifc_ge (tgt := 106) dY_morning_76 (by decide) (fun hc => ?_) (fun hc => ?_)
  · replace h := h.1 hc
    refine r_aload_n 0 0 rfl dY_morning_106 rfl ?_
    refine r_callVi 12 [] rfl c84 rfl rfl oY_endNow iY_endNow sY_endNow yY_275 (by decide) ⟨Nat.le_refl _, Nat.le_refl _⟩ rfl (Nat.le_of_ble_eq_true rfl) dY_morning_107 h (fun z1 r1 m1 h => ?_)
    obtain ⟨sw1, rfl, h⟩ := h
    refine r_if_ge (tgt := 116) dY_morning_110 (by decide) (fun hc => ?_) (fun hc => ?_)
    · replace h := h.1 hc
      refine r_aload_n 0 0 rfl dY_morning_116 rfl ?_
      refine q_getR 42 c84 fY_100 rfl rfl (g84_42 sw1) (by decide) dY_morning_117 ?_
      refine r_iconst dY_morning_120 ?_
      refine r_dup2 (fun q => by cases q) (fun q => by cases q) dY_morning_121 ?_
      refine q_iaload 1 rfl c112 (by decide) dY_morning_122 ?_
      refine r_iconst dY_morning_123 ?_
      refine r_iadd dY_morning_124 ?_
      refine q_iastore 1 rfl c112 (by decide) dY_morning_125 ?_
      refine r_aload_n 0 0 rfl dY_morning_126 rfl ?_
      refine q_getR 42 c84 fY_100 rfl rfl (g84_42 sw1) (by decide) dY_morning_127 ?_
      refine r_iconst dY_morning_130 ?_
      refine r_dup2 (fun q => by cases q) (fun q => by cases q) dY_morning_131 ?_
      refine q_iaload 2 rfl c112 (by decide) dY_morning_132 ?_
      refine r_aload_n 0 0 rfl dY_morning_133 rfl ?_
      refine r_callVi 12 [] rfl c84 rfl rfl oY_endNow iY_endNow sY_endNow yY_275 (by decide) ⟨Nat.le_refl _, Nat.le_refl _⟩ rfl (Nat.le_of_ble_eq_true rfl) dY_morning_134 h (fun z2 r2 m2 h => ?_)
      obtain ⟨sw2, rfl, h⟩ := h
      refine r_iadd dY_morning_137 ?_
      refine q_iastore 2 rfl c112 (by decide) dY_morning_138 ?_
      refine r_aload_n 0 0 rfl dY_morning_139 rfl ?_
      refine r_callVi 12 [] rfl c84 rfl rfl oY_endNow iY_endNow sY_endNow yY_275 (by decide) ⟨Nat.le_refl _, Nat.le_refl _⟩ rfl (Nat.le_of_ble_eq_true rfl) dY_morning_140 h (fun z3 r3 m3 h => ?_)
      obtain ⟨sw3, rfl, h⟩ := h
      exact q_iret rfl h dY_morning_143
    · replace h := h.2 hc
      refine r_bipush (by decide) dY_morning_113 ?_
      exact q_iret rfl h dY_morning_115
  · replace h := h.2 hc
    refine r_aload_n 0 0 rfl dY_morning_79 rfl ?_
    refine q_getR 7 c84 fY_27 rfl rfl (g84_7 sw) (by decide) dY_morning_80 ?_
    refine r_iload_n 2 1 rfl dY_morning_83 rfl ?_
    refine q_iaload (w32 x2) rfl c90 h.1 dY_morning_84 ?_
    replace h := h.2
    refine r_bipush (by decide) dY_morning_85 ?_
    refine r_ifc_ge (tgt := 100) dY_morning_87 (by decide) (fun hc => ?_) (fun hc => ?_)
    · replace h := h.1 hc
      refine r_iinc 2 1 rfl (by decide) dY_morning_100 ?_
      refine r_goto (tgt := 71) dY_morning_103 (by decide) ?_
      refine r_sub [1, 0] ?_ h
      rfl
    · replace h := h.2 hc
      refine r_aload_n 0 0 rfl dY_morning_90 rfl ?_
      refine q_getR 7 c84 fY_27 rfl rfl (g84_7 sw) (by decide) dY_morning_91 ?_
      refine r_iload_n 2 1 rfl dY_morning_94 rfl ?_
      refine r_dup2 (fun q => by cases q) (fun q => by cases q) dY_morning_95 ?_
      refine q_iaload (w32 x2) rfl c90 h.1 dY_morning_96 ?_
      replace h := h.2
      refine r_iconst dY_morning_97 ?_
      refine r_iadd dY_morning_98 ?_
      refine q_iastore (w32 x2) rfl c90 h.1 dY_morning_99 ?_
      replace h := h.2
      refine r_iinc 2 1 rfl (by decide) dY_morning_100 ?_
      refine r_goto (tgt := 71) dY_morning_103 (by decide) ?_
      refine r_sub [1, 0] ?_ h
      rfl
theorem dY_mended_0 : decode mY_mended.2.1 0 = .ok (.aload_n 0, 1) := by decide +kernel
theorem dY_mended_1 : decode mY_mended.2.1 1 = .ok (.iload_n 1, 1) := by decide +kernel
theorem dY_mended_2 : decode mY_mended.2.1 2 = .ok (.invokevirtual 164, 3) := by decide +kernel
theorem dY_mended_5 : decode mY_mended.2.1 5 = .ok (.ifCond .ne 5, 3) := by decide +kernel
theorem dY_mended_8 : decode mY_mended.2.1 8 = .ok (.iconst (-1), 1) := by decide +kernel
theorem dY_mended_9 : decode mY_mended.2.1 9 = .ok (.ireturn, 1) := by decide +kernel
theorem dY_mended_10 : decode mY_mended.2.1 10 = .ok (.aload_n 0, 1) := by decide +kernel
theorem dY_mended_11 : decode mY_mended.2.1 11 = .ok (.getfield 27, 3) := by decide +kernel
theorem dY_mended_14 : decode mY_mended.2.1 14 = .ok (.iload_n 1, 1) := by decide +kernel
theorem dY_mended_15 : decode mY_mended.2.1 15 = .ok (.iaload, 1) := by decide +kernel
theorem dY_mended_16 : decode mY_mended.2.1 16 = .ok (.istore_n 2, 1) := by decide +kernel
theorem dY_mended_17 : decode mY_mended.2.1 17 = .ok (.aload_n 0, 1) := by decide +kernel
theorem dY_mended_18 : decode mY_mended.2.1 18 = .ok (.getfield 27, 3) := by decide +kernel
theorem dY_mended_21 : decode mY_mended.2.1 21 = .ok (.iload_n 1, 1) := by decide +kernel
theorem dY_mended_22 : decode mY_mended.2.1 22 = .ok (.iconst 0, 1) := by decide +kernel
theorem dY_mended_23 : decode mY_mended.2.1 23 = .ok (.iastore, 1) := by decide +kernel
theorem dY_mended_24 : decode mY_mended.2.1 24 = .ok (.aload_n 0, 1) := by decide +kernel
theorem dY_mended_25 : decode mY_mended.2.1 25 = .ok (.getfield 100, 3) := by decide +kernel
theorem dY_mended_28 : decode mY_mended.2.1 28 = .ok (.iconst 5, 1) := by decide +kernel
theorem dY_mended_29 : decode mY_mended.2.1 29 = .ok (.dup2, 1) := by decide +kernel
theorem dY_mended_30 : decode mY_mended.2.1 30 = .ok (.iaload, 1) := by decide +kernel
theorem dY_mended_31 : decode mY_mended.2.1 31 = .ok (.iconst 1, 1) := by decide +kernel
theorem dY_mended_32 : decode mY_mended.2.1 32 = .ok (.iadd, 1) := by decide +kernel
theorem dY_mended_33 : decode mY_mended.2.1 33 = .ok (.iastore, 1) := by decide +kernel
theorem dY_mended_34 : decode mY_mended.2.1 34 = .ok (.iload_n 2, 1) := by decide +kernel
theorem dY_mended_35 : decode mY_mended.2.1 35 = .ok (.ireturn, 1) := by decide +kernel
/- Y_mended: (I)I -/
set_option maxRecDepth 4000 in
theorem wY_mended {X : Cx} (a1 : Int) (sw : Bool) (m : Mem) (Q : Int → Bool → Mem → Prop) (h : M2 X 2 mY_isPart [vr 84, vi a1] sw m (fun z1 sw1 m1 => ((¬ w32 z1 = 0 → ((0 ≤ w32 a1 ∧ w32 a1 < 9) ∧ ((0 ≤ w32 a1 ∧ w32 a1 < 9) ∧ Q (m1 90 (w32 a1)) sw1 (upm (upm m1 90 (w32 a1) 0) 112 5 ((m1 112 5) + 1))))) ∧ (¬ (¬ w32 z1 = 0) → Q (-1) sw1 m1)))) : M2 X 3 mY_mended [vr 84, vi a1] sw m Q := by
  refine Mt.of pY_mended (Nat.le_of_ble_eq_true rfl) (Nat.le_refl _) ?_
  show R2 X 3 mY_mended 0 [(0, vr 84), (1, vi a1)] [] sw m Q
  refine r_aload_n 0 0 rfl dY_mended_0 rfl ?_
  refine r_iload_n 1 1 rfl dY_mended_1 rfl ?_
  refine r_callVb 12 [_] rfl c84 rfl rfl oY_isPart iY_isPart sY_isPart yY_164 (by decide) ⟨Nat.le_refl _, Nat.le_refl _⟩ rfl (Nat.le_of_ble_eq_true rfl) dY_mended_2 h (fun z1 r1 m1 h => ?_)
  obtain ⟨sw1, rfl, h⟩ := h
  refine r_if_ne (tgt := 10) dY_mended_5 (by decide) (fun hc => ?_) (fun hc => ?_)
  · replace h := h.1 hc
    refine r_aload_n 0 0 rfl dY_mended_10 rfl ?_
    refine q_getR 7 c84 fY_27 rfl rfl (g84_7 sw1) (by decide) dY_mended_11 ?_
    refine r_iload_n 1 1 rfl dY_mended_14 rfl ?_
    refine q_iaload (w32 a1) rfl c90 h.1 dY_mended_15 ?_
    replace h := h.2
    refine r_istore_n 2 (by decide) dY_mended_16 rfl ?_
    refine r_aload_n 0 1 rfl dY_mended_17 rfl ?_
    refine q_getR 7 c84 fY_27 rfl rfl (g84_7 sw1) (by decide) dY_mended_18 ?_
    refine r_iload_n 1 2 rfl dY_mended_21 rfl ?_
    refine r_iconst dY_mended_22 ?_
    refine q_iastore (w32 a1) rfl c90 h.1 dY_mended_23 ?_
    replace h := h.2
    refine r_aload_n 0 1 rfl dY_mended_24 rfl ?_
    refine q_getR 42 c84 fY_100 rfl rfl (g84_42 sw1) (by decide) dY_mended_25 ?_
    refine r_iconst dY_mended_28 ?_
    refine r_dup2 (fun q => by cases q) (fun q => by cases q) dY_mended_29 ?_
    refine q_iaload 5 rfl c112 (by decide) dY_mended_30 ?_
    refine r_iconst dY_mended_31 ?_
    refine r_iadd dY_mended_32 ?_
    refine q_iastore 5 rfl c112 (by decide) dY_mended_33 ?_
    refine r_iload_n 2 0 rfl dY_mended_34 rfl ?_
    exact q_iret rfl h dY_mended_35
  · replace h := h.2 hc
    refine r_iconst dY_mended_8 ?_
    exact q_iret rfl h dY_mended_9
theorem dY_led_0 : decode mY_led.2.1 0 = .ok (.iload_n 1, 1) := by decide +kernel
theorem dY_led_1 : decode mY_led.2.1 1 = .ok (.iconst 0, 1) := by decide +kernel
theorem dY_led_2 : decode mY_led.2.1 2 = .ok (.iconst 5, 1) := by decide +kernel
theorem dY_led_3 : decode mY_led.2.1 3 = .ok (.invokestatic 133, 3) := by decide +kernel
theorem dY_led_6 : decode mY_led.2.1 6 = .ok (.ifCond .eq 12, 3) := by decide +kernel
theorem dY_led_9 : decode mY_led.2.1 9 = .ok (.aload_n 0, 1) := by decide +kernel
theorem dY_led_10 : decode mY_led.2.1 10 = .ok (.getfield 100, 3) := by decide +kernel
theorem dY_led_13 : decode mY_led.2.1 13 = .ok (.iload_n 1, 1) := by decide +kernel
theorem dY_led_14 : decode mY_led.2.1 14 = .ok (.iaload, 1) := by decide +kernel
theorem dY_led_15 : decode mY_led.2.1 15 = .ok (.goto 4, 3) := by decide +kernel
theorem dY_led_18 : decode mY_led.2.1 18 = .ok (.iconst (-1), 1) := by decide +kernel
theorem dY_led_19 : decode mY_led.2.1 19 = .ok (.ireturn, 1) := by decide +kernel
/- Y_led: (I)I -/
set_option maxRecDepth 4000 in
theorem wY_led {X : Cx} (a1 : Int) (sw : Bool) (m : Mem) (Q : Int → Bool → Mem → Prop) (h : M2 X 1 mY_in [vi a1, vi 0, vi 5] sw m (fun z1 sw1 m1 => ((w32 z1 = 0 → Q (-1) sw1 m1) ∧ (¬ (w32 z1 = 0) → ((0 ≤ w32 a1 ∧ w32 a1 < 6) ∧ Q (m1 112 (w32 a1)) sw1 m1))))) : M2 X 2 mY_led [vr 84, vi a1] sw m Q := by
  refine Mt.of pY_led (Nat.le_of_ble_eq_true rfl) (Nat.le_refl _) ?_
  show R2 X 2 mY_led 0 [(0, vr 84), (1, vi a1)] [] sw m Q
  refine r_iload_n 1 1 rfl dY_led_0 rfl ?_
  refine r_iconst dY_led_1 ?_
  refine r_iconst dY_led_2 ?_
  refine r_callSb [_, _, _] rfl oY_in iY_in yY_133 (by decide) ⟨Nat.le_refl _, Nat.le_refl _⟩ rfl (Nat.le_of_ble_eq_true rfl) dY_led_3 h (fun z1 r1 m1 h => ?_)
  obtain ⟨sw1, rfl, h⟩ := h
  refine r_if_eq (tgt := 18) dY_led_6 (by decide) (fun hc => ?_) (fun hc => ?_)
  · replace h := h.1 hc
    refine r_iconst dY_led_18 ?_
    exact q_iret rfl h dY_led_19
  · replace h := h.2 hc
    refine r_aload_n 0 0 rfl dY_led_9 rfl ?_
    refine q_getR 42 c84 fY_100 rfl rfl (g84_42 sw1) (by decide) dY_led_10 ?_
    refine r_iload_n 1 1 rfl dY_led_13 rfl ?_
    refine q_iaload (w32 a1) rfl c112 h.1 dY_led_14 ?_
    replace h := h.2
    refine r_goto (tgt := 19) dY_led_15 (by decide) ?_
    exact q_iret rfl h dY_led_19
theorem dY_image_0 : decode mY_image.2.1 0 = .ok (.aload_n 0, 1) := by decide +kernel
theorem dY_image_1 : decode mY_image.2.1 1 = .ok (.iconst 1, 1) := by decide +kernel
theorem dY_image_2 : decode mY_image.2.1 2 = .ok (.putfield 353, 3) := by decide +kernel
theorem dY_image_5 : decode mY_image.2.1 5 = .ok (.aload_n 0, 1) := by decide +kernel
theorem dY_image_6 : decode mY_image.2.1 6 = .ok (.aload_n 0, 1) := by decide +kernel
theorem dY_image_7 : decode mY_image.2.1 7 = .ok (.getfield 130, 3) := by decide +kernel
theorem dY_image_10 : decode mY_image.2.1 10 = .ok (.putfield 356, 3) := by decide +kernel
theorem dY_image_13 : decode mY_image.2.1 13 = .ok (.iconst 0, 1) := by decide +kernel
theorem dY_image_14 : decode mY_image.2.1 14 = .ok (.istore_n 1, 1) := by decide +kernel
theorem dY_image_15 : decode mY_image.2.1 15 = .ok (.iload_n 1, 1) := by decide +kernel
theorem dY_image_16 : decode mY_image.2.1 16 = .ok (.aload_n 0, 1) := by decide +kernel
theorem dY_image_17 : decode mY_image.2.1 17 = .ok (.getfield 130, 3) := by decide +kernel
theorem dY_image_20 : decode mY_image.2.1 20 = .ok (.if_icmp .ge 21, 3) := by decide +kernel
theorem dY_image_23 : decode mY_image.2.1 23 = .ok (.aload_n 0, 1) := by decide +kernel
theorem dY_image_24 : decode mY_image.2.1 24 = .ok (.getfield 103, 3) := by decide +kernel
theorem dY_image_27 : decode mY_image.2.1 27 = .ok (.iload_n 1, 1) := by decide +kernel
theorem dY_image_28 : decode mY_image.2.1 28 = .ok (.aload_n 0, 1) := by decide +kernel
theorem dY_image_29 : decode mY_image.2.1 29 = .ok (.getfield 27, 3) := by decide +kernel
theorem dY_image_32 : decode mY_image.2.1 32 = .ok (.iload_n 1, 1) := by decide +kernel
theorem dY_image_33 : decode mY_image.2.1 33 = .ok (.iaload, 1) := by decide +kernel
theorem dY_image_34 : decode mY_image.2.1 34 = .ok (.iastore, 1) := by decide +kernel
theorem dY_image_35 : decode mY_image.2.1 35 = .ok (.iinc 1 1, 3) := by decide +kernel
theorem dY_image_38 : decode mY_image.2.1 38 = .ok (.goto (-23), 3) := by decide +kernel
theorem dY_image_41 : decode mY_image.2.1 41 = .ok (.iconst 0, 1) := by decide +kernel
theorem dY_image_42 : decode mY_image.2.1 42 = .ok (.istore_n 1, 1) := by decide +kernel
theorem dY_image_43 : decode mY_image.2.1 43 = .ok (.iload_n 1, 1) := by decide +kernel
theorem dY_image_44 : decode mY_image.2.1 44 = .ok (.bipush 6, 2) := by decide +kernel
theorem dY_image_46 : decode mY_image.2.1 46 = .ok (.if_icmp .ge 21, 3) := by decide +kernel
theorem dY_image_49 : decode mY_image.2.1 49 = .ok (.aload_n 0, 1) := by decide +kernel
theorem dY_image_50 : decode mY_image.2.1 50 = .ok (.getfield 106, 3) := by decide +kernel
theorem dY_image_53 : decode mY_image.2.1 53 = .ok (.iload_n 1, 1) := by decide +kernel
theorem dY_image_54 : decode mY_image.2.1 54 = .ok (.aload_n 0, 1) := by decide +kernel
theorem dY_image_55 : decode mY_image.2.1 55 = .ok (.getfield 100, 3) := by decide +kernel
theorem dY_image_58 : decode mY_image.2.1 58 = .ok (.iload_n 1, 1) := by decide +kernel
theorem dY_image_59 : decode mY_image.2.1 59 = .ok (.iaload, 1) := by decide +kernel
theorem dY_image_60 : decode mY_image.2.1 60 = .ok (.iastore, 1) := by decide +kernel
theorem dY_image_61 : decode mY_image.2.1 61 = .ok (.iinc 1 1, 3) := by decide +kernel
theorem dY_image_64 : decode mY_image.2.1 64 = .ok (.goto (-21), 3) := by decide +kernel
theorem dY_image_67 : decode mY_image.2.1 67 = .ok (.aload_n 0, 1) := by decide +kernel
theorem dY_image_68 : decode mY_image.2.1 68 = .ok (.getfield 100, 3) := by decide +kernel
theorem dY_image_71 : decode mY_image.2.1 71 = .ok (.iconst 0, 1) := by decide +kernel
theorem dY_image_72 : decode mY_image.2.1 72 = .ok (.iaload, 1) := by decide +kernel
theorem dY_image_73 : decode mY_image.2.1 73 = .ok (.ireturn, 1) := by decide +kernel
/- Y_image: ()I -/
set_option maxRecDepth 4000 in
theorem wY_image {X : Cx} (sw : Bool) (m : Mem) (Q : Int → Bool → Mem → Prop) (h : R2 X 1 mY_image 15 [(0, vr 84), (1, vi 0)] [] sw (upm (upm m 84 43 1) 84 44 (m 84 1)) Q) : M2 X 1 mY_image [vr 84] sw m Q := by
  refine Mt.of pY_image (Nat.le_of_ble_eq_true rfl) (Nat.le_refl _) ?_
  show R2 X 1 mY_image 0 [(0, vr 84)] [] sw m Q
  refine r_aload_n 0 0 rfl dY_image_0 rfl ?_
  refine r_iconst dY_image_1 ?_
  refine q_putZ 43 c84 pfY_353 rfl rfl (Or.inr rfl) dY_image_2 ?_
  refine r_aload_n 0 0 rfl dY_image_5 rfl ?_
  refine r_aload_n 0 0 rfl dY_image_6 rfl ?_
  refine q_getI 1 c84 fY_130 rfl rfl dY_image_7 ?_
  refine q_putI 44 c84 pfY_356 rfl rfl dY_image_10 ?_
  refine r_iconst dY_image_13 ?_
  refine r_istore_n 1 (by decide) dY_image_14 rfl ?_
  refine r_sub [1, 0] ?_ h
  rfl
set_option maxRecDepth 4000 in
theorem wY_image_15 {X : Cx} (x1 : Int) (sw : Bool) (m : Mem) (Q : Int → Bool → Mem → Prop) (h : ((w32 (m 84 1) ≤ w32 x1 → R2 X 1 mY_image 43 [(0, vr 84), (1, vi 0)] [] sw m Q) ∧ (¬ (w32 (m 84 1) ≤ w32 x1) → ((0 ≤ w32 x1 ∧ w32 x1 < 9) ∧ ((0 ≤ w32 x1 ∧ w32 x1 < 9) ∧ R2 X 1 mY_image 15 [(0, vr 84), (1, vi (x1 + 1))] [] sw (upm m 113 (w32 x1) (m 90 (w32 x1))) Q))))) : R2 X 1 mY_image 15 [(0, vr 84), (1, vi x1)] [] sw m Q := by
  refine r_iload_n 1 1 rfl dY_image_15 rfl ?_
  refine r_aload_n 0 0 rfl dY_image_16 rfl ?_
  refine q_getI 1 c84 fY_130 rfl rfl dY_image_17 ?_
  refine r_ifc_ge (tgt := 41) dY_image_20 (by decide) (fun hc => ?_) (fun hc => ?_)
  · replace h := h.1 hc
    refine r_iconst dY_image_41 ?_
    refine r_istore_n 1 (by decide) dY_image_42 rfl ?_
    refine r_sub [1, 0] ?_ h
    rfl
  · replace h := h.2 hc
    refine r_aload_n 0 0 rfl dY_image_23 rfl ?_
    refine q_getR 45 c84 fY_103 rfl rfl (g84_45 sw) (by decide) dY_image_24 ?_
    refine r_iload_n 1 1 rfl dY_image_27 rfl ?_
    refine r_aload_n 0 0 rfl dY_image_28 rfl ?_
    refine q_getR 7 c84 fY_27 rfl rfl (g84_7 sw) (by decide) dY_image_29 ?_
    refine r_iload_n 1 1 rfl dY_image_32 rfl ?_
    refine q_iaload (w32 x1) rfl c90 h.1 dY_image_33 ?_
    replace h := h.2
    refine q_iastore (w32 x1) rfl c113 h.1 dY_image_34 ?_
    replace h := h.2
    refine r_iinc 1 1 rfl (by decide) dY_image_35 ?_
    refine r_goto (tgt := 15) dY_image_38 (by decide) ?_
    refine r_sub [1, 0] ?_ h
    rfl
set_option maxRecDepth 4000 in
theorem wY_image_43 {X : Cx} (x1 : Int) (sw : Bool) (m : Mem) (Q : Int → Bool → Mem → Prop) (h : ((6 ≤ w32 x1 → Q (m 112 0) sw m) ∧ (¬ (6 ≤ w32 x1) → ((0 ≤ w32 x1 ∧ w32 x1 < 6) ∧ ((0 ≤ w32 x1 ∧ w32 x1 < 6) ∧ R2 X 1 mY_image 43 [(0, vr 84), (1, vi (x1 + 1))] [] sw (upm m 114 (w32 x1) (m 112 (w32 x1))) Q))))) : R2 X 1 mY_image 43 [(0, vr 84), (1, vi x1)] [] sw m Q := by
  refine r_iload_n 1 1 rfl dY_image_43 rfl ?_
  refine r_bipush (by decide) dY_image_44 ?_
  refine r_ifc_ge (tgt := 67) dY_image_46 (by decide) (fun hc => ?_) (fun hc => ?_)
  · replace h := h.1 hc
    refine r_aload_n 0 0 rfl dY_image_67 rfl ?_
    refine q_getR 42 c84 fY_100 rfl rfl (g84_42 sw) (by decide) dY_image_68 ?_
    refine r_iconst dY_image_71 ?_
    refine q_iaload 0 rfl c112 (by decide) dY_image_72 ?_
    exact q_iret rfl h dY_image_73
  · replace h := h.2 hc
    refine r_aload_n 0 0 rfl dY_image_49 rfl ?_
    refine q_getR 46 c84 fY_106 rfl rfl (g84_46 sw) (by decide) dY_image_50 ?_
    refine r_iload_n 1 1 rfl dY_image_53 rfl ?_
    refine r_aload_n 0 0 rfl dY_image_54 rfl ?_
    refine q_getR 42 c84 fY_100 rfl rfl (g84_42 sw) (by decide) dY_image_55 ?_
    refine r_iload_n 1 1 rfl dY_image_58 rfl ?_
    refine q_iaload (w32 x1) rfl c112 h.1 dY_image_59 ?_
    replace h := h.2
    refine q_iastore (w32 x1) rfl c114 h.1 dY_image_60 ?_
    replace h := h.2
    refine r_iinc 1 1 rfl (by decide) dY_image_61 ?_
    refine r_goto (tgt := 43) dY_image_64 (by decide) ?_
    refine r_sub [1, 0] ?_ h
    rfl
theorem dY_back_0 : decode mY_back.2.1 0 = .ok (.aload_n 0, 1) := by decide +kernel
theorem dY_back_1 : decode mY_back.2.1 1 = .ok (.getfield 353, 3) := by decide +kernel
theorem dY_back_4 : decode mY_back.2.1 4 = .ok (.ifCond .ne 6, 3) := by decide +kernel
theorem dY_back_7 : decode mY_back.2.1 7 = .ok (.bipush (-5), 2) := by decide +kernel
theorem dY_back_9 : decode mY_back.2.1 9 = .ok (.ireturn, 1) := by decide +kernel
theorem dY_back_10 : decode mY_back.2.1 10 = .ok (.iconst 0, 1) := by decide +kernel
theorem dY_back_11 : decode mY_back.2.1 11 = .ok (.istore_n 1, 1) := by decide +kernel
theorem dY_back_12 : decode mY_back.2.1 12 = .ok (.iload_n 1, 1) := by decide +kernel
theorem dY_back_13 : decode mY_back.2.1 13 = .ok (.aload_n 0, 1) := by decide +kernel
theorem dY_back_14 : decode mY_back.2.1 14 = .ok (.getfield 356, 3) := by decide +kernel
theorem dY_back_17 : decode mY_back.2.1 17 = .ok (.if_icmp .ge 21, 3) := by decide +kernel
theorem dY_back_20 : decode mY_back.2.1 20 = .ok (.aload_n 0, 1) := by decide +kernel
theorem dY_back_21 : decode mY_back.2.1 21 = .ok (.getfield 27, 3) := by decide +kernel
theorem dY_back_24 : decode mY_back.2.1 24 = .ok (.iload_n 1, 1) := by decide +kernel
theorem dY_back_25 : decode mY_back.2.1 25 = .ok (.aload_n 0, 1) := by decide +kernel
theorem dY_back_26 : decode mY_back.2.1 26 = .ok (.getfield 103, 3) := by decide +kernel
theorem dY_back_29 : decode mY_back.2.1 29 = .ok (.iload_n 1, 1) := by decide +kernel
theorem dY_back_30 : decode mY_back.2.1 30 = .ok (.iaload, 1) := by decide +kernel
theorem dY_back_31 : decode mY_back.2.1 31 = .ok (.iastore, 1) := by decide +kernel
theorem dY_back_32 : decode mY_back.2.1 32 = .ok (.iinc 1 1, 3) := by decide +kernel
theorem dY_back_35 : decode mY_back.2.1 35 = .ok (.goto (-23), 3) := by decide +kernel
theorem dY_back_38 : decode mY_back.2.1 38 = .ok (.iconst 0, 1) := by decide +kernel
theorem dY_back_39 : decode mY_back.2.1 39 = .ok (.istore_n 1, 1) := by decide +kernel
theorem dY_back_40 : decode mY_back.2.1 40 = .ok (.iload_n 1, 1) := by decide +kernel
theorem dY_back_41 : decode mY_back.2.1 41 = .ok (.bipush 6, 2) := by decide +kernel
theorem dY_back_43 : decode mY_back.2.1 43 = .ok (.if_icmp .ge 21, 3) := by decide +kernel
theorem dY_back_46 : decode mY_back.2.1 46 = .ok (.aload_n 0, 1) := by decide +kernel
theorem dY_back_47 : decode mY_back.2.1 47 = .ok (.getfield 100, 3) := by decide +kernel
theorem dY_back_50 : decode mY_back.2.1 50 = .ok (.iload_n 1, 1) := by decide +kernel
theorem dY_back_51 : decode mY_back.2.1 51 = .ok (.aload_n 0, 1) := by decide +kernel
theorem dY_back_52 : decode mY_back.2.1 52 = .ok (.getfield 106, 3) := by decide +kernel
theorem dY_back_55 : decode mY_back.2.1 55 = .ok (.iload_n 1, 1) := by decide +kernel
theorem dY_back_56 : decode mY_back.2.1 56 = .ok (.iaload, 1) := by decide +kernel
theorem dY_back_57 : decode mY_back.2.1 57 = .ok (.iastore, 1) := by decide +kernel
theorem dY_back_58 : decode mY_back.2.1 58 = .ok (.iinc 1 1, 3) := by decide +kernel
theorem dY_back_61 : decode mY_back.2.1 61 = .ok (.goto (-21), 3) := by decide +kernel
theorem dY_back_64 : decode mY_back.2.1 64 = .ok (.aload_n 0, 1) := by decide +kernel
theorem dY_back_65 : decode mY_back.2.1 65 = .ok (.getfield 100, 3) := by decide +kernel
theorem dY_back_68 : decode mY_back.2.1 68 = .ok (.iconst 0, 1) := by decide +kernel
theorem dY_back_69 : decode mY_back.2.1 69 = .ok (.iaload, 1) := by decide +kernel
theorem dY_back_70 : decode mY_back.2.1 70 = .ok (.ireturn, 1) := by decide +kernel
/- Y_back: ()I -/
set_option maxRecDepth 4000 in
theorem wY_back {X : Cx} (sw : Bool) (m : Mem) (Q : Int → Bool → Mem → Prop) (h : ((¬ w32 (m 84 43) = 0 → R2 X 1 mY_back 12 [(0, vr 84), (1, vi 0)] [] sw m Q) ∧ (¬ (¬ w32 (m 84 43) = 0) → Q (-5) sw m))) : M2 X 1 mY_back [vr 84] sw m Q := by
  refine Mt.of pY_back (Nat.le_of_ble_eq_true rfl) (Nat.le_refl _) ?_
  show R2 X 1 mY_back 0 [(0, vr 84)] [] sw m Q
  refine r_aload_n 0 0 rfl dY_back_0 rfl ?_
  refine q_getZ 43 c84 fY_353 rfl rfl dY_back_1 ?_
  refine r_if_ne (tgt := 10) dY_back_4 (by decide) (fun hc => ?_) (fun hc => ?_)
  · replace h := h.1 hc
    refine r_iconst dY_back_10 ?_
    refine r_istore_n 1 (by decide) dY_back_11 rfl ?_
    refine r_sub [1, 0] ?_ h
    rfl
  · replace h := h.2 hc
    refine r_bipush (by decide) dY_back_7 ?_
    exact q_iret rfl h dY_back_9
set_option maxRecDepth 4000 in
theorem wY_back_12 {X : Cx} (x1 : Int) (sw : Bool) (m : Mem) (Q : Int → Bool → Mem → Prop) (h : ((w32 (m 84 44) ≤ w32 x1 → R2 X 1 mY_back 40 [(0, vr 84), (1, vi 0)] [] sw m Q) ∧ (¬ (w32 (m 84 44) ≤ w32 x1) → ((0 ≤ w32 x1 ∧ w32 x1 < 9) ∧ ((0 ≤ w32 x1 ∧ w32 x1 < 9) ∧ R2 X 1 mY_back 12 [(0, vr 84), (1, vi (x1 + 1))] [] sw (upm m 90 (w32 x1) (m 113 (w32 x1))) Q))))) : R2 X 1 mY_back 12 [(0, vr 84), (1, vi x1)] [] sw m Q := by
  refine r_iload_n 1 1 rfl dY_back_12 rfl ?_
  refine r_aload_n 0 0 rfl dY_back_13 rfl ?_
  refine q_getI 44 c84 fY_356 rfl rfl dY_back_14 ?_
  refine r_ifc_ge (tgt := 38) dY_back_17 (by decide) (fun hc => ?_) (fun hc => ?_)
  · replace h := h.1 hc
    refine r_iconst dY_back_38 ?_
    refine r_istore_n 1 (by decide) dY_back_39 rfl ?_
    refine r_sub [1, 0] ?_ h
    rfl
  · replace h := h.2 hc
    refine r_aload_n 0 0 rfl dY_back_20 rfl ?_
    refine q_getR 7 c84 fY_27 rfl rfl (g84_7 sw) (by decide) dY_back_21 ?_
    refine r_iload_n 1 1 rfl dY_back_24 rfl ?_
    refine r_aload_n 0 0 rfl dY_back_25 rfl ?_
    refine q_getR 45 c84 fY_103 rfl rfl (g84_45 sw) (by decide) dY_back_26 ?_
    refine r_iload_n 1 1 rfl dY_back_29 rfl ?_
    refine q_iaload (w32 x1) rfl c113 h.1 dY_back_30 ?_
    replace h := h.2
    refine q_iastore (w32 x1) rfl c90 h.1 dY_back_31 ?_
    replace h := h.2
    refine r_iinc 1 1 rfl (by decide) dY_back_32 ?_
    refine r_goto (tgt := 12) dY_back_35 (by decide) ?_
    refine r_sub [1, 0] ?_ h
    rfl
set_option maxRecDepth 4000 in
theorem wY_back_40 {X : Cx} (x1 : Int) (sw : Bool) (m : Mem) (Q : Int → Bool → Mem → Prop) (h : ((6 ≤ w32 x1 → Q (m 112 0) sw m) ∧ (¬ (6 ≤ w32 x1) → ((0 ≤ w32 x1 ∧ w32 x1 < 6) ∧ ((0 ≤ w32 x1 ∧ w32 x1 < 6) ∧ R2 X 1 mY_back 40 [(0, vr 84), (1, vi (x1 + 1))] [] sw (upm m 112 (w32 x1) (m 114 (w32 x1))) Q))))) : R2 X 1 mY_back 40 [(0, vr 84), (1, vi x1)] [] sw m Q := by
  refine r_iload_n 1 1 rfl dY_back_40 rfl ?_
  refine r_bipush (by decide) dY_back_41 ?_
  refine r_ifc_ge (tgt := 64) dY_back_43 (by decide) (fun hc => ?_) (fun hc => ?_)
  · replace h := h.1 hc
    refine r_aload_n 0 0 rfl dY_back_64 rfl ?_
    refine q_getR 42 c84 fY_100 rfl rfl (g84_42 sw) (by decide) dY_back_65 ?_
    refine r_iconst dY_back_68 ?_
    refine q_iaload 0 rfl c112 (by decide) dY_back_69 ?_
    exact q_iret rfl h dY_back_70
  · replace h := h.2 hc
    refine r_aload_n 0 0 rfl dY_back_46 rfl ?_
    refine q_getR 42 c84 fY_100 rfl rfl (g84_42 sw) (by decide) dY_back_47 ?_
    refine r_iload_n 1 1 rfl dY_back_50 rfl ?_
    refine r_aload_n 0 0 rfl dY_back_51 rfl ?_
    refine q_getR 46 c84 fY_106 rfl rfl (g84_46 sw) (by decide) dY_back_52 ?_
    refine r_iload_n 1 1 rfl dY_back_55 rfl ?_
    refine q_iaload (w32 x1) rfl c114 h.1 dY_back_56 ?_
    replace h := h.2
    refine q_iastore (w32 x1) rfl c112 h.1 dY_back_57 ?_
    replace h := h.2
    refine r_iinc 1 1 rfl (by decide) dY_back_58 ?_
    refine r_goto (tgt := 40) dY_back_61 (by decide) ?_
    refine r_sub [1, 0] ?_ h
    rfl
theorem dY_isBody_0 : decode mY_isBody.2.1 0 = .ok (.iload_n 1, 1) := by decide +kernel
theorem dY_isBody_1 : decode mY_isBody.2.1 1 = .ok (.iconst 0, 1) := by decide +kernel
theorem dY_isBody_2 : decode mY_isBody.2.1 2 = .ok (.aload_n 0, 1) := by decide +kernel
theorem dY_isBody_3 : decode mY_isBody.2.1 3 = .ok (.getfield 359, 3) := by decide +kernel
theorem dY_isBody_6 : decode mY_isBody.2.1 6 = .ok (.iconst 1, 1) := by decide +kernel
theorem dY_isBody_7 : decode mY_isBody.2.1 7 = .ok (.isub, 1) := by decide +kernel
theorem dY_isBody_8 : decode mY_isBody.2.1 8 = .ok (.invokestatic 133, 3) := by decide +kernel
theorem dY_isBody_11 : decode mY_isBody.2.1 11 = .ok (.ireturn, 1) := by decide +kernel
/- Y_isBody: (I)Z -/
set_option maxRecDepth 4000 in
theorem wY_isBody {X : Cx} (a1 : Int) (sw : Bool) (m : Mem) (Q : Int → Bool → Mem → Prop) (h : M2 X 1 mY_in [vi a1, vi 0, vi ((m 84 47) - 1)] sw m (fun z1 sw1 m1 => ((z1 = 0 ∨ z1 = 1) ∧ Q z1 sw1 m1))) : M2 X 2 mY_isBody [vr 84, vi a1] sw m Q := by
  refine Mt.of pY_isBody (Nat.le_of_ble_eq_true rfl) (Nat.le_refl _) ?_
  show R2 X 2 mY_isBody 0 [(0, vr 84), (1, vi a1)] [] sw m Q
  refine r_iload_n 1 1 rfl dY_isBody_0 rfl ?_
  refine r_iconst dY_isBody_1 ?_
  refine r_aload_n 0 0 rfl dY_isBody_2 rfl ?_
  refine q_getI 47 c84 fY_359 rfl rfl dY_isBody_3 ?_
  refine r_iconst dY_isBody_6 ?_
  refine r_isub dY_isBody_7 ?_
  refine r_callSb [_, _, _] rfl oY_in iY_in yY_133 (by decide) ⟨Nat.le_refl _, Nat.le_refl _⟩ rfl (Nat.le_of_ble_eq_true rfl) dY_isBody_8 h (fun z1 r1 m1 h => ?_)
  obtain ⟨sw1, rfl, h⟩ := h
  exact q_bret rfl h.1 h.2 dY_isBody_11
theorem dY_ran_0 : decode mY_ran.2.1 0 = .ok (.aload_n 0, 1) := by decide +kernel
theorem dY_ran_1 : decode mY_ran.2.1 1 = .ok (.getfield 362, 3) := by decide +kernel
theorem dY_ran_4 : decode mY_ran.2.1 4 = .ok (.bipush 24, 2) := by decide +kernel
theorem dY_ran_6 : decode mY_ran.2.1 6 = .ok (.if_icmp .ge 13, 3) := by decide +kernel
theorem dY_ran_9 : decode mY_ran.2.1 9 = .ok (.aload_n 0, 1) := by decide +kernel
theorem dY_ran_10 : decode mY_ran.2.1 10 = .ok (.getfield 112, 3) := by decide +kernel
theorem dY_ran_13 : decode mY_ran.2.1 13 = .ok (.aload_n 0, 1) := by decide +kernel
theorem dY_ran_14 : decode mY_ran.2.1 14 = .ok (.getfield 362, 3) := by decide +kernel
theorem dY_ran_17 : decode mY_ran.2.1 17 = .ok (.iload_n 1, 1) := by decide +kernel
theorem dY_ran_18 : decode mY_ran.2.1 18 = .ok (.iastore, 1) := by decide +kernel
theorem dY_ran_19 : decode mY_ran.2.1 19 = .ok (.aload_n 0, 1) := by decide +kernel
theorem dY_ran_20 : decode mY_ran.2.1 20 = .ok (.dup, 1) := by decide +kernel
theorem dY_ran_21 : decode mY_ran.2.1 21 = .ok (.getfield 362, 3) := by decide +kernel
theorem dY_ran_24 : decode mY_ran.2.1 24 = .ok (.iconst 1, 1) := by decide +kernel
theorem dY_ran_25 : decode mY_ran.2.1 25 = .ok (.iadd, 1) := by decide +kernel
theorem dY_ran_26 : decode mY_ran.2.1 26 = .ok (.putfield 362, 3) := by decide +kernel
theorem dY_ran_29 : decode mY_ran.2.1 29 = .ok (.return_, 1) := by decide +kernel
/- Y_ran: (I)V -/
set_option maxRecDepth 4000 in
theorem wY_ran {X : Cx} (a1 : Int) (sw : Bool) (m : Mem) (Q : Int → Bool → Mem → Prop) (h : ((24 ≤ w32 (m 84 49) → Q 0 sw (upm m 84 49 ((m 84 49) + 1))) ∧ (¬ (24 ≤ w32 (m 84 49)) → ((0 ≤ w32 (m 84 49) ∧ w32 (m 84 49) < 24) ∧ Q 0 sw (upm (upm m 116 (w32 (m 84 49)) a1) 84 49 ((m 84 49) + 1)))))) : M2 X 1 mY_ran [vr 84, vi a1] sw m Q := by
  refine Mt.of pY_ran (Nat.le_of_ble_eq_true rfl) (Nat.le_refl _) ?_
  show R2 X 1 mY_ran 0 [(0, vr 84), (1, vi a1)] [] sw m Q
  refine r_aload_n 0 0 rfl dY_ran_0 rfl ?_
  refine q_getI 49 c84 fY_362 rfl rfl dY_ran_1 ?_
  refine r_bipush (by decide) dY_ran_4 ?_
  refine r_ifc_ge (tgt := 19) dY_ran_6 (by decide) (fun hc => ?_) (fun hc => ?_)
  · replace h := h.1 hc
    refine r_aload_n 0 0 rfl dY_ran_19 rfl ?_
    refine r_dup (fun q => by cases q) dY_ran_20 ?_
    refine q_getI 49 c84 fY_362 rfl rfl dY_ran_21 ?_
    refine r_iconst dY_ran_24 ?_
    refine r_iadd dY_ran_25 ?_
    refine q_putI 49 c84 pfY_362 rfl rfl dY_ran_26 ?_
    exact q_vret rfl h dY_ran_29
  · replace h := h.2 hc
    refine r_aload_n 0 0 rfl dY_ran_9 rfl ?_
    refine q_getR 50 c84 fY_112 rfl rfl (g84_50 sw) (by decide) dY_ran_10 ?_
    refine r_aload_n 0 0 rfl dY_ran_13 rfl ?_
    refine q_getI 49 c84 fY_362 rfl rfl dY_ran_14 ?_
    refine r_iload_n 1 1 rfl dY_ran_17 rfl ?_
    refine q_iastore (w32 (m 84 49)) rfl c116 h.1 dY_ran_18 ?_
    replace h := h.2
    refine r_aload_n 0 0 rfl dY_ran_19 rfl ?_
    refine r_dup (fun q => by cases q) dY_ran_20 ?_
    refine q_getI 49 c84 fY_362 rfl rfl dY_ran_21 ?_
    refine r_iconst dY_ran_24 ?_
    refine r_iadd dY_ran_25 ?_
    refine q_putI 49 c84 pfY_362 rfl rfl dY_ran_26 ?_
    exact q_vret rfl h dY_ran_29
theorem dY_trace_0 : decode mY_trace.2.1 0 = .ok (.iload_n 1, 1) := by decide +kernel
theorem dY_trace_1 : decode mY_trace.2.1 1 = .ok (.ifCond .lt 26, 3) := by decide +kernel
theorem dY_trace_4 : decode mY_trace.2.1 4 = .ok (.iload_n 1, 1) := by decide +kernel
theorem dY_trace_5 : decode mY_trace.2.1 5 = .ok (.aload_n 0, 1) := by decide +kernel
theorem dY_trace_6 : decode mY_trace.2.1 6 = .ok (.getfield 362, 3) := by decide +kernel
theorem dY_trace_9 : decode mY_trace.2.1 9 = .ok (.if_icmp .ge 18, 3) := by decide +kernel
theorem dY_trace_12 : decode mY_trace.2.1 12 = .ok (.iload_n 1, 1) := by decide +kernel
theorem dY_trace_13 : decode mY_trace.2.1 13 = .ok (.bipush 24, 2) := by decide +kernel
theorem dY_trace_15 : decode mY_trace.2.1 15 = .ok (.if_icmp .ge 12, 3) := by decide +kernel
theorem dY_trace_18 : decode mY_trace.2.1 18 = .ok (.aload_n 0, 1) := by decide +kernel
theorem dY_trace_19 : decode mY_trace.2.1 19 = .ok (.getfield 112, 3) := by decide +kernel
theorem dY_trace_22 : decode mY_trace.2.1 22 = .ok (.iload_n 1, 1) := by decide +kernel
theorem dY_trace_23 : decode mY_trace.2.1 23 = .ok (.iaload, 1) := by decide +kernel
theorem dY_trace_24 : decode mY_trace.2.1 24 = .ok (.goto 4, 3) := by decide +kernel
theorem dY_trace_27 : decode mY_trace.2.1 27 = .ok (.iconst (-1), 1) := by decide +kernel
theorem dY_trace_28 : decode mY_trace.2.1 28 = .ok (.ireturn, 1) := by decide +kernel
/- Y_trace: (I)I -/
set_option maxRecDepth 4000 in
theorem wY_trace {X : Cx} (a1 : Int) (sw : Bool) (m : Mem) (Q : Int → Bool → Mem → Prop) (h : ((w32 a1 < 0 → Q (-1) sw m) ∧ (¬ (w32 a1 < 0) → ((w32 (m 84 49) ≤ w32 a1 → Q (-1) sw m) ∧ (¬ (w32 (m 84 49) ≤ w32 a1) → ((24 ≤ w32 a1 → Q (-1) sw m) ∧ (¬ (24 ≤ w32 a1) → ((0 ≤ w32 a1 ∧ w32 a1 < 24) ∧ Q (m 116 (w32 a1)) sw m)))))))) : M2 X 1 mY_trace [vr 84, vi a1] sw m Q := by
  refine Mt.of pY_trace (Nat.le_of_ble_eq_true rfl) (Nat.le_refl _) ?_
  show R2 X 1 mY_trace 0 [(0, vr 84), (1, vi a1)] [] sw m Q
  refine r_iload_n 1 1 rfl dY_trace_0 rfl ?_
  refine r_if_lt (tgt := 27) dY_trace_1 (by decide) (fun hc => ?_) (fun hc => ?_)
  · replace h := h.1 hc
    refine r_iconst dY_trace_27 ?_
    exact q_iret rfl h dY_trace_28
  · replace h := h.2 hc
    refine r_iload_n 1 1 rfl dY_trace_4 rfl ?_
    refine r_aload_n 0 0 rfl dY_trace_5 rfl ?_
    refine q_getI 49 c84 fY_362 rfl rfl dY_trace_6 ?_
    refine r_ifc_ge (tgt := 27) dY_trace_9 (by decide) (fun hc => ?_) (fun hc => ?_)
    · replace h := h.1 hc
      refine r_iconst dY_trace_27 ?_
      exact q_iret rfl h dY_trace_28
    · replace h := h.2 hc
      refine r_iload_n 1 1 rfl dY_trace_12 rfl ?_
      refine r_bipush (by decide) dY_trace_13 ?_
      refine r_ifc_ge (tgt := 27) dY_trace_15 (by decide) (fun hc => ?_) (fun hc => ?_)
      · replace h := h.1 hc
        refine r_iconst dY_trace_27 ?_
        exact q_iret rfl h dY_trace_28
      · replace h := h.2 hc
        refine r_aload_n 0 0 rfl dY_trace_18 rfl ?_
        refine q_getR 50 c84 fY_112 rfl rfl (g84_50 sw) (by decide) dY_trace_19 ?_
        refine r_iload_n 1 1 rfl dY_trace_22 rfl ?_
        refine q_iaload (w32 a1) rfl c116 h.1 dY_trace_23 ?_
        replace h := h.2
        refine r_goto (tgt := 28) dY_trace_24 (by decide) ?_
        exact q_iret rfl h dY_trace_28
theorem dY_body_0 : decode mY_body.2.1 0 = .ok (.iload_n 1, 1) := by decide +kernel
theorem dY_body_1 : decode mY_body.2.1 1 = .ok (.iconst 0, 1) := by decide +kernel
theorem dY_body_2 : decode mY_body.2.1 2 = .ok (.bipush 7, 2) := by decide +kernel
theorem dY_body_4 : decode mY_body.2.1 4 = .ok (.invokestatic 133, 3) := by decide +kernel
theorem dY_body_7 : decode mY_body.2.1 7 = .ok (.ifCond .ne 5, 3) := by decide +kernel
theorem dY_body_10 : decode mY_body.2.1 10 = .ok (.iconst (-1), 1) := by decide +kernel
theorem dY_body_11 : decode mY_body.2.1 11 = .ok (.ireturn, 1) := by decide +kernel
theorem dY_body_12 : decode mY_body.2.1 12 = .ok (.aload_n 0, 1) := by decide +kernel
theorem dY_body_13 : decode mY_body.2.1 13 = .ok (.getfield 359, 3) := by decide +kernel
theorem dY_body_16 : decode mY_body.2.1 16 = .ok (.bipush 50, 2) := by decide +kernel
theorem dY_body_18 : decode mY_body.2.1 18 = .ok (.if_icmp .ne 6, 3) := by decide +kernel
theorem dY_body_21 : decode mY_body.2.1 21 = .ok (.bipush (-3), 2) := by decide +kernel
theorem dY_body_23 : decode mY_body.2.1 23 = .ok (.ireturn, 1) := by decide +kernel
theorem dY_body_24 : decode mY_body.2.1 24 = .ok (.aload_n 0, 1) := by decide +kernel
theorem dY_body_25 : decode mY_body.2.1 25 = .ok (.getfield 109, 3) := by decide +kernel
theorem dY_body_28 : decode mY_body.2.1 28 = .ok (.aload_n 0, 1) := by decide +kernel
theorem dY_body_29 : decode mY_body.2.1 29 = .ok (.getfield 359, 3) := by decide +kernel
theorem dY_body_32 : decode mY_body.2.1 32 = .ok (.iload_n 1, 1) := by decide +kernel
theorem dY_body_33 : decode mY_body.2.1 33 = .ok (.iastore, 1) := by decide +kernel
theorem dY_body_34 : decode mY_body.2.1 34 = .ok (.aload_n 0, 1) := by decide +kernel
theorem dY_body_35 : decode mY_body.2.1 35 = .ok (.dup, 1) := by decide +kernel
theorem dY_body_36 : decode mY_body.2.1 36 = .ok (.getfield 359, 3) := by decide +kernel
theorem dY_body_39 : decode mY_body.2.1 39 = .ok (.iconst 1, 1) := by decide +kernel
theorem dY_body_40 : decode mY_body.2.1 40 = .ok (.iadd, 1) := by decide +kernel
theorem dY_body_41 : decode mY_body.2.1 41 = .ok (.putfield 359, 3) := by decide +kernel
theorem dY_body_44 : decode mY_body.2.1 44 = .ok (.aload_n 0, 1) := by decide +kernel
theorem dY_body_45 : decode mY_body.2.1 45 = .ok (.getfield 359, 3) := by decide +kernel
theorem dY_body_48 : decode mY_body.2.1 48 = .ok (.iconst 1, 1) := by decide +kernel
theorem dY_body_49 : decode mY_body.2.1 49 = .ok (.isub, 1) := by decide +kernel
theorem dY_body_50 : decode mY_body.2.1 50 = .ok (.ireturn, 1) := by decide +kernel
/- Y_body: (I)I -/
set_option maxRecDepth 4000 in
theorem wY_body {X : Cx} (a1 : Int) (sw : Bool) (m : Mem) (Q : Int → Bool → Mem → Prop) (h : M2 X 1 mY_in [vi a1, vi 0, vi 7] sw m (fun z1 sw1 m1 => ((¬ w32 z1 = 0 → ((¬ w32 (m1 84 47) = 50 → ((0 ≤ w32 (m1 84 47) ∧ w32 (m1 84 47) < 50) ∧ Q (((m1 84 47) + 1) - 1) sw1 (upm (upm m1 115 (w32 (m1 84 47)) a1) 84 47 ((m1 84 47) + 1)))) ∧ (¬ (¬ w32 (m1 84 47) = 50) → Q (-3) sw1 m1))) ∧ (¬ (¬ w32 z1 = 0) → Q (-1) sw1 m1)))) : M2 X 2 mY_body [vr 84, vi a1] sw m Q := by
  refine Mt.of pY_body (Nat.le_of_ble_eq_true rfl) (Nat.le_refl _) ?_
  show R2 X 2 mY_body 0 [(0, vr 84), (1, vi a1)] [] sw m Q
  refine r_iload_n 1 1 rfl dY_body_0 rfl ?_
  refine r_iconst dY_body_1 ?_
  refine r_bipush (by decide) dY_body_2 ?_
  refine r_callSb [_, _, _] rfl oY_in iY_in yY_133 (by decide) ⟨Nat.le_refl _, Nat.le_refl _⟩ rfl (Nat.le_of_ble_eq_true rfl) dY_body_4 h (fun z1 r1 m1 h => ?_)
  obtain ⟨sw1, rfl, h⟩ := h
  refine r_if_ne (tgt := 12) dY_body_7 (by decide) (fun hc => ?_) (fun hc => ?_)
  · replace h := h.1 hc
    refine r_aload_n 0 0 rfl dY_body_12 rfl ?_
    refine q_getI 47 c84 fY_359 rfl rfl dY_body_13 ?_
    refine r_bipush (by decide) dY_body_16 ?_
    refine r_ifc_ne (tgt := 24) dY_body_18 (by decide) (fun hc => ?_) (fun hc => ?_)
    · replace h := h.1 hc
      refine r_aload_n 0 0 rfl dY_body_24 rfl ?_
      refine q_getR 48 c84 fY_109 rfl rfl (g84_48 sw1) (by decide) dY_body_25 ?_
      refine r_aload_n 0 0 rfl dY_body_28 rfl ?_
      refine q_getI 47 c84 fY_359 rfl rfl dY_body_29 ?_
      refine r_iload_n 1 1 rfl dY_body_32 rfl ?_
      refine q_iastore (w32 (m1 84 47)) rfl c115 h.1 dY_body_33 ?_
      replace h := h.2
      refine r_aload_n 0 0 rfl dY_body_34 rfl ?_
      refine r_dup (fun q => by cases q) dY_body_35 ?_
      refine q_getI 47 c84 fY_359 rfl rfl dY_body_36 ?_
      refine r_iconst dY_body_39 ?_
      refine r_iadd dY_body_40 ?_
      refine q_putI 47 c84 pfY_359 rfl rfl dY_body_41 ?_
      refine r_aload_n 0 0 rfl dY_body_44 rfl ?_
      refine q_getI 47 c84 fY_359 rfl rfl dY_body_45 ?_
      refine r_iconst dY_body_48 ?_
      refine r_isub dY_body_49 ?_
      exact q_iret rfl h dY_body_50
    · replace h := h.2 hc
      refine r_bipush (by decide) dY_body_21 ?_
      exact q_iret rfl h dY_body_23
  · replace h := h.2 hc
    refine r_iconst dY_body_10 ?_
    exact q_iret rfl h dY_body_11
theorem dY_isUnder_0 : decode mY_isUnder.2.1 0 = .ok (.iload_n 1, 1) := by decide +kernel
theorem dY_isUnder_1 : decode mY_isUnder.2.1 1 = .ok (.ifCond .eq 55, 3) := by decide +kernel
theorem dY_isUnder_4 : decode mY_isUnder.2.1 4 = .ok (.iload_n 0, 1) := by decide +kernel
theorem dY_isUnder_5 : decode mY_isUnder.2.1 5 = .ok (.iload_n 1, 1) := by decide +kernel
theorem dY_isUnder_6 : decode mY_isUnder.2.1 6 = .ok (.if_icmp .eq 50, 3) := by decide +kernel
theorem dY_isUnder_9 : decode mY_isUnder.2.1 9 = .ok (.iload_n 1, 1) := by decide +kernel
theorem dY_isUnder_10 : decode mY_isUnder.2.1 10 = .ok (.iconst 1, 1) := by decide +kernel
theorem dY_isUnder_11 : decode mY_isUnder.2.1 11 = .ok (.if_icmp .ne 8, 3) := by decide +kernel
theorem dY_isUnder_14 : decode mY_isUnder.2.1 14 = .ok (.iload_n 0, 1) := by decide +kernel
theorem dY_isUnder_15 : decode mY_isUnder.2.1 15 = .ok (.iconst 4, 1) := by decide +kernel
theorem dY_isUnder_16 : decode mY_isUnder.2.1 16 = .ok (.if_icmp .eq 40, 3) := by decide +kernel
theorem dY_isUnder_19 : decode mY_isUnder.2.1 19 = .ok (.iload_n 1, 1) := by decide +kernel
theorem dY_isUnder_20 : decode mY_isUnder.2.1 20 = .ok (.iconst 2, 1) := by decide +kernel
theorem dY_isUnder_21 : decode mY_isUnder.2.1 21 = .ok (.if_icmp .ne 13, 3) := by decide +kernel
theorem dY_isUnder_24 : decode mY_isUnder.2.1 24 = .ok (.iload_n 0, 1) := by decide +kernel
theorem dY_isUnder_25 : decode mY_isUnder.2.1 25 = .ok (.iconst 3, 1) := by decide +kernel
theorem dY_isUnder_26 : decode mY_isUnder.2.1 26 = .ok (.if_icmp .eq 30, 3) := by decide +kernel
theorem dY_isUnder_29 : decode mY_isUnder.2.1 29 = .ok (.iload_n 0, 1) := by decide +kernel
theorem dY_isUnder_30 : decode mY_isUnder.2.1 30 = .ok (.iconst 5, 1) := by decide +kernel
theorem dY_isUnder_31 : decode mY_isUnder.2.1 31 = .ok (.if_icmp .eq 25, 3) := by decide +kernel
theorem dY_isUnder_34 : decode mY_isUnder.2.1 34 = .ok (.iload_n 1, 1) := by decide +kernel
theorem dY_isUnder_35 : decode mY_isUnder.2.1 35 = .ok (.iconst 3, 1) := by decide +kernel
theorem dY_isUnder_36 : decode mY_isUnder.2.1 36 = .ok (.if_icmp .ne 8, 3) := by decide +kernel
theorem dY_isUnder_39 : decode mY_isUnder.2.1 39 = .ok (.iload_n 0, 1) := by decide +kernel
theorem dY_isUnder_40 : decode mY_isUnder.2.1 40 = .ok (.iconst 5, 1) := by decide +kernel
theorem dY_isUnder_41 : decode mY_isUnder.2.1 41 = .ok (.if_icmp .eq 15, 3) := by decide +kernel
theorem dY_isUnder_44 : decode mY_isUnder.2.1 44 = .ok (.iload_n 1, 1) := by decide +kernel
theorem dY_isUnder_45 : decode mY_isUnder.2.1 45 = .ok (.bipush 6, 2) := by decide +kernel
theorem dY_isUnder_47 : decode mY_isUnder.2.1 47 = .ok (.if_icmp .ne 13, 3) := by decide +kernel
theorem dY_isUnder_50 : decode mY_isUnder.2.1 50 = .ok (.iload_n 0, 1) := by decide +kernel
theorem dY_isUnder_51 : decode mY_isUnder.2.1 51 = .ok (.bipush 7, 2) := by decide +kernel
theorem dY_isUnder_53 : decode mY_isUnder.2.1 53 = .ok (.if_icmp .ne 7, 3) := by decide +kernel
theorem dY_isUnder_56 : decode mY_isUnder.2.1 56 = .ok (.iconst 1, 1) := by decide +kernel
theorem dY_isUnder_57 : decode mY_isUnder.2.1 57 = .ok (.goto 4, 3) := by decide +kernel
theorem dY_isUnder_60 : decode mY_isUnder.2.1 60 = .ok (.iconst 0, 1) := by decide +kernel
theorem dY_isUnder_61 : decode mY_isUnder.2.1 61 = .ok (.ireturn, 1) := by decide +kernel
/- Y_isUnder: (II)Z -/
set_option maxRecDepth 4000 in
theorem wY_isUnder {X : Cx} (a0 a1 : Int) (sw : Bool) (m : Mem) (Q : Int → Bool → Mem → Prop) (h : ((w32 a1 = 0 → Q 1 sw m) ∧ (¬ (w32 a1 = 0) → ((w32 a0 = w32 a1 → Q 1 sw m) ∧ (¬ (w32 a0 = w32 a1) → ((¬ w32 a1 = 1 → ((¬ w32 a1 = 2 → ((¬ w32 a1 = 3 → ((¬ w32 a1 = 6 → Q 0 sw m) ∧ (¬ (¬ w32 a1 = 6) → ((¬ w32 a0 = 7 → Q 0 sw m) ∧ (¬ (¬ w32 a0 = 7) → Q 1 sw m))))) ∧ (¬ (¬ w32 a1 = 3) → ((w32 a0 = 5 → Q 1 sw m) ∧ (¬ (w32 a0 = 5) → ((¬ w32 a1 = 6 → Q 0 sw m) ∧ (¬ (¬ w32 a1 = 6) → ((¬ w32 a0 = 7 → Q 0 sw m) ∧ (¬ (¬ w32 a0 = 7) → Q 1 sw m))))))))) ∧ (¬ (¬ w32 a1 = 2) → ((w32 a0 = 3 → Q 1 sw m) ∧ (¬ (w32 a0 = 3) → ((w32 a0 = 5 → Q 1 sw m) ∧ (¬ (w32 a0 = 5) → ((¬ w32 a1 = 3 → ((¬ w32 a1 = 6 → Q 0 sw m) ∧ (¬ (¬ w32 a1 = 6) → ((¬ w32 a0 = 7 → Q 0 sw m) ∧ (¬ (¬ w32 a0 = 7) → Q 1 sw m))))) ∧ (¬ (¬ w32 a1 = 3) → ((w32 a0 = 5 → Q 1 sw m) ∧ (¬ (w32 a0 = 5) → ((¬ w32 a1 = 6 → Q 0 sw m) ∧ (¬ (¬ w32 a1 = 6) → ((¬ w32 a0 = 7 → Q 0 sw m) ∧ (¬ (¬ w32 a0 = 7) → Q 1 sw m))))))))))))))) ∧ (¬ (¬ w32 a1 = 1) → ((w32 a0 = 4 → Q 1 sw m) ∧ (¬ (w32 a0 = 4) → ((¬ w32 a1 = 2 → ((¬ w32 a1 = 3 → ((¬ w32 a1 = 6 → Q 0 sw m) ∧ (¬ (¬ w32 a1 = 6) → ((¬ w32 a0 = 7 → Q 0 sw m) ∧ (¬ (¬ w32 a0 = 7) → Q 1 sw m))))) ∧ (¬ (¬ w32 a1 = 3) → ((w32 a0 = 5 → Q 1 sw m) ∧ (¬ (w32 a0 = 5) → ((¬ w32 a1 = 6 → Q 0 sw m) ∧ (¬ (¬ w32 a1 = 6) → ((¬ w32 a0 = 7 → Q 0 sw m) ∧ (¬ (¬ w32 a0 = 7) → Q 1 sw m))))))))) ∧ (¬ (¬ w32 a1 = 2) → ((w32 a0 = 3 → Q 1 sw m) ∧ (¬ (w32 a0 = 3) → ((w32 a0 = 5 → Q 1 sw m) ∧ (¬ (w32 a0 = 5) → ((¬ w32 a1 = 3 → ((¬ w32 a1 = 6 → Q 0 sw m) ∧ (¬ (¬ w32 a1 = 6) → ((¬ w32 a0 = 7 → Q 0 sw m) ∧ (¬ (¬ w32 a0 = 7) → Q 1 sw m))))) ∧ (¬ (¬ w32 a1 = 3) → ((w32 a0 = 5 → Q 1 sw m) ∧ (¬ (w32 a0 = 5) → ((¬ w32 a1 = 6 → Q 0 sw m) ∧ (¬ (¬ w32 a1 = 6) → ((¬ w32 a0 = 7 → Q 0 sw m) ∧ (¬ (¬ w32 a0 = 7) → Q 1 sw m))))))))))))))))))))))) : M2 X 1 mY_isUnder [vi a0, vi a1] sw m Q := by
  refine Mt.of pY_isUnder (Nat.le_of_ble_eq_true rfl) (Nat.le_refl _) ?_
  show R2 X 1 mY_isUnder 0 [(0, vi a0), (1, vi a1)] [] sw m Q
  refine r_iload_n 1 1 rfl dY_isUnder_0 rfl ?_
  refine r_if_eq (tgt := 56) dY_isUnder_1 (by decide) (fun hc => ?_) (fun hc => ?_)
  · replace h := h.1 hc
    refine r_iconst dY_isUnder_56 ?_
    refine r_goto (tgt := 61) dY_isUnder_57 (by decide) ?_
    exact q_bret rfl (Or.inr rfl) h dY_isUnder_61
  · replace h := h.2 hc
    refine r_iload_n 0 0 rfl dY_isUnder_4 rfl ?_
    refine r_iload_n 1 1 rfl dY_isUnder_5 rfl ?_
    refine r_ifc_eq (tgt := 56) dY_isUnder_6 (by decide) (fun hc => ?_) (fun hc => ?_)
    · replace h := h.1 hc
      refine r_iconst dY_isUnder_56 ?_
      refine r_goto (tgt := 61) dY_isUnder_57 (by decide) ?_
      exact q_bret rfl (Or.inr rfl) h dY_isUnder_61
    · replace h := h.2 hc
      refine r_iload_n 1 1 rfl dY_isUnder_9 rfl ?_
      refine r_iconst dY_isUnder_10 ?_
      refine r_ifc_ne (tgt := 19) dY_isUnder_11 (by decide) (fun hc => ?_) (fun hc => ?_)
      · replace h := h.1 hc
        refine r_iload_n 1 1 rfl dY_isUnder_19 rfl ?_
        refine r_iconst dY_isUnder_20 ?_
        refine r_ifc_ne (tgt := 34) dY_isUnder_21 (by decide) (fun hc => ?_) (fun hc => ?_)
        · replace h := h.1 hc
          refine r_iload_n 1 1 rfl dY_isUnder_34 rfl ?_
          refine r_iconst dY_isUnder_35 ?_
          refine r_ifc_ne (tgt := 44) dY_isUnder_36 (by decide) (fun hc => ?_) (fun hc => ?_)
          · replace h := h.1 hc
            refine r_iload_n 1 1 rfl dY_isUnder_44 rfl ?_
            refine r_bipush (by decide) dY_isUnder_45 ?_
            refine r_ifc_ne (tgt := 60) dY_isUnder_47 (by decide) (fun hc => ?_) (fun hc => ?_)
            · replace h := h.1 hc
              refine r_iconst dY_isUnder_60 ?_
              exact q_bret rfl (Or.inl rfl) h dY_isUnder_61
            · replace h := h.2 hc
              refine r_iload_n 0 0 rfl dY_isUnder_50 rfl ?_
              refine r_bipush (by decide) dY_isUnder_51 ?_
              refine r_ifc_ne (tgt := 60) dY_isUnder_53 (by decide) (fun hc => ?_) (fun hc => ?_)
              · replace h := h.1 hc
                refine r_iconst dY_isUnder_60 ?_
                exact q_bret rfl (Or.inl rfl) h dY_isUnder_61
              · replace h := h.2 hc
                refine r_iconst dY_isUnder_56 ?_
                refine r_goto (tgt := 61) dY_isUnder_57 (by decide) ?_
                exact q_bret rfl (Or.inr rfl) h dY_isUnder_61
          · replace h := h.2 hc
            refine r_iload_n 0 0 rfl dY_isUnder_39 rfl ?_
            refine r_iconst dY_isUnder_40 ?_
            refine r_ifc_eq (tgt := 56) dY_isUnder_41 (by decide) (fun hc => ?_) (fun hc => ?_)
            · replace h := h.1 hc
              refine r_iconst dY_isUnder_56 ?_
              refine r_goto (tgt := 61) dY_isUnder_57 (by decide) ?_
              exact q_bret rfl (Or.inr rfl) h dY_isUnder_61
            · replace h := h.2 hc
              refine r_iload_n 1 1 rfl dY_isUnder_44 rfl ?_
              refine r_bipush (by decide) dY_isUnder_45 ?_
              refine r_ifc_ne (tgt := 60) dY_isUnder_47 (by decide) (fun hc => ?_) (fun hc => ?_)
              · replace h := h.1 hc
                refine r_iconst dY_isUnder_60 ?_
                exact q_bret rfl (Or.inl rfl) h dY_isUnder_61
              · replace h := h.2 hc
                refine r_iload_n 0 0 rfl dY_isUnder_50 rfl ?_
                refine r_bipush (by decide) dY_isUnder_51 ?_
                refine r_ifc_ne (tgt := 60) dY_isUnder_53 (by decide) (fun hc => ?_) (fun hc => ?_)
                · replace h := h.1 hc
                  refine r_iconst dY_isUnder_60 ?_
                  exact q_bret rfl (Or.inl rfl) h dY_isUnder_61
                · replace h := h.2 hc
                  refine r_iconst dY_isUnder_56 ?_
                  refine r_goto (tgt := 61) dY_isUnder_57 (by decide) ?_
                  exact q_bret rfl (Or.inr rfl) h dY_isUnder_61
        · replace h := h.2 hc
          refine r_iload_n 0 0 rfl dY_isUnder_24 rfl ?_
          refine r_iconst dY_isUnder_25 ?_
          refine r_ifc_eq (tgt := 56) dY_isUnder_26 (by decide) (fun hc => ?_) (fun hc => ?_)
          · replace h := h.1 hc
            refine r_iconst dY_isUnder_56 ?_
            refine r_goto (tgt := 61) dY_isUnder_57 (by decide) ?_
            exact q_bret rfl (Or.inr rfl) h dY_isUnder_61
          · replace h := h.2 hc
            refine r_iload_n 0 0 rfl dY_isUnder_29 rfl ?_
            refine r_iconst dY_isUnder_30 ?_
            refine r_ifc_eq (tgt := 56) dY_isUnder_31 (by decide) (fun hc => ?_) (fun hc => ?_)
            · replace h := h.1 hc
              refine r_iconst dY_isUnder_56 ?_
              refine r_goto (tgt := 61) dY_isUnder_57 (by decide) ?_
              exact q_bret rfl (Or.inr rfl) h dY_isUnder_61
            · replace h := h.2 hc
              refine r_iload_n 1 1 rfl dY_isUnder_34 rfl ?_
              refine r_iconst dY_isUnder_35 ?_
              refine r_ifc_ne (tgt := 44) dY_isUnder_36 (by decide) (fun hc => ?_) (fun hc => ?_)
              · replace h := h.1 hc
                refine r_iload_n 1 1 rfl dY_isUnder_44 rfl ?_
                refine r_bipush (by decide) dY_isUnder_45 ?_
                refine r_ifc_ne (tgt := 60) dY_isUnder_47 (by decide) (fun hc => ?_) (fun hc => ?_)
                · replace h := h.1 hc
                  refine r_iconst dY_isUnder_60 ?_
                  exact q_bret rfl (Or.inl rfl) h dY_isUnder_61
                · replace h := h.2 hc
                  refine r_iload_n 0 0 rfl dY_isUnder_50 rfl ?_
                  refine r_bipush (by decide) dY_isUnder_51 ?_
                  refine r_ifc_ne (tgt := 60) dY_isUnder_53 (by decide) (fun hc => ?_) (fun hc => ?_)
                  · replace h := h.1 hc
                    refine r_iconst dY_isUnder_60 ?_
                    exact q_bret rfl (Or.inl rfl) h dY_isUnder_61
                  · replace h := h.2 hc
                    refine r_iconst dY_isUnder_56 ?_
                    refine r_goto (tgt := 61) dY_isUnder_57 (by decide) ?_
                    exact q_bret rfl (Or.inr rfl) h dY_isUnder_61
              · replace h := h.2 hc
                refine r_iload_n 0 0 rfl dY_isUnder_39 rfl ?_
                refine r_iconst dY_isUnder_40 ?_
                refine r_ifc_eq (tgt := 56) dY_isUnder_41 (by decide) (fun hc => ?_) (fun hc => ?_)
                · replace h := h.1 hc
                  refine r_iconst dY_isUnder_56 ?_
                  refine r_goto (tgt := 61) dY_isUnder_57 (by decide) ?_
                  exact q_bret rfl (Or.inr rfl) h dY_isUnder_61
                · replace h := h.2 hc
                  refine r_iload_n 1 1 rfl dY_isUnder_44 rfl ?_
                  refine r_bipush (by decide) dY_isUnder_45 ?_
                  refine r_ifc_ne (tgt := 60) dY_isUnder_47 (by decide) (fun hc => ?_) (fun hc => ?_)
                  · replace h := h.1 hc
                    refine r_iconst dY_isUnder_60 ?_
                    exact q_bret rfl (Or.inl rfl) h dY_isUnder_61
                  · replace h := h.2 hc
                    refine r_iload_n 0 0 rfl dY_isUnder_50 rfl ?_
                    refine r_bipush (by decide) dY_isUnder_51 ?_
                    refine r_ifc_ne (tgt := 60) dY_isUnder_53 (by decide) (fun hc => ?_) (fun hc => ?_)
                    · replace h := h.1 hc
                      refine r_iconst dY_isUnder_60 ?_
                      exact q_bret rfl (Or.inl rfl) h dY_isUnder_61
                    · replace h := h.2 hc
                      refine r_iconst dY_isUnder_56 ?_
                      refine r_goto (tgt := 61) dY_isUnder_57 (by decide) ?_
                      exact q_bret rfl (Or.inr rfl) h dY_isUnder_61
      · replace h := h.2 hc
        refine r_iload_n 0 0 rfl dY_isUnder_14 rfl ?_
        refine r_iconst dY_isUnder_15 ?_
        refine r_ifc_eq (tgt := 56) dY_isUnder_16 (by decide) (fun hc => ?_) (fun hc => ?_)
        · replace h := h.1 hc
          refine r_iconst dY_isUnder_56 ?_
          refine r_goto (tgt := 61) dY_isUnder_57 (by decide) ?_
          exact q_bret rfl (Or.inr rfl) h dY_isUnder_61
        · replace h := h.2 hc
          refine r_iload_n 1 1 rfl dY_isUnder_19 rfl ?_
          refine r_iconst dY_isUnder_20 ?_
          refine r_ifc_ne (tgt := 34) dY_isUnder_21 (by decide) (fun hc => ?_) (fun hc => ?_)
          · replace h := h.1 hc
            refine r_iload_n 1 1 rfl dY_isUnder_34 rfl ?_
            refine r_iconst dY_isUnder_35 ?_
            refine r_ifc_ne (tgt := 44) dY_isUnder_36 (by decide) (fun hc => ?_) (fun hc => ?_)
            · replace h := h.1 hc
              refine r_iload_n 1 1 rfl dY_isUnder_44 rfl ?_
              refine r_bipush (by decide) dY_isUnder_45 ?_
              refine r_ifc_ne (tgt := 60) dY_isUnder_47 (by decide) (fun hc => ?_) (fun hc => ?_)
              · replace h := h.1 hc
                refine r_iconst dY_isUnder_60 ?_
                exact q_bret rfl (Or.inl rfl) h dY_isUnder_61
              · replace h := h.2 hc
                refine r_iload_n 0 0 rfl dY_isUnder_50 rfl ?_
                refine r_bipush (by decide) dY_isUnder_51 ?_
                refine r_ifc_ne (tgt := 60) dY_isUnder_53 (by decide) (fun hc => ?_) (fun hc => ?_)
                · replace h := h.1 hc
                  refine r_iconst dY_isUnder_60 ?_
                  exact q_bret rfl (Or.inl rfl) h dY_isUnder_61
                · replace h := h.2 hc
                  refine r_iconst dY_isUnder_56 ?_
                  refine r_goto (tgt := 61) dY_isUnder_57 (by decide) ?_
                  exact q_bret rfl (Or.inr rfl) h dY_isUnder_61
            · replace h := h.2 hc
              refine r_iload_n 0 0 rfl dY_isUnder_39 rfl ?_
              refine r_iconst dY_isUnder_40 ?_
              refine r_ifc_eq (tgt := 56) dY_isUnder_41 (by decide) (fun hc => ?_) (fun hc => ?_)
              · replace h := h.1 hc
                refine r_iconst dY_isUnder_56 ?_
                refine r_goto (tgt := 61) dY_isUnder_57 (by decide) ?_
                exact q_bret rfl (Or.inr rfl) h dY_isUnder_61
              · replace h := h.2 hc
                refine r_iload_n 1 1 rfl dY_isUnder_44 rfl ?_
                refine r_bipush (by decide) dY_isUnder_45 ?_
                refine r_ifc_ne (tgt := 60) dY_isUnder_47 (by decide) (fun hc => ?_) (fun hc => ?_)
                · replace h := h.1 hc
                  refine r_iconst dY_isUnder_60 ?_
                  exact q_bret rfl (Or.inl rfl) h dY_isUnder_61
                · replace h := h.2 hc
                  refine r_iload_n 0 0 rfl dY_isUnder_50 rfl ?_
                  refine r_bipush (by decide) dY_isUnder_51 ?_
                  refine r_ifc_ne (tgt := 60) dY_isUnder_53 (by decide) (fun hc => ?_) (fun hc => ?_)
                  · replace h := h.1 hc
                    refine r_iconst dY_isUnder_60 ?_
                    exact q_bret rfl (Or.inl rfl) h dY_isUnder_61
                  · replace h := h.2 hc
                    refine r_iconst dY_isUnder_56 ?_
                    refine r_goto (tgt := 61) dY_isUnder_57 (by decide) ?_
                    exact q_bret rfl (Or.inr rfl) h dY_isUnder_61
          · replace h := h.2 hc
            refine r_iload_n 0 0 rfl dY_isUnder_24 rfl ?_
            refine r_iconst dY_isUnder_25 ?_
            refine r_ifc_eq (tgt := 56) dY_isUnder_26 (by decide) (fun hc => ?_) (fun hc => ?_)
            · replace h := h.1 hc
              refine r_iconst dY_isUnder_56 ?_
              refine r_goto (tgt := 61) dY_isUnder_57 (by decide) ?_
              exact q_bret rfl (Or.inr rfl) h dY_isUnder_61
            · replace h := h.2 hc
              refine r_iload_n 0 0 rfl dY_isUnder_29 rfl ?_
              refine r_iconst dY_isUnder_30 ?_
              refine r_ifc_eq (tgt := 56) dY_isUnder_31 (by decide) (fun hc => ?_) (fun hc => ?_)
              · replace h := h.1 hc
                refine r_iconst dY_isUnder_56 ?_
                refine r_goto (tgt := 61) dY_isUnder_57 (by decide) ?_
                exact q_bret rfl (Or.inr rfl) h dY_isUnder_61
              · replace h := h.2 hc
                refine r_iload_n 1 1 rfl dY_isUnder_34 rfl ?_
                refine r_iconst dY_isUnder_35 ?_
                refine r_ifc_ne (tgt := 44) dY_isUnder_36 (by decide) (fun hc => ?_) (fun hc => ?_)
                · replace h := h.1 hc
                  refine r_iload_n 1 1 rfl dY_isUnder_44 rfl ?_
                  refine r_bipush (by decide) dY_isUnder_45 ?_
                  refine r_ifc_ne (tgt := 60) dY_isUnder_47 (by decide) (fun hc => ?_) (fun hc => ?_)
                  · replace h := h.1 hc
                    refine r_iconst dY_isUnder_60 ?_
                    exact q_bret rfl (Or.inl rfl) h dY_isUnder_61
                  · replace h := h.2 hc
                    refine r_iload_n 0 0 rfl dY_isUnder_50 rfl ?_
                    refine r_bipush (by decide) dY_isUnder_51 ?_
                    refine r_ifc_ne (tgt := 60) dY_isUnder_53 (by decide) (fun hc => ?_) (fun hc => ?_)
                    · replace h := h.1 hc
                      refine r_iconst dY_isUnder_60 ?_
                      exact q_bret rfl (Or.inl rfl) h dY_isUnder_61
                    · replace h := h.2 hc
                      refine r_iconst dY_isUnder_56 ?_
                      refine r_goto (tgt := 61) dY_isUnder_57 (by decide) ?_
                      exact q_bret rfl (Or.inr rfl) h dY_isUnder_61
                · replace h := h.2 hc
                  refine r_iload_n 0 0 rfl dY_isUnder_39 rfl ?_
                  refine r_iconst dY_isUnder_40 ?_
                  refine r_ifc_eq (tgt := 56) dY_isUnder_41 (by decide) (fun hc => ?_) (fun hc => ?_)
                  · replace h := h.1 hc
                    refine r_iconst dY_isUnder_56 ?_
                    refine r_goto (tgt := 61) dY_isUnder_57 (by decide) ?_
                    exact q_bret rfl (Or.inr rfl) h dY_isUnder_61
                  · replace h := h.2 hc
                    refine r_iload_n 1 1 rfl dY_isUnder_44 rfl ?_
                    refine r_bipush (by decide) dY_isUnder_45 ?_
                    refine r_ifc_ne (tgt := 60) dY_isUnder_47 (by decide) (fun hc => ?_) (fun hc => ?_)
                    · replace h := h.1 hc
                      refine r_iconst dY_isUnder_60 ?_
                      exact q_bret rfl (Or.inl rfl) h dY_isUnder_61
                    · replace h := h.2 hc
                      refine r_iload_n 0 0 rfl dY_isUnder_50 rfl ?_
                      refine r_bipush (by decide) dY_isUnder_51 ?_
                      refine r_ifc_ne (tgt := 60) dY_isUnder_53 (by decide) (fun hc => ?_) (fun hc => ?_)
                      · replace h := h.1 hc
                        refine r_iconst dY_isUnder_60 ?_
                        exact q_bret rfl (Or.inl rfl) h dY_isUnder_61
                      · replace h := h.2 hc
                        refine r_iconst dY_isUnder_56 ?_
                        refine r_goto (tgt := 61) dY_isUnder_57 (by decide) ?_
                        exact q_bret rfl (Or.inr rfl) h dY_isUnder_61
theorem dY_plainStarts_0 : decode mY_plainStarts.2.1 0 = .ok (.aload_n 0, 1) := by decide +kernel
theorem dY_plainStarts_1 : decode mY_plainStarts.2.1 1 = .ok (.iconst 1, 1) := by decide +kernel
theorem dY_plainStarts_2 : decode mY_plainStarts.2.1 2 = .ok (.invokevirtual 365, 3) := by decide +kernel
theorem dY_plainStarts_5 : decode mY_plainStarts.2.1 5 = .ok (.iload_n 2, 1) := by decide +kernel
theorem dY_plainStarts_6 : decode mY_plainStarts.2.1 6 = .ok (.iload_n 1, 1) := by decide +kernel
theorem dY_plainStarts_7 : decode mY_plainStarts.2.1 7 = .ok (.iadd, 1) := by decide +kernel
theorem dY_plainStarts_8 : decode mY_plainStarts.2.1 8 = .ok (.ireturn, 1) := by decide +kernel
/- Y_plainStarts: (II)I -/
set_option maxRecDepth 4000 in
theorem wY_plainStarts {X : Cx} (a1 a2 : Int) (sw : Bool) (m : Mem) (Q : Int → Bool → Mem → Prop) (h : M2 X 1 mY_ran [vr 84, vi 1] sw m (fun z1 sw1 m1 => Q (a2 + a1) sw1 m1)) : M2 X 2 mY_plainStarts [vr 84, vi a1, vi a2] sw m Q := by
  refine Mt.of pY_plainStarts (Nat.le_of_ble_eq_true rfl) (Nat.le_refl _) ?_
  show R2 X 2 mY_plainStarts 0 [(0, vr 84), (1, vi a1), (2, vi a2)] [] sw m Q
  refine r_aload_n 0 0 rfl dY_plainStarts_0 rfl ?_
  refine r_iconst dY_plainStarts_1 ?_
  refine r_callVv 12 [_] rfl c84 rfl rfl oY_ran iY_ran sY_ran yY_365 (by decide) ⟨Nat.le_refl _, Nat.le_refl _⟩ rfl (Nat.le_of_ble_eq_true rfl) dY_plainStarts_2 h (fun z1 r1 m1 h => ?_)
  obtain ⟨sw1, rfl, h⟩ := h
  refine r_iload_n 2 2 rfl dY_plainStarts_5 rfl ?_
  refine r_iload_n 1 1 rfl dY_plainStarts_6 rfl ?_
  refine r_iadd dY_plainStarts_7 ?_
  exact q_iret rfl h dY_plainStarts_8
theorem dY_catStarts_0 : decode mY_catStarts.2.1 0 = .ok (.aload_n 0, 1) := by decide +kernel
theorem dY_catStarts_1 : decode mY_catStarts.2.1 1 = .ok (.bipush 70, 2) := by decide +kernel
theorem dY_catStarts_3 : decode mY_catStarts.2.1 3 = .ok (.invokevirtual 365, 3) := by decide +kernel
theorem dY_catStarts_6 : decode mY_catStarts.2.1 6 = .ok (.aload_n 0, 1) := by decide +kernel
theorem dY_catStarts_7 : decode mY_catStarts.2.1 7 = .ok (.iload_n 1, 1) := by decide +kernel
theorem dY_catStarts_8 : decode mY_catStarts.2.1 8 = .ok (.iload_n 2, 1) := by decide +kernel
theorem dY_catStarts_9 : decode mY_catStarts.2.1 9 = .ok (.invokevirtual 368, 3) := by decide +kernel
theorem dY_catStarts_12 : decode mY_catStarts.2.1 12 = .ok (.iconst 2, 1) := by decide +kernel
theorem dY_catStarts_13 : decode mY_catStarts.2.1 13 = .ok (.imul, 1) := by decide +kernel
theorem dY_catStarts_14 : decode mY_catStarts.2.1 14 = .ok (.ireturn, 1) := by decide +kernel
/- Y_catStarts: (II)I -/
set_option maxRecDepth 4000 in
theorem wY_catStarts {X : Cx} (a1 a2 : Int) (sw : Bool) (m : Mem) (Q : Int → Bool → Mem → Prop) (h : M2 X 1 mY_ran [vr 84, vi 70] sw m (fun z1 sw1 m1 => M2 X 2 mY_plainStarts [vr 84, vi a1, vi a2] sw1 m1 (fun z2 sw2 m2 => Q (z2 * 2) sw2 m2))) : M2 X 3 mY_catStarts [vr 84, vi a1, vi a2] sw m Q := by
  refine Mt.of pY_catStarts (Nat.le_of_ble_eq_true rfl) (Nat.le_refl _) ?_
  show R2 X 3 mY_catStarts 0 [(0, vr 84), (1, vi a1), (2, vi a2)] [] sw m Q
  refine r_aload_n 0 0 rfl dY_catStarts_0 rfl ?_
  refine r_bipush (by decide) dY_catStarts_1 ?_
  refine r_callVv 12 [_] rfl c84 rfl rfl oY_ran iY_ran sY_ran yY_365 (by decide) ⟨Nat.le_refl _, Nat.le_refl _⟩ rfl (Nat.le_of_ble_eq_true rfl) dY_catStarts_3 h (fun z1 r1 m1 h => ?_)
  obtain ⟨sw1, rfl, h⟩ := h
  refine r_aload_n 0 0 rfl dY_catStarts_6 rfl ?_
  refine r_iload_n 1 1 rfl dY_catStarts_7 rfl ?_
  refine r_iload_n 2 2 rfl dY_catStarts_8 rfl ?_
  refine r_callVi 12 [_, _] rfl c84 rfl rfl oY_plainStarts iY_plainStarts sY_plainStarts yY_368 (by decide) ⟨Nat.le_refl _, Nat.le_refl _⟩ rfl (Nat.le_of_ble_eq_true rfl) dY_catStarts_9 h (fun z2 r2 m2 h => ?_)
  obtain ⟨sw2, rfl, h⟩ := h
  refine r_iconst dY_catStarts_12 ?_
  refine r_imul dY_catStarts_13 ?_
  exact q_iret rfl h dY_catStarts_14
theorem dY_starting_0 : decode mY_starting.2.1 0 = .ok (.aload_n 0, 1) := by decide +kernel
theorem dY_starting_1 : decode mY_starting.2.1 1 = .ok (.getfield 109, 3) := by decide +kernel
theorem dY_starting_4 : decode mY_starting.2.1 4 = .ok (.iload_n 1, 1) := by decide +kernel
theorem dY_starting_5 : decode mY_starting.2.1 5 = .ok (.iaload, 1) := by decide +kernel
theorem dY_starting_6 : decode mY_starting.2.1 6 = .ok (.iconst 1, 1) := by decide +kernel
theorem dY_starting_7 : decode mY_starting.2.1 7 = .ok (.invokestatic 371, 3) := by decide +kernel
theorem dY_starting_10 : decode mY_starting.2.1 10 = .ok (.ifCond .eq 18, 3) := by decide +kernel
theorem dY_starting_13 : decode mY_starting.2.1 13 = .ok (.aload_n 0, 1) := by decide +kernel
theorem dY_starting_14 : decode mY_starting.2.1 14 = .ok (.bipush 20, 2) := by decide +kernel
theorem dY_starting_16 : decode mY_starting.2.1 16 = .ok (.invokevirtual 365, 3) := by decide +kernel
theorem dY_starting_19 : decode mY_starting.2.1 19 = .ok (.aload_n 0, 1) := by decide +kernel
theorem dY_starting_20 : decode mY_starting.2.1 20 = .ok (.iload_n 1, 1) := by decide +kernel
theorem dY_starting_21 : decode mY_starting.2.1 21 = .ok (.iload_n 2, 1) := by decide +kernel
theorem dY_starting_22 : decode mY_starting.2.1 22 = .ok (.invokevirtual 368, 3) := by decide +kernel
theorem dY_starting_25 : decode mY_starting.2.1 25 = .ok (.iconst 3, 1) := by decide +kernel
theorem dY_starting_26 : decode mY_starting.2.1 26 = .ok (.iadd, 1) := by decide +kernel
theorem dY_starting_27 : decode mY_starting.2.1 27 = .ok (.ireturn, 1) := by decide +kernel
theorem dY_starting_28 : decode mY_starting.2.1 28 = .ok (.aload_n 0, 1) := by decide +kernel
theorem dY_starting_29 : decode mY_starting.2.1 29 = .ok (.getfield 109, 3) := by decide +kernel
theorem dY_starting_32 : decode mY_starting.2.1 32 = .ok (.iload_n 1, 1) := by decide +kernel
theorem dY_starting_33 : decode mY_starting.2.1 33 = .ok (.iaload, 1) := by decide +kernel
theorem dY_starting_34 : decode mY_starting.2.1 34 = .ok (.bipush 7, 2) := by decide +kernel
theorem dY_starting_36 : decode mY_starting.2.1 36 = .ok (.if_icmp .ne 18, 3) := by decide +kernel
theorem dY_starting_39 : decode mY_starting.2.1 39 = .ok (.aload_n 0, 1) := by decide +kernel
theorem dY_starting_40 : decode mY_starting.2.1 40 = .ok (.bipush 81, 2) := by decide +kernel
theorem dY_starting_42 : decode mY_starting.2.1 42 = .ok (.invokevirtual 365, 3) := by decide +kernel
theorem dY_starting_45 : decode mY_starting.2.1 45 = .ok (.aload_n 0, 1) := by decide +kernel
theorem dY_starting_46 : decode mY_starting.2.1 46 = .ok (.iload_n 1, 1) := by decide +kernel
theorem dY_starting_47 : decode mY_starting.2.1 47 = .ok (.iload_n 2, 1) := by decide +kernel
theorem dY_starting_48 : decode mY_starting.2.1 48 = .ok (.invokevirtual 374, 3) := by decide +kernel
theorem dY_starting_51 : decode mY_starting.2.1 51 = .ok (.iconst 1, 1) := by decide +kernel
theorem dY_starting_52 : decode mY_starting.2.1 52 = .ok (.isub, 1) := by decide +kernel
theorem dY_starting_53 : decode mY_starting.2.1 53 = .ok (.ireturn, 1) := by decide +kernel
theorem dY_starting_54 : decode mY_starting.2.1 54 = .ok (.aload_n 0, 1) := by decide +kernel
theorem dY_starting_55 : decode mY_starting.2.1 55 = .ok (.getfield 109, 3) := by decide +kernel
theorem dY_starting_58 : decode mY_starting.2.1 58 = .ok (.iload_n 1, 1) := by decide +kernel
theorem dY_starting_59 : decode mY_starting.2.1 59 = .ok (.iaload, 1) := by decide +kernel
theorem dY_starting_60 : decode mY_starting.2.1 60 = .ok (.bipush 6, 2) := by decide +kernel
theorem dY_starting_62 : decode mY_starting.2.1 62 = .ok (.if_icmp .ne 12, 3) := by decide +kernel
theorem dY_starting_65 : decode mY_starting.2.1 65 = .ok (.aload_n 0, 1) := by decide +kernel
theorem dY_starting_66 : decode mY_starting.2.1 66 = .ok (.iload_n 1, 1) := by decide +kernel
theorem dY_starting_67 : decode mY_starting.2.1 67 = .ok (.iload_n 2, 1) := by decide +kernel
theorem dY_starting_68 : decode mY_starting.2.1 68 = .ok (.invokevirtual 374, 3) := by decide +kernel
theorem dY_starting_71 : decode mY_starting.2.1 71 = .ok (.goto 9, 3) := by decide +kernel
theorem dY_starting_74 : decode mY_starting.2.1 74 = .ok (.aload_n 0, 1) := by decide +kernel
theorem dY_starting_75 : decode mY_starting.2.1 75 = .ok (.iload_n 1, 1) := by decide +kernel
theorem dY_starting_76 : decode mY_starting.2.1 76 = .ok (.iload_n 2, 1) := by decide +kernel
theorem dY_starting_77 : decode mY_starting.2.1 77 = .ok (.invokevirtual 368, 3) := by decide +kernel
theorem dY_starting_80 : decode mY_starting.2.1 80 = .ok (.ireturn, 1) := by decide +kernel
/- Y_starting: (II)I -/
set_option maxRecDepth 4000 in
theorem wY_starting {X : Cx} (a1 a2 : Int) (sw : Bool) (m : Mem) (Q : Int → Bool → Mem → Prop) (h : ((0 ≤ w32 a1 ∧ w32 a1 < 50) ∧ M2 X 1 mY_isUnder [vi (m 115 (w32 a1)), vi 1] sw m (fun z1 sw1 m1 => ((w32 z1 = 0 → ((0 ≤ w32 a1 ∧ w32 a1 < 50) ∧ ((¬ w32 (m1 115 (w32 a1)) = 7 → ((0 ≤ w32 a1 ∧ w32 a1 < 50) ∧ ((¬ w32 (m1 115 (w32 a1)) = 6 → M2 X 2 mY_plainStarts [vr 84, vi a1, vi a2] sw1 m1 (fun z2 sw2 m2 => Q z2 sw2 m2)) ∧ (¬ (¬ w32 (m1 115 (w32 a1)) = 6) → M2 X 3 mY_catStarts [vr 84, vi a1, vi a2] sw1 m1 (fun z3 sw3 m3 => Q z3 sw3 m3))))) ∧ (¬ (¬ w32 (m1 115 (w32 a1)) = 7) → M2 X 1 mY_ran [vr 84, vi 81] sw1 m1 (fun z4 sw4 m4 => M2 X 3 mY_catStarts [vr 84, vi a1, vi a2] sw4 m4 (fun z5 sw5 m5 => Q (z5 - 1) sw5 m5)))))) ∧ (¬ (w32 z1 = 0) → M2 X 1 mY_ran [vr 84, vi 20] sw1 m1 (fun z6 sw6 m6 => M2 X 2 mY_plainStarts [vr 84, vi a1, vi a2] sw6 m6 (fun z7 sw7 m7 => Q (z7 + 3) sw7 m7))))))) : M2 X 4 mY_starting [vr 84, vi a1, vi a2] sw m Q := by
  refine Mt.of pY_starting (Nat.le_of_ble_eq_true rfl) (Nat.le_refl _) ?_
  show R2 X 4 mY_starting 0 [(0, vr 84), (1, vi a1), (2, vi a2)] [] sw m Q
  refine r_aload_n 0 0 rfl dY_starting_0 rfl ?_
  refine q_getR 48 c84 fY_109 rfl rfl (g84_48 sw) (by decide) dY_starting_1 ?_
  refine r_iload_n 1 1 rfl dY_starting_4 rfl ?_
  refine q_iaload (w32 a1) rfl c115 h.1 dY_starting_5 ?_
  replace h := h.2
  refine r_iconst dY_starting_6 ?_
  refine r_callSb [_, _] rfl oY_isUnder iY_isUnder yY_371 (by decide) ⟨Nat.le_refl _, Nat.le_refl _⟩ rfl (Nat.le_of_ble_eq_true rfl) dY_starting_7 h (fun z1 r1 m1 h => ?_)
  obtain ⟨sw1, rfl, h⟩ := h
  refine r_if_eq (tgt := 28) dY_starting_10 (by decide) (fun hc => ?_) (fun hc => ?_)
  · replace h := h.1 hc
    refine r_aload_n 0 0 rfl dY_starting_28 rfl ?_
    refine q_getR 48 c84 fY_109 rfl rfl (g84_48 sw1) (by decide) dY_starting_29 ?_
    refine r_iload_n 1 1 rfl dY_starting_32 rfl ?_
    refine q_iaload (w32 a1) rfl c115 h.1 dY_starting_33 ?_
    replace h := h.2
    refine r_bipush (by decide) dY_starting_34 ?_
    refine r_ifc_ne (tgt := 54) dY_starting_36 (by decide) (fun hc => ?_) (fun hc => ?_)
    · replace h := h.1 hc
      refine r_aload_n 0 0 rfl dY_starting_54 rfl ?_
      refine q_getR 48 c84 fY_109 rfl rfl (g84_48 sw1) (by decide) dY_starting_55 ?_
      refine r_iload_n 1 1 rfl dY_starting_58 rfl ?_
      refine q_iaload (w32 a1) rfl c115 h.1 dY_starting_59 ?_
      replace h := h.2
      refine r_bipush (by decide) dY_starting_60 ?_
      refine r_ifc_ne (tgt := 74) dY_starting_62 (by decide) (fun hc => ?_) (fun hc => ?_)
      · replace h := h.1 hc
        refine r_aload_n 0 0 rfl dY_starting_74 rfl ?_
        refine r_iload_n 1 1 rfl dY_starting_75 rfl ?_
        refine r_iload_n 2 2 rfl dY_starting_76 rfl ?_
        refine r_callVi 12 [_, _] rfl c84 rfl rfl oY_plainStarts iY_plainStarts sY_plainStarts yY_368 (by decide) ⟨Nat.le_refl _, Nat.le_refl _⟩ rfl (Nat.le_of_ble_eq_true rfl) dY_starting_77 h (fun z2 r2 m2 h => ?_)
        obtain ⟨sw2, rfl, h⟩ := h
        exact q_iret rfl h dY_starting_80
      · replace h := h.2 hc
        refine r_aload_n 0 0 rfl dY_starting_65 rfl ?_
        refine r_iload_n 1 1 rfl dY_starting_66 rfl ?_
        refine r_iload_n 2 2 rfl dY_starting_67 rfl ?_
        refine r_callVi 12 [_, _] rfl c84 rfl rfl oY_catStarts iY_catStarts sY_catStarts yY_374 (by decide) ⟨Nat.le_refl _, Nat.le_refl _⟩ rfl (Nat.le_of_ble_eq_true rfl) dY_starting_68 h (fun z3 r3 m3 h => ?_)
        obtain ⟨sw3, rfl, h⟩ := h
        refine r_goto (tgt := 80) dY_starting_71 (by decide) ?_
        exact q_iret rfl h dY_starting_80
    · replace h := h.2 hc
      refine r_aload_n 0 0 rfl dY_starting_39 rfl ?_
      refine r_bipush (by decide) dY_starting_40 ?_
      refine r_callVv 12 [_] rfl c84 rfl rfl oY_ran iY_ran sY_ran yY_365 (by decide) ⟨Nat.le_refl _, Nat.le_refl _⟩ rfl (Nat.le_of_ble_eq_true rfl) dY_starting_42 h (fun z4 r4 m4 h => ?_)
      obtain ⟨sw4, rfl, h⟩ := h
      refine r_aload_n 0 0 rfl dY_starting_45 rfl ?_
      refine r_iload_n 1 1 rfl dY_starting_46 rfl ?_
      refine r_iload_n 2 2 rfl dY_starting_47 rfl ?_
      refine r_callVi 12 [_, _] rfl c84 rfl rfl oY_catStarts iY_catStarts sY_catStarts yY_374 (by decide) ⟨Nat.le_refl _, Nat.le_refl _⟩ rfl (Nat.le_of_ble_eq_true rfl) dY_starting_48 h (fun z5 r5 m5 h => ?_)
      obtain ⟨sw5, rfl, h⟩ := h
      refine r_iconst dY_starting_51 ?_
      refine r_isub dY_starting_52 ?_
      exact q_iret rfl h dY_starting_53
  · replace h := h.2 hc
    refine r_aload_n 0 0 rfl dY_starting_13 rfl ?_
    refine r_bipush (by decide) dY_starting_14 ?_
    refine r_callVv 12 [_] rfl c84 rfl rfl oY_ran iY_ran sY_ran yY_365 (by decide) ⟨Nat.le_refl _, Nat.le_refl _⟩ rfl (Nat.le_of_ble_eq_true rfl) dY_starting_16 h (fun z6 r6 m6 h => ?_)
    obtain ⟨sw6, rfl, h⟩ := h
    refine r_aload_n 0 0 rfl dY_starting_19 rfl ?_
    refine r_iload_n 1 1 rfl dY_starting_20 rfl ?_
    refine r_iload_n 2 2 rfl dY_starting_21 rfl ?_
    refine r_callVi 12 [_, _] rfl c84 rfl rfl oY_plainStarts iY_plainStarts sY_plainStarts yY_368 (by decide) ⟨Nat.le_refl _, Nat.le_refl _⟩ rfl (Nat.le_of_ble_eq_true rfl) dY_starting_22 h (fun z7 r7 m7 h => ?_)
    obtain ⟨sw7, rfl, h⟩ := h
    refine r_iconst dY_starting_25 ?_
    refine r_iadd dY_starting_26 ?_
    exact q_iret rfl h dY_starting_27
theorem dY_plainTakes_0 : decode mY_plainTakes.2.1 0 = .ok (.aload_n 0, 1) := by decide +kernel
theorem dY_plainTakes_1 : decode mY_plainTakes.2.1 1 = .ok (.bipush 10, 2) := by decide +kernel
theorem dY_plainTakes_3 : decode mY_plainTakes.2.1 3 = .ok (.invokevirtual 365, 3) := by decide +kernel
theorem dY_plainTakes_6 : decode mY_plainTakes.2.1 6 = .ok (.aload_n 0, 1) := by decide +kernel
theorem dY_plainTakes_7 : decode mY_plainTakes.2.1 7 = .ok (.iload_n 1, 1) := by decide +kernel
theorem dY_plainTakes_8 : decode mY_plainTakes.2.1 8 = .ok (.iload_n 2, 1) := by decide +kernel
theorem dY_plainTakes_9 : decode mY_plainTakes.2.1 9 = .ok (.invokevirtual 377, 3) := by decide +kernel
theorem dY_plainTakes_12 : decode mY_plainTakes.2.1 12 = .ok (.iconst 2, 1) := by decide +kernel
theorem dY_plainTakes_13 : decode mY_plainTakes.2.1 13 = .ok (.imul, 1) := by decide +kernel
theorem dY_plainTakes_14 : decode mY_plainTakes.2.1 14 = .ok (.ireturn, 1) := by decide +kernel
/- Y_plainTakes: (II)I -/
set_option maxRecDepth 4000 in
theorem wY_plainTakes {X : Cx} (a1 a2 : Int) (sw : Bool) (m : Mem) (Q : Int → Bool → Mem → Prop) (h : M2 X 1 mY_ran [vr 84, vi 10] sw m (fun z1 sw1 m1 => M2 X 4 mY_starting [vr 84, vi a1, vi a2] sw1 m1 (fun z2 sw2 m2 => Q (z2 * 2) sw2 m2))) : M2 X 5 mY_plainTakes [vr 84, vi a1, vi a2] sw m Q := by
  refine Mt.of pY_plainTakes (Nat.le_of_ble_eq_true rfl) (Nat.le_refl _) ?_
  show R2 X 5 mY_plainTakes 0 [(0, vr 84), (1, vi a1), (2, vi a2)] [] sw m Q
  refine r_aload_n 0 0 rfl dY_plainTakes_0 rfl ?_
  refine r_bipush (by decide) dY_plainTakes_1 ?_
  refine r_callVv 12 [_] rfl c84 rfl rfl oY_ran iY_ran sY_ran yY_365 (by decide) ⟨Nat.le_refl _, Nat.le_refl _⟩ rfl (Nat.le_of_ble_eq_true rfl) dY_plainTakes_3 h (fun z1 r1 m1 h => ?_)
  obtain ⟨sw1, rfl, h⟩ := h
  refine r_aload_n 0 0 rfl dY_plainTakes_6 rfl ?_
  refine r_iload_n 1 1 rfl dY_plainTakes_7 rfl ?_
  refine r_iload_n 2 2 rfl dY_plainTakes_8 rfl ?_
  refine r_callVi 12 [_, _] rfl c84 rfl rfl oY_starting iY_starting sY_starting yY_377 (by decide) ⟨Nat.le_refl _, Nat.le_refl _⟩ rfl (Nat.le_of_ble_eq_true rfl) dY_plainTakes_9 h (fun z2 r2 m2 h => ?_)
  obtain ⟨sw2, rfl, h⟩ := h
  refine r_iconst dY_plainTakes_12 ?_
  refine r_imul dY_plainTakes_13 ?_
  exact q_iret rfl h dY_plainTakes_14
theorem dY_matchTakes_0 : decode mY_matchTakes.2.1 0 = .ok (.aload_n 0, 1) := by decide +kernel
theorem dY_matchTakes_1 : decode mY_matchTakes.2.1 1 = .ok (.bipush 30, 2) := by decide +kernel
theorem dY_matchTakes_3 : decode mY_matchTakes.2.1 3 = .ok (.invokevirtual 365, 3) := by decide +kernel
theorem dY_matchTakes_6 : decode mY_matchTakes.2.1 6 = .ok (.aload_n 0, 1) := by decide +kernel
theorem dY_matchTakes_7 : decode mY_matchTakes.2.1 7 = .ok (.iload_n 1, 1) := by decide +kernel
theorem dY_matchTakes_8 : decode mY_matchTakes.2.1 8 = .ok (.iload_n 2, 1) := by decide +kernel
theorem dY_matchTakes_9 : decode mY_matchTakes.2.1 9 = .ok (.invokevirtual 380, 3) := by decide +kernel
theorem dY_matchTakes_12 : decode mY_matchTakes.2.1 12 = .ok (.ineg, 1) := by decide +kernel
theorem dY_matchTakes_13 : decode mY_matchTakes.2.1 13 = .ok (.ireturn, 1) := by decide +kernel
/- Y_matchTakes: (II)I -/
set_option maxRecDepth 4000 in
theorem wY_matchTakes {X : Cx} (a1 a2 : Int) (sw : Bool) (m : Mem) (Q : Int → Bool → Mem → Prop) (h : M2 X 1 mY_ran [vr 84, vi 30] sw m (fun z1 sw1 m1 => M2 X 5 mY_plainTakes [vr 84, vi a1, vi a2] sw1 m1 (fun z2 sw2 m2 => Q (-z2) sw2 m2))) : M2 X 6 mY_matchTakes [vr 84, vi a1, vi a2] sw m Q := by
  refine Mt.of pY_matchTakes (Nat.le_of_ble_eq_true rfl) (Nat.le_refl _) ?_
  show R2 X 6 mY_matchTakes 0 [(0, vr 84), (1, vi a1), (2, vi a2)] [] sw m Q
  refine r_aload_n 0 0 rfl dY_matchTakes_0 rfl ?_
  refine r_bipush (by decide) dY_matchTakes_1 ?_
  refine r_callVv 12 [_] rfl c84 rfl rfl oY_ran iY_ran sY_ran yY_365 (by decide) ⟨Nat.le_refl _, Nat.le_refl _⟩ rfl (Nat.le_of_ble_eq_true rfl) dY_matchTakes_3 h (fun z1 r1 m1 h => ?_)
  obtain ⟨sw1, rfl, h⟩ := h
  refine r_aload_n 0 0 rfl dY_matchTakes_6 rfl ?_
  refine r_iload_n 1 1 rfl dY_matchTakes_7 rfl ?_
  refine r_iload_n 2 2 rfl dY_matchTakes_8 rfl ?_
  refine r_callVi 12 [_, _] rfl c84 rfl rfl oY_plainTakes iY_plainTakes sY_plainTakes yY_380 (by decide) ⟨Nat.le_refl _, Nat.le_refl _⟩ rfl (Nat.le_of_ble_eq_true rfl) dY_matchTakes_9 h (fun z2 r2 m2 h => ?_)
  obtain ⟨sw2, rfl, h⟩ := h
  refine r_ineg dY_matchTakes_12 ?_
  exact q_iret rfl h dY_matchTakes_13
theorem dY_taking_0 : decode mY_taking.2.1 0 = .ok (.aload_n 0, 1) := by decide +kernel
theorem dY_taking_1 : decode mY_taking.2.1 1 = .ok (.getfield 109, 3) := by decide +kernel
theorem dY_taking_4 : decode mY_taking.2.1 4 = .ok (.iload_n 1, 1) := by decide +kernel
theorem dY_taking_5 : decode mY_taking.2.1 5 = .ok (.iaload, 1) := by decide +kernel
theorem dY_taking_6 : decode mY_taking.2.1 6 = .ok (.iconst 3, 1) := by decide +kernel
theorem dY_taking_7 : decode mY_taking.2.1 7 = .ok (.invokestatic 371, 3) := by decide +kernel
theorem dY_taking_10 : decode mY_taking.2.1 10 = .ok (.ifCond .eq 18, 3) := by decide +kernel
theorem dY_taking_13 : decode mY_taking.2.1 13 = .ok (.aload_n 0, 1) := by decide +kernel
theorem dY_taking_14 : decode mY_taking.2.1 14 = .ok (.bipush 41, 2) := by decide +kernel
theorem dY_taking_16 : decode mY_taking.2.1 16 = .ok (.invokevirtual 365, 3) := by decide +kernel
theorem dY_taking_19 : decode mY_taking.2.1 19 = .ok (.aload_n 0, 1) := by decide +kernel
theorem dY_taking_20 : decode mY_taking.2.1 20 = .ok (.iload_n 1, 1) := by decide +kernel
theorem dY_taking_21 : decode mY_taking.2.1 21 = .ok (.iload_n 2, 1) := by decide +kernel
theorem dY_taking_22 : decode mY_taking.2.1 22 = .ok (.iconst 1, 1) := by decide +kernel
theorem dY_taking_23 : decode mY_taking.2.1 23 = .ok (.iadd, 1) := by decide +kernel
theorem dY_taking_24 : decode mY_taking.2.1 24 = .ok (.invokevirtual 383, 3) := by decide +kernel
theorem dY_taking_27 : decode mY_taking.2.1 27 = .ok (.ireturn, 1) := by decide +kernel
theorem dY_taking_28 : decode mY_taking.2.1 28 = .ok (.aload_n 0, 1) := by decide +kernel
theorem dY_taking_29 : decode mY_taking.2.1 29 = .ok (.getfield 109, 3) := by decide +kernel
theorem dY_taking_32 : decode mY_taking.2.1 32 = .ok (.iload_n 1, 1) := by decide +kernel
theorem dY_taking_33 : decode mY_taking.2.1 33 = .ok (.iaload, 1) := by decide +kernel
theorem dY_taking_34 : decode mY_taking.2.1 34 = .ok (.bipush 7, 2) := by decide +kernel
theorem dY_taking_36 : decode mY_taking.2.1 36 = .ok (.if_icmp .ne 25, 3) := by decide +kernel
theorem dY_taking_39 : decode mY_taking.2.1 39 = .ok (.aload_n 0, 1) := by decide +kernel
theorem dY_taking_40 : decode mY_taking.2.1 40 = .ok (.bipush 80, 2) := by decide +kernel
theorem dY_taking_42 : decode mY_taking.2.1 42 = .ok (.invokevirtual 365, 3) := by decide +kernel
theorem dY_taking_45 : decode mY_taking.2.1 45 = .ok (.aload_n 0, 1) := by decide +kernel
theorem dY_taking_46 : decode mY_taking.2.1 46 = .ok (.iload_n 1, 1) := by decide +kernel
theorem dY_taking_47 : decode mY_taking.2.1 47 = .ok (.iload_n 2, 1) := by decide +kernel
theorem dY_taking_48 : decode mY_taking.2.1 48 = .ok (.invokevirtual 380, 3) := by decide +kernel
theorem dY_taking_51 : decode mY_taking.2.1 51 = .ok (.istore_n 3, 1) := by decide +kernel
theorem dY_taking_52 : decode mY_taking.2.1 52 = .ok (.iload_n 3, 1) := by decide +kernel
theorem dY_taking_53 : decode mY_taking.2.1 53 = .ok (.aload_n 0, 1) := by decide +kernel
theorem dY_taking_54 : decode mY_taking.2.1 54 = .ok (.iload_n 1, 1) := by decide +kernel
theorem dY_taking_55 : decode mY_taking.2.1 55 = .ok (.iconst 2, 1) := by decide +kernel
theorem dY_taking_56 : decode mY_taking.2.1 56 = .ok (.invokevirtual 386, 3) := by decide +kernel
theorem dY_taking_59 : decode mY_taking.2.1 59 = .ok (.iadd, 1) := by decide +kernel
theorem dY_taking_60 : decode mY_taking.2.1 60 = .ok (.ireturn, 1) := by decide +kernel
theorem dY_taking_61 : decode mY_taking.2.1 61 = .ok (.aload_n 0, 1) := by decide +kernel
theorem dY_taking_62 : decode mY_taking.2.1 62 = .ok (.getfield 109, 3) := by decide +kernel
theorem dY_taking_65 : decode mY_taking.2.1 65 = .ok (.iload_n 1, 1) := by decide +kernel
theorem dY_taking_66 : decode mY_taking.2.1 66 = .ok (.iaload, 1) := by decide +kernel
theorem dY_taking_67 : decode mY_taking.2.1 67 = .ok (.iconst 2, 1) := by decide +kernel
theorem dY_taking_68 : decode mY_taking.2.1 68 = .ok (.if_icmp .ne 12, 3) := by decide +kernel
theorem dY_taking_71 : decode mY_taking.2.1 71 = .ok (.aload_n 0, 1) := by decide +kernel
theorem dY_taking_72 : decode mY_taking.2.1 72 = .ok (.iload_n 1, 1) := by decide +kernel
theorem dY_taking_73 : decode mY_taking.2.1 73 = .ok (.iload_n 2, 1) := by decide +kernel
theorem dY_taking_74 : decode mY_taking.2.1 74 = .ok (.invokevirtual 383, 3) := by decide +kernel
theorem dY_taking_77 : decode mY_taking.2.1 77 = .ok (.goto 9, 3) := by decide +kernel
theorem dY_taking_80 : decode mY_taking.2.1 80 = .ok (.aload_n 0, 1) := by decide +kernel
theorem dY_taking_81 : decode mY_taking.2.1 81 = .ok (.iload_n 1, 1) := by decide +kernel
theorem dY_taking_82 : decode mY_taking.2.1 82 = .ok (.iload_n 2, 1) := by decide +kernel
theorem dY_taking_83 : decode mY_taking.2.1 83 = .ok (.invokevirtual 380, 3) := by decide +kernel
theorem dY_taking_86 : decode mY_taking.2.1 86 = .ok (.ireturn, 1) := by decide +kernel
/- Y_taking: (II)I -/
set_option maxRecDepth 4000 in
theorem wY_taking {X : Cx} (a1 a2 : Int) (sw : Bool) (m : Mem) (Q : Int → Bool → Mem → Prop) (h : ((0 ≤ w32 a1 ∧ w32 a1 < 50) ∧ M2 X 1 mY_isUnder [vi (m 115 (w32 a1)), vi 3] sw m (fun z1 sw1 m1 => ((w32 z1 = 0 → ((0 ≤ w32 a1 ∧ w32 a1 < 50) ∧ ((¬ w32 (m1 115 (w32 a1)) = 7 → ((0 ≤ w32 a1 ∧ w32 a1 < 50) ∧ ((¬ w32 (m1 115 (w32 a1)) = 2 → M2 X 5 mY_plainTakes [vr 84, vi a1, vi a2] sw1 m1 (fun z2 sw2 m2 => Q z2 sw2 m2)) ∧ (¬ (¬ w32 (m1 115 (w32 a1)) = 2) → M2 X 6 mY_matchTakes [vr 84, vi a1, vi a2] sw1 m1 (fun z3 sw3 m3 => Q z3 sw3 m3))))) ∧ (¬ (¬ w32 (m1 115 (w32 a1)) = 7) → M2 X 1 mY_ran [vr 84, vi 80] sw1 m1 (fun z4 sw4 m4 => M2 X 5 mY_plainTakes [vr 84, vi a1, vi a2] sw4 m4 (fun z5 sw5 m5 => M2 X 5 mY_failing [vr 84, vi a1, vi 2] sw5 m5 (fun z6 sw6 m6 => Q (z5 + z6) sw6 m6))))))) ∧ (¬ (w32 z1 = 0) → M2 X 1 mY_ran [vr 84, vi 41] sw1 m1 (fun z7 sw7 m7 => M2 X 6 mY_matchTakes [vr 84, vi a1, vi (a2 + 1)] sw7 m7 (fun z8 sw8 m8 => Q z8 sw8 m8))))))) : M2 X 7 mY_taking [vr 84, vi a1, vi a2] sw m Q := by
  refine Mt.of pY_taking (Nat.le_of_ble_eq_true rfl) (Nat.le_refl _) ?_
  show R2 X 7 mY_taking 0 [(0, vr 84), (1, vi a1), (2, vi a2)] [] sw m Q
  refine r_aload_n 0 0 rfl dY_taking_0 rfl ?_
  refine q_getR 48 c84 fY_109 rfl rfl (g84_48 sw) (by decide) dY_taking_1 ?_
  refine r_iload_n 1 1 rfl dY_taking_4 rfl ?_
  refine q_iaload (w32 a1) rfl c115 h.1 dY_taking_5 ?_
  replace h := h.2
  refine r_iconst dY_taking_6 ?_
  refine r_callSb [_, _] rfl oY_isUnder iY_isUnder yY_371 (by decide) ⟨Nat.le_refl _, Nat.le_refl _⟩ rfl (Nat.le_of_ble_eq_true rfl) dY_taking_7 h (fun z1 r1 m1 h => ?_)
  obtain ⟨sw1, rfl, h⟩ := h
  refine r_if_eq (tgt := 28) dY_taking_10 (by decide) (fun hc => ?_) (fun hc => ?_)
  · replace h := h.1 hc
    refine r_aload_n 0 0 rfl dY_taking_28 rfl ?_
    refine q_getR 48 c84 fY_109 rfl rfl (g84_48 sw1) (by decide) dY_taking_29 ?_
    refine r_iload_n 1 1 rfl dY_taking_32 rfl ?_
    refine q_iaload (w32 a1) rfl c115 h.1 dY_taking_33 ?_
    replace h := h.2
    refine r_bipush (by decide) dY_taking_34 ?_
    refine r_ifc_ne (tgt := 61) dY_taking_36 (by decide) (fun hc => ?_) (fun hc => ?_)
    · replace h := h.1 hc
      refine r_aload_n 0 0 rfl dY_taking_61 rfl ?_
      refine q_getR 48 c84 fY_109 rfl rfl (g84_48 sw1) (by decide) dY_taking_62 ?_
      refine r_iload_n 1 1 rfl dY_taking_65 rfl ?_
      refine q_iaload (w32 a1) rfl c115 h.1 dY_taking_66 ?_
      replace h := h.2
      refine r_iconst dY_taking_67 ?_
      refine r_ifc_ne (tgt := 80) dY_taking_68 (by decide) (fun hc => ?_) (fun hc => ?_)
      · replace h := h.1 hc
        refine r_aload_n 0 0 rfl dY_taking_80 rfl ?_
        refine r_iload_n 1 1 rfl dY_taking_81 rfl ?_
        refine r_iload_n 2 2 rfl dY_taking_82 rfl ?_
        refine r_callVi 12 [_, _] rfl c84 rfl rfl oY_plainTakes iY_plainTakes sY_plainTakes yY_380 (by decide) ⟨Nat.le_refl _, Nat.le_refl _⟩ rfl (Nat.le_of_ble_eq_true rfl) dY_taking_83 h (fun z2 r2 m2 h => ?_)
        obtain ⟨sw2, rfl, h⟩ := h
        exact q_iret rfl h dY_taking_86
      · replace h := h.2 hc
        refine r_aload_n 0 0 rfl dY_taking_71 rfl ?_
        refine r_iload_n 1 1 rfl dY_taking_72 rfl ?_
        refine r_iload_n 2 2 rfl dY_taking_73 rfl ?_
        refine r_callVi 12 [_, _] rfl c84 rfl rfl oY_matchTakes iY_matchTakes sY_matchTakes yY_383 (by decide) ⟨Nat.le_refl _, Nat.le_refl _⟩ rfl (Nat.le_of_ble_eq_true rfl) dY_taking_74 h (fun z3 r3 m3 h => ?_)
        obtain ⟨sw3, rfl, h⟩ := h
        refine r_goto (tgt := 86) dY_taking_77 (by decide) ?_
        exact q_iret rfl h dY_taking_86
    · replace h := h.2 hc
      refine r_aload_n 0 0 rfl dY_taking_39 rfl ?_
      refine r_bipush (by decide) dY_taking_40 ?_
      refine r_callVv 12 [_] rfl c84 rfl rfl oY_ran iY_ran sY_ran yY_365 (by decide) ⟨Nat.le_refl _, Nat.le_refl _⟩ rfl (Nat.le_of_ble_eq_true rfl) dY_taking_42 h (fun z4 r4 m4 h => ?_)
      obtain ⟨sw4, rfl, h⟩ := h
      refine r_aload_n 0 0 rfl dY_taking_45 rfl ?_
      refine r_iload_n 1 1 rfl dY_taking_46 rfl ?_
      refine r_iload_n 2 2 rfl dY_taking_47 rfl ?_
      refine r_callVi 12 [_, _] rfl c84 rfl rfl oY_plainTakes iY_plainTakes sY_plainTakes yY_380 (by decide) ⟨Nat.le_refl _, Nat.le_refl _⟩ rfl (Nat.le_of_ble_eq_true rfl) dY_taking_48 h (fun z5 r5 m5 h => ?_)
      obtain ⟨sw5, rfl, h⟩ := h
      refine r_istore_n 3 (by decide) dY_taking_51 rfl ?_
      refine r_iload_n 3 0 rfl dY_taking_52 rfl ?_
      refine r_aload_n 0 1 rfl dY_taking_53 rfl ?_
      refine r_iload_n 1 2 rfl dY_taking_54 rfl ?_
      refine r_iconst dY_taking_55 ?_
      refine r_callVi 12 [_, _] rfl c84 rfl rfl oY_failing iY_failing sY_failing yY_386 (by decide) ⟨Nat.le_refl _, Nat.le_refl _⟩ rfl (Nat.le_of_ble_eq_true rfl) dY_taking_56 h (fun z6 r6 m6 h => ?_)
      obtain ⟨sw6, rfl, h⟩ := h
      refine r_iadd dY_taking_59 ?_
      exact q_iret rfl h dY_taking_60
  · replace h := h.2 hc
    refine r_aload_n 0 0 rfl dY_taking_13 rfl ?_
    refine r_bipush (by decide) dY_taking_14 ?_
    refine r_callVv 12 [_] rfl c84 rfl rfl oY_ran iY_ran sY_ran yY_365 (by decide) ⟨Nat.le_refl _, Nat.le_refl _⟩ rfl (Nat.le_of_ble_eq_true rfl) dY_taking_16 h (fun z7 r7 m7 h => ?_)
    obtain ⟨sw7, rfl, h⟩ := h
    refine r_aload_n 0 0 rfl dY_taking_19 rfl ?_
    refine r_iload_n 1 1 rfl dY_taking_20 rfl ?_
    refine r_iload_n 2 2 rfl dY_taking_21 rfl ?_
    refine r_iconst dY_taking_22 ?_
    refine r_iadd dY_taking_23 ?_
    refine r_callVi 12 [_, _] rfl c84 rfl rfl oY_matchTakes iY_matchTakes sY_matchTakes yY_383 (by decide) ⟨Nat.le_refl _, Nat.le_refl _⟩ rfl (Nat.le_of_ble_eq_true rfl) dY_taking_24 h (fun z8 r8 m8 h => ?_)
    obtain ⟨sw8, rfl, h⟩ := h
    exact q_iret rfl h dY_taking_27
theorem dY_plainFails_0 : decode mY_plainFails.2.1 0 = .ok (.aload_n 0, 1) := by decide +kernel
theorem dY_plainFails_1 : decode mY_plainFails.2.1 1 = .ok (.bipush 11, 2) := by decide +kernel
theorem dY_plainFails_3 : decode mY_plainFails.2.1 3 = .ok (.invokevirtual 365, 3) := by decide +kernel
theorem dY_plainFails_6 : decode mY_plainFails.2.1 6 = .ok (.iload_n 2, 1) := by decide +kernel
theorem dY_plainFails_7 : decode mY_plainFails.2.1 7 = .ok (.iload_n 1, 1) := by decide +kernel
theorem dY_plainFails_8 : decode mY_plainFails.2.1 8 = .ok (.ixor, 1) := by decide +kernel
theorem dY_plainFails_9 : decode mY_plainFails.2.1 9 = .ok (.ireturn, 1) := by decide +kernel
/- Y_plainFails: (II)I -/
set_option maxRecDepth 4000 in
theorem wY_plainFails {X : Cx} (a1 a2 : Int) (sw : Bool) (m : Mem) (Q : Int → Bool → Mem → Prop) (h : M2 X 1 mY_ran [vr 84, vi 11] sw m (fun z1 sw1 m1 => Q (zxor a2 a1) sw1 m1)) : M2 X 2 mY_plainFails [vr 84, vi a1, vi a2] sw m Q := by
  refine Mt.of pY_plainFails (Nat.le_of_ble_eq_true rfl) (Nat.le_refl _) ?_
  show R2 X 2 mY_plainFails 0 [(0, vr 84), (1, vi a1), (2, vi a2)] [] sw m Q
  refine r_aload_n 0 0 rfl dY_plainFails_0 rfl ?_
  refine r_bipush (by decide) dY_plainFails_1 ?_
  refine r_callVv 12 [_] rfl c84 rfl rfl oY_ran iY_ran sY_ran yY_365 (by decide) ⟨Nat.le_refl _, Nat.le_refl _⟩ rfl (Nat.le_of_ble_eq_true rfl) dY_plainFails_3 h (fun z1 r1 m1 h => ?_)
  obtain ⟨sw1, rfl, h⟩ := h
  refine r_iload_n 2 2 rfl dY_plainFails_6 rfl ?_
  refine r_iload_n 1 1 rfl dY_plainFails_7 rfl ?_
  refine r_ixor dY_plainFails_8 ?_
  exact q_iret rfl h dY_plainFails_9
theorem dY_leverFails_0 : decode mY_leverFails.2.1 0 = .ok (.aload_n 0, 1) := by decide +kernel
theorem dY_leverFails_1 : decode mY_leverFails.2.1 1 = .ok (.bipush 40, 2) := by decide +kernel
theorem dY_leverFails_3 : decode mY_leverFails.2.1 3 = .ok (.invokevirtual 365, 3) := by decide +kernel
theorem dY_leverFails_6 : decode mY_leverFails.2.1 6 = .ok (.aload_n 0, 1) := by decide +kernel
theorem dY_leverFails_7 : decode mY_leverFails.2.1 7 = .ok (.iload_n 1, 1) := by decide +kernel
theorem dY_leverFails_8 : decode mY_leverFails.2.1 8 = .ok (.iload_n 2, 1) := by decide +kernel
theorem dY_leverFails_9 : decode mY_leverFails.2.1 9 = .ok (.invokevirtual 389, 3) := by decide +kernel
theorem dY_leverFails_12 : decode mY_leverFails.2.1 12 = .ok (.iconst 3, 1) := by decide +kernel
theorem dY_leverFails_13 : decode mY_leverFails.2.1 13 = .ok (.imul, 1) := by decide +kernel
theorem dY_leverFails_14 : decode mY_leverFails.2.1 14 = .ok (.ireturn, 1) := by decide +kernel
/- Y_leverFails: (II)I -/
set_option maxRecDepth 4000 in
theorem wY_leverFails {X : Cx} (a1 a2 : Int) (sw : Bool) (m : Mem) (Q : Int → Bool → Mem → Prop) (h : M2 X 1 mY_ran [vr 84, vi 40] sw m (fun z1 sw1 m1 => M2 X 2 mY_plainFails [vr 84, vi a1, vi a2] sw1 m1 (fun z2 sw2 m2 => Q (z2 * 3) sw2 m2))) : M2 X 3 mY_leverFails [vr 84, vi a1, vi a2] sw m Q := by
  refine Mt.of pY_leverFails (Nat.le_of_ble_eq_true rfl) (Nat.le_refl _) ?_
  show R2 X 3 mY_leverFails 0 [(0, vr 84), (1, vi a1), (2, vi a2)] [] sw m Q
  refine r_aload_n 0 0 rfl dY_leverFails_0 rfl ?_
  refine r_bipush (by decide) dY_leverFails_1 ?_
  refine r_callVv 12 [_] rfl c84 rfl rfl oY_ran iY_ran sY_ran yY_365 (by decide) ⟨Nat.le_refl _, Nat.le_refl _⟩ rfl (Nat.le_of_ble_eq_true rfl) dY_leverFails_3 h (fun z1 r1 m1 h => ?_)
  obtain ⟨sw1, rfl, h⟩ := h
  refine r_aload_n 0 0 rfl dY_leverFails_6 rfl ?_
  refine r_iload_n 1 1 rfl dY_leverFails_7 rfl ?_
  refine r_iload_n 2 2 rfl dY_leverFails_8 rfl ?_
  refine r_callVi 12 [_, _] rfl c84 rfl rfl oY_plainFails iY_plainFails sY_plainFails yY_389 (by decide) ⟨Nat.le_refl _, Nat.le_refl _⟩ rfl (Nat.le_of_ble_eq_true rfl) dY_leverFails_9 h (fun z2 r2 m2 h => ?_)
  obtain ⟨sw2, rfl, h⟩ := h
  refine r_iconst dY_leverFails_12 ?_
  refine r_imul dY_leverFails_13 ?_
  exact q_iret rfl h dY_leverFails_14
theorem dY_failing_0 : decode mY_failing.2.1 0 = .ok (.aload_n 0, 1) := by decide +kernel
theorem dY_failing_1 : decode mY_failing.2.1 1 = .ok (.getfield 109, 3) := by decide +kernel
theorem dY_failing_4 : decode mY_failing.2.1 4 = .ok (.iload_n 1, 1) := by decide +kernel
theorem dY_failing_5 : decode mY_failing.2.1 5 = .ok (.iaload, 1) := by decide +kernel
theorem dY_failing_6 : decode mY_failing.2.1 6 = .ok (.iconst 5, 1) := by decide +kernel
theorem dY_failing_7 : decode mY_failing.2.1 7 = .ok (.if_icmp .ne 25, 3) := by decide +kernel
theorem dY_failing_10 : decode mY_failing.2.1 10 = .ok (.aload_n 0, 1) := by decide +kernel
theorem dY_failing_11 : decode mY_failing.2.1 11 = .ok (.bipush 60, 2) := by decide +kernel
theorem dY_failing_13 : decode mY_failing.2.1 13 = .ok (.invokevirtual 365, 3) := by decide +kernel
theorem dY_failing_16 : decode mY_failing.2.1 16 = .ok (.aload_n 0, 1) := by decide +kernel
theorem dY_failing_17 : decode mY_failing.2.1 17 = .ok (.iload_n 1, 1) := by decide +kernel
theorem dY_failing_18 : decode mY_failing.2.1 18 = .ok (.iload_n 2, 1) := by decide +kernel
theorem dY_failing_19 : decode mY_failing.2.1 19 = .ok (.invokevirtual 392, 3) := by decide +kernel
theorem dY_failing_22 : decode mY_failing.2.1 22 = .ok (.istore_n 3, 1) := by decide +kernel
theorem dY_failing_23 : decode mY_failing.2.1 23 = .ok (.iload_n 3, 1) := by decide +kernel
theorem dY_failing_24 : decode mY_failing.2.1 24 = .ok (.aload_n 0, 1) := by decide +kernel
theorem dY_failing_25 : decode mY_failing.2.1 25 = .ok (.iload_n 1, 1) := by decide +kernel
theorem dY_failing_26 : decode mY_failing.2.1 26 = .ok (.iconst 2, 1) := by decide +kernel
theorem dY_failing_27 : decode mY_failing.2.1 27 = .ok (.invokevirtual 377, 3) := by decide +kernel
theorem dY_failing_30 : decode mY_failing.2.1 30 = .ok (.isub, 1) := by decide +kernel
theorem dY_failing_31 : decode mY_failing.2.1 31 = .ok (.ireturn, 1) := by decide +kernel
theorem dY_failing_32 : decode mY_failing.2.1 32 = .ok (.aload_n 0, 1) := by decide +kernel
theorem dY_failing_33 : decode mY_failing.2.1 33 = .ok (.getfield 109, 3) := by decide +kernel
theorem dY_failing_36 : decode mY_failing.2.1 36 = .ok (.iload_n 1, 1) := by decide +kernel
theorem dY_failing_37 : decode mY_failing.2.1 37 = .ok (.iaload, 1) := by decide +kernel
theorem dY_failing_38 : decode mY_failing.2.1 38 = .ok (.iconst 3, 1) := by decide +kernel
theorem dY_failing_39 : decode mY_failing.2.1 39 = .ok (.if_icmp .ne 12, 3) := by decide +kernel
theorem dY_failing_42 : decode mY_failing.2.1 42 = .ok (.aload_n 0, 1) := by decide +kernel
theorem dY_failing_43 : decode mY_failing.2.1 43 = .ok (.iload_n 1, 1) := by decide +kernel
theorem dY_failing_44 : decode mY_failing.2.1 44 = .ok (.iload_n 2, 1) := by decide +kernel
theorem dY_failing_45 : decode mY_failing.2.1 45 = .ok (.invokevirtual 392, 3) := by decide +kernel
theorem dY_failing_48 : decode mY_failing.2.1 48 = .ok (.goto 9, 3) := by decide +kernel
theorem dY_failing_51 : decode mY_failing.2.1 51 = .ok (.aload_n 0, 1) := by decide +kernel
theorem dY_failing_52 : decode mY_failing.2.1 52 = .ok (.iload_n 1, 1) := by decide +kernel
theorem dY_failing_53 : decode mY_failing.2.1 53 = .ok (.iload_n 2, 1) := by decide +kernel
theorem dY_failing_54 : decode mY_failing.2.1 54 = .ok (.invokevirtual 389, 3) := by decide +kernel
theorem dY_failing_57 : decode mY_failing.2.1 57 = .ok (.ireturn, 1) := by decide +kernel
/- Y_failing: (II)I -/
set_option maxRecDepth 4000 in
theorem wY_failing {X : Cx} (a1 a2 : Int) (sw : Bool) (m : Mem) (Q : Int → Bool → Mem → Prop) (h : ((0 ≤ w32 a1 ∧ w32 a1 < 50) ∧ ((¬ w32 (m 115 (w32 a1)) = 5 → ((0 ≤ w32 a1 ∧ w32 a1 < 50) ∧ ((¬ w32 (m 115 (w32 a1)) = 3 → M2 X 2 mY_plainFails [vr 84, vi a1, vi a2] sw m (fun z1 sw1 m1 => Q z1 sw1 m1)) ∧ (¬ (¬ w32 (m 115 (w32 a1)) = 3) → M2 X 3 mY_leverFails [vr 84, vi a1, vi a2] sw m (fun z2 sw2 m2 => Q z2 sw2 m2))))) ∧ (¬ (¬ w32 (m 115 (w32 a1)) = 5) → M2 X 1 mY_ran [vr 84, vi 60] sw m (fun z3 sw3 m3 => M2 X 3 mY_leverFails [vr 84, vi a1, vi a2] sw3 m3 (fun z4 sw4 m4 => M2 X 4 mY_starting [vr 84, vi a1, vi 2] sw4 m4 (fun z5 sw5 m5 => Q (z4 - z5) sw5 m5))))))) : M2 X 5 mY_failing [vr 84, vi a1, vi a2] sw m Q := by
  refine Mt.of pY_failing (Nat.le_of_ble_eq_true rfl) (Nat.le_refl _) ?_
  show R2 X 5 mY_failing 0 [(0, vr 84), (1, vi a1), (2, vi a2)] [] sw m Q
  refine r_aload_n 0 0 rfl dY_failing_0 rfl ?_
  refine q_getR 48 c84 fY_109 rfl rfl (g84_48 sw) (by decide) dY_failing_1 ?_
  refine r_iload_n 1 1 rfl dY_failing_4 rfl ?_
  refine q_iaload (w32 a1) rfl c115 h.1 dY_failing_5 ?_
  replace h := h.2
  refine r_iconst dY_failing_6 ?_
  refine r_ifc_ne (tgt := 32) dY_failing_7 (by decide) (fun hc => ?_) (fun hc => ?_)
  · replace h := h.1 hc
    refine r_aload_n 0 0 rfl dY_failing_32 rfl ?_
    refine q_getR 48 c84 fY_109 rfl rfl (g84_48 sw) (by decide) dY_failing_33 ?_
    refine r_iload_n 1 1 rfl dY_failing_36 rfl ?_
    refine q_iaload (w32 a1) rfl c115 h.1 dY_failing_37 ?_
    replace h := h.2
    refine r_iconst dY_failing_38 ?_
    refine r_ifc_ne (tgt := 51) dY_failing_39 (by decide) (fun hc => ?_) (fun hc => ?_)
    · replace h := h.1 hc
      refine r_aload_n 0 0 rfl dY_failing_51 rfl ?_
      refine r_iload_n 1 1 rfl dY_failing_52 rfl ?_
      refine r_iload_n 2 2 rfl dY_failing_53 rfl ?_
      refine r_callVi 12 [_, _] rfl c84 rfl rfl oY_plainFails iY_plainFails sY_plainFails yY_389 (by decide) ⟨Nat.le_refl _, Nat.le_refl _⟩ rfl (Nat.le_of_ble_eq_true rfl) dY_failing_54 h (fun z1 r1 m1 h => ?_)
      obtain ⟨sw1, rfl, h⟩ := h
      exact q_iret rfl h dY_failing_57
    · replace h := h.2 hc
      refine r_aload_n 0 0 rfl dY_failing_42 rfl ?_
      refine r_iload_n 1 1 rfl dY_failing_43 rfl ?_
      refine r_iload_n 2 2 rfl dY_failing_44 rfl ?_
      refine r_callVi 12 [_, _] rfl c84 rfl rfl oY_leverFails iY_leverFails sY_leverFails yY_392 (by decide) ⟨Nat.le_refl _, Nat.le_refl _⟩ rfl (Nat.le_of_ble_eq_true rfl) dY_failing_45 h (fun z2 r2 m2 h => ?_)
      obtain ⟨sw2, rfl, h⟩ := h
      refine r_goto (tgt := 57) dY_failing_48 (by decide) ?_
      exact q_iret rfl h dY_failing_57
  · replace h := h.2 hc
    refine r_aload_n 0 0 rfl dY_failing_10 rfl ?_
    refine r_bipush (by decide) dY_failing_11 ?_
    refine r_callVv 12 [_] rfl c84 rfl rfl oY_ran iY_ran sY_ran yY_365 (by decide) ⟨Nat.le_refl _, Nat.le_refl _⟩ rfl (Nat.le_of_ble_eq_true rfl) dY_failing_13 h (fun z3 r3 m3 h => ?_)
    obtain ⟨sw3, rfl, h⟩ := h
    refine r_aload_n 0 0 rfl dY_failing_16 rfl ?_
    refine r_iload_n 1 1 rfl dY_failing_17 rfl ?_
    refine r_iload_n 2 2 rfl dY_failing_18 rfl ?_
    refine r_callVi 12 [_, _] rfl c84 rfl rfl oY_leverFails iY_leverFails sY_leverFails yY_392 (by decide) ⟨Nat.le_refl _, Nat.le_refl _⟩ rfl (Nat.le_of_ble_eq_true rfl) dY_failing_19 h (fun z4 r4 m4 h => ?_)
    obtain ⟨sw4, rfl, h⟩ := h
    refine r_istore_n 3 (by decide) dY_failing_22 rfl ?_
    refine r_iload_n 3 0 rfl dY_failing_23 rfl ?_
    refine r_aload_n 0 1 rfl dY_failing_24 rfl ?_
    refine r_iload_n 1 2 rfl dY_failing_25 rfl ?_
    refine r_iconst dY_failing_26 ?_
    refine r_callVi 12 [_, _] rfl c84 rfl rfl oY_starting iY_starting sY_starting yY_377 (by decide) ⟨Nat.le_refl _, Nat.le_refl _⟩ rfl (Nat.le_of_ble_eq_true rfl) dY_failing_27 h (fun z5 r5 m5 h => ?_)
    obtain ⟨sw5, rfl, h⟩ := h
    refine r_isub dY_failing_30 ?_
    exact q_iret rfl h dY_failing_31
theorem dY_plainTells_0 : decode mY_plainTells.2.1 0 = .ok (.aload_n 0, 1) := by decide +kernel
theorem dY_plainTells_1 : decode mY_plainTells.2.1 1 = .ok (.iconst 2, 1) := by decide +kernel
theorem dY_plainTells_2 : decode mY_plainTells.2.1 2 = .ok (.invokevirtual 365, 3) := by decide +kernel
theorem dY_plainTells_5 : decode mY_plainTells.2.1 5 = .ok (.aload_n 0, 1) := by decide +kernel
theorem dY_plainTells_6 : decode mY_plainTells.2.1 6 = .ok (.iload_n 1, 1) := by decide +kernel
theorem dY_plainTells_7 : decode mY_plainTells.2.1 7 = .ok (.iload_n 2, 1) := by decide +kernel
theorem dY_plainTells_8 : decode mY_plainTells.2.1 8 = .ok (.invokevirtual 395, 3) := by decide +kernel
theorem dY_plainTells_11 : decode mY_plainTells.2.1 11 = .ok (.istore_n 3, 1) := by decide +kernel
theorem dY_plainTells_12 : decode mY_plainTells.2.1 12 = .ok (.iload_n 3, 1) := by decide +kernel
theorem dY_plainTells_13 : decode mY_plainTells.2.1 13 = .ok (.aload_n 0, 1) := by decide +kernel
theorem dY_plainTells_14 : decode mY_plainTells.2.1 14 = .ok (.iload_n 1, 1) := by decide +kernel
theorem dY_plainTells_15 : decode mY_plainTells.2.1 15 = .ok (.iconst 1, 1) := by decide +kernel
theorem dY_plainTells_16 : decode mY_plainTells.2.1 16 = .ok (.invokevirtual 386, 3) := by decide +kernel
theorem dY_plainTells_19 : decode mY_plainTells.2.1 19 = .ok (.isub, 1) := by decide +kernel
theorem dY_plainTells_20 : decode mY_plainTells.2.1 20 = .ok (.ireturn, 1) := by decide +kernel
/- Y_plainTells: (II)I -/
set_option maxRecDepth 4000 in
theorem wY_plainTells {X : Cx} (a1 a2 : Int) (sw : Bool) (m : Mem) (Q : Int → Bool → Mem → Prop) (h : M2 X 1 mY_ran [vr 84, vi 2] sw m (fun z1 sw1 m1 => M2 X 7 mY_taking [vr 84, vi a1, vi a2] sw1 m1 (fun z2 sw2 m2 => M2 X 5 mY_failing [vr 84, vi a1, vi 1] sw2 m2 (fun z3 sw3 m3 => Q (z2 - z3) sw3 m3)))) : M2 X 8 mY_plainTells [vr 84, vi a1, vi a2] sw m Q := by
  refine Mt.of pY_plainTells (Nat.le_of_ble_eq_true rfl) (Nat.le_refl _) ?_
  show R2 X 8 mY_plainTells 0 [(0, vr 84), (1, vi a1), (2, vi a2)] [] sw m Q
  refine r_aload_n 0 0 rfl dY_plainTells_0 rfl ?_
  refine r_iconst dY_plainTells_1 ?_
  refine r_callVv 12 [_] rfl c84 rfl rfl oY_ran iY_ran sY_ran yY_365 (by decide) ⟨Nat.le_refl _, Nat.le_refl _⟩ rfl (Nat.le_of_ble_eq_true rfl) dY_plainTells_2 h (fun z1 r1 m1 h => ?_)
  obtain ⟨sw1, rfl, h⟩ := h
  refine r_aload_n 0 0 rfl dY_plainTells_5 rfl ?_
  refine r_iload_n 1 1 rfl dY_plainTells_6 rfl ?_
  refine r_iload_n 2 2 rfl dY_plainTells_7 rfl ?_
  refine r_callVi 12 [_, _] rfl c84 rfl rfl oY_taking iY_taking sY_taking yY_395 (by decide) ⟨Nat.le_refl _, Nat.le_refl _⟩ rfl (Nat.le_of_ble_eq_true rfl) dY_plainTells_8 h (fun z2 r2 m2 h => ?_)
  obtain ⟨sw2, rfl, h⟩ := h
  refine r_istore_n 3 (by decide) dY_plainTells_11 rfl ?_
  refine r_iload_n 3 0 rfl dY_plainTells_12 rfl ?_
  refine r_aload_n 0 1 rfl dY_plainTells_13 rfl ?_
  refine r_iload_n 1 2 rfl dY_plainTells_14 rfl ?_
  refine r_iconst dY_plainTells_15 ?_
  refine r_callVi 12 [_, _] rfl c84 rfl rfl oY_failing iY_failing sY_failing yY_386 (by decide) ⟨Nat.le_refl _, Nat.le_refl _⟩ rfl (Nat.le_of_ble_eq_true rfl) dY_plainTells_16 h (fun z3 r3 m3 h => ?_)
  obtain ⟨sw3, rfl, h⟩ := h
  refine r_isub dY_plainTells_19 ?_
  exact q_iret rfl h dY_plainTells_20
theorem dY_telling_0 : decode mY_telling.2.1 0 = .ok (.aload_n 0, 1) := by decide +kernel
theorem dY_telling_1 : decode mY_telling.2.1 1 = .ok (.getfield 109, 3) := by decide +kernel
theorem dY_telling_4 : decode mY_telling.2.1 4 = .ok (.iload_n 1, 1) := by decide +kernel
theorem dY_telling_5 : decode mY_telling.2.1 5 = .ok (.iaload, 1) := by decide +kernel
theorem dY_telling_6 : decode mY_telling.2.1 6 = .ok (.iconst 4, 1) := by decide +kernel
theorem dY_telling_7 : decode mY_telling.2.1 7 = .ok (.if_icmp .ne 18, 3) := by decide +kernel
theorem dY_telling_10 : decode mY_telling.2.1 10 = .ok (.aload_n 0, 1) := by decide +kernel
theorem dY_telling_11 : decode mY_telling.2.1 11 = .ok (.bipush 50, 2) := by decide +kernel
theorem dY_telling_13 : decode mY_telling.2.1 13 = .ok (.invokevirtual 365, 3) := by decide +kernel
theorem dY_telling_16 : decode mY_telling.2.1 16 = .ok (.aload_n 0, 1) := by decide +kernel
theorem dY_telling_17 : decode mY_telling.2.1 17 = .ok (.iload_n 1, 1) := by decide +kernel
theorem dY_telling_18 : decode mY_telling.2.1 18 = .ok (.iload_n 2, 1) := by decide +kernel
theorem dY_telling_19 : decode mY_telling.2.1 19 = .ok (.invokevirtual 398, 3) := by decide +kernel
theorem dY_telling_22 : decode mY_telling.2.1 22 = .ok (.iconst 5, 1) := by decide +kernel
theorem dY_telling_23 : decode mY_telling.2.1 23 = .ok (.ixor, 1) := by decide +kernel
theorem dY_telling_24 : decode mY_telling.2.1 24 = .ok (.ireturn, 1) := by decide +kernel
theorem dY_telling_25 : decode mY_telling.2.1 25 = .ok (.aload_n 0, 1) := by decide +kernel
theorem dY_telling_26 : decode mY_telling.2.1 26 = .ok (.getfield 109, 3) := by decide +kernel
theorem dY_telling_29 : decode mY_telling.2.1 29 = .ok (.iload_n 1, 1) := by decide +kernel
theorem dY_telling_30 : decode mY_telling.2.1 30 = .ok (.iaload, 1) := by decide +kernel
theorem dY_telling_31 : decode mY_telling.2.1 31 = .ok (.iconst 5, 1) := by decide +kernel
theorem dY_telling_32 : decode mY_telling.2.1 32 = .ok (.if_icmp .ne 18, 3) := by decide +kernel
theorem dY_telling_35 : decode mY_telling.2.1 35 = .ok (.aload_n 0, 1) := by decide +kernel
theorem dY_telling_36 : decode mY_telling.2.1 36 = .ok (.bipush 61, 2) := by decide +kernel
theorem dY_telling_38 : decode mY_telling.2.1 38 = .ok (.invokevirtual 365, 3) := by decide +kernel
theorem dY_telling_41 : decode mY_telling.2.1 41 = .ok (.aload_n 0, 1) := by decide +kernel
theorem dY_telling_42 : decode mY_telling.2.1 42 = .ok (.iload_n 1, 1) := by decide +kernel
theorem dY_telling_43 : decode mY_telling.2.1 43 = .ok (.iload_n 2, 1) := by decide +kernel
theorem dY_telling_44 : decode mY_telling.2.1 44 = .ok (.invokevirtual 398, 3) := by decide +kernel
theorem dY_telling_47 : decode mY_telling.2.1 47 = .ok (.iconst 1, 1) := by decide +kernel
theorem dY_telling_48 : decode mY_telling.2.1 48 = .ok (.iadd, 1) := by decide +kernel
theorem dY_telling_49 : decode mY_telling.2.1 49 = .ok (.ireturn, 1) := by decide +kernel
theorem dY_telling_50 : decode mY_telling.2.1 50 = .ok (.aload_n 0, 1) := by decide +kernel
theorem dY_telling_51 : decode mY_telling.2.1 51 = .ok (.iload_n 1, 1) := by decide +kernel
theorem dY_telling_52 : decode mY_telling.2.1 52 = .ok (.iload_n 2, 1) := by decide +kernel
theorem dY_telling_53 : decode mY_telling.2.1 53 = .ok (.invokevirtual 398, 3) := by decide +kernel
theorem dY_telling_56 : decode mY_telling.2.1 56 = .ok (.ireturn, 1) := by decide +kernel
/- Y_telling: (II)I -/
set_option maxRecDepth 4000 in
theorem wY_telling {X : Cx} (a1 a2 : Int) (sw : Bool) (m : Mem) (Q : Int → Bool → Mem → Prop) (h : ((0 ≤ w32 a1 ∧ w32 a1 < 50) ∧ ((¬ w32 (m 115 (w32 a1)) = 4 → ((0 ≤ w32 a1 ∧ w32 a1 < 50) ∧ ((¬ w32 (m 115 (w32 a1)) = 5 → M2 X 8 mY_plainTells [vr 84, vi a1, vi a2] sw m (fun z1 sw1 m1 => Q z1 sw1 m1)) ∧ (¬ (¬ w32 (m 115 (w32 a1)) = 5) → M2 X 1 mY_ran [vr 84, vi 61] sw m (fun z2 sw2 m2 => M2 X 8 mY_plainTells [vr 84, vi a1, vi a2] sw2 m2 (fun z3 sw3 m3 => Q (z3 + 1) sw3 m3)))))) ∧ (¬ (¬ w32 (m 115 (w32 a1)) = 4) → M2 X 1 mY_ran [vr 84, vi 50] sw m (fun z4 sw4 m4 => M2 X 8 mY_plainTells [vr 84, vi a1, vi a2] sw4 m4 (fun z5 sw5 m5 => Q (zxor z5 5) sw5 m5)))))) : M2 X 9 mY_telling [vr 84, vi a1, vi a2] sw m Q := by
  refine Mt.of pY_telling (Nat.le_of_ble_eq_true rfl) (Nat.le_refl _) ?_
  show R2 X 9 mY_telling 0 [(0, vr 84), (1, vi a1), (2, vi a2)] [] sw m Q
  refine r_aload_n 0 0 rfl dY_telling_0 rfl ?_
  refine q_getR 48 c84 fY_109 rfl rfl (g84_48 sw) (by decide) dY_telling_1 ?_
  refine r_iload_n 1 1 rfl dY_telling_4 rfl ?_
  refine q_iaload (w32 a1) rfl c115 h.1 dY_telling_5 ?_
  replace h := h.2
  refine r_iconst dY_telling_6 ?_
  refine r_ifc_ne (tgt := 25) dY_telling_7 (by decide) (fun hc => ?_) (fun hc => ?_)
  · replace h := h.1 hc
    refine r_aload_n 0 0 rfl dY_telling_25 rfl ?_
    refine q_getR 48 c84 fY_109 rfl rfl (g84_48 sw) (by decide) dY_telling_26 ?_
    refine r_iload_n 1 1 rfl dY_telling_29 rfl ?_
    refine q_iaload (w32 a1) rfl c115 h.1 dY_telling_30 ?_
    replace h := h.2
    refine r_iconst dY_telling_31 ?_
    refine r_ifc_ne (tgt := 50) dY_telling_32 (by decide) (fun hc => ?_) (fun hc => ?_)
    · replace h := h.1 hc
      refine r_aload_n 0 0 rfl dY_telling_50 rfl ?_
      refine r_iload_n 1 1 rfl dY_telling_51 rfl ?_
      refine r_iload_n 2 2 rfl dY_telling_52 rfl ?_
      refine r_callVi 12 [_, _] rfl c84 rfl rfl oY_plainTells iY_plainTells sY_plainTells yY_398 (by decide) ⟨Nat.le_refl _, Nat.le_refl _⟩ rfl (Nat.le_of_ble_eq_true rfl) dY_telling_53 h (fun z1 r1 m1 h => ?_)
      obtain ⟨sw1, rfl, h⟩ := h
      exact q_iret rfl h dY_telling_56
    · replace h := h.2 hc
      refine r_aload_n 0 0 rfl dY_telling_35 rfl ?_
      refine r_bipush (by decide) dY_telling_36 ?_
      refine r_callVv 12 [_] rfl c84 rfl rfl oY_ran iY_ran sY_ran yY_365 (by decide) ⟨Nat.le_refl _, Nat.le_refl _⟩ rfl (Nat.le_of_ble_eq_true rfl) dY_telling_38 h (fun z2 r2 m2 h => ?_)
      obtain ⟨sw2, rfl, h⟩ := h
      refine r_aload_n 0 0 rfl dY_telling_41 rfl ?_
      refine r_iload_n 1 1 rfl dY_telling_42 rfl ?_
      refine r_iload_n 2 2 rfl dY_telling_43 rfl ?_
      refine r_callVi 12 [_, _] rfl c84 rfl rfl oY_plainTells iY_plainTells sY_plainTells yY_398 (by decide) ⟨Nat.le_refl _, Nat.le_refl _⟩ rfl (Nat.le_of_ble_eq_true rfl) dY_telling_44 h (fun z3 r3 m3 h => ?_)
      obtain ⟨sw3, rfl, h⟩ := h
      refine r_iconst dY_telling_47 ?_
      refine r_iadd dY_telling_48 ?_
      exact q_iret rfl h dY_telling_49
  · replace h := h.2 hc
    refine r_aload_n 0 0 rfl dY_telling_10 rfl ?_
    refine r_bipush (by decide) dY_telling_11 ?_
    refine r_callVv 12 [_] rfl c84 rfl rfl oY_ran iY_ran sY_ran yY_365 (by decide) ⟨Nat.le_refl _, Nat.le_refl _⟩ rfl (Nat.le_of_ble_eq_true rfl) dY_telling_13 h (fun z4 r4 m4 h => ?_)
    obtain ⟨sw4, rfl, h⟩ := h
    refine r_aload_n 0 0 rfl dY_telling_16 rfl ?_
    refine r_iload_n 1 1 rfl dY_telling_17 rfl ?_
    refine r_iload_n 2 2 rfl dY_telling_18 rfl ?_
    refine r_callVi 12 [_, _] rfl c84 rfl rfl oY_plainTells iY_plainTells sY_plainTells yY_398 (by decide) ⟨Nat.le_refl _, Nat.le_refl _⟩ rfl (Nat.le_of_ble_eq_true rfl) dY_telling_19 h (fun z5 r5 m5 h => ?_)
    obtain ⟨sw5, rfl, h⟩ := h
    refine r_iconst dY_telling_22 ?_
    refine r_ixor dY_telling_23 ?_
    exact q_iret rfl h dY_telling_24
theorem dY_act_0 : decode mY_act.2.1 0 = .ok (.aload_n 0, 1) := by decide +kernel
theorem dY_act_1 : decode mY_act.2.1 1 = .ok (.iconst 0, 1) := by decide +kernel
theorem dY_act_2 : decode mY_act.2.1 2 = .ok (.putfield 362, 3) := by decide +kernel
theorem dY_act_5 : decode mY_act.2.1 5 = .ok (.aload_n 0, 1) := by decide +kernel
theorem dY_act_6 : decode mY_act.2.1 6 = .ok (.iload_n 1, 1) := by decide +kernel
theorem dY_act_7 : decode mY_act.2.1 7 = .ok (.invokevirtual 401, 3) := by decide +kernel
theorem dY_act_10 : decode mY_act.2.1 10 = .ok (.ifCond .eq 12, 3) := by decide +kernel
theorem dY_act_13 : decode mY_act.2.1 13 = .ok (.iload_n 2, 1) := by decide +kernel
theorem dY_act_14 : decode mY_act.2.1 14 = .ok (.iconst 0, 1) := by decide +kernel
theorem dY_act_15 : decode mY_act.2.1 15 = .ok (.iconst 3, 1) := by decide +kernel
theorem dY_act_16 : decode mY_act.2.1 16 = .ok (.invokestatic 133, 3) := by decide +kernel
theorem dY_act_19 : decode mY_act.2.1 19 = .ok (.ifCond .ne 5, 3) := by decide +kernel
theorem dY_act_22 : decode mY_act.2.1 22 = .ok (.iconst 0, 1) := by decide +kernel
theorem dY_act_23 : decode mY_act.2.1 23 = .ok (.ireturn, 1) := by decide +kernel
theorem dY_act_24 : decode mY_act.2.1 24 = .ok (.iload_n 2, 1) := by decide +kernel
theorem dY_act_25 : decode mY_act.2.1 25 = .ok (.ifCond .ne 12, 3) := by decide +kernel
theorem dY_act_28 : decode mY_act.2.1 28 = .ok (.aload_n 0, 1) := by decide +kernel
theorem dY_act_29 : decode mY_act.2.1 29 = .ok (.iload_n 1, 1) := by decide +kernel
theorem dY_act_30 : decode mY_act.2.1 30 = .ok (.iload_n 3, 1) := by decide +kernel
theorem dY_act_31 : decode mY_act.2.1 31 = .ok (.invokevirtual 377, 3) := by decide +kernel
theorem dY_act_34 : decode mY_act.2.1 34 = .ok (.goto 37, 3) := by decide +kernel
theorem dY_act_37 : decode mY_act.2.1 37 = .ok (.iload_n 2, 1) := by decide +kernel
theorem dY_act_38 : decode mY_act.2.1 38 = .ok (.iconst 1, 1) := by decide +kernel
theorem dY_act_39 : decode mY_act.2.1 39 = .ok (.if_icmp .ne 12, 3) := by decide +kernel
theorem dY_act_42 : decode mY_act.2.1 42 = .ok (.aload_n 0, 1) := by decide +kernel
theorem dY_act_43 : decode mY_act.2.1 43 = .ok (.iload_n 1, 1) := by decide +kernel
theorem dY_act_44 : decode mY_act.2.1 44 = .ok (.iload_n 3, 1) := by decide +kernel
theorem dY_act_45 : decode mY_act.2.1 45 = .ok (.invokevirtual 395, 3) := by decide +kernel
theorem dY_act_48 : decode mY_act.2.1 48 = .ok (.goto 23, 3) := by decide +kernel
theorem dY_act_51 : decode mY_act.2.1 51 = .ok (.iload_n 2, 1) := by decide +kernel
theorem dY_act_52 : decode mY_act.2.1 52 = .ok (.iconst 2, 1) := by decide +kernel
theorem dY_act_53 : decode mY_act.2.1 53 = .ok (.if_icmp .ne 12, 3) := by decide +kernel
theorem dY_act_56 : decode mY_act.2.1 56 = .ok (.aload_n 0, 1) := by decide +kernel
theorem dY_act_57 : decode mY_act.2.1 57 = .ok (.iload_n 1, 1) := by decide +kernel
theorem dY_act_58 : decode mY_act.2.1 58 = .ok (.iload_n 3, 1) := by decide +kernel
theorem dY_act_59 : decode mY_act.2.1 59 = .ok (.invokevirtual 386, 3) := by decide +kernel
theorem dY_act_62 : decode mY_act.2.1 62 = .ok (.goto 9, 3) := by decide +kernel
theorem dY_act_65 : decode mY_act.2.1 65 = .ok (.aload_n 0, 1) := by decide +kernel
theorem dY_act_66 : decode mY_act.2.1 66 = .ok (.iload_n 1, 1) := by decide +kernel
theorem dY_act_67 : decode mY_act.2.1 67 = .ok (.iload_n 3, 1) := by decide +kernel
theorem dY_act_68 : decode mY_act.2.1 68 = .ok (.invokevirtual 404, 3) := by decide +kernel
theorem dY_act_71 : decode mY_act.2.1 71 = .ok (.ireturn, 1) := by decide +kernel
/- Y_act: (III)I -/
set_option maxRecDepth 4000 in
theorem wY_act {X : Cx} (a1 a2 a3 : Int) (sw : Bool) (m : Mem) (Q : Int → Bool → Mem → Prop) (h : M2 X 2 mY_isBody [vr 84, vi a1] sw (upm m 84 49 0) (fun z1 sw1 m1 => ((w32 z1 = 0 → Q 0 sw1 m1) ∧ (¬ (w32 z1 = 0) → M2 X 1 mY_in [vi a2, vi 0, vi 3] sw1 m1 (fun z2 sw2 m2 => ((¬ w32 z2 = 0 → ((¬ w32 a2 = 0 → ((¬ w32 a2 = 1 → ((¬ w32 a2 = 2 → M2 X 9 mY_telling [vr 84, vi a1, vi a3] sw2 m2 (fun z3 sw3 m3 => Q z3 sw3 m3)) ∧ (¬ (¬ w32 a2 = 2) → M2 X 5 mY_failing [vr 84, vi a1, vi a3] sw2 m2 (fun z4 sw4 m4 => Q z4 sw4 m4)))) ∧ (¬ (¬ w32 a2 = 1) → M2 X 7 mY_taking [vr 84, vi a1, vi a3] sw2 m2 (fun z5 sw5 m5 => Q z5 sw5 m5)))) ∧ (¬ (¬ w32 a2 = 0) → M2 X 4 mY_starting [vr 84, vi a1, vi a3] sw2 m2 (fun z6 sw6 m6 => Q z6 sw6 m6)))) ∧ (¬ (¬ w32 z2 = 0) → Q 0 sw2 m2))))))) : M2 X 10 mY_act [vr 84, vi a1, vi a2, vi a3] sw m Q := by
  refine Mt.of pY_act (Nat.le_of_ble_eq_true rfl) (Nat.le_refl _) ?_
  show R2 X 10 mY_act 0 [(0, vr 84), (1, vi a1), (2, vi a2), (3, vi a3)] [] sw m Q
  refine r_aload_n 0 0 rfl dY_act_0 rfl ?_
  refine r_iconst dY_act_1 ?_
  refine q_putI 49 c84 pfY_362 rfl rfl dY_act_2 ?_
  refine r_aload_n 0 0 rfl dY_act_5 rfl ?_
  refine r_iload_n 1 1 rfl dY_act_6 rfl ?_
  refine r_callVb 12 [_] rfl c84 rfl rfl oY_isBody iY_isBody sY_isBody yY_401 (by decide) ⟨Nat.le_refl _, Nat.le_refl _⟩ rfl (Nat.le_of_ble_eq_true rfl) dY_act_7 h (fun z1 r1 m1 h => ?_)
  obtain ⟨sw1, rfl, h⟩ := h
  refine r_if_eq (tgt := 22) dY_act_10 (by decide) (fun hc => ?_) (fun hc => ?_)
  · replace h := h.1 hc
    refine r_iconst dY_act_22 ?_
    exact q_iret rfl h dY_act_23
  · replace h := h.2 hc
    refine r_iload_n 2 2 rfl dY_act_13 rfl ?_
    refine r_iconst dY_act_14 ?_
    refine r_iconst dY_act_15 ?_
    refine r_callSb [_, _, _] rfl oY_in iY_in yY_133 (by decide) ⟨Nat.le_refl _, Nat.le_refl _⟩ rfl (Nat.le_of_ble_eq_true rfl) dY_act_16 h (fun z2 r2 m2 h => ?_)
    obtain ⟨sw2, rfl, h⟩ := h
    refine r_if_ne (tgt := 24) dY_act_19 (by decide) (fun hc => ?_) (fun hc => ?_)
    · replace h := h.1 hc
      refine r_iload_n 2 2 rfl dY_act_24 rfl ?_
      refine r_if_ne (tgt := 37) dY_act_25 (by decide) (fun hc => ?_) (fun hc => ?_)
      · replace h := h.1 hc
        refine r_iload_n 2 2 rfl dY_act_37 rfl ?_
        refine r_iconst dY_act_38 ?_
        refine r_ifc_ne (tgt := 51) dY_act_39 (by decide) (fun hc => ?_) (fun hc => ?_)
        · replace h := h.1 hc
          refine r_iload_n 2 2 rfl dY_act_51 rfl ?_
          refine r_iconst dY_act_52 ?_
          refine r_ifc_ne (tgt := 65) dY_act_53 (by decide) (fun hc => ?_) (fun hc => ?_)
          · replace h := h.1 hc
            refine r_aload_n 0 0 rfl dY_act_65 rfl ?_
            refine r_iload_n 1 1 rfl dY_act_66 rfl ?_
            refine r_iload_n 3 3 rfl dY_act_67 rfl ?_
            refine r_callVi 12 [_, _] rfl c84 rfl rfl oY_telling iY_telling sY_telling yY_404 (by decide) ⟨Nat.le_refl _, Nat.le_refl _⟩ rfl (Nat.le_of_ble_eq_true rfl) dY_act_68 h (fun z3 r3 m3 h => ?_)
            obtain ⟨sw3, rfl, h⟩ := h
            exact q_iret rfl h dY_act_71
          · replace h := h.2 hc
            refine r_aload_n 0 0 rfl dY_act_56 rfl ?_
            refine r_iload_n 1 1 rfl dY_act_57 rfl ?_
            refine r_iload_n 3 3 rfl dY_act_58 rfl ?_
            refine r_callVi 12 [_, _] rfl c84 rfl rfl oY_failing iY_failing sY_failing yY_386 (by decide) ⟨Nat.le_refl _, Nat.le_refl _⟩ rfl (Nat.le_of_ble_eq_true rfl) dY_act_59 h (fun z4 r4 m4 h => ?_)
            obtain ⟨sw4, rfl, h⟩ := h
            refine r_goto (tgt := 71) dY_act_62 (by decide) ?_
            exact q_iret rfl h dY_act_71
        · replace h := h.2 hc
          refine r_aload_n 0 0 rfl dY_act_42 rfl ?_
          refine r_iload_n 1 1 rfl dY_act_43 rfl ?_
          refine r_iload_n 3 3 rfl dY_act_44 rfl ?_
          refine r_callVi 12 [_, _] rfl c84 rfl rfl oY_taking iY_taking sY_taking yY_395 (by decide) ⟨Nat.le_refl _, Nat.le_refl _⟩ rfl (Nat.le_of_ble_eq_true rfl) dY_act_45 h (fun z5 r5 m5 h => ?_)
          obtain ⟨sw5, rfl, h⟩ := h
          refine r_goto (tgt := 71) dY_act_48 (by decide) ?_
          exact q_iret rfl h dY_act_71
      · replace h := h.2 hc
        refine r_aload_n 0 0 rfl dY_act_28 rfl ?_
        refine r_iload_n 1 1 rfl dY_act_29 rfl ?_
        refine r_iload_n 3 3 rfl dY_act_30 rfl ?_
        refine r_callVi 12 [_, _] rfl c84 rfl rfl oY_starting iY_starting sY_starting yY_377 (by decide) ⟨Nat.le_refl _, Nat.le_refl _⟩ rfl (Nat.le_of_ble_eq_true rfl) dY_act_31 h (fun z6 r6 m6 h => ?_)
        obtain ⟨sw6, rfl, h⟩ := h
        refine r_goto (tgt := 71) dY_act_34 (by decide) ?_
        exact q_iret rfl h dY_act_71
    · replace h := h.2 hc
      refine r_iconst dY_act_22 ?_
      exact q_iret rfl h dY_act_23
theorem dY_count_0 : decode mY_count.2.1 0 = .ok (.iload_n 1, 1) := by decide +kernel
theorem dY_count_1 : decode mY_count.2.1 1 = .ok (.tableswitch 60 0 4 #[35, 40, 45, 50, 55], 35) := by decide +kernel
theorem dY_count_36 : decode mY_count.2.1 36 = .ok (.aload_n 0, 1) := by decide +kernel
theorem dY_count_37 : decode mY_count.2.1 37 = .ok (.getfield 130, 3) := by decide +kernel
theorem dY_count_40 : decode mY_count.2.1 40 = .ok (.ireturn, 1) := by decide +kernel
theorem dY_count_41 : decode mY_count.2.1 41 = .ok (.aload_n 0, 1) := by decide +kernel
theorem dY_count_42 : decode mY_count.2.1 42 = .ok (.getfield 177, 3) := by decide +kernel
theorem dY_count_45 : decode mY_count.2.1 45 = .ok (.ireturn, 1) := by decide +kernel
theorem dY_count_46 : decode mY_count.2.1 46 = .ok (.aload_n 0, 1) := by decide +kernel
theorem dY_count_47 : decode mY_count.2.1 47 = .ok (.getfield 157, 3) := by decide +kernel
theorem dY_count_50 : decode mY_count.2.1 50 = .ok (.ireturn, 1) := by decide +kernel
theorem dY_count_51 : decode mY_count.2.1 51 = .ok (.aload_n 0, 1) := by decide +kernel
theorem dY_count_52 : decode mY_count.2.1 52 = .ok (.getfield 359, 3) := by decide +kernel
theorem dY_count_55 : decode mY_count.2.1 55 = .ok (.ireturn, 1) := by decide +kernel
theorem dY_count_56 : decode mY_count.2.1 56 = .ok (.aload_n 0, 1) := by decide +kernel
theorem dY_count_57 : decode mY_count.2.1 57 = .ok (.getfield 362, 3) := by decide +kernel
theorem dY_count_60 : decode mY_count.2.1 60 = .ok (.ireturn, 1) := by decide +kernel
theorem dY_count_61 : decode mY_count.2.1 61 = .ok (.iconst (-1), 1) := by decide +kernel
theorem dY_count_62 : decode mY_count.2.1 62 = .ok (.ireturn, 1) := by decide +kernel
/- Y_count: (I)I -/
set_option maxRecDepth 4000 in
theorem wY_count {X : Cx} (a1 : Int) (sw : Bool) (m : Mem) (Q : Int → Bool → Mem → Prop) (h : ((w32 a1 = 0 → Q (m 84 1) sw m) ∧ ((w32 a1 = 1 → Q (m 84 16) sw m) ∧ ((w32 a1 = 2 → Q (m 84 9) sw m) ∧ ((w32 a1 = 3 → Q (m 84 47) sw m) ∧ ((w32 a1 = 4 → Q (m 84 49) sw m) ∧ ((w32 a1 < 0 ∨ 4 < w32 a1) → Q (-1) sw m))))))) : M2 X 1 mY_count [vr 84, vi a1] sw m Q := by
  refine Mt.of pY_count (Nat.le_of_ble_eq_true rfl) (Nat.le_refl _) ?_
  show R2 X 1 mY_count 0 [(0, vr 84), (1, vi a1)] [] sw m Q
  refine r_iload_n 1 1 rfl dY_count_0 rfl ?_
  by_cases hs0 : w32 a1 = 0
  · refine r_tabIn (off := 35) (tgt := 36) 0 hs0 dY_count_1 (by decide) (by decide) (by decide) (by decide) ?_
    replace h := h.1 hs0
    refine r_aload_n 0 0 rfl dY_count_36 rfl ?_
    refine q_getI 1 c84 fY_130 rfl rfl dY_count_37 ?_
    exact q_iret rfl h dY_count_40
  · replace h := h.2
    by_cases hs1 : w32 a1 = 1
    · refine r_tabIn (off := 40) (tgt := 41) 1 hs1 dY_count_1 (by decide) (by decide) (by decide) (by decide) ?_
      replace h := h.1 hs1
      refine r_aload_n 0 0 rfl dY_count_41 rfl ?_
      refine q_getI 16 c84 fY_177 rfl rfl dY_count_42 ?_
      exact q_iret rfl h dY_count_45
    · replace h := h.2
      by_cases hs2 : w32 a1 = 2
      · refine r_tabIn (off := 45) (tgt := 46) 2 hs2 dY_count_1 (by decide) (by decide) (by decide) (by decide) ?_
        replace h := h.1 hs2
        refine r_aload_n 0 0 rfl dY_count_46 rfl ?_
        refine q_getI 9 c84 fY_157 rfl rfl dY_count_47 ?_
        exact q_iret rfl h dY_count_50
      · replace h := h.2
        by_cases hs3 : w32 a1 = 3
        · refine r_tabIn (off := 50) (tgt := 51) 3 hs3 dY_count_1 (by decide) (by decide) (by decide) (by decide) ?_
          replace h := h.1 hs3
          refine r_aload_n 0 0 rfl dY_count_51 rfl ?_
          refine q_getI 47 c84 fY_359 rfl rfl dY_count_52 ?_
          exact q_iret rfl h dY_count_55
        · replace h := h.2
          by_cases hs4 : w32 a1 = 4
          · refine r_tabIn (off := 55) (tgt := 56) 4 hs4 dY_count_1 (by decide) (by decide) (by decide) (by decide) ?_
            replace h := h.1 hs4
            refine r_aload_n 0 0 rfl dY_count_56 rfl ?_
            refine q_getI 49 c84 fY_362 rfl rfl dY_count_57 ?_
            exact q_iret rfl h dY_count_60
          · replace h := h.2
            have hq : w32 a1 < 0 ∨ 4 < w32 a1 := by omega
            refine r_tabOut (tgt := 61) dY_count_1 hq (by decide) ?_
            replace h := h hq
            refine r_iconst dY_count_61 ?_
            exact q_iret rfl h dY_count_62
