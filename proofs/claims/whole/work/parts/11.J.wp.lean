theorem dJ_bitCount_0 : decode mJ_bitCount.2.1 0 = .ok (.iload_n 0, 1) := by decide +kernel
theorem dJ_bitCount_1 : decode mJ_bitCount.2.1 1 = .ok (.iload_n 0, 1) := by decide +kernel
theorem dJ_bitCount_2 : decode mJ_bitCount.2.1 2 = .ok (.iconst 1, 1) := by decide +kernel
theorem dJ_bitCount_3 : decode mJ_bitCount.2.1 3 = .ok (.iushr, 1) := by decide +kernel
theorem dJ_bitCount_4 : decode mJ_bitCount.2.1 4 = .ok (.ldc_w 265, 3) := by decide +kernel
theorem dJ_bitCount_7 : decode mJ_bitCount.2.1 7 = .ok (.iand, 1) := by decide +kernel
theorem dJ_bitCount_8 : decode mJ_bitCount.2.1 8 = .ok (.isub, 1) := by decide +kernel
theorem dJ_bitCount_9 : decode mJ_bitCount.2.1 9 = .ok (.istore_n 0, 1) := by decide +kernel
theorem dJ_bitCount_10 : decode mJ_bitCount.2.1 10 = .ok (.iload_n 0, 1) := by decide +kernel
theorem dJ_bitCount_11 : decode mJ_bitCount.2.1 11 = .ok (.ldc_w 266, 3) := by decide +kernel
theorem dJ_bitCount_14 : decode mJ_bitCount.2.1 14 = .ok (.iand, 1) := by decide +kernel
theorem dJ_bitCount_15 : decode mJ_bitCount.2.1 15 = .ok (.iload_n 0, 1) := by decide +kernel
theorem dJ_bitCount_16 : decode mJ_bitCount.2.1 16 = .ok (.iconst 2, 1) := by decide +kernel
theorem dJ_bitCount_17 : decode mJ_bitCount.2.1 17 = .ok (.iushr, 1) := by decide +kernel
theorem dJ_bitCount_18 : decode mJ_bitCount.2.1 18 = .ok (.ldc_w 266, 3) := by decide +kernel
theorem dJ_bitCount_21 : decode mJ_bitCount.2.1 21 = .ok (.iand, 1) := by decide +kernel
theorem dJ_bitCount_22 : decode mJ_bitCount.2.1 22 = .ok (.iadd, 1) := by decide +kernel
theorem dJ_bitCount_23 : decode mJ_bitCount.2.1 23 = .ok (.istore_n 0, 1) := by decide +kernel
theorem dJ_bitCount_24 : decode mJ_bitCount.2.1 24 = .ok (.iload_n 0, 1) := by decide +kernel
theorem dJ_bitCount_25 : decode mJ_bitCount.2.1 25 = .ok (.iload_n 0, 1) := by decide +kernel
theorem dJ_bitCount_26 : decode mJ_bitCount.2.1 26 = .ok (.iconst 4, 1) := by decide +kernel
theorem dJ_bitCount_27 : decode mJ_bitCount.2.1 27 = .ok (.iushr, 1) := by decide +kernel
theorem dJ_bitCount_28 : decode mJ_bitCount.2.1 28 = .ok (.iadd, 1) := by decide +kernel
theorem dJ_bitCount_29 : decode mJ_bitCount.2.1 29 = .ok (.ldc_w 267, 3) := by decide +kernel
theorem dJ_bitCount_32 : decode mJ_bitCount.2.1 32 = .ok (.iand, 1) := by decide +kernel
theorem dJ_bitCount_33 : decode mJ_bitCount.2.1 33 = .ok (.istore_n 0, 1) := by decide +kernel
theorem dJ_bitCount_34 : decode mJ_bitCount.2.1 34 = .ok (.iload_n 0, 1) := by decide +kernel
theorem dJ_bitCount_35 : decode mJ_bitCount.2.1 35 = .ok (.iload_n 0, 1) := by decide +kernel
theorem dJ_bitCount_36 : decode mJ_bitCount.2.1 36 = .ok (.bipush 8, 2) := by decide +kernel
theorem dJ_bitCount_38 : decode mJ_bitCount.2.1 38 = .ok (.iushr, 1) := by decide +kernel
theorem dJ_bitCount_39 : decode mJ_bitCount.2.1 39 = .ok (.iadd, 1) := by decide +kernel
theorem dJ_bitCount_40 : decode mJ_bitCount.2.1 40 = .ok (.istore_n 0, 1) := by decide +kernel
theorem dJ_bitCount_41 : decode mJ_bitCount.2.1 41 = .ok (.iload_n 0, 1) := by decide +kernel
theorem dJ_bitCount_42 : decode mJ_bitCount.2.1 42 = .ok (.iload_n 0, 1) := by decide +kernel
theorem dJ_bitCount_43 : decode mJ_bitCount.2.1 43 = .ok (.bipush 16, 2) := by decide +kernel
theorem dJ_bitCount_45 : decode mJ_bitCount.2.1 45 = .ok (.iushr, 1) := by decide +kernel
theorem dJ_bitCount_46 : decode mJ_bitCount.2.1 46 = .ok (.iadd, 1) := by decide +kernel
theorem dJ_bitCount_47 : decode mJ_bitCount.2.1 47 = .ok (.istore_n 0, 1) := by decide +kernel
theorem dJ_bitCount_48 : decode mJ_bitCount.2.1 48 = .ok (.iload_n 0, 1) := by decide +kernel
theorem dJ_bitCount_49 : decode mJ_bitCount.2.1 49 = .ok (.bipush 63, 2) := by decide +kernel
theorem dJ_bitCount_51 : decode mJ_bitCount.2.1 51 = .ok (.iand, 1) := by decide +kernel
theorem dJ_bitCount_52 : decode mJ_bitCount.2.1 52 = .ok (.ireturn, 1) := by decide +kernel
/- J_bitCount: (I)I -/
set_option maxRecDepth 4000 in
theorem wJ_bitCount {X : Cx} (a0 : Int) (sw : Bool) (m : Mem) (Q : Int → Bool → Mem → Prop) (h : Q (zand (((zand (((zand (a0 - (zand (zushr a0 1) 1431655765)) 858993459) + (zand (zushr (a0 - (zand (zushr a0 1) 1431655765)) 2) 858993459)) + (zushr ((zand (a0 - (zand (zushr a0 1) 1431655765)) 858993459) + (zand (zushr (a0 - (zand (zushr a0 1) 1431655765)) 2) 858993459)) 4)) 252645135) + (zushr (zand (((zand (a0 - (zand (zushr a0 1) 1431655765)) 858993459) + (zand (zushr (a0 - (zand (zushr a0 1) 1431655765)) 2) 858993459)) + (zushr ((zand (a0 - (zand (zushr a0 1) 1431655765)) 858993459) + (zand (zushr (a0 - (zand (zushr a0 1) 1431655765)) 2) 858993459)) 4)) 252645135) 8)) + (zushr ((zand (((zand (a0 - (zand (zushr a0 1) 1431655765)) 858993459) + (zand (zushr (a0 - (zand (zushr a0 1) 1431655765)) 2) 858993459)) + (zushr ((zand (a0 - (zand (zushr a0 1) 1431655765)) 858993459) + (zand (zushr (a0 - (zand (zushr a0 1) 1431655765)) 2) 858993459)) 4)) 252645135) + (zushr (zand (((zand (a0 - (zand (zushr a0 1) 1431655765)) 858993459) + (zand (zushr (a0 - (zand (zushr a0 1) 1431655765)) 2) 858993459)) + (zushr ((zand (a0 - (zand (zushr a0 1) 1431655765)) 858993459) + (zand (zushr (a0 - (zand (zushr a0 1) 1431655765)) 2) 858993459)) 4)) 252645135) 8)) 16)) 63) sw m) : M2 X 1 mJ_bitCount [vi a0] sw m Q := by
  refine Mt.of pJ_bitCount (Nat.le_of_ble_eq_true rfl) (Nat.le_refl _) ?_
  show R2 X 1 mJ_bitCount 0 [(0, vi a0)] [] sw m Q
  refine r_iload_n 0 0 rfl dJ_bitCount_0 rfl ?_
  refine r_iload_n 0 0 rfl dJ_bitCount_1 rfl ?_
  refine r_iconst dJ_bitCount_2 ?_
  refine r_iushr dJ_bitCount_3 ?_
  refine r_ldcw (z := 1431655765) dJ_bitCount_4 kJ_265 ?_
  refine r_iand dJ_bitCount_7 ?_
  refine r_isub dJ_bitCount_8 ?_
  refine r_istore_n 0 (by decide) dJ_bitCount_9 rfl ?_
  refine r_iload_n 0 0 rfl dJ_bitCount_10 rfl ?_
  refine r_ldcw (z := 858993459) dJ_bitCount_11 kJ_266 ?_
  refine r_iand dJ_bitCount_14 ?_
  refine r_iload_n 0 0 rfl dJ_bitCount_15 rfl ?_
  refine r_iconst dJ_bitCount_16 ?_
  refine r_iushr dJ_bitCount_17 ?_
  refine r_ldcw (z := 858993459) dJ_bitCount_18 kJ_266 ?_
  refine r_iand dJ_bitCount_21 ?_
  refine r_iadd dJ_bitCount_22 ?_
  refine r_istore_n 0 (by decide) dJ_bitCount_23 rfl ?_
  refine r_iload_n 0 0 rfl dJ_bitCount_24 rfl ?_
  refine r_iload_n 0 0 rfl dJ_bitCount_25 rfl ?_
  refine r_iconst dJ_bitCount_26 ?_
  refine r_iushr dJ_bitCount_27 ?_
  refine r_iadd dJ_bitCount_28 ?_
  refine r_ldcw (z := 252645135) dJ_bitCount_29 kJ_267 ?_
  refine r_iand dJ_bitCount_32 ?_
  refine r_istore_n 0 (by decide) dJ_bitCount_33 rfl ?_
  refine r_iload_n 0 0 rfl dJ_bitCount_34 rfl ?_
  refine r_iload_n 0 0 rfl dJ_bitCount_35 rfl ?_
  refine r_bipush (by decide) dJ_bitCount_36 ?_
  refine r_iushr dJ_bitCount_38 ?_
  refine r_iadd dJ_bitCount_39 ?_
  refine r_istore_n 0 (by decide) dJ_bitCount_40 rfl ?_
  refine r_iload_n 0 0 rfl dJ_bitCount_41 rfl ?_
  refine r_iload_n 0 0 rfl dJ_bitCount_42 rfl ?_
  refine r_bipush (by decide) dJ_bitCount_43 ?_
  refine r_iushr dJ_bitCount_45 ?_
  refine r_iadd dJ_bitCount_46 ?_
  refine r_istore_n 0 (by decide) dJ_bitCount_47 rfl ?_
  refine r_iload_n 0 0 rfl dJ_bitCount_48 rfl ?_
  refine r_bipush (by decide) dJ_bitCount_49 ?_
  refine r_iand dJ_bitCount_51 ?_
  exact q_iret rfl h dJ_bitCount_52
theorem dJ_fill_0 : decode mJ_fill.2.1 0 = .ok (.iconst 0, 1) := by decide +kernel
theorem dJ_fill_1 : decode mJ_fill.2.1 1 = .ok (.istore_n 3, 1) := by decide +kernel
theorem dJ_fill_2 : decode mJ_fill.2.1 2 = .ok (.aload_n 0, 1) := by decide +kernel
theorem dJ_fill_3 : decode mJ_fill.2.1 3 = .ok (.arraylength, 1) := by decide +kernel
theorem dJ_fill_4 : decode mJ_fill.2.1 4 = .ok (.istore 4, 2) := by decide +kernel
theorem dJ_fill_6 : decode mJ_fill.2.1 6 = .ok (.iload_n 3, 1) := by decide +kernel
theorem dJ_fill_7 : decode mJ_fill.2.1 7 = .ok (.iload 4, 2) := by decide +kernel
theorem dJ_fill_9 : decode mJ_fill.2.1 9 = .ok (.if_icmp .ge 13, 3) := by decide +kernel
theorem dJ_fill_12 : decode mJ_fill.2.1 12 = .ok (.aload_n 0, 1) := by decide +kernel
theorem dJ_fill_13 : decode mJ_fill.2.1 13 = .ok (.iload_n 3, 1) := by decide +kernel
theorem dJ_fill_14 : decode mJ_fill.2.1 14 = .ok (.lload_n 1, 1) := by decide +kernel
theorem dJ_fill_15 : decode mJ_fill.2.1 15 = .ok (.lastore, 1) := by decide +kernel
theorem dJ_fill_16 : decode mJ_fill.2.1 16 = .ok (.iinc 3 1, 3) := by decide +kernel
theorem dJ_fill_19 : decode mJ_fill.2.1 19 = .ok (.goto (-13), 3) := by decide +kernel
theorem dJ_fill_22 : decode mJ_fill.2.1 22 = .ok (.return_, 1) := by decide +kernel
/- J_fill: ([JJ)V -/
set_option maxRecDepth 4000 in
theorem wJ_fill {X : Cx} {k0 : Int} {N0 : Nat} (hk0 : isA NT k0 .long N0) (a1 : Int) (sw : Bool) (m : Mem) (Q : Int → Bool → Mem → Prop) (h : R2 X 1 mJ_fill 6 [(0, vr k0), (1, vl a1), (3, vi 0), (4, vi (N0 : Int))] [] sw m Q) : M2 X 1 mJ_fill [vr k0, vl a1] sw m Q := by
  refine Mt.of pJ_fill (Nat.le_of_ble_eq_true rfl) (Nat.le_refl _) ?_
  show R2 X 1 mJ_fill 0 [(0, vr k0), (1, vl a1)] [] sw m Q
  refine r_iconst dJ_fill_0 ?_
  refine r_istore_n 3 (by decide) dJ_fill_1 rfl ?_
  refine r_aload_n 0 1 rfl dJ_fill_2 rfl ?_
  refine r_alen (by decide) hk0 dJ_fill_3 ?_
  refine r_istore 4 (by decide) dJ_fill_4 ?_
  refine r_sub [2, 3, 1, 0] ?_ h
  rfl
set_option maxRecDepth 4000 in
theorem wJ_fill_6 {X : Cx} {k0 : Int} {N0 : Nat} (hk0 : isA NT k0 .long N0) (x1 x3 x4 : Int) (sw : Bool) (m : Mem) (Q : Int → Bool → Mem → Prop) (h : ((w32 x4 ≤ w32 x3 → Q 0 sw m) ∧ (¬ (w32 x4 ≤ w32 x3) → ((0 ≤ w32 x3 ∧ w32 x3 < N0) ∧ R2 X 1 mJ_fill 6 [(0, vr k0), (1, vl x1), (3, vi (x3 + 1)), (4, vi x4)] [] sw (upm m k0 (w32 x3) x1) Q)))) : R2 X 1 mJ_fill 6 [(0, vr k0), (1, vl x1), (3, vi x3), (4, vi x4)] [] sw m Q := by
  refine r_iload_n 3 2 rfl dJ_fill_6 rfl ?_
  refine r_iload 4 3 rfl dJ_fill_7 ?_
  refine r_ifc_ge (tgt := 22) dJ_fill_9 (by decide) (fun hc => ?_) (fun hc => ?_)
  · replace h := h.1 hc
    exact q_vret rfl h dJ_fill_22
  · replace h := h.2 hc
    refine r_aload_n 0 0 rfl dJ_fill_12 rfl ?_
    refine r_iload_n 3 2 rfl dJ_fill_13 rfl ?_
    refine r_lload_n 1 1 rfl dJ_fill_14 rfl ?_
    refine q_lastore (w32 x3) rfl hk0 h.1 dJ_fill_15 ?_
    replace h := h.2
    refine r_iinc 3 2 rfl (by decide) dJ_fill_16 ?_
    refine r_goto (tgt := 6) dJ_fill_19 (by decide) ?_
    refine r_sub [1, 2, 0, 3] ?_ h
    rfl
