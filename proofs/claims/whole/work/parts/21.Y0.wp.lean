theorem dY_in_0 : decode mY_in.2.1 0 = .ok (.iload_n 0, 1) := by decide +kernel
theorem dY_in_1 : decode mY_in.2.1 1 = .ok (.iload_n 1, 1) := by decide +kernel
theorem dY_in_2 : decode mY_in.2.1 2 = .ok (.if_icmp .lt 12, 3) := by decide +kernel
theorem dY_in_5 : decode mY_in.2.1 5 = .ok (.iload_n 0, 1) := by decide +kernel
theorem dY_in_6 : decode mY_in.2.1 6 = .ok (.iload_n 2, 1) := by decide +kernel
theorem dY_in_7 : decode mY_in.2.1 7 = .ok (.if_icmp .gt 7, 3) := by decide +kernel
theorem dY_in_10 : decode mY_in.2.1 10 = .ok (.iconst 1, 1) := by decide +kernel
theorem dY_in_11 : decode mY_in.2.1 11 = .ok (.goto 4, 3) := by decide +kernel
theorem dY_in_14 : decode mY_in.2.1 14 = .ok (.iconst 0, 1) := by decide +kernel
theorem dY_in_15 : decode mY_in.2.1 15 = .ok (.ireturn, 1) := by decide +kernel
/- Y_in: (III)Z -/
set_option maxRecDepth 4000 in
theorem wY_in {X : Cx} (a0 a1 a2 : Int) (sw : Bool) (m : Mem) (Q : Int → Bool → Mem → Prop) (h : ((w32 a0 < w32 a1 → Q 0 sw m) ∧ (¬ (w32 a0 < w32 a1) → ((w32 a2 < w32 a0 → Q 0 sw m) ∧ (¬ (w32 a2 < w32 a0) → Q 1 sw m))))) : M2 X 1 mY_in [vi a0, vi a1, vi a2] sw m Q := by
  refine Mt.of pY_in (Nat.le_of_ble_eq_true rfl) (Nat.le_refl _) ?_
  show R2 X 1 mY_in 0 [(0, vi a0), (1, vi a1), (2, vi a2)] [] sw m Q
  refine r_iload_n 0 0 rfl dY_in_0 rfl ?_
  refine r_iload_n 1 1 rfl dY_in_1 rfl ?_
  refine r_ifc_lt (tgt := 14) dY_in_2 (by decide) (fun hc => ?_) (fun hc => ?_)
  · replace h := h.1 hc
    refine r_iconst dY_in_14 ?_
    exact q_bret rfl (Or.inl rfl) h dY_in_15
  · replace h := h.2 hc
    refine r_iload_n 0 0 rfl dY_in_5 rfl ?_
    refine r_iload_n 2 2 rfl dY_in_6 rfl ?_
    refine r_ifc_gt (tgt := 14) dY_in_7 (by decide) (fun hc => ?_) (fun hc => ?_)
    · replace h := h.1 hc
      refine r_iconst dY_in_14 ?_
      exact q_bret rfl (Or.inl rfl) h dY_in_15
    · replace h := h.2 hc
      refine r_iconst dY_in_10 ?_
      refine r_goto (tgt := 15) dY_in_11 (by decide) ?_
      exact q_bret rfl (Or.inr rfl) h dY_in_15
theorem dY_isPart_0 : decode mY_isPart.2.1 0 = .ok (.iload_n 1, 1) := by decide +kernel
theorem dY_isPart_1 : decode mY_isPart.2.1 1 = .ok (.iconst 0, 1) := by decide +kernel
theorem dY_isPart_2 : decode mY_isPart.2.1 2 = .ok (.aload_n 0, 1) := by decide +kernel
theorem dY_isPart_3 : decode mY_isPart.2.1 3 = .ok (.getfield 130, 3) := by decide +kernel
theorem dY_isPart_6 : decode mY_isPart.2.1 6 = .ok (.iconst 1, 1) := by decide +kernel
theorem dY_isPart_7 : decode mY_isPart.2.1 7 = .ok (.isub, 1) := by decide +kernel
theorem dY_isPart_8 : decode mY_isPart.2.1 8 = .ok (.invokestatic 133, 3) := by decide +kernel
theorem dY_isPart_11 : decode mY_isPart.2.1 11 = .ok (.ireturn, 1) := by decide +kernel
/- Y_isPart: (I)Z -/
set_option maxRecDepth 4000 in
theorem wY_isPart {X : Cx} (a1 : Int) (sw : Bool) (m : Mem) (Q : Int → Bool → Mem → Prop) (h : M2 X 1 mY_in [vi a1, vi 0, vi ((m 84 1) - 1)] sw m (fun z1 sw1 m1 => ((z1 = 0 ∨ z1 = 1) ∧ Q z1 sw1 m1))) : M2 X 2 mY_isPart [vr 84, vi a1] sw m Q := by
  refine Mt.of pY_isPart (Nat.le_of_ble_eq_true rfl) (Nat.le_refl _) ?_
  show R2 X 2 mY_isPart 0 [(0, vr 84), (1, vi a1)] [] sw m Q
  refine r_iload_n 1 1 rfl dY_isPart_0 rfl ?_
  refine r_iconst dY_isPart_1 ?_
  refine r_aload_n 0 0 rfl dY_isPart_2 rfl ?_
  refine q_getI 1 c84 fY_130 rfl rfl dY_isPart_3 ?_
  refine r_iconst dY_isPart_6 ?_
  refine r_isub dY_isPart_7 ?_
  refine r_callSb [_, _, _] rfl oY_in iY_in yY_133 (by decide) ⟨Nat.le_refl _, Nat.le_refl _⟩ rfl (Nat.le_of_ble_eq_true rfl) dY_isPart_8 h (fun z1 r1 m1 h => ?_)
  obtain ⟨sw1, rfl, h⟩ := h
  exact q_bret rfl h.1 h.2 dY_isPart_11
theorem dY_arePart_0 : decode mY_arePart.2.1 0 = .ok (.iload_n 1, 1) := by decide +kernel
theorem dY_arePart_1 : decode mY_arePart.2.1 1 = .ok (.iconst 0, 1) := by decide +kernel
theorem dY_arePart_2 : decode mY_arePart.2.1 2 = .ok (.iconst 1, 1) := by decide +kernel
theorem dY_arePart_3 : decode mY_arePart.2.1 3 = .ok (.aload_n 0, 1) := by decide +kernel
theorem dY_arePart_4 : decode mY_arePart.2.1 4 = .ok (.getfield 130, 3) := by decide +kernel
theorem dY_arePart_7 : decode mY_arePart.2.1 7 = .ok (.ishl, 1) := by decide +kernel
theorem dY_arePart_8 : decode mY_arePart.2.1 8 = .ok (.iconst 1, 1) := by decide +kernel
theorem dY_arePart_9 : decode mY_arePart.2.1 9 = .ok (.isub, 1) := by decide +kernel
theorem dY_arePart_10 : decode mY_arePart.2.1 10 = .ok (.invokestatic 133, 3) := by decide +kernel
theorem dY_arePart_13 : decode mY_arePart.2.1 13 = .ok (.ifCond .eq 27, 3) := by decide +kernel
theorem dY_arePart_16 : decode mY_arePart.2.1 16 = .ok (.iload_n 2, 1) := by decide +kernel
theorem dY_arePart_17 : decode mY_arePart.2.1 17 = .ok (.iconst 0, 1) := by decide +kernel
theorem dY_arePart_18 : decode mY_arePart.2.1 18 = .ok (.bipush 12, 2) := by decide +kernel
theorem dY_arePart_20 : decode mY_arePart.2.1 20 = .ok (.invokestatic 133, 3) := by decide +kernel
theorem dY_arePart_23 : decode mY_arePart.2.1 23 = .ok (.ifCond .eq 17, 3) := by decide +kernel
theorem dY_arePart_26 : decode mY_arePart.2.1 26 = .ok (.iload_n 3, 1) := by decide +kernel
theorem dY_arePart_27 : decode mY_arePart.2.1 27 = .ok (.iconst 1, 1) := by decide +kernel
theorem dY_arePart_28 : decode mY_arePart.2.1 28 = .ok (.bipush 60, 2) := by decide +kernel
theorem dY_arePart_30 : decode mY_arePart.2.1 30 = .ok (.invokestatic 133, 3) := by decide +kernel
theorem dY_arePart_33 : decode mY_arePart.2.1 33 = .ok (.ifCond .eq 7, 3) := by decide +kernel
theorem dY_arePart_36 : decode mY_arePart.2.1 36 = .ok (.iconst 1, 1) := by decide +kernel
theorem dY_arePart_37 : decode mY_arePart.2.1 37 = .ok (.goto 4, 3) := by decide +kernel
theorem dY_arePart_40 : decode mY_arePart.2.1 40 = .ok (.iconst 0, 1) := by decide +kernel
theorem dY_arePart_41 : decode mY_arePart.2.1 41 = .ok (.ireturn, 1) := by decide +kernel
/- Y_arePart: (III)Z -/
set_option maxRecDepth 4000 in
theorem wY_arePart {X : Cx} (a1 a2 a3 : Int) (sw : Bool) (m : Mem) (Q : Int → Bool → Mem → Prop) (h : M2 X 1 mY_in [vi a1, vi 0, vi ((zshl 1 (m 84 1)) - 1)] sw m (fun z1 sw1 m1 => ((w32 z1 = 0 → Q 0 sw1 m1) ∧ (¬ (w32 z1 = 0) → M2 X 1 mY_in [vi a2, vi 0, vi 12] sw1 m1 (fun z2 sw2 m2 => ((w32 z2 = 0 → Q 0 sw2 m2) ∧ (¬ (w32 z2 = 0) → M2 X 1 mY_in [vi a3, vi 1, vi 60] sw2 m2 (fun z3 sw3 m3 => ((w32 z3 = 0 → Q 0 sw3 m3) ∧ (¬ (w32 z3 = 0) → Q 1 sw3 m3)))))))))) : M2 X 2 mY_arePart [vr 84, vi a1, vi a2, vi a3] sw m Q := by
  refine Mt.of pY_arePart (Nat.le_of_ble_eq_true rfl) (Nat.le_refl _) ?_
  show R2 X 2 mY_arePart 0 [(0, vr 84), (1, vi a1), (2, vi a2), (3, vi a3)] [] sw m Q
  refine r_iload_n 1 1 rfl dY_arePart_0 rfl ?_
  refine r_iconst dY_arePart_1 ?_
  refine r_iconst dY_arePart_2 ?_
  refine r_aload_n 0 0 rfl dY_arePart_3 rfl ?_
  refine q_getI 1 c84 fY_130 rfl rfl dY_arePart_4 ?_
  refine r_ishl dY_arePart_7 ?_
  refine r_iconst dY_arePart_8 ?_
  refine r_isub dY_arePart_9 ?_
  refine r_callSb [_, _, _] rfl oY_in iY_in yY_133 (by decide) ⟨Nat.le_refl _, Nat.le_refl _⟩ rfl (Nat.le_of_ble_eq_true rfl) dY_arePart_10 h (fun z1 r1 m1 h => ?_)
  obtain ⟨sw1, rfl, h⟩ := h
  refine r_if_eq (tgt := 40) dY_arePart_13 (by decide) (fun hc => ?_) (fun hc => ?_)
  · replace h := h.1 hc
    refine r_iconst dY_arePart_40 ?_
    exact q_bret rfl (Or.inl rfl) h dY_arePart_41
  · replace h := h.2 hc
    refine r_iload_n 2 2 rfl dY_arePart_16 rfl ?_
    refine r_iconst dY_arePart_17 ?_
    refine r_bipush (by decide) dY_arePart_18 ?_
    refine r_callSb [_, _, _] rfl oY_in iY_in yY_133 (by decide) ⟨Nat.le_refl _, Nat.le_refl _⟩ rfl (Nat.le_of_ble_eq_true rfl) dY_arePart_20 h (fun z2 r2 m2 h => ?_)
    obtain ⟨sw2, rfl, h⟩ := h
    refine r_if_eq (tgt := 40) dY_arePart_23 (by decide) (fun hc => ?_) (fun hc => ?_)
    · replace h := h.1 hc
      refine r_iconst dY_arePart_40 ?_
      exact q_bret rfl (Or.inl rfl) h dY_arePart_41
    · replace h := h.2 hc
      refine r_iload_n 3 3 rfl dY_arePart_26 rfl ?_
      refine r_iconst dY_arePart_27 ?_
      refine r_bipush (by decide) dY_arePart_28 ?_
      refine r_callSb [_, _, _] rfl oY_in iY_in yY_133 (by decide) ⟨Nat.le_refl _, Nat.le_refl _⟩ rfl (Nat.le_of_ble_eq_true rfl) dY_arePart_30 h (fun z3 r3 m3 h => ?_)
      obtain ⟨sw3, rfl, h⟩ := h
      refine r_if_eq (tgt := 40) dY_arePart_33 (by decide) (fun hc => ?_) (fun hc => ?_)
      · replace h := h.1 hc
        refine r_iconst dY_arePart_40 ?_
        exact q_bret rfl (Or.inl rfl) h dY_arePart_41
      · replace h := h.2 hc
        refine r_iconst dY_arePart_36 ?_
        refine r_goto (tgt := 41) dY_arePart_37 (by decide) ?_
        exact q_bret rfl (Or.inr rfl) h dY_arePart_41
theorem dY_addPart_0 : decode mY_addPart.2.1 0 = .ok (.aload_n 0, 1) := by decide +kernel
theorem dY_addPart_1 : decode mY_addPart.2.1 1 = .ok (.getfield 9, 3) := by decide +kernel
theorem dY_addPart_4 : decode mY_addPart.2.1 4 = .ok (.aload_n 0, 1) := by decide +kernel
theorem dY_addPart_5 : decode mY_addPart.2.1 5 = .ok (.getfield 130, 3) := by decide +kernel
theorem dY_addPart_8 : decode mY_addPart.2.1 8 = .ok (.iload_n 1, 1) := by decide +kernel
theorem dY_addPart_9 : decode mY_addPart.2.1 9 = .ok (.iastore, 1) := by decide +kernel
theorem dY_addPart_10 : decode mY_addPart.2.1 10 = .ok (.aload_n 0, 1) := by decide +kernel
theorem dY_addPart_11 : decode mY_addPart.2.1 11 = .ok (.getfield 15, 3) := by decide +kernel
theorem dY_addPart_14 : decode mY_addPart.2.1 14 = .ok (.aload_n 0, 1) := by decide +kernel
theorem dY_addPart_15 : decode mY_addPart.2.1 15 = .ok (.getfield 130, 3) := by decide +kernel
theorem dY_addPart_18 : decode mY_addPart.2.1 18 = .ok (.iconst 0, 1) := by decide +kernel
theorem dY_addPart_19 : decode mY_addPart.2.1 19 = .ok (.iastore, 1) := by decide +kernel
theorem dY_addPart_20 : decode mY_addPart.2.1 20 = .ok (.aload_n 0, 1) := by decide +kernel
theorem dY_addPart_21 : decode mY_addPart.2.1 21 = .ok (.getfield 18, 3) := by decide +kernel
theorem dY_addPart_24 : decode mY_addPart.2.1 24 = .ok (.aload_n 0, 1) := by decide +kernel
theorem dY_addPart_25 : decode mY_addPart.2.1 25 = .ok (.getfield 130, 3) := by decide +kernel
theorem dY_addPart_28 : decode mY_addPart.2.1 28 = .ok (.iload_n 2, 1) := by decide +kernel
theorem dY_addPart_29 : decode mY_addPart.2.1 29 = .ok (.iastore, 1) := by decide +kernel
theorem dY_addPart_30 : decode mY_addPart.2.1 30 = .ok (.aload_n 0, 1) := by decide +kernel
theorem dY_addPart_31 : decode mY_addPart.2.1 31 = .ok (.getfield 21, 3) := by decide +kernel
theorem dY_addPart_34 : decode mY_addPart.2.1 34 = .ok (.aload_n 0, 1) := by decide +kernel
theorem dY_addPart_35 : decode mY_addPart.2.1 35 = .ok (.getfield 130, 3) := by decide +kernel
theorem dY_addPart_38 : decode mY_addPart.2.1 38 = .ok (.iload_n 3, 1) := by decide +kernel
theorem dY_addPart_39 : decode mY_addPart.2.1 39 = .ok (.iastore, 1) := by decide +kernel
theorem dY_addPart_40 : decode mY_addPart.2.1 40 = .ok (.aload_n 0, 1) := by decide +kernel
theorem dY_addPart_41 : decode mY_addPart.2.1 41 = .ok (.getfield 24, 3) := by decide +kernel
theorem dY_addPart_44 : decode mY_addPart.2.1 44 = .ok (.aload_n 0, 1) := by decide +kernel
theorem dY_addPart_45 : decode mY_addPart.2.1 45 = .ok (.getfield 130, 3) := by decide +kernel
theorem dY_addPart_48 : decode mY_addPart.2.1 48 = .ok (.iconst 0, 1) := by decide +kernel
theorem dY_addPart_49 : decode mY_addPart.2.1 49 = .ok (.iastore, 1) := by decide +kernel
theorem dY_addPart_50 : decode mY_addPart.2.1 50 = .ok (.aload_n 0, 1) := by decide +kernel
theorem dY_addPart_51 : decode mY_addPart.2.1 51 = .ok (.getfield 27, 3) := by decide +kernel
theorem dY_addPart_54 : decode mY_addPart.2.1 54 = .ok (.aload_n 0, 1) := by decide +kernel
theorem dY_addPart_55 : decode mY_addPart.2.1 55 = .ok (.getfield 130, 3) := by decide +kernel
theorem dY_addPart_58 : decode mY_addPart.2.1 58 = .ok (.iconst 0, 1) := by decide +kernel
theorem dY_addPart_59 : decode mY_addPart.2.1 59 = .ok (.iastore, 1) := by decide +kernel
theorem dY_addPart_60 : decode mY_addPart.2.1 60 = .ok (.aload_n 0, 1) := by decide +kernel
theorem dY_addPart_61 : decode mY_addPart.2.1 61 = .ok (.dup, 1) := by decide +kernel
theorem dY_addPart_62 : decode mY_addPart.2.1 62 = .ok (.getfield 130, 3) := by decide +kernel
theorem dY_addPart_65 : decode mY_addPart.2.1 65 = .ok (.iconst 1, 1) := by decide +kernel
theorem dY_addPart_66 : decode mY_addPart.2.1 66 = .ok (.iadd, 1) := by decide +kernel
theorem dY_addPart_67 : decode mY_addPart.2.1 67 = .ok (.putfield 130, 3) := by decide +kernel
theorem dY_addPart_70 : decode mY_addPart.2.1 70 = .ok (.aload_n 0, 1) := by decide +kernel
theorem dY_addPart_71 : decode mY_addPart.2.1 71 = .ok (.getfield 130, 3) := by decide +kernel
theorem dY_addPart_74 : decode mY_addPart.2.1 74 = .ok (.iconst 1, 1) := by decide +kernel
theorem dY_addPart_75 : decode mY_addPart.2.1 75 = .ok (.isub, 1) := by decide +kernel
theorem dY_addPart_76 : decode mY_addPart.2.1 76 = .ok (.ireturn, 1) := by decide +kernel
/- Y_addPart: (III)I -/
set_option maxRecDepth 4000 in
theorem wY_addPart {X : Cx} (a1 a2 a3 : Int) (sw : Bool) (m : Mem) (Q : Int → Bool → Mem → Prop) (h : ((0 ≤ w32 (m 84 1) ∧ w32 (m 84 1) < 9) ∧ ((0 ≤ w32 (m 84 1) ∧ w32 (m 84 1) < 9) ∧ ((0 ≤ w32 (m 84 1) ∧ w32 (m 84 1) < 9) ∧ ((0 ≤ w32 (m 84 1) ∧ w32 (m 84 1) < 9) ∧ ((0 ≤ w32 (m 84 1) ∧ w32 (m 84 1) < 9) ∧ ((0 ≤ w32 (m 84 1) ∧ w32 (m 84 1) < 9) ∧ Q (((m 84 1) + 1) - 1) sw (upm (upm (upm (upm (upm (upm (upm m 85 (w32 (m 84 1)) a1) 86 (w32 (m 84 1)) 0) 87 (w32 (m 84 1)) a2) 88 (w32 (m 84 1)) a3) 89 (w32 (m 84 1)) 0) 90 (w32 (m 84 1)) 0) 84 1 ((m 84 1) + 1))))))))) : M2 X 1 mY_addPart [vr 84, vi a1, vi a2, vi a3] sw m Q := by
  refine Mt.of pY_addPart (Nat.le_of_ble_eq_true rfl) (Nat.le_refl _) ?_
  show R2 X 1 mY_addPart 0 [(0, vr 84), (1, vi a1), (2, vi a2), (3, vi a3)] [] sw m Q
  refine r_aload_n 0 0 rfl dY_addPart_0 rfl ?_
  refine q_getR 2 c84 fY_9 rfl rfl (g84_2 sw) (by decide) dY_addPart_1 ?_
  refine r_aload_n 0 0 rfl dY_addPart_4 rfl ?_
  refine q_getI 1 c84 fY_130 rfl rfl dY_addPart_5 ?_
  refine r_iload_n 1 1 rfl dY_addPart_8 rfl ?_
  refine q_iastore (w32 (m 84 1)) rfl c85 h.1 dY_addPart_9 ?_
  replace h := h.2
  refine r_aload_n 0 0 rfl dY_addPart_10 rfl ?_
  refine q_getR 3 c84 fY_15 rfl rfl (g84_3 sw) (by decide) dY_addPart_11 ?_
  refine r_aload_n 0 0 rfl dY_addPart_14 rfl ?_
  refine q_getI 1 c84 fY_130 rfl rfl dY_addPart_15 ?_
  refine r_iconst dY_addPart_18 ?_
  refine q_iastore (w32 (m 84 1)) rfl c86 h.1 dY_addPart_19 ?_
  replace h := h.2
  refine r_aload_n 0 0 rfl dY_addPart_20 rfl ?_
  refine q_getR 4 c84 fY_18 rfl rfl (g84_4 sw) (by decide) dY_addPart_21 ?_
  refine r_aload_n 0 0 rfl dY_addPart_24 rfl ?_
  refine q_getI 1 c84 fY_130 rfl rfl dY_addPart_25 ?_
  refine r_iload_n 2 2 rfl dY_addPart_28 rfl ?_
  refine q_iastore (w32 (m 84 1)) rfl c87 h.1 dY_addPart_29 ?_
  replace h := h.2
  refine r_aload_n 0 0 rfl dY_addPart_30 rfl ?_
  refine q_getR 5 c84 fY_21 rfl rfl (g84_5 sw) (by decide) dY_addPart_31 ?_
  refine r_aload_n 0 0 rfl dY_addPart_34 rfl ?_
  refine q_getI 1 c84 fY_130 rfl rfl dY_addPart_35 ?_
  refine r_iload_n 3 3 rfl dY_addPart_38 rfl ?_
  refine q_iastore (w32 (m 84 1)) rfl c88 h.1 dY_addPart_39 ?_
  replace h := h.2
  refine r_aload_n 0 0 rfl dY_addPart_40 rfl ?_
  refine q_getR 6 c84 fY_24 rfl rfl (g84_6 sw) (by decide) dY_addPart_41 ?_
  refine r_aload_n 0 0 rfl dY_addPart_44 rfl ?_
  refine q_getI 1 c84 fY_130 rfl rfl dY_addPart_45 ?_
  refine r_iconst dY_addPart_48 ?_
  refine q_iastore (w32 (m 84 1)) rfl c89 h.1 dY_addPart_49 ?_
  replace h := h.2
  refine r_aload_n 0 0 rfl dY_addPart_50 rfl ?_
  refine q_getR 7 c84 fY_27 rfl rfl (g84_7 sw) (by decide) dY_addPart_51 ?_
  refine r_aload_n 0 0 rfl dY_addPart_54 rfl ?_
  refine q_getI 1 c84 fY_130 rfl rfl dY_addPart_55 ?_
  refine r_iconst dY_addPart_58 ?_
  refine q_iastore (w32 (m 84 1)) rfl c90 h.1 dY_addPart_59 ?_
  replace h := h.2
  refine r_aload_n 0 0 rfl dY_addPart_60 rfl ?_
  refine r_dup (fun q => by cases q) dY_addPart_61 ?_
  refine q_getI 1 c84 fY_130 rfl rfl dY_addPart_62 ?_
  refine r_iconst dY_addPart_65 ?_
  refine r_iadd dY_addPart_66 ?_
  refine q_putI 1 c84 pfY_130 rfl rfl dY_addPart_67 ?_
  refine r_aload_n 0 0 rfl dY_addPart_70 rfl ?_
  refine q_getI 1 c84 fY_130 rfl rfl dY_addPart_71 ?_
  refine r_iconst dY_addPart_74 ?_
  refine r_isub dY_addPart_75 ?_
  exact q_iret rfl h dY_addPart_76
theorem dY_part_0 : decode mY_part.2.1 0 = .ok (.iload_n 2, 1) := by decide +kernel
theorem dY_part_1 : decode mY_part.2.1 1 = .ok (.ifCond .lt 19, 3) := by decide +kernel
theorem dY_part_4 : decode mY_part.2.1 4 = .ok (.aload_n 0, 1) := by decide +kernel
theorem dY_part_5 : decode mY_part.2.1 5 = .ok (.iload_n 1, 1) := by decide +kernel
theorem dY_part_6 : decode mY_part.2.1 6 = .ok (.iload_n 2, 1) := by decide +kernel
theorem dY_part_7 : decode mY_part.2.1 7 = .ok (.bipush 100, 2) := by decide +kernel
theorem dY_part_9 : decode mY_part.2.1 9 = .ok (.idiv, 1) := by decide +kernel
theorem dY_part_10 : decode mY_part.2.1 10 = .ok (.iload_n 2, 1) := by decide +kernel
theorem dY_part_11 : decode mY_part.2.1 11 = .ok (.bipush 100, 2) := by decide +kernel
theorem dY_part_13 : decode mY_part.2.1 13 = .ok (.irem, 1) := by decide +kernel
theorem dY_part_14 : decode mY_part.2.1 14 = .ok (.invokevirtual 137, 3) := by decide +kernel
theorem dY_part_17 : decode mY_part.2.1 17 = .ok (.ifCond .ne 5, 3) := by decide +kernel
theorem dY_part_20 : decode mY_part.2.1 20 = .ok (.iconst (-1), 1) := by decide +kernel
theorem dY_part_21 : decode mY_part.2.1 21 = .ok (.ireturn, 1) := by decide +kernel
theorem dY_part_22 : decode mY_part.2.1 22 = .ok (.aload_n 0, 1) := by decide +kernel
theorem dY_part_23 : decode mY_part.2.1 23 = .ok (.getfield 130, 3) := by decide +kernel
theorem dY_part_26 : decode mY_part.2.1 26 = .ok (.bipush 9, 2) := by decide +kernel
theorem dY_part_28 : decode mY_part.2.1 28 = .ok (.if_icmp .ne 8, 3) := by decide +kernel
theorem dY_part_31 : decode mY_part.2.1 31 = .ok (.bipush (-3), 2) := by decide +kernel
theorem dY_part_33 : decode mY_part.2.1 33 = .ok (.goto 16, 3) := by decide +kernel
theorem dY_part_36 : decode mY_part.2.1 36 = .ok (.aload_n 0, 1) := by decide +kernel
theorem dY_part_37 : decode mY_part.2.1 37 = .ok (.iload_n 1, 1) := by decide +kernel
theorem dY_part_38 : decode mY_part.2.1 38 = .ok (.iload_n 2, 1) := by decide +kernel
theorem dY_part_39 : decode mY_part.2.1 39 = .ok (.bipush 100, 2) := by decide +kernel
theorem dY_part_41 : decode mY_part.2.1 41 = .ok (.idiv, 1) := by decide +kernel
theorem dY_part_42 : decode mY_part.2.1 42 = .ok (.iload_n 2, 1) := by decide +kernel
theorem dY_part_43 : decode mY_part.2.1 43 = .ok (.bipush 100, 2) := by decide +kernel
theorem dY_part_45 : decode mY_part.2.1 45 = .ok (.irem, 1) := by decide +kernel
theorem dY_part_46 : decode mY_part.2.1 46 = .ok (.invokevirtual 140, 3) := by decide +kernel
theorem dY_part_49 : decode mY_part.2.1 49 = .ok (.ireturn, 1) := by decide +kernel
/- Y_part: (II)I -/
set_option maxRecDepth 4000 in
theorem wY_part {X : Cx} (a1 a2 : Int) (sw : Bool) (m : Mem) (Q : Int → Bool → Mem → Prop) (h : ((w32 a2 < 0 → Q (-1) sw m) ∧ (¬ (w32 a2 < 0) → M2 X 2 mY_arePart [vr 84, vi a1, vi (zdiv a2 100), vi (zrem a2 100)] sw m (fun z1 sw1 m1 => ((¬ w32 z1 = 0 → ((¬ w32 (m1 84 1) = 9 → M2 X 1 mY_addPart [vr 84, vi a1, vi (zdiv a2 100), vi (zrem a2 100)] sw1 m1 (fun z2 sw2 m2 => Q z2 sw2 m2)) ∧ (¬ (¬ w32 (m1 84 1) = 9) → Q (-3) sw1 m1))) ∧ (¬ (¬ w32 z1 = 0) → Q (-1) sw1 m1)))))) : M2 X 3 mY_part [vr 84, vi a1, vi a2] sw m Q := by
  refine Mt.of pY_part (Nat.le_of_ble_eq_true rfl) (Nat.le_refl _) ?_
  show R2 X 3 mY_part 0 [(0, vr 84), (1, vi a1), (2, vi a2)] [] sw m Q
  refine r_iload_n 2 2 rfl dY_part_0 rfl ?_
  refine r_if_lt (tgt := 20) dY_part_1 (by decide) (fun hc => ?_) (fun hc => ?_)
  · replace h := h.1 hc
    refine r_iconst dY_part_20 ?_
    exact q_iret rfl h dY_part_21
  · replace h := h.2 hc
    refine r_aload_n 0 0 rfl dY_part_4 rfl ?_
    refine r_iload_n 1 1 rfl dY_part_5 rfl ?_
    refine r_iload_n 2 2 rfl dY_part_6 rfl ?_
    refine r_bipush (by decide) dY_part_7 ?_
    refine r_idiv (by decide) dY_part_9 ?_
    refine r_iload_n 2 2 rfl dY_part_10 rfl ?_
    refine r_bipush (by decide) dY_part_11 ?_
    refine r_irem (by decide) dY_part_13 ?_
    refine r_callVb 12 [_, _, _] rfl c84 rfl rfl oY_arePart iY_arePart sY_arePart yY_137 (by decide) ⟨Nat.le_refl _, Nat.le_refl _⟩ rfl (Nat.le_of_ble_eq_true rfl) dY_part_14 h (fun z1 r1 m1 h => ?_)
    obtain ⟨sw1, rfl, h⟩ := h
    refine r_if_ne (tgt := 22) dY_part_17 (by decide) (fun hc => ?_) (fun hc => ?_)
    · replace h := h.1 hc
      refine r_aload_n 0 0 rfl dY_part_22 rfl ?_
      refine q_getI 1 c84 fY_130 rfl rfl dY_part_23 ?_
      refine r_bipush (by decide) dY_part_26 ?_
      refine r_ifc_ne (tgt := 36) dY_part_28 (by decide) (fun hc => ?_) (fun hc => ?_)
      · replace h := h.1 hc
        refine r_aload_n 0 0 rfl dY_part_36 rfl ?_
        refine r_iload_n 1 1 rfl dY_part_37 rfl ?_
        refine r_iload_n 2 2 rfl dY_part_38 rfl ?_
        refine r_bipush (by decide) dY_part_39 ?_
        refine r_idiv (by decide) dY_part_41 ?_
        refine r_iload_n 2 2 rfl dY_part_42 rfl ?_
        refine r_bipush (by decide) dY_part_43 ?_
        refine r_irem (by decide) dY_part_45 ?_
        refine r_callVi 12 [_, _, _] rfl c84 rfl rfl oY_addPart iY_addPart sY_addPart yY_140 (by decide) ⟨Nat.le_refl _, Nat.le_refl _⟩ rfl (Nat.le_of_ble_eq_true rfl) dY_part_46 h (fun z2 r2 m2 h => ?_)
        obtain ⟨sw2, rfl, h⟩ := h
        exact q_iret rfl h dY_part_49
      · replace h := h.2 hc
        refine r_bipush (by decide) dY_part_31 ?_
        refine r_goto (tgt := 49) dY_part_33 (by decide) ?_
        exact q_iret rfl h dY_part_49
    · replace h := h.2 hc
      refine r_iconst dY_part_20 ?_
      exact q_iret rfl h dY_part_21
theorem dY_parts_0 : decode mY_parts.2.1 0 = .ok (.iload_n 1, 1) := by decide +kernel
theorem dY_parts_1 : decode mY_parts.2.1 1 = .ok (.invokestatic 144, 3) := by decide +kernel
theorem dY_parts_4 : decode mY_parts.2.1 4 = .ok (.ifCond .eq 13, 3) := by decide +kernel
theorem dY_parts_7 : decode mY_parts.2.1 7 = .ok (.iload_n 3, 1) := by decide +kernel
theorem dY_parts_8 : decode mY_parts.2.1 8 = .ok (.iconst 1, 1) := by decide +kernel
theorem dY_parts_9 : decode mY_parts.2.1 9 = .ok (.bipush 9, 2) := by decide +kernel
theorem dY_parts_11 : decode mY_parts.2.1 11 = .ok (.invokestatic 133, 3) := by decide +kernel
theorem dY_parts_14 : decode mY_parts.2.1 14 = .ok (.ifCond .ne 5, 3) := by decide +kernel
theorem dY_parts_17 : decode mY_parts.2.1 17 = .ok (.iconst (-1), 1) := by decide +kernel
theorem dY_parts_18 : decode mY_parts.2.1 18 = .ok (.ireturn, 1) := by decide +kernel
theorem dY_parts_19 : decode mY_parts.2.1 19 = .ok (.aload_n 0, 1) := by decide +kernel
theorem dY_parts_20 : decode mY_parts.2.1 20 = .ok (.getfield 115, 3) := by decide +kernel
theorem dY_parts_23 : decode mY_parts.2.1 23 = .ok (.iload_n 1, 1) := by decide +kernel
theorem dY_parts_24 : decode mY_parts.2.1 24 = .ok (.iaload, 1) := by decide +kernel
theorem dY_parts_25 : decode mY_parts.2.1 25 = .ok (.iconst (-1), 1) := by decide +kernel
theorem dY_parts_26 : decode mY_parts.2.1 26 = .ok (.if_icmp .eq 17, 3) := by decide +kernel
theorem dY_parts_29 : decode mY_parts.2.1 29 = .ok (.aload_n 0, 1) := by decide +kernel
theorem dY_parts_30 : decode mY_parts.2.1 30 = .ok (.getfield 115, 3) := by decide +kernel
theorem dY_parts_33 : decode mY_parts.2.1 33 = .ok (.iload_n 1, 1) := by decide +kernel
theorem dY_parts_34 : decode mY_parts.2.1 34 = .ok (.iaload, 1) := by decide +kernel
theorem dY_parts_35 : decode mY_parts.2.1 35 = .ok (.bipush (-3), 2) := by decide +kernel
theorem dY_parts_37 : decode mY_parts.2.1 37 = .ok (.if_icmp .eq 6, 3) := by decide +kernel
theorem dY_parts_40 : decode mY_parts.2.1 40 = .ok (.bipush (-12), 2) := by decide +kernel
theorem dY_parts_42 : decode mY_parts.2.1 42 = .ok (.ireturn, 1) := by decide +kernel
theorem dY_parts_43 : decode mY_parts.2.1 43 = .ok (.aload_n 0, 1) := by decide +kernel
theorem dY_parts_44 : decode mY_parts.2.1 44 = .ok (.getfield 115, 3) := by decide +kernel
theorem dY_parts_47 : decode mY_parts.2.1 47 = .ok (.iload_n 1, 1) := by decide +kernel
theorem dY_parts_48 : decode mY_parts.2.1 48 = .ok (.iaload, 1) := by decide +kernel
theorem dY_parts_49 : decode mY_parts.2.1 49 = .ok (.iconst (-1), 1) := by decide +kernel
theorem dY_parts_50 : decode mY_parts.2.1 50 = .ok (.if_icmp .ne 5, 3) := by decide +kernel
theorem dY_parts_53 : decode mY_parts.2.1 53 = .ok (.iconst 0, 1) := by decide +kernel
theorem dY_parts_54 : decode mY_parts.2.1 54 = .ok (.ireturn, 1) := by decide +kernel
theorem dY_parts_55 : decode mY_parts.2.1 55 = .ok (.iconst 0, 1) := by decide +kernel
theorem dY_parts_56 : decode mY_parts.2.1 56 = .ok (.istore 4, 2) := by decide +kernel
theorem dY_parts_58 : decode mY_parts.2.1 58 = .ok (.iload 4, 2) := by decide +kernel
theorem dY_parts_60 : decode mY_parts.2.1 60 = .ok (.iload_n 3, 1) := by decide +kernel
theorem dY_parts_61 : decode mY_parts.2.1 61 = .ok (.if_icmp .ge 136, 3) := by decide +kernel
theorem dY_parts_64 : decode mY_parts.2.1 64 = .ok (.iload_n 2, 1) := by decide +kernel
theorem dY_parts_65 : decode mY_parts.2.1 65 = .ok (.i2l, 1) := by decide +kernel
theorem dY_parts_66 : decode mY_parts.2.1 66 = .ok (.iconst 3, 1) := by decide +kernel
theorem dY_parts_67 : decode mY_parts.2.1 67 = .ok (.iload 4, 2) := by decide +kernel
theorem dY_parts_69 : decode mY_parts.2.1 69 = .ok (.imul, 1) := by decide +kernel
theorem dY_parts_70 : decode mY_parts.2.1 70 = .ok (.i2l, 1) := by decide +kernel
theorem dY_parts_71 : decode mY_parts.2.1 71 = .ok (.ladd, 1) := by decide +kernel
theorem dY_parts_72 : decode mY_parts.2.1 72 = .ok (.lstore 5, 2) := by decide +kernel
theorem dY_parts_74 : decode mY_parts.2.1 74 = .ok (.lload 5, 2) := by decide +kernel
theorem dY_parts_76 : decode mY_parts.2.1 76 = .ok (.lconst 0, 1) := by decide +kernel
theorem dY_parts_77 : decode mY_parts.2.1 77 = .ok (.lcmp, 1) := by decide +kernel
theorem dY_parts_78 : decode mY_parts.2.1 78 = .ok (.ifCond .lt 29, 3) := by decide +kernel
theorem dY_parts_81 : decode mY_parts.2.1 81 = .ok (.lload 5, 2) := by decide +kernel
theorem dY_parts_83 : decode mY_parts.2.1 83 = .ok (.ldc2_w 148, 3) := by decide +kernel
theorem dY_parts_86 : decode mY_parts.2.1 86 = .ok (.ladd, 1) := by decide +kernel
theorem dY_parts_87 : decode mY_parts.2.1 87 = .ok (.aload_n 0, 1) := by decide +kernel
theorem dY_parts_88 : decode mY_parts.2.1 88 = .ok (.getfield 118, 3) := by decide +kernel
theorem dY_parts_91 : decode mY_parts.2.1 91 = .ok (.iload_n 1, 1) := by decide +kernel
theorem dY_parts_92 : decode mY_parts.2.1 92 = .ok (.iaload, 1) := by decide +kernel
theorem dY_parts_93 : decode mY_parts.2.1 93 = .ok (.i2l, 1) := by decide +kernel
theorem dY_parts_94 : decode mY_parts.2.1 94 = .ok (.lcmp, 1) := by decide +kernel
theorem dY_parts_95 : decode mY_parts.2.1 95 = .ok (.ifCond .ge 12, 3) := by decide +kernel
theorem dY_parts_98 : decode mY_parts.2.1 98 = .ok (.aload_n 0, 1) := by decide +kernel
theorem dY_parts_99 : decode mY_parts.2.1 99 = .ok (.getfield 130, 3) := by decide +kernel
theorem dY_parts_102 : decode mY_parts.2.1 102 = .ok (.bipush 9, 2) := by decide +kernel
theorem dY_parts_104 : decode mY_parts.2.1 104 = .ok (.if_icmp .ne 6, 3) := by decide +kernel
theorem dY_parts_107 : decode mY_parts.2.1 107 = .ok (.iload 4, 2) := by decide +kernel
theorem dY_parts_109 : decode mY_parts.2.1 109 = .ok (.ireturn, 1) := by decide +kernel
theorem dY_parts_110 : decode mY_parts.2.1 110 = .ok (.bipush 60, 2) := by decide +kernel
theorem dY_parts_112 : decode mY_parts.2.1 112 = .ok (.iload_n 1, 1) := by decide +kernel
theorem dY_parts_113 : decode mY_parts.2.1 113 = .ok (.imul, 1) := by decide +kernel
theorem dY_parts_114 : decode mY_parts.2.1 114 = .ok (.lload 5, 2) := by decide +kernel
theorem dY_parts_116 : decode mY_parts.2.1 116 = .ok (.l2i, 1) := by decide +kernel
theorem dY_parts_117 : decode mY_parts.2.1 117 = .ok (.iadd, 1) := by decide +kernel
theorem dY_parts_118 : decode mY_parts.2.1 118 = .ok (.istore 7, 2) := by decide +kernel
theorem dY_parts_120 : decode mY_parts.2.1 120 = .ok (.aload_n 0, 1) := by decide +kernel
theorem dY_parts_121 : decode mY_parts.2.1 121 = .ok (.aload_n 0, 1) := by decide +kernel
theorem dY_parts_122 : decode mY_parts.2.1 122 = .ok (.getfield 121, 3) := by decide +kernel
theorem dY_parts_125 : decode mY_parts.2.1 125 = .ok (.iload 7, 2) := by decide +kernel
theorem dY_parts_127 : decode mY_parts.2.1 127 = .ok (.laload, 1) := by decide +kernel
theorem dY_parts_128 : decode mY_parts.2.1 128 = .ok (.l2i, 1) := by decide +kernel
theorem dY_parts_129 : decode mY_parts.2.1 129 = .ok (.aload_n 0, 1) := by decide +kernel
theorem dY_parts_130 : decode mY_parts.2.1 130 = .ok (.getfield 121, 3) := by decide +kernel
theorem dY_parts_133 : decode mY_parts.2.1 133 = .ok (.iload 7, 2) := by decide +kernel
theorem dY_parts_135 : decode mY_parts.2.1 135 = .ok (.iconst 1, 1) := by decide +kernel
theorem dY_parts_136 : decode mY_parts.2.1 136 = .ok (.iadd, 1) := by decide +kernel
theorem dY_parts_137 : decode mY_parts.2.1 137 = .ok (.laload, 1) := by decide +kernel
theorem dY_parts_138 : decode mY_parts.2.1 138 = .ok (.l2i, 1) := by decide +kernel
theorem dY_parts_139 : decode mY_parts.2.1 139 = .ok (.aload_n 0, 1) := by decide +kernel
theorem dY_parts_140 : decode mY_parts.2.1 140 = .ok (.getfield 121, 3) := by decide +kernel
theorem dY_parts_143 : decode mY_parts.2.1 143 = .ok (.iload 7, 2) := by decide +kernel
theorem dY_parts_145 : decode mY_parts.2.1 145 = .ok (.iconst 2, 1) := by decide +kernel
theorem dY_parts_146 : decode mY_parts.2.1 146 = .ok (.iadd, 1) := by decide +kernel
theorem dY_parts_147 : decode mY_parts.2.1 147 = .ok (.laload, 1) := by decide +kernel
theorem dY_parts_148 : decode mY_parts.2.1 148 = .ok (.l2i, 1) := by decide +kernel
theorem dY_parts_149 : decode mY_parts.2.1 149 = .ok (.invokevirtual 137, 3) := by decide +kernel
theorem dY_parts_152 : decode mY_parts.2.1 152 = .ok (.ifCond .ne 6, 3) := by decide +kernel
theorem dY_parts_155 : decode mY_parts.2.1 155 = .ok (.iload 4, 2) := by decide +kernel
theorem dY_parts_157 : decode mY_parts.2.1 157 = .ok (.ireturn, 1) := by decide +kernel
theorem dY_parts_158 : decode mY_parts.2.1 158 = .ok (.aload_n 0, 1) := by decide +kernel
theorem dY_parts_159 : decode mY_parts.2.1 159 = .ok (.aload_n 0, 1) := by decide +kernel
theorem dY_parts_160 : decode mY_parts.2.1 160 = .ok (.getfield 121, 3) := by decide +kernel
theorem dY_parts_163 : decode mY_parts.2.1 163 = .ok (.iload 7, 2) := by decide +kernel
theorem dY_parts_165 : decode mY_parts.2.1 165 = .ok (.laload, 1) := by decide +kernel
theorem dY_parts_166 : decode mY_parts.2.1 166 = .ok (.l2i, 1) := by decide +kernel
theorem dY_parts_167 : decode mY_parts.2.1 167 = .ok (.aload_n 0, 1) := by decide +kernel
theorem dY_parts_168 : decode mY_parts.2.1 168 = .ok (.getfield 121, 3) := by decide +kernel
theorem dY_parts_171 : decode mY_parts.2.1 171 = .ok (.iload 7, 2) := by decide +kernel
theorem dY_parts_173 : decode mY_parts.2.1 173 = .ok (.iconst 1, 1) := by decide +kernel
theorem dY_parts_174 : decode mY_parts.2.1 174 = .ok (.iadd, 1) := by decide +kernel
theorem dY_parts_175 : decode mY_parts.2.1 175 = .ok (.laload, 1) := by decide +kernel
theorem dY_parts_176 : decode mY_parts.2.1 176 = .ok (.l2i, 1) := by decide +kernel
theorem dY_parts_177 : decode mY_parts.2.1 177 = .ok (.aload_n 0, 1) := by decide +kernel
theorem dY_parts_178 : decode mY_parts.2.1 178 = .ok (.getfield 121, 3) := by decide +kernel
theorem dY_parts_181 : decode mY_parts.2.1 181 = .ok (.iload 7, 2) := by decide +kernel
theorem dY_parts_183 : decode mY_parts.2.1 183 = .ok (.iconst 2, 1) := by decide +kernel
theorem dY_parts_184 : decode mY_parts.2.1 184 = .ok (.iadd, 1) := by decide +kernel
theorem dY_parts_185 : decode mY_parts.2.1 185 = .ok (.laload, 1) := by decide +kernel
theorem dY_parts_186 : decode mY_parts.2.1 186 = .ok (.l2i, 1) := by decide +kernel
theorem dY_parts_187 : decode mY_parts.2.1 187 = .ok (.invokevirtual 140, 3) := by decide +kernel
theorem dY_parts_190 : decode mY_parts.2.1 190 = .ok (.pop, 1) := by decide +kernel
theorem dY_parts_191 : decode mY_parts.2.1 191 = .ok (.iinc 4 1, 3) := by decide +kernel
theorem dY_parts_194 : decode mY_parts.2.1 194 = .ok (.goto (-136), 3) := by decide +kernel
theorem dY_parts_197 : decode mY_parts.2.1 197 = .ok (.iload_n 3, 1) := by decide +kernel
theorem dY_parts_198 : decode mY_parts.2.1 198 = .ok (.ireturn, 1) := by decide +kernel
/- Y_parts: (III)I -/
set_option maxRecDepth 4000 in
theorem wY_parts {X : Cx} (a1 a2 a3 : Int) (sw : Bool) (m : Mem) (Q : Int → Bool → Mem → Prop) (h : M2 X 2 mY_isShelf [vi a1] sw m (fun z1 sw1 m1 => ((w32 z1 = 0 → Q (-1) sw1 m1) ∧ (¬ (w32 z1 = 0) → M2 X 1 mY_in [vi a3, vi 1, vi 9] sw1 m1 (fun z2 sw2 m2 => ((¬ w32 z2 = 0 → ((0 ≤ w32 a1 ∧ w32 a1 < 6) ∧ ((w32 (m2 117 (w32 a1)) = (-1) → ((0 ≤ w32 a1 ∧ w32 a1 < 6) ∧ ((¬ w32 (m2 117 (w32 a1)) = (-1) → R2 X 3 mY_parts 58 [(0, vr 84), (1, vi a1), (2, vi a2), (3, vi a3), (4, vi 0)] [] sw2 m2 Q) ∧ (¬ (¬ w32 (m2 117 (w32 a1)) = (-1)) → Q 0 sw2 m2)))) ∧ (¬ (w32 (m2 117 (w32 a1)) = (-1)) → ((0 ≤ w32 a1 ∧ w32 a1 < 6) ∧ ((w32 (m2 117 (w32 a1)) = (-3) → ((0 ≤ w32 a1 ∧ w32 a1 < 6) ∧ ((¬ w32 (m2 117 (w32 a1)) = (-1) → R2 X 3 mY_parts 58 [(0, vr 84), (1, vi a1), (2, vi a2), (3, vi a3), (4, vi 0)] [] sw2 m2 Q) ∧ (¬ (¬ w32 (m2 117 (w32 a1)) = (-1)) → Q 0 sw2 m2)))) ∧ (¬ (w32 (m2 117 (w32 a1)) = (-3)) → Q (-12) sw2 m2))))))) ∧ (¬ (¬ w32 z2 = 0) → Q (-1) sw2 m2))))))) : M2 X 3 mY_parts [vr 84, vi a1, vi a2, vi a3] sw m Q := by
  refine Mt.of pY_parts (Nat.le_of_ble_eq_true rfl) (Nat.le_refl _) ?_
  show R2 X 3 mY_parts 0 [(0, vr 84), (1, vi a1), (2, vi a2), (3, vi a3)] [] sw m Q
  refine r_iload_n 1 1 rfl dY_parts_0 rfl ?_
  refine r_callSb [_] rfl oY_isShelf iY_isShelf yY_144 (by decide) ⟨Nat.le_refl _, Nat.le_refl _⟩ rfl (Nat.le_of_ble_eq_true rfl) dY_parts_1 h (fun z1 r1 m1 h => ?_)
  obtain ⟨sw1, rfl, h⟩ := h
  refine r_if_eq (tgt := 17) dY_parts_4 (by decide) (fun hc => ?_) (fun hc => ?_)
  · replace h := h.1 hc
    refine r_iconst dY_parts_17 ?_
    exact q_iret rfl h dY_parts_18
  · replace h := h.2 hc
    refine r_iload_n 3 3 rfl dY_parts_7 rfl ?_
    refine r_iconst dY_parts_8 ?_
    refine r_bipush (by decide) dY_parts_9 ?_
    refine r_callSb [_, _, _] rfl oY_in iY_in yY_133 (by decide) ⟨Nat.le_refl _, Nat.le_refl _⟩ rfl (Nat.le_of_ble_eq_true rfl) dY_parts_11 h (fun z2 r2 m2 h => ?_)
    obtain ⟨sw2, rfl, h⟩ := h
    refine r_if_ne (tgt := 19) dY_parts_14 (by decide) (fun hc => ?_) (fun hc => ?_)
    · replace h := h.1 hc
      refine r_aload_n 0 0 rfl dY_parts_19 rfl ?_
      refine q_getR 51 c84 fY_115 rfl rfl (g84_51 sw2) (by decide) dY_parts_20 ?_
      refine r_iload_n 1 1 rfl dY_parts_23 rfl ?_
      refine q_iaload (w32 a1) rfl c117 h.1 dY_parts_24 ?_
      replace h := h.2
      refine r_iconst dY_parts_25 ?_
      refine r_ifc_eq (tgt := 43) dY_parts_26 (by decide) (fun hc => ?_) (fun hc => ?_)
      · replace h := h.1 hc
        refine r_aload_n 0 0 rfl dY_parts_43 rfl ?_
        refine q_getR 51 c84 fY_115 rfl rfl (g84_51 sw2) (by decide) dY_parts_44 ?_
        refine r_iload_n 1 1 rfl dY_parts_47 rfl ?_
        refine q_iaload (w32 a1) rfl c117 h.1 dY_parts_48 ?_
        replace h := h.2
        refine r_iconst dY_parts_49 ?_
        refine r_ifc_ne (tgt := 55) dY_parts_50 (by decide) (fun hc => ?_) (fun hc => ?_)
        · replace h := h.1 hc
          refine r_iconst dY_parts_55 ?_
          refine r_istore 4 (by decide) dY_parts_56 ?_
          refine r_sub [1, 2, 3, 4, 0] ?_ h
          rfl
        · replace h := h.2 hc
          refine r_iconst dY_parts_53 ?_
          exact q_iret rfl h dY_parts_54
      · replace h := h.2 hc
        refine r_aload_n 0 0 rfl dY_parts_29 rfl ?_
        refine q_getR 51 c84 fY_115 rfl rfl (g84_51 sw2) (by decide) dY_parts_30 ?_
        refine r_iload_n 1 1 rfl dY_parts_33 rfl ?_
        refine q_iaload (w32 a1) rfl c117 h.1 dY_parts_34 ?_
        replace h := h.2
        refine r_bipush (by decide) dY_parts_35 ?_
        refine r_ifc_eq (tgt := 43) dY_parts_37 (by decide) (fun hc => ?_) (fun hc => ?_)
        · replace h := h.1 hc
          refine r_aload_n 0 0 rfl dY_parts_43 rfl ?_
          refine q_getR 51 c84 fY_115 rfl rfl (g84_51 sw2) (by decide) dY_parts_44 ?_
          refine r_iload_n 1 1 rfl dY_parts_47 rfl ?_
          refine q_iaload (w32 a1) rfl c117 h.1 dY_parts_48 ?_
          replace h := h.2
          refine r_iconst dY_parts_49 ?_
          refine r_ifc_ne (tgt := 55) dY_parts_50 (by decide) (fun hc => ?_) (fun hc => ?_)
          · replace h := h.1 hc
            refine r_iconst dY_parts_55 ?_
            refine r_istore 4 (by decide) dY_parts_56 ?_
            refine r_sub [1, 2, 3, 4, 0] ?_ h
            rfl
          · replace h := h.2 hc
            refine r_iconst dY_parts_53 ?_
            exact q_iret rfl h dY_parts_54
        · replace h := h.2 hc
          refine r_bipush (by decide) dY_parts_40 ?_
          exact q_iret rfl h dY_parts_42
    · replace h := h.2 hc
      refine r_iconst dY_parts_17 ?_
      exact q_iret rfl h dY_parts_18
set_option maxRecDepth 4000 in
theorem wY_parts_58 {X : Cx} (x1 x2 x3 x4 : Int) (sw : Bool) (m : Mem) (Q : Int → Bool → Mem → Prop) (h : ((w32 x3 ≤ w32 x4 → Q x3 sw m) ∧ (¬ (w32 x3 ≤ w32 x4) → ((w64 (w32 x2 + w32 (3 * x4)) < 0 → Q x4 sw m) ∧ (¬ (w64 (w32 x2 + w32 (3 * x4)) < 0) → ((0 ≤ w32 x1 ∧ w32 x1 < 6) ∧ ((w64 (w32 (m 118 (w32 x1))) ≤ w64 ((w32 x2 + w32 (3 * x4)) + 2) → Q x4 sw m) ∧ (¬ (w64 (w32 (m 118 (w32 x1))) ≤ w64 ((w32 x2 + w32 (3 * x4)) + 2)) → ((¬ w32 (m 84 1) = 9 → ((0 ≤ w32 ((60 * x1) + (w32 x2 + w32 (3 * x4))) ∧ w32 ((60 * x1) + (w32 x2 + w32 (3 * x4))) < 360) ∧ ((0 ≤ w32 (((60 * x1) + (w32 x2 + w32 (3 * x4))) + 1) ∧ w32 (((60 * x1) + (w32 x2 + w32 (3 * x4))) + 1) < 360) ∧ ((0 ≤ w32 (((60 * x1) + (w32 x2 + w32 (3 * x4))) + 2) ∧ w32 (((60 * x1) + (w32 x2 + w32 (3 * x4))) + 2) < 360) ∧ M2 X 2 mY_arePart [vr 84, vi (m 119 (w32 ((60 * x1) + (w32 x2 + w32 (3 * x4))))), vi (m 119 (w32 (((60 * x1) + (w32 x2 + w32 (3 * x4))) + 1))), vi (m 119 (w32 (((60 * x1) + (w32 x2 + w32 (3 * x4))) + 2)))] sw m (fun z1 sw1 m1 => ((¬ w32 z1 = 0 → ((0 ≤ w32 ((60 * x1) + (w32 x2 + w32 (3 * x4))) ∧ w32 ((60 * x1) + (w32 x2 + w32 (3 * x4))) < 360) ∧ ((0 ≤ w32 (((60 * x1) + (w32 x2 + w32 (3 * x4))) + 1) ∧ w32 (((60 * x1) + (w32 x2 + w32 (3 * x4))) + 1) < 360) ∧ ((0 ≤ w32 (((60 * x1) + (w32 x2 + w32 (3 * x4))) + 2) ∧ w32 (((60 * x1) + (w32 x2 + w32 (3 * x4))) + 2) < 360) ∧ M2 X 1 mY_addPart [vr 84, vi (m1 119 (w32 ((60 * x1) + (w32 x2 + w32 (3 * x4))))), vi (m1 119 (w32 (((60 * x1) + (w32 x2 + w32 (3 * x4))) + 1))), vi (m1 119 (w32 (((60 * x1) + (w32 x2 + w32 (3 * x4))) + 2)))] sw1 m1 (fun z2 sw2 m2 => R2 X 3 mY_parts 58 [(0, vr 84), (1, vi x1), (2, vi x2), (3, vi x3), (4, vi (x4 + 1))] [] sw2 m2 Q))))) ∧ (¬ (¬ w32 z1 = 0) → Q x4 sw1 m1))))))) ∧ (¬ (¬ w32 (m 84 1) = 9) → Q x4 sw m)))))))))) : R2 X 3 mY_parts 58 [(0, vr 84), (1, vi x1), (2, vi x2), (3, vi x3), (4, vi x4)] [] sw m Q := by
  refine r_iload 4 4 rfl dY_parts_58 ?_
  refine r_iload_n 3 3 rfl dY_parts_60 rfl ?_
  refine r_ifc_ge (tgt := 197) dY_parts_61 (by decide) (fun hc => ?_) (fun hc => ?_)
  · replace h := h.1 hc
    refine r_iload_n 3 3 rfl dY_parts_197 rfl ?_
    exact q_iret rfl h dY_parts_198
  · replace h := h.2 hc
    refine r_iload_n 2 2 rfl dY_parts_64 rfl ?_
    refine r_i2l dY_parts_65 ?_
    refine r_iconst dY_parts_66 ?_
    refine r_iload 4 4 rfl dY_parts_67 ?_
    refine r_imul dY_parts_69 ?_
    refine r_i2l dY_parts_70 ?_
    refine r_ladd dY_parts_71 ?_
    refine r_lstore 5 (by decide) dY_parts_72 ?_
    refine r_lload 5 0 rfl dY_parts_74 ?_
    refine r_lconst dY_parts_76 ?_
    refine q_lc_lt (tgt := 107) (A := w64 (w32 x2 + w32 (3 * x4))) (B := 0) rfl (by decide +kernel) dY_parts_77 dY_parts_78 (by decide) (fun hc => ?_) (fun hc => ?_)
    · replace h := h.1 hc
      refine r_iload 4 5 rfl dY_parts_107 ?_
      exact q_iret rfl h dY_parts_109
    · replace h := h.2 hc
      refine r_lload 5 0 rfl dY_parts_81 ?_
      refine r_ldc2 (z := 2) dY_parts_83 kY_148 ?_
      refine r_ladd dY_parts_86 ?_
      refine r_aload_n 0 1 rfl dY_parts_87 rfl ?_
      refine q_getR 52 c84 fY_118 rfl rfl (g84_52 sw) (by decide) dY_parts_88 ?_
      refine r_iload_n 1 2 rfl dY_parts_91 rfl ?_
      refine q_iaload (w32 x1) rfl c118 h.1 dY_parts_92 ?_
      replace h := h.2
      refine r_i2l dY_parts_93 ?_
      refine q_lc_ge (tgt := 107) (A := w64 ((w32 x2 + w32 (3 * x4)) + 2)) (B := w64 (w32 (m 118 (w32 x1)))) rfl rfl dY_parts_94 dY_parts_95 (by decide) (fun hc => ?_) (fun hc => ?_)
      · replace h := h.1 hc
        refine r_iload 4 5 rfl dY_parts_107 ?_
        exact q_iret rfl h dY_parts_109
      · replace h := h.2 hc
        refine r_aload_n 0 1 rfl dY_parts_98 rfl ?_
        refine q_getI 1 c84 fY_130 rfl rfl dY_parts_99 ?_
        refine r_bipush (by decide) dY_parts_102 ?_
        refine r_ifc_ne (tgt := 110) dY_parts_104 (by decide) (fun hc => ?_) (fun hc => ?_)
        · replace h := h.1 hc
          refine r_bipush (by decide) dY_parts_110 ?_
          refine r_iload_n 1 2 rfl dY_parts_112 rfl ?_
          refine r_imul dY_parts_113 ?_
          refine r_lload 5 0 rfl dY_parts_114 ?_
          refine r_l2i dY_parts_116 ?_
          refine r_iadd dY_parts_117 ?_
          refine r_istore 7 (by decide) dY_parts_118 ?_
          refine r_aload_n 0 2 rfl dY_parts_120 rfl ?_
          refine r_aload_n 0 2 rfl dY_parts_121 rfl ?_
          refine q_getR 53 c84 fY_121 rfl rfl (g84_53 sw) (by decide) dY_parts_122 ?_
          refine r_iload 7 0 rfl dY_parts_125 ?_
          refine q_laload (w32 ((60 * x1) + (w32 x2 + w32 (3 * x4)))) rfl c119 h.1 dY_parts_127 ?_
          replace h := h.2
          refine r_l2i dY_parts_128 ?_
          refine r_aload_n 0 2 rfl dY_parts_129 rfl ?_
          refine q_getR 53 c84 fY_121 rfl rfl (g84_53 sw) (by decide) dY_parts_130 ?_
          refine r_iload 7 0 rfl dY_parts_133 ?_
          refine r_iconst dY_parts_135 ?_
          refine r_iadd dY_parts_136 ?_
          refine q_laload (w32 (((60 * x1) + (w32 x2 + w32 (3 * x4))) + 1)) rfl c119 h.1 dY_parts_137 ?_
          replace h := h.2
          refine r_l2i dY_parts_138 ?_
          refine r_aload_n 0 2 rfl dY_parts_139 rfl ?_
          refine q_getR 53 c84 fY_121 rfl rfl (g84_53 sw) (by decide) dY_parts_140 ?_
          refine r_iload 7 0 rfl dY_parts_143 ?_
          refine r_iconst dY_parts_145 ?_
          refine r_iadd dY_parts_146 ?_
          refine q_laload (w32 (((60 * x1) + (w32 x2 + w32 (3 * x4))) + 2)) rfl c119 h.1 dY_parts_147 ?_
          replace h := h.2
          refine r_l2i dY_parts_148 ?_
          refine r_callVb 12 [_, _, _] rfl c84 rfl rfl oY_arePart iY_arePart sY_arePart yY_137 (by decide) ⟨Nat.le_refl _, Nat.le_refl _⟩ rfl (Nat.le_of_ble_eq_true rfl) dY_parts_149 h (fun z1 r1 m1 h => ?_)
          obtain ⟨sw1, rfl, h⟩ := h
          refine r_if_ne (tgt := 158) dY_parts_152 (by decide) (fun hc => ?_) (fun hc => ?_)
          · replace h := h.1 hc
            refine r_aload_n 0 2 rfl dY_parts_158 rfl ?_
            refine r_aload_n 0 2 rfl dY_parts_159 rfl ?_
            refine q_getR 53 c84 fY_121 rfl rfl (g84_53 sw1) (by decide) dY_parts_160 ?_
            refine r_iload 7 0 rfl dY_parts_163 ?_
            refine q_laload (w32 ((60 * x1) + (w32 x2 + w32 (3 * x4)))) rfl c119 h.1 dY_parts_165 ?_
            replace h := h.2
            refine r_l2i dY_parts_166 ?_
            refine r_aload_n 0 2 rfl dY_parts_167 rfl ?_
            refine q_getR 53 c84 fY_121 rfl rfl (g84_53 sw1) (by decide) dY_parts_168 ?_
            refine r_iload 7 0 rfl dY_parts_171 ?_
            refine r_iconst dY_parts_173 ?_
            refine r_iadd dY_parts_174 ?_
            refine q_laload (w32 (((60 * x1) + (w32 x2 + w32 (3 * x4))) + 1)) rfl c119 h.1 dY_parts_175 ?_
            replace h := h.2
            refine r_l2i dY_parts_176 ?_
            refine r_aload_n 0 2 rfl dY_parts_177 rfl ?_
            refine q_getR 53 c84 fY_121 rfl rfl (g84_53 sw1) (by decide) dY_parts_178 ?_
            refine r_iload 7 0 rfl dY_parts_181 ?_
            refine r_iconst dY_parts_183 ?_
            refine r_iadd dY_parts_184 ?_
            refine q_laload (w32 (((60 * x1) + (w32 x2 + w32 (3 * x4))) + 2)) rfl c119 h.1 dY_parts_185 ?_
            replace h := h.2
            refine r_l2i dY_parts_186 ?_
            refine r_callVi 12 [_, _, _] rfl c84 rfl rfl oY_addPart iY_addPart sY_addPart yY_140 (by decide) ⟨Nat.le_refl _, Nat.le_refl _⟩ rfl (Nat.le_of_ble_eq_true rfl) dY_parts_187 h (fun z2 r2 m2 h => ?_)
            obtain ⟨sw2, rfl, h⟩ := h
            refine r_pop (fun q => by cases q) dY_parts_190 ?_
            refine r_iinc 4 6 rfl (by decide) dY_parts_191 ?_
            refine r_goto (tgt := 58) dY_parts_194 (by decide) ?_
            refine r_sub [3, 4, 5, 6, 0] ?_ h
            rfl
          · replace h := h.2 hc
            refine r_iload 4 6 rfl dY_parts_155 ?_
            exact q_iret rfl h dY_parts_157
        · replace h := h.2 hc
          refine r_iload 4 5 rfl dY_parts_107 ?_
          exact q_iret rfl h dY_parts_109
theorem dY_valueAt_0 : decode mY_valueAt.2.1 0 = .ok (.iload_n 1, 1) := by decide +kernel
theorem dY_valueAt_1 : decode mY_valueAt.2.1 1 = .ok (.tableswitch 81 0 5 #[39, 46, 53, 60, 67, 74], 39) := by decide +kernel
theorem dY_valueAt_40 : decode mY_valueAt.2.1 40 = .ok (.aload_n 0, 1) := by decide +kernel
theorem dY_valueAt_41 : decode mY_valueAt.2.1 41 = .ok (.getfield 9, 3) := by decide +kernel
theorem dY_valueAt_44 : decode mY_valueAt.2.1 44 = .ok (.iload_n 2, 1) := by decide +kernel
theorem dY_valueAt_45 : decode mY_valueAt.2.1 45 = .ok (.iaload, 1) := by decide +kernel
theorem dY_valueAt_46 : decode mY_valueAt.2.1 46 = .ok (.ireturn, 1) := by decide +kernel
theorem dY_valueAt_47 : decode mY_valueAt.2.1 47 = .ok (.aload_n 0, 1) := by decide +kernel
theorem dY_valueAt_48 : decode mY_valueAt.2.1 48 = .ok (.getfield 15, 3) := by decide +kernel
theorem dY_valueAt_51 : decode mY_valueAt.2.1 51 = .ok (.iload_n 2, 1) := by decide +kernel
theorem dY_valueAt_52 : decode mY_valueAt.2.1 52 = .ok (.iaload, 1) := by decide +kernel
theorem dY_valueAt_53 : decode mY_valueAt.2.1 53 = .ok (.ireturn, 1) := by decide +kernel
theorem dY_valueAt_54 : decode mY_valueAt.2.1 54 = .ok (.aload_n 0, 1) := by decide +kernel
theorem dY_valueAt_55 : decode mY_valueAt.2.1 55 = .ok (.getfield 18, 3) := by decide +kernel
theorem dY_valueAt_58 : decode mY_valueAt.2.1 58 = .ok (.iload_n 2, 1) := by decide +kernel
theorem dY_valueAt_59 : decode mY_valueAt.2.1 59 = .ok (.iaload, 1) := by decide +kernel
theorem dY_valueAt_60 : decode mY_valueAt.2.1 60 = .ok (.ireturn, 1) := by decide +kernel
theorem dY_valueAt_61 : decode mY_valueAt.2.1 61 = .ok (.aload_n 0, 1) := by decide +kernel
theorem dY_valueAt_62 : decode mY_valueAt.2.1 62 = .ok (.getfield 21, 3) := by decide +kernel
theorem dY_valueAt_65 : decode mY_valueAt.2.1 65 = .ok (.iload_n 2, 1) := by decide +kernel
theorem dY_valueAt_66 : decode mY_valueAt.2.1 66 = .ok (.iaload, 1) := by decide +kernel
theorem dY_valueAt_67 : decode mY_valueAt.2.1 67 = .ok (.ireturn, 1) := by decide +kernel
theorem dY_valueAt_68 : decode mY_valueAt.2.1 68 = .ok (.aload_n 0, 1) := by decide +kernel
theorem dY_valueAt_69 : decode mY_valueAt.2.1 69 = .ok (.getfield 24, 3) := by decide +kernel
theorem dY_valueAt_72 : decode mY_valueAt.2.1 72 = .ok (.iload_n 2, 1) := by decide +kernel
theorem dY_valueAt_73 : decode mY_valueAt.2.1 73 = .ok (.iaload, 1) := by decide +kernel
theorem dY_valueAt_74 : decode mY_valueAt.2.1 74 = .ok (.ireturn, 1) := by decide +kernel
theorem dY_valueAt_75 : decode mY_valueAt.2.1 75 = .ok (.aload_n 0, 1) := by decide +kernel
theorem dY_valueAt_76 : decode mY_valueAt.2.1 76 = .ok (.getfield 27, 3) := by decide +kernel
theorem dY_valueAt_79 : decode mY_valueAt.2.1 79 = .ok (.iload_n 2, 1) := by decide +kernel
theorem dY_valueAt_80 : decode mY_valueAt.2.1 80 = .ok (.iaload, 1) := by decide +kernel
theorem dY_valueAt_81 : decode mY_valueAt.2.1 81 = .ok (.ireturn, 1) := by decide +kernel
theorem dY_valueAt_82 : decode mY_valueAt.2.1 82 = .ok (.aload_n 0, 1) := by decide +kernel
theorem dY_valueAt_83 : decode mY_valueAt.2.1 83 = .ok (.getfield 30, 3) := by decide +kernel
theorem dY_valueAt_86 : decode mY_valueAt.2.1 86 = .ok (.iload_n 1, 1) := by decide +kernel
theorem dY_valueAt_87 : decode mY_valueAt.2.1 87 = .ok (.bipush 6, 2) := by decide +kernel
theorem dY_valueAt_89 : decode mY_valueAt.2.1 89 = .ok (.isub, 1) := by decide +kernel
theorem dY_valueAt_90 : decode mY_valueAt.2.1 90 = .ok (.iaload, 1) := by decide +kernel
theorem dY_valueAt_91 : decode mY_valueAt.2.1 91 = .ok (.ireturn, 1) := by decide +kernel
/- Y_valueAt: (II)I -/
set_option maxRecDepth 4000 in
theorem wY_valueAt {X : Cx} (a1 a2 : Int) (sw : Bool) (m : Mem) (Q : Int → Bool → Mem → Prop) (h : ((w32 a1 = 0 → ((0 ≤ w32 a2 ∧ w32 a2 < 9) ∧ Q (m 85 (w32 a2)) sw m)) ∧ ((w32 a1 = 1 → ((0 ≤ w32 a2 ∧ w32 a2 < 9) ∧ Q (m 86 (w32 a2)) sw m)) ∧ ((w32 a1 = 2 → ((0 ≤ w32 a2 ∧ w32 a2 < 9) ∧ Q (m 87 (w32 a2)) sw m)) ∧ ((w32 a1 = 3 → ((0 ≤ w32 a2 ∧ w32 a2 < 9) ∧ Q (m 88 (w32 a2)) sw m)) ∧ ((w32 a1 = 4 → ((0 ≤ w32 a2 ∧ w32 a2 < 9) ∧ Q (m 89 (w32 a2)) sw m)) ∧ ((w32 a1 = 5 → ((0 ≤ w32 a2 ∧ w32 a2 < 9) ∧ Q (m 90 (w32 a2)) sw m)) ∧ ((w32 a1 < 0 ∨ 5 < w32 a1) → ((0 ≤ w32 (a1 - 6) ∧ w32 (a1 - 6) < 7) ∧ Q (m 91 (w32 (a1 - 6))) sw m))))))))) : M2 X 1 mY_valueAt [vr 84, vi a1, vi a2] sw m Q := by
  refine Mt.of pY_valueAt (Nat.le_of_ble_eq_true rfl) (Nat.le_refl _) ?_
  show R2 X 1 mY_valueAt 0 [(0, vr 84), (1, vi a1), (2, vi a2)] [] sw m Q
  refine r_iload_n 1 1 rfl dY_valueAt_0 rfl ?_
  by_cases hs0 : w32 a1 = 0
  · refine r_tabIn (off := 39) (tgt := 40) 0 hs0 dY_valueAt_1 (by decide) (by decide) (by decide) (by decide) ?_
    replace h := h.1 hs0
    refine r_aload_n 0 0 rfl dY_valueAt_40 rfl ?_
    refine q_getR 2 c84 fY_9 rfl rfl (g84_2 sw) (by decide) dY_valueAt_41 ?_
    refine r_iload_n 2 2 rfl dY_valueAt_44 rfl ?_
    refine q_iaload (w32 a2) rfl c85 h.1 dY_valueAt_45 ?_
    replace h := h.2
    exact q_iret rfl h dY_valueAt_46
  · replace h := h.2
    by_cases hs1 : w32 a1 = 1
    · refine r_tabIn (off := 46) (tgt := 47) 1 hs1 dY_valueAt_1 (by decide) (by decide) (by decide) (by decide) ?_
      replace h := h.1 hs1
      refine r_aload_n 0 0 rfl dY_valueAt_47 rfl ?_
      refine q_getR 3 c84 fY_15 rfl rfl (g84_3 sw) (by decide) dY_valueAt_48 ?_
      refine r_iload_n 2 2 rfl dY_valueAt_51 rfl ?_
      refine q_iaload (w32 a2) rfl c86 h.1 dY_valueAt_52 ?_
      replace h := h.2
      exact q_iret rfl h dY_valueAt_53
    · replace h := h.2
      by_cases hs2 : w32 a1 = 2
      · refine r_tabIn (off := 53) (tgt := 54) 2 hs2 dY_valueAt_1 (by decide) (by decide) (by decide) (by decide) ?_
        replace h := h.1 hs2
        refine r_aload_n 0 0 rfl dY_valueAt_54 rfl ?_
        refine q_getR 4 c84 fY_18 rfl rfl (g84_4 sw) (by decide) dY_valueAt_55 ?_
        refine r_iload_n 2 2 rfl dY_valueAt_58 rfl ?_
        refine q_iaload (w32 a2) rfl c87 h.1 dY_valueAt_59 ?_
        replace h := h.2
        exact q_iret rfl h dY_valueAt_60
      · replace h := h.2
        by_cases hs3 : w32 a1 = 3
        · refine r_tabIn (off := 60) (tgt := 61) 3 hs3 dY_valueAt_1 (by decide) (by decide) (by decide) (by decide) ?_
          replace h := h.1 hs3
          refine r_aload_n 0 0 rfl dY_valueAt_61 rfl ?_
          refine q_getR 5 c84 fY_21 rfl rfl (g84_5 sw) (by decide) dY_valueAt_62 ?_
          refine r_iload_n 2 2 rfl dY_valueAt_65 rfl ?_
          refine q_iaload (w32 a2) rfl c88 h.1 dY_valueAt_66 ?_
          replace h := h.2
          exact q_iret rfl h dY_valueAt_67
        · replace h := h.2
          by_cases hs4 : w32 a1 = 4
          · refine r_tabIn (off := 67) (tgt := 68) 4 hs4 dY_valueAt_1 (by decide) (by decide) (by decide) (by decide) ?_
            replace h := h.1 hs4
            refine r_aload_n 0 0 rfl dY_valueAt_68 rfl ?_
            refine q_getR 6 c84 fY_24 rfl rfl (g84_6 sw) (by decide) dY_valueAt_69 ?_
            refine r_iload_n 2 2 rfl dY_valueAt_72 rfl ?_
            refine q_iaload (w32 a2) rfl c89 h.1 dY_valueAt_73 ?_
            replace h := h.2
            exact q_iret rfl h dY_valueAt_74
          · replace h := h.2
            by_cases hs5 : w32 a1 = 5
            · refine r_tabIn (off := 74) (tgt := 75) 5 hs5 dY_valueAt_1 (by decide) (by decide) (by decide) (by decide) ?_
              replace h := h.1 hs5
              refine r_aload_n 0 0 rfl dY_valueAt_75 rfl ?_
              refine q_getR 7 c84 fY_27 rfl rfl (g84_7 sw) (by decide) dY_valueAt_76 ?_
              refine r_iload_n 2 2 rfl dY_valueAt_79 rfl ?_
              refine q_iaload (w32 a2) rfl c90 h.1 dY_valueAt_80 ?_
              replace h := h.2
              exact q_iret rfl h dY_valueAt_81
            · replace h := h.2
              have hq : w32 a1 < 0 ∨ 5 < w32 a1 := by omega
              refine r_tabOut (tgt := 82) dY_valueAt_1 hq (by decide) ?_
              replace h := h hq
              refine r_aload_n 0 0 rfl dY_valueAt_82 rfl ?_
              refine q_getR 8 c84 fY_30 rfl rfl (g84_8 sw) (by decide) dY_valueAt_83 ?_
              refine r_iload_n 1 1 rfl dY_valueAt_86 rfl ?_
              refine r_bipush (by decide) dY_valueAt_87 ?_
              refine r_isub dY_valueAt_89 ?_
              refine q_iaload (w32 (a1 - 6)) rfl c91 h.1 dY_valueAt_90 ?_
              replace h := h.2
              exact q_iret rfl h dY_valueAt_91
theorem dY_lays_0 : decode mY_lays.2.1 0 = .ok (.iload_n 1, 1) := by decide +kernel
theorem dY_lays_1 : decode mY_lays.2.1 1 = .ok (.tableswitch 99 0 5 #[39, 49, 59, 69, 79, 89], 39) := by decide +kernel
theorem dY_lays_40 : decode mY_lays.2.1 40 = .ok (.aload_n 0, 1) := by decide +kernel
theorem dY_lays_41 : decode mY_lays.2.1 41 = .ok (.getfield 9, 3) := by decide +kernel
theorem dY_lays_44 : decode mY_lays.2.1 44 = .ok (.iload_n 2, 1) := by decide +kernel
theorem dY_lays_45 : decode mY_lays.2.1 45 = .ok (.iload_n 3, 1) := by decide +kernel
theorem dY_lays_46 : decode mY_lays.2.1 46 = .ok (.iastore, 1) := by decide +kernel
theorem dY_lays_47 : decode mY_lays.2.1 47 = .ok (.goto 63, 3) := by decide +kernel
theorem dY_lays_50 : decode mY_lays.2.1 50 = .ok (.aload_n 0, 1) := by decide +kernel
theorem dY_lays_51 : decode mY_lays.2.1 51 = .ok (.getfield 15, 3) := by decide +kernel
theorem dY_lays_54 : decode mY_lays.2.1 54 = .ok (.iload_n 2, 1) := by decide +kernel
theorem dY_lays_55 : decode mY_lays.2.1 55 = .ok (.iload_n 3, 1) := by decide +kernel
theorem dY_lays_56 : decode mY_lays.2.1 56 = .ok (.iastore, 1) := by decide +kernel
theorem dY_lays_57 : decode mY_lays.2.1 57 = .ok (.goto 53, 3) := by decide +kernel
theorem dY_lays_60 : decode mY_lays.2.1 60 = .ok (.aload_n 0, 1) := by decide +kernel
theorem dY_lays_61 : decode mY_lays.2.1 61 = .ok (.getfield 18, 3) := by decide +kernel
theorem dY_lays_64 : decode mY_lays.2.1 64 = .ok (.iload_n 2, 1) := by decide +kernel
theorem dY_lays_65 : decode mY_lays.2.1 65 = .ok (.iload_n 3, 1) := by decide +kernel
theorem dY_lays_66 : decode mY_lays.2.1 66 = .ok (.iastore, 1) := by decide +kernel
theorem dY_lays_67 : decode mY_lays.2.1 67 = .ok (.goto 43, 3) := by decide +kernel
theorem dY_lays_70 : decode mY_lays.2.1 70 = .ok (.aload_n 0, 1) := by decide +kernel
theorem dY_lays_71 : decode mY_lays.2.1 71 = .ok (.getfield 21, 3) := by decide +kernel
theorem dY_lays_74 : decode mY_lays.2.1 74 = .ok (.iload_n 2, 1) := by decide +kernel
theorem dY_lays_75 : decode mY_lays.2.1 75 = .ok (.iload_n 3, 1) := by decide +kernel
theorem dY_lays_76 : decode mY_lays.2.1 76 = .ok (.iastore, 1) := by decide +kernel
theorem dY_lays_77 : decode mY_lays.2.1 77 = .ok (.goto 33, 3) := by decide +kernel
theorem dY_lays_80 : decode mY_lays.2.1 80 = .ok (.aload_n 0, 1) := by decide +kernel
theorem dY_lays_81 : decode mY_lays.2.1 81 = .ok (.getfield 24, 3) := by decide +kernel
theorem dY_lays_84 : decode mY_lays.2.1 84 = .ok (.iload_n 2, 1) := by decide +kernel
theorem dY_lays_85 : decode mY_lays.2.1 85 = .ok (.iload_n 3, 1) := by decide +kernel
theorem dY_lays_86 : decode mY_lays.2.1 86 = .ok (.iastore, 1) := by decide +kernel
theorem dY_lays_87 : decode mY_lays.2.1 87 = .ok (.goto 23, 3) := by decide +kernel
theorem dY_lays_90 : decode mY_lays.2.1 90 = .ok (.aload_n 0, 1) := by decide +kernel
theorem dY_lays_91 : decode mY_lays.2.1 91 = .ok (.getfield 27, 3) := by decide +kernel
theorem dY_lays_94 : decode mY_lays.2.1 94 = .ok (.iload_n 2, 1) := by decide +kernel
theorem dY_lays_95 : decode mY_lays.2.1 95 = .ok (.iload_n 3, 1) := by decide +kernel
theorem dY_lays_96 : decode mY_lays.2.1 96 = .ok (.iastore, 1) := by decide +kernel
theorem dY_lays_97 : decode mY_lays.2.1 97 = .ok (.goto 13, 3) := by decide +kernel
theorem dY_lays_100 : decode mY_lays.2.1 100 = .ok (.aload_n 0, 1) := by decide +kernel
theorem dY_lays_101 : decode mY_lays.2.1 101 = .ok (.getfield 30, 3) := by decide +kernel
theorem dY_lays_104 : decode mY_lays.2.1 104 = .ok (.iload_n 1, 1) := by decide +kernel
theorem dY_lays_105 : decode mY_lays.2.1 105 = .ok (.bipush 6, 2) := by decide +kernel
theorem dY_lays_107 : decode mY_lays.2.1 107 = .ok (.isub, 1) := by decide +kernel
theorem dY_lays_108 : decode mY_lays.2.1 108 = .ok (.iload_n 3, 1) := by decide +kernel
theorem dY_lays_109 : decode mY_lays.2.1 109 = .ok (.iastore, 1) := by decide +kernel
theorem dY_lays_110 : decode mY_lays.2.1 110 = .ok (.return_, 1) := by decide +kernel
/- Y_lays: (III)V -/
set_option maxRecDepth 4000 in
theorem wY_lays {X : Cx} (a1 a2 a3 : Int) (sw : Bool) (m : Mem) (Q : Int → Bool → Mem → Prop) (h : ((w32 a1 = 0 → ((0 ≤ w32 a2 ∧ w32 a2 < 9) ∧ Q 0 sw (upm m 85 (w32 a2) a3))) ∧ ((w32 a1 = 1 → ((0 ≤ w32 a2 ∧ w32 a2 < 9) ∧ Q 0 sw (upm m 86 (w32 a2) a3))) ∧ ((w32 a1 = 2 → ((0 ≤ w32 a2 ∧ w32 a2 < 9) ∧ Q 0 sw (upm m 87 (w32 a2) a3))) ∧ ((w32 a1 = 3 → ((0 ≤ w32 a2 ∧ w32 a2 < 9) ∧ Q 0 sw (upm m 88 (w32 a2) a3))) ∧ ((w32 a1 = 4 → ((0 ≤ w32 a2 ∧ w32 a2 < 9) ∧ Q 0 sw (upm m 89 (w32 a2) a3))) ∧ ((w32 a1 = 5 → ((0 ≤ w32 a2 ∧ w32 a2 < 9) ∧ Q 0 sw (upm m 90 (w32 a2) a3))) ∧ ((w32 a1 < 0 ∨ 5 < w32 a1) → ((0 ≤ w32 (a1 - 6) ∧ w32 (a1 - 6) < 7) ∧ Q 0 sw (upm m 91 (w32 (a1 - 6)) a3)))))))))) : M2 X 1 mY_lays [vr 84, vi a1, vi a2, vi a3] sw m Q := by
  refine Mt.of pY_lays (Nat.le_of_ble_eq_true rfl) (Nat.le_refl _) ?_
  show R2 X 1 mY_lays 0 [(0, vr 84), (1, vi a1), (2, vi a2), (3, vi a3)] [] sw m Q
  refine r_iload_n 1 1 rfl dY_lays_0 rfl ?_
  by_cases hs0 : w32 a1 = 0
  · refine r_tabIn (off := 39) (tgt := 40) 0 hs0 dY_lays_1 (by decide) (by decide) (by decide) (by decide) ?_
    replace h := h.1 hs0
    refine r_aload_n 0 0 rfl dY_lays_40 rfl ?_
    refine q_getR 2 c84 fY_9 rfl rfl (g84_2 sw) (by decide) dY_lays_41 ?_
    refine r_iload_n 2 2 rfl dY_lays_44 rfl ?_
    refine r_iload_n 3 3 rfl dY_lays_45 rfl ?_
    refine q_iastore (w32 a2) rfl c85 h.1 dY_lays_46 ?_
    replace h := h.2
    refine r_goto (tgt := 110) dY_lays_47 (by decide) ?_
    exact q_vret rfl h dY_lays_110
  · replace h := h.2
    by_cases hs1 : w32 a1 = 1
    · refine r_tabIn (off := 49) (tgt := 50) 1 hs1 dY_lays_1 (by decide) (by decide) (by decide) (by decide) ?_
      replace h := h.1 hs1
      refine r_aload_n 0 0 rfl dY_lays_50 rfl ?_
      refine q_getR 3 c84 fY_15 rfl rfl (g84_3 sw) (by decide) dY_lays_51 ?_
      refine r_iload_n 2 2 rfl dY_lays_54 rfl ?_
      refine r_iload_n 3 3 rfl dY_lays_55 rfl ?_
      refine q_iastore (w32 a2) rfl c86 h.1 dY_lays_56 ?_
      replace h := h.2
      refine r_goto (tgt := 110) dY_lays_57 (by decide) ?_
      exact q_vret rfl h dY_lays_110
    · replace h := h.2
      by_cases hs2 : w32 a1 = 2
      · refine r_tabIn (off := 59) (tgt := 60) 2 hs2 dY_lays_1 (by decide) (by decide) (by decide) (by decide) ?_
        replace h := h.1 hs2
        refine r_aload_n 0 0 rfl dY_lays_60 rfl ?_
        refine q_getR 4 c84 fY_18 rfl rfl (g84_4 sw) (by decide) dY_lays_61 ?_
        refine r_iload_n 2 2 rfl dY_lays_64 rfl ?_
        refine r_iload_n 3 3 rfl dY_lays_65 rfl ?_
        refine q_iastore (w32 a2) rfl c87 h.1 dY_lays_66 ?_
        replace h := h.2
        refine r_goto (tgt := 110) dY_lays_67 (by decide) ?_
        exact q_vret rfl h dY_lays_110
      · replace h := h.2
        by_cases hs3 : w32 a1 = 3
        · refine r_tabIn (off := 69) (tgt := 70) 3 hs3 dY_lays_1 (by decide) (by decide) (by decide) (by decide) ?_
          replace h := h.1 hs3
          refine r_aload_n 0 0 rfl dY_lays_70 rfl ?_
          refine q_getR 5 c84 fY_21 rfl rfl (g84_5 sw) (by decide) dY_lays_71 ?_
          refine r_iload_n 2 2 rfl dY_lays_74 rfl ?_
          refine r_iload_n 3 3 rfl dY_lays_75 rfl ?_
          refine q_iastore (w32 a2) rfl c88 h.1 dY_lays_76 ?_
          replace h := h.2
          refine r_goto (tgt := 110) dY_lays_77 (by decide) ?_
          exact q_vret rfl h dY_lays_110
        · replace h := h.2
          by_cases hs4 : w32 a1 = 4
          · refine r_tabIn (off := 79) (tgt := 80) 4 hs4 dY_lays_1 (by decide) (by decide) (by decide) (by decide) ?_
            replace h := h.1 hs4
            refine r_aload_n 0 0 rfl dY_lays_80 rfl ?_
            refine q_getR 6 c84 fY_24 rfl rfl (g84_6 sw) (by decide) dY_lays_81 ?_
            refine r_iload_n 2 2 rfl dY_lays_84 rfl ?_
            refine r_iload_n 3 3 rfl dY_lays_85 rfl ?_
            refine q_iastore (w32 a2) rfl c89 h.1 dY_lays_86 ?_
            replace h := h.2
            refine r_goto (tgt := 110) dY_lays_87 (by decide) ?_
            exact q_vret rfl h dY_lays_110
          · replace h := h.2
            by_cases hs5 : w32 a1 = 5
            · refine r_tabIn (off := 89) (tgt := 90) 5 hs5 dY_lays_1 (by decide) (by decide) (by decide) (by decide) ?_
              replace h := h.1 hs5
              refine r_aload_n 0 0 rfl dY_lays_90 rfl ?_
              refine q_getR 7 c84 fY_27 rfl rfl (g84_7 sw) (by decide) dY_lays_91 ?_
              refine r_iload_n 2 2 rfl dY_lays_94 rfl ?_
              refine r_iload_n 3 3 rfl dY_lays_95 rfl ?_
              refine q_iastore (w32 a2) rfl c90 h.1 dY_lays_96 ?_
              replace h := h.2
              refine r_goto (tgt := 110) dY_lays_97 (by decide) ?_
              exact q_vret rfl h dY_lays_110
            · replace h := h.2
              have hq : w32 a1 < 0 ∨ 5 < w32 a1 := by omega
              refine r_tabOut (tgt := 100) dY_lays_1 hq (by decide) ?_
              replace h := h hq
              refine r_aload_n 0 0 rfl dY_lays_100 rfl ?_
              refine q_getR 8 c84 fY_30 rfl rfl (g84_8 sw) (by decide) dY_lays_101 ?_
              refine r_iload_n 1 1 rfl dY_lays_104 rfl ?_
              refine r_bipush (by decide) dY_lays_105 ?_
              refine r_isub dY_lays_107 ?_
              refine r_iload_n 3 3 rfl dY_lays_108 rfl ?_
              refine q_iastore (w32 (a1 - 6)) rfl c91 h.1 dY_lays_109 ?_
              replace h := h.2
              exact q_vret rfl h dY_lays_110
theorem dY_changes_0 : decode mY_changes.2.1 0 = .ok (.aload_n 0, 1) := by decide +kernel
theorem dY_changes_1 : decode mY_changes.2.1 1 = .ok (.iload_n 1, 1) := by decide +kernel
theorem dY_changes_2 : decode mY_changes.2.1 2 = .ok (.iload_n 2, 1) := by decide +kernel
theorem dY_changes_3 : decode mY_changes.2.1 3 = .ok (.invokevirtual 150, 3) := by decide +kernel
theorem dY_changes_6 : decode mY_changes.2.1 6 = .ok (.istore 4, 2) := by decide +kernel
theorem dY_changes_8 : decode mY_changes.2.1 8 = .ok (.iload 4, 2) := by decide +kernel
theorem dY_changes_10 : decode mY_changes.2.1 10 = .ok (.iload_n 3, 1) := by decide +kernel
theorem dY_changes_11 : decode mY_changes.2.1 11 = .ok (.if_icmp .ne 6, 3) := by decide +kernel
theorem dY_changes_14 : decode mY_changes.2.1 14 = .ok (.iload 4, 2) := by decide +kernel
theorem dY_changes_16 : decode mY_changes.2.1 16 = .ok (.ireturn, 1) := by decide +kernel
theorem dY_changes_17 : decode mY_changes.2.1 17 = .ok (.aload_n 0, 1) := by decide +kernel
theorem dY_changes_18 : decode mY_changes.2.1 18 = .ok (.iconst 0, 1) := by decide +kernel
theorem dY_changes_19 : decode mY_changes.2.1 19 = .ok (.putfield 154, 3) := by decide +kernel
theorem dY_changes_22 : decode mY_changes.2.1 22 = .ok (.aload_n 0, 1) := by decide +kernel
theorem dY_changes_23 : decode mY_changes.2.1 23 = .ok (.getfield 157, 3) := by decide +kernel
theorem dY_changes_26 : decode mY_changes.2.1 26 = .ok (.bipush 40, 2) := by decide +kernel
theorem dY_changes_28 : decode mY_changes.2.1 28 = .ok (.if_icmp .ne 93, 3) := by decide +kernel
theorem dY_changes_31 : decode mY_changes.2.1 31 = .ok (.iconst 1, 1) := by decide +kernel
theorem dY_changes_32 : decode mY_changes.2.1 32 = .ok (.istore 5, 2) := by decide +kernel
theorem dY_changes_34 : decode mY_changes.2.1 34 = .ok (.iload 5, 2) := by decide +kernel
theorem dY_changes_36 : decode mY_changes.2.1 36 = .ok (.bipush 40, 2) := by decide +kernel
theorem dY_changes_38 : decode mY_changes.2.1 38 = .ok (.if_icmp .ge 73, 3) := by decide +kernel
theorem dY_changes_41 : decode mY_changes.2.1 41 = .ok (.aload_n 0, 1) := by decide +kernel
theorem dY_changes_42 : decode mY_changes.2.1 42 = .ok (.getfield 33, 3) := by decide +kernel
theorem dY_changes_45 : decode mY_changes.2.1 45 = .ok (.iload 5, 2) := by decide +kernel
theorem dY_changes_47 : decode mY_changes.2.1 47 = .ok (.iconst 1, 1) := by decide +kernel
theorem dY_changes_48 : decode mY_changes.2.1 48 = .ok (.isub, 1) := by decide +kernel
theorem dY_changes_49 : decode mY_changes.2.1 49 = .ok (.aload_n 0, 1) := by decide +kernel
theorem dY_changes_50 : decode mY_changes.2.1 50 = .ok (.getfield 33, 3) := by decide +kernel
theorem dY_changes_53 : decode mY_changes.2.1 53 = .ok (.iload 5, 2) := by decide +kernel
theorem dY_changes_55 : decode mY_changes.2.1 55 = .ok (.iaload, 1) := by decide +kernel
theorem dY_changes_56 : decode mY_changes.2.1 56 = .ok (.iastore, 1) := by decide +kernel
theorem dY_changes_57 : decode mY_changes.2.1 57 = .ok (.aload_n 0, 1) := by decide +kernel
theorem dY_changes_58 : decode mY_changes.2.1 58 = .ok (.getfield 36, 3) := by decide +kernel
theorem dY_changes_61 : decode mY_changes.2.1 61 = .ok (.iload 5, 2) := by decide +kernel
theorem dY_changes_63 : decode mY_changes.2.1 63 = .ok (.iconst 1, 1) := by decide +kernel
theorem dY_changes_64 : decode mY_changes.2.1 64 = .ok (.isub, 1) := by decide +kernel
theorem dY_changes_65 : decode mY_changes.2.1 65 = .ok (.aload_n 0, 1) := by decide +kernel
theorem dY_changes_66 : decode mY_changes.2.1 66 = .ok (.getfield 36, 3) := by decide +kernel
theorem dY_changes_69 : decode mY_changes.2.1 69 = .ok (.iload 5, 2) := by decide +kernel
theorem dY_changes_71 : decode mY_changes.2.1 71 = .ok (.iaload, 1) := by decide +kernel
theorem dY_changes_72 : decode mY_changes.2.1 72 = .ok (.iastore, 1) := by decide +kernel
theorem dY_changes_73 : decode mY_changes.2.1 73 = .ok (.aload_n 0, 1) := by decide +kernel
theorem dY_changes_74 : decode mY_changes.2.1 74 = .ok (.getfield 39, 3) := by decide +kernel
theorem dY_changes_77 : decode mY_changes.2.1 77 = .ok (.iload 5, 2) := by decide +kernel
theorem dY_changes_79 : decode mY_changes.2.1 79 = .ok (.iconst 1, 1) := by decide +kernel
theorem dY_changes_80 : decode mY_changes.2.1 80 = .ok (.isub, 1) := by decide +kernel
theorem dY_changes_81 : decode mY_changes.2.1 81 = .ok (.aload_n 0, 1) := by decide +kernel
theorem dY_changes_82 : decode mY_changes.2.1 82 = .ok (.getfield 39, 3) := by decide +kernel
theorem dY_changes_85 : decode mY_changes.2.1 85 = .ok (.iload 5, 2) := by decide +kernel
theorem dY_changes_87 : decode mY_changes.2.1 87 = .ok (.iaload, 1) := by decide +kernel
theorem dY_changes_88 : decode mY_changes.2.1 88 = .ok (.iastore, 1) := by decide +kernel
theorem dY_changes_89 : decode mY_changes.2.1 89 = .ok (.aload_n 0, 1) := by decide +kernel
theorem dY_changes_90 : decode mY_changes.2.1 90 = .ok (.getfield 42, 3) := by decide +kernel
theorem dY_changes_93 : decode mY_changes.2.1 93 = .ok (.iload 5, 2) := by decide +kernel
theorem dY_changes_95 : decode mY_changes.2.1 95 = .ok (.iconst 1, 1) := by decide +kernel
theorem dY_changes_96 : decode mY_changes.2.1 96 = .ok (.isub, 1) := by decide +kernel
theorem dY_changes_97 : decode mY_changes.2.1 97 = .ok (.aload_n 0, 1) := by decide +kernel
theorem dY_changes_98 : decode mY_changes.2.1 98 = .ok (.getfield 42, 3) := by decide +kernel
theorem dY_changes_101 : decode mY_changes.2.1 101 = .ok (.iload 5, 2) := by decide +kernel
theorem dY_changes_103 : decode mY_changes.2.1 103 = .ok (.iaload, 1) := by decide +kernel
theorem dY_changes_104 : decode mY_changes.2.1 104 = .ok (.iastore, 1) := by decide +kernel
theorem dY_changes_105 : decode mY_changes.2.1 105 = .ok (.iinc 5 1, 3) := by decide +kernel
theorem dY_changes_108 : decode mY_changes.2.1 108 = .ok (.goto (-74), 3) := by decide +kernel
theorem dY_changes_111 : decode mY_changes.2.1 111 = .ok (.aload_n 0, 1) := by decide +kernel
theorem dY_changes_112 : decode mY_changes.2.1 112 = .ok (.dup, 1) := by decide +kernel
theorem dY_changes_113 : decode mY_changes.2.1 113 = .ok (.getfield 157, 3) := by decide +kernel
theorem dY_changes_116 : decode mY_changes.2.1 116 = .ok (.iconst 1, 1) := by decide +kernel
theorem dY_changes_117 : decode mY_changes.2.1 117 = .ok (.isub, 1) := by decide +kernel
theorem dY_changes_118 : decode mY_changes.2.1 118 = .ok (.putfield 157, 3) := by decide +kernel
theorem dY_changes_121 : decode mY_changes.2.1 121 = .ok (.aload_n 0, 1) := by decide +kernel
theorem dY_changes_122 : decode mY_changes.2.1 122 = .ok (.getfield 33, 3) := by decide +kernel
theorem dY_changes_125 : decode mY_changes.2.1 125 = .ok (.aload_n 0, 1) := by decide +kernel
theorem dY_changes_126 : decode mY_changes.2.1 126 = .ok (.getfield 157, 3) := by decide +kernel
theorem dY_changes_129 : decode mY_changes.2.1 129 = .ok (.iload_n 1, 1) := by decide +kernel
theorem dY_changes_130 : decode mY_changes.2.1 130 = .ok (.iastore, 1) := by decide +kernel
theorem dY_changes_131 : decode mY_changes.2.1 131 = .ok (.aload_n 0, 1) := by decide +kernel
theorem dY_changes_132 : decode mY_changes.2.1 132 = .ok (.getfield 36, 3) := by decide +kernel
theorem dY_changes_135 : decode mY_changes.2.1 135 = .ok (.aload_n 0, 1) := by decide +kernel
theorem dY_changes_136 : decode mY_changes.2.1 136 = .ok (.getfield 157, 3) := by decide +kernel
theorem dY_changes_139 : decode mY_changes.2.1 139 = .ok (.iload_n 2, 1) := by decide +kernel
theorem dY_changes_140 : decode mY_changes.2.1 140 = .ok (.iastore, 1) := by decide +kernel
theorem dY_changes_141 : decode mY_changes.2.1 141 = .ok (.aload_n 0, 1) := by decide +kernel
theorem dY_changes_142 : decode mY_changes.2.1 142 = .ok (.getfield 39, 3) := by decide +kernel
theorem dY_changes_145 : decode mY_changes.2.1 145 = .ok (.aload_n 0, 1) := by decide +kernel
theorem dY_changes_146 : decode mY_changes.2.1 146 = .ok (.getfield 157, 3) := by decide +kernel
theorem dY_changes_149 : decode mY_changes.2.1 149 = .ok (.iload 4, 2) := by decide +kernel
theorem dY_changes_151 : decode mY_changes.2.1 151 = .ok (.iastore, 1) := by decide +kernel
theorem dY_changes_152 : decode mY_changes.2.1 152 = .ok (.aload_n 0, 1) := by decide +kernel
theorem dY_changes_153 : decode mY_changes.2.1 153 = .ok (.getfield 42, 3) := by decide +kernel
theorem dY_changes_156 : decode mY_changes.2.1 156 = .ok (.aload_n 0, 1) := by decide +kernel
theorem dY_changes_157 : decode mY_changes.2.1 157 = .ok (.getfield 157, 3) := by decide +kernel
theorem dY_changes_160 : decode mY_changes.2.1 160 = .ok (.iload_n 3, 1) := by decide +kernel
theorem dY_changes_161 : decode mY_changes.2.1 161 = .ok (.iastore, 1) := by decide +kernel
theorem dY_changes_162 : decode mY_changes.2.1 162 = .ok (.aload_n 0, 1) := by decide +kernel
theorem dY_changes_163 : decode mY_changes.2.1 163 = .ok (.dup, 1) := by decide +kernel
theorem dY_changes_164 : decode mY_changes.2.1 164 = .ok (.getfield 157, 3) := by decide +kernel
theorem dY_changes_167 : decode mY_changes.2.1 167 = .ok (.iconst 1, 1) := by decide +kernel
theorem dY_changes_168 : decode mY_changes.2.1 168 = .ok (.iadd, 1) := by decide +kernel
theorem dY_changes_169 : decode mY_changes.2.1 169 = .ok (.putfield 157, 3) := by decide +kernel
theorem dY_changes_172 : decode mY_changes.2.1 172 = .ok (.aload_n 0, 1) := by decide +kernel
theorem dY_changes_173 : decode mY_changes.2.1 173 = .ok (.iload_n 1, 1) := by decide +kernel
theorem dY_changes_174 : decode mY_changes.2.1 174 = .ok (.iload_n 2, 1) := by decide +kernel
theorem dY_changes_175 : decode mY_changes.2.1 175 = .ok (.iload_n 3, 1) := by decide +kernel
theorem dY_changes_176 : decode mY_changes.2.1 176 = .ok (.invokevirtual 160, 3) := by decide +kernel
theorem dY_changes_179 : decode mY_changes.2.1 179 = .ok (.iload 4, 2) := by decide +kernel
theorem dY_changes_181 : decode mY_changes.2.1 181 = .ok (.ireturn, 1) := by decide +kernel
/- Y_changes: (III)I -/
set_option maxRecDepth 4000 in
theorem wY_changes {X : Cx} (a1 a2 a3 : Int) (sw : Bool) (m : Mem) (Q : Int → Bool → Mem → Prop) (h : M2 X 1 mY_valueAt [vr 84, vi a1, vi a2] sw m (fun z1 sw1 m1 => ((¬ w32 z1 = w32 a3 → ((¬ w32 (m1 84 9) = 40 → ((0 ≤ w32 (m1 84 9) ∧ w32 (m1 84 9) < 40) ∧ ((0 ≤ w32 (m1 84 9) ∧ w32 (m1 84 9) < 40) ∧ ((0 ≤ w32 (m1 84 9) ∧ w32 (m1 84 9) < 40) ∧ ((0 ≤ w32 (m1 84 9) ∧ w32 (m1 84 9) < 40) ∧ M2 X 1 mY_lays [vr 84, vi a1, vi a2, vi a3] sw1 (upm (upm (upm (upm (upm (upm m1 84 10 0) 92 (w32 (m1 84 9)) a1) 93 (w32 (m1 84 9)) a2) 94 (w32 (m1 84 9)) z1) 95 (w32 (m1 84 9)) a3) 84 9 ((m1 84 9) + 1)) (fun z2 sw2 m2 => Q z1 sw2 m2)))))) ∧ (¬ (¬ w32 (m1 84 9) = 40) → R2 X 2 mY_changes 34 [(0, vr 84), (1, vi a1), (2, vi a2), (3, vi a3), (4, vi z1), (5, vi 1)] [] sw1 (upm m1 84 10 0) Q))) ∧ (¬ (¬ w32 z1 = w32 a3) → Q z1 sw1 m1)))) : M2 X 2 mY_changes [vr 84, vi a1, vi a2, vi a3] sw m Q := by
  refine Mt.of pY_changes (Nat.le_of_ble_eq_true rfl) (Nat.le_refl _) ?_
  show R2 X 2 mY_changes 0 [(0, vr 84), (1, vi a1), (2, vi a2), (3, vi a3)] [] sw m Q
  refine r_aload_n 0 0 rfl dY_changes_0 rfl ?_
  refine r_iload_n 1 1 rfl dY_changes_1 rfl ?_
  refine r_iload_n 2 2 rfl dY_changes_2 rfl ?_
  refine r_callVi 12 [_, _] rfl c84 rfl rfl oY_valueAt iY_valueAt sY_valueAt yY_150 (by decide) ⟨Nat.le_refl _, Nat.le_refl _⟩ rfl (Nat.le_of_ble_eq_true rfl) dY_changes_3 h (fun z1 r1 m1 h => ?_)
  obtain ⟨sw1, rfl, h⟩ := h
  refine r_istore 4 (by decide) dY_changes_6 ?_
  refine r_iload 4 0 rfl dY_changes_8 ?_
  refine r_iload_n 3 4 rfl dY_changes_10 rfl ?_
  refine r_ifc_ne (tgt := 17) dY_changes_11 (by decide) (fun hc => ?_) (fun hc => ?_)
  · replace h := h.1 hc
    refine r_aload_n 0 1 rfl dY_changes_17 rfl ?_
    refine r_iconst dY_changes_18 ?_
    refine q_putI 10 c84 pfY_154 rfl rfl dY_changes_19 ?_
    refine r_aload_n 0 1 rfl dY_changes_22 rfl ?_
    refine q_getI 9 c84 fY_157 rfl rfl dY_changes_23 ?_
    refine r_bipush (by decide) dY_changes_26 ?_
    refine r_ifc_ne (tgt := 121) dY_changes_28 (by decide) (fun hc => ?_) (fun hc => ?_)
    · replace h := h.1 hc
      refine r_aload_n 0 1 rfl dY_changes_121 rfl ?_
      refine q_getR 11 c84 fY_33 rfl rfl (g84_11 sw1) (by decide) dY_changes_122 ?_
      refine r_aload_n 0 1 rfl dY_changes_125 rfl ?_
      refine q_getI 9 c84 fY_157 rfl rfl dY_changes_126 ?_
      refine r_iload_n 1 2 rfl dY_changes_129 rfl ?_
      refine q_iastore (w32 (m1 84 9)) rfl c92 h.1 dY_changes_130 ?_
      replace h := h.2
      refine r_aload_n 0 1 rfl dY_changes_131 rfl ?_
      refine q_getR 12 c84 fY_36 rfl rfl (g84_12 sw1) (by decide) dY_changes_132 ?_
      refine r_aload_n 0 1 rfl dY_changes_135 rfl ?_
      refine q_getI 9 c84 fY_157 rfl rfl dY_changes_136 ?_
      refine r_iload_n 2 3 rfl dY_changes_139 rfl ?_
      refine q_iastore (w32 (m1 84 9)) rfl c93 h.1 dY_changes_140 ?_
      replace h := h.2
      refine r_aload_n 0 1 rfl dY_changes_141 rfl ?_
      refine q_getR 13 c84 fY_39 rfl rfl (g84_13 sw1) (by decide) dY_changes_142 ?_
      refine r_aload_n 0 1 rfl dY_changes_145 rfl ?_
      refine q_getI 9 c84 fY_157 rfl rfl dY_changes_146 ?_
      refine r_iload 4 0 rfl dY_changes_149 ?_
      refine q_iastore (w32 (m1 84 9)) rfl c94 h.1 dY_changes_151 ?_
      replace h := h.2
      refine r_aload_n 0 1 rfl dY_changes_152 rfl ?_
      refine q_getR 14 c84 fY_42 rfl rfl (g84_14 sw1) (by decide) dY_changes_153 ?_
      refine r_aload_n 0 1 rfl dY_changes_156 rfl ?_
      refine q_getI 9 c84 fY_157 rfl rfl dY_changes_157 ?_
      refine r_iload_n 3 4 rfl dY_changes_160 rfl ?_
      refine q_iastore (w32 (m1 84 9)) rfl c95 h.1 dY_changes_161 ?_
      replace h := h.2
      refine r_aload_n 0 1 rfl dY_changes_162 rfl ?_
      refine r_dup (fun q => by cases q) dY_changes_163 ?_
      refine q_getI 9 c84 fY_157 rfl rfl dY_changes_164 ?_
      refine r_iconst dY_changes_167 ?_
      refine r_iadd dY_changes_168 ?_
      refine q_putI 9 c84 pfY_157 rfl rfl dY_changes_169 ?_
      refine r_aload_n 0 1 rfl dY_changes_172 rfl ?_
      refine r_iload_n 1 2 rfl dY_changes_173 rfl ?_
      refine r_iload_n 2 3 rfl dY_changes_174 rfl ?_
      refine r_iload_n 3 4 rfl dY_changes_175 rfl ?_
      refine r_callVv 12 [_, _, _] rfl c84 rfl rfl oY_lays iY_lays sY_lays yY_160 (by decide) ⟨Nat.le_refl _, Nat.le_refl _⟩ rfl (Nat.le_of_ble_eq_true rfl) dY_changes_176 h (fun z2 r2 m2 h => ?_)
      obtain ⟨sw2, rfl, h⟩ := h
      refine r_iload 4 0 rfl dY_changes_179 ?_
      exact q_iret rfl h dY_changes_181
    · replace h := h.2 hc
      refine r_iconst dY_changes_31 ?_
      refine r_istore 5 (by decide) dY_changes_32 ?_
      refine r_sub [2, 3, 4, 5, 1, 0] ?_ h
      rfl
  · replace h := h.2 hc
    refine r_iload 4 0 rfl dY_changes_14 ?_
    exact q_iret rfl h dY_changes_16
set_option maxRecDepth 4000 in
theorem wY_changes_34 {X : Cx} (x1 x2 x3 x4 x5 : Int) (sw : Bool) (m : Mem) (Q : Int → Bool → Mem → Prop) (h : ((40 ≤ w32 x5 → ((0 ≤ w32 ((m 84 9) - 1) ∧ w32 ((m 84 9) - 1) < 40) ∧ ((0 ≤ w32 ((m 84 9) - 1) ∧ w32 ((m 84 9) - 1) < 40) ∧ ((0 ≤ w32 ((m 84 9) - 1) ∧ w32 ((m 84 9) - 1) < 40) ∧ ((0 ≤ w32 ((m 84 9) - 1) ∧ w32 ((m 84 9) - 1) < 40) ∧ M2 X 1 mY_lays [vr 84, vi x1, vi x2, vi x3] sw (upm (upm (upm (upm (upm (upm m 84 9 ((m 84 9) - 1)) 92 (w32 ((m 84 9) - 1)) x1) 93 (w32 ((m 84 9) - 1)) x2) 94 (w32 ((m 84 9) - 1)) x4) 95 (w32 ((m 84 9) - 1)) x3) 84 9 (((m 84 9) - 1) + 1)) (fun z1 sw1 m1 => Q x4 sw1 m1)))))) ∧ (¬ (40 ≤ w32 x5) → ((0 ≤ w32 x5 ∧ w32 x5 < 40) ∧ ((0 ≤ w32 (x5 - 1) ∧ w32 (x5 - 1) < 40) ∧ ((0 ≤ w32 x5 ∧ w32 x5 < 40) ∧ ((0 ≤ w32 (x5 - 1) ∧ w32 (x5 - 1) < 40) ∧ ((0 ≤ w32 x5 ∧ w32 x5 < 40) ∧ ((0 ≤ w32 (x5 - 1) ∧ w32 (x5 - 1) < 40) ∧ ((0 ≤ w32 x5 ∧ w32 x5 < 40) ∧ ((0 ≤ w32 (x5 - 1) ∧ w32 (x5 - 1) < 40) ∧ R2 X 2 mY_changes 34 [(0, vr 84), (1, vi x1), (2, vi x2), (3, vi x3), (4, vi x4), (5, vi (x5 + 1))] [] sw (upm (upm (upm (upm m 92 (w32 (x5 - 1)) (m 92 (w32 x5))) 93 (w32 (x5 - 1)) (m 93 (w32 x5))) 94 (w32 (x5 - 1)) (m 94 (w32 x5))) 95 (w32 (x5 - 1)) (m 95 (w32 x5))) Q))))))))))) : R2 X 2 mY_changes 34 [(0, vr 84), (1, vi x1), (2, vi x2), (3, vi x3), (4, vi x4), (5, vi x5)] [] sw m Q := by
  refine r_iload 5 5 rfl dY_changes_34 ?_
  refine r_bipush (by decide) dY_changes_36 ?_
  refine r_ifc_ge (tgt := 111) dY_changes_38 (by decide) (fun hc => ?_) (fun hc => ?_)
  · replace h := h.1 hc
    refine r_aload_n 0 0 rfl dY_changes_111 rfl ?_
    refine r_dup (fun q => by cases q) dY_changes_112 ?_
    refine q_getI 9 c84 fY_157 rfl rfl dY_changes_113 ?_
    refine r_iconst dY_changes_116 ?_
    refine r_isub dY_changes_117 ?_
    refine q_putI 9 c84 pfY_157 rfl rfl dY_changes_118 ?_
    refine r_aload_n 0 0 rfl dY_changes_121 rfl ?_
    refine q_getR 11 c84 fY_33 rfl rfl (g84_11 sw) (by decide) dY_changes_122 ?_
    refine r_aload_n 0 0 rfl dY_changes_125 rfl ?_
    refine q_getI 9 c84 fY_157 rfl rfl dY_changes_126 ?_
    refine r_iload_n 1 1 rfl dY_changes_129 rfl ?_
    refine q_iastore (w32 ((m 84 9) - 1)) rfl c92 h.1 dY_changes_130 ?_
    replace h := h.2
    refine r_aload_n 0 0 rfl dY_changes_131 rfl ?_
    refine q_getR 12 c84 fY_36 rfl rfl (g84_12 sw) (by decide) dY_changes_132 ?_
    refine r_aload_n 0 0 rfl dY_changes_135 rfl ?_
    refine q_getI 9 c84 fY_157 rfl rfl dY_changes_136 ?_
    refine r_iload_n 2 2 rfl dY_changes_139 rfl ?_
    refine q_iastore (w32 ((m 84 9) - 1)) rfl c93 h.1 dY_changes_140 ?_
    replace h := h.2
    refine r_aload_n 0 0 rfl dY_changes_141 rfl ?_
    refine q_getR 13 c84 fY_39 rfl rfl (g84_13 sw) (by decide) dY_changes_142 ?_
    refine r_aload_n 0 0 rfl dY_changes_145 rfl ?_
    refine q_getI 9 c84 fY_157 rfl rfl dY_changes_146 ?_
    refine r_iload 4 4 rfl dY_changes_149 ?_
    refine q_iastore (w32 ((m 84 9) - 1)) rfl c94 h.1 dY_changes_151 ?_
    replace h := h.2
    refine r_aload_n 0 0 rfl dY_changes_152 rfl ?_
    refine q_getR 14 c84 fY_42 rfl rfl (g84_14 sw) (by decide) dY_changes_153 ?_
    refine r_aload_n 0 0 rfl dY_changes_156 rfl ?_
    refine q_getI 9 c84 fY_157 rfl rfl dY_changes_157 ?_
    refine r_iload_n 3 3 rfl dY_changes_160 rfl ?_
    refine q_iastore (w32 ((m 84 9) - 1)) rfl c95 h.1 dY_changes_161 ?_
    replace h := h.2
    refine r_aload_n 0 0 rfl dY_changes_162 rfl ?_
    refine r_dup (fun q => by cases q) dY_changes_163 ?_
    refine q_getI 9 c84 fY_157 rfl rfl dY_changes_164 ?_
    refine r_iconst dY_changes_167 ?_
    refine r_iadd dY_changes_168 ?_
    refine q_putI 9 c84 pfY_157 rfl rfl dY_changes_169 ?_
    refine r_aload_n 0 0 rfl dY_changes_172 rfl ?_
    refine r_iload_n 1 1 rfl dY_changes_173 rfl ?_
    refine r_iload_n 2 2 rfl dY_changes_174 rfl ?_
    refine r_iload_n 3 3 rfl dY_changes_175 rfl ?_
    refine r_callVv 12 [_, _, _] rfl c84 rfl rfl oY_lays iY_lays sY_lays yY_160 (by decide) ⟨Nat.le_refl _, Nat.le_refl _⟩ rfl (Nat.le_of_ble_eq_true rfl) dY_changes_176 h (fun z1 r1 m1 h => ?_)
    obtain ⟨sw1, rfl, h⟩ := h
    refine r_iload 4 4 rfl dY_changes_179 ?_
    exact q_iret rfl h dY_changes_181
  · replace h := h.2 hc
    refine r_aload_n 0 0 rfl dY_changes_41 rfl ?_
    refine q_getR 11 c84 fY_33 rfl rfl (g84_11 sw) (by decide) dY_changes_42 ?_
    refine r_iload 5 5 rfl dY_changes_45 ?_
    refine r_iconst dY_changes_47 ?_
    refine r_isub dY_changes_48 ?_
    refine r_aload_n 0 0 rfl dY_changes_49 rfl ?_
    refine q_getR 11 c84 fY_33 rfl rfl (g84_11 sw) (by decide) dY_changes_50 ?_
    refine r_iload 5 5 rfl dY_changes_53 ?_
    refine q_iaload (w32 x5) rfl c92 h.1 dY_changes_55 ?_
    replace h := h.2
    refine q_iastore (w32 (x5 - 1)) rfl c92 h.1 dY_changes_56 ?_
    replace h := h.2
    refine r_aload_n 0 0 rfl dY_changes_57 rfl ?_
    refine q_getR 12 c84 fY_36 rfl rfl (g84_12 sw) (by decide) dY_changes_58 ?_
    refine r_iload 5 5 rfl dY_changes_61 ?_
    refine r_iconst dY_changes_63 ?_
    refine r_isub dY_changes_64 ?_
    refine r_aload_n 0 0 rfl dY_changes_65 rfl ?_
    refine q_getR 12 c84 fY_36 rfl rfl (g84_12 sw) (by decide) dY_changes_66 ?_
    refine r_iload 5 5 rfl dY_changes_69 ?_
    refine q_iaload (w32 x5) rfl c93 h.1 dY_changes_71 ?_
    replace h := h.2
    refine q_iastore (w32 (x5 - 1)) rfl c93 h.1 dY_changes_72 ?_
    replace h := h.2
    refine r_aload_n 0 0 rfl dY_changes_73 rfl ?_
    refine q_getR 13 c84 fY_39 rfl rfl (g84_13 sw) (by decide) dY_changes_74 ?_
    refine r_iload 5 5 rfl dY_changes_77 ?_
    refine r_iconst dY_changes_79 ?_
    refine r_isub dY_changes_80 ?_
    refine r_aload_n 0 0 rfl dY_changes_81 rfl ?_
    refine q_getR 13 c84 fY_39 rfl rfl (g84_13 sw) (by decide) dY_changes_82 ?_
    refine r_iload 5 5 rfl dY_changes_85 ?_
    refine q_iaload (w32 x5) rfl c94 h.1 dY_changes_87 ?_
    replace h := h.2
    refine q_iastore (w32 (x5 - 1)) rfl c94 h.1 dY_changes_88 ?_
    replace h := h.2
    refine r_aload_n 0 0 rfl dY_changes_89 rfl ?_
    refine q_getR 14 c84 fY_42 rfl rfl (g84_14 sw) (by decide) dY_changes_90 ?_
    refine r_iload 5 5 rfl dY_changes_93 ?_
    refine r_iconst dY_changes_95 ?_
    refine r_isub dY_changes_96 ?_
    refine r_aload_n 0 0 rfl dY_changes_97 rfl ?_
    refine q_getR 14 c84 fY_42 rfl rfl (g84_14 sw) (by decide) dY_changes_98 ?_
    refine r_iload 5 5 rfl dY_changes_101 ?_
    refine q_iaload (w32 x5) rfl c95 h.1 dY_changes_103 ?_
    replace h := h.2
    refine q_iastore (w32 (x5 - 1)) rfl c95 h.1 dY_changes_104 ?_
    replace h := h.2
    refine r_iinc 5 5 rfl (by decide) dY_changes_105 ?_
    refine r_goto (tgt := 34) dY_changes_108 (by decide) ?_
    refine r_sub [1, 2, 3, 4, 5, 0] ?_ h
    rfl
theorem dY_undo_0 : decode mY_undo.2.1 0 = .ok (.aload_n 0, 1) := by decide +kernel
theorem dY_undo_1 : decode mY_undo.2.1 1 = .ok (.getfield 157, 3) := by decide +kernel
theorem dY_undo_4 : decode mY_undo.2.1 4 = .ok (.ifCond .ne 6, 3) := by decide +kernel
theorem dY_undo_7 : decode mY_undo.2.1 7 = .ok (.bipush (-5), 2) := by decide +kernel
theorem dY_undo_9 : decode mY_undo.2.1 9 = .ok (.ireturn, 1) := by decide +kernel
theorem dY_undo_10 : decode mY_undo.2.1 10 = .ok (.aload_n 0, 1) := by decide +kernel
theorem dY_undo_11 : decode mY_undo.2.1 11 = .ok (.dup, 1) := by decide +kernel
theorem dY_undo_12 : decode mY_undo.2.1 12 = .ok (.getfield 157, 3) := by decide +kernel
theorem dY_undo_15 : decode mY_undo.2.1 15 = .ok (.iconst 1, 1) := by decide +kernel
theorem dY_undo_16 : decode mY_undo.2.1 16 = .ok (.isub, 1) := by decide +kernel
theorem dY_undo_17 : decode mY_undo.2.1 17 = .ok (.putfield 157, 3) := by decide +kernel
theorem dY_undo_20 : decode mY_undo.2.1 20 = .ok (.aload_n 0, 1) := by decide +kernel
theorem dY_undo_21 : decode mY_undo.2.1 21 = .ok (.dup, 1) := by decide +kernel
theorem dY_undo_22 : decode mY_undo.2.1 22 = .ok (.getfield 154, 3) := by decide +kernel
theorem dY_undo_25 : decode mY_undo.2.1 25 = .ok (.iconst 1, 1) := by decide +kernel
theorem dY_undo_26 : decode mY_undo.2.1 26 = .ok (.iadd, 1) := by decide +kernel
theorem dY_undo_27 : decode mY_undo.2.1 27 = .ok (.putfield 154, 3) := by decide +kernel
theorem dY_undo_30 : decode mY_undo.2.1 30 = .ok (.aload_n 0, 1) := by decide +kernel
theorem dY_undo_31 : decode mY_undo.2.1 31 = .ok (.aload_n 0, 1) := by decide +kernel
theorem dY_undo_32 : decode mY_undo.2.1 32 = .ok (.getfield 33, 3) := by decide +kernel
theorem dY_undo_35 : decode mY_undo.2.1 35 = .ok (.aload_n 0, 1) := by decide +kernel
theorem dY_undo_36 : decode mY_undo.2.1 36 = .ok (.getfield 157, 3) := by decide +kernel
theorem dY_undo_39 : decode mY_undo.2.1 39 = .ok (.iaload, 1) := by decide +kernel
theorem dY_undo_40 : decode mY_undo.2.1 40 = .ok (.aload_n 0, 1) := by decide +kernel
theorem dY_undo_41 : decode mY_undo.2.1 41 = .ok (.getfield 36, 3) := by decide +kernel
theorem dY_undo_44 : decode mY_undo.2.1 44 = .ok (.aload_n 0, 1) := by decide +kernel
theorem dY_undo_45 : decode mY_undo.2.1 45 = .ok (.getfield 157, 3) := by decide +kernel
theorem dY_undo_48 : decode mY_undo.2.1 48 = .ok (.iaload, 1) := by decide +kernel
theorem dY_undo_49 : decode mY_undo.2.1 49 = .ok (.aload_n 0, 1) := by decide +kernel
theorem dY_undo_50 : decode mY_undo.2.1 50 = .ok (.getfield 39, 3) := by decide +kernel
theorem dY_undo_53 : decode mY_undo.2.1 53 = .ok (.aload_n 0, 1) := by decide +kernel
theorem dY_undo_54 : decode mY_undo.2.1 54 = .ok (.getfield 157, 3) := by decide +kernel
theorem dY_undo_57 : decode mY_undo.2.1 57 = .ok (.iaload, 1) := by decide +kernel
theorem dY_undo_58 : decode mY_undo.2.1 58 = .ok (.invokevirtual 160, 3) := by decide +kernel
theorem dY_undo_61 : decode mY_undo.2.1 61 = .ok (.aload_n 0, 1) := by decide +kernel
theorem dY_undo_62 : decode mY_undo.2.1 62 = .ok (.getfield 157, 3) := by decide +kernel
theorem dY_undo_65 : decode mY_undo.2.1 65 = .ok (.ireturn, 1) := by decide +kernel
/- Y_undo: ()I -/
set_option maxRecDepth 4000 in
theorem wY_undo {X : Cx} (sw : Bool) (m : Mem) (Q : Int → Bool → Mem → Prop) (h : ((¬ w32 (m 84 9) = 0 → ((0 ≤ w32 ((m 84 9) - 1) ∧ w32 ((m 84 9) - 1) < 40) ∧ ((0 ≤ w32 ((m 84 9) - 1) ∧ w32 ((m 84 9) - 1) < 40) ∧ ((0 ≤ w32 ((m 84 9) - 1) ∧ w32 ((m 84 9) - 1) < 40) ∧ M2 X 1 mY_lays [vr 84, vi (m 92 (w32 ((m 84 9) - 1))), vi (m 93 (w32 ((m 84 9) - 1))), vi (m 94 (w32 ((m 84 9) - 1)))] sw (upm (upm m 84 9 ((m 84 9) - 1)) 84 10 ((m 84 10) + 1)) (fun z1 sw1 m1 => Q (m1 84 9) sw1 m1))))) ∧ (¬ (¬ w32 (m 84 9) = 0) → Q (-5) sw m))) : M2 X 2 mY_undo [vr 84] sw m Q := by
  refine Mt.of pY_undo (Nat.le_of_ble_eq_true rfl) (Nat.le_refl _) ?_
  show R2 X 2 mY_undo 0 [(0, vr 84)] [] sw m Q
  refine r_aload_n 0 0 rfl dY_undo_0 rfl ?_
  refine q_getI 9 c84 fY_157 rfl rfl dY_undo_1 ?_
  refine r_if_ne (tgt := 10) dY_undo_4 (by decide) (fun hc => ?_) (fun hc => ?_)
  · replace h := h.1 hc
    refine r_aload_n 0 0 rfl dY_undo_10 rfl ?_
    refine r_dup (fun q => by cases q) dY_undo_11 ?_
    refine q_getI 9 c84 fY_157 rfl rfl dY_undo_12 ?_
    refine r_iconst dY_undo_15 ?_
    refine r_isub dY_undo_16 ?_
    refine q_putI 9 c84 pfY_157 rfl rfl dY_undo_17 ?_
    refine r_aload_n 0 0 rfl dY_undo_20 rfl ?_
    refine r_dup (fun q => by cases q) dY_undo_21 ?_
    refine q_getI 10 c84 fY_154 rfl rfl dY_undo_22 ?_
    refine r_iconst dY_undo_25 ?_
    refine r_iadd dY_undo_26 ?_
    refine q_putI 10 c84 pfY_154 rfl rfl dY_undo_27 ?_
    refine r_aload_n 0 0 rfl dY_undo_30 rfl ?_
    refine r_aload_n 0 0 rfl dY_undo_31 rfl ?_
    refine q_getR 11 c84 fY_33 rfl rfl (g84_11 sw) (by decide) dY_undo_32 ?_
    refine r_aload_n 0 0 rfl dY_undo_35 rfl ?_
    refine q_getI 9 c84 fY_157 rfl rfl dY_undo_36 ?_
    refine q_iaload (w32 ((m 84 9) - 1)) rfl c92 h.1 dY_undo_39 ?_
    replace h := h.2
    refine r_aload_n 0 0 rfl dY_undo_40 rfl ?_
    refine q_getR 12 c84 fY_36 rfl rfl (g84_12 sw) (by decide) dY_undo_41 ?_
    refine r_aload_n 0 0 rfl dY_undo_44 rfl ?_
    refine q_getI 9 c84 fY_157 rfl rfl dY_undo_45 ?_
    refine q_iaload (w32 ((m 84 9) - 1)) rfl c93 h.1 dY_undo_48 ?_
    replace h := h.2
    refine r_aload_n 0 0 rfl dY_undo_49 rfl ?_
    refine q_getR 13 c84 fY_39 rfl rfl (g84_13 sw) (by decide) dY_undo_50 ?_
    refine r_aload_n 0 0 rfl dY_undo_53 rfl ?_
    refine q_getI 9 c84 fY_157 rfl rfl dY_undo_54 ?_
    refine q_iaload (w32 ((m 84 9) - 1)) rfl c94 h.1 dY_undo_57 ?_
    replace h := h.2
    refine r_callVv 12 [_, _, _] rfl c84 rfl rfl oY_lays iY_lays sY_lays yY_160 (by decide) ⟨Nat.le_refl _, Nat.le_refl _⟩ rfl (Nat.le_of_ble_eq_true rfl) dY_undo_58 h (fun z1 r1 m1 h => ?_)
    obtain ⟨sw1, rfl, h⟩ := h
    refine r_aload_n 0 0 rfl dY_undo_61 rfl ?_
    refine q_getI 9 c84 fY_157 rfl rfl dY_undo_62 ?_
    exact q_iret rfl h dY_undo_65
  · replace h := h.2 hc
    refine r_bipush (by decide) dY_undo_7 ?_
    exact q_iret rfl h dY_undo_9
theorem dY_redo_0 : decode mY_redo.2.1 0 = .ok (.aload_n 0, 1) := by decide +kernel
theorem dY_redo_1 : decode mY_redo.2.1 1 = .ok (.getfield 154, 3) := by decide +kernel
theorem dY_redo_4 : decode mY_redo.2.1 4 = .ok (.ifCond .ne 6, 3) := by decide +kernel
theorem dY_redo_7 : decode mY_redo.2.1 7 = .ok (.bipush (-5), 2) := by decide +kernel
theorem dY_redo_9 : decode mY_redo.2.1 9 = .ok (.ireturn, 1) := by decide +kernel
theorem dY_redo_10 : decode mY_redo.2.1 10 = .ok (.aload_n 0, 1) := by decide +kernel
theorem dY_redo_11 : decode mY_redo.2.1 11 = .ok (.aload_n 0, 1) := by decide +kernel
theorem dY_redo_12 : decode mY_redo.2.1 12 = .ok (.getfield 33, 3) := by decide +kernel
theorem dY_redo_15 : decode mY_redo.2.1 15 = .ok (.aload_n 0, 1) := by decide +kernel
theorem dY_redo_16 : decode mY_redo.2.1 16 = .ok (.getfield 157, 3) := by decide +kernel
theorem dY_redo_19 : decode mY_redo.2.1 19 = .ok (.iaload, 1) := by decide +kernel
theorem dY_redo_20 : decode mY_redo.2.1 20 = .ok (.aload_n 0, 1) := by decide +kernel
theorem dY_redo_21 : decode mY_redo.2.1 21 = .ok (.getfield 36, 3) := by decide +kernel
theorem dY_redo_24 : decode mY_redo.2.1 24 = .ok (.aload_n 0, 1) := by decide +kernel
theorem dY_redo_25 : decode mY_redo.2.1 25 = .ok (.getfield 157, 3) := by decide +kernel
theorem dY_redo_28 : decode mY_redo.2.1 28 = .ok (.iaload, 1) := by decide +kernel
theorem dY_redo_29 : decode mY_redo.2.1 29 = .ok (.aload_n 0, 1) := by decide +kernel
theorem dY_redo_30 : decode mY_redo.2.1 30 = .ok (.getfield 42, 3) := by decide +kernel
theorem dY_redo_33 : decode mY_redo.2.1 33 = .ok (.aload_n 0, 1) := by decide +kernel
theorem dY_redo_34 : decode mY_redo.2.1 34 = .ok (.getfield 157, 3) := by decide +kernel
theorem dY_redo_37 : decode mY_redo.2.1 37 = .ok (.iaload, 1) := by decide +kernel
theorem dY_redo_38 : decode mY_redo.2.1 38 = .ok (.invokevirtual 160, 3) := by decide +kernel
theorem dY_redo_41 : decode mY_redo.2.1 41 = .ok (.aload_n 0, 1) := by decide +kernel
theorem dY_redo_42 : decode mY_redo.2.1 42 = .ok (.dup, 1) := by decide +kernel
theorem dY_redo_43 : decode mY_redo.2.1 43 = .ok (.getfield 157, 3) := by decide +kernel
theorem dY_redo_46 : decode mY_redo.2.1 46 = .ok (.iconst 1, 1) := by decide +kernel
theorem dY_redo_47 : decode mY_redo.2.1 47 = .ok (.iadd, 1) := by decide +kernel
theorem dY_redo_48 : decode mY_redo.2.1 48 = .ok (.putfield 157, 3) := by decide +kernel
theorem dY_redo_51 : decode mY_redo.2.1 51 = .ok (.aload_n 0, 1) := by decide +kernel
theorem dY_redo_52 : decode mY_redo.2.1 52 = .ok (.dup, 1) := by decide +kernel
theorem dY_redo_53 : decode mY_redo.2.1 53 = .ok (.getfield 154, 3) := by decide +kernel
theorem dY_redo_56 : decode mY_redo.2.1 56 = .ok (.iconst 1, 1) := by decide +kernel
theorem dY_redo_57 : decode mY_redo.2.1 57 = .ok (.isub, 1) := by decide +kernel
theorem dY_redo_58 : decode mY_redo.2.1 58 = .ok (.putfield 154, 3) := by decide +kernel
theorem dY_redo_61 : decode mY_redo.2.1 61 = .ok (.aload_n 0, 1) := by decide +kernel
theorem dY_redo_62 : decode mY_redo.2.1 62 = .ok (.getfield 154, 3) := by decide +kernel
theorem dY_redo_65 : decode mY_redo.2.1 65 = .ok (.ireturn, 1) := by decide +kernel
/- Y_redo: ()I -/
set_option maxRecDepth 4000 in
theorem wY_redo {X : Cx} (sw : Bool) (m : Mem) (Q : Int → Bool → Mem → Prop) (h : ((¬ w32 (m 84 10) = 0 → ((0 ≤ w32 (m 84 9) ∧ w32 (m 84 9) < 40) ∧ ((0 ≤ w32 (m 84 9) ∧ w32 (m 84 9) < 40) ∧ ((0 ≤ w32 (m 84 9) ∧ w32 (m 84 9) < 40) ∧ M2 X 1 mY_lays [vr 84, vi (m 92 (w32 (m 84 9))), vi (m 93 (w32 (m 84 9))), vi (m 95 (w32 (m 84 9)))] sw m (fun z1 sw1 m1 => Q ((m1 84 10) - 1) sw1 (upm (upm m1 84 9 ((m1 84 9) + 1)) 84 10 ((m1 84 10) - 1))))))) ∧ (¬ (¬ w32 (m 84 10) = 0) → Q (-5) sw m))) : M2 X 2 mY_redo [vr 84] sw m Q := by
  refine Mt.of pY_redo (Nat.le_of_ble_eq_true rfl) (Nat.le_refl _) ?_
  show R2 X 2 mY_redo 0 [(0, vr 84)] [] sw m Q
  refine r_aload_n 0 0 rfl dY_redo_0 rfl ?_
  refine q_getI 10 c84 fY_154 rfl rfl dY_redo_1 ?_
  refine r_if_ne (tgt := 10) dY_redo_4 (by decide) (fun hc => ?_) (fun hc => ?_)
  · replace h := h.1 hc
    refine r_aload_n 0 0 rfl dY_redo_10 rfl ?_
    refine r_aload_n 0 0 rfl dY_redo_11 rfl ?_
    refine q_getR 11 c84 fY_33 rfl rfl (g84_11 sw) (by decide) dY_redo_12 ?_
    refine r_aload_n 0 0 rfl dY_redo_15 rfl ?_
    refine q_getI 9 c84 fY_157 rfl rfl dY_redo_16 ?_
    refine q_iaload (w32 (m 84 9)) rfl c92 h.1 dY_redo_19 ?_
    replace h := h.2
    refine r_aload_n 0 0 rfl dY_redo_20 rfl ?_
    refine q_getR 12 c84 fY_36 rfl rfl (g84_12 sw) (by decide) dY_redo_21 ?_
    refine r_aload_n 0 0 rfl dY_redo_24 rfl ?_
    refine q_getI 9 c84 fY_157 rfl rfl dY_redo_25 ?_
    refine q_iaload (w32 (m 84 9)) rfl c93 h.1 dY_redo_28 ?_
    replace h := h.2
    refine r_aload_n 0 0 rfl dY_redo_29 rfl ?_
    refine q_getR 14 c84 fY_42 rfl rfl (g84_14 sw) (by decide) dY_redo_30 ?_
    refine r_aload_n 0 0 rfl dY_redo_33 rfl ?_
    refine q_getI 9 c84 fY_157 rfl rfl dY_redo_34 ?_
    refine q_iaload (w32 (m 84 9)) rfl c95 h.1 dY_redo_37 ?_
    replace h := h.2
    refine r_callVv 12 [_, _, _] rfl c84 rfl rfl oY_lays iY_lays sY_lays yY_160 (by decide) ⟨Nat.le_refl _, Nat.le_refl _⟩ rfl (Nat.le_of_ble_eq_true rfl) dY_redo_38 h (fun z1 r1 m1 h => ?_)
    obtain ⟨sw1, rfl, h⟩ := h
    refine r_aload_n 0 0 rfl dY_redo_41 rfl ?_
    refine r_dup (fun q => by cases q) dY_redo_42 ?_
    refine q_getI 9 c84 fY_157 rfl rfl dY_redo_43 ?_
    refine r_iconst dY_redo_46 ?_
    refine r_iadd dY_redo_47 ?_
    refine q_putI 9 c84 pfY_157 rfl rfl dY_redo_48 ?_
    refine r_aload_n 0 0 rfl dY_redo_51 rfl ?_
    refine r_dup (fun q => by cases q) dY_redo_52 ?_
    refine q_getI 10 c84 fY_154 rfl rfl dY_redo_53 ?_
    refine r_iconst dY_redo_56 ?_
    refine r_isub dY_redo_57 ?_
    refine q_putI 10 c84 pfY_154 rfl rfl dY_redo_58 ?_
    refine r_aload_n 0 0 rfl dY_redo_61 rfl ?_
    refine q_getI 10 c84 fY_154 rfl rfl dY_redo_62 ?_
    exact q_iret rfl h dY_redo_65
  · replace h := h.2 hc
    refine r_bipush (by decide) dY_redo_7 ?_
    exact q_iret rfl h dY_redo_9
theorem dY_isOne_0 : decode mY_isOne.2.1 0 = .ok (.iload_n 2, 1) := by decide +kernel
theorem dY_isOne_1 : decode mY_isOne.2.1 1 = .ok (.iconst 0, 1) := by decide +kernel
theorem dY_isOne_2 : decode mY_isOne.2.1 2 = .ok (.iconst 5, 1) := by decide +kernel
theorem dY_isOne_3 : decode mY_isOne.2.1 3 = .ok (.invokestatic 133, 3) := by decide +kernel
theorem dY_isOne_6 : decode mY_isOne.2.1 6 = .ok (.ifCond .eq 11, 3) := by decide +kernel
theorem dY_isOne_9 : decode mY_isOne.2.1 9 = .ok (.aload_n 0, 1) := by decide +kernel
theorem dY_isOne_10 : decode mY_isOne.2.1 10 = .ok (.iload_n 1, 1) := by decide +kernel
theorem dY_isOne_11 : decode mY_isOne.2.1 11 = .ok (.invokevirtual 164, 3) := by decide +kernel
theorem dY_isOne_14 : decode mY_isOne.2.1 14 = .ok (.goto 23, 3) := by decide +kernel
theorem dY_isOne_17 : decode mY_isOne.2.1 17 = .ok (.iload_n 2, 1) := by decide +kernel
theorem dY_isOne_18 : decode mY_isOne.2.1 18 = .ok (.bipush 6, 2) := by decide +kernel
theorem dY_isOne_20 : decode mY_isOne.2.1 20 = .ok (.bipush 12, 2) := by decide +kernel
theorem dY_isOne_22 : decode mY_isOne.2.1 22 = .ok (.invokestatic 133, 3) := by decide +kernel
theorem dY_isOne_25 : decode mY_isOne.2.1 25 = .ok (.ifCond .eq 11, 3) := by decide +kernel
theorem dY_isOne_28 : decode mY_isOne.2.1 28 = .ok (.iload_n 1, 1) := by decide +kernel
theorem dY_isOne_29 : decode mY_isOne.2.1 29 = .ok (.ifCond .ne 7, 3) := by decide +kernel
theorem dY_isOne_32 : decode mY_isOne.2.1 32 = .ok (.iconst 1, 1) := by decide +kernel
theorem dY_isOne_33 : decode mY_isOne.2.1 33 = .ok (.goto 4, 3) := by decide +kernel
theorem dY_isOne_36 : decode mY_isOne.2.1 36 = .ok (.iconst 0, 1) := by decide +kernel
theorem dY_isOne_37 : decode mY_isOne.2.1 37 = .ok (.ireturn, 1) := by decide +kernel
/- Y_isOne: (II)Z -/
set_option maxRecDepth 4000 in
theorem wY_isOne {X : Cx} (a1 a2 : Int) (sw : Bool) (m : Mem) (Q : Int → Bool → Mem → Prop) (h : M2 X 1 mY_in [vi a2, vi 0, vi 5] sw m (fun z1 sw1 m1 => ((w32 z1 = 0 → M2 X 1 mY_in [vi a2, vi 6, vi 12] sw1 m1 (fun z2 sw2 m2 => ((w32 z2 = 0 → Q 0 sw2 m2) ∧ (¬ (w32 z2 = 0) → ((¬ w32 a1 = 0 → Q 0 sw2 m2) ∧ (¬ (¬ w32 a1 = 0) → Q 1 sw2 m2)))))) ∧ (¬ (w32 z1 = 0) → M2 X 2 mY_isPart [vr 84, vi a1] sw1 m1 (fun z3 sw3 m3 => ((z3 = 0 ∨ z3 = 1) ∧ Q z3 sw3 m3)))))) : M2 X 3 mY_isOne [vr 84, vi a1, vi a2] sw m Q := by
  refine Mt.of pY_isOne (Nat.le_of_ble_eq_true rfl) (Nat.le_refl _) ?_
  show R2 X 3 mY_isOne 0 [(0, vr 84), (1, vi a1), (2, vi a2)] [] sw m Q
  refine r_iload_n 2 2 rfl dY_isOne_0 rfl ?_
  refine r_iconst dY_isOne_1 ?_
  refine r_iconst dY_isOne_2 ?_
  refine r_callSb [_, _, _] rfl oY_in iY_in yY_133 (by decide) ⟨Nat.le_refl _, Nat.le_refl _⟩ rfl (Nat.le_of_ble_eq_true rfl) dY_isOne_3 h (fun z1 r1 m1 h => ?_)
  obtain ⟨sw1, rfl, h⟩ := h
  refine r_if_eq (tgt := 17) dY_isOne_6 (by decide) (fun hc => ?_) (fun hc => ?_)
  · replace h := h.1 hc
    refine r_iload_n 2 2 rfl dY_isOne_17 rfl ?_
    refine r_bipush (by decide) dY_isOne_18 ?_
    refine r_bipush (by decide) dY_isOne_20 ?_
    refine r_callSb [_, _, _] rfl oY_in iY_in yY_133 (by decide) ⟨Nat.le_refl _, Nat.le_refl _⟩ rfl (Nat.le_of_ble_eq_true rfl) dY_isOne_22 h (fun z2 r2 m2 h => ?_)
    obtain ⟨sw2, rfl, h⟩ := h
    refine r_if_eq (tgt := 36) dY_isOne_25 (by decide) (fun hc => ?_) (fun hc => ?_)
    · replace h := h.1 hc
      refine r_iconst dY_isOne_36 ?_
      exact q_bret rfl (Or.inl rfl) h dY_isOne_37
    · replace h := h.2 hc
      refine r_iload_n 1 1 rfl dY_isOne_28 rfl ?_
      refine r_if_ne (tgt := 36) dY_isOne_29 (by decide) (fun hc => ?_) (fun hc => ?_)
      · replace h := h.1 hc
        refine r_iconst dY_isOne_36 ?_
        exact q_bret rfl (Or.inl rfl) h dY_isOne_37
      · replace h := h.2 hc
        refine r_iconst dY_isOne_32 ?_
        refine r_goto (tgt := 37) dY_isOne_33 (by decide) ?_
        exact q_bret rfl (Or.inr rfl) h dY_isOne_37
  · replace h := h.2 hc
    refine r_aload_n 0 0 rfl dY_isOne_9 rfl ?_
    refine r_iload_n 1 1 rfl dY_isOne_10 rfl ?_
    refine r_callVb 12 [_] rfl c84 rfl rfl oY_isPart iY_isPart sY_isPart yY_164 (by decide) ⟨Nat.le_refl _, Nat.le_refl _⟩ rfl (Nat.le_of_ble_eq_true rfl) dY_isOne_11 h (fun z3 r3 m3 h => ?_)
    obtain ⟨sw3, rfl, h⟩ := h
    refine r_goto (tgt := 37) dY_isOne_14 (by decide) ?_
    exact q_bret rfl h.1 h.2 dY_isOne_37
theorem dY_mayHave_0 : decode mY_mayHave.2.1 0 = .ok (.iload_n 1, 1) := by decide +kernel
theorem dY_mayHave_1 : decode mY_mayHave.2.1 1 = .ok (.tableswitch 157 0 12 #[67, 78, 85, 93, 157, 101, 157, 109, 116, 125, 133, 141, 149], 67) := by decide +kernel
theorem dY_mayHave_68 : decode mY_mayHave.2.1 68 = .ok (.iload_n 2, 1) := by decide +kernel
theorem dY_mayHave_69 : decode mY_mayHave.2.1 69 = .ok (.iconst 0, 1) := by decide +kernel
theorem dY_mayHave_70 : decode mY_mayHave.2.1 70 = .ok (.iconst 1, 1) := by decide +kernel
theorem dY_mayHave_71 : decode mY_mayHave.2.1 71 = .ok (.iload_n 0, 1) := by decide +kernel
theorem dY_mayHave_72 : decode mY_mayHave.2.1 72 = .ok (.ishl, 1) := by decide +kernel
theorem dY_mayHave_73 : decode mY_mayHave.2.1 73 = .ok (.iconst 1, 1) := by decide +kernel
theorem dY_mayHave_74 : decode mY_mayHave.2.1 74 = .ok (.isub, 1) := by decide +kernel
theorem dY_mayHave_75 : decode mY_mayHave.2.1 75 = .ok (.invokestatic 133, 3) := by decide +kernel
theorem dY_mayHave_78 : decode mY_mayHave.2.1 78 = .ok (.ireturn, 1) := by decide +kernel
theorem dY_mayHave_79 : decode mY_mayHave.2.1 79 = .ok (.iload_n 2, 1) := by decide +kernel
theorem dY_mayHave_80 : decode mY_mayHave.2.1 80 = .ok (.iconst 0, 1) := by decide +kernel
theorem dY_mayHave_81 : decode mY_mayHave.2.1 81 = .ok (.iconst 1, 1) := by decide +kernel
theorem dY_mayHave_82 : decode mY_mayHave.2.1 82 = .ok (.invokestatic 133, 3) := by decide +kernel
theorem dY_mayHave_85 : decode mY_mayHave.2.1 85 = .ok (.ireturn, 1) := by decide +kernel
theorem dY_mayHave_86 : decode mY_mayHave.2.1 86 = .ok (.iload_n 2, 1) := by decide +kernel
theorem dY_mayHave_87 : decode mY_mayHave.2.1 87 = .ok (.iconst 0, 1) := by decide +kernel
theorem dY_mayHave_88 : decode mY_mayHave.2.1 88 = .ok (.bipush 12, 2) := by decide +kernel
theorem dY_mayHave_90 : decode mY_mayHave.2.1 90 = .ok (.invokestatic 133, 3) := by decide +kernel
theorem dY_mayHave_93 : decode mY_mayHave.2.1 93 = .ok (.ireturn, 1) := by decide +kernel
theorem dY_mayHave_94 : decode mY_mayHave.2.1 94 = .ok (.iload_n 2, 1) := by decide +kernel
theorem dY_mayHave_95 : decode mY_mayHave.2.1 95 = .ok (.iconst 1, 1) := by decide +kernel
theorem dY_mayHave_96 : decode mY_mayHave.2.1 96 = .ok (.bipush 60, 2) := by decide +kernel
theorem dY_mayHave_98 : decode mY_mayHave.2.1 98 = .ok (.invokestatic 133, 3) := by decide +kernel
theorem dY_mayHave_101 : decode mY_mayHave.2.1 101 = .ok (.ireturn, 1) := by decide +kernel
theorem dY_mayHave_102 : decode mY_mayHave.2.1 102 = .ok (.iload_n 2, 1) := by decide +kernel
theorem dY_mayHave_103 : decode mY_mayHave.2.1 103 = .ok (.iconst 0, 1) := by decide +kernel
theorem dY_mayHave_104 : decode mY_mayHave.2.1 104 = .ok (.bipush 99, 2) := by decide +kernel
theorem dY_mayHave_106 : decode mY_mayHave.2.1 106 = .ok (.invokestatic 133, 3) := by decide +kernel
theorem dY_mayHave_109 : decode mY_mayHave.2.1 109 = .ok (.ireturn, 1) := by decide +kernel
theorem dY_mayHave_110 : decode mY_mayHave.2.1 110 = .ok (.iload_n 2, 1) := by decide +kernel
theorem dY_mayHave_111 : decode mY_mayHave.2.1 111 = .ok (.iconst 0, 1) := by decide +kernel
theorem dY_mayHave_112 : decode mY_mayHave.2.1 112 = .ok (.iconst 1, 1) := by decide +kernel
theorem dY_mayHave_113 : decode mY_mayHave.2.1 113 = .ok (.invokestatic 133, 3) := by decide +kernel
theorem dY_mayHave_116 : decode mY_mayHave.2.1 116 = .ok (.ireturn, 1) := by decide +kernel
theorem dY_mayHave_117 : decode mY_mayHave.2.1 117 = .ok (.iload_n 2, 1) := by decide +kernel
theorem dY_mayHave_118 : decode mY_mayHave.2.1 118 = .ok (.iconst 0, 1) := by decide +kernel
theorem dY_mayHave_119 : decode mY_mayHave.2.1 119 = .ok (.sipush 300, 3) := by decide +kernel
theorem dY_mayHave_122 : decode mY_mayHave.2.1 122 = .ok (.invokestatic 133, 3) := by decide +kernel
theorem dY_mayHave_125 : decode mY_mayHave.2.1 125 = .ok (.ireturn, 1) := by decide +kernel
theorem dY_mayHave_126 : decode mY_mayHave.2.1 126 = .ok (.iload_n 2, 1) := by decide +kernel
theorem dY_mayHave_127 : decode mY_mayHave.2.1 127 = .ok (.iconst 0, 1) := by decide +kernel
theorem dY_mayHave_128 : decode mY_mayHave.2.1 128 = .ok (.bipush 20, 2) := by decide +kernel
theorem dY_mayHave_130 : decode mY_mayHave.2.1 130 = .ok (.invokestatic 133, 3) := by decide +kernel
theorem dY_mayHave_133 : decode mY_mayHave.2.1 133 = .ok (.ireturn, 1) := by decide +kernel
theorem dY_mayHave_134 : decode mY_mayHave.2.1 134 = .ok (.iload_n 2, 1) := by decide +kernel
theorem dY_mayHave_135 : decode mY_mayHave.2.1 135 = .ok (.iconst 0, 1) := by decide +kernel
theorem dY_mayHave_136 : decode mY_mayHave.2.1 136 = .ok (.bipush 20, 2) := by decide +kernel
theorem dY_mayHave_138 : decode mY_mayHave.2.1 138 = .ok (.invokestatic 133, 3) := by decide +kernel
theorem dY_mayHave_141 : decode mY_mayHave.2.1 141 = .ok (.ireturn, 1) := by decide +kernel
theorem dY_mayHave_142 : decode mY_mayHave.2.1 142 = .ok (.iload_n 2, 1) := by decide +kernel
theorem dY_mayHave_143 : decode mY_mayHave.2.1 143 = .ok (.iconst 0, 1) := by decide +kernel
theorem dY_mayHave_144 : decode mY_mayHave.2.1 144 = .ok (.bipush 8, 2) := by decide +kernel
theorem dY_mayHave_146 : decode mY_mayHave.2.1 146 = .ok (.invokestatic 133, 3) := by decide +kernel
theorem dY_mayHave_149 : decode mY_mayHave.2.1 149 = .ok (.ireturn, 1) := by decide +kernel
theorem dY_mayHave_150 : decode mY_mayHave.2.1 150 = .ok (.iload_n 2, 1) := by decide +kernel
theorem dY_mayHave_151 : decode mY_mayHave.2.1 151 = .ok (.iconst 0, 1) := by decide +kernel
theorem dY_mayHave_152 : decode mY_mayHave.2.1 152 = .ok (.bipush 8, 2) := by decide +kernel
theorem dY_mayHave_154 : decode mY_mayHave.2.1 154 = .ok (.invokestatic 133, 3) := by decide +kernel
theorem dY_mayHave_157 : decode mY_mayHave.2.1 157 = .ok (.ireturn, 1) := by decide +kernel
theorem dY_mayHave_158 : decode mY_mayHave.2.1 158 = .ok (.iload_n 2, 1) := by decide +kernel
theorem dY_mayHave_159 : decode mY_mayHave.2.1 159 = .ok (.iconst 0, 1) := by decide +kernel
theorem dY_mayHave_160 : decode mY_mayHave.2.1 160 = .ok (.bipush 9, 2) := by decide +kernel
theorem dY_mayHave_162 : decode mY_mayHave.2.1 162 = .ok (.invokestatic 133, 3) := by decide +kernel
theorem dY_mayHave_165 : decode mY_mayHave.2.1 165 = .ok (.ireturn, 1) := by decide +kernel
/- Y_mayHave: (III)Z -/
set_option maxRecDepth 4000 in
theorem wY_mayHave {X : Cx} (a0 a1 a2 : Int) (sw : Bool) (m : Mem) (Q : Int → Bool → Mem → Prop) (h : ((w32 a1 = 0 → M2 X 1 mY_in [vi a2, vi 0, vi ((zshl 1 a0) - 1)] sw m (fun z1 sw1 m1 => ((z1 = 0 ∨ z1 = 1) ∧ Q z1 sw1 m1))) ∧ ((w32 a1 = 1 → M2 X 1 mY_in [vi a2, vi 0, vi 1] sw m (fun z2 sw2 m2 => ((z2 = 0 ∨ z2 = 1) ∧ Q z2 sw2 m2))) ∧ ((w32 a1 = 2 → M2 X 1 mY_in [vi a2, vi 0, vi 12] sw m (fun z3 sw3 m3 => ((z3 = 0 ∨ z3 = 1) ∧ Q z3 sw3 m3))) ∧ ((w32 a1 = 3 → M2 X 1 mY_in [vi a2, vi 1, vi 60] sw m (fun z4 sw4 m4 => ((z4 = 0 ∨ z4 = 1) ∧ Q z4 sw4 m4))) ∧ ((w32 a1 = 4 → M2 X 1 mY_in [vi a2, vi 0, vi 9] sw m (fun z5 sw5 m5 => ((z5 = 0 ∨ z5 = 1) ∧ Q z5 sw5 m5))) ∧ ((w32 a1 = 5 → M2 X 1 mY_in [vi a2, vi 0, vi 99] sw m (fun z6 sw6 m6 => ((z6 = 0 ∨ z6 = 1) ∧ Q z6 sw6 m6))) ∧ ((w32 a1 = 6 → M2 X 1 mY_in [vi a2, vi 0, vi 9] sw m (fun z7 sw7 m7 => ((z7 = 0 ∨ z7 = 1) ∧ Q z7 sw7 m7))) ∧ ((w32 a1 = 7 → M2 X 1 mY_in [vi a2, vi 0, vi 1] sw m (fun z8 sw8 m8 => ((z8 = 0 ∨ z8 = 1) ∧ Q z8 sw8 m8))) ∧ ((w32 a1 = 8 → M2 X 1 mY_in [vi a2, vi 0, vi 300] sw m (fun z9 sw9 m9 => ((z9 = 0 ∨ z9 = 1) ∧ Q z9 sw9 m9))) ∧ ((w32 a1 = 9 → M2 X 1 mY_in [vi a2, vi 0, vi 20] sw m (fun z10 sw10 m10 => ((z10 = 0 ∨ z10 = 1) ∧ Q z10 sw10 m10))) ∧ ((w32 a1 = 10 → M2 X 1 mY_in [vi a2, vi 0, vi 20] sw m (fun z11 sw11 m11 => ((z11 = 0 ∨ z11 = 1) ∧ Q z11 sw11 m11))) ∧ ((w32 a1 = 11 → M2 X 1 mY_in [vi a2, vi 0, vi 8] sw m (fun z12 sw12 m12 => ((z12 = 0 ∨ z12 = 1) ∧ Q z12 sw12 m12))) ∧ ((w32 a1 = 12 → M2 X 1 mY_in [vi a2, vi 0, vi 8] sw m (fun z13 sw13 m13 => ((z13 = 0 ∨ z13 = 1) ∧ Q z13 sw13 m13))) ∧ ((w32 a1 < 0 ∨ 12 < w32 a1) → M2 X 1 mY_in [vi a2, vi 0, vi 9] sw m (fun z14 sw14 m14 => ((z14 = 0 ∨ z14 = 1) ∧ Q z14 sw14 m14))))))))))))))))) : M2 X 2 mY_mayHave [vi a0, vi a1, vi a2] sw m Q := by
  refine Mt.of pY_mayHave (Nat.le_of_ble_eq_true rfl) (Nat.le_refl _) ?_
  show R2 X 2 mY_mayHave 0 [(0, vi a0), (1, vi a1), (2, vi a2)] [] sw m Q
  refine r_iload_n 1 1 rfl dY_mayHave_0 rfl ?_
  by_cases hs0 : w32 a1 = 0
  · refine r_tabIn (off := 67) (tgt := 68) 0 hs0 dY_mayHave_1 (by decide) (by decide) (by decide) (by decide) ?_
    replace h := h.1 hs0
    refine r_iload_n 2 2 rfl dY_mayHave_68 rfl ?_
    refine r_iconst dY_mayHave_69 ?_
    refine r_iconst dY_mayHave_70 ?_
    refine r_iload_n 0 0 rfl dY_mayHave_71 rfl ?_
    refine r_ishl dY_mayHave_72 ?_
    refine r_iconst dY_mayHave_73 ?_
    refine r_isub dY_mayHave_74 ?_
    refine r_callSb [_, _, _] rfl oY_in iY_in yY_133 (by decide) ⟨Nat.le_refl _, Nat.le_refl _⟩ rfl (Nat.le_of_ble_eq_true rfl) dY_mayHave_75 h (fun z1 r1 m1 h => ?_)
    obtain ⟨sw1, rfl, h⟩ := h
    exact q_bret rfl h.1 h.2 dY_mayHave_78
  · replace h := h.2
    by_cases hs1 : w32 a1 = 1
    · refine r_tabIn (off := 78) (tgt := 79) 1 hs1 dY_mayHave_1 (by decide) (by decide) (by decide) (by decide) ?_
      replace h := h.1 hs1
      refine r_iload_n 2 2 rfl dY_mayHave_79 rfl ?_
      refine r_iconst dY_mayHave_80 ?_
      refine r_iconst dY_mayHave_81 ?_
      refine r_callSb [_, _, _] rfl oY_in iY_in yY_133 (by decide) ⟨Nat.le_refl _, Nat.le_refl _⟩ rfl (Nat.le_of_ble_eq_true rfl) dY_mayHave_82 h (fun z2 r2 m2 h => ?_)
      obtain ⟨sw2, rfl, h⟩ := h
      exact q_bret rfl h.1 h.2 dY_mayHave_85
    · replace h := h.2
      by_cases hs2 : w32 a1 = 2
      · refine r_tabIn (off := 85) (tgt := 86) 2 hs2 dY_mayHave_1 (by decide) (by decide) (by decide) (by decide) ?_
        replace h := h.1 hs2
        refine r_iload_n 2 2 rfl dY_mayHave_86 rfl ?_
        refine r_iconst dY_mayHave_87 ?_
        refine r_bipush (by decide) dY_mayHave_88 ?_
        refine r_callSb [_, _, _] rfl oY_in iY_in yY_133 (by decide) ⟨Nat.le_refl _, Nat.le_refl _⟩ rfl (Nat.le_of_ble_eq_true rfl) dY_mayHave_90 h (fun z3 r3 m3 h => ?_)
        obtain ⟨sw3, rfl, h⟩ := h
        exact q_bret rfl h.1 h.2 dY_mayHave_93
      · replace h := h.2
        by_cases hs3 : w32 a1 = 3
        · refine r_tabIn (off := 93) (tgt := 94) 3 hs3 dY_mayHave_1 (by decide) (by decide) (by decide) (by decide) ?_
          replace h := h.1 hs3
          refine r_iload_n 2 2 rfl dY_mayHave_94 rfl ?_
          refine r_iconst dY_mayHave_95 ?_
          refine r_bipush (by decide) dY_mayHave_96 ?_
          refine r_callSb [_, _, _] rfl oY_in iY_in yY_133 (by decide) ⟨Nat.le_refl _, Nat.le_refl _⟩ rfl (Nat.le_of_ble_eq_true rfl) dY_mayHave_98 h (fun z4 r4 m4 h => ?_)
          obtain ⟨sw4, rfl, h⟩ := h
          exact q_bret rfl h.1 h.2 dY_mayHave_101
        · replace h := h.2
          by_cases hs4 : w32 a1 = 4
          · refine r_tabIn (off := 157) (tgt := 158) 4 hs4 dY_mayHave_1 (by decide) (by decide) (by decide) (by decide) ?_
            replace h := h.1 hs4
            refine r_iload_n 2 2 rfl dY_mayHave_158 rfl ?_
            refine r_iconst dY_mayHave_159 ?_
            refine r_bipush (by decide) dY_mayHave_160 ?_
            refine r_callSb [_, _, _] rfl oY_in iY_in yY_133 (by decide) ⟨Nat.le_refl _, Nat.le_refl _⟩ rfl (Nat.le_of_ble_eq_true rfl) dY_mayHave_162 h (fun z5 r5 m5 h => ?_)
            obtain ⟨sw5, rfl, h⟩ := h
            exact q_bret rfl h.1 h.2 dY_mayHave_165
          · replace h := h.2
            by_cases hs5 : w32 a1 = 5
            · refine r_tabIn (off := 101) (tgt := 102) 5 hs5 dY_mayHave_1 (by decide) (by decide) (by decide) (by decide) ?_
              replace h := h.1 hs5
              refine r_iload_n 2 2 rfl dY_mayHave_102 rfl ?_
              refine r_iconst dY_mayHave_103 ?_
              refine r_bipush (by decide) dY_mayHave_104 ?_
              refine r_callSb [_, _, _] rfl oY_in iY_in yY_133 (by decide) ⟨Nat.le_refl _, Nat.le_refl _⟩ rfl (Nat.le_of_ble_eq_true rfl) dY_mayHave_106 h (fun z6 r6 m6 h => ?_)
              obtain ⟨sw6, rfl, h⟩ := h
              exact q_bret rfl h.1 h.2 dY_mayHave_109
            · replace h := h.2
              by_cases hs6 : w32 a1 = 6
              · refine r_tabIn (off := 157) (tgt := 158) 6 hs6 dY_mayHave_1 (by decide) (by decide) (by decide) (by decide) ?_
                replace h := h.1 hs6
                refine r_iload_n 2 2 rfl dY_mayHave_158 rfl ?_
                refine r_iconst dY_mayHave_159 ?_
                refine r_bipush (by decide) dY_mayHave_160 ?_
                refine r_callSb [_, _, _] rfl oY_in iY_in yY_133 (by decide) ⟨Nat.le_refl _, Nat.le_refl _⟩ rfl (Nat.le_of_ble_eq_true rfl) dY_mayHave_162 h (fun z7 r7 m7 h => ?_)
                obtain ⟨sw7, rfl, h⟩ := h
                exact q_bret rfl h.1 h.2 dY_mayHave_165
              · replace h := h.2
                by_cases hs7 : w32 a1 = 7
                · refine r_tabIn (off := 109) (tgt := 110) 7 hs7 dY_mayHave_1 (by decide) (by decide) (by decide) (by decide) ?_
                  replace h := h.1 hs7
                  refine r_iload_n 2 2 rfl dY_mayHave_110 rfl ?_
                  refine r_iconst dY_mayHave_111 ?_
                  refine r_iconst dY_mayHave_112 ?_
                  refine r_callSb [_, _, _] rfl oY_in iY_in yY_133 (by decide) ⟨Nat.le_refl _, Nat.le_refl _⟩ rfl (Nat.le_of_ble_eq_true rfl) dY_mayHave_113 h (fun z8 r8 m8 h => ?_)
                  obtain ⟨sw8, rfl, h⟩ := h
                  exact q_bret rfl h.1 h.2 dY_mayHave_116
                · replace h := h.2
                  by_cases hs8 : w32 a1 = 8
                  · refine r_tabIn (off := 116) (tgt := 117) 8 hs8 dY_mayHave_1 (by decide) (by decide) (by decide) (by decide) ?_
                    replace h := h.1 hs8
                    refine r_iload_n 2 2 rfl dY_mayHave_117 rfl ?_
                    refine r_iconst dY_mayHave_118 ?_
                    refine r_sipush (by decide) dY_mayHave_119 ?_
                    refine r_callSb [_, _, _] rfl oY_in iY_in yY_133 (by decide) ⟨Nat.le_refl _, Nat.le_refl _⟩ rfl (Nat.le_of_ble_eq_true rfl) dY_mayHave_122 h (fun z9 r9 m9 h => ?_)
                    obtain ⟨sw9, rfl, h⟩ := h
                    exact q_bret rfl h.1 h.2 dY_mayHave_125
                  · replace h := h.2
                    by_cases hs9 : w32 a1 = 9
                    · refine r_tabIn (off := 125) (tgt := 126) 9 hs9 dY_mayHave_1 (by decide) (by decide) (by decide) (by decide) ?_
                      replace h := h.1 hs9
                      refine r_iload_n 2 2 rfl dY_mayHave_126 rfl ?_
                      refine r_iconst dY_mayHave_127 ?_
                      refine r_bipush (by decide) dY_mayHave_128 ?_
                      refine r_callSb [_, _, _] rfl oY_in iY_in yY_133 (by decide) ⟨Nat.le_refl _, Nat.le_refl _⟩ rfl (Nat.le_of_ble_eq_true rfl) dY_mayHave_130 h (fun z10 r10 m10 h => ?_)
                      obtain ⟨sw10, rfl, h⟩ := h
                      exact q_bret rfl h.1 h.2 dY_mayHave_133
                    · replace h := h.2
                      by_cases hs10 : w32 a1 = 10
                      · refine r_tabIn (off := 133) (tgt := 134) 10 hs10 dY_mayHave_1 (by decide) (by decide) (by decide) (by decide) ?_
                        replace h := h.1 hs10
                        refine r_iload_n 2 2 rfl dY_mayHave_134 rfl ?_
                        refine r_iconst dY_mayHave_135 ?_
                        refine r_bipush (by decide) dY_mayHave_136 ?_
                        refine r_callSb [_, _, _] rfl oY_in iY_in yY_133 (by decide) ⟨Nat.le_refl _, Nat.le_refl _⟩ rfl (Nat.le_of_ble_eq_true rfl) dY_mayHave_138 h (fun z11 r11 m11 h => ?_)
                        obtain ⟨sw11, rfl, h⟩ := h
                        exact q_bret rfl h.1 h.2 dY_mayHave_141
                      · replace h := h.2
                        by_cases hs11 : w32 a1 = 11
                        · refine r_tabIn (off := 141) (tgt := 142) 11 hs11 dY_mayHave_1 (by decide) (by decide) (by decide) (by decide) ?_
                          replace h := h.1 hs11
                          refine r_iload_n 2 2 rfl dY_mayHave_142 rfl ?_
                          refine r_iconst dY_mayHave_143 ?_
                          refine r_bipush (by decide) dY_mayHave_144 ?_
                          refine r_callSb [_, _, _] rfl oY_in iY_in yY_133 (by decide) ⟨Nat.le_refl _, Nat.le_refl _⟩ rfl (Nat.le_of_ble_eq_true rfl) dY_mayHave_146 h (fun z12 r12 m12 h => ?_)
                          obtain ⟨sw12, rfl, h⟩ := h
                          exact q_bret rfl h.1 h.2 dY_mayHave_149
                        · replace h := h.2
                          by_cases hs12 : w32 a1 = 12
                          · refine r_tabIn (off := 149) (tgt := 150) 12 hs12 dY_mayHave_1 (by decide) (by decide) (by decide) (by decide) ?_
                            replace h := h.1 hs12
                            refine r_iload_n 2 2 rfl dY_mayHave_150 rfl ?_
                            refine r_iconst dY_mayHave_151 ?_
                            refine r_bipush (by decide) dY_mayHave_152 ?_
                            refine r_callSb [_, _, _] rfl oY_in iY_in yY_133 (by decide) ⟨Nat.le_refl _, Nat.le_refl _⟩ rfl (Nat.le_of_ble_eq_true rfl) dY_mayHave_154 h (fun z13 r13 m13 h => ?_)
                            obtain ⟨sw13, rfl, h⟩ := h
                            exact q_bret rfl h.1 h.2 dY_mayHave_157
                          · replace h := h.2
                            have hq : w32 a1 < 0 ∨ 12 < w32 a1 := by omega
                            refine r_tabOut (tgt := 158) dY_mayHave_1 hq (by decide) ?_
                            replace h := h hq
                            refine r_iload_n 2 2 rfl dY_mayHave_158 rfl ?_
                            refine r_iconst dY_mayHave_159 ?_
                            refine r_bipush (by decide) dY_mayHave_160 ?_
                            refine r_callSb [_, _, _] rfl oY_in iY_in yY_133 (by decide) ⟨Nat.le_refl _, Nat.le_refl _⟩ rfl (Nat.le_of_ble_eq_true rfl) dY_mayHave_162 h (fun z14 r14 m14 h => ?_)
                            obtain ⟨sw14, rfl, h⟩ := h
                            exact q_bret rfl h.1 h.2 dY_mayHave_165
theorem dY_mend_0 : decode mY_mend.2.1 0 = .ok (.aload_n 0, 1) := by decide +kernel
theorem dY_mend_1 : decode mY_mend.2.1 1 = .ok (.iload_n 1, 1) := by decide +kernel
theorem dY_mend_2 : decode mY_mend.2.1 2 = .ok (.iload_n 2, 1) := by decide +kernel
theorem dY_mend_3 : decode mY_mend.2.1 3 = .ok (.invokevirtual 167, 3) := by decide +kernel
theorem dY_mend_6 : decode mY_mend.2.1 6 = .ok (.ifCond .eq 22, 3) := by decide +kernel
theorem dY_mend_9 : decode mY_mend.2.1 9 = .ok (.iload_n 1, 1) := by decide +kernel
theorem dY_mend_10 : decode mY_mend.2.1 10 = .ok (.iload_n 2, 1) := by decide +kernel
theorem dY_mend_11 : decode mY_mend.2.1 11 = .ok (.iload_n 3, 1) := by decide +kernel
theorem dY_mend_12 : decode mY_mend.2.1 12 = .ok (.invokestatic 171, 3) := by decide +kernel
theorem dY_mend_15 : decode mY_mend.2.1 15 = .ok (.ifCond .eq 13, 3) := by decide +kernel
theorem dY_mend_18 : decode mY_mend.2.1 18 = .ok (.aload_n 0, 1) := by decide +kernel
theorem dY_mend_19 : decode mY_mend.2.1 19 = .ok (.iload_n 2, 1) := by decide +kernel
theorem dY_mend_20 : decode mY_mend.2.1 20 = .ok (.iload_n 1, 1) := by decide +kernel
theorem dY_mend_21 : decode mY_mend.2.1 21 = .ok (.iload_n 3, 1) := by decide +kernel
theorem dY_mend_22 : decode mY_mend.2.1 22 = .ok (.invokevirtual 174, 3) := by decide +kernel
theorem dY_mend_25 : decode mY_mend.2.1 25 = .ok (.goto 4, 3) := by decide +kernel
theorem dY_mend_28 : decode mY_mend.2.1 28 = .ok (.iconst (-1), 1) := by decide +kernel
theorem dY_mend_29 : decode mY_mend.2.1 29 = .ok (.ireturn, 1) := by decide +kernel
/- Y_mend: (III)I -/
set_option maxRecDepth 4000 in
theorem wY_mend {X : Cx} (a1 a2 a3 : Int) (sw : Bool) (m : Mem) (Q : Int → Bool → Mem → Prop) (h : M2 X 3 mY_isOne [vr 84, vi a1, vi a2] sw m (fun z1 sw1 m1 => ((w32 z1 = 0 → Q (-1) sw1 m1) ∧ (¬ (w32 z1 = 0) → M2 X 2 mY_mayHave [vi a1, vi a2, vi a3] sw1 m1 (fun z2 sw2 m2 => ((w32 z2 = 0 → Q (-1) sw2 m2) ∧ (¬ (w32 z2 = 0) → M2 X 2 mY_changes [vr 84, vi a2, vi a1, vi a3] sw2 m2 (fun z3 sw3 m3 => Q z3 sw3 m3)))))))) : M2 X 4 mY_mend [vr 84, vi a1, vi a2, vi a3] sw m Q := by
  refine Mt.of pY_mend (Nat.le_of_ble_eq_true rfl) (Nat.le_refl _) ?_
  show R2 X 4 mY_mend 0 [(0, vr 84), (1, vi a1), (2, vi a2), (3, vi a3)] [] sw m Q
  refine r_aload_n 0 0 rfl dY_mend_0 rfl ?_
  refine r_iload_n 1 1 rfl dY_mend_1 rfl ?_
  refine r_iload_n 2 2 rfl dY_mend_2 rfl ?_
  refine r_callVb 12 [_, _] rfl c84 rfl rfl oY_isOne iY_isOne sY_isOne yY_167 (by decide) ⟨Nat.le_refl _, Nat.le_refl _⟩ rfl (Nat.le_of_ble_eq_true rfl) dY_mend_3 h (fun z1 r1 m1 h => ?_)
  obtain ⟨sw1, rfl, h⟩ := h
  refine r_if_eq (tgt := 28) dY_mend_6 (by decide) (fun hc => ?_) (fun hc => ?_)
  · replace h := h.1 hc
    refine r_iconst dY_mend_28 ?_
    exact q_iret rfl h dY_mend_29
  · replace h := h.2 hc
    refine r_iload_n 1 1 rfl dY_mend_9 rfl ?_
    refine r_iload_n 2 2 rfl dY_mend_10 rfl ?_
    refine r_iload_n 3 3 rfl dY_mend_11 rfl ?_
    refine r_callSb [_, _, _] rfl oY_mayHave iY_mayHave yY_171 (by decide) ⟨Nat.le_refl _, Nat.le_refl _⟩ rfl (Nat.le_of_ble_eq_true rfl) dY_mend_12 h (fun z2 r2 m2 h => ?_)
    obtain ⟨sw2, rfl, h⟩ := h
    refine r_if_eq (tgt := 28) dY_mend_15 (by decide) (fun hc => ?_) (fun hc => ?_)
    · replace h := h.1 hc
      refine r_iconst dY_mend_28 ?_
      exact q_iret rfl h dY_mend_29
    · replace h := h.2 hc
      refine r_aload_n 0 0 rfl dY_mend_18 rfl ?_
      refine r_iload_n 2 2 rfl dY_mend_19 rfl ?_
      refine r_iload_n 1 1 rfl dY_mend_20 rfl ?_
      refine r_iload_n 3 3 rfl dY_mend_21 rfl ?_
      refine r_callVi 12 [_, _, _] rfl c84 rfl rfl oY_changes iY_changes sY_changes yY_174 (by decide) ⟨Nat.le_refl _, Nat.le_refl _⟩ rfl (Nat.le_of_ble_eq_true rfl) dY_mend_22 h (fun z3 r3 m3 h => ?_)
      obtain ⟨sw3, rfl, h⟩ := h
      refine r_goto (tgt := 29) dY_mend_25 (by decide) ?_
      exact q_iret rfl h dY_mend_29
theorem dY_of_0 : decode mY_of.2.1 0 = .ok (.aload_n 0, 1) := by decide +kernel
theorem dY_of_1 : decode mY_of.2.1 1 = .ok (.iload_n 1, 1) := by decide +kernel
theorem dY_of_2 : decode mY_of.2.1 2 = .ok (.iload_n 2, 1) := by decide +kernel
theorem dY_of_3 : decode mY_of.2.1 3 = .ok (.invokevirtual 167, 3) := by decide +kernel
theorem dY_of_6 : decode mY_of.2.1 6 = .ok (.ifCond .eq 12, 3) := by decide +kernel
theorem dY_of_9 : decode mY_of.2.1 9 = .ok (.aload_n 0, 1) := by decide +kernel
theorem dY_of_10 : decode mY_of.2.1 10 = .ok (.iload_n 2, 1) := by decide +kernel
theorem dY_of_11 : decode mY_of.2.1 11 = .ok (.iload_n 1, 1) := by decide +kernel
theorem dY_of_12 : decode mY_of.2.1 12 = .ok (.invokevirtual 150, 3) := by decide +kernel
theorem dY_of_15 : decode mY_of.2.1 15 = .ok (.goto 4, 3) := by decide +kernel
theorem dY_of_18 : decode mY_of.2.1 18 = .ok (.iconst (-1), 1) := by decide +kernel
theorem dY_of_19 : decode mY_of.2.1 19 = .ok (.ireturn, 1) := by decide +kernel
/- Y_of: (II)I -/
set_option maxRecDepth 4000 in
theorem wY_of {X : Cx} (a1 a2 : Int) (sw : Bool) (m : Mem) (Q : Int → Bool → Mem → Prop) (h : M2 X 3 mY_isOne [vr 84, vi a1, vi a2] sw m (fun z1 sw1 m1 => ((w32 z1 = 0 → Q (-1) sw1 m1) ∧ (¬ (w32 z1 = 0) → M2 X 1 mY_valueAt [vr 84, vi a2, vi a1] sw1 m1 (fun z2 sw2 m2 => Q z2 sw2 m2))))) : M2 X 4 mY_of [vr 84, vi a1, vi a2] sw m Q := by
  refine Mt.of pY_of (Nat.le_of_ble_eq_true rfl) (Nat.le_refl _) ?_
  show R2 X 4 mY_of 0 [(0, vr 84), (1, vi a1), (2, vi a2)] [] sw m Q
  refine r_aload_n 0 0 rfl dY_of_0 rfl ?_
  refine r_iload_n 1 1 rfl dY_of_1 rfl ?_
  refine r_iload_n 2 2 rfl dY_of_2 rfl ?_
  refine r_callVb 12 [_, _] rfl c84 rfl rfl oY_isOne iY_isOne sY_isOne yY_167 (by decide) ⟨Nat.le_refl _, Nat.le_refl _⟩ rfl (Nat.le_of_ble_eq_true rfl) dY_of_3 h (fun z1 r1 m1 h => ?_)
  obtain ⟨sw1, rfl, h⟩ := h
  refine r_if_eq (tgt := 18) dY_of_6 (by decide) (fun hc => ?_) (fun hc => ?_)
  · replace h := h.1 hc
    refine r_iconst dY_of_18 ?_
    exact q_iret rfl h dY_of_19
  · replace h := h.2 hc
    refine r_aload_n 0 0 rfl dY_of_9 rfl ?_
    refine r_iload_n 2 2 rfl dY_of_10 rfl ?_
    refine r_iload_n 1 1 rfl dY_of_11 rfl ?_
    refine r_callVi 12 [_, _] rfl c84 rfl rfl oY_valueAt iY_valueAt sY_valueAt yY_150 (by decide) ⟨Nat.le_refl _, Nat.le_refl _⟩ rfl (Nat.le_of_ble_eq_true rfl) dY_of_12 h (fun z2 r2 m2 h => ?_)
    obtain ⟨sw2, rfl, h⟩ := h
    refine r_goto (tgt := 19) dY_of_15 (by decide) ?_
    exact q_iret rfl h dY_of_19
theorem dY_feed_0 : decode mY_feed.2.1 0 = .ok (.iload_n 1, 1) := by decide +kernel
theorem dY_feed_1 : decode mY_feed.2.1 1 = .ok (.iconst 0, 1) := by decide +kernel
theorem dY_feed_2 : decode mY_feed.2.1 2 = .ok (.sipush 255, 3) := by decide +kernel
theorem dY_feed_5 : decode mY_feed.2.1 5 = .ok (.invokestatic 133, 3) := by decide +kernel
theorem dY_feed_8 : decode mY_feed.2.1 8 = .ok (.ifCond .ne 5, 3) := by decide +kernel
theorem dY_feed_11 : decode mY_feed.2.1 11 = .ok (.iconst (-1), 1) := by decide +kernel
theorem dY_feed_12 : decode mY_feed.2.1 12 = .ok (.ireturn, 1) := by decide +kernel
theorem dY_feed_13 : decode mY_feed.2.1 13 = .ok (.aload_n 0, 1) := by decide +kernel
theorem dY_feed_14 : decode mY_feed.2.1 14 = .ok (.getfield 177, 3) := by decide +kernel
theorem dY_feed_17 : decode mY_feed.2.1 17 = .ok (.bipush 120, 2) := by decide +kernel
theorem dY_feed_19 : decode mY_feed.2.1 19 = .ok (.if_icmp .ne 6, 3) := by decide +kernel
theorem dY_feed_22 : decode mY_feed.2.1 22 = .ok (.bipush (-3), 2) := by decide +kernel
theorem dY_feed_24 : decode mY_feed.2.1 24 = .ok (.ireturn, 1) := by decide +kernel
theorem dY_feed_25 : decode mY_feed.2.1 25 = .ok (.aload_n 0, 1) := by decide +kernel
theorem dY_feed_26 : decode mY_feed.2.1 26 = .ok (.getfield 45, 3) := by decide +kernel
theorem dY_feed_29 : decode mY_feed.2.1 29 = .ok (.aload_n 0, 1) := by decide +kernel
theorem dY_feed_30 : decode mY_feed.2.1 30 = .ok (.getfield 177, 3) := by decide +kernel
theorem dY_feed_33 : decode mY_feed.2.1 33 = .ok (.iload_n 1, 1) := by decide +kernel
theorem dY_feed_34 : decode mY_feed.2.1 34 = .ok (.i2b, 1) := by decide +kernel
theorem dY_feed_35 : decode mY_feed.2.1 35 = .ok (.bastore, 1) := by decide +kernel
theorem dY_feed_36 : decode mY_feed.2.1 36 = .ok (.aload_n 0, 1) := by decide +kernel
theorem dY_feed_37 : decode mY_feed.2.1 37 = .ok (.dup, 1) := by decide +kernel
theorem dY_feed_38 : decode mY_feed.2.1 38 = .ok (.getfield 177, 3) := by decide +kernel
theorem dY_feed_41 : decode mY_feed.2.1 41 = .ok (.iconst 1, 1) := by decide +kernel
theorem dY_feed_42 : decode mY_feed.2.1 42 = .ok (.iadd, 1) := by decide +kernel
theorem dY_feed_43 : decode mY_feed.2.1 43 = .ok (.putfield 177, 3) := by decide +kernel
theorem dY_feed_46 : decode mY_feed.2.1 46 = .ok (.aload_n 0, 1) := by decide +kernel
theorem dY_feed_47 : decode mY_feed.2.1 47 = .ok (.getfield 177, 3) := by decide +kernel
theorem dY_feed_50 : decode mY_feed.2.1 50 = .ok (.ireturn, 1) := by decide +kernel
/- Y_feed: (I)I -/
set_option maxRecDepth 4000 in
theorem wY_feed {X : Cx} (a1 : Int) (sw : Bool) (m : Mem) (Q : Int → Bool → Mem → Prop) (h : M2 X 1 mY_in [vi a1, vi 0, vi 255] sw m (fun z1 sw1 m1 => ((¬ w32 z1 = 0 → ((¬ w32 (m1 84 16) = 120 → ((0 ≤ w32 (m1 84 16) ∧ w32 (m1 84 16) < 120) ∧ Q ((m1 84 16) + 1) sw1 (upm (upm m1 96 (w32 (m1 84 16)) (w8 (w8 a1))) 84 16 ((m1 84 16) + 1)))) ∧ (¬ (¬ w32 (m1 84 16) = 120) → Q (-3) sw1 m1))) ∧ (¬ (¬ w32 z1 = 0) → Q (-1) sw1 m1)))) : M2 X 2 mY_feed [vr 84, vi a1] sw m Q := by
  refine Mt.of pY_feed (Nat.le_of_ble_eq_true rfl) (Nat.le_refl _) ?_
  show R2 X 2 mY_feed 0 [(0, vr 84), (1, vi a1)] [] sw m Q
  refine r_iload_n 1 1 rfl dY_feed_0 rfl ?_
  refine r_iconst dY_feed_1 ?_
  refine r_sipush (by decide) dY_feed_2 ?_
  refine r_callSb [_, _, _] rfl oY_in iY_in yY_133 (by decide) ⟨Nat.le_refl _, Nat.le_refl _⟩ rfl (Nat.le_of_ble_eq_true rfl) dY_feed_5 h (fun z1 r1 m1 h => ?_)
  obtain ⟨sw1, rfl, h⟩ := h
  refine r_if_ne (tgt := 13) dY_feed_8 (by decide) (fun hc => ?_) (fun hc => ?_)
  · replace h := h.1 hc
    refine r_aload_n 0 0 rfl dY_feed_13 rfl ?_
    refine q_getI 16 c84 fY_177 rfl rfl dY_feed_14 ?_
    refine r_bipush (by decide) dY_feed_17 ?_
    refine r_ifc_ne (tgt := 25) dY_feed_19 (by decide) (fun hc => ?_) (fun hc => ?_)
    · replace h := h.1 hc
      refine r_aload_n 0 0 rfl dY_feed_25 rfl ?_
      refine q_getR 15 c84 fY_45 rfl rfl (g84_15 sw1) (by decide) dY_feed_26 ?_
      refine r_aload_n 0 0 rfl dY_feed_29 rfl ?_
      refine q_getI 16 c84 fY_177 rfl rfl dY_feed_30 ?_
      refine r_iload_n 1 1 rfl dY_feed_33 rfl ?_
      refine r_i2b dY_feed_34 ?_
      refine q_bastore (w32 (m1 84 16)) rfl c96 h.1 dY_feed_35 ?_
      replace h := h.2
      refine r_aload_n 0 0 rfl dY_feed_36 rfl ?_
      refine r_dup (fun q => by cases q) dY_feed_37 ?_
      refine q_getI 16 c84 fY_177 rfl rfl dY_feed_38 ?_
      refine r_iconst dY_feed_41 ?_
      refine r_iadd dY_feed_42 ?_
      refine q_putI 16 c84 pfY_177 rfl rfl dY_feed_43 ?_
      refine r_aload_n 0 0 rfl dY_feed_46 rfl ?_
      refine q_getI 16 c84 fY_177 rfl rfl dY_feed_47 ?_
      exact q_iret rfl h dY_feed_50
    · replace h := h.2 hc
      refine r_bipush (by decide) dY_feed_22 ?_
      exact q_iret rfl h dY_feed_24
  · replace h := h.2 hc
    refine r_iconst dY_feed_11 ?_
    exact q_iret rfl h dY_feed_12
theorem dY_looksOn_0 : decode mY_looksOn.2.1 0 = .ok (.aload_n 0, 1) := by decide +kernel
theorem dY_looksOn_1 : decode mY_looksOn.2.1 1 = .ok (.getfield 180, 3) := by decide +kernel
theorem dY_looksOn_4 : decode mY_looksOn.2.1 4 = .ok (.aload_n 0, 1) := by decide +kernel
theorem dY_looksOn_5 : decode mY_looksOn.2.1 5 = .ok (.getfield 177, 3) := by decide +kernel
theorem dY_looksOn_8 : decode mY_looksOn.2.1 8 = .ok (.if_icmp .ge 15, 3) := by decide +kernel
theorem dY_looksOn_11 : decode mY_looksOn.2.1 11 = .ok (.aload_n 0, 1) := by decide +kernel
theorem dY_looksOn_12 : decode mY_looksOn.2.1 12 = .ok (.getfield 45, 3) := by decide +kernel
theorem dY_looksOn_15 : decode mY_looksOn.2.1 15 = .ok (.aload_n 0, 1) := by decide +kernel
theorem dY_looksOn_16 : decode mY_looksOn.2.1 16 = .ok (.getfield 180, 3) := by decide +kernel
theorem dY_looksOn_19 : decode mY_looksOn.2.1 19 = .ok (.baload, 1) := by decide +kernel
theorem dY_looksOn_20 : decode mY_looksOn.2.1 20 = .ok (.goto 4, 3) := by decide +kernel
theorem dY_looksOn_23 : decode mY_looksOn.2.1 23 = .ok (.iconst (-1), 1) := by decide +kernel
theorem dY_looksOn_24 : decode mY_looksOn.2.1 24 = .ok (.ireturn, 1) := by decide +kernel
/- Y_looksOn: ()I -/
set_option maxRecDepth 4000 in
theorem wY_looksOn {X : Cx} (sw : Bool) (m : Mem) (Q : Int → Bool → Mem → Prop) (h : ((w32 (m 84 16) ≤ w32 (m 84 17) → Q (-1) sw m) ∧ (¬ (w32 (m 84 16) ≤ w32 (m 84 17)) → ((0 ≤ w32 (m 84 17) ∧ w32 (m 84 17) < 120) ∧ Q (m 96 (w32 (m 84 17))) sw m)))) : M2 X 1 mY_looksOn [vr 84] sw m Q := by
  refine Mt.of pY_looksOn (Nat.le_of_ble_eq_true rfl) (Nat.le_refl _) ?_
  show R2 X 1 mY_looksOn 0 [(0, vr 84)] [] sw m Q
  refine r_aload_n 0 0 rfl dY_looksOn_0 rfl ?_
  refine q_getI 17 c84 fY_180 rfl rfl dY_looksOn_1 ?_
  refine r_aload_n 0 0 rfl dY_looksOn_4 rfl ?_
  refine q_getI 16 c84 fY_177 rfl rfl dY_looksOn_5 ?_
  refine r_ifc_ge (tgt := 23) dY_looksOn_8 (by decide) (fun hc => ?_) (fun hc => ?_)
  · replace h := h.1 hc
    refine r_iconst dY_looksOn_23 ?_
    exact q_iret rfl h dY_looksOn_24
  · replace h := h.2 hc
    refine r_aload_n 0 0 rfl dY_looksOn_11 rfl ?_
    refine q_getR 15 c84 fY_45 rfl rfl (g84_15 sw) (by decide) dY_looksOn_12 ?_
    refine r_aload_n 0 0 rfl dY_looksOn_15 rfl ?_
    refine q_getI 17 c84 fY_180 rfl rfl dY_looksOn_16 ?_
    refine q_baload (w32 (m 84 17)) rfl c96 h.1 dY_looksOn_19 ?_
    replace h := h.2
    refine r_goto (tgt := 24) dY_looksOn_20 (by decide) ?_
    exact q_iret rfl h dY_looksOn_24
theorem dY_wrong_0 : decode mY_wrong.2.1 0 = .ok (.aload_n 0, 1) := by decide +kernel
theorem dY_wrong_1 : decode mY_wrong.2.1 1 = .ok (.getfield 183, 3) := by decide +kernel
theorem dY_wrong_4 : decode mY_wrong.2.1 4 = .ok (.ifCond .ge 11, 3) := by decide +kernel
theorem dY_wrong_7 : decode mY_wrong.2.1 7 = .ok (.aload_n 0, 1) := by decide +kernel
theorem dY_wrong_8 : decode mY_wrong.2.1 8 = .ok (.aload_n 0, 1) := by decide +kernel
theorem dY_wrong_9 : decode mY_wrong.2.1 9 = .ok (.getfield 180, 3) := by decide +kernel
theorem dY_wrong_12 : decode mY_wrong.2.1 12 = .ok (.putfield 183, 3) := by decide +kernel
theorem dY_wrong_15 : decode mY_wrong.2.1 15 = .ok (.return_, 1) := by decide +kernel
/- Y_wrong: ()V -/
set_option maxRecDepth 4000 in
theorem wY_wrong {X : Cx} (sw : Bool) (m : Mem) (Q : Int → Bool → Mem → Prop) (h : ((0 ≤ w32 (m 84 18) → Q 0 sw m) ∧ (¬ (0 ≤ w32 (m 84 18)) → Q 0 sw (upm m 84 18 (m 84 17))))) : M2 X 1 mY_wrong [vr 84] sw m Q := by
  refine Mt.of pY_wrong (Nat.le_of_ble_eq_true rfl) (Nat.le_refl _) ?_
  show R2 X 1 mY_wrong 0 [(0, vr 84)] [] sw m Q
  refine r_aload_n 0 0 rfl dY_wrong_0 rfl ?_
  refine q_getI 18 c84 fY_183 rfl rfl dY_wrong_1 ?_
  refine r_if_ge (tgt := 15) dY_wrong_4 (by decide) (fun hc => ?_) (fun hc => ?_)
  · replace h := h.1 hc
    exact q_vret rfl h dY_wrong_15
  · replace h := h.2 hc
    refine r_aload_n 0 0 rfl dY_wrong_7 rfl ?_
    refine r_aload_n 0 0 rfl dY_wrong_8 rfl ?_
    refine q_getI 17 c84 fY_180 rfl rfl dY_wrong_9 ?_
    refine q_putI 18 c84 pfY_183 rfl rfl dY_wrong_12 ?_
    exact q_vret rfl h dY_wrong_15
theorem dY_addStep_0 : decode mY_addStep.2.1 0 = .ok (.aload_n 0, 1) := by decide +kernel
theorem dY_addStep_1 : decode mY_addStep.2.1 1 = .ok (.getfield 49, 3) := by decide +kernel
theorem dY_addStep_4 : decode mY_addStep.2.1 4 = .ok (.sipush 130, 3) := by decide +kernel
theorem dY_addStep_7 : decode mY_addStep.2.1 7 = .ok (.aload_n 0, 1) := by decide +kernel
theorem dY_addStep_8 : decode mY_addStep.2.1 8 = .ok (.getfield 186, 3) := by decide +kernel
theorem dY_addStep_11 : decode mY_addStep.2.1 11 = .ok (.iadd, 1) := by decide +kernel
theorem dY_addStep_12 : decode mY_addStep.2.1 12 = .ok (.iload_n 1, 1) := by decide +kernel
theorem dY_addStep_13 : decode mY_addStep.2.1 13 = .ok (.i2b, 1) := by decide +kernel
theorem dY_addStep_14 : decode mY_addStep.2.1 14 = .ok (.bastore, 1) := by decide +kernel
theorem dY_addStep_15 : decode mY_addStep.2.1 15 = .ok (.aload_n 0, 1) := by decide +kernel
theorem dY_addStep_16 : decode mY_addStep.2.1 16 = .ok (.getfield 52, 3) := by decide +kernel
theorem dY_addStep_19 : decode mY_addStep.2.1 19 = .ok (.sipush 130, 3) := by decide +kernel
theorem dY_addStep_22 : decode mY_addStep.2.1 22 = .ok (.aload_n 0, 1) := by decide +kernel
theorem dY_addStep_23 : decode mY_addStep.2.1 23 = .ok (.getfield 186, 3) := by decide +kernel
theorem dY_addStep_26 : decode mY_addStep.2.1 26 = .ok (.iadd, 1) := by decide +kernel
theorem dY_addStep_27 : decode mY_addStep.2.1 27 = .ok (.iload_n 2, 1) := by decide +kernel
theorem dY_addStep_28 : decode mY_addStep.2.1 28 = .ok (.iastore, 1) := by decide +kernel
theorem dY_addStep_29 : decode mY_addStep.2.1 29 = .ok (.aload_n 0, 1) := by decide +kernel
theorem dY_addStep_30 : decode mY_addStep.2.1 30 = .ok (.dup, 1) := by decide +kernel
theorem dY_addStep_31 : decode mY_addStep.2.1 31 = .ok (.getfield 186, 3) := by decide +kernel
theorem dY_addStep_34 : decode mY_addStep.2.1 34 = .ok (.iconst 1, 1) := by decide +kernel
theorem dY_addStep_35 : decode mY_addStep.2.1 35 = .ok (.iadd, 1) := by decide +kernel
theorem dY_addStep_36 : decode mY_addStep.2.1 36 = .ok (.putfield 186, 3) := by decide +kernel
theorem dY_addStep_39 : decode mY_addStep.2.1 39 = .ok (.return_, 1) := by decide +kernel
/- Y_addStep: (II)V -/
set_option maxRecDepth 4000 in
theorem wY_addStep {X : Cx} (a1 a2 : Int) (sw : Bool) (m : Mem) (Q : Int → Bool → Mem → Prop) (h : ((0 ≤ w32 (130 + (m 84 20)) ∧ w32 (130 + (m 84 20)) < 260) ∧ ((0 ≤ w32 (130 + (m 84 20)) ∧ w32 (130 + (m 84 20)) < 260) ∧ Q 0 sw (upm (upm (upm m 97 (w32 (130 + (m 84 20))) (w8 (w8 a1))) 98 (w32 (130 + (m 84 20))) a2) 84 20 ((m 84 20) + 1))))) : M2 X 1 mY_addStep [vr 84, vi a1, vi a2] sw m Q := by
  refine Mt.of pY_addStep (Nat.le_of_ble_eq_true rfl) (Nat.le_refl _) ?_
  show R2 X 1 mY_addStep 0 [(0, vr 84), (1, vi a1), (2, vi a2)] [] sw m Q
  refine r_aload_n 0 0 rfl dY_addStep_0 rfl ?_
  refine q_getR 21 c84 fY_49 rfl rfl (g84_21 sw) (by decide) dY_addStep_1 ?_
  refine r_sipush (by decide) dY_addStep_4 ?_
  refine r_aload_n 0 0 rfl dY_addStep_7 rfl ?_
  refine q_getI 20 c84 fY_186 rfl rfl dY_addStep_8 ?_
  refine r_iadd dY_addStep_11 ?_
  refine r_iload_n 1 1 rfl dY_addStep_12 rfl ?_
  refine r_i2b dY_addStep_13 ?_
  refine q_bastore (w32 (130 + (m 84 20))) rfl c97 h.1 dY_addStep_14 ?_
  replace h := h.2
  refine r_aload_n 0 0 rfl dY_addStep_15 rfl ?_
  refine q_getR 22 c84 fY_52 rfl rfl (g84_22 sw) (by decide) dY_addStep_16 ?_
  refine r_sipush (by decide) dY_addStep_19 ?_
  refine r_aload_n 0 0 rfl dY_addStep_22 rfl ?_
  refine q_getI 20 c84 fY_186 rfl rfl dY_addStep_23 ?_
  refine r_iadd dY_addStep_26 ?_
  refine r_iload_n 2 2 rfl dY_addStep_27 rfl ?_
  refine q_iastore (w32 (130 + (m 84 20))) rfl c98 h.1 dY_addStep_28 ?_
  replace h := h.2
  refine r_aload_n 0 0 rfl dY_addStep_29 rfl ?_
  refine r_dup (fun q => by cases q) dY_addStep_30 ?_
  refine q_getI 20 c84 fY_186 rfl rfl dY_addStep_31 ?_
  refine r_iconst dY_addStep_34 ?_
  refine r_iadd dY_addStep_35 ?_
  refine q_putI 20 c84 pfY_186 rfl rfl dY_addStep_36 ?_
  exact q_vret rfl h dY_addStep_39
theorem dY_nameOf_0 : decode mY_nameOf.2.1 0 = .ok (.iload_n 0, 1) := by decide +kernel
theorem dY_nameOf_1 : decode mY_nameOf.2.1 1 = .ok (.lookupswitch 71 #[(97, 63), (100, 61), (101, 65), (103, 67), (112, 69), (119, 59)], 59) := by decide +kernel
theorem dY_nameOf_60 : decode mY_nameOf.2.1 60 = .ok (.iconst 0, 1) := by decide +kernel
theorem dY_nameOf_61 : decode mY_nameOf.2.1 61 = .ok (.ireturn, 1) := by decide +kernel
theorem dY_nameOf_62 : decode mY_nameOf.2.1 62 = .ok (.iconst 1, 1) := by decide +kernel
theorem dY_nameOf_63 : decode mY_nameOf.2.1 63 = .ok (.ireturn, 1) := by decide +kernel
theorem dY_nameOf_64 : decode mY_nameOf.2.1 64 = .ok (.iconst 2, 1) := by decide +kernel
theorem dY_nameOf_65 : decode mY_nameOf.2.1 65 = .ok (.ireturn, 1) := by decide +kernel
theorem dY_nameOf_66 : decode mY_nameOf.2.1 66 = .ok (.iconst 3, 1) := by decide +kernel
theorem dY_nameOf_67 : decode mY_nameOf.2.1 67 = .ok (.ireturn, 1) := by decide +kernel
theorem dY_nameOf_68 : decode mY_nameOf.2.1 68 = .ok (.iconst 4, 1) := by decide +kernel
theorem dY_nameOf_69 : decode mY_nameOf.2.1 69 = .ok (.ireturn, 1) := by decide +kernel
theorem dY_nameOf_70 : decode mY_nameOf.2.1 70 = .ok (.iconst 5, 1) := by decide +kernel
theorem dY_nameOf_71 : decode mY_nameOf.2.1 71 = .ok (.ireturn, 1) := by decide +kernel
theorem dY_nameOf_72 : decode mY_nameOf.2.1 72 = .ok (.iconst (-1), 1) := by decide +kernel
theorem dY_nameOf_73 : decode mY_nameOf.2.1 73 = .ok (.ireturn, 1) := by decide +kernel
/- Y_nameOf: (I)I -/
set_option maxRecDepth 4000 in
theorem wY_nameOf {X : Cx} (a0 : Int) (sw : Bool) (m : Mem) (Q : Int → Bool → Mem → Prop) (h : ((w32 a0 = 97 → Q 2 sw m) ∧ ((w32 a0 = 100 → Q 1 sw m) ∧ ((w32 a0 = 101 → Q 3 sw m) ∧ ((w32 a0 = 103 → Q 4 sw m) ∧ ((w32 a0 = 112 → Q 5 sw m) ∧ ((w32 a0 = 119 → Q 0 sw m) ∧ ((¬ w32 a0 = 97 ∧ ¬ w32 a0 = 100 ∧ ¬ w32 a0 = 101 ∧ ¬ w32 a0 = 103 ∧ ¬ w32 a0 = 112 ∧ ¬ w32 a0 = 119) → Q (-1) sw m)))))))) : M2 X 1 mY_nameOf [vi a0] sw m Q := by
  refine Mt.of pY_nameOf (Nat.le_of_ble_eq_true rfl) (Nat.le_refl _) ?_
  show R2 X 1 mY_nameOf 0 [(0, vi a0)] [] sw m Q
  refine r_iload_n 0 0 rfl dY_nameOf_0 rfl ?_
  by_cases hs0 : w32 a0 = 97
  · refine r_lookup (off := 63) (tgt := 64) dY_nameOf_1 (by decide) (by rw [hs0]; decide) (by decide) ?_
    replace h := h.1 hs0
    refine r_iconst dY_nameOf_64 ?_
    exact q_iret rfl h dY_nameOf_65
  · replace h := h.2
    by_cases hs1 : w32 a0 = 100
    · refine r_lookup (off := 61) (tgt := 62) dY_nameOf_1 (by decide) (by rw [hs1]; decide) (by decide) ?_
      replace h := h.1 hs1
      refine r_iconst dY_nameOf_62 ?_
      exact q_iret rfl h dY_nameOf_63
    · replace h := h.2
      by_cases hs2 : w32 a0 = 101
      · refine r_lookup (off := 65) (tgt := 66) dY_nameOf_1 (by decide) (by rw [hs2]; decide) (by decide) ?_
        replace h := h.1 hs2
        refine r_iconst dY_nameOf_66 ?_
        exact q_iret rfl h dY_nameOf_67
      · replace h := h.2
        by_cases hs3 : w32 a0 = 103
        · refine r_lookup (off := 67) (tgt := 68) dY_nameOf_1 (by decide) (by rw [hs3]; decide) (by decide) ?_
          replace h := h.1 hs3
          refine r_iconst dY_nameOf_68 ?_
          exact q_iret rfl h dY_nameOf_69
        · replace h := h.2
          by_cases hs4 : w32 a0 = 112
          · refine r_lookup (off := 69) (tgt := 70) dY_nameOf_1 (by decide) (by rw [hs4]; decide) (by decide) ?_
            replace h := h.1 hs4
            refine r_iconst dY_nameOf_70 ?_
            exact q_iret rfl h dY_nameOf_71
          · replace h := h.2
            by_cases hs5 : w32 a0 = 119
            · refine r_lookup (off := 59) (tgt := 60) dY_nameOf_1 (by decide) (by rw [hs5]; decide) (by decide) ?_
              replace h := h.1 hs5
              refine r_iconst dY_nameOf_60 ?_
              exact q_iret rfl h dY_nameOf_61
            · replace h := h.2
              refine r_lookup (off := 71) (tgt := 72) dY_nameOf_1 (by decide) (by simp only [osw_z hs0, osw_z hs1, osw_z hs2, osw_z hs3, osw_z hs4, osw_z hs5]; rfl) (by decide) ?_
              replace h := h ⟨hs0, hs1, hs2, hs3, hs4, hs5⟩
              refine r_iconst dY_nameOf_72 ?_
              exact q_iret rfl h dY_nameOf_73
theorem dY_opens_0 : decode mY_opens.2.1 0 = .ok (.aload_n 0, 1) := by decide +kernel
theorem dY_opens_1 : decode mY_opens.2.1 1 = .ok (.getfield 189, 3) := by decide +kernel
theorem dY_opens_4 : decode mY_opens.2.1 4 = .ok (.bipush 6, 2) := by decide +kernel
theorem dY_opens_6 : decode mY_opens.2.1 6 = .ok (.if_icmp .ne 9, 3) := by decide +kernel
theorem dY_opens_9 : decode mY_opens.2.1 9 = .ok (.aload_n 0, 1) := by decide +kernel
theorem dY_opens_10 : decode mY_opens.2.1 10 = .ok (.invokevirtual 192, 3) := by decide +kernel
theorem dY_opens_13 : decode mY_opens.2.1 13 = .ok (.iconst 0, 1) := by decide +kernel
theorem dY_opens_14 : decode mY_opens.2.1 14 = .ok (.ireturn, 1) := by decide +kernel
theorem dY_opens_15 : decode mY_opens.2.1 15 = .ok (.aload_n 0, 1) := by decide +kernel
theorem dY_opens_16 : decode mY_opens.2.1 16 = .ok (.dup, 1) := by decide +kernel
theorem dY_opens_17 : decode mY_opens.2.1 17 = .ok (.getfield 189, 3) := by decide +kernel
theorem dY_opens_20 : decode mY_opens.2.1 20 = .ok (.iconst 1, 1) := by decide +kernel
theorem dY_opens_21 : decode mY_opens.2.1 21 = .ok (.iadd, 1) := by decide +kernel
theorem dY_opens_22 : decode mY_opens.2.1 22 = .ok (.putfield 189, 3) := by decide +kernel
theorem dY_opens_25 : decode mY_opens.2.1 25 = .ok (.aload_n 0, 1) := by decide +kernel
theorem dY_opens_26 : decode mY_opens.2.1 26 = .ok (.dup, 1) := by decide +kernel
theorem dY_opens_27 : decode mY_opens.2.1 27 = .ok (.getfield 180, 3) := by decide +kernel
theorem dY_opens_30 : decode mY_opens.2.1 30 = .ok (.iconst 1, 1) := by decide +kernel
theorem dY_opens_31 : decode mY_opens.2.1 31 = .ok (.iadd, 1) := by decide +kernel
theorem dY_opens_32 : decode mY_opens.2.1 32 = .ok (.putfield 180, 3) := by decide +kernel
theorem dY_opens_35 : decode mY_opens.2.1 35 = .ok (.iconst 1, 1) := by decide +kernel
theorem dY_opens_36 : decode mY_opens.2.1 36 = .ok (.ireturn, 1) := by decide +kernel
/- Y_opens: ()Z -/
set_option maxRecDepth 4000 in
theorem wY_opens {X : Cx} (sw : Bool) (m : Mem) (Q : Int → Bool → Mem → Prop) (h : ((¬ w32 (m 84 19) = 6 → Q 1 sw (upm (upm m 84 19 ((m 84 19) + 1)) 84 17 ((m 84 17) + 1))) ∧ (¬ (¬ w32 (m 84 19) = 6) → M2 X 1 mY_wrong [vr 84] sw m (fun z1 sw1 m1 => Q 0 sw1 m1)))) : M2 X 2 mY_opens [vr 84] sw m Q := by
  refine Mt.of pY_opens (Nat.le_of_ble_eq_true rfl) (Nat.le_refl _) ?_
  show R2 X 2 mY_opens 0 [(0, vr 84)] [] sw m Q
  refine r_aload_n 0 0 rfl dY_opens_0 rfl ?_
  refine q_getI 19 c84 fY_189 rfl rfl dY_opens_1 ?_
  refine r_bipush (by decide) dY_opens_4 ?_
  refine r_ifc_ne (tgt := 15) dY_opens_6 (by decide) (fun hc => ?_) (fun hc => ?_)
  · replace h := h.1 hc
    refine r_aload_n 0 0 rfl dY_opens_15 rfl ?_
    refine r_dup (fun q => by cases q) dY_opens_16 ?_
    refine q_getI 19 c84 fY_189 rfl rfl dY_opens_17 ?_
    refine r_iconst dY_opens_20 ?_
    refine r_iadd dY_opens_21 ?_
    refine q_putI 19 c84 pfY_189 rfl rfl dY_opens_22 ?_
    refine r_aload_n 0 0 rfl dY_opens_25 rfl ?_
    refine r_dup (fun q => by cases q) dY_opens_26 ?_
    refine q_getI 17 c84 fY_180 rfl rfl dY_opens_27 ?_
    refine r_iconst dY_opens_30 ?_
    refine r_iadd dY_opens_31 ?_
    refine q_putI 17 c84 pfY_180 rfl rfl dY_opens_32 ?_
    refine r_iconst dY_opens_35 ?_
    exact q_bret rfl (Or.inr rfl) h dY_opens_36
  · replace h := h.2 hc
    refine r_aload_n 0 0 rfl dY_opens_9 rfl ?_
    refine r_callVv 12 [] rfl c84 rfl rfl oY_wrong iY_wrong sY_wrong yY_192 (by decide) ⟨Nat.le_refl _, Nat.le_refl _⟩ rfl (Nat.le_of_ble_eq_true rfl) dY_opens_10 h (fun z1 r1 m1 h => ?_)
    obtain ⟨sw1, rfl, h⟩ := h
    refine r_iconst dY_opens_13 ?_
    exact q_bret rfl (Or.inl rfl) h dY_opens_14
theorem dY_figure_0 : decode mY_figure.2.1 0 = .ok (.iconst 0, 1) := by decide +kernel
theorem dY_figure_1 : decode mY_figure.2.1 1 = .ok (.istore_n 1, 1) := by decide +kernel
theorem dY_figure_2 : decode mY_figure.2.1 2 = .ok (.iconst 0, 1) := by decide +kernel
theorem dY_figure_3 : decode mY_figure.2.1 3 = .ok (.istore_n 2, 1) := by decide +kernel
theorem dY_figure_4 : decode mY_figure.2.1 4 = .ok (.iload_n 2, 1) := by decide +kernel
theorem dY_figure_5 : decode mY_figure.2.1 5 = .ok (.iconst 4, 1) := by decide +kernel
theorem dY_figure_6 : decode mY_figure.2.1 6 = .ok (.if_icmp .ge 46, 3) := by decide +kernel
theorem dY_figure_9 : decode mY_figure.2.1 9 = .ok (.aload_n 0, 1) := by decide +kernel
theorem dY_figure_10 : decode mY_figure.2.1 10 = .ok (.invokevirtual 195, 3) := by decide +kernel
theorem dY_figure_13 : decode mY_figure.2.1 13 = .ok (.bipush 48, 2) := by decide +kernel
theorem dY_figure_15 : decode mY_figure.2.1 15 = .ok (.bipush 57, 2) := by decide +kernel
theorem dY_figure_17 : decode mY_figure.2.1 17 = .ok (.invokestatic 133, 3) := by decide +kernel
theorem dY_figure_20 : decode mY_figure.2.1 20 = .ok (.ifCond .eq 32, 3) := by decide +kernel
theorem dY_figure_23 : decode mY_figure.2.1 23 = .ok (.bipush 10, 2) := by decide +kernel
theorem dY_figure_25 : decode mY_figure.2.1 25 = .ok (.iload_n 1, 1) := by decide +kernel
theorem dY_figure_26 : decode mY_figure.2.1 26 = .ok (.imul, 1) := by decide +kernel
theorem dY_figure_27 : decode mY_figure.2.1 27 = .ok (.aload_n 0, 1) := by decide +kernel
theorem dY_figure_28 : decode mY_figure.2.1 28 = .ok (.invokevirtual 195, 3) := by decide +kernel
theorem dY_figure_31 : decode mY_figure.2.1 31 = .ok (.iadd, 1) := by decide +kernel
theorem dY_figure_32 : decode mY_figure.2.1 32 = .ok (.bipush 48, 2) := by decide +kernel
theorem dY_figure_34 : decode mY_figure.2.1 34 = .ok (.isub, 1) := by decide +kernel
theorem dY_figure_35 : decode mY_figure.2.1 35 = .ok (.istore_n 1, 1) := by decide +kernel
theorem dY_figure_36 : decode mY_figure.2.1 36 = .ok (.iinc 2 1, 3) := by decide +kernel
theorem dY_figure_39 : decode mY_figure.2.1 39 = .ok (.aload_n 0, 1) := by decide +kernel
theorem dY_figure_40 : decode mY_figure.2.1 40 = .ok (.dup, 1) := by decide +kernel
theorem dY_figure_41 : decode mY_figure.2.1 41 = .ok (.getfield 180, 3) := by decide +kernel
theorem dY_figure_44 : decode mY_figure.2.1 44 = .ok (.iconst 1, 1) := by decide +kernel
theorem dY_figure_45 : decode mY_figure.2.1 45 = .ok (.iadd, 1) := by decide +kernel
theorem dY_figure_46 : decode mY_figure.2.1 46 = .ok (.putfield 180, 3) := by decide +kernel
theorem dY_figure_49 : decode mY_figure.2.1 49 = .ok (.goto (-45), 3) := by decide +kernel
theorem dY_figure_52 : decode mY_figure.2.1 52 = .ok (.iload_n 2, 1) := by decide +kernel
theorem dY_figure_53 : decode mY_figure.2.1 53 = .ok (.ifCond .eq 17, 3) := by decide +kernel
theorem dY_figure_56 : decode mY_figure.2.1 56 = .ok (.aload_n 0, 1) := by decide +kernel
theorem dY_figure_57 : decode mY_figure.2.1 57 = .ok (.invokevirtual 195, 3) := by decide +kernel
theorem dY_figure_60 : decode mY_figure.2.1 60 = .ok (.bipush 48, 2) := by decide +kernel
theorem dY_figure_62 : decode mY_figure.2.1 62 = .ok (.bipush 57, 2) := by decide +kernel
theorem dY_figure_64 : decode mY_figure.2.1 64 = .ok (.invokestatic 133, 3) := by decide +kernel
theorem dY_figure_67 : decode mY_figure.2.1 67 = .ok (.ifCond .eq 7, 3) := by decide +kernel
theorem dY_figure_70 : decode mY_figure.2.1 70 = .ok (.aload_n 0, 1) := by decide +kernel
theorem dY_figure_71 : decode mY_figure.2.1 71 = .ok (.invokevirtual 192, 3) := by decide +kernel
theorem dY_figure_74 : decode mY_figure.2.1 74 = .ok (.aload_n 0, 1) := by decide +kernel
theorem dY_figure_75 : decode mY_figure.2.1 75 = .ok (.iconst 1, 1) := by decide +kernel
theorem dY_figure_76 : decode mY_figure.2.1 76 = .ok (.iload_n 1, 1) := by decide +kernel
theorem dY_figure_77 : decode mY_figure.2.1 77 = .ok (.invokevirtual 199, 3) := by decide +kernel
theorem dY_figure_80 : decode mY_figure.2.1 80 = .ok (.return_, 1) := by decide +kernel
/- Y_figure: ()V -/
set_option maxRecDepth 4000 in
theorem wY_figure {X : Cx} (sw : Bool) (m : Mem) (Q : Int → Bool → Mem → Prop) (h : R2 X 2 mY_figure 4 [(0, vr 84), (1, vi 0), (2, vi 0)] [] sw m Q) : M2 X 2 mY_figure [vr 84] sw m Q := by
  refine Mt.of pY_figure (Nat.le_of_ble_eq_true rfl) (Nat.le_refl _) ?_
  show R2 X 2 mY_figure 0 [(0, vr 84)] [] sw m Q
  refine r_iconst dY_figure_0 ?_
  refine r_istore_n 1 (by decide) dY_figure_1 rfl ?_
  refine r_iconst dY_figure_2 ?_
  refine r_istore_n 2 (by decide) dY_figure_3 rfl ?_
  refine r_sub [2, 1, 0] ?_ h
  rfl
set_option maxRecDepth 4000 in
theorem wY_figure_4 {X : Cx} (x1 x2 : Int) (sw : Bool) (m : Mem) (Q : Int → Bool → Mem → Prop) (h : ((4 ≤ w32 x2 → ((w32 x2 = 0 → M2 X 1 mY_wrong [vr 84] sw m (fun z1 sw1 m1 => M2 X 1 mY_addStep [vr 84, vi 1, vi x1] sw1 m1 (fun z2 sw2 m2 => Q 0 sw2 m2))) ∧ (¬ (w32 x2 = 0) → M2 X 1 mY_looksOn [vr 84] sw m (fun z3 sw3 m3 => M2 X 1 mY_in [vi z3, vi 48, vi 57] sw3 m3 (fun z4 sw4 m4 => ((w32 z4 = 0 → M2 X 1 mY_addStep [vr 84, vi 1, vi x1] sw4 m4 (fun z5 sw5 m5 => Q 0 sw5 m5)) ∧ (¬ (w32 z4 = 0) → M2 X 1 mY_wrong [vr 84] sw4 m4 (fun z6 sw6 m6 => M2 X 1 mY_addStep [vr 84, vi 1, vi x1] sw6 m6 (fun z7 sw7 m7 => Q 0 sw7 m7))))))))) ∧ (¬ (4 ≤ w32 x2) → M2 X 1 mY_looksOn [vr 84] sw m (fun z8 sw8 m8 => M2 X 1 mY_in [vi z8, vi 48, vi 57] sw8 m8 (fun z9 sw9 m9 => ((w32 z9 = 0 → ((w32 x2 = 0 → M2 X 1 mY_wrong [vr 84] sw9 m9 (fun z10 sw10 m10 => M2 X 1 mY_addStep [vr 84, vi 1, vi x1] sw10 m10 (fun z11 sw11 m11 => Q 0 sw11 m11))) ∧ (¬ (w32 x2 = 0) → M2 X 1 mY_looksOn [vr 84] sw9 m9 (fun z12 sw12 m12 => M2 X 1 mY_in [vi z12, vi 48, vi 57] sw12 m12 (fun z13 sw13 m13 => ((w32 z13 = 0 → M2 X 1 mY_addStep [vr 84, vi 1, vi x1] sw13 m13 (fun z14 sw14 m14 => Q 0 sw14 m14)) ∧ (¬ (w32 z13 = 0) → M2 X 1 mY_wrong [vr 84] sw13 m13 (fun z15 sw15 m15 => M2 X 1 mY_addStep [vr 84, vi 1, vi x1] sw15 m15 (fun z16 sw16 m16 => Q 0 sw16 m16))))))))) ∧ (¬ (w32 z9 = 0) → M2 X 1 mY_looksOn [vr 84] sw9 m9 (fun z17 sw17 m17 => R2 X 2 mY_figure 4 [(0, vr 84), (1, vi (((10 * x1) + z17) - 48)), (2, vi (x2 + 1))] [] sw17 (upm m17 84 17 ((m17 84 17) + 1)) Q)))))))) : R2 X 2 mY_figure 4 [(0, vr 84), (1, vi x1), (2, vi x2)] [] sw m Q := by
  refine r_iload_n 2 2 rfl dY_figure_4 rfl ?_
  refine r_iconst dY_figure_5 ?_
  refine r_ifc_ge (tgt := 52) dY_figure_6 (by decide) (fun hc => ?_) (fun hc => ?_)
  · replace h := h.1 hc
    refine r_iload_n 2 2 rfl dY_figure_52 rfl ?_
    refine r_if_eq (tgt := 70) dY_figure_53 (by decide) (fun hc => ?_) (fun hc => ?_)
    · replace h := h.1 hc
      refine r_aload_n 0 0 rfl dY_figure_70 rfl ?_
      refine r_callVv 12 [] rfl c84 rfl rfl oY_wrong iY_wrong sY_wrong yY_192 (by decide) ⟨Nat.le_refl _, Nat.le_refl _⟩ rfl (Nat.le_of_ble_eq_true rfl) dY_figure_71 h (fun z1 r1 m1 h => ?_)
      obtain ⟨sw1, rfl, h⟩ := h
      refine r_aload_n 0 0 rfl dY_figure_74 rfl ?_
      refine r_iconst dY_figure_75 ?_
      refine r_iload_n 1 1 rfl dY_figure_76 rfl ?_
      refine r_callVv 12 [_, _] rfl c84 rfl rfl oY_addStep iY_addStep sY_addStep yY_199 (by decide) ⟨Nat.le_refl _, Nat.le_refl _⟩ rfl (Nat.le_of_ble_eq_true rfl) dY_figure_77 h (fun z2 r2 m2 h => ?_)
      obtain ⟨sw2, rfl, h⟩ := h
      exact q_vret rfl h dY_figure_80
    · replace h := h.2 hc
      refine r_aload_n 0 0 rfl dY_figure_56 rfl ?_
      refine r_callVi 12 [] rfl c84 rfl rfl oY_looksOn iY_looksOn sY_looksOn yY_195 (by decide) ⟨Nat.le_refl _, Nat.le_refl _⟩ rfl (Nat.le_of_ble_eq_true rfl) dY_figure_57 h (fun z3 r3 m3 h => ?_)
      obtain ⟨sw3, rfl, h⟩ := h
      refine r_bipush (by decide) dY_figure_60 ?_
      refine r_bipush (by decide) dY_figure_62 ?_
      refine r_callSb [_, _, _] rfl oY_in iY_in yY_133 (by decide) ⟨Nat.le_refl _, Nat.le_refl _⟩ rfl (Nat.le_of_ble_eq_true rfl) dY_figure_64 h (fun z4 r4 m4 h => ?_)
      obtain ⟨sw4, rfl, h⟩ := h
      refine r_if_eq (tgt := 74) dY_figure_67 (by decide) (fun hc => ?_) (fun hc => ?_)
      · replace h := h.1 hc
        refine r_aload_n 0 0 rfl dY_figure_74 rfl ?_
        refine r_iconst dY_figure_75 ?_
        refine r_iload_n 1 1 rfl dY_figure_76 rfl ?_
        refine r_callVv 12 [_, _] rfl c84 rfl rfl oY_addStep iY_addStep sY_addStep yY_199 (by decide) ⟨Nat.le_refl _, Nat.le_refl _⟩ rfl (Nat.le_of_ble_eq_true rfl) dY_figure_77 h (fun z5 r5 m5 h => ?_)
        obtain ⟨sw5, rfl, h⟩ := h
        exact q_vret rfl h dY_figure_80
      · replace h := h.2 hc
        refine r_aload_n 0 0 rfl dY_figure_70 rfl ?_
        refine r_callVv 12 [] rfl c84 rfl rfl oY_wrong iY_wrong sY_wrong yY_192 (by decide) ⟨Nat.le_refl _, Nat.le_refl _⟩ rfl (Nat.le_of_ble_eq_true rfl) dY_figure_71 h (fun z6 r6 m6 h => ?_)
        obtain ⟨sw6, rfl, h⟩ := h
        refine r_aload_n 0 0 rfl dY_figure_74 rfl ?_
        refine r_iconst dY_figure_75 ?_
        refine r_iload_n 1 1 rfl dY_figure_76 rfl ?_
        refine r_callVv 12 [_, _] rfl c84 rfl rfl oY_addStep iY_addStep sY_addStep yY_199 (by decide) ⟨Nat.le_refl _, Nat.le_refl _⟩ rfl (Nat.le_of_ble_eq_true rfl) dY_figure_77 h (fun z7 r7 m7 h => ?_)
        obtain ⟨sw7, rfl, h⟩ := h
        exact q_vret rfl h dY_figure_80
  · replace h := h.2 hc
    refine r_aload_n 0 0 rfl dY_figure_9 rfl ?_
    refine r_callVi 12 [] rfl c84 rfl rfl oY_looksOn iY_looksOn sY_looksOn yY_195 (by decide) ⟨Nat.le_refl _, Nat.le_refl _⟩ rfl (Nat.le_of_ble_eq_true rfl) dY_figure_10 h (fun z8 r8 m8 h => ?_)
    obtain ⟨sw8, rfl, h⟩ := h
    refine r_bipush (by decide) dY_figure_13 ?_
    refine r_bipush (by decide) dY_figure_15 ?_
    refine r_callSb [_, _, _] rfl oY_in iY_in yY_133 (by decide) ⟨Nat.le_refl _, Nat.le_refl _⟩ rfl (Nat.le_of_ble_eq_true rfl) dY_figure_17 h (fun z9 r9 m9 h => ?_)
    obtain ⟨sw9, rfl, h⟩ := h
    refine r_if_eq (tgt := 52) dY_figure_20 (by decide) (fun hc => ?_) (fun hc => ?_)
    · replace h := h.1 hc
      refine r_iload_n 2 2 rfl dY_figure_52 rfl ?_
      refine r_if_eq (tgt := 70) dY_figure_53 (by decide) (fun hc => ?_) (fun hc => ?_)
      · replace h := h.1 hc
        refine r_aload_n 0 0 rfl dY_figure_70 rfl ?_
        refine r_callVv 12 [] rfl c84 rfl rfl oY_wrong iY_wrong sY_wrong yY_192 (by decide) ⟨Nat.le_refl _, Nat.le_refl _⟩ rfl (Nat.le_of_ble_eq_true rfl) dY_figure_71 h (fun z10 r10 m10 h => ?_)
        obtain ⟨sw10, rfl, h⟩ := h
        refine r_aload_n 0 0 rfl dY_figure_74 rfl ?_
        refine r_iconst dY_figure_75 ?_
        refine r_iload_n 1 1 rfl dY_figure_76 rfl ?_
        refine r_callVv 12 [_, _] rfl c84 rfl rfl oY_addStep iY_addStep sY_addStep yY_199 (by decide) ⟨Nat.le_refl _, Nat.le_refl _⟩ rfl (Nat.le_of_ble_eq_true rfl) dY_figure_77 h (fun z11 r11 m11 h => ?_)
        obtain ⟨sw11, rfl, h⟩ := h
        exact q_vret rfl h dY_figure_80
      · replace h := h.2 hc
        refine r_aload_n 0 0 rfl dY_figure_56 rfl ?_
        refine r_callVi 12 [] rfl c84 rfl rfl oY_looksOn iY_looksOn sY_looksOn yY_195 (by decide) ⟨Nat.le_refl _, Nat.le_refl _⟩ rfl (Nat.le_of_ble_eq_true rfl) dY_figure_57 h (fun z12 r12 m12 h => ?_)
        obtain ⟨sw12, rfl, h⟩ := h
        refine r_bipush (by decide) dY_figure_60 ?_
        refine r_bipush (by decide) dY_figure_62 ?_
        refine r_callSb [_, _, _] rfl oY_in iY_in yY_133 (by decide) ⟨Nat.le_refl _, Nat.le_refl _⟩ rfl (Nat.le_of_ble_eq_true rfl) dY_figure_64 h (fun z13 r13 m13 h => ?_)
        obtain ⟨sw13, rfl, h⟩ := h
        refine r_if_eq (tgt := 74) dY_figure_67 (by decide) (fun hc => ?_) (fun hc => ?_)
        · replace h := h.1 hc
          refine r_aload_n 0 0 rfl dY_figure_74 rfl ?_
          refine r_iconst dY_figure_75 ?_
          refine r_iload_n 1 1 rfl dY_figure_76 rfl ?_
          refine r_callVv 12 [_, _] rfl c84 rfl rfl oY_addStep iY_addStep sY_addStep yY_199 (by decide) ⟨Nat.le_refl _, Nat.le_refl _⟩ rfl (Nat.le_of_ble_eq_true rfl) dY_figure_77 h (fun z14 r14 m14 h => ?_)
          obtain ⟨sw14, rfl, h⟩ := h
          exact q_vret rfl h dY_figure_80
        · replace h := h.2 hc
          refine r_aload_n 0 0 rfl dY_figure_70 rfl ?_
          refine r_callVv 12 [] rfl c84 rfl rfl oY_wrong iY_wrong sY_wrong yY_192 (by decide) ⟨Nat.le_refl _, Nat.le_refl _⟩ rfl (Nat.le_of_ble_eq_true rfl) dY_figure_71 h (fun z15 r15 m15 h => ?_)
          obtain ⟨sw15, rfl, h⟩ := h
          refine r_aload_n 0 0 rfl dY_figure_74 rfl ?_
          refine r_iconst dY_figure_75 ?_
          refine r_iload_n 1 1 rfl dY_figure_76 rfl ?_
          refine r_callVv 12 [_, _] rfl c84 rfl rfl oY_addStep iY_addStep sY_addStep yY_199 (by decide) ⟨Nat.le_refl _, Nat.le_refl _⟩ rfl (Nat.le_of_ble_eq_true rfl) dY_figure_77 h (fun z16 r16 m16 h => ?_)
          obtain ⟨sw16, rfl, h⟩ := h
          exact q_vret rfl h dY_figure_80
    · replace h := h.2 hc
      refine r_bipush (by decide) dY_figure_23 ?_
      refine r_iload_n 1 1 rfl dY_figure_25 rfl ?_
      refine r_imul dY_figure_26 ?_
      refine r_aload_n 0 0 rfl dY_figure_27 rfl ?_
      refine r_callVi 12 [] rfl c84 rfl rfl oY_looksOn iY_looksOn sY_looksOn yY_195 (by decide) ⟨Nat.le_refl _, Nat.le_refl _⟩ rfl (Nat.le_of_ble_eq_true rfl) dY_figure_28 h (fun z17 r17 m17 h => ?_)
      obtain ⟨sw17, rfl, h⟩ := h
      refine r_iadd dY_figure_31 ?_
      refine r_bipush (by decide) dY_figure_32 ?_
      refine r_isub dY_figure_34 ?_
      refine r_istore_n 1 (by decide) dY_figure_35 rfl ?_
      refine r_iinc 2 2 rfl (by decide) dY_figure_36 ?_
      refine r_aload_n 0 2 rfl dY_figure_39 rfl ?_
      refine r_dup (fun q => by cases q) dY_figure_40 ?_
      refine q_getI 17 c84 fY_180 rfl rfl dY_figure_41 ?_
      refine r_iconst dY_figure_44 ?_
      refine r_iadd dY_figure_45 ?_
      refine q_putI 17 c84 pfY_180 rfl rfl dY_figure_46 ?_
      refine r_goto (tgt := 4) dY_figure_49 (by decide) ?_
      refine r_sub [2, 1, 0] ?_ h
      rfl
theorem dY_operand_0 : decode mY_operand.2.1 0 = .ok (.aload_n 0, 1) := by decide +kernel
theorem dY_operand_1 : decode mY_operand.2.1 1 = .ok (.invokevirtual 195, 3) := by decide +kernel
theorem dY_operand_4 : decode mY_operand.2.1 4 = .ok (.istore_n 1, 1) := by decide +kernel
theorem dY_operand_5 : decode mY_operand.2.1 5 = .ok (.iload_n 1, 1) := by decide +kernel
theorem dY_operand_6 : decode mY_operand.2.1 6 = .ok (.invokestatic 203, 3) := by decide +kernel
theorem dY_operand_9 : decode mY_operand.2.1 9 = .ok (.ifCond .lt 25, 3) := by decide +kernel
theorem dY_operand_12 : decode mY_operand.2.1 12 = .ok (.aload_n 0, 1) := by decide +kernel
theorem dY_operand_13 : decode mY_operand.2.1 13 = .ok (.iconst 2, 1) := by decide +kernel
theorem dY_operand_14 : decode mY_operand.2.1 14 = .ok (.iload_n 1, 1) := by decide +kernel
theorem dY_operand_15 : decode mY_operand.2.1 15 = .ok (.invokestatic 203, 3) := by decide +kernel
theorem dY_operand_18 : decode mY_operand.2.1 18 = .ok (.invokevirtual 199, 3) := by decide +kernel
theorem dY_operand_21 : decode mY_operand.2.1 21 = .ok (.aload_n 0, 1) := by decide +kernel
theorem dY_operand_22 : decode mY_operand.2.1 22 = .ok (.dup, 1) := by decide +kernel
theorem dY_operand_23 : decode mY_operand.2.1 23 = .ok (.getfield 180, 3) := by decide +kernel
theorem dY_operand_26 : decode mY_operand.2.1 26 = .ok (.iconst 1, 1) := by decide +kernel
theorem dY_operand_27 : decode mY_operand.2.1 27 = .ok (.iadd, 1) := by decide +kernel
theorem dY_operand_28 : decode mY_operand.2.1 28 = .ok (.putfield 180, 3) := by decide +kernel
theorem dY_operand_31 : decode mY_operand.2.1 31 = .ok (.goto 123, 3) := by decide +kernel
theorem dY_operand_34 : decode mY_operand.2.1 34 = .ok (.iload_n 1, 1) := by decide +kernel
theorem dY_operand_35 : decode mY_operand.2.1 35 = .ok (.bipush 33, 2) := by decide +kernel
theorem dY_operand_37 : decode mY_operand.2.1 37 = .ok (.if_icmp .eq 9, 3) := by decide +kernel
theorem dY_operand_40 : decode mY_operand.2.1 40 = .ok (.iload_n 1, 1) := by decide +kernel
theorem dY_operand_41 : decode mY_operand.2.1 41 = .ok (.bipush 45, 2) := by decide +kernel
theorem dY_operand_43 : decode mY_operand.2.1 43 = .ok (.if_icmp .ne 44, 3) := by decide +kernel
theorem dY_operand_46 : decode mY_operand.2.1 46 = .ok (.aload_n 0, 1) := by decide +kernel
theorem dY_operand_47 : decode mY_operand.2.1 47 = .ok (.invokevirtual 207, 3) := by decide +kernel
theorem dY_operand_50 : decode mY_operand.2.1 50 = .ok (.ifCond .ne 4, 3) := by decide +kernel
theorem dY_operand_53 : decode mY_operand.2.1 53 = .ok (.return_, 1) := by decide +kernel
theorem dY_operand_54 : decode mY_operand.2.1 54 = .ok (.aload_n 0, 1) := by decide +kernel
theorem dY_operand_55 : decode mY_operand.2.1 55 = .ok (.invokevirtual 211, 3) := by decide +kernel
theorem dY_operand_58 : decode mY_operand.2.1 58 = .ok (.aload_n 0, 1) := by decide +kernel
theorem dY_operand_59 : decode mY_operand.2.1 59 = .ok (.dup, 1) := by decide +kernel
theorem dY_operand_60 : decode mY_operand.2.1 60 = .ok (.getfield 189, 3) := by decide +kernel
theorem dY_operand_63 : decode mY_operand.2.1 63 = .ok (.iconst 1, 1) := by decide +kernel
theorem dY_operand_64 : decode mY_operand.2.1 64 = .ok (.isub, 1) := by decide +kernel
theorem dY_operand_65 : decode mY_operand.2.1 65 = .ok (.putfield 189, 3) := by decide +kernel
theorem dY_operand_68 : decode mY_operand.2.1 68 = .ok (.aload_n 0, 1) := by decide +kernel
theorem dY_operand_69 : decode mY_operand.2.1 69 = .ok (.iload_n 1, 1) := by decide +kernel
theorem dY_operand_70 : decode mY_operand.2.1 70 = .ok (.bipush 33, 2) := by decide +kernel
theorem dY_operand_72 : decode mY_operand.2.1 72 = .ok (.if_icmp .ne 7, 3) := by decide +kernel
theorem dY_operand_75 : decode mY_operand.2.1 75 = .ok (.iconst 3, 1) := by decide +kernel
theorem dY_operand_76 : decode mY_operand.2.1 76 = .ok (.goto 4, 3) := by decide +kernel
theorem dY_operand_79 : decode mY_operand.2.1 79 = .ok (.iconst 4, 1) := by decide +kernel
theorem dY_operand_80 : decode mY_operand.2.1 80 = .ok (.iconst 0, 1) := by decide +kernel
theorem dY_operand_81 : decode mY_operand.2.1 81 = .ok (.invokevirtual 199, 3) := by decide +kernel
theorem dY_operand_84 : decode mY_operand.2.1 84 = .ok (.goto 70, 3) := by decide +kernel
theorem dY_operand_87 : decode mY_operand.2.1 87 = .ok (.iload_n 1, 1) := by decide +kernel
theorem dY_operand_88 : decode mY_operand.2.1 88 = .ok (.bipush 40, 2) := by decide +kernel
theorem dY_operand_90 : decode mY_operand.2.1 90 = .ok (.if_icmp .ne 60, 3) := by decide +kernel
theorem dY_operand_93 : decode mY_operand.2.1 93 = .ok (.aload_n 0, 1) := by decide +kernel
theorem dY_operand_94 : decode mY_operand.2.1 94 = .ok (.invokevirtual 207, 3) := by decide +kernel
theorem dY_operand_97 : decode mY_operand.2.1 97 = .ok (.ifCond .ne 4, 3) := by decide +kernel
theorem dY_operand_100 : decode mY_operand.2.1 100 = .ok (.return_, 1) := by decide +kernel
theorem dY_operand_101 : decode mY_operand.2.1 101 = .ok (.aload_n 0, 1) := by decide +kernel
theorem dY_operand_102 : decode mY_operand.2.1 102 = .ok (.invokevirtual 214, 3) := by decide +kernel
theorem dY_operand_105 : decode mY_operand.2.1 105 = .ok (.aload_n 0, 1) := by decide +kernel
theorem dY_operand_106 : decode mY_operand.2.1 106 = .ok (.getfield 183, 3) := by decide +kernel
theorem dY_operand_109 : decode mY_operand.2.1 109 = .ok (.ifCond .lt 4, 3) := by decide +kernel
theorem dY_operand_112 : decode mY_operand.2.1 112 = .ok (.return_, 1) := by decide +kernel
theorem dY_operand_113 : decode mY_operand.2.1 113 = .ok (.aload_n 0, 1) := by decide +kernel
theorem dY_operand_114 : decode mY_operand.2.1 114 = .ok (.invokevirtual 195, 3) := by decide +kernel
theorem dY_operand_117 : decode mY_operand.2.1 117 = .ok (.bipush 41, 2) := by decide +kernel
theorem dY_operand_119 : decode mY_operand.2.1 119 = .ok (.if_icmp .eq 8, 3) := by decide +kernel
theorem dY_operand_122 : decode mY_operand.2.1 122 = .ok (.aload_n 0, 1) := by decide +kernel
theorem dY_operand_123 : decode mY_operand.2.1 123 = .ok (.invokevirtual 192, 3) := by decide +kernel
theorem dY_operand_126 : decode mY_operand.2.1 126 = .ok (.return_, 1) := by decide +kernel
theorem dY_operand_127 : decode mY_operand.2.1 127 = .ok (.aload_n 0, 1) := by decide +kernel
theorem dY_operand_128 : decode mY_operand.2.1 128 = .ok (.dup, 1) := by decide +kernel
theorem dY_operand_129 : decode mY_operand.2.1 129 = .ok (.getfield 180, 3) := by decide +kernel
theorem dY_operand_132 : decode mY_operand.2.1 132 = .ok (.iconst 1, 1) := by decide +kernel
theorem dY_operand_133 : decode mY_operand.2.1 133 = .ok (.iadd, 1) := by decide +kernel
theorem dY_operand_134 : decode mY_operand.2.1 134 = .ok (.putfield 180, 3) := by decide +kernel
theorem dY_operand_137 : decode mY_operand.2.1 137 = .ok (.aload_n 0, 1) := by decide +kernel
theorem dY_operand_138 : decode mY_operand.2.1 138 = .ok (.dup, 1) := by decide +kernel
theorem dY_operand_139 : decode mY_operand.2.1 139 = .ok (.getfield 189, 3) := by decide +kernel
theorem dY_operand_142 : decode mY_operand.2.1 142 = .ok (.iconst 1, 1) := by decide +kernel
theorem dY_operand_143 : decode mY_operand.2.1 143 = .ok (.isub, 1) := by decide +kernel
theorem dY_operand_144 : decode mY_operand.2.1 144 = .ok (.putfield 189, 3) := by decide +kernel
theorem dY_operand_147 : decode mY_operand.2.1 147 = .ok (.goto 7, 3) := by decide +kernel
theorem dY_operand_150 : decode mY_operand.2.1 150 = .ok (.aload_n 0, 1) := by decide +kernel
theorem dY_operand_151 : decode mY_operand.2.1 151 = .ok (.invokevirtual 217, 3) := by decide +kernel
theorem dY_operand_154 : decode mY_operand.2.1 154 = .ok (.return_, 1) := by decide +kernel
/- Y_operand: ()V -/
set_option maxRecDepth 4000 in
theorem wY_operand {X : Cx} {d : Nat} (hd0 : 2 ≤ d) (sw : Bool) (m : Mem) (Q : Int → Bool → Mem → Prop) (h : M2 X 1 mY_looksOn [vr 84] sw m (fun z1 sw1 m1 => M2 X 1 mY_nameOf [vi z1] sw1 m1 (fun z2 sw2 m2 => ((w32 z2 < 0 → ((w32 z1 = 33 → M2 X 2 mY_opens [vr 84] sw2 m2 (fun z3 sw3 m3 => ((¬ w32 z3 = 0 → M2 X d mY_operand [vr 84] sw3 m3 (fun z4 sw4 m4 => ((¬ w32 z1 = 33 → M2 X 1 mY_addStep [vr 84, vi 4, vi 0] sw4 (upm m4 84 19 ((m4 84 19) - 1)) (fun z5 sw5 m5 => Q 0 sw5 m5)) ∧ (¬ (¬ w32 z1 = 33) → M2 X 1 mY_addStep [vr 84, vi 3, vi 0] sw4 (upm m4 84 19 ((m4 84 19) - 1)) (fun z6 sw6 m6 => Q 0 sw6 m6))))) ∧ (¬ (¬ w32 z3 = 0) → Q 0 sw3 m3)))) ∧ (¬ (w32 z1 = 33) → ((¬ w32 z1 = 45 → ((¬ w32 z1 = 40 → M2 X 2 mY_figure [vr 84] sw2 m2 (fun z7 sw7 m7 => Q 0 sw7 m7)) ∧ (¬ (¬ w32 z1 = 40) → M2 X 2 mY_opens [vr 84] sw2 m2 (fun z8 sw8 m8 => ((¬ w32 z8 = 0 → M2 X d mY_either [vr 84] sw8 m8 (fun z9 sw9 m9 => ((w32 (m9 84 18) < 0 → M2 X 1 mY_looksOn [vr 84] sw9 m9 (fun z10 sw10 m10 => ((w32 z10 = 41 → Q 0 sw10 (upm (upm m10 84 17 ((m10 84 17) + 1)) 84 19 ((m10 84 19) - 1))) ∧ (¬ (w32 z10 = 41) → M2 X 1 mY_wrong [vr 84] sw10 m10 (fun z11 sw11 m11 => Q 0 sw11 m11))))) ∧ (¬ (w32 (m9 84 18) < 0) → Q 0 sw9 m9)))) ∧ (¬ (¬ w32 z8 = 0) → Q 0 sw8 m8)))))) ∧ (¬ (¬ w32 z1 = 45) → M2 X 2 mY_opens [vr 84] sw2 m2 (fun z12 sw12 m12 => ((¬ w32 z12 = 0 → M2 X d mY_operand [vr 84] sw12 m12 (fun z13 sw13 m13 => ((¬ w32 z1 = 33 → M2 X 1 mY_addStep [vr 84, vi 4, vi 0] sw13 (upm m13 84 19 ((m13 84 19) - 1)) (fun z14 sw14 m14 => Q 0 sw14 m14)) ∧ (¬ (¬ w32 z1 = 33) → M2 X 1 mY_addStep [vr 84, vi 3, vi 0] sw13 (upm m13 84 19 ((m13 84 19) - 1)) (fun z15 sw15 m15 => Q 0 sw15 m15))))) ∧ (¬ (¬ w32 z12 = 0) → Q 0 sw12 m12)))))))) ∧ (¬ (w32 z2 < 0) → M2 X 1 mY_nameOf [vi z1] sw2 m2 (fun z16 sw16 m16 => M2 X 1 mY_addStep [vr 84, vi 2, vi z16] sw16 m16 (fun z17 sw17 m17 => Q 0 sw17 (upm m17 84 17 ((m17 84 17) + 1))))))))) : M2 X (d + 1) mY_operand [vr 84] sw m Q := by
  refine Mt.of pY_operand (Nat.le_of_ble_eq_true rfl) (Nat.le_refl _) ?_
  show R2 X (d + 1) mY_operand 0 [(0, vr 84)] [] sw m Q
  refine r_aload_n 0 0 rfl dY_operand_0 rfl ?_
  refine r_callVi 12 [] rfl c84 rfl rfl oY_looksOn iY_looksOn sY_looksOn yY_195 (by omega) ⟨Nat.le_refl _, Nat.le_refl _⟩ rfl (Nat.le_of_ble_eq_true rfl) dY_operand_1 h (fun z1 r1 m1 h => ?_)
  obtain ⟨sw1, rfl, h⟩ := h
  refine r_istore_n 1 (by decide) dY_operand_4 rfl ?_
  refine r_iload_n 1 0 rfl dY_operand_5 rfl ?_
  refine r_callSi [_] rfl oY_nameOf iY_nameOf yY_203 (by omega) ⟨Nat.le_refl _, Nat.le_refl _⟩ rfl (Nat.le_of_ble_eq_true rfl) dY_operand_6 h (fun z2 r2 m2 h => ?_)
  obtain ⟨sw2, rfl, h⟩ := h
  refine r_if_lt (tgt := 34) dY_operand_9 (by decide) (fun hc => ?_) (fun hc => ?_)
  · replace h := h.1 hc
    refine r_iload_n 1 0 rfl dY_operand_34 rfl ?_
    refine r_bipush (by decide) dY_operand_35 ?_
    refine r_ifc_eq (tgt := 46) dY_operand_37 (by decide) (fun hc => ?_) (fun hc => ?_)
    · replace h := h.1 hc
      refine r_aload_n 0 1 rfl dY_operand_46 rfl ?_
      refine r_callVb 12 [] rfl c84 rfl rfl oY_opens iY_opens sY_opens yY_207 (by omega) ⟨Nat.le_refl _, Nat.le_refl _⟩ rfl (Nat.le_of_ble_eq_true rfl) dY_operand_47 h (fun z3 r3 m3 h => ?_)
      obtain ⟨sw3, rfl, h⟩ := h
      refine r_if_ne (tgt := 54) dY_operand_50 (by decide) (fun hc => ?_) (fun hc => ?_)
      · replace h := h.1 hc
        refine r_aload_n 0 1 rfl dY_operand_54 rfl ?_
        refine r_callVv 12 [] rfl c84 rfl rfl oY_operand iY_operand sY_operand yY_211 (by omega) ⟨Nat.le_refl _, Nat.le_refl _⟩ rfl (Nat.le_of_ble_eq_true rfl) dY_operand_55 h (fun z4 r4 m4 h => ?_)
        obtain ⟨sw4, rfl, h⟩ := h
        refine r_aload_n 0 1 rfl dY_operand_58 rfl ?_
        refine r_dup (fun q => by cases q) dY_operand_59 ?_
        refine q_getI 19 c84 fY_189 rfl rfl dY_operand_60 ?_
        refine r_iconst dY_operand_63 ?_
        refine r_isub dY_operand_64 ?_
        refine q_putI 19 c84 pfY_189 rfl rfl dY_operand_65 ?_
        refine r_aload_n 0 1 rfl dY_operand_68 rfl ?_
        refine r_iload_n 1 0 rfl dY_operand_69 rfl ?_
        refine r_bipush (by decide) dY_operand_70 ?_
        refine r_ifc_ne (tgt := 79) dY_operand_72 (by decide) (fun hc => ?_) (fun hc => ?_)
        · replace h := h.1 hc
          refine r_iconst dY_operand_79 ?_
          refine r_iconst dY_operand_80 ?_
          refine r_callVv 12 [_, _] rfl c84 rfl rfl oY_addStep iY_addStep sY_addStep yY_199 (by omega) ⟨Nat.le_refl _, Nat.le_refl _⟩ rfl (Nat.le_of_ble_eq_true rfl) dY_operand_81 h (fun z5 r5 m5 h => ?_)
          obtain ⟨sw5, rfl, h⟩ := h
          refine r_goto (tgt := 154) dY_operand_84 (by decide) ?_
          exact q_vret rfl h dY_operand_154
        · replace h := h.2 hc
          refine r_iconst dY_operand_75 ?_
          refine r_goto (tgt := 80) dY_operand_76 (by decide) ?_
          refine r_iconst dY_operand_80 ?_
          refine r_callVv 12 [_, _] rfl c84 rfl rfl oY_addStep iY_addStep sY_addStep yY_199 (by omega) ⟨Nat.le_refl _, Nat.le_refl _⟩ rfl (Nat.le_of_ble_eq_true rfl) dY_operand_81 h (fun z6 r6 m6 h => ?_)
          obtain ⟨sw6, rfl, h⟩ := h
          refine r_goto (tgt := 154) dY_operand_84 (by decide) ?_
          exact q_vret rfl h dY_operand_154
      · replace h := h.2 hc
        exact q_vret rfl h dY_operand_53
    · replace h := h.2 hc
      refine r_iload_n 1 0 rfl dY_operand_40 rfl ?_
      refine r_bipush (by decide) dY_operand_41 ?_
      refine r_ifc_ne (tgt := 87) dY_operand_43 (by decide) (fun hc => ?_) (fun hc => ?_)
      · replace h := h.1 hc
        refine r_iload_n 1 0 rfl dY_operand_87 rfl ?_
        refine r_bipush (by decide) dY_operand_88 ?_
        refine r_ifc_ne (tgt := 150) dY_operand_90 (by decide) (fun hc => ?_) (fun hc => ?_)
        · replace h := h.1 hc
          refine r_aload_n 0 1 rfl dY_operand_150 rfl ?_
          refine r_callVv 12 [] rfl c84 rfl rfl oY_figure iY_figure sY_figure yY_217 (by omega) ⟨Nat.le_refl _, Nat.le_refl _⟩ rfl (Nat.le_of_ble_eq_true rfl) dY_operand_151 h (fun z7 r7 m7 h => ?_)
          obtain ⟨sw7, rfl, h⟩ := h
          exact q_vret rfl h dY_operand_154
        · replace h := h.2 hc
          refine r_aload_n 0 1 rfl dY_operand_93 rfl ?_
          refine r_callVb 12 [] rfl c84 rfl rfl oY_opens iY_opens sY_opens yY_207 (by omega) ⟨Nat.le_refl _, Nat.le_refl _⟩ rfl (Nat.le_of_ble_eq_true rfl) dY_operand_94 h (fun z8 r8 m8 h => ?_)
          obtain ⟨sw8, rfl, h⟩ := h
          refine r_if_ne (tgt := 101) dY_operand_97 (by decide) (fun hc => ?_) (fun hc => ?_)
          · replace h := h.1 hc
            refine r_aload_n 0 1 rfl dY_operand_101 rfl ?_
            refine r_callVv 12 [] rfl c84 rfl rfl oY_either iY_either sY_either yY_214 (by omega) ⟨Nat.le_refl _, Nat.le_refl _⟩ rfl (Nat.le_of_ble_eq_true rfl) dY_operand_102 h (fun z9 r9 m9 h => ?_)
            obtain ⟨sw9, rfl, h⟩ := h
            refine r_aload_n 0 1 rfl dY_operand_105 rfl ?_
            refine q_getI 18 c84 fY_183 rfl rfl dY_operand_106 ?_
            refine r_if_lt (tgt := 113) dY_operand_109 (by decide) (fun hc => ?_) (fun hc => ?_)
            · replace h := h.1 hc
              refine r_aload_n 0 1 rfl dY_operand_113 rfl ?_
              refine r_callVi 12 [] rfl c84 rfl rfl oY_looksOn iY_looksOn sY_looksOn yY_195 (by omega) ⟨Nat.le_refl _, Nat.le_refl _⟩ rfl (Nat.le_of_ble_eq_true rfl) dY_operand_114 h (fun z10 r10 m10 h => ?_)
              obtain ⟨sw10, rfl, h⟩ := h
              refine r_bipush (by decide) dY_operand_117 ?_
              refine r_ifc_eq (tgt := 127) dY_operand_119 (by decide) (fun hc => ?_) (fun hc => ?_)
              · replace h := h.1 hc
                refine r_aload_n 0 1 rfl dY_operand_127 rfl ?_
                refine r_dup (fun q => by cases q) dY_operand_128 ?_
                refine q_getI 17 c84 fY_180 rfl rfl dY_operand_129 ?_
                refine r_iconst dY_operand_132 ?_
                refine r_iadd dY_operand_133 ?_
                refine q_putI 17 c84 pfY_180 rfl rfl dY_operand_134 ?_
                refine r_aload_n 0 1 rfl dY_operand_137 rfl ?_
                refine r_dup (fun q => by cases q) dY_operand_138 ?_
                refine q_getI 19 c84 fY_189 rfl rfl dY_operand_139 ?_
                refine r_iconst dY_operand_142 ?_
                refine r_isub dY_operand_143 ?_
                refine q_putI 19 c84 pfY_189 rfl rfl dY_operand_144 ?_
                refine r_goto (tgt := 154) dY_operand_147 (by decide) ?_
                exact q_vret rfl h dY_operand_154
              · replace h := h.2 hc
                refine r_aload_n 0 1 rfl dY_operand_122 rfl ?_
                refine r_callVv 12 [] rfl c84 rfl rfl oY_wrong iY_wrong sY_wrong yY_192 (by omega) ⟨Nat.le_refl _, Nat.le_refl _⟩ rfl (Nat.le_of_ble_eq_true rfl) dY_operand_123 h (fun z11 r11 m11 h => ?_)
                obtain ⟨sw11, rfl, h⟩ := h
                exact q_vret rfl h dY_operand_126
            · replace h := h.2 hc
              exact q_vret rfl h dY_operand_112
          · replace h := h.2 hc
            exact q_vret rfl h dY_operand_100
      · replace h := h.2 hc
        refine r_aload_n 0 1 rfl dY_operand_46 rfl ?_
        refine r_callVb 12 [] rfl c84 rfl rfl oY_opens iY_opens sY_opens yY_207 (by omega) ⟨Nat.le_refl _, Nat.le_refl _⟩ rfl (Nat.le_of_ble_eq_true rfl) dY_operand_47 h (fun z12 r12 m12 h => ?_)
        obtain ⟨sw12, rfl, h⟩ := h
        refine r_if_ne (tgt := 54) dY_operand_50 (by decide) (fun hc => ?_) (fun hc => ?_)
        · replace h := h.1 hc
          refine r_aload_n 0 1 rfl dY_operand_54 rfl ?_
          refine r_callVv 12 [] rfl c84 rfl rfl oY_operand iY_operand sY_operand yY_211 (by omega) ⟨Nat.le_refl _, Nat.le_refl _⟩ rfl (Nat.le_of_ble_eq_true rfl) dY_operand_55 h (fun z13 r13 m13 h => ?_)
          obtain ⟨sw13, rfl, h⟩ := h
          refine r_aload_n 0 1 rfl dY_operand_58 rfl ?_
          refine r_dup (fun q => by cases q) dY_operand_59 ?_
          refine q_getI 19 c84 fY_189 rfl rfl dY_operand_60 ?_
          refine r_iconst dY_operand_63 ?_
          refine r_isub dY_operand_64 ?_
          refine q_putI 19 c84 pfY_189 rfl rfl dY_operand_65 ?_
          refine r_aload_n 0 1 rfl dY_operand_68 rfl ?_
          refine r_iload_n 1 0 rfl dY_operand_69 rfl ?_
          refine r_bipush (by decide) dY_operand_70 ?_
          refine r_ifc_ne (tgt := 79) dY_operand_72 (by decide) (fun hc => ?_) (fun hc => ?_)
          · replace h := h.1 hc
            refine r_iconst dY_operand_79 ?_
            refine r_iconst dY_operand_80 ?_
            refine r_callVv 12 [_, _] rfl c84 rfl rfl oY_addStep iY_addStep sY_addStep yY_199 (by omega) ⟨Nat.le_refl _, Nat.le_refl _⟩ rfl (Nat.le_of_ble_eq_true rfl) dY_operand_81 h (fun z14 r14 m14 h => ?_)
            obtain ⟨sw14, rfl, h⟩ := h
            refine r_goto (tgt := 154) dY_operand_84 (by decide) ?_
            exact q_vret rfl h dY_operand_154
          · replace h := h.2 hc
            refine r_iconst dY_operand_75 ?_
            refine r_goto (tgt := 80) dY_operand_76 (by decide) ?_
            refine r_iconst dY_operand_80 ?_
            refine r_callVv 12 [_, _] rfl c84 rfl rfl oY_addStep iY_addStep sY_addStep yY_199 (by omega) ⟨Nat.le_refl _, Nat.le_refl _⟩ rfl (Nat.le_of_ble_eq_true rfl) dY_operand_81 h (fun z15 r15 m15 h => ?_)
            obtain ⟨sw15, rfl, h⟩ := h
            refine r_goto (tgt := 154) dY_operand_84 (by decide) ?_
            exact q_vret rfl h dY_operand_154
        · replace h := h.2 hc
          exact q_vret rfl h dY_operand_53
  · replace h := h.2 hc
    refine r_aload_n 0 1 rfl dY_operand_12 rfl ?_
    refine r_iconst dY_operand_13 ?_
    refine r_iload_n 1 0 rfl dY_operand_14 rfl ?_
    refine r_callSi [_] rfl oY_nameOf iY_nameOf yY_203 (by omega) ⟨Nat.le_refl _, Nat.le_refl _⟩ rfl (Nat.le_of_ble_eq_true rfl) dY_operand_15 h (fun z16 r16 m16 h => ?_)
    obtain ⟨sw16, rfl, h⟩ := h
    refine r_callVv 12 [_, _] rfl c84 rfl rfl oY_addStep iY_addStep sY_addStep yY_199 (by omega) ⟨Nat.le_refl _, Nat.le_refl _⟩ rfl (Nat.le_of_ble_eq_true rfl) dY_operand_18 h (fun z17 r17 m17 h => ?_)
    obtain ⟨sw17, rfl, h⟩ := h
    refine r_aload_n 0 1 rfl dY_operand_21 rfl ?_
    refine r_dup (fun q => by cases q) dY_operand_22 ?_
    refine q_getI 17 c84 fY_180 rfl rfl dY_operand_23 ?_
    refine r_iconst dY_operand_26 ?_
    refine r_iadd dY_operand_27 ?_
    refine q_putI 17 c84 pfY_180 rfl rfl dY_operand_28 ?_
    refine r_goto (tgt := 154) dY_operand_31 (by decide) ?_
    exact q_vret rfl h dY_operand_154
theorem dY_product_0 : decode mY_product.2.1 0 = .ok (.aload_n 0, 1) := by decide +kernel
theorem dY_product_1 : decode mY_product.2.1 1 = .ok (.invokevirtual 211, 3) := by decide +kernel
theorem dY_product_4 : decode mY_product.2.1 4 = .ok (.aload_n 0, 1) := by decide +kernel
theorem dY_product_5 : decode mY_product.2.1 5 = .ok (.getfield 183, 3) := by decide +kernel
theorem dY_product_8 : decode mY_product.2.1 8 = .ok (.ifCond .ge 58, 3) := by decide +kernel
theorem dY_product_11 : decode mY_product.2.1 11 = .ok (.aload_n 0, 1) := by decide +kernel
theorem dY_product_12 : decode mY_product.2.1 12 = .ok (.invokevirtual 195, 3) := by decide +kernel
theorem dY_product_15 : decode mY_product.2.1 15 = .ok (.bipush 42, 2) := by decide +kernel
theorem dY_product_17 : decode mY_product.2.1 17 = .ok (.if_icmp .eq 21, 3) := by decide +kernel
theorem dY_product_20 : decode mY_product.2.1 20 = .ok (.aload_n 0, 1) := by decide +kernel
theorem dY_product_21 : decode mY_product.2.1 21 = .ok (.invokevirtual 195, 3) := by decide +kernel
theorem dY_product_24 : decode mY_product.2.1 24 = .ok (.bipush 47, 2) := by decide +kernel
theorem dY_product_26 : decode mY_product.2.1 26 = .ok (.if_icmp .eq 12, 3) := by decide +kernel
theorem dY_product_29 : decode mY_product.2.1 29 = .ok (.aload_n 0, 1) := by decide +kernel
theorem dY_product_30 : decode mY_product.2.1 30 = .ok (.invokevirtual 195, 3) := by decide +kernel
theorem dY_product_33 : decode mY_product.2.1 33 = .ok (.bipush 37, 2) := by decide +kernel
theorem dY_product_35 : decode mY_product.2.1 35 = .ok (.if_icmp .ne 31, 3) := by decide +kernel
theorem dY_product_38 : decode mY_product.2.1 38 = .ok (.aload_n 0, 1) := by decide +kernel
theorem dY_product_39 : decode mY_product.2.1 39 = .ok (.invokevirtual 195, 3) := by decide +kernel
theorem dY_product_42 : decode mY_product.2.1 42 = .ok (.istore_n 1, 1) := by decide +kernel
theorem dY_product_43 : decode mY_product.2.1 43 = .ok (.aload_n 0, 1) := by decide +kernel
theorem dY_product_44 : decode mY_product.2.1 44 = .ok (.dup, 1) := by decide +kernel
theorem dY_product_45 : decode mY_product.2.1 45 = .ok (.getfield 180, 3) := by decide +kernel
theorem dY_product_48 : decode mY_product.2.1 48 = .ok (.iconst 1, 1) := by decide +kernel
theorem dY_product_49 : decode mY_product.2.1 49 = .ok (.iadd, 1) := by decide +kernel
theorem dY_product_50 : decode mY_product.2.1 50 = .ok (.putfield 180, 3) := by decide +kernel
theorem dY_product_53 : decode mY_product.2.1 53 = .ok (.aload_n 0, 1) := by decide +kernel
theorem dY_product_54 : decode mY_product.2.1 54 = .ok (.invokevirtual 211, 3) := by decide +kernel
theorem dY_product_57 : decode mY_product.2.1 57 = .ok (.aload_n 0, 1) := by decide +kernel
theorem dY_product_58 : decode mY_product.2.1 58 = .ok (.iload_n 1, 1) := by decide +kernel
theorem dY_product_59 : decode mY_product.2.1 59 = .ok (.iconst 0, 1) := by decide +kernel
theorem dY_product_60 : decode mY_product.2.1 60 = .ok (.invokevirtual 199, 3) := by decide +kernel
theorem dY_product_63 : decode mY_product.2.1 63 = .ok (.goto (-59), 3) := by decide +kernel
theorem dY_product_66 : decode mY_product.2.1 66 = .ok (.return_, 1) := by decide +kernel
/- Y_product: ()V -/
set_option maxRecDepth 4000 in
theorem wY_product {X : Cx} {d : Nat} (hd0 : 1 ≤ d) (sw : Bool) (m : Mem) (Q : Int → Bool → Mem → Prop) (h : M2 X d mY_operand [vr 84] sw m (fun z1 sw1 m1 => R2 X (d + 1) mY_product 4 [(0, vr 84)] [] sw1 m1 Q)) : M2 X (d + 1) mY_product [vr 84] sw m Q := by
  refine Mt.of pY_product (Nat.le_of_ble_eq_true rfl) (Nat.le_refl _) ?_
  show R2 X (d + 1) mY_product 0 [(0, vr 84)] [] sw m Q
  refine r_aload_n 0 0 rfl dY_product_0 rfl ?_
  refine r_callVv 12 [] rfl c84 rfl rfl oY_operand iY_operand sY_operand yY_211 (by omega) ⟨Nat.le_refl _, Nat.le_refl _⟩ rfl (Nat.le_of_ble_eq_true rfl) dY_product_1 h (fun z1 r1 m1 h => ?_)
  obtain ⟨sw1, rfl, h⟩ := h
  refine r_sub [0] ?_ h
  rfl
set_option maxRecDepth 4000 in
theorem wY_product_4 {X : Cx} {d : Nat} (hd0 : 1 ≤ d) (sw : Bool) (m : Mem) (Q : Int → Bool → Mem → Prop) (h : ((0 ≤ w32 (m 84 18) → Q 0 sw m) ∧ (¬ (0 ≤ w32 (m 84 18)) → M2 X 1 mY_looksOn [vr 84] sw m (fun z1 sw1 m1 => ((w32 z1 = 42 → M2 X 1 mY_looksOn [vr 84] sw1 m1 (fun z2 sw2 m2 => M2 X d mY_operand [vr 84] sw2 (upm m2 84 17 ((m2 84 17) + 1)) (fun z3 sw3 m3 => M2 X 1 mY_addStep [vr 84, vi z2, vi 0] sw3 m3 (fun z4 sw4 m4 => R2 X (d + 1) mY_product 4 [(0, vr 84)] [] sw4 m4 Q)))) ∧ (¬ (w32 z1 = 42) → M2 X 1 mY_looksOn [vr 84] sw1 m1 (fun z5 sw5 m5 => ((w32 z5 = 47 → M2 X 1 mY_looksOn [vr 84] sw5 m5 (fun z6 sw6 m6 => M2 X d mY_operand [vr 84] sw6 (upm m6 84 17 ((m6 84 17) + 1)) (fun z7 sw7 m7 => M2 X 1 mY_addStep [vr 84, vi z6, vi 0] sw7 m7 (fun z8 sw8 m8 => R2 X (d + 1) mY_product 4 [(0, vr 84)] [] sw8 m8 Q)))) ∧ (¬ (w32 z5 = 47) → M2 X 1 mY_looksOn [vr 84] sw5 m5 (fun z9 sw9 m9 => ((¬ w32 z9 = 37 → Q 0 sw9 m9) ∧ (¬ (¬ w32 z9 = 37) → M2 X 1 mY_looksOn [vr 84] sw9 m9 (fun z10 sw10 m10 => M2 X d mY_operand [vr 84] sw10 (upm m10 84 17 ((m10 84 17) + 1)) (fun z11 sw11 m11 => M2 X 1 mY_addStep [vr 84, vi z10, vi 0] sw11 m11 (fun z12 sw12 m12 => R2 X (d + 1) mY_product 4 [(0, vr 84)] [] sw12 m12 Q))))))))))))))) : R2 X (d + 1) mY_product 4 [(0, vr 84)] [] sw m Q := by
  refine r_aload_n 0 0 rfl dY_product_4 rfl ?_
  refine q_getI 18 c84 fY_183 rfl rfl dY_product_5 ?_
  refine r_if_ge (tgt := 66) dY_product_8 (by decide) (fun hc => ?_) (fun hc => ?_)
  · replace h := h.1 hc
    exact q_vret rfl h dY_product_66
  · replace h := h.2 hc
    refine r_aload_n 0 0 rfl dY_product_11 rfl ?_
    refine r_callVi 12 [] rfl c84 rfl rfl oY_looksOn iY_looksOn sY_looksOn yY_195 (by omega) ⟨Nat.le_refl _, Nat.le_refl _⟩ rfl (Nat.le_of_ble_eq_true rfl) dY_product_12 h (fun z1 r1 m1 h => ?_)
    obtain ⟨sw1, rfl, h⟩ := h
    refine r_bipush (by decide) dY_product_15 ?_
    refine r_ifc_eq (tgt := 38) dY_product_17 (by decide) (fun hc => ?_) (fun hc => ?_)
    · replace h := h.1 hc
      refine r_aload_n 0 0 rfl dY_product_38 rfl ?_
      refine r_callVi 12 [] rfl c84 rfl rfl oY_looksOn iY_looksOn sY_looksOn yY_195 (by omega) ⟨Nat.le_refl _, Nat.le_refl _⟩ rfl (Nat.le_of_ble_eq_true rfl) dY_product_39 h (fun z2 r2 m2 h => ?_)
      obtain ⟨sw2, rfl, h⟩ := h
      refine r_istore_n 1 (by decide) dY_product_42 rfl ?_
      refine r_aload_n 0 1 rfl dY_product_43 rfl ?_
      refine r_dup (fun q => by cases q) dY_product_44 ?_
      refine q_getI 17 c84 fY_180 rfl rfl dY_product_45 ?_
      refine r_iconst dY_product_48 ?_
      refine r_iadd dY_product_49 ?_
      refine q_putI 17 c84 pfY_180 rfl rfl dY_product_50 ?_
      refine r_aload_n 0 1 rfl dY_product_53 rfl ?_
      refine r_callVv 12 [] rfl c84 rfl rfl oY_operand iY_operand sY_operand yY_211 (by omega) ⟨Nat.le_refl _, Nat.le_refl _⟩ rfl (Nat.le_of_ble_eq_true rfl) dY_product_54 h (fun z3 r3 m3 h => ?_)
      obtain ⟨sw3, rfl, h⟩ := h
      refine r_aload_n 0 1 rfl dY_product_57 rfl ?_
      refine r_iload_n 1 0 rfl dY_product_58 rfl ?_
      refine r_iconst dY_product_59 ?_
      refine r_callVv 12 [_, _] rfl c84 rfl rfl oY_addStep iY_addStep sY_addStep yY_199 (by omega) ⟨Nat.le_refl _, Nat.le_refl _⟩ rfl (Nat.le_of_ble_eq_true rfl) dY_product_60 h (fun z4 r4 m4 h => ?_)
      obtain ⟨sw4, rfl, h⟩ := h
      refine r_goto (tgt := 4) dY_product_63 (by decide) ?_
      refine r_sub [1] ?_ h
      rfl
    · replace h := h.2 hc
      refine r_aload_n 0 0 rfl dY_product_20 rfl ?_
      refine r_callVi 12 [] rfl c84 rfl rfl oY_looksOn iY_looksOn sY_looksOn yY_195 (by omega) ⟨Nat.le_refl _, Nat.le_refl _⟩ rfl (Nat.le_of_ble_eq_true rfl) dY_product_21 h (fun z5 r5 m5 h => ?_)
      obtain ⟨sw5, rfl, h⟩ := h
      refine r_bipush (by decide) dY_product_24 ?_
      refine r_ifc_eq (tgt := 38) dY_product_26 (by decide) (fun hc => ?_) (fun hc => ?_)
      · replace h := h.1 hc
        refine r_aload_n 0 0 rfl dY_product_38 rfl ?_
        refine r_callVi 12 [] rfl c84 rfl rfl oY_looksOn iY_looksOn sY_looksOn yY_195 (by omega) ⟨Nat.le_refl _, Nat.le_refl _⟩ rfl (Nat.le_of_ble_eq_true rfl) dY_product_39 h (fun z6 r6 m6 h => ?_)
        obtain ⟨sw6, rfl, h⟩ := h
        refine r_istore_n 1 (by decide) dY_product_42 rfl ?_
        refine r_aload_n 0 1 rfl dY_product_43 rfl ?_
        refine r_dup (fun q => by cases q) dY_product_44 ?_
        refine q_getI 17 c84 fY_180 rfl rfl dY_product_45 ?_
        refine r_iconst dY_product_48 ?_
        refine r_iadd dY_product_49 ?_
        refine q_putI 17 c84 pfY_180 rfl rfl dY_product_50 ?_
        refine r_aload_n 0 1 rfl dY_product_53 rfl ?_
        refine r_callVv 12 [] rfl c84 rfl rfl oY_operand iY_operand sY_operand yY_211 (by omega) ⟨Nat.le_refl _, Nat.le_refl _⟩ rfl (Nat.le_of_ble_eq_true rfl) dY_product_54 h (fun z7 r7 m7 h => ?_)
        obtain ⟨sw7, rfl, h⟩ := h
        refine r_aload_n 0 1 rfl dY_product_57 rfl ?_
        refine r_iload_n 1 0 rfl dY_product_58 rfl ?_
        refine r_iconst dY_product_59 ?_
        refine r_callVv 12 [_, _] rfl c84 rfl rfl oY_addStep iY_addStep sY_addStep yY_199 (by omega) ⟨Nat.le_refl _, Nat.le_refl _⟩ rfl (Nat.le_of_ble_eq_true rfl) dY_product_60 h (fun z8 r8 m8 h => ?_)
        obtain ⟨sw8, rfl, h⟩ := h
        refine r_goto (tgt := 4) dY_product_63 (by decide) ?_
        refine r_sub [1] ?_ h
        rfl
      · replace h := h.2 hc
        refine r_aload_n 0 0 rfl dY_product_29 rfl ?_
        refine r_callVi 12 [] rfl c84 rfl rfl oY_looksOn iY_looksOn sY_looksOn yY_195 (by omega) ⟨Nat.le_refl _, Nat.le_refl _⟩ rfl (Nat.le_of_ble_eq_true rfl) dY_product_30 h (fun z9 r9 m9 h => ?_)
        obtain ⟨sw9, rfl, h⟩ := h
        refine r_bipush (by decide) dY_product_33 ?_
        refine r_ifc_ne (tgt := 66) dY_product_35 (by decide) (fun hc => ?_) (fun hc => ?_)
        · replace h := h.1 hc
          exact q_vret rfl h dY_product_66
        · replace h := h.2 hc
          refine r_aload_n 0 0 rfl dY_product_38 rfl ?_
          refine r_callVi 12 [] rfl c84 rfl rfl oY_looksOn iY_looksOn sY_looksOn yY_195 (by omega) ⟨Nat.le_refl _, Nat.le_refl _⟩ rfl (Nat.le_of_ble_eq_true rfl) dY_product_39 h (fun z10 r10 m10 h => ?_)
          obtain ⟨sw10, rfl, h⟩ := h
          refine r_istore_n 1 (by decide) dY_product_42 rfl ?_
          refine r_aload_n 0 1 rfl dY_product_43 rfl ?_
          refine r_dup (fun q => by cases q) dY_product_44 ?_
          refine q_getI 17 c84 fY_180 rfl rfl dY_product_45 ?_
          refine r_iconst dY_product_48 ?_
          refine r_iadd dY_product_49 ?_
          refine q_putI 17 c84 pfY_180 rfl rfl dY_product_50 ?_
          refine r_aload_n 0 1 rfl dY_product_53 rfl ?_
          refine r_callVv 12 [] rfl c84 rfl rfl oY_operand iY_operand sY_operand yY_211 (by omega) ⟨Nat.le_refl _, Nat.le_refl _⟩ rfl (Nat.le_of_ble_eq_true rfl) dY_product_54 h (fun z11 r11 m11 h => ?_)
          obtain ⟨sw11, rfl, h⟩ := h
          refine r_aload_n 0 1 rfl dY_product_57 rfl ?_
          refine r_iload_n 1 0 rfl dY_product_58 rfl ?_
          refine r_iconst dY_product_59 ?_
          refine r_callVv 12 [_, _] rfl c84 rfl rfl oY_addStep iY_addStep sY_addStep yY_199 (by omega) ⟨Nat.le_refl _, Nat.le_refl _⟩ rfl (Nat.le_of_ble_eq_true rfl) dY_product_60 h (fun z12 r12 m12 h => ?_)
          obtain ⟨sw12, rfl, h⟩ := h
          refine r_goto (tgt := 4) dY_product_63 (by decide) ?_
          refine r_sub [1] ?_ h
          rfl
theorem dY_sum_0 : decode mY_sum.2.1 0 = .ok (.aload_n 0, 1) := by decide +kernel
theorem dY_sum_1 : decode mY_sum.2.1 1 = .ok (.invokevirtual 220, 3) := by decide +kernel
theorem dY_sum_4 : decode mY_sum.2.1 4 = .ok (.aload_n 0, 1) := by decide +kernel
theorem dY_sum_5 : decode mY_sum.2.1 5 = .ok (.getfield 183, 3) := by decide +kernel
theorem dY_sum_8 : decode mY_sum.2.1 8 = .ok (.ifCond .ge 49, 3) := by decide +kernel
theorem dY_sum_11 : decode mY_sum.2.1 11 = .ok (.aload_n 0, 1) := by decide +kernel
theorem dY_sum_12 : decode mY_sum.2.1 12 = .ok (.invokevirtual 195, 3) := by decide +kernel
theorem dY_sum_15 : decode mY_sum.2.1 15 = .ok (.bipush 43, 2) := by decide +kernel
theorem dY_sum_17 : decode mY_sum.2.1 17 = .ok (.if_icmp .eq 12, 3) := by decide +kernel
theorem dY_sum_20 : decode mY_sum.2.1 20 = .ok (.aload_n 0, 1) := by decide +kernel
theorem dY_sum_21 : decode mY_sum.2.1 21 = .ok (.invokevirtual 195, 3) := by decide +kernel
theorem dY_sum_24 : decode mY_sum.2.1 24 = .ok (.bipush 45, 2) := by decide +kernel
theorem dY_sum_26 : decode mY_sum.2.1 26 = .ok (.if_icmp .ne 31, 3) := by decide +kernel
theorem dY_sum_29 : decode mY_sum.2.1 29 = .ok (.aload_n 0, 1) := by decide +kernel
theorem dY_sum_30 : decode mY_sum.2.1 30 = .ok (.invokevirtual 195, 3) := by decide +kernel
theorem dY_sum_33 : decode mY_sum.2.1 33 = .ok (.istore_n 1, 1) := by decide +kernel
theorem dY_sum_34 : decode mY_sum.2.1 34 = .ok (.aload_n 0, 1) := by decide +kernel
theorem dY_sum_35 : decode mY_sum.2.1 35 = .ok (.dup, 1) := by decide +kernel
theorem dY_sum_36 : decode mY_sum.2.1 36 = .ok (.getfield 180, 3) := by decide +kernel
theorem dY_sum_39 : decode mY_sum.2.1 39 = .ok (.iconst 1, 1) := by decide +kernel
theorem dY_sum_40 : decode mY_sum.2.1 40 = .ok (.iadd, 1) := by decide +kernel
theorem dY_sum_41 : decode mY_sum.2.1 41 = .ok (.putfield 180, 3) := by decide +kernel
theorem dY_sum_44 : decode mY_sum.2.1 44 = .ok (.aload_n 0, 1) := by decide +kernel
theorem dY_sum_45 : decode mY_sum.2.1 45 = .ok (.invokevirtual 220, 3) := by decide +kernel
theorem dY_sum_48 : decode mY_sum.2.1 48 = .ok (.aload_n 0, 1) := by decide +kernel
theorem dY_sum_49 : decode mY_sum.2.1 49 = .ok (.iload_n 1, 1) := by decide +kernel
theorem dY_sum_50 : decode mY_sum.2.1 50 = .ok (.iconst 0, 1) := by decide +kernel
theorem dY_sum_51 : decode mY_sum.2.1 51 = .ok (.invokevirtual 199, 3) := by decide +kernel
theorem dY_sum_54 : decode mY_sum.2.1 54 = .ok (.goto (-50), 3) := by decide +kernel
theorem dY_sum_57 : decode mY_sum.2.1 57 = .ok (.return_, 1) := by decide +kernel
/- Y_sum: ()V -/
set_option maxRecDepth 4000 in
theorem wY_sum {X : Cx} {d : Nat} (hd0 : 1 ≤ d) (sw : Bool) (m : Mem) (Q : Int → Bool → Mem → Prop) (h : M2 X d mY_product [vr 84] sw m (fun z1 sw1 m1 => R2 X (d + 1) mY_sum 4 [(0, vr 84)] [] sw1 m1 Q)) : M2 X (d + 1) mY_sum [vr 84] sw m Q := by
  refine Mt.of pY_sum (Nat.le_of_ble_eq_true rfl) (Nat.le_refl _) ?_
  show R2 X (d + 1) mY_sum 0 [(0, vr 84)] [] sw m Q
  refine r_aload_n 0 0 rfl dY_sum_0 rfl ?_
  refine r_callVv 12 [] rfl c84 rfl rfl oY_product iY_product sY_product yY_220 (by omega) ⟨Nat.le_refl _, Nat.le_refl _⟩ rfl (Nat.le_of_ble_eq_true rfl) dY_sum_1 h (fun z1 r1 m1 h => ?_)
  obtain ⟨sw1, rfl, h⟩ := h
  refine r_sub [0] ?_ h
  rfl
set_option maxRecDepth 4000 in
theorem wY_sum_4 {X : Cx} {d : Nat} (hd0 : 1 ≤ d) (sw : Bool) (m : Mem) (Q : Int → Bool → Mem → Prop) (h : ((0 ≤ w32 (m 84 18) → Q 0 sw m) ∧ (¬ (0 ≤ w32 (m 84 18)) → M2 X 1 mY_looksOn [vr 84] sw m (fun z1 sw1 m1 => ((w32 z1 = 43 → M2 X 1 mY_looksOn [vr 84] sw1 m1 (fun z2 sw2 m2 => M2 X d mY_product [vr 84] sw2 (upm m2 84 17 ((m2 84 17) + 1)) (fun z3 sw3 m3 => M2 X 1 mY_addStep [vr 84, vi z2, vi 0] sw3 m3 (fun z4 sw4 m4 => R2 X (d + 1) mY_sum 4 [(0, vr 84)] [] sw4 m4 Q)))) ∧ (¬ (w32 z1 = 43) → M2 X 1 mY_looksOn [vr 84] sw1 m1 (fun z5 sw5 m5 => ((¬ w32 z5 = 45 → Q 0 sw5 m5) ∧ (¬ (¬ w32 z5 = 45) → M2 X 1 mY_looksOn [vr 84] sw5 m5 (fun z6 sw6 m6 => M2 X d mY_product [vr 84] sw6 (upm m6 84 17 ((m6 84 17) + 1)) (fun z7 sw7 m7 => M2 X 1 mY_addStep [vr 84, vi z6, vi 0] sw7 m7 (fun z8 sw8 m8 => R2 X (d + 1) mY_sum 4 [(0, vr 84)] [] sw8 m8 Q)))))))))))) : R2 X (d + 1) mY_sum 4 [(0, vr 84)] [] sw m Q := by
  refine r_aload_n 0 0 rfl dY_sum_4 rfl ?_
  refine q_getI 18 c84 fY_183 rfl rfl dY_sum_5 ?_
  refine r_if_ge (tgt := 57) dY_sum_8 (by decide) (fun hc => ?_) (fun hc => ?_)
  · replace h := h.1 hc
    exact q_vret rfl h dY_sum_57
  · replace h := h.2 hc
    refine r_aload_n 0 0 rfl dY_sum_11 rfl ?_
    refine r_callVi 12 [] rfl c84 rfl rfl oY_looksOn iY_looksOn sY_looksOn yY_195 (by omega) ⟨Nat.le_refl _, Nat.le_refl _⟩ rfl (Nat.le_of_ble_eq_true rfl) dY_sum_12 h (fun z1 r1 m1 h => ?_)
    obtain ⟨sw1, rfl, h⟩ := h
    refine r_bipush (by decide) dY_sum_15 ?_
    refine r_ifc_eq (tgt := 29) dY_sum_17 (by decide) (fun hc => ?_) (fun hc => ?_)
    · replace h := h.1 hc
      refine r_aload_n 0 0 rfl dY_sum_29 rfl ?_
      refine r_callVi 12 [] rfl c84 rfl rfl oY_looksOn iY_looksOn sY_looksOn yY_195 (by omega) ⟨Nat.le_refl _, Nat.le_refl _⟩ rfl (Nat.le_of_ble_eq_true rfl) dY_sum_30 h (fun z2 r2 m2 h => ?_)
      obtain ⟨sw2, rfl, h⟩ := h
      refine r_istore_n 1 (by decide) dY_sum_33 rfl ?_
      refine r_aload_n 0 1 rfl dY_sum_34 rfl ?_
      refine r_dup (fun q => by cases q) dY_sum_35 ?_
      refine q_getI 17 c84 fY_180 rfl rfl dY_sum_36 ?_
      refine r_iconst dY_sum_39 ?_
      refine r_iadd dY_sum_40 ?_
      refine q_putI 17 c84 pfY_180 rfl rfl dY_sum_41 ?_
      refine r_aload_n 0 1 rfl dY_sum_44 rfl ?_
      refine r_callVv 12 [] rfl c84 rfl rfl oY_product iY_product sY_product yY_220 (by omega) ⟨Nat.le_refl _, Nat.le_refl _⟩ rfl (Nat.le_of_ble_eq_true rfl) dY_sum_45 h (fun z3 r3 m3 h => ?_)
      obtain ⟨sw3, rfl, h⟩ := h
      refine r_aload_n 0 1 rfl dY_sum_48 rfl ?_
      refine r_iload_n 1 0 rfl dY_sum_49 rfl ?_
      refine r_iconst dY_sum_50 ?_
      refine r_callVv 12 [_, _] rfl c84 rfl rfl oY_addStep iY_addStep sY_addStep yY_199 (by omega) ⟨Nat.le_refl _, Nat.le_refl _⟩ rfl (Nat.le_of_ble_eq_true rfl) dY_sum_51 h (fun z4 r4 m4 h => ?_)
      obtain ⟨sw4, rfl, h⟩ := h
      refine r_goto (tgt := 4) dY_sum_54 (by decide) ?_
      refine r_sub [1] ?_ h
      rfl
    · replace h := h.2 hc
      refine r_aload_n 0 0 rfl dY_sum_20 rfl ?_
      refine r_callVi 12 [] rfl c84 rfl rfl oY_looksOn iY_looksOn sY_looksOn yY_195 (by omega) ⟨Nat.le_refl _, Nat.le_refl _⟩ rfl (Nat.le_of_ble_eq_true rfl) dY_sum_21 h (fun z5 r5 m5 h => ?_)
      obtain ⟨sw5, rfl, h⟩ := h
      refine r_bipush (by decide) dY_sum_24 ?_
      refine r_ifc_ne (tgt := 57) dY_sum_26 (by decide) (fun hc => ?_) (fun hc => ?_)
      · replace h := h.1 hc
        exact q_vret rfl h dY_sum_57
      · replace h := h.2 hc
        refine r_aload_n 0 0 rfl dY_sum_29 rfl ?_
        refine r_callVi 12 [] rfl c84 rfl rfl oY_looksOn iY_looksOn sY_looksOn yY_195 (by omega) ⟨Nat.le_refl _, Nat.le_refl _⟩ rfl (Nat.le_of_ble_eq_true rfl) dY_sum_30 h (fun z6 r6 m6 h => ?_)
        obtain ⟨sw6, rfl, h⟩ := h
        refine r_istore_n 1 (by decide) dY_sum_33 rfl ?_
        refine r_aload_n 0 1 rfl dY_sum_34 rfl ?_
        refine r_dup (fun q => by cases q) dY_sum_35 ?_
        refine q_getI 17 c84 fY_180 rfl rfl dY_sum_36 ?_
        refine r_iconst dY_sum_39 ?_
        refine r_iadd dY_sum_40 ?_
        refine q_putI 17 c84 pfY_180 rfl rfl dY_sum_41 ?_
        refine r_aload_n 0 1 rfl dY_sum_44 rfl ?_
        refine r_callVv 12 [] rfl c84 rfl rfl oY_product iY_product sY_product yY_220 (by omega) ⟨Nat.le_refl _, Nat.le_refl _⟩ rfl (Nat.le_of_ble_eq_true rfl) dY_sum_45 h (fun z7 r7 m7 h => ?_)
        obtain ⟨sw7, rfl, h⟩ := h
        refine r_aload_n 0 1 rfl dY_sum_48 rfl ?_
        refine r_iload_n 1 0 rfl dY_sum_49 rfl ?_
        refine r_iconst dY_sum_50 ?_
        refine r_callVv 12 [_, _] rfl c84 rfl rfl oY_addStep iY_addStep sY_addStep yY_199 (by omega) ⟨Nat.le_refl _, Nat.le_refl _⟩ rfl (Nat.le_of_ble_eq_true rfl) dY_sum_51 h (fun z8 r8 m8 h => ?_)
        obtain ⟨sw8, rfl, h⟩ := h
        refine r_goto (tgt := 4) dY_sum_54 (by decide) ?_
        refine r_sub [1] ?_ h
        rfl
theorem dY_compared_0 : decode mY_compared.2.1 0 = .ok (.aload_n 0, 1) := by decide +kernel
theorem dY_compared_1 : decode mY_compared.2.1 1 = .ok (.invokevirtual 223, 3) := by decide +kernel
theorem dY_compared_4 : decode mY_compared.2.1 4 = .ok (.aload_n 0, 1) := by decide +kernel
theorem dY_compared_5 : decode mY_compared.2.1 5 = .ok (.invokevirtual 195, 3) := by decide +kernel
theorem dY_compared_8 : decode mY_compared.2.1 8 = .ok (.istore_n 1, 1) := by decide +kernel
theorem dY_compared_9 : decode mY_compared.2.1 9 = .ok (.aload_n 0, 1) := by decide +kernel
theorem dY_compared_10 : decode mY_compared.2.1 10 = .ok (.getfield 183, 3) := by decide +kernel
theorem dY_compared_13 : decode mY_compared.2.1 13 = .ok (.ifCond .ge 21, 3) := by decide +kernel
theorem dY_compared_16 : decode mY_compared.2.1 16 = .ok (.iload_n 1, 1) := by decide +kernel
theorem dY_compared_17 : decode mY_compared.2.1 17 = .ok (.bipush 60, 2) := by decide +kernel
theorem dY_compared_19 : decode mY_compared.2.1 19 = .ok (.if_icmp .eq 16, 3) := by decide +kernel
theorem dY_compared_22 : decode mY_compared.2.1 22 = .ok (.iload_n 1, 1) := by decide +kernel
theorem dY_compared_23 : decode mY_compared.2.1 23 = .ok (.bipush 61, 2) := by decide +kernel
theorem dY_compared_25 : decode mY_compared.2.1 25 = .ok (.if_icmp .eq 10, 3) := by decide +kernel
theorem dY_compared_28 : decode mY_compared.2.1 28 = .ok (.iload_n 1, 1) := by decide +kernel
theorem dY_compared_29 : decode mY_compared.2.1 29 = .ok (.bipush 62, 2) := by decide +kernel
theorem dY_compared_31 : decode mY_compared.2.1 31 = .ok (.if_icmp .eq 4, 3) := by decide +kernel
theorem dY_compared_34 : decode mY_compared.2.1 34 = .ok (.return_, 1) := by decide +kernel
theorem dY_compared_35 : decode mY_compared.2.1 35 = .ok (.aload_n 0, 1) := by decide +kernel
theorem dY_compared_36 : decode mY_compared.2.1 36 = .ok (.dup, 1) := by decide +kernel
theorem dY_compared_37 : decode mY_compared.2.1 37 = .ok (.getfield 180, 3) := by decide +kernel
theorem dY_compared_40 : decode mY_compared.2.1 40 = .ok (.iconst 1, 1) := by decide +kernel
theorem dY_compared_41 : decode mY_compared.2.1 41 = .ok (.iadd, 1) := by decide +kernel
theorem dY_compared_42 : decode mY_compared.2.1 42 = .ok (.putfield 180, 3) := by decide +kernel
theorem dY_compared_45 : decode mY_compared.2.1 45 = .ok (.aload_n 0, 1) := by decide +kernel
theorem dY_compared_46 : decode mY_compared.2.1 46 = .ok (.invokevirtual 223, 3) := by decide +kernel
theorem dY_compared_49 : decode mY_compared.2.1 49 = .ok (.aload_n 0, 1) := by decide +kernel
theorem dY_compared_50 : decode mY_compared.2.1 50 = .ok (.iload_n 1, 1) := by decide +kernel
theorem dY_compared_51 : decode mY_compared.2.1 51 = .ok (.iconst 0, 1) := by decide +kernel
theorem dY_compared_52 : decode mY_compared.2.1 52 = .ok (.invokevirtual 199, 3) := by decide +kernel
theorem dY_compared_55 : decode mY_compared.2.1 55 = .ok (.return_, 1) := by decide +kernel
/- Y_compared: ()V -/
set_option maxRecDepth 4000 in
theorem wY_compared {X : Cx} {d : Nat} (hd0 : 1 ≤ d) (sw : Bool) (m : Mem) (Q : Int → Bool → Mem → Prop) (h : M2 X d mY_sum [vr 84] sw m (fun z1 sw1 m1 => M2 X 1 mY_looksOn [vr 84] sw1 m1 (fun z2 sw2 m2 => ((0 ≤ w32 (m2 84 18) → Q 0 sw2 m2) ∧ (¬ (0 ≤ w32 (m2 84 18)) → ((w32 z2 = 60 → M2 X d mY_sum [vr 84] sw2 (upm m2 84 17 ((m2 84 17) + 1)) (fun z3 sw3 m3 => M2 X 1 mY_addStep [vr 84, vi z2, vi 0] sw3 m3 (fun z4 sw4 m4 => Q 0 sw4 m4))) ∧ (¬ (w32 z2 = 60) → ((w32 z2 = 61 → M2 X d mY_sum [vr 84] sw2 (upm m2 84 17 ((m2 84 17) + 1)) (fun z5 sw5 m5 => M2 X 1 mY_addStep [vr 84, vi z2, vi 0] sw5 m5 (fun z6 sw6 m6 => Q 0 sw6 m6))) ∧ (¬ (w32 z2 = 61) → ((w32 z2 = 62 → M2 X d mY_sum [vr 84] sw2 (upm m2 84 17 ((m2 84 17) + 1)) (fun z7 sw7 m7 => M2 X 1 mY_addStep [vr 84, vi z2, vi 0] sw7 m7 (fun z8 sw8 m8 => Q 0 sw8 m8))) ∧ (¬ (w32 z2 = 62) → Q 0 sw2 m2))))))))))) : M2 X (d + 1) mY_compared [vr 84] sw m Q := by
  refine Mt.of pY_compared (Nat.le_of_ble_eq_true rfl) (Nat.le_refl _) ?_
  show R2 X (d + 1) mY_compared 0 [(0, vr 84)] [] sw m Q
  refine r_aload_n 0 0 rfl dY_compared_0 rfl ?_
  refine r_callVv 12 [] rfl c84 rfl rfl oY_sum iY_sum sY_sum yY_223 (by omega) ⟨Nat.le_refl _, Nat.le_refl _⟩ rfl (Nat.le_of_ble_eq_true rfl) dY_compared_1 h (fun z1 r1 m1 h => ?_)
  obtain ⟨sw1, rfl, h⟩ := h
  refine r_aload_n 0 0 rfl dY_compared_4 rfl ?_
  refine r_callVi 12 [] rfl c84 rfl rfl oY_looksOn iY_looksOn sY_looksOn yY_195 (by omega) ⟨Nat.le_refl _, Nat.le_refl _⟩ rfl (Nat.le_of_ble_eq_true rfl) dY_compared_5 h (fun z2 r2 m2 h => ?_)
  obtain ⟨sw2, rfl, h⟩ := h
  refine r_istore_n 1 (by decide) dY_compared_8 rfl ?_
  refine r_aload_n 0 1 rfl dY_compared_9 rfl ?_
  refine q_getI 18 c84 fY_183 rfl rfl dY_compared_10 ?_
  refine r_if_ge (tgt := 34) dY_compared_13 (by decide) (fun hc => ?_) (fun hc => ?_)
  · replace h := h.1 hc
    exact q_vret rfl h dY_compared_34
  · replace h := h.2 hc
    refine r_iload_n 1 0 rfl dY_compared_16 rfl ?_
    refine r_bipush (by decide) dY_compared_17 ?_
    refine r_ifc_eq (tgt := 35) dY_compared_19 (by decide) (fun hc => ?_) (fun hc => ?_)
    · replace h := h.1 hc
      refine r_aload_n 0 1 rfl dY_compared_35 rfl ?_
      refine r_dup (fun q => by cases q) dY_compared_36 ?_
      refine q_getI 17 c84 fY_180 rfl rfl dY_compared_37 ?_
      refine r_iconst dY_compared_40 ?_
      refine r_iadd dY_compared_41 ?_
      refine q_putI 17 c84 pfY_180 rfl rfl dY_compared_42 ?_
      refine r_aload_n 0 1 rfl dY_compared_45 rfl ?_
      refine r_callVv 12 [] rfl c84 rfl rfl oY_sum iY_sum sY_sum yY_223 (by omega) ⟨Nat.le_refl _, Nat.le_refl _⟩ rfl (Nat.le_of_ble_eq_true rfl) dY_compared_46 h (fun z3 r3 m3 h => ?_)
      obtain ⟨sw3, rfl, h⟩ := h
      refine r_aload_n 0 1 rfl dY_compared_49 rfl ?_
      refine r_iload_n 1 0 rfl dY_compared_50 rfl ?_
      refine r_iconst dY_compared_51 ?_
      refine r_callVv 12 [_, _] rfl c84 rfl rfl oY_addStep iY_addStep sY_addStep yY_199 (by omega) ⟨Nat.le_refl _, Nat.le_refl _⟩ rfl (Nat.le_of_ble_eq_true rfl) dY_compared_52 h (fun z4 r4 m4 h => ?_)
      obtain ⟨sw4, rfl, h⟩ := h
      exact q_vret rfl h dY_compared_55
    · replace h := h.2 hc
      refine r_iload_n 1 0 rfl dY_compared_22 rfl ?_
      refine r_bipush (by decide) dY_compared_23 ?_
      refine r_ifc_eq (tgt := 35) dY_compared_25 (by decide) (fun hc => ?_) (fun hc => ?_)
      · replace h := h.1 hc
        refine r_aload_n 0 1 rfl dY_compared_35 rfl ?_
        refine r_dup (fun q => by cases q) dY_compared_36 ?_
        refine q_getI 17 c84 fY_180 rfl rfl dY_compared_37 ?_
        refine r_iconst dY_compared_40 ?_
        refine r_iadd dY_compared_41 ?_
        refine q_putI 17 c84 pfY_180 rfl rfl dY_compared_42 ?_
        refine r_aload_n 0 1 rfl dY_compared_45 rfl ?_
        refine r_callVv 12 [] rfl c84 rfl rfl oY_sum iY_sum sY_sum yY_223 (by omega) ⟨Nat.le_refl _, Nat.le_refl _⟩ rfl (Nat.le_of_ble_eq_true rfl) dY_compared_46 h (fun z5 r5 m5 h => ?_)
        obtain ⟨sw5, rfl, h⟩ := h
        refine r_aload_n 0 1 rfl dY_compared_49 rfl ?_
        refine r_iload_n 1 0 rfl dY_compared_50 rfl ?_
        refine r_iconst dY_compared_51 ?_
        refine r_callVv 12 [_, _] rfl c84 rfl rfl oY_addStep iY_addStep sY_addStep yY_199 (by omega) ⟨Nat.le_refl _, Nat.le_refl _⟩ rfl (Nat.le_of_ble_eq_true rfl) dY_compared_52 h (fun z6 r6 m6 h => ?_)
        obtain ⟨sw6, rfl, h⟩ := h
        exact q_vret rfl h dY_compared_55
      · replace h := h.2 hc
        refine r_iload_n 1 0 rfl dY_compared_28 rfl ?_
        refine r_bipush (by decide) dY_compared_29 ?_
        refine r_ifc_eq (tgt := 35) dY_compared_31 (by decide) (fun hc => ?_) (fun hc => ?_)
        · replace h := h.1 hc
          refine r_aload_n 0 1 rfl dY_compared_35 rfl ?_
          refine r_dup (fun q => by cases q) dY_compared_36 ?_
          refine q_getI 17 c84 fY_180 rfl rfl dY_compared_37 ?_
          refine r_iconst dY_compared_40 ?_
          refine r_iadd dY_compared_41 ?_
          refine q_putI 17 c84 pfY_180 rfl rfl dY_compared_42 ?_
          refine r_aload_n 0 1 rfl dY_compared_45 rfl ?_
          refine r_callVv 12 [] rfl c84 rfl rfl oY_sum iY_sum sY_sum yY_223 (by omega) ⟨Nat.le_refl _, Nat.le_refl _⟩ rfl (Nat.le_of_ble_eq_true rfl) dY_compared_46 h (fun z7 r7 m7 h => ?_)
          obtain ⟨sw7, rfl, h⟩ := h
          refine r_aload_n 0 1 rfl dY_compared_49 rfl ?_
          refine r_iload_n 1 0 rfl dY_compared_50 rfl ?_
          refine r_iconst dY_compared_51 ?_
          refine r_callVv 12 [_, _] rfl c84 rfl rfl oY_addStep iY_addStep sY_addStep yY_199 (by omega) ⟨Nat.le_refl _, Nat.le_refl _⟩ rfl (Nat.le_of_ble_eq_true rfl) dY_compared_52 h (fun z8 r8 m8 h => ?_)
          obtain ⟨sw8, rfl, h⟩ := h
          exact q_vret rfl h dY_compared_55
        · replace h := h.2 hc
          exact q_vret rfl h dY_compared_34
theorem dY_both_0 : decode mY_both.2.1 0 = .ok (.aload_n 0, 1) := by decide +kernel
theorem dY_both_1 : decode mY_both.2.1 1 = .ok (.invokevirtual 226, 3) := by decide +kernel
theorem dY_both_4 : decode mY_both.2.1 4 = .ok (.aload_n 0, 1) := by decide +kernel
theorem dY_both_5 : decode mY_both.2.1 5 = .ok (.getfield 183, 3) := by decide +kernel
theorem dY_both_8 : decode mY_both.2.1 8 = .ok (.ifCond .ge 36, 3) := by decide +kernel
theorem dY_both_11 : decode mY_both.2.1 11 = .ok (.aload_n 0, 1) := by decide +kernel
theorem dY_both_12 : decode mY_both.2.1 12 = .ok (.invokevirtual 195, 3) := by decide +kernel
theorem dY_both_15 : decode mY_both.2.1 15 = .ok (.bipush 38, 2) := by decide +kernel
theorem dY_both_17 : decode mY_both.2.1 17 = .ok (.if_icmp .ne 27, 3) := by decide +kernel
theorem dY_both_20 : decode mY_both.2.1 20 = .ok (.aload_n 0, 1) := by decide +kernel
theorem dY_both_21 : decode mY_both.2.1 21 = .ok (.dup, 1) := by decide +kernel
theorem dY_both_22 : decode mY_both.2.1 22 = .ok (.getfield 180, 3) := by decide +kernel
theorem dY_both_25 : decode mY_both.2.1 25 = .ok (.iconst 1, 1) := by decide +kernel
theorem dY_both_26 : decode mY_both.2.1 26 = .ok (.iadd, 1) := by decide +kernel
theorem dY_both_27 : decode mY_both.2.1 27 = .ok (.putfield 180, 3) := by decide +kernel
theorem dY_both_30 : decode mY_both.2.1 30 = .ok (.aload_n 0, 1) := by decide +kernel
theorem dY_both_31 : decode mY_both.2.1 31 = .ok (.invokevirtual 226, 3) := by decide +kernel
theorem dY_both_34 : decode mY_both.2.1 34 = .ok (.aload_n 0, 1) := by decide +kernel
theorem dY_both_35 : decode mY_both.2.1 35 = .ok (.bipush 38, 2) := by decide +kernel
theorem dY_both_37 : decode mY_both.2.1 37 = .ok (.iconst 0, 1) := by decide +kernel
theorem dY_both_38 : decode mY_both.2.1 38 = .ok (.invokevirtual 199, 3) := by decide +kernel
theorem dY_both_41 : decode mY_both.2.1 41 = .ok (.goto (-37), 3) := by decide +kernel
theorem dY_both_44 : decode mY_both.2.1 44 = .ok (.return_, 1) := by decide +kernel
/- Y_both: ()V -/
set_option maxRecDepth 4000 in
theorem wY_both {X : Cx} {d : Nat} (hd0 : 1 ≤ d) (sw : Bool) (m : Mem) (Q : Int → Bool → Mem → Prop) (h : M2 X d mY_compared [vr 84] sw m (fun z1 sw1 m1 => R2 X (d + 1) mY_both 4 [(0, vr 84)] [] sw1 m1 Q)) : M2 X (d + 1) mY_both [vr 84] sw m Q := by
  refine Mt.of pY_both (Nat.le_of_ble_eq_true rfl) (Nat.le_refl _) ?_
  show R2 X (d + 1) mY_both 0 [(0, vr 84)] [] sw m Q
  refine r_aload_n 0 0 rfl dY_both_0 rfl ?_
  refine r_callVv 12 [] rfl c84 rfl rfl oY_compared iY_compared sY_compared yY_226 (by omega) ⟨Nat.le_refl _, Nat.le_refl _⟩ rfl (Nat.le_of_ble_eq_true rfl) dY_both_1 h (fun z1 r1 m1 h => ?_)
  obtain ⟨sw1, rfl, h⟩ := h
  refine r_sub [0] ?_ h
  rfl
set_option maxRecDepth 4000 in
theorem wY_both_4 {X : Cx} {d : Nat} (hd0 : 1 ≤ d) (sw : Bool) (m : Mem) (Q : Int → Bool → Mem → Prop) (h : ((0 ≤ w32 (m 84 18) → Q 0 sw m) ∧ (¬ (0 ≤ w32 (m 84 18)) → M2 X 1 mY_looksOn [vr 84] sw m (fun z1 sw1 m1 => ((¬ w32 z1 = 38 → Q 0 sw1 m1) ∧ (¬ (¬ w32 z1 = 38) → M2 X d mY_compared [vr 84] sw1 (upm m1 84 17 ((m1 84 17) + 1)) (fun z2 sw2 m2 => M2 X 1 mY_addStep [vr 84, vi 38, vi 0] sw2 m2 (fun z3 sw3 m3 => R2 X (d + 1) mY_both 4 [(0, vr 84)] [] sw3 m3 Q)))))))) : R2 X (d + 1) mY_both 4 [(0, vr 84)] [] sw m Q := by
  refine r_aload_n 0 0 rfl dY_both_4 rfl ?_
  refine q_getI 18 c84 fY_183 rfl rfl dY_both_5 ?_
  refine r_if_ge (tgt := 44) dY_both_8 (by decide) (fun hc => ?_) (fun hc => ?_)
  · replace h := h.1 hc
    exact q_vret rfl h dY_both_44
  · replace h := h.2 hc
    refine r_aload_n 0 0 rfl dY_both_11 rfl ?_
    refine r_callVi 12 [] rfl c84 rfl rfl oY_looksOn iY_looksOn sY_looksOn yY_195 (by omega) ⟨Nat.le_refl _, Nat.le_refl _⟩ rfl (Nat.le_of_ble_eq_true rfl) dY_both_12 h (fun z1 r1 m1 h => ?_)
    obtain ⟨sw1, rfl, h⟩ := h
    refine r_bipush (by decide) dY_both_15 ?_
    refine r_ifc_ne (tgt := 44) dY_both_17 (by decide) (fun hc => ?_) (fun hc => ?_)
    · replace h := h.1 hc
      exact q_vret rfl h dY_both_44
    · replace h := h.2 hc
      refine r_aload_n 0 0 rfl dY_both_20 rfl ?_
      refine r_dup (fun q => by cases q) dY_both_21 ?_
      refine q_getI 17 c84 fY_180 rfl rfl dY_both_22 ?_
      refine r_iconst dY_both_25 ?_
      refine r_iadd dY_both_26 ?_
      refine q_putI 17 c84 pfY_180 rfl rfl dY_both_27 ?_
      refine r_aload_n 0 0 rfl dY_both_30 rfl ?_
      refine r_callVv 12 [] rfl c84 rfl rfl oY_compared iY_compared sY_compared yY_226 (by omega) ⟨Nat.le_refl _, Nat.le_refl _⟩ rfl (Nat.le_of_ble_eq_true rfl) dY_both_31 h (fun z2 r2 m2 h => ?_)
      obtain ⟨sw2, rfl, h⟩ := h
      refine r_aload_n 0 0 rfl dY_both_34 rfl ?_
      refine r_bipush (by decide) dY_both_35 ?_
      refine r_iconst dY_both_37 ?_
      refine r_callVv 12 [_, _] rfl c84 rfl rfl oY_addStep iY_addStep sY_addStep yY_199 (by omega) ⟨Nat.le_refl _, Nat.le_refl _⟩ rfl (Nat.le_of_ble_eq_true rfl) dY_both_38 h (fun z3 r3 m3 h => ?_)
      obtain ⟨sw3, rfl, h⟩ := h
      refine r_goto (tgt := 4) dY_both_41 (by decide) ?_
      refine r_sub [0] ?_ h
      rfl
theorem dY_either_0 : decode mY_either.2.1 0 = .ok (.aload_n 0, 1) := by decide +kernel
theorem dY_either_1 : decode mY_either.2.1 1 = .ok (.invokevirtual 229, 3) := by decide +kernel
theorem dY_either_4 : decode mY_either.2.1 4 = .ok (.aload_n 0, 1) := by decide +kernel
theorem dY_either_5 : decode mY_either.2.1 5 = .ok (.getfield 183, 3) := by decide +kernel
theorem dY_either_8 : decode mY_either.2.1 8 = .ok (.ifCond .ge 36, 3) := by decide +kernel
theorem dY_either_11 : decode mY_either.2.1 11 = .ok (.aload_n 0, 1) := by decide +kernel
theorem dY_either_12 : decode mY_either.2.1 12 = .ok (.invokevirtual 195, 3) := by decide +kernel
theorem dY_either_15 : decode mY_either.2.1 15 = .ok (.bipush 124, 2) := by decide +kernel
theorem dY_either_17 : decode mY_either.2.1 17 = .ok (.if_icmp .ne 27, 3) := by decide +kernel
theorem dY_either_20 : decode mY_either.2.1 20 = .ok (.aload_n 0, 1) := by decide +kernel
theorem dY_either_21 : decode mY_either.2.1 21 = .ok (.dup, 1) := by decide +kernel
theorem dY_either_22 : decode mY_either.2.1 22 = .ok (.getfield 180, 3) := by decide +kernel
theorem dY_either_25 : decode mY_either.2.1 25 = .ok (.iconst 1, 1) := by decide +kernel
theorem dY_either_26 : decode mY_either.2.1 26 = .ok (.iadd, 1) := by decide +kernel
theorem dY_either_27 : decode mY_either.2.1 27 = .ok (.putfield 180, 3) := by decide +kernel
theorem dY_either_30 : decode mY_either.2.1 30 = .ok (.aload_n 0, 1) := by decide +kernel
theorem dY_either_31 : decode mY_either.2.1 31 = .ok (.invokevirtual 229, 3) := by decide +kernel
theorem dY_either_34 : decode mY_either.2.1 34 = .ok (.aload_n 0, 1) := by decide +kernel
theorem dY_either_35 : decode mY_either.2.1 35 = .ok (.bipush 124, 2) := by decide +kernel
theorem dY_either_37 : decode mY_either.2.1 37 = .ok (.iconst 0, 1) := by decide +kernel
theorem dY_either_38 : decode mY_either.2.1 38 = .ok (.invokevirtual 199, 3) := by decide +kernel
theorem dY_either_41 : decode mY_either.2.1 41 = .ok (.goto (-37), 3) := by decide +kernel
theorem dY_either_44 : decode mY_either.2.1 44 = .ok (.return_, 1) := by decide +kernel
/- Y_either: ()V -/
set_option maxRecDepth 4000 in
theorem wY_either {X : Cx} {d : Nat} (hd0 : 1 ≤ d) (sw : Bool) (m : Mem) (Q : Int → Bool → Mem → Prop) (h : M2 X d mY_both [vr 84] sw m (fun z1 sw1 m1 => R2 X (d + 1) mY_either 4 [(0, vr 84)] [] sw1 m1 Q)) : M2 X (d + 1) mY_either [vr 84] sw m Q := by
  refine Mt.of pY_either (Nat.le_of_ble_eq_true rfl) (Nat.le_refl _) ?_
  show R2 X (d + 1) mY_either 0 [(0, vr 84)] [] sw m Q
  refine r_aload_n 0 0 rfl dY_either_0 rfl ?_
  refine r_callVv 12 [] rfl c84 rfl rfl oY_both iY_both sY_both yY_229 (by omega) ⟨Nat.le_refl _, Nat.le_refl _⟩ rfl (Nat.le_of_ble_eq_true rfl) dY_either_1 h (fun z1 r1 m1 h => ?_)
  obtain ⟨sw1, rfl, h⟩ := h
  refine r_sub [0] ?_ h
  rfl
set_option maxRecDepth 4000 in
theorem wY_either_4 {X : Cx} {d : Nat} (hd0 : 1 ≤ d) (sw : Bool) (m : Mem) (Q : Int → Bool → Mem → Prop) (h : ((0 ≤ w32 (m 84 18) → Q 0 sw m) ∧ (¬ (0 ≤ w32 (m 84 18)) → M2 X 1 mY_looksOn [vr 84] sw m (fun z1 sw1 m1 => ((¬ w32 z1 = 124 → Q 0 sw1 m1) ∧ (¬ (¬ w32 z1 = 124) → M2 X d mY_both [vr 84] sw1 (upm m1 84 17 ((m1 84 17) + 1)) (fun z2 sw2 m2 => M2 X 1 mY_addStep [vr 84, vi 124, vi 0] sw2 m2 (fun z3 sw3 m3 => R2 X (d + 1) mY_either 4 [(0, vr 84)] [] sw3 m3 Q)))))))) : R2 X (d + 1) mY_either 4 [(0, vr 84)] [] sw m Q := by
  refine r_aload_n 0 0 rfl dY_either_4 rfl ?_
  refine q_getI 18 c84 fY_183 rfl rfl dY_either_5 ?_
  refine r_if_ge (tgt := 44) dY_either_8 (by decide) (fun hc => ?_) (fun hc => ?_)
  · replace h := h.1 hc
    exact q_vret rfl h dY_either_44
  · replace h := h.2 hc
    refine r_aload_n 0 0 rfl dY_either_11 rfl ?_
    refine r_callVi 12 [] rfl c84 rfl rfl oY_looksOn iY_looksOn sY_looksOn yY_195 (by omega) ⟨Nat.le_refl _, Nat.le_refl _⟩ rfl (Nat.le_of_ble_eq_true rfl) dY_either_12 h (fun z1 r1 m1 h => ?_)
    obtain ⟨sw1, rfl, h⟩ := h
    refine r_bipush (by decide) dY_either_15 ?_
    refine r_ifc_ne (tgt := 44) dY_either_17 (by decide) (fun hc => ?_) (fun hc => ?_)
    · replace h := h.1 hc
      exact q_vret rfl h dY_either_44
    · replace h := h.2 hc
      refine r_aload_n 0 0 rfl dY_either_20 rfl ?_
      refine r_dup (fun q => by cases q) dY_either_21 ?_
      refine q_getI 17 c84 fY_180 rfl rfl dY_either_22 ?_
      refine r_iconst dY_either_25 ?_
      refine r_iadd dY_either_26 ?_
      refine q_putI 17 c84 pfY_180 rfl rfl dY_either_27 ?_
      refine r_aload_n 0 0 rfl dY_either_30 rfl ?_
      refine r_callVv 12 [] rfl c84 rfl rfl oY_both iY_both sY_both yY_229 (by omega) ⟨Nat.le_refl _, Nat.le_refl _⟩ rfl (Nat.le_of_ble_eq_true rfl) dY_either_31 h (fun z2 r2 m2 h => ?_)
      obtain ⟨sw2, rfl, h⟩ := h
      refine r_aload_n 0 0 rfl dY_either_34 rfl ?_
      refine r_bipush (by decide) dY_either_35 ?_
      refine r_iconst dY_either_37 ?_
      refine r_callVv 12 [_, _] rfl c84 rfl rfl oY_addStep iY_addStep sY_addStep yY_199 (by omega) ⟨Nat.le_refl _, Nat.le_refl _⟩ rfl (Nat.le_of_ble_eq_true rfl) dY_either_38 h (fun z3 r3 m3 h => ?_)
      obtain ⟨sw3, rfl, h⟩ := h
      refine r_goto (tgt := 4) dY_either_41 (by decide) ?_
      refine r_sub [0] ?_ h
      rfl
theorem dY_line_0 : decode mY_line.2.1 0 = .ok (.bipush 61, 2) := by decide +kernel
theorem dY_line_2 : decode mY_line.2.1 2 = .ok (.aload_n 0, 1) := by decide +kernel
theorem dY_line_3 : decode mY_line.2.1 3 = .ok (.getfield 55, 3) := by decide +kernel
theorem dY_line_6 : decode mY_line.2.1 6 = .ok (.iconst 1, 1) := by decide +kernel
theorem dY_line_7 : decode mY_line.2.1 7 = .ok (.iaload, 1) := by decide +kernel
theorem dY_line_8 : decode mY_line.2.1 8 = .ok (.iadd, 1) := by decide +kernel
theorem dY_line_9 : decode mY_line.2.1 9 = .ok (.istore_n 1, 1) := by decide +kernel
theorem dY_line_10 : decode mY_line.2.1 10 = .ok (.aload_n 0, 1) := by decide +kernel
theorem dY_line_11 : decode mY_line.2.1 11 = .ok (.getfield 58, 3) := by decide +kernel
theorem dY_line_14 : decode mY_line.2.1 14 = .ok (.iload_n 1, 1) := by decide +kernel
theorem dY_line_15 : decode mY_line.2.1 15 = .ok (.aload_n 0, 1) := by decide +kernel
theorem dY_line_16 : decode mY_line.2.1 16 = .ok (.getfield 186, 3) := by decide +kernel
theorem dY_line_19 : decode mY_line.2.1 19 = .ok (.i2s, 1) := by decide +kernel
theorem dY_line_20 : decode mY_line.2.1 20 = .ok (.sastore, 1) := by decide +kernel
theorem dY_line_21 : decode mY_line.2.1 21 = .ok (.aload_n 0, 1) := by decide +kernel
theorem dY_line_22 : decode mY_line.2.1 22 = .ok (.invokevirtual 214, 3) := by decide +kernel
theorem dY_line_25 : decode mY_line.2.1 25 = .ok (.aload_n 0, 1) := by decide +kernel
theorem dY_line_26 : decode mY_line.2.1 26 = .ok (.getfield 183, 3) := by decide +kernel
theorem dY_line_29 : decode mY_line.2.1 29 = .ok (.ifCond .ge 37, 3) := by decide +kernel
theorem dY_line_32 : decode mY_line.2.1 32 = .ok (.aload_n 0, 1) := by decide +kernel
theorem dY_line_33 : decode mY_line.2.1 33 = .ok (.invokevirtual 195, 3) := by decide +kernel
theorem dY_line_36 : decode mY_line.2.1 36 = .ok (.bipush 63, 2) := by decide +kernel
theorem dY_line_38 : decode mY_line.2.1 38 = .ok (.if_icmp .ne 28, 3) := by decide +kernel
theorem dY_line_41 : decode mY_line.2.1 41 = .ok (.aload_n 0, 1) := by decide +kernel
theorem dY_line_42 : decode mY_line.2.1 42 = .ok (.dup, 1) := by decide +kernel
theorem dY_line_43 : decode mY_line.2.1 43 = .ok (.getfield 180, 3) := by decide +kernel
theorem dY_line_46 : decode mY_line.2.1 46 = .ok (.iconst 1, 1) := by decide +kernel
theorem dY_line_47 : decode mY_line.2.1 47 = .ok (.iadd, 1) := by decide +kernel
theorem dY_line_48 : decode mY_line.2.1 48 = .ok (.putfield 180, 3) := by decide +kernel
theorem dY_line_51 : decode mY_line.2.1 51 = .ok (.aload_n 0, 1) := by decide +kernel
theorem dY_line_52 : decode mY_line.2.1 52 = .ok (.getfield 58, 3) := by decide +kernel
theorem dY_line_55 : decode mY_line.2.1 55 = .ok (.iload_n 1, 1) := by decide +kernel
theorem dY_line_56 : decode mY_line.2.1 56 = .ok (.aload_n 0, 1) := by decide +kernel
theorem dY_line_57 : decode mY_line.2.1 57 = .ok (.getfield 186, 3) := by decide +kernel
theorem dY_line_60 : decode mY_line.2.1 60 = .ok (.i2s, 1) := by decide +kernel
theorem dY_line_61 : decode mY_line.2.1 61 = .ok (.sastore, 1) := by decide +kernel
theorem dY_line_62 : decode mY_line.2.1 62 = .ok (.aload_n 0, 1) := by decide +kernel
theorem dY_line_63 : decode mY_line.2.1 63 = .ok (.invokevirtual 214, 3) := by decide +kernel
theorem dY_line_66 : decode mY_line.2.1 66 = .ok (.aload_n 0, 1) := by decide +kernel
theorem dY_line_67 : decode mY_line.2.1 67 = .ok (.getfield 62, 3) := by decide +kernel
theorem dY_line_70 : decode mY_line.2.1 70 = .ok (.iload_n 1, 1) := by decide +kernel
theorem dY_line_71 : decode mY_line.2.1 71 = .ok (.aload_n 0, 1) := by decide +kernel
theorem dY_line_72 : decode mY_line.2.1 72 = .ok (.getfield 186, 3) := by decide +kernel
theorem dY_line_75 : decode mY_line.2.1 75 = .ok (.i2s, 1) := by decide +kernel
theorem dY_line_76 : decode mY_line.2.1 76 = .ok (.sastore, 1) := by decide +kernel
theorem dY_line_77 : decode mY_line.2.1 77 = .ok (.aload_n 0, 1) := by decide +kernel
theorem dY_line_78 : decode mY_line.2.1 78 = .ok (.getfield 55, 3) := by decide +kernel
theorem dY_line_81 : decode mY_line.2.1 81 = .ok (.iconst 1, 1) := by decide +kernel
theorem dY_line_82 : decode mY_line.2.1 82 = .ok (.dup2, 1) := by decide +kernel
theorem dY_line_83 : decode mY_line.2.1 83 = .ok (.iaload, 1) := by decide +kernel
theorem dY_line_84 : decode mY_line.2.1 84 = .ok (.iconst 1, 1) := by decide +kernel
theorem dY_line_85 : decode mY_line.2.1 85 = .ok (.iadd, 1) := by decide +kernel
theorem dY_line_86 : decode mY_line.2.1 86 = .ok (.iastore, 1) := by decide +kernel
theorem dY_line_87 : decode mY_line.2.1 87 = .ok (.return_, 1) := by decide +kernel
/- Y_line: ()V -/
set_option maxRecDepth 4000 in
theorem wY_line {X : Cx} (sw : Bool) (m : Mem) (Q : Int → Bool → Mem → Prop) (h : ((0 ≤ w32 (61 + (m 99 1)) ∧ w32 (61 + (m 99 1)) < 122) ∧ M2 X 80 mY_either [vr 84] sw (upm m 100 (w32 (61 + (m 99 1))) (w16 (w16 (m 84 20)))) (fun z1 sw1 m1 => ((0 ≤ w32 (m1 84 18) → ((0 ≤ w32 (61 + (m 99 1)) ∧ w32 (61 + (m 99 1)) < 122) ∧ Q 0 sw1 (upm (upm m1 101 (w32 (61 + (m 99 1))) (w16 (w16 (m1 84 20)))) 99 1 ((m1 99 1) + 1)))) ∧ (¬ (0 ≤ w32 (m1 84 18)) → M2 X 1 mY_looksOn [vr 84] sw1 m1 (fun z2 sw2 m2 => ((¬ w32 z2 = 63 → ((0 ≤ w32 (61 + (m 99 1)) ∧ w32 (61 + (m 99 1)) < 122) ∧ Q 0 sw2 (upm (upm m2 101 (w32 (61 + (m 99 1))) (w16 (w16 (m2 84 20)))) 99 1 ((m2 99 1) + 1)))) ∧ (¬ (¬ w32 z2 = 63) → ((0 ≤ w32 (61 + (m 99 1)) ∧ w32 (61 + (m 99 1)) < 122) ∧ M2 X 80 mY_either [vr 84] sw2 (upm (upm m2 84 17 ((m2 84 17) + 1)) 100 (w32 (61 + (m 99 1))) (w16 (w16 (m2 84 20)))) (fun z3 sw3 m3 => ((0 ≤ w32 (61 + (m 99 1)) ∧ w32 (61 + (m 99 1)) < 122) ∧ Q 0 sw3 (upm (upm m3 101 (w32 (61 + (m 99 1))) (w16 (w16 (m3 84 20)))) 99 1 ((m3 99 1) + 1))))))))))))) : M2 X 81 mY_line [vr 84] sw m Q := by
  refine Mt.of pY_line (Nat.le_of_ble_eq_true rfl) (Nat.le_refl _) ?_
  show R2 X 81 mY_line 0 [(0, vr 84)] [] sw m Q
  refine r_bipush (by decide) dY_line_0 ?_
  refine r_aload_n 0 0 rfl dY_line_2 rfl ?_
  refine q_getR 23 c84 fY_55 rfl rfl (g84_23 sw) (by decide) dY_line_3 ?_
  refine r_iconst dY_line_6 ?_
  refine q_iaload 1 rfl c99 (by decide) dY_line_7 ?_
  refine r_iadd dY_line_8 ?_
  refine r_istore_n 1 (by decide) dY_line_9 rfl ?_
  refine r_aload_n 0 1 rfl dY_line_10 rfl ?_
  refine q_getR 24 c84 fY_58 rfl rfl (g84_24 sw) (by decide) dY_line_11 ?_
  refine r_iload_n 1 0 rfl dY_line_14 rfl ?_
  refine r_aload_n 0 1 rfl dY_line_15 rfl ?_
  refine q_getI 20 c84 fY_186 rfl rfl dY_line_16 ?_
  refine r_i2s dY_line_19 ?_
  refine q_sastore (w32 (61 + (m 99 1))) rfl c100 h.1 dY_line_20 ?_
  replace h := h.2
  refine r_aload_n 0 1 rfl dY_line_21 rfl ?_
  refine r_callVv 12 [] rfl c84 rfl rfl oY_either iY_either sY_either yY_214 (by decide) ⟨Nat.le_refl _, Nat.le_refl _⟩ rfl (Nat.le_of_ble_eq_true rfl) dY_line_22 h (fun z1 r1 m1 h => ?_)
  obtain ⟨sw1, rfl, h⟩ := h
  refine r_aload_n 0 1 rfl dY_line_25 rfl ?_
  refine q_getI 18 c84 fY_183 rfl rfl dY_line_26 ?_
  refine r_if_ge (tgt := 66) dY_line_29 (by decide) (fun hc => ?_) (fun hc => ?_)
  · replace h := h.1 hc
    refine r_aload_n 0 1 rfl dY_line_66 rfl ?_
    refine q_getR 25 c84 fY_62 rfl rfl (g84_25 sw1) (by decide) dY_line_67 ?_
    refine r_iload_n 1 0 rfl dY_line_70 rfl ?_
    refine r_aload_n 0 1 rfl dY_line_71 rfl ?_
    refine q_getI 20 c84 fY_186 rfl rfl dY_line_72 ?_
    refine r_i2s dY_line_75 ?_
    refine q_sastore (w32 (61 + (m 99 1))) rfl c101 h.1 dY_line_76 ?_
    replace h := h.2
    refine r_aload_n 0 1 rfl dY_line_77 rfl ?_
    refine q_getR 23 c84 fY_55 rfl rfl (g84_23 sw1) (by decide) dY_line_78 ?_
    refine r_iconst dY_line_81 ?_
    refine r_dup2 (fun q => by cases q) (fun q => by cases q) dY_line_82 ?_
    refine q_iaload 1 rfl c99 (by decide) dY_line_83 ?_
    refine r_iconst dY_line_84 ?_
    refine r_iadd dY_line_85 ?_
    refine q_iastore 1 rfl c99 (by decide) dY_line_86 ?_
    exact q_vret rfl h dY_line_87
  · replace h := h.2 hc
    refine r_aload_n 0 1 rfl dY_line_32 rfl ?_
    refine r_callVi 12 [] rfl c84 rfl rfl oY_looksOn iY_looksOn sY_looksOn yY_195 (by decide) ⟨Nat.le_refl _, Nat.le_refl _⟩ rfl (Nat.le_of_ble_eq_true rfl) dY_line_33 h (fun z2 r2 m2 h => ?_)
    obtain ⟨sw2, rfl, h⟩ := h
    refine r_bipush (by decide) dY_line_36 ?_
    refine r_ifc_ne (tgt := 66) dY_line_38 (by decide) (fun hc => ?_) (fun hc => ?_)
    · replace h := h.1 hc
      refine r_aload_n 0 1 rfl dY_line_66 rfl ?_
      refine q_getR 25 c84 fY_62 rfl rfl (g84_25 sw2) (by decide) dY_line_67 ?_
      refine r_iload_n 1 0 rfl dY_line_70 rfl ?_
      refine r_aload_n 0 1 rfl dY_line_71 rfl ?_
      refine q_getI 20 c84 fY_186 rfl rfl dY_line_72 ?_
      refine r_i2s dY_line_75 ?_
      refine q_sastore (w32 (61 + (m 99 1))) rfl c101 h.1 dY_line_76 ?_
      replace h := h.2
      refine r_aload_n 0 1 rfl dY_line_77 rfl ?_
      refine q_getR 23 c84 fY_55 rfl rfl (g84_23 sw2) (by decide) dY_line_78 ?_
      refine r_iconst dY_line_81 ?_
      refine r_dup2 (fun q => by cases q) (fun q => by cases q) dY_line_82 ?_
      refine q_iaload 1 rfl c99 (by decide) dY_line_83 ?_
      refine r_iconst dY_line_84 ?_
      refine r_iadd dY_line_85 ?_
      refine q_iastore 1 rfl c99 (by decide) dY_line_86 ?_
      exact q_vret rfl h dY_line_87
    · replace h := h.2 hc
      refine r_aload_n 0 1 rfl dY_line_41 rfl ?_
      refine r_dup (fun q => by cases q) dY_line_42 ?_
      refine q_getI 17 c84 fY_180 rfl rfl dY_line_43 ?_
      refine r_iconst dY_line_46 ?_
      refine r_iadd dY_line_47 ?_
      refine q_putI 17 c84 pfY_180 rfl rfl dY_line_48 ?_
      refine r_aload_n 0 1 rfl dY_line_51 rfl ?_
      refine q_getR 24 c84 fY_58 rfl rfl (g84_24 sw2) (by decide) dY_line_52 ?_
      refine r_iload_n 1 0 rfl dY_line_55 rfl ?_
      refine r_aload_n 0 1 rfl dY_line_56 rfl ?_
      refine q_getI 20 c84 fY_186 rfl rfl dY_line_57 ?_
      refine r_i2s dY_line_60 ?_
      refine q_sastore (w32 (61 + (m 99 1))) rfl c100 h.1 dY_line_61 ?_
      replace h := h.2
      refine r_aload_n 0 1 rfl dY_line_62 rfl ?_
      refine r_callVv 12 [] rfl c84 rfl rfl oY_either iY_either sY_either yY_214 (by decide) ⟨Nat.le_refl _, Nat.le_refl _⟩ rfl (Nat.le_of_ble_eq_true rfl) dY_line_63 h (fun z3 r3 m3 h => ?_)
      obtain ⟨sw3, rfl, h⟩ := h
      refine r_aload_n 0 1 rfl dY_line_66 rfl ?_
      refine q_getR 25 c84 fY_62 rfl rfl (g84_25 sw3) (by decide) dY_line_67 ?_
      refine r_iload_n 1 0 rfl dY_line_70 rfl ?_
      refine r_aload_n 0 1 rfl dY_line_71 rfl ?_
      refine q_getI 20 c84 fY_186 rfl rfl dY_line_72 ?_
      refine r_i2s dY_line_75 ?_
      refine q_sastore (w32 (61 + (m 99 1))) rfl c101 h.1 dY_line_76 ?_
      replace h := h.2
      refine r_aload_n 0 1 rfl dY_line_77 rfl ?_
      refine q_getR 23 c84 fY_55 rfl rfl (g84_23 sw3) (by decide) dY_line_78 ?_
      refine r_iconst dY_line_81 ?_
      refine r_dup2 (fun q => by cases q) (fun q => by cases q) dY_line_82 ?_
      refine q_iaload 1 rfl c99 (by decide) dY_line_83 ?_
      refine r_iconst dY_line_84 ?_
      refine r_iadd dY_line_85 ?_
      refine q_iastore 1 rfl c99 (by decide) dY_line_86 ?_
      exact q_vret rfl h dY_line_87
theorem dY_readText_0 : decode mY_readText.2.1 0 = .ok (.aload_n 0, 1) := by decide +kernel
theorem dY_readText_1 : decode mY_readText.2.1 1 = .ok (.iconst 0, 1) := by decide +kernel
theorem dY_readText_2 : decode mY_readText.2.1 2 = .ok (.putfield 180, 3) := by decide +kernel
theorem dY_readText_5 : decode mY_readText.2.1 5 = .ok (.aload_n 0, 1) := by decide +kernel
theorem dY_readText_6 : decode mY_readText.2.1 6 = .ok (.iconst (-1), 1) := by decide +kernel
theorem dY_readText_7 : decode mY_readText.2.1 7 = .ok (.putfield 183, 3) := by decide +kernel
theorem dY_readText_10 : decode mY_readText.2.1 10 = .ok (.aload_n 0, 1) := by decide +kernel
theorem dY_readText_11 : decode mY_readText.2.1 11 = .ok (.iconst 0, 1) := by decide +kernel
theorem dY_readText_12 : decode mY_readText.2.1 12 = .ok (.putfield 189, 3) := by decide +kernel
theorem dY_readText_15 : decode mY_readText.2.1 15 = .ok (.aload_n 0, 1) := by decide +kernel
theorem dY_readText_16 : decode mY_readText.2.1 16 = .ok (.iconst 0, 1) := by decide +kernel
theorem dY_readText_17 : decode mY_readText.2.1 17 = .ok (.putfield 186, 3) := by decide +kernel
theorem dY_readText_20 : decode mY_readText.2.1 20 = .ok (.aload_n 0, 1) := by decide +kernel
theorem dY_readText_21 : decode mY_readText.2.1 21 = .ok (.getfield 55, 3) := by decide +kernel
theorem dY_readText_24 : decode mY_readText.2.1 24 = .ok (.iconst 1, 1) := by decide +kernel
theorem dY_readText_25 : decode mY_readText.2.1 25 = .ok (.iconst 0, 1) := by decide +kernel
theorem dY_readText_26 : decode mY_readText.2.1 26 = .ok (.iastore, 1) := by decide +kernel
theorem dY_readText_27 : decode mY_readText.2.1 27 = .ok (.aload_n 0, 1) := by decide +kernel
theorem dY_readText_28 : decode mY_readText.2.1 28 = .ok (.invokevirtual 232, 3) := by decide +kernel
theorem dY_readText_31 : decode mY_readText.2.1 31 = .ok (.aload_n 0, 1) := by decide +kernel
theorem dY_readText_32 : decode mY_readText.2.1 32 = .ok (.getfield 183, 3) := by decide +kernel
theorem dY_readText_35 : decode mY_readText.2.1 35 = .ok (.ifCond .ge 29, 3) := by decide +kernel
theorem dY_readText_38 : decode mY_readText.2.1 38 = .ok (.aload_n 0, 1) := by decide +kernel
theorem dY_readText_39 : decode mY_readText.2.1 39 = .ok (.invokevirtual 195, 3) := by decide +kernel
theorem dY_readText_42 : decode mY_readText.2.1 42 = .ok (.bipush 59, 2) := by decide +kernel
theorem dY_readText_44 : decode mY_readText.2.1 44 = .ok (.if_icmp .ne 20, 3) := by decide +kernel
theorem dY_readText_47 : decode mY_readText.2.1 47 = .ok (.aload_n 0, 1) := by decide +kernel
theorem dY_readText_48 : decode mY_readText.2.1 48 = .ok (.dup, 1) := by decide +kernel
theorem dY_readText_49 : decode mY_readText.2.1 49 = .ok (.getfield 180, 3) := by decide +kernel
theorem dY_readText_52 : decode mY_readText.2.1 52 = .ok (.iconst 1, 1) := by decide +kernel
theorem dY_readText_53 : decode mY_readText.2.1 53 = .ok (.iadd, 1) := by decide +kernel
theorem dY_readText_54 : decode mY_readText.2.1 54 = .ok (.putfield 180, 3) := by decide +kernel
theorem dY_readText_57 : decode mY_readText.2.1 57 = .ok (.aload_n 0, 1) := by decide +kernel
theorem dY_readText_58 : decode mY_readText.2.1 58 = .ok (.invokevirtual 232, 3) := by decide +kernel
theorem dY_readText_61 : decode mY_readText.2.1 61 = .ok (.goto (-30), 3) := by decide +kernel
theorem dY_readText_64 : decode mY_readText.2.1 64 = .ok (.aload_n 0, 1) := by decide +kernel
theorem dY_readText_65 : decode mY_readText.2.1 65 = .ok (.getfield 183, 3) := by decide +kernel
theorem dY_readText_68 : decode mY_readText.2.1 68 = .ok (.ifCond .ge 18, 3) := by decide +kernel
theorem dY_readText_71 : decode mY_readText.2.1 71 = .ok (.aload_n 0, 1) := by decide +kernel
theorem dY_readText_72 : decode mY_readText.2.1 72 = .ok (.getfield 180, 3) := by decide +kernel
theorem dY_readText_75 : decode mY_readText.2.1 75 = .ok (.aload_n 0, 1) := by decide +kernel
theorem dY_readText_76 : decode mY_readText.2.1 76 = .ok (.getfield 177, 3) := by decide +kernel
theorem dY_readText_79 : decode mY_readText.2.1 79 = .ok (.if_icmp .ge 7, 3) := by decide +kernel
theorem dY_readText_82 : decode mY_readText.2.1 82 = .ok (.aload_n 0, 1) := by decide +kernel
theorem dY_readText_83 : decode mY_readText.2.1 83 = .ok (.invokevirtual 192, 3) := by decide +kernel
theorem dY_readText_86 : decode mY_readText.2.1 86 = .ok (.aload_n 0, 1) := by decide +kernel
theorem dY_readText_87 : decode mY_readText.2.1 87 = .ok (.iconst 0, 1) := by decide +kernel
theorem dY_readText_88 : decode mY_readText.2.1 88 = .ok (.putfield 177, 3) := by decide +kernel
theorem dY_readText_91 : decode mY_readText.2.1 91 = .ok (.aload_n 0, 1) := by decide +kernel
theorem dY_readText_92 : decode mY_readText.2.1 92 = .ok (.getfield 183, 3) := by decide +kernel
theorem dY_readText_95 : decode mY_readText.2.1 95 = .ok (.ifCond .lt 8, 3) := by decide +kernel
theorem dY_readText_98 : decode mY_readText.2.1 98 = .ok (.aload_n 0, 1) := by decide +kernel
theorem dY_readText_99 : decode mY_readText.2.1 99 = .ok (.getfield 183, 3) := by decide +kernel
theorem dY_readText_102 : decode mY_readText.2.1 102 = .ok (.ireturn, 1) := by decide +kernel
theorem dY_readText_103 : decode mY_readText.2.1 103 = .ok (.iconst 0, 1) := by decide +kernel
theorem dY_readText_104 : decode mY_readText.2.1 104 = .ok (.istore_n 2, 1) := by decide +kernel
theorem dY_readText_105 : decode mY_readText.2.1 105 = .ok (.iload_n 2, 1) := by decide +kernel
theorem dY_readText_106 : decode mY_readText.2.1 106 = .ok (.aload_n 0, 1) := by decide +kernel
theorem dY_readText_107 : decode mY_readText.2.1 107 = .ok (.getfield 186, 3) := by decide +kernel
theorem dY_readText_110 : decode mY_readText.2.1 110 = .ok (.if_icmp .ge 53, 3) := by decide +kernel
theorem dY_readText_113 : decode mY_readText.2.1 113 = .ok (.aload_n 0, 1) := by decide +kernel
theorem dY_readText_114 : decode mY_readText.2.1 114 = .ok (.getfield 49, 3) := by decide +kernel
theorem dY_readText_117 : decode mY_readText.2.1 117 = .ok (.sipush 130, 3) := by decide +kernel
theorem dY_readText_120 : decode mY_readText.2.1 120 = .ok (.iload_n 1, 1) := by decide +kernel
theorem dY_readText_121 : decode mY_readText.2.1 121 = .ok (.imul, 1) := by decide +kernel
theorem dY_readText_122 : decode mY_readText.2.1 122 = .ok (.iload_n 2, 1) := by decide +kernel
theorem dY_readText_123 : decode mY_readText.2.1 123 = .ok (.iadd, 1) := by decide +kernel
theorem dY_readText_124 : decode mY_readText.2.1 124 = .ok (.aload_n 0, 1) := by decide +kernel
theorem dY_readText_125 : decode mY_readText.2.1 125 = .ok (.getfield 49, 3) := by decide +kernel
theorem dY_readText_128 : decode mY_readText.2.1 128 = .ok (.sipush 130, 3) := by decide +kernel
theorem dY_readText_131 : decode mY_readText.2.1 131 = .ok (.iload_n 2, 1) := by decide +kernel
theorem dY_readText_132 : decode mY_readText.2.1 132 = .ok (.iadd, 1) := by decide +kernel
theorem dY_readText_133 : decode mY_readText.2.1 133 = .ok (.baload, 1) := by decide +kernel
theorem dY_readText_134 : decode mY_readText.2.1 134 = .ok (.bastore, 1) := by decide +kernel
theorem dY_readText_135 : decode mY_readText.2.1 135 = .ok (.aload_n 0, 1) := by decide +kernel
theorem dY_readText_136 : decode mY_readText.2.1 136 = .ok (.getfield 52, 3) := by decide +kernel
theorem dY_readText_139 : decode mY_readText.2.1 139 = .ok (.sipush 130, 3) := by decide +kernel
theorem dY_readText_142 : decode mY_readText.2.1 142 = .ok (.iload_n 1, 1) := by decide +kernel
theorem dY_readText_143 : decode mY_readText.2.1 143 = .ok (.imul, 1) := by decide +kernel
theorem dY_readText_144 : decode mY_readText.2.1 144 = .ok (.iload_n 2, 1) := by decide +kernel
theorem dY_readText_145 : decode mY_readText.2.1 145 = .ok (.iadd, 1) := by decide +kernel
theorem dY_readText_146 : decode mY_readText.2.1 146 = .ok (.aload_n 0, 1) := by decide +kernel
theorem dY_readText_147 : decode mY_readText.2.1 147 = .ok (.getfield 52, 3) := by decide +kernel
theorem dY_readText_150 : decode mY_readText.2.1 150 = .ok (.sipush 130, 3) := by decide +kernel
theorem dY_readText_153 : decode mY_readText.2.1 153 = .ok (.iload_n 2, 1) := by decide +kernel
theorem dY_readText_154 : decode mY_readText.2.1 154 = .ok (.iadd, 1) := by decide +kernel
theorem dY_readText_155 : decode mY_readText.2.1 155 = .ok (.iaload, 1) := by decide +kernel
theorem dY_readText_156 : decode mY_readText.2.1 156 = .ok (.iastore, 1) := by decide +kernel
theorem dY_readText_157 : decode mY_readText.2.1 157 = .ok (.iinc 2 1, 3) := by decide +kernel
theorem dY_readText_160 : decode mY_readText.2.1 160 = .ok (.goto (-55), 3) := by decide +kernel
theorem dY_readText_163 : decode mY_readText.2.1 163 = .ok (.aload_n 0, 1) := by decide +kernel
theorem dY_readText_164 : decode mY_readText.2.1 164 = .ok (.getfield 55, 3) := by decide +kernel
theorem dY_readText_167 : decode mY_readText.2.1 167 = .ok (.iload_n 1, 1) := by decide +kernel
theorem dY_readText_168 : decode mY_readText.2.1 168 = .ok (.aload_n 0, 1) := by decide +kernel
theorem dY_readText_169 : decode mY_readText.2.1 169 = .ok (.getfield 55, 3) := by decide +kernel
theorem dY_readText_172 : decode mY_readText.2.1 172 = .ok (.iconst 1, 1) := by decide +kernel
theorem dY_readText_173 : decode mY_readText.2.1 173 = .ok (.iaload, 1) := by decide +kernel
theorem dY_readText_174 : decode mY_readText.2.1 174 = .ok (.iastore, 1) := by decide +kernel
theorem dY_readText_175 : decode mY_readText.2.1 175 = .ok (.iconst 0, 1) := by decide +kernel
theorem dY_readText_176 : decode mY_readText.2.1 176 = .ok (.istore_n 2, 1) := by decide +kernel
theorem dY_readText_177 : decode mY_readText.2.1 177 = .ok (.iload_n 2, 1) := by decide +kernel
theorem dY_readText_178 : decode mY_readText.2.1 178 = .ok (.aload_n 0, 1) := by decide +kernel
theorem dY_readText_179 : decode mY_readText.2.1 179 = .ok (.getfield 55, 3) := by decide +kernel
theorem dY_readText_182 : decode mY_readText.2.1 182 = .ok (.iload_n 1, 1) := by decide +kernel
theorem dY_readText_183 : decode mY_readText.2.1 183 = .ok (.iaload, 1) := by decide +kernel
theorem dY_readText_184 : decode mY_readText.2.1 184 = .ok (.if_icmp .ge 49, 3) := by decide +kernel
theorem dY_readText_187 : decode mY_readText.2.1 187 = .ok (.aload_n 0, 1) := by decide +kernel
theorem dY_readText_188 : decode mY_readText.2.1 188 = .ok (.getfield 58, 3) := by decide +kernel
theorem dY_readText_191 : decode mY_readText.2.1 191 = .ok (.bipush 61, 2) := by decide +kernel
theorem dY_readText_193 : decode mY_readText.2.1 193 = .ok (.iload_n 1, 1) := by decide +kernel
theorem dY_readText_194 : decode mY_readText.2.1 194 = .ok (.imul, 1) := by decide +kernel
theorem dY_readText_195 : decode mY_readText.2.1 195 = .ok (.iload_n 2, 1) := by decide +kernel
theorem dY_readText_196 : decode mY_readText.2.1 196 = .ok (.iadd, 1) := by decide +kernel
theorem dY_readText_197 : decode mY_readText.2.1 197 = .ok (.aload_n 0, 1) := by decide +kernel
theorem dY_readText_198 : decode mY_readText.2.1 198 = .ok (.getfield 58, 3) := by decide +kernel
theorem dY_readText_201 : decode mY_readText.2.1 201 = .ok (.bipush 61, 2) := by decide +kernel
theorem dY_readText_203 : decode mY_readText.2.1 203 = .ok (.iload_n 2, 1) := by decide +kernel
theorem dY_readText_204 : decode mY_readText.2.1 204 = .ok (.iadd, 1) := by decide +kernel
theorem dY_readText_205 : decode mY_readText.2.1 205 = .ok (.saload, 1) := by decide +kernel
theorem dY_readText_206 : decode mY_readText.2.1 206 = .ok (.sastore, 1) := by decide +kernel
theorem dY_readText_207 : decode mY_readText.2.1 207 = .ok (.aload_n 0, 1) := by decide +kernel
theorem dY_readText_208 : decode mY_readText.2.1 208 = .ok (.getfield 62, 3) := by decide +kernel
theorem dY_readText_211 : decode mY_readText.2.1 211 = .ok (.bipush 61, 2) := by decide +kernel
theorem dY_readText_213 : decode mY_readText.2.1 213 = .ok (.iload_n 1, 1) := by decide +kernel
theorem dY_readText_214 : decode mY_readText.2.1 214 = .ok (.imul, 1) := by decide +kernel
theorem dY_readText_215 : decode mY_readText.2.1 215 = .ok (.iload_n 2, 1) := by decide +kernel
theorem dY_readText_216 : decode mY_readText.2.1 216 = .ok (.iadd, 1) := by decide +kernel
theorem dY_readText_217 : decode mY_readText.2.1 217 = .ok (.aload_n 0, 1) := by decide +kernel
theorem dY_readText_218 : decode mY_readText.2.1 218 = .ok (.getfield 62, 3) := by decide +kernel
theorem dY_readText_221 : decode mY_readText.2.1 221 = .ok (.bipush 61, 2) := by decide +kernel
theorem dY_readText_223 : decode mY_readText.2.1 223 = .ok (.iload_n 2, 1) := by decide +kernel
theorem dY_readText_224 : decode mY_readText.2.1 224 = .ok (.iadd, 1) := by decide +kernel
theorem dY_readText_225 : decode mY_readText.2.1 225 = .ok (.saload, 1) := by decide +kernel
theorem dY_readText_226 : decode mY_readText.2.1 226 = .ok (.sastore, 1) := by decide +kernel
theorem dY_readText_227 : decode mY_readText.2.1 227 = .ok (.iinc 2 1, 3) := by decide +kernel
theorem dY_readText_230 : decode mY_readText.2.1 230 = .ok (.goto (-53), 3) := by decide +kernel
theorem dY_readText_233 : decode mY_readText.2.1 233 = .ok (.iconst (-1), 1) := by decide +kernel
theorem dY_readText_234 : decode mY_readText.2.1 234 = .ok (.ireturn, 1) := by decide +kernel
/- Y_readText: (I)I -/
set_option maxRecDepth 4000 in
theorem wY_readText {X : Cx} (a1 : Int) (sw : Bool) (m : Mem) (Q : Int → Bool → Mem → Prop) (h : M2 X 81 mY_line [vr 84] sw (upm (upm (upm (upm (upm m 84 17 0) 84 18 (-1)) 84 19 0) 84 20 0) 99 1 0) (fun z1 sw1 m1 => R2 X 82 mY_readText 31 [(0, vr 84), (1, vi a1)] [] sw1 m1 Q)) : M2 X 82 mY_readText [vr 84, vi a1] sw m Q := by
  refine Mt.of pY_readText (Nat.le_of_ble_eq_true rfl) (Nat.le_refl _) ?_
  show R2 X 82 mY_readText 0 [(0, vr 84), (1, vi a1)] [] sw m Q
  refine r_aload_n 0 0 rfl dY_readText_0 rfl ?_
  refine r_iconst dY_readText_1 ?_
  refine q_putI 17 c84 pfY_180 rfl rfl dY_readText_2 ?_
  refine r_aload_n 0 0 rfl dY_readText_5 rfl ?_
  refine r_iconst dY_readText_6 ?_
  refine q_putI 18 c84 pfY_183 rfl rfl dY_readText_7 ?_
  refine r_aload_n 0 0 rfl dY_readText_10 rfl ?_
  refine r_iconst dY_readText_11 ?_
  refine q_putI 19 c84 pfY_189 rfl rfl dY_readText_12 ?_
  refine r_aload_n 0 0 rfl dY_readText_15 rfl ?_
  refine r_iconst dY_readText_16 ?_
  refine q_putI 20 c84 pfY_186 rfl rfl dY_readText_17 ?_
  refine r_aload_n 0 0 rfl dY_readText_20 rfl ?_
  refine q_getR 23 c84 fY_55 rfl rfl (g84_23 sw) (by decide) dY_readText_21 ?_
  refine r_iconst dY_readText_24 ?_
  refine r_iconst dY_readText_25 ?_
  refine q_iastore 1 rfl c99 (by decide) dY_readText_26 ?_
  refine r_aload_n 0 0 rfl dY_readText_27 rfl ?_
  refine r_callVv 12 [] rfl c84 rfl rfl oY_line iY_line sY_line yY_232 (by decide) ⟨Nat.le_refl _, Nat.le_refl _⟩ rfl (Nat.le_of_ble_eq_true rfl) dY_readText_28 h (fun z1 r1 m1 h => ?_)
  obtain ⟨sw1, rfl, h⟩ := h
  refine r_sub [0, 1] ?_ h
  rfl
set_option maxRecDepth 4000 in
theorem wY_readText_31 {X : Cx} (x1 : Int) (sw : Bool) (m : Mem) (Q : Int → Bool → Mem → Prop) (h : ((0 ≤ w32 (m 84 18) → ((0 ≤ w32 (m 84 18) → ((w32 (m 84 18) < 0 → R2 X 82 mY_readText 105 [(0, vr 84), (1, vi x1), (2, vi 0)] [] sw (upm m 84 16 0) Q) ∧ (¬ (w32 (m 84 18) < 0) → Q (m 84 18) sw (upm m 84 16 0)))) ∧ (¬ (0 ≤ w32 (m 84 18)) → ((w32 (m 84 16) ≤ w32 (m 84 17) → ((w32 (m 84 18) < 0 → R2 X 82 mY_readText 105 [(0, vr 84), (1, vi x1), (2, vi 0)] [] sw (upm m 84 16 0) Q) ∧ (¬ (w32 (m 84 18) < 0) → Q (m 84 18) sw (upm m 84 16 0)))) ∧ (¬ (w32 (m 84 16) ≤ w32 (m 84 17)) → M2 X 1 mY_wrong [vr 84] sw m (fun z1 sw1 m1 => ((w32 (m1 84 18) < 0 → R2 X 82 mY_readText 105 [(0, vr 84), (1, vi x1), (2, vi 0)] [] sw1 (upm m1 84 16 0) Q) ∧ (¬ (w32 (m1 84 18) < 0) → Q (m1 84 18) sw1 (upm m1 84 16 0))))))))) ∧ (¬ (0 ≤ w32 (m 84 18)) → M2 X 1 mY_looksOn [vr 84] sw m (fun z2 sw2 m2 => ((¬ w32 z2 = 59 → ((0 ≤ w32 (m2 84 18) → ((w32 (m2 84 18) < 0 → R2 X 82 mY_readText 105 [(0, vr 84), (1, vi x1), (2, vi 0)] [] sw2 (upm m2 84 16 0) Q) ∧ (¬ (w32 (m2 84 18) < 0) → Q (m2 84 18) sw2 (upm m2 84 16 0)))) ∧ (¬ (0 ≤ w32 (m2 84 18)) → ((w32 (m2 84 16) ≤ w32 (m2 84 17) → ((w32 (m2 84 18) < 0 → R2 X 82 mY_readText 105 [(0, vr 84), (1, vi x1), (2, vi 0)] [] sw2 (upm m2 84 16 0) Q) ∧ (¬ (w32 (m2 84 18) < 0) → Q (m2 84 18) sw2 (upm m2 84 16 0)))) ∧ (¬ (w32 (m2 84 16) ≤ w32 (m2 84 17)) → M2 X 1 mY_wrong [vr 84] sw2 m2 (fun z3 sw3 m3 => ((w32 (m3 84 18) < 0 → R2 X 82 mY_readText 105 [(0, vr 84), (1, vi x1), (2, vi 0)] [] sw3 (upm m3 84 16 0) Q) ∧ (¬ (w32 (m3 84 18) < 0) → Q (m3 84 18) sw3 (upm m3 84 16 0))))))))) ∧ (¬ (¬ w32 z2 = 59) → M2 X 81 mY_line [vr 84] sw2 (upm m2 84 17 ((m2 84 17) + 1)) (fun z4 sw4 m4 => R2 X 82 mY_readText 31 [(0, vr 84), (1, vi x1)] [] sw4 m4 Q))))))) : R2 X 82 mY_readText 31 [(0, vr 84), (1, vi x1)] [] sw m Q := by
  refine r_aload_n 0 0 rfl dY_readText_31 rfl ?_
  refine q_getI 18 c84 fY_183 rfl rfl dY_readText_32 ?_
  refine r_if_ge (tgt := 64) dY_readText_35 (by decide) (fun hc => ?_) (fun hc => ?_)
  · replace h := h.1 hc
    refine r_aload_n 0 0 rfl dY_readText_64 rfl ?_
    refine q_getI 18 c84 fY_183 rfl rfl dY_readText_65 ?_
    refine r_if_ge (tgt := 86) dY_readText_68 (by decide) (fun hc => ?_) (fun hc => ?_)
    · replace h := h.1 hc
      refine r_aload_n 0 0 rfl dY_readText_86 rfl ?_
      refine r_iconst dY_readText_87 ?_
      refine q_putI 16 c84 pfY_177 rfl rfl dY_readText_88 ?_
      refine r_aload_n 0 0 rfl dY_readText_91 rfl ?_
      refine q_getI 18 c84 fY_183 rfl rfl dY_readText_92 ?_
      refine r_if_lt (tgt := 103) dY_readText_95 (by decide) (fun hc => ?_) (fun hc => ?_)
      · replace h := h.1 hc
        refine r_iconst dY_readText_103 ?_
        refine r_istore_n 2 (by decide) dY_readText_104 rfl ?_
        refine r_sub [1, 2, 0] ?_ h
        rfl
      · replace h := h.2 hc
        refine r_aload_n 0 0 rfl dY_readText_98 rfl ?_
        refine q_getI 18 c84 fY_183 rfl rfl dY_readText_99 ?_
        exact q_iret rfl h dY_readText_102
    · replace h := h.2 hc
      refine r_aload_n 0 0 rfl dY_readText_71 rfl ?_
      refine q_getI 17 c84 fY_180 rfl rfl dY_readText_72 ?_
      refine r_aload_n 0 0 rfl dY_readText_75 rfl ?_
      refine q_getI 16 c84 fY_177 rfl rfl dY_readText_76 ?_
      refine r_ifc_ge (tgt := 86) dY_readText_79 (by decide) (fun hc => ?_) (fun hc => ?_)
      · replace h := h.1 hc
        refine r_aload_n 0 0 rfl dY_readText_86 rfl ?_
        refine r_iconst dY_readText_87 ?_
        refine q_putI 16 c84 pfY_177 rfl rfl dY_readText_88 ?_
        refine r_aload_n 0 0 rfl dY_readText_91 rfl ?_
        refine q_getI 18 c84 fY_183 rfl rfl dY_readText_92 ?_
        refine r_if_lt (tgt := 103) dY_readText_95 (by decide) (fun hc => ?_) (fun hc => ?_)
        · replace h := h.1 hc
          refine r_iconst dY_readText_103 ?_
          refine r_istore_n 2 (by decide) dY_readText_104 rfl ?_
          refine r_sub [1, 2, 0] ?_ h
          rfl
        · replace h := h.2 hc
          refine r_aload_n 0 0 rfl dY_readText_98 rfl ?_
          refine q_getI 18 c84 fY_183 rfl rfl dY_readText_99 ?_
          exact q_iret rfl h dY_readText_102
      · replace h := h.2 hc
        refine r_aload_n 0 0 rfl dY_readText_82 rfl ?_
        refine r_callVv 12 [] rfl c84 rfl rfl oY_wrong iY_wrong sY_wrong yY_192 (by decide) ⟨Nat.le_refl _, Nat.le_refl _⟩ rfl (Nat.le_of_ble_eq_true rfl) dY_readText_83 h (fun z1 r1 m1 h => ?_)
        obtain ⟨sw1, rfl, h⟩ := h
        refine r_aload_n 0 0 rfl dY_readText_86 rfl ?_
        refine r_iconst dY_readText_87 ?_
        refine q_putI 16 c84 pfY_177 rfl rfl dY_readText_88 ?_
        refine r_aload_n 0 0 rfl dY_readText_91 rfl ?_
        refine q_getI 18 c84 fY_183 rfl rfl dY_readText_92 ?_
        refine r_if_lt (tgt := 103) dY_readText_95 (by decide) (fun hc => ?_) (fun hc => ?_)
        · replace h := h.1 hc
          refine r_iconst dY_readText_103 ?_
          refine r_istore_n 2 (by decide) dY_readText_104 rfl ?_
          refine r_sub [1, 2, 0] ?_ h
          rfl
        · replace h := h.2 hc
          refine r_aload_n 0 0 rfl dY_readText_98 rfl ?_
          refine q_getI 18 c84 fY_183 rfl rfl dY_readText_99 ?_
          exact q_iret rfl h dY_readText_102
  · replace h := h.2 hc
    refine r_aload_n 0 0 rfl dY_readText_38 rfl ?_
    refine r_callVi 12 [] rfl c84 rfl rfl oY_looksOn iY_looksOn sY_looksOn yY_195 (by decide) ⟨Nat.le_refl _, Nat.le_refl _⟩ rfl (Nat.le_of_ble_eq_true rfl) dY_readText_39 h (fun z2 r2 m2 h => ?_)
    obtain ⟨sw2, rfl, h⟩ := h
    refine r_bipush (by decide) dY_readText_42 ?_
    refine r_ifc_ne (tgt := 64) dY_readText_44 (by decide) (fun hc => ?_) (fun hc => ?_)
    · replace h := h.1 hc
      refine r_aload_n 0 0 rfl dY_readText_64 rfl ?_
      refine q_getI 18 c84 fY_183 rfl rfl dY_readText_65 ?_
      refine r_if_ge (tgt := 86) dY_readText_68 (by decide) (fun hc => ?_) (fun hc => ?_)
      · replace h := h.1 hc
        refine r_aload_n 0 0 rfl dY_readText_86 rfl ?_
        refine r_iconst dY_readText_87 ?_
        refine q_putI 16 c84 pfY_177 rfl rfl dY_readText_88 ?_
        refine r_aload_n 0 0 rfl dY_readText_91 rfl ?_
        refine q_getI 18 c84 fY_183 rfl rfl dY_readText_92 ?_
        refine r_if_lt (tgt := 103) dY_readText_95 (by decide) (fun hc => ?_) (fun hc => ?_)
        · replace h := h.1 hc
          refine r_iconst dY_readText_103 ?_
          refine r_istore_n 2 (by decide) dY_readText_104 rfl ?_
          refine r_sub [1, 2, 0] ?_ h
          rfl
        · replace h := h.2 hc
          refine r_aload_n 0 0 rfl dY_readText_98 rfl ?_
          refine q_getI 18 c84 fY_183 rfl rfl dY_readText_99 ?_
          exact q_iret rfl h dY_readText_102
      · replace h := h.2 hc
        refine r_aload_n 0 0 rfl dY_readText_71 rfl ?_
        refine q_getI 17 c84 fY_180 rfl rfl dY_readText_72 ?_
        refine r_aload_n 0 0 rfl dY_readText_75 rfl ?_
        refine q_getI 16 c84 fY_177 rfl rfl dY_readText_76 ?_
        refine r_ifc_ge (tgt := 86) dY_readText_79 (by decide) (fun hc => ?_) (fun hc => ?_)
        · replace h := h.1 hc
          refine r_aload_n 0 0 rfl dY_readText_86 rfl ?_
          refine r_iconst dY_readText_87 ?_
          refine q_putI 16 c84 pfY_177 rfl rfl dY_readText_88 ?_
          refine r_aload_n 0 0 rfl dY_readText_91 rfl ?_
          refine q_getI 18 c84 fY_183 rfl rfl dY_readText_92 ?_
          refine r_if_lt (tgt := 103) dY_readText_95 (by decide) (fun hc => ?_) (fun hc => ?_)
          · replace h := h.1 hc
            refine r_iconst dY_readText_103 ?_
            refine r_istore_n 2 (by decide) dY_readText_104 rfl ?_
            refine r_sub [1, 2, 0] ?_ h
            rfl
          · replace h := h.2 hc
            refine r_aload_n 0 0 rfl dY_readText_98 rfl ?_
            refine q_getI 18 c84 fY_183 rfl rfl dY_readText_99 ?_
            exact q_iret rfl h dY_readText_102
        · replace h := h.2 hc
          refine r_aload_n 0 0 rfl dY_readText_82 rfl ?_
          refine r_callVv 12 [] rfl c84 rfl rfl oY_wrong iY_wrong sY_wrong yY_192 (by decide) ⟨Nat.le_refl _, Nat.le_refl _⟩ rfl (Nat.le_of_ble_eq_true rfl) dY_readText_83 h (fun z3 r3 m3 h => ?_)
          obtain ⟨sw3, rfl, h⟩ := h
          refine r_aload_n 0 0 rfl dY_readText_86 rfl ?_
          refine r_iconst dY_readText_87 ?_
          refine q_putI 16 c84 pfY_177 rfl rfl dY_readText_88 ?_
          refine r_aload_n 0 0 rfl dY_readText_91 rfl ?_
          refine q_getI 18 c84 fY_183 rfl rfl dY_readText_92 ?_
          refine r_if_lt (tgt := 103) dY_readText_95 (by decide) (fun hc => ?_) (fun hc => ?_)
          · replace h := h.1 hc
            refine r_iconst dY_readText_103 ?_
            refine r_istore_n 2 (by decide) dY_readText_104 rfl ?_
            refine r_sub [1, 2, 0] ?_ h
            rfl
          · replace h := h.2 hc
            refine r_aload_n 0 0 rfl dY_readText_98 rfl ?_
            refine q_getI 18 c84 fY_183 rfl rfl dY_readText_99 ?_
            exact q_iret rfl h dY_readText_102
    · replace h := h.2 hc
      refine r_aload_n 0 0 rfl dY_readText_47 rfl ?_
      refine r_dup (fun q => by cases q) dY_readText_48 ?_
      refine q_getI 17 c84 fY_180 rfl rfl dY_readText_49 ?_
      refine r_iconst dY_readText_52 ?_
      refine r_iadd dY_readText_53 ?_
      refine q_putI 17 c84 pfY_180 rfl rfl dY_readText_54 ?_
      refine r_aload_n 0 0 rfl dY_readText_57 rfl ?_
      refine r_callVv 12 [] rfl c84 rfl rfl oY_line iY_line sY_line yY_232 (by decide) ⟨Nat.le_refl _, Nat.le_refl _⟩ rfl (Nat.le_of_ble_eq_true rfl) dY_readText_58 h (fun z4 r4 m4 h => ?_)
      obtain ⟨sw4, rfl, h⟩ := h
      refine r_goto (tgt := 31) dY_readText_61 (by decide) ?_
      refine r_sub [0, 1] ?_ h
      rfl
set_option maxRecDepth 4000 in
theorem wY_readText_105 {X : Cx} (x1 x2 : Int) (sw : Bool) (m : Mem) (Q : Int → Bool → Mem → Prop) (h : ((w32 (m 84 20) ≤ w32 x2 → ((0 ≤ w32 x1 ∧ w32 x1 < 2) ∧ R2 X 82 mY_readText 177 [(0, vr 84), (1, vi x1), (2, vi 0)] [] sw (upm m 99 (w32 x1) (m 99 1)) Q)) ∧ (¬ (w32 (m 84 20) ≤ w32 x2) → ((0 ≤ w32 (130 + x2) ∧ w32 (130 + x2) < 260) ∧ ((0 ≤ w32 ((130 * x1) + x2) ∧ w32 ((130 * x1) + x2) < 260) ∧ ((0 ≤ w32 (130 + x2) ∧ w32 (130 + x2) < 260) ∧ ((0 ≤ w32 ((130 * x1) + x2) ∧ w32 ((130 * x1) + x2) < 260) ∧ R2 X 82 mY_readText 105 [(0, vr 84), (1, vi x1), (2, vi (x2 + 1))] [] sw (upm (upm m 97 (w32 ((130 * x1) + x2)) (w8 (m 97 (w32 (130 + x2))))) 98 (w32 ((130 * x1) + x2)) (m 98 (w32 (130 + x2)))) Q))))))) : R2 X 82 mY_readText 105 [(0, vr 84), (1, vi x1), (2, vi x2)] [] sw m Q := by
  refine r_iload_n 2 2 rfl dY_readText_105 rfl ?_
  refine r_aload_n 0 0 rfl dY_readText_106 rfl ?_
  refine q_getI 20 c84 fY_186 rfl rfl dY_readText_107 ?_
  refine r_ifc_ge (tgt := 163) dY_readText_110 (by decide) (fun hc => ?_) (fun hc => ?_)
  · replace h := h.1 hc
    refine r_aload_n 0 0 rfl dY_readText_163 rfl ?_
    refine q_getR 23 c84 fY_55 rfl rfl (g84_23 sw) (by decide) dY_readText_164 ?_
    refine r_iload_n 1 1 rfl dY_readText_167 rfl ?_
    refine r_aload_n 0 0 rfl dY_readText_168 rfl ?_
    refine q_getR 23 c84 fY_55 rfl rfl (g84_23 sw) (by decide) dY_readText_169 ?_
    refine r_iconst dY_readText_172 ?_
    refine q_iaload 1 rfl c99 (by decide) dY_readText_173 ?_
    refine q_iastore (w32 x1) rfl c99 h.1 dY_readText_174 ?_
    replace h := h.2
    refine r_iconst dY_readText_175 ?_
    refine r_istore_n 2 (by decide) dY_readText_176 rfl ?_
    refine r_sub [1, 2, 0] ?_ h
    rfl
  · replace h := h.2 hc
    refine r_aload_n 0 0 rfl dY_readText_113 rfl ?_
    refine q_getR 21 c84 fY_49 rfl rfl (g84_21 sw) (by decide) dY_readText_114 ?_
    refine r_sipush (by decide) dY_readText_117 ?_
    refine r_iload_n 1 1 rfl dY_readText_120 rfl ?_
    refine r_imul dY_readText_121 ?_
    refine r_iload_n 2 2 rfl dY_readText_122 rfl ?_
    refine r_iadd dY_readText_123 ?_
    refine r_aload_n 0 0 rfl dY_readText_124 rfl ?_
    refine q_getR 21 c84 fY_49 rfl rfl (g84_21 sw) (by decide) dY_readText_125 ?_
    refine r_sipush (by decide) dY_readText_128 ?_
    refine r_iload_n 2 2 rfl dY_readText_131 rfl ?_
    refine r_iadd dY_readText_132 ?_
    refine q_baload (w32 (130 + x2)) rfl c97 h.1 dY_readText_133 ?_
    replace h := h.2
    refine q_bastore (w32 ((130 * x1) + x2)) rfl c97 h.1 dY_readText_134 ?_
    replace h := h.2
    refine r_aload_n 0 0 rfl dY_readText_135 rfl ?_
    refine q_getR 22 c84 fY_52 rfl rfl (g84_22 sw) (by decide) dY_readText_136 ?_
    refine r_sipush (by decide) dY_readText_139 ?_
    refine r_iload_n 1 1 rfl dY_readText_142 rfl ?_
    refine r_imul dY_readText_143 ?_
    refine r_iload_n 2 2 rfl dY_readText_144 rfl ?_
    refine r_iadd dY_readText_145 ?_
    refine r_aload_n 0 0 rfl dY_readText_146 rfl ?_
    refine q_getR 22 c84 fY_52 rfl rfl (g84_22 sw) (by decide) dY_readText_147 ?_
    refine r_sipush (by decide) dY_readText_150 ?_
    refine r_iload_n 2 2 rfl dY_readText_153 rfl ?_
    refine r_iadd dY_readText_154 ?_
    refine q_iaload (w32 (130 + x2)) rfl c98 h.1 dY_readText_155 ?_
    replace h := h.2
    refine q_iastore (w32 ((130 * x1) + x2)) rfl c98 h.1 dY_readText_156 ?_
    replace h := h.2
    refine r_iinc 2 2 rfl (by decide) dY_readText_157 ?_
    refine r_goto (tgt := 105) dY_readText_160 (by decide) ?_
    refine r_sub [1, 2, 0] ?_ h
    rfl
set_option maxRecDepth 4000 in
theorem wY_readText_177 {X : Cx} (x1 x2 : Int) (sw : Bool) (m : Mem) (Q : Int → Bool → Mem → Prop) (h : ((0 ≤ w32 x1 ∧ w32 x1 < 2) ∧ ((w32 (m 99 (w32 x1)) ≤ w32 x2 → Q (-1) sw m) ∧ (¬ (w32 (m 99 (w32 x1)) ≤ w32 x2) → ((0 ≤ w32 (61 + x2) ∧ w32 (61 + x2) < 122) ∧ ((0 ≤ w32 ((61 * x1) + x2) ∧ w32 ((61 * x1) + x2) < 122) ∧ ((0 ≤ w32 (61 + x2) ∧ w32 (61 + x2) < 122) ∧ ((0 ≤ w32 ((61 * x1) + x2) ∧ w32 ((61 * x1) + x2) < 122) ∧ R2 X 82 mY_readText 177 [(0, vr 84), (1, vi x1), (2, vi (x2 + 1))] [] sw (upm (upm m 100 (w32 ((61 * x1) + x2)) (w16 (m 100 (w32 (61 + x2))))) 101 (w32 ((61 * x1) + x2)) (w16 (m 101 (w32 (61 + x2))))) Q)))))))) : R2 X 82 mY_readText 177 [(0, vr 84), (1, vi x1), (2, vi x2)] [] sw m Q := by
  refine r_iload_n 2 2 rfl dY_readText_177 rfl ?_
  refine r_aload_n 0 0 rfl dY_readText_178 rfl ?_
  refine q_getR 23 c84 fY_55 rfl rfl (g84_23 sw) (by decide) dY_readText_179 ?_
  refine r_iload_n 1 1 rfl dY_readText_182 rfl ?_
  refine q_iaload (w32 x1) rfl c99 h.1 dY_readText_183 ?_
  replace h := h.2
  refine r_ifc_ge (tgt := 233) dY_readText_184 (by decide) (fun hc => ?_) (fun hc => ?_)
  · replace h := h.1 hc
    refine r_iconst dY_readText_233 ?_
    exact q_iret rfl h dY_readText_234
  · replace h := h.2 hc
    refine r_aload_n 0 0 rfl dY_readText_187 rfl ?_
    refine q_getR 24 c84 fY_58 rfl rfl (g84_24 sw) (by decide) dY_readText_188 ?_
    refine r_bipush (by decide) dY_readText_191 ?_
    refine r_iload_n 1 1 rfl dY_readText_193 rfl ?_
    refine r_imul dY_readText_194 ?_
    refine r_iload_n 2 2 rfl dY_readText_195 rfl ?_
    refine r_iadd dY_readText_196 ?_
    refine r_aload_n 0 0 rfl dY_readText_197 rfl ?_
    refine q_getR 24 c84 fY_58 rfl rfl (g84_24 sw) (by decide) dY_readText_198 ?_
    refine r_bipush (by decide) dY_readText_201 ?_
    refine r_iload_n 2 2 rfl dY_readText_203 rfl ?_
    refine r_iadd dY_readText_204 ?_
    refine q_saload (w32 (61 + x2)) rfl c100 h.1 dY_readText_205 ?_
    replace h := h.2
    refine q_sastore (w32 ((61 * x1) + x2)) rfl c100 h.1 dY_readText_206 ?_
    replace h := h.2
    refine r_aload_n 0 0 rfl dY_readText_207 rfl ?_
    refine q_getR 25 c84 fY_62 rfl rfl (g84_25 sw) (by decide) dY_readText_208 ?_
    refine r_bipush (by decide) dY_readText_211 ?_
    refine r_iload_n 1 1 rfl dY_readText_213 rfl ?_
    refine r_imul dY_readText_214 ?_
    refine r_iload_n 2 2 rfl dY_readText_215 rfl ?_
    refine r_iadd dY_readText_216 ?_
    refine r_aload_n 0 0 rfl dY_readText_217 rfl ?_
    refine q_getR 25 c84 fY_62 rfl rfl (g84_25 sw) (by decide) dY_readText_218 ?_
    refine r_bipush (by decide) dY_readText_221 ?_
    refine r_iload_n 2 2 rfl dY_readText_223 rfl ?_
    refine r_iadd dY_readText_224 ?_
    refine q_saload (w32 (61 + x2)) rfl c101 h.1 dY_readText_225 ?_
    replace h := h.2
    refine q_sastore (w32 ((61 * x1) + x2)) rfl c101 h.1 dY_readText_226 ?_
    replace h := h.2
    refine r_iinc 2 2 rfl (by decide) dY_readText_227 ?_
    refine r_goto (tgt := 177) dY_readText_230 (by decide) ?_
    refine r_sub [1, 2, 0] ?_ h
    rfl
theorem dY_twoOf_0 : decode mY_twoOf.2.1 0 = .ok (.iload_n 0, 1) := by decide +kernel
theorem dY_twoOf_1 : decode mY_twoOf.2.1 1 = .ok (.tableswitch 217 37 62 #[153, 203, 217, 217, 217, 127, 119, 217, 123, 217, 131, 217, 217, 217, 217, 217, 217, 217, 217, 217, 217, 217, 217, 170, 181, 192], 119) := by decide +kernel
theorem dY_twoOf_120 : decode mY_twoOf.2.1 120 = .ok (.iload_n 1, 1) := by decide +kernel
theorem dY_twoOf_121 : decode mY_twoOf.2.1 121 = .ok (.iload_n 2, 1) := by decide +kernel
theorem dY_twoOf_122 : decode mY_twoOf.2.1 122 = .ok (.iadd, 1) := by decide +kernel
theorem dY_twoOf_123 : decode mY_twoOf.2.1 123 = .ok (.ireturn, 1) := by decide +kernel
theorem dY_twoOf_124 : decode mY_twoOf.2.1 124 = .ok (.iload_n 1, 1) := by decide +kernel
theorem dY_twoOf_125 : decode mY_twoOf.2.1 125 = .ok (.iload_n 2, 1) := by decide +kernel
theorem dY_twoOf_126 : decode mY_twoOf.2.1 126 = .ok (.isub, 1) := by decide +kernel
theorem dY_twoOf_127 : decode mY_twoOf.2.1 127 = .ok (.ireturn, 1) := by decide +kernel
theorem dY_twoOf_128 : decode mY_twoOf.2.1 128 = .ok (.iload_n 1, 1) := by decide +kernel
theorem dY_twoOf_129 : decode mY_twoOf.2.1 129 = .ok (.iload_n 2, 1) := by decide +kernel
theorem dY_twoOf_130 : decode mY_twoOf.2.1 130 = .ok (.imul, 1) := by decide +kernel
theorem dY_twoOf_131 : decode mY_twoOf.2.1 131 = .ok (.ireturn, 1) := by decide +kernel
theorem dY_twoOf_132 : decode mY_twoOf.2.1 132 = .ok (.iload_n 2, 1) := by decide +kernel
theorem dY_twoOf_133 : decode mY_twoOf.2.1 133 = .ok (.ifCond .ne 7, 3) := by decide +kernel
theorem dY_twoOf_136 : decode mY_twoOf.2.1 136 = .ok (.iconst 0, 1) := by decide +kernel
theorem dY_twoOf_137 : decode mY_twoOf.2.1 137 = .ok (.goto 16, 3) := by decide +kernel
theorem dY_twoOf_140 : decode mY_twoOf.2.1 140 = .ok (.iload_n 2, 1) := by decide +kernel
theorem dY_twoOf_141 : decode mY_twoOf.2.1 141 = .ok (.iconst (-1), 1) := by decide +kernel
theorem dY_twoOf_142 : decode mY_twoOf.2.1 142 = .ok (.if_icmp .ne 8, 3) := by decide +kernel
theorem dY_twoOf_145 : decode mY_twoOf.2.1 145 = .ok (.iload_n 1, 1) := by decide +kernel
theorem dY_twoOf_146 : decode mY_twoOf.2.1 146 = .ok (.ineg, 1) := by decide +kernel
theorem dY_twoOf_147 : decode mY_twoOf.2.1 147 = .ok (.goto 6, 3) := by decide +kernel
theorem dY_twoOf_150 : decode mY_twoOf.2.1 150 = .ok (.iload_n 1, 1) := by decide +kernel
theorem dY_twoOf_151 : decode mY_twoOf.2.1 151 = .ok (.iload_n 2, 1) := by decide +kernel
theorem dY_twoOf_152 : decode mY_twoOf.2.1 152 = .ok (.idiv, 1) := by decide +kernel
theorem dY_twoOf_153 : decode mY_twoOf.2.1 153 = .ok (.ireturn, 1) := by decide +kernel
theorem dY_twoOf_154 : decode mY_twoOf.2.1 154 = .ok (.iload_n 2, 1) := by decide +kernel
theorem dY_twoOf_155 : decode mY_twoOf.2.1 155 = .ok (.ifCond .eq 8, 3) := by decide +kernel
theorem dY_twoOf_158 : decode mY_twoOf.2.1 158 = .ok (.iload_n 2, 1) := by decide +kernel
theorem dY_twoOf_159 : decode mY_twoOf.2.1 159 = .ok (.iconst (-1), 1) := by decide +kernel
theorem dY_twoOf_160 : decode mY_twoOf.2.1 160 = .ok (.if_icmp .ne 7, 3) := by decide +kernel
theorem dY_twoOf_163 : decode mY_twoOf.2.1 163 = .ok (.iconst 0, 1) := by decide +kernel
theorem dY_twoOf_164 : decode mY_twoOf.2.1 164 = .ok (.goto 6, 3) := by decide +kernel
theorem dY_twoOf_167 : decode mY_twoOf.2.1 167 = .ok (.iload_n 1, 1) := by decide +kernel
theorem dY_twoOf_168 : decode mY_twoOf.2.1 168 = .ok (.iload_n 2, 1) := by decide +kernel
theorem dY_twoOf_169 : decode mY_twoOf.2.1 169 = .ok (.irem, 1) := by decide +kernel
theorem dY_twoOf_170 : decode mY_twoOf.2.1 170 = .ok (.ireturn, 1) := by decide +kernel
theorem dY_twoOf_171 : decode mY_twoOf.2.1 171 = .ok (.iload_n 1, 1) := by decide +kernel
theorem dY_twoOf_172 : decode mY_twoOf.2.1 172 = .ok (.iload_n 2, 1) := by decide +kernel
theorem dY_twoOf_173 : decode mY_twoOf.2.1 173 = .ok (.if_icmp .ge 7, 3) := by decide +kernel
theorem dY_twoOf_176 : decode mY_twoOf.2.1 176 = .ok (.iconst 1, 1) := by decide +kernel
theorem dY_twoOf_177 : decode mY_twoOf.2.1 177 = .ok (.goto 4, 3) := by decide +kernel
theorem dY_twoOf_180 : decode mY_twoOf.2.1 180 = .ok (.iconst 0, 1) := by decide +kernel
theorem dY_twoOf_181 : decode mY_twoOf.2.1 181 = .ok (.ireturn, 1) := by decide +kernel
theorem dY_twoOf_182 : decode mY_twoOf.2.1 182 = .ok (.iload_n 1, 1) := by decide +kernel
theorem dY_twoOf_183 : decode mY_twoOf.2.1 183 = .ok (.iload_n 2, 1) := by decide +kernel
theorem dY_twoOf_184 : decode mY_twoOf.2.1 184 = .ok (.if_icmp .ne 7, 3) := by decide +kernel
theorem dY_twoOf_187 : decode mY_twoOf.2.1 187 = .ok (.iconst 1, 1) := by decide +kernel
theorem dY_twoOf_188 : decode mY_twoOf.2.1 188 = .ok (.goto 4, 3) := by decide +kernel
theorem dY_twoOf_191 : decode mY_twoOf.2.1 191 = .ok (.iconst 0, 1) := by decide +kernel
theorem dY_twoOf_192 : decode mY_twoOf.2.1 192 = .ok (.ireturn, 1) := by decide +kernel
theorem dY_twoOf_193 : decode mY_twoOf.2.1 193 = .ok (.iload_n 1, 1) := by decide +kernel
theorem dY_twoOf_194 : decode mY_twoOf.2.1 194 = .ok (.iload_n 2, 1) := by decide +kernel
theorem dY_twoOf_195 : decode mY_twoOf.2.1 195 = .ok (.if_icmp .le 7, 3) := by decide +kernel
theorem dY_twoOf_198 : decode mY_twoOf.2.1 198 = .ok (.iconst 1, 1) := by decide +kernel
theorem dY_twoOf_199 : decode mY_twoOf.2.1 199 = .ok (.goto 4, 3) := by decide +kernel
theorem dY_twoOf_202 : decode mY_twoOf.2.1 202 = .ok (.iconst 0, 1) := by decide +kernel
theorem dY_twoOf_203 : decode mY_twoOf.2.1 203 = .ok (.ireturn, 1) := by decide +kernel
theorem dY_twoOf_204 : decode mY_twoOf.2.1 204 = .ok (.iload_n 1, 1) := by decide +kernel
theorem dY_twoOf_205 : decode mY_twoOf.2.1 205 = .ok (.ifCond .eq 11, 3) := by decide +kernel
theorem dY_twoOf_208 : decode mY_twoOf.2.1 208 = .ok (.iload_n 2, 1) := by decide +kernel
theorem dY_twoOf_209 : decode mY_twoOf.2.1 209 = .ok (.ifCond .eq 7, 3) := by decide +kernel
theorem dY_twoOf_212 : decode mY_twoOf.2.1 212 = .ok (.iconst 1, 1) := by decide +kernel
theorem dY_twoOf_213 : decode mY_twoOf.2.1 213 = .ok (.goto 4, 3) := by decide +kernel
theorem dY_twoOf_216 : decode mY_twoOf.2.1 216 = .ok (.iconst 0, 1) := by decide +kernel
theorem dY_twoOf_217 : decode mY_twoOf.2.1 217 = .ok (.ireturn, 1) := by decide +kernel
theorem dY_twoOf_218 : decode mY_twoOf.2.1 218 = .ok (.iload_n 1, 1) := by decide +kernel
theorem dY_twoOf_219 : decode mY_twoOf.2.1 219 = .ok (.ifCond .ne 7, 3) := by decide +kernel
theorem dY_twoOf_222 : decode mY_twoOf.2.1 222 = .ok (.iload_n 2, 1) := by decide +kernel
theorem dY_twoOf_223 : decode mY_twoOf.2.1 223 = .ok (.ifCond .eq 7, 3) := by decide +kernel
theorem dY_twoOf_226 : decode mY_twoOf.2.1 226 = .ok (.iconst 1, 1) := by decide +kernel
theorem dY_twoOf_227 : decode mY_twoOf.2.1 227 = .ok (.goto 4, 3) := by decide +kernel
theorem dY_twoOf_230 : decode mY_twoOf.2.1 230 = .ok (.iconst 0, 1) := by decide +kernel
theorem dY_twoOf_231 : decode mY_twoOf.2.1 231 = .ok (.ireturn, 1) := by decide +kernel
/- Y_twoOf: (III)I -/
set_option maxRecDepth 4000 in
theorem wY_twoOf {X : Cx} (a0 a1 a2 : Int) (sw : Bool) (m : Mem) (Q : Int → Bool → Mem → Prop) (h : ((w32 a0 = 37 → ((w32 a2 = 0 → Q 0 sw m) ∧ (¬ (w32 a2 = 0) → ((¬ w32 a2 = (-1) → (¬ w32 a2 = 0 ∧ Q (zrem a1 a2) sw m)) ∧ (¬ (¬ w32 a2 = (-1)) → Q 0 sw m))))) ∧ ((w32 a0 = 38 → ((w32 a1 = 0 → Q 0 sw m) ∧ (¬ (w32 a1 = 0) → ((w32 a2 = 0 → Q 0 sw m) ∧ (¬ (w32 a2 = 0) → Q 1 sw m))))) ∧ ((w32 a0 = 39 → ((¬ w32 a1 = 0 → Q 1 sw m) ∧ (¬ (¬ w32 a1 = 0) → ((w32 a2 = 0 → Q 0 sw m) ∧ (¬ (w32 a2 = 0) → Q 1 sw m))))) ∧ ((w32 a0 = 40 → ((¬ w32 a1 = 0 → Q 1 sw m) ∧ (¬ (¬ w32 a1 = 0) → ((w32 a2 = 0 → Q 0 sw m) ∧ (¬ (w32 a2 = 0) → Q 1 sw m))))) ∧ ((w32 a0 = 41 → ((¬ w32 a1 = 0 → Q 1 sw m) ∧ (¬ (¬ w32 a1 = 0) → ((w32 a2 = 0 → Q 0 sw m) ∧ (¬ (w32 a2 = 0) → Q 1 sw m))))) ∧ ((w32 a0 = 42 → Q (a1 * a2) sw m) ∧ ((w32 a0 = 43 → Q (a1 + a2) sw m) ∧ ((w32 a0 = 44 → ((¬ w32 a1 = 0 → Q 1 sw m) ∧ (¬ (¬ w32 a1 = 0) → ((w32 a2 = 0 → Q 0 sw m) ∧ (¬ (w32 a2 = 0) → Q 1 sw m))))) ∧ ((w32 a0 = 45 → Q (a1 - a2) sw m) ∧ ((w32 a0 = 46 → ((¬ w32 a1 = 0 → Q 1 sw m) ∧ (¬ (¬ w32 a1 = 0) → ((w32 a2 = 0 → Q 0 sw m) ∧ (¬ (w32 a2 = 0) → Q 1 sw m))))) ∧ ((w32 a0 = 47 → ((¬ w32 a2 = 0 → ((¬ w32 a2 = (-1) → (¬ w32 a2 = 0 ∧ Q (zdiv a1 a2) sw m)) ∧ (¬ (¬ w32 a2 = (-1)) → Q (-a1) sw m))) ∧ (¬ (¬ w32 a2 = 0) → Q 0 sw m))) ∧ ((w32 a0 = 48 → ((¬ w32 a1 = 0 → Q 1 sw m) ∧ (¬ (¬ w32 a1 = 0) → ((w32 a2 = 0 → Q 0 sw m) ∧ (¬ (w32 a2 = 0) → Q 1 sw m))))) ∧ ((w32 a0 = 49 → ((¬ w32 a1 = 0 → Q 1 sw m) ∧ (¬ (¬ w32 a1 = 0) → ((w32 a2 = 0 → Q 0 sw m) ∧ (¬ (w32 a2 = 0) → Q 1 sw m))))) ∧ ((w32 a0 = 50 → ((¬ w32 a1 = 0 → Q 1 sw m) ∧ (¬ (¬ w32 a1 = 0) → ((w32 a2 = 0 → Q 0 sw m) ∧ (¬ (w32 a2 = 0) → Q 1 sw m))))) ∧ ((w32 a0 = 51 → ((¬ w32 a1 = 0 → Q 1 sw m) ∧ (¬ (¬ w32 a1 = 0) → ((w32 a2 = 0 → Q 0 sw m) ∧ (¬ (w32 a2 = 0) → Q 1 sw m))))) ∧ ((w32 a0 = 52 → ((¬ w32 a1 = 0 → Q 1 sw m) ∧ (¬ (¬ w32 a1 = 0) → ((w32 a2 = 0 → Q 0 sw m) ∧ (¬ (w32 a2 = 0) → Q 1 sw m))))) ∧ ((w32 a0 = 53 → ((¬ w32 a1 = 0 → Q 1 sw m) ∧ (¬ (¬ w32 a1 = 0) → ((w32 a2 = 0 → Q 0 sw m) ∧ (¬ (w32 a2 = 0) → Q 1 sw m))))) ∧ ((w32 a0 = 54 → ((¬ w32 a1 = 0 → Q 1 sw m) ∧ (¬ (¬ w32 a1 = 0) → ((w32 a2 = 0 → Q 0 sw m) ∧ (¬ (w32 a2 = 0) → Q 1 sw m))))) ∧ ((w32 a0 = 55 → ((¬ w32 a1 = 0 → Q 1 sw m) ∧ (¬ (¬ w32 a1 = 0) → ((w32 a2 = 0 → Q 0 sw m) ∧ (¬ (w32 a2 = 0) → Q 1 sw m))))) ∧ ((w32 a0 = 56 → ((¬ w32 a1 = 0 → Q 1 sw m) ∧ (¬ (¬ w32 a1 = 0) → ((w32 a2 = 0 → Q 0 sw m) ∧ (¬ (w32 a2 = 0) → Q 1 sw m))))) ∧ ((w32 a0 = 57 → ((¬ w32 a1 = 0 → Q 1 sw m) ∧ (¬ (¬ w32 a1 = 0) → ((w32 a2 = 0 → Q 0 sw m) ∧ (¬ (w32 a2 = 0) → Q 1 sw m))))) ∧ ((w32 a0 = 58 → ((¬ w32 a1 = 0 → Q 1 sw m) ∧ (¬ (¬ w32 a1 = 0) → ((w32 a2 = 0 → Q 0 sw m) ∧ (¬ (w32 a2 = 0) → Q 1 sw m))))) ∧ ((w32 a0 = 59 → ((¬ w32 a1 = 0 → Q 1 sw m) ∧ (¬ (¬ w32 a1 = 0) → ((w32 a2 = 0 → Q 0 sw m) ∧ (¬ (w32 a2 = 0) → Q 1 sw m))))) ∧ ((w32 a0 = 60 → ((w32 a2 ≤ w32 a1 → Q 0 sw m) ∧ (¬ (w32 a2 ≤ w32 a1) → Q 1 sw m))) ∧ ((w32 a0 = 61 → ((¬ w32 a1 = w32 a2 → Q 0 sw m) ∧ (¬ (¬ w32 a1 = w32 a2) → Q 1 sw m))) ∧ ((w32 a0 = 62 → ((w32 a1 ≤ w32 a2 → Q 0 sw m) ∧ (¬ (w32 a1 ≤ w32 a2) → Q 1 sw m))) ∧ ((w32 a0 < 37 ∨ 62 < w32 a0) → ((¬ w32 a1 = 0 → Q 1 sw m) ∧ (¬ (¬ w32 a1 = 0) → ((w32 a2 = 0 → Q 0 sw m) ∧ (¬ (w32 a2 = 0) → Q 1 sw m)))))))))))))))))))))))))))))))) : M2 X 1 mY_twoOf [vi a0, vi a1, vi a2] sw m Q := by
  refine Mt.of pY_twoOf (Nat.le_of_ble_eq_true rfl) (Nat.le_refl _) ?_
  show R2 X 1 mY_twoOf 0 [(0, vi a0), (1, vi a1), (2, vi a2)] [] sw m Q
  refine r_iload_n 0 0 rfl dY_twoOf_0 rfl ?_
  by_cases hs0 : w32 a0 = 37
  · refine r_tabIn (off := 153) (tgt := 154) 37 hs0 dY_twoOf_1 (by decide) (by decide) (by decide) (by decide) ?_
    replace h := h.1 hs0
    refine r_iload_n 2 2 rfl dY_twoOf_154 rfl ?_
    refine r_if_eq (tgt := 163) dY_twoOf_155 (by decide) (fun hc => ?_) (fun hc => ?_)
    · replace h := h.1 hc
      refine r_iconst dY_twoOf_163 ?_
      refine r_goto (tgt := 170) dY_twoOf_164 (by decide) ?_
      exact q_iret rfl h dY_twoOf_170
    · replace h := h.2 hc
      refine r_iload_n 2 2 rfl dY_twoOf_158 rfl ?_
      refine r_iconst dY_twoOf_159 ?_
      refine r_ifc_ne (tgt := 167) dY_twoOf_160 (by decide) (fun hc => ?_) (fun hc => ?_)
      · replace h := h.1 hc
        refine r_iload_n 1 1 rfl dY_twoOf_167 rfl ?_
        refine r_iload_n 2 2 rfl dY_twoOf_168 rfl ?_
        refine r_irem h.1 dY_twoOf_169 ?_
        replace h := h.2
        exact q_iret rfl h dY_twoOf_170
      · replace h := h.2 hc
        refine r_iconst dY_twoOf_163 ?_
        refine r_goto (tgt := 170) dY_twoOf_164 (by decide) ?_
        exact q_iret rfl h dY_twoOf_170
  · replace h := h.2
    by_cases hs1 : w32 a0 = 38
    · refine r_tabIn (off := 203) (tgt := 204) 38 hs1 dY_twoOf_1 (by decide) (by decide) (by decide) (by decide) ?_
      replace h := h.1 hs1
      refine r_iload_n 1 1 rfl dY_twoOf_204 rfl ?_
      refine r_if_eq (tgt := 216) dY_twoOf_205 (by decide) (fun hc => ?_) (fun hc => ?_)
      · replace h := h.1 hc
        refine r_iconst dY_twoOf_216 ?_
        exact q_iret rfl h dY_twoOf_217
      · replace h := h.2 hc
        refine r_iload_n 2 2 rfl dY_twoOf_208 rfl ?_
        refine r_if_eq (tgt := 216) dY_twoOf_209 (by decide) (fun hc => ?_) (fun hc => ?_)
        · replace h := h.1 hc
          refine r_iconst dY_twoOf_216 ?_
          exact q_iret rfl h dY_twoOf_217
        · replace h := h.2 hc
          refine r_iconst dY_twoOf_212 ?_
          refine r_goto (tgt := 217) dY_twoOf_213 (by decide) ?_
          exact q_iret rfl h dY_twoOf_217
    · replace h := h.2
      by_cases hs2 : w32 a0 = 39
      · refine r_tabIn (off := 217) (tgt := 218) 39 hs2 dY_twoOf_1 (by decide) (by decide) (by decide) (by decide) ?_
        replace h := h.1 hs2
        refine r_iload_n 1 1 rfl dY_twoOf_218 rfl ?_
        refine r_if_ne (tgt := 226) dY_twoOf_219 (by decide) (fun hc => ?_) (fun hc => ?_)
        · replace h := h.1 hc
          refine r_iconst dY_twoOf_226 ?_
          refine r_goto (tgt := 231) dY_twoOf_227 (by decide) ?_
          exact q_iret rfl h dY_twoOf_231
        · replace h := h.2 hc
          refine r_iload_n 2 2 rfl dY_twoOf_222 rfl ?_
          refine r_if_eq (tgt := 230) dY_twoOf_223 (by decide) (fun hc => ?_) (fun hc => ?_)
          · replace h := h.1 hc
            refine r_iconst dY_twoOf_230 ?_
            exact q_iret rfl h dY_twoOf_231
          · replace h := h.2 hc
            refine r_iconst dY_twoOf_226 ?_
            refine r_goto (tgt := 231) dY_twoOf_227 (by decide) ?_
            exact q_iret rfl h dY_twoOf_231
      · replace h := h.2
        by_cases hs3 : w32 a0 = 40
        · refine r_tabIn (off := 217) (tgt := 218) 40 hs3 dY_twoOf_1 (by decide) (by decide) (by decide) (by decide) ?_
          replace h := h.1 hs3
          refine r_iload_n 1 1 rfl dY_twoOf_218 rfl ?_
          refine r_if_ne (tgt := 226) dY_twoOf_219 (by decide) (fun hc => ?_) (fun hc => ?_)
          · replace h := h.1 hc
            refine r_iconst dY_twoOf_226 ?_
            refine r_goto (tgt := 231) dY_twoOf_227 (by decide) ?_
            exact q_iret rfl h dY_twoOf_231
          · replace h := h.2 hc
            refine r_iload_n 2 2 rfl dY_twoOf_222 rfl ?_
            refine r_if_eq (tgt := 230) dY_twoOf_223 (by decide) (fun hc => ?_) (fun hc => ?_)
            · replace h := h.1 hc
              refine r_iconst dY_twoOf_230 ?_
              exact q_iret rfl h dY_twoOf_231
            · replace h := h.2 hc
              refine r_iconst dY_twoOf_226 ?_
              refine r_goto (tgt := 231) dY_twoOf_227 (by decide) ?_
              exact q_iret rfl h dY_twoOf_231
        · replace h := h.2
          by_cases hs4 : w32 a0 = 41
          · refine r_tabIn (off := 217) (tgt := 218) 41 hs4 dY_twoOf_1 (by decide) (by decide) (by decide) (by decide) ?_
            replace h := h.1 hs4
            refine r_iload_n 1 1 rfl dY_twoOf_218 rfl ?_
            refine r_if_ne (tgt := 226) dY_twoOf_219 (by decide) (fun hc => ?_) (fun hc => ?_)
            · replace h := h.1 hc
              refine r_iconst dY_twoOf_226 ?_
              refine r_goto (tgt := 231) dY_twoOf_227 (by decide) ?_
              exact q_iret rfl h dY_twoOf_231
            · replace h := h.2 hc
              refine r_iload_n 2 2 rfl dY_twoOf_222 rfl ?_
              refine r_if_eq (tgt := 230) dY_twoOf_223 (by decide) (fun hc => ?_) (fun hc => ?_)
              · replace h := h.1 hc
                refine r_iconst dY_twoOf_230 ?_
                exact q_iret rfl h dY_twoOf_231
              · replace h := h.2 hc
                refine r_iconst dY_twoOf_226 ?_
                refine r_goto (tgt := 231) dY_twoOf_227 (by decide) ?_
                exact q_iret rfl h dY_twoOf_231
          · replace h := h.2
            by_cases hs5 : w32 a0 = 42
            · refine r_tabIn (off := 127) (tgt := 128) 42 hs5 dY_twoOf_1 (by decide) (by decide) (by decide) (by decide) ?_
              replace h := h.1 hs5
              refine r_iload_n 1 1 rfl dY_twoOf_128 rfl ?_
              refine r_iload_n 2 2 rfl dY_twoOf_129 rfl ?_
              refine r_imul dY_twoOf_130 ?_
              exact q_iret rfl h dY_twoOf_131
            · replace h := h.2
              by_cases hs6 : w32 a0 = 43
              · refine r_tabIn (off := 119) (tgt := 120) 43 hs6 dY_twoOf_1 (by decide) (by decide) (by decide) (by decide) ?_
                replace h := h.1 hs6
                refine r_iload_n 1 1 rfl dY_twoOf_120 rfl ?_
                refine r_iload_n 2 2 rfl dY_twoOf_121 rfl ?_
                refine r_iadd dY_twoOf_122 ?_
                exact q_iret rfl h dY_twoOf_123
              · replace h := h.2
                by_cases hs7 : w32 a0 = 44
                · refine r_tabIn (off := 217) (tgt := 218) 44 hs7 dY_twoOf_1 (by decide) (by decide) (by decide) (by decide) ?_
                  replace h := h.1 hs7
                  refine r_iload_n 1 1 rfl dY_twoOf_218 rfl ?_
                  refine r_if_ne (tgt := 226) dY_twoOf_219 (by decide) (fun hc => ?_) (fun hc => ?_)
                  · replace h := h.1 hc
                    refine r_iconst dY_twoOf_226 ?_
                    refine r_goto (tgt := 231) dY_twoOf_227 (by decide) ?_
                    exact q_iret rfl h dY_twoOf_231
                  · replace h := h.2 hc
                    refine r_iload_n 2 2 rfl dY_twoOf_222 rfl ?_
                    refine r_if_eq (tgt := 230) dY_twoOf_223 (by decide) (fun hc => ?_) (fun hc => ?_)
                    · replace h := h.1 hc
                      refine r_iconst dY_twoOf_230 ?_
                      exact q_iret rfl h dY_twoOf_231
                    · replace h := h.2 hc
                      refine r_iconst dY_twoOf_226 ?_
                      refine r_goto (tgt := 231) dY_twoOf_227 (by decide) ?_
                      exact q_iret rfl h dY_twoOf_231
                · replace h := h.2
                  by_cases hs8 : w32 a0 = 45
                  · refine r_tabIn (off := 123) (tgt := 124) 45 hs8 dY_twoOf_1 (by decide) (by decide) (by decide) (by decide) ?_
                    replace h := h.1 hs8
                    refine r_iload_n 1 1 rfl dY_twoOf_124 rfl ?_
                    refine r_iload_n 2 2 rfl dY_twoOf_125 rfl ?_
                    refine r_isub dY_twoOf_126 ?_
                    exact q_iret rfl h dY_twoOf_127
                  · replace h := h.2
                    by_cases hs9 : w32 a0 = 46
                    · refine r_tabIn (off := 217) (tgt := 218) 46 hs9 dY_twoOf_1 (by decide) (by decide) (by decide) (by decide) ?_
                      replace h := h.1 hs9
                      refine r_iload_n 1 1 rfl dY_twoOf_218 rfl ?_
                      refine r_if_ne (tgt := 226) dY_twoOf_219 (by decide) (fun hc => ?_) (fun hc => ?_)
                      · replace h := h.1 hc
                        refine r_iconst dY_twoOf_226 ?_
                        refine r_goto (tgt := 231) dY_twoOf_227 (by decide) ?_
                        exact q_iret rfl h dY_twoOf_231
                      · replace h := h.2 hc
                        refine r_iload_n 2 2 rfl dY_twoOf_222 rfl ?_
                        refine r_if_eq (tgt := 230) dY_twoOf_223 (by decide) (fun hc => ?_) (fun hc => ?_)
                        · replace h := h.1 hc
                          refine r_iconst dY_twoOf_230 ?_
                          exact q_iret rfl h dY_twoOf_231
                        · replace h := h.2 hc
                          refine r_iconst dY_twoOf_226 ?_
                          refine r_goto (tgt := 231) dY_twoOf_227 (by decide) ?_
                          exact q_iret rfl h dY_twoOf_231
                    · replace h := h.2
                      by_cases hs10 : w32 a0 = 47
                      · refine r_tabIn (off := 131) (tgt := 132) 47 hs10 dY_twoOf_1 (by decide) (by decide) (by decide) (by decide) ?_
                        replace h := h.1 hs10
                        refine r_iload_n 2 2 rfl dY_twoOf_132 rfl ?_
                        refine r_if_ne (tgt := 140) dY_twoOf_133 (by decide) (fun hc => ?_) (fun hc => ?_)
                        · replace h := h.1 hc
                          refine r_iload_n 2 2 rfl dY_twoOf_140 rfl ?_
                          refine r_iconst dY_twoOf_141 ?_
                          refine r_ifc_ne (tgt := 150) dY_twoOf_142 (by decide) (fun hc => ?_) (fun hc => ?_)
                          · replace h := h.1 hc
                            refine r_iload_n 1 1 rfl dY_twoOf_150 rfl ?_
                            refine r_iload_n 2 2 rfl dY_twoOf_151 rfl ?_
                            refine r_idiv h.1 dY_twoOf_152 ?_
                            replace h := h.2
                            exact q_iret rfl h dY_twoOf_153
                          · replace h := h.2 hc
                            refine r_iload_n 1 1 rfl dY_twoOf_145 rfl ?_
                            refine r_ineg dY_twoOf_146 ?_
                            refine r_goto (tgt := 153) dY_twoOf_147 (by decide) ?_
                            exact q_iret rfl h dY_twoOf_153
                        · replace h := h.2 hc
                          refine r_iconst dY_twoOf_136 ?_
                          refine r_goto (tgt := 153) dY_twoOf_137 (by decide) ?_
                          exact q_iret rfl h dY_twoOf_153
                      · replace h := h.2
                        by_cases hs11 : w32 a0 = 48
                        · refine r_tabIn (off := 217) (tgt := 218) 48 hs11 dY_twoOf_1 (by decide) (by decide) (by decide) (by decide) ?_
                          replace h := h.1 hs11
                          refine r_iload_n 1 1 rfl dY_twoOf_218 rfl ?_
                          refine r_if_ne (tgt := 226) dY_twoOf_219 (by decide) (fun hc => ?_) (fun hc => ?_)
                          · replace h := h.1 hc
                            refine r_iconst dY_twoOf_226 ?_
                            refine r_goto (tgt := 231) dY_twoOf_227 (by decide) ?_
                            exact q_iret rfl h dY_twoOf_231
                          · replace h := h.2 hc
                            refine r_iload_n 2 2 rfl dY_twoOf_222 rfl ?_
                            refine r_if_eq (tgt := 230) dY_twoOf_223 (by decide) (fun hc => ?_) (fun hc => ?_)
                            · replace h := h.1 hc
                              refine r_iconst dY_twoOf_230 ?_
                              exact q_iret rfl h dY_twoOf_231
                            · replace h := h.2 hc
                              refine r_iconst dY_twoOf_226 ?_
                              refine r_goto (tgt := 231) dY_twoOf_227 (by decide) ?_
                              exact q_iret rfl h dY_twoOf_231
                        · replace h := h.2
                          by_cases hs12 : w32 a0 = 49
                          · refine r_tabIn (off := 217) (tgt := 218) 49 hs12 dY_twoOf_1 (by decide) (by decide) (by decide) (by decide) ?_
                            replace h := h.1 hs12
                            refine r_iload_n 1 1 rfl dY_twoOf_218 rfl ?_
                            refine r_if_ne (tgt := 226) dY_twoOf_219 (by decide) (fun hc => ?_) (fun hc => ?_)
                            · replace h := h.1 hc
                              refine r_iconst dY_twoOf_226 ?_
                              refine r_goto (tgt := 231) dY_twoOf_227 (by decide) ?_
                              exact q_iret rfl h dY_twoOf_231
                            · replace h := h.2 hc
                              refine r_iload_n 2 2 rfl dY_twoOf_222 rfl ?_
                              refine r_if_eq (tgt := 230) dY_twoOf_223 (by decide) (fun hc => ?_) (fun hc => ?_)
                              · replace h := h.1 hc
                                refine r_iconst dY_twoOf_230 ?_
                                exact q_iret rfl h dY_twoOf_231
                              · replace h := h.2 hc
                                refine r_iconst dY_twoOf_226 ?_
                                refine r_goto (tgt := 231) dY_twoOf_227 (by decide) ?_
                                exact q_iret rfl h dY_twoOf_231
                          · replace h := h.2
                            by_cases hs13 : w32 a0 = 50
                            · refine r_tabIn (off := 217) (tgt := 218) 50 hs13 dY_twoOf_1 (by decide) (by decide) (by decide) (by decide) ?_
                              replace h := h.1 hs13
                              refine r_iload_n 1 1 rfl dY_twoOf_218 rfl ?_
                              refine r_if_ne (tgt := 226) dY_twoOf_219 (by decide) (fun hc => ?_) (fun hc => ?_)
                              · replace h := h.1 hc
                                refine r_iconst dY_twoOf_226 ?_
                                refine r_goto (tgt := 231) dY_twoOf_227 (by decide) ?_
                                exact q_iret rfl h dY_twoOf_231
                              · replace h := h.2 hc
                                refine r_iload_n 2 2 rfl dY_twoOf_222 rfl ?_
                                refine r_if_eq (tgt := 230) dY_twoOf_223 (by decide) (fun hc => ?_) (fun hc => ?_)
                                · replace h := h.1 hc
                                  refine r_iconst dY_twoOf_230 ?_
                                  exact q_iret rfl h dY_twoOf_231
                                · replace h := h.2 hc
                                  refine r_iconst dY_twoOf_226 ?_
                                  refine r_goto (tgt := 231) dY_twoOf_227 (by decide) ?_
                                  exact q_iret rfl h dY_twoOf_231
                            · replace h := h.2
                              by_cases hs14 : w32 a0 = 51
                              · refine r_tabIn (off := 217) (tgt := 218) 51 hs14 dY_twoOf_1 (by decide) (by decide) (by decide) (by decide) ?_
                                replace h := h.1 hs14
                                refine r_iload_n 1 1 rfl dY_twoOf_218 rfl ?_
                                refine r_if_ne (tgt := 226) dY_twoOf_219 (by decide) (fun hc => ?_) (fun hc => ?_)
                                · replace h := h.1 hc
                                  refine r_iconst dY_twoOf_226 ?_
                                  refine r_goto (tgt := 231) dY_twoOf_227 (by decide) ?_
                                  exact q_iret rfl h dY_twoOf_231
                                · replace h := h.2 hc
                                  refine r_iload_n 2 2 rfl dY_twoOf_222 rfl ?_
                                  refine r_if_eq (tgt := 230) dY_twoOf_223 (by decide) (fun hc => ?_) (fun hc => ?_)
                                  · replace h := h.1 hc
                                    refine r_iconst dY_twoOf_230 ?_
                                    exact q_iret rfl h dY_twoOf_231
                                  · replace h := h.2 hc
                                    refine r_iconst dY_twoOf_226 ?_
                                    refine r_goto (tgt := 231) dY_twoOf_227 (by decide) ?_
                                    exact q_iret rfl h dY_twoOf_231
                              · replace h := h.2
                                by_cases hs15 : w32 a0 = 52
                                · refine r_tabIn (off := 217) (tgt := 218) 52 hs15 dY_twoOf_1 (by decide) (by decide) (by decide) (by decide) ?_
                                  replace h := h.1 hs15
                                  refine r_iload_n 1 1 rfl dY_twoOf_218 rfl ?_
                                  refine r_if_ne (tgt := 226) dY_twoOf_219 (by decide) (fun hc => ?_) (fun hc => ?_)
                                  · replace h := h.1 hc
                                    refine r_iconst dY_twoOf_226 ?_
                                    refine r_goto (tgt := 231) dY_twoOf_227 (by decide) ?_
                                    exact q_iret rfl h dY_twoOf_231
                                  · replace h := h.2 hc
                                    refine r_iload_n 2 2 rfl dY_twoOf_222 rfl ?_
                                    refine r_if_eq (tgt := 230) dY_twoOf_223 (by decide) (fun hc => ?_) (fun hc => ?_)
                                    · replace h := h.1 hc
                                      refine r_iconst dY_twoOf_230 ?_
                                      exact q_iret rfl h dY_twoOf_231
                                    · replace h := h.2 hc
                                      refine r_iconst dY_twoOf_226 ?_
                                      refine r_goto (tgt := 231) dY_twoOf_227 (by decide) ?_
                                      exact q_iret rfl h dY_twoOf_231
                                · replace h := h.2
                                  by_cases hs16 : w32 a0 = 53
                                  · refine r_tabIn (off := 217) (tgt := 218) 53 hs16 dY_twoOf_1 (by decide) (by decide) (by decide) (by decide) ?_
                                    replace h := h.1 hs16
                                    refine r_iload_n 1 1 rfl dY_twoOf_218 rfl ?_
                                    refine r_if_ne (tgt := 226) dY_twoOf_219 (by decide) (fun hc => ?_) (fun hc => ?_)
                                    · replace h := h.1 hc
                                      refine r_iconst dY_twoOf_226 ?_
                                      refine r_goto (tgt := 231) dY_twoOf_227 (by decide) ?_
                                      exact q_iret rfl h dY_twoOf_231
                                    · replace h := h.2 hc
                                      refine r_iload_n 2 2 rfl dY_twoOf_222 rfl ?_
                                      refine r_if_eq (tgt := 230) dY_twoOf_223 (by decide) (fun hc => ?_) (fun hc => ?_)
                                      · replace h := h.1 hc
                                        refine r_iconst dY_twoOf_230 ?_
                                        exact q_iret rfl h dY_twoOf_231
                                      · replace h := h.2 hc
                                        refine r_iconst dY_twoOf_226 ?_
                                        refine r_goto (tgt := 231) dY_twoOf_227 (by decide) ?_
                                        exact q_iret rfl h dY_twoOf_231
                                  · replace h := h.2
                                    by_cases hs17 : w32 a0 = 54
                                    · refine r_tabIn (off := 217) (tgt := 218) 54 hs17 dY_twoOf_1 (by decide) (by decide) (by decide) (by decide) ?_
                                      replace h := h.1 hs17
                                      refine r_iload_n 1 1 rfl dY_twoOf_218 rfl ?_
                                      refine r_if_ne (tgt := 226) dY_twoOf_219 (by decide) (fun hc => ?_) (fun hc => ?_)
                                      · replace h := h.1 hc
                                        refine r_iconst dY_twoOf_226 ?_
                                        refine r_goto (tgt := 231) dY_twoOf_227 (by decide) ?_
                                        exact q_iret rfl h dY_twoOf_231
                                      · replace h := h.2 hc
                                        refine r_iload_n 2 2 rfl dY_twoOf_222 rfl ?_
                                        refine r_if_eq (tgt := 230) dY_twoOf_223 (by decide) (fun hc => ?_) (fun hc => ?_)
                                        · replace h := h.1 hc
                                          refine r_iconst dY_twoOf_230 ?_
                                          exact q_iret rfl h dY_twoOf_231
                                        · replace h := h.2 hc
                                          refine r_iconst dY_twoOf_226 ?_
                                          refine r_goto (tgt := 231) dY_twoOf_227 (by decide) ?_
                                          exact q_iret rfl h dY_twoOf_231
                                    · replace h := h.2
                                      by_cases hs18 : w32 a0 = 55
                                      · refine r_tabIn (off := 217) (tgt := 218) 55 hs18 dY_twoOf_1 (by decide) (by decide) (by decide) (by decide) ?_
                                        replace h := h.1 hs18
                                        refine r_iload_n 1 1 rfl dY_twoOf_218 rfl ?_
                                        refine r_if_ne (tgt := 226) dY_twoOf_219 (by decide) (fun hc => ?_) (fun hc => ?_)
                                        · replace h := h.1 hc
                                          refine r_iconst dY_twoOf_226 ?_
                                          refine r_goto (tgt := 231) dY_twoOf_227 (by decide) ?_
                                          exact q_iret rfl h dY_twoOf_231
                                        · replace h := h.2 hc
                                          refine r_iload_n 2 2 rfl dY_twoOf_222 rfl ?_
                                          refine r_if_eq (tgt := 230) dY_twoOf_223 (by decide) (fun hc => ?_) (fun hc => ?_)
                                          · replace h := h.1 hc
                                            refine r_iconst dY_twoOf_230 ?_
                                            exact q_iret rfl h dY_twoOf_231
                                          · replace h := h.2 hc
                                            refine r_iconst dY_twoOf_226 ?_
                                            refine r_goto (tgt := 231) dY_twoOf_227 (by decide) ?_
                                            exact q_iret rfl h dY_twoOf_231
                                      · replace h := h.2
                                        by_cases hs19 : w32 a0 = 56
                                        · refine r_tabIn (off := 217) (tgt := 218) 56 hs19 dY_twoOf_1 (by decide) (by decide) (by decide) (by decide) ?_
                                          replace h := h.1 hs19
                                          refine r_iload_n 1 1 rfl dY_twoOf_218 rfl ?_
                                          refine r_if_ne (tgt := 226) dY_twoOf_219 (by decide) (fun hc => ?_) (fun hc => ?_)
                                          · replace h := h.1 hc
                                            refine r_iconst dY_twoOf_226 ?_
                                            refine r_goto (tgt := 231) dY_twoOf_227 (by decide) ?_
                                            exact q_iret rfl h dY_twoOf_231
                                          · replace h := h.2 hc
                                            refine r_iload_n 2 2 rfl dY_twoOf_222 rfl ?_
                                            refine r_if_eq (tgt := 230) dY_twoOf_223 (by decide) (fun hc => ?_) (fun hc => ?_)
                                            · replace h := h.1 hc
                                              refine r_iconst dY_twoOf_230 ?_
                                              exact q_iret rfl h dY_twoOf_231
                                            · replace h := h.2 hc
                                              refine r_iconst dY_twoOf_226 ?_
                                              refine r_goto (tgt := 231) dY_twoOf_227 (by decide) ?_
                                              exact q_iret rfl h dY_twoOf_231
                                        · replace h := h.2
                                          by_cases hs20 : w32 a0 = 57
                                          · refine r_tabIn (off := 217) (tgt := 218) 57 hs20 dY_twoOf_1 (by decide) (by decide) (by decide) (by decide) ?_
                                            replace h := h.1 hs20
                                            refine r_iload_n 1 1 rfl dY_twoOf_218 rfl ?_
                                            refine r_if_ne (tgt := 226) dY_twoOf_219 (by decide) (fun hc => ?_) (fun hc => ?_)
                                            · replace h := h.1 hc
                                              refine r_iconst dY_twoOf_226 ?_
                                              refine r_goto (tgt := 231) dY_twoOf_227 (by decide) ?_
                                              exact q_iret rfl h dY_twoOf_231
                                            · replace h := h.2 hc
                                              refine r_iload_n 2 2 rfl dY_twoOf_222 rfl ?_
                                              refine r_if_eq (tgt := 230) dY_twoOf_223 (by decide) (fun hc => ?_) (fun hc => ?_)
                                              · replace h := h.1 hc
                                                refine r_iconst dY_twoOf_230 ?_
                                                exact q_iret rfl h dY_twoOf_231
                                              · replace h := h.2 hc
                                                refine r_iconst dY_twoOf_226 ?_
                                                refine r_goto (tgt := 231) dY_twoOf_227 (by decide) ?_
                                                exact q_iret rfl h dY_twoOf_231
                                          · replace h := h.2
                                            by_cases hs21 : w32 a0 = 58
                                            · refine r_tabIn (off := 217) (tgt := 218) 58 hs21 dY_twoOf_1 (by decide) (by decide) (by decide) (by decide) ?_
                                              replace h := h.1 hs21
                                              refine r_iload_n 1 1 rfl dY_twoOf_218 rfl ?_
                                              refine r_if_ne (tgt := 226) dY_twoOf_219 (by decide) (fun hc => ?_) (fun hc => ?_)
                                              · replace h := h.1 hc
                                                refine r_iconst dY_twoOf_226 ?_
                                                refine r_goto (tgt := 231) dY_twoOf_227 (by decide) ?_
                                                exact q_iret rfl h dY_twoOf_231
                                              · replace h := h.2 hc
                                                refine r_iload_n 2 2 rfl dY_twoOf_222 rfl ?_
                                                refine r_if_eq (tgt := 230) dY_twoOf_223 (by decide) (fun hc => ?_) (fun hc => ?_)
                                                · replace h := h.1 hc
                                                  refine r_iconst dY_twoOf_230 ?_
                                                  exact q_iret rfl h dY_twoOf_231
                                                · replace h := h.2 hc
                                                  refine r_iconst dY_twoOf_226 ?_
                                                  refine r_goto (tgt := 231) dY_twoOf_227 (by decide) ?_
                                                  exact q_iret rfl h dY_twoOf_231
                                            · replace h := h.2
                                              by_cases hs22 : w32 a0 = 59
                                              · refine r_tabIn (off := 217) (tgt := 218) 59 hs22 dY_twoOf_1 (by decide) (by decide) (by decide) (by decide) ?_
                                                replace h := h.1 hs22
                                                refine r_iload_n 1 1 rfl dY_twoOf_218 rfl ?_
                                                refine r_if_ne (tgt := 226) dY_twoOf_219 (by decide) (fun hc => ?_) (fun hc => ?_)
                                                · replace h := h.1 hc
                                                  refine r_iconst dY_twoOf_226 ?_
                                                  refine r_goto (tgt := 231) dY_twoOf_227 (by decide) ?_
                                                  exact q_iret rfl h dY_twoOf_231
                                                · replace h := h.2 hc
                                                  refine r_iload_n 2 2 rfl dY_twoOf_222 rfl ?_
                                                  refine r_if_eq (tgt := 230) dY_twoOf_223 (by decide) (fun hc => ?_) (fun hc => ?_)
                                                  · replace h := h.1 hc
                                                    refine r_iconst dY_twoOf_230 ?_
                                                    exact q_iret rfl h dY_twoOf_231
                                                  · replace h := h.2 hc
                                                    refine r_iconst dY_twoOf_226 ?_
                                                    refine r_goto (tgt := 231) dY_twoOf_227 (by decide) ?_
                                                    exact q_iret rfl h dY_twoOf_231
                                              · replace h := h.2
                                                by_cases hs23 : w32 a0 = 60
                                                · refine r_tabIn (off := 170) (tgt := 171) 60 hs23 dY_twoOf_1 (by decide) (by decide) (by decide) (by decide) ?_
                                                  replace h := h.1 hs23
                                                  refine r_iload_n 1 1 rfl dY_twoOf_171 rfl ?_
                                                  refine r_iload_n 2 2 rfl dY_twoOf_172 rfl ?_
                                                  refine r_ifc_ge (tgt := 180) dY_twoOf_173 (by decide) (fun hc => ?_) (fun hc => ?_)
                                                  · replace h := h.1 hc
                                                    refine r_iconst dY_twoOf_180 ?_
                                                    exact q_iret rfl h dY_twoOf_181
                                                  · replace h := h.2 hc
                                                    refine r_iconst dY_twoOf_176 ?_
                                                    refine r_goto (tgt := 181) dY_twoOf_177 (by decide) ?_
                                                    exact q_iret rfl h dY_twoOf_181
                                                · replace h := h.2
                                                  by_cases hs24 : w32 a0 = 61
                                                  · refine r_tabIn (off := 181) (tgt := 182) 61 hs24 dY_twoOf_1 (by decide) (by decide) (by decide) (by decide) ?_
                                                    replace h := h.1 hs24
                                                    refine r_iload_n 1 1 rfl dY_twoOf_182 rfl ?_
                                                    refine r_iload_n 2 2 rfl dY_twoOf_183 rfl ?_
                                                    refine r_ifc_ne (tgt := 191) dY_twoOf_184 (by decide) (fun hc => ?_) (fun hc => ?_)
                                                    · replace h := h.1 hc
                                                      refine r_iconst dY_twoOf_191 ?_
                                                      exact q_iret rfl h dY_twoOf_192
                                                    · replace h := h.2 hc
                                                      refine r_iconst dY_twoOf_187 ?_
                                                      refine r_goto (tgt := 192) dY_twoOf_188 (by decide) ?_
                                                      exact q_iret rfl h dY_twoOf_192
                                                  · replace h := h.2
                                                    by_cases hs25 : w32 a0 = 62
                                                    · refine r_tabIn (off := 192) (tgt := 193) 62 hs25 dY_twoOf_1 (by decide) (by decide) (by decide) (by decide) ?_
                                                      replace h := h.1 hs25
                                                      refine r_iload_n 1 1 rfl dY_twoOf_193 rfl ?_
                                                      refine r_iload_n 2 2 rfl dY_twoOf_194 rfl ?_
                                                      refine r_ifc_le (tgt := 202) dY_twoOf_195 (by decide) (fun hc => ?_) (fun hc => ?_)
                                                      · replace h := h.1 hc
                                                        refine r_iconst dY_twoOf_202 ?_
                                                        exact q_iret rfl h dY_twoOf_203
                                                      · replace h := h.2 hc
                                                        refine r_iconst dY_twoOf_198 ?_
                                                        refine r_goto (tgt := 203) dY_twoOf_199 (by decide) ?_
                                                        exact q_iret rfl h dY_twoOf_203
                                                    · replace h := h.2
                                                      have hq : w32 a0 < 37 ∨ 62 < w32 a0 := by omega
                                                      refine r_tabOut (tgt := 218) dY_twoOf_1 hq (by decide) ?_
                                                      replace h := h hq
                                                      refine r_iload_n 1 1 rfl dY_twoOf_218 rfl ?_
                                                      refine r_if_ne (tgt := 226) dY_twoOf_219 (by decide) (fun hc => ?_) (fun hc => ?_)
                                                      · replace h := h.1 hc
                                                        refine r_iconst dY_twoOf_226 ?_
                                                        refine r_goto (tgt := 231) dY_twoOf_227 (by decide) ?_
                                                        exact q_iret rfl h dY_twoOf_231
                                                      · replace h := h.2 hc
                                                        refine r_iload_n 2 2 rfl dY_twoOf_222 rfl ?_
                                                        refine r_if_eq (tgt := 230) dY_twoOf_223 (by decide) (fun hc => ?_) (fun hc => ?_)
                                                        · replace h := h.1 hc
                                                          refine r_iconst dY_twoOf_230 ?_
                                                          exact q_iret rfl h dY_twoOf_231
                                                        · replace h := h.2 hc
                                                          refine r_iconst dY_twoOf_226 ?_
                                                          refine r_goto (tgt := 231) dY_twoOf_227 (by decide) ?_
                                                          exact q_iret rfl h dY_twoOf_231
