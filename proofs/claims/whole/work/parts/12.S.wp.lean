theorem dS_isShelf_0 : decode mS_isShelf.2.1 0 = .ok (.iload_n 0, 1) := by decide +kernel
theorem dS_isShelf_1 : decode mS_isShelf.2.1 1 = .ok (.ifCond .lt 13, 3) := by decide +kernel
theorem dS_isShelf_4 : decode mS_isShelf.2.1 4 = .ok (.iload_n 0, 1) := by decide +kernel
theorem dS_isShelf_5 : decode mS_isShelf.2.1 5 = .ok (.bipush 6, 2) := by decide +kernel
theorem dS_isShelf_7 : decode mS_isShelf.2.1 7 = .ok (.if_icmp .ge 7, 3) := by decide +kernel
theorem dS_isShelf_10 : decode mS_isShelf.2.1 10 = .ok (.iconst 1, 1) := by decide +kernel
theorem dS_isShelf_11 : decode mS_isShelf.2.1 11 = .ok (.goto 4, 3) := by decide +kernel
theorem dS_isShelf_14 : decode mS_isShelf.2.1 14 = .ok (.iconst 0, 1) := by decide +kernel
theorem dS_isShelf_15 : decode mS_isShelf.2.1 15 = .ok (.ireturn, 1) := by decide +kernel
/- S_isShelf: (I)Z -/
set_option maxRecDepth 4000 in
theorem wS_isShelf {X : Cx} (a0 : Int) (sw : Bool) (m : Mem) (Q : Int → Bool → Mem → Prop) (h : ((w32 a0 < 0 → Q 0 sw m) ∧ (¬ (w32 a0 < 0) → ((6 ≤ w32 a0 → Q 0 sw m) ∧ (¬ (6 ≤ w32 a0) → Q 1 sw m))))) : M2 X 1 mS_isShelf [vi a0] sw m Q := by
  refine Mt.of pS_isShelf (Nat.le_of_ble_eq_true rfl) (Nat.le_refl _) ?_
  show R2 X 1 mS_isShelf 0 [(0, vi a0)] [] sw m Q
  refine r_iload_n 0 0 rfl dS_isShelf_0 rfl ?_
  refine r_if_lt (tgt := 14) dS_isShelf_1 (by decide) (fun hc => ?_) (fun hc => ?_)
  · replace h := h.1 hc
    refine r_iconst dS_isShelf_14 ?_
    exact q_bret rfl (Or.inl rfl) h dS_isShelf_15
  · replace h := h.2 hc
    refine r_iload_n 0 0 rfl dS_isShelf_4 rfl ?_
    refine r_bipush (by decide) dS_isShelf_5 ?_
    refine r_ifc_ge (tgt := 14) dS_isShelf_7 (by decide) (fun hc => ?_) (fun hc => ?_)
    · replace h := h.1 hc
      refine r_iconst dS_isShelf_14 ?_
      exact q_bret rfl (Or.inl rfl) h dS_isShelf_15
    · replace h := h.2 hc
      refine r_iconst dS_isShelf_10 ?_
      refine r_goto (tgt := 15) dS_isShelf_11 (by decide) ?_
      exact q_bret rfl (Or.inr rfl) h dS_isShelf_15
theorem dS_refusalOf_0 : decode mS_refusalOf.2.1 0 = .ok (.iload_n 1, 1) := by decide +kernel
theorem dS_refusalOf_1 : decode mS_refusalOf.2.1 1 = .ok (.invokestatic 29, 3) := by decide +kernel
theorem dS_refusalOf_4 : decode mS_refusalOf.2.1 4 = .ok (.ifCond .ne 5, 3) := by decide +kernel
theorem dS_refusalOf_7 : decode mS_refusalOf.2.1 7 = .ok (.iconst (-1), 1) := by decide +kernel
theorem dS_refusalOf_8 : decode mS_refusalOf.2.1 8 = .ok (.ireturn, 1) := by decide +kernel
theorem dS_refusalOf_9 : decode mS_refusalOf.2.1 9 = .ok (.aload_n 0, 1) := by decide +kernel
theorem dS_refusalOf_10 : decode mS_refusalOf.2.1 10 = .ok (.getfield 11, 3) := by decide +kernel
theorem dS_refusalOf_13 : decode mS_refusalOf.2.1 13 = .ok (.iload_n 1, 1) := by decide +kernel
theorem dS_refusalOf_14 : decode mS_refusalOf.2.1 14 = .ok (.iaload, 1) := by decide +kernel
theorem dS_refusalOf_15 : decode mS_refusalOf.2.1 15 = .ok (.ifCond .ne 6, 3) := by decide +kernel
theorem dS_refusalOf_18 : decode mS_refusalOf.2.1 18 = .ok (.bipush (-11), 2) := by decide +kernel
theorem dS_refusalOf_20 : decode mS_refusalOf.2.1 20 = .ok (.ireturn, 1) := by decide +kernel
theorem dS_refusalOf_21 : decode mS_refusalOf.2.1 21 = .ok (.aload_n 0, 1) := by decide +kernel
theorem dS_refusalOf_22 : decode mS_refusalOf.2.1 22 = .ok (.getfield 11, 3) := by decide +kernel
theorem dS_refusalOf_25 : decode mS_refusalOf.2.1 25 = .ok (.iload_n 1, 1) := by decide +kernel
theorem dS_refusalOf_26 : decode mS_refusalOf.2.1 26 = .ok (.iaload, 1) := by decide +kernel
theorem dS_refusalOf_27 : decode mS_refusalOf.2.1 27 = .ok (.iload_n 2, 1) := by decide +kernel
theorem dS_refusalOf_28 : decode mS_refusalOf.2.1 28 = .ok (.if_icmp .ne 7, 3) := by decide +kernel
theorem dS_refusalOf_31 : decode mS_refusalOf.2.1 31 = .ok (.iconst 0, 1) := by decide +kernel
theorem dS_refusalOf_32 : decode mS_refusalOf.2.1 32 = .ok (.goto 5, 3) := by decide +kernel
theorem dS_refusalOf_35 : decode mS_refusalOf.2.1 35 = .ok (.bipush (-12), 2) := by decide +kernel
theorem dS_refusalOf_37 : decode mS_refusalOf.2.1 37 = .ok (.ireturn, 1) := by decide +kernel
/- S_refusalOf: (II)I -/
set_option maxRecDepth 4000 in
theorem wS_refusalOf {X : Cx} (a1 a2 : Int) (sw : Bool) (m : Mem) (Q : Int → Bool → Mem → Prop) (h : M2 X 1 mS_isShelf [vi a1] sw m (fun z1 sw1 m1 => ((¬ w32 z1 = 0 → ((0 ≤ w32 a1 ∧ w32 a1 < 6) ∧ ((¬ w32 (m1 73 (w32 a1)) = 0 → ((0 ≤ w32 a1 ∧ w32 a1 < 6) ∧ ((¬ w32 (m1 73 (w32 a1)) = w32 a2 → Q (-12) sw1 m1) ∧ (¬ (¬ w32 (m1 73 (w32 a1)) = w32 a2) → Q 0 sw1 m1)))) ∧ (¬ (¬ w32 (m1 73 (w32 a1)) = 0) → Q (-11) sw1 m1)))) ∧ (¬ (¬ w32 z1 = 0) → Q (-1) sw1 m1)))) : M2 X 2 mS_refusalOf [vr 72, vi a1, vi a2] sw m Q := by
  refine Mt.of pS_refusalOf (Nat.le_of_ble_eq_true rfl) (Nat.le_refl _) ?_
  show R2 X 2 mS_refusalOf 0 [(0, vr 72), (1, vi a1), (2, vi a2)] [] sw m Q
  refine r_iload_n 1 1 rfl dS_refusalOf_0 rfl ?_
  refine r_callSb [_] rfl oS_isShelf iS_isShelf yS_29 (by decide) ⟨Nat.le_refl _, Nat.le_refl _⟩ rfl (Nat.le_of_ble_eq_true rfl) dS_refusalOf_1 h (fun z1 r1 m1 h => ?_)
  obtain ⟨sw1, rfl, h⟩ := h
  refine r_if_ne (tgt := 9) dS_refusalOf_4 (by decide) (fun hc => ?_) (fun hc => ?_)
  · replace h := h.1 hc
    refine r_aload_n 0 0 rfl dS_refusalOf_9 rfl ?_
    refine q_getR 0 c72 fS_11 rfl rfl (g72_0 sw1) (by decide) dS_refusalOf_10 ?_
    refine r_iload_n 1 1 rfl dS_refusalOf_13 rfl ?_
    refine q_iaload (w32 a1) rfl c73 h.1 dS_refusalOf_14 ?_
    replace h := h.2
    refine r_if_ne (tgt := 21) dS_refusalOf_15 (by decide) (fun hc => ?_) (fun hc => ?_)
    · replace h := h.1 hc
      refine r_aload_n 0 0 rfl dS_refusalOf_21 rfl ?_
      refine q_getR 0 c72 fS_11 rfl rfl (g72_0 sw1) (by decide) dS_refusalOf_22 ?_
      refine r_iload_n 1 1 rfl dS_refusalOf_25 rfl ?_
      refine q_iaload (w32 a1) rfl c73 h.1 dS_refusalOf_26 ?_
      replace h := h.2
      refine r_iload_n 2 2 rfl dS_refusalOf_27 rfl ?_
      refine r_ifc_ne (tgt := 35) dS_refusalOf_28 (by decide) (fun hc => ?_) (fun hc => ?_)
      · replace h := h.1 hc
        refine r_bipush (by decide) dS_refusalOf_35 ?_
        exact q_iret rfl h dS_refusalOf_37
      · replace h := h.2 hc
        refine r_iconst dS_refusalOf_31 ?_
        refine r_goto (tgt := 37) dS_refusalOf_32 (by decide) ?_
        exact q_iret rfl h dS_refusalOf_37
    · replace h := h.2 hc
      refine r_bipush (by decide) dS_refusalOf_18 ?_
      exact q_iret rfl h dS_refusalOf_20
  · replace h := h.2 hc
    refine r_iconst dS_refusalOf_7 ?_
    exact q_iret rfl h dS_refusalOf_8
theorem dS_refusalOfBody_0 : decode mS_refusalOfBody.2.1 0 = .ok (.aload_n 0, 1) := by decide +kernel
theorem dS_refusalOfBody_1 : decode mS_refusalOfBody.2.1 1 = .ok (.iload_n 1, 1) := by decide +kernel
theorem dS_refusalOfBody_2 : decode mS_refusalOfBody.2.1 2 = .ok (.iconst 1, 1) := by decide +kernel
theorem dS_refusalOfBody_3 : decode mS_refusalOfBody.2.1 3 = .ok (.invokevirtual 33, 3) := by decide +kernel
theorem dS_refusalOfBody_6 : decode mS_refusalOfBody.2.1 6 = .ok (.ireturn, 1) := by decide +kernel
/- S_refusalOfBody: (I)I -/
set_option maxRecDepth 4000 in
theorem wS_refusalOfBody {X : Cx} (a1 : Int) (sw : Bool) (m : Mem) (Q : Int → Bool → Mem → Prop) (h : M2 X 2 mS_refusalOf [vr 72, vi a1, vi 1] sw m (fun z1 sw1 m1 => Q z1 sw1 m1)) : M2 X 3 mS_refusalOfBody [vr 72, vi a1] sw m Q := by
  refine Mt.of pS_refusalOfBody (Nat.le_of_ble_eq_true rfl) (Nat.le_refl _) ?_
  show R2 X 3 mS_refusalOfBody 0 [(0, vr 72), (1, vi a1)] [] sw m Q
  refine r_aload_n 0 0 rfl dS_refusalOfBody_0 rfl ?_
  refine r_iload_n 1 1 rfl dS_refusalOfBody_1 rfl ?_
  refine r_iconst dS_refusalOfBody_2 ?_
  refine r_callVi 11 [_, _] rfl c72 rfl rfl oS_refusalOf iS_refusalOf sS_refusalOf yS_33 (by decide) ⟨Nat.le_refl _, Nat.le_refl _⟩ rfl (Nat.le_of_ble_eq_true rfl) dS_refusalOfBody_3 h (fun z1 r1 m1 h => ?_)
  obtain ⟨sw1, rfl, h⟩ := h
  exact q_iret rfl h dS_refusalOfBody_6
theorem dS_refusalOfShorts_0 : decode mS_refusalOfShorts.2.1 0 = .ok (.aload_n 0, 1) := by decide +kernel
theorem dS_refusalOfShorts_1 : decode mS_refusalOfShorts.2.1 1 = .ok (.iload_n 1, 1) := by decide +kernel
theorem dS_refusalOfShorts_2 : decode mS_refusalOfShorts.2.1 2 = .ok (.iconst 2, 1) := by decide +kernel
theorem dS_refusalOfShorts_3 : decode mS_refusalOfShorts.2.1 3 = .ok (.invokevirtual 33, 3) := by decide +kernel
theorem dS_refusalOfShorts_6 : decode mS_refusalOfShorts.2.1 6 = .ok (.istore_n 2, 1) := by decide +kernel
theorem dS_refusalOfShorts_7 : decode mS_refusalOfShorts.2.1 7 = .ok (.iload_n 2, 1) := by decide +kernel
theorem dS_refusalOfShorts_8 : decode mS_refusalOfShorts.2.1 8 = .ok (.ifCond .ne 18, 3) := by decide +kernel
theorem dS_refusalOfShorts_11 : decode mS_refusalOfShorts.2.1 11 = .ok (.aload_n 0, 1) := by decide +kernel
theorem dS_refusalOfShorts_12 : decode mS_refusalOfShorts.2.1 12 = .ok (.getfield 18, 3) := by decide +kernel
theorem dS_refusalOfShorts_15 : decode mS_refusalOfShorts.2.1 15 = .ok (.iload_n 1, 1) := by decide +kernel
theorem dS_refusalOfShorts_16 : decode mS_refusalOfShorts.2.1 16 = .ok (.iaload, 1) := by decide +kernel
theorem dS_refusalOfShorts_17 : decode mS_refusalOfShorts.2.1 17 = .ok (.iconst 1, 1) := by decide +kernel
theorem dS_refusalOfShorts_18 : decode mS_refusalOfShorts.2.1 18 = .ok (.if_icmp .eq 8, 3) := by decide +kernel
theorem dS_refusalOfShorts_21 : decode mS_refusalOfShorts.2.1 21 = .ok (.bipush (-12), 2) := by decide +kernel
theorem dS_refusalOfShorts_23 : decode mS_refusalOfShorts.2.1 23 = .ok (.goto 4, 3) := by decide +kernel
theorem dS_refusalOfShorts_26 : decode mS_refusalOfShorts.2.1 26 = .ok (.iload_n 2, 1) := by decide +kernel
theorem dS_refusalOfShorts_27 : decode mS_refusalOfShorts.2.1 27 = .ok (.ireturn, 1) := by decide +kernel
/- S_refusalOfShorts: (I)I -/
set_option maxRecDepth 4000 in
theorem wS_refusalOfShorts {X : Cx} (a1 : Int) (sw : Bool) (m : Mem) (Q : Int → Bool → Mem → Prop) (h : M2 X 2 mS_refusalOf [vr 72, vi a1, vi 2] sw m (fun z1 sw1 m1 => ((¬ w32 z1 = 0 → Q z1 sw1 m1) ∧ (¬ (¬ w32 z1 = 0) → ((0 ≤ w32 a1 ∧ w32 a1 < 6) ∧ ((w32 (m1 75 (w32 a1)) = 1 → Q z1 sw1 m1) ∧ (¬ (w32 (m1 75 (w32 a1)) = 1) → Q (-12) sw1 m1))))))) : M2 X 3 mS_refusalOfShorts [vr 72, vi a1] sw m Q := by
  refine Mt.of pS_refusalOfShorts (Nat.le_of_ble_eq_true rfl) (Nat.le_refl _) ?_
  show R2 X 3 mS_refusalOfShorts 0 [(0, vr 72), (1, vi a1)] [] sw m Q
  refine r_aload_n 0 0 rfl dS_refusalOfShorts_0 rfl ?_
  refine r_iload_n 1 1 rfl dS_refusalOfShorts_1 rfl ?_
  refine r_iconst dS_refusalOfShorts_2 ?_
  refine r_callVi 11 [_, _] rfl c72 rfl rfl oS_refusalOf iS_refusalOf sS_refusalOf yS_33 (by decide) ⟨Nat.le_refl _, Nat.le_refl _⟩ rfl (Nat.le_of_ble_eq_true rfl) dS_refusalOfShorts_3 h (fun z1 r1 m1 h => ?_)
  obtain ⟨sw1, rfl, h⟩ := h
  refine r_istore_n 2 (by decide) dS_refusalOfShorts_6 rfl ?_
  refine r_iload_n 2 0 rfl dS_refusalOfShorts_7 rfl ?_
  refine r_if_ne (tgt := 26) dS_refusalOfShorts_8 (by decide) (fun hc => ?_) (fun hc => ?_)
  · replace h := h.1 hc
    refine r_iload_n 2 0 rfl dS_refusalOfShorts_26 rfl ?_
    exact q_iret rfl h dS_refusalOfShorts_27
  · replace h := h.2 hc
    refine r_aload_n 0 1 rfl dS_refusalOfShorts_11 rfl ?_
    refine q_getR 2 c72 fS_18 rfl rfl (g72_2 sw1) (by decide) dS_refusalOfShorts_12 ?_
    refine r_iload_n 1 2 rfl dS_refusalOfShorts_15 rfl ?_
    refine q_iaload (w32 a1) rfl c75 h.1 dS_refusalOfShorts_16 ?_
    replace h := h.2
    refine r_iconst dS_refusalOfShorts_17 ?_
    refine r_ifc_eq (tgt := 26) dS_refusalOfShorts_18 (by decide) (fun hc => ?_) (fun hc => ?_)
    · replace h := h.1 hc
      refine r_iload_n 2 0 rfl dS_refusalOfShorts_26 rfl ?_
      exact q_iret rfl h dS_refusalOfShorts_27
    · replace h := h.2 hc
      refine r_bipush (by decide) dS_refusalOfShorts_21 ?_
      refine r_goto (tgt := 27) dS_refusalOfShorts_23 (by decide) ?_
      exact q_iret rfl h dS_refusalOfShorts_27
theorem dS_refusalOfPlace_0 : decode mS_refusalOfPlace.2.1 0 = .ok (.aload_n 0, 1) := by decide +kernel
theorem dS_refusalOfPlace_1 : decode mS_refusalOfPlace.2.1 1 = .ok (.iload_n 1, 1) := by decide +kernel
theorem dS_refusalOfPlace_2 : decode mS_refusalOfPlace.2.1 2 = .ok (.iconst 2, 1) := by decide +kernel
theorem dS_refusalOfPlace_3 : decode mS_refusalOfPlace.2.1 3 = .ok (.invokevirtual 33, 3) := by decide +kernel
theorem dS_refusalOfPlace_6 : decode mS_refusalOfPlace.2.1 6 = .ok (.istore_n 3, 1) := by decide +kernel
theorem dS_refusalOfPlace_7 : decode mS_refusalOfPlace.2.1 7 = .ok (.iload_n 3, 1) := by decide +kernel
theorem dS_refusalOfPlace_8 : decode mS_refusalOfPlace.2.1 8 = .ok (.ifCond .ne 18, 3) := by decide +kernel
theorem dS_refusalOfPlace_11 : decode mS_refusalOfPlace.2.1 11 = .ok (.aload_n 0, 1) := by decide +kernel
theorem dS_refusalOfPlace_12 : decode mS_refusalOfPlace.2.1 12 = .ok (.iload_n 1, 1) := by decide +kernel
theorem dS_refusalOfPlace_13 : decode mS_refusalOfPlace.2.1 13 = .ok (.iload_n 2, 1) := by decide +kernel
theorem dS_refusalOfPlace_14 : decode mS_refusalOfPlace.2.1 14 = .ok (.iconst 1, 1) := by decide +kernel
theorem dS_refusalOfPlace_15 : decode mS_refusalOfPlace.2.1 15 = .ok (.invokevirtual 37, 3) := by decide +kernel
theorem dS_refusalOfPlace_18 : decode mS_refusalOfPlace.2.1 18 = .ok (.ifCond .ne 8, 3) := by decide +kernel
theorem dS_refusalOfPlace_21 : decode mS_refusalOfPlace.2.1 21 = .ok (.bipush (-13), 2) := by decide +kernel
theorem dS_refusalOfPlace_23 : decode mS_refusalOfPlace.2.1 23 = .ok (.goto 4, 3) := by decide +kernel
theorem dS_refusalOfPlace_26 : decode mS_refusalOfPlace.2.1 26 = .ok (.iload_n 3, 1) := by decide +kernel
theorem dS_refusalOfPlace_27 : decode mS_refusalOfPlace.2.1 27 = .ok (.ireturn, 1) := by decide +kernel
/- S_refusalOfPlace: (II)I -/
set_option maxRecDepth 4000 in
theorem wS_refusalOfPlace {X : Cx} (a1 a2 : Int) (sw : Bool) (m : Mem) (Q : Int → Bool → Mem → Prop) (h : M2 X 2 mS_refusalOf [vr 72, vi a1, vi 2] sw m (fun z1 sw1 m1 => ((¬ w32 z1 = 0 → Q z1 sw1 m1) ∧ (¬ (¬ w32 z1 = 0) → M2 X 1 mS_reaches [vr 72, vi a1, vi a2, vi 1] sw1 m1 (fun z2 sw2 m2 => ((¬ w32 z2 = 0 → Q z1 sw2 m2) ∧ (¬ (¬ w32 z2 = 0) → Q (-13) sw2 m2))))))) : M2 X 3 mS_refusalOfPlace [vr 72, vi a1, vi a2] sw m Q := by
  refine Mt.of pS_refusalOfPlace (Nat.le_of_ble_eq_true rfl) (Nat.le_refl _) ?_
  show R2 X 3 mS_refusalOfPlace 0 [(0, vr 72), (1, vi a1), (2, vi a2)] [] sw m Q
  refine r_aload_n 0 0 rfl dS_refusalOfPlace_0 rfl ?_
  refine r_iload_n 1 1 rfl dS_refusalOfPlace_1 rfl ?_
  refine r_iconst dS_refusalOfPlace_2 ?_
  refine r_callVi 11 [_, _] rfl c72 rfl rfl oS_refusalOf iS_refusalOf sS_refusalOf yS_33 (by decide) ⟨Nat.le_refl _, Nat.le_refl _⟩ rfl (Nat.le_of_ble_eq_true rfl) dS_refusalOfPlace_3 h (fun z1 r1 m1 h => ?_)
  obtain ⟨sw1, rfl, h⟩ := h
  refine r_istore_n 3 (by decide) dS_refusalOfPlace_6 rfl ?_
  refine r_iload_n 3 0 rfl dS_refusalOfPlace_7 rfl ?_
  refine r_if_ne (tgt := 26) dS_refusalOfPlace_8 (by decide) (fun hc => ?_) (fun hc => ?_)
  · replace h := h.1 hc
    refine r_iload_n 3 0 rfl dS_refusalOfPlace_26 rfl ?_
    exact q_iret rfl h dS_refusalOfPlace_27
  · replace h := h.2 hc
    refine r_aload_n 0 1 rfl dS_refusalOfPlace_11 rfl ?_
    refine r_iload_n 1 2 rfl dS_refusalOfPlace_12 rfl ?_
    refine r_iload_n 2 3 rfl dS_refusalOfPlace_13 rfl ?_
    refine r_iconst dS_refusalOfPlace_14 ?_
    refine r_callVb 11 [_, _, _] rfl c72 rfl rfl oS_reaches iS_reaches sS_reaches yS_37 (by decide) ⟨Nat.le_refl _, Nat.le_refl _⟩ rfl (Nat.le_of_ble_eq_true rfl) dS_refusalOfPlace_15 h (fun z2 r2 m2 h => ?_)
    obtain ⟨sw2, rfl, h⟩ := h
    refine r_if_ne (tgt := 26) dS_refusalOfPlace_18 (by decide) (fun hc => ?_) (fun hc => ?_)
    · replace h := h.1 hc
      refine r_iload_n 3 0 rfl dS_refusalOfPlace_26 rfl ?_
      exact q_iret rfl h dS_refusalOfPlace_27
    · replace h := h.2 hc
      refine r_bipush (by decide) dS_refusalOfPlace_21 ?_
      refine r_goto (tgt := 27) dS_refusalOfPlace_23 (by decide) ?_
      exact q_iret rfl h dS_refusalOfPlace_27
theorem dS_reaches_0 : decode mS_reaches.2.1 0 = .ok (.iload_n 2, 1) := by decide +kernel
theorem dS_reaches_1 : decode mS_reaches.2.1 1 = .ok (.ifCond .lt 23, 3) := by decide +kernel
theorem dS_reaches_4 : decode mS_reaches.2.1 4 = .ok (.iload_n 3, 1) := by decide +kernel
theorem dS_reaches_5 : decode mS_reaches.2.1 5 = .ok (.ifCond .lt 19, 3) := by decide +kernel
theorem dS_reaches_8 : decode mS_reaches.2.1 8 = .ok (.iload_n 2, 1) := by decide +kernel
theorem dS_reaches_9 : decode mS_reaches.2.1 9 = .ok (.aload_n 0, 1) := by decide +kernel
theorem dS_reaches_10 : decode mS_reaches.2.1 10 = .ok (.getfield 21, 3) := by decide +kernel
theorem dS_reaches_13 : decode mS_reaches.2.1 13 = .ok (.iload_n 1, 1) := by decide +kernel
theorem dS_reaches_14 : decode mS_reaches.2.1 14 = .ok (.iaload, 1) := by decide +kernel
theorem dS_reaches_15 : decode mS_reaches.2.1 15 = .ok (.iload_n 3, 1) := by decide +kernel
theorem dS_reaches_16 : decode mS_reaches.2.1 16 = .ok (.isub, 1) := by decide +kernel
theorem dS_reaches_17 : decode mS_reaches.2.1 17 = .ok (.if_icmp .gt 7, 3) := by decide +kernel
theorem dS_reaches_20 : decode mS_reaches.2.1 20 = .ok (.iconst 1, 1) := by decide +kernel
theorem dS_reaches_21 : decode mS_reaches.2.1 21 = .ok (.goto 4, 3) := by decide +kernel
theorem dS_reaches_24 : decode mS_reaches.2.1 24 = .ok (.iconst 0, 1) := by decide +kernel
theorem dS_reaches_25 : decode mS_reaches.2.1 25 = .ok (.ireturn, 1) := by decide +kernel
/- S_reaches: (III)Z -/
set_option maxRecDepth 4000 in
theorem wS_reaches {X : Cx} (a1 a2 a3 : Int) (sw : Bool) (m : Mem) (Q : Int → Bool → Mem → Prop) (h : ((w32 a2 < 0 → Q 0 sw m) ∧ (¬ (w32 a2 < 0) → ((w32 a3 < 0 → Q 0 sw m) ∧ (¬ (w32 a3 < 0) → ((0 ≤ w32 a1 ∧ w32 a1 < 6) ∧ ((w32 ((m 76 (w32 a1)) - a3) < w32 a2 → Q 0 sw m) ∧ (¬ (w32 ((m 76 (w32 a1)) - a3) < w32 a2) → Q 1 sw m)))))))) : M2 X 1 mS_reaches [vr 72, vi a1, vi a2, vi a3] sw m Q := by
  refine Mt.of pS_reaches (Nat.le_of_ble_eq_true rfl) (Nat.le_refl _) ?_
  show R2 X 1 mS_reaches 0 [(0, vr 72), (1, vi a1), (2, vi a2), (3, vi a3)] [] sw m Q
  refine r_iload_n 2 2 rfl dS_reaches_0 rfl ?_
  refine r_if_lt (tgt := 24) dS_reaches_1 (by decide) (fun hc => ?_) (fun hc => ?_)
  · replace h := h.1 hc
    refine r_iconst dS_reaches_24 ?_
    exact q_bret rfl (Or.inl rfl) h dS_reaches_25
  · replace h := h.2 hc
    refine r_iload_n 3 3 rfl dS_reaches_4 rfl ?_
    refine r_if_lt (tgt := 24) dS_reaches_5 (by decide) (fun hc => ?_) (fun hc => ?_)
    · replace h := h.1 hc
      refine r_iconst dS_reaches_24 ?_
      exact q_bret rfl (Or.inl rfl) h dS_reaches_25
    · replace h := h.2 hc
      refine r_iload_n 2 2 rfl dS_reaches_8 rfl ?_
      refine r_aload_n 0 0 rfl dS_reaches_9 rfl ?_
      refine q_getR 3 c72 fS_21 rfl rfl (g72_3 sw) (by decide) dS_reaches_10 ?_
      refine r_iload_n 1 1 rfl dS_reaches_13 rfl ?_
      refine q_iaload (w32 a1) rfl c76 h.1 dS_reaches_14 ?_
      replace h := h.2
      refine r_iload_n 3 3 rfl dS_reaches_15 rfl ?_
      refine r_isub dS_reaches_16 ?_
      refine r_ifc_gt (tgt := 24) dS_reaches_17 (by decide) (fun hc => ?_) (fun hc => ?_)
      · replace h := h.1 hc
        refine r_iconst dS_reaches_24 ?_
        exact q_bret rfl (Or.inl rfl) h dS_reaches_25
      · replace h := h.2 hc
        refine r_iconst dS_reaches_20 ?_
        refine r_goto (tgt := 25) dS_reaches_21 (by decide) ?_
        exact q_bret rfl (Or.inr rfl) h dS_reaches_25
theorem dS_sizeOf_0 : decode mS_sizeOf.2.1 0 = .ok (.aload_n 0, 1) := by decide +kernel
theorem dS_sizeOf_1 : decode mS_sizeOf.2.1 1 = .ok (.iload_n 1, 1) := by decide +kernel
theorem dS_sizeOf_2 : decode mS_sizeOf.2.1 2 = .ok (.iconst 2, 1) := by decide +kernel
theorem dS_sizeOf_3 : decode mS_sizeOf.2.1 3 = .ok (.invokevirtual 33, 3) := by decide +kernel
theorem dS_sizeOf_6 : decode mS_sizeOf.2.1 6 = .ok (.ifCond .ne 12, 3) := by decide +kernel
theorem dS_sizeOf_9 : decode mS_sizeOf.2.1 9 = .ok (.aload_n 0, 1) := by decide +kernel
theorem dS_sizeOf_10 : decode mS_sizeOf.2.1 10 = .ok (.getfield 21, 3) := by decide +kernel
theorem dS_sizeOf_13 : decode mS_sizeOf.2.1 13 = .ok (.iload_n 1, 1) := by decide +kernel
theorem dS_sizeOf_14 : decode mS_sizeOf.2.1 14 = .ok (.iaload, 1) := by decide +kernel
theorem dS_sizeOf_15 : decode mS_sizeOf.2.1 15 = .ok (.goto 4, 3) := by decide +kernel
theorem dS_sizeOf_18 : decode mS_sizeOf.2.1 18 = .ok (.iconst 0, 1) := by decide +kernel
theorem dS_sizeOf_19 : decode mS_sizeOf.2.1 19 = .ok (.ireturn, 1) := by decide +kernel
/- S_sizeOf: (I)I -/
set_option maxRecDepth 4000 in
theorem wS_sizeOf {X : Cx} (a1 : Int) (sw : Bool) (m : Mem) (Q : Int → Bool → Mem → Prop) (h : M2 X 2 mS_refusalOf [vr 72, vi a1, vi 2] sw m (fun z1 sw1 m1 => ((¬ w32 z1 = 0 → Q 0 sw1 m1) ∧ (¬ (¬ w32 z1 = 0) → ((0 ≤ w32 a1 ∧ w32 a1 < 6) ∧ Q (m1 76 (w32 a1)) sw1 m1))))) : M2 X 3 mS_sizeOf [vr 72, vi a1] sw m Q := by
  refine Mt.of pS_sizeOf (Nat.le_of_ble_eq_true rfl) (Nat.le_refl _) ?_
  show R2 X 3 mS_sizeOf 0 [(0, vr 72), (1, vi a1)] [] sw m Q
  refine r_aload_n 0 0 rfl dS_sizeOf_0 rfl ?_
  refine r_iload_n 1 1 rfl dS_sizeOf_1 rfl ?_
  refine r_iconst dS_sizeOf_2 ?_
  refine r_callVi 11 [_, _] rfl c72 rfl rfl oS_refusalOf iS_refusalOf sS_refusalOf yS_33 (by decide) ⟨Nat.le_refl _, Nat.le_refl _⟩ rfl (Nat.le_of_ble_eq_true rfl) dS_sizeOf_3 h (fun z1 r1 m1 h => ?_)
  obtain ⟨sw1, rfl, h⟩ := h
  refine r_if_ne (tgt := 18) dS_sizeOf_6 (by decide) (fun hc => ?_) (fun hc => ?_)
  · replace h := h.1 hc
    refine r_iconst dS_sizeOf_18 ?_
    exact q_iret rfl h dS_sizeOf_19
  · replace h := h.2 hc
    refine r_aload_n 0 0 rfl dS_sizeOf_9 rfl ?_
    refine q_getR 3 c72 fS_21 rfl rfl (g72_3 sw1) (by decide) dS_sizeOf_10 ?_
    refine r_iload_n 1 1 rfl dS_sizeOf_13 rfl ?_
    refine q_iaload (w32 a1) rfl c76 h.1 dS_sizeOf_14 ?_
    replace h := h.2
    refine r_goto (tgt := 19) dS_sizeOf_15 (by decide) ?_
    exact q_iret rfl h dS_sizeOf_19
theorem dS_cell_0 : decode mS_cell.2.1 0 = .ok (.aload_n 0, 1) := by decide +kernel
theorem dS_cell_1 : decode mS_cell.2.1 1 = .ok (.iload_n 1, 1) := by decide +kernel
theorem dS_cell_2 : decode mS_cell.2.1 2 = .ok (.iload_n 2, 1) := by decide +kernel
theorem dS_cell_3 : decode mS_cell.2.1 3 = .ok (.invokevirtual 41, 3) := by decide +kernel
theorem dS_cell_6 : decode mS_cell.2.1 6 = .ok (.ifCond .ne 14, 3) := by decide +kernel
theorem dS_cell_9 : decode mS_cell.2.1 9 = .ok (.aload_n 0, 1) := by decide +kernel
theorem dS_cell_10 : decode mS_cell.2.1 10 = .ok (.getfield 26, 3) := by decide +kernel
theorem dS_cell_13 : decode mS_cell.2.1 13 = .ok (.iload_n 1, 1) := by decide +kernel
theorem dS_cell_14 : decode mS_cell.2.1 14 = .ok (.aaload, 1) := by decide +kernel
theorem dS_cell_15 : decode mS_cell.2.1 15 = .ok (.iload_n 2, 1) := by decide +kernel
theorem dS_cell_16 : decode mS_cell.2.1 16 = .ok (.laload, 1) := by decide +kernel
theorem dS_cell_17 : decode mS_cell.2.1 17 = .ok (.goto 4, 3) := by decide +kernel
theorem dS_cell_20 : decode mS_cell.2.1 20 = .ok (.lconst 0, 1) := by decide +kernel
theorem dS_cell_21 : decode mS_cell.2.1 21 = .ok (.lreturn, 1) := by decide +kernel
/- S_cell: (II)J -/
set_option maxRecDepth 4000 in
theorem wS_cell {X : Cx} (a1 a2 : Int) (sw : Bool) (m : Mem) (Q : Int → Bool → Mem → Prop) (h : M2 X 3 mS_refusalOfPlace [vr 72, vi a1, vi a2] sw m (fun z1 sw1 m1 => ((¬ w32 z1 = 0 → Q 0 sw1 m1) ∧ (¬ (¬ w32 z1 = 0) → ((0 ≤ w32 a1 ∧ w32 a1 < 6) ∧ ((0 ≤ w32 a2 ∧ w32 a2 < 60) ∧ Q (m1 (78 + w32 a1) (w32 a2)) sw1 m1)))))) : M2 X 4 mS_cell [vr 72, vi a1, vi a2] sw m Q := by
  refine Mt.of pS_cell (Nat.le_of_ble_eq_true rfl) (Nat.le_refl _) ?_
  show R2 X 4 mS_cell 0 [(0, vr 72), (1, vi a1), (2, vi a2)] [] sw m Q
  refine r_aload_n 0 0 rfl dS_cell_0 rfl ?_
  refine r_iload_n 1 1 rfl dS_cell_1 rfl ?_
  refine r_iload_n 2 2 rfl dS_cell_2 rfl ?_
  refine r_callVi 11 [_, _] rfl c72 rfl rfl oS_refusalOfPlace iS_refusalOfPlace sS_refusalOfPlace yS_41 (by decide) ⟨Nat.le_refl _, Nat.le_refl _⟩ rfl (Nat.le_of_ble_eq_true rfl) dS_cell_3 h (fun z1 r1 m1 h => ?_)
  obtain ⟨sw1, rfl, h⟩ := h
  refine r_if_ne (tgt := 20) dS_cell_6 (by decide) (fun hc => ?_) (fun hc => ?_)
  · replace h := h.1 hc
    refine r_lconst dS_cell_20 ?_
    exact q_lret rfl h dS_cell_21
  · replace h := h.2 hc
    refine r_aload_n 0 0 rfl dS_cell_9 rfl ?_
    refine q_getR 4 c72 fS_26 rfl rfl (g72_4 sw1) (by decide) dS_cell_10 ?_
    refine r_iload_n 1 1 rfl dS_cell_13 rfl ?_
    have hi1 := h.1
    replace h := h.2
    refine q_aaload (w32 a1) (by decide) rfl c77 hi1 (gr77 sw1 hi1) (nr77 hi1) dS_cell_14 ?_
    refine r_iload_n 2 2 rfl dS_cell_15 rfl ?_
    refine q_laload (w32 a2) rfl (cr77 hi1) h.1 dS_cell_16 ?_
    replace h := h.2
    refine r_goto (tgt := 21) dS_cell_17 (by decide) ?_
    exact q_lret rfl h dS_cell_21
theorem dS_bodyOn_0 : decode mS_bodyOn.2.1 0 = .ok (.aload_n 0, 1) := by decide +kernel
theorem dS_bodyOn_1 : decode mS_bodyOn.2.1 1 = .ok (.iload_n 1, 1) := by decide +kernel
theorem dS_bodyOn_2 : decode mS_bodyOn.2.1 2 = .ok (.invokevirtual 44, 3) := by decide +kernel
theorem dS_bodyOn_5 : decode mS_bodyOn.2.1 5 = .ok (.ifCond .ne 12, 3) := by decide +kernel
theorem dS_bodyOn_8 : decode mS_bodyOn.2.1 8 = .ok (.aload_n 0, 1) := by decide +kernel
theorem dS_bodyOn_9 : decode mS_bodyOn.2.1 9 = .ok (.getfield 15, 3) := by decide +kernel
theorem dS_bodyOn_12 : decode mS_bodyOn.2.1 12 = .ok (.iload_n 1, 1) := by decide +kernel
theorem dS_bodyOn_13 : decode mS_bodyOn.2.1 13 = .ok (.iaload, 1) := by decide +kernel
theorem dS_bodyOn_14 : decode mS_bodyOn.2.1 14 = .ok (.goto 4, 3) := by decide +kernel
theorem dS_bodyOn_17 : decode mS_bodyOn.2.1 17 = .ok (.iconst (-1), 1) := by decide +kernel
theorem dS_bodyOn_18 : decode mS_bodyOn.2.1 18 = .ok (.ireturn, 1) := by decide +kernel
/- S_bodyOn: (I)I -/
set_option maxRecDepth 4000 in
theorem wS_bodyOn {X : Cx} (a1 : Int) (sw : Bool) (m : Mem) (Q : Int → Bool → Mem → Prop) (h : M2 X 3 mS_refusalOfBody [vr 72, vi a1] sw m (fun z1 sw1 m1 => ((¬ w32 z1 = 0 → Q (-1) sw1 m1) ∧ (¬ (¬ w32 z1 = 0) → ((0 ≤ w32 a1 ∧ w32 a1 < 6) ∧ Q (m1 74 (w32 a1)) sw1 m1))))) : M2 X 4 mS_bodyOn [vr 72, vi a1] sw m Q := by
  refine Mt.of pS_bodyOn (Nat.le_of_ble_eq_true rfl) (Nat.le_refl _) ?_
  show R2 X 4 mS_bodyOn 0 [(0, vr 72), (1, vi a1)] [] sw m Q
  refine r_aload_n 0 0 rfl dS_bodyOn_0 rfl ?_
  refine r_iload_n 1 1 rfl dS_bodyOn_1 rfl ?_
  refine r_callVi 11 [_] rfl c72 rfl rfl oS_refusalOfBody iS_refusalOfBody sS_refusalOfBody yS_44 (by decide) ⟨Nat.le_refl _, Nat.le_refl _⟩ rfl (Nat.le_of_ble_eq_true rfl) dS_bodyOn_2 h (fun z1 r1 m1 h => ?_)
  obtain ⟨sw1, rfl, h⟩ := h
  refine r_if_ne (tgt := 17) dS_bodyOn_5 (by decide) (fun hc => ?_) (fun hc => ?_)
  · replace h := h.1 hc
    refine r_iconst dS_bodyOn_17 ?_
    exact q_iret rfl h dS_bodyOn_18
  · replace h := h.2 hc
    refine r_aload_n 0 0 rfl dS_bodyOn_8 rfl ?_
    refine q_getR 1 c72 fS_15 rfl rfl (g72_1 sw1) (by decide) dS_bodyOn_9 ?_
    refine r_iload_n 1 1 rfl dS_bodyOn_12 rfl ?_
    refine q_iaload (w32 a1) rfl c74 h.1 dS_bodyOn_13 ?_
    replace h := h.2
    refine r_goto (tgt := 18) dS_bodyOn_14 (by decide) ?_
    exact q_iret rfl h dS_bodyOn_18
theorem dS_holdBody_0 : decode mS_holdBody.2.1 0 = .ok (.iload_n 1, 1) := by decide +kernel
theorem dS_holdBody_1 : decode mS_holdBody.2.1 1 = .ok (.invokestatic 29, 3) := by decide +kernel
theorem dS_holdBody_4 : decode mS_holdBody.2.1 4 = .ok (.ifCond .ne 5, 3) := by decide +kernel
theorem dS_holdBody_7 : decode mS_holdBody.2.1 7 = .ok (.iconst (-1), 1) := by decide +kernel
theorem dS_holdBody_8 : decode mS_holdBody.2.1 8 = .ok (.ireturn, 1) := by decide +kernel
theorem dS_holdBody_9 : decode mS_holdBody.2.1 9 = .ok (.aload_n 0, 1) := by decide +kernel
theorem dS_holdBody_10 : decode mS_holdBody.2.1 10 = .ok (.getfield 11, 3) := by decide +kernel
theorem dS_holdBody_13 : decode mS_holdBody.2.1 13 = .ok (.iload_n 1, 1) := by decide +kernel
theorem dS_holdBody_14 : decode mS_holdBody.2.1 14 = .ok (.iload_n 2, 1) := by decide +kernel
theorem dS_holdBody_15 : decode mS_holdBody.2.1 15 = .ok (.iconst (-1), 1) := by decide +kernel
theorem dS_holdBody_16 : decode mS_holdBody.2.1 16 = .ok (.if_icmp .ne 7, 3) := by decide +kernel
theorem dS_holdBody_19 : decode mS_holdBody.2.1 19 = .ok (.iconst 0, 1) := by decide +kernel
theorem dS_holdBody_20 : decode mS_holdBody.2.1 20 = .ok (.goto 4, 3) := by decide +kernel
theorem dS_holdBody_23 : decode mS_holdBody.2.1 23 = .ok (.iconst 1, 1) := by decide +kernel
theorem dS_holdBody_24 : decode mS_holdBody.2.1 24 = .ok (.iastore, 1) := by decide +kernel
theorem dS_holdBody_25 : decode mS_holdBody.2.1 25 = .ok (.aload_n 0, 1) := by decide +kernel
theorem dS_holdBody_26 : decode mS_holdBody.2.1 26 = .ok (.getfield 15, 3) := by decide +kernel
theorem dS_holdBody_29 : decode mS_holdBody.2.1 29 = .ok (.iload_n 1, 1) := by decide +kernel
theorem dS_holdBody_30 : decode mS_holdBody.2.1 30 = .ok (.iload_n 2, 1) := by decide +kernel
theorem dS_holdBody_31 : decode mS_holdBody.2.1 31 = .ok (.iastore, 1) := by decide +kernel
theorem dS_holdBody_32 : decode mS_holdBody.2.1 32 = .ok (.iconst 1, 1) := by decide +kernel
theorem dS_holdBody_33 : decode mS_holdBody.2.1 33 = .ok (.ireturn, 1) := by decide +kernel
/- S_holdBody: (II)I -/
set_option maxRecDepth 4000 in
theorem wS_holdBody {X : Cx} (a1 a2 : Int) (sw : Bool) (m : Mem) (Q : Int → Bool → Mem → Prop) (h : M2 X 1 mS_isShelf [vi a1] sw m (fun z1 sw1 m1 => ((¬ w32 z1 = 0 → ((¬ w32 a2 = (-1) → ((0 ≤ w32 a1 ∧ w32 a1 < 6) ∧ ((0 ≤ w32 a1 ∧ w32 a1 < 6) ∧ Q 1 sw1 (upm (upm m1 73 (w32 a1) 1) 74 (w32 a1) a2)))) ∧ (¬ (¬ w32 a2 = (-1)) → ((0 ≤ w32 a1 ∧ w32 a1 < 6) ∧ ((0 ≤ w32 a1 ∧ w32 a1 < 6) ∧ Q 1 sw1 (upm (upm m1 73 (w32 a1) 0) 74 (w32 a1) a2)))))) ∧ (¬ (¬ w32 z1 = 0) → Q (-1) sw1 m1)))) : M2 X 2 mS_holdBody [vr 72, vi a1, vi a2] sw m Q := by
  refine Mt.of pS_holdBody (Nat.le_of_ble_eq_true rfl) (Nat.le_refl _) ?_
  show R2 X 2 mS_holdBody 0 [(0, vr 72), (1, vi a1), (2, vi a2)] [] sw m Q
  refine r_iload_n 1 1 rfl dS_holdBody_0 rfl ?_
  refine r_callSb [_] rfl oS_isShelf iS_isShelf yS_29 (by decide) ⟨Nat.le_refl _, Nat.le_refl _⟩ rfl (Nat.le_of_ble_eq_true rfl) dS_holdBody_1 h (fun z1 r1 m1 h => ?_)
  obtain ⟨sw1, rfl, h⟩ := h
  refine r_if_ne (tgt := 9) dS_holdBody_4 (by decide) (fun hc => ?_) (fun hc => ?_)
  · replace h := h.1 hc
    refine r_aload_n 0 0 rfl dS_holdBody_9 rfl ?_
    refine q_getR 0 c72 fS_11 rfl rfl (g72_0 sw1) (by decide) dS_holdBody_10 ?_
    refine r_iload_n 1 1 rfl dS_holdBody_13 rfl ?_
    refine r_iload_n 2 2 rfl dS_holdBody_14 rfl ?_
    refine r_iconst dS_holdBody_15 ?_
    refine r_ifc_ne (tgt := 23) dS_holdBody_16 (by decide) (fun hc => ?_) (fun hc => ?_)
    · replace h := h.1 hc
      refine r_iconst dS_holdBody_23 ?_
      refine q_iastore (w32 a1) rfl c73 h.1 dS_holdBody_24 ?_
      replace h := h.2
      refine r_aload_n 0 0 rfl dS_holdBody_25 rfl ?_
      refine q_getR 1 c72 fS_15 rfl rfl (g72_1 sw1) (by decide) dS_holdBody_26 ?_
      refine r_iload_n 1 1 rfl dS_holdBody_29 rfl ?_
      refine r_iload_n 2 2 rfl dS_holdBody_30 rfl ?_
      refine q_iastore (w32 a1) rfl c74 h.1 dS_holdBody_31 ?_
      replace h := h.2
      refine r_iconst dS_holdBody_32 ?_
      exact q_iret rfl h dS_holdBody_33
    · replace h := h.2 hc
      refine r_iconst dS_holdBody_19 ?_
      refine r_goto (tgt := 24) dS_holdBody_20 (by decide) ?_
      refine q_iastore (w32 a1) rfl c73 h.1 dS_holdBody_24 ?_
      replace h := h.2
      refine r_aload_n 0 0 rfl dS_holdBody_25 rfl ?_
      refine q_getR 1 c72 fS_15 rfl rfl (g72_1 sw1) (by decide) dS_holdBody_26 ?_
      refine r_iload_n 1 1 rfl dS_holdBody_29 rfl ?_
      refine r_iload_n 2 2 rfl dS_holdBody_30 rfl ?_
      refine q_iastore (w32 a1) rfl c74 h.1 dS_holdBody_31 ?_
      replace h := h.2
      refine r_iconst dS_holdBody_32 ?_
      exact q_iret rfl h dS_holdBody_33
  · replace h := h.2 hc
    refine r_iconst dS_holdBody_7 ?_
    exact q_iret rfl h dS_holdBody_8
theorem dS_holdRow_0 : decode mS_holdRow.2.1 0 = .ok (.iload_n 1, 1) := by decide +kernel
theorem dS_holdRow_1 : decode mS_holdRow.2.1 1 = .ok (.invokestatic 29, 3) := by decide +kernel
theorem dS_holdRow_4 : decode mS_holdRow.2.1 4 = .ok (.ifCond .eq 18, 3) := by decide +kernel
theorem dS_holdRow_7 : decode mS_holdRow.2.1 7 = .ok (.iload_n 2, 1) := by decide +kernel
theorem dS_holdRow_8 : decode mS_holdRow.2.1 8 = .ok (.ifCond .lt 14, 3) := by decide +kernel
theorem dS_holdRow_11 : decode mS_holdRow.2.1 11 = .ok (.iload_n 2, 1) := by decide +kernel
theorem dS_holdRow_12 : decode mS_holdRow.2.1 12 = .ok (.iconst 4, 1) := by decide +kernel
theorem dS_holdRow_13 : decode mS_holdRow.2.1 13 = .ok (.if_icmp .gt 9, 3) := by decide +kernel
theorem dS_holdRow_16 : decode mS_holdRow.2.1 16 = .ok (.iload_n 3, 1) := by decide +kernel
theorem dS_holdRow_17 : decode mS_holdRow.2.1 17 = .ok (.bipush 60, 2) := by decide +kernel
theorem dS_holdRow_19 : decode mS_holdRow.2.1 19 = .ok (.if_icmp .le 5, 3) := by decide +kernel
theorem dS_holdRow_22 : decode mS_holdRow.2.1 22 = .ok (.iconst (-1), 1) := by decide +kernel
theorem dS_holdRow_23 : decode mS_holdRow.2.1 23 = .ok (.ireturn, 1) := by decide +kernel
theorem dS_holdRow_24 : decode mS_holdRow.2.1 24 = .ok (.iload_n 3, 1) := by decide +kernel
theorem dS_holdRow_25 : decode mS_holdRow.2.1 25 = .ok (.ifCond .ge 6, 3) := by decide +kernel
theorem dS_holdRow_28 : decode mS_holdRow.2.1 28 = .ok (.bipush (-14), 2) := by decide +kernel
theorem dS_holdRow_30 : decode mS_holdRow.2.1 30 = .ok (.ireturn, 1) := by decide +kernel
theorem dS_holdRow_31 : decode mS_holdRow.2.1 31 = .ok (.aload_n 0, 1) := by decide +kernel
theorem dS_holdRow_32 : decode mS_holdRow.2.1 32 = .ok (.getfield 11, 3) := by decide +kernel
theorem dS_holdRow_35 : decode mS_holdRow.2.1 35 = .ok (.iload_n 1, 1) := by decide +kernel
theorem dS_holdRow_36 : decode mS_holdRow.2.1 36 = .ok (.iconst 2, 1) := by decide +kernel
theorem dS_holdRow_37 : decode mS_holdRow.2.1 37 = .ok (.iastore, 1) := by decide +kernel
theorem dS_holdRow_38 : decode mS_holdRow.2.1 38 = .ok (.aload_n 0, 1) := by decide +kernel
theorem dS_holdRow_39 : decode mS_holdRow.2.1 39 = .ok (.getfield 18, 3) := by decide +kernel
theorem dS_holdRow_42 : decode mS_holdRow.2.1 42 = .ok (.iload_n 1, 1) := by decide +kernel
theorem dS_holdRow_43 : decode mS_holdRow.2.1 43 = .ok (.iload_n 2, 1) := by decide +kernel
theorem dS_holdRow_44 : decode mS_holdRow.2.1 44 = .ok (.iastore, 1) := by decide +kernel
theorem dS_holdRow_45 : decode mS_holdRow.2.1 45 = .ok (.aload_n 0, 1) := by decide +kernel
theorem dS_holdRow_46 : decode mS_holdRow.2.1 46 = .ok (.getfield 21, 3) := by decide +kernel
theorem dS_holdRow_49 : decode mS_holdRow.2.1 49 = .ok (.iload_n 1, 1) := by decide +kernel
theorem dS_holdRow_50 : decode mS_holdRow.2.1 50 = .ok (.iload_n 3, 1) := by decide +kernel
theorem dS_holdRow_51 : decode mS_holdRow.2.1 51 = .ok (.iastore, 1) := by decide +kernel
theorem dS_holdRow_52 : decode mS_holdRow.2.1 52 = .ok (.aload_n 0, 1) := by decide +kernel
theorem dS_holdRow_53 : decode mS_holdRow.2.1 53 = .ok (.getfield 26, 3) := by decide +kernel
theorem dS_holdRow_56 : decode mS_holdRow.2.1 56 = .ok (.iload_n 1, 1) := by decide +kernel
theorem dS_holdRow_57 : decode mS_holdRow.2.1 57 = .ok (.aaload, 1) := by decide +kernel
theorem dS_holdRow_58 : decode mS_holdRow.2.1 58 = .ok (.lconst 0, 1) := by decide +kernel
theorem dS_holdRow_59 : decode mS_holdRow.2.1 59 = .ok (.invokestatic 48, 3) := by decide +kernel
theorem dS_holdRow_62 : decode mS_holdRow.2.1 62 = .ok (.iconst 1, 1) := by decide +kernel
theorem dS_holdRow_63 : decode mS_holdRow.2.1 63 = .ok (.ireturn, 1) := by decide +kernel
/- S_holdRow: (III)I -/
set_option maxRecDepth 4000 in
theorem wS_holdRow {X : Cx} (a1 a2 a3 : Int) (sw : Bool) (m : Mem) (Q : Int → Bool → Mem → Prop) (h : M2 X 1 mS_isShelf [vi a1] sw m (fun z1 sw1 m1 => ((w32 z1 = 0 → Q (-1) sw1 m1) ∧ (¬ (w32 z1 = 0) → ((w32 a2 < 0 → Q (-1) sw1 m1) ∧ (¬ (w32 a2 < 0) → ((4 < w32 a2 → Q (-1) sw1 m1) ∧ (¬ (4 < w32 a2) → ((w32 a3 ≤ 60 → ((0 ≤ w32 a3 → ((0 ≤ w32 a1 ∧ w32 a1 < 6) ∧ ((0 ≤ w32 a1 ∧ w32 a1 < 6) ∧ ((0 ≤ w32 a1 ∧ w32 a1 < 6) ∧ ((0 ≤ w32 a1 ∧ w32 a1 < 6) ∧ M2 X 1 mJ_fill [vr (78 + w32 a1), vl 0] sw1 (upm (upm (upm m1 73 (w32 a1) 2) 75 (w32 a1) a2) 76 (w32 a1) a3) (fun z3 sw3 m3 => Q 1 sw3 m3)))))) ∧ (¬ (0 ≤ w32 a3) → Q (-14) sw1 m1))) ∧ (¬ (w32 a3 ≤ 60) → Q (-1) sw1 m1)))))))))) : M2 X 2 mS_holdRow [vr 72, vi a1, vi a2, vi a3] sw m Q := by
  refine Mt.of pS_holdRow (Nat.le_of_ble_eq_true rfl) (Nat.le_refl _) ?_
  show R2 X 2 mS_holdRow 0 [(0, vr 72), (1, vi a1), (2, vi a2), (3, vi a3)] [] sw m Q
  refine r_iload_n 1 1 rfl dS_holdRow_0 rfl ?_
  refine r_callSb [_] rfl oS_isShelf iS_isShelf yS_29 (by decide) ⟨Nat.le_refl _, Nat.le_refl _⟩ rfl (Nat.le_of_ble_eq_true rfl) dS_holdRow_1 h (fun z1 r1 m1 h => ?_)
  obtain ⟨sw1, rfl, h⟩ := h
  refine r_if_eq (tgt := 22) dS_holdRow_4 (by decide) (fun hc => ?_) (fun hc => ?_)
  · replace h := h.1 hc
    refine r_iconst dS_holdRow_22 ?_
    exact q_iret rfl h dS_holdRow_23
  · replace h := h.2 hc
    refine r_iload_n 2 2 rfl dS_holdRow_7 rfl ?_
    refine r_if_lt (tgt := 22) dS_holdRow_8 (by decide) (fun hc => ?_) (fun hc => ?_)
    · replace h := h.1 hc
      refine r_iconst dS_holdRow_22 ?_
      exact q_iret rfl h dS_holdRow_23
    · replace h := h.2 hc
      refine r_iload_n 2 2 rfl dS_holdRow_11 rfl ?_
      refine r_iconst dS_holdRow_12 ?_
      refine r_ifc_gt (tgt := 22) dS_holdRow_13 (by decide) (fun hc => ?_) (fun hc => ?_)
      · replace h := h.1 hc
        refine r_iconst dS_holdRow_22 ?_
        exact q_iret rfl h dS_holdRow_23
      · replace h := h.2 hc
        refine r_iload_n 3 3 rfl dS_holdRow_16 rfl ?_
        refine r_bipush (by decide) dS_holdRow_17 ?_
        refine r_ifc_le (tgt := 24) dS_holdRow_19 (by decide) (fun hc => ?_) (fun hc => ?_)
        · replace h := h.1 hc
          refine r_iload_n 3 3 rfl dS_holdRow_24 rfl ?_
          refine r_if_ge (tgt := 31) dS_holdRow_25 (by decide) (fun hc => ?_) (fun hc => ?_)
          · replace h := h.1 hc
            refine r_aload_n 0 0 rfl dS_holdRow_31 rfl ?_
            refine q_getR 0 c72 fS_11 rfl rfl (g72_0 sw1) (by decide) dS_holdRow_32 ?_
            refine r_iload_n 1 1 rfl dS_holdRow_35 rfl ?_
            refine r_iconst dS_holdRow_36 ?_
            refine q_iastore (w32 a1) rfl c73 h.1 dS_holdRow_37 ?_
            replace h := h.2
            refine r_aload_n 0 0 rfl dS_holdRow_38 rfl ?_
            refine q_getR 2 c72 fS_18 rfl rfl (g72_2 sw1) (by decide) dS_holdRow_39 ?_
            refine r_iload_n 1 1 rfl dS_holdRow_42 rfl ?_
            refine r_iload_n 2 2 rfl dS_holdRow_43 rfl ?_
            refine q_iastore (w32 a1) rfl c75 h.1 dS_holdRow_44 ?_
            replace h := h.2
            refine r_aload_n 0 0 rfl dS_holdRow_45 rfl ?_
            refine q_getR 3 c72 fS_21 rfl rfl (g72_3 sw1) (by decide) dS_holdRow_46 ?_
            refine r_iload_n 1 1 rfl dS_holdRow_49 rfl ?_
            refine r_iload_n 3 3 rfl dS_holdRow_50 rfl ?_
            refine q_iastore (w32 a1) rfl c76 h.1 dS_holdRow_51 ?_
            replace h := h.2
            refine r_aload_n 0 0 rfl dS_holdRow_52 rfl ?_
            refine q_getR 4 c72 fS_26 rfl rfl (g72_4 sw1) (by decide) dS_holdRow_53 ?_
            refine r_iload_n 1 1 rfl dS_holdRow_56 rfl ?_
            have hi1 := h.1
            replace h := h.2
            refine q_aaload (w32 a1) (by decide) rfl c77 hi1 (gr77 sw1 hi1) (nr77 hi1) dS_holdRow_57 ?_
            refine r_lconst dS_holdRow_58 ?_
            refine r_callSv [_, _] rfl oJ_fill iJ_fill yS_48 (by decide) ⟨Nat.le_refl _, Nat.le_refl _⟩ rfl (Nat.le_of_ble_eq_true rfl) dS_holdRow_59 h (fun z3 r3 m3 h => ?_)
            obtain ⟨sw3, rfl, h⟩ := h
            refine r_iconst dS_holdRow_62 ?_
            exact q_iret rfl h dS_holdRow_63
          · replace h := h.2 hc
            refine r_bipush (by decide) dS_holdRow_28 ?_
            exact q_iret rfl h dS_holdRow_30
        · replace h := h.2 hc
          refine r_iconst dS_holdRow_22 ?_
          exact q_iret rfl h dS_holdRow_23
theorem dS_write_0 : decode mS_write.2.1 0 = .ok (.aload_n 0, 1) := by decide +kernel
theorem dS_write_1 : decode mS_write.2.1 1 = .ok (.iload_n 1, 1) := by decide +kernel
theorem dS_write_2 : decode mS_write.2.1 2 = .ok (.iload_n 2, 1) := by decide +kernel
theorem dS_write_3 : decode mS_write.2.1 3 = .ok (.invokevirtual 41, 3) := by decide +kernel
theorem dS_write_6 : decode mS_write.2.1 6 = .ok (.istore 5, 2) := by decide +kernel
theorem dS_write_8 : decode mS_write.2.1 8 = .ok (.iload 5, 2) := by decide +kernel
theorem dS_write_10 : decode mS_write.2.1 10 = .ok (.ifCond .ne 23, 3) := by decide +kernel
theorem dS_write_13 : decode mS_write.2.1 13 = .ok (.aload_n 0, 1) := by decide +kernel
theorem dS_write_14 : decode mS_write.2.1 14 = .ok (.getfield 26, 3) := by decide +kernel
theorem dS_write_17 : decode mS_write.2.1 17 = .ok (.iload_n 1, 1) := by decide +kernel
theorem dS_write_18 : decode mS_write.2.1 18 = .ok (.aaload, 1) := by decide +kernel
theorem dS_write_19 : decode mS_write.2.1 19 = .ok (.iload_n 2, 1) := by decide +kernel
theorem dS_write_20 : decode mS_write.2.1 20 = .ok (.aload_n 0, 1) := by decide +kernel
theorem dS_write_21 : decode mS_write.2.1 21 = .ok (.getfield 18, 3) := by decide +kernel
theorem dS_write_24 : decode mS_write.2.1 24 = .ok (.iload_n 1, 1) := by decide +kernel
theorem dS_write_25 : decode mS_write.2.1 25 = .ok (.iaload, 1) := by decide +kernel
theorem dS_write_26 : decode mS_write.2.1 26 = .ok (.lload_n 3, 1) := by decide +kernel
theorem dS_write_27 : decode mS_write.2.1 27 = .ok (.invokestatic 54, 3) := by decide +kernel
theorem dS_write_30 : decode mS_write.2.1 30 = .ok (.lastore, 1) := by decide +kernel
theorem dS_write_31 : decode mS_write.2.1 31 = .ok (.iconst 1, 1) := by decide +kernel
theorem dS_write_32 : decode mS_write.2.1 32 = .ok (.ireturn, 1) := by decide +kernel
theorem dS_write_33 : decode mS_write.2.1 33 = .ok (.iload 5, 2) := by decide +kernel
theorem dS_write_35 : decode mS_write.2.1 35 = .ok (.ireturn, 1) := by decide +kernel
/- S_write: (IIJ)I -/
set_option maxRecDepth 4000 in
theorem wS_write {X : Cx} (a1 a2 a3 : Int) (sw : Bool) (m : Mem) (Q : Int → Bool → Mem → Prop) (h : M2 X 3 mS_refusalOfPlace [vr 72, vi a1, vi a2] sw m (fun z1 sw1 m1 => ((¬ w32 z1 = 0 → Q z1 sw1 m1) ∧ (¬ (¬ w32 z1 = 0) → ((0 ≤ w32 a1 ∧ w32 a1 < 6) ∧ ((0 ≤ w32 a1 ∧ w32 a1 < 6) ∧ M2 X 1 mS_lowestBits [vi (m1 75 (w32 a1)), vl a3] sw1 m1 (fun z3 sw3 m3 => ((0 ≤ w32 a2 ∧ w32 a2 < 60) ∧ Q 1 sw3 (upm m3 (78 + w32 a1) (w32 a2) z3))))))))) : M2 X 4 mS_write [vr 72, vi a1, vi a2, vl a3] sw m Q := by
  refine Mt.of pS_write (Nat.le_of_ble_eq_true rfl) (Nat.le_refl _) ?_
  show R2 X 4 mS_write 0 [(0, vr 72), (1, vi a1), (2, vi a2), (3, vl a3)] [] sw m Q
  refine r_aload_n 0 0 rfl dS_write_0 rfl ?_
  refine r_iload_n 1 1 rfl dS_write_1 rfl ?_
  refine r_iload_n 2 2 rfl dS_write_2 rfl ?_
  refine r_callVi 11 [_, _] rfl c72 rfl rfl oS_refusalOfPlace iS_refusalOfPlace sS_refusalOfPlace yS_41 (by decide) ⟨Nat.le_refl _, Nat.le_refl _⟩ rfl (Nat.le_of_ble_eq_true rfl) dS_write_3 h (fun z1 r1 m1 h => ?_)
  obtain ⟨sw1, rfl, h⟩ := h
  refine r_istore 5 (by decide) dS_write_6 ?_
  refine r_iload 5 0 rfl dS_write_8 ?_
  refine r_if_ne (tgt := 33) dS_write_10 (by decide) (fun hc => ?_) (fun hc => ?_)
  · replace h := h.1 hc
    refine r_iload 5 0 rfl dS_write_33 ?_
    exact q_iret rfl h dS_write_35
  · replace h := h.2 hc
    refine r_aload_n 0 1 rfl dS_write_13 rfl ?_
    refine q_getR 4 c72 fS_26 rfl rfl (g72_4 sw1) (by decide) dS_write_14 ?_
    refine r_iload_n 1 2 rfl dS_write_17 rfl ?_
    have hi1 := h.1
    replace h := h.2
    refine q_aaload (w32 a1) (by decide) rfl c77 hi1 (gr77 sw1 hi1) (nr77 hi1) dS_write_18 ?_
    refine r_iload_n 2 3 rfl dS_write_19 rfl ?_
    refine r_aload_n 0 1 rfl dS_write_20 rfl ?_
    refine q_getR 2 c72 fS_18 rfl rfl (g72_2 sw1) (by decide) dS_write_21 ?_
    refine r_iload_n 1 2 rfl dS_write_24 rfl ?_
    refine q_iaload (w32 a1) rfl c75 h.1 dS_write_25 ?_
    replace h := h.2
    refine r_lload_n 3 4 rfl dS_write_26 rfl ?_
    refine r_callSl [_, _] rfl oS_lowestBits iS_lowestBits yS_54 (by decide) ⟨Nat.le_refl _, Nat.le_refl _⟩ rfl (Nat.le_of_ble_eq_true rfl) dS_write_27 h (fun z3 r3 m3 h => ?_)
    obtain ⟨sw3, rfl, h⟩ := h
    refine q_lastore (w32 a2) rfl (cr77 hi1) h.1 dS_write_30 ?_
    replace h := h.2
    refine r_iconst dS_write_31 ?_
    exact q_iret rfl h dS_write_32
theorem dS_lowestBits_0 : decode mS_lowestBits.2.1 0 = .ok (.iload_n 0, 1) := by decide +kernel
theorem dS_lowestBits_1 : decode mS_lowestBits.2.1 1 = .ok (.tableswitch 61 0 4 #[35, 40, 45, 61, 49], 35) := by decide +kernel
theorem dS_lowestBits_36 : decode mS_lowestBits.2.1 36 = .ok (.lload_n 1, 1) := by decide +kernel
theorem dS_lowestBits_37 : decode mS_lowestBits.2.1 37 = .ok (.l2i, 1) := by decide +kernel
theorem dS_lowestBits_38 : decode mS_lowestBits.2.1 38 = .ok (.i2b, 1) := by decide +kernel
theorem dS_lowestBits_39 : decode mS_lowestBits.2.1 39 = .ok (.i2l, 1) := by decide +kernel
theorem dS_lowestBits_40 : decode mS_lowestBits.2.1 40 = .ok (.lreturn, 1) := by decide +kernel
theorem dS_lowestBits_41 : decode mS_lowestBits.2.1 41 = .ok (.lload_n 1, 1) := by decide +kernel
theorem dS_lowestBits_42 : decode mS_lowestBits.2.1 42 = .ok (.l2i, 1) := by decide +kernel
theorem dS_lowestBits_43 : decode mS_lowestBits.2.1 43 = .ok (.i2s, 1) := by decide +kernel
theorem dS_lowestBits_44 : decode mS_lowestBits.2.1 44 = .ok (.i2l, 1) := by decide +kernel
theorem dS_lowestBits_45 : decode mS_lowestBits.2.1 45 = .ok (.lreturn, 1) := by decide +kernel
theorem dS_lowestBits_46 : decode mS_lowestBits.2.1 46 = .ok (.lload_n 1, 1) := by decide +kernel
theorem dS_lowestBits_47 : decode mS_lowestBits.2.1 47 = .ok (.l2i, 1) := by decide +kernel
theorem dS_lowestBits_48 : decode mS_lowestBits.2.1 48 = .ok (.i2l, 1) := by decide +kernel
theorem dS_lowestBits_49 : decode mS_lowestBits.2.1 49 = .ok (.lreturn, 1) := by decide +kernel
theorem dS_lowestBits_50 : decode mS_lowestBits.2.1 50 = .ok (.lload_n 1, 1) := by decide +kernel
theorem dS_lowestBits_51 : decode mS_lowestBits.2.1 51 = .ok (.lconst 0, 1) := by decide +kernel
theorem dS_lowestBits_52 : decode mS_lowestBits.2.1 52 = .ok (.lcmp, 1) := by decide +kernel
theorem dS_lowestBits_53 : decode mS_lowestBits.2.1 53 = .ok (.ifCond .eq 7, 3) := by decide +kernel
theorem dS_lowestBits_56 : decode mS_lowestBits.2.1 56 = .ok (.lconst 1, 1) := by decide +kernel
theorem dS_lowestBits_57 : decode mS_lowestBits.2.1 57 = .ok (.goto 4, 3) := by decide +kernel
theorem dS_lowestBits_60 : decode mS_lowestBits.2.1 60 = .ok (.lconst 0, 1) := by decide +kernel
theorem dS_lowestBits_61 : decode mS_lowestBits.2.1 61 = .ok (.lreturn, 1) := by decide +kernel
theorem dS_lowestBits_62 : decode mS_lowestBits.2.1 62 = .ok (.lload_n 1, 1) := by decide +kernel
theorem dS_lowestBits_63 : decode mS_lowestBits.2.1 63 = .ok (.lreturn, 1) := by decide +kernel
/- S_lowestBits: (IJ)J -/
set_option maxRecDepth 4000 in
theorem wS_lowestBits {X : Cx} (a0 a1 : Int) (sw : Bool) (m : Mem) (Q : Int → Bool → Mem → Prop) (h : ((w32 a0 = 0 → Q (w32 (w8 a1)) sw m) ∧ ((w32 a0 = 1 → Q (w32 (w16 a1)) sw m) ∧ ((w32 a0 = 2 → Q (w32 a1) sw m) ∧ ((w32 a0 = 3 → Q a1 sw m) ∧ ((w32 a0 = 4 → ((w64 a1 = 0 → Q 0 sw m) ∧ (¬ (w64 a1 = 0) → Q 1 sw m))) ∧ ((w32 a0 < 0 ∨ 4 < w32 a0) → Q a1 sw m))))))) : M2 X 1 mS_lowestBits [vi a0, vl a1] sw m Q := by
  refine Mt.of pS_lowestBits (Nat.le_of_ble_eq_true rfl) (Nat.le_refl _) ?_
  show R2 X 1 mS_lowestBits 0 [(0, vi a0), (1, vl a1)] [] sw m Q
  refine r_iload_n 0 0 rfl dS_lowestBits_0 rfl ?_
  by_cases hs0 : w32 a0 = 0
  · refine r_tabIn (off := 35) (tgt := 36) 0 hs0 dS_lowestBits_1 (by decide) (by decide) (by decide) (by decide) ?_
    replace h := h.1 hs0
    refine r_lload_n 1 1 rfl dS_lowestBits_36 rfl ?_
    refine r_l2i dS_lowestBits_37 ?_
    refine r_i2b dS_lowestBits_38 ?_
    refine r_i2l dS_lowestBits_39 ?_
    exact q_lret rfl h dS_lowestBits_40
  · replace h := h.2
    by_cases hs1 : w32 a0 = 1
    · refine r_tabIn (off := 40) (tgt := 41) 1 hs1 dS_lowestBits_1 (by decide) (by decide) (by decide) (by decide) ?_
      replace h := h.1 hs1
      refine r_lload_n 1 1 rfl dS_lowestBits_41 rfl ?_
      refine r_l2i dS_lowestBits_42 ?_
      refine r_i2s dS_lowestBits_43 ?_
      refine r_i2l dS_lowestBits_44 ?_
      exact q_lret rfl h dS_lowestBits_45
    · replace h := h.2
      by_cases hs2 : w32 a0 = 2
      · refine r_tabIn (off := 45) (tgt := 46) 2 hs2 dS_lowestBits_1 (by decide) (by decide) (by decide) (by decide) ?_
        replace h := h.1 hs2
        refine r_lload_n 1 1 rfl dS_lowestBits_46 rfl ?_
        refine r_l2i dS_lowestBits_47 ?_
        refine r_i2l dS_lowestBits_48 ?_
        exact q_lret rfl h dS_lowestBits_49
      · replace h := h.2
        by_cases hs3 : w32 a0 = 3
        · refine r_tabIn (off := 61) (tgt := 62) 3 hs3 dS_lowestBits_1 (by decide) (by decide) (by decide) (by decide) ?_
          replace h := h.1 hs3
          refine r_lload_n 1 1 rfl dS_lowestBits_62 rfl ?_
          exact q_lret rfl h dS_lowestBits_63
        · replace h := h.2
          by_cases hs4 : w32 a0 = 4
          · refine r_tabIn (off := 49) (tgt := 50) 4 hs4 dS_lowestBits_1 (by decide) (by decide) (by decide) (by decide) ?_
            replace h := h.1 hs4
            refine r_lload_n 1 1 rfl dS_lowestBits_50 rfl ?_
            refine r_lconst dS_lowestBits_51 ?_
            refine q_lc_eq (tgt := 60) (A := w64 a1) (B := 0) rfl (by decide +kernel) dS_lowestBits_52 dS_lowestBits_53 (by decide) (fun hc => ?_) (fun hc => ?_)
            · replace h := h.1 hc
              refine r_lconst dS_lowestBits_60 ?_
              exact q_lret rfl h dS_lowestBits_61
            · replace h := h.2 hc
              refine r_lconst dS_lowestBits_56 ?_
              refine r_goto (tgt := 61) dS_lowestBits_57 (by decide) ?_
              exact q_lret rfl h dS_lowestBits_61
          · replace h := h.2
            have hq : w32 a0 < 0 ∨ 4 < w32 a0 := by omega
            refine r_tabOut (tgt := 62) dS_lowestBits_1 hq (by decide) ?_
            replace h := h hq
            refine r_lload_n 1 1 rfl dS_lowestBits_62 rfl ?_
            exact q_lret rfl h dS_lowestBits_63
theorem dS_move_0 : decode mS_move.2.1 0 = .ok (.aload_n 0, 1) := by decide +kernel
theorem dS_move_1 : decode mS_move.2.1 1 = .ok (.iload_n 1, 1) := by decide +kernel
theorem dS_move_2 : decode mS_move.2.1 2 = .ok (.iconst 2, 1) := by decide +kernel
theorem dS_move_3 : decode mS_move.2.1 3 = .ok (.invokevirtual 33, 3) := by decide +kernel
theorem dS_move_6 : decode mS_move.2.1 6 = .ok (.istore 6, 2) := by decide +kernel
theorem dS_move_8 : decode mS_move.2.1 8 = .ok (.aload_n 0, 1) := by decide +kernel
theorem dS_move_9 : decode mS_move.2.1 9 = .ok (.iload_n 3, 1) := by decide +kernel
theorem dS_move_10 : decode mS_move.2.1 10 = .ok (.iconst 2, 1) := by decide +kernel
theorem dS_move_11 : decode mS_move.2.1 11 = .ok (.invokevirtual 33, 3) := by decide +kernel
theorem dS_move_14 : decode mS_move.2.1 14 = .ok (.istore 7, 2) := by decide +kernel
theorem dS_move_16 : decode mS_move.2.1 16 = .ok (.iload 6, 2) := by decide +kernel
theorem dS_move_18 : decode mS_move.2.1 18 = .ok (.iconst (-1), 1) := by decide +kernel
theorem dS_move_19 : decode mS_move.2.1 19 = .ok (.if_icmp .eq 9, 3) := by decide +kernel
theorem dS_move_22 : decode mS_move.2.1 22 = .ok (.iload 7, 2) := by decide +kernel
theorem dS_move_24 : decode mS_move.2.1 24 = .ok (.iconst (-1), 1) := by decide +kernel
theorem dS_move_25 : decode mS_move.2.1 25 = .ok (.if_icmp .ne 5, 3) := by decide +kernel
theorem dS_move_28 : decode mS_move.2.1 28 = .ok (.iconst (-1), 1) := by decide +kernel
theorem dS_move_29 : decode mS_move.2.1 29 = .ok (.ireturn, 1) := by decide +kernel
theorem dS_move_30 : decode mS_move.2.1 30 = .ok (.iload 6, 2) := by decide +kernel
theorem dS_move_32 : decode mS_move.2.1 32 = .ok (.bipush (-11), 2) := by decide +kernel
theorem dS_move_34 : decode mS_move.2.1 34 = .ok (.if_icmp .eq 10, 3) := by decide +kernel
theorem dS_move_37 : decode mS_move.2.1 37 = .ok (.iload 7, 2) := by decide +kernel
theorem dS_move_39 : decode mS_move.2.1 39 = .ok (.bipush (-11), 2) := by decide +kernel
theorem dS_move_41 : decode mS_move.2.1 41 = .ok (.if_icmp .ne 6, 3) := by decide +kernel
theorem dS_move_44 : decode mS_move.2.1 44 = .ok (.bipush (-11), 2) := by decide +kernel
theorem dS_move_46 : decode mS_move.2.1 46 = .ok (.ireturn, 1) := by decide +kernel
theorem dS_move_47 : decode mS_move.2.1 47 = .ok (.iload 6, 2) := by decide +kernel
theorem dS_move_49 : decode mS_move.2.1 49 = .ok (.ifCond .ne 23, 3) := by decide +kernel
theorem dS_move_52 : decode mS_move.2.1 52 = .ok (.iload 7, 2) := by decide +kernel
theorem dS_move_54 : decode mS_move.2.1 54 = .ok (.ifCond .ne 18, 3) := by decide +kernel
theorem dS_move_57 : decode mS_move.2.1 57 = .ok (.aload_n 0, 1) := by decide +kernel
theorem dS_move_58 : decode mS_move.2.1 58 = .ok (.getfield 18, 3) := by decide +kernel
theorem dS_move_61 : decode mS_move.2.1 61 = .ok (.iload_n 1, 1) := by decide +kernel
theorem dS_move_62 : decode mS_move.2.1 62 = .ok (.iaload, 1) := by decide +kernel
theorem dS_move_63 : decode mS_move.2.1 63 = .ok (.aload_n 0, 1) := by decide +kernel
theorem dS_move_64 : decode mS_move.2.1 64 = .ok (.getfield 18, 3) := by decide +kernel
theorem dS_move_67 : decode mS_move.2.1 67 = .ok (.iload_n 3, 1) := by decide +kernel
theorem dS_move_68 : decode mS_move.2.1 68 = .ok (.iaload, 1) := by decide +kernel
theorem dS_move_69 : decode mS_move.2.1 69 = .ok (.if_icmp .eq 6, 3) := by decide +kernel
theorem dS_move_72 : decode mS_move.2.1 72 = .ok (.bipush (-12), 2) := by decide +kernel
theorem dS_move_74 : decode mS_move.2.1 74 = .ok (.ireturn, 1) := by decide +kernel
theorem dS_move_75 : decode mS_move.2.1 75 = .ok (.aload_n 0, 1) := by decide +kernel
theorem dS_move_76 : decode mS_move.2.1 76 = .ok (.iload_n 1, 1) := by decide +kernel
theorem dS_move_77 : decode mS_move.2.1 77 = .ok (.iload_n 2, 1) := by decide +kernel
theorem dS_move_78 : decode mS_move.2.1 78 = .ok (.iload 5, 2) := by decide +kernel
theorem dS_move_80 : decode mS_move.2.1 80 = .ok (.invokevirtual 37, 3) := by decide +kernel
theorem dS_move_83 : decode mS_move.2.1 83 = .ok (.ifCond .eq 15, 3) := by decide +kernel
theorem dS_move_86 : decode mS_move.2.1 86 = .ok (.aload_n 0, 1) := by decide +kernel
theorem dS_move_87 : decode mS_move.2.1 87 = .ok (.iload_n 3, 1) := by decide +kernel
theorem dS_move_88 : decode mS_move.2.1 88 = .ok (.iload 4, 2) := by decide +kernel
theorem dS_move_90 : decode mS_move.2.1 90 = .ok (.iload 5, 2) := by decide +kernel
theorem dS_move_92 : decode mS_move.2.1 92 = .ok (.invokevirtual 37, 3) := by decide +kernel
theorem dS_move_95 : decode mS_move.2.1 95 = .ok (.ifCond .ne 6, 3) := by decide +kernel
theorem dS_move_98 : decode mS_move.2.1 98 = .ok (.bipush (-13), 2) := by decide +kernel
theorem dS_move_100 : decode mS_move.2.1 100 = .ok (.ireturn, 1) := by decide +kernel
theorem dS_move_101 : decode mS_move.2.1 101 = .ok (.aload_n 0, 1) := by decide +kernel
theorem dS_move_102 : decode mS_move.2.1 102 = .ok (.getfield 26, 3) := by decide +kernel
theorem dS_move_105 : decode mS_move.2.1 105 = .ok (.iload_n 1, 1) := by decide +kernel
theorem dS_move_106 : decode mS_move.2.1 106 = .ok (.aaload, 1) := by decide +kernel
theorem dS_move_107 : decode mS_move.2.1 107 = .ok (.iload_n 2, 1) := by decide +kernel
theorem dS_move_108 : decode mS_move.2.1 108 = .ok (.aload_n 0, 1) := by decide +kernel
theorem dS_move_109 : decode mS_move.2.1 109 = .ok (.getfield 26, 3) := by decide +kernel
theorem dS_move_112 : decode mS_move.2.1 112 = .ok (.iload_n 3, 1) := by decide +kernel
theorem dS_move_113 : decode mS_move.2.1 113 = .ok (.aaload, 1) := by decide +kernel
theorem dS_move_114 : decode mS_move.2.1 114 = .ok (.iload 4, 2) := by decide +kernel
theorem dS_move_116 : decode mS_move.2.1 116 = .ok (.iload 5, 2) := by decide +kernel
theorem dS_move_118 : decode mS_move.2.1 118 = .ok (.invokestatic 58, 3) := by decide +kernel
theorem dS_move_121 : decode mS_move.2.1 121 = .ok (.iload 5, 2) := by decide +kernel
theorem dS_move_123 : decode mS_move.2.1 123 = .ok (.ireturn, 1) := by decide +kernel
/- S_move: (IIIII)I -/
set_option maxRecDepth 4000 in
theorem wS_move {X : Cx} (a1 a2 a3 a4 a5 : Int) (sw : Bool) (m : Mem) (Q : Int → Bool → Mem → Prop) (h : M2 X 2 mS_refusalOf [vr 72, vi a1, vi 2] sw m (fun z1 sw1 m1 => M2 X 2 mS_refusalOf [vr 72, vi a3, vi 2] sw1 m1 (fun z2 sw2 m2 => ((w32 z1 = (-1) → Q (-1) sw2 m2) ∧ (¬ (w32 z1 = (-1)) → ((¬ w32 z2 = (-1) → ((w32 z1 = (-11) → Q (-11) sw2 m2) ∧ (¬ (w32 z1 = (-11)) → ((¬ w32 z2 = (-11) → ((¬ w32 z1 = 0 → Q (-12) sw2 m2) ∧ (¬ (¬ w32 z1 = 0) → ((¬ w32 z2 = 0 → Q (-12) sw2 m2) ∧ (¬ (¬ w32 z2 = 0) → ((0 ≤ w32 a1 ∧ w32 a1 < 6) ∧ ((0 ≤ w32 a3 ∧ w32 a3 < 6) ∧ ((w32 (m2 75 (w32 a1)) = w32 (m2 75 (w32 a3)) → M2 X 1 mS_reaches [vr 72, vi a1, vi a2, vi a5] sw2 m2 (fun z3 sw3 m3 => ((w32 z3 = 0 → Q (-13) sw3 m3) ∧ (¬ (w32 z3 = 0) → M2 X 1 mS_reaches [vr 72, vi a3, vi a4, vi a5] sw3 m3 (fun z4 sw4 m4 => ((¬ w32 z4 = 0 → ((0 ≤ w32 a1 ∧ w32 a1 < 6) ∧ ((0 ≤ w32 a3 ∧ w32 a3 < 6) ∧ ((0 ≤ w32 a2 ∧ 0 ≤ w32 a4 ∧ 0 ≤ w32 a5 ∧ w32 a2 + w32 a5 ≤ 60 ∧ w32 a4 + w32 a5 ≤ 60) ∧ Q a5 sw4 (cpm m4 (78 + w32 a1) (w32 a2) (78 + w32 a3) (w32 a4) (w32 a5)))))) ∧ (¬ (¬ w32 z4 = 0) → Q (-13) sw4 m4))))))) ∧ (¬ (w32 (m2 75 (w32 a1)) = w32 (m2 75 (w32 a3))) → Q (-12) sw2 m2))))))))) ∧ (¬ (¬ w32 z2 = (-11)) → Q (-11) sw2 m2))))) ∧ (¬ (¬ w32 z2 = (-1)) → Q (-1) sw2 m2))))))) : M2 X 3 mS_move [vr 72, vi a1, vi a2, vi a3, vi a4, vi a5] sw m Q := by
  refine Mt.of pS_move (Nat.le_of_ble_eq_true rfl) (Nat.le_refl _) ?_
  show R2 X 3 mS_move 0 [(0, vr 72), (1, vi a1), (2, vi a2), (3, vi a3), (4, vi a4), (5, vi a5)] [] sw m Q
  refine r_aload_n 0 0 rfl dS_move_0 rfl ?_
  refine r_iload_n 1 1 rfl dS_move_1 rfl ?_
  refine r_iconst dS_move_2 ?_
  refine r_callVi 11 [_, _] rfl c72 rfl rfl oS_refusalOf iS_refusalOf sS_refusalOf yS_33 (by decide) ⟨Nat.le_refl _, Nat.le_refl _⟩ rfl (Nat.le_of_ble_eq_true rfl) dS_move_3 h (fun z1 r1 m1 h => ?_)
  obtain ⟨sw1, rfl, h⟩ := h
  refine r_istore 6 (by decide) dS_move_6 ?_
  refine r_aload_n 0 1 rfl dS_move_8 rfl ?_
  refine r_iload_n 3 4 rfl dS_move_9 rfl ?_
  refine r_iconst dS_move_10 ?_
  refine r_callVi 11 [_, _] rfl c72 rfl rfl oS_refusalOf iS_refusalOf sS_refusalOf yS_33 (by decide) ⟨Nat.le_refl _, Nat.le_refl _⟩ rfl (Nat.le_of_ble_eq_true rfl) dS_move_11 h (fun z2 r2 m2 h => ?_)
  obtain ⟨sw2, rfl, h⟩ := h
  refine r_istore 7 (by decide) dS_move_14 ?_
  refine r_iload 6 1 rfl dS_move_16 ?_
  refine r_iconst dS_move_18 ?_
  refine r_ifc_eq (tgt := 28) dS_move_19 (by decide) (fun hc => ?_) (fun hc => ?_)
  · replace h := h.1 hc
    refine r_iconst dS_move_28 ?_
    exact q_iret rfl h dS_move_29
  · replace h := h.2 hc
    refine r_iload 7 0 rfl dS_move_22 ?_
    refine r_iconst dS_move_24 ?_
    refine r_ifc_ne (tgt := 30) dS_move_25 (by decide) (fun hc => ?_) (fun hc => ?_)
    · replace h := h.1 hc
      refine r_iload 6 1 rfl dS_move_30 ?_
      refine r_bipush (by decide) dS_move_32 ?_
      refine r_ifc_eq (tgt := 44) dS_move_34 (by decide) (fun hc => ?_) (fun hc => ?_)
      · replace h := h.1 hc
        refine r_bipush (by decide) dS_move_44 ?_
        exact q_iret rfl h dS_move_46
      · replace h := h.2 hc
        refine r_iload 7 0 rfl dS_move_37 ?_
        refine r_bipush (by decide) dS_move_39 ?_
        refine r_ifc_ne (tgt := 47) dS_move_41 (by decide) (fun hc => ?_) (fun hc => ?_)
        · replace h := h.1 hc
          refine r_iload 6 1 rfl dS_move_47 ?_
          refine r_if_ne (tgt := 72) dS_move_49 (by decide) (fun hc => ?_) (fun hc => ?_)
          · replace h := h.1 hc
            refine r_bipush (by decide) dS_move_72 ?_
            exact q_iret rfl h dS_move_74
          · replace h := h.2 hc
            refine r_iload 7 0 rfl dS_move_52 ?_
            refine r_if_ne (tgt := 72) dS_move_54 (by decide) (fun hc => ?_) (fun hc => ?_)
            · replace h := h.1 hc
              refine r_bipush (by decide) dS_move_72 ?_
              exact q_iret rfl h dS_move_74
            · replace h := h.2 hc
              refine r_aload_n 0 2 rfl dS_move_57 rfl ?_
              refine q_getR 2 c72 fS_18 rfl rfl (g72_2 sw2) (by decide) dS_move_58 ?_
              refine r_iload_n 1 3 rfl dS_move_61 rfl ?_
              refine q_iaload (w32 a1) rfl c75 h.1 dS_move_62 ?_
              replace h := h.2
              refine r_aload_n 0 2 rfl dS_move_63 rfl ?_
              refine q_getR 2 c72 fS_18 rfl rfl (g72_2 sw2) (by decide) dS_move_64 ?_
              refine r_iload_n 3 5 rfl dS_move_67 rfl ?_
              refine q_iaload (w32 a3) rfl c75 h.1 dS_move_68 ?_
              replace h := h.2
              refine r_ifc_eq (tgt := 75) dS_move_69 (by decide) (fun hc => ?_) (fun hc => ?_)
              · replace h := h.1 hc
                refine r_aload_n 0 2 rfl dS_move_75 rfl ?_
                refine r_iload_n 1 3 rfl dS_move_76 rfl ?_
                refine r_iload_n 2 4 rfl dS_move_77 rfl ?_
                refine r_iload 5 7 rfl dS_move_78 ?_
                refine r_callVb 11 [_, _, _] rfl c72 rfl rfl oS_reaches iS_reaches sS_reaches yS_37 (by decide) ⟨Nat.le_refl _, Nat.le_refl _⟩ rfl (Nat.le_of_ble_eq_true rfl) dS_move_80 h (fun z3 r3 m3 h => ?_)
                obtain ⟨sw3, rfl, h⟩ := h
                refine r_if_eq (tgt := 98) dS_move_83 (by decide) (fun hc => ?_) (fun hc => ?_)
                · replace h := h.1 hc
                  refine r_bipush (by decide) dS_move_98 ?_
                  exact q_iret rfl h dS_move_100
                · replace h := h.2 hc
                  refine r_aload_n 0 2 rfl dS_move_86 rfl ?_
                  refine r_iload_n 3 5 rfl dS_move_87 rfl ?_
                  refine r_iload 4 6 rfl dS_move_88 ?_
                  refine r_iload 5 7 rfl dS_move_90 ?_
                  refine r_callVb 11 [_, _, _] rfl c72 rfl rfl oS_reaches iS_reaches sS_reaches yS_37 (by decide) ⟨Nat.le_refl _, Nat.le_refl _⟩ rfl (Nat.le_of_ble_eq_true rfl) dS_move_92 h (fun z4 r4 m4 h => ?_)
                  obtain ⟨sw4, rfl, h⟩ := h
                  refine r_if_ne (tgt := 101) dS_move_95 (by decide) (fun hc => ?_) (fun hc => ?_)
                  · replace h := h.1 hc
                    refine r_aload_n 0 2 rfl dS_move_101 rfl ?_
                    refine q_getR 4 c72 fS_26 rfl rfl (g72_4 sw4) (by decide) dS_move_102 ?_
                    refine r_iload_n 1 3 rfl dS_move_105 rfl ?_
                    have hi4 := h.1
                    replace h := h.2
                    refine q_aaload (w32 a1) (by decide) rfl c77 hi4 (gr77 sw4 hi4) (nr77 hi4) dS_move_106 ?_
                    refine r_iload_n 2 4 rfl dS_move_107 rfl ?_
                    refine r_aload_n 0 2 rfl dS_move_108 rfl ?_
                    refine q_getR 4 c72 fS_26 rfl rfl (g72_4 sw4) (by decide) dS_move_109 ?_
                    refine r_iload_n 3 5 rfl dS_move_112 rfl ?_
                    have hi5 := h.1
                    replace h := h.2
                    refine q_aaload (w32 a3) (by decide) rfl c77 hi5 (gr77 sw4 hi5) (nr77 hi5) dS_move_113 ?_
                    refine r_iload 4 6 rfl dS_move_114 ?_
                    refine r_iload 5 7 rfl dS_move_116 ?_
                    refine r_copy (ty := .long) (by decide) (Or.inr rfl) (cr77 hi4) (cr77 hi5) h.1.1 h.1.2.1 h.1.2.2.1 h.1.2.2.2.1 h.1.2.2.2.2 yS_58 kCpN kCpS kSysI (by decide) (Nat.le_of_ble_eq_true rfl) dS_move_118 ?_
                    replace h := h.2
                    refine r_iload 5 7 rfl dS_move_121 ?_
                    exact q_iret rfl h dS_move_123
                  · replace h := h.2 hc
                    refine r_bipush (by decide) dS_move_98 ?_
                    exact q_iret rfl h dS_move_100
              · replace h := h.2 hc
                refine r_bipush (by decide) dS_move_72 ?_
                exact q_iret rfl h dS_move_74
        · replace h := h.2 hc
          refine r_bipush (by decide) dS_move_44 ?_
          exact q_iret rfl h dS_move_46
    · replace h := h.2 hc
      refine r_iconst dS_move_28 ?_
      exact q_iret rfl h dS_move_29
