theorem dL_append_0 : decode mL_append.2.1 0 = .ok (.aload_n 0, 1) := by decide +kernel
theorem dL_append_1 : decode mL_append.2.1 1 = .ok (.getfield 24, 3) := by decide +kernel
theorem dL_append_4 : decode mL_append.2.1 4 = .ok (.bipush 120, 2) := by decide +kernel
theorem dL_append_6 : decode mL_append.2.1 6 = .ok (.if_icmp .lt 6, 3) := by decide +kernel
theorem dL_append_9 : decode mL_append.2.1 9 = .ok (.bipush (-3), 2) := by decide +kernel
theorem dL_append_11 : decode mL_append.2.1 11 = .ok (.ireturn, 1) := by decide +kernel
theorem dL_append_12 : decode mL_append.2.1 12 = .ok (.aload_n 0, 1) := by decide +kernel
theorem dL_append_13 : decode mL_append.2.1 13 = .ok (.getfield 11, 3) := by decide +kernel
theorem dL_append_16 : decode mL_append.2.1 16 = .ok (.aload_n 0, 1) := by decide +kernel
theorem dL_append_17 : decode mL_append.2.1 17 = .ok (.getfield 24, 3) := by decide +kernel
theorem dL_append_20 : decode mL_append.2.1 20 = .ok (.iload_n 1, 1) := by decide +kernel
theorem dL_append_21 : decode mL_append.2.1 21 = .ok (.iastore, 1) := by decide +kernel
theorem dL_append_22 : decode mL_append.2.1 22 = .ok (.aload_n 0, 1) := by decide +kernel
theorem dL_append_23 : decode mL_append.2.1 23 = .ok (.dup, 1) := by decide +kernel
theorem dL_append_24 : decode mL_append.2.1 24 = .ok (.getfield 24, 3) := by decide +kernel
theorem dL_append_27 : decode mL_append.2.1 27 = .ok (.iconst 1, 1) := by decide +kernel
theorem dL_append_28 : decode mL_append.2.1 28 = .ok (.iadd, 1) := by decide +kernel
theorem dL_append_29 : decode mL_append.2.1 29 = .ok (.putfield 24, 3) := by decide +kernel
theorem dL_append_32 : decode mL_append.2.1 32 = .ok (.aload_n 0, 1) := by decide +kernel
theorem dL_append_33 : decode mL_append.2.1 33 = .ok (.getfield 24, 3) := by decide +kernel
theorem dL_append_36 : decode mL_append.2.1 36 = .ok (.ireturn, 1) := by decide +kernel
/- L_append: (I)I -/
set_option maxRecDepth 4000 in
theorem wL_append {X : Cx} (a1 : Int) (sw : Bool) (m : Mem) (Q : Int → Bool → Mem → Prop) (h : ((w32 (m 18 4) < 120 → ((0 ≤ w32 (m 18 4) ∧ w32 (m 18 4) < 120) ∧ Q ((m 18 4) + 1) sw (upm (upm m 19 (w32 (m 18 4)) a1) 18 4 ((m 18 4) + 1)))) ∧ (¬ (w32 (m 18 4) < 120) → Q (-3) sw m))) : M2 X 1 mL_append [vr 18, vi a1] sw m Q := by
  refine Mt.of pL_append (Nat.le_of_ble_eq_true rfl) (Nat.le_refl _) ?_
  show R2 X 1 mL_append 0 [(0, vr 18), (1, vi a1)] [] sw m Q
  refine r_aload_n 0 0 rfl dL_append_0 rfl ?_
  refine q_getI 4 c18 fL_24 rfl rfl dL_append_1 ?_
  refine r_bipush (by decide) dL_append_4 ?_
  refine r_ifc_lt (tgt := 12) dL_append_6 (by decide) (fun hc => ?_) (fun hc => ?_)
  · replace h := h.1 hc
    refine r_aload_n 0 0 rfl dL_append_12 rfl ?_
    refine q_getR 0 c18 fL_11 rfl rfl (g18_0 sw) (by decide) dL_append_13 ?_
    refine r_aload_n 0 0 rfl dL_append_16 rfl ?_
    refine q_getI 4 c18 fL_24 rfl rfl dL_append_17 ?_
    refine r_iload_n 1 1 rfl dL_append_20 rfl ?_
    refine q_iastore (w32 (m 18 4)) rfl c19 h.1 dL_append_21 ?_
    replace h := h.2
    refine r_aload_n 0 0 rfl dL_append_22 rfl ?_
    refine r_dup (fun q => by cases q) dL_append_23 ?_
    refine q_getI 4 c18 fL_24 rfl rfl dL_append_24 ?_
    refine r_iconst dL_append_27 ?_
    refine r_iadd dL_append_28 ?_
    refine q_putI 4 c18 pfL_24 rfl rfl dL_append_29 ?_
    refine r_aload_n 0 0 rfl dL_append_32 rfl ?_
    refine q_getI 4 c18 fL_24 rfl rfl dL_append_33 ?_
    exact q_iret rfl h dL_append_36
  · replace h := h.2 hc
    refine r_bipush (by decide) dL_append_9 ?_
    exact q_iret rfl h dL_append_11
theorem dL_isWritten_0 : decode mL_isWritten.2.1 0 = .ok (.aload_n 0, 1) := by decide +kernel
theorem dL_isWritten_1 : decode mL_isWritten.2.1 1 = .ok (.getfield 28, 3) := by decide +kernel
theorem dL_isWritten_4 : decode mL_isWritten.2.1 4 = .ok (.ifCond .le 7, 3) := by decide +kernel
theorem dL_isWritten_7 : decode mL_isWritten.2.1 7 = .ok (.iconst 1, 1) := by decide +kernel
theorem dL_isWritten_8 : decode mL_isWritten.2.1 8 = .ok (.goto 4, 3) := by decide +kernel
theorem dL_isWritten_11 : decode mL_isWritten.2.1 11 = .ok (.iconst 0, 1) := by decide +kernel
theorem dL_isWritten_12 : decode mL_isWritten.2.1 12 = .ok (.ireturn, 1) := by decide +kernel
/- L_isWritten: ()Z -/
set_option maxRecDepth 4000 in
theorem wL_isWritten {X : Cx} (sw : Bool) (m : Mem) (Q : Int → Bool → Mem → Prop) (h : ((w32 (m 18 5) ≤ 0 → Q 0 sw m) ∧ (¬ (w32 (m 18 5) ≤ 0) → Q 1 sw m))) : M2 X 1 mL_isWritten [vr 18] sw m Q := by
  refine Mt.of pL_isWritten (Nat.le_of_ble_eq_true rfl) (Nat.le_refl _) ?_
  show R2 X 1 mL_isWritten 0 [(0, vr 18)] [] sw m Q
  refine r_aload_n 0 0 rfl dL_isWritten_0 rfl ?_
  refine q_getI 5 c18 fL_28 rfl rfl dL_isWritten_1 ?_
  refine r_if_le (tgt := 11) dL_isWritten_4 (by decide) (fun hc => ?_) (fun hc => ?_)
  · replace h := h.1 hc
    refine r_iconst dL_isWritten_11 ?_
    exact q_bret rfl (Or.inl rfl) h dL_isWritten_12
  · replace h := h.2 hc
    refine r_iconst dL_isWritten_7 ?_
    refine r_goto (tgt := 12) dL_isWritten_8 (by decide) ?_
    exact q_bret rfl (Or.inr rfl) h dL_isWritten_12
theorem dL_adopt_0 : decode mL_adopt.2.1 0 = .ok (.aload_n 0, 1) := by decide +kernel
theorem dL_adopt_1 : decode mL_adopt.2.1 1 = .ok (.iconst 0, 1) := by decide +kernel
theorem dL_adopt_2 : decode mL_adopt.2.1 2 = .ok (.putfield 31, 3) := by decide +kernel
theorem dL_adopt_5 : decode mL_adopt.2.1 5 = .ok (.aload_n 0, 1) := by decide +kernel
theorem dL_adopt_6 : decode mL_adopt.2.1 6 = .ok (.iconst 0, 1) := by decide +kernel
theorem dL_adopt_7 : decode mL_adopt.2.1 7 = .ok (.putfield 34, 3) := by decide +kernel
theorem dL_adopt_10 : decode mL_adopt.2.1 10 = .ok (.aload_n 0, 1) := by decide +kernel
theorem dL_adopt_11 : decode mL_adopt.2.1 11 = .ok (.iconst 0, 1) := by decide +kernel
theorem dL_adopt_12 : decode mL_adopt.2.1 12 = .ok (.putfield 37, 3) := by decide +kernel
theorem dL_adopt_15 : decode mL_adopt.2.1 15 = .ok (.aload_n 0, 1) := by decide +kernel
theorem dL_adopt_16 : decode mL_adopt.2.1 16 = .ok (.invokevirtual 41, 3) := by decide +kernel
theorem dL_adopt_19 : decode mL_adopt.2.1 19 = .ok (.iconst 0, 1) := by decide +kernel
theorem dL_adopt_20 : decode mL_adopt.2.1 20 = .ok (.istore_n 1, 1) := by decide +kernel
theorem dL_adopt_21 : decode mL_adopt.2.1 21 = .ok (.iload_n 1, 1) := by decide +kernel
theorem dL_adopt_22 : decode mL_adopt.2.1 22 = .ok (.bipush 120, 2) := by decide +kernel
theorem dL_adopt_24 : decode mL_adopt.2.1 24 = .ok (.if_icmp .ge 37, 3) := by decide +kernel
theorem dL_adopt_27 : decode mL_adopt.2.1 27 = .ok (.aload_n 0, 1) := by decide +kernel
theorem dL_adopt_28 : decode mL_adopt.2.1 28 = .ok (.getfield 37, 3) := by decide +kernel
theorem dL_adopt_31 : decode mL_adopt.2.1 31 = .ok (.ifCond .ne 30, 3) := by decide +kernel
theorem dL_adopt_34 : decode mL_adopt.2.1 34 = .ok (.aload_n 0, 1) := by decide +kernel
theorem dL_adopt_35 : decode mL_adopt.2.1 35 = .ok (.getfield 31, 3) := by decide +kernel
theorem dL_adopt_38 : decode mL_adopt.2.1 38 = .ok (.aload_n 0, 1) := by decide +kernel
theorem dL_adopt_39 : decode mL_adopt.2.1 39 = .ok (.getfield 24, 3) := by decide +kernel
theorem dL_adopt_42 : decode mL_adopt.2.1 42 = .ok (.if_icmp .ge 19, 3) := by decide +kernel
theorem dL_adopt_45 : decode mL_adopt.2.1 45 = .ok (.aload_n 0, 1) := by decide +kernel
theorem dL_adopt_46 : decode mL_adopt.2.1 46 = .ok (.bipush 59, 2) := by decide +kernel
theorem dL_adopt_48 : decode mL_adopt.2.1 48 = .ok (.invokevirtual 44, 3) := by decide +kernel
theorem dL_adopt_51 : decode mL_adopt.2.1 51 = .ok (.aload_n 0, 1) := by decide +kernel
theorem dL_adopt_52 : decode mL_adopt.2.1 52 = .ok (.invokevirtual 41, 3) := by decide +kernel
theorem dL_adopt_55 : decode mL_adopt.2.1 55 = .ok (.iinc 1 1, 3) := by decide +kernel
theorem dL_adopt_58 : decode mL_adopt.2.1 58 = .ok (.goto (-37), 3) := by decide +kernel
theorem dL_adopt_61 : decode mL_adopt.2.1 61 = .ok (.aload_n 0, 1) := by decide +kernel
theorem dL_adopt_62 : decode mL_adopt.2.1 62 = .ok (.iconst 0, 1) := by decide +kernel
theorem dL_adopt_63 : decode mL_adopt.2.1 63 = .ok (.putfield 24, 3) := by decide +kernel
theorem dL_adopt_66 : decode mL_adopt.2.1 66 = .ok (.aload_n 0, 1) := by decide +kernel
theorem dL_adopt_67 : decode mL_adopt.2.1 67 = .ok (.getfield 37, 3) := by decide +kernel
theorem dL_adopt_70 : decode mL_adopt.2.1 70 = .ok (.ifCond .eq 5, 3) := by decide +kernel
theorem dL_adopt_73 : decode mL_adopt.2.1 73 = .ok (.iconst 0, 1) := by decide +kernel
theorem dL_adopt_74 : decode mL_adopt.2.1 74 = .ok (.ireturn, 1) := by decide +kernel
theorem dL_adopt_75 : decode mL_adopt.2.1 75 = .ok (.aload_n 0, 1) := by decide +kernel
theorem dL_adopt_76 : decode mL_adopt.2.1 76 = .ok (.getfield 18, 3) := by decide +kernel
theorem dL_adopt_79 : decode mL_adopt.2.1 79 = .ok (.astore_n 1, 1) := by decide +kernel
theorem dL_adopt_80 : decode mL_adopt.2.1 80 = .ok (.aload_n 0, 1) := by decide +kernel
theorem dL_adopt_81 : decode mL_adopt.2.1 81 = .ok (.aload_n 0, 1) := by decide +kernel
theorem dL_adopt_82 : decode mL_adopt.2.1 82 = .ok (.getfield 21, 3) := by decide +kernel
theorem dL_adopt_85 : decode mL_adopt.2.1 85 = .ok (.putfield 18, 3) := by decide +kernel
theorem dL_adopt_88 : decode mL_adopt.2.1 88 = .ok (.aload_n 0, 1) := by decide +kernel
theorem dL_adopt_89 : decode mL_adopt.2.1 89 = .ok (.aload_n 1, 1) := by decide +kernel
theorem dL_adopt_90 : decode mL_adopt.2.1 90 = .ok (.putfield 21, 3) := by decide +kernel
theorem dL_adopt_93 : decode mL_adopt.2.1 93 = .ok (.aload_n 0, 1) := by decide +kernel
theorem dL_adopt_94 : decode mL_adopt.2.1 94 = .ok (.aload_n 0, 1) := by decide +kernel
theorem dL_adopt_95 : decode mL_adopt.2.1 95 = .ok (.getfield 34, 3) := by decide +kernel
theorem dL_adopt_98 : decode mL_adopt.2.1 98 = .ok (.putfield 28, 3) := by decide +kernel
theorem dL_adopt_101 : decode mL_adopt.2.1 101 = .ok (.iconst 1, 1) := by decide +kernel
theorem dL_adopt_102 : decode mL_adopt.2.1 102 = .ok (.ireturn, 1) := by decide +kernel
/- L_adopt: ()Z -/
set_option maxRecDepth 4000 in
theorem wL_adopt {X : Cx} (sw : Bool) (m : Mem) (Q : Int → Bool → Mem → Prop) (h : M2 X 81 mL_readLine [vr 18] sw (upm (upm (upm m 18 7 0) 18 6 0) 18 8 0) (fun z1 sw1 m1 => R2 X 82 mL_adopt 21 [(0, vr 18), (1, vi 0)] [] sw1 m1 Q)) : M2 X 82 mL_adopt [vr 18] sw m Q := by
  refine Mt.of pL_adopt (Nat.le_of_ble_eq_true rfl) (Nat.le_refl _) ?_
  show R2 X 82 mL_adopt 0 [(0, vr 18)] [] sw m Q
  refine r_aload_n 0 0 rfl dL_adopt_0 rfl ?_
  refine r_iconst dL_adopt_1 ?_
  refine q_putI 7 c18 pfL_31 rfl rfl dL_adopt_2 ?_
  refine r_aload_n 0 0 rfl dL_adopt_5 rfl ?_
  refine r_iconst dL_adopt_6 ?_
  refine q_putI 6 c18 pfL_34 rfl rfl dL_adopt_7 ?_
  refine r_aload_n 0 0 rfl dL_adopt_10 rfl ?_
  refine r_iconst dL_adopt_11 ?_
  refine q_putZ 8 c18 pfL_37 rfl rfl (Or.inl rfl) dL_adopt_12 ?_
  refine r_aload_n 0 0 rfl dL_adopt_15 rfl ?_
  refine r_callVv 2 [] rfl c18 rfl rfl oL_readLine iL_readLine sL_readLine yL_41 (by decide) ⟨Nat.le_refl _, Nat.le_refl _⟩ rfl (Nat.le_of_ble_eq_true rfl) dL_adopt_16 h (fun z1 r1 m1 h => ?_)
  obtain ⟨sw1, rfl, h⟩ := h
  refine r_iconst dL_adopt_19 ?_
  refine r_istore_n 1 (by decide) dL_adopt_20 rfl ?_
  refine r_sub [1, 0] ?_ h
  rfl
set_option maxRecDepth 4000 in
theorem wL_adopt_21 {X : Cx} (x1 : Int) (sw : Bool) (m : Mem) (Q : Int → Bool → Mem → Prop) (h : ((120 ≤ w32 x1 → ((w32 (m 18 8) = 0 → R2 X 82 mL_adopt 75 [(0, vr 18)] [] sw (upm m 18 4 0) Q) ∧ (¬ (w32 (m 18 8) = 0) → Q 0 sw (upm m 18 4 0)))) ∧ (¬ (120 ≤ w32 x1) → ((¬ w32 (m 18 8) = 0 → ((w32 (m 18 8) = 0 → R2 X 82 mL_adopt 75 [(0, vr 18)] [] sw (upm m 18 4 0) Q) ∧ (¬ (w32 (m 18 8) = 0) → Q 0 sw (upm m 18 4 0)))) ∧ (¬ (¬ w32 (m 18 8) = 0) → ((w32 (m 18 4) ≤ w32 (m 18 7) → ((w32 (m 18 8) = 0 → R2 X 82 mL_adopt 75 [(0, vr 18)] [] sw (upm m 18 4 0) Q) ∧ (¬ (w32 (m 18 8) = 0) → Q 0 sw (upm m 18 4 0)))) ∧ (¬ (w32 (m 18 4) ≤ w32 (m 18 7)) → M2 X 2 mL_accept [vr 18, vi 59] sw m (fun z1 sw1 m1 => M2 X 81 mL_readLine [vr 18] sw1 m1 (fun z2 sw2 m2 => R2 X 82 mL_adopt 21 [(0, vr 18), (1, vi (x1 + 1))] [] sw2 m2 Q))))))))) : R2 X 82 mL_adopt 21 [(0, vr 18), (1, vi x1)] [] sw m Q := by
  refine r_iload_n 1 1 rfl dL_adopt_21 rfl ?_
  refine r_bipush (by decide) dL_adopt_22 ?_
  refine r_ifc_ge (tgt := 61) dL_adopt_24 (by decide) (fun hc => ?_) (fun hc => ?_)
  · replace h := h.1 hc
    refine r_aload_n 0 0 rfl dL_adopt_61 rfl ?_
    refine r_iconst dL_adopt_62 ?_
    refine q_putI 4 c18 pfL_24 rfl rfl dL_adopt_63 ?_
    refine r_aload_n 0 0 rfl dL_adopt_66 rfl ?_
    refine q_getZ 8 c18 fL_37 rfl rfl dL_adopt_67 ?_
    refine r_if_eq (tgt := 75) dL_adopt_70 (by decide) (fun hc => ?_) (fun hc => ?_)
    · replace h := h.1 hc
      refine r_sub [0] ?_ h
      rfl
    · replace h := h.2 hc
      refine r_iconst dL_adopt_73 ?_
      exact q_bret rfl (Or.inl rfl) h dL_adopt_74
  · replace h := h.2 hc
    refine r_aload_n 0 0 rfl dL_adopt_27 rfl ?_
    refine q_getZ 8 c18 fL_37 rfl rfl dL_adopt_28 ?_
    refine r_if_ne (tgt := 61) dL_adopt_31 (by decide) (fun hc => ?_) (fun hc => ?_)
    · replace h := h.1 hc
      refine r_aload_n 0 0 rfl dL_adopt_61 rfl ?_
      refine r_iconst dL_adopt_62 ?_
      refine q_putI 4 c18 pfL_24 rfl rfl dL_adopt_63 ?_
      refine r_aload_n 0 0 rfl dL_adopt_66 rfl ?_
      refine q_getZ 8 c18 fL_37 rfl rfl dL_adopt_67 ?_
      refine r_if_eq (tgt := 75) dL_adopt_70 (by decide) (fun hc => ?_) (fun hc => ?_)
      · replace h := h.1 hc
        refine r_sub [0] ?_ h
        rfl
      · replace h := h.2 hc
        refine r_iconst dL_adopt_73 ?_
        exact q_bret rfl (Or.inl rfl) h dL_adopt_74
    · replace h := h.2 hc
      refine r_aload_n 0 0 rfl dL_adopt_34 rfl ?_
      refine q_getI 7 c18 fL_31 rfl rfl dL_adopt_35 ?_
      refine r_aload_n 0 0 rfl dL_adopt_38 rfl ?_
      refine q_getI 4 c18 fL_24 rfl rfl dL_adopt_39 ?_
      refine r_ifc_ge (tgt := 61) dL_adopt_42 (by decide) (fun hc => ?_) (fun hc => ?_)
      · replace h := h.1 hc
        refine r_aload_n 0 0 rfl dL_adopt_61 rfl ?_
        refine r_iconst dL_adopt_62 ?_
        refine q_putI 4 c18 pfL_24 rfl rfl dL_adopt_63 ?_
        refine r_aload_n 0 0 rfl dL_adopt_66 rfl ?_
        refine q_getZ 8 c18 fL_37 rfl rfl dL_adopt_67 ?_
        refine r_if_eq (tgt := 75) dL_adopt_70 (by decide) (fun hc => ?_) (fun hc => ?_)
        · replace h := h.1 hc
          refine r_sub [0] ?_ h
          rfl
        · replace h := h.2 hc
          refine r_iconst dL_adopt_73 ?_
          exact q_bret rfl (Or.inl rfl) h dL_adopt_74
      · replace h := h.2 hc
        refine r_aload_n 0 0 rfl dL_adopt_45 rfl ?_
        refine r_bipush (by decide) dL_adopt_46 ?_
        refine r_callVv 2 [_] rfl c18 rfl rfl oL_accept iL_accept sL_accept yL_44 (by decide) ⟨Nat.le_refl _, Nat.le_refl _⟩ rfl (Nat.le_of_ble_eq_true rfl) dL_adopt_48 h (fun z1 r1 m1 h => ?_)
        obtain ⟨sw1, rfl, h⟩ := h
        refine r_aload_n 0 0 rfl dL_adopt_51 rfl ?_
        refine r_callVv 2 [] rfl c18 rfl rfl oL_readLine iL_readLine sL_readLine yL_41 (by decide) ⟨Nat.le_refl _, Nat.le_refl _⟩ rfl (Nat.le_of_ble_eq_true rfl) dL_adopt_52 h (fun z2 r2 m2 h => ?_)
        obtain ⟨sw2, rfl, h⟩ := h
        refine r_iinc 1 1 rfl (by decide) dL_adopt_55 ?_
        refine r_goto (tgt := 21) dL_adopt_58 (by decide) ?_
        refine r_sub [1, 0] ?_ h
        rfl
theorem swp (sw : Bool) : upm (upm (rhoS sw) 18 2 (rdraft sw)) 18 3 (rcode sw) = rhoS (!sw) := by
  cases sw
  · rfl
  · funext a b
    have e1 : rho0 18 2 = 21 := by decide +kernel
    have e2 : rho0 18 3 = 22 := by decide +kernel
    show upm (upm (upm (upm rho0 18 2 22) 18 3 21) 18 2 21) 18 3 22 a b = rho0 a b
    unfold upm
    by_cases ha : a = 18
    · subst ha
      by_cases hb : b = 3
      · subst hb; simp [e2]
      · by_cases hb2 : b = 2
        · subst hb2; simp [e1]
        · simp [hb, hb2]
    · simp [ha]
theorem wL_adopt_75 {X : Cx} (sw : Bool) (m : Mem) (Q : Int → Bool → Mem → Prop) (h : Q 1 (!sw) (upm m 18 5 (m 18 6))) : R2 X 82 mL_adopt 75 [(0, vr 18)] [] sw m Q := by
  refine r_aload_n 0 0 rfl dL_adopt_75 rfl ?_
  refine q_getR 2 c18 fL_18 rfl rfl (gco sw) (nco sw) dL_adopt_76 ?_
  refine r_astore_n 1 (by decide) dL_adopt_79 rfl ?_
  refine r_aload_n 0 1 rfl dL_adopt_80 rfl ?_
  refine r_aload_n 0 1 rfl dL_adopt_81 rfl ?_
  refine q_getR 3 c18 fL_21 rfl rfl (gdr sw) (ndr sw) dL_adopt_82 ?_
  refine q_putR 2 c18 pfL_18 rfl rfl (ndr sw) dL_adopt_85 ?_
  refine r_aload_n 0 1 rfl dL_adopt_88 rfl ?_
  refine r_aload_n 1 0 rfl dL_adopt_89 rfl ?_
  refine q_putR 3 c18 pfL_21 rfl rfl (nco sw) dL_adopt_90 ?_
  rw [swp]
  refine r_aload_n 0 1 rfl dL_adopt_93 rfl ?_
  refine r_aload_n 0 1 rfl dL_adopt_94 rfl ?_
  refine q_getI 6 c18 fL_34 rfl rfl dL_adopt_95 ?_
  refine q_putI 5 c18 pfL_28 rfl rfl dL_adopt_98 ?_
  refine r_iconst dL_adopt_101 ?_
  exact q_bret rfl (Or.inr rfl) h dL_adopt_102
theorem dL_readLine_0 : decode mL_readLine.2.1 0 = .ok (.aload_n 0, 1) := by decide +kernel
theorem dL_readLine_1 : decode mL_readLine.2.1 1 = .ok (.iconst 0, 1) := by decide +kernel
theorem dL_readLine_2 : decode mL_readLine.2.1 2 = .ok (.iconst 0, 1) := by decide +kernel
theorem dL_readLine_3 : decode mL_readLine.2.1 3 = .ok (.invokestatic 48, 3) := by decide +kernel
theorem dL_readLine_6 : decode mL_readLine.2.1 6 = .ok (.aload_n 0, 1) := by decide +kernel
theorem dL_readLine_7 : decode mL_readLine.2.1 7 = .ok (.invokevirtual 52, 3) := by decide +kernel
theorem dL_readLine_10 : decode mL_readLine.2.1 10 = .ok (.bipush 63, 2) := by decide +kernel
theorem dL_readLine_12 : decode mL_readLine.2.1 12 = .ok (.if_icmp .ne 21, 3) := by decide +kernel
theorem dL_readLine_15 : decode mL_readLine.2.1 15 = .ok (.aload_n 0, 1) := by decide +kernel
theorem dL_readLine_16 : decode mL_readLine.2.1 16 = .ok (.bipush 63, 2) := by decide +kernel
theorem dL_readLine_18 : decode mL_readLine.2.1 18 = .ok (.invokevirtual 44, 3) := by decide +kernel
theorem dL_readLine_21 : decode mL_readLine.2.1 21 = .ok (.aload_n 0, 1) := by decide +kernel
theorem dL_readLine_22 : decode mL_readLine.2.1 22 = .ok (.bipush (-13), 2) := by decide +kernel
theorem dL_readLine_24 : decode mL_readLine.2.1 24 = .ok (.invokevirtual 56, 3) := by decide +kernel
theorem dL_readLine_27 : decode mL_readLine.2.1 27 = .ok (.aload_n 0, 1) := by decide +kernel
theorem dL_readLine_28 : decode mL_readLine.2.1 28 = .ok (.iconst 0, 1) := by decide +kernel
theorem dL_readLine_29 : decode mL_readLine.2.1 29 = .ok (.iconst 0, 1) := by decide +kernel
theorem dL_readLine_30 : decode mL_readLine.2.1 30 = .ok (.invokestatic 48, 3) := by decide +kernel
theorem dL_readLine_33 : decode mL_readLine.2.1 33 = .ok (.aload_n 0, 1) := by decide +kernel
theorem dL_readLine_34 : decode mL_readLine.2.1 34 = .ok (.bipush (-14), 2) := by decide +kernel
theorem dL_readLine_36 : decode mL_readLine.2.1 36 = .ok (.invokevirtual 56, 3) := by decide +kernel
theorem dL_readLine_39 : decode mL_readLine.2.1 39 = .ok (.return_, 1) := by decide +kernel
/- L_readLine: ()V -/
set_option maxRecDepth 4000 in
theorem wL_readLine {X : Cx} (sw : Bool) (m : Mem) (Q : Int → Bool → Mem → Prop) (h : M2 X 80 mL_expression [vr 18, vi 0, vi 0] sw m (fun z1 sw1 m1 => M2 X 1 mL_next [vr 18] sw1 m1 (fun z2 sw2 m2 => ((¬ w32 z2 = 63 → M2 X 1 mL_emit [vr 18, vi (-14)] sw2 m2 (fun z3 sw3 m3 => Q 0 sw3 m3)) ∧ (¬ (¬ w32 z2 = 63) → M2 X 2 mL_accept [vr 18, vi 63] sw2 m2 (fun z4 sw4 m4 => M2 X 1 mL_emit [vr 18, vi (-13)] sw4 m4 (fun z5 sw5 m5 => M2 X 80 mL_expression [vr 18, vi 0, vi 0] sw5 m5 (fun z6 sw6 m6 => M2 X 1 mL_emit [vr 18, vi (-14)] sw6 m6 (fun z7 sw7 m7 => Q 0 sw7 m7))))))))) : M2 X 81 mL_readLine [vr 18] sw m Q := by
  refine Mt.of pL_readLine (Nat.le_of_ble_eq_true rfl) (Nat.le_refl _) ?_
  show R2 X 81 mL_readLine 0 [(0, vr 18)] [] sw m Q
  refine r_aload_n 0 0 rfl dL_readLine_0 rfl ?_
  refine r_iconst dL_readLine_1 ?_
  refine r_iconst dL_readLine_2 ?_
  refine r_callSv [_, _, _] rfl oL_expression iL_expression yL_48 (by decide) ⟨Nat.le_refl _, Nat.le_refl _⟩ rfl (Nat.le_of_ble_eq_true rfl) dL_readLine_3 h (fun z1 r1 m1 h => ?_)
  obtain ⟨sw1, rfl, h⟩ := h
  refine r_aload_n 0 0 rfl dL_readLine_6 rfl ?_
  refine r_callVi 2 [] rfl c18 rfl rfl oL_next iL_next sL_next yL_52 (by decide) ⟨Nat.le_refl _, Nat.le_refl _⟩ rfl (Nat.le_of_ble_eq_true rfl) dL_readLine_7 h (fun z2 r2 m2 h => ?_)
  obtain ⟨sw2, rfl, h⟩ := h
  refine r_bipush (by decide) dL_readLine_10 ?_
  refine r_ifc_ne (tgt := 33) dL_readLine_12 (by decide) (fun hc => ?_) (fun hc => ?_)
  · replace h := h.1 hc
    refine r_aload_n 0 0 rfl dL_readLine_33 rfl ?_
    refine r_bipush (by decide) dL_readLine_34 ?_
    refine r_callVv 2 [_] rfl c18 rfl rfl oL_emit iL_emit sL_emit yL_56 (by decide) ⟨Nat.le_refl _, Nat.le_refl _⟩ rfl (Nat.le_of_ble_eq_true rfl) dL_readLine_36 h (fun z3 r3 m3 h => ?_)
    obtain ⟨sw3, rfl, h⟩ := h
    exact q_vret rfl h dL_readLine_39
  · replace h := h.2 hc
    refine r_aload_n 0 0 rfl dL_readLine_15 rfl ?_
    refine r_bipush (by decide) dL_readLine_16 ?_
    refine r_callVv 2 [_] rfl c18 rfl rfl oL_accept iL_accept sL_accept yL_44 (by decide) ⟨Nat.le_refl _, Nat.le_refl _⟩ rfl (Nat.le_of_ble_eq_true rfl) dL_readLine_18 h (fun z4 r4 m4 h => ?_)
    obtain ⟨sw4, rfl, h⟩ := h
    refine r_aload_n 0 0 rfl dL_readLine_21 rfl ?_
    refine r_bipush (by decide) dL_readLine_22 ?_
    refine r_callVv 2 [_] rfl c18 rfl rfl oL_emit iL_emit sL_emit yL_56 (by decide) ⟨Nat.le_refl _, Nat.le_refl _⟩ rfl (Nat.le_of_ble_eq_true rfl) dL_readLine_24 h (fun z5 r5 m5 h => ?_)
    obtain ⟨sw5, rfl, h⟩ := h
    refine r_aload_n 0 0 rfl dL_readLine_27 rfl ?_
    refine r_iconst dL_readLine_28 ?_
    refine r_iconst dL_readLine_29 ?_
    refine r_callSv [_, _, _] rfl oL_expression iL_expression yL_48 (by decide) ⟨Nat.le_refl _, Nat.le_refl _⟩ rfl (Nat.le_of_ble_eq_true rfl) dL_readLine_30 h (fun z6 r6 m6 h => ?_)
    obtain ⟨sw6, rfl, h⟩ := h
    refine r_aload_n 0 0 rfl dL_readLine_33 rfl ?_
    refine r_bipush (by decide) dL_readLine_34 ?_
    refine r_callVv 2 [_] rfl c18 rfl rfl oL_emit iL_emit sL_emit yL_56 (by decide) ⟨Nat.le_refl _, Nat.le_refl _⟩ rfl (Nat.le_of_ble_eq_true rfl) dL_readLine_36 h (fun z7 r7 m7 h => ?_)
    obtain ⟨sw7, rfl, h⟩ := h
    exact q_vret rfl h dL_readLine_39
theorem dL_expression_0 : decode mL_expression.2.1 0 = .ok (.iload_n 1, 1) := by decide +kernel
theorem dL_expression_1 : decode mL_expression.2.1 1 = .ok (.iconst 5, 1) := by decide +kernel
theorem dL_expression_2 : decode mL_expression.2.1 2 = .ok (.if_icmp .lt 9, 3) := by decide +kernel
theorem dL_expression_5 : decode mL_expression.2.1 5 = .ok (.aload_n 0, 1) := by decide +kernel
theorem dL_expression_6 : decode mL_expression.2.1 6 = .ok (.iload_n 2, 1) := by decide +kernel
theorem dL_expression_7 : decode mL_expression.2.1 7 = .ok (.invokestatic 59, 3) := by decide +kernel
theorem dL_expression_10 : decode mL_expression.2.1 10 = .ok (.return_, 1) := by decide +kernel
theorem dL_expression_11 : decode mL_expression.2.1 11 = .ok (.aload_n 0, 1) := by decide +kernel
theorem dL_expression_12 : decode mL_expression.2.1 12 = .ok (.iload_n 1, 1) := by decide +kernel
theorem dL_expression_13 : decode mL_expression.2.1 13 = .ok (.iconst 1, 1) := by decide +kernel
theorem dL_expression_14 : decode mL_expression.2.1 14 = .ok (.iadd, 1) := by decide +kernel
theorem dL_expression_15 : decode mL_expression.2.1 15 = .ok (.iload_n 2, 1) := by decide +kernel
theorem dL_expression_16 : decode mL_expression.2.1 16 = .ok (.invokestatic 48, 3) := by decide +kernel
theorem dL_expression_19 : decode mL_expression.2.1 19 = .ok (.iconst 0, 1) := by decide +kernel
theorem dL_expression_20 : decode mL_expression.2.1 20 = .ok (.istore_n 3, 1) := by decide +kernel
theorem dL_expression_21 : decode mL_expression.2.1 21 = .ok (.iload_n 3, 1) := by decide +kernel
theorem dL_expression_22 : decode mL_expression.2.1 22 = .ok (.bipush 120, 2) := by decide +kernel
theorem dL_expression_24 : decode mL_expression.2.1 24 = .ok (.if_icmp .ge 55, 3) := by decide +kernel
theorem dL_expression_27 : decode mL_expression.2.1 27 = .ok (.aload_n 0, 1) := by decide +kernel
theorem dL_expression_28 : decode mL_expression.2.1 28 = .ok (.iload_n 1, 1) := by decide +kernel
theorem dL_expression_29 : decode mL_expression.2.1 29 = .ok (.invokevirtual 63, 3) := by decide +kernel
theorem dL_expression_32 : decode mL_expression.2.1 32 = .ok (.istore 4, 2) := by decide +kernel
theorem dL_expression_34 : decode mL_expression.2.1 34 = .ok (.iload 4, 2) := by decide +kernel
theorem dL_expression_36 : decode mL_expression.2.1 36 = .ok (.ifCond .eq 12, 3) := by decide +kernel
theorem dL_expression_39 : decode mL_expression.2.1 39 = .ok (.iload_n 1, 1) := by decide +kernel
theorem dL_expression_40 : decode mL_expression.2.1 40 = .ok (.iconst 2, 1) := by decide +kernel
theorem dL_expression_41 : decode mL_expression.2.1 41 = .ok (.if_icmp .ne 8, 3) := by decide +kernel
theorem dL_expression_44 : decode mL_expression.2.1 44 = .ok (.iload_n 3, 1) := by decide +kernel
theorem dL_expression_45 : decode mL_expression.2.1 45 = .ok (.ifCond .le 4, 3) := by decide +kernel
theorem dL_expression_48 : decode mL_expression.2.1 48 = .ok (.return_, 1) := by decide +kernel
theorem dL_expression_49 : decode mL_expression.2.1 49 = .ok (.aload_n 0, 1) := by decide +kernel
theorem dL_expression_50 : decode mL_expression.2.1 50 = .ok (.dup, 1) := by decide +kernel
theorem dL_expression_51 : decode mL_expression.2.1 51 = .ok (.getfield 31, 3) := by decide +kernel
theorem dL_expression_54 : decode mL_expression.2.1 54 = .ok (.iconst 1, 1) := by decide +kernel
theorem dL_expression_55 : decode mL_expression.2.1 55 = .ok (.iadd, 1) := by decide +kernel
theorem dL_expression_56 : decode mL_expression.2.1 56 = .ok (.putfield 31, 3) := by decide +kernel
theorem dL_expression_59 : decode mL_expression.2.1 59 = .ok (.aload_n 0, 1) := by decide +kernel
theorem dL_expression_60 : decode mL_expression.2.1 60 = .ok (.iload_n 1, 1) := by decide +kernel
theorem dL_expression_61 : decode mL_expression.2.1 61 = .ok (.iconst 1, 1) := by decide +kernel
theorem dL_expression_62 : decode mL_expression.2.1 62 = .ok (.iadd, 1) := by decide +kernel
theorem dL_expression_63 : decode mL_expression.2.1 63 = .ok (.iload_n 2, 1) := by decide +kernel
theorem dL_expression_64 : decode mL_expression.2.1 64 = .ok (.invokestatic 48, 3) := by decide +kernel
theorem dL_expression_67 : decode mL_expression.2.1 67 = .ok (.aload_n 0, 1) := by decide +kernel
theorem dL_expression_68 : decode mL_expression.2.1 68 = .ok (.iload 4, 2) := by decide +kernel
theorem dL_expression_70 : decode mL_expression.2.1 70 = .ok (.invokevirtual 56, 3) := by decide +kernel
theorem dL_expression_73 : decode mL_expression.2.1 73 = .ok (.iinc 3 1, 3) := by decide +kernel
theorem dL_expression_76 : decode mL_expression.2.1 76 = .ok (.goto (-55), 3) := by decide +kernel
theorem dL_expression_79 : decode mL_expression.2.1 79 = .ok (.return_, 1) := by decide +kernel
/- L_expression: (LWokenByKettle$Law;II)V -/
set_option maxRecDepth 4000 in
theorem wL_expression {X : Cx} {d : Nat} (hd0 : 2 ≤ d) (a1 a2 : Int) (sw : Bool) (m : Mem) (Q : Int → Bool → Mem → Prop) (h : ((w32 a1 < 5 → M2 X d mL_expression [vr 18, vi (a1 + 1), vi a2] sw m (fun z1 sw1 m1 => R2 X (d + 1) mL_expression 21 [(0, vr 18), (1, vi a1), (2, vi a2), (3, vi 0)] [] sw1 m1 Q)) ∧ (¬ (w32 a1 < 5) → M2 X d mL_single [vr 18, vi a2] sw m (fun z2 sw2 m2 => Q 0 sw2 m2)))) : M2 X (d + 1) mL_expression [vr 18, vi a1, vi a2] sw m Q := by
  refine Mt.of pL_expression (Nat.le_of_ble_eq_true rfl) (Nat.le_refl _) ?_
  show R2 X (d + 1) mL_expression 0 [(0, vr 18), (1, vi a1), (2, vi a2)] [] sw m Q
  refine r_iload_n 1 1 rfl dL_expression_0 rfl ?_
  refine r_iconst dL_expression_1 ?_
  refine r_ifc_lt (tgt := 11) dL_expression_2 (by decide) (fun hc => ?_) (fun hc => ?_)
  · replace h := h.1 hc
    refine r_aload_n 0 0 rfl dL_expression_11 rfl ?_
    refine r_iload_n 1 1 rfl dL_expression_12 rfl ?_
    refine r_iconst dL_expression_13 ?_
    refine r_iadd dL_expression_14 ?_
    refine r_iload_n 2 2 rfl dL_expression_15 rfl ?_
    refine r_callSv [_, _, _] rfl oL_expression iL_expression yL_48 (by omega) ⟨Nat.le_refl _, Nat.le_refl _⟩ rfl (Nat.le_of_ble_eq_true rfl) dL_expression_16 h (fun z1 r1 m1 h => ?_)
    obtain ⟨sw1, rfl, h⟩ := h
    refine r_iconst dL_expression_19 ?_
    refine r_istore_n 3 (by decide) dL_expression_20 rfl ?_
    refine r_sub [1, 2, 3, 0] ?_ h
    rfl
  · replace h := h.2 hc
    refine r_aload_n 0 0 rfl dL_expression_5 rfl ?_
    refine r_iload_n 2 2 rfl dL_expression_6 rfl ?_
    refine r_callSv [_, _] rfl oL_single iL_single yL_59 (by omega) ⟨Nat.le_refl _, Nat.le_refl _⟩ rfl (Nat.le_of_ble_eq_true rfl) dL_expression_7 h (fun z2 r2 m2 h => ?_)
    obtain ⟨sw2, rfl, h⟩ := h
    exact q_vret rfl h dL_expression_10
set_option maxRecDepth 4000 in
theorem wL_expression_21 {X : Cx} {d : Nat} (hd0 : 2 ≤ d) (x1 x2 x3 : Int) (sw : Bool) (m : Mem) (Q : Int → Bool → Mem → Prop) (h : ((120 ≤ w32 x3 → Q 0 sw m) ∧ (¬ (120 ≤ w32 x3) → M2 X 2 mL_signOf [vr 18, vi x1] sw m (fun z1 sw1 m1 => ((w32 z1 = 0 → Q 0 sw1 m1) ∧ (¬ (w32 z1 = 0) → ((¬ w32 x1 = 2 → M2 X d mL_expression [vr 18, vi (x1 + 1), vi x2] sw1 (upm m1 18 7 ((m1 18 7) + 1)) (fun z2 sw2 m2 => M2 X 1 mL_emit [vr 18, vi z1] sw2 m2 (fun z3 sw3 m3 => R2 X (d + 1) mL_expression 21 [(0, vr 18), (1, vi x1), (2, vi x2), (3, vi (x3 + 1))] [] sw3 m3 Q))) ∧ (¬ (¬ w32 x1 = 2) → ((w32 x3 ≤ 0 → M2 X d mL_expression [vr 18, vi (x1 + 1), vi x2] sw1 (upm m1 18 7 ((m1 18 7) + 1)) (fun z4 sw4 m4 => M2 X 1 mL_emit [vr 18, vi z1] sw4 m4 (fun z5 sw5 m5 => R2 X (d + 1) mL_expression 21 [(0, vr 18), (1, vi x1), (2, vi x2), (3, vi (x3 + 1))] [] sw5 m5 Q))) ∧ (¬ (w32 x3 ≤ 0) → Q 0 sw1 m1)))))))))) : R2 X (d + 1) mL_expression 21 [(0, vr 18), (1, vi x1), (2, vi x2), (3, vi x3)] [] sw m Q := by
  refine r_iload_n 3 3 rfl dL_expression_21 rfl ?_
  refine r_bipush (by decide) dL_expression_22 ?_
  refine r_ifc_ge (tgt := 79) dL_expression_24 (by decide) (fun hc => ?_) (fun hc => ?_)
  · replace h := h.1 hc
    exact q_vret rfl h dL_expression_79
  · replace h := h.2 hc
    refine r_aload_n 0 0 rfl dL_expression_27 rfl ?_
    refine r_iload_n 1 1 rfl dL_expression_28 rfl ?_
    refine r_callVi 2 [_] rfl c18 rfl rfl oL_signOf iL_signOf sL_signOf yL_63 (by omega) ⟨Nat.le_refl _, Nat.le_refl _⟩ rfl (Nat.le_of_ble_eq_true rfl) dL_expression_29 h (fun z1 r1 m1 h => ?_)
    obtain ⟨sw1, rfl, h⟩ := h
    refine r_istore 4 (by decide) dL_expression_32 ?_
    refine r_iload 4 0 rfl dL_expression_34 ?_
    refine r_if_eq (tgt := 48) dL_expression_36 (by decide) (fun hc => ?_) (fun hc => ?_)
    · replace h := h.1 hc
      exact q_vret rfl h dL_expression_48
    · replace h := h.2 hc
      refine r_iload_n 1 2 rfl dL_expression_39 rfl ?_
      refine r_iconst dL_expression_40 ?_
      refine r_ifc_ne (tgt := 49) dL_expression_41 (by decide) (fun hc => ?_) (fun hc => ?_)
      · replace h := h.1 hc
        refine r_aload_n 0 1 rfl dL_expression_49 rfl ?_
        refine r_dup (fun q => by cases q) dL_expression_50 ?_
        refine q_getI 7 c18 fL_31 rfl rfl dL_expression_51 ?_
        refine r_iconst dL_expression_54 ?_
        refine r_iadd dL_expression_55 ?_
        refine q_putI 7 c18 pfL_31 rfl rfl dL_expression_56 ?_
        refine r_aload_n 0 1 rfl dL_expression_59 rfl ?_
        refine r_iload_n 1 2 rfl dL_expression_60 rfl ?_
        refine r_iconst dL_expression_61 ?_
        refine r_iadd dL_expression_62 ?_
        refine r_iload_n 2 3 rfl dL_expression_63 rfl ?_
        refine r_callSv [_, _, _] rfl oL_expression iL_expression yL_48 (by omega) ⟨Nat.le_refl _, Nat.le_refl _⟩ rfl (Nat.le_of_ble_eq_true rfl) dL_expression_64 h (fun z2 r2 m2 h => ?_)
        obtain ⟨sw2, rfl, h⟩ := h
        refine r_aload_n 0 1 rfl dL_expression_67 rfl ?_
        refine r_iload 4 0 rfl dL_expression_68 ?_
        refine r_callVv 2 [_] rfl c18 rfl rfl oL_emit iL_emit sL_emit yL_56 (by omega) ⟨Nat.le_refl _, Nat.le_refl _⟩ rfl (Nat.le_of_ble_eq_true rfl) dL_expression_70 h (fun z3 r3 m3 h => ?_)
        obtain ⟨sw3, rfl, h⟩ := h
        refine r_iinc 3 4 rfl (by decide) dL_expression_73 ?_
        refine r_goto (tgt := 21) dL_expression_76 (by decide) ?_
        refine r_sub [2, 3, 4, 0] ?_ h
        rfl
      · replace h := h.2 hc
        refine r_iload_n 3 4 rfl dL_expression_44 rfl ?_
        refine r_if_le (tgt := 49) dL_expression_45 (by decide) (fun hc => ?_) (fun hc => ?_)
        · replace h := h.1 hc
          refine r_aload_n 0 1 rfl dL_expression_49 rfl ?_
          refine r_dup (fun q => by cases q) dL_expression_50 ?_
          refine q_getI 7 c18 fL_31 rfl rfl dL_expression_51 ?_
          refine r_iconst dL_expression_54 ?_
          refine r_iadd dL_expression_55 ?_
          refine q_putI 7 c18 pfL_31 rfl rfl dL_expression_56 ?_
          refine r_aload_n 0 1 rfl dL_expression_59 rfl ?_
          refine r_iload_n 1 2 rfl dL_expression_60 rfl ?_
          refine r_iconst dL_expression_61 ?_
          refine r_iadd dL_expression_62 ?_
          refine r_iload_n 2 3 rfl dL_expression_63 rfl ?_
          refine r_callSv [_, _, _] rfl oL_expression iL_expression yL_48 (by omega) ⟨Nat.le_refl _, Nat.le_refl _⟩ rfl (Nat.le_of_ble_eq_true rfl) dL_expression_64 h (fun z4 r4 m4 h => ?_)
          obtain ⟨sw4, rfl, h⟩ := h
          refine r_aload_n 0 1 rfl dL_expression_67 rfl ?_
          refine r_iload 4 0 rfl dL_expression_68 ?_
          refine r_callVv 2 [_] rfl c18 rfl rfl oL_emit iL_emit sL_emit yL_56 (by omega) ⟨Nat.le_refl _, Nat.le_refl _⟩ rfl (Nat.le_of_ble_eq_true rfl) dL_expression_70 h (fun z5 r5 m5 h => ?_)
          obtain ⟨sw5, rfl, h⟩ := h
          refine r_iinc 3 4 rfl (by decide) dL_expression_73 ?_
          refine r_goto (tgt := 21) dL_expression_76 (by decide) ?_
          refine r_sub [2, 3, 4, 0] ?_ h
          rfl
        · replace h := h.2 hc
          exact q_vret rfl h dL_expression_48
theorem dL_single_0 : decode mL_single.2.1 0 = .ok (.aload_n 0, 1) := by decide +kernel
theorem dL_single_1 : decode mL_single.2.1 1 = .ok (.invokevirtual 52, 3) := by decide +kernel
theorem dL_single_4 : decode mL_single.2.1 4 = .ok (.istore_n 2, 1) := by decide +kernel
theorem dL_single_5 : decode mL_single.2.1 5 = .ok (.iload_n 2, 1) := by decide +kernel
theorem dL_single_6 : decode mL_single.2.1 6 = .ok (.bipush 40, 2) := by decide +kernel
theorem dL_single_8 : decode mL_single.2.1 8 = .ok (.if_icmp .eq 15, 3) := by decide +kernel
theorem dL_single_11 : decode mL_single.2.1 11 = .ok (.iload_n 2, 1) := by decide +kernel
theorem dL_single_12 : decode mL_single.2.1 12 = .ok (.bipush 33, 2) := by decide +kernel
theorem dL_single_14 : decode mL_single.2.1 14 = .ok (.if_icmp .eq 9, 3) := by decide +kernel
theorem dL_single_17 : decode mL_single.2.1 17 = .ok (.iload_n 2, 1) := by decide +kernel
theorem dL_single_18 : decode mL_single.2.1 18 = .ok (.bipush 45, 2) := by decide +kernel
theorem dL_single_20 : decode mL_single.2.1 20 = .ok (.if_icmp .ne 7, 3) := by decide +kernel
theorem dL_single_23 : decode mL_single.2.1 23 = .ok (.iconst 1, 1) := by decide +kernel
theorem dL_single_24 : decode mL_single.2.1 24 = .ok (.goto 4, 3) := by decide +kernel
theorem dL_single_27 : decode mL_single.2.1 27 = .ok (.iconst 0, 1) := by decide +kernel
theorem dL_single_28 : decode mL_single.2.1 28 = .ok (.istore_n 3, 1) := by decide +kernel
theorem dL_single_29 : decode mL_single.2.1 29 = .ok (.iload_n 3, 1) := by decide +kernel
theorem dL_single_30 : decode mL_single.2.1 30 = .ok (.ifCond .ne 9, 3) := by decide +kernel
theorem dL_single_33 : decode mL_single.2.1 33 = .ok (.aload_n 0, 1) := by decide +kernel
theorem dL_single_34 : decode mL_single.2.1 34 = .ok (.iload_n 2, 1) := by decide +kernel
theorem dL_single_35 : decode mL_single.2.1 35 = .ok (.invokevirtual 67, 3) := by decide +kernel
theorem dL_single_38 : decode mL_single.2.1 38 = .ok (.return_, 1) := by decide +kernel
theorem dL_single_39 : decode mL_single.2.1 39 = .ok (.iload_n 1, 1) := by decide +kernel
theorem dL_single_40 : decode mL_single.2.1 40 = .ok (.bipush 6, 2) := by decide +kernel
theorem dL_single_42 : decode mL_single.2.1 42 = .ok (.if_icmp .lt 9, 3) := by decide +kernel
theorem dL_single_45 : decode mL_single.2.1 45 = .ok (.aload_n 0, 1) := by decide +kernel
theorem dL_single_46 : decode mL_single.2.1 46 = .ok (.iconst 1, 1) := by decide +kernel
theorem dL_single_47 : decode mL_single.2.1 47 = .ok (.putfield 37, 3) := by decide +kernel
theorem dL_single_50 : decode mL_single.2.1 50 = .ok (.return_, 1) := by decide +kernel
theorem dL_single_51 : decode mL_single.2.1 51 = .ok (.aload_n 0, 1) := by decide +kernel
theorem dL_single_52 : decode mL_single.2.1 52 = .ok (.dup, 1) := by decide +kernel
theorem dL_single_53 : decode mL_single.2.1 53 = .ok (.getfield 31, 3) := by decide +kernel
theorem dL_single_56 : decode mL_single.2.1 56 = .ok (.iconst 1, 1) := by decide +kernel
theorem dL_single_57 : decode mL_single.2.1 57 = .ok (.iadd, 1) := by decide +kernel
theorem dL_single_58 : decode mL_single.2.1 58 = .ok (.putfield 31, 3) := by decide +kernel
theorem dL_single_61 : decode mL_single.2.1 61 = .ok (.iload_n 2, 1) := by decide +kernel
theorem dL_single_62 : decode mL_single.2.1 62 = .ok (.bipush 40, 2) := by decide +kernel
theorem dL_single_64 : decode mL_single.2.1 64 = .ok (.if_icmp .ne 20, 3) := by decide +kernel
theorem dL_single_67 : decode mL_single.2.1 67 = .ok (.aload_n 0, 1) := by decide +kernel
theorem dL_single_68 : decode mL_single.2.1 68 = .ok (.iconst 0, 1) := by decide +kernel
theorem dL_single_69 : decode mL_single.2.1 69 = .ok (.iload_n 1, 1) := by decide +kernel
theorem dL_single_70 : decode mL_single.2.1 70 = .ok (.iconst 1, 1) := by decide +kernel
theorem dL_single_71 : decode mL_single.2.1 71 = .ok (.iadd, 1) := by decide +kernel
theorem dL_single_72 : decode mL_single.2.1 72 = .ok (.invokestatic 48, 3) := by decide +kernel
theorem dL_single_75 : decode mL_single.2.1 75 = .ok (.aload_n 0, 1) := by decide +kernel
theorem dL_single_76 : decode mL_single.2.1 76 = .ok (.bipush 41, 2) := by decide +kernel
theorem dL_single_78 : decode mL_single.2.1 78 = .ok (.invokevirtual 44, 3) := by decide +kernel
theorem dL_single_81 : decode mL_single.2.1 81 = .ok (.goto 27, 3) := by decide +kernel
theorem dL_single_84 : decode mL_single.2.1 84 = .ok (.aload_n 0, 1) := by decide +kernel
theorem dL_single_85 : decode mL_single.2.1 85 = .ok (.iload_n 1, 1) := by decide +kernel
theorem dL_single_86 : decode mL_single.2.1 86 = .ok (.iconst 1, 1) := by decide +kernel
theorem dL_single_87 : decode mL_single.2.1 87 = .ok (.iadd, 1) := by decide +kernel
theorem dL_single_88 : decode mL_single.2.1 88 = .ok (.invokestatic 59, 3) := by decide +kernel
theorem dL_single_91 : decode mL_single.2.1 91 = .ok (.aload_n 0, 1) := by decide +kernel
theorem dL_single_92 : decode mL_single.2.1 92 = .ok (.iload_n 2, 1) := by decide +kernel
theorem dL_single_93 : decode mL_single.2.1 93 = .ok (.bipush 33, 2) := by decide +kernel
theorem dL_single_95 : decode mL_single.2.1 95 = .ok (.if_icmp .ne 8, 3) := by decide +kernel
theorem dL_single_98 : decode mL_single.2.1 98 = .ok (.bipush (-11), 2) := by decide +kernel
theorem dL_single_100 : decode mL_single.2.1 100 = .ok (.goto 5, 3) := by decide +kernel
theorem dL_single_103 : decode mL_single.2.1 103 = .ok (.bipush (-12), 2) := by decide +kernel
theorem dL_single_105 : decode mL_single.2.1 105 = .ok (.invokevirtual 56, 3) := by decide +kernel
theorem dL_single_108 : decode mL_single.2.1 108 = .ok (.return_, 1) := by decide +kernel
/- L_single: (LWokenByKettle$Law;I)V -/
set_option maxRecDepth 4000 in
theorem wL_single {X : Cx} {d : Nat} (hd0 : 2 ≤ d) (a1 : Int) (sw : Bool) (m : Mem) (Q : Int → Bool → Mem → Prop) (h : M2 X 1 mL_next [vr 18] sw m (fun z1 sw1 m1 => ((w32 z1 = 40 → ((w32 a1 < 6 → ((¬ w32 z1 = 40 → M2 X d mL_single [vr 18, vi (a1 + 1)] sw1 (upm m1 18 7 ((m1 18 7) + 1)) (fun z2 sw2 m2 => ((¬ w32 z1 = 33 → M2 X 1 mL_emit [vr 18, vi (-12)] sw2 m2 (fun z3 sw3 m3 => Q 0 sw3 m3)) ∧ (¬ (¬ w32 z1 = 33) → M2 X 1 mL_emit [vr 18, vi (-11)] sw2 m2 (fun z4 sw4 m4 => Q 0 sw4 m4))))) ∧ (¬ (¬ w32 z1 = 40) → M2 X d mL_expression [vr 18, vi 0, vi (a1 + 1)] sw1 (upm m1 18 7 ((m1 18 7) + 1)) (fun z5 sw5 m5 => M2 X 2 mL_accept [vr 18, vi 41] sw5 m5 (fun z6 sw6 m6 => Q 0 sw6 m6))))) ∧ (¬ (w32 a1 < 6) → Q 0 sw1 (upm m1 18 8 1)))) ∧ (¬ (w32 z1 = 40) → ((w32 z1 = 33 → ((w32 a1 < 6 → ((¬ w32 z1 = 40 → M2 X d mL_single [vr 18, vi (a1 + 1)] sw1 (upm m1 18 7 ((m1 18 7) + 1)) (fun z7 sw7 m7 => ((¬ w32 z1 = 33 → M2 X 1 mL_emit [vr 18, vi (-12)] sw7 m7 (fun z8 sw8 m8 => Q 0 sw8 m8)) ∧ (¬ (¬ w32 z1 = 33) → M2 X 1 mL_emit [vr 18, vi (-11)] sw7 m7 (fun z9 sw9 m9 => Q 0 sw9 m9))))) ∧ (¬ (¬ w32 z1 = 40) → M2 X d mL_expression [vr 18, vi 0, vi (a1 + 1)] sw1 (upm m1 18 7 ((m1 18 7) + 1)) (fun z10 sw10 m10 => M2 X 2 mL_accept [vr 18, vi 41] sw10 m10 (fun z11 sw11 m11 => Q 0 sw11 m11))))) ∧ (¬ (w32 a1 < 6) → Q 0 sw1 (upm m1 18 8 1)))) ∧ (¬ (w32 z1 = 33) → ((¬ w32 z1 = 45 → M2 X 2 mL_readOperand [vr 18, vi z1] sw1 m1 (fun z12 sw12 m12 => Q 0 sw12 m12)) ∧ (¬ (¬ w32 z1 = 45) → ((w32 a1 < 6 → ((¬ w32 z1 = 40 → M2 X d mL_single [vr 18, vi (a1 + 1)] sw1 (upm m1 18 7 ((m1 18 7) + 1)) (fun z13 sw13 m13 => ((¬ w32 z1 = 33 → M2 X 1 mL_emit [vr 18, vi (-12)] sw13 m13 (fun z14 sw14 m14 => Q 0 sw14 m14)) ∧ (¬ (¬ w32 z1 = 33) → M2 X 1 mL_emit [vr 18, vi (-11)] sw13 m13 (fun z15 sw15 m15 => Q 0 sw15 m15))))) ∧ (¬ (¬ w32 z1 = 40) → M2 X d mL_expression [vr 18, vi 0, vi (a1 + 1)] sw1 (upm m1 18 7 ((m1 18 7) + 1)) (fun z16 sw16 m16 => M2 X 2 mL_accept [vr 18, vi 41] sw16 m16 (fun z17 sw17 m17 => Q 0 sw17 m17))))) ∧ (¬ (w32 a1 < 6) → Q 0 sw1 (upm m1 18 8 1))))))))))) : M2 X (d + 1) mL_single [vr 18, vi a1] sw m Q := by
  refine Mt.of pL_single (Nat.le_of_ble_eq_true rfl) (Nat.le_refl _) ?_
  show R2 X (d + 1) mL_single 0 [(0, vr 18), (1, vi a1)] [] sw m Q
  refine r_aload_n 0 0 rfl dL_single_0 rfl ?_
  refine r_callVi 2 [] rfl c18 rfl rfl oL_next iL_next sL_next yL_52 (by omega) ⟨Nat.le_refl _, Nat.le_refl _⟩ rfl (Nat.le_of_ble_eq_true rfl) dL_single_1 h (fun z1 r1 m1 h => ?_)
  obtain ⟨sw1, rfl, h⟩ := h
  refine r_istore_n 2 (by decide) dL_single_4 rfl ?_
  refine r_iload_n 2 0 rfl dL_single_5 rfl ?_
  refine r_bipush (by decide) dL_single_6 ?_
  refine r_ifc_eq (tgt := 23) dL_single_8 (by decide) (fun hc => ?_) (fun hc => ?_)
  · replace h := h.1 hc
    refine r_iconst dL_single_23 ?_
    refine r_goto (tgt := 28) dL_single_24 (by decide) ?_
    refine r_istore_n 3 (by decide) dL_single_28 rfl ?_
    refine r_iload_n 3 0 rfl dL_single_29 rfl ?_
    refine r_if_ne (tgt := 39) dL_single_30 (by decide) (fun _ => ?_) (fun q => absurd (show ¬ w32 1 = 0 by decide) q)
    refine r_iload_n 1 3 rfl dL_single_39 rfl ?_
    refine r_bipush (by decide) dL_single_40 ?_
    refine r_ifc_lt (tgt := 51) dL_single_42 (by decide) (fun hc => ?_) (fun hc => ?_)
    · replace h := h.1 hc
      refine r_aload_n 0 2 rfl dL_single_51 rfl ?_
      refine r_dup (fun q => by cases q) dL_single_52 ?_
      refine q_getI 7 c18 fL_31 rfl rfl dL_single_53 ?_
      refine r_iconst dL_single_56 ?_
      refine r_iadd dL_single_57 ?_
      refine q_putI 7 c18 pfL_31 rfl rfl dL_single_58 ?_
      refine r_iload_n 2 1 rfl dL_single_61 rfl ?_
      refine r_bipush (by decide) dL_single_62 ?_
      refine r_ifc_ne (tgt := 84) dL_single_64 (by decide) (fun hc => ?_) (fun hc => ?_)
      · replace h := h.1 hc
        refine r_aload_n 0 2 rfl dL_single_84 rfl ?_
        refine r_iload_n 1 3 rfl dL_single_85 rfl ?_
        refine r_iconst dL_single_86 ?_
        refine r_iadd dL_single_87 ?_
        refine r_callSv [_, _] rfl oL_single iL_single yL_59 (by omega) ⟨Nat.le_refl _, Nat.le_refl _⟩ rfl (Nat.le_of_ble_eq_true rfl) dL_single_88 h (fun z2 r2 m2 h => ?_)
        obtain ⟨sw2, rfl, h⟩ := h
        refine r_aload_n 0 2 rfl dL_single_91 rfl ?_
        refine r_iload_n 2 1 rfl dL_single_92 rfl ?_
        refine r_bipush (by decide) dL_single_93 ?_
        refine r_ifc_ne (tgt := 103) dL_single_95 (by decide) (fun hc => ?_) (fun hc => ?_)
        · replace h := h.1 hc
          refine r_bipush (by decide) dL_single_103 ?_
          refine r_callVv 2 [_] rfl c18 rfl rfl oL_emit iL_emit sL_emit yL_56 (by omega) ⟨Nat.le_refl _, Nat.le_refl _⟩ rfl (Nat.le_of_ble_eq_true rfl) dL_single_105 h (fun z3 r3 m3 h => ?_)
          obtain ⟨sw3, rfl, h⟩ := h
          exact q_vret rfl h dL_single_108
        · replace h := h.2 hc
          refine r_bipush (by decide) dL_single_98 ?_
          refine r_goto (tgt := 105) dL_single_100 (by decide) ?_
          refine r_callVv 2 [_] rfl c18 rfl rfl oL_emit iL_emit sL_emit yL_56 (by omega) ⟨Nat.le_refl _, Nat.le_refl _⟩ rfl (Nat.le_of_ble_eq_true rfl) dL_single_105 h (fun z4 r4 m4 h => ?_)
          obtain ⟨sw4, rfl, h⟩ := h
          exact q_vret rfl h dL_single_108
      · replace h := h.2 hc
        refine r_aload_n 0 2 rfl dL_single_67 rfl ?_
        refine r_iconst dL_single_68 ?_
        refine r_iload_n 1 3 rfl dL_single_69 rfl ?_
        refine r_iconst dL_single_70 ?_
        refine r_iadd dL_single_71 ?_
        refine r_callSv [_, _, _] rfl oL_expression iL_expression yL_48 (by omega) ⟨Nat.le_refl _, Nat.le_refl _⟩ rfl (Nat.le_of_ble_eq_true rfl) dL_single_72 h (fun z5 r5 m5 h => ?_)
        obtain ⟨sw5, rfl, h⟩ := h
        refine r_aload_n 0 2 rfl dL_single_75 rfl ?_
        refine r_bipush (by decide) dL_single_76 ?_
        refine r_callVv 2 [_] rfl c18 rfl rfl oL_accept iL_accept sL_accept yL_44 (by omega) ⟨Nat.le_refl _, Nat.le_refl _⟩ rfl (Nat.le_of_ble_eq_true rfl) dL_single_78 h (fun z6 r6 m6 h => ?_)
        obtain ⟨sw6, rfl, h⟩ := h
        refine r_goto (tgt := 108) dL_single_81 (by decide) ?_
        exact q_vret rfl h dL_single_108
    · replace h := h.2 hc
      refine r_aload_n 0 2 rfl dL_single_45 rfl ?_
      refine r_iconst dL_single_46 ?_
      refine q_putZ 8 c18 pfL_37 rfl rfl (Or.inr rfl) dL_single_47 ?_
      exact q_vret rfl h dL_single_50
  · replace h := h.2 hc
    refine r_iload_n 2 0 rfl dL_single_11 rfl ?_
    refine r_bipush (by decide) dL_single_12 ?_
    refine r_ifc_eq (tgt := 23) dL_single_14 (by decide) (fun hc => ?_) (fun hc => ?_)
    · replace h := h.1 hc
      refine r_iconst dL_single_23 ?_
      refine r_goto (tgt := 28) dL_single_24 (by decide) ?_
      refine r_istore_n 3 (by decide) dL_single_28 rfl ?_
      refine r_iload_n 3 0 rfl dL_single_29 rfl ?_
      refine r_if_ne (tgt := 39) dL_single_30 (by decide) (fun _ => ?_) (fun q => absurd (show ¬ w32 1 = 0 by decide) q)
      refine r_iload_n 1 3 rfl dL_single_39 rfl ?_
      refine r_bipush (by decide) dL_single_40 ?_
      refine r_ifc_lt (tgt := 51) dL_single_42 (by decide) (fun hc => ?_) (fun hc => ?_)
      · replace h := h.1 hc
        refine r_aload_n 0 2 rfl dL_single_51 rfl ?_
        refine r_dup (fun q => by cases q) dL_single_52 ?_
        refine q_getI 7 c18 fL_31 rfl rfl dL_single_53 ?_
        refine r_iconst dL_single_56 ?_
        refine r_iadd dL_single_57 ?_
        refine q_putI 7 c18 pfL_31 rfl rfl dL_single_58 ?_
        refine r_iload_n 2 1 rfl dL_single_61 rfl ?_
        refine r_bipush (by decide) dL_single_62 ?_
        refine r_ifc_ne (tgt := 84) dL_single_64 (by decide) (fun hc => ?_) (fun hc => ?_)
        · replace h := h.1 hc
          refine r_aload_n 0 2 rfl dL_single_84 rfl ?_
          refine r_iload_n 1 3 rfl dL_single_85 rfl ?_
          refine r_iconst dL_single_86 ?_
          refine r_iadd dL_single_87 ?_
          refine r_callSv [_, _] rfl oL_single iL_single yL_59 (by omega) ⟨Nat.le_refl _, Nat.le_refl _⟩ rfl (Nat.le_of_ble_eq_true rfl) dL_single_88 h (fun z7 r7 m7 h => ?_)
          obtain ⟨sw7, rfl, h⟩ := h
          refine r_aload_n 0 2 rfl dL_single_91 rfl ?_
          refine r_iload_n 2 1 rfl dL_single_92 rfl ?_
          refine r_bipush (by decide) dL_single_93 ?_
          refine r_ifc_ne (tgt := 103) dL_single_95 (by decide) (fun hc => ?_) (fun hc => ?_)
          · replace h := h.1 hc
            refine r_bipush (by decide) dL_single_103 ?_
            refine r_callVv 2 [_] rfl c18 rfl rfl oL_emit iL_emit sL_emit yL_56 (by omega) ⟨Nat.le_refl _, Nat.le_refl _⟩ rfl (Nat.le_of_ble_eq_true rfl) dL_single_105 h (fun z8 r8 m8 h => ?_)
            obtain ⟨sw8, rfl, h⟩ := h
            exact q_vret rfl h dL_single_108
          · replace h := h.2 hc
            refine r_bipush (by decide) dL_single_98 ?_
            refine r_goto (tgt := 105) dL_single_100 (by decide) ?_
            refine r_callVv 2 [_] rfl c18 rfl rfl oL_emit iL_emit sL_emit yL_56 (by omega) ⟨Nat.le_refl _, Nat.le_refl _⟩ rfl (Nat.le_of_ble_eq_true rfl) dL_single_105 h (fun z9 r9 m9 h => ?_)
            obtain ⟨sw9, rfl, h⟩ := h
            exact q_vret rfl h dL_single_108
        · replace h := h.2 hc
          refine r_aload_n 0 2 rfl dL_single_67 rfl ?_
          refine r_iconst dL_single_68 ?_
          refine r_iload_n 1 3 rfl dL_single_69 rfl ?_
          refine r_iconst dL_single_70 ?_
          refine r_iadd dL_single_71 ?_
          refine r_callSv [_, _, _] rfl oL_expression iL_expression yL_48 (by omega) ⟨Nat.le_refl _, Nat.le_refl _⟩ rfl (Nat.le_of_ble_eq_true rfl) dL_single_72 h (fun z10 r10 m10 h => ?_)
          obtain ⟨sw10, rfl, h⟩ := h
          refine r_aload_n 0 2 rfl dL_single_75 rfl ?_
          refine r_bipush (by decide) dL_single_76 ?_
          refine r_callVv 2 [_] rfl c18 rfl rfl oL_accept iL_accept sL_accept yL_44 (by omega) ⟨Nat.le_refl _, Nat.le_refl _⟩ rfl (Nat.le_of_ble_eq_true rfl) dL_single_78 h (fun z11 r11 m11 h => ?_)
          obtain ⟨sw11, rfl, h⟩ := h
          refine r_goto (tgt := 108) dL_single_81 (by decide) ?_
          exact q_vret rfl h dL_single_108
      · replace h := h.2 hc
        refine r_aload_n 0 2 rfl dL_single_45 rfl ?_
        refine r_iconst dL_single_46 ?_
        refine q_putZ 8 c18 pfL_37 rfl rfl (Or.inr rfl) dL_single_47 ?_
        exact q_vret rfl h dL_single_50
    · replace h := h.2 hc
      refine r_iload_n 2 0 rfl dL_single_17 rfl ?_
      refine r_bipush (by decide) dL_single_18 ?_
      refine r_ifc_ne (tgt := 27) dL_single_20 (by decide) (fun hc => ?_) (fun hc => ?_)
      · replace h := h.1 hc
        refine r_iconst dL_single_27 ?_
        refine r_istore_n 3 (by decide) dL_single_28 rfl ?_
        refine r_iload_n 3 0 rfl dL_single_29 rfl ?_
        refine r_if_ne (tgt := 39) dL_single_30 (by decide) (fun q => absurd (show ¬ w32 0 = 0 from q) (by decide)) (fun _ => ?_)
        refine r_aload_n 0 2 rfl dL_single_33 rfl ?_
        refine r_iload_n 2 1 rfl dL_single_34 rfl ?_
        refine r_callVv 2 [_] rfl c18 rfl rfl oL_readOperand iL_readOperand sL_readOperand yL_67 (by omega) ⟨Nat.le_refl _, Nat.le_refl _⟩ rfl (Nat.le_of_ble_eq_true rfl) dL_single_35 h (fun z12 r12 m12 h => ?_)
        obtain ⟨sw12, rfl, h⟩ := h
        exact q_vret rfl h dL_single_38
      · replace h := h.2 hc
        refine r_iconst dL_single_23 ?_
        refine r_goto (tgt := 28) dL_single_24 (by decide) ?_
        refine r_istore_n 3 (by decide) dL_single_28 rfl ?_
        refine r_iload_n 3 0 rfl dL_single_29 rfl ?_
        refine r_if_ne (tgt := 39) dL_single_30 (by decide) (fun _ => ?_) (fun q => absurd (show ¬ w32 1 = 0 by decide) q)
        refine r_iload_n 1 3 rfl dL_single_39 rfl ?_
        refine r_bipush (by decide) dL_single_40 ?_
        refine r_ifc_lt (tgt := 51) dL_single_42 (by decide) (fun hc => ?_) (fun hc => ?_)
        · replace h := h.1 hc
          refine r_aload_n 0 2 rfl dL_single_51 rfl ?_
          refine r_dup (fun q => by cases q) dL_single_52 ?_
          refine q_getI 7 c18 fL_31 rfl rfl dL_single_53 ?_
          refine r_iconst dL_single_56 ?_
          refine r_iadd dL_single_57 ?_
          refine q_putI 7 c18 pfL_31 rfl rfl dL_single_58 ?_
          refine r_iload_n 2 1 rfl dL_single_61 rfl ?_
          refine r_bipush (by decide) dL_single_62 ?_
          refine r_ifc_ne (tgt := 84) dL_single_64 (by decide) (fun hc => ?_) (fun hc => ?_)
          · replace h := h.1 hc
            refine r_aload_n 0 2 rfl dL_single_84 rfl ?_
            refine r_iload_n 1 3 rfl dL_single_85 rfl ?_
            refine r_iconst dL_single_86 ?_
            refine r_iadd dL_single_87 ?_
            refine r_callSv [_, _] rfl oL_single iL_single yL_59 (by omega) ⟨Nat.le_refl _, Nat.le_refl _⟩ rfl (Nat.le_of_ble_eq_true rfl) dL_single_88 h (fun z13 r13 m13 h => ?_)
            obtain ⟨sw13, rfl, h⟩ := h
            refine r_aload_n 0 2 rfl dL_single_91 rfl ?_
            refine r_iload_n 2 1 rfl dL_single_92 rfl ?_
            refine r_bipush (by decide) dL_single_93 ?_
            refine r_ifc_ne (tgt := 103) dL_single_95 (by decide) (fun hc => ?_) (fun hc => ?_)
            · replace h := h.1 hc
              refine r_bipush (by decide) dL_single_103 ?_
              refine r_callVv 2 [_] rfl c18 rfl rfl oL_emit iL_emit sL_emit yL_56 (by omega) ⟨Nat.le_refl _, Nat.le_refl _⟩ rfl (Nat.le_of_ble_eq_true rfl) dL_single_105 h (fun z14 r14 m14 h => ?_)
              obtain ⟨sw14, rfl, h⟩ := h
              exact q_vret rfl h dL_single_108
            · replace h := h.2 hc
              refine r_bipush (by decide) dL_single_98 ?_
              refine r_goto (tgt := 105) dL_single_100 (by decide) ?_
              refine r_callVv 2 [_] rfl c18 rfl rfl oL_emit iL_emit sL_emit yL_56 (by omega) ⟨Nat.le_refl _, Nat.le_refl _⟩ rfl (Nat.le_of_ble_eq_true rfl) dL_single_105 h (fun z15 r15 m15 h => ?_)
              obtain ⟨sw15, rfl, h⟩ := h
              exact q_vret rfl h dL_single_108
          · replace h := h.2 hc
            refine r_aload_n 0 2 rfl dL_single_67 rfl ?_
            refine r_iconst dL_single_68 ?_
            refine r_iload_n 1 3 rfl dL_single_69 rfl ?_
            refine r_iconst dL_single_70 ?_
            refine r_iadd dL_single_71 ?_
            refine r_callSv [_, _, _] rfl oL_expression iL_expression yL_48 (by omega) ⟨Nat.le_refl _, Nat.le_refl _⟩ rfl (Nat.le_of_ble_eq_true rfl) dL_single_72 h (fun z16 r16 m16 h => ?_)
            obtain ⟨sw16, rfl, h⟩ := h
            refine r_aload_n 0 2 rfl dL_single_75 rfl ?_
            refine r_bipush (by decide) dL_single_76 ?_
            refine r_callVv 2 [_] rfl c18 rfl rfl oL_accept iL_accept sL_accept yL_44 (by omega) ⟨Nat.le_refl _, Nat.le_refl _⟩ rfl (Nat.le_of_ble_eq_true rfl) dL_single_78 h (fun z17 r17 m17 h => ?_)
            obtain ⟨sw17, rfl, h⟩ := h
            refine r_goto (tgt := 108) dL_single_81 (by decide) ?_
            exact q_vret rfl h dL_single_108
        · replace h := h.2 hc
          refine r_aload_n 0 2 rfl dL_single_45 rfl ?_
          refine r_iconst dL_single_46 ?_
          refine q_putZ 8 c18 pfL_37 rfl rfl (Or.inr rfl) dL_single_47 ?_
          exact q_vret rfl h dL_single_50
theorem dL_readOperand_0 : decode mL_readOperand.2.1 0 = .ok (.iconst 0, 1) := by decide +kernel
theorem dL_readOperand_1 : decode mL_readOperand.2.1 1 = .ok (.istore_n 2, 1) := by decide +kernel
theorem dL_readOperand_2 : decode mL_readOperand.2.1 2 = .ok (.iload_n 2, 1) := by decide +kernel
theorem dL_readOperand_3 : decode mL_readOperand.2.1 3 = .ok (.getstatic 70, 3) := by decide +kernel
theorem dL_readOperand_6 : decode mL_readOperand.2.1 6 = .ok (.arraylength, 1) := by decide +kernel
theorem dL_readOperand_7 : decode mL_readOperand.2.1 7 = .ok (.if_icmp .ge 37, 3) := by decide +kernel
theorem dL_readOperand_10 : decode mL_readOperand.2.1 10 = .ok (.iload_n 1, 1) := by decide +kernel
theorem dL_readOperand_11 : decode mL_readOperand.2.1 11 = .ok (.getstatic 70, 3) := by decide +kernel
theorem dL_readOperand_14 : decode mL_readOperand.2.1 14 = .ok (.iload_n 2, 1) := by decide +kernel
theorem dL_readOperand_15 : decode mL_readOperand.2.1 15 = .ok (.caload, 1) := by decide +kernel
theorem dL_readOperand_16 : decode mL_readOperand.2.1 16 = .ok (.if_icmp .ne 22, 3) := by decide +kernel
theorem dL_readOperand_19 : decode mL_readOperand.2.1 19 = .ok (.aload_n 0, 1) := by decide +kernel
theorem dL_readOperand_20 : decode mL_readOperand.2.1 20 = .ok (.dup, 1) := by decide +kernel
theorem dL_readOperand_21 : decode mL_readOperand.2.1 21 = .ok (.getfield 31, 3) := by decide +kernel
theorem dL_readOperand_24 : decode mL_readOperand.2.1 24 = .ok (.iconst 1, 1) := by decide +kernel
theorem dL_readOperand_25 : decode mL_readOperand.2.1 25 = .ok (.iadd, 1) := by decide +kernel
theorem dL_readOperand_26 : decode mL_readOperand.2.1 26 = .ok (.putfield 31, 3) := by decide +kernel
theorem dL_readOperand_29 : decode mL_readOperand.2.1 29 = .ok (.aload_n 0, 1) := by decide +kernel
theorem dL_readOperand_30 : decode mL_readOperand.2.1 30 = .ok (.bipush (-20), 2) := by decide +kernel
theorem dL_readOperand_32 : decode mL_readOperand.2.1 32 = .ok (.iload_n 2, 1) := by decide +kernel
theorem dL_readOperand_33 : decode mL_readOperand.2.1 33 = .ok (.isub, 1) := by decide +kernel
theorem dL_readOperand_34 : decode mL_readOperand.2.1 34 = .ok (.invokevirtual 56, 3) := by decide +kernel
theorem dL_readOperand_37 : decode mL_readOperand.2.1 37 = .ok (.return_, 1) := by decide +kernel
theorem dL_readOperand_38 : decode mL_readOperand.2.1 38 = .ok (.iinc 2 1, 3) := by decide +kernel
theorem dL_readOperand_41 : decode mL_readOperand.2.1 41 = .ok (.goto (-39), 3) := by decide +kernel
theorem dL_readOperand_44 : decode mL_readOperand.2.1 44 = .ok (.iconst 0, 1) := by decide +kernel
theorem dL_readOperand_45 : decode mL_readOperand.2.1 45 = .ok (.istore_n 2, 1) := by decide +kernel
theorem dL_readOperand_46 : decode mL_readOperand.2.1 46 = .ok (.iconst 0, 1) := by decide +kernel
theorem dL_readOperand_47 : decode mL_readOperand.2.1 47 = .ok (.istore_n 3, 1) := by decide +kernel
theorem dL_readOperand_48 : decode mL_readOperand.2.1 48 = .ok (.iload_n 3, 1) := by decide +kernel
theorem dL_readOperand_49 : decode mL_readOperand.2.1 49 = .ok (.iconst 4, 1) := by decide +kernel
theorem dL_readOperand_50 : decode mL_readOperand.2.1 50 = .ok (.if_icmp .ge 50, 3) := by decide +kernel
theorem dL_readOperand_53 : decode mL_readOperand.2.1 53 = .ok (.aload_n 0, 1) := by decide +kernel
theorem dL_readOperand_54 : decode mL_readOperand.2.1 54 = .ok (.invokevirtual 52, 3) := by decide +kernel
theorem dL_readOperand_57 : decode mL_readOperand.2.1 57 = .ok (.bipush 48, 2) := by decide +kernel
theorem dL_readOperand_59 : decode mL_readOperand.2.1 59 = .ok (.if_icmp .lt 41, 3) := by decide +kernel
theorem dL_readOperand_62 : decode mL_readOperand.2.1 62 = .ok (.aload_n 0, 1) := by decide +kernel
theorem dL_readOperand_63 : decode mL_readOperand.2.1 63 = .ok (.invokevirtual 52, 3) := by decide +kernel
theorem dL_readOperand_66 : decode mL_readOperand.2.1 66 = .ok (.bipush 57, 2) := by decide +kernel
theorem dL_readOperand_68 : decode mL_readOperand.2.1 68 = .ok (.if_icmp .gt 32, 3) := by decide +kernel
theorem dL_readOperand_71 : decode mL_readOperand.2.1 71 = .ok (.iload_n 2, 1) := by decide +kernel
theorem dL_readOperand_72 : decode mL_readOperand.2.1 72 = .ok (.bipush 10, 2) := by decide +kernel
theorem dL_readOperand_74 : decode mL_readOperand.2.1 74 = .ok (.imul, 1) := by decide +kernel
theorem dL_readOperand_75 : decode mL_readOperand.2.1 75 = .ok (.aload_n 0, 1) := by decide +kernel
theorem dL_readOperand_76 : decode mL_readOperand.2.1 76 = .ok (.invokevirtual 52, 3) := by decide +kernel
theorem dL_readOperand_79 : decode mL_readOperand.2.1 79 = .ok (.iadd, 1) := by decide +kernel
theorem dL_readOperand_80 : decode mL_readOperand.2.1 80 = .ok (.bipush 48, 2) := by decide +kernel
theorem dL_readOperand_82 : decode mL_readOperand.2.1 82 = .ok (.isub, 1) := by decide +kernel
theorem dL_readOperand_83 : decode mL_readOperand.2.1 83 = .ok (.istore_n 2, 1) := by decide +kernel
theorem dL_readOperand_84 : decode mL_readOperand.2.1 84 = .ok (.aload_n 0, 1) := by decide +kernel
theorem dL_readOperand_85 : decode mL_readOperand.2.1 85 = .ok (.dup, 1) := by decide +kernel
theorem dL_readOperand_86 : decode mL_readOperand.2.1 86 = .ok (.getfield 31, 3) := by decide +kernel
theorem dL_readOperand_89 : decode mL_readOperand.2.1 89 = .ok (.iconst 1, 1) := by decide +kernel
theorem dL_readOperand_90 : decode mL_readOperand.2.1 90 = .ok (.iadd, 1) := by decide +kernel
theorem dL_readOperand_91 : decode mL_readOperand.2.1 91 = .ok (.putfield 31, 3) := by decide +kernel
theorem dL_readOperand_94 : decode mL_readOperand.2.1 94 = .ok (.iinc 3 1, 3) := by decide +kernel
theorem dL_readOperand_97 : decode mL_readOperand.2.1 97 = .ok (.goto (-49), 3) := by decide +kernel
theorem dL_readOperand_100 : decode mL_readOperand.2.1 100 = .ok (.iload_n 3, 1) := by decide +kernel
theorem dL_readOperand_101 : decode mL_readOperand.2.1 101 = .ok (.ifCond .ne 8, 3) := by decide +kernel
theorem dL_readOperand_104 : decode mL_readOperand.2.1 104 = .ok (.aload_n 0, 1) := by decide +kernel
theorem dL_readOperand_105 : decode mL_readOperand.2.1 105 = .ok (.iconst 1, 1) := by decide +kernel
theorem dL_readOperand_106 : decode mL_readOperand.2.1 106 = .ok (.putfield 37, 3) := by decide +kernel
theorem dL_readOperand_109 : decode mL_readOperand.2.1 109 = .ok (.aload_n 0, 1) := by decide +kernel
theorem dL_readOperand_110 : decode mL_readOperand.2.1 110 = .ok (.iload_n 2, 1) := by decide +kernel
theorem dL_readOperand_111 : decode mL_readOperand.2.1 111 = .ok (.invokevirtual 56, 3) := by decide +kernel
theorem dL_readOperand_114 : decode mL_readOperand.2.1 114 = .ok (.return_, 1) := by decide +kernel
/- L_readOperand: (I)V -/
set_option maxRecDepth 4000 in
theorem wL_readOperand {X : Cx} (a1 : Int) (sw : Bool) (m : Mem) (Q : Int → Bool → Mem → Prop) (h : R2 X 2 mL_readOperand 2 [(0, vr 18), (1, vi a1), (2, vi 0)] [] sw m Q) : M2 X 2 mL_readOperand [vr 18, vi a1] sw m Q := by
  refine Mt.of pL_readOperand (Nat.le_of_ble_eq_true rfl) (Nat.le_refl _) ?_
  show R2 X 2 mL_readOperand 0 [(0, vr 18), (1, vi a1)] [] sw m Q
  refine r_iconst dL_readOperand_0 ?_
  refine r_istore_n 2 (by decide) dL_readOperand_1 rfl ?_
  refine r_sub [1, 2, 0] ?_ h
  rfl
set_option maxRecDepth 4000 in
theorem wL_readOperand_2 {X : Cx} (x1 x2 : Int) (sw : Bool) (m : Mem) (Q : Int → Bool → Mem → Prop) (h : ((6 ≤ w32 x2 → R2 X 2 mL_readOperand 48 [(0, vr 18), (2, vi 0), (3, vi 0)] [] sw m Q) ∧ (¬ (6 ≤ w32 x2) → ((0 ≤ w32 x2 ∧ w32 x2 < 6) ∧ ((¬ w32 x1 = w32 (ext4.getD (w32 x2).toNat 0) → R2 X 2 mL_readOperand 2 [(0, vr 18), (1, vi x1), (2, vi (x2 + 1))] [] sw m Q) ∧ (¬ (¬ w32 x1 = w32 (ext4.getD (w32 x2).toNat 0)) → M2 X 1 mL_emit [vr 18, vi ((-20) - x2)] sw (upm m 18 7 ((m 18 7) + 1)) (fun z1 sw1 m1 => Q 0 sw1 m1))))))) : R2 X 2 mL_readOperand 2 [(0, vr 18), (1, vi x1), (2, vi x2)] [] sw m Q := by
  refine r_iload_n 2 2 rfl dL_readOperand_2 rfl ?_
  refine r_gets (e := 4) rfl vL_70 dL_readOperand_3 ?_
  refine r_xlen (e := 4) rfl dL_readOperand_6 ?_
  refine r_ifc_ge (tgt := 44) dL_readOperand_7 (by decide) (fun hc => ?_) (fun hc => ?_)
  · replace h := h.1 hc
    refine r_iconst dL_readOperand_44 ?_
    refine r_istore_n 2 (by decide) dL_readOperand_45 rfl ?_
    refine r_iconst dL_readOperand_46 ?_
    refine r_istore_n 3 (by decide) dL_readOperand_47 rfl ?_
    refine r_sub [2, 1, 0] ?_ h
    rfl
  · replace h := h.2 hc
    refine r_iload_n 1 1 rfl dL_readOperand_10 rfl ?_
    refine r_gets (e := 4) rfl vL_70 dL_readOperand_11 ?_
    refine r_iload_n 2 2 rfl dL_readOperand_14 rfl ?_
    refine q_xcload (e := 4) (w32 x2) rfl rfl h.1 dL_readOperand_15 ?_
    replace h := h.2
    refine r_ifc_ne (tgt := 38) dL_readOperand_16 (by decide) (fun hc => ?_) (fun hc => ?_)
    · replace h := h.1 hc
      refine r_iinc 2 2 rfl (by decide) dL_readOperand_38 ?_
      refine r_goto (tgt := 2) dL_readOperand_41 (by decide) ?_
      refine r_sub [1, 2, 0] ?_ h
      rfl
    · replace h := h.2 hc
      refine r_aload_n 0 0 rfl dL_readOperand_19 rfl ?_
      refine r_dup (fun q => by cases q) dL_readOperand_20 ?_
      refine q_getI 7 c18 fL_31 rfl rfl dL_readOperand_21 ?_
      refine r_iconst dL_readOperand_24 ?_
      refine r_iadd dL_readOperand_25 ?_
      refine q_putI 7 c18 pfL_31 rfl rfl dL_readOperand_26 ?_
      refine r_aload_n 0 0 rfl dL_readOperand_29 rfl ?_
      refine r_bipush (by decide) dL_readOperand_30 ?_
      refine r_iload_n 2 2 rfl dL_readOperand_32 rfl ?_
      refine r_isub dL_readOperand_33 ?_
      refine r_callVv 2 [_] rfl c18 rfl rfl oL_emit iL_emit sL_emit yL_56 (by decide) ⟨Nat.le_refl _, Nat.le_refl _⟩ rfl (Nat.le_of_ble_eq_true rfl) dL_readOperand_34 h (fun z1 r1 m1 h => ?_)
      obtain ⟨sw1, rfl, h⟩ := h
      exact q_vret rfl h dL_readOperand_37
set_option maxRecDepth 4000 in
theorem wL_readOperand_48 {X : Cx} (x2 x3 : Int) (sw : Bool) (m : Mem) (Q : Int → Bool → Mem → Prop) (h : ((4 ≤ w32 x3 → ((¬ w32 x3 = 0 → M2 X 1 mL_emit [vr 18, vi x2] sw m (fun z1 sw1 m1 => Q 0 sw1 m1)) ∧ (¬ (¬ w32 x3 = 0) → M2 X 1 mL_emit [vr 18, vi x2] sw (upm m 18 8 1) (fun z2 sw2 m2 => Q 0 sw2 m2)))) ∧ (¬ (4 ≤ w32 x3) → M2 X 1 mL_next [vr 18] sw m (fun z3 sw3 m3 => ((w32 z3 < 48 → ((¬ w32 x3 = 0 → M2 X 1 mL_emit [vr 18, vi x2] sw3 m3 (fun z4 sw4 m4 => Q 0 sw4 m4)) ∧ (¬ (¬ w32 x3 = 0) → M2 X 1 mL_emit [vr 18, vi x2] sw3 (upm m3 18 8 1) (fun z5 sw5 m5 => Q 0 sw5 m5)))) ∧ (¬ (w32 z3 < 48) → M2 X 1 mL_next [vr 18] sw3 m3 (fun z6 sw6 m6 => ((57 < w32 z6 → ((¬ w32 x3 = 0 → M2 X 1 mL_emit [vr 18, vi x2] sw6 m6 (fun z7 sw7 m7 => Q 0 sw7 m7)) ∧ (¬ (¬ w32 x3 = 0) → M2 X 1 mL_emit [vr 18, vi x2] sw6 (upm m6 18 8 1) (fun z8 sw8 m8 => Q 0 sw8 m8)))) ∧ (¬ (57 < w32 z6) → M2 X 1 mL_next [vr 18] sw6 m6 (fun z9 sw9 m9 => R2 X 2 mL_readOperand 48 [(0, vr 18), (2, vi (((x2 * 10) + z9) - 48)), (3, vi (x3 + 1))] [] sw9 (upm m9 18 7 ((m9 18 7) + 1)) Q)))))))))) : R2 X 2 mL_readOperand 48 [(0, vr 18), (2, vi x2), (3, vi x3)] [] sw m Q := by
  refine r_iload_n 3 2 rfl dL_readOperand_48 rfl ?_
  refine r_iconst dL_readOperand_49 ?_
  refine r_ifc_ge (tgt := 100) dL_readOperand_50 (by decide) (fun hc => ?_) (fun hc => ?_)
  · replace h := h.1 hc
    refine r_iload_n 3 2 rfl dL_readOperand_100 rfl ?_
    refine r_if_ne (tgt := 109) dL_readOperand_101 (by decide) (fun hc => ?_) (fun hc => ?_)
    · replace h := h.1 hc
      refine r_aload_n 0 0 rfl dL_readOperand_109 rfl ?_
      refine r_iload_n 2 1 rfl dL_readOperand_110 rfl ?_
      refine r_callVv 2 [_] rfl c18 rfl rfl oL_emit iL_emit sL_emit yL_56 (by decide) ⟨Nat.le_refl _, Nat.le_refl _⟩ rfl (Nat.le_of_ble_eq_true rfl) dL_readOperand_111 h (fun z1 r1 m1 h => ?_)
      obtain ⟨sw1, rfl, h⟩ := h
      exact q_vret rfl h dL_readOperand_114
    · replace h := h.2 hc
      refine r_aload_n 0 0 rfl dL_readOperand_104 rfl ?_
      refine r_iconst dL_readOperand_105 ?_
      refine q_putZ 8 c18 pfL_37 rfl rfl (Or.inr rfl) dL_readOperand_106 ?_
      refine r_aload_n 0 0 rfl dL_readOperand_109 rfl ?_
      refine r_iload_n 2 1 rfl dL_readOperand_110 rfl ?_
      refine r_callVv 2 [_] rfl c18 rfl rfl oL_emit iL_emit sL_emit yL_56 (by decide) ⟨Nat.le_refl _, Nat.le_refl _⟩ rfl (Nat.le_of_ble_eq_true rfl) dL_readOperand_111 h (fun z2 r2 m2 h => ?_)
      obtain ⟨sw2, rfl, h⟩ := h
      exact q_vret rfl h dL_readOperand_114
  · replace h := h.2 hc
    refine r_aload_n 0 0 rfl dL_readOperand_53 rfl ?_
    refine r_callVi 2 [] rfl c18 rfl rfl oL_next iL_next sL_next yL_52 (by decide) ⟨Nat.le_refl _, Nat.le_refl _⟩ rfl (Nat.le_of_ble_eq_true rfl) dL_readOperand_54 h (fun z3 r3 m3 h => ?_)
    obtain ⟨sw3, rfl, h⟩ := h
    refine r_bipush (by decide) dL_readOperand_57 ?_
    refine r_ifc_lt (tgt := 100) dL_readOperand_59 (by decide) (fun hc => ?_) (fun hc => ?_)
    · replace h := h.1 hc
      refine r_iload_n 3 2 rfl dL_readOperand_100 rfl ?_
      refine r_if_ne (tgt := 109) dL_readOperand_101 (by decide) (fun hc => ?_) (fun hc => ?_)
      · replace h := h.1 hc
        refine r_aload_n 0 0 rfl dL_readOperand_109 rfl ?_
        refine r_iload_n 2 1 rfl dL_readOperand_110 rfl ?_
        refine r_callVv 2 [_] rfl c18 rfl rfl oL_emit iL_emit sL_emit yL_56 (by decide) ⟨Nat.le_refl _, Nat.le_refl _⟩ rfl (Nat.le_of_ble_eq_true rfl) dL_readOperand_111 h (fun z4 r4 m4 h => ?_)
        obtain ⟨sw4, rfl, h⟩ := h
        exact q_vret rfl h dL_readOperand_114
      · replace h := h.2 hc
        refine r_aload_n 0 0 rfl dL_readOperand_104 rfl ?_
        refine r_iconst dL_readOperand_105 ?_
        refine q_putZ 8 c18 pfL_37 rfl rfl (Or.inr rfl) dL_readOperand_106 ?_
        refine r_aload_n 0 0 rfl dL_readOperand_109 rfl ?_
        refine r_iload_n 2 1 rfl dL_readOperand_110 rfl ?_
        refine r_callVv 2 [_] rfl c18 rfl rfl oL_emit iL_emit sL_emit yL_56 (by decide) ⟨Nat.le_refl _, Nat.le_refl _⟩ rfl (Nat.le_of_ble_eq_true rfl) dL_readOperand_111 h (fun z5 r5 m5 h => ?_)
        obtain ⟨sw5, rfl, h⟩ := h
        exact q_vret rfl h dL_readOperand_114
    · replace h := h.2 hc
      refine r_aload_n 0 0 rfl dL_readOperand_62 rfl ?_
      refine r_callVi 2 [] rfl c18 rfl rfl oL_next iL_next sL_next yL_52 (by decide) ⟨Nat.le_refl _, Nat.le_refl _⟩ rfl (Nat.le_of_ble_eq_true rfl) dL_readOperand_63 h (fun z6 r6 m6 h => ?_)
      obtain ⟨sw6, rfl, h⟩ := h
      refine r_bipush (by decide) dL_readOperand_66 ?_
      refine r_ifc_gt (tgt := 100) dL_readOperand_68 (by decide) (fun hc => ?_) (fun hc => ?_)
      · replace h := h.1 hc
        refine r_iload_n 3 2 rfl dL_readOperand_100 rfl ?_
        refine r_if_ne (tgt := 109) dL_readOperand_101 (by decide) (fun hc => ?_) (fun hc => ?_)
        · replace h := h.1 hc
          refine r_aload_n 0 0 rfl dL_readOperand_109 rfl ?_
          refine r_iload_n 2 1 rfl dL_readOperand_110 rfl ?_
          refine r_callVv 2 [_] rfl c18 rfl rfl oL_emit iL_emit sL_emit yL_56 (by decide) ⟨Nat.le_refl _, Nat.le_refl _⟩ rfl (Nat.le_of_ble_eq_true rfl) dL_readOperand_111 h (fun z7 r7 m7 h => ?_)
          obtain ⟨sw7, rfl, h⟩ := h
          exact q_vret rfl h dL_readOperand_114
        · replace h := h.2 hc
          refine r_aload_n 0 0 rfl dL_readOperand_104 rfl ?_
          refine r_iconst dL_readOperand_105 ?_
          refine q_putZ 8 c18 pfL_37 rfl rfl (Or.inr rfl) dL_readOperand_106 ?_
          refine r_aload_n 0 0 rfl dL_readOperand_109 rfl ?_
          refine r_iload_n 2 1 rfl dL_readOperand_110 rfl ?_
          refine r_callVv 2 [_] rfl c18 rfl rfl oL_emit iL_emit sL_emit yL_56 (by decide) ⟨Nat.le_refl _, Nat.le_refl _⟩ rfl (Nat.le_of_ble_eq_true rfl) dL_readOperand_111 h (fun z8 r8 m8 h => ?_)
          obtain ⟨sw8, rfl, h⟩ := h
          exact q_vret rfl h dL_readOperand_114
      · replace h := h.2 hc
        refine r_iload_n 2 1 rfl dL_readOperand_71 rfl ?_
        refine r_bipush (by decide) dL_readOperand_72 ?_
        refine r_imul dL_readOperand_74 ?_
        refine r_aload_n 0 0 rfl dL_readOperand_75 rfl ?_
        refine r_callVi 2 [] rfl c18 rfl rfl oL_next iL_next sL_next yL_52 (by decide) ⟨Nat.le_refl _, Nat.le_refl _⟩ rfl (Nat.le_of_ble_eq_true rfl) dL_readOperand_76 h (fun z9 r9 m9 h => ?_)
        obtain ⟨sw9, rfl, h⟩ := h
        refine r_iadd dL_readOperand_79 ?_
        refine r_bipush (by decide) dL_readOperand_80 ?_
        refine r_isub dL_readOperand_82 ?_
        refine r_istore_n 2 (by decide) dL_readOperand_83 rfl ?_
        refine r_aload_n 0 1 rfl dL_readOperand_84 rfl ?_
        refine r_dup (fun q => by cases q) dL_readOperand_85 ?_
        refine q_getI 7 c18 fL_31 rfl rfl dL_readOperand_86 ?_
        refine r_iconst dL_readOperand_89 ?_
        refine r_iadd dL_readOperand_90 ?_
        refine q_putI 7 c18 pfL_31 rfl rfl dL_readOperand_91 ?_
        refine r_iinc 3 2 rfl (by decide) dL_readOperand_94 ?_
        refine r_goto (tgt := 48) dL_readOperand_97 (by decide) ?_
        refine r_sub [2, 1, 0] ?_ h
        rfl
theorem dL_next_0 : decode mL_next.2.1 0 = .ok (.aload_n 0, 1) := by decide +kernel
theorem dL_next_1 : decode mL_next.2.1 1 = .ok (.getfield 37, 3) := by decide +kernel
theorem dL_next_4 : decode mL_next.2.1 4 = .ok (.ifCond .ne 21, 3) := by decide +kernel
theorem dL_next_7 : decode mL_next.2.1 7 = .ok (.aload_n 0, 1) := by decide +kernel
theorem dL_next_8 : decode mL_next.2.1 8 = .ok (.getfield 31, 3) := by decide +kernel
theorem dL_next_11 : decode mL_next.2.1 11 = .ok (.ifCond .lt 14, 3) := by decide +kernel
theorem dL_next_14 : decode mL_next.2.1 14 = .ok (.aload_n 0, 1) := by decide +kernel
theorem dL_next_15 : decode mL_next.2.1 15 = .ok (.getfield 31, 3) := by decide +kernel
theorem dL_next_18 : decode mL_next.2.1 18 = .ok (.aload_n 0, 1) := by decide +kernel
theorem dL_next_19 : decode mL_next.2.1 19 = .ok (.getfield 24, 3) := by decide +kernel
theorem dL_next_22 : decode mL_next.2.1 22 = .ok (.if_icmp .lt 7, 3) := by decide +kernel
theorem dL_next_25 : decode mL_next.2.1 25 = .ok (.iconst (-1), 1) := by decide +kernel
theorem dL_next_26 : decode mL_next.2.1 26 = .ok (.goto 12, 3) := by decide +kernel
theorem dL_next_29 : decode mL_next.2.1 29 = .ok (.aload_n 0, 1) := by decide +kernel
theorem dL_next_30 : decode mL_next.2.1 30 = .ok (.getfield 11, 3) := by decide +kernel
theorem dL_next_33 : decode mL_next.2.1 33 = .ok (.aload_n 0, 1) := by decide +kernel
theorem dL_next_34 : decode mL_next.2.1 34 = .ok (.getfield 31, 3) := by decide +kernel
theorem dL_next_37 : decode mL_next.2.1 37 = .ok (.iaload, 1) := by decide +kernel
theorem dL_next_38 : decode mL_next.2.1 38 = .ok (.ireturn, 1) := by decide +kernel
/- L_next: ()I -/
set_option maxRecDepth 4000 in
theorem wL_next {X : Cx} (sw : Bool) (m : Mem) (Q : Int → Bool → Mem → Prop) (h : ((¬ w32 (m 18 8) = 0 → Q (-1) sw m) ∧ (¬ (¬ w32 (m 18 8) = 0) → ((w32 (m 18 7) < 0 → Q (-1) sw m) ∧ (¬ (w32 (m 18 7) < 0) → ((w32 (m 18 7) < w32 (m 18 4) → ((0 ≤ w32 (m 18 7) ∧ w32 (m 18 7) < 120) ∧ Q (m 19 (w32 (m 18 7))) sw m)) ∧ (¬ (w32 (m 18 7) < w32 (m 18 4)) → Q (-1) sw m))))))) : M2 X 1 mL_next [vr 18] sw m Q := by
  refine Mt.of pL_next (Nat.le_of_ble_eq_true rfl) (Nat.le_refl _) ?_
  show R2 X 1 mL_next 0 [(0, vr 18)] [] sw m Q
  refine r_aload_n 0 0 rfl dL_next_0 rfl ?_
  refine q_getZ 8 c18 fL_37 rfl rfl dL_next_1 ?_
  refine r_if_ne (tgt := 25) dL_next_4 (by decide) (fun hc => ?_) (fun hc => ?_)
  · replace h := h.1 hc
    refine r_iconst dL_next_25 ?_
    refine r_goto (tgt := 38) dL_next_26 (by decide) ?_
    exact q_iret rfl h dL_next_38
  · replace h := h.2 hc
    refine r_aload_n 0 0 rfl dL_next_7 rfl ?_
    refine q_getI 7 c18 fL_31 rfl rfl dL_next_8 ?_
    refine r_if_lt (tgt := 25) dL_next_11 (by decide) (fun hc => ?_) (fun hc => ?_)
    · replace h := h.1 hc
      refine r_iconst dL_next_25 ?_
      refine r_goto (tgt := 38) dL_next_26 (by decide) ?_
      exact q_iret rfl h dL_next_38
    · replace h := h.2 hc
      refine r_aload_n 0 0 rfl dL_next_14 rfl ?_
      refine q_getI 7 c18 fL_31 rfl rfl dL_next_15 ?_
      refine r_aload_n 0 0 rfl dL_next_18 rfl ?_
      refine q_getI 4 c18 fL_24 rfl rfl dL_next_19 ?_
      refine r_ifc_lt (tgt := 29) dL_next_22 (by decide) (fun hc => ?_) (fun hc => ?_)
      · replace h := h.1 hc
        refine r_aload_n 0 0 rfl dL_next_29 rfl ?_
        refine q_getR 0 c18 fL_11 rfl rfl (g18_0 sw) (by decide) dL_next_30 ?_
        refine r_aload_n 0 0 rfl dL_next_33 rfl ?_
        refine q_getI 7 c18 fL_31 rfl rfl dL_next_34 ?_
        refine q_iaload (w32 (m 18 7)) rfl c19 h.1 dL_next_37 ?_
        replace h := h.2
        exact q_iret rfl h dL_next_38
      · replace h := h.2 hc
        refine r_iconst dL_next_25 ?_
        refine r_goto (tgt := 38) dL_next_26 (by decide) ?_
        exact q_iret rfl h dL_next_38
theorem dL_accept_0 : decode mL_accept.2.1 0 = .ok (.aload_n 0, 1) := by decide +kernel
theorem dL_accept_1 : decode mL_accept.2.1 1 = .ok (.invokevirtual 52, 3) := by decide +kernel
theorem dL_accept_4 : decode mL_accept.2.1 4 = .ok (.iload_n 1, 1) := by decide +kernel
theorem dL_accept_5 : decode mL_accept.2.1 5 = .ok (.if_icmp .ne 16, 3) := by decide +kernel
theorem dL_accept_8 : decode mL_accept.2.1 8 = .ok (.aload_n 0, 1) := by decide +kernel
theorem dL_accept_9 : decode mL_accept.2.1 9 = .ok (.dup, 1) := by decide +kernel
theorem dL_accept_10 : decode mL_accept.2.1 10 = .ok (.getfield 31, 3) := by decide +kernel
theorem dL_accept_13 : decode mL_accept.2.1 13 = .ok (.iconst 1, 1) := by decide +kernel
theorem dL_accept_14 : decode mL_accept.2.1 14 = .ok (.iadd, 1) := by decide +kernel
theorem dL_accept_15 : decode mL_accept.2.1 15 = .ok (.putfield 31, 3) := by decide +kernel
theorem dL_accept_18 : decode mL_accept.2.1 18 = .ok (.goto 8, 3) := by decide +kernel
theorem dL_accept_21 : decode mL_accept.2.1 21 = .ok (.aload_n 0, 1) := by decide +kernel
theorem dL_accept_22 : decode mL_accept.2.1 22 = .ok (.iconst 1, 1) := by decide +kernel
theorem dL_accept_23 : decode mL_accept.2.1 23 = .ok (.putfield 37, 3) := by decide +kernel
theorem dL_accept_26 : decode mL_accept.2.1 26 = .ok (.return_, 1) := by decide +kernel
/- L_accept: (I)V -/
set_option maxRecDepth 4000 in
theorem wL_accept {X : Cx} (a1 : Int) (sw : Bool) (m : Mem) (Q : Int → Bool → Mem → Prop) (h : M2 X 1 mL_next [vr 18] sw m (fun z1 sw1 m1 => ((¬ w32 z1 = w32 a1 → Q 0 sw1 (upm m1 18 8 1)) ∧ (¬ (¬ w32 z1 = w32 a1) → Q 0 sw1 (upm m1 18 7 ((m1 18 7) + 1)))))) : M2 X 2 mL_accept [vr 18, vi a1] sw m Q := by
  refine Mt.of pL_accept (Nat.le_of_ble_eq_true rfl) (Nat.le_refl _) ?_
  show R2 X 2 mL_accept 0 [(0, vr 18), (1, vi a1)] [] sw m Q
  refine r_aload_n 0 0 rfl dL_accept_0 rfl ?_
  refine r_callVi 2 [] rfl c18 rfl rfl oL_next iL_next sL_next yL_52 (by decide) ⟨Nat.le_refl _, Nat.le_refl _⟩ rfl (Nat.le_of_ble_eq_true rfl) dL_accept_1 h (fun z1 r1 m1 h => ?_)
  obtain ⟨sw1, rfl, h⟩ := h
  refine r_iload_n 1 1 rfl dL_accept_4 rfl ?_
  refine r_ifc_ne (tgt := 21) dL_accept_5 (by decide) (fun hc => ?_) (fun hc => ?_)
  · replace h := h.1 hc
    refine r_aload_n 0 0 rfl dL_accept_21 rfl ?_
    refine r_iconst dL_accept_22 ?_
    refine q_putZ 8 c18 pfL_37 rfl rfl (Or.inr rfl) dL_accept_23 ?_
    exact q_vret rfl h dL_accept_26
  · replace h := h.2 hc
    refine r_aload_n 0 0 rfl dL_accept_8 rfl ?_
    refine r_dup (fun q => by cases q) dL_accept_9 ?_
    refine q_getI 7 c18 fL_31 rfl rfl dL_accept_10 ?_
    refine r_iconst dL_accept_13 ?_
    refine r_iadd dL_accept_14 ?_
    refine q_putI 7 c18 pfL_31 rfl rfl dL_accept_15 ?_
    refine r_goto (tgt := 26) dL_accept_18 (by decide) ?_
    exact q_vret rfl h dL_accept_26
theorem dL_signOf_0 : decode mL_signOf.2.1 0 = .ok (.aload_n 0, 1) := by decide +kernel
theorem dL_signOf_1 : decode mL_signOf.2.1 1 = .ok (.invokevirtual 52, 3) := by decide +kernel
theorem dL_signOf_4 : decode mL_signOf.2.1 4 = .ok (.istore_n 2, 1) := by decide +kernel
theorem dL_signOf_5 : decode mL_signOf.2.1 5 = .ok (.iconst 0, 1) := by decide +kernel
theorem dL_signOf_6 : decode mL_signOf.2.1 6 = .ok (.istore_n 3, 1) := by decide +kernel
theorem dL_signOf_7 : decode mL_signOf.2.1 7 = .ok (.iload_n 3, 1) := by decide +kernel
theorem dL_signOf_8 : decode mL_signOf.2.1 8 = .ok (.getstatic 74, 3) := by decide +kernel
theorem dL_signOf_11 : decode mL_signOf.2.1 11 = .ok (.arraylength, 1) := by decide +kernel
theorem dL_signOf_12 : decode mL_signOf.2.1 12 = .ok (.if_icmp .ge 31, 3) := by decide +kernel
theorem dL_signOf_15 : decode mL_signOf.2.1 15 = .ok (.iload_n 2, 1) := by decide +kernel
theorem dL_signOf_16 : decode mL_signOf.2.1 16 = .ok (.getstatic 74, 3) := by decide +kernel
theorem dL_signOf_19 : decode mL_signOf.2.1 19 = .ok (.iload_n 3, 1) := by decide +kernel
theorem dL_signOf_20 : decode mL_signOf.2.1 20 = .ok (.caload, 1) := by decide +kernel
theorem dL_signOf_21 : decode mL_signOf.2.1 21 = .ok (.if_icmp .ne 16, 3) := by decide +kernel
theorem dL_signOf_24 : decode mL_signOf.2.1 24 = .ok (.getstatic 77, 3) := by decide +kernel
theorem dL_signOf_27 : decode mL_signOf.2.1 27 = .ok (.iload_n 3, 1) := by decide +kernel
theorem dL_signOf_28 : decode mL_signOf.2.1 28 = .ok (.iaload, 1) := by decide +kernel
theorem dL_signOf_29 : decode mL_signOf.2.1 29 = .ok (.iload_n 1, 1) := by decide +kernel
theorem dL_signOf_30 : decode mL_signOf.2.1 30 = .ok (.if_icmp .ne 7, 3) := by decide +kernel
theorem dL_signOf_33 : decode mL_signOf.2.1 33 = .ok (.iconst (-1), 1) := by decide +kernel
theorem dL_signOf_34 : decode mL_signOf.2.1 34 = .ok (.iload_n 3, 1) := by decide +kernel
theorem dL_signOf_35 : decode mL_signOf.2.1 35 = .ok (.isub, 1) := by decide +kernel
theorem dL_signOf_36 : decode mL_signOf.2.1 36 = .ok (.ireturn, 1) := by decide +kernel
theorem dL_signOf_37 : decode mL_signOf.2.1 37 = .ok (.iinc 3 1, 3) := by decide +kernel
theorem dL_signOf_40 : decode mL_signOf.2.1 40 = .ok (.goto (-33), 3) := by decide +kernel
theorem dL_signOf_43 : decode mL_signOf.2.1 43 = .ok (.iconst 0, 1) := by decide +kernel
theorem dL_signOf_44 : decode mL_signOf.2.1 44 = .ok (.ireturn, 1) := by decide +kernel
/- L_signOf: (I)I -/
set_option maxRecDepth 4000 in
theorem wL_signOf {X : Cx} (a1 : Int) (sw : Bool) (m : Mem) (Q : Int → Bool → Mem → Prop) (h : M2 X 1 mL_next [vr 18] sw m (fun z1 sw1 m1 => R2 X 2 mL_signOf 7 [(1, vi a1), (2, vi z1), (3, vi 0)] [] sw1 m1 Q)) : M2 X 2 mL_signOf [vr 18, vi a1] sw m Q := by
  refine Mt.of pL_signOf (Nat.le_of_ble_eq_true rfl) (Nat.le_refl _) ?_
  show R2 X 2 mL_signOf 0 [(0, vr 18), (1, vi a1)] [] sw m Q
  refine r_aload_n 0 0 rfl dL_signOf_0 rfl ?_
  refine r_callVi 2 [] rfl c18 rfl rfl oL_next iL_next sL_next yL_52 (by decide) ⟨Nat.le_refl _, Nat.le_refl _⟩ rfl (Nat.le_of_ble_eq_true rfl) dL_signOf_1 h (fun z1 r1 m1 h => ?_)
  obtain ⟨sw1, rfl, h⟩ := h
  refine r_istore_n 2 (by decide) dL_signOf_4 rfl ?_
  refine r_iconst dL_signOf_5 ?_
  refine r_istore_n 3 (by decide) dL_signOf_6 rfl ?_
  refine r_sub [3, 1, 0] ?_ h
  rfl
set_option maxRecDepth 4000 in
theorem wL_signOf_7 {X : Cx} (x1 x2 x3 : Int) (sw : Bool) (m : Mem) (Q : Int → Bool → Mem → Prop) (h : ((10 ≤ w32 x3 → Q 0 sw m) ∧ (¬ (10 ≤ w32 x3) → ((0 ≤ w32 x3 ∧ w32 x3 < 10) ∧ ((¬ w32 x2 = w32 (ext2.getD (w32 x3).toNat 0) → R2 X 2 mL_signOf 7 [(1, vi x1), (2, vi x2), (3, vi (x3 + 1))] [] sw m Q) ∧ (¬ (¬ w32 x2 = w32 (ext2.getD (w32 x3).toNat 0)) → ((0 ≤ w32 x3 ∧ w32 x3 < 10) ∧ ((¬ w32 (ext3.getD (w32 x3).toNat 0) = w32 x1 → R2 X 2 mL_signOf 7 [(1, vi x1), (2, vi x2), (3, vi (x3 + 1))] [] sw m Q) ∧ (¬ (¬ w32 (ext3.getD (w32 x3).toNat 0) = w32 x1) → Q ((-1) - x3) sw m))))))))) : R2 X 2 mL_signOf 7 [(1, vi x1), (2, vi x2), (3, vi x3)] [] sw m Q := by
  refine r_iload_n 3 2 rfl dL_signOf_7 rfl ?_
  refine r_gets (e := 2) rfl vL_74 dL_signOf_8 ?_
  refine r_xlen (e := 2) rfl dL_signOf_11 ?_
  refine r_ifc_ge (tgt := 43) dL_signOf_12 (by decide) (fun hc => ?_) (fun hc => ?_)
  · replace h := h.1 hc
    refine r_iconst dL_signOf_43 ?_
    exact q_iret rfl h dL_signOf_44
  · replace h := h.2 hc
    refine r_iload_n 2 1 rfl dL_signOf_15 rfl ?_
    refine r_gets (e := 2) rfl vL_74 dL_signOf_16 ?_
    refine r_iload_n 3 2 rfl dL_signOf_19 rfl ?_
    refine q_xcload (e := 2) (w32 x3) rfl rfl h.1 dL_signOf_20 ?_
    replace h := h.2
    refine r_ifc_ne (tgt := 37) dL_signOf_21 (by decide) (fun hc => ?_) (fun hc => ?_)
    · replace h := h.1 hc
      refine r_iinc 3 2 rfl (by decide) dL_signOf_37 ?_
      refine r_goto (tgt := 7) dL_signOf_40 (by decide) ?_
      refine r_sub [1, 2, 0] ?_ h
      rfl
    · replace h := h.2 hc
      refine r_gets (e := 3) rfl vL_77 dL_signOf_24 ?_
      refine r_iload_n 3 2 rfl dL_signOf_27 rfl ?_
      refine q_xiload (e := 3) (w32 x3) rfl rfl h.1 dL_signOf_28 ?_
      replace h := h.2
      refine r_iload_n 1 0 rfl dL_signOf_29 rfl ?_
      refine r_ifc_ne (tgt := 37) dL_signOf_30 (by decide) (fun hc => ?_) (fun hc => ?_)
      · replace h := h.1 hc
        refine r_iinc 3 2 rfl (by decide) dL_signOf_37 ?_
        refine r_goto (tgt := 7) dL_signOf_40 (by decide) ?_
        refine r_sub [1, 2, 0] ?_ h
        rfl
      · replace h := h.2 hc
        refine r_iconst dL_signOf_33 ?_
        refine r_iload_n 3 2 rfl dL_signOf_34 rfl ?_
        refine r_isub dL_signOf_35 ?_
        exact q_iret rfl h dL_signOf_36
theorem dL_emit_0 : decode mL_emit.2.1 0 = .ok (.aload_n 0, 1) := by decide +kernel
theorem dL_emit_1 : decode mL_emit.2.1 1 = .ok (.getfield 37, 3) := by decide +kernel
theorem dL_emit_4 : decode mL_emit.2.1 4 = .ok (.ifCond .ne 35, 3) := by decide +kernel
theorem dL_emit_7 : decode mL_emit.2.1 7 = .ok (.aload_n 0, 1) := by decide +kernel
theorem dL_emit_8 : decode mL_emit.2.1 8 = .ok (.getfield 34, 3) := by decide +kernel
theorem dL_emit_11 : decode mL_emit.2.1 11 = .ok (.aload_n 0, 1) := by decide +kernel
theorem dL_emit_12 : decode mL_emit.2.1 12 = .ok (.getfield 21, 3) := by decide +kernel
theorem dL_emit_15 : decode mL_emit.2.1 15 = .ok (.arraylength, 1) := by decide +kernel
theorem dL_emit_16 : decode mL_emit.2.1 16 = .ok (.if_icmp .ge 23, 3) := by decide +kernel
theorem dL_emit_19 : decode mL_emit.2.1 19 = .ok (.aload_n 0, 1) := by decide +kernel
theorem dL_emit_20 : decode mL_emit.2.1 20 = .ok (.getfield 21, 3) := by decide +kernel
theorem dL_emit_23 : decode mL_emit.2.1 23 = .ok (.aload_n 0, 1) := by decide +kernel
theorem dL_emit_24 : decode mL_emit.2.1 24 = .ok (.getfield 34, 3) := by decide +kernel
theorem dL_emit_27 : decode mL_emit.2.1 27 = .ok (.iload_n 1, 1) := by decide +kernel
theorem dL_emit_28 : decode mL_emit.2.1 28 = .ok (.iastore, 1) := by decide +kernel
theorem dL_emit_29 : decode mL_emit.2.1 29 = .ok (.aload_n 0, 1) := by decide +kernel
theorem dL_emit_30 : decode mL_emit.2.1 30 = .ok (.dup, 1) := by decide +kernel
theorem dL_emit_31 : decode mL_emit.2.1 31 = .ok (.getfield 34, 3) := by decide +kernel
theorem dL_emit_34 : decode mL_emit.2.1 34 = .ok (.iconst 1, 1) := by decide +kernel
theorem dL_emit_35 : decode mL_emit.2.1 35 = .ok (.iadd, 1) := by decide +kernel
theorem dL_emit_36 : decode mL_emit.2.1 36 = .ok (.putfield 34, 3) := by decide +kernel
theorem dL_emit_39 : decode mL_emit.2.1 39 = .ok (.return_, 1) := by decide +kernel
/- L_emit: (I)V -/
set_option maxRecDepth 4000 in
theorem wL_emit {X : Cx} (a1 : Int) (sw : Bool) (m : Mem) (Q : Int → Bool → Mem → Prop) (h : ((¬ w32 (m 18 8) = 0 → Q 0 sw m) ∧ (¬ (¬ w32 (m 18 8) = 0) → ((128 ≤ w32 (m 18 6) → Q 0 sw m) ∧ (¬ (128 ≤ w32 (m 18 6)) → ((0 ≤ w32 (m 18 6) ∧ w32 (m 18 6) < 128) ∧ Q 0 sw (upm (upm m (rdraft sw) (w32 (m 18 6)) a1) 18 6 (((upm m (rdraft sw) (w32 (m 18 6)) a1) 18 6) + 1)))))))) : M2 X 1 mL_emit [vr 18, vi a1] sw m Q := by
  refine Mt.of pL_emit (Nat.le_of_ble_eq_true rfl) (Nat.le_refl _) ?_
  show R2 X 1 mL_emit 0 [(0, vr 18), (1, vi a1)] [] sw m Q
  refine r_aload_n 0 0 rfl dL_emit_0 rfl ?_
  refine q_getZ 8 c18 fL_37 rfl rfl dL_emit_1 ?_
  refine r_if_ne (tgt := 39) dL_emit_4 (by decide) (fun hc => ?_) (fun hc => ?_)
  · replace h := h.1 hc
    exact q_vret rfl h dL_emit_39
  · replace h := h.2 hc
    refine r_aload_n 0 0 rfl dL_emit_7 rfl ?_
    refine q_getI 6 c18 fL_34 rfl rfl dL_emit_8 ?_
    refine r_aload_n 0 0 rfl dL_emit_11 rfl ?_
    refine q_getR 3 c18 fL_21 rfl rfl (gdr sw) (ndr sw) dL_emit_12 ?_
    refine r_alen (by decide) (cdr sw) dL_emit_15 ?_
    refine r_ifc_ge (tgt := 39) dL_emit_16 (by decide) (fun hc => ?_) (fun hc => ?_)
    · replace h := h.1 hc
      exact q_vret rfl h dL_emit_39
    · replace h := h.2 hc
      refine r_aload_n 0 0 rfl dL_emit_19 rfl ?_
      refine q_getR 3 c18 fL_21 rfl rfl (gdr sw) (ndr sw) dL_emit_20 ?_
      refine r_aload_n 0 0 rfl dL_emit_23 rfl ?_
      refine q_getI 6 c18 fL_34 rfl rfl dL_emit_24 ?_
      refine r_iload_n 1 1 rfl dL_emit_27 rfl ?_
      refine q_iastore (w32 (m 18 6)) rfl (cdr sw) h.1 dL_emit_28 ?_
      replace h := h.2
      refine r_aload_n 0 0 rfl dL_emit_29 rfl ?_
      refine r_dup (fun q => by cases q) dL_emit_30 ?_
      refine q_getI 6 c18 fL_34 rfl rfl dL_emit_31 ?_
      refine r_iconst dL_emit_34 ?_
      refine r_iadd dL_emit_35 ?_
      refine q_putI 6 c18 pfL_34 rfl rfl dL_emit_36 ?_
      exact q_vret rfl h dL_emit_39
theorem dL_give_0 : decode mL_give.2.1 0 = .ok (.iconst 0, 1) := by decide +kernel
theorem dL_give_1 : decode mL_give.2.1 1 = .ok (.istore_n 2, 1) := by decide +kernel
theorem dL_give_2 : decode mL_give.2.1 2 = .ok (.iconst 1, 1) := by decide +kernel
theorem dL_give_3 : decode mL_give.2.1 3 = .ok (.istore_n 3, 1) := by decide +kernel
theorem dL_give_4 : decode mL_give.2.1 4 = .ok (.iconst 0, 1) := by decide +kernel
theorem dL_give_5 : decode mL_give.2.1 5 = .ok (.istore 4, 2) := by decide +kernel
theorem dL_give_7 : decode mL_give.2.1 7 = .ok (.iload 4, 2) := by decide +kernel
theorem dL_give_9 : decode mL_give.2.1 9 = .ok (.aload_n 0, 1) := by decide +kernel
theorem dL_give_10 : decode mL_give.2.1 10 = .ok (.getfield 28, 3) := by decide +kernel
theorem dL_give_13 : decode mL_give.2.1 13 = .ok (.if_icmp .ge 154, 3) := by decide +kernel
theorem dL_give_16 : decode mL_give.2.1 16 = .ok (.aload_n 0, 1) := by decide +kernel
theorem dL_give_17 : decode mL_give.2.1 17 = .ok (.getfield 18, 3) := by decide +kernel
theorem dL_give_20 : decode mL_give.2.1 20 = .ok (.iload 4, 2) := by decide +kernel
theorem dL_give_22 : decode mL_give.2.1 22 = .ok (.iaload, 1) := by decide +kernel
theorem dL_give_23 : decode mL_give.2.1 23 = .ok (.istore 5, 2) := by decide +kernel
theorem dL_give_25 : decode mL_give.2.1 25 = .ok (.iload 5, 2) := by decide +kernel
theorem dL_give_27 : decode mL_give.2.1 27 = .ok (.ifCond .ge 10, 3) := by decide +kernel
theorem dL_give_30 : decode mL_give.2.1 30 = .ok (.iload 5, 2) := by decide +kernel
theorem dL_give_32 : decode mL_give.2.1 32 = .ok (.bipush (-20), 2) := by decide +kernel
theorem dL_give_34 : decode mL_give.2.1 34 = .ok (.if_icmp .gt 54, 3) := by decide +kernel
theorem dL_give_37 : decode mL_give.2.1 37 = .ok (.bipush (-20), 2) := by decide +kernel
theorem dL_give_39 : decode mL_give.2.1 39 = .ok (.iload 5, 2) := by decide +kernel
theorem dL_give_41 : decode mL_give.2.1 41 = .ok (.isub, 1) := by decide +kernel
theorem dL_give_42 : decode mL_give.2.1 42 = .ok (.istore 6, 2) := by decide +kernel
theorem dL_give_44 : decode mL_give.2.1 44 = .ok (.aload_n 0, 1) := by decide +kernel
theorem dL_give_45 : decode mL_give.2.1 45 = .ok (.getfield 15, 3) := by decide +kernel
theorem dL_give_48 : decode mL_give.2.1 48 = .ok (.iload_n 2, 1) := by decide +kernel
theorem dL_give_49 : decode mL_give.2.1 49 = .ok (.iload 5, 2) := by decide +kernel
theorem dL_give_51 : decode mL_give.2.1 51 = .ok (.ifCond .ge 10, 3) := by decide +kernel
theorem dL_give_54 : decode mL_give.2.1 54 = .ok (.iload 6, 2) := by decide +kernel
theorem dL_give_56 : decode mL_give.2.1 56 = .ok (.aload_n 1, 1) := by decide +kernel
theorem dL_give_57 : decode mL_give.2.1 57 = .ok (.arraylength, 1) := by decide +kernel
theorem dL_give_58 : decode mL_give.2.1 58 = .ok (.if_icmp .lt 8, 3) := by decide +kernel
theorem dL_give_61 : decode mL_give.2.1 61 = .ok (.iload 5, 2) := by decide +kernel
theorem dL_give_63 : decode mL_give.2.1 63 = .ok (.goto 7, 3) := by decide +kernel
theorem dL_give_66 : decode mL_give.2.1 66 = .ok (.aload_n 1, 1) := by decide +kernel
theorem dL_give_67 : decode mL_give.2.1 67 = .ok (.iload 6, 2) := by decide +kernel
theorem dL_give_69 : decode mL_give.2.1 69 = .ok (.iaload, 1) := by decide +kernel
theorem dL_give_70 : decode mL_give.2.1 70 = .ok (.iastore, 1) := by decide +kernel
theorem dL_give_71 : decode mL_give.2.1 71 = .ok (.iload_n 2, 1) := by decide +kernel
theorem dL_give_72 : decode mL_give.2.1 72 = .ok (.iconst 1, 1) := by decide +kernel
theorem dL_give_73 : decode mL_give.2.1 73 = .ok (.iadd, 1) := by decide +kernel
theorem dL_give_74 : decode mL_give.2.1 74 = .ok (.aload_n 0, 1) := by decide +kernel
theorem dL_give_75 : decode mL_give.2.1 75 = .ok (.getfield 15, 3) := by decide +kernel
theorem dL_give_78 : decode mL_give.2.1 78 = .ok (.arraylength, 1) := by decide +kernel
theorem dL_give_79 : decode mL_give.2.1 79 = .ok (.iconst 1, 1) := by decide +kernel
theorem dL_give_80 : decode mL_give.2.1 80 = .ok (.isub, 1) := by decide +kernel
theorem dL_give_81 : decode mL_give.2.1 81 = .ok (.invokestatic 80, 3) := by decide +kernel
theorem dL_give_84 : decode mL_give.2.1 84 = .ok (.istore_n 2, 1) := by decide +kernel
theorem dL_give_85 : decode mL_give.2.1 85 = .ok (.goto 76, 3) := by decide +kernel
theorem dL_give_88 : decode mL_give.2.1 88 = .ok (.iload 5, 2) := by decide +kernel
theorem dL_give_90 : decode mL_give.2.1 90 = .ok (.bipush (-13), 2) := by decide +kernel
theorem dL_give_92 : decode mL_give.2.1 92 = .ok (.if_icmp .eq 10, 3) := by decide +kernel
theorem dL_give_95 : decode mL_give.2.1 95 = .ok (.iload 5, 2) := by decide +kernel
theorem dL_give_97 : decode mL_give.2.1 97 = .ok (.bipush (-14), 2) := by decide +kernel
theorem dL_give_99 : decode mL_give.2.1 99 = .ok (.if_icmp .ne 54, 3) := by decide +kernel
theorem dL_give_102 : decode mL_give.2.1 102 = .ok (.iload_n 2, 1) := by decide +kernel
theorem dL_give_103 : decode mL_give.2.1 103 = .ok (.iconst 1, 1) := by decide +kernel
theorem dL_give_104 : decode mL_give.2.1 104 = .ok (.isub, 1) := by decide +kernel
theorem dL_give_105 : decode mL_give.2.1 105 = .ok (.iconst 0, 1) := by decide +kernel
theorem dL_give_106 : decode mL_give.2.1 106 = .ok (.invokestatic 86, 3) := by decide +kernel
theorem dL_give_109 : decode mL_give.2.1 109 = .ok (.istore_n 2, 1) := by decide +kernel
theorem dL_give_110 : decode mL_give.2.1 110 = .ok (.iload 5, 2) := by decide +kernel
theorem dL_give_112 : decode mL_give.2.1 112 = .ok (.bipush (-14), 2) := by decide +kernel
theorem dL_give_114 : decode mL_give.2.1 114 = .ok (.if_icmp .ne 14, 3) := by decide +kernel
theorem dL_give_117 : decode mL_give.2.1 117 = .ok (.iload_n 3, 1) := by decide +kernel
theorem dL_give_118 : decode mL_give.2.1 118 = .ok (.ifCond .eq 10, 3) := by decide +kernel
theorem dL_give_121 : decode mL_give.2.1 121 = .ok (.aload_n 0, 1) := by decide +kernel
theorem dL_give_122 : decode mL_give.2.1 122 = .ok (.getfield 15, 3) := by decide +kernel
theorem dL_give_125 : decode mL_give.2.1 125 = .ok (.iload_n 2, 1) := by decide +kernel
theorem dL_give_126 : decode mL_give.2.1 126 = .ok (.iaload, 1) := by decide +kernel
theorem dL_give_127 : decode mL_give.2.1 127 = .ok (.ireturn, 1) := by decide +kernel
theorem dL_give_128 : decode mL_give.2.1 128 = .ok (.iload 5, 2) := by decide +kernel
theorem dL_give_130 : decode mL_give.2.1 130 = .ok (.bipush (-14), 2) := by decide +kernel
theorem dL_give_132 : decode mL_give.2.1 132 = .ok (.if_icmp .eq 12, 3) := by decide +kernel
theorem dL_give_135 : decode mL_give.2.1 135 = .ok (.aload_n 0, 1) := by decide +kernel
theorem dL_give_136 : decode mL_give.2.1 136 = .ok (.getfield 15, 3) := by decide +kernel
theorem dL_give_139 : decode mL_give.2.1 139 = .ok (.iload_n 2, 1) := by decide +kernel
theorem dL_give_140 : decode mL_give.2.1 140 = .ok (.iaload, 1) := by decide +kernel
theorem dL_give_141 : decode mL_give.2.1 141 = .ok (.ifCond .eq 7, 3) := by decide +kernel
theorem dL_give_144 : decode mL_give.2.1 144 = .ok (.iconst 1, 1) := by decide +kernel
theorem dL_give_145 : decode mL_give.2.1 145 = .ok (.goto 4, 3) := by decide +kernel
theorem dL_give_148 : decode mL_give.2.1 148 = .ok (.iconst 0, 1) := by decide +kernel
theorem dL_give_149 : decode mL_give.2.1 149 = .ok (.istore_n 3, 1) := by decide +kernel
theorem dL_give_150 : decode mL_give.2.1 150 = .ok (.goto 11, 3) := by decide +kernel
theorem dL_give_153 : decode mL_give.2.1 153 = .ok (.aload_n 0, 1) := by decide +kernel
theorem dL_give_154 : decode mL_give.2.1 154 = .ok (.iload 5, 2) := by decide +kernel
theorem dL_give_156 : decode mL_give.2.1 156 = .ok (.iload_n 2, 1) := by decide +kernel
theorem dL_give_157 : decode mL_give.2.1 157 = .ok (.invokevirtual 89, 3) := by decide +kernel
theorem dL_give_160 : decode mL_give.2.1 160 = .ok (.istore_n 2, 1) := by decide +kernel
theorem dL_give_161 : decode mL_give.2.1 161 = .ok (.iinc 4 1, 3) := by decide +kernel
theorem dL_give_164 : decode mL_give.2.1 164 = .ok (.goto (-157), 3) := by decide +kernel
theorem dL_give_167 : decode mL_give.2.1 167 = .ok (.iconst 0, 1) := by decide +kernel
theorem dL_give_168 : decode mL_give.2.1 168 = .ok (.ireturn, 1) := by decide +kernel
/- L_give: ([I)I -/
set_option maxRecDepth 4000 in
theorem wL_give {X : Cx} (sw : Bool) (m : Mem) (Q : Int → Bool → Mem → Prop) (h : R2 X 3 mL_give 7 [(0, vr 18), (1, vr 17), (2, vi 0), (3, vi 1), (4, vi 0)] [] sw m Q) : M2 X 3 mL_give [vr 18, vr 17] sw m Q := by
  refine Mt.of pL_give (Nat.le_of_ble_eq_true rfl) (Nat.le_refl _) ?_
  show R2 X 3 mL_give 0 [(0, vr 18), (1, vr 17)] [] sw m Q
  refine r_iconst dL_give_0 ?_
  refine r_istore_n 2 (by decide) dL_give_1 rfl ?_
  refine r_iconst dL_give_2 ?_
  refine r_istore_n 3 (by decide) dL_give_3 rfl ?_
  refine r_iconst dL_give_4 ?_
  refine r_istore 4 (by decide) dL_give_5 ?_
  refine r_sub [3, 4, 2, 1, 0] ?_ h
  rfl
set_option maxRecDepth 4000 in
theorem wL_give_7 {X : Cx} (x2 x3 x4 : Int) (sw : Bool) (m : Mem) (Q : Int → Bool → Mem → Prop) (h : ((w32 (m 18 5) ≤ w32 x4 → Q 0 sw m) ∧ (¬ (w32 (m 18 5) ≤ w32 x4) → ((0 ≤ w32 x4 ∧ w32 x4 < 128) ∧ ((0 ≤ w32 (m (rcode sw) (w32 x4)) → ((0 ≤ w32 (m (rcode sw) (w32 x4)) → ((0 ≤ w32 x2 ∧ w32 x2 < 128) ∧ R2 X 3 mL_give 7 [(0, vr 18), (1, vr 17), (2, vi (min (w32 (x2 + 1)) 127)), (3, vi x3), (4, vi (x4 + 1))] [] sw (upm m 20 (w32 x2) (m (rcode sw) (w32 x4))) Q)) ∧ (¬ (0 ≤ w32 (m (rcode sw) (w32 x4))) → ((w32 ((-20) - (m (rcode sw) (w32 x4))) < 6 → ((0 ≤ w32 ((-20) - (m (rcode sw) (w32 x4))) ∧ w32 ((-20) - (m (rcode sw) (w32 x4))) < 6) ∧ ((0 ≤ w32 x2 ∧ w32 x2 < 128) ∧ R2 X 3 mL_give 7 [(0, vr 18), (1, vr 17), (2, vi (min (w32 (x2 + 1)) 127)), (3, vi x3), (4, vi (x4 + 1))] [] sw (upm m 20 (w32 x2) (m 17 (w32 ((-20) - (m (rcode sw) (w32 x4)))))) Q))) ∧ (¬ (w32 ((-20) - (m (rcode sw) (w32 x4))) < 6) → ((0 ≤ w32 x2 ∧ w32 x2 < 128) ∧ R2 X 3 mL_give 7 [(0, vr 18), (1, vr 17), (2, vi (min (w32 (x2 + 1)) 127)), (3, vi x3), (4, vi (x4 + 1))] [] sw (upm m 20 (w32 x2) (m (rcode sw) (w32 x4))) Q)))))) ∧ (¬ (0 ≤ w32 (m (rcode sw) (w32 x4))) → (((-20) < w32 (m (rcode sw) (w32 x4)) → ((w32 (m (rcode sw) (w32 x4)) = (-13) → ((¬ w32 (m (rcode sw) (w32 x4)) = (-14) → ((w32 (m (rcode sw) (w32 x4)) = (-14) → R2 X 3 mL_give 7 [(0, vr 18), (1, vr 17), (2, vi (max (w32 (x2 - 1)) 0)), (3, vi 1), (4, vi (x4 + 1))] [] sw m Q) ∧ (¬ (w32 (m (rcode sw) (w32 x4)) = (-14)) → ((0 ≤ w32 (max (w32 (x2 - 1)) 0) ∧ w32 (max (w32 (x2 - 1)) 0) < 128) ∧ ((w32 (m 20 (w32 (max (w32 (x2 - 1)) 0))) = 0 → R2 X 3 mL_give 7 [(0, vr 18), (1, vr 17), (2, vi (max (w32 (x2 - 1)) 0)), (3, vi 0), (4, vi (x4 + 1))] [] sw m Q) ∧ (¬ (w32 (m 20 (w32 (max (w32 (x2 - 1)) 0))) = 0) → R2 X 3 mL_give 7 [(0, vr 18), (1, vr 17), (2, vi (max (w32 (x2 - 1)) 0)), (3, vi 1), (4, vi (x4 + 1))] [] sw m Q)))))) ∧ (¬ (¬ w32 (m (rcode sw) (w32 x4)) = (-14)) → ((w32 x3 = 0 → ((w32 (m (rcode sw) (w32 x4)) = (-14) → R2 X 3 mL_give 7 [(0, vr 18), (1, vr 17), (2, vi (max (w32 (x2 - 1)) 0)), (3, vi 1), (4, vi (x4 + 1))] [] sw m Q) ∧ (¬ (w32 (m (rcode sw) (w32 x4)) = (-14)) → ((0 ≤ w32 (max (w32 (x2 - 1)) 0) ∧ w32 (max (w32 (x2 - 1)) 0) < 128) ∧ ((w32 (m 20 (w32 (max (w32 (x2 - 1)) 0))) = 0 → R2 X 3 mL_give 7 [(0, vr 18), (1, vr 17), (2, vi (max (w32 (x2 - 1)) 0)), (3, vi 0), (4, vi (x4 + 1))] [] sw m Q) ∧ (¬ (w32 (m 20 (w32 (max (w32 (x2 - 1)) 0))) = 0) → R2 X 3 mL_give 7 [(0, vr 18), (1, vr 17), (2, vi (max (w32 (x2 - 1)) 0)), (3, vi 1), (4, vi (x4 + 1))] [] sw m Q)))))) ∧ (¬ (w32 x3 = 0) → ((0 ≤ w32 (max (w32 (x2 - 1)) 0) ∧ w32 (max (w32 (x2 - 1)) 0) < 128) ∧ Q (m 20 (w32 (max (w32 (x2 - 1)) 0))) sw m)))))) ∧ (¬ (w32 (m (rcode sw) (w32 x4)) = (-13)) → ((¬ w32 (m (rcode sw) (w32 x4)) = (-14) → M2 X 2 mL_combine [vr 18, vi (m (rcode sw) (w32 x4)), vi x2] sw m (fun z1 sw1 m1 => R2 X 3 mL_give 7 [(0, vr 18), (1, vr 17), (2, vi z1), (3, vi x3), (4, vi (x4 + 1))] [] sw1 m1 Q)) ∧ (¬ (¬ w32 (m (rcode sw) (w32 x4)) = (-14)) → ((¬ w32 (m (rcode sw) (w32 x4)) = (-14) → ((w32 (m (rcode sw) (w32 x4)) = (-14) → R2 X 3 mL_give 7 [(0, vr 18), (1, vr 17), (2, vi (max (w32 (x2 - 1)) 0)), (3, vi 1), (4, vi (x4 + 1))] [] sw m Q) ∧ (¬ (w32 (m (rcode sw) (w32 x4)) = (-14)) → ((0 ≤ w32 (max (w32 (x2 - 1)) 0) ∧ w32 (max (w32 (x2 - 1)) 0) < 128) ∧ ((w32 (m 20 (w32 (max (w32 (x2 - 1)) 0))) = 0 → R2 X 3 mL_give 7 [(0, vr 18), (1, vr 17), (2, vi (max (w32 (x2 - 1)) 0)), (3, vi 0), (4, vi (x4 + 1))] [] sw m Q) ∧ (¬ (w32 (m 20 (w32 (max (w32 (x2 - 1)) 0))) = 0) → R2 X 3 mL_give 7 [(0, vr 18), (1, vr 17), (2, vi (max (w32 (x2 - 1)) 0)), (3, vi 1), (4, vi (x4 + 1))] [] sw m Q)))))) ∧ (¬ (¬ w32 (m (rcode sw) (w32 x4)) = (-14)) → ((w32 x3 = 0 → ((w32 (m (rcode sw) (w32 x4)) = (-14) → R2 X 3 mL_give 7 [(0, vr 18), (1, vr 17), (2, vi (max (w32 (x2 - 1)) 0)), (3, vi 1), (4, vi (x4 + 1))] [] sw m Q) ∧ (¬ (w32 (m (rcode sw) (w32 x4)) = (-14)) → ((0 ≤ w32 (max (w32 (x2 - 1)) 0) ∧ w32 (max (w32 (x2 - 1)) 0) < 128) ∧ ((w32 (m 20 (w32 (max (w32 (x2 - 1)) 0))) = 0 → R2 X 3 mL_give 7 [(0, vr 18), (1, vr 17), (2, vi (max (w32 (x2 - 1)) 0)), (3, vi 0), (4, vi (x4 + 1))] [] sw m Q) ∧ (¬ (w32 (m 20 (w32 (max (w32 (x2 - 1)) 0))) = 0) → R2 X 3 mL_give 7 [(0, vr 18), (1, vr 17), (2, vi (max (w32 (x2 - 1)) 0)), (3, vi 1), (4, vi (x4 + 1))] [] sw m Q)))))) ∧ (¬ (w32 x3 = 0) → ((0 ≤ w32 (max (w32 (x2 - 1)) 0) ∧ w32 (max (w32 (x2 - 1)) 0) < 128) ∧ Q (m 20 (w32 (max (w32 (x2 - 1)) 0))) sw m)))))))))) ∧ (¬ ((-20) < w32 (m (rcode sw) (w32 x4))) → ((0 ≤ w32 (m (rcode sw) (w32 x4)) → ((0 ≤ w32 x2 ∧ w32 x2 < 128) ∧ R2 X 3 mL_give 7 [(0, vr 18), (1, vr 17), (2, vi (min (w32 (x2 + 1)) 127)), (3, vi x3), (4, vi (x4 + 1))] [] sw (upm m 20 (w32 x2) (m (rcode sw) (w32 x4))) Q)) ∧ (¬ (0 ≤ w32 (m (rcode sw) (w32 x4))) → ((w32 ((-20) - (m (rcode sw) (w32 x4))) < 6 → ((0 ≤ w32 ((-20) - (m (rcode sw) (w32 x4))) ∧ w32 ((-20) - (m (rcode sw) (w32 x4))) < 6) ∧ ((0 ≤ w32 x2 ∧ w32 x2 < 128) ∧ R2 X 3 mL_give 7 [(0, vr 18), (1, vr 17), (2, vi (min (w32 (x2 + 1)) 127)), (3, vi x3), (4, vi (x4 + 1))] [] sw (upm m 20 (w32 x2) (m 17 (w32 ((-20) - (m (rcode sw) (w32 x4)))))) Q))) ∧ (¬ (w32 ((-20) - (m (rcode sw) (w32 x4))) < 6) → ((0 ≤ w32 x2 ∧ w32 x2 < 128) ∧ R2 X 3 mL_give 7 [(0, vr 18), (1, vr 17), (2, vi (min (w32 (x2 + 1)) 127)), (3, vi x3), (4, vi (x4 + 1))] [] sw (upm m 20 (w32 x2) (m (rcode sw) (w32 x4))) Q))))))))))))) : R2 X 3 mL_give 7 [(0, vr 18), (1, vr 17), (2, vi x2), (3, vi x3), (4, vi x4)] [] sw m Q := by
  refine r_iload 4 4 rfl dL_give_7 ?_
  refine r_aload_n 0 0 rfl dL_give_9 rfl ?_
  refine q_getI 5 c18 fL_28 rfl rfl dL_give_10 ?_
  refine r_ifc_ge (tgt := 167) dL_give_13 (by decide) (fun hc => ?_) (fun hc => ?_)
  · replace h := h.1 hc
    refine r_iconst dL_give_167 ?_
    exact q_iret rfl h dL_give_168
  · replace h := h.2 hc
    refine r_aload_n 0 0 rfl dL_give_16 rfl ?_
    refine q_getR 2 c18 fL_18 rfl rfl (gco sw) (nco sw) dL_give_17 ?_
    refine r_iload 4 4 rfl dL_give_20 ?_
    refine q_iaload (w32 x4) rfl (cco sw) h.1 dL_give_22 ?_
    replace h := h.2
    refine r_istore 5 (by decide) dL_give_23 ?_
    refine r_iload 5 0 rfl dL_give_25 ?_
    refine r_if_ge (tgt := 37) dL_give_27 (by decide) (fun hc => ?_) (fun hc => ?_)
    · replace h := h.1 hc
      refine r_bipush (by decide) dL_give_37 ?_
      refine r_iload 5 0 rfl dL_give_39 ?_
      refine r_isub dL_give_41 ?_
      refine r_istore 6 (by decide) dL_give_42 ?_
      refine r_aload_n 0 2 rfl dL_give_44 rfl ?_
      refine q_getR 1 c18 fL_15 rfl rfl (g18_1 sw) (by decide) dL_give_45 ?_
      refine r_iload_n 2 4 rfl dL_give_48 rfl ?_
      refine r_iload 5 1 rfl dL_give_49 ?_
      refine r_if_ge (tgt := 61) dL_give_51 (by decide) (fun hc => ?_) (fun hc => ?_)
      · replace h := h.1 hc
        refine r_iload 5 1 rfl dL_give_61 ?_
        refine r_goto (tgt := 70) dL_give_63 (by decide) ?_
        refine q_iastore (w32 x2) rfl c20 h.1 dL_give_70 ?_
        replace h := h.2
        refine r_iload_n 2 4 rfl dL_give_71 rfl ?_
        refine r_iconst dL_give_72 ?_
        refine r_iadd dL_give_73 ?_
        refine r_aload_n 0 2 rfl dL_give_74 rfl ?_
        refine q_getR 1 c18 fL_15 rfl rfl (g18_1 sw) (by decide) dL_give_75 ?_
        refine r_alen (by decide) c20 dL_give_78 ?_
        refine r_iconst dL_give_79 ?_
        refine r_isub dL_give_80 ?_
        refine r_min yL_80 kS_min kMathI kC_min (by decide) (Nat.le_of_ble_eq_true rfl) dL_give_81 ?_
        refine r_istore_n 2 (by decide) dL_give_84 rfl ?_
        refine r_goto (tgt := 161) dL_give_85 (by decide) ?_
        refine r_iinc 4 6 rfl (by decide) dL_give_161 ?_
        refine r_goto (tgt := 7) dL_give_164 (by decide) ?_
        refine r_sub [4, 5, 1, 6, 0] ?_ h
        rfl
      · replace h := h.2 hc
        refine r_iload 6 0 rfl dL_give_54 ?_
        refine r_aload_n 1 3 rfl dL_give_56 rfl ?_
        refine r_alen (by decide) c17 dL_give_57 ?_
        refine r_ifc_lt (tgt := 66) dL_give_58 (by decide) (fun hc => ?_) (fun hc => ?_)
        · replace h := h.1 hc
          refine r_aload_n 1 3 rfl dL_give_66 rfl ?_
          refine r_iload 6 0 rfl dL_give_67 ?_
          refine q_iaload (w32 ((-20) - (m (rcode sw) (w32 x4)))) rfl c17 h.1 dL_give_69 ?_
          replace h := h.2
          refine q_iastore (w32 x2) rfl c20 h.1 dL_give_70 ?_
          replace h := h.2
          refine r_iload_n 2 4 rfl dL_give_71 rfl ?_
          refine r_iconst dL_give_72 ?_
          refine r_iadd dL_give_73 ?_
          refine r_aload_n 0 2 rfl dL_give_74 rfl ?_
          refine q_getR 1 c18 fL_15 rfl rfl (g18_1 sw) (by decide) dL_give_75 ?_
          refine r_alen (by decide) c20 dL_give_78 ?_
          refine r_iconst dL_give_79 ?_
          refine r_isub dL_give_80 ?_
          refine r_min yL_80 kS_min kMathI kC_min (by decide) (Nat.le_of_ble_eq_true rfl) dL_give_81 ?_
          refine r_istore_n 2 (by decide) dL_give_84 rfl ?_
          refine r_goto (tgt := 161) dL_give_85 (by decide) ?_
          refine r_iinc 4 6 rfl (by decide) dL_give_161 ?_
          refine r_goto (tgt := 7) dL_give_164 (by decide) ?_
          refine r_sub [4, 5, 1, 6, 0] ?_ h
          rfl
        · replace h := h.2 hc
          refine r_iload 5 1 rfl dL_give_61 ?_
          refine r_goto (tgt := 70) dL_give_63 (by decide) ?_
          refine q_iastore (w32 x2) rfl c20 h.1 dL_give_70 ?_
          replace h := h.2
          refine r_iload_n 2 4 rfl dL_give_71 rfl ?_
          refine r_iconst dL_give_72 ?_
          refine r_iadd dL_give_73 ?_
          refine r_aload_n 0 2 rfl dL_give_74 rfl ?_
          refine q_getR 1 c18 fL_15 rfl rfl (g18_1 sw) (by decide) dL_give_75 ?_
          refine r_alen (by decide) c20 dL_give_78 ?_
          refine r_iconst dL_give_79 ?_
          refine r_isub dL_give_80 ?_
          refine r_min yL_80 kS_min kMathI kC_min (by decide) (Nat.le_of_ble_eq_true rfl) dL_give_81 ?_
          refine r_istore_n 2 (by decide) dL_give_84 rfl ?_
          refine r_goto (tgt := 161) dL_give_85 (by decide) ?_
          refine r_iinc 4 6 rfl (by decide) dL_give_161 ?_
          refine r_goto (tgt := 7) dL_give_164 (by decide) ?_
          refine r_sub [4, 5, 1, 6, 0] ?_ h
          rfl
    · replace h := h.2 hc
      refine r_iload 5 0 rfl dL_give_30 ?_
      refine r_bipush (by decide) dL_give_32 ?_
      refine r_ifc_gt (tgt := 88) dL_give_34 (by decide) (fun hc => ?_) (fun hc => ?_)
      · replace h := h.1 hc
        refine r_iload 5 0 rfl dL_give_88 ?_
        refine r_bipush (by decide) dL_give_90 ?_
        refine r_ifc_eq (tgt := 102) dL_give_92 (by decide) (fun hc => ?_) (fun hc => ?_)
        · replace h := h.1 hc
          refine r_iload_n 2 3 rfl dL_give_102 rfl ?_
          refine r_iconst dL_give_103 ?_
          refine r_isub dL_give_104 ?_
          refine r_iconst dL_give_105 ?_
          refine r_max yL_86 kS_max kMathI kC_max (by decide) (Nat.le_of_ble_eq_true rfl) dL_give_106 ?_
          refine r_istore_n 2 (by decide) dL_give_109 rfl ?_
          refine r_iload 5 1 rfl dL_give_110 ?_
          refine r_bipush (by decide) dL_give_112 ?_
          refine r_ifc_ne (tgt := 128) dL_give_114 (by decide) (fun hc => ?_) (fun hc => ?_)
          · replace h := h.1 hc
            refine r_iload 5 1 rfl dL_give_128 ?_
            refine r_bipush (by decide) dL_give_130 ?_
            refine r_ifc_eq (tgt := 144) dL_give_132 (by decide) (fun hc => ?_) (fun hc => ?_)
            · replace h := h.1 hc
              refine r_iconst dL_give_144 ?_
              refine r_goto (tgt := 149) dL_give_145 (by decide) ?_
              refine r_istore_n 3 (by decide) dL_give_149 rfl ?_
              refine r_goto (tgt := 161) dL_give_150 (by decide) ?_
              refine r_iinc 4 5 rfl (by decide) dL_give_161 ?_
              refine r_goto (tgt := 7) dL_give_164 (by decide) ?_
              refine r_sub [4, 5, 2, 1, 0] ?_ h
              rfl
            · replace h := h.2 hc
              refine r_aload_n 0 2 rfl dL_give_135 rfl ?_
              refine q_getR 1 c18 fL_15 rfl rfl (g18_1 sw) (by decide) dL_give_136 ?_
              refine r_iload_n 2 0 rfl dL_give_139 rfl ?_
              refine q_iaload (w32 (max (w32 (x2 - 1)) 0)) rfl c20 h.1 dL_give_140 ?_
              replace h := h.2
              refine r_if_eq (tgt := 148) dL_give_141 (by decide) (fun hc => ?_) (fun hc => ?_)
              · replace h := h.1 hc
                refine r_iconst dL_give_148 ?_
                refine r_istore_n 3 (by decide) dL_give_149 rfl ?_
                refine r_goto (tgt := 161) dL_give_150 (by decide) ?_
                refine r_iinc 4 5 rfl (by decide) dL_give_161 ?_
                refine r_goto (tgt := 7) dL_give_164 (by decide) ?_
                refine r_sub [4, 5, 2, 1, 0] ?_ h
                rfl
              · replace h := h.2 hc
                refine r_iconst dL_give_144 ?_
                refine r_goto (tgt := 149) dL_give_145 (by decide) ?_
                refine r_istore_n 3 (by decide) dL_give_149 rfl ?_
                refine r_goto (tgt := 161) dL_give_150 (by decide) ?_
                refine r_iinc 4 5 rfl (by decide) dL_give_161 ?_
                refine r_goto (tgt := 7) dL_give_164 (by decide) ?_
                refine r_sub [4, 5, 2, 1, 0] ?_ h
                rfl
          · replace h := h.2 hc
            refine r_iload_n 3 4 rfl dL_give_117 rfl ?_
            refine r_if_eq (tgt := 128) dL_give_118 (by decide) (fun hc => ?_) (fun hc => ?_)
            · replace h := h.1 hc
              refine r_iload 5 1 rfl dL_give_128 ?_
              refine r_bipush (by decide) dL_give_130 ?_
              refine r_ifc_eq (tgt := 144) dL_give_132 (by decide) (fun hc => ?_) (fun hc => ?_)
              · replace h := h.1 hc
                refine r_iconst dL_give_144 ?_
                refine r_goto (tgt := 149) dL_give_145 (by decide) ?_
                refine r_istore_n 3 (by decide) dL_give_149 rfl ?_
                refine r_goto (tgt := 161) dL_give_150 (by decide) ?_
                refine r_iinc 4 5 rfl (by decide) dL_give_161 ?_
                refine r_goto (tgt := 7) dL_give_164 (by decide) ?_
                refine r_sub [4, 5, 2, 1, 0] ?_ h
                rfl
              · replace h := h.2 hc
                refine r_aload_n 0 2 rfl dL_give_135 rfl ?_
                refine q_getR 1 c18 fL_15 rfl rfl (g18_1 sw) (by decide) dL_give_136 ?_
                refine r_iload_n 2 0 rfl dL_give_139 rfl ?_
                refine q_iaload (w32 (max (w32 (x2 - 1)) 0)) rfl c20 h.1 dL_give_140 ?_
                replace h := h.2
                refine r_if_eq (tgt := 148) dL_give_141 (by decide) (fun hc => ?_) (fun hc => ?_)
                · replace h := h.1 hc
                  refine r_iconst dL_give_148 ?_
                  refine r_istore_n 3 (by decide) dL_give_149 rfl ?_
                  refine r_goto (tgt := 161) dL_give_150 (by decide) ?_
                  refine r_iinc 4 5 rfl (by decide) dL_give_161 ?_
                  refine r_goto (tgt := 7) dL_give_164 (by decide) ?_
                  refine r_sub [4, 5, 2, 1, 0] ?_ h
                  rfl
                · replace h := h.2 hc
                  refine r_iconst dL_give_144 ?_
                  refine r_goto (tgt := 149) dL_give_145 (by decide) ?_
                  refine r_istore_n 3 (by decide) dL_give_149 rfl ?_
                  refine r_goto (tgt := 161) dL_give_150 (by decide) ?_
                  refine r_iinc 4 5 rfl (by decide) dL_give_161 ?_
                  refine r_goto (tgt := 7) dL_give_164 (by decide) ?_
                  refine r_sub [4, 5, 2, 1, 0] ?_ h
                  rfl
            · replace h := h.2 hc
              refine r_aload_n 0 2 rfl dL_give_121 rfl ?_
              refine q_getR 1 c18 fL_15 rfl rfl (g18_1 sw) (by decide) dL_give_122 ?_
              refine r_iload_n 2 0 rfl dL_give_125 rfl ?_
              refine q_iaload (w32 (max (w32 (x2 - 1)) 0)) rfl c20 h.1 dL_give_126 ?_
              replace h := h.2
              exact q_iret rfl h dL_give_127
        · replace h := h.2 hc
          refine r_iload 5 0 rfl dL_give_95 ?_
          refine r_bipush (by decide) dL_give_97 ?_
          refine r_ifc_ne (tgt := 153) dL_give_99 (by decide) (fun hc => ?_) (fun hc => ?_)
          · replace h := h.1 hc
            refine r_aload_n 0 1 rfl dL_give_153 rfl ?_
            refine r_iload 5 0 rfl dL_give_154 ?_
            refine r_iload_n 2 3 rfl dL_give_156 rfl ?_
            refine r_callVi 2 [_, _] rfl c18 rfl rfl oL_combine iL_combine sL_combine yL_89 (by decide) ⟨Nat.le_refl _, Nat.le_refl _⟩ rfl (Nat.le_of_ble_eq_true rfl) dL_give_157 h (fun z1 r1 m1 h => ?_)
            obtain ⟨sw1, rfl, h⟩ := h
            refine r_istore_n 2 (by decide) dL_give_160 rfl ?_
            refine r_iinc 4 5 rfl (by decide) dL_give_161 ?_
            refine r_goto (tgt := 7) dL_give_164 (by decide) ?_
            refine r_sub [3, 4, 1, 5, 0] ?_ h
            rfl
          · replace h := h.2 hc
            refine r_iload_n 2 3 rfl dL_give_102 rfl ?_
            refine r_iconst dL_give_103 ?_
            refine r_isub dL_give_104 ?_
            refine r_iconst dL_give_105 ?_
            refine r_max yL_86 kS_max kMathI kC_max (by decide) (Nat.le_of_ble_eq_true rfl) dL_give_106 ?_
            refine r_istore_n 2 (by decide) dL_give_109 rfl ?_
            refine r_iload 5 1 rfl dL_give_110 ?_
            refine r_bipush (by decide) dL_give_112 ?_
            refine r_ifc_ne (tgt := 128) dL_give_114 (by decide) (fun hc => ?_) (fun hc => ?_)
            · replace h := h.1 hc
              refine r_iload 5 1 rfl dL_give_128 ?_
              refine r_bipush (by decide) dL_give_130 ?_
              refine r_ifc_eq (tgt := 144) dL_give_132 (by decide) (fun hc => ?_) (fun hc => ?_)
              · replace h := h.1 hc
                refine r_iconst dL_give_144 ?_
                refine r_goto (tgt := 149) dL_give_145 (by decide) ?_
                refine r_istore_n 3 (by decide) dL_give_149 rfl ?_
                refine r_goto (tgt := 161) dL_give_150 (by decide) ?_
                refine r_iinc 4 5 rfl (by decide) dL_give_161 ?_
                refine r_goto (tgt := 7) dL_give_164 (by decide) ?_
                refine r_sub [4, 5, 2, 1, 0] ?_ h
                rfl
              · replace h := h.2 hc
                refine r_aload_n 0 2 rfl dL_give_135 rfl ?_
                refine q_getR 1 c18 fL_15 rfl rfl (g18_1 sw) (by decide) dL_give_136 ?_
                refine r_iload_n 2 0 rfl dL_give_139 rfl ?_
                refine q_iaload (w32 (max (w32 (x2 - 1)) 0)) rfl c20 h.1 dL_give_140 ?_
                replace h := h.2
                refine r_if_eq (tgt := 148) dL_give_141 (by decide) (fun hc => ?_) (fun hc => ?_)
                · replace h := h.1 hc
                  refine r_iconst dL_give_148 ?_
                  refine r_istore_n 3 (by decide) dL_give_149 rfl ?_
                  refine r_goto (tgt := 161) dL_give_150 (by decide) ?_
                  refine r_iinc 4 5 rfl (by decide) dL_give_161 ?_
                  refine r_goto (tgt := 7) dL_give_164 (by decide) ?_
                  refine r_sub [4, 5, 2, 1, 0] ?_ h
                  rfl
                · replace h := h.2 hc
                  refine r_iconst dL_give_144 ?_
                  refine r_goto (tgt := 149) dL_give_145 (by decide) ?_
                  refine r_istore_n 3 (by decide) dL_give_149 rfl ?_
                  refine r_goto (tgt := 161) dL_give_150 (by decide) ?_
                  refine r_iinc 4 5 rfl (by decide) dL_give_161 ?_
                  refine r_goto (tgt := 7) dL_give_164 (by decide) ?_
                  refine r_sub [4, 5, 2, 1, 0] ?_ h
                  rfl
            · replace h := h.2 hc
              refine r_iload_n 3 4 rfl dL_give_117 rfl ?_
              refine r_if_eq (tgt := 128) dL_give_118 (by decide) (fun hc => ?_) (fun hc => ?_)
              · replace h := h.1 hc
                refine r_iload 5 1 rfl dL_give_128 ?_
                refine r_bipush (by decide) dL_give_130 ?_
                refine r_ifc_eq (tgt := 144) dL_give_132 (by decide) (fun hc => ?_) (fun hc => ?_)
                · replace h := h.1 hc
                  refine r_iconst dL_give_144 ?_
                  refine r_goto (tgt := 149) dL_give_145 (by decide) ?_
                  refine r_istore_n 3 (by decide) dL_give_149 rfl ?_
                  refine r_goto (tgt := 161) dL_give_150 (by decide) ?_
                  refine r_iinc 4 5 rfl (by decide) dL_give_161 ?_
                  refine r_goto (tgt := 7) dL_give_164 (by decide) ?_
                  refine r_sub [4, 5, 2, 1, 0] ?_ h
                  rfl
                · replace h := h.2 hc
                  refine r_aload_n 0 2 rfl dL_give_135 rfl ?_
                  refine q_getR 1 c18 fL_15 rfl rfl (g18_1 sw) (by decide) dL_give_136 ?_
                  refine r_iload_n 2 0 rfl dL_give_139 rfl ?_
                  refine q_iaload (w32 (max (w32 (x2 - 1)) 0)) rfl c20 h.1 dL_give_140 ?_
                  replace h := h.2
                  refine r_if_eq (tgt := 148) dL_give_141 (by decide) (fun hc => ?_) (fun hc => ?_)
                  · replace h := h.1 hc
                    refine r_iconst dL_give_148 ?_
                    refine r_istore_n 3 (by decide) dL_give_149 rfl ?_
                    refine r_goto (tgt := 161) dL_give_150 (by decide) ?_
                    refine r_iinc 4 5 rfl (by decide) dL_give_161 ?_
                    refine r_goto (tgt := 7) dL_give_164 (by decide) ?_
                    refine r_sub [4, 5, 2, 1, 0] ?_ h
                    rfl
                  · replace h := h.2 hc
                    refine r_iconst dL_give_144 ?_
                    refine r_goto (tgt := 149) dL_give_145 (by decide) ?_
                    refine r_istore_n 3 (by decide) dL_give_149 rfl ?_
                    refine r_goto (tgt := 161) dL_give_150 (by decide) ?_
                    refine r_iinc 4 5 rfl (by decide) dL_give_161 ?_
                    refine r_goto (tgt := 7) dL_give_164 (by decide) ?_
                    refine r_sub [4, 5, 2, 1, 0] ?_ h
                    rfl
              · replace h := h.2 hc
                refine r_aload_n 0 2 rfl dL_give_121 rfl ?_
                refine q_getR 1 c18 fL_15 rfl rfl (g18_1 sw) (by decide) dL_give_122 ?_
                refine r_iload_n 2 0 rfl dL_give_125 rfl ?_
                refine q_iaload (w32 (max (w32 (x2 - 1)) 0)) rfl c20 h.1 dL_give_126 ?_
                replace h := h.2
                exact q_iret rfl h dL_give_127
      · replace h := h.2 hc
        refine r_bipush (by decide) dL_give_37 ?_
        refine r_iload 5 0 rfl dL_give_39 ?_
        refine r_isub dL_give_41 ?_
        refine r_istore 6 (by decide) dL_give_42 ?_
        refine r_aload_n 0 2 rfl dL_give_44 rfl ?_
        refine q_getR 1 c18 fL_15 rfl rfl (g18_1 sw) (by decide) dL_give_45 ?_
        refine r_iload_n 2 4 rfl dL_give_48 rfl ?_
        refine r_iload 5 1 rfl dL_give_49 ?_
        refine r_if_ge (tgt := 61) dL_give_51 (by decide) (fun hc => ?_) (fun hc => ?_)
        · replace h := h.1 hc
          refine r_iload 5 1 rfl dL_give_61 ?_
          refine r_goto (tgt := 70) dL_give_63 (by decide) ?_
          refine q_iastore (w32 x2) rfl c20 h.1 dL_give_70 ?_
          replace h := h.2
          refine r_iload_n 2 4 rfl dL_give_71 rfl ?_
          refine r_iconst dL_give_72 ?_
          refine r_iadd dL_give_73 ?_
          refine r_aload_n 0 2 rfl dL_give_74 rfl ?_
          refine q_getR 1 c18 fL_15 rfl rfl (g18_1 sw) (by decide) dL_give_75 ?_
          refine r_alen (by decide) c20 dL_give_78 ?_
          refine r_iconst dL_give_79 ?_
          refine r_isub dL_give_80 ?_
          refine r_min yL_80 kS_min kMathI kC_min (by decide) (Nat.le_of_ble_eq_true rfl) dL_give_81 ?_
          refine r_istore_n 2 (by decide) dL_give_84 rfl ?_
          refine r_goto (tgt := 161) dL_give_85 (by decide) ?_
          refine r_iinc 4 6 rfl (by decide) dL_give_161 ?_
          refine r_goto (tgt := 7) dL_give_164 (by decide) ?_
          refine r_sub [4, 5, 1, 6, 0] ?_ h
          rfl
        · replace h := h.2 hc
          refine r_iload 6 0 rfl dL_give_54 ?_
          refine r_aload_n 1 3 rfl dL_give_56 rfl ?_
          refine r_alen (by decide) c17 dL_give_57 ?_
          refine r_ifc_lt (tgt := 66) dL_give_58 (by decide) (fun hc => ?_) (fun hc => ?_)
          · replace h := h.1 hc
            refine r_aload_n 1 3 rfl dL_give_66 rfl ?_
            refine r_iload 6 0 rfl dL_give_67 ?_
            refine q_iaload (w32 ((-20) - (m (rcode sw) (w32 x4)))) rfl c17 h.1 dL_give_69 ?_
            replace h := h.2
            refine q_iastore (w32 x2) rfl c20 h.1 dL_give_70 ?_
            replace h := h.2
            refine r_iload_n 2 4 rfl dL_give_71 rfl ?_
            refine r_iconst dL_give_72 ?_
            refine r_iadd dL_give_73 ?_
            refine r_aload_n 0 2 rfl dL_give_74 rfl ?_
            refine q_getR 1 c18 fL_15 rfl rfl (g18_1 sw) (by decide) dL_give_75 ?_
            refine r_alen (by decide) c20 dL_give_78 ?_
            refine r_iconst dL_give_79 ?_
            refine r_isub dL_give_80 ?_
            refine r_min yL_80 kS_min kMathI kC_min (by decide) (Nat.le_of_ble_eq_true rfl) dL_give_81 ?_
            refine r_istore_n 2 (by decide) dL_give_84 rfl ?_
            refine r_goto (tgt := 161) dL_give_85 (by decide) ?_
            refine r_iinc 4 6 rfl (by decide) dL_give_161 ?_
            refine r_goto (tgt := 7) dL_give_164 (by decide) ?_
            refine r_sub [4, 5, 1, 6, 0] ?_ h
            rfl
          · replace h := h.2 hc
            refine r_iload 5 1 rfl dL_give_61 ?_
            refine r_goto (tgt := 70) dL_give_63 (by decide) ?_
            refine q_iastore (w32 x2) rfl c20 h.1 dL_give_70 ?_
            replace h := h.2
            refine r_iload_n 2 4 rfl dL_give_71 rfl ?_
            refine r_iconst dL_give_72 ?_
            refine r_iadd dL_give_73 ?_
            refine r_aload_n 0 2 rfl dL_give_74 rfl ?_
            refine q_getR 1 c18 fL_15 rfl rfl (g18_1 sw) (by decide) dL_give_75 ?_
            refine r_alen (by decide) c20 dL_give_78 ?_
            refine r_iconst dL_give_79 ?_
            refine r_isub dL_give_80 ?_
            refine r_min yL_80 kS_min kMathI kC_min (by decide) (Nat.le_of_ble_eq_true rfl) dL_give_81 ?_
            refine r_istore_n 2 (by decide) dL_give_84 rfl ?_
            refine r_goto (tgt := 161) dL_give_85 (by decide) ?_
            refine r_iinc 4 6 rfl (by decide) dL_give_161 ?_
            refine r_goto (tgt := 7) dL_give_164 (by decide) ?_
            refine r_sub [4, 5, 1, 6, 0] ?_ h
            rfl
theorem dL_combine_0 : decode mL_combine.2.1 0 = .ok (.iload_n 1, 1) := by decide +kernel
theorem dL_combine_1 : decode mL_combine.2.1 1 = .ok (.bipush (-11), 2) := by decide +kernel
theorem dL_combine_3 : decode mL_combine.2.1 3 = .ok (.if_icmp .eq 9, 3) := by decide +kernel
theorem dL_combine_6 : decode mL_combine.2.1 6 = .ok (.iload_n 1, 1) := by decide +kernel
theorem dL_combine_7 : decode mL_combine.2.1 7 = .ok (.bipush (-12), 2) := by decide +kernel
theorem dL_combine_9 : decode mL_combine.2.1 9 = .ok (.if_icmp .ne 7, 3) := by decide +kernel
theorem dL_combine_12 : decode mL_combine.2.1 12 = .ok (.iconst 1, 1) := by decide +kernel
theorem dL_combine_13 : decode mL_combine.2.1 13 = .ok (.goto 4, 3) := by decide +kernel
theorem dL_combine_16 : decode mL_combine.2.1 16 = .ok (.iconst 0, 1) := by decide +kernel
theorem dL_combine_17 : decode mL_combine.2.1 17 = .ok (.istore_n 3, 1) := by decide +kernel
theorem dL_combine_18 : decode mL_combine.2.1 18 = .ok (.iload_n 2, 1) := by decide +kernel
theorem dL_combine_19 : decode mL_combine.2.1 19 = .ok (.iload_n 3, 1) := by decide +kernel
theorem dL_combine_20 : decode mL_combine.2.1 20 = .ok (.ifCond .eq 7, 3) := by decide +kernel
theorem dL_combine_23 : decode mL_combine.2.1 23 = .ok (.iconst 1, 1) := by decide +kernel
theorem dL_combine_24 : decode mL_combine.2.1 24 = .ok (.goto 4, 3) := by decide +kernel
theorem dL_combine_27 : decode mL_combine.2.1 27 = .ok (.iconst 2, 1) := by decide +kernel
theorem dL_combine_28 : decode mL_combine.2.1 28 = .ok (.isub, 1) := by decide +kernel
theorem dL_combine_29 : decode mL_combine.2.1 29 = .ok (.istore 4, 2) := by decide +kernel
theorem dL_combine_31 : decode mL_combine.2.1 31 = .ok (.iload 4, 2) := by decide +kernel
theorem dL_combine_33 : decode mL_combine.2.1 33 = .ok (.ifCond .ge 5, 3) := by decide +kernel
theorem dL_combine_36 : decode mL_combine.2.1 36 = .ok (.iload_n 2, 1) := by decide +kernel
theorem dL_combine_37 : decode mL_combine.2.1 37 = .ok (.ireturn, 1) := by decide +kernel
theorem dL_combine_38 : decode mL_combine.2.1 38 = .ok (.aload_n 0, 1) := by decide +kernel
theorem dL_combine_39 : decode mL_combine.2.1 39 = .ok (.getfield 15, 3) := by decide +kernel
theorem dL_combine_42 : decode mL_combine.2.1 42 = .ok (.iload 4, 2) := by decide +kernel
theorem dL_combine_44 : decode mL_combine.2.1 44 = .ok (.iaload, 1) := by decide +kernel
theorem dL_combine_45 : decode mL_combine.2.1 45 = .ok (.istore 5, 2) := by decide +kernel
theorem dL_combine_47 : decode mL_combine.2.1 47 = .ok (.aload_n 0, 1) := by decide +kernel
theorem dL_combine_48 : decode mL_combine.2.1 48 = .ok (.getfield 15, 3) := by decide +kernel
theorem dL_combine_51 : decode mL_combine.2.1 51 = .ok (.iload_n 2, 1) := by decide +kernel
theorem dL_combine_52 : decode mL_combine.2.1 52 = .ok (.iconst 1, 1) := by decide +kernel
theorem dL_combine_53 : decode mL_combine.2.1 53 = .ok (.isub, 1) := by decide +kernel
theorem dL_combine_54 : decode mL_combine.2.1 54 = .ok (.iaload, 1) := by decide +kernel
theorem dL_combine_55 : decode mL_combine.2.1 55 = .ok (.istore 6, 2) := by decide +kernel
theorem dL_combine_57 : decode mL_combine.2.1 57 = .ok (.iload_n 3, 1) := by decide +kernel
theorem dL_combine_58 : decode mL_combine.2.1 58 = .ok (.ifCond .eq 35, 3) := by decide +kernel
theorem dL_combine_61 : decode mL_combine.2.1 61 = .ok (.aload_n 0, 1) := by decide +kernel
theorem dL_combine_62 : decode mL_combine.2.1 62 = .ok (.getfield 15, 3) := by decide +kernel
theorem dL_combine_65 : decode mL_combine.2.1 65 = .ok (.iload 4, 2) := by decide +kernel
theorem dL_combine_67 : decode mL_combine.2.1 67 = .ok (.iload_n 1, 1) := by decide +kernel
theorem dL_combine_68 : decode mL_combine.2.1 68 = .ok (.bipush (-12), 2) := by decide +kernel
theorem dL_combine_70 : decode mL_combine.2.1 70 = .ok (.if_icmp .ne 9, 3) := by decide +kernel
theorem dL_combine_73 : decode mL_combine.2.1 73 = .ok (.iload 5, 2) := by decide +kernel
theorem dL_combine_75 : decode mL_combine.2.1 75 = .ok (.ineg, 1) := by decide +kernel
theorem dL_combine_76 : decode mL_combine.2.1 76 = .ok (.goto 13, 3) := by decide +kernel
theorem dL_combine_79 : decode mL_combine.2.1 79 = .ok (.iload 5, 2) := by decide +kernel
theorem dL_combine_81 : decode mL_combine.2.1 81 = .ok (.ifCond .ne 7, 3) := by decide +kernel
theorem dL_combine_84 : decode mL_combine.2.1 84 = .ok (.iconst 1, 1) := by decide +kernel
theorem dL_combine_85 : decode mL_combine.2.1 85 = .ok (.goto 4, 3) := by decide +kernel
theorem dL_combine_88 : decode mL_combine.2.1 88 = .ok (.iconst 0, 1) := by decide +kernel
theorem dL_combine_89 : decode mL_combine.2.1 89 = .ok (.iastore, 1) := by decide +kernel
theorem dL_combine_90 : decode mL_combine.2.1 90 = .ok (.goto 18, 3) := by decide +kernel
theorem dL_combine_93 : decode mL_combine.2.1 93 = .ok (.aload_n 0, 1) := by decide +kernel
theorem dL_combine_94 : decode mL_combine.2.1 94 = .ok (.getfield 15, 3) := by decide +kernel
theorem dL_combine_97 : decode mL_combine.2.1 97 = .ok (.iload 4, 2) := by decide +kernel
theorem dL_combine_99 : decode mL_combine.2.1 99 = .ok (.iload_n 1, 1) := by decide +kernel
theorem dL_combine_100 : decode mL_combine.2.1 100 = .ok (.iload 5, 2) := by decide +kernel
theorem dL_combine_102 : decode mL_combine.2.1 102 = .ok (.iload 6, 2) := by decide +kernel
theorem dL_combine_104 : decode mL_combine.2.1 104 = .ok (.invokestatic 92, 3) := by decide +kernel
theorem dL_combine_107 : decode mL_combine.2.1 107 = .ok (.iastore, 1) := by decide +kernel
theorem dL_combine_108 : decode mL_combine.2.1 108 = .ok (.iload 4, 2) := by decide +kernel
theorem dL_combine_110 : decode mL_combine.2.1 110 = .ok (.iconst 1, 1) := by decide +kernel
theorem dL_combine_111 : decode mL_combine.2.1 111 = .ok (.iadd, 1) := by decide +kernel
theorem dL_combine_112 : decode mL_combine.2.1 112 = .ok (.ireturn, 1) := by decide +kernel
/- L_combine: (II)I -/
set_option maxRecDepth 4000 in
theorem wL_combine {X : Cx} (a1 a2 : Int) (sw : Bool) (m : Mem) (Q : Int → Bool → Mem → Prop) (h : ((w32 a1 = (-11) → ((0 ≤ w32 (a2 - 1) → ((0 ≤ w32 (a2 - 1) ∧ w32 (a2 - 1) < 128) ∧ ((0 ≤ w32 (a2 - 1) ∧ w32 (a2 - 1) < 128) ∧ ((¬ w32 a1 = (-12) → ((¬ w32 (m 20 (w32 (a2 - 1))) = 0 → ((0 ≤ w32 (a2 - 1) ∧ w32 (a2 - 1) < 128) ∧ Q ((a2 - 1) + 1) sw (upm m 20 (w32 (a2 - 1)) 0))) ∧ (¬ (¬ w32 (m 20 (w32 (a2 - 1))) = 0) → ((0 ≤ w32 (a2 - 1) ∧ w32 (a2 - 1) < 128) ∧ Q ((a2 - 1) + 1) sw (upm m 20 (w32 (a2 - 1)) 1))))) ∧ (¬ (¬ w32 a1 = (-12)) → ((0 ≤ w32 (a2 - 1) ∧ w32 (a2 - 1) < 128) ∧ Q ((a2 - 1) + 1) sw (upm m 20 (w32 (a2 - 1)) (-(m 20 (w32 (a2 - 1))))))))))) ∧ (¬ (0 ≤ w32 (a2 - 1)) → Q a2 sw m))) ∧ (¬ (w32 a1 = (-11)) → ((¬ w32 a1 = (-12) → ((0 ≤ w32 (a2 - 2) → ((0 ≤ w32 (a2 - 2) ∧ w32 (a2 - 2) < 128) ∧ ((0 ≤ w32 (a2 - 1) ∧ w32 (a2 - 1) < 128) ∧ M2 X 1 mL_valueOf [vi a1, vi (m 20 (w32 (a2 - 2))), vi (m 20 (w32 (a2 - 1)))] sw m (fun z1 sw1 m1 => ((0 ≤ w32 (a2 - 2) ∧ w32 (a2 - 2) < 128) ∧ Q ((a2 - 2) + 1) sw1 (upm m1 20 (w32 (a2 - 2)) z1)))))) ∧ (¬ (0 ≤ w32 (a2 - 2)) → Q a2 sw m))) ∧ (¬ (¬ w32 a1 = (-12)) → ((0 ≤ w32 (a2 - 1) → ((0 ≤ w32 (a2 - 1) ∧ w32 (a2 - 1) < 128) ∧ ((0 ≤ w32 (a2 - 1) ∧ w32 (a2 - 1) < 128) ∧ ((¬ w32 a1 = (-12) → ((¬ w32 (m 20 (w32 (a2 - 1))) = 0 → ((0 ≤ w32 (a2 - 1) ∧ w32 (a2 - 1) < 128) ∧ Q ((a2 - 1) + 1) sw (upm m 20 (w32 (a2 - 1)) 0))) ∧ (¬ (¬ w32 (m 20 (w32 (a2 - 1))) = 0) → ((0 ≤ w32 (a2 - 1) ∧ w32 (a2 - 1) < 128) ∧ Q ((a2 - 1) + 1) sw (upm m 20 (w32 (a2 - 1)) 1))))) ∧ (¬ (¬ w32 a1 = (-12)) → ((0 ≤ w32 (a2 - 1) ∧ w32 (a2 - 1) < 128) ∧ Q ((a2 - 1) + 1) sw (upm m 20 (w32 (a2 - 1)) (-(m 20 (w32 (a2 - 1))))))))))) ∧ (¬ (0 ≤ w32 (a2 - 1)) → Q a2 sw m))))))) : M2 X 2 mL_combine [vr 18, vi a1, vi a2] sw m Q := by
  refine Mt.of pL_combine (Nat.le_of_ble_eq_true rfl) (Nat.le_refl _) ?_
  show R2 X 2 mL_combine 0 [(0, vr 18), (1, vi a1), (2, vi a2)] [] sw m Q
  refine r_iload_n 1 1 rfl dL_combine_0 rfl ?_
  refine r_bipush (by decide) dL_combine_1 ?_
  refine r_ifc_eq (tgt := 12) dL_combine_3 (by decide) (fun hc => ?_) (fun hc => ?_)
  · replace h := h.1 hc
    refine r_iconst dL_combine_12 ?_
    refine r_goto (tgt := 17) dL_combine_13 (by decide) ?_
    refine r_istore_n 3 (by decide) dL_combine_17 rfl ?_
    refine r_iload_n 2 3 rfl dL_combine_18 rfl ?_
    refine r_iload_n 3 0 rfl dL_combine_19 rfl ?_
    refine r_if_eq (tgt := 27) dL_combine_20 (by decide) (fun q => absurd (show w32 1 = 0 from q) (by decide)) (fun _ => ?_)
    refine r_iconst dL_combine_23 ?_
    refine r_goto (tgt := 28) dL_combine_24 (by decide) ?_
    refine r_isub dL_combine_28 ?_
    refine r_istore 4 (by decide) dL_combine_29 ?_
    refine r_iload 4 0 rfl dL_combine_31 ?_
    refine r_if_ge (tgt := 38) dL_combine_33 (by decide) (fun hc => ?_) (fun hc => ?_)
    · replace h := h.1 hc
      refine r_aload_n 0 2 rfl dL_combine_38 rfl ?_
      refine q_getR 1 c18 fL_15 rfl rfl (g18_1 sw) (by decide) dL_combine_39 ?_
      refine r_iload 4 0 rfl dL_combine_42 ?_
      refine q_iaload (w32 (a2 - 1)) rfl c20 h.1 dL_combine_44 ?_
      replace h := h.2
      refine r_istore 5 (by decide) dL_combine_45 ?_
      refine r_aload_n 0 3 rfl dL_combine_47 rfl ?_
      refine q_getR 1 c18 fL_15 rfl rfl (g18_1 sw) (by decide) dL_combine_48 ?_
      refine r_iload_n 2 5 rfl dL_combine_51 rfl ?_
      refine r_iconst dL_combine_52 ?_
      refine r_isub dL_combine_53 ?_
      refine q_iaload (w32 (a2 - 1)) rfl c20 h.1 dL_combine_54 ?_
      replace h := h.2
      refine r_istore 6 (by decide) dL_combine_55 ?_
      refine r_iload_n 3 3 rfl dL_combine_57 rfl ?_
      refine r_if_eq (tgt := 93) dL_combine_58 (by decide) (fun q => absurd (show w32 1 = 0 from q) (by decide)) (fun _ => ?_)
      refine r_aload_n 0 4 rfl dL_combine_61 rfl ?_
      refine q_getR 1 c18 fL_15 rfl rfl (g18_1 sw) (by decide) dL_combine_62 ?_
      refine r_iload 4 2 rfl dL_combine_65 ?_
      refine r_iload_n 1 5 rfl dL_combine_67 rfl ?_
      refine r_bipush (by decide) dL_combine_68 ?_
      refine r_ifc_ne (tgt := 79) dL_combine_70 (by decide) (fun hc => ?_) (fun hc => ?_)
      · replace h := h.1 hc
        refine r_iload 5 1 rfl dL_combine_79 ?_
        refine r_if_ne (tgt := 88) dL_combine_81 (by decide) (fun hc => ?_) (fun hc => ?_)
        · replace h := h.1 hc
          refine r_iconst dL_combine_88 ?_
          refine q_iastore (w32 (a2 - 1)) rfl c20 h.1 dL_combine_89 ?_
          replace h := h.2
          refine r_goto (tgt := 108) dL_combine_90 (by decide) ?_
          refine r_iload 4 2 rfl dL_combine_108 ?_
          refine r_iconst dL_combine_110 ?_
          refine r_iadd dL_combine_111 ?_
          exact q_iret rfl h dL_combine_112
        · replace h := h.2 hc
          refine r_iconst dL_combine_84 ?_
          refine r_goto (tgt := 89) dL_combine_85 (by decide) ?_
          refine q_iastore (w32 (a2 - 1)) rfl c20 h.1 dL_combine_89 ?_
          replace h := h.2
          refine r_goto (tgt := 108) dL_combine_90 (by decide) ?_
          refine r_iload 4 2 rfl dL_combine_108 ?_
          refine r_iconst dL_combine_110 ?_
          refine r_iadd dL_combine_111 ?_
          exact q_iret rfl h dL_combine_112
      · replace h := h.2 hc
        refine r_iload 5 1 rfl dL_combine_73 ?_
        refine r_ineg dL_combine_75 ?_
        refine r_goto (tgt := 89) dL_combine_76 (by decide) ?_
        refine q_iastore (w32 (a2 - 1)) rfl c20 h.1 dL_combine_89 ?_
        replace h := h.2
        refine r_goto (tgt := 108) dL_combine_90 (by decide) ?_
        refine r_iload 4 2 rfl dL_combine_108 ?_
        refine r_iconst dL_combine_110 ?_
        refine r_iadd dL_combine_111 ?_
        exact q_iret rfl h dL_combine_112
    · replace h := h.2 hc
      refine r_iload_n 2 4 rfl dL_combine_36 rfl ?_
      exact q_iret rfl h dL_combine_37
  · replace h := h.2 hc
    refine r_iload_n 1 1 rfl dL_combine_6 rfl ?_
    refine r_bipush (by decide) dL_combine_7 ?_
    refine r_ifc_ne (tgt := 16) dL_combine_9 (by decide) (fun hc => ?_) (fun hc => ?_)
    · replace h := h.1 hc
      refine r_iconst dL_combine_16 ?_
      refine r_istore_n 3 (by decide) dL_combine_17 rfl ?_
      refine r_iload_n 2 3 rfl dL_combine_18 rfl ?_
      refine r_iload_n 3 0 rfl dL_combine_19 rfl ?_
      refine r_if_eq (tgt := 27) dL_combine_20 (by decide) (fun _ => ?_) (fun q => absurd (show w32 0 = 0 by decide) q)
      refine r_iconst dL_combine_27 ?_
      refine r_isub dL_combine_28 ?_
      refine r_istore 4 (by decide) dL_combine_29 ?_
      refine r_iload 4 0 rfl dL_combine_31 ?_
      refine r_if_ge (tgt := 38) dL_combine_33 (by decide) (fun hc => ?_) (fun hc => ?_)
      · replace h := h.1 hc
        refine r_aload_n 0 2 rfl dL_combine_38 rfl ?_
        refine q_getR 1 c18 fL_15 rfl rfl (g18_1 sw) (by decide) dL_combine_39 ?_
        refine r_iload 4 0 rfl dL_combine_42 ?_
        refine q_iaload (w32 (a2 - 2)) rfl c20 h.1 dL_combine_44 ?_
        replace h := h.2
        refine r_istore 5 (by decide) dL_combine_45 ?_
        refine r_aload_n 0 3 rfl dL_combine_47 rfl ?_
        refine q_getR 1 c18 fL_15 rfl rfl (g18_1 sw) (by decide) dL_combine_48 ?_
        refine r_iload_n 2 5 rfl dL_combine_51 rfl ?_
        refine r_iconst dL_combine_52 ?_
        refine r_isub dL_combine_53 ?_
        refine q_iaload (w32 (a2 - 1)) rfl c20 h.1 dL_combine_54 ?_
        replace h := h.2
        refine r_istore 6 (by decide) dL_combine_55 ?_
        refine r_iload_n 3 3 rfl dL_combine_57 rfl ?_
        refine r_if_eq (tgt := 93) dL_combine_58 (by decide) (fun _ => ?_) (fun q => absurd (show w32 0 = 0 by decide) q)
        refine r_aload_n 0 4 rfl dL_combine_93 rfl ?_
        refine q_getR 1 c18 fL_15 rfl rfl (g18_1 sw) (by decide) dL_combine_94 ?_
        refine r_iload 4 2 rfl dL_combine_97 ?_
        refine r_iload_n 1 5 rfl dL_combine_99 rfl ?_
        refine r_iload 5 1 rfl dL_combine_100 ?_
        refine r_iload 6 0 rfl dL_combine_102 ?_
        refine r_callSi [_, _, _] rfl oL_valueOf iL_valueOf yL_92 (by decide) ⟨Nat.le_refl _, Nat.le_refl _⟩ rfl (Nat.le_of_ble_eq_true rfl) dL_combine_104 h (fun z1 r1 m1 h => ?_)
        obtain ⟨sw1, rfl, h⟩ := h
        refine q_iastore (w32 (a2 - 2)) rfl c20 h.1 dL_combine_107 ?_
        replace h := h.2
        refine r_iload 4 2 rfl dL_combine_108 ?_
        refine r_iconst dL_combine_110 ?_
        refine r_iadd dL_combine_111 ?_
        exact q_iret rfl h dL_combine_112
      · replace h := h.2 hc
        refine r_iload_n 2 4 rfl dL_combine_36 rfl ?_
        exact q_iret rfl h dL_combine_37
    · replace h := h.2 hc
      refine r_iconst dL_combine_12 ?_
      refine r_goto (tgt := 17) dL_combine_13 (by decide) ?_
      refine r_istore_n 3 (by decide) dL_combine_17 rfl ?_
      refine r_iload_n 2 3 rfl dL_combine_18 rfl ?_
      refine r_iload_n 3 0 rfl dL_combine_19 rfl ?_
      refine r_if_eq (tgt := 27) dL_combine_20 (by decide) (fun q => absurd (show w32 1 = 0 from q) (by decide)) (fun _ => ?_)
      refine r_iconst dL_combine_23 ?_
      refine r_goto (tgt := 28) dL_combine_24 (by decide) ?_
      refine r_isub dL_combine_28 ?_
      refine r_istore 4 (by decide) dL_combine_29 ?_
      refine r_iload 4 0 rfl dL_combine_31 ?_
      refine r_if_ge (tgt := 38) dL_combine_33 (by decide) (fun hc => ?_) (fun hc => ?_)
      · replace h := h.1 hc
        refine r_aload_n 0 2 rfl dL_combine_38 rfl ?_
        refine q_getR 1 c18 fL_15 rfl rfl (g18_1 sw) (by decide) dL_combine_39 ?_
        refine r_iload 4 0 rfl dL_combine_42 ?_
        refine q_iaload (w32 (a2 - 1)) rfl c20 h.1 dL_combine_44 ?_
        replace h := h.2
        refine r_istore 5 (by decide) dL_combine_45 ?_
        refine r_aload_n 0 3 rfl dL_combine_47 rfl ?_
        refine q_getR 1 c18 fL_15 rfl rfl (g18_1 sw) (by decide) dL_combine_48 ?_
        refine r_iload_n 2 5 rfl dL_combine_51 rfl ?_
        refine r_iconst dL_combine_52 ?_
        refine r_isub dL_combine_53 ?_
        refine q_iaload (w32 (a2 - 1)) rfl c20 h.1 dL_combine_54 ?_
        replace h := h.2
        refine r_istore 6 (by decide) dL_combine_55 ?_
        refine r_iload_n 3 3 rfl dL_combine_57 rfl ?_
        refine r_if_eq (tgt := 93) dL_combine_58 (by decide) (fun q => absurd (show w32 1 = 0 from q) (by decide)) (fun _ => ?_)
        refine r_aload_n 0 4 rfl dL_combine_61 rfl ?_
        refine q_getR 1 c18 fL_15 rfl rfl (g18_1 sw) (by decide) dL_combine_62 ?_
        refine r_iload 4 2 rfl dL_combine_65 ?_
        refine r_iload_n 1 5 rfl dL_combine_67 rfl ?_
        refine r_bipush (by decide) dL_combine_68 ?_
        refine r_ifc_ne (tgt := 79) dL_combine_70 (by decide) (fun hc => ?_) (fun hc => ?_)
        · replace h := h.1 hc
          refine r_iload 5 1 rfl dL_combine_79 ?_
          refine r_if_ne (tgt := 88) dL_combine_81 (by decide) (fun hc => ?_) (fun hc => ?_)
          · replace h := h.1 hc
            refine r_iconst dL_combine_88 ?_
            refine q_iastore (w32 (a2 - 1)) rfl c20 h.1 dL_combine_89 ?_
            replace h := h.2
            refine r_goto (tgt := 108) dL_combine_90 (by decide) ?_
            refine r_iload 4 2 rfl dL_combine_108 ?_
            refine r_iconst dL_combine_110 ?_
            refine r_iadd dL_combine_111 ?_
            exact q_iret rfl h dL_combine_112
          · replace h := h.2 hc
            refine r_iconst dL_combine_84 ?_
            refine r_goto (tgt := 89) dL_combine_85 (by decide) ?_
            refine q_iastore (w32 (a2 - 1)) rfl c20 h.1 dL_combine_89 ?_
            replace h := h.2
            refine r_goto (tgt := 108) dL_combine_90 (by decide) ?_
            refine r_iload 4 2 rfl dL_combine_108 ?_
            refine r_iconst dL_combine_110 ?_
            refine r_iadd dL_combine_111 ?_
            exact q_iret rfl h dL_combine_112
        · replace h := h.2 hc
          refine r_iload 5 1 rfl dL_combine_73 ?_
          refine r_ineg dL_combine_75 ?_
          refine r_goto (tgt := 89) dL_combine_76 (by decide) ?_
          refine q_iastore (w32 (a2 - 1)) rfl c20 h.1 dL_combine_89 ?_
          replace h := h.2
          refine r_goto (tgt := 108) dL_combine_90 (by decide) ?_
          refine r_iload 4 2 rfl dL_combine_108 ?_
          refine r_iconst dL_combine_110 ?_
          refine r_iadd dL_combine_111 ?_
          exact q_iret rfl h dL_combine_112
      · replace h := h.2 hc
        refine r_iload_n 2 4 rfl dL_combine_36 rfl ?_
        exact q_iret rfl h dL_combine_37
theorem dL_valueOf_0 : decode mL_valueOf.2.1 0 = .ok (.iload_n 0, 1) := by decide +kernel
theorem dL_valueOf_1 : decode mL_valueOf.2.1 1 = .ok (.tableswitch 152 (-10) (-1) #[140, 128, 124, 120, 116, 105, 94, 83, 69, 55], 55) := by decide +kernel
theorem dL_valueOf_56 : decode mL_valueOf.2.1 56 = .ok (.iload_n 1, 1) := by decide +kernel
theorem dL_valueOf_57 : decode mL_valueOf.2.1 57 = .ok (.ifCond .ne 7, 3) := by decide +kernel
theorem dL_valueOf_60 : decode mL_valueOf.2.1 60 = .ok (.iload_n 2, 1) := by decide +kernel
theorem dL_valueOf_61 : decode mL_valueOf.2.1 61 = .ok (.ifCond .eq 7, 3) := by decide +kernel
theorem dL_valueOf_64 : decode mL_valueOf.2.1 64 = .ok (.iconst 1, 1) := by decide +kernel
theorem dL_valueOf_65 : decode mL_valueOf.2.1 65 = .ok (.goto 4, 3) := by decide +kernel
theorem dL_valueOf_68 : decode mL_valueOf.2.1 68 = .ok (.iconst 0, 1) := by decide +kernel
theorem dL_valueOf_69 : decode mL_valueOf.2.1 69 = .ok (.ireturn, 1) := by decide +kernel
theorem dL_valueOf_70 : decode mL_valueOf.2.1 70 = .ok (.iload_n 1, 1) := by decide +kernel
theorem dL_valueOf_71 : decode mL_valueOf.2.1 71 = .ok (.ifCond .eq 11, 3) := by decide +kernel
theorem dL_valueOf_74 : decode mL_valueOf.2.1 74 = .ok (.iload_n 2, 1) := by decide +kernel
theorem dL_valueOf_75 : decode mL_valueOf.2.1 75 = .ok (.ifCond .eq 7, 3) := by decide +kernel
theorem dL_valueOf_78 : decode mL_valueOf.2.1 78 = .ok (.iconst 1, 1) := by decide +kernel
theorem dL_valueOf_79 : decode mL_valueOf.2.1 79 = .ok (.goto 4, 3) := by decide +kernel
theorem dL_valueOf_82 : decode mL_valueOf.2.1 82 = .ok (.iconst 0, 1) := by decide +kernel
theorem dL_valueOf_83 : decode mL_valueOf.2.1 83 = .ok (.ireturn, 1) := by decide +kernel
theorem dL_valueOf_84 : decode mL_valueOf.2.1 84 = .ok (.iload_n 1, 1) := by decide +kernel
theorem dL_valueOf_85 : decode mL_valueOf.2.1 85 = .ok (.iload_n 2, 1) := by decide +kernel
theorem dL_valueOf_86 : decode mL_valueOf.2.1 86 = .ok (.if_icmp .ge 7, 3) := by decide +kernel
theorem dL_valueOf_89 : decode mL_valueOf.2.1 89 = .ok (.iconst 1, 1) := by decide +kernel
theorem dL_valueOf_90 : decode mL_valueOf.2.1 90 = .ok (.goto 4, 3) := by decide +kernel
theorem dL_valueOf_93 : decode mL_valueOf.2.1 93 = .ok (.iconst 0, 1) := by decide +kernel
theorem dL_valueOf_94 : decode mL_valueOf.2.1 94 = .ok (.ireturn, 1) := by decide +kernel
theorem dL_valueOf_95 : decode mL_valueOf.2.1 95 = .ok (.iload_n 1, 1) := by decide +kernel
theorem dL_valueOf_96 : decode mL_valueOf.2.1 96 = .ok (.iload_n 2, 1) := by decide +kernel
theorem dL_valueOf_97 : decode mL_valueOf.2.1 97 = .ok (.if_icmp .ne 7, 3) := by decide +kernel
theorem dL_valueOf_100 : decode mL_valueOf.2.1 100 = .ok (.iconst 1, 1) := by decide +kernel
theorem dL_valueOf_101 : decode mL_valueOf.2.1 101 = .ok (.goto 4, 3) := by decide +kernel
theorem dL_valueOf_104 : decode mL_valueOf.2.1 104 = .ok (.iconst 0, 1) := by decide +kernel
theorem dL_valueOf_105 : decode mL_valueOf.2.1 105 = .ok (.ireturn, 1) := by decide +kernel
theorem dL_valueOf_106 : decode mL_valueOf.2.1 106 = .ok (.iload_n 1, 1) := by decide +kernel
theorem dL_valueOf_107 : decode mL_valueOf.2.1 107 = .ok (.iload_n 2, 1) := by decide +kernel
theorem dL_valueOf_108 : decode mL_valueOf.2.1 108 = .ok (.if_icmp .le 7, 3) := by decide +kernel
theorem dL_valueOf_111 : decode mL_valueOf.2.1 111 = .ok (.iconst 1, 1) := by decide +kernel
theorem dL_valueOf_112 : decode mL_valueOf.2.1 112 = .ok (.goto 4, 3) := by decide +kernel
theorem dL_valueOf_115 : decode mL_valueOf.2.1 115 = .ok (.iconst 0, 1) := by decide +kernel
theorem dL_valueOf_116 : decode mL_valueOf.2.1 116 = .ok (.ireturn, 1) := by decide +kernel
theorem dL_valueOf_117 : decode mL_valueOf.2.1 117 = .ok (.iload_n 1, 1) := by decide +kernel
theorem dL_valueOf_118 : decode mL_valueOf.2.1 118 = .ok (.iload_n 2, 1) := by decide +kernel
theorem dL_valueOf_119 : decode mL_valueOf.2.1 119 = .ok (.iadd, 1) := by decide +kernel
theorem dL_valueOf_120 : decode mL_valueOf.2.1 120 = .ok (.ireturn, 1) := by decide +kernel
theorem dL_valueOf_121 : decode mL_valueOf.2.1 121 = .ok (.iload_n 1, 1) := by decide +kernel
theorem dL_valueOf_122 : decode mL_valueOf.2.1 122 = .ok (.iload_n 2, 1) := by decide +kernel
theorem dL_valueOf_123 : decode mL_valueOf.2.1 123 = .ok (.isub, 1) := by decide +kernel
theorem dL_valueOf_124 : decode mL_valueOf.2.1 124 = .ok (.ireturn, 1) := by decide +kernel
theorem dL_valueOf_125 : decode mL_valueOf.2.1 125 = .ok (.iload_n 1, 1) := by decide +kernel
theorem dL_valueOf_126 : decode mL_valueOf.2.1 126 = .ok (.iload_n 2, 1) := by decide +kernel
theorem dL_valueOf_127 : decode mL_valueOf.2.1 127 = .ok (.imul, 1) := by decide +kernel
theorem dL_valueOf_128 : decode mL_valueOf.2.1 128 = .ok (.ireturn, 1) := by decide +kernel
theorem dL_valueOf_129 : decode mL_valueOf.2.1 129 = .ok (.iload_n 2, 1) := by decide +kernel
theorem dL_valueOf_130 : decode mL_valueOf.2.1 130 = .ok (.ifCond .ne 7, 3) := by decide +kernel
theorem dL_valueOf_133 : decode mL_valueOf.2.1 133 = .ok (.iconst 0, 1) := by decide +kernel
theorem dL_valueOf_134 : decode mL_valueOf.2.1 134 = .ok (.goto 6, 3) := by decide +kernel
theorem dL_valueOf_137 : decode mL_valueOf.2.1 137 = .ok (.iload_n 1, 1) := by decide +kernel
theorem dL_valueOf_138 : decode mL_valueOf.2.1 138 = .ok (.iload_n 2, 1) := by decide +kernel
theorem dL_valueOf_139 : decode mL_valueOf.2.1 139 = .ok (.idiv, 1) := by decide +kernel
theorem dL_valueOf_140 : decode mL_valueOf.2.1 140 = .ok (.ireturn, 1) := by decide +kernel
theorem dL_valueOf_141 : decode mL_valueOf.2.1 141 = .ok (.iload_n 2, 1) := by decide +kernel
theorem dL_valueOf_142 : decode mL_valueOf.2.1 142 = .ok (.ifCond .ne 7, 3) := by decide +kernel
theorem dL_valueOf_145 : decode mL_valueOf.2.1 145 = .ok (.iconst 0, 1) := by decide +kernel
theorem dL_valueOf_146 : decode mL_valueOf.2.1 146 = .ok (.goto 6, 3) := by decide +kernel
theorem dL_valueOf_149 : decode mL_valueOf.2.1 149 = .ok (.iload_n 1, 1) := by decide +kernel
theorem dL_valueOf_150 : decode mL_valueOf.2.1 150 = .ok (.iload_n 2, 1) := by decide +kernel
theorem dL_valueOf_151 : decode mL_valueOf.2.1 151 = .ok (.irem, 1) := by decide +kernel
theorem dL_valueOf_152 : decode mL_valueOf.2.1 152 = .ok (.ireturn, 1) := by decide +kernel
theorem dL_valueOf_153 : decode mL_valueOf.2.1 153 = .ok (.iconst 0, 1) := by decide +kernel
theorem dL_valueOf_154 : decode mL_valueOf.2.1 154 = .ok (.ireturn, 1) := by decide +kernel
/- L_valueOf: (III)I -/
set_option maxRecDepth 4000 in
theorem wL_valueOf {X : Cx} (a0 a1 a2 : Int) (sw : Bool) (m : Mem) (Q : Int → Bool → Mem → Prop) (h : ((w32 a0 = (-10) → ((¬ w32 a2 = 0 → (¬ w32 a2 = 0 ∧ Q (zrem a1 a2) sw m)) ∧ (¬ (¬ w32 a2 = 0) → Q 0 sw m))) ∧ ((w32 a0 = (-9) → ((¬ w32 a2 = 0 → (¬ w32 a2 = 0 ∧ Q (zdiv a1 a2) sw m)) ∧ (¬ (¬ w32 a2 = 0) → Q 0 sw m))) ∧ ((w32 a0 = (-8) → Q (a1 * a2) sw m) ∧ ((w32 a0 = (-7) → Q (a1 - a2) sw m) ∧ ((w32 a0 = (-6) → Q (a1 + a2) sw m) ∧ ((w32 a0 = (-5) → ((w32 a1 ≤ w32 a2 → Q 0 sw m) ∧ (¬ (w32 a1 ≤ w32 a2) → Q 1 sw m))) ∧ ((w32 a0 = (-4) → ((¬ w32 a1 = w32 a2 → Q 0 sw m) ∧ (¬ (¬ w32 a1 = w32 a2) → Q 1 sw m))) ∧ ((w32 a0 = (-3) → ((w32 a2 ≤ w32 a1 → Q 0 sw m) ∧ (¬ (w32 a2 ≤ w32 a1) → Q 1 sw m))) ∧ ((w32 a0 = (-2) → ((w32 a1 = 0 → Q 0 sw m) ∧ (¬ (w32 a1 = 0) → ((w32 a2 = 0 → Q 0 sw m) ∧ (¬ (w32 a2 = 0) → Q 1 sw m))))) ∧ ((w32 a0 = (-1) → ((¬ w32 a1 = 0 → Q 1 sw m) ∧ (¬ (¬ w32 a1 = 0) → ((w32 a2 = 0 → Q 0 sw m) ∧ (¬ (w32 a2 = 0) → Q 1 sw m))))) ∧ ((w32 a0 < -10 ∨ -1 < w32 a0) → Q 0 sw m)))))))))))) : M2 X 1 mL_valueOf [vi a0, vi a1, vi a2] sw m Q := by
  refine Mt.of pL_valueOf (Nat.le_of_ble_eq_true rfl) (Nat.le_refl _) ?_
  show R2 X 1 mL_valueOf 0 [(0, vi a0), (1, vi a1), (2, vi a2)] [] sw m Q
  refine r_iload_n 0 0 rfl dL_valueOf_0 rfl ?_
  by_cases hs0 : w32 a0 = (-10)
  · refine r_tabIn (off := 140) (tgt := 141) (-10) hs0 dL_valueOf_1 (by decide) (by decide) (by decide) (by decide) ?_
    replace h := h.1 hs0
    refine r_iload_n 2 2 rfl dL_valueOf_141 rfl ?_
    refine r_if_ne (tgt := 149) dL_valueOf_142 (by decide) (fun hc => ?_) (fun hc => ?_)
    · replace h := h.1 hc
      refine r_iload_n 1 1 rfl dL_valueOf_149 rfl ?_
      refine r_iload_n 2 2 rfl dL_valueOf_150 rfl ?_
      refine r_irem h.1 dL_valueOf_151 ?_
      replace h := h.2
      exact q_iret rfl h dL_valueOf_152
    · replace h := h.2 hc
      refine r_iconst dL_valueOf_145 ?_
      refine r_goto (tgt := 152) dL_valueOf_146 (by decide) ?_
      exact q_iret rfl h dL_valueOf_152
  · replace h := h.2
    by_cases hs1 : w32 a0 = (-9)
    · refine r_tabIn (off := 128) (tgt := 129) (-9) hs1 dL_valueOf_1 (by decide) (by decide) (by decide) (by decide) ?_
      replace h := h.1 hs1
      refine r_iload_n 2 2 rfl dL_valueOf_129 rfl ?_
      refine r_if_ne (tgt := 137) dL_valueOf_130 (by decide) (fun hc => ?_) (fun hc => ?_)
      · replace h := h.1 hc
        refine r_iload_n 1 1 rfl dL_valueOf_137 rfl ?_
        refine r_iload_n 2 2 rfl dL_valueOf_138 rfl ?_
        refine r_idiv h.1 dL_valueOf_139 ?_
        replace h := h.2
        exact q_iret rfl h dL_valueOf_140
      · replace h := h.2 hc
        refine r_iconst dL_valueOf_133 ?_
        refine r_goto (tgt := 140) dL_valueOf_134 (by decide) ?_
        exact q_iret rfl h dL_valueOf_140
    · replace h := h.2
      by_cases hs2 : w32 a0 = (-8)
      · refine r_tabIn (off := 124) (tgt := 125) (-8) hs2 dL_valueOf_1 (by decide) (by decide) (by decide) (by decide) ?_
        replace h := h.1 hs2
        refine r_iload_n 1 1 rfl dL_valueOf_125 rfl ?_
        refine r_iload_n 2 2 rfl dL_valueOf_126 rfl ?_
        refine r_imul dL_valueOf_127 ?_
        exact q_iret rfl h dL_valueOf_128
      · replace h := h.2
        by_cases hs3 : w32 a0 = (-7)
        · refine r_tabIn (off := 120) (tgt := 121) (-7) hs3 dL_valueOf_1 (by decide) (by decide) (by decide) (by decide) ?_
          replace h := h.1 hs3
          refine r_iload_n 1 1 rfl dL_valueOf_121 rfl ?_
          refine r_iload_n 2 2 rfl dL_valueOf_122 rfl ?_
          refine r_isub dL_valueOf_123 ?_
          exact q_iret rfl h dL_valueOf_124
        · replace h := h.2
          by_cases hs4 : w32 a0 = (-6)
          · refine r_tabIn (off := 116) (tgt := 117) (-6) hs4 dL_valueOf_1 (by decide) (by decide) (by decide) (by decide) ?_
            replace h := h.1 hs4
            refine r_iload_n 1 1 rfl dL_valueOf_117 rfl ?_
            refine r_iload_n 2 2 rfl dL_valueOf_118 rfl ?_
            refine r_iadd dL_valueOf_119 ?_
            exact q_iret rfl h dL_valueOf_120
          · replace h := h.2
            by_cases hs5 : w32 a0 = (-5)
            · refine r_tabIn (off := 105) (tgt := 106) (-5) hs5 dL_valueOf_1 (by decide) (by decide) (by decide) (by decide) ?_
              replace h := h.1 hs5
              refine r_iload_n 1 1 rfl dL_valueOf_106 rfl ?_
              refine r_iload_n 2 2 rfl dL_valueOf_107 rfl ?_
              refine r_ifc_le (tgt := 115) dL_valueOf_108 (by decide) (fun hc => ?_) (fun hc => ?_)
              · replace h := h.1 hc
                refine r_iconst dL_valueOf_115 ?_
                exact q_iret rfl h dL_valueOf_116
              · replace h := h.2 hc
                refine r_iconst dL_valueOf_111 ?_
                refine r_goto (tgt := 116) dL_valueOf_112 (by decide) ?_
                exact q_iret rfl h dL_valueOf_116
            · replace h := h.2
              by_cases hs6 : w32 a0 = (-4)
              · refine r_tabIn (off := 94) (tgt := 95) (-4) hs6 dL_valueOf_1 (by decide) (by decide) (by decide) (by decide) ?_
                replace h := h.1 hs6
                refine r_iload_n 1 1 rfl dL_valueOf_95 rfl ?_
                refine r_iload_n 2 2 rfl dL_valueOf_96 rfl ?_
                refine r_ifc_ne (tgt := 104) dL_valueOf_97 (by decide) (fun hc => ?_) (fun hc => ?_)
                · replace h := h.1 hc
                  refine r_iconst dL_valueOf_104 ?_
                  exact q_iret rfl h dL_valueOf_105
                · replace h := h.2 hc
                  refine r_iconst dL_valueOf_100 ?_
                  refine r_goto (tgt := 105) dL_valueOf_101 (by decide) ?_
                  exact q_iret rfl h dL_valueOf_105
              · replace h := h.2
                by_cases hs7 : w32 a0 = (-3)
                · refine r_tabIn (off := 83) (tgt := 84) (-3) hs7 dL_valueOf_1 (by decide) (by decide) (by decide) (by decide) ?_
                  replace h := h.1 hs7
                  refine r_iload_n 1 1 rfl dL_valueOf_84 rfl ?_
                  refine r_iload_n 2 2 rfl dL_valueOf_85 rfl ?_
                  refine r_ifc_ge (tgt := 93) dL_valueOf_86 (by decide) (fun hc => ?_) (fun hc => ?_)
                  · replace h := h.1 hc
                    refine r_iconst dL_valueOf_93 ?_
                    exact q_iret rfl h dL_valueOf_94
                  · replace h := h.2 hc
                    refine r_iconst dL_valueOf_89 ?_
                    refine r_goto (tgt := 94) dL_valueOf_90 (by decide) ?_
                    exact q_iret rfl h dL_valueOf_94
                · replace h := h.2
                  by_cases hs8 : w32 a0 = (-2)
                  · refine r_tabIn (off := 69) (tgt := 70) (-2) hs8 dL_valueOf_1 (by decide) (by decide) (by decide) (by decide) ?_
                    replace h := h.1 hs8
                    refine r_iload_n 1 1 rfl dL_valueOf_70 rfl ?_
                    refine r_if_eq (tgt := 82) dL_valueOf_71 (by decide) (fun hc => ?_) (fun hc => ?_)
                    · replace h := h.1 hc
                      refine r_iconst dL_valueOf_82 ?_
                      exact q_iret rfl h dL_valueOf_83
                    · replace h := h.2 hc
                      refine r_iload_n 2 2 rfl dL_valueOf_74 rfl ?_
                      refine r_if_eq (tgt := 82) dL_valueOf_75 (by decide) (fun hc => ?_) (fun hc => ?_)
                      · replace h := h.1 hc
                        refine r_iconst dL_valueOf_82 ?_
                        exact q_iret rfl h dL_valueOf_83
                      · replace h := h.2 hc
                        refine r_iconst dL_valueOf_78 ?_
                        refine r_goto (tgt := 83) dL_valueOf_79 (by decide) ?_
                        exact q_iret rfl h dL_valueOf_83
                  · replace h := h.2
                    by_cases hs9 : w32 a0 = (-1)
                    · refine r_tabIn (off := 55) (tgt := 56) (-1) hs9 dL_valueOf_1 (by decide) (by decide) (by decide) (by decide) ?_
                      replace h := h.1 hs9
                      refine r_iload_n 1 1 rfl dL_valueOf_56 rfl ?_
                      refine r_if_ne (tgt := 64) dL_valueOf_57 (by decide) (fun hc => ?_) (fun hc => ?_)
                      · replace h := h.1 hc
                        refine r_iconst dL_valueOf_64 ?_
                        refine r_goto (tgt := 69) dL_valueOf_65 (by decide) ?_
                        exact q_iret rfl h dL_valueOf_69
                      · replace h := h.2 hc
                        refine r_iload_n 2 2 rfl dL_valueOf_60 rfl ?_
                        refine r_if_eq (tgt := 68) dL_valueOf_61 (by decide) (fun hc => ?_) (fun hc => ?_)
                        · replace h := h.1 hc
                          refine r_iconst dL_valueOf_68 ?_
                          exact q_iret rfl h dL_valueOf_69
                        · replace h := h.2 hc
                          refine r_iconst dL_valueOf_64 ?_
                          refine r_goto (tgt := 69) dL_valueOf_65 (by decide) ?_
                          exact q_iret rfl h dL_valueOf_69
                    · replace h := h.2
                      have hq : w32 a0 < -10 ∨ -1 < w32 a0 := by omega
                      refine r_tabOut (tgt := 153) dL_valueOf_1 hq (by decide) ?_
                      replace h := h hq
                      refine r_iconst dL_valueOf_153 ?_
                      exact q_iret rfl h dL_valueOf_154
