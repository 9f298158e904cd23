theorem dT_think_0 : decode mT_think.2.1 0 = .ok (.aload_n 0, 1) := by decide +kernel
theorem dT_think_1 : decode mT_think.2.1 1 = .ok (.getfield 29, 3) := by decide +kernel
theorem dT_think_4 : decode mT_think.2.1 4 = .ok (.aload_n 0, 1) := by decide +kernel
theorem dT_think_5 : decode mT_think.2.1 5 = .ok (.getfield 33, 3) := by decide +kernel
theorem dT_think_8 : decode mT_think.2.1 8 = .ok (.getfield 41, 3) := by decide +kernel
theorem dT_think_11 : decode mT_think.2.1 11 = .ok (.if_icmp .ne 4, 3) := by decide +kernel
theorem dT_think_14 : decode mT_think.2.1 14 = .ok (.return_, 1) := by decide +kernel
theorem dT_think_15 : decode mT_think.2.1 15 = .ok (.aload_n 0, 1) := by decide +kernel
theorem dT_think_16 : decode mT_think.2.1 16 = .ok (.aload_n 0, 1) := by decide +kernel
theorem dT_think_17 : decode mT_think.2.1 17 = .ok (.getfield 33, 3) := by decide +kernel
theorem dT_think_20 : decode mT_think.2.1 20 = .ok (.getfield 41, 3) := by decide +kernel
theorem dT_think_23 : decode mT_think.2.1 23 = .ok (.putfield 29, 3) := by decide +kernel
theorem dT_think_26 : decode mT_think.2.1 26 = .ok (.aload_n 0, 1) := by decide +kernel
theorem dT_think_27 : decode mT_think.2.1 27 = .ok (.getfield 37, 3) := by decide +kernel
theorem dT_think_30 : decode mT_think.2.1 30 = .ok (.invokevirtual 46, 3) := by decide +kernel
theorem dT_think_33 : decode mT_think.2.1 33 = .ok (.aload_n 0, 1) := by decide +kernel
theorem dT_think_34 : decode mT_think.2.1 34 = .ok (.lconst 1, 1) := by decide +kernel
theorem dT_think_35 : decode mT_think.2.1 35 = .ok (.putfield 25, 3) := by decide +kernel
theorem dT_think_38 : decode mT_think.2.1 38 = .ok (.iconst 0, 1) := by decide +kernel
theorem dT_think_39 : decode mT_think.2.1 39 = .ok (.istore_n 1, 1) := by decide +kernel
theorem dT_think_40 : decode mT_think.2.1 40 = .ok (.iload_n 1, 1) := by decide +kernel
theorem dT_think_41 : decode mT_think.2.1 41 = .ok (.aload_n 0, 1) := by decide +kernel
theorem dT_think_42 : decode mT_think.2.1 42 = .ok (.getfield 33, 3) := by decide +kernel
theorem dT_think_45 : decode mT_think.2.1 45 = .ok (.getfield 51, 3) := by decide +kernel
theorem dT_think_48 : decode mT_think.2.1 48 = .ok (.if_icmp .ge 44, 3) := by decide +kernel
theorem dT_think_51 : decode mT_think.2.1 51 = .ok (.aload_n 0, 1) := by decide +kernel
theorem dT_think_52 : decode mT_think.2.1 52 = .ok (.getfield 9, 3) := by decide +kernel
theorem dT_think_55 : decode mT_think.2.1 55 = .ok (.iload_n 1, 1) := by decide +kernel
theorem dT_think_56 : decode mT_think.2.1 56 = .ok (.aload_n 0, 1) := by decide +kernel
theorem dT_think_57 : decode mT_think.2.1 57 = .ok (.getfield 33, 3) := by decide +kernel
theorem dT_think_60 : decode mT_think.2.1 60 = .ok (.iload_n 1, 1) := by decide +kernel
theorem dT_think_61 : decode mT_think.2.1 61 = .ok (.aload_n 0, 1) := by decide +kernel
theorem dT_think_62 : decode mT_think.2.1 62 = .ok (.getfield 33, 3) := by decide +kernel
theorem dT_think_65 : decode mT_think.2.1 65 = .ok (.iload_n 1, 1) := by decide +kernel
theorem dT_think_66 : decode mT_think.2.1 66 = .ok (.iconst 5, 1) := by decide +kernel
theorem dT_think_67 : decode mT_think.2.1 67 = .ok (.invokevirtual 54, 3) := by decide +kernel
theorem dT_think_70 : decode mT_think.2.1 70 = .ok (.invokevirtual 58, 3) := by decide +kernel
theorem dT_think_73 : decode mT_think.2.1 73 = .ok (.iastore, 1) := by decide +kernel
theorem dT_think_74 : decode mT_think.2.1 74 = .ok (.aload_n 0, 1) := by decide +kernel
theorem dT_think_75 : decode mT_think.2.1 75 = .ok (.dup, 1) := by decide +kernel
theorem dT_think_76 : decode mT_think.2.1 76 = .ok (.getfield 25, 3) := by decide +kernel
theorem dT_think_79 : decode mT_think.2.1 79 = .ok (.ldc2_w 60, 3) := by decide +kernel
theorem dT_think_82 : decode mT_think.2.1 82 = .ok (.lmul, 1) := by decide +kernel
theorem dT_think_83 : decode mT_think.2.1 83 = .ok (.putfield 25, 3) := by decide +kernel
theorem dT_think_86 : decode mT_think.2.1 86 = .ok (.iinc 1 1, 3) := by decide +kernel
theorem dT_think_89 : decode mT_think.2.1 89 = .ok (.goto (-49), 3) := by decide +kernel
theorem dT_think_92 : decode mT_think.2.1 92 = .ok (.aload_n 0, 1) := by decide +kernel
theorem dT_think_93 : decode mT_think.2.1 93 = .ok (.getfield 15, 3) := by decide +kernel
theorem dT_think_96 : decode mT_think.2.1 96 = .ok (.aload_n 0, 1) := by decide +kernel
theorem dT_think_97 : decode mT_think.2.1 97 = .ok (.getfield 9, 3) := by decide +kernel
theorem dT_think_100 : decode mT_think.2.1 100 = .ok (.aload_n 0, 1) := by decide +kernel
theorem dT_think_101 : decode mT_think.2.1 101 = .ok (.getfield 33, 3) := by decide +kernel
theorem dT_think_104 : decode mT_think.2.1 104 = .ok (.getfield 51, 3) := by decide +kernel
theorem dT_think_107 : decode mT_think.2.1 107 = .ok (.iconst (-1), 1) := by decide +kernel
theorem dT_think_108 : decode mT_think.2.1 108 = .ok (.invokestatic 62, 3) := by decide +kernel
theorem dT_think_111 : decode mT_think.2.1 111 = .ok (.aload_n 0, 1) := by decide +kernel
theorem dT_think_112 : decode mT_think.2.1 112 = .ok (.getfield 19, 3) := by decide +kernel
theorem dT_think_115 : decode mT_think.2.1 115 = .ok (.lconst 0, 1) := by decide +kernel
theorem dT_think_116 : decode mT_think.2.1 116 = .ok (.invokestatic 66, 3) := by decide +kernel
theorem dT_think_119 : decode mT_think.2.1 119 = .ok (.iconst 0, 1) := by decide +kernel
theorem dT_think_120 : decode mT_think.2.1 120 = .ok (.istore_n 1, 1) := by decide +kernel
theorem dT_think_121 : decode mT_think.2.1 121 = .ok (.iload_n 1, 1) := by decide +kernel
theorem dT_think_122 : decode mT_think.2.1 122 = .ok (.aload_n 0, 1) := by decide +kernel
theorem dT_think_123 : decode mT_think.2.1 123 = .ok (.getfield 37, 3) := by decide +kernel
theorem dT_think_126 : decode mT_think.2.1 126 = .ok (.getfield 72, 3) := by decide +kernel
theorem dT_think_129 : decode mT_think.2.1 129 = .ok (.if_icmp .ge 45, 3) := by decide +kernel
theorem dT_think_132 : decode mT_think.2.1 132 = .ok (.aload_n 0, 1) := by decide +kernel
theorem dT_think_133 : decode mT_think.2.1 133 = .ok (.getfield 37, 3) := by decide +kernel
theorem dT_think_136 : decode mT_think.2.1 136 = .ok (.getfield 75, 3) := by decide +kernel
theorem dT_think_139 : decode mT_think.2.1 139 = .ok (.iload_n 1, 1) := by decide +kernel
theorem dT_think_140 : decode mT_think.2.1 140 = .ok (.iaload, 1) := by decide +kernel
theorem dT_think_141 : decode mT_think.2.1 141 = .ok (.istore_n 2, 1) := by decide +kernel
theorem dT_think_142 : decode mT_think.2.1 142 = .ok (.iload_n 2, 1) := by decide +kernel
theorem dT_think_143 : decode mT_think.2.1 143 = .ok (.ifCond .lt 25, 3) := by decide +kernel
theorem dT_think_146 : decode mT_think.2.1 146 = .ok (.iload_n 2, 1) := by decide +kernel
theorem dT_think_147 : decode mT_think.2.1 147 = .ok (.sipush 540, 3) := by decide +kernel
theorem dT_think_150 : decode mT_think.2.1 150 = .ok (.if_icmp .gt 18, 3) := by decide +kernel
theorem dT_think_153 : decode mT_think.2.1 153 = .ok (.aload_n 0, 1) := by decide +kernel
theorem dT_think_154 : decode mT_think.2.1 154 = .ok (.getfield 19, 3) := by decide +kernel
theorem dT_think_157 : decode mT_think.2.1 157 = .ok (.iload_n 2, 1) := by decide +kernel
theorem dT_think_158 : decode mT_think.2.1 158 = .ok (.dup2, 1) := by decide +kernel
theorem dT_think_159 : decode mT_think.2.1 159 = .ok (.laload, 1) := by decide +kernel
theorem dT_think_160 : decode mT_think.2.1 160 = .ok (.aload_n 0, 1) := by decide +kernel
theorem dT_think_161 : decode mT_think.2.1 161 = .ok (.getfield 15, 3) := by decide +kernel
theorem dT_think_164 : decode mT_think.2.1 164 = .ok (.iload_n 1, 1) := by decide +kernel
theorem dT_think_165 : decode mT_think.2.1 165 = .ok (.laload, 1) := by decide +kernel
theorem dT_think_166 : decode mT_think.2.1 166 = .ok (.ladd, 1) := by decide +kernel
theorem dT_think_167 : decode mT_think.2.1 167 = .ok (.lastore, 1) := by decide +kernel
theorem dT_think_168 : decode mT_think.2.1 168 = .ok (.iinc 1 1, 3) := by decide +kernel
theorem dT_think_171 : decode mT_think.2.1 171 = .ok (.goto (-50), 3) := by decide +kernel
theorem dT_think_174 : decode mT_think.2.1 174 = .ok (.aload_n 0, 1) := by decide +kernel
theorem dT_think_175 : decode mT_think.2.1 175 = .ok (.invokevirtual 78, 3) := by decide +kernel
theorem dT_think_178 : decode mT_think.2.1 178 = .ok (.return_, 1) := by decide +kernel
/- T_think: ()V -/
set_option maxRecDepth 4000 in
theorem wT_think {X : Cx} (sw : Bool) (m : Mem) (Q : Int → Bool → Mem → Prop) (h : ((¬ w32 (m 37 8) = w32 (m 2 4) → M2 X 5 mP_follow [vr 23] sw (upm m 37 8 (m 2 4)) (fun z1 sw1 m1 => R2 X 6 mT_think 40 [(0, vr 37), (1, vi 0)] [] sw1 (upm m1 37 7 1) Q)) ∧ (¬ (¬ w32 (m 37 8) = w32 (m 2 4)) → Q 0 sw m))) : M2 X 6 mT_think [vr 37] sw m Q := by
  refine Mt.of pT_think (Nat.le_of_ble_eq_true rfl) (Nat.le_refl _) ?_
  show R2 X 6 mT_think 0 [(0, vr 37)] [] sw m Q
  refine r_aload_n 0 0 rfl dT_think_0 rfl ?_
  refine q_getI 8 c37 fT_29 rfl rfl dT_think_1 ?_
  refine r_aload_n 0 0 rfl dT_think_4 rfl ?_
  refine q_getR 0 c37 fT_33 rfl rfl (g37_0 sw) (by decide) dT_think_5 ?_
  refine q_getI 4 c2 fT_41 rfl rfl dT_think_8 ?_
  refine r_ifc_ne (tgt := 15) dT_think_11 (by decide) (fun hc => ?_) (fun hc => ?_)
  · replace h := h.1 hc
    refine r_aload_n 0 0 rfl dT_think_15 rfl ?_
    refine r_aload_n 0 0 rfl dT_think_16 rfl ?_
    refine q_getR 0 c37 fT_33 rfl rfl (g37_0 sw) (by decide) dT_think_17 ?_
    refine q_getI 4 c2 fT_41 rfl rfl dT_think_20 ?_
    refine q_putI 8 c37 pfT_29 rfl rfl dT_think_23 ?_
    refine r_aload_n 0 0 rfl dT_think_26 rfl ?_
    refine q_getR 1 c37 fT_37 rfl rfl (g37_1 sw) (by decide) dT_think_27 ?_
    refine r_callVv 3 [] rfl c23 rfl rfl oP_follow iP_follow sP_follow yT_46 (by decide) ⟨Nat.le_refl _, Nat.le_refl _⟩ rfl (Nat.le_of_ble_eq_true rfl) dT_think_30 h (fun z1 r1 m1 h => ?_)
    obtain ⟨sw1, rfl, h⟩ := h
    refine r_aload_n 0 0 rfl dT_think_33 rfl ?_
    refine r_lconst dT_think_34 ?_
    refine q_putL 7 c37 pfT_25 rfl rfl dT_think_35 ?_
    refine r_iconst dT_think_38 ?_
    refine r_istore_n 1 (by decide) dT_think_39 rfl ?_
    refine r_sub [1, 0] ?_ h
    rfl
  · replace h := h.2 hc
    exact q_vret rfl h dT_think_14
set_option maxRecDepth 4000 in
theorem wT_think_40 {X : Cx} (x1 : Int) (sw : Bool) (m : Mem) (Q : Int → Bool → Mem → Prop) (h : ((w32 (m 2 3) ≤ w32 x1 → M2 X 1 mT_weigh [vr 39, vr 38, vi (m 2 3), vi (-1)] sw m (fun z1 sw1 m1 => M2 X 1 mJ_fill [vr 40, vl 0] sw1 m1 (fun z2 sw2 m2 => R2 X 6 mT_think 121 [(0, vr 37), (1, vi 0)] [] sw2 m2 Q))) ∧ (¬ (w32 (m 2 3) ≤ w32 x1) → M2 X 2 mK_told [vr 2, vi x1, vi 5] sw m (fun z3 sw3 m3 => M2 X 4 mK_twelfths [vr 2, vi x1, vi z3] sw3 m3 (fun z4 sw4 m4 => ((0 ≤ w32 x1 ∧ w32 x1 < 9) ∧ R2 X 6 mT_think 40 [(0, vr 37), (1, vi (x1 + 1))] [] sw4 (upm (upm m4 38 (w32 x1) z4) 37 7 ((m4 37 7) * 12)) Q)))))) : R2 X 6 mT_think 40 [(0, vr 37), (1, vi x1)] [] sw m Q := by
  refine r_iload_n 1 1 rfl dT_think_40 rfl ?_
  refine r_aload_n 0 0 rfl dT_think_41 rfl ?_
  refine q_getR 0 c37 fT_33 rfl rfl (g37_0 sw) (by decide) dT_think_42 ?_
  refine q_getI 3 c2 fT_51 rfl rfl dT_think_45 ?_
  refine r_ifc_ge (tgt := 92) dT_think_48 (by decide) (fun hc => ?_) (fun hc => ?_)
  · replace h := h.1 hc
    refine r_aload_n 0 0 rfl dT_think_92 rfl ?_
    refine q_getR 3 c37 fT_15 rfl rfl (g37_3 sw) (by decide) dT_think_93 ?_
    refine r_aload_n 0 0 rfl dT_think_96 rfl ?_
    refine q_getR 2 c37 fT_9 rfl rfl (g37_2 sw) (by decide) dT_think_97 ?_
    refine r_aload_n 0 0 rfl dT_think_100 rfl ?_
    refine q_getR 0 c37 fT_33 rfl rfl (g37_0 sw) (by decide) dT_think_101 ?_
    refine q_getI 3 c2 fT_51 rfl rfl dT_think_104 ?_
    refine r_iconst dT_think_107 ?_
    refine r_callSv [_, _, _, _] rfl oT_weigh iT_weigh yT_62 (by decide) ⟨Nat.le_refl _, Nat.le_refl _⟩ rfl (Nat.le_of_ble_eq_true rfl) dT_think_108 h (fun z1 r1 m1 h => ?_)
    obtain ⟨sw1, rfl, h⟩ := h
    refine r_aload_n 0 0 rfl dT_think_111 rfl ?_
    refine q_getR 4 c37 fT_19 rfl rfl (g37_4 sw1) (by decide) dT_think_112 ?_
    refine r_lconst dT_think_115 ?_
    refine r_callSv [_, _] rfl oJ_fill iJ_fill yT_66 (by decide) ⟨Nat.le_refl _, Nat.le_refl _⟩ rfl (Nat.le_of_ble_eq_true rfl) dT_think_116 h (fun z2 r2 m2 h => ?_)
    obtain ⟨sw2, rfl, h⟩ := h
    refine r_iconst dT_think_119 ?_
    refine r_istore_n 1 (by decide) dT_think_120 rfl ?_
    refine r_sub [1, 0] ?_ h
    rfl
  · replace h := h.2 hc
    refine r_aload_n 0 0 rfl dT_think_51 rfl ?_
    refine q_getR 2 c37 fT_9 rfl rfl (g37_2 sw) (by decide) dT_think_52 ?_
    refine r_iload_n 1 1 rfl dT_think_55 rfl ?_
    refine r_aload_n 0 0 rfl dT_think_56 rfl ?_
    refine q_getR 0 c37 fT_33 rfl rfl (g37_0 sw) (by decide) dT_think_57 ?_
    refine r_iload_n 1 1 rfl dT_think_60 rfl ?_
    refine r_aload_n 0 0 rfl dT_think_61 rfl ?_
    refine q_getR 0 c37 fT_33 rfl rfl (g37_0 sw) (by decide) dT_think_62 ?_
    refine r_iload_n 1 1 rfl dT_think_65 rfl ?_
    refine r_iconst dT_think_66 ?_
    refine r_callVi 1 [_, _] rfl c2 rfl rfl oK_told iK_told sK_told yT_54 (by decide) ⟨Nat.le_refl _, Nat.le_refl _⟩ rfl (Nat.le_of_ble_eq_true rfl) dT_think_67 h (fun z3 r3 m3 h => ?_)
    obtain ⟨sw3, rfl, h⟩ := h
    refine r_callVi 1 [_, _] rfl c2 rfl rfl oK_twelfths iK_twelfths sK_twelfths yT_58 (by decide) ⟨Nat.le_refl _, Nat.le_refl _⟩ rfl (Nat.le_of_ble_eq_true rfl) dT_think_70 h (fun z4 r4 m4 h => ?_)
    obtain ⟨sw4, rfl, h⟩ := h
    refine q_iastore (w32 x1) rfl c38 h.1 dT_think_73 ?_
    replace h := h.2
    refine r_aload_n 0 0 rfl dT_think_74 rfl ?_
    refine r_dup (fun q => by cases q) dT_think_75 ?_
    refine q_getL 7 c37 fT_25 rfl rfl dT_think_76 ?_
    refine r_ldc2 (z := 12) dT_think_79 kT_60 ?_
    refine r_lmul dT_think_82 ?_
    refine q_putL 7 c37 pfT_25 rfl rfl dT_think_83 ?_
    refine r_iinc 1 1 rfl (by decide) dT_think_86 ?_
    refine r_goto (tgt := 40) dT_think_89 (by decide) ?_
    refine r_sub [1, 0] ?_ h
    rfl
set_option maxRecDepth 4000 in
theorem wT_think_121 {X : Cx} (x1 : Int) (sw : Bool) (m : Mem) (Q : Int → Bool → Mem → Prop) (h : ((w32 (m 23 5) ≤ w32 x1 → M2 X 1 mT_listEndings [vr 37] sw m (fun z1 sw1 m1 => Q 0 sw1 m1)) ∧ (¬ (w32 (m 23 5) ≤ w32 x1) → ((0 ≤ w32 x1 ∧ w32 x1 < 512) ∧ ((w32 (m 36 (w32 x1)) < 0 → R2 X 6 mT_think 121 [(0, vr 37), (1, vi (x1 + 1))] [] sw m Q) ∧ (¬ (w32 (m 36 (w32 x1)) < 0) → ((540 < w32 (m 36 (w32 x1)) → R2 X 6 mT_think 121 [(0, vr 37), (1, vi (x1 + 1))] [] sw m Q) ∧ (¬ (540 < w32 (m 36 (w32 x1))) → ((0 ≤ w32 (m 36 (w32 x1)) ∧ w32 (m 36 (w32 x1)) < 541) ∧ ((0 ≤ w32 x1 ∧ w32 x1 < 512) ∧ ((0 ≤ w32 (m 36 (w32 x1)) ∧ w32 (m 36 (w32 x1)) < 541) ∧ R2 X 6 mT_think 121 [(0, vr 37), (1, vi (x1 + 1))] [] sw (upm m 40 (w32 (m 36 (w32 x1))) ((m 40 (w32 (m 36 (w32 x1)))) + (m 39 (w32 x1)))) Q))))))))))) : R2 X 6 mT_think 121 [(0, vr 37), (1, vi x1)] [] sw m Q := by
  refine r_iload_n 1 1 rfl dT_think_121 rfl ?_
  refine r_aload_n 0 0 rfl dT_think_122 rfl ?_
  refine q_getR 1 c37 fT_37 rfl rfl (g37_1 sw) (by decide) dT_think_123 ?_
  refine q_getI 5 c23 fT_72 rfl rfl dT_think_126 ?_
  refine r_ifc_ge (tgt := 174) dT_think_129 (by decide) (fun hc => ?_) (fun hc => ?_)
  · replace h := h.1 hc
    refine r_aload_n 0 0 rfl dT_think_174 rfl ?_
    refine r_callVv 4 [] rfl c37 rfl rfl oT_listEndings iT_listEndings sT_listEndings yT_78 (by decide) ⟨Nat.le_refl _, Nat.le_refl _⟩ rfl (Nat.le_of_ble_eq_true rfl) dT_think_175 h (fun z1 r1 m1 h => ?_)
    obtain ⟨sw1, rfl, h⟩ := h
    exact q_vret rfl h dT_think_178
  · replace h := h.2 hc
    refine r_aload_n 0 0 rfl dT_think_132 rfl ?_
    refine q_getR 1 c37 fT_37 rfl rfl (g37_1 sw) (by decide) dT_think_133 ?_
    refine q_getR 4 c23 fT_75 rfl rfl (g23_4 sw) (by decide) dT_think_136 ?_
    refine r_iload_n 1 1 rfl dT_think_139 rfl ?_
    refine q_iaload (w32 x1) rfl c36 h.1 dT_think_140 ?_
    replace h := h.2
    refine r_istore_n 2 (by decide) dT_think_141 rfl ?_
    refine r_iload_n 2 0 rfl dT_think_142 rfl ?_
    refine r_if_lt (tgt := 168) dT_think_143 (by decide) (fun hc => ?_) (fun hc => ?_)
    · replace h := h.1 hc
      refine r_iinc 1 2 rfl (by decide) dT_think_168 ?_
      refine r_goto (tgt := 121) dT_think_171 (by decide) ?_
      refine r_sub [2, 0] ?_ h
      rfl
    · replace h := h.2 hc
      refine r_iload_n 2 0 rfl dT_think_146 rfl ?_
      refine r_sipush (by decide) dT_think_147 ?_
      refine r_ifc_gt (tgt := 168) dT_think_150 (by decide) (fun hc => ?_) (fun hc => ?_)
      · replace h := h.1 hc
        refine r_iinc 1 2 rfl (by decide) dT_think_168 ?_
        refine r_goto (tgt := 121) dT_think_171 (by decide) ?_
        refine r_sub [2, 0] ?_ h
        rfl
      · replace h := h.2 hc
        refine r_aload_n 0 1 rfl dT_think_153 rfl ?_
        refine q_getR 4 c37 fT_19 rfl rfl (g37_4 sw) (by decide) dT_think_154 ?_
        refine r_iload_n 2 0 rfl dT_think_157 rfl ?_
        refine r_dup2 (fun q => by cases q) (fun q => by cases q) dT_think_158 ?_
        refine q_laload (w32 (m 36 (w32 x1))) rfl c40 h.1 dT_think_159 ?_
        replace h := h.2
        refine r_aload_n 0 1 rfl dT_think_160 rfl ?_
        refine q_getR 3 c37 fT_15 rfl rfl (g37_3 sw) (by decide) dT_think_161 ?_
        refine r_iload_n 1 2 rfl dT_think_164 rfl ?_
        refine q_laload (w32 x1) rfl c39 h.1 dT_think_165 ?_
        replace h := h.2
        refine r_ladd dT_think_166 ?_
        refine q_lastore (w32 (m 36 (w32 x1))) rfl c40 h.1 dT_think_167 ?_
        replace h := h.2
        refine r_iinc 1 2 rfl (by decide) dT_think_168 ?_
        refine r_goto (tgt := 121) dT_think_171 (by decide) ?_
        refine r_sub [2, 0] ?_ h
        rfl
theorem dT_listEndings_0 : decode mT_listEndings.2.1 0 = .ok (.aload_n 0, 1) := by decide +kernel
theorem dT_listEndings_1 : decode mT_listEndings.2.1 1 = .ok (.iconst 0, 1) := by decide +kernel
theorem dT_listEndings_2 : decode mT_listEndings.2.1 2 = .ok (.putfield 81, 3) := by decide +kernel
theorem dT_listEndings_5 : decode mT_listEndings.2.1 5 = .ok (.iconst 0, 1) := by decide +kernel
theorem dT_listEndings_6 : decode mT_listEndings.2.1 6 = .ok (.istore_n 1, 1) := by decide +kernel
theorem dT_listEndings_7 : decode mT_listEndings.2.1 7 = .ok (.iload_n 1, 1) := by decide +kernel
theorem dT_listEndings_8 : decode mT_listEndings.2.1 8 = .ok (.sipush 540, 3) := by decide +kernel
theorem dT_listEndings_11 : decode mT_listEndings.2.1 11 = .ok (.if_icmp .gt 52, 3) := by decide +kernel
theorem dT_listEndings_14 : decode mT_listEndings.2.1 14 = .ok (.aload_n 0, 1) := by decide +kernel
theorem dT_listEndings_15 : decode mT_listEndings.2.1 15 = .ok (.getfield 81, 3) := by decide +kernel
theorem dT_listEndings_18 : decode mT_listEndings.2.1 18 = .ok (.aload_n 0, 1) := by decide +kernel
theorem dT_listEndings_19 : decode mT_listEndings.2.1 19 = .ok (.getfield 22, 3) := by decide +kernel
theorem dT_listEndings_22 : decode mT_listEndings.2.1 22 = .ok (.arraylength, 1) := by decide +kernel
theorem dT_listEndings_23 : decode mT_listEndings.2.1 23 = .ok (.if_icmp .ge 40, 3) := by decide +kernel
theorem dT_listEndings_26 : decode mT_listEndings.2.1 26 = .ok (.aload_n 0, 1) := by decide +kernel
theorem dT_listEndings_27 : decode mT_listEndings.2.1 27 = .ok (.getfield 19, 3) := by decide +kernel
theorem dT_listEndings_30 : decode mT_listEndings.2.1 30 = .ok (.iload_n 1, 1) := by decide +kernel
theorem dT_listEndings_31 : decode mT_listEndings.2.1 31 = .ok (.laload, 1) := by decide +kernel
theorem dT_listEndings_32 : decode mT_listEndings.2.1 32 = .ok (.lconst 0, 1) := by decide +kernel
theorem dT_listEndings_33 : decode mT_listEndings.2.1 33 = .ok (.lcmp, 1) := by decide +kernel
theorem dT_listEndings_34 : decode mT_listEndings.2.1 34 = .ok (.ifCond .le 23, 3) := by decide +kernel
theorem dT_listEndings_37 : decode mT_listEndings.2.1 37 = .ok (.aload_n 0, 1) := by decide +kernel
theorem dT_listEndings_38 : decode mT_listEndings.2.1 38 = .ok (.getfield 22, 3) := by decide +kernel
theorem dT_listEndings_41 : decode mT_listEndings.2.1 41 = .ok (.aload_n 0, 1) := by decide +kernel
theorem dT_listEndings_42 : decode mT_listEndings.2.1 42 = .ok (.getfield 81, 3) := by decide +kernel
theorem dT_listEndings_45 : decode mT_listEndings.2.1 45 = .ok (.iload_n 1, 1) := by decide +kernel
theorem dT_listEndings_46 : decode mT_listEndings.2.1 46 = .ok (.iastore, 1) := by decide +kernel
theorem dT_listEndings_47 : decode mT_listEndings.2.1 47 = .ok (.aload_n 0, 1) := by decide +kernel
theorem dT_listEndings_48 : decode mT_listEndings.2.1 48 = .ok (.dup, 1) := by decide +kernel
theorem dT_listEndings_49 : decode mT_listEndings.2.1 49 = .ok (.getfield 81, 3) := by decide +kernel
theorem dT_listEndings_52 : decode mT_listEndings.2.1 52 = .ok (.iconst 1, 1) := by decide +kernel
theorem dT_listEndings_53 : decode mT_listEndings.2.1 53 = .ok (.iadd, 1) := by decide +kernel
theorem dT_listEndings_54 : decode mT_listEndings.2.1 54 = .ok (.putfield 81, 3) := by decide +kernel
theorem dT_listEndings_57 : decode mT_listEndings.2.1 57 = .ok (.iinc 1 1, 3) := by decide +kernel
theorem dT_listEndings_60 : decode mT_listEndings.2.1 60 = .ok (.goto (-53), 3) := by decide +kernel
theorem dT_listEndings_63 : decode mT_listEndings.2.1 63 = .ok (.return_, 1) := by decide +kernel
/- T_listEndings: ()V -/
set_option maxRecDepth 4000 in
theorem wT_listEndings {X : Cx} (sw : Bool) (m : Mem) (Q : Int → Bool → Mem → Prop) (h : R2 X 1 mT_listEndings 7 [(0, vr 37), (1, vi 0)] [] sw (upm m 37 6 0) Q) : M2 X 1 mT_listEndings [vr 37] sw m Q := by
  refine Mt.of pT_listEndings (Nat.le_of_ble_eq_true rfl) (Nat.le_refl _) ?_
  show R2 X 1 mT_listEndings 0 [(0, vr 37)] [] sw m Q
  refine r_aload_n 0 0 rfl dT_listEndings_0 rfl ?_
  refine r_iconst dT_listEndings_1 ?_
  refine q_putI 6 c37 pfT_81 rfl rfl dT_listEndings_2 ?_
  refine r_iconst dT_listEndings_5 ?_
  refine r_istore_n 1 (by decide) dT_listEndings_6 rfl ?_
  refine r_sub [1, 0] ?_ h
  rfl
set_option maxRecDepth 4000 in
theorem wT_listEndings_7 {X : Cx} (x1 : Int) (sw : Bool) (m : Mem) (Q : Int → Bool → Mem → Prop) (h : ((540 < w32 x1 → Q 0 sw m) ∧ (¬ (540 < w32 x1) → ((512 ≤ w32 (m 37 6) → Q 0 sw m) ∧ (¬ (512 ≤ w32 (m 37 6)) → ((0 ≤ w32 x1 ∧ w32 x1 < 541) ∧ ((w64 (m 40 (w32 x1)) ≤ 0 → R2 X 1 mT_listEndings 7 [(0, vr 37), (1, vi (x1 + 1))] [] sw m Q) ∧ (¬ (w64 (m 40 (w32 x1)) ≤ 0) → ((0 ≤ w32 (m 37 6) ∧ w32 (m 37 6) < 512) ∧ R2 X 1 mT_listEndings 7 [(0, vr 37), (1, vi (x1 + 1))] [] sw (upm (upm m 41 (w32 (m 37 6)) x1) 37 6 ((m 37 6) + 1)) Q))))))))) : R2 X 1 mT_listEndings 7 [(0, vr 37), (1, vi x1)] [] sw m Q := by
  refine r_iload_n 1 1 rfl dT_listEndings_7 rfl ?_
  refine r_sipush (by decide) dT_listEndings_8 ?_
  refine r_ifc_gt (tgt := 63) dT_listEndings_11 (by decide) (fun hc => ?_) (fun hc => ?_)
  · replace h := h.1 hc
    exact q_vret rfl h dT_listEndings_63
  · replace h := h.2 hc
    refine r_aload_n 0 0 rfl dT_listEndings_14 rfl ?_
    refine q_getI 6 c37 fT_81 rfl rfl dT_listEndings_15 ?_
    refine r_aload_n 0 0 rfl dT_listEndings_18 rfl ?_
    refine q_getR 5 c37 fT_22 rfl rfl (g37_5 sw) (by decide) dT_listEndings_19 ?_
    refine r_alen (by decide) c41 dT_listEndings_22 ?_
    refine r_ifc_ge (tgt := 63) dT_listEndings_23 (by decide) (fun hc => ?_) (fun hc => ?_)
    · replace h := h.1 hc
      exact q_vret rfl h dT_listEndings_63
    · replace h := h.2 hc
      refine r_aload_n 0 0 rfl dT_listEndings_26 rfl ?_
      refine q_getR 4 c37 fT_19 rfl rfl (g37_4 sw) (by decide) dT_listEndings_27 ?_
      refine r_iload_n 1 1 rfl dT_listEndings_30 rfl ?_
      refine q_laload (w32 x1) rfl c40 h.1 dT_listEndings_31 ?_
      replace h := h.2
      refine r_lconst dT_listEndings_32 ?_
      refine q_lc_le (tgt := 57) (A := w64 (m 40 (w32 x1))) (B := 0) rfl (by decide +kernel) dT_listEndings_33 dT_listEndings_34 (by decide) (fun hc => ?_) (fun hc => ?_)
      · replace h := h.1 hc
        refine r_iinc 1 1 rfl (by decide) dT_listEndings_57 ?_
        refine r_goto (tgt := 7) dT_listEndings_60 (by decide) ?_
        refine r_sub [1, 0] ?_ h
        rfl
      · replace h := h.2 hc
        refine r_aload_n 0 0 rfl dT_listEndings_37 rfl ?_
        refine q_getR 5 c37 fT_22 rfl rfl (g37_5 sw) (by decide) dT_listEndings_38 ?_
        refine r_aload_n 0 0 rfl dT_listEndings_41 rfl ?_
        refine q_getI 6 c37 fT_81 rfl rfl dT_listEndings_42 ?_
        refine r_iload_n 1 1 rfl dT_listEndings_45 rfl ?_
        refine q_iastore (w32 (m 37 6)) rfl c41 h.1 dT_listEndings_46 ?_
        replace h := h.2
        refine r_aload_n 0 0 rfl dT_listEndings_47 rfl ?_
        refine r_dup (fun q => by cases q) dT_listEndings_48 ?_
        refine q_getI 6 c37 fT_81 rfl rfl dT_listEndings_49 ?_
        refine r_iconst dT_listEndings_52 ?_
        refine r_iadd dT_listEndings_53 ?_
        refine q_putI 6 c37 pfT_81 rfl rfl dT_listEndings_54 ?_
        refine r_iinc 1 1 rfl (by decide) dT_listEndings_57 ?_
        refine r_goto (tgt := 7) dT_listEndings_60 (by decide) ?_
        refine r_sub [1, 0] ?_ h
        rfl
theorem dT_weigh_0 : decode mT_weigh.2.1 0 = .ok (.aload_n 0, 1) := by decide +kernel
theorem dT_weigh_1 : decode mT_weigh.2.1 1 = .ok (.iconst 0, 1) := by decide +kernel
theorem dT_weigh_2 : decode mT_weigh.2.1 2 = .ok (.lconst 1, 1) := by decide +kernel
theorem dT_weigh_3 : decode mT_weigh.2.1 3 = .ok (.lastore, 1) := by decide +kernel
theorem dT_weigh_4 : decode mT_weigh.2.1 4 = .ok (.iconst 0, 1) := by decide +kernel
theorem dT_weigh_5 : decode mT_weigh.2.1 5 = .ok (.istore 4, 2) := by decide +kernel
theorem dT_weigh_7 : decode mT_weigh.2.1 7 = .ok (.iload 4, 2) := by decide +kernel
theorem dT_weigh_9 : decode mT_weigh.2.1 9 = .ok (.iload_n 2, 1) := by decide +kernel
theorem dT_weigh_10 : decode mT_weigh.2.1 10 = .ok (.if_icmp .ge 100, 3) := by decide +kernel
theorem dT_weigh_13 : decode mT_weigh.2.1 13 = .ok (.iload 4, 2) := by decide +kernel
theorem dT_weigh_15 : decode mT_weigh.2.1 15 = .ok (.bipush 9, 2) := by decide +kernel
theorem dT_weigh_17 : decode mT_weigh.2.1 17 = .ok (.if_icmp .ge 93, 3) := by decide +kernel
theorem dT_weigh_20 : decode mT_weigh.2.1 20 = .ok (.iload 4, 2) := by decide +kernel
theorem dT_weigh_22 : decode mT_weigh.2.1 22 = .ok (.iload_n 3, 1) := by decide +kernel
theorem dT_weigh_23 : decode mT_weigh.2.1 23 = .ok (.if_icmp .ne 7, 3) := by decide +kernel
theorem dT_weigh_26 : decode mT_weigh.2.1 26 = .ok (.lconst 1, 1) := by decide +kernel
theorem dT_weigh_27 : decode mT_weigh.2.1 27 = .ok (.goto 8, 3) := by decide +kernel
theorem dT_weigh_30 : decode mT_weigh.2.1 30 = .ok (.aload_n 1, 1) := by decide +kernel
theorem dT_weigh_31 : decode mT_weigh.2.1 31 = .ok (.iload 4, 2) := by decide +kernel
theorem dT_weigh_33 : decode mT_weigh.2.1 33 = .ok (.iaload, 1) := by decide +kernel
theorem dT_weigh_34 : decode mT_weigh.2.1 34 = .ok (.i2l, 1) := by decide +kernel
theorem dT_weigh_35 : decode mT_weigh.2.1 35 = .ok (.lstore 5, 2) := by decide +kernel
theorem dT_weigh_37 : decode mT_weigh.2.1 37 = .ok (.iload 4, 2) := by decide +kernel
theorem dT_weigh_39 : decode mT_weigh.2.1 39 = .ok (.iload_n 3, 1) := by decide +kernel
theorem dT_weigh_40 : decode mT_weigh.2.1 40 = .ok (.if_icmp .ne 7, 3) := by decide +kernel
theorem dT_weigh_43 : decode mT_weigh.2.1 43 = .ok (.lconst 1, 1) := by decide +kernel
theorem dT_weigh_44 : decode mT_weigh.2.1 44 = .ok (.goto 11, 3) := by decide +kernel
theorem dT_weigh_47 : decode mT_weigh.2.1 47 = .ok (.bipush 12, 2) := by decide +kernel
theorem dT_weigh_49 : decode mT_weigh.2.1 49 = .ok (.aload_n 1, 1) := by decide +kernel
theorem dT_weigh_50 : decode mT_weigh.2.1 50 = .ok (.iload 4, 2) := by decide +kernel
theorem dT_weigh_52 : decode mT_weigh.2.1 52 = .ok (.iaload, 1) := by decide +kernel
theorem dT_weigh_53 : decode mT_weigh.2.1 53 = .ok (.isub, 1) := by decide +kernel
theorem dT_weigh_54 : decode mT_weigh.2.1 54 = .ok (.i2l, 1) := by decide +kernel
theorem dT_weigh_55 : decode mT_weigh.2.1 55 = .ok (.lstore 7, 2) := by decide +kernel
theorem dT_weigh_57 : decode mT_weigh.2.1 57 = .ok (.iconst 1, 1) := by decide +kernel
theorem dT_weigh_58 : decode mT_weigh.2.1 58 = .ok (.iload 4, 2) := by decide +kernel
theorem dT_weigh_60 : decode mT_weigh.2.1 60 = .ok (.ishl, 1) := by decide +kernel
theorem dT_weigh_61 : decode mT_weigh.2.1 61 = .ok (.istore 9, 2) := by decide +kernel
theorem dT_weigh_63 : decode mT_weigh.2.1 63 = .ok (.iconst 0, 1) := by decide +kernel
theorem dT_weigh_64 : decode mT_weigh.2.1 64 = .ok (.istore 10, 2) := by decide +kernel
theorem dT_weigh_66 : decode mT_weigh.2.1 66 = .ok (.iload 10, 2) := by decide +kernel
theorem dT_weigh_68 : decode mT_weigh.2.1 68 = .ok (.iload 9, 2) := by decide +kernel
theorem dT_weigh_70 : decode mT_weigh.2.1 70 = .ok (.if_icmp .ge 34, 3) := by decide +kernel
theorem dT_weigh_73 : decode mT_weigh.2.1 73 = .ok (.aload_n 0, 1) := by decide +kernel
theorem dT_weigh_74 : decode mT_weigh.2.1 74 = .ok (.iload 10, 2) := by decide +kernel
theorem dT_weigh_76 : decode mT_weigh.2.1 76 = .ok (.iload 9, 2) := by decide +kernel
theorem dT_weigh_78 : decode mT_weigh.2.1 78 = .ok (.iadd, 1) := by decide +kernel
theorem dT_weigh_79 : decode mT_weigh.2.1 79 = .ok (.aload_n 0, 1) := by decide +kernel
theorem dT_weigh_80 : decode mT_weigh.2.1 80 = .ok (.iload 10, 2) := by decide +kernel
theorem dT_weigh_82 : decode mT_weigh.2.1 82 = .ok (.laload, 1) := by decide +kernel
theorem dT_weigh_83 : decode mT_weigh.2.1 83 = .ok (.lload 5, 2) := by decide +kernel
theorem dT_weigh_85 : decode mT_weigh.2.1 85 = .ok (.lmul, 1) := by decide +kernel
theorem dT_weigh_86 : decode mT_weigh.2.1 86 = .ok (.lastore, 1) := by decide +kernel
theorem dT_weigh_87 : decode mT_weigh.2.1 87 = .ok (.aload_n 0, 1) := by decide +kernel
theorem dT_weigh_88 : decode mT_weigh.2.1 88 = .ok (.iload 10, 2) := by decide +kernel
theorem dT_weigh_90 : decode mT_weigh.2.1 90 = .ok (.aload_n 0, 1) := by decide +kernel
theorem dT_weigh_91 : decode mT_weigh.2.1 91 = .ok (.iload 10, 2) := by decide +kernel
theorem dT_weigh_93 : decode mT_weigh.2.1 93 = .ok (.laload, 1) := by decide +kernel
theorem dT_weigh_94 : decode mT_weigh.2.1 94 = .ok (.lload 7, 2) := by decide +kernel
theorem dT_weigh_96 : decode mT_weigh.2.1 96 = .ok (.lmul, 1) := by decide +kernel
theorem dT_weigh_97 : decode mT_weigh.2.1 97 = .ok (.lastore, 1) := by decide +kernel
theorem dT_weigh_98 : decode mT_weigh.2.1 98 = .ok (.iinc 10 1, 3) := by decide +kernel
theorem dT_weigh_101 : decode mT_weigh.2.1 101 = .ok (.goto (-35), 3) := by decide +kernel
theorem dT_weigh_104 : decode mT_weigh.2.1 104 = .ok (.iinc 4 1, 3) := by decide +kernel
theorem dT_weigh_107 : decode mT_weigh.2.1 107 = .ok (.goto (-100), 3) := by decide +kernel
theorem dT_weigh_110 : decode mT_weigh.2.1 110 = .ok (.return_, 1) := by decide +kernel
/- T_weigh: ([J[III)V -/
set_option maxRecDepth 4000 in
theorem wT_weigh {X : Cx} {k0 : Int} {N0 : Nat} (hk0 : isA NT k0 .long N0) {k1 : Int} {N1 : Nat} (hk1 : isA NT k1 .int N1) (a2 a3 : Int) (sw : Bool) (m : Mem) (Q : Int → Bool → Mem → Prop) (h : ((0 ≤ (0 : Int) ∧ (0 : Int) < N0) ∧ R2 X 1 mT_weigh 7 [(0, vr k0), (1, vr k1), (2, vi a2), (3, vi a3), (4, vi 0)] [] sw (upm m k0 0 1) Q)) : M2 X 1 mT_weigh [vr k0, vr k1, vi a2, vi a3] sw m Q := by
  refine Mt.of pT_weigh (Nat.le_of_ble_eq_true rfl) (Nat.le_refl _) ?_
  show R2 X 1 mT_weigh 0 [(0, vr k0), (1, vr k1), (2, vi a2), (3, vi a3)] [] sw m Q
  refine r_aload_n 0 0 rfl dT_weigh_0 rfl ?_
  refine r_iconst dT_weigh_1 ?_
  refine r_lconst dT_weigh_2 ?_
  refine q_lastore 0 rfl hk0 h.1 dT_weigh_3 ?_
  replace h := h.2
  refine r_iconst dT_weigh_4 ?_
  refine r_istore 4 (by decide) dT_weigh_5 ?_
  refine r_sub [1, 2, 3, 4, 0] ?_ h
  rfl
set_option maxRecDepth 4000 in
theorem wT_weigh_7 {X : Cx} {k0 : Int} {N0 : Nat} (hk0 : isA NT k0 .long N0) {k1 : Int} {N1 : Nat} (hk1 : isA NT k1 .int N1) (x2 x3 x4 : Int) (sw : Bool) (m : Mem) (Q : Int → Bool → Mem → Prop) (h : ((w32 x2 ≤ w32 x4 → Q 0 sw m) ∧ (¬ (w32 x2 ≤ w32 x4) → ((9 ≤ w32 x4 → Q 0 sw m) ∧ (¬ (9 ≤ w32 x4) → ((¬ w32 x4 = w32 x3 → ((0 ≤ w32 x4 ∧ w32 x4 < N1) ∧ ((¬ w32 x4 = w32 x3 → ((0 ≤ w32 x4 ∧ w32 x4 < N1) ∧ R2 X 1 mT_weigh 66 [(0, vr k0), (1, vr k1), (2, vi x2), (3, vi x3), (4, vi x4), (5, vl (w32 (m k1 (w32 x4)))), (7, vl (w32 (12 - (m k1 (w32 x4))))), (9, vi (zshl 1 x4)), (10, vi 0)] [] sw m Q)) ∧ (¬ (¬ w32 x4 = w32 x3) → R2 X 1 mT_weigh 66 [(0, vr k0), (1, vr k1), (2, vi x2), (3, vi x3), (4, vi x4), (5, vl (w32 (m k1 (w32 x4)))), (7, vl 1), (9, vi (zshl 1 x4)), (10, vi 0)] [] sw m Q)))) ∧ (¬ (¬ w32 x4 = w32 x3) → ((¬ w32 x4 = w32 x3 → ((0 ≤ w32 x4 ∧ w32 x4 < N1) ∧ R2 X 1 mT_weigh 66 [(0, vr k0), (1, vr k1), (2, vi x2), (3, vi x3), (4, vi x4), (5, vl 1), (7, vl (w32 (12 - (m k1 (w32 x4))))), (9, vi (zshl 1 x4)), (10, vi 0)] [] sw m Q)) ∧ (¬ (¬ w32 x4 = w32 x3) → R2 X 1 mT_weigh 66 [(0, vr k0), (1, vr k1), (2, vi x2), (3, vi x3), (4, vi x4), (5, vl 1), (7, vl 1), (9, vi (zshl 1 x4)), (10, vi 0)] [] sw m Q))))))))) : R2 X 1 mT_weigh 7 [(0, vr k0), (1, vr k1), (2, vi x2), (3, vi x3), (4, vi x4)] [] sw m Q := by
  refine r_iload 4 4 rfl dT_weigh_7 ?_
  refine r_iload_n 2 2 rfl dT_weigh_9 rfl ?_
  refine r_ifc_ge (tgt := 110) dT_weigh_10 (by decide) (fun hc => ?_) (fun hc => ?_)
  · replace h := h.1 hc
    exact q_vret rfl h dT_weigh_110
  · replace h := h.2 hc
    refine r_iload 4 4 rfl dT_weigh_13 ?_
    refine r_bipush (by decide) dT_weigh_15 ?_
    refine r_ifc_ge (tgt := 110) dT_weigh_17 (by decide) (fun hc => ?_) (fun hc => ?_)
    · replace h := h.1 hc
      exact q_vret rfl h dT_weigh_110
    · replace h := h.2 hc
      refine r_iload 4 4 rfl dT_weigh_20 ?_
      refine r_iload_n 3 3 rfl dT_weigh_22 rfl ?_
      refine r_ifc_ne (tgt := 30) dT_weigh_23 (by decide) (fun hc => ?_) (fun hc => ?_)
      · replace h := h.1 hc
        refine r_aload_n 1 1 rfl dT_weigh_30 rfl ?_
        refine r_iload 4 4 rfl dT_weigh_31 ?_
        refine q_iaload (w32 x4) rfl hk1 h.1 dT_weigh_33 ?_
        replace h := h.2
        refine r_i2l dT_weigh_34 ?_
        refine r_lstore 5 (by decide) dT_weigh_35 ?_
        refine r_iload 4 5 rfl dT_weigh_37 ?_
        refine r_iload_n 3 4 rfl dT_weigh_39 rfl ?_
        refine r_ifc_ne (tgt := 47) dT_weigh_40 (by decide) (fun hc => ?_) (fun hc => ?_)
        · replace h := h.1 hc
          refine r_bipush (by decide) dT_weigh_47 ?_
          refine r_aload_n 1 2 rfl dT_weigh_49 rfl ?_
          refine r_iload 4 5 rfl dT_weigh_50 ?_
          refine q_iaload (w32 x4) rfl hk1 h.1 dT_weigh_52 ?_
          replace h := h.2
          refine r_isub dT_weigh_53 ?_
          refine r_i2l dT_weigh_54 ?_
          refine r_lstore 7 (by decide) dT_weigh_55 ?_
          refine r_iconst dT_weigh_57 ?_
          refine r_iload 4 6 rfl dT_weigh_58 ?_
          refine r_ishl dT_weigh_60 ?_
          refine r_istore 9 (by decide) dT_weigh_61 ?_
          refine r_iconst dT_weigh_63 ?_
          refine r_istore 10 (by decide) dT_weigh_64 ?_
          refine r_sub [4, 5, 6, 7, 8, 3, 2, 1, 0] ?_ h
          rfl
        · replace h := h.2 hc
          refine r_lconst dT_weigh_43 ?_
          refine r_goto (tgt := 55) dT_weigh_44 (by decide) ?_
          refine r_lstore 7 (by decide) dT_weigh_55 ?_
          refine r_iconst dT_weigh_57 ?_
          refine r_iload 4 6 rfl dT_weigh_58 ?_
          refine r_ishl dT_weigh_60 ?_
          refine r_istore 9 (by decide) dT_weigh_61 ?_
          refine r_iconst dT_weigh_63 ?_
          refine r_istore 10 (by decide) dT_weigh_64 ?_
          refine r_sub [4, 5, 6, 7, 8, 3, 2, 1, 0] ?_ h
          rfl
      · replace h := h.2 hc
        refine r_lconst dT_weigh_26 ?_
        refine r_goto (tgt := 35) dT_weigh_27 (by decide) ?_
        refine r_lstore 5 (by decide) dT_weigh_35 ?_
        refine r_iload 4 5 rfl dT_weigh_37 ?_
        refine r_iload_n 3 4 rfl dT_weigh_39 rfl ?_
        refine r_ifc_ne (tgt := 47) dT_weigh_40 (by decide) (fun hc => ?_) (fun hc => ?_)
        · replace h := h.1 hc
          refine r_bipush (by decide) dT_weigh_47 ?_
          refine r_aload_n 1 2 rfl dT_weigh_49 rfl ?_
          refine r_iload 4 5 rfl dT_weigh_50 ?_
          refine q_iaload (w32 x4) rfl hk1 h.1 dT_weigh_52 ?_
          replace h := h.2
          refine r_isub dT_weigh_53 ?_
          refine r_i2l dT_weigh_54 ?_
          refine r_lstore 7 (by decide) dT_weigh_55 ?_
          refine r_iconst dT_weigh_57 ?_
          refine r_iload 4 6 rfl dT_weigh_58 ?_
          refine r_ishl dT_weigh_60 ?_
          refine r_istore 9 (by decide) dT_weigh_61 ?_
          refine r_iconst dT_weigh_63 ?_
          refine r_istore 10 (by decide) dT_weigh_64 ?_
          refine r_sub [4, 5, 6, 7, 8, 3, 2, 1, 0] ?_ h
          rfl
        · replace h := h.2 hc
          refine r_lconst dT_weigh_43 ?_
          refine r_goto (tgt := 55) dT_weigh_44 (by decide) ?_
          refine r_lstore 7 (by decide) dT_weigh_55 ?_
          refine r_iconst dT_weigh_57 ?_
          refine r_iload 4 6 rfl dT_weigh_58 ?_
          refine r_ishl dT_weigh_60 ?_
          refine r_istore 9 (by decide) dT_weigh_61 ?_
          refine r_iconst dT_weigh_63 ?_
          refine r_istore 10 (by decide) dT_weigh_64 ?_
          refine r_sub [4, 5, 6, 7, 8, 3, 2, 1, 0] ?_ h
          rfl
set_option maxRecDepth 4000 in
theorem wT_weigh_66 {X : Cx} {k0 : Int} {N0 : Nat} (hk0 : isA NT k0 .long N0) {k1 : Int} {N1 : Nat} (hk1 : isA NT k1 .int N1) (x2 x3 x4 x5 x7 x9 x10 : Int) (sw : Bool) (m : Mem) (Q : Int → Bool → Mem → Prop) (h : ((w32 x9 ≤ w32 x10 → R2 X 1 mT_weigh 7 [(0, vr k0), (1, vr k1), (2, vi x2), (3, vi x3), (4, vi (x4 + 1))] [] sw m Q) ∧ (¬ (w32 x9 ≤ w32 x10) → ((0 ≤ w32 x10 ∧ w32 x10 < N0) ∧ ((0 ≤ w32 (x10 + x9) ∧ w32 (x10 + x9) < N0) ∧ ((0 ≤ w32 x10 ∧ w32 x10 < N0) ∧ ((0 ≤ w32 x10 ∧ w32 x10 < N0) ∧ R2 X 1 mT_weigh 66 [(0, vr k0), (1, vr k1), (2, vi x2), (3, vi x3), (4, vi x4), (5, vl x5), (7, vl x7), (9, vi x9), (10, vi (x10 + 1))] [] sw (upm (upm m k0 (w32 (x10 + x9)) ((m k0 (w32 x10)) * x5)) k0 (w32 x10) (((upm m k0 (w32 (x10 + x9)) ((m k0 (w32 x10)) * x5)) k0 (w32 x10)) * x7)) Q))))))) : R2 X 1 mT_weigh 66 [(0, vr k0), (1, vr k1), (2, vi x2), (3, vi x3), (4, vi x4), (5, vl x5), (7, vl x7), (9, vi x9), (10, vi x10)] [] sw m Q := by
  refine r_iload 10 8 rfl dT_weigh_66 ?_
  refine r_iload 9 7 rfl dT_weigh_68 ?_
  refine r_ifc_ge (tgt := 104) dT_weigh_70 (by decide) (fun hc => ?_) (fun hc => ?_)
  · replace h := h.1 hc
    refine r_iinc 4 4 rfl (by decide) dT_weigh_104 ?_
    refine r_goto (tgt := 7) dT_weigh_107 (by decide) ?_
    refine r_sub [1, 2, 3, 4, 0] ?_ h
    rfl
  · replace h := h.2 hc
    refine r_aload_n 0 0 rfl dT_weigh_73 rfl ?_
    refine r_iload 10 8 rfl dT_weigh_74 ?_
    refine r_iload 9 7 rfl dT_weigh_76 ?_
    refine r_iadd dT_weigh_78 ?_
    refine r_aload_n 0 0 rfl dT_weigh_79 rfl ?_
    refine r_iload 10 8 rfl dT_weigh_80 ?_
    refine q_laload (w32 x10) rfl hk0 h.1 dT_weigh_82 ?_
    replace h := h.2
    refine r_lload 5 5 rfl dT_weigh_83 ?_
    refine r_lmul dT_weigh_85 ?_
    refine q_lastore (w32 (x10 + x9)) rfl hk0 h.1 dT_weigh_86 ?_
    replace h := h.2
    refine r_aload_n 0 0 rfl dT_weigh_87 rfl ?_
    refine r_iload 10 8 rfl dT_weigh_88 ?_
    refine r_aload_n 0 0 rfl dT_weigh_90 rfl ?_
    refine r_iload 10 8 rfl dT_weigh_91 ?_
    refine q_laload (w32 x10) rfl hk0 h.1 dT_weigh_93 ?_
    replace h := h.2
    refine r_lload 7 6 rfl dT_weigh_94 ?_
    refine r_lmul dT_weigh_96 ?_
    refine q_lastore (w32 x10) rfl hk0 h.1 dT_weigh_97 ?_
    replace h := h.2
    refine r_iinc 10 8 rfl (by decide) dT_weigh_98 ?_
    refine r_goto (tgt := 66) dT_weigh_101 (by decide) ?_
    refine r_sub [1, 2, 3, 4, 5, 6, 7, 8, 0] ?_ h
    rfl
theorem dT_oddsToGo_0 : decode mT_oddsToGo.2.1 0 = .ok (.lconst 0, 1) := by decide +kernel
theorem dT_oddsToGo_1 : decode mT_oddsToGo.2.1 1 = .ok (.lstore_n 2, 1) := by decide +kernel
theorem dT_oddsToGo_2 : decode mT_oddsToGo.2.1 2 = .ok (.iconst 0, 1) := by decide +kernel
theorem dT_oddsToGo_3 : decode mT_oddsToGo.2.1 3 = .ok (.istore 4, 2) := by decide +kernel
theorem dT_oddsToGo_5 : decode mT_oddsToGo.2.1 5 = .ok (.iload 4, 2) := by decide +kernel
theorem dT_oddsToGo_7 : decode mT_oddsToGo.2.1 7 = .ok (.aload_n 0, 1) := by decide +kernel
theorem dT_oddsToGo_8 : decode mT_oddsToGo.2.1 8 = .ok (.getfield 37, 3) := by decide +kernel
theorem dT_oddsToGo_11 : decode mT_oddsToGo.2.1 11 = .ok (.getfield 72, 3) := by decide +kernel
theorem dT_oddsToGo_14 : decode mT_oddsToGo.2.1 14 = .ok (.if_icmp .ge 35, 3) := by decide +kernel
theorem dT_oddsToGo_17 : decode mT_oddsToGo.2.1 17 = .ok (.lload_n 2, 1) := by decide +kernel
theorem dT_oddsToGo_18 : decode mT_oddsToGo.2.1 18 = .ok (.aload_n 0, 1) := by decide +kernel
theorem dT_oddsToGo_19 : decode mT_oddsToGo.2.1 19 = .ok (.getfield 37, 3) := by decide +kernel
theorem dT_oddsToGo_22 : decode mT_oddsToGo.2.1 22 = .ok (.getfield 84, 3) := by decide +kernel
theorem dT_oddsToGo_25 : decode mT_oddsToGo.2.1 25 = .ok (.iload 4, 2) := by decide +kernel
theorem dT_oddsToGo_27 : decode mT_oddsToGo.2.1 27 = .ok (.iaload, 1) := by decide +kernel
theorem dT_oddsToGo_28 : decode mT_oddsToGo.2.1 28 = .ok (.iload_n 1, 1) := by decide +kernel
theorem dT_oddsToGo_29 : decode mT_oddsToGo.2.1 29 = .ok (.ishr, 1) := by decide +kernel
theorem dT_oddsToGo_30 : decode mT_oddsToGo.2.1 30 = .ok (.iconst 1, 1) := by decide +kernel
theorem dT_oddsToGo_31 : decode mT_oddsToGo.2.1 31 = .ok (.iand, 1) := by decide +kernel
theorem dT_oddsToGo_32 : decode mT_oddsToGo.2.1 32 = .ok (.i2l, 1) := by decide +kernel
theorem dT_oddsToGo_33 : decode mT_oddsToGo.2.1 33 = .ok (.aload_n 0, 1) := by decide +kernel
theorem dT_oddsToGo_34 : decode mT_oddsToGo.2.1 34 = .ok (.getfield 15, 3) := by decide +kernel
theorem dT_oddsToGo_37 : decode mT_oddsToGo.2.1 37 = .ok (.iload 4, 2) := by decide +kernel
theorem dT_oddsToGo_39 : decode mT_oddsToGo.2.1 39 = .ok (.laload, 1) := by decide +kernel
theorem dT_oddsToGo_40 : decode mT_oddsToGo.2.1 40 = .ok (.lmul, 1) := by decide +kernel
theorem dT_oddsToGo_41 : decode mT_oddsToGo.2.1 41 = .ok (.ladd, 1) := by decide +kernel
theorem dT_oddsToGo_42 : decode mT_oddsToGo.2.1 42 = .ok (.lstore_n 2, 1) := by decide +kernel
theorem dT_oddsToGo_43 : decode mT_oddsToGo.2.1 43 = .ok (.iinc 4 1, 3) := by decide +kernel
theorem dT_oddsToGo_46 : decode mT_oddsToGo.2.1 46 = .ok (.goto (-41), 3) := by decide +kernel
theorem dT_oddsToGo_49 : decode mT_oddsToGo.2.1 49 = .ok (.lload_n 2, 1) := by decide +kernel
theorem dT_oddsToGo_50 : decode mT_oddsToGo.2.1 50 = .ok (.lreturn, 1) := by decide +kernel
/- T_oddsToGo: (I)J -/
set_option maxRecDepth 4000 in
theorem wT_oddsToGo {X : Cx} (a1 : Int) (sw : Bool) (m : Mem) (Q : Int → Bool → Mem → Prop) (h : R2 X 1 mT_oddsToGo 5 [(0, vr 37), (1, vi a1), (2, vl 0), (4, vi 0)] [] sw m Q) : M2 X 1 mT_oddsToGo [vr 37, vi a1] sw m Q := by
  refine Mt.of pT_oddsToGo (Nat.le_of_ble_eq_true rfl) (Nat.le_refl _) ?_
  show R2 X 1 mT_oddsToGo 0 [(0, vr 37), (1, vi a1)] [] sw m Q
  refine r_lconst dT_oddsToGo_0 ?_
  refine r_lstore_n 2 (by decide) dT_oddsToGo_1 rfl ?_
  refine r_iconst dT_oddsToGo_2 ?_
  refine r_istore 4 (by decide) dT_oddsToGo_3 ?_
  refine r_sub [2, 3, 1, 0] ?_ h
  rfl
set_option maxRecDepth 4000 in
theorem wT_oddsToGo_5 {X : Cx} (x1 x2 x4 : Int) (sw : Bool) (m : Mem) (Q : Int → Bool → Mem → Prop) (h : ((w32 (m 23 5) ≤ w32 x4 → Q x2 sw m) ∧ (¬ (w32 (m 23 5) ≤ w32 x4) → ((0 ≤ w32 x4 ∧ w32 x4 < 512) ∧ ((0 ≤ w32 x4 ∧ w32 x4 < 512) ∧ R2 X 1 mT_oddsToGo 5 [(0, vr 37), (1, vi x1), (2, vl (x2 + (w32 (zand (zshr (m 34 (w32 x4)) x1) 1) * (m 39 (w32 x4))))), (4, vi (x4 + 1))] [] sw m Q))))) : R2 X 1 mT_oddsToGo 5 [(0, vr 37), (1, vi x1), (2, vl x2), (4, vi x4)] [] sw m Q := by
  refine r_iload 4 3 rfl dT_oddsToGo_5 ?_
  refine r_aload_n 0 0 rfl dT_oddsToGo_7 rfl ?_
  refine q_getR 1 c37 fT_37 rfl rfl (g37_1 sw) (by decide) dT_oddsToGo_8 ?_
  refine q_getI 5 c23 fT_72 rfl rfl dT_oddsToGo_11 ?_
  refine r_ifc_ge (tgt := 49) dT_oddsToGo_14 (by decide) (fun hc => ?_) (fun hc => ?_)
  · replace h := h.1 hc
    refine r_lload_n 2 2 rfl dT_oddsToGo_49 rfl ?_
    exact q_lret rfl h dT_oddsToGo_50
  · replace h := h.2 hc
    refine r_lload_n 2 2 rfl dT_oddsToGo_17 rfl ?_
    refine r_aload_n 0 0 rfl dT_oddsToGo_18 rfl ?_
    refine q_getR 1 c37 fT_37 rfl rfl (g37_1 sw) (by decide) dT_oddsToGo_19 ?_
    refine q_getR 2 c23 fT_84 rfl rfl (g23_2 sw) (by decide) dT_oddsToGo_22 ?_
    refine r_iload 4 3 rfl dT_oddsToGo_25 ?_
    refine q_iaload (w32 x4) rfl c34 h.1 dT_oddsToGo_27 ?_
    replace h := h.2
    refine r_iload_n 1 1 rfl dT_oddsToGo_28 rfl ?_
    refine r_ishr dT_oddsToGo_29 ?_
    refine r_iconst dT_oddsToGo_30 ?_
    refine r_iand dT_oddsToGo_31 ?_
    refine r_i2l dT_oddsToGo_32 ?_
    refine r_aload_n 0 0 rfl dT_oddsToGo_33 rfl ?_
    refine q_getR 3 c37 fT_15 rfl rfl (g37_3 sw) (by decide) dT_oddsToGo_34 ?_
    refine r_iload 4 3 rfl dT_oddsToGo_37 ?_
    refine q_laload (w32 x4) rfl c39 h.1 dT_oddsToGo_39 ?_
    replace h := h.2
    refine r_lmul dT_oddsToGo_40 ?_
    refine r_ladd dT_oddsToGo_41 ?_
    refine r_lstore_n 2 (by decide) dT_oddsToGo_42 rfl ?_
    refine r_iinc 4 3 rfl (by decide) dT_oddsToGo_43 ?_
    refine r_goto (tgt := 5) dT_oddsToGo_46 (by decide) ?_
    refine r_sub [2, 3, 1, 0] ?_ h
    rfl
theorem dT_oddsBy_0 : decode mT_oddsBy.2.1 0 = .ok (.lconst 0, 1) := by decide +kernel
theorem dT_oddsBy_1 : decode mT_oddsBy.2.1 1 = .ok (.lstore_n 2, 1) := by decide +kernel
theorem dT_oddsBy_2 : decode mT_oddsBy.2.1 2 = .ok (.iconst 0, 1) := by decide +kernel
theorem dT_oddsBy_3 : decode mT_oddsBy.2.1 3 = .ok (.istore 4, 2) := by decide +kernel
theorem dT_oddsBy_5 : decode mT_oddsBy.2.1 5 = .ok (.iload 4, 2) := by decide +kernel
theorem dT_oddsBy_7 : decode mT_oddsBy.2.1 7 = .ok (.aload_n 0, 1) := by decide +kernel
theorem dT_oddsBy_8 : decode mT_oddsBy.2.1 8 = .ok (.getfield 81, 3) := by decide +kernel
theorem dT_oddsBy_11 : decode mT_oddsBy.2.1 11 = .ok (.if_icmp .ge 35, 3) := by decide +kernel
theorem dT_oddsBy_14 : decode mT_oddsBy.2.1 14 = .ok (.aload_n 0, 1) := by decide +kernel
theorem dT_oddsBy_15 : decode mT_oddsBy.2.1 15 = .ok (.getfield 22, 3) := by decide +kernel
theorem dT_oddsBy_18 : decode mT_oddsBy.2.1 18 = .ok (.iload 4, 2) := by decide +kernel
theorem dT_oddsBy_20 : decode mT_oddsBy.2.1 20 = .ok (.iaload, 1) := by decide +kernel
theorem dT_oddsBy_21 : decode mT_oddsBy.2.1 21 = .ok (.iload_n 1, 1) := by decide +kernel
theorem dT_oddsBy_22 : decode mT_oddsBy.2.1 22 = .ok (.if_icmp .gt 24, 3) := by decide +kernel
theorem dT_oddsBy_25 : decode mT_oddsBy.2.1 25 = .ok (.lload_n 2, 1) := by decide +kernel
theorem dT_oddsBy_26 : decode mT_oddsBy.2.1 26 = .ok (.aload_n 0, 1) := by decide +kernel
theorem dT_oddsBy_27 : decode mT_oddsBy.2.1 27 = .ok (.getfield 19, 3) := by decide +kernel
theorem dT_oddsBy_30 : decode mT_oddsBy.2.1 30 = .ok (.aload_n 0, 1) := by decide +kernel
theorem dT_oddsBy_31 : decode mT_oddsBy.2.1 31 = .ok (.getfield 22, 3) := by decide +kernel
theorem dT_oddsBy_34 : decode mT_oddsBy.2.1 34 = .ok (.iload 4, 2) := by decide +kernel
theorem dT_oddsBy_36 : decode mT_oddsBy.2.1 36 = .ok (.iaload, 1) := by decide +kernel
theorem dT_oddsBy_37 : decode mT_oddsBy.2.1 37 = .ok (.laload, 1) := by decide +kernel
theorem dT_oddsBy_38 : decode mT_oddsBy.2.1 38 = .ok (.ladd, 1) := by decide +kernel
theorem dT_oddsBy_39 : decode mT_oddsBy.2.1 39 = .ok (.lstore_n 2, 1) := by decide +kernel
theorem dT_oddsBy_40 : decode mT_oddsBy.2.1 40 = .ok (.iinc 4 1, 3) := by decide +kernel
theorem dT_oddsBy_43 : decode mT_oddsBy.2.1 43 = .ok (.goto (-38), 3) := by decide +kernel
theorem dT_oddsBy_46 : decode mT_oddsBy.2.1 46 = .ok (.lload_n 2, 1) := by decide +kernel
theorem dT_oddsBy_47 : decode mT_oddsBy.2.1 47 = .ok (.lreturn, 1) := by decide +kernel
/- T_oddsBy: (I)J -/
set_option maxRecDepth 4000 in
theorem wT_oddsBy {X : Cx} (a1 : Int) (sw : Bool) (m : Mem) (Q : Int → Bool → Mem → Prop) (h : R2 X 1 mT_oddsBy 5 [(0, vr 37), (1, vi a1), (2, vl 0), (4, vi 0)] [] sw m Q) : M2 X 1 mT_oddsBy [vr 37, vi a1] sw m Q := by
  refine Mt.of pT_oddsBy (Nat.le_of_ble_eq_true rfl) (Nat.le_refl _) ?_
  show R2 X 1 mT_oddsBy 0 [(0, vr 37), (1, vi a1)] [] sw m Q
  refine r_lconst dT_oddsBy_0 ?_
  refine r_lstore_n 2 (by decide) dT_oddsBy_1 rfl ?_
  refine r_iconst dT_oddsBy_2 ?_
  refine r_istore 4 (by decide) dT_oddsBy_3 ?_
  refine r_sub [2, 3, 1, 0] ?_ h
  rfl
set_option maxRecDepth 4000 in
theorem wT_oddsBy_5 {X : Cx} (x1 x2 x4 : Int) (sw : Bool) (m : Mem) (Q : Int → Bool → Mem → Prop) (h : ((w32 (m 37 6) ≤ w32 x4 → Q x2 sw m) ∧ (¬ (w32 (m 37 6) ≤ w32 x4) → ((0 ≤ w32 x4 ∧ w32 x4 < 512) ∧ ((w32 x1 < w32 (m 41 (w32 x4)) → Q x2 sw m) ∧ (¬ (w32 x1 < w32 (m 41 (w32 x4))) → ((0 ≤ w32 x4 ∧ w32 x4 < 512) ∧ ((0 ≤ w32 (m 41 (w32 x4)) ∧ w32 (m 41 (w32 x4)) < 541) ∧ R2 X 1 mT_oddsBy 5 [(0, vr 37), (1, vi x1), (2, vl (x2 + (m 40 (w32 (m 41 (w32 x4)))))), (4, vi (x4 + 1))] [] sw m Q)))))))) : R2 X 1 mT_oddsBy 5 [(0, vr 37), (1, vi x1), (2, vl x2), (4, vi x4)] [] sw m Q := by
  refine r_iload 4 3 rfl dT_oddsBy_5 ?_
  refine r_aload_n 0 0 rfl dT_oddsBy_7 rfl ?_
  refine q_getI 6 c37 fT_81 rfl rfl dT_oddsBy_8 ?_
  refine r_ifc_ge (tgt := 46) dT_oddsBy_11 (by decide) (fun hc => ?_) (fun hc => ?_)
  · replace h := h.1 hc
    refine r_lload_n 2 2 rfl dT_oddsBy_46 rfl ?_
    exact q_lret rfl h dT_oddsBy_47
  · replace h := h.2 hc
    refine r_aload_n 0 0 rfl dT_oddsBy_14 rfl ?_
    refine q_getR 5 c37 fT_22 rfl rfl (g37_5 sw) (by decide) dT_oddsBy_15 ?_
    refine r_iload 4 3 rfl dT_oddsBy_18 ?_
    refine q_iaload (w32 x4) rfl c41 h.1 dT_oddsBy_20 ?_
    replace h := h.2
    refine r_iload_n 1 1 rfl dT_oddsBy_21 rfl ?_
    refine r_ifc_gt (tgt := 46) dT_oddsBy_22 (by decide) (fun hc => ?_) (fun hc => ?_)
    · replace h := h.1 hc
      refine r_lload_n 2 2 rfl dT_oddsBy_46 rfl ?_
      exact q_lret rfl h dT_oddsBy_47
    · replace h := h.2 hc
      refine r_lload_n 2 2 rfl dT_oddsBy_25 rfl ?_
      refine r_aload_n 0 0 rfl dT_oddsBy_26 rfl ?_
      refine q_getR 4 c37 fT_19 rfl rfl (g37_4 sw) (by decide) dT_oddsBy_27 ?_
      refine r_aload_n 0 0 rfl dT_oddsBy_30 rfl ?_
      refine q_getR 5 c37 fT_22 rfl rfl (g37_5 sw) (by decide) dT_oddsBy_31 ?_
      refine r_iload 4 3 rfl dT_oddsBy_34 ?_
      refine q_iaload (w32 x4) rfl c41 h.1 dT_oddsBy_36 ?_
      replace h := h.2
      refine q_laload (w32 (m 41 (w32 x4))) rfl c40 h.1 dT_oddsBy_37 ?_
      replace h := h.2
      refine r_ladd dT_oddsBy_38 ?_
      refine r_lstore_n 2 (by decide) dT_oddsBy_39 rfl ?_
      refine r_iinc 4 3 rfl (by decide) dT_oddsBy_40 ?_
      refine r_goto (tgt := 5) dT_oddsBy_43 (by decide) ?_
      refine r_sub [2, 3, 1, 0] ?_ h
      rfl
theorem dT_oddsIn_0 : decode mT_oddsIn.2.1 0 = .ok (.iload_n 1, 1) := by decide +kernel
theorem dT_oddsIn_1 : decode mT_oddsIn.2.1 1 = .ok (.iconst (-1), 1) := by decide +kernel
theorem dT_oddsIn_2 : decode mT_oddsIn.2.1 2 = .ok (.if_icmp .ne 16, 3) := by decide +kernel
theorem dT_oddsIn_5 : decode mT_oddsIn.2.1 5 = .ok (.aload_n 0, 1) := by decide +kernel
theorem dT_oddsIn_6 : decode mT_oddsIn.2.1 6 = .ok (.getfield 25, 3) := by decide +kernel
theorem dT_oddsIn_9 : decode mT_oddsIn.2.1 9 = .ok (.aload_n 0, 1) := by decide +kernel
theorem dT_oddsIn_10 : decode mT_oddsIn.2.1 10 = .ok (.sipush 999, 3) := by decide +kernel
theorem dT_oddsIn_13 : decode mT_oddsIn.2.1 13 = .ok (.invokevirtual 87, 3) := by decide +kernel
theorem dT_oddsIn_16 : decode mT_oddsIn.2.1 16 = .ok (.lsub, 1) := by decide +kernel
theorem dT_oddsIn_17 : decode mT_oddsIn.2.1 17 = .ok (.lreturn, 1) := by decide +kernel
theorem dT_oddsIn_18 : decode mT_oddsIn.2.1 18 = .ok (.iload_n 1, 1) := by decide +kernel
theorem dT_oddsIn_19 : decode mT_oddsIn.2.1 19 = .ok (.ifCond .lt 10, 3) := by decide +kernel
theorem dT_oddsIn_22 : decode mT_oddsIn.2.1 22 = .ok (.iload_n 1, 1) := by decide +kernel
theorem dT_oddsIn_23 : decode mT_oddsIn.2.1 23 = .ok (.sipush 540, 3) := by decide +kernel
theorem dT_oddsIn_26 : decode mT_oddsIn.2.1 26 = .ok (.if_icmp .le 7, 3) := by decide +kernel
theorem dT_oddsIn_29 : decode mT_oddsIn.2.1 29 = .ok (.lconst 0, 1) := by decide +kernel
theorem dT_oddsIn_30 : decode mT_oddsIn.2.1 30 = .ok (.goto 9, 3) := by decide +kernel
theorem dT_oddsIn_33 : decode mT_oddsIn.2.1 33 = .ok (.aload_n 0, 1) := by decide +kernel
theorem dT_oddsIn_34 : decode mT_oddsIn.2.1 34 = .ok (.getfield 19, 3) := by decide +kernel
theorem dT_oddsIn_37 : decode mT_oddsIn.2.1 37 = .ok (.iload_n 1, 1) := by decide +kernel
theorem dT_oddsIn_38 : decode mT_oddsIn.2.1 38 = .ok (.laload, 1) := by decide +kernel
theorem dT_oddsIn_39 : decode mT_oddsIn.2.1 39 = .ok (.lreturn, 1) := by decide +kernel
/- T_oddsIn: (I)J -/
set_option maxRecDepth 4000 in
theorem wT_oddsIn {X : Cx} (a1 : Int) (sw : Bool) (m : Mem) (Q : Int → Bool → Mem → Prop) (h : ((¬ w32 a1 = (-1) → ((w32 a1 < 0 → Q 0 sw m) ∧ (¬ (w32 a1 < 0) → ((w32 a1 ≤ 540 → ((0 ≤ w32 a1 ∧ w32 a1 < 541) ∧ Q (m 40 (w32 a1)) sw m)) ∧ (¬ (w32 a1 ≤ 540) → Q 0 sw m))))) ∧ (¬ (¬ w32 a1 = (-1)) → M2 X 1 mT_oddsBy [vr 37, vi 999] sw m (fun z1 sw1 m1 => Q ((m 37 7) - z1) sw1 m1)))) : M2 X 2 mT_oddsIn [vr 37, vi a1] sw m Q := by
  refine Mt.of pT_oddsIn (Nat.le_of_ble_eq_true rfl) (Nat.le_refl _) ?_
  show R2 X 2 mT_oddsIn 0 [(0, vr 37), (1, vi a1)] [] sw m Q
  refine r_iload_n 1 1 rfl dT_oddsIn_0 rfl ?_
  refine r_iconst dT_oddsIn_1 ?_
  refine r_ifc_ne (tgt := 18) dT_oddsIn_2 (by decide) (fun hc => ?_) (fun hc => ?_)
  · replace h := h.1 hc
    refine r_iload_n 1 1 rfl dT_oddsIn_18 rfl ?_
    refine r_if_lt (tgt := 29) dT_oddsIn_19 (by decide) (fun hc => ?_) (fun hc => ?_)
    · replace h := h.1 hc
      refine r_lconst dT_oddsIn_29 ?_
      refine r_goto (tgt := 39) dT_oddsIn_30 (by decide) ?_
      exact q_lret rfl h dT_oddsIn_39
    · replace h := h.2 hc
      refine r_iload_n 1 1 rfl dT_oddsIn_22 rfl ?_
      refine r_sipush (by decide) dT_oddsIn_23 ?_
      refine r_ifc_le (tgt := 33) dT_oddsIn_26 (by decide) (fun hc => ?_) (fun hc => ?_)
      · replace h := h.1 hc
        refine r_aload_n 0 0 rfl dT_oddsIn_33 rfl ?_
        refine q_getR 4 c37 fT_19 rfl rfl (g37_4 sw) (by decide) dT_oddsIn_34 ?_
        refine r_iload_n 1 1 rfl dT_oddsIn_37 rfl ?_
        refine q_laload (w32 a1) rfl c40 h.1 dT_oddsIn_38 ?_
        replace h := h.2
        exact q_lret rfl h dT_oddsIn_39
      · replace h := h.2 hc
        refine r_lconst dT_oddsIn_29 ?_
        refine r_goto (tgt := 39) dT_oddsIn_30 (by decide) ?_
        exact q_lret rfl h dT_oddsIn_39
  · replace h := h.2 hc
    refine r_aload_n 0 0 rfl dT_oddsIn_5 rfl ?_
    refine q_getL 7 c37 fT_25 rfl rfl dT_oddsIn_6 ?_
    refine r_aload_n 0 0 rfl dT_oddsIn_9 rfl ?_
    refine r_sipush (by decide) dT_oddsIn_10 ?_
    refine r_callVl 4 [_] rfl c37 rfl rfl oT_oddsBy iT_oddsBy sT_oddsBy yT_87 (by decide) ⟨Nat.le_refl _, Nat.le_refl _⟩ rfl (Nat.le_of_ble_eq_true rfl) dT_oddsIn_13 h (fun z1 r1 m1 h => ?_)
    obtain ⟨sw1, rfl, h⟩ := h
    refine r_lsub dT_oddsIn_16 ?_
    exact q_lret rfl h dT_oddsIn_17
theorem dT_minutesTogether_0 : decode mT_minutesTogether.2.1 0 = .ok (.lconst 0, 1) := by decide +kernel
theorem dT_minutesTogether_1 : decode mT_minutesTogether.2.1 1 = .ok (.lstore_n 1, 1) := by decide +kernel
theorem dT_minutesTogether_2 : decode mT_minutesTogether.2.1 2 = .ok (.iconst 0, 1) := by decide +kernel
theorem dT_minutesTogether_3 : decode mT_minutesTogether.2.1 3 = .ok (.istore_n 3, 1) := by decide +kernel
theorem dT_minutesTogether_4 : decode mT_minutesTogether.2.1 4 = .ok (.iload_n 3, 1) := by decide +kernel
theorem dT_minutesTogether_5 : decode mT_minutesTogether.2.1 5 = .ok (.aload_n 0, 1) := by decide +kernel
theorem dT_minutesTogether_6 : decode mT_minutesTogether.2.1 6 = .ok (.getfield 81, 3) := by decide +kernel
theorem dT_minutesTogether_9 : decode mT_minutesTogether.2.1 9 = .ok (.if_icmp .ge 31, 3) := by decide +kernel
theorem dT_minutesTogether_12 : decode mT_minutesTogether.2.1 12 = .ok (.lload_n 1, 1) := by decide +kernel
theorem dT_minutesTogether_13 : decode mT_minutesTogether.2.1 13 = .ok (.aload_n 0, 1) := by decide +kernel
theorem dT_minutesTogether_14 : decode mT_minutesTogether.2.1 14 = .ok (.getfield 22, 3) := by decide +kernel
theorem dT_minutesTogether_17 : decode mT_minutesTogether.2.1 17 = .ok (.iload_n 3, 1) := by decide +kernel
theorem dT_minutesTogether_18 : decode mT_minutesTogether.2.1 18 = .ok (.iaload, 1) := by decide +kernel
theorem dT_minutesTogether_19 : decode mT_minutesTogether.2.1 19 = .ok (.i2l, 1) := by decide +kernel
theorem dT_minutesTogether_20 : decode mT_minutesTogether.2.1 20 = .ok (.aload_n 0, 1) := by decide +kernel
theorem dT_minutesTogether_21 : decode mT_minutesTogether.2.1 21 = .ok (.getfield 19, 3) := by decide +kernel
theorem dT_minutesTogether_24 : decode mT_minutesTogether.2.1 24 = .ok (.aload_n 0, 1) := by decide +kernel
theorem dT_minutesTogether_25 : decode mT_minutesTogether.2.1 25 = .ok (.getfield 22, 3) := by decide +kernel
theorem dT_minutesTogether_28 : decode mT_minutesTogether.2.1 28 = .ok (.iload_n 3, 1) := by decide +kernel
theorem dT_minutesTogether_29 : decode mT_minutesTogether.2.1 29 = .ok (.iaload, 1) := by decide +kernel
theorem dT_minutesTogether_30 : decode mT_minutesTogether.2.1 30 = .ok (.laload, 1) := by decide +kernel
theorem dT_minutesTogether_31 : decode mT_minutesTogether.2.1 31 = .ok (.lmul, 1) := by decide +kernel
theorem dT_minutesTogether_32 : decode mT_minutesTogether.2.1 32 = .ok (.ladd, 1) := by decide +kernel
theorem dT_minutesTogether_33 : decode mT_minutesTogether.2.1 33 = .ok (.lstore_n 1, 1) := by decide +kernel
theorem dT_minutesTogether_34 : decode mT_minutesTogether.2.1 34 = .ok (.iinc 3 1, 3) := by decide +kernel
theorem dT_minutesTogether_37 : decode mT_minutesTogether.2.1 37 = .ok (.goto (-33), 3) := by decide +kernel
theorem dT_minutesTogether_40 : decode mT_minutesTogether.2.1 40 = .ok (.lload_n 1, 1) := by decide +kernel
theorem dT_minutesTogether_41 : decode mT_minutesTogether.2.1 41 = .ok (.lreturn, 1) := by decide +kernel
/- T_minutesTogether: ()J -/
set_option maxRecDepth 4000 in
theorem wT_minutesTogether {X : Cx} (sw : Bool) (m : Mem) (Q : Int → Bool → Mem → Prop) (h : R2 X 1 mT_minutesTogether 4 [(0, vr 37), (1, vl 0), (3, vi 0)] [] sw m Q) : M2 X 1 mT_minutesTogether [vr 37] sw m Q := by
  refine Mt.of pT_minutesTogether (Nat.le_of_ble_eq_true rfl) (Nat.le_refl _) ?_
  show R2 X 1 mT_minutesTogether 0 [(0, vr 37)] [] sw m Q
  refine r_lconst dT_minutesTogether_0 ?_
  refine r_lstore_n 1 (by decide) dT_minutesTogether_1 rfl ?_
  refine r_iconst dT_minutesTogether_2 ?_
  refine r_istore_n 3 (by decide) dT_minutesTogether_3 rfl ?_
  refine r_sub [2, 1, 0] ?_ h
  rfl
set_option maxRecDepth 4000 in
theorem wT_minutesTogether_4 {X : Cx} (x1 x3 : Int) (sw : Bool) (m : Mem) (Q : Int → Bool → Mem → Prop) (h : ((w32 (m 37 6) ≤ w32 x3 → Q x1 sw m) ∧ (¬ (w32 (m 37 6) ≤ w32 x3) → ((0 ≤ w32 x3 ∧ w32 x3 < 512) ∧ ((0 ≤ w32 x3 ∧ w32 x3 < 512) ∧ ((0 ≤ w32 (m 41 (w32 x3)) ∧ w32 (m 41 (w32 x3)) < 541) ∧ R2 X 1 mT_minutesTogether 4 [(0, vr 37), (1, vl (x1 + (w32 (m 41 (w32 x3)) * (m 40 (w32 (m 41 (w32 x3))))))), (3, vi (x3 + 1))] [] sw m Q)))))) : R2 X 1 mT_minutesTogether 4 [(0, vr 37), (1, vl x1), (3, vi x3)] [] sw m Q := by
  refine r_iload_n 3 2 rfl dT_minutesTogether_4 rfl ?_
  refine r_aload_n 0 0 rfl dT_minutesTogether_5 rfl ?_
  refine q_getI 6 c37 fT_81 rfl rfl dT_minutesTogether_6 ?_
  refine r_ifc_ge (tgt := 40) dT_minutesTogether_9 (by decide) (fun hc => ?_) (fun hc => ?_)
  · replace h := h.1 hc
    refine r_lload_n 1 1 rfl dT_minutesTogether_40 rfl ?_
    exact q_lret rfl h dT_minutesTogether_41
  · replace h := h.2 hc
    refine r_lload_n 1 1 rfl dT_minutesTogether_12 rfl ?_
    refine r_aload_n 0 0 rfl dT_minutesTogether_13 rfl ?_
    refine q_getR 5 c37 fT_22 rfl rfl (g37_5 sw) (by decide) dT_minutesTogether_14 ?_
    refine r_iload_n 3 2 rfl dT_minutesTogether_17 rfl ?_
    refine q_iaload (w32 x3) rfl c41 h.1 dT_minutesTogether_18 ?_
    replace h := h.2
    refine r_i2l dT_minutesTogether_19 ?_
    refine r_aload_n 0 0 rfl dT_minutesTogether_20 rfl ?_
    refine q_getR 4 c37 fT_19 rfl rfl (g37_4 sw) (by decide) dT_minutesTogether_21 ?_
    refine r_aload_n 0 0 rfl dT_minutesTogether_24 rfl ?_
    refine q_getR 5 c37 fT_22 rfl rfl (g37_5 sw) (by decide) dT_minutesTogether_25 ?_
    refine r_iload_n 3 2 rfl dT_minutesTogether_28 rfl ?_
    refine q_iaload (w32 x3) rfl c41 h.1 dT_minutesTogether_29 ?_
    replace h := h.2
    refine q_laload (w32 (m 41 (w32 x3))) rfl c40 h.1 dT_minutesTogether_30 ?_
    replace h := h.2
    refine r_lmul dT_minutesTogether_31 ?_
    refine r_ladd dT_minutesTogether_32 ?_
    refine r_lstore_n 1 (by decide) dT_minutesTogether_33 rfl ?_
    refine r_iinc 3 2 rfl (by decide) dT_minutesTogether_34 ?_
    refine r_goto (tgt := 4) dT_minutesTogether_37 (by decide) ?_
    refine r_sub [2, 1, 0] ?_ h
    rfl
theorem dT_soonest_0 : decode mT_soonest.2.1 0 = .ok (.aload_n 0, 1) := by decide +kernel
theorem dT_soonest_1 : decode mT_soonest.2.1 1 = .ok (.getfield 81, 3) := by decide +kernel
theorem dT_soonest_4 : decode mT_soonest.2.1 4 = .ok (.ifCond .ne 7, 3) := by decide +kernel
theorem dT_soonest_7 : decode mT_soonest.2.1 7 = .ok (.iconst (-1), 1) := by decide +kernel
theorem dT_soonest_8 : decode mT_soonest.2.1 8 = .ok (.goto 9, 3) := by decide +kernel
theorem dT_soonest_11 : decode mT_soonest.2.1 11 = .ok (.aload_n 0, 1) := by decide +kernel
theorem dT_soonest_12 : decode mT_soonest.2.1 12 = .ok (.getfield 22, 3) := by decide +kernel
theorem dT_soonest_15 : decode mT_soonest.2.1 15 = .ok (.iconst 0, 1) := by decide +kernel
theorem dT_soonest_16 : decode mT_soonest.2.1 16 = .ok (.iaload, 1) := by decide +kernel
theorem dT_soonest_17 : decode mT_soonest.2.1 17 = .ok (.ireturn, 1) := by decide +kernel
/- T_soonest: ()I -/
set_option maxRecDepth 4000 in
theorem wT_soonest {X : Cx} (sw : Bool) (m : Mem) (Q : Int → Bool → Mem → Prop) (h : ((¬ w32 (m 37 6) = 0 → Q (m 41 0) sw m) ∧ (¬ (¬ w32 (m 37 6) = 0) → Q (-1) sw m))) : M2 X 1 mT_soonest [vr 37] sw m Q := by
  refine Mt.of pT_soonest (Nat.le_of_ble_eq_true rfl) (Nat.le_refl _) ?_
  show R2 X 1 mT_soonest 0 [(0, vr 37)] [] sw m Q
  refine r_aload_n 0 0 rfl dT_soonest_0 rfl ?_
  refine q_getI 6 c37 fT_81 rfl rfl dT_soonest_1 ?_
  refine r_if_ne (tgt := 11) dT_soonest_4 (by decide) (fun hc => ?_) (fun hc => ?_)
  · replace h := h.1 hc
    refine r_aload_n 0 0 rfl dT_soonest_11 rfl ?_
    refine q_getR 5 c37 fT_22 rfl rfl (g37_5 sw) (by decide) dT_soonest_12 ?_
    refine r_iconst dT_soonest_15 ?_
    refine q_iaload 0 rfl c41 (by decide) dT_soonest_16 ?_
    exact q_iret rfl h dT_soonest_17
  · replace h := h.2 hc
    refine r_iconst dT_soonest_7 ?_
    refine r_goto (tgt := 17) dT_soonest_8 (by decide) ?_
    exact q_iret rfl h dT_soonest_17
theorem dT_latest_0 : decode mT_latest.2.1 0 = .ok (.aload_n 0, 1) := by decide +kernel
theorem dT_latest_1 : decode mT_latest.2.1 1 = .ok (.getfield 81, 3) := by decide +kernel
theorem dT_latest_4 : decode mT_latest.2.1 4 = .ok (.ifCond .ne 7, 3) := by decide +kernel
theorem dT_latest_7 : decode mT_latest.2.1 7 = .ok (.iconst (-1), 1) := by decide +kernel
theorem dT_latest_8 : decode mT_latest.2.1 8 = .ok (.goto 14, 3) := by decide +kernel
theorem dT_latest_11 : decode mT_latest.2.1 11 = .ok (.aload_n 0, 1) := by decide +kernel
theorem dT_latest_12 : decode mT_latest.2.1 12 = .ok (.getfield 22, 3) := by decide +kernel
theorem dT_latest_15 : decode mT_latest.2.1 15 = .ok (.aload_n 0, 1) := by decide +kernel
theorem dT_latest_16 : decode mT_latest.2.1 16 = .ok (.getfield 81, 3) := by decide +kernel
theorem dT_latest_19 : decode mT_latest.2.1 19 = .ok (.iconst 1, 1) := by decide +kernel
theorem dT_latest_20 : decode mT_latest.2.1 20 = .ok (.isub, 1) := by decide +kernel
theorem dT_latest_21 : decode mT_latest.2.1 21 = .ok (.iaload, 1) := by decide +kernel
theorem dT_latest_22 : decode mT_latest.2.1 22 = .ok (.ireturn, 1) := by decide +kernel
/- T_latest: ()I -/
set_option maxRecDepth 4000 in
theorem wT_latest {X : Cx} (sw : Bool) (m : Mem) (Q : Int → Bool → Mem → Prop) (h : ((¬ w32 (m 37 6) = 0 → ((0 ≤ w32 ((m 37 6) - 1) ∧ w32 ((m 37 6) - 1) < 512) ∧ Q (m 41 (w32 ((m 37 6) - 1))) sw m)) ∧ (¬ (¬ w32 (m 37 6) = 0) → Q (-1) sw m))) : M2 X 1 mT_latest [vr 37] sw m Q := by
  refine Mt.of pT_latest (Nat.le_of_ble_eq_true rfl) (Nat.le_refl _) ?_
  show R2 X 1 mT_latest 0 [(0, vr 37)] [] sw m Q
  refine r_aload_n 0 0 rfl dT_latest_0 rfl ?_
  refine q_getI 6 c37 fT_81 rfl rfl dT_latest_1 ?_
  refine r_if_ne (tgt := 11) dT_latest_4 (by decide) (fun hc => ?_) (fun hc => ?_)
  · replace h := h.1 hc
    refine r_aload_n 0 0 rfl dT_latest_11 rfl ?_
    refine q_getR 5 c37 fT_22 rfl rfl (g37_5 sw) (by decide) dT_latest_12 ?_
    refine r_aload_n 0 0 rfl dT_latest_15 rfl ?_
    refine q_getI 6 c37 fT_81 rfl rfl dT_latest_16 ?_
    refine r_iconst dT_latest_19 ?_
    refine r_isub dT_latest_20 ?_
    refine q_iaload (w32 ((m 37 6) - 1)) rfl c41 h.1 dT_latest_21 ?_
    replace h := h.2
    exact q_iret rfl h dT_latest_22
  · replace h := h.2 hc
    refine r_iconst dT_latest_7 ?_
    refine r_goto (tgt := 22) dT_latest_8 (by decide) ?_
    exact q_iret rfl h dT_latest_22
theorem dT_waysTo_0 : decode mT_waysTo.2.1 0 = .ok (.iconst 0, 1) := by decide +kernel
theorem dT_waysTo_1 : decode mT_waysTo.2.1 1 = .ok (.istore_n 2, 1) := by decide +kernel
theorem dT_waysTo_2 : decode mT_waysTo.2.1 2 = .ok (.iconst 0, 1) := by decide +kernel
theorem dT_waysTo_3 : decode mT_waysTo.2.1 3 = .ok (.istore_n 3, 1) := by decide +kernel
theorem dT_waysTo_4 : decode mT_waysTo.2.1 4 = .ok (.iload_n 3, 1) := by decide +kernel
theorem dT_waysTo_5 : decode mT_waysTo.2.1 5 = .ok (.aload_n 0, 1) := by decide +kernel
theorem dT_waysTo_6 : decode mT_waysTo.2.1 6 = .ok (.getfield 37, 3) := by decide +kernel
theorem dT_waysTo_9 : decode mT_waysTo.2.1 9 = .ok (.getfield 72, 3) := by decide +kernel
theorem dT_waysTo_12 : decode mT_waysTo.2.1 12 = .ok (.if_icmp .ge 36, 3) := by decide +kernel
theorem dT_waysTo_15 : decode mT_waysTo.2.1 15 = .ok (.aload_n 0, 1) := by decide +kernel
theorem dT_waysTo_16 : decode mT_waysTo.2.1 16 = .ok (.getfield 37, 3) := by decide +kernel
theorem dT_waysTo_19 : decode mT_waysTo.2.1 19 = .ok (.getfield 75, 3) := by decide +kernel
theorem dT_waysTo_22 : decode mT_waysTo.2.1 22 = .ok (.iload_n 3, 1) := by decide +kernel
theorem dT_waysTo_23 : decode mT_waysTo.2.1 23 = .ok (.iaload, 1) := by decide +kernel
theorem dT_waysTo_24 : decode mT_waysTo.2.1 24 = .ok (.iload_n 1, 1) := by decide +kernel
theorem dT_waysTo_25 : decode mT_waysTo.2.1 25 = .ok (.if_icmp .ne 17, 3) := by decide +kernel
theorem dT_waysTo_28 : decode mT_waysTo.2.1 28 = .ok (.aload_n 0, 1) := by decide +kernel
theorem dT_waysTo_29 : decode mT_waysTo.2.1 29 = .ok (.getfield 15, 3) := by decide +kernel
theorem dT_waysTo_32 : decode mT_waysTo.2.1 32 = .ok (.iload_n 3, 1) := by decide +kernel
theorem dT_waysTo_33 : decode mT_waysTo.2.1 33 = .ok (.laload, 1) := by decide +kernel
theorem dT_waysTo_34 : decode mT_waysTo.2.1 34 = .ok (.lconst 0, 1) := by decide +kernel
theorem dT_waysTo_35 : decode mT_waysTo.2.1 35 = .ok (.lcmp, 1) := by decide +kernel
theorem dT_waysTo_36 : decode mT_waysTo.2.1 36 = .ok (.ifCond .le 6, 3) := by decide +kernel
theorem dT_waysTo_39 : decode mT_waysTo.2.1 39 = .ok (.iinc 2 1, 3) := by decide +kernel
theorem dT_waysTo_42 : decode mT_waysTo.2.1 42 = .ok (.iinc 3 1, 3) := by decide +kernel
theorem dT_waysTo_45 : decode mT_waysTo.2.1 45 = .ok (.goto (-41), 3) := by decide +kernel
theorem dT_waysTo_48 : decode mT_waysTo.2.1 48 = .ok (.iload_n 2, 1) := by decide +kernel
theorem dT_waysTo_49 : decode mT_waysTo.2.1 49 = .ok (.ireturn, 1) := by decide +kernel
/- T_waysTo: (I)I -/
set_option maxRecDepth 4000 in
theorem wT_waysTo {X : Cx} (a1 : Int) (sw : Bool) (m : Mem) (Q : Int → Bool → Mem → Prop) (h : R2 X 1 mT_waysTo 4 [(0, vr 37), (1, vi a1), (2, vi 0), (3, vi 0)] [] sw m Q) : M2 X 1 mT_waysTo [vr 37, vi a1] sw m Q := by
  refine Mt.of pT_waysTo (Nat.le_of_ble_eq_true rfl) (Nat.le_refl _) ?_
  show R2 X 1 mT_waysTo 0 [(0, vr 37), (1, vi a1)] [] sw m Q
  refine r_iconst dT_waysTo_0 ?_
  refine r_istore_n 2 (by decide) dT_waysTo_1 rfl ?_
  refine r_iconst dT_waysTo_2 ?_
  refine r_istore_n 3 (by decide) dT_waysTo_3 rfl ?_
  refine r_sub [2, 3, 1, 0] ?_ h
  rfl
set_option maxRecDepth 4000 in
theorem wT_waysTo_4 {X : Cx} (x1 x2 x3 : Int) (sw : Bool) (m : Mem) (Q : Int → Bool → Mem → Prop) (h : ((w32 (m 23 5) ≤ w32 x3 → Q x2 sw m) ∧ (¬ (w32 (m 23 5) ≤ w32 x3) → ((0 ≤ w32 x3 ∧ w32 x3 < 512) ∧ ((¬ w32 (m 36 (w32 x3)) = w32 x1 → R2 X 1 mT_waysTo 4 [(0, vr 37), (1, vi x1), (2, vi x2), (3, vi (x3 + 1))] [] sw m Q) ∧ (¬ (¬ w32 (m 36 (w32 x3)) = w32 x1) → ((0 ≤ w32 x3 ∧ w32 x3 < 512) ∧ ((w64 (m 39 (w32 x3)) ≤ 0 → R2 X 1 mT_waysTo 4 [(0, vr 37), (1, vi x1), (2, vi x2), (3, vi (x3 + 1))] [] sw m Q) ∧ (¬ (w64 (m 39 (w32 x3)) ≤ 0) → R2 X 1 mT_waysTo 4 [(0, vr 37), (1, vi x1), (2, vi (x2 + 1)), (3, vi (x3 + 1))] [] sw m Q))))))))) : R2 X 1 mT_waysTo 4 [(0, vr 37), (1, vi x1), (2, vi x2), (3, vi x3)] [] sw m Q := by
  refine r_iload_n 3 3 rfl dT_waysTo_4 rfl ?_
  refine r_aload_n 0 0 rfl dT_waysTo_5 rfl ?_
  refine q_getR 1 c37 fT_37 rfl rfl (g37_1 sw) (by decide) dT_waysTo_6 ?_
  refine q_getI 5 c23 fT_72 rfl rfl dT_waysTo_9 ?_
  refine r_ifc_ge (tgt := 48) dT_waysTo_12 (by decide) (fun hc => ?_) (fun hc => ?_)
  · replace h := h.1 hc
    refine r_iload_n 2 2 rfl dT_waysTo_48 rfl ?_
    exact q_iret rfl h dT_waysTo_49
  · replace h := h.2 hc
    refine r_aload_n 0 0 rfl dT_waysTo_15 rfl ?_
    refine q_getR 1 c37 fT_37 rfl rfl (g37_1 sw) (by decide) dT_waysTo_16 ?_
    refine q_getR 4 c23 fT_75 rfl rfl (g23_4 sw) (by decide) dT_waysTo_19 ?_
    refine r_iload_n 3 3 rfl dT_waysTo_22 rfl ?_
    refine q_iaload (w32 x3) rfl c36 h.1 dT_waysTo_23 ?_
    replace h := h.2
    refine r_iload_n 1 1 rfl dT_waysTo_24 rfl ?_
    refine r_ifc_ne (tgt := 42) dT_waysTo_25 (by decide) (fun hc => ?_) (fun hc => ?_)
    · replace h := h.1 hc
      refine r_iinc 3 3 rfl (by decide) dT_waysTo_42 ?_
      refine r_goto (tgt := 4) dT_waysTo_45 (by decide) ?_
      refine r_sub [1, 2, 3, 0] ?_ h
      rfl
    · replace h := h.2 hc
      refine r_aload_n 0 0 rfl dT_waysTo_28 rfl ?_
      refine q_getR 3 c37 fT_15 rfl rfl (g37_3 sw) (by decide) dT_waysTo_29 ?_
      refine r_iload_n 3 3 rfl dT_waysTo_32 rfl ?_
      refine q_laload (w32 x3) rfl c39 h.1 dT_waysTo_33 ?_
      replace h := h.2
      refine r_lconst dT_waysTo_34 ?_
      refine q_lc_le (tgt := 42) (A := w64 (m 39 (w32 x3))) (B := 0) rfl (by decide +kernel) dT_waysTo_35 dT_waysTo_36 (by decide) (fun hc => ?_) (fun hc => ?_)
      · replace h := h.1 hc
        refine r_iinc 3 3 rfl (by decide) dT_waysTo_42 ?_
        refine r_goto (tgt := 4) dT_waysTo_45 (by decide) ?_
        refine r_sub [1, 2, 3, 0] ?_ h
        rfl
      · replace h := h.2 hc
        refine r_iinc 2 2 rfl (by decide) dT_waysTo_39 ?_
        refine r_iinc 3 3 rfl (by decide) dT_waysTo_42 ?_
        refine r_goto (tgt := 4) dT_waysTo_45 (by decide) ?_
        refine r_sub [2, 3, 1, 0] ?_ h
        rfl
theorem dT_likeliestWayTo_0 : decode mT_likeliestWayTo.2.1 0 = .ok (.bipush (-2), 2) := by decide +kernel
theorem dT_likeliestWayTo_2 : decode mT_likeliestWayTo.2.1 2 = .ok (.istore_n 2, 1) := by decide +kernel
theorem dT_likeliestWayTo_3 : decode mT_likeliestWayTo.2.1 3 = .ok (.lconst 0, 1) := by decide +kernel
theorem dT_likeliestWayTo_4 : decode mT_likeliestWayTo.2.1 4 = .ok (.lstore_n 3, 1) := by decide +kernel
theorem dT_likeliestWayTo_5 : decode mT_likeliestWayTo.2.1 5 = .ok (.iconst 0, 1) := by decide +kernel
theorem dT_likeliestWayTo_6 : decode mT_likeliestWayTo.2.1 6 = .ok (.istore 5, 2) := by decide +kernel
theorem dT_likeliestWayTo_8 : decode mT_likeliestWayTo.2.1 8 = .ok (.iload 5, 2) := by decide +kernel
theorem dT_likeliestWayTo_10 : decode mT_likeliestWayTo.2.1 10 = .ok (.aload_n 0, 1) := by decide +kernel
theorem dT_likeliestWayTo_11 : decode mT_likeliestWayTo.2.1 11 = .ok (.getfield 37, 3) := by decide +kernel
theorem dT_likeliestWayTo_14 : decode mT_likeliestWayTo.2.1 14 = .ok (.getfield 72, 3) := by decide +kernel
theorem dT_likeliestWayTo_17 : decode mT_likeliestWayTo.2.1 17 = .ok (.if_icmp .ge 46, 3) := by decide +kernel
theorem dT_likeliestWayTo_20 : decode mT_likeliestWayTo.2.1 20 = .ok (.aload_n 0, 1) := by decide +kernel
theorem dT_likeliestWayTo_21 : decode mT_likeliestWayTo.2.1 21 = .ok (.getfield 37, 3) := by decide +kernel
theorem dT_likeliestWayTo_24 : decode mT_likeliestWayTo.2.1 24 = .ok (.getfield 75, 3) := by decide +kernel
theorem dT_likeliestWayTo_27 : decode mT_likeliestWayTo.2.1 27 = .ok (.iload 5, 2) := by decide +kernel
theorem dT_likeliestWayTo_29 : decode mT_likeliestWayTo.2.1 29 = .ok (.iaload, 1) := by decide +kernel
theorem dT_likeliestWayTo_30 : decode mT_likeliestWayTo.2.1 30 = .ok (.iload_n 1, 1) := by decide +kernel
theorem dT_likeliestWayTo_31 : decode mT_likeliestWayTo.2.1 31 = .ok (.if_icmp .ne 26, 3) := by decide +kernel
theorem dT_likeliestWayTo_34 : decode mT_likeliestWayTo.2.1 34 = .ok (.aload_n 0, 1) := by decide +kernel
theorem dT_likeliestWayTo_35 : decode mT_likeliestWayTo.2.1 35 = .ok (.getfield 15, 3) := by decide +kernel
theorem dT_likeliestWayTo_38 : decode mT_likeliestWayTo.2.1 38 = .ok (.iload 5, 2) := by decide +kernel
theorem dT_likeliestWayTo_40 : decode mT_likeliestWayTo.2.1 40 = .ok (.laload, 1) := by decide +kernel
theorem dT_likeliestWayTo_41 : decode mT_likeliestWayTo.2.1 41 = .ok (.lload_n 3, 1) := by decide +kernel
theorem dT_likeliestWayTo_42 : decode mT_likeliestWayTo.2.1 42 = .ok (.lcmp, 1) := by decide +kernel
theorem dT_likeliestWayTo_43 : decode mT_likeliestWayTo.2.1 43 = .ok (.ifCond .le 14, 3) := by decide +kernel
theorem dT_likeliestWayTo_46 : decode mT_likeliestWayTo.2.1 46 = .ok (.iload 5, 2) := by decide +kernel
theorem dT_likeliestWayTo_48 : decode mT_likeliestWayTo.2.1 48 = .ok (.istore_n 2, 1) := by decide +kernel
theorem dT_likeliestWayTo_49 : decode mT_likeliestWayTo.2.1 49 = .ok (.aload_n 0, 1) := by decide +kernel
theorem dT_likeliestWayTo_50 : decode mT_likeliestWayTo.2.1 50 = .ok (.getfield 15, 3) := by decide +kernel
theorem dT_likeliestWayTo_53 : decode mT_likeliestWayTo.2.1 53 = .ok (.iload 5, 2) := by decide +kernel
theorem dT_likeliestWayTo_55 : decode mT_likeliestWayTo.2.1 55 = .ok (.laload, 1) := by decide +kernel
theorem dT_likeliestWayTo_56 : decode mT_likeliestWayTo.2.1 56 = .ok (.lstore_n 3, 1) := by decide +kernel
theorem dT_likeliestWayTo_57 : decode mT_likeliestWayTo.2.1 57 = .ok (.iinc 5 1, 3) := by decide +kernel
theorem dT_likeliestWayTo_60 : decode mT_likeliestWayTo.2.1 60 = .ok (.goto (-52), 3) := by decide +kernel
theorem dT_likeliestWayTo_63 : decode mT_likeliestWayTo.2.1 63 = .ok (.iload_n 2, 1) := by decide +kernel
theorem dT_likeliestWayTo_64 : decode mT_likeliestWayTo.2.1 64 = .ok (.ireturn, 1) := by decide +kernel
/- T_likeliestWayTo: (I)I -/
set_option maxRecDepth 4000 in
theorem wT_likeliestWayTo {X : Cx} (a1 : Int) (sw : Bool) (m : Mem) (Q : Int → Bool → Mem → Prop) (h : R2 X 1 mT_likeliestWayTo 8 [(0, vr 37), (1, vi a1), (2, vi (-2)), (3, vl 0), (5, vi 0)] [] sw m Q) : M2 X 1 mT_likeliestWayTo [vr 37, vi a1] sw m Q := by
  refine Mt.of pT_likeliestWayTo (Nat.le_of_ble_eq_true rfl) (Nat.le_refl _) ?_
  show R2 X 1 mT_likeliestWayTo 0 [(0, vr 37), (1, vi a1)] [] sw m Q
  refine r_bipush (by decide) dT_likeliestWayTo_0 ?_
  refine r_istore_n 2 (by decide) dT_likeliestWayTo_2 rfl ?_
  refine r_lconst dT_likeliestWayTo_3 ?_
  refine r_lstore_n 3 (by decide) dT_likeliestWayTo_4 rfl ?_
  refine r_iconst dT_likeliestWayTo_5 ?_
  refine r_istore 5 (by decide) dT_likeliestWayTo_6 ?_
  refine r_sub [3, 4, 2, 1, 0] ?_ h
  rfl
set_option maxRecDepth 4000 in
theorem wT_likeliestWayTo_8 {X : Cx} (x1 x2 x3 x5 : Int) (sw : Bool) (m : Mem) (Q : Int → Bool → Mem → Prop) (h : ((w32 (m 23 5) ≤ w32 x5 → Q x2 sw m) ∧ (¬ (w32 (m 23 5) ≤ w32 x5) → ((0 ≤ w32 x5 ∧ w32 x5 < 512) ∧ ((¬ w32 (m 36 (w32 x5)) = w32 x1 → R2 X 1 mT_likeliestWayTo 8 [(0, vr 37), (1, vi x1), (2, vi x2), (3, vl x3), (5, vi (x5 + 1))] [] sw m Q) ∧ (¬ (¬ w32 (m 36 (w32 x5)) = w32 x1) → ((0 ≤ w32 x5 ∧ w32 x5 < 512) ∧ ((w64 (m 39 (w32 x5)) ≤ w64 x3 → R2 X 1 mT_likeliestWayTo 8 [(0, vr 37), (1, vi x1), (2, vi x2), (3, vl x3), (5, vi (x5 + 1))] [] sw m Q) ∧ (¬ (w64 (m 39 (w32 x5)) ≤ w64 x3) → ((0 ≤ w32 x5 ∧ w32 x5 < 512) ∧ R2 X 1 mT_likeliestWayTo 8 [(0, vr 37), (1, vi x1), (2, vi x5), (3, vl (m 39 (w32 x5))), (5, vi (x5 + 1))] [] sw m Q)))))))))) : R2 X 1 mT_likeliestWayTo 8 [(0, vr 37), (1, vi x1), (2, vi x2), (3, vl x3), (5, vi x5)] [] sw m Q := by
  refine r_iload 5 4 rfl dT_likeliestWayTo_8 ?_
  refine r_aload_n 0 0 rfl dT_likeliestWayTo_10 rfl ?_
  refine q_getR 1 c37 fT_37 rfl rfl (g37_1 sw) (by decide) dT_likeliestWayTo_11 ?_
  refine q_getI 5 c23 fT_72 rfl rfl dT_likeliestWayTo_14 ?_
  refine r_ifc_ge (tgt := 63) dT_likeliestWayTo_17 (by decide) (fun hc => ?_) (fun hc => ?_)
  · replace h := h.1 hc
    refine r_iload_n 2 2 rfl dT_likeliestWayTo_63 rfl ?_
    exact q_iret rfl h dT_likeliestWayTo_64
  · replace h := h.2 hc
    refine r_aload_n 0 0 rfl dT_likeliestWayTo_20 rfl ?_
    refine q_getR 1 c37 fT_37 rfl rfl (g37_1 sw) (by decide) dT_likeliestWayTo_21 ?_
    refine q_getR 4 c23 fT_75 rfl rfl (g23_4 sw) (by decide) dT_likeliestWayTo_24 ?_
    refine r_iload 5 4 rfl dT_likeliestWayTo_27 ?_
    refine q_iaload (w32 x5) rfl c36 h.1 dT_likeliestWayTo_29 ?_
    replace h := h.2
    refine r_iload_n 1 1 rfl dT_likeliestWayTo_30 rfl ?_
    refine r_ifc_ne (tgt := 57) dT_likeliestWayTo_31 (by decide) (fun hc => ?_) (fun hc => ?_)
    · replace h := h.1 hc
      refine r_iinc 5 4 rfl (by decide) dT_likeliestWayTo_57 ?_
      refine r_goto (tgt := 8) dT_likeliestWayTo_60 (by decide) ?_
      refine r_sub [1, 2, 3, 4, 0] ?_ h
      rfl
    · replace h := h.2 hc
      refine r_aload_n 0 0 rfl dT_likeliestWayTo_34 rfl ?_
      refine q_getR 3 c37 fT_15 rfl rfl (g37_3 sw) (by decide) dT_likeliestWayTo_35 ?_
      refine r_iload 5 4 rfl dT_likeliestWayTo_38 ?_
      refine q_laload (w32 x5) rfl c39 h.1 dT_likeliestWayTo_40 ?_
      replace h := h.2
      refine r_lload_n 3 3 rfl dT_likeliestWayTo_41 rfl ?_
      refine q_lc_le (tgt := 57) (A := w64 (m 39 (w32 x5))) (B := w64 x3) rfl rfl dT_likeliestWayTo_42 dT_likeliestWayTo_43 (by decide) (fun hc => ?_) (fun hc => ?_)
      · replace h := h.1 hc
        refine r_iinc 5 4 rfl (by decide) dT_likeliestWayTo_57 ?_
        refine r_goto (tgt := 8) dT_likeliestWayTo_60 (by decide) ?_
        refine r_sub [1, 2, 3, 4, 0] ?_ h
        rfl
      · replace h := h.2 hc
        refine r_iload 5 4 rfl dT_likeliestWayTo_46 ?_
        refine r_istore_n 2 (by decide) dT_likeliestWayTo_48 rfl ?_
        refine r_aload_n 0 1 rfl dT_likeliestWayTo_49 rfl ?_
        refine q_getR 3 c37 fT_15 rfl rfl (g37_3 sw) (by decide) dT_likeliestWayTo_50 ?_
        refine r_iload 5 4 rfl dT_likeliestWayTo_53 ?_
        refine q_laload (w32 x5) rfl c39 h.1 dT_likeliestWayTo_55 ?_
        replace h := h.2
        refine r_lstore_n 3 (by decide) dT_likeliestWayTo_56 rfl ?_
        refine r_iinc 5 4 rfl (by decide) dT_likeliestWayTo_57 ?_
        refine r_goto (tgt := 8) dT_likeliestWayTo_60 (by decide) ?_
        refine r_sub [3, 4, 2, 1, 0] ?_ h
        rfl
