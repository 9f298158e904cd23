theorem dY_worked_0 : decode mY_worked.2.1 0 = .ok (.iconst 0, 1) := by decide +kernel
theorem dY_worked_1 : decode mY_worked.2.1 1 = .ok (.istore 4, 2) := by decide +kernel
theorem dY_worked_3 : decode mY_worked.2.1 3 = .ok (.sipush 130, 3) := by decide +kernel
theorem dY_worked_6 : decode mY_worked.2.1 6 = .ok (.iload_n 1, 1) := by decide +kernel
theorem dY_worked_7 : decode mY_worked.2.1 7 = .ok (.imul, 1) := by decide +kernel
theorem dY_worked_8 : decode mY_worked.2.1 8 = .ok (.iload_n 2, 1) := by decide +kernel
theorem dY_worked_9 : decode mY_worked.2.1 9 = .ok (.iadd, 1) := by decide +kernel
theorem dY_worked_10 : decode mY_worked.2.1 10 = .ok (.istore 5, 2) := by decide +kernel
theorem dY_worked_12 : decode mY_worked.2.1 12 = .ok (.iload 5, 2) := by decide +kernel
theorem dY_worked_14 : decode mY_worked.2.1 14 = .ok (.sipush 130, 3) := by decide +kernel
theorem dY_worked_17 : decode mY_worked.2.1 17 = .ok (.iload_n 1, 1) := by decide +kernel
theorem dY_worked_18 : decode mY_worked.2.1 18 = .ok (.imul, 1) := by decide +kernel
theorem dY_worked_19 : decode mY_worked.2.1 19 = .ok (.iload_n 3, 1) := by decide +kernel
theorem dY_worked_20 : decode mY_worked.2.1 20 = .ok (.iadd, 1) := by decide +kernel
theorem dY_worked_21 : decode mY_worked.2.1 21 = .ok (.if_icmp .ge 167, 3) := by decide +kernel
theorem dY_worked_24 : decode mY_worked.2.1 24 = .ok (.aload_n 0, 1) := by decide +kernel
theorem dY_worked_25 : decode mY_worked.2.1 25 = .ok (.getfield 49, 3) := by decide +kernel
theorem dY_worked_28 : decode mY_worked.2.1 28 = .ok (.iload 5, 2) := by decide +kernel
theorem dY_worked_30 : decode mY_worked.2.1 30 = .ok (.baload, 1) := by decide +kernel
theorem dY_worked_31 : decode mY_worked.2.1 31 = .ok (.istore 6, 2) := by decide +kernel
theorem dY_worked_33 : decode mY_worked.2.1 33 = .ok (.iload 6, 2) := by decide +kernel
theorem dY_worked_35 : decode mY_worked.2.1 35 = .ok (.iconst 1, 1) := by decide +kernel
theorem dY_worked_36 : decode mY_worked.2.1 36 = .ok (.if_icmp .eq 9, 3) := by decide +kernel
theorem dY_worked_39 : decode mY_worked.2.1 39 = .ok (.iload 6, 2) := by decide +kernel
theorem dY_worked_41 : decode mY_worked.2.1 41 = .ok (.iconst 2, 1) := by decide +kernel
theorem dY_worked_42 : decode mY_worked.2.1 42 = .ok (.if_icmp .ne 44, 3) := by decide +kernel
theorem dY_worked_45 : decode mY_worked.2.1 45 = .ok (.aload_n 0, 1) := by decide +kernel
theorem dY_worked_46 : decode mY_worked.2.1 46 = .ok (.getfield 68, 3) := by decide +kernel
theorem dY_worked_49 : decode mY_worked.2.1 49 = .ok (.iload 4, 2) := by decide +kernel
theorem dY_worked_51 : decode mY_worked.2.1 51 = .ok (.iload 6, 2) := by decide +kernel
theorem dY_worked_53 : decode mY_worked.2.1 53 = .ok (.iconst 1, 1) := by decide +kernel
theorem dY_worked_54 : decode mY_worked.2.1 54 = .ok (.if_icmp .ne 13, 3) := by decide +kernel
theorem dY_worked_57 : decode mY_worked.2.1 57 = .ok (.aload_n 0, 1) := by decide +kernel
theorem dY_worked_58 : decode mY_worked.2.1 58 = .ok (.getfield 52, 3) := by decide +kernel
theorem dY_worked_61 : decode mY_worked.2.1 61 = .ok (.iload 5, 2) := by decide +kernel
theorem dY_worked_63 : decode mY_worked.2.1 63 = .ok (.iaload, 1) := by decide +kernel
theorem dY_worked_64 : decode mY_worked.2.1 64 = .ok (.goto 15, 3) := by decide +kernel
theorem dY_worked_67 : decode mY_worked.2.1 67 = .ok (.aload_n 0, 1) := by decide +kernel
theorem dY_worked_68 : decode mY_worked.2.1 68 = .ok (.getfield 65, 3) := by decide +kernel
theorem dY_worked_71 : decode mY_worked.2.1 71 = .ok (.aload_n 0, 1) := by decide +kernel
theorem dY_worked_72 : decode mY_worked.2.1 72 = .ok (.getfield 52, 3) := by decide +kernel
theorem dY_worked_75 : decode mY_worked.2.1 75 = .ok (.iload 5, 2) := by decide +kernel
theorem dY_worked_77 : decode mY_worked.2.1 77 = .ok (.iaload, 1) := by decide +kernel
theorem dY_worked_78 : decode mY_worked.2.1 78 = .ok (.iaload, 1) := by decide +kernel
theorem dY_worked_79 : decode mY_worked.2.1 79 = .ok (.iastore, 1) := by decide +kernel
theorem dY_worked_80 : decode mY_worked.2.1 80 = .ok (.iinc 4 1, 3) := by decide +kernel
theorem dY_worked_83 : decode mY_worked.2.1 83 = .ok (.goto 99, 3) := by decide +kernel
theorem dY_worked_86 : decode mY_worked.2.1 86 = .ok (.iload 6, 2) := by decide +kernel
theorem dY_worked_88 : decode mY_worked.2.1 88 = .ok (.iconst 3, 1) := by decide +kernel
theorem dY_worked_89 : decode mY_worked.2.1 89 = .ok (.if_icmp .ne 32, 3) := by decide +kernel
theorem dY_worked_92 : decode mY_worked.2.1 92 = .ok (.aload_n 0, 1) := by decide +kernel
theorem dY_worked_93 : decode mY_worked.2.1 93 = .ok (.getfield 68, 3) := by decide +kernel
theorem dY_worked_96 : decode mY_worked.2.1 96 = .ok (.iload 4, 2) := by decide +kernel
theorem dY_worked_98 : decode mY_worked.2.1 98 = .ok (.iconst 1, 1) := by decide +kernel
theorem dY_worked_99 : decode mY_worked.2.1 99 = .ok (.isub, 1) := by decide +kernel
theorem dY_worked_100 : decode mY_worked.2.1 100 = .ok (.aload_n 0, 1) := by decide +kernel
theorem dY_worked_101 : decode mY_worked.2.1 101 = .ok (.getfield 68, 3) := by decide +kernel
theorem dY_worked_104 : decode mY_worked.2.1 104 = .ok (.iload 4, 2) := by decide +kernel
theorem dY_worked_106 : decode mY_worked.2.1 106 = .ok (.iconst 1, 1) := by decide +kernel
theorem dY_worked_107 : decode mY_worked.2.1 107 = .ok (.isub, 1) := by decide +kernel
theorem dY_worked_108 : decode mY_worked.2.1 108 = .ok (.iaload, 1) := by decide +kernel
theorem dY_worked_109 : decode mY_worked.2.1 109 = .ok (.ifCond .ne 7, 3) := by decide +kernel
theorem dY_worked_112 : decode mY_worked.2.1 112 = .ok (.iconst 1, 1) := by decide +kernel
theorem dY_worked_113 : decode mY_worked.2.1 113 = .ok (.goto 4, 3) := by decide +kernel
theorem dY_worked_116 : decode mY_worked.2.1 116 = .ok (.iconst 0, 1) := by decide +kernel
theorem dY_worked_117 : decode mY_worked.2.1 117 = .ok (.iastore, 1) := by decide +kernel
theorem dY_worked_118 : decode mY_worked.2.1 118 = .ok (.goto 64, 3) := by decide +kernel
theorem dY_worked_121 : decode mY_worked.2.1 121 = .ok (.iload 6, 2) := by decide +kernel
theorem dY_worked_123 : decode mY_worked.2.1 123 = .ok (.iconst 4, 1) := by decide +kernel
theorem dY_worked_124 : decode mY_worked.2.1 124 = .ok (.if_icmp .ne 25, 3) := by decide +kernel
theorem dY_worked_127 : decode mY_worked.2.1 127 = .ok (.aload_n 0, 1) := by decide +kernel
theorem dY_worked_128 : decode mY_worked.2.1 128 = .ok (.getfield 68, 3) := by decide +kernel
theorem dY_worked_131 : decode mY_worked.2.1 131 = .ok (.iload 4, 2) := by decide +kernel
theorem dY_worked_133 : decode mY_worked.2.1 133 = .ok (.iconst 1, 1) := by decide +kernel
theorem dY_worked_134 : decode mY_worked.2.1 134 = .ok (.isub, 1) := by decide +kernel
theorem dY_worked_135 : decode mY_worked.2.1 135 = .ok (.aload_n 0, 1) := by decide +kernel
theorem dY_worked_136 : decode mY_worked.2.1 136 = .ok (.getfield 68, 3) := by decide +kernel
theorem dY_worked_139 : decode mY_worked.2.1 139 = .ok (.iload 4, 2) := by decide +kernel
theorem dY_worked_141 : decode mY_worked.2.1 141 = .ok (.iconst 1, 1) := by decide +kernel
theorem dY_worked_142 : decode mY_worked.2.1 142 = .ok (.isub, 1) := by decide +kernel
theorem dY_worked_143 : decode mY_worked.2.1 143 = .ok (.iaload, 1) := by decide +kernel
theorem dY_worked_144 : decode mY_worked.2.1 144 = .ok (.ineg, 1) := by decide +kernel
theorem dY_worked_145 : decode mY_worked.2.1 145 = .ok (.iastore, 1) := by decide +kernel
theorem dY_worked_146 : decode mY_worked.2.1 146 = .ok (.goto 36, 3) := by decide +kernel
theorem dY_worked_149 : decode mY_worked.2.1 149 = .ok (.iinc 4 (-1), 3) := by decide +kernel
theorem dY_worked_152 : decode mY_worked.2.1 152 = .ok (.aload_n 0, 1) := by decide +kernel
theorem dY_worked_153 : decode mY_worked.2.1 153 = .ok (.getfield 68, 3) := by decide +kernel
theorem dY_worked_156 : decode mY_worked.2.1 156 = .ok (.iload 4, 2) := by decide +kernel
theorem dY_worked_158 : decode mY_worked.2.1 158 = .ok (.iconst 1, 1) := by decide +kernel
theorem dY_worked_159 : decode mY_worked.2.1 159 = .ok (.isub, 1) := by decide +kernel
theorem dY_worked_160 : decode mY_worked.2.1 160 = .ok (.iload 6, 2) := by decide +kernel
theorem dY_worked_162 : decode mY_worked.2.1 162 = .ok (.aload_n 0, 1) := by decide +kernel
theorem dY_worked_163 : decode mY_worked.2.1 163 = .ok (.getfield 68, 3) := by decide +kernel
theorem dY_worked_166 : decode mY_worked.2.1 166 = .ok (.iload 4, 2) := by decide +kernel
theorem dY_worked_168 : decode mY_worked.2.1 168 = .ok (.iconst 1, 1) := by decide +kernel
theorem dY_worked_169 : decode mY_worked.2.1 169 = .ok (.isub, 1) := by decide +kernel
theorem dY_worked_170 : decode mY_worked.2.1 170 = .ok (.iaload, 1) := by decide +kernel
theorem dY_worked_171 : decode mY_worked.2.1 171 = .ok (.aload_n 0, 1) := by decide +kernel
theorem dY_worked_172 : decode mY_worked.2.1 172 = .ok (.getfield 68, 3) := by decide +kernel
theorem dY_worked_175 : decode mY_worked.2.1 175 = .ok (.iload 4, 2) := by decide +kernel
theorem dY_worked_177 : decode mY_worked.2.1 177 = .ok (.iaload, 1) := by decide +kernel
theorem dY_worked_178 : decode mY_worked.2.1 178 = .ok (.invokestatic 235, 3) := by decide +kernel
theorem dY_worked_181 : decode mY_worked.2.1 181 = .ok (.iastore, 1) := by decide +kernel
theorem dY_worked_182 : decode mY_worked.2.1 182 = .ok (.iinc 5 1, 3) := by decide +kernel
theorem dY_worked_185 : decode mY_worked.2.1 185 = .ok (.goto (-173), 3) := by decide +kernel
theorem dY_worked_188 : decode mY_worked.2.1 188 = .ok (.aload_n 0, 1) := by decide +kernel
theorem dY_worked_189 : decode mY_worked.2.1 189 = .ok (.getfield 68, 3) := by decide +kernel
theorem dY_worked_192 : decode mY_worked.2.1 192 = .ok (.iconst 0, 1) := by decide +kernel
theorem dY_worked_193 : decode mY_worked.2.1 193 = .ok (.iaload, 1) := by decide +kernel
theorem dY_worked_194 : decode mY_worked.2.1 194 = .ok (.ireturn, 1) := by decide +kernel
/- Y_worked: (III)I -/
set_option maxRecDepth 4000 in
theorem wY_worked {X : Cx} (a1 a2 a3 : Int) (sw : Bool) (m : Mem) (Q : Int → Bool → Mem → Prop) (h : R2 X 2 mY_worked 12 [(0, vr 84), (1, vi a1), (3, vi a3), (4, vi 0), (5, vi ((130 * a1) + a2))] [] sw m Q) : M2 X 2 mY_worked [vr 84, vi a1, vi a2, vi a3] sw m Q := by
  refine Mt.of pY_worked (Nat.le_of_ble_eq_true rfl) (Nat.le_refl _) ?_
  show R2 X 2 mY_worked 0 [(0, vr 84), (1, vi a1), (2, vi a2), (3, vi a3)] [] sw m Q
  refine r_iconst dY_worked_0 ?_
  refine r_istore 4 (by decide) dY_worked_1 ?_
  refine r_sipush (by decide) dY_worked_3 ?_
  refine r_iload_n 1 2 rfl dY_worked_6 rfl ?_
  refine r_imul dY_worked_7 ?_
  refine r_iload_n 2 3 rfl dY_worked_8 rfl ?_
  refine r_iadd dY_worked_9 ?_
  refine r_istore 5 (by decide) dY_worked_10 ?_
  refine r_sub [2, 3, 5, 1, 0] ?_ h
  rfl
set_option maxRecDepth 4000 in
theorem wY_worked_12 {X : Cx} (x1 x3 x4 x5 : Int) (sw : Bool) (m : Mem) (Q : Int → Bool → Mem → Prop) (h : ((w32 ((130 * x1) + x3) ≤ w32 x5 → Q (m 103 0) sw m) ∧ (¬ (w32 ((130 * x1) + x3) ≤ w32 x5) → ((0 ≤ w32 x5 ∧ w32 x5 < 260) ∧ ((w32 (m 97 (w32 x5)) = 1 → ((¬ w32 (m 97 (w32 x5)) = 1 → ((0 ≤ w32 x5 ∧ w32 x5 < 260) ∧ ((0 ≤ w32 (m 98 (w32 x5)) ∧ w32 (m 98 (w32 x5)) < 6) ∧ ((0 ≤ w32 x4 ∧ w32 x4 < 130) ∧ R2 X 2 mY_worked 12 [(0, vr 84), (1, vi x1), (3, vi x3), (4, vi (x4 + 1)), (5, vi (x5 + 1))] [] sw (upm m 103 (w32 x4) (m 102 (w32 (m 98 (w32 x5))))) Q)))) ∧ (¬ (¬ w32 (m 97 (w32 x5)) = 1) → ((0 ≤ w32 x5 ∧ w32 x5 < 260) ∧ ((0 ≤ w32 x4 ∧ w32 x4 < 130) ∧ R2 X 2 mY_worked 12 [(0, vr 84), (1, vi x1), (3, vi x3), (4, vi (x4 + 1)), (5, vi (x5 + 1))] [] sw (upm m 103 (w32 x4) (m 98 (w32 x5))) Q))))) ∧ (¬ (w32 (m 97 (w32 x5)) = 1) → ((¬ w32 (m 97 (w32 x5)) = 2 → ((¬ w32 (m 97 (w32 x5)) = 3 → ((¬ w32 (m 97 (w32 x5)) = 4 → ((0 ≤ w32 ((x4 + (-1)) - 1) ∧ w32 ((x4 + (-1)) - 1) < 130) ∧ ((0 ≤ w32 (x4 + (-1)) ∧ w32 (x4 + (-1)) < 130) ∧ M2 X 1 mY_twoOf [vi (m 97 (w32 x5)), vi (m 103 (w32 ((x4 + (-1)) - 1))), vi (m 103 (w32 (x4 + (-1))))] sw m (fun z1 sw1 m1 => ((0 ≤ w32 ((x4 + (-1)) - 1) ∧ w32 ((x4 + (-1)) - 1) < 130) ∧ R2 X 2 mY_worked 12 [(0, vr 84), (1, vi x1), (3, vi x3), (4, vi (x4 + (-1))), (5, vi (x5 + 1))] [] sw1 (upm m1 103 (w32 ((x4 + (-1)) - 1)) z1) Q))))) ∧ (¬ (¬ w32 (m 97 (w32 x5)) = 4) → ((0 ≤ w32 (x4 - 1) ∧ w32 (x4 - 1) < 130) ∧ ((0 ≤ w32 (x4 - 1) ∧ w32 (x4 - 1) < 130) ∧ R2 X 2 mY_worked 12 [(0, vr 84), (1, vi x1), (3, vi x3), (4, vi x4), (5, vi (x5 + 1))] [] sw (upm m 103 (w32 (x4 - 1)) (-(m 103 (w32 (x4 - 1))))) Q))))) ∧ (¬ (¬ w32 (m 97 (w32 x5)) = 3) → ((0 ≤ w32 (x4 - 1) ∧ w32 (x4 - 1) < 130) ∧ ((¬ w32 (m 103 (w32 (x4 - 1))) = 0 → ((0 ≤ w32 (x4 - 1) ∧ w32 (x4 - 1) < 130) ∧ R2 X 2 mY_worked 12 [(0, vr 84), (1, vi x1), (3, vi x3), (4, vi x4), (5, vi (x5 + 1))] [] sw (upm m 103 (w32 (x4 - 1)) 0) Q)) ∧ (¬ (¬ w32 (m 103 (w32 (x4 - 1))) = 0) → ((0 ≤ w32 (x4 - 1) ∧ w32 (x4 - 1) < 130) ∧ R2 X 2 mY_worked 12 [(0, vr 84), (1, vi x1), (3, vi x3), (4, vi x4), (5, vi (x5 + 1))] [] sw (upm m 103 (w32 (x4 - 1)) 1) Q))))))) ∧ (¬ (¬ w32 (m 97 (w32 x5)) = 2) → ((¬ w32 (m 97 (w32 x5)) = 1 → ((0 ≤ w32 x5 ∧ w32 x5 < 260) ∧ ((0 ≤ w32 (m 98 (w32 x5)) ∧ w32 (m 98 (w32 x5)) < 6) ∧ ((0 ≤ w32 x4 ∧ w32 x4 < 130) ∧ R2 X 2 mY_worked 12 [(0, vr 84), (1, vi x1), (3, vi x3), (4, vi (x4 + 1)), (5, vi (x5 + 1))] [] sw (upm m 103 (w32 x4) (m 102 (w32 (m 98 (w32 x5))))) Q)))) ∧ (¬ (¬ w32 (m 97 (w32 x5)) = 1) → ((0 ≤ w32 x5 ∧ w32 x5 < 260) ∧ ((0 ≤ w32 x4 ∧ w32 x4 < 130) ∧ R2 X 2 mY_worked 12 [(0, vr 84), (1, vi x1), (3, vi x3), (4, vi (x4 + 1)), (5, vi (x5 + 1))] [] sw (upm m 103 (w32 x4) (m 98 (w32 x5))) Q)))))))))))) : R2 X 2 mY_worked 12 [(0, vr 84), (1, vi x1), (3, vi x3), (4, vi x4), (5, vi x5)] [] sw m Q := by
  refine r_iload 5 4 rfl dY_worked_12 ?_
  refine r_sipush (by decide) dY_worked_14 ?_
  refine r_iload_n 1 1 rfl dY_worked_17 rfl ?_
  refine r_imul dY_worked_18 ?_
  refine r_iload_n 3 2 rfl dY_worked_19 rfl ?_
  refine r_iadd dY_worked_20 ?_
  refine r_ifc_ge (tgt := 188) dY_worked_21 (by decide) (fun hc => ?_) (fun hc => ?_)
  · replace h := h.1 hc
    refine r_aload_n 0 0 rfl dY_worked_188 rfl ?_
    refine q_getR 27 c84 fY_68 rfl rfl (g84_27 sw) (by decide) dY_worked_189 ?_
    refine r_iconst dY_worked_192 ?_
    refine q_iaload 0 rfl c103 (by decide) dY_worked_193 ?_
    exact q_iret rfl h dY_worked_194
  · replace h := h.2 hc
    refine r_aload_n 0 0 rfl dY_worked_24 rfl ?_
    refine q_getR 21 c84 fY_49 rfl rfl (g84_21 sw) (by decide) dY_worked_25 ?_
    refine r_iload 5 4 rfl dY_worked_28 ?_
    refine q_baload (w32 x5) rfl c97 h.1 dY_worked_30 ?_
    replace h := h.2
    refine r_istore 6 (by decide) dY_worked_31 ?_
    refine r_iload 6 0 rfl dY_worked_33 ?_
    refine r_iconst dY_worked_35 ?_
    refine r_ifc_eq (tgt := 45) dY_worked_36 (by decide) (fun hc => ?_) (fun hc => ?_)
    · replace h := h.1 hc
      refine r_aload_n 0 1 rfl dY_worked_45 rfl ?_
      refine q_getR 27 c84 fY_68 rfl rfl (g84_27 sw) (by decide) dY_worked_46 ?_
      refine r_iload 4 4 rfl dY_worked_49 ?_
      refine r_iload 6 0 rfl dY_worked_51 ?_
      refine r_iconst dY_worked_53 ?_
      refine r_ifc_ne (tgt := 67) dY_worked_54 (by decide) (fun hc => ?_) (fun hc => ?_)
      · replace h := h.1 hc
        refine r_aload_n 0 1 rfl dY_worked_67 rfl ?_
        refine q_getR 26 c84 fY_65 rfl rfl (g84_26 sw) (by decide) dY_worked_68 ?_
        refine r_aload_n 0 1 rfl dY_worked_71 rfl ?_
        refine q_getR 22 c84 fY_52 rfl rfl (g84_22 sw) (by decide) dY_worked_72 ?_
        refine r_iload 5 5 rfl dY_worked_75 ?_
        refine q_iaload (w32 x5) rfl c98 h.1 dY_worked_77 ?_
        replace h := h.2
        refine q_iaload (w32 (m 98 (w32 x5))) rfl c102 h.1 dY_worked_78 ?_
        replace h := h.2
        refine q_iastore (w32 x4) rfl c103 h.1 dY_worked_79 ?_
        replace h := h.2
        refine r_iinc 4 4 rfl (by decide) dY_worked_80 ?_
        refine r_goto (tgt := 182) dY_worked_83 (by decide) ?_
        refine r_iinc 5 5 rfl (by decide) dY_worked_182 ?_
        refine r_goto (tgt := 12) dY_worked_185 (by decide) ?_
        refine r_sub [3, 4, 5, 1, 0] ?_ h
        rfl
      · replace h := h.2 hc
        refine r_aload_n 0 1 rfl dY_worked_57 rfl ?_
        refine q_getR 22 c84 fY_52 rfl rfl (g84_22 sw) (by decide) dY_worked_58 ?_
        refine r_iload 5 5 rfl dY_worked_61 ?_
        refine q_iaload (w32 x5) rfl c98 h.1 dY_worked_63 ?_
        replace h := h.2
        refine r_goto (tgt := 79) dY_worked_64 (by decide) ?_
        refine q_iastore (w32 x4) rfl c103 h.1 dY_worked_79 ?_
        replace h := h.2
        refine r_iinc 4 4 rfl (by decide) dY_worked_80 ?_
        refine r_goto (tgt := 182) dY_worked_83 (by decide) ?_
        refine r_iinc 5 5 rfl (by decide) dY_worked_182 ?_
        refine r_goto (tgt := 12) dY_worked_185 (by decide) ?_
        refine r_sub [3, 4, 5, 1, 0] ?_ h
        rfl
    · replace h := h.2 hc
      refine r_iload 6 0 rfl dY_worked_39 ?_
      refine r_iconst dY_worked_41 ?_
      refine r_ifc_ne (tgt := 86) dY_worked_42 (by decide) (fun hc => ?_) (fun hc => ?_)
      · replace h := h.1 hc
        refine r_iload 6 0 rfl dY_worked_86 ?_
        refine r_iconst dY_worked_88 ?_
        refine r_ifc_ne (tgt := 121) dY_worked_89 (by decide) (fun hc => ?_) (fun hc => ?_)
        · replace h := h.1 hc
          refine r_iload 6 0 rfl dY_worked_121 ?_
          refine r_iconst dY_worked_123 ?_
          refine r_ifc_ne (tgt := 149) dY_worked_124 (by decide) (fun hc => ?_) (fun hc => ?_)
          · replace h := h.1 hc
            refine r_iinc 4 4 rfl (by decide) dY_worked_149 ?_
            refine r_aload_n 0 2 rfl dY_worked_152 rfl ?_
            refine q_getR 27 c84 fY_68 rfl rfl (g84_27 sw) (by decide) dY_worked_153 ?_
            refine r_iload 4 0 rfl dY_worked_156 ?_
            refine r_iconst dY_worked_158 ?_
            refine r_isub dY_worked_159 ?_
            refine r_iload 6 1 rfl dY_worked_160 ?_
            refine r_aload_n 0 2 rfl dY_worked_162 rfl ?_
            refine q_getR 27 c84 fY_68 rfl rfl (g84_27 sw) (by decide) dY_worked_163 ?_
            refine r_iload 4 0 rfl dY_worked_166 ?_
            refine r_iconst dY_worked_168 ?_
            refine r_isub dY_worked_169 ?_
            refine q_iaload (w32 ((x4 + (-1)) - 1)) rfl c103 h.1 dY_worked_170 ?_
            replace h := h.2
            refine r_aload_n 0 2 rfl dY_worked_171 rfl ?_
            refine q_getR 27 c84 fY_68 rfl rfl (g84_27 sw) (by decide) dY_worked_172 ?_
            refine r_iload 4 0 rfl dY_worked_175 ?_
            refine q_iaload (w32 (x4 + (-1))) rfl c103 h.1 dY_worked_177 ?_
            replace h := h.2
            refine r_callSi [_, _, _] rfl oY_twoOf iY_twoOf yY_235 (by decide) ⟨Nat.le_refl _, Nat.le_refl _⟩ rfl (Nat.le_of_ble_eq_true rfl) dY_worked_178 h (fun z1 r1 m1 h => ?_)
            obtain ⟨sw1, rfl, h⟩ := h
            refine q_iastore (w32 ((x4 + (-1)) - 1)) rfl c103 h.1 dY_worked_181 ?_
            replace h := h.2
            refine r_iinc 5 5 rfl (by decide) dY_worked_182 ?_
            refine r_goto (tgt := 12) dY_worked_185 (by decide) ?_
            refine r_sub [3, 4, 5, 1, 0] ?_ h
            rfl
          · replace h := h.2 hc
            refine r_aload_n 0 1 rfl dY_worked_127 rfl ?_
            refine q_getR 27 c84 fY_68 rfl rfl (g84_27 sw) (by decide) dY_worked_128 ?_
            refine r_iload 4 4 rfl dY_worked_131 ?_
            refine r_iconst dY_worked_133 ?_
            refine r_isub dY_worked_134 ?_
            refine r_aload_n 0 1 rfl dY_worked_135 rfl ?_
            refine q_getR 27 c84 fY_68 rfl rfl (g84_27 sw) (by decide) dY_worked_136 ?_
            refine r_iload 4 4 rfl dY_worked_139 ?_
            refine r_iconst dY_worked_141 ?_
            refine r_isub dY_worked_142 ?_
            refine q_iaload (w32 (x4 - 1)) rfl c103 h.1 dY_worked_143 ?_
            replace h := h.2
            refine r_ineg dY_worked_144 ?_
            refine q_iastore (w32 (x4 - 1)) rfl c103 h.1 dY_worked_145 ?_
            replace h := h.2
            refine r_goto (tgt := 182) dY_worked_146 (by decide) ?_
            refine r_iinc 5 5 rfl (by decide) dY_worked_182 ?_
            refine r_goto (tgt := 12) dY_worked_185 (by decide) ?_
            refine r_sub [2, 3, 4, 5, 0] ?_ h
            rfl
        · replace h := h.2 hc
          refine r_aload_n 0 1 rfl dY_worked_92 rfl ?_
          refine q_getR 27 c84 fY_68 rfl rfl (g84_27 sw) (by decide) dY_worked_93 ?_
          refine r_iload 4 4 rfl dY_worked_96 ?_
          refine r_iconst dY_worked_98 ?_
          refine r_isub dY_worked_99 ?_
          refine r_aload_n 0 1 rfl dY_worked_100 rfl ?_
          refine q_getR 27 c84 fY_68 rfl rfl (g84_27 sw) (by decide) dY_worked_101 ?_
          refine r_iload 4 4 rfl dY_worked_104 ?_
          refine r_iconst dY_worked_106 ?_
          refine r_isub dY_worked_107 ?_
          refine q_iaload (w32 (x4 - 1)) rfl c103 h.1 dY_worked_108 ?_
          replace h := h.2
          refine r_if_ne (tgt := 116) dY_worked_109 (by decide) (fun hc => ?_) (fun hc => ?_)
          · replace h := h.1 hc
            refine r_iconst dY_worked_116 ?_
            refine q_iastore (w32 (x4 - 1)) rfl c103 h.1 dY_worked_117 ?_
            replace h := h.2
            refine r_goto (tgt := 182) dY_worked_118 (by decide) ?_
            refine r_iinc 5 5 rfl (by decide) dY_worked_182 ?_
            refine r_goto (tgt := 12) dY_worked_185 (by decide) ?_
            refine r_sub [2, 3, 4, 5, 0] ?_ h
            rfl
          · replace h := h.2 hc
            refine r_iconst dY_worked_112 ?_
            refine r_goto (tgt := 117) dY_worked_113 (by decide) ?_
            refine q_iastore (w32 (x4 - 1)) rfl c103 h.1 dY_worked_117 ?_
            replace h := h.2
            refine r_goto (tgt := 182) dY_worked_118 (by decide) ?_
            refine r_iinc 5 5 rfl (by decide) dY_worked_182 ?_
            refine r_goto (tgt := 12) dY_worked_185 (by decide) ?_
            refine r_sub [2, 3, 4, 5, 0] ?_ h
            rfl
      · replace h := h.2 hc
        refine r_aload_n 0 1 rfl dY_worked_45 rfl ?_
        refine q_getR 27 c84 fY_68 rfl rfl (g84_27 sw) (by decide) dY_worked_46 ?_
        refine r_iload 4 4 rfl dY_worked_49 ?_
        refine r_iload 6 0 rfl dY_worked_51 ?_
        refine r_iconst dY_worked_53 ?_
        refine r_ifc_ne (tgt := 67) dY_worked_54 (by decide) (fun hc => ?_) (fun hc => ?_)
        · replace h := h.1 hc
          refine r_aload_n 0 1 rfl dY_worked_67 rfl ?_
          refine q_getR 26 c84 fY_65 rfl rfl (g84_26 sw) (by decide) dY_worked_68 ?_
          refine r_aload_n 0 1 rfl dY_worked_71 rfl ?_
          refine q_getR 22 c84 fY_52 rfl rfl (g84_22 sw) (by decide) dY_worked_72 ?_
          refine r_iload 5 5 rfl dY_worked_75 ?_
          refine q_iaload (w32 x5) rfl c98 h.1 dY_worked_77 ?_
          replace h := h.2
          refine q_iaload (w32 (m 98 (w32 x5))) rfl c102 h.1 dY_worked_78 ?_
          replace h := h.2
          refine q_iastore (w32 x4) rfl c103 h.1 dY_worked_79 ?_
          replace h := h.2
          refine r_iinc 4 4 rfl (by decide) dY_worked_80 ?_
          refine r_goto (tgt := 182) dY_worked_83 (by decide) ?_
          refine r_iinc 5 5 rfl (by decide) dY_worked_182 ?_
          refine r_goto (tgt := 12) dY_worked_185 (by decide) ?_
          refine r_sub [3, 4, 5, 1, 0] ?_ h
          rfl
        · replace h := h.2 hc
          refine r_aload_n 0 1 rfl dY_worked_57 rfl ?_
          refine q_getR 22 c84 fY_52 rfl rfl (g84_22 sw) (by decide) dY_worked_58 ?_
          refine r_iload 5 5 rfl dY_worked_61 ?_
          refine q_iaload (w32 x5) rfl c98 h.1 dY_worked_63 ?_
          replace h := h.2
          refine r_goto (tgt := 79) dY_worked_64 (by decide) ?_
          refine q_iastore (w32 x4) rfl c103 h.1 dY_worked_79 ?_
          replace h := h.2
          refine r_iinc 4 4 rfl (by decide) dY_worked_80 ?_
          refine r_goto (tgt := 182) dY_worked_83 (by decide) ?_
          refine r_iinc 5 5 rfl (by decide) dY_worked_182 ?_
          refine r_goto (tgt := 12) dY_worked_185 (by decide) ?_
          refine r_sub [3, 4, 5, 1, 0] ?_ h
          rfl
theorem dY_gives_0 : decode mY_gives.2.1 0 = .ok (.iconst 0, 1) := by decide +kernel
theorem dY_gives_1 : decode mY_gives.2.1 1 = .ok (.istore_n 2, 1) := by decide +kernel
theorem dY_gives_2 : decode mY_gives.2.1 2 = .ok (.bipush 61, 2) := by decide +kernel
theorem dY_gives_4 : decode mY_gives.2.1 4 = .ok (.iload_n 1, 1) := by decide +kernel
theorem dY_gives_5 : decode mY_gives.2.1 5 = .ok (.imul, 1) := by decide +kernel
theorem dY_gives_6 : decode mY_gives.2.1 6 = .ok (.istore_n 3, 1) := by decide +kernel
theorem dY_gives_7 : decode mY_gives.2.1 7 = .ok (.iload_n 3, 1) := by decide +kernel
theorem dY_gives_8 : decode mY_gives.2.1 8 = .ok (.bipush 61, 2) := by decide +kernel
theorem dY_gives_10 : decode mY_gives.2.1 10 = .ok (.iload_n 1, 1) := by decide +kernel
theorem dY_gives_11 : decode mY_gives.2.1 11 = .ok (.imul, 1) := by decide +kernel
theorem dY_gives_12 : decode mY_gives.2.1 12 = .ok (.aload_n 0, 1) := by decide +kernel
theorem dY_gives_13 : decode mY_gives.2.1 13 = .ok (.getfield 55, 3) := by decide +kernel
theorem dY_gives_16 : decode mY_gives.2.1 16 = .ok (.iload_n 1, 1) := by decide +kernel
theorem dY_gives_17 : decode mY_gives.2.1 17 = .ok (.iaload, 1) := by decide +kernel
theorem dY_gives_18 : decode mY_gives.2.1 18 = .ok (.iadd, 1) := by decide +kernel
theorem dY_gives_19 : decode mY_gives.2.1 19 = .ok (.if_icmp .ge 59, 3) := by decide +kernel
theorem dY_gives_22 : decode mY_gives.2.1 22 = .ok (.aload_n 0, 1) := by decide +kernel
theorem dY_gives_23 : decode mY_gives.2.1 23 = .ok (.getfield 58, 3) := by decide +kernel
theorem dY_gives_26 : decode mY_gives.2.1 26 = .ok (.iload_n 3, 1) := by decide +kernel
theorem dY_gives_27 : decode mY_gives.2.1 27 = .ok (.saload, 1) := by decide +kernel
theorem dY_gives_28 : decode mY_gives.2.1 28 = .ok (.iload_n 2, 1) := by decide +kernel
theorem dY_gives_29 : decode mY_gives.2.1 29 = .ok (.if_icmp .eq 18, 3) := by decide +kernel
theorem dY_gives_32 : decode mY_gives.2.1 32 = .ok (.aload_n 0, 1) := by decide +kernel
theorem dY_gives_33 : decode mY_gives.2.1 33 = .ok (.iload_n 1, 1) := by decide +kernel
theorem dY_gives_34 : decode mY_gives.2.1 34 = .ok (.iload_n 2, 1) := by decide +kernel
theorem dY_gives_35 : decode mY_gives.2.1 35 = .ok (.aload_n 0, 1) := by decide +kernel
theorem dY_gives_36 : decode mY_gives.2.1 36 = .ok (.getfield 58, 3) := by decide +kernel
theorem dY_gives_39 : decode mY_gives.2.1 39 = .ok (.iload_n 3, 1) := by decide +kernel
theorem dY_gives_40 : decode mY_gives.2.1 40 = .ok (.saload, 1) := by decide +kernel
theorem dY_gives_41 : decode mY_gives.2.1 41 = .ok (.invokevirtual 238, 3) := by decide +kernel
theorem dY_gives_44 : decode mY_gives.2.1 44 = .ok (.ifCond .eq 21, 3) := by decide +kernel
theorem dY_gives_47 : decode mY_gives.2.1 47 = .ok (.aload_n 0, 1) := by decide +kernel
theorem dY_gives_48 : decode mY_gives.2.1 48 = .ok (.iload_n 1, 1) := by decide +kernel
theorem dY_gives_49 : decode mY_gives.2.1 49 = .ok (.aload_n 0, 1) := by decide +kernel
theorem dY_gives_50 : decode mY_gives.2.1 50 = .ok (.getfield 58, 3) := by decide +kernel
theorem dY_gives_53 : decode mY_gives.2.1 53 = .ok (.iload_n 3, 1) := by decide +kernel
theorem dY_gives_54 : decode mY_gives.2.1 54 = .ok (.saload, 1) := by decide +kernel
theorem dY_gives_55 : decode mY_gives.2.1 55 = .ok (.aload_n 0, 1) := by decide +kernel
theorem dY_gives_56 : decode mY_gives.2.1 56 = .ok (.getfield 62, 3) := by decide +kernel
theorem dY_gives_59 : decode mY_gives.2.1 59 = .ok (.iload_n 3, 1) := by decide +kernel
theorem dY_gives_60 : decode mY_gives.2.1 60 = .ok (.saload, 1) := by decide +kernel
theorem dY_gives_61 : decode mY_gives.2.1 61 = .ok (.invokevirtual 238, 3) := by decide +kernel
theorem dY_gives_64 : decode mY_gives.2.1 64 = .ok (.ireturn, 1) := by decide +kernel
theorem dY_gives_65 : decode mY_gives.2.1 65 = .ok (.aload_n 0, 1) := by decide +kernel
theorem dY_gives_66 : decode mY_gives.2.1 66 = .ok (.getfield 62, 3) := by decide +kernel
theorem dY_gives_69 : decode mY_gives.2.1 69 = .ok (.iload_n 3, 1) := by decide +kernel
theorem dY_gives_70 : decode mY_gives.2.1 70 = .ok (.saload, 1) := by decide +kernel
theorem dY_gives_71 : decode mY_gives.2.1 71 = .ok (.istore_n 2, 1) := by decide +kernel
theorem dY_gives_72 : decode mY_gives.2.1 72 = .ok (.iinc 3 1, 3) := by decide +kernel
theorem dY_gives_75 : decode mY_gives.2.1 75 = .ok (.goto (-68), 3) := by decide +kernel
theorem dY_gives_78 : decode mY_gives.2.1 78 = .ok (.iconst 0, 1) := by decide +kernel
theorem dY_gives_79 : decode mY_gives.2.1 79 = .ok (.ireturn, 1) := by decide +kernel
/- Y_gives: (I)I -/
set_option maxRecDepth 4000 in
theorem wY_gives {X : Cx} (a1 : Int) (sw : Bool) (m : Mem) (Q : Int → Bool → Mem → Prop) (h : R2 X 3 mY_gives 7 [(0, vr 84), (1, vi a1), (2, vi 0), (3, vi (61 * a1))] [] sw m Q) : M2 X 3 mY_gives [vr 84, vi a1] sw m Q := by
  refine Mt.of pY_gives (Nat.le_of_ble_eq_true rfl) (Nat.le_refl _) ?_
  show R2 X 3 mY_gives 0 [(0, vr 84), (1, vi a1)] [] sw m Q
  refine r_iconst dY_gives_0 ?_
  refine r_istore_n 2 (by decide) dY_gives_1 rfl ?_
  refine r_bipush (by decide) dY_gives_2 ?_
  refine r_iload_n 1 2 rfl dY_gives_4 rfl ?_
  refine r_imul dY_gives_5 ?_
  refine r_istore_n 3 (by decide) dY_gives_6 rfl ?_
  refine r_sub [2, 3, 1, 0] ?_ h
  rfl
set_option maxRecDepth 4000 in
theorem wY_gives_7 {X : Cx} (x1 x2 x3 : Int) (sw : Bool) (m : Mem) (Q : Int → Bool → Mem → Prop) (h : ((0 ≤ w32 x1 ∧ w32 x1 < 2) ∧ ((w32 ((61 * x1) + (m 99 (w32 x1))) ≤ w32 x3 → Q 0 sw m) ∧ (¬ (w32 ((61 * x1) + (m 99 (w32 x1))) ≤ w32 x3) → ((0 ≤ w32 x3 ∧ w32 x3 < 122) ∧ ((w32 (m 100 (w32 x3)) = w32 x2 → ((0 ≤ w32 x3 ∧ w32 x3 < 122) ∧ ((0 ≤ w32 x3 ∧ w32 x3 < 122) ∧ M2 X 2 mY_worked [vr 84, vi x1, vi (m 100 (w32 x3)), vi (m 101 (w32 x3))] sw m (fun z1 sw1 m1 => Q z1 sw1 m1)))) ∧ (¬ (w32 (m 100 (w32 x3)) = w32 x2) → ((0 ≤ w32 x3 ∧ w32 x3 < 122) ∧ M2 X 2 mY_worked [vr 84, vi x1, vi x2, vi (m 100 (w32 x3))] sw m (fun z2 sw2 m2 => ((w32 z2 = 0 → ((0 ≤ w32 x3 ∧ w32 x3 < 122) ∧ R2 X 3 mY_gives 7 [(0, vr 84), (1, vi x1), (2, vi (m2 101 (w32 x3))), (3, vi (x3 + 1))] [] sw2 m2 Q)) ∧ (¬ (w32 z2 = 0) → ((0 ≤ w32 x3 ∧ w32 x3 < 122) ∧ ((0 ≤ w32 x3 ∧ w32 x3 < 122) ∧ M2 X 2 mY_worked [vr 84, vi x1, vi (m2 100 (w32 x3)), vi (m2 101 (w32 x3))] sw2 m2 (fun z3 sw3 m3 => Q z3 sw3 m3)))))))))))))) : R2 X 3 mY_gives 7 [(0, vr 84), (1, vi x1), (2, vi x2), (3, vi x3)] [] sw m Q := by
  refine r_iload_n 3 3 rfl dY_gives_7 rfl ?_
  refine r_bipush (by decide) dY_gives_8 ?_
  refine r_iload_n 1 1 rfl dY_gives_10 rfl ?_
  refine r_imul dY_gives_11 ?_
  refine r_aload_n 0 0 rfl dY_gives_12 rfl ?_
  refine q_getR 23 c84 fY_55 rfl rfl (g84_23 sw) (by decide) dY_gives_13 ?_
  refine r_iload_n 1 1 rfl dY_gives_16 rfl ?_
  refine q_iaload (w32 x1) rfl c99 h.1 dY_gives_17 ?_
  replace h := h.2
  refine r_iadd dY_gives_18 ?_
  refine r_ifc_ge (tgt := 78) dY_gives_19 (by decide) (fun hc => ?_) (fun hc => ?_)
  · replace h := h.1 hc
    refine r_iconst dY_gives_78 ?_
    exact q_iret rfl h dY_gives_79
  · replace h := h.2 hc
    refine r_aload_n 0 0 rfl dY_gives_22 rfl ?_
    refine q_getR 24 c84 fY_58 rfl rfl (g84_24 sw) (by decide) dY_gives_23 ?_
    refine r_iload_n 3 3 rfl dY_gives_26 rfl ?_
    refine q_saload (w32 x3) rfl c100 h.1 dY_gives_27 ?_
    replace h := h.2
    refine r_iload_n 2 2 rfl dY_gives_28 rfl ?_
    refine r_ifc_eq (tgt := 47) dY_gives_29 (by decide) (fun hc => ?_) (fun hc => ?_)
    · replace h := h.1 hc
      refine r_aload_n 0 0 rfl dY_gives_47 rfl ?_
      refine r_iload_n 1 1 rfl dY_gives_48 rfl ?_
      refine r_aload_n 0 0 rfl dY_gives_49 rfl ?_
      refine q_getR 24 c84 fY_58 rfl rfl (g84_24 sw) (by decide) dY_gives_50 ?_
      refine r_iload_n 3 3 rfl dY_gives_53 rfl ?_
      refine q_saload (w32 x3) rfl c100 h.1 dY_gives_54 ?_
      replace h := h.2
      refine r_aload_n 0 0 rfl dY_gives_55 rfl ?_
      refine q_getR 25 c84 fY_62 rfl rfl (g84_25 sw) (by decide) dY_gives_56 ?_
      refine r_iload_n 3 3 rfl dY_gives_59 rfl ?_
      refine q_saload (w32 x3) rfl c101 h.1 dY_gives_60 ?_
      replace h := h.2
      refine r_callVi 12 [_, _, _] rfl c84 rfl rfl oY_worked iY_worked sY_worked yY_238 (by decide) ⟨Nat.le_refl _, Nat.le_refl _⟩ rfl (Nat.le_of_ble_eq_true rfl) dY_gives_61 h (fun z1 r1 m1 h => ?_)
      obtain ⟨sw1, rfl, h⟩ := h
      exact q_iret rfl h dY_gives_64
    · replace h := h.2 hc
      refine r_aload_n 0 0 rfl dY_gives_32 rfl ?_
      refine r_iload_n 1 1 rfl dY_gives_33 rfl ?_
      refine r_iload_n 2 2 rfl dY_gives_34 rfl ?_
      refine r_aload_n 0 0 rfl dY_gives_35 rfl ?_
      refine q_getR 24 c84 fY_58 rfl rfl (g84_24 sw) (by decide) dY_gives_36 ?_
      refine r_iload_n 3 3 rfl dY_gives_39 rfl ?_
      refine q_saload (w32 x3) rfl c100 h.1 dY_gives_40 ?_
      replace h := h.2
      refine r_callVi 12 [_, _, _] rfl c84 rfl rfl oY_worked iY_worked sY_worked yY_238 (by decide) ⟨Nat.le_refl _, Nat.le_refl _⟩ rfl (Nat.le_of_ble_eq_true rfl) dY_gives_41 h (fun z2 r2 m2 h => ?_)
      obtain ⟨sw2, rfl, h⟩ := h
      refine r_if_eq (tgt := 65) dY_gives_44 (by decide) (fun hc => ?_) (fun hc => ?_)
      · replace h := h.1 hc
        refine r_aload_n 0 0 rfl dY_gives_65 rfl ?_
        refine q_getR 25 c84 fY_62 rfl rfl (g84_25 sw2) (by decide) dY_gives_66 ?_
        refine r_iload_n 3 3 rfl dY_gives_69 rfl ?_
        refine q_saload (w32 x3) rfl c101 h.1 dY_gives_70 ?_
        replace h := h.2
        refine r_istore_n 2 (by decide) dY_gives_71 rfl ?_
        refine r_iinc 3 3 rfl (by decide) dY_gives_72 ?_
        refine r_goto (tgt := 7) dY_gives_75 (by decide) ?_
        refine r_sub [2, 3, 1, 0] ?_ h
        rfl
      · replace h := h.2 hc
        refine r_aload_n 0 0 rfl dY_gives_47 rfl ?_
        refine r_iload_n 1 1 rfl dY_gives_48 rfl ?_
        refine r_aload_n 0 0 rfl dY_gives_49 rfl ?_
        refine q_getR 24 c84 fY_58 rfl rfl (g84_24 sw2) (by decide) dY_gives_50 ?_
        refine r_iload_n 3 3 rfl dY_gives_53 rfl ?_
        refine q_saload (w32 x3) rfl c100 h.1 dY_gives_54 ?_
        replace h := h.2
        refine r_aload_n 0 0 rfl dY_gives_55 rfl ?_
        refine q_getR 25 c84 fY_62 rfl rfl (g84_25 sw2) (by decide) dY_gives_56 ?_
        refine r_iload_n 3 3 rfl dY_gives_59 rfl ?_
        refine q_saload (w32 x3) rfl c101 h.1 dY_gives_60 ?_
        replace h := h.2
        refine r_callVi 12 [_, _, _] rfl c84 rfl rfl oY_worked iY_worked sY_worked yY_238 (by decide) ⟨Nat.le_refl _, Nat.le_refl _⟩ rfl (Nat.le_of_ble_eq_true rfl) dY_gives_61 h (fun z3 r3 m3 h => ?_)
        obtain ⟨sw3, rfl, h⟩ := h
        exact q_iret rfl h dY_gives_64
theorem dY_law_0 : decode mY_law.2.1 0 = .ok (.aload_n 0, 1) := by decide +kernel
theorem dY_law_1 : decode mY_law.2.1 1 = .ok (.iconst 0, 1) := by decide +kernel
theorem dY_law_2 : decode mY_law.2.1 2 = .ok (.invokevirtual 241, 3) := by decide +kernel
theorem dY_law_5 : decode mY_law.2.1 5 = .ok (.istore_n 1, 1) := by decide +kernel
theorem dY_law_6 : decode mY_law.2.1 6 = .ok (.iload_n 1, 1) := by decide +kernel
theorem dY_law_7 : decode mY_law.2.1 7 = .ok (.ifCond .lt 8, 3) := by decide +kernel
theorem dY_law_10 : decode mY_law.2.1 10 = .ok (.bipush (-100), 2) := by decide +kernel
theorem dY_law_12 : decode mY_law.2.1 12 = .ok (.iload_n 1, 1) := by decide +kernel
theorem dY_law_13 : decode mY_law.2.1 13 = .ok (.isub, 1) := by decide +kernel
theorem dY_law_14 : decode mY_law.2.1 14 = .ok (.ireturn, 1) := by decide +kernel
theorem dY_law_15 : decode mY_law.2.1 15 = .ok (.aload_n 0, 1) := by decide +kernel
theorem dY_law_16 : decode mY_law.2.1 16 = .ok (.iconst 1, 1) := by decide +kernel
theorem dY_law_17 : decode mY_law.2.1 17 = .ok (.putfield 244, 3) := by decide +kernel
theorem dY_law_20 : decode mY_law.2.1 20 = .ok (.iconst 1, 1) := by decide +kernel
theorem dY_law_21 : decode mY_law.2.1 21 = .ok (.ireturn, 1) := by decide +kernel
/- Y_law: ()I -/
set_option maxRecDepth 4000 in
theorem wY_law {X : Cx} (sw : Bool) (m : Mem) (Q : Int → Bool → Mem → Prop) (h : M2 X 82 mY_readText [vr 84, vi 0] sw m (fun z1 sw1 m1 => ((w32 z1 < 0 → Q 1 sw1 (upm m1 84 28 1)) ∧ (¬ (w32 z1 < 0) → Q ((-100) - z1) sw1 m1)))) : M2 X 83 mY_law [vr 84] sw m Q := by
  refine Mt.of pY_law (Nat.le_of_ble_eq_true rfl) (Nat.le_refl _) ?_
  show R2 X 83 mY_law 0 [(0, vr 84)] [] sw m Q
  refine r_aload_n 0 0 rfl dY_law_0 rfl ?_
  refine r_iconst dY_law_1 ?_
  refine r_callVi 12 [_] rfl c84 rfl rfl oY_readText iY_readText sY_readText yY_241 (by decide) ⟨Nat.le_refl _, Nat.le_refl _⟩ rfl (Nat.le_of_ble_eq_true rfl) dY_law_2 h (fun z1 r1 m1 h => ?_)
  obtain ⟨sw1, rfl, h⟩ := h
  refine r_istore_n 1 (by decide) dY_law_5 rfl ?_
  refine r_iload_n 1 0 rfl dY_law_6 rfl ?_
  refine r_if_lt (tgt := 15) dY_law_7 (by decide) (fun hc => ?_) (fun hc => ?_)
  · replace h := h.1 hc
    refine r_aload_n 0 1 rfl dY_law_15 rfl ?_
    refine r_iconst dY_law_16 ?_
    refine q_putZ 28 c84 pfY_244 rfl rfl (Or.inr rfl) dY_law_17 ?_
    refine r_iconst dY_law_20 ?_
    exact q_iret rfl h dY_law_21
  · replace h := h.2 hc
    refine r_bipush (by decide) dY_law_10 ?_
    refine r_iload_n 1 0 rfl dY_law_12 rfl ?_
    refine r_isub dY_law_13 ?_
    exact q_iret rfl h dY_law_14
theorem dY_twelfthsOf_0 : decode mY_twelfthsOf.2.1 0 = .ok (.aload_n 0, 1) := by decide +kernel
theorem dY_twelfthsOf_1 : decode mY_twelfthsOf.2.1 1 = .ok (.getfield 18, 3) := by decide +kernel
theorem dY_twelfthsOf_4 : decode mY_twelfthsOf.2.1 4 = .ok (.iload_n 1, 1) := by decide +kernel
theorem dY_twelfthsOf_5 : decode mY_twelfthsOf.2.1 5 = .ok (.iaload, 1) := by decide +kernel
theorem dY_twelfthsOf_6 : decode mY_twelfthsOf.2.1 6 = .ok (.aload_n 0, 1) := by decide +kernel
theorem dY_twelfthsOf_7 : decode mY_twelfthsOf.2.1 7 = .ok (.getfield 30, 3) := by decide +kernel
theorem dY_twelfthsOf_10 : decode mY_twelfthsOf.2.1 10 = .ok (.iconst 0, 1) := by decide +kernel
theorem dY_twelfthsOf_11 : decode mY_twelfthsOf.2.1 11 = .ok (.iaload, 1) := by decide +kernel
theorem dY_twelfthsOf_12 : decode mY_twelfthsOf.2.1 12 = .ok (.iconst 3, 1) := by decide +kernel
theorem dY_twelfthsOf_13 : decode mY_twelfthsOf.2.1 13 = .ok (.idiv, 1) := by decide +kernel
theorem dY_twelfthsOf_14 : decode mY_twelfthsOf.2.1 14 = .ok (.isub, 1) := by decide +kernel
theorem dY_twelfthsOf_15 : decode mY_twelfthsOf.2.1 15 = .ok (.aload_n 0, 1) := by decide +kernel
theorem dY_twelfthsOf_16 : decode mY_twelfthsOf.2.1 16 = .ok (.getfield 27, 3) := by decide +kernel
theorem dY_twelfthsOf_19 : decode mY_twelfthsOf.2.1 19 = .ok (.iload_n 1, 1) := by decide +kernel
theorem dY_twelfthsOf_20 : decode mY_twelfthsOf.2.1 20 = .ok (.iaload, 1) := by decide +kernel
theorem dY_twelfthsOf_21 : decode mY_twelfthsOf.2.1 21 = .ok (.aload_n 0, 1) := by decide +kernel
theorem dY_twelfthsOf_22 : decode mY_twelfthsOf.2.1 22 = .ok (.getfield 24, 3) := by decide +kernel
theorem dY_twelfthsOf_25 : decode mY_twelfthsOf.2.1 25 = .ok (.iload_n 1, 1) := by decide +kernel
theorem dY_twelfthsOf_26 : decode mY_twelfthsOf.2.1 26 = .ok (.iaload, 1) := by decide +kernel
theorem dY_twelfthsOf_27 : decode mY_twelfthsOf.2.1 27 = .ok (.imul, 1) := by decide +kernel
theorem dY_twelfthsOf_28 : decode mY_twelfthsOf.2.1 28 = .ok (.bipush 10, 2) := by decide +kernel
theorem dY_twelfthsOf_30 : decode mY_twelfthsOf.2.1 30 = .ok (.idiv, 1) := by decide +kernel
theorem dY_twelfthsOf_31 : decode mY_twelfthsOf.2.1 31 = .ok (.isub, 1) := by decide +kernel
theorem dY_twelfthsOf_32 : decode mY_twelfthsOf.2.1 32 = .ok (.aload_n 0, 1) := by decide +kernel
theorem dY_twelfthsOf_33 : decode mY_twelfthsOf.2.1 33 = .ok (.getfield 30, 3) := by decide +kernel
theorem dY_twelfthsOf_36 : decode mY_twelfthsOf.2.1 36 = .ok (.iconst 1, 1) := by decide +kernel
theorem dY_twelfthsOf_37 : decode mY_twelfthsOf.2.1 37 = .ok (.iaload, 1) := by decide +kernel
theorem dY_twelfthsOf_38 : decode mY_twelfthsOf.2.1 38 = .ok (.isub, 1) := by decide +kernel
theorem dY_twelfthsOf_39 : decode mY_twelfthsOf.2.1 39 = .ok (.istore_n 2, 1) := by decide +kernel
theorem dY_twelfthsOf_40 : decode mY_twelfthsOf.2.1 40 = .ok (.aload_n 0, 1) := by decide +kernel
theorem dY_twelfthsOf_41 : decode mY_twelfthsOf.2.1 41 = .ok (.getfield 244, 3) := by decide +kernel
theorem dY_twelfthsOf_44 : decode mY_twelfthsOf.2.1 44 = .ok (.ifCond .eq 76, 3) := by decide +kernel
theorem dY_twelfthsOf_47 : decode mY_twelfthsOf.2.1 47 = .ok (.aload_n 0, 1) := by decide +kernel
theorem dY_twelfthsOf_48 : decode mY_twelfthsOf.2.1 48 = .ok (.getfield 65, 3) := by decide +kernel
theorem dY_twelfthsOf_51 : decode mY_twelfthsOf.2.1 51 = .ok (.iconst 0, 1) := by decide +kernel
theorem dY_twelfthsOf_52 : decode mY_twelfthsOf.2.1 52 = .ok (.aload_n 0, 1) := by decide +kernel
theorem dY_twelfthsOf_53 : decode mY_twelfthsOf.2.1 53 = .ok (.getfield 18, 3) := by decide +kernel
theorem dY_twelfthsOf_56 : decode mY_twelfthsOf.2.1 56 = .ok (.iload_n 1, 1) := by decide +kernel
theorem dY_twelfthsOf_57 : decode mY_twelfthsOf.2.1 57 = .ok (.iaload, 1) := by decide +kernel
theorem dY_twelfthsOf_58 : decode mY_twelfthsOf.2.1 58 = .ok (.iastore, 1) := by decide +kernel
theorem dY_twelfthsOf_59 : decode mY_twelfthsOf.2.1 59 = .ok (.aload_n 0, 1) := by decide +kernel
theorem dY_twelfthsOf_60 : decode mY_twelfthsOf.2.1 60 = .ok (.getfield 65, 3) := by decide +kernel
theorem dY_twelfthsOf_63 : decode mY_twelfthsOf.2.1 63 = .ok (.iconst 1, 1) := by decide +kernel
theorem dY_twelfthsOf_64 : decode mY_twelfthsOf.2.1 64 = .ok (.aload_n 0, 1) := by decide +kernel
theorem dY_twelfthsOf_65 : decode mY_twelfthsOf.2.1 65 = .ok (.getfield 30, 3) := by decide +kernel
theorem dY_twelfthsOf_68 : decode mY_twelfthsOf.2.1 68 = .ok (.iconst 0, 1) := by decide +kernel
theorem dY_twelfthsOf_69 : decode mY_twelfthsOf.2.1 69 = .ok (.iaload, 1) := by decide +kernel
theorem dY_twelfthsOf_70 : decode mY_twelfthsOf.2.1 70 = .ok (.iastore, 1) := by decide +kernel
theorem dY_twelfthsOf_71 : decode mY_twelfthsOf.2.1 71 = .ok (.aload_n 0, 1) := by decide +kernel
theorem dY_twelfthsOf_72 : decode mY_twelfthsOf.2.1 72 = .ok (.getfield 65, 3) := by decide +kernel
theorem dY_twelfthsOf_75 : decode mY_twelfthsOf.2.1 75 = .ok (.iconst 2, 1) := by decide +kernel
theorem dY_twelfthsOf_76 : decode mY_twelfthsOf.2.1 76 = .ok (.aload_n 0, 1) := by decide +kernel
theorem dY_twelfthsOf_77 : decode mY_twelfthsOf.2.1 77 = .ok (.getfield 27, 3) := by decide +kernel
theorem dY_twelfthsOf_80 : decode mY_twelfthsOf.2.1 80 = .ok (.iload_n 1, 1) := by decide +kernel
theorem dY_twelfthsOf_81 : decode mY_twelfthsOf.2.1 81 = .ok (.iaload, 1) := by decide +kernel
theorem dY_twelfthsOf_82 : decode mY_twelfthsOf.2.1 82 = .ok (.iastore, 1) := by decide +kernel
theorem dY_twelfthsOf_83 : decode mY_twelfthsOf.2.1 83 = .ok (.aload_n 0, 1) := by decide +kernel
theorem dY_twelfthsOf_84 : decode mY_twelfthsOf.2.1 84 = .ok (.getfield 65, 3) := by decide +kernel
theorem dY_twelfthsOf_87 : decode mY_twelfthsOf.2.1 87 = .ok (.iconst 3, 1) := by decide +kernel
theorem dY_twelfthsOf_88 : decode mY_twelfthsOf.2.1 88 = .ok (.aload_n 0, 1) := by decide +kernel
theorem dY_twelfthsOf_89 : decode mY_twelfthsOf.2.1 89 = .ok (.getfield 24, 3) := by decide +kernel
theorem dY_twelfthsOf_92 : decode mY_twelfthsOf.2.1 92 = .ok (.iload_n 1, 1) := by decide +kernel
theorem dY_twelfthsOf_93 : decode mY_twelfthsOf.2.1 93 = .ok (.iaload, 1) := by decide +kernel
theorem dY_twelfthsOf_94 : decode mY_twelfthsOf.2.1 94 = .ok (.iastore, 1) := by decide +kernel
theorem dY_twelfthsOf_95 : decode mY_twelfthsOf.2.1 95 = .ok (.aload_n 0, 1) := by decide +kernel
theorem dY_twelfthsOf_96 : decode mY_twelfthsOf.2.1 96 = .ok (.getfield 65, 3) := by decide +kernel
theorem dY_twelfthsOf_99 : decode mY_twelfthsOf.2.1 99 = .ok (.iconst 4, 1) := by decide +kernel
theorem dY_twelfthsOf_100 : decode mY_twelfthsOf.2.1 100 = .ok (.aload_n 0, 1) := by decide +kernel
theorem dY_twelfthsOf_101 : decode mY_twelfthsOf.2.1 101 = .ok (.getfield 30, 3) := by decide +kernel
theorem dY_twelfthsOf_104 : decode mY_twelfthsOf.2.1 104 = .ok (.iconst 1, 1) := by decide +kernel
theorem dY_twelfthsOf_105 : decode mY_twelfthsOf.2.1 105 = .ok (.iaload, 1) := by decide +kernel
theorem dY_twelfthsOf_106 : decode mY_twelfthsOf.2.1 106 = .ok (.iastore, 1) := by decide +kernel
theorem dY_twelfthsOf_107 : decode mY_twelfthsOf.2.1 107 = .ok (.aload_n 0, 1) := by decide +kernel
theorem dY_twelfthsOf_108 : decode mY_twelfthsOf.2.1 108 = .ok (.getfield 65, 3) := by decide +kernel
theorem dY_twelfthsOf_111 : decode mY_twelfthsOf.2.1 111 = .ok (.iconst 5, 1) := by decide +kernel
theorem dY_twelfthsOf_112 : decode mY_twelfthsOf.2.1 112 = .ok (.iload_n 1, 1) := by decide +kernel
theorem dY_twelfthsOf_113 : decode mY_twelfthsOf.2.1 113 = .ok (.iastore, 1) := by decide +kernel
theorem dY_twelfthsOf_114 : decode mY_twelfthsOf.2.1 114 = .ok (.aload_n 0, 1) := by decide +kernel
theorem dY_twelfthsOf_115 : decode mY_twelfthsOf.2.1 115 = .ok (.iconst 0, 1) := by decide +kernel
theorem dY_twelfthsOf_116 : decode mY_twelfthsOf.2.1 116 = .ok (.invokevirtual 248, 3) := by decide +kernel
theorem dY_twelfthsOf_119 : decode mY_twelfthsOf.2.1 119 = .ok (.istore_n 2, 1) := by decide +kernel
theorem dY_twelfthsOf_120 : decode mY_twelfthsOf.2.1 120 = .ok (.iload_n 2, 1) := by decide +kernel
theorem dY_twelfthsOf_121 : decode mY_twelfthsOf.2.1 121 = .ok (.ifCond .ge 7, 3) := by decide +kernel
theorem dY_twelfthsOf_124 : decode mY_twelfthsOf.2.1 124 = .ok (.iconst 0, 1) := by decide +kernel
theorem dY_twelfthsOf_125 : decode mY_twelfthsOf.2.1 125 = .ok (.goto 15, 3) := by decide +kernel
theorem dY_twelfthsOf_128 : decode mY_twelfthsOf.2.1 128 = .ok (.iload_n 2, 1) := by decide +kernel
theorem dY_twelfthsOf_129 : decode mY_twelfthsOf.2.1 129 = .ok (.bipush 12, 2) := by decide +kernel
theorem dY_twelfthsOf_131 : decode mY_twelfthsOf.2.1 131 = .ok (.if_icmp .le 8, 3) := by decide +kernel
theorem dY_twelfthsOf_134 : decode mY_twelfthsOf.2.1 134 = .ok (.bipush 12, 2) := by decide +kernel
theorem dY_twelfthsOf_136 : decode mY_twelfthsOf.2.1 136 = .ok (.goto 4, 3) := by decide +kernel
theorem dY_twelfthsOf_139 : decode mY_twelfthsOf.2.1 139 = .ok (.iload_n 2, 1) := by decide +kernel
theorem dY_twelfthsOf_140 : decode mY_twelfthsOf.2.1 140 = .ok (.ireturn, 1) := by decide +kernel
/- Y_twelfthsOf: (I)I -/
set_option maxRecDepth 4000 in
theorem wY_twelfthsOf {X : Cx} (a1 : Int) (sw : Bool) (m : Mem) (Q : Int → Bool → Mem → Prop) (h : ((0 ≤ w32 a1 ∧ w32 a1 < 9) ∧ ((0 ≤ w32 a1 ∧ w32 a1 < 9) ∧ ((0 ≤ w32 a1 ∧ w32 a1 < 9) ∧ ((w32 (m 84 28) = 0 → ((0 ≤ w32 ((((m 87 (w32 a1)) - (zdiv (m 91 0) 3)) - (zdiv ((m 90 (w32 a1)) * (m 89 (w32 a1))) 10)) - (m 91 1)) → ((w32 ((((m 87 (w32 a1)) - (zdiv (m 91 0) 3)) - (zdiv ((m 90 (w32 a1)) * (m 89 (w32 a1))) 10)) - (m 91 1)) ≤ 12 → Q ((((m 87 (w32 a1)) - (zdiv (m 91 0) 3)) - (zdiv ((m 90 (w32 a1)) * (m 89 (w32 a1))) 10)) - (m 91 1)) sw m) ∧ (¬ (w32 ((((m 87 (w32 a1)) - (zdiv (m 91 0) 3)) - (zdiv ((m 90 (w32 a1)) * (m 89 (w32 a1))) 10)) - (m 91 1)) ≤ 12) → Q 12 sw m))) ∧ (¬ (0 ≤ w32 ((((m 87 (w32 a1)) - (zdiv (m 91 0) 3)) - (zdiv ((m 90 (w32 a1)) * (m 89 (w32 a1))) 10)) - (m 91 1))) → Q 0 sw m))) ∧ (¬ (w32 (m 84 28) = 0) → ((0 ≤ w32 a1 ∧ w32 a1 < 9) ∧ ((0 ≤ w32 a1 ∧ w32 a1 < 9) ∧ ((0 ≤ w32 a1 ∧ w32 a1 < 9) ∧ M2 X 3 mY_gives [vr 84, vi 0] sw (upm (upm (upm (upm (upm (upm m 102 0 (m 87 (w32 a1))) 102 1 (m 91 0)) 102 2 (m 90 (w32 a1))) 102 3 (m 89 (w32 a1))) 102 4 (m 91 1)) 102 5 a1) (fun z1 sw1 m1 => ((0 ≤ w32 z1 → ((w32 z1 ≤ 12 → Q z1 sw1 m1) ∧ (¬ (w32 z1 ≤ 12) → Q 12 sw1 m1))) ∧ (¬ (0 ≤ w32 z1) → Q 0 sw1 m1)))))))))))) : M2 X 4 mY_twelfthsOf [vr 84, vi a1] sw m Q := by
  refine Mt.of pY_twelfthsOf (Nat.le_of_ble_eq_true rfl) (Nat.le_refl _) ?_
  show R2 X 4 mY_twelfthsOf 0 [(0, vr 84), (1, vi a1)] [] sw m Q
  refine r_aload_n 0 0 rfl dY_twelfthsOf_0 rfl ?_
  refine q_getR 4 c84 fY_18 rfl rfl (g84_4 sw) (by decide) dY_twelfthsOf_1 ?_
  refine r_iload_n 1 1 rfl dY_twelfthsOf_4 rfl ?_
  refine q_iaload (w32 a1) rfl c87 h.1 dY_twelfthsOf_5 ?_
  replace h := h.2
  refine r_aload_n 0 0 rfl dY_twelfthsOf_6 rfl ?_
  refine q_getR 8 c84 fY_30 rfl rfl (g84_8 sw) (by decide) dY_twelfthsOf_7 ?_
  refine r_iconst dY_twelfthsOf_10 ?_
  refine q_iaload 0 rfl c91 (by decide) dY_twelfthsOf_11 ?_
  refine r_iconst dY_twelfthsOf_12 ?_
  refine r_idiv (by decide) dY_twelfthsOf_13 ?_
  refine r_isub dY_twelfthsOf_14 ?_
  refine r_aload_n 0 0 rfl dY_twelfthsOf_15 rfl ?_
  refine q_getR 7 c84 fY_27 rfl rfl (g84_7 sw) (by decide) dY_twelfthsOf_16 ?_
  refine r_iload_n 1 1 rfl dY_twelfthsOf_19 rfl ?_
  refine q_iaload (w32 a1) rfl c90 h.1 dY_twelfthsOf_20 ?_
  replace h := h.2
  refine r_aload_n 0 0 rfl dY_twelfthsOf_21 rfl ?_
  refine q_getR 6 c84 fY_24 rfl rfl (g84_6 sw) (by decide) dY_twelfthsOf_22 ?_
  refine r_iload_n 1 1 rfl dY_twelfthsOf_25 rfl ?_
  refine q_iaload (w32 a1) rfl c89 h.1 dY_twelfthsOf_26 ?_
  replace h := h.2
  refine r_imul dY_twelfthsOf_27 ?_
  refine r_bipush (by decide) dY_twelfthsOf_28 ?_
  refine r_idiv (by decide) dY_twelfthsOf_30 ?_
  refine r_isub dY_twelfthsOf_31 ?_
  refine r_aload_n 0 0 rfl dY_twelfthsOf_32 rfl ?_
  refine q_getR 8 c84 fY_30 rfl rfl (g84_8 sw) (by decide) dY_twelfthsOf_33 ?_
  refine r_iconst dY_twelfthsOf_36 ?_
  refine q_iaload 1 rfl c91 (by decide) dY_twelfthsOf_37 ?_
  refine r_isub dY_twelfthsOf_38 ?_
  refine r_istore_n 2 (by decide) dY_twelfthsOf_39 rfl ?_
  refine r_aload_n 0 1 rfl dY_twelfthsOf_40 rfl ?_
  refine q_getZ 28 c84 fY_244 rfl rfl dY_twelfthsOf_41 ?_
  refine r_if_eq (tgt := 120) dY_twelfthsOf_44 (by decide) (fun hc => ?_) (fun hc => ?_)
  · replace h := h.1 hc
    refine r_iload_n 2 0 rfl dY_twelfthsOf_120 rfl ?_
    refine r_if_ge (tgt := 128) dY_twelfthsOf_121 (by decide) (fun hc => ?_) (fun hc => ?_)
    · replace h := h.1 hc
      refine r_iload_n 2 0 rfl dY_twelfthsOf_128 rfl ?_
      refine r_bipush (by decide) dY_twelfthsOf_129 ?_
      refine r_ifc_le (tgt := 139) dY_twelfthsOf_131 (by decide) (fun hc => ?_) (fun hc => ?_)
      · replace h := h.1 hc
        refine r_iload_n 2 0 rfl dY_twelfthsOf_139 rfl ?_
        exact q_iret rfl h dY_twelfthsOf_140
      · replace h := h.2 hc
        refine r_bipush (by decide) dY_twelfthsOf_134 ?_
        refine r_goto (tgt := 140) dY_twelfthsOf_136 (by decide) ?_
        exact q_iret rfl h dY_twelfthsOf_140
    · replace h := h.2 hc
      refine r_iconst dY_twelfthsOf_124 ?_
      refine r_goto (tgt := 140) dY_twelfthsOf_125 (by decide) ?_
      exact q_iret rfl h dY_twelfthsOf_140
  · replace h := h.2 hc
    refine r_aload_n 0 1 rfl dY_twelfthsOf_47 rfl ?_
    refine q_getR 26 c84 fY_65 rfl rfl (g84_26 sw) (by decide) dY_twelfthsOf_48 ?_
    refine r_iconst dY_twelfthsOf_51 ?_
    refine r_aload_n 0 1 rfl dY_twelfthsOf_52 rfl ?_
    refine q_getR 4 c84 fY_18 rfl rfl (g84_4 sw) (by decide) dY_twelfthsOf_53 ?_
    refine r_iload_n 1 2 rfl dY_twelfthsOf_56 rfl ?_
    refine q_iaload (w32 a1) rfl c87 h.1 dY_twelfthsOf_57 ?_
    replace h := h.2
    refine q_iastore 0 rfl c102 (by decide) dY_twelfthsOf_58 ?_
    refine r_aload_n 0 1 rfl dY_twelfthsOf_59 rfl ?_
    refine q_getR 26 c84 fY_65 rfl rfl (g84_26 sw) (by decide) dY_twelfthsOf_60 ?_
    refine r_iconst dY_twelfthsOf_63 ?_
    refine r_aload_n 0 1 rfl dY_twelfthsOf_64 rfl ?_
    refine q_getR 8 c84 fY_30 rfl rfl (g84_8 sw) (by decide) dY_twelfthsOf_65 ?_
    refine r_iconst dY_twelfthsOf_68 ?_
    refine q_iaload 0 rfl c91 (by decide) dY_twelfthsOf_69 ?_
    refine q_iastore 1 rfl c102 (by decide) dY_twelfthsOf_70 ?_
    refine r_aload_n 0 1 rfl dY_twelfthsOf_71 rfl ?_
    refine q_getR 26 c84 fY_65 rfl rfl (g84_26 sw) (by decide) dY_twelfthsOf_72 ?_
    refine r_iconst dY_twelfthsOf_75 ?_
    refine r_aload_n 0 1 rfl dY_twelfthsOf_76 rfl ?_
    refine q_getR 7 c84 fY_27 rfl rfl (g84_7 sw) (by decide) dY_twelfthsOf_77 ?_
    refine r_iload_n 1 2 rfl dY_twelfthsOf_80 rfl ?_
    refine q_iaload (w32 a1) rfl c90 h.1 dY_twelfthsOf_81 ?_
    replace h := h.2
    refine q_iastore 2 rfl c102 (by decide) dY_twelfthsOf_82 ?_
    refine r_aload_n 0 1 rfl dY_twelfthsOf_83 rfl ?_
    refine q_getR 26 c84 fY_65 rfl rfl (g84_26 sw) (by decide) dY_twelfthsOf_84 ?_
    refine r_iconst dY_twelfthsOf_87 ?_
    refine r_aload_n 0 1 rfl dY_twelfthsOf_88 rfl ?_
    refine q_getR 6 c84 fY_24 rfl rfl (g84_6 sw) (by decide) dY_twelfthsOf_89 ?_
    refine r_iload_n 1 2 rfl dY_twelfthsOf_92 rfl ?_
    refine q_iaload (w32 a1) rfl c89 h.1 dY_twelfthsOf_93 ?_
    replace h := h.2
    refine q_iastore 3 rfl c102 (by decide) dY_twelfthsOf_94 ?_
    refine r_aload_n 0 1 rfl dY_twelfthsOf_95 rfl ?_
    refine q_getR 26 c84 fY_65 rfl rfl (g84_26 sw) (by decide) dY_twelfthsOf_96 ?_
    refine r_iconst dY_twelfthsOf_99 ?_
    refine r_aload_n 0 1 rfl dY_twelfthsOf_100 rfl ?_
    refine q_getR 8 c84 fY_30 rfl rfl (g84_8 sw) (by decide) dY_twelfthsOf_101 ?_
    refine r_iconst dY_twelfthsOf_104 ?_
    refine q_iaload 1 rfl c91 (by decide) dY_twelfthsOf_105 ?_
    refine q_iastore 4 rfl c102 (by decide) dY_twelfthsOf_106 ?_
    refine r_aload_n 0 1 rfl dY_twelfthsOf_107 rfl ?_
    refine q_getR 26 c84 fY_65 rfl rfl (g84_26 sw) (by decide) dY_twelfthsOf_108 ?_
    refine r_iconst dY_twelfthsOf_111 ?_
    refine r_iload_n 1 2 rfl dY_twelfthsOf_112 rfl ?_
    refine q_iastore 5 rfl c102 (by decide) dY_twelfthsOf_113 ?_
    refine r_aload_n 0 1 rfl dY_twelfthsOf_114 rfl ?_
    refine r_iconst dY_twelfthsOf_115 ?_
    refine r_callVi 12 [_] rfl c84 rfl rfl oY_gives iY_gives sY_gives yY_248 (by decide) ⟨Nat.le_refl _, Nat.le_refl _⟩ rfl (Nat.le_of_ble_eq_true rfl) dY_twelfthsOf_116 h (fun z1 r1 m1 h => ?_)
    obtain ⟨sw1, rfl, h⟩ := h
    refine r_istore_n 2 (by decide) dY_twelfthsOf_119 rfl ?_
    refine r_iload_n 2 0 rfl dY_twelfthsOf_120 rfl ?_
    refine r_if_ge (tgt := 128) dY_twelfthsOf_121 (by decide) (fun hc => ?_) (fun hc => ?_)
    · replace h := h.1 hc
      refine r_iload_n 2 0 rfl dY_twelfthsOf_128 rfl ?_
      refine r_bipush (by decide) dY_twelfthsOf_129 ?_
      refine r_ifc_le (tgt := 139) dY_twelfthsOf_131 (by decide) (fun hc => ?_) (fun hc => ?_)
      · replace h := h.1 hc
        refine r_iload_n 2 0 rfl dY_twelfthsOf_139 rfl ?_
        exact q_iret rfl h dY_twelfthsOf_140
      · replace h := h.2 hc
        refine r_bipush (by decide) dY_twelfthsOf_134 ?_
        refine r_goto (tgt := 140) dY_twelfthsOf_136 (by decide) ?_
        exact q_iret rfl h dY_twelfthsOf_140
    · replace h := h.2 hc
      refine r_iconst dY_twelfthsOf_124 ?_
      refine r_goto (tgt := 140) dY_twelfthsOf_125 (by decide) ?_
      exact q_iret rfl h dY_twelfthsOf_140
theorem dY_works_0 : decode mY_works.2.1 0 = .ok (.aload_n 0, 1) := by decide +kernel
theorem dY_works_1 : decode mY_works.2.1 1 = .ok (.iload_n 1, 1) := by decide +kernel
theorem dY_works_2 : decode mY_works.2.1 2 = .ok (.invokevirtual 164, 3) := by decide +kernel
theorem dY_works_5 : decode mY_works.2.1 5 = .ok (.ifCond .eq 11, 3) := by decide +kernel
theorem dY_works_8 : decode mY_works.2.1 8 = .ok (.aload_n 0, 1) := by decide +kernel
theorem dY_works_9 : decode mY_works.2.1 9 = .ok (.iload_n 1, 1) := by decide +kernel
theorem dY_works_10 : decode mY_works.2.1 10 = .ok (.invokevirtual 251, 3) := by decide +kernel
theorem dY_works_13 : decode mY_works.2.1 13 = .ok (.goto 4, 3) := by decide +kernel
theorem dY_works_16 : decode mY_works.2.1 16 = .ok (.iconst (-1), 1) := by decide +kernel
theorem dY_works_17 : decode mY_works.2.1 17 = .ok (.ireturn, 1) := by decide +kernel
/- Y_works: (I)I -/
set_option maxRecDepth 4000 in
theorem wY_works {X : Cx} (a1 : Int) (sw : Bool) (m : Mem) (Q : Int → Bool → Mem → Prop) (h : M2 X 2 mY_isPart [vr 84, vi a1] sw m (fun z1 sw1 m1 => ((w32 z1 = 0 → Q (-1) sw1 m1) ∧ (¬ (w32 z1 = 0) → M2 X 4 mY_twelfthsOf [vr 84, vi a1] sw1 m1 (fun z2 sw2 m2 => Q z2 sw2 m2))))) : M2 X 5 mY_works [vr 84, vi a1] sw m Q := by
  refine Mt.of pY_works (Nat.le_of_ble_eq_true rfl) (Nat.le_refl _) ?_
  show R2 X 5 mY_works 0 [(0, vr 84), (1, vi a1)] [] sw m Q
  refine r_aload_n 0 0 rfl dY_works_0 rfl ?_
  refine r_iload_n 1 1 rfl dY_works_1 rfl ?_
  refine r_callVb 12 [_] rfl c84 rfl rfl oY_isPart iY_isPart sY_isPart yY_164 (by decide) ⟨Nat.le_refl _, Nat.le_refl _⟩ rfl (Nat.le_of_ble_eq_true rfl) dY_works_2 h (fun z1 r1 m1 h => ?_)
  obtain ⟨sw1, rfl, h⟩ := h
  refine r_if_eq (tgt := 16) dY_works_5 (by decide) (fun hc => ?_) (fun hc => ?_)
  · replace h := h.1 hc
    refine r_iconst dY_works_16 ?_
    exact q_iret rfl h dY_works_17
  · replace h := h.2 hc
    refine r_aload_n 0 0 rfl dY_works_8 rfl ?_
    refine r_iload_n 1 1 rfl dY_works_9 rfl ?_
    refine r_callVi 12 [_] rfl c84 rfl rfl oY_twelfthsOf iY_twelfthsOf sY_twelfthsOf yY_251 (by decide) ⟨Nat.le_refl _, Nat.le_refl _⟩ rfl (Nat.le_of_ble_eq_true rfl) dY_works_10 h (fun z2 r2 m2 h => ?_)
    obtain ⟨sw2, rfl, h⟩ := h
    refine r_goto (tgt := 17) dY_works_13 (by decide) ?_
    exact q_iret rfl h dY_works_17
theorem dY_waitsTill_0 : decode mY_waitsTill.2.1 0 = .ok (.aload_n 0, 1) := by decide +kernel
theorem dY_waitsTill_1 : decode mY_waitsTill.2.1 1 = .ok (.getfield 9, 3) := by decide +kernel
theorem dY_waitsTill_4 : decode mY_waitsTill.2.1 4 = .ok (.iload_n 1, 1) := by decide +kernel
theorem dY_waitsTill_5 : decode mY_waitsTill.2.1 5 = .ok (.iaload, 1) := by decide +kernel
theorem dY_waitsTill_6 : decode mY_waitsTill.2.1 6 = .ok (.ifCond .ne 7, 3) := by decide +kernel
theorem dY_waitsTill_9 : decode mY_waitsTill.2.1 9 = .ok (.iconst 0, 1) := by decide +kernel
theorem dY_waitsTill_10 : decode mY_waitsTill.2.1 10 = .ok (.goto 4, 3) := by decide +kernel
theorem dY_waitsTill_13 : decode mY_waitsTill.2.1 13 = .ok (.iconst (-1), 1) := by decide +kernel
theorem dY_waitsTill_14 : decode mY_waitsTill.2.1 14 = .ok (.istore_n 2, 1) := by decide +kernel
theorem dY_waitsTill_15 : decode mY_waitsTill.2.1 15 = .ok (.iconst 0, 1) := by decide +kernel
theorem dY_waitsTill_16 : decode mY_waitsTill.2.1 16 = .ok (.istore_n 3, 1) := by decide +kernel
theorem dY_waitsTill_17 : decode mY_waitsTill.2.1 17 = .ok (.iload_n 3, 1) := by decide +kernel
theorem dY_waitsTill_18 : decode mY_waitsTill.2.1 18 = .ok (.iload_n 1, 1) := by decide +kernel
theorem dY_waitsTill_19 : decode mY_waitsTill.2.1 19 = .ok (.if_icmp .ge 101, 3) := by decide +kernel
theorem dY_waitsTill_22 : decode mY_waitsTill.2.1 22 = .ok (.aload_n 0, 1) := by decide +kernel
theorem dY_waitsTill_23 : decode mY_waitsTill.2.1 23 = .ok (.getfield 9, 3) := by decide +kernel
theorem dY_waitsTill_26 : decode mY_waitsTill.2.1 26 = .ok (.iload_n 1, 1) := by decide +kernel
theorem dY_waitsTill_27 : decode mY_waitsTill.2.1 27 = .ok (.iaload, 1) := by decide +kernel
theorem dY_waitsTill_28 : decode mY_waitsTill.2.1 28 = .ok (.iload_n 3, 1) := by decide +kernel
theorem dY_waitsTill_29 : decode mY_waitsTill.2.1 29 = .ok (.ishr, 1) := by decide +kernel
theorem dY_waitsTill_30 : decode mY_waitsTill.2.1 30 = .ok (.iconst 1, 1) := by decide +kernel
theorem dY_waitsTill_31 : decode mY_waitsTill.2.1 31 = .ok (.iand, 1) := by decide +kernel
theorem dY_waitsTill_32 : decode mY_waitsTill.2.1 32 = .ok (.ifCond .ne 6, 3) := by decide +kernel
theorem dY_waitsTill_35 : decode mY_waitsTill.2.1 35 = .ok (.goto 79, 3) := by decide +kernel
theorem dY_waitsTill_38 : decode mY_waitsTill.2.1 38 = .ok (.aload_n 0, 1) := by decide +kernel
theorem dY_waitsTill_39 : decode mY_waitsTill.2.1 39 = .ok (.getfield 15, 3) := by decide +kernel
theorem dY_waitsTill_42 : decode mY_waitsTill.2.1 42 = .ok (.iload_n 1, 1) := by decide +kernel
theorem dY_waitsTill_43 : decode mY_waitsTill.2.1 43 = .ok (.iaload, 1) := by decide +kernel
theorem dY_waitsTill_44 : decode mY_waitsTill.2.1 44 = .ok (.ifCond .ne 14, 3) := by decide +kernel
theorem dY_waitsTill_47 : decode mY_waitsTill.2.1 47 = .ok (.aload_n 0, 1) := by decide +kernel
theorem dY_waitsTill_48 : decode mY_waitsTill.2.1 48 = .ok (.getfield 71, 3) := by decide +kernel
theorem dY_waitsTill_51 : decode mY_waitsTill.2.1 51 = .ok (.iload_n 3, 1) := by decide +kernel
theorem dY_waitsTill_52 : decode mY_waitsTill.2.1 52 = .ok (.iaload, 1) := by decide +kernel
theorem dY_waitsTill_53 : decode mY_waitsTill.2.1 53 = .ok (.ifCond .ge 5, 3) := by decide +kernel
theorem dY_waitsTill_56 : decode mY_waitsTill.2.1 56 = .ok (.iconst (-1), 1) := by decide +kernel
theorem dY_waitsTill_57 : decode mY_waitsTill.2.1 57 = .ok (.ireturn, 1) := by decide +kernel
theorem dY_waitsTill_58 : decode mY_waitsTill.2.1 58 = .ok (.aload_n 0, 1) := by decide +kernel
theorem dY_waitsTill_59 : decode mY_waitsTill.2.1 59 = .ok (.getfield 71, 3) := by decide +kernel
theorem dY_waitsTill_62 : decode mY_waitsTill.2.1 62 = .ok (.iload_n 3, 1) := by decide +kernel
theorem dY_waitsTill_63 : decode mY_waitsTill.2.1 63 = .ok (.iaload, 1) := by decide +kernel
theorem dY_waitsTill_64 : decode mY_waitsTill.2.1 64 = .ok (.ifCond .ge 6, 3) := by decide +kernel
theorem dY_waitsTill_67 : decode mY_waitsTill.2.1 67 = .ok (.goto 47, 3) := by decide +kernel
theorem dY_waitsTill_70 : decode mY_waitsTill.2.1 70 = .ok (.iload_n 2, 1) := by decide +kernel
theorem dY_waitsTill_71 : decode mY_waitsTill.2.1 71 = .ok (.ifCond .lt 36, 3) := by decide +kernel
theorem dY_waitsTill_74 : decode mY_waitsTill.2.1 74 = .ok (.aload_n 0, 1) := by decide +kernel
theorem dY_waitsTill_75 : decode mY_waitsTill.2.1 75 = .ok (.getfield 15, 3) := by decide +kernel
theorem dY_waitsTill_78 : decode mY_waitsTill.2.1 78 = .ok (.iload_n 1, 1) := by decide +kernel
theorem dY_waitsTill_79 : decode mY_waitsTill.2.1 79 = .ok (.iaload, 1) := by decide +kernel
theorem dY_waitsTill_80 : decode mY_waitsTill.2.1 80 = .ok (.iconst 1, 1) := by decide +kernel
theorem dY_waitsTill_81 : decode mY_waitsTill.2.1 81 = .ok (.if_icmp .ne 16, 3) := by decide +kernel
theorem dY_waitsTill_84 : decode mY_waitsTill.2.1 84 = .ok (.aload_n 0, 1) := by decide +kernel
theorem dY_waitsTill_85 : decode mY_waitsTill.2.1 85 = .ok (.getfield 71, 3) := by decide +kernel
theorem dY_waitsTill_88 : decode mY_waitsTill.2.1 88 = .ok (.iload_n 3, 1) := by decide +kernel
theorem dY_waitsTill_89 : decode mY_waitsTill.2.1 89 = .ok (.iaload, 1) := by decide +kernel
theorem dY_waitsTill_90 : decode mY_waitsTill.2.1 90 = .ok (.iload_n 2, 1) := by decide +kernel
theorem dY_waitsTill_91 : decode mY_waitsTill.2.1 91 = .ok (.if_icmp .ge 23, 3) := by decide +kernel
theorem dY_waitsTill_94 : decode mY_waitsTill.2.1 94 = .ok (.goto 13, 3) := by decide +kernel
theorem dY_waitsTill_97 : decode mY_waitsTill.2.1 97 = .ok (.aload_n 0, 1) := by decide +kernel
theorem dY_waitsTill_98 : decode mY_waitsTill.2.1 98 = .ok (.getfield 71, 3) := by decide +kernel
theorem dY_waitsTill_101 : decode mY_waitsTill.2.1 101 = .ok (.iload_n 3, 1) := by decide +kernel
theorem dY_waitsTill_102 : decode mY_waitsTill.2.1 102 = .ok (.iaload, 1) := by decide +kernel
theorem dY_waitsTill_103 : decode mY_waitsTill.2.1 103 = .ok (.iload_n 2, 1) := by decide +kernel
theorem dY_waitsTill_104 : decode mY_waitsTill.2.1 104 = .ok (.if_icmp .le 10, 3) := by decide +kernel
theorem dY_waitsTill_107 : decode mY_waitsTill.2.1 107 = .ok (.aload_n 0, 1) := by decide +kernel
theorem dY_waitsTill_108 : decode mY_waitsTill.2.1 108 = .ok (.getfield 71, 3) := by decide +kernel
theorem dY_waitsTill_111 : decode mY_waitsTill.2.1 111 = .ok (.iload_n 3, 1) := by decide +kernel
theorem dY_waitsTill_112 : decode mY_waitsTill.2.1 112 = .ok (.iaload, 1) := by decide +kernel
theorem dY_waitsTill_113 : decode mY_waitsTill.2.1 113 = .ok (.istore_n 2, 1) := by decide +kernel
theorem dY_waitsTill_114 : decode mY_waitsTill.2.1 114 = .ok (.iinc 3 1, 3) := by decide +kernel
theorem dY_waitsTill_117 : decode mY_waitsTill.2.1 117 = .ok (.goto (-100), 3) := by decide +kernel
theorem dY_waitsTill_120 : decode mY_waitsTill.2.1 120 = .ok (.iload_n 2, 1) := by decide +kernel
theorem dY_waitsTill_121 : decode mY_waitsTill.2.1 121 = .ok (.ireturn, 1) := by decide +kernel
/- Y_waitsTill: (I)I -/
set_option maxRecDepth 4000 in
theorem wY_waitsTill {X : Cx} (a1 : Int) (sw : Bool) (m : Mem) (Q : Int → Bool → Mem → Prop) (h : ((0 ≤ w32 a1 ∧ w32 a1 < 9) ∧ ((¬ w32 (m 85 (w32 a1)) = 0 → R2 X 1 mY_waitsTill 17 [(0, vr 84), (1, vi a1), (2, vi (-1)), (3, vi 0)] [] sw m Q) ∧ (¬ (¬ w32 (m 85 (w32 a1)) = 0) → R2 X 1 mY_waitsTill 17 [(0, vr 84), (1, vi a1), (2, vi 0), (3, vi 0)] [] sw m Q)))) : M2 X 1 mY_waitsTill [vr 84, vi a1] sw m Q := by
  refine Mt.of pY_waitsTill (Nat.le_of_ble_eq_true rfl) (Nat.le_refl _) ?_
  show R2 X 1 mY_waitsTill 0 [(0, vr 84), (1, vi a1)] [] sw m Q
  refine r_aload_n 0 0 rfl dY_waitsTill_0 rfl ?_
  refine q_getR 2 c84 fY_9 rfl rfl (g84_2 sw) (by decide) dY_waitsTill_1 ?_
  refine r_iload_n 1 1 rfl dY_waitsTill_4 rfl ?_
  refine q_iaload (w32 a1) rfl c85 h.1 dY_waitsTill_5 ?_
  replace h := h.2
  refine r_if_ne (tgt := 13) dY_waitsTill_6 (by decide) (fun hc => ?_) (fun hc => ?_)
  · replace h := h.1 hc
    refine r_iconst dY_waitsTill_13 ?_
    refine r_istore_n 2 (by decide) dY_waitsTill_14 rfl ?_
    refine r_iconst dY_waitsTill_15 ?_
    refine r_istore_n 3 (by decide) dY_waitsTill_16 rfl ?_
    refine r_sub [2, 3, 1, 0] ?_ h
    rfl
  · replace h := h.2 hc
    refine r_iconst dY_waitsTill_9 ?_
    refine r_goto (tgt := 14) dY_waitsTill_10 (by decide) ?_
    refine r_istore_n 2 (by decide) dY_waitsTill_14 rfl ?_
    refine r_iconst dY_waitsTill_15 ?_
    refine r_istore_n 3 (by decide) dY_waitsTill_16 rfl ?_
    refine r_sub [2, 3, 1, 0] ?_ h
    rfl
set_option maxRecDepth 4000 in
theorem wY_waitsTill_17 {X : Cx} (x1 x2 x3 : Int) (sw : Bool) (m : Mem) (Q : Int → Bool → Mem → Prop) (h : ((w32 x1 ≤ w32 x3 → Q x2 sw m) ∧ (¬ (w32 x1 ≤ w32 x3) → ((0 ≤ w32 x1 ∧ w32 x1 < 9) ∧ ((¬ w32 (zand (zshr (m 85 (w32 x1)) x3) 1) = 0 → ((0 ≤ w32 x1 ∧ w32 x1 < 9) ∧ ((¬ w32 (m 86 (w32 x1)) = 0 → ((0 ≤ w32 x3 ∧ w32 x3 < 9) ∧ ((0 ≤ w32 (m 104 (w32 x3)) → ((w32 x2 < 0 → ((0 ≤ w32 x3 ∧ w32 x3 < 9) ∧ R2 X 1 mY_waitsTill 17 [(0, vr 84), (1, vi x1), (2, vi (m 104 (w32 x3))), (3, vi (x3 + 1))] [] sw m Q)) ∧ (¬ (w32 x2 < 0) → ((0 ≤ w32 x1 ∧ w32 x1 < 9) ∧ ((¬ w32 (m 86 (w32 x1)) = 1 → ((0 ≤ w32 x3 ∧ w32 x3 < 9) ∧ ((w32 (m 104 (w32 x3)) ≤ w32 x2 → R2 X 1 mY_waitsTill 17 [(0, vr 84), (1, vi x1), (2, vi x2), (3, vi (x3 + 1))] [] sw m Q) ∧ (¬ (w32 (m 104 (w32 x3)) ≤ w32 x2) → ((0 ≤ w32 x3 ∧ w32 x3 < 9) ∧ R2 X 1 mY_waitsTill 17 [(0, vr 84), (1, vi x1), (2, vi (m 104 (w32 x3))), (3, vi (x3 + 1))] [] sw m Q))))) ∧ (¬ (¬ w32 (m 86 (w32 x1)) = 1) → ((0 ≤ w32 x3 ∧ w32 x3 < 9) ∧ ((w32 x2 ≤ w32 (m 104 (w32 x3)) → R2 X 1 mY_waitsTill 17 [(0, vr 84), (1, vi x1), (2, vi x2), (3, vi (x3 + 1))] [] sw m Q) ∧ (¬ (w32 x2 ≤ w32 (m 104 (w32 x3))) → ((0 ≤ w32 x3 ∧ w32 x3 < 9) ∧ R2 X 1 mY_waitsTill 17 [(0, vr 84), (1, vi x1), (2, vi (m 104 (w32 x3))), (3, vi (x3 + 1))] [] sw m Q)))))))))) ∧ (¬ (0 ≤ w32 (m 104 (w32 x3))) → R2 X 1 mY_waitsTill 17 [(0, vr 84), (1, vi x1), (2, vi x2), (3, vi (x3 + 1))] [] sw m Q)))) ∧ (¬ (¬ w32 (m 86 (w32 x1)) = 0) → ((0 ≤ w32 x3 ∧ w32 x3 < 9) ∧ ((0 ≤ w32 (m 104 (w32 x3)) → ((0 ≤ w32 x3 ∧ w32 x3 < 9) ∧ ((0 ≤ w32 (m 104 (w32 x3)) → ((w32 x2 < 0 → ((0 ≤ w32 x3 ∧ w32 x3 < 9) ∧ R2 X 1 mY_waitsTill 17 [(0, vr 84), (1, vi x1), (2, vi (m 104 (w32 x3))), (3, vi (x3 + 1))] [] sw m Q)) ∧ (¬ (w32 x2 < 0) → ((0 ≤ w32 x1 ∧ w32 x1 < 9) ∧ ((¬ w32 (m 86 (w32 x1)) = 1 → ((0 ≤ w32 x3 ∧ w32 x3 < 9) ∧ ((w32 (m 104 (w32 x3)) ≤ w32 x2 → R2 X 1 mY_waitsTill 17 [(0, vr 84), (1, vi x1), (2, vi x2), (3, vi (x3 + 1))] [] sw m Q) ∧ (¬ (w32 (m 104 (w32 x3)) ≤ w32 x2) → ((0 ≤ w32 x3 ∧ w32 x3 < 9) ∧ R2 X 1 mY_waitsTill 17 [(0, vr 84), (1, vi x1), (2, vi (m 104 (w32 x3))), (3, vi (x3 + 1))] [] sw m Q))))) ∧ (¬ (¬ w32 (m 86 (w32 x1)) = 1) → ((0 ≤ w32 x3 ∧ w32 x3 < 9) ∧ ((w32 x2 ≤ w32 (m 104 (w32 x3)) → R2 X 1 mY_waitsTill 17 [(0, vr 84), (1, vi x1), (2, vi x2), (3, vi (x3 + 1))] [] sw m Q) ∧ (¬ (w32 x2 ≤ w32 (m 104 (w32 x3))) → ((0 ≤ w32 x3 ∧ w32 x3 < 9) ∧ R2 X 1 mY_waitsTill 17 [(0, vr 84), (1, vi x1), (2, vi (m 104 (w32 x3))), (3, vi (x3 + 1))] [] sw m Q)))))))))) ∧ (¬ (0 ≤ w32 (m 104 (w32 x3))) → R2 X 1 mY_waitsTill 17 [(0, vr 84), (1, vi x1), (2, vi x2), (3, vi (x3 + 1))] [] sw m Q)))) ∧ (¬ (0 ≤ w32 (m 104 (w32 x3))) → Q (-1) sw m))))))) ∧ (¬ (¬ w32 (zand (zshr (m 85 (w32 x1)) x3) 1) = 0) → R2 X 1 mY_waitsTill 17 [(0, vr 84), (1, vi x1), (2, vi x2), (3, vi (x3 + 1))] [] sw m Q)))))) : R2 X 1 mY_waitsTill 17 [(0, vr 84), (1, vi x1), (2, vi x2), (3, vi x3)] [] sw m Q := by
  refine r_iload_n 3 3 rfl dY_waitsTill_17 rfl ?_
  refine r_iload_n 1 1 rfl dY_waitsTill_18 rfl ?_
  refine r_ifc_ge (tgt := 120) dY_waitsTill_19 (by decide) (fun hc => ?_) (fun hc => ?_)
  · replace h := h.1 hc
    refine r_iload_n 2 2 rfl dY_waitsTill_120 rfl ?_
    exact q_iret rfl h dY_waitsTill_121
  · replace h := h.2 hc
    refine r_aload_n 0 0 rfl dY_waitsTill_22 rfl ?_
    refine q_getR 2 c84 fY_9 rfl rfl (g84_2 sw) (by decide) dY_waitsTill_23 ?_
    refine r_iload_n 1 1 rfl dY_waitsTill_26 rfl ?_
    refine q_iaload (w32 x1) rfl c85 h.1 dY_waitsTill_27 ?_
    replace h := h.2
    refine r_iload_n 3 3 rfl dY_waitsTill_28 rfl ?_
    refine r_ishr dY_waitsTill_29 ?_
    refine r_iconst dY_waitsTill_30 ?_
    refine r_iand dY_waitsTill_31 ?_
    refine r_if_ne (tgt := 38) dY_waitsTill_32 (by decide) (fun hc => ?_) (fun hc => ?_)
    · replace h := h.1 hc
      refine r_aload_n 0 0 rfl dY_waitsTill_38 rfl ?_
      refine q_getR 3 c84 fY_15 rfl rfl (g84_3 sw) (by decide) dY_waitsTill_39 ?_
      refine r_iload_n 1 1 rfl dY_waitsTill_42 rfl ?_
      refine q_iaload (w32 x1) rfl c86 h.1 dY_waitsTill_43 ?_
      replace h := h.2
      refine r_if_ne (tgt := 58) dY_waitsTill_44 (by decide) (fun hc => ?_) (fun hc => ?_)
      · replace h := h.1 hc
        refine r_aload_n 0 0 rfl dY_waitsTill_58 rfl ?_
        refine q_getR 29 c84 fY_71 rfl rfl (g84_29 sw) (by decide) dY_waitsTill_59 ?_
        refine r_iload_n 3 3 rfl dY_waitsTill_62 rfl ?_
        refine q_iaload (w32 x3) rfl c104 h.1 dY_waitsTill_63 ?_
        replace h := h.2
        refine r_if_ge (tgt := 70) dY_waitsTill_64 (by decide) (fun hc => ?_) (fun hc => ?_)
        · replace h := h.1 hc
          refine r_iload_n 2 2 rfl dY_waitsTill_70 rfl ?_
          refine r_if_lt (tgt := 107) dY_waitsTill_71 (by decide) (fun hc => ?_) (fun hc => ?_)
          · replace h := h.1 hc
            refine r_aload_n 0 0 rfl dY_waitsTill_107 rfl ?_
            refine q_getR 29 c84 fY_71 rfl rfl (g84_29 sw) (by decide) dY_waitsTill_108 ?_
            refine r_iload_n 3 3 rfl dY_waitsTill_111 rfl ?_
            refine q_iaload (w32 x3) rfl c104 h.1 dY_waitsTill_112 ?_
            replace h := h.2
            refine r_istore_n 2 (by decide) dY_waitsTill_113 rfl ?_
            refine r_iinc 3 3 rfl (by decide) dY_waitsTill_114 ?_
            refine r_goto (tgt := 17) dY_waitsTill_117 (by decide) ?_
            refine r_sub [2, 3, 1, 0] ?_ h
            rfl
          · replace h := h.2 hc
            refine r_aload_n 0 0 rfl dY_waitsTill_74 rfl ?_
            refine q_getR 3 c84 fY_15 rfl rfl (g84_3 sw) (by decide) dY_waitsTill_75 ?_
            refine r_iload_n 1 1 rfl dY_waitsTill_78 rfl ?_
            refine q_iaload (w32 x1) rfl c86 h.1 dY_waitsTill_79 ?_
            replace h := h.2
            refine r_iconst dY_waitsTill_80 ?_
            refine r_ifc_ne (tgt := 97) dY_waitsTill_81 (by decide) (fun hc => ?_) (fun hc => ?_)
            · replace h := h.1 hc
              refine r_aload_n 0 0 rfl dY_waitsTill_97 rfl ?_
              refine q_getR 29 c84 fY_71 rfl rfl (g84_29 sw) (by decide) dY_waitsTill_98 ?_
              refine r_iload_n 3 3 rfl dY_waitsTill_101 rfl ?_
              refine q_iaload (w32 x3) rfl c104 h.1 dY_waitsTill_102 ?_
              replace h := h.2
              refine r_iload_n 2 2 rfl dY_waitsTill_103 rfl ?_
              refine r_ifc_le (tgt := 114) dY_waitsTill_104 (by decide) (fun hc => ?_) (fun hc => ?_)
              · replace h := h.1 hc
                refine r_iinc 3 3 rfl (by decide) dY_waitsTill_114 ?_
                refine r_goto (tgt := 17) dY_waitsTill_117 (by decide) ?_
                refine r_sub [1, 2, 3, 0] ?_ h
                rfl
              · replace h := h.2 hc
                refine r_aload_n 0 0 rfl dY_waitsTill_107 rfl ?_
                refine q_getR 29 c84 fY_71 rfl rfl (g84_29 sw) (by decide) dY_waitsTill_108 ?_
                refine r_iload_n 3 3 rfl dY_waitsTill_111 rfl ?_
                refine q_iaload (w32 x3) rfl c104 h.1 dY_waitsTill_112 ?_
                replace h := h.2
                refine r_istore_n 2 (by decide) dY_waitsTill_113 rfl ?_
                refine r_iinc 3 3 rfl (by decide) dY_waitsTill_114 ?_
                refine r_goto (tgt := 17) dY_waitsTill_117 (by decide) ?_
                refine r_sub [2, 3, 1, 0] ?_ h
                rfl
            · replace h := h.2 hc
              refine r_aload_n 0 0 rfl dY_waitsTill_84 rfl ?_
              refine q_getR 29 c84 fY_71 rfl rfl (g84_29 sw) (by decide) dY_waitsTill_85 ?_
              refine r_iload_n 3 3 rfl dY_waitsTill_88 rfl ?_
              refine q_iaload (w32 x3) rfl c104 h.1 dY_waitsTill_89 ?_
              replace h := h.2
              refine r_iload_n 2 2 rfl dY_waitsTill_90 rfl ?_
              refine r_ifc_ge (tgt := 114) dY_waitsTill_91 (by decide) (fun hc => ?_) (fun hc => ?_)
              · replace h := h.1 hc
                refine r_iinc 3 3 rfl (by decide) dY_waitsTill_114 ?_
                refine r_goto (tgt := 17) dY_waitsTill_117 (by decide) ?_
                refine r_sub [1, 2, 3, 0] ?_ h
                rfl
              · replace h := h.2 hc
                refine r_goto (tgt := 107) dY_waitsTill_94 (by decide) ?_
                refine r_aload_n 0 0 rfl dY_waitsTill_107 rfl ?_
                refine q_getR 29 c84 fY_71 rfl rfl (g84_29 sw) (by decide) dY_waitsTill_108 ?_
                refine r_iload_n 3 3 rfl dY_waitsTill_111 rfl ?_
                refine q_iaload (w32 x3) rfl c104 h.1 dY_waitsTill_112 ?_
                replace h := h.2
                refine r_istore_n 2 (by decide) dY_waitsTill_113 rfl ?_
                refine r_iinc 3 3 rfl (by decide) dY_waitsTill_114 ?_
                refine r_goto (tgt := 17) dY_waitsTill_117 (by decide) ?_
                refine r_sub [2, 3, 1, 0] ?_ h
                rfl
        · replace h := h.2 hc
          refine r_goto (tgt := 114) dY_waitsTill_67 (by decide) ?_
          refine r_iinc 3 3 rfl (by decide) dY_waitsTill_114 ?_
          refine r_goto (tgt := 17) dY_waitsTill_117 (by decide) ?_
          refine r_sub [1, 2, 3, 0] ?_ h
          rfl
      · replace h := h.2 hc
        refine r_aload_n 0 0 rfl dY_waitsTill_47 rfl ?_
        refine q_getR 29 c84 fY_71 rfl rfl (g84_29 sw) (by decide) dY_waitsTill_48 ?_
        refine r_iload_n 3 3 rfl dY_waitsTill_51 rfl ?_
        refine q_iaload (w32 x3) rfl c104 h.1 dY_waitsTill_52 ?_
        replace h := h.2
        refine r_if_ge (tgt := 58) dY_waitsTill_53 (by decide) (fun hc => ?_) (fun hc => ?_)
        · replace h := h.1 hc
          refine r_aload_n 0 0 rfl dY_waitsTill_58 rfl ?_
          refine q_getR 29 c84 fY_71 rfl rfl (g84_29 sw) (by decide) dY_waitsTill_59 ?_
          refine r_iload_n 3 3 rfl dY_waitsTill_62 rfl ?_
          refine q_iaload (w32 x3) rfl c104 h.1 dY_waitsTill_63 ?_
          replace h := h.2
          refine r_if_ge (tgt := 70) dY_waitsTill_64 (by decide) (fun hc => ?_) (fun hc => ?_)
          · replace h := h.1 hc
            refine r_iload_n 2 2 rfl dY_waitsTill_70 rfl ?_
            refine r_if_lt (tgt := 107) dY_waitsTill_71 (by decide) (fun hc => ?_) (fun hc => ?_)
            · replace h := h.1 hc
              refine r_aload_n 0 0 rfl dY_waitsTill_107 rfl ?_
              refine q_getR 29 c84 fY_71 rfl rfl (g84_29 sw) (by decide) dY_waitsTill_108 ?_
              refine r_iload_n 3 3 rfl dY_waitsTill_111 rfl ?_
              refine q_iaload (w32 x3) rfl c104 h.1 dY_waitsTill_112 ?_
              replace h := h.2
              refine r_istore_n 2 (by decide) dY_waitsTill_113 rfl ?_
              refine r_iinc 3 3 rfl (by decide) dY_waitsTill_114 ?_
              refine r_goto (tgt := 17) dY_waitsTill_117 (by decide) ?_
              refine r_sub [2, 3, 1, 0] ?_ h
              rfl
            · replace h := h.2 hc
              refine r_aload_n 0 0 rfl dY_waitsTill_74 rfl ?_
              refine q_getR 3 c84 fY_15 rfl rfl (g84_3 sw) (by decide) dY_waitsTill_75 ?_
              refine r_iload_n 1 1 rfl dY_waitsTill_78 rfl ?_
              refine q_iaload (w32 x1) rfl c86 h.1 dY_waitsTill_79 ?_
              replace h := h.2
              refine r_iconst dY_waitsTill_80 ?_
              refine r_ifc_ne (tgt := 97) dY_waitsTill_81 (by decide) (fun hc => ?_) (fun hc => ?_)
              · replace h := h.1 hc
                refine r_aload_n 0 0 rfl dY_waitsTill_97 rfl ?_
                refine q_getR 29 c84 fY_71 rfl rfl (g84_29 sw) (by decide) dY_waitsTill_98 ?_
                refine r_iload_n 3 3 rfl dY_waitsTill_101 rfl ?_
                refine q_iaload (w32 x3) rfl c104 h.1 dY_waitsTill_102 ?_
                replace h := h.2
                refine r_iload_n 2 2 rfl dY_waitsTill_103 rfl ?_
                refine r_ifc_le (tgt := 114) dY_waitsTill_104 (by decide) (fun hc => ?_) (fun hc => ?_)
                · replace h := h.1 hc
                  refine r_iinc 3 3 rfl (by decide) dY_waitsTill_114 ?_
                  refine r_goto (tgt := 17) dY_waitsTill_117 (by decide) ?_
                  refine r_sub [1, 2, 3, 0] ?_ h
                  rfl
                · replace h := h.2 hc
                  refine r_aload_n 0 0 rfl dY_waitsTill_107 rfl ?_
                  refine q_getR 29 c84 fY_71 rfl rfl (g84_29 sw) (by decide) dY_waitsTill_108 ?_
                  refine r_iload_n 3 3 rfl dY_waitsTill_111 rfl ?_
                  refine q_iaload (w32 x3) rfl c104 h.1 dY_waitsTill_112 ?_
                  replace h := h.2
                  refine r_istore_n 2 (by decide) dY_waitsTill_113 rfl ?_
                  refine r_iinc 3 3 rfl (by decide) dY_waitsTill_114 ?_
                  refine r_goto (tgt := 17) dY_waitsTill_117 (by decide) ?_
                  refine r_sub [2, 3, 1, 0] ?_ h
                  rfl
              · replace h := h.2 hc
                refine r_aload_n 0 0 rfl dY_waitsTill_84 rfl ?_
                refine q_getR 29 c84 fY_71 rfl rfl (g84_29 sw) (by decide) dY_waitsTill_85 ?_
                refine r_iload_n 3 3 rfl dY_waitsTill_88 rfl ?_
                refine q_iaload (w32 x3) rfl c104 h.1 dY_waitsTill_89 ?_
                replace h := h.2
                refine r_iload_n 2 2 rfl dY_waitsTill_90 rfl ?_
                refine r_ifc_ge (tgt := 114) dY_waitsTill_91 (by decide) (fun hc => ?_) (fun hc => ?_)
                · replace h := h.1 hc
                  refine r_iinc 3 3 rfl (by decide) dY_waitsTill_114 ?_
                  refine r_goto (tgt := 17) dY_waitsTill_117 (by decide) ?_
                  refine r_sub [1, 2, 3, 0] ?_ h
                  rfl
                · replace h := h.2 hc
                  refine r_goto (tgt := 107) dY_waitsTill_94 (by decide) ?_
                  refine r_aload_n 0 0 rfl dY_waitsTill_107 rfl ?_
                  refine q_getR 29 c84 fY_71 rfl rfl (g84_29 sw) (by decide) dY_waitsTill_108 ?_
                  refine r_iload_n 3 3 rfl dY_waitsTill_111 rfl ?_
                  refine q_iaload (w32 x3) rfl c104 h.1 dY_waitsTill_112 ?_
                  replace h := h.2
                  refine r_istore_n 2 (by decide) dY_waitsTill_113 rfl ?_
                  refine r_iinc 3 3 rfl (by decide) dY_waitsTill_114 ?_
                  refine r_goto (tgt := 17) dY_waitsTill_117 (by decide) ?_
                  refine r_sub [2, 3, 1, 0] ?_ h
                  rfl
          · replace h := h.2 hc
            refine r_goto (tgt := 114) dY_waitsTill_67 (by decide) ?_
            refine r_iinc 3 3 rfl (by decide) dY_waitsTill_114 ?_
            refine r_goto (tgt := 17) dY_waitsTill_117 (by decide) ?_
            refine r_sub [1, 2, 3, 0] ?_ h
            rfl
        · replace h := h.2 hc
          refine r_iconst dY_waitsTill_56 ?_
          exact q_iret rfl h dY_waitsTill_57
    · replace h := h.2 hc
      refine r_goto (tgt := 114) dY_waitsTill_35 (by decide) ?_
      refine r_iinc 3 3 rfl (by decide) dY_waitsTill_114 ?_
      refine r_goto (tgt := 17) dY_waitsTill_117 (by decide) ?_
      refine r_sub [1, 2, 3, 0] ?_ h
      rfl
theorem dY_goMorning_0 : decode mY_goMorning.2.1 0 = .ok (.aload_n 0, 1) := by decide +kernel
theorem dY_goMorning_1 : decode mY_goMorning.2.1 1 = .ok (.iconst 0, 1) := by decide +kernel
theorem dY_goMorning_2 : decode mY_goMorning.2.1 2 = .ok (.putfield 254, 3) := by decide +kernel
theorem dY_goMorning_5 : decode mY_goMorning.2.1 5 = .ok (.aload_n 0, 1) := by decide +kernel
theorem dY_goMorning_6 : decode mY_goMorning.2.1 6 = .ok (.iconst 0, 1) := by decide +kernel
theorem dY_goMorning_7 : decode mY_goMorning.2.1 7 = .ok (.putfield 257, 3) := by decide +kernel
theorem dY_goMorning_10 : decode mY_goMorning.2.1 10 = .ok (.iconst 0, 1) := by decide +kernel
theorem dY_goMorning_11 : decode mY_goMorning.2.1 11 = .ok (.istore_n 2, 1) := by decide +kernel
theorem dY_goMorning_12 : decode mY_goMorning.2.1 12 = .ok (.iload_n 2, 1) := by decide +kernel
theorem dY_goMorning_13 : decode mY_goMorning.2.1 13 = .ok (.aload_n 0, 1) := by decide +kernel
theorem dY_goMorning_14 : decode mY_goMorning.2.1 14 = .ok (.getfield 130, 3) := by decide +kernel
theorem dY_goMorning_17 : decode mY_goMorning.2.1 17 = .ok (.if_icmp .ge 100, 3) := by decide +kernel
theorem dY_goMorning_20 : decode mY_goMorning.2.1 20 = .ok (.aload_n 0, 1) := by decide +kernel
theorem dY_goMorning_21 : decode mY_goMorning.2.1 21 = .ok (.iload_n 2, 1) := by decide +kernel
theorem dY_goMorning_22 : decode mY_goMorning.2.1 22 = .ok (.invokevirtual 260, 3) := by decide +kernel
theorem dY_goMorning_25 : decode mY_goMorning.2.1 25 = .ok (.istore_n 3, 1) := by decide +kernel
theorem dY_goMorning_26 : decode mY_goMorning.2.1 26 = .ok (.iload_n 1, 1) := by decide +kernel
theorem dY_goMorning_27 : decode mY_goMorning.2.1 27 = .ok (.iload_n 2, 1) := by decide +kernel
theorem dY_goMorning_28 : decode mY_goMorning.2.1 28 = .ok (.ishr, 1) := by decide +kernel
theorem dY_goMorning_29 : decode mY_goMorning.2.1 29 = .ok (.iconst 1, 1) := by decide +kernel
theorem dY_goMorning_30 : decode mY_goMorning.2.1 30 = .ok (.iand, 1) := by decide +kernel
theorem dY_goMorning_31 : decode mY_goMorning.2.1 31 = .ok (.iconst 1, 1) := by decide +kernel
theorem dY_goMorning_32 : decode mY_goMorning.2.1 32 = .ok (.if_icmp .ne 7, 3) := by decide +kernel
theorem dY_goMorning_35 : decode mY_goMorning.2.1 35 = .ok (.iconst 1, 1) := by decide +kernel
theorem dY_goMorning_36 : decode mY_goMorning.2.1 36 = .ok (.goto 4, 3) := by decide +kernel
theorem dY_goMorning_39 : decode mY_goMorning.2.1 39 = .ok (.iconst 0, 1) := by decide +kernel
theorem dY_goMorning_40 : decode mY_goMorning.2.1 40 = .ok (.istore 4, 2) := by decide +kernel
theorem dY_goMorning_42 : decode mY_goMorning.2.1 42 = .ok (.aload_n 0, 1) := by decide +kernel
theorem dY_goMorning_43 : decode mY_goMorning.2.1 43 = .ok (.getfield 71, 3) := by decide +kernel
theorem dY_goMorning_46 : decode mY_goMorning.2.1 46 = .ok (.iload_n 2, 1) := by decide +kernel
theorem dY_goMorning_47 : decode mY_goMorning.2.1 47 = .ok (.iload 4, 2) := by decide +kernel
theorem dY_goMorning_49 : decode mY_goMorning.2.1 49 = .ok (.ifCond .eq 18, 3) := by decide +kernel
theorem dY_goMorning_52 : decode mY_goMorning.2.1 52 = .ok (.iload_n 3, 1) := by decide +kernel
theorem dY_goMorning_53 : decode mY_goMorning.2.1 53 = .ok (.ifCond .lt 14, 3) := by decide +kernel
theorem dY_goMorning_56 : decode mY_goMorning.2.1 56 = .ok (.iload_n 3, 1) := by decide +kernel
theorem dY_goMorning_57 : decode mY_goMorning.2.1 57 = .ok (.aload_n 0, 1) := by decide +kernel
theorem dY_goMorning_58 : decode mY_goMorning.2.1 58 = .ok (.getfield 21, 3) := by decide +kernel
theorem dY_goMorning_61 : decode mY_goMorning.2.1 61 = .ok (.iload_n 2, 1) := by decide +kernel
theorem dY_goMorning_62 : decode mY_goMorning.2.1 62 = .ok (.iaload, 1) := by decide +kernel
theorem dY_goMorning_63 : decode mY_goMorning.2.1 63 = .ok (.iadd, 1) := by decide +kernel
theorem dY_goMorning_64 : decode mY_goMorning.2.1 64 = .ok (.goto 4, 3) := by decide +kernel
theorem dY_goMorning_67 : decode mY_goMorning.2.1 67 = .ok (.iconst (-1), 1) := by decide +kernel
theorem dY_goMorning_68 : decode mY_goMorning.2.1 68 = .ok (.iastore, 1) := by decide +kernel
theorem dY_goMorning_69 : decode mY_goMorning.2.1 69 = .ok (.aload_n 0, 1) := by decide +kernel
theorem dY_goMorning_70 : decode mY_goMorning.2.1 70 = .ok (.getfield 71, 3) := by decide +kernel
theorem dY_goMorning_73 : decode mY_goMorning.2.1 73 = .ok (.iload_n 2, 1) := by decide +kernel
theorem dY_goMorning_74 : decode mY_goMorning.2.1 74 = .ok (.iaload, 1) := by decide +kernel
theorem dY_goMorning_75 : decode mY_goMorning.2.1 75 = .ok (.ifCond .lt 15, 3) := by decide +kernel
theorem dY_goMorning_78 : decode mY_goMorning.2.1 78 = .ok (.aload_n 0, 1) := by decide +kernel
theorem dY_goMorning_79 : decode mY_goMorning.2.1 79 = .ok (.dup, 1) := by decide +kernel
theorem dY_goMorning_80 : decode mY_goMorning.2.1 80 = .ok (.getfield 257, 3) := by decide +kernel
theorem dY_goMorning_83 : decode mY_goMorning.2.1 83 = .ok (.iconst 1, 1) := by decide +kernel
theorem dY_goMorning_84 : decode mY_goMorning.2.1 84 = .ok (.iload_n 2, 1) := by decide +kernel
theorem dY_goMorning_85 : decode mY_goMorning.2.1 85 = .ok (.ishl, 1) := by decide +kernel
theorem dY_goMorning_86 : decode mY_goMorning.2.1 86 = .ok (.ior, 1) := by decide +kernel
theorem dY_goMorning_87 : decode mY_goMorning.2.1 87 = .ok (.putfield 257, 3) := by decide +kernel
theorem dY_goMorning_90 : decode mY_goMorning.2.1 90 = .ok (.iload 4, 2) := by decide +kernel
theorem dY_goMorning_92 : decode mY_goMorning.2.1 92 = .ok (.ifCond .ne 19, 3) := by decide +kernel
theorem dY_goMorning_95 : decode mY_goMorning.2.1 95 = .ok (.iload_n 3, 1) := by decide +kernel
theorem dY_goMorning_96 : decode mY_goMorning.2.1 96 = .ok (.ifCond .lt 15, 3) := by decide +kernel
theorem dY_goMorning_99 : decode mY_goMorning.2.1 99 = .ok (.aload_n 0, 1) := by decide +kernel
theorem dY_goMorning_100 : decode mY_goMorning.2.1 100 = .ok (.dup, 1) := by decide +kernel
theorem dY_goMorning_101 : decode mY_goMorning.2.1 101 = .ok (.getfield 254, 3) := by decide +kernel
theorem dY_goMorning_104 : decode mY_goMorning.2.1 104 = .ok (.iconst 1, 1) := by decide +kernel
theorem dY_goMorning_105 : decode mY_goMorning.2.1 105 = .ok (.iload_n 2, 1) := by decide +kernel
theorem dY_goMorning_106 : decode mY_goMorning.2.1 106 = .ok (.ishl, 1) := by decide +kernel
theorem dY_goMorning_107 : decode mY_goMorning.2.1 107 = .ok (.ior, 1) := by decide +kernel
theorem dY_goMorning_108 : decode mY_goMorning.2.1 108 = .ok (.putfield 254, 3) := by decide +kernel
theorem dY_goMorning_111 : decode mY_goMorning.2.1 111 = .ok (.iinc 2 1, 3) := by decide +kernel
theorem dY_goMorning_114 : decode mY_goMorning.2.1 114 = .ok (.goto (-102), 3) := by decide +kernel
theorem dY_goMorning_117 : decode mY_goMorning.2.1 117 = .ok (.return_, 1) := by decide +kernel
/- Y_goMorning: (I)V -/
set_option maxRecDepth 4000 in
theorem wY_goMorning {X : Cx} (a1 : Int) (sw : Bool) (m : Mem) (Q : Int → Bool → Mem → Prop) (h : R2 X 2 mY_goMorning 12 [(0, vr 84), (1, vi a1), (2, vi 0)] [] sw (upm (upm m 84 30 0) 84 31 0) Q) : M2 X 2 mY_goMorning [vr 84, vi a1] sw m Q := by
  refine Mt.of pY_goMorning (Nat.le_of_ble_eq_true rfl) (Nat.le_refl _) ?_
  show R2 X 2 mY_goMorning 0 [(0, vr 84), (1, vi a1)] [] sw m Q
  refine r_aload_n 0 0 rfl dY_goMorning_0 rfl ?_
  refine r_iconst dY_goMorning_1 ?_
  refine q_putI 30 c84 pfY_254 rfl rfl dY_goMorning_2 ?_
  refine r_aload_n 0 0 rfl dY_goMorning_5 rfl ?_
  refine r_iconst dY_goMorning_6 ?_
  refine q_putI 31 c84 pfY_257 rfl rfl dY_goMorning_7 ?_
  refine r_iconst dY_goMorning_10 ?_
  refine r_istore_n 2 (by decide) dY_goMorning_11 rfl ?_
  refine r_sub [1, 2, 0] ?_ h
  rfl
set_option maxRecDepth 4000 in
theorem wY_goMorning_12 {X : Cx} (x1 x2 : Int) (sw : Bool) (m : Mem) (Q : Int → Bool → Mem → Prop) (h : ((w32 (m 84 1) ≤ w32 x2 → Q 0 sw m) ∧ (¬ (w32 (m 84 1) ≤ w32 x2) → M2 X 1 mY_waitsTill [vr 84, vi x2] sw m (fun z1 sw1 m1 => ((¬ w32 (zand (zshr x1 x2) 1) = 1 → ((0 ≤ w32 x2 ∧ w32 x2 < 9) ∧ ((0 ≤ w32 x2 ∧ w32 x2 < 9) ∧ ((w32 ((upm m1 104 (w32 x2) (-1)) 104 (w32 x2)) < 0 → ((w32 z1 < 0 → R2 X 2 mY_goMorning 12 [(0, vr 84), (1, vi x1), (2, vi (x2 + 1))] [] sw1 (upm m1 104 (w32 x2) (-1)) Q) ∧ (¬ (w32 z1 < 0) → R2 X 2 mY_goMorning 12 [(0, vr 84), (1, vi x1), (2, vi (x2 + 1))] [] sw1 (upm (upm m1 104 (w32 x2) (-1)) 84 30 (zor (m1 84 30) (zshl 1 x2))) Q))) ∧ (¬ (w32 ((upm m1 104 (w32 x2) (-1)) 104 (w32 x2)) < 0) → ((w32 z1 < 0 → R2 X 2 mY_goMorning 12 [(0, vr 84), (1, vi x1), (2, vi (x2 + 1))] [] sw1 (upm (upm m1 104 (w32 x2) (-1)) 84 31 (zor (m1 84 31) (zshl 1 x2))) Q) ∧ (¬ (w32 z1 < 0) → R2 X 2 mY_goMorning 12 [(0, vr 84), (1, vi x1), (2, vi (x2 + 1))] [] sw1 (upm (upm (upm m1 104 (w32 x2) (-1)) 84 31 (zor (m1 84 31) (zshl 1 x2))) 84 30 (zor (m1 84 30) (zshl 1 x2))) Q))))))) ∧ (¬ (¬ w32 (zand (zshr x1 x2) 1) = 1) → ((w32 z1 < 0 → ((0 ≤ w32 x2 ∧ w32 x2 < 9) ∧ ((0 ≤ w32 x2 ∧ w32 x2 < 9) ∧ ((w32 ((upm m1 104 (w32 x2) (-1)) 104 (w32 x2)) < 0 → R2 X 2 mY_goMorning 12 [(0, vr 84), (1, vi x1), (2, vi (x2 + 1))] [] sw1 (upm m1 104 (w32 x2) (-1)) Q) ∧ (¬ (w32 ((upm m1 104 (w32 x2) (-1)) 104 (w32 x2)) < 0) → R2 X 2 mY_goMorning 12 [(0, vr 84), (1, vi x1), (2, vi (x2 + 1))] [] sw1 (upm (upm m1 104 (w32 x2) (-1)) 84 31 (zor (m1 84 31) (zshl 1 x2))) Q))))) ∧ (¬ (w32 z1 < 0) → ((0 ≤ w32 x2 ∧ w32 x2 < 9) ∧ ((0 ≤ w32 x2 ∧ w32 x2 < 9) ∧ ((0 ≤ w32 x2 ∧ w32 x2 < 9) ∧ ((w32 ((upm m1 104 (w32 x2) (z1 + (m1 88 (w32 x2)))) 104 (w32 x2)) < 0 → R2 X 2 mY_goMorning 12 [(0, vr 84), (1, vi x1), (2, vi (x2 + 1))] [] sw1 (upm m1 104 (w32 x2) (z1 + (m1 88 (w32 x2)))) Q) ∧ (¬ (w32 ((upm m1 104 (w32 x2) (z1 + (m1 88 (w32 x2)))) 104 (w32 x2)) < 0) → R2 X 2 mY_goMorning 12 [(0, vr 84), (1, vi x1), (2, vi (x2 + 1))] [] sw1 (upm (upm m1 104 (w32 x2) (z1 + (m1 88 (w32 x2)))) 84 31 (zor (m1 84 31) (zshl 1 x2))) Q))))))))))))) : R2 X 2 mY_goMorning 12 [(0, vr 84), (1, vi x1), (2, vi x2)] [] sw m Q := by
  refine r_iload_n 2 2 rfl dY_goMorning_12 rfl ?_
  refine r_aload_n 0 0 rfl dY_goMorning_13 rfl ?_
  refine q_getI 1 c84 fY_130 rfl rfl dY_goMorning_14 ?_
  refine r_ifc_ge (tgt := 117) dY_goMorning_17 (by decide) (fun hc => ?_) (fun hc => ?_)
  · replace h := h.1 hc
    exact q_vret rfl h dY_goMorning_117
  · replace h := h.2 hc
    refine r_aload_n 0 0 rfl dY_goMorning_20 rfl ?_
    refine r_iload_n 2 2 rfl dY_goMorning_21 rfl ?_
    refine r_callVi 12 [_] rfl c84 rfl rfl oY_waitsTill iY_waitsTill sY_waitsTill yY_260 (by decide) ⟨Nat.le_refl _, Nat.le_refl _⟩ rfl (Nat.le_of_ble_eq_true rfl) dY_goMorning_22 h (fun z1 r1 m1 h => ?_)
    obtain ⟨sw1, rfl, h⟩ := h
    refine r_istore_n 3 (by decide) dY_goMorning_25 rfl ?_
    refine r_iload_n 1 2 rfl dY_goMorning_26 rfl ?_
    refine r_iload_n 2 3 rfl dY_goMorning_27 rfl ?_
    refine r_ishr dY_goMorning_28 ?_
    refine r_iconst dY_goMorning_29 ?_
    refine r_iand dY_goMorning_30 ?_
    refine r_iconst dY_goMorning_31 ?_
    refine r_ifc_ne (tgt := 39) dY_goMorning_32 (by decide) (fun hc => ?_) (fun hc => ?_)
    · replace h := h.1 hc
      refine r_iconst dY_goMorning_39 ?_
      refine r_istore 4 (by decide) dY_goMorning_40 ?_
      refine r_aload_n 0 2 rfl dY_goMorning_42 rfl ?_
      refine q_getR 29 c84 fY_71 rfl rfl (g84_29 sw1) (by decide) dY_goMorning_43 ?_
      refine r_iload_n 2 4 rfl dY_goMorning_46 rfl ?_
      refine r_iload 4 0 rfl dY_goMorning_47 ?_
      refine r_if_eq (tgt := 67) dY_goMorning_49 (by decide) (fun _ => ?_) (fun q => absurd (show w32 0 = 0 by decide) q)
      refine r_iconst dY_goMorning_67 ?_
      refine q_iastore (w32 x2) rfl c104 h.1 dY_goMorning_68 ?_
      replace h := h.2
      refine r_aload_n 0 2 rfl dY_goMorning_69 rfl ?_
      refine q_getR 29 c84 fY_71 rfl rfl (g84_29 sw1) (by decide) dY_goMorning_70 ?_
      refine r_iload_n 2 4 rfl dY_goMorning_73 rfl ?_
      refine q_iaload (w32 x2) rfl c104 h.1 dY_goMorning_74 ?_
      replace h := h.2
      refine r_if_lt (tgt := 90) dY_goMorning_75 (by decide) (fun hc => ?_) (fun hc => ?_)
      · replace h := h.1 hc
        refine r_iload 4 0 rfl dY_goMorning_90 ?_
        refine r_if_ne (tgt := 111) dY_goMorning_92 (by decide) (fun q => absurd (show ¬ w32 0 = 0 from q) (by decide)) (fun _ => ?_)
        refine r_iload_n 3 1 rfl dY_goMorning_95 rfl ?_
        refine r_if_lt (tgt := 111) dY_goMorning_96 (by decide) (fun hc => ?_) (fun hc => ?_)
        · replace h := h.1 hc
          refine r_iinc 2 4 rfl (by decide) dY_goMorning_111 ?_
          refine r_goto (tgt := 12) dY_goMorning_114 (by decide) ?_
          refine r_sub [3, 4, 0] ?_ h
          rfl
        · replace h := h.2 hc
          refine r_aload_n 0 2 rfl dY_goMorning_99 rfl ?_
          refine r_dup (fun q => by cases q) dY_goMorning_100 ?_
          refine q_getI 30 c84 fY_254 rfl rfl dY_goMorning_101 ?_
          refine r_iconst dY_goMorning_104 ?_
          refine r_iload_n 2 4 rfl dY_goMorning_105 rfl ?_
          refine r_ishl dY_goMorning_106 ?_
          refine r_ior dY_goMorning_107 ?_
          refine q_putI 30 c84 pfY_254 rfl rfl dY_goMorning_108 ?_
          refine r_iinc 2 4 rfl (by decide) dY_goMorning_111 ?_
          refine r_goto (tgt := 12) dY_goMorning_114 (by decide) ?_
          refine r_sub [3, 4, 0] ?_ h
          rfl
      · replace h := h.2 hc
        refine r_aload_n 0 2 rfl dY_goMorning_78 rfl ?_
        refine r_dup (fun q => by cases q) dY_goMorning_79 ?_
        refine q_getI 31 c84 fY_257 rfl rfl dY_goMorning_80 ?_
        refine r_iconst dY_goMorning_83 ?_
        refine r_iload_n 2 4 rfl dY_goMorning_84 rfl ?_
        refine r_ishl dY_goMorning_85 ?_
        refine r_ior dY_goMorning_86 ?_
        refine q_putI 31 c84 pfY_257 rfl rfl dY_goMorning_87 ?_
        refine r_iload 4 0 rfl dY_goMorning_90 ?_
        refine r_if_ne (tgt := 111) dY_goMorning_92 (by decide) (fun q => absurd (show ¬ w32 0 = 0 from q) (by decide)) (fun _ => ?_)
        refine r_iload_n 3 1 rfl dY_goMorning_95 rfl ?_
        refine r_if_lt (tgt := 111) dY_goMorning_96 (by decide) (fun hc => ?_) (fun hc => ?_)
        · replace h := h.1 hc
          refine r_iinc 2 4 rfl (by decide) dY_goMorning_111 ?_
          refine r_goto (tgt := 12) dY_goMorning_114 (by decide) ?_
          refine r_sub [3, 4, 0] ?_ h
          rfl
        · replace h := h.2 hc
          refine r_aload_n 0 2 rfl dY_goMorning_99 rfl ?_
          refine r_dup (fun q => by cases q) dY_goMorning_100 ?_
          refine q_getI 30 c84 fY_254 rfl rfl dY_goMorning_101 ?_
          refine r_iconst dY_goMorning_104 ?_
          refine r_iload_n 2 4 rfl dY_goMorning_105 rfl ?_
          refine r_ishl dY_goMorning_106 ?_
          refine r_ior dY_goMorning_107 ?_
          refine q_putI 30 c84 pfY_254 rfl rfl dY_goMorning_108 ?_
          refine r_iinc 2 4 rfl (by decide) dY_goMorning_111 ?_
          refine r_goto (tgt := 12) dY_goMorning_114 (by decide) ?_
          refine r_sub [3, 4, 0] ?_ h
          rfl
    · replace h := h.2 hc
      refine r_iconst dY_goMorning_35 ?_
      refine r_goto (tgt := 40) dY_goMorning_36 (by decide) ?_
      refine r_istore 4 (by decide) dY_goMorning_40 ?_
      refine r_aload_n 0 2 rfl dY_goMorning_42 rfl ?_
      refine q_getR 29 c84 fY_71 rfl rfl (g84_29 sw1) (by decide) dY_goMorning_43 ?_
      refine r_iload_n 2 4 rfl dY_goMorning_46 rfl ?_
      refine r_iload 4 0 rfl dY_goMorning_47 ?_
      refine r_if_eq (tgt := 67) dY_goMorning_49 (by decide) (fun q => absurd (show w32 1 = 0 from q) (by decide)) (fun _ => ?_)
      refine r_iload_n 3 1 rfl dY_goMorning_52 rfl ?_
      refine r_if_lt (tgt := 67) dY_goMorning_53 (by decide) (fun hc => ?_) (fun hc => ?_)
      · replace h := h.1 hc
        refine r_iconst dY_goMorning_67 ?_
        refine q_iastore (w32 x2) rfl c104 h.1 dY_goMorning_68 ?_
        replace h := h.2
        refine r_aload_n 0 2 rfl dY_goMorning_69 rfl ?_
        refine q_getR 29 c84 fY_71 rfl rfl (g84_29 sw1) (by decide) dY_goMorning_70 ?_
        refine r_iload_n 2 4 rfl dY_goMorning_73 rfl ?_
        refine q_iaload (w32 x2) rfl c104 h.1 dY_goMorning_74 ?_
        replace h := h.2
        refine r_if_lt (tgt := 90) dY_goMorning_75 (by decide) (fun hc => ?_) (fun hc => ?_)
        · replace h := h.1 hc
          refine r_iload 4 0 rfl dY_goMorning_90 ?_
          refine r_if_ne (tgt := 111) dY_goMorning_92 (by decide) (fun _ => ?_) (fun q => absurd (show ¬ w32 1 = 0 by decide) q)
          refine r_iinc 2 4 rfl (by decide) dY_goMorning_111 ?_
          refine r_goto (tgt := 12) dY_goMorning_114 (by decide) ?_
          refine r_sub [3, 4, 0] ?_ h
          rfl
        · replace h := h.2 hc
          refine r_aload_n 0 2 rfl dY_goMorning_78 rfl ?_
          refine r_dup (fun q => by cases q) dY_goMorning_79 ?_
          refine q_getI 31 c84 fY_257 rfl rfl dY_goMorning_80 ?_
          refine r_iconst dY_goMorning_83 ?_
          refine r_iload_n 2 4 rfl dY_goMorning_84 rfl ?_
          refine r_ishl dY_goMorning_85 ?_
          refine r_ior dY_goMorning_86 ?_
          refine q_putI 31 c84 pfY_257 rfl rfl dY_goMorning_87 ?_
          refine r_iload 4 0 rfl dY_goMorning_90 ?_
          refine r_if_ne (tgt := 111) dY_goMorning_92 (by decide) (fun _ => ?_) (fun q => absurd (show ¬ w32 1 = 0 by decide) q)
          refine r_iinc 2 4 rfl (by decide) dY_goMorning_111 ?_
          refine r_goto (tgt := 12) dY_goMorning_114 (by decide) ?_
          refine r_sub [3, 4, 0] ?_ h
          rfl
      · replace h := h.2 hc
        refine r_iload_n 3 1 rfl dY_goMorning_56 rfl ?_
        refine r_aload_n 0 2 rfl dY_goMorning_57 rfl ?_
        refine q_getR 5 c84 fY_21 rfl rfl (g84_5 sw1) (by decide) dY_goMorning_58 ?_
        refine r_iload_n 2 4 rfl dY_goMorning_61 rfl ?_
        refine q_iaload (w32 x2) rfl c88 h.1 dY_goMorning_62 ?_
        replace h := h.2
        refine r_iadd dY_goMorning_63 ?_
        refine r_goto (tgt := 68) dY_goMorning_64 (by decide) ?_
        refine q_iastore (w32 x2) rfl c104 h.1 dY_goMorning_68 ?_
        replace h := h.2
        refine r_aload_n 0 2 rfl dY_goMorning_69 rfl ?_
        refine q_getR 29 c84 fY_71 rfl rfl (g84_29 sw1) (by decide) dY_goMorning_70 ?_
        refine r_iload_n 2 4 rfl dY_goMorning_73 rfl ?_
        refine q_iaload (w32 x2) rfl c104 h.1 dY_goMorning_74 ?_
        replace h := h.2
        refine r_if_lt (tgt := 90) dY_goMorning_75 (by decide) (fun hc => ?_) (fun hc => ?_)
        · replace h := h.1 hc
          refine r_iload 4 0 rfl dY_goMorning_90 ?_
          refine r_if_ne (tgt := 111) dY_goMorning_92 (by decide) (fun _ => ?_) (fun q => absurd (show ¬ w32 1 = 0 by decide) q)
          refine r_iinc 2 4 rfl (by decide) dY_goMorning_111 ?_
          refine r_goto (tgt := 12) dY_goMorning_114 (by decide) ?_
          refine r_sub [3, 4, 0] ?_ h
          rfl
        · replace h := h.2 hc
          refine r_aload_n 0 2 rfl dY_goMorning_78 rfl ?_
          refine r_dup (fun q => by cases q) dY_goMorning_79 ?_
          refine q_getI 31 c84 fY_257 rfl rfl dY_goMorning_80 ?_
          refine r_iconst dY_goMorning_83 ?_
          refine r_iload_n 2 4 rfl dY_goMorning_84 rfl ?_
          refine r_ishl dY_goMorning_85 ?_
          refine r_ior dY_goMorning_86 ?_
          refine q_putI 31 c84 pfY_257 rfl rfl dY_goMorning_87 ?_
          refine r_iload 4 0 rfl dY_goMorning_90 ?_
          refine r_if_ne (tgt := 111) dY_goMorning_92 (by decide) (fun _ => ?_) (fun q => absurd (show ¬ w32 1 = 0 by decide) q)
          refine r_iinc 2 4 rfl (by decide) dY_goMorning_111 ?_
          refine r_goto (tgt := 12) dY_goMorning_114 (by decide) ?_
          refine r_sub [3, 4, 0] ?_ h
          rfl
theorem dY_endNow_0 : decode mY_endNow.2.1 0 = .ok (.aload_n 0, 1) := by decide +kernel
theorem dY_endNow_1 : decode mY_endNow.2.1 1 = .ok (.getfield 130, 3) := by decide +kernel
theorem dY_endNow_4 : decode mY_endNow.2.1 4 = .ok (.ifCond .ne 7, 3) := by decide +kernel
theorem dY_endNow_7 : decode mY_endNow.2.1 7 = .ok (.iconst (-1), 1) := by decide +kernel
theorem dY_endNow_8 : decode mY_endNow.2.1 8 = .ok (.goto 14, 3) := by decide +kernel
theorem dY_endNow_11 : decode mY_endNow.2.1 11 = .ok (.aload_n 0, 1) := by decide +kernel
theorem dY_endNow_12 : decode mY_endNow.2.1 12 = .ok (.getfield 71, 3) := by decide +kernel
theorem dY_endNow_15 : decode mY_endNow.2.1 15 = .ok (.aload_n 0, 1) := by decide +kernel
theorem dY_endNow_16 : decode mY_endNow.2.1 16 = .ok (.getfield 130, 3) := by decide +kernel
theorem dY_endNow_19 : decode mY_endNow.2.1 19 = .ok (.iconst 1, 1) := by decide +kernel
theorem dY_endNow_20 : decode mY_endNow.2.1 20 = .ok (.isub, 1) := by decide +kernel
theorem dY_endNow_21 : decode mY_endNow.2.1 21 = .ok (.iaload, 1) := by decide +kernel
theorem dY_endNow_22 : decode mY_endNow.2.1 22 = .ok (.ireturn, 1) := by decide +kernel
/- Y_endNow: ()I -/
set_option maxRecDepth 4000 in
theorem wY_endNow {X : Cx} (sw : Bool) (m : Mem) (Q : Int → Bool → Mem → Prop) (h : ((¬ w32 (m 84 1) = 0 → ((0 ≤ w32 ((m 84 1) - 1) ∧ w32 ((m 84 1) - 1) < 9) ∧ Q (m 104 (w32 ((m 84 1) - 1))) sw m)) ∧ (¬ (¬ w32 (m 84 1) = 0) → Q (-1) sw m))) : M2 X 1 mY_endNow [vr 84] sw m Q := by
  refine Mt.of pY_endNow (Nat.le_of_ble_eq_true rfl) (Nat.le_refl _) ?_
  show R2 X 1 mY_endNow 0 [(0, vr 84)] [] sw m Q
  refine r_aload_n 0 0 rfl dY_endNow_0 rfl ?_
  refine q_getI 1 c84 fY_130 rfl rfl dY_endNow_1 ?_
  refine r_if_ne (tgt := 11) dY_endNow_4 (by decide) (fun hc => ?_) (fun hc => ?_)
  · replace h := h.1 hc
    refine r_aload_n 0 0 rfl dY_endNow_11 rfl ?_
    refine q_getR 29 c84 fY_71 rfl rfl (g84_29 sw) (by decide) dY_endNow_12 ?_
    refine r_aload_n 0 0 rfl dY_endNow_15 rfl ?_
    refine q_getI 1 c84 fY_130 rfl rfl dY_endNow_16 ?_
    refine r_iconst dY_endNow_19 ?_
    refine r_isub dY_endNow_20 ?_
    refine q_iaload (w32 ((m 84 1) - 1)) rfl c104 h.1 dY_endNow_21 ?_
    replace h := h.2
    exact q_iret rfl h dY_endNow_22
  · replace h := h.2 hc
    refine r_iconst dY_endNow_7 ?_
    refine r_goto (tgt := 22) dY_endNow_8 (by decide) ?_
    exact q_iret rfl h dY_endNow_22
theorem dY_layTwelfths_0 : decode mY_layTwelfths.2.1 0 = .ok (.iconst 0, 1) := by decide +kernel
theorem dY_layTwelfths_1 : decode mY_layTwelfths.2.1 1 = .ok (.istore_n 1, 1) := by decide +kernel
theorem dY_layTwelfths_2 : decode mY_layTwelfths.2.1 2 = .ok (.iload_n 1, 1) := by decide +kernel
theorem dY_layTwelfths_3 : decode mY_layTwelfths.2.1 3 = .ok (.aload_n 0, 1) := by decide +kernel
theorem dY_layTwelfths_4 : decode mY_layTwelfths.2.1 4 = .ok (.getfield 130, 3) := by decide +kernel
theorem dY_layTwelfths_7 : decode mY_layTwelfths.2.1 7 = .ok (.if_icmp .ge 20, 3) := by decide +kernel
theorem dY_layTwelfths_10 : decode mY_layTwelfths.2.1 10 = .ok (.aload_n 0, 1) := by decide +kernel
theorem dY_layTwelfths_11 : decode mY_layTwelfths.2.1 11 = .ok (.getfield 74, 3) := by decide +kernel
theorem dY_layTwelfths_14 : decode mY_layTwelfths.2.1 14 = .ok (.iload_n 1, 1) := by decide +kernel
theorem dY_layTwelfths_15 : decode mY_layTwelfths.2.1 15 = .ok (.aload_n 0, 1) := by decide +kernel
theorem dY_layTwelfths_16 : decode mY_layTwelfths.2.1 16 = .ok (.iload_n 1, 1) := by decide +kernel
theorem dY_layTwelfths_17 : decode mY_layTwelfths.2.1 17 = .ok (.invokevirtual 251, 3) := by decide +kernel
theorem dY_layTwelfths_20 : decode mY_layTwelfths.2.1 20 = .ok (.iastore, 1) := by decide +kernel
theorem dY_layTwelfths_21 : decode mY_layTwelfths.2.1 21 = .ok (.iinc 1 1, 3) := by decide +kernel
theorem dY_layTwelfths_24 : decode mY_layTwelfths.2.1 24 = .ok (.goto (-22), 3) := by decide +kernel
theorem dY_layTwelfths_27 : decode mY_layTwelfths.2.1 27 = .ok (.return_, 1) := by decide +kernel
/- Y_layTwelfths: ()V -/
set_option maxRecDepth 4000 in
theorem wY_layTwelfths {X : Cx} (sw : Bool) (m : Mem) (Q : Int → Bool → Mem → Prop) (h : R2 X 5 mY_layTwelfths 2 [(0, vr 84), (1, vi 0)] [] sw m Q) : M2 X 5 mY_layTwelfths [vr 84] sw m Q := by
  refine Mt.of pY_layTwelfths (Nat.le_of_ble_eq_true rfl) (Nat.le_refl _) ?_
  show R2 X 5 mY_layTwelfths 0 [(0, vr 84)] [] sw m Q
  refine r_iconst dY_layTwelfths_0 ?_
  refine r_istore_n 1 (by decide) dY_layTwelfths_1 rfl ?_
  refine r_sub [1, 0] ?_ h
  rfl
set_option maxRecDepth 4000 in
theorem wY_layTwelfths_2 {X : Cx} (x1 : Int) (sw : Bool) (m : Mem) (Q : Int → Bool → Mem → Prop) (h : ((w32 (m 84 1) ≤ w32 x1 → Q 0 sw m) ∧ (¬ (w32 (m 84 1) ≤ w32 x1) → M2 X 4 mY_twelfthsOf [vr 84, vi x1] sw m (fun z1 sw1 m1 => ((0 ≤ w32 x1 ∧ w32 x1 < 9) ∧ R2 X 5 mY_layTwelfths 2 [(0, vr 84), (1, vi (x1 + 1))] [] sw1 (upm m1 105 (w32 x1) z1) Q))))) : R2 X 5 mY_layTwelfths 2 [(0, vr 84), (1, vi x1)] [] sw m Q := by
  refine r_iload_n 1 1 rfl dY_layTwelfths_2 rfl ?_
  refine r_aload_n 0 0 rfl dY_layTwelfths_3 rfl ?_
  refine q_getI 1 c84 fY_130 rfl rfl dY_layTwelfths_4 ?_
  refine r_ifc_ge (tgt := 27) dY_layTwelfths_7 (by decide) (fun hc => ?_) (fun hc => ?_)
  · replace h := h.1 hc
    exact q_vret rfl h dY_layTwelfths_27
  · replace h := h.2 hc
    refine r_aload_n 0 0 rfl dY_layTwelfths_10 rfl ?_
    refine q_getR 32 c84 fY_74 rfl rfl (g84_32 sw) (by decide) dY_layTwelfths_11 ?_
    refine r_iload_n 1 1 rfl dY_layTwelfths_14 rfl ?_
    refine r_aload_n 0 0 rfl dY_layTwelfths_15 rfl ?_
    refine r_iload_n 1 1 rfl dY_layTwelfths_16 rfl ?_
    refine r_callVi 12 [_] rfl c84 rfl rfl oY_twelfthsOf iY_twelfthsOf sY_twelfthsOf yY_251 (by decide) ⟨Nat.le_refl _, Nat.le_refl _⟩ rfl (Nat.le_of_ble_eq_true rfl) dY_layTwelfths_17 h (fun z1 r1 m1 h => ?_)
    obtain ⟨sw1, rfl, h⟩ := h
    refine q_iastore (w32 x1) rfl c105 h.1 dY_layTwelfths_20 ?_
    replace h := h.2
    refine r_iinc 1 1 rfl (by decide) dY_layTwelfths_21 ?_
    refine r_goto (tgt := 2) dY_layTwelfths_24 (by decide) ?_
    refine r_sub [1, 0] ?_ h
    rfl
theorem dY_oddsOf_0 : decode mY_oddsOf.2.1 0 = .ok (.lconst 1, 1) := by decide +kernel
theorem dY_oddsOf_1 : decode mY_oddsOf.2.1 1 = .ok (.lstore_n 2, 1) := by decide +kernel
theorem dY_oddsOf_2 : decode mY_oddsOf.2.1 2 = .ok (.iconst 0, 1) := by decide +kernel
theorem dY_oddsOf_3 : decode mY_oddsOf.2.1 3 = .ok (.istore 4, 2) := by decide +kernel
theorem dY_oddsOf_5 : decode mY_oddsOf.2.1 5 = .ok (.iload 4, 2) := by decide +kernel
theorem dY_oddsOf_7 : decode mY_oddsOf.2.1 7 = .ok (.aload_n 0, 1) := by decide +kernel
theorem dY_oddsOf_8 : decode mY_oddsOf.2.1 8 = .ok (.getfield 130, 3) := by decide +kernel
theorem dY_oddsOf_11 : decode mY_oddsOf.2.1 11 = .ok (.if_icmp .ge 99, 3) := by decide +kernel
theorem dY_oddsOf_14 : decode mY_oddsOf.2.1 14 = .ok (.bipush 12, 2) := by decide +kernel
theorem dY_oddsOf_16 : decode mY_oddsOf.2.1 16 = .ok (.aload_n 0, 1) := by decide +kernel
theorem dY_oddsOf_17 : decode mY_oddsOf.2.1 17 = .ok (.getfield 74, 3) := by decide +kernel
theorem dY_oddsOf_20 : decode mY_oddsOf.2.1 20 = .ok (.iload 4, 2) := by decide +kernel
theorem dY_oddsOf_22 : decode mY_oddsOf.2.1 22 = .ok (.iaload, 1) := by decide +kernel
theorem dY_oddsOf_23 : decode mY_oddsOf.2.1 23 = .ok (.isub, 1) := by decide +kernel
theorem dY_oddsOf_24 : decode mY_oddsOf.2.1 24 = .ok (.istore 5, 2) := by decide +kernel
theorem dY_oddsOf_26 : decode mY_oddsOf.2.1 26 = .ok (.iload_n 1, 1) := by decide +kernel
theorem dY_oddsOf_27 : decode mY_oddsOf.2.1 27 = .ok (.iload 4, 2) := by decide +kernel
theorem dY_oddsOf_29 : decode mY_oddsOf.2.1 29 = .ok (.ishr, 1) := by decide +kernel
theorem dY_oddsOf_30 : decode mY_oddsOf.2.1 30 = .ok (.iconst 1, 1) := by decide +kernel
theorem dY_oddsOf_31 : decode mY_oddsOf.2.1 31 = .ok (.iand, 1) := by decide +kernel
theorem dY_oddsOf_32 : decode mY_oddsOf.2.1 32 = .ok (.iconst 1, 1) := by decide +kernel
theorem dY_oddsOf_33 : decode mY_oddsOf.2.1 33 = .ok (.if_icmp .ne 7, 3) := by decide +kernel
theorem dY_oddsOf_36 : decode mY_oddsOf.2.1 36 = .ok (.iconst 1, 1) := by decide +kernel
theorem dY_oddsOf_37 : decode mY_oddsOf.2.1 37 = .ok (.goto 4, 3) := by decide +kernel
theorem dY_oddsOf_40 : decode mY_oddsOf.2.1 40 = .ok (.iconst 0, 1) := by decide +kernel
theorem dY_oddsOf_41 : decode mY_oddsOf.2.1 41 = .ok (.istore 6, 2) := by decide +kernel
theorem dY_oddsOf_43 : decode mY_oddsOf.2.1 43 = .ok (.iload 4, 2) := by decide +kernel
theorem dY_oddsOf_45 : decode mY_oddsOf.2.1 45 = .ok (.aload_n 0, 1) := by decide +kernel
theorem dY_oddsOf_46 : decode mY_oddsOf.2.1 46 = .ok (.getfield 77, 3) := by decide +kernel
theorem dY_oddsOf_49 : decode mY_oddsOf.2.1 49 = .ok (.if_icmp .ne 33, 3) := by decide +kernel
theorem dY_oddsOf_52 : decode mY_oddsOf.2.1 52 = .ok (.lload_n 2, 1) := by decide +kernel
theorem dY_oddsOf_53 : decode mY_oddsOf.2.1 53 = .ok (.iload 6, 2) := by decide +kernel
theorem dY_oddsOf_55 : decode mY_oddsOf.2.1 55 = .ok (.ifCond .eq 16, 3) := by decide +kernel
theorem dY_oddsOf_58 : decode mY_oddsOf.2.1 58 = .ok (.sipush 144, 3) := by decide +kernel
theorem dY_oddsOf_61 : decode mY_oddsOf.2.1 61 = .ok (.iload 5, 2) := by decide +kernel
theorem dY_oddsOf_63 : decode mY_oddsOf.2.1 63 = .ok (.iload 5, 2) := by decide +kernel
theorem dY_oddsOf_65 : decode mY_oddsOf.2.1 65 = .ok (.imul, 1) := by decide +kernel
theorem dY_oddsOf_66 : decode mY_oddsOf.2.1 66 = .ok (.isub, 1) := by decide +kernel
theorem dY_oddsOf_67 : decode mY_oddsOf.2.1 67 = .ok (.i2l, 1) := by decide +kernel
theorem dY_oddsOf_68 : decode mY_oddsOf.2.1 68 = .ok (.goto 9, 3) := by decide +kernel
theorem dY_oddsOf_71 : decode mY_oddsOf.2.1 71 = .ok (.iload 5, 2) := by decide +kernel
theorem dY_oddsOf_73 : decode mY_oddsOf.2.1 73 = .ok (.iload 5, 2) := by decide +kernel
theorem dY_oddsOf_75 : decode mY_oddsOf.2.1 75 = .ok (.imul, 1) := by decide +kernel
theorem dY_oddsOf_76 : decode mY_oddsOf.2.1 76 = .ok (.i2l, 1) := by decide +kernel
theorem dY_oddsOf_77 : decode mY_oddsOf.2.1 77 = .ok (.lmul, 1) := by decide +kernel
theorem dY_oddsOf_78 : decode mY_oddsOf.2.1 78 = .ok (.lstore_n 2, 1) := by decide +kernel
theorem dY_oddsOf_79 : decode mY_oddsOf.2.1 79 = .ok (.goto 25, 3) := by decide +kernel
theorem dY_oddsOf_82 : decode mY_oddsOf.2.1 82 = .ok (.lload_n 2, 1) := by decide +kernel
theorem dY_oddsOf_83 : decode mY_oddsOf.2.1 83 = .ok (.iload 6, 2) := by decide +kernel
theorem dY_oddsOf_85 : decode mY_oddsOf.2.1 85 = .ok (.ifCond .eq 14, 3) := by decide +kernel
theorem dY_oddsOf_88 : decode mY_oddsOf.2.1 88 = .ok (.aload_n 0, 1) := by decide +kernel
theorem dY_oddsOf_89 : decode mY_oddsOf.2.1 89 = .ok (.getfield 74, 3) := by decide +kernel
theorem dY_oddsOf_92 : decode mY_oddsOf.2.1 92 = .ok (.iload 4, 2) := by decide +kernel
theorem dY_oddsOf_94 : decode mY_oddsOf.2.1 94 = .ok (.iaload, 1) := by decide +kernel
theorem dY_oddsOf_95 : decode mY_oddsOf.2.1 95 = .ok (.i2l, 1) := by decide +kernel
theorem dY_oddsOf_96 : decode mY_oddsOf.2.1 96 = .ok (.goto 6, 3) := by decide +kernel
theorem dY_oddsOf_99 : decode mY_oddsOf.2.1 99 = .ok (.iload 5, 2) := by decide +kernel
theorem dY_oddsOf_101 : decode mY_oddsOf.2.1 101 = .ok (.i2l, 1) := by decide +kernel
theorem dY_oddsOf_102 : decode mY_oddsOf.2.1 102 = .ok (.lmul, 1) := by decide +kernel
theorem dY_oddsOf_103 : decode mY_oddsOf.2.1 103 = .ok (.lstore_n 2, 1) := by decide +kernel
theorem dY_oddsOf_104 : decode mY_oddsOf.2.1 104 = .ok (.iinc 4 1, 3) := by decide +kernel
theorem dY_oddsOf_107 : decode mY_oddsOf.2.1 107 = .ok (.goto (-102), 3) := by decide +kernel
theorem dY_oddsOf_110 : decode mY_oddsOf.2.1 110 = .ok (.lload_n 2, 1) := by decide +kernel
theorem dY_oddsOf_111 : decode mY_oddsOf.2.1 111 = .ok (.lreturn, 1) := by decide +kernel
/- Y_oddsOf: (I)J -/
set_option maxRecDepth 4000 in
theorem wY_oddsOf {X : Cx} (a1 : Int) (sw : Bool) (m : Mem) (Q : Int → Bool → Mem → Prop) (h : R2 X 1 mY_oddsOf 5 [(0, vr 84), (1, vi a1), (2, vl 1), (4, vi 0)] [] sw m Q) : M2 X 1 mY_oddsOf [vr 84, vi a1] sw m Q := by
  refine Mt.of pY_oddsOf (Nat.le_of_ble_eq_true rfl) (Nat.le_refl _) ?_
  show R2 X 1 mY_oddsOf 0 [(0, vr 84), (1, vi a1)] [] sw m Q
  refine r_lconst dY_oddsOf_0 ?_
  refine r_lstore_n 2 (by decide) dY_oddsOf_1 rfl ?_
  refine r_iconst dY_oddsOf_2 ?_
  refine r_istore 4 (by decide) dY_oddsOf_3 ?_
  refine r_sub [2, 3, 1, 0] ?_ h
  rfl
set_option maxRecDepth 4000 in
theorem wY_oddsOf_5 {X : Cx} (x1 x2 x4 : Int) (sw : Bool) (m : Mem) (Q : Int → Bool → Mem → Prop) (h : ((w32 (m 84 1) ≤ w32 x4 → Q x2 sw m) ∧ (¬ (w32 (m 84 1) ≤ w32 x4) → ((0 ≤ w32 x4 ∧ w32 x4 < 9) ∧ ((¬ w32 (zand (zshr x1 x4) 1) = 1 → ((¬ w32 x4 = w32 (m 84 33) → R2 X 1 mY_oddsOf 5 [(0, vr 84), (1, vi x1), (2, vl (x2 * w32 (12 - (m 105 (w32 x4))))), (4, vi (x4 + 1))] [] sw m Q) ∧ (¬ (¬ w32 x4 = w32 (m 84 33)) → R2 X 1 mY_oddsOf 5 [(0, vr 84), (1, vi x1), (2, vl (x2 * w32 ((12 - (m 105 (w32 x4))) * (12 - (m 105 (w32 x4)))))), (4, vi (x4 + 1))] [] sw m Q))) ∧ (¬ (¬ w32 (zand (zshr x1 x4) 1) = 1) → ((¬ w32 x4 = w32 (m 84 33) → ((0 ≤ w32 x4 ∧ w32 x4 < 9) ∧ R2 X 1 mY_oddsOf 5 [(0, vr 84), (1, vi x1), (2, vl (x2 * w32 (m 105 (w32 x4)))), (4, vi (x4 + 1))] [] sw m Q)) ∧ (¬ (¬ w32 x4 = w32 (m 84 33)) → R2 X 1 mY_oddsOf 5 [(0, vr 84), (1, vi x1), (2, vl (x2 * w32 (144 - ((12 - (m 105 (w32 x4))) * (12 - (m 105 (w32 x4))))))), (4, vi (x4 + 1))] [] sw m Q)))))))) : R2 X 1 mY_oddsOf 5 [(0, vr 84), (1, vi x1), (2, vl x2), (4, vi x4)] [] sw m Q := by
  refine r_iload 4 3 rfl dY_oddsOf_5 ?_
  refine r_aload_n 0 0 rfl dY_oddsOf_7 rfl ?_
  refine q_getI 1 c84 fY_130 rfl rfl dY_oddsOf_8 ?_
  refine r_ifc_ge (tgt := 110) dY_oddsOf_11 (by decide) (fun hc => ?_) (fun hc => ?_)
  · replace h := h.1 hc
    refine r_lload_n 2 2 rfl dY_oddsOf_110 rfl ?_
    exact q_lret rfl h dY_oddsOf_111
  · replace h := h.2 hc
    refine r_bipush (by decide) dY_oddsOf_14 ?_
    refine r_aload_n 0 0 rfl dY_oddsOf_16 rfl ?_
    refine q_getR 32 c84 fY_74 rfl rfl (g84_32 sw) (by decide) dY_oddsOf_17 ?_
    refine r_iload 4 3 rfl dY_oddsOf_20 ?_
    refine q_iaload (w32 x4) rfl c105 h.1 dY_oddsOf_22 ?_
    replace h := h.2
    refine r_isub dY_oddsOf_23 ?_
    refine r_istore 5 (by decide) dY_oddsOf_24 ?_
    refine r_iload_n 1 2 rfl dY_oddsOf_26 rfl ?_
    refine r_iload 4 4 rfl dY_oddsOf_27 ?_
    refine r_ishr dY_oddsOf_29 ?_
    refine r_iconst dY_oddsOf_30 ?_
    refine r_iand dY_oddsOf_31 ?_
    refine r_iconst dY_oddsOf_32 ?_
    refine r_ifc_ne (tgt := 40) dY_oddsOf_33 (by decide) (fun hc => ?_) (fun hc => ?_)
    · replace h := h.1 hc
      refine r_iconst dY_oddsOf_40 ?_
      refine r_istore 6 (by decide) dY_oddsOf_41 ?_
      refine r_iload 4 5 rfl dY_oddsOf_43 ?_
      refine r_aload_n 0 2 rfl dY_oddsOf_45 rfl ?_
      refine q_getI 33 c84 fY_77 rfl rfl dY_oddsOf_46 ?_
      refine r_ifc_ne (tgt := 82) dY_oddsOf_49 (by decide) (fun hc => ?_) (fun hc => ?_)
      · replace h := h.1 hc
        refine r_lload_n 2 4 rfl dY_oddsOf_82 rfl ?_
        refine r_iload 6 0 rfl dY_oddsOf_83 ?_
        refine r_if_eq (tgt := 99) dY_oddsOf_85 (by decide) (fun _ => ?_) (fun q => absurd (show w32 0 = 0 by decide) q)
        refine r_iload 5 1 rfl dY_oddsOf_99 ?_
        refine r_i2l dY_oddsOf_101 ?_
        refine r_lmul dY_oddsOf_102 ?_
        refine r_lstore_n 2 (by decide) dY_oddsOf_103 rfl ?_
        refine r_iinc 4 5 rfl (by decide) dY_oddsOf_104 ?_
        refine r_goto (tgt := 5) dY_oddsOf_107 (by decide) ?_
        refine r_sub [4, 5, 1, 0] ?_ h
        rfl
      · replace h := h.2 hc
        refine r_lload_n 2 4 rfl dY_oddsOf_52 rfl ?_
        refine r_iload 6 0 rfl dY_oddsOf_53 ?_
        refine r_if_eq (tgt := 71) dY_oddsOf_55 (by decide) (fun _ => ?_) (fun q => absurd (show w32 0 = 0 by decide) q)
        refine r_iload 5 1 rfl dY_oddsOf_71 ?_
        refine r_iload 5 1 rfl dY_oddsOf_73 ?_
        refine r_imul dY_oddsOf_75 ?_
        refine r_i2l dY_oddsOf_76 ?_
        refine r_lmul dY_oddsOf_77 ?_
        refine r_lstore_n 2 (by decide) dY_oddsOf_78 rfl ?_
        refine r_goto (tgt := 104) dY_oddsOf_79 (by decide) ?_
        refine r_iinc 4 5 rfl (by decide) dY_oddsOf_104 ?_
        refine r_goto (tgt := 5) dY_oddsOf_107 (by decide) ?_
        refine r_sub [4, 5, 1, 0] ?_ h
        rfl
    · replace h := h.2 hc
      refine r_iconst dY_oddsOf_36 ?_
      refine r_goto (tgt := 41) dY_oddsOf_37 (by decide) ?_
      refine r_istore 6 (by decide) dY_oddsOf_41 ?_
      refine r_iload 4 5 rfl dY_oddsOf_43 ?_
      refine r_aload_n 0 2 rfl dY_oddsOf_45 rfl ?_
      refine q_getI 33 c84 fY_77 rfl rfl dY_oddsOf_46 ?_
      refine r_ifc_ne (tgt := 82) dY_oddsOf_49 (by decide) (fun hc => ?_) (fun hc => ?_)
      · replace h := h.1 hc
        refine r_lload_n 2 4 rfl dY_oddsOf_82 rfl ?_
        refine r_iload 6 0 rfl dY_oddsOf_83 ?_
        refine r_if_eq (tgt := 99) dY_oddsOf_85 (by decide) (fun q => absurd (show w32 1 = 0 from q) (by decide)) (fun _ => ?_)
        refine r_aload_n 0 2 rfl dY_oddsOf_88 rfl ?_
        refine q_getR 32 c84 fY_74 rfl rfl (g84_32 sw) (by decide) dY_oddsOf_89 ?_
        refine r_iload 4 5 rfl dY_oddsOf_92 ?_
        refine q_iaload (w32 x4) rfl c105 h.1 dY_oddsOf_94 ?_
        replace h := h.2
        refine r_i2l dY_oddsOf_95 ?_
        refine r_goto (tgt := 102) dY_oddsOf_96 (by decide) ?_
        refine r_lmul dY_oddsOf_102 ?_
        refine r_lstore_n 2 (by decide) dY_oddsOf_103 rfl ?_
        refine r_iinc 4 5 rfl (by decide) dY_oddsOf_104 ?_
        refine r_goto (tgt := 5) dY_oddsOf_107 (by decide) ?_
        refine r_sub [4, 5, 1, 0] ?_ h
        rfl
      · replace h := h.2 hc
        refine r_lload_n 2 4 rfl dY_oddsOf_52 rfl ?_
        refine r_iload 6 0 rfl dY_oddsOf_53 ?_
        refine r_if_eq (tgt := 71) dY_oddsOf_55 (by decide) (fun q => absurd (show w32 1 = 0 from q) (by decide)) (fun _ => ?_)
        refine r_sipush (by decide) dY_oddsOf_58 ?_
        refine r_iload 5 1 rfl dY_oddsOf_61 ?_
        refine r_iload 5 1 rfl dY_oddsOf_63 ?_
        refine r_imul dY_oddsOf_65 ?_
        refine r_isub dY_oddsOf_66 ?_
        refine r_i2l dY_oddsOf_67 ?_
        refine r_goto (tgt := 77) dY_oddsOf_68 (by decide) ?_
        refine r_lmul dY_oddsOf_77 ?_
        refine r_lstore_n 2 (by decide) dY_oddsOf_78 rfl ?_
        refine r_goto (tgt := 104) dY_oddsOf_79 (by decide) ?_
        refine r_iinc 4 5 rfl (by decide) dY_oddsOf_104 ?_
        refine r_goto (tgt := 5) dY_oddsOf_107 (by decide) ?_
        refine r_sub [4, 5, 1, 0] ?_ h
        rfl
theorem dY_sets_0 : decode mY_sets.2.1 0 = .ok (.iconst 1, 1) := by decide +kernel
theorem dY_sets_1 : decode mY_sets.2.1 1 = .ok (.aload_n 0, 1) := by decide +kernel
theorem dY_sets_2 : decode mY_sets.2.1 2 = .ok (.getfield 130, 3) := by decide +kernel
theorem dY_sets_5 : decode mY_sets.2.1 5 = .ok (.ishl, 1) := by decide +kernel
theorem dY_sets_6 : decode mY_sets.2.1 6 = .ok (.ireturn, 1) := by decide +kernel
/- Y_sets: ()I -/
set_option maxRecDepth 4000 in
theorem wY_sets {X : Cx} (sw : Bool) (m : Mem) (Q : Int → Bool → Mem → Prop) (h : Q (zshl 1 (m 84 1)) sw m) : M2 X 1 mY_sets [vr 84] sw m Q := by
  refine Mt.of pY_sets (Nat.le_of_ble_eq_true rfl) (Nat.le_refl _) ?_
  show R2 X 1 mY_sets 0 [(0, vr 84)] [] sw m Q
  refine r_iconst dY_sets_0 ?_
  refine r_aload_n 0 0 rfl dY_sets_1 rfl ?_
  refine q_getI 1 c84 fY_130 rfl rfl dY_sets_2 ?_
  refine r_ishl dY_sets_5 ?_
  exact q_iret rfl h dY_sets_6
theorem dY_whole_0 : decode mY_whole.2.1 0 = .ok (.aload_n 0, 1) := by decide +kernel
theorem dY_whole_1 : decode mY_whole.2.1 1 = .ok (.getfield 77, 3) := by decide +kernel
theorem dY_whole_4 : decode mY_whole.2.1 4 = .ok (.ifCond .ge 7, 3) := by decide +kernel
theorem dY_whole_7 : decode mY_whole.2.1 7 = .ok (.lconst 1, 1) := by decide +kernel
theorem dY_whole_8 : decode mY_whole.2.1 8 = .ok (.goto 6, 3) := by decide +kernel
theorem dY_whole_11 : decode mY_whole.2.1 11 = .ok (.ldc2_w 263, 3) := by decide +kernel
theorem dY_whole_14 : decode mY_whole.2.1 14 = .ok (.lstore_n 1, 1) := by decide +kernel
theorem dY_whole_15 : decode mY_whole.2.1 15 = .ok (.iconst 0, 1) := by decide +kernel
theorem dY_whole_16 : decode mY_whole.2.1 16 = .ok (.istore_n 3, 1) := by decide +kernel
theorem dY_whole_17 : decode mY_whole.2.1 17 = .ok (.iload_n 3, 1) := by decide +kernel
theorem dY_whole_18 : decode mY_whole.2.1 18 = .ok (.aload_n 0, 1) := by decide +kernel
theorem dY_whole_19 : decode mY_whole.2.1 19 = .ok (.getfield 130, 3) := by decide +kernel
theorem dY_whole_22 : decode mY_whole.2.1 22 = .ok (.if_icmp .ge 15, 3) := by decide +kernel
theorem dY_whole_25 : decode mY_whole.2.1 25 = .ok (.lload_n 1, 1) := by decide +kernel
theorem dY_whole_26 : decode mY_whole.2.1 26 = .ok (.ldc2_w 263, 3) := by decide +kernel
theorem dY_whole_29 : decode mY_whole.2.1 29 = .ok (.lmul, 1) := by decide +kernel
theorem dY_whole_30 : decode mY_whole.2.1 30 = .ok (.lstore_n 1, 1) := by decide +kernel
theorem dY_whole_31 : decode mY_whole.2.1 31 = .ok (.iinc 3 1, 3) := by decide +kernel
theorem dY_whole_34 : decode mY_whole.2.1 34 = .ok (.goto (-17), 3) := by decide +kernel
theorem dY_whole_37 : decode mY_whole.2.1 37 = .ok (.lload_n 1, 1) := by decide +kernel
theorem dY_whole_38 : decode mY_whole.2.1 38 = .ok (.lreturn, 1) := by decide +kernel
/- Y_whole: ()J -/
set_option maxRecDepth 4000 in
theorem wY_whole {X : Cx} (sw : Bool) (m : Mem) (Q : Int → Bool → Mem → Prop) (h : ((0 ≤ w32 (m 84 33) → R2 X 1 mY_whole 17 [(0, vr 84), (1, vl 12), (3, vi 0)] [] sw m Q) ∧ (¬ (0 ≤ w32 (m 84 33)) → R2 X 1 mY_whole 17 [(0, vr 84), (1, vl 1), (3, vi 0)] [] sw m Q))) : M2 X 1 mY_whole [vr 84] sw m Q := by
  refine Mt.of pY_whole (Nat.le_of_ble_eq_true rfl) (Nat.le_refl _) ?_
  show R2 X 1 mY_whole 0 [(0, vr 84)] [] sw m Q
  refine r_aload_n 0 0 rfl dY_whole_0 rfl ?_
  refine q_getI 33 c84 fY_77 rfl rfl dY_whole_1 ?_
  refine r_if_ge (tgt := 11) dY_whole_4 (by decide) (fun hc => ?_) (fun hc => ?_)
  · replace h := h.1 hc
    refine r_ldc2 (z := 12) dY_whole_11 kY_263 ?_
    refine r_lstore_n 1 (by decide) dY_whole_14 rfl ?_
    refine r_iconst dY_whole_15 ?_
    refine r_istore_n 3 (by decide) dY_whole_16 rfl ?_
    refine r_sub [2, 1, 0] ?_ h
    rfl
  · replace h := h.2 hc
    refine r_lconst dY_whole_7 ?_
    refine r_goto (tgt := 14) dY_whole_8 (by decide) ?_
    refine r_lstore_n 1 (by decide) dY_whole_14 rfl ?_
    refine r_iconst dY_whole_15 ?_
    refine r_istore_n 3 (by decide) dY_whole_16 rfl ?_
    refine r_sub [2, 1, 0] ?_ h
    rfl
set_option maxRecDepth 4000 in
theorem wY_whole_17 {X : Cx} (x1 x3 : Int) (sw : Bool) (m : Mem) (Q : Int → Bool → Mem → Prop) (h : ((w32 (m 84 1) ≤ w32 x3 → Q x1 sw m) ∧ (¬ (w32 (m 84 1) ≤ w32 x3) → R2 X 1 mY_whole 17 [(0, vr 84), (1, vl (x1 * 12)), (3, vi (x3 + 1))] [] sw m Q))) : R2 X 1 mY_whole 17 [(0, vr 84), (1, vl x1), (3, vi x3)] [] sw m Q := by
  refine r_iload_n 3 2 rfl dY_whole_17 rfl ?_
  refine r_aload_n 0 0 rfl dY_whole_18 rfl ?_
  refine q_getI 1 c84 fY_130 rfl rfl dY_whole_19 ?_
  refine r_ifc_ge (tgt := 37) dY_whole_22 (by decide) (fun hc => ?_) (fun hc => ?_)
  · replace h := h.1 hc
    refine r_lload_n 1 1 rfl dY_whole_37 rfl ?_
    exact q_lret rfl h dY_whole_38
  · replace h := h.2 hc
    refine r_lload_n 1 1 rfl dY_whole_25 rfl ?_
    refine r_ldc2 (z := 12) dY_whole_26 kY_263 ?_
    refine r_lmul dY_whole_29 ?_
    refine r_lstore_n 1 (by decide) dY_whole_30 rfl ?_
    refine r_iinc 3 2 rfl (by decide) dY_whole_31 ?_
    refine r_goto (tgt := 17) dY_whole_34 (by decide) ?_
    refine r_sub [2, 1, 0] ?_ h
    rfl
theorem dY_isSet_0 : decode mY_isSet.2.1 0 = .ok (.iload_n 0, 1) := by decide +kernel
theorem dY_isSet_1 : decode mY_isSet.2.1 1 = .ok (.iconst 0, 1) := by decide +kernel
theorem dY_isSet_2 : decode mY_isSet.2.1 2 = .ok (.sipush 511, 3) := by decide +kernel
theorem dY_isSet_5 : decode mY_isSet.2.1 5 = .ok (.invokestatic 133, 3) := by decide +kernel
theorem dY_isSet_8 : decode mY_isSet.2.1 8 = .ok (.ireturn, 1) := by decide +kernel
/- Y_isSet: (I)Z -/
set_option maxRecDepth 4000 in
theorem wY_isSet {X : Cx} (a0 : Int) (sw : Bool) (m : Mem) (Q : Int → Bool → Mem → Prop) (h : M2 X 1 mY_in [vi a0, vi 0, vi 511] sw m (fun z1 sw1 m1 => ((z1 = 0 ∨ z1 = 1) ∧ Q z1 sw1 m1))) : M2 X 2 mY_isSet [vi a0] sw m Q := by
  refine Mt.of pY_isSet (Nat.le_of_ble_eq_true rfl) (Nat.le_refl _) ?_
  show R2 X 2 mY_isSet 0 [(0, vi a0)] [] sw m Q
  refine r_iload_n 0 0 rfl dY_isSet_0 rfl ?_
  refine r_iconst dY_isSet_1 ?_
  refine r_sipush (by decide) dY_isSet_2 ?_
  refine r_callSb [_, _, _] rfl oY_in iY_in yY_133 (by decide) ⟨Nat.le_refl _, Nat.le_refl _⟩ rfl (Nat.le_of_ble_eq_true rfl) dY_isSet_5 h (fun z1 r1 m1 h => ?_)
  obtain ⟨sw1, rfl, h⟩ := h
  exact q_bret rfl h.1 h.2 dY_isSet_8
theorem dY_gone_0 : decode mY_gone.2.1 0 = .ok (.iload_n 1, 1) := by decide +kernel
theorem dY_gone_1 : decode mY_gone.2.1 1 = .ok (.invokestatic 265, 3) := by decide +kernel
theorem dY_gone_4 : decode mY_gone.2.1 4 = .ok (.ifCond .eq 11, 3) := by decide +kernel
theorem dY_gone_7 : decode mY_gone.2.1 7 = .ok (.aload_n 0, 1) := by decide +kernel
theorem dY_gone_8 : decode mY_gone.2.1 8 = .ok (.iload_n 2, 1) := by decide +kernel
theorem dY_gone_9 : decode mY_gone.2.1 9 = .ok (.invokevirtual 164, 3) := by decide +kernel
theorem dY_gone_12 : decode mY_gone.2.1 12 = .ok (.ifCond .ne 5, 3) := by decide +kernel
theorem dY_gone_15 : decode mY_gone.2.1 15 = .ok (.iconst (-1), 1) := by decide +kernel
theorem dY_gone_16 : decode mY_gone.2.1 16 = .ok (.ireturn, 1) := by decide +kernel
theorem dY_gone_17 : decode mY_gone.2.1 17 = .ok (.aload_n 0, 1) := by decide +kernel
theorem dY_gone_18 : decode mY_gone.2.1 18 = .ok (.iload_n 1, 1) := by decide +kernel
theorem dY_gone_19 : decode mY_gone.2.1 19 = .ok (.invokevirtual 268, 3) := by decide +kernel
theorem dY_gone_22 : decode mY_gone.2.1 22 = .ok (.aload_n 0, 1) := by decide +kernel
theorem dY_gone_23 : decode mY_gone.2.1 23 = .ok (.getfield 71, 3) := by decide +kernel
theorem dY_gone_26 : decode mY_gone.2.1 26 = .ok (.iload_n 2, 1) := by decide +kernel
theorem dY_gone_27 : decode mY_gone.2.1 27 = .ok (.iaload, 1) := by decide +kernel
theorem dY_gone_28 : decode mY_gone.2.1 28 = .ok (.ifCond .ge 8, 3) := by decide +kernel
theorem dY_gone_31 : decode mY_gone.2.1 31 = .ok (.bipush (-2), 2) := by decide +kernel
theorem dY_gone_33 : decode mY_gone.2.1 33 = .ok (.goto 9, 3) := by decide +kernel
theorem dY_gone_36 : decode mY_gone.2.1 36 = .ok (.aload_n 0, 1) := by decide +kernel
theorem dY_gone_37 : decode mY_gone.2.1 37 = .ok (.getfield 71, 3) := by decide +kernel
theorem dY_gone_40 : decode mY_gone.2.1 40 = .ok (.iload_n 2, 1) := by decide +kernel
theorem dY_gone_41 : decode mY_gone.2.1 41 = .ok (.iaload, 1) := by decide +kernel
theorem dY_gone_42 : decode mY_gone.2.1 42 = .ok (.ireturn, 1) := by decide +kernel
/- Y_gone: (II)I -/
set_option maxRecDepth 4000 in
theorem wY_gone {X : Cx} (a1 a2 : Int) (sw : Bool) (m : Mem) (Q : Int → Bool → Mem → Prop) (h : M2 X 2 mY_isSet [vi a1] sw m (fun z1 sw1 m1 => ((w32 z1 = 0 → Q (-1) sw1 m1) ∧ (¬ (w32 z1 = 0) → M2 X 2 mY_isPart [vr 84, vi a2] sw1 m1 (fun z2 sw2 m2 => ((¬ w32 z2 = 0 → M2 X 2 mY_goMorning [vr 84, vi a1] sw2 m2 (fun z3 sw3 m3 => ((0 ≤ w32 a2 ∧ w32 a2 < 9) ∧ ((0 ≤ w32 (m3 104 (w32 a2)) → ((0 ≤ w32 a2 ∧ w32 a2 < 9) ∧ Q (m3 104 (w32 a2)) sw3 m3)) ∧ (¬ (0 ≤ w32 (m3 104 (w32 a2))) → Q (-2) sw3 m3))))) ∧ (¬ (¬ w32 z2 = 0) → Q (-1) sw2 m2))))))) : M2 X 3 mY_gone [vr 84, vi a1, vi a2] sw m Q := by
  refine Mt.of pY_gone (Nat.le_of_ble_eq_true rfl) (Nat.le_refl _) ?_
  show R2 X 3 mY_gone 0 [(0, vr 84), (1, vi a1), (2, vi a2)] [] sw m Q
  refine r_iload_n 1 1 rfl dY_gone_0 rfl ?_
  refine r_callSb [_] rfl oY_isSet iY_isSet yY_265 (by decide) ⟨Nat.le_refl _, Nat.le_refl _⟩ rfl (Nat.le_of_ble_eq_true rfl) dY_gone_1 h (fun z1 r1 m1 h => ?_)
  obtain ⟨sw1, rfl, h⟩ := h
  refine r_if_eq (tgt := 15) dY_gone_4 (by decide) (fun hc => ?_) (fun hc => ?_)
  · replace h := h.1 hc
    refine r_iconst dY_gone_15 ?_
    exact q_iret rfl h dY_gone_16
  · replace h := h.2 hc
    refine r_aload_n 0 0 rfl dY_gone_7 rfl ?_
    refine r_iload_n 2 2 rfl dY_gone_8 rfl ?_
    refine r_callVb 12 [_] rfl c84 rfl rfl oY_isPart iY_isPart sY_isPart yY_164 (by decide) ⟨Nat.le_refl _, Nat.le_refl _⟩ rfl (Nat.le_of_ble_eq_true rfl) dY_gone_9 h (fun z2 r2 m2 h => ?_)
    obtain ⟨sw2, rfl, h⟩ := h
    refine r_if_ne (tgt := 17) dY_gone_12 (by decide) (fun hc => ?_) (fun hc => ?_)
    · replace h := h.1 hc
      refine r_aload_n 0 0 rfl dY_gone_17 rfl ?_
      refine r_iload_n 1 1 rfl dY_gone_18 rfl ?_
      refine r_callVv 12 [_] rfl c84 rfl rfl oY_goMorning iY_goMorning sY_goMorning yY_268 (by decide) ⟨Nat.le_refl _, Nat.le_refl _⟩ rfl (Nat.le_of_ble_eq_true rfl) dY_gone_19 h (fun z3 r3 m3 h => ?_)
      obtain ⟨sw3, rfl, h⟩ := h
      refine r_aload_n 0 0 rfl dY_gone_22 rfl ?_
      refine q_getR 29 c84 fY_71 rfl rfl (g84_29 sw3) (by decide) dY_gone_23 ?_
      refine r_iload_n 2 2 rfl dY_gone_26 rfl ?_
      refine q_iaload (w32 a2) rfl c104 h.1 dY_gone_27 ?_
      replace h := h.2
      refine r_if_ge (tgt := 36) dY_gone_28 (by decide) (fun hc => ?_) (fun hc => ?_)
      · replace h := h.1 hc
        refine r_aload_n 0 0 rfl dY_gone_36 rfl ?_
        refine q_getR 29 c84 fY_71 rfl rfl (g84_29 sw3) (by decide) dY_gone_37 ?_
        refine r_iload_n 2 2 rfl dY_gone_40 rfl ?_
        refine q_iaload (w32 a2) rfl c104 h.1 dY_gone_41 ?_
        replace h := h.2
        exact q_iret rfl h dY_gone_42
      · replace h := h.2 hc
        refine r_bipush (by decide) dY_gone_31 ?_
        refine r_goto (tgt := 42) dY_gone_33 (by decide) ?_
        exact q_iret rfl h dY_gone_42
    · replace h := h.2 hc
      refine r_iconst dY_gone_15 ?_
      exact q_iret rfl h dY_gone_16
theorem dY_stuck_0 : decode mY_stuck.2.1 0 = .ok (.iload_n 1, 1) := by decide +kernel
theorem dY_stuck_1 : decode mY_stuck.2.1 1 = .ok (.invokestatic 265, 3) := by decide +kernel
theorem dY_stuck_4 : decode mY_stuck.2.1 4 = .ok (.ifCond .ne 5, 3) := by decide +kernel
theorem dY_stuck_7 : decode mY_stuck.2.1 7 = .ok (.iconst (-1), 1) := by decide +kernel
theorem dY_stuck_8 : decode mY_stuck.2.1 8 = .ok (.ireturn, 1) := by decide +kernel
theorem dY_stuck_9 : decode mY_stuck.2.1 9 = .ok (.aload_n 0, 1) := by decide +kernel
theorem dY_stuck_10 : decode mY_stuck.2.1 10 = .ok (.iload_n 1, 1) := by decide +kernel
theorem dY_stuck_11 : decode mY_stuck.2.1 11 = .ok (.invokevirtual 268, 3) := by decide +kernel
theorem dY_stuck_14 : decode mY_stuck.2.1 14 = .ok (.aload_n 0, 1) := by decide +kernel
theorem dY_stuck_15 : decode mY_stuck.2.1 15 = .ok (.getfield 254, 3) := by decide +kernel
theorem dY_stuck_18 : decode mY_stuck.2.1 18 = .ok (.ireturn, 1) := by decide +kernel
/- Y_stuck: (I)I -/
set_option maxRecDepth 4000 in
theorem wY_stuck {X : Cx} (a1 : Int) (sw : Bool) (m : Mem) (Q : Int → Bool → Mem → Prop) (h : M2 X 2 mY_isSet [vi a1] sw m (fun z1 sw1 m1 => ((¬ w32 z1 = 0 → M2 X 2 mY_goMorning [vr 84, vi a1] sw1 m1 (fun z2 sw2 m2 => Q (m2 84 30) sw2 m2)) ∧ (¬ (¬ w32 z1 = 0) → Q (-1) sw1 m1)))) : M2 X 3 mY_stuck [vr 84, vi a1] sw m Q := by
  refine Mt.of pY_stuck (Nat.le_of_ble_eq_true rfl) (Nat.le_refl _) ?_
  show R2 X 3 mY_stuck 0 [(0, vr 84), (1, vi a1)] [] sw m Q
  refine r_iload_n 1 1 rfl dY_stuck_0 rfl ?_
  refine r_callSb [_] rfl oY_isSet iY_isSet yY_265 (by decide) ⟨Nat.le_refl _, Nat.le_refl _⟩ rfl (Nat.le_of_ble_eq_true rfl) dY_stuck_1 h (fun z1 r1 m1 h => ?_)
  obtain ⟨sw1, rfl, h⟩ := h
  refine r_if_ne (tgt := 9) dY_stuck_4 (by decide) (fun hc => ?_) (fun hc => ?_)
  · replace h := h.1 hc
    refine r_aload_n 0 0 rfl dY_stuck_9 rfl ?_
    refine r_iload_n 1 1 rfl dY_stuck_10 rfl ?_
    refine r_callVv 12 [_] rfl c84 rfl rfl oY_goMorning iY_goMorning sY_goMorning yY_268 (by decide) ⟨Nat.le_refl _, Nat.le_refl _⟩ rfl (Nat.le_of_ble_eq_true rfl) dY_stuck_11 h (fun z2 r2 m2 h => ?_)
    obtain ⟨sw2, rfl, h⟩ := h
    refine r_aload_n 0 0 rfl dY_stuck_14 rfl ?_
    refine q_getI 30 c84 fY_254 rfl rfl dY_stuck_15 ?_
    exact q_iret rfl h dY_stuck_18
  · replace h := h.2 hc
    refine r_iconst dY_stuck_7 ?_
    exact q_iret rfl h dY_stuck_8
theorem dY_lowest_0 : decode mY_lowest.2.1 0 = .ok (.lload_n 0, 1) := by decide +kernel
theorem dY_lowest_1 : decode mY_lowest.2.1 1 = .ok (.lconst 0, 1) := by decide +kernel
theorem dY_lowest_2 : decode mY_lowest.2.1 2 = .ok (.lcmp, 1) := by decide +kernel
theorem dY_lowest_3 : decode mY_lowest.2.1 3 = .ok (.ifCond .ne 7, 3) := by decide +kernel
theorem dY_lowest_6 : decode mY_lowest.2.1 6 = .ok (.iload 4, 2) := by decide +kernel
theorem dY_lowest_8 : decode mY_lowest.2.1 8 = .ok (.i2l, 1) := by decide +kernel
theorem dY_lowest_9 : decode mY_lowest.2.1 9 = .ok (.lreturn, 1) := by decide +kernel
theorem dY_lowest_10 : decode mY_lowest.2.1 10 = .ok (.lload_n 0, 1) := by decide +kernel
theorem dY_lowest_11 : decode mY_lowest.2.1 11 = .ok (.lstore 5, 2) := by decide +kernel
theorem dY_lowest_13 : decode mY_lowest.2.1 13 = .ok (.lload_n 2, 1) := by decide +kernel
theorem dY_lowest_14 : decode mY_lowest.2.1 14 = .ok (.lstore 7, 2) := by decide +kernel
theorem dY_lowest_16 : decode mY_lowest.2.1 16 = .ok (.lload 7, 2) := by decide +kernel
theorem dY_lowest_18 : decode mY_lowest.2.1 18 = .ok (.lconst 0, 1) := by decide +kernel
theorem dY_lowest_19 : decode mY_lowest.2.1 19 = .ok (.lcmp, 1) := by decide +kernel
theorem dY_lowest_20 : decode mY_lowest.2.1 20 = .ok (.ifCond .eq 21, 3) := by decide +kernel
theorem dY_lowest_23 : decode mY_lowest.2.1 23 = .ok (.lload 5, 2) := by decide +kernel
theorem dY_lowest_25 : decode mY_lowest.2.1 25 = .ok (.lload 7, 2) := by decide +kernel
theorem dY_lowest_27 : decode mY_lowest.2.1 27 = .ok (.lrem, 1) := by decide +kernel
theorem dY_lowest_28 : decode mY_lowest.2.1 28 = .ok (.lstore 9, 2) := by decide +kernel
theorem dY_lowest_30 : decode mY_lowest.2.1 30 = .ok (.lload 7, 2) := by decide +kernel
theorem dY_lowest_32 : decode mY_lowest.2.1 32 = .ok (.lstore 5, 2) := by decide +kernel
theorem dY_lowest_34 : decode mY_lowest.2.1 34 = .ok (.lload 9, 2) := by decide +kernel
theorem dY_lowest_36 : decode mY_lowest.2.1 36 = .ok (.lstore 7, 2) := by decide +kernel
theorem dY_lowest_38 : decode mY_lowest.2.1 38 = .ok (.goto (-22), 3) := by decide +kernel
theorem dY_lowest_41 : decode mY_lowest.2.1 41 = .ok (.iload 4, 2) := by decide +kernel
theorem dY_lowest_43 : decode mY_lowest.2.1 43 = .ok (.ifCond .ne 10, 3) := by decide +kernel
theorem dY_lowest_46 : decode mY_lowest.2.1 46 = .ok (.lload_n 0, 1) := by decide +kernel
theorem dY_lowest_47 : decode mY_lowest.2.1 47 = .ok (.lload 5, 2) := by decide +kernel
theorem dY_lowest_49 : decode mY_lowest.2.1 49 = .ok (.ldiv, 1) := by decide +kernel
theorem dY_lowest_50 : decode mY_lowest.2.1 50 = .ok (.goto 7, 3) := by decide +kernel
theorem dY_lowest_53 : decode mY_lowest.2.1 53 = .ok (.lload_n 2, 1) := by decide +kernel
theorem dY_lowest_54 : decode mY_lowest.2.1 54 = .ok (.lload 5, 2) := by decide +kernel
theorem dY_lowest_56 : decode mY_lowest.2.1 56 = .ok (.ldiv, 1) := by decide +kernel
theorem dY_lowest_57 : decode mY_lowest.2.1 57 = .ok (.lreturn, 1) := by decide +kernel
/- Y_lowest: (JJI)J -/
set_option maxRecDepth 4000 in
theorem wY_lowest {X : Cx} (a0 a2 a4 : Int) (sw : Bool) (m : Mem) (Q : Int → Bool → Mem → Prop) (h : ((¬ w64 a0 = 0 → R2 X 1 mY_lowest 16 [(0, vl a0), (2, vl a2), (4, vi a4), (5, vl a0), (7, vl a2)] [] sw m Q) ∧ (¬ (¬ w64 a0 = 0) → Q (w32 a4) sw m))) : M2 X 1 mY_lowest [vl a0, vl a2, vi a4] sw m Q := by
  refine Mt.of pY_lowest (Nat.le_of_ble_eq_true rfl) (Nat.le_refl _) ?_
  show R2 X 1 mY_lowest 0 [(0, vl a0), (2, vl a2), (4, vi a4)] [] sw m Q
  refine r_lload_n 0 0 rfl dY_lowest_0 rfl ?_
  refine r_lconst dY_lowest_1 ?_
  refine q_lc_ne (tgt := 10) (A := w64 a0) (B := 0) rfl (by decide +kernel) dY_lowest_2 dY_lowest_3 (by decide) (fun hc => ?_) (fun hc => ?_)
  · replace h := h.1 hc
    refine r_lload_n 0 0 rfl dY_lowest_10 rfl ?_
    refine r_lstore 5 (by decide) dY_lowest_11 ?_
    refine r_lload_n 2 2 rfl dY_lowest_13 rfl ?_
    refine r_lstore 7 (by decide) dY_lowest_14 ?_
    refine r_sub [2, 3, 4, 1, 0] ?_ h
    rfl
  · replace h := h.2 hc
    refine r_iload 4 2 rfl dY_lowest_6 ?_
    refine r_i2l dY_lowest_8 ?_
    exact q_lret rfl h dY_lowest_9
set_option maxRecDepth 4000 in
theorem wY_lowest_16 {X : Cx} (x0 x2 x4 x5 x7 : Int) (sw : Bool) (m : Mem) (Q : Int → Bool → Mem → Prop) (h : ((w64 x7 = 0 → ((¬ w32 x4 = 0 → (¬ w64 x5 = 0 ∧ Q (zldiv x2 x5) sw m)) ∧ (¬ (¬ w32 x4 = 0) → (¬ w64 x5 = 0 ∧ Q (zldiv x0 x5) sw m)))) ∧ (¬ (w64 x7 = 0) → (¬ w64 x7 = 0 ∧ R2 X 1 mY_lowest 16 [(0, vl x0), (2, vl x2), (4, vi x4), (5, vl x7), (7, vl (zlrem x5 x7))] [] sw m Q)))) : R2 X 1 mY_lowest 16 [(0, vl x0), (2, vl x2), (4, vi x4), (5, vl x5), (7, vl x7)] [] sw m Q := by
  refine r_lload 7 4 rfl dY_lowest_16 ?_
  refine r_lconst dY_lowest_18 ?_
  refine q_lc_eq (tgt := 41) (A := w64 x7) (B := 0) rfl (by decide +kernel) dY_lowest_19 dY_lowest_20 (by decide) (fun hc => ?_) (fun hc => ?_)
  · replace h := h.1 hc
    refine r_iload 4 2 rfl dY_lowest_41 ?_
    refine r_if_ne (tgt := 53) dY_lowest_43 (by decide) (fun hc => ?_) (fun hc => ?_)
    · replace h := h.1 hc
      refine r_lload_n 2 1 rfl dY_lowest_53 rfl ?_
      refine r_lload 5 3 rfl dY_lowest_54 ?_
      refine r_ldiv h.1 dY_lowest_56 ?_
      replace h := h.2
      exact q_lret rfl h dY_lowest_57
    · replace h := h.2 hc
      refine r_lload_n 0 0 rfl dY_lowest_46 rfl ?_
      refine r_lload 5 3 rfl dY_lowest_47 ?_
      refine r_ldiv h.1 dY_lowest_49 ?_
      replace h := h.2
      refine r_goto (tgt := 57) dY_lowest_50 (by decide) ?_
      exact q_lret rfl h dY_lowest_57
  · replace h := h.2 hc
    refine r_lload 5 3 rfl dY_lowest_23 ?_
    refine r_lload 7 4 rfl dY_lowest_25 ?_
    refine r_lrem h.1 dY_lowest_27 ?_
    replace h := h.2
    refine r_lstore 9 (by decide) dY_lowest_28 ?_
    refine r_lload 7 5 rfl dY_lowest_30 ?_
    refine r_lstore 5 (by decide) dY_lowest_32 ?_
    refine r_lload 9 1 rfl dY_lowest_34 ?_
    refine r_lstore 7 (by decide) dY_lowest_36 ?_
    refine r_goto (tgt := 16) dY_lowest_38 (by decide) ?_
    refine r_sub [3, 4, 5, 1, 0] ?_ h
    rfl
theorem dY_endsBy_0 : decode mY_endsBy.2.1 0 = .ok (.lconst 0, 1) := by decide +kernel
theorem dY_endsBy_1 : decode mY_endsBy.2.1 1 = .ok (.lstore_n 2, 1) := by decide +kernel
theorem dY_endsBy_2 : decode mY_endsBy.2.1 2 = .ok (.iconst 0, 1) := by decide +kernel
theorem dY_endsBy_3 : decode mY_endsBy.2.1 3 = .ok (.istore 4, 2) := by decide +kernel
theorem dY_endsBy_5 : decode mY_endsBy.2.1 5 = .ok (.iload 4, 2) := by decide +kernel
theorem dY_endsBy_7 : decode mY_endsBy.2.1 7 = .ok (.aload_n 0, 1) := by decide +kernel
theorem dY_endsBy_8 : decode mY_endsBy.2.1 8 = .ok (.invokevirtual 272, 3) := by decide +kernel
theorem dY_endsBy_11 : decode mY_endsBy.2.1 11 = .ok (.if_icmp .ge 39, 3) := by decide +kernel
theorem dY_endsBy_14 : decode mY_endsBy.2.1 14 = .ok (.aload_n 0, 1) := by decide +kernel
theorem dY_endsBy_15 : decode mY_endsBy.2.1 15 = .ok (.iload 4, 2) := by decide +kernel
theorem dY_endsBy_17 : decode mY_endsBy.2.1 17 = .ok (.invokevirtual 268, 3) := by decide +kernel
theorem dY_endsBy_20 : decode mY_endsBy.2.1 20 = .ok (.aload_n 0, 1) := by decide +kernel
theorem dY_endsBy_21 : decode mY_endsBy.2.1 21 = .ok (.invokevirtual 275, 3) := by decide +kernel
theorem dY_endsBy_24 : decode mY_endsBy.2.1 24 = .ok (.ifCond .lt 20, 3) := by decide +kernel
theorem dY_endsBy_27 : decode mY_endsBy.2.1 27 = .ok (.aload_n 0, 1) := by decide +kernel
theorem dY_endsBy_28 : decode mY_endsBy.2.1 28 = .ok (.invokevirtual 275, 3) := by decide +kernel
theorem dY_endsBy_31 : decode mY_endsBy.2.1 31 = .ok (.iload_n 1, 1) := by decide +kernel
theorem dY_endsBy_32 : decode mY_endsBy.2.1 32 = .ok (.if_icmp .gt 12, 3) := by decide +kernel
theorem dY_endsBy_35 : decode mY_endsBy.2.1 35 = .ok (.lload_n 2, 1) := by decide +kernel
theorem dY_endsBy_36 : decode mY_endsBy.2.1 36 = .ok (.aload_n 0, 1) := by decide +kernel
theorem dY_endsBy_37 : decode mY_endsBy.2.1 37 = .ok (.iload 4, 2) := by decide +kernel
theorem dY_endsBy_39 : decode mY_endsBy.2.1 39 = .ok (.invokevirtual 278, 3) := by decide +kernel
theorem dY_endsBy_42 : decode mY_endsBy.2.1 42 = .ok (.ladd, 1) := by decide +kernel
theorem dY_endsBy_43 : decode mY_endsBy.2.1 43 = .ok (.lstore_n 2, 1) := by decide +kernel
theorem dY_endsBy_44 : decode mY_endsBy.2.1 44 = .ok (.iinc 4 1, 3) := by decide +kernel
theorem dY_endsBy_47 : decode mY_endsBy.2.1 47 = .ok (.goto (-42), 3) := by decide +kernel
theorem dY_endsBy_50 : decode mY_endsBy.2.1 50 = .ok (.lload_n 2, 1) := by decide +kernel
theorem dY_endsBy_51 : decode mY_endsBy.2.1 51 = .ok (.lreturn, 1) := by decide +kernel
/- Y_endsBy: (I)J -/
set_option maxRecDepth 4000 in
theorem wY_endsBy {X : Cx} (a1 : Int) (sw : Bool) (m : Mem) (Q : Int → Bool → Mem → Prop) (h : R2 X 3 mY_endsBy 5 [(0, vr 84), (1, vi a1), (2, vl 0), (4, vi 0)] [] sw m Q) : M2 X 3 mY_endsBy [vr 84, vi a1] sw m Q := by
  refine Mt.of pY_endsBy (Nat.le_of_ble_eq_true rfl) (Nat.le_refl _) ?_
  show R2 X 3 mY_endsBy 0 [(0, vr 84), (1, vi a1)] [] sw m Q
  refine r_lconst dY_endsBy_0 ?_
  refine r_lstore_n 2 (by decide) dY_endsBy_1 rfl ?_
  refine r_iconst dY_endsBy_2 ?_
  refine r_istore 4 (by decide) dY_endsBy_3 ?_
  refine r_sub [2, 3, 1, 0] ?_ h
  rfl
set_option maxRecDepth 4000 in
theorem wY_endsBy_5 {X : Cx} (x1 x2 x4 : Int) (sw : Bool) (m : Mem) (Q : Int → Bool → Mem → Prop) (h : M2 X 1 mY_sets [vr 84] sw m (fun z1 sw1 m1 => ((w32 z1 ≤ w32 x4 → Q x2 sw1 m1) ∧ (¬ (w32 z1 ≤ w32 x4) → M2 X 2 mY_goMorning [vr 84, vi x4] sw1 m1 (fun z2 sw2 m2 => M2 X 1 mY_endNow [vr 84] sw2 m2 (fun z3 sw3 m3 => ((w32 z3 < 0 → R2 X 3 mY_endsBy 5 [(0, vr 84), (1, vi x1), (2, vl x2), (4, vi (x4 + 1))] [] sw3 m3 Q) ∧ (¬ (w32 z3 < 0) → M2 X 1 mY_endNow [vr 84] sw3 m3 (fun z4 sw4 m4 => ((w32 x1 < w32 z4 → R2 X 3 mY_endsBy 5 [(0, vr 84), (1, vi x1), (2, vl x2), (4, vi (x4 + 1))] [] sw4 m4 Q) ∧ (¬ (w32 x1 < w32 z4) → M2 X 1 mY_oddsOf [vr 84, vi x4] sw4 m4 (fun z5 sw5 m5 => R2 X 3 mY_endsBy 5 [(0, vr 84), (1, vi x1), (2, vl (x2 + z5)), (4, vi (x4 + 1))] [] sw5 m5 Q)))))))))))) : R2 X 3 mY_endsBy 5 [(0, vr 84), (1, vi x1), (2, vl x2), (4, vi x4)] [] sw m Q := by
  refine r_iload 4 3 rfl dY_endsBy_5 ?_
  refine r_aload_n 0 0 rfl dY_endsBy_7 rfl ?_
  refine r_callVi 12 [] rfl c84 rfl rfl oY_sets iY_sets sY_sets yY_272 (by decide) ⟨Nat.le_refl _, Nat.le_refl _⟩ rfl (Nat.le_of_ble_eq_true rfl) dY_endsBy_8 h (fun z1 r1 m1 h => ?_)
  obtain ⟨sw1, rfl, h⟩ := h
  refine r_ifc_ge (tgt := 50) dY_endsBy_11 (by decide) (fun hc => ?_) (fun hc => ?_)
  · replace h := h.1 hc
    refine r_lload_n 2 2 rfl dY_endsBy_50 rfl ?_
    exact q_lret rfl h dY_endsBy_51
  · replace h := h.2 hc
    refine r_aload_n 0 0 rfl dY_endsBy_14 rfl ?_
    refine r_iload 4 3 rfl dY_endsBy_15 ?_
    refine r_callVv 12 [_] rfl c84 rfl rfl oY_goMorning iY_goMorning sY_goMorning yY_268 (by decide) ⟨Nat.le_refl _, Nat.le_refl _⟩ rfl (Nat.le_of_ble_eq_true rfl) dY_endsBy_17 h (fun z2 r2 m2 h => ?_)
    obtain ⟨sw2, rfl, h⟩ := h
    refine r_aload_n 0 0 rfl dY_endsBy_20 rfl ?_
    refine r_callVi 12 [] rfl c84 rfl rfl oY_endNow iY_endNow sY_endNow yY_275 (by decide) ⟨Nat.le_refl _, Nat.le_refl _⟩ rfl (Nat.le_of_ble_eq_true rfl) dY_endsBy_21 h (fun z3 r3 m3 h => ?_)
    obtain ⟨sw3, rfl, h⟩ := h
    refine r_if_lt (tgt := 44) dY_endsBy_24 (by decide) (fun hc => ?_) (fun hc => ?_)
    · replace h := h.1 hc
      refine r_iinc 4 3 rfl (by decide) dY_endsBy_44 ?_
      refine r_goto (tgt := 5) dY_endsBy_47 (by decide) ?_
      refine r_sub [1, 2, 3, 0] ?_ h
      rfl
    · replace h := h.2 hc
      refine r_aload_n 0 0 rfl dY_endsBy_27 rfl ?_
      refine r_callVi 12 [] rfl c84 rfl rfl oY_endNow iY_endNow sY_endNow yY_275 (by decide) ⟨Nat.le_refl _, Nat.le_refl _⟩ rfl (Nat.le_of_ble_eq_true rfl) dY_endsBy_28 h (fun z4 r4 m4 h => ?_)
      obtain ⟨sw4, rfl, h⟩ := h
      refine r_iload_n 1 1 rfl dY_endsBy_31 rfl ?_
      refine r_ifc_gt (tgt := 44) dY_endsBy_32 (by decide) (fun hc => ?_) (fun hc => ?_)
      · replace h := h.1 hc
        refine r_iinc 4 3 rfl (by decide) dY_endsBy_44 ?_
        refine r_goto (tgt := 5) dY_endsBy_47 (by decide) ?_
        refine r_sub [1, 2, 3, 0] ?_ h
        rfl
      · replace h := h.2 hc
        refine r_lload_n 2 2 rfl dY_endsBy_35 rfl ?_
        refine r_aload_n 0 0 rfl dY_endsBy_36 rfl ?_
        refine r_iload 4 3 rfl dY_endsBy_37 ?_
        refine r_callVl 12 [_] rfl c84 rfl rfl oY_oddsOf iY_oddsOf sY_oddsOf yY_278 (by decide) ⟨Nat.le_refl _, Nat.le_refl _⟩ rfl (Nat.le_of_ble_eq_true rfl) dY_endsBy_39 h (fun z5 r5 m5 h => ?_)
        obtain ⟨sw5, rfl, h⟩ := h
        refine r_ladd dY_endsBy_42 ?_
        refine r_lstore_n 2 (by decide) dY_endsBy_43 rfl ?_
        refine r_iinc 4 3 rfl (by decide) dY_endsBy_44 ?_
        refine r_goto (tgt := 5) dY_endsBy_47 (by decide) ?_
        refine r_sub [2, 3, 1, 0] ?_ h
        rfl
theorem dY_goesOdds_0 : decode mY_goesOdds.2.1 0 = .ok (.lconst 0, 1) := by decide +kernel
theorem dY_goesOdds_1 : decode mY_goesOdds.2.1 1 = .ok (.lstore_n 2, 1) := by decide +kernel
theorem dY_goesOdds_2 : decode mY_goesOdds.2.1 2 = .ok (.iconst 0, 1) := by decide +kernel
theorem dY_goesOdds_3 : decode mY_goesOdds.2.1 3 = .ok (.istore 4, 2) := by decide +kernel
theorem dY_goesOdds_5 : decode mY_goesOdds.2.1 5 = .ok (.iload 4, 2) := by decide +kernel
theorem dY_goesOdds_7 : decode mY_goesOdds.2.1 7 = .ok (.aload_n 0, 1) := by decide +kernel
theorem dY_goesOdds_8 : decode mY_goesOdds.2.1 8 = .ok (.invokevirtual 272, 3) := by decide +kernel
theorem dY_goesOdds_11 : decode mY_goesOdds.2.1 11 = .ok (.if_icmp .ge 33, 3) := by decide +kernel
theorem dY_goesOdds_14 : decode mY_goesOdds.2.1 14 = .ok (.aload_n 0, 1) := by decide +kernel
theorem dY_goesOdds_15 : decode mY_goesOdds.2.1 15 = .ok (.iload 4, 2) := by decide +kernel
theorem dY_goesOdds_17 : decode mY_goesOdds.2.1 17 = .ok (.invokevirtual 268, 3) := by decide +kernel
theorem dY_goesOdds_20 : decode mY_goesOdds.2.1 20 = .ok (.aload_n 0, 1) := by decide +kernel
theorem dY_goesOdds_21 : decode mY_goesOdds.2.1 21 = .ok (.getfield 71, 3) := by decide +kernel
theorem dY_goesOdds_24 : decode mY_goesOdds.2.1 24 = .ok (.iload_n 1, 1) := by decide +kernel
theorem dY_goesOdds_25 : decode mY_goesOdds.2.1 25 = .ok (.iaload, 1) := by decide +kernel
theorem dY_goesOdds_26 : decode mY_goesOdds.2.1 26 = .ok (.ifCond .lt 12, 3) := by decide +kernel
theorem dY_goesOdds_29 : decode mY_goesOdds.2.1 29 = .ok (.lload_n 2, 1) := by decide +kernel
theorem dY_goesOdds_30 : decode mY_goesOdds.2.1 30 = .ok (.aload_n 0, 1) := by decide +kernel
theorem dY_goesOdds_31 : decode mY_goesOdds.2.1 31 = .ok (.iload 4, 2) := by decide +kernel
theorem dY_goesOdds_33 : decode mY_goesOdds.2.1 33 = .ok (.invokevirtual 278, 3) := by decide +kernel
theorem dY_goesOdds_36 : decode mY_goesOdds.2.1 36 = .ok (.ladd, 1) := by decide +kernel
theorem dY_goesOdds_37 : decode mY_goesOdds.2.1 37 = .ok (.lstore_n 2, 1) := by decide +kernel
theorem dY_goesOdds_38 : decode mY_goesOdds.2.1 38 = .ok (.iinc 4 1, 3) := by decide +kernel
theorem dY_goesOdds_41 : decode mY_goesOdds.2.1 41 = .ok (.goto (-36), 3) := by decide +kernel
theorem dY_goesOdds_44 : decode mY_goesOdds.2.1 44 = .ok (.lload_n 2, 1) := by decide +kernel
theorem dY_goesOdds_45 : decode mY_goesOdds.2.1 45 = .ok (.lreturn, 1) := by decide +kernel
/- Y_goesOdds: (I)J -/
set_option maxRecDepth 4000 in
theorem wY_goesOdds {X : Cx} (a1 : Int) (sw : Bool) (m : Mem) (Q : Int → Bool → Mem → Prop) (h : R2 X 3 mY_goesOdds 5 [(0, vr 84), (1, vi a1), (2, vl 0), (4, vi 0)] [] sw m Q) : M2 X 3 mY_goesOdds [vr 84, vi a1] sw m Q := by
  refine Mt.of pY_goesOdds (Nat.le_of_ble_eq_true rfl) (Nat.le_refl _) ?_
  show R2 X 3 mY_goesOdds 0 [(0, vr 84), (1, vi a1)] [] sw m Q
  refine r_lconst dY_goesOdds_0 ?_
  refine r_lstore_n 2 (by decide) dY_goesOdds_1 rfl ?_
  refine r_iconst dY_goesOdds_2 ?_
  refine r_istore 4 (by decide) dY_goesOdds_3 ?_
  refine r_sub [2, 3, 1, 0] ?_ h
  rfl
set_option maxRecDepth 4000 in
theorem wY_goesOdds_5 {X : Cx} (x1 x2 x4 : Int) (sw : Bool) (m : Mem) (Q : Int → Bool → Mem → Prop) (h : M2 X 1 mY_sets [vr 84] sw m (fun z1 sw1 m1 => ((w32 z1 ≤ w32 x4 → Q x2 sw1 m1) ∧ (¬ (w32 z1 ≤ w32 x4) → M2 X 2 mY_goMorning [vr 84, vi x4] sw1 m1 (fun z2 sw2 m2 => ((0 ≤ w32 x1 ∧ w32 x1 < 9) ∧ ((w32 (m2 104 (w32 x1)) < 0 → R2 X 3 mY_goesOdds 5 [(0, vr 84), (1, vi x1), (2, vl x2), (4, vi (x4 + 1))] [] sw2 m2 Q) ∧ (¬ (w32 (m2 104 (w32 x1)) < 0) → M2 X 1 mY_oddsOf [vr 84, vi x4] sw2 m2 (fun z3 sw3 m3 => R2 X 3 mY_goesOdds 5 [(0, vr 84), (1, vi x1), (2, vl (x2 + z3)), (4, vi (x4 + 1))] [] sw3 m3 Q))))))))) : R2 X 3 mY_goesOdds 5 [(0, vr 84), (1, vi x1), (2, vl x2), (4, vi x4)] [] sw m Q := by
  refine r_iload 4 3 rfl dY_goesOdds_5 ?_
  refine r_aload_n 0 0 rfl dY_goesOdds_7 rfl ?_
  refine r_callVi 12 [] rfl c84 rfl rfl oY_sets iY_sets sY_sets yY_272 (by decide) ⟨Nat.le_refl _, Nat.le_refl _⟩ rfl (Nat.le_of_ble_eq_true rfl) dY_goesOdds_8 h (fun z1 r1 m1 h => ?_)
  obtain ⟨sw1, rfl, h⟩ := h
  refine r_ifc_ge (tgt := 44) dY_goesOdds_11 (by decide) (fun hc => ?_) (fun hc => ?_)
  · replace h := h.1 hc
    refine r_lload_n 2 2 rfl dY_goesOdds_44 rfl ?_
    exact q_lret rfl h dY_goesOdds_45
  · replace h := h.2 hc
    refine r_aload_n 0 0 rfl dY_goesOdds_14 rfl ?_
    refine r_iload 4 3 rfl dY_goesOdds_15 ?_
    refine r_callVv 12 [_] rfl c84 rfl rfl oY_goMorning iY_goMorning sY_goMorning yY_268 (by decide) ⟨Nat.le_refl _, Nat.le_refl _⟩ rfl (Nat.le_of_ble_eq_true rfl) dY_goesOdds_17 h (fun z2 r2 m2 h => ?_)
    obtain ⟨sw2, rfl, h⟩ := h
    refine r_aload_n 0 0 rfl dY_goesOdds_20 rfl ?_
    refine q_getR 29 c84 fY_71 rfl rfl (g84_29 sw2) (by decide) dY_goesOdds_21 ?_
    refine r_iload_n 1 1 rfl dY_goesOdds_24 rfl ?_
    refine q_iaload (w32 x1) rfl c104 h.1 dY_goesOdds_25 ?_
    replace h := h.2
    refine r_if_lt (tgt := 38) dY_goesOdds_26 (by decide) (fun hc => ?_) (fun hc => ?_)
    · replace h := h.1 hc
      refine r_iinc 4 3 rfl (by decide) dY_goesOdds_38 ?_
      refine r_goto (tgt := 5) dY_goesOdds_41 (by decide) ?_
      refine r_sub [1, 2, 3, 0] ?_ h
      rfl
    · replace h := h.2 hc
      refine r_lload_n 2 2 rfl dY_goesOdds_29 rfl ?_
      refine r_aload_n 0 0 rfl dY_goesOdds_30 rfl ?_
      refine r_iload 4 3 rfl dY_goesOdds_31 ?_
      refine r_callVl 12 [_] rfl c84 rfl rfl oY_oddsOf iY_oddsOf sY_oddsOf yY_278 (by decide) ⟨Nat.le_refl _, Nat.le_refl _⟩ rfl (Nat.le_of_ble_eq_true rfl) dY_goesOdds_33 h (fun z3 r3 m3 h => ?_)
      obtain ⟨sw3, rfl, h⟩ := h
      refine r_ladd dY_goesOdds_36 ?_
      refine r_lstore_n 2 (by decide) dY_goesOdds_37 rfl ?_
      refine r_iinc 4 3 rfl (by decide) dY_goesOdds_38 ?_
      refine r_goto (tgt := 5) dY_goesOdds_41 (by decide) ?_
      refine r_sub [2, 3, 1, 0] ?_ h
      rfl
theorem dY_likely_0 : decode mY_likely.2.1 0 = .ok (.iload_n 1, 1) := by decide +kernel
theorem dY_likely_1 : decode mY_likely.2.1 1 = .ok (.aload_n 0, 1) := by decide +kernel
theorem dY_likely_2 : decode mY_likely.2.1 2 = .ok (.getfield 130, 3) := by decide +kernel
theorem dY_likely_5 : decode mY_likely.2.1 5 = .ok (.ineg, 1) := by decide +kernel
theorem dY_likely_6 : decode mY_likely.2.1 6 = .ok (.sipush 999, 3) := by decide +kernel
theorem dY_likely_9 : decode mY_likely.2.1 9 = .ok (.invokestatic 133, 3) := by decide +kernel
theorem dY_likely_12 : decode mY_likely.2.1 12 = .ok (.ifCond .eq 12, 3) := by decide +kernel
theorem dY_likely_15 : decode mY_likely.2.1 15 = .ok (.iload_n 2, 1) := by decide +kernel
theorem dY_likely_16 : decode mY_likely.2.1 16 = .ok (.iconst 0, 1) := by decide +kernel
theorem dY_likely_17 : decode mY_likely.2.1 17 = .ok (.iconst 1, 1) := by decide +kernel
theorem dY_likely_18 : decode mY_likely.2.1 18 = .ok (.invokestatic 133, 3) := by decide +kernel
theorem dY_likely_21 : decode mY_likely.2.1 21 = .ok (.ifCond .ne 7, 3) := by decide +kernel
theorem dY_likely_24 : decode mY_likely.2.1 24 = .ok (.ldc2_w 282, 3) := by decide +kernel
theorem dY_likely_27 : decode mY_likely.2.1 27 = .ok (.lreturn, 1) := by decide +kernel
theorem dY_likely_28 : decode mY_likely.2.1 28 = .ok (.aload_n 0, 1) := by decide +kernel
theorem dY_likely_29 : decode mY_likely.2.1 29 = .ok (.invokevirtual 284, 3) := by decide +kernel
theorem dY_likely_32 : decode mY_likely.2.1 32 = .ok (.iload_n 1, 1) := by decide +kernel
theorem dY_likely_33 : decode mY_likely.2.1 33 = .ok (.ifCond .lt 11, 3) := by decide +kernel
theorem dY_likely_36 : decode mY_likely.2.1 36 = .ok (.aload_n 0, 1) := by decide +kernel
theorem dY_likely_37 : decode mY_likely.2.1 37 = .ok (.iload_n 1, 1) := by decide +kernel
theorem dY_likely_38 : decode mY_likely.2.1 38 = .ok (.invokevirtual 287, 3) := by decide +kernel
theorem dY_likely_41 : decode mY_likely.2.1 41 = .ok (.goto 10, 3) := by decide +kernel
theorem dY_likely_44 : decode mY_likely.2.1 44 = .ok (.aload_n 0, 1) := by decide +kernel
theorem dY_likely_45 : decode mY_likely.2.1 45 = .ok (.iconst (-1), 1) := by decide +kernel
theorem dY_likely_46 : decode mY_likely.2.1 46 = .ok (.iload_n 1, 1) := by decide +kernel
theorem dY_likely_47 : decode mY_likely.2.1 47 = .ok (.isub, 1) := by decide +kernel
theorem dY_likely_48 : decode mY_likely.2.1 48 = .ok (.invokevirtual 290, 3) := by decide +kernel
theorem dY_likely_51 : decode mY_likely.2.1 51 = .ok (.aload_n 0, 1) := by decide +kernel
theorem dY_likely_52 : decode mY_likely.2.1 52 = .ok (.invokevirtual 293, 3) := by decide +kernel
theorem dY_likely_55 : decode mY_likely.2.1 55 = .ok (.iload_n 2, 1) := by decide +kernel
theorem dY_likely_56 : decode mY_likely.2.1 56 = .ok (.invokestatic 297, 3) := by decide +kernel
theorem dY_likely_59 : decode mY_likely.2.1 59 = .ok (.lreturn, 1) := by decide +kernel
/- Y_likely: (II)J -/
set_option maxRecDepth 4000 in
theorem wY_likely {X : Cx} (a1 a2 : Int) (sw : Bool) (m : Mem) (Q : Int → Bool → Mem → Prop) (h : M2 X 1 mY_in [vi a1, vi (-(m 84 1)), vi 999] sw m (fun z1 sw1 m1 => ((w32 z1 = 0 → Q (-9223372036854775808) sw1 m1) ∧ (¬ (w32 z1 = 0) → M2 X 1 mY_in [vi a2, vi 0, vi 1] sw1 m1 (fun z2 sw2 m2 => ((¬ w32 z2 = 0 → M2 X 5 mY_layTwelfths [vr 84] sw2 m2 (fun z3 sw3 m3 => ((w32 a1 < 0 → M2 X 3 mY_goesOdds [vr 84, vi ((-1) - a1)] sw3 m3 (fun z4 sw4 m4 => M2 X 1 mY_whole [vr 84] sw4 m4 (fun z5 sw5 m5 => M2 X 1 mY_lowest [vl z4, vl z5, vi a2] sw5 m5 (fun z6 sw6 m6 => Q z6 sw6 m6)))) ∧ (¬ (w32 a1 < 0) → M2 X 3 mY_endsBy [vr 84, vi a1] sw3 m3 (fun z7 sw7 m7 => M2 X 1 mY_whole [vr 84] sw7 m7 (fun z8 sw8 m8 => M2 X 1 mY_lowest [vl z7, vl z8, vi a2] sw8 m8 (fun z9 sw9 m9 => Q z9 sw9 m9))))))) ∧ (¬ (¬ w32 z2 = 0) → Q (-9223372036854775808) sw2 m2))))))) : M2 X 6 mY_likely [vr 84, vi a1, vi a2] sw m Q := by
  refine Mt.of pY_likely (Nat.le_of_ble_eq_true rfl) (Nat.le_refl _) ?_
  show R2 X 6 mY_likely 0 [(0, vr 84), (1, vi a1), (2, vi a2)] [] sw m Q
  refine r_iload_n 1 1 rfl dY_likely_0 rfl ?_
  refine r_aload_n 0 0 rfl dY_likely_1 rfl ?_
  refine q_getI 1 c84 fY_130 rfl rfl dY_likely_2 ?_
  refine r_ineg dY_likely_5 ?_
  refine r_sipush (by decide) dY_likely_6 ?_
  refine r_callSb [_, _, _] rfl oY_in iY_in yY_133 (by decide) ⟨Nat.le_refl _, Nat.le_refl _⟩ rfl (Nat.le_of_ble_eq_true rfl) dY_likely_9 h (fun z1 r1 m1 h => ?_)
  obtain ⟨sw1, rfl, h⟩ := h
  refine r_if_eq (tgt := 24) dY_likely_12 (by decide) (fun hc => ?_) (fun hc => ?_)
  · replace h := h.1 hc
    refine r_ldc2 (z := (-9223372036854775808)) dY_likely_24 kY_282 ?_
    exact q_lret rfl h dY_likely_27
  · replace h := h.2 hc
    refine r_iload_n 2 2 rfl dY_likely_15 rfl ?_
    refine r_iconst dY_likely_16 ?_
    refine r_iconst dY_likely_17 ?_
    refine r_callSb [_, _, _] rfl oY_in iY_in yY_133 (by decide) ⟨Nat.le_refl _, Nat.le_refl _⟩ rfl (Nat.le_of_ble_eq_true rfl) dY_likely_18 h (fun z2 r2 m2 h => ?_)
    obtain ⟨sw2, rfl, h⟩ := h
    refine r_if_ne (tgt := 28) dY_likely_21 (by decide) (fun hc => ?_) (fun hc => ?_)
    · replace h := h.1 hc
      refine r_aload_n 0 0 rfl dY_likely_28 rfl ?_
      refine r_callVv 12 [] rfl c84 rfl rfl oY_layTwelfths iY_layTwelfths sY_layTwelfths yY_284 (by decide) ⟨Nat.le_refl _, Nat.le_refl _⟩ rfl (Nat.le_of_ble_eq_true rfl) dY_likely_29 h (fun z3 r3 m3 h => ?_)
      obtain ⟨sw3, rfl, h⟩ := h
      refine r_iload_n 1 1 rfl dY_likely_32 rfl ?_
      refine r_if_lt (tgt := 44) dY_likely_33 (by decide) (fun hc => ?_) (fun hc => ?_)
      · replace h := h.1 hc
        refine r_aload_n 0 0 rfl dY_likely_44 rfl ?_
        refine r_iconst dY_likely_45 ?_
        refine r_iload_n 1 1 rfl dY_likely_46 rfl ?_
        refine r_isub dY_likely_47 ?_
        refine r_callVl 12 [_] rfl c84 rfl rfl oY_goesOdds iY_goesOdds sY_goesOdds yY_290 (by decide) ⟨Nat.le_refl _, Nat.le_refl _⟩ rfl (Nat.le_of_ble_eq_true rfl) dY_likely_48 h (fun z4 r4 m4 h => ?_)
        obtain ⟨sw4, rfl, h⟩ := h
        refine r_aload_n 0 0 rfl dY_likely_51 rfl ?_
        refine r_callVl 12 [] rfl c84 rfl rfl oY_whole iY_whole sY_whole yY_293 (by decide) ⟨Nat.le_refl _, Nat.le_refl _⟩ rfl (Nat.le_of_ble_eq_true rfl) dY_likely_52 h (fun z5 r5 m5 h => ?_)
        obtain ⟨sw5, rfl, h⟩ := h
        refine r_iload_n 2 2 rfl dY_likely_55 rfl ?_
        refine r_callSl [_, _, _] rfl oY_lowest iY_lowest yY_297 (by decide) ⟨Nat.le_refl _, Nat.le_refl _⟩ rfl (Nat.le_of_ble_eq_true rfl) dY_likely_56 h (fun z6 r6 m6 h => ?_)
        obtain ⟨sw6, rfl, h⟩ := h
        exact q_lret rfl h dY_likely_59
      · replace h := h.2 hc
        refine r_aload_n 0 0 rfl dY_likely_36 rfl ?_
        refine r_iload_n 1 1 rfl dY_likely_37 rfl ?_
        refine r_callVl 12 [_] rfl c84 rfl rfl oY_endsBy iY_endsBy sY_endsBy yY_287 (by decide) ⟨Nat.le_refl _, Nat.le_refl _⟩ rfl (Nat.le_of_ble_eq_true rfl) dY_likely_38 h (fun z7 r7 m7 h => ?_)
        obtain ⟨sw7, rfl, h⟩ := h
        refine r_goto (tgt := 51) dY_likely_41 (by decide) ?_
        refine r_aload_n 0 0 rfl dY_likely_51 rfl ?_
        refine r_callVl 12 [] rfl c84 rfl rfl oY_whole iY_whole sY_whole yY_293 (by decide) ⟨Nat.le_refl _, Nat.le_refl _⟩ rfl (Nat.le_of_ble_eq_true rfl) dY_likely_52 h (fun z8 r8 m8 h => ?_)
        obtain ⟨sw8, rfl, h⟩ := h
        refine r_iload_n 2 2 rfl dY_likely_55 rfl ?_
        refine r_callSl [_, _, _] rfl oY_lowest iY_lowest yY_297 (by decide) ⟨Nat.le_refl _, Nat.le_refl _⟩ rfl (Nat.le_of_ble_eq_true rfl) dY_likely_56 h (fun z9 r9 m9 h => ?_)
        obtain ⟨sw9, rfl, h⟩ := h
        exact q_lret rfl h dY_likely_59
    · replace h := h.2 hc
      refine r_ldc2 (z := (-9223372036854775808)) dY_likely_24 kY_282 ?_
      exact q_lret rfl h dY_likely_27
theorem dY_when_0 : decode mY_when.2.1 0 = .ok (.iload_n 1, 1) := by decide +kernel
theorem dY_when_1 : decode mY_when.2.1 1 = .ok (.iconst 0, 1) := by decide +kernel
theorem dY_when_2 : decode mY_when.2.1 2 = .ok (.iconst 1, 1) := by decide +kernel
theorem dY_when_3 : decode mY_when.2.1 3 = .ok (.invokestatic 133, 3) := by decide +kernel
theorem dY_when_6 : decode mY_when.2.1 6 = .ok (.ifCond .ne 5, 3) := by decide +kernel
theorem dY_when_9 : decode mY_when.2.1 9 = .ok (.iconst (-1), 1) := by decide +kernel
theorem dY_when_10 : decode mY_when.2.1 10 = .ok (.ireturn, 1) := by decide +kernel
theorem dY_when_11 : decode mY_when.2.1 11 = .ok (.aload_n 0, 1) := by decide +kernel
theorem dY_when_12 : decode mY_when.2.1 12 = .ok (.invokevirtual 284, 3) := by decide +kernel
theorem dY_when_15 : decode mY_when.2.1 15 = .ok (.bipush (-2), 2) := by decide +kernel
theorem dY_when_17 : decode mY_when.2.1 17 = .ok (.istore_n 2, 1) := by decide +kernel
theorem dY_when_18 : decode mY_when.2.1 18 = .ok (.iconst 0, 1) := by decide +kernel
theorem dY_when_19 : decode mY_when.2.1 19 = .ok (.istore_n 3, 1) := by decide +kernel
theorem dY_when_20 : decode mY_when.2.1 20 = .ok (.iload_n 3, 1) := by decide +kernel
theorem dY_when_21 : decode mY_when.2.1 21 = .ok (.aload_n 0, 1) := by decide +kernel
theorem dY_when_22 : decode mY_when.2.1 22 = .ok (.invokevirtual 272, 3) := by decide +kernel
theorem dY_when_25 : decode mY_when.2.1 25 = .ok (.if_icmp .ge 64, 3) := by decide +kernel
theorem dY_when_28 : decode mY_when.2.1 28 = .ok (.aload_n 0, 1) := by decide +kernel
theorem dY_when_29 : decode mY_when.2.1 29 = .ok (.iload_n 3, 1) := by decide +kernel
theorem dY_when_30 : decode mY_when.2.1 30 = .ok (.invokevirtual 268, 3) := by decide +kernel
theorem dY_when_33 : decode mY_when.2.1 33 = .ok (.aload_n 0, 1) := by decide +kernel
theorem dY_when_34 : decode mY_when.2.1 34 = .ok (.invokevirtual 275, 3) := by decide +kernel
theorem dY_when_37 : decode mY_when.2.1 37 = .ok (.istore 4, 2) := by decide +kernel
theorem dY_when_39 : decode mY_when.2.1 39 = .ok (.iload 4, 2) := by decide +kernel
theorem dY_when_41 : decode mY_when.2.1 41 = .ok (.ifCond .lt 42, 3) := by decide +kernel
theorem dY_when_44 : decode mY_when.2.1 44 = .ok (.aload_n 0, 1) := by decide +kernel
theorem dY_when_45 : decode mY_when.2.1 45 = .ok (.iload_n 3, 1) := by decide +kernel
theorem dY_when_46 : decode mY_when.2.1 46 = .ok (.invokevirtual 278, 3) := by decide +kernel
theorem dY_when_49 : decode mY_when.2.1 49 = .ok (.lconst 0, 1) := by decide +kernel
theorem dY_when_50 : decode mY_when.2.1 50 = .ok (.lcmp, 1) := by decide +kernel
theorem dY_when_51 : decode mY_when.2.1 51 = .ok (.ifCond .ne 6, 3) := by decide +kernel
theorem dY_when_54 : decode mY_when.2.1 54 = .ok (.goto 29, 3) := by decide +kernel
theorem dY_when_57 : decode mY_when.2.1 57 = .ok (.iload_n 2, 1) := by decide +kernel
theorem dY_when_58 : decode mY_when.2.1 58 = .ok (.ifCond .lt 22, 3) := by decide +kernel
theorem dY_when_61 : decode mY_when.2.1 61 = .ok (.iload_n 1, 1) := by decide +kernel
theorem dY_when_62 : decode mY_when.2.1 62 = .ok (.ifCond .ne 12, 3) := by decide +kernel
theorem dY_when_65 : decode mY_when.2.1 65 = .ok (.iload 4, 2) := by decide +kernel
theorem dY_when_67 : decode mY_when.2.1 67 = .ok (.iload_n 2, 1) := by decide +kernel
theorem dY_when_68 : decode mY_when.2.1 68 = .ok (.if_icmp .ge 15, 3) := by decide +kernel
theorem dY_when_71 : decode mY_when.2.1 71 = .ok (.goto 9, 3) := by decide +kernel
theorem dY_when_74 : decode mY_when.2.1 74 = .ok (.iload 4, 2) := by decide +kernel
theorem dY_when_76 : decode mY_when.2.1 76 = .ok (.iload_n 2, 1) := by decide +kernel
theorem dY_when_77 : decode mY_when.2.1 77 = .ok (.if_icmp .le 6, 3) := by decide +kernel
theorem dY_when_80 : decode mY_when.2.1 80 = .ok (.iload 4, 2) := by decide +kernel
theorem dY_when_82 : decode mY_when.2.1 82 = .ok (.istore_n 2, 1) := by decide +kernel
theorem dY_when_83 : decode mY_when.2.1 83 = .ok (.iinc 3 1, 3) := by decide +kernel
theorem dY_when_86 : decode mY_when.2.1 86 = .ok (.goto (-66), 3) := by decide +kernel
theorem dY_when_89 : decode mY_when.2.1 89 = .ok (.iload_n 2, 1) := by decide +kernel
theorem dY_when_90 : decode mY_when.2.1 90 = .ok (.ireturn, 1) := by decide +kernel
/- Y_when: (I)I -/
set_option maxRecDepth 4000 in
theorem wY_when {X : Cx} (a1 : Int) (sw : Bool) (m : Mem) (Q : Int → Bool → Mem → Prop) (h : M2 X 1 mY_in [vi a1, vi 0, vi 1] sw m (fun z1 sw1 m1 => ((¬ w32 z1 = 0 → M2 X 5 mY_layTwelfths [vr 84] sw1 m1 (fun z2 sw2 m2 => R2 X 6 mY_when 20 [(0, vr 84), (1, vi a1), (2, vi (-2)), (3, vi 0)] [] sw2 m2 Q)) ∧ (¬ (¬ w32 z1 = 0) → Q (-1) sw1 m1)))) : M2 X 6 mY_when [vr 84, vi a1] sw m Q := by
  refine Mt.of pY_when (Nat.le_of_ble_eq_true rfl) (Nat.le_refl _) ?_
  show R2 X 6 mY_when 0 [(0, vr 84), (1, vi a1)] [] sw m Q
  refine r_iload_n 1 1 rfl dY_when_0 rfl ?_
  refine r_iconst dY_when_1 ?_
  refine r_iconst dY_when_2 ?_
  refine r_callSb [_, _, _] rfl oY_in iY_in yY_133 (by decide) ⟨Nat.le_refl _, Nat.le_refl _⟩ rfl (Nat.le_of_ble_eq_true rfl) dY_when_3 h (fun z1 r1 m1 h => ?_)
  obtain ⟨sw1, rfl, h⟩ := h
  refine r_if_ne (tgt := 11) dY_when_6 (by decide) (fun hc => ?_) (fun hc => ?_)
  · replace h := h.1 hc
    refine r_aload_n 0 0 rfl dY_when_11 rfl ?_
    refine r_callVv 12 [] rfl c84 rfl rfl oY_layTwelfths iY_layTwelfths sY_layTwelfths yY_284 (by decide) ⟨Nat.le_refl _, Nat.le_refl _⟩ rfl (Nat.le_of_ble_eq_true rfl) dY_when_12 h (fun z2 r2 m2 h => ?_)
    obtain ⟨sw2, rfl, h⟩ := h
    refine r_bipush (by decide) dY_when_15 ?_
    refine r_istore_n 2 (by decide) dY_when_17 rfl ?_
    refine r_iconst dY_when_18 ?_
    refine r_istore_n 3 (by decide) dY_when_19 rfl ?_
    refine r_sub [2, 3, 1, 0] ?_ h
    rfl
  · replace h := h.2 hc
    refine r_iconst dY_when_9 ?_
    exact q_iret rfl h dY_when_10
set_option maxRecDepth 4000 in
theorem wY_when_20 {X : Cx} (x1 x2 x3 : Int) (sw : Bool) (m : Mem) (Q : Int → Bool → Mem → Prop) (h : M2 X 1 mY_sets [vr 84] sw m (fun z1 sw1 m1 => ((w32 z1 ≤ w32 x3 → Q x2 sw1 m1) ∧ (¬ (w32 z1 ≤ w32 x3) → M2 X 2 mY_goMorning [vr 84, vi x3] sw1 m1 (fun z2 sw2 m2 => M2 X 1 mY_endNow [vr 84] sw2 m2 (fun z3 sw3 m3 => ((w32 z3 < 0 → R2 X 6 mY_when 20 [(0, vr 84), (1, vi x1), (2, vi x2), (3, vi (x3 + 1))] [] sw3 m3 Q) ∧ (¬ (w32 z3 < 0) → M2 X 1 mY_oddsOf [vr 84, vi x3] sw3 m3 (fun z4 sw4 m4 => ((¬ w64 z4 = 0 → ((w32 x2 < 0 → R2 X 6 mY_when 20 [(0, vr 84), (1, vi x1), (2, vi z3), (3, vi (x3 + 1))] [] sw4 m4 Q) ∧ (¬ (w32 x2 < 0) → ((¬ w32 x1 = 0 → ((w32 z3 ≤ w32 x2 → R2 X 6 mY_when 20 [(0, vr 84), (1, vi x1), (2, vi x2), (3, vi (x3 + 1))] [] sw4 m4 Q) ∧ (¬ (w32 z3 ≤ w32 x2) → R2 X 6 mY_when 20 [(0, vr 84), (1, vi x1), (2, vi z3), (3, vi (x3 + 1))] [] sw4 m4 Q))) ∧ (¬ (¬ w32 x1 = 0) → ((w32 x2 ≤ w32 z3 → R2 X 6 mY_when 20 [(0, vr 84), (1, vi x1), (2, vi x2), (3, vi (x3 + 1))] [] sw4 m4 Q) ∧ (¬ (w32 x2 ≤ w32 z3) → R2 X 6 mY_when 20 [(0, vr 84), (1, vi x1), (2, vi z3), (3, vi (x3 + 1))] [] sw4 m4 Q))))))) ∧ (¬ (¬ w64 z4 = 0) → R2 X 6 mY_when 20 [(0, vr 84), (1, vi x1), (2, vi x2), (3, vi (x3 + 1))] [] sw4 m4 Q))))))))))) : R2 X 6 mY_when 20 [(0, vr 84), (1, vi x1), (2, vi x2), (3, vi x3)] [] sw m Q := by
  refine r_iload_n 3 3 rfl dY_when_20 rfl ?_
  refine r_aload_n 0 0 rfl dY_when_21 rfl ?_
  refine r_callVi 12 [] rfl c84 rfl rfl oY_sets iY_sets sY_sets yY_272 (by decide) ⟨Nat.le_refl _, Nat.le_refl _⟩ rfl (Nat.le_of_ble_eq_true rfl) dY_when_22 h (fun z1 r1 m1 h => ?_)
  obtain ⟨sw1, rfl, h⟩ := h
  refine r_ifc_ge (tgt := 89) dY_when_25 (by decide) (fun hc => ?_) (fun hc => ?_)
  · replace h := h.1 hc
    refine r_iload_n 2 2 rfl dY_when_89 rfl ?_
    exact q_iret rfl h dY_when_90
  · replace h := h.2 hc
    refine r_aload_n 0 0 rfl dY_when_28 rfl ?_
    refine r_iload_n 3 3 rfl dY_when_29 rfl ?_
    refine r_callVv 12 [_] rfl c84 rfl rfl oY_goMorning iY_goMorning sY_goMorning yY_268 (by decide) ⟨Nat.le_refl _, Nat.le_refl _⟩ rfl (Nat.le_of_ble_eq_true rfl) dY_when_30 h (fun z2 r2 m2 h => ?_)
    obtain ⟨sw2, rfl, h⟩ := h
    refine r_aload_n 0 0 rfl dY_when_33 rfl ?_
    refine r_callVi 12 [] rfl c84 rfl rfl oY_endNow iY_endNow sY_endNow yY_275 (by decide) ⟨Nat.le_refl _, Nat.le_refl _⟩ rfl (Nat.le_of_ble_eq_true rfl) dY_when_34 h (fun z3 r3 m3 h => ?_)
    obtain ⟨sw3, rfl, h⟩ := h
    refine r_istore 4 (by decide) dY_when_37 ?_
    refine r_iload 4 0 rfl dY_when_39 ?_
    refine r_if_lt (tgt := 83) dY_when_41 (by decide) (fun hc => ?_) (fun hc => ?_)
    · replace h := h.1 hc
      refine r_iinc 3 4 rfl (by decide) dY_when_83 ?_
      refine r_goto (tgt := 20) dY_when_86 (by decide) ?_
      refine r_sub [2, 3, 4, 0] ?_ h
      rfl
    · replace h := h.2 hc
      refine r_aload_n 0 1 rfl dY_when_44 rfl ?_
      refine r_iload_n 3 4 rfl dY_when_45 rfl ?_
      refine r_callVl 12 [_] rfl c84 rfl rfl oY_oddsOf iY_oddsOf sY_oddsOf yY_278 (by decide) ⟨Nat.le_refl _, Nat.le_refl _⟩ rfl (Nat.le_of_ble_eq_true rfl) dY_when_46 h (fun z4 r4 m4 h => ?_)
      obtain ⟨sw4, rfl, h⟩ := h
      refine r_lconst dY_when_49 ?_
      refine q_lc_ne (tgt := 57) (A := w64 z4) (B := 0) rfl (by decide +kernel) dY_when_50 dY_when_51 (by decide) (fun hc => ?_) (fun hc => ?_)
      · replace h := h.1 hc
        refine r_iload_n 2 3 rfl dY_when_57 rfl ?_
        refine r_if_lt (tgt := 80) dY_when_58 (by decide) (fun hc => ?_) (fun hc => ?_)
        · replace h := h.1 hc
          refine r_iload 4 0 rfl dY_when_80 ?_
          refine r_istore_n 2 (by decide) dY_when_82 rfl ?_
          refine r_iinc 3 4 rfl (by decide) dY_when_83 ?_
          refine r_goto (tgt := 20) dY_when_86 (by decide) ?_
          refine r_sub [3, 4, 1, 0] ?_ h
          rfl
        · replace h := h.2 hc
          refine r_iload_n 1 2 rfl dY_when_61 rfl ?_
          refine r_if_ne (tgt := 74) dY_when_62 (by decide) (fun hc => ?_) (fun hc => ?_)
          · replace h := h.1 hc
            refine r_iload 4 0 rfl dY_when_74 ?_
            refine r_iload_n 2 3 rfl dY_when_76 rfl ?_
            refine r_ifc_le (tgt := 83) dY_when_77 (by decide) (fun hc => ?_) (fun hc => ?_)
            · replace h := h.1 hc
              refine r_iinc 3 4 rfl (by decide) dY_when_83 ?_
              refine r_goto (tgt := 20) dY_when_86 (by decide) ?_
              refine r_sub [2, 3, 4, 0] ?_ h
              rfl
            · replace h := h.2 hc
              refine r_iload 4 0 rfl dY_when_80 ?_
              refine r_istore_n 2 (by decide) dY_when_82 rfl ?_
              refine r_iinc 3 4 rfl (by decide) dY_when_83 ?_
              refine r_goto (tgt := 20) dY_when_86 (by decide) ?_
              refine r_sub [3, 4, 1, 0] ?_ h
              rfl
          · replace h := h.2 hc
            refine r_iload 4 0 rfl dY_when_65 ?_
            refine r_iload_n 2 3 rfl dY_when_67 rfl ?_
            refine r_ifc_ge (tgt := 83) dY_when_68 (by decide) (fun hc => ?_) (fun hc => ?_)
            · replace h := h.1 hc
              refine r_iinc 3 4 rfl (by decide) dY_when_83 ?_
              refine r_goto (tgt := 20) dY_when_86 (by decide) ?_
              refine r_sub [2, 3, 4, 0] ?_ h
              rfl
            · replace h := h.2 hc
              refine r_goto (tgt := 80) dY_when_71 (by decide) ?_
              refine r_iload 4 0 rfl dY_when_80 ?_
              refine r_istore_n 2 (by decide) dY_when_82 rfl ?_
              refine r_iinc 3 4 rfl (by decide) dY_when_83 ?_
              refine r_goto (tgt := 20) dY_when_86 (by decide) ?_
              refine r_sub [3, 4, 1, 0] ?_ h
              rfl
      · replace h := h.2 hc
        refine r_goto (tgt := 83) dY_when_54 (by decide) ?_
        refine r_iinc 3 4 rfl (by decide) dY_when_83 ?_
        refine r_goto (tgt := 20) dY_when_86 (by decide) ?_
        refine r_sub [2, 3, 4, 0] ?_ h
        rfl
theorem dY_mean_0 : decode mY_mean.2.1 0 = .ok (.iload_n 1, 1) := by decide +kernel
theorem dY_mean_1 : decode mY_mean.2.1 1 = .ok (.iconst 0, 1) := by decide +kernel
theorem dY_mean_2 : decode mY_mean.2.1 2 = .ok (.iconst 1, 1) := by decide +kernel
theorem dY_mean_3 : decode mY_mean.2.1 3 = .ok (.invokestatic 133, 3) := by decide +kernel
theorem dY_mean_6 : decode mY_mean.2.1 6 = .ok (.ifCond .ne 7, 3) := by decide +kernel
theorem dY_mean_9 : decode mY_mean.2.1 9 = .ok (.ldc2_w 282, 3) := by decide +kernel
theorem dY_mean_12 : decode mY_mean.2.1 12 = .ok (.lreturn, 1) := by decide +kernel
theorem dY_mean_13 : decode mY_mean.2.1 13 = .ok (.aload_n 0, 1) := by decide +kernel
theorem dY_mean_14 : decode mY_mean.2.1 14 = .ok (.invokevirtual 284, 3) := by decide +kernel
theorem dY_mean_17 : decode mY_mean.2.1 17 = .ok (.lconst 0, 1) := by decide +kernel
theorem dY_mean_18 : decode mY_mean.2.1 18 = .ok (.lstore_n 2, 1) := by decide +kernel
theorem dY_mean_19 : decode mY_mean.2.1 19 = .ok (.lconst 0, 1) := by decide +kernel
theorem dY_mean_20 : decode mY_mean.2.1 20 = .ok (.lstore 4, 2) := by decide +kernel
theorem dY_mean_22 : decode mY_mean.2.1 22 = .ok (.iconst 0, 1) := by decide +kernel
theorem dY_mean_23 : decode mY_mean.2.1 23 = .ok (.istore 6, 2) := by decide +kernel
theorem dY_mean_25 : decode mY_mean.2.1 25 = .ok (.iload 6, 2) := by decide +kernel
theorem dY_mean_27 : decode mY_mean.2.1 27 = .ok (.aload_n 0, 1) := by decide +kernel
theorem dY_mean_28 : decode mY_mean.2.1 28 = .ok (.invokevirtual 272, 3) := by decide +kernel
theorem dY_mean_31 : decode mY_mean.2.1 31 = .ok (.if_icmp .ge 51, 3) := by decide +kernel
theorem dY_mean_34 : decode mY_mean.2.1 34 = .ok (.aload_n 0, 1) := by decide +kernel
theorem dY_mean_35 : decode mY_mean.2.1 35 = .ok (.iload 6, 2) := by decide +kernel
theorem dY_mean_37 : decode mY_mean.2.1 37 = .ok (.invokevirtual 268, 3) := by decide +kernel
theorem dY_mean_40 : decode mY_mean.2.1 40 = .ok (.aload_n 0, 1) := by decide +kernel
theorem dY_mean_41 : decode mY_mean.2.1 41 = .ok (.invokevirtual 275, 3) := by decide +kernel
theorem dY_mean_44 : decode mY_mean.2.1 44 = .ok (.ifCond .ge 6, 3) := by decide +kernel
theorem dY_mean_47 : decode mY_mean.2.1 47 = .ok (.goto 29, 3) := by decide +kernel
theorem dY_mean_50 : decode mY_mean.2.1 50 = .ok (.lload_n 2, 1) := by decide +kernel
theorem dY_mean_51 : decode mY_mean.2.1 51 = .ok (.aload_n 0, 1) := by decide +kernel
theorem dY_mean_52 : decode mY_mean.2.1 52 = .ok (.iload 6, 2) := by decide +kernel
theorem dY_mean_54 : decode mY_mean.2.1 54 = .ok (.invokevirtual 278, 3) := by decide +kernel
theorem dY_mean_57 : decode mY_mean.2.1 57 = .ok (.ladd, 1) := by decide +kernel
theorem dY_mean_58 : decode mY_mean.2.1 58 = .ok (.lstore_n 2, 1) := by decide +kernel
theorem dY_mean_59 : decode mY_mean.2.1 59 = .ok (.lload 4, 2) := by decide +kernel
theorem dY_mean_61 : decode mY_mean.2.1 61 = .ok (.aload_n 0, 1) := by decide +kernel
theorem dY_mean_62 : decode mY_mean.2.1 62 = .ok (.iload 6, 2) := by decide +kernel
theorem dY_mean_64 : decode mY_mean.2.1 64 = .ok (.invokevirtual 278, 3) := by decide +kernel
theorem dY_mean_67 : decode mY_mean.2.1 67 = .ok (.aload_n 0, 1) := by decide +kernel
theorem dY_mean_68 : decode mY_mean.2.1 68 = .ok (.invokevirtual 275, 3) := by decide +kernel
theorem dY_mean_71 : decode mY_mean.2.1 71 = .ok (.i2l, 1) := by decide +kernel
theorem dY_mean_72 : decode mY_mean.2.1 72 = .ok (.lmul, 1) := by decide +kernel
theorem dY_mean_73 : decode mY_mean.2.1 73 = .ok (.ladd, 1) := by decide +kernel
theorem dY_mean_74 : decode mY_mean.2.1 74 = .ok (.lstore 4, 2) := by decide +kernel
theorem dY_mean_76 : decode mY_mean.2.1 76 = .ok (.iinc 6 1, 3) := by decide +kernel
theorem dY_mean_79 : decode mY_mean.2.1 79 = .ok (.goto (-54), 3) := by decide +kernel
theorem dY_mean_82 : decode mY_mean.2.1 82 = .ok (.lload 4, 2) := by decide +kernel
theorem dY_mean_84 : decode mY_mean.2.1 84 = .ok (.lload_n 2, 1) := by decide +kernel
theorem dY_mean_85 : decode mY_mean.2.1 85 = .ok (.iload_n 1, 1) := by decide +kernel
theorem dY_mean_86 : decode mY_mean.2.1 86 = .ok (.invokestatic 297, 3) := by decide +kernel
theorem dY_mean_89 : decode mY_mean.2.1 89 = .ok (.lreturn, 1) := by decide +kernel
/- Y_mean: (I)J -/
set_option maxRecDepth 4000 in
theorem wY_mean {X : Cx} (a1 : Int) (sw : Bool) (m : Mem) (Q : Int → Bool → Mem → Prop) (h : M2 X 1 mY_in [vi a1, vi 0, vi 1] sw m (fun z1 sw1 m1 => ((¬ w32 z1 = 0 → M2 X 5 mY_layTwelfths [vr 84] sw1 m1 (fun z2 sw2 m2 => R2 X 6 mY_mean 25 [(0, vr 84), (1, vi a1), (2, vl 0), (4, vl 0), (6, vi 0)] [] sw2 m2 Q)) ∧ (¬ (¬ w32 z1 = 0) → Q (-9223372036854775808) sw1 m1)))) : M2 X 6 mY_mean [vr 84, vi a1] sw m Q := by
  refine Mt.of pY_mean (Nat.le_of_ble_eq_true rfl) (Nat.le_refl _) ?_
  show R2 X 6 mY_mean 0 [(0, vr 84), (1, vi a1)] [] sw m Q
  refine r_iload_n 1 1 rfl dY_mean_0 rfl ?_
  refine r_iconst dY_mean_1 ?_
  refine r_iconst dY_mean_2 ?_
  refine r_callSb [_, _, _] rfl oY_in iY_in yY_133 (by decide) ⟨Nat.le_refl _, Nat.le_refl _⟩ rfl (Nat.le_of_ble_eq_true rfl) dY_mean_3 h (fun z1 r1 m1 h => ?_)
  obtain ⟨sw1, rfl, h⟩ := h
  refine r_if_ne (tgt := 13) dY_mean_6 (by decide) (fun hc => ?_) (fun hc => ?_)
  · replace h := h.1 hc
    refine r_aload_n 0 0 rfl dY_mean_13 rfl ?_
    refine r_callVv 12 [] rfl c84 rfl rfl oY_layTwelfths iY_layTwelfths sY_layTwelfths yY_284 (by decide) ⟨Nat.le_refl _, Nat.le_refl _⟩ rfl (Nat.le_of_ble_eq_true rfl) dY_mean_14 h (fun z2 r2 m2 h => ?_)
    obtain ⟨sw2, rfl, h⟩ := h
    refine r_lconst dY_mean_17 ?_
    refine r_lstore_n 2 (by decide) dY_mean_18 rfl ?_
    refine r_lconst dY_mean_19 ?_
    refine r_lstore 4 (by decide) dY_mean_20 ?_
    refine r_iconst dY_mean_22 ?_
    refine r_istore 6 (by decide) dY_mean_23 ?_
    refine r_sub [3, 4, 2, 1, 0] ?_ h
    rfl
  · replace h := h.2 hc
    refine r_ldc2 (z := (-9223372036854775808)) dY_mean_9 kY_282 ?_
    exact q_lret rfl h dY_mean_12
set_option maxRecDepth 4000 in
theorem wY_mean_25 {X : Cx} (x1 x2 x4 x6 : Int) (sw : Bool) (m : Mem) (Q : Int → Bool → Mem → Prop) (h : M2 X 1 mY_sets [vr 84] sw m (fun z1 sw1 m1 => ((w32 z1 ≤ w32 x6 → M2 X 1 mY_lowest [vl x4, vl x2, vi x1] sw1 m1 (fun z2 sw2 m2 => Q z2 sw2 m2)) ∧ (¬ (w32 z1 ≤ w32 x6) → M2 X 2 mY_goMorning [vr 84, vi x6] sw1 m1 (fun z3 sw3 m3 => M2 X 1 mY_endNow [vr 84] sw3 m3 (fun z4 sw4 m4 => ((0 ≤ w32 z4 → M2 X 1 mY_oddsOf [vr 84, vi x6] sw4 m4 (fun z5 sw5 m5 => M2 X 1 mY_oddsOf [vr 84, vi x6] sw5 m5 (fun z6 sw6 m6 => M2 X 1 mY_endNow [vr 84] sw6 m6 (fun z7 sw7 m7 => R2 X 6 mY_mean 25 [(0, vr 84), (1, vi x1), (2, vl (x2 + z5)), (4, vl (x4 + (z6 * w32 z7))), (6, vi (x6 + 1))] [] sw7 m7 Q)))) ∧ (¬ (0 ≤ w32 z4) → R2 X 6 mY_mean 25 [(0, vr 84), (1, vi x1), (2, vl x2), (4, vl x4), (6, vi (x6 + 1))] [] sw4 m4 Q)))))))) : R2 X 6 mY_mean 25 [(0, vr 84), (1, vi x1), (2, vl x2), (4, vl x4), (6, vi x6)] [] sw m Q := by
  refine r_iload 6 4 rfl dY_mean_25 ?_
  refine r_aload_n 0 0 rfl dY_mean_27 rfl ?_
  refine r_callVi 12 [] rfl c84 rfl rfl oY_sets iY_sets sY_sets yY_272 (by decide) ⟨Nat.le_refl _, Nat.le_refl _⟩ rfl (Nat.le_of_ble_eq_true rfl) dY_mean_28 h (fun z1 r1 m1 h => ?_)
  obtain ⟨sw1, rfl, h⟩ := h
  refine r_ifc_ge (tgt := 82) dY_mean_31 (by decide) (fun hc => ?_) (fun hc => ?_)
  · replace h := h.1 hc
    refine r_lload 4 3 rfl dY_mean_82 ?_
    refine r_lload_n 2 2 rfl dY_mean_84 rfl ?_
    refine r_iload_n 1 1 rfl dY_mean_85 rfl ?_
    refine r_callSl [_, _, _] rfl oY_lowest iY_lowest yY_297 (by decide) ⟨Nat.le_refl _, Nat.le_refl _⟩ rfl (Nat.le_of_ble_eq_true rfl) dY_mean_86 h (fun z2 r2 m2 h => ?_)
    obtain ⟨sw2, rfl, h⟩ := h
    exact q_lret rfl h dY_mean_89
  · replace h := h.2 hc
    refine r_aload_n 0 0 rfl dY_mean_34 rfl ?_
    refine r_iload 6 4 rfl dY_mean_35 ?_
    refine r_callVv 12 [_] rfl c84 rfl rfl oY_goMorning iY_goMorning sY_goMorning yY_268 (by decide) ⟨Nat.le_refl _, Nat.le_refl _⟩ rfl (Nat.le_of_ble_eq_true rfl) dY_mean_37 h (fun z3 r3 m3 h => ?_)
    obtain ⟨sw3, rfl, h⟩ := h
    refine r_aload_n 0 0 rfl dY_mean_40 rfl ?_
    refine r_callVi 12 [] rfl c84 rfl rfl oY_endNow iY_endNow sY_endNow yY_275 (by decide) ⟨Nat.le_refl _, Nat.le_refl _⟩ rfl (Nat.le_of_ble_eq_true rfl) dY_mean_41 h (fun z4 r4 m4 h => ?_)
    obtain ⟨sw4, rfl, h⟩ := h
    refine r_if_ge (tgt := 50) dY_mean_44 (by decide) (fun hc => ?_) (fun hc => ?_)
    · replace h := h.1 hc
      refine r_lload_n 2 2 rfl dY_mean_50 rfl ?_
      refine r_aload_n 0 0 rfl dY_mean_51 rfl ?_
      refine r_iload 6 4 rfl dY_mean_52 ?_
      refine r_callVl 12 [_] rfl c84 rfl rfl oY_oddsOf iY_oddsOf sY_oddsOf yY_278 (by decide) ⟨Nat.le_refl _, Nat.le_refl _⟩ rfl (Nat.le_of_ble_eq_true rfl) dY_mean_54 h (fun z5 r5 m5 h => ?_)
      obtain ⟨sw5, rfl, h⟩ := h
      refine r_ladd dY_mean_57 ?_
      refine r_lstore_n 2 (by decide) dY_mean_58 rfl ?_
      refine r_lload 4 3 rfl dY_mean_59 ?_
      refine r_aload_n 0 1 rfl dY_mean_61 rfl ?_
      refine r_iload 6 4 rfl dY_mean_62 ?_
      refine r_callVl 12 [_] rfl c84 rfl rfl oY_oddsOf iY_oddsOf sY_oddsOf yY_278 (by decide) ⟨Nat.le_refl _, Nat.le_refl _⟩ rfl (Nat.le_of_ble_eq_true rfl) dY_mean_64 h (fun z6 r6 m6 h => ?_)
      obtain ⟨sw6, rfl, h⟩ := h
      refine r_aload_n 0 1 rfl dY_mean_67 rfl ?_
      refine r_callVi 12 [] rfl c84 rfl rfl oY_endNow iY_endNow sY_endNow yY_275 (by decide) ⟨Nat.le_refl _, Nat.le_refl _⟩ rfl (Nat.le_of_ble_eq_true rfl) dY_mean_68 h (fun z7 r7 m7 h => ?_)
      obtain ⟨sw7, rfl, h⟩ := h
      refine r_i2l dY_mean_71 ?_
      refine r_lmul dY_mean_72 ?_
      refine r_ladd dY_mean_73 ?_
      refine r_lstore 4 (by decide) dY_mean_74 ?_
      refine r_iinc 6 4 rfl (by decide) dY_mean_76 ?_
      refine r_goto (tgt := 25) dY_mean_79 (by decide) ?_
      refine r_sub [3, 4, 2, 1, 0] ?_ h
      rfl
    · replace h := h.2 hc
      refine r_goto (tgt := 76) dY_mean_47 (by decide) ?_
      refine r_iinc 6 4 rfl (by decide) dY_mean_76 ?_
      refine r_goto (tgt := 25) dY_mean_79 (by decide) ?_
      refine r_sub [1, 2, 3, 4, 0] ?_ h
      rfl
theorem dY_findMinutes_0 : decode mY_findMinutes.2.1 0 = .ok (.aload_n 0, 1) := by decide +kernel
theorem dY_findMinutes_1 : decode mY_findMinutes.2.1 1 = .ok (.invokevirtual 284, 3) := by decide +kernel
theorem dY_findMinutes_4 : decode mY_findMinutes.2.1 4 = .ok (.iconst 0, 1) := by decide +kernel
theorem dY_findMinutes_5 : decode mY_findMinutes.2.1 5 = .ok (.istore_n 1, 1) := by decide +kernel
theorem dY_findMinutes_6 : decode mY_findMinutes.2.1 6 = .ok (.iload_n 1, 1) := by decide +kernel
theorem dY_findMinutes_7 : decode mY_findMinutes.2.1 7 = .ok (.sipush 540, 3) := by decide +kernel
theorem dY_findMinutes_10 : decode mY_findMinutes.2.1 10 = .ok (.if_icmp .gt 16, 3) := by decide +kernel
theorem dY_findMinutes_13 : decode mY_findMinutes.2.1 13 = .ok (.aload_n 0, 1) := by decide +kernel
theorem dY_findMinutes_14 : decode mY_findMinutes.2.1 14 = .ok (.getfield 81, 3) := by decide +kernel
theorem dY_findMinutes_17 : decode mY_findMinutes.2.1 17 = .ok (.iload_n 1, 1) := by decide +kernel
theorem dY_findMinutes_18 : decode mY_findMinutes.2.1 18 = .ok (.lconst 0, 1) := by decide +kernel
theorem dY_findMinutes_19 : decode mY_findMinutes.2.1 19 = .ok (.lastore, 1) := by decide +kernel
theorem dY_findMinutes_20 : decode mY_findMinutes.2.1 20 = .ok (.iinc 1 1, 3) := by decide +kernel
theorem dY_findMinutes_23 : decode mY_findMinutes.2.1 23 = .ok (.goto (-17), 3) := by decide +kernel
theorem dY_findMinutes_26 : decode mY_findMinutes.2.1 26 = .ok (.iconst 0, 1) := by decide +kernel
theorem dY_findMinutes_27 : decode mY_findMinutes.2.1 27 = .ok (.istore_n 1, 1) := by decide +kernel
theorem dY_findMinutes_28 : decode mY_findMinutes.2.1 28 = .ok (.iload_n 1, 1) := by decide +kernel
theorem dY_findMinutes_29 : decode mY_findMinutes.2.1 29 = .ok (.aload_n 0, 1) := by decide +kernel
theorem dY_findMinutes_30 : decode mY_findMinutes.2.1 30 = .ok (.invokevirtual 272, 3) := by decide +kernel
theorem dY_findMinutes_33 : decode mY_findMinutes.2.1 33 = .ok (.if_icmp .ge 38, 3) := by decide +kernel
theorem dY_findMinutes_36 : decode mY_findMinutes.2.1 36 = .ok (.aload_n 0, 1) := by decide +kernel
theorem dY_findMinutes_37 : decode mY_findMinutes.2.1 37 = .ok (.iload_n 1, 1) := by decide +kernel
theorem dY_findMinutes_38 : decode mY_findMinutes.2.1 38 = .ok (.invokevirtual 268, 3) := by decide +kernel
theorem dY_findMinutes_41 : decode mY_findMinutes.2.1 41 = .ok (.aload_n 0, 1) := by decide +kernel
theorem dY_findMinutes_42 : decode mY_findMinutes.2.1 42 = .ok (.invokevirtual 275, 3) := by decide +kernel
theorem dY_findMinutes_45 : decode mY_findMinutes.2.1 45 = .ok (.ifCond .lt 20, 3) := by decide +kernel
theorem dY_findMinutes_48 : decode mY_findMinutes.2.1 48 = .ok (.aload_n 0, 1) := by decide +kernel
theorem dY_findMinutes_49 : decode mY_findMinutes.2.1 49 = .ok (.getfield 81, 3) := by decide +kernel
theorem dY_findMinutes_52 : decode mY_findMinutes.2.1 52 = .ok (.aload_n 0, 1) := by decide +kernel
theorem dY_findMinutes_53 : decode mY_findMinutes.2.1 53 = .ok (.invokevirtual 275, 3) := by decide +kernel
theorem dY_findMinutes_56 : decode mY_findMinutes.2.1 56 = .ok (.dup2, 1) := by decide +kernel
theorem dY_findMinutes_57 : decode mY_findMinutes.2.1 57 = .ok (.laload, 1) := by decide +kernel
theorem dY_findMinutes_58 : decode mY_findMinutes.2.1 58 = .ok (.aload_n 0, 1) := by decide +kernel
theorem dY_findMinutes_59 : decode mY_findMinutes.2.1 59 = .ok (.iload_n 1, 1) := by decide +kernel
theorem dY_findMinutes_60 : decode mY_findMinutes.2.1 60 = .ok (.invokevirtual 278, 3) := by decide +kernel
theorem dY_findMinutes_63 : decode mY_findMinutes.2.1 63 = .ok (.ladd, 1) := by decide +kernel
theorem dY_findMinutes_64 : decode mY_findMinutes.2.1 64 = .ok (.lastore, 1) := by decide +kernel
theorem dY_findMinutes_65 : decode mY_findMinutes.2.1 65 = .ok (.iinc 1 1, 3) := by decide +kernel
theorem dY_findMinutes_68 : decode mY_findMinutes.2.1 68 = .ok (.goto (-40), 3) := by decide +kernel
theorem dY_findMinutes_71 : decode mY_findMinutes.2.1 71 = .ok (.return_, 1) := by decide +kernel
/- Y_findMinutes: ()V -/
set_option maxRecDepth 4000 in
theorem wY_findMinutes {X : Cx} (sw : Bool) (m : Mem) (Q : Int → Bool → Mem → Prop) (h : M2 X 5 mY_layTwelfths [vr 84] sw m (fun z1 sw1 m1 => R2 X 6 mY_findMinutes 6 [(0, vr 84), (1, vi 0)] [] sw1 m1 Q)) : M2 X 6 mY_findMinutes [vr 84] sw m Q := by
  refine Mt.of pY_findMinutes (Nat.le_of_ble_eq_true rfl) (Nat.le_refl _) ?_
  show R2 X 6 mY_findMinutes 0 [(0, vr 84)] [] sw m Q
  refine r_aload_n 0 0 rfl dY_findMinutes_0 rfl ?_
  refine r_callVv 12 [] rfl c84 rfl rfl oY_layTwelfths iY_layTwelfths sY_layTwelfths yY_284 (by decide) ⟨Nat.le_refl _, Nat.le_refl _⟩ rfl (Nat.le_of_ble_eq_true rfl) dY_findMinutes_1 h (fun z1 r1 m1 h => ?_)
  obtain ⟨sw1, rfl, h⟩ := h
  refine r_iconst dY_findMinutes_4 ?_
  refine r_istore_n 1 (by decide) dY_findMinutes_5 rfl ?_
  refine r_sub [1, 0] ?_ h
  rfl
set_option maxRecDepth 4000 in
theorem wY_findMinutes_6 {X : Cx} (x1 : Int) (sw : Bool) (m : Mem) (Q : Int → Bool → Mem → Prop) (h : ((540 < w32 x1 → R2 X 6 mY_findMinutes 28 [(0, vr 84), (1, vi 0)] [] sw m Q) ∧ (¬ (540 < w32 x1) → ((0 ≤ w32 x1 ∧ w32 x1 < 541) ∧ R2 X 6 mY_findMinutes 6 [(0, vr 84), (1, vi (x1 + 1))] [] sw (upm m 106 (w32 x1) 0) Q)))) : R2 X 6 mY_findMinutes 6 [(0, vr 84), (1, vi x1)] [] sw m Q := by
  refine r_iload_n 1 1 rfl dY_findMinutes_6 rfl ?_
  refine r_sipush (by decide) dY_findMinutes_7 ?_
  refine r_ifc_gt (tgt := 26) dY_findMinutes_10 (by decide) (fun hc => ?_) (fun hc => ?_)
  · replace h := h.1 hc
    refine r_iconst dY_findMinutes_26 ?_
    refine r_istore_n 1 (by decide) dY_findMinutes_27 rfl ?_
    refine r_sub [1, 0] ?_ h
    rfl
  · replace h := h.2 hc
    refine r_aload_n 0 0 rfl dY_findMinutes_13 rfl ?_
    refine q_getR 34 c84 fY_81 rfl rfl (g84_34 sw) (by decide) dY_findMinutes_14 ?_
    refine r_iload_n 1 1 rfl dY_findMinutes_17 rfl ?_
    refine r_lconst dY_findMinutes_18 ?_
    refine q_lastore (w32 x1) rfl c106 h.1 dY_findMinutes_19 ?_
    replace h := h.2
    refine r_iinc 1 1 rfl (by decide) dY_findMinutes_20 ?_
    refine r_goto (tgt := 6) dY_findMinutes_23 (by decide) ?_
    refine r_sub [1, 0] ?_ h
    rfl
set_option maxRecDepth 4000 in
theorem wY_findMinutes_28 {X : Cx} (x1 : Int) (sw : Bool) (m : Mem) (Q : Int → Bool → Mem → Prop) (h : M2 X 1 mY_sets [vr 84] sw m (fun z1 sw1 m1 => ((w32 z1 ≤ w32 x1 → Q 0 sw1 m1) ∧ (¬ (w32 z1 ≤ w32 x1) → M2 X 2 mY_goMorning [vr 84, vi x1] sw1 m1 (fun z2 sw2 m2 => M2 X 1 mY_endNow [vr 84] sw2 m2 (fun z3 sw3 m3 => ((w32 z3 < 0 → R2 X 6 mY_findMinutes 28 [(0, vr 84), (1, vi (x1 + 1))] [] sw3 m3 Q) ∧ (¬ (w32 z3 < 0) → M2 X 1 mY_endNow [vr 84] sw3 m3 (fun z4 sw4 m4 => ((0 ≤ w32 z4 ∧ w32 z4 < 541) ∧ M2 X 1 mY_oddsOf [vr 84, vi x1] sw4 m4 (fun z5 sw5 m5 => ((0 ≤ w32 z4 ∧ w32 z4 < 541) ∧ R2 X 6 mY_findMinutes 28 [(0, vr 84), (1, vi (x1 + 1))] [] sw5 (upm m5 106 (w32 z4) ((m4 106 (w32 z4)) + z5)) Q)))))))))))) : R2 X 6 mY_findMinutes 28 [(0, vr 84), (1, vi x1)] [] sw m Q := by
  refine r_iload_n 1 1 rfl dY_findMinutes_28 rfl ?_
  refine r_aload_n 0 0 rfl dY_findMinutes_29 rfl ?_
  refine r_callVi 12 [] rfl c84 rfl rfl oY_sets iY_sets sY_sets yY_272 (by decide) ⟨Nat.le_refl _, Nat.le_refl _⟩ rfl (Nat.le_of_ble_eq_true rfl) dY_findMinutes_30 h (fun z1 r1 m1 h => ?_)
  obtain ⟨sw1, rfl, h⟩ := h
  refine r_ifc_ge (tgt := 71) dY_findMinutes_33 (by decide) (fun hc => ?_) (fun hc => ?_)
  · replace h := h.1 hc
    exact q_vret rfl h dY_findMinutes_71
  · replace h := h.2 hc
    refine r_aload_n 0 0 rfl dY_findMinutes_36 rfl ?_
    refine r_iload_n 1 1 rfl dY_findMinutes_37 rfl ?_
    refine r_callVv 12 [_] rfl c84 rfl rfl oY_goMorning iY_goMorning sY_goMorning yY_268 (by decide) ⟨Nat.le_refl _, Nat.le_refl _⟩ rfl (Nat.le_of_ble_eq_true rfl) dY_findMinutes_38 h (fun z2 r2 m2 h => ?_)
    obtain ⟨sw2, rfl, h⟩ := h
    refine r_aload_n 0 0 rfl dY_findMinutes_41 rfl ?_
    refine r_callVi 12 [] rfl c84 rfl rfl oY_endNow iY_endNow sY_endNow yY_275 (by decide) ⟨Nat.le_refl _, Nat.le_refl _⟩ rfl (Nat.le_of_ble_eq_true rfl) dY_findMinutes_42 h (fun z3 r3 m3 h => ?_)
    obtain ⟨sw3, rfl, h⟩ := h
    refine r_if_lt (tgt := 65) dY_findMinutes_45 (by decide) (fun hc => ?_) (fun hc => ?_)
    · replace h := h.1 hc
      refine r_iinc 1 1 rfl (by decide) dY_findMinutes_65 ?_
      refine r_goto (tgt := 28) dY_findMinutes_68 (by decide) ?_
      refine r_sub [1, 0] ?_ h
      rfl
    · replace h := h.2 hc
      refine r_aload_n 0 0 rfl dY_findMinutes_48 rfl ?_
      refine q_getR 34 c84 fY_81 rfl rfl (g84_34 sw3) (by decide) dY_findMinutes_49 ?_
      refine r_aload_n 0 0 rfl dY_findMinutes_52 rfl ?_
      refine r_callVi 12 [] rfl c84 rfl rfl oY_endNow iY_endNow sY_endNow yY_275 (by decide) ⟨Nat.le_refl _, Nat.le_refl _⟩ rfl (Nat.le_of_ble_eq_true rfl) dY_findMinutes_53 h (fun z4 r4 m4 h => ?_)
      obtain ⟨sw4, rfl, h⟩ := h
      refine r_dup2 (fun q => by cases q) (fun q => by cases q) dY_findMinutes_56 ?_
      refine q_laload (w32 z4) rfl c106 h.1 dY_findMinutes_57 ?_
      replace h := h.2
      refine r_aload_n 0 0 rfl dY_findMinutes_58 rfl ?_
      refine r_iload_n 1 1 rfl dY_findMinutes_59 rfl ?_
      refine r_callVl 12 [_] rfl c84 rfl rfl oY_oddsOf iY_oddsOf sY_oddsOf yY_278 (by decide) ⟨Nat.le_refl _, Nat.le_refl _⟩ rfl (Nat.le_of_ble_eq_true rfl) dY_findMinutes_60 h (fun z5 r5 m5 h => ?_)
      obtain ⟨sw5, rfl, h⟩ := h
      refine r_ladd dY_findMinutes_63 ?_
      refine q_lastore (w32 z4) rfl c106 h.1 dY_findMinutes_64 ?_
      replace h := h.2
      refine r_iinc 1 1 rfl (by decide) dY_findMinutes_65 ?_
      refine r_goto (tgt := 28) dY_findMinutes_68 (by decide) ?_
      refine r_sub [1, 0] ?_ h
      rfl
theorem dY_worthAt_0 : decode mY_worthAt.2.1 0 = .ok (.lconst 0, 1) := by decide +kernel
theorem dY_worthAt_1 : decode mY_worthAt.2.1 1 = .ok (.lstore_n 2, 1) := by decide +kernel
theorem dY_worthAt_2 : decode mY_worthAt.2.1 2 = .ok (.iconst 0, 1) := by decide +kernel
theorem dY_worthAt_3 : decode mY_worthAt.2.1 3 = .ok (.istore 4, 2) := by decide +kernel
theorem dY_worthAt_5 : decode mY_worthAt.2.1 5 = .ok (.iload 4, 2) := by decide +kernel
theorem dY_worthAt_7 : decode mY_worthAt.2.1 7 = .ok (.sipush 540, 3) := by decide +kernel
theorem dY_worthAt_10 : decode mY_worthAt.2.1 10 = .ok (.if_icmp .gt 75, 3) := by decide +kernel
theorem dY_worthAt_13 : decode mY_worthAt.2.1 13 = .ok (.iload 4, 2) := by decide +kernel
theorem dY_worthAt_15 : decode mY_worthAt.2.1 15 = .ok (.iload_n 1, 1) := by decide +kernel
theorem dY_worthAt_16 : decode mY_worthAt.2.1 16 = .ok (.iadd, 1) := by decide +kernel
theorem dY_worthAt_17 : decode mY_worthAt.2.1 17 = .ok (.aload_n 0, 1) := by decide +kernel
theorem dY_worthAt_18 : decode mY_worthAt.2.1 18 = .ok (.getfield 30, 3) := by decide +kernel
theorem dY_worthAt_21 : decode mY_worthAt.2.1 21 = .ok (.iconst 2, 1) := by decide +kernel
theorem dY_worthAt_22 : decode mY_worthAt.2.1 22 = .ok (.iaload, 1) := by decide +kernel
theorem dY_worthAt_23 : decode mY_worthAt.2.1 23 = .ok (.isub, 1) := by decide +kernel
theorem dY_worthAt_24 : decode mY_worthAt.2.1 24 = .ok (.istore 5, 2) := by decide +kernel
theorem dY_worthAt_26 : decode mY_worthAt.2.1 26 = .ok (.iload 5, 2) := by decide +kernel
theorem dY_worthAt_28 : decode mY_worthAt.2.1 28 = .ok (.ifCond .ge 18, 3) := by decide +kernel
theorem dY_worthAt_31 : decode mY_worthAt.2.1 31 = .ok (.bipush 100, 2) := by decide +kernel
theorem dY_worthAt_33 : decode mY_worthAt.2.1 33 = .ok (.aload_n 0, 1) := by decide +kernel
theorem dY_worthAt_34 : decode mY_worthAt.2.1 34 = .ok (.getfield 30, 3) := by decide +kernel
theorem dY_worthAt_37 : decode mY_worthAt.2.1 37 = .ok (.iconst 3, 1) := by decide +kernel
theorem dY_worthAt_38 : decode mY_worthAt.2.1 38 = .ok (.iaload, 1) := by decide +kernel
theorem dY_worthAt_39 : decode mY_worthAt.2.1 39 = .ok (.iload 5, 2) := by decide +kernel
theorem dY_worthAt_41 : decode mY_worthAt.2.1 41 = .ok (.imul, 1) := by decide +kernel
theorem dY_worthAt_42 : decode mY_worthAt.2.1 42 = .ok (.iadd, 1) := by decide +kernel
theorem dY_worthAt_43 : decode mY_worthAt.2.1 43 = .ok (.goto 15, 3) := by decide +kernel
theorem dY_worthAt_46 : decode mY_worthAt.2.1 46 = .ok (.bipush 100, 2) := by decide +kernel
theorem dY_worthAt_48 : decode mY_worthAt.2.1 48 = .ok (.aload_n 0, 1) := by decide +kernel
theorem dY_worthAt_49 : decode mY_worthAt.2.1 49 = .ok (.getfield 30, 3) := by decide +kernel
theorem dY_worthAt_52 : decode mY_worthAt.2.1 52 = .ok (.iconst 4, 1) := by decide +kernel
theorem dY_worthAt_53 : decode mY_worthAt.2.1 53 = .ok (.iaload, 1) := by decide +kernel
theorem dY_worthAt_54 : decode mY_worthAt.2.1 54 = .ok (.iload 5, 2) := by decide +kernel
theorem dY_worthAt_56 : decode mY_worthAt.2.1 56 = .ok (.imul, 1) := by decide +kernel
theorem dY_worthAt_57 : decode mY_worthAt.2.1 57 = .ok (.isub, 1) := by decide +kernel
theorem dY_worthAt_58 : decode mY_worthAt.2.1 58 = .ok (.istore 6, 2) := by decide +kernel
theorem dY_worthAt_60 : decode mY_worthAt.2.1 60 = .ok (.iload 6, 2) := by decide +kernel
theorem dY_worthAt_62 : decode mY_worthAt.2.1 62 = .ok (.ifCond .le 17, 3) := by decide +kernel
theorem dY_worthAt_65 : decode mY_worthAt.2.1 65 = .ok (.lload_n 2, 1) := by decide +kernel
theorem dY_worthAt_66 : decode mY_worthAt.2.1 66 = .ok (.aload_n 0, 1) := by decide +kernel
theorem dY_worthAt_67 : decode mY_worthAt.2.1 67 = .ok (.getfield 81, 3) := by decide +kernel
theorem dY_worthAt_70 : decode mY_worthAt.2.1 70 = .ok (.iload 4, 2) := by decide +kernel
theorem dY_worthAt_72 : decode mY_worthAt.2.1 72 = .ok (.laload, 1) := by decide +kernel
theorem dY_worthAt_73 : decode mY_worthAt.2.1 73 = .ok (.iload 6, 2) := by decide +kernel
theorem dY_worthAt_75 : decode mY_worthAt.2.1 75 = .ok (.i2l, 1) := by decide +kernel
theorem dY_worthAt_76 : decode mY_worthAt.2.1 76 = .ok (.lmul, 1) := by decide +kernel
theorem dY_worthAt_77 : decode mY_worthAt.2.1 77 = .ok (.ladd, 1) := by decide +kernel
theorem dY_worthAt_78 : decode mY_worthAt.2.1 78 = .ok (.lstore_n 2, 1) := by decide +kernel
theorem dY_worthAt_79 : decode mY_worthAt.2.1 79 = .ok (.iinc 4 1, 3) := by decide +kernel
theorem dY_worthAt_82 : decode mY_worthAt.2.1 82 = .ok (.goto (-77), 3) := by decide +kernel
theorem dY_worthAt_85 : decode mY_worthAt.2.1 85 = .ok (.lload_n 2, 1) := by decide +kernel
theorem dY_worthAt_86 : decode mY_worthAt.2.1 86 = .ok (.ldc2_w 301, 3) := by decide +kernel
theorem dY_worthAt_89 : decode mY_worthAt.2.1 89 = .ok (.lmul, 1) := by decide +kernel
theorem dY_worthAt_90 : decode mY_worthAt.2.1 90 = .ok (.aload_n 0, 1) := by decide +kernel
theorem dY_worthAt_91 : decode mY_worthAt.2.1 91 = .ok (.invokevirtual 293, 3) := by decide +kernel
theorem dY_worthAt_94 : decode mY_worthAt.2.1 94 = .ok (.ldiv, 1) := by decide +kernel
theorem dY_worthAt_95 : decode mY_worthAt.2.1 95 = .ok (.l2i, 1) := by decide +kernel
theorem dY_worthAt_96 : decode mY_worthAt.2.1 96 = .ok (.ireturn, 1) := by decide +kernel
/- Y_worthAt: (I)I -/
set_option maxRecDepth 4000 in
theorem wY_worthAt {X : Cx} (a1 : Int) (sw : Bool) (m : Mem) (Q : Int → Bool → Mem → Prop) (h : R2 X 2 mY_worthAt 5 [(0, vr 84), (1, vi a1), (2, vl 0), (4, vi 0)] [] sw m Q) : M2 X 2 mY_worthAt [vr 84, vi a1] sw m Q := by
  refine Mt.of pY_worthAt (Nat.le_of_ble_eq_true rfl) (Nat.le_refl _) ?_
  show R2 X 2 mY_worthAt 0 [(0, vr 84), (1, vi a1)] [] sw m Q
  refine r_lconst dY_worthAt_0 ?_
  refine r_lstore_n 2 (by decide) dY_worthAt_1 rfl ?_
  refine r_iconst dY_worthAt_2 ?_
  refine r_istore 4 (by decide) dY_worthAt_3 ?_
  refine r_sub [2, 3, 1, 0] ?_ h
  rfl
set_option maxRecDepth 4000 in
theorem wY_worthAt_5 {X : Cx} (x1 x2 x4 : Int) (sw : Bool) (m : Mem) (Q : Int → Bool → Mem → Prop) (h : ((540 < w32 x4 → M2 X 1 mY_whole [vr 84] sw m (fun z1 sw1 m1 => (¬ w64 z1 = 0 ∧ Q (zldiv (x2 * 1000) z1) sw1 m1))) ∧ (¬ (540 < w32 x4) → ((0 ≤ w32 ((x4 + x1) - (m 91 2)) → ((w32 (100 - ((m 91 4) * ((x4 + x1) - (m 91 2)))) ≤ 0 → R2 X 2 mY_worthAt 5 [(0, vr 84), (1, vi x1), (2, vl x2), (4, vi (x4 + 1))] [] sw m Q) ∧ (¬ (w32 (100 - ((m 91 4) * ((x4 + x1) - (m 91 2)))) ≤ 0) → ((0 ≤ w32 x4 ∧ w32 x4 < 541) ∧ R2 X 2 mY_worthAt 5 [(0, vr 84), (1, vi x1), (2, vl (x2 + ((m 106 (w32 x4)) * w32 (100 - ((m 91 4) * ((x4 + x1) - (m 91 2))))))), (4, vi (x4 + 1))] [] sw m Q)))) ∧ (¬ (0 ≤ w32 ((x4 + x1) - (m 91 2))) → ((w32 (100 + ((m 91 3) * ((x4 + x1) - (m 91 2)))) ≤ 0 → R2 X 2 mY_worthAt 5 [(0, vr 84), (1, vi x1), (2, vl x2), (4, vi (x4 + 1))] [] sw m Q) ∧ (¬ (w32 (100 + ((m 91 3) * ((x4 + x1) - (m 91 2)))) ≤ 0) → ((0 ≤ w32 x4 ∧ w32 x4 < 541) ∧ R2 X 2 mY_worthAt 5 [(0, vr 84), (1, vi x1), (2, vl (x2 + ((m 106 (w32 x4)) * w32 (100 + ((m 91 3) * ((x4 + x1) - (m 91 2))))))), (4, vi (x4 + 1))] [] sw m Q)))))))) : R2 X 2 mY_worthAt 5 [(0, vr 84), (1, vi x1), (2, vl x2), (4, vi x4)] [] sw m Q := by
  refine r_iload 4 3 rfl dY_worthAt_5 ?_
  refine r_sipush (by decide) dY_worthAt_7 ?_
  refine r_ifc_gt (tgt := 85) dY_worthAt_10 (by decide) (fun hc => ?_) (fun hc => ?_)
  · replace h := h.1 hc
    refine r_lload_n 2 2 rfl dY_worthAt_85 rfl ?_
    refine r_ldc2 (z := 1000) dY_worthAt_86 kY_301 ?_
    refine r_lmul dY_worthAt_89 ?_
    refine r_aload_n 0 0 rfl dY_worthAt_90 rfl ?_
    refine r_callVl 12 [] rfl c84 rfl rfl oY_whole iY_whole sY_whole yY_293 (by decide) ⟨Nat.le_refl _, Nat.le_refl _⟩ rfl (Nat.le_of_ble_eq_true rfl) dY_worthAt_91 h (fun z1 r1 m1 h => ?_)
    obtain ⟨sw1, rfl, h⟩ := h
    refine r_ldiv h.1 dY_worthAt_94 ?_
    replace h := h.2
    refine r_l2i dY_worthAt_95 ?_
    exact q_iret rfl h dY_worthAt_96
  · replace h := h.2 hc
    refine r_iload 4 3 rfl dY_worthAt_13 ?_
    refine r_iload_n 1 1 rfl dY_worthAt_15 rfl ?_
    refine r_iadd dY_worthAt_16 ?_
    refine r_aload_n 0 0 rfl dY_worthAt_17 rfl ?_
    refine q_getR 8 c84 fY_30 rfl rfl (g84_8 sw) (by decide) dY_worthAt_18 ?_
    refine r_iconst dY_worthAt_21 ?_
    refine q_iaload 2 rfl c91 (by decide) dY_worthAt_22 ?_
    refine r_isub dY_worthAt_23 ?_
    refine r_istore 5 (by decide) dY_worthAt_24 ?_
    refine r_iload 5 0 rfl dY_worthAt_26 ?_
    refine r_if_ge (tgt := 46) dY_worthAt_28 (by decide) (fun hc => ?_) (fun hc => ?_)
    · replace h := h.1 hc
      refine r_bipush (by decide) dY_worthAt_46 ?_
      refine r_aload_n 0 1 rfl dY_worthAt_48 rfl ?_
      refine q_getR 8 c84 fY_30 rfl rfl (g84_8 sw) (by decide) dY_worthAt_49 ?_
      refine r_iconst dY_worthAt_52 ?_
      refine q_iaload 4 rfl c91 (by decide) dY_worthAt_53 ?_
      refine r_iload 5 0 rfl dY_worthAt_54 ?_
      refine r_imul dY_worthAt_56 ?_
      refine r_isub dY_worthAt_57 ?_
      refine r_istore 6 (by decide) dY_worthAt_58 ?_
      refine r_iload 6 0 rfl dY_worthAt_60 ?_
      refine r_if_le (tgt := 79) dY_worthAt_62 (by decide) (fun hc => ?_) (fun hc => ?_)
      · replace h := h.1 hc
        refine r_iinc 4 5 rfl (by decide) dY_worthAt_79 ?_
        refine r_goto (tgt := 5) dY_worthAt_82 (by decide) ?_
        refine r_sub [3, 4, 5, 0] ?_ h
        rfl
      · replace h := h.2 hc
        refine r_lload_n 2 4 rfl dY_worthAt_65 rfl ?_
        refine r_aload_n 0 2 rfl dY_worthAt_66 rfl ?_
        refine q_getR 34 c84 fY_81 rfl rfl (g84_34 sw) (by decide) dY_worthAt_67 ?_
        refine r_iload 4 5 rfl dY_worthAt_70 ?_
        refine q_laload (w32 x4) rfl c106 h.1 dY_worthAt_72 ?_
        replace h := h.2
        refine r_iload 6 0 rfl dY_worthAt_73 ?_
        refine r_i2l dY_worthAt_75 ?_
        refine r_lmul dY_worthAt_76 ?_
        refine r_ladd dY_worthAt_77 ?_
        refine r_lstore_n 2 (by decide) dY_worthAt_78 rfl ?_
        refine r_iinc 4 5 rfl (by decide) dY_worthAt_79 ?_
        refine r_goto (tgt := 5) dY_worthAt_82 (by decide) ?_
        refine r_sub [4, 5, 1, 0] ?_ h
        rfl
    · replace h := h.2 hc
      refine r_bipush (by decide) dY_worthAt_31 ?_
      refine r_aload_n 0 1 rfl dY_worthAt_33 rfl ?_
      refine q_getR 8 c84 fY_30 rfl rfl (g84_8 sw) (by decide) dY_worthAt_34 ?_
      refine r_iconst dY_worthAt_37 ?_
      refine q_iaload 3 rfl c91 (by decide) dY_worthAt_38 ?_
      refine r_iload 5 0 rfl dY_worthAt_39 ?_
      refine r_imul dY_worthAt_41 ?_
      refine r_iadd dY_worthAt_42 ?_
      refine r_goto (tgt := 58) dY_worthAt_43 (by decide) ?_
      refine r_istore 6 (by decide) dY_worthAt_58 ?_
      refine r_iload 6 0 rfl dY_worthAt_60 ?_
      refine r_if_le (tgt := 79) dY_worthAt_62 (by decide) (fun hc => ?_) (fun hc => ?_)
      · replace h := h.1 hc
        refine r_iinc 4 5 rfl (by decide) dY_worthAt_79 ?_
        refine r_goto (tgt := 5) dY_worthAt_82 (by decide) ?_
        refine r_sub [3, 4, 5, 0] ?_ h
        rfl
      · replace h := h.2 hc
        refine r_lload_n 2 4 rfl dY_worthAt_65 rfl ?_
        refine r_aload_n 0 2 rfl dY_worthAt_66 rfl ?_
        refine q_getR 34 c84 fY_81 rfl rfl (g84_34 sw) (by decide) dY_worthAt_67 ?_
        refine r_iload 4 5 rfl dY_worthAt_70 ?_
        refine q_laload (w32 x4) rfl c106 h.1 dY_worthAt_72 ?_
        replace h := h.2
        refine r_iload 6 0 rfl dY_worthAt_73 ?_
        refine r_i2l dY_worthAt_75 ?_
        refine r_lmul dY_worthAt_76 ?_
        refine r_ladd dY_worthAt_77 ?_
        refine r_lstore_n 2 (by decide) dY_worthAt_78 rfl ?_
        refine r_iinc 4 5 rfl (by decide) dY_worthAt_79 ?_
        refine r_goto (tgt := 5) dY_worthAt_82 (by decide) ?_
        refine r_sub [4, 5, 1, 0] ?_ h
        rfl
theorem dY_worth_0 : decode mY_worth.2.1 0 = .ok (.iload_n 1, 1) := by decide +kernel
theorem dY_worth_1 : decode mY_worth.2.1 1 = .ok (.sipush (-300), 3) := by decide +kernel
theorem dY_worth_4 : decode mY_worth.2.1 4 = .ok (.sipush 300, 3) := by decide +kernel
theorem dY_worth_7 : decode mY_worth.2.1 7 = .ok (.invokestatic 133, 3) := by decide +kernel
theorem dY_worth_10 : decode mY_worth.2.1 10 = .ok (.ifCond .ne 7, 3) := by decide +kernel
theorem dY_worth_13 : decode mY_worth.2.1 13 = .ok (.ldc_w 303, 3) := by decide +kernel
theorem dY_worth_16 : decode mY_worth.2.1 16 = .ok (.ireturn, 1) := by decide +kernel
theorem dY_worth_17 : decode mY_worth.2.1 17 = .ok (.aload_n 0, 1) := by decide +kernel
theorem dY_worth_18 : decode mY_worth.2.1 18 = .ok (.invokevirtual 304, 3) := by decide +kernel
theorem dY_worth_21 : decode mY_worth.2.1 21 = .ok (.aload_n 0, 1) := by decide +kernel
theorem dY_worth_22 : decode mY_worth.2.1 22 = .ok (.iload_n 1, 1) := by decide +kernel
theorem dY_worth_23 : decode mY_worth.2.1 23 = .ok (.invokevirtual 307, 3) := by decide +kernel
theorem dY_worth_26 : decode mY_worth.2.1 26 = .ok (.ireturn, 1) := by decide +kernel
/- Y_worth: (I)I -/
set_option maxRecDepth 4000 in
theorem wY_worth {X : Cx} (a1 : Int) (sw : Bool) (m : Mem) (Q : Int → Bool → Mem → Prop) (h : M2 X 1 mY_in [vi a1, vi (-300), vi 300] sw m (fun z1 sw1 m1 => ((¬ w32 z1 = 0 → M2 X 6 mY_findMinutes [vr 84] sw1 m1 (fun z2 sw2 m2 => M2 X 2 mY_worthAt [vr 84, vi a1] sw2 m2 (fun z3 sw3 m3 => Q z3 sw3 m3))) ∧ (¬ (¬ w32 z1 = 0) → Q (-2000000000) sw1 m1)))) : M2 X 7 mY_worth [vr 84, vi a1] sw m Q := by
  refine Mt.of pY_worth (Nat.le_of_ble_eq_true rfl) (Nat.le_refl _) ?_
  show R2 X 7 mY_worth 0 [(0, vr 84), (1, vi a1)] [] sw m Q
  refine r_iload_n 1 1 rfl dY_worth_0 rfl ?_
  refine r_sipush (by decide) dY_worth_1 ?_
  refine r_sipush (by decide) dY_worth_4 ?_
  refine r_callSb [_, _, _] rfl oY_in iY_in yY_133 (by decide) ⟨Nat.le_refl _, Nat.le_refl _⟩ rfl (Nat.le_of_ble_eq_true rfl) dY_worth_7 h (fun z1 r1 m1 h => ?_)
  obtain ⟨sw1, rfl, h⟩ := h
  refine r_if_ne (tgt := 17) dY_worth_10 (by decide) (fun hc => ?_) (fun hc => ?_)
  · replace h := h.1 hc
    refine r_aload_n 0 0 rfl dY_worth_17 rfl ?_
    refine r_callVv 12 [] rfl c84 rfl rfl oY_findMinutes iY_findMinutes sY_findMinutes yY_304 (by decide) ⟨Nat.le_refl _, Nat.le_refl _⟩ rfl (Nat.le_of_ble_eq_true rfl) dY_worth_18 h (fun z2 r2 m2 h => ?_)
    obtain ⟨sw2, rfl, h⟩ := h
    refine r_aload_n 0 0 rfl dY_worth_21 rfl ?_
    refine r_iload_n 1 1 rfl dY_worth_22 rfl ?_
    refine r_callVi 12 [_] rfl c84 rfl rfl oY_worthAt iY_worthAt sY_worthAt yY_307 (by decide) ⟨Nat.le_refl _, Nat.le_refl _⟩ rfl (Nat.le_of_ble_eq_true rfl) dY_worth_23 h (fun z3 r3 m3 h => ?_)
    obtain ⟨sw3, rfl, h⟩ := h
    exact q_iret rfl h dY_worth_26
  · replace h := h.2 hc
    refine r_ldcw (z := (-2000000000)) dY_worth_13 kY_303 ?_
    exact q_iret rfl h dY_worth_16
theorem dY_begin_0 : decode mY_begin.2.1 0 = .ok (.iload_n 1, 1) := by decide +kernel
theorem dY_begin_1 : decode mY_begin.2.1 1 = .ok (.iconst 0, 1) := by decide +kernel
theorem dY_begin_2 : decode mY_begin.2.1 2 = .ok (.iconst 1, 1) := by decide +kernel
theorem dY_begin_3 : decode mY_begin.2.1 3 = .ok (.invokestatic 133, 3) := by decide +kernel
theorem dY_begin_6 : decode mY_begin.2.1 6 = .ok (.ifCond .ne 7, 3) := by decide +kernel
theorem dY_begin_9 : decode mY_begin.2.1 9 = .ok (.ldc_w 303, 3) := by decide +kernel
theorem dY_begin_12 : decode mY_begin.2.1 12 = .ok (.ireturn, 1) := by decide +kernel
theorem dY_begin_13 : decode mY_begin.2.1 13 = .ok (.aload_n 0, 1) := by decide +kernel
theorem dY_begin_14 : decode mY_begin.2.1 14 = .ok (.invokevirtual 304, 3) := by decide +kernel
theorem dY_begin_17 : decode mY_begin.2.1 17 = .ok (.sipush (-300), 3) := by decide +kernel
theorem dY_begin_20 : decode mY_begin.2.1 20 = .ok (.istore_n 2, 1) := by decide +kernel
theorem dY_begin_21 : decode mY_begin.2.1 21 = .ok (.aload_n 0, 1) := by decide +kernel
theorem dY_begin_22 : decode mY_begin.2.1 22 = .ok (.iload_n 2, 1) := by decide +kernel
theorem dY_begin_23 : decode mY_begin.2.1 23 = .ok (.invokevirtual 307, 3) := by decide +kernel
theorem dY_begin_26 : decode mY_begin.2.1 26 = .ok (.istore_n 3, 1) := by decide +kernel
theorem dY_begin_27 : decode mY_begin.2.1 27 = .ok (.sipush (-299), 3) := by decide +kernel
theorem dY_begin_30 : decode mY_begin.2.1 30 = .ok (.istore 4, 2) := by decide +kernel
theorem dY_begin_32 : decode mY_begin.2.1 32 = .ok (.iload 4, 2) := by decide +kernel
theorem dY_begin_34 : decode mY_begin.2.1 34 = .ok (.sipush 300, 3) := by decide +kernel
theorem dY_begin_37 : decode mY_begin.2.1 37 = .ok (.if_icmp .gt 32, 3) := by decide +kernel
theorem dY_begin_40 : decode mY_begin.2.1 40 = .ok (.aload_n 0, 1) := by decide +kernel
theorem dY_begin_41 : decode mY_begin.2.1 41 = .ok (.iload 4, 2) := by decide +kernel
theorem dY_begin_43 : decode mY_begin.2.1 43 = .ok (.invokevirtual 307, 3) := by decide +kernel
theorem dY_begin_46 : decode mY_begin.2.1 46 = .ok (.istore 5, 2) := by decide +kernel
theorem dY_begin_48 : decode mY_begin.2.1 48 = .ok (.iload 5, 2) := by decide +kernel
theorem dY_begin_50 : decode mY_begin.2.1 50 = .ok (.iload_n 3, 1) := by decide +kernel
theorem dY_begin_51 : decode mY_begin.2.1 51 = .ok (.if_icmp .gt 6, 3) := by decide +kernel
theorem dY_begin_54 : decode mY_begin.2.1 54 = .ok (.goto 9, 3) := by decide +kernel
theorem dY_begin_57 : decode mY_begin.2.1 57 = .ok (.iload 4, 2) := by decide +kernel
theorem dY_begin_59 : decode mY_begin.2.1 59 = .ok (.istore_n 2, 1) := by decide +kernel
theorem dY_begin_60 : decode mY_begin.2.1 60 = .ok (.iload 5, 2) := by decide +kernel
theorem dY_begin_62 : decode mY_begin.2.1 62 = .ok (.istore_n 3, 1) := by decide +kernel
theorem dY_begin_63 : decode mY_begin.2.1 63 = .ok (.iinc 4 1, 3) := by decide +kernel
theorem dY_begin_66 : decode mY_begin.2.1 66 = .ok (.goto (-34), 3) := by decide +kernel
theorem dY_begin_69 : decode mY_begin.2.1 69 = .ok (.iload_n 1, 1) := by decide +kernel
theorem dY_begin_70 : decode mY_begin.2.1 70 = .ok (.ifCond .ne 7, 3) := by decide +kernel
theorem dY_begin_73 : decode mY_begin.2.1 73 = .ok (.iload_n 2, 1) := by decide +kernel
theorem dY_begin_74 : decode mY_begin.2.1 74 = .ok (.goto 4, 3) := by decide +kernel
theorem dY_begin_77 : decode mY_begin.2.1 77 = .ok (.iload_n 3, 1) := by decide +kernel
theorem dY_begin_78 : decode mY_begin.2.1 78 = .ok (.ireturn, 1) := by decide +kernel
/- Y_begin: (I)I -/
set_option maxRecDepth 4000 in
theorem wY_begin {X : Cx} (a1 : Int) (sw : Bool) (m : Mem) (Q : Int → Bool → Mem → Prop) (h : M2 X 1 mY_in [vi a1, vi 0, vi 1] sw m (fun z1 sw1 m1 => ((¬ w32 z1 = 0 → M2 X 6 mY_findMinutes [vr 84] sw1 m1 (fun z2 sw2 m2 => M2 X 2 mY_worthAt [vr 84, vi (-300)] sw2 m2 (fun z3 sw3 m3 => R2 X 7 mY_begin 32 [(0, vr 84), (1, vi a1), (2, vi (-300)), (3, vi z3), (4, vi (-299))] [] sw3 m3 Q))) ∧ (¬ (¬ w32 z1 = 0) → Q (-2000000000) sw1 m1)))) : M2 X 7 mY_begin [vr 84, vi a1] sw m Q := by
  refine Mt.of pY_begin (Nat.le_of_ble_eq_true rfl) (Nat.le_refl _) ?_
  show R2 X 7 mY_begin 0 [(0, vr 84), (1, vi a1)] [] sw m Q
  refine r_iload_n 1 1 rfl dY_begin_0 rfl ?_
  refine r_iconst dY_begin_1 ?_
  refine r_iconst dY_begin_2 ?_
  refine r_callSb [_, _, _] rfl oY_in iY_in yY_133 (by decide) ⟨Nat.le_refl _, Nat.le_refl _⟩ rfl (Nat.le_of_ble_eq_true rfl) dY_begin_3 h (fun z1 r1 m1 h => ?_)
  obtain ⟨sw1, rfl, h⟩ := h
  refine r_if_ne (tgt := 13) dY_begin_6 (by decide) (fun hc => ?_) (fun hc => ?_)
  · replace h := h.1 hc
    refine r_aload_n 0 0 rfl dY_begin_13 rfl ?_
    refine r_callVv 12 [] rfl c84 rfl rfl oY_findMinutes iY_findMinutes sY_findMinutes yY_304 (by decide) ⟨Nat.le_refl _, Nat.le_refl _⟩ rfl (Nat.le_of_ble_eq_true rfl) dY_begin_14 h (fun z2 r2 m2 h => ?_)
    obtain ⟨sw2, rfl, h⟩ := h
    refine r_sipush (by decide) dY_begin_17 ?_
    refine r_istore_n 2 (by decide) dY_begin_20 rfl ?_
    refine r_aload_n 0 1 rfl dY_begin_21 rfl ?_
    refine r_iload_n 2 0 rfl dY_begin_22 rfl ?_
    refine r_callVi 12 [_] rfl c84 rfl rfl oY_worthAt iY_worthAt sY_worthAt yY_307 (by decide) ⟨Nat.le_refl _, Nat.le_refl _⟩ rfl (Nat.le_of_ble_eq_true rfl) dY_begin_23 h (fun z3 r3 m3 h => ?_)
    obtain ⟨sw3, rfl, h⟩ := h
    refine r_istore_n 3 (by decide) dY_begin_26 rfl ?_
    refine r_sipush (by decide) dY_begin_27 ?_
    refine r_istore 4 (by decide) dY_begin_30 ?_
    refine r_sub [3, 4, 2, 1, 0] ?_ h
    rfl
  · replace h := h.2 hc
    refine r_ldcw (z := (-2000000000)) dY_begin_9 kY_303 ?_
    exact q_iret rfl h dY_begin_12
set_option maxRecDepth 4000 in
theorem wY_begin_32 {X : Cx} (x1 x2 x3 x4 : Int) (sw : Bool) (m : Mem) (Q : Int → Bool → Mem → Prop) (h : ((300 < w32 x4 → ((¬ w32 x1 = 0 → Q x3 sw m) ∧ (¬ (¬ w32 x1 = 0) → Q x2 sw m))) ∧ (¬ (300 < w32 x4) → M2 X 2 mY_worthAt [vr 84, vi x4] sw m (fun z1 sw1 m1 => ((w32 x3 < w32 z1 → R2 X 7 mY_begin 32 [(0, vr 84), (1, vi x1), (2, vi x4), (3, vi z1), (4, vi (x4 + 1))] [] sw1 m1 Q) ∧ (¬ (w32 x3 < w32 z1) → R2 X 7 mY_begin 32 [(0, vr 84), (1, vi x1), (2, vi x2), (3, vi x3), (4, vi (x4 + 1))] [] sw1 m1 Q)))))) : R2 X 7 mY_begin 32 [(0, vr 84), (1, vi x1), (2, vi x2), (3, vi x3), (4, vi x4)] [] sw m Q := by
  refine r_iload 4 4 rfl dY_begin_32 ?_
  refine r_sipush (by decide) dY_begin_34 ?_
  refine r_ifc_gt (tgt := 69) dY_begin_37 (by decide) (fun hc => ?_) (fun hc => ?_)
  · replace h := h.1 hc
    refine r_iload_n 1 1 rfl dY_begin_69 rfl ?_
    refine r_if_ne (tgt := 77) dY_begin_70 (by decide) (fun hc => ?_) (fun hc => ?_)
    · replace h := h.1 hc
      refine r_iload_n 3 3 rfl dY_begin_77 rfl ?_
      exact q_iret rfl h dY_begin_78
    · replace h := h.2 hc
      refine r_iload_n 2 2 rfl dY_begin_73 rfl ?_
      refine r_goto (tgt := 78) dY_begin_74 (by decide) ?_
      exact q_iret rfl h dY_begin_78
  · replace h := h.2 hc
    refine r_aload_n 0 0 rfl dY_begin_40 rfl ?_
    refine r_iload 4 4 rfl dY_begin_41 ?_
    refine r_callVi 12 [_] rfl c84 rfl rfl oY_worthAt iY_worthAt sY_worthAt yY_307 (by decide) ⟨Nat.le_refl _, Nat.le_refl _⟩ rfl (Nat.le_of_ble_eq_true rfl) dY_begin_43 h (fun z1 r1 m1 h => ?_)
    obtain ⟨sw1, rfl, h⟩ := h
    refine r_istore 5 (by decide) dY_begin_46 ?_
    refine r_iload 5 0 rfl dY_begin_48 ?_
    refine r_iload_n 3 4 rfl dY_begin_50 rfl ?_
    refine r_ifc_gt (tgt := 57) dY_begin_51 (by decide) (fun hc => ?_) (fun hc => ?_)
    · replace h := h.1 hc
      refine r_iload 4 5 rfl dY_begin_57 ?_
      refine r_istore_n 2 (by decide) dY_begin_59 rfl ?_
      refine r_iload 5 1 rfl dY_begin_60 ?_
      refine r_istore_n 3 (by decide) dY_begin_62 rfl ?_
      refine r_iinc 4 5 rfl (by decide) dY_begin_63 ?_
      refine r_goto (tgt := 32) dY_begin_66 (by decide) ?_
      refine r_sub [4, 5, 2, 1, 0] ?_ h
      rfl
    · replace h := h.2 hc
      refine r_goto (tgt := 63) dY_begin_54 (by decide) ?_
      refine r_iinc 4 5 rfl (by decide) dY_begin_63 ?_
      refine r_goto (tgt := 32) dY_begin_66 (by decide) ?_
      refine r_sub [2, 3, 4, 5, 0] ?_ h
      rfl
theorem dY_changedBy_0 : decode mY_changedBy.2.1 0 = .ok (.aload_n 0, 1) := by decide +kernel
theorem dY_changedBy_1 : decode mY_changedBy.2.1 1 = .ok (.invokevirtual 284, 3) := by decide +kernel
theorem dY_changedBy_4 : decode mY_changedBy.2.1 4 = .ok (.iload_n 1, 1) := by decide +kernel
theorem dY_changedBy_5 : decode mY_changedBy.2.1 5 = .ok (.ifCond .ne 11, 3) := by decide +kernel
theorem dY_changedBy_8 : decode mY_changedBy.2.1 8 = .ok (.aload_n 0, 1) := by decide +kernel
theorem dY_changedBy_9 : decode mY_changedBy.2.1 9 = .ok (.iload_n 2, 1) := by decide +kernel
theorem dY_changedBy_10 : decode mY_changedBy.2.1 10 = .ok (.putfield 77, 3) := by decide +kernel
theorem dY_changedBy_13 : decode mY_changedBy.2.1 13 = .ok (.goto 49, 3) := by decide +kernel
theorem dY_changedBy_16 : decode mY_changedBy.2.1 16 = .ok (.iload_n 1, 1) := by decide +kernel
theorem dY_changedBy_17 : decode mY_changedBy.2.1 17 = .ok (.iconst 1, 1) := by decide +kernel
theorem dY_changedBy_18 : decode mY_changedBy.2.1 18 = .ok (.if_icmp .ne 36, 3) := by decide +kernel
theorem dY_changedBy_21 : decode mY_changedBy.2.1 21 = .ok (.aload_n 0, 1) := by decide +kernel
theorem dY_changedBy_22 : decode mY_changedBy.2.1 22 = .ok (.getfield 74, 3) := by decide +kernel
theorem dY_changedBy_25 : decode mY_changedBy.2.1 25 = .ok (.iload_n 2, 1) := by decide +kernel
theorem dY_changedBy_26 : decode mY_changedBy.2.1 26 = .ok (.aload_n 0, 1) := by decide +kernel
theorem dY_changedBy_27 : decode mY_changedBy.2.1 27 = .ok (.getfield 74, 3) := by decide +kernel
theorem dY_changedBy_30 : decode mY_changedBy.2.1 30 = .ok (.iload_n 2, 1) := by decide +kernel
theorem dY_changedBy_31 : decode mY_changedBy.2.1 31 = .ok (.iaload, 1) := by decide +kernel
theorem dY_changedBy_32 : decode mY_changedBy.2.1 32 = .ok (.bipush 12, 2) := by decide +kernel
theorem dY_changedBy_34 : decode mY_changedBy.2.1 34 = .ok (.if_icmp .ge 14, 3) := by decide +kernel
theorem dY_changedBy_37 : decode mY_changedBy.2.1 37 = .ok (.aload_n 0, 1) := by decide +kernel
theorem dY_changedBy_38 : decode mY_changedBy.2.1 38 = .ok (.getfield 74, 3) := by decide +kernel
theorem dY_changedBy_41 : decode mY_changedBy.2.1 41 = .ok (.iload_n 2, 1) := by decide +kernel
theorem dY_changedBy_42 : decode mY_changedBy.2.1 42 = .ok (.iaload, 1) := by decide +kernel
theorem dY_changedBy_43 : decode mY_changedBy.2.1 43 = .ok (.iconst 1, 1) := by decide +kernel
theorem dY_changedBy_44 : decode mY_changedBy.2.1 44 = .ok (.iadd, 1) := by decide +kernel
theorem dY_changedBy_45 : decode mY_changedBy.2.1 45 = .ok (.goto 5, 3) := by decide +kernel
theorem dY_changedBy_48 : decode mY_changedBy.2.1 48 = .ok (.bipush 12, 2) := by decide +kernel
theorem dY_changedBy_50 : decode mY_changedBy.2.1 50 = .ok (.iastore, 1) := by decide +kernel
theorem dY_changedBy_51 : decode mY_changedBy.2.1 51 = .ok (.goto 11, 3) := by decide +kernel
theorem dY_changedBy_54 : decode mY_changedBy.2.1 54 = .ok (.aload_n 0, 1) := by decide +kernel
theorem dY_changedBy_55 : decode mY_changedBy.2.1 55 = .ok (.getfield 74, 3) := by decide +kernel
theorem dY_changedBy_58 : decode mY_changedBy.2.1 58 = .ok (.iload_n 2, 1) := by decide +kernel
theorem dY_changedBy_59 : decode mY_changedBy.2.1 59 = .ok (.bipush 12, 2) := by decide +kernel
theorem dY_changedBy_61 : decode mY_changedBy.2.1 61 = .ok (.iastore, 1) := by decide +kernel
theorem dY_changedBy_62 : decode mY_changedBy.2.1 62 = .ok (.aload_n 0, 1) := by decide +kernel
theorem dY_changedBy_63 : decode mY_changedBy.2.1 63 = .ok (.sipush 999, 3) := by decide +kernel
theorem dY_changedBy_66 : decode mY_changedBy.2.1 66 = .ok (.invokevirtual 287, 3) := by decide +kernel
theorem dY_changedBy_69 : decode mY_changedBy.2.1 69 = .ok (.lreturn, 1) := by decide +kernel
/- Y_changedBy: (II)J -/
set_option maxRecDepth 4000 in
theorem wY_changedBy {X : Cx} (a1 a2 : Int) (sw : Bool) (m : Mem) (Q : Int → Bool → Mem → Prop) (h : M2 X 5 mY_layTwelfths [vr 84] sw m (fun z1 sw1 m1 => ((¬ w32 a1 = 0 → ((¬ w32 a1 = 1 → ((0 ≤ w32 a2 ∧ w32 a2 < 9) ∧ M2 X 3 mY_endsBy [vr 84, vi 999] sw1 (upm m1 105 (w32 a2) 12) (fun z2 sw2 m2 => Q z2 sw2 m2))) ∧ (¬ (¬ w32 a1 = 1) → ((0 ≤ w32 a2 ∧ w32 a2 < 9) ∧ ((12 ≤ w32 (m1 105 (w32 a2)) → ((0 ≤ w32 a2 ∧ w32 a2 < 9) ∧ M2 X 3 mY_endsBy [vr 84, vi 999] sw1 (upm m1 105 (w32 a2) 12) (fun z3 sw3 m3 => Q z3 sw3 m3))) ∧ (¬ (12 ≤ w32 (m1 105 (w32 a2))) → ((0 ≤ w32 a2 ∧ w32 a2 < 9) ∧ ((0 ≤ w32 a2 ∧ w32 a2 < 9) ∧ M2 X 3 mY_endsBy [vr 84, vi 999] sw1 (upm m1 105 (w32 a2) ((m1 105 (w32 a2)) + 1)) (fun z4 sw4 m4 => Q z4 sw4 m4))))))))) ∧ (¬ (¬ w32 a1 = 0) → M2 X 3 mY_endsBy [vr 84, vi 999] sw1 (upm m1 84 33 a2) (fun z5 sw5 m5 => Q z5 sw5 m5))))) : M2 X 6 mY_changedBy [vr 84, vi a1, vi a2] sw m Q := by
  refine Mt.of pY_changedBy (Nat.le_of_ble_eq_true rfl) (Nat.le_refl _) ?_
  show R2 X 6 mY_changedBy 0 [(0, vr 84), (1, vi a1), (2, vi a2)] [] sw m Q
  refine r_aload_n 0 0 rfl dY_changedBy_0 rfl ?_
  refine r_callVv 12 [] rfl c84 rfl rfl oY_layTwelfths iY_layTwelfths sY_layTwelfths yY_284 (by decide) ⟨Nat.le_refl _, Nat.le_refl _⟩ rfl (Nat.le_of_ble_eq_true rfl) dY_changedBy_1 h (fun z1 r1 m1 h => ?_)
  obtain ⟨sw1, rfl, h⟩ := h
  refine r_iload_n 1 1 rfl dY_changedBy_4 rfl ?_
  refine r_if_ne (tgt := 16) dY_changedBy_5 (by decide) (fun hc => ?_) (fun hc => ?_)
  · replace h := h.1 hc
    refine r_iload_n 1 1 rfl dY_changedBy_16 rfl ?_
    refine r_iconst dY_changedBy_17 ?_
    refine r_ifc_ne (tgt := 54) dY_changedBy_18 (by decide) (fun hc => ?_) (fun hc => ?_)
    · replace h := h.1 hc
      refine r_aload_n 0 0 rfl dY_changedBy_54 rfl ?_
      refine q_getR 32 c84 fY_74 rfl rfl (g84_32 sw1) (by decide) dY_changedBy_55 ?_
      refine r_iload_n 2 2 rfl dY_changedBy_58 rfl ?_
      refine r_bipush (by decide) dY_changedBy_59 ?_
      refine q_iastore (w32 a2) rfl c105 h.1 dY_changedBy_61 ?_
      replace h := h.2
      refine r_aload_n 0 0 rfl dY_changedBy_62 rfl ?_
      refine r_sipush (by decide) dY_changedBy_63 ?_
      refine r_callVl 12 [_] rfl c84 rfl rfl oY_endsBy iY_endsBy sY_endsBy yY_287 (by decide) ⟨Nat.le_refl _, Nat.le_refl _⟩ rfl (Nat.le_of_ble_eq_true rfl) dY_changedBy_66 h (fun z2 r2 m2 h => ?_)
      obtain ⟨sw2, rfl, h⟩ := h
      exact q_lret rfl h dY_changedBy_69
    · replace h := h.2 hc
      refine r_aload_n 0 0 rfl dY_changedBy_21 rfl ?_
      refine q_getR 32 c84 fY_74 rfl rfl (g84_32 sw1) (by decide) dY_changedBy_22 ?_
      refine r_iload_n 2 2 rfl dY_changedBy_25 rfl ?_
      refine r_aload_n 0 0 rfl dY_changedBy_26 rfl ?_
      refine q_getR 32 c84 fY_74 rfl rfl (g84_32 sw1) (by decide) dY_changedBy_27 ?_
      refine r_iload_n 2 2 rfl dY_changedBy_30 rfl ?_
      refine q_iaload (w32 a2) rfl c105 h.1 dY_changedBy_31 ?_
      replace h := h.2
      refine r_bipush (by decide) dY_changedBy_32 ?_
      refine r_ifc_ge (tgt := 48) dY_changedBy_34 (by decide) (fun hc => ?_) (fun hc => ?_)
      · replace h := h.1 hc
        refine r_bipush (by decide) dY_changedBy_48 ?_
        refine q_iastore (w32 a2) rfl c105 h.1 dY_changedBy_50 ?_
        replace h := h.2
        refine r_goto (tgt := 62) dY_changedBy_51 (by decide) ?_
        refine r_aload_n 0 0 rfl dY_changedBy_62 rfl ?_
        refine r_sipush (by decide) dY_changedBy_63 ?_
        refine r_callVl 12 [_] rfl c84 rfl rfl oY_endsBy iY_endsBy sY_endsBy yY_287 (by decide) ⟨Nat.le_refl _, Nat.le_refl _⟩ rfl (Nat.le_of_ble_eq_true rfl) dY_changedBy_66 h (fun z3 r3 m3 h => ?_)
        obtain ⟨sw3, rfl, h⟩ := h
        exact q_lret rfl h dY_changedBy_69
      · replace h := h.2 hc
        refine r_aload_n 0 0 rfl dY_changedBy_37 rfl ?_
        refine q_getR 32 c84 fY_74 rfl rfl (g84_32 sw1) (by decide) dY_changedBy_38 ?_
        refine r_iload_n 2 2 rfl dY_changedBy_41 rfl ?_
        refine q_iaload (w32 a2) rfl c105 h.1 dY_changedBy_42 ?_
        replace h := h.2
        refine r_iconst dY_changedBy_43 ?_
        refine r_iadd dY_changedBy_44 ?_
        refine r_goto (tgt := 50) dY_changedBy_45 (by decide) ?_
        refine q_iastore (w32 a2) rfl c105 h.1 dY_changedBy_50 ?_
        replace h := h.2
        refine r_goto (tgt := 62) dY_changedBy_51 (by decide) ?_
        refine r_aload_n 0 0 rfl dY_changedBy_62 rfl ?_
        refine r_sipush (by decide) dY_changedBy_63 ?_
        refine r_callVl 12 [_] rfl c84 rfl rfl oY_endsBy iY_endsBy sY_endsBy yY_287 (by decide) ⟨Nat.le_refl _, Nat.le_refl _⟩ rfl (Nat.le_of_ble_eq_true rfl) dY_changedBy_66 h (fun z4 r4 m4 h => ?_)
        obtain ⟨sw4, rfl, h⟩ := h
        exact q_lret rfl h dY_changedBy_69
  · replace h := h.2 hc
    refine r_aload_n 0 0 rfl dY_changedBy_8 rfl ?_
    refine r_iload_n 2 2 rfl dY_changedBy_9 rfl ?_
    refine q_putI 33 c84 pfY_77 rfl rfl dY_changedBy_10 ?_
    refine r_goto (tgt := 62) dY_changedBy_13 (by decide) ?_
    refine r_aload_n 0 0 rfl dY_changedBy_62 rfl ?_
    refine r_sipush (by decide) dY_changedBy_63 ?_
    refine r_callVl 12 [_] rfl c84 rfl rfl oY_endsBy iY_endsBy sY_endsBy yY_287 (by decide) ⟨Nat.le_refl _, Nat.le_refl _⟩ rfl (Nat.le_of_ble_eq_true rfl) dY_changedBy_66 h (fun z5 r5 m5 h => ?_)
    obtain ⟨sw5, rfl, h⟩ := h
    exact q_lret rfl h dY_changedBy_69
theorem dY_change_0 : decode mY_change.2.1 0 = .ok (.iload_n 1, 1) := by decide +kernel
theorem dY_change_1 : decode mY_change.2.1 1 = .ok (.iconst 0, 1) := by decide +kernel
theorem dY_change_2 : decode mY_change.2.1 2 = .ok (.iconst 2, 1) := by decide +kernel
theorem dY_change_3 : decode mY_change.2.1 3 = .ok (.invokestatic 133, 3) := by decide +kernel
theorem dY_change_6 : decode mY_change.2.1 6 = .ok (.ifCond .eq 12, 3) := by decide +kernel
theorem dY_change_9 : decode mY_change.2.1 9 = .ok (.iload_n 2, 1) := by decide +kernel
theorem dY_change_10 : decode mY_change.2.1 10 = .ok (.iconst 0, 1) := by decide +kernel
theorem dY_change_11 : decode mY_change.2.1 11 = .ok (.iconst 1, 1) := by decide +kernel
theorem dY_change_12 : decode mY_change.2.1 12 = .ok (.invokestatic 133, 3) := by decide +kernel
theorem dY_change_15 : decode mY_change.2.1 15 = .ok (.ifCond .ne 5, 3) := by decide +kernel
theorem dY_change_18 : decode mY_change.2.1 18 = .ok (.iconst (-1), 1) := by decide +kernel
theorem dY_change_19 : decode mY_change.2.1 19 = .ok (.ireturn, 1) := by decide +kernel
theorem dY_change_20 : decode mY_change.2.1 20 = .ok (.bipush (-2), 2) := by decide +kernel
theorem dY_change_22 : decode mY_change.2.1 22 = .ok (.istore_n 3, 1) := by decide +kernel
theorem dY_change_23 : decode mY_change.2.1 23 = .ok (.lconst 0, 1) := by decide +kernel
theorem dY_change_24 : decode mY_change.2.1 24 = .ok (.lstore 4, 2) := by decide +kernel
theorem dY_change_26 : decode mY_change.2.1 26 = .ok (.bipush (-2), 2) := by decide +kernel
theorem dY_change_28 : decode mY_change.2.1 28 = .ok (.istore 6, 2) := by decide +kernel
theorem dY_change_30 : decode mY_change.2.1 30 = .ok (.iconst 0, 1) := by decide +kernel
theorem dY_change_31 : decode mY_change.2.1 31 = .ok (.istore 7, 2) := by decide +kernel
theorem dY_change_33 : decode mY_change.2.1 33 = .ok (.iload 7, 2) := by decide +kernel
theorem dY_change_35 : decode mY_change.2.1 35 = .ok (.aload_n 0, 1) := by decide +kernel
theorem dY_change_36 : decode mY_change.2.1 36 = .ok (.getfield 130, 3) := by decide +kernel
theorem dY_change_39 : decode mY_change.2.1 39 = .ok (.if_icmp .ge 63, 3) := by decide +kernel
theorem dY_change_42 : decode mY_change.2.1 42 = .ok (.aload_n 0, 1) := by decide +kernel
theorem dY_change_43 : decode mY_change.2.1 43 = .ok (.iload_n 1, 1) := by decide +kernel
theorem dY_change_44 : decode mY_change.2.1 44 = .ok (.iload 7, 2) := by decide +kernel
theorem dY_change_46 : decode mY_change.2.1 46 = .ok (.invokevirtual 310, 3) := by decide +kernel
theorem dY_change_49 : decode mY_change.2.1 49 = .ok (.lstore 8, 2) := by decide +kernel
theorem dY_change_51 : decode mY_change.2.1 51 = .ok (.aload_n 0, 1) := by decide +kernel
theorem dY_change_52 : decode mY_change.2.1 52 = .ok (.invokevirtual 293, 3) := by decide +kernel
theorem dY_change_55 : decode mY_change.2.1 55 = .ok (.lstore 10, 2) := by decide +kernel
theorem dY_change_57 : decode mY_change.2.1 57 = .ok (.aload_n 0, 1) := by decide +kernel
theorem dY_change_58 : decode mY_change.2.1 58 = .ok (.iconst (-1), 1) := by decide +kernel
theorem dY_change_59 : decode mY_change.2.1 59 = .ok (.putfield 77, 3) := by decide +kernel
theorem dY_change_62 : decode mY_change.2.1 62 = .ok (.iload_n 3, 1) := by decide +kernel
theorem dY_change_63 : decode mY_change.2.1 63 = .ok (.ifCond .lt 14, 3) := by decide +kernel
theorem dY_change_66 : decode mY_change.2.1 66 = .ok (.lload 8, 2) := by decide +kernel
theorem dY_change_68 : decode mY_change.2.1 68 = .ok (.lload 4, 2) := by decide +kernel
theorem dY_change_70 : decode mY_change.2.1 70 = .ok (.lcmp, 1) := by decide +kernel
theorem dY_change_71 : decode mY_change.2.1 71 = .ok (.ifCond .gt 6, 3) := by decide +kernel
theorem dY_change_74 : decode mY_change.2.1 74 = .ok (.goto 22, 3) := by decide +kernel
theorem dY_change_77 : decode mY_change.2.1 77 = .ok (.iload 7, 2) := by decide +kernel
theorem dY_change_79 : decode mY_change.2.1 79 = .ok (.istore_n 3, 1) := by decide +kernel
theorem dY_change_80 : decode mY_change.2.1 80 = .ok (.lload 8, 2) := by decide +kernel
theorem dY_change_82 : decode mY_change.2.1 82 = .ok (.lstore 4, 2) := by decide +kernel
theorem dY_change_84 : decode mY_change.2.1 84 = .ok (.lload 8, 2) := by decide +kernel
theorem dY_change_86 : decode mY_change.2.1 86 = .ok (.ldc2_w 314, 3) := by decide +kernel
theorem dY_change_89 : decode mY_change.2.1 89 = .ok (.lmul, 1) := by decide +kernel
theorem dY_change_90 : decode mY_change.2.1 90 = .ok (.lload 10, 2) := by decide +kernel
theorem dY_change_92 : decode mY_change.2.1 92 = .ok (.ldiv, 1) := by decide +kernel
theorem dY_change_93 : decode mY_change.2.1 93 = .ok (.l2i, 1) := by decide +kernel
theorem dY_change_94 : decode mY_change.2.1 94 = .ok (.istore 6, 2) := by decide +kernel
theorem dY_change_96 : decode mY_change.2.1 96 = .ok (.iinc 7 1, 3) := by decide +kernel
theorem dY_change_99 : decode mY_change.2.1 99 = .ok (.goto (-66), 3) := by decide +kernel
theorem dY_change_102 : decode mY_change.2.1 102 = .ok (.iload_n 2, 1) := by decide +kernel
theorem dY_change_103 : decode mY_change.2.1 103 = .ok (.ifCond .ne 7, 3) := by decide +kernel
theorem dY_change_106 : decode mY_change.2.1 106 = .ok (.iload_n 3, 1) := by decide +kernel
theorem dY_change_107 : decode mY_change.2.1 107 = .ok (.goto 5, 3) := by decide +kernel
theorem dY_change_110 : decode mY_change.2.1 110 = .ok (.iload 6, 2) := by decide +kernel
theorem dY_change_112 : decode mY_change.2.1 112 = .ok (.ireturn, 1) := by decide +kernel
/- Y_change: (II)I -/
set_option maxRecDepth 4000 in
theorem wY_change {X : Cx} (a1 a2 : Int) (sw : Bool) (m : Mem) (Q : Int → Bool → Mem → Prop) (h : M2 X 1 mY_in [vi a1, vi 0, vi 2] sw m (fun z1 sw1 m1 => ((w32 z1 = 0 → Q (-1) sw1 m1) ∧ (¬ (w32 z1 = 0) → M2 X 1 mY_in [vi a2, vi 0, vi 1] sw1 m1 (fun z2 sw2 m2 => ((¬ w32 z2 = 0 → R2 X 7 mY_change 33 [(0, vr 84), (1, vi a1), (2, vi a2), (3, vi (-2)), (4, vl 0), (6, vi (-2)), (7, vi 0)] [] sw2 m2 Q) ∧ (¬ (¬ w32 z2 = 0) → Q (-1) sw2 m2))))))) : M2 X 7 mY_change [vr 84, vi a1, vi a2] sw m Q := by
  refine Mt.of pY_change (Nat.le_of_ble_eq_true rfl) (Nat.le_refl _) ?_
  show R2 X 7 mY_change 0 [(0, vr 84), (1, vi a1), (2, vi a2)] [] sw m Q
  refine r_iload_n 1 1 rfl dY_change_0 rfl ?_
  refine r_iconst dY_change_1 ?_
  refine r_iconst dY_change_2 ?_
  refine r_callSb [_, _, _] rfl oY_in iY_in yY_133 (by decide) ⟨Nat.le_refl _, Nat.le_refl _⟩ rfl (Nat.le_of_ble_eq_true rfl) dY_change_3 h (fun z1 r1 m1 h => ?_)
  obtain ⟨sw1, rfl, h⟩ := h
  refine r_if_eq (tgt := 18) dY_change_6 (by decide) (fun hc => ?_) (fun hc => ?_)
  · replace h := h.1 hc
    refine r_iconst dY_change_18 ?_
    exact q_iret rfl h dY_change_19
  · replace h := h.2 hc
    refine r_iload_n 2 2 rfl dY_change_9 rfl ?_
    refine r_iconst dY_change_10 ?_
    refine r_iconst dY_change_11 ?_
    refine r_callSb [_, _, _] rfl oY_in iY_in yY_133 (by decide) ⟨Nat.le_refl _, Nat.le_refl _⟩ rfl (Nat.le_of_ble_eq_true rfl) dY_change_12 h (fun z2 r2 m2 h => ?_)
    obtain ⟨sw2, rfl, h⟩ := h
    refine r_if_ne (tgt := 20) dY_change_15 (by decide) (fun hc => ?_) (fun hc => ?_)
    · replace h := h.1 hc
      refine r_bipush (by decide) dY_change_20 ?_
      refine r_istore_n 3 (by decide) dY_change_22 rfl ?_
      refine r_lconst dY_change_23 ?_
      refine r_lstore 4 (by decide) dY_change_24 ?_
      refine r_bipush (by decide) dY_change_26 ?_
      refine r_istore 6 (by decide) dY_change_28 ?_
      refine r_iconst dY_change_30 ?_
      refine r_istore 7 (by decide) dY_change_31 ?_
      refine r_sub [4, 5, 6, 3, 2, 1, 0] ?_ h
      rfl
    · replace h := h.2 hc
      refine r_iconst dY_change_18 ?_
      exact q_iret rfl h dY_change_19
set_option maxRecDepth 4000 in
theorem wY_change_33 {X : Cx} (x1 x2 x3 x4 x6 x7 : Int) (sw : Bool) (m : Mem) (Q : Int → Bool → Mem → Prop) (h : ((w32 (m 84 1) ≤ w32 x7 → ((¬ w32 x2 = 0 → Q x6 sw m) ∧ (¬ (¬ w32 x2 = 0) → Q x3 sw m))) ∧ (¬ (w32 (m 84 1) ≤ w32 x7) → M2 X 6 mY_changedBy [vr 84, vi x1, vi x7] sw m (fun z1 sw1 m1 => M2 X 1 mY_whole [vr 84] sw1 m1 (fun z2 sw2 m2 => ((w32 x3 < 0 → (¬ w64 z2 = 0 ∧ R2 X 7 mY_change 33 [(0, vr 84), (1, vi x1), (2, vi x2), (3, vi x7), (4, vl z1), (6, vi (zldiv (z1 * 1000000) z2)), (7, vi (x7 + 1))] [] sw2 (upm m2 84 33 (-1)) Q)) ∧ (¬ (w32 x3 < 0) → ((w64 x4 < w64 z1 → (¬ w64 z2 = 0 ∧ R2 X 7 mY_change 33 [(0, vr 84), (1, vi x1), (2, vi x2), (3, vi x7), (4, vl z1), (6, vi (zldiv (z1 * 1000000) z2)), (7, vi (x7 + 1))] [] sw2 (upm m2 84 33 (-1)) Q)) ∧ (¬ (w64 x4 < w64 z1) → R2 X 7 mY_change 33 [(0, vr 84), (1, vi x1), (2, vi x2), (3, vi x3), (4, vl x4), (6, vi x6), (7, vi (x7 + 1))] [] sw2 (upm m2 84 33 (-1)) Q))))))))) : R2 X 7 mY_change 33 [(0, vr 84), (1, vi x1), (2, vi x2), (3, vi x3), (4, vl x4), (6, vi x6), (7, vi x7)] [] sw m Q := by
  refine r_iload 7 6 rfl dY_change_33 ?_
  refine r_aload_n 0 0 rfl dY_change_35 rfl ?_
  refine q_getI 1 c84 fY_130 rfl rfl dY_change_36 ?_
  refine r_ifc_ge (tgt := 102) dY_change_39 (by decide) (fun hc => ?_) (fun hc => ?_)
  · replace h := h.1 hc
    refine r_iload_n 2 2 rfl dY_change_102 rfl ?_
    refine r_if_ne (tgt := 110) dY_change_103 (by decide) (fun hc => ?_) (fun hc => ?_)
    · replace h := h.1 hc
      refine r_iload 6 5 rfl dY_change_110 ?_
      exact q_iret rfl h dY_change_112
    · replace h := h.2 hc
      refine r_iload_n 3 3 rfl dY_change_106 rfl ?_
      refine r_goto (tgt := 112) dY_change_107 (by decide) ?_
      exact q_iret rfl h dY_change_112
  · replace h := h.2 hc
    refine r_aload_n 0 0 rfl dY_change_42 rfl ?_
    refine r_iload_n 1 1 rfl dY_change_43 rfl ?_
    refine r_iload 7 6 rfl dY_change_44 ?_
    refine r_callVl 12 [_, _] rfl c84 rfl rfl oY_changedBy iY_changedBy sY_changedBy yY_310 (by decide) ⟨Nat.le_refl _, Nat.le_refl _⟩ rfl (Nat.le_of_ble_eq_true rfl) dY_change_46 h (fun z1 r1 m1 h => ?_)
    obtain ⟨sw1, rfl, h⟩ := h
    refine r_lstore 8 (by decide) dY_change_49 ?_
    refine r_aload_n 0 1 rfl dY_change_51 rfl ?_
    refine r_callVl 12 [] rfl c84 rfl rfl oY_whole iY_whole sY_whole yY_293 (by decide) ⟨Nat.le_refl _, Nat.le_refl _⟩ rfl (Nat.le_of_ble_eq_true rfl) dY_change_52 h (fun z2 r2 m2 h => ?_)
    obtain ⟨sw2, rfl, h⟩ := h
    refine r_lstore 10 (by decide) dY_change_55 ?_
    refine r_aload_n 0 2 rfl dY_change_57 rfl ?_
    refine r_iconst dY_change_58 ?_
    refine q_putI 33 c84 pfY_77 rfl rfl dY_change_59 ?_
    refine r_iload_n 3 5 rfl dY_change_62 rfl ?_
    refine r_if_lt (tgt := 77) dY_change_63 (by decide) (fun hc => ?_) (fun hc => ?_)
    · replace h := h.1 hc
      refine r_iload 7 8 rfl dY_change_77 ?_
      refine r_istore_n 3 (by decide) dY_change_79 rfl ?_
      refine r_lload 8 2 rfl dY_change_80 ?_
      refine r_lstore 4 (by decide) dY_change_82 ?_
      refine r_lload 8 3 rfl dY_change_84 ?_
      refine r_ldc2 (z := 1000000) dY_change_86 kY_314 ?_
      refine r_lmul dY_change_89 ?_
      refine r_lload 10 2 rfl dY_change_90 ?_
      refine r_ldiv h.1 dY_change_92 ?_
      replace h := h.2
      refine r_l2i dY_change_93 ?_
      refine r_istore 6 (by decide) dY_change_94 ?_
      refine r_iinc 7 8 rfl (by decide) dY_change_96 ?_
      refine r_goto (tgt := 33) dY_change_99 (by decide) ?_
      refine r_sub [6, 7, 8, 3, 2, 1, 0] ?_ h
      rfl
    · replace h := h.2 hc
      refine r_lload 8 1 rfl dY_change_66 ?_
      refine r_lload 4 6 rfl dY_change_68 ?_
      refine q_lc_gt (tgt := 77) (A := w64 z1) (B := w64 x4) rfl rfl dY_change_70 dY_change_71 (by decide) (fun hc => ?_) (fun hc => ?_)
      · replace h := h.1 hc
        refine r_iload 7 8 rfl dY_change_77 ?_
        refine r_istore_n 3 (by decide) dY_change_79 rfl ?_
        refine r_lload 8 2 rfl dY_change_80 ?_
        refine r_lstore 4 (by decide) dY_change_82 ?_
        refine r_lload 8 3 rfl dY_change_84 ?_
        refine r_ldc2 (z := 1000000) dY_change_86 kY_314 ?_
        refine r_lmul dY_change_89 ?_
        refine r_lload 10 2 rfl dY_change_90 ?_
        refine r_ldiv h.1 dY_change_92 ?_
        replace h := h.2
        refine r_l2i dY_change_93 ?_
        refine r_istore 6 (by decide) dY_change_94 ?_
        refine r_iinc 7 8 rfl (by decide) dY_change_96 ?_
        refine r_goto (tgt := 33) dY_change_99 (by decide) ?_
        refine r_sub [6, 7, 8, 3, 2, 1, 0] ?_ h
        rfl
      · replace h := h.2 hc
        refine r_goto (tgt := 96) dY_change_74 (by decide) ?_
        refine r_iinc 7 8 rfl (by decide) dY_change_96 ?_
        refine r_goto (tgt := 33) dY_change_99 (by decide) ?_
        refine r_sub [3, 4, 5, 6, 7, 8, 0] ?_ h
        rfl
theorem dY_fire_0 : decode mY_fire.2.1 0 = .ok (.iload_n 1, 1) := by decide +kernel
theorem dY_fire_1 : decode mY_fire.2.1 1 = .ok (.iconst 0, 1) := by decide +kernel
theorem dY_fire_2 : decode mY_fire.2.1 2 = .ok (.iconst 1, 1) := by decide +kernel
theorem dY_fire_3 : decode mY_fire.2.1 3 = .ok (.invokestatic 133, 3) := by decide +kernel
theorem dY_fire_6 : decode mY_fire.2.1 6 = .ok (.ifCond .ne 7, 3) := by decide +kernel
theorem dY_fire_9 : decode mY_fire.2.1 9 = .ok (.ldc2_w 282, 3) := by decide +kernel
theorem dY_fire_12 : decode mY_fire.2.1 12 = .ok (.lreturn, 1) := by decide +kernel
theorem dY_fire_13 : decode mY_fire.2.1 13 = .ok (.aload_n 0, 1) := by decide +kernel
theorem dY_fire_14 : decode mY_fire.2.1 14 = .ok (.invokevirtual 284, 3) := by decide +kernel
theorem dY_fire_17 : decode mY_fire.2.1 17 = .ok (.lconst 0, 1) := by decide +kernel
theorem dY_fire_18 : decode mY_fire.2.1 18 = .ok (.lstore_n 2, 1) := by decide +kernel
theorem dY_fire_19 : decode mY_fire.2.1 19 = .ok (.iconst 0, 1) := by decide +kernel
theorem dY_fire_20 : decode mY_fire.2.1 20 = .ok (.istore 4, 2) := by decide +kernel
theorem dY_fire_22 : decode mY_fire.2.1 22 = .ok (.iload 4, 2) := by decide +kernel
theorem dY_fire_24 : decode mY_fire.2.1 24 = .ok (.aload_n 0, 1) := by decide +kernel
theorem dY_fire_25 : decode mY_fire.2.1 25 = .ok (.invokevirtual 272, 3) := by decide +kernel
theorem dY_fire_28 : decode mY_fire.2.1 28 = .ok (.if_icmp .ge 31, 3) := by decide +kernel
theorem dY_fire_31 : decode mY_fire.2.1 31 = .ok (.aload_n 0, 1) := by decide +kernel
theorem dY_fire_32 : decode mY_fire.2.1 32 = .ok (.iload 4, 2) := by decide +kernel
theorem dY_fire_34 : decode mY_fire.2.1 34 = .ok (.invokevirtual 268, 3) := by decide +kernel
theorem dY_fire_37 : decode mY_fire.2.1 37 = .ok (.aload_n 0, 1) := by decide +kernel
theorem dY_fire_38 : decode mY_fire.2.1 38 = .ok (.invokevirtual 316, 3) := by decide +kernel
theorem dY_fire_41 : decode mY_fire.2.1 41 = .ok (.ifCond .eq 12, 3) := by decide +kernel
theorem dY_fire_44 : decode mY_fire.2.1 44 = .ok (.lload_n 2, 1) := by decide +kernel
theorem dY_fire_45 : decode mY_fire.2.1 45 = .ok (.aload_n 0, 1) := by decide +kernel
theorem dY_fire_46 : decode mY_fire.2.1 46 = .ok (.iload 4, 2) := by decide +kernel
theorem dY_fire_48 : decode mY_fire.2.1 48 = .ok (.invokevirtual 278, 3) := by decide +kernel
theorem dY_fire_51 : decode mY_fire.2.1 51 = .ok (.ladd, 1) := by decide +kernel
theorem dY_fire_52 : decode mY_fire.2.1 52 = .ok (.lstore_n 2, 1) := by decide +kernel
theorem dY_fire_53 : decode mY_fire.2.1 53 = .ok (.iinc 4 1, 3) := by decide +kernel
theorem dY_fire_56 : decode mY_fire.2.1 56 = .ok (.goto (-34), 3) := by decide +kernel
theorem dY_fire_59 : decode mY_fire.2.1 59 = .ok (.lload_n 2, 1) := by decide +kernel
theorem dY_fire_60 : decode mY_fire.2.1 60 = .ok (.aload_n 0, 1) := by decide +kernel
theorem dY_fire_61 : decode mY_fire.2.1 61 = .ok (.invokevirtual 293, 3) := by decide +kernel
theorem dY_fire_64 : decode mY_fire.2.1 64 = .ok (.iload_n 1, 1) := by decide +kernel
theorem dY_fire_65 : decode mY_fire.2.1 65 = .ok (.invokestatic 297, 3) := by decide +kernel
theorem dY_fire_68 : decode mY_fire.2.1 68 = .ok (.lreturn, 1) := by decide +kernel
/- Y_fire: (I)J -/
set_option maxRecDepth 4000 in
theorem wY_fire {X : Cx} (a1 : Int) (sw : Bool) (m : Mem) (Q : Int → Bool → Mem → Prop) (h : M2 X 1 mY_in [vi a1, vi 0, vi 1] sw m (fun z1 sw1 m1 => ((¬ w32 z1 = 0 → M2 X 5 mY_layTwelfths [vr 84] sw1 m1 (fun z2 sw2 m2 => R2 X 6 mY_fire 22 [(0, vr 84), (1, vi a1), (2, vl 0), (4, vi 0)] [] sw2 m2 Q)) ∧ (¬ (¬ w32 z1 = 0) → Q (-9223372036854775808) sw1 m1)))) : M2 X 6 mY_fire [vr 84, vi a1] sw m Q := by
  refine Mt.of pY_fire (Nat.le_of_ble_eq_true rfl) (Nat.le_refl _) ?_
  show R2 X 6 mY_fire 0 [(0, vr 84), (1, vi a1)] [] sw m Q
  refine r_iload_n 1 1 rfl dY_fire_0 rfl ?_
  refine r_iconst dY_fire_1 ?_
  refine r_iconst dY_fire_2 ?_
  refine r_callSb [_, _, _] rfl oY_in iY_in yY_133 (by decide) ⟨Nat.le_refl _, Nat.le_refl _⟩ rfl (Nat.le_of_ble_eq_true rfl) dY_fire_3 h (fun z1 r1 m1 h => ?_)
  obtain ⟨sw1, rfl, h⟩ := h
  refine r_if_ne (tgt := 13) dY_fire_6 (by decide) (fun hc => ?_) (fun hc => ?_)
  · replace h := h.1 hc
    refine r_aload_n 0 0 rfl dY_fire_13 rfl ?_
    refine r_callVv 12 [] rfl c84 rfl rfl oY_layTwelfths iY_layTwelfths sY_layTwelfths yY_284 (by decide) ⟨Nat.le_refl _, Nat.le_refl _⟩ rfl (Nat.le_of_ble_eq_true rfl) dY_fire_14 h (fun z2 r2 m2 h => ?_)
    obtain ⟨sw2, rfl, h⟩ := h
    refine r_lconst dY_fire_17 ?_
    refine r_lstore_n 2 (by decide) dY_fire_18 rfl ?_
    refine r_iconst dY_fire_19 ?_
    refine r_istore 4 (by decide) dY_fire_20 ?_
    refine r_sub [2, 3, 1, 0] ?_ h
    rfl
  · replace h := h.2 hc
    refine r_ldc2 (z := (-9223372036854775808)) dY_fire_9 kY_282 ?_
    exact q_lret rfl h dY_fire_12
set_option maxRecDepth 4000 in
theorem wY_fire_22 {X : Cx} (x1 x2 x4 : Int) (sw : Bool) (m : Mem) (Q : Int → Bool → Mem → Prop) (h : M2 X 1 mY_sets [vr 84] sw m (fun z1 sw1 m1 => ((w32 z1 ≤ w32 x4 → M2 X 1 mY_whole [vr 84] sw1 m1 (fun z2 sw2 m2 => M2 X 1 mY_lowest [vl x2, vl z2, vi x1] sw2 m2 (fun z3 sw3 m3 => Q z3 sw3 m3))) ∧ (¬ (w32 z1 ≤ w32 x4) → M2 X 2 mY_goMorning [vr 84, vi x4] sw1 m1 (fun z4 sw4 m4 => M2 X 1 mY_burnsNow [vr 84] sw4 m4 (fun z5 sw5 m5 => ((w32 z5 = 0 → R2 X 6 mY_fire 22 [(0, vr 84), (1, vi x1), (2, vl x2), (4, vi (x4 + 1))] [] sw5 m5 Q) ∧ (¬ (w32 z5 = 0) → M2 X 1 mY_oddsOf [vr 84, vi x4] sw5 m5 (fun z6 sw6 m6 => R2 X 6 mY_fire 22 [(0, vr 84), (1, vi x1), (2, vl (x2 + z6)), (4, vi (x4 + 1))] [] sw6 m6 Q))))))))) : R2 X 6 mY_fire 22 [(0, vr 84), (1, vi x1), (2, vl x2), (4, vi x4)] [] sw m Q := by
  refine r_iload 4 3 rfl dY_fire_22 ?_
  refine r_aload_n 0 0 rfl dY_fire_24 rfl ?_
  refine r_callVi 12 [] rfl c84 rfl rfl oY_sets iY_sets sY_sets yY_272 (by decide) ⟨Nat.le_refl _, Nat.le_refl _⟩ rfl (Nat.le_of_ble_eq_true rfl) dY_fire_25 h (fun z1 r1 m1 h => ?_)
  obtain ⟨sw1, rfl, h⟩ := h
  refine r_ifc_ge (tgt := 59) dY_fire_28 (by decide) (fun hc => ?_) (fun hc => ?_)
  · replace h := h.1 hc
    refine r_lload_n 2 2 rfl dY_fire_59 rfl ?_
    refine r_aload_n 0 0 rfl dY_fire_60 rfl ?_
    refine r_callVl 12 [] rfl c84 rfl rfl oY_whole iY_whole sY_whole yY_293 (by decide) ⟨Nat.le_refl _, Nat.le_refl _⟩ rfl (Nat.le_of_ble_eq_true rfl) dY_fire_61 h (fun z2 r2 m2 h => ?_)
    obtain ⟨sw2, rfl, h⟩ := h
    refine r_iload_n 1 1 rfl dY_fire_64 rfl ?_
    refine r_callSl [_, _, _] rfl oY_lowest iY_lowest yY_297 (by decide) ⟨Nat.le_refl _, Nat.le_refl _⟩ rfl (Nat.le_of_ble_eq_true rfl) dY_fire_65 h (fun z3 r3 m3 h => ?_)
    obtain ⟨sw3, rfl, h⟩ := h
    exact q_lret rfl h dY_fire_68
  · replace h := h.2 hc
    refine r_aload_n 0 0 rfl dY_fire_31 rfl ?_
    refine r_iload 4 3 rfl dY_fire_32 ?_
    refine r_callVv 12 [_] rfl c84 rfl rfl oY_goMorning iY_goMorning sY_goMorning yY_268 (by decide) ⟨Nat.le_refl _, Nat.le_refl _⟩ rfl (Nat.le_of_ble_eq_true rfl) dY_fire_34 h (fun z4 r4 m4 h => ?_)
    obtain ⟨sw4, rfl, h⟩ := h
    refine r_aload_n 0 0 rfl dY_fire_37 rfl ?_
    refine r_callVb 12 [] rfl c84 rfl rfl oY_burnsNow iY_burnsNow sY_burnsNow yY_316 (by decide) ⟨Nat.le_refl _, Nat.le_refl _⟩ rfl (Nat.le_of_ble_eq_true rfl) dY_fire_38 h (fun z5 r5 m5 h => ?_)
    obtain ⟨sw5, rfl, h⟩ := h
    refine r_if_eq (tgt := 53) dY_fire_41 (by decide) (fun hc => ?_) (fun hc => ?_)
    · replace h := h.1 hc
      refine r_iinc 4 3 rfl (by decide) dY_fire_53 ?_
      refine r_goto (tgt := 22) dY_fire_56 (by decide) ?_
      refine r_sub [1, 2, 3, 0] ?_ h
      rfl
    · replace h := h.2 hc
      refine r_lload_n 2 2 rfl dY_fire_44 rfl ?_
      refine r_aload_n 0 0 rfl dY_fire_45 rfl ?_
      refine r_iload 4 3 rfl dY_fire_46 ?_
      refine r_callVl 12 [_] rfl c84 rfl rfl oY_oddsOf iY_oddsOf sY_oddsOf yY_278 (by decide) ⟨Nat.le_refl _, Nat.le_refl _⟩ rfl (Nat.le_of_ble_eq_true rfl) dY_fire_48 h (fun z6 r6 m6 h => ?_)
      obtain ⟨sw6, rfl, h⟩ := h
      refine r_ladd dY_fire_51 ?_
      refine r_lstore_n 2 (by decide) dY_fire_52 rfl ?_
      refine r_iinc 4 3 rfl (by decide) dY_fire_53 ?_
      refine r_goto (tgt := 22) dY_fire_56 (by decide) ?_
      refine r_sub [2, 3, 1, 0] ?_ h
      rfl
theorem dY_burnsNow_0 : decode mY_burnsNow.2.1 0 = .ok (.aload_n 0, 1) := by decide +kernel
theorem dY_burnsNow_1 : decode mY_burnsNow.2.1 1 = .ok (.getfield 257, 3) := by decide +kernel
theorem dY_burnsNow_4 : decode mY_burnsNow.2.1 4 = .ok (.aload_n 0, 1) := by decide +kernel
theorem dY_burnsNow_5 : decode mY_burnsNow.2.1 5 = .ok (.getfield 30, 3) := by decide +kernel
theorem dY_burnsNow_8 : decode mY_burnsNow.2.1 8 = .ok (.iconst 5, 1) := by decide +kernel
theorem dY_burnsNow_9 : decode mY_burnsNow.2.1 9 = .ok (.iaload, 1) := by decide +kernel
theorem dY_burnsNow_10 : decode mY_burnsNow.2.1 10 = .ok (.ishr, 1) := by decide +kernel
theorem dY_burnsNow_11 : decode mY_burnsNow.2.1 11 = .ok (.iconst 1, 1) := by decide +kernel
theorem dY_burnsNow_12 : decode mY_burnsNow.2.1 12 = .ok (.iand, 1) := by decide +kernel
theorem dY_burnsNow_13 : decode mY_burnsNow.2.1 13 = .ok (.iconst 1, 1) := by decide +kernel
theorem dY_burnsNow_14 : decode mY_burnsNow.2.1 14 = .ok (.if_icmp .ne 24, 3) := by decide +kernel
theorem dY_burnsNow_17 : decode mY_burnsNow.2.1 17 = .ok (.aload_n 0, 1) := by decide +kernel
theorem dY_burnsNow_18 : decode mY_burnsNow.2.1 18 = .ok (.getfield 257, 3) := by decide +kernel
theorem dY_burnsNow_21 : decode mY_burnsNow.2.1 21 = .ok (.aload_n 0, 1) := by decide +kernel
theorem dY_burnsNow_22 : decode mY_burnsNow.2.1 22 = .ok (.getfield 30, 3) := by decide +kernel
theorem dY_burnsNow_25 : decode mY_burnsNow.2.1 25 = .ok (.bipush 6, 2) := by decide +kernel
theorem dY_burnsNow_27 : decode mY_burnsNow.2.1 27 = .ok (.iaload, 1) := by decide +kernel
theorem dY_burnsNow_28 : decode mY_burnsNow.2.1 28 = .ok (.ishr, 1) := by decide +kernel
theorem dY_burnsNow_29 : decode mY_burnsNow.2.1 29 = .ok (.iconst 1, 1) := by decide +kernel
theorem dY_burnsNow_30 : decode mY_burnsNow.2.1 30 = .ok (.iand, 1) := by decide +kernel
theorem dY_burnsNow_31 : decode mY_burnsNow.2.1 31 = .ok (.ifCond .ne 7, 3) := by decide +kernel
theorem dY_burnsNow_34 : decode mY_burnsNow.2.1 34 = .ok (.iconst 1, 1) := by decide +kernel
theorem dY_burnsNow_35 : decode mY_burnsNow.2.1 35 = .ok (.goto 4, 3) := by decide +kernel
theorem dY_burnsNow_38 : decode mY_burnsNow.2.1 38 = .ok (.iconst 0, 1) := by decide +kernel
theorem dY_burnsNow_39 : decode mY_burnsNow.2.1 39 = .ok (.ireturn, 1) := by decide +kernel
/- Y_burnsNow: ()Z -/
set_option maxRecDepth 4000 in
theorem wY_burnsNow {X : Cx} (sw : Bool) (m : Mem) (Q : Int → Bool → Mem → Prop) (h : ((¬ w32 (zand (zshr (m 84 31) (m 91 5)) 1) = 1 → Q 0 sw m) ∧ (¬ (¬ w32 (zand (zshr (m 84 31) (m 91 5)) 1) = 1) → ((¬ w32 (zand (zshr (m 84 31) (m 91 6)) 1) = 0 → Q 0 sw m) ∧ (¬ (¬ w32 (zand (zshr (m 84 31) (m 91 6)) 1) = 0) → Q 1 sw m))))) : M2 X 1 mY_burnsNow [vr 84] sw m Q := by
  refine Mt.of pY_burnsNow (Nat.le_of_ble_eq_true rfl) (Nat.le_refl _) ?_
  show R2 X 1 mY_burnsNow 0 [(0, vr 84)] [] sw m Q
  refine r_aload_n 0 0 rfl dY_burnsNow_0 rfl ?_
  refine q_getI 31 c84 fY_257 rfl rfl dY_burnsNow_1 ?_
  refine r_aload_n 0 0 rfl dY_burnsNow_4 rfl ?_
  refine q_getR 8 c84 fY_30 rfl rfl (g84_8 sw) (by decide) dY_burnsNow_5 ?_
  refine r_iconst dY_burnsNow_8 ?_
  refine q_iaload 5 rfl c91 (by decide) dY_burnsNow_9 ?_
  refine r_ishr dY_burnsNow_10 ?_
  refine r_iconst dY_burnsNow_11 ?_
  refine r_iand dY_burnsNow_12 ?_
  refine r_iconst dY_burnsNow_13 ?_
  refine r_ifc_ne (tgt := 38) dY_burnsNow_14 (by decide) (fun hc => ?_) (fun hc => ?_)
  · replace h := h.1 hc
    refine r_iconst dY_burnsNow_38 ?_
    exact q_bret rfl (Or.inl rfl) h dY_burnsNow_39
  · replace h := h.2 hc
    refine r_aload_n 0 0 rfl dY_burnsNow_17 rfl ?_
    refine q_getI 31 c84 fY_257 rfl rfl dY_burnsNow_18 ?_
    refine r_aload_n 0 0 rfl dY_burnsNow_21 rfl ?_
    refine q_getR 8 c84 fY_30 rfl rfl (g84_8 sw) (by decide) dY_burnsNow_22 ?_
    refine r_bipush (by decide) dY_burnsNow_25 ?_
    refine q_iaload 6 rfl c91 (by decide) dY_burnsNow_27 ?_
    refine r_ishr dY_burnsNow_28 ?_
    refine r_iconst dY_burnsNow_29 ?_
    refine r_iand dY_burnsNow_30 ?_
    refine r_if_ne (tgt := 38) dY_burnsNow_31 (by decide) (fun hc => ?_) (fun hc => ?_)
    · replace h := h.1 hc
      refine r_iconst dY_burnsNow_38 ?_
      exact q_bret rfl (Or.inl rfl) h dY_burnsNow_39
    · replace h := h.2 hc
      refine r_iconst dY_burnsNow_34 ?_
      refine r_goto (tgt := 39) dY_burnsNow_35 (by decide) ?_
      exact q_bret rfl (Or.inr rfl) h dY_burnsNow_39
theorem dY_areSeen_0 : decode mY_areSeen.2.1 0 = .ok (.iload_n 0, 1) := by decide +kernel
theorem dY_areSeen_1 : decode mY_areSeen.2.1 1 = .ok (.iconst 0, 1) := by decide +kernel
theorem dY_areSeen_2 : decode mY_areSeen.2.1 2 = .ok (.ldc_w 319, 3) := by decide +kernel
theorem dY_areSeen_5 : decode mY_areSeen.2.1 5 = .ok (.invokestatic 133, 3) := by decide +kernel
theorem dY_areSeen_8 : decode mY_areSeen.2.1 8 = .ok (.ifCond .eq 23, 3) := by decide +kernel
theorem dY_areSeen_11 : decode mY_areSeen.2.1 11 = .ok (.iload_n 0, 1) := by decide +kernel
theorem dY_areSeen_12 : decode mY_areSeen.2.1 12 = .ok (.sipush 512, 3) := by decide +kernel
theorem dY_areSeen_15 : decode mY_areSeen.2.1 15 = .ok (.irem, 1) := by decide +kernel
theorem dY_areSeen_16 : decode mY_areSeen.2.1 16 = .ok (.iload_n 0, 1) := by decide +kernel
theorem dY_areSeen_17 : decode mY_areSeen.2.1 17 = .ok (.sipush 512, 3) := by decide +kernel
theorem dY_areSeen_20 : decode mY_areSeen.2.1 20 = .ok (.idiv, 1) := by decide +kernel
theorem dY_areSeen_21 : decode mY_areSeen.2.1 21 = .ok (.iconst (-1), 1) := by decide +kernel
theorem dY_areSeen_22 : decode mY_areSeen.2.1 22 = .ok (.ixor, 1) := by decide +kernel
theorem dY_areSeen_23 : decode mY_areSeen.2.1 23 = .ok (.iand, 1) := by decide +kernel
theorem dY_areSeen_24 : decode mY_areSeen.2.1 24 = .ok (.ifCond .ne 7, 3) := by decide +kernel
theorem dY_areSeen_27 : decode mY_areSeen.2.1 27 = .ok (.iconst 1, 1) := by decide +kernel
theorem dY_areSeen_28 : decode mY_areSeen.2.1 28 = .ok (.goto 4, 3) := by decide +kernel
theorem dY_areSeen_31 : decode mY_areSeen.2.1 31 = .ok (.iconst 0, 1) := by decide +kernel
theorem dY_areSeen_32 : decode mY_areSeen.2.1 32 = .ok (.ireturn, 1) := by decide +kernel
/- Y_areSeen: (I)Z -/
set_option maxRecDepth 4000 in
theorem wY_areSeen {X : Cx} (a0 : Int) (sw : Bool) (m : Mem) (Q : Int → Bool → Mem → Prop) (h : M2 X 1 mY_in [vi a0, vi 0, vi 262143] sw m (fun z1 sw1 m1 => ((w32 z1 = 0 → Q 0 sw1 m1) ∧ (¬ (w32 z1 = 0) → ((¬ w32 (zand (zrem a0 512) (zxor (zdiv a0 512) (-1))) = 0 → Q 0 sw1 m1) ∧ (¬ (¬ w32 (zand (zrem a0 512) (zxor (zdiv a0 512) (-1))) = 0) → Q 1 sw1 m1)))))) : M2 X 2 mY_areSeen [vi a0] sw m Q := by
  refine Mt.of pY_areSeen (Nat.le_of_ble_eq_true rfl) (Nat.le_refl _) ?_
  show R2 X 2 mY_areSeen 0 [(0, vi a0)] [] sw m Q
  refine r_iload_n 0 0 rfl dY_areSeen_0 rfl ?_
  refine r_iconst dY_areSeen_1 ?_
  refine r_ldcw (z := 262143) dY_areSeen_2 kY_319 ?_
  refine r_callSb [_, _, _] rfl oY_in iY_in yY_133 (by decide) ⟨Nat.le_refl _, Nat.le_refl _⟩ rfl (Nat.le_of_ble_eq_true rfl) dY_areSeen_5 h (fun z1 r1 m1 h => ?_)
  obtain ⟨sw1, rfl, h⟩ := h
  refine r_if_eq (tgt := 31) dY_areSeen_8 (by decide) (fun hc => ?_) (fun hc => ?_)
  · replace h := h.1 hc
    refine r_iconst dY_areSeen_31 ?_
    exact q_bret rfl (Or.inl rfl) h dY_areSeen_32
  · replace h := h.2 hc
    refine r_iload_n 0 0 rfl dY_areSeen_11 rfl ?_
    refine r_sipush (by decide) dY_areSeen_12 ?_
    refine r_irem (by decide) dY_areSeen_15 ?_
    refine r_iload_n 0 0 rfl dY_areSeen_16 rfl ?_
    refine r_sipush (by decide) dY_areSeen_17 ?_
    refine r_idiv (by decide) dY_areSeen_20 ?_
    refine r_iconst dY_areSeen_21 ?_
    refine r_ixor dY_areSeen_22 ?_
    refine r_iand dY_areSeen_23 ?_
    refine r_if_ne (tgt := 31) dY_areSeen_24 (by decide) (fun hc => ?_) (fun hc => ?_)
    · replace h := h.1 hc
      refine r_iconst dY_areSeen_31 ?_
      exact q_bret rfl (Or.inl rfl) h dY_areSeen_32
    · replace h := h.2 hc
      refine r_iconst dY_areSeen_27 ?_
      refine r_goto (tgt := 32) dY_areSeen_28 (by decide) ?_
      exact q_bret rfl (Or.inr rfl) h dY_areSeen_32
theorem dY_findSo_0 : decode mY_findSo.2.1 0 = .ok (.aload_n 0, 1) := by decide +kernel
theorem dY_findSo_1 : decode mY_findSo.2.1 1 = .ok (.invokevirtual 284, 3) := by decide +kernel
theorem dY_findSo_4 : decode mY_findSo.2.1 4 = .ok (.aload_n 0, 1) := by decide +kernel
theorem dY_findSo_5 : decode mY_findSo.2.1 5 = .ok (.lconst 0, 1) := by decide +kernel
theorem dY_findSo_6 : decode mY_findSo.2.1 6 = .ok (.putfield 320, 3) := by decide +kernel
theorem dY_findSo_9 : decode mY_findSo.2.1 9 = .ok (.iconst 0, 1) := by decide +kernel
theorem dY_findSo_10 : decode mY_findSo.2.1 10 = .ok (.istore_n 2, 1) := by decide +kernel
theorem dY_findSo_11 : decode mY_findSo.2.1 11 = .ok (.iload_n 2, 1) := by decide +kernel
theorem dY_findSo_12 : decode mY_findSo.2.1 12 = .ok (.aload_n 0, 1) := by decide +kernel
theorem dY_findSo_13 : decode mY_findSo.2.1 13 = .ok (.getfield 130, 3) := by decide +kernel
theorem dY_findSo_16 : decode mY_findSo.2.1 16 = .ok (.if_icmp .ge 23, 3) := by decide +kernel
theorem dY_findSo_19 : decode mY_findSo.2.1 19 = .ok (.aload_n 0, 1) := by decide +kernel
theorem dY_findSo_20 : decode mY_findSo.2.1 20 = .ok (.getfield 85, 3) := by decide +kernel
theorem dY_findSo_23 : decode mY_findSo.2.1 23 = .ok (.iload_n 2, 1) := by decide +kernel
theorem dY_findSo_24 : decode mY_findSo.2.1 24 = .ok (.lconst 0, 1) := by decide +kernel
theorem dY_findSo_25 : decode mY_findSo.2.1 25 = .ok (.lastore, 1) := by decide +kernel
theorem dY_findSo_26 : decode mY_findSo.2.1 26 = .ok (.aload_n 0, 1) := by decide +kernel
theorem dY_findSo_27 : decode mY_findSo.2.1 27 = .ok (.getfield 88, 3) := by decide +kernel
theorem dY_findSo_30 : decode mY_findSo.2.1 30 = .ok (.iload_n 2, 1) := by decide +kernel
theorem dY_findSo_31 : decode mY_findSo.2.1 31 = .ok (.lconst 0, 1) := by decide +kernel
theorem dY_findSo_32 : decode mY_findSo.2.1 32 = .ok (.lastore, 1) := by decide +kernel
theorem dY_findSo_33 : decode mY_findSo.2.1 33 = .ok (.iinc 2 1, 3) := by decide +kernel
theorem dY_findSo_36 : decode mY_findSo.2.1 36 = .ok (.goto (-25), 3) := by decide +kernel
theorem dY_findSo_39 : decode mY_findSo.2.1 39 = .ok (.iload_n 1, 1) := by decide +kernel
theorem dY_findSo_40 : decode mY_findSo.2.1 40 = .ok (.sipush 512, 3) := by decide +kernel
theorem dY_findSo_43 : decode mY_findSo.2.1 43 = .ok (.idiv, 1) := by decide +kernel
theorem dY_findSo_44 : decode mY_findSo.2.1 44 = .ok (.aload_n 0, 1) := by decide +kernel
theorem dY_findSo_45 : decode mY_findSo.2.1 45 = .ok (.invokevirtual 272, 3) := by decide +kernel
theorem dY_findSo_48 : decode mY_findSo.2.1 48 = .ok (.iconst 1, 1) := by decide +kernel
theorem dY_findSo_49 : decode mY_findSo.2.1 49 = .ok (.isub, 1) := by decide +kernel
theorem dY_findSo_50 : decode mY_findSo.2.1 50 = .ok (.iand, 1) := by decide +kernel
theorem dY_findSo_51 : decode mY_findSo.2.1 51 = .ok (.istore_n 2, 1) := by decide +kernel
theorem dY_findSo_52 : decode mY_findSo.2.1 52 = .ok (.iconst 0, 1) := by decide +kernel
theorem dY_findSo_53 : decode mY_findSo.2.1 53 = .ok (.istore_n 3, 1) := by decide +kernel
theorem dY_findSo_54 : decode mY_findSo.2.1 54 = .ok (.iload_n 3, 1) := by decide +kernel
theorem dY_findSo_55 : decode mY_findSo.2.1 55 = .ok (.aload_n 0, 1) := by decide +kernel
theorem dY_findSo_56 : decode mY_findSo.2.1 56 = .ok (.invokevirtual 272, 3) := by decide +kernel
theorem dY_findSo_59 : decode mY_findSo.2.1 59 = .ok (.if_icmp .ge 119, 3) := by decide +kernel
theorem dY_findSo_62 : decode mY_findSo.2.1 62 = .ok (.aload_n 0, 1) := by decide +kernel
theorem dY_findSo_63 : decode mY_findSo.2.1 63 = .ok (.iload_n 3, 1) := by decide +kernel
theorem dY_findSo_64 : decode mY_findSo.2.1 64 = .ok (.invokevirtual 268, 3) := by decide +kernel
theorem dY_findSo_67 : decode mY_findSo.2.1 67 = .ok (.aload_n 0, 1) := by decide +kernel
theorem dY_findSo_68 : decode mY_findSo.2.1 68 = .ok (.getfield 257, 3) := by decide +kernel
theorem dY_findSo_71 : decode mY_findSo.2.1 71 = .ok (.iload_n 2, 1) := by decide +kernel
theorem dY_findSo_72 : decode mY_findSo.2.1 72 = .ok (.iand, 1) := by decide +kernel
theorem dY_findSo_73 : decode mY_findSo.2.1 73 = .ok (.iload_n 1, 1) := by decide +kernel
theorem dY_findSo_74 : decode mY_findSo.2.1 74 = .ok (.sipush 512, 3) := by decide +kernel
theorem dY_findSo_77 : decode mY_findSo.2.1 77 = .ok (.irem, 1) := by decide +kernel
theorem dY_findSo_78 : decode mY_findSo.2.1 78 = .ok (.iload_n 2, 1) := by decide +kernel
theorem dY_findSo_79 : decode mY_findSo.2.1 79 = .ok (.iand, 1) := by decide +kernel
theorem dY_findSo_80 : decode mY_findSo.2.1 80 = .ok (.if_icmp .eq 6, 3) := by decide +kernel
theorem dY_findSo_83 : decode mY_findSo.2.1 83 = .ok (.goto 89, 3) := by decide +kernel
theorem dY_findSo_86 : decode mY_findSo.2.1 86 = .ok (.aload_n 0, 1) := by decide +kernel
theorem dY_findSo_87 : decode mY_findSo.2.1 87 = .ok (.iload_n 3, 1) := by decide +kernel
theorem dY_findSo_88 : decode mY_findSo.2.1 88 = .ok (.invokevirtual 278, 3) := by decide +kernel
theorem dY_findSo_91 : decode mY_findSo.2.1 91 = .ok (.lstore 4, 2) := by decide +kernel
theorem dY_findSo_93 : decode mY_findSo.2.1 93 = .ok (.aload_n 0, 1) := by decide +kernel
theorem dY_findSo_94 : decode mY_findSo.2.1 94 = .ok (.dup, 1) := by decide +kernel
theorem dY_findSo_95 : decode mY_findSo.2.1 95 = .ok (.getfield 320, 3) := by decide +kernel
theorem dY_findSo_98 : decode mY_findSo.2.1 98 = .ok (.lload 4, 2) := by decide +kernel
theorem dY_findSo_100 : decode mY_findSo.2.1 100 = .ok (.ladd, 1) := by decide +kernel
theorem dY_findSo_101 : decode mY_findSo.2.1 101 = .ok (.putfield 320, 3) := by decide +kernel
theorem dY_findSo_104 : decode mY_findSo.2.1 104 = .ok (.iconst 0, 1) := by decide +kernel
theorem dY_findSo_105 : decode mY_findSo.2.1 105 = .ok (.istore 6, 2) := by decide +kernel
theorem dY_findSo_107 : decode mY_findSo.2.1 107 = .ok (.iload 6, 2) := by decide +kernel
theorem dY_findSo_109 : decode mY_findSo.2.1 109 = .ok (.aload_n 0, 1) := by decide +kernel
theorem dY_findSo_110 : decode mY_findSo.2.1 110 = .ok (.getfield 130, 3) := by decide +kernel
theorem dY_findSo_113 : decode mY_findSo.2.1 113 = .ok (.if_icmp .ge 59, 3) := by decide +kernel
theorem dY_findSo_116 : decode mY_findSo.2.1 116 = .ok (.aload_n 0, 1) := by decide +kernel
theorem dY_findSo_117 : decode mY_findSo.2.1 117 = .ok (.getfield 254, 3) := by decide +kernel
theorem dY_findSo_120 : decode mY_findSo.2.1 120 = .ok (.iload 6, 2) := by decide +kernel
theorem dY_findSo_122 : decode mY_findSo.2.1 122 = .ok (.ishr, 1) := by decide +kernel
theorem dY_findSo_123 : decode mY_findSo.2.1 123 = .ok (.iconst 1, 1) := by decide +kernel
theorem dY_findSo_124 : decode mY_findSo.2.1 124 = .ok (.iand, 1) := by decide +kernel
theorem dY_findSo_125 : decode mY_findSo.2.1 125 = .ok (.iconst 1, 1) := by decide +kernel
theorem dY_findSo_126 : decode mY_findSo.2.1 126 = .ok (.if_icmp .ne 15, 3) := by decide +kernel
theorem dY_findSo_129 : decode mY_findSo.2.1 129 = .ok (.aload_n 0, 1) := by decide +kernel
theorem dY_findSo_130 : decode mY_findSo.2.1 130 = .ok (.getfield 85, 3) := by decide +kernel
theorem dY_findSo_133 : decode mY_findSo.2.1 133 = .ok (.iload 6, 2) := by decide +kernel
theorem dY_findSo_135 : decode mY_findSo.2.1 135 = .ok (.dup2, 1) := by decide +kernel
theorem dY_findSo_136 : decode mY_findSo.2.1 136 = .ok (.laload, 1) := by decide +kernel
theorem dY_findSo_137 : decode mY_findSo.2.1 137 = .ok (.lload 4, 2) := by decide +kernel
theorem dY_findSo_139 : decode mY_findSo.2.1 139 = .ok (.ladd, 1) := by decide +kernel
theorem dY_findSo_140 : decode mY_findSo.2.1 140 = .ok (.lastore, 1) := by decide +kernel
theorem dY_findSo_141 : decode mY_findSo.2.1 141 = .ok (.aload_n 0, 1) := by decide +kernel
theorem dY_findSo_142 : decode mY_findSo.2.1 142 = .ok (.getfield 257, 3) := by decide +kernel
theorem dY_findSo_145 : decode mY_findSo.2.1 145 = .ok (.iload 6, 2) := by decide +kernel
theorem dY_findSo_147 : decode mY_findSo.2.1 147 = .ok (.ishr, 1) := by decide +kernel
theorem dY_findSo_148 : decode mY_findSo.2.1 148 = .ok (.iconst 1, 1) := by decide +kernel
theorem dY_findSo_149 : decode mY_findSo.2.1 149 = .ok (.iand, 1) := by decide +kernel
theorem dY_findSo_150 : decode mY_findSo.2.1 150 = .ok (.iconst 1, 1) := by decide +kernel
theorem dY_findSo_151 : decode mY_findSo.2.1 151 = .ok (.if_icmp .ne 15, 3) := by decide +kernel
theorem dY_findSo_154 : decode mY_findSo.2.1 154 = .ok (.aload_n 0, 1) := by decide +kernel
theorem dY_findSo_155 : decode mY_findSo.2.1 155 = .ok (.getfield 88, 3) := by decide +kernel
theorem dY_findSo_158 : decode mY_findSo.2.1 158 = .ok (.iload 6, 2) := by decide +kernel
theorem dY_findSo_160 : decode mY_findSo.2.1 160 = .ok (.dup2, 1) := by decide +kernel
theorem dY_findSo_161 : decode mY_findSo.2.1 161 = .ok (.laload, 1) := by decide +kernel
theorem dY_findSo_162 : decode mY_findSo.2.1 162 = .ok (.lload 4, 2) := by decide +kernel
theorem dY_findSo_164 : decode mY_findSo.2.1 164 = .ok (.ladd, 1) := by decide +kernel
theorem dY_findSo_165 : decode mY_findSo.2.1 165 = .ok (.lastore, 1) := by decide +kernel
theorem dY_findSo_166 : decode mY_findSo.2.1 166 = .ok (.iinc 6 1, 3) := by decide +kernel
theorem dY_findSo_169 : decode mY_findSo.2.1 169 = .ok (.goto (-62), 3) := by decide +kernel
theorem dY_findSo_172 : decode mY_findSo.2.1 172 = .ok (.iinc 3 1, 3) := by decide +kernel
theorem dY_findSo_175 : decode mY_findSo.2.1 175 = .ok (.goto (-121), 3) := by decide +kernel
theorem dY_findSo_178 : decode mY_findSo.2.1 178 = .ok (.return_, 1) := by decide +kernel
/- Y_findSo: (I)V -/
set_option maxRecDepth 4000 in
theorem wY_findSo {X : Cx} (a1 : Int) (sw : Bool) (m : Mem) (Q : Int → Bool → Mem → Prop) (h : M2 X 5 mY_layTwelfths [vr 84] sw m (fun z1 sw1 m1 => R2 X 6 mY_findSo 11 [(0, vr 84), (1, vi a1), (2, vi 0)] [] sw1 (upm m1 84 35 0) Q)) : M2 X 6 mY_findSo [vr 84, vi a1] sw m Q := by
  refine Mt.of pY_findSo (Nat.le_of_ble_eq_true rfl) (Nat.le_refl _) ?_
  show R2 X 6 mY_findSo 0 [(0, vr 84), (1, vi a1)] [] sw m Q
  refine r_aload_n 0 0 rfl dY_findSo_0 rfl ?_
  refine r_callVv 12 [] rfl c84 rfl rfl oY_layTwelfths iY_layTwelfths sY_layTwelfths yY_284 (by decide) ⟨Nat.le_refl _, Nat.le_refl _⟩ rfl (Nat.le_of_ble_eq_true rfl) dY_findSo_1 h (fun z1 r1 m1 h => ?_)
  obtain ⟨sw1, rfl, h⟩ := h
  refine r_aload_n 0 0 rfl dY_findSo_4 rfl ?_
  refine r_lconst dY_findSo_5 ?_
  refine q_putL 35 c84 pfY_320 rfl rfl dY_findSo_6 ?_
  refine r_iconst dY_findSo_9 ?_
  refine r_istore_n 2 (by decide) dY_findSo_10 rfl ?_
  refine r_sub [1, 2, 0] ?_ h
  rfl
set_option maxRecDepth 4000 in
theorem wY_findSo_11 {X : Cx} (x1 x2 : Int) (sw : Bool) (m : Mem) (Q : Int → Bool → Mem → Prop) (h : ((w32 (m 84 1) ≤ w32 x2 → M2 X 1 mY_sets [vr 84] sw m (fun z1 sw1 m1 => R2 X 6 mY_findSo 54 [(0, vr 84), (1, vi x1), (2, vi (zand (zdiv x1 512) (z1 - 1))), (3, vi 0)] [] sw1 m1 Q)) ∧ (¬ (w32 (m 84 1) ≤ w32 x2) → ((0 ≤ w32 x2 ∧ w32 x2 < 9) ∧ ((0 ≤ w32 x2 ∧ w32 x2 < 9) ∧ R2 X 6 mY_findSo 11 [(0, vr 84), (1, vi x1), (2, vi (x2 + 1))] [] sw (upm (upm m 107 (w32 x2) 0) 108 (w32 x2) 0) Q))))) : R2 X 6 mY_findSo 11 [(0, vr 84), (1, vi x1), (2, vi x2)] [] sw m Q := by
  refine r_iload_n 2 2 rfl dY_findSo_11 rfl ?_
  refine r_aload_n 0 0 rfl dY_findSo_12 rfl ?_
  refine q_getI 1 c84 fY_130 rfl rfl dY_findSo_13 ?_
  refine r_ifc_ge (tgt := 39) dY_findSo_16 (by decide) (fun hc => ?_) (fun hc => ?_)
  · replace h := h.1 hc
    refine r_iload_n 1 1 rfl dY_findSo_39 rfl ?_
    refine r_sipush (by decide) dY_findSo_40 ?_
    refine r_idiv (by decide) dY_findSo_43 ?_
    refine r_aload_n 0 0 rfl dY_findSo_44 rfl ?_
    refine r_callVi 12 [] rfl c84 rfl rfl oY_sets iY_sets sY_sets yY_272 (by decide) ⟨Nat.le_refl _, Nat.le_refl _⟩ rfl (Nat.le_of_ble_eq_true rfl) dY_findSo_45 h (fun z1 r1 m1 h => ?_)
    obtain ⟨sw1, rfl, h⟩ := h
    refine r_iconst dY_findSo_48 ?_
    refine r_isub dY_findSo_49 ?_
    refine r_iand dY_findSo_50 ?_
    refine r_istore_n 2 (by decide) dY_findSo_51 rfl ?_
    refine r_iconst dY_findSo_52 ?_
    refine r_istore_n 3 (by decide) dY_findSo_53 rfl ?_
    refine r_sub [2, 3, 1, 0] ?_ h
    rfl
  · replace h := h.2 hc
    refine r_aload_n 0 0 rfl dY_findSo_19 rfl ?_
    refine q_getR 36 c84 fY_85 rfl rfl (g84_36 sw) (by decide) dY_findSo_20 ?_
    refine r_iload_n 2 2 rfl dY_findSo_23 rfl ?_
    refine r_lconst dY_findSo_24 ?_
    refine q_lastore (w32 x2) rfl c107 h.1 dY_findSo_25 ?_
    replace h := h.2
    refine r_aload_n 0 0 rfl dY_findSo_26 rfl ?_
    refine q_getR 37 c84 fY_88 rfl rfl (g84_37 sw) (by decide) dY_findSo_27 ?_
    refine r_iload_n 2 2 rfl dY_findSo_30 rfl ?_
    refine r_lconst dY_findSo_31 ?_
    refine q_lastore (w32 x2) rfl c108 h.1 dY_findSo_32 ?_
    replace h := h.2
    refine r_iinc 2 2 rfl (by decide) dY_findSo_33 ?_
    refine r_goto (tgt := 11) dY_findSo_36 (by decide) ?_
    refine r_sub [1, 2, 0] ?_ h
    rfl
set_option maxRecDepth 4000 in
theorem wY_findSo_54 {X : Cx} (x1 x2 x3 : Int) (sw : Bool) (m : Mem) (Q : Int → Bool → Mem → Prop) (h : M2 X 1 mY_sets [vr 84] sw m (fun z1 sw1 m1 => ((w32 z1 ≤ w32 x3 → Q 0 sw1 m1) ∧ (¬ (w32 z1 ≤ w32 x3) → M2 X 2 mY_goMorning [vr 84, vi x3] sw1 m1 (fun z2 sw2 m2 => ((w32 (zand (m2 84 31) x2) = w32 (zand (zrem x1 512) x2) → M2 X 1 mY_oddsOf [vr 84, vi x3] sw2 m2 (fun z3 sw3 m3 => R2 X 6 mY_findSo 107 [(0, vr 84), (1, vi x1), (2, vi x2), (3, vi x3), (4, vl z3), (6, vi 0)] [] sw3 (upm m3 84 35 ((m3 84 35) + z3)) Q)) ∧ (¬ (w32 (zand (m2 84 31) x2) = w32 (zand (zrem x1 512) x2)) → R2 X 6 mY_findSo 54 [(0, vr 84), (1, vi x1), (2, vi x2), (3, vi (x3 + 1))] [] sw2 m2 Q))))))) : R2 X 6 mY_findSo 54 [(0, vr 84), (1, vi x1), (2, vi x2), (3, vi x3)] [] sw m Q := by
  refine r_iload_n 3 3 rfl dY_findSo_54 rfl ?_
  refine r_aload_n 0 0 rfl dY_findSo_55 rfl ?_
  refine r_callVi 12 [] rfl c84 rfl rfl oY_sets iY_sets sY_sets yY_272 (by decide) ⟨Nat.le_refl _, Nat.le_refl _⟩ rfl (Nat.le_of_ble_eq_true rfl) dY_findSo_56 h (fun z1 r1 m1 h => ?_)
  obtain ⟨sw1, rfl, h⟩ := h
  refine r_ifc_ge (tgt := 178) dY_findSo_59 (by decide) (fun hc => ?_) (fun hc => ?_)
  · replace h := h.1 hc
    exact q_vret rfl h dY_findSo_178
  · replace h := h.2 hc
    refine r_aload_n 0 0 rfl dY_findSo_62 rfl ?_
    refine r_iload_n 3 3 rfl dY_findSo_63 rfl ?_
    refine r_callVv 12 [_] rfl c84 rfl rfl oY_goMorning iY_goMorning sY_goMorning yY_268 (by decide) ⟨Nat.le_refl _, Nat.le_refl _⟩ rfl (Nat.le_of_ble_eq_true rfl) dY_findSo_64 h (fun z2 r2 m2 h => ?_)
    obtain ⟨sw2, rfl, h⟩ := h
    refine r_aload_n 0 0 rfl dY_findSo_67 rfl ?_
    refine q_getI 31 c84 fY_257 rfl rfl dY_findSo_68 ?_
    refine r_iload_n 2 2 rfl dY_findSo_71 rfl ?_
    refine r_iand dY_findSo_72 ?_
    refine r_iload_n 1 1 rfl dY_findSo_73 rfl ?_
    refine r_sipush (by decide) dY_findSo_74 ?_
    refine r_irem (by decide) dY_findSo_77 ?_
    refine r_iload_n 2 2 rfl dY_findSo_78 rfl ?_
    refine r_iand dY_findSo_79 ?_
    refine r_ifc_eq (tgt := 86) dY_findSo_80 (by decide) (fun hc => ?_) (fun hc => ?_)
    · replace h := h.1 hc
      refine r_aload_n 0 0 rfl dY_findSo_86 rfl ?_
      refine r_iload_n 3 3 rfl dY_findSo_87 rfl ?_
      refine r_callVl 12 [_] rfl c84 rfl rfl oY_oddsOf iY_oddsOf sY_oddsOf yY_278 (by decide) ⟨Nat.le_refl _, Nat.le_refl _⟩ rfl (Nat.le_of_ble_eq_true rfl) dY_findSo_88 h (fun z3 r3 m3 h => ?_)
      obtain ⟨sw3, rfl, h⟩ := h
      refine r_lstore 4 (by decide) dY_findSo_91 ?_
      refine r_aload_n 0 1 rfl dY_findSo_93 rfl ?_
      refine r_dup (fun q => by cases q) dY_findSo_94 ?_
      refine q_getL 35 c84 fY_320 rfl rfl dY_findSo_95 ?_
      refine r_lload 4 0 rfl dY_findSo_98 ?_
      refine r_ladd dY_findSo_100 ?_
      refine q_putL 35 c84 pfY_320 rfl rfl dY_findSo_101 ?_
      refine r_iconst dY_findSo_104 ?_
      refine r_istore 6 (by decide) dY_findSo_105 ?_
      refine r_sub [2, 3, 4, 5, 1, 0] ?_ h
      rfl
    · replace h := h.2 hc
      refine r_goto (tgt := 172) dY_findSo_83 (by decide) ?_
      refine r_iinc 3 3 rfl (by decide) dY_findSo_172 ?_
      refine r_goto (tgt := 54) dY_findSo_175 (by decide) ?_
      refine r_sub [1, 2, 3, 0] ?_ h
      rfl
set_option maxRecDepth 4000 in
theorem wY_findSo_107 {X : Cx} (x1 x2 x3 x4 x6 : Int) (sw : Bool) (m : Mem) (Q : Int → Bool → Mem → Prop) (h : ((w32 (m 84 1) ≤ w32 x6 → R2 X 6 mY_findSo 54 [(0, vr 84), (1, vi x1), (2, vi x2), (3, vi (x3 + 1))] [] sw m Q) ∧ (¬ (w32 (m 84 1) ≤ w32 x6) → ((¬ w32 (zand (zshr (m 84 30) x6) 1) = 1 → ((¬ w32 (zand (zshr (m 84 31) x6) 1) = 1 → R2 X 6 mY_findSo 107 [(0, vr 84), (1, vi x1), (2, vi x2), (3, vi x3), (4, vl x4), (6, vi (x6 + 1))] [] sw m Q) ∧ (¬ (¬ w32 (zand (zshr (m 84 31) x6) 1) = 1) → ((0 ≤ w32 x6 ∧ w32 x6 < 9) ∧ ((0 ≤ w32 x6 ∧ w32 x6 < 9) ∧ R2 X 6 mY_findSo 107 [(0, vr 84), (1, vi x1), (2, vi x2), (3, vi x3), (4, vl x4), (6, vi (x6 + 1))] [] sw (upm m 108 (w32 x6) ((m 108 (w32 x6)) + x4)) Q))))) ∧ (¬ (¬ w32 (zand (zshr (m 84 30) x6) 1) = 1) → ((0 ≤ w32 x6 ∧ w32 x6 < 9) ∧ ((0 ≤ w32 x6 ∧ w32 x6 < 9) ∧ ((¬ w32 (zand (zshr (m 84 31) x6) 1) = 1 → R2 X 6 mY_findSo 107 [(0, vr 84), (1, vi x1), (2, vi x2), (3, vi x3), (4, vl x4), (6, vi (x6 + 1))] [] sw (upm m 107 (w32 x6) ((m 107 (w32 x6)) + x4)) Q) ∧ (¬ (¬ w32 (zand (zshr (m 84 31) x6) 1) = 1) → ((0 ≤ w32 x6 ∧ w32 x6 < 9) ∧ ((0 ≤ w32 x6 ∧ w32 x6 < 9) ∧ R2 X 6 mY_findSo 107 [(0, vr 84), (1, vi x1), (2, vi x2), (3, vi x3), (4, vl x4), (6, vi (x6 + 1))] [] sw (upm (upm m 107 (w32 x6) ((m 107 (w32 x6)) + x4)) 108 (w32 x6) ((m 108 (w32 x6)) + x4)) Q))))))))))) : R2 X 6 mY_findSo 107 [(0, vr 84), (1, vi x1), (2, vi x2), (3, vi x3), (4, vl x4), (6, vi x6)] [] sw m Q := by
  refine r_iload 6 5 rfl dY_findSo_107 ?_
  refine r_aload_n 0 0 rfl dY_findSo_109 rfl ?_
  refine q_getI 1 c84 fY_130 rfl rfl dY_findSo_110 ?_
  refine r_ifc_ge (tgt := 172) dY_findSo_113 (by decide) (fun hc => ?_) (fun hc => ?_)
  · replace h := h.1 hc
    refine r_iinc 3 3 rfl (by decide) dY_findSo_172 ?_
    refine r_goto (tgt := 54) dY_findSo_175 (by decide) ?_
    refine r_sub [1, 2, 3, 0] ?_ h
    rfl
  · replace h := h.2 hc
    refine r_aload_n 0 0 rfl dY_findSo_116 rfl ?_
    refine q_getI 30 c84 fY_254 rfl rfl dY_findSo_117 ?_
    refine r_iload 6 5 rfl dY_findSo_120 ?_
    refine r_ishr dY_findSo_122 ?_
    refine r_iconst dY_findSo_123 ?_
    refine r_iand dY_findSo_124 ?_
    refine r_iconst dY_findSo_125 ?_
    refine r_ifc_ne (tgt := 141) dY_findSo_126 (by decide) (fun hc => ?_) (fun hc => ?_)
    · replace h := h.1 hc
      refine r_aload_n 0 0 rfl dY_findSo_141 rfl ?_
      refine q_getI 31 c84 fY_257 rfl rfl dY_findSo_142 ?_
      refine r_iload 6 5 rfl dY_findSo_145 ?_
      refine r_ishr dY_findSo_147 ?_
      refine r_iconst dY_findSo_148 ?_
      refine r_iand dY_findSo_149 ?_
      refine r_iconst dY_findSo_150 ?_
      refine r_ifc_ne (tgt := 166) dY_findSo_151 (by decide) (fun hc => ?_) (fun hc => ?_)
      · replace h := h.1 hc
        refine r_iinc 6 5 rfl (by decide) dY_findSo_166 ?_
        refine r_goto (tgt := 107) dY_findSo_169 (by decide) ?_
        refine r_sub [1, 2, 3, 4, 5, 0] ?_ h
        rfl
      · replace h := h.2 hc
        refine r_aload_n 0 0 rfl dY_findSo_154 rfl ?_
        refine q_getR 37 c84 fY_88 rfl rfl (g84_37 sw) (by decide) dY_findSo_155 ?_
        refine r_iload 6 5 rfl dY_findSo_158 ?_
        refine r_dup2 (fun q => by cases q) (fun q => by cases q) dY_findSo_160 ?_
        refine q_laload (w32 x6) rfl c108 h.1 dY_findSo_161 ?_
        replace h := h.2
        refine r_lload 4 4 rfl dY_findSo_162 ?_
        refine r_ladd dY_findSo_164 ?_
        refine q_lastore (w32 x6) rfl c108 h.1 dY_findSo_165 ?_
        replace h := h.2
        refine r_iinc 6 5 rfl (by decide) dY_findSo_166 ?_
        refine r_goto (tgt := 107) dY_findSo_169 (by decide) ?_
        refine r_sub [1, 2, 3, 4, 5, 0] ?_ h
        rfl
    · replace h := h.2 hc
      refine r_aload_n 0 0 rfl dY_findSo_129 rfl ?_
      refine q_getR 36 c84 fY_85 rfl rfl (g84_36 sw) (by decide) dY_findSo_130 ?_
      refine r_iload 6 5 rfl dY_findSo_133 ?_
      refine r_dup2 (fun q => by cases q) (fun q => by cases q) dY_findSo_135 ?_
      refine q_laload (w32 x6) rfl c107 h.1 dY_findSo_136 ?_
      replace h := h.2
      refine r_lload 4 4 rfl dY_findSo_137 ?_
      refine r_ladd dY_findSo_139 ?_
      refine q_lastore (w32 x6) rfl c107 h.1 dY_findSo_140 ?_
      replace h := h.2
      refine r_aload_n 0 0 rfl dY_findSo_141 rfl ?_
      refine q_getI 31 c84 fY_257 rfl rfl dY_findSo_142 ?_
      refine r_iload 6 5 rfl dY_findSo_145 ?_
      refine r_ishr dY_findSo_147 ?_
      refine r_iconst dY_findSo_148 ?_
      refine r_iand dY_findSo_149 ?_
      refine r_iconst dY_findSo_150 ?_
      refine r_ifc_ne (tgt := 166) dY_findSo_151 (by decide) (fun hc => ?_) (fun hc => ?_)
      · replace h := h.1 hc
        refine r_iinc 6 5 rfl (by decide) dY_findSo_166 ?_
        refine r_goto (tgt := 107) dY_findSo_169 (by decide) ?_
        refine r_sub [1, 2, 3, 4, 5, 0] ?_ h
        rfl
      · replace h := h.2 hc
        refine r_aload_n 0 0 rfl dY_findSo_154 rfl ?_
        refine q_getR 37 c84 fY_88 rfl rfl (g84_37 sw) (by decide) dY_findSo_155 ?_
        refine r_iload 6 5 rfl dY_findSo_158 ?_
        refine r_dup2 (fun q => by cases q) (fun q => by cases q) dY_findSo_160 ?_
        refine q_laload (w32 x6) rfl c108 h.1 dY_findSo_161 ?_
        replace h := h.2
        refine r_lload 4 4 rfl dY_findSo_162 ?_
        refine r_ladd dY_findSo_164 ?_
        refine q_lastore (w32 x6) rfl c108 h.1 dY_findSo_165 ?_
        replace h := h.2
        refine r_iinc 6 5 rfl (by decide) dY_findSo_166 ?_
        refine r_goto (tgt := 107) dY_findSo_169 (by decide) ?_
        refine r_sub [1, 2, 3, 4, 5, 0] ?_ h
        rfl
