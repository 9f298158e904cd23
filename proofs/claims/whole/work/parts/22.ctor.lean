/-! the constructors -/
def za (r : Mem) (n : Nat) : Prop := ∀ i j : Int, (n : Int) + 1 ≤ i → r i j = 0
theorem za_mono {r : Mem} {n n' : Nat} (h : n ≤ n') (z : za r n) : za r n' := fun i j hi => z i j (by omega)
theorem za_up {r : Mem} {n : Nat} {k i v : Int} (h : k ≤ (n : Int)) (z : za r n) : za (upm r k i v) n := fun a b ha => (upm_ne (by omega)).trans (z a b ha)
theorem za_gro {r : Mem} {n N : Nat} {k : Int} (h : k ≤ (n : Int)) (z : za r n) : za (gro r k N) n := fun a b ha => (if_neg (by omega)).trans (z a b ha)
section RW6
variable {X : Cx} {d n0 n' n : Nat} {M : Md} {pc : Nat} {lv : List (Nat × AV)} {st : List AV} {r m : Mem} {Q : Int → Mem → Mem → Prop}
theorem r_putF {k z : Int} (jz : Int) {ci j ix : Nat} {c0 : vw_C} (hk : isO n k ci) (hc : clsT[ci]? = some c0) (hj : j < c0.2.2) (hjz : ((j : Nat) : Int) = jz) (hcls : M.1.cls = c0.1) (hinit : M.1.name = "<init>") (hdecl : (c0.2.1 j).1 = c0.1) (hfin : (c0.2.1 j).2.2.2 = true) (hl : Cond.fieldLink M.1.cls ix c0.1 (c0.2.1 j).2.1 (c0.2.1 j).2.2.1 ∈ Tg) (hty : isRf (tyC ci j) = true) (hz : ¬ z = 0) (hdg : decode M.2.1 pc = .ok (.putfield ix, 3)) (kk : RR X d M n0 n' n (pc + 3) lv st (upm r k jz z) m Q) : RR X d M n0 n' n pc lv (vr z :: vr k :: st) r m Q := by
  subst hjz
  intro p R e s mm args below meth c H locs ls F G K E
  have h0 := K.1.2 k.toNat _ (by have := hk.1; omega) hk.2.2.1 hk.2.2.2
  have ek : ((k.toNat : Nat) : Int) = k := Int.toNat_of_nonneg (by have := hk.1; omega)
  simp only [cellAt, ek] at h0
  rw [← show adr X k = xB X + k.toNat from if_pos hk.2.1] at h0
  obtain ⟨c', hc', cell, g1, g2, g3, g4⟩ := h0
  cases hc.symm.trans hc'
  obtain ⟨w1, w2, w3⟩ := clsW ci c0 hc
  have hap := kz_apart (cls := M.1.cls) (mm := mm) F.t F.cx.1 ci c0 hc
  obtain ⟨hS, hfc, kC, hkC, hkind⟩ := F.cx.1.1 ci c0 hc
  obtain ⟨cf, kf, fi, f, hi, hsl⟩ := hS j hj
  have hlay := F.t _ (w1 _ (u_in_lay hj))
  unfold u_lay at hlay
  rw [if_pos hfin] at hlay
  have hst := (u_facts hfc hkC (u_lays F.t w1 hj) hi).1
  have hcf : mm.cls = cf := by
    obtain ⟨_, _, c', _, _, _, -, -, hf', -, -, -, hown2, -⟩ := Cond.laysFinal_spec hlay
    have e1 : c' = cf := by have := hi.symm.trans hf'; simp at this; exact this.1.symm
    rw [hdecl, ← hcls] at hown2
    rw [← e1]; exact Option.some.inj (F.o.symm.trans hown2)
  have e1 : cv X (vr z) = rfv X (upm r k (j : Int) z k (j : Int)) := by rw [upm_eq]; exact (if_neg hz).symm
  have hv : cv X (vr z) = fldv X (tyC ci j) (upm r k (j : Int) z k (j : Int)) (m k (j : Int)) ∧ narrow (tyC ci j) (cv X (vr z)) = cv X (vr z) ∧ fits (tyC ci j) (cv X (vr z)) = true := by
    generalize tyC ci j = ty at hty
    cases ty <;> first | exact ⟨e1, rfl, rfl⟩ | (exact absurd hty (by decide))
  have h6 := u_fits hfc hkC hkind (Or.inr hlay) hi (w3 j hj) hv.2.1 hv.2.2
  rw [hdecl] at hi
  refine W.putFinK F.x F.b F.o (F.t _ hl) hi hst hcf (F.n hinit) (by rw [g2]; exact h6) g1 g3 (by rw [hsl]; exact k2_hasslot (g4 j hj)) rfl rfl hdg fun H' e1 e2 e3 => ?_
  rw [hsl] at e1 ⊢
  exact kk F G (K.put (K.1.setO hk hc hj hap g1 hv.1 kz_up2 e1 e2 e3) (adr_pos hk.1 hk.2.1) e2 e3) E
end RW6
theorem yK_22 : Lk "WokenByKettle$Kitchen" 22 mL_init.1 := Or.inr ⟨"WokenByKettle", mN 36 (by decide +kernel) rfl⟩
theorem yZ_9 : Lk "WokenByKettle" 9 mK_init.1 := Or.inr ⟨"WokenByKettle", mN 28 (by decide +kernel) rfl⟩
theorem yZ_12 : Lk "WokenByKettle" 12 mP_init.1 := Or.inr ⟨"WokenByKettle", mN 103 (by decide +kernel) rfl⟩
theorem yZ_17 : Lk "WokenByKettle" 17 mT_init.1 := Or.inr ⟨"WokenByKettle", mN 144 (by decide +kernel) rfl⟩
theorem yZ_36 : Lk "WokenByKettle" 36 mC_init.1 := Or.inr ⟨"WokenByKettle", mN 190 (by decide +kernel) rfl⟩
theorem yZ_45 : Lk "WokenByKettle" 45 mI_init.1 := Or.inr ⟨"WokenByKettle", mN 209 (by decide +kernel) rfl⟩
theorem yZ_52 : Lk "WokenByKettle" 52 mN_init.1 := Or.inr ⟨"WokenByKettle", mN 240 (by decide +kernel) rfl⟩
theorem yZ_59 : Lk "WokenByKettle" 59 mD_init.1 := Or.inr ⟨"WokenByKettle", mN 272 (by decide +kernel) rfl⟩
theorem yZ_66 : Lk "WokenByKettle" 66 mG_init.1 := Or.inr ⟨"WokenByKettle", mN 300 (by decide +kernel) rfl⟩
theorem yZ_73 : Lk "WokenByKettle" 73 mA_init.1 := Or.inr ⟨"WokenByKettle", mN 329 (by decide +kernel) rfl⟩
theorem yZ_80 : Lk "WokenByKettle" 80 mS_init.1 := Or.inr ⟨"WokenByKettle", mN 356 (by decide +kernel) rfl⟩
theorem yW_9 : Lk "WokenByKettleLaw" 9 mZ_init.1 := Or.inl (mT 163 (by decide +kernel) rfl)
theorem yW_12 : Lk "WokenByKettleLaw" 12 mY_init.1 := Or.inl (mT 1213 (by decide +kernel) rfl)
theorem yW_13 : Lk "WokenByKettleLaw" 13 mZ_part.1 := Or.inl (mT 552 (by decide +kernel) rfl)
theorem yW_17 : Lk "WokenByKettleLaw" 17 mY_part.1 := Or.inl (mT 1384 (by decide +kernel) rfl)
theorem yW_18 : Lk "WokenByKettleLaw" 18 mZ_parts.1 := Or.inl (mT 575 (by decide +kernel) rfl)
theorem yW_22 : Lk "WokenByKettleLaw" 22 mY_parts.1 := Or.inl (mT 1399 (by decide +kernel) rfl)
theorem yW_23 : Lk "WokenByKettleLaw" 23 mZ_mend.1 := Or.inl (mT 611 (by decide +kernel) rfl)
theorem yW_26 : Lk "WokenByKettleLaw" 26 mY_mend.1 := Or.inl (mT 1419 (by decide +kernel) rfl)
theorem yW_27 : Lk "WokenByKettleLaw" 27 mZ_of.1 := Or.inl (mT 641 (by decide +kernel) rfl)
theorem yW_30 : Lk "WokenByKettleLaw" 30 mY_of.1 := Or.inl (mT 1442 (by decide +kernel) rfl)
theorem yW_31 : Lk "WokenByKettleLaw" 31 mZ_feed.1 := Or.inl (mT 645 (by decide +kernel) rfl)
theorem yW_35 : Lk "WokenByKettleLaw" 35 mY_feed.1 := Or.inl (mT 1446 (by decide +kernel) rfl)
theorem yW_36 : Lk "WokenByKettleLaw" 36 mZ_law.1 := Or.inl (mT 653 (by decide +kernel) rfl)
theorem yW_40 : Lk "WokenByKettleLaw" 40 mY_law.1 := Or.inl (mT 1450 (by decide +kernel) rfl)
theorem yW_41 : Lk "WokenByKettleLaw" 41 mZ_works.1 := Or.inl (mT 697 (by decide +kernel) rfl)
theorem yW_44 : Lk "WokenByKettleLaw" 44 mY_works.1 := Or.inl (mT 1509 (by decide +kernel) rfl)
theorem yW_45 : Lk "WokenByKettleLaw" 45 mZ_gone.1 := Or.inl (mT 730 (by decide +kernel) rfl)
theorem yW_48 : Lk "WokenByKettleLaw" 48 mY_gone.1 := Or.inl (mT 1528 (by decide +kernel) rfl)
theorem yW_49 : Lk "WokenByKettleLaw" 49 mZ_stuck.1 := Or.inl (mT 759 (by decide +kernel) rfl)
theorem yW_52 : Lk "WokenByKettleLaw" 52 mY_stuck.1 := Or.inl (mT 1543 (by decide +kernel) rfl)
theorem yW_53 : Lk "WokenByKettleLaw" 53 mZ_likely.1 := Or.inl (mT 767 (by decide +kernel) rfl)
theorem yW_57 : Lk "WokenByKettleLaw" 57 mY_likely.1 := Or.inl (mT 1547 (by decide +kernel) rfl)
theorem yW_58 : Lk "WokenByKettleLaw" 58 mZ_when.1 := Or.inl (mT 807 (by decide +kernel) rfl)
theorem yW_61 : Lk "WokenByKettleLaw" 61 mY_when.1 := Or.inl (mT 1584 (by decide +kernel) rfl)
theorem yW_62 : Lk "WokenByKettleLaw" 62 mZ_mean.1 := Or.inl (mT 819 (by decide +kernel) rfl)
theorem yW_66 : Lk "WokenByKettleLaw" 66 mY_mean.1 := Or.inl (mT 1588 (by decide +kernel) rfl)
theorem yW_67 : Lk "WokenByKettleLaw" 67 mZ_worth.1 := Or.inl (mT 827 (by decide +kernel) rfl)
theorem yW_70 : Lk "WokenByKettleLaw" 70 mY_worth.1 := Or.inl (mT 1592 (by decide +kernel) rfl)
theorem yW_71 : Lk "WokenByKettleLaw" 71 mZ_begin.1 := Or.inl (mT 842 (by decide +kernel) rfl)
theorem yW_74 : Lk "WokenByKettleLaw" 74 mY_begin.1 := Or.inl (mT 1606 (by decide +kernel) rfl)
theorem yW_75 : Lk "WokenByKettleLaw" 75 mZ_change.1 := Or.inl (mT 851 (by decide +kernel) rfl)
theorem yW_78 : Lk "WokenByKettleLaw" 78 mY_change.1 := Or.inl (mT 1610 (by decide +kernel) rfl)
theorem yW_79 : Lk "WokenByKettleLaw" 79 mZ_fire.1 := Or.inl (mT 871 (by decide +kernel) rfl)
theorem yW_82 : Lk "WokenByKettleLaw" 82 mY_fire.1 := Or.inl (mT 1619 (by decide +kernel) rfl)
theorem yW_83 : Lk "WokenByKettleLaw" 83 mZ_failed.1 := Or.inl (mT 882 (by decide +kernel) rfl)
theorem yW_87 : Lk "WokenByKettleLaw" 87 mY_failed.1 := Or.inl (mT 1627 (by decide +kernel) rfl)
theorem yW_88 : Lk "WokenByKettleLaw" 88 mZ_look.1 := Or.inl (mT 906 (by decide +kernel) rfl)
theorem yW_91 : Lk "WokenByKettleLaw" 91 mY_look.1 := Or.inl (mT 1639 (by decide +kernel) rfl)
theorem yW_92 : Lk "WokenByKettleLaw" 92 mZ_test.1 := Or.inl (mT 915 (by decide +kernel) rfl)
theorem yW_95 : Lk "WokenByKettleLaw" 95 mY_test.1 := Or.inl (mT 1643 (by decide +kernel) rfl)
theorem yW_96 : Lk "WokenByKettleLaw" 96 mZ_mending.1 := Or.inl (mT 932 (by decide +kernel) rfl)
theorem yW_99 : Lk "WokenByKettleLaw" 99 mY_mending.1 := Or.inl (mT 1647 (by decide +kernel) rfl)
theorem yW_100 : Lk "WokenByKettleLaw" 100 mZ_judge.1 := Or.inl (mT 967 (by decide +kernel) rfl)
theorem yW_103 : Lk "WokenByKettleLaw" 103 mY_judge.1 := Or.inl (mT 1659 (by decide +kernel) rfl)
theorem yW_104 : Lk "WokenByKettleLaw" 104 mZ_how.1 := Or.inl (mT 976 (by decide +kernel) rfl)
theorem yW_107 : Lk "WokenByKettleLaw" 107 mY_how.1 := Or.inl (mT 1671 (by decide +kernel) rfl)
theorem yW_108 : Lk "WokenByKettleLaw" 108 mZ_whose.1 := Or.inl (mT 988 (by decide +kernel) rfl)
theorem yW_111 : Lk "WokenByKettleLaw" 111 mY_whose.1 := Or.inl (mT 1675 (by decide +kernel) rfl)
theorem yW_112 : Lk "WokenByKettleLaw" 112 mZ_drawn.1 := Or.inl (mT 1008 (by decide +kernel) rfl)
theorem yW_115 : Lk "WokenByKettleLaw" 115 mY_drawn.1 := Or.inl (mT 1685 (by decide +kernel) rfl)
theorem yW_116 : Lk "WokenByKettleLaw" 116 mZ_morning.1 := Or.inl (mT 1017 (by decide +kernel) rfl)
theorem yW_119 : Lk "WokenByKettleLaw" 119 mY_morning.1 := Or.inl (mT 1690 (by decide +kernel) rfl)
theorem yW_120 : Lk "WokenByKettleLaw" 120 mZ_mended.1 := Or.inl (mT 1046 (by decide +kernel) rfl)
theorem yW_123 : Lk "WokenByKettleLaw" 123 mY_mended.1 := Or.inl (mT 1694 (by decide +kernel) rfl)
theorem yW_124 : Lk "WokenByKettleLaw" 124 mZ_led.1 := Or.inl (mT 1056 (by decide +kernel) rfl)
theorem yW_127 : Lk "WokenByKettleLaw" 127 mY_led.1 := Or.inl (mT 1698 (by decide +kernel) rfl)
theorem yW_128 : Lk "WokenByKettleLaw" 128 mZ_image.1 := Or.inl (mT 1064 (by decide +kernel) rfl)
theorem yW_131 : Lk "WokenByKettleLaw" 131 mY_image.1 := Or.inl (mT 1702 (by decide +kernel) rfl)
theorem yW_132 : Lk "WokenByKettleLaw" 132 mZ_back.1 := Or.inl (mT 1073 (by decide +kernel) rfl)
theorem yW_135 : Lk "WokenByKettleLaw" 135 mY_back.1 := Or.inl (mT 1706 (by decide +kernel) rfl)
theorem yW_136 : Lk "WokenByKettleLaw" 136 mZ_undo.1 := Or.inl (mT 1081 (by decide +kernel) rfl)
theorem yW_139 : Lk "WokenByKettleLaw" 139 mY_undo.1 := Or.inl (mT 1407 (by decide +kernel) rfl)
theorem yW_140 : Lk "WokenByKettleLaw" 140 mZ_redo.1 := Or.inl (mT 1089 (by decide +kernel) rfl)
theorem yW_143 : Lk "WokenByKettleLaw" 143 mY_redo.1 := Or.inl (mT 1415 (by decide +kernel) rfl)
theorem yW_144 : Lk "WokenByKettleLaw" 144 mZ_body.1 := Or.inl (mT 1097 (by decide +kernel) rfl)
theorem yW_147 : Lk "WokenByKettleLaw" 147 mY_body.1 := Or.inl (mT 1714 (by decide +kernel) rfl)
theorem yW_148 : Lk "WokenByKettleLaw" 148 mZ_act.1 := Or.inl (mT 1108 (by decide +kernel) rfl)
theorem yW_151 : Lk "WokenByKettleLaw" 151 mY_act.1 := Or.inl (mT 1718 (by decide +kernel) rfl)
theorem yW_152 : Lk "WokenByKettleLaw" 152 mZ_trace.1 := Or.inl (mT 1134 (by decide +kernel) rfl)
theorem yW_155 : Lk "WokenByKettleLaw" 155 mY_trace.1 := Or.inl (mT 1710 (by decide +kernel) rfl)
theorem yW_156 : Lk "WokenByKettleLaw" 156 mZ_keep.1 := Or.inl (mT 1142 (by decide +kernel) rfl)
theorem yW_159 : Lk "WokenByKettleLaw" 159 mY_keep.1 := Or.inl (mT 1781 (by decide +kernel) rfl)
theorem yW_160 : Lk "WokenByKettleLaw" 160 mZ_row.1 := Or.inl (mT 1151 (by decide +kernel) rfl)
theorem yW_163 : Lk "WokenByKettleLaw" 163 mY_row.1 := Or.inl (mT 1785 (by decide +kernel) rfl)
theorem kW_164 : Cond.constantLong "WokenByKettleLaw" 164 (Int64.ofInt 4294967295) ∈ Tg := mT 1809 (by decide +kernel) rfl
theorem yW_166 : Lk "WokenByKettleLaw" 166 mZ_put.1 := Or.inl (mT 1160 (by decide +kernel) rfl)
theorem yW_170 : Lk "WokenByKettleLaw" 170 mY_put.1 := Or.inl (mT 1789 (by decide +kernel) rfl)
theorem yW_171 : Lk "WokenByKettleLaw" 171 mZ_element.1 := Or.inl (mT 1171 (by decide +kernel) rfl)
theorem yW_174 : Lk "WokenByKettleLaw" 174 mY_element.1 := Or.inl (mT 1797 (by decide +kernel) rfl)
theorem yW_175 : Lk "WokenByKettleLaw" 175 mZ_shift.1 := Or.inl (mT 1176 (by decide +kernel) rfl)
theorem yW_179 : Lk "WokenByKettleLaw" 179 mY_shift.1 := Or.inl (mT 1801 (by decide +kernel) rfl)
theorem yW_180 : Lk "WokenByKettleLaw" 180 mZ_taken.1 := Or.inl (mT 1185 (by decide +kernel) rfl)
theorem yW_183 : Lk "WokenByKettleLaw" 183 mY_taken.1 := Or.inl (mT 1805 (by decide +kernel) rfl)
theorem yW_184 : Lk "WokenByKettleLaw" 184 mZ_count.1 := Or.inl (mT 1207 (by decide +kernel) rfl)
theorem yW_187 : Lk "WokenByKettleLaw" 187 mY_count.1 := Or.inl (mT 1777 (by decide +kernel) rfl)
theorem dL_init_0 : decode mL_init.2.1 0 = .ok (.aload_n 0, 1) := by decide +kernel
theorem dL_init_1 : decode mL_init.2.1 1 = .ok (.invokespecial 3, 3) := by decide +kernel
theorem dL_init_4 : decode mL_init.2.1 4 = .ok (.aload_n 0, 1) := by decide +kernel
theorem dL_init_5 : decode mL_init.2.1 5 = .ok (.bipush 120, 2) := by decide +kernel
theorem dL_init_7 : decode mL_init.2.1 7 = .ok (.newarray .int, 2) := by decide +kernel
theorem dL_init_9 : decode mL_init.2.1 9 = .ok (.putfield 11, 3) := by decide +kernel
theorem dL_init_12 : decode mL_init.2.1 12 = .ok (.aload_n 0, 1) := by decide +kernel
theorem dL_init_13 : decode mL_init.2.1 13 = .ok (.sipush 128, 3) := by decide +kernel
theorem dL_init_16 : decode mL_init.2.1 16 = .ok (.newarray .int, 2) := by decide +kernel
theorem dL_init_18 : decode mL_init.2.1 18 = .ok (.putfield 15, 3) := by decide +kernel
theorem dL_init_21 : decode mL_init.2.1 21 = .ok (.aload_n 0, 1) := by decide +kernel
theorem dL_init_22 : decode mL_init.2.1 22 = .ok (.sipush 128, 3) := by decide +kernel
theorem dL_init_25 : decode mL_init.2.1 25 = .ok (.newarray .int, 2) := by decide +kernel
theorem dL_init_27 : decode mL_init.2.1 27 = .ok (.putfield 18, 3) := by decide +kernel
theorem dL_init_30 : decode mL_init.2.1 30 = .ok (.aload_n 0, 1) := by decide +kernel
theorem dL_init_31 : decode mL_init.2.1 31 = .ok (.sipush 128, 3) := by decide +kernel
theorem dL_init_34 : decode mL_init.2.1 34 = .ok (.newarray .int, 2) := by decide +kernel
theorem dL_init_36 : decode mL_init.2.1 36 = .ok (.putfield 21, 3) := by decide +kernel
theorem dL_init_39 : decode mL_init.2.1 39 = .ok (.return_, 1) := by decide +kernel
set_option maxRecDepth 8000 in
set_option maxHeartbeats 1000000 in
theorem tL_init {X : Cx} (r m : Mem) (hzr : za r 18) (hzm : za m 18) : Mt X 1 mL_init 18 22 [vr 18] r m (fun _ r1 m1 => r1 = (upm (upm (upm (upm r 18 0 19) 18 1 20) 18 2 21) 18 3 22) ∧ m1 = m) := by
  refine Mt.of pL_init (Nat.le_of_ble_eq_true rfl) (by decide) ?_
  show RR X 1 mL_init 18 22 18 0 [(0, vr 18)] [] r m _
  refine r_aload_n 0 0 rfl dL_init_0 rfl ?_
  refine r_objInit (mT 182 (by decide +kernel) rfl) (mT 167 (by decide +kernel) rfl) (mT 168 (by decide +kernel) rfl) (by decide) (Nat.le_of_ble_eq_true rfl) dL_init_1 ?_
  refine r_aload_n 0 0 rfl dL_init_4 rfl ?_
  refine r_bipush (by decide) dL_init_5 ?_
  refine r_newa (len := 120) (k := 19) rfl (by decide) rfl (by decide) (by decide) rfl (by decide) (fun j => ⟨hzr 19 j (by decide), hzm 19 j (by decide)⟩) (mT 213 (by decide +kernel) rfl) (by decide) dL_init_7 ?_
  have hzr := za_mono (n' := 19) (by decide) hzr
  have hzm := za_mono (n' := 19) (by decide) hzm
  refine r_putF 0 (ci := 2) (j := 0) (show isO 19 18 2 from ⟨by decide, by decide, by decide, rfl⟩) rfl (by decide) rfl rfl rfl rfl rfl (mT 183 (by decide +kernel) rfl) rfl (by decide) dL_init_9 ?_
  have hzr := za_up (k := 18) (i := 0) (v := 19) (by decide) hzr
  refine r_aload_n 0 0 rfl dL_init_12 rfl ?_
  refine r_sipush (by decide) dL_init_13 ?_
  refine r_newa (len := 128) (k := 20) rfl (by decide) rfl (by decide) (by decide) rfl (by decide) (fun j => ⟨hzr 20 j (by decide), hzm 20 j (by decide)⟩) (mT 213 (by decide +kernel) rfl) (by decide) dL_init_16 ?_
  have hzr := za_mono (n' := 20) (by decide) hzr
  have hzm := za_mono (n' := 20) (by decide) hzm
  refine r_putF 1 (ci := 2) (j := 1) (show isO 20 18 2 from ⟨by decide, by decide, by decide, rfl⟩) rfl (by decide) rfl rfl rfl rfl rfl (mT 184 (by decide +kernel) rfl) rfl (by decide) dL_init_18 ?_
  have hzr := za_up (k := 18) (i := 1) (v := 20) (by decide) hzr
  refine r_aload_n 0 0 rfl dL_init_21 rfl ?_
  refine r_sipush (by decide) dL_init_22 ?_
  refine r_newa (len := 128) (k := 21) rfl (by decide) rfl (by decide) (by decide) rfl (by decide) (fun j => ⟨hzr 21 j (by decide), hzm 21 j (by decide)⟩) (mT 213 (by decide +kernel) rfl) (by decide) dL_init_25 ?_
  have hzr := za_mono (n' := 21) (by decide) hzr
  have hzm := za_mono (n' := 21) (by decide) hzm
  refine q_putR 2 (show isO 21 18 2 from ⟨by decide, by decide, by decide, rfl⟩) pfL_18 rfl rfl (by decide) dL_init_27 ?_
  have hzr := za_up (k := 18) (i := 2) (v := 21) (by decide) hzr
  refine r_aload_n 0 0 rfl dL_init_30 rfl ?_
  refine r_sipush (by decide) dL_init_31 ?_
  refine r_newa (len := 128) (k := 22) rfl (by decide) rfl (by decide) (by decide) rfl (by decide) (fun j => ⟨hzr 22 j (by decide), hzm 22 j (by decide)⟩) (mT 213 (by decide +kernel) rfl) (by decide) dL_init_34 ?_
  have hzr := za_mono (n' := 22) (by decide) hzr
  have hzm := za_mono (n' := 22) (by decide) hzm
  refine q_putR 3 (show isO 22 18 2 from ⟨by decide, by decide, by decide, rfl⟩) pfL_21 rfl rfl (by decide) dL_init_36 ?_
  have hzr := za_up (k := 18) (i := 3) (v := 22) (by decide) hzr
  exact r_vret rfl rfl ⟨rfl, rfl⟩ dL_init_39
theorem dK_init_0 : decode mK_init.2.1 0 = .ok (.aload_n 0, 1) := by decide +kernel
theorem dK_init_1 : decode mK_init.2.1 1 = .ok (.invokespecial 3, 3) := by decide +kernel
theorem dK_init_4 : decode mK_init.2.1 4 = .ok (.aload_n 0, 1) := by decide +kernel
theorem dK_init_5 : decode mK_init.2.1 5 = .ok (.bipush 13, 2) := by decide +kernel
theorem dK_init_7 : decode mK_init.2.1 7 = .ok (.bipush 9, 2) := by decide +kernel
theorem dK_init_9 : decode mK_init.2.1 9 = .ok (.multianewarray 11 2, 4) := by decide +kernel
theorem dK_init_13 : decode mK_init.2.1 13 = .ok (.putfield 13, 3) := by decide +kernel
theorem dK_init_16 : decode mK_init.2.1 16 = .ok (.aload_n 0, 1) := by decide +kernel
theorem dK_init_17 : decode mK_init.2.1 17 = .ok (.bipush 6, 2) := by decide +kernel
theorem dK_init_19 : decode mK_init.2.1 19 = .ok (.newarray .int, 2) := by decide +kernel
theorem dK_init_21 : decode mK_init.2.1 21 = .ok (.putfield 16, 3) := by decide +kernel
theorem dK_init_24 : decode mK_init.2.1 24 = .ok (.aload_n 0, 1) := by decide +kernel
theorem dK_init_25 : decode mK_init.2.1 25 = .ok (.new 20, 3) := by decide +kernel
theorem dK_init_28 : decode mK_init.2.1 28 = .ok (.dup, 1) := by decide +kernel
theorem dK_init_29 : decode mK_init.2.1 29 = .ok (.invokespecial 22, 3) := by decide +kernel
theorem dK_init_32 : decode mK_init.2.1 32 = .ok (.putfield 23, 3) := by decide +kernel
theorem dK_init_35 : decode mK_init.2.1 35 = .ok (.aload_n 0, 1) := by decide +kernel
theorem dK_init_36 : decode mK_init.2.1 36 = .ok (.getfield 13, 3) := by decide +kernel
theorem dK_init_39 : decode mK_init.2.1 39 = .ok (.bipush 8, 2) := by decide +kernel
theorem dK_init_41 : decode mK_init.2.1 41 = .ok (.aaload, 1) := by decide +kernel
theorem dK_init_42 : decode mK_init.2.1 42 = .ok (.iconst 0, 1) := by decide +kernel
theorem dK_init_43 : decode mK_init.2.1 43 = .ok (.bipush 60, 2) := by decide +kernel
theorem dK_init_45 : decode mK_init.2.1 45 = .ok (.iastore, 1) := by decide +kernel
theorem dK_init_46 : decode mK_init.2.1 46 = .ok (.aload_n 0, 1) := by decide +kernel
theorem dK_init_47 : decode mK_init.2.1 47 = .ok (.getfield 13, 3) := by decide +kernel
theorem dK_init_50 : decode mK_init.2.1 50 = .ok (.bipush 9, 2) := by decide +kernel
theorem dK_init_52 : decode mK_init.2.1 52 = .ok (.aaload, 1) := by decide +kernel
theorem dK_init_53 : decode mK_init.2.1 53 = .ok (.iconst 0, 1) := by decide +kernel
theorem dK_init_54 : decode mK_init.2.1 54 = .ok (.iconst 1, 1) := by decide +kernel
theorem dK_init_55 : decode mK_init.2.1 55 = .ok (.iastore, 1) := by decide +kernel
theorem dK_init_56 : decode mK_init.2.1 56 = .ok (.aload_n 0, 1) := by decide +kernel
theorem dK_init_57 : decode mK_init.2.1 57 = .ok (.getfield 13, 3) := by decide +kernel
theorem dK_init_60 : decode mK_init.2.1 60 = .ok (.bipush 10, 2) := by decide +kernel
theorem dK_init_62 : decode mK_init.2.1 62 = .ok (.aaload, 1) := by decide +kernel
theorem dK_init_63 : decode mK_init.2.1 63 = .ok (.iconst 0, 1) := by decide +kernel
theorem dK_init_64 : decode mK_init.2.1 64 = .ok (.iconst 2, 1) := by decide +kernel
theorem dK_init_65 : decode mK_init.2.1 65 = .ok (.iastore, 1) := by decide +kernel
theorem dK_init_66 : decode mK_init.2.1 66 = .ok (.return_, 1) := by decide +kernel
set_option maxRecDepth 8000 in
set_option maxHeartbeats 1000000 in
theorem tK_init {X : Cx} (r m : Mem) (hzr : za r 2) (hzm : za m 2) : Mt X 2 mK_init 2 22 [vr 2] r m (fun _ r1 m1 => r1 = (upm (upm (upm (upm (upm (upm (upm (gro r 3 13) 2 0 3) 2 1 17) 18 0 19) 18 1 20) 18 2 21) 18 3 22) 2 2 18) ∧ m1 = (upm (upm (upm m 12 0 60) 13 0 1) 14 0 2)) := by
  refine Mt.of pK_init (Nat.le_of_ble_eq_true rfl) (by decide) ?_
  show RR X 2 mK_init 2 22 2 0 [(0, vr 2)] [] r m _
  refine r_aload_n 0 0 rfl dK_init_0 rfl ?_
  refine r_objInit (mT 174 (by decide +kernel) rfl) (mT 167 (by decide +kernel) rfl) (mT 168 (by decide +kernel) rfl) (by decide) (Nat.le_of_ble_eq_true rfl) dK_init_1 ?_
  refine r_aload_n 0 0 rfl dK_init_4 rfl ?_
  refine r_bipush (by decide) dK_init_5 ?_
  refine r_bipush (by decide) dK_init_7 ?_
  refine r_mna (ty := .int) (N := 13) (K := 9) (k := 3) (by decide) rfl (by decide) rfl (by decide) rfl rfl (by decide) (by decide) (fun i j h => ⟨hzr _ _ (by omega), hzm _ _ (by omega)⟩) (mT 175 (by decide +kernel) rfl) (mT 213 (by decide +kernel) rfl) (by decide) (by decide +kernel) dK_init_9 ?_
  have hzr := za_gro (n := 16) (k := 3) (N := 13) (by decide) (za_mono (n' := 16) (by decide) hzr)
  have hzm := za_mono (n' := 16) (by decide) hzm
  refine r_putF 0 (ci := 1) (j := 0) (show isO 16 2 1 from ⟨by decide, by decide, by decide, rfl⟩) rfl (by decide) rfl rfl rfl rfl rfl (mT 214 (by decide +kernel) rfl) rfl (by decide) dK_init_13 ?_
  have hzr := za_up (k := 2) (i := 0) (v := 3) (by decide) hzr
  refine r_aload_n 0 0 rfl dK_init_16 rfl ?_
  refine r_bipush (by decide) dK_init_17 ?_
  refine r_newa (len := 6) (k := 17) rfl (by decide) rfl (by decide) (by decide) rfl (by decide) (fun j => ⟨hzr 17 j (by decide), hzm 17 j (by decide)⟩) (mT 213 (by decide +kernel) rfl) (by decide) dK_init_19 ?_
  have hzr := za_mono (n' := 17) (by decide) hzr
  have hzm := za_mono (n' := 17) (by decide) hzm
  refine r_putF 1 (ci := 1) (j := 1) (show isO 17 2 1 from ⟨by decide, by decide, by decide, rfl⟩) rfl (by decide) rfl rfl rfl rfl rfl (mT 215 (by decide +kernel) rfl) rfl (by decide) dK_init_21 ?_
  have hzr := za_up (k := 2) (i := 1) (v := 17) (by decide) hzr
  refine r_aload_n 0 0 rfl dK_init_24 rfl ?_
  refine r_new (ci := 2) (k := 18) rfl (by decide) rfl rfl (fun j => ⟨hzr 18 j (by decide), hzm 18 j (by decide)⟩) (mT 177 (by decide +kernel) rfl) (mT 178 (by decide +kernel) rfl) (mT 146 (by decide +kernel) rfl) (by decide) dK_init_25 ?_
  have hzr := za_mono (n' := 18) (by decide) hzr
  have hzm := za_mono (n' := 18) (by decide) hzm
  refine r_dup (fun q => by cases q) dK_init_28 ?_
  refine r_callI (as := []) rfl rfl oL_init iL_init yK_22 (by decide) ⟨by decide, by decide⟩ rfl (Nat.le_of_ble_eq_true rfl) dK_init_29 (tL_init _ _ hzr hzm) (fun z1 r1 m1 h => ?_)
  obtain ⟨rfl, rfl⟩ := h
  have hzr : za _ 22 := (za_up (k := 18) (i := 3) (v := 22) (by decide) (za_up (k := 18) (i := 2) (v := 21) (by decide) (za_up (k := 18) (i := 1) (v := 20) (by decide) (za_up (k := 18) (i := 0) (v := 19) (by decide) (za_mono (n' := 22) (by decide) hzr)))))
  have hzm : za _ 22 := (za_mono (n' := 22) (by decide) hzm)
  refine r_putF 2 (ci := 1) (j := 2) (show isO 22 2 1 from ⟨by decide, by decide, by decide, rfl⟩) rfl (by decide) rfl rfl rfl rfl rfl (mT 216 (by decide +kernel) rfl) rfl (by decide) dK_init_32 ?_
  have hzr := za_up (k := 2) (i := 2) (v := 18) (by decide) hzr
  refine r_aload_n 0 0 rfl dK_init_35 rfl ?_
  refine q_getR (t := 3) 0 (show isO 22 2 1 from ⟨by decide, by decide, by decide, rfl⟩) fK_13 rfl rfl rfl (by decide) dK_init_36 ?_
  refine r_bipush (by decide) dK_init_39 ?_
  refine q_aaload (t := 12) 8 (by decide) rfl (show isA 22 3 (.array .int) 13 from ⟨by decide, by decide, by decide, rfl⟩) (by decide) rfl (by decide) dK_init_41 ?_
  refine r_iconst dK_init_42 ?_
  refine r_bipush (by decide) dK_init_43 ?_
  refine q_iastore 0 rfl (show isA 22 12 (.int) 9 from ⟨by decide, by decide, by decide, rfl⟩) (by decide) dK_init_45 ?_
  have hzm := za_up (k := 12) (i := 0) (v := 60) (by decide) hzm
  refine r_aload_n 0 0 rfl dK_init_46 rfl ?_
  refine q_getR (t := 3) 0 (show isO 22 2 1 from ⟨by decide, by decide, by decide, rfl⟩) fK_13 rfl rfl rfl (by decide) dK_init_47 ?_
  refine r_bipush (by decide) dK_init_50 ?_
  refine q_aaload (t := 13) 9 (by decide) rfl (show isA 22 3 (.array .int) 13 from ⟨by decide, by decide, by decide, rfl⟩) (by decide) rfl (by decide) dK_init_52 ?_
  refine r_iconst dK_init_53 ?_
  refine r_iconst dK_init_54 ?_
  refine q_iastore 0 rfl (show isA 22 13 (.int) 9 from ⟨by decide, by decide, by decide, rfl⟩) (by decide) dK_init_55 ?_
  have hzm := za_up (k := 13) (i := 0) (v := 1) (by decide) hzm
  refine r_aload_n 0 0 rfl dK_init_56 rfl ?_
  refine q_getR (t := 3) 0 (show isO 22 2 1 from ⟨by decide, by decide, by decide, rfl⟩) fK_13 rfl rfl rfl (by decide) dK_init_57 ?_
  refine r_bipush (by decide) dK_init_60 ?_
  refine q_aaload (t := 14) 10 (by decide) rfl (show isA 22 3 (.array .int) 13 from ⟨by decide, by decide, by decide, rfl⟩) (by decide) rfl (by decide) dK_init_62 ?_
  refine r_iconst dK_init_63 ?_
  refine r_iconst dK_init_64 ?_
  refine q_iastore 0 rfl (show isA 22 14 (.int) 9 from ⟨by decide, by decide, by decide, rfl⟩) (by decide) dK_init_65 ?_
  have hzm := za_up (k := 14) (i := 0) (v := 2) (by decide) hzm
  exact r_vret rfl rfl ⟨rfl, rfl⟩ dK_init_66
theorem dP_init_0 : decode mP_init.2.1 0 = .ok (.aload_n 0, 1) := by decide +kernel
theorem dP_init_1 : decode mP_init.2.1 1 = .ok (.invokespecial 3, 3) := by decide +kernel
theorem dP_init_4 : decode mP_init.2.1 4 = .ok (.aload_n 0, 1) := by decide +kernel
theorem dP_init_5 : decode mP_init.2.1 5 = .ok (.bipush 9, 2) := by decide +kernel
theorem dP_init_7 : decode mP_init.2.1 7 = .ok (.sipush 512, 3) := by decide +kernel
theorem dP_init_10 : decode mP_init.2.1 10 = .ok (.multianewarray 9 2, 4) := by decide +kernel
theorem dP_init_14 : decode mP_init.2.1 14 = .ok (.putfield 11, 3) := by decide +kernel
theorem dP_init_17 : decode mP_init.2.1 17 = .ok (.aload_n 0, 1) := by decide +kernel
theorem dP_init_18 : decode mP_init.2.1 18 = .ok (.sipush 512, 3) := by decide +kernel
theorem dP_init_21 : decode mP_init.2.1 21 = .ok (.newarray .int, 2) := by decide +kernel
theorem dP_init_23 : decode mP_init.2.1 23 = .ok (.putfield 16, 3) := by decide +kernel
theorem dP_init_26 : decode mP_init.2.1 26 = .ok (.aload_n 0, 1) := by decide +kernel
theorem dP_init_27 : decode mP_init.2.1 27 = .ok (.sipush 512, 3) := by decide +kernel
theorem dP_init_30 : decode mP_init.2.1 30 = .ok (.newarray .int, 2) := by decide +kernel
theorem dP_init_32 : decode mP_init.2.1 32 = .ok (.putfield 20, 3) := by decide +kernel
theorem dP_init_35 : decode mP_init.2.1 35 = .ok (.aload_n 0, 1) := by decide +kernel
theorem dP_init_36 : decode mP_init.2.1 36 = .ok (.sipush 512, 3) := by decide +kernel
theorem dP_init_39 : decode mP_init.2.1 39 = .ok (.newarray .int, 2) := by decide +kernel
theorem dP_init_41 : decode mP_init.2.1 41 = .ok (.putfield 23, 3) := by decide +kernel
theorem dP_init_44 : decode mP_init.2.1 44 = .ok (.aload_n 0, 1) := by decide +kernel
theorem dP_init_45 : decode mP_init.2.1 45 = .ok (.iconst 1, 1) := by decide +kernel
theorem dP_init_46 : decode mP_init.2.1 46 = .ok (.putfield 26, 3) := by decide +kernel
theorem dP_init_49 : decode mP_init.2.1 49 = .ok (.aload_n 0, 1) := by decide +kernel
theorem dP_init_50 : decode mP_init.2.1 50 = .ok (.iconst (-1), 1) := by decide +kernel
theorem dP_init_51 : decode mP_init.2.1 51 = .ok (.putfield 30, 3) := by decide +kernel
theorem dP_init_54 : decode mP_init.2.1 54 = .ok (.aload_n 0, 1) := by decide +kernel
theorem dP_init_55 : decode mP_init.2.1 55 = .ok (.aload_n 1, 1) := by decide +kernel
theorem dP_init_56 : decode mP_init.2.1 56 = .ok (.putfield 33, 3) := by decide +kernel
theorem dP_init_59 : decode mP_init.2.1 59 = .ok (.return_, 1) := by decide +kernel
set_option maxRecDepth 8000 in
set_option maxHeartbeats 1000000 in
theorem tP_init {X : Cx} (r m : Mem) (hzr : za r 23) (hzm : za m 23) : Mt X 1 mP_init 23 36 [vr 23, vr 2] r m (fun _ r1 m1 => r1 = (upm (upm (upm (upm (upm (gro r 24 9) 23 1 24) 23 2 34) 23 3 35) 23 4 36) 23 0 2) ∧ m1 = (upm (upm m 23 5 1) 23 6 (-1))) := by
  refine Mt.of pP_init (Nat.le_of_ble_eq_true rfl) (by decide) ?_
  show RR X 1 mP_init 23 36 23 0 [(0, vr 23), (1, vr 2)] [] r m _
  refine r_aload_n 0 0 rfl dP_init_0 rfl ?_
  refine r_objInit (mT 249 (by decide +kernel) rfl) (mT 167 (by decide +kernel) rfl) (mT 168 (by decide +kernel) rfl) (by decide) (Nat.le_of_ble_eq_true rfl) dP_init_1 ?_
  refine r_aload_n 0 0 rfl dP_init_4 rfl ?_
  refine r_bipush (by decide) dP_init_5 ?_
  refine r_sipush (by decide) dP_init_7 ?_
  refine r_mna (ty := .int) (N := 9) (K := 512) (k := 24) (by decide) rfl (by decide) rfl (by decide) rfl rfl (by decide) (by decide) (fun i j h => ⟨hzr _ _ (by omega), hzm _ _ (by omega)⟩) (mT 250 (by decide +kernel) rfl) (mT 213 (by decide +kernel) rfl) (by decide) (by decide +kernel) dP_init_10 ?_
  have hzr := za_gro (n := 33) (k := 24) (N := 9) (by decide) (za_mono (n' := 33) (by decide) hzr)
  have hzm := za_mono (n' := 33) (by decide) hzm
  refine r_putF 1 (ci := 3) (j := 1) (show isO 33 23 3 from ⟨by decide, by decide, by decide, rfl⟩) rfl (by decide) rfl rfl rfl rfl rfl (mT 252 (by decide +kernel) rfl) rfl (by decide) dP_init_14 ?_
  have hzr := za_up (k := 23) (i := 1) (v := 24) (by decide) hzr
  refine r_aload_n 0 0 rfl dP_init_17 rfl ?_
  refine r_sipush (by decide) dP_init_18 ?_
  refine r_newa (len := 512) (k := 34) rfl (by decide) rfl (by decide) (by decide) rfl (by decide) (fun j => ⟨hzr 34 j (by decide), hzm 34 j (by decide)⟩) (mT 213 (by decide +kernel) rfl) (by decide) dP_init_21 ?_
  have hzr := za_mono (n' := 34) (by decide) hzr
  have hzm := za_mono (n' := 34) (by decide) hzm
  refine r_putF 2 (ci := 3) (j := 2) (show isO 34 23 3 from ⟨by decide, by decide, by decide, rfl⟩) rfl (by decide) rfl rfl rfl rfl rfl (mT 253 (by decide +kernel) rfl) rfl (by decide) dP_init_23 ?_
  have hzr := za_up (k := 23) (i := 2) (v := 34) (by decide) hzr
  refine r_aload_n 0 0 rfl dP_init_26 rfl ?_
  refine r_sipush (by decide) dP_init_27 ?_
  refine r_newa (len := 512) (k := 35) rfl (by decide) rfl (by decide) (by decide) rfl (by decide) (fun j => ⟨hzr 35 j (by decide), hzm 35 j (by decide)⟩) (mT 213 (by decide +kernel) rfl) (by decide) dP_init_30 ?_
  have hzr := za_mono (n' := 35) (by decide) hzr
  have hzm := za_mono (n' := 35) (by decide) hzm
  refine r_putF 3 (ci := 3) (j := 3) (show isO 35 23 3 from ⟨by decide, by decide, by decide, rfl⟩) rfl (by decide) rfl rfl rfl rfl rfl (mT 257 (by decide +kernel) rfl) rfl (by decide) dP_init_32 ?_
  have hzr := za_up (k := 23) (i := 3) (v := 35) (by decide) hzr
  refine r_aload_n 0 0 rfl dP_init_35 rfl ?_
  refine r_sipush (by decide) dP_init_36 ?_
  refine r_newa (len := 512) (k := 36) rfl (by decide) rfl (by decide) (by decide) rfl (by decide) (fun j => ⟨hzr 36 j (by decide), hzm 36 j (by decide)⟩) (mT 213 (by decide +kernel) rfl) (by decide) dP_init_39 ?_
  have hzr := za_mono (n' := 36) (by decide) hzr
  have hzm := za_mono (n' := 36) (by decide) hzm
  refine r_putF 4 (ci := 3) (j := 4) (show isO 36 23 3 from ⟨by decide, by decide, by decide, rfl⟩) rfl (by decide) rfl rfl rfl rfl rfl (mT 259 (by decide +kernel) rfl) rfl (by decide) dP_init_41 ?_
  have hzr := za_up (k := 23) (i := 4) (v := 36) (by decide) hzr
  refine r_aload_n 0 0 rfl dP_init_44 rfl ?_
  refine r_iconst dP_init_45 ?_
  refine q_putI 5 (show isO 36 23 3 from ⟨by decide, by decide, by decide, rfl⟩) pfP_26 rfl rfl dP_init_46 ?_
  have hzm := za_up (k := 23) (i := 5) (v := 1) (by decide) hzm
  refine r_aload_n 0 0 rfl dP_init_49 rfl ?_
  refine r_iconst dP_init_50 ?_
  refine q_putI 6 (show isO 36 23 3 from ⟨by decide, by decide, by decide, rfl⟩) pfP_30 rfl rfl dP_init_51 ?_
  have hzm := za_up (k := 23) (i := 6) (v := (-1)) (by decide) hzm
  refine r_aload_n 0 0 rfl dP_init_54 rfl ?_
  refine r_aload_n 1 1 rfl dP_init_55 rfl ?_
  refine r_putF 0 (ci := 3) (j := 0) (show isO 36 23 3 from ⟨by decide, by decide, by decide, rfl⟩) rfl (by decide) rfl rfl rfl rfl rfl (mT 251 (by decide +kernel) rfl) rfl (by decide) dP_init_56 ?_
  have hzr := za_up (k := 23) (i := 0) (v := 2) (by decide) hzr
  exact r_vret rfl rfl ⟨rfl, rfl⟩ dP_init_59
theorem dT_init_0 : decode mT_init.2.1 0 = .ok (.aload_n 0, 1) := by decide +kernel
theorem dT_init_1 : decode mT_init.2.1 1 = .ok (.invokespecial 3, 3) := by decide +kernel
theorem dT_init_4 : decode mT_init.2.1 4 = .ok (.aload_n 0, 1) := by decide +kernel
theorem dT_init_5 : decode mT_init.2.1 5 = .ok (.bipush 9, 2) := by decide +kernel
theorem dT_init_7 : decode mT_init.2.1 7 = .ok (.newarray .int, 2) := by decide +kernel
theorem dT_init_9 : decode mT_init.2.1 9 = .ok (.putfield 9, 3) := by decide +kernel
theorem dT_init_12 : decode mT_init.2.1 12 = .ok (.aload_n 0, 1) := by decide +kernel
theorem dT_init_13 : decode mT_init.2.1 13 = .ok (.sipush 512, 3) := by decide +kernel
theorem dT_init_16 : decode mT_init.2.1 16 = .ok (.newarray .long, 2) := by decide +kernel
theorem dT_init_18 : decode mT_init.2.1 18 = .ok (.putfield 15, 3) := by decide +kernel
theorem dT_init_21 : decode mT_init.2.1 21 = .ok (.aload_n 0, 1) := by decide +kernel
theorem dT_init_22 : decode mT_init.2.1 22 = .ok (.sipush 541, 3) := by decide +kernel
theorem dT_init_25 : decode mT_init.2.1 25 = .ok (.newarray .long, 2) := by decide +kernel
theorem dT_init_27 : decode mT_init.2.1 27 = .ok (.putfield 19, 3) := by decide +kernel
theorem dT_init_30 : decode mT_init.2.1 30 = .ok (.aload_n 0, 1) := by decide +kernel
theorem dT_init_31 : decode mT_init.2.1 31 = .ok (.sipush 512, 3) := by decide +kernel
theorem dT_init_34 : decode mT_init.2.1 34 = .ok (.newarray .int, 2) := by decide +kernel
theorem dT_init_36 : decode mT_init.2.1 36 = .ok (.putfield 22, 3) := by decide +kernel
theorem dT_init_39 : decode mT_init.2.1 39 = .ok (.aload_n 0, 1) := by decide +kernel
theorem dT_init_40 : decode mT_init.2.1 40 = .ok (.lconst 1, 1) := by decide +kernel
theorem dT_init_41 : decode mT_init.2.1 41 = .ok (.putfield 25, 3) := by decide +kernel
theorem dT_init_44 : decode mT_init.2.1 44 = .ok (.aload_n 0, 1) := by decide +kernel
theorem dT_init_45 : decode mT_init.2.1 45 = .ok (.iconst (-1), 1) := by decide +kernel
theorem dT_init_46 : decode mT_init.2.1 46 = .ok (.putfield 29, 3) := by decide +kernel
theorem dT_init_49 : decode mT_init.2.1 49 = .ok (.aload_n 0, 1) := by decide +kernel
theorem dT_init_50 : decode mT_init.2.1 50 = .ok (.aload_n 1, 1) := by decide +kernel
theorem dT_init_51 : decode mT_init.2.1 51 = .ok (.putfield 33, 3) := by decide +kernel
theorem dT_init_54 : decode mT_init.2.1 54 = .ok (.aload_n 0, 1) := by decide +kernel
theorem dT_init_55 : decode mT_init.2.1 55 = .ok (.aload_n 2, 1) := by decide +kernel
theorem dT_init_56 : decode mT_init.2.1 56 = .ok (.putfield 37, 3) := by decide +kernel
theorem dT_init_59 : decode mT_init.2.1 59 = .ok (.return_, 1) := by decide +kernel
set_option maxRecDepth 8000 in
set_option maxHeartbeats 1000000 in
theorem tT_init {X : Cx} (r m : Mem) (hzr : za r 37) (hzm : za m 37) : Mt X 1 mT_init 37 41 [vr 37, vr 2, vr 23] r m (fun _ r1 m1 => r1 = (upm (upm (upm (upm (upm (upm r 37 2 38) 37 3 39) 37 4 40) 37 5 41) 37 0 2) 37 1 23) ∧ m1 = (upm (upm m 37 7 1) 37 8 (-1))) := by
  refine Mt.of pT_init (Nat.le_of_ble_eq_true rfl) (by decide) ?_
  show RR X 1 mT_init 37 41 37 0 [(0, vr 37), (1, vr 2), (2, vr 23)] [] r m _
  refine r_aload_n 0 0 rfl dT_init_0 rfl ?_
  refine r_objInit (mT 290 (by decide +kernel) rfl) (mT 167 (by decide +kernel) rfl) (mT 168 (by decide +kernel) rfl) (by decide) (Nat.le_of_ble_eq_true rfl) dT_init_1 ?_
  refine r_aload_n 0 0 rfl dT_init_4 rfl ?_
  refine r_bipush (by decide) dT_init_5 ?_
  refine r_newa (len := 9) (k := 38) rfl (by decide) rfl (by decide) (by decide) rfl (by decide) (fun j => ⟨hzr 38 j (by decide), hzm 38 j (by decide)⟩) (mT 213 (by decide +kernel) rfl) (by decide) dT_init_7 ?_
  have hzr := za_mono (n' := 38) (by decide) hzr
  have hzm := za_mono (n' := 38) (by decide) hzm
  refine r_putF 2 (ci := 4) (j := 2) (show isO 38 37 4 from ⟨by decide, by decide, by decide, rfl⟩) rfl (by decide) rfl rfl rfl rfl rfl (mT 293 (by decide +kernel) rfl) rfl (by decide) dT_init_9 ?_
  have hzr := za_up (k := 37) (i := 2) (v := 38) (by decide) hzr
  refine r_aload_n 0 0 rfl dT_init_12 rfl ?_
  refine r_sipush (by decide) dT_init_13 ?_
  refine r_newa (len := 512) (k := 39) rfl (by decide) rfl (by decide) (by decide) rfl (by decide) (fun j => ⟨hzr 39 j (by decide), hzm 39 j (by decide)⟩) (mT 330 (by decide +kernel) rfl) (by decide) dT_init_16 ?_
  have hzr := za_mono (n' := 39) (by decide) hzr
  have hzm := za_mono (n' := 39) (by decide) hzm
  refine r_putF 3 (ci := 4) (j := 3) (show isO 39 37 4 from ⟨by decide, by decide, by decide, rfl⟩) rfl (by decide) rfl rfl rfl rfl rfl (mT 296 (by decide +kernel) rfl) rfl (by decide) dT_init_18 ?_
  have hzr := za_up (k := 37) (i := 3) (v := 39) (by decide) hzr
  refine r_aload_n 0 0 rfl dT_init_21 rfl ?_
  refine r_sipush (by decide) dT_init_22 ?_
  refine r_newa (len := 541) (k := 40) rfl (by decide) rfl (by decide) (by decide) rfl (by decide) (fun j => ⟨hzr 40 j (by decide), hzm 40 j (by decide)⟩) (mT 330 (by decide +kernel) rfl) (by decide) dT_init_25 ?_
  have hzr := za_mono (n' := 40) (by decide) hzr
  have hzm := za_mono (n' := 40) (by decide) hzm
  refine r_putF 4 (ci := 4) (j := 4) (show isO 40 37 4 from ⟨by decide, by decide, by decide, rfl⟩) rfl (by decide) rfl rfl rfl rfl rfl (mT 299 (by decide +kernel) rfl) rfl (by decide) dT_init_27 ?_
  have hzr := za_up (k := 37) (i := 4) (v := 40) (by decide) hzr
  refine r_aload_n 0 0 rfl dT_init_30 rfl ?_
  refine r_sipush (by decide) dT_init_31 ?_
  refine r_newa (len := 512) (k := 41) rfl (by decide) rfl (by decide) (by decide) rfl (by decide) (fun j => ⟨hzr 41 j (by decide), hzm 41 j (by decide)⟩) (mT 213 (by decide +kernel) rfl) (by decide) dT_init_34 ?_
  have hzr := za_mono (n' := 41) (by decide) hzr
  have hzm := za_mono (n' := 41) (by decide) hzm
  refine r_putF 5 (ci := 4) (j := 5) (show isO 41 37 4 from ⟨by decide, by decide, by decide, rfl⟩) rfl (by decide) rfl rfl rfl rfl rfl (mT 301 (by decide +kernel) rfl) rfl (by decide) dT_init_36 ?_
  have hzr := za_up (k := 37) (i := 5) (v := 41) (by decide) hzr
  refine r_aload_n 0 0 rfl dT_init_39 rfl ?_
  refine r_lconst dT_init_40 ?_
  refine q_putL 7 (show isO 41 37 4 from ⟨by decide, by decide, by decide, rfl⟩) pfT_25 rfl rfl dT_init_41 ?_
  have hzm := za_up (k := 37) (i := 7) (v := 1) (by decide) hzm
  refine r_aload_n 0 0 rfl dT_init_44 rfl ?_
  refine r_iconst dT_init_45 ?_
  refine q_putI 8 (show isO 41 37 4 from ⟨by decide, by decide, by decide, rfl⟩) pfT_29 rfl rfl dT_init_46 ?_
  have hzm := za_up (k := 37) (i := 8) (v := (-1)) (by decide) hzm
  refine r_aload_n 0 0 rfl dT_init_49 rfl ?_
  refine r_aload_n 1 1 rfl dT_init_50 rfl ?_
  refine r_putF 0 (ci := 4) (j := 0) (show isO 41 37 4 from ⟨by decide, by decide, by decide, rfl⟩) rfl (by decide) rfl rfl rfl rfl rfl (mT 291 (by decide +kernel) rfl) rfl (by decide) dT_init_51 ?_
  have hzr := za_up (k := 37) (i := 0) (v := 2) (by decide) hzr
  refine r_aload_n 0 0 rfl dT_init_54 rfl ?_
  refine r_aload_n 2 2 rfl dT_init_55 rfl ?_
  refine r_putF 1 (ci := 4) (j := 1) (show isO 41 37 4 from ⟨by decide, by decide, by decide, rfl⟩) rfl (by decide) rfl rfl rfl rfl rfl (mT 292 (by decide +kernel) rfl) rfl (by decide) dT_init_56 ?_
  have hzr := za_up (k := 37) (i := 1) (v := 23) (by decide) hzr
  exact r_vret rfl rfl ⟨rfl, rfl⟩ dT_init_59
theorem dC_init_0 : decode mC_init.2.1 0 = .ok (.aload_n 0, 1) := by decide +kernel
theorem dC_init_1 : decode mC_init.2.1 1 = .ok (.invokespecial 3, 3) := by decide +kernel
theorem dC_init_4 : decode mC_init.2.1 4 = .ok (.aload_n 0, 1) := by decide +kernel
theorem dC_init_5 : decode mC_init.2.1 5 = .ok (.sipush 512, 3) := by decide +kernel
theorem dC_init_8 : decode mC_init.2.1 8 = .ok (.newarray .long, 2) := by decide +kernel
theorem dC_init_10 : decode mC_init.2.1 10 = .ok (.putfield 9, 3) := by decide +kernel
theorem dC_init_13 : decode mC_init.2.1 13 = .ok (.aload_n 0, 1) := by decide +kernel
theorem dC_init_14 : decode mC_init.2.1 14 = .ok (.aload_n 1, 1) := by decide +kernel
theorem dC_init_15 : decode mC_init.2.1 15 = .ok (.putfield 15, 3) := by decide +kernel
theorem dC_init_18 : decode mC_init.2.1 18 = .ok (.aload_n 0, 1) := by decide +kernel
theorem dC_init_19 : decode mC_init.2.1 19 = .ok (.aload_n 2, 1) := by decide +kernel
theorem dC_init_20 : decode mC_init.2.1 20 = .ok (.putfield 19, 3) := by decide +kernel
theorem dC_init_23 : decode mC_init.2.1 23 = .ok (.aload_n 0, 1) := by decide +kernel
theorem dC_init_24 : decode mC_init.2.1 24 = .ok (.aload_n 3, 1) := by decide +kernel
theorem dC_init_25 : decode mC_init.2.1 25 = .ok (.putfield 23, 3) := by decide +kernel
theorem dC_init_28 : decode mC_init.2.1 28 = .ok (.return_, 1) := by decide +kernel
set_option maxRecDepth 8000 in
set_option maxHeartbeats 1000000 in
theorem tC_init {X : Cx} (r m : Mem) (hzr : za r 42) (hzm : za m 42) : Mt X 1 mC_init 42 43 [vr 42, vr 2, vr 23, vr 37] r m (fun _ r1 m1 => r1 = (upm (upm (upm (upm r 42 3 43) 42 0 2) 42 1 23) 42 2 37) ∧ m1 = m) := by
  refine Mt.of pC_init (Nat.le_of_ble_eq_true rfl) (by decide) ?_
  show RR X 1 mC_init 42 43 42 0 [(0, vr 42), (1, vr 2), (2, vr 23), (3, vr 37)] [] r m _
  refine r_aload_n 0 0 rfl dC_init_0 rfl ?_
  refine r_objInit (mT 336 (by decide +kernel) rfl) (mT 167 (by decide +kernel) rfl) (mT 168 (by decide +kernel) rfl) (by decide) (Nat.le_of_ble_eq_true rfl) dC_init_1 ?_
  refine r_aload_n 0 0 rfl dC_init_4 rfl ?_
  refine r_sipush (by decide) dC_init_5 ?_
  refine r_newa (len := 512) (k := 43) rfl (by decide) rfl (by decide) (by decide) rfl (by decide) (fun j => ⟨hzr 43 j (by decide), hzm 43 j (by decide)⟩) (mT 330 (by decide +kernel) rfl) (by decide) dC_init_8 ?_
  have hzr := za_mono (n' := 43) (by decide) hzr
  have hzm := za_mono (n' := 43) (by decide) hzm
  refine r_putF 3 (ci := 5) (j := 3) (show isO 43 42 5 from ⟨by decide, by decide, by decide, rfl⟩) rfl (by decide) rfl rfl rfl rfl rfl (mT 340 (by decide +kernel) rfl) rfl (by decide) dC_init_10 ?_
  have hzr := za_up (k := 42) (i := 3) (v := 43) (by decide) hzr
  refine r_aload_n 0 0 rfl dC_init_13 rfl ?_
  refine r_aload_n 1 1 rfl dC_init_14 rfl ?_
  refine r_putF 0 (ci := 5) (j := 0) (show isO 43 42 5 from ⟨by decide, by decide, by decide, rfl⟩) rfl (by decide) rfl rfl rfl rfl rfl (mT 337 (by decide +kernel) rfl) rfl (by decide) dC_init_15 ?_
  have hzr := za_up (k := 42) (i := 0) (v := 2) (by decide) hzr
  refine r_aload_n 0 0 rfl dC_init_18 rfl ?_
  refine r_aload_n 2 2 rfl dC_init_19 rfl ?_
  refine r_putF 1 (ci := 5) (j := 1) (show isO 43 42 5 from ⟨by decide, by decide, by decide, rfl⟩) rfl (by decide) rfl rfl rfl rfl rfl (mT 338 (by decide +kernel) rfl) rfl (by decide) dC_init_20 ?_
  have hzr := za_up (k := 42) (i := 1) (v := 23) (by decide) hzr
  refine r_aload_n 0 0 rfl dC_init_23 rfl ?_
  refine r_aload_n 3 3 rfl dC_init_24 rfl ?_
  refine r_putF 2 (ci := 5) (j := 2) (show isO 43 42 5 from ⟨by decide, by decide, by decide, rfl⟩) rfl (by decide) rfl rfl rfl rfl rfl (mT 339 (by decide +kernel) rfl) rfl (by decide) dC_init_25 ?_
  have hzr := za_up (k := 42) (i := 2) (v := 37) (by decide) hzr
  exact r_vret rfl rfl ⟨rfl, rfl⟩ dC_init_28
theorem dI_init_0 : decode mI_init.2.1 0 = .ok (.aload_n 0, 1) := by decide +kernel
theorem dI_init_1 : decode mI_init.2.1 1 = .ok (.invokespecial 3, 3) := by decide +kernel
theorem dI_init_4 : decode mI_init.2.1 4 = .ok (.aload_n 0, 1) := by decide +kernel
theorem dI_init_5 : decode mI_init.2.1 5 = .ok (.sipush 512, 3) := by decide +kernel
theorem dI_init_8 : decode mI_init.2.1 8 = .ok (.newarray .long, 2) := by decide +kernel
theorem dI_init_10 : decode mI_init.2.1 10 = .ok (.putfield 9, 3) := by decide +kernel
theorem dI_init_13 : decode mI_init.2.1 13 = .ok (.aload_n 0, 1) := by decide +kernel
theorem dI_init_14 : decode mI_init.2.1 14 = .ok (.bipush 13, 2) := by decide +kernel
theorem dI_init_16 : decode mI_init.2.1 16 = .ok (.newarray .long, 2) := by decide +kernel
theorem dI_init_18 : decode mI_init.2.1 18 = .ok (.putfield 15, 3) := by decide +kernel
theorem dI_init_21 : decode mI_init.2.1 21 = .ok (.aload_n 0, 1) := by decide +kernel
theorem dI_init_22 : decode mI_init.2.1 22 = .ok (.aload_n 1, 1) := by decide +kernel
theorem dI_init_23 : decode mI_init.2.1 23 = .ok (.putfield 18, 3) := by decide +kernel
theorem dI_init_26 : decode mI_init.2.1 26 = .ok (.aload_n 0, 1) := by decide +kernel
theorem dI_init_27 : decode mI_init.2.1 27 = .ok (.aload_n 2, 1) := by decide +kernel
theorem dI_init_28 : decode mI_init.2.1 28 = .ok (.putfield 22, 3) := by decide +kernel
theorem dI_init_31 : decode mI_init.2.1 31 = .ok (.aload_n 0, 1) := by decide +kernel
theorem dI_init_32 : decode mI_init.2.1 32 = .ok (.aload_n 3, 1) := by decide +kernel
theorem dI_init_33 : decode mI_init.2.1 33 = .ok (.putfield 26, 3) := by decide +kernel
theorem dI_init_36 : decode mI_init.2.1 36 = .ok (.return_, 1) := by decide +kernel
set_option maxRecDepth 8000 in
set_option maxHeartbeats 1000000 in
theorem tI_init {X : Cx} (r m : Mem) (hzr : za r 44) (hzm : za m 44) : Mt X 1 mI_init 44 46 [vr 44, vr 2, vr 23, vr 37] r m (fun _ r1 m1 => r1 = (upm (upm (upm (upm (upm r 44 3 45) 44 4 46) 44 0 2) 44 1 23) 44 2 37) ∧ m1 = m) := by
  refine Mt.of pI_init (Nat.le_of_ble_eq_true rfl) (by decide) ?_
  show RR X 1 mI_init 44 46 44 0 [(0, vr 44), (1, vr 2), (2, vr 23), (3, vr 37)] [] r m _
  refine r_aload_n 0 0 rfl dI_init_0 rfl ?_
  refine r_objInit (mT 355 (by decide +kernel) rfl) (mT 167 (by decide +kernel) rfl) (mT 168 (by decide +kernel) rfl) (by decide) (Nat.le_of_ble_eq_true rfl) dI_init_1 ?_
  refine r_aload_n 0 0 rfl dI_init_4 rfl ?_
  refine r_sipush (by decide) dI_init_5 ?_
  refine r_newa (len := 512) (k := 45) rfl (by decide) rfl (by decide) (by decide) rfl (by decide) (fun j => ⟨hzr 45 j (by decide), hzm 45 j (by decide)⟩) (mT 330 (by decide +kernel) rfl) (by decide) dI_init_8 ?_
  have hzr := za_mono (n' := 45) (by decide) hzr
  have hzm := za_mono (n' := 45) (by decide) hzm
  refine r_putF 3 (ci := 6) (j := 3) (show isO 45 44 6 from ⟨by decide, by decide, by decide, rfl⟩) rfl (by decide) rfl rfl rfl rfl rfl (mT 359 (by decide +kernel) rfl) rfl (by decide) dI_init_10 ?_
  have hzr := za_up (k := 44) (i := 3) (v := 45) (by decide) hzr
  refine r_aload_n 0 0 rfl dI_init_13 rfl ?_
  refine r_bipush (by decide) dI_init_14 ?_
  refine r_newa (len := 13) (k := 46) rfl (by decide) rfl (by decide) (by decide) rfl (by decide) (fun j => ⟨hzr 46 j (by decide), hzm 46 j (by decide)⟩) (mT 330 (by decide +kernel) rfl) (by decide) dI_init_16 ?_
  have hzr := za_mono (n' := 46) (by decide) hzr
  have hzm := za_mono (n' := 46) (by decide) hzm
  refine r_putF 4 (ci := 6) (j := 4) (show isO 46 44 6 from ⟨by decide, by decide, by decide, rfl⟩) rfl (by decide) rfl rfl rfl rfl rfl (mT 360 (by decide +kernel) rfl) rfl (by decide) dI_init_18 ?_
  have hzr := za_up (k := 44) (i := 4) (v := 46) (by decide) hzr
  refine r_aload_n 0 0 rfl dI_init_21 rfl ?_
  refine r_aload_n 1 1 rfl dI_init_22 rfl ?_
  refine r_putF 0 (ci := 6) (j := 0) (show isO 46 44 6 from ⟨by decide, by decide, by decide, rfl⟩) rfl (by decide) rfl rfl rfl rfl rfl (mT 356 (by decide +kernel) rfl) rfl (by decide) dI_init_23 ?_
  have hzr := za_up (k := 44) (i := 0) (v := 2) (by decide) hzr
  refine r_aload_n 0 0 rfl dI_init_26 rfl ?_
  refine r_aload_n 2 2 rfl dI_init_27 rfl ?_
  refine r_putF 1 (ci := 6) (j := 1) (show isO 46 44 6 from ⟨by decide, by decide, by decide, rfl⟩) rfl (by decide) rfl rfl rfl rfl rfl (mT 357 (by decide +kernel) rfl) rfl (by decide) dI_init_28 ?_
  have hzr := za_up (k := 44) (i := 1) (v := 23) (by decide) hzr
  refine r_aload_n 0 0 rfl dI_init_31 rfl ?_
  refine r_aload_n 3 3 rfl dI_init_32 rfl ?_
  refine r_putF 2 (ci := 6) (j := 2) (show isO 46 44 6 from ⟨by decide, by decide, by decide, rfl⟩) rfl (by decide) rfl rfl rfl rfl rfl (mT 358 (by decide +kernel) rfl) rfl (by decide) dI_init_33 ?_
  have hzr := za_up (k := 44) (i := 2) (v := 37) (by decide) hzr
  exact r_vret rfl rfl ⟨rfl, rfl⟩ dI_init_36
theorem dN_init_0 : decode mN_init.2.1 0 = .ok (.aload_n 0, 1) := by decide +kernel
theorem dN_init_1 : decode mN_init.2.1 1 = .ok (.invokespecial 3, 3) := by decide +kernel
theorem dN_init_4 : decode mN_init.2.1 4 = .ok (.aload_n 0, 1) := by decide +kernel
theorem dN_init_5 : decode mN_init.2.1 5 = .ok (.iconst 3, 1) := by decide +kernel
theorem dN_init_6 : decode mN_init.2.1 6 = .ok (.sipush 216, 3) := by decide +kernel
theorem dN_init_9 : decode mN_init.2.1 9 = .ok (.multianewarray 11 2, 4) := by decide +kernel
theorem dN_init_13 : decode mN_init.2.1 13 = .ok (.putfield 13, 3) := by decide +kernel
theorem dN_init_16 : decode mN_init.2.1 16 = .ok (.aload_n 0, 1) := by decide +kernel
theorem dN_init_17 : decode mN_init.2.1 17 = .ok (.iconst 5, 1) := by decide +kernel
theorem dN_init_18 : decode mN_init.2.1 18 = .ok (.bipush 6, 2) := by decide +kernel
theorem dN_init_20 : decode mN_init.2.1 20 = .ok (.multianewarray 11 2, 4) := by decide +kernel
theorem dN_init_24 : decode mN_init.2.1 24 = .ok (.putfield 16, 3) := by decide +kernel
theorem dN_init_27 : decode mN_init.2.1 27 = .ok (.aload_n 0, 1) := by decide +kernel
theorem dN_init_28 : decode mN_init.2.1 28 = .ok (.iconst 5, 1) := by decide +kernel
theorem dN_init_29 : decode mN_init.2.1 29 = .ok (.newarray .int, 2) := by decide +kernel
theorem dN_init_31 : decode mN_init.2.1 31 = .ok (.putfield 19, 3) := by decide +kernel
theorem dN_init_34 : decode mN_init.2.1 34 = .ok (.aload_n 0, 1) := by decide +kernel
theorem dN_init_35 : decode mN_init.2.1 35 = .ok (.bipush 32, 2) := by decide +kernel
theorem dN_init_37 : decode mN_init.2.1 37 = .ok (.newarray .long, 2) := by decide +kernel
theorem dN_init_39 : decode mN_init.2.1 39 = .ok (.putfield 23, 3) := by decide +kernel
theorem dN_init_42 : decode mN_init.2.1 42 = .ok (.aload_n 0, 1) := by decide +kernel
theorem dN_init_43 : decode mN_init.2.1 43 = .ok (.iconst 1, 1) := by decide +kernel
theorem dN_init_44 : decode mN_init.2.1 44 = .ok (.putfield 27, 3) := by decide +kernel
theorem dN_init_47 : decode mN_init.2.1 47 = .ok (.aload_n 0, 1) := by decide +kernel
theorem dN_init_48 : decode mN_init.2.1 48 = .ok (.aload_n 1, 1) := by decide +kernel
theorem dN_init_49 : decode mN_init.2.1 49 = .ok (.putfield 31, 3) := by decide +kernel
theorem dN_init_52 : decode mN_init.2.1 52 = .ok (.aload_n 0, 1) := by decide +kernel
theorem dN_init_53 : decode mN_init.2.1 53 = .ok (.aload_n 2, 1) := by decide +kernel
theorem dN_init_54 : decode mN_init.2.1 54 = .ok (.putfield 35, 3) := by decide +kernel
theorem dN_init_57 : decode mN_init.2.1 57 = .ok (.aload_n 0, 1) := by decide +kernel
theorem dN_init_58 : decode mN_init.2.1 58 = .ok (.aload_n 3, 1) := by decide +kernel
theorem dN_init_59 : decode mN_init.2.1 59 = .ok (.putfield 39, 3) := by decide +kernel
theorem dN_init_62 : decode mN_init.2.1 62 = .ok (.return_, 1) := by decide +kernel
set_option maxRecDepth 8000 in
set_option maxHeartbeats 1000000 in
theorem tN_init {X : Cx} (r m : Mem) (hzr : za r 47) (hzm : za m 47) : Mt X 1 mN_init 47 59 [vr 47, vr 2, vr 23, vr 37] r m (fun _ r1 m1 => r1 = (upm (upm (upm (upm (upm (upm (gro (upm (gro r 48 3) 47 3 48) 52 5) 47 4 52) 47 5 58) 47 6 59) 47 0 2) 47 1 23) 47 2 37) ∧ m1 = (upm m 47 7 1)) := by
  refine Mt.of pN_init (Nat.le_of_ble_eq_true rfl) (by decide) ?_
  show RR X 1 mN_init 47 59 47 0 [(0, vr 47), (1, vr 2), (2, vr 23), (3, vr 37)] [] r m _
  refine r_aload_n 0 0 rfl dN_init_0 rfl ?_
  refine r_objInit (mT 386 (by decide +kernel) rfl) (mT 167 (by decide +kernel) rfl) (mT 168 (by decide +kernel) rfl) (by decide) (Nat.le_of_ble_eq_true rfl) dN_init_1 ?_
  refine r_aload_n 0 0 rfl dN_init_4 rfl ?_
  refine r_iconst dN_init_5 ?_
  refine r_sipush (by decide) dN_init_6 ?_
  refine r_mna (ty := .int) (N := 3) (K := 216) (k := 48) (by decide) rfl (by decide) rfl (by decide) rfl rfl (by decide) (by decide) (fun i j h => ⟨hzr _ _ (by omega), hzm _ _ (by omega)⟩) (mT 387 (by decide +kernel) rfl) (mT 213 (by decide +kernel) rfl) (by decide) (by decide +kernel) dN_init_9 ?_
  have hzr := za_gro (n := 51) (k := 48) (N := 3) (by decide) (za_mono (n' := 51) (by decide) hzr)
  have hzm := za_mono (n' := 51) (by decide) hzm
  refine r_putF 3 (ci := 7) (j := 3) (show isO 51 47 7 from ⟨by decide, by decide, by decide, rfl⟩) rfl (by decide) rfl rfl rfl rfl rfl (mT 391 (by decide +kernel) rfl) rfl (by decide) dN_init_13 ?_
  have hzr := za_up (k := 47) (i := 3) (v := 48) (by decide) hzr
  refine r_aload_n 0 0 rfl dN_init_16 rfl ?_
  refine r_iconst dN_init_17 ?_
  refine r_bipush (by decide) dN_init_18 ?_
  refine r_mna (ty := .int) (N := 5) (K := 6) (k := 52) (by decide) rfl (by decide) rfl (by decide) rfl rfl (by decide) (by decide) (fun i j h => ⟨hzr _ _ (by omega), hzm _ _ (by omega)⟩) (mT 387 (by decide +kernel) rfl) (mT 213 (by decide +kernel) rfl) (by decide) (by decide +kernel) dN_init_20 ?_
  have hzr := za_gro (n := 57) (k := 52) (N := 5) (by decide) (za_mono (n' := 57) (by decide) hzr)
  have hzm := za_mono (n' := 57) (by decide) hzm
  refine r_putF 4 (ci := 7) (j := 4) (show isO 57 47 7 from ⟨by decide, by decide, by decide, rfl⟩) rfl (by decide) rfl rfl rfl rfl rfl (mT 392 (by decide +kernel) rfl) rfl (by decide) dN_init_24 ?_
  have hzr := za_up (k := 47) (i := 4) (v := 52) (by decide) hzr
  refine r_aload_n 0 0 rfl dN_init_27 rfl ?_
  refine r_iconst dN_init_28 ?_
  refine r_newa (len := 5) (k := 58) rfl (by decide) rfl (by decide) (by decide) rfl (by decide) (fun j => ⟨hzr 58 j (by decide), hzm 58 j (by decide)⟩) (mT 213 (by decide +kernel) rfl) (by decide) dN_init_29 ?_
  have hzr := za_mono (n' := 58) (by decide) hzr
  have hzm := za_mono (n' := 58) (by decide) hzm
  refine r_putF 5 (ci := 7) (j := 5) (show isO 58 47 7 from ⟨by decide, by decide, by decide, rfl⟩) rfl (by decide) rfl rfl rfl rfl rfl (mT 393 (by decide +kernel) rfl) rfl (by decide) dN_init_31 ?_
  have hzr := za_up (k := 47) (i := 5) (v := 58) (by decide) hzr
  refine r_aload_n 0 0 rfl dN_init_34 rfl ?_
  refine r_bipush (by decide) dN_init_35 ?_
  refine r_newa (len := 32) (k := 59) rfl (by decide) rfl (by decide) (by decide) rfl (by decide) (fun j => ⟨hzr 59 j (by decide), hzm 59 j (by decide)⟩) (mT 330 (by decide +kernel) rfl) (by decide) dN_init_37 ?_
  have hzr := za_mono (n' := 59) (by decide) hzr
  have hzm := za_mono (n' := 59) (by decide) hzm
  refine r_putF 6 (ci := 7) (j := 6) (show isO 59 47 7 from ⟨by decide, by decide, by decide, rfl⟩) rfl (by decide) rfl rfl rfl rfl rfl (mT 394 (by decide +kernel) rfl) rfl (by decide) dN_init_39 ?_
  have hzr := za_up (k := 47) (i := 6) (v := 59) (by decide) hzr
  refine r_aload_n 0 0 rfl dN_init_42 rfl ?_
  refine r_iconst dN_init_43 ?_
  refine q_putI 7 (show isO 59 47 7 from ⟨by decide, by decide, by decide, rfl⟩) pfN_27 rfl rfl dN_init_44 ?_
  have hzm := za_up (k := 47) (i := 7) (v := 1) (by decide) hzm
  refine r_aload_n 0 0 rfl dN_init_47 rfl ?_
  refine r_aload_n 1 1 rfl dN_init_48 rfl ?_
  refine r_putF 0 (ci := 7) (j := 0) (show isO 59 47 7 from ⟨by decide, by decide, by decide, rfl⟩) rfl (by decide) rfl rfl rfl rfl rfl (mT 388 (by decide +kernel) rfl) rfl (by decide) dN_init_49 ?_
  have hzr := za_up (k := 47) (i := 0) (v := 2) (by decide) hzr
  refine r_aload_n 0 0 rfl dN_init_52 rfl ?_
  refine r_aload_n 2 2 rfl dN_init_53 rfl ?_
  refine r_putF 1 (ci := 7) (j := 1) (show isO 59 47 7 from ⟨by decide, by decide, by decide, rfl⟩) rfl (by decide) rfl rfl rfl rfl rfl (mT 389 (by decide +kernel) rfl) rfl (by decide) dN_init_54 ?_
  have hzr := za_up (k := 47) (i := 1) (v := 23) (by decide) hzr
  refine r_aload_n 0 0 rfl dN_init_57 rfl ?_
  refine r_aload_n 3 3 rfl dN_init_58 rfl ?_
  refine r_putF 2 (ci := 7) (j := 2) (show isO 59 47 7 from ⟨by decide, by decide, by decide, rfl⟩) rfl (by decide) rfl rfl rfl rfl rfl (mT 390 (by decide +kernel) rfl) rfl (by decide) dN_init_59 ?_
  have hzr := za_up (k := 47) (i := 2) (v := 37) (by decide) hzr
  exact r_vret rfl rfl ⟨rfl, rfl⟩ dN_init_62
theorem dD_init_0 : decode mD_init.2.1 0 = .ok (.aload_n 0, 1) := by decide +kernel
theorem dD_init_1 : decode mD_init.2.1 1 = .ok (.invokespecial 3, 3) := by decide +kernel
theorem dD_init_4 : decode mD_init.2.1 4 = .ok (.aload_n 0, 1) := by decide +kernel
theorem dD_init_5 : decode mD_init.2.1 5 = .ok (.bipush 6, 2) := by decide +kernel
theorem dD_init_7 : decode mD_init.2.1 7 = .ok (.newarray .int, 2) := by decide +kernel
theorem dD_init_9 : decode mD_init.2.1 9 = .ok (.putfield 11, 3) := by decide +kernel
theorem dD_init_12 : decode mD_init.2.1 12 = .ok (.aload_n 0, 1) := by decide +kernel
theorem dD_init_13 : decode mD_init.2.1 13 = .ok (.bipush 6, 2) := by decide +kernel
theorem dD_init_15 : decode mD_init.2.1 15 = .ok (.newarray .int, 2) := by decide +kernel
theorem dD_init_17 : decode mD_init.2.1 17 = .ok (.putfield 15, 3) := by decide +kernel
theorem dD_init_20 : decode mD_init.2.1 20 = .ok (.aload_n 0, 1) := by decide +kernel
theorem dD_init_21 : decode mD_init.2.1 21 = .ok (.bipush 9, 2) := by decide +kernel
theorem dD_init_23 : decode mD_init.2.1 23 = .ok (.newarray .int, 2) := by decide +kernel
theorem dD_init_25 : decode mD_init.2.1 25 = .ok (.putfield 18, 3) := by decide +kernel
theorem dD_init_28 : decode mD_init.2.1 28 = .ok (.aload_n 0, 1) := by decide +kernel
theorem dD_init_29 : decode mD_init.2.1 29 = .ok (.aload_n 1, 1) := by decide +kernel
theorem dD_init_30 : decode mD_init.2.1 30 = .ok (.putfield 21, 3) := by decide +kernel
theorem dD_init_33 : decode mD_init.2.1 33 = .ok (.aload_n 0, 1) := by decide +kernel
theorem dD_init_34 : decode mD_init.2.1 34 = .ok (.aload_n 2, 1) := by decide +kernel
theorem dD_init_35 : decode mD_init.2.1 35 = .ok (.putfield 25, 3) := by decide +kernel
theorem dD_init_38 : decode mD_init.2.1 38 = .ok (.return_, 1) := by decide +kernel
set_option maxRecDepth 8000 in
set_option maxHeartbeats 1000000 in
theorem tD_init {X : Cx} (r m : Mem) (hzr : za r 60) (hzm : za m 60) : Mt X 1 mD_init 60 63 [vr 60, vr 2, vr 23] r m (fun _ r1 m1 => r1 = (upm (upm (upm (upm (upm r 60 2 61) 60 3 62) 60 4 63) 60 0 2) 60 1 23) ∧ m1 = m) := by
  refine Mt.of pD_init (Nat.le_of_ble_eq_true rfl) (by decide) ?_
  show RR X 1 mD_init 60 63 60 0 [(0, vr 60), (1, vr 2), (2, vr 23)] [] r m _
  refine r_aload_n 0 0 rfl dD_init_0 rfl ?_
  refine r_objInit (mT 418 (by decide +kernel) rfl) (mT 167 (by decide +kernel) rfl) (mT 168 (by decide +kernel) rfl) (by decide) (Nat.le_of_ble_eq_true rfl) dD_init_1 ?_
  refine r_aload_n 0 0 rfl dD_init_4 rfl ?_
  refine r_bipush (by decide) dD_init_5 ?_
  refine r_newa (len := 6) (k := 61) rfl (by decide) rfl (by decide) (by decide) rfl (by decide) (fun j => ⟨hzr 61 j (by decide), hzm 61 j (by decide)⟩) (mT 213 (by decide +kernel) rfl) (by decide) dD_init_7 ?_
  have hzr := za_mono (n' := 61) (by decide) hzr
  have hzm := za_mono (n' := 61) (by decide) hzm
  refine r_putF 2 (ci := 8) (j := 2) (show isO 61 60 8 from ⟨by decide, by decide, by decide, rfl⟩) rfl (by decide) rfl rfl rfl rfl rfl (mT 421 (by decide +kernel) rfl) rfl (by decide) dD_init_9 ?_
  have hzr := za_up (k := 60) (i := 2) (v := 61) (by decide) hzr
  refine r_aload_n 0 0 rfl dD_init_12 rfl ?_
  refine r_bipush (by decide) dD_init_13 ?_
  refine r_newa (len := 6) (k := 62) rfl (by decide) rfl (by decide) (by decide) rfl (by decide) (fun j => ⟨hzr 62 j (by decide), hzm 62 j (by decide)⟩) (mT 213 (by decide +kernel) rfl) (by decide) dD_init_15 ?_
  have hzr := za_mono (n' := 62) (by decide) hzr
  have hzm := za_mono (n' := 62) (by decide) hzm
  refine r_putF 3 (ci := 8) (j := 3) (show isO 62 60 8 from ⟨by decide, by decide, by decide, rfl⟩) rfl (by decide) rfl rfl rfl rfl rfl (mT 422 (by decide +kernel) rfl) rfl (by decide) dD_init_17 ?_
  have hzr := za_up (k := 60) (i := 3) (v := 62) (by decide) hzr
  refine r_aload_n 0 0 rfl dD_init_20 rfl ?_
  refine r_bipush (by decide) dD_init_21 ?_
  refine r_newa (len := 9) (k := 63) rfl (by decide) rfl (by decide) (by decide) rfl (by decide) (fun j => ⟨hzr 63 j (by decide), hzm 63 j (by decide)⟩) (mT 213 (by decide +kernel) rfl) (by decide) dD_init_23 ?_
  have hzr := za_mono (n' := 63) (by decide) hzr
  have hzm := za_mono (n' := 63) (by decide) hzm
  refine r_putF 4 (ci := 8) (j := 4) (show isO 63 60 8 from ⟨by decide, by decide, by decide, rfl⟩) rfl (by decide) rfl rfl rfl rfl rfl (mT 423 (by decide +kernel) rfl) rfl (by decide) dD_init_25 ?_
  have hzr := za_up (k := 60) (i := 4) (v := 63) (by decide) hzr
  refine r_aload_n 0 0 rfl dD_init_28 rfl ?_
  refine r_aload_n 1 1 rfl dD_init_29 rfl ?_
  refine r_putF 0 (ci := 8) (j := 0) (show isO 63 60 8 from ⟨by decide, by decide, by decide, rfl⟩) rfl (by decide) rfl rfl rfl rfl rfl (mT 419 (by decide +kernel) rfl) rfl (by decide) dD_init_30 ?_
  have hzr := za_up (k := 60) (i := 0) (v := 2) (by decide) hzr
  refine r_aload_n 0 0 rfl dD_init_33 rfl ?_
  refine r_aload_n 2 2 rfl dD_init_34 rfl ?_
  refine r_putF 1 (ci := 8) (j := 1) (show isO 63 60 8 from ⟨by decide, by decide, by decide, rfl⟩) rfl (by decide) rfl rfl rfl rfl rfl (mT 420 (by decide +kernel) rfl) rfl (by decide) dD_init_35 ?_
  have hzr := za_up (k := 60) (i := 1) (v := 23) (by decide) hzr
  exact r_vret rfl rfl ⟨rfl, rfl⟩ dD_init_38
theorem dG_init_0 : decode mG_init.2.1 0 = .ok (.aload_n 0, 1) := by decide +kernel
theorem dG_init_1 : decode mG_init.2.1 1 = .ok (.invokespecial 3, 3) := by decide +kernel
theorem dG_init_4 : decode mG_init.2.1 4 = .ok (.aload_n 0, 1) := by decide +kernel
theorem dG_init_5 : decode mG_init.2.1 5 = .ok (.bipush 40, 2) := by decide +kernel
theorem dG_init_7 : decode mG_init.2.1 7 = .ok (.newarray .int, 2) := by decide +kernel
theorem dG_init_9 : decode mG_init.2.1 9 = .ok (.putfield 11, 3) := by decide +kernel
theorem dG_init_12 : decode mG_init.2.1 12 = .ok (.aload_n 0, 1) := by decide +kernel
theorem dG_init_13 : decode mG_init.2.1 13 = .ok (.bipush 40, 2) := by decide +kernel
theorem dG_init_15 : decode mG_init.2.1 15 = .ok (.newarray .int, 2) := by decide +kernel
theorem dG_init_17 : decode mG_init.2.1 17 = .ok (.putfield 15, 3) := by decide +kernel
theorem dG_init_20 : decode mG_init.2.1 20 = .ok (.aload_n 0, 1) := by decide +kernel
theorem dG_init_21 : decode mG_init.2.1 21 = .ok (.bipush 40, 2) := by decide +kernel
theorem dG_init_23 : decode mG_init.2.1 23 = .ok (.newarray .int, 2) := by decide +kernel
theorem dG_init_25 : decode mG_init.2.1 25 = .ok (.putfield 18, 3) := by decide +kernel
theorem dG_init_28 : decode mG_init.2.1 28 = .ok (.aload_n 0, 1) := by decide +kernel
theorem dG_init_29 : decode mG_init.2.1 29 = .ok (.bipush 40, 2) := by decide +kernel
theorem dG_init_31 : decode mG_init.2.1 31 = .ok (.newarray .int, 2) := by decide +kernel
theorem dG_init_33 : decode mG_init.2.1 33 = .ok (.putfield 21, 3) := by decide +kernel
theorem dG_init_36 : decode mG_init.2.1 36 = .ok (.aload_n 0, 1) := by decide +kernel
theorem dG_init_37 : decode mG_init.2.1 37 = .ok (.aload_n 1, 1) := by decide +kernel
theorem dG_init_38 : decode mG_init.2.1 38 = .ok (.putfield 24, 3) := by decide +kernel
theorem dG_init_41 : decode mG_init.2.1 41 = .ok (.return_, 1) := by decide +kernel
set_option maxRecDepth 8000 in
set_option maxHeartbeats 1000000 in
theorem tG_init {X : Cx} (r m : Mem) (hzr : za r 64) (hzm : za m 64) : Mt X 1 mG_init 64 68 [vr 64, vr 2] r m (fun _ r1 m1 => r1 = (upm (upm (upm (upm (upm r 64 1 65) 64 2 66) 64 3 67) 64 4 68) 64 0 2) ∧ m1 = m) := by
  refine Mt.of pG_init (Nat.le_of_ble_eq_true rfl) (by decide) ?_
  show RR X 1 mG_init 64 68 64 0 [(0, vr 64), (1, vr 2)] [] r m _
  refine r_aload_n 0 0 rfl dG_init_0 rfl ?_
  refine r_objInit (mT 446 (by decide +kernel) rfl) (mT 167 (by decide +kernel) rfl) (mT 168 (by decide +kernel) rfl) (by decide) (Nat.le_of_ble_eq_true rfl) dG_init_1 ?_
  refine r_aload_n 0 0 rfl dG_init_4 rfl ?_
  refine r_bipush (by decide) dG_init_5 ?_
  refine r_newa (len := 40) (k := 65) rfl (by decide) rfl (by decide) (by decide) rfl (by decide) (fun j => ⟨hzr 65 j (by decide), hzm 65 j (by decide)⟩) (mT 213 (by decide +kernel) rfl) (by decide) dG_init_7 ?_
  have hzr := za_mono (n' := 65) (by decide) hzr
  have hzm := za_mono (n' := 65) (by decide) hzm
  refine r_putF 1 (ci := 9) (j := 1) (show isO 65 64 9 from ⟨by decide, by decide, by decide, rfl⟩) rfl (by decide) rfl rfl rfl rfl rfl (mT 448 (by decide +kernel) rfl) rfl (by decide) dG_init_9 ?_
  have hzr := za_up (k := 64) (i := 1) (v := 65) (by decide) hzr
  refine r_aload_n 0 0 rfl dG_init_12 rfl ?_
  refine r_bipush (by decide) dG_init_13 ?_
  refine r_newa (len := 40) (k := 66) rfl (by decide) rfl (by decide) (by decide) rfl (by decide) (fun j => ⟨hzr 66 j (by decide), hzm 66 j (by decide)⟩) (mT 213 (by decide +kernel) rfl) (by decide) dG_init_15 ?_
  have hzr := za_mono (n' := 66) (by decide) hzr
  have hzm := za_mono (n' := 66) (by decide) hzm
  refine r_putF 2 (ci := 9) (j := 2) (show isO 66 64 9 from ⟨by decide, by decide, by decide, rfl⟩) rfl (by decide) rfl rfl rfl rfl rfl (mT 449 (by decide +kernel) rfl) rfl (by decide) dG_init_17 ?_
  have hzr := za_up (k := 64) (i := 2) (v := 66) (by decide) hzr
  refine r_aload_n 0 0 rfl dG_init_20 rfl ?_
  refine r_bipush (by decide) dG_init_21 ?_
  refine r_newa (len := 40) (k := 67) rfl (by decide) rfl (by decide) (by decide) rfl (by decide) (fun j => ⟨hzr 67 j (by decide), hzm 67 j (by decide)⟩) (mT 213 (by decide +kernel) rfl) (by decide) dG_init_23 ?_
  have hzr := za_mono (n' := 67) (by decide) hzr
  have hzm := za_mono (n' := 67) (by decide) hzm
  refine r_putF 3 (ci := 9) (j := 3) (show isO 67 64 9 from ⟨by decide, by decide, by decide, rfl⟩) rfl (by decide) rfl rfl rfl rfl rfl (mT 450 (by decide +kernel) rfl) rfl (by decide) dG_init_25 ?_
  have hzr := za_up (k := 64) (i := 3) (v := 67) (by decide) hzr
  refine r_aload_n 0 0 rfl dG_init_28 rfl ?_
  refine r_bipush (by decide) dG_init_29 ?_
  refine r_newa (len := 40) (k := 68) rfl (by decide) rfl (by decide) (by decide) rfl (by decide) (fun j => ⟨hzr 68 j (by decide), hzm 68 j (by decide)⟩) (mT 213 (by decide +kernel) rfl) (by decide) dG_init_31 ?_
  have hzr := za_mono (n' := 68) (by decide) hzr
  have hzm := za_mono (n' := 68) (by decide) hzm
  refine r_putF 4 (ci := 9) (j := 4) (show isO 68 64 9 from ⟨by decide, by decide, by decide, rfl⟩) rfl (by decide) rfl rfl rfl rfl rfl (mT 451 (by decide +kernel) rfl) rfl (by decide) dG_init_33 ?_
  have hzr := za_up (k := 64) (i := 4) (v := 68) (by decide) hzr
  refine r_aload_n 0 0 rfl dG_init_36 rfl ?_
  refine r_aload_n 1 1 rfl dG_init_37 rfl ?_
  refine r_putF 0 (ci := 9) (j := 0) (show isO 68 64 9 from ⟨by decide, by decide, by decide, rfl⟩) rfl (by decide) rfl rfl rfl rfl rfl (mT 447 (by decide +kernel) rfl) rfl (by decide) dG_init_38 ?_
  have hzr := za_up (k := 64) (i := 0) (v := 2) (by decide) hzr
  exact r_vret rfl rfl ⟨rfl, rfl⟩ dG_init_41
theorem dA_init_0 : decode mA_init.2.1 0 = .ok (.aload_n 0, 1) := by decide +kernel
theorem dA_init_1 : decode mA_init.2.1 1 = .ok (.invokespecial 3, 3) := by decide +kernel
theorem dA_init_4 : decode mA_init.2.1 4 = .ok (.aload_n 0, 1) := by decide +kernel
theorem dA_init_5 : decode mA_init.2.1 5 = .ok (.bipush 50, 2) := by decide +kernel
theorem dA_init_7 : decode mA_init.2.1 7 = .ok (.newarray .int, 2) := by decide +kernel
theorem dA_init_9 : decode mA_init.2.1 9 = .ok (.putfield 11, 3) := by decide +kernel
theorem dA_init_12 : decode mA_init.2.1 12 = .ok (.aload_n 0, 1) := by decide +kernel
theorem dA_init_13 : decode mA_init.2.1 13 = .ok (.bipush 24, 2) := by decide +kernel
theorem dA_init_15 : decode mA_init.2.1 15 = .ok (.newarray .int, 2) := by decide +kernel
theorem dA_init_17 : decode mA_init.2.1 17 = .ok (.putfield 15, 3) := by decide +kernel
theorem dA_init_20 : decode mA_init.2.1 20 = .ok (.return_, 1) := by decide +kernel
set_option maxRecDepth 8000 in
set_option maxHeartbeats 1000000 in
theorem tA_init {X : Cx} (r m : Mem) (hzr : za r 69) (hzm : za m 69) : Mt X 1 mA_init 69 71 [vr 69] r m (fun _ r1 m1 => r1 = (upm (upm r 69 0 70) 69 1 71) ∧ m1 = m) := by
  refine Mt.of pA_init (Nat.le_of_ble_eq_true rfl) (by decide) ?_
  show RR X 1 mA_init 69 71 69 0 [(0, vr 69)] [] r m _
  refine r_aload_n 0 0 rfl dA_init_0 rfl ?_
  refine r_objInit (mT 475 (by decide +kernel) rfl) (mT 167 (by decide +kernel) rfl) (mT 168 (by decide +kernel) rfl) (by decide) (Nat.le_of_ble_eq_true rfl) dA_init_1 ?_
  refine r_aload_n 0 0 rfl dA_init_4 rfl ?_
  refine r_bipush (by decide) dA_init_5 ?_
  refine r_newa (len := 50) (k := 70) rfl (by decide) rfl (by decide) (by decide) rfl (by decide) (fun j => ⟨hzr 70 j (by decide), hzm 70 j (by decide)⟩) (mT 213 (by decide +kernel) rfl) (by decide) dA_init_7 ?_
  have hzr := za_mono (n' := 70) (by decide) hzr
  have hzm := za_mono (n' := 70) (by decide) hzm
  refine r_putF 0 (ci := 10) (j := 0) (show isO 70 69 10 from ⟨by decide, by decide, by decide, rfl⟩) rfl (by decide) rfl rfl rfl rfl rfl (mT 476 (by decide +kernel) rfl) rfl (by decide) dA_init_9 ?_
  have hzr := za_up (k := 69) (i := 0) (v := 70) (by decide) hzr
  refine r_aload_n 0 0 rfl dA_init_12 rfl ?_
  refine r_bipush (by decide) dA_init_13 ?_
  refine r_newa (len := 24) (k := 71) rfl (by decide) rfl (by decide) (by decide) rfl (by decide) (fun j => ⟨hzr 71 j (by decide), hzm 71 j (by decide)⟩) (mT 213 (by decide +kernel) rfl) (by decide) dA_init_15 ?_
  have hzr := za_mono (n' := 71) (by decide) hzr
  have hzm := za_mono (n' := 71) (by decide) hzm
  refine r_putF 1 (ci := 10) (j := 1) (show isO 71 69 10 from ⟨by decide, by decide, by decide, rfl⟩) rfl (by decide) rfl rfl rfl rfl rfl (mT 477 (by decide +kernel) rfl) rfl (by decide) dA_init_17 ?_
  have hzr := za_up (k := 69) (i := 1) (v := 71) (by decide) hzr
  exact r_vret rfl rfl ⟨rfl, rfl⟩ dA_init_20
theorem dS_init_0 : decode mS_init.2.1 0 = .ok (.aload_n 0, 1) := by decide +kernel
theorem dS_init_1 : decode mS_init.2.1 1 = .ok (.invokespecial 3, 3) := by decide +kernel
theorem dS_init_4 : decode mS_init.2.1 4 = .ok (.aload_n 0, 1) := by decide +kernel
theorem dS_init_5 : decode mS_init.2.1 5 = .ok (.bipush 6, 2) := by decide +kernel
theorem dS_init_7 : decode mS_init.2.1 7 = .ok (.newarray .int, 2) := by decide +kernel
theorem dS_init_9 : decode mS_init.2.1 9 = .ok (.putfield 11, 3) := by decide +kernel
theorem dS_init_12 : decode mS_init.2.1 12 = .ok (.aload_n 0, 1) := by decide +kernel
theorem dS_init_13 : decode mS_init.2.1 13 = .ok (.bipush 6, 2) := by decide +kernel
theorem dS_init_15 : decode mS_init.2.1 15 = .ok (.newarray .int, 2) := by decide +kernel
theorem dS_init_17 : decode mS_init.2.1 17 = .ok (.putfield 15, 3) := by decide +kernel
theorem dS_init_20 : decode mS_init.2.1 20 = .ok (.aload_n 0, 1) := by decide +kernel
theorem dS_init_21 : decode mS_init.2.1 21 = .ok (.bipush 6, 2) := by decide +kernel
theorem dS_init_23 : decode mS_init.2.1 23 = .ok (.newarray .int, 2) := by decide +kernel
theorem dS_init_25 : decode mS_init.2.1 25 = .ok (.putfield 18, 3) := by decide +kernel
theorem dS_init_28 : decode mS_init.2.1 28 = .ok (.aload_n 0, 1) := by decide +kernel
theorem dS_init_29 : decode mS_init.2.1 29 = .ok (.bipush 6, 2) := by decide +kernel
theorem dS_init_31 : decode mS_init.2.1 31 = .ok (.newarray .int, 2) := by decide +kernel
theorem dS_init_33 : decode mS_init.2.1 33 = .ok (.putfield 21, 3) := by decide +kernel
theorem dS_init_36 : decode mS_init.2.1 36 = .ok (.aload_n 0, 1) := by decide +kernel
theorem dS_init_37 : decode mS_init.2.1 37 = .ok (.bipush 6, 2) := by decide +kernel
theorem dS_init_39 : decode mS_init.2.1 39 = .ok (.bipush 60, 2) := by decide +kernel
theorem dS_init_41 : decode mS_init.2.1 41 = .ok (.multianewarray 24 2, 4) := by decide +kernel
theorem dS_init_45 : decode mS_init.2.1 45 = .ok (.putfield 26, 3) := by decide +kernel
theorem dS_init_48 : decode mS_init.2.1 48 = .ok (.return_, 1) := by decide +kernel
set_option maxRecDepth 8000 in
set_option maxHeartbeats 1000000 in
theorem tS_init {X : Cx} (r m : Mem) (hzr : za r 72) (hzm : za m 72) : Mt X 1 mS_init 72 83 [vr 72] r m (fun _ r1 m1 => r1 = (upm (gro (upm (upm (upm (upm r 72 0 73) 72 1 74) 72 2 75) 72 3 76) 77 6) 72 4 77) ∧ m1 = m) := by
  refine Mt.of pS_init (Nat.le_of_ble_eq_true rfl) (by decide) ?_
  show RR X 1 mS_init 72 83 72 0 [(0, vr 72)] [] r m _
  refine r_aload_n 0 0 rfl dS_init_0 rfl ?_
  refine r_objInit (mT 502 (by decide +kernel) rfl) (mT 167 (by decide +kernel) rfl) (mT 168 (by decide +kernel) rfl) (by decide) (Nat.le_of_ble_eq_true rfl) dS_init_1 ?_
  refine r_aload_n 0 0 rfl dS_init_4 rfl ?_
  refine r_bipush (by decide) dS_init_5 ?_
  refine r_newa (len := 6) (k := 73) rfl (by decide) rfl (by decide) (by decide) rfl (by decide) (fun j => ⟨hzr 73 j (by decide), hzm 73 j (by decide)⟩) (mT 213 (by decide +kernel) rfl) (by decide) dS_init_7 ?_
  have hzr := za_mono (n' := 73) (by decide) hzr
  have hzm := za_mono (n' := 73) (by decide) hzm
  refine r_putF 0 (ci := 11) (j := 0) (show isO 73 72 11 from ⟨by decide, by decide, by decide, rfl⟩) rfl (by decide) rfl rfl rfl rfl rfl (mT 505 (by decide +kernel) rfl) rfl (by decide) dS_init_9 ?_
  have hzr := za_up (k := 72) (i := 0) (v := 73) (by decide) hzr
  refine r_aload_n 0 0 rfl dS_init_12 rfl ?_
  refine r_bipush (by decide) dS_init_13 ?_
  refine r_newa (len := 6) (k := 74) rfl (by decide) rfl (by decide) (by decide) rfl (by decide) (fun j => ⟨hzr 74 j (by decide), hzm 74 j (by decide)⟩) (mT 213 (by decide +kernel) rfl) (by decide) dS_init_15 ?_
  have hzr := za_mono (n' := 74) (by decide) hzr
  have hzm := za_mono (n' := 74) (by decide) hzm
  refine r_putF 1 (ci := 11) (j := 1) (show isO 74 72 11 from ⟨by decide, by decide, by decide, rfl⟩) rfl (by decide) rfl rfl rfl rfl rfl (mT 506 (by decide +kernel) rfl) rfl (by decide) dS_init_17 ?_
  have hzr := za_up (k := 72) (i := 1) (v := 74) (by decide) hzr
  refine r_aload_n 0 0 rfl dS_init_20 rfl ?_
  refine r_bipush (by decide) dS_init_21 ?_
  refine r_newa (len := 6) (k := 75) rfl (by decide) rfl (by decide) (by decide) rfl (by decide) (fun j => ⟨hzr 75 j (by decide), hzm 75 j (by decide)⟩) (mT 213 (by decide +kernel) rfl) (by decide) dS_init_23 ?_
  have hzr := za_mono (n' := 75) (by decide) hzr
  have hzm := za_mono (n' := 75) (by decide) hzm
  refine r_putF 2 (ci := 11) (j := 2) (show isO 75 72 11 from ⟨by decide, by decide, by decide, rfl⟩) rfl (by decide) rfl rfl rfl rfl rfl (mT 507 (by decide +kernel) rfl) rfl (by decide) dS_init_25 ?_
  have hzr := za_up (k := 72) (i := 2) (v := 75) (by decide) hzr
  refine r_aload_n 0 0 rfl dS_init_28 rfl ?_
  refine r_bipush (by decide) dS_init_29 ?_
  refine r_newa (len := 6) (k := 76) rfl (by decide) rfl (by decide) (by decide) rfl (by decide) (fun j => ⟨hzr 76 j (by decide), hzm 76 j (by decide)⟩) (mT 213 (by decide +kernel) rfl) (by decide) dS_init_31 ?_
  have hzr := za_mono (n' := 76) (by decide) hzr
  have hzm := za_mono (n' := 76) (by decide) hzm
  refine r_putF 3 (ci := 11) (j := 3) (show isO 76 72 11 from ⟨by decide, by decide, by decide, rfl⟩) rfl (by decide) rfl rfl rfl rfl rfl (mT 508 (by decide +kernel) rfl) rfl (by decide) dS_init_33 ?_
  have hzr := za_up (k := 72) (i := 3) (v := 76) (by decide) hzr
  refine r_aload_n 0 0 rfl dS_init_36 rfl ?_
  refine r_bipush (by decide) dS_init_37 ?_
  refine r_bipush (by decide) dS_init_39 ?_
  refine r_mna (ty := .long) (N := 6) (K := 60) (k := 77) (by decide) rfl (by decide) rfl (by decide) rfl rfl (by decide) (by decide) (fun i j h => ⟨hzr _ _ (by omega), hzm _ _ (by omega)⟩) (mT 503 (by decide +kernel) rfl) (mT 330 (by decide +kernel) rfl) (by decide) (by decide +kernel) dS_init_41 ?_
  have hzr := za_gro (n := 83) (k := 77) (N := 6) (by decide) (za_mono (n' := 83) (by decide) hzr)
  have hzm := za_mono (n' := 83) (by decide) hzm
  refine r_putF 4 (ci := 11) (j := 4) (show isO 83 72 11 from ⟨by decide, by decide, by decide, rfl⟩) rfl (by decide) rfl rfl rfl rfl rfl (mT 509 (by decide +kernel) rfl) rfl (by decide) dS_init_45 ?_
  have hzr := za_up (k := 72) (i := 4) (v := 77) (by decide) hzr
  exact r_vret rfl rfl ⟨rfl, rfl⟩ dS_init_48
theorem dZ_init_0 : decode mZ_init.2.1 0 = .ok (.aload_n 0, 1) := by decide +kernel
theorem dZ_init_1 : decode mZ_init.2.1 1 = .ok (.invokespecial 1, 3) := by decide +kernel
theorem dZ_init_4 : decode mZ_init.2.1 4 = .ok (.new 7, 3) := by decide +kernel
theorem dZ_init_7 : decode mZ_init.2.1 7 = .ok (.dup, 1) := by decide +kernel
theorem dZ_init_8 : decode mZ_init.2.1 8 = .ok (.invokespecial 9, 3) := by decide +kernel
theorem dZ_init_11 : decode mZ_init.2.1 11 = .ok (.astore_n 1, 1) := by decide +kernel
theorem dZ_init_12 : decode mZ_init.2.1 12 = .ok (.new 10, 3) := by decide +kernel
theorem dZ_init_15 : decode mZ_init.2.1 15 = .ok (.dup, 1) := by decide +kernel
theorem dZ_init_16 : decode mZ_init.2.1 16 = .ok (.aload_n 1, 1) := by decide +kernel
theorem dZ_init_17 : decode mZ_init.2.1 17 = .ok (.invokespecial 12, 3) := by decide +kernel
theorem dZ_init_20 : decode mZ_init.2.1 20 = .ok (.astore_n 2, 1) := by decide +kernel
theorem dZ_init_21 : decode mZ_init.2.1 21 = .ok (.new 15, 3) := by decide +kernel
theorem dZ_init_24 : decode mZ_init.2.1 24 = .ok (.dup, 1) := by decide +kernel
theorem dZ_init_25 : decode mZ_init.2.1 25 = .ok (.aload_n 1, 1) := by decide +kernel
theorem dZ_init_26 : decode mZ_init.2.1 26 = .ok (.aload_n 2, 1) := by decide +kernel
theorem dZ_init_27 : decode mZ_init.2.1 27 = .ok (.invokespecial 17, 3) := by decide +kernel
theorem dZ_init_30 : decode mZ_init.2.1 30 = .ok (.astore_n 3, 1) := by decide +kernel
theorem dZ_init_31 : decode mZ_init.2.1 31 = .ok (.aload_n 0, 1) := by decide +kernel
theorem dZ_init_32 : decode mZ_init.2.1 32 = .ok (.aload_n 1, 1) := by decide +kernel
theorem dZ_init_33 : decode mZ_init.2.1 33 = .ok (.putfield 20, 3) := by decide +kernel
theorem dZ_init_36 : decode mZ_init.2.1 36 = .ok (.aload_n 0, 1) := by decide +kernel
theorem dZ_init_37 : decode mZ_init.2.1 37 = .ok (.aload_n 2, 1) := by decide +kernel
theorem dZ_init_38 : decode mZ_init.2.1 38 = .ok (.putfield 26, 3) := by decide +kernel
theorem dZ_init_41 : decode mZ_init.2.1 41 = .ok (.aload_n 0, 1) := by decide +kernel
theorem dZ_init_42 : decode mZ_init.2.1 42 = .ok (.aload_n 3, 1) := by decide +kernel
theorem dZ_init_43 : decode mZ_init.2.1 43 = .ok (.putfield 30, 3) := by decide +kernel
theorem dZ_init_46 : decode mZ_init.2.1 46 = .ok (.aload_n 0, 1) := by decide +kernel
theorem dZ_init_47 : decode mZ_init.2.1 47 = .ok (.new 34, 3) := by decide +kernel
theorem dZ_init_50 : decode mZ_init.2.1 50 = .ok (.dup, 1) := by decide +kernel
theorem dZ_init_51 : decode mZ_init.2.1 51 = .ok (.aload_n 1, 1) := by decide +kernel
theorem dZ_init_52 : decode mZ_init.2.1 52 = .ok (.aload_n 2, 1) := by decide +kernel
theorem dZ_init_53 : decode mZ_init.2.1 53 = .ok (.aload_n 3, 1) := by decide +kernel
theorem dZ_init_54 : decode mZ_init.2.1 54 = .ok (.invokespecial 36, 3) := by decide +kernel
theorem dZ_init_57 : decode mZ_init.2.1 57 = .ok (.putfield 39, 3) := by decide +kernel
theorem dZ_init_60 : decode mZ_init.2.1 60 = .ok (.aload_n 0, 1) := by decide +kernel
theorem dZ_init_61 : decode mZ_init.2.1 61 = .ok (.new 43, 3) := by decide +kernel
theorem dZ_init_64 : decode mZ_init.2.1 64 = .ok (.dup, 1) := by decide +kernel
theorem dZ_init_65 : decode mZ_init.2.1 65 = .ok (.aload_n 1, 1) := by decide +kernel
theorem dZ_init_66 : decode mZ_init.2.1 66 = .ok (.aload_n 2, 1) := by decide +kernel
theorem dZ_init_67 : decode mZ_init.2.1 67 = .ok (.aload_n 3, 1) := by decide +kernel
theorem dZ_init_68 : decode mZ_init.2.1 68 = .ok (.invokespecial 45, 3) := by decide +kernel
theorem dZ_init_71 : decode mZ_init.2.1 71 = .ok (.putfield 46, 3) := by decide +kernel
theorem dZ_init_74 : decode mZ_init.2.1 74 = .ok (.aload_n 0, 1) := by decide +kernel
theorem dZ_init_75 : decode mZ_init.2.1 75 = .ok (.new 50, 3) := by decide +kernel
theorem dZ_init_78 : decode mZ_init.2.1 78 = .ok (.dup, 1) := by decide +kernel
theorem dZ_init_79 : decode mZ_init.2.1 79 = .ok (.aload_n 1, 1) := by decide +kernel
theorem dZ_init_80 : decode mZ_init.2.1 80 = .ok (.aload_n 2, 1) := by decide +kernel
theorem dZ_init_81 : decode mZ_init.2.1 81 = .ok (.aload_n 3, 1) := by decide +kernel
theorem dZ_init_82 : decode mZ_init.2.1 82 = .ok (.invokespecial 52, 3) := by decide +kernel
theorem dZ_init_85 : decode mZ_init.2.1 85 = .ok (.putfield 53, 3) := by decide +kernel
theorem dZ_init_88 : decode mZ_init.2.1 88 = .ok (.aload_n 0, 1) := by decide +kernel
theorem dZ_init_89 : decode mZ_init.2.1 89 = .ok (.new 57, 3) := by decide +kernel
theorem dZ_init_92 : decode mZ_init.2.1 92 = .ok (.dup, 1) := by decide +kernel
theorem dZ_init_93 : decode mZ_init.2.1 93 = .ok (.aload_n 1, 1) := by decide +kernel
theorem dZ_init_94 : decode mZ_init.2.1 94 = .ok (.aload_n 2, 1) := by decide +kernel
theorem dZ_init_95 : decode mZ_init.2.1 95 = .ok (.invokespecial 59, 3) := by decide +kernel
theorem dZ_init_98 : decode mZ_init.2.1 98 = .ok (.putfield 60, 3) := by decide +kernel
theorem dZ_init_101 : decode mZ_init.2.1 101 = .ok (.aload_n 0, 1) := by decide +kernel
theorem dZ_init_102 : decode mZ_init.2.1 102 = .ok (.new 64, 3) := by decide +kernel
theorem dZ_init_105 : decode mZ_init.2.1 105 = .ok (.dup, 1) := by decide +kernel
theorem dZ_init_106 : decode mZ_init.2.1 106 = .ok (.aload_n 1, 1) := by decide +kernel
theorem dZ_init_107 : decode mZ_init.2.1 107 = .ok (.invokespecial 66, 3) := by decide +kernel
theorem dZ_init_110 : decode mZ_init.2.1 110 = .ok (.putfield 67, 3) := by decide +kernel
theorem dZ_init_113 : decode mZ_init.2.1 113 = .ok (.aload_n 0, 1) := by decide +kernel
theorem dZ_init_114 : decode mZ_init.2.1 114 = .ok (.new 71, 3) := by decide +kernel
theorem dZ_init_117 : decode mZ_init.2.1 117 = .ok (.dup, 1) := by decide +kernel
theorem dZ_init_118 : decode mZ_init.2.1 118 = .ok (.invokespecial 73, 3) := by decide +kernel
theorem dZ_init_121 : decode mZ_init.2.1 121 = .ok (.putfield 74, 3) := by decide +kernel
theorem dZ_init_124 : decode mZ_init.2.1 124 = .ok (.aload_n 0, 1) := by decide +kernel
theorem dZ_init_125 : decode mZ_init.2.1 125 = .ok (.new 78, 3) := by decide +kernel
theorem dZ_init_128 : decode mZ_init.2.1 128 = .ok (.dup, 1) := by decide +kernel
theorem dZ_init_129 : decode mZ_init.2.1 129 = .ok (.invokespecial 80, 3) := by decide +kernel
theorem dZ_init_132 : decode mZ_init.2.1 132 = .ok (.putfield 81, 3) := by decide +kernel
theorem dZ_init_135 : decode mZ_init.2.1 135 = .ok (.return_, 1) := by decide +kernel
set_option maxRecDepth 8000 in
set_option maxHeartbeats 1000000 in
theorem tZ_init {X : Cx} (r m : Mem) (hzr : za r 1) (hzm : za m 1) : Mt X 3 mZ_init 1 83 [vr 1] r m (fun _ r1 m1 => r1 = (upm (upm (gro (upm (upm (upm (upm (upm (upm (upm (upm (upm (upm (upm (upm (upm (upm (upm (upm (upm (upm (upm (upm (upm (upm (upm (upm (upm (upm (gro (upm (gro (upm (upm (upm (upm (upm (upm (upm (upm (upm (upm (upm (upm (upm (upm (upm (upm (upm (upm (upm (upm (upm (upm (upm (upm (upm (gro (upm (upm (upm (upm (upm (upm (upm (gro r 3 13) 2 0 3) 2 1 17) 18 0 19) 18 1 20) 18 2 21) 18 3 22) 2 2 18) 24 9) 23 1 24) 23 2 34) 23 3 35) 23 4 36) 23 0 2) 37 2 38) 37 3 39) 37 4 40) 37 5 41) 37 0 2) 37 1 23) 1 0 2) 1 1 23) 1 2 37) 42 3 43) 42 0 2) 42 1 23) 42 2 37) 1 3 42) 44 3 45) 44 4 46) 44 0 2) 44 1 23) 44 2 37) 1 4 44) 48 3) 47 3 48) 52 5) 47 4 52) 47 5 58) 47 6 59) 47 0 2) 47 1 23) 47 2 37) 1 5 47) 60 2 61) 60 3 62) 60 4 63) 60 0 2) 60 1 23) 1 6 60) 64 1 65) 64 2 66) 64 3 67) 64 4 68) 64 0 2) 1 7 64) 69 0 70) 69 1 71) 1 8 69) 72 0 73) 72 1 74) 72 2 75) 72 3 76) 77 6) 72 4 77) 1 9 72) ∧ m1 = (upm (upm (upm (upm (upm (upm (upm (upm m 12 0 60) 13 0 1) 14 0 2) 23 5 1) 23 6 (-1)) 37 7 1) 37 8 (-1)) 47 7 1)) := by
  refine Mt.of pZ_init (Nat.le_of_ble_eq_true rfl) (by decide) ?_
  show RR X 3 mZ_init 1 83 1 0 [(0, vr 1)] [] r m _
  refine r_aload_n 0 0 rfl dZ_init_0 rfl ?_
  refine r_objInit (mT 166 (by decide +kernel) rfl) (mT 167 (by decide +kernel) rfl) (mT 168 (by decide +kernel) rfl) (by decide) (Nat.le_of_ble_eq_true rfl) dZ_init_1 ?_
  refine r_new (ci := 1) (k := 2) rfl (by decide) rfl rfl (fun j => ⟨hzr 2 j (by decide), hzm 2 j (by decide)⟩) (mT 169 (by decide +kernel) rfl) (mT 170 (by decide +kernel) rfl) (mT 145 (by decide +kernel) rfl) (by decide) dZ_init_4 ?_
  have hzr := za_mono (n' := 2) (by decide) hzr
  have hzm := za_mono (n' := 2) (by decide) hzm
  refine r_dup (fun q => by cases q) dZ_init_7 ?_
  refine r_callI (as := []) rfl rfl oK_init iK_init yZ_9 (by decide) ⟨by decide, by decide⟩ rfl (Nat.le_of_ble_eq_true rfl) dZ_init_8 (tK_init _ _ hzr hzm) (fun z1 r1 m1 h => ?_)
  obtain ⟨rfl, rfl⟩ := h
  have hzr : za _ 22 := (za_up (k := 2) (i := 2) (v := 18) (by decide) (za_up (k := 18) (i := 3) (v := 22) (by decide) (za_up (k := 18) (i := 2) (v := 21) (by decide) (za_up (k := 18) (i := 1) (v := 20) (by decide) (za_up (k := 18) (i := 0) (v := 19) (by decide) (za_up (k := 2) (i := 1) (v := 17) (by decide) (za_up (k := 2) (i := 0) (v := 3) (by decide) (za_gro (k := 3) (N := 13) (by decide) (za_mono (n' := 22) (by decide) hzr)))))))))
  have hzm : za _ 22 := (za_up (k := 14) (i := 0) (v := 2) (by decide) (za_up (k := 13) (i := 0) (v := 1) (by decide) (za_up (k := 12) (i := 0) (v := 60) (by decide) (za_mono (n' := 22) (by decide) hzm))))
  refine r_astore_n 1 (by decide) dZ_init_11 rfl ?_
  refine r_new (ci := 3) (k := 23) rfl (by decide) rfl rfl (fun j => ⟨hzr 23 j (by decide), hzm 23 j (by decide)⟩) (mT 244 (by decide +kernel) rfl) (mT 245 (by decide +kernel) rfl) (mT 147 (by decide +kernel) rfl) (by decide) dZ_init_12 ?_
  have hzr := za_mono (n' := 23) (by decide) hzr
  have hzm := za_mono (n' := 23) (by decide) hzm
  refine r_dup (fun q => by cases q) dZ_init_15 ?_
  refine r_aload_n 1 0 rfl dZ_init_16 rfl ?_
  refine r_callI (as := [_]) rfl rfl oP_init iP_init yZ_12 (by decide) ⟨by decide, by decide⟩ rfl (Nat.le_of_ble_eq_true rfl) dZ_init_17 (tP_init _ _ hzr hzm) (fun z1 r1 m1 h => ?_)
  obtain ⟨rfl, rfl⟩ := h
  have hzr : za _ 36 := (za_up (k := 23) (i := 0) (v := 2) (by decide) (za_up (k := 23) (i := 4) (v := 36) (by decide) (za_up (k := 23) (i := 3) (v := 35) (by decide) (za_up (k := 23) (i := 2) (v := 34) (by decide) (za_up (k := 23) (i := 1) (v := 24) (by decide) (za_gro (k := 24) (N := 9) (by decide) (za_mono (n' := 36) (by decide) hzr)))))))
  have hzm : za _ 36 := (za_up (k := 23) (i := 6) (v := (-1)) (by decide) (za_up (k := 23) (i := 5) (v := 1) (by decide) (za_mono (n' := 36) (by decide) hzm)))
  refine r_astore_n 2 (by decide) dZ_init_20 rfl ?_
  refine r_new (ci := 4) (k := 37) rfl (by decide) rfl rfl (fun j => ⟨hzr 37 j (by decide), hzm 37 j (by decide)⟩) (mT 285 (by decide +kernel) rfl) (mT 286 (by decide +kernel) rfl) (mT 148 (by decide +kernel) rfl) (by decide) dZ_init_21 ?_
  have hzr := za_mono (n' := 37) (by decide) hzr
  have hzm := za_mono (n' := 37) (by decide) hzm
  refine r_dup (fun q => by cases q) dZ_init_24 ?_
  refine r_aload_n 1 1 rfl dZ_init_25 rfl ?_
  refine r_aload_n 2 0 rfl dZ_init_26 rfl ?_
  refine r_callI (as := [_, _]) rfl rfl oT_init iT_init yZ_17 (by decide) ⟨by decide, by decide⟩ rfl (Nat.le_of_ble_eq_true rfl) dZ_init_27 (tT_init _ _ hzr hzm) (fun z1 r1 m1 h => ?_)
  obtain ⟨rfl, rfl⟩ := h
  have hzr : za _ 41 := (za_up (k := 37) (i := 1) (v := 23) (by decide) (za_up (k := 37) (i := 0) (v := 2) (by decide) (za_up (k := 37) (i := 5) (v := 41) (by decide) (za_up (k := 37) (i := 4) (v := 40) (by decide) (za_up (k := 37) (i := 3) (v := 39) (by decide) (za_up (k := 37) (i := 2) (v := 38) (by decide) (za_mono (n' := 41) (by decide) hzr)))))))
  have hzm : za _ 41 := (za_up (k := 37) (i := 8) (v := (-1)) (by decide) (za_up (k := 37) (i := 7) (v := 1) (by decide) (za_mono (n' := 41) (by decide) hzm)))
  refine r_astore_n 3 (by decide) dZ_init_30 rfl ?_
  refine r_aload_n 0 3 rfl dZ_init_31 rfl ?_
  refine r_aload_n 1 2 rfl dZ_init_32 rfl ?_
  refine r_putF 0 (ci := 0) (j := 0) (show isO 41 1 0 from ⟨by decide, by decide, by decide, rfl⟩) rfl (by decide) rfl rfl rfl rfl rfl (mT 521 (by decide +kernel) rfl) rfl (by decide) dZ_init_33 ?_
  have hzr := za_up (k := 1) (i := 0) (v := 2) (by decide) hzr
  refine r_aload_n 0 3 rfl dZ_init_36 rfl ?_
  refine r_aload_n 2 1 rfl dZ_init_37 rfl ?_
  refine r_putF 1 (ci := 0) (j := 1) (show isO 41 1 0 from ⟨by decide, by decide, by decide, rfl⟩) rfl (by decide) rfl rfl rfl rfl rfl (mT 522 (by decide +kernel) rfl) rfl (by decide) dZ_init_38 ?_
  have hzr := za_up (k := 1) (i := 1) (v := 23) (by decide) hzr
  refine r_aload_n 0 3 rfl dZ_init_41 rfl ?_
  refine r_aload_n 3 0 rfl dZ_init_42 rfl ?_
  refine r_putF 2 (ci := 0) (j := 2) (show isO 41 1 0 from ⟨by decide, by decide, by decide, rfl⟩) rfl (by decide) rfl rfl rfl rfl rfl (mT 523 (by decide +kernel) rfl) rfl (by decide) dZ_init_43 ?_
  have hzr := za_up (k := 1) (i := 2) (v := 37) (by decide) hzr
  refine r_aload_n 0 3 rfl dZ_init_46 rfl ?_
  refine r_new (ci := 5) (k := 42) rfl (by decide) rfl rfl (fun j => ⟨hzr 42 j (by decide), hzm 42 j (by decide)⟩) (mT 331 (by decide +kernel) rfl) (mT 332 (by decide +kernel) rfl) (mT 149 (by decide +kernel) rfl) (by decide) dZ_init_47 ?_
  have hzr := za_mono (n' := 42) (by decide) hzr
  have hzm := za_mono (n' := 42) (by decide) hzm
  refine r_dup (fun q => by cases q) dZ_init_50 ?_
  refine r_aload_n 1 2 rfl dZ_init_51 rfl ?_
  refine r_aload_n 2 1 rfl dZ_init_52 rfl ?_
  refine r_aload_n 3 0 rfl dZ_init_53 rfl ?_
  refine r_callI (as := [_, _, _]) rfl rfl oC_init iC_init yZ_36 (by decide) ⟨by decide, by decide⟩ rfl (Nat.le_of_ble_eq_true rfl) dZ_init_54 (tC_init _ _ hzr hzm) (fun z1 r1 m1 h => ?_)
  obtain ⟨rfl, rfl⟩ := h
  have hzr : za _ 43 := (za_up (k := 42) (i := 2) (v := 37) (by decide) (za_up (k := 42) (i := 1) (v := 23) (by decide) (za_up (k := 42) (i := 0) (v := 2) (by decide) (za_up (k := 42) (i := 3) (v := 43) (by decide) (za_mono (n' := 43) (by decide) hzr)))))
  have hzm : za _ 43 := (za_mono (n' := 43) (by decide) hzm)
  refine r_putF 3 (ci := 0) (j := 3) (show isO 43 1 0 from ⟨by decide, by decide, by decide, rfl⟩) rfl (by decide) rfl rfl rfl rfl rfl (mT 524 (by decide +kernel) rfl) rfl (by decide) dZ_init_57 ?_
  have hzr := za_up (k := 1) (i := 3) (v := 42) (by decide) hzr
  refine r_aload_n 0 3 rfl dZ_init_60 rfl ?_
  refine r_new (ci := 6) (k := 44) rfl (by decide) rfl rfl (fun j => ⟨hzr 44 j (by decide), hzm 44 j (by decide)⟩) (mT 350 (by decide +kernel) rfl) (mT 351 (by decide +kernel) rfl) (mT 150 (by decide +kernel) rfl) (by decide) dZ_init_61 ?_
  have hzr := za_mono (n' := 44) (by decide) hzr
  have hzm := za_mono (n' := 44) (by decide) hzm
  refine r_dup (fun q => by cases q) dZ_init_64 ?_
  refine r_aload_n 1 2 rfl dZ_init_65 rfl ?_
  refine r_aload_n 2 1 rfl dZ_init_66 rfl ?_
  refine r_aload_n 3 0 rfl dZ_init_67 rfl ?_
  refine r_callI (as := [_, _, _]) rfl rfl oI_init iI_init yZ_45 (by decide) ⟨by decide, by decide⟩ rfl (Nat.le_of_ble_eq_true rfl) dZ_init_68 (tI_init _ _ hzr hzm) (fun z1 r1 m1 h => ?_)
  obtain ⟨rfl, rfl⟩ := h
  have hzr : za _ 46 := (za_up (k := 44) (i := 2) (v := 37) (by decide) (za_up (k := 44) (i := 1) (v := 23) (by decide) (za_up (k := 44) (i := 0) (v := 2) (by decide) (za_up (k := 44) (i := 4) (v := 46) (by decide) (za_up (k := 44) (i := 3) (v := 45) (by decide) (za_mono (n' := 46) (by decide) hzr))))))
  have hzm : za _ 46 := (za_mono (n' := 46) (by decide) hzm)
  refine r_putF 4 (ci := 0) (j := 4) (show isO 46 1 0 from ⟨by decide, by decide, by decide, rfl⟩) rfl (by decide) rfl rfl rfl rfl rfl (mT 525 (by decide +kernel) rfl) rfl (by decide) dZ_init_71 ?_
  have hzr := za_up (k := 1) (i := 4) (v := 44) (by decide) hzr
  refine r_aload_n 0 3 rfl dZ_init_74 rfl ?_
  refine r_new (ci := 7) (k := 47) rfl (by decide) rfl rfl (fun j => ⟨hzr 47 j (by decide), hzm 47 j (by decide)⟩) (mT 381 (by decide +kernel) rfl) (mT 382 (by decide +kernel) rfl) (mT 151 (by decide +kernel) rfl) (by decide) dZ_init_75 ?_
  have hzr := za_mono (n' := 47) (by decide) hzr
  have hzm := za_mono (n' := 47) (by decide) hzm
  refine r_dup (fun q => by cases q) dZ_init_78 ?_
  refine r_aload_n 1 2 rfl dZ_init_79 rfl ?_
  refine r_aload_n 2 1 rfl dZ_init_80 rfl ?_
  refine r_aload_n 3 0 rfl dZ_init_81 rfl ?_
  refine r_callI (as := [_, _, _]) rfl rfl oN_init iN_init yZ_52 (by decide) ⟨by decide, by decide⟩ rfl (Nat.le_of_ble_eq_true rfl) dZ_init_82 (tN_init _ _ hzr hzm) (fun z1 r1 m1 h => ?_)
  obtain ⟨rfl, rfl⟩ := h
  have hzr : za _ 59 := (za_up (k := 47) (i := 2) (v := 37) (by decide) (za_up (k := 47) (i := 1) (v := 23) (by decide) (za_up (k := 47) (i := 0) (v := 2) (by decide) (za_up (k := 47) (i := 6) (v := 59) (by decide) (za_up (k := 47) (i := 5) (v := 58) (by decide) (za_up (k := 47) (i := 4) (v := 52) (by decide) (za_gro (k := 52) (N := 5) (by decide) (za_up (k := 47) (i := 3) (v := 48) (by decide) (za_gro (k := 48) (N := 3) (by decide) (za_mono (n' := 59) (by decide) hzr))))))))))
  have hzm : za _ 59 := (za_up (k := 47) (i := 7) (v := 1) (by decide) (za_mono (n' := 59) (by decide) hzm))
  refine r_putF 5 (ci := 0) (j := 5) (show isO 59 1 0 from ⟨by decide, by decide, by decide, rfl⟩) rfl (by decide) rfl rfl rfl rfl rfl (mT 526 (by decide +kernel) rfl) rfl (by decide) dZ_init_85 ?_
  have hzr := za_up (k := 1) (i := 5) (v := 47) (by decide) hzr
  refine r_aload_n 0 3 rfl dZ_init_88 rfl ?_
  refine r_new (ci := 8) (k := 60) rfl (by decide) rfl rfl (fun j => ⟨hzr 60 j (by decide), hzm 60 j (by decide)⟩) (mT 413 (by decide +kernel) rfl) (mT 414 (by decide +kernel) rfl) (mT 152 (by decide +kernel) rfl) (by decide) dZ_init_89 ?_
  have hzr := za_mono (n' := 60) (by decide) hzr
  have hzm := za_mono (n' := 60) (by decide) hzm
  refine r_dup (fun q => by cases q) dZ_init_92 ?_
  refine r_aload_n 1 2 rfl dZ_init_93 rfl ?_
  refine r_aload_n 2 1 rfl dZ_init_94 rfl ?_
  refine r_callI (as := [_, _]) rfl rfl oD_init iD_init yZ_59 (by decide) ⟨by decide, by decide⟩ rfl (Nat.le_of_ble_eq_true rfl) dZ_init_95 (tD_init _ _ hzr hzm) (fun z1 r1 m1 h => ?_)
  obtain ⟨rfl, rfl⟩ := h
  have hzr : za _ 63 := (za_up (k := 60) (i := 1) (v := 23) (by decide) (za_up (k := 60) (i := 0) (v := 2) (by decide) (za_up (k := 60) (i := 4) (v := 63) (by decide) (za_up (k := 60) (i := 3) (v := 62) (by decide) (za_up (k := 60) (i := 2) (v := 61) (by decide) (za_mono (n' := 63) (by decide) hzr))))))
  have hzm : za _ 63 := (za_mono (n' := 63) (by decide) hzm)
  refine r_putF 6 (ci := 0) (j := 6) (show isO 63 1 0 from ⟨by decide, by decide, by decide, rfl⟩) rfl (by decide) rfl rfl rfl rfl rfl (mT 527 (by decide +kernel) rfl) rfl (by decide) dZ_init_98 ?_
  have hzr := za_up (k := 1) (i := 6) (v := 60) (by decide) hzr
  refine r_aload_n 0 3 rfl dZ_init_101 rfl ?_
  refine r_new (ci := 9) (k := 64) rfl (by decide) rfl rfl (fun j => ⟨hzr 64 j (by decide), hzm 64 j (by decide)⟩) (mT 441 (by decide +kernel) rfl) (mT 442 (by decide +kernel) rfl) (mT 153 (by decide +kernel) rfl) (by decide) dZ_init_102 ?_
  have hzr := za_mono (n' := 64) (by decide) hzr
  have hzm := za_mono (n' := 64) (by decide) hzm
  refine r_dup (fun q => by cases q) dZ_init_105 ?_
  refine r_aload_n 1 2 rfl dZ_init_106 rfl ?_
  refine r_callI (as := [_]) rfl rfl oG_init iG_init yZ_66 (by decide) ⟨by decide, by decide⟩ rfl (Nat.le_of_ble_eq_true rfl) dZ_init_107 (tG_init _ _ hzr hzm) (fun z1 r1 m1 h => ?_)
  obtain ⟨rfl, rfl⟩ := h
  have hzr : za _ 68 := (za_up (k := 64) (i := 0) (v := 2) (by decide) (za_up (k := 64) (i := 4) (v := 68) (by decide) (za_up (k := 64) (i := 3) (v := 67) (by decide) (za_up (k := 64) (i := 2) (v := 66) (by decide) (za_up (k := 64) (i := 1) (v := 65) (by decide) (za_mono (n' := 68) (by decide) hzr))))))
  have hzm : za _ 68 := (za_mono (n' := 68) (by decide) hzm)
  refine r_putF 7 (ci := 0) (j := 7) (show isO 68 1 0 from ⟨by decide, by decide, by decide, rfl⟩) rfl (by decide) rfl rfl rfl rfl rfl (mT 528 (by decide +kernel) rfl) rfl (by decide) dZ_init_110 ?_
  have hzr := za_up (k := 1) (i := 7) (v := 64) (by decide) hzr
  refine r_aload_n 0 3 rfl dZ_init_113 rfl ?_
  refine r_new (ci := 10) (k := 69) rfl (by decide) rfl rfl (fun j => ⟨hzr 69 j (by decide), hzm 69 j (by decide)⟩) (mT 470 (by decide +kernel) rfl) (mT 471 (by decide +kernel) rfl) (mT 154 (by decide +kernel) rfl) (by decide) dZ_init_114 ?_
  have hzr := za_mono (n' := 69) (by decide) hzr
  have hzm := za_mono (n' := 69) (by decide) hzm
  refine r_dup (fun q => by cases q) dZ_init_117 ?_
  refine r_callI (as := []) rfl rfl oA_init iA_init yZ_73 (by decide) ⟨by decide, by decide⟩ rfl (Nat.le_of_ble_eq_true rfl) dZ_init_118 (tA_init _ _ hzr hzm) (fun z1 r1 m1 h => ?_)
  obtain ⟨rfl, rfl⟩ := h
  have hzr : za _ 71 := (za_up (k := 69) (i := 1) (v := 71) (by decide) (za_up (k := 69) (i := 0) (v := 70) (by decide) (za_mono (n' := 71) (by decide) hzr)))
  have hzm : za _ 71 := (za_mono (n' := 71) (by decide) hzm)
  refine r_putF 8 (ci := 0) (j := 8) (show isO 71 1 0 from ⟨by decide, by decide, by decide, rfl⟩) rfl (by decide) rfl rfl rfl rfl rfl (mT 529 (by decide +kernel) rfl) rfl (by decide) dZ_init_121 ?_
  have hzr := za_up (k := 1) (i := 8) (v := 69) (by decide) hzr
  refine r_aload_n 0 3 rfl dZ_init_124 rfl ?_
  refine r_new (ci := 11) (k := 72) rfl (by decide) rfl rfl (fun j => ⟨hzr 72 j (by decide), hzm 72 j (by decide)⟩) (mT 497 (by decide +kernel) rfl) (mT 498 (by decide +kernel) rfl) (mT 155 (by decide +kernel) rfl) (by decide) dZ_init_125 ?_
  have hzr := za_mono (n' := 72) (by decide) hzr
  have hzm := za_mono (n' := 72) (by decide) hzm
  refine r_dup (fun q => by cases q) dZ_init_128 ?_
  refine r_callI (as := []) rfl rfl oS_init iS_init yZ_80 (by decide) ⟨by decide, by decide⟩ rfl (Nat.le_of_ble_eq_true rfl) dZ_init_129 (tS_init _ _ hzr hzm) (fun z1 r1 m1 h => ?_)
  obtain ⟨rfl, rfl⟩ := h
  have hzr : za _ 83 := (za_up (k := 72) (i := 4) (v := 77) (by decide) (za_gro (k := 77) (N := 6) (by decide) (za_up (k := 72) (i := 3) (v := 76) (by decide) (za_up (k := 72) (i := 2) (v := 75) (by decide) (za_up (k := 72) (i := 1) (v := 74) (by decide) (za_up (k := 72) (i := 0) (v := 73) (by decide) (za_mono (n' := 83) (by decide) hzr)))))))
  have hzm : za _ 83 := (za_mono (n' := 83) (by decide) hzm)
  refine r_putF 9 (ci := 0) (j := 9) (show isO 83 1 0 from ⟨by decide, by decide, by decide, rfl⟩) rfl (by decide) rfl rfl rfl rfl rfl (mT 530 (by decide +kernel) rfl) rfl (by decide) dZ_init_132 ?_
  have hzr := za_up (k := 1) (i := 9) (v := 72) (by decide) hzr
  exact r_vret rfl rfl ⟨rfl, rfl⟩ dZ_init_135
theorem dY_init_0 : decode mY_init.2.1 0 = .ok (.aload_n 0, 1) := by decide +kernel
theorem dY_init_1 : decode mY_init.2.1 1 = .ok (.invokespecial 3, 3) := by decide +kernel
theorem dY_init_4 : decode mY_init.2.1 4 = .ok (.aload_n 0, 1) := by decide +kernel
theorem dY_init_5 : decode mY_init.2.1 5 = .ok (.bipush 9, 2) := by decide +kernel
theorem dY_init_7 : decode mY_init.2.1 7 = .ok (.newarray .int, 2) := by decide +kernel
theorem dY_init_9 : decode mY_init.2.1 9 = .ok (.putfield 9, 3) := by decide +kernel
theorem dY_init_12 : decode mY_init.2.1 12 = .ok (.aload_n 0, 1) := by decide +kernel
theorem dY_init_13 : decode mY_init.2.1 13 = .ok (.bipush 9, 2) := by decide +kernel
theorem dY_init_15 : decode mY_init.2.1 15 = .ok (.newarray .int, 2) := by decide +kernel
theorem dY_init_17 : decode mY_init.2.1 17 = .ok (.putfield 15, 3) := by decide +kernel
theorem dY_init_20 : decode mY_init.2.1 20 = .ok (.aload_n 0, 1) := by decide +kernel
theorem dY_init_21 : decode mY_init.2.1 21 = .ok (.bipush 9, 2) := by decide +kernel
theorem dY_init_23 : decode mY_init.2.1 23 = .ok (.newarray .int, 2) := by decide +kernel
theorem dY_init_25 : decode mY_init.2.1 25 = .ok (.putfield 18, 3) := by decide +kernel
theorem dY_init_28 : decode mY_init.2.1 28 = .ok (.aload_n 0, 1) := by decide +kernel
theorem dY_init_29 : decode mY_init.2.1 29 = .ok (.bipush 9, 2) := by decide +kernel
theorem dY_init_31 : decode mY_init.2.1 31 = .ok (.newarray .int, 2) := by decide +kernel
theorem dY_init_33 : decode mY_init.2.1 33 = .ok (.putfield 21, 3) := by decide +kernel
theorem dY_init_36 : decode mY_init.2.1 36 = .ok (.aload_n 0, 1) := by decide +kernel
theorem dY_init_37 : decode mY_init.2.1 37 = .ok (.bipush 9, 2) := by decide +kernel
theorem dY_init_39 : decode mY_init.2.1 39 = .ok (.newarray .int, 2) := by decide +kernel
theorem dY_init_41 : decode mY_init.2.1 41 = .ok (.putfield 24, 3) := by decide +kernel
theorem dY_init_44 : decode mY_init.2.1 44 = .ok (.aload_n 0, 1) := by decide +kernel
theorem dY_init_45 : decode mY_init.2.1 45 = .ok (.bipush 9, 2) := by decide +kernel
theorem dY_init_47 : decode mY_init.2.1 47 = .ok (.newarray .int, 2) := by decide +kernel
theorem dY_init_49 : decode mY_init.2.1 49 = .ok (.putfield 27, 3) := by decide +kernel
theorem dY_init_52 : decode mY_init.2.1 52 = .ok (.aload_n 0, 1) := by decide +kernel
theorem dY_init_53 : decode mY_init.2.1 53 = .ok (.bipush 7, 2) := by decide +kernel
theorem dY_init_55 : decode mY_init.2.1 55 = .ok (.newarray .int, 2) := by decide +kernel
theorem dY_init_57 : decode mY_init.2.1 57 = .ok (.dup, 1) := by decide +kernel
theorem dY_init_58 : decode mY_init.2.1 58 = .ok (.iconst 0, 1) := by decide +kernel
theorem dY_init_59 : decode mY_init.2.1 59 = .ok (.iconst 0, 1) := by decide +kernel
theorem dY_init_60 : decode mY_init.2.1 60 = .ok (.iastore, 1) := by decide +kernel
theorem dY_init_61 : decode mY_init.2.1 61 = .ok (.dup, 1) := by decide +kernel
theorem dY_init_62 : decode mY_init.2.1 62 = .ok (.iconst 1, 1) := by decide +kernel
theorem dY_init_63 : decode mY_init.2.1 63 = .ok (.iconst 0, 1) := by decide +kernel
theorem dY_init_64 : decode mY_init.2.1 64 = .ok (.iastore, 1) := by decide +kernel
theorem dY_init_65 : decode mY_init.2.1 65 = .ok (.dup, 1) := by decide +kernel
theorem dY_init_66 : decode mY_init.2.1 66 = .ok (.iconst 2, 1) := by decide +kernel
theorem dY_init_67 : decode mY_init.2.1 67 = .ok (.bipush 60, 2) := by decide +kernel
theorem dY_init_69 : decode mY_init.2.1 69 = .ok (.iastore, 1) := by decide +kernel
theorem dY_init_70 : decode mY_init.2.1 70 = .ok (.dup, 1) := by decide +kernel
theorem dY_init_71 : decode mY_init.2.1 71 = .ok (.iconst 3, 1) := by decide +kernel
theorem dY_init_72 : decode mY_init.2.1 72 = .ok (.iconst 1, 1) := by decide +kernel
theorem dY_init_73 : decode mY_init.2.1 73 = .ok (.iastore, 1) := by decide +kernel
theorem dY_init_74 : decode mY_init.2.1 74 = .ok (.dup, 1) := by decide +kernel
theorem dY_init_75 : decode mY_init.2.1 75 = .ok (.iconst 4, 1) := by decide +kernel
theorem dY_init_76 : decode mY_init.2.1 76 = .ok (.iconst 2, 1) := by decide +kernel
theorem dY_init_77 : decode mY_init.2.1 77 = .ok (.iastore, 1) := by decide +kernel
theorem dY_init_78 : decode mY_init.2.1 78 = .ok (.dup, 1) := by decide +kernel
theorem dY_init_79 : decode mY_init.2.1 79 = .ok (.iconst 5, 1) := by decide +kernel
theorem dY_init_80 : decode mY_init.2.1 80 = .ok (.iconst 0, 1) := by decide +kernel
theorem dY_init_81 : decode mY_init.2.1 81 = .ok (.iastore, 1) := by decide +kernel
theorem dY_init_82 : decode mY_init.2.1 82 = .ok (.dup, 1) := by decide +kernel
theorem dY_init_83 : decode mY_init.2.1 83 = .ok (.bipush 6, 2) := by decide +kernel
theorem dY_init_85 : decode mY_init.2.1 85 = .ok (.iconst 0, 1) := by decide +kernel
theorem dY_init_86 : decode mY_init.2.1 86 = .ok (.iastore, 1) := by decide +kernel
theorem dY_init_87 : decode mY_init.2.1 87 = .ok (.putfield 30, 3) := by decide +kernel
theorem dY_init_90 : decode mY_init.2.1 90 = .ok (.aload_n 0, 1) := by decide +kernel
theorem dY_init_91 : decode mY_init.2.1 91 = .ok (.bipush 40, 2) := by decide +kernel
theorem dY_init_93 : decode mY_init.2.1 93 = .ok (.newarray .int, 2) := by decide +kernel
theorem dY_init_95 : decode mY_init.2.1 95 = .ok (.putfield 33, 3) := by decide +kernel
theorem dY_init_98 : decode mY_init.2.1 98 = .ok (.aload_n 0, 1) := by decide +kernel
theorem dY_init_99 : decode mY_init.2.1 99 = .ok (.bipush 40, 2) := by decide +kernel
theorem dY_init_101 : decode mY_init.2.1 101 = .ok (.newarray .int, 2) := by decide +kernel
theorem dY_init_103 : decode mY_init.2.1 103 = .ok (.putfield 36, 3) := by decide +kernel
theorem dY_init_106 : decode mY_init.2.1 106 = .ok (.aload_n 0, 1) := by decide +kernel
theorem dY_init_107 : decode mY_init.2.1 107 = .ok (.bipush 40, 2) := by decide +kernel
theorem dY_init_109 : decode mY_init.2.1 109 = .ok (.newarray .int, 2) := by decide +kernel
theorem dY_init_111 : decode mY_init.2.1 111 = .ok (.putfield 39, 3) := by decide +kernel
theorem dY_init_114 : decode mY_init.2.1 114 = .ok (.aload_n 0, 1) := by decide +kernel
theorem dY_init_115 : decode mY_init.2.1 115 = .ok (.bipush 40, 2) := by decide +kernel
theorem dY_init_117 : decode mY_init.2.1 117 = .ok (.newarray .int, 2) := by decide +kernel
theorem dY_init_119 : decode mY_init.2.1 119 = .ok (.putfield 42, 3) := by decide +kernel
theorem dY_init_122 : decode mY_init.2.1 122 = .ok (.aload_n 0, 1) := by decide +kernel
theorem dY_init_123 : decode mY_init.2.1 123 = .ok (.bipush 120, 2) := by decide +kernel
theorem dY_init_125 : decode mY_init.2.1 125 = .ok (.newarray .byte, 2) := by decide +kernel
theorem dY_init_127 : decode mY_init.2.1 127 = .ok (.putfield 45, 3) := by decide +kernel
theorem dY_init_130 : decode mY_init.2.1 130 = .ok (.aload_n 0, 1) := by decide +kernel
theorem dY_init_131 : decode mY_init.2.1 131 = .ok (.sipush 260, 3) := by decide +kernel
theorem dY_init_134 : decode mY_init.2.1 134 = .ok (.newarray .byte, 2) := by decide +kernel
theorem dY_init_136 : decode mY_init.2.1 136 = .ok (.putfield 49, 3) := by decide +kernel
theorem dY_init_139 : decode mY_init.2.1 139 = .ok (.aload_n 0, 1) := by decide +kernel
theorem dY_init_140 : decode mY_init.2.1 140 = .ok (.sipush 260, 3) := by decide +kernel
theorem dY_init_143 : decode mY_init.2.1 143 = .ok (.newarray .int, 2) := by decide +kernel
theorem dY_init_145 : decode mY_init.2.1 145 = .ok (.putfield 52, 3) := by decide +kernel
theorem dY_init_148 : decode mY_init.2.1 148 = .ok (.aload_n 0, 1) := by decide +kernel
theorem dY_init_149 : decode mY_init.2.1 149 = .ok (.iconst 2, 1) := by decide +kernel
theorem dY_init_150 : decode mY_init.2.1 150 = .ok (.newarray .int, 2) := by decide +kernel
theorem dY_init_152 : decode mY_init.2.1 152 = .ok (.putfield 55, 3) := by decide +kernel
theorem dY_init_155 : decode mY_init.2.1 155 = .ok (.aload_n 0, 1) := by decide +kernel
theorem dY_init_156 : decode mY_init.2.1 156 = .ok (.bipush 122, 2) := by decide +kernel
theorem dY_init_158 : decode mY_init.2.1 158 = .ok (.newarray .short, 2) := by decide +kernel
theorem dY_init_160 : decode mY_init.2.1 160 = .ok (.putfield 58, 3) := by decide +kernel
theorem dY_init_163 : decode mY_init.2.1 163 = .ok (.aload_n 0, 1) := by decide +kernel
theorem dY_init_164 : decode mY_init.2.1 164 = .ok (.bipush 122, 2) := by decide +kernel
theorem dY_init_166 : decode mY_init.2.1 166 = .ok (.newarray .short, 2) := by decide +kernel
theorem dY_init_168 : decode mY_init.2.1 168 = .ok (.putfield 62, 3) := by decide +kernel
theorem dY_init_171 : decode mY_init.2.1 171 = .ok (.aload_n 0, 1) := by decide +kernel
theorem dY_init_172 : decode mY_init.2.1 172 = .ok (.bipush 6, 2) := by decide +kernel
theorem dY_init_174 : decode mY_init.2.1 174 = .ok (.newarray .int, 2) := by decide +kernel
theorem dY_init_176 : decode mY_init.2.1 176 = .ok (.putfield 65, 3) := by decide +kernel
theorem dY_init_179 : decode mY_init.2.1 179 = .ok (.aload_n 0, 1) := by decide +kernel
theorem dY_init_180 : decode mY_init.2.1 180 = .ok (.sipush 130, 3) := by decide +kernel
theorem dY_init_183 : decode mY_init.2.1 183 = .ok (.newarray .int, 2) := by decide +kernel
theorem dY_init_185 : decode mY_init.2.1 185 = .ok (.putfield 68, 3) := by decide +kernel
theorem dY_init_188 : decode mY_init.2.1 188 = .ok (.aload_n 0, 1) := by decide +kernel
theorem dY_init_189 : decode mY_init.2.1 189 = .ok (.bipush 9, 2) := by decide +kernel
theorem dY_init_191 : decode mY_init.2.1 191 = .ok (.newarray .int, 2) := by decide +kernel
theorem dY_init_193 : decode mY_init.2.1 193 = .ok (.putfield 71, 3) := by decide +kernel
theorem dY_init_196 : decode mY_init.2.1 196 = .ok (.aload_n 0, 1) := by decide +kernel
theorem dY_init_197 : decode mY_init.2.1 197 = .ok (.bipush 9, 2) := by decide +kernel
theorem dY_init_199 : decode mY_init.2.1 199 = .ok (.newarray .int, 2) := by decide +kernel
theorem dY_init_201 : decode mY_init.2.1 201 = .ok (.putfield 74, 3) := by decide +kernel
theorem dY_init_204 : decode mY_init.2.1 204 = .ok (.aload_n 0, 1) := by decide +kernel
theorem dY_init_205 : decode mY_init.2.1 205 = .ok (.iconst (-1), 1) := by decide +kernel
theorem dY_init_206 : decode mY_init.2.1 206 = .ok (.putfield 77, 3) := by decide +kernel
theorem dY_init_209 : decode mY_init.2.1 209 = .ok (.aload_n 0, 1) := by decide +kernel
theorem dY_init_210 : decode mY_init.2.1 210 = .ok (.sipush 541, 3) := by decide +kernel
theorem dY_init_213 : decode mY_init.2.1 213 = .ok (.newarray .long, 2) := by decide +kernel
theorem dY_init_215 : decode mY_init.2.1 215 = .ok (.putfield 81, 3) := by decide +kernel
theorem dY_init_218 : decode mY_init.2.1 218 = .ok (.aload_n 0, 1) := by decide +kernel
theorem dY_init_219 : decode mY_init.2.1 219 = .ok (.bipush 9, 2) := by decide +kernel
theorem dY_init_221 : decode mY_init.2.1 221 = .ok (.newarray .long, 2) := by decide +kernel
theorem dY_init_223 : decode mY_init.2.1 223 = .ok (.putfield 85, 3) := by decide +kernel
theorem dY_init_226 : decode mY_init.2.1 226 = .ok (.aload_n 0, 1) := by decide +kernel
theorem dY_init_227 : decode mY_init.2.1 227 = .ok (.bipush 9, 2) := by decide +kernel
theorem dY_init_229 : decode mY_init.2.1 229 = .ok (.newarray .long, 2) := by decide +kernel
theorem dY_init_231 : decode mY_init.2.1 231 = .ok (.putfield 88, 3) := by decide +kernel
theorem dY_init_234 : decode mY_init.2.1 234 = .ok (.aload_n 0, 1) := by decide +kernel
theorem dY_init_235 : decode mY_init.2.1 235 = .ok (.iconst 3, 1) := by decide +kernel
theorem dY_init_236 : decode mY_init.2.1 236 = .ok (.newarray .int, 2) := by decide +kernel
theorem dY_init_238 : decode mY_init.2.1 238 = .ok (.putfield 91, 3) := by decide +kernel
theorem dY_init_241 : decode mY_init.2.1 241 = .ok (.aload_n 0, 1) := by decide +kernel
theorem dY_init_242 : decode mY_init.2.1 242 = .ok (.iconst 3, 1) := by decide +kernel
theorem dY_init_243 : decode mY_init.2.1 243 = .ok (.newarray .int, 2) := by decide +kernel
theorem dY_init_245 : decode mY_init.2.1 245 = .ok (.putfield 94, 3) := by decide +kernel
theorem dY_init_248 : decode mY_init.2.1 248 = .ok (.aload_n 0, 1) := by decide +kernel
theorem dY_init_249 : decode mY_init.2.1 249 = .ok (.bipush 15, 2) := by decide +kernel
theorem dY_init_251 : decode mY_init.2.1 251 = .ok (.newarray .int, 2) := by decide +kernel
theorem dY_init_253 : decode mY_init.2.1 253 = .ok (.putfield 97, 3) := by decide +kernel
theorem dY_init_256 : decode mY_init.2.1 256 = .ok (.aload_n 0, 1) := by decide +kernel
theorem dY_init_257 : decode mY_init.2.1 257 = .ok (.bipush 6, 2) := by decide +kernel
theorem dY_init_259 : decode mY_init.2.1 259 = .ok (.newarray .int, 2) := by decide +kernel
theorem dY_init_261 : decode mY_init.2.1 261 = .ok (.putfield 100, 3) := by decide +kernel
theorem dY_init_264 : decode mY_init.2.1 264 = .ok (.aload_n 0, 1) := by decide +kernel
theorem dY_init_265 : decode mY_init.2.1 265 = .ok (.bipush 9, 2) := by decide +kernel
theorem dY_init_267 : decode mY_init.2.1 267 = .ok (.newarray .int, 2) := by decide +kernel
theorem dY_init_269 : decode mY_init.2.1 269 = .ok (.putfield 103, 3) := by decide +kernel
theorem dY_init_272 : decode mY_init.2.1 272 = .ok (.aload_n 0, 1) := by decide +kernel
theorem dY_init_273 : decode mY_init.2.1 273 = .ok (.bipush 6, 2) := by decide +kernel
theorem dY_init_275 : decode mY_init.2.1 275 = .ok (.newarray .int, 2) := by decide +kernel
theorem dY_init_277 : decode mY_init.2.1 277 = .ok (.putfield 106, 3) := by decide +kernel
theorem dY_init_280 : decode mY_init.2.1 280 = .ok (.aload_n 0, 1) := by decide +kernel
theorem dY_init_281 : decode mY_init.2.1 281 = .ok (.bipush 50, 2) := by decide +kernel
theorem dY_init_283 : decode mY_init.2.1 283 = .ok (.newarray .int, 2) := by decide +kernel
theorem dY_init_285 : decode mY_init.2.1 285 = .ok (.putfield 109, 3) := by decide +kernel
theorem dY_init_288 : decode mY_init.2.1 288 = .ok (.aload_n 0, 1) := by decide +kernel
theorem dY_init_289 : decode mY_init.2.1 289 = .ok (.bipush 24, 2) := by decide +kernel
theorem dY_init_291 : decode mY_init.2.1 291 = .ok (.newarray .int, 2) := by decide +kernel
theorem dY_init_293 : decode mY_init.2.1 293 = .ok (.putfield 112, 3) := by decide +kernel
theorem dY_init_296 : decode mY_init.2.1 296 = .ok (.aload_n 0, 1) := by decide +kernel
theorem dY_init_297 : decode mY_init.2.1 297 = .ok (.bipush 6, 2) := by decide +kernel
theorem dY_init_299 : decode mY_init.2.1 299 = .ok (.newarray .int, 2) := by decide +kernel
theorem dY_init_301 : decode mY_init.2.1 301 = .ok (.dup, 1) := by decide +kernel
theorem dY_init_302 : decode mY_init.2.1 302 = .ok (.iconst 0, 1) := by decide +kernel
theorem dY_init_303 : decode mY_init.2.1 303 = .ok (.iconst (-1), 1) := by decide +kernel
theorem dY_init_304 : decode mY_init.2.1 304 = .ok (.iastore, 1) := by decide +kernel
theorem dY_init_305 : decode mY_init.2.1 305 = .ok (.dup, 1) := by decide +kernel
theorem dY_init_306 : decode mY_init.2.1 306 = .ok (.iconst 1, 1) := by decide +kernel
theorem dY_init_307 : decode mY_init.2.1 307 = .ok (.iconst (-1), 1) := by decide +kernel
theorem dY_init_308 : decode mY_init.2.1 308 = .ok (.iastore, 1) := by decide +kernel
theorem dY_init_309 : decode mY_init.2.1 309 = .ok (.dup, 1) := by decide +kernel
theorem dY_init_310 : decode mY_init.2.1 310 = .ok (.iconst 2, 1) := by decide +kernel
theorem dY_init_311 : decode mY_init.2.1 311 = .ok (.iconst (-1), 1) := by decide +kernel
theorem dY_init_312 : decode mY_init.2.1 312 = .ok (.iastore, 1) := by decide +kernel
theorem dY_init_313 : decode mY_init.2.1 313 = .ok (.dup, 1) := by decide +kernel
theorem dY_init_314 : decode mY_init.2.1 314 = .ok (.iconst 3, 1) := by decide +kernel
theorem dY_init_315 : decode mY_init.2.1 315 = .ok (.iconst (-1), 1) := by decide +kernel
theorem dY_init_316 : decode mY_init.2.1 316 = .ok (.iastore, 1) := by decide +kernel
theorem dY_init_317 : decode mY_init.2.1 317 = .ok (.dup, 1) := by decide +kernel
theorem dY_init_318 : decode mY_init.2.1 318 = .ok (.iconst 4, 1) := by decide +kernel
theorem dY_init_319 : decode mY_init.2.1 319 = .ok (.iconst (-1), 1) := by decide +kernel
theorem dY_init_320 : decode mY_init.2.1 320 = .ok (.iastore, 1) := by decide +kernel
theorem dY_init_321 : decode mY_init.2.1 321 = .ok (.dup, 1) := by decide +kernel
theorem dY_init_322 : decode mY_init.2.1 322 = .ok (.iconst 5, 1) := by decide +kernel
theorem dY_init_323 : decode mY_init.2.1 323 = .ok (.iconst (-1), 1) := by decide +kernel
theorem dY_init_324 : decode mY_init.2.1 324 = .ok (.iastore, 1) := by decide +kernel
theorem dY_init_325 : decode mY_init.2.1 325 = .ok (.putfield 115, 3) := by decide +kernel
theorem dY_init_328 : decode mY_init.2.1 328 = .ok (.aload_n 0, 1) := by decide +kernel
theorem dY_init_329 : decode mY_init.2.1 329 = .ok (.bipush 6, 2) := by decide +kernel
theorem dY_init_331 : decode mY_init.2.1 331 = .ok (.newarray .int, 2) := by decide +kernel
theorem dY_init_333 : decode mY_init.2.1 333 = .ok (.putfield 118, 3) := by decide +kernel
theorem dY_init_336 : decode mY_init.2.1 336 = .ok (.aload_n 0, 1) := by decide +kernel
theorem dY_init_337 : decode mY_init.2.1 337 = .ok (.sipush 360, 3) := by decide +kernel
theorem dY_init_340 : decode mY_init.2.1 340 = .ok (.newarray .long, 2) := by decide +kernel
theorem dY_init_342 : decode mY_init.2.1 342 = .ok (.putfield 121, 3) := by decide +kernel
theorem dY_init_345 : decode mY_init.2.1 345 = .ok (.aload_n 0, 1) := by decide +kernel
theorem dY_init_346 : decode mY_init.2.1 346 = .ok (.bipush 60, 2) := by decide +kernel
theorem dY_init_348 : decode mY_init.2.1 348 = .ok (.newarray .long, 2) := by decide +kernel
theorem dY_init_350 : decode mY_init.2.1 350 = .ok (.putfield 124, 3) := by decide +kernel
theorem dY_init_353 : decode mY_init.2.1 353 = .ok (.return_, 1) := by decide +kernel
set_option maxRecDepth 8000 in
set_option maxHeartbeats 1000000 in
theorem tY_init {X : Cx} (r m : Mem) (hzr : za r 84) (hzm : za m 84) : Mt X 1 mY_init 84 120 [vr 84] r m (fun _ r1 m1 => r1 = (upm (upm (upm (upm (upm (upm (upm (upm (upm (upm (upm (upm (upm (upm (upm (upm (upm (upm (upm (upm (upm (upm (upm (upm (upm (upm (upm (upm (upm (upm (upm (upm (upm (upm (upm (upm r 84 2 85) 84 3 86) 84 4 87) 84 5 88) 84 6 89) 84 7 90) 84 8 91) 84 11 92) 84 12 93) 84 13 94) 84 14 95) 84 15 96) 84 21 97) 84 22 98) 84 23 99) 84 24 100) 84 25 101) 84 26 102) 84 27 103) 84 29 104) 84 32 105) 84 34 106) 84 36 107) 84 37 108) 84 38 109) 84 39 110) 84 41 111) 84 42 112) 84 45 113) 84 46 114) 84 48 115) 84 50 116) 84 51 117) 84 52 118) 84 53 119) 84 54 120) ∧ m1 = (upm (upm (upm (upm (upm (upm (upm (upm (upm (upm (upm (upm (upm (upm m 91 0 0) 91 1 0) 91 2 60) 91 3 1) 91 4 2) 91 5 0) 91 6 0) 84 33 (-1)) 117 0 (-1)) 117 1 (-1)) 117 2 (-1)) 117 3 (-1)) 117 4 (-1)) 117 5 (-1))) := by
  refine Mt.of pY_init (Nat.le_of_ble_eq_true rfl) (by decide) ?_
  show RR X 1 mY_init 84 120 84 0 [(0, vr 84)] [] r m _
  refine r_aload_n 0 0 rfl dY_init_0 rfl ?_
  refine r_objInit (mT 1216 (by decide +kernel) rfl) (mT 167 (by decide +kernel) rfl) (mT 168 (by decide +kernel) rfl) (by decide) (Nat.le_of_ble_eq_true rfl) dY_init_1 ?_
  refine r_aload_n 0 0 rfl dY_init_4 rfl ?_
  refine r_bipush (by decide) dY_init_5 ?_
  refine r_newa (len := 9) (k := 85) rfl (by decide) rfl (by decide) (by decide) rfl (by decide) (fun j => ⟨hzr 85 j (by decide), hzm 85 j (by decide)⟩) (mT 213 (by decide +kernel) rfl) (by decide) dY_init_7 ?_
  have hzr := za_mono (n' := 85) (by decide) hzr
  have hzm := za_mono (n' := 85) (by decide) hzm
  refine r_putF 2 (ci := 12) (j := 2) (show isO 85 84 12 from ⟨by decide, by decide, by decide, rfl⟩) rfl (by decide) rfl rfl rfl rfl rfl (mT 1218 (by decide +kernel) rfl) rfl (by decide) dY_init_9 ?_
  have hzr := za_up (k := 84) (i := 2) (v := 85) (by decide) hzr
  refine r_aload_n 0 0 rfl dY_init_12 rfl ?_
  refine r_bipush (by decide) dY_init_13 ?_
  refine r_newa (len := 9) (k := 86) rfl (by decide) rfl (by decide) (by decide) rfl (by decide) (fun j => ⟨hzr 86 j (by decide), hzm 86 j (by decide)⟩) (mT 213 (by decide +kernel) rfl) (by decide) dY_init_15 ?_
  have hzr := za_mono (n' := 86) (by decide) hzr
  have hzm := za_mono (n' := 86) (by decide) hzm
  refine r_putF 3 (ci := 12) (j := 3) (show isO 86 84 12 from ⟨by decide, by decide, by decide, rfl⟩) rfl (by decide) rfl rfl rfl rfl rfl (mT 1219 (by decide +kernel) rfl) rfl (by decide) dY_init_17 ?_
  have hzr := za_up (k := 84) (i := 3) (v := 86) (by decide) hzr
  refine r_aload_n 0 0 rfl dY_init_20 rfl ?_
  refine r_bipush (by decide) dY_init_21 ?_
  refine r_newa (len := 9) (k := 87) rfl (by decide) rfl (by decide) (by decide) rfl (by decide) (fun j => ⟨hzr 87 j (by decide), hzm 87 j (by decide)⟩) (mT 213 (by decide +kernel) rfl) (by decide) dY_init_23 ?_
  have hzr := za_mono (n' := 87) (by decide) hzr
  have hzm := za_mono (n' := 87) (by decide) hzm
  refine r_putF 4 (ci := 12) (j := 4) (show isO 87 84 12 from ⟨by decide, by decide, by decide, rfl⟩) rfl (by decide) rfl rfl rfl rfl rfl (mT 1220 (by decide +kernel) rfl) rfl (by decide) dY_init_25 ?_
  have hzr := za_up (k := 84) (i := 4) (v := 87) (by decide) hzr
  refine r_aload_n 0 0 rfl dY_init_28 rfl ?_
  refine r_bipush (by decide) dY_init_29 ?_
  refine r_newa (len := 9) (k := 88) rfl (by decide) rfl (by decide) (by decide) rfl (by decide) (fun j => ⟨hzr 88 j (by decide), hzm 88 j (by decide)⟩) (mT 213 (by decide +kernel) rfl) (by decide) dY_init_31 ?_
  have hzr := za_mono (n' := 88) (by decide) hzr
  have hzm := za_mono (n' := 88) (by decide) hzm
  refine r_putF 5 (ci := 12) (j := 5) (show isO 88 84 12 from ⟨by decide, by decide, by decide, rfl⟩) rfl (by decide) rfl rfl rfl rfl rfl (mT 1221 (by decide +kernel) rfl) rfl (by decide) dY_init_33 ?_
  have hzr := za_up (k := 84) (i := 5) (v := 88) (by decide) hzr
  refine r_aload_n 0 0 rfl dY_init_36 rfl ?_
  refine r_bipush (by decide) dY_init_37 ?_
  refine r_newa (len := 9) (k := 89) rfl (by decide) rfl (by decide) (by decide) rfl (by decide) (fun j => ⟨hzr 89 j (by decide), hzm 89 j (by decide)⟩) (mT 213 (by decide +kernel) rfl) (by decide) dY_init_39 ?_
  have hzr := za_mono (n' := 89) (by decide) hzr
  have hzm := za_mono (n' := 89) (by decide) hzm
  refine r_putF 6 (ci := 12) (j := 6) (show isO 89 84 12 from ⟨by decide, by decide, by decide, rfl⟩) rfl (by decide) rfl rfl rfl rfl rfl (mT 1222 (by decide +kernel) rfl) rfl (by decide) dY_init_41 ?_
  have hzr := za_up (k := 84) (i := 6) (v := 89) (by decide) hzr
  refine r_aload_n 0 0 rfl dY_init_44 rfl ?_
  refine r_bipush (by decide) dY_init_45 ?_
  refine r_newa (len := 9) (k := 90) rfl (by decide) rfl (by decide) (by decide) rfl (by decide) (fun j => ⟨hzr 90 j (by decide), hzm 90 j (by decide)⟩) (mT 213 (by decide +kernel) rfl) (by decide) dY_init_47 ?_
  have hzr := za_mono (n' := 90) (by decide) hzr
  have hzm := za_mono (n' := 90) (by decide) hzm
  refine r_putF 7 (ci := 12) (j := 7) (show isO 90 84 12 from ⟨by decide, by decide, by decide, rfl⟩) rfl (by decide) rfl rfl rfl rfl rfl (mT 1223 (by decide +kernel) rfl) rfl (by decide) dY_init_49 ?_
  have hzr := za_up (k := 84) (i := 7) (v := 90) (by decide) hzr
  refine r_aload_n 0 0 rfl dY_init_52 rfl ?_
  refine r_bipush (by decide) dY_init_53 ?_
  refine r_newa (len := 7) (k := 91) rfl (by decide) rfl (by decide) (by decide) rfl (by decide) (fun j => ⟨hzr 91 j (by decide), hzm 91 j (by decide)⟩) (mT 213 (by decide +kernel) rfl) (by decide) dY_init_55 ?_
  have hzr := za_mono (n' := 91) (by decide) hzr
  have hzm := za_mono (n' := 91) (by decide) hzm
  refine r_dup (fun q => by cases q) dY_init_57 ?_
  refine r_iconst dY_init_58 ?_
  refine r_iconst dY_init_59 ?_
  refine q_iastore 0 rfl (show isA 91 91 (.int) 7 from ⟨by decide, by decide, by decide, rfl⟩) (by decide) dY_init_60 ?_
  have hzm := za_up (k := 91) (i := 0) (v := 0) (by decide) hzm
  refine r_dup (fun q => by cases q) dY_init_61 ?_
  refine r_iconst dY_init_62 ?_
  refine r_iconst dY_init_63 ?_
  refine q_iastore 1 rfl (show isA 91 91 (.int) 7 from ⟨by decide, by decide, by decide, rfl⟩) (by decide) dY_init_64 ?_
  have hzm := za_up (k := 91) (i := 1) (v := 0) (by decide) hzm
  refine r_dup (fun q => by cases q) dY_init_65 ?_
  refine r_iconst dY_init_66 ?_
  refine r_bipush (by decide) dY_init_67 ?_
  refine q_iastore 2 rfl (show isA 91 91 (.int) 7 from ⟨by decide, by decide, by decide, rfl⟩) (by decide) dY_init_69 ?_
  have hzm := za_up (k := 91) (i := 2) (v := 60) (by decide) hzm
  refine r_dup (fun q => by cases q) dY_init_70 ?_
  refine r_iconst dY_init_71 ?_
  refine r_iconst dY_init_72 ?_
  refine q_iastore 3 rfl (show isA 91 91 (.int) 7 from ⟨by decide, by decide, by decide, rfl⟩) (by decide) dY_init_73 ?_
  have hzm := za_up (k := 91) (i := 3) (v := 1) (by decide) hzm
  refine r_dup (fun q => by cases q) dY_init_74 ?_
  refine r_iconst dY_init_75 ?_
  refine r_iconst dY_init_76 ?_
  refine q_iastore 4 rfl (show isA 91 91 (.int) 7 from ⟨by decide, by decide, by decide, rfl⟩) (by decide) dY_init_77 ?_
  have hzm := za_up (k := 91) (i := 4) (v := 2) (by decide) hzm
  refine r_dup (fun q => by cases q) dY_init_78 ?_
  refine r_iconst dY_init_79 ?_
  refine r_iconst dY_init_80 ?_
  refine q_iastore 5 rfl (show isA 91 91 (.int) 7 from ⟨by decide, by decide, by decide, rfl⟩) (by decide) dY_init_81 ?_
  have hzm := za_up (k := 91) (i := 5) (v := 0) (by decide) hzm
  refine r_dup (fun q => by cases q) dY_init_82 ?_
  refine r_bipush (by decide) dY_init_83 ?_
  refine r_iconst dY_init_85 ?_
  refine q_iastore 6 rfl (show isA 91 91 (.int) 7 from ⟨by decide, by decide, by decide, rfl⟩) (by decide) dY_init_86 ?_
  have hzm := za_up (k := 91) (i := 6) (v := 0) (by decide) hzm
  refine r_putF 8 (ci := 12) (j := 8) (show isO 91 84 12 from ⟨by decide, by decide, by decide, rfl⟩) rfl (by decide) rfl rfl rfl rfl rfl (mT 1224 (by decide +kernel) rfl) rfl (by decide) dY_init_87 ?_
  have hzr := za_up (k := 84) (i := 8) (v := 91) (by decide) hzr
  refine r_aload_n 0 0 rfl dY_init_90 rfl ?_
  refine r_bipush (by decide) dY_init_91 ?_
  refine r_newa (len := 40) (k := 92) rfl (by decide) rfl (by decide) (by decide) rfl (by decide) (fun j => ⟨hzr 92 j (by decide), hzm 92 j (by decide)⟩) (mT 213 (by decide +kernel) rfl) (by decide) dY_init_93 ?_
  have hzr := za_mono (n' := 92) (by decide) hzr
  have hzm := za_mono (n' := 92) (by decide) hzm
  refine r_putF 11 (ci := 12) (j := 11) (show isO 92 84 12 from ⟨by decide, by decide, by decide, rfl⟩) rfl (by decide) rfl rfl rfl rfl rfl (mT 1227 (by decide +kernel) rfl) rfl (by decide) dY_init_95 ?_
  have hzr := za_up (k := 84) (i := 11) (v := 92) (by decide) hzr
  refine r_aload_n 0 0 rfl dY_init_98 rfl ?_
  refine r_bipush (by decide) dY_init_99 ?_
  refine r_newa (len := 40) (k := 93) rfl (by decide) rfl (by decide) (by decide) rfl (by decide) (fun j => ⟨hzr 93 j (by decide), hzm 93 j (by decide)⟩) (mT 213 (by decide +kernel) rfl) (by decide) dY_init_101 ?_
  have hzr := za_mono (n' := 93) (by decide) hzr
  have hzm := za_mono (n' := 93) (by decide) hzm
  refine r_putF 12 (ci := 12) (j := 12) (show isO 93 84 12 from ⟨by decide, by decide, by decide, rfl⟩) rfl (by decide) rfl rfl rfl rfl rfl (mT 1228 (by decide +kernel) rfl) rfl (by decide) dY_init_103 ?_
  have hzr := za_up (k := 84) (i := 12) (v := 93) (by decide) hzr
  refine r_aload_n 0 0 rfl dY_init_106 rfl ?_
  refine r_bipush (by decide) dY_init_107 ?_
  refine r_newa (len := 40) (k := 94) rfl (by decide) rfl (by decide) (by decide) rfl (by decide) (fun j => ⟨hzr 94 j (by decide), hzm 94 j (by decide)⟩) (mT 213 (by decide +kernel) rfl) (by decide) dY_init_109 ?_
  have hzr := za_mono (n' := 94) (by decide) hzr
  have hzm := za_mono (n' := 94) (by decide) hzm
  refine r_putF 13 (ci := 12) (j := 13) (show isO 94 84 12 from ⟨by decide, by decide, by decide, rfl⟩) rfl (by decide) rfl rfl rfl rfl rfl (mT 1229 (by decide +kernel) rfl) rfl (by decide) dY_init_111 ?_
  have hzr := za_up (k := 84) (i := 13) (v := 94) (by decide) hzr
  refine r_aload_n 0 0 rfl dY_init_114 rfl ?_
  refine r_bipush (by decide) dY_init_115 ?_
  refine r_newa (len := 40) (k := 95) rfl (by decide) rfl (by decide) (by decide) rfl (by decide) (fun j => ⟨hzr 95 j (by decide), hzm 95 j (by decide)⟩) (mT 213 (by decide +kernel) rfl) (by decide) dY_init_117 ?_
  have hzr := za_mono (n' := 95) (by decide) hzr
  have hzm := za_mono (n' := 95) (by decide) hzm
  refine r_putF 14 (ci := 12) (j := 14) (show isO 95 84 12 from ⟨by decide, by decide, by decide, rfl⟩) rfl (by decide) rfl rfl rfl rfl rfl (mT 1230 (by decide +kernel) rfl) rfl (by decide) dY_init_119 ?_
  have hzr := za_up (k := 84) (i := 14) (v := 95) (by decide) hzr
  refine r_aload_n 0 0 rfl dY_init_122 rfl ?_
  refine r_bipush (by decide) dY_init_123 ?_
  refine r_newa (len := 120) (k := 96) rfl (by decide) rfl (by decide) (by decide) rfl (by decide) (fun j => ⟨hzr 96 j (by decide), hzm 96 j (by decide)⟩) (mT 1382 (by decide +kernel) rfl) (by decide) dY_init_125 ?_
  have hzr := za_mono (n' := 96) (by decide) hzr
  have hzm := za_mono (n' := 96) (by decide) hzm
  refine r_putF 15 (ci := 12) (j := 15) (show isO 96 84 12 from ⟨by decide, by decide, by decide, rfl⟩) rfl (by decide) rfl rfl rfl rfl rfl (mT 1231 (by decide +kernel) rfl) rfl (by decide) dY_init_127 ?_
  have hzr := za_up (k := 84) (i := 15) (v := 96) (by decide) hzr
  refine r_aload_n 0 0 rfl dY_init_130 rfl ?_
  refine r_sipush (by decide) dY_init_131 ?_
  refine r_newa (len := 260) (k := 97) rfl (by decide) rfl (by decide) (by decide) rfl (by decide) (fun j => ⟨hzr 97 j (by decide), hzm 97 j (by decide)⟩) (mT 1382 (by decide +kernel) rfl) (by decide) dY_init_134 ?_
  have hzr := za_mono (n' := 97) (by decide) hzr
  have hzm := za_mono (n' := 97) (by decide) hzm
  refine r_putF 21 (ci := 12) (j := 21) (show isO 97 84 12 from ⟨by decide, by decide, by decide, rfl⟩) rfl (by decide) rfl rfl rfl rfl rfl (mT 1237 (by decide +kernel) rfl) rfl (by decide) dY_init_136 ?_
  have hzr := za_up (k := 84) (i := 21) (v := 97) (by decide) hzr
  refine r_aload_n 0 0 rfl dY_init_139 rfl ?_
  refine r_sipush (by decide) dY_init_140 ?_
  refine r_newa (len := 260) (k := 98) rfl (by decide) rfl (by decide) (by decide) rfl (by decide) (fun j => ⟨hzr 98 j (by decide), hzm 98 j (by decide)⟩) (mT 213 (by decide +kernel) rfl) (by decide) dY_init_143 ?_
  have hzr := za_mono (n' := 98) (by decide) hzr
  have hzm := za_mono (n' := 98) (by decide) hzm
  refine r_putF 22 (ci := 12) (j := 22) (show isO 98 84 12 from ⟨by decide, by decide, by decide, rfl⟩) rfl (by decide) rfl rfl rfl rfl rfl (mT 1238 (by decide +kernel) rfl) rfl (by decide) dY_init_145 ?_
  have hzr := za_up (k := 84) (i := 22) (v := 98) (by decide) hzr
  refine r_aload_n 0 0 rfl dY_init_148 rfl ?_
  refine r_iconst dY_init_149 ?_
  refine r_newa (len := 2) (k := 99) rfl (by decide) rfl (by decide) (by decide) rfl (by decide) (fun j => ⟨hzr 99 j (by decide), hzm 99 j (by decide)⟩) (mT 213 (by decide +kernel) rfl) (by decide) dY_init_150 ?_
  have hzr := za_mono (n' := 99) (by decide) hzr
  have hzm := za_mono (n' := 99) (by decide) hzm
  refine r_putF 23 (ci := 12) (j := 23) (show isO 99 84 12 from ⟨by decide, by decide, by decide, rfl⟩) rfl (by decide) rfl rfl rfl rfl rfl (mT 1239 (by decide +kernel) rfl) rfl (by decide) dY_init_152 ?_
  have hzr := za_up (k := 84) (i := 23) (v := 99) (by decide) hzr
  refine r_aload_n 0 0 rfl dY_init_155 rfl ?_
  refine r_bipush (by decide) dY_init_156 ?_
  refine r_newa (len := 122) (k := 100) rfl (by decide) rfl (by decide) (by decide) rfl (by decide) (fun j => ⟨hzr 100 j (by decide), hzm 100 j (by decide)⟩) (mT 1383 (by decide +kernel) rfl) (by decide) dY_init_158 ?_
  have hzr := za_mono (n' := 100) (by decide) hzr
  have hzm := za_mono (n' := 100) (by decide) hzm
  refine r_putF 24 (ci := 12) (j := 24) (show isO 100 84 12 from ⟨by decide, by decide, by decide, rfl⟩) rfl (by decide) rfl rfl rfl rfl rfl (mT 1240 (by decide +kernel) rfl) rfl (by decide) dY_init_160 ?_
  have hzr := za_up (k := 84) (i := 24) (v := 100) (by decide) hzr
  refine r_aload_n 0 0 rfl dY_init_163 rfl ?_
  refine r_bipush (by decide) dY_init_164 ?_
  refine r_newa (len := 122) (k := 101) rfl (by decide) rfl (by decide) (by decide) rfl (by decide) (fun j => ⟨hzr 101 j (by decide), hzm 101 j (by decide)⟩) (mT 1383 (by decide +kernel) rfl) (by decide) dY_init_166 ?_
  have hzr := za_mono (n' := 101) (by decide) hzr
  have hzm := za_mono (n' := 101) (by decide) hzm
  refine r_putF 25 (ci := 12) (j := 25) (show isO 101 84 12 from ⟨by decide, by decide, by decide, rfl⟩) rfl (by decide) rfl rfl rfl rfl rfl (mT 1241 (by decide +kernel) rfl) rfl (by decide) dY_init_168 ?_
  have hzr := za_up (k := 84) (i := 25) (v := 101) (by decide) hzr
  refine r_aload_n 0 0 rfl dY_init_171 rfl ?_
  refine r_bipush (by decide) dY_init_172 ?_
  refine r_newa (len := 6) (k := 102) rfl (by decide) rfl (by decide) (by decide) rfl (by decide) (fun j => ⟨hzr 102 j (by decide), hzm 102 j (by decide)⟩) (mT 213 (by decide +kernel) rfl) (by decide) dY_init_174 ?_
  have hzr := za_mono (n' := 102) (by decide) hzr
  have hzm := za_mono (n' := 102) (by decide) hzm
  refine r_putF 26 (ci := 12) (j := 26) (show isO 102 84 12 from ⟨by decide, by decide, by decide, rfl⟩) rfl (by decide) rfl rfl rfl rfl rfl (mT 1242 (by decide +kernel) rfl) rfl (by decide) dY_init_176 ?_
  have hzr := za_up (k := 84) (i := 26) (v := 102) (by decide) hzr
  refine r_aload_n 0 0 rfl dY_init_179 rfl ?_
  refine r_sipush (by decide) dY_init_180 ?_
  refine r_newa (len := 130) (k := 103) rfl (by decide) rfl (by decide) (by decide) rfl (by decide) (fun j => ⟨hzr 103 j (by decide), hzm 103 j (by decide)⟩) (mT 213 (by decide +kernel) rfl) (by decide) dY_init_183 ?_
  have hzr := za_mono (n' := 103) (by decide) hzr
  have hzm := za_mono (n' := 103) (by decide) hzm
  refine r_putF 27 (ci := 12) (j := 27) (show isO 103 84 12 from ⟨by decide, by decide, by decide, rfl⟩) rfl (by decide) rfl rfl rfl rfl rfl (mT 1243 (by decide +kernel) rfl) rfl (by decide) dY_init_185 ?_
  have hzr := za_up (k := 84) (i := 27) (v := 103) (by decide) hzr
  refine r_aload_n 0 0 rfl dY_init_188 rfl ?_
  refine r_bipush (by decide) dY_init_189 ?_
  refine r_newa (len := 9) (k := 104) rfl (by decide) rfl (by decide) (by decide) rfl (by decide) (fun j => ⟨hzr 104 j (by decide), hzm 104 j (by decide)⟩) (mT 213 (by decide +kernel) rfl) (by decide) dY_init_191 ?_
  have hzr := za_mono (n' := 104) (by decide) hzr
  have hzm := za_mono (n' := 104) (by decide) hzm
  refine r_putF 29 (ci := 12) (j := 29) (show isO 104 84 12 from ⟨by decide, by decide, by decide, rfl⟩) rfl (by decide) rfl rfl rfl rfl rfl (mT 1245 (by decide +kernel) rfl) rfl (by decide) dY_init_193 ?_
  have hzr := za_up (k := 84) (i := 29) (v := 104) (by decide) hzr
  refine r_aload_n 0 0 rfl dY_init_196 rfl ?_
  refine r_bipush (by decide) dY_init_197 ?_
  refine r_newa (len := 9) (k := 105) rfl (by decide) rfl (by decide) (by decide) rfl (by decide) (fun j => ⟨hzr 105 j (by decide), hzm 105 j (by decide)⟩) (mT 213 (by decide +kernel) rfl) (by decide) dY_init_199 ?_
  have hzr := za_mono (n' := 105) (by decide) hzr
  have hzm := za_mono (n' := 105) (by decide) hzm
  refine r_putF 32 (ci := 12) (j := 32) (show isO 105 84 12 from ⟨by decide, by decide, by decide, rfl⟩) rfl (by decide) rfl rfl rfl rfl rfl (mT 1248 (by decide +kernel) rfl) rfl (by decide) dY_init_201 ?_
  have hzr := za_up (k := 84) (i := 32) (v := 105) (by decide) hzr
  refine r_aload_n 0 0 rfl dY_init_204 rfl ?_
  refine r_iconst dY_init_205 ?_
  refine q_putI 33 (show isO 105 84 12 from ⟨by decide, by decide, by decide, rfl⟩) pfY_77 rfl rfl dY_init_206 ?_
  have hzm := za_up (k := 84) (i := 33) (v := (-1)) (by decide) hzm
  refine r_aload_n 0 0 rfl dY_init_209 rfl ?_
  refine r_sipush (by decide) dY_init_210 ?_
  refine r_newa (len := 541) (k := 106) rfl (by decide) rfl (by decide) (by decide) rfl (by decide) (fun j => ⟨hzr 106 j (by decide), hzm 106 j (by decide)⟩) (mT 330 (by decide +kernel) rfl) (by decide) dY_init_213 ?_
  have hzr := za_mono (n' := 106) (by decide) hzr
  have hzm := za_mono (n' := 106) (by decide) hzm
  refine r_putF 34 (ci := 12) (j := 34) (show isO 106 84 12 from ⟨by decide, by decide, by decide, rfl⟩) rfl (by decide) rfl rfl rfl rfl rfl (mT 1250 (by decide +kernel) rfl) rfl (by decide) dY_init_215 ?_
  have hzr := za_up (k := 84) (i := 34) (v := 106) (by decide) hzr
  refine r_aload_n 0 0 rfl dY_init_218 rfl ?_
  refine r_bipush (by decide) dY_init_219 ?_
  refine r_newa (len := 9) (k := 107) rfl (by decide) rfl (by decide) (by decide) rfl (by decide) (fun j => ⟨hzr 107 j (by decide), hzm 107 j (by decide)⟩) (mT 330 (by decide +kernel) rfl) (by decide) dY_init_221 ?_
  have hzr := za_mono (n' := 107) (by decide) hzr
  have hzm := za_mono (n' := 107) (by decide) hzm
  refine r_putF 36 (ci := 12) (j := 36) (show isO 107 84 12 from ⟨by decide, by decide, by decide, rfl⟩) rfl (by decide) rfl rfl rfl rfl rfl (mT 1252 (by decide +kernel) rfl) rfl (by decide) dY_init_223 ?_
  have hzr := za_up (k := 84) (i := 36) (v := 107) (by decide) hzr
  refine r_aload_n 0 0 rfl dY_init_226 rfl ?_
  refine r_bipush (by decide) dY_init_227 ?_
  refine r_newa (len := 9) (k := 108) rfl (by decide) rfl (by decide) (by decide) rfl (by decide) (fun j => ⟨hzr 108 j (by decide), hzm 108 j (by decide)⟩) (mT 330 (by decide +kernel) rfl) (by decide) dY_init_229 ?_
  have hzr := za_mono (n' := 108) (by decide) hzr
  have hzm := za_mono (n' := 108) (by decide) hzm
  refine r_putF 37 (ci := 12) (j := 37) (show isO 108 84 12 from ⟨by decide, by decide, by decide, rfl⟩) rfl (by decide) rfl rfl rfl rfl rfl (mT 1253 (by decide +kernel) rfl) rfl (by decide) dY_init_231 ?_
  have hzr := za_up (k := 84) (i := 37) (v := 108) (by decide) hzr
  refine r_aload_n 0 0 rfl dY_init_234 rfl ?_
  refine r_iconst dY_init_235 ?_
  refine r_newa (len := 3) (k := 109) rfl (by decide) rfl (by decide) (by decide) rfl (by decide) (fun j => ⟨hzr 109 j (by decide), hzm 109 j (by decide)⟩) (mT 213 (by decide +kernel) rfl) (by decide) dY_init_236 ?_
  have hzr := za_mono (n' := 109) (by decide) hzr
  have hzm := za_mono (n' := 109) (by decide) hzm
  refine r_putF 38 (ci := 12) (j := 38) (show isO 109 84 12 from ⟨by decide, by decide, by decide, rfl⟩) rfl (by decide) rfl rfl rfl rfl rfl (mT 1254 (by decide +kernel) rfl) rfl (by decide) dY_init_238 ?_
  have hzr := za_up (k := 84) (i := 38) (v := 109) (by decide) hzr
  refine r_aload_n 0 0 rfl dY_init_241 rfl ?_
  refine r_iconst dY_init_242 ?_
  refine r_newa (len := 3) (k := 110) rfl (by decide) rfl (by decide) (by decide) rfl (by decide) (fun j => ⟨hzr 110 j (by decide), hzm 110 j (by decide)⟩) (mT 213 (by decide +kernel) rfl) (by decide) dY_init_243 ?_
  have hzr := za_mono (n' := 110) (by decide) hzr
  have hzm := za_mono (n' := 110) (by decide) hzm
  refine r_putF 39 (ci := 12) (j := 39) (show isO 110 84 12 from ⟨by decide, by decide, by decide, rfl⟩) rfl (by decide) rfl rfl rfl rfl rfl (mT 1255 (by decide +kernel) rfl) rfl (by decide) dY_init_245 ?_
  have hzr := za_up (k := 84) (i := 39) (v := 110) (by decide) hzr
  refine r_aload_n 0 0 rfl dY_init_248 rfl ?_
  refine r_bipush (by decide) dY_init_249 ?_
  refine r_newa (len := 15) (k := 111) rfl (by decide) rfl (by decide) (by decide) rfl (by decide) (fun j => ⟨hzr 111 j (by decide), hzm 111 j (by decide)⟩) (mT 213 (by decide +kernel) rfl) (by decide) dY_init_251 ?_
  have hzr := za_mono (n' := 111) (by decide) hzr
  have hzm := za_mono (n' := 111) (by decide) hzm
  refine r_putF 41 (ci := 12) (j := 41) (show isO 111 84 12 from ⟨by decide, by decide, by decide, rfl⟩) rfl (by decide) rfl rfl rfl rfl rfl (mT 1257 (by decide +kernel) rfl) rfl (by decide) dY_init_253 ?_
  have hzr := za_up (k := 84) (i := 41) (v := 111) (by decide) hzr
  refine r_aload_n 0 0 rfl dY_init_256 rfl ?_
  refine r_bipush (by decide) dY_init_257 ?_
  refine r_newa (len := 6) (k := 112) rfl (by decide) rfl (by decide) (by decide) rfl (by decide) (fun j => ⟨hzr 112 j (by decide), hzm 112 j (by decide)⟩) (mT 213 (by decide +kernel) rfl) (by decide) dY_init_259 ?_
  have hzr := za_mono (n' := 112) (by decide) hzr
  have hzm := za_mono (n' := 112) (by decide) hzm
  refine r_putF 42 (ci := 12) (j := 42) (show isO 112 84 12 from ⟨by decide, by decide, by decide, rfl⟩) rfl (by decide) rfl rfl rfl rfl rfl (mT 1258 (by decide +kernel) rfl) rfl (by decide) dY_init_261 ?_
  have hzr := za_up (k := 84) (i := 42) (v := 112) (by decide) hzr
  refine r_aload_n 0 0 rfl dY_init_264 rfl ?_
  refine r_bipush (by decide) dY_init_265 ?_
  refine r_newa (len := 9) (k := 113) rfl (by decide) rfl (by decide) (by decide) rfl (by decide) (fun j => ⟨hzr 113 j (by decide), hzm 113 j (by decide)⟩) (mT 213 (by decide +kernel) rfl) (by decide) dY_init_267 ?_
  have hzr := za_mono (n' := 113) (by decide) hzr
  have hzm := za_mono (n' := 113) (by decide) hzm
  refine r_putF 45 (ci := 12) (j := 45) (show isO 113 84 12 from ⟨by decide, by decide, by decide, rfl⟩) rfl (by decide) rfl rfl rfl rfl rfl (mT 1261 (by decide +kernel) rfl) rfl (by decide) dY_init_269 ?_
  have hzr := za_up (k := 84) (i := 45) (v := 113) (by decide) hzr
  refine r_aload_n 0 0 rfl dY_init_272 rfl ?_
  refine r_bipush (by decide) dY_init_273 ?_
  refine r_newa (len := 6) (k := 114) rfl (by decide) rfl (by decide) (by decide) rfl (by decide) (fun j => ⟨hzr 114 j (by decide), hzm 114 j (by decide)⟩) (mT 213 (by decide +kernel) rfl) (by decide) dY_init_275 ?_
  have hzr := za_mono (n' := 114) (by decide) hzr
  have hzm := za_mono (n' := 114) (by decide) hzm
  refine r_putF 46 (ci := 12) (j := 46) (show isO 114 84 12 from ⟨by decide, by decide, by decide, rfl⟩) rfl (by decide) rfl rfl rfl rfl rfl (mT 1262 (by decide +kernel) rfl) rfl (by decide) dY_init_277 ?_
  have hzr := za_up (k := 84) (i := 46) (v := 114) (by decide) hzr
  refine r_aload_n 0 0 rfl dY_init_280 rfl ?_
  refine r_bipush (by decide) dY_init_281 ?_
  refine r_newa (len := 50) (k := 115) rfl (by decide) rfl (by decide) (by decide) rfl (by decide) (fun j => ⟨hzr 115 j (by decide), hzm 115 j (by decide)⟩) (mT 213 (by decide +kernel) rfl) (by decide) dY_init_283 ?_
  have hzr := za_mono (n' := 115) (by decide) hzr
  have hzm := za_mono (n' := 115) (by decide) hzm
  refine r_putF 48 (ci := 12) (j := 48) (show isO 115 84 12 from ⟨by decide, by decide, by decide, rfl⟩) rfl (by decide) rfl rfl rfl rfl rfl (mT 1264 (by decide +kernel) rfl) rfl (by decide) dY_init_285 ?_
  have hzr := za_up (k := 84) (i := 48) (v := 115) (by decide) hzr
  refine r_aload_n 0 0 rfl dY_init_288 rfl ?_
  refine r_bipush (by decide) dY_init_289 ?_
  refine r_newa (len := 24) (k := 116) rfl (by decide) rfl (by decide) (by decide) rfl (by decide) (fun j => ⟨hzr 116 j (by decide), hzm 116 j (by decide)⟩) (mT 213 (by decide +kernel) rfl) (by decide) dY_init_291 ?_
  have hzr := za_mono (n' := 116) (by decide) hzr
  have hzm := za_mono (n' := 116) (by decide) hzm
  refine r_putF 50 (ci := 12) (j := 50) (show isO 116 84 12 from ⟨by decide, by decide, by decide, rfl⟩) rfl (by decide) rfl rfl rfl rfl rfl (mT 1266 (by decide +kernel) rfl) rfl (by decide) dY_init_293 ?_
  have hzr := za_up (k := 84) (i := 50) (v := 116) (by decide) hzr
  refine r_aload_n 0 0 rfl dY_init_296 rfl ?_
  refine r_bipush (by decide) dY_init_297 ?_
  refine r_newa (len := 6) (k := 117) rfl (by decide) rfl (by decide) (by decide) rfl (by decide) (fun j => ⟨hzr 117 j (by decide), hzm 117 j (by decide)⟩) (mT 213 (by decide +kernel) rfl) (by decide) dY_init_299 ?_
  have hzr := za_mono (n' := 117) (by decide) hzr
  have hzm := za_mono (n' := 117) (by decide) hzm
  refine r_dup (fun q => by cases q) dY_init_301 ?_
  refine r_iconst dY_init_302 ?_
  refine r_iconst dY_init_303 ?_
  refine q_iastore 0 rfl (show isA 117 117 (.int) 6 from ⟨by decide, by decide, by decide, rfl⟩) (by decide) dY_init_304 ?_
  have hzm := za_up (k := 117) (i := 0) (v := (-1)) (by decide) hzm
  refine r_dup (fun q => by cases q) dY_init_305 ?_
  refine r_iconst dY_init_306 ?_
  refine r_iconst dY_init_307 ?_
  refine q_iastore 1 rfl (show isA 117 117 (.int) 6 from ⟨by decide, by decide, by decide, rfl⟩) (by decide) dY_init_308 ?_
  have hzm := za_up (k := 117) (i := 1) (v := (-1)) (by decide) hzm
  refine r_dup (fun q => by cases q) dY_init_309 ?_
  refine r_iconst dY_init_310 ?_
  refine r_iconst dY_init_311 ?_
  refine q_iastore 2 rfl (show isA 117 117 (.int) 6 from ⟨by decide, by decide, by decide, rfl⟩) (by decide) dY_init_312 ?_
  have hzm := za_up (k := 117) (i := 2) (v := (-1)) (by decide) hzm
  refine r_dup (fun q => by cases q) dY_init_313 ?_
  refine r_iconst dY_init_314 ?_
  refine r_iconst dY_init_315 ?_
  refine q_iastore 3 rfl (show isA 117 117 (.int) 6 from ⟨by decide, by decide, by decide, rfl⟩) (by decide) dY_init_316 ?_
  have hzm := za_up (k := 117) (i := 3) (v := (-1)) (by decide) hzm
  refine r_dup (fun q => by cases q) dY_init_317 ?_
  refine r_iconst dY_init_318 ?_
  refine r_iconst dY_init_319 ?_
  refine q_iastore 4 rfl (show isA 117 117 (.int) 6 from ⟨by decide, by decide, by decide, rfl⟩) (by decide) dY_init_320 ?_
  have hzm := za_up (k := 117) (i := 4) (v := (-1)) (by decide) hzm
  refine r_dup (fun q => by cases q) dY_init_321 ?_
  refine r_iconst dY_init_322 ?_
  refine r_iconst dY_init_323 ?_
  refine q_iastore 5 rfl (show isA 117 117 (.int) 6 from ⟨by decide, by decide, by decide, rfl⟩) (by decide) dY_init_324 ?_
  have hzm := za_up (k := 117) (i := 5) (v := (-1)) (by decide) hzm
  refine r_putF 51 (ci := 12) (j := 51) (show isO 117 84 12 from ⟨by decide, by decide, by decide, rfl⟩) rfl (by decide) rfl rfl rfl rfl rfl (mT 1267 (by decide +kernel) rfl) rfl (by decide) dY_init_325 ?_
  have hzr := za_up (k := 84) (i := 51) (v := 117) (by decide) hzr
  refine r_aload_n 0 0 rfl dY_init_328 rfl ?_
  refine r_bipush (by decide) dY_init_329 ?_
  refine r_newa (len := 6) (k := 118) rfl (by decide) rfl (by decide) (by decide) rfl (by decide) (fun j => ⟨hzr 118 j (by decide), hzm 118 j (by decide)⟩) (mT 213 (by decide +kernel) rfl) (by decide) dY_init_331 ?_
  have hzr := za_mono (n' := 118) (by decide) hzr
  have hzm := za_mono (n' := 118) (by decide) hzm
  refine r_putF 52 (ci := 12) (j := 52) (show isO 118 84 12 from ⟨by decide, by decide, by decide, rfl⟩) rfl (by decide) rfl rfl rfl rfl rfl (mT 1268 (by decide +kernel) rfl) rfl (by decide) dY_init_333 ?_
  have hzr := za_up (k := 84) (i := 52) (v := 118) (by decide) hzr
  refine r_aload_n 0 0 rfl dY_init_336 rfl ?_
  refine r_sipush (by decide) dY_init_337 ?_
  refine r_newa (len := 360) (k := 119) rfl (by decide) rfl (by decide) (by decide) rfl (by decide) (fun j => ⟨hzr 119 j (by decide), hzm 119 j (by decide)⟩) (mT 330 (by decide +kernel) rfl) (by decide) dY_init_340 ?_
  have hzr := za_mono (n' := 119) (by decide) hzr
  have hzm := za_mono (n' := 119) (by decide) hzm
  refine r_putF 53 (ci := 12) (j := 53) (show isO 119 84 12 from ⟨by decide, by decide, by decide, rfl⟩) rfl (by decide) rfl rfl rfl rfl rfl (mT 1269 (by decide +kernel) rfl) rfl (by decide) dY_init_342 ?_
  have hzr := za_up (k := 84) (i := 53) (v := 119) (by decide) hzr
  refine r_aload_n 0 0 rfl dY_init_345 rfl ?_
  refine r_bipush (by decide) dY_init_346 ?_
  refine r_newa (len := 60) (k := 120) rfl (by decide) rfl (by decide) (by decide) rfl (by decide) (fun j => ⟨hzr 120 j (by decide), hzm 120 j (by decide)⟩) (mT 330 (by decide +kernel) rfl) (by decide) dY_init_348 ?_
  have hzr := za_mono (n' := 120) (by decide) hzr
  have hzm := za_mono (n' := 120) (by decide) hzm
  refine r_putF 54 (ci := 12) (j := 54) (show isO 120 84 12 from ⟨by decide, by decide, by decide, rfl⟩) rfl (by decide) rfl rfl rfl rfl rfl (mT 1270 (by decide +kernel) rfl) rfl (by decide) dY_init_350 ?_
  have hzr := za_up (k := 84) (i := 54) (v := 120) (by decide) hzr
  exact r_vret rfl rfl ⟨rfl, rfl⟩ dY_init_353
