/-! mend, undo, redo: the pairs -/
section CP
variable {X : Cx} {sw : Bool} {m : Mem} {Q : Int → Bool → Mem → Prop}
theorem wr_at {m : Mem} {w a v c j : Int} (hw : 0 ≤ w ∧ w < 13) (h : 4 ≤ c ∧ c ≤ 16) : wr m w a v c j = if c = 4 + w ∧ j = a then v else m c j := by
  unfold wr
  rw [upm_row (by omega), upm_row (by omega)]
  rfl
theorem ty_o {m : Mem} {a w v d z : Int} {c j : Int} (h : ¬ ((92 ≤ c ∧ c ≤ 95) ∨ (c = 84 ∧ j = 9) ∨ (85 ≤ c ∧ c ≤ 91))) (hw : 0 ≤ w ∧ w < 13) : ty m a w v d z c j = m c j := by
  have hk := kc_ki w a
  unfold ty
  simp (disch := omega) only [upm_ne]
theorem eY_changes {a w v z d n : Int} (hn : n ≤ 9) (hvp : vp n w a) (ez : w32 z = z) (hv : w32 v = v) (e1 : m (kc w) (ki w a) = z) (e9 : m 84 9 = d) (hd : 0 ≤ d ∧ d ≤ 40) (q1 : z = v → Q z sw m) (q2 : ¬ z = v → d < 40 → Q z sw (ty (upm m 84 10 0) a w v d z)) (q3 : ¬ z = v → d = 40 → Q z sw (ty (sh (upm m 84 10 0) 40) a w v 39 z)) : M2 X 2 mY_changes [vr 84, vi w, vi a, vi v] sw m Q := by
  have hvp9 : (0 ≤ w ∧ w ≤ 5 ∧ 0 ≤ a ∧ a < 9) ∨ (6 ≤ w ∧ w ≤ 12 ∧ a = 0) := by unfold vp at hvp; omega
  refine wY_changes _ _ _ _ _ _ (eY_valueAt hn hvp ?_)
  have e9' : upm m 84 10 0 84 9 = d := by rw [upm_at, if_neg (by omega)]; exact e9
  have ed : w32 d = d := w32_id (by omega) (by omega)
  rw [e1, ez, hv, e9, ed]
  refine ⟨fun q => ⟨fun q4 => ⟨by omega, by omega, by omega, by omega, eY_lays (n := 9) (by omega) hvp9 ?_⟩, fun q4 => lY_changes ?_ hvp9 (e9'.trans (Decidable.not_not.mp q4))⟩, fun q => q1 (Decidable.not_not.mp q)⟩
  · exact q2 q (by omega)
  · exact q3 q (Decidable.not_not.mp q4)
theorem mend_fin {M : Mem} {a w v z d s : Int} (hI : IK m) (hG : IG m) (hvp : vp (m 2 3) w a) (hf : ft a w v) (hz : m (4 + w) a = z) (hd : 0 ≤ d ∧ d < 40) (hs : 0 ≤ s ∧ d + s ≤ m 64 6) (r : ∀ c i, (65 ≤ c ∧ c ≤ 68) ∨ (92 ≤ c ∧ c ≤ 95) → 0 ≤ i → i < d → M c i = m c (i + s)) (re : M 65 d = a ∧ M 66 d = w ∧ M 67 d = z ∧ M 68 d = v ∧ M 92 d = w ∧ M 93 d = a ∧ M 94 d = z ∧ M 95 d = v) (rd : M 64 5 = d + 1 ∧ M 64 6 = d + 1 ∧ M 84 9 = d + 1 ∧ M 84 10 = 0) (rk : ∀ c j, (4 ≤ c ∧ c ≤ 16) ∨ (c = 2 ∧ 3 ≤ j ∧ j ≤ 5) → M c j = wr m w a v c j) (ry : ∀ c j, (85 ≤ c ∧ c ≤ 91) → M c j = if c = kc w ∧ j = ki w a then v else m c j) (r1 : M 84 1 = m 84 1) : IK M ∧ IG M ∧ KW 1 m M := by
  have hk := kc_ki w a
  have hwb : 0 ≤ w ∧ w < 13 := by unfold vp at hvp; omega
  have hold := (hI.2.2.2.1 w a hvp).2
  have e3 : M 2 3 = m 2 3 := by
    rw [rk 2 3 (by omega)]
    unfold wr
    simp (disch := omega) only [upm_ne]
  refine ⟨hI.wr hvp hf ?_, ?_, KW.w1 (v := v) (a := a) hwb (fun c j q => rk c j (by omega))⟩
  · intro c j q
    unfold DK at q
    by_cases h1 : 4 ≤ c ∧ c ≤ 16
    · rw [rk c j (by omega), wr_at hwb h1]
      by_cases h2 : c = 4 + w ∧ j = a
      · rw [if_pos h2, if_pos (Or.inl h2)]
      · rw [if_neg h2, if_neg (by omega)]
    · by_cases h2 : 85 ≤ c ∧ c ≤ 91
      · rw [ry c j h2]
        by_cases h3 : c = kc w ∧ j = ki w a
        · rw [if_pos h3, if_pos (Or.inr h3)]
        · rw [if_neg h3, if_neg (by omega)]
      · rw [if_neg (by omega)]
        have h5 : (c = 2 ∧ j = 3) ∨ (c = 84 ∧ j = 1) := by omega
        rcases h5 with h5 | h5
        · rw [h5.1, h5.2]; exact e3
        · rw [h5.1, h5.2]; exact r1
  · unfold IG
    rw [rd.1, rd.2.1, rd.2.2.1, rd.2.2.2]
    refine ⟨by omega, by omega, by omega, rfl, by omega, fun i i1 i2 => ?_⟩
    by_cases hi : i = d
    · subst hi
      unfold En
      rw [re.1, re.2.1, re.2.2.1, re.2.2.2.1, re.2.2.2.2.1, re.2.2.2.2.2.1, re.2.2.2.2.2.2.1, re.2.2.2.2.2.2.2, e3]
      exact ⟨rfl, rfl, rfl, rfl, hvp, by rw [← hz]; exact hold, hf⟩
    · exact (hG.2.2.2.2.2 (i + s) (by omega) (by omega)).mv (by omega) (fun c q => r c i q i1 (by omega))
theorem FrG.tx1 {a w v d z : Int} (hw : 0 ≤ w ∧ w < 13) : FrG m (tx m a w v d z) := by
  unfold tx
  exact ((((((FrG.up (by omega)).tr (FrG.up (by omega))).tr (FrG.up (by omega))).tr (FrG.up (by omega))).tr (FrG.w1 hw)).tr (FrG.up (by omega))).tr (FrG.up (by omega))
theorem FrG.ty1 {a w v d z : Int} (hw : 0 ≤ w ∧ w < 13) : FrG m (ty m a w v d z) := by
  have hk := kc_ki w a
  unfold ty
  exact (((((FrG.up (by omega)).tr (FrG.up (by omega))).tr (FrG.up (by omega))).tr (FrG.up (by omega))).tr (FrG.up (by omega))).tr (FrG.up (by omega))
theorem FrG.fo1 : FrG m (fo m) := by
  unfold fo
  exact ((((FrG.cp (by omega)).tr (FrG.cp (by omega))).tr (FrG.cp (by omega))).tr (FrG.cp (by omega))).tr (FrG.up (by omega))
theorem FrG.sh1 {k : Int} : FrG m (sh m k) := by
  intro c j q
  unfold sh
  exact if_neg (by omega)
theorem pr_mend {a w v : Int} (ha : w32 a = a) (hw : w32 w = w) (hv : w32 v = v) (hI : IK m) (hG : IG m) {QQ : Int → Int → Bool → Mem → Prop} (h : ∀ z m', IK m' → IG m' → KW 1 m m' → FrG m m' → QQ z z sw m') : M2 X 4 mZ_mend [vr 1, vi a, vi w, vi v] sw m (fun z1 sw1 m1 => M2 X 4 mY_mend [vr 84, vi a, vi w, vi v] sw1 m1 (fun z2 sw2 m2 => QQ z1 z2 sw2 m2)) := by
  have h0 := hI.1
  have h9 := hI.2.1
  have h1 := hI.2.2.1
  have hG' := hG
  obtain ⟨g1, g2, g3, g4, g5, g6⟩ := hG'
  have same : ∀ z, QQ z z sw m := fun z => h z m hI hG (KW.rf (by decide) m) (FrG.rf m)
  refine wZ_mend _ _ _ _ _ _ (eK_knows ha hw hI ?_)
  rw [bz_w, bz_0]
  refine ⟨fun c => wY_mend _ _ _ _ _ _ (eY_isOne ha hw ⟨h0, h9⟩ h1 ?_), fun c => ?_⟩
  · rw [bz_w, bz_0]
    exact ⟨fun _ => same _, fun q => absurd c q⟩
  have c := Decidable.not_not.mp c
  have hwb : 0 ≤ w ∧ w < 13 := by unfold vp at c; omega
  have hab : 0 ≤ a ∧ a < 9 := by unfold vp at c; omega
  have hold := hI.2.2.2.1 w a c
  have hk := kc_ki w a
  -- the model behind the class's call
  have mod : ∀ (m1 : Mem) (z : Int) (Q' : Int → Bool → Mem → Prop), m1 84 1 = m 2 3 → ft a w v → M2 X 2 mY_changes [vr 84, vi w, vi a, vi v] sw m1 Q' → M2 X 4 mY_mend [vr 84, vi a, vi w, vi v] sw m1 Q' := by
    intro m1 z Q' e1 c2 q
    refine wY_mend _ _ _ _ _ _ (eY_isOne ha hw ⟨h0, h9⟩ e1 ?_)
    rw [bz_w, bz_0]
    refine ⟨fun q => absurd c q, fun _ => eY_mayHave (by omega) hwb hv ?_⟩
    rw [bz_w, bz_0]
    exact ⟨fun q => absurd c2 q, fun _ => q⟩
  refine eK_fits (by omega) hwb hv ?_
  rw [bz_w, bz_0]
  refine ⟨fun c2 => ?_, fun c2 => wY_mend _ _ _ _ _ _ (eY_isOne ha hw ⟨h0, h9⟩ h1 ?_)⟩
  · have c2 := Decidable.not_not.mp c2
    refine eK_told hab hwb ?_
    have hz := ft_b hold.2
    generalize hzz : m (4 + w) a = z at hold hz
    have ez : w32 z = z := w32_id (by omega) (by omega)
    rw [ez, hv]
    refine ⟨fun q => mod m z _ h1 c2 (eY_changes h9 c ez hv hold.1 g4 (by omega) (fun _ => same z) (fun q2 => absurd q q2) (fun q2 => absurd q q2)), fun q => ?_⟩
    refine wG_tell _ _ _ _ _ _ ?_
    rw [w32_id (z := m 64 5) (by omega) (by omega)]
    have e5 : m 64 5 = w32 (m 64 5) := (w32_id (by omega) (by omega)).symm
    refine ⟨fun c3 => ?_, fun c3 => wG_forgetOldest _ _ _ ?_⟩
    · have := eG_tell (X := X) (sw := sw) (m := m) (a := a) (w := w) (v := v) (d := m 64 5) (Q := fun _ sw1 m1 => M2 X 4 mY_mend [vr 84, vi a, vi w, vi v] sw1 m1 (fun z2 sw2 m2 => QQ z z2 sw2 m2)) ⟨g1, c3⟩ hwb hab rfl ?_
      · rw [w32_id (z := m 64 5) (by omega) (by omega)] at this
        exact this
      · rw [hzz]
        refine mod _ z _ ?_ c2 (eY_changes (d := m 64 5) h9 c ez hv ?_ ?_ (by omega) (fun p => absurd p q) (fun _ _ => ?_) (fun _ p => by omega))
        · rw [tx_o hwb (by omega)]; exact h1
        · rw [tx_o hwb (by omega)]; exact hold.1
        · rw [tx_o hwb (by omega)]; exact g4
        · have fr : FrG m (ty (upm (tx m a w v (m 64 5) z) 84 10 0) a w v (m 64 5) z) := ((FrG.tx1 hwb).tr (FrG.up (by omega))).tr (FrG.ty1 hwb)
          have fin := mend_fin (m := m) (M := ty (upm (tx m a w v (m 64 5) z) 84 10 0) a w v (m 64 5) z) (a := a) (w := w) (v := v) (z := z) (d := m 64 5) (s := 0) hI hG c c2 hzz ⟨g1, c3⟩ ⟨by omega, by omega⟩ ?_ ?_ ?_ ?_ ?_ ?_
          · exact h z _ fin.1 fin.2.1 fin.2.2 fr
          · intro c' i hc i1 i2
            have e : i + 0 = i := by omega
            rw [e]
            unfold ty tx wr
            simp (disch := omega) only [upm_ne]
          · unfold ty tx wr
            refine ⟨?_, ?_, ?_, ?_, ?_, ?_, ?_, ?_⟩ <;> simp (disch := omega) only [upm_row, upm_at, if_true, ite_true] <;> simp
          · unfold ty tx wr
            refine ⟨?_, ?_, ?_, ?_⟩ <;> simp (disch := omega) only [upm_row, upm_at] <;> simp
          · intro c' j hc
            rw [ty_o (by omega) hwb, upm_ne (by omega)]
            unfold tx
            rw [upm_ne (by omega), upm_ne (by omega)]
            unfold wr
            by_cases e1 : c' = 2 ∧ j = 5
            · rw [e1.1, e1.2]; simp (disch := omega) only [upm_row, upm_at]
            · by_cases e2 : c' = 2 ∧ j = 4
              · rw [e2.1, e2.2]; simp (disch := omega) only [upm_row, upm_at]
              · by_cases e3 : c' = 4 + w ∧ j = a
                · rw [e3.1, e3.2]
                  simp (disch := omega) only [upm_row, upm_at]
                · simp (disch := omega) only [upm_ne]
          · intro c' j hc
            unfold ty tx wr
            by_cases e1 : c' = kc w ∧ j = ki w a
            · rw [if_pos e1, e1.1, e1.2, upm_at, if_pos rfl]
            · rw [if_neg e1]
              simp (disch := omega) only [upm_ne]
          · unfold ty tx wr
            simp (disch := omega) only [upm_ne]
    · have e40 : m 64 5 = 40 := by omega
      have fe : (fo m) 64 5 = 39 := by unfold fo; rw [upm_at, if_pos rfl]
      have f4 : (fo m) (4 + w) a = z := by rw [fo_o (by omega)]; exact hzz
      refine eG_tell (X := X) (sw := sw) (m := fo m) (a := a) (w := w) (v := v) (d := 39) (Q := fun _ sw1 m1 => M2 X 4 mY_mend [vr 84, vi a, vi w, vi v] sw1 m1 (fun z2 sw2 m2 => QQ z z2 sw2 m2)) (by omega) hwb hab fe ?_
      rw [f4]
      refine mod _ z _ ?_ c2 (eY_changes (d := 40) h9 c ez hv ?_ ?_ (by omega) (fun p => absurd p q) (fun _ p => by omega) (fun _ _ => ?_))
      · rw [tx_o hwb (by omega), fo_o (by omega)]; exact h1
      · rw [tx_o hwb (by omega), fo_o (by omega)]; exact hold.1
      · rw [tx_o hwb (by omega), fo_o (by omega)]; omega
      · have fr : FrG m (ty (sh (upm (tx (fo m) a w v 39 z) 84 10 0) 40) a w v 39 z) := (((FrG.fo1.tr (FrG.tx1 hwb)).tr (FrG.up (by omega))).tr FrG.sh1).tr (FrG.ty1 hwb)
        have sho : ∀ (M : Mem) c j, ¬ (92 ≤ c ∧ c ≤ 95) → sh M 40 c j = M c j := fun M c j q => by unfold sh; exact if_neg (by omega)
        have fin := mend_fin (m := m) (M := ty (sh (upm (tx (fo m) a w v 39 z) 84 10 0) 40) a w v 39 z) (a := a) (w := w) (v := v) (z := z) (d := 39) (s := 1) hI hG c c2 hzz (by omega) ⟨by omega, by omega⟩ ?_ ?_ ?_ ?_ ?_ ?_
        · exact h z _ fin.1 fin.2.1 fin.2.2 fr
        · intro c' i hc i1 i2
          by_cases h6 : 92 ≤ c' ∧ c' ≤ 95
          · unfold ty
            simp (disch := omega) only [upm_ne]
            unfold sh
            rw [if_pos (by omega), upm_ne (by omega), tx_o hwb (by omega), fo_o (by omega)]
          · rw [ty_o (by omega) hwb, sho _ _ _ h6, upm_ne (by omega)]
            unfold tx wr
            simp (disch := omega) only [upm_ne]
            exact fo_row (by omega) (by omega)
        · have o : ∀ c' : Int, 65 ≤ c' ∧ c' ≤ 68 → ty (sh (upm (tx (fo m) a w v 39 z) 84 10 0) 40) a w v 39 z c' 39 = tx (fo m) a w v 39 z c' 39 := fun c' q => by rw [ty_o (by omega) hwb, sho _ _ _ (by omega), upm_ne (by omega)]
          rw [o 65 (by omega), o 66 (by omega), o 67 (by omega), o 68 (by omega)]
          unfold ty tx wr
          refine ⟨?_, ?_, ?_, ?_, ?_, ?_, ?_, ?_⟩ <;> simp (disch := omega) only [upm_row, upm_at, if_true, ite_true]
        · rw [ty_o (c := 64) (by omega) hwb, ty_o (c := 64) (by omega) hwb, sho _ 64 _ (by omega), sho _ 64 _ (by omega), upm_ne (by omega), upm_ne (by omega), ty_o (c := 84) (j := 10) (by omega) hwb, sho _ 84 10 (by omega)]
          unfold ty tx
          refine ⟨?_, ?_, ?_, ?_⟩ <;> simp (disch := omega) only [upm_row, upm_at] <;> simp
        · intro c' j hc
          rw [ty_o (by omega) hwb, sho _ _ _ (by omega), upm_ne (by omega)]
          unfold tx
          rw [upm_ne (by omega), upm_ne (by omega)]
          unfold wr
          by_cases e1 : c' = 2 ∧ j = 5
          · rw [e1.1, e1.2]
            simp (disch := omega) only [upm_row, upm_at, fo_o]
          · by_cases e2 : c' = 2 ∧ j = 4
            · rw [e2.1, e2.2]
              simp (disch := omega) only [upm_row, upm_at, fo_o]
            · by_cases e3 : c' = 4 + w ∧ j = a
              · rw [e3.1, e3.2]
                simp (disch := omega) only [upm_row, upm_at, if_true]
              · simp (disch := omega) only [upm_ne, fo_o]
        · intro c' j hc
          unfold ty
          by_cases e1 : c' = kc w ∧ j = ki w a
          · rw [if_pos e1, e1.1, e1.2, upm_at, if_pos rfl]
          · rw [if_neg e1]
            simp (disch := omega) only [upm_ne]
            rw [sho _ _ _ (by omega), upm_ne (by omega), tx_o hwb (by omega), fo_o (by omega)]
        · rw [ty_o (by omega) hwb, sho _ _ _ (by omega), upm_ne (by omega), tx_o hwb (by omega), fo_o (by omega)]
  · rw [bz_w, bz_0]
    refine ⟨fun q => absurd c q, fun _ => eY_mayHave (by omega) hwb hv ?_⟩
    rw [bz_w, bz_0]
    exact ⟨fun _ => same _, fun q => absurd q c2⟩
/-- a change undone, or done again -/
theorem back_fin {M : Mem} {a w v : Int} (hI : IK m) (hG : IG m) (hvp : vp (m 2 3) w a) (hf : ft a w v) (rd : 0 ≤ M 64 5 ∧ M 64 5 ≤ m 64 6 ∧ M 64 6 = m 64 6 ∧ M 84 9 = M 64 5 ∧ M 84 10 = m 64 6 - M 64 5) (rk : ∀ c j, (4 ≤ c ∧ c ≤ 16) ∨ (c = 2 ∧ 3 ≤ j ∧ j ≤ 5) → M c j = wr m w a v c j) (ry : ∀ c j, (85 ≤ c ∧ c ≤ 91) → M c j = if c = kc w ∧ j = ki w a then v else m c j) (r1 : M 84 1 = m 84 1) (rr : ∀ c j, (65 ≤ c ∧ c ≤ 68) ∨ (92 ≤ c ∧ c ≤ 95) → M c j = m c j) : IK M ∧ IG M ∧ KW 1 m M := by
  have hk := kc_ki w a
  have hwb : 0 ≤ w ∧ w < 13 := by unfold vp at hvp; omega
  have e3 : M 2 3 = m 2 3 := by
    rw [rk 2 3 (by omega)]
    unfold wr
    simp (disch := omega) only [upm_ne]
  refine ⟨hI.wr hvp hf ?_, ?_, KW.w1 (v := v) (a := a) hwb (fun c j q => rk c j (by omega))⟩
  · intro c j q
    unfold DK at q
    by_cases h1 : 4 ≤ c ∧ c ≤ 16
    · rw [rk c j (by omega), wr_at hwb h1]
      by_cases h2 : c = 4 + w ∧ j = a
      · rw [if_pos h2, if_pos (Or.inl h2)]
      · rw [if_neg h2, if_neg (by omega)]
    · by_cases h2 : 85 ≤ c ∧ c ≤ 91
      · rw [ry c j h2]
        by_cases h3 : c = kc w ∧ j = ki w a
        · rw [if_pos h3, if_pos (Or.inr h3)]
        · rw [if_neg h3, if_neg (by omega)]
      · rw [if_neg (by omega)]
        have h5 : (c = 2 ∧ j = 3) ∨ (c = 84 ∧ j = 1) := by omega
        rcases h5 with h5 | h5
        · rw [h5.1, h5.2]; exact e3
        · rw [h5.1, h5.2]; exact r1
  · unfold IG
    rw [rd.2.2.1, rd.2.2.2.1, rd.2.2.2.2]
    exact ⟨rd.1, rd.2.1, hG.2.2.1, rfl, rfl, fun i i1 i2 => (hG.2.2.2.2.2 i i1 i2).mv (by omega) (fun c q => rr c i q)⟩
theorem pr_undo (hI : IK m) (hG : IG m) {QQ : Int → Int → Bool → Mem → Prop} (h : ∀ z m', IK m' → IG m' → KW 1 m m' → FrG m m' → QQ z z sw m') : M2 X 4 mZ_undo [vr 1] sw m (fun z1 sw1 m1 => M2 X 2 mY_undo [vr 84] sw1 m1 (fun z2 sw2 m2 => QQ z1 z2 sw2 m2)) := by
  have h9 := hI.2.1
  have hG' := hG
  obtain ⟨g1, g2, g3, g4, g5, g6⟩ := hG'
  refine wZ_undo _ _ _ (wG_takeBack _ _ _ ?_)
  rw [w32_id (z := m 64 5) (by omega) (by omega)]
  refine ⟨fun c => ?_, fun c => wY_undo _ _ _ ?_⟩
  · rw [w32_id (z := m 64 5 - 1) (by omega) (by omega)]
    have he := g6 (m 64 5 - 1) (by omega) (by omega)
    generalize hd : m 64 5 - 1 = d at he ⊢
    unfold En at he
    generalize ha : m 65 d = a at he ⊢
    generalize hw : m 66 d = w at he ⊢
    generalize hv : m 67 d = v at he ⊢
    obtain ⟨he1, he2, he3, he4, he5, he6, he7⟩ := he
    have hvp := he5
    unfold vp at he5
    have hk := kc_ki w a
    have hwb : 0 ≤ w ∧ w < 13 := by omega
    refine ⟨by omega, by omega, by omega, eK_write (by omega) (by omega) (wY_undo _ _ _ ?_)⟩
    generalize hm1 : wr (upm m 64 5 d) w a v = m1
    have o : ∀ c j, ¬ (4 ≤ c ∧ c ≤ 16) → ¬ c = 2 → m1 c j = upm m 64 5 d c j := fun c j q1 q2 => by
      rw [← hm1]
      unfold wr
      rw [upm_ne (by omega), upm_ne (by omega), upm_ne (by omega)]
    rw [o 84 9 (by omega) (by omega), o 84 10 (by omega) (by omega), upm_ne (by omega), upm_ne (by omega), g4, w32_id (z := m 64 5) (by omega) (by omega), hd, w32_id (z := d) (by omega) (by omega), o 92 d (by omega) (by omega), o 93 d (by omega) (by omega), o 94 d (by omega) (by omega), upm_ne (by omega), upm_ne (by omega), upm_ne (by omega), he1, he2, he3]
    refine ⟨fun _ => ⟨by omega, by omega, by omega, eY_lays (n := 9) (by omega) (by unfold vp; omega) ?_⟩, fun q => by omega⟩
    have e1 : upm (upm (upm m1 84 9 d) 84 10 (m 84 10 + 1)) (kc w) (ki w a) v 84 9 = d := by
      rw [upm_ne (by omega), upm_ne (by omega), upm_at, if_pos rfl]
    have e2 : m1 64 5 = d := by rw [o 64 5 (by omega) (by omega), upm_at, if_pos rfl]
    rw [e1, e2]
    have fr : FrG m (upm (upm (upm m1 84 9 d) 84 10 (m 84 10 + 1)) (kc w) (ki w a) v) := by
      rw [← hm1]
      exact ((((FrG.up (by omega)).tr (FrG.w1 hwb)).tr (FrG.up (by omega))).tr (FrG.up (by omega))).tr (FrG.up (by omega))
    have fin := back_fin (m := m) (M := upm (upm (upm m1 84 9 d) 84 10 (m 84 10 + 1)) (kc w) (ki w a) v) hI hG hvp he6 ?_ ?_ ?_ ?_ ?_
    · exact h d _ fin.1 fin.2.1 fin.2.2 fr
    · have x1 : upm (upm (upm m1 84 9 d) 84 10 (m 84 10 + 1)) (kc w) (ki w a) v 64 5 = d := by simp (disch := omega) only [upm_ne]; exact e2
      have x2 : upm (upm (upm m1 84 9 d) 84 10 (m 84 10 + 1)) (kc w) (ki w a) v 64 6 = m 64 6 := by simp (disch := omega) only [upm_ne]; rw [o 64 6 (by omega) (by omega), upm_ne (by omega)]
      have x3 : upm (upm (upm m1 84 9 d) 84 10 (m 84 10 + 1)) (kc w) (ki w a) v 84 10 = m 84 10 + 1 := by rw [upm_ne (by omega), upm_at, if_pos rfl]
      rw [x1, x2, x3, e1]
      omega
    · intro c' j hc
      simp (disch := omega) only [upm_ne]
      rw [← hm1]
      unfold wr
      by_cases q1 : c' = 2 ∧ j = 5
      · rw [q1.1, q1.2]
        simp (disch := omega) only [upm_row, upm_at]
      · by_cases q2 : c' = 2 ∧ j = 4
        · rw [q2.1, q2.2]
          simp (disch := omega) only [upm_row, upm_at]
        · by_cases q3 : c' = 4 + w ∧ j = a
          · rw [q3.1, q3.2]
            simp (disch := omega) only [upm_row, upm_at, if_true]
          · simp (disch := omega) only [upm_ne]
    · intro c' j hc
      by_cases q1 : c' = kc w ∧ j = ki w a
      · rw [if_pos q1, q1.1, q1.2, upm_at, if_pos rfl]
      · rw [if_neg q1]
        simp (disch := omega) only [upm_ne]
        rw [o c' j (by omega) (by omega), upm_ne (by omega)]
    · simp (disch := omega) only [upm_ne]
      rw [o 84 1 (by omega) (by omega), upm_ne (by omega)]
    · intro c' j hc
      simp (disch := omega) only [upm_ne]
      rw [o c' j (by omega) (by omega), upm_ne (by omega)]
  · rw [g4, w32_id (z := m 64 5) (by omega) (by omega)]
    exact ⟨fun q => by omega, fun _ => h _ _ hI hG (KW.rf (by decide) m) (FrG.rf m)⟩
theorem pr_redo (hI : IK m) (hG : IG m) {QQ : Int → Int → Bool → Mem → Prop} (h : ∀ z m', IK m' → IG m' → KW 1 m m' → FrG m m' → QQ z z sw m') : M2 X 4 mZ_redo [vr 1] sw m (fun z1 sw1 m1 => M2 X 2 mY_redo [vr 84] sw1 m1 (fun z2 sw2 m2 => QQ z1 z2 sw2 m2)) := by
  have h9 := hI.2.1
  have hG' := hG
  obtain ⟨g1, g2, g3, g4, g5, g6⟩ := hG'
  refine wZ_redo _ _ _ (wG_doAgain _ _ _ ?_)
  rw [w32_id (z := m 64 5) (by omega) (by omega), w32_id (z := m 64 6) (by omega) (by omega)]
  refine ⟨fun c => ?_, fun c => wY_redo _ _ _ ?_⟩
  · have he := g6 (m 64 5) (by omega) (by omega)
    generalize hd : m 64 5 = d at he g1 g2 g4 g5 c ⊢
    unfold En at he
    generalize ha : m 65 d = a at he ⊢
    generalize hw : m 66 d = w at he ⊢
    generalize hv : m 68 d = v at he ⊢
    obtain ⟨he1, he2, he3, he4, he5, he6, he7⟩ := he
    have hvp := he5
    unfold vp at he5
    have hk := kc_ki w a
    have hwb : 0 ≤ w ∧ w < 13 := by omega
    refine ⟨by omega, by omega, by omega, eK_write (by omega) (by omega) (wY_redo _ _ _ ?_)⟩
    have o0 : ∀ c j, ¬ (4 ≤ c ∧ c ≤ 16) → ¬ c = 2 → wr m w a v c j = m c j := fun c j q1 q2 => by
      unfold wr
      rw [upm_ne (by omega), upm_ne (by omega), upm_ne (by omega)]
    rw [o0 64 5 (by omega) (by omega), o0 64 6 (by omega) (by omega), hd]
    generalize hm1 : upm (wr m w a v) 64 5 (d + 1) = m1
    have o : ∀ c j, ¬ (4 ≤ c ∧ c ≤ 16) → ¬ c = 2 → ¬ (c = 64 ∧ j = 5) → m1 c j = m c j := fun c j q1 q2 q3 => by
      rw [← hm1, upm_ne (by omega), o0 c j q1 q2]
    rw [o 84 9 (by omega) (by omega) (by omega), o 84 10 (by omega) (by omega) (by omega), g4, w32_id (z := d) (by omega) (by omega), w32_id (z := m 84 10) (by omega) (by omega), o 92 d (by omega) (by omega) (by omega), o 93 d (by omega) (by omega) (by omega), o 95 d (by omega) (by omega) (by omega), he1, he2, he4]
    refine ⟨fun _ => ⟨by omega, by omega, by omega, eY_lays (n := 9) (by omega) (by unfold vp; omega) ?_⟩, fun q => by omega⟩
    have e1 : upm m1 (kc w) (ki w a) v 84 9 = d := by
      rw [upm_ne (by omega), o 84 9 (by omega) (by omega) (by omega), g4]
    have e2 : m1 64 5 = d + 1 := by rw [← hm1, upm_at, if_pos rfl]
    have e10 : upm m1 (kc w) (ki w a) v 84 10 = m 84 10 := by
      rw [upm_ne (by omega), o 84 10 (by omega) (by omega) (by omega)]
    rw [e1, e10, show m 64 6 - (d + 1) = m 84 10 - 1 by omega]
    have fr : FrG m (upm (upm (upm m1 (kc w) (ki w a) v) 84 9 (d + 1)) 84 10 (m 84 10 - 1)) := by
      rw [← hm1]
      exact (((((FrG.w1 hwb)).tr (FrG.up (by omega))).tr (FrG.up (by omega))).tr (FrG.up (by omega))).tr (FrG.up (by omega))
    have fin := back_fin (m := m) (M := upm (upm (upm m1 (kc w) (ki w a) v) 84 9 (d + 1)) 84 10 (m 84 10 - 1)) hI hG hvp he7 ?_ ?_ ?_ ?_ ?_
    · exact h _ _ fin.1 fin.2.1 fin.2.2 fr
    · have x1 : upm (upm (upm m1 (kc w) (ki w a) v) 84 9 (d + 1)) 84 10 (m 84 10 - 1) 64 5 = d + 1 := by simp (disch := omega) only [upm_ne]; exact e2
      have x2 : upm (upm (upm m1 (kc w) (ki w a) v) 84 9 (d + 1)) 84 10 (m 84 10 - 1) 64 6 = m 64 6 := by simp (disch := omega) only [upm_ne]; exact o 64 6 (by omega) (by omega) (by omega)
      have x3 : upm (upm (upm m1 (kc w) (ki w a) v) 84 9 (d + 1)) 84 10 (m 84 10 - 1) 84 10 = m 84 10 - 1 := by rw [upm_at, if_pos rfl]
      have x4 : upm (upm (upm m1 (kc w) (ki w a) v) 84 9 (d + 1)) 84 10 (m 84 10 - 1) 84 9 = d + 1 := by rw [upm_ne (by omega), upm_at, if_pos rfl]
      rw [x1, x2, x3, x4]
      omega
    · intro c' j hc
      simp (disch := omega) only [upm_ne]
      rw [← hm1, upm_ne (by omega)]
    · intro c' j hc
      by_cases q1 : c' = kc w ∧ j = ki w a
      · rw [if_pos q1, upm_ne (by omega), upm_ne (by omega), q1.1, q1.2, upm_at, if_pos rfl]
      · rw [if_neg q1]
        simp (disch := omega) only [upm_ne]
        exact o c' j (by omega) (by omega) (by omega)
    · simp (disch := omega) only [upm_ne]
      exact o 84 1 (by omega) (by omega) (by omega)
    · intro c' j hc
      simp (disch := omega) only [upm_ne]
      exact o c' j (by omega) (by omega) (by omega)
  · rw [g5, w32_id (z := m 64 6 - m 64 5) (by omega) (by omega)]
    exact ⟨fun q => by omega, fun _ => h _ _ hI hG (KW.rf (by decide) m) (FrG.rf m)⟩
end CP
