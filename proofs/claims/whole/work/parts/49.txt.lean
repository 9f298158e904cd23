/-! texts: the model's reader -/
section YR
variable {X : Cx} {sw : Bool} {n : Nat} {b : Nat → Int}
theorem eY_figure {m : Mem} {Q : Int → Bool → Mem → Prop} {o A : Int} {p : Nat} (hT : tY n b m) (hA : yA n p o A m) (hn0 : ¬ 0 ≤ nm (nx n b p)) (h : ∀ m', YP n o A p m (opr n b p) m' → Q 0 sw m') : M2 X 2 mY_figure [vr 84] sw m Q := by
  have hA' := hA
  obtain ⟨a1, a2, a3, a4, a5, a6, a7⟩ := hA'
  have hn := hT.2.1
  have hb := ny_b (n := n) (b := b) (p := p)
  have hxy := ny_nx (p := p) hT
  unfold opr at h
  rw [if_neg hn0] at h
  refine wY_figure _ _ _ (wY_figure_4 _ _ _ _ _ ⟨fun q => absurd q (by decide), fun _ => eY_looksOn hT a1 a2 (eY_in (w32_id (by omega) (by omega)) (by decide) (by decide) ?_)⟩)
  rw [bz_w, bz_0]
  refine ⟨fun c1 => ⟨fun _ => eY_wrongStep (p := p) (P := fun _ _ _ _ => True) a3 a5 (by omega) (by omega) ?_, fun q => absurd rfl q⟩, fun c1 => eY_looksOn hT a1 a2 ?_⟩
  · rw [if_pos (show ¬ dgt (nx n b p) by omega)] at h
    obtain ⟨e1, e2, e3, e4, e5, e6⟩ := yst_at (m := upm m 84 18 (m 84 17)) (A := A) (a := 1) (v := 0) (by omega)
    refine h _ (YP.bad ((FrY.up (by omega)).tr e6) ⟨?_, a2, ?_, by rw [e2]; omega, by rw [e2]; omega⟩)
    · rw [e1 17 (by omega), upm_at, if_neg (by omega)]; exact a1
    · rw [e1 18 (by omega), upm_at, if_pos rfl]; exact a1
  · have hd : dgt (nx n b p) := by omega
    have hlt := nx_lt (n := n) (b := b) (p := p) (by omega)
    rw [if_neg (fun q => q hd)] at h
    have e : ny n b p = nx n b p := by omega
    have e4' : dgs n b 4 0 p = dgs n b 3 (0 * 10 + nx n b p - 48) (p + 1) := by rw [dgs_c]; rw [if_pos hd]
    rw [e4'] at h
    rw [e, show (10 : Int) * 0 + nx n b p - 48 = 0 * 10 + nx n b p - 48 by omega]
    refine lY_digits hT hA 3 (0 * 10 + nx n b p - 48) (p + 1) _ (by omega) (by omega) (FrY.up (by omega)) ⟨?_, hlt, ?_, ?_, ?_, a6, by omega⟩ (fun k => ?_) (by omega) h
    · rw [upm_at, if_pos rfl, a1]; rfl
    · rw [upm_at, if_neg (by omega)]; exact a3
    · rw [upm_at, if_neg (by omega)]; exact a4
    · rw [upm_at, if_neg (by omega)]; exact a5
    · rw [upm_row (by omega), upm_row (by omega)]; exact ⟨rfl, rfl⟩
def ySpec (X : Cx) (sw : Bool) (n : Nat) (b : Nat → Int) (M : Md) (d : Nat) (o : Int) (p : Nat) (r : Rs) : Prop :=
  ∀ (A : Int) (m : Mem) (Q : Int → Bool → Mem → Prop), tY n b m → yA n p o A m → (∀ m', YP n o A p m r m' → Q 0 sw m') → M2 X d M [vr 84] sw m Q
/-- a loop over one level's signs -/
def yLp (X : Cx) (sw : Bool) (n : Nat) (b : Nat → Int) (L : Int) (Mn : Md) (d : Nat) (R : Bool → Mem → (Int → Bool → Mem → Prop) → Prop) : Prop :=
  ∀ (p : Nat) (m : Mem) (Q : Int → Bool → Mem → Prop), tY n b m → m 84 17 = p → p ≤ n → (m 84 18 = -1 ∨ (0 ≤ m 84 18 ∧ m 84 18 ≤ 1000)) → (0 ≤ m 84 18 → Q 0 sw m) → (m 84 18 = -1 → sg L (nx n b p) = 0 → Q 0 sw m) → (m 84 18 = -1 → ¬ sg L (nx n b p) = 0 → M2 X d Mn [vr 84] sw (upm m 84 17 (m 84 17 + 1)) (fun z3 sw3 m3 => M2 X 1 mY_addStep [vr 84, vi (am (sg L (nx n b p))), vi 0] sw3 m3 (fun z4 sw4 m4 => R sw4 m4 Q))) → R sw m Q
theorem am_b (t : Int) : 0 ≤ am t ∧ am t < 128 := by
  unfold am
  repeat' split
  all_goals omega
theorem wm_sg {L c : Int} (h : ¬ sg L c = 0) : wm (sg L c) = 0 := by
  have := sg_b L c
  unfold wm
  rw [if_neg (by omega), if_neg (by omega)]
theorem lY_loop {L : Int} {Mn : Md} {d : Nat} {R : Bool → Mem → (Int → Bool → Mem → Prop) → Prop} {g : Nat → Rs} {o : Int} (hR : yLp X sw n b L Mn d R) (hP : ∀ q, q ≤ n → Pr n q (g q)) (hg : ∀ q, q ≤ n → ySpec X sw n b Mn d o q (g q)) {A : Int} {m : Mem} {p0 : Nat} (hT : tY n b m) (hA0 : 0 ≤ A ∧ A ≤ p0) {Q : Int → Bool → Mem → Prop} : ∀ (c p : Nat) (acc : List Int) (m1 : Mem), n ≤ p + c → p0 < p → acc.length + p0 ≤ p → FrY m m1 → yA n p o (A + (acc.length : Int)) m1 → (∀ k, k < 130 + A → m1 97 k = m 97 k ∧ m1 98 k = m 98 k) → Sg (m1 97) (130 + A) (acc.map am) → Sg (m1 98) (130 + A) (acc.map wm) → (∀ m', YP n o A p0 m (lp n b L g c p acc) m' → Q 0 sw m') → R sw m1 Q := by
  intro c
  have hn := hT.2.1
  induction c with
  | zero =>
    intro p acc m1 hpc hp0 hl hF hA hs hS1 hS2 h
    have fin : Q 0 sw m1 := h m1 ⟨hF, Or.inl ⟨rfl, hA, hs, hS1, hS2⟩⟩
    obtain ⟨a1, a2, a3, a4, a5, a6, a7⟩ := hA
    have e : nx n b p = -1 := by unfold nx; rw [if_neg (by omega)]
    refine hR p m1 Q (hT.fr hF) a1 a2 (Or.inl a3) (fun q => fin) (fun _ _ => fin) (fun _ q => ?_)
    rw [e] at q
    exact absurd (sg_end (by decide)) q
  | succ c ih =>
    intro p acc m1 hpc hp0 hl hF hA hs hS1 hS2 h
    have hT1 := hT.fr hF
    have hA' := hA
    obtain ⟨a1, a2, a3, a4, a5, a6, a7⟩ := hA'
    unfold lp at h
    refine hR p m1 Q hT1 a1 a2 (Or.inl a3) (fun q => by omega) (fun _ c1 => ?_) (fun _ c1 => ?_)
    · rw [if_pos c1] at h
      exact h m1 ⟨hF, Or.inl ⟨rfl, hA, hs, hS1, hS2⟩⟩
    · rw [if_neg c1] at h
      have hlt : p < n := nx_lt (n := n) (b := b) (p := p) (by
        by_cases q : nx n b p < 33
        · exact absurd (sg_end q) c1
        · omega)
      have hF1 : FrY m (upm m1 84 17 (m1 84 17 + 1)) := hF.tr (FrY.up (by omega))
      refine hg (p + 1) (by omega) (A + (acc.length : Int)) _ _ (hT.fr hF1) ⟨?_, by omega, ?_, ?_, ?_, a6, by omega⟩ (fun m2 hX => ?_)
      · rw [upm_at, if_pos rfl, a1]; rfl
      · rw [upm_at, if_neg (by omega)]; exact a3
      · rw [upm_at, if_neg (by omega)]; exact a4
      · rw [upm_at, if_neg (by omega)]; exact a5
      · obtain ⟨g1, g2, g3⟩ := hP (p + 1) (by omega)
        have hF2 := hF1.tr hX.1
        have ha := am_b (sg L (nx n b p))
        have hw := wm_sg c1
        rcases hX.2 with ⟨x1, x2, x3, x4, x5⟩ | ⟨x1, x2⟩
        · rw [if_pos x1] at h
          obtain ⟨g4, g5, g6, g7⟩ := g3 x1
          obtain ⟨y1, y2, y3, y4, y5, y6, y7⟩ := x2
          refine eY_addStep y5 (by omega) ha ?_
          obtain ⟨e1, e2, e3, e4, e5, e6⟩ := yst_at (m := m2) (A := A + (acc.length : Int) + ((g (p + 1)).2.2.length : Int)) (a := am (sg L (nx n b p))) (v := 0) (by omega)
          have hlen : (((acc ++ (g (p + 1)).2.2 ++ [sg L (nx n b p)]).length : Nat) : Int) = (acc.length : Int) + ((g (p + 1)).2.2.length : Int) + 1 := by
            rw [List.length_append, List.length_append]
            show ((acc.length + (g (p + 1)).2.2.length + 1 : Nat) : Int) = _
            omega
          have sgs : ∀ (F : Int → Int) (row0 row1 row2 row3 : Int → Int), (∀ k, row1 k = row0 k) → (∀ k, k < 130 + (A + (acc.length : Int)) → row2 k = row1 k) → (∀ k, ¬ k = 130 + (A + (acc.length : Int) + ((g (p + 1)).2.2.length : Int)) → row3 k = row2 k) → row3 (130 + (A + (acc.length : Int) + ((g (p + 1)).2.2.length : Int))) = F (sg L (nx n b p)) → Sg row0 (130 + A) (acc.map F) → Sg row2 (130 + (A + (acc.length : Int))) ((g (p + 1)).2.2.map F) → Sg row3 (130 + A) ((acc ++ (g (p + 1)).2.2 ++ [sg L (nx n b p)]).map F) := by
            intro F row0 row1 row2 row3 q1 q2 q3 q4 q5 q6
            rw [List.map_append, List.map_append, Sg.app, Sg.app]
            refine ⟨⟨q5.fr (fun k k1 k2 => ?_), ?_⟩, ?_, trivial⟩
            · rw [List.length_map] at k2
              rw [q3 k (by omega), q2 k (by omega), q1 k]
            · rw [List.length_map, show 130 + A + (acc.length : Int) = 130 + (A + (acc.length : Int)) by omega]
              exact q6.fr (fun k k1 k2 => by rw [List.length_map] at k2; exact q3 k (by omega))
            · have e : 130 + A + (((acc.map F ++ (g (p + 1)).2.2.map F).length : Nat) : Int) = 130 + (A + (acc.length : Int) + ((g (p + 1)).2.2.length : Int)) := by
                rw [List.length_append, List.length_map, List.length_map]; omega
              rw [e]; exact q4
          refine ih (g (p + 1)).2.1 (acc ++ (g (p + 1)).2.2 ++ [sg L (nx n b p)]) _ (by omega) (by omega) ?_ (hF2.tr e6) ⟨(e1 17 (by omega)).trans y1, y2, (e1 18 (by omega)).trans y3, (e1 19 (by omega)).trans y4, by rw [hlen, e2]; omega, by omega, by omega⟩ (fun k hk => ?_) ?_ ?_ h
          · rw [List.length_append, List.length_append]
            show acc.length + (g (p + 1)).2.2.length + 1 + p0 ≤ _
            omega
          · rw [(e5 k (by omega)).1, (e5 k (by omega)).2, (x3 k (by omega)).1, (x3 k (by omega)).2, upm_row (by omega), upm_row (by omega)]
            exact hs k hk
          · exact sgs am (m1 97) (upm m1 84 17 (m1 84 17 + 1) 97) (m2 97) _ (fun k => by rw [upm_row (by omega)]) (fun k hk => (x3 k hk).1) (fun k hk => (e5 k hk).1) e3 hS1 x4
          · exact sgs wm (m1 98) (upm m1 84 17 (m1 84 17 + 1) 98) (m2 98) _ (fun k => by rw [upm_row (by omega)]) (fun k hk => (x3 k hk).2) (fun k hk => (e5 k hk).2) (e4.trans hw.symm) hS2 x5
        · rw [if_neg x1] at h
          obtain ⟨y1, y2, y3, y4, y5⟩ := x2
          refine eY_addStep rfl (by omega) ha ?_
          obtain ⟨e1, e2, e3, e4, e5, e6⟩ := yst_at (m := m2) (A := m2 84 20) (a := am (sg L (nx n b p))) (v := 0) (by omega)
          have hF3 := hF2.tr e6
          refine hR (g (p + 1)).2.1 _ Q (hT.fr hF3) ((e1 17 (by omega)).trans y1) y2 ?_ (fun _ => h _ (YP.bad hF3 ⟨(e1 17 (by omega)).trans y1, y2, (e1 18 (by omega)).trans y3, by rw [e2]; omega, by rw [e2]; omega⟩)) (fun q => ?_) (fun q => ?_)
          · rw [e1 18 (by omega), y3]; exact Or.inr ⟨by omega, by omega⟩
          · rw [e1 18 (by omega), y3] at q; omega
          · rw [e1 18 (by omega), y3] at q; omega
theorem sg0 (c : Int) : sg 0 c = if c = 124 then -1 else 0 := by simp [sg]
theorem sg1 (c : Int) : sg 1 c = if c = 38 then -2 else 0 := by simp [sg]
theorem sg2 (c : Int) : sg 2 c = if c = 60 then -3 else if c = 61 then -4 else if c = 62 then -5 else 0 := by simp [sg]
theorem sg3 (c : Int) : sg 3 c = if c = 43 then -6 else if c = 45 then -7 else 0 := by simp [sg]
theorem sg4 (c : Int) : sg 4 c = if c = 42 then -8 else if c = 47 then -9 else if c = 37 then -10 else 0 := by simp [sg]
theorem nl_either {d : Nat} (hd : 1 ≤ d) : yLp X sw n b 0 mY_both d (fun sw m Q => R2 X (d + 1) mY_either 4 [(0, vr 84)] [] sw m Q) := by
  intro p m Q hT h7 hp hw q1 q2 q3
  have hb := ny_b (n := n) (b := b) (p := p)
  have hxy := ny_nx (p := p) hT
  refine wY_either_4 hd _ _ _ ?_
  rw [w32_id (z := m 84 18) (by omega) (by omega)]
  refine ⟨q1, fun c => eY_looksOn hT h7 hp ?_⟩
  rw [w32_id (z := ny n b p) (by omega) (by omega)]
  refine ⟨fun c1 => q2 (by omega) (by rw [sg0, if_neg (by omega)]), fun c1 => ?_⟩
  have e : nx n b p = 124 := by omega
  have := q3 (by omega) (by rw [e]; decide)
  rw [e] at this
  exact this
theorem nl_both {d : Nat} (hd : 1 ≤ d) : yLp X sw n b 1 mY_compared d (fun sw m Q => R2 X (d + 1) mY_both 4 [(0, vr 84)] [] sw m Q) := by
  intro p m Q hT h7 hp hw q1 q2 q3
  have hb := ny_b (n := n) (b := b) (p := p)
  have hxy := ny_nx (p := p) hT
  refine wY_both_4 hd _ _ _ ?_
  rw [w32_id (z := m 84 18) (by omega) (by omega)]
  refine ⟨q1, fun c => eY_looksOn hT h7 hp ?_⟩
  rw [w32_id (z := ny n b p) (by omega) (by omega)]
  refine ⟨fun c1 => q2 (by omega) (by rw [sg1, if_neg (by omega)]), fun c1 => ?_⟩
  have e : nx n b p = 38 := by omega
  have := q3 (by omega) (by rw [e]; decide)
  rw [e] at this
  exact this
theorem nl_sum {d : Nat} (hd : 1 ≤ d) : yLp X sw n b 3 mY_product d (fun sw m Q => R2 X (d + 1) mY_sum 4 [(0, vr 84)] [] sw m Q) := by
  intro p m Q hT h7 hp hw q1 q2 q3
  have hb := ny_b (n := n) (b := b) (p := p)
  have hxy := ny_nx (p := p) hT
  refine wY_sum_4 hd _ _ _ ?_
  rw [w32_id (z := m 84 18) (by omega) (by omega)]
  refine ⟨q1, fun c => eY_looksOn hT h7 hp ?_⟩
  rw [w32_id (z := ny n b p) (by omega) (by omega)]
  refine ⟨fun c1 => eY_looksOn hT h7 hp ?_, fun c1 => eY_looksOn hT h7 hp ?_⟩
  · have e : nx n b p = 43 := by omega
    have := q3 (by omega) (by rw [e]; decide)
    rw [e] at this
    rw [c1]
    exact this
  · rw [w32_id (z := ny n b p) (by omega) (by omega)]
    refine ⟨fun c2 => q2 (by omega) (by rw [sg3, if_neg (by omega), if_neg (by omega)]), fun c2 => eY_looksOn hT h7 hp ?_⟩
    have c2 := Decidable.not_not.mp c2
    have e : nx n b p = 45 := by omega
    have := q3 (by omega) (by rw [e]; decide)
    rw [e] at this
    rw [c2]
    exact this
theorem nl_product {d : Nat} (hd : 1 ≤ d) : yLp X sw n b 4 mY_operand d (fun sw m Q => R2 X (d + 1) mY_product 4 [(0, vr 84)] [] sw m Q) := by
  intro p m Q hT h7 hp hw q1 q2 q3
  have hb := ny_b (n := n) (b := b) (p := p)
  have hxy := ny_nx (p := p) hT
  refine wY_product_4 hd _ _ _ ?_
  rw [w32_id (z := m 84 18) (by omega) (by omega)]
  refine ⟨q1, fun c => eY_looksOn hT h7 hp ?_⟩
  rw [w32_id (z := ny n b p) (by omega) (by omega)]
  refine ⟨fun c1 => eY_looksOn hT h7 hp ?_, fun c1 => eY_looksOn hT h7 hp ?_⟩
  · have e : nx n b p = 42 := by omega
    have := q3 (by omega) (by rw [e]; decide)
    rw [e] at this
    rw [c1]
    exact this
  · rw [w32_id (z := ny n b p) (by omega) (by omega)]
    refine ⟨fun c2 => eY_looksOn hT h7 hp ?_, fun c2 => eY_looksOn hT h7 hp ?_⟩
    · have e : nx n b p = 47 := by omega
      have := q3 (by omega) (by rw [e]; decide)
      rw [e] at this
      rw [c2]
      exact this
    · rw [w32_id (z := ny n b p) (by omega) (by omega)]
      refine ⟨fun c3 => q2 (by omega) (by rw [sg4, if_neg (by omega), if_neg (by omega), if_neg (by omega)]), fun c3 => eY_looksOn hT h7 hp ?_⟩
      have c3 := Decidable.not_not.mp c3
      have e : nx n b p = 37 := by omega
      have := q3 (by omega) (by rw [e]; decide)
      rw [e] at this
      rw [c3]
      exact this
end YR
