/-! texts: the model's reader, all levels -/
section YS
variable {X : Cx} {sw : Bool} {n : Nat} {b : Nat → Int}
theorem lY_one {L : Int} {Mn : Md} {d : Nat} {K : Bool → Mem → Prop} {r : Rs} {o : Int} {p : Nat} (hP : Pr n (p + 1) r) (hg : ySpec X sw n b Mn d o (p + 1) r) {A : Int} {m : Mem} {p0 : Nat} (hT : tY n b m) (hA0 : 0 ≤ A ∧ A ≤ p0) (acc : List Int) (m1 : Mem) (hlt : p < n) (hp0 : p0 < p) (hl : acc.length + p0 ≤ p) (hF : FrY m m1) (hA : yA n p o (A + (acc.length : Int)) m1) (hs : ∀ k, k < 130 + A → m1 97 k = m 97 k ∧ m1 98 k = m 98 k) (hS1 : Sg (m1 97) (130 + A) (acc.map am)) (hS2 : Sg (m1 98) (130 + A) (acc.map wm)) (c1 : ¬ sg L (nx n b p) = 0) (h : ∀ m', YP n o A p0 m (if r.1 = true then (true, r.2.1, acc ++ r.2.2 ++ [sg L (nx n b p)]) else (false, r.2.1, [])) m' → K sw m') : M2 X d Mn [vr 84] sw (upm m1 84 17 (m1 84 17 + 1)) (fun z3 sw3 m3 => M2 X 1 mY_addStep [vr 84, vi (am (sg L (nx n b p))), vi 0] sw3 m3 (fun z4 sw4 m4 => K sw4 m4)) := by
  have hn := hT.2.1
  have hT1 := hT.fr hF
  have hA' := hA
  obtain ⟨a1, a2, a3, a4, a5, a6, a7⟩ := hA'
  have hF1 : FrY m (upm m1 84 17 (m1 84 17 + 1)) := hF.tr (FrY.up (by omega))
  refine hg (A + (acc.length : Int)) _ _ (hT.fr hF1) ⟨?_, by omega, ?_, ?_, ?_, a6, by omega⟩ (fun m2 hX => ?_)
  · rw [upm_at, if_pos rfl, a1]; rfl
  · rw [upm_at, if_neg (by omega)]; exact a3
  · rw [upm_at, if_neg (by omega)]; exact a4
  · rw [upm_at, if_neg (by omega)]; exact a5
  · obtain ⟨g1, g2, g3⟩ := hP
    have hF2 := hF1.tr hX.1
    have ha := am_b (sg L (nx n b p))
    have hw := wm_sg c1
    rcases hX.2 with ⟨x1, x2, x3, x4, x5⟩ | ⟨x1, x2⟩
    · rw [if_pos x1] at h
      obtain ⟨g4, g5, g6, g7⟩ := g3 x1
      obtain ⟨y1, y2, y3, y4, y5, y6, y7⟩ := x2
      refine eY_addStep y5 (by omega) ha ?_
      obtain ⟨e1, e2, e3, e4, e5, e6⟩ := yst_at (m := m2) (A := A + (acc.length : Int) + (r.2.2.length : Int)) (a := am (sg L (nx n b p))) (v := 0) (by omega)
      have hlen : (((acc ++ r.2.2 ++ [sg L (nx n b p)]).length : Nat) : Int) = (acc.length : Int) + (r.2.2.length : Int) + 1 := by
        rw [List.length_append, List.length_append]
        show ((acc.length + r.2.2.length + 1 : Nat) : Int) = _
        omega
      have sgs : ∀ (F : Int → Int) (row0 row1 row2 row3 : Int → Int), (∀ k, row1 k = row0 k) → (∀ k, k < 130 + (A + (acc.length : Int)) → row2 k = row1 k) → (∀ k, ¬ k = 130 + (A + (acc.length : Int) + (r.2.2.length : Int)) → row3 k = row2 k) → row3 (130 + (A + (acc.length : Int) + (r.2.2.length : Int))) = F (sg L (nx n b p)) → Sg row0 (130 + A) (acc.map F) → Sg row2 (130 + (A + (acc.length : Int))) (r.2.2.map F) → Sg row3 (130 + A) ((acc ++ r.2.2 ++ [sg L (nx n b p)]).map F) := by
        intro F row0 row1 row2 row3 q1 q2 q3 q4 q5 q6
        rw [List.map_append, List.map_append, Sg.app, Sg.app]
        refine ⟨⟨q5.fr (fun k k1 k2 => ?_), ?_⟩, ?_, trivial⟩
        · rw [List.length_map] at k2
          rw [q3 k (by omega), q2 k (by omega), q1 k]
        · rw [List.length_map, show 130 + A + (acc.length : Int) = 130 + (A + (acc.length : Int)) by omega]
          exact q6.fr (fun k k1 k2 => by rw [List.length_map] at k2; exact q3 k (by omega))
        · have e : 130 + A + (((acc.map F ++ r.2.2.map F).length : Nat) : Int) = 130 + (A + (acc.length : Int) + (r.2.2.length : Int)) := by
            rw [List.length_append, List.length_map, List.length_map]; omega
          rw [e]; exact q4
      refine h _ ⟨hF2.tr e6, Or.inl ⟨rfl, ⟨(e1 17 (by omega)).trans y1, y2, (e1 18 (by omega)).trans y3, (e1 19 (by omega)).trans y4, by rw [hlen, e2]; omega, by omega, ?_⟩, fun k hk => ?_, ?_, ?_⟩⟩
      · rw [hlen]; show _ ≤ (r.2.1 : Int); omega
      · rw [(e5 k (by omega)).1, (e5 k (by omega)).2, (x3 k (by omega)).1, (x3 k (by omega)).2, upm_row (by omega), upm_row (by omega)]
        exact hs k hk
      · exact sgs am (m1 97) (upm m1 84 17 (m1 84 17 + 1) 97) (m2 97) _ (fun k => by rw [upm_row (by omega)]) (fun k hk => (x3 k hk).1) (fun k hk => (e5 k hk).1) e3 hS1 x4
      · exact sgs wm (m1 98) (upm m1 84 17 (m1 84 17 + 1) 98) (m2 98) _ (fun k => by rw [upm_row (by omega)]) (fun k hk => (x3 k hk).2) (fun k hk => (e5 k hk).2) (e4.trans hw.symm) hS2 x5
    · rw [if_neg x1] at h
      obtain ⟨y1, y2, y3, y4, y5⟩ := x2
      refine eY_addStep rfl (by omega) ha ?_
      obtain ⟨e1, e2, e3, e4, e5, e6⟩ := yst_at (m := m2) (A := m2 84 20) (a := am (sg L (nx n b p))) (v := 0) (by omega)
      exact h _ (YP.bad (hF2.tr e6) ⟨(e1 17 (by omega)).trans y1, y2, (e1 18 (by omega)).trans y3, by rw [e2]; omega, by rw [e2]; omega⟩)
def mYL : Nat → Md
  | 0 => mY_either
  | 1 => mY_both
  | 2 => mY_compared
  | 3 => mY_sum
  | 4 => mY_product
  | _ => mY_operand
theorem lY_cmp {d o : Nat} {p : Nat} {g : Nat → Rs} (hd : 1 ≤ d) (hp : p ≤ n) (hP : ∀ q, q ≤ n → Pr n q (g q)) (hg : ∀ q, q ≤ n → ySpec X sw n b mY_sum d o q (g q)) : ySpec X sw n b mY_compared (d + 1) o p (if (g p).1 = true then lp n b 2 g 1 (g p).2.1 (g p).2.2 else (false, (g p).2.1, [])) := by
  intro A m Q hT hA h
  have hn := hT.2.1
  have hA0 : 0 ≤ A ∧ A ≤ p := hA.2.2.2.2.2
  refine wY_compared hd _ _ _ (hg p hp A m _ hT hA (fun m2 hX => ?_))
  have hT2 := hT.fr hX.1
  obtain ⟨g1, g2, g3⟩ := hP p hp
  have hb := ny_b (n := n) (b := b) (p := (g p).2.1)
  have hxy := ny_nx (p := (g p).2.1) hT
  rcases hX.2 with ⟨x1, x2, x3, x4, x5⟩ | ⟨x1, x2⟩
  · rw [if_pos x1] at h
    obtain ⟨g4, g5, g6, g7⟩ := g3 x1
    have x2' := x2
    obtain ⟨y1, y2, y3, y4, y5, y6, y7⟩ := x2'
    refine eY_looksOn hT2 y1 y2 ?_
    rw [y3, w32_id (z := ny n b (g p).2.1) (by omega) (by omega)]
    unfold lp at h
    have none : sg 2 (nx n b (g p).2.1) = 0 → Q 0 sw m2 := by
      intro q
      rw [if_pos q] at h
      exact h m2 ⟨hX.1, Or.inl ⟨rfl, x2, x3, x4, x5⟩⟩
    have some : ∀ ch, nx n b (g p).2.1 = ch → ¬ sg 2 ch = 0 → am (sg 2 ch) = ch → M2 X d mY_sum [vr 84] sw (upm m2 84 17 (m2 84 17 + 1)) (fun z3 sw3 m3 => M2 X 1 mY_addStep [vr 84, vi ch, vi 0] sw3 m3 (fun z4 sw4 m4 => Q 0 sw4 m4)) := by
      intro ch e q q2
      have c1 : ¬ sg 2 (nx n b (g p).2.1) = 0 := by rw [e]; exact q
      have hlt : (g p).2.1 < n := nx_lt (n := n) (b := b) (p := (g p).2.1) (by
        by_cases q : nx n b (g p).2.1 < 33
        · exact absurd (sg_end q) c1
        · omega)
      have := lY_one (X := X) (sw := sw) (b := b) (L := 2) (K := fun sw4 m4 => Q 0 sw4 m4) (hP ((g p).2.1 + 1) hlt) (hg _ hlt) hT hA0 (g p).2.2 m2 hlt g4 g5 hX.1 x2 x3 x4 x5 c1 (fun m' hh => h m' ?_)
      · rw [e, q2] at this
        exact this
      · rw [if_neg c1]
        by_cases c3 : (g ((g p).2.1 + 1)).1 = true
        · rw [if_pos c3] at hh ⊢
          exact hh
        · rw [if_neg c3] at hh ⊢
          exact hh
    refine ⟨fun q => absurd q (by decide), fun _ => ⟨fun c => ?_, fun c => ⟨fun c2 => ?_, fun c2 => ⟨fun c3 => ?_, fun c3 => none ?_⟩⟩⟩⟩
    · rw [c]; exact some 60 (by omega) (by decide) (by decide)
    · rw [c2]; exact some 61 (by omega) (by decide) (by decide)
    · rw [c3]; exact some 62 (by omega) (by decide) (by decide)
    · rw [sg2, if_neg (by omega), if_neg (by omega), if_neg (by omega)]
  · rw [if_neg x1] at h
    have x2' := x2
    obtain ⟨y1, y2, y3, y4, y5⟩ := x2'
    refine eY_looksOn hT2 y1 y2 ?_
    rw [y3, w32_id (z := ((g p).2.1 : Int)) (by omega) (by omega)]
    exact ⟨fun _ => h m2 (YP.bad hX.1 x2), fun q => by omega⟩
/-- a level with a loop: from its first operand on -/
theorem lY_lev {L : Nat} {M Mn : Md} {d : Nat} {o : Int} {p : Nat} {g : Nat → Rs} {R : Bool → Mem → (Int → Bool → Mem → Prop) → Prop} (hM : ∀ m Q, M2 X d Mn [vr 84] sw m (fun z1 sw1 m1 => R sw1 m1 Q) → M2 X (d + 1) M [vr 84] sw m Q) (hR : yLp X sw n b L Mn d R) (hp : p ≤ n) (hP : ∀ q, q ≤ n → Pr n q (g q)) (hg : ∀ q, q ≤ n → ySpec X sw n b Mn d o q (g q)) : ySpec X sw n b M (d + 1) o p (if (g p).1 = true then lp n b L g 120 (g p).2.1 (g p).2.2 else (false, (g p).2.1, [])) := by
  intro A m Q hT hA h
  have hn := hT.2.1
  have hA0 : 0 ≤ A ∧ A ≤ p := hA.2.2.2.2.2
  refine hM m Q (hg p hp A m _ hT hA (fun m2 hX => ?_))
  have hT2 := hT.fr hX.1
  obtain ⟨g1, g2, g3⟩ := hP p hp
  rcases hX.2 with ⟨x1, x2, x3, x4, x5⟩ | ⟨x1, x2⟩
  · rw [if_pos x1] at h
    obtain ⟨g4, g5, g6, g7⟩ := g3 x1
    exact lY_loop hR hP hg hT hA0 120 (g p).2.1 (g p).2.2 m2 (by omega) g4 g5 hX.1 x2 x3 x4 x5 h
  · rw [if_neg x1] at h
    have x2' := x2
    obtain ⟨y1, y2, y3, y4, y5⟩ := x2'
    exact hR (g p).2.1 m2 Q hT2 y1 y2 (Or.inr ⟨by omega, by omega⟩) (fun _ => h m2 (YP.bad hX.1 x2)) (fun q => by omega) (fun q => by omega)
end YS
