/-! texts: the model's reader, the whole of it -/
section YT
variable {X : Cx} {sw : Bool} {n : Nat} {b : Nat → Int}
theorem ex_lev (f L o p : Nat) (h : L < 5) : ex n b (f + 1) L o p = (if (ex n b f (L + 1) o p).1 = true then lp n b L (fun q => ex n b f (L + 1) o q) (if L = 2 then 1 else 120) (ex n b f (L + 1) o p).2.1 (ex n b f (L + 1) o p).2.2 else (false, (ex n b f (L + 1) o p).2.1, [])) := by
  show (if L < 5 then _ else _) = _
  rw [if_pos h]
theorem ex_par (f o p : Nat) (h : nx n b p = 40) : ex n b (f + 1) 5 o p = (if 6 ≤ o then (false, p, []) else if (ex n b f 0 (o + 1) (p + 1)).1 = true then (if nx n b (ex n b f 0 (o + 1) (p + 1)).2.1 = 41 then (true, (ex n b f 0 (o + 1) (p + 1)).2.1 + 1, (ex n b f 0 (o + 1) (p + 1)).2.2) else (false, (ex n b f 0 (o + 1) (p + 1)).2.1, [])) else (false, (ex n b f 0 (o + 1) (p + 1)).2.1, [])) := by
  show (if 5 < 5 then _ else if nx n b p = 40 then _ else _) = _
  rw [if_neg (by decide), if_pos h]
theorem ex_una (f o p : Nat) (h : nx n b p = 33 ∨ nx n b p = 45) : ex n b (f + 1) 5 o p = (if 6 ≤ o then (false, p, []) else if (ex n b f 5 (o + 1) (p + 1)).1 = true then (true, (ex n b f 5 (o + 1) (p + 1)).2.1, (ex n b f 5 (o + 1) (p + 1)).2.2 ++ [if nx n b p = 33 then -11 else -12]) else (false, (ex n b f 5 (o + 1) (p + 1)).2.1, [])) := by
  show (if 5 < 5 then _ else if nx n b p = 40 then _ else if nx n b p = 33 ∨ nx n b p = 45 then _ else _) = _
  rw [if_neg (by decide), if_neg (by omega), if_pos h]
theorem ex_opr (f o p : Nat) (h1 : ¬ nx n b p = 40) (h2 : ¬ (nx n b p = 33 ∨ nx n b p = 45)) : ex n b (f + 1) 5 o p = opr n b p := by
  show (if 5 < 5 then _ else if nx n b p = 40 then _ else if nx n b p = 33 ∨ nx n b p = 45 then _ else _) = _
  rw [if_neg (by decide), if_neg h1, if_neg h2]
theorem lY_opr {d o : Nat} {p f : Nat} (hd : 2 ≤ d) (ho : o ≤ 6) (hp : p ≤ n) (h1 : o < 6 → ∀ q, q ≤ n → ySpec X sw n b mY_either d ((o + 1 : Nat) : Int) q (ex n b f 0 (o + 1) q) ∧ ySpec X sw n b mY_operand d ((o + 1 : Nat) : Int) q (ex n b f 5 (o + 1) q)) : ySpec X sw n b mY_operand (d + 1) o p (ex n b (f + 1) 5 o p) := by
  intro A m Q hT hA h
  have hA' := hA
  obtain ⟨a1, a2, a3, a4, a5, a6, a7⟩ := hA'
  have hn := hT.2.1
  have hb := ny_b (n := n) (b := b) (p := p)
  have hxy := ny_nx (p := p) hT
  have hnm := nm_b (nx n b p)
  refine wY_operand hd _ _ _ (eY_looksOn hT a1 a2 (eY_nameOf (w32_id (by omega) (by omega)) ?_))
  rw [nm_ny hT, w32_id (z := nm (nx n b p)) (by omega) (by omega), w32_id (z := ny n b p) (by omega) (by omega)]
  -- it can't open
  have shut : (nx n b p = 40 ∨ nx n b p = 33 ∨ nx n b p = 45) → 6 ≤ o → Q 0 sw (upm m 84 18 (m 84 17)) := by
    intro hz h6
    have e : ex n b (f + 1) 5 o p = (false, p, []) := by
      by_cases c : nx n b p = 40
      · rw [ex_par f o p c, if_pos h6]
      · rw [ex_una f o p (by omega), if_pos h6]
    rw [e] at h
    refine h _ (YP.bad (FrY.up (by omega)) ⟨?_, a2, ?_, ?_, ?_⟩)
    · rw [upm_at, if_neg (by omega)]; exact a1
    · rw [upm_at, if_pos rfl]; exact a1
    · rw [upm_at, if_neg (by omega)]; omega
    · rw [upm_at, if_neg (by omega)]; omega
  -- opens
  have opn : ∀ K : Int → Bool → Mem → Prop, (6 ≤ o → K 0 sw (upm m 84 18 (m 84 17))) → (o < 6 → K 1 sw (upm (upm m 84 19 (m 84 19 + 1)) 84 17 (m 84 17 + 1))) → M2 X 2 mY_opens [vr 84] sw m K := by
    intro K k1 k2
    refine wY_opens _ _ _ ?_
    have e17 : upm m 84 19 (m 84 19 + 1) 84 17 = m 84 17 := by rw [upm_at, if_neg (by omega)]
    rw [a4, w32_id (z := (o : Int)) (by omega) (by omega)]
    refine ⟨fun c => ?_, fun c => eY_wrong (p := p) a3 (k1 (by omega))⟩
    have := k2 (by omega)
    rw [a4] at this
    exact this
  have hF1 : FrY m (upm (upm m 84 19 (m 84 19 + 1)) 84 17 (m 84 17 + 1)) := (FrY.up (by omega)).tr (FrY.up (by omega))
  have hT1 := hT.fr hF1
  have hA1 : p < n → yA n (p + 1) ((o + 1 : Nat) : Int) A (upm (upm m 84 19 (m 84 19 + 1)) 84 17 (m 84 17 + 1)) := by
    intro hlt
    refine ⟨?_, hlt, ?_, ?_, ?_, a6, by omega⟩
    · rw [upm_at, if_pos rfl, a1]; rfl
    · rw [upm_at, if_neg (by omega), upm_at, if_neg (by omega)]; exact a3
    · rw [upm_at, if_neg (by omega), upm_at, if_pos rfl, a4]; rfl
    · rw [upm_at, if_neg (by omega), upm_at, if_neg (by omega)]; exact a5
  have hs1 : ∀ c k, ¬ c = 84 → upm (upm m 84 19 (m 84 19 + 1)) 84 17 (m 84 17 + 1) c k = m c k := fun c k q => by rw [upm_row q, upm_row q]
  -- ! and -
  have una : ∀ ch : Int, ny n b p = ch → (ch = 33 ∨ ch = 45) → M2 X 2 mY_opens [vr 84] sw m (fun z3 sw3 m3 => ((¬ w32 z3 = 0 → M2 X d mY_operand [vr 84] sw3 m3 (fun z4 sw4 m4 => ((¬ ch = 33 → M2 X 1 mY_addStep [vr 84, vi 4, vi 0] sw4 (upm m4 84 19 ((m4 84 19) - 1)) (fun z5 sw5 m5 => Q 0 sw5 m5)) ∧ (¬ (¬ ch = 33) → M2 X 1 mY_addStep [vr 84, vi 3, vi 0] sw4 (upm m4 84 19 ((m4 84 19) - 1)) (fun z6 sw6 m6 => Q 0 sw6 m6))))) ∧ (¬ (¬ w32 z3 = 0) → Q 0 sw3 m3))) := by
    intro ch hch hc
    have ez : nx n b p = ch := by omega
    have hz : nx n b p = 33 ∨ nx n b p = 45 := by omega
    have hlt := nx_lt (n := n) (b := b) (p := p) (by omega)
    refine opn _ (fun h6 => ⟨fun q => absurd (by decide) q, fun _ => shut (by omega) h6⟩) (fun h6 => ⟨fun _ => ?_, fun q => absurd (by decide) q⟩)
    rw [ex_una f o p hz, if_neg (Nat.not_le.mpr h6), ez] at h
    refine (h1 h6 (p + 1) hlt).2 A _ _ hT1 (hA1 hlt) (fun m2 hX => ?_)
    have hP := exP (n := n) (b := b) f 5 (o + 1) (p + 1) (Nat.le_refl 5) h6 hlt
    generalize ex n b f 5 (o + 1) (p + 1) = r at h hX hP
    obtain ⟨g1, g2, g3⟩ := hP
    have hF2 := hF1.tr hX.1
    have hF3 : FrY m (upm m2 84 19 (m2 84 19 - 1)) := hF2.tr (FrY.up (by omega))
    have fin : ∀ t : Int, t = (if ch = 33 then -11 else -12) → M2 X 1 mY_addStep [vr 84, vi (am t), vi 0] sw (upm m2 84 19 (m2 84 19 - 1)) (fun z5 sw5 m5 => Q 0 sw5 m5) := by
      intro t ht
      rw [← ht] at h
      have htt : t = -11 ∨ t = -12 := by rw [ht]; split <;> omega
      have ha := am_b t
      have hw : wm t = 0 := by unfold wm; rw [if_neg (by omega), if_neg (by omega)]
      rcases hX.2 with ⟨x1, x2, x3, x4, x5⟩ | ⟨x1, x2⟩
      · rw [if_pos x1] at h
        obtain ⟨g4, g5, g6, g7⟩ := g3 x1
        obtain ⟨y1, y2, y3, y4, y5, y6, y7⟩ := x2
        refine eY_addStep (A := A + (r.2.2.length : Int)) (by rw [upm_at, if_neg (by omega)]; exact y5) (by omega) ha ?_
        obtain ⟨e1, e2, e3, e4, e5, e6⟩ := yst_at (m := upm m2 84 19 (m2 84 19 - 1)) (A := A + (r.2.2.length : Int)) (a := am t) (v := 0) (by omega)
        have hlen : (((r.2.2 ++ [t]).length : Nat) : Int) = (r.2.2.length : Int) + 1 := by rw [List.length_append]; rfl
        refine h _ ⟨hF3.tr e6, Or.inl ⟨rfl, ⟨?_, y2, ?_, ?_, by rw [hlen, e2]; omega, by rw [hlen]; omega, by rw [hlen]; show _ ≤ (r.2.1 : Int); omega⟩, fun k hk => ?_, ?_, ?_⟩⟩
        · rw [e1 17 (by omega), upm_at, if_neg (by omega)]; exact y1
        · rw [e1 18 (by omega), upm_at, if_neg (by omega)]; exact y3
        · rw [e1 19 (by omega), upm_at, if_pos rfl, y4]; omega
        · rw [(e5 k (by omega)).1, (e5 k (by omega)).2, upm_row (by omega), upm_row (by omega), (x3 k hk).1, (x3 k hk).2, hs1 97 k (by omega), hs1 98 k (by omega)]
          exact ⟨rfl, rfl⟩
        · rw [List.map_append, Sg.app, List.length_map, show 130 + A + (r.2.2.length : Int) = 130 + (A + (r.2.2.length : Int)) by omega]
          exact ⟨x4.fr (fun k k1 k2 => by rw [List.length_map] at k2; rw [(e5 k (by omega)).1, upm_row (by omega)]), e3, trivial⟩
        · rw [List.map_append, Sg.app, List.length_map, show 130 + A + (r.2.2.length : Int) = 130 + (A + (r.2.2.length : Int)) by omega]
          exact ⟨x5.fr (fun k k1 k2 => by rw [List.length_map] at k2; rw [(e5 k (by omega)).2, upm_row (by omega)]), e4.trans hw.symm, trivial⟩
      · rw [if_neg x1] at h
        obtain ⟨y1, y2, y3, y4, y5⟩ := x2
        refine eY_addStep (A := m2 84 20) (by rw [upm_at, if_neg (by omega)]) (by omega) ha ?_
        obtain ⟨e1, e2, e3, e4, e5, e6⟩ := yst_at (m := upm m2 84 19 (m2 84 19 - 1)) (A := m2 84 20) (a := am t) (v := 0) (by omega)
        refine h _ (YP.bad (hF3.tr e6) ⟨?_, y2, ?_, by rw [e2]; omega, by rw [e2]; omega⟩)
        · rw [e1 17 (by omega), upm_at, if_neg (by omega)]; exact y1
        · rw [e1 18 (by omega), upm_at, if_neg (by omega)]; exact y3
    refine ⟨fun q => ?_, fun q => ?_⟩
    · have := fin (-12) (by rw [if_neg q])
      rw [show am (-12) = 4 from by decide] at this
      exact this
    · have := fin (-11) (by rw [if_pos (Decidable.not_not.mp q)])
      rw [show am (-11) = 3 from by decide] at this
      exact this
  refine ⟨fun c => ⟨fun c1 => ?_, fun c1 => ⟨fun c2 => ⟨fun c3 => ?_, fun c3 => ?_⟩, fun c2 => ?_⟩⟩, fun c => ?_⟩
  · exact una _ rfl (Or.inl c1)
  · rw [ex_opr f o p (by omega) (by omega)] at h
    exact eY_figure hT hA (by omega) h
  · have c3 := Decidable.not_not.mp c3
    have hz : nx n b p = 40 := by omega
    have hlt := nx_lt (n := n) (b := b) (p := p) (by omega)
    refine opn _ (fun h6 => ⟨fun q => absurd (by decide) q, fun _ => shut (by omega) h6⟩) (fun h6 => ⟨fun _ => ?_, fun q => absurd (by decide) q⟩)
    rw [ex_par f o p hz, if_neg (Nat.not_le.mpr h6)] at h
    refine (h1 h6 (p + 1) hlt).1 A _ _ hT1 (hA1 hlt) (fun m2 hX => ?_)
    have hP := exP (n := n) (b := b) f 0 (o + 1) (p + 1) (Nat.zero_le 5) h6 hlt
    generalize ex n b f 0 (o + 1) (p + 1) = r at h hX hP
    obtain ⟨g1, g2, g3⟩ := hP
    have hF2 := hF1.tr hX.1
    rcases hX.2 with ⟨x1, x2, x3, x4, x5⟩ | ⟨x1, x2⟩
    · rw [if_pos x1] at h
      obtain ⟨g4, g5, g6, g7⟩ := g3 x1
      obtain ⟨y1, y2, y3, y4, y5, y6, y7⟩ := x2
      have hb2 := ny_b (n := n) (b := b) (p := r.2.1)
      have hxy2 := ny_nx (p := r.2.1) hT
      rw [y3]
      refine ⟨fun _ => eY_looksOn (hT.fr hF2) y1 y2 ?_, fun q => absurd (by decide) q⟩
      rw [w32_id (z := ny n b r.2.1) (by omega) (by omega)]
      refine ⟨fun c4 => ?_, fun c4 => eY_wrong (p := p) y3 ?_⟩
      · rw [if_pos (show nx n b r.2.1 = 41 by omega)] at h
        have hlt2 := nx_lt (n := n) (b := b) (p := r.2.1) (by omega)
        have e17 : upm m2 84 17 (m2 84 17 + 1) 84 19 = m2 84 19 := by rw [upm_at, if_neg (by omega)]
        refine h _ ⟨(hF2.tr (FrY.up (by omega))).tr (FrY.up (by omega)), Or.inl ⟨rfl, ⟨?_, hlt2, ?_, ?_, ?_, y6, by show _ ≤ ((r.2.1 + 1 : Nat) : Int); show A + (r.2.2.length : Int) ≤ ((r.2.1 + 1 : Nat) : Int); omega⟩, fun k hk => ?_, ?_, ?_⟩⟩
        · rw [upm_at, if_neg (by omega), upm_at, if_pos rfl, y1]; rfl
        · rw [upm_at, if_neg (by omega), upm_at, if_neg (by omega)]; exact y3
        · rw [upm_at, if_pos rfl, y4]; omega
        · rw [upm_at, if_neg (by omega), upm_at, if_neg (by omega)]; exact y5
        · rw [upm_row (by omega), upm_row (by omega), upm_row (by omega), upm_row (by omega), (x3 k hk).1, (x3 k hk).2, hs1 97 k (by omega), hs1 98 k (by omega)]
          exact ⟨rfl, rfl⟩
        · rw [upm_row (by omega), upm_row (by omega)]; exact x4
        · rw [upm_row (by omega), upm_row (by omega)]; exact x5
      · rw [if_neg (show ¬ nx n b r.2.1 = 41 by omega)] at h
        refine h _ (YP.bad (hF2.tr (FrY.up (by omega))) ⟨?_, g2, ?_, ?_, ?_⟩)
        · rw [upm_at, if_neg (by omega)]; exact y1
        · rw [upm_at, if_pos rfl]; exact y1
        · rw [upm_at, if_neg (by omega)]; omega
        · rw [upm_at, if_neg (by omega)]; omega
    · rw [if_neg x1] at h
      obtain ⟨y1, y2, y3, y4, y5⟩ := x2
      rw [y3, w32_id (z := (r.2.1 : Int)) (by omega) (by omega)]
      exact ⟨fun q => by omega, fun _ => h m2 (YP.bad hF2 ⟨y1, y2, y3, y4, by omega⟩)⟩
  · exact una _ rfl (Or.inr (Decidable.not_not.mp c2))
  · have hz := nm_end (c := nx n b p) (by omega)
    have hlt := nx_lt (n := n) (b := b) (p := p) hz
    have hn1 : ¬ nx n b p = 40 := fun q => c (by rw [q]; decide)
    have hn2 : ¬ (nx n b p = 33 ∨ nx n b p = 45) := fun q => c (by rcases q with q | q <;> rw [q] <;> decide)
    rw [ex_opr f o p hn1 hn2] at h
    unfold opr at h
    rw [if_pos (by omega)] at h
    refine eY_nameOf (w32_id (by omega) (by omega)) ?_
    rw [nm_ny hT]
    refine eY_addStep a5 (by omega) (by omega) ?_
    obtain ⟨e1, e2, e3, e4, e5, e6⟩ := yst_at (m := m) (A := A) (a := 2) (v := nm (nx n b p)) (by omega)
    refine h _ (YP.add (by omega) (e6.tr (FrY.up (by omega))) ?_ hlt ?_ ?_ ?_ (by omega) ?_ ?_ (fun k hk => ?_))
    · rw [upm_at, if_pos rfl, e1 17 (by omega), a1]; rfl
    · rw [upm_at, if_neg (by omega), e1 18 (by omega)]; exact a3
    · rw [upm_at, if_neg (by omega), e1 19 (by omega)]; exact a4
    · rw [upm_at, if_neg (by omega)]; exact e2
    · rw [upm_row (by omega), e3]; unfold am; rw [if_neg (by omega), if_pos (by omega)]
    · rw [upm_row (by omega), e4]; unfold wm; rw [if_neg (by omega), if_pos (by omega)]; omega
    · rw [upm_row (by omega), upm_row (by omega)]; exact e5 k hk
theorem lY_ex : ∀ (f L o p d : Nat), L ≤ 5 → o ≤ 6 → p ≤ n → 6 * (6 - o) + (6 - L) ≤ f → 6 * (6 - o) + (8 - L) ≤ d → ySpec X sw n b (mYL L) d o p (ex n b f L o p) := by
  intro f
  induction f with
  | zero => intro L o p d h1 h2 h3 h4; omega
  | succ f ih =>
    intro L o p d hL ho hp hf hd
    obtain ⟨d, rfl⟩ : ∃ d', d = d' + 1 := ⟨d - 1, by omega⟩
    have k1 : o < 6 → 6 * (6 - (o + 1)) + (6 - 0) ≤ f ∧ 6 * (6 - (o + 1)) + (6 - 5) ≤ f ∧ 6 * (6 - (o + 1)) + (8 - 0) ≤ d + (5 - L) ∧ 6 * (6 - (o + 1)) + (8 - 5) ≤ d := by omega
    by_cases h5 : L < 5
    · rw [ex_lev f L o p h5]
      have sp : ∀ q, q ≤ n → ySpec X sw n b (mYL (L + 1)) d o q (ex n b f (L + 1) o q) := fun q hq => ih (L + 1) o q d h5 ho hq (by omega) (by omega)
      have sP : ∀ q, q ≤ n → Pr n q (ex n b f (L + 1) o q) := fun q hq => exP f (L + 1) o q h5 ho hq
      have hd1 : 1 ≤ d := by omega
      have k5 : L = 0 ∨ L = 1 ∨ L = 2 ∨ L = 3 ∨ L = 4 := by omega
      rcases k5 with rfl | rfl | rfl | rfl | rfl
      · exact lY_lev (fun m Q hh => wY_either hd1 _ _ _ hh) (nl_either hd1) hp sP sp
      · exact lY_lev (fun m Q hh => wY_both hd1 _ _ _ hh) (nl_both hd1) hp sP sp
      · exact lY_cmp hd1 hp sP sp
      · exact lY_lev (fun m Q hh => wY_sum hd1 _ _ _ hh) (nl_sum hd1) hp sP sp
      · exact lY_lev (fun m Q hh => wY_product hd1 _ _ _ hh) (nl_product hd1) hp sP sp
    · have hL5 : L = 5 := by omega
      subst hL5
      refine lY_opr (by omega) ho hp (fun h6 q hq => ⟨?_, ?_⟩)
      · exact ih 0 (o + 1) q d (Nat.zero_le 5) h6 hq (k1 h6).1 (k1 h6).2.2.1
      · exact ih 5 (o + 1) q d (Nat.le_refl 5) h6 hq (k1 h6).2.1 (k1 h6).2.2.2
end YT
