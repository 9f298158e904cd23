/-! texts: the class's reader -/
section XR
variable {X : Cx} {sw : Bool} {n : Nat} {b : Nat → Int}
theorem emi_at {sw : Bool} {m : Mem} {D t : Int} : emi sw m D t 18 7 = m 18 7 ∧ emi sw m D t 18 8 = m 18 8 ∧ emi sw m D t 18 6 = D + 1 ∧ emi sw m D t (rdraft sw) D = t ∧ (∀ k, ¬ k = D → emi sw m D t (rdraft sw) k = m (rdraft sw) k) ∧ FrL sw m (emi sw m D t) := by
  have hb := rdr_b sw
  unfold emi
  refine ⟨?_, ?_, ?_, ?_, fun k hk => ?_, FrL.dr.tr (FrL.up (by omega))⟩
  · rw [upm_at, if_neg (by omega), upm_row (by omega)]
  · rw [upm_at, if_neg (by omega), upm_row (by omega)]
  · rw [upm_at, if_pos rfl]
  · rw [upm_row (by omega), upm_at, if_pos rfl]
  · rw [upm_row (by omega), upm_at, if_neg hk]
theorem dgs_c (c : Nat) (v : Int) (p : Nat) : dgs n b (c + 1) v p = if dgt (nx n b p) then dgs n b c (v * 10 + nx n b p - 48) (p + 1) else (v, p) := rfl
theorem lL_digits {Q : Int → Bool → Mem → Prop} {D : Int} {m : Mem} (hT : tT n b m) : ∀ (c : Nat) (v : Int) (p : Nat) (m1 : Mem), c ≤ 3 → FrL sw m m1 → tA n p D m1 → (∀ k, m1 (rdraft sw) k = m (rdraft sw) k) → (∀ m', FrL sw m m' → m' 18 7 = ((dgs n b c v p).2 : Int) → m' 18 8 = 0 → m' 18 6 = D + 1 → (∀ k, ¬ k = D → m' (rdraft sw) k = m (rdraft sw) k) → m' (rdraft sw) D = (dgs n b c v p).1 → Q 0 sw m') → R2 X 2 mL_readOperand 48 [(0, vr 18), (2, vi v), (3, vi (4 - (c : Int)))] [] sw m1 Q := by
  intro c
  induction c with
  | zero =>
    intro v p m1 hc hF hA hd h
    obtain ⟨a1, a2, a3, a4, a5, a6⟩ := hA
    have hn := hT.2.1
    refine wL_readOperand_48 _ _ _ _ _ ⟨fun _ => ⟨fun _ => eL_emit (D := D) a3 a4 (by omega) ?_, fun q => absurd (by decide) q⟩, fun q => absurd (by decide) q⟩
    obtain ⟨e1, e2, e3, e4, e5, e6⟩ := emi_at (sw := sw) (m := m1) (D := D) (t := v)
    exact h _ (hF.tr e6) (e1.trans a1) (e2.trans a3) e3 (fun k hk => (e5 k hk).trans (hd k)) e4
  | succ c ih =>
    intro v p m1 hc hF hA hd h
    have hA' := hA
    obtain ⟨a1, a2, a3, a4, a5, a6⟩ := hA'
    have hn := hT.2.1
    have hT1 := hT.fr hF
    have hnb := nx_b (p := p) hT1
    rw [dgs_c] at h
    refine wL_readOperand_48 _ _ _ _ _ ?_
    rw [w32_id (z := 4 - ((c + 1 : Nat) : Int)) (by omega) (by omega)]
    have emt : dgt (nx n b p) = False → M2 X 1 mL_emit [vr 18, vi v] sw m1 (fun z1 sw1 m1 => Q 0 sw1 m1) := by
      intro hq
      refine eL_emit (D := D) a3 a4 (by omega) ?_
      obtain ⟨e1, e2, e3, e4, e5, e6⟩ := emi_at (sw := sw) (m := m1) (D := D) (t := v)
      rw [if_neg (by rw [hq]; exact id)] at h
      exact h _ (hF.tr e6) (e1.trans a1) (e2.trans a3) e3 (fun k hk => (e5 k hk).trans (hd k)) e4
    refine ⟨fun q => by omega, fun _ => eL_next hT1 a1 a2 (Or.inl a3) (fun _ => ?_) (fun q => by omega)⟩
    rw [w32_id (z := nx n b p) (by omega) (by omega)]
    refine ⟨fun c1 => ⟨fun _ => emt (eq_false (by omega)), fun q => absurd (by omega) q⟩, fun c1 => eL_next hT1 a1 a2 (Or.inl a3) (fun _ => ?_) (fun q => by omega)⟩
    rw [w32_id (z := nx n b p) (by omega) (by omega)]
    refine ⟨fun c2 => ⟨fun _ => emt (eq_false (by omega)), fun q => absurd (by omega) q⟩, fun c2 => eL_next hT1 a1 a2 (Or.inl a3) (fun _ => ?_) (fun q => by omega)⟩
    have hlt := nx_lt (n := n) (b := b) (p := p) (by omega)
    rw [if_pos (show dgt (nx n b p) by omega)] at h
    rw [show (4 : Int) - ((c + 1 : Nat) : Int) + 1 = 4 - (c : Int) by omega]
    refine ih (v * 10 + nx n b p - 48) (p + 1) _ (by omega) (hF.tr (FrL.up (by omega))) ?_ (fun k => ?_) h
    · refine ⟨?_, by omega, ?_, ?_, by omega, by omega⟩
      · rw [upm_at, if_pos rfl, a1]; rfl
      · rw [upm_at, if_neg (by omega)]; exact a3
      · rw [upm_at, if_neg (by omega)]; exact a4
    · have hb := rdr_b sw
      rw [upm_row (by omega)]; exact hd k
theorem eL_readOperand {Q : Int → Bool → Mem → Prop} {D : Int} {m : Mem} {p : Nat} (hT : tT n b m) (hA : tA n p D m) (h : ∀ m', XP sw n b D m (opr n b p) m' → Q 0 sw m') : M2 X 2 mL_readOperand [vr 18, vi (nx n b p)] sw m Q := by
  have hA' := hA
  obtain ⟨a1, a2, a3, a4, a5, a6⟩ := hA'
  have hn := hT.2.1
  have hnb := nx_b (p := p) hT
  have hb := rdr_b sw
  refine lL_names (w32_id (by omega) (by omega)) (fun c => ?_) (fun c => ?_)
  · have hlt := nx_lt (n := n) (b := b) (p := p) (nm_end c)
    refine eL_emit (D := D) ?_ ?_ (by omega) ?_
    · rw [upm_at, if_neg (by omega)]; exact a3
    · rw [upm_at, if_neg (by omega)]; exact a4
    · obtain ⟨e1, e2, e3, e4, e5, e6⟩ := emi_at (sw := sw) (m := upm m 18 7 (m 18 7 + 1)) (D := D) (t := -20 - nm (nx n b p))
      refine h _ ⟨(FrL.up (by omega)).tr e6, Or.inl ?_⟩
      unfold opr
      rw [if_pos c]
      refine ⟨rfl, ⟨?_, by show p + 1 ≤ n; omega, ?_, e3, by show 0 ≤ D + 1; omega, by show D + 1 ≤ ((p + 1 : Nat) : Int); omega⟩, fun k hk => ?_, e4, trivial⟩
      · rw [e1, upm_at, if_pos rfl, a1]; rfl
      · rw [e2, upm_at, if_neg (by omega)]; exact a3
      · rw [e5 k (by omega), upm_row (by omega)]
  · -- a figure
    by_cases hd : dgt (nx n b p)
    · have hlt := nx_lt (n := n) (b := b) (p := p) (by omega)
      have hdg := dgs_b (n := n) (b := b) 4 0 p (by omega) a2
      have e4' : dgs n b 4 0 p = dgs n b 3 (0 * 10 + nx n b p - 48) (p + 1) := by rw [dgs_c]; rw [if_pos hd]
      refine wL_readOperand_48 _ _ _ _ _ ⟨fun q => absurd q (by decide), fun _ => eL_next hT a1 a2 (Or.inl a3) (fun _ => ?_) (fun q => by omega)⟩
      rw [w32_id (z := nx n b p) (by omega) (by omega)]
      refine ⟨fun c1 => by omega, fun c1 => eL_next hT a1 a2 (Or.inl a3) (fun _ => ?_) (fun q => by omega)⟩
      rw [w32_id (z := nx n b p) (by omega) (by omega)]
      refine ⟨fun c1 => by omega, fun c1 => eL_next hT a1 a2 (Or.inl a3) (fun _ => ?_) (fun q => by omega)⟩
      refine lL_digits (m := m) (D := D) hT 3 (0 * 10 + nx n b p - 48) (p + 1) _ (by omega) (FrL.up (by omega)) ?_ (fun k => ?_) (fun m' f1 f2 f3 f4 f5 f6 => h m' ⟨f1, ?_⟩)
      · refine ⟨?_, by omega, ?_, ?_, by omega, by omega⟩
        · rw [upm_at, if_pos rfl, a1]; rfl
        · rw [upm_at, if_neg (by omega)]; exact a3
        · rw [upm_at, if_neg (by omega)]; exact a4
      · rw [upm_row (by omega)]
      · rw [← e4'] at f2 f6
        have i5 := hdg.2.2.2.2 (by omega) hd
        unfold opr
        rw [if_neg (by omega), if_neg (fun q => q hd)]
        by_cases h3 : dgt (nx n b (dgs n b 4 0 p).2)
        · rw [if_pos h3]
          exact Or.inr ⟨fun q => Bool.false_ne_true q, f2, hdg.2.2.2.1, by omega, Or.inr ⟨f3, h3⟩⟩
        · rw [if_neg h3]
          exact Or.inl ⟨rfl, ⟨f2, hdg.2.2.2.1, f3, f4, by show 0 ≤ D + 1; omega, by show D + 1 ≤ ((dgs n b 4 0 p).2 : Int); omega⟩, fun k hk => f5 k (by omega), f6, trivial⟩
    · have bad : ∀ m', FrL sw m m' → m' 18 7 = m 18 7 → m' 18 6 = m 18 6 → m' 18 8 = 1 → Q 0 sw m' := by
        intro m' f1 f2 f3 f4
        refine h m' ⟨f1, Or.inr ?_⟩
        unfold opr
        rw [if_neg (by omega), if_pos hd]
        exact ⟨fun q => Bool.false_ne_true q, f2.trans a1, a2, by omega, Or.inl f4⟩
      have emB : M2 X 1 mL_emit [vr 18, vi 0] sw (upm m 18 8 1) (fun z1 sw1 m1 => Q 0 sw1 m1) := by
        refine wL_emit _ _ _ _ ?_
        rw [upm_at, if_pos rfl]
        refine ⟨fun _ => bad _ (FrL.up (by omega)) ?_ ?_ ?_, fun q => absurd (by decide) q⟩
        · rw [upm_at, if_neg (by omega)]
        · rw [upm_at, if_neg (by omega)]
        · rw [upm_at, if_pos rfl]
      refine wL_readOperand_48 _ _ _ _ _ ⟨fun q => absurd q (by decide), fun _ => eL_next hT a1 a2 (Or.inl a3) (fun _ => ?_) (fun q => by omega)⟩
      rw [w32_id (z := nx n b p) (by omega) (by omega)]
      refine ⟨fun c1 => ⟨fun q => absurd rfl q, fun _ => emB⟩, fun c1 => eL_next hT a1 a2 (Or.inl a3) (fun _ => ?_) (fun q => by omega)⟩
      rw [w32_id (z := nx n b p) (by omega) (by omega)]
      exact ⟨fun c1 => ⟨fun q => absurd rfl q, fun _ => emB⟩, fun c1 => by omega⟩
theorem lL_exprB {Q : Int → Bool → Mem → Prop} {m : Mem} {p d : Nat} {L o i : Int} (hd : 2 ≤ d) (hL : w32 L = L) (hi : w32 i = i) (hT : tT n b m) (hB : tB n b p m) (h : Q 0 sw m) : R2 X (d + 1) mL_expression 21 [(0, vr 18), (1, vi L), (2, vi o), (3, vi i)] [] sw m Q := by
  refine wL_expression_21 hd _ _ _ _ _ _ ⟨fun _ => h, fun _ => eL_signOfB hL hT hB ⟨fun _ => h, fun q => absurd (by decide) q⟩⟩
/-- one reader: from where it stands to what the pure one says -/
def eSpec (X : Cx) (sw : Bool) (n : Nat) (b : Nat → Int) (M : Md) (as : List AV) (d : Nat) (p : Nat) (r : Rs) : Prop :=
  ∀ (D : Int) (m : Mem) (Q : Int → Bool → Mem → Prop), tT n b m → tA n p D m → (∀ m', XP sw n b D m r m' → Q 0 sw m') → M2 X d M as sw m Q
theorem lL_loop {L o : Nat} {d : Nat} {g : Nat → Rs} (hL : L ≤ 4) (hd : 2 ≤ d) (hP : ∀ q, q ≤ n → Pr n q (g q)) (hg : ∀ q, q ≤ n → eSpec X sw n b mL_expression [vr 18, vi ((L : Int) + 1), vi o] d q (g q)) {Q : Int → Bool → Mem → Prop} {D : Int} {m : Mem} (hT : tT n b m) : ∀ (c p : Nat) (acc : List Int) (i : Int) (m1 : Mem), 0 ≤ i → i + c = (if L = 2 then 1 else 120) → FrL sw m m1 → tA n p (D + (acc.length : Int)) m1 → 0 ≤ D → (∀ k, k < D → m1 (rdraft sw) k = m (rdraft sw) k) → Sg (m1 (rdraft sw)) D acc → (∀ m', XP sw n b D m (lp n b L g c p acc) m' → Q 0 sw m') → R2 X (d + 1) mL_expression 21 [(0, vr 18), (1, vi L), (2, vi o), (3, vi i)] [] sw m1 Q := by
  intro c
  have eL : w32 (L : Int) = L := w32_id (by omega) (by omega)
  induction c with
  | zero =>
    intro p acc i m1 hi hic hF hA hD hs hS h
    have fin : Q 0 sw m1 := h m1 ⟨hF, Or.inl ⟨rfl, hA, hs, hS⟩⟩
    have hT1 := hT.fr hF
    refine wL_expression_21 hd _ _ _ _ _ _ ?_
    by_cases h2 : L = 2
    · rw [if_pos h2] at hic
      have ei : i = 1 := by omega
      rw [ei]
      refine ⟨fun q => fin, fun _ => eL_signOf eL hT1 hA ⟨fun _ => fin, fun _ => ⟨fun q => ?_, fun _ => ⟨fun q => absurd q (by decide), fun _ => fin⟩⟩⟩⟩
      rw [eL] at q; omega
    · rw [if_neg h2] at hic
      have ei : i = 120 := by omega
      rw [ei]
      exact ⟨fun _ => fin, fun q => absurd (by decide) q⟩
  | succ c ih =>
    intro p acc i m1 hi hic hF hA hD hs hS h
    have hic' : i + ((c + 1 : Nat) : Int) ≤ 120 := by
      rw [hic]; split <;> omega
    have hT1 := hT.fr hF
    have hA' := hA
    obtain ⟨a1, a2, a3, a4, a5, a6⟩ := hA'
    have hn := hT.2.1
    have hb := rdr_b sw
    have hsg := sg_b L (nx n b p)
    unfold lp at h
    refine wL_expression_21 hd _ _ _ _ _ _ ?_
    rw [w32_id (z := i) (by omega) (by omega), eL]
    refine ⟨fun q => by omega, fun _ => eL_signOf eL hT1 hA ?_⟩
    rw [w32_id (z := sg L (nx n b p)) (by omega) (by omega)]
    refine ⟨fun c1 => ?_, fun c1 => ?_⟩
    · rw [if_pos c1] at h
      exact h m1 ⟨hF, Or.inl ⟨rfl, hA, hs, hS⟩⟩
    · rw [if_neg c1] at h
      have hlt : p < n := nx_lt (n := n) (b := b) (p := p) (by
        by_cases q : nx n b p < 33
        · exact absurd (sg_end q) c1
        · omega)
      have nxt : M2 X d mL_expression [vr 18, vi ((L : Int) + 1), vi o] sw (upm m1 18 7 (m1 18 7 + 1)) (fun z2 sw2 m2 => M2 X 1 mL_emit [vr 18, vi (sg L (nx n b p))] sw2 m2 (fun z3 sw3 m3 => R2 X (d + 1) mL_expression 21 [(0, vr 18), (1, vi L), (2, vi o), (3, vi (i + 1))] [] sw3 m3 Q)) := by
        refine hg (p + 1) (by omega) (D + (acc.length : Int)) _ _ (hT1.fr (sw := sw) (FrL.up (by omega))) ⟨?_, by omega, ?_, ?_, a5, by omega⟩ (fun m2 hX => ?_)
        · rw [upm_at, if_pos rfl, a1]; rfl
        · rw [upm_at, if_neg (by omega)]; exact a3
        · rw [upm_at, if_neg (by omega)]; exact a4
        · obtain ⟨g1, g2, g3⟩ := hP (p + 1) (by omega)
          have hF2 : FrL sw m m2 := (hF.tr (FrL.up (by omega))).tr hX.1
          rcases hX.2 with ⟨x1, x2, x3, x4⟩ | ⟨x1, x2⟩
          · rw [if_pos x1] at h
            obtain ⟨g4, g5, g6, g7⟩ := g3 x1
            refine eL_emit (D := D + (acc.length : Int) + ((g (p + 1)).2.2.length : Int)) x2.2.2.1 x2.2.2.2.1 (by omega) ?_
            obtain ⟨e1, e2, e3, e4, e5, e6⟩ := emi_at (sw := sw) (m := m2) (D := D + (acc.length : Int) + ((g (p + 1)).2.2.length : Int)) (t := sg L (nx n b p))
            have hlen : (((acc ++ (g (p + 1)).2.2 ++ [sg L (nx n b p)]).length : Nat) : Int) = (acc.length : Int) + ((g (p + 1)).2.2.length : Int) + 1 := by
              rw [List.length_append, List.length_append]
              show ((acc.length + (g (p + 1)).2.2.length + 1 : Nat) : Int) = _
              omega
            refine ih (g (p + 1)).2.1 (acc ++ (g (p + 1)).2.2 ++ [sg L (nx n b p)]) (i + 1) _ (by omega) (by omega) (hF2.tr e6) ⟨e1.trans x2.1, g2, e2.trans x2.2.2.1, by rw [hlen, e3]; omega, by omega, by omega⟩ hD (fun k hk => ?_) ?_ h
            · rw [e5 k (by omega), x3 k (by omega), upm_row (by omega)]
              exact hs k hk
            · rw [Sg.app, Sg.app]
              refine ⟨⟨hS.fr (fun k k1 k2 => ?_), x4.fr (fun k k1 k2 => ?_)⟩, ?_, trivial⟩
              · rw [e5 k (by omega), x3 k (by omega), upm_row (by omega)]
              · rw [e5 k (by omega)]
              · have e : D + (((acc ++ (g (p + 1)).2.2).length : Nat) : Int) = D + (acc.length : Int) + ((g (p + 1)).2.2.length : Int) := by
                  rw [List.length_append]
                  omega
                rw [e]
                exact e4
          · rw [if_neg x1] at h
            refine eL_emitB x2 hF2 (fun m3 hF3 hB3 => lL_exprB hd eL (w32_id (by omega) (by omega)) (hT.fr hF3) hB3 (h m3 ⟨hF3, Or.inr ⟨fun q => Bool.false_ne_true q, hB3⟩⟩))
      refine ⟨fun _ => nxt, fun q => ⟨fun _ => nxt, fun q2 => ?_⟩⟩
      have hL2 : L = 2 := by omega
      rw [if_pos hL2] at hic
      omega
theorem lL_ex : ∀ f : Nat, (∀ (L o p d : Nat), L ≤ 5 → o ≤ 6 → p ≤ n → 6 * (6 - o) + (6 - L) ≤ f → 9 - L + 7 * (6 - o) ≤ d → eSpec X sw n b mL_expression [vr 18, vi L, vi o] d p (ex n b f L o p)) ∧ (∀ (o p d : Nat), o ≤ 6 → p ≤ n → 6 * (6 - o) + 1 ≤ f → 3 + 7 * (6 - o) ≤ d → eSpec X sw n b mL_single [vr 18, vi o] d p (ex n b f 5 o p)) := by
  intro f
  induction f with
  | zero => exact ⟨fun L o p d h1 h2 _ h3 => by omega, fun o p d h1 _ h2 => by omega⟩
  | succ f ih =>
    have sgl : ∀ (o p d : Nat), o ≤ 6 → p ≤ n → 6 * (6 - o) + 1 ≤ f + 1 → 3 + 7 * (6 - o) ≤ d → eSpec X sw n b mL_single [vr 18, vi o] d p (ex n b (f + 1) 5 o p) := by
      intro o p d ho hp hf hd D m Q hT hA h
      obtain ⟨d, rfl⟩ : ∃ d', d = d' + 1 := ⟨d - 1, by omega⟩
      have k1 : o < 6 → 6 * (6 - (o + 1)) + (6 - 0) ≤ f ∧ 9 - 0 + 7 * (6 - (o + 1)) ≤ d ∧ o + 1 ≤ 6 ∧ 6 * (6 - (o + 1)) + 1 ≤ f ∧ 3 + 7 * (6 - (o + 1)) ≤ d := by omega
      have k2 : 2 ≤ d := by omega
      have hA' := hA
      obtain ⟨a1, a2, a3, a4, a5, a6⟩ := hA'
      have hn := hT.2.1
      have hb := rdr_b sw
      have hnb := nx_b (p := p) hT
      clear hf hd
      have e5 : ex n b (f + 1) 5 o p = (if nx n b p = 40 then (if 6 ≤ o then (false, p, []) else if (ex n b f 0 (o + 1) (p + 1)).1 = true then (if nx n b (ex n b f 0 (o + 1) (p + 1)).2.1 = 41 then (true, (ex n b f 0 (o + 1) (p + 1)).2.1 + 1, (ex n b f 0 (o + 1) (p + 1)).2.2) else (false, (ex n b f 0 (o + 1) (p + 1)).2.1, [])) else (false, (ex n b f 0 (o + 1) (p + 1)).2.1, []))
    else if nx n b p = 33 ∨ nx n b p = 45 then (if 6 ≤ o then (false, p, []) else if (ex n b f 5 (o + 1) (p + 1)).1 = true then (true, (ex n b f 5 (o + 1) (p + 1)).2.1, (ex n b f 5 (o + 1) (p + 1)).2.2 ++ [if nx n b p = 33 then -11 else -12]) else (false, (ex n b f 5 (o + 1) (p + 1)).2.1, []))
    else opr n b p) := rfl
      rw [e5] at h
      have hT1 : tT n b (upm m 18 7 (m 18 7 + 1)) := hT.fr (sw := sw) (FrL.up (by omega))
      have hA1 : p < n → tA n (p + 1) D (upm m 18 7 (m 18 7 + 1)) := by
        intro hlt
        refine ⟨?_, by omega, ?_, ?_, a5, by omega⟩
        · rw [upm_at, if_pos rfl, a1]; rfl
        · rw [upm_at, if_neg (by omega)]; exact a3
        · rw [upm_at, if_neg (by omega)]; exact a4
      have hs1 : ∀ k, upm m 18 7 (m 18 7 + 1) (rdraft sw) k = m (rdraft sw) k := fun k => by rw [upm_row (by omega)]
      -- too many open
      have shut : 6 ≤ o → (nx n b p = 40 ∨ nx n b p = 33 ∨ nx n b p = 45) → Q 0 sw (upm m 18 8 1) := by
        intro h6 hz
        refine h _ ⟨FrL.up (by omega), Or.inr ?_⟩
        have : (if nx n b p = 40 then (if 6 ≤ o then (false, p, []) else if (ex n b f 0 (o + 1) (p + 1)).1 = true then (if nx n b (ex n b f 0 (o + 1) (p + 1)).2.1 = 41 then (true, (ex n b f 0 (o + 1) (p + 1)).2.1 + 1, (ex n b f 0 (o + 1) (p + 1)).2.2) else (false, (ex n b f 0 (o + 1) (p + 1)).2.1, [])) else (false, (ex n b f 0 (o + 1) (p + 1)).2.1, []))
    else if nx n b p = 33 ∨ nx n b p = 45 then (if 6 ≤ o then (false, p, []) else if (ex n b f 5 (o + 1) (p + 1)).1 = true then (true, (ex n b f 5 (o + 1) (p + 1)).2.1, (ex n b f 5 (o + 1) (p + 1)).2.2 ++ [if nx n b p = 33 then -11 else -12]) else (false, (ex n b f 5 (o + 1) (p + 1)).2.1, []))
    else opr n b p) = ((false, p, []) : Rs) := by
          by_cases q : nx n b p = 40
          · rw [if_pos q, if_pos h6]
          · rw [if_neg q, if_pos (show nx n b p = 33 ∨ nx n b p = 45 by omega), if_pos h6]
        rw [this]
        refine ⟨Bool.false_ne_true, ?_, a2, ?_, Or.inl ?_⟩
        · rw [upm_at, if_neg (by omega)]; exact a1
        · rw [upm_at, if_neg (by omega)]; omega
        · rw [upm_at, if_pos rfl]
      -- ( ... )
      have par : nx n b p = 40 → o < 6 → M2 X d mL_expression [vr 18, vi 0, vi ((o : Int) + 1)] sw (upm m 18 7 (m 18 7 + 1)) (fun z5 sw5 m5 => M2 X 2 mL_accept [vr 18, vi 41] sw5 m5 (fun z6 sw6 m6 => Q 0 sw6 m6)) := by
        intro hz ho6
        have hlt := nx_lt (n := n) (b := b) (p := p) (by omega)
        rw [if_pos hz, if_neg (Nat.not_le.mpr ho6)] at h
        have := ih.1 0 (o + 1) (p + 1) d (Nat.zero_le 5) (k1 ho6).2.2.1 hlt (k1 ho6).1 (k1 ho6).2.1
        refine this D _ _ hT1 (hA1 hlt) (fun m2 hX => ?_)
        have hF2 : FrL sw m m2 := (FrL.up (by omega)).tr hX.1
        have hT2 := hT.fr hF2
        have hP := exP (n := n) (b := b) f 0 (o + 1) (p + 1) (Nat.zero_le 5) (k1 ho6).2.2.1 hlt
        generalize ex n b f 0 (o + 1) (p + 1) = r at h hX hP
        obtain ⟨g1, g2, g3⟩ := hP
        rcases hX.2 with ⟨x1, x2, x3, x4⟩ | ⟨x1, x2⟩
        · rw [if_pos x1] at h
          obtain ⟨g4, g5, g6, g7⟩ := g3 x1
          obtain ⟨y1, y2, y3, y4, y5, y6⟩ := x2
          have hnb2 := nx_b (p := r.2.1) hT2
          refine wL_accept _ _ _ _ (eL_next hT2 y1 y2 (Or.inl y3) (fun _ => ?_) (fun q => by omega))
          rw [w32_id (z := nx n b r.2.1) (by omega) (by omega), show w32 41 = 41 from by decide]
          refine ⟨fun c => ?_, fun c => ?_⟩
          · rw [if_neg c] at h
            refine h _ ⟨hF2.tr (FrL.up (by omega)), Or.inr ⟨Bool.false_ne_true, ?_, g2, ?_, Or.inl ?_⟩⟩
            · rw [upm_at, if_neg (by omega)]; exact y1
            · rw [upm_at, if_neg (by omega)]; omega
            · rw [upm_at, if_pos rfl]
          · rw [if_pos (Decidable.not_not.mp c)] at h
            have hlt2 := nx_lt (n := n) (b := b) (p := r.2.1) (by omega)
            refine h _ ⟨hF2.tr (FrL.up (by omega)), Or.inl ⟨rfl, ⟨?_, hlt2, ?_, ?_, y5, ?_⟩, fun k hk => ?_, ?_⟩⟩
            · rw [upm_at, if_pos rfl, y1]; rfl
            · rw [upm_at, if_neg (by omega)]; exact y3
            · rw [upm_at, if_neg (by omega)]; exact y4
            · show D + (r.2.2.length : Int) ≤ ((r.2.1 + 1 : Nat) : Int); omega
            · rw [upm_row (by omega), x3 k hk]; exact hs1 k
            · rw [upm_row (by omega)]; exact x4
        · rw [if_neg x1] at h
          exact eL_acceptB (by decide) (by omega) hT2 x2 hF2 (fun m3 hF3 hB3 _ => h m3 ⟨hF3, Or.inr ⟨Bool.false_ne_true, hB3⟩⟩)
      -- ! and -
      have una : ∀ t : Int, nx n b p = 33 ∨ nx n b p = 45 → o < 6 → t = (if nx n b p = 33 then -11 else -12) → M2 X d mL_single [vr 18, vi ((o : Int) + 1)] sw (upm m 18 7 (m 18 7 + 1)) (fun z5 sw5 m5 => M2 X 1 mL_emit [vr 18, vi t] sw5 m5 (fun z6 sw6 m6 => Q 0 sw6 m6)) := by
        intro t hz ho6 ht
        have hlt := nx_lt (n := n) (b := b) (p := p) (by omega)
        rw [if_neg (by omega), if_pos hz, if_neg (Nat.not_le.mpr ho6), ← ht] at h
        have := ih.2 (o + 1) (p + 1) d (k1 ho6).2.2.1 hlt (k1 ho6).2.2.2.1 (k1 ho6).2.2.2.2
        refine this D _ _ hT1 (hA1 hlt) (fun m2 hX => ?_)
        have hF2 : FrL sw m m2 := (FrL.up (by omega)).tr hX.1
        have hP := exP (n := n) (b := b) f 5 (o + 1) (p + 1) (Nat.le_refl 5) (k1 ho6).2.2.1 hlt
        generalize ex n b f 5 (o + 1) (p + 1) = r at h hX hP
        obtain ⟨g1, g2, g3⟩ := hP
        rcases hX.2 with ⟨x1, x2, x3, x4⟩ | ⟨x1, x2⟩
        · rw [if_pos x1] at h
          obtain ⟨g4, g5, g6, g7⟩ := g3 x1
          obtain ⟨y1, y2, y3, y4, y5, y6⟩ := x2
          refine eL_emit y3 y4 (by omega) ?_
          obtain ⟨e1, e2, e3, e4, e5, e6⟩ := emi_at (sw := sw) (m := m2) (D := D + (r.2.2.length : Int)) (t := t)
          have hlen : (((r.2.2 ++ [t]).length : Nat) : Int) = (r.2.2.length : Int) + 1 := by
            rw [List.length_append]; rfl
          refine h _ ⟨hF2.tr e6, Or.inl ⟨rfl, ⟨e1.trans y1, y2, e2.trans y3, by rw [e3, hlen]; omega, by rw [hlen]; omega, by rw [hlen]; show _ ≤ (r.2.1 : Int); omega⟩, fun k hk => ?_, ?_⟩⟩
          · rw [e5 k (by omega), x3 k hk]; exact hs1 k
          · rw [Sg.app]
            exact ⟨x4.fr (fun k k1 k2 => by rw [e5 k (by omega)]), e4, trivial⟩
        · rw [if_neg x1] at h
          exact eL_emitB x2 hF2 (fun m3 hF3 hB3 => h m3 ⟨hF3, Or.inr ⟨Bool.false_ne_true, hB3⟩⟩)
      refine wL_single k2 _ _ _ _ (eL_next hT a1 a2 (Or.inl a3) (fun _ => ?_) (fun q => by omega))
      rw [w32_id (z := nx n b p) (by omega) (by omega), w32_id (z := (o : Int)) (by omega) (by omega)]
      refine ⟨fun c => ⟨fun c2 => ⟨fun q => absurd c q, fun _ => par c (by omega)⟩, fun c2 => shut (by omega) (by omega)⟩, fun c => ⟨fun c1 => ⟨fun c2 => ⟨fun _ => ?_, fun q => absurd c q⟩, fun c2 => shut (by omega) (by omega)⟩, fun c1 => ⟨fun c3 => ?_, fun c3 => ⟨fun c2 => ⟨fun _ => ?_, fun q => absurd c q⟩, fun c2 => shut (by omega) (by omega)⟩⟩⟩⟩
      · have e : ∀ z2 sw2 m2, M2 X 1 mL_emit [vr 18, vi (-11)] sw2 m2 (fun z4 sw4 m4 => Q 0 sw4 m4) → ((¬ nx n b p = 33 → M2 X 1 mL_emit [vr 18, vi (-12)] sw2 m2 (fun z3 sw3 m3 => Q 0 sw3 m3)) ∧ (¬ (¬ nx n b p = 33) → M2 X 1 mL_emit [vr 18, vi (-11)] sw2 m2 (fun z4 sw4 m4 => Q 0 sw4 m4))) := fun (z2 : Int) sw2 m2 hh => ⟨fun q => absurd c1 q, fun _ => hh⟩
        exact M2.mono (una (-11) (Or.inl c1) (by omega) (by rw [if_pos c1])) e
      · refine eL_readOperand hT hA (fun m' hX => ?_)
        rw [if_neg c, if_neg (by omega)] at h
        exact h m' hX
      · have c3 := Decidable.not_not.mp c3
        have e : ∀ z2 sw2 m2, M2 X 1 mL_emit [vr 18, vi (-12)] sw2 m2 (fun z4 sw4 m4 => Q 0 sw4 m4) → ((¬ nx n b p = 33 → M2 X 1 mL_emit [vr 18, vi (-12)] sw2 m2 (fun z3 sw3 m3 => Q 0 sw3 m3)) ∧ (¬ (¬ nx n b p = 33) → M2 X 1 mL_emit [vr 18, vi (-11)] sw2 m2 (fun z4 sw4 m4 => Q 0 sw4 m4))) := fun (z2 : Int) sw2 m2 hh => ⟨fun _ => hh, fun q => absurd c1 q⟩
        exact M2.mono (una (-12) (Or.inr c3) (by omega) (by rw [if_neg c1])) e
    refine ⟨fun L o p d hL ho hp hf hd => ?_, sgl⟩
    by_cases h5 : L < 5
    · intro D m Q hT hA h
      have hn := hT.2.1
      obtain ⟨d, rfl⟩ : ∃ d', d = d' + 1 := ⟨d - 1, by omega⟩
      have eL : w32 (L : Int) = L := w32_id (by omega) (by omega)
      have e5 : ex n b (f + 1) L o p = (if L < 5 then (if (ex n b f (L + 1) o p).1 = true then lp n b L (fun q => ex n b f (L + 1) o q) (if L = 2 then 1 else 120) (ex n b f (L + 1) o p).2.1 (ex n b f (L + 1) o p).2.2 else (false, (ex n b f (L + 1) o p).2.1, [])) else ex n b (f + 1) L o p) := by
        rw [if_pos h5]
        show (if L < 5 then _ else _) = _
        rw [if_pos h5]
      rw [e5, if_pos h5] at h
      have sp : ∀ q, q ≤ n → eSpec X sw n b mL_expression [vr 18, vi ((L : Int) + 1), vi o] d q (ex n b f (L + 1) o q) := fun q hq => ih.1 (L + 1) o q d (by omega) ho hq (by omega) (by omega)
      refine wL_expression (by omega) _ _ _ _ _ ?_
      rw [eL]
      refine ⟨fun _ => sp p hp D m _ hT hA (fun m2 hX => ?_), fun q => by omega⟩
      rcases hX.2 with ⟨x1, x2, x3, x4⟩ | ⟨x1, x2⟩
      · rw [if_pos x1] at h
        exact lL_loop (by omega) (by omega) (fun q hq => exP f (L + 1) o q (by omega) ho hq) sp hT _ _ _ 0 m2 (by omega) (by split <;> rfl) hX.1 x2 hA.2.2.2.2.1 x3 x4 h
      · rw [if_neg x1] at h
        exact lL_exprB (by omega) eL (by decide) (hT.fr hX.1) x2 (h m2 ⟨hX.1, Or.inr ⟨Bool.false_ne_true, x2⟩⟩)
    · have hL5 : L = 5 := by omega
      subst hL5
      intro D m Q hT hA h
      obtain ⟨d, rfl⟩ : ∃ d', d = d' + 1 := ⟨d - 1, by omega⟩
      refine wL_expression (by omega) _ _ _ _ _ ⟨fun q => absurd q (by decide), fun _ => ?_⟩
      exact sgl o p d ho hp (by omega) (by omega) D m _ hT hA (fun m' hX => h m' hX)
end XR
