/-! texts: lines, the class's adoption -/
abbrev Lr : Type := Bool × Nat × List Int × List Int
def ln (n : Nat) (b : Nat → Int) (p : Nat) : Lr :=
  if (ex n b 42 0 0 p).1 = true then
    (if nx n b (ex n b 42 0 0 p).2.1 = 63 then
      (if (ex n b 42 0 0 ((ex n b 42 0 0 p).2.1 + 1)).1 = true then (true, (ex n b 42 0 0 ((ex n b 42 0 0 p).2.1 + 1)).2.1, (ex n b 42 0 0 p).2.2, (ex n b 42 0 0 ((ex n b 42 0 0 p).2.1 + 1)).2.2)
       else (false, (ex n b 42 0 0 ((ex n b 42 0 0 p).2.1 + 1)).2.1, [], []))
     else (true, (ex n b 42 0 0 p).2.1, [], (ex n b 42 0 0 p).2.2))
  else (false, (ex n b 42 0 0 p).2.1, [], [])
abbrev Ln : Type := List Int × List Int
def cdl (l : Ln) : List Int := if l.1.length = 0 then l.2 ++ [-14] else l.1 ++ [-13] ++ l.2 ++ [-14]
def cds : List Ln → List Int
  | [] => []
  | l :: ls => cdl l ++ cds ls
theorem cds_app : ∀ (l1 l2 : List Ln), cds (l1 ++ l2) = cds l1 ++ cds l2
  | [], l2 => rfl
  | l :: l1, l2 => by
    show cdl l ++ cds (l1 ++ l2) = (cdl l ++ cds l1) ++ cds l2
    rw [cds_app l1 l2, List.append_assoc]
def tx1 (n : Nat) (b : Nat → Int) : Nat → Nat → List Ln → Bool × Nat × List Ln
  | 0, p, acc => (true, p, acc)
  | c + 1, p, acc => if p < n then (if nx n b p = 59 then (if (ln n b (p + 1)).1 = true then tx1 n b c (ln n b (p + 1)).2.1 (acc ++ [(ln n b (p + 1)).2.2]) else (false, (ln n b (p + 1)).2.1, [])) else (false, p, [])) else (true, p, acc)
def txt (n : Nat) (b : Nat → Int) : Bool × Nat × List Ln := if (ln n b 0).1 = true then tx1 n b 120 (ln n b 0).2.1 [(ln n b 0).2.2] else (false, (ln n b 0).2.1, [])
/-- a line that can be worked out -/
def okl (l : Ln) : Prop := (l.1.length = 0 ∨ WF l.1) ∧ WF l.2 ∧ toks l.1 ∧ toks l.2
def lnl (l : Ln) : Nat := l.1.length + l.2.length
def PL (n p : Nat) (r : Lr) : Prop := p ≤ r.2.1 ∧ r.2.1 ≤ n ∧ (r.1 = true → p < r.2.1 ∧ (cdl r.2.2).length + p ≤ r.2.1 + 1 ∧ lnl r.2.2 + p ≤ r.2.1 ∧ okl r.2.2)
section TL
variable {n : Nat} {b : Nat → Int}
theorem lnP {p : Nat} (hp : p ≤ n) : PL n p (ln n b p) := by
  unfold ln
  have h1 := exP (n := n) (b := b) 42 0 0 p (by decide) (by decide) hp
  generalize ex n b 42 0 0 p = r at h1 ⊢
  obtain ⟨g1, g2, g3⟩ := h1
  by_cases c1 : r.1 = true
  · rw [if_pos c1]
    obtain ⟨g4, g5, g6, g7⟩ := g3 c1
    by_cases c2 : nx n b r.2.1 = 63
    · rw [if_pos c2]
      have hlt := nx_lt (n := n) (b := b) (p := r.2.1) (by omega)
      have h2 := exP (n := n) (b := b) 42 0 0 (r.2.1 + 1) (by decide) (by decide) hlt
      generalize ex n b 42 0 0 (r.2.1 + 1) = s at h2 ⊢
      obtain ⟨k1, k2, k3⟩ := h2
      by_cases c3 : s.1 = true
      · rw [if_pos c3]
        obtain ⟨k4, k5, k6, k7⟩ := k3 c3
        have hne : r.2.2.length ≠ 0 := fun q => g6.ne (List.length_eq_zero_iff.mp q)
        refine ⟨by show p ≤ s.2.1; omega, k2, fun _ => ⟨by show p < s.2.1; omega, ?_, ?_, Or.inr g6, k6, g7, k7⟩⟩
        · show (cdl (r.2.2, s.2.2)).length + p ≤ s.2.1 + 1
          unfold cdl
          rw [if_neg hne, List.length_append, List.length_append, List.length_append]
          show r.2.2.length + 1 + s.2.2.length + 1 + p ≤ s.2.1 + 1
          omega
        · show r.2.2.length + s.2.2.length + p ≤ s.2.1
          omega
      · rw [if_neg c3]
        exact ⟨by show p ≤ s.2.1; omega, k2, fun h => by cases h⟩
    · rw [if_neg c2]
      refine ⟨g1, g2, fun _ => ⟨g4, ?_, ?_, Or.inl rfl, g6, (fun t ht => absurd ht (List.not_mem_nil)), g7⟩⟩
      · show (cdl (([] : List Int), r.2.2)).length + p ≤ r.2.1 + 1
        show (r.2.2 ++ [-14]).length + p ≤ r.2.1 + 1
        rw [List.length_append]
        show r.2.2.length + 1 + p ≤ r.2.1 + 1
        omega
      · show 0 + r.2.2.length + p ≤ r.2.1
        omega
  · rw [if_neg c1]
    exact ⟨g1, g2, fun h => by cases h⟩
end TL
section XD
variable {X : Cx} {sw : Bool} {n : Nat} {b : Nat → Int}
/-- behind a fault that is told nothing is read any more -/
theorem lL_deadE {m : Mem} {p : Nat} (hT : tT n b m) (hB : tB n b p m) (h8 : m 18 8 = 1) : ∀ (j d : Nat) (Q : Int → Bool → Mem → Prop), j ≤ 5 → j + 4 ≤ d → Q 0 sw (upm m 18 8 1) → M2 X d mL_expression [vr 18, vi (5 - (j : Int)), vi 0] sw m Q := by
  have hB1 : tB n b p (upm m 18 8 1) := by
    obtain ⟨h1, h2, h3, h4⟩ := hB
    refine ⟨?_, h2, ?_, Or.inl ?_⟩
    · rw [upm_at, if_neg (by omega)]; exact h1
    · rw [upm_at, if_neg (by omega)]; exact h3
    · rw [upm_at, if_pos rfl]
  have hT1 : tT n b (upm m 18 8 1) := hT.fr (sw := sw) (FrL.up (by omega))
  intro j
  induction j with
  | zero =>
    intro d Q hj hd h
    obtain ⟨d, rfl⟩ : ∃ d', d = d' + 1 + 1 := ⟨d - 2, by omega⟩
    refine wL_expression (by omega) _ _ _ _ _ ⟨fun q => absurd q (by decide), fun _ => wL_single (by omega) _ _ _ _ ?_⟩
    refine eL_next hT hB.1 hB.2.1 (Or.inr h8) (fun q => by omega) (fun _ => ?_)
    refine ⟨fun q => absurd q (by decide), fun _ => ⟨fun q => absurd q (by decide), fun _ => ⟨fun _ => lL_names (by decide) (fun q => absurd q (by decide)) (fun _ => ?_), fun q => absurd (by decide) q⟩⟩⟩
    refine wL_readOperand_48 _ _ _ _ _ ⟨fun q => absurd q (by decide), fun _ => eL_next hT hB.1 hB.2.1 (Or.inr h8) (fun q => by omega) (fun _ => ?_)⟩
    refine ⟨fun _ => ⟨fun q => absurd rfl q, fun _ => wL_emit _ _ _ _ ?_⟩, fun q => absurd (by decide) q⟩
    rw [upm_at, if_pos rfl]
    exact ⟨fun _ => h, fun q => absurd (by decide) q⟩
  | succ j ih =>
    intro d Q hj hd h
    obtain ⟨d, rfl⟩ : ∃ d', d = d' + 1 := ⟨d - 1, by omega⟩
    have e5 : w32 (5 - ((j + 1 : Nat) : Int)) = 5 - ((j + 1 : Nat) : Int) := w32_id (by omega) (by omega)
    refine wL_expression (by omega) _ _ _ _ _ ?_
    rw [e5]
    refine ⟨fun _ => ?_, fun q => by omega⟩
    rw [show (5 : Int) - ((j + 1 : Nat) : Int) + 1 = 5 - (j : Int) by omega]
    exact ih d _ (by omega) (by omega) (lL_exprB (by omega) e5 (by decide) hT1 hB1 h)
def tC (n p : Nat) (D : Int) (m : Mem) : Prop := m 18 7 = p ∧ p ≤ n ∧ m 18 8 = 0 ∧ m 18 6 = D ∧ 0 ≤ D ∧ D ≤ p + 1
def XPL (sw : Bool) (n : Nat) (b : Nat → Int) (D : Int) (m : Mem) (r : Lr) (m' : Mem) : Prop :=
  FrL sw m m' ∧ ((r.1 = true ∧ tC n r.2.1 (D + ((cdl r.2.2).length : Int)) m' ∧ (∀ k, k < D → m' (rdraft sw) k = m (rdraft sw) k) ∧ Sg (m' (rdraft sw)) D (cdl r.2.2)) ∨ (¬ r.1 = true ∧ tB n b r.2.1 m'))
theorem lL_readLineB {m m0 : Mem} {p : Nat} {Q : Int → Bool → Mem → Prop} (hT : tT n b m) (hB : tB n b p m) (hF : FrL sw m0 m) (h : ∀ m', FrL sw m0 m' → tB n b p m' → Q 0 sw m') : M2 X 1 mL_next [vr 18] sw m (fun z2 sw2 m2 => ((¬ w32 z2 = 63 → M2 X 1 mL_emit [vr 18, vi (-14)] sw2 m2 (fun z3 sw3 m3 => Q 0 sw3 m3)) ∧ (¬ (¬ w32 z2 = 63) → M2 X 2 mL_accept [vr 18, vi 63] sw2 m2 (fun z4 sw4 m4 => M2 X 1 mL_emit [vr 18, vi (-13)] sw4 m4 (fun z5 sw5 m5 => M2 X 80 mL_expression [vr 18, vi 0, vi 0] sw5 m5 (fun z6 sw6 m6 => M2 X 1 mL_emit [vr 18, vi (-14)] sw6 m6 (fun z7 sw7 m7 => Q 0 sw7 m7))))))) := by
  refine eL_nextB hT hB (fun z hz _ => ?_)
  rw [w32_id (z := z) (by omega) (by omega)]
  exact ⟨fun _ => eL_emitB hB hF (fun m' hF' hB' => h m' hF' hB'), fun q => by omega⟩
theorem eL_readLineD {m m0 : Mem} {p : Nat} {Q : Int → Bool → Mem → Prop} (hT : tT n b m) (hB : tB n b p m) (h8 : m 18 8 = 1) (hF : FrL sw m0 m) (h : ∀ m', FrL sw m0 m' → tB n b p m' → m' 18 8 = 1 → Q 0 sw m') : M2 X 81 mL_readLine [vr 18] sw m Q := by
  refine wL_readLine _ _ _ (lL_deadE (n := n) (b := b) hT hB h8 5 80 _ (by omega) (by omega) ?_)
  have hT1 : tT n b (upm m 18 8 1) := hT.fr (sw := sw) (FrL.up (by omega))
  have e7 : upm m 18 8 1 18 7 = p := by rw [upm_at, if_neg (by omega)]; exact hB.1
  have e8 : upm m 18 8 1 18 8 = 1 := by rw [upm_at, if_pos rfl]
  refine eL_next hT1 e7 hB.2.1 (Or.inr e8) (fun q => by omega) (fun _ => ⟨fun _ => wL_emit _ _ _ _ ?_, fun q => absurd (by decide) q⟩)
  rw [e8]
  refine ⟨fun _ => h _ (hF.tr (FrL.up (by omega))) ⟨e7, hB.2.1, ?_, Or.inl e8⟩ e8, fun q => absurd (by decide) q⟩
  rw [upm_at, if_neg (by omega)]
  exact hB.2.2.1
theorem eL_readLine {m : Mem} {p : Nat} {D : Int} {Q : Int → Bool → Mem → Prop} (hT : tT n b m) (hA : tA n p D m) (h : ∀ m', XPL sw n b D m (ln n b p) m' → Q 0 sw m') : M2 X 81 mL_readLine [vr 18] sw m Q := by
  have hn := hT.2.1
  have hb := rdr_b sw
  have hp := hA.2.1
  unfold ln at h
  refine wL_readLine _ _ _ ((lL_ex (X := X) (sw := sw) (n := n) (b := b) 42).1 0 0 p 80 (by decide) (by decide) hp (by decide) (by decide) D m _ hT hA (fun m1 hX => ?_))
  have hP := exP (n := n) (b := b) 42 0 0 p (by decide) (by decide) hp
  generalize ex n b 42 0 0 p = r at h hX hP
  obtain ⟨g1, g2, g3⟩ := hP
  have hT1 := hT.fr hX.1
  rcases hX.2 with ⟨x1, x2, x3, x4⟩ | ⟨x1, x2⟩
  · rw [if_pos x1] at h
    obtain ⟨g4, g5, g6, g7⟩ := g3 x1
    have x2' := x2
    obtain ⟨a1, a2, a3, a4, a5, a6⟩ := x2'
    have hnb := nx_b (p := r.2.1) hT1
    refine eL_next hT1 a1 a2 (Or.inl a3) (fun _ => ?_) (fun q => by omega)
    rw [w32_id (z := nx n b r.2.1) (by omega) (by omega)]
    refine ⟨fun c => ?_, fun c => ?_⟩
    · rw [if_neg c] at h
      refine eL_emit (D := D + (r.2.2.length : Int)) a3 a4 (by omega) ?_
      obtain ⟨e1, e2, e3, e4, e5, e6⟩ := emi_at (sw := sw) (m := m1) (D := D + (r.2.2.length : Int)) (t := -14)
      have ec : cdl (([] : List Int), r.2.2) = r.2.2 ++ [-14] := rfl
      have el : (((r.2.2 ++ [-14]).length : Nat) : Int) = (r.2.2.length : Int) + 1 := by rw [List.length_append]; rfl
      refine h _ ⟨hX.1.tr e6, Or.inl ⟨rfl, ?_, fun k hk => ?_, ?_⟩⟩
      · rw [ec, el]
        refine ⟨e1.trans a1, a2, e2.trans a3, ?_, ?_, ?_⟩
        · rw [e3]; omega
        · omega
        · show _ ≤ (r.2.1 : Int) + 1; omega
      · rw [e5 k (by omega)]; exact x3 k hk
      · rw [ec, Sg.app]
        exact ⟨x4.fr (fun k k1 k2 => e5 k (by omega)), e4, trivial⟩
    · have c := Decidable.not_not.mp c
      rw [if_pos c] at h
      have hlt := nx_lt (n := n) (b := b) (p := r.2.1) (by omega)
      refine wL_accept _ _ _ _ (eL_next hT1 a1 a2 (Or.inl a3) (fun _ => ⟨fun q => ?_, fun _ => ?_⟩) (fun q => by omega))
      · rw [c] at q; exact absurd rfl q
      refine eL_emit (D := D + (r.2.2.length : Int)) ?_ ?_ (by omega) ?_
      · rw [upm_at, if_neg (by omega)]; exact a3
      · rw [upm_at, if_neg (by omega)]; exact a4
      obtain ⟨e1, e2, e3, e4, e5, e6⟩ := emi_at (sw := sw) (m := upm m1 18 7 (m1 18 7 + 1)) (D := D + (r.2.2.length : Int)) (t := -13)
      have hF2 : FrL sw m (emi sw (upm m1 18 7 (m1 18 7 + 1)) (D + (r.2.2.length : Int)) (-13)) := (hX.1.tr (FrL.up (by omega))).tr e6
      have hs2 : ∀ k, ¬ k = D + (r.2.2.length : Int) → emi sw (upm m1 18 7 (m1 18 7 + 1)) (D + (r.2.2.length : Int)) (-13) (rdraft sw) k = m1 (rdraft sw) k := fun k hk => by rw [e5 k hk, upm_row (by omega)]
      have hA2 : tA n (r.2.1 + 1) (D + (r.2.2.length : Int) + 1) (emi sw (upm m1 18 7 (m1 18 7 + 1)) (D + (r.2.2.length : Int)) (-13)) := by
        refine ⟨?_, hlt, ?_, e3, by omega, by omega⟩
        · rw [e1, upm_at, if_pos rfl, a1]; rfl
        · rw [e2, upm_at, if_neg (by omega)]; exact a3
      generalize emi sw (upm m1 18 7 (m1 18 7 + 1)) (D + (r.2.2.length : Int)) (-13) = m2 at hF2 hs2 hA2 e4
      have hT2 := hT.fr hF2
      refine (lL_ex (X := X) (sw := sw) (n := n) (b := b) 42).1 0 0 (r.2.1 + 1) 80 (by decide) (by decide) hlt (by decide) (by decide) _ m2 _ hT2 hA2 (fun m3 hX3 => ?_)
      have hP3 := exP (n := n) (b := b) 42 0 0 (r.2.1 + 1) (by decide) (by decide) hlt
      generalize ex n b 42 0 0 (r.2.1 + 1) = s at h hX3 hP3
      obtain ⟨k1, k2, k3⟩ := hP3
      have hF3 := hF2.tr hX3.1
      rcases hX3.2 with ⟨y1, y2, y3, y4⟩ | ⟨y1, y2⟩
      · rw [if_pos y1] at h
        obtain ⟨k4, k5, k6, k7⟩ := k3 y1
        obtain ⟨z1, z2, z3, z4, z5, z6⟩ := y2
        have hne : r.2.2.length ≠ 0 := fun q => g6.ne (List.length_eq_zero_iff.mp q)
        have ec : cdl (r.2.2, s.2.2) = r.2.2 ++ [-13] ++ s.2.2 ++ [-14] := by unfold cdl; rw [if_neg hne]
        have el : (((r.2.2 ++ [-13] ++ s.2.2 ++ [-14]).length : Nat) : Int) = (r.2.2.length : Int) + 1 + (s.2.2.length : Int) + 1 := by
          rw [List.length_append, List.length_append, List.length_append]; rfl
        have el2 : (((r.2.2 ++ [-13] ++ s.2.2).length : Nat) : Int) = (r.2.2.length : Int) + 1 + (s.2.2.length : Int) := by
          rw [List.length_append, List.length_append]; rfl
        have el3 : (((r.2.2 ++ [-13]).length : Nat) : Int) = (r.2.2.length : Int) + 1 := by
          rw [List.length_append]; rfl
        refine eL_emit (D := D + (r.2.2.length : Int) + 1 + (s.2.2.length : Int)) z3 z4 (by omega) ?_
        obtain ⟨q1, q2, q3, q4, q5, q6⟩ := emi_at (sw := sw) (m := m3) (D := D + (r.2.2.length : Int) + 1 + (s.2.2.length : Int)) (t := -14)
        refine h _ ⟨hF3.tr q6, Or.inl ⟨rfl, ?_, fun k hk => ?_, ?_⟩⟩
        · rw [ec, el]
          refine ⟨q1.trans z1, z2, q2.trans z3, ?_, ?_, ?_⟩
          · rw [q3]; omega
          · omega
          · show _ ≤ (s.2.1 : Int) + 1; omega
        · rw [q5 k (by omega), y3 k (by omega), hs2 k (by omega)]; exact x3 k hk
        · rw [ec, Sg.app, Sg.app, Sg.app, el2, el3]
          refine ⟨⟨⟨x4.fr (fun k k1 k2 => ?_), ?_, trivial⟩, ?_⟩, ?_, trivial⟩
          · rw [q5 k (by omega), y3 k (by omega), hs2 k (by omega)]
          · rw [q5 _ (by omega), y3 _ (by omega)]; exact e4
          · rw [show D + ((r.2.2.length : Int) + 1) = D + (r.2.2.length : Int) + 1 by omega]
            exact y4.fr (fun k k1 k2 => by rw [q5 k (by omega)])
          · rw [show D + ((r.2.2.length : Int) + 1 + (s.2.2.length : Int)) = D + (r.2.2.length : Int) + 1 + (s.2.2.length : Int) by omega]
            exact q4
      · rw [if_neg y1] at h
        exact eL_emitB y2 hF3 (fun m4 hF4 hB4 => h m4 ⟨hF4, Or.inr ⟨Bool.false_ne_true, hB4⟩⟩)
  · rw [if_neg x1] at h
    exact lL_readLineB hT1 x2 hX.1 (fun m4 hF4 hB4 => h m4 ⟨hF4, Or.inr ⟨Bool.false_ne_true, hB4⟩⟩)
end XD
