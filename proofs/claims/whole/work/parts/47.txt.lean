/-! texts: the class adopts one -/
def FrM (sw : Bool) (m m' : Mem) : Prop := ∀ c j : Int, ¬ (c = 18 ∧ 4 ≤ j ∧ j ≤ 8) → ¬ c = rdraft sw → m' c j = m c j
section XM
variable {X : Cx} {sw : Bool} {n : Nat} {b : Nat → Int}
def XQ (sw : Bool) (m : Mem) (r : Bool × Nat × List Ln) (z : Int) (sw' : Bool) (m' : Mem) : Prop :=
  FrM sw m m' ∧ m' 18 4 = 0 ∧ ((r.1 = true ∧ z = 1 ∧ sw' = (!sw) ∧ m' 18 5 = ((cds r.2.2).length : Int) ∧ Sg (m' (rdraft sw)) 0 (cds r.2.2)) ∨ (¬ r.1 = true ∧ z = 0 ∧ sw' = sw ∧ m' 18 5 = m 18 5 ∧ m' 18 7 = r.2.1))
theorem lL_adoptF {m m1 : Mem} {p : Nat} {i : Int} {Q : Int → Bool → Mem → Prop} {r : Bool × Nat × List Ln} (hr : ¬ r.1 = true ∧ r.2.1 = p) (hF : FrL sw m m1) (hB : tB n b p m1) (h8 : m1 18 8 = 1) (h : ∀ z sw' m', XQ sw m r z sw' m' → Q z sw' m') : R2 X 82 mL_adopt 21 [(0, vr 18), (1, vi i)] [] sw m1 Q := by
  have fin : Q 0 sw (upm m1 18 4 0) := by
    refine h _ _ _ ⟨fun c j q1 q2 => ?_, by rw [upm_at, if_pos rfl], Or.inr ⟨hr.1, rfl, rfl, ?_, ?_⟩⟩
    · rw [upm_ne (by omega)]; exact hF c j (by omega) q2
    · have hb := rdr_b sw
      rw [upm_at, if_neg (by omega)]; exact hF 18 5 (by omega) (by omega)
    · rw [upm_at, if_neg (by omega), hr.2]; exact hB.1
  refine wL_adopt_21 _ _ _ _ ?_
  rw [h8]
  exact ⟨fun _ => ⟨fun q => absurd q (by decide), fun _ => fin⟩, fun _ => ⟨fun _ => ⟨fun q => absurd q (by decide), fun _ => fin⟩, fun q => absurd (by decide) q⟩⟩
theorem lL_adoptB {m m1 : Mem} {p : Nat} {i : Int} {Q : Int → Bool → Mem → Prop} {r : Bool × Nat × List Ln} (hr : ¬ r.1 = true ∧ r.2.1 = p) (hT : tT n b m) (hF : FrL sw m m1) (hB : tB n b p m1) (hi : 0 ≤ i ∧ i ≤ p) (h : ∀ z sw' m', XQ sw m r z sw' m' → Q z sw' m') : R2 X 82 mL_adopt 21 [(0, vr 18), (1, vi i)] [] sw m1 Q := by
  have hn := hT.2.1
  have hT1 := hT.fr hF
  by_cases h8 : m1 18 8 = 1
  · exact lL_adoptF hr hF hB h8 h
  · have hB' := hB
    obtain ⟨h1, h2, h3, h4⟩ := hB'
    have h0 : m1 18 8 = 0 ∧ dgt (nx n b p) := by rcases h4 with h4 | h4
                                                 · exact absurd h4 h8
                                                 · exact h4
    have hlt := nx_lt (n := n) (b := b) (p := p) (by omega)
    refine wL_adopt_21 _ _ _ _ ?_
    rw [h0.1, hT1.1, h1, w32_id (z := i) (by omega) (by omega), w32_id (z := (n : Int)) (by omega) (by omega), w32_id (z := (p : Int)) (by omega) (by omega)]
    refine ⟨fun q => by omega, fun _ => ⟨fun q => absurd (by decide) q, fun _ => ⟨fun q => by omega, fun _ => eL_acceptB (by decide) (by decide) hT1 hB hF (fun m2 hF2 hB2 h82 => eL_readLineD (hT.fr hF2) hB2 h82 hF2 (fun m3 hF3 hB3 h83 => lL_adoptF hr hF3 hB3 h83 h))⟩⟩⟩
theorem lL_adopt {m : Mem} {Q : Int → Bool → Mem → Prop} (hT : tT n b m) : ∀ (c p : Nat) (acc : List Ln) (i : Int) (m1 : Mem), 0 ≤ i → i + (c : Int) = 120 → i < p → FrL sw m m1 → tC n p ((cds acc).length : Int) m1 → Sg (m1 (rdraft sw)) 0 (cds acc) → (∀ z sw' m', XQ sw m (tx1 n b c p acc) z sw' m' → Q z sw' m') → R2 X 82 mL_adopt 21 [(0, vr 18), (1, vi i)] [] sw m1 Q := by
  intro c
  have hn := hT.2.1
  have hb := rdr_b sw
  induction c with
  | zero => intro p acc i m1 i0 ic ip hF hC hS h; have := hC.2.1; omega
  | succ c ih =>
    intro p acc i m1 i0 ic ip hF hC hS h
    have hT1 := hT.fr hF
    obtain ⟨a1, a2, a3, a4, a5, a6⟩ := hC
    unfold tx1 at h
    refine wL_adopt_21 _ _ _ _ ?_
    rw [a3, hT1.1, a1, w32_id (z := i) (by omega) (by omega), w32_id (z := (n : Int)) (by omega) (by omega), w32_id (z := (p : Int)) (by omega) (by omega)]
    refine ⟨fun q => by omega, fun _ => ⟨fun q => absurd (by decide) q, fun _ => ⟨fun c1 => ⟨fun _ => ?_, fun q => absurd (by decide) q⟩, fun c1 => ?_⟩⟩⟩
    · rw [if_neg (by omega)] at h
      refine wL_adopt_75 _ _ _ (h _ _ _ ⟨fun c' j q1 q2 => ?_, ?_, Or.inl ⟨rfl, rfl, rfl, ?_, ?_⟩⟩)
      · rw [upm_ne (by omega), upm_ne (by omega)]; exact hF c' j (by omega) q2
      · rw [upm_at, if_neg (by omega), upm_at, if_pos rfl]
      · rw [upm_at, if_pos rfl, upm_at, if_neg (by omega)]; exact a4
      · rw [upm_row (by omega), upm_row (by omega)]; exact hS
    · rw [if_pos (by omega)] at h
      have hnb := nx_b (p := p) hT1
      refine wL_accept _ _ _ _ (eL_next hT1 a1 a2 (Or.inl a3) (fun _ => ?_) (fun q => by omega))
      rw [w32_id (z := nx n b p) (by omega) (by omega), show w32 59 = 59 from by decide]
      refine ⟨fun c2 => ?_, fun c2 => ?_⟩
      · rw [if_neg c2] at h
        have hB2 : tB n b p (upm m1 18 8 1) := by
          refine ⟨?_, a2, ?_, Or.inl ?_⟩
          · rw [upm_at, if_neg (by omega)]; exact a1
          · rw [upm_at, if_neg (by omega)]; omega
          · rw [upm_at, if_pos rfl]
        have hF2 : FrL sw m (upm m1 18 8 1) := hF.tr (FrL.up (by omega))
        exact eL_readLineD (hT.fr hF2) hB2 (by rw [upm_at, if_pos rfl]) hF2 (fun m3 hF3 hB3 h83 => lL_adoptF (p := p) ⟨Bool.false_ne_true, rfl⟩ hF3 hB3 h83 h)
      · rw [if_pos (Decidable.not_not.mp c2)] at h
        have hF2 : FrL sw m (upm m1 18 7 (m1 18 7 + 1)) := hF.tr (FrL.up (by omega))
        have hA2 : tA n (p + 1) ((cds acc).length : Int) (upm m1 18 7 (m1 18 7 + 1)) := by
          refine ⟨?_, by omega, ?_, ?_, a5, by omega⟩
          · rw [upm_at, if_pos rfl, a1]; rfl
          · rw [upm_at, if_neg (by omega)]; exact a3
          · rw [upm_at, if_neg (by omega)]; exact a4
        refine eL_readLine (hT.fr hF2) hA2 (fun m3 hX => ?_)
        have hP := lnP (n := n) (b := b) (p := p + 1) (by omega)
        generalize ln n b (p + 1) = r at h hX hP
        obtain ⟨g1, g2, g3⟩ := hP
        have hF3 := hF2.tr hX.1
        rcases hX.2 with ⟨x1, x2, x3, x4⟩ | ⟨x1, x2⟩
        · rw [if_pos x1] at h
          obtain ⟨g4, g5, g6, g7⟩ := g3 x1
          have ec : cds (acc ++ [r.2.2]) = cds acc ++ cdl r.2.2 := by
            rw [cds_app]
            show cds acc ++ (cdl r.2.2 ++ []) = _
            rw [List.append_nil]
          have el : (((cds (acc ++ [r.2.2])).length : Nat) : Int) = ((cds acc).length : Int) + ((cdl r.2.2).length : Int) := by
            rw [ec, List.length_append]; omega
          refine ih r.2.1 (acc ++ [r.2.2]) (i + 1) m3 (by omega) (by omega) (by omega) hF3 (by rw [el]; exact x2) ?_ h
          rw [ec, Sg.app]
          refine ⟨hS.fr (fun k k1 k2 => ?_), ?_⟩
          · rw [x3 k (by omega), upm_row (by omega)]
          · rw [show (0 : Int) + ((cds acc).length : Int) = ((cds acc).length : Int) by omega]
            exact x4
        · rw [if_neg x1] at h
          exact lL_adoptB (p := r.2.1) ⟨Bool.false_ne_true, rfl⟩ hT hF3 x2 ⟨by omega, by omega⟩ h
theorem eL_adopt {m : Mem} {Q : Int → Bool → Mem → Prop} (hT : tT n b m) (h : ∀ z sw' m', XQ sw m (txt n b) z sw' m' → Q z sw' m') : M2 X 82 mL_adopt [vr 18] sw m Q := by
  have hb := rdr_b sw
  have hn := hT.2.1
  generalize hm0 : upm (upm (upm m 18 7 0) 18 6 0) 18 8 0 = m0
  have hF0 : FrL sw m m0 := by rw [← hm0]; exact ((FrL.up (by omega)).tr (FrL.up (by omega))).tr (FrL.up (by omega))
  have hA0 : tA n 0 0 m0 := by
    rw [← hm0]
    refine ⟨?_, by omega, ?_, ?_, by omega, by omega⟩
    · rw [upm_at, if_neg (by omega), upm_at, if_neg (by omega), upm_at, if_pos rfl]; rfl
    · rw [upm_at, if_pos rfl]
    · rw [upm_at, if_neg (by omega), upm_at, if_pos rfl]
  have hT0 := hT.fr hF0
  unfold txt at h
  refine wL_adopt _ _ _ ?_
  rw [hm0]
  have hP := lnP (n := n) (b := b) (p := 0) (by omega)
  refine eL_readLine hT0 hA0 (fun m3 hX => ?_)
  generalize ln n b 0 = r at h hX hP
  obtain ⟨g1, g2, g3⟩ := hP
  have hF3 := hF0.tr hX.1
  rcases hX.2 with ⟨x1, x2, x3, x4⟩ | ⟨x1, x2⟩
  · rw [if_pos x1] at h
    obtain ⟨g4, g5, g6, g7⟩ := g3 x1
    have ec : cds [r.2.2] = cdl r.2.2 := by
      show cdl r.2.2 ++ [] = _
      rw [List.append_nil]
    have el : (0 : Int) + ((cdl r.2.2).length : Int) = ((cds [r.2.2]).length : Int) := by rw [ec]; omega
    rw [el] at x2
    rw [← ec] at x4
    exact lL_adopt hT 120 r.2.1 [r.2.2] 0 m3 (by omega) (by omega) (by omega) hF3 x2 x4 h
  · rw [if_neg x1] at h
    exact lL_adoptB (p := r.2.1) ⟨Bool.false_ne_true, rfl⟩ hT hF3 x2 ⟨by omega, by omega⟩ h
end XM
