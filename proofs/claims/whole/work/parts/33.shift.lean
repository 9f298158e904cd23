/-! shelves: shift -/
section SH3
variable {X : Cx} {sw : Bool} {m : Mem} {Q : Int → Bool → Mem → Prop}
theorem lY_shift {a i o j n : Int} (ha : 0 ≤ a ∧ a < 6) (ho : 0 ≤ o ∧ o < 6) (hi : 0 ≤ i) (hj : 0 ≤ j) (hn : 0 ≤ n) (h1 : i + n ≤ 60) (h2 : j + n ≤ 60) (h : ∀ mF : Mem, (∀ c, ¬ c = 119 → ¬ c = 120 → mF c = m c) → (∀ b, mF 119 b = if 60 * o + j ≤ b ∧ b < 60 * o + j + n then m 119 (60 * a + i + (b - (60 * o + j))) else m 119 b) → Q n sw mF) :
    R2 X 3 mY_shift 113 [(0, vr 84), (1, vi a), (2, vi i), (3, vi o), (4, vi j), (5, vi n), (6, vi 0)] [] sw m Q := by
  obtain ⟨N, rfl⟩ : ∃ N : Nat, n = (N : Int) := ⟨n.toNat, by omega⟩
  have en : w32 (N : Int) = (N : Int) := w32_id (by omega) (by omega)
  have second : ∀ k : Nat, k ≤ N → ∀ m2 : Mem, (∀ c, ¬ c = 119 → ¬ c = 120 → m2 c = m c) → (∀ q : Int, 0 ≤ q → q < N → m2 120 q = m 119 (60 * a + i + q)) → (∀ b, m2 119 b = if 60 * o + j ≤ b ∧ b < 60 * o + j + (k : Int) then m 119 (60 * a + i + (b - (60 * o + j))) else m 119 b) → R2 X 3 mY_shift 150 [(0, vr 84), (3, vi o), (4, vi j), (5, vi (N : Int)), (6, vi (k : Int))] [] sw m2 Q := by
    refine downN N (fun m2 g1 g2 g3 => ?_) (fun k hk ih m2 g1 g2 g3 => ?_)
    · exact wY_shift_150 _ _ _ _ _ _ _ ⟨fun _ => h m2 g1 g3, fun c => absurd (Int.le_refl _) c⟩
    · have ek : w32 (k : Int) = (k : Int) := w32_id (by omega) (by omega)
      have e1 : w32 (60 * o + j + (k : Int)) = 60 * o + j + (k : Int) := w32_id (by omega) (by omega)
      refine wY_shift_150 _ _ _ _ _ _ _ ?_
      rw [en, ek, e1]
      refine ⟨fun c => by omega, fun _ => ⟨by omega, by omega, ih _ (fun c c1 c2 => ?_) (fun q q1 q2 => ?_) (fun b => ?_)⟩⟩
      · rw [upm_row c1]; exact g1 c c1 c2
      · rw [upm_row (by omega)]; exact g2 q q1 q2
      · rw [upm_at, g3 b, g2 k (by omega) (by omega)]
        by_cases hb : b = 60 * o + j + (k : Int)
        · rw [if_pos hb, if_pos (by omega), show (60 * a + i + (b - (60 * o + j))) = 60 * a + i + (k : Int) by omega]
        · rw [if_neg hb]
          by_cases hb2 : 60 * o + j ≤ b ∧ b < 60 * o + j + (k : Int)
          · rw [if_pos hb2, if_pos (by omega)]
          · rw [if_neg hb2, if_neg (by omega)]
  have first : ∀ k : Nat, k ≤ N → ∀ m1 : Mem, (∀ c, ¬ c = 120 → m1 c = m c) → (∀ q : Int, 0 ≤ q → q < (k : Int) → m1 120 q = m 119 (60 * a + i + q)) → R2 X 3 mY_shift 113 [(0, vr 84), (1, vi a), (2, vi i), (3, vi o), (4, vi j), (5, vi (N : Int)), (6, vi (k : Int))] [] sw m1 Q := by
    refine downN N (fun m1 g1 g2 => ?_) (fun k hk ih m1 g1 g2 => ?_)
    · refine wY_shift_113 _ _ _ _ _ _ _ _ _ ⟨fun _ => ?_, fun c => absurd (Int.le_refl _) c⟩
      refine second 0 (Nat.zero_le _) m1 (fun c _ c2 => g1 c c2) g2 (fun b => ?_)
      rw [if_neg (by omega), g1 119 (by omega)]
    · have ek : w32 (k : Int) = (k : Int) := w32_id (by omega) (by omega)
      have e1 : w32 (60 * a + i + (k : Int)) = 60 * a + i + (k : Int) := w32_id (by omega) (by omega)
      refine wY_shift_113 _ _ _ _ _ _ _ _ _ ?_
      rw [en, ek, e1]
      refine ⟨fun c => by omega, fun _ => ⟨by omega, by omega, ih _ (fun c c1 => ?_) (fun q q1 q2 => ?_)⟩⟩
      · rw [upm_row c1]; exact g1 c c1
      · rw [upm_at, g1 119 (by omega)]
        by_cases hq : q = (k : Int)
        · rw [if_pos hq, hq]
        · rw [if_neg hq]; exact g2 q q1 (by omega)
  exact first 0 (Nat.zero_le _) m (fun _ _ => rfl) (fun q q1 q2 => by omega)
theorem cpm_at {ks sp kd dp n b : Int} : cpm m ks sp kd dp n kd b = if dp ≤ b ∧ b < dp + n then m ks (sp + (b - dp)) else m kd b := by
  unfold cpm
  by_cases h : dp ≤ b ∧ b < dp + n
  · rw [if_pos ⟨rfl, h⟩, if_pos h]
  · rw [if_neg (fun q => h q.2), if_neg h]
theorem IS_shift {a i o j n : Int} {mF : Mem} (hI : IS m) (ha : 0 ≤ a ∧ a < 6) (ho : 0 ≤ o ∧ o < 6) (hi : 0 ≤ i) (hj : 0 ≤ j) (hn : 0 ≤ n) (h1 : i + n ≤ 60) (h2 : j + n ≤ 60) (hs : m 73 a = 2 ∧ m 73 o = 2 ∧ m 75 a = m 75 o)
    (g1 : ∀ c, ¬ c = 119 → ¬ c = 120 → mF c = cpm m (78 + a) i (78 + o) j n c) (g2 : ∀ b, mF 119 b = if 60 * o + j ≤ b ∧ b < 60 * o + j + n then cpm m (78 + a) i (78 + o) j n 119 (60 * a + i + (b - (60 * o + j))) else cpm m (78 + a) i (78 + o) j n 119 b) : IS mF := by
  have e : ∀ c, ¬ c = 119 → ¬ c = 120 → ¬ c = 78 + o → mF c = m c := fun c c1 c2 c3 => (g1 c c1 c2).trans (cpm_row c3)
  have e119 : cpm m (78 + a) i (78 + o) j n 119 = m 119 := cpm_row (by omega)
  rw [e119] at g2
  have eo : mF (78 + o) = cpm m (78 + a) i (78 + o) j n (78 + o) := g1 _ (by omega) (by omega)
  refine ⟨?_, ?_, ?_, fun s s1 s2 => ?_⟩
  · rw [e 69 (by omega) (by omega) (by omega)]; exact hI.1
  · rw [e 69 (by omega) (by omega) (by omega)]; exact hI.2.1
  · rw [e 69 (by omega) (by omega) (by omega), e 84 (by omega) (by omega) (by omega)]; exact hI.2.2.1
  have h0 := hI.get s1 s2
  unfold IS1 at *
  rw [e 73 (by omega) (by omega) (by omega), e 74 (by omega) (by omega) (by omega), e 75 (by omega) (by omega) (by omega), e 76 (by omega) (by omega) (by omega), e 117 (by omega) (by omega) (by omega), e 118 (by omega) (by omega) (by omega), e 69 (by omega) (by omega) (by omega)]
  by_cases hso : s = o
  · subst hso
    refine ⟨?_, fun q q1 q2 => ?_⟩
    · rcases h0.1 with h0 | h0 | h0
      · exact Or.inl h0
      · exact Or.inr (Or.inl h0)
      · refine Or.inr (Or.inr ⟨h0.1, h0.2.1, h0.2.2.1, h0.2.2.2.1, h0.2.2.2.2.1, h0.2.2.2.2.2.1, h0.2.2.2.2.2.2.1, fun p q q1 q2 => ?_⟩)
        rw [eo, cpm_at]
        by_cases hq : j ≤ q ∧ q < j + n
        · rw [if_pos hq]
          have ha1 := (hI.get ha.1 ha.2).1
          rcases ha1 with ha1 | ha1 | ha1
          · omega
          · omega
          · exact ha1.2.2.2.2.2.2.2 (by omega) _ (by omega) (by omega)
        · rw [if_neg hq]; exact h0.2.2.2.2.2.2.2 p q q1 q2
    · rw [g2, eo, cpm_at]
      by_cases hq : j ≤ q ∧ q < j + n
      · rw [if_pos (by omega), if_pos hq, show 60 * a + i + (60 * s + q - (60 * s + j)) = 60 * a + (i + (q - j)) by omega]
        exact (hI.get ha.1 ha.2).2 _ (by omega) (by omega)
      · rw [if_neg (by omega), if_neg hq]
        exact h0.2 q q1 q2
  · rw [e (78 + s) (by omega) (by omega) (by omega)]
    refine ⟨h0.1, fun q q1 q2 => ?_⟩
    rw [g2, if_neg (by omega)]
    exact h0.2 q q1 q2
theorem pr_shift {a i o j n : Int} (ha : w32 a = a) (hi : w32 i = i) (ho : w32 o = o) (hj : w32 j = j) (hn : w32 n = n) (hI : IS m) {QQ : Int → Int → Bool → Mem → Prop} (h : ∀ z m', IS m' → FrS m m' → QQ z z sw m') : M2 X 4 mZ_shift [vr 1, vi a, vi i, vi o, vi j, vi n] sw m (fun z1 sw1 m1 => M2 X 3 mY_shift [vr 84, vi a, vi i, vi o, vi j, vi n] sw1 m1 (fun z2 sw2 m2 => QQ z1 z2 sw2 m2)) := by
  have h69 := hI.2.1
  have hnb := w32_b n
  -- the model's side over a memory that agrees on 73.. : the answer z
  have back : ∀ z, (z = (if ¬ ((0 ≤ a ∧ a < 6) ∧ (0 ≤ o ∧ o < 6)) then -1 else if m 73 a = 0 ∨ m 73 o = 0 then -11 else if ¬ (m 73 a = 2 ∧ m 73 o = 2 ∧ m 75 a = m 75 o) then -12 else -13)) → ¬ ((0 ≤ a ∧ a < 6) ∧ (0 ≤ o ∧ o < 6) ∧ m 73 a = 2 ∧ m 73 o = 2 ∧ m 75 a = m 75 o ∧ 0 ≤ i ∧ 0 ≤ j ∧ 0 ≤ n ∧ i + n ≤ m 76 a ∧ j + n ≤ m 76 o) → M2 X 3 mY_shift [vr 84, vi a, vi i, vi o, vi j, vi n] sw m (fun z2 sw2 m2 => QQ z z2 sw2 m2) := by
    intro z hz hno
    refine wY_shift _ _ _ _ _ _ _ _ (eY_isShelf ha ?_)
    rw [bz_w, bz_0]
    refine ⟨fun c => ?_, fun c => ?_⟩
    · rw [if_pos (by omega)] at hz; subst hz; exact h _ _ hI (FrS.rf _)
    have c := Decidable.not_not.mp c
    refine eY_isShelf ho ?_
    rw [bz_w, bz_0, ha, ho, hi, hj, hn]
    refine ⟨fun c2 => ?_, fun c2 => ?_⟩
    · have c2 := Decidable.not_not.mp c2
      rw [if_neg (by omega)] at hz
      have ga := (hI.get c.1 c.2).1
      have go := (hI.get c2.1 c2.2).1
      rw [w32_id (z := m 117 a) (by omega) (by omega), w32_id (z := m 117 o) (by omega) (by omega)]
      refine ⟨c, fun d1 => ?_, fun d1 => ⟨c2, fun d2 => ⟨c, fun d3 => ?_, fun d3 => ⟨c, c2, fun d4 => ⟨fun d5 => ?_, fun d5 => ⟨fun d6 => ?_, fun d6 => ⟨fun d7 => ?_, fun d7 => ⟨c, fun d8 => ?_, fun d8 => ⟨c2, fun d9 => ?_, fun d9 => ?_⟩⟩⟩⟩⟩, fun d4 => ?_⟩⟩, fun d2 => ?_⟩⟩
      · rw [if_pos (by omega)] at hz; subst hz; exact h _ _ hI (FrS.rf _)
      · rw [if_neg (by omega), if_pos (by omega)] at hz; subst hz; exact h _ _ hI (FrS.rf _)
      · rw [if_neg (by omega), if_neg (by omega)] at hz; subst hz; exact h _ _ hI (FrS.rf _)
      · rw [if_neg (by omega), if_neg (by omega)] at hz; subst hz; exact h _ _ hI (FrS.rf _)
      · rw [if_neg (by omega), if_neg (by omega)] at hz; subst hz; exact h _ _ hI (FrS.rf _)
      · rw [if_neg (by omega), if_neg (by omega)] at hz; subst hz; exact h _ _ hI (FrS.rf _)
      · exfalso
        rw [w32_id (by omega) (by omega)] at d8 d9
        exact hno ⟨c, c2, by omega, by omega, by omega, by omega, by omega, by omega, by omega, by omega⟩
      · rw [if_neg (by omega), if_neg (by omega)] at hz; subst hz; exact h _ _ hI (FrS.rf _)
      · rw [if_neg (by omega), if_pos (by omega)] at hz; subst hz; exact h _ _ hI (FrS.rf _)
      · rw [if_pos (by omega)] at hz; subst hz; exact h _ _ hI (FrS.rf _)
    · rw [if_pos (by omega)] at hz; subst hz; exact h _ _ hI (FrS.rf _)
  have rr : ∀ s, rfo m s 2 = -1 ↔ ¬ (0 ≤ s ∧ s < 6) := fun s => by unfold rfo; constructor <;> intro q <;> repeat' split at * <;> omega
  have r11 : ∀ s, rfo m s 2 = -11 ↔ (0 ≤ s ∧ s < 6) ∧ m 73 s = 0 := fun s => by unfold rfo; constructor <;> intro q <;> repeat' split at * <;> omega
  have r0 : ∀ s, rfo m s 2 = 0 ↔ (0 ≤ s ∧ s < 6) ∧ m 73 s = 2 := fun s => by unfold rfo; constructor <;> intro q <;> repeat' split at * <;> omega
  refine wZ_shift _ _ _ _ _ _ _ _ (wS_move _ _ _ _ _ _ _ _ (eS_refusalOf ha (by decide) hI (eS_refusalOf ho (by decide) hI ?_)))
  rw [rfo_w, rfo_w, rr, rr, r11, r11, r0, r0, ha, ho]
  refine ⟨fun c => back _ ?_ (by omega), fun c => ⟨fun c2 => ⟨fun c3 => back _ ?_ (by omega), fun c3 => ⟨fun c4 => ⟨fun c5 => back _ ?_ (by omega), fun c5 => ⟨fun c6 => back _ ?_ (by omega), fun c6 => ⟨by omega, by omega, fun c7 => ?_, fun c7 => back _ ?_ ?_⟩⟩⟩, fun c4 => back _ ?_ (by omega)⟩⟩, fun c2 => back _ ?_ (by omega)⟩⟩
  · rw [if_pos (by omega)]
  · rw [if_neg (by omega), if_pos (by omega)]
  · rw [if_neg (by omega), if_neg (by omega), if_pos (by omega)]
  · rw [if_neg (by omega), if_neg (by omega), if_pos (by omega)]
  · have c5 := Decidable.not_not.mp c5
    have c6 := Decidable.not_not.mp c6
    have ga := (hI.get c5.1.1 c5.1.2).1
    have go := (hI.get c6.1.1 c6.1.2).1
    rw [w32_id (z := m 75 a) (by omega) (by omega), w32_id (z := m 75 o) (by omega) (by omega)] at c7
    refine eS_reaches c5.1 (by omega) hi hn ?_
    rw [bz_w, bz_0]
    refine ⟨fun d => back _ ?_ (by omega), fun d => eS_reaches c6.1 (by omega) hj hn ?_⟩
    · rw [if_neg (by omega), if_neg (by omega), if_neg (by omega)]
    rw [bz_w, bz_0, hi, hj, hn]
    refine ⟨fun d2 => ⟨c5.1, c6.1, by omega, ?_⟩, fun d2 => back _ ?_ (by omega)⟩
    · have d := Decidable.not_not.mp d
      have d2 := Decidable.not_not.mp d2
      have e : ∀ c, ¬ c = 78 + o → cpm m (78 + a) i (78 + o) j n c = m c := fun c q => cpm_row q
      refine wY_shift _ _ _ _ _ _ _ _ (eY_isShelf ha ?_)
      rw [bz_w, bz_0]
      refine ⟨fun q => absurd c5.1 q, fun _ => eY_isShelf ho ?_⟩
      rw [bz_w, bz_0, ha, ho, hi, hj, hn, e 117 (by omega), e 118 (by omega), w32_id (z := m 117 a) (by omega) (by omega), w32_id (z := m 117 o) (by omega) (by omega), w32_id (z := m 118 a - n) (by omega) (by omega), w32_id (z := m 118 o - n) (by omega) (by omega)]
      refine ⟨fun _ => ⟨c5.1, fun q => by omega, fun _ => ⟨c6.1, fun _ => ⟨c5.1, fun q => by omega, fun _ => ⟨c5.1, c6.1, fun _ => ⟨fun q => by omega, fun _ => ⟨fun q => by omega, fun _ => ⟨fun q => by omega, fun _ => ⟨c5.1, fun q => by omega, fun _ => ⟨c6.1, fun _ => ?_, fun q => by omega⟩⟩⟩⟩⟩, fun q => by omega⟩⟩, fun q => by omega⟩⟩, fun q => absurd c6.1 (Decidable.not_not.mp q)⟩
      refine lY_shift c5.1 c6.1 (by omega) (by omega) (by omega) (by omega) (by omega) (fun mF g1 g2 => h _ _ (IS_shift hI c5.1 c6.1 (by omega) (by omega) (by omega) (by omega) (by omega) (by omega) g1 g2) (fun c q1 q2 => ?_))
      rw [g1 c (by omega) (by omega), e c (by omega)]
    · rw [if_neg (by omega), if_neg (by omega), if_neg (by omega)]
  · have c5 := Decidable.not_not.mp c5
    have c6 := Decidable.not_not.mp c6
    have ga := (hI.get c5.1.1 c5.1.2).1
    have go := (hI.get c6.1.1 c6.1.2).1
    rw [w32_id (z := m 75 a) (by omega) (by omega), w32_id (z := m 75 o) (by omega) (by omega)] at c7
    rw [if_neg (by omega), if_neg (by omega), if_pos (by omega)]
  · have c5 := Decidable.not_not.mp c5
    have c6 := Decidable.not_not.mp c6
    have ga := (hI.get c5.1.1 c5.1.2).1
    have go := (hI.get c6.1.1 c6.1.2).1
    rw [w32_id (z := m 75 a) (by omega) (by omega), w32_id (z := m 75 o) (by omega) (by omega)] at c7
    omega
  · rw [if_neg (by omega), if_pos (by omega)]
  · rw [if_pos (by omega)]
end SH3
