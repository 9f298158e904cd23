/-! bodies and their acts -/
def IB (m : Mem) : Prop := ∀ b : Int, 0 ≤ b → b < m 69 2 → m 115 b = m 70 b ∧ 0 ≤ m 70 b ∧ m 70 b < 8
def IA (m : Mem) : Prop := m 84 49 = m 69 3 ∧ 0 ≤ m 69 3 ∧ m 69 3 ≤ 24 ∧ ∀ i : Int, 0 ≤ i → i < m 69 3 → m 116 i = m 71 i
/-- only the bodies' cells and the trace's have changed -/
def FrA (m m' : Mem) : Prop := (∀ c : Int, ¬ (69 ≤ c ∧ c ≤ 71) → ¬ (115 ≤ c ∧ c ≤ 116) → ¬ c = 84 → m' c = m c) ∧ ∀ j : Int, ¬ j = 47 → ¬ j = 49 → m' 84 j = m 84 j
theorem FrA.rf (m : Mem) : FrA m m := ⟨fun _ _ _ _ => rfl, fun _ _ _ => rfl⟩
theorem FrA.tr {m1 m2 m3 : Mem} (h : FrA m1 m2) (g : FrA m2 m3) : FrA m1 m3 := ⟨fun c h1 h2 h3 => (g.1 c h1 h2 h3).trans (h.1 c h1 h2 h3), fun j h1 h2 => (g.2 j h1 h2).trans (h.2 j h1 h2)⟩
theorem FrA.up {m : Mem} {k i v : Int} (h : (69 ≤ k ∧ k ≤ 71) ∨ (115 ≤ k ∧ k ≤ 116)) : FrA m (upm m k i v) := ⟨fun c h1 h2 _ => upm_row (by omega), fun j _ _ => by rw [upm_row (by omega)]⟩
theorem FrA.u84 {m : Mem} {i v : Int} (h : i = 47 ∨ i = 49) : FrA m (upm m 84 i v) := ⟨fun c _ _ h3 => upm_row h3, fun j h1 h2 => by rw [upm_at, if_neg (by omega)]⟩
section AC
variable {X : Cx} {sw : Bool} {m : Mem} {Q : Int → Bool → Mem → Prop}
theorem pr_body {a : Int} (ha : w32 a = a) (hI : IS m) (hB : IB m) {QQ : Int → Int → Bool → Mem → Prop} (h : ∀ z m', IS m' → IB m' → (m' 69 3 = m 69 3 ∧ m' 71 = m 71 ∧ m' 116 = m 116 ∧ m' 84 49 = m 84 49) → FrA m m' → QQ z z sw m') : M2 X 3 mZ_body [vr 1, vi a] sw m (fun z1 sw1 m1 => M2 X 2 mY_body [vr 84, vi a] sw1 m1 (fun z2 sw2 m2 => QQ z1 z2 sw2 m2)) := by
  obtain ⟨i1, i2, i3, i4⟩ := hI
  refine wZ_body _ _ _ _ (wA_add _ _ _ _ (eA_isKind ha ?_))
  rw [bz_w, bz_0, w32_id (z := m 69 2) (by omega) (by omega)]
  refine ⟨fun c => ⟨fun c2 => ⟨⟨by omega, by omega⟩, ?_⟩, fun c2 => ?_⟩, fun c => ?_⟩
  · have c := Decidable.not_not.mp c
    refine wY_body _ _ _ _ (eY_in ha (by decide) (by decide) ?_)
    rw [bz_w, bz_0]
    have e1 : (upm (upm m 70 (m 69 2) a) 69 2 (m 69 2 + 1)) 84 47 = m 69 2 := by rw [upm_row (by omega), upm_row (by omega), i3]
    rw [e1, w32_id (z := m 69 2) (by omega) (by omega)]
    refine ⟨fun _ => ⟨fun _ => ⟨⟨by omega, by omega⟩, ?_⟩, fun q => by omega⟩, fun q => by omega⟩
    refine h _ _ ?_ ?_ ?_ ?_
    · refine ⟨?_, ?_, ?_, fun s h1 h2 => ?_⟩
      · simp (disch := omega) only [upm_row, upm_at]; simp; omega
      · simp (disch := omega) only [upm_row, upm_at]; simp; omega
      · simp (disch := omega) only [upm_row, upm_at]; simp
      · have h0 := i4 s h1 h2
        unfold IS1 at *
        simp (disch := omega) only [upm_row, upm_at]
        simp only [if_true]
        refine ⟨?_, h0.2⟩
        rcases h0.1 with h0 | h0 | h0
        · exact Or.inl h0
        · exact Or.inr (Or.inl ⟨h0.1, h0.2.1, h0.2.2.1, by omega⟩)
        · exact Or.inr (Or.inr h0)
    · intro b h1 h2
      have h2 : b < m 69 2 + 1 := by
        have : (upm (upm (upm (upm m 70 (m 69 2) a) 69 2 (m 69 2 + 1)) 115 (m 69 2) a) 84 47 (m 69 2 + 1)) 69 2 = m 69 2 + 1 := by simp (disch := omega) only [upm_row, upm_at]; simp
        omega
      simp (disch := omega) only [upm_row, upm_at]
      by_cases hb : b = m 69 2
      · rw [if_pos hb, if_pos hb]; omega
      · rw [if_neg hb, if_neg hb]; exact hB b h1 (by omega)
    · refine ⟨?_, ?_, ?_, ?_⟩
      · simp (disch := omega) only [upm_row, upm_at]; simp
      · simp (disch := omega) only [upm_row]
      · simp (disch := omega) only [upm_row]
      · simp (disch := omega) only [upm_row, upm_at]; simp
    · exact (((FrA.up (by omega)).tr (FrA.up (by omega))).tr (FrA.up (by omega))).tr (FrA.u84 (by omega))
  · have c := Decidable.not_not.mp c
    refine wY_body _ _ _ _ (eY_in ha (by decide) (by decide) ?_)
    rw [bz_w, bz_0, i3, w32_id (z := m 69 2) (by omega) (by omega)]
    exact ⟨fun _ => ⟨fun q => by omega, fun _ => h _ _ ⟨i1, i2, i3, i4⟩ hB ⟨rfl, rfl, rfl, rfl⟩ (FrA.rf m)⟩, fun q => by omega⟩
  · have c := Decidable.not_not.mp c
    refine wY_body _ _ _ _ (eY_in ha (by decide) (by decide) ?_)
    rw [bz_w, bz_0]
    exact ⟨fun q => by omega, fun _ => h _ _ ⟨i1, i2, i3, i4⟩ hB ⟨rfl, rfl, rfl, rfl⟩ (FrA.rf m)⟩
theorem pr_trace {a : Int} (ha : w32 a = a) (hA : IA m) {QQ : Int → Int → Bool → Mem → Prop} (h : ∀ z, QQ z z sw m) : M2 X 2 mZ_trace [vr 1, vi a] sw m (fun z1 sw1 m1 => M2 X 1 mY_trace [vr 84, vi a] sw1 m1 (fun z2 sw2 m2 => QQ z1 z2 sw2 m2)) := by
  obtain ⟨a1, a2, a3, a4⟩ := hA
  refine wZ_trace _ _ _ _ (wA_ranAt _ _ _ _ ?_)
  rw [ha, w32_id (z := m 69 3) (by omega) (by omega)]
  have key : ∀ z, (a < 0 ∨ m 69 3 ≤ a → z = -1) → (¬ a < 0 → ¬ m 69 3 ≤ a → z = m 71 a) → M2 X 1 mY_trace [vr 84, vi a] sw m (fun z2 sw2 m2 => QQ z z2 sw2 m2) := by
    intro z z1 z2
    refine wY_trace _ _ _ _ ?_
    rw [ha, a1, w32_id (z := m 69 3) (by omega) (by omega)]
    refine ⟨fun c => ?_, fun c => ⟨fun c2 => ?_, fun c2 => ⟨fun c3 => by omega, fun c3 => ⟨⟨by omega, by omega⟩, ?_⟩⟩⟩⟩
    · rw [z1 (by omega)]; exact h _
    · rw [z1 (by omega)]; exact h _
    · rw [z2 c c2, a4 a (by omega) (by omega)]; exact h _
  refine ⟨fun c => key _ (fun _ => rfl) (fun q => absurd c q), fun c => ⟨fun c2 => key _ (fun _ => rfl) (fun _ q => absurd c2 q), fun c2 => ⟨fun c3 => ⟨⟨by omega, by omega⟩, key _ (fun q => by omega) (fun _ _ => rfl)⟩, fun c3 => by omega⟩⟩⟩
/-- a body begins: the class's trace, the model's -/
def ap1 (m : Mem) (b : Int) : Mem := upm (upm m 71 (m 69 3) b) 69 3 (m 69 3 + 1)
def ay1 (m : Mem) (b : Int) : Mem := upm (upm m 116 (m 84 49) b) 84 49 (m 84 49 + 1)
def apL (m : Mem) (L : List Int) : Mem := L.foldl ap1 m
def ayL (m : Mem) (L : List Int) : Mem := L.foldl ay1 m
theorem apL_app (m : Mem) (L L2 : List Int) : apL (apL m L) L2 = apL m (L ++ L2) := by unfold apL; rw [List.foldl_append]
theorem ayL_app (m : Mem) (L L2 : List Int) : ayL (ayL m L) L2 = ayL m (L ++ L2) := by unfold ayL; rw [List.foldl_append]
theorem ap1_3 (m : Mem) (b : Int) : ap1 m b 69 3 = m 69 3 + 1 := by unfold ap1; rw [upm_at]; rfl
theorem ay1_49 (m : Mem) (b : Int) : ay1 m b 84 49 = m 84 49 + 1 := by unfold ay1; rw [upm_at]; rfl
theorem apL_3 : ∀ (L : List Int) (m : Mem), apL m L 69 3 = m 69 3 + L.length
  | [], m => by show m 69 3 = m 69 3 + ((0 : Nat) : Int); omega
  | b :: L, m => by
    show apL (ap1 m b) L 69 3 = _
    rw [apL_3 L, ap1_3, List.length_cons]
    omega
theorem ayL_49 : ∀ (L : List Int) (m : Mem), ayL m L 84 49 = m 84 49 + L.length
  | [], m => by show m 84 49 = m 84 49 + ((0 : Nat) : Int); omega
  | b :: L, m => by
    show ayL (ay1 m b) L 84 49 = _
    rw [ayL_49 L, ay1_49, List.length_cons]
    omega
theorem ap1_o (m : Mem) (b c j : Int) (h : ¬ c = 71) (h2 : ¬ (c = 69 ∧ j = 3)) : ap1 m b c j = m c j := by
  unfold ap1
  by_cases hc : c = 69
  · subst hc; rw [upm_at, if_neg (fun q => h2 ⟨rfl, q⟩), upm_row (by omega)]
  · rw [upm_row hc, upm_row h]
theorem ay1_o (m : Mem) (b c j : Int) (h : ¬ c = 116) (h2 : ¬ (c = 84 ∧ j = 49)) : ay1 m b c j = m c j := by
  unfold ay1
  by_cases hc : c = 84
  · subst hc; rw [upm_at, if_neg (fun q => h2 ⟨rfl, q⟩), upm_row (by omega)]
  · rw [upm_row hc, upm_row h]
theorem apL_o : ∀ (L : List Int) (m : Mem) (c j : Int), ¬ c = 71 → ¬ (c = 69 ∧ j = 3) → apL m L c j = m c j
  | [], m, c, j, _, _ => rfl
  | b :: L, m, c, j, h, h2 => (apL_o L (ap1 m b) c j h h2).trans (ap1_o m b c j h h2)
theorem ayL_o : ∀ (L : List Int) (m : Mem) (c j : Int), ¬ c = 116 → ¬ (c = 84 ∧ j = 49) → ayL m L c j = m c j
  | [], m, c, j, _, _ => rfl
  | b :: L, m, c, j, h, h2 => (ayL_o L (ay1 m b) c j h h2).trans (ay1_o m b c j h h2)
theorem apL_71 : ∀ (L : List Int) (m : Mem) (i : Int), i < m 69 3 → apL m L 71 i = m 71 i
  | [], m, i, _ => rfl
  | b :: L, m, i, h => by
    show apL (ap1 m b) L 71 i = _
    rw [apL_71 L (ap1 m b) i (by rw [ap1_3]; omega)]
    unfold ap1
    rw [upm_row (by omega), upm_at, if_neg (by omega)]
theorem ayL_116 : ∀ (L : List Int) (m : Mem) (i : Int), i < m 84 49 → ayL m L 116 i = m 116 i
  | [], m, i, _ => rfl
  | b :: L, m, i, h => by
    show ayL (ay1 m b) L 116 i = _
    rw [ayL_116 L (ay1 m b) i (by rw [ay1_49]; omega)]
    unfold ay1
    rw [upm_row (by omega), upm_at, if_neg (by omega)]
theorem tr_same : ∀ (L : List Int) (m m' : Mem) (i : Int), m 69 3 = m' 84 49 → (m 69 3 ≤ i → i < m 69 3 + L.length → apL m L 71 i = ayL m' L 116 i)
  | [], m, m', i, _ => fun h1 h2 => by rw [List.length_nil] at h2; omega
  | b :: L, m, m', i, h => fun h1 h2 => by
    show apL (ap1 m b) L 71 i = ayL (ay1 m' b) L 116 i
    rw [List.length_cons] at h2
    by_cases hi : i = m 69 3
    · rw [apL_71 L (ap1 m b) i (by rw [ap1_3]; omega), ayL_116 L (ay1 m' b) i (by rw [ay1_49]; omega)]
      unfold ap1 ay1
      rw [upm_row (by omega), upm_at, if_pos hi, upm_row (by omega), upm_at, if_pos (by omega)]
    · exact tr_same L (ap1 m b) (ay1 m' b) i (by rw [ap1_3, ay1_49, h]) (by rw [ap1_3]; omega) (by rw [ap1_3]; omega)
theorem eA_began {b : Int} (h0 : 0 ≤ m 69 3 ∧ m 69 3 < 24) (h : Q 0 sw (ap1 m b)) : M2 X 1 mA_began [vr 69, vi b] sw m Q := by
  refine wA_began _ _ _ _ ?_
  rw [w32_id (z := m 69 3) (by omega) (by omega)]
  exact ⟨fun c => by omega, fun _ => ⟨⟨by omega, by omega⟩, h⟩⟩
theorem eY_ran {b : Int} (h0 : 0 ≤ m 84 49 ∧ m 84 49 < 24) (h : Q 0 sw (ay1 m b)) : M2 X 1 mY_ran [vr 84, vi b] sw m Q := by
  refine wY_ran _ _ _ _ ?_
  rw [w32_id (z := m 84 49) (by omega) (by omega)]
  exact ⟨fun c => by omega, fun _ => ⟨⟨by omega, by omega⟩, h⟩⟩
end AC
