/-! part, parts -/
def DS (c j : Int) : Prop := (c = 69 ∧ j = 2) ∨ (c = 84 ∧ j = 47) ∨ (73 ≤ c ∧ c ≤ 83) ∨ (117 ≤ c ∧ c ≤ 119)
theorem IS1.fr {m m' : Mem} {s : Int} (hs : 0 ≤ s ∧ s < 6) (h : IS1 m s) (f : ∀ c j, DS c j → m' c j = m c j) : IS1 m' s := by
  unfold IS1 at *
  rw [f 73 s (by unfold DS; omega), f 117 s (by unfold DS; omega), f 74 s (by unfold DS; omega), f 69 2 (by unfold DS; omega), f 75 s (by unfold DS; omega), f 76 s (by unfold DS; omega), f 118 s (by unfold DS; omega)]
  refine ⟨?_, fun i h1 h2 => ?_⟩
  · rcases h.1 with h0 | h0 | h0
    · exact Or.inl h0
    · exact Or.inr (Or.inl h0)
    · refine Or.inr (Or.inr ⟨h0.1, h0.2.1, h0.2.2.1, h0.2.2.2.1, h0.2.2.2.2.1, h0.2.2.2.2.2.1, h0.2.2.2.2.2.2.1, fun e i h1 h2 => ?_⟩)
      rw [f (78 + s) i (by unfold DS; omega)]
      exact h0.2.2.2.2.2.2.2 e i h1 h2
  · rw [f 119 (60 * s + i) (by unfold DS; omega), f (78 + s) i (by unfold DS; omega)]
    exact h.2 i h1 h2
theorem IS.fr {m m' : Mem} (h : IS m) (f : ∀ c j, DS c j → m' c j = m c j) : IS m' := by
  obtain ⟨h1, h2, h3, h4⟩ := h
  refine ⟨?_, ?_, ?_, fun s s1 s2 => (h4 s s1 s2).fr ⟨s1, s2⟩ f⟩
  · rw [f 69 2 (by unfold DS; omega)]; exact h1
  · rw [f 69 2 (by unfold DS; omega)]; exact h2
  · rw [f 69 2 (by unfold DS; omega), f 84 47 (by unfold DS; omega)]; exact h3
abbrev ok3 (n a w t : Int) : Prop := (0 ≤ a ∧ a < p2 n) ∧ (0 ≤ w ∧ w ≤ 12) ∧ (1 ≤ t ∧ t ≤ 60)
def xa (m : Mem) (n a w t : Int) : Mem := wr (wr (wr (upm m 2 3 (n + 1)) 0 n a) 2 n w) 3 n t
def ya (m : Mem) (n a w t : Int) : Mem := upm (upm (upm (upm (upm (upm (upm m 85 n a) 86 n 0) 87 n w) 88 n t) 89 n 0) 90 n 0) 84 1 (n + 1)
def xad (m : Mem) (n q : Int) (tr : Int → Int → Int) : Mem := fun c j => if c = 2 ∧ j = 3 then n + q else if c = 2 ∧ j = 4 then m 2 4 + 3 * q else if c = 2 ∧ j = 5 then m 2 5 + 2 * q else if (c = 4 ∨ c = 6 ∨ c = 7) ∧ n ≤ j ∧ j < n + q then tr (j - n) (if c = 4 then 0 else c - 5) else m c j
def yad (m : Mem) (n q : Int) (tr : Int → Int → Int) : Mem := fun c j => if c = 84 ∧ j = 1 then n + q else if (85 ≤ c ∧ c ≤ 90) ∧ n ≤ j ∧ j < n + q then (if c = 85 then tr (j - n) 0 else if c = 87 then tr (j - n) 1 else if c = 88 then tr (j - n) 2 else 0) else m c j
theorem xad_0 {m : Mem} {n : Int} {tr : Int → Int → Int} (h : m 2 3 = n) : xad m n 0 tr = m := by
  funext c j
  unfold xad
  by_cases h1 : c = 2 ∧ j = 3
  · rw [if_pos h1, h1.1, h1.2, h]; omega
  · rw [if_neg h1]
    by_cases h2 : c = 2 ∧ j = 4
    · rw [if_pos h2, h2.1, h2.2]; omega
    · rw [if_neg h2]
      by_cases h3 : c = 2 ∧ j = 5
      · rw [if_pos h3, h3.1, h3.2]; omega
      · rw [if_neg h3, if_neg (by omega)]
theorem yad_0 {m : Mem} {n : Int} {tr : Int → Int → Int} (h : m 84 1 = n) : yad m n 0 tr = m := by
  funext c j
  unfold yad
  by_cases h1 : c = 84 ∧ j = 1
  · rw [if_pos h1, h1.1, h1.2, h]; omega
  · rw [if_neg h1, if_neg (by omega)]
theorem xad_s {m : Mem} {n q : Int} {tr : Int → Int → Int} (hq : 0 ≤ q) : xa (xad m n q tr) (n + q) (tr q 0) (tr q 1) (tr q 2) = xad m n (q + 1) tr := by
  have e4 : xad m n q tr 2 4 = m 2 4 + 3 * q := by unfold xad; rw [if_neg (by omega), if_pos ⟨rfl, rfl⟩]
  have e5 : xad m n q tr 2 5 = m 2 5 + 2 * q := by unfold xad; rw [if_neg (by omega), if_neg (by omega), if_pos ⟨rfl, rfl⟩]
  funext c j
  have ex : ∀ c j, xa (xad m n q tr) (n + q) (tr q 0) (tr q 1) (tr q 2) c j = if c = 2 ∧ j = 3 then n + q + 1 else if c = 2 ∧ j = 4 then m 2 4 + 3 * q + 3 else if c = 2 ∧ j = 5 then m 2 5 + 2 * q + 2 else if c = 4 ∧ j = n + q then tr q 0 else if c = 6 ∧ j = n + q then tr q 1 else if c = 7 ∧ j = n + q then tr q 2 else xad m n q tr c j := by
    intro c j
    unfold xa wr
    by_cases h1 : c = 2 ∧ j = 3
    · rw [if_pos h1, h1.1, h1.2]; simp (disch := omega) only [upm_row, upm_at, Int.reduceAdd]; simp
    · rw [if_neg h1]
      by_cases h2 : c = 2 ∧ j = 4
      · rw [if_pos h2, h2.1, h2.2]; simp (disch := omega) only [upm_row, upm_at, e4]; simp; omega
      · rw [if_neg h2]
        by_cases h3 : c = 2 ∧ j = 5
        · rw [if_pos h3, h3.1, h3.2]; simp (disch := omega) only [upm_row, upm_at, e5]; simp; omega
        · rw [if_neg h3]
          by_cases h6 : c = 4 ∧ j = n + q
          · rw [if_pos h6, h6.1, h6.2]; simp (disch := omega) only [upm_row, upm_at, Int.reduceAdd]; simp
          · rw [if_neg h6]
            by_cases h7 : c = 6 ∧ j = n + q
            · rw [if_pos h7, h7.1, h7.2]; simp (disch := omega) only [upm_row, upm_at, Int.reduceAdd]; simp
            · rw [if_neg h7]
              by_cases h8 : c = 7 ∧ j = n + q
              · rw [if_pos h8, h8.1, h8.2]; simp (disch := omega) only [upm_row, upm_at, Int.reduceAdd]; simp
              · rw [if_neg h8]; simp (disch := omega) only [upm_ne]
  rw [ex]
  unfold xad
  by_cases h1 : c = 2 ∧ j = 3
  · rw [if_pos h1, if_pos h1]; omega
  · rw [if_neg h1, if_neg h1, if_neg h1]
    by_cases h2 : c = 2 ∧ j = 4
    · rw [if_pos h2, if_pos h2]; omega
    · rw [if_neg h2, if_neg h2, if_neg h2]
      by_cases h3 : c = 2 ∧ j = 5
      · rw [if_pos h3, if_pos h3]; omega
      · rw [if_neg h3, if_neg h3, if_neg h3]
        by_cases h6 : (c = 4 ∨ c = 6 ∨ c = 7) ∧ j = n + q
        · rw [if_pos (show (c = 4 ∨ c = 6 ∨ c = 7) ∧ n ≤ j ∧ j < n + (q + 1) by omega), show j - n = q by omega]
          rcases h6.1 with h | h | h
          · rw [if_pos ⟨h, h6.2⟩, if_pos h]
          · rw [if_neg (by omega), if_pos ⟨h, h6.2⟩, if_neg (by omega), h]; rfl
          · rw [if_neg (by omega), if_neg (by omega), if_pos ⟨h, h6.2⟩, if_neg (by omega), h]; rfl
        · rw [if_neg (by omega), if_neg (by omega), if_neg (by omega)]
          by_cases h7 : (c = 4 ∨ c = 6 ∨ c = 7) ∧ n ≤ j ∧ j < n + q
          · rw [if_pos h7, if_pos (show (c = 4 ∨ c = 6 ∨ c = 7) ∧ n ≤ j ∧ j < n + (q + 1) by omega)]
          · rw [if_neg h7, if_neg (by omega)]
theorem yad_s {m : Mem} {n q : Int} {tr : Int → Int → Int} (hq : 0 ≤ q) : ya (yad m n q tr) (n + q) (tr q 0) (tr q 1) (tr q 2) = yad m n (q + 1) tr := by
  funext c j
  unfold ya
  by_cases h1 : c = 84 ∧ j = 1
  · rw [h1.1, h1.2, upm_at, if_pos rfl]
    unfold yad
    rw [if_pos ⟨rfl, rfl⟩]; omega
  · rw [upm_ne (by omega)]
    by_cases h2 : (85 ≤ c ∧ c ≤ 90) ∧ j = n + q
    · have hr : yad m n (q + 1) tr c j = (if c = 85 then tr q 0 else if c = 87 then tr q 1 else if c = 88 then tr q 2 else 0) := by
        unfold yad
        rw [if_neg h1, if_pos (by omega), show j - n = q by omega]
      rw [hr, h2.2]
      have h6 : c = 85 ∨ c = 86 ∨ c = 87 ∨ c = 88 ∨ c = 89 ∨ c = 90 := by omega
      rcases h6 with h6 | h6 | h6 | h6 | h6 | h6 <;> subst h6 <;> simp (disch := omega) only [upm_row, upm_at] <;> simp
    · simp (disch := omega) only [upm_ne]
      unfold yad
      rw [if_neg h1, if_neg h1]
      by_cases h3 : (85 ≤ c ∧ c ≤ 90) ∧ n ≤ j ∧ j < n + q
      · rw [if_pos h3, if_pos (show (85 ≤ c ∧ c ≤ 90) ∧ n ≤ j ∧ j < n + (q + 1) by omega)]
      · rw [if_neg h3, if_neg (by omega)]
