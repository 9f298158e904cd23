/-! texts: what a text comes to; law, feed in pairs -/
def TX (p : Nat) (acc : List Ln) : Prop := (cds acc).length ≤ p + 1 ∧ tot acc ≤ p ∧ 2 * acc.length ≤ p + 1 ∧ 1 ≤ acc.length ∧ ∀ q, q ∈ acc → okl q
section TXP
variable {n : Nat} {b : Nat → Int}
theorem TX.add {p : Nat} {acc : List Ln} (h : TX p acc) (hr : PL n (p + 1) (ln n b (p + 1))) (h1 : (ln n b (p + 1)).1 = true) : TX (ln n b (p + 1)).2.1 (acc ++ [(ln n b (p + 1)).2.2]) := by
  generalize ln n b (p + 1) = r at hr h1
  obtain ⟨g1, g2, g3⟩ := hr
  obtain ⟨g4, g5, g6, g7⟩ := g3 h1
  obtain ⟨t1, t2, t3, t4, t5⟩ := h
  have ec : cds [r.2.2] = cdl r.2.2 := by show cdl r.2.2 ++ [] = _; rw [List.append_nil]
  have et : tot [r.2.2] = lnl r.2.2 := by show lnl r.2.2 + 0 = _; omega
  have hl : (acc ++ [r.2.2]).length = acc.length + 1 := by rw [List.length_append]; rfl
  refine ⟨?_, ?_, ?_, ?_, ?_⟩
  · rw [cds_app, ec, List.length_append]; omega
  · rw [tot_app, et]; omega
  · omega
  · omega
  · intro q hq
    rcases List.mem_append.mp hq with h | h
    · exact t5 q h
    · rw [List.mem_singleton.mp h]; exact g7
theorem tx1P : ∀ (c p : Nat) (acc : List Ln), p ≤ n → TX p acc → (tx1 n b c p acc).1 = true → TX (tx1 n b c p acc).2.1 (tx1 n b c p acc).2.2 ∧ (tx1 n b c p acc).2.1 ≤ n
  | 0, p, acc, hp, h, _ => ⟨h, hp⟩
  | c + 1, p, acc, hp, h, hr => by
    unfold tx1 at hr ⊢
    by_cases h1 : p < n
    · rw [if_pos h1] at hr ⊢
      by_cases h2 : nx n b p = 59
      · rw [if_pos h2] at hr ⊢
        by_cases h3 : (ln n b (p + 1)).1 = true
        · rw [if_pos h3] at hr ⊢
          have hP := lnP (n := n) (b := b) (p := p + 1) (by omega)
          exact tx1P c _ _ hP.2.1 (h.add hP h3) hr
        · rw [if_neg h3] at hr
          exact absurd hr Bool.false_ne_true
      · rw [if_neg h2] at hr
        exact absurd hr Bool.false_ne_true
    · rw [if_neg h1] at hr ⊢
      exact ⟨h, hp⟩
theorem TX.one (h1 : (ln n b 0).1 = true) : TX (ln n b 0).2.1 [(ln n b 0).2.2] ∧ 1 ≤ (ln n b 0).2.1 ∧ (ln n b 0).2.1 ≤ n := by
  have hr := lnP (n := n) (b := b) (p := 0) (Nat.zero_le _)
  generalize ln n b 0 = r at hr h1
  obtain ⟨g1, g2, g3⟩ := hr
  obtain ⟨g4, g5, g6, g7⟩ := g3 h1
  have ec : cds [r.2.2] = cdl r.2.2 := by show cdl r.2.2 ++ [] = _; rw [List.append_nil]
  have et : tot [r.2.2] = lnl r.2.2 := by show lnl r.2.2 + 0 = _; omega
  refine ⟨⟨?_, ?_, ?_, ?_, ?_⟩, by omega, g2⟩
  · rw [ec]; omega
  · rw [et]; omega
  · show 2 * 1 ≤ _; omega
  · exact Nat.le_refl 1
  · intro q hq
    rw [List.mem_singleton.mp hq]; exact g7
theorem txtP (h : (txt n b).1 = true) : TX (txt n b).2.1 (txt n b).2.2 ∧ (txt n b).2.1 ≤ n := by
  unfold txt at h ⊢
  by_cases h1 : (ln n b 0).1 = true
  · rw [if_pos h1] at h ⊢
    have ho := TX.one (n := n) (b := b) h1
    exact tx1P _ _ _ ho.2.2 ho.1 h
  · rw [if_neg h1] at h
    exact absurd h Bool.false_ne_true
end TXP
/-- only the model's text cells have changed -/
def FrU (m m' : Mem) : Prop := ∀ c j : Int, ¬ (c = 84 ∧ 16 ≤ j ∧ j ≤ 20) → ¬ (97 ≤ c ∧ c ≤ 101) → m' c j = m c j
theorem FrT.u {m m' : Mem} (h : FrT m m') : FrU m m' := fun c j a b => h c j (by omega) (by omega) (by omega) (by omega)
theorem FrU.tr {m1 m2 m3 : Mem} (h : FrU m1 m2) (g : FrU m2 m3) : FrU m1 m3 := fun c j a b => (g c j a b).trans (h c j a b)
theorem FrU.up {m : Mem} {k i v : Int} (h : (k = 84 ∧ 16 ≤ i ∧ i ≤ 20) ∨ (97 ≤ k ∧ k ≤ 101)) : FrU m (upm m k i v) := fun c j a b => upm_ne (by omega)
/-- the text that counts lies unchanged -/
def Kp (m m' : Mem) : Prop := (∀ j, j < 130 → m' 97 j = m 97 j ∧ m' 98 j = m 98 j) ∧ m' 99 0 = m 99 0 ∧ ∀ j, j < 61 → m' 100 j = m 100 j ∧ m' 101 j = m 101 j
theorem FrT.k {m m' : Mem} (h : FrT m m') : Kp m m' := ⟨fun j hj => ⟨h 97 j (by omega) (by omega) (by omega) (by omega), h 98 j (by omega) (by omega) (by omega) (by omega)⟩, h 99 0 (by omega) (by omega) (by omega) (by omega), fun j hj => ⟨h 100 j (by omega) (by omega) (by omega) (by omega), h 101 j (by omega) (by omega) (by omega) (by omega)⟩⟩
abbrev LsM (m : Mem) (s l : Int) (ls : List Ln) : Prop := Ls (m 97) (m 98) (m 100) (m 101) s l 0 ls
def YQ (m : Mem) (r : Bool × Nat × List Ln) (z : Int) (m' : Mem) : Prop :=
  FrU m m' ∧ m' 84 16 = 0 ∧ ((r.1 = true ∧ z = -1 ∧ m' 99 0 = (r.2.2.length : Int) ∧ LsM m' 0 0 r.2.2) ∨ (¬ r.1 = true ∧ z = (r.2.1 : Int) ∧ Kp m m'))
section YR
variable {X : Cx} {sw : Bool} {n : Nat} {b : Nat → Int}
theorem lY_text177 {m : Mem} {K : Nat} {Q : Int → Bool → Mem → Prop} (hK : K ≤ 60) : ∀ (k : Nat), k ≤ K → ∀ m1 : Mem, m1 99 0 = (K : Int) → (∀ c, ¬ c = 100 → ¬ c = 101 → m1 c = m c) → (∀ i : Int, 61 ≤ i → m1 100 i = m 100 i ∧ m1 101 i = m 101 i) → (∀ i : Int, 0 ≤ i → i < k → m1 100 i = w16 (m 100 (61 + i)) ∧ m1 101 i = w16 (m 101 (61 + i))) → (∀ m', (∀ c, ¬ c = 100 → ¬ c = 101 → m' c = m c) → (∀ i : Int, 0 ≤ i → i < K → m' 100 i = w16 (m 100 (61 + i)) ∧ m' 101 i = w16 (m 101 (61 + i))) → Q (-1) sw m') → R2 X 82 mY_readText 177 [(0, vr 84), (1, vi 0), (2, vi (k : Int))] [] sw m1 Q := by
  refine downN K (fun m1 h0 hF hH hL h => ?_) (fun k hk ih m1 h0 hF hH hL h => ?_)
  · refine wY_readText_177 _ _ _ _ _ ?_
    rw [show w32 0 = 0 from by decide, h0, w32_id (z := (K : Int)) (by omega) (by omega)]
    exact ⟨by omega, fun _ => h m1 hF hL, fun q => absurd (Int.le_refl _) q⟩
  · refine wY_readText_177 _ _ _ _ _ ?_
    rw [show w32 0 = 0 from by decide, h0, w32_id (z := (K : Int)) (by omega) (by omega), w32_id (z := (k : Int)) (by omega) (by omega), w32_id (z := 61 + (k : Int)) (by omega) (by omega), show (61 : Int) * 0 + (k : Int) = k by omega, w32_id (z := (k : Int)) (by omega) (by omega)]
    refine ⟨by omega, fun q => by omega, fun _ => ⟨by omega, by omega, by omega, by omega, ih _ ?_ (fun c c1 c2 => ?_) (fun i hi => ?_) (fun i i0 i1 => ?_) h⟩⟩
    · rw [upm_row (by omega), upm_row (by omega)]; exact h0
    · rw [upm_row (by omega), upm_row (by omega)]; exact hF c c1 c2
    · simp (disch := omega) only [upm_row, upm_ne]; exact hH i hi
    · by_cases hik : i = (k : Int)
      · subst hik
        have e1 := (hH (61 + (k : Int)) (by omega)).1
        have e2 := (hH (61 + (k : Int)) (by omega)).2
        refine ⟨?_, ?_⟩
        · rw [upm_row (by omega), upm_at, if_pos rfl, e1]
        · rw [upm_at, if_pos rfl]
          first | rw [upm_row (by omega), e2] | rw [e2]
      · simp (disch := omega) only [upm_row, upm_ne]; exact hL i i0 (by omega)
theorem lY_text105 {m : Mem} {K : Nat} {A : Nat} {Q : Int → Bool → Mem → Prop} (hK : K ≤ 60) (hA : A ≤ 120) (h20 : m 84 20 = (A : Int)) (h99 : m 99 1 = (K : Int)) (h : ∀ m', (∀ c, ¬ (97 ≤ c ∧ c ≤ 101) → m' c = m c) → m' 99 0 = (K : Int) → (∀ i : Int, 0 ≤ i → i < A → m' 97 i = w8 (m 97 (130 + i)) ∧ m' 98 i = m 98 (130 + i)) → (∀ i : Int, 0 ≤ i → i < K → m' 100 i = w16 (m 100 (61 + i)) ∧ m' 101 i = w16 (m 101 (61 + i))) → Q (-1) sw m') : R2 X 82 mY_readText 105 [(0, vr 84), (1, vi 0), (2, vi 0)] [] sw m Q := by
  have key : ∀ (k : Nat), k ≤ A → ∀ m1 : Mem, (∀ c, ¬ c = 97 → ¬ c = 98 → m1 c = m c) → (∀ i : Int, 130 ≤ i → m1 97 i = m 97 i ∧ m1 98 i = m 98 i) → (∀ i : Int, 0 ≤ i → i < k → m1 97 i = w8 (m 97 (130 + i)) ∧ m1 98 i = m 98 (130 + i)) → R2 X 82 mY_readText 105 [(0, vr 84), (1, vi 0), (2, vi (k : Int))] [] sw m1 Q := by
    refine downN A (fun m1 hF hH hL => ?_) (fun k hk ih m1 hF hH hL => ?_)
    · refine wY_readText_105 _ _ _ _ _ ?_
      rw [hF 84 (by omega) (by omega), h20, show w32 0 = 0 from by decide, w32_id (z := (A : Int)) (by omega) (by omega), hF 99 (by omega) (by omega), h99]
      refine ⟨fun _ => ⟨by omega, ?_⟩, fun q => absurd (Int.le_refl _) q⟩
      refine lY_text177 (m := upm m1 99 0 (K : Int)) (K := K) hK 0 (Nat.zero_le _) _ ?_ (fun c _ _ => rfl) (fun i _ => ⟨rfl, rfl⟩) (fun i i0 i1 => by omega) (fun m' f1 f2 => h m' (fun c hc => ?_) ?_ (fun i i0 i1 => ?_) (fun i i0 i1 => ?_))
      · rw [upm_at, if_pos rfl]
      · rw [f1 c (by omega) (by omega), upm_row (by omega)]; exact hF c (by omega) (by omega)
      · rw [f1 99 (by omega) (by omega), upm_at, if_pos rfl]
      · rw [f1 97 (by omega) (by omega), f1 98 (by omega) (by omega)]
        simp (disch := omega) only [upm_row]
        exact hL i i0 i1
      · have := f2 i i0 i1
        simp (disch := omega) only [upm_row] at this
        rw [hF 100 (by omega) (by omega), hF 101 (by omega) (by omega)] at this
        exact this
    · refine wY_readText_105 _ _ _ _ _ ?_
      rw [hF 84 (by omega) (by omega), h20, show w32 0 = 0 from by decide, w32_id (z := (A : Int)) (by omega) (by omega), w32_id (z := (k : Int)) (by omega) (by omega), w32_id (z := 130 + (k : Int)) (by omega) (by omega), show (130 : Int) * 0 + (k : Int) = k by omega, w32_id (z := (k : Int)) (by omega) (by omega)]
      refine ⟨fun q => by omega, fun _ => ⟨by omega, by omega, by omega, by omega, ih _ (fun c c1 c2 => ?_) (fun i hi => ?_) (fun i i0 i1 => ?_)⟩⟩
      · rw [upm_row (by omega), upm_row (by omega)]; exact hF c c1 c2
      · simp (disch := omega) only [upm_row, upm_ne]; exact hH i hi
      · by_cases hik : i = (k : Int)
        · subst hik
          have e1 := (hH (130 + (k : Int)) (by omega)).1
          have e2 := (hH (130 + (k : Int)) (by omega)).2
          refine ⟨?_, ?_⟩
          · rw [upm_row (by omega), upm_at, if_pos rfl, e1]
          · rw [upm_at, if_pos rfl]
            first | rw [upm_row (by omega), e2] | rw [e2]
        · simp (disch := omega) only [upm_row, upm_ne]; exact hL i i0 (by omega)
  exact key 0 (Nat.zero_le _) m (fun _ _ _ => rfl) (fun _ _ => ⟨rfl, rfl⟩) (fun i i0 i1 => by omega)
/-- a fault stands: the text falls -/
theorem lY_textF {m m1 : Mem} {q : Nat} {Q : Int → Bool → Mem → Prop} {r : Bool × Nat × List Ln} (hq : q ≤ 120) (hr : ¬ r.1 = true ∧ r.2.1 = q) (hF : FrT m m1) (h18 : m1 84 18 = (q : Int)) (h : ∀ z m', YQ m r z m' → Q z sw m') : R2 X 82 mY_readText 31 [(0, vr 84), (1, vi 0)] [] sw m1 Q := by
  have hY : YQ m r (q : Int) (upm m1 84 16 0) := by
    refine ⟨hF.u.tr (FrU.up (by omega)), by rw [upm_at, if_pos rfl], Or.inr ⟨hr.1, by rw [hr.2], ?_⟩⟩
    have hk := hF.k
    unfold Kp
    simp (disch := omega) only [upm_row]
    exact hk
  refine wY_readText_31 _ _ _ _ ?_
  rw [h18, w32_id (z := (q : Int)) (by omega) (by omega)]
  exact ⟨fun _ => ⟨fun _ => ⟨fun c => by omega, fun _ => h _ _ hY⟩, fun c => by omega⟩, fun c => by omega⟩
theorem lY_text {m : Mem} {Q : Int → Bool → Mem → Prop} (hT : tY n b m) : ∀ (c p : Nat) (acc : List Ln) (m1 : Mem), 120 < p + c → FrT m m1 → yA n p 0 (tot acc : Int) m1 → m1 99 1 = (acc.length : Int) → TX p acc → LsM m1 130 61 acc → (∀ z m', YQ m (tx1 n b c p acc) z m' → Q z sw m') → R2 X 82 mY_readText 31 [(0, vr 84), (1, vi 0)] [] sw m1 Q := by
  intro c
  have hn := hT.2.1
  induction c with
  | zero => intro p acc m1 pc hF hA; have := hA.2.1; omega
  | succ c ih =>
    intro p acc m1 pc hF hA h99 hX hL h
    have hT1 := hT.ft hF
    have hA' := hA
    obtain ⟨a1, a2, a3, a4, a5, a6, a7⟩ := hA'
    have hX' := hX
    obtain ⟨t1, t2, t3, t4, t5⟩ := hX'
    unfold tx1 at h
    refine wY_readText_31 _ _ _ _ ?_
    have hyb := ny_b (n := n) (b := b) (p := p)
    have hxb := nx_b' (p := p) hT
    have hyx := ny_nx (p := p) hT
    rw [a3]
    refine ⟨fun q => absurd q (by decide), fun _ => eY_looksOn hT1 a1 a2 ?_⟩
    rw [w32_id (z := ny n b p) (by omega) (by omega), a3, hT1.1, a1, w32_id (z := (n : Int)) (by omega) (by omega), w32_id (z := (p : Int)) (by omega) (by omega)]
    refine ⟨fun c1 => ⟨fun q => absurd q (by decide), fun _ => ⟨fun c2 => ⟨fun _ => ?_, fun q => absurd (by decide) q⟩, fun c2 => ?_⟩⟩, fun c1 => ?_⟩
    · rw [if_neg (by omega)] at h
      refine lY_text105 (K := acc.length) (A := tot acc) (by omega) (by omega) ?_ ?_ (fun m' f1 f2 f3 f4 => h _ _ ⟨?_, ?_, Or.inl ⟨rfl, rfl, f2, ?_⟩⟩)
      · rw [upm_at, if_neg (by omega)]; exact a5
      · rw [upm_row (by omega)]; exact h99
      · exact hF.u.tr ((FrU.up (m := m1) (k := 84) (i := 16) (v := 0) (by omega)).tr (fun c' j _ q => by rw [f1 c' q]))
      · rw [f1 84 (by omega), upm_at, if_pos rfl]
      · show LsM m' 0 0 acc
        unfold LsM at hL ⊢
        refine Ls.mv (l := 61) (s := 130) (l' := 0) (s' := 0) (k := 0) hL (by omega) (by omega) (fun i i0 i1 => ?_) (fun i i0 i1 => ?_) (by omega)
        · have := f3 i i0 (by omega)
          simp (disch := omega) only [upm_row] at this
          rw [show (0 : Int) + i = i by omega]
          exact this
        · have := f4 i i0 (by omega)
          simp (disch := omega) only [upm_row] at this
          rw [show (0 : Int) + i = i by omega]
          exact this
    · rw [if_pos (by omega), if_neg (by omega)] at h
      refine eY_wrong (p := p) a3 ?_
      have e18 : upm m1 84 18 (m1 84 17) 84 18 = (p : Int) := by rw [upm_at, if_pos rfl]; exact a1
      rw [a1] at e18 ⊢
      rw [e18, w32_id (z := (p : Int)) (by omega) (by omega)]
      refine ⟨fun q => by omega, fun _ => h _ _ ⟨hF.u.tr ((FrU.up (by omega)).tr (FrU.up (by omega))), by rw [upm_at, if_pos rfl], Or.inr ⟨Bool.false_ne_true, rfl, ?_⟩⟩⟩
      have hk := hF.k
      unfold Kp
      simp (disch := omega) only [upm_row]
      exact hk
    · have hlt := nx_lt (n := n) (b := b) (p := p) (by omega)
      rw [if_pos (by omega), if_pos (by omega)] at h
      have hF2 : FrT m (upm m1 84 17 ((p : Int) + 1)) := hF.tr (FrT.up (by omega))
      have hA2 : yA n (p + 1) 0 (tot acc : Int) (upm m1 84 17 ((p : Int) + 1)) := by
        unfold yA
        simp (disch := omega) only [upm_row, upm_ne]
        refine ⟨?_, by omega, a3, a4, a5, a6, by omega⟩
        rw [upm_at, if_pos rfl]; rfl
      refine eY_line (k := (acc.length : Int)) (hT.ft hF2) hA2 (by rw [upm_row (by omega)]; exact h99) (by omega) (fun m3 hP3 => ?_)
      have hP := lnP (n := n) (b := b) (p := p + 1) (by omega)
      obtain ⟨q1, q2, q3⟩ := hP3
      have hF3 := hF2.tr q1
      rcases q3 with ⟨x1, x2, x3, x4, x5, x6, x7, x8⟩ | ⟨x1, x2, x3, x4⟩
      · rw [if_pos x1] at h
        have hX2 := hX.add hP x1
        have et : (tot (acc ++ [(ln n b (p + 1)).2.2]) : Int) = (tot acc : Int) + (lnl (ln n b (p + 1)).2.2 : Int) := by
          rw [tot_app]; show ((tot acc + (lnl (ln n b (p + 1)).2.2 + 0) : Nat) : Int) = _; omega
        have el : ((acc ++ [(ln n b (p + 1)).2.2]).length : Int) = (acc.length : Int) + 1 := by rw [List.length_append]; rfl
        have hpp : p + 1 ≤ (ln n b (p + 1)).2.1 := hP.1
        refine ih (ln n b (p + 1)).2.1 (acc ++ [(ln n b (p + 1)).2.2]) m3 (by omega) hF3 (by rw [et]; exact x2) (by rw [q2, el]) hX2 ?_ h
        unfold LsM at hL ⊢
        rw [Ls.app]
        refine ⟨?_, ?_⟩
        · have s1 : ∀ i : Int, i < 130 + (tot acc : Int) → m3 97 i = m1 97 i ∧ m3 98 i = m1 98 i := fun i hi => by
            have := x3 i hi
            simp (disch := omega) only [upm_row] at this
            exact this
          have s2 : ∀ i : Int, i < 61 + (acc.length : Int) → m3 100 i = m1 100 i ∧ m3 101 i = m1 101 i := fun i hi => by
            have := x4 i hi
            simp (disch := omega) only [upm_row] at this
            exact this
          exact Ls.fr hL (by omega) (fun i hi => s1 i (by omega)) s2
        · refine ⟨?_, ?_, ?_, ?_, trivial⟩
          · rw [x5]; omega
          · rw [x6]; omega
          · rw [show (130 : Int) + (0 + (tot acc : Int)) = 130 + (tot acc : Int) by omega]; exact x7
          · rw [show (130 : Int) + (0 + (tot acc : Int)) = 130 + (tot acc : Int) by omega]; exact x8
      · rw [if_neg x1] at h
        exact lY_textF (q := (ln n b (p + 1)).2.1) (by omega) ⟨Bool.false_ne_true, rfl⟩ hF3 x4 h
theorem eY_readText {m : Mem} {Q : Int → Bool → Mem → Prop} (hT : tY n b m) (h : ∀ z m', YQ m (txt n b) z m' → Q z sw m') : M2 X 82 mY_readText [vr 84, vi 0] sw m Q := by
  have hn := hT.2.1
  refine wY_readText _ _ _ _ ?_
  generalize hm0 : upm (upm (upm (upm (upm m 84 17 0) 84 18 (-1)) 84 19 0) 84 20 0) 99 1 0 = m0
  have hF0 : FrT m m0 := by rw [← hm0]; exact ((((FrT.up (by omega)).tr (FrT.up (by omega))).tr (FrT.up (by omega))).tr (FrT.up (by omega))).tr (FrT.up (by omega))
  have hA0 : yA n 0 0 0 m0 := by
    rw [← hm0]
    unfold yA
    refine ⟨?_, by omega, ?_, ?_, ?_, by omega, by omega⟩
    · simp (disch := omega) only [upm_row, upm_ne]; rw [upm_at, if_pos rfl]; rfl
    · simp (disch := omega) only [upm_row, upm_ne]; rw [upm_at, if_pos rfl]
    · simp (disch := omega) only [upm_row, upm_ne]; rw [upm_at, if_pos rfl]
    · simp (disch := omega) only [upm_row, upm_ne]; rw [upm_at, if_pos rfl]
  have h990 : m0 99 1 = 0 := by rw [← hm0, upm_at, if_pos rfl]
  unfold txt at h
  refine eY_line (hT.ft hF0) hA0 h990 (by omega) (fun m3 hP3 => ?_)
  obtain ⟨q1, q2, q3⟩ := hP3
  have hF3 := hF0.tr q1
  rcases q3 with ⟨x1, x2, x3, x4, x5, x6, x7, x8⟩ | ⟨x1, x2, x3, x4⟩
  · rw [if_pos x1] at h
    have ho := TX.one (n := n) (b := b) x1
    have et : (0 : Int) + (lnl (ln n b 0).2.2 : Int) = (tot [(ln n b 0).2.2] : Int) := by show _ = ((lnl (ln n b 0).2.2 + 0 : Nat) : Int); omega
    rw [et] at x2
    refine lY_text hT 120 _ _ m3 (by omega) hF3 x2 (by rw [q2]; rfl) ho.1 ?_ h
    exact ⟨x5, x6, x7, x8, trivial⟩
  · rw [if_neg x1] at h
    exact lY_textF (q := (ln n b 0).2.1) (by omega) ⟨Bool.false_ne_true, rfl⟩ hF3 x4 h
end YR
