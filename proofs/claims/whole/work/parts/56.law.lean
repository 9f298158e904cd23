/-! law, feed, works in pairs; twelfths in both -/
def IT (m : Mem) : Prop := ∃ (n : Nat) (b : Nat → Int), tT n b m ∧ tY n b m
def IW (w : Option (List Ln)) (sw : Bool) (m : Mem) : Prop := match w with
  | none => m 84 28 = 0 ∧ m 18 5 = 0
  | some ls => m 84 28 = 1 ∧ (∃ p, p ≤ 120 ∧ TX p ls) ∧ m 18 5 = ((cds ls).length : Int) ∧ Sg (m (rcode sw)) 0 (cds ls) ∧ m 99 0 = (ls.length : Int) ∧ LsM m 0 0 ls
theorem tx1b {n : Nat} {b : Nat → Int} : ∀ (c p : Nat) (acc : List Ln), p ≤ n → (tx1 n b c p acc).2.1 ≤ n
  | 0, p, acc, hp => hp
  | c + 1, p, acc, hp => by
    unfold tx1
    by_cases h1 : p < n
    · rw [if_pos h1]
      have hP := lnP (n := n) (b := b) (p := p + 1) (by omega)
      by_cases h2 : nx n b p = 59
      · rw [if_pos h2]
        by_cases h3 : (ln n b (p + 1)).1 = true
        · rw [if_pos h3]; exact tx1b c _ _ hP.2.1
        · rw [if_neg h3]; exact hP.2.1
      · rw [if_neg h2]; exact hp
    · rw [if_neg h1]; exact hp
theorem txtb {n : Nat} {b : Nat → Int} : (txt n b).2.1 ≤ n := by
  have hP := lnP (n := n) (b := b) (p := 0) (Nat.zero_le _)
  unfold txt
  by_cases h1 : (ln n b 0).1 = true
  · rw [if_pos h1]; exact tx1b _ _ _ hP.2.1
  · rw [if_neg h1]; exact hP.2.1
theorem cdl_pos (q : Ln) : 1 ≤ (cdl q).length := by
  unfold cdl
  split <;> simp only [List.length_append] <;> simp
theorem cds_pos : ∀ (ls : List Ln), 1 ≤ ls.length → 1 ≤ (cds ls).length
  | [], h => absurd h (by decide)
  | q :: ls, _ => by
    show 1 ≤ (cdl q ++ cds ls).length
    have := cdl_pos q
    rw [List.length_append]; omega
def FrW (m m' : Mem) : Prop := ∀ c j : Int, ¬ (c = 18 ∧ 4 ≤ j ∧ j ≤ 8) → ¬ (21 ≤ c ∧ c ≤ 22) → ¬ (c = 2 ∧ j = 4) → ¬ (c = 84 ∧ ((16 ≤ j ∧ j ≤ 20) ∨ j = 28)) → ¬ (97 ≤ c ∧ c ≤ 101) → m' c j = m c j
def FrF (m m' : Mem) : Prop := ∀ c j : Int, ¬ (c = 18 ∧ j = 4) → ¬ c = 19 → ¬ (c = 84 ∧ j = 16) → ¬ c = 96 → m' c j = m c j
section LW
variable {X : Cx} {sw : Bool} {m : Mem} {Q : Int → Bool → Mem → Prop}
theorem pr_feed {a : Int} (ha : w32 a = a) (hT : IT m) {QQ : Int → Int → Bool → Mem → Prop} (h : ∀ z m', IT m' → FrF m m' → QQ z z sw m') : M2 X 2 mZ_feed [vr 1, vi a] sw m (fun z1 sw1 m1 => M2 X 2 mY_feed [vr 84, vi a] sw1 m1 (fun z2 sw2 m2 => QQ z1 z2 sw2 m2)) := by
  have hT' := hT
  obtain ⟨n, b, h1, h2⟩ := hT'
  obtain ⟨a1, a2, a3⟩ := h1
  obtain ⟨b1, b2, b3⟩ := h2
  have en : w32 (n : Int) = (n : Int) := w32_id (by omega) (by omega)
  have neg : ¬ (0 ≤ a ∧ a ≤ 255) → M2 X 2 mY_feed [vr 84, vi a] sw m (fun z2 sw2 m2 => QQ (-1) z2 sw2 m2) := fun q => by
    refine wY_feed _ _ _ _ (eY_in ha (by decide) (by decide) ?_)
    rw [bz_w, bz_0]
    exact ⟨fun c => absurd (Decidable.not_not.mp c) q, fun c => h _ m hT (fun _ _ _ _ _ _ => rfl)⟩
  refine wZ_feed _ _ _ _ ?_
  rw [ha]
  refine ⟨fun q => neg (by omega), fun q => ⟨fun q2 => wL_append _ _ _ _ ?_, fun q2 => neg (by omega)⟩⟩
  rw [a1, en]
  refine ⟨fun q3 => ⟨by omega, ?_⟩, fun q3 => ?_⟩
  · refine wY_feed _ _ _ _ (eY_in ha (by decide) (by decide) ?_)
    rw [bz_w, bz_0]
    simp (disch := omega) only [upm_row]
    rw [b1, en]
    refine ⟨fun c => ⟨fun c2 => ⟨by omega, ?_⟩, fun c2 => by omega⟩, fun c => by omega⟩
    have e8 : w8 (w8 a) = w8 a := by simp only [w8_eq]; omega
    rw [e8]
    refine h _ _ ⟨n + 1, fun i => if i = n then a else b i, ⟨?_, by omega, fun i hi => ?_⟩, ⟨?_, by omega, fun i hi => ?_⟩⟩ (fun c j q1 q2 q3 q4 => by simp (disch := omega) only [upm_ne])
    · simp (disch := omega) only [upm_row]; rw [upm_at, if_pos rfl]; omega
    · simp (disch := omega) only [upm_row]
      by_cases hin : i = n
      · subst hin; rw [if_pos rfl, upm_at, if_pos rfl]; omega
      · rw [if_neg hin, upm_at, if_neg (by omega)]; exact a3 i (by omega)
    · rw [upm_at, if_pos rfl]; omega
    · simp (disch := omega) only [upm_row]
      by_cases hin : i = n
      · subst hin; rw [if_pos rfl, upm_at, if_pos rfl]; exact ⟨rfl, by omega, by omega⟩
      · rw [if_neg hin, upm_at, if_neg (by omega), upm_row (by omega), upm_row (by omega)]; exact b3 i (by omega)
  · refine wY_feed _ _ _ _ (eY_in ha (by decide) (by decide) ?_)
    rw [bz_w, bz_0, b1, en]
    exact ⟨fun c => ⟨fun c2 => by omega, fun c2 => h _ m hT (fun _ _ _ _ _ _ => rfl)⟩, fun c => by omega⟩
theorem pr_law {w : Option (List Ln)} (hT : IT m) (hW : IW w sw m) {QQ : Int → Int → Bool → Mem → Prop} (h : ∀ z sw' m' w', IT m' → IW w' sw' m' → FrW m m' → ((w' = w ∧ m' 2 4 = m 2 4) ∨ m' 2 4 = m 2 4 + 1) → QQ z z sw' m') : M2 X 83 mZ_law [vr 1] sw m (fun z1 sw1 m1 => M2 X 83 mY_law [vr 84] sw1 m1 (fun z2 sw2 m2 => QQ z1 z2 sw2 m2)) := by
  obtain ⟨n, b, h1, h2⟩ := hT
  have hb := rdr_b sw
  have hc := rco_b sw
  have hq := txtb (n := n) (b := b)
  have hn := h1.2.1
  have mk0 : ∀ M : Mem, M 18 4 = 0 → M 84 16 = 0 → IT M := fun M q1 q2 => ⟨0, b, ⟨q1, by omega, fun i hi => absurd hi (Nat.not_lt_zero _)⟩, ⟨q2, by omega, fun i hi => absurd hi (Nat.not_lt_zero _)⟩⟩
  refine wZ_law _ _ _ (eL_adopt h1 (fun z sw' m1 hX => ?_))
  obtain ⟨x1, x2, x3⟩ := hX
  rcases x3 with ⟨y1, y2, y3, y4, y5⟩ | ⟨y1, y2, y3, y4, y5⟩
  · subst y2; subst y3
    rw [show w32 1 = 1 by decide]
    refine ⟨fun _ => ?_, fun q => absurd (by decide) q⟩
    generalize hm2 : upm m1 2 4 (m1 2 4 + 1) = m2
    have g4 : m2 2 4 = m 2 4 + 1 := by rw [← hm2, upm_at, if_pos rfl, x1 2 4 (by omega) (by omega)]
    have go : ∀ c j, ¬ (c = 2 ∧ j = 4) → m2 c j = m1 c j := fun c j q => by rw [← hm2, upm_ne q]
    have hT2 : tY n b m2 := by
      refine ⟨?_, h2.2.1, fun i hi => ?_⟩
      · rw [go 84 16 (by omega), x1 84 16 (by omega) (by omega)]; exact h2.1
      · rw [go 96 i (by omega), x1 96 i (by omega) (by omega)]; exact h2.2.2 i hi
    refine wY_law _ _ _ (eY_readText hT2 (fun z2 m3 hY => ?_))
    obtain ⟨u1, u2, u3⟩ := hY
    rcases u3 with ⟨v1, v2, v3, v4⟩ | ⟨v1, v2, v3⟩
    · subst v2
      have hp := txtP (n := n) (b := b) y1
      rw [show w32 (-1) = -1 by decide]
      refine ⟨fun _ => ?_, fun q => absurd (by decide) q⟩
      refine h 1 (!sw) _ (some (txt n b).2.2) (mk0 _ ?_ ?_) ?_ (fun c j q1 q2 q3 q4 q5 => ?_) (Or.inr ?_)
      · rw [upm_row (by omega), u1 18 4 (by omega) (by omega), go 18 4 (by omega)]; exact x2
      · rw [upm_at, if_neg (by omega)]; exact u2
      · refine ⟨by rw [upm_at, if_pos rfl], ⟨(txt n b).2.1, by omega, hp.1⟩, ?_, ?_, ?_, ?_⟩
        · rw [upm_row (by omega), u1 18 5 (by omega) (by omega), go 18 5 (by omega)]; exact y4
        · rw [(rsw sw).1]
          refine y5.fr (fun k k1 k2 => ?_)
          rw [upm_row (by omega), u1 _ k (by omega) (by omega), go _ k (by omega)]
        · rw [upm_row (by omega)]; exact v3
        · unfold LsM at v4 ⊢
          simp (disch := omega) only [upm_row]
          exact v4
      · rw [upm_ne (by omega), u1 c j (by omega) (by omega), go c j (by omega)]
        exact x1 c j (by omega) (by omega)
      · rw [upm_ne (by omega), u1 2 4 (by omega) (by omega)]; exact g4
    · exact absurd y1 v1
  · subst y2; subst y3
    rw [show w32 0 = 0 by decide]
    refine ⟨fun q => absurd rfl q, fun _ => ?_⟩
    rw [y5]
    have hT2 : tY n b m1 := by
      refine ⟨?_, h2.2.1, fun i hi => ?_⟩
      · rw [x1 84 16 (by omega) (by omega)]; exact h2.1
      · rw [x1 96 i (by omega) (by omega)]; exact h2.2.2 i hi
    refine wY_law _ _ _ (eY_readText hT2 (fun z2 m3 hY => ?_))
    obtain ⟨u1, u2, u3⟩ := hY
    rcases u3 with ⟨v1, v2, v3, v4⟩ | ⟨v1, v2, v3⟩
    · exact absurd v1 y1
    · subst v2
      rw [w32_id (z := ((txt n b).2.1 : Int)) (by omega) (by omega)]
      refine ⟨fun q => by omega, fun _ => ?_⟩
      refine h _ sw' _ w (mk0 _ ?_ u2) ?_ (fun c j q1 q2 q3 q4 q5 => ?_) (Or.inl ⟨rfl, ?_⟩)
      · rw [u1 18 4 (by omega) (by omega)]; exact x2
      · unfold IW at hW ⊢
        cases w with
        | none =>
          show m3 84 28 = 0 ∧ m3 18 5 = 0
          rw [u1 84 28 (by omega) (by omega), u1 18 5 (by omega) (by omega), y4, x1 84 28 (by omega) (by omega)]
          exact hW
        | some ls =>
          obtain ⟨w1, ⟨p, w2, w3⟩, w4, w5, w6, w7⟩ := hW
          obtain ⟨t1, t2, t3, t4, t5⟩ := w3
          refine ⟨?_, ⟨p, w2, t1, t2, t3, t4, t5⟩, ?_, ?_, ?_, ?_⟩
          · rw [u1 84 28 (by omega) (by omega), x1 84 28 (by omega) (by omega)]; exact w1
          · rw [u1 18 5 (by omega) (by omega), y4]; exact w4
          · refine w5.fr (fun k k1 k2 => ?_)
            rw [u1 _ k (by omega) (by omega), x1 _ k (by omega) (by omega)]
          · rw [v3.2.1, x1 99 0 (by omega) (by omega)]; exact w6
          · refine Ls.fr w7 (by omega) (fun i hi => ?_) (fun i hi => ?_)
            · rw [(v3.1 i (by omega)).1, (v3.1 i (by omega)).2, x1 97 i (by omega) (by omega), x1 98 i (by omega) (by omega)]
              exact ⟨rfl, rfl⟩
            · rw [(v3.2.2 i (by omega)).1, (v3.2.2 i (by omega)).2, x1 100 i (by omega) (by omega), x1 101 i (by omega) (by omega)]
              exact ⟨rfl, rfl⟩
      · rw [u1 c j (by omega) (by omega)]; exact x1 c j (by omega) (by omega)
      · rw [u1 2 4 (by omega) (by omega), x1 2 4 (by omega) (by omega)]
/-- by how many of twelve: the values of the names first -/
def fcs (k d a e g p : Int) : Int → Int := fun i => if i = 0 then k else if i = 1 then d else if i = 2 then a else if i = 3 then e else if i = 4 then g else p
def gvw (w : Option (List Ln)) (k d a e g p : Int) : Int := match w with
  | none => k - d / 3 - a * e / 10 - g
  | some ls => gvl (fcs k d a e g p) ls
def tw (w : Option (List Ln)) (k d a e g p : Int) : Int := max 0 (min 12 (gvw w k d a e g p))
theorem tw_b (w : Option (List Ln)) (k d a e g p : Int) : 0 ≤ tw w k d a e g p ∧ tw w k d a e g p ≤ 12 := by unfold tw; omega
/-- the numbers of a part, of the kitchen -/
theorem IK.pt {p : Int} (hI : IK m) (h0 : 0 ≤ p) (h1 : p < m 2 3) : (m 85 p = m 4 p ∧ 0 ≤ m 4 p ∧ m 4 p < p2 p) ∧ (m 86 p = m 5 p ∧ 0 ≤ m 5 p ∧ m 5 p ≤ 1) ∧ (m 87 p = m 6 p ∧ 0 ≤ m 6 p ∧ m 6 p ≤ 12) ∧ (m 88 p = m 7 p ∧ 1 ≤ m 7 p ∧ m 7 p ≤ 60) ∧ (m 89 p = m 8 p ∧ 0 ≤ m 8 p ∧ m 8 p ≤ 9) ∧ (m 90 p = m 9 p ∧ 0 ≤ m 9 p ∧ m 9 p ≤ 99) := by
  have q0 := hI.2.2.2.1 0 p (Or.inl ⟨by decide, by decide, h0, h1⟩)
  have q1 := hI.2.2.2.1 1 p (Or.inl ⟨by decide, by decide, h0, h1⟩)
  have q2 := hI.2.2.2.1 2 p (Or.inl ⟨by decide, by decide, h0, h1⟩)
  have q3 := hI.2.2.2.1 3 p (Or.inl ⟨by decide, by decide, h0, h1⟩)
  have q4 := hI.2.2.2.1 4 p (Or.inl ⟨by decide, by decide, h0, h1⟩)
  have q5 := hI.2.2.2.1 5 p (Or.inl ⟨by decide, by decide, h0, h1⟩)
  exact ⟨⟨q0.1, q0.2.1, q0.2.2.2 rfl⟩, ⟨q1.1, q1.2.1, q1.2.2.1⟩, ⟨q2.1, q2.2.1, q2.2.2.1⟩, ⟨q3.1, q3.2.1, q3.2.2.1⟩, ⟨q4.1, q4.2.1, q4.2.2.1⟩, ⟨q5.1, q5.2.1, q5.2.2.1⟩⟩
theorem IK.kt (hI : IK m) : (m 91 0 = m 10 0 ∧ 0 ≤ m 10 0 ∧ m 10 0 ≤ 9) ∧ (m 91 1 = m 11 0 ∧ 0 ≤ m 11 0 ∧ m 11 0 ≤ 1) ∧ (m 91 2 = m 12 0 ∧ 0 ≤ m 12 0 ∧ m 12 0 ≤ 300) ∧ (m 91 3 = m 13 0 ∧ 0 ≤ m 13 0 ∧ m 13 0 ≤ 20) ∧ (m 91 4 = m 14 0 ∧ 0 ≤ m 14 0 ∧ m 14 0 ≤ 20) ∧ (m 91 5 = m 15 0 ∧ 0 ≤ m 15 0 ∧ m 15 0 ≤ 8) ∧ (m 91 6 = m 16 0 ∧ 0 ≤ m 16 0 ∧ m 16 0 ≤ 8) := by
  have q0 := hI.2.2.2.1 6 0 (Or.inr ⟨by decide, by decide, rfl⟩)
  have q1 := hI.2.2.2.1 7 0 (Or.inr ⟨by decide, by decide, rfl⟩)
  have q2 := hI.2.2.2.1 8 0 (Or.inr ⟨by decide, by decide, rfl⟩)
  have q3 := hI.2.2.2.1 9 0 (Or.inr ⟨by decide, by decide, rfl⟩)
  have q4 := hI.2.2.2.1 10 0 (Or.inr ⟨by decide, by decide, rfl⟩)
  have q5 := hI.2.2.2.1 11 0 (Or.inr ⟨by decide, by decide, rfl⟩)
  have q6 := hI.2.2.2.1 12 0 (Or.inr ⟨by decide, by decide, rfl⟩)
  exact ⟨⟨q0.1, q0.2.1, q0.2.2.1⟩, ⟨q1.1, q1.2.1, q1.2.2.1⟩, ⟨q2.1, q2.2.1, q2.2.2.1⟩, ⟨q3.1, q3.2.1, q3.2.2.1⟩, ⟨q4.1, q4.2.1, q4.2.2.1⟩, ⟨q5.1, q5.2.1, q5.2.2.1⟩, ⟨q6.1, q6.2.1, q6.2.2.1⟩⟩
theorem fcs_w {k d a e g p : Int} (hk : w32 k = k) (hd : w32 d = d) (ha : w32 a = a) (he : w32 e = e) (hg : w32 g = g) (hp : w32 p = p) {row : Int → Int} (h : row 0 = k ∧ row 1 = d ∧ row 2 = a ∧ row 3 = e ∧ row 4 = g ∧ row 5 = p) : ∀ i : Int, 0 ≤ i → i ≤ 5 → w32 (row i) = fcs k d a e g p i := by
  intro i h1 h2
  obtain ⟨r0, r1, r2, r3, r4, r5⟩ := h
  have h3 : i = 0 ∨ i = 1 ∨ i = 2 ∨ i = 3 ∨ i = 4 ∨ i = 5 := by omega
  rcases h3 with rfl | rfl | rfl | rfl | rfl | rfl
  · rw [r0]; exact hk
  · rw [r1]; exact hd
  · rw [r2]; exact ha
  · rw [r3]; exact he
  · rw [r4]; exact hg
  · rw [r5]; exact hp
theorem gv0 {k d a e g : Int} (hk : 0 ≤ k ∧ k ≤ 12) (hd : 0 ≤ d ∧ d ≤ 9) (ha : 0 ≤ a ∧ a ≤ 99) (he : 0 ≤ e ∧ e ≤ 9) (hg : 0 ≤ g ∧ g ≤ 1) : ((k - zdiv d 3) - zdiv (a * e) 10) - g = k - d / 3 - a * e / 10 - g ∧ -200 ≤ k - d / 3 - a * e / 10 - g ∧ k - d / 3 - a * e / 10 - g ≤ 12 := by
  have h1 : 0 ≤ a * e := Int.mul_nonneg ha.1 he.1
  have h2 : a * e ≤ 99 * 9 := Int.mul_le_mul ha.2 he.2 he.1 (by decide)
  rw [zdiv_pos hd.1 (by omega) (by decide) (by decide), zdiv_pos h1 (by omega) (by decide) (by decide)]
  generalize a * e = y at h1 h2
  omega
theorem eK_twelfths {w : Option (List Ln)} {p a : Int} (hI : IK m) (hW : IW w sw m) (h0 : 0 ≤ p) (h1 : p < m 2 3) (ha : 0 ≤ a ∧ a ≤ 99) (h : ∀ m2, (∀ c, ¬ c = 17 → ¬ c = 20 → m2 c = m c) → Q (tw w (m 6 p) (m 10 0) a (m 8 p) (m 11 0) p) sw m2) : M2 X 4 mK_twelfths [vr 2, vi p, vi a] sw m Q := by
  have h9 := hI.2.1
  have hb := rco_b sw
  obtain ⟨n0, n1, n2, n3, n4, n5⟩ := hI.pt h0 h1
  obtain ⟨k0, k1, -⟩ := hI.kt
  refine wK_twelfths _ _ _ _ _ (eK_told (by omega) (by decide) (eK_told (by decide) (by decide) (eK_told (by omega) (by decide) (eK_told (by decide) (by decide) (wL_isWritten _ _ _ ?_)))))
  have e6 : m (4 + 2) p = m 6 p := rfl
  have e10 : m (4 + 6) 0 = m 10 0 := rfl
  have e8 : m (4 + 4) p = m 8 p := rfl
  have e11 : m (4 + 7) 0 = m 11 0 := rfl
  rw [e6, e10, e8, e11]
  cases w with
  | none =>
    obtain ⟨w1, w2⟩ := hW
    have hg := gv0 (k := m 6 p) (d := m 10 0) (a := a) (e := m 8 p) (g := m 11 0) n2.2 k0.2 ha n4.2 k1.2
    rw [w2, show w32 0 = 0 by decide, show w32 1 = 1 by decide, hg.1, w32_id (z := m 6 p - m 10 0 / 3 - a * m 8 p / 10 - m 11 0) (by omega) (by omega)]
    refine ⟨fun _ => ⟨fun _ => ?_, fun q => absurd rfl q⟩, fun q => absurd (Int.le_refl _) q⟩
    have := h m (fun _ _ _ => rfl)
    unfold tw gvw at this
    rw [w32_id (by omega) (by omega)]
    exact this
  | some ls =>
    obtain ⟨w1, ⟨q, w2, w3⟩, w4, w5, w6, w7⟩ := hW
    have hcp := cds_pos ls w3.2.2.2.1
    have hcl := w3.1
    rw [w4, w32_id (z := ((cds ls).length : Int)) (by omega) (by omega), show w32 0 = 0 by decide, show w32 1 = 1 by decide]
    refine ⟨fun q => by omega, fun _ => ⟨fun q => absurd q (by decide), fun _ => ?_⟩⟩
    refine eL_give (fc := fcs (m 6 p) (m 10 0) a (m 8 p) (m 11 0) p) (ls := ls) ?_ ?_ (by omega) w3.2.2.2.2 ?_ (fun z m2 f hz => ?_)
    · refine fcs_w (w32_id (by omega) (by omega)) (w32_id (by omega) (by omega)) (w32_id (by omega) (by omega)) (w32_id (by omega) (by omega)) (w32_id (by omega) (by omega)) (w32_id (by omega) (by omega)) ⟨?_, ?_, ?_, ?_, ?_, ?_⟩ <;> (try simp (disch := omega) only [upm_ne]) <;> rw [upm_at, if_pos rfl]
    · simp (disch := omega) only [upm_row]; exact w4
    · refine w5.fr (fun k k1 k2 => ?_)
      simp (disch := omega) only [upm_row]
    · have := h m2 (fun c c1 c2 => by rw [f c c2]; simp (disch := omega) only [upm_row])
      unfold tw gvw at this
      have hzb := w32_b z
      rw [hz] at hzb ⊢
      rw [w32_id (by omega) (by omega)]
      exact this
theorem eY_twelfthsOf {w : Option (List Ln)} {p : Int} (hW : IW w sw m) (h0 : 0 ≤ p ∧ p < 9) (hk : 0 ≤ m 87 p ∧ m 87 p ≤ 12) (hd : 0 ≤ m 91 0 ∧ m 91 0 ≤ 9) (ha : 0 ≤ m 90 p ∧ m 90 p ≤ 99) (he : 0 ≤ m 89 p ∧ m 89 p ≤ 9) (hg : 0 ≤ m 91 1 ∧ m 91 1 ≤ 1) (h : ∀ z m2, (∀ c, ¬ c = 102 → ¬ c = 103 → m2 c = m c) → w32 z = tw w (m 87 p) (m 91 0) (m 90 p) (m 89 p) (m 91 1) p → Q z sw m2) : M2 X 4 mY_twelfthsOf [vr 84, vi p] sw m Q := by
  refine wY_twelfthsOf _ _ _ _ ?_
  rw [w32_id (z := p) (by omega) (by omega)]
  refine ⟨h0, h0, h0, ?_⟩
  have fin : ∀ z m2, (∀ c, ¬ c = 102 → ¬ c = 103 → m2 c = m c) → w32 z = gvw w (m 87 p) (m 91 0) (m 90 p) (m 89 p) (m 91 1) p → ((0 ≤ w32 z → ((w32 z ≤ 12 → Q z sw m2) ∧ (¬ (w32 z ≤ 12) → Q 12 sw m2))) ∧ (¬ (0 ≤ w32 z) → Q 0 sw m2)) := by
    intro z m2 f hz
    have h2 := fun z' hz' => h z' m2 f hz'
    unfold tw at h2
    rw [← hz] at h2
    refine ⟨fun q => ⟨fun q2 => h2 _ (by omega), fun q2 => h2 _ ?_⟩, fun q => h2 _ ?_⟩
    · rw [show w32 12 = 12 by decide]; omega
    · rw [show w32 0 = 0 by decide]; omega
  cases w with
  | none =>
    obtain ⟨w1, w2⟩ := hW
    have hg' := gv0 (k := m 87 p) (d := m 91 0) (a := m 90 p) (e := m 89 p) (g := m 91 1) hk hd ha he hg
    rw [w1, hg'.1]
    exact ⟨fun _ => fin _ m (fun _ _ _ => rfl) (w32_id (by omega) (by omega)), fun q => absurd (by decide) q⟩
  | some ls =>
    obtain ⟨w1, ⟨q, w2, w3⟩, w4, w5, w6, w7⟩ := hW
    rw [w1, show w32 1 = 1 by decide]
    have t2 := w3.2.1
    have t3 := w3.2.2.1
    refine ⟨fun q => absurd q (by decide), fun _ => ⟨h0, h0, h0, ?_⟩⟩
    refine eY_gives (fc := fcs (m 87 p) (m 91 0) (m 90 p) (m 89 p) (m 91 1) p) (ls := ls) ?_ ?_ (by omega) w3.2.2.2.2 (by omega) ?_ (fun z m2 f hz => fin z m2 (fun c c1 c2 => ?_) hz)
    · refine fcs_w (w32_id (by omega) (by omega)) (w32_id (by omega) (by omega)) (w32_id (by omega) (by omega)) (w32_id (by omega) (by omega)) (w32_id (by omega) (by omega)) (w32_id (by omega) (by omega)) ⟨?_, ?_, ?_, ?_, ?_, ?_⟩ <;> (try simp (disch := omega) only [upm_ne]) <;> rw [upm_at, if_pos rfl]
    · simp (disch := omega) only [upm_row]; exact w6
    · unfold LsM at w7 ⊢
      simp (disch := omega) only [upm_row]; exact w7
    · rw [f c c2]; simp (disch := omega) only [upm_row]
/-- only working cells have changed -/
def FrV (m m' : Mem) : Prop := ∀ c : Int, ¬ c = 17 → ¬ c = 20 → ¬ c = 102 → ¬ c = 103 → m' c = m c
theorem IK.fv {m' : Mem} (hI : IK m) (f : FrV m m') : IK m' := hI.fr (fun c j q => by unfold DK at q; rw [f c (by omega) (by omega) (by omega) (by omega)])
theorem IW.fr {w : Option (List Ln)} {m' : Mem} (hW : IW w sw m) (f : ∀ c j : Int, (c = 18 ∧ j = 5) ∨ (21 ≤ c ∧ c ≤ 22) ∨ (c = 84 ∧ j = 28) ∨ (97 ≤ c ∧ c ≤ 101) → m' c j = m c j) : IW w sw m' := by
  have hb := rco_b sw
  cases w with
  | none =>
    show m' 84 28 = 0 ∧ m' 18 5 = 0
    rw [f 84 28 (by omega), f 18 5 (by omega)]
    exact hW
  | some ls =>
    obtain ⟨w1, w3, w4, w5, w6, w7⟩ := hW
    refine ⟨?_, w3, ?_, ?_, ?_, ?_⟩
    · rw [f 84 28 (by omega)]; exact w1
    · rw [f 18 5 (by omega)]; exact w4
    · exact w5.fr (fun k k1 k2 => f _ k (by omega))
    · rw [f 99 0 (by omega)]; exact w6
    · exact Ls.fr w7 (by omega) (fun i _ => ⟨f 97 i (by omega), f 98 i (by omega)⟩) (fun i _ => ⟨f 100 i (by omega), f 101 i (by omega)⟩)
theorem pr_works {w : Option (List Ln)} {a : Int} (ha : w32 a = a) (hI : IK m) (hW : IW w sw m) {QQ : Int → Int → Bool → Mem → Prop} (h : ∀ z1 z2 m', w32 z1 = w32 z2 → FrV m m' → QQ z1 z2 sw m') : M2 X 5 mZ_works [vr 1, vi a] sw m (fun z1 sw1 m1 => M2 X 5 mY_works [vr 84, vi a] sw1 m1 (fun z2 sw2 m2 => QQ z1 z2 sw2 m2)) := by
  have h9 := hI.2.1
  have h90 := hI.1
  refine wZ_works _ _ _ _ (eK_has ha hI ?_)
  rw [bz_w, bz_0]
  refine ⟨fun q => wY_works _ _ _ _ (eY_isPart ha ⟨h90, h9⟩ hI.2.2.1 ?_), fun q => ?_⟩
  · rw [bz_w, bz_0]
    exact ⟨fun _ => h _ _ m rfl (fun _ _ _ _ _ => rfl), fun c => absurd q c⟩
  · have q := Decidable.not_not.mp q
    have hp := hI.pt q.1 q.2
    have hk := hI.kt
    refine eK_told (by omega) (by decide) (eK_twelfths hI hW q.1 q.2 hp.2.2.2.2.2.2 (fun m2 f => ?_))
    refine wY_works _ _ _ _ (eY_isPart ha (n := m 2 3) ⟨h90, h9⟩ (by rw [f 84 (by omega) (by omega)]; exact hI.2.2.1) ?_)
    rw [bz_w, bz_0]
    refine ⟨fun c => absurd q c, fun _ => ?_⟩
    have e : ∀ c : Int, 85 ≤ c → c ≤ 91 → m2 c = m c := fun c c1 c2 => f c (by omega) (by omega)
    have hW2 : IW w sw m2 := hW.fr (fun c j q => by rw [f c (by omega) (by omega)])
    refine eY_twelfthsOf hW2 (by omega) ?_ ?_ ?_ ?_ ?_ (fun z m3 g hz => h _ _ m3 ?_ (fun c c1 c2 c3 c4 => (g c c3 c4).trans (f c c1 c2)))
    · rw [e 87 (by omega) (by omega)]; omega
    · rw [e 91 (by omega) (by omega)]; omega
    · rw [e 90 (by omega) (by omega)]; omega
    · rw [e 89 (by omega) (by omega)]; omega
    · rw [e 91 (by omega) (by omega)]; omega
    · rw [hz, e 87 (by omega) (by omega), e 91 (by omega) (by omega), e 90 (by omega) (by omega), e 89 (by omega) (by omega), hp.2.2.1.1, hk.1.1, hp.2.2.2.2.2.1, hp.2.2.2.2.1.1, hk.2.1.1]
      have hb := tw_b w (m 6 a) (m 10 0) (m 9 a) (m 8 a) (m 11 0) a
      exact w32_id (Int.le_trans (by decide) hb.1) (Int.lt_of_le_of_lt hb.2 (by decide))
end LW
