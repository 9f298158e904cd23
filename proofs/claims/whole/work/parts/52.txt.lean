/-! texts: the model's lines, its reader -/
def FrT (m m' : Mem) : Prop := ∀ c j : Int, ¬ (c = 84 ∧ 17 ≤ j ∧ j ≤ 20) → ¬ ((c = 97 ∨ c = 98) ∧ 130 ≤ j) → ¬ (c = 99 ∧ j = 1) → ¬ ((c = 100 ∨ c = 101) ∧ 61 ≤ j) → m' c j = m c j
theorem FrT.rf (m : Mem) : FrT m m := fun _ _ _ _ _ _ => rfl
theorem FrT.tr {m1 m2 m3 : Mem} (h : FrT m1 m2) (g : FrT m2 m3) : FrT m1 m3 := fun c j a b d e => (g c j a b d e).trans (h c j a b d e)
theorem FrT.up {m : Mem} {k i v : Int} (h : (k = 84 ∧ 17 ≤ i ∧ i ≤ 20) ∨ ((k = 97 ∨ k = 98) ∧ 130 ≤ i) ∨ (k = 99 ∧ i = 1) ∨ ((k = 100 ∨ k = 101) ∧ 61 ≤ i)) : FrT m (upm m k i v) := fun c j a b d e => upm_ne (by omega)
theorem FrY.t {m m' : Mem} (h : FrY m m') : FrT m m' := fun c j a b _ _ => h c j a b
theorem tY.ft {n : Nat} {b : Nat → Int} {m m' : Mem} (h : tY n b m) (f : FrT m m') : tY n b m' := by
  refine ⟨by rw [f 84 16 (by omega) (by omega) (by omega) (by omega)]; exact h.1, h.2.1, fun i hi => ?_⟩
  rw [f 96 i (by omega) (by omega) (by omega) (by omega)]
  exact h.2.2 i hi
/-- lines laid: steps from s + D on, places of the lines from l on -/
def Ls (ra rw_ rt re : Int → Int) (s l : Int) : Int → List Ln → Prop
  | _, [] => True
  | D, q :: ls => rt l = D + (q.1.length : Int) ∧ re l = D + (lnl q : Int) ∧ Sg ra (s + D) ((q.1 ++ q.2).map am) ∧ Sg rw_ (s + D) ((q.1 ++ q.2).map wm) ∧ Ls ra rw_ rt re s (l + 1) (D + (lnl q : Int)) ls
def tot : List Ln → Nat
  | [] => 0
  | q :: ls => lnl q + tot ls
theorem tot_app : ∀ (l1 l2 : List Ln), tot (l1 ++ l2) = tot l1 + tot l2
  | [], l2 => by simp [tot]
  | q :: l1, l2 => by
    show lnl q + tot (l1 ++ l2) = lnl q + tot l1 + tot l2
    rw [tot_app l1 l2]; omega
theorem Ls.app {ra rw_ rt re : Int → Int} {s : Int} : ∀ {l1 l2 : List Ln} {l D : Int}, Ls ra rw_ rt re s l D (l1 ++ l2) ↔ Ls ra rw_ rt re s l D l1 ∧ Ls ra rw_ rt re s (l + (l1.length : Int)) (D + (tot l1 : Int)) l2
  | [], l2, l, D => by
    show Ls ra rw_ rt re s l D l2 ↔ True ∧ Ls ra rw_ rt re s (l + ((0 : Nat) : Int)) (D + ((0 : Nat) : Int)) l2
    rw [show l + ((0 : Nat) : Int) = l by omega, show D + ((0 : Nat) : Int) = D by omega]
    exact ⟨fun h => ⟨trivial, h⟩, fun h => h.2⟩
  | q :: l1, l2, l, D => by
    have ih := Ls.app (ra := ra) (rw_ := rw_) (rt := rt) (re := re) (s := s) (l1 := l1) (l2 := l2) (l := l + 1) (D := D + (lnl q : Int))
    show (_ ∧ _ ∧ _ ∧ _ ∧ Ls ra rw_ rt re s (l + 1) (D + (lnl q : Int)) (l1 ++ l2)) ↔ (_ ∧ _ ∧ _ ∧ _ ∧ Ls ra rw_ rt re s (l + 1) (D + (lnl q : Int)) l1) ∧ Ls ra rw_ rt re s (l + ((l1.length + 1 : Nat) : Int)) (D + ((lnl q + tot l1 : Nat) : Int)) l2
    rw [ih, show l + 1 + (l1.length : Int) = l + ((l1.length + 1 : Nat) : Int) by omega, show D + (lnl q : Int) + (tot l1 : Int) = D + ((lnl q + tot l1 : Nat) : Int) by omega]
    exact ⟨fun h => ⟨⟨h.1, h.2.1, h.2.2.1, h.2.2.2.1, h.2.2.2.2.1⟩, h.2.2.2.2.2⟩, fun h => ⟨h.1.1, h.1.2.1, h.1.2.2.1, h.1.2.2.2.1, h.1.2.2.2.2, h.2⟩⟩
theorem Sg.mv {row row' : Int → Int} {e : Int} {f : Int → Int} : ∀ {l : List Int} {D D' : Int}, Sg row D l → D' = D + e → (∀ t, t ∈ l → f t = t) → (∀ k, D ≤ k → k < D + (l.length : Int) → row' (k + e) = f (row k)) → Sg row' D' l
  | [], _, _, _, _, _, _ => trivial
  | t :: l, D, D', h, hD, ft, g => by
    have hl : (((t :: l).length : Nat) : Int) = (l.length : Int) + 1 := by rw [List.length_cons]; omega
    refine ⟨?_, Sg.mv h.2 (by omega) (fun t' ht => ft t' (List.mem_cons_of_mem _ ht)) (fun k a b => g k (by omega) (by omega))⟩
    rw [hD, g D (by omega) (by omega), h.1]
    exact ft t List.mem_cons_self
theorem Ls.mv {ra rw_ rt re ra' rw' rt' re' : Int → Int} {s l s' l' : Int} : ∀ {ls : List Ln} {k D : Int}, Ls ra rw_ rt re s (l + k) D ls → 0 ≤ D → 0 ≤ k → (∀ i : Int, 0 ≤ i → i < D + (tot ls : Int) → ra' (s' + i) = w8 (ra (s + i)) ∧ rw' (s' + i) = rw_ (s + i)) → (∀ i : Int, 0 ≤ i → i < k + (ls.length : Int) → rt' (l' + i) = w16 (rt (l + i)) ∧ re' (l' + i) = w16 (re (l + i))) → D + (tot ls : Int) ≤ 30000 → Ls ra' rw' rt' re' s' (l' + k) D ls
  | [], _, _, _, _, _, _, _, _ => trivial
  | q :: ls, k, D, h, hD, hk, g1, g2, hb => by
    have e1 : (tot (q :: ls) : Int) = (lnl q : Int) + (tot ls : Int) := by show ((lnl q + tot ls : Nat) : Int) = _; omega
    have e2 : (((q :: ls).length : Nat) : Int) = (ls.length : Int) + 1 := by rw [List.length_cons]; omega
    have e3 : (lnl q : Int) = (q.1.length : Int) + (q.2.length : Int) := by unfold lnl; omega
    have e4 : (((q.1 ++ q.2).map am).length : Int) = (lnl q : Int) := by rw [List.length_map, List.length_append]; unfold lnl; omega
    have e5 : (((q.1 ++ q.2).map wm).length : Int) = (lnl q : Int) := by rw [List.length_map, List.length_append]; unfold lnl; omega
    obtain ⟨h1, h2, h3, h4, h5⟩ := h
    rw [e1] at g1 hb
    rw [e2] at g2
    refine ⟨?_, ?_, ?_, ?_, ?_⟩
    · rw [(g2 k hk (by omega)).1, h1, w16_eq]; omega
    · rw [(g2 k hk (by omega)).2, h2, w16_eq]; omega
    · refine Sg.mv (e := s' - s) (f := w8) h3 (by omega) (fun t ht => ?_) (fun i a b => ?_)
      · obtain ⟨u, -, rfl⟩ := List.mem_map.mp ht
        have := am_b u
        rw [w8_eq]; omega
      · have := (g1 (i - s) (by omega) (by omega)).1
        rw [show s' + (i - s) = i + (s' - s) by omega, show s + (i - s) = i by omega] at this
        exact this
    · refine Sg.mv (e := s' - s) (f := fun t => t) h4 (by omega) (fun t ht => rfl) (fun i a b => ?_)
      have := (g1 (i - s) (by omega) (by omega)).2
      rw [show s' + (i - s) = i + (s' - s) by omega, show s + (i - s) = i by omega] at this
      exact this
    · rw [show l' + k + 1 = l' + (k + 1) by omega]
      refine Ls.mv (l := l) (s := s) ?_ (by omega) (by omega) (fun i a b => g1 i a (by omega)) (fun i a b => g2 i a (by omega)) (by omega)
      rw [show l + (k + 1) = l + k + 1 by omega]
      exact h5
theorem Ls.fr {ra rw_ rt re ra' rw' rt' re' : Int → Int} {s : Int} : ∀ {ls : List Ln} {l D : Int}, Ls ra rw_ rt re s l D ls → 0 ≤ D → (∀ i : Int, i < s + (D + (tot ls : Int)) → ra' i = ra i ∧ rw' i = rw_ i) → (∀ i : Int, i < l + (ls.length : Int) → rt' i = rt i ∧ re' i = re i) → Ls ra' rw' rt' re' s l D ls
  | [], _, _, _, _, _, _ => trivial
  | q :: ls, l, D, h, hD, g1, g2 => by
    have e1 : (tot (q :: ls) : Int) = (lnl q : Int) + (tot ls : Int) := by show ((lnl q + tot ls : Nat) : Int) = _; omega
    have e2 : (((q :: ls).length : Nat) : Int) = (ls.length : Int) + 1 := by rw [List.length_cons]; omega
    have e4 : ∀ f : Int → Int, (((q.1 ++ q.2).map f).length : Int) = (lnl q : Int) := fun f => by rw [List.length_map, List.length_append]; unfold lnl; omega
    obtain ⟨h1, h2, h3, h4, h5⟩ := h
    rw [e1] at g1
    rw [e2] at g2
    refine ⟨(g2 l (by omega)).1.trans h1, (g2 l (by omega)).2.trans h2, h3.fr (fun k a b => (g1 k (by rw [e4] at b; omega)).1), h4.fr (fun k a b => (g1 k (by rw [e4] at b; omega)).2), Ls.fr h5 (by omega) (fun i a => g1 i (by omega)) (fun i a => g2 i (by omega))⟩
/-- what a line leaves -/
def TP (n : Nat) (A k : Int) (m : Mem) (r : Lr) (m' : Mem) : Prop :=
  FrT m m' ∧ m' 99 1 = k + 1 ∧ ((r.1 = true ∧ yA n r.2.1 0 (A + (lnl r.2.2 : Int)) m' ∧ (∀ j, j < 130 + A → m' 97 j = m 97 j ∧ m' 98 j = m 98 j) ∧ (∀ j, j < 61 + k → m' 100 j = m 100 j ∧ m' 101 j = m 101 j) ∧ m' 100 (61 + k) = A + (r.2.2.1.length : Int) ∧ m' 101 (61 + k) = A + (lnl r.2.2 : Int) ∧ Sg (m' 97) (130 + A) ((r.2.2.1 ++ r.2.2.2).map am) ∧ Sg (m' 98) (130 + A) ((r.2.2.1 ++ r.2.2.2).map wm)) ∨ (¬ r.1 = true ∧ m' 84 17 = r.2.1 ∧ r.2.1 ≤ n ∧ m' 84 18 = r.2.1))
theorem w16w {z : Int} (h1 : -32768 ≤ z) (h2 : z < 32768) : w16 (w16 z) = z := by simp only [w16_eq]; omega
section YE
variable {X : Cx} {sw : Bool} {n : Nat} {b : Nat → Int}
theorem eY_line {m : Mem} {p : Nat} {A k : Int} {Q : Int → Bool → Mem → Prop} (hT : tY n b m) (hA : yA n p 0 A m) (h99 : m 99 1 = k) (hk : 0 ≤ k ∧ k ≤ 60) (h : ∀ m', TP n A k m (ln n b p) m' → Q 0 sw m') : M2 X 81 mY_line [vr 84] sw m Q := by
  have hn := hT.2.1
  obtain ⟨a1, a2, a3, a4, a5, a6, a7⟩ := hA
  unfold ln at h
  refine wY_line _ _ _ ?_
  rw [h99, w32_id (z := 61 + k) (by omega) (by omega), a5, w16w (z := A) (by omega) (by omega)]
  have hF0 : FrT m (upm m 100 (61 + k) A) := FrT.up (by omega)
  have hA0 : yA n p ((0 : Nat) : Int) A (upm m 100 (61 + k) A) := by
    unfold yA
    simp (disch := omega) only [upm_row]
    exact ⟨a1, a2, a3, a4, a5, a6, a7⟩
  refine ⟨by omega, lY_ex (X := X) (sw := sw) (n := n) (b := b) 42 0 0 p 80 (by decide) (by decide) a2 (by decide) (by decide) A _ _ (hT.ft hF0) hA0 (fun m1 hX => ?_)⟩
  have hP := exP (n := n) (b := b) 42 0 0 p (by decide) (by decide) a2
  generalize ex n b 42 0 0 p = r at h hX hP
  obtain ⟨g1, g2, g3⟩ := hP
  have hF1 := hF0.tr hX.1.t
  have e99 : m1 99 1 = k := by rw [hX.1 99 1 (by omega) (by omega), upm_row (by omega)]; exact h99
  have e100 : ∀ j, m1 100 j = upm m 100 (61 + k) A 100 j := fun j => hX.1 100 j (by omega) (by omega)
  have e101 : ∀ j, m1 101 j = m 101 j := fun j => by rw [hX.1 101 j (by omega) (by omega), upm_row (by omega)]
  rcases hX.2 with ⟨x1, x2, x3, x4, x5⟩ | ⟨x1, x2⟩
  · rw [if_pos x1] at h
    obtain ⟨g4, g5, g6, g7⟩ := g3 x1
    obtain ⟨y1, y2, y3, y4, y5, y6, y7⟩ := x2
    rw [y3, e99]
    refine ⟨fun q => absurd q (by decide), fun _ => eY_looksOn (hT.ft hF1) y1 y2 ?_⟩
    have hyb := ny_b (n := n) (b := b) (p := r.2.1)
    have hxb := nx_b' (p := r.2.1) hT
    have hyx := ny_nx (p := r.2.1) hT
    rw [w32_id (z := ny n b r.2.1) (by omega) (by omega), y5, w16w (by omega) (by omega)]
    refine ⟨fun c => ⟨by omega, ?_⟩, fun c => ?_⟩
    · rw [if_neg (by omega)] at h
      have el : (lnl (([] : List Int), r.2.2) : Int) = (r.2.2.length : Int) := by unfold lnl; simp
      have er : ([] : List Int) ++ r.2.2 = r.2.2 := rfl
      refine h _ ⟨hF1.tr ((FrT.up (by omega)).tr (FrT.up (by omega))), ?_, Or.inl ⟨rfl, ?_, fun j hj => ?_, fun j hj => ?_, ?_, ?_, ?_, ?_⟩⟩
      · rw [upm_at, if_pos rfl, e99]
      · rw [el]; unfold yA
        simp (disch := omega) only [upm_row]
        exact ⟨y1, y2, y3, y4, y5, y6, y7⟩
      · simp (disch := omega) only [upm_row]
        have := x3 j hj
        simp (disch := omega) only [upm_row] at this
        exact this
      · simp (disch := omega) only [upm_row, upm_ne, e100, e101, and_self]
      · simp (disch := omega) only [upm_row, e100]
        rw [upm_at, if_pos rfl]; simp
      · rw [el, upm_row (by omega), upm_at, if_pos rfl]
      · rw [er]; simp (disch := omega) only [upm_row]; exact x4
      · rw [er]; simp (disch := omega) only [upm_row]; exact x5
    · rw [if_pos (by omega)] at h
      have hlt := nx_lt (n := n) (b := b) (p := r.2.1) (by omega)
      rw [y1]
      generalize hm2 : upm (upm m1 84 17 ((r.2.1 : Int) + 1)) 100 (61 + k) (A + (r.2.2.length : Int)) = m2
      have hF2 : FrT m m2 := by rw [← hm2]; exact hF1.tr ((FrT.up (by omega)).tr (FrT.up (by omega)))
      have hA2 : yA n (r.2.1 + 1) ((0 : Nat) : Int) (A + (r.2.2.length : Int)) m2 := by
        rw [← hm2]
        unfold yA
        simp (disch := omega) only [upm_row, upm_ne]
        refine ⟨?_, by omega, y3, y4, y5, by omega, by omega⟩
        rw [upm_at, if_pos rfl]; rfl
      refine ⟨by omega, lY_ex (X := X) (sw := sw) (n := n) (b := b) 42 0 0 (r.2.1 + 1) 80 (by decide) (by decide) (by omega) (by decide) (by decide) _ _ _ (hT.ft hF2) hA2 (fun m3 hY => ⟨by omega, ?_⟩)⟩
      have hP2 := exP (n := n) (b := b) 42 0 0 (r.2.1 + 1) (by decide) (by decide) (by omega)
      generalize ex n b 42 0 0 (r.2.1 + 1) = r2 at h hY hP2
      obtain ⟨k1, k2, k3⟩ := hP2
      have hF3 := hF2.tr hY.1.t
      have f99 : m3 99 1 = k := by rw [hY.1 99 1 (by omega) (by omega), ← hm2]; simp (disch := omega) only [upm_row]; exact e99
      have f100 : ∀ j, m3 100 j = upm m1 100 (61 + k) (A + (r.2.2.length : Int)) 100 j := fun j => by rw [hY.1 100 j (by omega) (by omega), ← hm2]; unfold upm; simp
      have f101 : ∀ j, m3 101 j = m 101 j := fun j => by rw [hY.1 101 j (by omega) (by omega), ← hm2]; simp (disch := omega) only [upm_row]; exact e101 j
      rw [f99]
      rcases hY.2 with ⟨z1, z2, z3, z4, z5⟩ | ⟨z1, z2⟩
      · rw [if_pos z1] at h
        obtain ⟨k4, k5, k6, k7⟩ := k3 z1
        obtain ⟨u1, u2, u3, u4, u5, u6, u7⟩ := z2
        rw [u5, w16w (by omega) (by omega)]
        have el : A + (lnl (r.2.2, r2.2.2) : Int) = A + (r.2.2.length : Int) + (r2.2.2.length : Int)   := by show A + ((r.2.2.length + r2.2.2.length : Nat) : Int) = _; omega
        have em : ∀ f : Int → Int, (((r.2.2).map f).length : Int) = (r.2.2.length : Int) := fun f => by rw [List.length_map]
        refine h _ ⟨hF3.tr ((FrT.up (by omega)).tr (FrT.up (by omega))), ?_, Or.inl ⟨rfl, ?_, fun j hj => ?_, fun j hj => ?_, ?_, ?_, ?_, ?_⟩⟩
        · rw [upm_at, if_pos rfl]
        · rw [el]; unfold yA
          simp (disch := omega) only [upm_row]
          exact ⟨u1, u2, u3, u4, u5, u6, u7⟩
        · simp (disch := omega) only [upm_row]
          have q1 := z3 j (by omega)
          have q2 := x3 j hj
          rw [← hm2] at q1
          simp (disch := omega) only [upm_row] at q1 q2
          exact ⟨q1.1.trans q2.1, q1.2.trans q2.2⟩
        · simp (disch := omega) only [upm_row, upm_ne, f100, f101, e100, and_self]
        · simp (disch := omega) only [upm_row, f100]
          rw [upm_at, if_pos rfl]
        · rw [el, upm_row (by omega), upm_at, if_pos rfl]
        · show Sg _ _ ((r.2.2 ++ r2.2.2).map am)
          rw [List.map_append, Sg.app, em]
          simp (disch := omega) only [upm_row]
          refine ⟨x4.fr (fun j j1 j2 => ?_), ?_⟩
          · rw [em] at j2
            rw [(z3 j (by omega)).1, ← hm2]
            simp (disch := omega) only [upm_row]
          · rw [show 130 + A + (r.2.2.length : Int) = 130 + (A + (r.2.2.length : Int)) by omega]; exact z4
        · show Sg _ _ ((r.2.2 ++ r2.2.2).map wm)
          rw [List.map_append, Sg.app, em]
          simp (disch := omega) only [upm_row]
          refine ⟨x5.fr (fun j j1 j2 => ?_), ?_⟩
          · rw [em] at j2
            rw [(z3 j (by omega)).2, ← hm2]
            simp (disch := omega) only [upm_row]
          · rw [show 130 + A + (r.2.2.length : Int) = 130 + (A + (r.2.2.length : Int)) by omega]; exact z5
      · rw [if_neg z1] at h
        obtain ⟨u1, u2, u3, u4, u5⟩ := z2
        refine h _ ⟨hF3.tr ((FrT.up (by omega)).tr (FrT.up (by omega))), ?_, Or.inr ⟨Bool.false_ne_true, ?_, u2, ?_⟩⟩
        · rw [upm_at, if_pos rfl]
        · simp (disch := omega) only [upm_row]; exact u1
        · simp (disch := omega) only [upm_row]; exact u3
  · rw [if_neg x1] at h
    obtain ⟨u1, u2, u3, u4, u5⟩ := x2
    rw [u3, w32_id (z := (r.2.1 : Int)) (by omega) (by omega), e99]
    refine ⟨fun _ => ⟨by omega, h _ ⟨hF1.tr ((FrT.up (by omega)).tr (FrT.up (by omega))), ?_, Or.inr ⟨Bool.false_ne_true, ?_, u2, ?_⟩⟩⟩, fun q => by omega⟩
    · rw [upm_at, if_pos rfl]
    · simp (disch := omega) only [upm_row]; exact u1
    · simp (disch := omega) only [upm_row]; exact u3
end YE
