/-! part, parts: the pairs -/
theorem exN (P : Nat → Prop) : ∀ K : Nat, ∃ r : Nat, r ≤ K ∧ (∀ j, j < r → P j) ∧ (r = K ∨ ¬ P r) := by
  intro K
  induction K with
  | zero => exact ⟨0, by omega, fun j h => by omega, Or.inl rfl⟩
  | succ K ih =>
    obtain ⟨r, h1, h2, h3⟩ := ih
    rcases h3 with h3 | h3
    · by_cases hp : P r
      · exact ⟨r + 1, by omega, fun j hj => by
          by_cases e : j = r
          · rw [e]; exact hp
          · exact h2 j (by omega), Or.inl (by omega)⟩
      · exact ⟨r, by omega, h2, Or.inr hp⟩
    · exact ⟨r, by omega, h2, Or.inr h3⟩
theorem ok3_ft {n a w t : Int} (hn : 0 ≤ n ∧ n ≤ 9) : ok3 n a w t ↔ ft n 0 a ∧ ft n 2 w ∧ ft n 3 t := by
  have hp := p2_b hn.1 hn.2
  have l0 : lo 0 = 0 := rfl
  have l2 : lo 2 = 0 := rfl
  have l3 : lo 3 = 1 := rfl
  have u0 : hi 0 = 511 := rfl
  have u2 : hi 2 = 12 := rfl
  have u3 : hi 3 = 60 := rfl
  unfold ok3 ft
  rw [l0, l2, l3, u0, u2, u3]
  omega
theorem IK.add {m M : Mem} {n q : Int} {tr : Int → Int → Int} (hI : IK m) (hn : m 2 3 = n) (hq : 0 ≤ q) (hq9 : n + q ≤ 9) (hok : ∀ i : Int, 0 ≤ i → i < q → ok3 (n + i) (tr i 0) (tr i 1) (tr i 2)) (e : ∀ c j, DK c j → M c j = yad (xad m n q tr) n q tr c j) : IK M := by
  obtain ⟨h1, h2, h3, h4, h5⟩ := hI
  have e3 : M 2 3 = n + q := by rw [e 2 3 (by unfold DK; omega)]; unfold yad xad; rw [if_neg (by omega), if_neg (by omega), if_pos ⟨rfl, rfl⟩]
  have e1 : M 84 1 = n + q := by rw [e 84 1 (by unfold DK; omega)]; unfold yad; rw [if_pos ⟨rfl, rfl⟩]
  unfold IK
  rw [e3, e1]
  have l1 : ∀ w' a', 0 ≤ w' ∧ w' < 13 → ¬ ((w' = 0 ∨ w' = 2 ∨ w' = 3) ∧ n ≤ a' ∧ a' < n + q) → M (4 + w') a' = m (4 + w') a' := by
    intro w' a' hw p
    rw [e (4 + w') a' (by unfold DK; omega)]
    unfold yad xad
    rw [if_neg (by omega), if_neg (by omega), if_neg (by omega), if_neg (by omega), if_neg (by omega), if_neg (by omega)]
  refine ⟨by omega, hq9, rfl, fun w' a' p => ?_, fun w' a' p p2 p3 => ?_⟩
  · have hk' := kc_ki w' a'
    by_cases hh : 0 ≤ w' ∧ w' ≤ 5 ∧ n ≤ a'
    · have hla : a' < n + q := by unfold vp at p; omega
      have hok' := (ok3_ft (by omega)).mp (hok (a' - n) (by omega) (by omega))
      rw [show n + (a' - n) = a' by omega] at hok'
      have k6 : w' = 0 ∨ w' = 1 ∨ w' = 2 ∨ w' = 3 ∨ w' = 4 ∨ w' = 5 := by omega
      have hy : ∀ c, 85 ≤ c ∧ c ≤ 90 → M c a' = (if c = 85 then tr (a' - n) 0 else if c = 87 then tr (a' - n) 1 else if c = 88 then tr (a' - n) 2 else 0) := by
        intro c hc
        rw [e c a' (by unfold DK; omega)]
        unfold yad
        rw [if_neg (by omega), if_pos (by omega)]
      have hx : ∀ c, (c = 4 ∨ c = 6 ∨ c = 7) → M c a' = tr (a' - n) (if c = 4 then 0 else c - 5) := by
        intro c hc
        rw [e c a' (by unfold DK; omega)]
        unfold yad xad
        rw [if_neg (by omega), if_neg (by omega), if_neg (by omega), if_neg (by omega), if_neg (by omega), if_pos (by omega)]
      have h5' : ∀ w'', (w'' = 1 ∨ w'' = 4 ∨ w'' = 5) → M (4 + w'') a' = 0 := by
        intro w'' p
        rw [l1 w'' a' (by omega) (by omega)]
        exact h5 w'' a' p (by omega) (by omega)
      rw [show kc w' = 85 + w' by omega, show ki w' a' = a' by omega, hy (85 + w') (by omega)]
      rcases k6 with r | r | r | r | r | r
      · subst r
        rw [show (4 : Int) + 0 = 4 from rfl, hx 4 (by omega), if_pos (by omega), if_pos rfl]
        exact ⟨rfl, hok'.1⟩
      · subst r
        rw [h5' 1 (by omega), if_neg (by omega), if_neg (by omega), if_neg (by omega)]
        exact ⟨rfl, by decide, by decide, fun q => absurd q (by decide)⟩
      · subst r
        rw [show (4 : Int) + 2 = 6 from rfl, hx 6 (by omega), if_neg (by omega), if_pos (by omega), if_neg (by omega)]
        exact ⟨rfl, hok'.2.1⟩
      · subst r
        rw [show (4 : Int) + 3 = 7 from rfl, hx 7 (by omega), if_neg (by omega), if_neg (by omega), if_pos (by omega), if_neg (by omega)]
        exact ⟨rfl, hok'.2.2⟩
      · subst r
        rw [h5' 4 (by omega), if_neg (by omega), if_neg (by omega), if_neg (by omega)]
        exact ⟨rfl, by decide, by decide, fun q => absurd q (by decide)⟩
      · subst r
        rw [h5' 5 (by omega), if_neg (by omega), if_neg (by omega), if_neg (by omega)]
        exact ⟨rfl, by decide, by decide, fun q => absurd q (by decide)⟩
    · have p' : vp (m 2 3) w' a' := by unfold vp at p ⊢; omega
      have hkb : 0 ≤ w' ∧ w' < 13 := by unfold vp at p; omega
      have p'' := p
      unfold vp at p''
      have ey : M (kc w') (ki w' a') = m (kc w') (ki w' a') := by
        rw [e _ _ (by unfold DK; omega)]
        unfold yad xad
        rw [if_neg (by omega), if_neg (by omega), if_neg (by omega), if_neg (by omega), if_neg (by omega), if_neg (by omega)]
      rw [ey, l1 w' a' hkb (by omega)]
      exact h4 w' a' p'
  · rw [l1 w' a' (by omega) (by omega)]
    exact h5 w' a' p (by omega) p3
theorem KW.ad {m M : Mem} {n q : Int} {tr : Int → Int → Int} (hn : m 2 3 = n) (hq : 0 ≤ q) (hq9 : q ≤ 9) (e : ∀ c j, (c = 2 ∧ 3 ≤ j ∧ j ≤ 5) ∨ (4 ≤ c ∧ c ≤ 16) → M c j = xad m n q tr c j) : KW 27 m M := by
  by_cases h0 : q = 0
  · subst h0
    exact KW.sm (by omega) (fun c j h => by rw [e c j h, xad_0 hn])
  · have e3 : M 2 3 = n + q := by rw [e 2 3 (by omega)]; unfold xad; rw [if_pos ⟨rfl, rfl⟩]
    have e4 : M 2 4 = m 2 4 + 3 * q := by rw [e 2 4 (by omega)]; unfold xad; rw [if_neg (by omega), if_pos ⟨rfl, rfl⟩]
    have e5 : M 2 5 = m 2 5 + 2 * q := by rw [e 2 5 (by omega)]; unfold xad; rw [if_neg (by omega), if_neg (by omega), if_pos ⟨rfl, rfl⟩]
    exact ⟨by omega, by omega, by omega, by omega, by omega, fun p => by omega, fun p => by omega⟩
theorem FrG.xad1 {m : Mem} {n q : Int} {tr : Int → Int → Int} : FrG m (xad m n q tr) := fun c j p => by
  unfold xad
  rw [if_neg (by omega), if_neg (by omega), if_neg (by omega), if_neg (by omega)]
theorem FrG.yad1 {m : Mem} {n q : Int} {tr : Int → Int → Int} : FrG m (yad m n q tr) := fun c j p => by
  unfold yad
  rw [if_neg (by omega), if_neg (by omega)]
section AD
variable {X : Cx} {sw : Bool} {m : Mem} {Q : Int → Bool → Mem → Prop}
theorem eK_add {n a w t : Int} (hn : 0 ≤ n ∧ n ≤ 9) (h3 : m 2 3 = n) (ha : w32 a = a) (hw : w32 w = w) (ht : w32 t = t) (q1 : ok3 n a w t → n < 9 → Q n sw (xa m n a w t)) (q2 : ok3 n a w t → ¬ n < 9 → Q (-3) sw m) (q3 : ¬ ok3 n a w t → Q (-1) sw m) : M2 X 3 mK_add [vr 2, vi a, vi w, vi t] sw m Q := by
  rw [ok3_ft hn] at q1 q2 q3
  refine wK_add _ _ _ _ _ _ ?_
  rw [h3]
  refine eK_fits hn (by omega) ha ?_
  rw [bz_w, bz_0]
  refine ⟨fun c => q3 (fun p => c p.1), fun c => ?_⟩
  rw [h3]
  refine eK_fits hn (by omega) hw ?_
  rw [bz_w, bz_0]
  refine ⟨fun c2 => q3 (fun p => c2 p.2.1), fun c2 => ?_⟩
  rw [h3]
  refine eK_fits hn (by omega) ht ?_
  rw [bz_w, bz_0, h3, w32_id (z := n) (by omega) (by omega)]
  refine ⟨fun c3 => ⟨fun c4 => ?_, fun c4 => q2 ⟨Decidable.not_not.mp c, Decidable.not_not.mp c2, Decidable.not_not.mp c3⟩ c4⟩, fun c3 => q3 (fun p => c3 (fun q => q p.2.2))⟩
  refine eK_write (by omega) (by omega) (eK_write (by omega) (by omega) (eK_write (by omega) (by omega) ?_))
  exact q1 ⟨Decidable.not_not.mp c, Decidable.not_not.mp c2, Decidable.not_not.mp c3⟩ c4
theorem eY_arePart {n a w t : Int} (hn : 0 ≤ n ∧ n ≤ 9) (h1 : m 84 1 = n) (ha : w32 a = a) (hw : w32 w = w) (ht : w32 t = t) (h : Q (bz (ok3 n a w t)) sw m) : M2 X 2 mY_arePart [vr 84, vi a, vi w, vi t] sw m Q := by
  have hp := p2_b hn.1 hn.2
  refine wY_arePart _ _ _ _ _ _ ?_
  rw [h1, zshl_p2 hn.1 (by omega)]
  refine eY_in ha (by decide) (w32_id (by omega) (by omega)) ?_
  rw [bz_w, bz_0]
  refine ⟨fun c => ?_, fun c => eY_in hw (by decide) (by decide) ?_⟩
  · rwa [bz_f (by unfold ok3; omega)] at h
  rw [bz_w, bz_0]
  refine ⟨fun c2 => ?_, fun c2 => eY_in ht (by decide) (by decide) ?_⟩
  · rwa [bz_f (by unfold ok3; omega)] at h
  rw [bz_w, bz_0]
  refine ⟨fun c3 => ?_, fun c3 => ?_⟩
  · rwa [bz_f (by unfold ok3; omega)] at h
  · rwa [bz_t (by unfold ok3; omega)] at h
theorem eY_addPart {n a w t : Int} (hn : 0 ≤ n ∧ n < 9) (h1 : m 84 1 = n) (h : Q n sw (ya m n a w t)) : M2 X 1 mY_addPart [vr 84, vi a, vi w, vi t] sw m Q := by
  refine wY_addPart _ _ _ _ _ _ ?_
  rw [h1, w32_id (z := n) (by omega) (by omega), show n + 1 - 1 = n by omega]
  exact ⟨hn, hn, hn, hn, hn, hn, h⟩
def tr1 (a w t : Int) : Int → Int → Int := fun _ k => if k = 0 then a else if k = 1 then w else t
theorem pr_part {a b : Int} (ha : w32 a = a) (hb : w32 b = b) (hI : IK m) {QQ : Int → Int → Bool → Mem → Prop} (h : ∀ z m', IK m' → KW 27 m m' → FrG m m' → (∀ c j, DG c j → m' c j = m c j) → QQ z z sw m') : M2 X 4 mZ_part [vr 1, vi a, vi b] sw m (fun z1 sw1 m1 => M2 X 3 mY_part [vr 84, vi a, vi b] sw1 m1 (fun z2 sw2 m2 => QQ z1 z2 sw2 m2)) := by
  have h0 := hI.1
  have h9 := hI.2.1
  have h1 := hI.2.2.1
  have same : ∀ z, QQ z z sw m := fun z => h z m hI (KW.rf (by decide) m) (FrG.rf m) (fun _ _ _ => rfl)
  refine wZ_part _ _ _ _ _ ?_
  rw [hb]
  refine ⟨fun c => ?_, fun c => wY_part _ _ _ _ _ ?_⟩
  · generalize hw : zdiv b 100 = w
    generalize ht : zrem b 100 = t
    have ew : w32 w = w := by rw [← hw]; exact zdiv_w _ _
    have et : w32 t = t := by rw [← ht]; exact zrem_w _ _
    generalize hn : m 2 3 = n at h0 h9 h1
    refine eK_add ⟨h0, h9⟩ hn ha ew et (fun p q => ?_) (fun p q => ?_) (fun p => ?_)
    · refine wY_part _ _ _ _ _ ?_
      rw [hb, hw, ht]
      refine ⟨fun q => by omega, fun _ => ?_⟩
      have o : ∀ c j, ¬ ((c = 2 ∧ 3 ≤ j ∧ j ≤ 5) ∨ (4 ≤ c ∧ c ≤ 16)) → xa m n a w t c j = m c j := fun c j q => by
        unfold xa wr
        simp (disch := omega) only [upm_ne]
      have o1 : xa m n a w t 84 1 = n := by rw [o 84 1 (by omega)]; exact h1
      refine eY_arePart ⟨h0, h9⟩ o1 ha ew et ?_
      rw [bz_w, bz_0, o1, w32_id (z := n) (by omega) (by omega)]
      refine ⟨fun _ => ⟨fun _ => eY_addPart ⟨h0, q⟩ o1 ?_, fun q2 => by omega⟩, fun q2 => absurd (fun q3 => q3 p) q2⟩
      have hx : xa m n a w t = xad m n 1 (tr1 a w t) := by
        have := xad_s (m := m) (n := n) (q := 0) (tr := tr1 a w t) (by omega)
        rw [xad_0 hn, show n + 0 = n by omega] at this
        exact this
      have hy : ∀ M : Mem, M 84 1 = n → ya M n a w t = yad M n 1 (tr1 a w t) := by
        intro M hM
        have := yad_s (m := M) (n := n) (q := 0) (tr := tr1 a w t) (by omega)
        rw [yad_0 hM, show n + 0 = n by omega] at this
        exact this
      rw [hy _ o1, hx]
      refine h n _ (hI.add hn (by omega) (by omega) (fun i i1 i2 => ?_) (fun c j _ => rfl)) (KW.ad hn (by omega) (q := 1) (tr := tr1 a w t) (by omega) (fun c j q => ?_)) (FrG.xad1.tr FrG.yad1) (fun c j q => ?_)
      · rw [show n + i = n by omega]; exact p
      · unfold yad
        rw [if_neg (by omega), if_neg (by omega)]
      · unfold yad
        unfold DG at q
        rw [if_neg (by omega), if_neg (by omega), ← hx]
        exact o c j (by omega)
    · refine wY_part _ _ _ _ _ ?_
      rw [hb, hw, ht]
      refine ⟨fun q => by omega, fun _ => eY_arePart ⟨h0, h9⟩ h1 ha ew et ?_⟩
      rw [bz_w, bz_0, h1, w32_id (z := n) (by omega) (by omega)]
      exact ⟨fun _ => ⟨fun q2 => by omega, fun _ => same _⟩, fun q2 => absurd (fun q3 => q3 p) q2⟩
    · refine wY_part _ _ _ _ _ ?_
      rw [hb, hw, ht]
      refine ⟨fun q => by omega, fun _ => eY_arePart ⟨h0, h9⟩ h1 ha ew et ?_⟩
      rw [bz_w, bz_0]
      exact ⟨fun q2 => absurd p q2, fun _ => same _⟩
  · rw [hb]
    exact ⟨fun _ => same _, fun q => by omega⟩
theorem eS_refusalOfShorts {a : Int} (ha : w32 a = a) (hI : IS m) (h : Q (if rfo m a 2 = 0 ∧ ¬ m 75 a = 1 then -12 else rfo m a 2) sw m) : M2 X 3 mS_refusalOfShorts [vr 72, vi a] sw m Q := by
  refine wS_refusalOfShorts _ _ _ _ (eS_refusalOf ha (by decide) hI ?_)
  rw [rfo_w, ha]
  refine ⟨fun c => ?_, fun c => ?_⟩
  · rwa [if_neg (fun p => c p.1)] at h
  · have c := Decidable.not_not.mp c
    have hr := row_f hI c
    rw [w32_id (z := m 75 a) (by omega) (by omega)]
    refine ⟨hr.1, fun q => ?_, fun q => ?_⟩
    · rwa [if_neg (fun p => p.2 q)] at h
    · rwa [if_pos ⟨c, q⟩] at h
theorem pr_parts {a i k : Int} (ha : w32 a = a) (hi : w32 i = i) (hk : w32 k = k) (hI : IK m) (hS : IS m) {QQ : Int → Int → Bool → Mem → Prop} (h : ∀ z m', IK m' → KW 27 m m' → FrG m m' → (∀ c j, DG c j → m' c j = m c j) → QQ z z sw m') : M2 X 6 mZ_parts [vr 1, vi a, vi i, vi k] sw m (fun z1 sw1 m1 => M2 X 3 mY_parts [vr 84, vi a, vi i, vi k] sw1 m1 (fun z2 sw2 m2 => QQ z1 z2 sw2 m2)) := by
  have h0 := hI.1
  have h9 := hI.2.1
  have h1 := hI.2.2.1
  have same : ∀ z, QQ z z sw m := fun z => h z m hI (KW.rf (by decide) m) (FrG.rf m) (fun _ _ _ => rfl)
  have hib := w32_b i
  -- the model where no part comes
  have mod : ∀ z, (¬ (0 ≤ a ∧ a < 6) → z = -1) → ((0 ≤ a ∧ a < 6) → ¬ (1 ≤ k ∧ k ≤ 9) → z = -1) → ((0 ≤ a ∧ a < 6) → (1 ≤ k ∧ k ≤ 9) → m 117 a = -1 → z = 0) → ((0 ≤ a ∧ a < 6) → (1 ≤ k ∧ k ≤ 9) → ¬ m 117 a = -1 → m 117 a ≠ -3 ∧ z = -12) → M2 X 3 mY_parts [vr 84, vi a, vi i, vi k] sw m (fun z2 sw2 m2 => QQ z z2 sw2 m2) := by
    intro z z1 z2 z3 z4
    refine wY_parts _ _ _ _ _ _ (eY_isShelf ha ?_)
    rw [bz_w, bz_0]
    refine ⟨fun q => by rw [z1 q]; exact same _, fun c => eY_in hk (by decide) (by decide) ?_⟩
    have c := Decidable.not_not.mp c
    have hs := (hS.2.2.2 a c.1 c.2).1
    have hS2 := hS.2.1
    rw [bz_w, bz_0, ha, w32_id (z := m 117 a) (by omega) (by omega)]
    refine ⟨fun c2 => ⟨c, fun c3 => ⟨c, fun q => absurd c3 q, fun _ => ?_⟩, fun c3 => ⟨c, fun c4 => ?_, fun c4 => ?_⟩⟩, fun c2 => ?_⟩
    · rw [z3 c (by omega) c3]; exact same _
    · exact absurd c4 (z4 c (by omega) c3).1
    · rw [(z4 c (by omega) c3).2]; exact same _
    · rw [z2 c (by omega)]; exact same _
  refine wZ_parts _ _ _ _ _ _ ?_
  rw [hk]
  refine ⟨fun c => mod _ (fun _ => rfl) (fun _ _ => rfl) (fun _ q => by omega) (fun _ q => by omega), fun c => ⟨fun c2 => eS_refusalOfShorts ha hS ?_, fun c2 => mod _ (fun _ => rfl) (fun _ _ => rfl) (fun _ q => by omega) (fun _ q => by omega)⟩⟩
  have hk9 : 1 ≤ k ∧ k ≤ 9 := by omega
  by_cases c3 : rfo m a 2 = 0 ∧ m 75 a = 1
  · rw [if_neg (fun q => q.2 c3.2), c3.1, w32_c0]
    refine ⟨fun _ => ?_, fun q => absurd rfl q⟩
    have hr := row_f hS c3.1
    have hl := (hS.2.2.2 a hr.1.1 hr.1.2).2
    have hsh := hr.2.2.2.2.2.2.2.2 c3.2
    generalize hn : m 2 3 = n at h0 h9 h1
    generalize hL : m 76 a = L at hr
    -- what a part of the row would be
    generalize htr : (fun q e : Int => m (78 + a) (i + 3 * q + e)) = tr
    have tre : ∀ q e : Int, tr q e = m (78 + a) (i + 3 * q + e) := fun q e => by rw [← htr]
    obtain ⟨r, r1, r2, r3⟩ := exN (fun q : Nat => (0 ≤ i + 3 * (q : Int) ∧ i + 3 * (q : Int) + 3 ≤ L) ∧ n + (q : Int) < 9 ∧ ok3 (n + q) (tr q 0) (tr q 1) (tr q 2)) k.toNat
    have hok : ∀ i' : Int, 0 ≤ i' → i' < (r : Int) → ok3 (n + i') (tr i' 0) (tr i' 1) (tr i' 2) := by
      intro i' i1 i2
      have := (r2 i'.toNat (by omega)).2.2
      rw [show ((i'.toNat : Nat) : Int) = i' by omega] at this
      exact this
    have hnr : n + (r : Int) ≤ 9 := by
      by_cases hr0 : r = 0
      · omega
      · have := (r2 (r - 1) (by omega)).2.1
        omega
    have wtr : ∀ (q : Nat) (e : Int), (0 ≤ i + 3 * (q : Int) ∧ i + 3 * (q : Int) + 3 ≤ L) → 0 ≤ e ∧ e ≤ 2 → w32 (tr q e) = tr q e := by
      intro q e hq he
      rw [tre]
      have := hsh (i + 3 * q + e) (by omega) (by omega)
      exact w32_id (by omega) (by omega)
    -- the end
    have fin : QQ (r : Int) (r : Int) sw (yad (xad m n r tr) n r tr) := by
      refine h r _ (hI.add hn (by omega) hnr hok (fun c j _ => rfl)) (KW.ad hn (q := r) (tr := tr) (by omega) (by omega) (fun c j q => ?_)) (FrG.xad1.tr FrG.yad1) (fun c j q => ?_)
      · unfold yad
        rw [if_neg (by omega), if_neg (by omega)]
      · unfold DG at q
        unfold yad xad
        rw [if_neg (by omega), if_neg (by omega), if_neg (by omega), if_neg (by omega), if_neg (by omega), if_neg (by omega)]
    -- the model's loop
    have xo : ∀ q c j, ¬ ((c = 2 ∧ 3 ≤ j ∧ j ≤ 5) ∨ (4 ≤ c ∧ c ≤ 16)) → xad m n q tr c j = m c j := fun q c j p => by
      unfold xad
      rw [if_neg (by omega), if_neg (by omega), if_neg (by omega), if_neg (by omega)]
    have yo : ∀ (M : Mem) q c j, ¬ ((c = 84 ∧ j = 1) ∨ (85 ≤ c ∧ c ≤ 90)) → yad M n q tr c j = M c j := fun M q c j p => by
      unfold yad
      rw [if_neg (by omega), if_neg (by omega)]
    have yloop : ∀ q : Nat, q ≤ r → R2 X 3 mY_parts 58 [(0, vr 84), (1, vi a), (2, vi i), (3, vi k), (4, vi (q : Int))] [] sw (yad (xad m n r tr) n q tr) (fun z2 sw2 m2 => QQ (r : Int) z2 sw2 m2) := by
      have v2 : ∀ (q : Nat) c, 0 ≤ c ∧ c ≤ 2 → (0 ≤ i + 3 * (q : Int) ∧ i + 3 * (q : Int) + 3 ≤ L) → ∀ M : Mem, M 119 = m 119 → M 119 (60 * a + (i + 3 * (q : Int)) + c) = tr q c := by
        intro q c hc hq M hM
        rw [hM, tre, ← hl (i + 3 * (q : Int) + c) (by omega) (by omega)]
        congr 1
        omega
      refine downN r ?_ (fun q hq ih => ?_)
      · refine wY_parts_58 _ _ _ _ _ _ _ ?_
        rw [hk, w32_id (z := ((r : Nat) : Int)) (by omega) (by omega), ha, hi, w32_id (z := 3 * ((r : Nat) : Int)) (by omega) (by omega), w64_id (z := i + 3 * ((r : Nat) : Int)) (by omega) (by omega), w64_id (z := i + 3 * ((r : Nat) : Int) + 2) (by omega) (by omega)]
        have e118 : yad (xad m n r tr) n r tr 118 a = L := by rw [yo _ _ _ _ (by omega), xo _ _ _ (by omega)]; exact hr.2.2.2.2.2.2.2.1
        have e84 : yad (xad m n r tr) n r tr 84 1 = n + r := by unfold yad; rw [if_pos ⟨rfl, rfl⟩]
        have em : yad (xad m n r tr) n r tr 119 = m 119 := by funext j; rw [yo _ _ _ _ (by omega), xo _ _ _ (by omega)]
        rw [e118, w32_id (z := L) (by omega) (by omega), w64_id (z := L) (by omega) (by omega), e84, w32_id (z := n + (r : Int)) (by omega) (by omega)]
        refine ⟨fun q => ?_, fun q => ⟨fun q2 => fin, fun q2 => ⟨hr.1, fun q3 => fin, fun q3 => ⟨fun q4 => ?_, fun q4 => fin⟩⟩⟩⟩
        · rw [show k = (r : Int) by omega]; exact fin
        · have hx0 : (0 ≤ i + 3 * (r : Int) ∧ i + 3 * (r : Int) + 3 ≤ L) := by omega
          rw [w32_id (z := 60 * a + (i + 3 * (r : Int))) (by omega) (by omega), w32_id (z := 60 * a + (i + 3 * (r : Int)) + 1) (by omega) (by omega), w32_id (z := 60 * a + (i + 3 * (r : Int)) + 2) (by omega) (by omega)]
          refine ⟨by omega, by omega, by omega, ?_⟩
          have a0 := v2 r 0 (by omega) hx0 _ em
          rw [show 60 * a + (i + 3 * (r : Int)) + 0 = 60 * a + (i + 3 * (r : Int)) by omega] at a0
          rw [a0, v2 r 1 (by omega) hx0 _ em, v2 r 2 (by omega) hx0 _ em]
          refine eY_arePart (n := n + r) (by omega) e84 (wtr r 0 hx0 (by omega)) (wtr r 1 hx0 (by omega)) (wtr r 2 hx0 (by omega)) ?_
          rw [bz_w, bz_0]
          refine ⟨fun q5 => ?_, fun _ => fin⟩
          rcases r3 with r3 | r3
          · omega
          · exact absurd ⟨hx0, by omega, Decidable.not_not.mp q5⟩ r3
      · obtain ⟨p1, p2', p3⟩ := r2 q hq
        refine wY_parts_58 _ _ _ _ _ _ _ ?_
        rw [hk, w32_id (z := (q : Int)) (by omega) (by omega), ha, hi, w32_id (z := 3 * (q : Int)) (by omega) (by omega), w64_id (z := i + 3 * (q : Int)) (by omega) (by omega), w64_id (z := i + 3 * (q : Int) + 2) (by omega) (by omega)]
        have e118 : yad (xad m n r tr) n q tr 118 a = L := by rw [yo _ _ _ _ (by omega), xo _ _ _ (by omega)]; exact hr.2.2.2.2.2.2.2.1
        have e84 : yad (xad m n r tr) n q tr 84 1 = n + q := by unfold yad; rw [if_pos ⟨rfl, rfl⟩]
        have em : yad (xad m n r tr) n q tr 119 = m 119 := by funext j; rw [yo _ _ _ _ (by omega), xo _ _ _ (by omega)]
        rw [e118, w32_id (z := L) (by omega) (by omega), w64_id (z := L) (by omega) (by omega), e84, w32_id (z := n + (q : Int)) (by omega) (by omega)]
        refine ⟨fun q => by omega, fun _ => ⟨fun q => by omega, fun _ => ⟨hr.1, fun q => by omega, fun _ => ⟨fun _ => ?_, fun q => by omega⟩⟩⟩⟩
        rw [w32_id (z := 60 * a + (i + 3 * (q : Int))) (by omega) (by omega), w32_id (z := 60 * a + (i + 3 * (q : Int)) + 1) (by omega) (by omega), w32_id (z := 60 * a + (i + 3 * (q : Int)) + 2) (by omega) (by omega)]
        refine ⟨by omega, by omega, by omega, ?_⟩
        have a0 := v2 q 0 (by omega) p1 _ em
        rw [show 60 * a + (i + 3 * (q : Int)) + 0 = 60 * a + (i + 3 * (q : Int)) by omega] at a0
        rw [a0, v2 q 1 (by omega) p1 _ em, v2 q 2 (by omega) p1 _ em]
        refine eY_arePart (n := n + q) (by omega) e84 (wtr q 0 p1 (by omega)) (wtr q 1 p1 (by omega)) (wtr q 2 p1 (by omega)) ?_
        rw [bz_w, bz_0]
        refine ⟨fun _ => ⟨by omega, by omega, by omega, ?_⟩, fun q2 => absurd (fun q3 => q3 p3) q2⟩
        rw [a0, v2 q 1 (by omega) p1 _ em, v2 q 2 (by omega) p1 _ em]
        refine eY_addPart (n := n + q) (by omega) e84 ?_
        rw [yad_s (by omega)]
        exact ih
    -- the class's loop
    have xloop : ∀ q : Nat, q ≤ r → R2 X 6 mZ_parts 45 [(0, vr 1), (1, vi a), (2, vi i), (3, vi k), (5, vi (q : Int))] [] sw (xad m n q tr) (fun z1 sw1 m1 => M2 X 3 mY_parts [vr 84, vi a, vi i, vi k] sw1 m1 (fun z2 sw2 m2 => QQ z1 z2 sw2 m2)) := by
      have yst : M2 X 3 mY_parts [vr 84, vi a, vi i, vi k] sw (xad m n r tr) (fun z2 sw2 m2 => QQ (r : Int) z2 sw2 m2) := by
        refine wY_parts _ _ _ _ _ _ (eY_isShelf ha ?_)
        rw [bz_w, bz_0]
        refine ⟨fun q => absurd hr.1 q, fun _ => eY_in hk (by decide) (by decide) ?_⟩
        have e117 : xad m n r tr 117 a = -3 := by rw [xo _ _ _ (by omega)]; omega
        rw [bz_w, bz_0, ha, e117]
        refine ⟨fun _ => ⟨hr.1, fun q => absurd q (by decide), fun _ => ⟨hr.1, fun _ => ⟨hr.1, fun _ => ?_, fun q => absurd (by decide) q⟩, fun q => absurd (by decide) q⟩⟩, fun q => by omega⟩
        have := yloop 0 (by omega)
        rw [show ((0 : Nat) : Int) = 0 from rfl, yad_0] at this
        · exact this
        · rw [xo _ _ _ (by omega)]; exact h1
      have cel : ∀ (q : Nat) (e : Int) (M : Mem) (Q' : Int → Bool → Mem → Prop), IS M → (∀ c j, ¬ ((c = 2 ∧ 3 ≤ j ∧ j ≤ 5) ∨ (4 ≤ c ∧ c ≤ 16)) → M c j = m c j) → (0 ≤ i + 3 * (q : Int) ∧ i + 3 * (q : Int) + 3 ≤ L) → 0 ≤ e ∧ e ≤ 2 → Q' (tr q e) sw M → M2 X 4 mS_cell [vr 72, vi a, vi (i + 3 * (q : Int) + e)] sw M Q' := by
        intro q e M Q' hM ho hq he hQ
        refine eS_cell ha (w32_id (by omega) (by omega)) hM ?_
        have e1 : rfp M a (i + 3 * (q : Int) + e) = 0 := by
          have e0 : rfo M a 2 = 0 := by
            unfold rfo
            rw [ho 73 a (by omega), if_pos hr.1, if_neg (by omega), if_pos hr.2.1]
          unfold rfp
          rw [if_pos e0, ho 76 a (by omega), if_pos (by omega)]
        rw [if_pos e1, ho (78 + a) _ (by omega)]
        rw [tre] at hQ
        exact hQ
      have siz : ∀ (M : Mem) (Q' : Int → Bool → Mem → Prop), IS M → (∀ c j, ¬ ((c = 2 ∧ 3 ≤ j ∧ j ≤ 5) ∨ (4 ≤ c ∧ c ≤ 16)) → M c j = m c j) → Q' L sw M → M2 X 3 mS_sizeOf [vr 72, vi a] sw M Q' := by
        intro M Q' hM ho hQ
        refine eS_sizeOf ha hM ?_
        have e1 : rfo M a 2 = 0 := by
          unfold rfo
          rw [ho 73 a (by omega), if_pos hr.1, if_neg (by omega), if_pos hr.2.1]
        rw [if_pos e1, ho 76 a (by omega), hL]
        exact hQ
      have hSx : ∀ q, IS (xad m n q tr) := fun q => hS.fr (fun c j d => xo q c j (by unfold DS at d; omega))
      have row : ∀ (q : Nat), (0 ≤ i + 3 * (q : Int) ∧ i + 3 * (q : Int) + 3 ≤ L) → ∀ (Q' : Int → Bool → Mem → Prop), M2 X 3 mK_add [vr 2, vi (tr q 0), vi (tr q 1), vi (tr q 2)] sw (xad m n q tr) (fun z5 sw5 m5 => ((w32 z5 < 0 → Q' 0 sw5 m5) ∧ (¬ (w32 z5 < 0) → Q' 1 sw5 m5))) → M2 X 5 mZ_addFromRow [vr 1, vi a, vl (i + 3 * (q : Int))] sw (xad m n q tr) Q' := by
        intro q hq Q' hQ
        refine wZ_addFromRow _ _ _ _ _ ?_
        rw [w64_id (z := i + 3 * (q : Int)) (by omega) (by omega), w64_id (z := i + 3 * (q : Int) + 3) (by omega) (by omega)]
        refine ⟨fun q => by omega, fun _ => siz _ _ (hSx q) (xo q) ?_⟩
        rw [w32_id (z := L) (by omega) (by omega), w64_id (z := L) (by omega) (by omega)]
        refine ⟨fun _ => ?_, fun q => by omega⟩
        have c0 := cel q 0 (xad m n q tr) (fun z2 sw2 m2 => M2 X 4 mS_cell [vr 72, vi a, vi (i + 3 * (q : Int) + 1)] sw2 m2 (fun z3 sw3 m3 => M2 X 4 mS_cell [vr 72, vi a, vi (i + 3 * (q : Int) + 2)] sw3 m3 (fun z4 sw4 m4 => M2 X 3 mK_add [vr 2, vi z2, vi z3, vi z4] sw4 m4 (fun z5 sw5 m5 => ((w32 z5 < 0 → Q' 0 sw5 m5) ∧ (¬ (w32 z5 < 0) → Q' 1 sw5 m5)))))) (hSx q) (xo q) hq (by omega) (cel q 1 _ _ (hSx q) (xo q) hq (by omega) (cel q 2 _ _ (hSx q) (xo q) hq (by omega) hQ))
        rw [show i + 3 * (q : Int) + 0 = i + 3 * (q : Int) by omega] at c0
        exact c0
      have e23 : ∀ q, xad m n q tr 2 3 = n + q := fun q => by unfold xad; rw [if_pos ⟨rfl, rfl⟩]
      refine downN r ?_ (fun q hq ih => ?_)
      · refine wZ_parts_45 _ _ _ _ _ _ _ ?_
        rw [hk, w32_id (z := (r : Int)) (by omega) (by omega), hi]
        refine ⟨fun _ => yst, fun c4 => ?_⟩
        have r3 : ¬ ((0 ≤ i + 3 * (r : Int) ∧ i + 3 * (r : Int) + 3 ≤ L) ∧ n + (r : Int) < 9 ∧ ok3 (n + r) (tr r 0) (tr r 1) (tr r 2)) := by
          rcases r3 with r3 | r3
          · omega
          · exact r3
        by_cases hx0 : 0 ≤ i + 3 * (r : Int) ∧ i + 3 * (r : Int) + 3 ≤ L
        · refine row r hx0 _ (eK_add (n := n + r) (by omega) (e23 _) (wtr r 0 hx0 (by omega)) (wtr r 1 hx0 (by omega)) (wtr r 2 hx0 (by omega)) (fun p q => absurd ⟨hx0, q, p⟩ r3) (fun _ _ => ?_) (fun _ => ?_))
          · exact ⟨fun _ => ⟨fun _ => yst, fun q => absurd (by decide) q⟩, fun q => absurd (by decide) q⟩
          · exact ⟨fun _ => ⟨fun _ => yst, fun q => absurd (by decide) q⟩, fun q => absurd (by decide) q⟩
        · refine wZ_addFromRow _ _ _ _ _ ?_
          rw [w64_id (z := i + 3 * (r : Int)) (by omega) (by omega), w64_id (z := i + 3 * (r : Int) + 3) (by omega) (by omega)]
          refine ⟨fun _ => ⟨fun _ => yst, fun q => absurd (by decide) q⟩, fun q => siz _ _ (hSx r) (xo r) ?_⟩
          rw [w32_id (z := L) (by omega) (by omega), w64_id (z := L) (by omega) (by omega)]
          exact ⟨fun q => by omega, fun _ => ⟨fun _ => yst, fun q => absurd (by decide) q⟩⟩
      · obtain ⟨p1, p2', p3⟩ := r2 q hq
        refine wZ_parts_45 _ _ _ _ _ _ _ ?_
        rw [hk, w32_id (z := (q : Int)) (by omega) (by omega), hi]
        refine ⟨fun q => by omega, fun c4 => row q p1 _ (eK_add (n := n + q) (by omega) (e23 _) (wtr q 0 p1 (by omega)) (wtr q 1 p1 (by omega)) (wtr q 2 p1 (by omega)) (fun _ _ => ?_) (fun _ q => absurd p2' q) (fun q => absurd p3 q))⟩
        rw [xad_s (by omega), w32_id (z := n + (q : Int)) (by omega) (by omega)]
        exact ⟨fun q => by omega, fun _ => ⟨fun q => absurd q (by decide), fun _ => ih⟩⟩
    have := xloop 0 (by omega)
    rw [show ((0 : Nat) : Int) = 0 from rfl, xad_0 hn] at this
    exact this
  · have ev : (if rfo m a 2 = 0 ∧ ¬ m 75 a = 1 then -12 else rfo m a 2) = if 0 ≤ a ∧ a < 6 then (if m 73 a = 0 then -11 else -12) else -1 := by
      by_cases c : 0 ≤ a ∧ a < 6
      · rw [if_pos c]
        by_cases p0 : m 73 a = 0
        · have : rfo m a 2 = -11 := by unfold rfo; rw [if_pos c, if_pos p0]
          rw [if_pos p0, if_neg (by omega), this]
        · rw [if_neg p0]
          by_cases p2 : m 73 a = 2
          · have : rfo m a 2 = 0 := by unfold rfo; rw [if_pos c, if_neg p0, if_pos p2]
            rw [if_pos (by omega)]
          · have : rfo m a 2 = -12 := by unfold rfo; rw [if_pos c, if_neg p0, if_neg p2]
            rw [if_neg (by omega), this]
      · have : rfo m a 2 = -1 := by unfold rfo; rw [if_neg c]
        rw [if_neg (by omega), if_neg c, this]
    rw [ev]
    by_cases c : 0 ≤ a ∧ a < 6
    · rw [if_pos c]
      have hs := (hS.2.2.2 a c.1 c.2).1
      by_cases p0 : m 73 a = 0
      · rw [if_pos p0]
        exact ⟨fun q => absurd q (by decide), fun _ => ⟨fun q => absurd (by decide) q, fun _ => mod 0 (fun q => absurd c q) (fun _ q => absurd hk9 q) (fun _ _ _ => rfl) (fun _ _ q => by omega)⟩⟩
      · rw [if_neg p0]
        refine ⟨fun q => absurd q (by decide), fun _ => ⟨fun q => mod (-12) (fun q => absurd c q) (fun _ q => absurd hk9 q) (fun _ _ q => by omega) (fun _ _ _ => ⟨fun q => ?_, rfl⟩), fun q => absurd (by decide) q⟩⟩
        refine c3 ⟨?_, by omega⟩
        unfold rfo
        rw [if_pos c, if_neg p0, if_pos (by omega)]
    · rw [if_neg c]
      exact ⟨fun q => absurd q (by decide), fun _ => ⟨fun q => mod (-1) (fun _ => rfl) (fun q => absurd q c) (fun q => absurd q c) (fun q => absurd q c), fun q => absurd (by decide) q⟩⟩
end AD
