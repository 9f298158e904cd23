/-! texts: the model's reader, its small methods -/
def am (t : Int) : Int := if 0 ≤ t then 1 else if t ≤ -20 then 2 else if t = -1 then 124 else if t = -2 then 38 else if t = -3 then 60 else if t = -4 then 61 else if t = -5 then 62 else if t = -6 then 43 else if t = -7 then 45 else if t = -8 then 42 else if t = -9 then 47 else if t = -10 then 37 else if t = -11 then 3 else 4
def wm (t : Int) : Int := if 0 ≤ t then t else if t ≤ -20 then -20 - t else 0
def ny (n : Nat) (b : Nat → Int) (p : Nat) : Int := if p < n then w8 (b p) else -1
def tY (n : Nat) (b : Nat → Int) (m : Mem) : Prop := m 84 16 = n ∧ n ≤ 120 ∧ ∀ i : Nat, i < n → m 96 i = w8 (b i) ∧ 0 ≤ b i ∧ b i ≤ 255
def FrY (m m' : Mem) : Prop := ∀ c j : Int, ¬ (c = 84 ∧ 17 ≤ j ∧ j ≤ 20) → ¬ ((c = 97 ∨ c = 98) ∧ 130 ≤ j) → m' c j = m c j
theorem FrY.rf (m : Mem) : FrY m m := fun _ _ _ _ => rfl
theorem FrY.tr {m1 m2 m3 : Mem} (h : FrY m1 m2) (g : FrY m2 m3) : FrY m1 m3 := fun c j q r => (g c j q r).trans (h c j q r)
theorem FrY.up {m : Mem} {i v : Int} (h : 17 ≤ i ∧ i ≤ 20) : FrY m (upm m 84 i v) := fun c j q _ => upm_ne (by omega)
theorem FrY.a1 {m : Mem} {i v : Int} (h : 130 ≤ i) : FrY m (upm m 97 i v) := fun c j _ q => upm_ne (by omega)
theorem FrY.a2 {m : Mem} {i v : Int} (h : 130 ≤ i) : FrY m (upm m 98 i v) := fun c j _ q => upm_ne (by omega)
theorem tY.fr {n : Nat} {b : Nat → Int} {m m' : Mem} (h : tY n b m) (f : FrY m m') : tY n b m' := by
  refine ⟨by rw [f 84 16 (by omega) (by omega)]; exact h.1, h.2.1, fun i hi => ?_⟩
  rw [f 96 i (by omega) (by omega)]
  exact h.2.2 i hi
def yA (n p : Nat) (o A : Int) (m : Mem) : Prop := m 84 17 = p ∧ p ≤ n ∧ m 84 18 = -1 ∧ m 84 19 = o ∧ m 84 20 = A ∧ 0 ≤ A ∧ A ≤ p
/-- a fault at q; so many steps at most since p -/
def yB (n p q : Nat) (A : Int) (m : Mem) : Prop := m 84 17 = q ∧ q ≤ n ∧ m 84 18 = q ∧ A ≤ m 84 20 ∧ m 84 20 + p ≤ A + q + 1
def YP (n : Nat) (o A : Int) (p : Nat) (m : Mem) (r : Rs) (m' : Mem) : Prop :=
  FrY m m' ∧ ((r.1 = true ∧ yA n r.2.1 o (A + (r.2.2.length : Int)) m' ∧ (∀ k, k < 130 + A → m' 97 k = m 97 k ∧ m' 98 k = m 98 k) ∧ Sg (m' 97) (130 + A) (r.2.2.map am) ∧ Sg (m' 98) (130 + A) (r.2.2.map wm)) ∨ (¬ r.1 = true ∧ yB n p r.2.1 A m'))
section YL
variable {X : Cx} {sw : Bool} {m : Mem} {Q : Int → Bool → Mem → Prop} {n : Nat} {b : Nat → Int}
theorem ny_b {p : Nat} : -128 ≤ ny n b p ∧ ny n b p < 128 := by
  unfold ny
  split
  · rw [w8_eq]; omega
  · omega
theorem ny_nx {p : Nat} (hT : tY n b m) : ny n b p = nx n b p ∨ (ny n b p < 0 ∧ 128 ≤ nx n b p) := by
  unfold ny nx
  by_cases h : p < n
  · rw [if_pos h, if_pos h]
    have := hT.2.2 p h
    rw [w8_eq]
    omega
  · rw [if_neg h, if_neg h]; exact Or.inl rfl
theorem nx_b' {p : Nat} (hT : tY n b m) : -1 ≤ nx n b p ∧ nx n b p ≤ 255 := by
  unfold nx
  by_cases h : p < n
  · rw [if_pos h]
    have := hT.2.2 p h
    omega
  · rw [if_neg h]; omega
theorem eY_looksOn {p : Nat} (hT : tY n b m) (h7 : m 84 17 = p) (hp : p ≤ n) (h : Q (ny n b p) sw m) : M2 X 1 mY_looksOn [vr 84] sw m Q := by
  have hn := hT.2.1
  refine wY_looksOn _ _ _ ?_
  rw [h7, hT.1, w32_id (z := (p : Int)) (by omega) (by omega), w32_id (z := (n : Int)) (by omega) (by omega)]
  unfold ny at h
  refine ⟨fun c => ?_, fun c => ⟨by omega, ?_⟩⟩
  · rwa [if_neg (by omega)] at h
  · rw [if_pos (by omega)] at h
    rw [(hT.2.2 p (by omega)).1]
    exact h
theorem eY_wrong {p : Nat} (h8 : m 84 18 = -1) (h : Q 0 sw (upm m 84 18 (m 84 17))) : M2 X 1 mY_wrong [vr 84] sw m Q := by
  refine wY_wrong _ _ _ ?_
  rw [h8]
  exact ⟨fun q => absurd q (by decide), fun _ => h⟩
/-- a step laid -/
def yst (m : Mem) (A a v : Int) : Mem := upm (upm (upm m 97 (130 + A) a) 98 (130 + A) v) 84 20 (A + 1)
theorem yst_at {m : Mem} {A a v : Int} (hA : 0 ≤ A) : (∀ i : Int, ¬ i = 20 → yst m A a v 84 i = m 84 i) ∧ yst m A a v 84 20 = A + 1 ∧ yst m A a v 97 (130 + A) = a ∧ yst m A a v 98 (130 + A) = v ∧ (∀ k, ¬ k = 130 + A → yst m A a v 97 k = m 97 k ∧ yst m A a v 98 k = m 98 k) ∧ FrY m (yst m A a v) := by
  unfold yst
  refine ⟨fun i hi => ?_, ?_, ?_, ?_, fun k hk => ⟨?_, ?_⟩, ((FrY.a1 (by omega)).tr (FrY.a2 (by omega))).tr (FrY.up (by omega))⟩
  · rw [upm_at, if_neg hi, upm_row (by omega), upm_row (by omega)]
  · rw [upm_at, if_pos rfl]
  · rw [upm_row (by omega), upm_row (by omega), upm_at, if_pos rfl]
  · rw [upm_row (by omega), upm_at, if_pos rfl]
  · rw [upm_row (by omega), upm_row (by omega), upm_at, if_neg hk]
  · rw [upm_row (by omega), upm_at, if_neg hk, upm_row (by omega)]
theorem eY_addStep {A a v : Int} (h20 : m 84 20 = A) (hA : 0 ≤ A ∧ A ≤ 125) (ha : 0 ≤ a ∧ a < 128) (h : Q 0 sw (yst m A a v)) : M2 X 1 mY_addStep [vr 84, vi a, vi v] sw m Q := by
  have e : w8 (w8 a) = a := by simp only [w8_eq]; omega
  refine wY_addStep _ _ _ _ _ ?_
  rw [h20, w32_id (z := 130 + A) (by omega) (by omega), e]
  have e2 : upm (upm m 97 (130 + A) a) 98 (130 + A) v 84 20 = A := by rw [upm_row (by omega), upm_row (by omega)]; exact h20
  exact ⟨by omega, by omega, h⟩
theorem eY_nameOf {z : Int} (hz : w32 z = z) (h : Q (nm z) sw m) : M2 X 1 mY_nameOf [vi z] sw m Q := by
  refine wY_nameOf _ _ _ _ ?_
  rw [hz]
  unfold nm at h
  refine ⟨fun q => ?_, fun q => ?_, fun q => ?_, fun q => ?_, fun q => ?_, fun q => ?_, fun q => ?_⟩
  · rw [q] at h; exact h
  · rw [q] at h; exact h
  · rw [q] at h; exact h
  · rw [q] at h; exact h
  · rw [q] at h; exact h
  · rw [q] at h; exact h
  · rwa [if_neg (by omega), if_neg (by omega), if_neg (by omega), if_neg (by omega), if_neg (by omega), if_neg (by omega)] at h
/-- a fault now, a step behind it -/
theorem eY_wrongStep {p : Nat} {A a v : Int} {P : Int → Int → Bool → Mem → Prop} (h8 : m 84 18 = -1) (h20 : m 84 20 = A) (hA : 0 ≤ A ∧ A ≤ 125) (ha : 0 ≤ a ∧ a < 128) (h : Q 0 sw (yst (upm m 84 18 (m 84 17)) A a v)) : M2 X 1 mY_wrong [vr 84] sw m (fun z1 sw1 m1 => M2 X 1 mY_addStep [vr 84, vi a, vi v] sw1 m1 (fun z2 sw2 m2 => Q 0 sw2 m2)) := by
  refine eY_wrong (p := p) h8 (eY_addStep ?_ hA ha h)
  rw [upm_at, if_neg (by omega)]; exact h20
theorem sg_hi {L c : Int} (h : 125 ≤ c) : sg L c = 0 := by
  unfold sg
  repeat' split
  all_goals omega
theorem nm_hi {c : Int} (h : 125 ≤ c ∨ c < 33) : nm c = -1 := by
  unfold nm
  repeat' split
  all_goals omega
theorem nm_ny {p : Nat} (hT : tY n b m) : nm (ny n b p) = nm (nx n b p) := by
  rcases ny_nx (p := p) hT with e | e
  · rw [e]
  · rw [nm_hi (c := ny n b p) (by omega), nm_hi (c := nx n b p) (by omega)]
theorem sg_ny {p : Nat} (hT : tY n b m) (L : Int) : sg L (ny n b p) = sg L (nx n b p) := by
  rcases ny_nx (p := p) hT with e | e
  · rw [e]
  · rw [sg_end (show ny n b p < 33 by omega), sg_hi (show 125 ≤ nx n b p by omega)]
theorem YP.bad {o A : Int} {p q : Nat} {m' : Mem} {l : List Int} (f : FrY m m') (h : yB n p q A m') : YP n o A p m (false, q, l) m' := ⟨f, Or.inr ⟨Bool.false_ne_true, h⟩⟩
theorem YP.add {o A : Int} {p q : Nat} {t : Int} {m' : Mem} (hA : 0 ≤ A) (f : FrY m m') (h1 : m' 84 17 = q) (h2 : q ≤ n) (h3 : m' 84 18 = -1) (h4 : m' 84 19 = o) (h5 : m' 84 20 = A + 1) (h6 : A + 1 ≤ q) (h7 : m' 97 (130 + A) = am t) (h8 : m' 98 (130 + A) = wm t) (h9 : ∀ k, ¬ k = 130 + A → m' 97 k = m 97 k ∧ m' 98 k = m 98 k) : YP n o A p m (true, q, [t]) m' :=
  ⟨f, Or.inl ⟨rfl, ⟨h1, h2, h3, h4, h5, by show 0 ≤ A + 1; omega, h6⟩, fun k hk => h9 k (by omega), ⟨h7, trivial⟩, ⟨h8, trivial⟩⟩⟩
theorem lY_digits {o A : Int} {p0 : Nat} {m : Mem} (hT : tY n b m) (hA0 : yA n p0 o A m) : ∀ (c : Nat) (v : Int) (p : Nat) (m1 : Mem), c ≤ 3 → p0 < p → FrY m m1 → yA n p o A m1 → (∀ k, m1 97 k = m 97 k ∧ m1 98 k = m 98 k) → 0 ≤ v → (∀ m', YP n o A p0 m (if dgt (nx n b (dgs n b c v p).2) then (false, (dgs n b c v p).2, []) else (true, (dgs n b c v p).2, [(dgs n b c v p).1])) m' → Q 0 sw m') → R2 X 2 mY_figure 4 [(0, vr 84), (1, vi v), (2, vi (4 - (c : Int)))] [] sw m1 Q := by
  intro c
  have hn := hT.2.1
  have bb := hA0.2.2.2.2
  -- the end behind the digits
  have fin : ∀ (v : Int) (p : Nat) (m1 : Mem), p0 < p → FrY m m1 → yA n p o A m1 → (∀ k, m1 97 k = m 97 k ∧ m1 98 k = m 98 k) → 0 ≤ v → (∀ m', YP n o A p0 m (if dgt (nx n b p) then (false, p, []) else (true, p, [v])) m' → Q 0 sw m') → M2 X 1 mY_looksOn [vr 84] sw m1 (fun z3 sw3 m3 => M2 X 1 mY_in [vi z3, vi 48, vi 57] sw3 m3 (fun z4 sw4 m4 => ((w32 z4 = 0 → M2 X 1 mY_addStep [vr 84, vi 1, vi v] sw4 m4 (fun z5 sw5 m5 => Q 0 sw5 m5)) ∧ (¬ (w32 z4 = 0) → M2 X 1 mY_wrong [vr 84] sw4 m4 (fun z6 sw6 m6 => M2 X 1 mY_addStep [vr 84, vi 1, vi v] sw6 m6 (fun z7 sw7 m7 => Q 0 sw7 m7)))))) := by
    intro v p m1 hp0 hF hA hs hv h
    obtain ⟨a1, a2, a3, a4, a5, a6, a7⟩ := hA
    have hT1 := hT.fr hF
    have hb := ny_b (n := n) (b := b) (p := p)
    have hxy := ny_nx (p := p) hT1
    refine eY_looksOn hT1 a1 a2 (eY_in (w32_id (by omega) (by omega)) (by decide) (by decide) ?_)
    rw [bz_w, bz_0]
    refine ⟨fun c1 => eY_addStep (A := A) a5 (by omega) (by omega) ?_, fun c1 => eY_wrongStep (p := p) (P := fun _ _ _ _ => True) a3 a5 (by omega) (by omega) ?_⟩
    · rw [if_neg (by omega)] at h
      obtain ⟨e1, e2, e3, e4, e5, e6⟩ := yst_at (m := m1) (A := A) (a := 1) (v := v) (by omega)
      refine h _ (YP.add (by omega) (hF.tr e6) ((e1 17 (by omega)).trans a1) a2 ((e1 18 (by omega)).trans a3) ((e1 19 (by omega)).trans a4) e2 (by omega) ?_ ?_ (fun k hk => ?_))
      · rw [e3]; unfold am; rw [if_pos hv]
      · rw [e4]; unfold wm; rw [if_pos hv]
      · rw [(e5 k hk).1, (e5 k hk).2]; exact hs k
    · rw [if_pos (by omega)] at h
      obtain ⟨e1, e2, e3, e4, e5, e6⟩ := yst_at (m := upm m1 84 18 (m1 84 17)) (A := A) (a := 1) (v := v) (by omega)
      refine h _ (YP.bad ((hF.tr (FrY.up (by omega))).tr e6) ⟨?_, a2, ?_, by rw [e2]; omega, by rw [e2]; omega⟩)
      · rw [e1 17 (by omega), upm_at, if_neg (by omega)]; exact a1
      · rw [e1 18 (by omega), upm_at, if_pos rfl]; exact a1
  induction c with
  | zero =>
    intro v p m1 hc hp0 hF hA hs hv h
    exact wY_figure_4 _ _ _ _ _ ⟨fun _ => ⟨fun q => absurd q (by decide), fun _ => fin v p m1 hp0 hF hA hs hv h⟩, fun q => absurd (by decide) q⟩
  | succ c ih =>
    intro v p m1 hc hp0 hF hA hs hv h
    have hA' := hA
    obtain ⟨a1, a2, a3, a4, a5, a6, a7⟩ := hA'
    have hT1 := hT.fr hF
    have hb := ny_b (n := n) (b := b) (p := p)
    have hxy := ny_nx (p := p) hT1
    rw [dgs_c] at h
    refine wY_figure_4 _ _ _ _ _ ?_
    rw [w32_id (z := 4 - ((c + 1 : Nat) : Int)) (by omega) (by omega)]
    refine ⟨fun q => by omega, fun _ => eY_looksOn hT1 a1 a2 (eY_in (w32_id (by omega) (by omega)) (by decide) (by decide) ?_)⟩
    rw [bz_w, bz_0]
    refine ⟨fun c1 => ⟨fun q => by omega, fun _ => ?_⟩, fun c1 => eY_looksOn hT1 a1 a2 ?_⟩
    · rw [if_neg (show ¬ dgt (nx n b p) by omega)] at h
      exact fin v p m1 hp0 hF hA hs hv h
    · have hd : dgt (nx n b p) := by omega
      have hlt := nx_lt (n := n) (b := b) (p := p) (by omega)
      rw [if_pos hd] at h
      have e : ny n b p = nx n b p := by omega
      rw [e, show (4 : Int) - ((c + 1 : Nat) : Int) + 1 = 4 - (c : Int) by omega, show 10 * v + nx n b p - 48 = v * 10 + nx n b p - 48 by omega]
      refine ih (v * 10 + nx n b p - 48) (p + 1) _ (by omega) (by omega) (hF.tr (FrY.up (by omega))) ⟨?_, hlt, ?_, ?_, ?_, a6, by omega⟩ (fun k => ?_) (by omega) h
      · rw [upm_at, if_pos rfl, a1]; rfl
      · rw [upm_at, if_neg (by omega)]; exact a3
      · rw [upm_at, if_neg (by omega)]; exact a4
      · rw [upm_at, if_neg (by omega)]; exact a5
      · rw [upm_row (by omega), upm_row (by omega)]; exact hs k
end YL
