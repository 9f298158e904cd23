/-! the law worked out: the model; twelfths in both -/
section GW
variable {X : Cx} {sw : Bool} {m : Mem} {Q : Int → Bool → Mem → Prop}
theorem eY_twoOf {t x y a c : Int} (ht : -10 ≤ t ∧ t ≤ -1) (hx : w32 x = a) (hy : w32 y = c) (h : ∀ z, w32 z = val2 t a c → Q z sw m) : M2 X 1 mY_twoOf [vi (am t), vi x, vi y] sw m Q := by
  have k0 : w32 0 = 0 := by decide
  have k1 : w32 1 = 1 := by decide
  have hor : t = -1 → ((¬ a = 0 → Q 1 sw m) ∧ (¬ (¬ a = 0) → ((c = 0 → Q 0 sw m) ∧ (¬ (c = 0) → Q 1 sw m)))) := by
    intro q; subst q
    have h2 : ∀ z, w32 z = bz (¬ a = 0 ∨ ¬ c = 0) → Q z sw m := h
    refine ⟨fun q => h2 _ ?_, fun q => ⟨fun q2 => h2 _ ?_, fun q2 => h2 _ ?_⟩⟩
    · rw [bz_t (by omega)]; exact k1
    · rw [bz_f (by omega)]; exact k0
    · rw [bz_t (by omega)]; exact k1
  have hand : t = -2 → ((a = 0 → Q 0 sw m) ∧ (¬ (a = 0) → ((c = 0 → Q 0 sw m) ∧ (¬ (c = 0) → Q 1 sw m)))) := by
    intro q; subst q
    have h2 : ∀ z, w32 z = bz (¬ a = 0 ∧ ¬ c = 0) → Q z sw m := h
    refine ⟨fun q => h2 _ ?_, fun q => ⟨fun q2 => h2 _ ?_, fun q2 => h2 _ ?_⟩⟩
    · rw [bz_f (by omega)]; exact k0
    · rw [bz_f (by omega)]; exact k0
    · rw [bz_t (by omega)]; exact k1
  have hlt : t = -3 → ((c ≤ a → Q 0 sw m) ∧ (¬ (c ≤ a) → Q 1 sw m)) := by
    intro q; subst q
    have h2 : ∀ z, w32 z = bz (a < c) → Q z sw m := h
    refine ⟨fun q => h2 _ ?_, fun q => h2 _ ?_⟩
    · rw [bz_f (by omega)]; exact k0
    · rw [bz_t (by omega)]; exact k1
  have heq : t = -4 → ((¬ a = c → Q 0 sw m) ∧ (¬ (¬ a = c) → Q 1 sw m)) := by
    intro q; subst q
    have h2 : ∀ z, w32 z = bz (a = c) → Q z sw m := h
    refine ⟨fun q => h2 _ ?_, fun q => h2 _ ?_⟩
    · rw [bz_f (by omega)]; exact k0
    · rw [bz_t (by omega)]; exact k1
  have hgt : t = -5 → ((a ≤ c → Q 0 sw m) ∧ (¬ (a ≤ c) → Q 1 sw m)) := by
    intro q; subst q
    have h2 : ∀ z, w32 z = bz (c < a) → Q z sw m := h
    refine ⟨fun q => h2 _ ?_, fun q => h2 _ ?_⟩
    · rw [bz_f (by omega)]; exact k0
    · rw [bz_t (by omega)]; exact k1
  have hpl : t = -6 → Q (x + y) sw m := by
    intro q; subst q
    have h2 : ∀ z, w32 z = w32 (a + c) → Q z sw m := h
    exact h2 _ (by rw [← hx, ← hy, w32_add])
  have hmi : t = -7 → Q (x - y) sw m := by
    intro q; subst q
    have h2 : ∀ z, w32 z = w32 (a - c) → Q z sw m := h
    exact h2 _ (by rw [← hx, ← hy, w32_sub])
  have hti : t = -8 → Q (x * y) sw m := by
    intro q; subst q
    have h2 : ∀ z, w32 z = w32 (a * c) → Q z sw m := h
    exact h2 _ (by rw [← hx, ← hy, w32_mul])
  have hdv : t = -9 → ((¬ c = 0 → ((¬ c = (-1) → (¬ c = 0 ∧ Q (zdiv x y) sw m)) ∧ (¬ (¬ c = (-1)) → Q (-x) sw m))) ∧ (¬ (¬ c = 0) → Q 0 sw m)) := by
    intro q; subst q
    have h2 : ∀ z, w32 z = (if c = 0 then 0 else zdiv a c) → Q z sw m := h
    refine ⟨fun q => ⟨fun q2 => ⟨q, h2 _ ?_⟩, fun q2 => h2 _ ?_⟩, fun q => h2 _ ?_⟩
    · rw [if_neg q, zdiv_w, zdiv_cg hx hy]
    · have q2 := Decidable.not_not.mp q2
      have e : Int.tdiv a (-1) = -a := by rw [Int.tdiv_neg, Int.tdiv_one]
      rw [if_neg q, zdiv_eq, q2, show w32 (-1) = -1 by decide, ← hx, w32_w32, hx, e, ← hx, w32_neg]
    · rw [if_pos (Decidable.not_not.mp q)]; exact k0
  have hrm : t = -10 → ((c = 0 → Q 0 sw m) ∧ (¬ (c = 0) → ((¬ c = (-1) → (¬ c = 0 ∧ Q (zrem x y) sw m)) ∧ (¬ (¬ c = (-1)) → Q 0 sw m)))) := by
    intro q; subst q
    have h2 : ∀ z, w32 z = (if c = 0 then 0 else zrem a c) → Q z sw m := h
    refine ⟨fun q => h2 _ ?_, fun q => ⟨fun q2 => ⟨q, h2 _ ?_⟩, fun q2 => h2 _ ?_⟩⟩
    · rw [if_pos q]; exact k0
    · rw [if_neg q, zrem_w, zrem_cg hx hy]
    · have q2 := Decidable.not_not.mp q2
      have e : Int.tmod a (-1) = 0 := by rw [Int.tmod_neg, Int.tmod_one]
      rw [if_neg q, zrem_eq, q2, show w32 (-1) = -1 by decide, ← hx, w32_w32, hx, e]; exact k0
  have hat : am t = (if t = -1 then 124 else if t = -2 then 38 else if t = -3 then 60 else if t = -4 then 61 else if t = -5 then 62 else if t = -6 then 43 else if t = -7 then 45 else if t = -8 then 42 else if t = -9 then 47 else 37) := by
    rcases k10n ht with q | q | q | q | q | q | q | q | q | q <;> rw [q] <;> decide
  have hb := am_b t
  refine wY_twoOf _ _ _ _ _ _ ?_
  rw [w32_id (z := am t) (by omega) (by omega), hx, hy]
  generalize am t = u at hat hb
  have ht2 : ∀ v : Int, (v = 124 → t = -1) → u = v → v = 124 → t = -1 := fun v f _ g => f g
  rcases k10n ht with q | q | q | q | q | q | q | q | q | q
  · have hu : u = 124 := by rw [hat, if_pos q]
    clear hat
    repeat' apply And.intro
    all_goals intro q0
    all_goals first | omega | exact (hor q)
  · have hu : u = 38 := by rw [hat, if_neg (by omega), if_pos q]
    clear hat
    refine ⟨?_, fun _ => hand q, ?_⟩
    · intro q0; omega
    repeat' apply And.intro
    all_goals intro q0
    all_goals omega
  · have hu : u = 60 := by rw [hat, if_neg (by omega), if_neg (by omega), if_pos q]
    clear hat
    repeat' apply And.intro
    all_goals intro q0
    all_goals first | omega | exact (hlt q)
  · have hu : u = 61 := by rw [hat, if_neg (by omega), if_neg (by omega), if_neg (by omega), if_pos q]
    clear hat
    repeat' apply And.intro
    all_goals intro q0
    all_goals first | omega | exact (heq q)
  · have hu : u = 62 := by rw [hat, if_neg (by omega), if_neg (by omega), if_neg (by omega), if_neg (by omega), if_pos q]
    clear hat
    repeat' apply And.intro
    all_goals intro q0
    all_goals first | omega | exact (hgt q)
  · have hu : u = 43 := by rw [hat, if_neg (by omega), if_neg (by omega), if_neg (by omega), if_neg (by omega), if_neg (by omega), if_pos q]
    clear hat
    repeat' apply And.intro
    all_goals intro q0
    all_goals first | omega | exact (hpl q)
  · have hu : u = 45 := by rw [hat, if_neg (by omega), if_neg (by omega), if_neg (by omega), if_neg (by omega), if_neg (by omega), if_neg (by omega), if_pos q]
    clear hat
    repeat' apply And.intro
    all_goals intro q0
    all_goals first | omega | exact (hmi q)
  · have hu : u = 42 := by rw [hat, if_neg (by omega), if_neg (by omega), if_neg (by omega), if_neg (by omega), if_neg (by omega), if_neg (by omega), if_neg (by omega), if_pos q]
    clear hat
    repeat' apply And.intro
    all_goals intro q0
    all_goals first | omega | exact (hti q)
  · have hu : u = 47 := by rw [hat, if_neg (by omega), if_neg (by omega), if_neg (by omega), if_neg (by omega), if_neg (by omega), if_neg (by omega), if_neg (by omega), if_neg (by omega), if_pos q]
    clear hat
    repeat' apply And.intro
    all_goals intro q0
    all_goals first | omega | exact (hdv q)
  · have hu : u = 37 := by rw [hat, if_neg (by omega), if_neg (by omega), if_neg (by omega), if_neg (by omega), if_neg (by omega), if_neg (by omega), if_neg (by omega), if_neg (by omega), if_neg (by omega)]
    clear hat
    refine ⟨fun _ => hrm q, ?_⟩
    repeat' apply And.intro
    all_goals intro q0
    all_goals omega
abbrev wkS (X : Cx) (E top i : Int) (sw : Bool) (m : Mem) (Q : Int → Bool → Mem → Prop) : Prop := R2 X 2 mY_worked 12 [(0, vr 84), (1, vi 0), (3, vi E), (4, vi top), (5, vi i)] [] sw m Q
theorem am_p {t : Int} (h : 0 ≤ t) : am t = 1 := if_pos h
theorem am_n {t : Int} (h : t ≤ -20) : am t = 2 := by unfold am; rw [if_neg (by omega), if_pos h]
theorem am_x {t : Int} (h : -10 ≤ t ∧ t ≤ -1) : 5 ≤ am t := by
  rcases k10n h with q | q | q | q | q | q | q | q | q | q <;> rw [q] <;> decide
theorem yv_push {E i top t v : Int} (hE : 0 ≤ E ∧ E ≤ 130) (hi : 0 ≤ i ∧ i < E) (ha : m 97 i = am t) (hw : m 98 i = wm t) (htt : (0 ≤ t ∧ t ≤ 9999 ∧ v = t) ∨ (-25 ≤ t ∧ t ≤ -20 ∧ v = m 102 (-20 - t))) (hp : 0 ≤ top ∧ top < 130) (h : wkS X E (top + 1) (i + 1) sw (upm m 103 top v) Q) : wkS X E top i sw m Q := by
  have e0 : (130 : Int) * 0 + E = E := by omega
  have e1 : w32 E = E := w32_id (by omega) (by omega)
  have e2 : w32 i = i := w32_id (by omega) (by omega)
  have e4 : w32 top = top := w32_id (by omega) (by omega)
  refine wY_worked_12 _ _ _ _ _ _ _ ?_
  rw [e0, e1, e2, ha, hw, e4]
  refine ⟨fun q => by omega, fun _ => ⟨by omega, ?_⟩⟩
  rcases htt with ⟨t1, t2, t3⟩ | ⟨t1, t2, t3⟩
  · have ew : wm t = v := by unfold wm; rw [if_pos t1, t3]
    rw [am_p t1, ew, show w32 1 = 1 by decide]
    exact ⟨fun _ => ⟨fun q => absurd rfl q, fun _ => ⟨by omega, by omega, h⟩⟩, fun q => absurd rfl q⟩
  · have ew : wm t = -20 - t := by unfold wm; rw [if_neg (by omega), if_pos t2]
    rw [am_n t2, ew, show w32 2 = 2 by decide, w32_id (z := -20 - t) (by omega) (by omega), ← t3]
    exact ⟨fun q => absurd q (by decide), fun _ => ⟨fun q => absurd rfl q, fun _ => ⟨fun _ => ⟨by omega, by omega, by omega, h⟩, fun q => absurd (by decide) q⟩⟩⟩
theorem yv_bin {E i t a c : Int} {s : List Int} (hE : 0 ≤ E ∧ E ≤ 130) (hi : 0 ≤ i ∧ i < E) (ha : m 97 i = am t) (ht : -10 ≤ t ∧ t ≤ -1) (hs : StK (m 103) (c :: a :: s)) (hl : s.length ≤ 120) (h : ∀ z, w32 z = val2 t a c → wkS X E ((s.length : Int) + 1) (i + 1) sw (upm m 103 (s.length : Int) z) Q) : wkS X E (((c :: a :: s).length : Nat) : Int) i sw m Q := by
  have b1 : 0 ≤ (s.length : Int) ∧ (s.length : Int) < 130 := by omega
  have b2 : 0 ≤ (s.length : Int) + 1 ∧ (s.length : Int) + 1 < 130 := by omega
  have b6 : w32 ((s.length : Int) + 1) = (s.length : Int) + 1 := w32_id (by omega) (by omega)
  have bi : 0 ≤ i ∧ i < 260 := by omega
  have bn : ¬ E ≤ i := by omega
  have hb := am_b t
  have hx := am_x ht
  have n1 : ¬ am t = 1 := by omega
  have n2 : ¬ am t = 2 := by omega
  have n3 : ¬ am t = 3 := by omega
  have n4 : ¬ am t = 4 := by omega
  have e7 : w32 (am t) = am t := w32_id (by omega) (by omega)
  have e4 : w32 (s.length : Int) = (s.length : Int) := w32_id (by omega) (by omega)
  have e0 : (130 : Int) * 0 + E = E := by omega
  have e1 : w32 E = E := w32_id (by omega) (by omega)
  have e2 : w32 i = i := w32_id (by omega) (by omega)
  have el : (((c :: a :: s).length : Nat) : Int) = (s.length : Int) + 2 := by rw [List.length_cons, List.length_cons]; omega
  have el1 : (((a :: s).length : Nat) : Int) = (s.length : Int) + 1 := by rw [List.length_cons]; omega
  obtain ⟨h1, h2, h3⟩ := hs
  rw [el1] at h1
  have e3 : (s.length : Int) + 2 + -1 - 1 = (s.length : Int) := by omega
  have e5 : (s.length : Int) + 2 + -1 = (s.length : Int) + 1 := by omega
  rw [el]
  refine wY_worked_12 _ _ _ _ _ _ _ ?_
  rw [e0, e1, e2, ha, e3, e5, e4, b6, e7]
  exact ⟨fun q => absurd q bn, fun _ => ⟨bi, fun q => absurd q n1, fun _ => ⟨fun _ => ⟨fun _ => ⟨fun _ => ⟨b1, b2, eY_twoOf ht h2 h1 (fun z hz => ⟨b1, h z hz⟩)⟩, fun q => absurd n4 q⟩, fun q => absurd n3 q⟩, fun q => absurd n2 q⟩⟩⟩
theorem yv_un {E i t a : Int} {s : List Int} (hE : 0 ≤ E ∧ E ≤ 130) (hi : 0 ≤ i ∧ i < E) (ha : m 97 i = am t) (ht : t = -11 ∨ t = -12) (hs : StK (m 103) (a :: s)) (hl : s.length ≤ 120) (h : ∀ z, w32 z = (if t = -11 then bz (a = 0) else w32 (-a)) → wkS X E (((a :: s).length : Nat) : Int) (i + 1) sw (upm m 103 (s.length : Int) z) Q) : wkS X E (((a :: s).length : Nat) : Int) i sw m Q := by
  have e0 : (130 : Int) * 0 + E = E := by omega
  have e1 : w32 E = E := w32_id (by omega) (by omega)
  have e2 : w32 i = i := w32_id (by omega) (by omega)
  have el1 : (((a :: s).length : Nat) : Int) = (s.length : Int) + 1 := by rw [List.length_cons]; omega
  obtain ⟨h1, h2⟩ := hs
  have e3 : (s.length : Int) + 1 - 1 = (s.length : Int) := by omega
  have e4 : w32 (s.length : Int) = (s.length : Int) := w32_id (by omega) (by omega)
  rw [el1] at h ⊢
  refine wY_worked_12 _ _ _ _ _ _ _ ?_
  rw [e0, e1, e2, ha, e3, e4]
  rcases ht with rfl | rfl
  · rw [show w32 (am (-11)) = 3 by decide, h1]
    refine ⟨fun q => by omega, fun _ => ⟨by omega, fun q => by omega, fun _ => ⟨fun _ => ⟨fun q => absurd rfl q, fun _ => ⟨by omega, fun q => ⟨by omega, h _ ?_⟩, fun q => ⟨by omega, h _ ?_⟩⟩⟩, fun q => by omega⟩⟩⟩
    · rw [if_pos rfl, bz_f q]; decide
    · rw [if_pos rfl, bz_t (Decidable.not_not.mp q)]; decide
  · rw [show w32 (am (-12)) = 4 by decide]
    refine ⟨fun q => by omega, fun _ => ⟨by omega, fun q => by omega, fun _ => ⟨fun _ => ⟨fun _ => ⟨fun q => absurd rfl q, fun _ => ⟨by omega, by omega, h _ ?_⟩⟩, fun q => by omega⟩, fun q => by omega⟩⟩⟩
    rw [if_neg (by decide), ← h1, w32_neg]
theorem lY_run {fc : Int → Int} {E : Int} (hfc : ∀ k : Int, 0 ≤ k → k ≤ 5 → w32 (m 102 k) = fc k) (hE : 0 ≤ E ∧ E ≤ 130) : ∀ (l s s' : List Int) (i : Int) (m1 : Mem), toks l → run fc l s = some s' → Sg (m 97) i (l.map am) → Sg (m 98) i (l.map wm) → (∀ c, ¬ c = 103 → m1 c = m c) → StK (m1 103) s → 0 ≤ i → i + (l.length : Int) = E → s.length + l.length ≤ 120 → (∀ m2, (∀ c, ¬ c = 103 → m2 c = m c) → StK (m2 103) s' → Q (m2 103 0) sw m2) → wkS X E (s.length : Int) i sw m1 Q := by
  intro l
  induction l with
  | nil =>
    intro s s' i m1 _ hr _ _ hF hs i0 i1 hl h
    have e : s = s' := Option.some.inj hr
    subst e
    have i1' : i = E := by simp at i1; exact i1
    refine wY_worked_12 _ _ _ _ _ _ _ ?_
    rw [show (130 : Int) * 0 + E = E by omega, i1']
    exact ⟨fun _ => h m1 hF hs, fun q => absurd (Int.le_refl _) q⟩
  | cons t l ih =>
    intro s s' i m1 ht hr hS1 hS2 hF hs i0 i1 hl h
    have ell : (((t :: l).length : Nat) : Int) = (l.length : Int) + 1 := by rw [List.length_cons]; omega
    rw [List.length_cons] at hl
    rw [ell] at i1
    rw [run_c] at hr
    obtain ⟨s1, hs1, hr1⟩ := Option.bind_eq_some_iff.mp hr
    have hl' : toks l := fun t' ht' => ht t' (List.mem_cons_of_mem _ ht')
    have htt : tok t := ht t List.mem_cons_self
    have ha : m1 97 i = am t := by rw [hF 97 (by omega)]; exact hS1.1
    have hw : m1 98 i = wm t := by rw [hF 98 (by omega)]; exact hS2.1
    have next : ∀ (m2 : Mem), (∀ c, ¬ c = 103 → m2 c = m c) → StK (m2 103) s1 → s1.length + l.length ≤ 120 → wkS X E (s1.length : Int) (i + 1) sw m2 Q := by
      intro m2 f2 k2 b2
      exact ih s1 s' (i + 1) m2 hl' hr1 hS1.2 hS2.2 f2 k2 (by omega) (by omega) b2 h
    unfold tok at htt
    by_cases c1 : 0 ≤ t ∨ t ≤ -20
    · have e := st1_psh c1 hs1
      subst e
      rw [List.length_cons] at next
      refine yv_push (t := t) (v := if 0 ≤ t then t else m1 102 (-20 - t)) hE (by omega) ha hw ?_ (by omega) ?_
      · by_cases h0 : 0 ≤ t
        · rw [if_pos h0]; exact Or.inl (by omega)
        · rw [if_neg h0]; exact Or.inr ⟨by omega, by omega, rfl⟩
      · refine next _ (fun c q => by rw [upm_row q]; exact hF c q) ⟨?_, hs.fr (fun k k1 k2 => by rw [upm_at, if_neg (by omega)])⟩ (by omega)
        rw [upm_at, if_pos rfl]
        by_cases h0 : 0 ≤ t
        · rw [if_pos h0, if_pos h0]; exact w32_id (by omega) (by omega)
        · rw [if_neg h0, if_neg h0, hF 102 (by omega)]; exact hfc _ (by omega) (by omega)
    · by_cases c2 : t = -11 ∨ t = -12
      · obtain ⟨a, r, e1, e2⟩ := st1_un c2 hs1
        subst e1; subst e2
        rw [List.length_cons] at hl
        refine yv_un hE (by omega) ha c2 hs (by omega) (fun z hz => ?_)
        have := next (upm m1 103 (r.length : Int) z) (fun c q => by rw [upm_row q]; exact hF c q) ⟨by rw [upm_at, if_pos rfl]; exact hz, hs.2.fr (fun k k1 k2 => by rw [upm_at, if_neg (by omega)])⟩ (by rw [List.length_cons]; omega)
        rw [List.length_cons] at this ⊢
        exact this
      · obtain ⟨c, a, r, e1, e2⟩ := st1_bin (by omega) hs1
        subst e1; subst e2
        rw [List.length_cons] at next
        rw [List.length_cons, List.length_cons] at hl
        refine yv_bin hE (by omega) ha (by omega) hs (by omega) (fun z hz => next _ (fun c q => by rw [upm_row q]; exact hF c q) ⟨?_, hs.2.2.fr (fun k k1 k2 => by rw [upm_at, if_neg (by omega)])⟩ (by omega))
        rw [upm_at, if_pos rfl]; exact hz
theorem eY_worked {fc : Int → Int} {l : List Int} {D E : Int} (hfc : ∀ k : Int, 0 ≤ k → k ≤ 5 → w32 (m 102 k) = fc k) (hE : 0 ≤ E ∧ E ≤ 130) (hD : 0 ≤ D ∧ D + (l.length : Int) = E) (ht : toks l) (hw : WF l) (hl : l.length ≤ 120) (h1 : Sg (m 97) D (l.map am)) (h2 : Sg (m 98) D (l.map wm)) (h : ∀ z m2, (∀ c, ¬ c = 103 → m2 c = m c) → w32 z = rvx fc l → Q z sw m2) : M2 X 2 mY_worked [vr 84, vi 0, vi D, vi E] sw m Q := by
  refine wY_worked _ _ _ _ _ _ ?_
  rw [show (130 : Int) * 0 + D = D by omega]
  exact lY_run hfc hE l [] [rvx fc l] D m ht (WF_rvx hw fc) h1 h2 (fun _ _ => rfl) trivial hD.1 hD.2 (by simp; omega) (fun m2 f k => h _ m2 f k.1)
theorem lY_lines {fc : Int → Int} {K : Int} (hfc : ∀ k : Int, 0 ≤ k → k ≤ 5 → w32 (m 102 k) = fc k) (hK : m 99 0 = K) (hKb : 0 ≤ K ∧ K ≤ 61) : ∀ (ls : List Ln) (l D : Int) (m1 : Mem), (∀ q, q ∈ ls → okl q) → Ls (m 97) (m 98) (m 100) (m 101) 0 l D ls → (∀ c, ¬ c = 103 → m1 c = m c) → 0 ≤ l → l + (ls.length : Int) = K → 0 ≤ D → D + (tot ls : Int) ≤ 120 → (∀ z m2, (∀ c, ¬ c = 103 → m2 c = m c) → w32 z = gvl fc ls → Q z sw m2) → R2 X 3 mY_gives 7 [(0, vr 84), (1, vi 0), (2, vi D), (3, vi l)] [] sw m1 Q := by
  intro ls
  have k0 : w32 0 = 0 := by decide
  induction ls with
  | nil =>
    intro l D m1 _ _ hF l0 l1 D0 D1 h
    have l1' : l = K := by simp at l1; exact l1
    refine wY_gives_7 _ _ _ _ _ _ ?_
    rw [k0, hF 99 (by omega), hK, show (61 : Int) * 0 + K = K by omega, l1']
    exact ⟨by omega, fun _ => h 0 m1 hF (show w32 0 = 0 by decide), fun q => absurd (Int.le_refl _) q⟩
  | cons q ls ih =>
    intro l D m1 hok hS hF l0 l1 D0 D1 h
    have ell : (((q :: ls).length : Nat) : Int) = (ls.length : Int) + 1 := by rw [List.length_cons]; omega
    have et : (tot (q :: ls) : Int) = (lnl q : Int) + (tot ls : Int) := by show ((lnl q + tot ls : Nat) : Int) = _; omega
    have eq_ : (lnl q : Int) = (q.1.length : Int) + (q.2.length : Int) := by unfold lnl; omega
    rw [ell] at l1
    rw [et] at D1
    obtain ⟨o1, o2, o3, o4⟩ := hok q List.mem_cons_self
    obtain ⟨s1, s2, s3, s4, s5⟩ := hS
    have hgv : gvl fc (q :: ls) = if q.1.length = 0 ∨ ¬ rvx fc q.1 = 0 then rvx fc q.2 else gvl fc ls := rfl
    rw [hgv] at h
    rw [List.map_append, Sg.app, List.length_map, show (0 : Int) + D = D by omega] at s3 s4
    have hfc1 : ∀ m2 : Mem, (∀ c, ¬ c = 103 → m2 c = m c) → ∀ k : Int, 0 ≤ k → k ≤ 5 → w32 (m2 102 k) = fc k := fun m2 f k a b => by rw [f 102 (by omega)]; exact hfc k a b
    refine wY_gives_7 _ _ _ _ _ _ ?_
    rw [k0, hF 99 (by omega), hK, show (61 : Int) * 0 + K = K by omega, hF 100 (by omega), hF 101 (by omega), w32_id (z := K) (by omega) (by omega), w32_id (z := l) (by omega) (by omega), s1, s2, w32_id (z := D) (by omega) (by omega), w32_id (z := D + (q.1.length : Int)) (by omega) (by omega)]
    refine ⟨by omega, fun c => by omega, fun _ => ⟨by omega, fun c => ⟨by omega, by omega, ?_⟩, fun c => ⟨by omega, ?_⟩⟩⟩
    · have c0 : q.1.length = 0 := by omega
      rw [if_pos (Or.inl c0)] at h
      refine eY_worked (fc := fc) (l := q.2) (hfc1 m1 hF) (by omega) (by omega) o4 o2 (by omega) ?_ ?_ (fun z m2 f2 hz => h z m2 (fun c hc => (f2 c hc).trans (hF c hc)) hz)
      · rw [hF 97 (by omega)]; exact s3.2
      · rw [hF 98 (by omega)]; exact s4.2
    · have c0 : ¬ q.1.length = 0 := by omega
      have w1 : WF q.1 := by rcases o1 with o | o
                             · exact absurd o c0
                             · exact o
      refine eY_worked (fc := fc) (l := q.1) (hfc1 m1 hF) (by omega) (by omega) o3 w1 (by omega) ?_ ?_ (fun z m2 f2 hz => ?_)
      · rw [hF 97 (by omega)]; exact s3.1
      · rw [hF 98 (by omega)]; exact s4.1
      have hF2 : ∀ c, ¬ c = 103 → m2 c = m c := fun c hc => (f2 c hc).trans (hF c hc)
      rw [hz, hF2 100 (by omega), hF2 101 (by omega), s1, s2]
      refine ⟨fun q0 => ⟨by omega, ?_⟩, fun q0 => ⟨by omega, by omega, ?_⟩⟩
      · rw [if_neg (by omega)] at h
        exact ih (l + 1) (D + (lnl q : Int)) m2 (fun q' hq' => hok q' (List.mem_cons_of_mem _ hq')) s5 hF2 (by omega) (by omega) (by omega) (by omega) h
      · rw [if_pos (Or.inr q0)] at h
        refine eY_worked (fc := fc) (l := q.2) (hfc1 m2 hF2) (by omega) (by omega) o4 o2 (by omega) ?_ ?_ (fun z m3 f3 hz => h z m3 (fun c hc => (f3 c hc).trans (hF2 c hc)) hz)
        · rw [hF2 97 (by omega)]; exact s3.2
        · rw [hF2 98 (by omega)]; exact s4.2
theorem eY_gives {fc : Int → Int} {ls : List Ln} (hfc : ∀ k : Int, 0 ≤ k → k ≤ 5 → w32 (m 102 k) = fc k) (hK : m 99 0 = (ls.length : Int)) (hKb : ls.length ≤ 61) (hok : ∀ q, q ∈ ls → okl q) (ht : tot ls ≤ 120) (hS : LsM m 0 0 ls) (h : ∀ z m2, (∀ c, ¬ c = 103 → m2 c = m c) → w32 z = gvl fc ls → Q z sw m2) : M2 X 3 mY_gives [vr 84, vi 0] sw m Q := by
  refine wY_gives _ _ _ _ ?_
  rw [show (61 : Int) * 0 = 0 by omega]
  exact lY_lines hfc hK (by omega) ls 0 0 m hok hS (fun _ _ => rfl) (by omega) (by omega) (by omega) (by omega) h
end GW
