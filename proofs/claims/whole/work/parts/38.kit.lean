/-! the kitchen: its numbers in both -/
theorem w32_i32 (x : Int32) : w32 x.toInt = x.toInt := by rw [← i32_w, i32_rt]
theorem zdiv_w (a b : Int) : w32 (zdiv a b) = zdiv a b := w32_i32 _
theorem zrem_w (a b : Int) : w32 (zrem a b) = zrem a b := w32_i32 _
theorem zshl_w (a b : Int) : w32 (zshl a b) = zshl a b := w32_i32 _
theorem zshr_w (a b : Int) : w32 (zshr a b) = zshr a b := w32_i32 _
theorem zand_w (a b : Int) : w32 (zand a b) = zand a b := w32_i32 _
theorem zor_w (a b : Int) : w32 (zor a b) = zor a b := w32_i32 _
def p2 (a : Int) : Int := ((2 ^ a.toNat : Nat) : Int)
theorem zshl_p2 {a : Int} (h1 : 0 ≤ a) (h2 : a < 31) : zshl 1 a = p2 a := by
  obtain ⟨k, rfl⟩ : ∃ k : Nat, a = (k : Int) := ⟨a.toNat, by omega⟩
  rw [zshl_one (by omega)]
  rfl
theorem k10 {k : Int} (h : 0 ≤ k ∧ k < 10) : k = 0 ∨ k = 1 ∨ k = 2 ∨ k = 3 ∨ k = 4 ∨ k = 5 ∨ k = 6 ∨ k = 7 ∨ k = 8 ∨ k = 9 := by omega
theorem p2_b {a : Int} (h1 : 0 ≤ a) (h2 : a ≤ 9) : 1 ≤ p2 a ∧ p2 a ≤ 512 ∧ (a ≤ 8 → p2 a ≤ 256) := by
  rcases k10 ⟨h1, show a < 10 by omega⟩ with rfl | rfl | rfl | rfl | rfl | rfl | rfl | rfl | rfl | rfl <;> exact ⟨by decide, by decide, by decide⟩
/-- a place of the numbers; a value that may stand there -/
abbrev vp (n w a : Int) : Prop := (0 ≤ w ∧ w ≤ 5 ∧ 0 ≤ a ∧ a < n) ∨ (6 ≤ w ∧ w ≤ 12 ∧ a = 0)
def lo (w : Int) : Int := if w = 3 then 1 else 0
def hi (w : Int) : Int := if w = 0 then 511 else if w = 1 then 1 else if w = 2 then 12 else if w = 3 then 60 else if w = 4 then 9 else if w = 5 then 99 else if w = 6 then 9 else if w = 7 then 1 else if w = 8 then 300 else if w = 9 then 20 else if w = 10 then 20 else 8
abbrev ft (a w v : Int) : Prop := lo w ≤ v ∧ v ≤ hi w ∧ (w = 0 → v < p2 a)
def kc (w : Int) : Int := if w < 6 then 85 + w else 91
def ki (w a : Int) : Int := if w < 6 then a else w - 6
theorem kc_ki (w a : Int) : (w < 6 ∧ kc w = 85 + w ∧ ki w a = a) ∨ (6 ≤ w ∧ kc w = 91 ∧ ki w a = w - 6) := by
  unfold kc ki
  by_cases h : w < 6
  · rw [if_pos h, if_pos h]; omega
  · rw [if_neg h, if_neg h]; omega
theorem lo_b (w : Int) : 0 ≤ lo w := by unfold lo; split <;> decide
theorem hi_b (w : Int) : hi w ≤ 511 := by unfold hi; repeat' split
                                          all_goals decide
theorem ft_b {a w v : Int} (h : ft a w v) : 0 ≤ v ∧ v ≤ 511 := ⟨Int.le_trans (lo_b w) h.1, Int.le_trans h.2.1 (hi_b w)⟩
def IK (m : Mem) : Prop := 0 ≤ m 2 3 ∧ m 2 3 ≤ 9 ∧ m 84 1 = m 2 3 ∧ (∀ w a : Int, vp (m 2 3) w a → m (kc w) (ki w a) = m (4 + w) a ∧ ft a w (m (4 + w) a)) ∧ ∀ w a : Int, (w = 1 ∨ w = 4 ∨ w = 5) → m 2 3 ≤ a → a < 9 → m (4 + w) a = 0
def DK (c j : Int) : Prop := (c = 2 ∧ j = 3) ∨ (4 ≤ c ∧ c ≤ 16) ∨ (85 ≤ c ∧ c ≤ 91) ∨ (c = 84 ∧ j = 1)
theorem IK.fr {m m' : Mem} (h : IK m) (f : ∀ c j, DK c j → m' c j = m c j) : IK m' := by
  obtain ⟨h1, h2, h3, h4, h5⟩ := h
  have e3 : m' 2 3 = m 2 3 := f 2 3 (Or.inl ⟨rfl, rfl⟩)
  unfold IK
  rw [e3, f 84 1 (Or.inr (Or.inr (Or.inr ⟨rfl, rfl⟩)))]
  refine ⟨h1, h2, h3, fun w a p => ?_, fun w a p q r => ?_⟩
  · have hk := kc_ki w a
    have e1 := f (4 + w) a (by unfold DK; unfold vp at p; omega)
    have e2 := f (kc w) (ki w a) (by unfold DK; unfold vp at p; omega)
    rw [e1, e2]
    exact h4 w a p
  · rw [f (4 + w) a (by unfold DK; omega)]
    exact h5 w a p q r
theorem IK.wr {m m' : Mem} {w a v : Int} (h : IK m) (hp : vp (m 2 3) w a) (hf : ft a w v) (e : ∀ c j, DK c j → m' c j = if (c = 4 + w ∧ j = a) ∨ (c = kc w ∧ j = ki w a) then v else m c j) : IK m' := by
  obtain ⟨h1, h2, h3, h4, h5⟩ := h
  have hk := kc_ki w a
  unfold vp at hp
  have e3 : m' 2 3 = m 2 3 := by rw [e 2 3 (Or.inl ⟨rfl, rfl⟩), if_neg (by omega)]
  have e1 : m' 84 1 = m 84 1 := by rw [e 84 1 (Or.inr (Or.inr (Or.inr ⟨rfl, rfl⟩))), if_neg (by omega)]
  unfold IK
  rw [e3, e1]
  refine ⟨h1, h2, h3, fun w' a' p => ?_, fun w' a' p q r => ?_⟩
  · have hk' := kc_ki w' a'
    have e4 := e (4 + w') a' (by unfold DK; unfold vp at p; omega)
    have e5 := e (kc w') (ki w' a') (by unfold DK; unfold vp at p; omega)
    by_cases hh : w' = w ∧ a' = a
    · obtain ⟨rfl, rfl⟩ := hh
      rw [e4, e5, if_pos (Or.inr ⟨rfl, rfl⟩), if_pos (Or.inl ⟨rfl, rfl⟩)]
      exact ⟨rfl, hf⟩
    · have p' := p
      unfold vp at p'
      rw [if_neg (by omega)] at e4
      rw [if_neg (by omega)] at e5
      rw [e4, e5]
      exact h4 w' a' p
  · rw [e (4 + w') a' (by unfold DK; omega), if_neg (by omega)]
    exact h5 w' a' p q r
section KT
variable {X : Cx} {sw : Bool} {m : Mem} {Q : Int → Bool → Mem → Prop}
theorem eK_isPlace {a w : Int} (ha : w32 a = a) (hw : w32 w = w) (h : Q (bz ((0 ≤ w ∧ w < 13) ∧ (0 ≤ a ∧ a < 9))) sw m) : M2 X 1 mK_isPlace [vi a, vi w] sw m Q := by
  refine wK_isPlace _ _ _ _ _ ?_
  rw [ha, hw]
  unfold bz at h
  refine ⟨fun c => ?_, fun c => ⟨fun c => ?_, fun c => ⟨fun c => ?_, fun c => ⟨fun c => ?_, fun c => ?_⟩⟩⟩⟩
  · rwa [if_neg (by omega)] at h
  · rwa [if_neg (by omega)] at h
  · rwa [if_neg (by omega)] at h
  · rwa [if_neg (by omega)] at h
  · rwa [if_pos (by omega)] at h
theorem eK_told {a w : Int} (ha : 0 ≤ a ∧ a < 9) (hw : 0 ≤ w ∧ w < 13) (h : Q (m (4 + w) a) sw m) : M2 X 2 mK_told [vr 2, vi a, vi w] sw m Q := by
  have ea : w32 a = a := w32_id (by omega) (by omega)
  have ew : w32 w = w := w32_id (by omega) (by omega)
  refine wK_told _ _ _ _ _ (eK_isPlace ea ew ?_)
  rw [bz_w, bz_0, ea, ew]
  exact ⟨fun q => absurd ⟨hw, ha⟩ q, fun _ => ⟨hw, ha, h⟩⟩
/-- the class's cells behind a number written -/
def wr (m : Mem) (w a v : Int) : Mem := upm (upm (upm m (4 + w) a v) 2 4 (m 2 4 + 1)) 2 5 (m 2 5 + if w = 0 ∨ w = 1 ∨ w = 3 then 1 else 0)
theorem eK_write {a w v : Int} (ha : 0 ≤ a ∧ a < 9) (hw : 0 ≤ w ∧ w < 13) (h : Q 0 sw (wr m w a v)) : M2 X 2 mK_write [vr 2, vi a, vi w, vi v] sw m Q := by
  have ea : w32 a = a := w32_id (by omega) (by omega)
  have ew : w32 w = w := w32_id (by omega) (by omega)
  refine wK_write _ _ _ _ _ _ (eK_isPlace ea ew ?_)
  rw [bz_w, bz_0, ea, ew]
  have e4 : upm m (4 + w) a v 2 4 = m 2 4 := by rw [upm_row (by omega)]
  have e5 : upm m (4 + w) a v 2 5 = m 2 5 := by rw [upm_row (by omega)]
  rw [e4, e5]
  unfold wr at h
  refine ⟨fun q => absurd ⟨hw, ha⟩ q, fun _ => ⟨hw, ha, fun q => ?_, fun q => ⟨fun q2 => ?_, fun q2 => ⟨fun q3 => ?_, fun q3 => ?_⟩⟩⟩⟩
  · rwa [if_pos (by omega)] at h
  · rwa [if_pos (by omega)] at h
  · rwa [if_neg (by omega)] at h
  · rwa [if_pos (by omega)] at h
theorem eK_has {a : Int} (ha : w32 a = a) (hI : IK m) (h : Q (bz (0 ≤ a ∧ a < m 2 3)) sw m) : M2 X 1 mK_has [vr 2, vi a] sw m Q := by
  have h1 := hI.1
  have h2 := hI.2.1
  refine wK_has _ _ _ _ ?_
  rw [ha, w32_id (z := m 2 3) (by omega) (by omega)]
  unfold bz at h
  refine ⟨fun c => ?_, fun c => ⟨fun c2 => ?_, fun c2 => ?_⟩⟩
  · rwa [if_neg (by omega)] at h
  · rwa [if_neg (by omega)] at h
  · rwa [if_pos (by omega)] at h
theorem eY_isPart {a n : Int} (ha : w32 a = a) (hn : 0 ≤ n ∧ n ≤ 9) (h1 : m 84 1 = n) (h : Q (bz (0 ≤ a ∧ a < n)) sw m) : M2 X 2 mY_isPart [vr 84, vi a] sw m Q := by
  refine wY_isPart _ _ _ _ (eY_in ha (by decide) (by rw [h1]; exact w32_id (by omega) (by omega)) ⟨bz_01 _, ?_⟩)
  rw [show bz (0 ≤ a ∧ a ≤ m 84 1 - 1) = bz (0 ≤ a ∧ a < n) from bz_c (by omega)]
  exact h
theorem eK_knows {a w : Int} (ha : w32 a = a) (hw : w32 w = w) (hI : IK m) (h : Q (bz (vp (m 2 3) w a)) sw m) : M2 X 2 mK_knows [vr 2, vi a, vi w] sw m Q := by
  refine wK_knows _ _ _ _ _ ?_
  rw [ha, hw]
  refine ⟨fun c => ?_, fun c => ⟨fun c2 => ⟨fun c3 => ⟨fun c4 => ?_, fun c4 => ?_⟩, fun c3 => eK_has ha hI ⟨bz_01 _, ?_⟩⟩, fun c2 => ?_⟩⟩
  · rwa [bz_f (by unfold vp; omega)] at h
  · rwa [bz_f (by unfold vp; omega)] at h
  · rwa [bz_t (by unfold vp; omega)] at h
  · rwa [bz_c (show vp (m 2 3) w a ↔ (0 ≤ a ∧ a < m 2 3) by unfold vp; omega)] at h
  · rwa [bz_f (by unfold vp; omega)] at h
theorem eY_isOne {a w n : Int} (ha : w32 a = a) (hw : w32 w = w) (hn : 0 ≤ n ∧ n ≤ 9) (h1 : m 84 1 = n) (h : Q (bz (vp n w a)) sw m) : M2 X 3 mY_isOne [vr 84, vi a, vi w] sw m Q := by
  refine wY_isOne _ _ _ _ _ (eY_in hw (by decide) (by decide) ?_)
  rw [bz_w, bz_0]
  refine ⟨fun c => eY_in hw (by decide) (by decide) ?_, fun c => eY_isPart ha hn h1 ⟨bz_01 _, ?_⟩⟩
  · rw [bz_w, bz_0, ha]
    refine ⟨fun c2 => ?_, fun c2 => ⟨fun c3 => ?_, fun c3 => ?_⟩⟩
    · rwa [bz_f (by unfold vp; omega)] at h
    · rwa [bz_f (by unfold vp; omega)] at h
    · rwa [bz_t (by unfold vp; omega)] at h
  · rwa [bz_c (show vp n w a ↔ (0 ≤ a ∧ a < n) by unfold vp; omega)] at h
theorem k13 {k : Int} (h : 0 ≤ k ∧ k < 13) : k = 0 ∨ k = 1 ∨ k = 2 ∨ k = 3 ∨ k = 4 ∨ k = 5 ∨ k = 6 ∨ k = 7 ∨ k = 8 ∨ k = 9 ∨ k = 10 ∨ k = 11 ∨ k = 12 := by omega
theorem lo_x {w : Int} (h : 0 ≤ w ∧ w < 13) : w32 (ext0.getD w.toNat 0) = lo w := by
  rcases k13 h with rfl | rfl | rfl | rfl | rfl | rfl | rfl | rfl | rfl | rfl | rfl | rfl | rfl <;> decide
theorem hi_x {w : Int} (h : 0 ≤ w ∧ w < 13) : w32 (ext1.getD w.toNat 0) = hi w := by
  rcases k13 h with rfl | rfl | rfl | rfl | rfl | rfl | rfl | rfl | rfl | rfl | rfl | rfl | rfl <;> decide
theorem eK_fits {a w v : Int} (ha : 0 ≤ a ∧ a ≤ 9) (hw : 0 ≤ w ∧ w < 13) (hv : w32 v = v) (h : Q (bz (ft a w v)) sw m) : M2 X 1 mK_fits [vr 2, vi a, vi w, vi v] sw m Q := by
  have ew : w32 w = w := w32_id (by omega) (by omega)
  refine wK_fits _ _ _ _ _ _ ?_
  rw [ew, hv, lo_x hw, hi_x hw, zshl_w, zshl_p2 (by omega) (by omega)]
  refine ⟨fun c => by omega, fun _ => ⟨fun c => by omega, fun _ => ⟨hw, fun c => ?_, fun c => ⟨hw, fun c2 => ⟨fun c3 => ?_, fun c3 => ⟨fun c4 => ?_, fun c4 => ?_⟩⟩, fun c2 => ?_⟩⟩⟩⟩
  · rwa [bz_f (by unfold ft; omega)] at h
  · rwa [bz_t (by unfold ft; omega)] at h
  · rwa [bz_f (by unfold ft; omega)] at h
  · rwa [bz_t (by unfold ft; omega)] at h
  · rwa [bz_f (by unfold ft; omega)] at h
theorem eY_mayHave {a w v : Int} (ha : 0 ≤ a ∧ a ≤ 9) (hw : 0 ≤ w ∧ w < 13) (hv : w32 v = v) (h : Q (bz (ft a w v)) sw m) : M2 X 2 mY_mayHave [vi a, vi w, vi v] sw m Q := by
  have ew : w32 w = w := w32_id (by omega) (by omega)
  have hp := p2_b ha.1 ha.2
  refine wY_mayHave _ _ _ _ _ _ ?_
  rw [ew]
  have one : ∀ (l u : Int), w32 l = l → w32 u = u → (ft a w v ↔ (l ≤ v ∧ v ≤ u)) → M2 X 1 mY_in [vi v, vi l, vi u] sw m (fun z1 sw1 m1 => ((z1 = 0 ∨ z1 = 1) ∧ Q z1 sw1 m1)) := by
    intro l u hl hu e
    refine eY_in hv hl hu ⟨bz_01 _, ?_⟩
    rwa [bz_c e] at h
  have two : ∀ (l u : Int), w32 l = l → w32 u = u → ¬ w = 0 → lo w = l → hi w = u → M2 X 1 mY_in [vi v, vi l, vi u] sw m (fun z1 sw1 m1 => ((z1 = 0 ∨ z1 = 1) ∧ Q z1 sw1 m1)) := by
    intro l u hl hu hn h1 h2
    refine one l u hl hu ?_
    unfold ft
    rw [h1, h2]
    exact ⟨fun q => ⟨q.1, q.2.1⟩, fun q => ⟨q.1, q.2, fun c => absurd c hn⟩⟩
  refine ⟨fun q => ?_, fun q => ?_, fun q => ?_, fun q => ?_, fun q => ?_, fun q => ?_, fun q => ?_, fun q => ?_, fun q => ?_, fun q => ?_, fun q => ?_, fun q => ?_, fun q => ?_, fun q => ?_⟩
  · subst q
    rw [zshl_p2 ha.1 (by omega)]
    refine one 0 (p2 a - 1) (by decide) (w32_id (by omega) (by omega)) ?_
    have e1 : lo 0 = 0 := rfl
    have e2 : hi 0 = 511 := rfl
    unfold ft
    rw [e1, e2]
    omega
  all_goals first
    | (subst q; exact two _ _ (by decide) (by decide) (by decide) (by decide) (by decide))
    | (exfalso; omega)
theorem eY_valueAt {a w n : Int} (hn : n ≤ 9) (hp : vp n w a) (h : Q (m (kc w) (ki w a)) sw m) : M2 X 1 mY_valueAt [vr 84, vi w, vi a] sw m Q := by
  have hk := kc_ki w a
  unfold vp at hp
  have ea : w32 a = a := w32_id (by omega) (by omega)
  have ew : w32 w = w := w32_id (by omega) (by omega)
  refine wY_valueAt _ _ _ _ _ ?_
  rw [ew, ea, w32_id (z := w - 6) (by omega) (by omega)]
  refine ⟨fun q => ?_, fun q => ?_, fun q => ?_, fun q => ?_, fun q => ?_, fun q => ?_, fun q => ?_⟩
  · rw [show kc w = 85 by omega, show ki w a = a by omega] at h; exact ⟨by omega, h⟩
  · rw [show kc w = 86 by omega, show ki w a = a by omega] at h; exact ⟨by omega, h⟩
  · rw [show kc w = 87 by omega, show ki w a = a by omega] at h; exact ⟨by omega, h⟩
  · rw [show kc w = 88 by omega, show ki w a = a by omega] at h; exact ⟨by omega, h⟩
  · rw [show kc w = 89 by omega, show ki w a = a by omega] at h; exact ⟨by omega, h⟩
  · rw [show kc w = 90 by omega, show ki w a = a by omega] at h; exact ⟨by omega, h⟩
  · rw [show kc w = 91 by omega, show ki w a = w - 6 by omega] at h; exact ⟨by omega, h⟩
theorem eY_lays {a w v : Int} {n : Int} (hn : n ≤ 9) (hp : vp n w a) (h : Q 0 sw (upm m (kc w) (ki w a) v)) : M2 X 1 mY_lays [vr 84, vi w, vi a, vi v] sw m Q := by
  have hk := kc_ki w a
  unfold vp at hp
  have ea : w32 a = a := w32_id (by omega) (by omega)
  have ew : w32 w = w := w32_id (by omega) (by omega)
  refine wY_lays _ _ _ _ _ _ ?_
  rw [ew, ea, w32_id (z := w - 6) (by omega) (by omega)]
  refine ⟨fun q => ?_, fun q => ?_, fun q => ?_, fun q => ?_, fun q => ?_, fun q => ?_, fun q => ?_⟩
  · rw [show kc w = 85 by omega, show ki w a = a by omega] at h; exact ⟨by omega, h⟩
  · rw [show kc w = 86 by omega, show ki w a = a by omega] at h; exact ⟨by omega, h⟩
  · rw [show kc w = 87 by omega, show ki w a = a by omega] at h; exact ⟨by omega, h⟩
  · rw [show kc w = 88 by omega, show ki w a = a by omega] at h; exact ⟨by omega, h⟩
  · rw [show kc w = 89 by omega, show ki w a = a by omega] at h; exact ⟨by omega, h⟩
  · rw [show kc w = 90 by omega, show ki w a = a by omega] at h; exact ⟨by omega, h⟩
  · rw [show kc w = 91 by omega, show ki w a = w - 6 by omega] at h; exact ⟨by omega, h⟩
theorem pr_of {a w : Int} (ha : w32 a = a) (hw : w32 w = w) (hI : IK m) {QQ : Int → Int → Bool → Mem → Prop} (h : ∀ z, QQ z z sw m) : M2 X 3 mZ_of [vr 1, vi a, vi w] sw m (fun z1 sw1 m1 => M2 X 4 mY_of [vr 84, vi a, vi w] sw1 m1 (fun z2 sw2 m2 => QQ z1 z2 sw2 m2)) := by
  have h2 := hI.2.1
  refine wZ_of _ _ _ _ _ (eK_knows ha hw hI ?_)
  rw [bz_w, bz_0]
  refine ⟨fun c => wY_of _ _ _ _ _ (eY_isOne ha hw ⟨hI.1, h2⟩ hI.2.2.1 ?_), fun c => ?_⟩
  · rw [bz_w, bz_0]
    exact ⟨fun _ => h _, fun q => absurd c q⟩
  · have c := Decidable.not_not.mp c
    have c' := c
    unfold vp at c'
    refine eK_told (by omega) (by omega) (wY_of _ _ _ _ _ (eY_isOne ha hw ⟨hI.1, h2⟩ hI.2.2.1 ?_))
    rw [bz_w, bz_0]
    exact ⟨fun q => absurd c q, fun _ => eY_valueAt h2 c (by rw [(hI.2.2.2.1 w a c).1]; exact h _)⟩
end KT
