/-! acts: the model's methods, the pairs -/
abbrev isU (k t : Int) : Prop := t = 0 ∨ k = t ∨ (t = 1 ∧ k = 4) ∨ (t = 2 ∧ (k = 3 ∨ k = 5)) ∨ (t = 3 ∧ k = 5) ∨ (t = 6 ∧ k = 7)
def st (k x n : Int) : Int × List Int := if k = 1 ∨ k = 4 then (x + n + 3, [20, 1]) else if k = 7 then ((x + n) * 2 - 1, [81, 70, 1]) else if k = 6 then ((x + n) * 2, [70, 1]) else (x + n, [1])
def pt (k x n : Int) : Int × List Int := ((st k x n).1 * 2, 10 :: (st k x n).2)
def mt (k x n : Int) : Int × List Int := (-(pt k x n).1, 30 :: (pt k x n).2)
def fl (k x n : Int) : Int × List Int := if k = 5 then (zxor x n * 3 - (st k 2 n).1, 60 :: 40 :: 11 :: (st k 2 n).2) else if k = 3 then (zxor x n * 3, [40, 11]) else (zxor x n, [11])
def tk (k x n : Int) : Int × List Int := if k = 3 ∨ k = 5 then ((mt k (x + 1) n).1, 41 :: (mt k (x + 1) n).2) else if k = 7 then ((pt k x n).1 + (fl k 2 n).1, 80 :: ((pt k x n).2 ++ (fl k 2 n).2)) else if k = 2 then mt k x n else pt k x n
def pl (k x n : Int) : Int × List Int := ((tk k x n).1 - (fl k 1 n).1, 2 :: ((tk k x n).2 ++ (fl k 1 n).2))
def tl (k x n : Int) : Int × List Int := if k = 4 then (zxor (pl k x n).1 5, 50 :: (pl k x n).2) else if k = 5 then ((pl k x n).1 + 1, 61 :: (pl k x n).2) else pl k x n
def ac (a k x n : Int) : Int × List Int := if a = 0 then st k x n else if a = 1 then tk k x n else if a = 2 then fl k x n else tl k x n
theorem k8 {k : Int} (h : 0 ≤ k ∧ k < 8) : k = 0 ∨ k = 1 ∨ k = 2 ∨ k = 3 ∨ k = 4 ∨ k = 5 ∨ k = 6 ∨ k = 7 := by omega
theorem st_len {k : Int} (x n : Int) (h : 0 ≤ k ∧ k < 8) : (st k x n).2.length ≤ 3 := by
  unfold st
  (repeat' split) <;> simp
theorem fl_len {k : Int} (x n : Int) (h : 0 ≤ k ∧ k < 8) : (fl k x n).2.length ≤ 6 := by
  have h1 := st_len 2 n h
  unfold fl
  split
  · simp only [List.length_cons]; omega
  · split <;> simp
theorem pt_len {k : Int} (x n : Int) (h : 0 ≤ k ∧ k < 8) : (pt k x n).2.length ≤ 4 := by
  have h1 := st_len x n h
  unfold pt
  simp only [List.length_cons]; omega
theorem mt_len {k : Int} (x n : Int) (h : 0 ≤ k ∧ k < 8) : (mt k x n).2.length ≤ 5 := by
  have h1 := pt_len x n h
  unfold mt
  simp only [List.length_cons]; omega
theorem tk_len {k : Int} (x n : Int) (h : 0 ≤ k ∧ k < 8) : (tk k x n).2.length ≤ 11 := by
  have h1 := pt_len x n h
  have h2 := fl_len 2 n h
  have h3 := mt_len (x + 1) n h
  have h4 := mt_len x n h
  unfold tk
  split
  · simp only [List.length_cons]; omega
  · split
    · simp only [List.length_cons, List.length_append]; omega
    · split <;> omega
theorem run_ac {a k : Int} (x n : Int) (ha : 0 ≤ a ∧ a < 4) (hk : 0 ≤ k ∧ k < 8) : rn 12 a k k x n = some (ac a k x n) := by
  have h4 : a = 0 ∨ a = 1 ∨ a = 2 ∨ a = 3 := by omega
  rcases h4 with rfl | rfl | rfl | rfl <;> rcases k8 hk with rfl | rfl | rfl | rfl | rfl | rfl | rfl | rfl <;> rfl
theorem ac_len {a k : Int} (x n : Int) (ha : 0 ≤ a ∧ a < 4) (hk : 0 ≤ k ∧ k < 8) : (ac a k x n).2.length ≤ 19 := by
  have h1 := st_len x n hk
  have h2 := tk_len x n hk
  have h3 := fl_len x n hk
  have h5 := fl_len 1 n hk
  unfold ac
  split
  · omega
  · split
    · omega
    · split
      · omega
      · unfold tl pl
        split
        · simp only [List.length_cons, List.length_append]; omega
        · split <;> (simp only [List.length_cons, List.length_append]; omega)
section AC3
variable {X : Cx} {sw : Bool} {m : Mem} {Q : Int → Bool → Mem → Prop}
theorem eY_isUnder {k t : Int} (hk : w32 k = k) (ht : w32 t = t) (h : Q (bz (isU k t)) sw m) : M2 X 1 mY_isUnder [vi k, vi t] sw m Q := by
  refine wY_isUnder _ _ _ _ _ ?_
  rw [hk, ht]
  have h1 : isU k t → Q 1 sw m := fun p => by rw [bz_t p] at h; exact h
  have h0 : ¬ isU k t → Q 0 sw m := fun p => by rw [bz_f p] at h; exact h
  repeat' (apply And.intro <;> intro _)
  all_goals first | exact h1 (by unfold isU; omega) | exact h0 (by unfold isU; omega) | (exfalso; omega)
theorem ay_k (m : Mem) (L : List Int) (j : Int) : ayL m L 115 j = m 115 j := ayL_o L m 115 j (by omega) (by omega)
theorem ay1_k (m : Mem) (b j : Int) : ay1 m b 115 j = m 115 j := ay1_o m b 115 j (by omega) (by omega)
theorem eY_plainStarts {a x : Int} (c0 : 0 ≤ m 84 49 ∧ m 84 49 < 24) (h : Q (x + a) sw (ayL m [1])) : M2 X 2 mY_plainStarts [vr 84, vi a, vi x] sw m Q := wY_plainStarts _ _ _ _ _ (eY_ran c0 h)
theorem eY_catStarts {a x : Int} (c0 : 0 ≤ m 84 49 ∧ m 84 49 < 23) (h : Q ((x + a) * 2) sw (ayL m [70, 1])) : M2 X 3 mY_catStarts [vr 84, vi a, vi x] sw m Q := by
  refine wY_catStarts _ _ _ _ _ (eY_ran (by omega) (eY_plainStarts ?_ ?_))
  · rw [ay1_49]; omega
  · exact h
theorem eY_starting {a x k : Int} (ha : 0 ≤ a ∧ a < 50) (hk : m 115 a = k) (h8 : 0 ≤ k ∧ k < 8) (c0 : 0 ≤ m 84 49 ∧ m 84 49 ≤ 21) (h : Q (st k x a).1 sw (ayL m (st k x a).2)) : M2 X 4 mY_starting [vr 84, vi a, vi x] sw m Q := by
  have ea : w32 a = a := w32_id (by omega) (by omega)
  have ek : w32 k = k := w32_id (by omega) (by omega)
  refine wY_starting _ _ _ _ _ ?_
  rw [ea, hk]
  refine ⟨ha, eY_isUnder ek (by decide) ?_⟩
  rw [bz_w, bz_0, hk, ek]
  refine ⟨fun q => ⟨ha, fun q2 => ⟨ha, fun q3 => ?_, fun q3 => ?_⟩, fun q2 => ?_⟩, fun q => ?_⟩
  · have e : st k x a = (x + a, [1]) := by unfold st; rw [if_neg (by omega), if_neg (by omega), if_neg (by omega)]
    rw [e] at h
    exact eY_plainStarts (by omega) h
  · have e : st k x a = ((x + a) * 2, [70, 1]) := by unfold st; rw [if_neg (by omega), if_neg (by omega), if_pos (by omega)]
    rw [e] at h
    exact eY_catStarts (by omega) h
  · have e : st k x a = ((x + a) * 2 - 1, [81, 70, 1]) := by unfold st; rw [if_neg (by omega), if_pos (by omega)]
    rw [e] at h
    refine eY_ran (by omega) (eY_catStarts ?_ h)
    rw [ay1_49]; omega
  · have e : st k x a = (x + a + 3, [20, 1]) := by unfold st; rw [if_pos (by omega)]
    rw [e] at h
    refine eY_ran (by omega) (eY_plainStarts ?_ h)
    rw [ay1_49]; omega
theorem eY_plainTakes {a x k : Int} (ha : 0 ≤ a ∧ a < 50) (hk : m 115 a = k) (h8 : 0 ≤ k ∧ k < 8) (c0 : 0 ≤ m 84 49 ∧ m 84 49 ≤ 20) (h : Q (pt k x a).1 sw (ayL m (pt k x a).2)) : M2 X 5 mY_plainTakes [vr 84, vi a, vi x] sw m Q := by
  refine wY_plainTakes _ _ _ _ _ (eY_ran (by omega) (eY_starting ha (by rw [ay1_k]; exact hk) h8 ?_ h))
  rw [ay1_49]; omega
theorem eY_matchTakes {a x k : Int} (ha : 0 ≤ a ∧ a < 50) (hk : m 115 a = k) (h8 : 0 ≤ k ∧ k < 8) (c0 : 0 ≤ m 84 49 ∧ m 84 49 ≤ 19) (h : Q (mt k x a).1 sw (ayL m (mt k x a).2)) : M2 X 6 mY_matchTakes [vr 84, vi a, vi x] sw m Q := by
  refine wY_matchTakes _ _ _ _ _ (eY_ran (by omega) (eY_plainTakes ha (by rw [ay1_k]; exact hk) h8 ?_ h))
  rw [ay1_49]; omega
theorem eY_plainFails {a x : Int} (c0 : 0 ≤ m 84 49 ∧ m 84 49 < 24) (h : Q (zxor x a) sw (ayL m [11])) : M2 X 2 mY_plainFails [vr 84, vi a, vi x] sw m Q := wY_plainFails _ _ _ _ _ (eY_ran c0 h)
theorem eY_leverFails {a x : Int} (c0 : 0 ≤ m 84 49 ∧ m 84 49 < 23) (h : Q (zxor x a * 3) sw (ayL m [40, 11])) : M2 X 3 mY_leverFails [vr 84, vi a, vi x] sw m Q := by
  refine wY_leverFails _ _ _ _ _ (eY_ran (by omega) (eY_plainFails ?_ h))
  rw [ay1_49]; omega
theorem eY_failing {a x k : Int} (ha : 0 ≤ a ∧ a < 50) (hk : m 115 a = k) (h8 : 0 ≤ k ∧ k < 8) (c0 : 0 ≤ m 84 49 ∧ m 84 49 ≤ 18) (h : Q (fl k x a).1 sw (ayL m (fl k x a).2)) : M2 X 5 mY_failing [vr 84, vi a, vi x] sw m Q := by
  have ea : w32 a = a := w32_id (by omega) (by omega)
  have ek : w32 k = k := w32_id (by omega) (by omega)
  refine wY_failing _ _ _ _ _ ?_
  rw [ea, hk, ek]
  refine ⟨ha, fun q => ⟨ha, fun q2 => ?_, fun q2 => ?_⟩, fun q => ?_⟩
  · have e : fl k x a = (zxor x a, [11]) := by unfold fl; rw [if_neg (by omega), if_neg (by omega)]
    rw [e] at h
    exact eY_plainFails (by omega) h
  · have e : fl k x a = (zxor x a * 3, [40, 11]) := by unfold fl; rw [if_neg (by omega), if_pos (by omega)]
    rw [e] at h
    exact eY_leverFails (by omega) h
  · have e : fl k x a = (zxor x a * 3 - (st k 2 a).1, 60 :: 40 :: 11 :: (st k 2 a).2) := by unfold fl; rw [if_pos (by omega)]
    rw [e] at h
    refine eY_ran (by omega) (eY_leverFails ?_ (eY_starting ha ?_ h8 ?_ ?_))
    · rw [ay1_49]; omega
    · rw [ay_k, ay1_k]; exact hk
    · rw [ayL_49, ay1_49]
      have : ([40, 11] : List Int).length = 2 := rfl
      omega
    · rw [ayL_app]; exact h
theorem eY_taking {a x k : Int} (ha : 0 ≤ a ∧ a < 50) (hk : m 115 a = k) (h8 : 0 ≤ k ∧ k < 8) (c0 : 0 ≤ m 84 49 ∧ m 84 49 ≤ 12) (h : Q (tk k x a).1 sw (ayL m (tk k x a).2)) : M2 X 7 mY_taking [vr 84, vi a, vi x] sw m Q := by
  have ea : w32 a = a := w32_id (by omega) (by omega)
  have ek : w32 k = k := w32_id (by omega) (by omega)
  refine wY_taking _ _ _ _ _ ?_
  rw [ea, hk]
  refine ⟨ha, eY_isUnder ek (by decide) ?_⟩
  rw [bz_w, bz_0, hk, ek]
  refine ⟨fun q => ⟨ha, fun q2 => ⟨ha, fun q3 => ?_, fun q3 => ?_⟩, fun q2 => ?_⟩, fun q => ?_⟩
  · have e : tk k x a = pt k x a := by unfold tk; rw [if_neg (by omega), if_neg (by omega), if_neg (by omega)]
    rw [e] at h
    exact eY_plainTakes ha hk h8 (by omega) h
  · have e : tk k x a = mt k x a := by unfold tk; rw [if_neg (by omega), if_neg (by omega), if_pos (by omega)]
    rw [e] at h
    exact eY_matchTakes ha hk h8 (by omega) h
  · have e : tk k x a = ((pt k x a).1 + (fl k 2 a).1, 80 :: ((pt k x a).2 ++ (fl k 2 a).2)) := by unfold tk; rw [if_neg (by omega), if_pos (by omega)]
    rw [e] at h
    have hl := pt_len x a h8
    refine eY_ran (by omega) (eY_plainTakes ha (by rw [ay1_k]; exact hk) h8 ?_ (eY_failing ha ?_ h8 ?_ ?_))
    · rw [ay1_49]; omega
    · rw [ay_k, ay1_k]; exact hk
    · rw [ayL_49, ay1_49]; omega
    · rw [ayL_app]; exact h
  · have e : tk k x a = ((mt k (x + 1) a).1, 41 :: (mt k (x + 1) a).2) := by unfold tk; rw [if_pos (by omega)]
    rw [e] at h
    refine eY_ran (by omega) (eY_matchTakes ha (by rw [ay1_k]; exact hk) h8 ?_ h)
    rw [ay1_49]; omega
theorem eY_plainTells {a x k : Int} (ha : 0 ≤ a ∧ a < 50) (hk : m 115 a = k) (h8 : 0 ≤ k ∧ k < 8) (c0 : 0 ≤ m 84 49 ∧ m 84 49 ≤ 5) (h : Q (pl k x a).1 sw (ayL m (pl k x a).2)) : M2 X 8 mY_plainTells [vr 84, vi a, vi x] sw m Q := by
  have hl := tk_len x a h8
  refine wY_plainTells _ _ _ _ _ (eY_ran (by omega) (eY_taking ha (by rw [ay1_k]; exact hk) h8 ?_ (eY_failing ha ?_ h8 ?_ ?_)))
  · rw [ay1_49]; omega
  · rw [ay_k, ay1_k]; exact hk
  · rw [ayL_49, ay1_49]; omega
  · rw [ayL_app]; exact h
theorem eY_telling {a x k : Int} (ha : 0 ≤ a ∧ a < 50) (hk : m 115 a = k) (h8 : 0 ≤ k ∧ k < 8) (c0 : 0 ≤ m 84 49 ∧ m 84 49 ≤ 4) (h : Q (tl k x a).1 sw (ayL m (tl k x a).2)) : M2 X 9 mY_telling [vr 84, vi a, vi x] sw m Q := by
  have ea : w32 a = a := w32_id (by omega) (by omega)
  have ek : w32 k = k := w32_id (by omega) (by omega)
  refine wY_telling _ _ _ _ _ ?_
  rw [ea, hk, ek]
  refine ⟨ha, fun q => ⟨ha, fun q2 => ?_, fun q2 => ?_⟩, fun q => ?_⟩
  · have e : tl k x a = pl k x a := by unfold tl; rw [if_neg (by omega), if_neg (by omega)]
    rw [e] at h
    exact eY_plainTells ha hk h8 (by omega) h
  · have e : tl k x a = ((pl k x a).1 + 1, 61 :: (pl k x a).2) := by unfold tl; rw [if_neg (by omega), if_pos (by omega)]
    rw [e] at h
    refine eY_ran (by omega) (eY_plainTells ha (by rw [ay1_k]; exact hk) h8 ?_ h)
    rw [ay1_49]; omega
  · have e : tl k x a = (zxor (pl k x a).1 5, 50 :: (pl k x a).2) := by unfold tl; rw [if_pos (by omega)]
    rw [e] at h
    refine eY_ran (by omega) (eY_plainTells ha (by rw [ay1_k]; exact hk) h8 ?_ h)
    rw [ay1_49]; omega
theorem FrA.apL : ∀ (L : List Int) (m : Mem), FrA m (apL m L)
  | [], m => FrA.rf m
  | b :: L, m => FrA.tr (show FrA m (ap1 m b) from (FrA.up (by omega)).tr (FrA.up (by omega))) (FrA.apL L (ap1 m b))
theorem FrA.ayL : ∀ (L : List Int) (m : Mem), FrA m (ayL m L)
  | [], m => FrA.rf m
  | b :: L, m => FrA.tr (show FrA m (ay1 m b) from (FrA.up (by omega)).tr (FrA.u84 (by omega))) (FrA.ayL L (ay1 m b))
theorem pr_act {a t x : Int} (ha : w32 a = a) (ht : w32 t = t) (hI : IS m) (hB : IB m) {QQ : Int → Int → Bool → Mem → Prop} (h : ∀ z m', IA m' → FrA m m' → (m' 69 2 = m 69 2 ∧ m' 84 47 = m 84 47 ∧ m' 70 = m 70 ∧ m' 115 = m 115) → QQ z z sw m') : M2 X 62 mZ_act [vr 1, vi a, vi t, vi x] sw m (fun z1 sw1 m1 => M2 X 10 mY_act [vr 84, vi a, vi t, vi x] sw1 m1 (fun z2 sw2 m2 => QQ z1 z2 sw2 m2)) := by
  have r0 : ∀ c j, ¬ (c = 69 ∧ j = 3) → upm m 69 3 0 c j = m c j := fun c j q => upm_ne q
  have hI' : ∀ {m' : Mem}, m' 69 2 = m 69 2 → 0 ≤ m' 69 2 ∧ m' 69 2 ≤ 50 := fun e => by rw [e]; exact ⟨hI.1, hI.2.1⟩
  have hhas : ∀ (m' : Mem) (Q' : Int → Bool → Mem → Prop), m' 69 2 = m 69 2 → Q' (bz (0 ≤ a ∧ a < m 69 2)) sw m' → M2 X 1 mA_has [vr 69, vi a] sw m' Q' := by
    intro m' Q' e q
    have hb := hI' e
    refine wA_has _ _ _ _ ?_
    rw [ha, e, w32_id (z := m 69 2) (by omega) (by omega)]
    unfold bz at q
    refine ⟨fun c => ?_, fun c => ⟨fun c2 => ?_, fun c2 => ?_⟩⟩
    · rwa [if_neg (by omega)] at q
    · rwa [if_neg (by omega)] at q
    · rwa [if_pos (by omega)] at q
  have hbody : ∀ (m' : Mem) (Q' : Int → Bool → Mem → Prop), m' 84 47 = m 69 2 → Q' (bz (0 ≤ a ∧ a < m 69 2)) sw m' → M2 X 2 mY_isBody [vr 84, vi a] sw m' Q' := by
    intro m' Q' e q
    have h1 := hI.1
    have h2 := hI.2.1
    refine wY_isBody _ _ _ _ (eY_in ha (by decide) (by rw [e]; exact w32_id (by omega) (by omega)) ⟨bz_01 _, ?_⟩)
    rw [e, show bz (0 ≤ a ∧ a ≤ m 69 2 - 1) = bz (0 ≤ a ∧ a < m 69 2) from bz_c (by omega)]
    exact q
  have e84 : ∀ m' : Mem, (∀ j, m' 84 j = m 84 j) → m' 84 47 = m 69 2 := fun m' e => (e 47).trans hI.2.2.1
  -- the refused call
  have no : ¬ ((0 ≤ a ∧ a < m 69 2) ∧ (0 ≤ t ∧ t < 4)) → M2 X 10 mY_act [vr 84, vi a, vi t, vi x] sw (upm m 69 3 0) (fun z2 sw2 m2 => QQ 0 z2 sw2 m2) := by
    intro hn
    have fin : QQ 0 0 sw (upm (upm m 69 3 0) 84 49 0) := by
      refine h _ _ ⟨?_, ?_, ?_, fun i h1 h2 => ?_⟩ ((FrA.up (by omega)).tr (FrA.u84 (by omega))) ⟨?_, ?_, ?_, ?_⟩
      · rfl
      · show (0 : Int) ≤ 0; decide
      · show (0 : Int) ≤ 24; decide
      · rw [upm_row (by omega), upm_at] at h2
        simp at h2; omega
      · rw [upm_row (by omega), upm_at]; rfl
      · rw [upm_at, upm_row (by omega)]; rfl
      · rw [upm_row (by omega), upm_row (by omega)]
      · rw [upm_row (by omega), upm_row (by omega)]
    refine wY_act _ _ _ _ _ _ (hbody _ _ ?_ ?_)
    · rw [upm_at, upm_row (by omega)]
      exact hI.2.2.1
    · rw [bz_w, bz_0]
      refine ⟨fun _ => fin, fun q => eY_in ht (by decide) (by decide) ?_⟩
      rw [bz_w, bz_0]
      exact ⟨fun q2 => by omega, fun _ => fin⟩
  refine wZ_act _ _ _ _ _ _ (wA_perform _ _ _ _ _ _ (hhas _ _ (r0 69 2 (by omega)) ?_))
  rw [bz_w, bz_0, ht, ha]
  refine ⟨fun c => no (by omega), fun c => ⟨fun c2 => no (by omega), fun c2 => ⟨fun c3 => ?_, fun c3 => no (by omega)⟩⟩⟩
  have c := Decidable.not_not.mp c
  have h50 := hI.2.1
  refine ⟨by omega, ?_⟩
  have hk := hB a c.1 c.2
  have e70 : upm m 69 3 0 70 a = m 70 a := r0 70 a (by omega)
  rw [e70]
  generalize hmm : upm (upm (upm m 69 3 0) 69 4 a) 69 5 (m 70 a) = mm
  have f4 : mm 69 4 = a := by rw [← hmm, upm_at, if_neg (by omega), upm_at]; rfl
  have f5 : mm 69 5 = m 70 a := by rw [← hmm, upm_at]; rfl
  have f3 : mm 69 3 = 0 := by rw [← hmm, upm_at, if_neg (by omega), upm_at, if_neg (by omega), upm_at]; rfl
  have f2 : mm 69 2 = m 69 2 := by rw [← hmm, upm_at, if_neg (by omega), upm_at, if_neg (by omega), upm_at]; rfl
  have fo : ∀ c, ¬ c = 69 → mm c = m c := fun c q => by rw [← hmm, upm_row q, upm_row q, upm_row q]
  have ffr : FrA m mm := by rw [← hmm]; exact ((FrA.up (by omega)).tr (FrA.up (by omega))).tr (FrA.up (by omega))
  have hlen := ac_len x a (by omega) hk.2 (a := t)
  refine eA_run 12 60 t (m 70 a) x (ac t (m 70 a) x a).1 0 (ac t (m 70 a) x a).2 mm _ (by decide) ?_ (by omega) (by omega) (by omega) (by rw [f5]; exact hk.2) (by rw [f3]; decide) (by rw [f3]; omega) (by decide) (by decide) ?_
  · rw [f5, f4]
    exact run_ac x a (by omega) hk.2
  generalize hL : (ac t (m 70 a) x a).2 = L at hlen
  have o : ∀ c j, ¬ c = 71 → ¬ (c = 69 ∧ j = 3) → apL mm L c j = mm c j := fun c j q1 q2 => apL_o L mm c j q1 q2
  generalize hv : (ac t (m 70 a) x a).1 = v
  have hac : ac t (m 70 a) x a = (v, L) := by rw [← hv, ← hL]
  have hrow : ∀ c, ¬ c = 71 → ¬ c = 69 → apL mm L c = mm c := fun c q1 q2 => funext fun j => o c j q1 (fun q => q2 q.1)
  -- the model
  have o49 : ∀ c j, ¬ (c = 84 ∧ j = 49) → upm (apL mm L) 84 49 0 c j = apL mm L c j := fun c j q => upm_ne q
  have g115 : upm (apL mm L) 84 49 0 115 a = m 70 a := by rw [o49 115 a (by omega), hrow 115 (by omega) (by omega), fo 115 (by omega)]; exact hk.1
  have g49 : upm (apL mm L) 84 49 0 84 49 = 0 := by rw [upm_at]; rfl
  have fin : QQ v v sw (ayL (upm (apL mm L) 84 49 0) L) := by
    refine h _ _ ⟨?_, ?_, ?_, fun i h1 h2 => ?_⟩ (((ffr.tr (FrA.apL L mm)).tr (FrA.u84 (by omega))).tr (FrA.ayL L _)) ⟨?_, ?_, ?_, ?_⟩
    · rw [ayL_49, g49, ayL_o _ _ 69 3 (by omega) (by omega), o49 69 3 (by omega), apL_3, f3]
    · rw [ayL_o _ _ 69 3 (by omega) (by omega), o49 69 3 (by omega), apL_3, f3]; omega
    · rw [ayL_o _ _ 69 3 (by omega) (by omega), o49 69 3 (by omega), apL_3, f3]; omega
    · rw [ayL_o _ _ 69 3 (by omega) (by omega), o49 69 3 (by omega), apL_3, f3] at h2
      rw [ayL_o _ _ 71 i (by omega) (by omega), o49 71 i (by omega)]
      exact (tr_same L mm (upm (apL mm L) 84 49 0) i (by rw [f3, g49]) (by omega) (by omega)).symm
    · rw [ayL_o _ _ 69 2 (by omega) (by omega), o49 69 2 (by omega), o 69 2 (by omega) (by omega), f2]
    · rw [ayL_o _ _ 84 47 (by omega) (by omega), o49 84 47 (by omega), o 84 47 (by omega) (by omega), fo 84 (by omega)]
    · funext j
      rw [ayL_o _ _ 70 j (by omega) (by omega), o49 70 j (by omega), o 70 j (by omega) (by omega), fo 70 (by omega)]
    · funext j
      rw [ayL_o _ _ 115 j (by omega) (by omega), o49 115 j (by omega), o 115 j (by omega) (by omega), fo 115 (by omega)]
  refine wY_act _ _ _ _ _ _ (hbody _ _ ?_ ?_)
  · rw [o49 84 47 (by omega), hrow 84 (by omega) (by omega), fo 84 (by omega)]; exact hI.2.2.1
  rw [bz_w, bz_0]
  refine ⟨fun q => absurd c q, fun _ => eY_in ht (by decide) (by decide) ?_⟩
  rw [bz_w, bz_0, ht]
  refine ⟨fun _ => ⟨fun d0 => ⟨fun d1 => ⟨fun d2 => ?_, fun d2 => ?_⟩, fun d1 => ?_⟩, fun d0 => ?_⟩, fun q => by omega⟩
  · have e : tl (m 70 a) x a = (v, L) := by rw [← hac]; unfold ac; rw [if_neg d0, if_neg d1, if_neg d2]
    exact eY_telling (by omega) g115 hk.2 (by rw [g49]; decide) (by rw [e]; exact fin)
  · have e : fl (m 70 a) x a = (v, L) := by rw [← hac]; unfold ac; rw [if_neg d0, if_neg d1, if_pos (Decidable.not_not.mp d2)]
    exact eY_failing (by omega) g115 hk.2 (by rw [g49]; decide) (by rw [e]; exact fin)
  · have e : tk (m 70 a) x a = (v, L) := by rw [← hac]; unfold ac; rw [if_neg d0, if_pos (Decidable.not_not.mp d1)]
    exact eY_taking (by omega) g115 hk.2 (by rw [g49]; decide) (by rw [e]; exact fin)
  · have e : st (m 70 a) x a = (v, L) := by rw [← hac]; unfold ac; rw [if_pos (Decidable.not_not.mp d0)]
    exact eY_starting (by omega) g115 hk.2 (by rw [g49]; decide) (by rw [e]; exact fin)
end AC3
