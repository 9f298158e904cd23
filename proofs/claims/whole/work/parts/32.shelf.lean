/-! shelves: keep, row, put, shift -/
theorem M2.mono {X : Cx} {d : Nat} {M : Md} {as : List AV} {sw : Bool} {m : Mem} {Q Q' : Int → Bool → Mem → Prop} (h : M2 X d M as sw m Q) (hQ : ∀ z sw m, Q z sw m → Q' z sw m) : M2 X d M as sw m Q' := by
  unfold M2 Mt Met at *
  refine MetFree.mono h (fun _ _ h => h) (fun _ _ _ _ _ h => h) (fun a s o s' _ hq => ⟨⟨?_, hq.1.2⟩, hq.2⟩)
  obtain ⟨z, r, m1, h1, ⟨sw1, h2, h3⟩, h4⟩ := hq.1.1
  exact ⟨z, r, m1, h1, ⟨sw1, h2, hQ _ _ _ h3⟩, h4⟩
section SH2
variable {X : Cx} {sw : Bool} {m : Mem} {Q : Int → Bool → Mem → Prop}
theorem IS.get (hI : IS m) {s : Int} (h1 : 0 ≤ s) (h2 : s < 6) : IS1 m s := hI.2.2.2 s h1 h2
theorem IS_hold {a k b : Int} (hI : IS m) (ha : 0 ≤ a ∧ a < 6) (hb : (k = 0 ∧ b = -1) ∨ (k = 1 ∧ 0 ≤ b ∧ b < m 69 2)) : IS (upm (upm (upm m 73 a k) 74 a b) 117 a b) := by
  have h69 : (upm (upm (upm m 73 a k) 74 a b) 117 a b) 69 = m 69 := by simp (disch := omega) only [upm_row]
  have h84 : (upm (upm (upm m 73 a k) 74 a b) 117 a b) 84 = m 84 := by simp (disch := omega) only [upm_row]
  refine ⟨by rw [h69]; exact hI.1, by rw [h69]; exact hI.2.1, by rw [h69, h84]; exact hI.2.2.1, fun s h1 h2 => ?_⟩
  have h0 := hI.get h1 h2
  unfold IS1 at *
  simp (disch := omega) only [upm_row, upm_at]
  refine ⟨?_, h0.2⟩
  by_cases hs : s = a
  · subst hs
    simp only [if_true]
    rcases hb with ⟨rfl, rfl⟩ | ⟨rfl, h3, h4⟩
    · exact Or.inl ⟨by trivial, by trivial⟩
    · exact Or.inr (Or.inl ⟨by trivial, by trivial, h3, h4⟩)
  · simp only [if_neg hs]
    exact h0.1
theorem FrS.c69 {m m' : Mem} (h : FrS m m') : m' 69 = m 69 := h 69 (by omega) (by omega)
theorem pr_keep {a b : Int} (ha : w32 a = a) (hb : w32 b = b) (hI : IS m) {QQ : Int → Int → Bool → Mem → Prop} (h : ∀ z m', IS m' → FrS m m' → QQ z z sw m') : M2 X 3 mZ_keep [vr 1, vi a, vi b] sw m (fun z1 sw1 m1 => M2 X 3 mY_keep [vr 84, vi a, vi b] sw1 m1 (fun z2 sw2 m2 => QQ z1 z2 sw2 m2)) := by
  have fr : ∀ k : Int, FrS m (upm (upm (upm m 73 a k) 74 a b) 117 a b) := fun k => ((FrS.up (by omega)).tr (FrS.up (by omega))).tr (FrS.up (by omega))
  refine wZ_keep _ _ _ _ _ ?_
  rw [hb]
  refine ⟨fun c => ?_, fun c => ?_⟩
  · subst c
    refine wS_holdBody _ _ _ _ _ (eS_isShelf ha ?_)
    rw [ha, hb, bz_w, bz_0]
    refine ⟨fun c => ?_, fun c => ?_⟩
    · have c : 0 ≤ a ∧ a < 6 := Decidable.not_not.mp c
      refine ⟨fun q => absurd rfl q, fun _ => ⟨c, c, ?_⟩⟩
      refine wY_keep _ _ _ _ _ (eY_isShelf ha ?_)
      rw [ha, hb, bz_w, bz_0]
      exact ⟨fun q => absurd c q, fun _ => ⟨fun _ => ⟨c, h _ _ (IS_hold hI c (Or.inl ⟨rfl, rfl⟩)) (fr 0)⟩, fun q => absurd rfl q⟩⟩
    · have c : ¬ (0 ≤ a ∧ a < 6) := Decidable.not_not.mp c
      refine wY_keep _ _ _ _ _ (eY_isShelf ha ?_)
      rw [ha, hb, bz_w, bz_0]
      exact ⟨fun _ => h _ _ hI (FrS.rf m), fun q => absurd (Decidable.not_not.mp q) c⟩
  · refine eA_has hb hI ?_
    rw [bz_w, bz_0]
    refine ⟨fun c1 => ?_, fun c1 => ?_⟩
    · refine wY_keep _ _ _ _ _ (eY_isShelf ha ?_)
      rw [ha, hb, bz_w, bz_0]
      refine ⟨fun _ => h _ _ hI (FrS.rf m), fun _ => ⟨fun q => absurd q c, fun _ => ?_⟩⟩
      refine eY_isBody hb hI ?_
      rw [bz_w, bz_0]
      exact ⟨fun q => absurd c1 q, fun _ => h _ _ hI (FrS.rf m)⟩
    · have c1 : 0 ≤ b ∧ b < m 69 2 := Decidable.not_not.mp c1
      refine wS_holdBody _ _ _ _ _ (eS_isShelf ha ?_)
      rw [ha, hb, bz_w, bz_0]
      refine ⟨fun c2 => ?_, fun c2 => ?_⟩
      · have c2 : 0 ≤ a ∧ a < 6 := Decidable.not_not.mp c2
        refine ⟨fun _ => ⟨c2, c2, ?_⟩, fun q => absurd c q⟩
        refine wY_keep _ _ _ _ _ (eY_isShelf ha ?_)
        rw [ha, hb, bz_w, bz_0]
        refine ⟨fun q => absurd c2 q, fun _ => ⟨fun q => absurd q c, fun _ => ?_⟩⟩
        have hI1 : IS (upm (upm (upm m 73 a 1) 74 a b) 117 a b) := IS_hold hI c2 (Or.inr ⟨rfl, c1⟩)
        have h69 : (upm (upm m 73 a 1) 74 a b) 69 = m 69 := by simp (disch := omega) only [upm_row]
        have h84 : (upm (upm m 73 a 1) 74 a b) 84 = m 84 := by simp (disch := omega) only [upm_row]
        have e47 : w32 ((upm (upm m 73 a 1) 74 a b) 84 47 - 1) = (upm (upm m 73 a 1) 74 a b) 84 47 - 1 := by
          rw [h84, hI.2.2.1]; have := hI.1; have := hI.2.1; exact w32_id (by omega) (by omega)
        refine wY_isBody _ _ _ _ (eY_in hb (by decide) e47 ⟨bz_01 _, ?_⟩)
        rw [bz_w, bz_0, h84, hI.2.2.1]
        exact ⟨fun _ => ⟨c2, h _ _ hI1 (fr 1)⟩, fun q => absurd (show 0 ≤ b ∧ b ≤ m 69 2 - 1 by omega) (Decidable.not_not.mp q)⟩
      · have c2 : ¬ (0 ≤ a ∧ a < 6) := Decidable.not_not.mp c2
        refine wY_keep _ _ _ _ _ (eY_isShelf ha ?_)
        rw [ha, hb, bz_w, bz_0]
        exact ⟨fun _ => h _ _ hI (FrS.rf m), fun q => absurd (Decidable.not_not.mp q) c2⟩
theorem lY_row {a : Int} (ha : 0 ≤ a ∧ a < 6) (h : Q 1 sw (flm m 119 (60 * a) (60 * a + 60) 0)) : R2 X 3 mY_row 54 [(0, vr 84), (1, vi a), (4, vi (60 * a))] [] sw m Q := by
  have key : ∀ i : Nat, i ≤ 60 → ∀ m : Mem, Q 1 sw (flm m 119 (60 * a + i) (60 * a + 60) 0) → R2 X 3 mY_row 54 [(0, vr 84), (1, vi a), (4, vi (60 * a + i))] [] sw m Q := by
    refine downN 60 (fun m h => ?_) (fun i hi ih m h => ?_)
    · refine wY_row_54 _ _ _ _ _ ⟨fun _ => ?_, fun c => absurd (Int.le_refl _) c⟩
      rw [show flm m 119 (60 * a + ((60 : Nat) : Int)) (60 * a + 60) 0 = m from flm_0 (by omega)] at h
      exact h
    · have e1 : w32 (60 * a + (i : Int)) = 60 * a + (i : Int) := w32_id (by omega) (by omega)
      have e2 : w32 (60 * a + 60) = 60 * a + 60 := w32_id (by omega) (by omega)
      refine wY_row_54 _ _ _ _ _ ⟨fun c => ?_, fun _ => ⟨?_, ?_⟩⟩
      · omega
      · omega
      · rw [e1]
        have ih := ih (upm m 119 (60 * a + i) 0)
        rw [show (60 * a + ((i + 1 : Nat) : Int)) = 60 * a + (i : Int) + 1 by omega] at ih
        refine ih ?_
        rw [flm_s (by omega)]
        exact h
  have := key 0 (by omega) m
  rw [show (60 * a + ((0 : Nat) : Int)) = 60 * a by omega] at this
  exact this h
theorem flm_at {k lo hi v b : Int} : flm m k lo hi v k b = if lo ≤ b ∧ b < hi then v else m k b := by
  unfold flm
  by_cases h : lo ≤ b ∧ b < hi
  · rw [if_pos ⟨rfl, h⟩, if_pos h]
  · rw [if_neg (fun q => h q.2), if_neg h]
theorem IS_row {a k b : Int} (hI : IS m) (ha : 0 ≤ a ∧ a < 6) (hk : 0 ≤ k ∧ k ≤ 4) (hb : 0 ≤ b ∧ b ≤ 60) : IS (flm (upm (upm (flm (upm (upm (upm m 73 a 2) 75 a k) 76 a b) (78 + a) 0 60 0) 117 a (-2 - k)) 118 a b) 119 (60 * a) (60 * a + 60) 0) := by
  refine ⟨?_, ?_, ?_, fun s h1 h2 => ?_⟩
  · simp (disch := omega) only [upm_row, flm_row]; exact hI.1
  · simp (disch := omega) only [upm_row, flm_row]; exact hI.2.1
  · simp (disch := omega) only [upm_row, flm_row]; exact hI.2.2.1
  have h0 := hI.get h1 h2
  unfold IS1 at *
  simp (disch := omega) only [upm_row, upm_at, flm_row, flm_at]
  by_cases hs : s = a
  · subst hs
    simp only [if_true]
    refine ⟨Or.inr (Or.inr ⟨by trivial, by trivial, hk.1, hk.2, hb.1, hb.2, by trivial, fun _ i h3 h4 => ?_⟩), fun i h3 h4 => ?_⟩
    · rw [flm_at, if_pos ⟨h3, h4⟩]; omega
    · rw [if_pos (by omega), flm_at, if_pos ⟨h3, h4⟩]
  · simp only [if_neg hs]
    have e1 : (flm (upm (upm (upm m 73 a 2) 75 a k) 76 a b) (78 + a) 0 60 0) (78 + s) = m (78 + s) := by simp (disch := omega) only [upm_row, flm_row]
    rw [e1]
    refine ⟨h0.1, fun i h3 h4 => ?_⟩
    rw [if_neg (by omega)]
    exact h0.2 i h3 h4
theorem pr_row {a k b : Int} (ha : w32 a = a) (hk : w32 k = k) (hb : w32 b = b) (hI : IS m) {QQ : Int → Int → Bool → Mem → Prop} (h : ∀ z m', IS m' → FrS m m' → QQ z z sw m') : M2 X 3 mZ_row [vr 1, vi a, vi k, vi b] sw m (fun z1 sw1 m1 => M2 X 3 mY_row [vr 84, vi a, vi k, vi b] sw1 m1 (fun z2 sw2 m2 => QQ z1 z2 sw2 m2)) := by
  have r0 := h
  refine wZ_row _ _ _ _ _ _ (wS_holdRow _ _ _ _ _ _ (eS_isShelf ha ?_))
  rw [ha, hk, hb, bz_w, bz_0]
  have key : ∀ m' z, (((0 ≤ a ∧ a < 6) ∧ (0 ≤ k ∧ k ≤ 4) ∧ b ≤ 60 ∧ 0 ≤ b) ∧ z = 1 ∧ m' = flm (upm (upm (upm m 73 a 2) 75 a k) 76 a b) (78 + a) 0 60 0) ∨ (((0 ≤ a ∧ a < 6) ∧ (0 ≤ k ∧ k ≤ 4) ∧ b < 0) ∧ z = -14 ∧ m' = m) ∨ (¬ ((0 ≤ a ∧ a < 6) ∧ (0 ≤ k ∧ k ≤ 4) ∧ b ≤ 60) ∧ z = -1 ∧ m' = m) → M2 X 3 mY_row [vr 84, vi a, vi k, vi b] sw m' (fun z2 sw2 m2 => QQ z z2 sw2 m2) := by
    intro m' z hz
    refine wY_row _ _ _ _ _ _ (eY_isShelf ha ?_)
    rw [ha, hb, bz_w, bz_0]
    refine ⟨fun c => ?_, fun c => ?_⟩
    · rcases hz with hz | hz | ⟨_, rfl, rfl⟩
      · exact absurd hz.1.1 c
      · exact absurd hz.1.1 c
      · exact h _ _ hI (FrS.rf _)
    · have c := Decidable.not_not.mp c
      refine eY_in hk (by decide) (by decide) ?_
      rw [bz_w, bz_0]
      refine ⟨fun c2 => ?_, fun c2 => ?_⟩
      · rcases hz with hz | hz | ⟨_, rfl, rfl⟩
        · exact absurd hz.1.2.1 c2
        · exact absurd hz.1.2.1 c2
        · exact h _ _ hI (FrS.rf _)
      · have c2 := Decidable.not_not.mp c2
        refine ⟨fun c3 => ⟨fun c4 => ⟨c, c, lY_row c ?_⟩, fun c4 => ?_⟩, fun c3 => ?_⟩
        · rcases hz with ⟨_, rfl, rfl⟩ | hz | hz
          · refine h _ _ (IS_row hI c c2 ⟨c4, c3⟩) ?_
            exact (((((FrS.up (by omega)).tr (FrS.up (by omega))).tr (FrS.up (by omega))).tr (FrS.fl (by omega))).tr (FrS.up (by omega))).tr ((FrS.up (by omega)).tr (FrS.fl (by omega)))
          · omega
          · omega
        · rcases hz with hz | ⟨_, rfl, rfl⟩ | hz
          · omega
          · exact h _ _ hI (FrS.rf _)
          · omega
        · rcases hz with hz | hz | ⟨_, rfl, rfl⟩
          · omega
          · omega
          · exact h _ _ hI (FrS.rf _)
  refine ⟨fun c => key _ _ (Or.inr (Or.inr ⟨by omega, rfl, rfl⟩)), fun c => ⟨fun c2 => key _ _ (Or.inr (Or.inr ⟨by omega, rfl, rfl⟩)), fun c2 => ⟨fun c3 => key _ _ (Or.inr (Or.inr ⟨by omega, rfl, rfl⟩)), fun c3 => ⟨fun c4 => ⟨fun c5 => ?_, fun c5 => key _ _ (Or.inr (Or.inl ⟨by omega, rfl, rfl⟩))⟩, fun c4 => key _ _ (Or.inr (Or.inr ⟨by omega, rfl, rfl⟩))⟩⟩⟩⟩
  have c := Decidable.not_not.mp c
  exact ⟨c, c, c, c, eJ_fill (cr77 c) (by omega) _ _ _ _ (key _ _ (Or.inl ⟨by omega, rfl, rfl⟩))⟩
/-- what a row keeps of v -/
def low (k v : Int) : Int := if k = 0 then w32 (w8 v) else if k = 1 then w32 (w16 v) else if k = 2 then w32 v else if k = 3 then v else if w64 v = 0 then 0 else 1
theorem eS_lowestBits {k v : Int} (hk : 0 ≤ k ∧ k ≤ 4) (h : Q (low k v) sw m) : M2 X 1 mS_lowestBits [vi k, vl v] sw m Q := by
  refine wS_lowestBits _ _ _ _ _ ?_
  rw [w32_id (z := k) (by omega) (by omega)]
  unfold low at h
  refine ⟨fun c => ?_, fun c => ?_, fun c => ?_, fun c => ?_, fun c => ⟨fun c2 => ?_, fun c2 => ?_⟩, fun c => by omega⟩
  · rwa [if_pos c] at h
  · rwa [if_neg (by omega), if_pos c] at h
  · rwa [if_neg (by omega), if_neg (by omega), if_pos c] at h
  · rwa [if_neg (by omega), if_neg (by omega), if_neg (by omega), if_pos c] at h
  · rwa [if_neg (by omega), if_neg (by omega), if_neg (by omega), if_neg (by omega), if_pos c2] at h
  · rwa [if_neg (by omega), if_neg (by omega), if_neg (by omega), if_neg (by omega), if_neg c2] at h
theorem low_1 (v : Int) : -32768 ≤ low 1 v ∧ low 1 v ≤ 32767 := by
  unfold low
  rw [if_neg (by decide), if_pos rfl, w32_w16, w16_eq]
  omega
theorem IS_put {a i v : Int} (hI : IS m) (h : rfp m a i = 0) (hv : m 75 a = 1 → -32768 ≤ v ∧ v ≤ 32767) : IS (upm (upm m (78 + a) i v) 119 (60 * a + i) v) := by
  have hp := rfp_0 h
  have hr := row_f hI hp.1
  have ha := hr.1
  refine ⟨?_, ?_, ?_, fun s h1 h2 => ?_⟩
  · simp (disch := omega) only [upm_row]; exact hI.1
  · simp (disch := omega) only [upm_row]; exact hI.2.1
  · simp (disch := omega) only [upm_row]; exact hI.2.2.1
  have h0 := hI.get h1 h2
  unfold IS1 at *
  simp (disch := omega) only [upm_row, upm_at]
  by_cases hs : s = a
  · subst hs
    simp only [upm_at]
    refine ⟨?_, fun j h3 h4 => ?_⟩
    · rcases h0.1 with h0 | h0 | h0
      · exact Or.inl h0
      · exact Or.inr (Or.inl h0)
      · refine Or.inr (Or.inr ⟨h0.1, h0.2.1, h0.2.2.1, h0.2.2.2.1, h0.2.2.2.2.1, h0.2.2.2.2.2.1, h0.2.2.2.2.2.2.1, fun q j h3 h4 => ?_⟩)
        by_cases hj : j = i
        · rw [if_pos hj]; exact hv q
        · rw [if_neg hj]; exact h0.2.2.2.2.2.2.2 q j h3 h4
    · by_cases hj : j = i
      · rw [if_pos hj, if_pos (by omega)]
      · rw [if_neg hj, if_neg (by omega)]; exact h0.2 j h3 h4
  · rw [upm_row (c := 78 + s) (by omega)]
    refine ⟨h0.1, fun j h3 h4 => ?_⟩
    rw [if_neg (by omega)]
    exact h0.2 j h3 h4
theorem pr_put {a i v : Int} (ha : w32 a = a) (hi : w32 i = i) (hI : IS m) {QQ : Int → Int → Bool → Mem → Prop} (h : ∀ z m', IS m' → FrS m m' → QQ z z sw m') : M2 X 5 mZ_put [vr 1, vi a, vi i, vl v] sw m (fun z1 sw1 m1 => M2 X 4 mY_put [vr 84, vi a, vi i, vl v] sw1 m1 (fun z2 sw2 m2 => QQ z1 z2 sw2 m2)) := by
  refine wZ_put _ _ _ _ _ _ (wS_write _ _ _ _ _ _ (eS_refusalOfPlace ha hi hI ?_))
  rw [rfp_w, ha, hi]
  refine ⟨fun c => ?_, fun c => ?_⟩
  · refine wY_put _ _ _ _ _ _ (eY_whyNoPlace ha hi hI ?_)
    rw [rfp_w]
    refine ⟨fun c2 => ?_, fun c2 => h _ _ hI (FrS.rf m)⟩
    exfalso
    unfold rfp rfo at c c2
    repeat' split at c
    all_goals omega
  · have c := Decidable.not_not.mp c
    have hp := rfp_0 c
    have hr := row_f hI hp.1
    refine ⟨hr.1, hr.1, eS_lowestBits ⟨hr.2.2.2.1, hr.2.2.2.2.1⟩ ⟨by omega, ?_⟩⟩
    have hm : ∀ b, (upm m (78 + a) i (low (m 75 a) v)) 117 b = m 117 b := fun b => by rw [upm_row (by omega)]
    have fin : QQ 1 1 sw (upm (upm m (78 + a) i (low (m 75 a) v)) 119 (60 * a + i) (low (m 75 a) v)) :=
      h _ _ (IS_put hI c (fun q => by rw [q]; exact low_1 v)) ((FrS.up (by omega)).tr (FrS.up (by omega)))
    -- the model's side
    refine wY_put _ _ _ _ _ _ ?_
    -- whyNoPlace reads 117, 118 alone: they are as before
    have hW : M2 X 3 mY_whyNoPlace [vr 84, vi a, vi i] sw (upm m (78 + a) i (low (m 75 a) v)) (fun z1 sw1 m1 => z1 = 0 ∧ sw1 = sw ∧ m1 = upm m (78 + a) i (low (m 75 a) v)) := by
      refine wY_whyNoPlace _ _ _ _ _ (eY_isShelf ha ?_)
      rw [ha, bz_w, bz_0, hm]
      have e118 : (upm m (78 + a) i (low (m 75 a) v)) 118 a = m 118 a := by rw [upm_row (by omega)]
      rw [e118]
      refine ⟨fun _ => ⟨hr.1, fun _ => ⟨hr.1, fun _ => ⟨hr.1, eY_in hi (by decide) (w32_id (by omega) (by omega)) ?_⟩, fun q => ?_⟩, fun q => ?_⟩, fun q => absurd hr.1 (Decidable.not_not.mp q)⟩
      · rw [bz_w, bz_0]
        exact ⟨fun q => absurd (by omega) q, fun _ => ⟨rfl, rfl, rfl⟩⟩
      · exfalso; rw [w32_id (by omega) (by omega)] at q; omega
      · exfalso
        have q := Decidable.not_not.mp q
        rw [w32_id (by omega) (by omega)] at q; omega
    refine hW.mono fun z1 sw1 m1 hz => ?_
    obtain ⟨rfl, rfl, rfl⟩ := hz
    rw [ha, hm]
    have e60 : w32 (60 * a + i) = 60 * a + i := w32_id (by omega) (by omega)
    have e75 : w32 (-2 - m 117 a) = m 75 a := by rw [hr.2.2.1]; rw [w32_id (by omega) (by omega)]; omega
    rw [e60, e75]
    have hb : 0 ≤ 60 * a + i ∧ 60 * a + i < 360 := by omega
    refine ⟨fun _ => ⟨hr.1, fun d0 => ⟨fun d1 => ⟨fun d2 => ⟨fun d3 => ⟨fun d4 => ⟨hb, ?_⟩, fun d4 => ⟨hb, ?_⟩⟩, fun d3 => ⟨hb, ?_⟩⟩, fun d2 => ⟨hb, ?_⟩⟩, fun d1 => ⟨hb, ?_⟩⟩, fun d0 => ⟨hb, ?_⟩⟩, fun q => absurd (Int.le_refl 0) q⟩
    · have e : low (m 75 a) v = 0 := by unfold low; rw [if_neg d0, if_neg d1, if_neg d2, if_neg d3, if_pos d4]
      rw [e] at fin ⊢; exact fin
    · have e : low (m 75 a) v = 1 := by unfold low; rw [if_neg d0, if_neg d1, if_neg d2, if_neg d3, if_neg d4]
      rw [e] at fin ⊢; exact fin
    · have e : low (m 75 a) v = v := by unfold low; rw [if_neg d0, if_neg d1, if_neg d2, if_pos (Decidable.not_not.mp d3)]
      rw [e] at fin ⊢; exact fin
    · have e : low (m 75 a) v = w32 v := by unfold low; rw [if_neg d0, if_neg d1, if_pos (Decidable.not_not.mp d2)]
      rw [e] at fin ⊢; exact fin
    · have e : low (m 75 a) v = w32 (w16 v) := by unfold low; rw [if_neg d0, if_pos (Decidable.not_not.mp d1)]
      rw [e] at fin ⊢; exact fin
    · have e : low (m 75 a) v = w32 (w8 v) := by unfold low; rw [if_pos (Decidable.not_not.mp d0)]
      rw [e] at fin ⊢; exact fin
end SH2
