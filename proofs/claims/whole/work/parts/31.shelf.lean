/-! memory words; shelves: the class's and the model's -/
theorem upm_row {m : Mem} {k i v c : Int} (h : ¬ c = k) : upm m k i v c = m c := funext fun b => if_neg (fun q => h q.1)
theorem upm_at {m : Mem} {k i v b : Int} : upm m k i v k b = if b = i then v else m k b := by
  unfold upm
  by_cases h : b = i
  · rw [if_pos ⟨rfl, h⟩, if_pos h]
  · rw [if_neg (fun q => h q.2), if_neg h]
def flm (m : Mem) (k lo hi v : Int) : Mem := fun a b => if a = k ∧ lo ≤ b ∧ b < hi then v else m a b
theorem flm_row {m : Mem} {k lo hi v c : Int} (h : ¬ c = k) : flm m k lo hi v c = m c := funext fun b => if_neg (fun q => h q.1)
theorem cpm_row {m : Mem} {ks sp kd dp n c : Int} (h : ¬ c = kd) : cpm m ks sp kd dp n c = m c := funext fun b => if_neg (fun q => h q.1)
theorem flm_0 {m : Mem} {k lo hi v : Int} (h : hi ≤ lo) : flm m k lo hi v = m := by
  funext a b
  exact if_neg (by omega)
theorem flm_s {m : Mem} {k lo hi v : Int} (h : lo < hi) : flm (upm m k lo v) k (lo + 1) hi v = flm m k lo hi v := by
  funext a b
  unfold flm upm
  by_cases h1 : a = k
  · by_cases h2 : b = lo
    · rw [if_neg (by omega), if_pos ⟨h1, h2⟩, if_pos (by omega)]
    · by_cases h3 : lo ≤ b ∧ b < hi
      · rw [if_pos (by omega), if_pos ⟨h1, h3⟩]
      · rw [if_neg (by omega), if_neg (by omega), if_neg (by omega)]
  · rw [if_neg (by omega), if_neg (by omega), if_neg (by omega)]
theorem eJ_fill {X : Cx} {k0 : Int} {N0 : Nat} (hk0 : isA NT k0 .long N0) (hN : N0 ≤ 100000) (a1 : Int) (sw : Bool) (m : Mem) (Q : Int → Bool → Mem → Prop) (h : Q 0 sw (flm m k0 0 N0 a1)) : M2 X 1 mJ_fill [vr k0, vl a1] sw m Q := by
  have key : ∀ i : Nat, i ≤ N0 → ∀ m : Mem, Q 0 sw (flm m k0 i N0 a1) → R2 X 1 mJ_fill 6 [(0, vr k0), (1, vl a1), (3, vi (i : Int)), (4, vi (N0 : Int))] [] sw m Q := by
    refine downN N0 (fun m h => ?_) (fun i hi ih m h => ?_)
    · refine wJ_fill_6 hk0 _ _ _ _ _ _ ⟨fun _ => ?_, fun c => absurd (Int.le_refl _) c⟩
      rw [flm_0 (Int.le_refl _)] at h
      exact h
    · have e1 : w32 (i : Int) = (i : Int) := w32_id (by omega) (by omega)
      have e2 : w32 (N0 : Int) = (N0 : Int) := w32_id (by omega) (by omega)
      refine wJ_fill_6 hk0 _ _ _ _ _ _ ⟨fun c => ?_, fun _ => ⟨?_, ?_⟩⟩
      · omega
      · omega
      · rw [e1]
        refine ih _ ?_
        rw [show ((i + 1 : Nat) : Int) = (i : Int) + 1 from rfl, flm_s (by omega)]
        exact h
  exact wJ_fill hk0 _ _ _ _ (key 0 (Nat.zero_le _) m h)
/-- shelves -/
def IS1 (m : Mem) (s : Int) : Prop :=
  ((m 73 s = 0 ∧ m 117 s = -1) ∨ (m 73 s = 1 ∧ m 117 s = m 74 s ∧ 0 ≤ m 74 s ∧ m 74 s < m 69 2) ∨ (m 73 s = 2 ∧ m 117 s = -2 - m 75 s ∧ 0 ≤ m 75 s ∧ m 75 s ≤ 4 ∧ 0 ≤ m 76 s ∧ m 76 s ≤ 60 ∧ m 118 s = m 76 s ∧ (m 75 s = 1 → ∀ i : Int, 0 ≤ i → i < 60 → -32768 ≤ m (78 + s) i ∧ m (78 + s) i ≤ 32767))) ∧ ∀ i : Int, 0 ≤ i → i < 60 → m 119 (60 * s + i) = m (78 + s) i
def IS (m : Mem) : Prop := 0 ≤ m 69 2 ∧ m 69 2 ≤ 50 ∧ m 84 47 = m 69 2 ∧ ∀ s : Int, 0 ≤ s → s < 6 → IS1 m s
/-- only the shelves' cells have changed -/
def FrS (m m' : Mem) : Prop := ∀ c : Int, ¬ (73 ≤ c ∧ c ≤ 83) → ¬ (117 ≤ c ∧ c ≤ 120) → m' c = m c
theorem FrS.rf (m : Mem) : FrS m m := fun _ _ _ => rfl
theorem FrS.tr {m1 m2 m3 : Mem} (h : FrS m1 m2) (g : FrS m2 m3) : FrS m1 m3 := fun c h1 h2 => (g c h1 h2).trans (h c h1 h2)
theorem FrS.up {m : Mem} {k i v : Int} (h : (73 ≤ k ∧ k ≤ 83) ∨ (117 ≤ k ∧ k ≤ 120)) : FrS m (upm m k i v) := fun c h1 h2 => upm_row (by omega)
theorem FrS.fl {m : Mem} {k lo hi v : Int} (h : (73 ≤ k ∧ k ≤ 83) ∨ (117 ≤ k ∧ k ≤ 120)) : FrS m (flm m k lo hi v) := fun c h1 h2 => flm_row (by omega)
theorem FrS.cp {m : Mem} {ks sp k dp n : Int} (h : (73 ≤ k ∧ k ≤ 83) ∨ (117 ≤ k ∧ k ≤ 120)) : FrS m (cpm m ks sp k dp n) := fun c h1 h2 => cpm_row (by omega)
section SH
variable {X : Cx} {sw : Bool} {m : Mem} {Q : Int → Bool → Mem → Prop}
/-- the answers of tests: 1 if so, else 0 -/
def bz (p : Prop) [Decidable p] : Int := if p then 1 else 0
theorem eS_isShelf {a : Int} (ha : w32 a = a) (h : Q (bz (0 ≤ a ∧ a < 6)) sw m) : M2 X 1 mS_isShelf [vi a] sw m Q := by
  refine wS_isShelf _ _ _ _ ?_
  rw [ha]
  unfold bz at h
  refine ⟨fun c => ?_, fun c => ⟨fun c2 => ?_, fun c2 => ?_⟩⟩
  · rwa [if_neg (by omega)] at h
  · rwa [if_neg (by omega)] at h
  · rwa [if_pos (by omega)] at h
theorem bz_t {p : Prop} [Decidable p] (h : p) : bz p = 1 := if_pos h
theorem bz_f {p : Prop} [Decidable p] (h : ¬ p) : bz p = 0 := if_neg h
theorem eY_in {a b c : Int} (ha : w32 a = a) (hb : w32 b = b) (hc : w32 c = c) (h : Q (bz (b ≤ a ∧ a ≤ c)) sw m) : M2 X 1 mY_in [vi a, vi b, vi c] sw m Q := by
  refine wY_in _ _ _ _ _ _ ?_
  rw [ha, hb, hc]
  unfold bz at h
  refine ⟨fun c => ?_, fun c => ⟨fun c2 => ?_, fun c2 => ?_⟩⟩
  · rwa [if_neg (by omega)] at h
  · rwa [if_neg (by omega)] at h
  · rwa [if_pos (by omega)] at h
theorem bz_01 (p : Prop) [Decidable p] : bz p = 0 ∨ bz p = 1 := by
  unfold bz
  split
  · exact Or.inr rfl
  · exact Or.inl rfl
theorem bz_c {p q : Prop} [Decidable p] [Decidable q] (h : p ↔ q) : bz p = bz q := by
  by_cases hp : p
  · rw [bz_t hp, bz_t (h.mp hp)]
  · rw [bz_f hp, bz_f (fun x => hp (h.mpr x))]
theorem bz_w (p : Prop) [Decidable p] : w32 (bz p) = bz p := by
  rcases bz_01 p with h | h <;> rw [h] <;> decide
theorem bz_0 {p : Prop} [Decidable p] : bz p = 0 ↔ ¬ p := by
  unfold bz
  split
  · exact ⟨fun h => absurd h (by decide), fun h => absurd ‹p› h⟩
  · exact ⟨fun _ => ‹¬ p›, fun _ => rfl⟩
theorem eY_isShelf {a : Int} (ha : w32 a = a) (h : Q (bz (0 ≤ a ∧ a < 6)) sw m) : M2 X 2 mY_isShelf [vi a] sw m Q := by
  refine wY_isShelf _ _ _ _ (eY_in ha (by decide) (by decide) ⟨bz_01 _, ?_⟩)
  rw [show bz (0 ≤ a ∧ a ≤ 5) = bz (0 ≤ a ∧ a < 6) from bz_c (by omega)]
  exact h
theorem eA_isKind {a : Int} (ha : w32 a = a) (h : Q (bz (0 ≤ a ∧ a < 8)) sw m) : M2 X 1 mA_isKind [vi a] sw m Q := by
  refine wA_isKind _ _ _ _ ?_
  rw [ha]
  unfold bz at h
  refine ⟨fun c => ?_, fun c => ⟨fun c2 => ?_, fun c2 => ?_⟩⟩
  · rwa [if_neg (by omega)] at h
  · rwa [if_neg (by omega)] at h
  · rwa [if_pos (by omega)] at h
theorem eA_has {a : Int} (ha : w32 a = a) (hI : IS m) (h : Q (bz (0 ≤ a ∧ a < m 69 2)) sw m) : M2 X 1 mA_has [vr 69, vi a] sw m Q := by
  obtain ⟨h1, h2, h3, h4⟩ := hI
  refine wA_has _ _ _ _ ?_
  rw [ha, w32_id (z := m 69 2) (by omega) (by omega)]
  unfold bz at h
  refine ⟨fun c => ?_, fun c => ⟨fun c2 => ?_, fun c2 => ?_⟩⟩
  · rwa [if_neg (by omega)] at h
  · rwa [if_neg (by omega)] at h
  · rwa [if_pos (by omega)] at h
theorem eY_isBody {a : Int} (ha : w32 a = a) (hI : IS m) (h : Q (bz (0 ≤ a ∧ a < m 69 2)) sw m) : M2 X 2 mY_isBody [vr 84, vi a] sw m Q := by
  obtain ⟨h1, h2, h3, h4⟩ := hI
  refine wY_isBody _ _ _ _ (eY_in ha (by decide) (by rw [h3]; exact w32_id (by omega) (by omega)) ⟨bz_01 _, ?_⟩)
  rw [show bz (0 ≤ a ∧ a ≤ m 84 47 - 1) = bz (0 ≤ a ∧ a < m 69 2) from bz_c (by omega)]
  exact h
/-- why a shelf isn't what is wanted -/
def rfo (m : Mem) (s w : Int) : Int := if 0 ≤ s ∧ s < 6 then (if m 73 s = 0 then -11 else if m 73 s = w then 0 else -12) else -1
theorem holds_b (hI : IS m) {s : Int} (h1 : 0 ≤ s) (h2 : s < 6) : 0 ≤ m 73 s ∧ m 73 s ≤ 2 := by
  rcases (hI.2.2.2 s h1 h2).1 with h | h | h <;> omega
theorem eS_refusalOf {a w : Int} (ha : w32 a = a) (hw : w32 w = w) (hI : IS m) (h : Q (rfo m a w) sw m) : M2 X 2 mS_refusalOf [vr 72, vi a, vi w] sw m Q := by
  refine wS_refusalOf _ _ _ _ _ (eS_isShelf ha ?_)
  rw [ha, hw, bz_w, bz_0]
  unfold rfo at h
  refine ⟨fun c => ?_, fun c => ?_⟩
  · have c : 0 ≤ a ∧ a < 6 := Decidable.not_not.mp c
    have hb := holds_b hI c.1 c.2
    rw [if_pos c] at h
    rw [w32_id (z := m 73 a) (by omega) (by omega)]
    refine ⟨c, fun c2 => ⟨c, fun c3 => ?_, fun c3 => ?_⟩, fun c2 => ?_⟩
    · rwa [if_neg c2, if_neg c3] at h
    · rwa [if_neg c2, if_pos (Decidable.not_not.mp c3)] at h
    · rwa [if_pos (Decidable.not_not.mp c2)] at h
  · have c : ¬ (0 ≤ a ∧ a < 6) := Decidable.not_not.mp c
    rwa [if_neg c] at h
theorem rfo_w (m : Mem) (s w : Int) : w32 (rfo m s w) = rfo m s w := by
  unfold rfo
  split
  · split
    · decide
    · split <;> decide
  · decide
/-- why a place of a row isn't there -/
def rfp (m : Mem) (s i : Int) : Int := if rfo m s 2 = 0 then (if 0 ≤ i ∧ i < m 76 s then 0 else -13) else rfo m s 2
theorem rfo_0 {s w : Int} (h : rfo m s w = 0) : (0 ≤ s ∧ s < 6) ∧ m 73 s = w ∧ ¬ m 73 s = 0 := by
  unfold rfo at h
  by_cases h1 : 0 ≤ s ∧ s < 6
  · rw [if_pos h1] at h
    by_cases h2 : m 73 s = 0
    · rw [if_pos h2] at h; exact absurd h (by decide)
    · rw [if_neg h2] at h
      by_cases h3 : m 73 s = w
      · exact ⟨h1, h3, h2⟩
      · rw [if_neg h3] at h; exact absurd h (by decide)
  · rw [if_neg h1] at h; exact absurd h (by decide)
theorem row_f (hI : IS m) {s : Int} (h : rfo m s 2 = 0) : (0 ≤ s ∧ s < 6) ∧ m 73 s = 2 ∧ m 117 s = -2 - m 75 s ∧ 0 ≤ m 75 s ∧ m 75 s ≤ 4 ∧ 0 ≤ m 76 s ∧ m 76 s ≤ 60 ∧ m 118 s = m 76 s ∧ (m 75 s = 1 → ∀ i : Int, 0 ≤ i → i < 60 → -32768 ≤ m (78 + s) i ∧ m (78 + s) i ≤ 32767) := by
  obtain ⟨h1, h2, h3⟩ := rfo_0 h
  refine ⟨h1, h2, ?_⟩
  rcases (hI.2.2.2 s h1.1 h1.2).1 with h | h | h
  · omega
  · omega
  · exact h.2
theorem eS_reaches {s i k : Int} (hs : 0 ≤ s ∧ s < 6) (hm : 0 ≤ m 76 s ∧ m 76 s ≤ 60) (hi : w32 i = i) (hk : w32 k = k) (h : Q (bz (0 ≤ i ∧ 0 ≤ k ∧ i + k ≤ m 76 s)) sw m) : M2 X 1 mS_reaches [vr 72, vi s, vi i, vi k] sw m Q := by
  have es : w32 s = s := w32_id (by omega) (by omega)
  have hkb := w32_b k
  refine wS_reaches _ _ _ _ _ _ ?_
  rw [es, hi, hk]
  unfold bz at h
  refine ⟨fun c => ?_, fun c => ⟨fun c2 => ?_, fun c2 => ⟨hs, fun c3 => ?_, fun c3 => ?_⟩⟩⟩
  · rwa [if_neg (by omega)] at h
  · rwa [if_neg (by omega)] at h
  · rw [w32_id (by omega) (by omega)] at c3
    rwa [if_neg (by omega)] at h
  · rw [w32_id (by omega) (by omega)] at c3
    rwa [if_pos (by omega)] at h
theorem eS_refusalOfPlace {a i : Int} (ha : w32 a = a) (hi : w32 i = i) (hI : IS m) (h : Q (rfp m a i) sw m) : M2 X 3 mS_refusalOfPlace [vr 72, vi a, vi i] sw m Q := by
  refine wS_refusalOfPlace _ _ _ _ _ (eS_refusalOf ha (by decide) hI ?_)
  rw [rfo_w]
  unfold rfp at h
  refine ⟨fun c => ?_, fun c => ?_⟩
  · rwa [if_neg c] at h
  · have c := Decidable.not_not.mp c
    have hr := row_f hI c
    rw [if_pos c] at h
    refine eS_reaches hr.1 ⟨hr.2.2.2.2.2.1, hr.2.2.2.2.2.2.1⟩ hi (by decide) ?_
    rw [bz_w, bz_0]
    refine ⟨fun c2 => ?_, fun c2 => ?_⟩
    · rw [if_pos (by omega)] at h
      rw [c]; exact h
    · rwa [if_neg (by omega)] at h
theorem eS_sizeOf {a : Int} (ha : w32 a = a) (hI : IS m) (h : Q (if rfo m a 2 = 0 then m 76 a else 0) sw m) : M2 X 3 mS_sizeOf [vr 72, vi a] sw m Q := by
  refine wS_sizeOf _ _ _ _ (eS_refusalOf ha (by decide) hI ?_)
  rw [rfo_w, ha]
  refine ⟨fun c => ?_, fun c => ?_⟩
  · rwa [if_neg c] at h
  · have c := Decidable.not_not.mp c
    rw [if_pos c] at h
    exact ⟨(rfo_0 c).1, h⟩
theorem rfp_w (m : Mem) (s i : Int) : w32 (rfp m s i) = rfp m s i := by
  unfold rfp
  split
  · split <;> decide
  · exact rfo_w m s 2
theorem rfp_0 {s i : Int} (h : rfp m s i = 0) : rfo m s 2 = 0 ∧ 0 ≤ i ∧ i < m 76 s := by
  unfold rfp at h
  by_cases h1 : rfo m s 2 = 0
  · rw [if_pos h1] at h
    by_cases h2 : 0 ≤ i ∧ i < m 76 s
    · exact ⟨h1, h2⟩
    · rw [if_neg h2] at h; exact absurd h (by decide)
  · rw [if_neg h1] at h; exact absurd h h1
theorem eS_cell {a i : Int} (ha : w32 a = a) (hi : w32 i = i) (hI : IS m) (h : Q (if rfp m a i = 0 then m (78 + a) i else 0) sw m) : M2 X 4 mS_cell [vr 72, vi a, vi i] sw m Q := by
  refine wS_cell _ _ _ _ _ (eS_refusalOfPlace ha hi hI ?_)
  rw [rfp_w, ha, hi]
  refine ⟨fun c => ?_, fun c => ?_⟩
  · rwa [if_neg c] at h
  · have c := Decidable.not_not.mp c
    rw [if_pos c] at h
    have hp := rfp_0 c
    have hr := row_f hI hp.1
    exact ⟨hr.1, ⟨by omega, by omega⟩, h⟩
theorem eY_whyNoPlace {a i : Int} (ha : w32 a = a) (hi : w32 i = i) (hI : IS m) (h : Q (rfp m a i) sw m) : M2 X 3 mY_whyNoPlace [vr 84, vi a, vi i] sw m Q := by
  refine wY_whyNoPlace _ _ _ _ _ (eY_isShelf ha ?_)
  rw [ha, bz_w, bz_0]
  refine ⟨fun c => ?_, fun c => ?_⟩
  · have c : 0 ≤ a ∧ a < 6 := Decidable.not_not.mp c
    have hb := (hI.2.2.2 a c.1 c.2).1
    have hI2 := hI.2.1
    rw [w32_id (z := m 117 a) (by omega) (by omega)]
    refine ⟨c, fun c2 => ⟨c, fun c3 => ⟨c, ?_⟩, fun c3 => ?_⟩, fun c2 => ?_⟩
    · have e2 : m 73 a = 2 := by omega
      have e1 : rfo m a 2 = 0 := by unfold rfo; rw [if_pos c, if_neg (by omega), if_pos e2]
      unfold rfp at h
      rw [if_pos e1] at h
      refine eY_in hi (by decide) (w32_id (by omega) (by omega)) ?_
      rw [bz_w, bz_0]
      refine ⟨fun c4 => ?_, fun c4 => ?_⟩
      · rwa [if_neg (by omega)] at h
      · rwa [if_pos (by omega)] at h
    · have e1 : rfo m a 2 = -12 := by unfold rfo; rw [if_pos c, if_neg (by omega), if_neg (by omega)]
      unfold rfp at h
      rw [if_neg (by omega), e1] at h
      exact h
    · have e1 : rfo m a 2 = -11 := by unfold rfo; rw [if_pos c, if_pos (by omega)]
      unfold rfp at h
      rw [if_neg (by omega), e1] at h
      exact h
  · have c : ¬ (0 ≤ a ∧ a < 6) := Decidable.not_not.mp c
    have e1 : rfo m a 2 = -1 := by unfold rfo; rw [if_neg c]
    unfold rfp at h
    rw [if_neg (by omega), e1] at h
    exact h
theorem pr_element {a i : Int} (ha : w32 a = a) (hi : w32 i = i) (hI : IS m) {QQ : Int → Int → Bool → Mem → Prop} (h : ∀ z, QQ z z sw m) : M2 X 5 mZ_element [vr 1, vi a, vi i] sw m (fun z1 sw1 m1 => M2 X 4 mY_element [vr 84, vi a, vi i] sw1 m1 (fun z2 sw2 m2 => QQ z1 z2 sw2 m2)) := by
  refine wZ_element _ _ _ _ _ (eS_refusalOfPlace ha hi hI ?_)
  rw [rfp_w]
  refine ⟨fun c => ?_, fun c => ?_⟩
  · refine wY_element _ _ _ _ _ (eY_whyNoPlace ha hi hI ?_)
    rw [rfp_w]
    refine ⟨fun c2 => ?_, fun c2 => h _⟩
    exfalso
    unfold rfp rfo at c c2
    repeat' split at c
    all_goals omega
  · have c := Decidable.not_not.mp c
    refine eS_cell ha hi hI ?_
    rw [if_pos c]
    refine wY_element _ _ _ _ _ (eY_whyNoPlace ha hi hI ?_)
    rw [rfp_w, c]
    have hp := rfp_0 c
    have hr := row_f hI hp.1
    refine ⟨fun c2 => ?_, fun c2 => absurd (Int.le_refl 0) c2⟩
    rw [w32_id (by omega) (by omega), (hI.2.2.2 a hr.1.1 hr.1.2).2 i (by omega) (by omega)]
    exact ⟨⟨by omega, by omega⟩, h _⟩
end SH
