/-! paths: the class follows them -/
def shp (m : Mem) : Sh := fun p => ((m 4 (p : Int)).toNat, decide (m 5 (p : Int) = 1), m 7 (p : Int))
def PD (S : Sh) (p : Nat) (m : Mem) : Prop := (∀ q : Nat, q < p → ∀ s : Nat, s < 2 ^ (q + 1) → m (25 + (q : Int)) (s : Int) = gm S s q) ∧ ∀ s : Nat, s < 2 ^ p → m 34 (s : Int) = (go S s p : Int) ∧ m 35 (s : Int) = (sk S s p : Int)
def PO (S : Sh) (n : Nat) (m : Mem) : Prop := m 23 5 = ((2 ^ n : Nat) : Int) ∧ PD S n m ∧ ∀ s : Nat, s < 2 ^ n → m 36 (s : Int) = en S n s
def FrP (m m' : Mem) : Prop := ∀ c j : Int, ¬ (c = 23 ∧ (j = 5 ∨ j = 6)) → ¬ (25 ≤ c ∧ c ≤ 36) → m' c j = m c j
theorem FrP.rf (m : Mem) : FrP m m := fun _ _ _ _ => rfl
theorem FrP.tr {m1 m2 m3 : Mem} (h : FrP m1 m2) (g : FrP m2 m3) : FrP m1 m3 := fun c j a b => (g c j a b).trans (h c j a b)
theorem FrP.up {m : Mem} {k i v : Int} (h : (k = 23 ∧ (i = 5 ∨ i = 6)) ∨ (25 ≤ k ∧ k ≤ 36)) : FrP m (upm m k i v) := fun c j a b => upm_ne (by omega)
def FrQ (m m' : Mem) : Prop := ∀ c j : Int, ¬ (25 ≤ c ∧ c ≤ 36) → m' c j = m c j
theorem FrQ.rf (m : Mem) : FrQ m m := fun _ _ _ => rfl
theorem FrQ.tr {m1 m2 m3 : Mem} (h : FrQ m1 m2) (g : FrQ m2 m3) : FrQ m1 m3 := fun c j b => (g c j b).trans (h c j b)
theorem FrQ.up {m : Mem} {k i v : Int} (h : 25 ≤ k ∧ k ≤ 36) : FrQ m (upm m k i v) := fun c j b => upm_ne (by omega)
theorem FrQ.p {m m' : Mem} (h : FrQ m m') : FrP m m' := fun c j _ b => h c j b
theorem FrP.ik {m m' : Mem} (f : FrP m m') (h : IK m) : IK m' := h.fr (fun c j q => f c j (by unfold DK at q; omega) (by unfold DK at q; omega))
theorem shp_eq {m m' : Mem} (h : ∀ c j : Int, c = 4 ∨ c = 5 ∨ c = 7 → m' c j = m c j) : shp m' = shp m := by
  funext p
  show ((m' 4 (p : Int)).toNat, decide (m' 5 (p : Int) = 1), m' 7 (p : Int)) = ((m 4 (p : Int)).toNat, decide (m 5 (p : Int) = 1), m 7 (p : Int))
  rw [h 4 _ (by omega), h 5 _ (by omega), h 7 _ (by omega)]
theorem PO.fr {S : Sh} {n : Nat} {m m' : Mem} (h : PO S n m) (f : ∀ c j : Int, (c = 23 ∧ j = 5) ∨ (25 ≤ c ∧ c ≤ 36) → m' c j = m c j) (hn : n ≤ 9) : PO S n m' := by
  obtain ⟨h1, ⟨h2, h3⟩, h4⟩ := h
  refine ⟨by rw [f 23 5 (by omega)]; exact h1, ⟨fun q hq s hs => by rw [f _ _ (by omega)]; exact h2 q hq s hs, fun s hs => ?_⟩, fun s hs => by rw [f _ _ (by omega)]; exact h4 s hs⟩
  rw [f 34 _ (by omega), f 35 _ (by omega)]
  exact h3 s hs
theorem p2_nat (p : Nat) : p2 (p : Int) = ((2 ^ p : Nat) : Int) := rfl
theorem IK.sh {m : Mem} {n p : Nat} (hI : IK m) (hn : m 2 3 = (n : Int)) (hp : p < n) : m 4 (p : Int) = ((shp m p).1 : Int) ∧ (shp m p).1 < 2 ^ p ∧ (m 5 (p : Int) = if (shp m p).2.1 = true then 1 else 0) ∧ m 7 (p : Int) = (shp m p).2.2 ∧ 1 ≤ (shp m p).2.2 ∧ (shp m p).2.2 ≤ 60 := by
  obtain ⟨a, b, -, d, -⟩ := hI.pt (p := (p : Int)) (by omega) (by omega)
  rw [p2_nat] at a
  have e : (shp m p).1 = (m 4 (p : Int)).toNat := rfl
  have e2 : (shp m p).2.1 = decide (m 5 (p : Int) = 1) := rfl
  refine ⟨by omega, by omega, ?_, rfl, d.2.1, d.2.2⟩
  rw [e2]
  by_cases c : m 5 (p : Int) = 1
  · rw [c]; rfl
  · rw [show m 5 (p : Int) = 0 by omega]; rfl
theorem IK.tk {m : Mem} {n : Nat} (hI : IK m) (hn : m 2 3 = (n : Int)) : Tk (shp m) n := fun p hp => (hI.sh hn hp).2.2.2.2
theorem wtl_zero {Y : Bool} {g : Nat → Int} : ∀ (f q : Nat) (t : Int), wtl 0 Y g f q t = t
  | 0, _, _ => rfl
  | f + 1, q, t => by
    unfold wtl
    rw [if_pos (Nat.zero_testBit q)]
    exact wtl_zero f (q + 1) t
section PC
variable {X : Cx} {sw : Bool} {m : Mem} {Q : Int → Bool → Mem → Prop}
theorem eP_minuteOf {s p n : Nat} {v : Int} (hI : IK m) (hn : m 2 3 = (n : Int)) (hp : p < n) (hs : s < 512) (hv : m (25 + (p : Int)) ((s % 2 ^ (p + 1) : Nat) : Int) = v) (h : Q v sw m) : M2 X 2 mP_minuteOf [vr 23, vi (s : Int), vi (p : Int)] sw m Q := by
  have h9 := hI.2.1
  have ep : Unit → w32 (p : Int) = (p : Int) := fun _ => w32_id (by omega) (by omega)
  refine wP_minuteOf _ _ _ _ _ (eK_has (ep ()) hI ?_)
  have h5 := p9 (k := p + 1) (by omega)
  have h6 := Nat.mod_lt s (show 0 < 2 ^ (p + 1) by omega)
  rw [bz_w, bz_0, zshl_two (by omega), mask_z (by omega) (by omega), ep (), w32_id (z := ((s % 2 ^ (p + 1) : Nat) : Int)) (by omega) (by omega), hv]
  exact ⟨fun q => absurd ⟨by omega, by omega⟩ q, fun _ => ⟨by omega, by omega, h⟩⟩
theorem eP_minute0 {a : Int} (hI : IK m) (hn : m 2 3 = 0) (h : Q (-1) sw m) : M2 X 2 mP_minuteOf [vr 23, vi a, vi (-1)] sw m Q := by
  refine wP_minuteOf _ _ _ _ _ (eK_has (by decide) hI ?_)
  rw [bz_w, bz_0]
  exact ⟨fun _ => h, fun q => by omega⟩
theorem lP_start74 {A C p s n : Nat} {Y : Bool} {g : Nat → Int} {x4 : Int} (hI : IK m) (hn : m 2 3 = (n : Int)) (hp : p < n) (hs : s < 512) (hx : x4 = if Y = true then 1 else 0) (hC : C < 2 ^ p) (hC0 : ¬ C = 0) (hCb : ∀ q, q < p → C.testBit q = (A.testBit q && decide (0 ≤ g q))) (hall : Y = false → ∀ q, q < p → A.testBit q = true → 0 ≤ g q) (hg : ∀ q : Nat, q < p → m (25 + (q : Int)) ((s % 2 ^ (q + 1) : Nat) : Int) = g q ∧ g q ≤ 540) (h : Q (wtl A Y g p 0 (-1)) sw m) : R2 X 3 mP_startOf 74 [(0, vr 23), (1, vi (p : Int)), (2, vi (s : Int)), (4, vi x4), (5, vi (C : Int)), (6, vi 2147483647), (7, vi 0), (8, vi 0)] [] sw m Q := by
  have h9 := hI.2.1
  have hpp := p9 (k := p) (by omega)
  have ep : Unit → w32 (p : Int) = (p : Int) := fun _ => w32_id (by omega) (by omega)
  have key : ∀ k : Nat, k ≤ p → ∀ t F L : Int, ((t = -1 ∧ F = 2147483647 ∧ L = 0 ∧ ∀ q, q < k → C.testBit q = false) ∨ (0 ≤ t ∧ (0 ≤ F ∧ F ≤ 540) ∧ (0 ≤ L ∧ L ≤ 540) ∧ t = if Y = true then F else L)) → Q (wtl A Y g (p - k) k t) sw m → R2 X 3 mP_startOf 74 [(0, vr 23), (1, vi (p : Int)), (2, vi (s : Int)), (4, vi x4), (5, vi (C : Int)), (6, vi F), (7, vi L), (8, vi (k : Int))] [] sw m Q := by
    refine downN p (fun t F L hR hq => ?_) (fun k hk ih t F L hR hq => ?_)
    · rw [Nat.sub_self] at hq
      have hq : Q t sw m := hq
      refine wP_startOf_74 _ _ _ _ _ _ _ _ _ _ ?_
      refine ⟨fun _ => ?_, fun c => absurd (Int.le_refl _) c⟩
      rcases hR with ⟨r1, r2, r3, r4⟩ | ⟨r1, r2, r3, r4⟩
      · exfalso
        apply hC0
        apply Nat.eq_of_testBit_eq
        intro q
        rw [Nat.zero_testBit]
        by_cases c : q < p
        · exact r4 q c
        · exact Nat.testBit_lt_two_pow (Nat.lt_of_lt_of_le hC (Nat.pow_le_pow_right (by decide) (by omega)))
      · rw [hx]
        cases Y with
        | true => exact ⟨fun c => absurd c (by decide), fun _ => by rw [r4] at hq; exact hq⟩
        | false => exact ⟨fun _ => by rw [r4] at hq; exact hq, fun c => absurd (by decide) c⟩
    · have ek : Unit → w32 (k : Int) = (k : Int) := fun _ => w32_id (by omega) (by omega)
      have hgk := hg k hk
      have hb := hCb k hk
      rw [show p - k = (p - (k + 1)) + 1 by omega] at hq
      unfold wtl at hq
      refine wP_startOf_74 _ _ _ _ _ _ _ _ _ _ ?_
      rw [ep (), ek (), bit_z (by omega) (by omega)]
      refine ⟨fun c => by omega, fun _ => ⟨fun c => ?_, fun c => ?_⟩⟩
      · have cb : C.testBit k = false := by
          cases hcb : C.testBit k with
          | false => rfl
          | true => rw [hcb] at c; exact absurd (by decide) c
        rw [cb] at hb
        refine ih t F L ?_ ?_
        · rcases hR with ⟨r1, r2, r3, r4⟩ | r
          · refine Or.inl ⟨r1, r2, r3, fun q hq => ?_⟩
            by_cases cq : q = k
            · rw [cq]; exact cb
            · exact r4 q (by omega)
          · exact Or.inr r
        · by_cases ca : A.testBit k = false
          · rw [if_pos ca] at hq; exact hq
          · have ca1 : A.testBit k = true := by simpa using ca
            rw [ca1] at hb
            have hneg : g k < 0 := by simpa using hb
            rw [if_neg ca, if_pos hneg] at hq
            by_cases cy : Y = true
            · rw [if_pos cy] at hq; exact hq
            · have := hall (by simpa using cy) k hk ca1
              omega
      · have cb : C.testBit k = true := by
          cases hcb : C.testBit k with
          | true => rfl
          | false => rw [hcb] at c; exact absurd (by decide) c
        rw [cb] at hb
        have hb' : A.testBit k = true ∧ 0 ≤ g k := by
          have := hb.symm
          rw [Bool.and_eq_true, decide_eq_true_eq] at this
          exact this
        rw [if_neg (by rw [hb'.1]; decide), if_neg (by omega)] at hq
        refine eP_minuteOf hI hn (by omega) hs hgk.1 ?_
        have eg : Unit → w32 (g k) = g k := fun _ => w32_id (by omega) (by omega)
        rw [eg ()]
        refine ih _ _ _ (Or.inr ?_) hq
        rcases hR with ⟨r1, r2, r3, r4⟩ | ⟨r1, r2, r3, r4⟩
        · have e1 : Unit → min (w32 F) (g k) = g k := fun _ => by rw [r2, w32_id (by omega) (by omega)]; omega
          have e2 : Unit → max (w32 L) (g k) = g k := fun _ => by rw [r3, w32_id (by omega) (by omega)]; omega
          rw [e1 (), e2 (), if_pos (Or.inl (by omega))]
          refine ⟨hb'.2, ⟨hb'.2, hgk.2⟩, ⟨hb'.2, hgk.2⟩, ?_⟩
          split <;> rfl
        · have e1 : Unit → w32 F = F := fun _ => w32_id (by omega) (by omega)
          have e2 : Unit → w32 L = L := fun _ => w32_id (by omega) (by omega)
          rw [e1 (), e2 ()]
          cases Y with
          | true =>
            have r4 : t = F := r4
            refine ⟨?_, by omega, by omega, ?_⟩
            · split <;> omega
            · show _ = min F (g k)
              simp only [if_true]
              split <;> omega
          | false =>
            have r4 : t = L := r4
            refine ⟨?_, by omega, by omega, ?_⟩
            · split <;> omega
            · show _ = max L (g k)
              simp only [Bool.false_eq_true, if_false]
              split <;> omega
  exact key 0 (Nat.zero_le _) (-1) 2147483647 0 (Or.inl ⟨rfl, rfl, rfl, fun q hq => absurd hq (Nat.not_lt_zero _)⟩) h
theorem eP_startOf {n p s : Nat} (hI : IK m) (hn : m 2 3 = (n : Int)) (hp : p < n) (hs : s < 2 ^ p) (hrow : ∀ q : Nat, q < p → ∀ s : Nat, s < 2 ^ (q + 1) → m (25 + (q : Int)) (s : Int) = gm (shp m) s q) (hgo : m 34 (s : Int) = (go (shp m) s p : Int)) (h : Q (ws (shp m) s p) sw m) : M2 X 3 mP_startOf [vr 23, vi (p : Int), vi (s : Int)] sw m Q := by
  have h9 := hI.2.1
  have hpp := p9 (k := p) (by omega)
  have hT := hI.tk hn
  obtain ⟨s1, s2, s3, s4, s5⟩ := hI.sh hn hp
  have hgl := go_lt (shp m) s p
  have hgb := go_bit (shp m) s p
  have hws : ws (shp m) s p = wtl (shp m p).1 (shp m p).2.1 (gm (shp m) s) p 0 (if (shp m p).1 = 0 then 0 else -1) := rfl
  rw [hws] at h
  have hgm : ∀ q : Nat, q < p → m (25 + (q : Int)) ((s % 2 ^ (q + 1) : Nat) : Int) = gm (shp m) s q ∧ gm (shp m) s q ≤ 540 := fun q hq => by
    have h5 := p9 (k := q + 1) (by omega)
    have h6 := Nat.mod_lt s (show 0 < 2 ^ (q + 1) by omega)
    rw [hrow q hq _ h6, gm_mod]
    exact ⟨rfl, (gm_b2 hT (by omega) s (by omega)).2⟩
  generalize gm (shp m) s = g at h hgb hgm
  generalize go (shp m) s p = G at hgo hgl hgb
  generalize (shp m p).1 = A at h s1 s2
  generalize (shp m p).2.1 = Y at h s3
  have hAG : A &&& G ≤ A := Nat.and_le_left
  have hCb : ∀ q, q < p → (A &&& G).testBit q = (A.testBit q && decide (0 ≤ g q)) := fun q hq => by
    rw [Nat.testBit_and, hgb]; simp [hq]
  refine wP_startOf _ _ _ _ _ (eK_told (by omega) (by decide) (eK_told (by omega) (by decide) ?_))
  rw [show m (4 + 0) (p : Int) = m 4 (p : Int) from rfl, show m (4 + 1) (p : Int) = m 5 (p : Int) from rfl, w32_id (z := (s : Int)) (by omega) (by omega), hgo, s1, s3, zand_nat (by omega) (by omega), w32_id (z := (A : Int)) (by omega) (by omega), w32_id (z := ((A &&& G : Nat) : Int)) (by omega) (by omega)]
  have bad : ∀ q, q < p → A.testBit q = true → (A &&& G).testBit q = false → g q < 0 := fun q hq h1 h2 => by
    rw [hCb q hq, h1] at h2
    simpa using h2
  have lt_of : ∀ q, A.testBit q = true → q < p := fun q hq => by
    by_cases c : q < p
    · exact c
    · rw [Nat.testBit_lt_two_pow (Nat.lt_of_lt_of_le s2 (Nat.pow_le_pow_right (by decide) (by omega)))] at hq
      exact absurd hq (by decide)
  cases Y with
  | true =>
    refine ⟨fun c => absurd (by decide) c, fun _ => ⟨by omega, fun c => ⟨fun c2 => ?_, fun c2 => ?_⟩, fun c => ?_⟩⟩
    · rw [if_neg (by omega), wtl_none] at h
      · exact h
      · intro q' _ hq' hA
        refine bad q' (by omega) hA ?_
        rw [show A &&& G = 0 by omega, Nat.zero_testBit]
    · rw [if_neg (by omega)] at h
      exact lP_start74 hI hn hp (by omega) rfl (by omega) (by omega) hCb (fun q => absurd q (by decide)) hgm h
    · rw [show A = 0 by omega, if_pos rfl, wtl_zero] at h
      exact h
  | false =>
    refine ⟨fun _ => ⟨by omega, fun c => ⟨fun c2 => ?_, fun c2 => ⟨fun c3 => ?_, fun c3 => ?_⟩⟩, fun c => ?_⟩, fun c => absurd (by decide) c⟩
    · rw [if_neg (by omega), wtl_never] at h
      · exact h
      · obtain ⟨q, hq⟩ := Nat.exists_testBit_of_ne_zero (x := A) (by omega)
        exact ⟨q, Nat.zero_le _, by have := lt_of q hq; omega, hq, bad q (lt_of q hq) hq (by rw [show A &&& G = 0 by omega, Nat.zero_testBit])⟩
    · rw [if_neg (by omega)] at h
      have e : A &&& G = A := by omega
      refine lP_start74 hI hn hp (by omega) rfl (by omega) (by omega) hCb (fun _ q hq hA => ?_) hgm h
      have := hCb q hq
      rw [e, hA] at this
      simpa using this.symm
    · rw [if_neg (by omega), wtl_never] at h
      · exact h
      · obtain ⟨q, hq⟩ := Nat.exists_testBit_ne_of_ne (x := A) (y := A &&& G) (by omega)
        have hA : A.testBit q = true := by
          cases hA : A.testBit q with
          | true => rfl
          | false => rw [Nat.testBit_and, hA] at hq; exact absurd rfl hq
        refine ⟨q, Nat.zero_le _, by have := lt_of q hA; omega, hA, bad q (lt_of q hA) hA ?_⟩
        cases hx : (A &&& G).testBit q with
        | false => rfl
        | true => rw [hA, hx] at hq; exact absurd rfl hq
    · rw [show A = 0 by omega, if_pos rfl, wtl_zero] at h
      exact h
/-- so many sets of less number done -/
def PF (S : Sh) (p k : Nat) (m : Mem) : Prop := (∀ q : Nat, q < p → ∀ s : Nat, s < 2 ^ (q + 1) → m (25 + (q : Int)) (s : Int) = gm S s q) ∧ (∀ s : Nat, s < 2 ^ p → m 34 (s : Int) = (go S s p : Int) ∧ (s < k → m 35 (s : Int) = (sk S s (p + 1) : Int)) ∧ (k ≤ s → m 35 (s : Int) = (sk S s p : Int))) ∧ ∀ s : Nat, s < k → m (25 + (p : Int)) (s : Int) = gm S s p ∧ m (25 + (p : Int)) ((s + 2 ^ p : Nat) : Int) = gm S (s + 2 ^ p) p ∧ m 34 ((s + 2 ^ p : Nat) : Int) = (go S (s + 2 ^ p) (p + 1) : Int) ∧ m 35 ((s + 2 ^ p : Nat) : Int) = (sk S (s + 2 ^ p) (p + 1) : Int)
theorem PF.z {S : Sh} {p : Nat} (h : PD S p m) : PF S p 0 m := ⟨h.1, fun s hs => ⟨(h.2 s hs).1, fun q => absurd q (Nat.not_lt_zero _), fun _ => (h.2 s hs).2⟩, fun s hs => absurd hs (Nat.not_lt_zero _)⟩
theorem PF.e {S : Sh} {p : Nat} (h : PF S p (2 ^ p) m) : PD S (p + 1) m := by
  obtain ⟨h1, h2, h3⟩ := h
  have e := p2s p
  have up : ∀ s : Nat, ¬ s < 2 ^ p → s < 2 ^ (p + 1) → s - 2 ^ p < 2 ^ p ∧ s - 2 ^ p + 2 ^ p = s := fun s a b => by omega
  refine ⟨fun q hq s hs => ?_, fun s hs => ?_⟩
  · by_cases c : q < p
    · exact h1 q c s hs
    · have c : q = p := by omega
      subst c
      by_cases c2 : s < 2 ^ q
      · exact (h3 s c2).1
      · have := up s c2 hs
        have h4 := (h3 (s - 2 ^ q) this.1).2.1
        rw [this.2] at h4
        exact h4
  · by_cases c2 : s < 2 ^ p
    · rw [go_without c2]
      exact ⟨(h2 s c2).1, (h2 s c2).2.1 c2⟩
    · have := up s c2 hs
      have h4 := (h3 (s - 2 ^ p) this.1).2.2
      rw [this.2] at h4
      exact h4
theorem lP_one {S : Sh} {n p : Nat} {T : Int} (hI : IK m) (hn : m 2 3 = (n : Int)) (hS : S = shp m) (hp : p < n) (hTe : T = (S p).2.2) (h : ∀ m2, FrQ m m2 → PD S (p + 1) m2 → Q 0 sw m2) : ∀ k : Nat, k ≤ 2 ^ p → ∀ m1, FrQ m m1 → PF S p k m1 → R2 X 4 mP_followOne 17 [(0, vr 23), (1, vi (p : Int)), (2, vi T), (3, vi ((2 ^ p : Nat) : Int)), (4, vi (k : Int))] [] sw m1 Q := by
  have h9 := hI.2.1
  have hpp := p9 (k := p) (by omega)
  have hpp1 := p9 (k := p + 1) (by omega)
  have e2p := p2s p
  have hT := hI.tk hn
  rw [← hS] at hT
  have ep : Unit → w32 (p : Int) = (p : Int) := fun _ => w32_id (by omega) (by omega)
  have e2 : Unit → w32 ((2 ^ p : Nat) : Int) = ((2 ^ p : Nat) : Int) := fun _ => w32_id (by omega) (by omega)
  refine downN (2 ^ p) (fun m1 hF hP => ?_) (fun k hk ih m1 hF hP => ?_)
  · exact wP_followOne_17 _ _ _ _ _ _ _ ⟨fun _ => h m1 hF hP.e, fun q => absurd (Int.le_refl _) q⟩
  · obtain ⟨h1, h2, h3⟩ := hP
    have hS1 : shp m1 = S := by rw [hS]; exact shp_eq (fun c j q => hF c j (by omega))
    have hgo := (h2 k hk).1
    have hsk := (h2 k hk).2.2 (Nat.le_refl k)
    have hgl := go_lt S k p
    have hsl := sk_lt S k p
    have ek : Unit → w32 (k : Int) = (k : Int) := fun _ => w32_id (by omega) (by omega)
    have ekk : (k : Int) + ((2 ^ p : Nat) : Int) = ((k + 2 ^ p : Nat) : Int) := by omega
    have ek2 : Unit → w32 ((k + 2 ^ p : Nat) : Int) = ((k + 2 ^ p : Nat) : Int) := fun _ => w32_id (by omega) (by omega)
    have fin : ∀ bit v : Int, bit = (if 0 ≤ ws S k p then ((2 ^ p : Nat) : Int) else 0) → v = gm S (k + 2 ^ p) p → R2 X 4 mP_followOne 17 [(0, vr 23), (1, vi (p : Int)), (2, vi T), (3, vi ((2 ^ p : Nat) : Int)), (4, vi ((k : Int) + 1))] [] sw (upm (upm (upm (upm (upm m1 (25 + (p : Int)) (k : Int) (-1)) (25 + (p : Int)) ((k + 2 ^ p : Nat) : Int) v) 34 ((k + 2 ^ p : Nat) : Int) (zor (m1 34 (k : Int)) bit)) 35 ((k + 2 ^ p : Nat) : Int) (m1 35 (k : Int))) 35 (k : Int) (zor (m1 35 (k : Int)) bit)) Q := by
      intro bit v hb hv
      have hz1 : zor (m1 34 (k : Int)) bit = (go S (k + 2 ^ p) (p + 1) : Int) := by
        rw [go_with hT hp hk, hgo, hb]
        by_cases c : 0 ≤ ws S k p
        · rw [if_pos c, if_pos c, zor_nat (by omega) (by omega)]
        · rw [if_neg c, if_neg c]
          exact zor_nat (b := 0) (by omega) (by decide)
      have hz2 : zor (m1 35 (k : Int)) bit = (sk S k (p + 1) : Int) := by
        rw [sk_without hk, hsk, hb]
        by_cases c : 0 ≤ ws S k p
        · rw [if_pos c, if_pos c, zor_nat (by omega) (by omega)]
        · rw [if_neg c, if_neg c]
          exact zor_nat (b := 0) (by omega) (by decide)
      rw [hz1, hz2]
      refine ih _ (hF.tr (((((FrQ.up (by omega)).tr (FrQ.up (by omega))).tr (FrQ.up (by omega))).tr (FrQ.up (by omega))).tr (FrQ.up (by omega)))) ⟨fun q hq s hs => ?_, fun s hs => ⟨?_, fun c => ?_, fun c => ?_⟩, fun s hs => ?_⟩
      · have hq5 := p9 (k := q + 1) (by omega)
        simp (disch := omega) only [upm_row]
        exact h1 q hq s hs
      · simp (disch := omega) only [upm_row, upm_ne]
        exact (h2 s hs).1
      · by_cases c2 : s = k
        · subst c2
          rw [upm_at, if_pos rfl]
        · simp (disch := omega) only [upm_row, upm_ne]
          exact (h2 s hs).2.1 (by omega)
      · simp (disch := omega) only [upm_row, upm_ne]
        exact (h2 s hs).2.2 (by omega)
      · by_cases c2 : s = k
        · subst c2
          refine ⟨?_, ?_, ?_, ?_⟩
          · simp (disch := omega) only [upm_row, upm_ne]
            rw [upm_at, if_pos rfl, gm_without hk]
          · simp (disch := omega) only [upm_row]
            rw [upm_at, if_pos rfl, hv]
          · simp (disch := omega) only [upm_row]
            rw [upm_at, if_pos rfl]
          · simp (disch := omega) only [upm_ne]
            rw [upm_at, if_pos rfl, sk_with hk]; exact hsk
        · simp (disch := omega) only [upm_row, upm_ne]
          exact h3 s (by omega)
    refine wP_followOne_17 _ _ _ _ _ _ _ ?_
    rw [e2 (), ek ()]
    refine ⟨fun c => by omega, fun _ => ?_⟩
    refine eP_startOf (hF.p.ik hI) (n := n) (by rw [hF 2 3 (by omega)]; exact hn) hp hk (by rw [hS1]; exact h1) (by rw [hS1]; exact hgo) ?_
    rw [hS1]
    have hwb := (gm_b hT k p hp).1
    have hgw := gm_with (S := S) hk
    generalize hw0 : ws S k p = w0 at hwb hgw fin
    rw [w32_id (z := w0) (by omega) (by omega), ep (), ekk, ek2 ()]
    simp (disch := omega) only [upm_row, upm_ne]
    refine ⟨fun c => ⟨by omega, by omega, by omega, fun _ => ⟨by omega, by omega, by omega, by omega, by omega, by omega, by omega, ?_⟩, fun q => absurd c q⟩, fun c => ⟨by omega, by omega, by omega, fun q => absurd q c, fun _ => ⟨by omega, by omega, by omega, by omega, by omega, by omega, by omega, ?_⟩⟩⟩
    · exact fin _ _ (by rw [if_pos (by omega)]) (by rw [hgw, if_pos (by omega), hTe])
    · exact fin _ _ (by rw [if_neg (by omega)]) (by rw [hgw, if_neg (by omega)])
theorem eP_followOne {S : Sh} {n p : Nat} (hI : IK m) (hn : m 2 3 = (n : Int)) (hS : S = shp m) (hp : p < n) (hP : PD S p m) (h : ∀ m2, FrQ m m2 → PD S (p + 1) m2 → Q 0 sw m2) : M2 X 4 mP_followOne [vr 23, vi (p : Int)] sw m Q := by
  have h9 := hI.2.1
  refine wP_followOne _ _ _ _ (eK_told (by omega) (by decide) ?_)
  rw [show m (4 + 3) (p : Int) = m 7 (p : Int) from rfl, zshl_one (by omega)]
  refine lP_one hI hn hS hp ?_ h 0 (Nat.zero_le _) m (FrQ.rf m) (PF.z hP)
  rw [hS]; rfl
theorem lP_ends {S : Sh} {n : Nat} (hI : IK m) (hn : m 2 3 = (n : Int)) (hPD : PD S n m) (h5 : m 23 5 = ((2 ^ n : Nat) : Int)) (h : ∀ m2, FrP m m2 → m2 23 6 = m 23 6 → PO S n m2 → Q 0 sw m2) : ∀ k : Nat, k ≤ 2 ^ n → ∀ m1, (∀ c, ¬ c = 36 → m1 c = m c) → (∀ s : Nat, s < k → m1 36 (s : Int) = en S n s) → R2 X 5 mP_follow 85 [(0, vr 23), (1, vi (k : Int))] [] sw m1 Q := by
  have h9 := hI.2.1
  have hpp := p9 (k := n) (by omega)
  have e2 : Unit → w32 ((2 ^ n : Nat) : Int) = ((2 ^ n : Nat) : Int) := fun _ => w32_id (by omega) (by omega)
  refine downN (2 ^ n) (fun m1 hF hE => ?_) (fun k hk ih m1 hF hE => ?_)
  · refine wP_follow_85 _ _ _ _ ?_
    rw [hF 23 (by omega), h5]
    refine ⟨fun _ => h m1 (fun c j _ q => by rw [hF c (by omega)]) (by rw [hF 23 (by omega)]) ⟨by rw [hF 23 (by omega)]; exact h5, ⟨fun q hq s hs => by rw [hF _ (by omega)]; exact hPD.1 q hq s hs, fun s hs => by rw [hF _ (by omega), hF _ (by omega)]; exact hPD.2 s hs⟩, hE⟩, fun q => absurd (Int.le_refl _) q⟩
  · have ek : Unit → w32 (k : Int) = (k : Int) := fun _ => w32_id (by omega) (by omega)
    have hI1 : IK m1 := hI.fr (fun c j q => by unfold DK at q; rw [hF c (by omega)])
    have hn1 : m1 2 3 = (n : Int) := by rw [hF 2 (by omega)]; exact hn
    refine wP_follow_85 _ _ _ _ ?_
    rw [hF 23 (by omega), h5, e2 (), ek ()]
    refine ⟨fun q => by omega, fun _ => ?_⟩
    have nxt : R2 X 5 mP_follow 85 [(0, vr 23), (1, vi ((k : Int) + 1))] [] sw (upm m1 36 (k : Int) (en S n k)) Q := by
      refine ih _ (fun c q => by rw [upm_row q]; exact hF c q) (fun s hs => ?_)
      by_cases c : s = k
      · subst c; rw [upm_at, if_pos rfl]
      · rw [upm_at, if_neg (by omega)]; exact hE s (by omega)
    by_cases c : n = 0
    · subst c
      rw [hn1, show ((0 : Nat) : Int) - 1 = -1 from rfl]
      refine eP_minute0 hI1 hn1 ⟨by omega, ?_⟩
      exact nxt
    · have e : m1 2 3 - 1 = ((n - 1 : Nat) : Int) := by rw [hn1]; omega
      rw [e]
      have e3 : n - 1 + 1 = n := by omega
      refine eP_minuteOf (v := en S n k) hI1 hn1 (by omega) (by omega) ?_ ⟨by omega, nxt⟩
      have e4 : k % 2 ^ (n - 1 + 1) = k := by rw [e3]; exact Nat.mod_eq_of_lt hk
      rw [e4, hF _ (by omega), hPD.1 (n - 1) (by omega) k (by rw [e3]; exact hk)]
      unfold en
      rw [if_neg c]
def IP (m : Mem) : Prop := -1 ≤ m 23 6 ∧ m 23 6 ≤ m 2 5 ∧ m 2 5 ≤ 1000000 ∧ (m 23 6 = m 2 5 → PO (shp m) (m 2 3).toNat m)
theorem eP_follow {n : Nat} (hI : IK m) (hn : m 2 3 = (n : Int)) (hP : IP m) (h : ∀ m2, FrP m m2 → m2 23 6 = m 2 5 → PO (shp m) n m2 → Q 0 sw m2) : M2 X 5 mP_follow [vr 23] sw m Q := by
  have h9 := hI.2.1
  have hpp := p9 (k := n) (by omega)
  obtain ⟨p1, p2_, p3, p4⟩ := hP
  refine wP_follow _ _ _ ?_
  rw [w32_id (z := m 23 6) (by omega) (by omega), w32_id (z := m 2 5) (by omega) (by omega)]
  refine ⟨fun c => ?_, fun c => ?_⟩
  · generalize hm0 : upm (upm (upm (upm m 23 6 (m 2 5)) 23 5 (zshl 1 (m 2 3))) 34 0 0) 35 0 0 = m0
    have hF0 : FrP m m0 := by rw [← hm0]; exact (((FrP.up (by omega)).tr (FrP.up (by omega))).tr (FrP.up (by omega))).tr (FrP.up (by omega))
    have e6 : m0 23 6 = m 2 5 := by
      rw [← hm0]; simp (disch := omega) only [upm_row, upm_ne]; rw [upm_at, if_pos rfl]
    have e5 : m0 23 5 = ((2 ^ n : Nat) : Int) := by
      rw [← hm0]; simp (disch := omega) only [upm_row]; rw [upm_at, if_pos rfl, hn, zshl_one (by omega)]
    have hP0 : PD (shp m) 0 m0 := by
      refine ⟨fun q hq => absurd hq (Nat.not_lt_zero _), fun s hs => ?_⟩
      have : s = 0 := by omega
      subst this
      rw [← hm0]
      refine ⟨?_, ?_⟩
      · rw [upm_row (by omega), show ((0 : Nat) : Int) = 0 from rfl, upm_at, if_pos rfl]; rfl
      · rw [show ((0 : Nat) : Int) = 0 from rfl, upm_at, if_pos rfl]; rfl
    have key : ∀ k : Nat, k ≤ n → ∀ m1, FrP m m1 → m1 23 6 = m 2 5 → m1 23 5 = ((2 ^ n : Nat) : Int) → PD (shp m) k m1 → R2 X 5 mP_follow 55 [(0, vr 23), (1, vi (k : Int))] [] sw m1 Q := by
      have loop : ∀ m1, FrP m m1 → m1 23 6 = m 2 5 → m1 23 5 = ((2 ^ n : Nat) : Int) → PD (shp m) n m1 → R2 X 5 mP_follow 85 [(0, vr 23), (1, vi 0)] [] sw m1 Q := fun m1 hF h6 h5 hPD => by
        refine lP_ends (hF.ik hI) (by rw [hF 2 3 (by omega) (by omega)]; exact hn) hPD h5 (fun m2 f2 g2 hPO => h m2 (hF.tr f2) (g2.trans h6) hPO) 0 (Nat.zero_le _) m1 (fun _ _ => rfl) (fun s hs => absurd hs (Nat.not_lt_zero _))
      refine downN n (fun m1 hF h6 h5 hPD => ?_) (fun k hk ih m1 hF h6 h5 hPD => ?_)
      · refine wP_follow_55 _ _ _ _ ?_
        rw [hF 2 3 (by omega) (by omega), hn]
        exact ⟨fun _ => loop m1 hF h6 h5 hPD, fun q => absurd (Int.le_refl _) q⟩
      · refine wP_follow_55 _ _ _ _ ?_
        rw [hF 2 3 (by omega) (by omega), hn, w32_id (z := (n : Int)) (by omega) (by omega), w32_id (z := (k : Int)) (by omega) (by omega)]
        refine ⟨fun q => by omega, fun _ => ⟨fun q => by omega, fun _ => ?_⟩⟩
        have hS1 : shp m1 = shp m := shp_eq (fun c j q => hF c j (by omega) (by omega))
        refine eP_followOne (S := shp m) (hF.ik hI) (n := n) (by rw [hF 2 3 (by omega) (by omega)]; exact hn) hS1.symm hk hPD (fun m2 f2 hPD2 => ih m2 (hF.tr f2.p) ((f2 23 6 (by omega)).trans h6) ((f2 23 5 (by omega)).trans h5) hPD2)
    exact key 0 (Nat.zero_le _) m0 hF0 e6 e5 hP0
  · have c := Decidable.not_not.mp c
    refine h m (FrP.rf m) c ?_
    have := p4 c
    rw [hn] at this
    exact this
end PC
