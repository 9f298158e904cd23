/-! odds: the model's; fractions in lowest terms -/
def UD (V : Nat → Int) (D : Int) : Us := fun p => if (p : Int) = D then (144 - (12 - V p) * (12 - V p), (12 - V p) * (12 - V p)) else (V p, 12 - V p)
theorem UD_m (V : Nat → Int) : UD V (-1) = U1 V := by
  funext p
  exact if_neg (by omega)
theorem sq_b {x : Int} (h : 0 ≤ x ∧ x ≤ 12) : 0 ≤ x * x ∧ x * x ≤ 144 := by
  have h1 : 0 ≤ x * x := Int.mul_nonneg h.1 h.1
  have h2 : x * x ≤ 12 * 12 := Int.mul_le_mul h.2 h.2 h.1 (by decide)
  exact ⟨h1, by omega⟩
theorem UD_ux {V : Nat → Int} {k : Nat} : UD V (k : Int) = ux (U1 V) k (144 - (12 - V k) * (12 - V k), (12 - V k) * (12 - V k)) := by
  funext p
  by_cases c : p = k
  · subst c; rw [ux_at]; exact if_pos rfl
  · rw [ux_ne c]; exact if_neg (by omega)
theorem od_D {V : Nat → Int} {D : Int} {n s : Nat} (hV : Vb V) (hn : n ≤ 9) : 0 ≤ od (UD V D) n s ∧ od (UD V D) n s ≤ 144 * 5159780352 := by
  by_cases c : ∃ k : Nat, k < n ∧ (k : Int) = D
  · obtain ⟨k, hk, rfl⟩ := c
    have h1 : 0 ≤ od (ux (U1 V) k (1, 1)) n s ∧ od (ux (U1 V) k (1, 1)) n s ≤ 5159780352 := od_9 hn (fun p hp => by
      by_cases c : p = k
      · subst c; rw [ux_at]; exact ⟨⟨by decide, by decide⟩, ⟨by decide, by decide⟩⟩
      · rw [ux_ne c]; exact U1_b hV n p hp)
    have hv := hV k
    have hs := sq_b (x := 12 - V k) (by omega)
    rw [UD_ux, od_ux n hk]
    have hf : 0 ≤ (if s.testBit k = true then (144 - (12 - V k) * (12 - V k), (12 - V k) * (12 - V k)).1 else (144 - (12 - V k) * (12 - V k), (12 - V k) * (12 - V k)).2) ∧ (if s.testBit k = true then (144 - (12 - V k) * (12 - V k), (12 - V k) * (12 - V k)).1 else (144 - (12 - V k) * (12 - V k), (12 - V k) * (12 - V k)).2) ≤ 144 := by
      split
      · show 0 ≤ 144 - (12 - V k) * (12 - V k) ∧ 144 - (12 - V k) * (12 - V k) ≤ 144; omega
      · exact hs
    refine ⟨Int.mul_nonneg h1.1 hf.1, ?_⟩
    rw [Int.mul_comm 144]
    exact Int.mul_le_mul h1.2 hf.2 hf.1 (by decide)
  · have e : od (UD V D) n s = od (U1 V) n s := od_cg n (fun p hp => if_neg (fun q => c ⟨p, hp, q⟩))
    rw [e]
    have := od_9 (s := s) hn (U1_b hV n)
    omega
/-- the model is ready to weigh -/
def MO (S : Sh) (V : Nat → Int) (n : Nat) (D : Int) (m : Mem) : Prop := YS S n m ∧ (∀ p : Nat, p < n → w32 (m 105 (p : Int)) = V p) ∧ m 84 33 = D ∧ -1 ≤ D ∧ D < 9
theorem MO.fr {S : Sh} {V : Nat → Int} {n : Nat} {D : Int} {m m' : Mem} (h : MO S V n D m) (f : ∀ c j : Int, (c = 84 ∧ (j = 1 ∨ j = 33)) ∨ c = 85 ∨ c = 86 ∨ c = 88 ∨ c = 105 → m' c j = m c j) : MO S V n D m' := ⟨h.1.fr (fun c j q => f c j (by omega)), fun p hp => by rw [f 105 _ (by omega)]; exact h.2.1 p hp, by rw [f 84 33 (by omega)]; exact h.2.2.1, h.2.2.2⟩
theorem MO.m2 {S : Sh} {V : Nat → Int} {n : Nat} {D : Int} {m m' : Mem} (h : MO S V n D m) (f : FrM2 m m') : MO S V n D m' := h.fr (fun c j q => f c j (by omega) (by omega))
/-- Euclid's way, so many steps at most -/
def eg : Nat → Int → Int → Int
  | 0, a, _ => a
  | f + 1, a, b => if b = 0 then a else eg f b (a % b)
def dn : Nat → Int → Int → Prop
  | 0, _, b => b = 0
  | f + 1, a, b => b = 0 ∨ dn f b (a % b)
theorem dn_s : ∀ (f : Nat) (a b : Int), dn f a b → dn (f + 1) a b
  | 0, a, b, h => Or.inl h
  | f + 1, a, b, h => by
    rcases h with h | h
    · exact Or.inl h
    · exact Or.inr (dn_s f b (a % b) h)
theorem dn_k : ∀ (k : Nat) (a b : Int), 0 ≤ a → 0 ≤ b → b < 2 ^ k → dn (2 * k + 1) a b
  | 0, a, b, _, h1, h2 => Or.inl (by
    have e : (2 : Int) ^ 0 = 1 := rfl
    rw [e] at h2; omega)
  | k + 1, a, b, h0, h1, h2 => by
    by_cases c : b = 0
    · exact Or.inl c
    · have hb : 0 < b := by omega
      have r1 := Int.emod_nonneg a c
      have r2 := Int.emod_lt_of_pos a hb
      show b = 0 ∨ dn (2 * (k + 1)) b (a % b)
      refine Or.inr ?_
      show dn (2 * k + 1 + 1) b (a % b)
      generalize a % b = r at r1 r2
      by_cases c2 : r = 0
      · exact Or.inl c2
      · refine Or.inr (dn_k k r (b % r) r1 (Int.emod_nonneg b c2) ?_)
        have q1 := Int.emod_lt_of_pos b (show 0 < r by omega)
        have q2 := Int.mul_ediv_add_emod b r
        have q3 : 1 ≤ b / r := (Int.le_ediv_iff_mul_le (by omega)).mpr (by omega)
        have q4 : r * 1 ≤ r * (b / r) := Int.mul_le_mul_of_nonneg_left q3 (by omega)
        rw [Int.pow_succ] at h2
        generalize r * (b / r) = y at q2 q4
        generalize b % r = x at q1 q2
        omega
theorem dn_200 {a b : Int} (ha : 0 ≤ a) (hb : 0 ≤ b ∧ b < 4611686018427387904) : dn 125 a b := by
  refine dn_k 62 a b ha hb.1 ?_
  have e : (2 : Int) ^ 62 = 4611686018427387904 := by decide
  rw [e]; exact hb.2
theorem eg_pos : ∀ (f : Nat) (a b : Int), dn f a b → 0 ≤ a → 0 ≤ b → (0 < a ∨ 0 < b) → 0 < eg f a b
  | 0, a, b, h, h1, h2, h3 => by
    have h : b = 0 := h
    show 0 < a
    omega
  | f + 1, a, b, h, h1, h2, h3 => by
    show 0 < (if b = 0 then a else eg f b (a % b))
    by_cases c : b = 0
    · rw [if_pos c]; omega
    · rw [if_neg c]
      rcases h with h | h
      · exact absurd h c
      · exact eg_pos f b (a % b) h h2 (Int.emod_nonneg a c) (Or.inl (by omega))
theorem eg_b : ∀ (f : Nat) (a b B : Int), 0 ≤ a → a ≤ B → 0 ≤ b → b ≤ B → 0 ≤ eg f a b ∧ eg f a b ≤ B
  | 0, a, b, B, h1, h2, h3, h4 => ⟨h1, h2⟩
  | f + 1, a, b, B, h1, h2, h3, h4 => by
    show 0 ≤ (if b = 0 then a else eg f b (a % b)) ∧ (if b = 0 then a else eg f b (a % b)) ≤ B
    by_cases c : b = 0
    · rw [if_pos c]; exact ⟨h1, h2⟩
    · rw [if_neg c]
      have := Int.emod_lt_of_pos a (show 0 < b by omega)
      exact eg_b f b (a % b) B h3 h4 (Int.emod_nonneg a c) (by omega)
def lw (A B c : Int) : Int := if A = 0 then c else if c = 0 then zldiv A (eg 125 A B) else zldiv B (eg 125 A B)
section MD
variable {X : Cx} {sw : Bool} {m : Mem} {Q : Int → Bool → Mem → Prop}
theorem lZ_gcd : ∀ (f : Nat) (a b i : Int), dn f a b → 0 ≤ a → a < 4611686018427387904 → 0 ≤ b → b < 4611686018427387904 → 0 ≤ i → i + f < 1000 → Q (eg f a b) sw m → R2 X 1 mZ_commonDivisor 9 [(4, vl a), (6, vl b), (8, vi i)] [] sw m Q := by
  intro f
  induction f with
  | zero =>
    intro a b i h a0 a1 b0 b1 i0 i1 hq
    have h : b = 0 := h
    subst h
    refine wZ_commonDivisor_9 _ _ _ _ _ _ ?_
    rw [w32_id (z := i) (by omega) (by omega), show w64 0 = 0 by decide]
    exact ⟨fun c => by omega, fun _ => ⟨fun _ => hq, fun c => absurd rfl c⟩⟩
  | succ f ih =>
    intro a b i h a0 a1 b0 b1 i0 i1 hq
    refine wZ_commonDivisor_9 _ _ _ _ _ _ ?_
    rw [w32_id (z := i) (by omega) (by omega), w64_id (z := b) (by omega) (by omega)]
    refine ⟨fun c => by omega, fun _ => ⟨fun c => ?_, fun c => ⟨c, ?_⟩⟩⟩
    · have e : eg (f + 1) a b = a := if_pos c
      rw [e] at hq; exact hq
    · have e : eg (f + 1) a b = eg f b (a % b) := if_neg c
      rw [e] at hq
      rw [zlrem_pos (by omega) (by omega) (by omega) (by omega)]
      have r1 := Int.emod_nonneg a c
      have r2 := Int.emod_lt_of_pos a (show 0 < b by omega)
      rcases h with h | h
      · exact absurd h c
      · exact ih b (a % b) (i + 1) h b0 b1 r1 (by omega) (by omega) (by omega) hq
theorem eZ_side {A B c : Int} (hA : 0 ≤ A ∧ A < 4611686018427387904) (hB : 0 ≤ B ∧ B < 4611686018427387904) (hAB : B = 0 → A = 0) (hc : c = 0 ∨ c = 1) (h : Q (lw A B c) sw m) : M2 X 2 mZ_side [vl A, vl B, vi c] sw m Q := by
  have hg := eg_b 125 A B 4611686018427387903 hA.1 (by omega) hB.1 (by omega)
  have hd := dn_200 hA.1 hB
  refine wZ_side _ _ _ _ _ _ ?_
  rw [w64_id (z := A) (by omega) (by omega), w64_id (z := B) (by omega) (by omega), w32_id (z := c) (by omega) (by omega)]
  unfold lw at h
  refine ⟨fun c1 => ?_, fun c1 => ⟨fun c2 => ?_, fun c2 => absurd (hAB (Decidable.not_not.mp c2)) c1⟩⟩
  · rw [if_pos c1] at h; exact h
  · rw [if_neg c1] at h
    have hp := eg_pos 125 A B hd hA.1 hB.1 (Or.inl (by omega))
    refine wZ_commonDivisor _ _ _ _ _ (lZ_gcd 125 A B 0 hd hA.1 hA.2 hB.1 hB.2 (by omega) (by omega) ?_)
    rw [w64_id (z := eg 125 A B) (by omega) (by omega)]
    refine ⟨fun c3 => ⟨fun c4 => ⟨c4, ?_⟩, fun c4 => by omega⟩, fun c3 => ⟨fun c4 => ⟨c4, ?_⟩, fun c4 => by omega⟩⟩
    · rw [if_neg c3] at h; exact h
    · rw [if_pos (Decidable.not_not.mp c3)] at h; exact h
theorem lY_gcd {A B c : Int} : ∀ (f : Nat) (a b : Int), dn f a b → 0 ≤ a → a < 4611686018427387904 → 0 ≤ b → b < 4611686018427387904 → (0 < a ∨ 0 < b) → (Q (if c = 0 then zldiv A (eg f a b) else zldiv B (eg f a b)) sw m) → (c = 0 ∨ c = 1) → R2 X 1 mY_lowest 16 [(0, vl A), (2, vl B), (4, vi c), (5, vl a), (7, vl b)] [] sw m Q := by
  intro f
  induction f with
  | zero =>
    intro a b h a0 a1 b0 b1 hp hq hc
    have h : b = 0 := h
    subst h
    refine wY_lowest_16 _ _ _ _ _ _ _ _ ?_
    rw [w32_id (z := c) (by omega) (by omega), show w64 0 = 0 by decide, w64_id (z := a) (by omega) (by omega)]
    refine ⟨fun _ => ⟨fun c1 => ⟨by omega, ?_⟩, fun c1 => ⟨by omega, ?_⟩⟩, fun c1 => absurd rfl c1⟩
    · rw [if_neg c1] at hq; exact hq
    · rw [if_pos (Decidable.not_not.mp c1)] at hq; exact hq
  | succ f ih =>
    intro a b h a0 a1 b0 b1 hp hq hc
    refine wY_lowest_16 _ _ _ _ _ _ _ _ ?_
    rw [w32_id (z := c) (by omega) (by omega), w64_id (z := b) (by omega) (by omega), w64_id (z := a) (by omega) (by omega)]
    refine ⟨fun c0 => ⟨fun c1 => ⟨by omega, ?_⟩, fun c1 => ⟨by omega, ?_⟩⟩, fun c0 => ⟨c0, ?_⟩⟩
    · have e : eg (f + 1) a b = a := if_pos c0
      rw [e, if_neg c1] at hq; exact hq
    · have e : eg (f + 1) a b = a := if_pos c0
      rw [e, if_pos (Decidable.not_not.mp c1)] at hq; exact hq
    · have e : eg (f + 1) a b = eg f b (a % b) := if_neg c0
      rw [e] at hq
      rw [zlrem_pos (by omega) (by omega) (by omega) (by omega)]
      have r1 := Int.emod_nonneg a c0
      have r2 := Int.emod_lt_of_pos a (show 0 < b by omega)
      rcases h with h | h
      · exact absurd h c0
      · exact ih b (a % b) h b0 b1 r1 (by omega) (Or.inl (by omega)) hq hc
theorem eY_lowest {A B c : Int} (hA : 0 ≤ A ∧ A < 4611686018427387904) (hB : 0 ≤ B ∧ B < 4611686018427387904) (hc : c = 0 ∨ c = 1) (h : Q (lw A B c) sw m) : M2 X 1 mY_lowest [vl A, vl B, vi c] sw m Q := by
  have hd := dn_200 hA.1 hB
  refine wY_lowest _ _ _ _ _ _ ?_
  rw [w64_id (z := A) (by omega) (by omega), w32_id (z := c) (by omega) (by omega)]
  unfold lw at h
  refine ⟨fun c1 => ?_, fun c1 => ?_⟩
  · rw [if_neg c1] at h
    exact lY_gcd 125 A B hd hA.1 hA.2 hB.1 hB.2 (Or.inl (by omega)) h hc
  · rw [if_pos (Decidable.not_not.mp c1)] at h; exact h
theorem eY_sets {n : Nat} (h1 : m 84 1 = (n : Int)) (hn : n ≤ 9) (h : Q ((2 ^ n : Nat) : Int) sw m) : M2 X 1 mY_sets [vr 84] sw m Q := by
  refine wY_sets _ _ _ ?_
  rw [h1, zshl_one (by omega)]
  exact h
theorem eY_oddsOf {S : Sh} {V : Nat → Int} {n s : Nat} {D : Int} (hM : MO S V n D m) (hV : Vb V) (hs : s < 512) (h : Q (od (UD V D) n s) sw m) : M2 X 1 mY_oddsOf [vr 84, vi (s : Int)] sw m Q := by
  obtain ⟨hS, h105, h33, hD⟩ := hM
  have hn := hS.2.1
  have key : ∀ k : Nat, k ≤ n → R2 X 1 mY_oddsOf 5 [(0, vr 84), (1, vi (s : Int)), (2, vl (od (UD V D) k s)), (4, vi (k : Int))] [] sw m Q := by
    refine downN n ?_ (fun k hk ih => ?_)
    · refine wY_oddsOf_5 _ _ _ _ _ _ ?_
      rw [hS.1]
      exact ⟨fun _ => h, fun c => absurd (Int.le_refl _) c⟩
    · have hv := hV k
      have h5 := h105 k hk
      have e12 : w32 (12 - m 105 (k : Int)) = 12 - V k := by
        rw [← w32_sub, h5, show w32 12 = 12 by decide]
        exact w32_id (by omega) (by omega)
      have hs2 := sq_b (x := 12 - V k) (by omega)
      have esq : w32 ((12 - m 105 (k : Int)) * (12 - m 105 (k : Int))) = (12 - V k) * (12 - V k) := by
        rw [← w32_mul, e12]
        exact w32_id (by omega) (by omega)
      have e144 : w32 (144 - (12 - m 105 (k : Int)) * (12 - m 105 (k : Int))) = 144 - (12 - V k) * (12 - V k) := by
        rw [← w32_sub, esq, show w32 144 = 144 by decide]
        exact w32_id (by omega) (by omega)
      have e : od (UD V D) (k + 1) s = od (UD V D) k s * (if s.testBit k = true then (UD V D k).1 else (UD V D k).2) := rfl
      rw [e] at ih
      refine wY_oddsOf_5 _ _ _ _ _ _ ?_
      rw [hS.1, h33, w32_id (z := (n : Int)) (by omega) (by omega), w32_id (z := (k : Int)) (by omega) (by omega), w32_id (z := D) (by omega) (by omega), bit_z (by omega) (by omega), h5, e12, esq, e144]
      clear h5 e12 esq e144
      refine ⟨fun c => by omega, fun _ => ⟨by omega, ?_⟩⟩
      cases hb : s.testBit k with
      | true =>
        rw [hb] at ih
        refine ⟨fun c => absurd (by decide) c, fun _ => ⟨fun c => ⟨by omega, ?_⟩, fun c => ?_⟩⟩
        · rw [show UD V D k = (V k, 12 - V k) from if_neg c] at ih; exact ih
        · rw [show UD V D k = (144 - (12 - V k) * (12 - V k), (12 - V k) * (12 - V k)) from if_pos (Decidable.not_not.mp c)] at ih; exact ih
      | false =>
        rw [hb] at ih
        refine ⟨fun _ => ⟨fun c => ?_, fun c => ?_⟩, fun c => absurd (by decide) c⟩
        · rw [show UD V D k = (V k, 12 - V k) from if_neg c] at ih; exact ih
        · rw [show UD V D k = (144 - (12 - V k) * (12 - V k), (12 - V k) * (12 - V k)) from if_pos (Decidable.not_not.mp c)] at ih; exact ih
  exact wY_oddsOf _ _ _ _ (key 0 (Nat.zero_le _))
theorem eY_whole {S : Sh} {V : Nat → Int} {n : Nat} {D : Int} (hM : MO S V n D m) (h : Q ((if 0 ≤ D then 12 else 1) * 12 ^ n) sw m) : M2 X 1 mY_whole [vr 84] sw m Q := by
  obtain ⟨hS, h105, h33, hD⟩ := hM
  have hn := hS.2.1
  have key : ∀ k : Nat, k ≤ n → R2 X 1 mY_whole 17 [(0, vr 84), (1, vl ((if 0 ≤ D then 12 else 1) * 12 ^ k)), (3, vi (k : Int))] [] sw m Q := by
    refine downN n ?_ (fun k hk ih => ?_)
    · refine wY_whole_17 _ _ _ _ _ ?_
      rw [hS.1]
      exact ⟨fun _ => h, fun c => absurd (Int.le_refl _) c⟩
    · refine wY_whole_17 _ _ _ _ _ ?_
      rw [hS.1, w32_id (z := (n : Int)) (by omega) (by omega), w32_id (z := (k : Int)) (by omega) (by omega), Int.mul_assoc, ← Int.pow_succ]
      exact ⟨fun c => by omega, fun _ => ih⟩
  have k0 := key 0 (Nat.zero_le _)
  refine wY_whole _ _ _ ?_
  rw [h33, w32_id (z := D) (by omega) (by omega)]
  refine ⟨fun c => ?_, fun c => ?_⟩
  · rw [if_pos c] at k0; exact k0
  · rw [if_neg c] at k0; exact k0
theorem eY_layTwelfths {w : Option (List Ln)} {S : Sh} {V : Nat → Int} {n : Nat} (hS : YS S n m) (hW : IW w sw m) (h33 : m 84 33 = -1) (hd : 0 ≤ m 91 0 ∧ m 91 0 ≤ 9) (hg : 0 ≤ m 91 1 ∧ m 91 1 ≤ 1) (hk : ∀ p : Nat, p < n → (0 ≤ m 87 (p : Int) ∧ m 87 (p : Int) ≤ 12) ∧ (0 ≤ m 90 (p : Int) ∧ m 90 (p : Int) ≤ 99) ∧ (0 ≤ m 89 (p : Int) ∧ m 89 (p : Int) ≤ 9) ∧ V p = tw w (m 87 (p : Int)) (m 91 0) (m 90 (p : Int)) (m 89 (p : Int)) (m 91 1) (p : Int)) (h : ∀ m2, (∀ c : Int, ¬ c = 102 → ¬ c = 103 → ¬ c = 105 → m2 c = m c) → MO S V n (-1) m2 → Q 0 sw m2) : M2 X 5 mY_layTwelfths [vr 84] sw m Q := by
  have hn := hS.2.1
  have key : ∀ k : Nat, k ≤ n → ∀ m1, (∀ c : Int, ¬ c = 102 → ¬ c = 103 → ¬ c = 105 → m1 c = m c) → (∀ p : Nat, p < k → w32 (m1 105 (p : Int)) = V p) → R2 X 5 mY_layTwelfths 2 [(0, vr 84), (1, vi (k : Int))] [] sw m1 Q := by
    refine downN n (fun m1 hF h1 => ?_) (fun k hk' ih m1 hF h1 => ?_)
    · refine wY_layTwelfths_2 _ _ _ _ ?_
      rw [hF 84 (by omega) (by omega) (by omega), hS.1]
      refine ⟨fun _ => h m1 hF ⟨hS.fr (fun c j q => by rw [hF c (by omega) (by omega) (by omega)]), h1, ?_, by omega, by omega⟩, fun c => absurd (Int.le_refl _) c⟩
      rw [hF 84 (by omega) (by omega) (by omega)]; exact h33
    · have hkk := hk k hk'
      refine wY_layTwelfths_2 _ _ _ _ ?_
      rw [hF 84 (by omega) (by omega) (by omega), hS.1, w32_id (z := (n : Int)) (by omega) (by omega), w32_id (z := (k : Int)) (by omega) (by omega)]
      have g : ∀ c : Int, 87 ≤ c → c ≤ 91 → m1 c = m c := fun c q1 q2 => hF c (by omega) (by omega) (by omega)
      refine ⟨fun c => by omega, fun _ => eY_twelfthsOf (w := w) (hW.fr (fun c j q => by rw [hF c (by omega) (by omega) (by omega)])) (by omega) ?_ ?_ ?_ ?_ ?_ (fun z m2 f2 hz => ⟨by omega, ih _ (fun c q1 q2 q3 => ?_) (fun p hp => ?_)⟩)⟩
      · rw [g 87 (by omega) (by omega)]; exact hkk.1
      · rw [g 91 (by omega) (by omega)]; exact hd
      · rw [g 90 (by omega) (by omega)]; exact hkk.2.1
      · rw [g 89 (by omega) (by omega)]; exact hkk.2.2.1
      · rw [g 91 (by omega) (by omega)]; exact hg
      · rw [upm_row q3, f2 c q1 q2]; exact hF c q1 q2 q3
      · rw [upm_at]
        by_cases cp : p = k
        · subst cp
          rw [if_pos rfl, hz, g 87 (by omega) (by omega), g 91 (by omega) (by omega), g 90 (by omega) (by omega), g 89 (by omega) (by omega)]
          exact hkk.2.2.2.symm
        · rw [if_neg (by omega), f2 105 (by omega) (by omega)]; exact h1 p (by omega)
  exact wY_layTwelfths _ _ _ (key 0 (Nat.zero_le _) m (fun _ _ _ _ => rfl) (fun p hp => absurd hp (Nat.not_lt_zero _)))
def og (S : Sh) (U : Us) (n p : Nat) : Int := sm (2 ^ n) (fun s => if 0 ≤ gm S s p then od U n s else 0)
theorem eY_endsBy {S : Sh} {V : Nat → Int} {n : Nat} {D M : Int} (hM : MO S V n D m) (hV : Vb V) (ha : w32 M = M) (h : ∀ m2, FrM2 m m2 → Q (ob S (UD V D) n (M + 1)) sw m2) : M2 X 3 mY_endsBy [vr 84, vi M] sw m Q := by
  have hn := hM.1.2.1
  have h2n := p9 (k := n) hn
  have hT := hM.1.tk
  have key : ∀ k : Nat, k ≤ 2 ^ n → ∀ m1, FrM2 m m1 → R2 X 3 mY_endsBy 5 [(0, vr 84), (1, vi M), (2, vl (sm k (fun s => if 0 ≤ en S n s ∧ en S n s < M + 1 then od (UD V D) n s else 0))), (4, vi (k : Int))] [] sw m1 Q := by
    refine downN (2 ^ n) (fun m1 hF => ?_) (fun k hk ih m1 hF => ?_)
    · have hM1 := hM.m2 hF
      refine wY_endsBy_5 _ _ _ _ _ _ (eY_sets hM1.1.1 hn ⟨fun _ => h m1 hF, fun c => absurd (Int.le_refl _) c⟩)
    · have hM1 := hM.m2 hF
      have hb := en_b hT hn k
      have e : sm (k + 1) (fun s => if 0 ≤ en S n s ∧ en S n s < M + 1 then od (UD V D) n s else 0) = sm k (fun s => if 0 ≤ en S n s ∧ en S n s < M + 1 then od (UD V D) n s else 0) + (if 0 ≤ en S n k ∧ en S n k < M + 1 then od (UD V D) n k else 0) := rfl
      rw [e] at ih
      refine wY_endsBy_5 _ _ _ _ _ _ (eY_sets hM1.1.1 hn ?_)
      rw [w32_id (z := ((2 ^ n : Nat) : Int)) (by omega) (by omega), w32_id (z := (k : Int)) (by omega) (by omega), ha]
      clear ha
      refine ⟨fun c => by omega, fun _ => eY_goMorning hM1.1 (by omega) (fun m2 f2 y2 => ?_)⟩
      have hM2 := hM1.m2 f2
      refine eY_endNow hM2.1.1 hn y2 ?_
      rw [w32_id (z := en S n k) (by omega) (by omega)]
      refine ⟨fun c => ?_, fun c => eY_endNow hM2.1.1 hn y2 ?_⟩
      · have := ih m2 (hF.tr f2)
        rw [if_neg (by omega), Int.add_zero] at this
        exact this
      · rw [w32_id (z := en S n k) (by omega) (by omega)]
        refine ⟨fun c2 => ?_, fun c2 => eY_oddsOf hM2 hV (by omega) ?_⟩
        · have := ih m2 (hF.tr f2)
          rw [if_neg (by omega), Int.add_zero] at this
          exact this
        · have := ih m2 (hF.tr f2)
          rw [if_pos (by omega)] at this
          exact this
  exact wY_endsBy _ _ _ _ (key 0 (Nat.zero_le _) m (FrM2.rf m))
theorem eY_justOdds {S : Sh} {V : Nat → Int} {n : Nat} {D M a : Int} (hM : MO S V n D m) (hV : Vb V) (ha : w32 a = M) (h : ∀ m2, FrM2 m m2 → Q (om S (UD V D) n M) sw m2) : M2 X 3 mY_justOdds [vr 84, vi a] sw m Q := by
  have hn := hM.1.2.1
  have h2n := p9 (k := n) hn
  have hT := hM.1.tk
  have key : ∀ k : Nat, k ≤ 2 ^ n → ∀ m1, FrM2 m m1 → R2 X 3 mY_justOdds 5 [(0, vr 84), (1, vi a), (2, vl (sm k (fun s => if en S n s = M then od (UD V D) n s else 0))), (4, vi (k : Int))] [] sw m1 Q := by
    refine downN (2 ^ n) (fun m1 hF => ?_) (fun k hk ih m1 hF => ?_)
    · have hM1 := hM.m2 hF
      refine wY_justOdds_5 _ _ _ _ _ _ (eY_sets hM1.1.1 hn ⟨fun _ => h m1 hF, fun c => absurd (Int.le_refl _) c⟩)
    · have hM1 := hM.m2 hF
      have hb := en_b hT hn k
      have e : sm (k + 1) (fun s => if en S n s = M then od (UD V D) n s else 0) = sm k (fun s => if en S n s = M then od (UD V D) n s else 0) + (if en S n k = M then od (UD V D) n k else 0) := rfl
      rw [e] at ih
      refine wY_justOdds_5 _ _ _ _ _ _ (eY_sets hM1.1.1 hn ?_)
      rw [w32_id (z := ((2 ^ n : Nat) : Int)) (by omega) (by omega), w32_id (z := (k : Int)) (by omega) (by omega), ha]
      clear ha
      refine ⟨fun c => by omega, fun _ => eY_goMorning hM1.1 (by omega) (fun m2 f2 y2 => ?_)⟩
      have hM2 := hM1.m2 f2
      refine eY_endNow hM2.1.1 hn y2 ?_
      rw [w32_id (z := en S n k) (by omega) (by omega)]
      refine ⟨fun c => ?_, fun c => eY_oddsOf hM2 hV (by omega) ?_⟩
      · have := ih m2 (hF.tr f2)
        rw [if_neg c, Int.add_zero] at this
        exact this
      · have := ih m2 (hF.tr f2)
        rw [if_pos (Decidable.not_not.mp c)] at this
        exact this
  exact wY_justOdds _ _ _ _ (key 0 (Nat.zero_le _) m (FrM2.rf m))
theorem eY_goesOdds {S : Sh} {V : Nat → Int} {n p : Nat} {D : Int} (hM : MO S V n D m) (hV : Vb V) (hp : p < n) (h : ∀ m2, FrM2 m m2 → Q (og S (UD V D) n p) sw m2) : M2 X 3 mY_goesOdds [vr 84, vi (p : Int)] sw m Q := by
  have hn := hM.1.2.1
  have h2n := p9 (k := n) hn
  have hT := hM.1.tk
  have key : ∀ k : Nat, k ≤ 2 ^ n → ∀ m1, FrM2 m m1 → R2 X 3 mY_goesOdds 5 [(0, vr 84), (1, vi (p : Int)), (2, vl (sm k (fun s => if 0 ≤ gm S s p then od (UD V D) n s else 0))), (4, vi (k : Int))] [] sw m1 Q := by
    refine downN (2 ^ n) (fun m1 hF => ?_) (fun k hk ih m1 hF => ?_)
    · have hM1 := hM.m2 hF
      refine wY_goesOdds_5 _ _ _ _ _ _ (eY_sets hM1.1.1 hn ⟨fun _ => h m1 hF, fun c => absurd (Int.le_refl _) c⟩)
    · have hM1 := hM.m2 hF
      have hb := gm_b2 hT hn k hp
      have e : sm (k + 1) (fun s => if 0 ≤ gm S s p then od (UD V D) n s else 0) = sm k (fun s => if 0 ≤ gm S s p then od (UD V D) n s else 0) + (if 0 ≤ gm S k p then od (UD V D) n k else 0) := rfl
      rw [e] at ih
      refine wY_goesOdds_5 _ _ _ _ _ _ (eY_sets hM1.1.1 hn ?_)
      rw [w32_id (z := ((2 ^ n : Nat) : Int)) (by omega) (by omega), w32_id (z := (k : Int)) (by omega) (by omega), w32_id (z := (p : Int)) (by omega) (by omega)]
      refine ⟨fun c => by omega, fun _ => eY_goMorning hM1.1 (by omega) (fun m2 f2 y2 => ?_)⟩
      have hM2 := hM1.m2 f2
      rw [y2.1 p hp, w32_id (z := gm S k p) (by omega) (by omega)]
      refine ⟨by omega, fun c => ?_, fun c => eY_oddsOf hM2 hV (by omega) ?_⟩
      · have := ih m2 (hF.tr f2)
        rw [if_neg (by omega), Int.add_zero] at this
        exact this
      · have := ih m2 (hF.tr f2)
        rw [if_pos (by omega)] at this
        exact this
  exact wY_goesOdds _ _ _ _ (key 0 (Nat.zero_le _) m (FrM2.rf m))
end MD
