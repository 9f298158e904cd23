/-! odds: the pure ones -/
def sm : Nat → (Nat → Int) → Int
  | 0, _ => 0
  | k + 1, f => sm k f + f k
theorem sm_cg {f g : Nat → Int} : ∀ N, (∀ s, s < N → f s = g s) → sm N f = sm N g
  | 0, _ => rfl
  | k + 1, h => by
    show sm k f + f k = sm k g + g k
    rw [sm_cg k (fun s hs => h s (by omega)), h k (by omega)]
theorem sm_add {f g : Nat → Int} : ∀ N, sm N (fun s => f s + g s) = sm N f + sm N g
  | 0 => rfl
  | k + 1 => by
    show sm k (fun s => f s + g s) + (f k + g k) = (sm k f + f k) + (sm k g + g k)
    rw [sm_add k]; omega
theorem sm_mul {f : Nat → Int} {c : Int} : ∀ N, sm N (fun s => f s * c) = sm N f * c
  | 0 => by show (0 : Int) = 0 * c; rw [Int.zero_mul]
  | k + 1 => by
    show sm k (fun s => f s * c) + f k * c = (sm k f + f k) * c
    rw [sm_mul k, Int.add_mul]
theorem sm_nn {f : Nat → Int} : ∀ N, (∀ s, s < N → 0 ≤ f s) → 0 ≤ sm N f
  | 0, _ => Int.le_refl 0
  | k + 1, h => by
    have h1 := sm_nn k (fun s hs => h s (by omega))
    have h2 := h k (by omega)
    show 0 ≤ sm k f + f k
    omega
theorem sm_le {f g : Nat → Int} : ∀ N, (∀ s, s < N → f s ≤ g s) → sm N f ≤ sm N g
  | 0, _ => Int.le_refl 0
  | k + 1, h => by
    have h1 := sm_le k (fun s hs => h s (by omega))
    have h2 := h k (by omega)
    show sm k f + f k ≤ sm k g + g k
    omega
theorem sm_b {f : Nat → Int} {B : Int} : ∀ N, (∀ s, s < N → 0 ≤ f s ∧ f s ≤ B) → 0 ≤ sm N f ∧ sm N f ≤ N * B
  | 0, _ => ⟨Int.le_refl 0, by show (0 : Int) ≤ ((0 : Nat) : Int) * B; rw [show ((0 : Nat) : Int) = 0 from rfl, Int.zero_mul]; exact Int.le_refl 0⟩
  | k + 1, h => by
    have h1 := sm_b k (fun s hs => h s (by omega))
    have h2 := h k (by omega)
    refine ⟨?_, ?_⟩
    · show 0 ≤ sm k f + f k; omega
    · show sm k f + f k ≤ ((k + 1 : Nat) : Int) * B
      rw [show ((k + 1 : Nat) : Int) = (k : Int) + 1 from rfl, Int.add_mul, Int.one_mul]
      omega
theorem sm_bN {f : Nat → Int} {B : Int} {N : Nat} (hN : N ≤ 512) (hB : 0 ≤ B) (h : ∀ s, s < N → 0 ≤ f s ∧ f s ≤ B) : 0 ≤ sm N f ∧ sm N f ≤ 512 * B := by
  have h1 := sm_b N h
  have h2 : (N : Int) * B ≤ 512 * B := Int.mul_le_mul_of_nonneg_right (by omega) hB
  omega
theorem sm_0 : ∀ N, sm N (fun _ => 0) = 0
  | 0 => rfl
  | k + 1 => by
    show sm k (fun _ => 0) + 0 = 0
    rw [sm_0 k]; rfl
theorem sm_pos {f : Nat → Int} {N : Nat} (h0 : ∀ s, s < N → 0 ≤ f s) (h : 0 < sm N f) : ∃ s, s < N ∧ 0 < f s := by
  induction N with
  | zero => exact absurd h (by show ¬ (0 : Int) < 0; omega)
  | succ k ih =>
    have e : sm (k + 1) f = sm k f + f k := rfl
    by_cases c : 0 < f k
    · exact ⟨k, by omega, c⟩
    · have := h0 k (by omega)
      obtain ⟨s, h1, h2⟩ := ih (fun s hs => h0 s (by omega)) (by omega)
      exact ⟨s, by omega, h2⟩
theorem sm_one {f : Nat → Int} {N s : Nat} (h0 : ∀ s, s < N → 0 ≤ f s) (hs : s < N) : f s ≤ sm N f := by
  induction N with
  | zero => exact absurd hs (Nat.not_lt_zero _)
  | succ k ih =>
    have e : sm (k + 1) f = sm k f + f k := rfl
    have hk := h0 k (by omega)
    have hn := sm_nn k (fun s hs => h0 s (by omega))
    by_cases c : s = k
    · rw [c]; omega
    · have := ih (fun s hs => h0 s (by omega)) (by omega)
      omega
theorem sm_split {f : Nat → Int} (a : Nat) : ∀ b, sm (a + b) f = sm a f + sm b (fun s => f (a + s))
  | 0 => by show sm a f = sm a f + 0; omega
  | b + 1 => by
    show sm (a + b) f + f (a + b) = sm a f + (sm b (fun s => f (a + s)) + f (a + b))
    rw [sm_split a b]; omega
abbrev Us : Type := Nat → Int × Int
/-- the odds of a set -/
def od (U : Us) : Nat → Nat → Int
  | 0, _ => 1
  | p + 1, s => od U p s * (if s.testBit p = true then (U p).1 else (U p).2)
theorem od_bits {U : Us} {s s' : Nat} : ∀ p, (∀ q, q < p → s.testBit q = s'.testBit q) → od U p s = od U p s'
  | 0, _ => rfl
  | p + 1, h => by
    show od U p s * _ = od U p s' * _
    rw [od_bits p (fun q hq => h q (by omega)), h p (by omega)]
theorem od_cg {U U' : Us} {s : Nat} : ∀ p, (∀ q, q < p → U q = U' q) → od U p s = od U' p s
  | 0, _ => rfl
  | p + 1, h => by
    show od U p s * _ = od U' p s * _
    rw [od_cg p (fun q hq => h q (by omega)), h p (by omega)]
theorem od_without {U : Us} {s p : Nat} (hs : s < 2 ^ p) : od U (p + 1) s = od U p s * (U p).2 := by
  show od U p s * _ = _
  rw [Nat.testBit_lt_two_pow hs]; rfl
theorem od_with {U : Us} {s p : Nat} (hs : s < 2 ^ p) : od U (p + 1) (s + 2 ^ p) = od U p s * (U p).1 := by
  show od U p (s + 2 ^ p) * _ = _
  rw [bit_add_eq hs, od_bits p (fun q hq => bit_add_lt hs hq)]; rfl
abbrev Ub (U : Us) (n : Nat) : Prop := ∀ p, p < n → (0 ≤ (U p).1 ∧ (U p).1 ≤ 12) ∧ (0 ≤ (U p).2 ∧ (U p).2 ≤ 12)
theorem od_b {U : Us} {s : Nat} : ∀ p, Ub U p → 0 ≤ od U p s ∧ od U p s ≤ 12 ^ p
  | 0, _ => ⟨by show (0 : Int) ≤ 1; decide, by show (1 : Int) ≤ 12 ^ 0; decide⟩
  | p + 1, h => by
    have ih := od_b (s := s) p (fun q hq => h q (by omega))
    have hp := h p (by omega)
    have hf : 0 ≤ (if s.testBit p = true then (U p).1 else (U p).2) ∧ (if s.testBit p = true then (U p).1 else (U p).2) ≤ 12 := by
      split
      · exact hp.1
      · exact hp.2
    refine ⟨Int.mul_nonneg ih.1 hf.1, ?_⟩
    show od U p s * _ ≤ 12 ^ (p + 1)
    rw [Int.pow_succ]
    exact Int.mul_le_mul ih.2 hf.2 hf.1 (Int.pow_nonneg (by decide))
theorem p12 {n : Nat} (h : n ≤ 9) : 1 ≤ (12 : Int) ^ n ∧ (12 : Int) ^ n ≤ 5159780352 := by
  have h1 : n = 0 ∨ n = 1 ∨ n = 2 ∨ n = 3 ∨ n = 4 ∨ n = 5 ∨ n = 6 ∨ n = 7 ∨ n = 8 ∨ n = 9 := by omega
  rcases h1 with rfl | rfl | rfl | rfl | rfl | rfl | rfl | rfl | rfl | rfl <;> decide
theorem od_9 {U : Us} {n s : Nat} (hn : n ≤ 9) (h : Ub U n) : 0 ≤ od U n s ∧ od U n s ≤ 5159780352 := by
  have h1 := od_b (s := s) n h
  have h2 := p12 hn
  omega
theorem od_tot {U : Us} : ∀ n, (∀ p, p < n → (U p).1 + (U p).2 = 12) → sm (2 ^ n) (fun s => od U n s) = 12 ^ n
  | 0, _ => rfl
  | p + 1, h => by
    have ih := od_tot p (fun q hq => h q (by omega))
    rw [p2s, sm_split]
    have e1 : sm (2 ^ p) (fun s => od U (p + 1) s) = sm (2 ^ p) (fun s => od U p s) * (U p).2 := by
      rw [← sm_mul]
      exact sm_cg _ (fun s hs => od_without hs)
    have e2 : sm (2 ^ p) (fun s => od U (p + 1) (2 ^ p + s)) = sm (2 ^ p) (fun s => od U p s) * (U p).1 := by
      rw [← sm_mul]
      refine sm_cg _ (fun s hs => ?_)
      show od U (p + 1) (2 ^ p + s) = _
      rw [Nat.add_comm (2 ^ p) s]
      exact od_with hs
    rw [e1, e2, ih, ← Int.mul_add, Int.pow_succ, show (U p).2 + (U p).1 = 12 by have := h p (by omega); omega]
def ux (U : Us) (p : Nat) (v : Int × Int) : Us := fun q => if q = p then v else U q
theorem ux_at {U : Us} {p : Nat} {v : Int × Int} : ux U p v p = v := if_pos rfl
theorem ux_ne {U : Us} {p q : Nat} {v : Int × Int} (h : ¬ q = p) : ux U p v q = U q := if_neg h
/-- one part's share taken out of the product -/
theorem od_ux {U : Us} {k : Nat} {v : Int × Int} {s : Nat} : ∀ n, k < n → od (ux U k v) n s = od (ux U k (1, 1)) n s * (if s.testBit k = true then v.1 else v.2)
  | 0, h => absurd h (Nat.not_lt_zero _)
  | p + 1, h => by
    show od (ux U k v) p s * _ = (od (ux U k (1, 1)) p s * _) * _
    by_cases c : k = p
    · subst c
      have e : od (ux U k v) k s = od (ux U k (1, 1)) k s := od_cg k (fun q hq => by rw [ux_ne (by omega), ux_ne (by omega)])
      rw [e, ux_at, ux_at]
      have e1 : (if s.testBit k = true then ((1, 1) : Int × Int).1 else ((1, 1) : Int × Int).2) = 1 := by split <;> rfl
      rw [e1, Int.mul_one]
    · rw [od_ux p (by omega), ux_ne (fun q => c q.symm), ux_ne (fun q => c q.symm), Int.mul_assoc, Int.mul_assoc, Int.mul_comm (if s.testBit k = true then v.1 else v.2)]
/-- odds of a minute; of so many minutes; how many minutes have any -/
def om (S : Sh) (U : Us) (n : Nat) (k : Int) : Int := sm (2 ^ n) (fun s => if en S n s = k then od U n s else 0)
def ob (S : Sh) (U : Us) (n : Nat) (K : Int) : Int := sm (2 ^ n) (fun s => if 0 ≤ en S n s ∧ en S n s < K then od U n s else 0)
def ct (S : Sh) (U : Us) (n : Nat) : Nat → Nat
  | 0 => 0
  | k + 1 => ct S U n k + if 0 < om S U n (k : Int) then 1 else 0
theorem ob_s {S : Sh} {U : Us} {n k : Nat} : ob S U n ((k : Int) + 1) = ob S U n (k : Int) + om S U n (k : Int) := by
  unfold ob om
  rw [← sm_add]
  refine sm_cg _ (fun s _ => ?_)
  generalize en S n s = e
  by_cases c : e = (k : Int)
  · rw [if_pos (by omega), if_neg (by omega), if_pos c]; omega
  · by_cases c2 : 0 ≤ e ∧ e < (k : Int)
    · rw [if_pos (by omega), if_pos c2, if_neg c]; omega
    · rw [if_neg (by omega), if_neg c2, if_neg c]; omega
theorem ob_0 {S : Sh} {U : Us} {n : Nat} {K : Int} (h : K ≤ 0) : ob S U n K = 0 := by
  unfold ob
  have e : sm (2 ^ n) (fun s => if 0 ≤ en S n s ∧ en S n s < K then od U n s else 0) = sm (2 ^ n) (fun _ => 0) := by
    refine sm_cg _ (fun s _ => ?_)
    show (if 0 ≤ en S n s ∧ en S n s < K then od U n s else 0) = 0
    exact if_neg (by omega)
  rw [e]; exact sm_0 _
theorem om_nn {S : Sh} {U : Us} {n : Nat} (hU : Ub U n) (k : Int) : 0 ≤ om S U n k := sm_nn _ (fun s _ => by
  split
  · exact (od_b n hU).1
  · exact Int.le_refl 0)
theorem om_le {S : Sh} {U : Us} {n : Nat} (hn : n ≤ 9) (hU : Ub U n) (k : Int) : 0 ≤ om S U n k ∧ om S U n k ≤ 512 * 5159780352 := sm_bN (p9 hn).2 (by decide) (fun s _ => by
  have := od_9 (s := s) hn hU
  split
  · exact this
  · omega)
theorem ob_le {S : Sh} {U : Us} {n : Nat} (hn : n ≤ 9) (hU : Ub U n) (k : Int) : 0 ≤ ob S U n k ∧ ob S U n k ≤ 512 * 5159780352 := sm_bN (p9 hn).2 (by decide) (fun s _ => by
  have := od_9 (s := s) hn hU
  split
  · exact this
  · omega)
theorem ct_le {S : Sh} {U : Us} {n : Nat} (hn : n ≤ 9) (hU : Ub U n) : ∀ k : Nat, (ct S U n k : Int) ≤ sm (2 ^ n) (fun s => if 0 ≤ en S n s ∧ en S n s < (k : Int) then 1 else 0)
  | 0 => by
    show ((0 : Nat) : Int) ≤ _
    exact sm_nn _ (fun s _ => by split <;> decide)
  | k + 1 => by
    have ih := ct_le (S := S) hn hU k
    have e : sm (2 ^ n) (fun s => if 0 ≤ en S n s ∧ en S n s < ((k + 1 : Nat) : Int) then 1 else 0) = sm (2 ^ n) (fun s => if 0 ≤ en S n s ∧ en S n s < (k : Int) then 1 else 0) + sm (2 ^ n) (fun s => if en S n s = (k : Int) then 1 else 0) := by
      rw [← sm_add]
      refine sm_cg _ (fun s _ => ?_)
      show (if 0 ≤ en S n s ∧ en S n s < ((k + 1 : Nat) : Int) then (1 : Int) else 0) = (if 0 ≤ en S n s ∧ en S n s < (k : Int) then 1 else 0) + (if en S n s = (k : Int) then 1 else 0)
      generalize en S n s = e
      by_cases c : e = (k : Int)
      · rw [if_pos (by omega), if_neg (by omega), if_pos c]; omega
      · by_cases c2 : 0 ≤ e ∧ e < (k : Int)
        · rw [if_pos (by omega), if_pos c2, if_neg c]; omega
        · rw [if_neg (by omega), if_neg c2, if_neg c]; omega
    rw [e]
    have h0 : ∀ s, s < 2 ^ n → (0 : Int) ≤ (if en S n s = (k : Int) then 1 else 0) := fun s _ => by split <;> decide
    show ((ct S U n k + (if 0 < om S U n (k : Int) then 1 else 0) : Nat) : Int) ≤ _
    by_cases c : 0 < om S U n (k : Int)
    · rw [if_pos c]
      obtain ⟨s, hs1, hs2⟩ := sm_pos (fun s _ => by
        split
        · exact (od_b n hU).1
        · exact Int.le_refl 0) c
      have he : en S n s = (k : Int) := by
        by_cases c2 : en S n s = (k : Int)
        · exact c2
        · rw [if_neg c2] at hs2; exact absurd hs2 (by decide)
      have := sm_one h0 hs1
      rw [if_pos he] at this
      omega
    · rw [if_neg c]
      have := sm_nn _ h0
      omega
theorem ct_512 {S : Sh} {U : Us} {n : Nat} (hn : n ≤ 9) (hU : Ub U n) (k : Nat) : ct S U n k ≤ 512 := by
  have h1 := ct_le (S := S) hn hU k
  have h2 : sm (2 ^ n) (fun s => if 0 ≤ en S n s ∧ en S n s < (k : Int) then (1 : Int) else 0) ≤ 512 * 1 := (sm_bN (p9 hn).2 (by decide) (fun s _ => by split <;> decide)).2
  omega
theorem ct_mono {S : Sh} {U : Us} {n : Nat} : ∀ (k d : Nat), ct S U n k ≤ ct S U n (k + d)
  | k, 0 => Nat.le_refl _
  | k, d + 1 => by
    have := ct_mono (S := S) (U := U) (n := n) k d
    show _ ≤ ct S U n (k + d) + _
    omega
theorem ct_s {S : Sh} {U : Us} {n k : Nat} : ct S U n (k + 1) = ct S U n k + if 0 < om S U n (k : Int) then 1 else 0 := rfl
/-- what does not end: the rest of the whole -/
theorem ob_rest {S : Sh} {U : Us} {n : Nat} (hn : n ≤ 9) (hT : Tk S n) (hU : ∀ p, p < n → (U p).1 + (U p).2 = 12) {K : Int} (hK : 541 ≤ K) : 12 ^ n - ob S U n K = om S U n (-1) := by
  rw [← od_tot n hU]
  unfold ob om
  have e : sm (2 ^ n) (fun s => od U n s) = sm (2 ^ n) (fun s => if 0 ≤ en S n s ∧ en S n s < K then od U n s else 0) + sm (2 ^ n) (fun s => if en S n s = -1 then od U n s else 0) := by
    rw [← sm_add]
    refine sm_cg _ (fun s _ => ?_)
    have hb := en_b hT hn s
    show od U n s = (if 0 ≤ en S n s ∧ en S n s < K then od U n s else 0) + (if en S n s = -1 then od U n s else 0)
    by_cases c : en S n s = -1
    · rw [if_neg (by omega), if_pos c]; omega
    · rw [if_pos (by omega), if_neg c]; omega
  rw [e]; omega
def U1 (V : Nat → Int) : Us := fun p => (V p, 12 - V p)
abbrev Vb (V : Nat → Int) : Prop := ∀ p, 0 ≤ V p ∧ V p ≤ 12
theorem U1_b {V : Nat → Int} (h : Vb V) (n : Nat) : Ub (U1 V) n := fun p _ => ⟨h p, by have := h p; show 0 ≤ 12 - V p ∧ 12 - V p ≤ 12; omega⟩
theorem U1_t {V : Nat → Int} (p : Nat) : (U1 V p).1 + (U1 V p).2 = 12 := by show V p + (12 - V p) = 12; omega
