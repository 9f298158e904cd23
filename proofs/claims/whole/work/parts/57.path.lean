/-! paths: the pure ones -/
abbrev Sh : Type := Nat → Nat × Bool × Int
def wtl (A : Nat) (Y : Bool) (g : Nat → Int) : Nat → Nat → Int → Int
  | 0, _, t => t
  | f + 1, q, t => if A.testBit q = false then wtl A Y g f (q + 1) t else if g q < 0 then (if Y = true then wtl A Y g f (q + 1) t else -1) else wtl A Y g f (q + 1) (if t < 0 ∨ (if Y = true then g q < t else t < g q) then g q else t)
def wt (A : Nat) (Y : Bool) (g : Nat → Int) (p : Nat) : Int := wtl A Y g p 0 (if A = 0 then 0 else -1)
def gt (S : Sh) (s : Nat) : Nat → Nat → Int
  | 0, _ => -1
  | p + 1, q => if q = p then (if s.testBit p = true ∧ 0 ≤ wt (S p).1 (S p).2.1 (gt S s p) p then wt (S p).1 (S p).2.1 (gt S s p) p + (S p).2.2 else -1) else gt S s p q
/-- the minute in which a part has gone -/
def gm (S : Sh) (s p : Nat) : Int := gt S s (p + 1) p
/-- the minute in which it may begin -/
def ws (S : Sh) (s p : Nat) : Int := wt (S p).1 (S p).2.1 (gm S s) p
def go (S : Sh) (s : Nat) : Nat → Nat
  | 0 => 0
  | p + 1 => go S s p ||| (if 0 ≤ gm S s p then 2 ^ p else 0)
def sk (S : Sh) (s : Nat) : Nat → Nat
  | 0 => 0
  | p + 1 => sk S s p ||| (if s.testBit p = false ∧ 0 ≤ ws S s p then 2 ^ p else 0)
/-- the minute in which the end comes -/
def en (S : Sh) (n s : Nat) : Int := if n = 0 then -1 else gm S s (n - 1)
theorem wtl_cg {A : Nat} {Y : Bool} {g g' : Nat → Int} : ∀ (f q : Nat) (t : Int), (∀ q', q ≤ q' → q' < q + f → g q' = g' q') → wtl A Y g f q t = wtl A Y g' f q t
  | 0, _, _, _ => rfl
  | f + 1, q, t, h => by
    have ih := fun t => wtl_cg (A := A) (Y := Y) f (q + 1) t (fun q' a b => h q' (by omega) (by omega))
    unfold wtl
    rw [h q (Nat.le_refl q) (by omega), ih, ih]
theorem gt_eq (S : Sh) (s : Nat) : ∀ (p q : Nat), q < p → gt S s p q = gm S s q
  | 0, q, h => absurd h (Nat.not_lt_zero _)
  | p + 1, q, h => by
    by_cases c : q = p
    · subst c; rfl
    · have e : gt S s (p + 1) q = gt S s p q := if_neg c
      rw [e]
      exact gt_eq S s p q (by omega)
theorem gm_eq (S : Sh) (s p : Nat) : gm S s p = if s.testBit p = true ∧ 0 ≤ ws S s p then ws S s p + (S p).2.2 else -1 := by
  have e : wt (S p).1 (S p).2.1 (gt S s p) p = ws S s p := wtl_cg _ _ _ (fun q' _ b => gt_eq S s p q' (by omega))
  have e2 : gm S s p = if s.testBit p = true ∧ 0 ≤ wt (S p).1 (S p).2.1 (gt S s p) p then wt (S p).1 (S p).2.1 (gt S s p) p + (S p).2.2 else -1 := if_pos rfl
  rw [e2, e]
theorem wtl_b {A : Nat} {Y : Bool} {g : Nat → Int} {B : Int} : ∀ (f q : Nat) (t : Int), (∀ q', q ≤ q' → q' < q + f → g q' ≤ B) → -1 ≤ t → t ≤ B → 0 ≤ B → -1 ≤ wtl A Y g f q t ∧ wtl A Y g f q t ≤ B
  | 0, _, t, _, h1, h2, _ => ⟨h1, h2⟩
  | f + 1, q, t, h, h1, h2, h3 => by
    have ih := fun t => wtl_b (A := A) (Y := Y) (g := g) (B := B) f (q + 1) t (fun q' a b => h q' (by omega) (by omega))
    have hq := h q (Nat.le_refl q) (by omega)
    unfold wtl
    by_cases c1 : A.testBit q = false
    · rw [if_pos c1]; exact ih t h1 h2 h3
    · rw [if_neg c1]
      by_cases c2 : g q < 0
      · rw [if_pos c2]
        by_cases c3 : Y = true
        · rw [if_pos c3]; exact ih t h1 h2 h3
        · rw [if_neg c3]; omega
      · rw [if_neg c2]
        refine ih _ ?_ ?_ h3
        · split <;> omega
        · split <;> omega
abbrev Tk (S : Sh) (n : Nat) : Prop := ∀ p, p < n → 1 ≤ (S p).2.2 ∧ (S p).2.2 ≤ 60
theorem gm_b {S : Sh} {n : Nat} (hT : Tk S n) (s : Nat) : ∀ p, p < n → (-1 ≤ ws S s p ∧ ws S s p ≤ 60 * (p : Int)) ∧ -1 ≤ gm S s p ∧ gm S s p ≤ 60 * ((p : Int) + 1) ∧ ¬ gm S s p = 0 := by
  intro p
  induction p using Nat.strongRecOn with
  | ind p ih =>
    intro hp
    have hw : -1 ≤ ws S s p ∧ ws S s p ≤ 60 * (p : Int) := by
      refine wtl_b p 0 _ (fun q' _ b => ?_) ?_ ?_ (by omega)
      · have := ih q' (by omega) (by omega)
        omega
      · split <;> omega
      · split <;> omega
    have ht := hT p hp
    refine ⟨hw, ?_⟩
    rw [gm_eq]
    split
    · omega
    · omega
theorem gm_b2 {S : Sh} {n : Nat} (hT : Tk S n) (hn : n ≤ 9) (s : Nat) {p : Nat} (hp : p < n) : -1 ≤ gm S s p ∧ gm S s p ≤ 540 := by
  have := gm_b hT s p hp
  omega
theorem en_b {S : Sh} {n : Nat} (hT : Tk S n) (hn : n ≤ 9) (s : Nat) : -1 ≤ en S n s ∧ en S n s ≤ 540 := by
  unfold en
  by_cases c : n = 0
  · rw [if_pos c]; omega
  · rw [if_neg c]; exact gm_b2 hT hn s (by omega)
/-- parts of greater number don't matter -/
theorem gm_bits {S : Sh} {s s' : Nat} : ∀ p, (∀ q, q ≤ p → s.testBit q = s'.testBit q) → gm S s p = gm S s' p ∧ ws S s p = ws S s' p := by
  intro p
  induction p using Nat.strongRecOn with
  | ind p ih =>
    intro h
    have hw : ws S s p = ws S s' p := wtl_cg _ _ _ (fun q' _ b => (ih q' (by omega) (fun q hq => h q (by omega))).1)
    refine ⟨?_, hw⟩
    rw [gm_eq, gm_eq, hw, h p (Nat.le_refl p)]
theorem ws_bits {S : Sh} {s s' : Nat} (p : Nat) (h : ∀ q, q < p → s.testBit q = s'.testBit q) : ws S s p = ws S s' p :=
  wtl_cg _ _ _ (fun q' _ b => (gm_bits q' (fun q hq => h q (by omega))).1)
theorem go_bits {S : Sh} {s s' : Nat} : ∀ p, (∀ q, q < p → s.testBit q = s'.testBit q) → go S s p = go S s' p
  | 0, _ => rfl
  | p + 1, h => by
    show go S s p ||| _ = go S s' p ||| _
    rw [go_bits p (fun q hq => h q (by omega)), (gm_bits p (fun q hq => h q (by omega))).1]
theorem sk_bits {S : Sh} {s s' : Nat} : ∀ p, (∀ q, q < p → s.testBit q = s'.testBit q) → sk S s p = sk S s' p
  | 0, _ => rfl
  | p + 1, h => by
    show sk S s p ||| _ = sk S s' p ||| _
    rw [sk_bits p (fun q hq => h q (by omega)), (gm_bits p (fun q hq => h q (by omega))).2, h p (by omega)]
theorem or_lt {a b p : Nat} (ha : a < 2 ^ (p + 1)) (hb : b < 2 ^ (p + 1)) : a ||| b < 2 ^ (p + 1) := Nat.or_lt_two_pow ha hb
theorem go_lt (S : Sh) (s : Nat) : ∀ p, go S s p < 2 ^ p
  | 0 => Nat.zero_lt_one
  | p + 1 => by
    have h1 := go_lt S s p
    have h2 : 2 ^ (p + 1) = 2 ^ p + 2 ^ p := by rw [Nat.pow_succ]; omega
    refine or_lt (by omega) ?_
    split <;> omega
theorem sk_lt (S : Sh) (s : Nat) : ∀ p, sk S s p < 2 ^ p
  | 0 => Nat.zero_lt_one
  | p + 1 => by
    have h1 := sk_lt S s p
    have h2 : 2 ^ (p + 1) = 2 ^ p + 2 ^ p := by rw [Nat.pow_succ]; omega
    refine or_lt (by omega) ?_
    split <;> omega
theorem ite_bit (c : Prop) [Decidable c] (p q : Nat) : (if c then 2 ^ p else 0).testBit q = (decide c && decide (p = q)) := by
  by_cases h : c
  · rw [if_pos h, Nat.testBit_two_pow]; simp [h]
  · rw [if_neg h, Nat.zero_testBit]; simp [h]
theorem go_bit (S : Sh) (s : Nat) : ∀ p q, (go S s p).testBit q = (decide (q < p) && decide (0 ≤ gm S s q))
  | 0, q => by
    show (0 : Nat).testBit q = _
    rw [Nat.zero_testBit]; simp
  | p + 1, q => by
    show (go S s p ||| (if 0 ≤ gm S s p then 2 ^ p else 0)).testBit q = _
    rw [Nat.testBit_or, go_bit S s p q, ite_bit]
    by_cases c : q = p
    · subst c; simp
    · have e1 : decide (p = q) = false := by simp; omega
      have e2 : decide (q < p + 1) = decide (q < p) := by by_cases c2 : q < p <;> simp [c2] <;> omega
      rw [e1, e2]; simp
theorem sk_bit (S : Sh) (s : Nat) : ∀ p q, (sk S s p).testBit q = (decide (q < p) && decide (s.testBit q = false ∧ 0 ≤ ws S s q))
  | 0, q => by
    show (0 : Nat).testBit q = _
    rw [Nat.zero_testBit]; simp
  | p + 1, q => by
    show (sk S s p ||| (if s.testBit p = false ∧ 0 ≤ ws S s p then 2 ^ p else 0)).testBit q = _
    rw [Nat.testBit_or, sk_bit S s p q, ite_bit]
    by_cases c : q = p
    · subst c; simp
    · have e1 : decide (p = q) = false := by simp; omega
      have e2 : decide (q < p + 1) = decide (q < p) := by by_cases c2 : q < p <;> simp [c2] <;> omega
      rw [e1, e2]; simp
/-- bits, as both read them -/
theorem bit_z {s p : Nat} (hs : s < 2147483648) (hp : p < 32) : zand (zshr (s : Int) (p : Int)) 1 = if s.testBit p = true then 1 else 0 := by
  have e1 : s >>> p ≤ s := by rw [Nat.shiftRight_eq_div_pow]; exact Nat.div_le_self _ _
  rw [zshr_nat hs hp, show (1 : Int) = ((1 : Nat) : Int) from rfl, zand_nat (by omega) (by decide), Nat.and_one_is_mod, Nat.shiftRight_eq_div_pow, Nat.testBit_eq_decide_div_mod_eq]
  have e2 : s / 2 ^ p % 2 = 0 ∨ s / 2 ^ p % 2 = 1 := by omega
  rcases e2 with e2 | e2 <;> rw [e2] <;> decide
theorem mask_z {s k : Nat} (hs : s < 2147483648) (hk : k ≤ 30) : zand (s : Int) (((2 ^ k : Nat) : Int) - 1) = ((s % 2 ^ k : Nat) : Int) := by
  have h1 : 2 ^ k ≤ 2 ^ 30 := Nat.pow_le_pow_right (by decide) hk
  have h2 : 1 ≤ 2 ^ k := Nat.one_le_two_pow
  have e : ((2 ^ k : Nat) : Int) - 1 = ((2 ^ k - 1 : Nat) : Int) := by omega
  rw [e, zand_nat hs (by have : (2 : Nat) ^ 30 = 1073741824 := by decide
                         omega), Nat.and_two_pow_sub_one_eq_mod]
theorem p9 {k : Nat} (h : k ≤ 9) : 1 ≤ 2 ^ k ∧ 2 ^ k ≤ 512 := by
  have h1 : 2 ^ k ≤ 2 ^ 9 := Nat.pow_le_pow_right (by decide) h
  exact ⟨Nat.one_le_two_pow, h1⟩
theorem p2s (k : Nat) : 2 ^ (k + 1) = 2 ^ k + 2 ^ k := by rw [Nat.pow_succ]; omega
theorem bit_add_lt {s p q : Nat} (hs : s < 2 ^ p) (hq : q < p) : (s + 2 ^ p).testBit q = s.testBit q := by
  rw [Nat.add_comm, Nat.testBit_two_pow_add_gt hq]
theorem bit_add_eq {s p : Nat} (hs : s < 2 ^ p) : (s + 2 ^ p).testBit p = true := by
  rw [Nat.add_comm, Nat.testBit_two_pow_add_eq, Nat.testBit_lt_two_pow hs]; rfl
/-- a set of those of less number, without and with a part -/
theorem gm_without {S : Sh} {s p : Nat} (hs : s < 2 ^ p) : gm S s p = -1 := by
  rw [gm_eq, Nat.testBit_lt_two_pow hs]; rfl
theorem gm_with {S : Sh} {s p : Nat} (hs : s < 2 ^ p) : gm S (s + 2 ^ p) p = if 0 ≤ ws S s p then ws S s p + (S p).2.2 else -1 := by
  rw [gm_eq, bit_add_eq hs, ws_bits p (fun q hq => bit_add_lt hs hq)]
  by_cases c : 0 ≤ ws S s p
  · rw [if_pos ⟨rfl, c⟩, if_pos c]
  · rw [if_neg (fun q => c q.2), if_neg c]
theorem go_without {S : Sh} {s p : Nat} (hs : s < 2 ^ p) : go S s (p + 1) = go S s p := by
  show go S s p ||| _ = _
  rw [gm_without hs]
  exact Nat.or_zero _
theorem go_with {S : Sh} {n : Nat} (hT : Tk S n) {s p : Nat} (hp : p < n) (hs : s < 2 ^ p) : go S (s + 2 ^ p) (p + 1) = go S s p ||| (if 0 ≤ ws S s p then 2 ^ p else 0) := by
  show go S (s + 2 ^ p) p ||| _ = _
  rw [go_bits p (fun q hq => bit_add_lt hs hq), gm_with hs]
  have ht := hT p hp
  by_cases c : 0 ≤ ws S s p
  · rw [if_pos c, if_pos c, if_pos (by omega)]
  · rw [if_neg c, if_neg c]; rfl
theorem sk_without {S : Sh} {s p : Nat} (hs : s < 2 ^ p) : sk S s (p + 1) = sk S s p ||| (if 0 ≤ ws S s p then 2 ^ p else 0) := by
  show sk S s p ||| _ = _
  rw [Nat.testBit_lt_two_pow hs]
  by_cases c : 0 ≤ ws S s p
  · rw [if_pos ⟨rfl, c⟩, if_pos c]
  · rw [if_neg (fun q => c q.2), if_neg c]
theorem sk_with {S : Sh} {s p : Nat} (hs : s < 2 ^ p) : sk S (s + 2 ^ p) (p + 1) = sk S s p := by
  show sk S (s + 2 ^ p) p ||| _ = _
  rw [sk_bits p (fun q hq => bit_add_lt hs hq), bit_add_eq hs]
  exact Nat.or_zero _
theorem mod_bits {s k q : Nat} (h : q < k) : (s % 2 ^ k).testBit q = s.testBit q := by
  rw [Nat.testBit_mod_two_pow]; simp [h]
theorem gm_mod {S : Sh} (s p : Nat) : gm S (s % 2 ^ (p + 1)) p = gm S s p := (gm_bits p (fun q hq => mod_bits (by omega))).1
theorem en_mod {S : Sh} (n s : Nat) : en S n (s % 2 ^ n) = en S n s := by
  unfold en
  by_cases c : n = 0
  · rw [if_pos c, if_pos c]
  · rw [if_neg c, if_neg c]
    exact (gm_bits _ (fun q hq => mod_bits (by omega))).1
theorem go_mod {S : Sh} (n s : Nat) : go S (s % 2 ^ n) n = go S s n := go_bits n (fun q hq => mod_bits hq)
theorem sk_mod {S : Sh} (n s : Nat) : sk S (s % 2 ^ n) n = sk S s n := sk_bits n (fun q hq => mod_bits hq)
/-- the class's way to the beginning: so many have come -/
theorem wtl_never {A : Nat} {g : Nat → Int} : ∀ (f q : Nat) (t : Int), (∃ q', q ≤ q' ∧ q' < q + f ∧ A.testBit q' = true ∧ g q' < 0) → wtl A false g f q t = -1
  | 0, q, t, ⟨q', h1, h2, _⟩ => absurd h2 (by omega)
  | f + 1, q, t, ⟨q', h1, h2, h3, h4⟩ => by
    have ih := fun t => wtl_never (A := A) (g := g) f (q + 1) t
    unfold wtl
    by_cases c : q = q'
    · subst c
      rw [if_neg (by rw [h3]; decide), if_pos h4, if_neg (by decide)]
    · have hx : ∃ q', q + 1 ≤ q' ∧ q' < q + 1 + f ∧ A.testBit q' = true ∧ g q' < 0 := ⟨q', by omega, by omega, h3, h4⟩
      rw [ih t hx, ih _ hx]
      split
      · rfl
      · split
        · split <;> rfl
        · rfl
theorem wtl_none {A : Nat} {g : Nat → Int} : ∀ (f q : Nat) (t : Int), (∀ q', q ≤ q' → q' < q + f → A.testBit q' = true → g q' < 0) → wtl A true g f q t = t
  | 0, q, t, _ => rfl
  | f + 1, q, t, h => by
    have ih := wtl_none (A := A) (g := g) f (q + 1) t (fun q' a b => h q' (by omega) (by omega))
    unfold wtl
    rw [ih]
    by_cases c : A.testBit q = false
    · rw [if_pos c]
    · rw [if_neg c, if_pos (h q (Nat.le_refl q) (by omega) (by simpa using c)), if_pos rfl]
