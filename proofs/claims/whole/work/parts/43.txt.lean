/-! texts: the pure reader, what its items come to -/
def nx (n : Nat) (b : Nat → Int) (p : Nat) : Int := if p < n then b p else -1
def nm (c : Int) : Int := if c = 119 then 0 else if c = 100 then 1 else if c = 97 then 2 else if c = 101 then 3 else if c = 103 then 4 else if c = 112 then 5 else -1
def sg (L c : Int) : Int := if L = 0 ∧ c = 124 then -1 else if L = 1 ∧ c = 38 then -2 else if L = 2 ∧ c = 60 then -3 else if L = 2 ∧ c = 61 then -4 else if L = 2 ∧ c = 62 then -5 else if L = 3 ∧ c = 43 then -6 else if L = 3 ∧ c = 45 then -7 else if L = 4 ∧ c = 42 then -8 else if L = 4 ∧ c = 47 then -9 else if L = 4 ∧ c = 37 then -10 else 0
abbrev Rs : Type := Bool × Nat × List Int
abbrev dgt (c : Int) : Prop := 48 ≤ c ∧ c ≤ 57
def dgs (n : Nat) (b : Nat → Int) : Nat → Int → Nat → Int × Nat
  | 0, v, p => (v, p)
  | c + 1, v, p => if dgt (nx n b p) then dgs n b c (v * 10 + nx n b p - 48) (p + 1) else (v, p)
def opr (n : Nat) (b : Nat → Int) (p : Nat) : Rs :=
  if 0 ≤ nm (nx n b p) then (true, p + 1, [-20 - nm (nx n b p)])
  else if ¬ dgt (nx n b p) then (false, p, [])
  else if dgt (nx n b (dgs n b 4 0 p).2) then (false, (dgs n b 4 0 p).2, []) else (true, (dgs n b 4 0 p).2, [(dgs n b 4 0 p).1])
def lp (n : Nat) (b : Nat → Int) (L : Int) (g : Nat → Rs) : Nat → Nat → List Int → Rs
  | 0, p, acc => (true, p, acc)
  | c + 1, p, acc => if sg L (nx n b p) = 0 then (true, p, acc) else if (g (p + 1)).1 = true then lp n b L g c (g (p + 1)).2.1 (acc ++ (g (p + 1)).2.2 ++ [sg L (nx n b p)]) else (false, (g (p + 1)).2.1, [])
def ex (n : Nat) (b : Nat → Int) : Nat → Nat → Nat → Nat → Rs
  | 0, _, _, p => (false, p, [])
  | f + 1, L, o, p =>
    if L < 5 then (if (ex n b f (L + 1) o p).1 = true then lp n b L (fun q => ex n b f (L + 1) o q) (if L = 2 then 1 else 120) (ex n b f (L + 1) o p).2.1 (ex n b f (L + 1) o p).2.2 else (false, (ex n b f (L + 1) o p).2.1, []))
    else if nx n b p = 40 then (if 6 ≤ o then (false, p, []) else if (ex n b f 0 (o + 1) (p + 1)).1 = true then (if nx n b (ex n b f 0 (o + 1) (p + 1)).2.1 = 41 then (true, (ex n b f 0 (o + 1) (p + 1)).2.1 + 1, (ex n b f 0 (o + 1) (p + 1)).2.2) else (false, (ex n b f 0 (o + 1) (p + 1)).2.1, [])) else (false, (ex n b f 0 (o + 1) (p + 1)).2.1, []))
    else if nx n b p = 33 ∨ nx n b p = 45 then (if 6 ≤ o then (false, p, []) else if (ex n b f 5 (o + 1) (p + 1)).1 = true then (true, (ex n b f 5 (o + 1) (p + 1)).2.1, (ex n b f 5 (o + 1) (p + 1)).2.2 ++ [if nx n b p = 33 then -11 else -12]) else (false, (ex n b f 5 (o + 1) (p + 1)).2.1, []))
    else opr n b p
/-- the stack machine -/
def val2 (t a c : Int) : Int := if t = -1 then bz (¬ a = 0 ∨ ¬ c = 0) else if t = -2 then bz (¬ a = 0 ∧ ¬ c = 0) else if t = -3 then bz (a < c) else if t = -4 then bz (a = c) else if t = -5 then bz (c < a) else if t = -6 then w32 (a + c) else if t = -7 then w32 (a - c) else if t = -8 then w32 (a * c) else if t = -9 then (if c = 0 then 0 else zdiv a c) else (if c = 0 then 0 else zrem a c)
def st1 (fc : Int → Int) (t : Int) (s : List Int) : Option (List Int) :=
  if 0 ≤ t then some (t :: s) else if t ≤ -20 then some (fc (-20 - t) :: s)
  else if t = -11 then (match s with | a :: s => some (bz (a = 0) :: s) | [] => none)
  else if t = -12 then (match s with | a :: s => some (w32 (-a) :: s) | [] => none)
  else (match s with | c :: a :: s => some (val2 t a c :: s) | _ => none)
def run (fc : Int → Int) : List Int → List Int → Option (List Int)
  | [], s => some s
  | t :: l, s => (st1 fc t s).bind (run fc l)
def WF (l : List Int) : Prop := ∀ fc : Int → Int, ∃ v : Int, ∀ s : List Int, run fc l s = some (v :: s)
def tok (t : Int) : Prop := (0 ≤ t ∧ t ≤ 9999) ∨ (-25 ≤ t ∧ t ≤ -20) ∨ (-12 ≤ t ∧ t ≤ -1)
def toks (l : List Int) : Prop := ∀ t, t ∈ l → tok t
theorem run_app (fc : Int → Int) : ∀ (l1 l2 s : List Int), run fc (l1 ++ l2) s = (run fc l1 s).bind (run fc l2)
  | [], l2, s => rfl
  | t :: l1, l2, s => by
    show (st1 fc t s).bind (run fc (l1 ++ l2)) = ((st1 fc t s).bind (run fc l1)).bind (run fc l2)
    cases st1 fc t s with
    | none => rfl
    | some s' => exact run_app fc l1 l2 s'
theorem WF.psh {t : Int} (h : 0 ≤ t ∨ t ≤ -20) : WF [t] := by
  intro fc
  by_cases h1 : 0 ≤ t
  · exact ⟨t, fun s => by show (st1 fc t s).bind (run fc []) = _; unfold st1; rw [if_pos h1]; rfl⟩
  · exact ⟨fc (-20 - t), fun s => by show (st1 fc t s).bind (run fc []) = _; unfold st1; rw [if_neg h1, if_pos (by omega)]; rfl⟩
theorem WF.un1 {l : List Int} {t : Int} (h : WF l) (ht : t = -11 ∨ t = -12) : WF (l ++ [t]) := by
  intro fc
  obtain ⟨v, hv⟩ := h fc
  rcases ht with rfl | rfl
  · exact ⟨bz (v = 0), fun s => by rw [run_app, hv s]; rfl⟩
  · exact ⟨w32 (-v), fun s => by rw [run_app, hv s]; rfl⟩
theorem WF.bin {l1 l2 : List Int} {t : Int} (h1 : WF l1) (h2 : WF l2) (ht : -10 ≤ t ∧ t ≤ -1) : WF (l1 ++ l2 ++ [t]) := by
  intro fc
  obtain ⟨v1, hv1⟩ := h1 fc
  obtain ⟨v2, hv2⟩ := h2 fc
  refine ⟨val2 t v1 v2, fun s => ?_⟩
  rw [run_app, run_app, hv1 s]
  show (run fc l2 (v1 :: s)).bind (run fc [t]) = _
  rw [hv2 (v1 :: s)]
  show (st1 fc t (v2 :: v1 :: s)).bind (run fc []) = _
  unfold st1
  rw [if_neg (by omega), if_neg (by omega), if_neg (by omega), if_neg (by omega)]
  rfl
theorem WF.ne {l : List Int} (h : WF l) : l ≠ [] := by
  intro e
  obtain ⟨v, hv⟩ := h (fun _ => 0)
  have := hv []
  rw [e] at this
  exact absurd this (by show ¬ some ([] : List Int) = some [v]; simp)
theorem toks.app {l1 l2 : List Int} (h1 : toks l1) (h2 : toks l2) : toks (l1 ++ l2) := fun t ht => by
  rcases List.mem_append.mp ht with h | h
  · exact h1 t h
  · exact h2 t h
theorem toks.one {t : Int} (h : tok t) : toks [t] := fun t' ht => by
  rw [List.mem_singleton.mp ht]; exact h
theorem sg_b (L c : Int) : -10 ≤ sg L c ∧ sg L c ≤ 0 := by
  unfold sg
  repeat' split
  all_goals omega
theorem sg_end {L c : Int} (h : c < 33) : sg L c = 0 := by
  unfold sg
  repeat' split
  all_goals omega
theorem nm_b (c : Int) : -1 ≤ nm c ∧ nm c ≤ 5 := by
  unfold nm
  repeat' split
  all_goals omega
theorem nm_end {c : Int} (h : 0 ≤ nm c) : 33 ≤ c := by
  unfold nm at h
  repeat' split at h
  all_goals omega
/-- what the reader's answer keeps -/
def Pr (n p : Nat) (r : Rs) : Prop := p ≤ r.2.1 ∧ r.2.1 ≤ n ∧ (r.1 = true → p < r.2.1 ∧ r.2.2.length + p ≤ r.2.1 ∧ WF r.2.2 ∧ toks r.2.2)
section TX
variable {n : Nat} {b : Nat → Int}
theorem nx_lt {p : Nat} (h : 33 ≤ nx n b p) : p < n := by
  unfold nx at h
  by_cases hp : p < n
  · exact hp
  · rw [if_neg hp] at h; omega
theorem dgs_b : ∀ (c : Nat) (v : Int) (p : Nat), 0 ≤ v → p ≤ n → 0 ≤ (dgs n b c v p).1 ∧ (dgs n b c v p).1 + 1 ≤ (v + 1) * 10 ^ c ∧ p ≤ (dgs n b c v p).2 ∧ (dgs n b c v p).2 ≤ n ∧ (0 < c → dgt (nx n b p) → p < (dgs n b c v p).2) := by
  intro c
  induction c with
  | zero => intro v p hv hp; exact ⟨hv, by show v + 1 ≤ (v + 1) * 1; omega, Nat.le_refl _, hp, fun h => by omega⟩
  | succ c ih =>
    intro v p hv hp
    have pw : 1 ≤ (10 : Int) ^ c := by
      have := Int.pow_pos (n := (10 : Int)) (m := c) (by decide)
      omega
    unfold dgs
    by_cases hd : dgt (nx n b p)
    · rw [if_pos hd]
      have hlt := nx_lt (n := n) (b := b) (p := p) (by omega)
      obtain ⟨i1, i2, i3, i4, i5⟩ := ih (v * 10 + nx n b p - 48) (p + 1) (by omega) (by omega)
      refine ⟨i1, ?_, by omega, i4, fun _ _ => by omega⟩
      have e : (v + 1) * 10 ^ (c + 1) = (v * 10 + 10) * 10 ^ c := by
        rw [Int.pow_succ, Int.mul_comm ((10 : Int) ^ c) 10, ← Int.mul_assoc]
        congr 1
        omega
      rw [e]
      exact Int.le_trans i2 (Int.mul_le_mul_of_nonneg_right (by omega) (by omega))
    · rw [if_neg hd]
      refine ⟨hv, ?_, Nat.le_refl _, hp, fun _ q => absurd q hd⟩
      have : (v + 1) * 1 ≤ (v + 1) * 10 ^ (c + 1) := by
        refine Int.mul_le_mul_of_nonneg_left ?_ (by omega)
        rw [Int.pow_succ]
        omega
      omega
theorem oprP {p : Nat} (hp : p ≤ n) : Pr n p (opr n b p) := by
  unfold opr
  by_cases h1 : 0 ≤ nm (nx n b p)
  · rw [if_pos h1]
    have h2 := nm_b (nx n b p)
    have h3 := nx_lt (n := n) (b := b) (p := p) (nm_end h1)
    exact ⟨by show p ≤ p + 1; omega, by show p + 1 ≤ n; omega, fun _ => ⟨by show p < p + 1; omega, by show 1 + p ≤ p + 1; omega, WF.psh (by omega), toks.one (by unfold tok; omega)⟩⟩
  · rw [if_neg h1]
    by_cases h2 : ¬ dgt (nx n b p)
    · rw [if_pos h2]
      exact ⟨Nat.le_refl _, hp, fun h => by cases h⟩
    · rw [if_neg h2]
      obtain ⟨i1, i2, i3, i4, i5⟩ := dgs_b (n := n) (b := b) 4 0 p (by omega) hp
      have i5 := i5 (by omega) (Decidable.not_not.mp h2)
      by_cases h3 : dgt (nx n b (dgs n b 4 0 p).2)
      · rw [if_pos h3]
        exact ⟨i3, i4, fun h => by cases h⟩
      · rw [if_neg h3]
        exact ⟨i3, i4, fun _ => ⟨i5, by show 1 + p ≤ (dgs n b 4 0 p).2; omega, WF.psh (Or.inl i1), toks.one (by unfold tok; omega)⟩⟩
theorem lpP {L : Int} {g : Nat → Rs} (hg : ∀ q, q ≤ n → Pr n q (g q)) : ∀ (c p : Nat) (acc : List Int) (p0 : Nat), p0 < p → p ≤ n → acc.length + p0 ≤ p → WF acc → toks acc → Pr n p0 (lp n b L g c p acc) := by
  intro c
  induction c with
  | zero => intro p acc p0 h0 hp hl hw ht; exact ⟨by show p0 ≤ p; omega, hp, fun _ => ⟨h0, hl, hw, ht⟩⟩
  | succ c ih =>
    intro p acc p0 h0 hp hl hw ht
    unfold lp
    by_cases h1 : sg L (nx n b p) = 0
    · rw [if_pos h1]
      exact ⟨by show p0 ≤ p; omega, hp, fun _ => ⟨h0, hl, hw, ht⟩⟩
    · rw [if_neg h1]
      have hlt : p < n := nx_lt (n := n) (b := b) (p := p) (by
        by_cases q : nx n b p < 33
        · exact absurd (sg_end q) h1
        · omega)
      have hsg := sg_b L (nx n b p)
      obtain ⟨g1, g2, g3⟩ := hg (p + 1) (by omega)
      by_cases h2 : (g (p + 1)).1 = true
      · rw [if_pos h2]
        obtain ⟨g4, g5, g6, g7⟩ := g3 h2
        refine ih _ _ p0 (by omega) g2 ?_ (hw.bin g6 (by omega)) ((ht.app g7).app (toks.one (by unfold tok; omega)))
        rw [List.length_append, List.length_append]
        show acc.length + (g (p + 1)).2.2.length + 1 + p0 ≤ _
        omega
      · rw [if_neg h2]
        exact ⟨by show p0 ≤ (g (p + 1)).2.1; omega, g2, fun h => by cases h⟩
theorem exP : ∀ (f L o p : Nat), L ≤ 5 → o ≤ 6 → p ≤ n → Pr n p (ex n b f L o p) := by
  intro f
  induction f with
  | zero => intro L o p _ _ hp; exact ⟨Nat.le_refl _, hp, fun h => by cases h⟩
  | succ f ih =>
    intro L o p hL ho hp
    unfold ex
    by_cases h1 : L < 5
    · rw [if_pos h1]
      obtain ⟨g1, g2, g3⟩ := ih (L + 1) o p (by omega) ho hp
      by_cases h2 : (ex n b f (L + 1) o p).1 = true
      · rw [if_pos h2]
        obtain ⟨g4, g5, g6, g7⟩ := g3 h2
        exact lpP (fun q hq => ih (L + 1) o q (by omega) ho hq) _ _ _ p g4 g2 g5 g6 g7
      · rw [if_neg h2]
        exact ⟨g1, g2, fun h => by cases h⟩
    · rw [if_neg h1]
      by_cases h2 : nx n b p = 40
      · rw [if_pos h2]
        have hlt := nx_lt (n := n) (b := b) (p := p) (by omega)
        by_cases h3 : 6 ≤ o
        · rw [if_pos h3]
          exact ⟨Nat.le_refl _, hp, fun h => by cases h⟩
        · rw [if_neg h3]
          obtain ⟨g1, g2, g3⟩ := ih 0 (o + 1) (p + 1) (by omega) (by omega) (by omega)
          by_cases h4 : (ex n b f 0 (o + 1) (p + 1)).1 = true
          · rw [if_pos h4]
            obtain ⟨g4, g5, g6, g7⟩ := g3 h4
            by_cases h5 : nx n b (ex n b f 0 (o + 1) (p + 1)).2.1 = 41
            · rw [if_pos h5]
              have hl2 := nx_lt (n := n) (b := b) (p := (ex n b f 0 (o + 1) (p + 1)).2.1) (by omega)
              exact ⟨by show p ≤ (ex n b f 0 (o + 1) (p + 1)).2.1 + 1; omega, hl2, fun _ => ⟨by show p < (ex n b f 0 (o + 1) (p + 1)).2.1 + 1; omega, by show (ex n b f 0 (o + 1) (p + 1)).2.2.length + p ≤ (ex n b f 0 (o + 1) (p + 1)).2.1 + 1; omega, g6, g7⟩⟩
            · rw [if_neg h5]
              exact ⟨by show p ≤ (ex n b f 0 (o + 1) (p + 1)).2.1; omega, g2, fun h => by cases h⟩
          · rw [if_neg h4]
            exact ⟨by show p ≤ (ex n b f 0 (o + 1) (p + 1)).2.1; omega, g2, fun h => by cases h⟩
      · rw [if_neg h2]
        by_cases h6 : nx n b p = 33 ∨ nx n b p = 45
        · rw [if_pos h6]
          have hlt := nx_lt (n := n) (b := b) (p := p) (by omega)
          by_cases h3 : 6 ≤ o
          · rw [if_pos h3]
            exact ⟨Nat.le_refl _, hp, fun h => by cases h⟩
          · rw [if_neg h3]
            obtain ⟨g1, g2, g3⟩ := ih 5 (o + 1) (p + 1) (by omega) (by omega) (by omega)
            by_cases h4 : (ex n b f 5 (o + 1) (p + 1)).1 = true
            · rw [if_pos h4]
              obtain ⟨g4, g5, g6, g7⟩ := g3 h4
              have ht : (if nx n b p = 33 then (-11 : Int) else -12) = -11 ∨ (if nx n b p = 33 then (-11 : Int) else -12) = -12 := by
                by_cases q : nx n b p = 33
                · rw [if_pos q]; exact Or.inl rfl
                · rw [if_neg q]; exact Or.inr rfl
              refine ⟨by show p ≤ (ex n b f 5 (o + 1) (p + 1)).2.1; omega, g2, fun _ => ⟨by show p < (ex n b f 5 (o + 1) (p + 1)).2.1; omega, ?_, g6.un1 ht, g7.app (toks.one (by unfold tok; omega))⟩⟩
              show ((ex n b f 5 (o + 1) (p + 1)).2.2 ++ [_]).length + p ≤ (ex n b f 5 (o + 1) (p + 1)).2.1
              rw [List.length_append]
              show (ex n b f 5 (o + 1) (p + 1)).2.2.length + 1 + p ≤ _
              omega
            · rw [if_neg h4]
              exact ⟨by show p ≤ (ex n b f 5 (o + 1) (p + 1)).2.1; omega, g2, fun h => by cases h⟩
        · rw [if_neg h6]
          exact oprP hp
end TX
