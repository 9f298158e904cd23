/-! texts: the class's reader, its small methods -/
def Sg (row : Int → Int) : Int → List Int → Prop
  | _, [] => True
  | D, t :: l => row D = t ∧ Sg row (D + 1) l
theorem Sg.app {row : Int → Int} : ∀ {l1 l2 : List Int} {D : Int}, Sg row D (l1 ++ l2) ↔ Sg row D l1 ∧ Sg row (D + (l1.length : Int)) l2
  | [], l2, D => by
    show Sg row D l2 ↔ True ∧ Sg row (D + ((0 : Nat) : Int)) l2
    rw [show D + ((0 : Nat) : Int) = D by omega]
    exact ⟨fun h => ⟨trivial, h⟩, fun h => h.2⟩
  | t :: l1, l2, D => by
    show (row D = t ∧ Sg row (D + 1) (l1 ++ l2)) ↔ (row D = t ∧ Sg row (D + 1) l1) ∧ Sg row (D + ((l1.length + 1 : Nat) : Int)) l2
    have ih := Sg.app (row := row) (l1 := l1) (l2 := l2) (D := D + 1)
    rw [ih, show D + 1 + (l1.length : Int) = D + ((l1.length + 1 : Nat) : Int) by omega]
    exact ⟨fun h => ⟨⟨h.1, h.2.1⟩, h.2.2⟩, fun h => ⟨h.1.1, h.1.2, h.2⟩⟩
theorem Sg.fr {row row' : Int → Int} : ∀ {l : List Int} {D : Int}, Sg row D l → (∀ k, D ≤ k → k < D + (l.length : Int) → row' k = row k) → Sg row' D l
  | [], _, _, _ => trivial
  | t :: l, D, h, f => by
    have hl : (((t :: l).length : Nat) : Int) = (l.length : Int) + 1 := by rw [List.length_cons]; omega
    exact ⟨(f D (by omega) (by omega)).trans h.1, Sg.fr h.2 (fun k a b => f k (by omega) (by omega))⟩
theorem rdr_b (sw : Bool) : 21 ≤ rdraft sw ∧ rdraft sw ≤ 22 := by cases sw <;> decide
theorem rco_b (sw : Bool) : 21 ≤ rcode sw ∧ rcode sw ≤ 22 ∧ ¬ rcode sw = rdraft sw := by cases sw <;> decide
theorem rsw (sw : Bool) : rcode (!sw) = rdraft sw ∧ rdraft (!sw) = rcode sw := by cases sw <;> exact ⟨rfl, rfl⟩
/-- only the draft and how far the reader is have changed -/
def FrL (sw : Bool) (m m' : Mem) : Prop := ∀ c j : Int, ¬ (c = 18 ∧ 6 ≤ j ∧ j ≤ 8) → ¬ c = rdraft sw → m' c j = m c j
theorem FrL.rf (sw : Bool) (m : Mem) : FrL sw m m := fun _ _ _ _ => rfl
theorem FrL.tr {sw : Bool} {m1 m2 m3 : Mem} (h : FrL sw m1 m2) (g : FrL sw m2 m3) : FrL sw m1 m3 := fun c j q r => (g c j q r).trans (h c j q r)
theorem FrL.up {sw : Bool} {m : Mem} {i v : Int} (h : 6 ≤ i ∧ i ≤ 8) : FrL sw m (upm m 18 i v) := fun c j q _ => upm_ne (by omega)
theorem FrL.dr {sw : Bool} {m : Mem} {i v : Int} : FrL sw m (upm m (rdraft sw) i v) := fun c j _ q => upm_ne (fun p => q p.1)
/-- the class's tape -/
def tT (n : Nat) (b : Nat → Int) (m : Mem) : Prop := m 18 4 = n ∧ n ≤ 120 ∧ ∀ i : Nat, i < n → m 19 i = b i ∧ 0 ≤ b i ∧ b i ≤ 255
theorem tT.fr {n : Nat} {b : Nat → Int} {sw : Bool} {m m' : Mem} (h : tT n b m) (f : FrL sw m m') : tT n b m' := by
  have hb := rdr_b sw
  refine ⟨by rw [f 18 4 (by omega) (by omega)]; exact h.1, h.2.1, fun i hi => ?_⟩
  rw [f 19 i (by omega) (by omega)]
  exact h.2.2 i hi
/-- the reader stands at p, no fault so far, D items written -/
def tA (n p : Nat) (D : Int) (m : Mem) : Prop := m 18 7 = p ∧ p ≤ n ∧ m 18 8 = 0 ∧ m 18 6 = D ∧ 0 ≤ D ∧ D ≤ p
/-- a fault at p, told or about to be told -/
def tB (n : Nat) (b : Nat → Int) (p : Nat) (m : Mem) : Prop := m 18 7 = p ∧ p ≤ n ∧ (0 ≤ m 18 6 ∧ m 18 6 ≤ 128) ∧ (m 18 8 = 1 ∨ (m 18 8 = 0 ∧ dgt (nx n b p)))
def XP (sw : Bool) (n : Nat) (b : Nat → Int) (D : Int) (m : Mem) (r : Rs) (m' : Mem) : Prop :=
  FrL sw m m' ∧ ((r.1 = true ∧ tA n r.2.1 (D + (r.2.2.length : Int)) m' ∧ (∀ k, k < D → m' (rdraft sw) k = m (rdraft sw) k) ∧ Sg (m' (rdraft sw)) D r.2.2) ∨ (¬ r.1 = true ∧ tB n b r.2.1 m'))
theorem XP.F {sw : Bool} {n : Nat} {b : Nat → Int} {D : Int} {m m' : Mem} {r : Rs} (h : XP sw n b D m r m') : FrL sw m m' := h.1
section XL
variable {X : Cx} {sw : Bool} {m : Mem} {Q : Int → Bool → Mem → Prop} {n : Nat} {b : Nat → Int}
theorem nx_b {p : Nat} (hT : tT n b m) : -1 ≤ nx n b p ∧ nx n b p ≤ 255 := by
  unfold nx
  by_cases h : p < n
  · rw [if_pos h]
    have := hT.2.2 p h
    omega
  · rw [if_neg h]; omega
theorem eL_next {p : Nat} (hT : tT n b m) (h7 : m 18 7 = p) (hp : p ≤ n) (h8 : m 18 8 = 0 ∨ m 18 8 = 1) (h0 : m 18 8 = 0 → Q (nx n b p) sw m) (h1 : m 18 8 = 1 → Q (-1) sw m) : M2 X 1 mL_next [vr 18] sw m Q := by
  have hn := hT.2.1
  refine wL_next _ _ _ ?_
  rw [h7, hT.1, w32_id (z := m 18 8) (by omega) (by omega), w32_id (z := (p : Int)) (by omega) (by omega), w32_id (z := (n : Int)) (by omega) (by omega)]
  refine ⟨fun c => h1 (by omega), fun c => ⟨fun q => by omega, fun _ => ⟨fun q => ⟨by omega, ?_⟩, fun q => ?_⟩⟩⟩
  · have := h0 (by omega)
    unfold nx at this
    rw [if_pos (by omega)] at this
    rw [(hT.2.2 p (by omega)).1]
    exact this
  · have := h0 (by omega)
    unfold nx at this
    rw [if_neg (by omega)] at this
    exact this
/-- what the class finds next behind a fault is no sign, no name -/
theorem eL_nextB {p : Nat} (hT : tT n b m) (hB : tB n b p m) (h : ∀ z, (z = -1 ∨ dgt z) → (m 18 8 = 1 → z = -1) → Q z sw m) : M2 X 1 mL_next [vr 18] sw m Q := by
  obtain ⟨h1, h2, h3, h4⟩ := hB
  refine eL_next hT h1 h2 (by omega) (fun q => h _ ?_ (fun q2 => by omega)) (fun q => h _ (Or.inl rfl) (fun _ => rfl))
  rcases h4 with h4 | h4
  · omega
  · exact Or.inr h4.2
def emi (sw : Bool) (m : Mem) (D t : Int) : Mem := upm (upm m (rdraft sw) D t) 18 6 (D + 1)
theorem eL_emit {D t : Int} (h8 : m 18 8 = 0) (h6 : m 18 6 = D) (hD : 0 ≤ D ∧ D < 128) (h : Q 0 sw (emi sw m D t)) : M2 X 1 mL_emit [vr 18, vi t] sw m Q := by
  have hb := rdr_b sw
  refine wL_emit _ _ _ _ ?_
  rw [h8, h6, w32_id (z := D) (by omega) (by omega), upm_row (show ¬ (18 : Int) = rdraft sw by omega), h6]
  exact ⟨fun q => absurd (by decide) q, fun _ => ⟨fun q => by omega, fun _ => ⟨hD, h⟩⟩⟩
theorem eL_emitB {p : Nat} {t : Int} {m0 : Mem} (hB : tB n b p m) (hF : FrL sw m0 m) (h : ∀ m', FrL sw m0 m' → tB n b p m' → Q 0 sw m') : M2 X 1 mL_emit [vr 18, vi t] sw m Q := by
  have hb := rdr_b sw
  have hB' := hB
  obtain ⟨h1, h2, h3, h4⟩ := hB'
  refine wL_emit _ _ _ _ ?_
  rw [w32_id (z := m 18 8) (by omega) (by omega), w32_id (z := m 18 6) (by omega) (by omega)]
  refine ⟨fun c => h m hF hB, fun c => ⟨fun c2 => h m hF hB, fun c2 => ⟨by omega, h _ (hF.tr (FrL.dr.tr (FrL.up (by omega)))) ?_⟩⟩⟩
  unfold tB
  rw [upm_at, upm_at, upm_at, if_neg (by omega), if_pos rfl, if_neg (by omega), upm_row (show ¬ (18 : Int) = rdraft sw by omega)]
  exact ⟨h1, h2, by omega, h4⟩
theorem eL_acceptB {p : Nat} {a : Int} {m0 : Mem} (ha : w32 a = a) (ha2 : ¬ (a = -1 ∨ dgt a)) (hT : tT n b m) (hB : tB n b p m) (hF : FrL sw m0 m) (h : ∀ m', FrL sw m0 m' → tB n b p m' → m' 18 8 = 1 → Q 0 sw m') : M2 X 2 mL_accept [vr 18, vi a] sw m Q := by
  refine wL_accept _ _ _ _ (eL_nextB hT hB (fun z hz _ => ?_))
  rw [ha, w32_id (z := z) (by omega) (by omega)]
  obtain ⟨h1, h2, h3, h4⟩ := hB
  refine ⟨fun c => h _ (hF.tr (FrL.up (by omega))) ?_ (by rw [upm_at, if_pos rfl]), fun c => ?_⟩
  · unfold tB
    rw [upm_at, upm_at, upm_at, if_neg (by omega), if_neg (by omega), if_pos rfl]
    exact ⟨h1, h2, h3, Or.inl rfl⟩
  · have c := Decidable.not_not.mp c
    rw [c] at hz
    exact absurd hz ha2
theorem lL_signOf {L z : Int} (hz : w32 z = z) (hL : w32 L = L) (h : Q (sg L z) sw m) : R2 X 2 mL_signOf 7 [(1, vi L), (2, vi z), (3, vi 0)] [] sw m Q := by
  have st : ∀ (i : Int) (s l : Int), 0 ≤ i ∧ i < 10 → w32 (ext2.getD i.toNat 0) = s → w32 (ext3.getD i.toNat 0) = l → (L = l ∧ z = s → Q (-1 - i) sw m) → (¬ (L = l ∧ z = s) → R2 X 2 mL_signOf 7 [(1, vi L), (2, vi z), (3, vi (i + 1))] [] sw m Q) → R2 X 2 mL_signOf 7 [(1, vi L), (2, vi z), (3, vi i)] [] sw m Q := by
    intro i s l hi e1 e2 q1 q2
    refine wL_signOf_7 _ _ _ _ _ _ ?_
    rw [w32_id (z := i) (by omega) (by omega), e1, e2, hz, hL]
    exact ⟨fun q => by omega, fun _ => ⟨hi, fun c => q2 (fun p => c p.2), fun c => ⟨hi, fun c2 => q2 (fun p => c2 p.1.symm), fun c2 => q1 ⟨(Decidable.not_not.mp c2).symm, Decidable.not_not.mp c⟩⟩⟩⟩
  unfold sg at h
  refine st 0 124 0 (by decide) (by decide) (by decide) (fun c => by rwa [if_pos c] at h) (fun c => ?_)
  rw [if_neg c] at h
  refine st 1 38 1 (by decide) (by decide) (by decide) (fun c => by rwa [if_pos c] at h) (fun c => ?_)
  rw [if_neg c] at h
  refine st 2 60 2 (by decide) (by decide) (by decide) (fun c => by rwa [if_pos c] at h) (fun c => ?_)
  rw [if_neg c] at h
  refine st 3 61 2 (by decide) (by decide) (by decide) (fun c => by rwa [if_pos c] at h) (fun c => ?_)
  rw [if_neg c] at h
  refine st 4 62 2 (by decide) (by decide) (by decide) (fun c => by rwa [if_pos c] at h) (fun c => ?_)
  rw [if_neg c] at h
  refine st 5 43 3 (by decide) (by decide) (by decide) (fun c => by rwa [if_pos c] at h) (fun c => ?_)
  rw [if_neg c] at h
  refine st 6 45 3 (by decide) (by decide) (by decide) (fun c => by rwa [if_pos c] at h) (fun c => ?_)
  rw [if_neg c] at h
  refine st 7 42 4 (by decide) (by decide) (by decide) (fun c => by rwa [if_pos c] at h) (fun c => ?_)
  rw [if_neg c] at h
  refine st 8 47 4 (by decide) (by decide) (by decide) (fun c => by rwa [if_pos c] at h) (fun c => ?_)
  rw [if_neg c] at h
  refine st 9 37 4 (by decide) (by decide) (by decide) (fun c => by rwa [if_pos c] at h) (fun c => ?_)
  rw [if_neg c] at h
  refine wL_signOf_7 _ _ _ _ _ _ ⟨fun _ => h, fun q => absurd (by decide) q⟩
theorem eL_signOf {L : Int} {p : Nat} {D : Int} (hL : w32 L = L) (hT : tT n b m) (hA : tA n p D m) (h : Q (sg L (nx n b p)) sw m) : M2 X 2 mL_signOf [vr 18, vi L] sw m Q := by
  have hb := nx_b (p := p) hT
  exact wL_signOf _ _ _ _ (eL_next hT hA.1 hA.2.1 (Or.inl hA.2.2.1) (fun _ => lL_signOf (w32_id (by omega) (by omega)) hL h) (fun q => by rw [hA.2.2.1] at q; exact absurd q (by decide)))
theorem sg_dgt {L z : Int} (h : z = -1 ∨ dgt z) : sg L z = 0 := by
  unfold sg
  repeat' split
  all_goals omega
theorem eL_signOfB {L : Int} {p : Nat} (hL : w32 L = L) (hT : tT n b m) (hB : tB n b p m) (h : Q 0 sw m) : M2 X 2 mL_signOf [vr 18, vi L] sw m Q := by
  refine wL_signOf _ _ _ _ (eL_nextB hT hB (fun z hz _ => lL_signOf (w32_id (by omega) (by omega)) hL ?_))
  rw [sg_dgt hz]
  exact h
theorem lL_names {z : Int} (hz : w32 z = z) (h1 : 0 ≤ nm z → M2 X 1 mL_emit [vr 18, vi (-20 - nm z)] sw (upm m 18 7 (m 18 7 + 1)) (fun z1 sw1 m1 => Q 0 sw1 m1)) (h2 : nm z < 0 → R2 X 2 mL_readOperand 48 [(0, vr 18), (2, vi 0), (3, vi 0)] [] sw m Q) : M2 X 2 mL_readOperand [vr 18, vi z] sw m Q := by
  have st : ∀ (i : Int) (s : Int), 0 ≤ i ∧ i < 6 → w32 (ext4.getD i.toNat 0) = s → (z = s → nm z = i) → (¬ z = s → R2 X 2 mL_readOperand 2 [(0, vr 18), (1, vi z), (2, vi (i + 1))] [] sw m Q) → R2 X 2 mL_readOperand 2 [(0, vr 18), (1, vi z), (2, vi i)] [] sw m Q := by
    intro i s hi e1 q1 q2
    refine wL_readOperand_2 _ _ _ _ _ ?_
    rw [w32_id (z := i) (by omega) (by omega), e1, hz]
    refine ⟨fun q => by omega, fun _ => ⟨hi, fun c => q2 c, fun c => ?_⟩⟩
    have e := q1 (Decidable.not_not.mp c)
    have := h1 (by omega)
    rw [e] at this
    exact this
  unfold nm at st h2
  refine wL_readOperand _ _ _ _ (st 0 119 (by decide) (by decide) (fun c => if_pos c) (fun c => ?_))
  simp only [if_neg c] at st h2
  refine st 1 100 (by decide) (by decide) (fun c => if_pos c) (fun c => ?_)
  simp only [if_neg c] at st h2
  refine st 2 97 (by decide) (by decide) (fun c => if_pos c) (fun c => ?_)
  simp only [if_neg c] at st h2
  refine st 3 101 (by decide) (by decide) (fun c => if_pos c) (fun c => ?_)
  simp only [if_neg c] at st h2
  refine st 4 103 (by decide) (by decide) (fun c => if_pos c) (fun c => ?_)
  simp only [if_neg c] at st h2
  refine st 5 112 (by decide) (by decide) (fun c => if_pos c) (fun c => ?_)
  simp only [if_neg c] at h2
  exact wL_readOperand_2 _ _ _ _ _ ⟨fun _ => h2 (by decide), fun q => absurd (by decide) q⟩
end XL
