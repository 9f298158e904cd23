/-! odds: likely, when, mean, how, judge in pairs -/
/-- cells that a question never changes -/
def HK (c j : Int) : Prop := c = 2 ∨ (4 ≤ c ∧ c ≤ 16) ∨ c = 18 ∨ c = 19 ∨ c = 21 ∨ c = 22 ∨ (60 ≤ c ∧ c ≤ 83) ∨ (c = 84 ∧ ¬ (29 ≤ j ∧ j ≤ 41)) ∨ (85 ≤ c ∧ c ≤ 101) ∨ 112 ≤ c
def FrH (m m' : Mem) : Prop := ∀ c j : Int, HK c j → m' c j = m c j
theorem FrH.rf (m : Mem) : FrH m m := fun _ _ _ => rfl
theorem FrH.tr {m1 m2 m3 : Mem} (h : FrH m1 m2) (g : FrH m2 m3) : FrH m1 m3 := fun c j a => (g c j a).trans (h c j a)
theorem FrT6.h {m m' : Mem} (f : FrT6 m m') : FrH m m' := fun c j a => by unfold HK at a; exact f c j (by omega) (by omega) (by omega) (by omega) (by omega) (by omega)
theorem FrH.ik {m m' : Mem} (f : FrH m m') (h : IK m) : IK m' := h.fr (fun c j q => f c j (by unfold DK at q; unfold HK; omega))
theorem FrH.iw {m m' : Mem} {w : Option (List Ln)} {sw : Bool} (f : FrH m m') (h : IW w sw m) : IW w sw m' := h.fr (fun c j q => f c j (by unfold HK; omega))
theorem FrH.is {m m' : Mem} (f : FrH m m') (h : IS m) : IS m' := h.fr (fun c j q => f c j (by unfold DS at q; unfold HK; omega))
/-- the model's working cells -/
def FrY9 (m m' : Mem) : Prop := ∀ c j : Int, ¬ (c = 84 ∧ 29 ≤ j ∧ j ≤ 41) → ¬ (102 ≤ c ∧ c ≤ 111) → m' c j = m c j
theorem FrY9.rf (m : Mem) : FrY9 m m := fun _ _ _ _ => rfl
theorem FrY9.tr {m1 m2 m3 : Mem} (h : FrY9 m1 m2) (g : FrY9 m2 m3) : FrY9 m1 m3 := fun c j a b => (g c j a b).trans (h c j a b)
theorem FrY9.h {m m' : Mem} (f : FrY9 m m') : FrH m m' := fun c j a => by unfold HK at a; exact f c j (by omega) (by omega)
theorem FrM2.y9 {m m' : Mem} (f : FrM2 m m') : FrY9 m m' := fun c j a b => f c j (by omega) (by omega)
theorem IP.y9 {m m' : Mem} (h : IP m) (f : FrY9 m m') (h9 : (m 2 3).toNat ≤ 9) : IP m' := by
  obtain ⟨p1, p2_, p3, p4⟩ := h
  have g : ∀ c j : Int, c < 84 → m' c j = m c j := fun c j q => f c j (by omega) (by omega)
  unfold IP
  rw [g 23 6 (by omega), g 2 5 (by omega), g 2 3 (by omega), shp_eq (fun c j q => g c j (by omega))]
  exact ⟨p1, p2_, p3, fun q => (p4 q).fr (fun c j q => g c j (by omega)) h9⟩
theorem IH.y9 {m m' : Mem} {w : Option (List Ln)} (h : IH w m) (f : FrY9 m m') (h9 : (m 2 3).toNat ≤ 9) : IH w m' := by
  obtain ⟨p1, p2_, p3, p4⟩ := h
  have g : ∀ c j : Int, c < 84 → m' c j = m c j := fun c j q => f c j (by omega) (by omega)
  unfold IH
  rw [g 37 8 (by omega), g 2 4 (by omega), g 2 3 (by omega), shp_eq (m := m) (m' := m') (fun c j q => g c j (by omega)), VV_fr (m := m) (m' := m') (fun c j q => g c j (by omega))]
  exact ⟨p1, p2_, p3, fun q => ⟨(p4 q).1.fr (fun c j q => g c j (by omega)), (p4 q).2.fr (fun c j q => g c j (by omega)) h9⟩⟩
/-- what a question leaves -/
def Fin (w : Option (List Ln)) (m m' : Mem) : Prop := IP m' ∧ IH w m' ∧ m' 84 33 = -1 ∧ FrH m m'
/-- what holds ahead of a question -/
def Pre (w : Option (List Ln)) (sw : Bool) (n : Nat) (m : Mem) : Prop := IK m ∧ m 2 3 = (n : Int) ∧ IP m ∧ IW w sw m ∧ IH w m ∧ m 84 33 = -1
theorem Pre.same {w : Option (List Ln)} {sw : Bool} {n : Nat} {m : Mem} (h : Pre w sw n m) : Fin w m m := ⟨h.2.2.1, h.2.2.2.2.1, h.2.2.2.2.2, FrH.rf m⟩
/-- behind the class's thinking: the model's side may begin -/
def Mid (w : Option (List Ln)) (S : Sh) (V : Nat → Int) (sw : Bool) (n : Nat) (m0 m : Mem) : Prop := FrH m0 m ∧ TO S V n m ∧ PO S n m ∧ IP m ∧ IH w m ∧ m 84 33 = -1
section PR
variable {X : Cx} {sw : Bool} {m : Mem} {Q : Int → Bool → Mem → Prop} {w : Option (List Ln)} {n : Nat}
theorem Pre.n9 (h : Pre w sw n m) : n ≤ 9 := by
  have h1 := h.1.2.1
  have h2 := h.2.1
  omega
theorem Pre.think (h : Pre w sw n m) (k : ∀ m2, Mid w (shp m) (VV w m) sw n m m2 → Q 0 sw m2) : M2 X 6 mT_think [vr 37] sw m Q := by
  obtain ⟨hI, hn, hP, hW, hH, h33⟩ := h
  refine eT_think hI hn hP hW hH (fun m2 f hO hPO hP2 hH2 => k m2 ⟨f.h, hO, hPO, hP2, hH2, ?_⟩)
  rw [f 84 33 (by omega) (by omega) (by omega) (by omega) (by omega) (by omega)]; exact h33
theorem Pre.lay {m2 : Mem} (h : Pre w sw n m) (f : FrH m m2) (h33 : m2 84 33 = -1) (k : ∀ m3, FrY9 m2 m3 → MO (shp m) (VV w m) n (-1) m3 → Q 0 sw m3) : M2 X 5 mY_layTwelfths [vr 84] sw m2 Q := by
  have h9 := h.n9
  obtain ⟨hI, hn, hP, hW, hH, -⟩ := h
  have hI2 := f.ik hI
  have e : ∀ c j : Int, c = 2 ∨ (4 ≤ c ∧ c ≤ 16) → m2 c j = m c j := fun c j q => f c j (by unfold HK; omega)
  have hn2 : m2 2 3 = (n : Int) := by rw [e 2 3 (by omega)]; exact hn
  have hS2 : shp m2 = shp m := shp_eq (fun c j q => e c j (by omega))
  have hk := hI2.kt
  have hY := hI2.ys hn2
  rw [hS2] at hY
  refine eY_layTwelfths (S := shp m) (V := VV w m) (n := n) hY (f.iw hW) h33 (by omega) (by omega) (fun p hp => ?_) (fun m3 g hM => k m3 (fun c j q1 q2 => by rw [g c (by omega) (by omega) (by omega)]) hM)
  have hp' := hI2.pt (p := (p : Int)) (by omega) (by omega)
  refine ⟨by omega, by omega, by omega, ?_⟩
  show tw w (m 6 (p : Int)) (m 10 0) (m 9 (p : Int)) (m 8 (p : Int)) (m 11 0) (p : Int) = _
  rw [hp'.2.2.1.1, hp'.2.2.2.2.2.1, hp'.2.2.2.2.1.1, hk.1.1, hk.2.1.1, e 6 _ (by omega), e 10 _ (by omega), e 9 _ (by omega), e 8 _ (by omega), e 11 _ (by omega)]
theorem Mid.fin {S : Sh} {V : Nat → Int} {m2 m3 : Mem} (h : Mid w S V sw n m m2) (hn : m 2 3 = (n : Int)) (h9 : n ≤ 9) (f : FrY9 m2 m3) (h33 : m3 84 33 = -1) : Fin w m m3 := by
  obtain ⟨g, hO, hPO, hP, hH, -⟩ := h
  have e : (m2 2 3).toNat ≤ 9 := by
    rw [g 2 3 (Or.inl rfl), hn]
    exact h9
  exact ⟨hP.y9 f e, hH.y9 f e, h33, g.tr f.h⟩
theorem Pre.tk (h : Pre w sw n m) : Tk (shp m) n := h.1.tk h.2.1
theorem Pre.y1 (h : Pre w sw n m) {m2 : Mem} (f : FrH m m2) : m2 84 1 = (n : Int) := by
  rw [f 84 1 (by unfold HK; omega), h.1.2.2.1]; exact h.2.1
theorem q12 {n : Nat} (hn : n ≤ 9) : 1 ≤ (12 : Int) ^ n ∧ (12 : Int) ^ n < 4611686018427387904 := by
  have := p12 hn
  omega
theorem og_b {S : Sh} {U : Us} {n p : Nat} (hn : n ≤ 9) (hU : Ub U n) : 0 ≤ og S U n p ∧ og S U n p < 4611686018427387904 := by
  have := sm_bN (f := fun s => if 0 ≤ gm S s p then od U n s else 0) (p9 hn).2 (B := 5159780352) (by decide) (fun s _ => by
    have := od_9 (s := s) hn hU
    split
    · exact this
    · omega)
  unfold og
  omega
theorem pr_likely {a b : Int} (ha : w32 a = a) (hb : w32 b = b) (hp : Pre w sw n m) {QQ : Int → Int → Bool → Mem → Prop} (h : ∀ z m', Fin w m m' → QQ z z sw m') : M2 X 7 mZ_likely [vr 1, vi a, vi b] sw m (fun z1 sw1 m1 => M2 X 6 mY_likely [vr 84, vi a, vi b] sw1 m1 (fun z2 sw2 m2 => QQ z1 z2 sw2 m2)) := by
  have h9 := hp.n9
  have hn := hp.2.1
  have hT := hp.tk
  have hV := VV_b w m
  have h12 := q12 h9
  have hab := w32_b a
  have hbad : ¬ ((-(n : Int) ≤ a ∧ a ≤ 999) ∧ (b = 0 ∨ b = 1)) → M2 X 6 mY_likely [vr 84, vi a, vi b] sw m (fun z2 sw2 m2 => QQ (-9223372036854775808) z2 sw2 m2) := fun q => by
    refine wY_likely _ _ _ _ _ (eY_in ha (by rw [hp.y1 (FrH.rf m)]; exact w32_id (by omega) (by omega)) (by decide) ?_)
    rw [bz_w, bz_0, hp.y1 (FrH.rf m)]
    refine ⟨fun _ => h _ m hp.same, fun c => eY_in hb (by decide) (by decide) ?_⟩
    rw [bz_w, bz_0]
    exact ⟨fun c2 => by omega, fun _ => h _ m hp.same⟩
  have good : ((-(n : Int) ≤ a ∧ a ≤ 999) ∧ (b = 0 ∨ b = 1)) → ∀ (z : Int) (m2 : Mem), Mid w (shp m) (VV w m) sw n m m2 → z = lw (if a < 0 then og (shp m) (U1 (VV w m)) n (-1 - a).toNat else ob (shp m) (U1 (VV w m)) n (a + 1)) (12 ^ n) b → M2 X 6 mY_likely [vr 84, vi a, vi b] sw m2 (fun z2 sw2 m2 => QQ z z2 sw2 m2) := by
    intro q z m2 hm hz
    refine wY_likely _ _ _ _ _ (eY_in ha (by rw [hp.y1 hm.1]; exact w32_id (by omega) (by omega)) (by decide) ?_)
    rw [bz_w, bz_0, hp.y1 hm.1]
    refine ⟨fun c => by omega, fun _ => eY_in hb (by decide) (by decide) ?_⟩
    rw [bz_w, bz_0]
    refine ⟨fun _ => hp.lay hm.1 hm.2.2.2.2.2 (fun m3 f3 hM => ?_), fun c => by omega⟩
    rw [ha]
    have wh : ∀ (A : Int) (m4 : Mem), FrM2 m3 m4 → 0 ≤ A ∧ A < 4611686018427387904 → z = lw A (12 ^ n) b → M2 X 1 mY_whole [vr 84] sw m4 (fun z5 sw5 m5 => M2 X 1 mY_lowest [vl A, vl z5, vi b] sw5 m5 (fun z6 sw6 m6 => QQ z z6 sw6 m6)) := by
      intro A m4 f4 hA hz
      refine eY_whole (hM.m2 f4) ?_
      rw [if_neg (by decide), Int.one_mul]
      refine eY_lowest hA (by omega) q.2 ?_
      rw [← hz]
      exact h z m4 (hm.fin hn h9 (f3.tr f4.y9) (by rw [(hM.m2 f4).2.2.1]))
    refine ⟨fun c => ?_, fun c => ?_⟩
    · rw [if_pos c] at hz
      obtain ⟨p, e⟩ : ∃ p : Nat, -1 - a = (p : Int) := ⟨(-1 - a).toNat, by omega⟩
      rw [e] at hz ⊢
      rw [Int.toNat_natCast] at hz
      refine eY_goesOdds hM hV (p := p) (by omega) (fun m4 f4 => ?_)
      rw [UD_m]
      exact wh _ m4 f4 (og_b h9 (U1_b hV n)) hz
    · rw [if_neg c] at hz
      refine eY_endsBy hM hV ha (fun m4 f4 => ?_)
      rw [UD_m]
      have := ob_le (S := shp m) h9 (U1_b hV n) (a + 1)
      exact wh _ m4 f4 (by omega) hz
  refine wZ_likely _ _ _ _ _ (eZ_isSide hb ?_)
  rw [bz_w, bz_0, ha]
  refine ⟨fun c => hbad (fun q => c q.2), fun c => ⟨fun c2 => hbad (by omega), fun c2 => ⟨fun c3 => hp.think (fun m2 hm => ⟨fun _ => ?_, fun q => absurd c3 q⟩), fun c3 => eK_has (a := -1 - a) (w32_id (by omega) (by omega)) hp.1 ?_⟩⟩⟩
  · refine eT_oddsBy h9 hV hT hm.2.1 ha ?_
    rw [hm.2.1.2.2.1]
    have := ob_le (S := shp m) h9 (U1_b hV n) (a + 1)
    refine eZ_side (by omega) (by omega) (fun q => by omega) (Decidable.not_not.mp c) ?_
    refine good ⟨by omega, Decidable.not_not.mp c⟩ _ m2 hm ?_
    rw [if_neg (by omega)]
  · rw [bz_w, bz_0, hn]
    refine ⟨fun c4 => hp.think (fun m2 hm => ⟨fun q => absurd q c3, fun _ => ?_⟩), fun c4 => hbad (by omega)⟩
    have c4 := Decidable.not_not.mp c4
    obtain ⟨p, e⟩ : ∃ p : Nat, -1 - a = (p : Int) := ⟨(-1 - a).toNat, by omega⟩
    have good' := good ⟨by omega, Decidable.not_not.mp c⟩
    rw [e] at good' ⊢
    rw [Int.toNat_natCast] at good'
    refine eT_oddsToGo h9 hV hm.2.1 hm.2.2.1 (p := p) (by omega) ?_
    rw [hm.2.1.2.2.1]
    have := og_b (S := shp m) (p := p) h9 (U1_b hV n)
    refine eZ_side this (by omega) (fun q => by omega) (Decidable.not_not.mp c) ?_
    refine good' _ m2 hm ?_
    rw [if_pos (by omega)]
theorem om_pos {S : Sh} {U : Us} (hU : Ub U n) {k : Int} : 0 < om S U n k ↔ ∃ s, s < 2 ^ n ∧ en S n s = k ∧ 0 < od U n s := by
  have hnn : ∀ s, s < 2 ^ n → 0 ≤ (if en S n s = k then od U n s else 0) := fun s _ => by
    split
    · exact (od_b n hU).1
    · exact Int.le_refl 0
  constructor
  · intro h
    obtain ⟨s, h1, h2⟩ := sm_pos hnn h
    by_cases c : en S n s = k
    · rw [if_pos c] at h2; exact ⟨s, h1, c, h2⟩
    · rw [if_neg c] at h2; exact absurd h2 (by decide)
  · rintro ⟨s, h1, h2, h3⟩
    have := sm_one hnn h1
    rw [if_pos h2] at this
    unfold om
    omega
/-- the model's least (c = 0), greatest minute -/
theorem lY_when {S : Sh} {V : Nat → Int} {c : Int} (hM : MO S V n (-1) m) (hV : Vb V) (hc : c = 0 ∨ c = 1) (h0 : (∀ s, s < 2 ^ n → ¬ (0 ≤ en S n s ∧ 0 < od (U1 V) n s)) → ∀ m2, FrM2 m m2 → Q (-2) sw m2) (h1 : ∀ s, s < 2 ^ n → 0 ≤ en S n s → 0 < od (U1 V) n s → (∀ t, t < 2 ^ n → 0 ≤ en S n t → 0 < od (U1 V) n t → if c = 0 then en S n s ≤ en S n t else en S n t ≤ en S n s) → ∀ m2, FrM2 m m2 → Q (en S n s) sw m2) : R2 X 6 mY_when 20 [(0, vr 84), (1, vi c), (2, vi (-2)), (3, vi 0)] [] sw m Q := by
  have hn := hM.1.2.1
  have h2n := p9 (k := n) hn
  have hT := hM.1.tk
  have key : ∀ k : Nat, k ≤ 2 ^ n → ∀ (is : Int) (m1 : Mem), FrM2 m m1 → ((is = -2 ∧ ∀ s, s < k → ¬ (0 ≤ en S n s ∧ 0 < od (U1 V) n s)) ∨ ∃ s, s < k ∧ is = en S n s ∧ 0 ≤ en S n s ∧ 0 < od (U1 V) n s ∧ ∀ t, t < k → 0 ≤ en S n t → 0 < od (U1 V) n t → if c = 0 then en S n s ≤ en S n t else en S n t ≤ en S n s) → R2 X 6 mY_when 20 [(0, vr 84), (1, vi c), (2, vi is), (3, vi (k : Int))] [] sw m1 Q := by
    refine downN (2 ^ n) (fun is m1 hF hI => ?_) (fun k hk ih is m1 hF hI => ?_)
    · have hM1 := hM.m2 hF
      refine wY_when_20 _ _ _ _ _ _ (eY_sets hM1.1.1 hn ⟨fun _ => ?_, fun c => absurd (Int.le_refl _) c⟩)
      rcases hI with ⟨e, g⟩ | ⟨s, s1, s2, s3, s4, s5⟩
      · rw [e]; exact h0 g m1 hF
      · rw [s2]; exact h1 s s1 s3 s4 s5 m1 hF
    · have hM1 := hM.m2 hF
      have hb := en_b hT hn k
      have hob := od_9 (s := k) hn (U1_b hV n)
      have hib : is = -2 ∨ (0 ≤ is ∧ is ≤ 540) := by
        rcases hI with ⟨e, -⟩ | ⟨s, -, s2, s3, -⟩
        · exact Or.inl e
        · have := en_b hT hn s
          omega
      -- nothing new at k
      have old : ¬ (0 ≤ en S n k ∧ 0 < od (U1 V) n k) → ∀ m2, FrM2 m m2 → R2 X 6 mY_when 20 [(0, vr 84), (1, vi c), (2, vi is), (3, vi ((k : Int) + 1))] [] sw m2 Q := by
        intro q m2 f2
        refine ih is m2 f2 ?_
        rcases hI with ⟨e, g⟩ | ⟨s, s1, s2, s3, s4, s5⟩
        · refine Or.inl ⟨e, fun s hs => ?_⟩
          by_cases cs : s = k
          · rw [cs]; exact q
          · exact g s (by omega)
        · refine Or.inr ⟨s, by omega, s2, s3, s4, fun t ht t1 t2 => ?_⟩
          by_cases cs : t = k
          · rw [cs] at t1 t2; exact absurd ⟨t1, t2⟩ q
          · exact s5 t (by omega) t1 t2
      have keep : 0 ≤ is → (if c = 0 then is ≤ en S n k else en S n k ≤ is) → ∀ m2, FrM2 m m2 → R2 X 6 mY_when 20 [(0, vr 84), (1, vi c), (2, vi is), (3, vi ((k : Int) + 1))] [] sw m2 Q := by
        intro q0 q m2 f2
        refine ih is m2 f2 ?_
        rcases hI with ⟨e, g⟩ | ⟨s, s1, s2, s3, s4, s5⟩
        · omega
        · refine Or.inr ⟨s, by omega, s2, s3, s4, fun t ht t1 t2 => ?_⟩
          by_cases cs : t = k
          · rw [cs, ← s2]; exact q
          · exact s5 t (by omega) t1 t2
      have new : 0 ≤ en S n k → 0 < od (U1 V) n k → (0 ≤ is → if c = 0 then en S n k ≤ is else is ≤ en S n k) → ∀ m2, FrM2 m m2 → R2 X 6 mY_when 20 [(0, vr 84), (1, vi c), (2, vi (en S n k)), (3, vi ((k : Int) + 1))] [] sw m2 Q := by
        intro q0 q1 q m2 f2
        refine ih _ m2 f2 (Or.inr ⟨k, by omega, rfl, q0, q1, fun t ht t1 t2 => ?_⟩)
        by_cases cs : t = k
        · rw [cs]; split <;> exact Int.le_refl _
        · rcases hI with ⟨e, g⟩ | ⟨s, s1, s2, s3, s4, s5⟩
          · exact absurd ⟨t1, t2⟩ (g t (by omega))
          · have a1 := s5 t (by omega) t1 t2
            have a2 := q (by omega)
            rw [s2] at a2
            by_cases cc : c = 0
            · rw [if_pos cc] at a1 a2 ⊢; omega
            · rw [if_neg cc] at a1 a2 ⊢; omega
      clear hI
      refine wY_when_20 _ _ _ _ _ _ (eY_sets hM1.1.1 hn ?_)
      rw [w32_id (z := ((2 ^ n : Nat) : Int)) (by omega) (by omega), w32_id (z := (k : Int)) (by omega) (by omega)]
      refine ⟨fun c => by omega, fun _ => eY_goMorning hM1.1 (by omega) (fun m2 f2 y2 => ?_)⟩
      have hM2 := hM1.m2 f2
      have hF2 := hF.tr f2
      refine eY_endNow hM2.1.1 hn y2 ?_
      rw [w32_id (z := en S n k) (by omega) (by omega)]
      refine ⟨fun c1 => old (by omega) m2 hF2, fun c1 => eY_oddsOf hM2 hV (by omega) ?_⟩
      rw [UD_m, w64_id (z := od (U1 V) n k) (by omega) (by omega), w32_id (z := is) (by omega) (by omega), w32_id (z := c) (by omega) (by omega)]
      refine ⟨fun c2 => ⟨fun c3 => new (by omega) (by omega) (fun q => by omega) m2 hF2, fun c3 => ⟨fun c4 => ⟨fun c5 => keep (by omega) (by rw [if_neg c4]; exact c5) m2 hF2, fun c5 => new (by omega) (by omega) (fun _ => by rw [if_neg c4]; omega) m2 hF2⟩, fun c4 => ⟨fun c5 => keep (by omega) (by rw [if_pos (Decidable.not_not.mp c4)]; exact c5) m2 hF2, fun c5 => new (by omega) (by omega) (fun _ => by rw [if_pos (Decidable.not_not.mp c4)]; omega) m2 hF2⟩⟩⟩, fun c2 => old (by omega) m2 hF2⟩
  exact key 0 (Nat.zero_le _) (-2) m (FrM2.rf m) (Or.inl ⟨rfl, fun s hs => absurd hs (Nat.not_lt_zero _)⟩)
theorem pr_when {a : Int} (ha : w32 a = a) (hp : Pre w sw n m) {QQ : Int → Int → Bool → Mem → Prop} (h : ∀ z m', Fin w m m' → QQ z z sw m') : M2 X 7 mZ_when [vr 1, vi a] sw m (fun z1 sw1 m1 => M2 X 6 mY_when [vr 84, vi a] sw1 m1 (fun z2 sw2 m2 => QQ z1 z2 sw2 m2)) := by
  have h9 := hp.n9
  have hn := hp.2.1
  have hT := hp.tk
  have hV := VV_b w m
  have hU := U1_b hV n
  refine wZ_when _ _ _ _ (eZ_isSide ha ?_)
  rw [bz_w, bz_0, ha]
  refine ⟨fun c => ?_, fun c => wY_when _ _ _ _ (eY_in ha (by decide) (by decide) ?_)⟩
  · have c := Decidable.not_not.mp c
    refine hp.think (fun m2 hm => ?_)
    have none_ : (∀ k : Nat, k ≤ 540 → ¬ 0 < om (shp m) (U1 (VV w m)) n (k : Int)) → M2 X 6 mY_when [vr 84, vi a] sw m2 (fun z2 sw2 m2 => QQ (-2) z2 sw2 m2) := by
      intro q
      refine wY_when _ _ _ _ (eY_in ha (by decide) (by decide) ?_)
      rw [bz_w, bz_0]
      refine ⟨fun _ => hp.lay hm.1 hm.2.2.2.2.2 (fun m3 f3 hM => ?_), fun c2 => by omega⟩
      refine lY_when hM hV c (fun _ m4 f4 => h _ m4 (hm.fin hn h9 (f3.tr f4.y9) (by rw [(hM.m2 f4).2.2.1]))) (fun s s1 s2 s3 s4 m4 f4 => ?_)
      exfalso
      have hb := en_b hT h9 s
      have e : en (shp m) n s = ((en (shp m) n s).toNat : Int) := by omega
      exact q (en (shp m) n s).toNat (by omega) ((om_pos hU).mpr ⟨s, s1, e, s3⟩)
    have some_ : ∀ k : Nat, k ≤ 540 → 0 < om (shp m) (U1 (VV w m)) n (k : Int) → (∀ j : Nat, j ≤ 540 → 0 < om (shp m) (U1 (VV w m)) n (j : Int) → if a = 0 then k ≤ j else j ≤ k) → M2 X 6 mY_when [vr 84, vi a] sw m2 (fun z2 sw2 m2 => QQ (k : Int) z2 sw2 m2) := by
      intro k k1 k2 k3
      refine wY_when _ _ _ _ (eY_in ha (by decide) (by decide) ?_)
      rw [bz_w, bz_0]
      refine ⟨fun _ => hp.lay hm.1 hm.2.2.2.2.2 (fun m3 f3 hM => ?_), fun c2 => by omega⟩
      obtain ⟨t, t1, t2, t3⟩ := (om_pos hU).mp k2
      refine lY_when hM hV c (fun q m4 f4 => absurd ⟨by omega, t3⟩ (q t t1)) (fun s s1 s2 s3 s4 m4 f4 => ?_)
      have hb := en_b hT h9 s
      have e : en (shp m) n s = ((en (shp m) n s).toNat : Int) := by omega
      have a1 := k3 (en (shp m) n s).toNat (by omega) ((om_pos hU).mpr ⟨s, s1, e, s3⟩)
      have a2 := s4 t t1 (by omega) t3
      have e2 : en (shp m) n s = (k : Int) := by
        by_cases ca : a = 0
        · rw [if_pos ca] at a1 a2; omega
        · rw [if_neg ca] at a1 a2; omega
      rw [e2]
      exact h _ m4 (hm.fin hn h9 (f3.tr f4.y9) (by rw [(hM.m2 f4).2.2.1]))
    refine ⟨fun ca => eT_latest h9 hV hm.2.1 (fun q => ⟨fun c2 => absurd (by decide) c2, fun _ => none_ q⟩) (fun k k1 k2 k3 => ?_), fun ca => eT_soonest h9 hV hm.2.1 (fun q => ⟨fun c2 => absurd (by decide) c2, fun _ => none_ q⟩) (fun k k1 k2 k3 => ?_)⟩
    · rw [w32_id (z := (k : Int)) (by omega) (by omega)]
      refine ⟨fun _ => some_ k k1 k2 (fun j j1 j2 => ?_), fun c2 => by omega⟩
      rw [if_neg ca]
      by_cases cj : k < j
      · exact absurd j2 (k3 j cj j1)
      · omega
    · rw [w32_id (z := (k : Int)) (by omega) (by omega)]
      refine ⟨fun _ => some_ k k1 k2 (fun j j1 j2 => ?_), fun c2 => by omega⟩
      rw [if_pos (Decidable.not_not.mp ca)]
      by_cases cj : j < k
      · exact absurd j2 (k3 j cj)
      · omega
  · rw [bz_w, bz_0]
    exact ⟨fun c2 => by omega, fun _ => h _ m hp.same⟩
theorem pr_mean {a : Int} (ha : w32 a = a) (hp : Pre w sw n m) {QQ : Int → Int → Bool → Mem → Prop} (h : ∀ z m', Fin w m m' → QQ z z sw m') : M2 X 7 mZ_mean [vr 1, vi a] sw m (fun z1 sw1 m1 => M2 X 6 mY_mean [vr 84, vi a] sw1 m1 (fun z2 sw2 m2 => QQ z1 z2 sw2 m2)) := by
  have h9 := hp.n9
  have hn := hp.2.1
  have h2n := p9 (k := n) h9
  have hT := hp.tk
  have hV := VV_b w m
  have hU := U1_b hV n
  have hob := ob_le (S := shp m) h9 hU 541
  have hoe := oe_b (S := shp m) h9 hT hU 541
  refine wZ_mean _ _ _ _ (eZ_isSide ha ?_)
  rw [bz_w, bz_0]
  refine ⟨fun c => ?_, fun c => wY_mean _ _ _ _ (eY_in ha (by decide) (by decide) ?_)⟩
  · have c := Decidable.not_not.mp c
    refine hp.think (fun m2 hm => eT_minutes h9 hV hT hm.2.1 (eT_oddsBy h9 hV hT hm.2.1 (M := 999) (by decide) ?_))
    rw [show ob (shp m) (U1 (VV w m)) n (999 + 1) = ob (shp m) (U1 (VV w m)) n 541 from ob_top h9 hT (by decide)]
    have hzero : ob (shp m) (U1 (VV w m)) n 541 = 0 → oe (shp m) (U1 (VV w m)) n 541 = 0 := by
      intro q
      have e : oe (shp m) (U1 (VV w m)) n 541 = sm (2 ^ n) (fun _ => 0) := by
        refine sm_cg _ (fun s hs => ?_)
        have hnn : ∀ t, t < 2 ^ n → 0 ≤ (if 0 ≤ en (shp m) n t ∧ en (shp m) n t < 541 then od (U1 (VV w m)) n t else 0) := fun t _ => by
          split
          · exact (od_b n hU).1
          · exact Int.le_refl 0
        have h1 := sm_one hnn hs
        have h2 : sm (2 ^ n) (fun s => if 0 ≤ en (shp m) n s ∧ en (shp m) n s < 541 then od (U1 (VV w m)) n s else 0) = 0 := q
        show (if 0 ≤ en (shp m) n s ∧ en (shp m) n s < 541 then od (U1 (VV w m)) n s * en (shp m) n s else 0) = 0
        by_cases cs : 0 ≤ en (shp m) n s ∧ en (shp m) n s < 541
        · rw [if_pos cs] at h1 ⊢
          have := (od_b (s := s) n hU).1
          rw [show od (U1 (VV w m)) n s = 0 by omega, Int.zero_mul]
        · rw [if_neg cs]
      rw [e]; exact sm_0 _
    refine eZ_side (by omega) (by omega) hzero c ?_
    generalize hz : lw (oe (shp m) (U1 (VV w m)) n 541) (ob (shp m) (U1 (VV w m)) n 541) a = z
    refine wY_mean _ _ _ _ (eY_in ha (by decide) (by decide) ?_)
    rw [bz_w, bz_0]
    refine ⟨fun _ => hp.lay hm.1 hm.2.2.2.2.2 (fun m3 f3 hM => ?_), fun c2 => by omega⟩
    have key : ∀ k : Nat, k ≤ 2 ^ n → ∀ m4, FrM2 m3 m4 → R2 X 6 mY_mean 25 [(0, vr 84), (1, vi a), (2, vl (sm k (fun s => if 0 ≤ en (shp m) n s ∧ en (shp m) n s < 541 then od (U1 (VV w m)) n s else 0))), (4, vl (sm k (fun s => if 0 ≤ en (shp m) n s ∧ en (shp m) n s < 541 then od (U1 (VV w m)) n s * en (shp m) n s else 0))), (6, vi (k : Int))] [] sw m4 (fun z2 sw2 m2 => QQ z z2 sw2 m2) := by
      refine downN (2 ^ n) (fun m4 hF => ?_) (fun k hk ih m4 hF => ?_)
      · have hM1 := hM.m2 hF
        refine wY_mean_25 _ _ _ _ _ _ _ (eY_sets hM1.1.1 h9 ⟨fun _ => eY_lowest (A := oe (shp m) (U1 (VV w m)) n 541) (B := ob (shp m) (U1 (VV w m)) n 541) (by omega) (by omega) c ?_, fun c => absurd (Int.le_refl _) c⟩)
        rw [hz]
        exact h z m4 (hm.fin hn h9 (f3.tr hF.y9) (by rw [hM1.2.2.1]))
      · have hM1 := hM.m2 hF
        have hb := en_b hT h9 k
        have e1 : sm (k + 1) (fun s => if 0 ≤ en (shp m) n s ∧ en (shp m) n s < 541 then od (U1 (VV w m)) n s else 0) = sm k (fun s => if 0 ≤ en (shp m) n s ∧ en (shp m) n s < 541 then od (U1 (VV w m)) n s else 0) + (if 0 ≤ en (shp m) n k ∧ en (shp m) n k < 541 then od (U1 (VV w m)) n k else 0) := rfl
        have e2 : sm (k + 1) (fun s => if 0 ≤ en (shp m) n s ∧ en (shp m) n s < 541 then od (U1 (VV w m)) n s * en (shp m) n s else 0) = sm k (fun s => if 0 ≤ en (shp m) n s ∧ en (shp m) n s < 541 then od (U1 (VV w m)) n s * en (shp m) n s else 0) + (if 0 ≤ en (shp m) n k ∧ en (shp m) n k < 541 then od (U1 (VV w m)) n k * en (shp m) n k else 0) := rfl
        rw [e1, e2] at ih
        refine wY_mean_25 _ _ _ _ _ _ _ (eY_sets hM1.1.1 h9 ?_)
        rw [w32_id (z := ((2 ^ n : Nat) : Int)) (by omega) (by omega), w32_id (z := (k : Int)) (by omega) (by omega)]
        refine ⟨fun c => by omega, fun _ => eY_goMorning hM1.1 (by omega) (fun m5 f5 y5 => ?_)⟩
        have hM2 := hM1.m2 f5
        refine eY_endNow hM2.1.1 h9 y5 ?_
        rw [w32_id (z := en (shp m) n k) (by omega) (by omega)]
        refine ⟨fun c1 => eY_oddsOf hM2 hV (by omega) (eY_oddsOf hM2 hV (by omega) (eY_endNow hM2.1.1 h9 y5 ?_)), fun c1 => ?_⟩
        · rw [UD_m, w32_id (z := en (shp m) n k) (by omega) (by omega)]
          have := ih m5 (hF.tr f5)
          rw [if_pos (by omega), if_pos (by omega)] at this
          exact this
        · have := ih m5 (hF.tr f5)
          rw [if_neg (by omega), if_neg (by omega), Int.add_zero, Int.add_zero] at this
          exact this
    exact key 0 (Nat.zero_le _) m3 (FrM2.rf m3)
  · rw [bz_w, bz_0]
    exact ⟨fun c2 => by omega, fun _ => h _ m hp.same⟩
theorem pr_how {a b : Int} (ha : w32 a = a) (hb : w32 b = b) (hp : Pre w sw n m) {QQ : Int → Int → Bool → Mem → Prop} (h : ∀ z m', Fin w m m' → QQ z z sw m') : M2 X 7 mZ_how [vr 1, vi a, vi b] sw m (fun z1 sw1 m1 => M2 X 6 mY_how [vr 84, vi a, vi b] sw1 m1 (fun z2 sw2 m2 => QQ z1 z2 sw2 m2)) := by
  have h9 := hp.n9
  have hn := hp.2.1
  have h2n := p9 (k := n) h9
  have hT := hp.tk
  have hV := VV_b w m
  have hU := U1_b hV n
  have hbad : ¬ ((-1 ≤ a ∧ a ≤ 999) ∧ (b = 0 ∨ b = 1)) → M2 X 6 mY_how [vr 84, vi a, vi b] sw m (fun z2 sw2 m2 => QQ (-1) z2 sw2 m2) := fun q => by
    refine wY_how _ _ _ _ _ (eY_in ha (by decide) (by decide) ?_)
    rw [bz_w, bz_0]
    refine ⟨fun _ => h _ m hp.same, fun c => eY_in hb (by decide) (by decide) ?_⟩
    rw [bz_w, bz_0]
    exact ⟨fun c2 => by omega, fun _ => h _ m hp.same⟩
  have good : (-1 ≤ a ∧ a ≤ 999) → (b = 0 ∨ b = 1) → ∀ (z : Int) (m2 : Mem), Mid w (shp m) (VV w m) sw n m m2 → z = (if b = 0 then (wy (shp m) (U1 (VV w m)) n a (2 ^ n)).1 else (wy (shp m) (U1 (VV w m)) n a (2 ^ n)).2.1) → M2 X 6 mY_how [vr 84, vi a, vi b] sw m2 (fun z2 sw2 m2 => QQ z z2 sw2 m2) := by
    intro q1 q2 z m2 hm hz
    refine wY_how _ _ _ _ _ (eY_in ha (by decide) (by decide) ?_)
    rw [bz_w, bz_0]
    refine ⟨fun c => absurd q1 c, fun _ => eY_in hb (by decide) (by decide) ?_⟩
    rw [bz_w, bz_0]
    refine ⟨fun _ => hp.lay hm.1 hm.2.2.2.2.2 (fun m3 f3 hM => ?_), fun c => by omega⟩
    have key : ∀ k : Nat, k ≤ 2 ^ n → ∀ m4, FrM2 m3 m4 → R2 X 6 mY_how 38 [(0, vr 84), (1, vi a), (2, vi b), (3, vi (wy (shp m) (U1 (VV w m)) n a k).1), (4, vi (wy (shp m) (U1 (VV w m)) n a k).2.1), (5, vl (wy (shp m) (U1 (VV w m)) n a k).2.2), (7, vi (k : Int))] [] sw m4 (fun z2 sw2 m2 => QQ z z2 sw2 m2) := by
      refine downN (2 ^ n) (fun m4 hF => ?_) (fun k hk ih m4 hF => ?_)
      · have hM1 := hM.m2 hF
        have hfin := h z m4 (hm.fin hn h9 (f3.tr hF.y9) (by rw [hM1.2.2.1]))
        refine wY_how_38 _ _ _ _ _ _ _ _ _ (eY_sets hM1.1.1 h9 ⟨fun _ => ?_, fun c => absurd (Int.le_refl _) c⟩)
        rw [hb]
        refine ⟨fun cb => ?_, fun cb => ?_⟩
        · rw [if_neg cb] at hz; rw [hz] at hfin ⊢; exact hfin
        · rw [if_pos (Decidable.not_not.mp cb)] at hz; rw [hz] at hfin ⊢; exact hfin
      · have hM1 := hM.m2 hF
        have heb := en_b hT h9 k
        have hob := od_9 (s := k) h9 hU
        have hwb := (wy_b (S := shp m) (M := a) h9 hU k).2.2
        unfold wy at ih
        refine wY_how_38 _ _ _ _ _ _ _ _ _ (eY_sets hM1.1.1 h9 ?_)
        rw [w32_id (z := ((2 ^ n : Nat) : Int)) (by omega) (by omega), w32_id (z := (k : Int)) (by omega) (by omega)]
        refine ⟨fun c => by omega, fun _ => eY_goMorning hM1.1 (by omega) (fun m5 f5 y5 => ?_)⟩
        have hM2 := hM1.m2 f5
        refine eY_oddsOf hM2 hV (by omega) (eY_endNow hM2.1.1 h9 y5 ?_)
        rw [UD_m, w32_id (z := en (shp m) n k) (by omega) (by omega), ha, w64_id (z := od (U1 (VV w m)) n k) (by omega) (by omega), w64_id (z := (wy (shp m) (U1 (VV w m)) n a k).2.2) (by omega) (by omega)]
        have ih' := ih m5 (hF.tr f5)
        refine ⟨fun c1 => ?_, fun c1 => ⟨fun c2 => ⟨fun c3 => ?_, fun c3 => ?_⟩, fun c2 => ?_⟩⟩
        · rw [if_neg (fun q => c1 q.1)] at ih'; exact ih'
        · rw [if_pos ⟨Decidable.not_not.mp c1, by omega⟩] at ih'
          rw [if_pos c3, if_pos c3] at ih'
          exact ih'
        · rw [if_pos ⟨Decidable.not_not.mp c1, by omega⟩] at ih'
          rw [if_neg c3, if_neg c3] at ih'
          exact ih'
        · rw [if_neg (fun q => by omega)] at ih'; exact ih'
    exact key 0 (Nat.zero_le _) m3 (FrM2.rf m3)
  refine wZ_how _ _ _ _ _ ?_
  rw [ha]
  refine ⟨fun c => hbad (by omega), fun c => ⟨fun c2 => hbad (by omega), fun c2 => eZ_isSide hb ?_⟩⟩
  rw [bz_w, bz_0, hb]
  refine ⟨fun c3 => hp.think (fun m2 hm => ⟨fun cb => eT_likeliest h9 hV hT hm.2.1 hm.2.2.1 ha (good (by omega) (Decidable.not_not.mp c3) _ m2 hm (by rw [if_neg cb])), fun cb => eT_waysTo h9 hV hT hm.2.1 hm.2.2.1 ha (good (by omega) (Decidable.not_not.mp c3) _ m2 hm (by rw [if_pos (Decidable.not_not.mp cb)]))⟩), fun c3 => hbad (fun q => Decidable.not_not.mp c3 q.2)⟩
end PR
