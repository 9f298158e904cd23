/-! mending: ways, and the class's plan -/
/-- the ages before the mending of morning k, behind the way's first k digits -/
def abf (b : Nat) (A : Nat → Int) : Nat → Nat → Nat → Int
  | 0, _, p => A p
  | k + 1, W, p => min 99 ((if W % b = p + 1 then 0 else abf b A k (W / b) p) + 1)
/-- the ages behind the mending of morning k -/
def amf (b : Nat) (A : Nat → Int) (k W p : Nat) : Int := if W % b = p + 1 then 0 else abf b A k (W / b) p
theorem abf_s (b : Nat) (A : Nat → Int) (k W p : Nat) : abf b A (k + 1) W p = min 99 (amf b A k W p + 1) := rfl
theorem abf_b {b : Nat} {A : Nat → Int} {p : Nat} (hA : 0 ≤ A p ∧ A p ≤ 99) : ∀ k W, 0 ≤ abf b A k W p ∧ abf b A k W p ≤ 99
  | 0, _ => hA
  | k + 1, W => by
    have := abf_b (b := b) hA k (W / b)
    show 0 ≤ min 99 ((if W % b = p + 1 then 0 else abf b A k (W / b) p) + 1) ∧ min 99 ((if W % b = p + 1 then 0 else abf b A k (W / b) p) + 1) ≤ 99
    split <;> omega
theorem amf_b {b : Nat} {A : Nat → Int} {p : Nat} (hA : 0 ≤ A p ∧ A p ≤ 99) (k W : Nat) : 0 ≤ amf b A k W p ∧ amf b A k W p ≤ 99 := by
  have := abf_b (b := b) hA k (W / b)
  unfold amf
  split <;> omega
/-- a morning's digit -/
def dwj (b k W j : Nat) : Nat := W / b ^ (k - 1 - j) % b
/-- the age that the class reads for morning k, when i digits have been looked at -/
def saf (b : Nat) (A : Nat → Int) (k W i p : Nat) : Int := if i ≤ k then min 99 (abf b A i (W / b ^ (k + 1 - i)) p + ((k : Int) - (i : Int))) else amf b A k W p
theorem saf_0 (b : Nat) (A : Nat → Int) (k W p : Nat) : saf b A k W 0 p = min 99 (A p + (k : Int)) := by
  unfold saf
  rw [if_pos (Nat.zero_le _), show ((0 : Nat) : Int) = 0 from rfl, Int.sub_zero]
  rfl
theorem saf_e (b : Nat) (A : Nat → Int) (k W p : Nat) : saf b A k W (k + 1) p = amf b A k W p := if_neg (by omega)
theorem saf_s {b : Nat} {A : Nat → Int} {k W i p : Nat} (hA : 0 ≤ A p ∧ A p ≤ 99) (hi : i ≤ k) (hk : k ≤ 2) : saf b A k W (i + 1) p = if dwj b (k + 1) W i = p + 1 then (k : Int) - (i : Int) else saf b A k W i p := by
  have e0 : dwj b (k + 1) W i = W / b ^ (k - i) % b := by
    unfold dwj
    rw [show k + 1 - 1 - i = k - i by omega]
  have e1 : W / b ^ (k + 1 - i) = W / b ^ (k - i) / b := by
    rw [Nat.div_div_eq_div_mul, ← Nat.pow_succ, Nat.succ_eq_add_one, show k - i + 1 = k + 1 - i by omega]
  have hb := abf_b (b := b) hA i (W / b ^ (k - i) / b)
  rw [e0]
  by_cases c : i = k
  · subst c
    rw [saf_e]
    unfold saf amf
    rw [if_pos (Nat.le_refl _), e1, Nat.sub_self, Nat.pow_zero, Nat.div_one] at *
    split <;> omega
  · unfold saf
    rw [if_pos (by omega), if_pos hi, e1, show k + 1 - (i + 1) = k - i by omega, abf_s]
    unfold amf
    split <;> omega
/-- the twelfths at an age -/
def tqf (w : Option (List Ln)) (m : Mem) (p : Nat) (a : Int) : Int := tw w (m 6 (p : Int)) (m 10 0) a (m 8 (p : Int)) (m 11 0) (p : Int)
theorem tqf_b (w : Option (List Ln)) (m : Mem) (p : Nat) (a : Int) : 0 ≤ tqf w m p a ∧ tqf w m p a ≤ 12 := tw_b _ _ _ _ _ _ _
/-- the millionths of a morning -/
def mif (S : Sh) (n : Nat) (V : Nat → Int) : Int := zldiv (ob S (U1 V) n 541 * 1000000) (12 ^ n)
theorem mif_b {S : Sh} {n : Nat} {V : Nat → Int} (hn : n ≤ 9) (hV : Vb V) : 0 ≤ mif S n V ∧ mif S n V ≤ 1000000 := by
  have h2 := p12 hn
  have h1 := ob_12 (S := S) (n := n) hV 541
  have h0 : 0 ≤ ob S (U1 V) n 541 := sm_nn _ (fun s _ => by
    have := (od_b (s := s) n (U1_b hV n)).1
    show 0 ≤ (if 0 ≤ en S n s ∧ en S n s < 541 then od (U1 V) n s else 0)
    split
    · exact this
    · exact Int.le_refl _)
  unfold mif
  rw [zldiv_pos (by omega) (by omega) (by omega) (by omega)]
  exact ⟨Int.ediv_nonneg (by omega) (by omega), Int.ediv_le_of_le_mul (by omega) (by omega)⟩
/-- the millionths of a way's first k mornings, together -/
def tgf (f : Nat → Nat → Int) (b : Nat) : Nat → Nat → Int
  | 0, _ => 0
  | k + 1, W => tgf f b k (W / b) + f k W
theorem tgf_b {f : Nat → Nat → Int} {b : Nat} (hf : ∀ k W, 0 ≤ f k W ∧ f k W ≤ 1000000) : ∀ k W, 0 ≤ tgf f b k W ∧ tgf f b k W ≤ 1000000 * (k : Int)
  | 0, _ => ⟨Int.le_refl 0, Int.le_refl 0⟩
  | k + 1, W => by
    have h1 := tgf_b (b := b) hf k (W / b)
    have h2 := hf k W
    show 0 ≤ tgf f b k (W / b) + f k W ∧ tgf f b k (W / b) + f k W ≤ 1000000 * ((k + 1 : Nat) : Int)
    omega
/-- morning k's millionths on way W -/
def fmf (w : Option (List Ln)) (m : Mem) (n k W : Nat) : Int := mif (shp m) n (fun p => tqf w m p (amf (n + 1) (fun p => m 9 (p : Int)) k W p))
theorem fmf_b (w : Option (List Ln)) (m : Mem) {n : Nat} (hn : n ≤ 9) (k W : Nat) : 0 ≤ fmf w m n k W ∧ fmf w m n k W ≤ 1000000 := mif_b hn (fun p => tqf_b w m p _)
/-- only the class's plan and its stack have changed -/
def FrZ (m m' : Mem) : Prop := ∀ c j : Int, ¬ (43 ≤ c ∧ c ≤ 59) → ¬ c = 17 → ¬ c = 20 → m' c j = m c j
theorem FrZ.rf (m : Mem) : FrZ m m := fun _ _ _ _ _ => rfl
theorem FrZ.tr {m1 m2 m3 : Mem} (h : FrZ m1 m2) (g : FrZ m2 m3) : FrZ m1 m3 := fun c j a b d => (g c j a b d).trans (h c j a b d)
theorem FrZ.up {m : Mem} {k i v : Int} (h : 43 ≤ k ∧ k ≤ 59) : FrZ m (upm m k i v) := fun c j a _ _ => upm_ne (by omega)
theorem FrX.z {m m' : Mem} (f : FrX m m') : FrZ m m' := fun c j a _ _ => f c j a
theorem FrZ.h {m m' : Mem} (f : FrZ m m') : FrH m m' := fun c j a => by unfold HK at a; exact f c j (by omega) (by omega) (by omega)
theorem Mid.fz {w : Option (List Ln)} {S : Sh} {V : Nat → Int} {sw : Bool} {n : Nat} {m0 m m' : Mem} (h : Mid w S V sw n m0 m) (f : FrZ m m') (h23 : m0 2 3 = (n : Int)) (h9 : n ≤ 9) : Mid w S V sw n m0 m' := by
  obtain ⟨g, hO, hPO, hP, hH, h33⟩ := h
  have e : (m 2 3).toNat ≤ 9 := by
    rw [g 2 3 (Or.inl rfl), h23]
    exact h9
  have g2 : ∀ c j : Int, c = 2 ∨ (4 ≤ c ∧ c ≤ 16) ∨ (23 ≤ c ∧ c ≤ 42) → m' c j = m c j := fun c j q => f c j (by omega) (by omega) (by omega)
  refine ⟨g.tr f.h, hO.fr (fun c j q => g2 c j (by omega)), hPO.fr (fun c j q => g2 c j (by omega)) h9, ?_, ?_, by rw [f 84 33 (by omega) (by omega) (by omega)]; exact h33⟩
  · obtain ⟨p1, p2_, p3, p4⟩ := hP
    unfold IP
    rw [g2 23 6 (by omega), g2 2 5 (by omega), g2 2 3 (by omega), shp_eq (fun c j q => g2 c j (by omega))]
    exact ⟨p1, p2_, p3, fun q => (p4 q).fr (fun c j q => g2 c j (by omega)) e⟩
  · obtain ⟨p1, p2_, p3, p4⟩ := hH
    unfold IH
    rw [g2 37 8 (by omega), g2 2 4 (by omega), g2 2 3 (by omega), shp_eq (m := m) (m' := m') (fun c j q => g2 c j (by omega)), VV_fr (m := m) (m' := m') (fun c j q => g2 c j (by omega))]
    exact ⟨p1, p2_, p3, fun q => ⟨(p4 q).1.fr (fun c j q => g2 c j (by omega)), (p4 q).2.fr (fun c j q => g2 c j (by omega)) e⟩⟩
section PL
variable {X : Cx} {sw : Bool} {m : Mem} {Q : Int → Bool → Mem → Prop} {w : Option (List Ln)} {n : Nat}
theorem pw_6 {b k : Nat} (hb : b ≤ 6) (hk : k ≤ 3) : b ^ k ≤ 216 := by
  have h1 : b ^ k ≤ 6 ^ k := Nat.pow_le_pow_left hb k
  have h2 : 6 ^ k ≤ 6 ^ 3 := Nat.pow_le_pow_right (by decide) hk
  have h3 : (6 : Nat) ^ 3 = 216 := by decide
  omega
theorem eN_withoutLast {b V : Nat} {m1 : Mem} (h7 : m1 47 7 = (b : Int)) (hb : 1 ≤ b ∧ b ≤ 6) (hV : V < 216) (h : Q ((V / b : Nat) : Int) sw m1) : M2 X 1 mN_withoutLast [vr 47, vi (V : Int)] sw m1 Q := by
  refine wN_withoutLast _ _ _ _ ?_
  rw [h7, w32_id (z := (b : Int)) (by omega) (by omega), zdiv_pos (a := (V : Int)) (by omega) (by omega) (by omega) (by omega)]
  exact ⟨fun q => by omega, fun _ => ⟨by omega, h⟩⟩
/-- what is left of a way behind its last morning -/
theorem rem_e (b D : Nat) : (D : Int) - ((D / b : Nat) : Int) * (b : Int) = ((D % b : Nat) : Int) := by
  have e8 := Nat.div_add_mod D b
  generalize D / b = E at e8 ⊢
  generalize D % b = R at e8 ⊢
  rw [← e8, Int.natCast_add, Int.natCast_mul, Int.mul_comm]
  omega
theorem eN_whom {b k W j : Nat} {m1 : Mem} (h7 : m1 47 7 = (b : Int)) (hb : 1 ≤ b ∧ b ≤ 6) (hW : W < 216) (hj : j < k) (hk : k ≤ 3) (h : Q ((dwj b k W j : Int) - 1) sw m1) : M2 X 2 mN_whom [vr 47, vi (W : Int), vi (k : Int), vi (j : Int)] sw m1 Q := by
  have key : ∀ t : Nat, t ≤ k - 1 - j → R2 X 2 mN_whom 8 [(0, vr 47), (3, vi (j : Int)), (4, vi ((W / b ^ t : Nat) : Int)), (5, vi ((k : Int) - 1 - (t : Int)))] [] sw m1 Q := by
    refine downN (k - 1 - j) ?_ (fun t ht ih => ?_)
    · have hd : W / b ^ (k - 1 - j) ≤ W := Nat.div_le_self _ _
      have e : dwj b k W j = W / b ^ (k - 1 - j) % b := rfl
      rw [e] at h
      generalize W / b ^ (k - 1 - j) = D at hd h ⊢
      refine wN_whom_8 _ _ _ _ _ _ ?_
      rw [w32_id (z := (j : Int)) (by omega) (by omega), w32_id (z := (k : Int) - 1 - ((k - 1 - j : Nat) : Int)) (by omega) (by omega)]
      refine ⟨fun _ => eN_withoutLast h7 hb (by omega) ?_, fun q => by omega⟩
      rw [h7, rem_e]
      exact h
    · have hd : W / b ^ t ≤ W := Nat.div_le_self _ _
      have e : W / b ^ (t + 1) = W / b ^ t / b := by
        rw [Nat.pow_succ, ← Nat.div_div_eq_div_mul]
      rw [e] at ih
      generalize W / b ^ t = D at hd ih ⊢
      refine wN_whom_8 _ _ _ _ _ _ ?_
      rw [w32_id (z := (j : Int)) (by omega) (by omega), w32_id (z := (k : Int) - 1 - (t : Int)) (by omega) (by omega)]
      refine ⟨fun q => by omega, fun _ => eN_withoutLast h7 hb (by omega) ?_⟩
      rw [show (k : Int) - 1 - (t : Int) + (-1) = (k : Int) - 1 - ((t + 1 : Nat) : Int) by omega]
      exact ih
  have k0 := key 0 (Nat.zero_le _)
  rw [Nat.pow_zero, Nat.div_one, show (k : Int) - 1 - ((0 : Nat) : Int) = (k : Int) - 1 by omega] at k0
  exact wN_whom _ _ _ _ _ _ k0
/-- the class has foreseen the twelfths -/
def NF (w : Option (List Ln)) (m : Mem) (n : Nat) (m1 : Mem) : Prop := m1 47 7 = (n : Int) + 1 ∧ ∀ p : Nat, p < n → ∀ j : Nat, j < 3 → m1 (53 + (p : Int)) (j : Int) = tqf w m p (j : Int) ∧ m1 (53 + (p : Int)) (3 + (j : Int)) = tqf w m p (min 99 (m 9 (p : Int) + (j : Int)))
theorem NF.fr {m1 m2 : Mem} (h : NF w m n m1) (f : ∀ c j : Int, (c = 47 ∧ j = 7) ∨ (53 ≤ c ∧ c < 53 + (n : Int)) → m2 c j = m1 c j) : NF w m n m2 := ⟨by rw [f 47 7 (by omega)]; exact h.1, fun p hp j hj => by rw [f _ _ (by omega), f _ _ (by omega)]; exact h.2 p hp j hj⟩
theorem eN_foresee {m2 : Mem} (hp : Pre w sw n m) (h5 : n ≤ 5) (hm : Mid w (shp m) (VV w m) sw n m m2) (h7 : m2 47 7 = (n : Int) + 1) (h : ∀ m3, FrZ m2 m3 → NF w m n m3 → Q 0 sw m3) : M2 X 5 mN_foreseeTwelfths [vr 47] sw m2 Q := by
  have hn := hp.2.1
  have g0 : ∀ m3, FrZ m2 m3 → ∀ c j : Int, c = 2 ∨ (4 ≤ c ∧ c ≤ 16) → m3 c j = m c j := fun m3 f3 c j q => (f3 c j (by omega) (by omega) (by omega)).trans (hm.1 c j (by unfold HK; omega))
  have key : ∀ p : Nat, p ≤ n → ∀ m3, FrZ m2 m3 → m3 47 7 = (n : Int) + 1 → (∀ q : Nat, q < p → ∀ j : Nat, j < 3 → m3 (53 + (q : Int)) (j : Int) = tqf w m q (j : Int) ∧ m3 (53 + (q : Int)) (3 + (j : Int)) = tqf w m q (min 99 (m 9 (q : Int) + (j : Int)))) → R2 X 5 mN_foreseeTwelfths 2 [(0, vr 47), (1, vi (p : Int))] [] sw m3 Q := by
    refine downN n (fun m3 f3 e7 h3 => ?_) (fun p hpp ih m3 f3 e7 h3 => ?_)
    · refine wN_foreseeTwelfths_2 _ _ _ _ ?_
      rw [g0 m3 f3 2 3 (Or.inl rfl), hn]
      exact ⟨fun _ => h m3 f3 ⟨e7, h3⟩, fun q => absurd (Int.le_refl _) q⟩
    · have hpt := hp.1.pt (p := (p : Int)) (by omega) (by omega)
      have inner : ∀ j : Nat, j ≤ 3 → ∀ m4, FrZ m2 m4 → m4 47 7 = (n : Int) + 1 → (∀ q : Nat, q < p → ∀ j : Nat, j < 3 → m4 (53 + (q : Int)) (j : Int) = tqf w m q (j : Int) ∧ m4 (53 + (q : Int)) (3 + (j : Int)) = tqf w m q (min 99 (m 9 (q : Int) + (j : Int)))) → (∀ i : Nat, i < j → m4 (53 + (p : Int)) (i : Int) = tqf w m p (i : Int) ∧ m4 (53 + (p : Int)) (3 + (i : Int)) = tqf w m p (min 99 (m 9 (p : Int) + (i : Int)))) → R2 X 5 mN_foreseeTwelfths 25 [(0, vr 47), (1, vi (p : Int)), (2, vi (m 9 (p : Int))), (3, vi (j : Int))] [] sw m4 Q := by
        refine downN 3 (fun m4 f4 e74 h4 h4p => ?_) (fun j hj ihj m4 f4 e74 h4 h4p => ?_)
        · refine wN_foreseeTwelfths_25 _ _ _ _ _ _ ⟨fun _ => ih m4 f4 e74 (fun q hq => ?_), fun q => absurd (by decide) q⟩
          by_cases c : q = p
          · subst c; exact h4p
          · exact h4 q (by omega)
        · have ik : ∀ m5, FrZ m2 m5 → IK m5 ∧ IW w sw m5 := fun m5 f5 => ⟨(hm.1.tr f5.h).ik hp.1, (hm.1.tr f5.h).iw hp.2.2.2.1⟩
          have te : ∀ m5, FrZ m2 m5 → ∀ a : Int, tw w (m5 6 (p : Int)) (m5 10 0) a (m5 8 (p : Int)) (m5 11 0) (p : Int) = tqf w m p a := fun m5 f5 a => by
            rw [g0 m5 f5 6 _ (by omega), g0 m5 f5 10 _ (by omega), g0 m5 f5 8 _ (by omega), g0 m5 f5 11 _ (by omega)]; rfl
          refine wN_foreseeTwelfths_25 _ _ _ _ _ _ ?_
          rw [w32_id (z := (j : Int)) (by omega) (by omega), w32_id (z := (p : Int)) (by omega) (by omega), w32_id (z := m 9 (p : Int) + (j : Int)) (by omega) (by omega), w32_id (z := 3 + (j : Int)) (by omega) (by omega)]
          refine ⟨fun q => by omega, fun _ => ⟨by omega, eK_twelfths (ik m4 f4).1 (ik m4 f4).2 (by omega) (by rw [g0 m4 f4 2 3 (Or.inl rfl)]; omega) (by omega) (fun m5 f5 => ?_)⟩⟩
          rw [te m4 f4]
          have z5 : FrZ m4 m5 := fun c i _ q2 q3 => by rw [f5 c q2 q3]
          have z6 : FrZ m5 (upm m5 (53 + (p : Int)) (j : Int) (tqf w m p (j : Int))) := FrZ.up (by omega)
          have f6 := f4.tr (z5.tr z6)
          refine ⟨by omega, by omega, eK_twelfths (ik _ f6).1 (ik _ f6).2 (by omega) (by rw [g0 _ f6 2 3 (Or.inl rfl)]; omega) (by omega) (fun m7 f7 => ?_)⟩
          rw [te _ f6]
          have z7 : FrZ (upm m5 (53 + (p : Int)) (j : Int) (tqf w m p (j : Int))) m7 := fun c i _ q2 q3 => by rw [f7 c q2 q3]
          have z8 : FrZ m7 (upm m7 (53 + (p : Int)) (3 + (j : Int)) (tqf w m p (min 99 (m 9 (p : Int) + (j : Int))))) := FrZ.up (by omega)
          refine ⟨by omega, ihj _ (f6.tr (z7.tr z8)) ?_ (fun q hq i hi => ?_) (fun i hi => ?_)⟩
          · rw [upm_row (by omega), f7 47 (by omega) (by omega), upm_row (by omega), f5 47 (by omega) (by omega)]; exact e74
          · rw [upm_row (by omega), f7 _ (by omega) (by omega), upm_row (by omega), f5 _ (by omega) (by omega)]; exact h4 q hq i hi
          · by_cases c : i = j
            · subst c
              refine ⟨?_, ?_⟩
              · rw [upm_at, if_neg (by omega), f7 _ (by omega) (by omega), upm_at, if_pos rfl]
              · rw [upm_at, if_pos rfl]
            · refine ⟨?_, ?_⟩
              · rw [upm_at, if_neg (by omega), f7 _ (by omega) (by omega), upm_at, if_neg (by omega), f5 _ (by omega) (by omega)]; exact (h4p i (by omega)).1
              · rw [upm_at, if_neg (by omega), f7 _ (by omega) (by omega), upm_at, if_neg (by omega), f5 _ (by omega) (by omega)]; exact (h4p i (by omega)).2
      refine wN_foreseeTwelfths_2 _ _ _ _ ?_
      rw [g0 m3 f3 2 3 (Or.inl rfl), hn, w32_id (z := (n : Int)) (by omega) (by omega), w32_id (z := (p : Int)) (by omega) (by omega)]
      refine ⟨fun q => by omega, fun _ => eK_told (by omega) (by decide) ?_⟩
      rw [show m3 (4 + 5) (p : Int) = m3 9 (p : Int) from rfl, g0 m3 f3 9 _ (by omega)]
      exact inner 0 (Nat.zero_le _) m3 f3 e7 h3 (fun i hi => absurd hi (Nat.not_lt_zero _))
  exact wN_foreseeTwelfths _ _ _ (key 0 (Nat.zero_le _) m2 (FrZ.rf m2) h7 (fun q hq => absurd hq (Nat.not_lt_zero _)))
theorem eN_millionths {m2 : Mem} {k W : Nat} (hp : Pre w sw n m) (h5 : n ≤ 5) (hm : Mid w (shp m) (VV w m) sw n m m2) (hF : NF w m n m2) (hk : k < 3) (hW : W < 216) (h : ∀ m3, (∀ c : Int, ¬ c = 58 → ¬ c = 59 → m3 c = m2 c) → Q (fmf w m n k W) sw m3) : M2 X 3 mN_millionths [vr 47, vi (k : Int), vi (W : Int)] sw m2 Q := by
  have hn := hp.2.1
  have h9 := hp.n9
  have hT := hp.tk
  have h2n : 2 ^ n ≤ 32 := Nat.le_trans (Nat.pow_le_pow_right (by decide) h5) (by decide)
  have hA : ∀ p : Nat, p < n → 0 ≤ m 9 (p : Int) ∧ m 9 (p : Int) ≤ 99 := fun p hpp => by
    have := (hp.1.pt (p := (p : Int)) (by omega) (by omega)).2.2.2.2.2
    omega
  have e23 : m2 2 3 = (n : Int) := by rw [hm.1 2 3 (Or.inl rfl)]; exact hn
  have hV : Vb (fun p => tqf w m p (amf (n + 1) (fun p => m 9 (p : Int)) k W p)) := fun p => tqf_b w m p _
  have sums : ∀ m3, (∀ c : Int, ¬ c = 58 → ¬ c = 59 → m3 c = m2 c) → (∀ s : Nat, s < 2 ^ n → m3 59 (s : Int) = od (U1 (fun p => tqf w m p (amf (n + 1) (fun p => m 9 (p : Int)) k W p))) n s) → ∀ t : Nat, t ≤ 2 ^ n → R2 X 3 mN_millionths 107 [(0, vr 47), (3, vl (sm t (fun s => if 0 ≤ en (shp m) n s ∧ en (shp m) n s < 541 then od (U1 (fun p => tqf w m p (amf (n + 1) (fun p => m 9 (p : Int)) k W p))) n s else 0))), (5, vi (t : Int))] [] sw m3 Q := by
    intro m3 f3 h59
    have hp12 := p12 h9
    refine downN (2 ^ n) ?_ (fun t ht ih => ?_)
    · refine wN_millionths_107 _ _ _ _ _ ?_
      rw [f3 23 (by omega) (by omega), hm.2.2.1.1, f3 37 (by omega) (by omega), hm.2.1.2.2.1]
      exact ⟨fun _ => eZ_cut (by rw [w64_id (by omega) (by omega)]; omega) (h m3 f3), fun q => absurd (Int.le_refl _) q⟩
    · have hb := en_b hT h9 t
      have e : sm (t + 1) (fun s => if 0 ≤ en (shp m) n s ∧ en (shp m) n s < 541 then od (U1 (fun p => tqf w m p (amf (n + 1) (fun p => m 9 (p : Int)) k W p))) n s else 0) = sm t (fun s => if 0 ≤ en (shp m) n s ∧ en (shp m) n s < 541 then od (U1 (fun p => tqf w m p (amf (n + 1) (fun p => m 9 (p : Int)) k W p))) n s else 0) + (if 0 ≤ en (shp m) n t ∧ en (shp m) n t < 541 then od (U1 (fun p => tqf w m p (amf (n + 1) (fun p => m 9 (p : Int)) k W p))) n t else 0) := rfl
      rw [e] at ih
      refine wN_millionths_107 _ _ _ _ _ ?_
      rw [f3 23 (by omega) (by omega), hm.2.2.1.1, f3 36 (by omega) (by omega), w32_id (z := ((2 ^ n : Nat) : Int)) (by omega) (by omega), w32_id (z := (t : Int)) (by omega) (by omega), hm.2.2.1.2.2 t ht, w32_id (z := en (shp m) n t) (by omega) (by omega), h59 t ht]
      refine ⟨fun q => by omega, fun _ => ⟨by omega, fun q => ?_, fun q => ⟨by omega, ?_⟩⟩⟩
      · rw [if_neg (by omega), Int.add_zero] at ih; exact ih
      · rw [if_pos (by omega)] at ih; exact ih
  have digs : ∀ i : Nat, i ≤ k + 1 → ∀ m3, (∀ c : Int, ¬ c = 58 → m3 c = m2 c) → (∀ p : Nat, p < n → m3 58 (p : Int) = tqf w m p (saf (n + 1) (fun p => m 9 (p : Int)) k W i p)) → R2 X 3 mN_millionths 37 [(0, vr 47), (1, vi (k : Int)), (2, vi (W : Int)), (3, vi (i : Int))] [] sw m3 Q := by
    refine downN (k + 1) (fun m3 f3 h58 => ?_) (fun i hi ih m3 f3 h58 => ?_)
    · refine wN_millionths_37 _ _ _ _ _ _ ?_
      rw [f3 2 (by omega), e23, w32_id (z := (k : Int)) (by omega) (by omega), w32_id (z := ((k + 1 : Nat) : Int)) (by omega) (by omega)]
      refine ⟨fun _ => ?_, fun q => by omega⟩
      refine eT_weigh c59 c58 (V := fun p => tqf w m p (amf (n + 1) (fun p => m 9 (p : Int)) k W p)) (by omega) h9 h2n (by omega) (by omega) (by omega) (fun q hq => ?_) (fun m4 f4 g4 => ?_)
      · have hb := tqf_b w m q (amf (n + 1) (fun p => m 9 (p : Int)) k W q)
        rw [h58 q hq, saf_e]
        exact ⟨w32_id (by omega) (by omega), hb⟩
      · rw [UL_m] at g4
        exact sums m4 (fun c q1 q2 => (f4 c q2).trans (f3 c q1)) g4 0 (Nat.zero_le _)
    · have hdl : dwj (n + 1) (k + 1) W i < n + 1 := Nat.mod_lt _ (Nat.succ_pos n)
      refine wN_millionths_37 _ _ _ _ _ _ ?_
      rw [w32_id (z := (k : Int)) (by omega) (by omega), w32_id (z := (i : Int)) (by omega) (by omega), w32_id (z := (k : Int) - (i : Int)) (by omega) (by omega)]
      refine ⟨fun q => by omega, fun _ => eN_whom (b := n + 1) (k := k + 1) (j := i) (by rw [f3 47 (by omega)]; exact hF.1) (by omega) hW (by omega) (by omega) ?_⟩
      rw [w32_id (z := (dwj (n + 1) (k + 1) W i : Int) - 1) (by omega) (by omega)]
      refine ⟨fun q => ih m3 f3 (fun p hpp => ?_), fun q => ⟨by omega, by omega, by omega, ih _ (fun c q => by rw [upm_row q]; exact f3 c q) (fun p hpp => ?_)⟩⟩
      · rw [saf_s (hA p hpp) (by omega) (by omega), if_neg (by omega)]; exact h58 p hpp
      · rw [saf_s (hA p hpp) (by omega) (by omega), upm_at]
        by_cases c : dwj (n + 1) (k + 1) W i = p + 1
        · rw [if_pos (by omega), if_pos c, c, show 53 + (((p + 1 : Nat) : Int) - 1) = 53 + (p : Int) by omega, f3 _ (by omega), show (k : Int) - (i : Int) = ((k - i : Nat) : Int) by omega]
          exact (hF.2 p hpp (k - i) (by omega)).1
        · rw [if_neg (by omega), if_neg c]; exact h58 p hpp
  have cols : ∀ p : Nat, p ≤ n → ∀ m3, (∀ c : Int, ¬ c = 58 → m3 c = m2 c) → (∀ q : Nat, q < p → m3 58 (q : Int) = tqf w m q (saf (n + 1) (fun p => m 9 (p : Int)) k W 0 q)) → R2 X 3 mN_millionths 2 [(0, vr 47), (1, vi (k : Int)), (2, vi (W : Int)), (3, vi (p : Int))] [] sw m3 Q := by
    refine downN n (fun m3 f3 h58 => ?_) (fun p hpp ih m3 f3 h58 => ?_)
    · refine wN_millionths_2 _ _ _ _ _ _ ?_
      rw [f3 2 (by omega), e23]
      exact ⟨fun _ => digs 0 (Nat.zero_le _) m3 f3 h58, fun q => absurd (Int.le_refl _) q⟩
    · refine wN_millionths_2 _ _ _ _ _ _ ?_
      rw [f3 2 (by omega), e23, w32_id (z := (n : Int)) (by omega) (by omega), w32_id (z := (p : Int)) (by omega) (by omega), w32_id (z := 3 + (k : Int)) (by omega) (by omega)]
      refine ⟨fun q => by omega, fun _ => ⟨by omega, by omega, by omega, ih _ (fun c q => by rw [upm_row q]; exact f3 c q) (fun q hq => ?_)⟩⟩
      rw [upm_at]
      by_cases c : q = p
      · subst c
        rw [if_pos rfl, f3 _ (by omega), saf_0]
        exact (hF.2 q hpp k hk).2
      · rw [if_neg (by omega)]; exact h58 q (by omega)
  exact wN_millionths _ _ _ _ _ (cols 0 (Nat.zero_le _) m2 (fun _ _ => rfl) (fun q hq => absurd hq (Nat.not_lt_zero _)))
end PL
