/-! failed, look, test in pairs -/
def FrX (m m' : Mem) : Prop := ∀ c j : Int, ¬ (43 ≤ c ∧ c ≤ 59) → m' c j = m c j
theorem FrX.rf (m : Mem) : FrX m m := fun _ _ _ => rfl
theorem FrX.tr {m1 m2 m3 : Mem} (h : FrX m1 m2) (g : FrX m2 m3) : FrX m1 m3 := fun c j a => (g c j a).trans (h c j a)
theorem FrX.up {m : Mem} {k i v : Int} (h : 43 ≤ k ∧ k ≤ 59) : FrX m (upm m k i v) := fun c j a => upm_ne (by omega)
theorem FrX.h {m m' : Mem} (f : FrX m m') : FrH m m' := fun c j a => by unfold HK at a; exact f c j (by omega)
theorem IP.fx {m m' : Mem} (h : IP m) (f : FrX m m') (h9 : (m 2 3).toNat ≤ 9) : IP m' := by
  obtain ⟨p1, p2_, p3, p4⟩ := h
  have g : ∀ c j : Int, c < 43 → m' c j = m c j := fun c j q => f c j (by omega)
  unfold IP
  rw [g 23 6 (by omega), g 2 5 (by omega), g 2 3 (by omega), shp_eq (fun c j q => g c j (by omega))]
  exact ⟨p1, p2_, p3, fun q => (p4 q).fr (fun c j q => g c j (by omega)) h9⟩
theorem IH.fx {m m' : Mem} {w : Option (List Ln)} (h : IH w m) (f : FrX m m') (h9 : (m 2 3).toNat ≤ 9) : IH w m' := by
  obtain ⟨p1, p2_, p3, p4⟩ := h
  have g : ∀ c j : Int, c < 43 → m' c j = m c j := fun c j q => f c j (by omega)
  unfold IH
  rw [g 37 8 (by omega), g 2 4 (by omega), g 2 3 (by omega), shp_eq (m := m) (m' := m') (fun c j q => g c j (by omega)), VV_fr (m := m) (m' := m') (fun c j q => g c j (by omega))]
  exact ⟨p1, p2_, p3, fun q => ⟨(p4 q).1.fr (fun c j q => g c j (by omega)), (p4 q).2.fr (fun c j q => g c j (by omega)) h9⟩⟩
theorem Mid.fx {w : Option (List Ln)} {S : Sh} {V : Nat → Int} {sw : Bool} {n : Nat} {m0 m m' : Mem} (h : Mid w S V sw n m0 m) (f : FrX m m') (h23 : m0 2 3 = (n : Int)) (h9 : n ≤ 9) : Mid w S V sw n m0 m' := by
  obtain ⟨g, hO, hPO, hP, hH, h33⟩ := h
  have e : (m 2 3).toNat ≤ 9 := by
    rw [g 2 3 (Or.inl rfl), h23]
    exact h9
  exact ⟨g.tr f.h, hO.fr (fun c j q => f c j (by omega)), hPO.fr (fun c j q => f c j (by omega)) h9, hP.fx f e, hH.fx f e, by rw [f 84 33 (by omega)]; exact h33⟩
theorem sub_z {r q : Nat} (hr : r < 512) (hq : q < 512) (h : zand (r : Int) (zxor (q : Int) (-1)) = 0) : r &&& q = r := by
  unfold zand zxor at h
  rw [i32_rt] at h
  have h0 : Int32.ofInt (r : Int) &&& (Int32.ofInt (q : Int) ^^^ Int32.ofInt (-1)) = 0 := Int32.toInt_inj.mp h
  have h1 := congrArg Int32.toBitVec h0
  rw [Int32.toBitVec_and, Int32.toBitVec_xor] at h1
  have h2 : BitVec.ofNat 32 r &&& (BitVec.ofNat 32 q ^^^ BitVec.allOnes 32) = 0#32 := h1
  apply Nat.eq_of_testBit_eq
  intro i
  rw [Nat.testBit_and]
  by_cases c : i < 32
  · have h3 := congrArg (fun b => BitVec.getLsbD b i) h2
    simp only [BitVec.getLsbD_and, BitVec.getLsbD_xor, BitVec.getLsbD_ofNat, BitVec.getLsbD_allOnes, c, decide_true, Bool.true_and, BitVec.getLsbD_zero, Nat.zero_testBit] at h3
    cases e1 : r.testBit i <;> cases e2 : q.testBit i <;> rw [e1, e2] at h3 <;> first | rfl | exact absurd h3 (by decide)
  · have : r.testBit i = false := Nat.testBit_lt_two_pow (Nat.lt_of_lt_of_le hr (by
      have h9 : 2 ^ 9 ≤ 2 ^ i := Nat.pow_le_pow_right (by decide) (by omega)
      exact h9))
    rw [this]; rfl
theorem tell_m {r q n : Nat} (h : r &&& q = r) : r &&& (q % 2 ^ n) = r % 2 ^ n := by
  apply Nat.eq_of_testBit_eq
  intro i
  have hi := congrArg (fun x => Nat.testBit x i) h
  simp only [Nat.testBit_and] at hi
  rw [Nat.testBit_and, Nat.testBit_mod_two_pow, Nat.testBit_mod_two_pow]
  cases e1 : r.testBit i <;> cases e2 : q.testBit i <;> rw [e1, e2] at hi <;> first | exact absurd hi (by decide) | simp
/-- odds of a set that is as told -/
def hs (S : Sh) (U : Us) (n sn tl s : Nat) : Int := if go S s n &&& sn = tl then od U n s else 0
def sH (S : Sh) (U : Us) (n sn tl : Nat) (k : Nat) : Int := sm k (fun s => hs S U n sn tl s)
def sS (S : Sh) (U : Us) (n sn tl : Nat) (k p : Nat) : Int := sm k (fun s => if (sk S s n).testBit p = true then hs S U n sn tl s else 0)
def sG (S : Sh) (U : Us) (n sn tl : Nat) (k p : Nat) : Int := sm k (fun s => if (go S s n).testBit p = true then hs S U n sn tl s else 0)
theorem hs_b {S : Sh} {U : Us} {n sn tl s : Nat} (hn : n ≤ 9) (hU : Ub U n) : 0 ≤ hs S U n sn tl s ∧ hs S U n sn tl s ≤ 5159780352 := by
  have := od_9 (s := s) hn hU
  unfold hs
  split
  · exact this
  · omega
theorem sH_b {S : Sh} {U : Us} {n sn tl : Nat} (hn : n ≤ 9) (hU : Ub U n) : 0 ≤ sH S U n sn tl (2 ^ n) ∧ sH S U n sn tl (2 ^ n) ≤ 512 * 5159780352 := sm_bN (p9 hn).2 (by decide) (fun s _ => hs_b hn hU)
theorem sS_b {S : Sh} {U : Us} {n sn tl p : Nat} (hn : n ≤ 9) (hU : Ub U n) : 0 ≤ sS S U n sn tl (2 ^ n) p ∧ sS S U n sn tl (2 ^ n) p ≤ sH S U n sn tl (2 ^ n) := by
  refine ⟨sm_nn _ (fun s _ => ?_), sm_le _ (fun s _ => ?_)⟩
  · split
    · exact (hs_b hn hU).1
    · exact Int.le_refl 0
  · split
    · exact Int.le_refl _
    · exact (hs_b hn hU).1
theorem sG_b {S : Sh} {U : Us} {n sn tl p : Nat} (hn : n ≤ 9) (hU : Ub U n) : 0 ≤ sG S U n sn tl (2 ^ n) p ∧ sG S U n sn tl (2 ^ n) p ≤ sH S U n sn tl (2 ^ n) := by
  refine ⟨sm_nn _ (fun s _ => ?_), sm_le _ (fun s _ => ?_)⟩
  · split
    · exact (hs_b hn hU).1
    · exact Int.le_refl 0
  · split
    · exact Int.le_refl _
    · exact (hs_b hn hU).1
def lk (f : Nat → Int) : Nat → Int × Int
  | 0 => (-2, 0)
  | k + 1 => if (lk f k).2 < f k then ((k : Int), f k) else lk f k
theorem lk_s (f : Nat → Int) (k : Nat) : lk f (k + 1) = if (lk f k).2 < f k then ((k : Int), f k) else lk f k := rfl
theorem lk_b {f : Nat → Int} {B : Int} (hB : 0 ≤ B) (h : ∀ p, 0 ≤ f p ∧ f p ≤ B) : ∀ k, 0 ≤ (lk f k).2 ∧ (lk f k).2 ≤ B
  | 0 => ⟨Int.le_refl 0, hB⟩
  | k + 1 => by
    unfold lk
    split
    · exact h k
    · exact lk_b hB h k
/-- the best test: seen ones by z, what it parts by f -/
def bt (z : Nat) (f : Nat → Int) : Nat → Int × Int
  | 0 => (-2, 9223372036854775807)
  | k + 1 => if z.testBit k = false ∧ f k < (bt z f k).2 then ((k : Int), f k) else bt z f k
theorem bt_s (z : Nat) (f : Nat → Int) (k : Nat) : bt z f (k + 1) = if z.testBit k = false ∧ f k < (bt z f k).2 then ((k : Int), f k) else bt z f k := rfl
theorem bt_b {z : Nat} {f : Nat → Int} (h : ∀ p, 0 ≤ f p ∧ f p < 9223372036854775807) : ∀ k : Nat, ((bt z f k).1 = -2 ∧ (bt z f k).2 = 9223372036854775807) ∨ ((0 ≤ (bt z f k).1 ∧ (bt z f k).1 < k) ∧ 0 ≤ (bt z f k).2 ∧ (bt z f k).2 < 9223372036854775807)
  | 0 => Or.inl ⟨rfl, rfl⟩
  | k + 1 => by
    have ih := bt_b (z := z) h k
    unfold bt
    by_cases c : z.testBit k = false ∧ f k < (bt z f k).2
    · rw [if_pos c]
      exact Or.inr ⟨⟨by show (0 : Int) ≤ (k : Int); omega, by show (k : Int) < ((k + 1 : Nat) : Int); omega⟩, h k⟩
    · rw [if_neg c]
      rcases ih with ih | ih
      · exact Or.inl ih
      · exact Or.inr ⟨⟨ih.1.1, by have := ih.1.2; omega⟩, ih.2⟩
theorem ifw {B : Bool} : (¬ w32 (if B = true then (1 : Int) else 0) = 1 ↔ B = false) ∧ (¬ w32 (if B = true then (1 : Int) else 0) = 0 ↔ B = true) := by
  cases B <;> decide
section IQ
variable {X : Cx} {sw : Bool} {m : Mem} {Q : Int → Bool → Mem → Prop} {w : Option (List Ln)} {n : Nat}
abbrev told_ok (a : Int) : Prop := (0 ≤ a ∧ a < 262144) ∧ zand (zrem a 512) (zxor (zdiv a 512) (-1)) = 0
theorem eI_isTold {a : Int} (ha : w32 a = a) (h : Q (bz (told_ok a)) sw m) : M2 X 1 mI_isTold [vi a] sw m Q := by
  refine wI_isTold _ _ _ _ ?_
  rw [ha, zand_w]
  clear ha
  refine ⟨fun c => ?_, fun c => ⟨fun c2 => ?_, fun c2 => ⟨fun c3 => ?_, fun c3 => ?_⟩⟩⟩
  · rwa [bz_f (fun q => by omega)] at h
  · rwa [bz_f (fun q => by omega)] at h
  · rwa [bz_f (fun q => c3 q.2)] at h
  · rwa [bz_t ⟨by omega, Decidable.not_not.mp c3⟩] at h
theorem eY_areSeen {a : Int} (ha : w32 a = a) (h : Q (bz (told_ok a)) sw m) : M2 X 2 mY_areSeen [vi a] sw m Q := by
  refine wY_areSeen _ _ _ _ (eY_in ha (by decide) (by decide) ?_)
  rw [bz_w, bz_0, zand_w]
  clear ha
  refine ⟨fun c => ?_, fun c => ⟨fun c3 => ?_, fun c3 => ?_⟩⟩
  · rwa [bz_f (fun q => by omega)] at h
  · rwa [bz_f (fun q => c3 q.2)] at h
  · rwa [bz_t ⟨by omega, Decidable.not_not.mp c3⟩] at h
theorem told_n {a : Int} (h : told_ok a) (hn : n ≤ 9) : ∃ r q : Nat, r < 512 ∧ q < 512 ∧ zrem a 512 = (r : Int) ∧ zdiv a 512 = (q : Int) ∧ r &&& (q % 2 ^ n) = r % 2 ^ n := by
  obtain ⟨⟨h1, h2⟩, h3⟩ := h
  have e1 : zrem a 512 = a % 512 := zrem_pos h1 (by omega) (by decide) (by decide)
  have e2 : zdiv a 512 = a / 512 := zdiv_pos h1 (by omega) (by decide) (by decide)
  refine ⟨(a % 512).toNat, (a / 512).toNat, by omega, by omega, by omega, by omega, tell_m (sub_z (by omega) (by omega) ?_)⟩
  rw [show (((a % 512).toNat : Nat) : Int) = zrem a 512 by omega, show (((a / 512).toNat : Nat) : Int) = zdiv a 512 by omega]
  exact h3
theorem eI_hear {a : Int} {r q : Nat} (hn : n ≤ 9) (h5 : m 23 5 = ((2 ^ n : Nat) : Int)) (hr : r < 512) (hq : q < 512) (er : zrem a 512 = (r : Int)) (eq_ : zdiv a 512 = (q : Int)) (h : ∀ m2, FrX m m2 → m2 44 5 = ((q % 2 ^ n : Nat) : Int) → m2 44 6 = ((r % 2 ^ n : Nat) : Int) → Q 0 sw m2) : M2 X 1 mI_hear [vr 44, vi a] sw m Q := by
  refine wI_hear _ _ _ _ ?_
  rw [er, eq_, h5, mask_z (by omega) (by omega), mask_z (by omega) (by omega)]
  refine h _ ((FrX.up (by omega)).tr (FrX.up (by omega))) ?_ ?_
  · rw [upm_at, if_neg (by omega), upm_at, if_pos rfl]
  · rw [upm_at, if_pos rfl]
/-- the class has heard -/
def HR (S : Sh) (V : Nat → Int) (n sn tl : Nat) (m : Mem) : Prop := TO S V n m ∧ PO S n m ∧ m 44 5 = (sn : Int) ∧ m 44 6 = (tl : Int) ∧ sn < 512 ∧ tl < 512
theorem eI_oddsSo {S : Sh} {V : Nat → Int} {sn tl s : Nat} (hn : n ≤ 9) (hR : HR S V n sn tl m) (hs1 : s < 2 ^ n) (h : Q (hs S (U1 V) n sn tl s) sw m) : M2 X 1 mI_oddsSo [vr 44, vi (s : Int)] sw m Q := by
  have h2n := p9 (k := n) hn
  obtain ⟨hO, hP, r5, r6, b5, b6⟩ := hR
  have hgl := go_lt S s n
  have hal : go S s n &&& sn ≤ go S s n := Nat.and_le_left
  refine wI_oddsSo _ _ _ _ ?_
  rw [w32_id (z := (s : Int)) (by omega) (by omega), (hP.2.1.2 s hs1).1, r5, r6, zand_nat (by omega) (by omega), hO.2.1 s hs1, w32_id (z := ((go S s n &&& sn : Nat) : Int)) (by omega) (by omega), w32_id (z := (tl : Int)) (by omega) (by omega)]
  unfold hs at h
  refine ⟨by omega, fun c => ?_, fun c => ⟨by omega, ?_⟩⟩
  · rw [if_neg (by omega)] at h; exact h
  · rw [if_pos (by omega)] at h; exact h
theorem eI_oddsHeard {S : Sh} {V : Nat → Int} {sn tl : Nat} (hn : n ≤ 9) (hR : HR S V n sn tl m) (h : Q (sH S (U1 V) n sn tl (2 ^ n)) sw m) : M2 X 2 mI_oddsHeard [vr 44] sw m Q := by
  have h2n := p9 (k := n) hn
  have key : ∀ k : Nat, k ≤ 2 ^ n → R2 X 2 mI_oddsHeard 4 [(0, vr 44), (1, vl (sH S (U1 V) n sn tl k)), (3, vi (k : Int))] [] sw m Q := by
    refine downN (2 ^ n) ?_ (fun k hk ih => ?_)
    · refine wI_oddsHeard_4 _ _ _ _ _ ?_
      rw [hR.2.1.1]
      exact ⟨fun _ => h, fun c => absurd (Int.le_refl _) c⟩
    · refine wI_oddsHeard_4 _ _ _ _ _ ?_
      rw [hR.2.1.1, w32_id (z := ((2 ^ n : Nat) : Int)) (by omega) (by omega), w32_id (z := (k : Int)) (by omega) (by omega)]
      exact ⟨fun c => by omega, fun _ => eI_oddsSo hn hR hk ih⟩
  exact wI_oddsHeard _ _ _ (key 0 (Nat.zero_le _))
theorem eI_oddsStuck {S : Sh} {V : Nat → Int} {sn tl p : Nat} (hn : n ≤ 9) (hR : HR S V n sn tl m) (hp : p < 9) (h : Q (sS S (U1 V) n sn tl (2 ^ n) p) sw m) : M2 X 2 mI_oddsStuck [vr 44, vi (p : Int)] sw m Q := by
  have h2n := p9 (k := n) hn
  have key : ∀ k : Nat, k ≤ 2 ^ n → R2 X 2 mI_oddsStuck 5 [(0, vr 44), (1, vi (p : Int)), (2, vl (sS S (U1 V) n sn tl k p)), (4, vi (k : Int))] [] sw m Q := by
    refine downN (2 ^ n) ?_ (fun k hk ih => ?_)
    · refine wI_oddsStuck_5 _ _ _ _ _ _ ?_
      rw [hR.2.1.1]
      exact ⟨fun _ => h, fun c => absurd (Int.le_refl _) c⟩
    · have hsl := sk_lt S k n
      have e : sS S (U1 V) n sn tl (k + 1) p = sS S (U1 V) n sn tl k p + (if (sk S k n).testBit p = true then hs S (U1 V) n sn tl k else 0) := rfl
      rw [e] at ih
      refine wI_oddsStuck_5 _ _ _ _ _ _ ?_
      rw [hR.2.1.1, w32_id (z := ((2 ^ n : Nat) : Int)) (by omega) (by omega), w32_id (z := (k : Int)) (by omega) (by omega), (hR.2.1.2.1.2 k hk).2, bit_z (by omega) (by omega)]
      refine ⟨fun c => by omega, fun _ => ⟨by omega, eI_oddsSo hn hR hk ?_⟩⟩
      by_cases cb : (sk S k n).testBit p = true
      · rw [if_pos cb] at ih
        rw [if_pos cb, show w32 1 = 1 by decide, Int.one_mul]; exact ih
      · rw [if_neg cb] at ih
        rw [if_neg cb, show w32 0 = 0 by decide, Int.zero_mul]; exact ih
  exact wI_oddsStuck _ _ _ _ (key 0 (Nat.zero_le _))
theorem eI_oddsGone {S : Sh} {V : Nat → Int} {sn tl p : Nat} (hn : n ≤ 9) (hR : HR S V n sn tl m) (hp : p < 9) (h : Q (sG S (U1 V) n sn tl (2 ^ n) p) sw m) : M2 X 2 mI_oddsGone [vr 44, vi (p : Int)] sw m Q := by
  have h2n := p9 (k := n) hn
  have key : ∀ k : Nat, k ≤ 2 ^ n → R2 X 2 mI_oddsGone 5 [(0, vr 44), (1, vi (p : Int)), (2, vl (sG S (U1 V) n sn tl k p)), (4, vi (k : Int))] [] sw m Q := by
    refine downN (2 ^ n) ?_ (fun k hk ih => ?_)
    · refine wI_oddsGone_5 _ _ _ _ _ _ ?_
      rw [hR.2.1.1]
      exact ⟨fun _ => h, fun c => absurd (Int.le_refl _) c⟩
    · have hsl := go_lt S k n
      have e : sG S (U1 V) n sn tl (k + 1) p = sG S (U1 V) n sn tl k p + (if (go S k n).testBit p = true then hs S (U1 V) n sn tl k else 0) := rfl
      rw [e] at ih
      refine wI_oddsGone_5 _ _ _ _ _ _ ?_
      rw [hR.2.1.1, w32_id (z := ((2 ^ n : Nat) : Int)) (by omega) (by omega), w32_id (z := (k : Int)) (by omega) (by omega), (hR.2.1.2.1.2 k hk).1, bit_z (by omega) (by omega)]
      refine ⟨fun c => by omega, fun _ => ⟨by omega, eI_oddsSo hn hR hk ?_⟩⟩
      by_cases cb : (go S k n).testBit p = true
      · rw [if_pos cb] at ih
        rw [if_pos cb, show w32 1 = 1 by decide, Int.one_mul]; exact ih
      · rw [if_neg cb] at ih
        rw [if_neg cb, show w32 0 = 0 by decide, Int.zero_mul]; exact ih
  exact wI_oddsGone _ _ _ _ (key 0 (Nat.zero_le _))
/-- what the model has found -/
def YF (S : Sh) (U : Us) (n sn tl k q : Nat) (m : Mem) : Prop := (∀ p : Nat, p < q → m 107 (p : Int) = sS S U n sn tl (k + 1) p ∧ m 108 (p : Int) = sG S U n sn tl (k + 1) p) ∧ ∀ p : Nat, q ≤ p → p < n → m 107 (p : Int) = sS S U n sn tl k p ∧ m 108 (p : Int) = sG S U n sn tl k p
def FrF5 (m m' : Mem) : Prop := ∀ c j : Int, ¬ (c = 84 ∧ (j = 30 ∨ j = 31 ∨ j = 35)) → ¬ c = 104 → ¬ c = 107 → ¬ c = 108 → m' c j = m c j
theorem FrF5.tr {m1 m2 m3 : Mem} (h : FrF5 m1 m2) (g : FrF5 m2 m3) : FrF5 m1 m3 := fun c j a b d e => (g c j a b d e).trans (h c j a b d e)
theorem FrF5.up {m : Mem} {k i v : Int} (h : (k = 84 ∧ i = 35) ∨ k = 107 ∨ k = 108) : FrF5 m (upm m k i v) := fun c j a b d e => upm_ne (by omega)
theorem FrM2.f5 {m m' : Mem} (f : FrM2 m m') : FrF5 m m' := fun c j a b _ _ => f c j (by omega) b
theorem FrF5.y9 {m m' : Mem} (f : FrF5 m m') : FrY9 m m' := fun c j a b => f c j (by omega) (by omega) (by omega) (by omega)
theorem MO.f5 {S : Sh} {V : Nat → Int} {D : Int} {m m' : Mem} (h : MO S V n D m) (f : FrF5 m m') : MO S V n D m' := h.fr (fun c j q => f c j (by omega) (by omega) (by omega) (by omega))
theorem lY_so107 {S : Sh} {V : Nat → Int} {sn tl k : Nat} {a x2 : Int} (hM : MO S V n (-1) m) (hk : k < 512) (hin : go S k n &&& sn = tl) (hY : YM S n k m) (h : ∀ m2, FrF5 m m2 → m2 84 35 = m 84 35 → YF S (U1 V) n sn tl k n m2 → R2 X 6 mY_findSo 54 [(0, vr 84), (1, vi a), (2, vi x2), (3, vi ((k : Int) + 1))] [] sw m2 Q) : ∀ q : Nat, q ≤ n → ∀ m1, FrF5 m m1 → (∀ j : Int, ¬ j = 35 → m1 84 j = m 84 j) → m1 84 35 = m 84 35 → YF S (U1 V) n sn tl k q m1 → R2 X 6 mY_findSo 107 [(0, vr 84), (1, vi a), (2, vi x2), (3, vi (k : Int)), (4, vl (od (U1 V) n k)), (6, vi (q : Int))] [] sw m1 Q := by
  have hn := hM.1.2.1
  have h2n := p9 (k := n) hn
  refine downN n (fun m1 hF h84 h35 hf => ?_) (fun q hq ih m1 hF h84 h35 hf => ?_)
  · refine wY_findSo_107 _ _ _ _ _ _ _ _ ?_
    rw [h84 1 (by omega), hM.1.1]
    exact ⟨fun _ => h m1 hF h35 hf, fun c => absurd (Int.le_refl _) c⟩
  · have hgl := go_lt S k n
    have hsl := sk_lt S k n
    have hhs : hs S (U1 V) n sn tl k = od (U1 V) n k := if_pos hin
    have hold := hf.2 q (Nat.le_refl q) hq
    have es : sS S (U1 V) n sn tl (k + 1) q = sS S (U1 V) n sn tl k q + (if (sk S k n).testBit q = true then hs S (U1 V) n sn tl k else 0) := rfl
    have eg_ : sG S (U1 V) n sn tl (k + 1) q = sG S (U1 V) n sn tl k q + (if (go S k n).testBit q = true then hs S (U1 V) n sn tl k else 0) := rfl
    have mk : ∀ M : Mem, (∀ p : Nat, ¬ p = q → M 107 (p : Int) = m1 107 (p : Int) ∧ M 108 (p : Int) = m1 108 (p : Int)) → M 107 (q : Int) = sS S (U1 V) n sn tl (k + 1) q → M 108 (q : Int) = sG S (U1 V) n sn tl (k + 1) q → YF S (U1 V) n sn tl k (q + 1) M := by
      intro M g1 g2 g3
      refine ⟨fun p hp => ?_, fun p hp1 hp2 => ?_⟩
      · by_cases c : p = q
        · rw [c]; exact ⟨g2, g3⟩
        · rw [(g1 p c).1, (g1 p c).2]; exact hf.1 p (by omega)
      · rw [(g1 p (by omega)).1, (g1 p (by omega)).2]; exact hf.2 p (by omega) hp2
    refine wY_findSo_107 _ _ _ _ _ _ _ _ ?_
    rw [h84 1 (by omega), h84 30 (by omega), h84 31 (by omega), hM.1.1, w32_id (z := (n : Int)) (by omega) (by omega), w32_id (z := (q : Int)) (by omega) (by omega), hY.2.2, hY.2.1, bit_z (by omega) (by omega), bit_z (by omega) (by omega), ifw.1, ifw.1, hold.1, hold.2]
    rw [hhs] at es eg_
    refine ⟨fun c => by omega, fun _ => ⟨fun c => ⟨fun c2 => ?_, fun c2 => ⟨by omega, by omega, ?_⟩⟩, fun c => ⟨by omega, by omega, fun c2 => ?_, fun c2 => ⟨by omega, by omega, ?_⟩⟩⟩⟩
    · rw [c, if_neg (by decide), Int.add_zero] at es
      rw [c2, if_neg (by decide), Int.add_zero] at eg_
      exact ih m1 hF h84 h35 (mk m1 (fun _ _ => ⟨rfl, rfl⟩) (by rw [es]; exact hold.1) (by rw [eg_]; exact hold.2))
    · rw [c, if_neg (by decide), Int.add_zero] at es
      rw [show (go S k n).testBit q = true by simpa using c2, if_pos rfl] at eg_
      refine ih _ (hF.tr (FrF5.up (by omega))) (fun j hj => by rw [upm_row (by omega)]; exact h84 j hj) (by rw [upm_row (by omega)]; exact h35) (mk _ (fun p hp => ?_) ?_ ?_)
      · rw [upm_row (by omega), upm_at, if_neg (by omega)]; exact ⟨rfl, rfl⟩
      · rw [upm_row (by omega), es]; exact hold.1
      · rw [upm_at, if_pos rfl, eg_]
    · rw [show (sk S k n).testBit q = true by simpa using c, if_pos rfl] at es
      rw [c2, if_neg (by decide), Int.add_zero] at eg_
      refine ih _ (hF.tr (FrF5.up (by omega))) (fun j hj => by rw [upm_row (by omega)]; exact h84 j hj) (by rw [upm_row (by omega)]; exact h35) (mk _ (fun p hp => ?_) ?_ ?_)
      · rw [upm_at, if_neg (by omega), upm_row (by omega)]; exact ⟨rfl, rfl⟩
      · rw [upm_at, if_pos rfl, es]
      · rw [upm_row (by omega), eg_]; exact hold.2
    · rw [show (sk S k n).testBit q = true by simpa using c, if_pos rfl] at es
      rw [show (go S k n).testBit q = true by simpa using c2, if_pos rfl] at eg_
      refine ih _ (hF.tr ((FrF5.up (by omega)).tr (FrF5.up (by omega)))) (fun j hj => by rw [upm_row (by omega), upm_row (by omega)]; exact h84 j hj) (by rw [upm_row (by omega), upm_row (by omega)]; exact h35) (mk _ (fun p hp => ?_) ?_ ?_)
      · rw [upm_row (by omega), upm_at, if_neg (by omega), upm_at, if_neg (by omega), upm_row (by omega)]; exact ⟨rfl, rfl⟩
      · rw [upm_row (by omega), upm_at, if_pos rfl, es]
      · rw [upm_at, if_pos rfl, eg_]
theorem lY_findSo {S : Sh} {V : Nat → Int} {a : Int} {r q : Nat} (hM : MO S V n (-1) m) (hV : Vb V) (hr : r < 512) (hq : q < 512) (er : zrem a 512 = (r : Int)) (eq_ : zdiv a 512 = (q : Int)) (hrq : r &&& (q % 2 ^ n) = r % 2 ^ n) (h : ∀ m2, FrF5 m m2 → m2 84 35 = sH S (U1 V) n (q % 2 ^ n) (r % 2 ^ n) (2 ^ n) → (∀ p : Nat, p < n → m2 107 (p : Int) = sS S (U1 V) n (q % 2 ^ n) (r % 2 ^ n) (2 ^ n) p ∧ m2 108 (p : Int) = sG S (U1 V) n (q % 2 ^ n) (r % 2 ^ n) (2 ^ n) p) → Q 0 sw m2) : R2 X 6 mY_findSo 11 [(0, vr 84), (1, vi a), (2, vi 0)] [] sw (upm m 84 35 0) Q := by
  have hn := hM.1.2.1
  have h2n := p9 (k := n) hn
  have hU := U1_b hV n
  generalize hsn : q % 2 ^ n = sn at h hrq
  generalize htl : r % 2 ^ n = tl at h hrq
  have hsl : sn < 512 := by rw [← hsn]; exact Nat.lt_of_lt_of_le (Nat.mod_lt q (by omega)) h2n.2
  have htl' : tl < 512 := by rw [← htl]; exact Nat.lt_of_lt_of_le (Nat.mod_lt r (by omega)) h2n.2
  have sets_ : ∀ k : Nat, k ≤ 2 ^ n → ∀ m1, FrF5 m m1 → m1 84 35 = sH S (U1 V) n sn tl k → (∀ p : Nat, p < n → m1 107 (p : Int) = sS S (U1 V) n sn tl k p ∧ m1 108 (p : Int) = sG S (U1 V) n sn tl k p) → R2 X 6 mY_findSo 54 [(0, vr 84), (1, vi a), (2, vi (sn : Int)), (3, vi (k : Int))] [] sw m1 Q := by
    refine downN (2 ^ n) (fun m1 hF h1 h2 => ?_) (fun k hk ih m1 hF h1 h2 => ?_)
    · have hM1 := hM.f5 hF
      exact wY_findSo_54 _ _ _ _ _ _ (eY_sets hM1.1.1 hn ⟨fun _ => h m1 hF h1 h2, fun c => absurd (Int.le_refl _) c⟩)
    · have hM1 := hM.f5 hF
      have hgl := go_lt S k n
      have hal : go S k n &&& sn ≤ go S k n := Nat.and_le_left
      have hal2 : r &&& sn ≤ r := Nat.and_le_left
      have e : sH S (U1 V) n sn tl (k + 1) = sH S (U1 V) n sn tl k + hs S (U1 V) n sn tl k := rfl
      refine wY_findSo_54 _ _ _ _ _ _ (eY_sets hM1.1.1 hn ?_)
      rw [w32_id (z := ((2 ^ n : Nat) : Int)) (by omega) (by omega), w32_id (z := (k : Int)) (by omega) (by omega), er]
      refine ⟨fun c => by omega, fun _ => eY_goMorning hM1.1 (by omega) (fun m2 f2 y2 => ?_)⟩
      have hM2 := hM1.m2 f2
      have g2 : ∀ c j : Int, ¬ (c = 84 ∧ (j = 30 ∨ j = 31)) → ¬ c = 104 → m2 c j = m1 c j := f2
      rw [y2.2.1, zand_nat (by omega) (by omega), zand_nat (by omega) (by omega), hrq, w32_id (z := ((go S k n &&& sn : Nat) : Int)) (by omega) (by omega), w32_id (z := (tl : Int)) (by omega) (by omega)]
      refine ⟨fun c => ?_, fun c => ?_⟩
      · have c' : go S k n &&& sn = tl := by omega
        have hhs : hs S (U1 V) n sn tl k = od (U1 V) n k := if_pos c'
        refine eY_oddsOf hM2 hV (by omega) ?_
        rw [UD_m]
        have e35 : upm m2 84 35 (m2 84 35 + od (U1 V) n k) 84 35 = sH S (U1 V) n sn tl (k + 1) := by
          rw [upm_at, if_pos rfl, g2 84 35 (by omega) (by omega), h1, e, hhs]
        have hY3 : YM S n k (upm m2 84 35 (m2 84 35 + od (U1 V) n k)) := ⟨fun p hp => by rw [upm_row (by omega)]; exact y2.1 p hp, by rw [upm_at, if_neg (by omega)]; exact y2.2.1, by rw [upm_at, if_neg (by omega)]; exact y2.2.2⟩
        have hM3 : MO S V n (-1) (upm m2 84 35 (m2 84 35 + od (U1 V) n k)) := hM2.f5 (FrF5.up (by omega))
        refine lY_so107 hM3 (by omega) c' hY3 (fun m4 f4 e4 hf4 => ?_) 0 (Nat.zero_le _) _ (fun _ _ _ _ _ _ => rfl) (fun _ _ => rfl) rfl ⟨fun p hp => absurd hp (Nat.not_lt_zero _), fun p _ hp => ?_⟩
        · refine ih m4 (hF.tr (f2.f5.tr ((FrF5.up (by omega)).tr f4))) (e4.trans e35) (fun p hp => hf4.1 p hp)
        · rw [upm_row (by omega), upm_row (by omega), g2 107 _ (by omega) (by omega), g2 108 _ (by omega) (by omega)]
          exact h2 p hp
      · have c' : ¬ go S k n &&& sn = tl := by omega
        have hhs : hs S (U1 V) n sn tl k = 0 := if_neg c'
        refine ih m2 (hF.tr f2.f5) ?_ (fun p hp => ?_)
        · rw [g2 84 35 (by omega) (by omega), h1, e, hhs, Int.add_zero]
        · have e1 : sS S (U1 V) n sn tl (k + 1) p = sS S (U1 V) n sn tl k p + (if (sk S k n).testBit p = true then hs S (U1 V) n sn tl k else 0) := rfl
          have e2 : sG S (U1 V) n sn tl (k + 1) p = sG S (U1 V) n sn tl k p + (if (go S k n).testBit p = true then hs S (U1 V) n sn tl k else 0) := rfl
          rw [hhs, ite_self, Int.add_zero] at e1 e2
          rw [g2 107 _ (by omega) (by omega), g2 108 _ (by omega) (by omega), e1, e2]
          exact h2 p hp
  have zero : ∀ k : Nat, k ≤ n → ∀ m1, FrF5 m m1 → m1 84 35 = 0 → (∀ p : Nat, p < k → m1 107 (p : Int) = 0 ∧ m1 108 (p : Int) = 0) → R2 X 6 mY_findSo 11 [(0, vr 84), (1, vi a), (2, vi (k : Int))] [] sw m1 Q := by
    refine downN n (fun m1 hF h1 h2 => ?_) (fun k hk ih m1 hF h1 h2 => ?_)
    · have hM1 := hM.f5 hF
      refine wY_findSo_11 _ _ _ _ _ ?_
      rw [hM1.1.1]
      refine ⟨fun _ => eY_sets hM1.1.1 hn ?_, fun c => absurd (Int.le_refl _) c⟩
      rw [eq_, mask_z (by omega) (by omega), hsn]
      exact sets_ 0 (Nat.zero_le _) m1 hF (by rw [h1]; rfl) (fun p hp => ⟨(h2 p hp).1, (h2 p hp).2⟩)
    · have hM1 := hM.f5 hF
      refine wY_findSo_11 _ _ _ _ _ ?_
      rw [hM1.1.1, w32_id (z := (n : Int)) (by omega) (by omega), w32_id (z := (k : Int)) (by omega) (by omega)]
      refine ⟨fun c => by omega, fun _ => ⟨by omega, by omega, ih _ (hF.tr ((FrF5.up (by omega)).tr (FrF5.up (by omega)))) (by rw [upm_row (by omega), upm_row (by omega)]; exact h1) (fun p hp => ?_)⟩⟩
      rw [upm_row (by omega), upm_at, upm_at]
      by_cases c : p = k
      · subst c; rw [if_pos rfl, if_pos rfl]; exact ⟨rfl, rfl⟩
      · rw [if_neg (by omega), if_neg (by omega), upm_row (by omega)]; exact h2 p (by omega)
  exact zero 0 (Nat.zero_le _) _ (FrF5.up (by omega)) (by rw [upm_at, if_pos rfl]) (fun p hp => absurd hp (Nat.not_lt_zero _))
theorem Pre.heard {a : Int} {r q : Nat} (hp : Pre w sw n m) (hr : r < 512) (hq : q < 512) (er : zrem a 512 = (r : Int)) (eq_ : zdiv a 512 = (q : Int)) {P : Bool → Mem → Prop} (k : ∀ m2, Mid w (shp m) (VV w m) sw n m m2 → HR (shp m) (VV w m) n (q % 2 ^ n) (r % 2 ^ n) m2 → P sw m2) : M2 X 6 mT_think [vr 37] sw m (fun z2 sw2 m2 => M2 X 1 mI_hear [vr 44, vi a] sw2 m2 (fun z3 sw3 m3 => P sw3 m3)) := by
  have h9 := hp.n9
  have h2n := p9 (k := n) h9
  refine hp.think (fun m2 hm => eI_hear h9 hm.2.2.1.1 hr hq er eq_ (fun m3 f3 e5 e6 => ?_))
  have hm3 := hm.fx f3 hp.2.1 h9
  exact k m3 hm3 ⟨hm3.2.1, hm3.2.2.1, e5, e6, Nat.lt_of_lt_of_le (Nat.mod_lt q (by omega)) h2n.2, Nat.lt_of_lt_of_le (Nat.mod_lt r (by omega)) h2n.2⟩
theorem Pre.find {a : Int} {r q : Nat} {m2 : Mem} (hp : Pre w sw n m) (hm : Mid w (shp m) (VV w m) sw n m m2) (hr : r < 512) (hq : q < 512) (er : zrem a 512 = (r : Int)) (eq_ : zdiv a 512 = (q : Int)) (hrq : r &&& (q % 2 ^ n) = r % 2 ^ n) (k : ∀ m3, Fin w m m3 → m3 84 1 = (n : Int) → m3 84 35 = sH (shp m) (U1 (VV w m)) n (q % 2 ^ n) (r % 2 ^ n) (2 ^ n) → (∀ p : Nat, p < n → m3 107 (p : Int) = sS (shp m) (U1 (VV w m)) n (q % 2 ^ n) (r % 2 ^ n) (2 ^ n) p ∧ m3 108 (p : Int) = sG (shp m) (U1 (VV w m)) n (q % 2 ^ n) (r % 2 ^ n) (2 ^ n) p) → Q 0 sw m3) : M2 X 6 mY_findSo [vr 84, vi a] sw m2 Q := by
  refine wY_findSo _ _ _ _ (hp.lay hm.1 hm.2.2.2.2.2 (fun m3 f3 hM => lY_findSo hM (VV_b w m) hr hq er eq_ hrq (fun m4 f4 e35 e7 => ?_)))
  have hM4 := hM.f5 f4
  exact k m4 (hm.fin hp.2.1 hp.n9 (f3.tr f4.y9) (by rw [hM4.2.2.1])) hM4.1.1 e35 e7
theorem pr_failed {a b c : Int} (ha : w32 a = a) (hb : w32 b = b) (hc : w32 c = c) (hp : Pre w sw n m) {QQ : Int → Int → Bool → Mem → Prop} (h : ∀ z m', Fin w m m' → QQ z z sw m') : M2 X 7 mZ_failed [vr 1, vi a, vi b, vi c] sw m (fun z1 sw1 m1 => M2 X 7 mY_failed [vr 84, vi a, vi b, vi c] sw1 m1 (fun z2 sw2 m2 => QQ z1 z2 sw2 m2)) := by
  have h9 := hp.n9
  have hn := hp.2.1
  have hU := U1_b (VV_b w m) n
  have hbad : ¬ (told_ok a ∧ (0 ≤ b ∧ b < (n : Int)) ∧ (c = 0 ∨ c = 1)) → M2 X 7 mY_failed [vr 84, vi a, vi b, vi c] sw m (fun z2 sw2 m2 => QQ (-9223372036854775808) z2 sw2 m2) := fun q => by
    refine wY_failed _ _ _ _ _ _ (eY_areSeen ha ?_)
    rw [bz_w, bz_0]
    refine ⟨fun _ => h _ m hp.same, fun c1 => eY_isPart hb (n := (n : Int)) (by omega) (hp.y1 (FrH.rf m)) ?_⟩
    rw [bz_w, bz_0]
    refine ⟨fun _ => h _ m hp.same, fun c2 => eY_in hc (by decide) (by decide) ?_⟩
    rw [bz_w, bz_0]
    exact ⟨fun c3 => absurd ⟨Decidable.not_not.mp c1, Decidable.not_not.mp c2, by omega⟩ q, fun _ => h _ m hp.same⟩
  refine wZ_failed _ _ _ _ _ _ (eI_isTold ha ?_)
  rw [bz_w, bz_0]
  refine ⟨fun c1 => hbad (fun q => c1 q.1), fun c1 => eK_has hb hp.1 ?_⟩
  rw [bz_w, bz_0, hn]
  refine ⟨fun c2 => hbad (fun q => c2 q.2.1), fun c2 => eZ_isSide hc ?_⟩
  rw [bz_w, bz_0]
  refine ⟨fun c3 => ?_, fun c3 => hbad (fun q => Decidable.not_not.mp c3 q.2.2)⟩
  have c1 := Decidable.not_not.mp c1
  have c2 := Decidable.not_not.mp c2
  have c3 := Decidable.not_not.mp c3
  obtain ⟨p, rfl⟩ : ∃ p : Nat, b = (p : Int) := ⟨b.toNat, by omega⟩
  obtain ⟨r, q, r1, q1, er, eq_, hrq⟩ := told_n (n := n) c1 h9
  refine hp.heard r1 q1 er eq_ (fun m2 hm hR => eI_oddsStuck h9 hR (p := p) (by omega) (eI_oddsHeard h9 hR ?_))
  have b1 := sH_b (S := shp m) (sn := q % 2 ^ n) (tl := r % 2 ^ n) h9 hU
  have b2 := sS_b (S := shp m) (sn := q % 2 ^ n) (tl := r % 2 ^ n) (p := p) h9 hU
  refine eZ_side (by omega) (by omega) (fun q0 => by omega) c3 ?_
  refine wY_failed _ _ _ _ _ _ (eY_areSeen ha ?_)
  rw [bz_w, bz_0]
  refine ⟨fun q => absurd c1 q, fun _ => eY_isPart hb (n := (n : Int)) (by omega) (hp.y1 hm.1) ?_⟩
  rw [bz_w, bz_0]
  refine ⟨fun q => absurd c2 q, fun _ => eY_in hc (by decide) (by decide) ?_⟩
  rw [bz_w, bz_0]
  refine ⟨fun _ => hp.find hm r1 q1 er eq_ hrq (fun m3 hf e1 e35 e7 => ?_), fun c4 => by omega⟩
  rw [w32_id (z := (p : Int)) (by omega) (by omega), (e7 p (by omega)).1, e35]
  exact ⟨by omega, eY_lowest (by omega) (by omega) c3 (h _ m3 hf)⟩
theorem pr_look {a : Int} (ha : w32 a = a) (hp : Pre w sw n m) {QQ : Int → Int → Bool → Mem → Prop} (h : ∀ z m', Fin w m m' → QQ z z sw m') : M2 X 7 mZ_look [vr 1, vi a] sw m (fun z1 sw1 m1 => M2 X 7 mY_look [vr 84, vi a] sw1 m1 (fun z2 sw2 m2 => QQ z1 z2 sw2 m2)) := by
  have h9 := hp.n9
  have hn := hp.2.1
  have hU := U1_b (VV_b w m) n
  refine wZ_look _ _ _ _ (eI_isTold ha ?_)
  rw [bz_w, bz_0]
  refine ⟨fun c1 => ?_, fun c1 => wY_look _ _ _ _ (eY_areSeen ha ?_)⟩
  · have c1 := Decidable.not_not.mp c1
    obtain ⟨r, q, r1, q1, er, eq_, hrq⟩ := told_n (n := n) c1 h9
    have b1 := sH_b (S := shp m) (sn := q % 2 ^ n) (tl := r % 2 ^ n) h9 hU
    have b2 := fun p => sS_b (S := shp m) (sn := q % 2 ^ n) (tl := r % 2 ^ n) (p := p) h9 hU
    have bl := lk_b (f := fun p => sS (shp m) (U1 (VV w m)) n (q % 2 ^ n) (r % 2 ^ n) (2 ^ n) p) b1.1 b2
    generalize hf : (fun p => sS (shp m) (U1 (VV w m)) n (q % 2 ^ n) (r % 2 ^ n) (2 ^ n) p) = f at bl
    have hfp : ∀ p, sS (shp m) (U1 (VV w m)) n (q % 2 ^ n) (r % 2 ^ n) (2 ^ n) p = f p := fun p => by rw [← hf]
    refine hp.heard r1 q1 er eq_ (fun m2 hm hR => ?_)
    have mdl : M2 X 7 mY_look [vr 84, vi a] sw m2 (fun z2 sw2 m2 => QQ (lk f n).1 z2 sw2 m2) := by
      refine wY_look _ _ _ _ (eY_areSeen ha ?_)
      rw [bz_w, bz_0]
      refine ⟨fun _ => hp.find hm r1 q1 er eq_ hrq (fun m3 hfn e1 e35 e7 => ?_), fun q => absurd c1 (Decidable.not_not.mp q)⟩
      have key : ∀ k : Nat, k ≤ n → R2 X 7 mY_look 22 [(0, vr 84), (2, vi (lk f k).1), (3, vl (lk f k).2), (5, vi (k : Int))] [] sw m3 (fun z2 sw2 m2 => QQ (lk f n).1 z2 sw2 m2) := by
        refine downN n ?_ (fun k hk ih => ?_)
        · refine wY_look_22 _ _ _ _ _ _ ?_
          rw [e1]
          exact ⟨fun _ => h _ m3 hfn, fun c => absurd (Int.le_refl _) c⟩
        · have bk := bl k
          have b2k := b2 k
          rw [hfp] at b2k
          rw [lk_s] at ih
          refine wY_look_22 _ _ _ _ _ _ ?_
          rw [e1, w32_id (z := (n : Int)) (by omega) (by omega), w32_id (z := (k : Int)) (by omega) (by omega), (e7 k hk).1, hfp, w64_id (z := f k) (by omega) (by omega), w64_id (z := (lk f k).2) (by omega) (by omega)]
          refine ⟨fun c => by omega, fun _ => ⟨by omega, fun c => ⟨by omega, ?_⟩, fun c => ?_⟩⟩
          · rw [if_pos c] at ih; exact ih
          · rw [if_neg c] at ih; exact ih
      exact key 0 (Nat.zero_le _)
    have e3 : m2 2 3 = (n : Int) := by rw [hm.1 2 3 (Or.inl rfl)]; exact hn
    have cls : ∀ k : Nat, k ≤ n → R2 X 3 mI_likeliestStuck 8 [(0, vr 44), (1, vi (lk f k).1), (2, vl (lk f k).2), (4, vi (k : Int))] [] sw m2 (fun z1 sw1 m1 => M2 X 7 mY_look [vr 84, vi a] sw1 m1 (fun z2 sw2 m2 => QQ z1 z2 sw2 m2)) := by
      refine downN n ?_ (fun k hk ih => ?_)
      · refine wI_likeliestStuck_8 _ _ _ _ _ _ ?_
        rw [e3]
        exact ⟨fun _ => mdl, fun c => absurd (Int.le_refl _) c⟩
      · have bk := bl k
        have b2k := b2 k
        rw [hfp] at b2k
        rw [lk_s] at ih
        refine wI_likeliestStuck_8 _ _ _ _ _ _ ?_
        rw [e3, w32_id (z := (n : Int)) (by omega) (by omega), w32_id (z := (k : Int)) (by omega) (by omega)]
        refine ⟨fun c => by omega, fun _ => eI_oddsStuck h9 hR (p := k) (by omega) ?_⟩
        rw [hfp, w64_id (z := f k) (by omega) (by omega), w64_id (z := (lk f k).2) (by omega) (by omega)]
        refine ⟨fun c => ?_, fun c => ?_⟩
        · rw [if_neg (by omega)] at ih; exact ih
        · rw [if_pos (by omega)] at ih; exact ih
    exact wI_likeliestStuck _ _ _ (cls 0 (Nat.zero_le _))
  · rw [bz_w, bz_0]
    exact ⟨fun q => absurd (Decidable.not_not.mp q) (Decidable.not_not.mp c1), fun _ => h _ m hp.same⟩
theorem pr_test {a : Int} (ha : w32 a = a) (hp : Pre w sw n m) {QQ : Int → Int → Bool → Mem → Prop} (h : ∀ z m', Fin w m m' → QQ z z sw m') : M2 X 7 mZ_test [vr 1, vi a] sw m (fun z1 sw1 m1 => M2 X 7 mY_test [vr 84, vi a] sw1 m1 (fun z2 sw2 m2 => QQ z1 z2 sw2 m2)) := by
  have h9 := hp.n9
  have hn := hp.2.1
  have h2n := p9 (k := n) h9
  have hU := U1_b (VV_b w m) n
  refine wZ_test _ _ _ _ (eI_isTold ha ?_)
  rw [bz_w, bz_0]
  refine ⟨fun c1 => ?_, fun c1 => wY_test _ _ _ _ (eY_areSeen ha ?_)⟩
  · have c1 := Decidable.not_not.mp c1
    obtain ⟨r, q, r1, q1, er, eq_, hrq⟩ := told_n (n := n) c1 h9
    have b1 := sH_b (S := shp m) (sn := q % 2 ^ n) (tl := r % 2 ^ n) h9 hU
    have b2 := fun p => sG_b (S := shp m) (sn := q % 2 ^ n) (tl := r % 2 ^ n) (p := p) h9 hU
    generalize hA : sH (shp m) (U1 (VV w m)) n (q % 2 ^ n) (r % 2 ^ n) (2 ^ n) = A at b1 b2
    generalize hg : (fun p => sG (shp m) (U1 (VV w m)) n (q % 2 ^ n) (r % 2 ^ n) (2 ^ n) p) = g
    have hgp : ∀ p, sG (shp m) (U1 (VV w m)) n (q % 2 ^ n) (r % 2 ^ n) (2 ^ n) p = g p := fun p => by rw [← hg]
    have gb : ∀ p, 0 ≤ g p ∧ g p ≤ A := fun p => by rw [← hgp]; exact b2 p
    have fb : ∀ p, 0 ≤ (fun p => max (g p) (A - g p)) p ∧ (fun p => max (g p) (A - g p)) p < 9223372036854775807 := fun p => by
      have := gb p
      show 0 ≤ max (g p) (A - g p) ∧ max (g p) (A - g p) < 9223372036854775807
      omega
    have bb := bt_b (z := q) fb
    generalize hf : (fun p => max (g p) (A - g p)) = f at bb fb
    have hfp : ∀ p, max (g p) (A - g p) = f p := fun p => by rw [← hf]
    refine hp.heard r1 q1 er eq_ (fun m2 hm hR => ?_)
    have mdl : M2 X 7 mY_test [vr 84, vi a] sw m2 (fun z2 sw2 m2 => QQ (if 0 < A then (bt q f n).1 else -2) z2 sw2 m2) := by
      refine wY_test _ _ _ _ (eY_areSeen ha ?_)
      rw [bz_w, bz_0]
      refine ⟨fun _ => hp.find hm r1 q1 er eq_ hrq (fun m3 hfn e1 e35 e7 => ?_), fun q => absurd c1 (Decidable.not_not.mp q)⟩
      rw [hA] at e35
      have key : ∀ k : Nat, k ≤ n → ∀ l : Int, ((bt q f k).1 = -2 ∨ l = (bt q f k).2) → (0 < A ∨ k = 0) → R2 X 7 mY_test 22 [(0, vr 84), (1, vi a), (2, vi (bt q f k).1), (3, vl l), (5, vi (k : Int))] [] sw m3 (fun z2 sw2 m2 => QQ (if 0 < A then (bt q f n).1 else -2) z2 sw2 m2) := by
        refine downN n (fun l hl hk0 => ?_) (fun k hk ih l hl hk0 => ?_)
        · refine wY_test_22 _ _ _ _ _ _ _ ?_
          rw [e1]
          refine ⟨fun _ => ?_, fun c => absurd (Int.le_refl _) c⟩
          by_cases cA : 0 < A
          · rw [if_pos cA]; exact h _ m3 hfn
          · rcases hk0 with hk0 | hk0
            · exact absurd hk0 cA
            · rw [if_neg cA, hk0]; exact h _ m3 hfn
        · have bk := bb k
          have fk := fb k
          have gk := gb k
          have hfk := hfp k
          have ih1 := fun l' h1 h2 => ih l' h1 h2
          simp only [bt_s] at ih1
          refine wY_test_22 _ _ _ _ _ _ _ ?_
          rw [e1, w32_id (z := (n : Int)) (by omega) (by omega), w32_id (z := (k : Int)) (by omega) (by omega), e35, eq_, bit_z (by omega) (by omega), (e7 k hk).2, hgp, w64_id (z := A) (by omega) (by omega), w64_id (z := g k) (by omega) (by omega), w64_id (z := A - g k) (by omega) (by omega), w32_id (z := (bt q f k).1) (by omega) (by omega), ifw.1]
          refine ⟨fun c => by omega, fun _ => ⟨fun cA => ?_, fun cA => ⟨fun cb => ⟨by omega, by omega, fun cg => ⟨by omega, ?_⟩, fun cg => ⟨by omega, ?_⟩⟩, fun cb => ?_⟩⟩⟩
          · rw [if_neg (by omega)]
            rcases hk0 with hk0 | hk0
            · omega
            · rw [hk0]; exact h _ m3 hfn
          · rw [show A - g k = f k by omega]
            refine ⟨fun c2 => ?_, fun c2 => ?_⟩
            · have hc : q.testBit k = false ∧ f k < (bt q f k).2 := ⟨cb, by omega⟩
              rw [if_pos hc] at ih1
              exact ih1 (f k) (Or.inr rfl) (Or.inl (by omega))
            · have hl2 : l = (bt q f k).2 := by
                rcases hl with hl | hl
                · omega
                · exact hl
              rw [hl2, w64_id (z := (bt q f k).2) (by omega) (by omega)]
              refine ⟨fun c3 => ?_, fun c3 => ?_⟩
              · rw [if_pos ⟨cb, c3⟩] at ih1
                exact ih1 (f k) (Or.inr rfl) (Or.inl (by omega))
              · rw [if_neg (fun q => c3 q.2)] at ih1
                exact ih1 _ (Or.inr rfl) (Or.inl (by omega))
          · rw [show g k = f k by omega]
            refine ⟨fun c2 => ?_, fun c2 => ?_⟩
            · have hc : q.testBit k = false ∧ f k < (bt q f k).2 := ⟨cb, by omega⟩
              rw [if_pos hc] at ih1
              exact ih1 (f k) (Or.inr rfl) (Or.inl (by omega))
            · have hl2 : l = (bt q f k).2 := by
                rcases hl with hl | hl
                · omega
                · exact hl
              rw [hl2, w64_id (z := (bt q f k).2) (by omega) (by omega)]
              refine ⟨fun c3 => ?_, fun c3 => ?_⟩
              · rw [if_pos ⟨cb, c3⟩] at ih1
                exact ih1 (f k) (Or.inr rfl) (Or.inl (by omega))
              · rw [if_neg (fun q => c3 q.2)] at ih1
                exact ih1 _ (Or.inr rfl) (Or.inl (by omega))
          · rw [if_neg (fun q => cb q.1)] at ih1
            exact ih1 l hl (Or.inl (by omega))
      exact key 0 (Nat.zero_le _) 0 (Or.inl rfl) (Or.inr rfl)
    have e3 : m2 2 3 = (n : Int) := by rw [hm.1 2 3 (Or.inl rfl)]; exact hn
    have cls : ∀ k : Nat, k ≤ n → (0 < A ∨ k = 0) → R2 X 3 mI_bestTest 16 [(0, vr 44), (1, vl A), (3, vi (bt q f k).1), (4, vl (bt q f k).2), (6, vi (k : Int))] [] sw m2 (fun z1 sw1 m1 => M2 X 7 mY_test [vr 84, vi a] sw1 m1 (fun z2 sw2 m2 => QQ z1 z2 sw2 m2)) := by
      have stop : ∀ k : Nat, (k = 0 ∨ (k = n ∧ 0 < A)) → (0 < A ∨ k = 0) → (0 < A → k = n) → M2 X 7 mY_test [vr 84, vi a] sw m2 (fun z2 sw2 m2 => QQ (bt q f k).1 z2 sw2 m2) := by
        intro k h1 h2 h3
        by_cases cA : 0 < A
        · rw [if_pos cA] at mdl
          rw [h3 cA]; exact mdl
        · rw [if_neg cA] at mdl
          rcases h2 with h2 | h2
          · exact absurd h2 cA
          · rw [h2]; exact mdl
      refine downN n (fun hk0 => ?_) (fun k hk ih hk0 => ?_)
      · refine wI_bestTest_16 _ _ _ _ _ _ _ ?_
        rw [e3]
        refine ⟨fun _ => stop n ?_ hk0 (fun _ => rfl), fun c => absurd (Int.le_refl _) c⟩
        rcases hk0 with hk0 | hk0
        · exact Or.inr ⟨rfl, hk0⟩
        · exact Or.inl hk0
      · have bk := bb k
        have fk := fb k
        have gk := gb k
        have hfk := hfp k
        rw [bt_s] at ih
        refine wI_bestTest_16 _ _ _ _ _ _ _ ?_
        rw [e3, w32_id (z := (n : Int)) (by omega) (by omega), w32_id (z := (k : Int)) (by omega) (by omega), w64_id (z := A) (by omega) (by omega)]
        refine ⟨fun c => by omega, fun _ => ⟨fun cA => ?_, fun cA => eI_oddsGone h9 hR (p := k) (by omega) ?_⟩⟩
        · have hk00 : k = 0 := by
            rcases hk0 with hk0 | hk0
            · omega
            · exact hk0
          exact stop k (Or.inl hk00) hk0 (fun q => absurd q (by omega))
        · have hm2 := Nat.mod_lt q (show 0 < 2 ^ n by omega)
          rw [hR.2.2.1, bit_z (by omega) (by omega), mod_bits hk, ifw.2, hgp, w64_id (z := g k) (by omega) (by omega), w64_id (z := A - g k) (by omega) (by omega), hfk, w64_id (z := f k) (by omega) (by omega), w64_id (z := (bt q f k).2) (by omega) (by omega)]
          refine ⟨fun cb => ?_, fun cb => ⟨fun c3 => ?_, fun c3 => ?_⟩⟩
          · rw [if_neg (fun q0 => by rw [q0.1] at cb; exact absurd cb (by decide))] at ih
            exact ih (Or.inl (by omega))
          · rw [if_neg (fun q0 => by omega)] at ih
            exact ih (Or.inl (by omega))
          · rw [if_pos ⟨by simpa using cb, by omega⟩] at ih
            exact ih (Or.inl (by omega))
    refine wI_bestTest _ _ _ (eI_oddsHeard h9 hR ?_)
    rw [hA]
    exact cls 0 (Nat.zero_le _) (Or.inr rfl)
  · rw [bz_w, bz_0]
    exact ⟨fun q => absurd (Decidable.not_not.mp q) (Decidable.not_not.mp c1), fun _ => h _ m hp.same⟩
end IQ
