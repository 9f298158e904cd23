/-! paths: the model goes through one morning -/
/-- what a morning of the model leaves -/
def YM (S : Sh) (n s : Nat) (m : Mem) : Prop := (∀ q : Nat, q < n → m 104 (q : Int) = gm S s q) ∧ m 84 31 = (go S s n : Int) ∧ m 84 30 = (sk S s n : Int)
def FrM2 (m m' : Mem) : Prop := ∀ c j : Int, ¬ (c = 84 ∧ (j = 30 ∨ j = 31)) → ¬ c = 104 → m' c j = m c j
theorem FrM2.rf (m : Mem) : FrM2 m m := fun _ _ _ _ => rfl
theorem FrM2.tr {m1 m2 m3 : Mem} (h : FrM2 m1 m2) (g : FrM2 m2 m3) : FrM2 m1 m3 := fun c j a b => (g c j a b).trans (h c j a b)
theorem FrM2.up {m : Mem} {k i v : Int} (h : (k = 84 ∧ (i = 30 ∨ i = 31)) ∨ k = 104) : FrM2 m (upm m k i v) := fun c j a b => upm_ne (by omega)
/-- the model's parts are such -/
def YS (S : Sh) (n : Nat) (m : Mem) : Prop := m 84 1 = (n : Int) ∧ n ≤ 9 ∧ ∀ p : Nat, p < n → m 85 (p : Int) = ((S p).1 : Int) ∧ (S p).1 < 2 ^ p ∧ (m 86 (p : Int) = if (S p).2.1 = true then 1 else 0) ∧ m 88 (p : Int) = (S p).2.2 ∧ 1 ≤ (S p).2.2 ∧ (S p).2.2 ≤ 60
theorem YS.tk {S : Sh} {n : Nat} {m : Mem} (h : YS S n m) : Tk S n := fun p hp => (h.2.2 p hp).2.2.2.2
theorem YS.fr {S : Sh} {n : Nat} {m m' : Mem} (h : YS S n m) (f : ∀ c j : Int, (c = 84 ∧ j = 1) ∨ c = 85 ∨ c = 86 ∨ c = 88 → m' c j = m c j) : YS S n m' := by
  refine ⟨by rw [f 84 1 (by omega)]; exact h.1, h.2.1, fun p hp => ?_⟩
  rw [f 85 _ (by omega), f 86 _ (by omega), f 88 _ (by omega)]
  exact h.2.2 p hp
theorem IK.ys {n : Nat} {m : Mem} (hI : IK m) (hn : m 2 3 = (n : Int)) : YS (shp m) n m := by
  have h9 := hI.2.1
  refine ⟨by rw [hI.2.2.1]; exact hn, by omega, fun p hp => ?_⟩
  have hs := hI.sh hn hp
  have hp' := hI.pt (p := (p : Int)) (by omega) (by omega)
  rw [hp'.1.1, hp'.2.1.1, hp'.2.2.2.1.1]
  exact hs
section PY
variable {X : Cx} {sw : Bool} {m : Mem} {Q : Int → Bool → Mem → Prop}
theorem lY_waits {A p : Nat} {Y : Bool} {g : Nat → Int} (hp : p < 9) (hA : A < 2 ^ p) (h85 : m 85 (p : Int) = (A : Int)) (h86 : m 86 (p : Int) = if Y = true then 1 else 0) (hg : ∀ q : Nat, q < p → m 104 (q : Int) = g q ∧ -1 ≤ g q ∧ g q ≤ 540) : ∀ k : Nat, k ≤ p → ∀ t : Int, -1 ≤ t → t ≤ 540 → Q (wtl A Y g (p - k) k t) sw m → R2 X 1 mY_waitsTill 17 [(0, vr 84), (1, vi (p : Int)), (2, vi t), (3, vi (k : Int))] [] sw m Q := by
  have hpp := p9 (k := p) (by omega)
  refine downN p (fun t t0 t1 hq => ?_) (fun k hk ih t t0 t1 hq => ?_)
  · rw [Nat.sub_self] at hq
    exact wY_waitsTill_17 _ _ _ _ _ _ ⟨fun _ => hq, fun c => absurd (Int.le_refl _) c⟩
  · have hgk := hg k hk
    rw [show p - k = (p - (k + 1)) + 1 by omega] at hq
    unfold wtl at hq
    refine wY_waitsTill_17 _ _ _ _ _ _ ?_
    rw [w32_id (z := (p : Int)) (by omega) (by omega), w32_id (z := (k : Int)) (by omega) (by omega), h85, h86, bit_z (by omega) (by omega), hgk.1, w32_id (z := g k) (by omega) (by omega), w32_id (z := t) (by omega) (by omega)]
    refine ⟨fun c => by omega, fun _ => ⟨by omega, fun c => ?_, fun c => ?_⟩⟩
    · have cb : A.testBit k = true := by
        cases hcb : A.testBit k with
        | true => rfl
        | false => rw [hcb] at c; exact absurd (by decide) c
      rw [if_neg (by rw [cb]; decide)] at hq
      cases Y with
      | true =>
        refine ⟨by omega, fun _ => ⟨by omega, fun c2 => ?_, fun c2 => ?_⟩, fun c2 => absurd (by decide) c2⟩
        · rw [if_neg (by omega)] at hq
          refine ⟨fun c3 => ⟨by omega, ?_⟩, fun c3 => ⟨by omega, fun c4 => absurd (by decide) c4, fun _ => ⟨by omega, fun c4 => ?_, fun c4 => ⟨by omega, ?_⟩⟩⟩⟩
          · rw [if_pos (Or.inl c3)] at hq
            exact ih _ hgk.2.1 hgk.2.2 hq
          · rw [if_neg (by simp only [if_true]; omega)] at hq
            exact ih _ t0 t1 hq
          · rw [if_pos (by simp only [if_true]; omega)] at hq
            exact ih _ hgk.2.1 hgk.2.2 hq
        · rw [if_pos (by omega), if_pos rfl] at hq
          exact ih _ t0 t1 hq
      | false =>
        refine ⟨by omega, fun c2 => absurd (by decide) c2, fun _ => ⟨by omega, fun c2 => ⟨by omega, fun c3 => ?_, fun c3 => absurd c2 c3⟩, fun c2 => ?_⟩⟩
        · rw [if_neg (by omega)] at hq
          refine ⟨fun c3 => ⟨by omega, ?_⟩, fun c3 => ⟨by omega, fun _ => ⟨by omega, fun c4 => ?_, fun c4 => ⟨by omega, ?_⟩⟩, fun c4 => absurd (by decide) c4⟩⟩
          · rw [if_pos (Or.inl c3)] at hq
            exact ih _ hgk.2.1 hgk.2.2 hq
          · rw [if_neg (by simp only [Bool.false_eq_true, if_false]; omega)] at hq
            exact ih _ t0 t1 hq
          · rw [if_pos (by simp only [Bool.false_eq_true, if_false]; omega)] at hq
            exact ih _ hgk.2.1 hgk.2.2 hq
        · rw [if_pos (by omega), if_neg (by decide)] at hq
          exact hq
    · have cb : A.testBit k = false := by
        cases hcb : A.testBit k with
        | false => rfl
        | true => rw [hcb] at c; exact absurd (by decide) c
      rw [if_pos cb] at hq
      exact ih _ t0 t1 hq
theorem eY_waitsTill {S : Sh} {n s p : Nat} (hS : YS S n m) (hp : p < n) (hg : ∀ q : Nat, q < p → m 104 (q : Int) = gm S s q) (h : Q (ws S s p) sw m) : M2 X 1 mY_waitsTill [vr 84, vi (p : Int)] sw m Q := by
  have hn := hS.2.1
  have hT := hS.tk
  obtain ⟨s1, s2, s3, s4, s5⟩ := hS.2.2 p hp
  have hpp := p9 (k := p) (by omega)
  have hws : ws S s p = wtl (S p).1 (S p).2.1 (gm S s) p 0 (if (S p).1 = 0 then 0 else -1) := rfl
  rw [hws] at h
  have hg2 : ∀ q : Nat, q < p → m 104 (q : Int) = gm S s q ∧ -1 ≤ gm S s q ∧ gm S s q ≤ 540 := fun q hq => ⟨hg q hq, gm_b2 hT hn s (by omega)⟩
  refine wY_waitsTill _ _ _ _ ?_
  rw [w32_id (z := (p : Int)) (by omega) (by omega), s1, w32_id (z := ((S p).1 : Int)) (by omega) (by omega)]
  refine ⟨by omega, fun c => ?_, fun c => ?_⟩
  · rw [if_neg (by omega)] at h
    exact lY_waits (by omega) s2 s1 s3 hg2 0 (Nat.zero_le _) (-1) (by omega) (by omega) h
  · rw [if_pos (by omega)] at h
    exact lY_waits (by omega) s2 s1 s3 hg2 0 (Nat.zero_le _) 0 (by omega) (by omega) h
theorem eY_goMorning {S : Sh} {n s : Nat} (hS : YS S n m) (hs : s < 512) (h : ∀ m2, FrM2 m m2 → YM S n s m2 → Q 0 sw m2) : M2 X 2 mY_goMorning [vr 84, vi (s : Int)] sw m Q := by
  have hn := hS.2.1
  have hT := hS.tk
  have key : ∀ k : Nat, k ≤ n → ∀ m1, FrM2 m m1 → YM S k s m1 → R2 X 2 mY_goMorning 12 [(0, vr 84), (1, vi (s : Int)), (2, vi (k : Int))] [] sw m1 Q := by
    refine downN n (fun m1 hF hM => ?_) (fun k hk ih m1 hF hM => ?_)
    · refine wY_goMorning_12 _ _ _ _ _ ?_
      rw [hF 84 1 (by omega) (by omega), hS.1]
      exact ⟨fun _ => h m1 hF hM, fun c => absurd (Int.le_refl _) c⟩
    · have hS1 : YS S n m1 := hS.fr (fun c j q => hF c j (by omega) (by omega))
      obtain ⟨hm1, hm2, hm3⟩ := hM
      have hgl := go_lt S s k
      have hsl := sk_lt S s k
      have hpp := p9 (k := k) (by omega)
      obtain ⟨-, hgb⟩ := gm_b hT s k hk
      have hwb := (gm_b hT s k hk).1
      have hge := gm_eq S s k
      have ht := hS.2.2 k hk
      have e88 := (hS1.2.2 k hk).2.2.2.1
      have hg1 : go S s (k + 1) = go S s k ||| (if 0 ≤ gm S s k then 2 ^ k else 0) := rfl
      have hs1 : sk S s (k + 1) = sk S s k ||| (if s.testBit k = false ∧ 0 ≤ ws S s k then 2 ^ k else 0) := rfl
      have mk : ∀ M : Mem, (∀ q : Nat, q < k → M 104 (q : Int) = m1 104 (q : Int)) → M 104 (k : Int) = gm S s k → M 84 31 = (go S s (k + 1) : Int) → M 84 30 = (sk S s (k + 1) : Int) → YM S (k + 1) s M := by
        intro M g1 g2 g3 g4
        refine ⟨fun q hq => ?_, g3, g4⟩
        by_cases c : q = k
        · rw [c]; exact g2
        · rw [g1 q (by omega)]; exact hm1 q (by omega)
      have ezl : zshl 1 (k : Int) = ((2 ^ k : Nat) : Int) := zshl_one (by omega)
      refine wY_goMorning_12 _ _ _ _ _ ?_
      rw [hF 84 1 (by omega) (by omega), hS.1, w32_id (z := (n : Int)) (by omega) (by omega), w32_id (z := (k : Int)) (by omega) (by omega), bit_z (by omega) (by omega)]
      refine ⟨fun c => by omega, fun _ => eY_waitsTill hS1 hk hm1 ?_⟩
      generalize hW : ws S s k = W at hwb hge hs1
      rw [w32_id (z := W) (by omega) (by omega), ezl, hm2, hm3, e88]
      simp only [upm_at, if_true, true_and]
      rw [show w32 (-1) = -1 by decide]
      cases hcb : s.testBit k with
      | true =>
        rw [hcb] at hge hs1
        rw [if_neg (by simp), Nat.or_zero] at hs1
        refine ⟨fun c => absurd (by decide) c, fun _ => ⟨fun c => ⟨by omega, by omega, fun _ => ?_, fun c2 => by omega⟩, fun c => ⟨by omega, by omega, by omega, ?_⟩⟩⟩
        · rw [if_neg (by omega)] at hge
          rw [hge, if_neg (by omega), Nat.or_zero] at hg1
          refine ih _ (hF.tr (FrM2.up (by omega))) (mk _ (fun q hq => ?_) ?_ ?_ ?_)
          · rw [upm_at, if_neg (by omega)]
          · rw [upm_at, if_pos rfl, hge]
          · rw [upm_row (by omega), hg1]; exact hm2
          · rw [upm_row (by omega), hs1]; exact hm3
        · rw [if_pos ⟨rfl, by omega⟩] at hge
          rw [if_pos (by omega)] at hg1
          rw [w32_id (z := W + (S k).2.2) (by omega) (by omega)]
          refine ⟨fun c2 => by omega, fun _ => ?_⟩
          rw [zor_nat (by omega) (by omega), ← hg1]
          refine ih _ (hF.tr ((FrM2.up (by omega)).tr (FrM2.up (by omega)))) (mk _ (fun q hq => ?_) ?_ ?_ ?_)
          · rw [upm_row (by omega), upm_at, if_neg (by omega)]
          · rw [upm_row (by omega), upm_at, if_pos rfl, hge]
          · rw [upm_at, if_pos rfl]
          · rw [upm_at, if_neg (by omega), upm_row (by omega), hs1]; exact hm3
      | false =>
        rw [hcb] at hge hs1
        rw [if_neg (by simp)] at hge
        rw [hge, if_neg (by omega), Nat.or_zero] at hg1
        refine ⟨fun _ => ⟨by omega, by omega, fun _ => ⟨fun c => ?_, fun c => ?_⟩, fun c => by omega⟩, fun c => absurd (by decide) c⟩
        · rw [if_neg (by omega), Nat.or_zero] at hs1
          refine ih _ (hF.tr (FrM2.up (by omega))) (mk _ (fun q hq => ?_) ?_ ?_ ?_)
          · rw [upm_at, if_neg (by omega)]
          · rw [upm_at, if_pos rfl, hge]
          · rw [upm_row (by omega), hg1]; exact hm2
          · rw [upm_row (by omega), hs1]; exact hm3
        · rw [if_pos ⟨rfl, by omega⟩] at hs1
          rw [zor_nat (by omega) (by omega), ← hs1]
          refine ih _ (hF.tr ((FrM2.up (by omega)).tr (FrM2.up (by omega)))) (mk _ (fun q hq => ?_) ?_ ?_ ?_)
          · rw [upm_row (by omega), upm_at, if_neg (by omega)]
          · rw [upm_row (by omega), upm_at, if_pos rfl, hge]
          · rw [upm_at, if_neg (by omega), upm_row (by omega), hg1]; exact hm2
          · rw [upm_at, if_pos rfl]
  refine wY_goMorning _ _ _ _ ?_
  refine key 0 (Nat.zero_le _) _ ((FrM2.up (by omega)).tr (FrM2.up (by omega))) ⟨fun q hq => absurd hq (Nat.not_lt_zero _), ?_, ?_⟩
  · rw [upm_at, if_pos rfl]; rfl
  · rw [upm_at, if_neg (by omega), upm_at, if_pos rfl]; rfl
theorem eY_endNow {S : Sh} {n s : Nat} (h1 : m 84 1 = (n : Int)) (hn : n ≤ 9) (hM : YM S n s m) (h : Q (en S n s) sw m) : M2 X 1 mY_endNow [vr 84] sw m Q := by
  refine wY_endNow _ _ _ ?_
  rw [h1, w32_id (z := (n : Int)) (by omega) (by omega), w32_id (z := (n : Int) - 1) (by omega) (by omega)]
  unfold en at h
  refine ⟨fun c => ⟨by omega, ?_⟩, fun c => ?_⟩
  · rw [if_neg (by omega)] at h
    rw [show (n : Int) - 1 = ((n - 1 : Nat) : Int) by omega, hM.1 (n - 1) (by omega)]
    exact h
  · rw [if_pos (by omega)] at h
    exact h
theorem eZ_isSet {a : Int} (ha : w32 a = a) (h : Q (bz (0 ≤ a ∧ a < 512)) sw m) : M2 X 1 mZ_isSet [vi a] sw m Q := by
  refine wZ_isSet _ _ _ _ ?_
  rw [ha]
  unfold bz at h
  refine ⟨fun c => ?_, fun c => ⟨fun c2 => ?_, fun c2 => ?_⟩⟩
  · rwa [if_neg (by omega)] at h
  · rwa [if_neg (by omega)] at h
  · rwa [if_pos (by omega)] at h
theorem eY_isSet {a : Int} (ha : w32 a = a) (h : Q (bz (0 ≤ a ∧ a < 512)) sw m) : M2 X 2 mY_isSet [vi a] sw m Q := by
  refine wY_isSet _ _ _ _ (eY_in ha (by decide) (by decide) ⟨bz_01 _, ?_⟩)
  rw [show bz (0 ≤ a ∧ a ≤ 511) = bz (0 ≤ a ∧ a < 512) from bz_c (by omega)]
  exact h
/-- only the paths' cells and a morning's have changed -/
def FrPM (m m' : Mem) : Prop := ∀ c j : Int, ¬ (c = 23 ∧ (j = 5 ∨ j = 6)) → ¬ (25 ≤ c ∧ c ≤ 36) → ¬ (c = 84 ∧ (j = 30 ∨ j = 31)) → ¬ c = 104 → m' c j = m c j
theorem FrPM.rf (m : Mem) : FrPM m m := fun _ _ _ _ _ _ => rfl
theorem FrPM.mk {m m1 m2 : Mem} (f : FrP m m1) (g : FrM2 m1 m2) : FrPM m m2 := fun c j a b d e => (g c j d e).trans (f c j a b)
theorem IP.pm {m' m2 : Mem} (hP : IP m) (f : FrP m m2) (e6 : m2 23 6 = m 2 5) (hPO : PO (shp m) (m 2 3).toNat m2) (g : FrM2 m2 m') (h9 : (m 2 3).toNat ≤ 9) : IP m' := by
  have e5 : m' 2 5 = m 2 5 := by rw [g 2 5 (by omega) (by omega), f 2 5 (by omega) (by omega)]
  have e3 : m' 2 3 = m 2 3 := by rw [g 2 3 (by omega) (by omega), f 2 3 (by omega) (by omega)]
  have e66 : m' 23 6 = m 2 5 := by rw [g 23 6 (by omega) (by omega), e6]
  have eS : shp m' = shp m := shp_eq (fun c j q => by rw [g c j (by omega) (by omega), f c j (by omega) (by omega)])
  obtain ⟨p1, p2_, p3, p4⟩ := hP
  refine ⟨by omega, by omega, by omega, fun _ => ?_⟩
  rw [eS, e3]
  exact hPO.fr (fun c j q => g c j (by omega) (by omega)) h9
theorem pr_gone {a b : Int} (ha : w32 a = a) (hb : w32 b = b) (hI : IK m) (hP : IP m) {QQ : Int → Int → Bool → Mem → Prop} (h : ∀ z m', IP m' → (PO (shp m) (m 2 3).toNat m → PO (shp m) (m 2 3).toNat m') → FrPM m m' → QQ z z sw m') : M2 X 6 mZ_gone [vr 1, vi a, vi b] sw m (fun z1 sw1 m1 => M2 X 3 mY_gone [vr 84, vi a, vi b] sw1 m1 (fun z2 sw2 m2 => QQ z1 z2 sw2 m2)) := by
  have h9 := hI.2.1
  have h90 := hI.1
  obtain ⟨n, hn⟩ : ∃ n : Nat, m 2 3 = (n : Int) := ⟨(m 2 3).toNat, by omega⟩
  refine wZ_gone _ _ _ _ _ (eZ_isSet ha ?_)
  rw [bz_w, bz_0]
  refine ⟨fun c => wY_gone _ _ _ _ _ (eY_isSet ha ?_), fun c => eK_has hb hI ?_⟩
  · rw [bz_w, bz_0]
    exact ⟨fun _ => h _ m hP (fun q => q) (FrPM.rf m), fun c2 => absurd c c2⟩
  · have c := Decidable.not_not.mp c
    rw [bz_w, bz_0]
    refine ⟨fun c2 => ?_, fun c2 => wY_gone _ _ _ _ _ (eY_isSet ha ?_)⟩
    · have c2 := Decidable.not_not.mp c2
      obtain ⟨s, rfl⟩ : ∃ s : Nat, a = (s : Int) := ⟨a.toNat, by omega⟩
      obtain ⟨p, rfl⟩ : ∃ p : Nat, b = (p : Int) := ⟨b.toNat, by omega⟩
      refine eP_follow hI hn hP (fun m2 f e6 hPO => ?_)
      have hI2 := f.ik hI
      have hn2 : m2 2 3 = (n : Int) := by rw [f 2 3 (by omega) (by omega)]; exact hn
      have hpp := p9 (k := p + 1) (by omega)
      have hml := Nat.mod_lt s (show 0 < 2 ^ (p + 1) by omega)
      have hgb := gm_b2 (hI.tk hn) (by omega) s (p := p) (by omega)
      have hY : ∀ z, z = (if gm (shp m) s p = -1 then -2 else gm (shp m) s p) → M2 X 3 mY_gone [vr 84, vi (s : Int), vi (p : Int)] sw m2 (fun z2 sw2 m3 => QQ z z2 sw2 m3) := by
        intro z hz
        refine wY_gone _ _ _ _ _ (eY_isSet ha ?_)
        rw [bz_w, bz_0]
        refine ⟨fun q => absurd c q, fun _ => eY_isPart hb (n := (n : Int)) (by omega) (by rw [hI2.2.2.1]; exact hn2) ?_⟩
        rw [bz_w, bz_0]
        refine ⟨fun _ => ?_, fun q => by omega⟩
        have hYS : YS (shp m) n m2 := (hI.ys hn).fr (fun c j q => f c j (by omega) (by omega))
        refine eY_goMorning hYS (by omega) (fun m3 g hM => ?_)
        have hE : IP m3 := hP.pm f e6 (by rw [hn]; exact hPO) g (by omega)
        have hO3 : PO (shp m) (m 2 3).toNat m → PO (shp m) (m 2 3).toNat m3 := fun _ => by rw [hn]; exact hPO.fr (fun c j q => g c j (by omega) (by omega)) (by omega)
        rw [w32_id (z := (p : Int)) (by omega) (by omega), hM.1 p (by omega), w32_id (z := gm (shp m) s p) (by omega) (by omega)]
        refine ⟨by omega, fun q => ⟨by omega, ?_⟩, fun q => ?_⟩
        · rw [if_neg (by omega)] at hz; rw [hz]; exact h _ m3 hE hO3 (FrPM.mk f g)
        · rw [if_pos (by omega)] at hz; rw [hz]; exact h _ m3 hE hO3 (FrPM.mk f g)
      refine eP_minuteOf (v := gm (shp m) s p) hI2 hn2 (by omega) (by omega) ?_ ?_
      · rw [hPO.2.1.1 p (by omega) _ hml, gm_mod]
      · rw [w32_id (z := gm (shp m) s p) (by omega) (by omega)]
        exact ⟨fun q => hY _ (by rw [if_neg q]), fun q => hY _ (by rw [if_pos (Decidable.not_not.mp q)])⟩
    · rw [bz_w, bz_0]
      refine ⟨fun q => absurd c q, fun _ => eY_isPart hb (n := (n : Int)) (by omega) (by rw [hI.2.2.1]; exact hn) ?_⟩
      rw [bz_w, bz_0]
      exact ⟨fun q => by omega, fun _ => h _ m hP (fun q => q) (FrPM.rf m)⟩
theorem pr_stuck {a : Int} (ha : w32 a = a) (hI : IK m) (hP : IP m) {QQ : Int → Int → Bool → Mem → Prop} (h : ∀ z m', IP m' → (PO (shp m) (m 2 3).toNat m → PO (shp m) (m 2 3).toNat m') → FrPM m m' → QQ z z sw m') : M2 X 6 mZ_stuck [vr 1, vi a] sw m (fun z1 sw1 m1 => M2 X 3 mY_stuck [vr 84, vi a] sw1 m1 (fun z2 sw2 m2 => QQ z1 z2 sw2 m2)) := by
  have h9 := hI.2.1
  have h90 := hI.1
  obtain ⟨n, hn⟩ : ∃ n : Nat, m 2 3 = (n : Int) := ⟨(m 2 3).toNat, by omega⟩
  refine wZ_stuck _ _ _ _ (eZ_isSet ha ?_)
  rw [bz_w, bz_0]
  refine ⟨fun c => ?_, fun c => wY_stuck _ _ _ _ (eY_isSet ha ?_)⟩
  · have c := Decidable.not_not.mp c
    obtain ⟨s, rfl⟩ : ∃ s : Nat, a = (s : Int) := ⟨a.toNat, by omega⟩
    refine eP_follow hI hn hP (fun m2 f e6 hPO => wP_stuckOf _ _ _ _ ?_)
    have hpp := p9 (k := n) (by omega)
    have hml := Nat.mod_lt s (show 0 < 2 ^ n by omega)
    rw [hPO.1, mask_z (by omega) (by omega), w32_id (z := ((s % 2 ^ n : Nat) : Int)) (by omega) (by omega), (hPO.2.1.2 _ hml).2, sk_mod]
    refine ⟨by omega, wY_stuck _ _ _ _ (eY_isSet ha ?_)⟩
    rw [bz_w, bz_0]
    refine ⟨fun _ => ?_, fun q => absurd c (Decidable.not_not.mp q)⟩
    have hYS : YS (shp m) n m2 := (hI.ys hn).fr (fun c j q => f c j (by omega) (by omega))
    refine eY_goMorning hYS (by omega) (fun m3 g hM => ?_)
    rw [hM.2.2]
    exact h _ m3 (hP.pm f e6 (by rw [hn]; exact hPO) g (by omega)) (fun _ => by rw [hn]; exact hPO.fr (fun c j q => g c j (by omega) (by omega)) (by omega)) (FrPM.mk f g)
  · rw [bz_w, bz_0]
    exact ⟨fun q => absurd (Decidable.not_not.mp q) (Decidable.not_not.mp c), fun _ => h _ m hP (fun q => q) (FrPM.rf m)⟩
end PY
