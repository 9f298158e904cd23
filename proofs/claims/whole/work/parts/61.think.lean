/-! odds: the class weighs them -/
def UL (V : Nat → Int) (l : Int) : Us := fun p => if (p : Int) = l then (1, 1) else (V p, 12 - V p)
theorem UL_m (V : Nat → Int) : UL V (-1) = U1 V := by
  funext p
  exact if_neg (by omega)
section TW
variable {X : Cx} {sw : Bool} {m : Mem} {Q : Int → Bool → Mem → Prop}
theorem lT_weigh66 {k0 k1 : Int} {N0 N1 : Nat} (hk0 : isA NT k0 .long N0) (hk1 : isA NT k1 .int N1) {n p : Nat} {l : Int} {U : Us} (hn : p < 9) (hN0 : 2 ^ (p + 1) ≤ N0) (hN0' : N0 ≤ 1000) (h : ∀ m2, (∀ c, ¬ c = k0 → m2 c = m c) → (∀ s : Nat, s < 2 ^ (p + 1) → m2 k0 (s : Int) = od U (p + 1) s) → R2 X 1 mT_weigh 7 [(0, vr k0), (1, vr k1), (2, vi (n : Int)), (3, vi l), (4, vi ((p : Int) + 1))] [] sw m2 Q) : ∀ k : Nat, k ≤ 2 ^ p → ∀ m1, (∀ c, ¬ c = k0 → m1 c = m c) → (∀ s : Nat, s < k → m1 k0 (s : Int) = od U (p + 1) s ∧ m1 k0 ((s + 2 ^ p : Nat) : Int) = od U (p + 1) (s + 2 ^ p)) → (∀ s : Nat, k ≤ s → s < 2 ^ p → m1 k0 (s : Int) = od U p s) → R2 X 1 mT_weigh 66 [(0, vr k0), (1, vr k1), (2, vi (n : Int)), (3, vi l), (4, vi (p : Int)), (5, vl (U p).1), (7, vl (U p).2), (9, vi ((2 ^ p : Nat) : Int)), (10, vi (k : Int))] [] sw m1 Q := by
  have hpp := p9 (k := p) (by omega)
  have e2p := p2s p
  refine downN (2 ^ p) (fun m1 hF h1 h2 => ?_) (fun k hk ih m1 hF h1 h2 => ?_)
  · refine wT_weigh_66 hk0 hk1 _ _ _ _ _ _ _ _ _ _ ⟨fun _ => h m1 hF (fun s hs => ?_), fun c => absurd (Int.le_refl _) c⟩
    by_cases c : s < 2 ^ p
    · exact (h1 s c).1
    · have := (h1 (s - 2 ^ p) (by omega)).2
      rw [show s - 2 ^ p + 2 ^ p = s by omega] at this
      exact this
  · refine wT_weigh_66 hk0 hk1 _ _ _ _ _ _ _ _ _ _ ?_
    rw [w32_id (z := ((2 ^ p : Nat) : Int)) (by omega) (by omega), w32_id (z := (k : Int)) (by omega) (by omega), show (k : Int) + ((2 ^ p : Nat) : Int) = ((k + 2 ^ p : Nat) : Int) by omega, w32_id (z := ((k + 2 ^ p : Nat) : Int)) (by omega) (by omega), upm_at, if_neg (by omega), h2 k (Nat.le_refl k) hk]
    refine ⟨fun c => by omega, fun _ => ⟨by omega, by omega, by omega, by omega, ih _ (fun c q => by rw [upm_row q, upm_row q]; exact hF c q) (fun s hs => ?_) (fun s hs1 hs2 => ?_)⟩⟩
    · by_cases c : s = k
      · subst c
        refine ⟨?_, ?_⟩
        · rw [upm_at, if_pos rfl, od_without hk]
        · rw [upm_at, if_neg (by omega), upm_at, if_pos rfl, od_with hk]
      · rw [upm_at, if_neg (by omega), upm_at, if_neg (by omega), upm_at, if_neg (by omega), upm_at, if_neg (by omega)]
        exact h1 s (by omega)
    · rw [upm_at, if_neg (by omega), upm_at, if_neg (by omega)]
      exact h2 s (by omega) hs2
theorem eT_weigh {k0 k1 : Int} {N0 N1 : Nat} (hk0 : isA NT k0 .long N0) (hk1 : isA NT k1 .int N1) {n : Nat} {l : Int} {V : Nat → Int} (hne : ¬ k1 = k0) (hn : n ≤ 9) (hN0 : 2 ^ n ≤ N0) (hN0' : N0 ≤ 1000) (hN1 : n ≤ N1) (hl : -1 ≤ l ∧ l < 9) (hV : ∀ p : Nat, p < n → w32 (m k1 (p : Int)) = V p ∧ 0 ≤ V p ∧ V p ≤ 12) (h : ∀ m2, (∀ c, ¬ c = k0 → m2 c = m c) → (∀ s : Nat, s < 2 ^ n → m2 k0 (s : Int) = od (UL V l) n s) → Q 0 sw m2) : M2 X 1 mT_weigh [vr k0, vr k1, vi (n : Int), vi l] sw m Q := by
  have h2n := p9 (k := n) hn
  have key : ∀ k : Nat, k ≤ n → ∀ m1, (∀ c, ¬ c = k0 → m1 c = m c) → (∀ s : Nat, s < 2 ^ k → m1 k0 (s : Int) = od (UL V l) k s) → R2 X 1 mT_weigh 7 [(0, vr k0), (1, vr k1), (2, vi (n : Int)), (3, vi l), (4, vi (k : Int))] [] sw m1 Q := by
    refine downN n (fun m1 hF h1 => ?_) (fun k hk ih m1 hF h1 => ?_)
    · exact wT_weigh_7 hk0 hk1 _ _ _ _ _ _ ⟨fun _ => h m1 hF h1, fun c => absurd (Int.le_refl _) c⟩
    · have hpk : 2 ^ (k + 1) ≤ 2 ^ n := Nat.pow_le_pow_right (by decide) (by omega)
      have hv := hV k hk
      have e12 : w32 (12 - m k1 (k : Int)) = 12 - V k := by
        rw [← w32_sub, hv.1, show w32 12 = 12 by decide]
        exact w32_id (by omega) (by omega)
      have hv1 := hv.1
      have go : ∀ a b : Int, UL V l k = (a, b) → R2 X 1 mT_weigh 66 [(0, vr k0), (1, vr k1), (2, vi (n : Int)), (3, vi l), (4, vi (k : Int)), (5, vl a), (7, vl b), (9, vi ((2 ^ k : Nat) : Int)), (10, vi 0)] [] sw m1 Q := by
        intro a b hab
        have := lT_weigh66 (X := X) (sw := sw) (m := m1) (Q := Q) hk0 hk1 (n := n) (l := l) (U := UL V l) (p := k) (by omega) (by omega) hN0' (fun m2 f2 g2 => ih m2 (fun c q => (f2 c q).trans (hF c q)) g2) 0 (Nat.zero_le _) m1 (fun _ _ => rfl) (fun s hs => absurd hs (Nat.not_lt_zero _)) (fun s _ hs => h1 s hs)
        rw [hab] at this
        exact this
      refine wT_weigh_7 hk0 hk1 _ _ _ _ _ _ ?_
      rw [hF k1 hne, w32_id (z := (n : Int)) (by omega) (by omega), w32_id (z := (k : Int)) (by omega) (by omega), w32_id (z := l) (by omega) (by omega), hv1, e12, zshl_one (by omega)]
      clear e12 hv1 hv
      refine ⟨fun c => by omega, fun _ => ⟨fun c => by omega, fun _ => ⟨fun c => ⟨by omega, fun _ => ⟨by omega, go _ _ (if_neg c)⟩, fun c2 => absurd c c2⟩, fun c => ⟨fun c2 => absurd c2 c, fun _ => go _ _ (if_pos (Decidable.not_not.mp c))⟩⟩⟩⟩
  refine wT_weigh hk0 hk1 _ _ _ _ _ ⟨by omega, ?_⟩
  refine key 0 (Nat.zero_le _) _ (fun c q => upm_row q) (fun s hs => ?_)
  have : s = 0 := by omega
  subst this
  rw [show ((0 : Nat) : Int) = 0 from rfl, upm_at, if_pos rfl]; rfl
/-- what the class has thought -/
def TO (S : Sh) (V : Nat → Int) (n : Nat) (m : Mem) : Prop := (∀ p : Nat, p < n → m 38 (p : Int) = V p) ∧ (∀ s : Nat, s < 2 ^ n → m 39 (s : Int) = od (U1 V) n s) ∧ m 37 7 = 12 ^ n ∧ (∀ k : Nat, k ≤ 540 → m 40 (k : Int) = om S (U1 V) n (k : Int)) ∧ m 37 6 = (ct S (U1 V) n 541 : Int) ∧ ∀ k : Nat, k ≤ 540 → 0 < om S (U1 V) n (k : Int) → m 41 (ct S (U1 V) n k : Int) = (k : Int)
theorem TO.fr {S : Sh} {V : Nat → Int} {n : Nat} {m m' : Mem} (h : TO S V n m) (f : ∀ c j : Int, (c = 37 ∧ (j = 6 ∨ j = 7)) ∨ (38 ≤ c ∧ c ≤ 41) → m' c j = m c j) : TO S V n m' := by
  obtain ⟨h1, h2, h3, h4, h5, h6⟩ := h
  refine ⟨fun p hp => ?_, fun s hs => ?_, ?_, fun k hk => ?_, ?_, fun k hk ho => ?_⟩
  · rw [f 38 _ (by omega)]; exact h1 p hp
  · rw [f 39 _ (by omega)]; exact h2 s hs
  · rw [f 37 7 (by omega)]; exact h3
  · rw [f 40 _ (by omega)]; exact h4 k hk
  · rw [f 37 6 (by omega)]; exact h5
  · rw [f 41 _ (by omega)]; exact h6 k hk ho
theorem lT_list {S : Sh} {V : Nat → Int} {n : Nat} (hn : n ≤ 9) (hV : Vb V) (h40 : ∀ k : Nat, k ≤ 540 → m 40 (k : Int) = om S (U1 V) n (k : Int)) (h : ∀ m2, (∀ c j : Int, ¬ (c = 37 ∧ j = 6) → ¬ c = 41 → m2 c j = m c j) → m2 37 6 = (ct S (U1 V) n 541 : Int) → (∀ k : Nat, k ≤ 540 → 0 < om S (U1 V) n (k : Int) → m2 41 (ct S (U1 V) n k : Int) = (k : Int)) → Q 0 sw m2) : M2 X 1 mT_listEndings [vr 37] sw m Q := by
  have key : ∀ k : Nat, k ≤ 541 → ∀ m1, (∀ c j : Int, ¬ (c = 37 ∧ j = 6) → ¬ c = 41 → m1 c j = m c j) → m1 37 6 = (ct S (U1 V) n k : Int) → (∀ j : Nat, j < k → 0 < om S (U1 V) n (j : Int) → m1 41 (ct S (U1 V) n j : Int) = (j : Int)) → R2 X 1 mT_listEndings 7 [(0, vr 37), (1, vi (k : Int))] [] sw m1 Q := by
    refine downN 541 (fun m1 hF h1 h2 => ?_) (fun k hk ih m1 hF h1 h2 => ?_)
    · refine wT_listEndings_7 _ _ _ _ ⟨fun _ => h m1 hF h1 (fun k hk => h2 k (by omega)), fun c => absurd (by decide) c⟩
    · have hc := ct_512 (S := S) hn (U1_b hV n) k
      have hc1 := ct_512 (S := S) hn (U1_b hV n) (k + 1)
      have hcs := ct_s (S := S) (U := U1 V) (n := n) (k := k)
      have hb := om_le (S := S) hn (U1_b hV n) (k : Int)
      refine wT_listEndings_7 _ _ _ _ ?_
      rw [h1, hF 40 _ (by omega) (by omega), w32_id (z := (k : Int)) (by omega) (by omega), h40 k (by omega), w32_id (z := (ct S (U1 V) n k : Int)) (by omega) (by omega), w64_id (z := om S (U1 V) n (k : Int)) (by omega) (by omega)]
      by_cases c : 0 < om S (U1 V) n (k : Int)
      · rw [if_pos c] at hcs
        refine ⟨fun q => by omega, fun _ => ⟨fun q => by omega, fun _ => ⟨by omega, fun q => by omega, fun _ => ⟨by omega, ih _ (fun c' j q1 q2 => ?_) ?_ (fun j hj ho => ?_)⟩⟩⟩⟩
        · rw [upm_ne q1, upm_row q2]; exact hF c' j q1 q2
        · rw [upm_at, if_pos rfl, hcs]; omega
        · rw [upm_row (by omega), upm_at]
          by_cases cj : j = k
          · subst cj; rw [if_pos rfl]
          · have hm := ct_mono (S := S) (U := U1 V) (n := n) (j + 1) (k - (j + 1))
            rw [show j + 1 + (k - (j + 1)) = k by omega] at hm
            have hj1 := ct_s (S := S) (U := U1 V) (n := n) (k := j)
            rw [if_pos ho] at hj1
            rw [if_neg (by omega)]
            exact h2 j (by omega) ho
      · rw [if_neg c] at hcs
        have nx' : R2 X 1 mT_listEndings 7 [(0, vr 37), (1, vi ((k : Int) + 1))] [] sw m1 Q := by
          refine ih m1 hF ?_ (fun j hj ho => ?_)
          · rw [h1, hcs]; omega
          · by_cases cj : j = k
            · subst cj; exact absurd ho c
            · exact h2 j (by omega) ho
        by_cases c5 : ct S (U1 V) n k = 512
        · refine ⟨fun q => by omega, fun _ => ⟨fun _ => ?_, fun q => by omega⟩⟩
          refine h m1 hF ?_ (fun j hj ho => ?_)
          · have hm := ct_mono (S := S) (U := U1 V) (n := n) k (541 - k)
            rw [show k + (541 - k) = 541 by omega] at hm
            have h5 := ct_512 (S := S) hn (U1_b hV n) 541
            rw [h1]; omega
          · by_cases cj : j < k
            · exact h2 j cj ho
            · exfalso
              have hm := ct_mono (S := S) (U := U1 V) (n := n) k (j - k)
              rw [show k + (j - k) = j by omega] at hm
              have hj1 := ct_s (S := S) (U := U1 V) (n := n) (k := j)
              rw [if_pos ho] at hj1
              have h5 := ct_512 (S := S) hn (U1_b hV n) (j + 1)
              omega
        · exact ⟨fun q => by omega, fun _ => ⟨fun q => by omega, fun _ => ⟨by omega, fun _ => nx', fun q => absurd (by omega) q⟩⟩⟩
  refine wT_listEndings _ _ _ ?_
  refine key 0 (Nat.zero_le _) _ (fun c j q1 q2 => by rw [upm_ne q1]) ?_ (fun j hj => absurd hj (Nat.not_lt_zero _))
  rw [upm_at, if_pos rfl]; rfl
def FrT5 (m m' : Mem) : Prop := ∀ c j : Int, ¬ c = 17 → ¬ c = 20 → ¬ (c = 37 ∧ (j = 6 ∨ j = 7)) → ¬ (38 ≤ c ∧ c ≤ 41) → m' c j = m c j
theorem FrT5.rf (m : Mem) : FrT5 m m := fun _ _ _ _ _ _ => rfl
theorem FrT5.tr {m1 m2 m3 : Mem} (h : FrT5 m1 m2) (g : FrT5 m2 m3) : FrT5 m1 m3 := fun c j a b d e => (g c j a b d e).trans (h c j a b d e)
theorem FrT5.up {m : Mem} {k i v : Int} (h : (k = 37 ∧ (i = 6 ∨ i = 7)) ∨ (38 ≤ k ∧ k ≤ 41)) : FrT5 m (upm m k i v) := fun c j a b d e => upm_ne (by omega)
def FrT6 (m m' : Mem) : Prop := ∀ c j : Int, ¬ c = 17 → ¬ c = 20 → ¬ (c = 23 ∧ (j = 5 ∨ j = 6)) → ¬ (25 ≤ c ∧ c ≤ 36) → ¬ (c = 37 ∧ 6 ≤ j ∧ j ≤ 8) → ¬ (38 ≤ c ∧ c ≤ 41) → m' c j = m c j
theorem FrT6.rf (m : Mem) : FrT6 m m := fun _ _ _ _ _ _ _ _ => rfl
def VV (w : Option (List Ln)) (m : Mem) : Nat → Int := fun p => tw w (m 6 (p : Int)) (m 10 0) (m 9 (p : Int)) (m 8 (p : Int)) (m 11 0) (p : Int)
theorem VV_b (w : Option (List Ln)) (m : Mem) : Vb (VV w m) := fun p => tw_b _ _ _ _ _ _ _
theorem VV_fr {w : Option (List Ln)} {m m' : Mem} (f : ∀ c j : Int, (4 ≤ c ∧ c ≤ 16) → m' c j = m c j) : VV w m' = VV w m := by
  funext p
  show tw w (m' 6 (p : Int)) (m' 10 0) (m' 9 (p : Int)) (m' 8 (p : Int)) (m' 11 0) (p : Int) = tw w (m 6 (p : Int)) (m 10 0) (m 9 (p : Int)) (m 8 (p : Int)) (m 11 0) (p : Int)
  rw [f 6 _ (by omega), f 10 _ (by omega), f 9 _ (by omega), f 8 _ (by omega), f 11 _ (by omega)]
def IH (w : Option (List Ln)) (m : Mem) : Prop := -1 ≤ m 37 8 ∧ m 37 8 ≤ m 2 4 ∧ m 2 4 ≤ 1000000 ∧ (m 37 8 = m 2 4 → TO (shp m) (VV w m) (m 2 3).toNat m ∧ PO (shp m) (m 2 3).toNat m)
theorem lT_121 {S : Sh} {V : Nat → Int} {n : Nat} (hn : n ≤ 9) (hV : Vb V) (hT : Tk S n) (hPO : PO S n m) (h39 : ∀ s : Nat, s < 2 ^ n → m 39 (s : Int) = od (U1 V) n s) (h : ∀ m2, (∀ c : Int, ¬ c = 40 → m2 c = m c) → (∀ k : Nat, k ≤ 540 → m2 40 (k : Int) = om S (U1 V) n (k : Int)) → M2 X 1 mT_listEndings [vr 37] sw m2 (fun z1 sw1 m1 => Q 0 sw1 m1)) (h0 : ∀ k : Nat, k ≤ 540 → m 40 (k : Int) = 0) : R2 X 6 mT_think 121 [(0, vr 37), (1, vi 0)] [] sw m Q := by
  have h2n := p9 (k := n) hn
  have key : ∀ k : Nat, k ≤ 2 ^ n → ∀ m1, (∀ c : Int, ¬ c = 40 → m1 c = m c) → (∀ j : Nat, j ≤ 540 → m1 40 (j : Int) = sm k (fun s => if en S n s = (j : Int) then od (U1 V) n s else 0)) → R2 X 6 mT_think 121 [(0, vr 37), (1, vi (k : Int))] [] sw m1 Q := by
    refine downN (2 ^ n) (fun m1 hF h1 => ?_) (fun k hk ih m1 hF h1 => ?_)
    · refine wT_think_121 _ _ _ _ ?_
      rw [hF 23 (by omega), hPO.1]
      exact ⟨fun _ => h m1 hF h1, fun c => absurd (Int.le_refl _) c⟩
    · have hb := en_b hT hn k
      have h36 := hPO.2.2 k hk
      refine wT_think_121 _ _ _ _ ?_
      rw [hF 23 (by omega), hPO.1, hF 36 (by omega), hF 39 (by omega), w32_id (z := ((2 ^ n : Nat) : Int)) (by omega) (by omega), w32_id (z := (k : Int)) (by omega) (by omega), h36, h39 k hk, w32_id (z := en S n k) (by omega) (by omega)]
      refine ⟨fun c => by omega, fun _ => ⟨by omega, fun c => ?_, fun c => ⟨fun c2 => by omega, fun _ => ⟨by omega, by omega, by omega, ?_⟩⟩⟩⟩
      · refine ih m1 hF (fun j hj => ?_)
        rw [h1 j hj]
        show _ = sm k _ + (if en S n k = (j : Int) then od (U1 V) n k else 0)
        rw [if_neg (by omega)]; omega
      · refine ih _ (fun c' q => by rw [upm_row q]; exact hF c' q) (fun j hj => ?_)
        show _ = sm k (fun s => if en S n s = (j : Int) then od (U1 V) n s else 0) + (if en S n k = (j : Int) then od (U1 V) n k else 0)
        rw [upm_at]
        by_cases cj : (j : Int) = en S n k
        · rw [if_pos cj, if_pos cj.symm, ← cj, h1 j hj]
        · rw [if_neg cj, if_neg (fun q => cj q.symm), h1 j hj]; omega
  exact key 0 (Nat.zero_le _) m (fun _ _ => rfl) (fun j hj => by rw [h0 j hj]; rfl)
theorem eT_think {w : Option (List Ln)} {n : Nat} (hI : IK m) (hn : m 2 3 = (n : Int)) (hP : IP m) (hW : IW w sw m) (hH : IH w m) (h : ∀ m2, FrT6 m m2 → TO (shp m) (VV w m) n m2 → PO (shp m) n m2 → IP m2 → IH w m2 → Q 0 sw m2) : M2 X 6 mT_think [vr 37] sw m Q := by
  have h9 := hI.2.1
  have h2n := p9 (k := n) (by omega)
  have hT := hI.tk hn
  have hVb := VV_b w m
  have hH' := hH
  obtain ⟨b1, b2, b3, b4⟩ := hH'
  refine wT_think _ _ _ ?_
  rw [w32_id (z := m 37 8) (by omega) (by omega), w32_id (z := m 2 4) (by omega) (by omega)]
  refine ⟨fun c => ?_, fun c => ?_⟩
  · generalize hm0 : upm m 37 8 (m 2 4) = m0
    have f0 : ∀ c j : Int, ¬ (c = 37 ∧ j = 8) → m0 c j = m c j := fun c j q => by rw [← hm0, upm_ne q]
    have hS0 : shp m0 = shp m := shp_eq (fun c j q => f0 c j (by omega))
    have hI0 : IK m0 := hI.fr (fun c j q => f0 c j (by unfold DK at q; omega))
    have hn0 : m0 2 3 = (n : Int) := by rw [f0 2 3 (by omega)]; exact hn
    have hP0 : IP m0 := by
      obtain ⟨p1, p2_, p3, p4⟩ := hP
      unfold IP
      rw [hS0, f0 23 6 (by omega), f0 2 5 (by omega), f0 2 3 (by omega)]
      exact ⟨p1, p2_, p3, fun q => (p4 q).fr (fun c j q => f0 c j (by omega)) (by omega)⟩
    refine eP_follow hI0 hn0 hP0 (fun ma fa ea hPOa => ?_)
    rw [hS0] at hPOa
    generalize hmb : upm ma 37 7 1 = mb
    have fb : ∀ c j : Int, ¬ (c = 37 ∧ j = 7) → mb c j = ma c j := fun c j q => by rw [← hmb, upm_ne q]
    have gb : ∀ c j : Int, ¬ (c = 23 ∧ (j = 5 ∨ j = 6)) → ¬ (25 ≤ c ∧ c ≤ 36) → ¬ (c = 37 ∧ 7 ≤ j ∧ j ≤ 8) → mb c j = m c j := fun c j q1 q2 q3 => by rw [fb c j (by omega), fa c j q1 q2, f0 c j (by omega)]
    have e378 : mb 37 8 = m 2 4 := by rw [fb 37 8 (by omega), fa 37 8 (by omega) (by omega), ← hm0, upm_at, if_pos rfl]
    have e236 : mb 23 6 = m 2 5 := by rw [fb 23 6 (by omega), ea, f0 2 5 (by omega)]
    have hPOb : PO (shp m) n mb := hPOa.fr (fun c j q => fb c j (by omega)) (by omega)
    -- the end: all rows
    have fin : ∀ m2, FrT5 mb m2 → TO (shp m) (VV w m) n m2 → Q 0 sw m2 := by
      intro m2 f2 hTO
      have g2 : FrT6 m m2 := fun c j q1 q2 q3 q4 q5 q6 => by rw [f2 c j q1 q2 (by omega) q6, gb c j q3 q4 (by omega)]
      have hPO2 : PO (shp m) n m2 := hPOb.fr (fun c j q => f2 c j (by omega) (by omega) (by omega) (by omega)) (by omega)
      have hS2 : shp m2 = shp m := shp_eq (fun c j q => g2 c j (by omega) (by omega) (by omega) (by omega) (by omega) (by omega))
      have hV2 : VV w m2 = VV w m := VV_fr (fun c j q => g2 c j (by omega) (by omega) (by omega) (by omega) (by omega) (by omega))
      have k5 : m2 2 5 = m 2 5 := g2 2 5 (by omega) (by omega) (by omega) (by omega) (by omega) (by omega)
      have k4 : m2 2 4 = m 2 4 := g2 2 4 (by omega) (by omega) (by omega) (by omega) (by omega) (by omega)
      have k3 : (m2 2 3).toNat = n := by rw [g2 2 3 (by omega) (by omega) (by omega) (by omega) (by omega) (by omega), hn]; rfl
      have k6 : m2 23 6 = m 2 5 := by rw [f2 23 6 (by omega) (by omega) (by omega) (by omega)]; exact e236
      have k8 : m2 37 8 = m 2 4 := by rw [f2 37 8 (by omega) (by omega) (by omega) (by omega)]; exact e378
      obtain ⟨p1, p2_, p3, p4⟩ := hP
      refine h m2 g2 hTO hPO2 ⟨by omega, by omega, by omega, fun _ => by rw [hS2, k3]; exact hPO2⟩ ⟨by omega, by omega, by omega, fun _ => by rw [hS2, hV2, k3]; exact ⟨hTO, hPO2⟩⟩
    have key : ∀ k : Nat, k ≤ n → ∀ m1, FrT5 mb m1 → m1 37 7 = 12 ^ k → (∀ p : Nat, p < k → m1 38 (p : Int) = VV w m p) → R2 X 6 mT_think 40 [(0, vr 37), (1, vi (k : Int))] [] sw m1 Q := by
      refine downN n (fun m1 hF h1 h2 => ?_) (fun k hk ih m1 hF h1 h2 => ?_)
      · have e23 : m1 2 3 = (n : Int) := by rw [hF 2 3 (by omega) (by omega) (by omega) (by omega), gb 2 3 (by omega) (by omega) (by omega)]; exact hn
        refine wT_think_40 _ _ _ _ ?_
        rw [e23]
        refine ⟨fun _ => ?_, fun q => absurd (Int.le_refl _) q⟩
        refine eT_weigh c39 c38 (V := VV w m) (by omega) (by omega) (by omega) (by omega) (by omega) (by omega) (fun p hp => ?_) (fun m2 f2 g2 => ?_)
        · have hv := hVb p
          rw [h2 p hp]
          exact ⟨w32_id (by omega) (by omega), hv⟩
        rw [UL_m] at g2
        refine eJ_fill c40 (by omega) 0 _ _ _ ?_
        have hPO3 : PO (shp m) n (flm m2 40 0 541 0) := hPOb.fr (fun c j q => by rw [flm_row (by omega), f2 c (by omega)]; exact hF c j (by omega) (by omega) (by omega) (by omega)) (by omega)
        refine lT_121 (S := shp m) (V := VV w m) (n := n) (by omega) hVb hT hPO3 (fun s hs => by rw [flm_row (by omega)]; exact g2 s hs) (fun m3 f3 g3 => ?_) (fun k hk => ?_)
        · refine lT_list (S := shp m) (V := VV w m) (n := n) (by omega) hVb g3 (fun m4 f4 g4 g5 => ?_)
          have e : ∀ c j : Int, ¬ (c = 37 ∧ j = 6) → ¬ c = 41 → ¬ c = 40 → ¬ c = 39 → m4 c j = m1 c j := fun c j q1 q2 q3 q4 => by
            rw [f4 c j q1 q2, f3 c q3, flm_row q3, f2 c q4]
          refine fin m4 (hF.tr (fun c j q1 q2 q3 q4 => e c j (by omega) (by omega) (by omega) (by omega))) ⟨fun p hp => ?_, fun s hs => ?_, ?_, fun k hk => ?_, g4, g5⟩
          · rw [e 38 _ (by omega) (by omega) (by omega) (by omega)]; exact h2 p hp
          · rw [f4 39 _ (by omega) (by omega), f3 39 (by omega), flm_row (by omega)]; exact g2 s hs
          · rw [e 37 7 (by omega) (by omega) (by omega) (by omega)]; exact h1
          · rw [f4 40 _ (by omega) (by omega)]; exact g3 k hk
        · rw [flm_at, if_pos (by omega)]
      · have e23 : m1 2 3 = (n : Int) := by rw [hF 2 3 (by omega) (by omega) (by omega) (by omega), gb 2 3 (by omega) (by omega) (by omega)]; exact hn
        have g1 : ∀ c j : Int, c = 2 ∨ c = 18 ∨ c = 21 ∨ c = 22 ∨ (4 ≤ c ∧ c ≤ 16) ∨ 84 ≤ c → m1 c j = m c j := fun c j q => by
          rw [hF c j (by omega) (by omega) (by omega) (by omega), gb c j (by omega) (by omega) (by omega)]
        have hI1 : IK m1 := hI.fr (fun c j q => g1 c j (by unfold DK at q; omega))
        have hW1 : IW w sw m1 := hW.fr (fun c j q => g1 c j (by omega))
        have hpt := hI1.pt (p := (k : Int)) (by omega) (by omega)
        refine wT_think_40 _ _ _ _ ?_
        rw [e23, w32_id (z := (n : Int)) (by omega) (by omega), w32_id (z := (k : Int)) (by omega) (by omega)]
        refine ⟨fun q => by omega, fun _ => eK_told (by omega) (by decide) (eK_twelfths hI1 hW1 (by omega) (by omega) hpt.2.2.2.2.2.2 (fun m2 f2 => ⟨by omega, ?_⟩))⟩
        have ev : tw w (m1 6 (k : Int)) (m1 10 0) (m1 (4 + 5) (k : Int)) (m1 8 (k : Int)) (m1 11 0) (k : Int) = VV w m k := by
          rw [show m1 (4 + 5) (k : Int) = m1 9 (k : Int) from rfl, g1 6 _ (by omega), g1 10 _ (by omega), g1 9 _ (by omega), g1 8 _ (by omega), g1 11 _ (by omega)]; rfl
        rw [ev]
        have f2' : FrT5 m1 m2 := fun c j q1 q2 _ _ => by rw [f2 c q1 q2]
        refine ih _ (hF.tr (f2'.tr ((FrT5.up (by omega)).tr (FrT5.up (by omega))))) ?_ (fun p hp => ?_)
        · rw [upm_at, if_pos rfl, f2 37 (by omega) (by omega), h1, Int.pow_succ]
        · rw [upm_row (by omega), upm_at]
          by_cases cp : p = k
          · subst cp; rw [if_pos rfl]
          · rw [if_neg (by omega), f2 38 (by omega) (by omega)]; exact h2 p (by omega)
    refine key 0 (Nat.zero_le _) mb (FrT5.rf mb) ?_ (fun p hp => absurd hp (Nat.not_lt_zero _))
    rw [← hmb, upm_at, if_pos rfl]; rfl
  · have c := Decidable.not_not.mp c
    have := b4 c
    rw [show (m 2 3).toNat = n by rw [hn]; rfl] at this
    exact h m (FrT6.rf m) this.1 this.2 hP hH
end TW
