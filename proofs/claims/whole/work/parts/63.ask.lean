/-! odds: what the class answers out of what it has thought -/
theorem om_out {S : Sh} {U : Us} {n : Nat} (hn : n ≤ 9) (hT : Tk S n) {M : Int} (h : M < -1 ∨ 540 < M) : om S U n M = 0 := by
  have e : om S U n M = sm (2 ^ n) (fun _ => 0) := by
    refine sm_cg _ (fun s _ => ?_)
    have := en_b hT hn s
    show (if en S n s = M then od U n s else 0) = 0
    exact if_neg (by omega)
  rw [e]; exact sm_0 _
theorem ob_top {S : Sh} {U : Us} {n : Nat} (hn : n ≤ 9) (hT : Tk S n) {K : Int} (h : 541 ≤ K) : ob S U n K = ob S U n 541 := by
  refine sm_cg _ (fun s _ => ?_)
  have := en_b hT hn s
  show (if 0 ≤ en S n s ∧ en S n s < K then od U n s else 0) = (if 0 ≤ en S n s ∧ en S n s < 541 then od U n s else 0)
  by_cases c : 0 ≤ en S n s
  · rw [if_pos (by omega), if_pos (by omega)]
  · rw [if_neg (by omega), if_neg (by omega)]
theorem ct_first {S : Sh} {U : Us} {n : Nat} : ∀ K : Nat, 0 < ct S U n K → ∃ k, k < K ∧ 0 < om S U n (k : Int) ∧ ct S U n k = 0 ∧ ∀ j, j < k → ¬ 0 < om S U n (j : Int)
  | 0, h => absurd h (Nat.lt_irrefl 0)
  | K + 1, h => by
    by_cases c : 0 < ct S U n K
    · obtain ⟨k, h1, h2, h3, h4⟩ := ct_first K c
      exact ⟨k, by omega, h2, h3, h4⟩
    · have e := ct_s (S := S) (U := U) (n := n) (k := K)
      have c2 : 0 < om S U n (K : Int) := by
        by_cases c2 : 0 < om S U n (K : Int)
        · exact c2
        · rw [if_neg c2] at e; omega
      refine ⟨K, by omega, c2, by omega, fun j hj ho => ?_⟩
      have e1 := ct_s (S := S) (U := U) (n := n) (k := j)
      rw [if_pos ho] at e1
      have hm := ct_mono (S := S) (U := U) (n := n) (j + 1) (K - (j + 1))
      rw [show j + 1 + (K - (j + 1)) = K by omega] at hm
      omega
theorem ct_last {S : Sh} {U : Us} {n : Nat} : ∀ K : Nat, 0 < ct S U n K → ∃ k, k < K ∧ 0 < om S U n (k : Int) ∧ ct S U n k + 1 = ct S U n K ∧ ∀ j, k < j → j < K → ¬ 0 < om S U n (j : Int)
  | 0, h => absurd h (Nat.lt_irrefl 0)
  | K + 1, h => by
    have e := ct_s (S := S) (U := U) (n := n) (k := K)
    by_cases c2 : 0 < om S U n (K : Int)
    · rw [if_pos c2] at e
      exact ⟨K, by omega, c2, e.symm, fun j h1 h2 => by omega⟩
    · rw [if_neg c2] at e
      obtain ⟨k, h1, h2, h3, h4⟩ := ct_last (S := S) (U := U) (n := n) K (by omega)
      refine ⟨k, by omega, h2, by omega, fun j j1 j2 => ?_⟩
      by_cases c : j = K
      · rw [c]; exact c2
      · exact h4 j j1 (by omega)
/-- minutes together, of those below K -/
def oe (S : Sh) (U : Us) (n : Nat) (K : Int) : Int := sm (2 ^ n) (fun s => if 0 ≤ en S n s ∧ en S n s < K then od U n s * en S n s else 0)
theorem oe_s {S : Sh} {U : Us} {n k : Nat} : oe S U n ((k : Int) + 1) = oe S U n (k : Int) + (k : Int) * om S U n (k : Int) := by
  unfold oe om
  rw [Int.mul_comm, ← sm_mul, ← sm_add]
  refine sm_cg _ (fun s _ => ?_)
  show (if 0 ≤ en S n s ∧ en S n s < (k : Int) + 1 then od U n s * en S n s else 0) = (if 0 ≤ en S n s ∧ en S n s < (k : Int) then od U n s * en S n s else 0) + (if en S n s = (k : Int) then od U n s else 0) * (k : Int)
  by_cases c : en S n s = (k : Int)
  · rw [if_pos (by omega), if_neg (by omega), if_pos c, c, Int.zero_add]
  · by_cases c2 : 0 ≤ en S n s ∧ en S n s < (k : Int)
    · rw [if_pos (by omega), if_pos c2, if_neg c, Int.zero_mul, Int.add_zero]
    · rw [if_neg (by omega), if_neg c2, if_neg c, Int.zero_mul, Int.add_zero]
theorem oe_0 {S : Sh} {U : Us} {n : Nat} : oe S U n 0 = 0 := by
  have e : oe S U n 0 = sm (2 ^ n) (fun _ => 0) := by
    refine sm_cg _ (fun s _ => ?_)
    show (if 0 ≤ en S n s ∧ en S n s < 0 then od U n s * en S n s else 0) = 0
    exact if_neg (by omega)
  rw [e]; exact sm_0 _
theorem oe_b {S : Sh} {U : Us} {n : Nat} (hn : n ≤ 9) (hT : Tk S n) (hU : Ub U n) (K : Int) : 0 ≤ oe S U n K ∧ oe S U n K ≤ 512 * (5159780352 * 540) := sm_bN (p9 hn).2 (by decide) (fun s _ => by
  have h1 := od_9 (s := s) hn hU
  have h2 := en_b hT hn s
  split
  · exact ⟨Int.mul_nonneg h1.1 (by omega), Int.mul_le_mul h1.2 h2.2 (by omega) (by decide)⟩
  · omega)
/-- how many sets a minute has, the likeliest, its odds -/
def wy (S : Sh) (U : Us) (n : Nat) (M : Int) : Nat → Int × Int × Int
  | 0 => (0, -2, 0)
  | k + 1 => if en S n k = M ∧ 0 < od U n k then ((wy S U n M k).1 + 1, if (wy S U n M k).2.2 < od U n k then (k : Int) else (wy S U n M k).2.1, if (wy S U n M k).2.2 < od U n k then od U n k else (wy S U n M k).2.2) else wy S U n M k
theorem wy_b {S : Sh} {U : Us} {n : Nat} {M : Int} (hn : n ≤ 9) (hU : Ub U n) : ∀ k : Nat, (0 ≤ (wy S U n M k).1 ∧ (wy S U n M k).1 ≤ k) ∧ (-2 ≤ (wy S U n M k).2.1 ∧ (wy S U n M k).2.1 ≤ k) ∧ 0 ≤ (wy S U n M k).2.2 ∧ (wy S U n M k).2.2 ≤ 5159780352
  | 0 => ⟨⟨by show (0 : Int) ≤ 0; decide, by show (0 : Int) ≤ ((0 : Nat) : Int); decide⟩, ⟨by show (-2 : Int) ≤ -2; decide, by show (-2 : Int) ≤ ((0 : Nat) : Int); decide⟩, by show (0 : Int) ≤ 0; decide, by show (0 : Int) ≤ 5159780352; decide⟩
  | k + 1 => by
    have ih := wy_b (S := S) (M := M) hn hU k
    have h1 := od_9 (s := k) hn hU
    unfold wy
    by_cases c : en S n k = M ∧ 0 < od U n k
    · rw [if_pos c]
      by_cases c2 : (wy S U n M k).2.2 < od U n k
      · rw [if_pos c2, if_pos c2]
        generalize wy S U n M k = y at ih
        generalize od U n k = o at h1
        refine ⟨?_, ?_, ?_⟩
        · show 0 ≤ y.1 + 1 ∧ y.1 + 1 ≤ _; omega
        · show -2 ≤ (k : Int) ∧ (k : Int) ≤ _; omega
        · exact h1
      · rw [if_neg c2, if_neg c2]
        generalize wy S U n M k = y at ih
        refine ⟨?_, ?_, ?_⟩
        · show 0 ≤ y.1 + 1 ∧ y.1 + 1 ≤ _; omega
        · show -2 ≤ y.2.1 ∧ y.2.1 ≤ _; omega
        · exact ih.2.2
    · rw [if_neg c]
      generalize wy S U n M k = y at ih
      refine ⟨?_, ?_, ih.2.2⟩
      · omega
      · omega
section AK
variable {X : Cx} {sw : Bool} {m : Mem} {Q : Int → Bool → Mem → Prop} {S : Sh} {V : Nat → Int} {n : Nat}
theorem eT_oddsToGo {p : Nat} (hn : n ≤ 9) (hV : Vb V) (hO : TO S V n m) (hP : PO S n m) (hp : p < n) (h : Q (og S (U1 V) n p) sw m) : M2 X 1 mT_oddsToGo [vr 37, vi (p : Int)] sw m Q := by
  have h2n := p9 (k := n) hn
  have key : ∀ k : Nat, k ≤ 2 ^ n → R2 X 1 mT_oddsToGo 5 [(0, vr 37), (1, vi (p : Int)), (2, vl (sm k (fun s => if 0 ≤ gm S s p then od (U1 V) n s else 0))), (4, vi (k : Int))] [] sw m Q := by
    refine downN (2 ^ n) ?_ (fun k hk ih => ?_)
    · refine wT_oddsToGo_5 _ _ _ _ _ _ ?_
      rw [hP.1]
      exact ⟨fun _ => h, fun c => absurd (Int.le_refl _) c⟩
    · have e : sm (k + 1) (fun s => if 0 ≤ gm S s p then od (U1 V) n s else 0) = sm k (fun s => if 0 ≤ gm S s p then od (U1 V) n s else 0) + (if 0 ≤ gm S k p then od (U1 V) n k else 0) := rfl
      rw [e] at ih
      have hgl := go_lt S k n
      refine wT_oddsToGo_5 _ _ _ _ _ _ ?_
      rw [hP.1, w32_id (z := ((2 ^ n : Nat) : Int)) (by omega) (by omega), w32_id (z := (k : Int)) (by omega) (by omega), (hP.2.1.2 k hk).1, bit_z (by omega) (by omega), hO.2.1 k hk, go_bit]
      refine ⟨fun c => by omega, fun _ => ⟨by omega, by omega, ?_⟩⟩
      by_cases c : 0 ≤ gm S k p
      · rw [if_pos c] at ih
        rw [if_pos (by simp [hp, c]), show w32 1 = 1 by decide, Int.one_mul]; exact ih
      · rw [if_neg c] at ih
        rw [if_neg (by simp [hp, c]), show w32 0 = 0 by decide, Int.zero_mul]; exact ih
  exact wT_oddsToGo _ _ _ _ (key 0 (Nat.zero_le _))
theorem eT_oddsBy {M : Int} (hn : n ≤ 9) (hV : Vb V) (hT : Tk S n) (hO : TO S V n m) (hM : w32 M = M) (h : Q (ob S (U1 V) n (M + 1)) sw m) : M2 X 1 mT_oddsBy [vr 37, vi M] sw m Q := by
  obtain ⟨o1, o2, o3, o4, o5, o6⟩ := hO
  have hE := ct_512 (S := S) hn (U1_b hV n) 541
  have key : ∀ k : Nat, k ≤ 541 → R2 X 1 mT_oddsBy 5 [(0, vr 37), (1, vi M), (2, vl (ob S (U1 V) n (min (k : Int) (M + 1)))), (4, vi (ct S (U1 V) n k : Int))] [] sw m Q := by
    refine downN 541 ?_ (fun k hk ih => ?_)
    · refine wT_oddsBy_5 _ _ _ _ _ _ ?_
      rw [o5]
      refine ⟨fun _ => ?_, fun c => absurd (Int.le_refl _) c⟩
      clear hM
      by_cases c : M + 1 ≤ 541
      · rw [show min ((541 : Nat) : Int) (M + 1) = M + 1 by omega]; exact h
      · rw [show min ((541 : Nat) : Int) (M + 1) = 541 by omega, ← ob_top hn hT (K := M + 1) (by omega)]; exact h
    · have hcs := ct_s (S := S) (U := U1 V) (n := n) (k := k)
      have hc1 := ct_mono (S := S) (U := U1 V) (n := n) (k + 1) (541 - (k + 1))
      rw [show k + 1 + (541 - (k + 1)) = 541 by omega] at hc1
      by_cases c : 0 < om S (U1 V) n (k : Int)
      · rw [if_pos c] at hcs
        refine wT_oddsBy_5 _ _ _ _ _ _ ?_
        rw [o5, w32_id (z := (ct S (U1 V) n 541 : Int)) (by omega) (by omega), w32_id (z := (ct S (U1 V) n k : Int)) (by omega) (by omega), o6 k (by omega) c, w32_id (z := (k : Int)) (by omega) (by omega), o4 k (by omega), hM]
        clear hM
        refine ⟨fun q => by omega, fun _ => ⟨by omega, fun q => ?_, fun q => ⟨by omega, by omega, ?_⟩⟩⟩
        · rw [show min (k : Int) (M + 1) = M + 1 by omega]; exact h
        · rw [show min (k : Int) (M + 1) = (k : Int) by omega, ← ob_s]
          rw [show min ((k + 1 : Nat) : Int) (M + 1) = (k : Int) + 1 by omega, hcs] at ih
          exact ih
      · rw [if_neg c] at hcs
        have h0 := (om_le (S := S) hn (U1_b hV n) (k : Int)).1
        have e : ob S (U1 V) n (min ((k + 1 : Nat) : Int) (M + 1)) = ob S (U1 V) n (min (k : Int) (M + 1)) := by
          clear hM
          by_cases c2 : (k : Int) < M + 1
          · rw [show min ((k + 1 : Nat) : Int) (M + 1) = (k : Int) + 1 by omega, show min (k : Int) (M + 1) = (k : Int) by omega, ob_s]; omega
          · rw [show min ((k + 1 : Nat) : Int) (M + 1) = M + 1 by omega, show min (k : Int) (M + 1) = M + 1 by omega]
        rw [e, hcs] at ih
        exact ih
  have k0 := key 0 (Nat.zero_le _)
  refine wT_oddsBy _ _ _ _ ?_
  rw [ob_0 (K := min ((0 : Nat) : Int) (M + 1)) (by omega)] at k0
  exact k0
theorem eT_oddsIn {a M : Int} (hn : n ≤ 9) (hV : Vb V) (hT : Tk S n) (hO : TO S V n m) (hM : w32 a = M) (h : Q (om S (U1 V) n M) sw m) : M2 X 2 mT_oddsIn [vr 37, vi a] sw m Q := by
  have hO' := hO
  obtain ⟨o1, o2, o3, o4, o5, o6⟩ := hO'
  refine wT_oddsIn _ _ _ _ ?_
  rw [hM]
  clear hM
  refine ⟨fun c => ⟨fun c2 => ?_, fun c2 => ⟨fun c3 => ⟨by omega, ?_⟩, fun c3 => ?_⟩⟩, fun c => ?_⟩
  · rw [om_out hn hT (by omega)] at h; exact h
  · obtain ⟨k, rfl⟩ : ∃ k : Nat, M = (k : Int) := ⟨M.toNat, by omega⟩
    rw [o4 k (by omega)]; exact h
  · rw [om_out hn hT (by omega)] at h; exact h
  · have c := Decidable.not_not.mp c
    subst c
    refine eT_oddsBy hn hV hT hO (by decide) ?_
    rw [o3, ob_rest hn hT (fun p _ => U1_t p) (by decide)]
    exact h
theorem eT_minutes (hn : n ≤ 9) (hV : Vb V) (hT : Tk S n) (hO : TO S V n m) (h : Q (oe S (U1 V) n 541) sw m) : M2 X 1 mT_minutesTogether [vr 37] sw m Q := by
  obtain ⟨o1, o2, o3, o4, o5, o6⟩ := hO
  have hE := ct_512 (S := S) hn (U1_b hV n) 541
  have key : ∀ k : Nat, k ≤ 541 → R2 X 1 mT_minutesTogether 4 [(0, vr 37), (1, vl (oe S (U1 V) n (k : Int))), (3, vi (ct S (U1 V) n k : Int))] [] sw m Q := by
    refine downN 541 ?_ (fun k hk ih => ?_)
    · refine wT_minutesTogether_4 _ _ _ _ _ ?_
      rw [o5]
      exact ⟨fun _ => h, fun c => absurd (Int.le_refl _) c⟩
    · have hcs := ct_s (S := S) (U := U1 V) (n := n) (k := k)
      have hc1 := ct_mono (S := S) (U := U1 V) (n := n) (k + 1) (541 - (k + 1))
      rw [show k + 1 + (541 - (k + 1)) = 541 by omega] at hc1
      rw [show ((k + 1 : Nat) : Int) = (k : Int) + 1 from rfl, oe_s] at ih
      by_cases c : 0 < om S (U1 V) n (k : Int)
      · rw [if_pos c] at hcs
        refine wT_minutesTogether_4 _ _ _ _ _ ?_
        rw [o5, w32_id (z := (ct S (U1 V) n 541 : Int)) (by omega) (by omega), w32_id (z := (ct S (U1 V) n k : Int)) (by omega) (by omega), o6 k (by omega) c, w32_id (z := (k : Int)) (by omega) (by omega), o4 k (by omega)]
        rw [hcs] at ih
        exact ⟨fun q => by omega, fun _ => ⟨by omega, by omega, by omega, ih⟩⟩
      · rw [if_neg c] at hcs
        have h0 := (om_le (S := S) hn (U1_b hV n) (k : Int)).1
        rw [show om S (U1 V) n (k : Int) = 0 by omega, Int.mul_zero, Int.add_zero, hcs] at ih
        exact ih
  have k0 := key 0 (Nat.zero_le _)
  rw [show oe S (U1 V) n ((0 : Nat) : Int) = 0 from oe_0] at k0
  exact wT_minutesTogether _ _ _ k0
theorem eT_soonest (hn : n ≤ 9) (hV : Vb V) (hO : TO S V n m) (h0 : (∀ k : Nat, k ≤ 540 → ¬ 0 < om S (U1 V) n (k : Int)) → Q (-1) sw m) (h1 : ∀ k : Nat, k ≤ 540 → 0 < om S (U1 V) n (k : Int) → (∀ j : Nat, j < k → ¬ 0 < om S (U1 V) n (j : Int)) → Q (k : Int) sw m) : M2 X 1 mT_soonest [vr 37] sw m Q := by
  obtain ⟨o1, o2, o3, o4, o5, o6⟩ := hO
  have hE := ct_512 (S := S) hn (U1_b hV n) 541
  refine wT_soonest _ _ _ ?_
  rw [o5, w32_id (z := (ct S (U1 V) n 541 : Int)) (by omega) (by omega)]
  refine ⟨fun c => ?_, fun c => h0 (fun k hk ho => ?_)⟩
  · obtain ⟨k, k1, k2, k3, k4⟩ := ct_first (S := S) (U := U1 V) (n := n) 541 (by omega)
    have e := o6 k (by omega) k2
    rw [k3] at e
    rw [show m 41 0 = (k : Int) from e]
    exact h1 k (by omega) k2 k4
  · have e1 := ct_s (S := S) (U := U1 V) (n := n) (k := k)
    rw [if_pos ho] at e1
    have hm := ct_mono (S := S) (U := U1 V) (n := n) (k + 1) (541 - (k + 1))
    rw [show k + 1 + (541 - (k + 1)) = 541 by omega] at hm
    omega
theorem eT_latest (hn : n ≤ 9) (hV : Vb V) (hO : TO S V n m) (h0 : (∀ k : Nat, k ≤ 540 → ¬ 0 < om S (U1 V) n (k : Int)) → Q (-1) sw m) (h1 : ∀ k : Nat, k ≤ 540 → 0 < om S (U1 V) n (k : Int) → (∀ j : Nat, k < j → j ≤ 540 → ¬ 0 < om S (U1 V) n (j : Int)) → Q (k : Int) sw m) : M2 X 1 mT_latest [vr 37] sw m Q := by
  obtain ⟨o1, o2, o3, o4, o5, o6⟩ := hO
  have hE := ct_512 (S := S) hn (U1_b hV n) 541
  refine wT_latest _ _ _ ?_
  rw [o5, w32_id (z := (ct S (U1 V) n 541 : Int)) (by omega) (by omega), w32_id (z := (ct S (U1 V) n 541 : Int) - 1) (by omega) (by omega)]
  refine ⟨fun c => ⟨by omega, ?_⟩, fun c => h0 (fun k hk ho => ?_)⟩
  · obtain ⟨k, k1, k2, k3, k4⟩ := ct_last (S := S) (U := U1 V) (n := n) 541 (by omega)
    have e := o6 k (by omega) k2
    rw [show (ct S (U1 V) n 541 : Int) - 1 = (ct S (U1 V) n k : Int) by omega, e]
    exact h1 k (by omega) k2 (fun j j1 j2 => k4 j j1 (by omega))
  · have e1 := ct_s (S := S) (U := U1 V) (n := n) (k := k)
    rw [if_pos ho] at e1
    have hm := ct_mono (S := S) (U := U1 V) (n := n) (k + 1) (541 - (k + 1))
    rw [show k + 1 + (541 - (k + 1)) = 541 by omega] at hm
    omega
theorem eT_waysTo {M : Int} (hn : n ≤ 9) (hV : Vb V) (hT : Tk S n) (hO : TO S V n m) (hP : PO S n m) (hM : w32 M = M) (h : Q (wy S (U1 V) n M (2 ^ n)).1 sw m) : M2 X 1 mT_waysTo [vr 37, vi M] sw m Q := by
  have h2n := p9 (k := n) hn
  have key : ∀ k : Nat, k ≤ 2 ^ n → R2 X 1 mT_waysTo 4 [(0, vr 37), (1, vi M), (2, vi (wy S (U1 V) n M k).1), (3, vi (k : Int))] [] sw m Q := by
    refine downN (2 ^ n) ?_ (fun k hk ih => ?_)
    · refine wT_waysTo_4 _ _ _ _ _ _ ?_
      rw [hP.1]
      exact ⟨fun _ => h, fun c => absurd (Int.le_refl _) c⟩
    · have hb := en_b hT hn k
      have hob := od_9 (s := k) hn (U1_b hV n)
      unfold wy at ih
      refine wT_waysTo_4 _ _ _ _ _ _ ?_
      rw [hP.1, w32_id (z := ((2 ^ n : Nat) : Int)) (by omega) (by omega), w32_id (z := (k : Int)) (by omega) (by omega), hP.2.2 k hk, hO.2.1 k hk, w32_id (z := en S n k) (by omega) (by omega), w64_id (z := od (U1 V) n k) (by omega) (by omega), hM]
      clear hM
      refine ⟨fun c => by omega, fun _ => ⟨by omega, fun c => ?_, fun c => ⟨by omega, fun c2 => ?_, fun c2 => ?_⟩⟩⟩
      · rw [if_neg (fun q => c q.1)] at ih; exact ih
      · rw [if_neg (fun q => by omega)] at ih; exact ih
      · rw [if_pos ⟨Decidable.not_not.mp c, by omega⟩] at ih; exact ih
  exact wT_waysTo _ _ _ _ (key 0 (Nat.zero_le _))
theorem eT_likeliest {M : Int} (hn : n ≤ 9) (hV : Vb V) (hT : Tk S n) (hO : TO S V n m) (hP : PO S n m) (hM : w32 M = M) (h : Q (wy S (U1 V) n M (2 ^ n)).2.1 sw m) : M2 X 1 mT_likeliestWayTo [vr 37, vi M] sw m Q := by
  have h2n := p9 (k := n) hn
  have key : ∀ k : Nat, k ≤ 2 ^ n → R2 X 1 mT_likeliestWayTo 8 [(0, vr 37), (1, vi M), (2, vi (wy S (U1 V) n M k).2.1), (3, vl (wy S (U1 V) n M k).2.2), (5, vi (k : Int))] [] sw m Q := by
    refine downN (2 ^ n) ?_ (fun k hk ih => ?_)
    · refine wT_likeliestWayTo_8 _ _ _ _ _ _ _ ?_
      rw [hP.1]
      exact ⟨fun _ => h, fun c => absurd (Int.le_refl _) c⟩
    · have hb := en_b hT hn k
      have hob := od_9 (s := k) hn (U1_b hV n)
      have hwb := (wy_b (S := S) (M := M) hn (U1_b hV n) k).2.2
      unfold wy at ih
      refine wT_likeliestWayTo_8 _ _ _ _ _ _ _ ?_
      rw [hP.1, w32_id (z := ((2 ^ n : Nat) : Int)) (by omega) (by omega), w32_id (z := (k : Int)) (by omega) (by omega), hP.2.2 k hk, hO.2.1 k hk, w32_id (z := en S n k) (by omega) (by omega), w64_id (z := od (U1 V) n k) (by omega) (by omega), w64_id (z := (wy S (U1 V) n M k).2.2) (by omega) (by omega), hM]
      clear hM
      refine ⟨fun c => by omega, fun _ => ⟨by omega, fun c => ?_, fun c => ⟨by omega, fun c2 => ?_, fun c2 => ⟨by omega, ?_⟩⟩⟩⟩
      · rw [if_neg (fun q => c q.1)] at ih; exact ih
      · by_cases c3 : 0 < od (U1 V) n k
        · rw [if_pos ⟨Decidable.not_not.mp c, c3⟩] at ih
          rw [if_neg (by omega), if_neg (by omega)] at ih
          exact ih
        · rw [if_neg (fun q => c3 q.2)] at ih; exact ih
      · rw [if_pos ⟨Decidable.not_not.mp c, by omega⟩] at ih
        rw [if_pos (by omega), if_pos (by omega)] at ih
        exact ih
  exact wT_likeliestWayTo _ _ _ _ (key 0 (Nat.zero_le _))
theorem eZ_isSide {a : Int} (ha : w32 a = a) (h : Q (bz (a = 0 ∨ a = 1)) sw m) : M2 X 1 mZ_isSide [vi a] sw m Q := by
  refine wZ_isSide _ _ _ _ ?_
  rw [ha]
  clear ha
  unfold bz at h
  refine ⟨fun c => ?_, fun c => ⟨fun c2 => ?_, fun c2 => ?_⟩⟩
  · rwa [if_pos (by omega)] at h
  · rwa [if_neg (by omega)] at h
  · rwa [if_pos (by omega)] at h
end AK
