/-! worth, begin, change in pairs -/
def wc (b rd ea la k : Int) : Int := if 0 < k + b - rd then (k + b - rd) * la else (-(k + b - rd)) * ea
def wsm (S : Sh) (U : Us) (n : Nat) (b rd ea la : Int) (K : Nat) : Int := sm K (fun k => om S U n (k : Int) * max 0 (100 - wc b rd ea la (k : Int)))
def wv (S : Sh) (U : Us) (n : Nat) (b rd ea la : Int) : Int := zldiv (wsm S U n b rd ea la 541 * 1000) (12 ^ n)
theorem mulb {x y B C : Int} (hx : 0 ≤ x ∧ x ≤ B) (hy : 0 ≤ y ∧ y ≤ C) (hB : 0 ≤ B) : 0 ≤ x * y ∧ x * y ≤ B * C := ⟨Int.mul_nonneg hx.1 hy.1, Int.mul_le_mul hx.2 hy.2 hy.1 hB⟩
theorem wc_b {b rd ea la k : Int} (hb : -300 ≤ b ∧ b ≤ 300) (hr : 0 ≤ rd ∧ rd ≤ 300) (he : 0 ≤ ea ∧ ea ≤ 20) (hl : 0 ≤ la ∧ la ≤ 20) (hk : 0 ≤ k ∧ k ≤ 540) : 0 ≤ wc b rd ea la k ∧ wc b rd ea la k ≤ 24000 := by
  unfold wc
  split
  · have := mulb (x := k + b - rd) (B := 1200) (by omega) hl (by decide); omega
  · have := mulb (x := -(k + b - rd)) (B := 1200) (by omega) he (by decide); omega
theorem ob_sm {S : Sh} {U : Us} {n : Nat} : ∀ K : Nat, sm K (fun k => om S U n (k : Int)) = ob S U n (K : Int)
  | 0 => (ob_0 (Int.le_refl 0)).symm
  | K + 1 => by
    show sm K (fun k => om S U n (k : Int)) + om S U n (K : Int) = _
    rw [ob_sm K]; exact ob_s.symm
theorem ob_12 {V : Nat → Int} {S : Sh} {n : Nat} (hV : Vb V) (K : Int) : ob S (U1 V) n K ≤ 12 ^ n := by
  rw [← od_tot (U := U1 V) n (fun p _ => U1_t p)]
  refine sm_le _ (fun s _ => ?_)
  have := (od_b (s := s) n (U1_b hV n)).1
  show (if 0 ≤ en S n s ∧ en S n s < K then od (U1 V) n s else 0) ≤ od (U1 V) n s
  split
  · exact Int.le_refl _
  · exact this
theorem wsm_b {S : Sh} {V : Nat → Int} {n : Nat} {b rd ea la : Int} (hV : Vb V) (hb : -300 ≤ b ∧ b ≤ 300) (hr : 0 ≤ rd ∧ rd ≤ 300) (he : 0 ≤ ea ∧ ea ≤ 20) (hl : 0 ≤ la ∧ la ≤ 20) : 0 ≤ wsm S (U1 V) n b rd ea la 541 ∧ wsm S (U1 V) n b rd ea la 541 ≤ 12 ^ n * 100 := by
  have h0 : ∀ k : Nat, 0 ≤ om S (U1 V) n (k : Int) := fun k => om_nn (U1_b hV n) _
  refine ⟨sm_nn _ (fun k _ => Int.mul_nonneg (h0 k) (by omega)), ?_⟩
  have h1 : wsm S (U1 V) n b rd ea la 541 ≤ sm 541 (fun k => om S (U1 V) n (k : Int) * 100) := by
    refine sm_le _ (fun k hk => ?_)
    have := wc_b (k := (k : Int)) hb hr he hl (by omega)
    exact Int.mul_le_mul_of_nonneg_left (by omega) (h0 k)
  rw [sm_mul, ob_sm] at h1
  have h2 : ob S (U1 V) n ((541 : Nat) : Int) * 100 ≤ 12 ^ n * 100 := Int.mul_le_mul_of_nonneg_right (ob_12 hV _) (by decide)
  omega
theorem wv_b {S : Sh} {V : Nat → Int} {n : Nat} {b rd ea la : Int} (hn : n ≤ 9) (hV : Vb V) (hb : -300 ≤ b ∧ b ≤ 300) (hr : 0 ≤ rd ∧ rd ≤ 300) (he : 0 ≤ ea ∧ ea ≤ 20) (hl : 0 ≤ la ∧ la ≤ 20) : 0 ≤ wv S (U1 V) n b rd ea la ∧ wv S (U1 V) n b rd ea la ≤ 100000 := by
  have h1 := wsm_b (S := S) (n := n) hV hb hr he hl
  have h2 := p12 hn
  unfold wv
  rw [zldiv_pos (by omega) (by omega) (by omega) (by omega)]
  refine ⟨Int.ediv_nonneg (by omega) (by omega), ?_⟩
  refine Int.ediv_le_of_le_mul (by omega) ?_
  omega
section WO
variable {X : Cx} {sw : Bool} {m : Mem} {Q : Int → Bool → Mem → Prop} {w : Option (List Ln)} {n : Nat}
theorem eZ_cut {a b c : Int} (hc : ¬ w64 c = 0) (h : Q (zldiv (a * b) c) sw m) : M2 X 1 mZ_cut [vl a, vl b, vl c] sw m Q := wZ_cut _ _ _ _ _ _ ⟨fun _ => ⟨hc, h⟩, fun q => absurd hc q⟩
theorem eC_worthOf {S : Sh} {V : Nat → Int} {b rd ea la : Int} (hn : n ≤ 9) (hV : Vb V) (hO : TO S V n m) (e12 : m 12 0 = rd) (e13 : m 13 0 = ea) (e14 : m 14 0 = la) (hb : -300 ≤ b ∧ b ≤ 300) (hr : 0 ≤ rd ∧ rd ≤ 300) (he : 0 ≤ ea ∧ ea ≤ 20) (hl : 0 ≤ la ∧ la ≤ 20) (h : Q (wv S (U1 V) n b rd ea la) sw m) : M2 X 3 mC_worthOf [vr 42, vi b] sw m Q := by
  obtain ⟨o1, o2, o3, o4, o5, o6⟩ := hO
  have hE := ct_512 (S := S) hn (U1_b hV n) 541
  have hp12 := p12 hn
  refine wC_worthOf _ _ _ _ (eK_told (by decide) (by decide) (eK_told (by decide) (by decide) (eK_told (by decide) (by decide) ?_)))
  rw [show m (4 + 8) 0 = m 12 0 from rfl, show m (4 + 9) 0 = m 13 0 from rfl, show m (4 + 10) 0 = m 14 0 from rfl, e12, e13, e14]
  have key : ∀ k : Nat, k ≤ 541 → R2 X 3 mC_worthOf 40 [(0, vr 42), (1, vi b), (2, vi rd), (3, vi ea), (4, vi la), (5, vl (wsm S (U1 V) n b rd ea la k)), (7, vi (ct S (U1 V) n k : Int))] [] sw m Q := by
    refine downN 541 ?_ (fun k hk ih => ?_)
    · refine wC_worthOf_40 _ _ _ _ _ _ _ _ _ ?_
      rw [o5, o3]
      refine ⟨fun _ => eZ_cut ?_ h, fun c => absurd (Int.le_refl _) c⟩
      rw [w64_id (by omega) (by omega)]; omega
    · have hcs := ct_s (S := S) (U := U1 V) (n := n) (k := k)
      have hc1 := ct_mono (S := S) (U := U1 V) (n := n) (k + 1) (541 - (k + 1))
      rw [show k + 1 + (541 - (k + 1)) = 541 by omega] at hc1
      have e : wsm S (U1 V) n b rd ea la (k + 1) = wsm S (U1 V) n b rd ea la k + om S (U1 V) n (k : Int) * max 0 (100 - wc b rd ea la (k : Int)) := rfl
      rw [e] at ih
      have hwc := wc_b (k := (k : Int)) hb hr he hl (by omega)
      by_cases c : 0 < om S (U1 V) n (k : Int)
      · rw [if_pos c] at hcs
        refine wC_worthOf_40 _ _ _ _ _ _ _ _ _ ?_
        rw [hcs] at ih
        rw [o5, w32_id (z := (ct S (U1 V) n 541 : Int)) (by omega) (by omega), w32_id (z := (ct S (U1 V) n k : Int)) (by omega) (by omega), o6 k (by omega) c, w32_id (z := (k : Int)) (by omega) (by omega), o4 k (by omega), w32_id (z := (k : Int) + b - rd) (by omega) (by omega)]
        refine ⟨fun q => by omega, fun _ => ⟨by omega, fun q => ⟨by omega, ?_⟩, fun q => ⟨by omega, ?_⟩⟩⟩
        · have e2 : wc b rd ea la (k : Int) = (-((k : Int) + b - rd)) * ea := if_neg (by omega)
          rw [← e2, w32_id (z := 100 - wc b rd ea la (k : Int)) (by omega) (by omega), w32_id (z := max 0 (100 - wc b rd ea la (k : Int))) (by omega) (by omega)]
          exact ih
        · have e2 : wc b rd ea la (k : Int) = ((k : Int) + b - rd) * la := if_pos (by omega)
          rw [← e2, w32_id (z := 100 - wc b rd ea la (k : Int)) (by omega) (by omega), w32_id (z := max 0 (100 - wc b rd ea la (k : Int))) (by omega) (by omega)]
          exact ih
      · rw [if_neg c] at hcs
        have h0 := (om_le (S := S) hn (U1_b hV n) (k : Int)).1
        rw [show om S (U1 V) n (k : Int) = 0 by omega, Int.zero_mul, Int.add_zero, hcs] at ih
        exact ih
  exact key 0 (Nat.zero_le _)
theorem eY_findMinutes {m2 : Mem} (hp : Pre w sw n m) (f : FrH m m2) (h33 : m2 84 33 = -1) (k : ∀ m3, FrY9 m2 m3 → MO (shp m) (VV w m) n (-1) m3 → (∀ k : Nat, k ≤ 540 → m3 106 (k : Int) = om (shp m) (U1 (VV w m)) n (k : Int)) → Q 0 sw m3) : M2 X 6 mY_findMinutes [vr 84] sw m2 Q := by
  have h9 := hp.n9
  have h2n := p9 (k := n) h9
  have hT := hp.tk
  have hV := VV_b w m
  refine wY_findMinutes _ _ _ (hp.lay f h33 (fun m3 f3 hM => ?_))
  have sets_ : ∀ j : Nat, j ≤ 2 ^ n → ∀ m4, FrY9 m3 m4 → MO (shp m) (VV w m) n (-1) m4 → (∀ k : Nat, k ≤ 540 → m4 106 (k : Int) = sm j (fun s => if en (shp m) n s = (k : Int) then od (U1 (VV w m)) n s else 0)) → R2 X 6 mY_findMinutes 28 [(0, vr 84), (1, vi (j : Int))] [] sw m4 Q := by
    refine downN (2 ^ n) (fun m4 hF hM1 h1 => ?_) (fun j hj ih m4 hF hM1 h1 => ?_)
    · exact wY_findMinutes_28 _ _ _ _ (eY_sets hM1.1.1 h9 ⟨fun _ => k m4 (f3.tr hF) hM1 h1, fun c => absurd (Int.le_refl _) c⟩)
    · have hb := en_b hT h9 j
      have e : ∀ k : Nat, sm (j + 1) (fun s => if en (shp m) n s = (k : Int) then od (U1 (VV w m)) n s else 0) = sm j (fun s => if en (shp m) n s = (k : Int) then od (U1 (VV w m)) n s else 0) + (if en (shp m) n j = (k : Int) then od (U1 (VV w m)) n j else 0) := fun _ => rfl
      refine wY_findMinutes_28 _ _ _ _ (eY_sets hM1.1.1 h9 ?_)
      rw [w32_id (z := ((2 ^ n : Nat) : Int)) (by omega) (by omega), w32_id (z := (j : Int)) (by omega) (by omega)]
      refine ⟨fun c => by omega, fun _ => eY_goMorning hM1.1 (by omega) (fun m5 f5 y5 => ?_)⟩
      have hM2 := hM1.m2 f5
      have g106 : ∀ i, m5 106 i = m4 106 i := fun i => f5 106 i (by omega) (by omega)
      refine eY_endNow hM2.1.1 h9 y5 ?_
      rw [w32_id (z := en (shp m) n j) (by omega) (by omega)]
      refine ⟨fun c => ih m5 (hF.tr f5.y9) hM2 (fun k hk => ?_), fun c => eY_endNow hM2.1.1 h9 y5 ?_⟩
      · rw [g106, h1 k hk, e, if_neg (by omega), Int.add_zero]
      · rw [w32_id (z := en (shp m) n j) (by omega) (by omega)]
        refine ⟨by omega, eY_oddsOf hM2 hV (by omega) ⟨by omega, ?_⟩⟩
        rw [UD_m, g106]
        refine ih _ (hF.tr (f5.y9.tr (fun c' i q1 q2 => upm_ne (by omega)))) (hM2.fr (fun c' i q => upm_ne (by omega))) (fun k hk => ?_)
        rw [upm_at, e]
        by_cases ck : (k : Int) = en (shp m) n j
        · rw [if_pos ck, if_pos ck.symm, ← ck, h1 k hk]
        · rw [if_neg ck, if_neg (fun q => ck q.symm), Int.add_zero, g106]; exact h1 k hk
  have zero : ∀ j : Nat, j ≤ 541 → ∀ m4, FrY9 m3 m4 → MO (shp m) (VV w m) n (-1) m4 → (∀ k : Nat, k < j → m4 106 (k : Int) = 0) → R2 X 6 mY_findMinutes 6 [(0, vr 84), (1, vi (j : Int))] [] sw m4 Q := by
    refine downN 541 (fun m4 hF hM1 h1 => ?_) (fun j hj ih m4 hF hM1 h1 => ?_)
    · exact wY_findMinutes_6 _ _ _ _ ⟨fun _ => sets_ 0 (Nat.zero_le _) m4 hF hM1 (fun k hk => by rw [h1 k (by omega)]; rfl), fun c => absurd (by decide) c⟩
    · refine wY_findMinutes_6 _ _ _ _ ?_
      rw [w32_id (z := (j : Int)) (by omega) (by omega)]
      refine ⟨fun c => by omega, fun _ => ⟨by omega, ih _ (hF.tr (fun c' i q1 q2 => upm_ne (by omega))) (hM1.fr (fun c' i q => upm_ne (by omega))) (fun k hk => ?_)⟩⟩
      rw [upm_at]
      by_cases c : k = j
      · subst c; rw [if_pos rfl]
      · rw [if_neg (by omega)]; exact h1 k (by omega)
  exact zero 0 (Nat.zero_le _) m3 (FrY9.rf m3) hM (fun k hk => absurd hk (Nat.not_lt_zero _))
theorem eY_worthAt {S : Sh} {V : Nat → Int} {b rd ea la : Int} (hV : Vb V) (hM : MO S V n (-1) m) (h106 : ∀ k : Nat, k ≤ 540 → m 106 (k : Int) = om S (U1 V) n (k : Int)) (e12 : m 91 2 = rd) (e13 : m 91 3 = ea) (e14 : m 91 4 = la) (hb : -300 ≤ b ∧ b ≤ 300) (hr : 0 ≤ rd ∧ rd ≤ 300) (he : 0 ≤ ea ∧ ea ≤ 20) (hl : 0 ≤ la ∧ la ≤ 20) (h : Q (wv S (U1 V) n b rd ea la) sw m) : M2 X 2 mY_worthAt [vr 84, vi b] sw m Q := by
  have hn := hM.1.2.1
  have hp12 := p12 hn
  have key : ∀ k : Nat, k ≤ 541 → R2 X 2 mY_worthAt 5 [(0, vr 84), (1, vi b), (2, vl (wsm S (U1 V) n b rd ea la k)), (4, vi (k : Int))] [] sw m Q := by
    refine downN 541 ?_ (fun k hk ih => ?_)
    · refine wY_worthAt_5 _ _ _ _ _ _ ⟨fun _ => eY_whole hM ?_, fun c => absurd (by decide) c⟩
      rw [if_neg (by decide), Int.one_mul, w64_id (by omega) (by omega)]
      exact ⟨by omega, h⟩
    · have e : wsm S (U1 V) n b rd ea la (k + 1) = wsm S (U1 V) n b rd ea la k + om S (U1 V) n (k : Int) * max 0 (100 - wc b rd ea la (k : Int)) := rfl
      rw [e] at ih
      have hwc := wc_b (k := (k : Int)) hb hr he hl (by omega)
      refine wY_worthAt_5 _ _ _ _ _ _ ?_
      rw [e12, e13, e14, w32_id (z := (k : Int)) (by omega) (by omega), w32_id (z := (k : Int) + b - rd) (by omega) (by omega), h106 k (by omega)]
      refine ⟨fun q => by omega, fun _ => ⟨fun q => ?_, fun q => ?_⟩⟩
      · have e2 : la * ((k : Int) + b - rd) = wc b rd ea la (k : Int) := by
          unfold wc
          by_cases c : 0 < (k : Int) + b - rd
          · rw [if_pos c, Int.mul_comm]
          · rw [if_neg c, show (k : Int) + b - rd = 0 by omega, Int.mul_zero, Int.neg_zero, Int.zero_mul]
        rw [e2, w32_id (z := 100 - wc b rd ea la (k : Int)) (by omega) (by omega)]
        refine ⟨fun q2 => ?_, fun q2 => ⟨by omega, ?_⟩⟩
        · rw [show max 0 (100 - wc b rd ea la (k : Int)) = 0 by omega, Int.mul_zero, Int.add_zero] at ih; exact ih
        · rw [show max 0 (100 - wc b rd ea la (k : Int)) = 100 - wc b rd ea la (k : Int) by omega] at ih; exact ih
      · have e2 : 100 + ea * ((k : Int) + b - rd) = 100 - wc b rd ea la (k : Int) := by
          unfold wc
          rw [if_neg (by omega), Int.mul_comm ea, Int.neg_mul]; omega
        rw [e2, w32_id (z := 100 - wc b rd ea la (k : Int)) (by omega) (by omega)]
        refine ⟨fun q2 => ?_, fun q2 => ⟨by omega, ?_⟩⟩
        · rw [show max 0 (100 - wc b rd ea la (k : Int)) = 0 by omega, Int.mul_zero, Int.add_zero] at ih; exact ih
        · rw [show max 0 (100 - wc b rd ea la (k : Int)) = 100 - wc b rd ea la (k : Int) by omega] at ih; exact ih
  exact wY_worthAt _ _ _ _ (key 0 (Nat.zero_le _))
theorem pr_worth {a : Int} (ha : w32 a = a) (hp : Pre w sw n m) {QQ : Int → Int → Bool → Mem → Prop} (h : ∀ z m', Fin w m m' → QQ z z sw m') : M2 X 7 mZ_worth [vr 1, vi a] sw m (fun z1 sw1 m1 => M2 X 7 mY_worth [vr 84, vi a] sw1 m1 (fun z2 sw2 m2 => QQ z1 z2 sw2 m2)) := by
  have h9 := hp.n9
  have hV := VV_b w m
  have hkt := hp.1.kt
  have hbad : ¬ (-300 ≤ a ∧ a ≤ 300) → M2 X 7 mY_worth [vr 84, vi a] sw m (fun z2 sw2 m2 => QQ (-2000000000) z2 sw2 m2) := fun q => by
    refine wY_worth _ _ _ _ (eY_in ha (by decide) (by decide) ?_)
    rw [bz_w, bz_0]
    exact ⟨fun c => absurd (Decidable.not_not.mp c) q, fun _ => h _ m hp.same⟩
  refine wZ_worth _ _ _ _ ?_
  rw [ha]
  refine ⟨fun c => hbad (by omega), fun c => ⟨fun c2 => hp.think (fun m2 hm => ?_), fun c2 => hbad (by omega)⟩⟩
  have g : ∀ c j : Int, 4 ≤ c → c ≤ 16 → m2 c j = m c j := fun c j q1 q2 => hm.1 c j (by unfold HK; omega)
  refine eC_worthOf h9 hV hm.2.1 (g 12 0 (by omega) (by omega)) (g 13 0 (by omega) (by omega)) (g 14 0 (by omega) (by omega)) (by omega) hkt.2.2.1.2 hkt.2.2.2.1.2 hkt.2.2.2.2.1.2 ?_
  refine wY_worth _ _ _ _ (eY_in ha (by decide) (by decide) ?_)
  rw [bz_w, bz_0]
  refine ⟨fun _ => eY_findMinutes hp hm.1 hm.2.2.2.2.2 (fun m3 f3 hM h106 => ?_), fun c3 => by omega⟩
  have g3 : ∀ j : Int, m3 91 j = m 91 j := fun j => by rw [f3 91 j (by omega) (by omega)]; exact hm.1 91 j (by unfold HK; omega)
  refine eY_worthAt hV hM h106 ((g3 2).trans hkt.2.2.1.1) ((g3 3).trans hkt.2.2.2.1.1) ((g3 4).trans hkt.2.2.2.2.1.1) (by omega) hkt.2.2.1.2 hkt.2.2.2.1.2 hkt.2.2.2.2.1.2 ?_
  exact h _ m3 (hm.fin hp.2.1 h9 f3 hM.2.2.1)
/-- the best minute to begin, of the first k -/
def bg (W : Int → Int) : Nat → Int × Int
  | 0 => (-300, -1)
  | k + 1 => if (bg W k).2 < W ((k : Int) - 300) then ((k : Int) - 300, W ((k : Int) - 300)) else bg W k
theorem bg_s (W : Int → Int) (k : Nat) : bg W (k + 1) = if (bg W k).2 < W ((k : Int) - 300) then ((k : Int) - 300, W ((k : Int) - 300)) else bg W k := rfl
theorem bg_b {W : Int → Int} (hW : ∀ b, -300 ≤ b → b ≤ 300 → 0 ≤ W b ∧ W b ≤ 100000) : ∀ k : Nat, k ≤ 601 → (-300 ≤ (bg W k).1 ∧ (bg W k).1 ≤ 300) ∧ (-1 ≤ (bg W k).2 ∧ (bg W k).2 ≤ 100000) ∧ (1 ≤ k → (bg W k).2 = W (bg W k).1)
  | 0, _ => ⟨by show -300 ≤ (-300 : Int) ∧ (-300 : Int) ≤ 300; omega, by show -1 ≤ (-1 : Int) ∧ (-1 : Int) ≤ 100000; omega, fun h => absurd h (by decide)⟩
  | k + 1, hk => by
    have ih := bg_b hW k (by omega)
    have h1 := hW ((k : Int) - 300) (by omega) (by omega)
    rw [bg_s]
    by_cases c : (bg W k).2 < W ((k : Int) - 300)
    · rw [if_pos c]
      exact ⟨by show -300 ≤ (k : Int) - 300 ∧ (k : Int) - 300 ≤ 300; omega, by show -1 ≤ W ((k : Int) - 300) ∧ W ((k : Int) - 300) ≤ 100000; omega, fun _ => rfl⟩
    · rw [if_neg c]
      refine ⟨ih.1, ih.2.1, fun _ => ?_⟩
      by_cases ck : 1 ≤ k
      · exact ih.2.2 ck
      · have : k = 0 := by omega
        subst this
        exact absurd (show (-1 : Int) < W (((0 : Nat) : Int) - 300) by omega) c
theorem pr_begin {a : Int} (ha : w32 a = a) (hp : Pre w sw n m) {QQ : Int → Int → Bool → Mem → Prop} (h : ∀ z m', Fin w m m' → QQ z z sw m') : M2 X 7 mZ_begin [vr 1, vi a] sw m (fun z1 sw1 m1 => M2 X 7 mY_begin [vr 84, vi a] sw1 m1 (fun z2 sw2 m2 => QQ z1 z2 sw2 m2)) := by
  have h9 := hp.n9
  have hV := VV_b w m
  have hkt := hp.1.kt
  have hW : ∀ b, -300 ≤ b → b ≤ 300 → 0 ≤ (fun b => wv (shp m) (U1 (VV w m)) n b (m 12 0) (m 13 0) (m 14 0)) b ∧ (fun b => wv (shp m) (U1 (VV w m)) n b (m 12 0) (m 13 0) (m 14 0)) b ≤ 100000 := fun b b1 b2 => wv_b h9 hV ⟨b1, b2⟩ hkt.2.2.1.2 hkt.2.2.2.1.2 hkt.2.2.2.2.1.2
  generalize hw : (fun b => wv (shp m) (U1 (VV w m)) n b (m 12 0) (m 13 0) (m 14 0)) = W at hW
  have hwb : ∀ b, wv (shp m) (U1 (VV w m)) n b (m 12 0) (m 13 0) (m 14 0) = W b := fun b => by rw [← hw]
  have hbg := bg_b hW
  refine wZ_begin _ _ _ _ (eZ_isSide ha ?_)
  rw [bz_w, bz_0, ha]
  refine ⟨fun c => ?_, fun c => wY_begin _ _ _ _ (eY_in ha (by decide) (by decide) ?_)⟩
  · have c := Decidable.not_not.mp c
    refine hp.think (fun m2 hm => ?_)
    have g : ∀ c j : Int, 4 ≤ c → c ≤ 16 → m2 c j = m c j := fun c j q1 q2 => hm.1 c j (by unfold HK; omega)
    have worth : ∀ (b : Int) (P : Int → Bool → Mem → Prop), -300 ≤ b → b ≤ 300 → P (W b) sw m2 → M2 X 3 mC_worthOf [vr 42, vi b] sw m2 P := fun b P b1 b2 hP => eC_worthOf h9 hV hm.2.1 (g 12 0 (by omega) (by omega)) (g 13 0 (by omega) (by omega)) (g 14 0 (by omega) (by omega)) ⟨b1, b2⟩ hkt.2.2.1.2 hkt.2.2.2.1.2 hkt.2.2.2.2.1.2 (by rw [hwb]; exact hP)
    have mdl : ∀ z : Int, z = (if a = 0 then (bg W 601).1 else (bg W 601).2) → M2 X 7 mY_begin [vr 84, vi a] sw m2 (fun z2 sw2 m2 => QQ z z2 sw2 m2) := by
      intro z hz
      refine wY_begin _ _ _ _ (eY_in ha (by decide) (by decide) ?_)
      rw [bz_w, bz_0]
      refine ⟨fun _ => eY_findMinutes hp hm.1 hm.2.2.2.2.2 (fun m3 f3 hM h106 => ?_), fun c3 => by omega⟩
      have g3 : ∀ j : Int, m3 91 j = m 91 j := fun j => by rw [f3 91 j (by omega) (by omega)]; exact hm.1 91 j (by unfold HK; omega)
      have wat : ∀ (b : Int) (P : Int → Bool → Mem → Prop), -300 ≤ b → b ≤ 300 → P (W b) sw m3 → M2 X 2 mY_worthAt [vr 84, vi b] sw m3 P := fun b P b1 b2 hP => eY_worthAt hV hM h106 ((g3 2).trans hkt.2.2.1.1) ((g3 3).trans hkt.2.2.2.1.1) ((g3 4).trans hkt.2.2.2.2.1.1) ⟨b1, b2⟩ hkt.2.2.1.2 hkt.2.2.2.1.2 hkt.2.2.2.2.1.2 (by rw [hwb]; exact hP)
      have hfin := h z m3 (hm.fin hp.2.1 h9 f3 hM.2.2.1)
      have key : ∀ k : Nat, k ≤ 601 → 1 ≤ k → R2 X 7 mY_begin 32 [(0, vr 84), (1, vi a), (2, vi (bg W k).1), (3, vi (bg W k).2), (4, vi ((k : Int) - 300))] [] sw m3 (fun z2 sw2 m2 => QQ z z2 sw2 m2) := by
        refine downN 601 (fun _ => ?_) (fun k hk ih k1 => ?_)
        · refine wY_begin_32 _ _ _ _ _ _ _ ⟨fun _ => ?_, fun q => absurd (by decide) q⟩
          rw [ha]
          refine ⟨fun q => ?_, fun q => ?_⟩
          · rw [if_neg q] at hz; rw [hz] at hfin ⊢; exact hfin
          · rw [if_pos (Decidable.not_not.mp q)] at hz; rw [hz] at hfin ⊢; exact hfin
        · have hb := hbg k (by omega)
          have hw1 := hW ((k : Int) - 300) (by omega) (by omega)
          have ih1 := ih (by omega)
          rw [bg_s, show ((k + 1 : Nat) : Int) - 300 = (k : Int) - 300 + 1 by omega] at ih1
          refine wY_begin_32 _ _ _ _ _ _ _ ?_
          rw [w32_id (z := (k : Int) - 300) (by omega) (by omega), w32_id (z := (bg W k).2) (by omega) (by omega)]
          refine ⟨fun q => by omega, fun _ => wat _ _ (by omega) (by omega) ?_⟩
          rw [w32_id (z := W ((k : Int) - 300)) (by omega) (by omega)]
          refine ⟨fun q => ?_, fun q => ?_⟩
          · rw [if_pos q] at ih1; exact ih1
          · rw [if_neg q] at ih1; exact ih1
      refine wat _ _ (by decide) (by decide) ?_
      have k1 := key 1 (by decide) (Nat.le_refl 1)
      have hw0 := hW (((0 : Nat) : Int) - 300) (by decide) (by decide)
      rw [show bg W 1 = (((0 : Nat) : Int) - 300, W (((0 : Nat) : Int) - 300)) from if_pos (show (-1 : Int) < W (((0 : Nat) : Int) - 300) by omega)] at k1
      exact k1
    have cls : ∀ k : Nat, k ≤ 601 → R2 X 4 mC_bestBegin 10 [(0, vr 42), (1, vi (bg W k).1), (2, vi (bg W k).2), (3, vi ((k : Int) - 300))] [] sw m2 (fun z3 sw3 m3 => ((¬ a = 0 → M2 X 3 mC_worthOf [vr 42, vi z3] sw3 m3 (fun z4 sw4 m4 => M2 X 7 mY_begin [vr 84, vi a] sw4 m4 (fun z2 sw2 m2 => QQ z4 z2 sw2 m2))) ∧ (¬ (¬ a = 0) → M2 X 7 mY_begin [vr 84, vi a] sw3 m3 (fun z2 sw2 m2 => QQ z3 z2 sw2 m2)))) := by
      refine downN 601 ?_ (fun k hk ih => ?_)
      · have hb := hbg 601 (Nat.le_refl _)
        refine wC_bestBegin_10 _ _ _ _ _ _ ⟨fun _ => ⟨fun q => worth _ _ hb.1.1 hb.1.2 (mdl _ ?_), fun q => mdl _ ?_⟩, fun q => absurd (by decide) q⟩
        · rw [if_neg q, hb.2.2 (by decide)]
        · rw [if_pos (Decidable.not_not.mp q)]
      · have hb := hbg k (by omega)
        have hw1 := hW ((k : Int) - 300) (by omega) (by omega)
        rw [bg_s, show ((k + 1 : Nat) : Int) - 300 = (k : Int) - 300 + 1 by omega] at ih
        refine wC_bestBegin_10 _ _ _ _ _ _ ?_
        rw [w32_id (z := (k : Int) - 300) (by omega) (by omega), w32_id (z := (bg W k).2) (by omega) (by omega)]
        refine ⟨fun q => by omega, fun _ => worth _ _ (by omega) (by omega) ?_⟩
        rw [w32_id (z := W ((k : Int) - 300)) (by omega) (by omega)]
        refine ⟨fun q => ?_, fun q => ?_⟩
        · rw [if_neg (by omega)] at ih; exact ih
        · rw [if_pos (by omega)] at ih; exact ih
    exact wC_bestBegin _ _ _ (cls 0 (Nat.zero_le _))
  · rw [bz_w, bz_0]
    exact ⟨fun c2 => by omega, fun _ => h _ m hp.same⟩
/-- one part changed -/
def cvx (V : Nat → Int) (how : Int) (p : Nat) : Int × Int := if how = 0 then (144 - (12 - V p) * (12 - V p), (12 - V p) * (12 - V p)) else if how = 1 then (12 - max 0 (12 - V p - 1), max 0 (12 - V p - 1)) else (12, 0)
def co (S : Sh) (V : Nat → Int) (n : Nat) (how : Int) (p : Nat) : Int := ob S (ux (U1 V) p (cvx V how p)) n 541
theorem ob_cg {S : Sh} {U U' : Us} {n : Nat} {K : Int} (h : ∀ s, od U n s = od U' n s) : ob S U n K = ob S U' n K := sm_cg _ (fun s _ => by
  show (if 0 ≤ en S n s ∧ en S n s < K then od U n s else 0) = (if 0 ≤ en S n s ∧ en S n s < K then od U' n s else 0)
  rw [h s])
theorem cvx_b {V : Nat → Int} (hV : Vb V) (how : Int) (p : Nat) : (0 ≤ (cvx V how p).1 ∧ (cvx V how p).1 ≤ 144) ∧ 0 ≤ (cvx V how p).2 ∧ (cvx V how p).2 ≤ 144 := by
  have hv := hV p
  have hs := sq_b (x := 12 - V p) (by omega)
  unfold cvx
  split
  · refine ⟨?_, hs⟩
    show 0 ≤ 144 - (12 - V p) * (12 - V p) ∧ 144 - (12 - V p) * (12 - V p) ≤ 144
    omega
  · split
    · refine ⟨?_, ?_⟩
      · show 0 ≤ 12 - max 0 (12 - V p - 1) ∧ 12 - max 0 (12 - V p - 1) ≤ 144; omega
      · show 0 ≤ max 0 (12 - V p - 1) ∧ max 0 (12 - V p - 1) ≤ 144; omega
    · decide
theorem odx_b {V : Nat → Int} {n s k : Nat} {v : Int × Int} (hV : Vb V) (hn : n ≤ 9) (hk : k < n) (hv : (0 ≤ v.1 ∧ v.1 ≤ 144) ∧ 0 ≤ v.2 ∧ v.2 ≤ 144) : 0 ≤ od (ux (U1 V) k v) n s ∧ od (ux (U1 V) k v) n s ≤ 5159780352 * 144 := by
  have h1 : 0 ≤ od (ux (U1 V) k (1, 1)) n s ∧ od (ux (U1 V) k (1, 1)) n s ≤ 5159780352 := od_9 hn (fun p hp => by
    by_cases c : p = k
    · subst c; rw [ux_at]; exact ⟨⟨by decide, by decide⟩, ⟨by decide, by decide⟩⟩
    · rw [ux_ne c]; exact U1_b hV n p hp)
  rw [od_ux n hk]
  have hf : 0 ≤ (if s.testBit k = true then v.1 else v.2) ∧ (if s.testBit k = true then v.1 else v.2) ≤ 144 := by
    split
    · exact hv.1
    · exact hv.2
  exact ⟨Int.mul_nonneg h1.1 hf.1, Int.mul_le_mul h1.2 hf.2 hf.1 (by decide)⟩
theorem co_b {S : Sh} {V : Nat → Int} {n : Nat} {how : Int} {p : Nat} (hV : Vb V) (hn : n ≤ 9) (hp : p < n) : 0 ≤ co S V n how p ∧ co S V n how p ≤ 512 * (5159780352 * 144) := sm_bN (p9 hn).2 (by decide) (fun s _ => by
  have := odx_b (s := s) (v := cvx V how p) hV hn hp (cvx_b hV how p)
  split
  · exact this
  · omega)
theorem UL_ux {V : Nat → Int} {k : Nat} : UL V (k : Int) = ux (U1 V) k (1, 1) := by
  funext p
  by_cases c : p = k
  · subst c; rw [ux_at]; exact if_pos rfl
  · rw [ux_ne c]; exact if_neg (by omega)
theorem eC_oddsChanged {S : Sh} {V : Nat → Int} {how : Int} {p : Nat} (hn : n ≤ 9) (hV : Vb V) (hT : Tk S n) (hO : TO S V n m) (hP : PO S n m) (h3 : m 2 3 = (n : Int)) (hp : p < n) (hh : how = 0 ∨ how = 1 ∨ how = 2) (h : ∀ m2, (∀ c : Int, ¬ c = 43 → m2 c = m c) → Q (co S V n how p) sw m2) : M2 X 3 mC_oddsChanged [vr 42, vi how, vi (p : Int)] sw m Q := by
  have h2n := p9 (k := n) hn
  have hv := hV p
  have hs := sq_b (x := 12 - V p) (by omega)
  have ofEnd : ∀ v : Int × Int, ob S (ux (U1 V) p v) n 541 = co S V n how p → M2 X 2 mC_oddsOfEnd [vr 42, vi (p : Int), vl v.1, vl v.2] sw m (fun z1 sw1 m1 => Q z1 sw1 m1) := by
    intro v hvv
    refine wC_oddsOfEnd _ _ _ _ _ _ ?_
    rw [h3]
    refine eT_weigh c43 c38 (V := V) (by omega) hn (by omega) (by omega) (by omega) (by omega) (fun q hq => ?_) (fun m1 f1 g1 => ?_)
    · have := hV q
      rw [hO.1 q hq]
      exact ⟨w32_id (by omega) (by omega), this⟩
    · rw [UL_ux] at g1
      have key : ∀ k : Nat, k ≤ 2 ^ n → R2 X 2 mC_oddsOfEnd 28 [(0, vr 42), (1, vi (p : Int)), (2, vl v.1), (4, vl v.2), (6, vl (sm k (fun s => if 0 ≤ en S n s ∧ en S n s < 541 then od (ux (U1 V) p v) n s else 0))), (8, vi (k : Int))] [] sw m1 (fun z1 sw1 m1 => Q z1 sw1 m1) := by
        refine downN (2 ^ n) ?_ (fun k hk ih => ?_)
        · refine wC_oddsOfEnd_28 _ _ _ _ _ _ _ _ ?_
          rw [f1 23 (by omega), hP.1]
          refine ⟨fun _ => ?_, fun c => absurd (Int.le_refl _) c⟩
          have := h m1 f1
          rw [← hvv] at this
          exact this
        · have hb := en_b hT hn k
          have e : sm (k + 1) (fun s => if 0 ≤ en S n s ∧ en S n s < 541 then od (ux (U1 V) p v) n s else 0) = sm k (fun s => if 0 ≤ en S n s ∧ en S n s < 541 then od (ux (U1 V) p v) n s else 0) + (if 0 ≤ en S n k ∧ en S n k < 541 then od (ux (U1 V) p v) n k else 0) := rfl
          rw [e, od_ux n hp] at ih
          refine wC_oddsOfEnd_28 _ _ _ _ _ _ _ _ ?_
          rw [f1 23 (by omega), hP.1, f1 36 (by omega), w32_id (z := ((2 ^ n : Nat) : Int)) (by omega) (by omega), w32_id (z := (k : Int)) (by omega) (by omega), hP.2.2 k hk, w32_id (z := en S n k) (by omega) (by omega), bit_z (by omega) (by omega), g1 k hk, ifw.1]
          refine ⟨fun c => by omega, fun _ => ⟨by omega, fun c => ?_, fun c => ⟨by omega, fun c2 => ?_, fun c2 => ?_⟩⟩⟩
          · rw [if_neg (by omega), Int.add_zero] at ih; exact ih
          · rw [if_pos (by omega), if_neg (by rw [c2]; decide)] at ih; exact ih
          · rw [if_pos (by omega), if_pos (by simpa using c2)] at ih; exact ih
      exact key 0 (Nat.zero_le _)
  refine wC_oddsChanged _ _ _ _ _ ?_
  have em : max 0 (w32 (12 - V p - 1)) = max 0 (12 - V p - 1) := by rw [w32_id (by omega) (by omega)]
  rw [w32_id (z := (p : Int)) (by omega) (by omega), hO.1 p hp, em, w32_id (z := (12 - V p) * (12 - V p)) (by omega) (by omega), w32_id (z := 144 - (12 - V p) * (12 - V p)) (by omega) (by omega), w32_id (z := 12 - max 0 (12 - V p - 1)) (by omega) (by omega), w32_id (z := max 0 (12 - V p - 1)) (by omega) (by omega), w32_id (z := how) (by omega) (by omega)]
  clear em
  refine ⟨by omega, fun c => ⟨fun c2 => ?_, fun c2 => ?_⟩, fun c => ?_⟩
  · exact ofEnd (12, 0) (by unfold co cvx; rw [if_neg c, if_neg c2])
  · exact ofEnd (12 - max 0 (12 - V p - 1), max 0 (12 - V p - 1)) (by unfold co cvx; rw [if_neg c, if_pos (Decidable.not_not.mp c2)])
  · exact ofEnd (144 - (12 - V p) * (12 - V p), (12 - V p) * (12 - V p)) (by unfold co cvx; rw [if_pos (Decidable.not_not.mp c)])
def bc (f : Nat → Int) : Nat → Int × Int
  | 0 => (0, -1)
  | k + 1 => if (bc f k).2 < f k then ((k : Int), f k) else bc f k
theorem bc_s (f : Nat → Int) (k : Nat) : bc f (k + 1) = if (bc f k).2 < f k then ((k : Int), f k) else bc f k := rfl
theorem bc_b {f : Nat → Int} {B : Int} {n : Nat} (hB : 0 ≤ B) (h : ∀ p, p < n → 0 ≤ f p ∧ f p ≤ B) : ∀ k : Nat, k ≤ n → (0 ≤ (bc f k).1 ∧ (bc f k).1 ≤ k) ∧ -1 ≤ (bc f k).2 ∧ (bc f k).2 ≤ B ∧ (1 ≤ k → 0 ≤ (bc f k).2)
  | 0, _ => ⟨⟨Int.le_refl 0, Int.le_refl 0⟩, Int.le_refl _, by show (-1 : Int) ≤ B; omega, fun q => absurd q (by decide)⟩
  | k + 1, hk => by
    have ih := bc_b hB h k (by omega)
    have h1 := h k (by omega)
    rw [bc_s]
    by_cases c : (bc f k).2 < f k
    · rw [if_pos c]
      refine ⟨⟨by show (0 : Int) ≤ (k : Int); omega, by show (k : Int) ≤ ((k + 1 : Nat) : Int); omega⟩, by show -1 ≤ f k; omega, h1.2, fun _ => h1.1⟩
    · rw [if_neg c]
      exact ⟨⟨ih.1.1, by omega⟩, ih.2.1, ih.2.2.1, fun _ => by omega⟩
theorem lY_changedBy {m2 : Mem} {how : Int} {p : Nat} (hp : Pre w sw n m) (f : FrH m m2) (h33 : m2 84 33 = -1) (hpp : p < n) (hh : how = 0 ∨ how = 1 ∨ how = 2) (k : ∀ m3 D V', FrY9 m2 m3 → (D = if how = 0 then (p : Int) else -1) → MO (shp m) V' n D m3 → Q (co (shp m) (VV w m) n how p) sw m3) : M2 X 6 mY_changedBy [vr 84, vi how, vi (p : Int)] sw m2 Q := by
  have h9 := hp.n9
  have hT := hp.tk
  have hV := VV_b w m
  have hv := hV p
  refine wY_changedBy _ _ _ _ _ (hp.lay f h33 (fun m3 f3 hM => ?_))
  rw [w32_id (z := how) (by omega) (by omega), w32_id (z := (p : Int)) (by omega) (by omega), hM.2.1 p hpp]
  have fin : ∀ (x v : Int) (hx : w32 x = v) (hv : 0 ≤ v ∧ v ≤ 12), ¬ how = 0 → cvx (VV w m) how p = (v, 12 - v) → M2 X 3 mY_endsBy [vr 84, vi 999] sw (upm m3 105 (p : Int) x) (fun z2 sw2 m2 => Q z2 sw2 m2) := by
    intro x v hx hv hh0 hcv
    have hV' : Vb (fun q => if q = p then v else VV w m q) := fun q => by
      show 0 ≤ (if q = p then v else VV w m q) ∧ (if q = p then v else VV w m q) ≤ 12
      split
      · exact hv
      · exact hV q
    have hM' : MO (shp m) (fun q => if q = p then v else VV w m q) n (-1) (upm m3 105 (p : Int) x) := by
      refine ⟨hM.1.fr (fun c j q => upm_ne (by omega)), fun q hq => ?_, by rw [upm_row (by omega)]; exact hM.2.2.1, hM.2.2.2⟩
      show w32 (upm m3 105 (p : Int) x 105 (q : Int)) = (if q = p then v else VV w m q)
      rw [upm_at]
      by_cases c : q = p
      · subst c; rw [if_pos rfl, if_pos rfl]; exact hx
      · rw [if_neg (by omega), if_neg c]; exact hM.2.1 q hq
    refine eY_endsBy hM' hV' (M := 999) (by decide) (fun m4 f4 => ?_)
    have fz : FrY9 m3 (upm m3 105 (p : Int) x) := fun c j q1 q2 => upm_ne (by omega)
    have := k m4 (-1) _ (f3.tr (fz.tr f4.y9)) (by rw [if_neg hh0]) (hM'.m2 f4)
    rw [UD_m]
    have e : ob (shp m) (U1 (fun q => if q = p then v else VV w m q)) n (999 + 1) = co (shp m) (VV w m) n how p := by
      rw [ob_top h9 hT (by decide)]
      unfold co
      rw [hcv]
      refine ob_cg (fun s => od_cg n (fun q _ => ?_))
      by_cases c : q = p
      · subst c; rw [ux_at]; show ((if q = q then v else VV w m q), 12 - (if q = q then v else VV w m q)) = _; rw [if_pos rfl]
      · rw [ux_ne c]; show ((if q = p then v else VV w m q), 12 - (if q = p then v else VV w m q)) = (VV w m q, 12 - VV w m q); rw [if_neg c]
    rw [e]; exact this
  refine ⟨fun c => ⟨fun c2 => ⟨by omega, fin 12 12 (by decide) (by decide) c ?_⟩, fun c2 => ⟨by omega, fun c3 => ⟨by omega, fin 12 12 (by decide) (by decide) c ?_⟩, fun c3 => ⟨by omega, by omega, fin _ (VV w m p + 1) ?_ (by omega) c ?_⟩⟩⟩, fun c => ?_⟩
  · unfold cvx; rw [if_neg c, if_neg c2]; rfl
  · unfold cvx; rw [if_neg c, if_pos (Decidable.not_not.mp c2), show max 0 (12 - VV w m p - 1) = 0 by omega]; rfl
  · rw [← w32_add, hM.2.1 p hpp, show w32 1 = 1 by decide]; exact w32_id (by omega) (by omega)
  · unfold cvx; rw [if_neg c, if_pos (Decidable.not_not.mp c2), show max 0 (12 - VV w m p - 1) = 12 - (VV w m p + 1) by omega, show 12 - (12 - (VV w m p + 1)) = VV w m p + 1 by omega]
  · have c := Decidable.not_not.mp c
    have hM' : MO (shp m) (VV w m) n (p : Int) (upm m3 84 33 (p : Int)) := by
      refine ⟨hM.1.fr (fun c j q => upm_ne (by omega)), fun q hq => by rw [upm_row (by omega)]; exact hM.2.1 q hq, by rw [upm_at, if_pos rfl], by omega, by omega⟩
    refine eY_endsBy hM' hV (M := 999) (by decide) (fun m4 f4 => ?_)
    have fz : FrY9 m3 (upm m3 84 33 (p : Int)) := fun c j q1 q2 => upm_ne (by omega)
    have := k m4 (p : Int) _ (f3.tr (fz.tr f4.y9)) (by rw [if_pos c]) (hM'.m2 f4)
    have e : ob (shp m) (UD (VV w m) (p : Int)) n (999 + 1) = co (shp m) (VV w m) n how p := by
      rw [ob_top h9 hT (by decide)]
      unfold co cvx
      rw [if_pos c, UD_ux]
    rw [e]; exact this
theorem pr_change {a b : Int} (ha : w32 a = a) (hb : w32 b = b) (hp : Pre w sw n m) {QQ : Int → Int → Bool → Mem → Prop} (h : ∀ z m', Fin w m m' → QQ z z sw m') : M2 X 7 mZ_change [vr 1, vi a, vi b] sw m (fun z1 sw1 m1 => M2 X 7 mY_change [vr 84, vi a, vi b] sw1 m1 (fun z2 sw2 m2 => QQ z1 z2 sw2 m2)) := by
  have h9 := hp.n9
  have hn := hp.2.1
  have hT := hp.tk
  have hV := VV_b w m
  have hp12 := p12 h9
  have hfb := fun q (hq : q < n) => co_b (S := shp m) (how := a) (p := q) hV h9 hq
  generalize hf : (fun q => co (shp m) (VV w m) n a q) = f
  have hfq : ∀ q, co (shp m) (VV w m) n a q = f q := fun q => by rw [← hf]
  have hbc := bc_b (f := f) (n := n) (B := 512 * (5159780352 * 144)) (by decide) (fun q hq => by rw [← hfq]; exact hfb q hq)
  have hbad : ¬ ((0 ≤ a ∧ a ≤ 2) ∧ (b = 0 ∨ b = 1)) → M2 X 7 mY_change [vr 84, vi a, vi b] sw m (fun z2 sw2 m2 => QQ (-1) z2 sw2 m2) := fun q => by
    refine wY_change _ _ _ _ _ (eY_in ha (by decide) (by decide) ?_)
    rw [bz_w, bz_0]
    refine ⟨fun _ => h _ m hp.same, fun c => eY_in hb (by decide) (by decide) ?_⟩
    rw [bz_w, bz_0]
    exact ⟨fun c2 => by omega, fun _ => h _ m hp.same⟩
  refine wZ_change _ _ _ _ _ ?_
  rw [ha]
  refine ⟨fun c => hbad (by omega), fun c => ⟨fun c2 => hbad (by omega), fun c2 => eZ_isSide hb ?_⟩⟩
  rw [bz_w, bz_0, hb, hn, w32_id (z := (n : Int)) (by omega) (by omega)]
  refine ⟨fun c3 => ?_, fun c3 => hbad (fun q => Decidable.not_not.mp c3 q.2)⟩
  have c3 := Decidable.not_not.mp c3
  -- the model, from a memory that Mid or same holds of
  have mdl : ∀ (z : Int) (m2 : Mem), FrH m m2 → m2 84 33 = -1 → (∀ m3, FrY9 m2 m3 → m3 84 33 = -1 → QQ z z sw m3) → ((n = 0 ∧ z = -2) ∨ (1 ≤ n ∧ z = if b = 0 then (bc f n).1 else zldiv ((bc f n).2 * 1000000) ((if a = 0 then 12 else 1) * 12 ^ n))) → M2 X 7 mY_change [vr 84, vi a, vi b] sw m2 (fun z2 sw2 m2 => QQ z z2 sw2 m2) := by
    intro z m2 fH h33 hq hz
    refine wY_change _ _ _ _ _ (eY_in ha (by decide) (by decide) ?_)
    rw [bz_w, bz_0]
    refine ⟨fun q => by omega, fun _ => eY_in hb (by decide) (by decide) ?_⟩
    rw [bz_w, bz_0]
    refine ⟨fun _ => ?_, fun q => by omega⟩
    have key : ∀ k : Nat, k ≤ n → ∀ (x3 x4 x6 : Int) (m3 : Mem), FrY9 m2 m3 → m3 84 33 = -1 → ((k = 0 ∧ x3 = -2 ∧ x4 = 0 ∧ x6 = -2) ∨ (1 ≤ k ∧ x3 = (bc f k).1 ∧ x4 = (bc f k).2 ∧ x6 = zldiv ((bc f k).2 * 1000000) ((if a = 0 then 12 else 1) * 12 ^ n))) → R2 X 7 mY_change 33 [(0, vr 84), (1, vi a), (2, vi b), (3, vi x3), (4, vl x4), (6, vi x6), (7, vi (k : Int))] [] sw m3 (fun z2 sw2 m2 => QQ z z2 sw2 m2) := by
      refine downN n (fun x3 x4 x6 m3 f3 e33 hx => ?_) (fun k hk ih x3 x4 x6 m3 f3 e33 hx => ?_)
      · refine wY_change_33 _ _ _ _ _ _ _ _ _ ?_
        rw [hp.y1 (fH.tr f3.h), hb]
        have hfin := hq m3 f3 e33
        refine ⟨fun _ => ⟨fun q => ?_, fun q => ?_⟩, fun q => absurd (Int.le_refl _) q⟩
        · have e : x6 = z := by
            rcases hx with ⟨h1, h2, h3, h4⟩ | ⟨h1, h2, h3, h4⟩ <;> rcases hz with ⟨g1, g2⟩ | ⟨g1, g2⟩
            · rw [h4, g2]
            · omega
            · omega
            · rw [h4, g2, if_neg q]
          rw [e]; exact hfin
        · have q := Decidable.not_not.mp q
          have e : x3 = z := by
            rcases hx with ⟨h1, h2, h3, h4⟩ | ⟨h1, h2, h3, h4⟩ <;> rcases hz with ⟨g1, g2⟩ | ⟨g1, g2⟩
            · rw [h2, g2]
            · omega
            · omega
            · rw [h2, g2, if_pos q]
          rw [e]; exact hfin
      · have hbk := hbc k (by omega)
        have hfk := hfb k hk
        rw [hfq] at hfk
        refine wY_change_33 _ _ _ _ _ _ _ _ _ ?_
        rw [hp.y1 (fH.tr f3.h), w32_id (z := (n : Int)) (by omega) (by omega), w32_id (z := (k : Int)) (by omega) (by omega)]
        refine ⟨fun q => by omega, fun _ => lY_changedBy hp (fH.tr f3.h) e33 hk (by omega) (fun m4 D V' f4 hD hM4 => eY_whole hM4 ?_)⟩
        have hW : (if 0 ≤ D then (12 : Int) else 1) * 12 ^ n = (if a = 0 then 12 else 1) * 12 ^ n := by
          rw [hD]
          by_cases ca : a = 0
          · rw [if_pos ca, if_pos ca, if_pos (by omega)]
          · rw [if_neg ca, if_neg ca, if_neg (by decide)]
        have hWb : ¬ w64 ((if a = 0 then (12 : Int) else 1) * 12 ^ n) = 0 := by
          split
          · rw [w64_id (by omega) (by omega)]; omega
          · rw [w64_id (by omega) (by omega)]; omega
        rw [hW, hfq, w64_id (z := f k) (by omega) (by omega)]
        have nw := ih (k : Int) (f k) (zldiv (f k * 1000000) ((if a = 0 then 12 else 1) * 12 ^ n)) (upm m4 84 33 (-1)) (f3.tr (f4.tr (fun c j q1 q2 => upm_ne (by omega)))) (by rw [upm_at, if_pos rfl])
        have old := ih x3 x4 x6 (upm m4 84 33 (-1)) (f3.tr (f4.tr (fun c j q1 q2 => upm_ne (by omega)))) (by rw [upm_at, if_pos rfl])
        rw [bc_s] at nw old
        rcases hx with ⟨h1, h2, h3, h4⟩ | ⟨h1, h2, h3, h4⟩
        · rw [h2, show w32 (-2) = -2 by decide]
          refine ⟨fun _ => ⟨hWb, nw (Or.inr ?_)⟩, fun q => absurd (by decide) q⟩
          have e : (bc f k).2 < f k := by rw [h1]; show (-1 : Int) < f 0; rw [h1] at hfk; omega
          rw [if_pos e]
          exact ⟨by omega, rfl, rfl, rfl⟩
        · rw [h2, w32_id (z := (bc f k).1) (by omega) (by omega)]
          refine ⟨fun q => by omega, fun _ => ?_⟩
          rw [h3, w64_id (z := (bc f k).2) (by omega) (by omega)]
          refine ⟨fun q => ⟨hWb, nw (Or.inr ?_)⟩, fun q => ?_⟩
          · rw [if_pos q]; exact ⟨by omega, rfl, rfl, rfl⟩
          · rw [h2, h3] at old
            refine old (Or.inr ?_)
            rw [if_neg q]; exact ⟨by omega, rfl, rfl, h4⟩
    exact key 0 (Nat.zero_le _) (-2) 0 (-2) m2 (FrY9.rf m2) h33 (Or.inl ⟨rfl, rfl, rfl, rfl⟩)
  refine ⟨fun c4 => hp.think (fun m2 hm => ?_), fun c4 => mdl _ m (FrH.rf m) hp.2.2.2.2.2 (fun m3 f3 e33 => h _ m3 ?_) (Or.inl ⟨by omega, rfl⟩)⟩
  · have cls : ∀ (fl : Int) (hfl : (fl = 0 ∧ ¬ b = 0) ∨ (fl = 1 ∧ b = 0)), ∀ k : Nat, k ≤ n → ∀ m3, FrX m2 m3 → R2 X 4 mC_bestChange 10 [(0, vr 42), (1, vi a), (2, vi fl), (3, vi (bc f k).1), (4, vl (bc f k).2), (6, vi (k : Int))] [] sw m3 (fun z3 sw3 m3 => M2 X 7 mY_change [vr 84, vi a, vi b] sw3 m3 (fun z2 sw2 m2 => QQ z3 z2 sw2 m2)) := by
      intro fl hfl
      refine downN n (fun m3 f3 => ?_) (fun k hk ih m3 f3 => ?_)
      · have hm3 := hm.fx f3 hn h9
        have e23 : m3 2 3 = (n : Int) := by rw [hm3.1 2 3 (Or.inl rfl)]; exact hn
        have fin : ∀ z : Int, z = (if b = 0 then (bc f n).1 else zldiv ((bc f n).2 * 1000000) ((if a = 0 then 12 else 1) * 12 ^ n)) → M2 X 7 mY_change [vr 84, vi a, vi b] sw m3 (fun z2 sw2 m2 => QQ z z2 sw2 m2) := fun z hz => mdl z m3 hm3.1 hm3.2.2.2.2.2 (fun m4 f4 e33 => h z m4 (hm3.fin hn h9 f4 e33)) (Or.inr ⟨by omega, hz⟩)
        refine wC_bestChange_10 _ _ _ _ _ _ _ _ ?_
        rw [e23, ha, hm3.2.1.2.2.1]
        refine ⟨fun _ => ⟨fun ca => ⟨fun cf => eZ_cut ?_ (fin _ ?_), fun cf => fin _ ?_⟩, fun ca => ⟨fun cf => eZ_cut ?_ (fin _ ?_), fun cf => fin _ ?_⟩⟩, fun q => absurd (Int.le_refl _) q⟩
        · rw [w64_id (by omega) (by omega)]; omega
        · rcases hfl with hfl | hfl
          · rw [if_neg hfl.2, if_neg ca, Int.one_mul]
          · rw [hfl.1] at cf; exact absurd cf (by decide)
        · rcases hfl with hfl | hfl
          · rw [hfl.1] at cf; exact absurd (by decide) cf
          · rw [if_pos hfl.2]
        · rw [w64_id (by omega) (by omega)]; omega
        · rcases hfl with hfl | hfl
          · rw [if_neg hfl.2, if_pos (Decidable.not_not.mp ca), Int.mul_comm 12]
          · rw [hfl.1] at cf; exact absurd cf (by decide)
        · rcases hfl with hfl | hfl
          · rw [hfl.1] at cf; exact absurd (by decide) cf
          · rw [if_pos hfl.2]
      · have hm3 := hm.fx f3 hn h9
        have e23 : m3 2 3 = (n : Int) := by rw [hm3.1 2 3 (Or.inl rfl)]; exact hn
        have hbk := hbc k (by omega)
        have hfk := hfb k hk
        rw [hfq] at hfk
        refine wC_bestChange_10 _ _ _ _ _ _ _ _ ?_
        rw [e23, w32_id (z := (n : Int)) (by omega) (by omega), w32_id (z := (k : Int)) (by omega) (by omega)]
        refine ⟨fun q => by omega, fun _ => eC_oddsChanged h9 hV hT hm3.2.1 hm3.2.2.1 e23 hk (by omega) (fun m4 f4 => ?_)⟩
        rw [hfq, w64_id (z := f k) (by omega) (by omega), w64_id (z := (bc f k).2) (by omega) (by omega)]
        have ih' := ih m4 (f3.tr (fun c j q => by rw [f4 c (by omega)]))
        rw [bc_s] at ih'
        refine ⟨fun q => ?_, fun q => ?_⟩
        · rw [if_neg (by omega)] at ih'; exact ih'
        · rw [if_pos (by omega)] at ih'; exact ih'
    refine ⟨fun cb => wC_bestChange _ _ _ _ _ (cls 0 (Or.inl ⟨rfl, cb⟩) 0 (Nat.zero_le _) m2 (FrX.rf m2)), fun cb => wC_bestChange _ _ _ _ _ (cls 1 (Or.inr ⟨rfl, Decidable.not_not.mp cb⟩) 0 (Nat.zero_le _) m2 (FrX.rf m2))⟩
  · have e : (m 2 3).toNat ≤ 9 := by omega
    exact ⟨hp.2.2.1.y9 f3 e, hp.2.2.2.2.1.y9 f3 e, e33, f3.h⟩
end WO
