/-! drawn, fire, judge in pairs -/
def ds (V : Nat → Int) : Nat → Nat → Int → Nat → Int × Nat
  | 0, _, z, s => (z, s)
  | f + 1, p, z, s => ds V f (p + 1) (z * 1103515245 + 12345) (if V p ≤ w32 (zrem (zushr (z * 1103515245 + 12345) 8) 12) then s else s ||| 2 ^ p)
theorem ds_lt {V : Nat → Int} {n : Nat} : ∀ (f p : Nat) (z : Int) (s : Nat), p + f ≤ n → s < 2 ^ n → (ds V f p z s).2 < 2 ^ n
  | 0, _, _, _, _, h => h
  | f + 1, p, z, s, h1, h2 => by
    refine ds_lt f (p + 1) _ _ (by omega) ?_
    split
    · exact h2
    · exact Nat.or_lt_two_pow h2 (Nat.pow_lt_pow_right (by decide) (by omega))
def dr (S : Sh) (V : Nat → Int) (n : Nat) : Nat → Int → Int → Int → Int × Int
  | 0, _, e, t => (e, t)
  | r + 1, z, e, t => if en S n (ds V n 0 z 0).2 = -1 then dr S V n r (ds V n 0 z 0).1 e t else dr S V n r (ds V n 0 z 0).1 (e + 1) (t + en S n (ds V n 0 z 0).2)
def bu (S : Sh) (n B C s : Nat) : Prop := (go S s n).testBit B = true ∧ (go S s n).testBit C = false
theorem bu_d (S : Sh) (n B C s : Nat) : bu S n B C s ∨ ¬ bu S n B C s := Classical.em _
section DW
variable {X : Cx} {sw : Bool} {m : Mem} {Q : Int → Bool → Mem → Prop} {w : Option (List Ln)} {n : Nat}
theorem eC_draw {S : Sh} {V : Nat → Int} {a b c : Int} (hn : n ≤ 9) (hV : Vb V) (hT : Tk S n) (hO : TO S V n m) (hP : PO S n m) (h3 : m 2 3 = (n : Int)) (hb : 1 ≤ b ∧ b ≤ 50) (hc : c = 0 ∨ c = 1) (h : Q (if c = 0 then (dr S V n b.toNat a 0 0).2 else (dr S V n b.toNat a 0 0).1) sw m) : M2 X 1 mC_draw [vr 42, vi a, vi b, vi c] sw m Q := by
  have h2n := p9 (k := n) hn
  obtain ⟨N, rfl⟩ : ∃ N : Nat, b = (N : Int) := ⟨b.toNat, by omega⟩
  rw [Int.toNat_natCast] at h
  have outer : ∀ k : Nat, k ≤ N → ∀ z e t : Int, Q (if c = 0 then (dr S V n (N - k) z e t).2 else (dr S V n (N - k) z e t).1) sw m → R2 X 1 mC_draw 12 [(0, vr 42), (2, vi (N : Int)), (3, vi c), (4, vi z), (5, vi e), (6, vi t), (7, vi (k : Int))] [] sw m Q := by
    refine downN N (fun z e t h => ?_) (fun k hk ih z e t h => ?_)
    · rw [Nat.sub_self] at h
      refine wC_draw_12 _ _ _ _ _ _ _ _ _ ⟨fun _ => ?_, fun q => absurd (Int.le_refl _) q⟩
      rcases hc with rfl | rfl
      · exact ⟨fun _ => h, fun q => absurd (by decide) q⟩
      · exact ⟨fun q => absurd q (by decide), fun _ => h⟩
    · rw [show N - k = (N - (k + 1)) + 1 by omega] at h
      unfold dr at h
      generalize hR : ds V n 0 z 0 = R at h
      refine wC_draw_12 _ _ _ _ _ _ _ _ _ ?_
      rw [w32_id (z := (N : Int)) (by omega) (by omega), w32_id (z := (k : Int)) (by omega) (by omega)]
      refine ⟨fun q => by omega, fun _ => ?_⟩
      have inner : ∀ p : Nat, p ≤ n → ∀ (zz : Int) (s : Nat), s < 2 ^ n → ds V (n - p) p zz s = R → R2 X 1 mC_draw 24 [(0, vr 42), (2, vi (N : Int)), (3, vi c), (4, vi zz), (5, vi e), (6, vi t), (7, vi (k : Int)), (8, vi (s : Int)), (9, vi (p : Int))] [] sw m Q := by
        refine downN n (fun zz s hs hd => ?_) (fun p hp ihp zz s hs hd => ?_)
        · rw [Nat.sub_self] at hd
          have hd : (zz, s) = R := hd
          rw [← hd] at h
          dsimp only at h
          have hb := en_b hT hn s
          refine wC_draw_24 _ _ _ _ _ _ _ _ _ _ _ ?_
          rw [h3, w32_id (z := (s : Int)) (by omega) (by omega), hP.2.2 s hs, w32_id (z := en S n s) (by omega) (by omega)]
          refine ⟨fun _ => ⟨by omega, fun q => ?_, fun q => ⟨by omega, ?_⟩⟩, fun q => absurd (Int.le_refl _) q⟩
          · rw [if_pos q] at h; exact ih _ _ _ h
          · rw [if_neg q] at h; exact ih _ _ _ h
        · rw [show n - p = (n - (p + 1)) + 1 by omega] at hd
          unfold ds at hd
          have hv := hV p
          have hpw : 2 ^ p < 2 ^ n := Nat.pow_lt_pow_right (by decide) hp
          refine wC_draw_24 _ _ _ _ _ _ _ _ _ _ _ ?_
          rw [h3, w32_id (z := (n : Int)) (by omega) (by omega), w32_id (z := (p : Int)) (by omega) (by omega), hO.1 p hp, w32_id (z := V p) (by omega) (by omega), zshl_one (by omega), zor_nat (by omega) (by omega)]
          refine ⟨fun q => by omega, fun _ => ⟨by omega, fun q => ?_, fun q => ?_⟩⟩
          · rw [if_pos q] at hd; exact ihp _ _ hs hd
          · rw [if_neg q] at hd; exact ihp _ _ (Nat.or_lt_two_pow hs hpw) hd
      exact inner 0 (Nat.zero_le _) z 0 (by omega) hR
  exact wC_draw _ _ _ _ _ _ (outer 0 (Nat.zero_le _) a 0 0 h)
theorem lY_draw {S : Sh} {V : Nat → Int} {a b c : Int} (hV : Vb V) (hM : MO S V n (-1) m) (hb : 1 ≤ b ∧ b ≤ 50) (hc : c = 0 ∨ c = 1) (h : ∀ m2, FrM2 m m2 → Q (if c = 0 then (dr S V n b.toNat a 0 0).1 else (dr S V n b.toNat a 0 0).2) sw m2) : R2 X 6 mY_drawn 37 [(0, vr 84), (2, vi b), (3, vi c), (4, vi a), (5, vi 0), (6, vi 0), (7, vi 0)] [] sw m Q := by
  have hn := hM.1.2.1
  have hT := hM.1.tk
  have h2n := p9 (k := n) hn
  obtain ⟨N, rfl⟩ : ∃ N : Nat, b = (N : Int) := ⟨b.toNat, by omega⟩
  rw [Int.toNat_natCast] at h
  have outer : ∀ k : Nat, k ≤ N → ∀ (z e t : Int) (m1 : Mem), FrM2 m m1 → (∀ m2, FrM2 m m2 → Q (if c = 0 then (dr S V n (N - k) z e t).1 else (dr S V n (N - k) z e t).2) sw m2) → R2 X 6 mY_drawn 37 [(0, vr 84), (2, vi (N : Int)), (3, vi c), (4, vi z), (5, vi e), (6, vi t), (7, vi (k : Int))] [] sw m1 Q := by
    refine downN N (fun z e t m1 hF h => ?_) (fun k hk ih z e t m1 hF h => ?_)
    · rw [Nat.sub_self] at h
      have h' := h m1 hF
      refine wY_drawn_37 _ _ _ _ _ _ _ _ _ ⟨fun _ => ?_, fun q => absurd (Int.le_refl _) q⟩
      rcases hc with rfl | rfl
      · exact ⟨fun q => absurd (by decide) q, fun _ => h'⟩
      · exact ⟨fun _ => h', fun q => absurd (by decide) q⟩
    · rw [show N - k = (N - (k + 1)) + 1 by omega] at h
      unfold dr at h
      generalize hR : ds V n 0 z 0 = R at h
      refine wY_drawn_37 _ _ _ _ _ _ _ _ _ ?_
      rw [w32_id (z := (N : Int)) (by omega) (by omega), w32_id (z := (k : Int)) (by omega) (by omega)]
      refine ⟨fun q => by omega, fun _ => ?_⟩
      have hM1 := hM.m2 hF
      have inner : ∀ p : Nat, p ≤ n → ∀ (zz : Int) (s : Nat), s < 2 ^ n → ds V (n - p) p zz s = R → R2 X 6 mY_drawn 49 [(0, vr 84), (2, vi (N : Int)), (3, vi c), (4, vi zz), (5, vi e), (6, vi t), (7, vi (k : Int)), (8, vi (s : Int)), (9, vi (p : Int))] [] sw m1 Q := by
        refine downN n (fun zz s hs hd => ?_) (fun p hp ihp zz s hs hd => ?_)
        · rw [Nat.sub_self] at hd
          have hd : (zz, s) = R := hd
          rw [← hd] at h
          dsimp only at h
          have hb := en_b hT hn s
          refine wY_drawn_49 _ _ _ _ _ _ _ _ _ _ _ ?_
          rw [hM1.1.1]
          refine ⟨fun _ => eY_goMorning hM1.1 (by omega) (fun m2 f2 y2 => ?_), fun q => absurd (Int.le_refl _) q⟩
          have hM2 := hM1.m2 f2
          refine eY_endNow hM2.1.1 hn y2 ?_
          rw [w32_id (z := en S n s) (by omega) (by omega)]
          refine ⟨fun q => eY_endNow hM2.1.1 hn y2 (ih _ _ _ m2 (hF.tr f2) (fun m3 f3 => ?_)), fun q => ih _ _ _ m2 (hF.tr f2) (fun m3 f3 => ?_)⟩
          · have := h m3 f3
            rw [if_neg (show ¬ en S n s = -1 by omega)] at this; exact this
          · have := h m3 f3
            rw [if_pos (show en S n s = -1 by omega)] at this; exact this
        · rw [show n - p = (n - (p + 1)) + 1 by omega] at hd
          unfold ds at hd
          have hpw : 2 ^ p < 2 ^ n := Nat.pow_lt_pow_right (by decide) hp
          refine wY_drawn_49 _ _ _ _ _ _ _ _ _ _ _ ?_
          rw [hM1.1.1, w32_id (z := (n : Int)) (by omega) (by omega), w32_id (z := (p : Int)) (by omega) (by omega), hM1.2.1 p hp, zshl_one (by omega), zor_nat (by omega) (by omega)]
          refine ⟨fun q => by omega, fun _ => ⟨by omega, fun q => ?_, fun q => ?_⟩⟩
          · rw [if_pos q] at hd; exact ihp _ _ hs hd
          · rw [if_neg q] at hd; exact ihp _ _ (Nat.or_lt_two_pow hs hpw) hd
      exact inner 0 (Nat.zero_le _) z 0 (by omega) hR
  exact outer 0 (Nat.zero_le _) a 0 0 m (FrM2.rf m) h
theorem pr_drawn {a b c : Int} (hb : w32 b = b) (hc : w32 c = c) (hp : Pre w sw n m) {QQ : Int → Int → Bool → Mem → Prop} (h : ∀ z m', Fin w m m' → QQ z z sw m') : M2 X 7 mZ_drawn [vr 1, vi a, vi b, vi c] sw m (fun z1 sw1 m1 => M2 X 6 mY_drawn [vr 84, vi a, vi b, vi c] sw1 m1 (fun z2 sw2 m2 => QQ z1 z2 sw2 m2)) := by
  have h9 := hp.n9
  have hn := hp.2.1
  have hT := hp.tk
  have hV := VV_b w m
  have hbad : ¬ ((1 ≤ b ∧ b ≤ 50) ∧ (c = 0 ∨ c = 1)) → M2 X 6 mY_drawn [vr 84, vi a, vi b, vi c] sw m (fun z2 sw2 m2 => QQ (-1) z2 sw2 m2) := fun q => by
    refine wY_drawn _ _ _ _ _ _ (eY_in hb (by decide) (by decide) ?_)
    rw [bz_w, bz_0]
    refine ⟨fun _ => h _ m hp.same, fun c => eY_in hc (by decide) (by decide) ?_⟩
    rw [bz_w, bz_0]
    exact ⟨fun c2 => by omega, fun _ => h _ m hp.same⟩
  have good : (1 ≤ b ∧ b ≤ 50) → (c = 0 ∨ c = 1) → ∀ (z : Int) (m2 : Mem), Mid w (shp m) (VV w m) sw n m m2 → z = (if c = 0 then (dr (shp m) (VV w m) n b.toNat a 0 0).1 else (dr (shp m) (VV w m) n b.toNat a 0 0).2) → M2 X 6 mY_drawn [vr 84, vi a, vi b, vi c] sw m2 (fun z2 sw2 m2 => QQ z z2 sw2 m2) := by
    intro q1 q2 z m2 hm hz
    refine wY_drawn _ _ _ _ _ _ (eY_in hb (by decide) (by decide) ?_)
    rw [bz_w, bz_0]
    refine ⟨fun c => absurd q1 c, fun _ => eY_in hc (by decide) (by decide) ?_⟩
    rw [bz_w, bz_0]
    refine ⟨fun _ => hp.lay hm.1 hm.2.2.2.2.2 (fun m3 f3 hM => lY_draw hV hM q1 q2 (fun m4 f4 => ?_)), fun c => by omega⟩
    rw [← hz]
    exact h z m4 (hm.fin hn h9 (f3.tr f4.y9) (by rw [(hM.m2 f4).2.2.1]))
  refine wZ_drawn _ _ _ _ _ _ ?_
  rw [hb]
  refine ⟨fun c1 => hbad (by omega), fun c1 => ⟨fun c2 => hbad (by omega), fun c2 => eZ_isSide hc ?_⟩⟩
  rw [bz_w, bz_0, hc]
  refine ⟨fun c3 => hp.think (fun m2 hm => ?_), fun c3 => hbad (fun q => Decidable.not_not.mp c3 q.2)⟩
  have e3 : m2 2 3 = (n : Int) := by rw [hm.1 2 3 (Or.inl rfl)]; exact hn
  refine ⟨fun cb => eC_draw h9 hV hT hm.2.1 hm.2.2.1 e3 (by omega) (Or.inl rfl) (good (by omega) (Decidable.not_not.mp c3) _ m2 hm (by rw [if_neg cb, if_pos rfl])), fun cb => eC_draw h9 hV hT hm.2.1 hm.2.2.1 e3 (by omega) (Or.inr rfl) (good (by omega) (Decidable.not_not.mp c3) _ m2 hm (by rw [if_pos (Decidable.not_not.mp cb), if_neg (by decide)]))⟩
theorem ifd {B : Bool} : (¬ (if B = true then (1 : Int) else 0) = 1 ↔ B = false) ∧ (¬ (if B = true then (1 : Int) else 0) = 0 ↔ B = true) := by
  cases B <;> decide
theorem eC_burns {g B C : Nat} (hg : g < 512) (hB : m 15 0 = (B : Int)) (hC : m 16 0 = (C : Int)) (hb : B ≤ 8 ∧ C ≤ 8) (h1 : g.testBit B = true ∧ g.testBit C = false → Q 1 sw m) (h0 : ¬ (g.testBit B = true ∧ g.testBit C = false) → Q 0 sw m) : M2 X 3 mC_burns [vr 2, vi (g : Int)] sw m Q := by
  refine wC_burns _ _ _ _ (eK_told (by decide) (by decide) (eK_told (by decide) (by decide) ?_))
  rw [show m (4 + 11) 0 = m 15 0 from rfl, show m (4 + 12) 0 = m 16 0 from rfl, hB, hC, bit_z (by omega) (by omega), bit_z (by omega) (by omega)]
  cases e1 : g.testBit B <;> cases e2 : g.testBit C <;> rw [e1, e2] at h1 h0
  · exact ⟨fun _ => h0 (by decide), fun q => absurd (by decide) q⟩
  · exact ⟨fun _ => h0 (by decide), fun q => absurd (by decide) q⟩
  · exact ⟨fun q => absurd (by decide) q, fun _ => ⟨fun q => absurd (by decide) q, fun _ => h1 (by decide)⟩⟩
  · exact ⟨fun q => absurd (by decide) q, fun _ => ⟨fun _ => h0 (by decide), fun q => absurd (by decide) q⟩⟩
theorem eY_burnsNow {g B C : Nat} (hg : g < 512) (hg1 : m 84 31 = (g : Int)) (hB : m 91 5 = (B : Int)) (hC : m 91 6 = (C : Int)) (hb : B ≤ 8 ∧ C ≤ 8) (h1 : g.testBit B = true ∧ g.testBit C = false → Q 1 sw m) (h0 : ¬ (g.testBit B = true ∧ g.testBit C = false) → Q 0 sw m) : M2 X 1 mY_burnsNow [vr 84] sw m Q := by
  refine wY_burnsNow _ _ _ ?_
  rw [hg1, hB, hC, bit_z (by omega) (by omega), bit_z (by omega) (by omega)]
  cases e1 : g.testBit B <;> cases e2 : g.testBit C <;> rw [e1, e2] at h1 h0
  · exact ⟨fun _ => h0 (by decide), fun q => absurd (by decide) q⟩
  · exact ⟨fun _ => h0 (by decide), fun q => absurd (by decide) q⟩
  · exact ⟨fun q => absurd (by decide) q, fun _ => ⟨fun q => absurd (by decide) q, fun _ => h1 (by decide)⟩⟩
  · exact ⟨fun q => absurd (by decide) q, fun _ => ⟨fun _ => h0 (by decide), fun q => absurd (by decide) q⟩⟩
/-- odds of fire -/
def bf (S : Sh) (n B C s : Nat) : Bool := (go S s n).testBit B && !(go S s n).testBit C
theorem bf_t {S : Sh} {n B C s : Nat} : bf S n B C s = true ↔ ((go S s n).testBit B = true ∧ (go S s n).testBit C = false) := by
  unfold bf
  cases (go S s n).testBit B <;> cases (go S s n).testBit C <;> decide
theorem pr_fire {a : Int} (ha : w32 a = a) (hp : Pre w sw n m) {QQ : Int → Int → Bool → Mem → Prop} (h : ∀ z m', Fin w m m' → QQ z z sw m') : M2 X 7 mZ_fire [vr 1, vi a] sw m (fun z1 sw1 m1 => M2 X 6 mY_fire [vr 84, vi a] sw1 m1 (fun z2 sw2 m2 => QQ z1 z2 sw2 m2)) := by
  have h9 := hp.n9
  have hn := hp.2.1
  have h2n := p9 (k := n) h9
  have hT := hp.tk
  have hV := VV_b w m
  have hU := U1_b hV n
  have h12 := q12 h9
  have hkt := hp.1.kt
  obtain ⟨B, hB⟩ : ∃ B : Nat, m 15 0 = (B : Int) := ⟨(m 15 0).toNat, by omega⟩
  obtain ⟨C, hC⟩ : ∃ C : Nat, m 16 0 = (C : Int) := ⟨(m 16 0).toNat, by omega⟩
  have hBC : B ≤ 8 ∧ C ≤ 8 := by omega
  have hsum := sm_bN (f := fun s => if bf (shp m) n B C s = true then od (U1 (VV w m)) n s else 0) h2n.2 (B := 5159780352) (by decide) (fun s _ => by
    have := od_9 (s := s) h9 hU
    split
    · exact this
    · omega)
  refine wZ_fire _ _ _ _ (eZ_isSide ha ?_)
  rw [bz_w, bz_0]
  refine ⟨fun c => ?_, fun c => wY_fire _ _ _ _ (eY_in ha (by decide) (by decide) ?_)⟩
  · have c := Decidable.not_not.mp c
    refine hp.think (fun m2 hm => ?_)
    generalize hz : lw (sm (2 ^ n) (fun s => if bf (shp m) n B C s = true then od (U1 (VV w m)) n s else 0)) (12 ^ n) a = z
    have e15 : m2 15 0 = (B : Int) := by rw [hm.1 15 0 (by unfold HK; omega)]; exact hB
    have e16 : m2 16 0 = (C : Int) := by rw [hm.1 16 0 (by unfold HK; omega)]; exact hC
    have hO := hm.2.1
    have hP := hm.2.2.1
    have cls : ∀ k : Nat, k ≤ 2 ^ n → R2 X 4 mC_oddsOfFire 4 [(0, vr 42), (1, vl (sm k (fun s => if bf (shp m) n B C s = true then od (U1 (VV w m)) n s else 0))), (3, vi (k : Int))] [] sw m2 (fun z3 sw3 m3 => M2 X 2 mZ_side [vl z3, vl (m3 37 7), vi a] sw3 m3 (fun z4 sw4 m4 => M2 X 6 mY_fire [vr 84, vi a] sw4 m4 (fun z2 sw2 m2 => QQ z4 z2 sw2 m2))) := by
      refine downN (2 ^ n) ?_ (fun k hk ih => ?_)
      · refine wC_oddsOfFire_4 _ _ _ _ _ ?_
        rw [hP.1]
        refine ⟨fun _ => ?_, fun q => absurd (Int.le_refl _) q⟩
        rw [hO.2.2.1]
        refine eZ_side (by omega) (by omega) (fun q => by omega) c ?_
        rw [hz]
        refine wY_fire _ _ _ _ (eY_in ha (by decide) (by decide) ?_)
        rw [bz_w, bz_0]
        refine ⟨fun _ => hp.lay hm.1 hm.2.2.2.2.2 (fun m3 f3 hM => ?_), fun c2 => by omega⟩
        have key : ∀ k : Nat, k ≤ 2 ^ n → ∀ m4, FrM2 m3 m4 → R2 X 6 mY_fire 22 [(0, vr 84), (1, vi a), (2, vl (sm k (fun s => if bf (shp m) n B C s = true then od (U1 (VV w m)) n s else 0))), (4, vi (k : Int))] [] sw m4 (fun z2 sw2 m2 => QQ z z2 sw2 m2) := by
          refine downN (2 ^ n) (fun m4 hF => ?_) (fun k hk ih m4 hF => ?_)
          · have hM1 := hM.m2 hF
            refine wY_fire_22 _ _ _ _ _ _ (eY_sets hM1.1.1 h9 ⟨fun _ => eY_whole hM1 ?_, fun q => absurd (Int.le_refl _) q⟩)
            rw [if_neg (by decide), Int.one_mul]
            refine eY_lowest (by omega) (by omega) c ?_
            rw [hz]
            exact h z m4 (hm.fin hn h9 (f3.tr hF.y9) (by rw [hM1.2.2.1]))
          · have hM1 := hM.m2 hF
            have e : sm (k + 1) (fun s => if bf (shp m) n B C s = true then od (U1 (VV w m)) n s else 0) = sm k (fun s => if bf (shp m) n B C s = true then od (U1 (VV w m)) n s else 0) + (if bf (shp m) n B C k = true then od (U1 (VV w m)) n k else 0) := rfl
            rw [e] at ih
            refine wY_fire_22 _ _ _ _ _ _ (eY_sets hM1.1.1 h9 ?_)
            rw [w32_id (z := ((2 ^ n : Nat) : Int)) (by omega) (by omega), w32_id (z := (k : Int)) (by omega) (by omega)]
            refine ⟨fun c => by omega, fun _ => eY_goMorning hM1.1 (by omega) (fun m5 f5 y5 => ?_)⟩
            have hM2 := hM1.m2 f5
            have hgl := go_lt (shp m) k n
            have e91 : ∀ j, m5 91 j = m 91 j := fun j => by
              rw [f5 91 j (by omega) (by omega), hF 91 j (by omega) (by omega), f3 91 j (by omega) (by omega)]
              exact hm.1 91 j (by unfold HK; omega)
            refine eY_burnsNow (g := go (shp m) k n) (B := B) (C := C) (by omega) y5.2.1 (by rw [e91]; omega) (by rw [e91]; omega) hBC (fun q => ⟨fun q2 => absurd q2 (by decide), fun _ => eY_oddsOf hM2 hV (by omega) ?_⟩) (fun q => ⟨fun _ => ?_, fun q2 => absurd (by decide) q2⟩)
            · rw [UD_m]
              have := ih m5 (hF.tr f5)
              rw [if_pos (bf_t.mpr q)] at this
              exact this
            · have := ih m5 (hF.tr f5)
              rw [if_neg (fun q2 => q (bf_t.mp q2)), Int.add_zero] at this
              exact this
        exact key 0 (Nat.zero_le _) m3 (FrM2.rf m3)
      · have e : sm (k + 1) (fun s => if bf (shp m) n B C s = true then od (U1 (VV w m)) n s else 0) = sm k (fun s => if bf (shp m) n B C s = true then od (U1 (VV w m)) n s else 0) + (if bf (shp m) n B C k = true then od (U1 (VV w m)) n k else 0) := rfl
        rw [e] at ih
        have hgl := go_lt (shp m) k n
        refine wC_oddsOfFire_4 _ _ _ _ _ ?_
        rw [hP.1, w32_id (z := ((2 ^ n : Nat) : Int)) (by omega) (by omega), w32_id (z := (k : Int)) (by omega) (by omega), (hP.2.1.2 k hk).1]
        refine ⟨fun c => by omega, fun _ => ⟨by omega, eC_burns (B := B) (C := C) (by omega) e15 e16 hBC (fun q => ⟨fun q2 => absurd q2 (by decide), fun _ => ⟨by omega, ?_⟩⟩) (fun q => ⟨fun _ => ?_, fun q2 => absurd (by decide) q2⟩)⟩⟩
        · rw [hO.2.1 k hk]
          rw [if_pos (bf_t.mpr q)] at ih
          exact ih
        · rw [if_neg (fun q2 => q (bf_t.mp q2)), Int.add_zero] at ih
          exact ih
    exact wC_oddsOfFire _ _ _ (cls 0 (Nat.zero_le _))
  · rw [bz_w, bz_0]
    exact ⟨fun c2 => by omega, fun _ => h _ m hp.same⟩
theorem pr_judge {a : Int} (ha : w32 a = a) (hp : Pre w sw n m) (hS : IS m) {QQ : Int → Int → Bool → Mem → Prop} (h : ∀ z m', Fin w m m' → QQ z z sw m') : M2 X 7 mZ_judge [vr 1, vi a] sw m (fun z1 sw1 m1 => M2 X 6 mY_judge [vr 84, vi a] sw1 m1 (fun z2 sw2 m2 => QQ z1 z2 sw2 m2)) := by
  have h9 := hp.n9
  have hn := hp.2.1
  have hT := hp.tk
  have hV := VV_b w m
  have hU := U1_b hV n
  -- the model refuses as the class does
  have rf : ∀ (m2 : Mem), IS m2 → ∀ P : Int → Bool → Mem → Prop, (¬ (0 ≤ a ∧ a < 6) → P (-1) sw m2) → ((0 ≤ a ∧ a < 6) → m2 73 a = 0 → P (-11) sw m2) → ((0 ≤ a ∧ a < 6) → ¬ m2 73 a = 0 → ¬ (m2 73 a = 2 ∧ m2 75 a = 1) → P (-12) sw m2) → ((0 ≤ a ∧ a < 6) → m2 73 a = 2 → m2 75 a = 1 → M2 X 5 mY_layTwelfths [vr 84] sw m2 (fun z3 sw3 m3 => R2 X 6 mY_judge 27 [(0, vr 84), (1, vi a), (3, vi 0)] [] sw3 m3 P)) → M2 X 6 mY_judge [vr 84, vi a] sw m2 P := by
    intro m2 hS2 P q1 q2 q3 q4
    refine wY_judge _ _ _ _ (eY_isShelf ha ?_)
    rw [bz_w, bz_0]
    refine ⟨fun c => ?_, fun c => q1 (by omega)⟩
    have c := Decidable.not_not.mp c
    have hg := (hS2.get c.1 c.2).1
    have h69 := hS2.2.1
    refine wY_rowFault _ _ _ _ ?_
    rw [ha, w32_id (z := m2 117 a) (by omega) (by omega)]
    refine ⟨c, fun c1 => ⟨c, fun c2 => ⟨fun q => absurd q (by decide), fun _ => q3 c (by omega) (by omega)⟩, fun c2 => ⟨fun _ => q4 c (by omega) (by omega), fun q => absurd (by decide) q⟩⟩, fun c1 => ⟨fun q => absurd q (by decide), fun _ => q2 c (by omega)⟩⟩
  refine wZ_judge _ _ _ _ (eS_refusalOfShorts ha hS ?_)
  by_cases r0 : rfo m a 2 = 0
  · have hr := row_f hS r0
    by_cases r1 : m 75 a = 1
    · rw [if_neg (by omega), r0]
      refine ⟨fun _ => hp.think (fun m2 hm => ?_), fun q => absurd (by decide) q⟩
      have hS2 := hm.1.is hS
      have g : ∀ c j : Int, 60 ≤ c → c ≤ 83 → m2 c j = m c j := fun c j q1 q2 => hm.1 c j (by unfold HK; omega)
      have g2 : ∀ c j : Int, 112 ≤ c → m2 c j = m c j := fun c j q1 => hm.1 c j (by unfold HK; omega)
      have r02 : rfo m2 a 2 = 0 := by
        unfold rfo at r0 ⊢
        rw [g 73 a (by omega) (by omega)]; exact r0
      obtain ⟨N, hN⟩ : ∃ N : Nat, m 76 a = (N : Int) := ⟨(m 76 a).toNat, by omega⟩
      -- the model's turn: answers z
      have mdl : ∀ z : Int, (z = -2 ∧ (∀ j : Nat, j < N → ¬ om (shp m) (U1 (VV w m)) n (m (78 + a) (j : Int)) = 0)) ∨ (∃ k : Nat, k < N ∧ z = (k : Int) ∧ om (shp m) (U1 (VV w m)) n (m (78 + a) (k : Int)) = 0 ∧ ∀ j : Nat, j < k → ¬ om (shp m) (U1 (VV w m)) n (m (78 + a) (j : Int)) = 0) → M2 X 6 mY_judge [vr 84, vi a] sw m2 (fun z2 sw2 m2 => QQ z z2 sw2 m2) := by
        intro z hz
        refine rf m2 hS2 _ (fun q => absurd hr.1 q) (fun _ q => ?_) (fun _ _ q => ?_) (fun _ _ _ => hp.lay hm.1 hm.2.2.2.2.2 (fun m3 f3 hM => ?_))
        · rw [g 73 a (by omega) (by omega)] at q; omega
        · rw [g 73 a (by omega) (by omega), g 75 a (by omega) (by omega)] at q; omega
        have key : ∀ k : Nat, k ≤ N → ∀ m4, FrM2 m3 m4 → (∀ j : Nat, j < k → ¬ om (shp m) (U1 (VV w m)) n (m (78 + a) (j : Int)) = 0) → R2 X 6 mY_judge 27 [(0, vr 84), (1, vi a), (3, vi (k : Int))] [] sw m4 (fun z2 sw2 m2 => QQ z z2 sw2 m2) := by
          have g4 : ∀ m4, FrM2 m3 m4 → ∀ c j : Int, 112 ≤ c → m4 c j = m c j := fun m4 f4 c j q => by rw [f4 c j (by omega) (by omega), f3 c j (by omega) (by omega), g2 c j q]
          refine downN N (fun m4 hF hj => ?_) (fun k hk ih m4 hF hj => ?_)
          · refine wY_judge_27 _ _ _ _ _ ?_
            rw [g4 m4 hF 118 _ (by omega), ha, hr.2.2.2.2.2.2.2.1, hN]
            refine ⟨hr.1, fun _ => ?_, fun q => absurd (Int.le_refl _) q⟩
            rcases hz with ⟨z1, z2⟩ | ⟨k, k1, k2, k3, k4⟩
            · rw [z1]; exact h _ m4 (hm.fin hn h9 (f3.tr hF.y9) (by rw [(hM.m2 hF).2.2.1]))
            · exact absurd k3 (hj k k1)
          · have hM1 := hM.m2 hF
            have hrow := (hS.get hr.1.1 hr.1.2).2 (k : Int) (by omega) (by omega)
            have hsh := hr.2.2.2.2.2.2.2.2 r1 (k : Int) (by omega) (by omega)
            refine wY_judge_27 _ _ _ _ _ ?_
            rw [g4 m4 hF 118 _ (by omega), ha, hr.2.2.2.2.2.2.2.1, hN, w32_id (z := (N : Int)) (by omega) (by omega), w32_id (z := (k : Int)) (by omega) (by omega), w32_id (z := 60 * a + (k : Int)) (by omega) (by omega), g4 m4 hF 119 _ (by omega), hrow]
            refine ⟨hr.1, fun q => by omega, fun _ => ⟨by omega, eY_justOdds hM1 hV (M := m (78 + a) (k : Int)) (w32_id (by omega) (by omega)) (fun m5 f5 => ?_)⟩⟩
            have hol := om_le (S := shp m) h9 hU (m (78 + a) (k : Int))
            rw [UD_m, w64_id (by omega) (by omega)]
            refine ⟨fun q => ih m5 (hF.tr f5) (fun j hj' => ?_), fun q => ?_⟩
            · by_cases cj : j = k
              · rw [cj]; exact q
              · exact hj j (by omega)
            · have q := Decidable.not_not.mp q
              rcases hz with ⟨z1, z2⟩ | ⟨k', k1, k2, k3, k4⟩
              · exact absurd q (z2 k hk)
              · have ek : k' = k := by
                  by_cases c1 : k' < k
                  · exact absurd k3 (hj k' c1)
                  · by_cases c2 : k < k'
                    · exact absurd q (k4 k c2)
                    · omega
                rw [k2, ek]
                exact h _ m5 (hm.fin hn h9 (f3.tr (hF.tr f5).y9) (by rw [(hM1.m2 f5).2.2.1]))
        exact key 0 (Nat.zero_le _) m3 (FrM2.rf m3) (fun j hj => absurd hj (Nat.not_lt_zero _))
      have cls : ∀ k : Nat, k ≤ N → (∀ j : Nat, j < k → ¬ om (shp m) (U1 (VV w m)) n (m (78 + a) (j : Int)) = 0) → R2 X 7 mZ_judge 24 [(0, vr 1), (1, vi a), (3, vi (k : Int))] [] sw m2 (fun z1 sw1 m1 => M2 X 6 mY_judge [vr 84, vi a] sw1 m1 (fun z2 sw2 m2 => QQ z1 z2 sw2 m2)) := by
        refine downN N (fun hj => ?_) (fun k hk ih hj => ?_)
        · refine wZ_judge_24 _ _ _ _ _ (eS_sizeOf ha hS2 ?_)
          rw [if_pos r02, g 76 a (by omega) (by omega), hN]
          exact ⟨fun _ => mdl _ (Or.inl ⟨rfl, hj⟩), fun q => absurd (Int.le_refl _) q⟩
        · have hsh := hr.2.2.2.2.2.2.2.2 r1 (k : Int) (by omega) (by omega)
          have hol := om_le (S := shp m) h9 hU (m (78 + a) (k : Int))
          refine wZ_judge_24 _ _ _ _ _ (eS_sizeOf ha hS2 ?_)
          rw [if_pos r02, g 76 a (by omega) (by omega), hN, w32_id (z := (N : Int)) (by omega) (by omega), w32_id (z := (k : Int)) (by omega) (by omega)]
          refine ⟨fun q => by omega, fun _ => eS_cell ha (w32_id (by omega) (by omega)) hS2 ?_⟩
          have rp : rfp m2 a (k : Int) = 0 := by
            unfold rfp
            rw [if_pos r02, g 76 a (by omega) (by omega), hN, if_pos (by omega)]
          rw [if_pos rp, g (78 + a) (k : Int) (by omega) (by omega)]
          refine eT_oddsIn h9 hV hT hm.2.1 (M := m (78 + a) (k : Int)) (w32_id (by omega) (by omega)) ?_
          rw [w64_id (by omega) (by omega)]
          refine ⟨fun q => ih (fun j hj' => ?_), fun q => mdl _ (Or.inr ⟨k, hk, rfl, Decidable.not_not.mp q, hj⟩)⟩
          by_cases cj : j = k
          · rw [cj]; exact q
          · exact hj j (by omega)
      exact cls 0 (Nat.zero_le _) (fun j hj => absurd hj (Nat.not_lt_zero _))
    · rw [if_pos ⟨r0, r1⟩]
      refine ⟨fun q => absurd q (by decide), fun _ => rf m hS _ (fun q => absurd hr.1 q) (fun _ q => by omega) (fun _ _ _ => h _ m hp.same) (fun _ _ q => absurd q r1)⟩
  · rw [if_neg (fun q => r0 q.1)]
    rw [rfo_w]
    refine ⟨fun q => absurd q r0, fun _ => rf m hS _ (fun q => ?_) (fun q1 q2 => ?_) (fun q1 q2 q3 => ?_) (fun q1 q2 q3 => ?_)⟩
    · rw [show rfo m a 2 = -1 by unfold rfo; rw [if_neg q]]; exact h _ m hp.same
    · rw [show rfo m a 2 = -11 by unfold rfo; rw [if_pos q1, if_pos q2]]; exact h _ m hp.same
    · by_cases q4 : m 73 a = 2
      · exact absurd (show rfo m a 2 = 0 by unfold rfo; rw [if_pos q1, if_neg q2, if_pos q4]) r0
      · rw [show rfo m a 2 = -12 by unfold rfo; rw [if_pos q1, if_neg q2, if_neg q4]]; exact h _ m hp.same
    · exact absurd (show rfo m a 2 = 0 by unfold rfo; rw [if_pos q1, if_neg (by omega), if_pos q2]) r0
end DW
