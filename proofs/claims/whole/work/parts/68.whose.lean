/-! whose in pairs -/
def jw (S : Sh) (V : Nat → Int) (n p v : Nat) (M : Int) : Int := om S (ux (U1 V) p ((v : Int), 12 - (v : Int))) n M
def pw (S : Sh) (V : Nat → Int) (n p v : Nat) (b : Nat → Int) : Nat → Int
  | 0 => 1
  | k + 1 => pw S V n p v b k * zldiv (jw S V n p v (b k) * 100) (12 ^ n)
theorem uxv_b {V : Nat → Int} {n p v : Nat} (hV : Vb V) (hv : v ≤ 12) : Ub (ux (U1 V) p ((v : Int), 12 - (v : Int))) n ∧ ∀ q, q < n → (ux (U1 V) p ((v : Int), 12 - (v : Int)) q).1 + (ux (U1 V) p ((v : Int), 12 - (v : Int)) q).2 = 12 := by
  refine ⟨fun q hq => ?_, fun q hq => ?_⟩
  · by_cases c : q = p
    · subst c; rw [ux_at]
      show (0 ≤ (v : Int) ∧ (v : Int) ≤ 12) ∧ 0 ≤ 12 - (v : Int) ∧ 12 - (v : Int) ≤ 12
      omega
    · rw [ux_ne c]; exact U1_b hV n q hq
  · by_cases c : q = p
    · subst c; rw [ux_at]
      show (v : Int) + (12 - (v : Int)) = 12
      omega
    · rw [ux_ne c]; exact U1_t q
theorem jw_b {S : Sh} {V : Nat → Int} {n p v : Nat} {M : Int} (hn : n ≤ 9) (hV : Vb V) (hv : v ≤ 12) : 0 ≤ jw S V n p v M ∧ jw S V n p v M ≤ 12 ^ n := by
  obtain ⟨h1, h2⟩ := uxv_b (n := n) (p := p) hV hv
  refine ⟨om_nn h1 M, ?_⟩
  rw [← od_tot n h2]
  refine sm_le _ (fun s _ => ?_)
  have := (od_b (s := s) n h1).1
  show (if en S n s = M then od (ux (U1 V) p ((v : Int), 12 - (v : Int))) n s else 0) ≤ od (ux (U1 V) p ((v : Int), 12 - (v : Int))) n s
  split
  · exact Int.le_refl _
  · exact this
theorem jz_b {S : Sh} {V : Nat → Int} {n p v : Nat} {M : Int} (hn : n ≤ 9) (hV : Vb V) (hv : v ≤ 12) : 0 ≤ zldiv (jw S V n p v M * 100) (12 ^ n) ∧ zldiv (jw S V n p v M * 100) (12 ^ n) ≤ 100 := by
  have h1 := jw_b (S := S) (p := p) (M := M) hn hV hv
  have h2 := p12 hn
  rw [zldiv_pos (by omega) (by omega) (by omega) (by omega)]
  exact ⟨Int.ediv_nonneg (by omega) (by omega), Int.ediv_le_of_le_mul (by omega) (by omega)⟩
theorem pw_b {S : Sh} {V : Nat → Int} {n p v : Nat} {b : Nat → Int} (hn : n ≤ 9) (hV : Vb V) (hv : v ≤ 12) : ∀ k, 0 ≤ pw S V n p v b k ∧ pw S V n p v b k ≤ 100 ^ k
  | 0 => ⟨by show (0 : Int) ≤ 1; decide, by show (1 : Int) ≤ 100 ^ 0; decide⟩
  | k + 1 => by
    have ih := pw_b (p := p) (b := b) (S := S) hn hV hv k
    have hz := jz_b (S := S) (p := p) (M := b k) hn hV hv
    refine ⟨Int.mul_nonneg ih.1 hz.1, ?_⟩
    show pw S V n p v b k * _ ≤ 100 ^ (k + 1)
    rw [Int.pow_succ]
    exact Int.mul_le_mul ih.2 hz.2 hz.1 (Int.pow_nonneg (by decide))
theorem h8 {k : Nat} (h : k ≤ 8) : (100 : Int) ^ k ≤ 10000000000000000 := by
  have h1 : k = 0 ∨ k = 1 ∨ k = 2 ∨ k = 3 ∨ k = 4 ∨ k = 5 ∨ k = 6 ∨ k = 7 ∨ k = 8 := by omega
  rcases h1 with rfl | rfl | rfl | rfl | rfl | rfl | rfl | rfl | rfl <;> decide
theorem bc_i {f : Nat → Int} (h0 : 0 ≤ f 0) : ∀ k : Nat, 1 ≤ k → ∃ q : Nat, q < k ∧ (bc f k).1 = (q : Int) ∧ (bc f k).2 = f q
  | 0, h => absurd h (by decide)
  | k + 1, _ => by
    rw [bc_s]
    by_cases c : (bc f k).2 < f k
    · rw [if_pos c]; exact ⟨k, by omega, rfl, rfl⟩
    · rw [if_neg c]
      by_cases ck : 1 ≤ k
      · obtain ⟨q, h1, h2, h3⟩ := bc_i h0 k ck
        exact ⟨q, by omega, h2, h3⟩
      · have : k = 0 := by omega
        subst this
        exact absurd (show (-1 : Int) < f 0 by omega) c
section WH
variable {X : Cx} {sw : Bool} {m : Mem} {Q : Int → Bool → Mem → Prop} {w : Option (List Ln)} {n : Nat}
theorem eI_open {S : Sh} {V : Nat → Int} {p : Nat} (hn : n ≤ 9) (hV : Vb V) (hO : TO S V n m) (h3 : m 2 3 = (n : Int)) (hp : p < n) (h : ∀ m2, FrX m m2 → m2 44 7 = (p : Int) → (∀ s : Nat, s < 2 ^ n → m2 45 (s : Int) = od (ux (U1 V) p (1, 1)) n s) → (∀ v : Nat, v ≤ 12 → m2 46 (v : Int) = 1) → Q 0 sw m2) : M2 X 2 mI_open [vr 44, vi (p : Int)] sw m Q := by
  have h2n := p9 (k := n) hn
  refine wI_open _ _ _ _ ?_
  rw [h3]
  refine eT_weigh c45 c38 (V := V) (by omega) hn (by omega) (by omega) (by omega) (by omega) (fun q hq => ?_) (fun m1 f1 g1 => eJ_fill c46 (by omega) 1 _ _ _ (h _ ?_ ?_ (fun s hs => ?_) (fun v hv => ?_)))
  · have := hV q
    rw [upm_row (by omega), hO.1 q hq]
    exact ⟨w32_id (by omega) (by omega), this⟩
  · intro c j q
    rw [flm_row (by omega), f1 c (by omega), upm_row (by omega)]
  · rw [flm_row (by omega), f1 44 (by omega), upm_at, if_pos rfl]
  · rw [flm_row (by omega), g1 s hs, UL_ux]
  · rw [flm_at, if_pos (by omega)]
theorem eI_read {S : Sh} {V : Nat → Int} {p : Nat} {a M : Int} (hn : n ≤ 9) (hV : Vb V) (hT : Tk S n) (hO : TO S V n m) (hP : PO S n m) (hp : p < n) (h7 : m 44 7 = (p : Int)) (h45 : ∀ s : Nat, s < 2 ^ n → m 45 (s : Int) = od (ux (U1 V) p (1, 1)) n s) (ha : w32 a = M) (h : ∀ m2, (∀ c : Int, ¬ c = 46 → m2 c = m c) → (∀ v : Nat, v ≤ 12 → m2 46 (v : Int) = m 46 (v : Int) * zldiv (jw S V n p v M * 100) (12 ^ n)) → Q 0 sw m2) : M2 X 2 mI_read [vr 44, vi a] sw m Q := by
  have h2n := p9 (k := n) hn
  have hp12 := p12 hn
  have prod : ∀ v : Nat, v ≤ 13 → ∀ m1, (∀ c : Int, ¬ c = 46 → m1 c = m c) → (∀ u : Nat, u < v → m1 46 (u : Int) = m 46 (u : Int) * zldiv (jw S V n p u M * 100) (12 ^ n)) → (∀ u : Nat, v ≤ u → m1 46 (u : Int) = m 46 (u : Int)) → R2 X 2 mI_read 95 [(0, vr 44), (2, vl (sm (2 ^ n) (fun s => if en S n s = M ∧ s.testBit p = true then od (ux (U1 V) p (1, 1)) n s else 0))), (4, vl (sm (2 ^ n) (fun s => if en S n s = M ∧ s.testBit p = false then od (ux (U1 V) p (1, 1)) n s else 0))), (6, vi (v : Int))] [] sw m1 Q := by
    refine downN 13 (fun m1 hF h1 h2 => ?_) (fun v hv ih m1 hF h1 h2 => ?_)
    · exact wI_read_95 _ _ _ _ _ _ ⟨fun _ => h m1 hF (fun v hv => h1 v (by omega)), fun c => absurd (by decide) c⟩
    · refine wI_read_95 _ _ _ _ _ _ ?_
      rw [w32_id (z := (v : Int)) (by omega) (by omega), w32_id (z := 12 - (v : Int)) (by omega) (by omega), hF 37 (by omega), hO.2.2.1]
      have e : (v : Int) * sm (2 ^ n) (fun s => if en S n s = M ∧ s.testBit p = true then od (ux (U1 V) p (1, 1)) n s else 0) + (12 - (v : Int)) * sm (2 ^ n) (fun s => if en S n s = M ∧ s.testBit p = false then od (ux (U1 V) p (1, 1)) n s else 0) = jw S V n p v M := by
        rw [Int.mul_comm (v : Int), Int.mul_comm (12 - (v : Int)), ← sm_mul, ← sm_mul, ← sm_add]
        refine sm_cg _ (fun s _ => ?_)
        show (if en S n s = M ∧ s.testBit p = true then od (ux (U1 V) p (1, 1)) n s else 0) * (v : Int) + (if en S n s = M ∧ s.testBit p = false then od (ux (U1 V) p (1, 1)) n s else 0) * (12 - (v : Int)) = (if en S n s = M then od (ux (U1 V) p ((v : Int), 12 - (v : Int))) n s else 0)
        rw [od_ux (v := ((v : Int), 12 - (v : Int))) n hp]
        by_cases c : en S n s = M
        · rw [if_pos c]
          cases cb : s.testBit p with
          | true => rw [if_pos ⟨c, rfl⟩, if_neg (fun q => absurd q.2 (by decide)), Int.zero_mul, Int.add_zero]; rfl
          | false => rw [if_neg (fun q => absurd q.2 (by decide)), if_pos ⟨c, rfl⟩, Int.zero_mul, Int.zero_add]; rfl
        · rw [if_neg (fun q => c q.1), if_neg (fun q => c q.1), if_neg c, Int.zero_mul, Int.zero_mul]; rfl
      rw [e]
      refine ⟨fun c => by omega, fun _ => ⟨by omega, eZ_cut (by rw [w64_id (by omega) (by omega)]; omega) ⟨by omega, ?_⟩⟩⟩
      refine ih _ (fun c q => by rw [upm_row q]; exact hF c q) (fun u hu => ?_) (fun u hu => ?_)
      · rw [upm_at]
        by_cases cu : u = v
        · subst cu; rw [if_pos rfl, h2 u (Nat.le_refl u)]
        · rw [if_neg (by omega)]; exact h1 u (by omega)
      · rw [upm_at, if_neg (by omega)]; exact h2 u (by omega)
  have sums : ∀ k : Nat, k ≤ 2 ^ n → R2 X 2 mI_read 8 [(0, vr 44), (1, vi a), (2, vl (sm k (fun s => if en S n s = M ∧ s.testBit p = true then od (ux (U1 V) p (1, 1)) n s else 0))), (4, vl (sm k (fun s => if en S n s = M ∧ s.testBit p = false then od (ux (U1 V) p (1, 1)) n s else 0))), (6, vi (k : Int))] [] sw m Q := by
    refine downN (2 ^ n) ?_ (fun k hk ih => ?_)
    · refine wI_read_8 _ _ _ _ _ _ _ ?_
      rw [hP.1]
      exact ⟨fun _ => prod 0 (Nat.zero_le _) m (fun _ _ => rfl) (fun u hu => absurd hu (Nat.not_lt_zero _)) (fun _ _ => rfl), fun c => absurd (Int.le_refl _) c⟩
    · have hb := en_b hT hn k
      have e1 : sm (k + 1) (fun s => if en S n s = M ∧ s.testBit p = true then od (ux (U1 V) p (1, 1)) n s else 0) = sm k (fun s => if en S n s = M ∧ s.testBit p = true then od (ux (U1 V) p (1, 1)) n s else 0) + (if en S n k = M ∧ k.testBit p = true then od (ux (U1 V) p (1, 1)) n k else 0) := rfl
      have e2 : sm (k + 1) (fun s => if en S n s = M ∧ s.testBit p = false then od (ux (U1 V) p (1, 1)) n s else 0) = sm k (fun s => if en S n s = M ∧ s.testBit p = false then od (ux (U1 V) p (1, 1)) n s else 0) + (if en S n k = M ∧ k.testBit p = false then od (ux (U1 V) p (1, 1)) n k else 0) := rfl
      rw [e1, e2] at ih
      refine wI_read_8 _ _ _ _ _ _ _ ?_
      rw [hP.1, h7, w32_id (z := ((2 ^ n : Nat) : Int)) (by omega) (by omega), w32_id (z := (k : Int)) (by omega) (by omega), hP.2.2 k hk, w32_id (z := en S n k) (by omega) (by omega), ha, bit_z (by omega) (by omega), h45 k hk, ifw.1]
      clear ha
      refine ⟨fun c => by omega, fun _ => ⟨by omega, fun c => ⟨by omega, fun _ => ?_, fun c2 => absurd c c2⟩, fun c => ⟨fun cb => ⟨by omega, fun c2 => absurd c2 c, fun _ => ⟨by omega, ?_⟩⟩, fun cb => ⟨by omega, ?_⟩⟩⟩⟩
      · rw [if_neg (fun q => c q.1), if_neg (fun q => c q.1), Int.add_zero, Int.add_zero] at ih; exact ih
      · rw [if_neg (fun q => by rw [cb] at q; exact absurd q.2 (by decide)), if_pos ⟨Decidable.not_not.mp c, cb⟩, Int.add_zero] at ih; exact ih
      · have cb' : k.testBit p = true := by simpa using cb
        rw [if_pos ⟨Decidable.not_not.mp c, cb'⟩, if_neg (fun q => by rw [cb'] at q; exact absurd q.2 (by decide)), Int.add_zero] at ih; exact ih
  exact wI_read _ _ _ _ (sums 0 (Nat.zero_le _))
theorem eI_best {g : Nat → Int} (hg : ∀ v : Nat, v ≤ 12 → 0 ≤ g v ∧ g v ≤ 10000000000000000) (h46 : ∀ v : Nat, v ≤ 12 → m 46 (v : Int) = g v) (h : Q (bc g 13).1 sw m) : M2 X 1 mI_bestTwelfths [vr 44] sw m Q := by
  have h0 := (hg 0 (by decide)).1
  have key : ∀ k : Nat, k ≤ 13 → 1 ≤ k → R2 X 1 mI_bestTwelfths 4 [(0, vr 44), (1, vi (bc g k).1), (2, vi (k : Int))] [] sw m Q := by
    refine downN 13 (fun _ => ?_) (fun k hk ih k1 => ?_)
    · exact wI_bestTwelfths_4 _ _ _ _ _ ⟨fun _ => h, fun c => absurd (by decide) c⟩
    · obtain ⟨q, q1, q2, q3⟩ := bc_i h0 k k1
      have ih' := ih (by omega)
      rw [bc_s, q3] at ih'
      have b1 := hg k (by omega)
      have b2 := hg q (by omega)
      refine wI_bestTwelfths_4 _ _ _ _ _ ?_
      rw [q2]
      rw [w32_id (z := (k : Int)) (by omega) (by omega), w32_id (z := (q : Int)) (by omega) (by omega), h46 k (by omega), h46 q (by omega), w64_id (z := g k) (by omega) (by omega), w64_id (z := g q) (by omega) (by omega)]
      refine ⟨fun c => by omega, fun _ => ⟨by omega, by omega, fun c => ?_, fun c => ?_⟩⟩
      · rw [if_neg (by omega), q2] at ih'; exact ih'
      · rw [if_pos (by omega)] at ih'; exact ih'
  refine wI_bestTwelfths _ _ _ ?_
  have k1 := key 1 (by decide) (Nat.le_refl 1)
  rw [show bc g 1 = (((0 : Nat) : Int), g 0) from if_pos (show (-1 : Int) < g 0 by omega)] at k1
  exact k1
theorem pr_whose {a b : Int} (ha : w32 a = a) (hb : w32 b = b) (hp : Pre w sw n m) (hS : IS m) {QQ : Int → Int → Bool → Mem → Prop} (h : ∀ z m', Fin w m m' → QQ z z sw m') : M2 X 7 mZ_whose [vr 1, vi a, vi b] sw m (fun z1 sw1 m1 => M2 X 6 mY_whose [vr 84, vi a, vi b] sw1 m1 (fun z2 sw2 m2 => QQ z1 z2 sw2 m2)) := by
  have h9 := hp.n9
  have hn := hp.2.1
  have hT := hp.tk
  have hV := VV_b w m
  have hp12 := p12 h9
  have rf : ∀ (m2 : Mem), FrH m m2 → ∀ P : Int → Bool → Mem → Prop, (¬ ((0 ≤ a ∧ a < 6) ∧ 0 ≤ b ∧ b < (n : Int)) → P (-1) sw m2) → ((0 ≤ a ∧ a < 6) → 0 ≤ b ∧ b < (n : Int) → m 73 a = 0 → P (-11) sw m2) → ((0 ≤ a ∧ a < 6) → 0 ≤ b ∧ b < (n : Int) → ¬ m 73 a = 0 → ¬ (m 73 a = 2 ∧ m 75 a = 1) → P (-12) sw m2) → ((0 ≤ a ∧ a < 6) → 0 ≤ b ∧ b < (n : Int) → m 73 a = 2 → m 75 a = 1 → 8 < m 76 a → P (-5) sw m2) → ((0 ≤ a ∧ a < 6) → 0 ≤ b ∧ b < (n : Int) → m 73 a = 2 → m 75 a = 1 → m 76 a ≤ 8 → M2 X 5 mY_layTwelfths [vr 84] sw m2 (fun z3 sw3 m3 => R2 X 6 mY_whose 58 [(0, vr 84), (1, vi a), (2, vi b), (4, vi 0), (5, vl (-1)), (7, vi 0)] [] sw3 m3 P)) → M2 X 6 mY_whose [vr 84, vi a, vi b] sw m2 P := by
    intro m2 fH P q1 q2 q3 q4 q5
    have g2 : ∀ c j : Int, 112 ≤ c → m2 c j = m c j := fun c j q => fH c j (by unfold HK; omega)
    refine wY_whose _ _ _ _ _ (eY_isShelf ha ?_)
    rw [bz_w, bz_0]
    refine ⟨fun c => q1 (by omega), fun c => eY_isPart hb (n := (n : Int)) (by omega) (hp.y1 fH) ?_⟩
    rw [bz_w, bz_0]
    refine ⟨fun c2 => ?_, fun c2 => q1 (by omega)⟩
    have c := Decidable.not_not.mp c
    have c2 := Decidable.not_not.mp c2
    have hg := (hS.get c.1 c.2).1
    have h69 := hS.2.1
    refine wY_rowFault _ _ _ _ ?_
    rw [ha, g2 117 a (by omega), w32_id (z := m 117 a) (by omega) (by omega), g2 118 a (by omega)]
    refine ⟨c, fun c1 => ⟨c, fun c3 => ⟨fun q => absurd q (by decide), fun _ => q3 c c2 (by omega) (by omega)⟩, fun c3 => ⟨fun _ => ⟨c, fun c4 => ?_, fun c4 => ?_⟩, fun q => absurd (by decide) q⟩⟩, fun c1 => ⟨fun q => absurd q (by decide), fun _ => q2 c c2 (by omega)⟩⟩
    · rw [w32_id (z := m 118 a) (by omega) (by omega)] at c4
      exact q5 c c2 (by omega) (by omega) (by omega)
    · rw [w32_id (z := m 118 a) (by omega) (by omega)] at c4
      exact q4 c c2 (by omega) (by omega) (by omega)
  refine wZ_whose _ _ _ _ _ (eK_has hb hp.1 ?_)
  rw [bz_w, bz_0, hn]
  refine ⟨fun cb => ?_, fun cb => rf m (FrH.rf m) _ (fun _ => h _ m hp.same) (fun _ q _ => by omega) (fun _ q _ _ => by omega) (fun _ q _ _ _ => by omega) (fun _ q _ _ _ => by omega)⟩
  have cb := Decidable.not_not.mp cb
  obtain ⟨p, rfl⟩ : ∃ p : Nat, b = (p : Int) := ⟨b.toNat, by omega⟩
  refine eS_refusalOfShorts ha hS ?_
  by_cases r0 : rfo m a 2 = 0
  · have hr := row_f hS r0
    by_cases r1 : m 75 a = 1
    · rw [if_neg (by omega), r0]
      refine ⟨fun _ => eS_sizeOf ha hS ?_, fun q => absurd (by decide) q⟩
      rw [if_pos r0]
      obtain ⟨N, hN⟩ : ∃ N : Nat, m 76 a = (N : Int) := ⟨(m 76 a).toNat, by omega⟩
      rw [hN, w32_id (z := (N : Int)) (by omega) (by omega)]
      refine ⟨fun c8 => hp.think (fun m2 hm => ?_), fun c8 => rf m (FrH.rf m) _ (fun q => by omega) (fun _ _ q => by omega) (fun _ _ _ q => by omega) (fun _ _ _ _ _ => h _ m hp.same) (fun _ _ _ _ q => by omega)⟩
      have g8 : ∀ v : Nat, v ≤ 12 → 0 ≤ pw (shp m) (VV w m) n p v (fun k => m (78 + a) (k : Int)) N ∧ pw (shp m) (VV w m) n p v (fun k => m (78 + a) (k : Int)) N ≤ 10000000000000000 := fun v hv => by
        have h1 := pw_b (S := shp m) (p := p) (b := fun k => m (78 + a) (k : Int)) h9 hV hv N
        have h2 := h8 (k := N) (by omega)
        omega
      have e23 : m2 2 3 = (n : Int) := by rw [hm.1 2 3 (Or.inl rfl)]; exact hn
      refine eI_open h9 hV hm.2.1 e23 (p := p) (by omega) (fun m3 f3 e7 e45 e46 => ?_)
      have hm3 := hm.fx f3 hn h9
      -- the model
      have mdl : ∀ m4, Mid w (shp m) (VV w m) sw n m m4 → M2 X 6 mY_whose [vr 84, vi a, vi (p : Int)] sw m4 (fun z2 sw2 m2 => QQ (bc (fun v => pw (shp m) (VV w m) n p v (fun k => m (78 + a) (k : Int)) N) 13).1 z2 sw2 m2) := by
        intro m4 hm4
        refine rf m4 hm4.1 _ (fun q => by omega) (fun _ _ q => by omega) (fun _ _ _ q => by omega) (fun _ _ _ _ q => by omega) (fun _ _ _ _ _ => hp.lay hm4.1 hm4.2.2.2.2.2 (fun m5 f5 hM => ?_))
        generalize hz : (bc (fun v => pw (shp m) (VV w m) n p v (fun k => m (78 + a) (k : Int)) N) 13).1 = z
        have key : ∀ v : Nat, v ≤ 13 → ∀ m6, FrY9 m5 m6 → (∀ q : Nat, q < n → ¬ q = p → w32 (m6 105 (q : Int)) = VV w m q) → YS (shp m) n m6 → m6 84 33 = -1 → R2 X 6 mY_whose 58 [(0, vr 84), (1, vi a), (2, vi (p : Int)), (4, vi (bc (fun v => pw (shp m) (VV w m) n p v (fun k => m (78 + a) (k : Int)) N) v).1), (5, vl (bc (fun v => pw (shp m) (VV w m) n p v (fun k => m (78 + a) (k : Int)) N) v).2), (7, vi (v : Int))] [] sw m6 (fun z2 sw2 m2 => QQ z z2 sw2 m2) := by
          refine downN 13 (fun m6 f6 e105 hY e33 => ?_) (fun v hv ih m6 f6 e105 hY e33 => ?_)
          · refine wY_whose_58 _ _ _ _ _ _ _ _ ⟨fun _ => ?_, fun q => absurd (by decide) q⟩
            rw [hz]
            exact h z m6 (hm4.fin hn h9 (f5.tr f6) e33)
          · have gv := g8 v (by omega)
            have hb := bc_b (f := fun v => pw (shp m) (VV w m) n p v (fun k => m (78 + a) (k : Int)) N) (n := 13) (B := 10000000000000000) (by decide) (fun u hu => g8 u (by omega)) v (by omega)
            refine wY_whose_58 _ _ _ _ _ _ _ _ ?_
            rw [w32_id (z := (v : Int)) (by omega) (by omega), w32_id (z := (p : Int)) (by omega) (by omega)]
            refine ⟨fun c => by omega, fun _ => ⟨by omega, ?_⟩⟩
            have hV' : Vb (fun q => if q = p then (v : Int) else VV w m q) := fun q => by
              show 0 ≤ (if q = p then (v : Int) else VV w m q) ∧ (if q = p then (v : Int) else VV w m q) ≤ 12
              split
              · omega
              · exact hV q
            have hM' : MO (shp m) (fun q => if q = p then (v : Int) else VV w m q) n (-1) (upm m6 105 (p : Int) (v : Int)) := by
              refine ⟨hY.fr (fun c j q => upm_ne (by omega)), fun q hq => ?_, by rw [upm_row (by omega)]; exact e33, by omega, by omega⟩
              show w32 (upm m6 105 (p : Int) (v : Int) 105 (q : Int)) = (if q = p then (v : Int) else VV w m q)
              rw [upm_at]
              by_cases c : q = p
              · subst c; rw [if_pos rfl, if_pos rfl]; exact w32_id (by omega) (by omega)
              · rw [if_neg (by omega), if_neg c]; exact e105 q hq c
            have hje : ∀ M : Int, om (shp m) (U1 (fun q => if q = p then (v : Int) else VV w m q)) n M = jw (shp m) (VV w m) n p v M := fun M => by
              refine sm_cg _ (fun s _ => ?_)
              show (if en (shp m) n s = M then od (U1 (fun q => if q = p then (v : Int) else VV w m q)) n s else 0) = (if en (shp m) n s = M then od (ux (U1 (VV w m)) p ((v : Int), 12 - (v : Int))) n s else 0)
              rw [od_cg n (fun q _ => ?_)]
              by_cases c : q = p
              · subst c; rw [ux_at]; show ((if q = q then (v : Int) else VV w m q), 12 - (if q = q then (v : Int) else VV w m q)) = _; rw [if_pos rfl]
              · rw [ux_ne c]; show ((if q = p then (v : Int) else VV w m q), 12 - (if q = p then (v : Int) else VV w m q)) = (VV w m q, 12 - VV w m q); rw [if_neg c]
            have f6' : FrY9 m5 (upm m6 105 (p : Int) (v : Int)) := f6.tr (fun c j q1 q2 => upm_ne (by omega))
            have prod : ∀ k : Nat, k ≤ N → ∀ m7, FrM2 (upm m6 105 (p : Int) (v : Int)) m7 → R2 X 4 mY_productBy 5 [(0, vr 84), (1, vi a), (2, vl (pw (shp m) (VV w m) n p v (fun k => m (78 + a) (k : Int)) k)), (4, vi (k : Int))] [] sw m7 (fun z1 sw1 m1 => ((w64 (bc (fun v => pw (shp m) (VV w m) n p v (fun k => m (78 + a) (k : Int)) N) v).2 < w64 z1 → R2 X 6 mY_whose 58 [(0, vr 84), (1, vi a), (2, vi (p : Int)), (4, vi (v : Int)), (5, vl z1), (7, vi ((v : Int) + 1))] [] sw1 m1 (fun z2 sw2 m2 => QQ z z2 sw2 m2)) ∧ (¬ (w64 (bc (fun v => pw (shp m) (VV w m) n p v (fun k => m (78 + a) (k : Int)) N) v).2 < w64 z1) → R2 X 6 mY_whose 58 [(0, vr 84), (1, vi a), (2, vi (p : Int)), (4, vi (bc (fun v => pw (shp m) (VV w m) n p v (fun k => m (78 + a) (k : Int)) N) v).1), (5, vl (bc (fun v => pw (shp m) (VV w m) n p v (fun k => m (78 + a) (k : Int)) N) v).2), (7, vi ((v : Int) + 1))] [] sw1 m1 (fun z2 sw2 m2 => QQ z z2 sw2 m2)))) := by
              have g7 : ∀ m7, FrM2 (upm m6 105 (p : Int) (v : Int)) m7 → ∀ c j : Int, 112 ≤ c → m7 c j = m c j := fun m7 f7 c j q => by
                rw [f7 c j (by omega) (by omega), f6' c j (by omega) (by omega), f5 c j (by omega) (by omega)]
                exact hm4.1 c j (by unfold HK; omega)
              refine downN N (fun m7 f7 => ?_) (fun k hk ihk m7 f7 => ?_)
              · refine wY_productBy_5 _ _ _ _ _ _ ?_
                rw [g7 m7 f7 118 _ (by omega), ha, hr.2.2.2.2.2.2.2.1, hN]
                refine ⟨hr.1, fun _ => ?_, fun q => absurd (Int.le_refl _) q⟩
                rw [w64_id (z := (bc (fun v => pw (shp m) (VV w m) n p v (fun k => m (78 + a) (k : Int)) N) v).2) (by omega) (by omega), w64_id (z := pw (shp m) (VV w m) n p v (fun k => m (78 + a) (k : Int)) N) (by omega) (by omega)]
                have hM7 := hM'.m2 f7
                have ih' := ih m7 (f6'.tr f7.y9) (fun q hq hqp => by rw [f7 105 _ (by omega) (by omega), upm_at, if_neg (by omega)]; exact e105 q hq hqp) hM7.1 hM7.2.2.1
                rw [bc_s] at ih'
                refine ⟨fun c => ?_, fun c => ?_⟩
                · rw [if_pos c] at ih'; exact ih'
                · rw [if_neg c] at ih'; exact ih'
              · have hM7 := hM'.m2 f7
                have hrow := (hS.get hr.1.1 hr.1.2).2 (k : Int) (by omega) (by omega)
                have hsh := hr.2.2.2.2.2.2.2.2 r1 (k : Int) (by omega) (by omega)
                refine wY_productBy_5 _ _ _ _ _ _ ?_
                rw [g7 m7 f7 118 _ (by omega), ha, hr.2.2.2.2.2.2.2.1, hN, w32_id (z := (N : Int)) (by omega) (by omega), w32_id (z := (k : Int)) (by omega) (by omega), w32_id (z := 60 * a + (k : Int)) (by omega) (by omega), g7 m7 f7 119 _ (by omega), hrow]
                refine ⟨hr.1, fun q => by omega, fun _ => ⟨by omega, eY_justOdds hM7 hV' (M := m (78 + a) (k : Int)) (w32_id (by omega) (by omega)) (fun m8 f8' => eY_whole (hM7.m2 f8') ?_)⟩⟩
                rw [UD_m, hje, if_neg (by decide), Int.one_mul, w64_id (z := (12 : Int) ^ n) (by omega) (by omega)]
                exact ⟨by omega, ihk m8 (f7.tr f8')⟩
            exact wY_productBy _ _ _ _ (prod 0 (Nat.zero_le _) _ (FrM2.rf _))
        exact key 0 (Nat.zero_le _) m5 (FrY9.rf m5) (fun q hq _ => hM.2.1 q hq) hM.1 hM.2.2.1
      -- the class reads the book
      have cls : ∀ k : Nat, k ≤ N → ∀ m4, (∀ c : Int, ¬ c = 46 → m4 c = m3 c) → (∀ v : Nat, v ≤ 12 → m4 46 (v : Int) = pw (shp m) (VV w m) n p v (fun k => m (78 + a) (k : Int)) k) → R2 X 7 mZ_whose 66 [(0, vr 1), (1, vi a), (4, vi (N : Int)), (5, vi (k : Int))] [] sw m4 (fun z1 sw1 m1 => M2 X 6 mY_whose [vr 84, vi a, vi (p : Int)] sw1 m1 (fun z2 sw2 m2 => QQ z1 z2 sw2 m2)) := by
        refine downN N (fun m4 f4 e4 => ?_) (fun k hk ih m4 f4 e4 => ?_)
        · have f34 : FrX m3 m4 := fun c j q => by rw [f4 c (by omega)]
          have hm4 := hm3.fx f34 hn h9
          exact wZ_whose_66 _ _ _ _ _ _ ⟨fun _ => eI_best g8 e4 (mdl m4 hm4), fun q => absurd (Int.le_refl _) q⟩
        · have f34 : FrX m3 m4 := fun c j q => by rw [f4 c (by omega)]
          have hm4 := hm3.fx f34 hn h9
          have hS4 := hm4.1.is hS
          have hsh := hr.2.2.2.2.2.2.2.2 r1 (k : Int) (by omega) (by omega)
          have g : ∀ c j : Int, 60 ≤ c → c ≤ 83 → m4 c j = m c j := fun c j q1 q2 => hm4.1 c j (by unfold HK; omega)
          refine wZ_whose_66 _ _ _ _ _ _ ?_
          rw [w32_id (z := (N : Int)) (by omega) (by omega), w32_id (z := (k : Int)) (by omega) (by omega)]
          refine ⟨fun q => by omega, fun _ => eS_cell ha (w32_id (by omega) (by omega)) hS4 ?_⟩
          have r04 : rfo m4 a 2 = 0 := by
            unfold rfo at r0 ⊢
            rw [g 73 a (by omega) (by omega)]; exact r0
          have rp : rfp m4 a (k : Int) = 0 := by
            unfold rfp
            rw [if_pos r04, g 76 a (by omega) (by omega), hN, if_pos (by omega)]
          rw [if_pos rp, g (78 + a) (k : Int) (by omega) (by omega)]
          refine eI_read h9 hV hT hm4.2.1 hm4.2.2.1 (p := p) (by omega) (by rw [f4 44 (by omega)]; exact e7) (fun s hs => by rw [f4 45 (by omega)]; exact e45 s hs) (M := m (78 + a) (k : Int)) (w32_id (by omega) (by omega)) (fun m5 f5 e5 => ?_)
          refine ih m5 (fun c q => (f5 c q).trans (f4 c q)) (fun v hv => ?_)
          rw [e5 v hv, e4 v hv]; rfl
      exact cls 0 (Nat.zero_le _) m3 (fun _ _ => rfl) (fun v hv => by rw [e46 v hv]; rfl)
    · rw [if_pos ⟨r0, r1⟩]
      refine ⟨fun q => absurd q (by decide), fun _ => rf m (FrH.rf m) _ (fun q => by omega) (fun _ _ q => by omega) (fun _ _ _ _ => h _ m hp.same) (fun _ _ _ q => absurd q r1) (fun _ _ _ q => absurd q r1)⟩
  · rw [if_neg (fun q => r0 q.1)]
    rw [rfo_w]
    refine ⟨fun q => absurd q r0, fun _ => rf m (FrH.rf m) _ (fun q => ?_) (fun q1 _ q2 => ?_) (fun q1 _ q2 q3 => ?_) (fun q1 _ q2 q3 => ?_) (fun q1 _ q2 q3 => ?_)⟩
    · rw [show rfo m a 2 = -1 by unfold rfo; rw [if_neg (by omega)]]; exact h _ m hp.same
    · rw [show rfo m a 2 = -11 by unfold rfo; rw [if_pos q1, if_pos q2]]; exact h _ m hp.same
    · by_cases q4 : m 73 a = 2
      · exact absurd (show rfo m a 2 = 0 by unfold rfo; rw [if_pos q1, if_neg q2, if_pos q4]) r0
      · rw [show rfo m a 2 = -12 by unfold rfo; rw [if_pos q1, if_neg q2, if_neg q4]]; exact h _ m hp.same
    · exact absurd (show rfo m a 2 = 0 by unfold rfo; rw [if_pos q1, if_neg (by omega), if_pos q2]) r0
    · exact absurd (show rfo m a 2 = 0 by unfold rfo; rw [if_pos q1, if_neg (by omega), if_pos q2]) r0
end WH
