/-! mending in pairs -/
/-- the model's mendings change only these -/
def FrMd (n : Nat) (m m' : Mem) : Prop := ∀ c j : Int, ¬ (c = 84 ∧ 29 ≤ j ∧ j ≤ 41) → ¬ (102 ≤ c ∧ c ≤ 111) → ¬ (c = 90 ∧ 0 ≤ j ∧ j < (n : Int)) → m' c j = m c j
/-- the model, between two of its mendings -/
def GI (f : Nat → Int) (A : Nat → Int) (n a : Nat) (M : Mem) (k W N : Nat) (m1 : Mem) : Prop := FrMd n M m1 ∧ m1 84 33 = -1 ∧ (∀ p : Nat, p < n → m1 90 (p : Int) = abf (n + 1) A k W p) ∧ (∀ j : Nat, j < k → m1 109 (j : Int) = (dwj (n + 1) k W j : Int) - 1) ∧ m1 84 40 = (bc f N).2 ∧ (1 ≤ N → ∀ j : Nat, j < a → m1 110 (j : Int) = (dwj (n + 1) a (bc f N).1.toNat j : Int) - 1)
theorem wb_m {W b d : Nat} (h : d < b) : (W * b + d) % b = d ∧ (W * b + d) / b = W := by
  have hb : 0 < b := by omega
  refine ⟨?_, ?_⟩
  · rw [Nat.add_comm, Nat.mul_comm, Nat.add_mul_mod_self_left, Nat.mod_eq_of_lt h]
  · rw [Nat.add_comm, Nat.mul_comm, Nat.add_mul_div_left _ _ hb, Nat.div_eq_of_lt h, Nat.zero_add]
theorem dwj_s {b k W d j : Nat} (h : d < b) (hj : j < k) : dwj b (k + 1) (W * b + d) j = dwj b k W j := by
  unfold dwj
  rw [show k + 1 - 1 - j = k - 1 - j + 1 by omega, Nat.pow_succ, Nat.mul_comm (b ^ (k - 1 - j)), ← Nat.div_div_eq_div_mul, (wb_m h).2]
theorem dwj_e {b k W d : Nat} (h : d < b) : dwj b (k + 1) (W * b + d) k = d := by
  unfold dwj
  rw [show k + 1 - 1 - k = 0 by omega, Nat.pow_zero, Nat.div_one, (wb_m h).1]
section ME
variable {X : Cx} {sw : Bool} {m : Mem} {Q : Int → Bool → Mem → Prop} {w : Option (List Ln)} {n : Nat}
theorem eN_bestWay {m2 : Mem} {a : Nat} (hp : Pre w sw n m) (h5 : n ≤ 5) (hm : Mid w (shp m) (VV w m) sw n m m2) (ha : 1 ≤ a ∧ a ≤ 3) (h : ∀ m3, FrZ m2 m3 → m3 47 7 = (n : Int) + 1 → (∀ W : Nat, W < (n + 1) ^ a → m3 (49 + ((a : Int) - 1)) (W : Int) = tgf (fmf w m n) (n + 1) a W) → Q (bc (tgf (fmf w m n) (n + 1) a) ((n + 1) ^ a)).1 sw m3) : M2 X 6 mN_bestWay [vr 47, vi (a : Int)] sw m2 Q := by
  have hn := hp.2.1
  have h9 := hp.n9
  have hf := fun k W => tgf_b (b := n + 1) (fun k W => fmf_b w m h9 k W) k W
  generalize hfe : tgf (fmf w m n) (n + 1) = tg at hf h
  have tg_s : ∀ k W, tg (k + 1) W = tg k (W / (n + 1)) + fmf w m n k W := fun k W => by rw [← hfe]; rfl
  have tg_0 : ∀ W, tg 0 W = 0 := fun W => by rw [← hfe]; rfl
  have hb1 : ∀ k, 1 ≤ (n + 1) ^ k := fun k => Nat.one_le_pow _ _ (Nat.succ_pos n)
  -- the scan
  have scan : ∀ m3, FrZ m2 m3 → m3 47 7 = (n : Int) + 1 → (∀ W : Nat, W < (n + 1) ^ a → m3 (49 + ((a : Int) - 1)) (W : Int) = tg a W) → ∀ k : Nat, k ≤ (n + 1) ^ a → 1 ≤ k → R2 X 6 mN_bestWay 103 [(0, vr 47), (1, vi (a : Int)), (2, vi (((n + 1) ^ a : Nat) : Int)), (3, vi (bc (tg a) k).1), (4, vi (k : Int))] [] sw m3 Q := by
    intro m3 f3 e7 h3
    have hpw := pw_6 (b := n + 1) (k := a) (by omega) ha.2
    generalize (n + 1) ^ a = B at hpw h h3
    refine downN B (fun _ => ?_) (fun k hk ih k1 => ?_)
    · exact wN_bestWay_103 _ _ _ _ _ _ _ ⟨fun _ => h m3 f3 e7 h3, fun q => absurd (Int.le_refl _) q⟩
    · obtain ⟨q, q1, q2, q3⟩ := bc_i (f := tg a) (hf a 0).1 k k1
      have ih' := ih (by omega)
      rw [bc_s, q3] at ih'
      have b1 := hf a k
      have b2 := hf a q
      refine wN_bestWay_103 _ _ _ _ _ _ _ ?_
      rw [q2]
      rw [w32_id (z := (B : Int)) (by omega) (by omega), w32_id (z := (k : Int)) (by omega) (by omega), w32_id (z := (q : Int)) (by omega) (by omega), w32_id (z := (a : Int) - 1) (by omega) (by omega), h3 k hk, h3 q (by omega), w32_id (z := tg a k) (by omega) (by omega), w32_id (z := tg a q) (by omega) (by omega)]
      refine ⟨fun c => by omega, fun _ => ⟨by omega, by omega, by omega, by omega, fun c => ?_, fun c => ?_⟩⟩
      · rw [if_neg (by omega), q2] at ih'; exact ih'
      · rw [if_pos (by omega)] at ih'; exact ih'
  have key : ∀ k : Nat, k ≤ a → ∀ m3, FrZ m2 m3 → NF w m n m3 → (∀ k' : Nat, k' < k → ∀ W : Nat, W < (n + 1) ^ (k' + 1) → m3 (49 + (k' : Int)) (W : Int) = tg (k' + 1) W) → R2 X 6 mN_bestWay 21 [(0, vr 47), (1, vi (a : Int)), (2, vi (((n + 1) ^ k : Nat) : Int)), (3, vi (k : Int))] [] sw m3 Q := by
    refine downN a (fun m3 f3 hF h3 => ?_) (fun k hk ih m3 f3 hF h3 => ?_)
    · refine wN_bestWay_21 _ _ _ _ _ _ ⟨fun _ => ?_, fun q => absurd (Int.le_refl _) q⟩
      have s1 := scan m3 f3 hF.1 (fun W hW => by
        have := h3 (a - 1) (by omega) W (by rw [show a - 1 + 1 = a by omega]; exact hW)
        rw [show a - 1 + 1 = a by omega, show ((a - 1 : Nat) : Int) = (a : Int) - 1 by omega] at this
        exact this) 1 (hb1 a) (Nat.le_refl 1)
      have h0 := (hf a 0).1
      rw [show bc (tg a) 1 = (((0 : Nat) : Int), tg a 0) from if_pos (show (-1 : Int) < tg a 0 by omega)] at s1
      exact s1
    · have hpw := pw_6 (b := n + 1) (k := k + 1) (by omega) (by omega)
      have inner : ∀ W : Nat, W ≤ (n + 1) ^ (k + 1) → ∀ m4, FrZ m2 m4 → NF w m n m4 → (∀ k' : Nat, k' < k → ∀ W : Nat, W < (n + 1) ^ (k' + 1) → m4 (49 + (k' : Int)) (W : Int) = tg (k' + 1) W) → (∀ V : Nat, V < W → m4 (49 + (k : Int)) (V : Int) = tg (k + 1) V) → R2 X 6 mN_bestWay 36 [(0, vr 47), (1, vi (a : Int)), (2, vi (((n + 1) ^ (k + 1) : Nat) : Int)), (3, vi (k : Int)), (4, vi (W : Int))] [] sw m4 Q := by
        refine downN ((n + 1) ^ (k + 1)) (fun m4 f4 hF4 h4 h4k => ?_) (fun W hW ihW m4 f4 hF4 h4 h4k => ?_)
        · refine wN_bestWay_36 _ _ _ _ _ _ _ ⟨fun _ => ih m4 f4 hF4 (fun k' hk' => ?_), fun q => absurd (Int.le_refl _) q⟩
          by_cases c : k' = k
          · subst c; exact h4k
          · exact h4 k' (by omega)
        · have hm4 := hm.fz f4 hn h9
          have hdv : W / (n + 1) ≤ W := Nat.div_le_self _ _
          have fin : ∀ m5, (∀ c : Int, ¬ c = 58 → ¬ c = 59 → m5 c = m4 c) → R2 X 6 mN_bestWay 36 [(0, vr 47), (1, vi (a : Int)), (2, vi (((n + 1) ^ (k + 1) : Nat) : Int)), (3, vi (k : Int)), (4, vi ((W : Int) + 1))] [] sw (upm m5 (49 + (k : Int)) (W : Int) (tg k (W / (n + 1)) + fmf w m n k W)) Q := by
            intro m5 f5
            have f45 : FrZ m4 m5 := fun c j q _ _ => by rw [f5 c (by omega) (by omega)]
            refine ihW _ (f4.tr (f45.tr (FrZ.up (by omega)))) ((hF4.fr (fun c j q => by rw [f5 c (by omega) (by omega)])).fr (fun c j q => upm_ne (by omega))) (fun k' hk' V hV => ?_) (fun V hV => ?_)
            · rw [upm_row (by omega), f5 _ (by omega) (by omega)]; exact h4 k' hk' V hV
            · rw [upm_at]
              by_cases c : V = W
              · subst c; rw [if_pos rfl, tg_s]
              · rw [if_neg (by omega), f5 _ (by omega) (by omega)]; exact h4k V (by omega)
          have hpk : k ≠ 0 → W / (n + 1) < (n + 1) ^ (k - 1 + 1) := fun q => by
            rw [show k - 1 + 1 = k by omega]
            exact Nat.div_lt_of_lt_mul (by rw [Nat.pow_succ, Nat.mul_comm] at hW; exact hW)
          refine wN_bestWay_36 _ _ _ _ _ _ _ ?_
          generalize hB : (n + 1) ^ (k + 1) = B at hpw hW fin ⊢
          rw [w32_id (z := (B : Int)) (by omega) (by omega), w32_id (z := (W : Int)) (by omega) (by omega), w32_id (z := (k : Int)) (by omega) (by omega)]
          refine ⟨fun q => by omega, fun _ => ⟨fun ck => ?_, fun ck => ⟨by omega, eN_millionths hp h5 hm4 hF4 (by omega) (by omega) (fun m5 f5 => ⟨by omega, ?_⟩)⟩⟩⟩
          · rw [w32_id (z := (k : Int) - 1) (by omega) (by omega)]
            refine ⟨by omega, eN_withoutLast (b := n + 1) hF4.1 (by omega) (by omega) ?_⟩
            generalize hD : W / (n + 1) = D at hdv fin hpk ⊢
            rw [w32_id (z := (D : Int)) (by omega) (by omega)]
            refine ⟨by omega, by omega, eN_millionths hp h5 hm4 hF4 (by omega) (by omega) (fun m5 f5 => ⟨by omega, ?_⟩)⟩
            have e1 := h4 (k - 1) (by omega) D (hpk (by omega))
            rw [show ((k - 1 : Nat) : Int) = (k : Int) - 1 by omega, show k - 1 + 1 = k by omega] at e1
            rw [e1]
            exact fin m5 f5
          · have k0 : k = 0 := by omega
            have fi := fin m5 f5
            rw [show tg k (W / (n + 1)) = 0 by rw [k0]; exact tg_0 _] at fi
            exact fi
      refine wN_bestWay_21 _ _ _ _ _ _ ?_
      rw [w32_id (z := (a : Int)) (by omega) (by omega), w32_id (z := (k : Int)) (by omega) (by omega), hF.1, show (((n + 1) ^ k : Nat) : Int) * ((n : Int) + 1) = (((n + 1) ^ (k + 1) : Nat) : Int) from rfl]
      exact ⟨fun q => by omega, fun _ => inner 0 (Nat.zero_le _) m3 f3 hF h3 (fun V hV => absurd hV (Nat.not_lt_zero _))⟩
  refine wN_bestWay _ _ _ _ ?_
  rw [hm.1 2 3 (Or.inl rfl), hn]
  have z0 : FrZ m2 (upm m2 47 7 ((n : Int) + 1)) := FrZ.up (by omega)
  refine eN_foresee hp h5 (hm.fz z0 hn h9) (by rw [upm_at, if_pos rfl]) (fun m3 f3 hF => ?_)
  have k0 := key 0 (Nat.zero_le _) m3 (z0.tr f3) hF (fun k' hk' => absurd hk' (Nat.not_lt_zero _))
  rw [Nat.pow_zero] at k0
  exact k0
/-- what the model's weighing of a morning changes -/
def FrO (m m' : Mem) : Prop := ∀ c j : Int, ¬ (c = 84 ∧ (j = 30 ∨ j = 31)) → ¬ (102 ≤ c ∧ c ≤ 105) → m' c j = m c j
theorem eY_oddsNow {M m1 : Mem} {k W : Nat} (hp : Pre w sw n m) (fM : FrH m M) (f1 : FrMd n M m1) (h33 : m1 84 33 = -1) (h90 : ∀ p : Nat, p < n → m1 90 (p : Int) = amf (n + 1) (fun p => m 9 (p : Int)) k W p) (h : ∀ m2, FrO m1 m2 → Q (fmf w m n k W) sw m2) : M2 X 6 mY_oddsNow [vr 84] sw m1 Q := by
  have h9 := hp.n9
  obtain ⟨hI, hn, hP, hW, hH, -⟩ := hp
  have hp12 := p12 h9
  have g1 : ∀ c j : Int, HK c j → ¬ c = 90 → m1 c j = m c j := fun c j q q2 => by
    rw [f1 c j (by unfold HK at q; omega) (by unfold HK at q; omega) (by omega)]; exact fM c j q
  have hk := hI.kt
  have hV : Vb (fun p => tqf w m p (amf (n + 1) (fun p => m 9 (p : Int)) k W p)) := fun p => tqf_b w m p _
  have hT := hI.tk hn
  refine wY_oddsNow _ _ _ (eY_layTwelfths (w := w) (S := shp m) (V := fun p => tqf w m p (amf (n + 1) (fun p => m 9 (p : Int)) k W p)) (n := n) ((hI.ys hn).fr (fun c j q => g1 c j (by unfold HK; omega) (by omega))) (hW.fr (fun c j q => g1 c j (by unfold HK; omega) (by omega))) h33 ?_ ?_ (fun p hpp => ?_) (fun m2 f2 hM => ?_))
  · rw [g1 91 0 (by unfold HK; omega) (by omega)]; omega
  · rw [g1 91 1 (by unfold HK; omega) (by omega)]; omega
  · have hpt := hI.pt (p := (p : Int)) (by omega) (by omega)
    have hab := amf_b (b := n + 1) (A := fun p => m 9 (p : Int)) (p := p) (show 0 ≤ m 9 (p : Int) ∧ m 9 (p : Int) ≤ 99 by omega) k W
    rw [g1 87 _ (by unfold HK; omega) (by omega), g1 89 _ (by unfold HK; omega) (by omega), g1 91 0 (by unfold HK; omega) (by omega), g1 91 1 (by unfold HK; omega) (by omega), h90 p hpp]
    refine ⟨by omega, hab, by omega, ?_⟩
    rw [hpt.2.2.1.1, hpt.2.2.2.2.1.1, hk.1.1, hk.2.1.1]; rfl
  · refine eY_endsBy hM hV (M := 999) (by decide) (fun m3 f3 => eY_whole (hM.m2 f3) ?_)
    rw [UD_m, ob_top h9 hT (by decide), if_neg (by decide), Int.one_mul, w64_id (by omega) (by omega)]
    refine ⟨by omega, ?_⟩
    exact h m3 (fun c j q1 q2 => by rw [f3 c j q1 (by omega), f2 c (by omega) (by omega) (by omega)])
theorem lY_goMends {M : Mem} {a : Nat} (hp : Pre w sw n m) (h5 : n ≤ 5) (fM : FrH m M) (ha : 1 ≤ a ∧ a ≤ 3) : ∀ (r k W D : Nat) (m1 : Mem) (Q : Int → Bool → Mem → Prop), k + r = a → 7 + r ≤ D → GI (tgf (fmf w m n) (n + 1) a) (fun p => m 9 (p : Int)) n a M k W (W * (n + 1) ^ r) m1 → (∀ m2, GI (tgf (fmf w m n) (n + 1) a) (fun p => m 9 (p : Int)) n a M k W ((W + 1) * (n + 1) ^ r) m2 → (∀ j : Int, j < 5 * (k : Int) → m2 111 j = m1 111 j) → Q 0 sw m2) → M2 X D mY_goMends [vr 84, vi (a : Int), vi (k : Int), vi (tgf (fmf w m n) (n + 1) k W)] sw m1 Q
  | 0, k, W, D, m1, Q, hk, hD, hG, h => by
    obtain ⟨d, rfl⟩ : ∃ d, D = d + 1 := ⟨D - 1, by omega⟩
    have h9 := hp.n9
    have hf := tgf_b (b := n + 1) (fun k W => fmf_b w m h9 k W) a
    have hka : k = a := by omega
    subst hka
    generalize tgf (fmf w m n) (n + 1) k = f at hf hG h ⊢
    rw [Nat.pow_zero, Nat.mul_one] at hG h
    obtain ⟨g1, g2, g3, g4, g5, g6⟩ := hG
    have hfW := hf W
    have hbc := bc_b (f := f) (n := W) (B := 3000000) (by decide) (fun p _ => by have := hf p; omega) W (Nat.le_refl _)
    have e1 := bc_s f W
    refine wY_goMends (by omega) _ _ _ _ _ _ ⟨fun q => absurd rfl q, fun _ => ?_⟩
    rw [g5, w32_id (z := (bc f W).2) (by omega) (by omega), w32_id (z := f W) (by omega) (by omega)]
    refine ⟨fun c => ?_, fun c => h m1 ⟨g1, g2, g3, g4, ?_, fun _ => ?_⟩ (fun _ _ => rfl)⟩
    · rw [if_pos c] at e1
      have key : ∀ i : Nat, i ≤ k → ∀ m2, (∀ c j : Int, ¬ (c = 84 ∧ j = 40) → ¬ c = 110 → m2 c j = m1 c j) → m2 84 40 = f W → (∀ j : Nat, j < i → m2 110 (j : Int) = m1 109 (j : Int)) → R2 X (d + 1) mY_goMends 22 [(0, vr 84), (1, vi (k : Int)), (4, vi (i : Int))] [] sw m2 Q := by
        refine downN k (fun m2 f2 e40 h2 => ?_) (fun i hi ih m2 f2 e40 h2 => ?_)
        · refine wY_goMends_22 (by omega) _ _ _ _ _ ⟨fun _ => h m2 ⟨fun c j q1 q2 q3 => ?_, ?_, fun p hpp => ?_, fun j hj => ?_, ?_, fun _ j hj => ?_⟩ (fun j hj => f2 111 j (by omega) (by omega)), fun q => absurd (Int.le_refl _) q⟩
          · rw [f2 c j (by omega) (by omega)]; exact g1 c j q1 q2 q3
          · rw [f2 84 33 (by omega) (by omega)]; exact g2
          · rw [f2 90 _ (by omega) (by omega)]; exact g3 p hpp
          · rw [f2 109 _ (by omega) (by omega)]; exact g4 j hj
          · rw [e1]; exact e40
          · rw [e1, h2 j hj, g4 j hj]; rfl
        · refine wY_goMends_22 (by omega) _ _ _ _ _ ?_
          rw [w32_id (z := (k : Int)) (by omega) (by omega), w32_id (z := (i : Int)) (by omega) (by omega)]
          refine ⟨fun q => by omega, fun _ => ⟨by omega, by omega, ih _ (fun c j q1 q2 => by rw [upm_row q2]; exact f2 c j q1 q2) (by rw [upm_row (by omega)]; exact e40) (fun j hj => ?_)⟩⟩
          rw [upm_at]
          by_cases cj : j = i
          · subst cj; rw [if_pos rfl, f2 109 _ (by omega) (by omega)]
          · rw [if_neg (by omega)]; exact h2 j (by omega)
      exact key 0 (Nat.zero_le _) _ (fun c j q1 _ => upm_ne (by omega)) (by rw [upm_at, if_pos rfl]) (fun j hj => absurd hj (Nat.not_lt_zero _))
    · rw [e1, if_neg c]; exact g5
    · rw [e1, if_neg c]
      by_cases cW : 1 ≤ W
      · exact g6 cW
      · have : W = 0 := by omega
        subst this
        exact absurd (show (-1 : Int) < f 0 by omega) c
  | r + 1, k, W, D, m1, Q, hk, hD, hG, h => by
    obtain ⟨d, rfl⟩ : ∃ d, D = d + 1 := ⟨D - 1, by omega⟩
    have h9 := hp.n9
    have hf := tgf_b (b := n + 1) (fun k W => fmf_b w m h9 k W) a
    have ih0 := fun W => lY_goMends hp h5 fM ha r (k + 1) W d
    have tg_s : ∀ d, d < n + 1 → tgf (fmf w m n) (n + 1) (k + 1) (W * (n + 1) + d) = tgf (fmf w m n) (n + 1) k W + fmf w m n k (W * (n + 1) + d) := fun d hd => by
      show tgf (fmf w m n) (n + 1) k ((W * (n + 1) + d) / (n + 1)) + _ = _
      rw [(wb_m hd).2]
    have am_e : ∀ d, d < n + 1 → ∀ p, amf (n + 1) (fun p => m 9 (p : Int)) k (W * (n + 1) + d) p = if d = p + 1 then 0 else abf (n + 1) (fun p => m 9 (p : Int)) k W p := fun d hd p => by
      unfold amf
      rw [(wb_m hd).1, (wb_m hd).2]
    have hab : ∀ p : Nat, p < n → 0 ≤ abf (n + 1) (fun p => m 9 (p : Int)) k W p ∧ abf (n + 1) (fun p => m 9 (p : Int)) k W p ≤ 99 := fun p hpp => by
      have hpt := (hp.1.pt (p := (p : Int)) (by omega) (by have := hp.2.1; omega)).2.2.2.2.2
      exact abf_b (b := n + 1) (A := fun p => m 9 (p : Int)) (p := p) (show 0 ≤ m 9 (p : Int) ∧ m 9 (p : Int) ≤ 99 by omega) k W
    have ab_s : ∀ d, d < n + 1 → ∀ p, abf (n + 1) (fun p => m 9 (p : Int)) (k + 1) (W * (n + 1) + d) p = min 99 ((if d = p + 1 then 0 else abf (n + 1) (fun p => m 9 (p : Int)) k W p) + 1) := fun d hd p => by
      rw [abf_s, am_e d hd]
    generalize hFe : tgf (fmf w m n) (n + 1) a = f at hf hG h ih0
    generalize hA : (fun p : Nat => m 9 (p : Int)) = A at *
    have y1 : ∀ m2, FrMd n M m2 → m2 84 1 = (n : Int) := fun m2 f2 => by
      rw [f2 84 1 (by omega) (by omega) (by omega)]; exact hp.y1 fM
    have e_r : ∀ V, V * (n + 1) ^ (r + 1) = V * (n + 1) * (n + 1) ^ r := fun V => by
      rw [Nat.pow_succ, Nat.mul_comm ((n + 1) ^ r), Nat.mul_assoc]
    rw [e_r] at hG h
    -- over the digits
    have digs : ∀ dd : Nat, dd ≤ n + 1 → ∀ m3, GI f A n a M k W ((W * (n + 1) + dd) * (n + 1) ^ r) m3 → (∀ j : Int, j < 5 * (k : Int) → m3 111 j = m1 111 j) → (∀ q : Nat, q < n → m3 111 (5 * (k : Int) + (q : Int)) = abf (n + 1) A k W q) → R2 X (d + 1) mY_goMends 88 [(0, vr 84), (1, vi (a : Int)), (2, vi (k : Int)), (3, vi (tgf (fmf w m n) (n + 1) k W)), (4, vi ((dd : Int) - 1))] [] sw m3 Q := by
      refine downN (n + 1) (fun m3 hG3 h3 h3s => ?_) (fun dd hdd ih m3 hG3 h3 h3s => ?_)
      · refine wY_goMends_88 (by omega) _ _ _ _ _ _ _ ?_
        rw [y1 m3 hG3.1, show ((n + 1 : Nat) : Int) - 1 = (n : Int) by omega]
        refine ⟨fun _ => h m3 ?_ h3, fun q => absurd (Int.le_refl _) q⟩
        rw [Nat.add_mul, Nat.one_mul]; exact hG3
      · obtain ⟨g1, g2, g3, g4, g5, g6⟩ := hG3
        have e4 : ∀ m2, FrO m2 m2 := fun _ _ _ _ _ => rfl
        -- behind the weighing
        have after : ∀ m4, (∀ c j : Int, ¬ (c = 84 ∧ (j = 30 ∨ j = 31)) → ¬ (102 ≤ c ∧ c ≤ 105) → ¬ (c = 90 ∧ 0 ≤ j ∧ j < (n : Int)) → ¬ (c = 109 ∧ j = (k : Int)) → m4 c j = m3 c j) → m4 109 (k : Int) = (dd : Int) - 1 → (∀ p : Nat, p < n → m4 90 (p : Int) = if dd = p + 1 then 0 else abf (n + 1) A k W p) → R2 X (d + 1) mY_goMends 127 [(0, vr 84), (1, vi (a : Int)), (2, vi (k : Int)), (3, vi (tgf (fmf w m n) (n + 1) k W)), (4, vi ((dd : Int) - 1)), (5, vi (fmf w m n k (W * (n + 1) + dd))), (6, vi 0)] [] sw m4 Q := by
          intro m4 f4 e109 e90
          have loop : ∀ p : Nat, p ≤ n → ∀ m5, (∀ c j : Int, ¬ (c = 90 ∧ 0 ≤ j ∧ j < (n : Int)) → m5 c j = m4 c j) → (∀ q : Nat, q < n → m5 90 (q : Int) = if q < p then abf (n + 1) A (k + 1) (W * (n + 1) + dd) q else if dd = q + 1 then 0 else abf (n + 1) A k W q) → R2 X (d + 1) mY_goMends 127 [(0, vr 84), (1, vi (a : Int)), (2, vi (k : Int)), (3, vi (tgf (fmf w m n) (n + 1) k W)), (4, vi ((dd : Int) - 1)), (5, vi (fmf w m n k (W * (n + 1) + dd))), (6, vi (p : Int))] [] sw m5 Q := by
            refine downN n (fun m5 f5 h5_ => ?_) (fun p hpp ihp m5 f5 h5_ => ?_)
            · have e84 : m5 84 1 = (n : Int) := by rw [f5 84 1 (by omega), f4 84 1 (by omega) (by omega) (by omega) (by omega)]; exact y1 m3 g1
              refine wY_goMends_127 (by omega) _ _ _ _ _ _ _ _ _ ?_
              rw [e84, ← tg_s dd hdd]
              refine ⟨fun _ => ?_, fun q => absurd (Int.le_refl _) q⟩
              refine ih0 (W * (n + 1) + dd) m5 _ (by omega) (by omega) ⟨fun c j q1 q2 q3 => ?_, ?_, fun p hpp => ?_, fun j hj => ?_, ?_, fun q j hj => ?_⟩ (fun m6 hG6 h6 => ?_)
              · rw [f5 c j q3, f4 c j (by omega) (by omega) q3 (by omega)]; exact g1 c j q1 q2 q3
              · rw [f5 84 33 (by omega), f4 84 33 (by omega) (by omega) (by omega) (by omega)]; exact g2
              · rw [h5_ p hpp, if_pos hpp]
              · by_cases cj : j = k
                · subst cj
                  rw [f5 109 _ (by omega), e109, dwj_e hdd]
                · rw [f5 109 _ (by omega), f4 109 _ (by omega) (by omega) (by omega) (by omega), dwj_s hdd (by omega)]
                  exact g4 j (by omega)
              · rw [f5 84 40 (by omega), f4 84 40 (by omega) (by omega) (by omega) (by omega)]; exact g5
              · rw [f5 110 _ (by omega), f4 110 _ (by omega) (by omega) (by omega) (by omega)]; exact g6 q j hj
              · obtain ⟨i1, i2, i3, i4, i5, i6⟩ := hG6
                have s6 : ∀ q : Nat, q < n → m6 111 (5 * (k : Int) + (q : Int)) = abf (n + 1) A k W q := fun q hq => by
                  rw [h6 _ (by omega), f5 111 _ (by omega), f4 111 _ (by omega) (by omega) (by omega) (by omega)]; exact h3s q hq
                have back : ∀ p : Nat, p ≤ n → ∀ m7, (∀ c j : Int, ¬ (c = 90 ∧ 0 ≤ j ∧ j < (n : Int)) → m7 c j = m6 c j) → (∀ q : Nat, q < p → m7 90 (q : Int) = abf (n + 1) A k W q) → R2 X (d + 1) mY_goMends 180 [(0, vr 84), (1, vi (a : Int)), (2, vi (k : Int)), (3, vi (tgf (fmf w m n) (n + 1) k W)), (4, vi ((dd : Int) - 1)), (6, vi (p : Int))] [] sw m7 Q := by
                  refine downN n (fun m7 f7 h7 => ?_) (fun p hpp ihp m7 f7 h7 => ?_)
                  · refine wY_goMends_180 (by omega) _ _ _ _ _ _ _ _ ?_
                    rw [f7 84 1 (by omega), y1 m6 i1, show (dd : Int) - 1 + 1 = ((dd + 1 : Nat) : Int) - 1 by omega]
                    refine ⟨fun _ => ih m7 ⟨fun c j q1 q2 q3 => ?_, ?_, h7, fun j hj => ?_, ?_, fun q j hj => ?_⟩ (fun j hj => ?_) (fun q hq => ?_), fun q => absurd (Int.le_refl _) q⟩
                    · rw [f7 c j q3]; exact i1 c j q1 q2 q3
                    · rw [f7 84 33 (by omega)]; exact i2
                    · rw [f7 109 _ (by omega), i4 j (by omega), dwj_s hdd hj]
                    · rw [f7 84 40 (by omega)]; exact i5
                    · rw [f7 110 _ (by omega)]; exact i6 q j hj
                    · rw [f7 111 _ (by omega), h6 j (by omega), f5 111 _ (by omega), f4 111 _ (by omega) (by omega) (by omega) (by omega)]; exact h3 j hj
                    · rw [f7 111 _ (by omega)]; exact s6 q hq
                  · refine wY_goMends_180 (by omega) _ _ _ _ _ _ _ _ ?_
                    rw [f7 84 1 (by omega), y1 m6 i1, w32_id (z := (n : Int)) (by omega) (by omega), w32_id (z := (p : Int)) (by omega) (by omega), w32_id (z := 5 * (k : Int) + (p : Int)) (by omega) (by omega), f7 111 _ (by omega), s6 p hpp]
                    refine ⟨fun q => by omega, fun _ => ⟨by omega, by omega, ihp _ (fun c j q => by rw [upm_ne (by omega)]; exact f7 c j q) (fun q hq => ?_)⟩⟩
                    rw [upm_at]
                    by_cases cq : q = p
                    · subst cq; rw [if_pos rfl]
                    · rw [if_neg (by omega)]; exact h7 q (by omega)
                exact back 0 (Nat.zero_le _) m6 (fun _ _ _ => rfl) (fun q hq => absurd hq (Nat.not_lt_zero _))
            · have e84 : m5 84 1 = (n : Int) := by rw [f5 84 1 (by omega), f4 84 1 (by omega) (by omega) (by omega) (by omega)]; exact y1 m3 g1
              have hap := hab p hpp
              have hv := h5_ p hpp
              rw [if_neg (Nat.lt_irrefl p)] at hv
              refine wY_goMends_127 (by omega) _ _ _ _ _ _ _ _ _ ?_
              rw [e84, w32_id (z := (n : Int)) (by omega) (by omega), w32_id (z := (p : Int)) (by omega) (by omega), hv]
              have hb : 0 ≤ (if dd = p + 1 then 0 else abf (n + 1) A k W p) ∧ (if dd = p + 1 then 0 else abf (n + 1) A k W p) ≤ 99 := by
                split
                · decide
                · exact hap
              have hs := ab_s dd hdd p
              generalize (if dd = p + 1 then 0 else abf (n + 1) A k W p) = v at hb hs hv ⊢
              rw [w32_id (z := v) (by omega) (by omega)]
              refine ⟨fun q => by omega, fun _ => ⟨by omega, fun c => ihp m5 f5 (fun q hq => ?_), fun c => ⟨by omega, by omega, ihp _ (fun c j q => by rw [upm_ne (by omega)]; exact f5 c j q) (fun q hq => ?_)⟩⟩⟩
              · by_cases cq : q = p
                · subst cq
                  rw [if_pos (Nat.lt_succ_self q), hv, hs]; omega
                · rw [h5_ q hq]
                  by_cases c2 : q < p
                  · rw [if_pos c2, if_pos (by omega)]
                  · rw [if_neg c2, if_neg (show ¬ q < p + 1 by omega)]
              · rw [upm_at]
                by_cases cq : q = p
                · subst cq
                  rw [if_pos rfl, if_pos (Nat.lt_succ_self q), hs]; omega
                · rw [if_neg (by omega), h5_ q hq]
                  by_cases c2 : q < p
                  · rw [if_pos c2, if_pos (by omega)]
                  · rw [if_neg c2, if_neg (show ¬ q < p + 1 by omega)]
          exact loop 0 (Nat.zero_le _) m4 (fun _ _ _ => rfl) (fun q hq => by rw [if_neg (Nat.not_lt_zero _)]; exact e90 q hq)
        refine wY_goMends_88 (by omega) _ _ _ _ _ _ _ ?_
        rw [y1 m3 g1, w32_id (z := (n : Int)) (by omega) (by omega), w32_id (z := (dd : Int) - 1) (by omega) (by omega), w32_id (z := (k : Int)) (by omega) (by omega)]
        refine ⟨fun q => by omega, fun _ => ⟨by omega, fun c => ?_, fun c => ⟨by omega, ?_⟩⟩⟩
        · refine eY_oddsNow (M := M) (k := k) (W := W * (n + 1) + dd) hp fM (fun c j q1 q2 q3 => by rw [upm_ne (by omega)]; exact g1 c j q1 q2 q3) (by rw [upm_row (by omega)]; exact g2) (fun p hpp => ?_) (fun m4 f4 => after m4 (fun c j q1 q2 q3 q4 => ?_) ?_ (fun p hpp => ?_))
          · rw [hA, am_e dd hdd, if_neg (by omega), upm_row (by omega)]; exact g3 p hpp
          · rw [f4 c j q1 q2, upm_ne (by omega)]
          · rw [f4 109 _ (by omega) (by omega), upm_at, if_pos rfl]
          · rw [f4 90 _ (by omega) (by omega), upm_row (by omega), if_neg (by omega)]; exact g3 p hpp
        · have e90 : ∀ p : Nat, p < n → upm (upm m3 109 (k : Int) ((dd : Int) - 1)) 90 ((dd : Int) - 1) 0 90 (p : Int) = if dd = p + 1 then 0 else abf (n + 1) A k W p := fun p hpp => by
            rw [upm_at]
            by_cases cp : dd = p + 1
            · rw [if_pos (by omega), if_pos cp]
            · rw [if_neg (by omega), if_neg cp, upm_row (by omega)]; exact g3 p hpp
          refine eY_oddsNow (M := M) (k := k) (W := W * (n + 1) + dd) hp fM (fun c j q1 q2 q3 => by rw [upm_ne (by omega), upm_ne (by omega)]; exact g1 c j q1 q2 q3) (by rw [upm_row (by omega), upm_row (by omega)]; exact g2) (fun p hpp => ?_) (fun m4 f4 => after m4 (fun c j q1 q2 q3 q4 => ?_) ?_ (fun p hpp => ?_))
          · rw [hA, am_e dd hdd]; exact e90 p hpp
          · rw [f4 c j q1 q2, upm_ne (by omega), upm_ne (by omega)]
          · rw [f4 109 _ (by omega) (by omega), upm_row (by omega), upm_at, if_pos rfl]
          · rw [f4 90 _ (by omega) (by omega)]; exact e90 p hpp
    -- keep the ages
    obtain ⟨g1, g2, g3, g4, g5, g6⟩ := hG
    have keep : ∀ p : Nat, p ≤ n → ∀ m2, (∀ c j : Int, ¬ c = 111 → m2 c j = m1 c j) → (∀ j : Int, j < 5 * (k : Int) → m2 111 j = m1 111 j) → (∀ q : Nat, q < p → m2 111 (5 * (k : Int) + (q : Int)) = abf (n + 1) A k W q) → R2 X (d + 1) mY_goMends 52 [(0, vr 84), (1, vi (a : Int)), (2, vi (k : Int)), (3, vi (tgf (fmf w m n) (n + 1) k W)), (4, vi (p : Int))] [] sw m2 Q := by
      refine downN n (fun m2 f2 h2 h2s => ?_) (fun p hpp ih m2 f2 h2 h2s => ?_)
      · refine wY_goMends_52 (by omega) _ _ _ _ _ _ _ ?_
        rw [f2 84 1 (by omega), y1 m1 g1]
        refine ⟨fun _ => digs 0 (Nat.zero_le _) m2 ⟨fun c j q1 q2 q3 => ?_, ?_, fun p hpp => ?_, fun j hj => ?_, ?_, fun q j hj => ?_⟩ h2 h2s, fun q => absurd (Int.le_refl _) q⟩
        · rw [f2 c j (by omega)]; exact g1 c j q1 q2 q3
        · rw [f2 84 33 (by omega)]; exact g2
        · rw [f2 90 _ (by omega)]; exact g3 p hpp
        · rw [f2 109 _ (by omega)]; exact g4 j hj
        · rw [f2 84 40 (by omega), Nat.add_zero]; exact g5
        · rw [f2 110 _ (by omega), Nat.add_zero]; rw [Nat.add_zero] at q; exact g6 q j hj
      · refine wY_goMends_52 (by omega) _ _ _ _ _ _ _ ?_
        rw [f2 84 1 (by omega), y1 m1 g1, w32_id (z := (n : Int)) (by omega) (by omega), w32_id (z := (p : Int)) (by omega) (by omega), w32_id (z := 5 * (k : Int) + (p : Int)) (by omega) (by omega), f2 90 _ (by omega), g3 p hpp]
        refine ⟨fun q => by omega, fun _ => ⟨by omega, by omega, ih _ (fun c j q => by rw [upm_row q]; exact f2 c j q) (fun j hj => ?_) (fun q hq => ?_)⟩⟩
        · rw [upm_at, if_neg (by omega)]; exact h2 j hj
        · rw [upm_at]
          by_cases cq : q = p
          · subst cq; rw [if_pos rfl]
          · rw [if_neg (by omega)]; exact h2s q (by omega)
    refine wY_goMends (by omega) _ _ _ _ _ _ ⟨fun _ => keep 0 (Nat.zero_le _) m1 (fun _ _ _ => rfl) (fun _ _ => rfl) (fun q hq => absurd hq (Nat.not_lt_zero _)), fun q => absurd (fun e => ?_) q⟩
    rw [w32_id (z := (k : Int)) (by omega) (by omega), w32_id (z := (a : Int)) (by omega) (by omega)] at e
    omega
theorem pr_mending {a b : Int} (ha : w32 a = a) (hb : w32 b = b) (hp : Pre w sw n m) {QQ : Int → Int → Bool → Mem → Prop} (h : ∀ z m', Fin w m m' → QQ z z sw m') : M2 X 7 mZ_mending [vr 1, vi a, vi b] sw m (fun z1 sw1 m1 => M2 X 21 mY_mending [vr 84, vi a, vi b] sw1 m1 (fun z2 sw2 m2 => QQ z1 z2 sw2 m2)) := by
  have h9 := hp.n9
  have hn := hp.2.1
  have n1 := hp.y1 (FrH.rf m)
  have hbad : ¬ ((1 ≤ a ∧ a ≤ 3) ∧ -1 ≤ b) → M2 X 21 mY_mending [vr 84, vi a, vi b] sw m (fun z2 sw2 m2 => QQ (-3) z2 sw2 m2) := fun q => by
    refine wY_mending _ _ _ _ _ (eY_in ha (by decide) (by decide) ?_)
    rw [bz_w, bz_0, hb]
    exact ⟨fun _ => h _ m hp.same, fun c => ⟨fun c2 => absurd ⟨Decidable.not_not.mp c, c2⟩ q, fun _ => h _ m hp.same⟩⟩
  refine wZ_mending _ _ _ _ _ ?_
  rw [ha, hb, hn, w32_id (z := (n : Int)) (by omega) (by omega)]
  refine ⟨fun c => hbad (by omega), fun c => ⟨fun c2 => hbad (by omega), fun c2 => ⟨fun c3 => ⟨fun c5 => ?_, fun c5 => ?_⟩, fun c3 => hbad (by omega)⟩⟩⟩
  · refine hp.think (fun m2 hm => ?_)
    obtain ⟨A, rfl⟩ : ∃ A : Nat, a = (A : Int) := ⟨a.toNat, by omega⟩
    have hf := tgf_b (b := n + 1) (fun k W => fmf_b w m h9 k W) A
    have hpw := pw_6 (b := n + 1) (k := A) (by omega) (by omega)
    have hb1 : 1 ≤ (n + 1) ^ A := Nat.one_le_pow _ _ (Nat.succ_pos n)
    refine eN_bestWay hp (by omega) hm (by omega) (fun m3 f3 e7 h3 => ?_)
    have hm3 := hm.fz f3 hn h9
    -- the model
    have mdl : ∀ z : Int, z = (if 0 ≤ b then (if (A : Int) ≤ b then -2 else (dwj (n + 1) A (bc (tgf (fmf w m n) (n + 1) A) ((n + 1) ^ A)).1.toNat b.toNat : Int) - 1) else (bc (tgf (fmf w m n) (n + 1) A) ((n + 1) ^ A)).2) → M2 X 21 mY_mending [vr 84, vi (A : Int), vi b] sw m3 (fun z2 sw2 m2 => QQ z z2 sw2 m2) := by
      intro z hz
      have y1 : m3 84 1 = (n : Int) := hp.y1 hm3.1
      have e90 : ∀ p : Nat, p < n → m3 90 (p : Int) = m 9 (p : Int) := fun p hpp => by
        rw [hm3.1 90 _ (by unfold HK; omega)]
        exact (hp.1.pt (p := (p : Int)) (by omega) (by omega)).2.2.2.2.2.1
      refine wY_mending _ _ _ _ _ (eY_in ha (by decide) (by decide) ?_)
      rw [bz_w, bz_0, hb, y1, w32_id (z := (n : Int)) (by omega) (by omega)]
      refine ⟨fun q => by omega, fun _ => ⟨fun _ => ⟨fun _ => ?_, fun q => absurd c5 q⟩, fun q => absurd c3 q⟩⟩
      refine lY_goMends hp (by omega) hm3.1 (by omega) A 0 0 20 _ _ (by omega) (by omega) (M := m3) ⟨fun c j q1 q2 q3 => upm_ne (by omega), ?_, fun p hpp => ?_, fun j hj => absurd hj (Nat.not_lt_zero _), ?_, fun q => ?_⟩ (fun m4 hG _ => ?_)
      · rw [upm_at, if_neg (by omega)]; exact hm3.2.2.2.2.2
      · rw [upm_row (by omega)]; exact e90 p hpp
      · rw [upm_at, if_pos rfl, Nat.zero_mul]; rfl
      · rw [Nat.zero_mul] at q; exact absurd q (by decide)
      · obtain ⟨g1, g2, g3, -, g5, g6⟩ := hG
        rw [Nat.zero_add, Nat.one_mul] at g5 g6
        have hfr : FrY9 m3 m4 := fun c j q1 q2 => by
          by_cases cc : c = 90 ∧ 0 ≤ j ∧ j < (n : Int)
          · obtain ⟨rfl, j0, j1⟩ := cc
            have e3 := g3 j.toNat (by omega)
            rw [show ((j.toNat : Nat) : Int) = j by omega] at e3
            have e4 := e90 j.toNat (by omega)
            rw [show ((j.toNat : Nat) : Int) = j by omega] at e4
            rw [e3, e4]
            show m 9 ((j.toNat : Nat) : Int) = m 9 j
            rw [show ((j.toNat : Nat) : Int) = j by omega]
          · exact g1 c j q1 q2 cc
        have fin := h z m4 (hm3.fin hn h9 hfr g2)
        rw [ha]
        refine ⟨fun q => ⟨fun q2 => ?_, fun q2 => ⟨by omega, ?_⟩⟩, fun q => ?_⟩
        · rw [if_pos q, if_pos q2] at hz; rw [hz] at fin ⊢; exact fin
        · have e := g6 hb1 b.toNat (by omega)
          rw [show ((b.toNat : Nat) : Int) = b by omega] at e
          rw [if_pos q, if_neg q2] at hz
          rw [e, ← hz]; exact fin
        · rw [if_neg q] at hz; rw [g5, ← hz]; exact fin
    obtain ⟨q, q1, q2, q3⟩ := bc_i (f := tgf (fmf w m n) (n + 1) A) (hf 0).1 ((n + 1) ^ A) hb1
    rw [q2, q3] at mdl
    rw [q2]
    refine ⟨fun c6 => ⟨fun c7 => mdl _ ?_, fun c7 => ?_⟩, fun c6 => ?_⟩
    · rw [if_pos (by omega), if_pos c7]
    · obtain ⟨B, rfl⟩ : ∃ B : Nat, b = (B : Int) := ⟨b.toNat, by omega⟩
      refine eN_whom (b := n + 1) (k := A) (j := B) e7 (by omega) (by omega) (by omega) (by omega) (mdl _ ?_)
      rw [if_pos (by omega), if_neg c7]; rfl
    · refine wN_togetherOf _ _ _ _ _ ?_
      rw [w32_id (z := (A : Int) - 1) (by omega) (by omega), w32_id (z := (q : Int)) (by omega) (by omega), h3 q q1]
      refine ⟨by omega, by omega, mdl _ ?_⟩
      rw [if_neg (by omega)]
  · refine wY_mending _ _ _ _ _ (eY_in ha (by decide) (by decide) ?_)
    rw [bz_w, bz_0, hb, n1, w32_id (z := (n : Int)) (by omega) (by omega)]
    exact ⟨fun q => by omega, fun _ => ⟨fun _ => ⟨fun q => absurd q c5, fun _ => h _ m hp.same⟩, fun q => absurd c3 q⟩⟩
end ME
