/-! deeds: morning, mended, led, image, back in pairs -/
def bcx (a : Int) : Int := (zand (((zand (((zand (a - (zand (zushr a 1) 1431655765)) 858993459) + (zand (zushr (a - (zand (zushr a 1) 1431655765)) 2) 858993459)) + (zushr ((zand (a - (zand (zushr a 1) 1431655765)) 858993459) + (zand (zushr (a - (zand (zushr a 1) 1431655765)) 2) 858993459)) 4)) 252645135) + (zushr (zand (((zand (a - (zand (zushr a 1) 1431655765)) 858993459) + (zand (zushr (a - (zand (zushr a 1) 1431655765)) 2) 858993459)) + (zushr ((zand (a - (zand (zushr a 1) 1431655765)) 858993459) + (zand (zushr (a - (zand (zushr a 1) 1431655765)) 2) 858993459)) 4)) 252645135) 8)) + (zushr ((zand (((zand (a - (zand (zushr a 1) 1431655765)) 858993459) + (zand (zushr (a - (zand (zushr a 1) 1431655765)) 2) 858993459)) + (zushr ((zand (a - (zand (zushr a 1) 1431655765)) 858993459) + (zand (zushr (a - (zand (zushr a 1) 1431655765)) 2) 858993459)) 4)) 252645135) + (zushr (zand (((zand (a - (zand (zushr a 1) 1431655765)) 858993459) + (zand (zushr (a - (zand (zushr a 1) 1431655765)) 2) 858993459)) + (zushr ((zand (a - (zand (zushr a 1) 1431655765)) 858993459) + (zand (zushr (a - (zand (zushr a 1) 1431655765)) 2) 858993459)) 4)) 252645135) 8)) 16)) 63)
def pcf : Nat → Nat → Nat
  | 0, _ => 0
  | f + 1, s => if s = 0 then 0 else 1 + pcf f (s &&& (s - 1))
def pcz : Nat → Nat → Nat
  | 0, s => s
  | f + 1, s => pcz f (s &&& (s - 1))
theorem bc_all : ∀ s : _root_.Fin 512, bcx ((s : Nat) : Int) = ((pcf 10 (s : Nat) : Nat) : Int) ∧ pcz 10 (s : Nat) = 0 := by decide +kernel
def ID (m : Mem) : Prop := (∀ j : Int, 0 ≤ j → j < 6 → m 112 j = m 61 j) ∧ (m 60 6 = 0 ∨ m 60 6 = 1) ∧ m 84 43 = m 60 6 ∧ (m 60 6 = 1 → 0 ≤ m 60 5 ∧ m 60 5 ≤ m 2 3 ∧ m 84 44 = m 60 5 ∧ (∀ p : Int, 0 ≤ p → p < m 60 5 → m 113 p = m 63 p ∧ 0 ≤ m 63 p ∧ m 63 p ≤ 99) ∧ ∀ j : Int, 0 ≤ j → j < 6 → m 114 j = m 62 j)
def DD (c j : Int) : Prop := (c = 60 ∧ (j = 5 ∨ j = 6)) ∨ (61 ≤ c ∧ c ≤ 63) ∨ (c = 84 ∧ (j = 43 ∨ j = 44)) ∨ (112 ≤ c ∧ c ≤ 114)
theorem ID.fr {m m' : Mem} (h : ID m) (q : m 2 3 ≤ m' 2 3) (f : ∀ c j : Int, DD c j → m' c j = m c j) : ID m' := by
  obtain ⟨h1, h2, h3, h4⟩ := h
  unfold ID
  rw [f 60 6 (by unfold DD; omega), f 84 43 (by unfold DD; omega), f 60 5 (by unfold DD; omega), f 84 44 (by unfold DD; omega)]
  refine ⟨fun j j0 j1 => ?_, h2, h3, fun e => ?_⟩
  · rw [f 112 j (by unfold DD; omega), f 61 j (by unfold DD; omega)]; exact h1 j j0 j1
  · obtain ⟨a1, a2, a3, a4, a5⟩ := h4 e
    refine ⟨a1, by omega, a3, fun p p0 p1 => ?_, fun j j0 j1 => ?_⟩
    · rw [f 113 p (by unfold DD; omega), f 63 p (by unfold DD; omega)]; exact a4 p p0 p1
    · rw [f 114 j (by unfold DD; omega), f 62 j (by unfold DD; omega)]; exact a5 j j0 j1
theorem IK.age {m m' : Mem} (hI : IK m) (h : ∀ p : Int, 0 ≤ p → p < m 2 3 → m' 90 p = m' 9 p ∧ 0 ≤ m' 9 p ∧ m' 9 p ≤ 99) (h0 : ∀ p : Int, m 2 3 ≤ p → m' 9 p = m 9 p) (f : ∀ c j : Int, DK c j → ¬ c = 9 → ¬ c = 90 → m' c j = m c j) : IK m' := by
  obtain ⟨i1, i2, i3, i4, i5⟩ := hI
  have e3 : m' 2 3 = m 2 3 := f 2 3 (Or.inl ⟨rfl, rfl⟩) (by omega) (by omega)
  unfold IK
  rw [e3, f 84 1 (Or.inr (Or.inr (Or.inr ⟨rfl, rfl⟩))) (by omega) (by omega)]
  refine ⟨i1, i2, i3, fun w a p => ?_, fun w a p q r => ?_⟩
  · have hk := kc_ki w a
    have p' := p
    unfold vp at p'
    by_cases c : w = 5
    · subst c
      have hh := h a (by omega) (by omega)
      rw [show kc 5 = 90 from rfl, show ki 5 a = a from rfl, show (4 : Int) + 5 = 9 from rfl]
      exact ⟨hh.1, hh.2.1, hh.2.2, fun q => absurd q (by decide)⟩
    · rw [f (4 + w) a (by unfold DK; omega) (by omega) (by omega), f (kc w) (ki w a) (by unfold DK; omega) (by omega) (by omega)]
      exact i4 w a p
  · by_cases c : w = 5
    · subst c
      rw [show (4 : Int) + 5 = 9 from rfl, h0 a q]
      exact i5 5 a p q r
    · rw [f (4 + w) a (by unfold DK; omega) (by omega) (by omega)]
      exact i5 w a p q r
theorem KW.age {m m' : Mem} {q b : Int} (hq : 0 ≤ q ∧ q ≤ b) (h4 : m' 2 4 = m 2 4 + q) (h5 : m' 2 5 = m 2 5) (h3 : m' 2 3 = m 2 3) (hr : ∀ c j : Int, 4 ≤ c → c ≤ 16 → ¬ c = 9 → m' c j = m c j) (h9 : q = 0 → ∀ j, m' 9 j = m 9 j) : KW b m m' := by
  have er : ∀ c : Int, 4 ≤ c → c ≤ 16 → ¬ c = 9 → m' c = m c := fun c a1 a2 a3 => funext fun j => hr c j a1 a2 a3
  refine ⟨by omega, by omega, by omega, by omega, by omega, fun _ => ⟨h3, er 4 (by omega) (by omega) (by omega), er 5 (by omega) (by omega) (by omega), er 7 (by omega) (by omega) (by omega)⟩, fun e => ⟨h3, fun c a1 a2 => ?_⟩⟩
  by_cases c9 : c = 9
  · rw [c9]; exact funext fun j => h9 (by omega) j
  · exact er c a1 a2 c9
theorem IP.kw {m m' : Mem} {b : Int} (h : IP m) (hK : KW b m m') (f : ∀ c j : Int, (c = 23 ∧ (j = 5 ∨ j = 6)) ∨ (25 ≤ c ∧ c ≤ 36) → m' c j = m c j) (h9 : (m 2 3).toNat ≤ 9) (hb : m' 2 5 ≤ 1000000) : IP m' := by
  obtain ⟨p1, p2_, p3, p4⟩ := h
  obtain ⟨k1, k2, k3, k4, k5, k6, k7⟩ := hK
  have e6 := f 23 6 (by omega)
  refine ⟨by omega, by omega, hb, fun e => ?_⟩
  have e5 : m' 2 5 = m 2 5 := by omega
  have hh := k6 e5
  have eS : shp m' = shp m := shp_eq (fun c j q => by
    rcases q with rfl | rfl | rfl
    · rw [hh.2.1]
    · rw [hh.2.2.1]
    · rw [hh.2.2.2])
  rw [eS, hh.1]
  exact (p4 (by omega)).fr (fun c j q => f c j (by omega)) h9
theorem IH.kw {m m' : Mem} {b : Int} {w : Option (List Ln)} (h : IH w m) (hK : KW b m m') (f : ∀ c j : Int, (c = 37 ∧ 6 ≤ j ∧ j ≤ 8) ∨ (38 ≤ c ∧ c ≤ 41) → m' c j = m c j) (hO : PO (shp m) (m 2 3).toNat m → PO (shp m) (m 2 3).toNat m') (hb : m' 2 4 ≤ 1000000) : IH w m' := by
  obtain ⟨p1, p2_, p3, p4⟩ := h
  obtain ⟨k1, k2, k3, k4, k5, k6, k7⟩ := hK
  have e8 := f 37 8 (by omega)
  refine ⟨by omega, by omega, hb, fun e => ?_⟩
  have e4 : m' 2 4 = m 2 4 := by omega
  have hh := k7 e4
  have eS : shp m' = shp m := shp_eq (fun c j q => by rw [hh.2 c (by omega) (by omega)])
  have eV : VV w m' = VV w m := VV_fr (fun c j q => by rw [hh.2 c q.1 q.2])
  rw [eS, eV, hh.1]
  have h0 := p4 (by omega)
  exact ⟨h0.1.fr (fun c j q => f c j (by omega)), hO h0.2⟩
def AG (n : Nat) (m m' : Mem) : Prop := (∀ c j : Int, ¬ c = 9 → ¬ (c = 2 ∧ j = 4) → m' c j = m c j) ∧ m' 2 4 = m 2 4 + n ∧ ∀ j : Int, m' 9 j = if 0 ≤ j ∧ j < (n : Int) then min 99 (m 9 j + 1) else m 9 j
def D1 (pc : Int) (bn : Bool) (e j : Int) : Int := (if j = 0 then 1 else 0) + (if j = 3 then pc else 0) + (if bn = true ∧ j = 4 then 1 else 0) + (if e = -1 then 0 else if j = 1 then 1 else if j = 2 then e else 0)
section DE
variable {X : Cx} {sw : Bool} {m : Mem} {Q : Int → Bool → Mem → Prop} {w : Option (List Ln)} {n : Nat}
theorem wr5 {a v : Int} : wr m 5 a v = upm (upm (upm m 9 a v) 2 4 (m 2 4 + 1)) 2 5 (m 2 5 + 0) := rfl
theorem wr5_o {a v c j : Int} (h1 : ¬ c = 9) (h2 : ¬ (c = 2 ∧ j = 4)) : wr m 5 a v c j = m c j := by
  rw [wr5]
  by_cases c5 : c = 2 ∧ j = 5
  · rw [c5.1, c5.2, upm_at, if_pos rfl]; omega
  · rw [upm_ne c5, upm_ne h2, upm_row h1]
theorem wr5_4 {a v : Int} : wr m 5 a v 2 4 = m 2 4 + 1 := by rw [wr5, upm_at, if_neg (by omega), upm_at, if_pos rfl]
theorem wr5_9 {a v j : Int} : wr m 5 a v 9 j = if j = a then v else m 9 j := by rw [wr5, upm_row (by omega), upm_row (by omega), upm_at]
theorem eK_ageAll (hI : IK m) (hn : m 2 3 = (n : Int)) (h : ∀ m2, AG n m m2 → Q 0 sw m2) : M2 X 3 mK_ageAll [vr 2] sw m Q := by
  have h9 := hI.2.1
  have key : ∀ k : Nat, k ≤ n → ∀ m1, AG k m m1 → R2 X 3 mK_ageAll 2 [(0, vr 2), (1, vi (k : Int))] [] sw m1 Q := by
    refine downN n (fun m1 hA => ?_) (fun k hk ih m1 hA => ?_)
    · refine wK_ageAll_2 _ _ _ _ ?_
      rw [hA.1 2 3 (by omega) (by omega), hn]
      exact ⟨fun _ => h m1 hA, fun c => absurd (Int.le_refl _) c⟩
    · have hp := hI.pt (p := (k : Int)) (by omega) (by omega)
      refine wK_ageAll_2 _ _ _ _ ?_
      rw [hA.1 2 3 (by omega) (by omega), hn, w32_id (z := (n : Int)) (by omega) (by omega), w32_id (z := (k : Int)) (by omega) (by omega)]
      refine ⟨fun c => by omega, fun _ => eK_told (by omega) (by decide) ?_⟩
      rw [show m1 (4 + 5) (k : Int) = m1 9 (k : Int) from rfl, hA.2.2, if_neg (by omega), w32_id (z := m 9 (k : Int) + 1) (by omega) (by omega)]
      refine eK_write (by omega) (by decide) (ih _ ⟨fun c j q1 q2 => ?_, ?_, fun j => ?_⟩)
      · rw [wr5_o q1 q2]; exact hA.1 c j q1 q2
      · rw [wr5_4, hA.2.1]; omega
      · rw [wr5_9, hA.2.2]
        by_cases c : j = (k : Int)
        · rw [if_pos c, if_pos (by omega), c]
        · rw [if_neg c]
          by_cases c2 : 0 ≤ j ∧ j < (k : Int)
          · rw [if_pos c2, if_pos (by omega)]
          · rw [if_neg c2, if_neg (by omega)]
  exact wK_ageAll _ _ _ (key 0 (Nat.zero_le _) m ⟨fun _ _ _ _ => rfl, by omega, fun j => by rw [if_neg (by omega)]⟩)
theorem eJ_bitCount {s : Nat} (hs : s < 512) (h : Q ((pcf 10 s : Nat) : Int) sw m) : M2 X 1 mJ_bitCount [vi (s : Int)] sw m Q := by
  refine wJ_bitCount _ _ _ _ ?_
  have e := (bc_all ⟨s, hs⟩).1
  show Q (bcx (s : Int)) sw m
  rw [e]; exact h
/-- a morning in deed: the class -/
def FrC (m m' : Mem) : Prop := ∀ c j : Int, ¬ (c = 2 ∧ j = 4) → ¬ c = 9 → ¬ (c = 23 ∧ (j = 5 ∨ j = 6)) → ¬ (25 ≤ c ∧ c ≤ 36) → ¬ (c = 61) → m' c j = m c j
theorem six {P : Int → Prop} (h0 : P 0) (h1 : P 1) (h2 : P 2) (h3 : P 3) (h4 : P 4) (h5 : P 5) : ∀ j : Int, 0 ≤ j → j < 6 → P j := by
  intro j a b
  have h : j = 0 ∨ j = 1 ∨ j = 2 ∨ j = 3 ∨ j = 4 ∨ j = 5 := by omega
  rcases h with rfl | rfl | rfl | rfl | rfl | rfl
  · exact h0
  · exact h1
  · exact h2
  · exact h3
  · exact h4
  · exact h5
theorem eD_live {s B C : Nat} (hI : IK m) (hn : m 2 3 = (n : Int)) (hP : IP m) (hs : s < 512) (hB : m 15 0 = (B : Int)) (hC : m 16 0 = (C : Int)) (h : ∀ mc, FrC m mc → mc 2 4 = m 2 4 + n → (∀ j : Int, mc 9 j = if 0 ≤ j ∧ j < (n : Int) then min 99 (m 9 j + 1) else m 9 j) → mc 23 6 = m 2 5 → PO (shp m) n mc → (∀ j : Int, 0 ≤ j → j < 6 → mc 61 j = m 61 j + D1 ((pcf 10 (sk (shp m) s n) : Nat) : Int) (bf (shp m) n B C s) (en (shp m) n s) j) → Q (if en (shp m) n s = -1 then -2 else en (shp m) n s) sw mc) : M2 X 6 mD_live [vr 60, vi (s : Int)] sw m Q := by
  have h9 := hI.2.1
  have h2n := p9 (k := n) (by omega)
  have hkt := hI.kt
  have hT := hI.tk hn
  have hml := Nat.mod_lt s (show 0 < 2 ^ n by omega)
  have hsl := sk_lt (shp m) s n
  have hgl := go_lt (shp m) s n
  have heb := en_b hT (by omega) s
  refine wD_live _ _ _ _ (eP_follow hI hn hP (fun m1 f1 e6 hPO => wP_endOf _ _ _ _ ?_))
  rw [hPO.1, mask_z (by omega) (by omega), w32_id (z := ((s % 2 ^ n : Nat) : Int)) (by omega) (by omega), hPO.2.2 _ hml, en_mod]
  refine ⟨by omega, wP_stuckOf _ _ _ _ ?_⟩
  rw [upm_row (by omega), upm_row (by omega), hPO.1, mask_z (by omega) (by omega), w32_id (z := ((s % 2 ^ n : Nat) : Int)) (by omega) (by omega), (hPO.2.1.2 _ hml).2, sk_mod]
  refine ⟨by omega, eJ_bitCount (by omega) (wP_goersOf _ _ _ _ ?_)⟩
  rw [upm_row (c := 23) (by omega), upm_row (c := 23) (by omega), upm_row (c := 34) (by omega), upm_row (c := 34) (by omega), hPO.1, mask_z (by omega) (by omega), w32_id (z := ((s % 2 ^ n : Nat) : Int)) (by omega) (by omega), (hPO.2.1.2 _ hml).1, go_mod]
  refine ⟨by omega, ?_⟩
  generalize hpc : ((pcf 10 (sk (shp m) s n) : Nat) : Int) = pc at h
  have h61 : ∀ j : Int, m1 61 j = m 61 j := fun j => f1 61 j (by omega) (by omega)
  have hbf := bf_t (S := shp m) (n := n) (B := B) (C := C) (s := s)
  -- behind the ages
  have last : ∀ (mb : Mem), (∀ c j : Int, ¬ c = 61 → mb c j = m1 c j) → (∀ j : Int, 0 ≤ j → j < 6 → mb 61 j = m 61 j + D1 pc (bf (shp m) n B C s) (-1) j) → M2 X 3 mK_ageAll [vr 2] sw mb (fun z7 sw7 m7 => ((¬ w32 (en (shp m) n s) = (-1) → Q (en (shp m) n s) sw7 (upm (upm m7 61 1 ((m7 61 1) + 1)) 61 2 ((m7 61 2) + (en (shp m) n s)))) ∧ (¬ (¬ w32 (en (shp m) n s) = (-1)) → Q (-2) sw7 m7))) := by
    intro mb fb gb
    have gI : ∀ c j : Int, DK c j → mb c j = m c j := fun c j q => by
      unfold DK at q
      rw [fb c j (by omega)]; exact f1 c j (by omega) (by omega)
    refine eK_ageAll (hI.fr gI) (n := n) (by rw [gI 2 3 (by unfold DK; omega)]; exact hn) (fun m7 hA => ?_)
    have fr : ∀ mz : Mem, (∀ c j : Int, ¬ c = 61 → mz c j = m7 c j) → FrC m mz := fun mz fz c j q1 q2 q3 q4 q5 => by
      rw [fz c j q5, hA.1 c j q2 q1, fb c j q5]; exact f1 c j q3 q4
    have hfin : ∀ mz : Mem, (∀ c j : Int, ¬ c = 61 → mz c j = m7 c j) → (∀ j : Int, 0 ≤ j → j < 6 → mz 61 j = m 61 j + D1 pc (bf (shp m) n B C s) (en (shp m) n s) j) → Q (if en (shp m) n s = -1 then -2 else en (shp m) n s) sw mz := by
      intro mz fz gz
      refine h mz (fr mz fz) ?_ (fun j => ?_) ?_ (hPO.fr (fun c j q => ?_) (by omega)) gz
      · rw [fz 2 4 (by omega), hA.2.1, fb 2 4 (by omega), f1 2 4 (by omega) (by omega)]
      · rw [fz 9 j (by omega), hA.2.2, fb 9 j (by omega), f1 9 j (by omega) (by omega)]
      · rw [fz 23 6 (by omega), hA.1 23 6 (by omega) (by omega), fb 23 6 (by omega)]; exact e6
      · rw [fz c j (by omega), hA.1 c j (by omega) (by omega), fb c j (by omega)]
    have g7 : ∀ j : Int, m7 61 j = mb 61 j := fun j => hA.1 61 j (by omega) (by omega)
    rw [w32_id (z := en (shp m) n s) (by omega) (by omega)]
    refine ⟨fun c => ?_, fun c => ?_⟩
    · have := hfin (upm (upm m7 61 1 ((m7 61 1) + 1)) 61 2 ((m7 61 2) + (en (shp m) n s))) (fun c j q => by rw [upm_row q, upm_row q]) (fun j j0 j1 => ?_)
      · rw [if_neg c] at this; exact this
      · rw [upm_at, upm_at, g7, g7, g7, gb 2 (by omega) (by omega), gb 1 (by omega) (by omega), gb j j0 j1]
        unfold D1
        rw [if_neg c]
        by_cases c2 : j = 2
        · subst c2; simp <;> omega
        · by_cases c1 : j = 1
          · subst c1; simp <;> omega
          · simp [c1, c2]
    · have c := Decidable.not_not.mp c
      have := hfin m7 (fun _ _ _ => rfl) (fun j j0 j1 => by rw [g7, gb j j0 j1, c])
      rw [if_pos c] at this; exact this
  have base : ∀ j : Int, 0 ≤ j → j < 6 → upm (upm m1 61 0 (m1 61 0 + 1)) 61 3 (m1 61 3 + pc) 61 j = m 61 j + D1 pc false (-1) j := by
    intro j j0 j1
    rw [upm_at, upm_at, h61 3, h61 0, h61 j]
    unfold D1
    by_cases c3 : j = 3
    · subst c3; simp
    · by_cases c0 : j = 0
      · subst c0; simp
      · simp [c3, c0]
  have e12 : ∀ c j : Int, ¬ c = 61 → upm (upm m1 61 0 (m1 61 0 + 1)) 61 3 (m1 61 3 + pc) c j = m1 c j := fun c j q => by rw [upm_row q, upm_row q]
  refine eC_burns (B := B) (C := C) (by omega) (by rw [e12 15 0 (by omega), f1 15 0 (by omega) (by omega)]; exact hB) (by rw [e12 16 0 (by omega), f1 16 0 (by omega) (by omega)]; exact hC) (by omega) (fun q => ⟨fun q2 => absurd q2 (by decide), fun _ => ?_⟩) (fun q => ⟨fun _ => ?_, fun q2 => absurd (by decide) q2⟩)
  · refine last _ (fun c j q => by rw [upm_row q]; exact e12 c j q) (fun j j0 j1 => ?_)
    rw [hbf.mpr q, upm_at, base 4 (by omega) (by omega), base j j0 j1]
    by_cases c4 : j = 4
    · subst c4; simp [D1] <;> omega
    · rw [if_neg c4]; unfold D1; simp [c4]
  · refine last _ e12 (fun j j0 j1 => ?_)
    rw [base j j0 j1, show bf (shp m) n B C s = false by
      cases hb : bf (shp m) n B C s with
      | false => rfl
      | true => exact absurd (hbf.mp hb) q]
/-- the model's morning -/
def FrN (m m' : Mem) : Prop := ∀ c j : Int, ¬ (c = 84 ∧ (j = 30 ∨ j = 31)) → ¬ c = 90 → ¬ c = 104 → ¬ c = 112 → m' c j = m c j
theorem and_pred {s : Nat} (hs : s < 512) (h : ¬ s = 0) : zand (s : Int) ((s : Int) - 1) = ((s &&& (s - 1) : Nat) : Int) ∧ s &&& (s - 1) < 512 := by
  have hle : s &&& (s - 1) ≤ s := Nat.and_le_left
  rw [show (s : Int) - 1 = ((s - 1 : Nat) : Int) by omega, zand_nat (by omega) (by omega)]
  exact ⟨rfl, by omega⟩
theorem eY_live {S : Sh} {s B C : Nat} (hS : YS S n m) (hs : s < 512) (hB : m 91 5 = (B : Int)) (hC : m 91 6 = (C : Int)) (hb : B ≤ 8 ∧ C ≤ 8) (hag : ∀ p : Nat, p < n → 0 ≤ m 90 (p : Int) ∧ m 90 (p : Int) ≤ 99) (h : ∀ my, FrN m my → (∀ p : Nat, p < n → my 90 (p : Int) = min 99 (m 90 (p : Int) + 1)) → (∀ j : Int, 0 ≤ j → j < 6 → my 112 j = m 112 j + D1 ((pcf 10 (sk S s n) : Nat) : Int) (bf S n B C s) (en S n s) j) → Q (if en S n s = -1 then -2 else en S n s) sw my) : M2 X 3 mY_morning [vr 84, vi (s : Int)] sw m Q := by
  have hn := hS.2.1
  have h2n := p9 (k := n) hn
  have hT := hS.tk
  have hsl := sk_lt S s n
  have hgl := go_lt S s n
  have heb := en_b hT hn s
  have hbf := bf_t (S := S) (n := n) (B := B) (C := C) (s := s)
  refine wY_morning _ _ _ _ (eY_isSet (w32_id (by omega) (by omega)) ?_)
  rw [bz_w, bz_0]
  refine ⟨fun _ => eY_goMorning hS hs (fun m1 f1 y1 => ?_), fun q => by omega⟩
  rw [y1.2.2]
  have g1 : ∀ c j : Int, ¬ (c = 84 ∧ (j = 30 ∨ j = 31)) → ¬ c = 104 → m1 c j = m c j := f1
  -- the ages, the end
  have ages : ∀ (mb : Mem), (∀ c j : Int, ¬ c = 112 → mb c j = m1 c j) → (∀ j : Int, 0 ≤ j → j < 6 → mb 112 j = m 112 j + D1 ((pcf 10 (sk S s n) : Nat) : Int) (bf S n B C s) (-1) j) → ∀ k : Nat, k ≤ n → ∀ mz, (∀ c j : Int, ¬ c = 90 → mz c j = mb c j) → (∀ p : Nat, p < k → mz 90 (p : Int) = min 99 (m 90 (p : Int) + 1)) → (∀ p : Nat, k ≤ p → mz 90 (p : Int) = m 90 (p : Int)) → R2 X 3 mY_morning 71 [(0, vr 84), (2, vi (k : Int))] [] sw mz Q := by
    intro mb fb gb
    refine downN n (fun mz fz a1 a2 => ?_) (fun k hk ih mz fz a1 a2 => ?_)
    · have hSz : YS S n mz := hS.fr (fun c j q => by rw [fz c j (by omega), fb c j (by omega)]; exact g1 c j (by omega) (by omega))
      have yz : ∀ mq : Mem, (∀ c j : Int, ¬ c = 112 → mq c j = mz c j) → YM S n s mq := fun mq fq => ⟨fun q hq => by rw [fq _ _ (by omega), fz _ _ (by omega), fb _ _ (by omega)]; exact y1.1 q hq, by rw [fq _ _ (by omega), fz _ _ (by omega), fb _ _ (by omega)]; exact y1.2.1, by rw [fq _ _ (by omega), fz _ _ (by omega), fb _ _ (by omega)]; exact y1.2.2⟩
      have e1 : ∀ mq : Mem, (∀ c j : Int, ¬ c = 112 → mq c j = mz c j) → mq 84 1 = (n : Int) := fun mq fq => by rw [fq _ _ (by omega)]; exact hSz.1
      have g112 : ∀ j : Int, mz 112 j = mb 112 j := fun j => fz 112 j (by omega)
      have hfin : ∀ mq : Mem, (∀ c j : Int, ¬ c = 112 → mq c j = mz c j) → (∀ j : Int, 0 ≤ j → j < 6 → mq 112 j = m 112 j + D1 ((pcf 10 (sk S s n) : Nat) : Int) (bf S n B C s) (en S n s) j) → Q (if en S n s = -1 then -2 else en S n s) sw mq := by
        intro mq fq gq
        refine h mq (fun c j q1 q2 q3 q4 => ?_) (fun p hp => ?_) gq
        · rw [fq c j q4, fz c j q2, fb c j q4]; exact g1 c j q1 q3
        · rw [fq 90 _ (by omega)]; exact a1 p hp
      refine wY_morning_71 _ _ _ _ ?_
      rw [hSz.1]
      refine ⟨fun _ => eY_endNow hSz.1 hn (yz mz (fun _ _ _ => rfl)) ?_, fun q => absurd (Int.le_refl _) q⟩
      rw [w32_id (z := en S n s) (by omega) (by omega)]
      have f2 : ∀ v c j : Int, ¬ c = 112 → upm mz 112 1 v c j = mz c j := fun v c j q => upm_ne (fun p => q p.1)
      refine ⟨fun c => eY_endNow (e1 _ (f2 _)) hn (yz _ (f2 _)) (eY_endNow (e1 _ (fun c j q => by rw [upm_row q]; exact f2 _ c j q)) hn (yz _ (fun c j q => by rw [upm_row q]; exact f2 _ c j q)) ?_), fun c => ?_⟩
      · have := hfin (upm (upm mz 112 1 (mz 112 1 + 1)) 112 2 (upm mz 112 1 (mz 112 1 + 1) 112 2 + en S n s)) (fun c j q => by rw [upm_row q]; exact f2 _ c j q) (fun j j0 j1 => ?_)
        · rw [if_neg (by omega)] at this; exact this
        · rw [upm_at, upm_at, upm_at, g112, g112, g112, gb 2 (by omega) (by omega), gb 1 (by omega) (by omega), gb j j0 j1]
          have c' : ¬ en S n s = -1 := by omega
          unfold D1
          rw [if_neg c']
          by_cases c2 : j = 2
          · subst c2; simp <;> omega
          · by_cases c1 : j = 1
            · subst c1; simp <;> omega
            · simp [c1, c2]
      · have c : en S n s = -1 := by omega
        have := hfin mz (fun _ _ _ => rfl) (fun j j0 j1 => by rw [g112, gb j j0 j1, c])
        rw [if_pos c] at this; exact this
    · have ek := a2 k (Nat.le_refl k)
      have ha := hag k hk
      have e1 : mz 84 1 = (n : Int) := by rw [fz _ _ (by omega), fb _ _ (by omega), g1 84 1 (by omega) (by omega)]; exact hS.1
      refine wY_morning_71 _ _ _ _ ?_
      rw [e1, w32_id (z := (n : Int)) (by omega) (by omega), w32_id (z := (k : Int)) (by omega) (by omega), ek, w32_id (z := m 90 (k : Int)) (by omega) (by omega)]
      refine ⟨fun c => by omega, fun _ => ⟨by omega, fun c => ih mz fz (fun p hp => ?_) (fun p hp => a2 p (by omega)), fun c => ⟨by omega, by omega, ih _ (fun c j q => by rw [upm_row q]; exact fz c j q) (fun p hp => ?_) (fun p hp => ?_)⟩⟩⟩
      · by_cases cp : p = k
        · rw [cp, ek]; omega
        · exact a1 p (by omega)
      · rw [upm_at]
        by_cases cp : p = k
        · subst cp; rw [if_pos rfl]; omega
        · rw [if_neg (by omega)]; exact a1 p (by omega)
      · rw [upm_at, if_neg (by omega)]; exact a2 p (by omega)
  have bits : ∀ (f t : Nat) (acc : Nat) (mb : Mem), t < 512 → pcz f t = 0 → acc + pcf f t = pcf 10 (sk S s n) → (∀ c j : Int, ¬ c = 112 → mb c j = m1 c j) → (∀ j : Int, 0 ≤ j → j < 6 → mb 112 j = m 112 j + D1 (acc : Int) false (-1) j) → R2 X 3 mY_morning 29 [(0, vr 84), (2, vi (t : Int))] [] sw mb Q := by
    have burn : ∀ mb : Mem, (∀ c j : Int, ¬ c = 112 → mb c j = m1 c j) → (∀ j : Int, 0 ≤ j → j < 6 → mb 112 j = m 112 j + D1 ((pcf 10 (sk S s n) : Nat) : Int) false (-1) j) → R2 X 3 mY_morning 29 [(0, vr 84), (2, vi 0)] [] sw mb Q := by
      intro mb fb gb
      refine wY_morning_29 _ _ _ _ ⟨fun _ => ?_, fun q => absurd (by decide) q⟩
      refine eY_burnsNow (g := go S s n) (B := B) (C := C) (by omega) (by rw [fb 84 31 (by omega)]; exact y1.2.1) (by rw [fb 91 5 (by omega), g1 91 5 (by omega) (by omega)]; exact hB) (by rw [fb 91 6 (by omega), g1 91 6 (by omega) (by omega)]; exact hC) hb (fun q => ⟨fun q2 => absurd q2 (by decide), fun _ => ?_⟩) (fun q => ⟨fun _ => ?_, fun q2 => absurd (by decide) q2⟩)
      · refine ages (upm mb 112 4 (mb 112 4 + 1)) (fun c j q => by rw [upm_row q]; exact fb c j q) (fun j j0 j1 => ?_) 0 (Nat.zero_le _) _ (fun _ _ _ => rfl) (fun p hp => absurd hp (Nat.not_lt_zero _)) (fun p _ => by rw [upm_row (by omega), fb 90 _ (by omega), g1 90 _ (by omega) (by omega)])
        rw [hbf.mpr q, upm_at, gb 4 (by omega) (by omega), gb j j0 j1]
        by_cases c4 : j = 4
        · subst c4; simp [D1] <;> omega
        · rw [if_neg c4]; unfold D1; simp [c4]
      · refine ages mb fb (fun j j0 j1 => ?_) 0 (Nat.zero_le _) _ (fun _ _ _ => rfl) (fun p hp => absurd hp (Nat.not_lt_zero _)) (fun p _ => by rw [fb 90 _ (by omega), g1 90 _ (by omega) (by omega)])
        rw [gb j j0 j1, show bf S n B C s = false by
          cases hb : bf S n B C s with
          | false => rfl
          | true => exact absurd (hbf.mp hb) q]
    intro f
    induction f with
    | zero =>
      intro t acc mb ht hz he fb gb
      have hz : t = 0 := hz
      subst hz
      have he : acc + 0 = pcf 10 (sk S s n) := he
      rw [Nat.add_zero] at he
      rw [he] at gb
      exact burn mb fb gb
    | succ f ih =>
      intro t acc mb ht hz he fb gb
      by_cases c0 : t = 0
      · subst c0
        have he : acc + 0 = pcf 10 (sk S s n) := he
        rw [Nat.add_zero] at he
        rw [he] at gb
        exact burn mb fb gb
      · have ha := and_pred ht c0
        have hz : pcz f (t &&& (t - 1)) = 0 := hz
        have he2 : pcf (f + 1) t = 1 + pcf f (t &&& (t - 1)) := if_neg c0
        rw [he2] at he
        refine wY_morning_29 _ _ _ _ ?_
        rw [w32_id (z := (t : Int)) (by omega) (by omega), ha.1]
        refine ⟨fun q => by omega, fun _ => ih _ (acc + 1) _ ha.2 hz (by omega) (fun c j q => by rw [upm_row q]; exact fb c j q) (fun j j0 j1 => ?_)⟩
        rw [upm_at, gb 3 (by omega) (by omega), gb j j0 j1]
        unfold D1
        by_cases c3 : j = 3
        · subst c3; simp <;> omega
        · rw [if_neg c3, if_neg c3, if_neg c3]
  refine bits 10 (sk S s n) 0 _ (by omega) (bc_all ⟨sk S s n, by omega⟩).2 (by omega) (fun c j q => upm_ne (fun p => q p.1)) (fun j j0 j1 => ?_)
  rw [upm_at, g1 112 0 (by omega) (by omega), g1 112 j (by omega) (by omega)]
  unfold D1
  by_cases c0 : j = 0
  · subst c0; simp
  · rw [if_neg c0, if_neg c0]; simp
/-- only the deeds' cells, ages, paths have changed -/
def FrD (m m' : Mem) : Prop := ∀ c j : Int, ¬ (c = 2 ∧ j = 4) → ¬ c = 9 → ¬ (c = 23 ∧ (j = 5 ∨ j = 6)) → ¬ (25 ≤ c ∧ c ≤ 36) → ¬ (60 ≤ c ∧ c ≤ 63) → ¬ (c = 84 ∧ (j = 30 ∨ j = 31 ∨ j = 43 ∨ j = 44)) → ¬ c = 90 → ¬ c = 104 → ¬ (112 ≤ c ∧ c ≤ 114) → m' c j = m c j
theorem pr_morning {a : Int} (ha : w32 a = a) (hI : IK m) (hP : IP m) (hD : ID m) {QQ : Int → Int → Bool → Mem → Prop} (h : ∀ z m', IK m' → IP m' → ID m' → KW 9 m m' → (PO (shp m) (m 2 3).toNat m → PO (shp m) (m 2 3).toNat m') → FrD m m' → QQ z z sw m') : M2 X 7 mZ_morning [vr 1, vi a] sw m (fun z1 sw1 m1 => M2 X 3 mY_morning [vr 84, vi a] sw1 m1 (fun z2 sw2 m2 => QQ z1 z2 sw2 m2)) := by
  have h9 := hI.2.1
  have h90 := hI.1
  have hkt := hI.kt
  obtain ⟨n, hn⟩ : ∃ n : Nat, m 2 3 = (n : Int) := ⟨(m 2 3).toNat, by omega⟩
  obtain ⟨B, hB⟩ : ∃ B : Nat, m 15 0 = (B : Int) := ⟨(m 15 0).toNat, by omega⟩
  obtain ⟨C, hC⟩ : ∃ C : Nat, m 16 0 = (C : Int) := ⟨(m 16 0).toNat, by omega⟩
  refine wZ_morning _ _ _ _ (eZ_isSet ha ?_)
  rw [bz_w, bz_0]
  refine ⟨fun c => wY_morning _ _ _ _ (eY_isSet ha ?_), fun c => ?_⟩
  · rw [bz_w, bz_0]
    exact ⟨fun q => absurd (Decidable.not_not.mp q) c, fun _ => h _ m hI hP hD (KW.rf (by decide) m) (fun q => q) (fun _ _ _ _ _ _ _ _ _ _ _ => rfl)⟩
  · have c := Decidable.not_not.mp c
    obtain ⟨s, rfl⟩ : ∃ s : Nat, a = (s : Int) := ⟨a.toNat, by omega⟩
    refine eD_live hI hn hP (by omega) hB hC (fun mc fc e4 e9 e6 hPO e61 => ?_)
    have g : ∀ c j : Int, c = 84 ∨ c = 85 ∨ c = 86 ∨ c = 88 ∨ c = 90 ∨ c = 91 ∨ c = 112 → mc c j = m c j := fun c j q => fc c j (by omega) (by omega) (by omega) (by omega) (by omega)
    refine eY_live (S := shp m) (B := B) (C := C) ((hI.ys hn).fr (fun c j q => g c j (by omega))) (by omega) (by rw [g 91 5 (by omega)]; omega) (by rw [g 91 6 (by omega)]; omega) (by omega) (fun p hp => ?_) (fun my fy a9 e112 => ?_)
    · have hp' := hI.pt (p := (p : Int)) (by omega) (by omega)
      rw [g 90 _ (by omega)]; omega
    · have f2 : ∀ c j : Int, ¬ c = 9 → ¬ (c = 2 ∧ j = 4) → ¬ (c = 23 ∧ (j = 5 ∨ j = 6)) → ¬ (25 ≤ c ∧ c ≤ 36) → ¬ c = 61 → ¬ (c = 84 ∧ (j = 30 ∨ j = 31)) → ¬ c = 90 → ¬ c = 104 → ¬ c = 112 → my c j = m c j := fun c j q1 q2 q3 q4 q5 q6 q7 q8 q9 => by
        rw [fy c j q6 q7 q8 q9]; exact fc c j q2 q1 q3 q4 q5
      have y9 : ∀ j : Int, my 9 j = if 0 ≤ j ∧ j < (n : Int) then min 99 (m 9 j + 1) else m 9 j := fun j => by rw [fy 9 j (by omega) (by omega) (by omega) (by omega)]; exact e9 j
      have hIK : IK my := by
        refine hI.age (fun p p0 p1 => ?_) (fun p p0 => by rw [y9, if_neg (by omega)]) (fun c j q q9 q90 => ?_)
        · have hp' := hI.pt p0 p1
          obtain ⟨P, rfl⟩ : ∃ P : Nat, p = (P : Int) := ⟨p.toNat, by omega⟩
          rw [a9 P (by omega), g 90 _ (by omega), y9, if_pos (by omega)]
          omega
        · unfold DK at q
          exact f2 c j q9 (by omega) (by omega) (by omega) (by omega) (by omega) q90 (by omega) (by omega)
      have y4 : my 2 4 = m 2 4 + n := by rw [fy 2 4 (by omega) (by omega) (by omega) (by omega)]; exact e4
      have y5 : my 2 5 = m 2 5 := f2 2 5 (by omega) (by omega) (by omega) (by omega) (by omega) (by omega) (by omega) (by omega) (by omega)
      have y3 : my 2 3 = m 2 3 := f2 2 3 (by omega) (by omega) (by omega) (by omega) (by omega) (by omega) (by omega) (by omega) (by omega)
      have hKW : KW 9 m my := KW.age (q := (n : Int)) (by omega) y4 y5 y3 (fun c j q1 q2 q3 => f2 c j q3 (by omega) (by omega) (by omega) (by omega) (by omega) (by omega) (by omega) (by omega)) (fun q j => by rw [y9, if_neg (by omega)])
      have hS : shp my = shp m := shp_eq (fun c j q => f2 c j (by omega) (by omega) (by omega) (by omega) (by omega) (by omega) (by omega) (by omega) (by omega))
      have hPOy : PO (shp m) n my := hPO.fr (fun c j q => fy c j (by omega) (by omega) (by omega) (by omega)) (by omega)
      have y6 : my 23 6 = m 2 5 := by rw [fy 23 6 (by omega) (by omega) (by omega) (by omega)]; exact e6
      have hIP : IP my := by
        obtain ⟨p1, p2_, p3, p4⟩ := hP
        refine ⟨by omega, by omega, by omega, fun _ => ?_⟩
        rw [hS, y3, hn]; exact hPOy
      have hID : ID my := by
        obtain ⟨d1, d2, d3, d4⟩ := hD
        unfold ID
        have k : ∀ c j : Int, c = 60 ∨ c = 62 ∨ c = 63 ∨ (c = 84 ∧ (j = 43 ∨ j = 44)) ∨ c = 113 ∨ c = 114 → my c j = m c j := fun c j q => f2 c j (by omega) (by omega) (by omega) (by omega) (by omega) (by omega) (by omega) (by omega) (by omega)
        rw [k 60 6 (by omega), k 60 5 (by omega), k 84 43 (by omega), k 84 44 (by omega), y3]
        refine ⟨fun j j0 j1 => ?_, d2, d3, fun e => ?_⟩
        · rw [e112 j j0 j1, fy 61 j (by omega) (by omega) (by omega) (by omega), e61 j j0 j1, g 112 j (by omega), d1 j j0 j1]
        · obtain ⟨b1, b2, b3, b4, b5⟩ := d4 e
          refine ⟨b1, b2, b3, fun p p0 p1 => ?_, fun j j0 j1 => ?_⟩
          · rw [k 113 p (by omega), k 63 p (by omega)]; exact b4 p p0 p1
          · rw [k 114 j (by omega), k 62 j (by omega)]; exact b5 j j0 j1
      exact h _ my hIK hIP hID hKW (fun _ => by rw [hn]; exact hPOy) (fun c j q1 q2 q3 q4 q5 q6 q7 q8 q9 => f2 c j q2 q1 q3 q4 (by omega) (by omega) q7 q8 (by omega))
theorem pr_mended {a : Int} (ha : w32 a = a) (hI : IK m) (hD : ID m) {QQ : Int → Int → Bool → Mem → Prop} (h : ∀ z m', IK m' → ID m' → KW 9 m m' → FrD m m' → (∀ c j : Int, (c = 23 ∧ (j = 5 ∨ j = 6)) ∨ (25 ≤ c ∧ c ≤ 36) → m' c j = m c j) → QQ z z sw m') : M2 X 4 mZ_mended [vr 1, vi a] sw m (fun z1 sw1 m1 => M2 X 3 mY_mended [vr 84, vi a] sw1 m1 (fun z2 sw2 m2 => QQ z1 z2 sw2 m2)) := by
  have h9 := hI.2.1
  have h90 := hI.1
  refine wZ_mended _ _ _ _ (eK_has ha hI ?_)
  rw [bz_w, bz_0]
  refine ⟨fun c => wY_mended _ _ _ _ (eY_isPart ha ⟨h90, h9⟩ hI.2.2.1 ?_), fun c => ?_⟩
  · rw [bz_w, bz_0]
    exact ⟨fun q => absurd (Decidable.not_not.mp q) c, fun _ => h _ m hI hD (KW.rf (by decide) m) (fun _ _ _ _ _ _ _ _ _ _ _ => rfl) (fun _ _ _ => rfl)⟩
  · have c := Decidable.not_not.mp c
    have hp := hI.pt c.1 c.2
    refine wD_repair _ _ _ _ (eK_told (by omega) (by decide) (eK_write (by omega) (by decide) ?_))
    rw [show m (4 + 5) a = m 9 a from rfl]
    generalize hmc : upm (wr m 5 a 0) 61 5 (wr m 5 a 0 61 5 + 1) = mc
    have fc : ∀ c j : Int, ¬ c = 9 → ¬ (c = 2 ∧ j = 4) → ¬ (c = 61 ∧ j = 5) → mc c j = m c j := fun c j q1 q2 q3 => by rw [← hmc, upm_ne q3]; exact wr5_o q1 q2
    have e615 : mc 61 5 = m 61 5 + 1 := by rw [← hmc, upm_at, if_pos rfl, wr5_o (by omega) (by omega)]
    refine wY_mended _ _ _ _ (eY_isPart ha (n := m 2 3) ⟨h90, h9⟩ (by rw [fc 84 1 (by omega) (by omega) (by omega)]; exact hI.2.2.1) ?_)
    rw [bz_w, bz_0]
    refine ⟨fun _ => ?_, fun q => absurd (fun y => y c) q⟩
    rw [ha, fc 90 a (by omega) (by omega) (by omega), fc 112 5 (by omega) (by omega) (by omega), hp.2.2.2.2.2.1]
    refine ⟨by omega, by omega, ?_⟩
    generalize hmy : upm (upm mc 90 a 0) 112 5 (m 112 5 + 1) = my
    have fy : ∀ c j : Int, ¬ (c = 90 ∧ j = a) → ¬ (c = 112 ∧ j = 5) → my c j = mc c j := fun c j q1 q2 => by rw [← hmy, upm_ne q2, upm_ne q1]
    have f2 : ∀ c j : Int, ¬ c = 9 → ¬ (c = 2 ∧ j = 4) → ¬ (c = 61 ∧ j = 5) → ¬ (c = 90 ∧ j = a) → ¬ (c = 112 ∧ j = 5) → my c j = m c j := fun c j q1 q2 q3 q4 q5 => by rw [fy c j q4 q5]; exact fc c j q1 q2 q3
    have y9 : ∀ j : Int, my 9 j = if j = a then 0 else m 9 j := fun j => by rw [fy 9 j (by omega) (by omega), ← hmc, upm_row (by omega)]; exact wr5_9
    have y90 : my 90 a = 0 := by rw [← hmy, upm_row (by omega), upm_at, if_pos rfl]
    refine h _ my (hI.age (fun p p0 p1 => ?_) (fun p p0 => by rw [y9, if_neg (by omega)]) (fun c j q q9 q90 => ?_)) ?_ ?_ (fun c j q1 q2 q3 q4 q5 q6 q7 q8 q9 => f2 c j q2 q1 (by omega) (by omega) (by omega)) (fun c j q => f2 c j (by omega) (by omega) (by omega) (by omega) (by omega))
    · by_cases cp : p = a
      · rw [cp, y90, y9, if_pos rfl]; omega
      · have hp' := hI.pt p0 p1
        rw [y9, if_neg cp, f2 90 p (by omega) (by omega) (by omega) (by omega) (by omega)]; omega
    · unfold DK at q
      exact f2 c j q9 (by omega) (by omega) (by omega) (by omega)
    · obtain ⟨d1, d2, d3, d4⟩ := hD
      unfold ID
      have k : ∀ c j : Int, c = 60 ∨ c = 62 ∨ c = 63 ∨ (c = 84 ∧ (j = 43 ∨ j = 44)) ∨ c = 113 ∨ c = 114 ∨ (c = 2 ∧ j = 3) → my c j = m c j := fun c j q => f2 c j (by omega) (by omega) (by omega) (by omega) (by omega)
      rw [k 60 6 (by omega), k 60 5 (by omega), k 84 43 (by omega), k 84 44 (by omega), k 2 3 (by omega)]
      refine ⟨fun j j0 j1 => ?_, d2, d3, fun e => ?_⟩
      · by_cases c5 : j = 5
        · rw [c5, fy 61 5 (by omega) (by omega), e615, ← hmy, upm_at, if_pos rfl, d1 5 (by omega) (by omega)]
        · rw [f2 112 j (by omega) (by omega) (by omega) (by omega) (by omega), f2 61 j (by omega) (by omega) (by omega) (by omega) (by omega)]; exact d1 j j0 j1
      · obtain ⟨b1, b2, b3, b4, b5⟩ := d4 e
        refine ⟨b1, b2, b3, fun p p0 p1 => ?_, fun j j0 j1 => ?_⟩
        · rw [k 113 p (by omega), k 63 p (by omega)]; exact b4 p p0 p1
        · rw [k 114 j (by omega), k 62 j (by omega)]; exact b5 j j0 j1
    · refine KW.age (q := 1) (by omega) ?_ (f2 2 5 (by omega) (by omega) (by omega) (by omega) (by omega)) (f2 2 3 (by omega) (by omega) (by omega) (by omega) (by omega)) (fun c j q1 q2 q3 => f2 c j q3 (by omega) (by omega) (by omega) (by omega)) (fun q => absurd q (by decide))
      rw [fy 2 4 (by omega) (by omega), ← hmc, upm_row (by omega)]; exact wr5_4
theorem pr_led {a : Int} (ha : w32 a = a) (hD : ID m) {QQ : Int → Int → Bool → Mem → Prop} (h : ∀ z, QQ z z sw m) : M2 X 2 mZ_led [vr 1, vi a] sw m (fun z1 sw1 m1 => M2 X 2 mY_led [vr 84, vi a] sw1 m1 (fun z2 sw2 m2 => QQ z1 z2 sw2 m2)) := by
  have neg : ¬ (0 ≤ a ∧ a < 6) → M2 X 2 mY_led [vr 84, vi a] sw m (fun z2 sw2 m2 => QQ (-1) z2 sw2 m2) := fun q => by
    refine wY_led _ _ _ _ (eY_in ha (by decide) (by decide) ?_)
    rw [bz_w, bz_0]
    exact ⟨fun _ => h _, fun c => by omega⟩
  refine wZ_led _ _ _ _ (wD_ledgerAt _ _ _ _ ?_)
  rw [ha]
  refine ⟨fun c => neg (by omega), fun c => ⟨fun c2 => ⟨by omega, wY_led _ _ _ _ (eY_in ha (by decide) (by decide) ?_)⟩, fun c2 => neg (by omega)⟩⟩
  rw [bz_w, bz_0, ha, hD.1 a (by omega) (by omega)]
  exact ⟨fun q => by omega, fun _ => ⟨by omega, h _⟩⟩
theorem pr_image (hI : IK m) (hD : ID m) {QQ : Int → Int → Bool → Mem → Prop} (h : ∀ z m', ID m' → (∀ c j : Int, ¬ (60 ≤ c ∧ c ≤ 63) → ¬ (c = 84 ∧ (j = 43 ∨ j = 44)) → ¬ (112 ≤ c ∧ c ≤ 114) → m' c j = m c j) → QQ z z sw m') : M2 X 4 mZ_image [vr 1] sw m (fun z1 sw1 m1 => M2 X 1 mY_image [vr 84] sw1 m1 (fun z2 sw2 m2 => QQ z1 z2 sw2 m2)) := by
  have h9 := hI.2.1
  have h90 := hI.1
  obtain ⟨n, hn⟩ : ∃ n : Nat, m 2 3 = (n : Int) := ⟨(m 2 3).toNat, by omega⟩
  refine wZ_image _ _ _ (wD_keepImage _ _ _ ?_)
  rw [hn]
  have fin : ∀ mc : Mem, (∀ c j : Int, ¬ (c = 60 ∧ (j = 5 ∨ j = 6)) → ¬ c = 63 → mc c j = m c j) → mc 60 6 = 1 → mc 60 5 = (n : Int) → (∀ p : Nat, p < n → mc 63 (p : Int) = m 9 (p : Int)) → M2 X 1 mY_image [vr 84] sw (cpm mc 61 0 62 0 6) (fun z2 sw2 m2 => QQ (mc 61 0) z2 sw2 m2) := by
    intro mc fc e6 e5 e63
    generalize hmd : cpm mc 61 0 62 0 6 = md
    have fd : ∀ c j : Int, ¬ c = 62 → md c j = mc c j := fun c j q => by rw [← hmd, cpm_row q]
    have e62 : ∀ j : Int, 0 ≤ j → j < 6 → md 62 j = m 61 j := fun j j0 j1 => by
      rw [← hmd, cpm_at, if_pos (by omega), show (0 : Int) + (j - 0) = j by omega]
      exact fc 61 j (by omega) (by omega)
    have k : ∀ c j : Int, c = 84 ∨ c = 90 ∨ c = 112 → md c j = m c j := fun c j q => by rw [fd c j (by omega)]; exact fc c j (by omega) (by omega)
    refine wY_image _ _ _ ?_
    rw [k 84 1 (by omega), hI.2.2.1, hn]
    have led : ∀ mz : Mem, (∀ c j : Int, ¬ (c = 84 ∧ (j = 43 ∨ j = 44)) → ¬ c = 113 → mz c j = md c j) → mz 84 43 = 1 → mz 84 44 = (n : Int) → (∀ p : Nat, p < n → mz 113 (p : Int) = m 9 (p : Int)) → ∀ i : Nat, i ≤ 6 → ∀ mq, (∀ c j : Int, ¬ c = 114 → mq c j = mz c j) → (∀ j : Nat, j < i → mq 114 (j : Int) = m 61 (j : Int)) → R2 X 1 mY_image 43 [(0, vr 84), (1, vi (i : Int))] [] sw mq (fun z2 sw2 m2 => QQ (mc 61 0) z2 sw2 m2) := by
      intro mz fz z43 z44 z113
      refine downN 6 (fun mq fq e114 => ?_) (fun i hi ih mq fq e114 => ?_)
      · refine wY_image_43 _ _ _ _ ⟨fun _ => ?_, fun q => absurd (by decide) q⟩
        rw [fq 112 0 (by omega), fz 112 0 (by omega) (by omega), k 112 0 (by omega), hD.1 0 (by omega) (by omega), fc 61 0 (by omega) (by omega)]
        have fall : ∀ c j : Int, ¬ (c = 60 ∧ (j = 5 ∨ j = 6)) → ¬ c = 62 → ¬ c = 63 → ¬ (c = 84 ∧ (j = 43 ∨ j = 44)) → ¬ c = 113 → ¬ c = 114 → mq c j = m c j := fun c j q1 q2 q3 q4 q5 q6 => by rw [fq c j q6, fz c j q4 q5, fd c j q2]; exact fc c j q1 q3
        refine h _ mq ?_ (fun c j q1 q2 q3 => fall c j (by omega) (by omega) (by omega) q2 (by omega) (by omega))
        have s6 : mq 60 6 = 1 := by rw [fq 60 6 (by omega), fz 60 6 (by omega) (by omega), fd 60 6 (by omega)]; exact e6
        have s5 : mq 60 5 = (n : Int) := by rw [fq 60 5 (by omega), fz 60 5 (by omega) (by omega), fd 60 5 (by omega)]; exact e5
        unfold ID
        rw [s6, s5, fq 84 43 (by omega), z43, fq 84 44 (by omega), z44, fall 2 3 (by omega) (by omega) (by omega) (by omega) (by omega) (by omega), hn]
        refine ⟨fun j j0 j1 => ?_, Or.inr rfl, rfl, fun _ => ⟨by omega, Int.le_refl _, rfl, fun p p0 p1 => ?_, fun j j0 j1 => ?_⟩⟩
        · rw [fall 112 j (by omega) (by omega) (by omega) (by omega) (by omega) (by omega), fall 61 j (by omega) (by omega) (by omega) (by omega) (by omega) (by omega)]; exact hD.1 j j0 j1
        · obtain ⟨P, rfl⟩ : ∃ P : Nat, p = (P : Int) := ⟨p.toNat, by omega⟩
          have hp' := hI.pt (p := (P : Int)) (by omega) (by omega)
          rw [fq 113 _ (by omega), z113 P (by omega), fq 63 _ (by omega), fz 63 _ (by omega) (by omega), fd 63 _ (by omega), e63 P (by omega)]
          exact ⟨rfl, by omega, by omega⟩
        · obtain ⟨J, rfl⟩ : ∃ J : Nat, j = (J : Int) := ⟨j.toNat, by omega⟩
          rw [e114 J (by omega), fq 62 _ (by omega), fz 62 _ (by omega) (by omega), e62 _ (by omega) (by omega)]
      · refine wY_image_43 _ _ _ _ ?_
        rw [w32_id (z := (i : Int)) (by omega) (by omega)]
        refine ⟨fun q => by omega, fun _ => ⟨by omega, by omega, ih _ (fun c j q => by rw [upm_row q]; exact fq c j q) (fun j hj => ?_)⟩⟩
        rw [upm_at]
        by_cases cj : j = i
        · subst cj; rw [if_pos rfl, fq 112 _ (by omega), fz 112 _ (by omega) (by omega), k 112 _ (by omega)]; exact hD.1 _ (by omega) (by omega)
        · rw [if_neg (by omega)]; exact e114 j (by omega)
    have agesK : ∀ i : Nat, i ≤ n → ∀ mz : Mem, (∀ c j : Int, ¬ (c = 84 ∧ (j = 43 ∨ j = 44)) → ¬ c = 113 → mz c j = md c j) → mz 84 43 = 1 → mz 84 44 = (n : Int) → (∀ p : Nat, p < i → mz 113 (p : Int) = m 9 (p : Int)) → R2 X 1 mY_image 15 [(0, vr 84), (1, vi (i : Int))] [] sw mz (fun z2 sw2 m2 => QQ (mc 61 0) z2 sw2 m2) := by
      have e1 : ∀ mz : Mem, (∀ c j : Int, ¬ (c = 84 ∧ (j = 43 ∨ j = 44)) → ¬ c = 113 → mz c j = md c j) → mz 84 1 = (n : Int) := fun mz fz => by rw [fz 84 1 (by omega) (by omega), k 84 1 (by omega), hI.2.2.1]; exact hn
      refine downN n (fun mz fz z43 z44 z113 => ?_) (fun i hi ih mz fz z43 z44 z113 => ?_)
      · refine wY_image_15 _ _ _ _ ?_
        rw [e1 mz fz]
        exact ⟨fun _ => led mz fz z43 z44 z113 0 (Nat.zero_le _) mz (fun _ _ _ => rfl) (fun j hj => absurd hj (Nat.not_lt_zero _)), fun q => absurd (Int.le_refl _) q⟩
      · have hp' := hI.pt (p := (i : Int)) (by omega) (by omega)
        refine wY_image_15 _ _ _ _ ?_
        rw [e1 mz fz, w32_id (z := (n : Int)) (by omega) (by omega), w32_id (z := (i : Int)) (by omega) (by omega)]
        refine ⟨fun q => by omega, fun _ => ⟨by omega, by omega, ih _ (fun c j q1 q2 => by rw [upm_row q2]; exact fz c j q1 q2) (by rw [upm_row (by omega)]; exact z43) (by rw [upm_row (by omega)]; exact z44) (fun p hp => ?_)⟩⟩
        rw [upm_at]
        by_cases cp : p = i
        · subst cp; rw [if_pos rfl, fz 90 _ (by omega) (by omega), k 90 _ (by omega)]; exact hp'.2.2.2.2.2.1
        · rw [if_neg (by omega)]; exact z113 p (by omega)
    refine agesK 0 (Nat.zero_le _) _ (fun c j q1 q2 => by rw [upm_ne (by omega), upm_ne (by omega)]) (by rw [upm_at, if_neg (by omega), upm_at, if_pos rfl]) (by rw [upm_at, if_pos rfl]) (fun p hp => absurd hp (Nat.not_lt_zero _))
  have key : ∀ i : Nat, i ≤ n → ∀ mc : Mem, (∀ c j : Int, ¬ (c = 60 ∧ (j = 5 ∨ j = 6)) → ¬ c = 63 → mc c j = m c j) → mc 60 6 = 1 → mc 60 5 = (n : Int) → (∀ p : Nat, p < i → mc 63 (p : Int) = m 9 (p : Int)) → R2 X 3 mD_keepImage 18 [(0, vr 60), (1, vi (i : Int))] [] sw mc (fun z1 sw1 m1 => M2 X 1 mY_image [vr 84] sw1 m1 (fun z2 sw2 m2 => QQ z1 z2 sw2 m2)) := by
    refine downN n (fun mc fc e6 e5 e63 => ?_) (fun i hi ih mc fc e6 e5 e63 => ?_)
    · refine wD_keepImage_18 _ _ _ _ ?_
      rw [e5]
      exact ⟨fun _ => fin mc fc e6 e5 e63, fun q => absurd (Int.le_refl _) q⟩
    · refine wD_keepImage_18 _ _ _ _ ?_
      rw [e5, w32_id (z := (n : Int)) (by omega) (by omega), w32_id (z := (i : Int)) (by omega) (by omega)]
      refine ⟨fun q => by omega, fun _ => eK_told (by omega) (by decide) ⟨by omega, ih _ (fun c j q1 q2 => by rw [upm_row q2]; exact fc c j q1 q2) (by rw [upm_row (by omega)]; exact e6) (by rw [upm_row (by omega)]; exact e5) (fun p hp => ?_)⟩⟩
      rw [upm_at]
      by_cases cp : p = i
      · subst cp; rw [if_pos rfl]; exact fc 9 _ (by omega) (by omega)
      · rw [if_neg (by omega)]; exact e63 p (by omega)
  exact key 0 (Nat.zero_le _) _ (fun c j q1 q2 => by rw [upm_ne (by omega), upm_ne (by omega)]) (by rw [upm_at, if_neg (by omega), upm_at, if_pos rfl]) (by rw [upm_at, if_pos rfl]) (fun p hp => absurd hp (Nat.not_lt_zero _))
theorem pr_back (hI : IK m) (hD : ID m) {QQ : Int → Int → Bool → Mem → Prop} (h : ∀ z m', IK m' → ID m' → KW 9 m m' → FrD m m' → (∀ c j : Int, (c = 23 ∧ (j = 5 ∨ j = 6)) ∨ (25 ≤ c ∧ c ≤ 36) → m' c j = m c j) → QQ z z sw m') : M2 X 4 mZ_back [vr 1] sw m (fun z1 sw1 m1 => M2 X 1 mY_back [vr 84] sw1 m1 (fun z2 sw2 m2 => QQ z1 z2 sw2 m2)) := by
  have h9 := hI.2.1
  have h90 := hI.1
  have hD' := hD
  obtain ⟨d1, d2, d3, d4⟩ := hD'
  refine wZ_back _ _ _ (wD_layBack _ _ _ ?_)
  rw [w32_id (z := m 60 6) (by omega) (by omega)]
  refine ⟨fun c => ?_, fun c => wY_back _ _ _ ?_⟩
  · obtain ⟨b1, b2, b3, b4, b5⟩ := d4 (by omega)
    obtain ⟨K, hK⟩ : ∃ K : Nat, m 60 5 = (K : Int) := ⟨(m 60 5).toNat, by omega⟩
    have fin : ∀ mc : Mem, (∀ c j : Int, ¬ c = 9 → ¬ (c = 2 ∧ j = 4) → mc c j = m c j) → mc 2 4 = m 2 4 + (K : Int) → (∀ j : Int, mc 9 j = if 0 ≤ j ∧ j < (K : Int) then m 63 j else m 9 j) → M2 X 1 mY_back [vr 84] sw (cpm mc 62 0 61 0 6) (fun z2 sw2 m2 => QQ ((cpm mc 62 0 61 0 6) 61 0) z2 sw2 m2) := by
      intro mc fc e4 e9
      generalize hmd : cpm mc 62 0 61 0 6 = md
      have fd : ∀ c j : Int, ¬ c = 61 → md c j = mc c j := fun c j q => by rw [← hmd, cpm_row q]
      have e61 : ∀ j : Int, 0 ≤ j → j < 6 → md 61 j = m 62 j := fun j j0 j1 => by
        rw [← hmd, cpm_at, if_pos (by omega), show (0 : Int) + (j - 0) = j by omega]
        exact fc 62 j (by omega) (by omega)
      have k : ∀ c j : Int, c = 84 ∨ c = 90 ∨ 112 ≤ c → md c j = m c j := fun c j q => by rw [fd c j (by omega)]; exact fc c j (by omega) (by omega)
      refine wY_back _ _ _ ?_
      rw [k 84 43 (by omega), d3, w32_id (z := m 60 6) (by omega) (by omega)]
      refine ⟨fun _ => ?_, fun q => absurd c q⟩
      have led : ∀ mz : Mem, (∀ c j : Int, ¬ c = 90 → mz c j = md c j) → (∀ j : Int, mz 90 j = if 0 ≤ j ∧ j < (K : Int) then m 113 j else m 90 j) → ∀ i : Nat, i ≤ 6 → ∀ mq, (∀ c j : Int, ¬ c = 112 → mq c j = mz c j) → (∀ j : Nat, j < i → mq 112 (j : Int) = m 62 (j : Int)) → R2 X 1 mY_back 40 [(0, vr 84), (1, vi (i : Int))] [] sw mq (fun z2 sw2 m2 => QQ (md 61 0) z2 sw2 m2) := by
        intro mz fz z90
        refine downN 6 (fun mq fq e112 => ?_) (fun i hi ih mq fq e112 => ?_)
        · refine wY_back_40 _ _ _ _ ⟨fun _ => ?_, fun q => absurd (by decide) q⟩
          have e0 := e112 0 (by decide)
          rw [show ((0 : Nat) : Int) = 0 from rfl] at e0
          rw [e0, e61 0 (by omega) (by omega)]
          have fall : ∀ c j : Int, ¬ c = 9 → ¬ (c = 2 ∧ j = 4) → ¬ c = 61 → ¬ c = 90 → ¬ c = 112 → mq c j = m c j := fun c j q1 q2 q3 q4 q5 => by rw [fq c j q5, fz c j q4, fd c j q3]; exact fc c j q1 q2
          have y9 : ∀ j : Int, mq 9 j = if 0 ≤ j ∧ j < (K : Int) then m 63 j else m 9 j := fun j => by rw [fq 9 j (by omega), fz 9 j (by omega), fd 9 j (by omega)]; exact e9 j
          refine h _ mq (hI.age (fun p p0 p1 => ?_) (fun p p0 => by rw [y9, if_neg (by omega)]) (fun c j q q9 q90 => ?_)) ?_ ?_ (fun c j q1 q2 q3 q4 q5 q6 q7 q8 q9 => fall c j q2 q1 (by omega) q7 (by omega)) (fun c j q => fall c j (by omega) (by omega) (by omega) (by omega) (by omega))
          · have hp' := hI.pt p0 p1
            rw [fq 90 p (by omega), z90, y9]
            by_cases cp : 0 ≤ p ∧ p < (K : Int)
            · have := b4 p cp.1 (by omega)
              rw [if_pos cp, if_pos cp]; exact this
            · rw [if_neg cp, if_neg cp]; omega
          · unfold DK at q
            exact fall c j q9 (by omega) (by omega) q90 (by omega)
          · unfold ID
            rw [fall 60 6 (by omega) (by omega) (by omega) (by omega) (by omega), fall 60 5 (by omega) (by omega) (by omega) (by omega) (by omega), fall 84 43 (by omega) (by omega) (by omega) (by omega) (by omega), fall 84 44 (by omega) (by omega) (by omega) (by omega) (by omega), fall 2 3 (by omega) (by omega) (by omega) (by omega) (by omega)]
            refine ⟨fun j j0 j1 => ?_, d2, d3, fun e => ⟨b1, b2, b3, fun p p0 p1 => ?_, fun j j0 j1 => ?_⟩⟩
            · obtain ⟨J, rfl⟩ : ∃ J : Nat, j = (J : Int) := ⟨j.toNat, by omega⟩
              rw [e112 J (by omega), fq 61 _ (by omega), fz 61 _ (by omega), e61 _ (by omega) (by omega)]
            · rw [fall 113 p (by omega) (by omega) (by omega) (by omega) (by omega), fall 63 p (by omega) (by omega) (by omega) (by omega) (by omega)]; exact b4 p p0 p1
            · rw [fall 114 j (by omega) (by omega) (by omega) (by omega) (by omega), fall 62 j (by omega) (by omega) (by omega) (by omega) (by omega)]; exact b5 j j0 j1
          · refine KW.age (q := (K : Int)) (by omega) ?_ (fall 2 5 (by omega) (by omega) (by omega) (by omega) (by omega)) (fall 2 3 (by omega) (by omega) (by omega) (by omega) (by omega)) (fun c j q1 q2 q3 => fall c j q3 (by omega) (by omega) (by omega) (by omega)) (fun q j => by rw [y9, if_neg (by omega)])
            rw [fq 2 4 (by omega), fz 2 4 (by omega), fd 2 4 (by omega)]; exact e4
        · refine wY_back_40 _ _ _ _ ?_
          rw [w32_id (z := (i : Int)) (by omega) (by omega)]
          refine ⟨fun q => by omega, fun _ => ⟨by omega, by omega, ih _ (fun c j q => by rw [upm_row q]; exact fq c j q) (fun j hj => ?_)⟩⟩
          rw [upm_at]
          by_cases cj : j = i
          · subst cj; rw [if_pos rfl, fq 114 _ (by omega), fz 114 _ (by omega), k 114 _ (by omega)]; exact b5 _ (by omega) (by omega)
          · rw [if_neg (by omega)]; exact e112 j (by omega)
      have agesK : ∀ i : Nat, i ≤ K → ∀ mz : Mem, (∀ c j : Int, ¬ c = 90 → mz c j = md c j) → (∀ j : Int, mz 90 j = if 0 ≤ j ∧ j < (i : Int) then m 113 j else m 90 j) → R2 X 1 mY_back 12 [(0, vr 84), (1, vi (i : Int))] [] sw mz (fun z2 sw2 m2 => QQ (md 61 0) z2 sw2 m2) := by
        refine downN K (fun mz fz z90 => ?_) (fun i hi ih mz fz z90 => ?_)
        · refine wY_back_12 _ _ _ _ ?_
          rw [fz 84 44 (by omega), k 84 44 (by omega), b3, hK]
          exact ⟨fun _ => led mz fz z90 0 (Nat.zero_le _) mz (fun _ _ _ => rfl) (fun j hj => absurd hj (Nat.not_lt_zero _)), fun q => absurd (Int.le_refl _) q⟩
        · refine wY_back_12 _ _ _ _ ?_
          rw [fz 84 44 (by omega), k 84 44 (by omega), b3, hK, w32_id (z := (K : Int)) (by omega) (by omega), w32_id (z := (i : Int)) (by omega) (by omega), fz 113 _ (by omega), k 113 _ (by omega)]
          refine ⟨fun q => by omega, fun _ => ⟨by omega, by omega, ih _ (fun c j q => by rw [upm_row q]; exact fz c j q) (fun j => ?_)⟩⟩
          rw [upm_at, z90]
          by_cases cj : j = (i : Int)
          · rw [if_pos cj, if_pos (by omega), cj]
          · rw [if_neg cj]
            by_cases c2 : 0 ≤ j ∧ j < (i : Int)
            · rw [if_pos c2, if_pos (by omega)]
            · rw [if_neg c2, if_neg (by omega)]
      refine agesK 0 (Nat.zero_le _) md (fun _ _ _ => rfl) (fun j => ?_)
      rw [if_neg (by omega)]; exact k 90 j (by omega)
    have key : ∀ i : Nat, i ≤ K → ∀ mc : Mem, (∀ c j : Int, ¬ c = 9 → ¬ (c = 2 ∧ j = 4) → mc c j = m c j) → mc 2 4 = m 2 4 + (i : Int) → (∀ j : Int, mc 9 j = if 0 ≤ j ∧ j < (i : Int) then m 63 j else m 9 j) → R2 X 3 mD_layBack 12 [(0, vr 60), (1, vi (i : Int))] [] sw mc (fun z1 sw1 m1 => M2 X 1 mY_back [vr 84] sw1 m1 (fun z2 sw2 m2 => QQ z1 z2 sw2 m2)) := by
      refine downN K (fun mc fc e4 e9 => ?_) (fun i hi ih mc fc e4 e9 => ?_)
      · refine wD_layBack_12 _ _ _ _ ?_
        rw [fc 60 5 (by omega) (by omega), hK]
        exact ⟨fun _ => fin mc fc e4 e9, fun q => absurd (Int.le_refl _) q⟩
      · refine wD_layBack_12 _ _ _ _ ?_
        rw [fc 60 5 (by omega) (by omega), hK, w32_id (z := (K : Int)) (by omega) (by omega), w32_id (z := (i : Int)) (by omega) (by omega), fc 63 _ (by omega) (by omega)]
        refine ⟨fun q => by omega, fun _ => ⟨by omega, eK_write (by omega) (by decide) (ih _ (fun c j q1 q2 => ?_) ?_ (fun j => ?_))⟩⟩
        · rw [wr5_o q1 q2]; exact fc c j q1 q2
        · rw [wr5_4, e4]; omega
        · rw [wr5_9, e9]
          by_cases cj : j = (i : Int)
          · rw [if_pos cj, if_pos (by omega), cj]
          · rw [if_neg cj]
            by_cases c2 : 0 ≤ j ∧ j < (i : Int)
            · rw [if_pos c2, if_pos (by omega)]
            · rw [if_neg c2, if_neg (by omega)]
    exact key 0 (Nat.zero_le _) m (fun _ _ _ _ => rfl) (by omega) (fun j => by rw [if_neg (by omega)])
  · rw [d3, w32_id (z := m 60 6) (by omega) (by omega)]
    exact ⟨fun q => absurd (Decidable.not_not.mp c) q, fun _ => h _ m hI hD (KW.rf (by decide) m) (fun _ _ _ _ _ _ _ _ _ _ _ => rfl) (fun _ _ _ => rfl)⟩
end DE
