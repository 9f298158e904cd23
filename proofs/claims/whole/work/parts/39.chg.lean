/-! changes: mend, undo, redo -/
abbrev En (n : Int) (m : Mem) (i : Int) : Prop := m 92 i = m 66 i ∧ m 93 i = m 65 i ∧ m 94 i = m 67 i ∧ m 95 i = m 68 i ∧ vp n (m 66 i) (m 65 i) ∧ ft (m 65 i) (m 66 i) (m 67 i) ∧ ft (m 65 i) (m 66 i) (m 68 i)
def IG (m : Mem) : Prop := 0 ≤ m 64 5 ∧ m 64 5 ≤ m 64 6 ∧ m 64 6 ≤ 40 ∧ m 84 9 = m 64 5 ∧ m 84 10 = m 64 6 - m 64 5 ∧ ∀ i : Int, 0 ≤ i → i < m 64 6 → En (m 2 3) m i
def DG (c j : Int) : Prop := (c = 64 ∧ (j = 5 ∨ j = 6)) ∨ (65 ≤ c ∧ c ≤ 68) ∨ (92 ≤ c ∧ c ≤ 95) ∨ (c = 84 ∧ (j = 9 ∨ j = 10))
theorem vp_mono {n n' w a : Int} (h : vp n w a) (q : n ≤ n') : vp n' w a := by unfold vp at *; omega
theorem En.mv {n n' : Int} {m m' : Mem} {i j : Int} (h : En n m j) (q : n ≤ n') (f : ∀ c, (65 ≤ c ∧ c ≤ 68) ∨ (92 ≤ c ∧ c ≤ 95) → m' c i = m c j) : En n' m' i := by
  unfold En at *
  rw [f 65 (by omega), f 66 (by omega), f 67 (by omega), f 68 (by omega), f 92 (by omega), f 93 (by omega), f 94 (by omega), f 95 (by omega)]
  exact ⟨h.1, h.2.1, h.2.2.1, h.2.2.2.1, vp_mono h.2.2.2.2.1 q, h.2.2.2.2.2.1, h.2.2.2.2.2.2⟩
theorem IG.fr {m m' : Mem} (h : IG m) (q : m 2 3 ≤ m' 2 3) (f : ∀ c j, DG c j → m' c j = m c j) : IG m' := by
  obtain ⟨h1, h2, h3, h4, h5, h6⟩ := h
  unfold IG
  rw [f 64 5 (by unfold DG; omega), f 64 6 (by unfold DG; omega), f 84 9 (by unfold DG; omega), f 84 10 (by unfold DG; omega)]
  exact ⟨h1, h2, h3, h4, h5, fun i a b => (h6 i a b).mv q (fun c hc => f c i (by unfold DG; omega))⟩
/-- what may have become of the numbers: at most b writings, each seen -/
def KW (b : Int) (m m' : Mem) : Prop := m 2 4 ≤ m' 2 4 ∧ m' 2 4 ≤ m 2 4 + b ∧ m 2 5 ≤ m' 2 5 ∧ m' 2 5 ≤ m 2 5 + b ∧ m 2 3 ≤ m' 2 3 ∧ (m' 2 5 = m 2 5 → m' 2 3 = m 2 3 ∧ m' 4 = m 4 ∧ m' 5 = m 5 ∧ m' 7 = m 7) ∧ (m' 2 4 = m 2 4 → m' 2 3 = m 2 3 ∧ ∀ c : Int, 4 ≤ c → c ≤ 16 → m' c = m c)
theorem KW.rf {b : Int} (hb : 0 ≤ b) (m : Mem) : KW b m m := ⟨by omega, by omega, by omega, by omega, by omega, fun _ => ⟨rfl, rfl, rfl, rfl⟩, fun _ => ⟨rfl, fun _ _ _ => rfl⟩⟩
theorem KW.tr {b b' : Int} {m1 m2 m3 : Mem} (h : KW b m1 m2) (g : KW b' m2 m3) : KW (b + b') m1 m3 := by
  obtain ⟨h1, h2, h3, h4, h5, h6, h7⟩ := h
  obtain ⟨g1, g2, g3, g4, g5, g6, g7⟩ := g
  refine ⟨by omega, by omega, by omega, by omega, by omega, fun e => ?_, fun e => ?_⟩
  · have h6 := h6 (by omega)
    have g6 := g6 (by omega)
    exact ⟨g6.1.trans h6.1, g6.2.1.trans h6.2.1, g6.2.2.1.trans h6.2.2.1, g6.2.2.2.trans h6.2.2.2⟩
  · have h7 := h7 (by omega)
    have g7 := g7 (by omega)
    exact ⟨g7.1.trans h7.1, fun c a b => (g7.2 c a b).trans (h7.2 c a b)⟩
theorem KW.le {b b' : Int} {m m' : Mem} (h : KW b m m') (q : b ≤ b') : KW b' m m' := ⟨h.1, by have := h.2.1; omega, h.2.2.1, by have := h.2.2.2.1; omega, h.2.2.2.2⟩
/-- the numbers are untouched -/
theorem KW.sm {b : Int} {m m' : Mem} (hb : 0 ≤ b) (f : ∀ c j, (c = 2 ∧ 3 ≤ j ∧ j ≤ 5) ∨ (4 ≤ c ∧ c ≤ 16) → m' c j = m c j) : KW b m m' := by
  have e3 := f 2 3 (by omega)
  have e4 := f 2 4 (by omega)
  have e5 := f 2 5 (by omega)
  have er : ∀ c : Int, 4 ≤ c → c ≤ 16 → m' c = m c := fun c h1 h2 => funext fun j => f c j (by omega)
  exact ⟨by omega, by omega, by omega, by omega, by omega, fun _ => ⟨e3, er 4 (by omega) (by omega), er 5 (by omega) (by omega), er 7 (by omega) (by omega)⟩, fun _ => ⟨e3, er⟩⟩
theorem KW.w1 {m m' : Mem} {w a v : Int} (hw : 0 ≤ w ∧ w < 13) (f : ∀ c j, (c = 2 ∧ 3 ≤ j ∧ j ≤ 5) ∨ (4 ≤ c ∧ c ≤ 16) → m' c j = wr m w a v c j) : KW 1 m m' := by
  have e3 := f 2 3 (by omega)
  have e4 := f 2 4 (by omega)
  have e5 := f 2 5 (by omega)
  have g3 : wr m w a v 2 3 = m 2 3 := by unfold wr; rw [upm_at, if_neg (by omega), upm_at, if_neg (by omega), upm_row (by omega)]
  have g4 : wr m w a v 2 4 = m 2 4 + 1 := by unfold wr; rw [upm_at, if_neg (by omega), upm_at, if_pos rfl]
  have g5 : wr m w a v 2 5 = m 2 5 + if w = 0 ∨ w = 1 ∨ w = 3 then 1 else 0 := by unfold wr; rw [upm_at, if_pos rfl]
  have gr : ∀ c : Int, 4 ≤ c → c ≤ 16 → ¬ c = 4 + w → m' c = m c := fun c h1 h2 h3 => funext fun j => by
    rw [f c j (by omega)]
    unfold wr
    rw [upm_row (by omega), upm_row (by omega), upm_row h3]
  have b5 : 0 ≤ (if w = 0 ∨ w = 1 ∨ w = 3 then (1 : Int) else 0) ∧ (if w = 0 ∨ w = 1 ∨ w = 3 then (1 : Int) else 0) ≤ 1 := by split <;> decide
  refine ⟨by omega, by omega, by omega, by omega, by omega, fun q => ?_, fun q => by omega⟩
  have hq : ¬ (w = 0 ∨ w = 1 ∨ w = 3) := fun p => by rw [if_pos p] at g5; omega
  exact ⟨by omega, gr 4 (by omega) (by omega) (by omega), gr 5 (by omega) (by omega) (by omega), gr 7 (by omega) (by omega) (by omega)⟩
/-- only the numbers' cells and the changes' have changed -/
def FrG (m m' : Mem) : Prop := ∀ c j : Int, ¬ ((c = 2 ∧ 3 ≤ j ∧ j ≤ 5) ∨ (4 ≤ c ∧ c ≤ 16) ∨ (64 ≤ c ∧ c ≤ 68) ∨ (85 ≤ c ∧ c ≤ 95) ∨ (c = 84 ∧ (j = 1 ∨ j = 9 ∨ j = 10))) → m' c j = m c j
theorem FrG.rf (m : Mem) : FrG m m := fun _ _ _ => rfl
theorem FrG.tr {m1 m2 m3 : Mem} (h : FrG m1 m2) (g : FrG m2 m3) : FrG m1 m3 := fun c j q => (g c j q).trans (h c j q)
theorem FrG.up {m : Mem} {k i v : Int} (h : (k = 2 ∧ 3 ≤ i ∧ i ≤ 5) ∨ (4 ≤ k ∧ k ≤ 16) ∨ (64 ≤ k ∧ k ≤ 68) ∨ (85 ≤ k ∧ k ≤ 95) ∨ (k = 84 ∧ (i = 1 ∨ i = 9 ∨ i = 10))) : FrG m (upm m k i v) := fun c j q => upm_ne (by omega)
theorem FrG.w1 {m : Mem} {w a v : Int} (hw : 0 ≤ w ∧ w < 13) : FrG m (wr m w a v) := ((FrG.up (by omega)).tr (FrG.up (by omega))).tr (FrG.up (by omega))
theorem FrG.cp {m : Mem} {ks sp k dp n : Int} (h : 64 ≤ k ∧ k ≤ 68) : FrG m (cpm m ks sp k dp n) := fun c j q => by rw [cpm_row (by omega)]
def tx (m : Mem) (a w v d z : Int) : Mem := upm (upm (wr (upm (upm (upm (upm m 65 d a) 66 d w) 67 d z) 68 d v) w a v) 64 5 (d + 1)) 64 6 (d + 1)
def ty (m : Mem) (a w v d z : Int) : Mem := upm (upm (upm (upm (upm (upm m 92 d w) 93 d a) 94 d z) 95 d v) 84 9 (d + 1)) (kc w) (ki w a) v
def fo (m : Mem) : Mem := upm (cpm (cpm (cpm (cpm m 65 1 65 0 39) 66 1 66 0 39) 67 1 67 0 39) 68 1 68 0 39) 64 5 39
def sh (m : Mem) (k : Int) : Mem := fun c j => if (92 ≤ c ∧ c ≤ 95) ∧ 0 ≤ j ∧ j < k - 1 then m c (j + 1) else m c j
theorem sh_1 (m : Mem) : sh m 1 = m := by
  funext c j
  unfold sh
  exact if_neg (by omega)
theorem sh_s {m : Mem} {k : Int} (hk : 1 ≤ k) : upm (upm (upm (upm (sh m k) 92 (k - 1) (sh m k 92 k)) 93 (k - 1) (sh m k 93 k)) 94 (k - 1) (sh m k 94 k)) 95 (k - 1) (sh m k 95 k) = sh m (k + 1) := by
  have e : ∀ c, sh m k c k = m c k := fun c => if_neg (by omega)
  rw [e, e, e, e]
  funext c j
  by_cases hc : 92 ≤ c ∧ c ≤ 95
  · by_cases hj : j = k - 1
    · have hr : sh m (k + 1) c j = m c k := by
        unfold sh
        rw [if_pos (by omega), hj]
        congr 1
        omega
      rw [hr]
      have h4 : c = 92 ∨ c = 93 ∨ c = 94 ∨ c = 95 := by omega
      rcases h4 with h4 | h4 | h4 | h4 <;> rw [h4] <;> simp (disch := omega) only [upm_row, upm_at, if_pos hj]
    · rw [upm_ne (by omega), upm_ne (by omega), upm_ne (by omega), upm_ne (by omega)]
      unfold sh
      by_cases hl : 0 ≤ j ∧ j < k - 1
      · rw [if_pos (by omega), if_pos (by omega)]
      · rw [if_neg (by omega), if_neg (by omega)]
  · rw [upm_ne (by omega), upm_ne (by omega), upm_ne (by omega), upm_ne (by omega)]
    unfold sh
    rw [if_neg (by omega), if_neg (by omega)]
theorem fo_row {m : Mem} {c j : Int} (hc : 65 ≤ c ∧ c ≤ 68) (hj : 0 ≤ j ∧ j < 39) : fo m c j = m c (j + 1) := by
  unfold fo
  rw [upm_row (by omega)]
  have h4 : c = 65 ∨ c = 66 ∨ c = 67 ∨ c = 68 := by omega
  have e : (1 : Int) + (j - 0) = j + 1 := by omega
  rcases h4 with h4 | h4 | h4 | h4 <;> rw [h4] <;> simp (disch := omega) only [cpm_row, cpm_at] <;> rw [if_pos (by omega), e]
theorem fo_o {m : Mem} {c j : Int} (hc : ¬ (64 ≤ c ∧ c ≤ 68)) : fo m c j = m c j := by
  unfold fo
  rw [upm_row (by omega), cpm_row (by omega), cpm_row (by omega), cpm_row (by omega), cpm_row (by omega)]
section CG
variable {X : Cx} {sw : Bool} {m : Mem} {Q : Int → Bool → Mem → Prop}
theorem tx_o {m : Mem} {a w v d z : Int} {c j : Int} (hw : 0 ≤ w ∧ w < 13) (h : ¬ ((c = 2 ∧ 3 ≤ j ∧ j ≤ 5) ∨ (4 ≤ c ∧ c ≤ 16) ∨ (64 ≤ c ∧ c ≤ 68))) : tx m a w v d z c j = m c j := by
  unfold tx wr
  simp (disch := omega) only [upm_ne]
theorem eG_tell {a w v d : Int} (hd : 0 ≤ d ∧ d < 40) (hw : 0 ≤ w ∧ w < 13) (ha : 0 ≤ a ∧ a < 9) (h5 : m 64 5 = d) (hq : Q 0 sw (tx m a w v d (m (4 + w) a))) : (0 ≤ w32 (m 64 5) ∧ w32 (m 64 5) < 40) ∧ ((0 ≤ w32 (m 64 5) ∧ w32 (m 64 5) < 40) ∧ M2 X 2 mK_told [vr 2, vi a, vi w] sw (upm (upm m 65 (w32 (m 64 5)) a) 66 (w32 (m 64 5)) w) (fun z1 sw1 m1 => ((0 ≤ w32 (m 64 5) ∧ w32 (m 64 5) < 40) ∧ ((0 ≤ w32 (m1 64 5) ∧ w32 (m1 64 5) < 40) ∧ M2 X 2 mK_write [vr 2, vi a, vi w, vi v] sw1 (upm (upm m1 67 (w32 (m 64 5)) z1) 68 (w32 (m1 64 5)) v) (fun z2 sw2 m2 => Q 0 sw2 (upm (upm m2 64 5 ((m2 64 5) + 1)) 64 6 ((m2 64 5) + 1))))))) := by
  have ed : w32 d = d := w32_id (by omega) (by omega)
  rw [h5, ed]
  refine ⟨hd, hd, eK_told ha hw ?_⟩
  have e1 : upm (upm m 65 d a) 66 d w 64 5 = d := by rw [upm_row (by omega), upm_row (by omega), h5]
  have e2 : upm (upm m 65 d a) 66 d w (4 + w) a = m (4 + w) a := by rw [upm_row (by omega), upm_row (by omega)]
  rw [e1, ed, e2]
  refine ⟨hd, hd, eK_write ha hw ?_⟩
  have e3 : wr (upm (upm (upm (upm m 65 d a) 66 d w) 67 d (m (4 + w) a)) 68 d v) w a v 64 5 = d := by
    unfold wr
    simp (disch := omega) only [upm_row]
    exact h5
  rw [e3]
  exact hq
theorem lY_changes {a w v z : Int} (hQ : Q z sw (ty (sh m 40) a w v 39 z)) (hn : (0 ≤ w ∧ w ≤ 5 ∧ 0 ≤ a ∧ a < 9) ∨ (6 ≤ w ∧ w ≤ 12 ∧ a = 0)) (h9 : m 84 9 = 40) : R2 X 2 mY_changes 34 [(0, vr 84), (1, vi w), (2, vi a), (3, vi v), (4, vi z), (5, vi 1)] [] sw m Q := by
  have key : ∀ k : Nat, k ≤ 39 → R2 X 2 mY_changes 34 [(0, vr 84), (1, vi w), (2, vi a), (3, vi v), (4, vi z), (5, vi ((k : Int) + 1))] [] sw (sh m ((k : Int) + 1)) Q := by
    refine downN 39 ?_ (fun k hk ih => ?_)
    · refine wY_changes_34 _ _ _ _ _ _ _ _ ?_
      have e9 : sh m (((39 : Nat) : Int) + 1) 84 9 = 40 := by unfold sh; rw [if_neg (by omega)]; exact h9
      rw [e9]
      refine ⟨fun _ => ⟨by decide, by decide, by decide, by decide, eY_lays (n := 9) (by omega) hn ?_⟩, fun q => absurd (by decide) q⟩
      unfold ty at hQ
      have e : ∀ (M : Mem) (x : Int), upm (upm (upm (upm (upm (upm M 84 9 (40 - 1)) 92 (w32 (40 - 1)) w) 93 (w32 (40 - 1)) a) 94 (w32 (40 - 1)) x) 95 (w32 (40 - 1)) v) 84 9 (40 - 1 + 1) = upm (upm (upm (upm (upm M 92 39 w) 93 39 a) 94 39 x) 95 39 v) 84 9 (39 + 1) := by
        intro M x
        have e0 : w32 (40 - 1) = 39 := by decide
        rw [e0]
        funext c j
        by_cases h : c = 84 ∧ j = 9
        · rw [h.1, h.2, upm_at, upm_at]; rfl
        · simp only [upm]
          rw [if_neg h, if_neg h]
          repeat' split
          all_goals first | rfl | omega
      rw [e]
      exact hQ
    · have e1 : w32 ((k : Int) + 1) = (k : Int) + 1 := w32_id (by omega) (by omega)
      have e2 : w32 ((k : Int) + 1 - 1) = (k : Int) + 1 - 1 := w32_id (by omega) (by omega)
      refine wY_changes_34 _ _ _ _ _ _ _ _ ?_
      rw [e1, e2, sh_s (by omega)]
      exact ⟨fun q => by omega, fun _ => ⟨by omega, by omega, by omega, by omega, by omega, by omega, by omega, by omega, ih⟩⟩
  have := key 0 (by omega)
  rw [show ((0 : Nat) : Int) + 1 = 1 from rfl, sh_1] at this
  exact this
end CG
