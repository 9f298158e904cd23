/-! taken, count -/
def un : Nat → Int → Int → Int
  | 0, up, _ => up
  | f + 1, up, t => if 0 ≤ up ∧ up < 8 then (if up = t then up else un f (ext5.getD up.toNat 0) t) else up
theorem un_is {k t : Int} (hk : 0 ≤ k ∧ k < 8) (ht : 0 ≤ t ∧ t < 8) : un 8 k t = t ↔ isU k t := by
  rcases k8 hk with rfl | rfl | rfl | rfl | rfl | rfl | rfl | rfl <;> rcases k8 ht with rfl | rfl | rfl | rfl | rfl | rfl | rfl | rfl <;> decide
section TK
variable {X : Cx} {sw : Bool} {m : Mem} {Q : Int → Bool → Mem → Prop}
theorem lA_isUnder {t : Int} (ht : w32 t = t) : ∀ (f : Nat) (up i : Int), 0 ≤ i → i + (f : Int) = 8 → -1 ≤ up → up < 8 → Q (bz (un f up t = t)) sw m → R2 X 2 mA_isUnder 4 [(1, vi t), (2, vi up), (3, vi i)] [] sw m Q := by
  intro f
  induction f with
  | zero =>
    intro up i hi0 hi h1 h2 h
    refine wA_isUnder_4 _ _ _ _ _ _ ?_
    rw [w32_id (z := i) (by omega) (by omega), ht, w32_id (z := up) (by omega) (by omega)]
    unfold un at h
    refine ⟨fun _ => ⟨fun q => ?_, fun q => ?_⟩, fun q => by omega⟩
    · rwa [bz_f q] at h
    · rwa [bz_t (Decidable.not_not.mp q)] at h
  | succ f ih =>
    intro up i hi0 hi h1 h2 h
    have hup : w32 up = up := w32_id (by omega) (by omega)
    unfold un at h
    refine wA_isUnder_4 _ _ _ _ _ _ ?_
    rw [w32_id (z := i) (by omega) (by omega)]
    refine ⟨fun q => by omega, fun _ => eA_isKind hup ?_⟩
    rw [bz_w, bz_0, hup, ht]
    refine ⟨fun c => ?_, fun c => ?_⟩
    · rw [if_neg c] at h
      refine ⟨fun q => ?_, fun q => ?_⟩
      · rwa [bz_f q] at h
      · rwa [bz_t (Decidable.not_not.mp q)] at h
    · have c := Decidable.not_not.mp c
      rw [if_pos c] at h
      refine ⟨fun c2 => ?_, fun c2 => ?_⟩
      · rw [if_pos c2, bz_t c2] at h
        exact ⟨fun q => absurd c2 q, fun _ => h⟩
      · rw [if_neg c2] at h
        have hu := up_b up.toNat (by omega)
        exact ⟨c, ih _ _ (by omega) (by omega) hu.1 hu.2 h⟩
theorem eA_isUnder {k t : Int} (hk : 0 ≤ k ∧ k < 8) (ht : 0 ≤ t ∧ t < 8) (h : Q (bz (isU k t)) sw m) : M2 X 2 mA_isUnder [vi k, vi t] sw m Q := by
  refine wA_isUnder _ _ _ _ _ (lA_isUnder (w32_id (by omega) (by omega)) 8 k 0 (by decide) rfl (by omega) (by omega) ?_)
  rw [bz_c (un_is hk ht)]
  exact h
theorem pr_taken {a k : Int} (ha : w32 a = a) (hk : w32 k = k) (hI : IS m) (hB : IB m) {QQ : Int → Int → Bool → Mem → Prop} (h : ∀ z, QQ z z sw m) : M2 X 5 mZ_taken [vr 1, vi a, vi k] sw m (fun z1 sw1 m1 => M2 X 3 mY_taken [vr 84, vi a, vi k] sw1 m1 (fun z2 sw2 m2 => QQ z1 z2 sw2 m2)) := by
  refine wZ_taken _ _ _ _ _ (eS_isShelf ha ?_)
  rw [bz_w, bz_0]
  refine ⟨fun c => ?_, fun c => ?_⟩
  · refine wY_taken _ _ _ _ _ (eY_isShelf ha ?_)
    rw [bz_w, bz_0]
    exact ⟨fun _ => h _, fun q => absurd c q⟩
  · have c := Decidable.not_not.mp c
    refine eA_isKind hk ?_
    rw [bz_w, bz_0]
    have hs := (hI.2.2.2 a c.1 c.2).1
    have hI2 := hI.2.1
    have ew : w32 (m 117 a) = m 117 a := w32_id (by omega) (by omega)
    -- the model once the shelf is one and the kind is one
    have yy : ∀ z, 0 ≤ k ∧ k ≤ 7 → (m 117 a = -1 → z = -11) → (m 117 a < 0 → ¬ m 117 a = -1 → z = -12) → (0 ≤ m 117 a → (isU (m 70 (m 117 a)) k → z = m 70 (m 117 a)) ∧ (¬ isU (m 70 (m 117 a)) k → z = -12)) → M2 X 3 mY_taken [vr 84, vi a, vi k] sw m (fun z2 sw2 m2 => QQ z z2 sw2 m2) := by
      intro z hk8 z1 z2 z3
      refine wY_taken _ _ _ _ _ (eY_isShelf ha ?_)
      rw [bz_w, bz_0]
      refine ⟨fun q => absurd c q, fun _ => eY_in hk (by decide) (by decide) ?_⟩
      rw [bz_w, bz_0, ha, ew]
      refine ⟨fun _ => ⟨c, fun c2 => ⟨c, fun c3 => ?_, fun c3 => ?_⟩, fun c2 => ?_⟩, fun q => by omega⟩
      · rw [z2 c3 c2]; exact h _
      · have hb : m 117 a < m 69 2 := by omega
        have hkk := hB (m 117 a) (by omega) hb
        refine ⟨c, by omega, ?_⟩
        rw [hkk.1]
        refine eY_isUnder (w32_id (by omega) (by omega)) hk ?_
        rw [bz_w, bz_0, ew, hkk.1]
        refine ⟨fun q => ?_, fun q => ⟨c, by omega, ?_⟩⟩
        · rw [(z3 (by omega)).2 q]; exact h _
        · rw [(z3 (by omega)).1 (Decidable.not_not.mp q)]; exact h _
      · rw [z1 (Decidable.not_not.mp c2)]; exact h _
    refine ⟨fun c2 => ?_, fun c2 => ?_⟩
    · have c2 := Decidable.not_not.mp c2
      refine wS_refusalOfBody _ _ _ _ (eS_refusalOf ha (by decide) hI ?_)
      rw [rfo_w]
      refine ⟨fun c3 => ?_, fun c3 => ?_⟩
      · refine wS_bodyOn _ _ _ _ (wS_refusalOfBody _ _ _ _ (eS_refusalOf ha (by decide) hI ?_))
        rw [rfo_w, ha]
        refine ⟨fun q => absurd c3 q, fun _ => ⟨c, ?_⟩⟩
        have h73 := rfo_0 c3
        have e117 : m 117 a = m 74 a ∧ 0 ≤ m 74 a ∧ m 74 a < m 69 2 := by omega
        have e74 : w32 (m 74 a) = m 74 a := w32_id (by omega) (by omega)
        refine wA_kindOf _ _ _ _ (eA_has e74 hI ?_)
        rw [bz_w, bz_0, e74]
        refine ⟨fun q => absurd ⟨e117.2.1, e117.2.2⟩ q, fun _ => ⟨by omega, ?_⟩⟩
        have hkk := hB (m 74 a) (by omega) (by omega)
        refine eA_isUnder hkk.2 (by omega) ?_
        rw [bz_w, bz_0]
        refine ⟨fun q => yy _ (by omega) (fun p => by omega) (fun p => by omega) (fun _ => ?_), fun q => yy _ (by omega) (fun p => by omega) (fun p => by omega) (fun _ => ?_)⟩
        · rw [e117.1]; exact ⟨fun p => absurd p q, fun _ => rfl⟩
        · rw [e117.1]; exact ⟨fun _ => rfl, fun p => absurd p q⟩
      · have e0 : rfo m a 1 = (if m 73 a = 0 then -11 else if m 73 a = 1 then 0 else -12) := by unfold rfo; rw [if_pos c]
        rw [e0] at c3 ⊢
        by_cases p0 : m 73 a = 0
        · rw [if_pos p0]
          exact yy _ (by omega) (fun _ => rfl) (fun p => by omega) (fun p => by omega)
        · rw [if_neg p0] at c3 ⊢
          by_cases p1 : m 73 a = 1
          · rw [if_pos p1] at c3; exact absurd rfl c3
          · rw [if_neg p1]
            exact yy _ (by omega) (fun p => by omega) (fun _ _ => rfl) (fun p => by omega)
    · refine wY_taken _ _ _ _ _ (eY_isShelf ha ?_)
      rw [bz_w, bz_0]
      refine ⟨fun q => absurd c q, fun _ => eY_in hk (by decide) (by decide) ?_⟩
      rw [bz_w, bz_0]
      exact ⟨fun q => by omega, fun _ => h _⟩
theorem pr_count {a : Int} (ha : w32 a = a) (e1 : m 84 1 = m 2 3) (e2 : m 84 16 = m 18 4) (e3 : m 84 9 = m 64 5) (e4 : m 84 47 = m 69 2) (e5 : m 84 49 = m 69 3) {QQ : Int → Int → Bool → Mem → Prop} (h : ∀ z, QQ z z sw m) : M2 X 1 mZ_count [vr 1, vi a] sw m (fun z1 sw1 m1 => M2 X 1 mY_count [vr 84, vi a] sw1 m1 (fun z2 sw2 m2 => QQ z1 z2 sw2 m2)) := by
  have yy : ∀ z, (a = 0 → z = m 2 3) → (a = 1 → z = m 18 4) → (a = 2 → z = m 64 5) → (a = 3 → z = m 69 2) → (a = 4 → z = m 69 3) → (a < 0 ∨ 4 < a → z = -1) → M2 X 1 mY_count [vr 84, vi a] sw m (fun z2 sw2 m2 => QQ z z2 sw2 m2) := by
    intro z h0 h1 h2 h3 h4 h5
    refine wY_count _ _ _ _ ?_
    rw [ha, e1, e2, e3, e4, e5]
    exact ⟨fun q => by rw [h0 q]; exact h _, fun q => by rw [h1 q]; exact h _, fun q => by rw [h2 q]; exact h _, fun q => by rw [h3 q]; exact h _, fun q => by rw [h4 q]; exact h _, fun q => by rw [h5 q]; exact h _⟩
  refine wZ_count _ _ _ _ ?_
  rw [ha]
  refine ⟨fun q => ?_, fun q => ?_, fun q => ?_, fun q => ?_, fun q => ?_, fun q => ?_⟩ <;> exact yy _ (by intro p; first | rfl | omega) (by intro p; first | rfl | omega) (by intro p; first | rfl | omega) (by intro p; first | rfl | omega) (by intro p; first | rfl | omega) (by intro p; first | rfl | omega)
end TK
