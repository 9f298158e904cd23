/-! acts: the class's run, the model's methods -/
def ow (a : Int) : Nat → Int → Int
  | 0, up => up
  | f + 1, up => if 0 ≤ up ∧ up < 8 then (if ext6.getD (a * 8 + up).toNat 0 = 0 then ow a f (ext5.getD up.toNat 0) else up) else up
theorem up_b : ∀ k : Nat, k < 8 → -1 ≤ ext5.getD k 0 ∧ ext5.getD k 0 < 8 := by decide
theorem bd_b : ∀ k : Nat, k < 32 → 0 ≤ ext6.getD k 0 ∧ ext6.getD k 0 < 100 := by decide
section AC2
variable {X : Cx} {sw : Bool} {m : Mem} {Q : Int → Bool → Mem → Prop}
theorem lA_owner {a : Int} (ha : 0 ≤ a ∧ a < 4) : ∀ (f : Nat) (up i : Int), 0 ≤ i → i + (f : Int) = 8 → -1 ≤ up → up < 8 → Q (ow a f up) sw m → R2 X 2 mA_ownerOf 4 [(0, vi a), (2, vi up), (3, vi i)] [] sw m Q := by
  intro f
  induction f with
  | zero =>
    intro up i hi0 hi h1 h2 h
    refine wA_ownerOf_4 _ _ _ _ _ _ ?_
    rw [w32_id (z := i) (by omega) (by omega)]
    exact ⟨fun _ => h, fun q => by omega⟩
  | succ f ih =>
    intro up i hi0 hi h1 h2 h
    have hup : w32 up = up := w32_id (by omega) (by omega)
    unfold ow at h
    refine wA_ownerOf_4 _ _ _ _ _ _ ?_
    rw [w32_id (z := i) (by omega) (by omega)]
    refine ⟨fun q => by omega, fun _ => eA_isKind hup ?_⟩
    rw [bz_w, bz_0, hup, w32_id (z := a * 8 + up) (by omega) (by omega)]
    refine ⟨fun c => ?_, fun c => ?_⟩
    · rwa [if_neg c] at h
    · have c := Decidable.not_not.mp c
      rw [if_pos c] at h
      have hb := bd_b (a * 8 + up).toNat (by omega)
      rw [w32_id (z := ext6.getD (a * 8 + up).toNat 0) (by omega) (by omega)]
      refine ⟨⟨by omega, by omega⟩, fun c2 => ?_, fun c2 => ?_⟩
      · rwa [if_neg c2] at h
      · rw [if_pos (Decidable.not_not.mp c2)] at h
        have hu := up_b up.toNat (by omega)
        exact ⟨c, ih _ _ (by omega) (by omega) hu.1 hu.2 h⟩
theorem eA_ownerOf {a up : Int} (ha : 0 ≤ a ∧ a < 4) (h1 : -1 ≤ up) (h2 : up < 8) (h : Q (ow a 8 up) sw m) : M2 X 2 mA_ownerOf [vi a, vi up] sw m Q :=
  wA_ownerOf _ _ _ _ _ (lA_owner ha 8 up 0 (by decide) rfl h1 h2 h)
def rn : Nat → Int → Int → Int → Int → Int → Option (Int × List Int)
  | 0, _, _, _, _, _ => none
  | f + 1, act, own, from_, x, n =>
    if 0 ≤ ow act 8 from_ ∧ ow act 8 from_ < 8 then
      match ext6.getD (act * 8 + ow act 8 from_).toNat 0 with
      | 1 => some (x + n, [1])
      | 2 => (rn f 1 own own x n).bind fun r => (rn f 2 own own 1 n).bind fun q => some (r.1 - q.1, 2 :: (r.2 ++ q.2))
      | 10 => (rn f 0 own own x n).bind fun r => some (r.1 * 2, 10 :: r.2)
      | 11 => some (zxor x n, [11])
      | 20 => (rn f act own (ext5.getD (ow act 8 from_).toNat 0) x n).bind fun r => some (r.1 + 3, 20 :: r.2)
      | 30 => (rn f act own (ext5.getD (ow act 8 from_).toNat 0) x n).bind fun r => some (-r.1, 30 :: r.2)
      | 40 => (rn f act own (ext5.getD (ow act 8 from_).toNat 0) x n).bind fun r => some (r.1 * 3, 40 :: r.2)
      | 41 => (rn f act own (ext5.getD (ow act 8 from_).toNat 0) (x + 1) n).bind fun r => some (r.1, 41 :: r.2)
      | 50 => (rn f act own (ext5.getD (ow act 8 from_).toNat 0) x n).bind fun r => some (zxor r.1 5, 50 :: r.2)
      | 60 => (rn f act own (ext5.getD (ow act 8 from_).toNat 0) x n).bind fun r => (rn f 0 own own 2 n).bind fun q => some (r.1 - q.1, 60 :: (r.2 ++ q.2))
      | 61 => (rn f act own (ext5.getD (ow act 8 from_).toNat 0) x n).bind fun r => some (r.1 + 1, 61 :: r.2)
      | 70 => (rn f act own (ext5.getD (ow act 8 from_).toNat 0) x n).bind fun r => some (r.1 * 2, 70 :: r.2)
      | 80 => (rn f act own (ext5.getD (ow act 8 from_).toNat 0) x n).bind fun r => (rn f 2 own own 2 n).bind fun q => some (r.1 + q.1, 80 :: (r.2 ++ q.2))
      | 81 => (rn f act own (ext5.getD (ow act 8 from_).toNat 0) x n).bind fun r => some (r.1 - 1, 81 :: r.2)
      | _ => none
    else none
theorem ow_b {a up : Int} (h1 : -1 ≤ up) (h2 : up < 8) : ∀ f, -1 ≤ ow a f up ∧ ow a f up < 8 := by
  intro f
  induction f generalizing up with
  | zero => exact ⟨h1, h2⟩
  | succ f ih =>
    unfold ow
    split
    · split
      · have hu := up_b up.toNat (by omega)
        exact ih hu.1 hu.2
      · exact ⟨h1, h2⟩
    · exact ⟨h1, h2⟩
theorem apL_o4 (m : Mem) (L : List Int) : apL m L 69 4 = m 69 4 := apL_o L m 69 4 (by omega) (by omega)
theorem apL_o5 (m : Mem) (L : List Int) : apL m L 69 5 = m 69 5 := apL_o L m 69 5 (by omega) (by omega)
theorem rn_len : ∀ (f : Nat) (act own from_ x n v : Int) (L : List Int), rn f act own from_ x n = some (v, L) → 1 ≤ L.length := by
  intro f
  cases f with
  | zero => intro act own from_ x n v L h; exact absurd h (by unfold rn; simp)
  | succ f =>
    intro act own from_ x n v L h
    unfold rn at h
    split at h
    · split at h
      all_goals first
        | (have h := Option.some.inj h; have e := congrArg Prod.snd h; dsimp only at e; rw [← e]; simp; done)
        | (obtain ⟨r, -, h⟩ := Option.bind_eq_some_iff.mp h; have h := Option.some.inj h; have e := congrArg Prod.snd h; dsimp only at e; rw [← e]; simp; done)
        | (obtain ⟨r, -, h⟩ := Option.bind_eq_some_iff.mp h; obtain ⟨q, -, h⟩ := Option.bind_eq_some_iff.mp h; have h := Option.some.inj h; have e := congrArg Prod.snd h; dsimp only at e; rw [← e]; simp; done)
        | cases h
    · cases h
theorem eA_run : ∀ (f d : Nat) (act from_ x v a4 : Int) (L : List Int) (m : Mem) (Q : Int → Bool → Mem → Prop), f + 2 ≤ d → rn f act (m 69 5) from_ x (m 69 4) = some (v, L) → 0 ≤ act ∧ act < 4 → -1 ≤ from_ → from_ < 8 → 0 ≤ m 69 5 ∧ m 69 5 < 8 → 0 ≤ m 69 3 → m 69 3 + L.length ≤ 24 → 0 ≤ a4 → a4 + f ≤ 40 → Q v sw (apL m L) → M2 X d mA_run [vr 69, vi act, vi from_, vi x, vi a4] sw m Q := by
  intro f
  induction f with
  | zero => intro d act from_ x v a4 L m Q hd h; exact absurd h (by unfold rn; simp)
  | succ f ih =>
    intro d act from_ x v a4 L m Q hd h ha hf1 hf2 hk hc hL h4 h40 hq
    have ho := ow_b (a := act) hf1 hf2 8
    unfold rn at h
    have c : 0 ≤ ow act 8 from_ ∧ ow act 8 from_ < 8 := by
      by_cases c : 0 ≤ ow act 8 from_ ∧ ow act 8 from_ < 8
      · exact c
      · rw [if_neg c] at h; cases h
    have h24 : m 69 3 < 24 := by
      have := rn_len (f + 1) act (m 69 5) from_ x (m 69 4) v L (by unfold rn; exact h)
      omega
    rw [if_pos c] at h
    obtain ⟨d, rfl⟩ : ∃ d', d = d' + 1 := ⟨d - 1, by omega⟩
    refine wA_run (d := d) (by omega) _ _ _ _ _ _ _ (eA_ownerOf ha hf1 hf2 ?_)
    have eo : w32 (ow act 8 from_) = ow act 8 from_ := w32_id (by omega) (by omega)
    refine eA_isKind eo ?_
    rw [bz_w, bz_0, eo, w32_id (z := act * 8 + ow act 8 from_) (by omega) (by omega), w32_id (z := a4) (by omega) (by omega)]
    have hb := bd_b (act * 8 + ow act 8 from_).toNat (by omega)
    have hu := up_b (ow act 8 from_).toNat (by omega)
    generalize ext5.getD (ow act 8 from_).toNat 0 = up at h hu ⊢
    generalize ext6.getD (act * 8 + ow act 8 from_).toNat 0 = b at h hb ⊢
    rw [w32_id (z := b) (by omega) (by omega)]
    refine ⟨fun q => absurd c q, fun _ => ⟨fun _ => ⟨c, ⟨by omega, by omega⟩, ?_⟩, fun q => by omega⟩⟩
    have step : ∀ (act' from' x' : Int) (mm : Mem) (Q' : Int → Bool → Mem → Prop) (r : Int × List Int), (∀ c j, ¬ c = 71 → ¬ (c = 69 ∧ j = 3) → mm c j = m c j) → rn f act' (m 69 5) from' x' (m 69 4) = some r → 0 ≤ act' ∧ act' < 4 → -1 ≤ from' → from' < 8 → 0 ≤ mm 69 3 → mm 69 3 + r.2.length ≤ 24 → Q' r.1 sw (apL mm r.2) → M2 X d mA_run [vr 69, vi act', vi from', vi x', vi (a4 + 1)] sw mm Q' := by
      intro act' from' x' mm Q' r e hr h1 h2 h3 h5 h6 h7
      refine ih d act' from' x' r.1 (a4 + 1) r.2 mm Q' (by omega) ?_ h1 h2 h3 ?_ h5 h6 (by omega) (by omega) h7
      · rw [e 69 5 (by omega) (by omega), e 69 4 (by omega) (by omega)]; exact hr
      · rw [e 69 5 (by omega) (by omega)]; exact hk
    have e1 : ∀ (b : Int) c j, ¬ c = 71 → ¬ (c = 69 ∧ j = 3) → ap1 m b c j = m c j := fun b c j h1 h2 => ap1_o m b c j h1 h2
    have one : ∀ (b act' from' x' : Int) (F : Int → Int) (Q' : Int → Bool → Mem → Prop), (rn f act' (m 69 5) from' x' (m 69 4)).bind (fun r => some (F r.1, b :: r.2)) = some (v, L) → 0 ≤ act' ∧ act' < 4 → -1 ≤ from' → from' < 8 → (∀ r, v = F r → Q' r sw (apL m L)) → M2 X d mA_run [vr 69, vi act', vi from', vi x', vi (a4 + 1)] sw (ap1 m b) Q' := by
      intro b act' from' x' F Q' hh h1 h2 h3 h5
      obtain ⟨r, hr, hh⟩ := Option.bind_eq_some_iff.mp hh
      have hh := Option.some.inj hh
      have hv : v = F r.1 := (congrArg Prod.fst hh).symm
      have hLe : L = b :: r.2 := (congrArg Prod.snd hh).symm
      rw [hLe, List.length_cons] at hL
      refine step act' from' x' (ap1 m b) Q' r (e1 b) hr h1 h2 h3 (by rw [ap1_3]; omega) (by rw [ap1_3]; omega) ?_
      have := h5 r.1 hv
      rw [hLe] at this
      exact this
    have two : ∀ (b act1 from1 x1 act2 x2 : Int) (F : Int → Int → Int) (Q' : Int → Int → Bool → Mem → Prop), ((rn f act1 (m 69 5) from1 x1 (m 69 4)).bind fun r => (rn f act2 (m 69 5) (m 69 5) x2 (m 69 4)).bind fun q => some (F r.1 q.1, b :: (r.2 ++ q.2))) = some (v, L) → 0 ≤ act1 ∧ act1 < 4 → -1 ≤ from1 → from1 < 8 → 0 ≤ act2 ∧ act2 < 4 → (∀ r q, v = F r q → Q' r q sw (apL m L)) → M2 X d mA_run [vr 69, vi act1, vi from1, vi x1, vi (a4 + 1)] sw (ap1 m b) (fun z1 sw1 m1 => M2 X d mA_run [vr 69, vi act2, vi (m 69 5), vi x2, vi (a4 + 1)] sw1 m1 (fun z2 sw2 m2 => Q' z1 z2 sw2 m2)) := by
      intro b act1 from1 x1 act2 x2 F Q' hh h1 h2 h3 h6 h5
      obtain ⟨r, hr, hh⟩ := Option.bind_eq_some_iff.mp hh
      obtain ⟨q, hq2, hh⟩ := Option.bind_eq_some_iff.mp hh
      have hh := Option.some.inj hh
      have hv : v = F r.1 q.1 := (congrArg Prod.fst hh).symm
      have hLe : L = b :: (r.2 ++ q.2) := (congrArg Prod.snd hh).symm
      rw [hLe, List.length_cons, List.length_append] at hL
      refine step act1 from1 x1 (ap1 m b) _ r (e1 b) hr h1 h2 h3 (by rw [ap1_3]; omega) (by rw [ap1_3]; omega) ?_
      refine step act2 (m 69 5) x2 (apL (ap1 m b) r.2) _ q (fun c j k1 k2 => (apL_o r.2 _ c j k1 k2).trans (e1 b c j k1 k2)) hq2 h6 (by omega) (by omega) (by rw [apL_3, ap1_3]; omega) (by rw [apL_3, ap1_3]; omega) ?_
      have := h5 r.1 q.1 hv
      rw [hLe] at this
      rw [apL_app]
      exact this
    have em4 : ∀ b : Int, ap1 m b 69 4 = m 69 4 := fun b => e1 b 69 4 (by omega) (by omega)
    have leaf : ∀ (b v' : Int), some (v', [b]) = some (v, L) → Q v' sw (ap1 m b) := by
      intro b v' hh
      have hh := Option.some.inj hh
      have hv : v' = v := congrArg Prod.fst hh
      have hLe : L = [b] := (congrArg Prod.snd hh).symm
      rw [hv]
      rw [hLe] at hq
      exact hq
    refine eA_began ⟨hc, h24⟩ ⟨fun q => ?_, fun q => ?_, fun q => ?_, fun q => ?_, fun q => ?_, fun q => ?_, fun q => ?_, fun q => ?_, fun q => ?_, fun q => ?_, fun q => ?_, fun q => ?_, fun q => ?_, fun q => ?_, fun q => ?_⟩
    · subst q; rw [em4]; exact leaf 1 _ h
    · subst q; exact two 2 1 (m 69 5) x 2 1 (fun a b => a - b) (fun z1 z2 => Q (z1 - z2)) h (by omega) (by omega) (by omega) (by omega) (fun r q e => by rw [e] at hq; exact hq)
    · subst q; exact one 10 0 (m 69 5) x (fun a => a * 2) (fun z => Q (z * 2)) h (by omega) (by omega) (by omega) (fun r e => by rw [e] at hq; exact hq)
    · subst q; rw [em4]; exact leaf 11 _ h
    · subst q; exact one 20 act up x (fun a => a + 3) (fun z => Q (z + 3)) h ha hu.1 hu.2 (fun r e => by rw [e] at hq; exact hq)
    · subst q; exact one 30 act up x (fun a => -a) (fun z => Q (-z)) h ha hu.1 hu.2 (fun r e => by rw [e] at hq; exact hq)
    · subst q; exact one 40 act up x (fun a => a * 3) (fun z => Q (z * 3)) h ha hu.1 hu.2 (fun r e => by rw [e] at hq; exact hq)
    · subst q; exact one 41 act up (x + 1) (fun a => a) (fun z => Q z) h ha hu.1 hu.2 (fun r e => by rw [e] at hq; exact hq)
    · subst q; exact one 50 act up x (fun a => zxor a 5) (fun z => Q (zxor z 5)) h ha hu.1 hu.2 (fun r e => by rw [e] at hq; exact hq)
    · subst q; exact two 60 act up x 0 2 (fun a b => a - b) (fun z1 z2 => Q (z1 - z2)) h ha hu.1 hu.2 (by omega) (fun r q e => by rw [e] at hq; exact hq)
    · subst q; exact one 61 act up x (fun a => a + 1) (fun z => Q (z + 1)) h ha hu.1 hu.2 (fun r e => by rw [e] at hq; exact hq)
    · subst q; exact one 70 act up x (fun a => a * 2) (fun z => Q (z * 2)) h ha hu.1 hu.2 (fun r e => by rw [e] at hq; exact hq)
    · subst q; exact two 80 act up x 2 2 (fun a b => a + b) (fun z1 z2 => Q (z1 + z2)) h ha hu.1 hu.2 (by omega) (fun r q e => by rw [e] at hq; exact hq)
    · subst q; exact one 81 act up x (fun a => a - 1) (fun z => Q (z - 1)) h ha hu.1 hu.2 (fun r e => by rw [e] at hq; exact hq)
    · exfalso
      split at h <;> first | omega | (cases h)
end AC2
