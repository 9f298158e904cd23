/-! what holds between two calls of the run -/
theorem IB.fr {m m' : Mem} (h : IB m) (f : ∀ c j : Int, (c = 69 ∧ j = 2) ∨ c = 70 ∨ c = 115 → m' c j = m c j) : IB m' := fun b b0 b1 => by
  rw [f 69 2 (by omega)] at b1
  rw [f 115 b (by omega), f 70 b (by omega)]
  exact h b b0 b1
theorem IA.fr {m m' : Mem} (h : IA m) (f : ∀ c j : Int, (c = 69 ∧ j = 3) ∨ c = 71 ∨ c = 116 ∨ (c = 84 ∧ j = 49) → m' c j = m c j) : IA m' := by
  obtain ⟨h1, h2, h3, h4⟩ := h
  unfold IA
  rw [f 84 49 (by omega), f 69 3 (by omega)]
  refine ⟨h1, h2, h3, fun i i0 i1 => ?_⟩
  rw [f 116 i (by omega), f 71 i (by omega)]
  exact h4 i i0 i1
theorem IT.fr {m m' : Mem} (h : IT m) (f : ∀ c j : Int, (c = 18 ∧ j = 4) ∨ c = 19 ∨ (c = 84 ∧ j = 16) ∨ c = 96 → m' c j = m c j) : IT m' := by
  obtain ⟨n, b, ⟨t1, t2, t3⟩, ⟨y1, y2, y3⟩⟩ := h
  refine ⟨n, b, ⟨by rw [f 18 4 (by omega)]; exact t1, t2, fun i hi => ?_⟩, ⟨by rw [f 84 16 (by omega)]; exact y1, y2, fun i hi => ?_⟩⟩
  · rw [f 19 _ (by omega)]; exact t3 i hi
  · rw [f 96 _ (by omega)]; exact y3 i hi
def Inv (k : Int) (sw : Bool) (m : Mem) : Prop := (IK m ∧ IS m ∧ IB m ∧ IA m ∧ IG m ∧ IT m ∧ ID m ∧ IP m) ∧ (m 84 33 = -1 ∧ 0 ≤ m 2 4 ∧ m 2 4 ≤ 30 * k ∧ 0 ≤ m 2 5 ∧ m 2 5 ≤ 30 * k) ∧ ∃ w, IW w sw m ∧ IH w m
section NV
variable {k : Int} {sw : Bool} {m m' : Mem}
theorem Inv.le {k' : Int} (h : Inv k sw m) (q : k ≤ k') : Inv k' sw m := ⟨h.1, ⟨h.2.1.1, h.2.1.2.1, by have := h.2.1.2.2.1; omega, h.2.1.2.2.2.1, by have := h.2.1.2.2.2.2; omega⟩, h.2.2⟩
theorem Inv.s1 (h : Inv k sw m) : Inv (k + 1) sw m := h.le (by omega)
theorem IK.n9 (h : IK m) : (m 2 3).toNat ≤ 9 := by have := h.1; have := h.2.1; omega
theorem Inv.st {sw' : Bool} (h : Inv k sw m) (hK : KW 30 m m') (h1 : IK m' ∧ IS m' ∧ IB m' ∧ IA m' ∧ IG m' ∧ IT m' ∧ ID m' ∧ IP m') (h33 : m' 84 33 = -1) (hw : ∃ w, IW w sw' m' ∧ IH w m') : Inv (k + 1) sw' m' := by
  obtain ⟨-, ⟨-, b1, b2, b3, b4⟩, -⟩ := h
  obtain ⟨k1, k2, k3, k4, -⟩ := hK
  exact ⟨h1, ⟨h33, by omega, by omega, by omega, by omega⟩, hw⟩
/-- a deed on the shelves -/
theorem Inv.shelf (hk : k < 512) (h : Inv k sw m) (i : IS m') (f : FrS m m') : Inv (k + 1) sw m' := by
  have h' := h
  obtain ⟨⟨hK, hS, hB, hA, hG, hT, hD, hP⟩, ⟨h33, b1, b2, b3, b4⟩, w, hW, hH⟩ := h
  have g : ∀ c j : Int, ¬ ((73 ≤ c ∧ c ≤ 83) ∨ (117 ≤ c ∧ c ≤ 120)) → m' c j = m c j := fun c j q => by rw [f c (by omega) (by omega)]
  have kw : KW 30 m m' := KW.sm (by decide) (fun c j q => g c j (by omega))
  have e24 := g 2 4 (by omega)
  have e25 := g 2 5 (by omega)
  have e23 := g 2 3 (by omega)
  exact h'.st kw ⟨hK.fr (fun c j q => g c j (by unfold DK at q; omega)), i, hB.fr (fun c j q => g c j (by omega)), hA.fr (fun c j q => g c j (by omega)), hG.fr (by omega) (fun c j q => g c j (by unfold DG at q; omega)), hT.fr (fun c j q => g c j (by omega)), hD.fr (by omega) (fun c j q => g c j (by unfold DD at q; omega)), hP.kw kw (fun c j q => g c j (by omega)) hK.n9 (by omega)⟩ (by rw [g 84 33 (by omega)]; exact h33) ⟨w, hW.fr (fun c j q => g c j (by omega)), hH.kw kw (fun c j q => g c j (by omega)) (fun q => q.fr (fun c j q => g c j (by omega)) hK.n9) (by omega)⟩
/-- a body or an act -/
theorem Inv.deed (hk : k < 512) (h : Inv k sw m) (iS : IS m') (iB : IB m') (iA : IA m') (f : FrA m m') : Inv (k + 1) sw m' := by
  have h' := h
  obtain ⟨⟨hK, hS, hB, hA, hG, hT, hD, hP⟩, ⟨h33, b1, b2, b3, b4⟩, w, hW, hH⟩ := h
  have g : ∀ c j : Int, ¬ ((69 ≤ c ∧ c ≤ 71) ∨ (115 ≤ c ∧ c ≤ 116) ∨ (c = 84 ∧ (j = 47 ∨ j = 49))) → m' c j = m c j := fun c j q => by
    by_cases c84 : c = 84
    · subst c84; exact f.2 j (by omega) (by omega)
    · rw [f.1 c (by omega) (by omega) c84]
  have kw : KW 30 m m' := KW.sm (by decide) (fun c j q => g c j (by omega))
  have e24 := g 2 4 (by omega)
  have e25 := g 2 5 (by omega)
  have e23 := g 2 3 (by omega)
  exact h'.st kw ⟨hK.fr (fun c j q => g c j (by unfold DK at q; omega)), iS, iB, iA, hG.fr (by omega) (fun c j q => g c j (by unfold DG at q; omega)), hT.fr (fun c j q => g c j (by omega)), hD.fr (by omega) (fun c j q => g c j (by unfold DD at q; omega)), hP.kw kw (fun c j q => g c j (by omega)) hK.n9 (by omega)⟩ (by rw [g 84 33 (by omega)]; exact h33) ⟨w, hW.fr (fun c j q => g c j (by omega)), hH.kw kw (fun c j q => g c j (by omega)) (fun q => q.fr (fun c j q => g c j (by omega)) hK.n9) (by omega)⟩
theorem Inv.body (hk : k < 512) (h : Inv k sw m) (iS : IS m') (iB : IB m') (e : m' 69 3 = m 69 3 ∧ m' 71 = m 71 ∧ m' 116 = m 116 ∧ m' 84 49 = m 84 49) (f : FrA m m') : Inv (k + 1) sw m' := h.deed hk iS iB (h.1.2.2.2.1.fr (fun c j q => by
  rcases q with ⟨rfl, rfl⟩ | rfl | rfl | ⟨rfl, rfl⟩
  · exact e.1
  · rw [e.2.1]
  · rw [e.2.2.1]
  · exact e.2.2.2)) f
theorem Inv.act (hk : k < 512) (h : Inv k sw m) (iA : IA m') (f : FrA m m') (e : m' 69 2 = m 69 2 ∧ m' 84 47 = m 84 47 ∧ m' 70 = m 70 ∧ m' 115 = m 115) : Inv (k + 1) sw m' := by
  refine h.deed hk (h.1.2.1.fr (fun c j q => ?_)) (h.1.2.2.1.fr (fun c j q => ?_)) iA f
  · unfold DS at q
    rcases q with ⟨rfl, rfl⟩ | ⟨rfl, rfl⟩ | q | q
    · exact e.1
    · exact e.2.1
    · rw [f.1 c (by omega) (by omega) (by omega)]
    · rw [f.1 c (by omega) (by omega) (by omega)]
  · rcases q with ⟨rfl, rfl⟩ | rfl | rfl
    · exact e.1
    · rw [e.2.2.1]
    · rw [e.2.2.2]
/-- a writing of the kitchen's -/
theorem Inv.kit {b : Int} (hk : k < 512) (h : Inv k sw m) (iK : IK m') (iG : IG m') (kw0 : KW b m m') (hb : b ≤ 30) (f : FrG m m') : Inv (k + 1) sw m' := by
  have h' := h
  obtain ⟨⟨hK, hS, hB, hA, hG, hT, hD, hP⟩, ⟨h33, b1, b2, b3, b4⟩, w, hW, hH⟩ := h
  have g : ∀ c j : Int, ¬ ((c = 2 ∧ 3 ≤ j ∧ j ≤ 5) ∨ (4 ≤ c ∧ c ≤ 16) ∨ (64 ≤ c ∧ c ≤ 68) ∨ (85 ≤ c ∧ c ≤ 95) ∨ (c = 84 ∧ (j = 1 ∨ j = 9 ∨ j = 10))) → m' c j = m c j := f
  have kw : KW 30 m m' := kw0.le hb
  have k1 := kw.2.1
  have k2 := kw.2.2.2.1
  exact h'.st kw ⟨iK, hS.fr (fun c j q => g c j (by unfold DS at q; omega)), hB.fr (fun c j q => g c j (by omega)), hA.fr (fun c j q => g c j (by omega)), iG, hT.fr (fun c j q => g c j (by omega)), hD.fr kw.2.2.2.2.1 (fun c j q => g c j (by unfold DD at q; omega)), hP.kw kw (fun c j q => g c j (by omega)) hK.n9 (by omega)⟩ (by rw [g 84 33 (by omega)]; exact h33) ⟨w, hW.fr (fun c j q => g c j (by omega)), hH.kw kw (fun c j q => g c j (by omega)) (fun q => q.fr (fun c j q => g c j (by omega)) hK.n9) (by omega)⟩
theorem Inv.kit' {b : Int} (hk : k < 512) (h : Inv k sw m) (iK : IK m') (kw0 : KW b m m') (hb : b ≤ 30) (f : FrG m m') (g : ∀ c j, DG c j → m' c j = m c j) : Inv (k + 1) sw m' := h.kit hk iK (h.1.2.2.2.2.1.fr kw0.2.2.2.2.1 g) kw0 hb f
/-- the tape -/
theorem Inv.feed (hk : k < 512) (h : Inv k sw m) (iT : IT m') (f : FrF m m') : Inv (k + 1) sw m' := by
  have h' := h
  obtain ⟨⟨hK, hS, hB, hA, hG, hT, hD, hP⟩, ⟨h33, b1, b2, b3, b4⟩, w, hW, hH⟩ := h
  have g : ∀ c j : Int, ¬ ((c = 18 ∧ j = 4) ∨ c = 19 ∨ (c = 84 ∧ j = 16) ∨ c = 96) → m' c j = m c j := fun c j q => f c j (by omega) (by omega) (by omega) (by omega)
  have kw : KW 30 m m' := KW.sm (by decide) (fun c j q => g c j (by omega))
  have e24 := g 2 4 (by omega)
  have e25 := g 2 5 (by omega)
  have e23 := g 2 3 (by omega)
  exact h'.st kw ⟨hK.fr (fun c j q => g c j (by unfold DK at q; omega)), hS.fr (fun c j q => g c j (by unfold DS at q; omega)), hB.fr (fun c j q => g c j (by omega)), hA.fr (fun c j q => g c j (by omega)), hG.fr (by omega) (fun c j q => g c j (by unfold DG at q; omega)), iT, hD.fr (by omega) (fun c j q => g c j (by unfold DD at q; omega)), hP.kw kw (fun c j q => g c j (by omega)) hK.n9 (by omega)⟩ (by rw [g 84 33 (by omega)]; exact h33) ⟨w, hW.fr (fun c j q => g c j (by omega)), hH.kw kw (fun c j q => g c j (by omega)) (fun q => q.fr (fun c j q => g c j (by omega)) hK.n9) (by omega)⟩
/-- the law -/
theorem Inv.law {sw' : Bool} {w w' : Option (List Ln)} (hk : k < 512) (h : Inv k sw m) (hH : IH w m) (iT : IT m') (iW : IW w' sw' m') (f : FrW m m') (hc : (w' = w ∧ m' 2 4 = m 2 4) ∨ m' 2 4 = m 2 4 + 1) : Inv (k + 1) sw' m' := by
  have h' := h
  obtain ⟨⟨hK, hS, hB, hA, hG, hT, hD, hP⟩, ⟨h33, b1, b2, b3, b4⟩, -⟩ := h
  have g : ∀ c j : Int, ¬ ((c = 18 ∧ 4 ≤ j ∧ j ≤ 8) ∨ (21 ≤ c ∧ c ≤ 22) ∨ (c = 2 ∧ j = 4) ∨ (c = 84 ∧ ((16 ≤ j ∧ j ≤ 20) ∨ j = 28)) ∨ (97 ≤ c ∧ c ≤ 101)) → m' c j = m c j := fun c j q => f c j (by omega) (by omega) (by omega) (by omega) (by omega)
  have e25 := g 2 5 (by omega)
  have e23 := g 2 3 (by omega)
  have kw : KW 30 m m' := by
    rcases hc with ⟨-, e⟩ | e
    · exact KW.age (q := 0) (by omega) (by omega) e25 e23 (fun c j q1 q2 q3 => g c j (by omega)) (fun _ j => g 9 j (by omega))
    · exact KW.age (q := 1) (by omega) e e25 e23 (fun c j q1 q2 q3 => g c j (by omega)) (fun _ j => g 9 j (by omega))
  have k1 := kw.2.1
  refine h'.st kw ⟨hK.fr (fun c j q => g c j (by unfold DK at q; omega)), hS.fr (fun c j q => g c j (by unfold DS at q; omega)), hB.fr (fun c j q => g c j (by omega)), hA.fr (fun c j q => g c j (by omega)), hG.fr (by omega) (fun c j q => g c j (by unfold DG at q; omega)), iT, hD.fr (by omega) (fun c j q => g c j (by unfold DD at q; omega)), hP.kw kw (fun c j q => g c j (by omega)) hK.n9 (by omega)⟩ (by rw [g 84 33 (by omega)]; exact h33) ⟨w', iW, ?_⟩
  rcases hc with ⟨rfl, e⟩ | e
  · exact hH.kw kw (fun c j q => g c j (by omega)) (fun q => q.fr (fun c j q => g c j (by omega)) hK.n9) (by omega)
  · obtain ⟨p1, p2_, p3, -⟩ := hH
    have e8 := g 37 8 (by omega)
    exact ⟨by omega, by omega, by omega, fun q => by omega⟩
/-- what the model and the law give back -/
theorem Inv.works (hk : k < 512) (h : Inv k sw m) (f : FrV m m') : Inv (k + 1) sw m' := by
  have h' := h
  obtain ⟨⟨hK, hS, hB, hA, hG, hT, hD, hP⟩, ⟨h33, b1, b2, b3, b4⟩, w, hW, hH⟩ := h
  have g : ∀ c j : Int, ¬ (c = 17 ∨ c = 20 ∨ c = 102 ∨ c = 103) → m' c j = m c j := fun c j q => by rw [f c (by omega) (by omega) (by omega) (by omega)]
  have kw : KW 30 m m' := KW.sm (by decide) (fun c j q => g c j (by omega))
  have e24 := g 2 4 (by omega)
  have e25 := g 2 5 (by omega)
  have e23 := g 2 3 (by omega)
  exact h'.st kw ⟨hK.fr (fun c j q => g c j (by unfold DK at q; omega)), hS.fr (fun c j q => g c j (by unfold DS at q; omega)), hB.fr (fun c j q => g c j (by omega)), hA.fr (fun c j q => g c j (by omega)), hG.fr (by omega) (fun c j q => g c j (by unfold DG at q; omega)), hT.fr (fun c j q => g c j (by omega)), hD.fr (by omega) (fun c j q => g c j (by unfold DD at q; omega)), hP.kw kw (fun c j q => g c j (by omega)) hK.n9 (by omega)⟩ (by rw [g 84 33 (by omega)]; exact h33) ⟨w, hW.fr (fun c j q => g c j (by omega)), hH.kw kw (fun c j q => g c j (by omega)) (fun q => q.fr (fun c j q => g c j (by omega)) hK.n9) (by omega)⟩
/-- the paths -/
theorem Inv.path (hk : k < 512) (h : Inv k sw m) (iP : IP m') (hO : PO (shp m) (m 2 3).toNat m → PO (shp m) (m 2 3).toNat m') (f : FrPM m m') : Inv (k + 1) sw m' := by
  have h' := h
  obtain ⟨⟨hK, hS, hB, hA, hG, hT, hD, hP⟩, ⟨h33, b1, b2, b3, b4⟩, w, hW, hH⟩ := h
  have g : ∀ c j : Int, ¬ ((c = 23 ∧ (j = 5 ∨ j = 6)) ∨ (25 ≤ c ∧ c ≤ 36) ∨ (c = 84 ∧ (j = 30 ∨ j = 31)) ∨ c = 104) → m' c j = m c j := fun c j q => f c j (by omega) (by omega) (by omega) (by omega)
  have kw : KW 30 m m' := KW.sm (by decide) (fun c j q => g c j (by omega))
  have e24 := g 2 4 (by omega)
  have e25 := g 2 5 (by omega)
  have e23 := g 2 3 (by omega)
  exact h'.st kw ⟨hK.fr (fun c j q => g c j (by unfold DK at q; omega)), hS.fr (fun c j q => g c j (by unfold DS at q; omega)), hB.fr (fun c j q => g c j (by omega)), hA.fr (fun c j q => g c j (by omega)), hG.fr (by omega) (fun c j q => g c j (by unfold DG at q; omega)), hT.fr (fun c j q => g c j (by omega)), hD.fr (by omega) (fun c j q => g c j (by unfold DD at q; omega)), iP⟩ (by rw [g 84 33 (by omega)]; exact h33) ⟨w, hW.fr (fun c j q => g c j (by omega)), hH.kw kw (fun c j q => g c j (by omega)) hO (by omega)⟩
/-- a question -/
theorem Inv.ask {w : Option (List Ln)} (hk : k < 512) (h : Inv k sw m) (hW : IW w sw m) (hF : Fin w m m') : Inv (k + 1) sw m' := by
  have h' := h
  obtain ⟨⟨hK, hS, hB, hA, hG, hT, hD, hP⟩, ⟨h33, b1, b2, b3, b4⟩, -⟩ := h
  obtain ⟨iP, iH, i33, g⟩ := hF
  have kw : KW 30 m m' := KW.sm (by decide) (fun c j q => g c j (by unfold HK; omega))
  have e23 := g 2 3 (by unfold HK; omega)
  exact h'.st kw ⟨g.ik hK, g.is hS, hB.fr (fun c j q => g c j (by unfold HK; omega)), hA.fr (fun c j q => g c j (by unfold HK; omega)), hG.fr (by omega) (fun c j q => g c j (by unfold DG at q; unfold HK; omega)), hT.fr (fun c j q => g c j (by unfold HK; omega)), hD.fr (by omega) (fun c j q => g c j (by unfold DD at q; unfold HK; omega)), iP⟩ i33 ⟨w, g.iw hW, iH⟩
theorem Inv.pre (h : Inv k sw m) : ∃ w n, Pre w sw n m := by
  obtain ⟨⟨hK, hS, hB, hA, hG, hT, hD, hP⟩, ⟨h33, b1, b2, b3, b4⟩, w, hW, hH⟩ := h
  have h0 := hK.1
  exact ⟨w, (m 2 3).toNat, hK, by omega, hP, hW, hH, h33⟩
/-- a day's doings -/
theorem Inv.day (hk : k < 512) (h : Inv k sw m) (iK : IK m') (iP : IP m') (iD : ID m') (kw0 : KW 9 m m') (hO : PO (shp m) (m 2 3).toNat m → PO (shp m) (m 2 3).toNat m') (f : FrD m m') : Inv (k + 1) sw m' := by
  have h' := h
  obtain ⟨⟨hK, hS, hB, hA, hG, hT, hD, hP⟩, ⟨h33, b1, b2, b3, b4⟩, w, hW, hH⟩ := h
  have g : ∀ c j : Int, ¬ ((c = 2 ∧ j = 4) ∨ c = 9 ∨ (c = 23 ∧ (j = 5 ∨ j = 6)) ∨ (25 ≤ c ∧ c ≤ 36) ∨ (60 ≤ c ∧ c ≤ 63) ∨ (c = 84 ∧ (j = 30 ∨ j = 31 ∨ j = 43 ∨ j = 44)) ∨ c = 90 ∨ c = 104 ∨ (112 ≤ c ∧ c ≤ 114)) → m' c j = m c j := fun c j q => f c j (by omega) (by omega) (by omega) (by omega) (by omega) (by omega) (by omega) (by omega) (by omega)
  have kw : KW 30 m m' := kw0.le (by decide)
  have k1 := kw.2.1
  exact h'.st kw ⟨iK, hS.fr (fun c j q => g c j (by unfold DS at q; omega)), hB.fr (fun c j q => g c j (by omega)), hA.fr (fun c j q => g c j (by omega)), hG.fr kw.2.2.2.2.1 (fun c j q => g c j (by unfold DG at q; omega)), hT.fr (fun c j q => g c j (by omega)), iD, iP⟩ (by rw [g 84 33 (by omega)]; exact h33) ⟨w, hW.fr (fun c j q => g c j (by omega)), hH.kw kw (fun c j q => g c j (by omega)) hO (by omega)⟩
theorem Inv.day' (hk : k < 512) (h : Inv k sw m) (iK : IK m') (iD : ID m') (kw0 : KW 9 m m') (f : FrD m m') (g : ∀ c j : Int, (c = 23 ∧ (j = 5 ∨ j = 6)) ∨ (25 ≤ c ∧ c ≤ 36) → m' c j = m c j) : Inv (k + 1) sw m' := by
  have hK := h.1.1
  have hP := h.1.2.2.2.2.2.2.2
  have b4 := h.2.1.2.2.2.2
  have k2 := kw0.2.2.2.1
  exact h.day hk iK (hP.kw kw0 g hK.n9 (by omega)) iD kw0 (fun q => q.fr (fun c j q => g c j (by omega)) hK.n9) f
theorem Inv.image (hk : k < 512) (h : Inv k sw m) (iD : ID m') (f : ∀ c j : Int, ¬ (60 ≤ c ∧ c ≤ 63) → ¬ (c = 84 ∧ (j = 43 ∨ j = 44)) → ¬ (112 ≤ c ∧ c ≤ 114) → m' c j = m c j) : Inv (k + 1) sw m' := by
  have hK := h.1.1
  exact h.day' hk (hK.fr (fun c j q => f c j (by unfold DK at q; omega) (by unfold DK at q; omega) (by unfold DK at q; omega))) iD (KW.sm (by decide) (fun c j q => f c j (by omega) (by omega) (by omega))) (fun c j _ _ _ _ q1 q2 _ _ q3 => f c j q1 (by omega) q3) (fun c j q => f c j (by omega) (by omega) (by omega))
end NV
theorem inv0 : Inv 0 false mem0 := by
  have z : ∀ c j : Int, ¬ ((12 ≤ c ∧ c ≤ 14) ∨ c = 23 ∨ c = 37 ∨ c = 47 ∨ c = 91 ∨ (c = 84 ∧ j = 33) ∨ c = 117) → mem0 c j = 0 := fun c j q => by
    unfold mem0
    simp (disch := omega) only [upm_ne]
  have s6 : ∀ s : Int, 0 ≤ s → s < 6 → s = 0 ∨ s = 1 ∨ s = 2 ∨ s = 3 ∨ s = 4 ∨ s = 5 := fun s _ _ => by omega
  refine ⟨⟨⟨?_, ?_, ?_, fun w a q => ?_, fun w a q r s => ?_⟩, ⟨?_, ?_, ?_, fun s s0 s1 => ⟨Or.inl ⟨?_, ?_⟩, fun i i0 i1 => ?_⟩⟩, fun b b0 b1 => ?_, ⟨?_, ?_, ?_, fun i i0 i1 => ?_⟩, ⟨?_, ?_, ?_, ?_, ?_, fun i i0 i1 => ?_⟩, ⟨0, fun _ => 0, ⟨?_, by decide, fun i hi => absurd hi (Nat.not_lt_zero _)⟩, ⟨?_, by decide, fun i hi => absurd hi (Nat.not_lt_zero _)⟩⟩, ⟨fun j j0 j1 => ?_, Or.inl ?_, ?_, fun e => ?_⟩, ⟨?_, ?_, ?_, fun e => ?_⟩⟩, ⟨?_, ?_, ?_, ?_, ?_⟩, none, ⟨?_, ?_⟩, ⟨?_, ?_, ?_, fun e => ?_⟩⟩
  · decide
  · decide
  · decide
  · have e : mem0 2 3 = 0 := by decide
    rw [e] at q
    have q' : (w = 6 ∨ w = 7 ∨ w = 8 ∨ w = 9 ∨ w = 10 ∨ w = 11 ∨ w = 12) ∧ a = 0 := by unfold vp at q; omega
    obtain ⟨q1, rfl⟩ := q'
    rcases q1 with rfl | rfl | rfl | rfl | rfl | rfl | rfl <;> exact ⟨by decide, by decide, by decide, fun q => absurd q (by decide)⟩
  · exact z _ _ (by omega)
  · decide
  · decide
  · decide
  · exact z _ _ (by omega)
  · rcases s6 s s0 s1 with rfl | rfl | rfl | rfl | rfl | rfl <;> decide
  · rw [z 119 _ (by omega), z (78 + s) _ (by omega)]
  · rw [show mem0 69 2 = 0 by decide] at b1; omega
  · decide
  · decide
  · decide
  · rw [z 116 _ (by omega), z 71 _ (by omega)]
  · decide
  · decide
  · decide
  · decide
  · decide
  · rw [show mem0 64 6 = 0 by decide] at i1; omega
  · decide
  · decide
  · rw [z 112 _ (by omega), z 61 _ (by omega)]
  · decide
  · decide
  · rw [show mem0 60 6 = 0 by decide] at e; exact absurd e (by decide)
  · decide
  · decide
  · decide
  · rw [show mem0 23 6 = -1 by decide, show mem0 2 5 = 0 by decide] at e; exact absurd e (by decide)
  · decide
  · decide
  · decide
  · decide
  · decide
  · decide
  · decide
  · decide
  · decide
  · decide
  · rw [show mem0 37 8 = -1 by decide, show mem0 2 4 = 0 by decide] at e; exact absurd e (by decide)
