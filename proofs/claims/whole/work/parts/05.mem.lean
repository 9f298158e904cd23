/-! memory: fields, arrays, outer arrays; entry, ends -/
def isA (n : Nat) (k : Int) (ty : FieldType) (len : Nat) : Prop := 1 ≤ k ∧ k < 1000 ∧ k.toNat ≤ n ∧ tbl[k.toNat]? = some (.inl (ty, len))
def isO (n : Nat) (k : Int) (ci : Nat) : Prop := 1 ≤ k ∧ k < 1000 ∧ k.toNat ≤ n ∧ tbl[k.toNat]? = some (.inr ci)
theorem clsW : ∀ (ci : Nat) (c : vw_C), clsT[ci]? = some c → (∀ w ∈ u_ws c.1 c.2.1 c.2.2, w ∈ Tg) ∧ (∀ a, a < c.2.2 → ∀ b, b < c.2.2 → a ≠ b → (c.2.1 a).2.1 ≠ (c.2.1 b).2.1) ∧ (∀ k, k < c.2.2 → parseFieldDescriptor (c.2.1 k).2.2.1 = some (tyC ci k)) := by
  intro ci c h
  match ci, h with
  | 0, h => cases h; exact ⟨kWZ, kNZ, kOZ⟩
  | 1, h => cases h; exact ⟨kWK, kNK, kOK⟩
  | 2, h => cases h; exact ⟨kWL, kNL, kOL⟩
  | 3, h => cases h; exact ⟨kWP, kNP, kOP⟩
  | 4, h => cases h; exact ⟨kWT, kNT, kOT⟩
  | 5, h => cases h; exact ⟨kWC, kNC, kOC⟩
  | 6, h => cases h; exact ⟨kWI, kNI, kOI⟩
  | 7, h => cases h; exact ⟨kWN, kNN, kON⟩
  | 8, h => cases h; exact ⟨kWD, kND, kOD⟩
  | 9, h => cases h; exact ⟨kWG, kNG, kOG⟩
  | 10, h => cases h; exact ⟨kWA, kNA, kOA⟩
  | 11, h => cases h; exact ⟨kWS, kNS, kOS⟩
  | 12, h => cases h; exact ⟨kWY, kNY, kOY⟩
  | n + 13, h => simp [clsT] at h
def FG (own : String) (ix ci j : Nat) : Prop := ∃ c : vw_C, clsT[ci]? = some c ∧ j < c.2.2 ∧ (c.2.1 j).1 = c.1 ∧ (Cond.fieldLink own ix c.1 (c.2.1 j).2.1 (c.2.1 j).2.2.1 ∈ Tg ∨ ∃ host, Cond.fieldLinkNest own ix c.1 (c.2.1 j).2.1 (c.2.1 j).2.2.1 host ∈ nst)
theorem kz_ix (i : Int) : (Int32.ofInt i).toNatClampNeg = (w32 i).toNat := by
  show (Int32.ofInt i).toInt.toNat = _
  rw [i32_w]
theorem kz_rd {X : Cx} {n : Nat} {r m : Mem} {H : Heap} {k i : Int} {ty : FieldType} {len : Nat} (h : Wd X n r m H) (hk : isA n k ty len) (hi : 0 ≤ w32 i ∧ w32 i < (len : Int)) : ∃ f, f = (fun j : Nat => fldv X ty (r k (j : Int)) (m k (j : Int))) ∧ H[adr X k]? = some (arrV (xA X ty) len f) ∧ (¬ (Int32.ofInt i < 0 ∨ (arrV (xA X ty) len f).slots.size ≤ (Int32.ofInt i).toNatClampNeg)) ∧ (arrV (xA X ty) len f).slots[(Int32.ofInt i).toNatClampNeg]? = some (fldv X ty (r k (w32 i)) (m k (w32 i))) := by
  have hc := h.2 k.toNat _ (by have := hk.1; omega) hk.2.2.1 hk.2.2.2
  have ek : ((k.toNat : Nat) : Int) = k := Int.toNat_of_nonneg (by have := hk.1; omega)
  simp only [cellAt, ek] at hc
  refine ⟨_, rfl, ?_, ?_, ?_⟩
  · rw [show adr X k = xB X + k.toNat from if_pos hk.2.1]; exact hc
  · rw [arrV_size, kz_ix, kz_lt0]; omega
  · rw [kz_ix, arrV_read _ _ (by omega), Int.toNat_of_nonneg hi.1]
theorem cellAt.eq {X : Cx} {q : Kd} {k : Nat} {r m r' m' : Mem} {H H' : Heap} (h : cellAt X q k r m H) (he : ∀ b : Int, r' (k : Int) b = r (k : Int) b ∧ m' (k : Int) b = m (k : Int) b) (hH : H'[xB X + k]? = H[xB X + k]?) : cellAt X q k r' m' H' := by
  have e1 : r' (k : Int) = r (k : Int) := funext fun b => (he b).1
  have e2 : m' (k : Int) = m (k : Int) := funext fun b => (he b).2
  cases q with
  | inl a =>
    obtain ⟨ty, n⟩ := a
    simp only [cellAt, e1, e2] at h ⊢
    rw [hH]; exact h
  | inr ci =>
    simp only [cellAt, e1, e2] at h ⊢
    obtain ⟨c, h1, h2⟩ := h
    exact ⟨c, h1, h2.kept hH⟩
theorem Wd.setA {X : Cx} {n : Nat} {r m r' m' : Mem} {H H' : Heap} {k i : Int} {ty : FieldType} {len : Nat} {f : Nat → Value} {v : Value} (h : Wd X n r m H) (hk : isA n k ty len) (hi : 0 ≤ w32 i ∧ w32 i < (len : Int)) (hf : f = (fun j : Nat => fldv X ty (r k (j : Int)) (m k (j : Int)))) (hv : v = fldv X ty (r' k (w32 i)) (m' k (w32 i))) (he : ∀ a b, ¬ (a = k ∧ b = w32 i) → r' a b = r a b ∧ m' a b = m a b)
    (e : H'[adr X k]? = some ((arrV (xA X ty) len f).setSlot (Int32.ofInt i).toNatClampNeg v)) (z : H'.size = H.size) (o : ∀ q, q ≠ adr X k → H'[q]? = H[q]?) : Wd X n r' m' H' := by
  have ek : ((k.toNat : Nat) : Int) = k := Int.toNat_of_nonneg (by have := hk.1; omega)
  have ha : adr X k = xB X + k.toNat := if_pos hk.2.1
  refine ⟨by rw [z]; exact h.1, fun k2 q h1 h2 hq => ?_⟩
  by_cases hkk : k2 = k.toNat
  · subst hkk
    rw [hk.2.2.2] at hq
    cases hq
    simp only [cellAt, ek]
    rw [← ha, e, arrV_store, hf]
    congr 2
    funext j
    unfold updV
    rw [kz_ix]
    by_cases hj : j = (w32 i).toNat
    · rw [if_pos hj, hv]
      have : (j : Int) = w32 i := by rw [hj]; exact Int.toNat_of_nonneg hi.1
      rw [this]
    · rw [if_neg hj]
      have := he k j (fun q => hj (by omega))
      rw [this.1, this.2]
  · refine (h.2 k2 q h1 h2 hq).eq (fun b => he _ _ (fun q => hkk (by omega))) (o _ (fun q => hkk (by omega)))
theorem Wd.setO {X : Cx} {n : Nat} {r m r' m' : Mem} {H H' : Heap} {k : Int} {ci j : Nat} {c : vw_C} {v : Value} {cell : Cell} (h : Wd X n r m H) (hk : isO n k ci) (hc : clsT[ci]? = some c) (hj : j < c.2.2) (hap : ∀ x y, x < c.2.2 → y < c.2.2 → x ≠ y → xI X ci x ≠ xI X ci y)
    (q1 : H[adr X k]? = some cell) (hv : v = fldv X (tyC ci j) (r' k (j : Int)) (m' k (j : Int))) (he : ∀ a b, ¬ (a = k ∧ b = (j : Int)) → r' a b = r a b ∧ m' a b = m a b)
    (e : H'[adr X k]? = some (cell.setSlot (xI X ci j) v)) (z : H'.size = H.size) (o : ∀ q, q ≠ adr X k → H'[q]? = H[q]?) : Wd X n r' m' H' := by
  have ek : ((k.toNat : Nat) : Int) = k := Int.toNat_of_nonneg (by have := hk.1; omega)
  have ha : adr X k = xB X + k.toNat := if_pos hk.2.1
  refine ⟨by rw [z]; exact h.1, fun k2 q h1 h2 hq => ?_⟩
  by_cases hkk : k2 = k.toNat
  · subst hkk
    have h0 := h.2 _ _ h1 h2 hk.2.2.2
    rw [hk.2.2.2] at hq
    cases hq
    simp only [cellAt, ek] at h0 ⊢
    obtain ⟨c', hc', cell', g1, g2, g3, g4⟩ := h0
    rw [hc] at hc'
    cases hc'
    rw [← ha] at g1 ⊢
    cases q1.symm.trans g1
    refine ⟨c, hc, ?_⟩
    refine t_OB.to (V := updV (fun j : Nat => fldv X (tyC ci j) (r k (j : Int)) (m k (j : Int))) j v) ⟨_, e, g2, g3, t_set g4 hap hj v⟩ (fun j2 _ => ?_)
    unfold updV
    by_cases hj2 : j2 = j
    · rw [if_pos hj2, hv, hj2]
    · rw [if_neg hj2]
      have := he k j2 (fun q => hj2 (by omega))
      rw [this.1, this.2]
  · refine (h.2 k2 q h1 h2 hq).eq (fun b => he _ _ (fun q => hkk (by omega))) (o _ (fun q => hkk (by omega)))
theorem adr_pos {X : Cx} {k : Int} (h1 : 1 ≤ k) (h2 : k < 1000) : xB X < adr X k := by
  rw [show adr X k = xB X + k.toNat from if_pos h2]; omega
theorem upm_ne {m : Mem} {k i v a b : Int} (h : ¬ (a = k ∧ b = i)) : upm m k i v a b = m a b := if_neg h
theorem upm_eq {m : Mem} {k i v : Int} : upm m k i v k i = v := if_pos ⟨rfl, rfl⟩
section RW1
variable {X : Cx} {d n0 n' n : Nat} {M : Md} {pc : Nat} {lv : List (Nat × AV)} {st : List AV} {r m : Mem} {Q : Int → Mem → Mem → Prop}
theorem r_iaload {k i : Int} {len : Nat} (hk : isA n k .int len) (hi : 0 ≤ w32 i ∧ w32 i < (len : Int)) (hdg : decode M.2.1 pc = .ok (.iaload, 1)) (kk : RR X d M n0 n' n (pc + 1) lv (vi (m k (w32 i)) :: st) r m Q) : RR X d M n0 n' n pc lv (vi i :: vr k :: st) r m Q := by
  intro p R e s mm args below meth c H locs ls F G K E
  obtain ⟨f, -, h1, h2, h3⟩ := kz_rd K.1 hk hi
  exact W.iald F.x F.b h1 ((F.cx.1.2 .int (by decide)).1 _ _) (fun h => by cases h) h2 h3 rfl rfl hdg (kk F G K E)
theorem r_laload {k i : Int} {len : Nat} (hk : isA n k .long len) (hi : 0 ≤ w32 i ∧ w32 i < (len : Int)) (hdg : decode M.2.1 pc = .ok (.laload, 1)) (kk : RR X d M n0 n' n (pc + 1) lv (vl (m k (w32 i)) :: st) r m Q) : RR X d M n0 n' n pc lv (vi i :: vr k :: st) r m Q := by
  intro p R e s mm args below meth c H locs ls F G K E
  obtain ⟨f, -, h1, h2, h3⟩ := kz_rd K.1 hk hi
  exact W.lald F.x F.b h1 ((F.cx.1.2 .long (by decide)).1 _ _) (fun h => by cases h) h2 h3 rfl rfl hdg (kk F G K E)
theorem r_baload {k i : Int} {len : Nat} (hk : isA n k .byte len) (hi : 0 ≤ w32 i ∧ w32 i < (len : Int)) (hdg : decode M.2.1 pc = .ok (.baload, 1)) (kk : RR X d M n0 n' n (pc + 1) lv (vi (m k (w32 i)) :: st) r m Q) : RR X d M n0 n' n pc lv (vi i :: vr k :: st) r m Q := by
  intro p R e s mm args below meth c H locs ls F G K E
  obtain ⟨f, -, h1, h2, h3⟩ := kz_rd K.1 hk hi
  exact W.bald F.x F.b h1 ((F.cx.1.2 .byte (by decide)).1 _ _) (fun h => by cases h) h2 h3 rfl rfl hdg (kk F G K E)
theorem r_saload {k i : Int} {len : Nat} (hk : isA n k .short len) (hi : 0 ≤ w32 i ∧ w32 i < (len : Int)) (hdg : decode M.2.1 pc = .ok (.saload, 1)) (kk : RR X d M n0 n' n (pc + 1) lv (vi (m k (w32 i)) :: st) r m Q) : RR X d M n0 n' n pc lv (vi i :: vr k :: st) r m Q := by
  intro p R e s mm args below meth c H locs ls F G K E
  obtain ⟨f, -, h1, h2, h3⟩ := kz_rd K.1 hk hi
  exact W.sald F.x F.b h1 ((F.cx.1.2 .short (by decide)).1 _ _) (fun h => by cases h) h2 h3 rfl rfl hdg (kk F G K E)
theorem r_aaload {k i t : Int} {ty : FieldType} {len : Nat} (hty : FieldType.array ty ∈ atys) (hk : isA n k (.array ty) len) (hi : 0 ≤ w32 i ∧ w32 i < (len : Int)) (ht : r k (w32 i) = t) (ht0 : ¬ t = 0) (hdg : decode M.2.1 pc = .ok (.aaload, 1)) (kk : RR X d M n0 n' n (pc + 1) lv (vr t :: st) r m Q) : RR X d M n0 n' n pc lv (vi i :: vr k :: st) r m Q := by
  intro p R e s mm args below meth c H locs ls F G K E
  obtain ⟨f, -, h1, h2, h3⟩ := kz_rd K.1 hk hi
  refine W.aald (ty := .array ty) F.x F.b h1 ((F.cx.1.2 _ hty).1 _ _) rfl (fun h => by cases h) h2 h3 rfl rfl hdg ?_
  have e1 : fldv X (.array ty) (r k (w32 i)) (m k (w32 i)) = cv X (vr t) := by
    show rfv X (r k (w32 i)) = _
    rw [ht]
    exact if_neg ht0
  rw [e1]
  exact kk F G K E
theorem r_alen {k : Int} {ty : FieldType} {len : Nat} (hty : ty ∈ atys) (hk : isA n k ty len) (hdg : decode M.2.1 pc = .ok (.arraylength, 1)) (kk : RR X d M n0 n' n (pc + 1) lv (vi (len : Int) :: st) r m Q) : RR X d M n0 n' n pc lv (vr k :: st) r m Q := by
  intro p R e s mm args below meth c H locs ls F G K E
  have hc := K.1.2 k.toNat _ (by have := hk.1; omega) hk.2.2.1 hk.2.2.2
  simp only [cellAt] at hc
  rw [← show adr X k = xB X + k.toNat from if_pos hk.2.1] at hc
  exact W.alen (n := Int32.ofInt (len : Int)) F.x F.b hc ((F.cx.1.2 _ hty).1 _ _) (by rw [arrV_size]; rfl) rfl rfl hdg (kk F G K E)
theorem Hx.put {s : State} {H H' : Heap} {locs : List Loc} {ls : Array Slot} {a i : Nat} {r' m' : Mem} (K : Hx X M n r m lv s H locs ls) (hw : Wd X n r' m' H') (ha : xB X < a) (z : H'.size = H.size) (o : ∀ q, q ≠ a → H'[q]? = H[q]?) : Hx X M n r' m' lv s H' (locs ++ [⟨a, i⟩]) ls :=
  ⟨hw, K.2.1.put z o ha, K.2.2⟩
theorem kz_up1 {k i v : Int} : ∀ a b, ¬ (a = k ∧ b = i) → r a b = r a b ∧ upm m k i v a b = m a b := fun a b h => ⟨rfl, upm_ne h⟩
theorem kz_up2 {k i v : Int} : ∀ a b, ¬ (a = k ∧ b = i) → upm r k i v a b = r a b ∧ m a b = m a b := fun a b h => ⟨upm_ne h, rfl⟩
theorem r_iastore {k i z : Int} {len : Nat} (hk : isA n k .int len) (hi : 0 ≤ w32 i ∧ w32 i < (len : Int)) (hdg : decode M.2.1 pc = .ok (.iastore, 1)) (kk : RR X d M n0 n' n (pc + 1) lv st r (upm m k (w32 i) z) Q) : RR X d M n0 n' n pc lv (vi z :: vi i :: vr k :: st) r m Q := by
  intro p R e s mm args below meth c H locs ls F G K E
  obtain ⟨f, hf, h1, h2, h3⟩ := kz_rd K.1 hk hi
  refine W.iast F.x F.b h1 ((F.cx.1.2 .int (by decide)).1 _ _) (fun h => by cases h) h2 rfl rfl hdg fun H' e1 e2 e3 => ?_
  exact kk F G (K.put (K.1.setA hk hi hf (show Value.int (Int32.ofInt z) = _ by rw [upm_eq]; rfl) kz_up1 e1 e2 e3) (adr_pos hk.1 hk.2.1) e2 e3) E
theorem r_lastore {k i z : Int} {len : Nat} (hk : isA n k .long len) (hi : 0 ≤ w32 i ∧ w32 i < (len : Int)) (hdg : decode M.2.1 pc = .ok (.lastore, 1)) (kk : RR X d M n0 n' n (pc + 1) lv st r (upm m k (w32 i) z) Q) : RR X d M n0 n' n pc lv (vl z :: vi i :: vr k :: st) r m Q := by
  intro p R e s mm args below meth c H locs ls F G K E
  obtain ⟨f, hf, h1, h2, h3⟩ := kz_rd K.1 hk hi
  refine W.last F.x F.b h1 ((F.cx.1.2 .long (by decide)).1 _ _) (fun h => by cases h) h2 rfl rfl hdg fun H' e1 e2 e3 => ?_
  exact kk F G (K.put (K.1.setA hk hi hf (show Value.long (Int64.ofInt z) = _ by rw [upm_eq]; rfl) kz_up1 e1 e2 e3) (adr_pos hk.1 hk.2.1) e2 e3) E
theorem r_bastore {k i z : Int} {len : Nat} (hk : isA n k .byte len) (hi : 0 ≤ w32 i ∧ w32 i < (len : Int)) (hdg : decode M.2.1 pc = .ok (.bastore, 1)) (kk : RR X d M n0 n' n (pc + 1) lv st r (upm m k (w32 i) (w8 z)) Q) : RR X d M n0 n' n pc lv (vi z :: vi i :: vr k :: st) r m Q := by
  intro p R e s mm args below meth c H locs ls F G K E
  obtain ⟨f, hf, h1, h2, h3⟩ := kz_rd K.1 hk hi
  refine W.bast F.x F.b h1 ((F.cx.1.2 .byte (by decide)).1 _ _) (fun h => by cases h) h2 rfl rfl hdg fun H' e1 e2 e3 => ?_
  refine kk F G (K.put (K.1.setA hk hi hf ?_ kz_up1 e1 e2 e3) (adr_pos hk.1 hk.2.1) e2 e3) E
  show Value.int (Int32.ofInt z).toInt8.toInt32 = _
  rw [upm_eq]
  show _ = Value.int (Int32.ofInt (w8 z))
  congr 1
  apply Int32.toInt_inj.mp
  rw [i32_w, Int8.toInt_toInt32, Int32.toInt_toInt8, i32_w]
  simp only [w8, w32, Int.bmod]
  (repeat' split) <;> omega
theorem r_sastore {k i z : Int} {len : Nat} (hk : isA n k .short len) (hi : 0 ≤ w32 i ∧ w32 i < (len : Int)) (hdg : decode M.2.1 pc = .ok (.sastore, 1)) (kk : RR X d M n0 n' n (pc + 1) lv st r (upm m k (w32 i) (w16 z)) Q) : RR X d M n0 n' n pc lv (vi z :: vi i :: vr k :: st) r m Q := by
  intro p R e s mm args below meth c H locs ls F G K E
  obtain ⟨f, hf, h1, h2, h3⟩ := kz_rd K.1 hk hi
  refine W.sast F.x F.b h1 ((F.cx.1.2 .short (by decide)).1 _ _) (fun h => by cases h) h2 rfl rfl hdg fun H' e1 e2 e3 => ?_
  refine kk F G (K.put (K.1.setA hk hi hf ?_ kz_up1 e1 e2 e3) (adr_pos hk.1 hk.2.1) e2 e3) E
  show Value.int (Int32.ofInt z).toInt16.toInt32 = _
  rw [upm_eq]
  show _ = Value.int (Int32.ofInt (w16 z))
  congr 1
  apply Int32.toInt_inj.mp
  rw [i32_w, Int16.toInt_toInt32, Int32.toInt_toInt16, i32_w]
  simp only [w16, w32, Int.bmod]
  (repeat' split) <;> omega
-- fields
theorem r_get {k : Int} {ci j ix : Nat} {v : AV} (hk : isO n k ci) (hf : FG M.1.cls ix ci j) (hv : fldv X (tyC ci j) (r k (j : Int)) (m k (j : Int)) = cv X v) (hdg : decode M.2.1 pc = .ok (.getfield ix, 3)) (kk : RR X d M n0 n' n (pc + 3) lv (v :: st) r m Q) : RR X d M n0 n' n pc lv (vr k :: st) r m Q := by
  intro p R e s mm args below meth c H locs ls F G K E
  obtain ⟨cc, hc, hj, href, hl⟩ := hf
  have h0 := K.1.2 k.toNat _ (by have := hk.1; omega) hk.2.2.1 hk.2.2.2
  have ek : ((k.toNat : Nat) : Int) = k := Int.toNat_of_nonneg (by have := hk.1; omega)
  simp only [cellAt, ek] at h0
  rw [← show adr X k = xB X + k.toNat from if_pos hk.2.1] at h0
  obtain ⟨c', hc', cell, g1, g2, g3, g4⟩ := h0
  cases hc.symm.trans hc'
  obtain ⟨w1, w2, w3⟩ := clsW ci cc hc
  obtain ⟨hS, hfc, kC, hkC, hkind⟩ := F.cx.1.1 ci cc hc
  obtain ⟨cf, kf, fi, f, hi, hsl⟩ := hS j hj
  rw [href] at hi
  have hst : f.isStatic = false := by
    have h9 := (u_facts hfc hkC (u_lays F.t w1 hj) (by rw [href]; exact hi)).1
    exact h9
  have hslot : cell.slots[f.slot]? = some (cv X v) := by rw [hsl, g4 j hj]; exact congrArg some hv
  rcases hl with hl | ⟨host, hl⟩
  · exact W.getf F.x F.b F.o (F.t _ hl) hi hst g1 (by rw [g3]; exact fun h => by cases h) hslot rfl rfl hdg (kk F G K E)
  · exact va_Wgetf F.x F.b F.o (va_Nw.use rfl (F.cx.2.2.1 _ hl)) hi hst g1 (by rw [g3]; exact fun h => by cases h) hslot rfl rfl hdg (kk F G K E)
theorem r_getI {k : Int} {ci j ix : Nat} (hk : isO n k ci) (hf : FG M.1.cls ix ci j) (ht : tyC ci j = .int) (hdg : decode M.2.1 pc = .ok (.getfield ix, 3)) (kk : RR X d M n0 n' n (pc + 3) lv (vi (m k (j : Int)) :: st) r m Q) : RR X d M n0 n' n pc lv (vr k :: st) r m Q :=
  r_get hk hf (by rw [ht]; rfl) hdg kk
theorem r_getZ {k : Int} {ci j ix : Nat} (hk : isO n k ci) (hf : FG M.1.cls ix ci j) (ht : tyC ci j = .boolean) (hdg : decode M.2.1 pc = .ok (.getfield ix, 3)) (kk : RR X d M n0 n' n (pc + 3) lv (vi (m k (j : Int)) :: st) r m Q) : RR X d M n0 n' n pc lv (vr k :: st) r m Q :=
  r_get hk hf (by rw [ht]; rfl) hdg kk
theorem r_getL {k : Int} {ci j ix : Nat} (hk : isO n k ci) (hf : FG M.1.cls ix ci j) (ht : tyC ci j = .long) (hdg : decode M.2.1 pc = .ok (.getfield ix, 3)) (kk : RR X d M n0 n' n (pc + 3) lv (vl (m k (j : Int)) :: st) r m Q) : RR X d M n0 n' n pc lv (vr k :: st) r m Q :=
  r_get hk hf (by rw [ht]; rfl) hdg kk
def isRf (ty : FieldType) : Bool := match ty with
  | .object _ => true
  | .array _ => true
  | _ => false
theorem r_getR {k t : Int} {ci j ix : Nat} (hk : isO n k ci) (hf : FG M.1.cls ix ci j) (hty : isRf (tyC ci j) = true) (ht : r k (j : Int) = t) (ht0 : ¬ t = 0) (hdg : decode M.2.1 pc = .ok (.getfield ix, 3)) (kk : RR X d M n0 n' n (pc + 3) lv (vr t :: st) r m Q) : RR X d M n0 n' n pc lv (vr k :: st) r m Q := by
  refine r_get hk hf ?_ hdg kk
  have e1 : rfv X (r k (j : Int)) = cv X (vr t) := by rw [ht]; exact if_neg ht0
  generalize tyC ci j = ty at hty
  cases ty <;> first | exact e1 | (exact absurd hty (by decide))
def FP (own : String) (ix ci j : Nat) : Prop := FG own ix ci j ∧ ∃ c : vw_C, clsT[ci]? = some c ∧ (c.2.1 j).2.2.2 = false
theorem kz_apart {s : State} {args : Array Value} {cls : String} {mm : MethodId} (hts : ∀ w ∈ Tg, w.before args s = true) (hK : KK X s) (ci : Nat) (c : vw_C) (hc : clsT[ci]? = some c) : ∀ x y, x < c.2.2 → y < c.2.2 → x ≠ y → xI X ci x ≠ xI X ci y := by
  intro x y hx hy hne
  obtain ⟨w1, w2, w3⟩ := clsW ci c hc
  obtain ⟨hS, -⟩ := hK.1 ci c hc
  obtain ⟨_, _, _, fa, hia, ea⟩ := hS x hx
  obtain ⟨_, _, _, fb, hib, eb⟩ := hS y hy
  rw [← ea, ← eb]
  refine u_apart (u_lays hts w1 hx) (u_lays hts w1 hy) hia hib ?_
  rw [(State.fieldFound?_type hia (w3 x hx)).1, (State.fieldFound?_type hib (w3 y hy)).1]
  exact w2 x hx y hy hne
theorem r_put {k : Int} {ci j ix : Nat} {v : AV} {r' m' : Mem} (hk : isO n k ci) (hf : FP M.1.cls ix ci j) (hv : cv X v = fldv X (tyC ci j) (r' k (j : Int)) (m' k (j : Int))) (hn : narrow (tyC ci j) (cv X v) = cv X v) (hfit : fits (tyC ci j) (cv X v) = true) (he : ∀ a b, ¬ (a = k ∧ b = (j : Int)) → r' a b = r a b ∧ m' a b = m a b) (hdg : decode M.2.1 pc = .ok (.putfield ix, 3)) (kk : RR X d M n0 n' n (pc + 3) lv st r' m' Q) : RR X d M n0 n' n pc lv (v :: vr k :: st) r m Q := by
  intro p R e s mm args below meth c H locs ls F G K E
  obtain ⟨⟨cc, hc, hj, href, hl⟩, c2, hc2, hfin⟩ := hf
  cases hc.symm.trans hc2
  have h0 := K.1.2 k.toNat _ (by have := hk.1; omega) hk.2.2.1 hk.2.2.2
  have ek : ((k.toNat : Nat) : Int) = k := Int.toNat_of_nonneg (by have := hk.1; omega)
  simp only [cellAt, ek] at h0
  rw [← show adr X k = xB X + k.toNat from if_pos hk.2.1] at h0
  obtain ⟨c', hc', cell, g1, g2, g3, g4⟩ := h0
  cases hc.symm.trans hc'
  obtain ⟨w1, w2, w3⟩ := clsW ci cc hc
  have hap := kz_apart (cls := M.1.cls) (mm := mm) F.t F.cx.1 ci cc hc
  obtain ⟨hS, hfc, kC, hkC, hkind⟩ := F.cx.1.1 ci cc hc
  obtain ⟨cf, kf, fi, f, hi, hsl⟩ := hS j hj
  have hlay := F.t _ (w1 _ (u_in_lay hj))
  unfold u_lay at hlay
  rw [if_neg (by rw [hfin]; decide)] at hlay
  have hst := (u_facts hfc hkC (u_lays F.t w1 hj) hi).1
  have h6 := u_store hfc hkC hkind hlay hi (w3 j hj) hn hfit
  rw [href] at hi
  rcases hl with hl | ⟨host, hl⟩
  · refine W.putK F.x F.b (f := f) ⟨F.o, F.t _ hl, ⟨_, _, _, hi⟩, hst⟩ (by rw [g2]; exact h6) g1 g3 (by rw [hsl]; exact k2_hasslot (g4 j hj)) rfl rfl hdg fun H' e1 e2 e3 => ?_
    rw [hsl] at e1 ⊢
    exact kk F G (K.put (K.1.setO hk hc hj hap g1 hv he e1 e2 e3) (adr_pos hk.1 hk.2.1) e2 e3) E
  · refine va_WputK F.x F.b (f := f) F.o (va_Nw.use rfl (F.cx.2.2.1 _ hl)) hi hst (by rw [g2]; exact h6) g1 g3 (by rw [hsl]; exact k2_hasslot (g4 j hj)) rfl rfl hdg fun H' e1 e2 e3 => ?_
    rw [hsl] at e1 ⊢
    exact kk F G (K.put (K.1.setO hk hc hj hap g1 hv he e1 e2 e3) (adr_pos hk.1 hk.2.1) e2 e3) E
theorem r_putI {k z : Int} {ci j ix : Nat} (hk : isO n k ci) (hf : FP M.1.cls ix ci j) (ht : tyC ci j = .int) (hdg : decode M.2.1 pc = .ok (.putfield ix, 3)) (kk : RR X d M n0 n' n (pc + 3) lv st r (upm m k (j : Int) z) Q) : RR X d M n0 n' n pc lv (vi z :: vr k :: st) r m Q :=
  r_put hk hf (by rw [ht, upm_eq]; rfl) (by rw [ht]; rfl) (by rw [ht]; rfl) kz_up1 hdg kk
theorem r_putL {k z : Int} {ci j ix : Nat} (hk : isO n k ci) (hf : FP M.1.cls ix ci j) (ht : tyC ci j = .long) (hdg : decode M.2.1 pc = .ok (.putfield ix, 3)) (kk : RR X d M n0 n' n (pc + 3) lv st r (upm m k (j : Int) z) Q) : RR X d M n0 n' n pc lv (vl z :: vr k :: st) r m Q :=
  r_put hk hf (by rw [ht, upm_eq]; rfl) (by rw [ht]; rfl) (by rw [ht]; rfl) kz_up1 hdg kk
theorem r_putZ {k z : Int} {ci j ix : Nat} (hk : isO n k ci) (hf : FP M.1.cls ix ci j) (ht : tyC ci j = .boolean) (hz : z = 0 ∨ z = 1) (hdg : decode M.2.1 pc = .ok (.putfield ix, 3)) (kk : RR X d M n0 n' n (pc + 3) lv st r (upm m k (j : Int) z) Q) : RR X d M n0 n' n pc lv (vi z :: vr k :: st) r m Q :=
  r_put hk hf (by rw [ht, upm_eq]; rfl) (by rw [ht]; rcases hz with rfl | rfl <;> rfl) (by rw [ht]; rcases hz with rfl | rfl <;> rfl) kz_up1 hdg kk
theorem r_putR {k z : Int} {ci j ix : Nat} (hk : isO n k ci) (hf : FP M.1.cls ix ci j) (hty : isRf (tyC ci j) = true) (hz : ¬ z = 0) (hdg : decode M.2.1 pc = .ok (.putfield ix, 3)) (kk : RR X d M n0 n' n (pc + 3) lv st (upm r k (j : Int) z) m Q) : RR X d M n0 n' n pc lv (vr z :: vr k :: st) r m Q := by
  have e1 : cv X (vr z) = rfv X (upm r k (j : Int) z k (j : Int)) := by rw [upm_eq]; exact (if_neg hz).symm
  refine r_put hk hf ?_ ?_ ?_ kz_up2 hdg kk <;> (generalize tyC ci j = ty at hty; cases ty <;> first | exact e1 | rfl | (exact absurd hty (by decide)))
-- outer arrays
theorem r_gets {e ix : Nat} {q : kz_E} (he : exts[e]? = some q) (hw : Cond.fieldLink M.1.cls ix q.1 q.2.1 q.2.2.1 ∈ Tg) (hdg : decode M.2.1 pc = .ok (.getstatic ix, 3)) (kk : RR X d M n0 n' n (pc + 3) lv (vr (1000 + (e : Int)) :: st) r m Q) : RR X d M n0 n' n pc lv st r m Q := by
  intro p R e' s mm args below meth c H locs ls F G K E
  have kk := kk (e := e') (below := below) F G K E
  refine va_gets F.x F.b (F.cx.2.1.1 e q he).1 K.2.1 F.o (F.t _ hw) (fun _ h => h) hdg ?_
  rw [show (Value.ref (xE X e)) = cv X (vr (1000 + (e : Int))) from ?_]
  · exact kk
  · show _ = Value.ref (adr X _)
    rw [show adr X (1000 + (e : Int)) = xE X (1000 + (e : Int) - 1000).toNat from if_neg (by omega)]
    congr 2
    omega
theorem kz_adrx (X : Cx) (e : Nat) : adr X (1000 + (e : Int)) = xE X e := by
  rw [show adr X (1000 + (e : Int)) = xE X (1000 + (e : Int) - 1000).toNat from if_neg (by omega)]
  congr 1
  omega
theorem kz_vpin {i : Int} {len : Nat} (hi : 0 ≤ w32 i ∧ w32 i < (len : Int)) : vp_in (Int32.ofInt i) len := by
  unfold vp_in
  rw [kz_ix, kz_lt0]
  omega
theorem r_xiload {e : Nat} {i : Int} {C f dd : String} {N : Nat} {cont : List Int} (he : exts[e]? = some (C, f, dd, .int, N, cont)) (hi : 0 ≤ w32 i ∧ w32 i < (N : Int)) (hdg : decode M.2.1 pc = .ok (.iaload, 1)) (kk : RR X d M n0 n' n (pc + 1) lv (vi (cont.getD (w32 i).toNat 0) :: st) r m Q) : RR X d M n0 n' n pc lv (vi i :: vr (1000 + (e : Int)) :: st) r m Q := by
  intro p R e' s mm args below meth c H locs ls F G K E
  have hT := (F.cx.2.1.1 e _ he).2
  rw [← kz_adrx X e] at hT
  exact va_ti F.x F.b hT K.2.1 (kz_vpin hi) (by rw [kz_ix]; rfl) hdg (kk F G K E)
theorem r_xcload {e : Nat} {i : Int} {C f dd : String} {N : Nat} {cont : List Int} (he : exts[e]? = some (C, f, dd, .char, N, cont)) (hi : 0 ≤ w32 i ∧ w32 i < (N : Int)) (hdg : decode M.2.1 pc = .ok (.caload, 1)) (kk : RR X d M n0 n' n (pc + 1) lv (vi (cont.getD (w32 i).toNat 0) :: st) r m Q) : RR X d M n0 n' n pc lv (vi i :: vr (1000 + (e : Int)) :: st) r m Q := by
  intro p R e' s mm args below meth c H locs ls F G K E
  have hT := (F.cx.2.1.1 e _ he).2
  rw [← kz_adrx X e] at hT
  exact va_tc F.x F.b hT K.2.1 (kz_vpin hi) (by rw [kz_ix]; rfl) hdg (kk F G K E)
theorem r_xlen {e : Nat} {q : kz_E} (he : exts[e]? = some q) (hdg : decode M.2.1 pc = .ok (.arraylength, 1)) (kk : RR X d M n0 n' n (pc + 1) lv (vi (q.2.2.2.2.1 : Int) :: st) r m Q) : RR X d M n0 n' n pc lv (vr (1000 + (e : Int)) :: st) r m Q := by
  intro p R e' s mm args below meth c H locs ls F G K E
  have hT := (F.cx.2.1.1 e _ he).2
  rw [← kz_adrx X e] at hT
  exact va_tlen F.x F.b hT K.2.1 rfl hdg (kk F G K E)
theorem r_sload {i : Int} (hi : 0 ≤ w32 i ∧ w32 i < (xN X : Int)) (hdg : decode M.2.1 pc = .ok (.iaload, 1)) (kk : RR X d M n0 n' n (pc + 1) lv (vi (xS X (w32 i).toNat) :: st) r m Q) : RR X d M n0 n' n pc lv (vi i :: vr 1007 :: st) r m Q := by
  intro p R e' s mm args below meth c H locs ls F G K E
  have hT := F.cx.2.1.2
  exact va_ti F.x F.b hT K.2.1 (kz_vpin hi) (by rw [kz_ix]; rfl) hdg (kk F G K E)
theorem r_slen (hdg : decode M.2.1 pc = .ok (.arraylength, 1)) (kk : RR X d M n0 n' n (pc + 1) lv (vi (xN X : Int) :: st) r m Q) : RR X d M n0 n' n pc lv (vr 1007 :: st) r m Q := by
  intro p R e' s mm args below meth c H locs ls F G K E
  exact va_tlen F.x F.b F.cx.2.1.2 K.2.1 rfl hdg (kk F G K E)
-- ends
theorem kz_out {s t : State} {H : Heap} {locs : List Loc} {n0 : Nat} {z : Int} {o : Outcome} (hz : s.heap.size = xB X + n0 + 1) (hS : va_S (fun a => xB X < a) s.heap H locs) (ht : t.heap = H) : ∀ q : Nat, q ≤ xB X → t.heap[q]? = s.heap[q]? := fun q h => by
  rw [ht]
  exact hS.2.1 q (by omega) (by omega)
theorem r_zret {a : Int} {ty : FieldType} (hn : n = n') (hr : M.2.2.2 = some ty) (ht : ¬ ty = .long) (hnw : narrow ty (.int (Int32.ofInt a)) = .int (Int32.ofInt a)) (hq : Q a r m) (hdg : decode M.2.1 pc = .ok (.ireturn, 1)) : RR X d M n0 n' n pc lv [vi a] r m Q := by
  intro p R e s mm args below meth c H locs ls F G K E
  subst hn
  refine W.zret F.x F.b (F.r.trans hr) hnw (fun t ht' hW => ⟨⟨a, r, m, ?_, hq, by rw [ht']; exact K.1⟩, kz_out (z := 0) (o := .returned none) F.z K.2.1 ht'⟩) K.2.1.2.2 hdg F.k
  rw [hr]
  unfold retv
  split
  · cases ‹some ty = none›
  · exact absurd (Option.some.inj ‹some ty = some FieldType.long›) ht
  · rfl
theorem r_iret {a : Int} (hn : n = n') (hr : M.2.2.2 = some .int) (hq : Q a r m) (hdg : decode M.2.1 pc = .ok (.ireturn, 1)) : RR X d M n0 n' n pc lv [vi a] r m Q :=
  r_zret hn hr (fun h => by cases h) rfl hq hdg
theorem r_bret {a : Int} (hn : n = n') (hr : M.2.2.2 = some .boolean) (hz : a = 0 ∨ a = 1) (hq : Q a r m) (hdg : decode M.2.1 pc = .ok (.ireturn, 1)) : RR X d M n0 n' n pc lv [vi a] r m Q :=
  r_zret hn hr (fun h => by cases h) (by rcases hz with rfl | rfl <;> rfl) hq hdg
theorem r_lret {a : Int} (hn : n = n') (hr : M.2.2.2 = some .long) (hq : Q a r m) (hdg : decode M.2.1 pc = .ok (.lreturn, 1)) : RR X d M n0 n' n pc lv [vl a] r m Q := by
  intro p R e s mm args below meth c H locs ls F G K E
  subst hn
  exact W.lret F.x F.b (F.r.trans hr) (fun t ht' hW => ⟨⟨a, r, m, by rw [hr]; rfl, hq, by rw [ht']; exact K.1⟩, kz_out (z := 0) (o := .returned none) F.z K.2.1 ht'⟩) K.2.1.2.2 hdg F.k
theorem r_vret (hn : n = n') (hr : M.2.2.2 = none) (hq : Q 0 r m) (hdg : decode M.2.1 pc = .ok (.return_, 1)) : RR X d M n0 n' n pc lv [] r m Q := by
  intro p R e s mm args below meth c H locs ls F G K E
  subst hn
  exact W.vret F.x F.b (F.r.trans hr) (fun t ht' hW => ⟨⟨0, r, m, by rw [hr]; rfl, hq, by rw [ht']; exact K.1⟩, kz_out (z := 0) (o := .returned none) F.z K.2.1 ht'⟩) K.2.1.2.2 hdg F.k
end RW1
