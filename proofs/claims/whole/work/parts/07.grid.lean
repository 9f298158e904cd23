/-! arraycopy; arrays of arrays -/
theorem Wd.setW {X : Cx} {n : Nat} {r m r' m' : Mem} {H H' : Heap} {k : Int} {ty : FieldType} {len : Nat} (h : Wd X n r m H) (hk : isA n k ty len) (he : ∀ a b, a ≠ k → r' a b = r a b ∧ m' a b = m a b)
    (e : H'[adr X k]? = some (arrV (xA X ty) len (fun j : Nat => fldv X ty (r' k (j : Int)) (m' k (j : Int))))) (z : H'.size = H.size) (o : ∀ q, q ≠ adr X k → H'[q]? = H[q]?) : Wd X n r' m' H' := by
  have ek : ((k.toNat : Nat) : Int) = k := Int.toNat_of_nonneg (by have := hk.1; omega)
  have ha : adr X k = xB X + k.toNat := if_pos hk.2.1
  refine ⟨by rw [z]; exact h.1, fun k2 q h1 h2 hq => ?_⟩
  by_cases hkk : k2 = k.toNat
  · subst hkk
    rw [hk.2.2.2] at hq
    cases hq
    simp only [cellAt, ek]
    rw [← ha, e]
  · refine (h.2 k2 q h1 h2 hq).eq (fun b => he _ _ (fun q => hkk (by omega))) (o _ (fun q => hkk (by omega)))
def cpm (m : Mem) (ks sp kd dp n : Int) : Mem := fun a b => if a = kd ∧ dp ≤ b ∧ b < dp + n then m ks (sp + (b - dp)) else m a b
theorem va_S.set {A : Nat → Prop} {H0 H H1 : Heap} {locs L : List Loc} {a : Nat} (h : va_S A H0 H locs) (z : H1.size = H.size) (o : ∀ q : Nat, q ≠ a → H1[q]? = H[q]?) (ha : A a) (hL : ∀ l ∈ L, l.base = a) : va_S A H0 H1 (locs ++ L) := by
  refine ⟨by rw [z]; exact h.1, fun q g1 g2 => ?_, fun q hq => ?_⟩
  · rw [o q (fun e => g2 (by rw [e]; exact ha))]
    exact h.2.1 q g1 g2
  · rcases List.mem_append.mp hq with h1 | h1
    · exact h.2.2 q h1
    · rw [hL q h1]; exact ha
section RW3
variable {X : Cx} {d n0 n' n : Nat} {M : Md} {pc : Nat} {lv : List (Nat × AV)} {st : List AV} {r m : Mem} {Q : Int → Mem → Mem → Prop}
theorem r_copy {ks kd sp dp z : Int} {ty : FieldType} {l0 l1 ix : Nat} (hty : ty ∈ atys) (hp : ty = .int ∨ ty = .long) (hks : isA n ks ty l0) (hkd : isA n kd ty l1) (h1 : 0 ≤ w32 sp) (h2 : 0 ≤ w32 dp) (h3 : 0 ≤ w32 z) (h4 : w32 sp + w32 z ≤ (l0 : Int)) (h5 : w32 dp + w32 z ≤ (l1 : Int))
    (hl : Cond.methodLink M.1.cls ix arraycopyName ∈ Tg) (hnat : Cond.native arraycopyName ∈ Tg) (hs : Cond.static arraycopyName ∈ Tg) (hi : Cond.initialized "java/lang/System" ∈ Tg) (hd : 1 ≤ d) (hrest : wdA st ≤ 8) (hdg : decode M.2.1 pc = .ok (.invokestatic ix, 3))
    (kk : RR X d M n0 n' n (pc + 3) lv st r (cpm m ks (w32 sp) kd (w32 dp) (w32 z)) Q) : RR X d M n0 n' n pc lv (vi z :: vi dp :: vr kd :: vi sp :: vr ks :: st) r m Q := by
  intro p R e s mm args below meth c H locs ls F G K E T hT X0
  have hc0 := K.1.2 ks.toNat _ (by have := hks.1; omega) hks.2.2.1 hks.2.2.2
  have hc1 := K.1.2 kd.toNat _ (by have := hkd.1; omega) hkd.2.2.1 hkd.2.2.2
  have ek0 : ((ks.toNat : Nat) : Int) = ks := Int.toNat_of_nonneg (by have := hks.1; omega)
  have ek1 : ((kd.toNat : Nat) : Int) = kd := Int.toNat_of_nonneg (by have := hkd.1; omega)
  simp only [cellAt, ek0] at hc0
  simp only [cellAt, ek1] at hc1
  rw [← show adr X ks = xB X + ks.toNat from if_pos hks.2.1] at hc0
  rw [← show adr X kd = xB X + kd.toNat from if_pos hkd.2.1] at hc1
  have hA := (F.cx.1.2 ty hty).1
  obtain ⟨-, k0, hk0, cm0, hkk0⟩ := hA l0 (fun j : Nat => fldv X ty (r ks (j : Int)) (m ks (j : Int)))
  obtain ⟨-, k1, hk1, cm1, hkk1⟩ := hA l1 (fun j : Nat => fldv X ty (r kd (j : Int)) (m kd (j : Int)))
  have e1 : copied (arrV (xA X ty) l0 (fun j : Nat => fldv X ty (r ks (j : Int)) (m ks (j : Int)))) (arrV (xA X ty) l1 (fun j : Nat => fldv X ty (r kd (j : Int)) (m kd (j : Int)))) (Int32.ofInt sp) (Int32.ofInt dp) (Int32.ofInt z) = arrV (xA X ty) l1 (fun j : Nat => fldv X ty (r kd (j : Int)) (cpm m ks (w32 sp) kd (w32 dp) (w32 z) kd (j : Int))) := by
    have h9 : ∃ mk : Int → Value, ∀ a b : Int, fldv X ty a b = mk b := by
      rcases hp with rfl | rfl
      · exact ⟨fun b => .int (Int32.ofInt b), fun _ _ => rfl⟩
      · exact ⟨fun b => .long (Int64.ofInt b), fun _ _ => rfl⟩
    obtain ⟨mk, hmk⟩ := h9
    simp only [hmk]
    show (arrV _ _ _).storeRun (Int32.ofInt dp).toNatClampNeg ((arrV _ _ _).stretch (Int32.ofInt sp).toNatClampNeg (Int32.ofInt z).toNatClampNeg) = _
    rw [va_copied mk _ _ (fun j : Nat => m ks (j : Int)) (fun j : Nat => m kd (j : Int)) (by rw [kz_ix, kz_ix]; omega)]
    congr 1
    funext j
    congr 1
    unfold va_cpy cpm
    rw [kz_ix, kz_ix, kz_ix]
    by_cases hj : (w32 dp).toNat ≤ j ∧ j < (w32 dp).toNat + (w32 z).toNat
    · rw [if_pos hj, if_pos ⟨rfl, by omega, by omega⟩]
      show m ks ((((w32 sp).toNat + (j - (w32 dp).toNat) : Nat)) : Int) = _
      congr 1
      omega
    · rw [if_neg hj, if_neg (fun q => hj (by omega))]
  have hg : ∀ (w : Int), 0 ≤ w32 w → ¬ Int32.ofInt w < 0 := fun w h q => by have := kz_lt0.mp q; omega
  obtain ⟨vm', X', step⟩ := X0.arraycopy F.x F.o (F.t _ hl) (F.t _ hnat) (F.t _ hs) (F.t _ hi) (src := adr X ks) (dst := adr X kd) (srcPos := Int32.ofInt sp) (destPos := Int32.ofInt dp) (n := Int32.ofInt z) (by rw [hT]; exact hc0) (by rw [hT]; exact hc1)
    (fun _ h => by cases h) (fun _ h => by cases h) (fun h => by cases h) (fun h => by cases h) hk0 hk1 hkk0 hkk1 (by rcases hp with rfl | rfl <;> simp [refKind]) (hg _ h1) (hg _ h2) (hg _ h3)
    (by rw [i32_w, i32_w, arrV_size]; omega)
    (by rw [i32_w, i32_w, arrV_size]; omega)
    (fun vm₁ _ i hi => by
      rw [kz_ix] at hi
      rw [Array.getD_eq_getD_getElem?, arrV_read _ _ (by rw [kz_ix]; omega)]
      rcases hp with rfl | rfl
      · exact ⟨rfl, trivial⟩
      · exact ⟨rfl, trivial⟩)
    (g := F0 mm pc ls ((vi z :: vi dp :: vr kd :: vi sp :: vr ks :: st).map (cv X))) rfl (K.2.2.1.trans F.l.symm) (rest := st.map (cv X)) rfl (by rw [F.b]; exact hdg) (by have := G.1; omega) (by
      rw [wdA_cat]
      have h6 := G.2.1
      have h7 : nativeFrameWords "java/lang/System" "arraycopy" 5 ≤ 20 := by decide +kernel
      show 2 * 0 + wdA st + _ ≤ _
      omega)
  rw [e1] at X' step
  have hl1 : adr X kd < H.size := (Array.getElem?_eq_some_iff.mp hc1).1
  have hheap : ((T.setVm vm').setCell (adr X kd) (arrV (xA X ty) l1 (fun j : Nat => fldv X ty (r kd (j : Int)) (cpm m ks (w32 sp) kd (w32 dp) (w32 z) kd (j : Int))))).heap = H.setIfInBounds (adr X kd) (arrV (xA X ty) l1 (fun j : Nat => fldv X ty (r kd (j : Int)) (cpm m ks (w32 sp) kd (w32 dp) (w32 z) kd (j : Int)))) := by rw [← hT]; rfl
  have oq : ∀ q : Nat, q ≠ adr X kd → (H.setIfInBounds (adr X kd) (arrV (xA X ty) l1 (fun j : Nat => fldv X ty (r kd (j : Int)) (cpm m ks (w32 sp) kd (w32 dp) (w32 z) kd (j : Int)))))[q]? = H[q]? := fun q hq => by simp [Array.getElem?_setIfInBounds, Ne.symm hq]
  have hW : Wd X n r (cpm m ks (w32 sp) kd (w32 dp) (w32 z)) (H.setIfInBounds (adr X kd) (arrV (xA X ty) l1 (fun j : Nat => fldv X ty (r kd (j : Int)) (cpm m ks (w32 sp) kd (w32 dp) (w32 z) kd (j : Int))))) :=
    K.1.setW hkd (fun a b h => ⟨rfl, if_neg (fun q => h q.1)⟩) (by simp [Array.getElem?_setIfInBounds, hl1]) (by simp) oq
  obtain ⟨t, a1, b1⟩ := kk F G ⟨hW, K.2.1.set (by simp) oq (adr_pos hkd.1 hkd.2.1) (fun q hq => by obtain ⟨y, -, hy⟩ := List.mem_map.mp hq; rw [← hy]), K.2.2⟩ E _ hheap X'
  exact ⟨t, step t a1, b1⟩
end RW3
