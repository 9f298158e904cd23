/-! new T[n][m] -/
theorem kz_outer (X : Cx) (ty : FieldType) (c : ClassId) (N h0 : Nat) (base : Int) (hb : ∀ j : Nat, j < N → rfv X (base + (j : Int)) = .ref (h0 + 1 + j)) : ∀ i : Nat, i ≤ N → Jvm.Free.Multi.outerC c N h0 i = arrV c N (fun j => if j < i then rfv X (base + (j : Int)) else .null)
  | 0, _ => by
    show ({ cls := c, slots := Array.replicate N .null, vm := .none } : Cell) = _
    rw [arrV_new]
    refine congrArg (arrV c N) (funext fun j => ?_)
    simp
  | i + 1, h => by
    show (Jvm.Free.Multi.outerC c N h0 i).setSlot i (.ref (h0 + 1 + i)) = _
    rw [kz_outer X ty c N h0 base hb i (by omega), arrV_store]
    refine congrArg (arrV c N) (funext fun j => ?_)
    by_cases e : j = i
    · subst e
      rw [show (if j < j + 1 then rfv X (base + (j : Int)) else Value.null) = rfv X (base + (j : Int)) from if_pos (by omega), hb j (by omega)]
      simp [updV]
    · by_cases h : j < i
      · simp [updV, e, h, Nat.lt_succ_of_lt h]
      · simp [updV, e, h, show ¬ j < i + 1 by omega]
def gro (r : Mem) (k : Int) (N : Nat) : Mem := fun a b => if a = k ∧ 0 ≤ b ∧ b < (N : Int) then k + 1 + b else r a b
section RW4
variable {X : Cx} {d n0 n' n : Nat} {M : Md} {pc : Nat} {lv : List (Nat × AV)} {st : List AV} {r m : Mem} {Q : Int → Mem → Mem → Prop}
theorem r_mna {ty : FieldType} {ix N K : Nat} {a b k : Int} (hty : ty = .int ∨ ty = .long) (hkn : k = ((n + 1 : Nat) : Int)) (hk1 : k + (N : Int) < 1000) (hq : tbl[n + 1]? = some (.inl (.array ty, N))) (hq2 : ∀ j : Nat, j < N → tbl[n + 2 + j]? = some (.inl (ty, K))) (ha : w32 a = (N : Int)) (hb : w32 b = (K : Int)) (hN : N ≤ 10000) (hK : K ≤ 10000)
    (hz : ∀ i j, k ≤ i → r i j = 0 ∧ m i j = 0) (hcl : Cond.classLink M.1.cls ix ("[" ++ (FieldType.array ty).toString) ∈ Tg) (harr : Cond.arrayClass ty ∈ Tg) (hn1 : n + 1 + N ≤ n') (hzs : zs (n + 1 + N) = zs n + N + N * K) (hdg : decode M.2.1 pc = .ok (.multianewarray ix 2, 4))
    (kk : RR X d M n0 n' (n + 1 + N) (pc + 4) lv (vr k :: st) (gro r k N) m Q) : RR X d M n0 n' n pc lv (vi b :: vi a :: st) r m Q := by
  intro p R e s mm args below meth c H locs ls F G K9 E T hT X0
  have hR1 := G.2.2.1
  have hR2 := G.2.2.2
  have hm1 := zs_mono E.1
  have hm2 := zs_mono hn1
  have hAO : (Cond.arrayOver (.array ty)).before args s = true := by
    rcases hty with rfl | rfl
    · exact F.cx.2.2.2.1
    · exact F.cx.2.2.2.2
  have ea : (Int32.ofInt a).toNatClampNeg = N := by rw [kz_ix, ha]; rfl
  have eb : (Int32.ofInt b).toNatClampNeg = K := by rw [kz_ix, hb]; rfl
  obtain ⟨vm₁, cA, comp, -, fA, fC, -, -, X', step⟩ := X0.multianewarray2F F.x F.o (F.t _ hcl) hAO (F.t _ harr) (g := F0 mm pc ls ((vi b :: vi a :: st).map (cv X))) rfl (by rw [F.b]; exact hdg) (n := Int32.ofInt a) (k := Int32.ofInt b) (rest := st.map (cv X)) rfl (by rw [kz_lt0, ha]; omega) (by rw [kz_lt0, hb]; omega) (by rw [ea]; omega)
    (by rw [eb]; rcases hty with rfl | rfl <;> simp [componentBytes] <;> omega) (by rw [eb]; omega) (by rcases hty with rfl | rfl <;> rfl) (by rcases hty with rfl | rfl <;> rfl) (by rw [ea]; omega) (by rw [ea, eb]; omega)
  rw [ea, eb] at X' step
  have hAt := (F.cx.1.2 (.array ty) (by rcases hty with rfl | rfl <;> decide)).2
  have hBt := (F.cx.1.2 ty (by rcases hty with rfl | rfl <;> decide)).2
  have e1 : xA X (.array ty) = cA := Option.some.inj (hAt.symm.trans fA)
  have e2 : xA X ty = comp := Option.some.inj (hBt.symm.trans fC)
  subst e1
  subst e2
  generalize hF : Jvm.Free.Multi.fill (T.setVm vm₁) (xA X (.array ty)) (xA X ty) N K (defaultValue ty) N = U at X' step
  have hTh : (T.setVm vm₁).heap = H := hT
  obtain ⟨f1, f2, -, -⟩ := Jvm.Free.Multi.fill_facts (T.setVm vm₁) (xA X (.array ty)) (xA X ty) N K (defaultValue ty) N
  rw [hF, hTh] at f1 f2
  have hold : ∀ x : Nat, x < H.size → U.heap[x]? = H[x]? := fun x hx => by
    have := Jvm.Free.Multi.fill_old (T.setVm vm₁) (xA X (.array ty)) (xA X ty) N K (defaultValue ty) (a := x) (by rw [hTh]; exact hx) N
    rw [hF, hTh] at this
    exact this
  have hrow : ∀ j : Nat, j < N → U.heap[H.size + 1 + j]? = some (Jvm.Free.Multi.innerC (xA X ty) K (defaultValue ty)) := fun j hj => by
    have := Jvm.Free.Multi.fill_inner (T.setVm vm₁) (xA X (.array ty)) (xA X ty) N K (defaultValue ty) N j hj
    rw [hF, hTh] at this
    exact this
  have hs := K9.1.1
  subst hkn
  have hadr : ∀ j : Nat, j < N → rfv X (((n + 1 : Nat) : Int) + 1 + (j : Int)) = .ref (H.size + 1 + j) := fun j hj => by
    have g1 : adr X (((n + 1 : Nat) : Int) + 1 + (j : Int)) = xB X + (((n + 1 : Nat) : Int) + 1 + (j : Int)).toNat := if_pos (by omega)
    have g2 : (((n + 1 : Nat) : Int) + 1 + (j : Int)).toNat = n + 2 + j := by omega
    have g3 : adr X (((n + 1 : Nat) : Int) + 1 + (j : Int)) = H.size + 1 + j := by rw [g1, g2, hs]; omega
    rw [← g3]
    exact if_neg (by omega)
  rw [kz_outer X ty _ N H.size (((n + 1 : Nat) : Int) + 1) hadr N (Nat.le_refl _)] at f2
  have hW : Wd X (n + 1 + N) (gro r ((n + 1 : Nat) : Int) N) m U.heap := by
    refine ⟨by rw [f1]; omega, fun k2 q h1 h2 h3 => ?_⟩
    by_cases hk : k2 < n + 1
    · exact (K9.1.2 k2 q h1 (by omega) h3).eq (fun b => ⟨if_neg (by omega), rfl⟩) (hold _ (by omega))
    · by_cases hk3 : k2 = n + 1
      · subst hk3
        rw [hq] at h3
        cases h3
        show U.heap[xB X + (n + 1)]? = _
        rw [show xB X + (n + 1) = H.size by omega, f2]
        congr 2
        funext j
        show _ = rfv X (gro r ((n + 1 : Nat) : Int) N ((n + 1 : Nat) : Int) (j : Int))
        unfold gro
        by_cases hj : j < N
        · rw [if_pos hj, if_pos ⟨rfl, by omega, by omega⟩]
        · rw [if_neg hj, if_neg (by omega), (hz _ _ (Int.le_refl _)).1]
          rfl
      · obtain ⟨j, rfl⟩ : ∃ j, k2 = n + 2 + j := ⟨k2 - (n + 2), by omega⟩
        rw [hq2 j (by omega)] at h3
        cases h3
        show U.heap[xB X + (n + 2 + j)]? = _
        rw [show xB X + (n + 2 + j) = H.size + 1 + j by omega, hrow j (by omega)]
        show some ({ cls := xA X ty, slots := Array.replicate K (defaultValue ty), vm := .none } : Cell) = _
        rw [arrV_new]
        congr 2
        funext i
        have h0 := hz ((n + 2 + j : Nat) : Int) (i : Int) (by omega)
        rw [h0.2]
        rcases hty with rfl | rfl <;> rfl
  have hS : va_S (fun a => xB X < a) s.heap U.heap locs := ⟨by have := K9.2.1.1; rw [f1]; omega, fun q h1 h2 => (hold q (Nat.lt_of_lt_of_le h1 K9.2.1.1)).trans (K9.2.1.2.1 q h1 h2), K9.2.1.2.2⟩
  have k9 := kk (e := e) (below := below) F G ⟨hW, hS, K9.2.2⟩ ⟨by omega, hn1⟩ U rfl
  rw [show n + 1 + N - n0 = n - n0 + 1 + N by omega, show zs (n + 1 + N) - zs n0 = zs n - zs n0 + N + N * K by omega] at k9
  obtain ⟨t, a1, b1⟩ := k9 X'
  refine ⟨t, step t ?_, b1⟩
  have e3 : T.heap.size = adr X ((n + 1 : Nat) : Int) := by
    rw [hT, show adr X ((n + 1 : Nat) : Int) = xB X + ((n + 1 : Nat) : Int).toNat from if_pos (by omega)]
    omega
  rw [e3]
  exact a1
end RW4
