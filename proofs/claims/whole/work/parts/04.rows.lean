section RW0
variable {X : Cx} {d n0 n' n : Nat} {M : Md} {pc : Nat} {lv : List (Nat × AV)} {st : List AV} {r m : Mem} {Q : Int → Mem → Mem → Prop}
theorem r_iconst {z : Int} (hdg : decode M.2.1 pc = .ok (.iconst z, 1)) (k : RR X d M n0 n' n (pc + 1) lv (vi z :: st) r m Q) : RR X d M n0 n' n pc lv st r m Q := by
  intro p R e s mm args below meth c H locs ls F G K E
  exact lv_iconst F.x F.b hdg rfl (k F G K E)
theorem r_bipush {z : Int} (hz : -128 ≤ z ∧ z < 128) (hdg : decode M.2.1 pc = .ok (.bipush z, 2)) (k : RR X d M n0 n' n (pc + 2) lv (vi z :: st) r m Q) : RR X d M n0 n' n pc lv st r m Q := by
  intro p R e s mm args below meth c H locs ls F G K E
  refine lv_bipush (v := Int32.ofInt z) F.x F.b hdg ?_ (k F G K E)
  apply Int32.toInt_inj.mp
  rw [i32_w, Int8.toInt_toInt32, Int8.toInt_ofInt]
  simp only [w32, Int.bmod, Int8.size, Int16.size]
  (repeat' split) <;> omega
theorem r_sipush {z : Int} (hz : -32768 ≤ z ∧ z < 32768) (hdg : decode M.2.1 pc = .ok (.sipush z, 3)) (k : RR X d M n0 n' n (pc + 3) lv (vi z :: st) r m Q) : RR X d M n0 n' n pc lv st r m Q := by
  intro p R e s mm args below meth c H locs ls F G K E
  refine lv_sipush (v := Int32.ofInt z) F.x F.b hdg ?_ (k F G K E)
  apply Int32.toInt_inj.mp
  rw [i32_w, Int16.toInt_toInt32, Int16.toInt_ofInt]
  simp only [w32, Int.bmod, Int8.size, Int16.size]
  (repeat' split) <;> omega
theorem r_lconst {z : Fin 2} (hdg : decode M.2.1 pc = .ok (.lconst z, 1)) (k : RR X d M n0 n' n (pc + 1) lv (vl ((z : Nat) : Int) :: st) r m Q) : RR X d M n0 n' n pc lv st r m Q := by
  intro p R e s mm args below meth c H locs ls F G K E
  exact lv_lconst (v := Int64.ofInt ((z : Nat) : Int)) F.x F.b hdg rfl (k F G K E)
theorem r_ldc {z : Int} {ix : Nat} (hdg : decode M.2.1 pc = .ok (.ldc ix, 2)) (hw : Cond.constant M.1.cls ix (Int32.ofInt z) ∈ Tg) (k : RR X d M n0 n' n (pc + 2) lv (vi z :: st) r m Q) : RR X d M n0 n' n pc lv st r m Q := by
  intro p R e s mm args below meth c H locs ls F G K E
  exact lv_ldc F.x F.b F.o (F.t _ hw) hdg (k F G K E)
theorem r_ldcw {z : Int} {ix : Nat} (hdg : decode M.2.1 pc = .ok (.ldc_w ix, 3)) (hw : Cond.constant M.1.cls ix (Int32.ofInt z) ∈ Tg) (k : RR X d M n0 n' n (pc + 3) lv (vi z :: st) r m Q) : RR X d M n0 n' n pc lv st r m Q := by
  intro p R e s mm args below meth c H locs ls F G K E
  exact lv_ldcw F.x F.b F.o (F.t _ hw) hdg (k F G K E)
theorem r_ldc2 {z : Int} {ix : Nat} (hdg : decode M.2.1 pc = .ok (.ldc2_w ix, 3)) (hw : Cond.constantLong M.1.cls ix (Int64.ofInt z) ∈ Tg) (k : RR X d M n0 n' n (pc + 3) lv (vl z :: st) r m Q) : RR X d M n0 n' n pc lv st r m Q := by
  intro p R e s mm args below meth c H locs ls F G K E
  exact lv_ldc2 F.x F.b F.o (F.t _ hw) hdg (k F G K E)
theorem kz_at {ls : Array Slot} {nL : Nat} {lv : List (Nat × AV)} {i : Nat} {v : AV} (h : lv_has ls nL (lvV X lv)) (j : Nat) (hk : lv[j]? = some (i, v)) : ls[i]? = some (.val (cv X v)) :=
  h.2.2 (i, cv X v) (List.mem_map.mpr ⟨(i, v), List.mem_of_getElem? hk, rfl⟩)
theorem r_iload_n {q : Fin 4} {z : Int} (i j : Nat) (hk : lv[j]? = some (i, vi z)) (hdg : decode M.2.1 pc = .ok (.iload_n q, 1)) (hi : (q : Nat) = i) (k : RR X d M n0 n' n (pc + 1) lv (vi z :: st) r m Q) : RR X d M n0 n' n pc lv st r m Q := by
  intro p R e s mm args below meth c H locs ls F G K E
  exact lv_iload_n F.x F.b hdg hi (kz_at K.2.2 j hk) (k F G K E)
theorem r_iload {z : Int} (i j : Nat) (hk : lv[j]? = some (i, vi z)) (hdg : decode M.2.1 pc = .ok (.iload i, 2)) (k : RR X d M n0 n' n (pc + 2) lv (vi z :: st) r m Q) : RR X d M n0 n' n pc lv st r m Q := by
  intro p R e s mm args below meth c H locs ls F G K E
  exact lv_iload F.x F.b hdg (kz_at K.2.2 j hk) (k F G K E)
theorem r_lload_n {q : Fin 4} {z : Int} (i j : Nat) (hk : lv[j]? = some (i, vl z)) (hdg : decode M.2.1 pc = .ok (.lload_n q, 1)) (hi : (q : Nat) = i) (k : RR X d M n0 n' n (pc + 1) lv (vl z :: st) r m Q) : RR X d M n0 n' n pc lv st r m Q := by
  intro p R e s mm args below meth c H locs ls F G K E
  exact lv_lload_n F.x F.b hdg hi (kz_at K.2.2 j hk) (k F G K E)
theorem r_lload {z : Int} (i j : Nat) (hk : lv[j]? = some (i, vl z)) (hdg : decode M.2.1 pc = .ok (.lload i, 2)) (k : RR X d M n0 n' n (pc + 2) lv (vl z :: st) r m Q) : RR X d M n0 n' n pc lv st r m Q := by
  intro p R e s mm args below meth c H locs ls F G K E
  exact lv_lload F.x F.b hdg (kz_at K.2.2 j hk) (k F G K E)
theorem r_aload_n {q : Fin 4} {z : Int} (i j : Nat) (hk : lv[j]? = some (i, vr z)) (hdg : decode M.2.1 pc = .ok (.aload_n q, 1)) (hi : (q : Nat) = i) (k : RR X d M n0 n' n (pc + 1) lv (vr z :: st) r m Q) : RR X d M n0 n' n pc lv st r m Q := by
  intro p R e s mm args below meth c H locs ls F G K E
  exact lv_aload_n F.x F.b hdg hi (kz_at K.2.2 j hk) (k F G K E)
theorem r_aload {z : Int} (i j : Nat) (hk : lv[j]? = some (i, vr z)) (hdg : decode M.2.1 pc = .ok (.aload i, 2)) (k : RR X d M n0 n' n (pc + 2) lv (vr z :: st) r m Q) : RR X d M n0 n' n pc lv st r m Q := by
  intro p R e s mm args below meth c H locs ls F G K E
  exact lv_aload F.x F.b hdg (kz_at K.2.2 j hk) (k F G K E)
def lvS1 (i : Nat) (v : AV) (lv : List (Nat × AV)) : List (Nat × AV) := (i, v) :: lv.filter (fun q => !(q.1 == i) && !(q.1 + 1 == i && q.2.1 == 1))
def lvS2 (i : Nat) (v : AV) (lv : List (Nat × AV)) : List (Nat × AV) := (i, v) :: lv.filter (fun q => !(q.1 == i) && (!(q.1 == i + 1) && !(q.1 + 1 == i && q.2.1 == 1)))
theorem cv_cat (X : Cx) (v : AV) : ((cv X v).category == 2) = (v.1 == 1) := by
  obtain ⟨t, z⟩ := v
  match t with
  | 0 => rfl
  | 1 => rfl
  | t + 2 => rfl
theorem lvV_S1 (X : Cx) (i : Nat) (v : AV) (lv : List (Nat × AV)) : (i, cv X v) :: (lvV X lv).filter (fun q => !(q.1 == i) && !(q.1 + 1 == i && q.2.category == 2)) = lvV X (lvS1 i v lv) := by
  unfold lvV lvS1
  rw [List.map_cons, List.filter_map]
  congr 2
  apply List.filter_congr
  intro q _
  simp only [Function.comp, cv_cat]
theorem lvV_S2 (X : Cx) (i : Nat) (v : AV) (lv : List (Nat × AV)) : (i, cv X v) :: (lvV X lv).filter (fun q => !(q.1 == i) && (!(q.1 == i + 1) && !(q.1 + 1 == i && q.2.category == 2))) = lvV X (lvS2 i v lv) := by
  unfold lvV lvS2
  rw [List.map_cons, List.filter_map]
  congr 2
  apply List.filter_congr
  intro q _
  simp only [Function.comp, cv_cat]
theorem r_sub (js : List Nat) {lv' : List (Nat × AV)} (hl : js.filterMap (fun j => lv[j]?) = lv') (k : RR X d M n0 n' n pc lv' st r m Q) : RR X d M n0 n' n pc lv st r m Q := by
  intro p R e s mm args below meth c H locs ls F G K E
  refine k F G ⟨K.1, K.2.1, K.2.2.1, K.2.2.2.1, fun q hq => ?_⟩ E
  subst hl
  obtain ⟨q1, h1, rfl⟩ := List.mem_map.mp hq
  obtain ⟨j, -, h2⟩ := List.mem_filterMap.mp h1
  exact K.2.2.2.2 _ (List.mem_map.mpr ⟨q1, List.mem_of_getElem? h2, rfl⟩)
theorem r_istore_n {q : Fin 4} {z : Int} (i : Nat) (hn : i < M.2.2.1) (hdg : decode M.2.1 pc = .ok (.istore_n q, 1)) (hi : (q : Nat) = i) (k : RR X d M n0 n' n (pc + 1) (lvS1 i (vi z) lv) st r m Q) : RR X d M n0 n' n pc lv (vi z :: st) r m Q := by
  intro p R e s mm args below meth c H locs ls F G K E
  exact lv_istore_n F.x F.b hdg hi K.2.2 hn (lvV_S1 X i (vi z) lv) fun ls' h => k F G ⟨K.1, K.2.1, h⟩ E
theorem r_istore {z : Int} (i : Nat) (hn : i < M.2.2.1) (hdg : decode M.2.1 pc = .ok (.istore i, 2)) (k : RR X d M n0 n' n (pc + 2) (lvS1 i (vi z) lv) st r m Q) : RR X d M n0 n' n pc lv (vi z :: st) r m Q := by
  intro p R e s mm args below meth c H locs ls F G K E
  exact lv_istore F.x F.b hdg K.2.2 hn (lvV_S1 X i (vi z) lv) fun ls' h => k F G ⟨K.1, K.2.1, h⟩ E
theorem r_lstore_n {q : Fin 4} {z : Int} (i : Nat) (hn : i + 1 < M.2.2.1) (hdg : decode M.2.1 pc = .ok (.lstore_n q, 1)) (hi : (q : Nat) = i) (k : RR X d M n0 n' n (pc + 1) (lvS2 i (vl z) lv) st r m Q) : RR X d M n0 n' n pc lv (vl z :: st) r m Q := by
  intro p R e s mm args below meth c H locs ls F G K E
  exact lv_lstore_n F.x F.b hdg hi K.2.2 hn (lvV_S2 X i (vl z) lv) fun ls' h => k F G ⟨K.1, K.2.1, h⟩ E
theorem r_lstore {z : Int} (i : Nat) (hn : i + 1 < M.2.2.1) (hdg : decode M.2.1 pc = .ok (.lstore i, 2)) (k : RR X d M n0 n' n (pc + 2) (lvS2 i (vl z) lv) st r m Q) : RR X d M n0 n' n pc lv (vl z :: st) r m Q := by
  intro p R e s mm args below meth c H locs ls F G K E
  exact lv_lstore F.x F.b hdg K.2.2 hn (lvV_S2 X i (vl z) lv) fun ls' h => k F G ⟨K.1, K.2.1, h⟩ E
theorem r_astore_n {q : Fin 4} {z : Int} (i : Nat) (hn : i < M.2.2.1) (hdg : decode M.2.1 pc = .ok (.astore_n q, 1)) (hi : (q : Nat) = i) (k : RR X d M n0 n' n (pc + 1) (lvS1 i (vr z) lv) st r m Q) : RR X d M n0 n' n pc lv (vr z :: st) r m Q := by
  intro p R e s mm args below meth c H locs ls F G K E
  exact lv_astore_n F.x F.b hdg hi K.2.2 hn (lvV_S1 X i (vr z) lv) fun ls' h => k F G ⟨K.1, K.2.1, h⟩ E
theorem r_astore {z : Int} (i : Nat) (hn : i < M.2.2.1) (hdg : decode M.2.1 pc = .ok (.astore i, 2)) (k : RR X d M n0 n' n (pc + 2) (lvS1 i (vr z) lv) st r m Q) : RR X d M n0 n' n pc lv (vr z :: st) r m Q := by
  intro p R e s mm args below meth c H locs ls F G K E
  exact lv_astore F.x F.b hdg K.2.2 hn (lvV_S1 X i (vr z) lv) fun ls' h => k F G ⟨K.1, K.2.1, h⟩ E
theorem r_iinc {z y : Int} (i j : Nat) (hk : lv[j]? = some (i, vi z)) (hn : i < M.2.2.1) (hdg : decode M.2.1 pc = .ok (.iinc i y, 3)) (k : RR X d M n0 n' n (pc + 3) (lvS1 i (vi (z + y)) lv) st r m Q) : RR X d M n0 n' n pc lv st r m Q := by
  intro p R e s mm args below meth c H locs ls F G K E
  refine lv_iinc (v := Int32.ofInt (z + y)) (k := j) F.x F.b hdg K.2.2 ?_ (Int32.ofInt_add z y).symm hn (lvV_S1 X i (vi (z + y)) lv) fun ls' h => k F G ⟨K.1, K.2.1, h⟩ E
  unfold lvV
  rw [List.getElem?_map, hk]
  rfl
theorem r_iadd {a b : Int} (hdg : decode M.2.1 pc = .ok (.iadd, 1)) (k : RR X d M n0 n' n (pc + 1) lv (vi (a + b) :: st) r m Q) : RR X d M n0 n' n pc lv (vi b :: vi a :: st) r m Q := by
  intro p R e s mm args below meth c H locs ls F G K E
  have k := k (e := e) (below := below) F G K E
  refine lv_iadd F.x F.b hdg ?_
  rw [← Int32.ofInt_add]
  exact k
theorem r_isub {a b : Int} (hdg : decode M.2.1 pc = .ok (.isub, 1)) (k : RR X d M n0 n' n (pc + 1) lv (vi (a - b) :: st) r m Q) : RR X d M n0 n' n pc lv (vi b :: vi a :: st) r m Q := by
  intro p R e s mm args below meth c H locs ls F G K E
  have k := k (e := e) (below := below) F G K E
  refine lv_isub F.x F.b hdg ?_
  rw [← Int32.ofInt_sub]
  exact k
theorem r_imul {a b : Int} (hdg : decode M.2.1 pc = .ok (.imul, 1)) (k : RR X d M n0 n' n (pc + 1) lv (vi (a * b) :: st) r m Q) : RR X d M n0 n' n pc lv (vi b :: vi a :: st) r m Q := by
  intro p R e s mm args below meth c H locs ls F G K E
  have k := k (e := e) (below := below) F G K E
  refine lv_imul F.x F.b hdg ?_
  rw [← Int32.ofInt_mul]
  exact k
theorem r_ladd {a b : Int} (hdg : decode M.2.1 pc = .ok (.ladd, 1)) (k : RR X d M n0 n' n (pc + 1) lv (vl (a + b) :: st) r m Q) : RR X d M n0 n' n pc lv (vl b :: vl a :: st) r m Q := by
  intro p R e s mm args below meth c H locs ls F G K E
  have k := k (e := e) (below := below) F G K E
  refine lv_ladd F.x F.b hdg ?_
  rw [← Int64.ofInt_add]
  exact k
theorem r_lsub {a b : Int} (hdg : decode M.2.1 pc = .ok (.lsub, 1)) (k : RR X d M n0 n' n (pc + 1) lv (vl (a - b) :: st) r m Q) : RR X d M n0 n' n pc lv (vl b :: vl a :: st) r m Q := by
  intro p R e s mm args below meth c H locs ls F G K E
  have k := k (e := e) (below := below) F G K E
  refine lv_lsub F.x F.b hdg ?_
  rw [← Int64.ofInt_sub]
  exact k
theorem r_lmul {a b : Int} (hdg : decode M.2.1 pc = .ok (.lmul, 1)) (k : RR X d M n0 n' n (pc + 1) lv (vl (a * b) :: st) r m Q) : RR X d M n0 n' n pc lv (vl b :: vl a :: st) r m Q := by
  intro p R e s mm args below meth c H locs ls F G K E
  have k := k (e := e) (below := below) F G K E
  refine lv_lmul F.x F.b hdg ?_
  rw [← Int64.ofInt_mul]
  exact k
theorem r_iand {a b : Int} (hdg : decode M.2.1 pc = .ok (.iand, 1)) (k : RR X d M n0 n' n (pc + 1) lv (vi (zand a b) :: st) r m Q) : RR X d M n0 n' n pc lv (vi b :: vi a :: st) r m Q := by
  intro p R e s mm args below meth c H locs ls F G K E
  have k := k (e := e) (below := below) F G K E
  refine lv_iand F.x F.b hdg ?_
  rw [show Int32.ofInt a &&& Int32.ofInt b = Int32.ofInt (zand a b) from (i32_rt _).symm]
  exact k
theorem r_ior {a b : Int} (hdg : decode M.2.1 pc = .ok (.ior, 1)) (k : RR X d M n0 n' n (pc + 1) lv (vi (zor a b) :: st) r m Q) : RR X d M n0 n' n pc lv (vi b :: vi a :: st) r m Q := by
  intro p R e s mm args below meth c H locs ls F G K E
  have k := k (e := e) (below := below) F G K E
  refine lv_ior F.x F.b hdg ?_
  rw [show Int32.ofInt a ||| Int32.ofInt b = Int32.ofInt (zor a b) from (i32_rt _).symm]
  exact k
theorem r_ixor {a b : Int} (hdg : decode M.2.1 pc = .ok (.ixor, 1)) (k : RR X d M n0 n' n (pc + 1) lv (vi (zxor a b) :: st) r m Q) : RR X d M n0 n' n pc lv (vi b :: vi a :: st) r m Q := by
  intro p R e s mm args below meth c H locs ls F G K E
  have k := k (e := e) (below := below) F G K E
  refine lv_ixor F.x F.b hdg ?_
  rw [show Int32.ofInt a ^^^ Int32.ofInt b = Int32.ofInt (zxor a b) from (i32_rt _).symm]
  exact k
theorem r_ishl {a b : Int} (hdg : decode M.2.1 pc = .ok (.ishl, 1)) (k : RR X d M n0 n' n (pc + 1) lv (vi (zshl a b) :: st) r m Q) : RR X d M n0 n' n pc lv (vi b :: vi a :: st) r m Q := by
  intro p R e s mm args below meth c H locs ls F G K E
  have k := k (e := e) (below := below) F G K E
  refine lv_ishl F.x F.b hdg ?_
  rw [show Int32.ofInt a <<< (Int32.ofInt b &&& 31) = Int32.ofInt (zshl a b) from (i32_rt _).symm]
  exact k
theorem r_ishr {a b : Int} (hdg : decode M.2.1 pc = .ok (.ishr, 1)) (k : RR X d M n0 n' n (pc + 1) lv (vi (zshr a b) :: st) r m Q) : RR X d M n0 n' n pc lv (vi b :: vi a :: st) r m Q := by
  intro p R e s mm args below meth c H locs ls F G K E
  have k := k (e := e) (below := below) F G K E
  refine lv_ishr F.x F.b hdg ?_
  rw [show Int32.ofInt a >>> (Int32.ofInt b &&& 31) = Int32.ofInt (zshr a b) from (i32_rt _).symm]
  exact k
theorem kz_ne0 {b : Int} (h : ¬ w32 b = 0) : ¬ Int32.ofInt b = 0 := fun e => h (by rw [← i32_w, e]; rfl)
theorem kz_ne0l {b : Int} (h : ¬ w64 b = 0) : ¬ Int64.ofInt b = 0 := fun e => h (by rw [← i64_w, e]; rfl)
theorem r_idiv {a b : Int} (hb : ¬ w32 b = 0) (hdg : decode M.2.1 pc = .ok (.idiv, 1)) (k : RR X d M n0 n' n (pc + 1) lv (vi (zdiv a b) :: st) r m Q) : RR X d M n0 n' n pc lv (vi b :: vi a :: st) r m Q := by
  intro p R e s mm args below meth c H locs ls F G K E
  have k := k (e := e) (below := below) F G K E
  refine lv_idiv F.x F.b hdg (kz_ne0 hb) ?_
  rw [show Int32.ofInt a / Int32.ofInt b = Int32.ofInt (zdiv a b) from (i32_rt _).symm]
  exact k
theorem r_irem {a b : Int} (hb : ¬ w32 b = 0) (hdg : decode M.2.1 pc = .ok (.irem, 1)) (k : RR X d M n0 n' n (pc + 1) lv (vi (zrem a b) :: st) r m Q) : RR X d M n0 n' n pc lv (vi b :: vi a :: st) r m Q := by
  intro p R e s mm args below meth c H locs ls F G K E
  have k := k (e := e) (below := below) F G K E
  refine lv_irem F.x F.b hdg (kz_ne0 hb) ?_
  rw [show Int32.ofInt a - Int32.ofInt a / Int32.ofInt b * Int32.ofInt b = Int32.ofInt (zrem a b) from (i32_rt _).symm]
  exact k
theorem r_ldiv {a b : Int} (hb : ¬ w64 b = 0) (hdg : decode M.2.1 pc = .ok (.ldiv, 1)) (k : RR X d M n0 n' n (pc + 1) lv (vl (zldiv a b) :: st) r m Q) : RR X d M n0 n' n pc lv (vl b :: vl a :: st) r m Q := by
  intro p R e s mm args below meth c H locs ls F G K E
  have k := k (e := e) (below := below) F G K E
  refine lv_ldiv F.x F.b hdg (kz_ne0l hb) ?_
  rw [show Int64.ofInt a / Int64.ofInt b = Int64.ofInt (zldiv a b) from (i64_rt _).symm]
  exact k
theorem r_lrem {a b : Int} (hb : ¬ w64 b = 0) (hdg : decode M.2.1 pc = .ok (.lrem, 1)) (k : RR X d M n0 n' n (pc + 1) lv (vl (zlrem a b) :: st) r m Q) : RR X d M n0 n' n pc lv (vl b :: vl a :: st) r m Q := by
  intro p R e s mm args below meth c H locs ls F G K E
  have k := k (e := e) (below := below) F G K E
  refine lv_lrem F.x F.b hdg (kz_ne0l hb) ?_
  rw [show Int64.ofInt a - Int64.ofInt a / Int64.ofInt b * Int64.ofInt b = Int64.ofInt (zlrem a b) from (i64_rt _).symm]
  exact k
theorem r_land {a b : Int} (hdg : decode M.2.1 pc = .ok (.land, 1)) (k : RR X d M n0 n' n (pc + 1) lv (vl (zland a b) :: st) r m Q) : RR X d M n0 n' n pc lv (vl b :: vl a :: st) r m Q := by
  intro p R e s mm args below meth c H locs ls F G K E
  have k := k (e := e) (below := below) F G K E
  refine lv_land F.x F.b hdg ?_
  rw [show Int64.ofInt a &&& Int64.ofInt b = Int64.ofInt (zland a b) from (i64_rt _).symm]
  exact k
theorem r_lor {a b : Int} (hdg : decode M.2.1 pc = .ok (.lor, 1)) (k : RR X d M n0 n' n (pc + 1) lv (vl (zlor a b) :: st) r m Q) : RR X d M n0 n' n pc lv (vl b :: vl a :: st) r m Q := by
  intro p R e s mm args below meth c H locs ls F G K E
  have k := k (e := e) (below := below) F G K E
  refine lv_lor F.x F.b hdg ?_
  rw [show Int64.ofInt a ||| Int64.ofInt b = Int64.ofInt (zlor a b) from (i64_rt _).symm]
  exact k
theorem r_iushr {a b : Int} (hdg : decode M.2.1 pc = .ok (.iushr, 1)) (k : RR X d M n0 n' n (pc + 1) lv (vi (zushr a b) :: st) r m Q) : RR X d M n0 n' n pc lv (vi b :: vi a :: st) r m Q := by
  intro p R e s mm args below meth c H locs ls F G K E
  exact lv_iushr (v := Int32.ofInt (zushr a b)) F.x F.b hdg (i32_rt _).symm (k F G K E)
theorem r_lshl {a b : Int} (hdg : decode M.2.1 pc = .ok (.lshl, 1)) (k : RR X d M n0 n' n (pc + 1) lv (vl (zlshl a b) :: st) r m Q) : RR X d M n0 n' n pc lv (vi b :: vl a :: st) r m Q := by
  intro p R e s mm args below meth c H locs ls F G K E
  exact lv_lshl (v := Int64.ofInt (zlshl a b)) F.x F.b hdg (i64_rt _).symm (k F G K E)
theorem r_ineg {a : Int} (hdg : decode M.2.1 pc = .ok (.ineg, 1)) (k : RR X d M n0 n' n (pc + 1) lv (vi (-a) :: st) r m Q) : RR X d M n0 n' n pc lv (vi a :: st) r m Q := by
  intro p R e s mm args below meth c H locs ls F G K E
  have k := k (e := e) (below := below) F G K E
  refine lv_ineg F.x F.b hdg ?_
  rw [← Int32.ofInt_neg]
  exact k
theorem r_i2l {a : Int} (hdg : decode M.2.1 pc = .ok (.i2l, 1)) (k : RR X d M n0 n' n (pc + 1) lv (vl (w32 a) :: st) r m Q) : RR X d M n0 n' n pc lv (vi a :: st) r m Q := by
  intro p R e s mm args below meth c H locs ls F G K E
  refine lv_i2l (v := Int64.ofInt (w32 a)) F.x F.b hdg ?_ (k F G K E)
  apply Int64.toInt_inj.mp
  rw [i64_w, Int32.toInt_toInt64, i32_w]
  simp only [w64, w32, Int.bmod]
  (repeat' split) <;> omega
theorem r_l2i {a : Int} (hdg : decode M.2.1 pc = .ok (.l2i, 1)) (k : RR X d M n0 n' n (pc + 1) lv (vi a :: st) r m Q) : RR X d M n0 n' n pc lv (vl a :: st) r m Q := by
  intro p R e s mm args below meth c H locs ls F G K E
  refine lv_l2i (v := Int32.ofInt a) F.x F.b hdg ?_ (k F G K E)
  apply Int32.toInt_inj.mp
  rw [i32_w, Int64.toInt_toInt32, i64_w]
  simp only [w64, w32, Int.bmod]
  (repeat' split) <;> omega
theorem r_i2b {a : Int} (hdg : decode M.2.1 pc = .ok (.i2b, 1)) (k : RR X d M n0 n' n (pc + 1) lv (vi (w8 a) :: st) r m Q) : RR X d M n0 n' n pc lv (vi a :: st) r m Q := by
  intro p R e s mm args below meth c H locs ls F G K E
  refine lv_i2b (v := Int32.ofInt (w8 a)) F.x F.b hdg ?_ (k F G K E)
  apply Int32.toInt_inj.mp
  rw [i32_w, Int8.toInt_toInt32, Int32.toInt_toInt8, i32_w]
  simp only [w8, w32, Int.bmod]
  (repeat' split) <;> omega
theorem r_i2s {a : Int} (hdg : decode M.2.1 pc = .ok (.i2s, 1)) (k : RR X d M n0 n' n (pc + 1) lv (vi (w16 a) :: st) r m Q) : RR X d M n0 n' n pc lv (vi a :: st) r m Q := by
  intro p R e s mm args below meth c H locs ls F G K E
  refine lv_i2s (v := Int32.ofInt (w16 a)) F.x F.b hdg ?_ (k F G K E)
  apply Int32.toInt_inj.mp
  rw [i32_w, Int16.toInt_toInt32, Int32.toInt_toInt16, i32_w]
  simp only [w16, w32, Int.bmod]
  (repeat' split) <;> omega
theorem cv_1 (X : Cx) {v : AV} (h : ¬ v.1 = 1) : (cv X v).category = 1 := by
  obtain ⟨t, z⟩ := v
  match t, h with
  | 0, _ => rfl
  | 1, h => exact absurd rfl h
  | t + 2, _ => rfl
theorem cv_2 (X : Cx) {v : AV} (h : v.1 = 1) : (cv X v).category = 2 := by
  obtain ⟨t, z⟩ := v
  subst h
  rfl
theorem r_dup {v : AV} (hv : ¬ v.1 = 1) (hdg : decode M.2.1 pc = .ok (.dup, 1)) (k : RR X d M n0 n' n (pc + 1) lv (v :: v :: st) r m Q) : RR X d M n0 n' n pc lv (v :: st) r m Q := by
  intro p R e s mm args below meth c H locs ls F G K E
  exact lv_dup F.x F.b hdg (cv_1 X hv) (k F G K E)
theorem r_pop {v : AV} (hv : ¬ v.1 = 1) (hdg : decode M.2.1 pc = .ok (.pop, 1)) (k : RR X d M n0 n' n (pc + 1) lv st r m Q) : RR X d M n0 n' n pc lv (v :: st) r m Q := by
  intro p R e s mm args below meth c H locs ls F G K E
  exact lv_pop F.x F.b hdg (cv_1 X hv) (k F G K E)
theorem r_dup2 {v w : AV} (hv : ¬ v.1 = 1) (hw : ¬ w.1 = 1) (hdg : decode M.2.1 pc = .ok (.dup2, 1)) (k : RR X d M n0 n' n (pc + 1) lv (v :: w :: v :: w :: st) r m Q) : RR X d M n0 n' n pc lv (v :: w :: st) r m Q := by
  intro p R e s mm args below meth c H locs ls F G K E
  exact lv_dup2_11 F.x F.b hdg (cv_1 X hv) (cv_1 X hw) (k F G K E)
theorem r_dup2l {v : AV} (hv : v.1 = 1) (hdg : decode M.2.1 pc = .ok (.dup2, 1)) (k : RR X d M n0 n' n (pc + 1) lv (v :: v :: st) r m Q) : RR X d M n0 n' n pc lv (v :: st) r m Q := by
  intro p R e s mm args below meth c H locs ls F G K E
  exact lv_dup2_2 F.x F.b hdg (cv_2 X hv) (k F G K E)
theorem r_goto {off : Int} {tgt : Nat} (hdg : decode M.2.1 pc = .ok (.goto off, 3)) (ht : (pc : Int) + off = (tgt : Int)) (k : RR X d M n0 n' n tgt lv st r m Q) : RR X d M n0 n' n pc lv st r m Q := by
  intro p R e s mm args below meth c H locs ls F G K E
  exact lv_goto F.x F.b hdg ht (k F G K E)
theorem kz_eq {a b : Int} : Int32.ofInt a = Int32.ofInt b ↔ w32 a = w32 b := by rw [← Int32.toInt_inj, i32_w, i32_w]
theorem kz_lt {a b : Int} : Int32.ofInt a < Int32.ofInt b ↔ w32 a < w32 b := by rw [Int32.lt_iff_toInt_lt, i32_w, i32_w]
theorem kz_le {a b : Int} : Int32.ofInt a ≤ Int32.ofInt b ↔ w32 a ≤ w32 b := by rw [Int32.le_iff_toInt_le, i32_w, i32_w]
theorem kz_0 : (0 : Int32) = Int32.ofInt 0 := rfl
theorem w32_0 : w32 0 = 0 := rfl
theorem kz_eq0 {a : Int} : Int32.ofInt a = 0 ↔ w32 a = 0 := by rw [kz_0, kz_eq, w32_0]
theorem kz_lt0 {a : Int} : Int32.ofInt a < 0 ↔ w32 a < 0 := by rw [kz_0, kz_lt, w32_0]
theorem kz_le0 {a : Int} : Int32.ofInt a ≤ 0 ↔ w32 a ≤ 0 := by rw [kz_0, kz_le, w32_0]
theorem kz_gt0 {a : Int} : 0 < Int32.ofInt a ↔ 0 < w32 a := by rw [kz_0, kz_lt, w32_0]
theorem kz_ge0 {a : Int} : 0 ≤ Int32.ofInt a ↔ 0 ≤ w32 a := by rw [kz_0, kz_le, w32_0]
theorem kz_eql {a b : Int} : Int64.ofInt a = Int64.ofInt b ↔ w64 a = w64 b := by rw [← Int64.toInt_inj, i64_w, i64_w]
theorem kz_ltl {a b : Int} : Int64.ofInt a < Int64.ofInt b ↔ w64 a < w64 b := by rw [Int64.lt_iff_toInt_lt, i64_w, i64_w]
def lcmpz (a b : Int) : Int := (lg_cmp (Int64.ofInt a) (Int64.ofInt b)).toInt
theorem r_lcmp {a b : Int} (hdg : decode M.2.1 pc = .ok (.lcmp, 1)) (k : RR X d M n0 n' n (pc + 1) lv (vi (lcmpz a b) :: st) r m Q) : RR X d M n0 n' n pc lv (vl b :: vl a :: st) r m Q := by
  intro p R e s mm args below meth c H locs ls F G K E
  have k := k (e := e) (below := below) F G K E
  refine W.lcmp F.x F.b hdg ?_
  rw [show lg_cmp (Int64.ofInt a) (Int64.ofInt b) = Int32.ofInt (lcmpz a b) from (i32_rt _).symm]
  exact k
-- eq
theorem r_if_eq {a : Int} {off : Int} {tgt : Nat} (hdg : decode M.2.1 pc = .ok (.ifCond .eq off, 3)) (ht : (pc : Int) + off = (tgt : Int)) (kt : w32 a = 0 → RR X d M n0 n' n tgt lv st r m Q) (kf : ¬ (w32 a = 0) → RR X d M n0 n' n (pc + 3) lv st r m Q) : RR X d M n0 n' n pc lv (vi a :: st) r m Q := by
  intro p R e s mm args below meth c H locs ls F G K E
  refine lv_if_eq F.x F.b hdg ht (fun h => kt ?_ F G K E) (fun h => kf ?_ F G K E)
  · simpa [kz_eq0, kz_lt0, kz_le0, kz_gt0, kz_ge0, GT.gt, GE.ge] using h
  · simpa [kz_eq0, kz_lt0, kz_le0, kz_gt0, kz_ge0, GT.gt, GE.ge] using h
theorem r_ifc_eq {a b : Int} {off : Int} {tgt : Nat} (hdg : decode M.2.1 pc = .ok (.if_icmp .eq off, 3)) (ht : (pc : Int) + off = (tgt : Int)) (kt : w32 a = w32 b → RR X d M n0 n' n tgt lv st r m Q) (kf : ¬ (w32 a = w32 b) → RR X d M n0 n' n (pc + 3) lv st r m Q) : RR X d M n0 n' n pc lv (vi b :: vi a :: st) r m Q := by
  intro p R e s mm args below meth c H locs ls F G K E
  refine lv_icmp_eq F.x F.b hdg ht (fun h => kt ?_ F G K E) (fun h => kf ?_ F G K E)
  · simpa [kz_eq, kz_lt, kz_le, GT.gt, GE.ge] using h
  · simpa [kz_eq, kz_lt, kz_le, GT.gt, GE.ge] using h
-- ne
theorem r_if_ne {a : Int} {off : Int} {tgt : Nat} (hdg : decode M.2.1 pc = .ok (.ifCond .ne off, 3)) (ht : (pc : Int) + off = (tgt : Int)) (kt : ¬ w32 a = 0 → RR X d M n0 n' n tgt lv st r m Q) (kf : ¬ (¬ w32 a = 0) → RR X d M n0 n' n (pc + 3) lv st r m Q) : RR X d M n0 n' n pc lv (vi a :: st) r m Q := by
  intro p R e s mm args below meth c H locs ls F G K E
  refine lv_if_ne F.x F.b hdg ht (fun h => kt ?_ F G K E) (fun h => kf ?_ F G K E)
  · simpa [kz_eq0, kz_lt0, kz_le0, kz_gt0, kz_ge0, GT.gt, GE.ge] using h
  · simpa [kz_eq0, kz_lt0, kz_le0, kz_gt0, kz_ge0, GT.gt, GE.ge] using h
theorem r_ifc_ne {a b : Int} {off : Int} {tgt : Nat} (hdg : decode M.2.1 pc = .ok (.if_icmp .ne off, 3)) (ht : (pc : Int) + off = (tgt : Int)) (kt : ¬ w32 a = w32 b → RR X d M n0 n' n tgt lv st r m Q) (kf : ¬ (¬ w32 a = w32 b) → RR X d M n0 n' n (pc + 3) lv st r m Q) : RR X d M n0 n' n pc lv (vi b :: vi a :: st) r m Q := by
  intro p R e s mm args below meth c H locs ls F G K E
  refine lv_icmp_ne F.x F.b hdg ht (fun h => kt ?_ F G K E) (fun h => kf ?_ F G K E)
  · simpa [kz_eq, kz_lt, kz_le, GT.gt, GE.ge] using h
  · simpa [kz_eq, kz_lt, kz_le, GT.gt, GE.ge] using h
-- lt
theorem r_if_lt {a : Int} {off : Int} {tgt : Nat} (hdg : decode M.2.1 pc = .ok (.ifCond .lt off, 3)) (ht : (pc : Int) + off = (tgt : Int)) (kt : w32 a < 0 → RR X d M n0 n' n tgt lv st r m Q) (kf : ¬ (w32 a < 0) → RR X d M n0 n' n (pc + 3) lv st r m Q) : RR X d M n0 n' n pc lv (vi a :: st) r m Q := by
  intro p R e s mm args below meth c H locs ls F G K E
  refine lv_if_lt F.x F.b hdg ht (fun h => kt ?_ F G K E) (fun h => kf ?_ F G K E)
  · simpa [kz_eq0, kz_lt0, kz_le0, kz_gt0, kz_ge0, GT.gt, GE.ge] using h
  · simpa [kz_eq0, kz_lt0, kz_le0, kz_gt0, kz_ge0, GT.gt, GE.ge] using h
theorem r_ifc_lt {a b : Int} {off : Int} {tgt : Nat} (hdg : decode M.2.1 pc = .ok (.if_icmp .lt off, 3)) (ht : (pc : Int) + off = (tgt : Int)) (kt : w32 a < w32 b → RR X d M n0 n' n tgt lv st r m Q) (kf : ¬ (w32 a < w32 b) → RR X d M n0 n' n (pc + 3) lv st r m Q) : RR X d M n0 n' n pc lv (vi b :: vi a :: st) r m Q := by
  intro p R e s mm args below meth c H locs ls F G K E
  refine lv_icmp_lt F.x F.b hdg ht (fun h => kt ?_ F G K E) (fun h => kf ?_ F G K E)
  · simpa [kz_eq, kz_lt, kz_le, GT.gt, GE.ge] using h
  · simpa [kz_eq, kz_lt, kz_le, GT.gt, GE.ge] using h
-- ge
theorem r_if_ge {a : Int} {off : Int} {tgt : Nat} (hdg : decode M.2.1 pc = .ok (.ifCond .ge off, 3)) (ht : (pc : Int) + off = (tgt : Int)) (kt : 0 ≤ w32 a → RR X d M n0 n' n tgt lv st r m Q) (kf : ¬ (0 ≤ w32 a) → RR X d M n0 n' n (pc + 3) lv st r m Q) : RR X d M n0 n' n pc lv (vi a :: st) r m Q := by
  intro p R e s mm args below meth c H locs ls F G K E
  refine lv_if_ge F.x F.b hdg ht (fun h => kt ?_ F G K E) (fun h => kf ?_ F G K E)
  · simpa [kz_eq0, kz_lt0, kz_le0, kz_gt0, kz_ge0, GT.gt, GE.ge] using h
  · simpa [kz_eq0, kz_lt0, kz_le0, kz_gt0, kz_ge0, GT.gt, GE.ge] using h
theorem r_ifc_ge {a b : Int} {off : Int} {tgt : Nat} (hdg : decode M.2.1 pc = .ok (.if_icmp .ge off, 3)) (ht : (pc : Int) + off = (tgt : Int)) (kt : w32 b ≤ w32 a → RR X d M n0 n' n tgt lv st r m Q) (kf : ¬ (w32 b ≤ w32 a) → RR X d M n0 n' n (pc + 3) lv st r m Q) : RR X d M n0 n' n pc lv (vi b :: vi a :: st) r m Q := by
  intro p R e s mm args below meth c H locs ls F G K E
  refine lv_icmp_ge F.x F.b hdg ht (fun h => kt ?_ F G K E) (fun h => kf ?_ F G K E)
  · simpa [kz_eq, kz_lt, kz_le, GT.gt, GE.ge] using h
  · simpa [kz_eq, kz_lt, kz_le, GT.gt, GE.ge] using h
-- gt
theorem r_if_gt {a : Int} {off : Int} {tgt : Nat} (hdg : decode M.2.1 pc = .ok (.ifCond .gt off, 3)) (ht : (pc : Int) + off = (tgt : Int)) (kt : 0 < w32 a → RR X d M n0 n' n tgt lv st r m Q) (kf : ¬ (0 < w32 a) → RR X d M n0 n' n (pc + 3) lv st r m Q) : RR X d M n0 n' n pc lv (vi a :: st) r m Q := by
  intro p R e s mm args below meth c H locs ls F G K E
  refine lv_if_gt F.x F.b hdg ht (fun h => kt ?_ F G K E) (fun h => kf ?_ F G K E)
  · simpa [kz_eq0, kz_lt0, kz_le0, kz_gt0, kz_ge0, GT.gt, GE.ge] using h
  · simpa [kz_eq0, kz_lt0, kz_le0, kz_gt0, kz_ge0, GT.gt, GE.ge] using h
theorem r_ifc_gt {a b : Int} {off : Int} {tgt : Nat} (hdg : decode M.2.1 pc = .ok (.if_icmp .gt off, 3)) (ht : (pc : Int) + off = (tgt : Int)) (kt : w32 b < w32 a → RR X d M n0 n' n tgt lv st r m Q) (kf : ¬ (w32 b < w32 a) → RR X d M n0 n' n (pc + 3) lv st r m Q) : RR X d M n0 n' n pc lv (vi b :: vi a :: st) r m Q := by
  intro p R e s mm args below meth c H locs ls F G K E
  refine lv_icmp_gt F.x F.b hdg ht (fun h => kt ?_ F G K E) (fun h => kf ?_ F G K E)
  · simpa [kz_eq, kz_lt, kz_le, GT.gt, GE.ge] using h
  · simpa [kz_eq, kz_lt, kz_le, GT.gt, GE.ge] using h
-- le
theorem r_if_le {a : Int} {off : Int} {tgt : Nat} (hdg : decode M.2.1 pc = .ok (.ifCond .le off, 3)) (ht : (pc : Int) + off = (tgt : Int)) (kt : w32 a ≤ 0 → RR X d M n0 n' n tgt lv st r m Q) (kf : ¬ (w32 a ≤ 0) → RR X d M n0 n' n (pc + 3) lv st r m Q) : RR X d M n0 n' n pc lv (vi a :: st) r m Q := by
  intro p R e s mm args below meth c H locs ls F G K E
  refine lv_if_le F.x F.b hdg ht (fun h => kt ?_ F G K E) (fun h => kf ?_ F G K E)
  · simpa [kz_eq0, kz_lt0, kz_le0, kz_gt0, kz_ge0, GT.gt, GE.ge] using h
  · simpa [kz_eq0, kz_lt0, kz_le0, kz_gt0, kz_ge0, GT.gt, GE.ge] using h
theorem r_ifc_le {a b : Int} {off : Int} {tgt : Nat} (hdg : decode M.2.1 pc = .ok (.if_icmp .le off, 3)) (ht : (pc : Int) + off = (tgt : Int)) (kt : w32 a ≤ w32 b → RR X d M n0 n' n tgt lv st r m Q) (kf : ¬ (w32 a ≤ w32 b) → RR X d M n0 n' n (pc + 3) lv st r m Q) : RR X d M n0 n' n pc lv (vi b :: vi a :: st) r m Q := by
  intro p R e s mm args below meth c H locs ls F G K E
  refine lv_icmp_le F.x F.b hdg ht (fun h => kt ?_ F G K E) (fun h => kf ?_ F G K E)
  · simpa [kz_eq, kz_lt, kz_le, GT.gt, GE.ge] using h
  · simpa [kz_eq, kz_lt, kz_le, GT.gt, GE.ge] using h
end RW0
