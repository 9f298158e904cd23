/-! the layer: cells by number, values as (tag, Int), memory Int → Int → Int -/
abbrev AV : Type := Nat × Int
abbrev vi (z : Int) : AV := (0, z)
abbrev vl (z : Int) : AV := (1, z)
abbrev vr (z : Int) : AV := (2, z)
abbrev Mem : Type := Int → Int → Int
abbrev Cx : Type := Launch × (Nat → ClassId) × (Nat → Nat → Nat) × (FieldType → ClassId) × Nat × (Nat → Nat) × Nat × (Nat → Int)
abbrev xl (X : Cx) : Launch := X.1
abbrev xC (X : Cx) : Nat → ClassId := X.2.1
abbrev xI (X : Cx) : Nat → Nat → Nat := X.2.2.1
abbrev xA (X : Cx) : FieldType → ClassId := X.2.2.2.1
abbrev xB (X : Cx) : Nat := X.2.2.2.2.1
abbrev xE (X : Cx) : Nat → Nat := X.2.2.2.2.2.1
abbrev xN (X : Cx) : Nat := X.2.2.2.2.2.2.1
abbrev xS (X : Cx) : Nat → Int := X.2.2.2.2.2.2.2
def w32 (z : Int) : Int := z.bmod 4294967296
def w64 (z : Int) : Int := z.bmod 18446744073709551616
def w8 (z : Int) : Int := z.bmod 256
def w16 (z : Int) : Int := z.bmod 65536
def adr (X : Cx) (z : Int) : Nat := if z < 1000 then xB X + z.toNat else xE X (z - 1000).toNat
def cv (X : Cx) (v : AV) : Value := match v.1 with
  | 0 => .int (Int32.ofInt v.2)
  | 1 => .long (Int64.ofInt v.2)
  | _ => .ref (adr X v.2)
def rfv (X : Cx) (z : Int) : Value := if z = 0 then .null else .ref (adr X z)
def fldv (X : Cx) (ty : FieldType) (r z : Int) : Value := match ty with
  | .long => .long (Int64.ofInt z)
  | .object _ => rfv X r
  | .array _ => rfv X r
  | _ => .int (Int32.ofInt z)
def cellAt (X : Cx) (q : Kd) (k : Nat) (r m : Mem) (H : Heap) : Prop := match q with
  | .inl (ty, n) => H[xB X + k]? = some (arrV (xA X ty) n (fun j => fldv X ty (r (k : Int) (j : Int)) (m (k : Int) (j : Int))))
  | .inr ci => ∃ c : vw_C, clsT[ci]? = some c ∧ t_OB (xB X + k) (xC X ci) c.2.2 (xI X ci) H (fun j => fldv X (tyC ci j) (r (k : Int) (j : Int)) (m (k : Int) (j : Int)))
def Wd (X : Cx) (n : Nat) (r m : Mem) (H : Heap) : Prop := H.size = xB X + n + 1 ∧ ∀ (k : Nat) (q : Kd), 1 ≤ k → k ≤ n → tbl[k]? = some q → cellAt X q k r m H
def atys : List FieldType := [.int, .long, .byte, .short, .array .int, .array .long]
def KK (X : Cx) (s : State) : Prop := (∀ (ci : Nat) (q : vw_C), clsT[ci]? = some q → u_Kn s q.1 q.2.1 q.2.2 (xC X ci) (xI X ci)) ∧ ∀ ty, ty ∈ atys → ArrOfT s (xA X ty) ty ∧ s.vm.findClass ("[" ++ ty.toString) = some (xA X ty)
def Exs (X : Cx) (s : State) : Prop := (∀ (e : Nat) (q : kz_E), exts[e]? = some q → va_Z q.1 q.2.1 q.2.2.1 (.ref (xE X e)) (fun a => xB X < a) s s.heap ∧ va_T q.2.2.2.1 (xE X e) q.2.2.2.2.1 (fun j => .int (Int32.ofInt (q.2.2.2.2.2.getD j 0))) (fun a => xB X < a) s s.heap) ∧ va_T .int (xE X 7) (xN X) (fun j => .int (Int32.ofInt (xS X j))) (fun a => xB X < a) s s.heap
def kz_AO (ty : FieldType) (U : State) : Prop := (Cond.arrayOver (.array ty)).before #[] U = true
theorem kz_AOs {ty : FieldType} {s : State} (h : kz_AO ty s) :
    ∃ comp c k, s.vm.findClass (FieldType.array ty).toString = some comp ∧ (s.vm.classes.findIdx? fun x => match x.kind with | .array component _ => component == comp | _ => false) = some c ∧ s.vm.classes[c]? = some k ∧ k.kind = .array comp (.array ty) ∧
      s.vm.findClass ("[" ++ (FieldType.array ty).toString) = some c := by
  unfold kz_AO Cond.before at h
  simp only [Cond.holds, Cond.value, beq_iff_eq] at h
  cases hc : s.vm.findClass (FieldType.array ty).toString with
  | none => simp [hc] at h
  | some comp =>
    simp only [hc, Option.bind_some, Option.bind_eq_some_iff, Option.map_eq_some_iff] at h
    obtain ⟨c, hi, k, hk, hb⟩ := h
    obtain ⟨hlt, hp, -⟩ := Array.findIdx?_eq_some_iff_getElem.mp hi
    have hkk : s.vm.classes[c] = k := (Array.getElem?_eq_some_iff.mp hk).2
    rw [hkk] at hp
    cases hkind : k.kind with
    | array component ty =>
      rw [hkind] at hb hp
      simp at hb hp
      exact ⟨comp, c, k, rfl, hi, hk, by rw [hkind, hp, hb.1], hb.2⟩
    | _ => rw [hkind] at hb; simp at hb
theorem kz_AO.moved {ty : FieldType} {u U : State} (hvm : u.vm.Alike U.vm) (h : kz_AO ty u) : kz_AO ty U := by
  obtain ⟨comp, c, k, h1, h2, h3, h4, h5⟩ := kz_AOs h
  obtain ⟨k', hk', he⟩ := hvm.2.2 _ _ h3
  have hi : (U.vm.classes.findIdx? fun (x : Class) => match x.kind with | .array component _ => component == comp | _ => false) = some c := by
    have b1 := va_idx_bare U.vm comp
    have b2 := va_idx_bare u.vm comp
    first | rw [hvm.bare_eq] at b2 | rw [← hvm.bare_eq] at b2
    exact (b1.symm.trans b2).trans h2
  have hkind : k'.kind = .array comp (.array ty) := by rw [he]; exact h4
  have f1 : U.vm.findClass (FieldType.array ty).toString = some comp := by rw [hvm.findClass]; exact h1
  have f2 : U.vm.findClass ("[" ++ (FieldType.array ty).toString) = some c := by rw [hvm.findClass]; exact h5
  unfold kz_AO Cond.before Cond.holds
  simp only [Cond.value]
  rw [f1, Option.bind_some]
  refine (congrArg (fun o : Option Nat => (o.bind (fun c => (U.vm.classes[c]?).map fun (k : Class) => match k.kind with | .array _ t => decide (t = FieldType.array ty) && decide (U.vm.findClass ("[" ++ (FieldType.array ty).toString) = some c) | _ => false) == some true)) hi).trans ?_
  simp [hk', hkind, f2]
def Nst (s : State) : Prop := (∀ w ∈ nst, va_Nw w s) ∧ kz_AO .int s ∧ kz_AO .long s
def CtxS (X : Cx) (s : State) : Prop := KK X s ∧ Exs X s ∧ Nst s
theorem KK.moved {X : Cx} {u U : State} (hvm : u.vm.Alike U.vm) (h : KK X u) : KK X U :=
  ⟨fun ci q hq => u_Kn_moved hvm (h.1 ci q hq), fun ty ht => ⟨arrOfT_moved hvm (h.2 ty ht).1, by rw [hvm.findClass]; exact (h.2 ty ht).2⟩⟩
theorem Exs.moved {X : Cx} {s U : State} {H : Heap} {locs : List Loc} (hS : va_S (fun a => xB X < a) s.heap H locs) (hU : U.heap = H) (hvm : s.vm.Alike U.vm) (h : Exs X s) : Exs X U := by
  have hq : ∀ a : Nat, a < s.heap.size → ¬ (fun a => xB X < a) a → U.heap[a]? = s.heap[a]? := fun a h1 h2 => by rw [hU]; exact hS.2.1 a h1 h2
  exact ⟨fun e q he => ⟨((h.1 e q he).1.kept hq).moved hvm, ((h.1 e q he).2.kept hq).moved hvm⟩, (h.2.kept hq).moved hvm⟩
theorem Nst.moved {s U : State} (hW : s.WarmedH U.vm) (h : Nst s) : Nst U := by
  refine ⟨?_, h.2.1.moved hW.alike, h.2.2.moved hW.alike⟩
  intro w hw
  have h1 := h.1 w hw
  have h2 := (List.mem_filter.mp hw).2
  cases w with
  | fieldLinkNest a b c d e f => exact va_Nw.warmF hW h1
  | methodLinkNest a b c d => exact va_Nw.warmM hW h1
  | _ => exact absurd h2 (by simp [kz_nest])
theorem Nst.same {s U : State} (hW : s.vm = U.vm) (h : Nst s) : Nst U := by
  refine ⟨?_, h.2.1.moved (by rw [hW]; exact Vm.Alike.refl _), h.2.2.moved (by rw [hW]; exact Vm.Alike.refl _)⟩
  intro w hw
  have h1 := h.1 w hw
  have h2 := (List.mem_filter.mp hw).2
  cases w with
  | fieldLinkNest a b c d e f => exact va_Nw.same rfl hW h1
  | methodLinkNest a b c d => exact va_Nw.same rfl hW h1
  | _ => exact absurd h2 (by simp [kz_nest])
theorem CtxS.moved {X : Cx} {s U : State} {H : Heap} {locs : List Loc} (hS : va_S (fun a => xB X < a) s.heap H locs) (hU : U.heap = H) (hW : s.WarmedH U.vm) (h : CtxS X s) : CtxS X U :=
  ⟨h.1.moved hW.alike, h.2.1.moved hS hU hW.alike, h.2.2.moved hW⟩
abbrev Md : Type := MethodName × ByteArray × Nat × Option FieldType
def wsM (M : Md) : List Cond := .code M.1 M.2.1 M.2.2.1 M.2.2.2 :: Tg
def Fx (X : Cx) (M : Md) (n0 : Nat) (p : Program) (s : State) (mm : MethodId) (args : Array Value) (meth : Method) (c : Code) : Prop :=
  p.tables.exec = Jvm.exec ∧ c.code = M.2.1 ∧ meth.sig.returnType = M.2.2.2 ∧ c.maxLocals = M.2.2.1 ∧ s.vm.findClass M.1.cls = some mm.cls ∧ (∀ w ∈ Tg, w.before args s = true) ∧ meth.locks = false ∧ (M.1.name = "<init>" → meth.name = "<init>") ∧ CtxS X s ∧ s.heap.size = xB X + n0 + 1
section FXP
variable {X : Cx} {M : Md} {n0 : Nat} {p : Program} {s : State} {mm : MethodId} {args : Array Value} {meth : Method} {c : Code}
theorem Fx.x (h : Fx X M n0 p s mm args meth c) : p.tables.exec = Jvm.exec := h.1
theorem Fx.b (h : Fx X M n0 p s mm args meth c) : c.code = M.2.1 := h.2.1
theorem Fx.r (h : Fx X M n0 p s mm args meth c) : meth.sig.returnType = M.2.2.2 := h.2.2.1
theorem Fx.l (h : Fx X M n0 p s mm args meth c) : c.maxLocals = M.2.2.1 := h.2.2.2.1
theorem Fx.o (h : Fx X M n0 p s mm args meth c) : s.vm.findClass M.1.cls = some mm.cls := h.2.2.2.2.1
theorem Fx.t (h : Fx X M n0 p s mm args meth c) : ∀ w ∈ Tg, w.before args s = true := h.2.2.2.2.2.1
theorem Fx.k (h : Fx X M n0 p s mm args meth c) : meth.locks = false := h.2.2.2.2.2.2.1
theorem Fx.n (h : Fx X M n0 p s mm args meth c) : M.1.name = "<init>" → meth.name = "<init>" := h.2.2.2.2.2.2.2.1
theorem Fx.cx (h : Fx X M n0 p s mm args meth c) : CtxS X s := h.2.2.2.2.2.2.2.2.1
theorem Fx.z (h : Fx X M n0 p s mm args meth c) : s.heap.size = xB X + n0 + 1 := h.2.2.2.2.2.2.2.2.2
end FXP
def Rm (d n0 n' : Nat) (R : Room) : Prop := d ≤ R.frames ∧ 40 * d ≤ R.locals ∧ n' - n0 ≤ R.cells ∧ zs n' - zs n0 ≤ R.slots
def lvV (X : Cx) (lv : List (Nat × AV)) : List (Nat × Value) := lv.map (fun q => (q.1, cv X q.2))
def Hx (X : Cx) (M : Md) (n : Nat) (r m : Mem) (lv : List (Nat × AV)) (s : State) (H : Heap) (locs : List Loc) (ls : Array Slot) : Prop :=
  Wd X n r m H ∧ va_S (fun a => xB X < a) s.heap H locs ∧ lv_has ls M.2.2.1 (lvV X lv)
def retv (t : Option FieldType) (z : Int) : Option Value := match t with
  | none => none
  | some .long => some (.long (Int64.ofInt z))
  | some _ => some (.int (Int32.ofInt z))
def retl (t : Option FieldType) (z : Int) : List AV := match t with
  | none => []
  | some .long => [vl z]
  | some _ => [vi z]
theorem retl_cv (X : Cx) (t : Option FieldType) (z : Int) : (retl t z).map (cv X) = (retv t z).toList := by
  unfold retl retv
  split <;> rfl
def Qc (X : Cx) (M : Md) (n' : Nat) (Q : Int → Mem → Mem → Prop) : Array Value → State → Outcome → State → Prop := fun _ st o t =>
  (∃ (z : Int) (r m : Mem), o = .returned (retv M.2.2.2 z) ∧ Q z r m ∧ Wd X n' r m t.heap) ∧ ∀ q : Nat, q ≤ xB X → t.heap[q]? = st.heap[q]?
def Pc (X : Cx) (n0 : Nat) (as : List AV) (r m : Mem) : Array Value → State → Prop := fun a U => a = (as.map (cv X)).toArray ∧ Wd X n0 r m U.heap ∧ CtxS X U
def Mt (X : Cx) (d : Nat) (M : Md) (n0 n' : Nat) (as : List AV) (r m : Mem) (Q : Int → Mem → Mem → Prop) : Prop :=
  Met (xl X) M.1 (wsM M) { frames := d, cells := n' - n0, slots := zs n' - zs n0, locals := 40 * d } (Pc X n0 as r m) (Qc X M n' Q) (n' - n0) (zs n' - zs n0) (fun q => xB X < q)
def RR (X : Cx) (d : Nat) (M : Md) (n0 n' n : Nat) (pc : Nat) (lv : List (Nat × AV)) (st : List AV) (r m : Mem) (Q : Int → Mem → Mem → Prop) : Prop :=
  ∀ ⦃p : Program⦄ ⦃R : Room⦄ ⦃e : Env⦄ ⦃s : State⦄ ⦃mm : MethodId⦄ ⦃args : Array Value⦄ ⦃below : List Frame⦄ ⦃meth : Method⦄ ⦃c : Code⦄ ⦃H : Heap⦄ ⦃locs : List Loc⦄ ⦃ls : Array Slot⦄,
    Fx X M n0 p s mm args meth c → Rm d n0 n' R → Hx X M n r m lv s H locs ls → (n0 ≤ n ∧ n ≤ n') →
    W p (xl X) e R s mm args below meth c H locs (n - n0) (zs n - zs n0) (MQ below (Qc X M n' Q) args s (n' - n0) (zs n' - zs n0) (fun q => xB X < q)) (F0 mm pc ls (st.map (cv X)))
theorem zs_mono {a b : Nat} (h : a ≤ b) : zs a ≤ zs b := by
  unfold zs
  have hb : tbl.take (b + 1) = tbl.take (a + 1) ++ (tbl.drop (a + 1)).take (b - a) := by
    rw [← List.take_add]
    congr 1
    omega
  rw [hb, List.map_append, List.sum_append]
  omega
theorem i32_w (z : Int) : (Int32.ofInt z).toInt = w32 z := by
  rw [Int32.toInt_ofInt]; rfl
theorem i64_w (z : Int) : (Int64.ofInt z).toInt = w64 z := by
  rw [Int64.toInt_ofInt]; rfl
theorem i32_of {x : Int32} {z : Int} (h : x.toInt = w32 z) : Int32.ofInt z = x := Int32.toInt_inj.mp (by rw [i32_w, h])
theorem i64_of {x : Int64} {z : Int} (h : x.toInt = w64 z) : Int64.ofInt z = x := Int64.toInt_inj.mp (by rw [i64_w, h])
theorem i32_rt (x : Int32) : Int32.ofInt x.toInt = x := by simp
theorem i64_rt (x : Int64) : Int64.ofInt x.toInt = x := by simp
def zand (a b : Int) : Int := (Int32.ofInt a &&& Int32.ofInt b).toInt
def zor (a b : Int) : Int := (Int32.ofInt a ||| Int32.ofInt b).toInt
def zxor (a b : Int) : Int := (Int32.ofInt a ^^^ Int32.ofInt b).toInt
def zshl (a b : Int) : Int := (Int32.ofInt a <<< (Int32.ofInt b &&& 31)).toInt
def zshr (a b : Int) : Int := (Int32.ofInt a >>> (Int32.ofInt b &&& 31)).toInt
def zushr (a b : Int) : Int := ((Int32.ofInt a).toUInt32 >>> ((Int32.ofInt b).toUInt32 &&& Int32.toUInt32 31)).toInt32.toInt
def zdiv (a b : Int) : Int := (Int32.ofInt a / Int32.ofInt b).toInt
def zrem (a b : Int) : Int := (Int32.ofInt a - Int32.ofInt a / Int32.ofInt b * Int32.ofInt b).toInt
def zldiv (a b : Int) : Int := (Int64.ofInt a / Int64.ofInt b).toInt
def zlrem (a b : Int) : Int := (Int64.ofInt a - Int64.ofInt a / Int64.ofInt b * Int64.ofInt b).toInt
def zland (a b : Int) : Int := (Int64.ofInt a &&& Int64.ofInt b).toInt
def zlor (a b : Int) : Int := (Int64.ofInt a ||| Int64.ofInt b).toInt
def zlshl (a b : Int) : Int := (Int64.ofInt a <<< ((Int32.ofInt b).toInt64 &&& 63)).toInt
def upm (m : Mem) (k i v : Int) : Mem := fun a b => if a = k ∧ b = i then v else m a b
