/-! entry, calls, Math, copies, making -/
def lvA : Nat → List AV → List (Nat × AV)
  | _, [] => []
  | i, v :: vs => (i, v) :: lvA (if v.1 = 1 then i + 2 else i + 1) vs
def wdA (as : List AV) : Nat := (as.map (fun v => if v.1 = 1 then 2 else 1)).sum
theorem cv_c2 (X : Cx) (v : AV) : ((cv X v).category = 2) ↔ v.1 = 1 := by
  have := cv_cat X v
  by_cases h : v.1 = 1
  · exact ⟨fun _ => h, fun _ => cv_2 X h⟩
  · exact ⟨fun q => absurd (q.symm.trans (cv_1 X h)) (by decide), fun q => absurd q h⟩
theorem cv_cv (X : Cx) (v : AV) : (cv X v).category = if v.1 = 1 then 2 else 1 := by
  by_cases h : v.1 = 1
  · rw [if_pos h]; exact cv_2 X h
  · rw [if_neg h]; exact cv_1 X h
theorem lvA_cv (X : Cx) : ∀ (as : List AV) (i : Nat), lv_args i (as.map (cv X)) = lvV X (lvA i as)
  | [], _ => rfl
  | v :: vs, i => by
    show (i, cv X v) :: lv_args (if (cv X v).category = 2 then i + 2 else i + 1) (vs.map (cv X)) = (i, cv X v) :: lvV X (lvA (if v.1 = 1 then i + 2 else i + 1) vs)
    rw [lvA_cv X vs]
    by_cases h : v.1 = 1
    · rw [if_pos ((cv_c2 X v).mpr h), if_pos h]
    · rw [if_neg (fun q => h ((cv_c2 X v).mp q)), if_neg h]
theorem wdA_sl (X : Cx) : ∀ (as : List AV), (lg_sl (as.map (cv X))).length = wdA as
  | [] => rfl
  | v :: vs => by
    have ih := wdA_sl X vs
    unfold lg_sl wdA at *
    rw [List.map_cons, List.flatMap_cons, List.length_append, ih, List.map_cons, List.sum_cons]
    congr 1
    by_cases h : v.1 = 1
    · rw [if_pos ((cv_c2 X v).mpr h), if_pos h]; rfl
    · rw [if_neg (fun q => h ((cv_c2 X v).mp q)), if_neg h]; rfl
theorem wdA_cat (X : Cx) : ∀ (as : List AV), ((as.map (cv X)).map fun v => v.category).sum = wdA as
  | [] => rfl
  | v :: vs => by
    have ih := wdA_cat X vs
    unfold wdA at *
    rw [List.map_cons, List.map_cons, List.sum_cons, ih, List.map_cons, List.sum_cons, cv_cv]
theorem Mt.of {X : Cx} {d n0 n' : Nat} {M : Md} {as : List AV} {r m : Mem} {Q : Int → Mem → Mem → Prop} (hy : plainFor M.1 = true) (hw : wdA as ≤ M.2.2.1) (hn : n0 ≤ n') (h : RR X d M n0 n' n0 0 (lvA 0 as) [] r m Q) : Mt X d M n0 n' as r m Q := by
  unfold Mt
  refine va_MetF (cc := M.2.1) (maxL := M.2.2.1) (ret := M.2.2.2) hy rfl ?_
  intro p e s mm args below meth c s₁ B hml hv
  obtain ⟨rfl, hW, hC⟩ := hv
  have hl := lv_entry (as.map (cv X)) (n := M.2.2.1) (by rw [wdA_sl]; exact hw)
  rw [lg_entry_eq]
  rw [lvA_cv] at hl
  have hts := atoms_spec (ws := wsM M) B.pre
  have F : Fx X M n0 p s mm (as.map (cv X)).toArray meth c := ⟨B.exec, B.bytes, B.returns, hml, findClass_of_methodNamed B.named, fun w hw => hts w (List.mem_cons_of_mem _ hw), B.notSynchronized, fun q => (name_of_methodNamed B.named B.method).1.trans q, hC, hW.1⟩
  have k := h (e := e) (below := below) F (R := (headSpec (wsM M) { frames := d, cells := n' - n0, slots := zs n' - zs n0, locals := 40 * d }).room) ⟨Nat.le_refl _, Nat.le_refl _, Nat.le_refl _, Nat.le_refl _⟩ ⟨hW, va_S.rf, hl⟩ ⟨Nat.le_refl _, hn⟩
  rw [Nat.sub_self, Nat.sub_self] at k
  exact k
def CalOk (M' : Md) (na : Nat) : Prop := Cond.code M'.1 M'.2.1 M'.2.2.1 M'.2.2.2 ∈ Tg ∧ Cond.initialized M'.1.cls ∈ Tg ∧ (M'.1.cls ≠ "java/lang/invoke/MethodHandle" ∧ M'.1.cls ≠ "java/lang/invoke/VarHandle") ∧ (parseMethodDescriptor M'.1.desc).map (fun d => d.parameters.length) = some na ∧ M'.2.2.1 ≤ 21
def Lk (own : String) (ix : Nat) (y : MethodName) : Prop := Cond.methodLink own ix y ∈ Tg ∨ ∃ host, Cond.methodLinkNest own ix y host ∈ nst
theorem wsM_good {M' : Md} (h : Cond.code M'.1 M'.2.1 M'.2.2.1 M'.2.2.2 ∈ Tg) : GoodIn Tg (wsM M') := by
  intro w hw
  have hm : w ∈ Tg := by
    rcases List.mem_cons.mp hw with rfl | h2
    · exact h
    · exact h2
  exact ⟨hm, good_of_word (Tg_good hm)⟩
theorem Pc_blind {X : Cx} {n0 : Nat} {as : List AV} {r m : Mem} : FrameBlind (Pc X n0 as r m) := fun a U g mk q =>
  ⟨q.1, q.2.1, ⟨q.2.2.1.moved (Vm.Alike.refl U.vm), ⟨fun e x he => ⟨((q.2.2.2.1.1 e x he).1).moved (U := U.calling g mk a) (Vm.Alike.refl U.vm), ((q.2.2.2.1.1 e x he).2).moved (U := U.calling g mk a) (Vm.Alike.refl U.vm)⟩, q.2.2.2.1.2.moved (U := U.calling g mk a) (Vm.Alike.refl U.vm)⟩, Nst.same (s := U) (U := U.calling g mk a) rfl q.2.2.2.2⟩⟩
section RW2
variable {X : Cx} {d n0 n' n : Nat} {M : Md} {pc : Nat} {lv : List (Nat × AV)} {st : List AV} {r m : Mem} {Q : Int → Mem → Mem → Prop}
theorem kz_call {M' : Md} {n1 : Nat} {Q' : Int → Mem → Mem → Prop} {rest : List AV} {a : Array Value} {st0 : List Value} (hn1 : n ≤ n1 ∧ n1 ≤ n') (kk : ∀ z r1 m1, Q' z r1 m1 → RR X d M n0 n' n1 (pc + 3) lv (retl M'.2.2.2 z ++ rest) r1 m1 Q)
    {p : Program} {R : Room} {e : Env} {s : State} {mm : MethodId} {args : Array Value} {below : List Frame} {meth : Method} {c : Code} {H : Heap} {locs : List Loc} {ls : Array Slot} (F : Fx X M n0 p s mm args meth c) (G : Rm d n0 n' R) (K : Hx X M n r m lv s H locs ls) (E : n0 ≤ n ∧ n ≤ n')
    (hr : va_Run p (xl X) e R s mm args below meth c H locs (n - n0) (zs n - zs n0) (n1 - n) (zs n1 - zs n) (F0 mm pc ls st0) (rest.map (cv X)) (Qc X M' n1 Q' a) (fun q => xB X < q)) :
    W p (xl X) e R s mm args below meth c H locs (n - n0) (zs n - zs n0) (MQ below (Qc X M n' Q) args s (n' - n0) (zs n' - zs n0) (fun q => xB X < q)) (F0 mm pc ls st0) := by
  intro T hT X0
  obtain ⟨v, st₀, t, T', L, h0, X', hL, e1, e2, ⟨⟨z, r1, m1, hv, hq, hw⟩, hfr⟩, st⟩ := hr T hT X0
  rw [h0] at hfr
  have hv := Outcome.returned.inj hv
  subst hv
  have hz1 := zs_mono E.1
  have hz2 := zs_mono hn1.1
  have en : n - n0 + (n1 - n) = n1 - n0 := by omega
  have ez : zs n - zs n0 + (zs n1 - zs n) = zs n1 - zs n0 := by omega
  rw [en, ez] at X'
  have hw : Wd X n1 r1 m1 T'.heap := by rw [e1]; exact hw
  have hS : va_S (fun a => xB X < a) s.heap T'.heap (locs ++ L) := by
    refine ⟨?_, fun q h1 h2 => ?_, fun q hq => ?_⟩
    · rw [hw.1]; have := F.z; omega
    · rw [e1, hfr q (by omega)]; exact K.2.1.2.1 q h1 h2
    · rcases List.mem_append.mp hq with h | h
      · exact K.2.1.2.2 q h
      · exact hL q h
  have k9 := kk z r1 m1 hq (e := e) (below := below) F G ⟨hw, hS, K.2.2⟩ ⟨by omega, hn1.2⟩ T' rfl X'
  rw [List.map_append, retl_cv] at k9
  obtain ⟨t2, a1, b1⟩ := k9
  exact ⟨t2, st t2 a1, b1⟩
theorem kz_hR {M' : Md} {d' n1 : Nat} {R : Room} {na : Nat} (co : CalOk M' na) (G : Rm d n0 n' R) (hd : d' < d) : d' + 1 ≤ R.frames ∧ 8 + (M'.2.2.1 + 11) + 40 * d' ≤ R.locals := by
  have h1 := G.1
  have h2 := G.2.1
  have h3 := co.2.2.2.2
  omega
theorem kz_hf {n1 : Nat} {R : Room} (hn1 : n ≤ n1 ∧ n1 ≤ n') (G : Rm d n0 n' R) (E : n0 ≤ n ∧ n ≤ n') : n - n0 + (n1 - n) ≤ R.cells ∧ zs n - zs n0 + (zs n1 - zs n) ≤ R.slots := by
  have h1 := G.2.2.1
  have h2 := G.2.2.2
  have hz1 := zs_mono E.1
  have hz2 := zs_mono hn1.1
  have hz3 := zs_mono hn1.2
  omega
theorem kz_room {mm : MethodId} {ls : Array Slot} {st0 : List Value} {rest : List AV} (h : wdA rest ≤ 8) : 2 * (F0 mm pc ls st0).monitorRoom + ((rest.map (cv X)).map fun v => v.category).sum ≤ 8 := by
  rw [wdA_cat]
  exact (by omega : 2 * 0 + wdA rest ≤ 8)
theorem kz_args (as rest : List AV) : (as.reverse ++ rest).map (cv X) = (as.map (cv X)).reverse ++ rest.map (cv X) := by
  rw [List.map_append, List.map_reverse]
theorem r_callV0 {M' : Md} {d' n1 ix ci : Nat} {k : Int} {c0 : vw_C} {Q' : Int → Mem → Mem → Prop} {as rest : List AV} (hO : isO n k ci) (hc : clsT[ci]? = some c0) (hcls : M'.1.cls = c0.1) (co : CalOk M' as.length) (hi : Cond.instanceMethod M'.1 ∈ Tg) (hs : Cond.selects M'.1.cls M'.1 M'.1 ∈ Tg) (hl : Lk M.1.cls ix M'.1) (hd : d' < d) (hn1 : n ≤ n1 ∧ n1 ≤ n') (hst : st = as.reverse ++ vr k :: rest) (hrest : wdA rest ≤ 8) (hdg : decode M.2.1 pc = .ok (.invokevirtual ix, 3))
    (hM : Mt X d' M' n n1 (vr k :: as) r m Q') (kk : ∀ z r1 m1, Q' z r1 m1 → RR X d M n0 n' n1 (pc + 3) lv (retl M'.2.2.2 z ++ rest) r1 m1 Q) : RR X d M n0 n' n pc lv st r m Q := by
  intro p R e s mm args below meth c H locs ls F G K E
  have hstack : (F0 mm pc ls (st.map (cv X))).stack = (as.map (cv X)).reverse ++ .ref (adr X k) :: rest.map (cv X) := by
    subst hst
    exact kz_args as (vr k :: rest)
  have h0 := K.1.2 k.toNat _ (by have := hO.1; omega) hO.2.2.1 hO.2.2.2
  simp only [cellAt] at h0
  rw [← show adr X k = xB X + k.toNat from if_pos hO.2.1] at h0
  obtain ⟨c', hc', cell, g1, g2, g3, g4⟩ := h0
  cases hc.symm.trans hc'
  obtain ⟨hS, hfc, kC, hkC, hkind⟩ := F.cx.1.1 ci c0 hc
  have hp : PreV s H M'.1.cls (adr X k) (Pc X n (vr k :: as) r m) (as.map (cv X)) :=
    ⟨Pc_blind, ⟨cell, g1, by rw [g3]; rfl, by rw [g2, hcls]; exact hfc⟩, fun U hU hW => ⟨rfl, by rw [hU]; exact K.1, F.cx.moved K.2.1 hU hW⟩⟩
  have hd1 := kz_hR (n1 := n1) co G hd
  refine kz_call (a := (Value.ref (adr X k) :: as.map (cv X)).toArray) hn1 kk F G K E ?_
  rcases hl with hl | ⟨host, hl⟩
  · exact va_runV (cc := M.2.1) (nL := M.2.2.1) (Ts := Tg) (own := M.1.cls) ⟨F.x, F.b, F.l, F.o, F.t⟩ hM ⟨callB_of as.length F.t (wsM_good co.1) rfl rfl rfl (F.t _ co.2.1) (F.t _ hl) ⟨co.2.2.1.1, co.2.2.1.2, co.2.2.2.1⟩ hd1, F.t _ hi, F.t _ hs⟩ hp rfl (List.length_map ..) K.2.2.1 hstack (kz_room hrest) hdg (kz_hf hn1 G E)
  · exact va_runVN (cc := M.2.1) (nL := M.2.2.1) (Ts := Tg) (own := M.1.cls) ⟨F.x, F.b, F.l, F.o, F.t⟩ hM ⟨va_cnB as.length F.t (wsM_good co.1) rfl rfl rfl (F.cx.2.2.1 _ hl) (F.t _ co.2.1) ⟨co.2.2.1.1, co.2.2.1.2, co.2.2.2.1⟩ hd1, F.t _ hi, F.t _ hs⟩ hp rfl (List.length_map ..) K.2.2.1 hstack (kz_room hrest) hdg (kz_hf hn1 G E)
theorem r_callS0 {M' : Md} {d' n1 ix : Nat} {Q' : Int → Mem → Mem → Prop} {as rest : List AV} (co : CalOk M' as.length) (hi : Cond.static M'.1 ∈ Tg) (hl : Lk M.1.cls ix M'.1) (hd : d' < d) (hn1 : n ≤ n1 ∧ n1 ≤ n') (hst : st = as.reverse ++ rest) (hrest : wdA rest ≤ 8) (hdg : decode M.2.1 pc = .ok (.invokestatic ix, 3))
    (hM : Mt X d' M' n n1 as r m Q') (kk : ∀ z r1 m1, Q' z r1 m1 → RR X d M n0 n' n1 (pc + 3) lv (retl M'.2.2.2 z ++ rest) r1 m1 Q) : RR X d M n0 n' n pc lv st r m Q := by
  intro p R e s mm args below meth c H locs ls F G K E
  have hstack : (F0 mm pc ls (st.map (cv X))).stack = (as.map (cv X)).reverse ++ rest.map (cv X) := by
    subst hst
    exact kz_args as rest
  have hp : PreS s H (Pc X n as r m) (as.map (cv X)) :=
    ⟨Pc_blind, fun U hU hW => ⟨rfl, by rw [hU]; exact K.1, F.cx.moved K.2.1 hU hW⟩⟩
  have hd1 := kz_hR (n1 := n1) co G hd
  refine kz_call (a := (as.map (cv X)).toArray) hn1 kk F G K E ?_
  rcases hl with hl | ⟨host, hl⟩
  · exact va_runS (cc := M.2.1) (nL := M.2.2.1) (Ts := Tg) (own := M.1.cls) ⟨F.x, F.b, F.l, F.o, F.t⟩ hM ⟨callB_of as.length F.t (wsM_good co.1) rfl rfl rfl (F.t _ co.2.1) (F.t _ hl) ⟨co.2.2.1.1, co.2.2.1.2, co.2.2.2.1⟩ hd1, F.t _ hi⟩ hp rfl (List.length_map ..) K.2.2.1 hstack (kz_room hrest) hdg (kz_hf hn1 G E)
  · exact va_runSN (cc := M.2.1) (nL := M.2.2.1) (Ts := Tg) (own := M.1.cls) ⟨F.x, F.b, F.l, F.o, F.t⟩ hM ⟨va_cnB as.length F.t (wsM_good co.1) rfl rfl rfl (F.cx.2.2.1 _ hl) (F.t _ co.2.1) ⟨co.2.2.1.1, co.2.2.1.2, co.2.2.2.1⟩ hd1, F.t _ hi, trivial⟩ hp rfl (List.length_map ..) K.2.2.1 hstack (kz_room hrest) hdg (kz_hf hn1 G E)
theorem r_callI {M' : Md} {d' n1 ix : Nat} {k : Int} {Q' : Int → Mem → Mem → Prop} {as rest : List AV} (hy1 : M'.1.name = "<init>") (hr : M'.2.2.2 = none) (co : CalOk M' as.length) (hi : Cond.instanceMethod M'.1 ∈ Tg) (hl : Lk M.1.cls ix M'.1) (hd : d' < d) (hn1 : n ≤ n1 ∧ n1 ≤ n') (hst : st = as.reverse ++ vr k :: rest) (hrest : wdA rest ≤ 8) (hdg : decode M.2.1 pc = .ok (.invokespecial ix, 3))
    (hM : Mt X d' M' n n1 (vr k :: as) r m Q') (kk : ∀ z r1 m1, Q' z r1 m1 → RR X d M n0 n' n1 (pc + 3) lv rest r1 m1 Q) : RR X d M n0 n' n pc lv st r m Q := by
  intro p R e s mm args below meth c H locs ls F G K E
  have hstack : (F0 mm pc ls (st.map (cv X))).stack = (as.map (cv X)).reverse ++ .ref (adr X k) :: rest.map (cv X) := by
    subst hst
    exact kz_args as (vr k :: rest)
  have hp : PreS s H (Pc X n (vr k :: as) r m) (.ref (adr X k) :: as.map (cv X)) :=
    ⟨Pc_blind, fun U hU hW => ⟨rfl, by rw [hU]; exact K.1, F.cx.moved K.2.1 hU hW⟩⟩
  have hd1 := kz_hR (n1 := n1) co G hd
  have kk : ∀ z r1 m1, Q' z r1 m1 → RR X d M n0 n' n1 (pc + 3) lv (retl M'.2.2.2 z ++ rest) r1 m1 Q := fun z r1 m1 h => by
    rw [hr]
    exact kk z r1 m1 h
  obtain ⟨y, cb, ml, rt⟩ := M'
  cases hr
  refine kz_call (a := (Value.ref (adr X k) :: as.map (cv X)).toArray) hn1 kk F G K E ?_
  rcases hl with hl | ⟨host, hl⟩
  · exact va_runI (cc := M.2.1) (nL := M.2.2.1) (Ts := Tg) (own := M.1.cls) ⟨F.x, F.b, F.l, F.o, F.t⟩ hM ⟨callB_of as.length F.t (wsM_good co.1) rfl rfl rfl (F.t _ co.2.1) (F.t _ hl) ⟨co.2.2.1.1, co.2.2.1.2, co.2.2.2.1⟩ hd1, hy1, F.t _ hi⟩ hp rfl (List.length_map ..) K.2.2.1 hstack (kz_room hrest) hdg (kz_hf hn1 G E)
  · exact va_runIN (cc := M.2.1) (nL := M.2.2.1) (Ts := Tg) (own := M.1.cls) ⟨F.x, F.b, F.l, F.o, F.t⟩ hM ⟨va_cnB as.length F.t (wsM_good co.1) rfl rfl rfl (F.cx.2.2.1 _ hl) (F.t _ co.2.1) ⟨co.2.2.1.1, co.2.2.1.2, co.2.2.2.1⟩ hd1, hy1, F.t _ hi⟩ hp rfl (List.length_map ..) K.2.2.1 hstack (kz_room hrest) hdg (kz_hf hn1 G E)
theorem r_callVi {M' : Md} {d' n1 ix : Nat} (ci : Nat) {k : Int} {c0 : vw_C} {Q' : Int → Mem → Mem → Prop} (as : List AV) {rest : List AV} (hr : M'.2.2.2 = some .int) (hO : isO n k ci) (hc : clsT[ci]? = some c0) (hcls : M'.1.cls = c0.1) (co : CalOk M' as.length) (hi : Cond.instanceMethod M'.1 ∈ Tg) (hs : Cond.selects M'.1.cls M'.1 M'.1 ∈ Tg) (hl : Lk M.1.cls ix M'.1) (hd : d' < d) (hn1 : n ≤ n1 ∧ n1 ≤ n') (hst : st = as.reverse ++ vr k :: rest) (hrest : wdA rest ≤ 8) (hdg : decode M.2.1 pc = .ok (.invokevirtual ix, 3))
    (hM : Mt X d' M' n n1 (vr k :: as) r m Q') (kk : ∀ z r1 m1, Q' z r1 m1 → RR X d M n0 n' n1 (pc + 3) lv (vi z :: rest) r1 m1 Q) : RR X d M n0 n' n pc lv st r m Q :=
  r_callV0 hO hc hcls co hi hs hl hd hn1 hst hrest hdg hM (fun z r1 m1 h => by rw [hr]; exact kk z r1 m1 h)
theorem r_callSi {M' : Md} {d' n1 ix : Nat} {Q' : Int → Mem → Mem → Prop} (as : List AV) {rest : List AV} (hr : M'.2.2.2 = some .int) (co : CalOk M' as.length) (hi : Cond.static M'.1 ∈ Tg) (hl : Lk M.1.cls ix M'.1) (hd : d' < d) (hn1 : n ≤ n1 ∧ n1 ≤ n') (hst : st = as.reverse ++ rest) (hrest : wdA rest ≤ 8) (hdg : decode M.2.1 pc = .ok (.invokestatic ix, 3))
    (hM : Mt X d' M' n n1 as r m Q') (kk : ∀ z r1 m1, Q' z r1 m1 → RR X d M n0 n' n1 (pc + 3) lv (vi z :: rest) r1 m1 Q) : RR X d M n0 n' n pc lv st r m Q :=
  r_callS0 co hi hl hd hn1 hst hrest hdg hM (fun z r1 m1 h => by rw [hr]; exact kk z r1 m1 h)
theorem r_callVb {M' : Md} {d' n1 ix : Nat} (ci : Nat) {k : Int} {c0 : vw_C} {Q' : Int → Mem → Mem → Prop} (as : List AV) {rest : List AV} (hr : M'.2.2.2 = some .boolean) (hO : isO n k ci) (hc : clsT[ci]? = some c0) (hcls : M'.1.cls = c0.1) (co : CalOk M' as.length) (hi : Cond.instanceMethod M'.1 ∈ Tg) (hs : Cond.selects M'.1.cls M'.1 M'.1 ∈ Tg) (hl : Lk M.1.cls ix M'.1) (hd : d' < d) (hn1 : n ≤ n1 ∧ n1 ≤ n') (hst : st = as.reverse ++ vr k :: rest) (hrest : wdA rest ≤ 8) (hdg : decode M.2.1 pc = .ok (.invokevirtual ix, 3))
    (hM : Mt X d' M' n n1 (vr k :: as) r m Q') (kk : ∀ z r1 m1, Q' z r1 m1 → RR X d M n0 n' n1 (pc + 3) lv (vi z :: rest) r1 m1 Q) : RR X d M n0 n' n pc lv st r m Q :=
  r_callV0 hO hc hcls co hi hs hl hd hn1 hst hrest hdg hM (fun z r1 m1 h => by rw [hr]; exact kk z r1 m1 h)
theorem r_callSb {M' : Md} {d' n1 ix : Nat} {Q' : Int → Mem → Mem → Prop} (as : List AV) {rest : List AV} (hr : M'.2.2.2 = some .boolean) (co : CalOk M' as.length) (hi : Cond.static M'.1 ∈ Tg) (hl : Lk M.1.cls ix M'.1) (hd : d' < d) (hn1 : n ≤ n1 ∧ n1 ≤ n') (hst : st = as.reverse ++ rest) (hrest : wdA rest ≤ 8) (hdg : decode M.2.1 pc = .ok (.invokestatic ix, 3))
    (hM : Mt X d' M' n n1 as r m Q') (kk : ∀ z r1 m1, Q' z r1 m1 → RR X d M n0 n' n1 (pc + 3) lv (vi z :: rest) r1 m1 Q) : RR X d M n0 n' n pc lv st r m Q :=
  r_callS0 co hi hl hd hn1 hst hrest hdg hM (fun z r1 m1 h => by rw [hr]; exact kk z r1 m1 h)
theorem r_callVl {M' : Md} {d' n1 ix : Nat} (ci : Nat) {k : Int} {c0 : vw_C} {Q' : Int → Mem → Mem → Prop} (as : List AV) {rest : List AV} (hr : M'.2.2.2 = some .long) (hO : isO n k ci) (hc : clsT[ci]? = some c0) (hcls : M'.1.cls = c0.1) (co : CalOk M' as.length) (hi : Cond.instanceMethod M'.1 ∈ Tg) (hs : Cond.selects M'.1.cls M'.1 M'.1 ∈ Tg) (hl : Lk M.1.cls ix M'.1) (hd : d' < d) (hn1 : n ≤ n1 ∧ n1 ≤ n') (hst : st = as.reverse ++ vr k :: rest) (hrest : wdA rest ≤ 8) (hdg : decode M.2.1 pc = .ok (.invokevirtual ix, 3))
    (hM : Mt X d' M' n n1 (vr k :: as) r m Q') (kk : ∀ z r1 m1, Q' z r1 m1 → RR X d M n0 n' n1 (pc + 3) lv (vl z :: rest) r1 m1 Q) : RR X d M n0 n' n pc lv st r m Q :=
  r_callV0 hO hc hcls co hi hs hl hd hn1 hst hrest hdg hM (fun z r1 m1 h => by rw [hr]; exact kk z r1 m1 h)
theorem r_callSl {M' : Md} {d' n1 ix : Nat} {Q' : Int → Mem → Mem → Prop} (as : List AV) {rest : List AV} (hr : M'.2.2.2 = some .long) (co : CalOk M' as.length) (hi : Cond.static M'.1 ∈ Tg) (hl : Lk M.1.cls ix M'.1) (hd : d' < d) (hn1 : n ≤ n1 ∧ n1 ≤ n') (hst : st = as.reverse ++ rest) (hrest : wdA rest ≤ 8) (hdg : decode M.2.1 pc = .ok (.invokestatic ix, 3))
    (hM : Mt X d' M' n n1 as r m Q') (kk : ∀ z r1 m1, Q' z r1 m1 → RR X d M n0 n' n1 (pc + 3) lv (vl z :: rest) r1 m1 Q) : RR X d M n0 n' n pc lv st r m Q :=
  r_callS0 co hi hl hd hn1 hst hrest hdg hM (fun z r1 m1 h => by rw [hr]; exact kk z r1 m1 h)
theorem r_callVv {M' : Md} {d' n1 ix : Nat} (ci : Nat) {k : Int} {c0 : vw_C} {Q' : Int → Mem → Mem → Prop} (as : List AV) {rest : List AV} (hr : M'.2.2.2 = none) (hO : isO n k ci) (hc : clsT[ci]? = some c0) (hcls : M'.1.cls = c0.1) (co : CalOk M' as.length) (hi : Cond.instanceMethod M'.1 ∈ Tg) (hs : Cond.selects M'.1.cls M'.1 M'.1 ∈ Tg) (hl : Lk M.1.cls ix M'.1) (hd : d' < d) (hn1 : n ≤ n1 ∧ n1 ≤ n') (hst : st = as.reverse ++ vr k :: rest) (hrest : wdA rest ≤ 8) (hdg : decode M.2.1 pc = .ok (.invokevirtual ix, 3))
    (hM : Mt X d' M' n n1 (vr k :: as) r m Q') (kk : ∀ z r1 m1, Q' z r1 m1 → RR X d M n0 n' n1 (pc + 3) lv (rest) r1 m1 Q) : RR X d M n0 n' n pc lv st r m Q :=
  r_callV0 hO hc hcls co hi hs hl hd hn1 hst hrest hdg hM (fun z r1 m1 h => by rw [hr]; exact kk z r1 m1 h)
theorem r_callSv {M' : Md} {d' n1 ix : Nat} {Q' : Int → Mem → Mem → Prop} (as : List AV) {rest : List AV} (hr : M'.2.2.2 = none) (co : CalOk M' as.length) (hi : Cond.static M'.1 ∈ Tg) (hl : Lk M.1.cls ix M'.1) (hd : d' < d) (hn1 : n ≤ n1 ∧ n1 ≤ n') (hst : st = as.reverse ++ rest) (hrest : wdA rest ≤ 8) (hdg : decode M.2.1 pc = .ok (.invokestatic ix, 3))
    (hM : Mt X d' M' n n1 as r m Q') (kk : ∀ z r1 m1, Q' z r1 m1 → RR X d M n0 n' n1 (pc + 3) lv (rest) r1 m1 Q) : RR X d M n0 n' n pc lv st r m Q :=
  r_callS0 co hi hl hd hn1 hst hrest hdg hM (fun z r1 m1 h => by rw [hr]; exact kk z r1 m1 h)
-- Math
theorem kz_R {R : Room} (G : Rm d n0 n' R) (E : n0 ≤ n ∧ n ≤ n') : n - n0 ≤ R.cells ∧ zs n - zs n0 ≤ R.slots := by
  have h1 := G.2.2.1
  have h2 := G.2.2.2
  have hz1 := zs_mono E.1
  have hz2 := zs_mono E.2
  omega
theorem r_max {a b : Int} {ix : Nat} (hl : Cond.methodLink M.1.cls ix Lib.Math.max.name ∈ Tg) (hs : Cond.static Lib.Math.max.name ∈ Tg) (hi : Cond.initialized "java/lang/Math" ∈ Tg) (hc : Cond.code Lib.Math.max.name Lib.Math.max.code 2 (some .int) ∈ Tg) (hd : 1 ≤ d) (hrest : wdA st ≤ 8) (hdg : decode M.2.1 pc = .ok (.invokestatic ix, 3)) (kk : RR X d M n0 n' n (pc + 3) lv (vi (max (w32 a) (w32 b)) :: st) r m Q) : RR X d M n0 n' n pc lv (vi b :: vi a :: st) r m Q := by
  intro p R e s mm args below meth c H locs ls F G K E
  have kk := kk (e := e) (below := below) F G K E
  have hR := kz_R G E
  refine va_mmax F.x F.b (F.l.trans K.2.2.1.symm) F.o (F.t _ hl) (F.t _ hs) (F.t _ hi) (F.t _ hc) (by have := G.1; omega) (by rw [wdA_cat]; have := G.2.1; omega) hR.1 hR.2 hdg ?_
  rw [show (if Int32.ofInt a < Int32.ofInt b then Int32.ofInt b else Int32.ofInt a) = Int32.ofInt (max (w32 a) (w32 b)) from ?_]
  · exact kk
  · apply Int32.toInt_inj.mp
    rw [i32_w]
    have e1 : w32 (max (w32 a) (w32 b)) = max (w32 a) (w32 b) := by
      simp only [w32, Int.bmod]
      (repeat' split) <;> omega
    rw [e1]
    by_cases h : w32 a < w32 b
    · rw [if_pos (kz_lt.mpr h), i32_w]; omega
    · rw [if_neg (fun q => h (kz_lt.mp q)), i32_w]; omega
theorem r_min {a b : Int} {ix : Nat} (hl : Cond.methodLink M.1.cls ix Lib.Math.min.name ∈ Tg) (hs : Cond.static Lib.Math.min.name ∈ Tg) (hi : Cond.initialized "java/lang/Math" ∈ Tg) (hc : Cond.code Lib.Math.min.name Lib.Math.min.code 2 (some .int) ∈ Tg) (hd : 1 ≤ d) (hrest : wdA st ≤ 8) (hdg : decode M.2.1 pc = .ok (.invokestatic ix, 3)) (kk : RR X d M n0 n' n (pc + 3) lv (vi (min (w32 a) (w32 b)) :: st) r m Q) : RR X d M n0 n' n pc lv (vi b :: vi a :: st) r m Q := by
  intro p R e s mm args below meth c H locs ls F G K E
  have kk := kk (e := e) (below := below) F G K E
  have hR := kz_R G E
  refine va_mmin F.x F.b (F.l.trans K.2.2.1.symm) F.o (F.t _ hl) (F.t _ hs) (F.t _ hi) (F.t _ hc) (by have := G.1; omega) (by rw [wdA_cat]; have := G.2.1; omega) hR.1 hR.2 hdg ?_
  rw [show (if Int32.ofInt b < Int32.ofInt a then Int32.ofInt b else Int32.ofInt a) = Int32.ofInt (min (w32 a) (w32 b)) from ?_]
  · exact kk
  · apply Int32.toInt_inj.mp
    rw [i32_w]
    have e1 : w32 (min (w32 a) (w32 b)) = min (w32 a) (w32 b) := by
      simp only [w32, Int.bmod]
      (repeat' split) <;> omega
    rw [e1]
    by_cases h : w32 b < w32 a
    · rw [if_pos (kz_lt.mpr h), i32_w]; omega
    · rw [if_neg (fun q => h (kz_lt.mp q)), i32_w]; omega
theorem r_maxl {a b : Int} {ix : Nat} (hl : Cond.methodLink M.1.cls ix Lib.MathLoose.max_long.x ∈ Tg) (hs : Cond.static Lib.MathLoose.max_long.x ∈ Tg) (hi : Cond.initialized "java/lang/Math" ∈ Tg) (hc : Cond.code Lib.MathLoose.max_long.x Lib.MathLoose.max_long.code 4 (some .long) ∈ Tg) (hd : 1 ≤ d) (hrest : wdA st ≤ 8) (hdg : decode M.2.1 pc = .ok (.invokestatic ix, 3)) (kk : RR X d M n0 n' n (pc + 3) lv (vl (max (w64 a) (w64 b)) :: st) r m Q) : RR X d M n0 n' n pc lv (vl b :: vl a :: st) r m Q := by
  intro p R e s mm args below meth c H locs ls F G K E
  have kk := kk (e := e) (below := below) F G K E
  have hR := kz_R G E
  refine va_mmax_long F.x F.b (F.l.trans K.2.2.1.symm) F.o (F.t _ hl) (F.t _ hs) (F.t _ hi) (F.t _ hc) (by have := G.1; omega) (by rw [wdA_cat]; have := G.2.1; omega) hR.1 hR.2 hdg ?_
  rw [show (if Int64.ofInt b < Int64.ofInt a then Int64.ofInt a else Int64.ofInt b) = Int64.ofInt (max (w64 a) (w64 b)) from ?_]
  · exact kk
  · apply Int64.toInt_inj.mp
    rw [i64_w]
    have e1 : w64 (max (w64 a) (w64 b)) = max (w64 a) (w64 b) := by
      simp only [w64, Int.bmod]
      (repeat' split) <;> omega
    rw [e1]
    by_cases h : w64 b < w64 a
    · rw [if_pos (kz_ltl.mpr h), i64_w]; omega
    · rw [if_neg (fun q => h (kz_ltl.mp q)), i64_w]; omega
-- switches
theorem r_lookup {z : Int} {dflt : Int} {ps : Array (Int × Int)} {len : Nat} {off : Int} {tgt : Nat} (hdg : decode M.2.1 pc = .ok (.lookupswitch dflt ps, len)) (hp : (ps.toList.zip (ps.toList.drop 1)).all (fun (a, next) => a.1 < next.1) = true) (ho : Op.lookupswitch.offset ps.toList dflt (w32 z) = off) (ht : (pc : Int) + off = (tgt : Int)) (kk : RR X d M n0 n' n tgt lv st r m Q) : RR X d M n0 n' n pc lv (vi z :: st) r m Q := by
  intro p R e s mm args below meth c H locs ls F G K E
  exact lv_lookup F.x F.b hdg hp (by show Op.lookupswitch.offset ps.toList dflt (Int32.ofInt z).toInt = off; rw [i32_w]; exact ho) ht (kk F G K E)
theorem r_tabOut {z : Int} {dflt lo hi : Int} {offs : Array Int} {len : Nat} {tgt : Nat} (hdg : decode M.2.1 pc = .ok (.tableswitch dflt lo hi offs, len)) (h : w32 z < lo ∨ hi < w32 z) (ht : (pc : Int) + dflt = (tgt : Int)) (kk : RR X d M n0 n' n tgt lv st r m Q) : RR X d M n0 n' n pc lv (vi z :: st) r m Q := by
  intro p R e s mm args below meth c H locs ls F G K E
  exact lv_tableOut F.x F.b hdg (by show (Int32.ofInt z).toInt < lo ∨ hi < (Int32.ofInt z).toInt; rw [i32_w]; exact h) ht (kk F G K E)
theorem r_tabIn {z : Int} {dflt lo hi : Int} {offs : Array Int} {len : Nat} {off : Int} {tgt : Nat} (y : Int) (hy : w32 z = y) (hdg : decode M.2.1 pc = .ok (.tableswitch dflt lo hi offs, len)) (h1 : ¬ y < lo) (h2 : ¬ hi < y) (ho : offs[(y - lo).toNat]? = some off) (ht : (pc : Int) + off = (tgt : Int)) (kk : RR X d M n0 n' n tgt lv st r m Q) : RR X d M n0 n' n pc lv (vi z :: st) r m Q := by
  intro p R e s mm args below meth c H locs ls F G K E
  have e1 : (Int32.ofInt z).toInt = y := by rw [i32_w]; exact hy
  exact lv_tableIn F.x F.b hdg (by show ¬ (Int32.ofInt z).toInt < lo; rw [e1]; exact h1) (by show ¬ hi < (Int32.ofInt z).toInt; rw [e1]; exact h2) (by show offs[((Int32.ofInt z).toInt - lo).toNat]? = some off; rw [e1]; exact ho) ht (kk F G K E)
-- making
theorem zs_s {q : Kd} (h : tbl[n + 1]? = some q) : zs (n + 1) = zs n + kz_sz q := by
  unfold zs
  rw [List.take_add_one, h]
  simp
theorem r_objInit {k : Int} {ix : Nat} (hl : Cond.methodLink M.1.cls ix Lib.objectInit ∈ Tg) (hi : Cond.instanceMethod Lib.objectInit ∈ Tg) (hc : Cond.code Lib.objectInit ⟨#[0xb1]⟩ 1 none ∈ Tg) (hd : 1 ≤ d) (hrest : wdA st ≤ 8) (hdg : decode M.2.1 pc = .ok (.invokespecial ix, 3)) (kk : RR X d M n0 n' n (pc + 3) lv st r m Q) : RR X d M n0 n' n pc lv (vr k :: st) r m Q := by
  intro p R e s mm args below meth c H locs ls F G K E
  refine W.objInit F.x F.b F.o (F.t _ hl) (F.t _ hi) (F.t _ hc) rfl (K.2.2.1.trans F.l.symm) rfl hdg (by have := G.1; omega) ?_ (kk F G K E)
  rw [wdA_cat]
  have := G.2.1
  show 2 * 0 + wdA st + 12 ≤ R.locals
  omega
theorem Wd.grow {H H1 : Heap} {q : Kd} (h : Wd X n r m H) (hq : tbl[n + 1]? = some q) (z : H1.size = H.size + 1) (o : ∀ a, a < H.size → H1[a]? = H[a]?) (hc : cellAt X q (n + 1) r m H1) : Wd X (n + 1) r m H1 := by
  refine ⟨by rw [z, h.1]; omega, fun k q2 h1 h2 h3 => ?_⟩
  by_cases hk : k = n + 1
  · subst hk
    rw [hq] at h3
    cases h3
    exact hc
  · exact (h.2 k q2 h1 (by omega) h3).eq (fun b => ⟨rfl, rfl⟩) (o _ (by rw [h.1]; omega))
theorem va_S.grow {A : Nat → Prop} {H0 H H1 : Heap} {locs : List Loc} (h : va_S A H0 H locs) (z : H1.size = H.size + 1) (o : ∀ a, a < H.size → H1[a]? = H[a]?) : va_S A H0 H1 locs :=
  ⟨by have := h.1; omega, fun q h1 h2 => (o q (Nat.lt_of_lt_of_le h1 h.1)).trans (h.2.1 q h1 h2), h.2.2⟩
theorem fldv_0 (ty : FieldType) (hty : ty = .int ∨ ty = .long ∨ ty = .byte ∨ ty = .short ∨ ty = .boolean ∨ isRf ty = true) : defaultValue ty = fldv X ty 0 0 := by
  rcases hty with rfl | rfl | rfl | rfl | rfl | h <;> first | rfl | (cases ty <;> first | rfl | (exact absurd h (by decide)))
def okTy (ty : FieldType) : Bool := match ty with
  | .int => true
  | .long => true
  | .byte => true
  | .short => true
  | .boolean => true
  | t => isRf t
theorem fldv_ok (ty : FieldType) (h : okTy ty = true) : defaultValue ty = fldv X ty 0 0 := by
  cases ty <;> first | rfl | (exact absurd h (by decide))
theorem tyC_ok : ∀ (ci : Nat) (c : vw_C), clsT[ci]? = some c → ∀ j, j < c.2.2 → okTy (tyC ci j) = true := by
  intro ci c h
  match ci, h with
  | 0, h => cases h; decide
  | 1, h => cases h; decide
  | 2, h => cases h; decide
  | 3, h => cases h; decide
  | 4, h => cases h; decide
  | 5, h => cases h; decide
  | 6, h => cases h; decide
  | 7, h => cases h; decide
  | 8, h => cases h; decide
  | 9, h => cases h; decide
  | 10, h => cases h; decide
  | 11, h => cases h; decide
  | 12, h => cases h; decide +kernel
  | n + 13, h => simp [clsT] at h
theorem r_new {ci ix : Nat} {c0 : vw_C} {k : Int} (hkn : k = ((n + 1 : Nat) : Int)) (hk1 : k < 1000) (hq : tbl[n + 1]? = some (.inr ci)) (hc : clsT[ci]? = some c0) (hz : ∀ j, r k j = 0 ∧ m k j = 0) (hcl : Cond.classLink M.1.cls ix c0.1 ∈ Tg) (hin : Cond.instantiable c0.1 c0.2.2 ∈ Tg) (hini : Cond.initialized c0.1 ∈ Tg) (hn1 : n + 1 ≤ n') (hdg : decode M.2.1 pc = .ok (.new ix, 3)) (kk : RR X d M n0 n' (n + 1) (pc + 3) lv (vr k :: st) r m Q) : RR X d M n0 n' n pc lv st r m Q := by
  intro p R e s mm args below meth c H locs ls F G K E
  have kk := @kk p R e s mm args below meth c
  have hKn := F.cx.1.1 ci c0 hc
  obtain ⟨w1, w2, w3⟩ := clsW ci c0 hc
  have hzs := zs_s hq
  have hsz : kz_sz (.inr ci) = c0.2.2 := by
    show (match clsT[ci]? with
      | some c => c.2.2
      | none => 0) = _
    rw [hc]
  rw [hsz] at hzs
  have hR1 := G.2.2.1
  have hR2 := G.2.2.2
  have hm1 := zs_mono E.1
  have hm2 := zs_mono hn1
  subst hkn
  refine W.newcK F.x F.b F.o (F.t _ hcl) (F.t _ hin) (F.t _ hini) rfl hdg (by omega) (by omega) hKn.2.1 rfl fun H1 kC hkC e1 z1 o1 => ?_
  have hs := K.1.1
  have hcell : cellAt X (.inr ci) (n + 1) r m H1 := by
    refine ⟨c0, hc, ?_⟩
    have hb := u_born (tyC ci) F.t w1 hKn hkC e1 w3
    rw [show xB X + (n + 1) = H.size by omega]
    refine hb.to fun j hj => ?_
    rw [(hz j).1, (hz j).2]
    exact fldv_ok _ (tyC_ok ci c0 hc j hj)
  have k9 := kk (H := H1) (locs := locs) (ls := ls) F G ⟨K.1.grow hq z1 o1 hcell, K.2.1.grow z1 o1, K.2.2⟩ ⟨by omega, hn1⟩
  have ea : adr X ((n + 1 : Nat) : Int) = H.size := by
    rw [show adr X ((n + 1 : Nat) : Int) = xB X + ((n + 1 : Nat) : Int).toNat from if_pos hk1]
    omega
  rw [show n + 1 - n0 = n - n0 + 1 by omega, show zs (n + 1) - zs n0 = zs n - zs n0 + c0.2.2 by omega] at k9
  rw [← ea]
  exact k9
theorem r_newa {aty : ArrayType} {z : Int} {len : Nat} {k : Int} (hkn : k = ((n + 1 : Nat) : Int)) (hk1 : k < 1000) (hq : tbl[n + 1]? = some (.inl (newarray.typeOf aty, len))) (hty : newarray.typeOf aty ∈ atys) (hok : okTy (newarray.typeOf aty) = true) (hzl : w32 z = (len : Int)) (hlen : len ≤ 10000) (hz : ∀ j, r k j = 0 ∧ m k j = 0) (hcl : Cond.arrayClass (newarray.typeOf aty) ∈ Tg) (hn1 : n + 1 ≤ n') (hdg : decode M.2.1 pc = .ok (.newarray aty, 2)) (kk : RR X d M n0 n' (n + 1) (pc + 2) lv (vr k :: st) r m Q) : RR X d M n0 n' n pc lv (vi z :: st) r m Q := by
  intro p R e s mm args below meth c H locs ls F G K E
  have kk := @kk p R e s mm args below meth c
  have hzs := zs_s hq
  have hsz : kz_sz (.inl (newarray.typeOf aty, len)) = len := rfl
  rw [hsz] at hzs
  have hR1 := G.2.2.1
  have hR2 := G.2.2.2
  have hm1 := zs_mono E.1
  have hm2 := zs_mono hn1
  subst hkn
  have hcb : componentBytes (newarray.typeOf aty) ≤ 8 := by cases aty <;> decide
  refine va_newaK F.x F.b (F.t _ hcl) rfl hdg (rest := st.map (cv X)) rfl (n := Int32.ofInt z) (N := len) (by rw [kz_lt0, hzl]; omega) (by rw [kz_ix, hzl]; rfl) (Nat.le_trans (Nat.mul_le_mul hlen hcb) (by decide)) (by omega) (by omega) (h := H.size) rfl fun H1 cA e1 z1 o1 _ hf => ?_
  have hs := K.1.1
  have hA := (F.cx.1.2 _ hty).2
  cases hf.symm.trans hA
  have hcell : cellAt X (.inl (newarray.typeOf aty, len)) (n + 1) r m H1 := by
    show H1[xB X + (n + 1)]? = _
    rw [show xB X + (n + 1) = H.size by omega, e1]
    congr 2
    funext j
    rw [(hz j).1, (hz j).2]
    exact fldv_ok _ hok
  have k9 := kk (H := H1) (locs := locs) (ls := ls) F G ⟨K.1.grow hq z1 o1 hcell, K.2.1.grow z1 o1, K.2.2⟩ ⟨by omega, hn1⟩
  have ea : adr X ((n + 1 : Nat) : Int) = H.size := by
    rw [show adr X ((n + 1 : Nat) : Int) = xB X + ((n + 1 : Nat) : Int).toNat from if_pos hk1]
    omega
  rw [show n + 1 - n0 = n - n0 + 1 by omega, show zs (n + 1) - zs n0 = zs n - zs n0 + len by omega] at k9
  rw [← ea]
  exact k9
end RW2
