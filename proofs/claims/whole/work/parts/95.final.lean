/-! THE CLAIM OUT OF ONE WALK OF THE LAW'S BODY. Your part is whole_start (and what it stands on); all else here is the same for every law, but numbers. -/
def R_law : String := "WokenByKettleLaw"
def lw_P (b : Addr) (xs : List Int32) (args : Array Value) (s : State) : Prop := args = #[.ref b] ∧ s.IntsAt b xs ∧ xs.length ≤ 3072 ∧ (Jvm.Cond.and given_1 narrow_1).before args s = true
def lw_Q (_ : Array Value) (s : State) (o : Outcome) (t : State) : Prop := o = .returned (some (.int 1)) ∧ Framed s o t [] 600000 7302250
def lw_Z (below : List Frame) (a : Array Value) (s : State) : State → Prop := fun t => ∃ o, t.status = .running ∧ Ended t below o ∧ lw_Q a s o t
/-- the law's own end, with 1 on the stack, nothing written that was there before, its room as the claim has it -/
theorem lw_ret {p : Program} {l : Launch} {e : Env} {s : State} {m : MethodId} {below : List Frame} {meth : Method} {c : Code} {b : Nat} (hx : p.tables.exec = Jvm.exec) (hb : c.code = code) (hr : meth.sig.returnType = ret) (hlocks : meth.locks = false) {pc : Nat} {H : Heap} {ls : Array Slot} (hdg : decode code pc = .ok (.ireturn, 1)) : W p l e room_1 s m #[Value.ref b] below meth c H [] 600000 7302250 (lw_Z below #[Value.ref b] s) (F0 m pc ls [.int 1]) := by
  intro T hT X
  obtain ⟨fs, hret, hrun, hended, hW, hframe⟩ := X.leave (v := some (.int 1)) (hlocks := hlocks) (fun h => by rw [hr] at h; cases h)
  have hmeth' : T.vm.method? m = some meth := X.method'
  refine ⟨T.setFrames fs, ?_, .returned (some (.int 1)), hrun, hended, rfl, ⟨_, rfl⟩, hW, hframe⟩
  jvm_step X.here [X.here.top, hx, hb, hdg, hmeth', hr, ret, narrow_b1]
  (try refine ⟨rfl, ?_⟩); (try refine ⟨rfl, ?_⟩)
  first | (intro acts; rw [hret _ acts rfl rfl rfl]) | rw [hret _ _ rfl rfl rfl]
  exact Steps.refl _
/-- what holds at the law's entry: the machine, the code, the tables' words (any of lw_tbl by 'hts w (by decide +kernel)'), the script of L ints xs at the cell b, what the Statement gives of the start (any of its parts by flat_of_before) -/
def lw_At (p : Program) (s : State) (m : MethodId) (meth : Method) (c : Code) (b L : Nat) (xs : Nat → Int32) : Prop :=
  p.tables.exec = Jvm.exec ∧ c.code = code ∧ meth.sig.returnType = ret ∧ c.maxLocals = 4 ∧ s.vm.findClass R_law = some m.cls ∧ (∀ w ∈ lw_tbl, w.before #[Value.ref b] s = true) ∧ va_X b L xs s s.heap ∧ b < s.heap.size ∧ meth.locks = false ∧ (Jvm.Cond.and given_1 narrow_1).before #[Value.ref b] s = true
theorem kz_mono {p : Program} {l : Launch} {e : Env} {R : Room} {s : State} {m : MethodId} {args : Array Value} {below : List Frame} {meth : Method} {c : Code} {H : Heap} {locs : List Loc} {cells slots : Nat} {Q Q' : State → Prop} {g : JFrame} (h : ∀ t, Q t → Q' t) (k : W p l e R s m args below meth c H locs cells slots Q g) : W p l e R s m args below meth c H locs cells slots Q' g := by
  intro T hT X
  obtain ⟨t, a, b⟩ := k T hT X
  exact ⟨t, a, h t b⟩
theorem inst_ok : ∀ (ci : Nat) (c : vw_C), clsT[ci]? = some c → Cond.instantiable c.1 c.2.2 ∈ Tg := by
  intro ci c h
  match ci, h with
  | 0, h => cases h; exact mT 162 (by decide +kernel) rfl
  | 1, h => cases h; exact mT 170 (by decide +kernel) rfl
  | 2, h => cases h; exact mT 178 (by decide +kernel) rfl
  | 3, h => cases h; exact mT 245 (by decide +kernel) rfl
  | 4, h => cases h; exact mT 286 (by decide +kernel) rfl
  | 5, h => cases h; exact mT 332 (by decide +kernel) rfl
  | 6, h => cases h; exact mT 351 (by decide +kernel) rfl
  | 7, h => cases h; exact mT 382 (by decide +kernel) rfl
  | 8, h => cases h; exact mT 414 (by decide +kernel) rfl
  | 9, h => cases h; exact mT 442 (by decide +kernel) rfl
  | 10, h => cases h; exact mT 471 (by decide +kernel) rfl
  | 11, h => cases h; exact mT 498 (by decide +kernel) rfl
  | 12, h => cases h; exact mT 1212 (by decide +kernel) rfl
  | n + 13, h => simp [clsT] at h
theorem mW {w : Cond} (i : Nat) (h : lw_tbl[i]? = some w) : w ∈ lw_tbl := List.mem_of_getElem? h
set_option maxRecDepth 20000 in
theorem ext_ok0 {s : State} {args : Array Value} {A : Nat → Prop} (hts : ∀ w ∈ lw_tbl, w.before args s = true) (hs : ∀ w ∈ flatC (Jvm.Cond.and given_1 narrow_1), w.before args s = true) (hA : ∀ a : Nat, a < s.heap.size → ¬ A a) : ∃ t : Nat, va_Z "WokenByKettle$Kitchen" "LEAST" "[I" (.ref t) A s s.heap ∧ va_T .int t 13 (fun j => .int (Int32.ofInt (([0, 0, 0, 1, 0, 0, 0, 0, 0, 0, 0, 0, 0] : List Int).getD j 0))) A s s.heap := by
  have h1 : (Cond.arrayOf (Term.static "WokenByKettle$Kitchen" "LEAST" "[I") .int).before args s = true := hs _ (by decide +kernel)
  have h2 : (Cond.eq (.length (Term.static "WokenByKettle$Kitchen" "LEAST" "[I")) (.int 13)).before args s = true := hs _ (by decide +kernel)
  obtain ⟨t, e1, e2⟩ := va_Tof (N := 13) (f := fun j => .int (Int32.ofInt (([0, 0, 0, 1, 0, 0, 0, 0, 0, 0, 0, 0, 0] : List Int).getD j 0))) (by decide) h1 (va_eqt h2) (fun j hj => by
    match j, hj with
    | 0, _ => exact va_eqt (z := Int32.ofInt 0) (hs _ (by decide +kernel))
    | 1, _ => exact va_eqt (z := Int32.ofInt 0) (hs _ (by decide +kernel))
    | 2, _ => exact va_eqt (z := Int32.ofInt 0) (hs _ (by decide +kernel))
    | 3, _ => exact va_eqt (z := Int32.ofInt 1) (hs _ (by decide +kernel))
    | 4, _ => exact va_eqt (z := Int32.ofInt 0) (hs _ (by decide +kernel))
    | 5, _ => exact va_eqt (z := Int32.ofInt 0) (hs _ (by decide +kernel))
    | 6, _ => exact va_eqt (z := Int32.ofInt 0) (hs _ (by decide +kernel))
    | 7, _ => exact va_eqt (z := Int32.ofInt 0) (hs _ (by decide +kernel))
    | 8, _ => exact va_eqt (z := Int32.ofInt 0) (hs _ (by decide +kernel))
    | 9, _ => exact va_eqt (z := Int32.ofInt 0) (hs _ (by decide +kernel))
    | 10, _ => exact va_eqt (z := Int32.ofInt 0) (hs _ (by decide +kernel))
    | 11, _ => exact va_eqt (z := Int32.ofInt 0) (hs _ (by decide +kernel))
    | 12, _ => exact va_eqt (z := Int32.ofInt 0) (hs _ (by decide +kernel))
    | k + 13, h => exact absurd h (by omega)) hA
  exact ⟨t, va_Zref (hts _ (mW 565 (by decide +kernel))) (hts _ (mW 145 (by decide +kernel))) e1 hA, e2⟩
set_option maxRecDepth 20000 in
theorem ext_ok1 {s : State} {args : Array Value} {A : Nat → Prop} (hts : ∀ w ∈ lw_tbl, w.before args s = true) (hs : ∀ w ∈ flatC (Jvm.Cond.and given_1 narrow_1), w.before args s = true) (hA : ∀ a : Nat, a < s.heap.size → ¬ A a) : ∃ t : Nat, va_Z "WokenByKettle$Kitchen" "GREATEST" "[I" (.ref t) A s s.heap ∧ va_T .int t 13 (fun j => .int (Int32.ofInt (([511, 1, 12, 60, 9, 99, 9, 1, 300, 20, 20, 8, 8] : List Int).getD j 0))) A s s.heap := by
  have h1 : (Cond.arrayOf (Term.static "WokenByKettle$Kitchen" "GREATEST" "[I") .int).before args s = true := hs _ (by decide +kernel)
  have h2 : (Cond.eq (.length (Term.static "WokenByKettle$Kitchen" "GREATEST" "[I")) (.int 13)).before args s = true := hs _ (by decide +kernel)
  obtain ⟨t, e1, e2⟩ := va_Tof (N := 13) (f := fun j => .int (Int32.ofInt (([511, 1, 12, 60, 9, 99, 9, 1, 300, 20, 20, 8, 8] : List Int).getD j 0))) (by decide) h1 (va_eqt h2) (fun j hj => by
    match j, hj with
    | 0, _ => exact va_eqt (z := Int32.ofInt 511) (hs _ (by decide +kernel))
    | 1, _ => exact va_eqt (z := Int32.ofInt 1) (hs _ (by decide +kernel))
    | 2, _ => exact va_eqt (z := Int32.ofInt 12) (hs _ (by decide +kernel))
    | 3, _ => exact va_eqt (z := Int32.ofInt 60) (hs _ (by decide +kernel))
    | 4, _ => exact va_eqt (z := Int32.ofInt 9) (hs _ (by decide +kernel))
    | 5, _ => exact va_eqt (z := Int32.ofInt 99) (hs _ (by decide +kernel))
    | 6, _ => exact va_eqt (z := Int32.ofInt 9) (hs _ (by decide +kernel))
    | 7, _ => exact va_eqt (z := Int32.ofInt 1) (hs _ (by decide +kernel))
    | 8, _ => exact va_eqt (z := Int32.ofInt 300) (hs _ (by decide +kernel))
    | 9, _ => exact va_eqt (z := Int32.ofInt 20) (hs _ (by decide +kernel))
    | 10, _ => exact va_eqt (z := Int32.ofInt 20) (hs _ (by decide +kernel))
    | 11, _ => exact va_eqt (z := Int32.ofInt 8) (hs _ (by decide +kernel))
    | 12, _ => exact va_eqt (z := Int32.ofInt 8) (hs _ (by decide +kernel))
    | k + 13, h => exact absurd h (by omega)) hA
  exact ⟨t, va_Zref (hts _ (mW 567 (by decide +kernel))) (hts _ (mW 145 (by decide +kernel))) e1 hA, e2⟩
set_option maxRecDepth 20000 in
theorem ext_ok2 {s : State} {args : Array Value} {A : Nat → Prop} (hts : ∀ w ∈ lw_tbl, w.before args s = true) (hs : ∀ w ∈ flatC (Jvm.Cond.and given_1 narrow_1), w.before args s = true) (hA : ∀ a : Nat, a < s.heap.size → ¬ A a) : ∃ t : Nat, va_Z "WokenByKettle$Law" "SIGNS" "[C" (.ref t) A s s.heap ∧ va_T .char t 10 (fun j => .int (Int32.ofInt (([124, 38, 60, 61, 62, 43, 45, 42, 47, 37] : List Int).getD j 0))) A s s.heap := by
  have h1 : (Cond.arrayOf (Term.static "WokenByKettle$Law" "SIGNS" "[C") .char).before args s = true := hs _ (by decide +kernel)
  have h2 : (Cond.eq (.length (Term.static "WokenByKettle$Law" "SIGNS" "[C")) (.int 10)).before args s = true := hs _ (by decide +kernel)
  obtain ⟨t, e1, e2⟩ := va_Tof (N := 10) (f := fun j => .int (Int32.ofInt (([124, 38, 60, 61, 62, 43, 45, 42, 47, 37] : List Int).getD j 0))) (by decide) h1 (va_eqt h2) (fun j hj => by
    match j, hj with
    | 0, _ => exact va_eqt (z := Int32.ofInt 124) (hs _ (by decide +kernel))
    | 1, _ => exact va_eqt (z := Int32.ofInt 38) (hs _ (by decide +kernel))
    | 2, _ => exact va_eqt (z := Int32.ofInt 60) (hs _ (by decide +kernel))
    | 3, _ => exact va_eqt (z := Int32.ofInt 61) (hs _ (by decide +kernel))
    | 4, _ => exact va_eqt (z := Int32.ofInt 62) (hs _ (by decide +kernel))
    | 5, _ => exact va_eqt (z := Int32.ofInt 43) (hs _ (by decide +kernel))
    | 6, _ => exact va_eqt (z := Int32.ofInt 45) (hs _ (by decide +kernel))
    | 7, _ => exact va_eqt (z := Int32.ofInt 42) (hs _ (by decide +kernel))
    | 8, _ => exact va_eqt (z := Int32.ofInt 47) (hs _ (by decide +kernel))
    | 9, _ => exact va_eqt (z := Int32.ofInt 37) (hs _ (by decide +kernel))
    | k + 10, h => exact absurd h (by omega)) hA
  exact ⟨t, va_Zref (hts _ (mW 694 (by decide +kernel))) (hts _ (mW 146 (by decide +kernel))) e1 hA, e2⟩
set_option maxRecDepth 20000 in
theorem ext_ok3 {s : State} {args : Array Value} {A : Nat → Prop} (hts : ∀ w ∈ lw_tbl, w.before args s = true) (hs : ∀ w ∈ flatC (Jvm.Cond.and given_1 narrow_1), w.before args s = true) (hA : ∀ a : Nat, a < s.heap.size → ¬ A a) : ∃ t : Nat, va_Z "WokenByKettle$Law" "LEVEL_OF_SIGN" "[I" (.ref t) A s s.heap ∧ va_T .int t 10 (fun j => .int (Int32.ofInt (([0, 1, 2, 2, 2, 3, 3, 4, 4, 4] : List Int).getD j 0))) A s s.heap := by
  have h1 : (Cond.arrayOf (Term.static "WokenByKettle$Law" "LEVEL_OF_SIGN" "[I") .int).before args s = true := hs _ (by decide +kernel)
  have h2 : (Cond.eq (.length (Term.static "WokenByKettle$Law" "LEVEL_OF_SIGN" "[I")) (.int 10)).before args s = true := hs _ (by decide +kernel)
  obtain ⟨t, e1, e2⟩ := va_Tof (N := 10) (f := fun j => .int (Int32.ofInt (([0, 1, 2, 2, 2, 3, 3, 4, 4, 4] : List Int).getD j 0))) (by decide) h1 (va_eqt h2) (fun j hj => by
    match j, hj with
    | 0, _ => exact va_eqt (z := Int32.ofInt 0) (hs _ (by decide +kernel))
    | 1, _ => exact va_eqt (z := Int32.ofInt 1) (hs _ (by decide +kernel))
    | 2, _ => exact va_eqt (z := Int32.ofInt 2) (hs _ (by decide +kernel))
    | 3, _ => exact va_eqt (z := Int32.ofInt 2) (hs _ (by decide +kernel))
    | 4, _ => exact va_eqt (z := Int32.ofInt 2) (hs _ (by decide +kernel))
    | 5, _ => exact va_eqt (z := Int32.ofInt 3) (hs _ (by decide +kernel))
    | 6, _ => exact va_eqt (z := Int32.ofInt 3) (hs _ (by decide +kernel))
    | 7, _ => exact va_eqt (z := Int32.ofInt 4) (hs _ (by decide +kernel))
    | 8, _ => exact va_eqt (z := Int32.ofInt 4) (hs _ (by decide +kernel))
    | 9, _ => exact va_eqt (z := Int32.ofInt 4) (hs _ (by decide +kernel))
    | k + 10, h => exact absurd h (by omega)) hA
  exact ⟨t, va_Zref (hts _ (mW 696 (by decide +kernel))) (hts _ (mW 146 (by decide +kernel))) e1 hA, e2⟩
set_option maxRecDepth 20000 in
theorem ext_ok4 {s : State} {args : Array Value} {A : Nat → Prop} (hts : ∀ w ∈ lw_tbl, w.before args s = true) (hs : ∀ w ∈ flatC (Jvm.Cond.and given_1 narrow_1), w.before args s = true) (hA : ∀ a : Nat, a < s.heap.size → ¬ A a) : ∃ t : Nat, va_Z "WokenByKettle$Law" "NAMES" "[C" (.ref t) A s s.heap ∧ va_T .char t 6 (fun j => .int (Int32.ofInt (([119, 100, 97, 101, 103, 112] : List Int).getD j 0))) A s s.heap := by
  have h1 : (Cond.arrayOf (Term.static "WokenByKettle$Law" "NAMES" "[C") .char).before args s = true := hs _ (by decide +kernel)
  have h2 : (Cond.eq (.length (Term.static "WokenByKettle$Law" "NAMES" "[C")) (.int 6)).before args s = true := hs _ (by decide +kernel)
  obtain ⟨t, e1, e2⟩ := va_Tof (N := 6) (f := fun j => .int (Int32.ofInt (([119, 100, 97, 101, 103, 112] : List Int).getD j 0))) (by decide) h1 (va_eqt h2) (fun j hj => by
    match j, hj with
    | 0, _ => exact va_eqt (z := Int32.ofInt 119) (hs _ (by decide +kernel))
    | 1, _ => exact va_eqt (z := Int32.ofInt 100) (hs _ (by decide +kernel))
    | 2, _ => exact va_eqt (z := Int32.ofInt 97) (hs _ (by decide +kernel))
    | 3, _ => exact va_eqt (z := Int32.ofInt 101) (hs _ (by decide +kernel))
    | 4, _ => exact va_eqt (z := Int32.ofInt 103) (hs _ (by decide +kernel))
    | 5, _ => exact va_eqt (z := Int32.ofInt 112) (hs _ (by decide +kernel))
    | k + 6, h => exact absurd h (by omega)) hA
  exact ⟨t, va_Zref (hts _ (mW 680 (by decide +kernel))) (hts _ (mW 146 (by decide +kernel))) e1 hA, e2⟩
set_option maxRecDepth 20000 in
theorem ext_ok5 {s : State} {args : Array Value} {A : Nat → Prop} (hts : ∀ w ∈ lw_tbl, w.before args s = true) (hs : ∀ w ∈ flatC (Jvm.Cond.and given_1 narrow_1), w.before args s = true) (hA : ∀ a : Nat, a < s.heap.size → ¬ A a) : ∃ t : Nat, va_Z "WokenByKettle$Acts" "ABOVE" "[I" (.ref t) A s s.heap ∧ va_T .int t 8 (fun j => .int (Int32.ofInt (([-1, 0, 0, 2, 1, 3, 0, 6] : List Int).getD j 0))) A s s.heap := by
  have h1 : (Cond.arrayOf (Term.static "WokenByKettle$Acts" "ABOVE" "[I") .int).before args s = true := hs _ (by decide +kernel)
  have h2 : (Cond.eq (.length (Term.static "WokenByKettle$Acts" "ABOVE" "[I")) (.int 8)).before args s = true := hs _ (by decide +kernel)
  obtain ⟨t, e1, e2⟩ := va_Tof (N := 8) (f := fun j => .int (Int32.ofInt (([-1, 0, 0, 2, 1, 3, 0, 6] : List Int).getD j 0))) (by decide) h1 (va_eqt h2) (fun j hj => by
    match j, hj with
    | 0, _ => exact va_eqt (z := Int32.ofInt (-1)) (hs _ (by decide +kernel))
    | 1, _ => exact va_eqt (z := Int32.ofInt 0) (hs _ (by decide +kernel))
    | 2, _ => exact va_eqt (z := Int32.ofInt 0) (hs _ (by decide +kernel))
    | 3, _ => exact va_eqt (z := Int32.ofInt 2) (hs _ (by decide +kernel))
    | 4, _ => exact va_eqt (z := Int32.ofInt 1) (hs _ (by decide +kernel))
    | 5, _ => exact va_eqt (z := Int32.ofInt 3) (hs _ (by decide +kernel))
    | 6, _ => exact va_eqt (z := Int32.ofInt 0) (hs _ (by decide +kernel))
    | 7, _ => exact va_eqt (z := Int32.ofInt 6) (hs _ (by decide +kernel))
    | k + 8, h => exact absurd h (by omega)) hA
  exact ⟨t, va_Zref (hts _ (mW 1129 (by decide +kernel))) (hts _ (mW 154 (by decide +kernel))) e1 hA, e2⟩
set_option maxRecDepth 20000 in
theorem ext_ok6 {s : State} {args : Array Value} {A : Nat → Prop} (hts : ∀ w ∈ lw_tbl, w.before args s = true) (hs : ∀ w ∈ flatC (Jvm.Cond.and given_1 narrow_1), w.before args s = true) (hA : ∀ a : Nat, a < s.heap.size → ¬ A a) : ∃ t : Nat, va_Z "WokenByKettle$Acts" "OWN_BODY" "[I" (.ref t) A s s.heap ∧ va_T .int t 32 (fun j => .int (Int32.ofInt (([1, 20, 0, 0, 0, 0, 70, 81, 10, 0, 30, 41, 0, 0, 0, 80, 11, 0, 0, 40, 0, 60, 0, 0, 2, 0, 0, 0, 50, 61, 0, 0] : List Int).getD j 0))) A s s.heap := by
  have h1 : (Cond.arrayOf (Term.static "WokenByKettle$Acts" "OWN_BODY" "[I") .int).before args s = true := hs _ (by decide +kernel)
  have h2 : (Cond.eq (.length (Term.static "WokenByKettle$Acts" "OWN_BODY" "[I")) (.int 32)).before args s = true := hs _ (by decide +kernel)
  obtain ⟨t, e1, e2⟩ := va_Tof (N := 32) (f := fun j => .int (Int32.ofInt (([1, 20, 0, 0, 0, 0, 70, 81, 10, 0, 30, 41, 0, 0, 0, 80, 11, 0, 0, 40, 0, 60, 0, 0, 2, 0, 0, 0, 50, 61, 0, 0] : List Int).getD j 0))) (by decide) h1 (va_eqt h2) (fun j hj => by
    match j, hj with
    | 0, _ => exact va_eqt (z := Int32.ofInt 1) (hs _ (by decide +kernel))
    | 1, _ => exact va_eqt (z := Int32.ofInt 20) (hs _ (by decide +kernel))
    | 2, _ => exact va_eqt (z := Int32.ofInt 0) (hs _ (by decide +kernel))
    | 3, _ => exact va_eqt (z := Int32.ofInt 0) (hs _ (by decide +kernel))
    | 4, _ => exact va_eqt (z := Int32.ofInt 0) (hs _ (by decide +kernel))
    | 5, _ => exact va_eqt (z := Int32.ofInt 0) (hs _ (by decide +kernel))
    | 6, _ => exact va_eqt (z := Int32.ofInt 70) (hs _ (by decide +kernel))
    | 7, _ => exact va_eqt (z := Int32.ofInt 81) (hs _ (by decide +kernel))
    | 8, _ => exact va_eqt (z := Int32.ofInt 10) (hs _ (by decide +kernel))
    | 9, _ => exact va_eqt (z := Int32.ofInt 0) (hs _ (by decide +kernel))
    | 10, _ => exact va_eqt (z := Int32.ofInt 30) (hs _ (by decide +kernel))
    | 11, _ => exact va_eqt (z := Int32.ofInt 41) (hs _ (by decide +kernel))
    | 12, _ => exact va_eqt (z := Int32.ofInt 0) (hs _ (by decide +kernel))
    | 13, _ => exact va_eqt (z := Int32.ofInt 0) (hs _ (by decide +kernel))
    | 14, _ => exact va_eqt (z := Int32.ofInt 0) (hs _ (by decide +kernel))
    | 15, _ => exact va_eqt (z := Int32.ofInt 80) (hs _ (by decide +kernel))
    | 16, _ => exact va_eqt (z := Int32.ofInt 11) (hs _ (by decide +kernel))
    | 17, _ => exact va_eqt (z := Int32.ofInt 0) (hs _ (by decide +kernel))
    | 18, _ => exact va_eqt (z := Int32.ofInt 0) (hs _ (by decide +kernel))
    | 19, _ => exact va_eqt (z := Int32.ofInt 40) (hs _ (by decide +kernel))
    | 20, _ => exact va_eqt (z := Int32.ofInt 0) (hs _ (by decide +kernel))
    | 21, _ => exact va_eqt (z := Int32.ofInt 60) (hs _ (by decide +kernel))
    | 22, _ => exact va_eqt (z := Int32.ofInt 0) (hs _ (by decide +kernel))
    | 23, _ => exact va_eqt (z := Int32.ofInt 0) (hs _ (by decide +kernel))
    | 24, _ => exact va_eqt (z := Int32.ofInt 2) (hs _ (by decide +kernel))
    | 25, _ => exact va_eqt (z := Int32.ofInt 0) (hs _ (by decide +kernel))
    | 26, _ => exact va_eqt (z := Int32.ofInt 0) (hs _ (by decide +kernel))
    | 27, _ => exact va_eqt (z := Int32.ofInt 0) (hs _ (by decide +kernel))
    | 28, _ => exact va_eqt (z := Int32.ofInt 50) (hs _ (by decide +kernel))
    | 29, _ => exact va_eqt (z := Int32.ofInt 61) (hs _ (by decide +kernel))
    | 30, _ => exact va_eqt (z := Int32.ofInt 0) (hs _ (by decide +kernel))
    | 31, _ => exact va_eqt (z := Int32.ofInt 0) (hs _ (by decide +kernel))
    | k + 32, h => exact absurd h (by omega)) hA
  exact ⟨t, va_Zref (hts _ (mW 1127 (by decide +kernel))) (hts _ (mW 154 (by decide +kernel))) e1 hA, e2⟩
theorem kz_arr {s : State} {args : Array Value} {ty : FieldType} (h : (Cond.arrayClass ty).before args s = true) : ∃ cA, ArrOfT s cA ty ∧ s.vm.findClass ("[" ++ ty.toString) = some cA := by
  obtain ⟨c, k, comp, h1, h2, h3⟩ := Cond.arrayClass_spec h
  exact ⟨c, fun n z => ⟨fun k h => (by cases h), k, h2, comp, h3⟩, h1⟩
theorem kz_arr2 {s : State} {ty : FieldType} (h : kz_AO ty s) : ∃ cA, ArrOfT s cA (.array ty) ∧ s.vm.findClass ("[" ++ (FieldType.array ty).toString) = some cA := by
  obtain ⟨comp, c, k, h1, h2, h3, h4, h5⟩ := kz_AOs h
  exact ⟨c, fun n z => ⟨fun k h => (by cases h), k, h3, comp, h4⟩, h5⟩
set_option maxHeartbeats 4000000 in
set_option maxRecDepth 100000 in
theorem whole_start {p : Program} {e : Env} {s : State} {m : MethodId} {below : List Frame} {meth : Method} {c : Code} (l : Launch) (hflags : l.flags = flags0) {b L : Nat} {xs : Nat → Int32} (hL : L ≤ 3072) (C0 : lw_At p s m meth c b L xs) : W p l e room_1 s m #[Value.ref b] below meth c s.heap [] 0 0 (lw_Z below #[Value.ref b] s) (entryFrame m ([Value.ref b] : List Value).toArray 4) := by
  obtain ⟨hx, hb, hr, hml, hown, hts, hX, hbl, hlocks, hgv⟩ := id C0
  have htg : ∀ w ∈ Tg, w.before #[Value.ref b] s = true := fun w hw => hts w (List.mem_filter.mp hw).1
  -- classes
  have hcls : ∀ ci : Nat, ∃ (cC : ClassId) (iS : Nat → Nat), ∀ q : vw_C, clsT[ci]? = some q → u_Kn s q.1 q.2.1 q.2.2 cC iS := by
    intro ci
    cases hq : clsT[ci]? with
    | none => exact ⟨0, fun _ => 0, fun q h => by cases h⟩
    | some q =>
      obtain ⟨cC, iS, h⟩ := u_known htg (clsW ci q hq).1 (htg _ (inst_ok ci q hq))
      exact ⟨cC, iS, fun q' h' => by cases h'; exact h⟩
  -- nest words, arrays over arrays
  have hnst : Nst s := by
    refine ⟨fun w hw => ?_, ?_, ?_⟩
    · have h1 := List.mem_filter.mp hw
      have h2 := hts w (List.mem_append_right _ h1.1)
      have h3 := h1.2
      cases w with
      | fieldLinkNest a b c d e f => exact va_Nw.of rfl h2
      | methodLinkNest a b c d => exact va_Nw.of rfl h2
      | _ => exact absurd h3 (by simp [kz_nest])
    · exact hts (.arrayOver (.array .int)) (mW 176 (by decide +kernel))
    · exact hts (.arrayOver (.array .long)) (mW 504 (by decide +kernel))
  obtain ⟨aI, aI1⟩ := kz_arr (hts (.arrayClass .int) (mW 213 (by decide +kernel)))
  obtain ⟨aL, aL1⟩ := kz_arr (hts (.arrayClass .long) (mW 330 (by decide +kernel)))
  obtain ⟨aB, aB1⟩ := kz_arr (hts (.arrayClass .byte) (mW 1382 (by decide +kernel)))
  obtain ⟨aS, aS1⟩ := kz_arr (hts (.arrayClass .short) (mW 1383 (by decide +kernel)))
  obtain ⟨aII, aII1⟩ := kz_arr2 hnst.2.1
  obtain ⟨aLL, aLL1⟩ := kz_arr2 hnst.2.2
  have hA : ∀ a : Nat, a < s.heap.size → ¬ (fun a => s.heap.size - 1 < a) a := fun a h q => by
    have : s.heap.size - 1 < a := q
    omega
  have hs := flat_of_before _ hgv
  obtain ⟨e0, e0Z, e0T⟩ := ext_ok0 hts hs hA
  obtain ⟨e1, e1Z, e1T⟩ := ext_ok1 hts hs hA
  obtain ⟨e2, e2Z, e2T⟩ := ext_ok2 hts hs hA
  obtain ⟨e3, e3Z, e3T⟩ := ext_ok3 hts hs hA
  obtain ⟨e4, e4Z, e4T⟩ := ext_ok4 hts hs hA
  obtain ⟨e5, e5Z, e5T⟩ := ext_ok5 hts hs hA
  obtain ⟨e6, e6Z, e6T⟩ := ext_ok6 hts hs hA
  let X : Cx := (l, fun ci => Classical.choose (hcls ci), fun ci => Classical.choose (Classical.choose_spec (hcls ci)), fun ty => match ty with
    | .int => aI
    | .long => aL
    | .byte => aB
    | .short => aS
    | .array .int => aII
    | _ => aLL, s.heap.size - 1, fun e => match e with
    | 0 => e0
    | 1 => e1
    | 2 => e2
    | 3 => e3
    | 4 => e4
    | 5 => e5
    | 6 => e6
    | _ => b, L, fun j => (xs j).toInt)
  have hC : CtxS X s := by
    refine ⟨⟨fun ci q hq => Classical.choose_spec (Classical.choose_spec (hcls ci)) q hq, fun ty hty => ?_⟩, ⟨fun e q he => ?_, ?_⟩, hnst⟩
    · rcases List.mem_cons.mp hty with rfl | hty
      · exact aI1
      rcases List.mem_cons.mp hty with rfl | hty
      · exact aL1
      rcases List.mem_cons.mp hty with rfl | hty
      · exact aB1
      rcases List.mem_cons.mp hty with rfl | hty
      · exact aS1
      rcases List.mem_cons.mp hty with rfl | hty
      · exact aII1
      rcases List.mem_cons.mp hty with rfl | hty
      · exact aLL1
      · cases hty
    · match e, he with
      | 0, h => cases h; exact ⟨e0Z, e0T⟩
      | 1, h => cases h; exact ⟨e1Z, e1T⟩
      | 2, h => cases h; exact ⟨e2Z, e2T⟩
      | 3, h => cases h; exact ⟨e3Z, e3T⟩
      | 4, h => cases h; exact ⟨e4Z, e4T⟩
      | 5, h => cases h; exact ⟨e5Z, e5T⟩
      | 6, h => cases h; exact ⟨e6Z, e6T⟩
      | n + 7, h => simp [exts] at h
    · obtain ⟨scr, h1, h2, h3, h4, h5⟩ := hX
      refine ⟨scr, h1, h2, h3, by rw [h4]; exact Nat.le_refl _, by rw [h4], fun j hj => ?_, hA b hbl⟩
      rw [h5 j hj]
      show _ = some (Value.int (Int32.ofInt (xs j).toInt))
      rw [i32_rt]
  have hz : s.heap.size = xB X + 0 + 1 := by show s.heap.size = s.heap.size - 1 + 0 + 1; omega
  have F : Fx X mW_law 0 p s m #[Value.ref b] meth c := ⟨hx, hb, hr, hml, hown, htg, hlocks, fun q => absurd q (by decide), hC, hz⟩
  have hW : Wd X 0 (fun _ _ => 0) (fun _ _ => 0) s.heap := ⟨hz, fun k q h1 h2 => absurd h1 (by omega)⟩
  have hl := lv_entry ([.ref b]) (n := 4) (Nat.le_of_ble_eq_true rfl)
  rw [lg_entry_eq]
  generalize (lg_sl ([.ref b]) ++ List.replicate (4 - (lg_sl ([.ref b])).length) Slot.unset).toArray = ls at hl ⊢
  have hl : lv_has ls 4 (lvV X [(0, vr 1007)]) := hl
  have hRm : Rm 84 0 NT room_1 := ⟨by decide, by decide, by decide, by decide +kernel⟩
  have k := law_run (X := X) hL (fun j => ⟨Int32.le_toInt (xs j), Int32.toInt_lt (xs j)⟩) (e := e) (below := below) F hRm ⟨hW, va_S.rf, hl⟩ ⟨Nat.le_refl _, by decide⟩
  refine kz_mono (fun t ht => ?_) k
  obtain ⟨o, h1, h2, ⟨⟨z, r, mm, h3, ⟨sw, -, rfl⟩, h5⟩, h6⟩, L9, h7, h8⟩ := ht
  refine ⟨o, h1, h2, h3, ?_⟩
  have h9 : s.sameButNew { t with vm := s.vm } ([] ++ L9) (NT - 0) (zs NT - zs 0) := h7.2.2
  exact ⟨h7.1, h7.2.1, (h9.drop_fresh (fun x hx => by have := h8 x hx; have e : xB X = s.heap.size - 1 := rfl; omega)).mono (by decide) (by decide +kernel)⟩
set_option maxHeartbeats 4000000 in
theorem lw_walk (l : Launch) (hflags : l.flags = flags0) (b : Addr) (xs : List Int32) : MetFree l x (headSpec (Jvm.Cond.code x code maxLocals ret :: tables_1) room_1) (lw_P b xs) (fun _ _ _ _ _ => True) lw_Q := by
  refine MetFree.of_bodyS (code := code) (maxLocals := maxLocals) (ret := ret) (by decide) ?_ ?_
  · intro args s m h hn
    obtain ⟨meth, c, h1, h2, h3, h4, h5, h6, -, -⟩ := Cond.code_spec hn (atoms_spec (ws := Jvm.Cond.code x code maxLocals ret :: tables_1) h _ List.mem_cons_self)
    exact ⟨meth, c, h1, h2, h3, h4, h5, h6⟩
  · intro p e s m args below meth c s₁ B hml0 hP _
    obtain ⟨rfl, hx, hbd, hgv⟩ := hP
    obtain ⟨scr, harrAt, hlist, hof, hsmall⟩ := hx
    obtain ⟨hcb, hkn, -, -⟩ := State.arrayAt?_spec harrAt
    have hown : s.vm.findClass R_law = some m.cls := findClass_of_methodNamed B.named
    have hts0 : ∀ c ∈ (Jvm.Cond.code x code maxLocals ret :: tables_1), c.before #[Value.ref b] s = true := atoms_spec (ws := Jvm.Cond.code x code maxLocals ret :: tables_1) B.pre
    have hts : ∀ w ∈ lw_tbl, w.before #[Value.ref b] s = true := k2_hts_sels lw_privs (fun w hw => hts0 w (List.mem_cons_of_mem _ hw)) lw_privs_ok
    have hml : c.maxLocals = 4 := B.maxLocals_eq (hts0 _ List.mem_cons_self)
    have X₀ : Stand p l e room_1 s m #[Value.ref b] below meth c s₁ [] 0 0 := Stand.of_body B
    have hh0 : s₁.heap = s.heap := by rw [B.state]; rfl
    have hsz : scr.slots.size = xs.length := by rw [← Array.length_toList, hlist, List.length_map]
    have hval : ∀ j : Nat, j < xs.length → scr.slots[j]? = some (.int (xs.getD j 0)) := fun j hj => by
      rw [← Array.getElem?_toList, hlist]
      simp [hj]
    have hbl : b < s.heap.size := (Array.getElem?_eq_some_iff.mp hcb).1
    have hX : va_X b xs.length (fun j => xs.getD j 0) s s.heap := ⟨scr, hcb, hof, hkn, hsz, hval⟩
    have K : W p l e room_1 s m #[Value.ref b] below meth c s₁.heap [] 0 0 (lw_Z below #[Value.ref b] s) (entryFrame m ([Value.ref b] : List Value).toArray 4) := by
      rw [hh0]
      exact whole_start l hflags hbd ⟨B.exec, B.bytes, B.returns, hml, hown, hts, hX, hbl, B.notSynchronized, hgv⟩
    obtain ⟨t, a1, o, b1, b2, b3⟩ := K s₁ rfl X₀
    exact ⟨t, o, a1, b1, b2, b3⟩
theorem lw_pre_spec {args : Array Value} {s : State} (h : (Jvm.Cond.and given_1 narrow_1).before args s = true) (hr : rest_1_c.before args s = true) : ∃ (b : Addr) (xs : List Int32), lw_P b xs args s := by
  have hs := flat_of_before _ h
  have hq := flat_of_before _ hr
  have hc : (Cond.count 1).before args s = true := hs _ (by decide +kernel)
  have harr : (Cond.arrayOf (.arg 0) .int).before args s = true := hs _ (by decide +kernel)
  have hle : (Cond.le (.length (.arg 0)) (.int 3072)).before args s = true := hs _ (by decide +kernel)
  have hlen : (Cond.isInt (.length (.arg 0))).before args s = true := hq _ (by decide +kernel)
  have hall : (Cond.all (.arg 0) (.isInt (.elem (.arg 0) (.index 0)))).before args s = true := hq _ (by decide +kernel)
  obtain ⟨b, xs, hb, hx⟩ := State.ints_of_pre rfl harr hlen hall
  have hsm : xs.length < 2 ^ 31 := hx.choose_spec.2.2.2
  have hev : (Term.length (.arg 0)).eval args s none [] s = some (.int xs.length.toInt32) := hx.length_eval hb
  have hv := Cond.le_ints hev (show (Term.int 3072).eval args s none [] s = some (.int 3072) from rfl)
  have hd : xs.length.toInt32 ≤ 3072 := by
    simpa [Cond.before, Cond.holds, hv] using hle
  have hN : xs.length ≤ 3072 := (Int32.ofNat_le_ofNat hsm (by decide)).mp (show Int32.ofNat xs.length ≤ Int32.ofNat 3072 from hd)
  exact ⟨b, xs, Cond.one_arg hc (show args[0]? = some (.ref b) from hb), hx, hN, h⟩
theorem lw_comes (l : Launch) (hflags : l.flags = flags0) : Comes l x (Jvm.Cond.code x code maxLocals ret :: tables_1) room_1 (fun tb e args s => Calls_1 tb e args s ∧ rest_1 tb e args s ∧ Pre_1 tb e args s)
    (fun _ _ args s o t => lw_Q args s o t) := by
  intro p e ha hc hk s m args below hf hfit hheap happ hpre
  obtain ⟨b, xs, hP⟩ := lw_pre_spec hpre.2.2 hpre.2.1
  obtain ⟨k, o, h1, h2, h3, hQ⟩ := lw_walk l hflags b xs p e ha hc hk s m args below hf ((Spec.applies_iff_loose hf).mp happ).1 hP trivial
  exact ⟨k, o, h1, h2, h3, hQ⟩
theorem lw_frame {s t : State} {o : Outcome} {args : Array Value} (h : Framed s o t [] 600000 7302250) :
    Framed s o t (fieldLocs frame_1_writes args s ++ arrayLocs frame_1_arrays args s ++ staticLocs frame_1_statics s) 600000 7302250 := h
theorem lw_limb (L : Cond) (hL : ∀ (args : Array Value) (s t : State), L.after args s (.returned (some (.int 1))) t = true) :
    ArmFor flags0 classFile x code maxLocals ret World_1 tables_1 room_1 Calls_1 rest_1 Pre_1
      (fun tb e a s o t => postC L tb e a s o t ∧ Framed s o t (fieldLocs frame_1_writes a s ++ arrayLocs frame_1_arrays a s ++ staticLocs frame_1_statics s) 600000 7302250) := by
  intro l hflags _ _ p e ha hc hk s m args below hf hfit hheap happ hpre
  obtain ⟨k, o, h1, h2, h3, rfl, hF⟩ := lw_comes l hflags p e ha hc hk s m args below hf hfit hheap happ hpre
  exact ⟨k, _, h1, h2, h3, hL args s _, lw_frame hF⟩
theorem i_vc : Claimed_1_1 ∧ Claimed_1_2 := ⟨lw_limb limb_1_1 (fun args s t => by simp [limb_1_1, Cond.after, Cond.holds, Cond.value]), lw_limb limb_1_2 (fun args s t => Cond.after_iff.mpr (by
  first | (rw [show limb_1_2 = Cond.eq .result (.int 1) from rfl, Cond.eq_ints (x := 1) (y := 1) rfl rfl]; simp; done) | (simp [limb_1_2, Cond.value, Term.eval]; done)))⟩

