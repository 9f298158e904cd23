/-! the law worked out: the class -/
def StK (row : Int → Int) : List Int → Prop
  | [] => True
  | a :: s => w32 (row (s.length : Int)) = a ∧ StK row s
theorem StK.fr {row row' : Int → Int} : ∀ {s : List Int}, StK row s → (∀ k, 0 ≤ k → k < (s.length : Int) → row' k = row k) → StK row' s
  | [], _, _ => trivial
  | a :: s, h, f => by
    have e : (((a :: s).length : Nat) : Int) = (s.length : Int) + 1 := by rw [List.length_cons]; omega
    exact ⟨by rw [f _ (by omega) (by omega)]; exact h.1, StK.fr h.2 (fun k h1 h2 => f k h1 (by omega))⟩
def rvx (fc : Int → Int) (l : List Int) : Int := ((run fc l []).getD []).headD 0
theorem WF_rvx {l : List Int} (h : WF l) (fc : Int → Int) : run fc l [] = some [rvx fc l] := by
  obtain ⟨v, hv⟩ := h fc
  have e := hv []
  unfold rvx
  rw [e]; rfl
def gvl (fc : Int → Int) : List Ln → Int
  | [] => 0
  | q :: ls => if q.1.length = 0 ∨ ¬ rvx fc q.1 = 0 then rvx fc q.2 else gvl fc ls
theorem w32_mull (x y : Int) : w32 (w32 x * y) = w32 (x * y) := by
  have e1 : w32 x = x - 4294967296 * ((x + 2147483648) / 4294967296) := by rw [w32_eq]; omega
  generalize (x + 2147483648) / 4294967296 = q at e1
  rw [e1, show (x - 4294967296 * q) * y = x * y - 4294967296 * (q * y) by rw [Int.sub_mul, Int.mul_assoc]]
  generalize x * y = xy
  generalize q * y = qy
  simp only [w32_eq]
  omega
theorem w32_mul (x y : Int) : w32 (w32 x * w32 y) = w32 (x * y) := by
  rw [w32_mull, Int.mul_comm, w32_mull, Int.mul_comm]
theorem w32_add (x y : Int) : w32 (w32 x + w32 y) = w32 (x + y) := by simp only [w32_eq]; omega
theorem w32_sub (x y : Int) : w32 (w32 x - w32 y) = w32 (x - y) := by simp only [w32_eq]; omega
theorem w32_neg (x : Int) : w32 (-(w32 x)) = w32 (-x) := by simp only [w32_eq]; omega
theorem zdiv_cg {x y a c : Int} (hx : w32 x = a) (hy : w32 y = c) : zdiv x y = zdiv a c := by
  rw [zdiv_eq, zdiv_eq, hx, hy, ← hx, ← hy, w32_w32, w32_w32]
theorem zrem_cg {x y a c : Int} (hx : w32 x = a) (hy : w32 y = c) : zrem x y = zrem a c := by
  rw [zrem_eq, zrem_eq, hx, hy, ← hx, ← hy, w32_w32, w32_w32]
theorem k10n {t : Int} (h : -10 ≤ t ∧ t ≤ -1) : t = -1 ∨ t = -2 ∨ t = -3 ∨ t = -4 ∨ t = -5 ∨ t = -6 ∨ t = -7 ∨ t = -8 ∨ t = -9 ∨ t = -10 := by omega
section GV
variable {X : Cx} {sw : Bool} {m : Mem} {Q : Int → Bool → Mem → Prop}
theorem eL_valueOf {t x y a c : Int} (ht : -10 ≤ t ∧ t ≤ -1) (hx : w32 x = a) (hy : w32 y = c) (h : ∀ z, w32 z = val2 t a c → Q z sw m) : M2 X 1 mL_valueOf [vi t, vi x, vi y] sw m Q := by
  have et : w32 t = t := w32_id (by omega) (by omega)
  have k0 : w32 0 = 0 := by decide
  have k1 : w32 1 = 1 := by decide
  refine wL_valueOf _ _ _ _ _ _ ?_
  rw [et, hx, hy]
  have h2 := fun z (hz : w32 z = val2 t a c) => h z hz
  unfold val2 at h2
  refine ⟨fun q => ?_, fun q => ?_, fun q => ?_, fun q => ?_, fun q => ?_, fun q => ?_, fun q => ?_, fun q => ?_, fun q => ?_, fun q => ?_, fun q => by omega⟩ <;> subst q
  · refine ⟨fun q => ⟨q, h2 _ ?_⟩, fun q => h2 _ ?_⟩
    · simp only [show ¬ ((-10 : Int) = -1) by decide, show ¬ ((-10 : Int) = -2) by decide, show ¬ ((-10 : Int) = -3) by decide, show ¬ ((-10 : Int) = -4) by decide, show ¬ ((-10 : Int) = -5) by decide, show ¬ ((-10 : Int) = -6) by decide, show ¬ ((-10 : Int) = -7) by decide, show ¬ ((-10 : Int) = -8) by decide, show ¬ ((-10 : Int) = -9) by decide, if_false, if_neg q]
      rw [zrem_w, zrem_cg hx hy]
    · simp only [show ¬ ((-10 : Int) = -1) by decide, show ¬ ((-10 : Int) = -2) by decide, show ¬ ((-10 : Int) = -3) by decide, show ¬ ((-10 : Int) = -4) by decide, show ¬ ((-10 : Int) = -5) by decide, show ¬ ((-10 : Int) = -6) by decide, show ¬ ((-10 : Int) = -7) by decide, show ¬ ((-10 : Int) = -8) by decide, show ¬ ((-10 : Int) = -9) by decide, if_false, if_pos (Decidable.not_not.mp q)]
      exact k0
  · refine ⟨fun q => ⟨q, h2 _ ?_⟩, fun q => h2 _ ?_⟩
    · simp only [show ¬ ((-9 : Int) = -1) by decide, show ¬ ((-9 : Int) = -2) by decide, show ¬ ((-9 : Int) = -3) by decide, show ¬ ((-9 : Int) = -4) by decide, show ¬ ((-9 : Int) = -5) by decide, show ¬ ((-9 : Int) = -6) by decide, show ¬ ((-9 : Int) = -7) by decide, show ¬ ((-9 : Int) = -8) by decide, if_false, if_true, if_neg q]
      rw [zdiv_w, zdiv_cg hx hy]
    · simp only [show ¬ ((-9 : Int) = -1) by decide, show ¬ ((-9 : Int) = -2) by decide, show ¬ ((-9 : Int) = -3) by decide, show ¬ ((-9 : Int) = -4) by decide, show ¬ ((-9 : Int) = -5) by decide, show ¬ ((-9 : Int) = -6) by decide, show ¬ ((-9 : Int) = -7) by decide, show ¬ ((-9 : Int) = -8) by decide, if_false, if_true, if_pos (Decidable.not_not.mp q)]
      exact k0
  · refine h _ ?_
    show _ = w32 (a * c)
    rw [← hx, ← hy, w32_mul]
  · refine h _ ?_
    show _ = w32 (a - c)
    rw [← hx, ← hy, w32_sub]
  · refine h _ ?_
    show _ = w32 (a + c)
    rw [← hx, ← hy, w32_add]
  · refine ⟨fun q => h _ ?_, fun q => h _ ?_⟩
    · show _ = bz (c < a)
      rw [bz_f (by omega)]; exact k0
    · show _ = bz (c < a)
      rw [bz_t (by omega)]; exact k1
  · refine ⟨fun q => h _ ?_, fun q => h _ ?_⟩
    · show _ = bz (a = c)
      rw [bz_f (by omega)]; exact k0
    · show _ = bz (a = c)
      rw [bz_t (by omega)]; exact k1
  · refine ⟨fun q => h _ ?_, fun q => h _ ?_⟩
    · show _ = bz (a < c)
      rw [bz_f (by omega)]; exact k0
    · show _ = bz (a < c)
      rw [bz_t (by omega)]; exact k1
  · refine ⟨fun q => h _ ?_, fun q => ⟨fun q2 => h _ ?_, fun q2 => h _ ?_⟩⟩
    · show _ = bz (¬ a = 0 ∧ ¬ c = 0)
      rw [bz_f (by omega)]; exact k0
    · show _ = bz (¬ a = 0 ∧ ¬ c = 0)
      rw [bz_f (by omega)]; exact k0
    · show _ = bz (¬ a = 0 ∧ ¬ c = 0)
      rw [bz_t (by omega)]; exact k1
  · refine ⟨fun q => h _ ?_, fun q => ⟨fun q2 => h _ ?_, fun q2 => h _ ?_⟩⟩
    · show _ = bz (¬ a = 0 ∨ ¬ c = 0)
      rw [bz_t (by omega)]; exact k1
    · show _ = bz (¬ a = 0 ∨ ¬ c = 0)
      rw [bz_f (by omega)]; exact k0
    · show _ = bz (¬ a = 0 ∨ ¬ c = 0)
      rw [bz_t (by omega)]; exact k1
abbrev gvS (X : Cx) (top x3 i : Int) (sw : Bool) (m : Mem) (Q : Int → Bool → Mem → Prop) : Prop := R2 X 3 mL_give 7 [(0, vr 18), (1, vr 17), (2, vi top), (3, vi x3), (4, vi i)] [] sw m Q
theorem gv_push {i N top x3 t v : Int} (hN : m 18 5 = N) (hi : 0 ≤ i ∧ i < N ∧ N ≤ 128) (ht : m (rcode sw) i = t) (htt : (0 ≤ t ∧ t ≤ 9999 ∧ v = t) ∨ (-25 ≤ t ∧ t ≤ -20 ∧ v = m 17 (-20 - t))) (hp : 0 ≤ top ∧ top < 127) (h : gvS X (top + 1) x3 (i + 1) sw (upm m 20 top v) Q) : gvS X top x3 i sw m Q := by
  have e1 : w32 N = N := w32_id (by omega) (by omega)
  have e2 : w32 i = i := w32_id (by omega) (by omega)
  have e3 : w32 t = t := w32_id (by omega) (by omega)
  have e4 : w32 top = top := w32_id (by omega) (by omega)
  have e5 : w32 (top + 1) = top + 1 := w32_id (by omega) (by omega)
  have e6 : min (top + 1) (127 : Int) = top + 1 := by omega
  have e7 : w32 (-20 - t) = -20 - t := w32_id (by omega) (by omega)
  refine wL_give_7 _ _ _ _ _ _ ?_
  rw [hN, e1, e2, ht, e3, e4, e5, e6, e7]
  refine ⟨fun q => by omega, fun _ => ⟨by omega, ?_⟩⟩
  rcases htt with ⟨t1, t2, t3⟩ | ⟨t1, t2, t3⟩
  · rw [← t3]
    exact ⟨fun _ => ⟨fun _ => ⟨by omega, h⟩, fun q => by omega⟩, fun q => by omega⟩
  · rw [← t3]
    exact ⟨fun q => by omega, fun _ => ⟨fun q => by omega, fun _ => ⟨fun q => by omega, fun _ => ⟨fun _ => ⟨by omega, by omega, h⟩, fun q => by omega⟩⟩⟩⟩
theorem gv_comb {i N top x3 t : Int} (hN : m 18 5 = N) (hi : 0 ≤ i ∧ i < N ∧ N ≤ 128) (ht : m (rcode sw) i = t) (htt : -12 ≤ t ∧ t ≤ -1) (hp : 0 ≤ top ∧ top < 127) (h : M2 X 2 mL_combine [vr 18, vi t, vi top] sw m (fun z1 sw1 m1 => gvS X z1 x3 (i + 1) sw1 m1 Q)) : gvS X top x3 i sw m Q := by
  have e1 : w32 N = N := w32_id (by omega) (by omega)
  have e2 : w32 i = i := w32_id (by omega) (by omega)
  have e3 : w32 t = t := w32_id (by omega) (by omega)
  refine wL_give_7 _ _ _ _ _ _ ?_
  rw [hN, e1, e2, ht, e3]
  exact ⟨fun q => by omega, fun _ => ⟨by omega, fun q => by omega, fun _ => ⟨fun _ => ⟨fun q => by omega, fun _ => ⟨fun _ => h, fun q => by omega⟩⟩, fun q => by omega⟩⟩⟩
theorem gv_if {i N x3 : Int} (hN : m 18 5 = N) (hi : 0 ≤ i ∧ i < N ∧ N ≤ 128) (ht : m (rcode sw) i = -13) (h0 : w32 (m 20 0) = 0 → gvS X 0 0 (i + 1) sw m Q) (h1 : ¬ w32 (m 20 0) = 0 → gvS X 0 1 (i + 1) sw m Q) : gvS X 1 x3 i sw m Q := by
  have e1 : w32 N = N := w32_id (by omega) (by omega)
  have e2 : w32 i = i := w32_id (by omega) (by omega)
  have e3 : w32 (-13) = -13 := by decide
  have e4 : max (w32 ((1 : Int) - 1)) 0 = 0 := by decide
  have e5 : w32 0 = 0 := by decide
  refine wL_give_7 _ _ _ _ _ _ ?_
  rw [hN, e1, e2, ht, e3, e4, e5]
  exact ⟨fun q => by omega, fun _ => ⟨by omega, fun q => by omega, fun _ => ⟨fun _ => ⟨fun _ => ⟨fun _ => ⟨fun q => by omega, fun _ => ⟨by omega, h0, h1⟩⟩, fun q => by omega⟩, fun q => by omega⟩, fun q => by omega⟩⟩⟩
theorem gv_give {i N x3 : Int} (hN : m 18 5 = N) (hi : 0 ≤ i ∧ i < N ∧ N ≤ 128) (ht : m (rcode sw) i = -14) (hx : w32 x3 = x3) (h0 : x3 = 0 → gvS X 0 1 (i + 1) sw m Q) (h1 : ¬ x3 = 0 → Q (m 20 0) sw m) : gvS X 1 x3 i sw m Q := by
  have e1 : w32 N = N := w32_id (by omega) (by omega)
  have e2 : w32 i = i := w32_id (by omega) (by omega)
  have e3 : w32 (-14) = -14 := by decide
  have e4 : max (w32 ((1 : Int) - 1)) 0 = 0 := by decide
  have e5 : w32 0 = 0 := by decide
  refine wL_give_7 _ _ _ _ _ _ ?_
  rw [hN, e1, e2, ht, e3, e4, e5, hx]
  exact ⟨fun q => by omega, fun _ => ⟨by omega, fun q => by omega, fun _ => ⟨fun _ => ⟨fun q => by omega, fun _ => ⟨fun q => by omega, fun _ => ⟨fun q => by omega, fun _ => ⟨fun q => ⟨fun _ => h0 q, fun q => by omega⟩, fun q => ⟨by omega, h1 q⟩⟩⟩⟩⟩, fun q => by omega⟩⟩⟩
theorem gv_end {i N x3 top : Int} (hN : m 18 5 = N) (hi : 0 ≤ i ∧ N ≤ i ∧ N ≤ 128 ∧ 0 ≤ N ∧ i ≤ 128) (h : Q 0 sw m) : gvS X top x3 i sw m Q := by
  have e1 : w32 N = N := w32_id (by omega) (by omega)
  have e2 : w32 i = i := w32_id (by omega) (by omega)
  refine wL_give_7 _ _ _ _ _ _ ?_
  rw [hN, e1, e2]
  exact ⟨fun _ => h, fun q => by omega⟩
theorem eL_combine2 {t a c : Int} {s : List Int} (ht : -10 ≤ t ∧ t ≤ -1) (hs : StK (m 20) (c :: a :: s)) (hl : s.length ≤ 120) (h : ∀ z, w32 z = val2 t a c → Q ((s.length : Int) + 1) sw (upm m 20 (s.length : Int) z)) : M2 X 2 mL_combine [vr 18, vi t, vi (((c :: a :: s).length : Nat) : Int)] sw m Q := by
  have b1 : 0 ≤ (s.length : Int) ∧ (s.length : Int) < 128 := by omega
  have b2 : 0 ≤ (s.length : Int) + 1 ∧ (s.length : Int) + 1 < 128 := by omega
  have b3 : ¬ t = -11 := by omega
  have b4 : ¬ t = -12 := by omega
  have el : (((c :: a :: s).length : Nat) : Int) = (s.length : Int) + 2 := by rw [List.length_cons, List.length_cons]; omega
  have el1 : (((a :: s).length : Nat) : Int) = (s.length : Int) + 1 := by rw [List.length_cons]; omega
  obtain ⟨h1, h2, h3⟩ := hs
  rw [el1] at h1
  rw [el]
  have e1 : w32 t = t := w32_id (by omega) (by omega)
  have e2 : (s.length : Int) + 2 - 2 = (s.length : Int) := by omega
  have e3 : (s.length : Int) + 2 - 1 = (s.length : Int) + 1 := by omega
  have e4 : w32 (s.length : Int) = (s.length : Int) := w32_id (by omega) (by omega)
  have e5 : w32 ((s.length : Int) + 1) = (s.length : Int) + 1 := w32_id (by omega) (by omega)
  refine wL_combine _ _ _ _ _ ?_
  rw [e1, e2, e3, e4, e5]
  exact ⟨fun q => absurd q b3, fun _ => ⟨fun _ => ⟨fun _ => ⟨b1, b2, eL_valueOf ht h2 h1 (fun z hz => ⟨b1, h z hz⟩)⟩, fun q => absurd b1.1 q⟩, fun q => absurd b4 q⟩⟩
theorem eL_combine1 {t a : Int} {s : List Int} (ht : t = -11 ∨ t = -12) (hs : StK (m 20) (a :: s)) (hl : s.length ≤ 120) (h : ∀ z, w32 z = (if t = -11 then bz (a = 0) else w32 (-a)) → Q ((s.length : Int) + 1) sw (upm m 20 (s.length : Int) z)) : M2 X 2 mL_combine [vr 18, vi t, vi (((a :: s).length : Nat) : Int)] sw m Q := by
  have el : (((a :: s).length : Nat) : Int) = (s.length : Int) + 1 := by rw [List.length_cons]; omega
  obtain ⟨h1, h2⟩ := hs
  rw [el]
  have e1 : w32 t = t := w32_id (by omega) (by omega)
  have e3 : (s.length : Int) + 1 - 1 = (s.length : Int) := by omega
  have e4 : w32 (s.length : Int) = (s.length : Int) := w32_id (by omega) (by omega)
  refine wL_combine _ _ _ _ _ ?_
  rw [e1, e3, e4]
  rcases ht with rfl | rfl
  · rw [h1]
    refine ⟨fun _ => ⟨fun _ => ⟨by omega, by omega, fun _ => ⟨fun q => ⟨by omega, h _ ?_⟩, fun q => ⟨by omega, h _ ?_⟩⟩, fun q => by omega⟩, fun q => by omega⟩, fun q => by omega⟩
    · rw [if_pos rfl, bz_f q]; decide
    · rw [if_pos rfl, bz_t (Decidable.not_not.mp q)]; decide
  · refine ⟨fun q => by omega, fun _ => ⟨fun q => by omega, fun _ => ⟨fun _ => ⟨by omega, by omega, fun q => by omega, fun _ => ⟨by omega, h _ ?_⟩⟩, fun q => by omega⟩⟩⟩
    rw [if_neg (by decide), ← h1, w32_neg]
theorem run_c (fc : Int → Int) (t : Int) (l s : List Int) : run fc (t :: l) s = (st1 fc t s).bind (run fc l) := rfl
theorem st1_bin {fc : Int → Int} {t : Int} {s s1 : List Int} (ht : -10 ≤ t ∧ t ≤ -1) (h : st1 fc t s = some s1) : ∃ c a r, s = c :: a :: r ∧ s1 = val2 t a c :: r := by
  unfold st1 at h
  rw [if_neg (by omega), if_neg (by omega), if_neg (by omega), if_neg (by omega)] at h
  match s, h with
  | [], h => exact absurd h (by simp)
  | [_], h => exact absurd h (by simp)
  | c :: a :: r, h => exact ⟨c, a, r, rfl, (Option.some.inj h).symm⟩
theorem st1_un {fc : Int → Int} {t : Int} {s s1 : List Int} (ht : t = -11 ∨ t = -12) (h : st1 fc t s = some s1) : ∃ a r, s = a :: r ∧ s1 = (if t = -11 then bz (a = 0) else w32 (-a)) :: r := by
  unfold st1 at h
  rw [if_neg (by omega), if_neg (by omega)] at h
  rcases ht with rfl | rfl
  · rw [if_pos rfl] at h
    match s, h with
    | [], h => exact absurd h (by simp)
    | a :: r, h => exact ⟨a, r, rfl, by rw [if_pos rfl]; exact (Option.some.inj h).symm⟩
  · rw [if_neg (by decide), if_pos rfl] at h
    match s, h with
    | [], h => exact absurd h (by simp)
    | a :: r, h => exact ⟨a, r, rfl, by rw [if_neg (by decide)]; exact (Option.some.inj h).symm⟩
theorem st1_psh {fc : Int → Int} {t : Int} {s s1 : List Int} (ht : 0 ≤ t ∨ t ≤ -20) (h : st1 fc t s = some s1) : s1 = (if 0 ≤ t then t else fc (-20 - t)) :: s := by
  unfold st1 at h
  by_cases h0 : 0 ≤ t
  · rw [if_pos h0] at h ⊢
    exact (Option.some.inj h).symm
  · rw [if_neg h0] at h ⊢
    rw [if_pos (by omega)] at h
    exact (Option.some.inj h).symm
theorem lL_run {fc : Int → Int} {N x3 : Int} (hfc : ∀ k : Int, 0 ≤ k → k ≤ 5 → w32 (m 17 k) = fc k) (hN : m 18 5 = N) (hNb : N ≤ 128) : ∀ (l s s' : List Int) (i : Int) (m1 : Mem), toks l → run fc l s = some s' → Sg (m (rcode sw)) i l → (∀ c, ¬ c = 20 → m1 c = m c) → StK (m1 20) s → 0 ≤ i → i + (l.length : Int) ≤ N → s.length + l.length ≤ 120 → (∀ m2, (∀ c, ¬ c = 20 → m2 c = m c) → StK (m2 20) s' → gvS X (s'.length : Int) x3 (i + (l.length : Int)) sw m2 Q) → gvS X (s.length : Int) x3 i sw m1 Q := by
  intro l
  have hrb := rco_b sw
  induction l with
  | nil =>
    intro s s' i m1 _ hr _ hF hs i0 i1 hl h
    have e : s = s' := Option.some.inj hr
    subst e
    have := h m1 hF hs
    rw [show i + ((([] : List Int).length : Nat) : Int) = i by simp] at this
    exact this
  | cons t l ih =>
    intro s s' i m1 ht hr hS hF hs i0 i1 hl h
    have ell : (((t :: l).length : Nat) : Int) = (l.length : Int) + 1 := by rw [List.length_cons]; omega
    rw [List.length_cons] at hl
    rw [run_c] at hr
    obtain ⟨s1, hs1, hr1⟩ := Option.bind_eq_some_iff.mp hr
    have hl' : toks l := fun t' ht' => ht t' (List.mem_cons_of_mem _ ht')
    have htt : tok t := ht t List.mem_cons_self
    have hN1 : m1 18 5 = N := by rw [hF 18 (by omega)]; exact hN
    have hti : m1 (rcode sw) i = t := by rw [hF _ (by omega)]; exact hS.1
    have next : ∀ (m2 : Mem), (∀ c, ¬ c = 20 → m2 c = m c) → StK (m2 20) s1 → s1.length + l.length ≤ 120 → gvS X (s1.length : Int) x3 (i + 1) sw m2 Q := by
      intro m2 f2 k2 b2
      refine ih s1 s' (i + 1) m2 hl' hr1 hS.2 f2 k2 (by omega) (by omega) b2 (fun m3 f3 k3 => ?_)
      have := h m3 f3 k3
      rw [ell, show i + ((l.length : Int) + 1) = i + 1 + (l.length : Int) by omega] at this
      exact this
    unfold tok at htt
    by_cases c1 : 0 ≤ t ∨ t ≤ -20
    · have e := st1_psh c1 hs1
      subst e
      rw [List.length_cons] at next
      refine gv_push (t := t) (v := if 0 ≤ t then t else m1 17 (-20 - t)) hN1 (by omega) hti ?_ (by omega) ?_
      · by_cases h0 : 0 ≤ t
        · rw [if_pos h0]; exact Or.inl (by omega)
        · rw [if_neg h0]; exact Or.inr ⟨by omega, by omega, rfl⟩
      · refine next _ (fun c q => by rw [upm_row q]; exact hF c q) ⟨?_, hs.fr (fun k k1 k2 => by rw [upm_at, if_neg (by omega)])⟩ (by omega)
        rw [upm_at, if_pos rfl]
        by_cases h0 : 0 ≤ t
        · rw [if_pos h0, if_pos h0]; exact w32_id (by omega) (by omega)
        · rw [if_neg h0, if_neg h0, hF 17 (by omega)]; exact hfc _ (by omega) (by omega)
    · by_cases c2 : t = -11 ∨ t = -12
      · obtain ⟨a, r, e1, e2⟩ := st1_un c2 hs1
        subst e1; subst e2
        rw [List.length_cons] at next hl
        refine gv_comb (t := t) hN1 (by omega) hti (by omega) (by rw [List.length_cons]; omega) ?_
        refine eL_combine1 c2 hs (by omega) (fun z hz => next _ (fun c q => by rw [upm_row q]; exact hF c q) ⟨?_, hs.2.fr (fun k k1 k2 => by rw [upm_at, if_neg (by omega)])⟩ (by omega))
        rw [upm_at, if_pos rfl]; exact hz
      · obtain ⟨c, a, r, e1, e2⟩ := st1_bin (by omega) hs1
        subst e1; subst e2
        rw [List.length_cons] at next
        rw [List.length_cons, List.length_cons] at hl
        refine gv_comb (t := t) hN1 (by omega) hti (by omega) (by rw [List.length_cons, List.length_cons]; omega) ?_
        refine eL_combine2 (by omega) hs (by omega) (fun z hz => next _ (fun c q => by rw [upm_row q]; exact hF c q) ⟨?_, hs.2.2.fr (fun k k1 k2 => by rw [upm_at, if_neg (by omega)])⟩ (by omega))
        rw [upm_at, if_pos rfl]; exact hz
theorem cdl_0 {q : Ln} (h : q.1.length = 0) : cdl q = q.2 ++ [-14] := if_pos h
theorem cdl_1 {q : Ln} (h : ¬ q.1.length = 0) : cdl q = q.1 ++ [-13] ++ q.2 ++ [-14] := if_neg h
theorem lL_lines {fc : Int → Int} {N : Int} (hfc : ∀ k : Int, 0 ≤ k → k ≤ 5 → w32 (m 17 k) = fc k) (hN : m 18 5 = N) (hNb : N ≤ 121) : ∀ (ls : List Ln) (i : Int) (m1 : Mem), (∀ q, q ∈ ls → okl q) → Sg (m (rcode sw)) i (cds ls) → (∀ c, ¬ c = 20 → m1 c = m c) → 0 ≤ i → i + ((cds ls).length : Int) = N → (∀ z m2, (∀ c, ¬ c = 20 → m2 c = m c) → w32 z = gvl fc ls → Q z sw m2) → gvS X 0 1 i sw m1 Q := by
  intro ls
  have hrb := rco_b sw
  induction ls with
  | nil =>
    intro i m1 _ _ hF i0 i1 h
    have e : (((cds ([] : List Ln)).length : Nat) : Int) = 0 := rfl
    refine gv_end (N := N) (by rw [hF 18 (by omega)]; exact hN) (by omega) (h 0 m1 hF (show w32 0 = 0 by decide))
  | cons q ls ih =>
    intro i m1 hok hS hF i0 i1 h
    have hq : okl q := hok q List.mem_cons_self
    obtain ⟨o1, o2, o3, o4⟩ := hq
    have ec : cds (q :: ls) = cdl q ++ cds ls := rfl
    rw [ec, List.length_append] at i1
    rw [ec, Sg.app] at hS
    have hgv : gvl fc (q :: ls) = if q.1.length = 0 ∨ ¬ rvx fc q.1 = 0 then rvx fc q.2 else gvl fc ls := rfl
    rw [hgv] at h
    have fin : ∀ (x3 i' : Int) (m2 : Mem), (∀ c, ¬ c = 20 → m2 c = m c) → 0 ≤ i' → i' + (q.2.length : Int) + 1 = i + ((cdl q).length : Int) → Sg (m (rcode sw)) i' (q.2 ++ [-14]) → (x3 = 0 ∨ x3 = 1) → (x3 = 0 → ¬ (q.1.length = 0 ∨ ¬ rvx fc q.1 = 0)) → (x3 = 1 → (q.1.length = 0 ∨ ¬ rvx fc q.1 = 0)) → gvS X 0 x3 i' sw m2 Q := by
      intro x3 i' m2 f2 i0' i1' hS2 hx h0 h1
      rw [Sg.app] at hS2
      refine lL_run hfc hN (by omega) q.2 [] [rvx fc q.2] i' m2 o4 (WF_rvx o2 fc) hS2.1 f2 trivial i0' (by omega) (by simp; omega) (fun m3 f3 k3 => ?_)
      have hN3 : m3 18 5 = N := by rw [f3 18 (by omega)]; exact hN
      refine gv_give hN3 (by omega) (by rw [f3 _ (by omega)]; exact hS2.2.1) (w32_id (by omega) (by omega)) (fun q0 => ?_) (fun q0 => ?_)
      · rw [if_neg (h0 q0)] at h
        rw [show i' + (q.2.length : Int) + 1 = i + ((cdl q).length : Int) by omega]
        exact ih _ m3 (fun q' hq' => hok q' (List.mem_cons_of_mem _ hq')) hS.2 f3 (by omega) (by omega) h
      · rw [if_pos (h1 (by omega))] at h
        exact h _ m3 f3 k3.1
    by_cases c : q.1.length = 0
    · have e := cdl_0 c
      have el : (q.2 ++ [(-14 : Int)]).length = q.2.length + 1 := by rw [List.length_append]; rfl
      rw [e] at hS
      exact fin 1 i m1 hF i0 (by rw [e, el]; omega) hS.1 (Or.inr rfl) (fun q0 => by omega) (fun _ => Or.inl c)
    · have e := cdl_1 c
      have el : (q.1 ++ [(-13 : Int)] ++ q.2 ++ [(-14 : Int)]).length = q.1.length + 1 + q.2.length + 1 := by simp only [List.length_append, List.length_cons, List.length_nil]
      have w1 : WF q.1 := by rcases o1 with o | o
                             · exact absurd o c
                             · exact o
      have hS1 := hS.1
      rw [e, List.append_assoc, List.append_assoc, Sg.app] at hS1
      obtain ⟨s1, s2, s3⟩ := hS1
      rw [e, el] at i1
      refine lL_run hfc hN (by omega) q.1 [] [rvx fc q.1] i m1 o3 (WF_rvx w1 fc) s1 hF trivial i0 (by omega) (by simp; omega) (fun m3 f3 k3 => ?_)
      have hN3 : m3 18 5 = N := by rw [f3 18 (by omega)]; exact hN
      refine gv_if hN3 (by omega) (by rw [f3 _ (by omega)]; exact s2) (fun q0 => ?_) (fun q0 => ?_)
      · have e0 : rvx fc q.1 = 0 := k3.1.symm.trans q0
        exact fin 0 _ m3 f3 (by omega) (by rw [e, el]; omega) s3 (Or.inl rfl) (fun _ => by omega) (fun q => by omega)
      · have e0 : ¬ rvx fc q.1 = 0 := fun p => q0 (k3.1.trans p)
        exact fin 1 _ m3 f3 (by omega) (by rw [e, el]; omega) s3 (Or.inr rfl) (fun q => by omega) (fun _ => Or.inr e0)
theorem eL_give {fc : Int → Int} {ls : List Ln} (hfc : ∀ k : Int, 0 ≤ k → k ≤ 5 → w32 (m 17 k) = fc k) (hN : m 18 5 = ((cds ls).length : Int)) (hNb : (cds ls).length ≤ 121) (hok : ∀ q, q ∈ ls → okl q) (hS : Sg (m (rcode sw)) 0 (cds ls)) (h : ∀ z m2, (∀ c, ¬ c = 20 → m2 c = m c) → w32 z = gvl fc ls → Q z sw m2) : M2 X 3 mL_give [vr 18, vr 17] sw m Q :=
  wL_give _ _ _ (lL_lines hfc hN (by omega) ls 0 m hok hS (fun _ _ => rfl) (by omega) (by omega) h)
end GV
