/-! numbers -/
theorem w32_eq (z : Int) : w32 z = (z + 2147483648) % 4294967296 - 2147483648 := by
  simp only [w32, Int.bmod]
  split <;> omega
theorem w64_eq (z : Int) : w64 z = (z + 9223372036854775808) % 18446744073709551616 - 9223372036854775808 := by
  simp only [w64, Int.bmod]
  split <;> omega
theorem w8_eq (z : Int) : w8 z = (z + 128) % 256 - 128 := by
  simp only [w8, Int.bmod]
  split <;> omega
theorem w16_eq (z : Int) : w16 z = (z + 32768) % 65536 - 32768 := by
  simp only [w16, Int.bmod]
  split <;> omega
theorem w32_id {z : Int} (h1 : -2147483648 ≤ z) (h2 : z < 2147483648) : w32 z = z := by rw [w32_eq]; omega
theorem w64_id {z : Int} (h1 : -9223372036854775808 ≤ z) (h2 : z < 9223372036854775808) : w64 z = z := by rw [w64_eq]; omega
theorem w32_b (z : Int) : -2147483648 ≤ w32 z ∧ w32 z < 2147483648 := by rw [w32_eq]; omega
theorem w64_b (z : Int) : -9223372036854775808 ≤ w64 z ∧ w64 z < 9223372036854775808 := by rw [w64_eq]; omega
theorem w32_w32 (z : Int) : w32 (w32 z) = w32 z := by simp only [w32_eq]; omega
theorem w64_w32 (z : Int) : w64 (w32 z) = w32 z := by simp only [w32_eq, w64_eq]; omega
theorem w32_w8 (z : Int) : w32 (w8 z) = w8 z := by simp only [w32_eq, w8_eq]; omega
theorem w32_w16 (z : Int) : w32 (w16 z) = w16 z := by simp only [w32_eq, w16_eq]; omega
theorem w32_c0 : w32 0 = 0 := by decide
theorem w32_c1 : w32 1 = 1 := by decide
theorem w32_cm1 : w32 (-1) = -1 := by decide
/-- downwards: from the end of a count -/
theorem downN {P : Nat → Prop} (N : Nat) (h0 : P N) (hs : ∀ k, k < N → P (k + 1) → P k) : ∀ k, k ≤ N → P k := by
  intro k hk
  obtain ⟨j, rfl⟩ : ∃ j, N = k + j := ⟨N - k, by omega⟩
  induction j generalizing k with
  | zero => exact h0
  | succ j ih =>
    exact hs k (by omega) (ih (k + 1) (by rw [show k + 1 + j = k + (j + 1) by omega]; exact h0) (fun q hq => hs q (by omega)) (by omega))
theorem i32_nat (a : Nat) : Int32.ofInt (a : Int) = Int32.ofNat a := rfl
theorem zand_nat {a b : Nat} (ha : a < 2147483648) (hb : b < 2147483648) : zand (a : Int) (b : Int) = ((a &&& b : Nat) : Int) := by
  unfold zand
  rw [i32_nat, i32_nat]
  have h : (Int32.ofNat a &&& Int32.ofNat b) = Int32.ofNat (a &&& b) := by
    apply Int32.toBitVec_inj.mp
    rw [Int32.toBitVec_and]
    show BitVec.ofNat 32 a &&& BitVec.ofNat 32 b = BitVec.ofNat 32 (a &&& b)
    exact BitVec.ofNat_and.symm
  rw [h]
  exact Int32.toInt_ofNat_of_lt (Nat.lt_of_le_of_lt Nat.and_le_left ha)
theorem zor_nat {a b : Nat} (ha : a < 2147483648) (hb : b < 2147483648) : zor (a : Int) (b : Int) = ((a ||| b : Nat) : Int) := by
  unfold zor
  rw [i32_nat, i32_nat]
  have h : (Int32.ofNat a ||| Int32.ofNat b) = Int32.ofNat (a ||| b) := by
    apply Int32.toBitVec_inj.mp
    rw [Int32.toBitVec_or]
    show BitVec.ofNat 32 a ||| BitVec.ofNat 32 b = BitVec.ofNat 32 (a ||| b)
    exact BitVec.ofNat_or.symm
  rw [h]
  exact Int32.toInt_ofNat_of_lt (Nat.or_lt_two_pow (n := 31) ha hb)
theorem shl_ok : ∀ k : Fin 31, ((Int32.ofInt 1) <<< (Int32.ofInt ((k : Nat) : Int) &&& 31)).toInt = ((2 ^ (k : Nat) : Nat) : Int) := by decide +kernel
theorem zshl_one {k : Nat} (h : k < 31) : zshl 1 (k : Int) = ((2 ^ k : Nat) : Int) := shl_ok ⟨k, h⟩
theorem shl_ok2 : ∀ k : Fin 30, ((Int32.ofInt 2) <<< (Int32.ofInt ((k : Nat) : Int) &&& 31)).toInt = ((2 ^ ((k : Nat) + 1) : Nat) : Int) := by decide +kernel
theorem zshl_two {k : Nat} (h : k < 30) : zshl 2 (k : Int) = ((2 ^ (k + 1) : Nat) : Int) := shl_ok2 ⟨k, h⟩
theorem shr_b : ∀ k : Fin 32, ((Int32.ofInt ((k : Nat) : Int) &&& 31).toBitVec.smod 32#32).toNat = (k : Nat) := by decide +kernel
theorem zshr_nat {a k : Nat} (ha : a < 2147483648) (hk : k < 32) : zshr (a : Int) (k : Int) = ((a >>> k : Nat) : Int) := by
  unfold zshr
  have h1 : (Int32.ofInt (a : Int) >>> (Int32.ofInt (k : Int) &&& 31)).toBitVec = BitVec.ofNat 32 (a >>> k) := by
    rw [Int32.toBitVec_shiftRight]
    show (BitVec.ofNat 32 a).sshiftRight' ((Int32.ofInt (k : Int) &&& 31).toBitVec.smod 32#32) = _
    show (BitVec.ofNat 32 a).sshiftRight ((Int32.ofInt (k : Int) &&& 31).toBitVec.smod 32#32).toNat = _
    rw [shr_b ⟨k, hk⟩]
    rw [BitVec.sshiftRight_eq_of_msb_false]
    · apply BitVec.eq_of_toNat_eq
      rw [BitVec.toNat_ushiftRight, BitVec.toNat_ofNat, BitVec.toNat_ofNat]
      have e1 : a % 2 ^ 32 = a := Nat.mod_eq_of_lt (by omega)
      rw [e1]
      have e2 : a >>> k ≤ a := by rw [Nat.shiftRight_eq_div_pow]; exact Nat.div_le_self _ _
      show a >>> k = (a >>> k) % 2 ^ 32
      exact (Nat.mod_eq_of_lt (by omega)).symm
    · rw [BitVec.msb_eq_false_iff_two_mul_lt, BitVec.toNat_ofNat]
      have e1 : a % 2 ^ 32 = a := Nat.mod_eq_of_lt (by omega)
      rw [e1]
      omega
  have h2 : Int32.ofInt (a : Int) >>> (Int32.ofInt (k : Int) &&& 31) = Int32.ofNat (a >>> k) := Int32.toBitVec_inj.mp h1
  rw [h2]
  have e2 : a >>> k ≤ a := by rw [Nat.shiftRight_eq_div_pow]; exact Nat.div_le_self _ _
  exact Int32.toInt_ofNat_of_lt (by omega)
theorem zdiv_eq (a b : Int) : zdiv a b = w32 (Int.tdiv (w32 a) (w32 b)) := by
  unfold zdiv
  rw [Int32.toInt_div, i32_w, i32_w]
  rfl
theorem zrem_eq (a b : Int) : zrem a b = Int.tmod (w32 a) (w32 b) := by
  unfold zrem
  rw [Int32.toInt_sub, Int32.toInt_mul, Int32.toInt_div, i32_w, i32_w]
  have h1 := w32_b a
  have h2 := w32_b b
  have h3 : Int.tmod (w32 a) (w32 b) = w32 a - (Int.tdiv (w32 a) (w32 b)) * w32 b := by
    have := Int.mul_tdiv_add_tmod (w32 a) (w32 b)
    rw [Int.mul_comm] at this
    omega
  have h4 : -2147483648 ≤ Int.tmod (w32 a) (w32 b) ∧ Int.tmod (w32 a) (w32 b) < 2147483648 := by
    have h6 : (Int.tmod (w32 a) (w32 b)).natAbs ≤ (w32 a).natAbs := by rw [Int.natAbs_tmod]; exact Nat.mod_le _ _
    rcases Int.le_total 0 (w32 a) with h | h
    · have := Int.tmod_nonneg (w32 b) h
      omega
    · have e : Int.tmod (w32 a) (w32 b) = - Int.tmod (-(w32 a)) (w32 b) := by rw [Int.neg_tmod, Int.neg_neg]
      have := Int.tmod_nonneg (w32 b) (show 0 ≤ -(w32 a) by omega)
      omega
  have h5 : ∀ x y z : Int, w32 (x - w32 (w32 y * z)) = w32 (x - y * z) := by
    intro x y z
    have e1 : w32 y = y - 4294967296 * ((y + 2147483648) / 4294967296) := by rw [w32_eq]; omega
    generalize (y + 2147483648) / 4294967296 = q at e1
    rw [e1, show (y - 4294967296 * q) * z = y * z - 4294967296 * (q * z) by rw [Int.sub_mul, Int.mul_assoc]]
    generalize y * z = yz
    generalize q * z = qz
    simp only [w32_eq]
    omega
  show w32 (w32 a - w32 (w32 (Int.tdiv (w32 a) (w32 b)) * w32 b)) = _
  rw [h5, ← h3]
  exact w32_id h4.1 h4.2
theorem zldiv_eq (a b : Int) : zldiv a b = w64 (Int.tdiv (w64 a) (w64 b)) := by
  unfold zldiv
  rw [Int64.toInt_div, i64_w, i64_w]
  rfl
theorem zlrem_eq (a b : Int) : zlrem a b = Int.tmod (w64 a) (w64 b) := by
  unfold zlrem
  rw [Int64.toInt_sub, Int64.toInt_mul, Int64.toInt_div, i64_w, i64_w]
  have h1 := w64_b a
  have h2 := w64_b b
  have h3 : Int.tmod (w64 a) (w64 b) = w64 a - (Int.tdiv (w64 a) (w64 b)) * w64 b := by
    have := Int.mul_tdiv_add_tmod (w64 a) (w64 b)
    rw [Int.mul_comm] at this
    omega
  have h4 : -9223372036854775808 ≤ Int.tmod (w64 a) (w64 b) ∧ Int.tmod (w64 a) (w64 b) < 9223372036854775808 := by
    have h6 : (Int.tmod (w64 a) (w64 b)).natAbs ≤ (w64 a).natAbs := by rw [Int.natAbs_tmod]; exact Nat.mod_le _ _
    rcases Int.le_total 0 (w64 a) with h | h
    · have := Int.tmod_nonneg (w64 b) h
      omega
    · have e : Int.tmod (w64 a) (w64 b) = - Int.tmod (-(w64 a)) (w64 b) := by rw [Int.neg_tmod, Int.neg_neg]
      have := Int.tmod_nonneg (w64 b) (show 0 ≤ -(w64 a) by omega)
      omega
  have h5 : ∀ x y z : Int, w64 (x - w64 (w64 y * z)) = w64 (x - y * z) := by
    intro x y z
    have e1 : w64 y = y - 18446744073709551616 * ((y + 9223372036854775808) / 18446744073709551616) := by rw [w64_eq]; omega
    generalize (y + 9223372036854775808) / 18446744073709551616 = q at e1
    rw [e1, show (y - 18446744073709551616 * q) * z = y * z - 18446744073709551616 * (q * z) by rw [Int.sub_mul, Int.mul_assoc]]
    generalize y * z = yz
    generalize q * z = qz
    simp only [w64_eq]
    omega
  show w64 (w64 a - w64 (w64 (Int.tdiv (w64 a) (w64 b)) * w64 b)) = _
  rw [h5, ← h3]
  exact w64_id h4.1 h4.2
theorem zdiv_pos {a b : Int} (h1 : 0 ≤ a) (h2 : a < 2147483648) (h3 : 0 < b) (h4 : b < 2147483648) : zdiv a b = a / b := by
  rw [zdiv_eq, w32_id (by omega) h2, w32_id (by omega) h4, Int.tdiv_eq_ediv_of_nonneg h1]
  have h5 := Int.ediv_nonneg h1 (Int.le_of_lt h3)
  have h6 := Int.ediv_le_self b h1
  exact w32_id (by omega) (by omega)
theorem zrem_pos {a b : Int} (h1 : 0 ≤ a) (h2 : a < 2147483648) (h3 : 0 < b) (h4 : b < 2147483648) : zrem a b = a % b := by
  rw [zrem_eq, w32_id (by omega) h2, w32_id (by omega) h4, Int.tmod_eq_emod_of_nonneg h1]
theorem zldiv_pos {a b : Int} (h1 : 0 ≤ a) (h2 : a < 9223372036854775808) (h3 : 0 < b) (h4 : b < 9223372036854775808) : zldiv a b = a / b := by
  rw [zldiv_eq, w64_id (by omega) h2, w64_id (by omega) h4, Int.tdiv_eq_ediv_of_nonneg h1]
  have h5 := Int.ediv_nonneg h1 (Int.le_of_lt h3)
  have h6 := Int.ediv_le_self b h1
  exact w64_id (by omega) (by omega)
theorem zlrem_pos {a b : Int} (h1 : 0 ≤ a) (h2 : a < 9223372036854775808) (h3 : 0 < b) (h4 : b < 9223372036854775808) : zlrem a b = a % b := by
  rw [zlrem_eq, w64_id (by omega) h2, w64_id (by omega) h4, Int.tmod_eq_emod_of_nonneg h1]
