/-! ===== numbers of the abstract machine ===== -/
theorem aTo {v : Int} (h1 : -2147483648 ≤ v) (h2 : v < 2147483648) : (Int32.ofInt v).toInt = v := Int32.toInt_ofInt_of_le h1 h2
theorem aTo64 {v : Int} (h1 : -9223372036854775808 ≤ v) (h2 : v < 9223372036854775808) : (Int64.ofInt v).toInt = v := Int64.toInt_ofInt_of_le h1 h2
theorem ai_add_eq {a b : Int} (h1 : -2147483648 ≤ a + b) (h2 : a + b < 2147483648) : ai_add a b = a + b := by
  unfold ai_add
  rw [← Int32.ofInt_add]
  exact aTo h1 h2
theorem ai_sub_eq {a b : Int} (h1 : -2147483648 ≤ a - b) (h2 : a - b < 2147483648) : ai_sub a b = a - b := by
  unfold ai_sub
  rw [← Int32.ofInt_sub]
  exact aTo h1 h2
theorem ai_mul_eq {a b : Int} (h1 : -2147483648 ≤ a * b) (h2 : a * b < 2147483648) : ai_mul a b = a * b := by
  unfold ai_mul
  rw [← Int32.ofInt_mul]
  exact aTo h1 h2
theorem al_mul_eq {a b : Int} (h1 : -9223372036854775808 ≤ a * b) (h2 : a * b < 9223372036854775808) : al_mul a b = a * b := by
  unfold al_mul
  rw [← Int64.ofInt_mul]
  exact aTo64 h1 h2
theorem al_add_eq {a b : Int} (h1 : -9223372036854775808 ≤ a + b) (h2 : a + b < 9223372036854775808) : al_add a b = a + b := by
  unfold al_add
  rw [← Int64.ofInt_add]
  exact aTo64 h1 h2
theorem ai_div_eq {a b : Int} (ha : 0 ≤ a) (ha2 : a < 2147483648) (hb : 0 < b) (hb2 : b < 2147483648) : ai_div a b = a / b := by
  unfold ai_div
  have e1 := aTo (v := a) (by omega) ha2
  have e2 := aTo (v := b) (by omega) hb2
  rw [Int32.toInt_div_of_ne_right _ _ (by intro h; have := congrArg Int32.toInt h; rw [e2] at this; have z : (-1 : Int32).toInt = -1 := by decide
                                          omega), e1, e2]
  exact Int.tdiv_eq_ediv_of_nonneg ha
theorem ai_rem_eq {a b : Int} (ha : 0 ≤ a) (ha2 : a < 2147483648) (hb : 0 < b) (hb2 : b < 2147483648) : ai_rem a b = a % b := by
  unfold ai_rem
  have hd := ai_div_eq ha ha2 hb hb2
  unfold ai_div at hd
  have e : Int32.ofInt a / Int32.ofInt b = Int32.ofInt (a / b) := by
    rw [← hd, Int32.ofInt_toInt]
  rw [e, ← Int32.ofInt_mul, ← Int32.ofInt_sub]
  have h1 := Int.emod_add_mul_ediv a b
  have h2 : a - a / b * b = a % b := by rw [Int.mul_comm]; omega
  rw [h2]
  have h3 := Int.emod_nonneg a (show b ≠ 0 by omega)
  have h4 := Int.emod_lt_of_pos a hb
  exact aTo (by omega) (by omega)
theorem al_div_eq {a b : Int} (ha : 0 ≤ a) (ha2 : a < 9223372036854775808) (hb : 0 < b) (hb2 : b < 9223372036854775808) : al_div a b = a / b := by
  unfold al_div
  have e1 := aTo64 (v := a) (by omega) ha2
  have e2 := aTo64 (v := b) (by omega) hb2
  rw [Int64.toInt_div_of_ne_right _ _ (by intro h; have := congrArg Int64.toInt h; rw [e2] at this; have z : (-1 : Int64).toInt = -1 := by decide
                                          omega), e1, e2]
  exact Int.tdiv_eq_ediv_of_nonneg ha
theorem aNat (n : Nat) : Int32.ofInt (n : Int) = Int32.ofNat n := by
  first | rfl | exact Int32.ofInt_eq_ofNat
theorem aNat64 (n : Nat) : Int64.ofInt (n : Int) = Int64.ofNat n := by
  first | rfl | exact Int64.ofInt_eq_ofNat
theorem ai_and_nat {x y : Nat} (hx : x < 2147483648) (hy : y < 2147483648) : ai_and (x : Int) (y : Int) = ((x &&& y : Nat) : Int) := by
  unfold ai_and
  have e : Int32.ofInt (x : Int) &&& Int32.ofInt (y : Int) = Int32.ofInt ((x &&& y : Nat) : Int) := by
    rw [← Int32.toBitVec_inj, Int32.toBitVec_and, Int32.toBitVec_ofInt, Int32.toBitVec_ofInt, Int32.toBitVec_ofInt]
    simp only [BitVec.ofInt_natCast, BitVec.ofNat_and]
  rw [e]
  have := Nat.and_le_left (n := x) (m := y)
  exact aTo (by omega) (by omega)
theorem ai_or_nat {x y : Nat} (hx : x < 2147483648) (hy : y < 2147483648) : ai_or (x : Int) (y : Int) = ((x ||| y : Nat) : Int) := by
  unfold ai_or
  have e : Int32.ofInt (x : Int) ||| Int32.ofInt (y : Int) = Int32.ofInt ((x ||| y : Nat) : Int) := by
    rw [← Int32.toBitVec_inj, Int32.toBitVec_or, Int32.toBitVec_ofInt, Int32.toBitVec_ofInt, Int32.toBitVec_ofInt]
    simp only [BitVec.ofInt_natCast, BitVec.ofNat_or]
  rw [e]
  have := Nat.or_lt_two_pow (x := x) (y := y) (n := 31) (by omega) (by omega)
  exact aTo (by omega) (by omega)
theorem ai_sh_ok : ∀ k : Nat, k < 32 → ((Int32.ofInt (k : Int) &&& 31).toBitVec.smod 32).toNat = k := by decide +kernel
theorem ai_shr_eq {x : Int} {k : Nat} (h1 : -2147483648 ≤ x) (h2 : x < 2147483648) (hk : k < 32) : ai_shr x (k : Int) = x / (2 ^ k : Nat) := by
  unfold ai_shr
  rw [← Int32.toInt_toBitVec, Int32.toBitVec_shiftRight, BitVec.toInt_sshiftRight', ai_sh_ok k hk, Int32.toInt_toBitVec, aTo h1 h2, Int.shiftRight_eq_div_pow]
theorem ai_shr_nat {x k : Nat} (hx : x < 2147483648) (hk : k < 32) : ai_shr (x : Int) (k : Int) = ((x >>> k : Nat) : Int) := by
  rw [ai_shr_eq (by omega) (by omega) hk, Nat.shiftRight_eq_div_pow]
  simp
theorem ai_shl_one : ∀ k : Nat, k < 31 → ai_shl 1 (k : Int) = ((2 ^ k : Nat) : Int) := by decide +kernel
theorem ai_bit {x k : Nat} (hx : x < 2147483648) (hk : k < 32) : ai_and (ai_shr (x : Int) (k : Int)) 1 = if x.testBit k then 1 else 0 := by
  rw [ai_shr_nat hx hk]
  have h1 : x >>> k < 2147483648 := by
    rw [Nat.shiftRight_eq_div_pow]
    exact Nat.lt_of_le_of_lt (Nat.div_le_self _ _) hx
  have h2 := ai_and_nat (x := x >>> k) (y := 1) h1 (by decide)
  rw [show ((1 : Nat) : Int) = 1 from rfl] at h2
  rw [h2, Nat.testBit, Nat.and_comm]
  rcases Nat.mod_two_eq_zero_or_one (x >>> k) with h | h
  · simp [Nat.one_and_eq_mod_two, h]
  · simp [Nat.one_and_eq_mod_two, h]
theorem al_cmp_lt {a b : Int} : al_cmp a b < 0 ↔ a < b := by
  unfold al_cmp; split <;> (try split) <;> omega
theorem al_cmp_eq {a b : Int} : al_cmp a b = 0 ↔ a = b := by
  unfold al_cmp; split <;> (try split) <;> omega
theorem al_cmp_gt {a b : Int} : 0 < al_cmp a b ↔ b < a := by
  unfold al_cmp; split <;> (try split) <;> omega
theorem al_sh_ok : ∀ k : Nat, k < 64 → (((Int32.ofInt (k : Int)).toInt64 &&& 63).toBitVec.smod 64).toNat = k := by decide +kernel
theorem al_shr_eq {x : Int} {k : Nat} (h1 : -9223372036854775808 ≤ x) (h2 : x < 9223372036854775808) (hk : k < 64) : al_shr x (k : Int) = x / (2 ^ k : Nat) := by
  unfold al_shr
  rw [← Int64.toInt_toBitVec, Int64.toBitVec_shiftRight, BitVec.toInt_sshiftRight', al_sh_ok k hk, Int64.toInt_toBitVec, aTo64 h1 h2, Int.shiftRight_eq_div_pow]
theorem al_shr_nat {x k : Nat} (hx : x < 9223372036854775808) (hk : k < 64) : al_shr (x : Int) (k : Int) = ((x >>> k : Nat) : Int) := by
  rw [al_shr_eq (by omega) (by omega) hk, Nat.shiftRight_eq_div_pow]
  simp
theorem al_and_nat {x y : Nat} (hx : x < 9223372036854775808) (hy : y < 9223372036854775808) : al_and (x : Int) (y : Int) = ((x &&& y : Nat) : Int) := by
  unfold al_and
  have e : Int64.ofInt (x : Int) &&& Int64.ofInt (y : Int) = Int64.ofInt ((x &&& y : Nat) : Int) := by
    rw [← Int64.toBitVec_inj, Int64.toBitVec_and, Int64.toBitVec_ofInt, Int64.toBitVec_ofInt, Int64.toBitVec_ofInt]
    simp only [BitVec.ofInt_natCast, BitVec.ofNat_and]
  rw [e]
  have := Nat.and_le_left (n := x) (m := y)
  exact aTo64 (by omega) (by omega)
theorem al_or_nat {x y : Nat} (hx : x < 9223372036854775808) (hy : y < 9223372036854775808) : al_or (x : Int) (y : Int) = ((x ||| y : Nat) : Int) := by
  unfold al_or
  have e : Int64.ofInt (x : Int) ||| Int64.ofInt (y : Int) = Int64.ofInt ((x ||| y : Nat) : Int) := by
    rw [← Int64.toBitVec_inj, Int64.toBitVec_or, Int64.toBitVec_ofInt, Int64.toBitVec_ofInt, Int64.toBitVec_ofInt]
    simp only [BitVec.ofInt_natCast, BitVec.ofNat_or]
  rw [e]
  have := Nat.or_lt_two_pow (x := x) (y := y) (n := 63) (by omega) (by omega)
  exact aTo64 (by omega) (by omega)
theorem al_int_small {x : Int} (h1 : -2147483648 ≤ x) (h2 : x < 2147483648) : al_int x = x := by
  unfold al_int
  rw [Int64.toInt_toInt32, aTo64 (by omega) (by omega)]
  rw [Int.bmod_eq_of_le (by omega) (by omega)]
