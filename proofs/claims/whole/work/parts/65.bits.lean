theorem nat_or1 (y : Nat) : y ||| 1 = 2 * (y / 2) + 1 := by
  apply Nat.eq_of_testBit_eq
  intro i
  cases i with
  | zero => simp [Nat.testBit_zero]
  | succ i =>
    rw [Nat.testBit_or, Nat.testBit_succ, Nat.testBit_succ, Nat.testBit_succ]
    rw [show 1 / 2 = 0 from rfl, show (2 * (y / 2) + 1) / 2 = y / 2 by omega]
    simp
theorem nat_xor1 (y : Nat) : y ^^^ 1 = 2 * (y / 2) + (1 - y % 2) := by
  apply Nat.eq_of_testBit_eq
  intro i
  cases i with
  | zero =>
    rw [Nat.testBit_xor, Nat.testBit_zero, Nat.testBit_zero, Nat.testBit_zero]
    rcases Nat.mod_two_eq_zero_or_one y with h | h
    · rw [h, show (2 * (y / 2) + (1 - 0)) % 2 = 1 by omega]; rfl
    · rw [h, show (2 * (y / 2) + (1 - 1)) % 2 = 0 by omega]; rfl
  | succ i =>
    rw [Nat.testBit_xor, Nat.testBit_succ, Nat.testBit_succ, Nat.testBit_succ]
    rw [show 1 / 2 = 0 from rfl, show (2 * (y / 2) + (1 - y % 2)) / 2 = y / 2 by omega]
    simp
theorem nat_andE (y : Nat) (h : y < 4294967296) : y &&& 4294967294 = 2 * (y / 2) := by
  apply Nat.eq_of_testBit_eq
  intro i
  cases i with
  | zero =>
    rw [Nat.testBit_and, Nat.testBit_zero, Nat.testBit_zero, Nat.testBit_zero]
    simp
  | succ i =>
    rw [Nat.testBit_and, Nat.testBit_succ, Nat.testBit_succ, Nat.testBit_succ]
    rw [show 4294967294 / 2 = 2 ^ 31 - 1 from rfl, show 2 * (y / 2) / 2 = y / 2 by omega, Nat.testBit_two_pow_sub_one]
    by_cases c : i < 31
    · simp [c]
    · have : (y / 2).testBit i = false := Nat.testBit_lt_two_pow (Nat.lt_of_lt_of_le (by omega : y / 2 < 2 ^ 31) (Nat.pow_le_pow_right (by decide) (by omega)))
      simp [this]
theorem bvI_nat (n : Nat) : (Int32.ofInt (n : Int)).toBitVec = BitVec.ofNat 32 n := by
  show BitVec.ofInt 32 (n : Int) = BitVec.ofNat 32 n
  rw [BitVec.ofInt_natCast]
theorem toI_nat {a : Int32} {n : Nat} (h : a.toBitVec.toNat = n) (h2 : n < 2147483648) : a.toInt = (n : Int) := by
  show a.toBitVec.toInt = _
  rw [BitVec.toInt_eq_toNat_of_lt (by rw [h]; show 2 * n < 4294967296; omega), h]
theorem zandN {m n : Nat} (hm : m < 4294967296) (hn : n < 4294967296) (h : m &&& n < 2147483648) : zand (m : Int) (n : Int) = ((m &&& n : Nat) : Int) := by
  unfold zand
  refine toI_nat ?_ h
  rw [Int32.toBitVec_and, bvI_nat, bvI_nat, BitVec.toNat_and, BitVec.toNat_ofNat, BitVec.toNat_ofNat, Nat.mod_eq_of_lt hm, Nat.mod_eq_of_lt hn]
theorem zorN {m n : Nat} (hm : m < 4294967296) (hn : n < 4294967296) (h : m ||| n < 2147483648) : zor (m : Int) (n : Int) = ((m ||| n : Nat) : Int) := by
  unfold zor
  refine toI_nat ?_ h
  rw [Int32.toBitVec_or, bvI_nat, bvI_nat, BitVec.toNat_or, BitVec.toNat_ofNat, BitVec.toNat_ofNat, Nat.mod_eq_of_lt hm, Nat.mod_eq_of_lt hn]
theorem zxorN {m n : Nat} (hm : m < 4294967296) (hn : n < 4294967296) (h : m ^^^ n < 2147483648) : zxor (m : Int) (n : Int) = ((m ^^^ n : Nat) : Int) := by
  unfold zxor
  refine toI_nat ?_ h
  rw [Int32.toBitVec_xor, bvI_nat, bvI_nat, BitVec.toNat_xor, BitVec.toNat_ofNat, BitVec.toNat_ofNat, Nat.mod_eq_of_lt hm, Nat.mod_eq_of_lt hn]
theorem nat_of {x : Int} (h : 0 ≤ x) : ∃ n : Nat, x = (n : Int) := ⟨x.toNat, by omega⟩
theorem zand1 {x : Int} (h : 0 ≤ x ∧ x < 2147483648) : zand x 1 = x % 2 := by
  obtain ⟨n, rfl⟩ := nat_of h.1
  have e := zandN (m := n) (n := 1) (by omega) (by omega) (by rw [Nat.and_one_is_mod]; omega)
  rw [Nat.and_one_is_mod] at e
  exact e.trans (by omega)
theorem zor1 {x : Int} (h : 0 ≤ x ∧ x < 2147483648) : zor x 1 = 2 * (x / 2) + 1 := by
  obtain ⟨n, rfl⟩ := nat_of h.1
  have e := zorN (m := n) (n := 1) (by omega) (by omega) (by rw [nat_or1]; omega)
  rw [nat_or1] at e
  exact e.trans (by omega)
theorem zor0 {x : Int} (h : 0 ≤ x ∧ x < 2147483648) : zor x 0 = x := by
  obtain ⟨n, rfl⟩ := nat_of h.1
  have e := zorN (m := n) (n := 0) (by omega) (by omega) (by rw [Nat.or_zero]; omega)
  rw [Nat.or_zero] at e
  exact e
theorem zxor1 {x : Int} (h : 0 ≤ x ∧ x < 2147483648) : zxor x 1 = 2 * (x / 2) + (1 - x % 2) := by
  obtain ⟨n, rfl⟩ := nat_of h.1
  have e := zxorN (m := n) (n := 1) (by omega) (by omega) (by rw [nat_xor1]; omega)
  rw [nat_xor1] at e
  exact e.trans (by omega)
theorem zandE {x : Int} (h : 0 ≤ x ∧ x < 2147483648) : zand x (-2) = 2 * (x / 2) := by
  obtain ⟨n, rfl⟩ := nat_of h.1
  have e := zandN (m := n) (n := 4294967294) (by omega) (by omega) (by rw [nat_andE _ (by omega)]; omega)
  rw [nat_andE _ (by omega)] at e
  have e2 : zand (n : Int) (-2) = zand (n : Int) ((4294967294 : Nat) : Int) := by
    unfold zand
    rw [show Int32.ofInt (-2) = Int32.ofInt ((4294967294 : Nat) : Int) by decide]
  rw [e2, e]
  omega
theorem zandA {x : Int} (h : 0 ≤ x ∧ x < 2147483648) : zand x (-1) = x := by
  unfold zand
  rw [show Int32.ofInt (-1) = (-1 : Int32) by decide, Int32.and_neg_one]
  exact toI (by omega)
theorem zshl1 {x : Int} (h : 0 ≤ x ∧ x < 1073741824) : zshl x 1 = 2 * x := by
  obtain ⟨n, rfl⟩ := nat_of h.1
  unfold zshl
  rw [show (Int32.ofInt 1 &&& 31) = (1 : Int32) by decide]
  have e : (Int32.ofInt (n : Int) <<< (1 : Int32)).toBitVec.toNat = 2 * n := by
    rw [Int32.toBitVec_shiftLeft, bvI_nat]
    rw [show ((1 : Int32).toBitVec.smod 32) = 1#32 by decide]
    rw [BitVec.shiftLeft_eq', show (1#32).toNat = 1 from rfl, BitVec.toNat_shiftLeft, BitVec.toNat_ofNat, Nat.shiftLeft_eq]
    omega
  rw [toI_nat e (by omega)]
  omega
theorem zshr1 {x : Int} (h : 0 ≤ x ∧ x < 2147483648) : zshr x 1 = x / 2 := by
  unfold zshr
  rw [show (Int32.ofInt 1 &&& 31) = (1 : Int32) by decide]
  show (Int32.ofInt x >>> (1 : Int32)).toBitVec.toInt = _
  rw [Int32.toBitVec_shiftRight, show ((1 : Int32).toBitVec.smod 32) = 1#32 by decide, BitVec.sshiftRight_eq', show (1#32).toNat = 1 from rfl, BitVec.toInt_sshiftRight]
  show ((Int32.ofInt x).toInt) >>> 1 = _
  rw [toI (by omega), Int.shiftRight_eq_div_pow]
  rfl
