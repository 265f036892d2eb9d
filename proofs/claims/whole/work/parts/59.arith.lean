theorem toI {z : Int} (h : -2147483648 ≤ z ∧ z ≤ 2147483647) : (Int32.ofInt z).toInt = z := wwP h
theorem zdivP {a b : Int} (h : (0 ≤ a ∧ a ≤ 2147483647) ∧ 0 < b ∧ b ≤ 2147483647) : zdiv a b = a / b := by
  unfold zdiv
  rw [Int32.toInt_div, toI (by omega), toI (by omega), Int.tdiv_eq_ediv_of_nonneg h.1.1]
  have h1 : 0 ≤ a / b := Int.ediv_nonneg h.1.1 (by omega)
  have h2 : a / b ≤ a := Int.ediv_le_self _ h.1.1
  exact Int.bmod_eq_of_le (by omega) (by omega)
theorem zdivN {a b : Int} (h : (-2147483647 ≤ a ∧ a < 0) ∧ 0 < b ∧ b ≤ 2147483647) : zdiv a b = -((-a) / b) := by
  unfold zdiv
  rw [Int32.toInt_div, toI (by omega), toI (by omega)]
  have e : a.tdiv b = -((-a) / b) := by
    rw [← Int.tdiv_eq_ediv_of_nonneg (by omega), Int.neg_tdiv, Int.neg_neg]
  have h1 : 0 ≤ (-a) / b := Int.ediv_nonneg (by omega) (by omega)
  have h2 : (-a) / b ≤ -a := Int.ediv_le_self _ (by omega)
  rw [e]
  exact Int.bmod_eq_of_le (by omega) (by omega)
theorem zremP {a b : Int} (h : (0 ≤ a ∧ a ≤ 2147483647) ∧ 0 < b ∧ b ≤ 2147483647) : zrem a b = a % b := by
  unfold zrem
  have e := zdivP h
  unfold zdiv at e
  have h1 : 0 ≤ a % b := Int.emod_nonneg _ (by omega)
  have h2 : a % b < b := Int.emod_lt_of_pos _ (by omega)
  have h3 := Int.mul_ediv_add_emod a b
  have h4 : b * (a / b) = a / b * b := Int.mul_comm _ _
  have h5 : (a / b * b).bmod (2 ^ 32) = a / b * b := Int.bmod_eq_of_le (by omega) (by omega)
  rw [Int32.toInt_sub, Int32.toInt_mul, e, toI (by omega), toI (by omega), h5]
  rw [show a - a / b * b = a % b by omega]
  exact Int.bmod_eq_of_le (by omega) (by omega)
theorem zmaxP {a b : Int} (h : (-2147483648 ≤ a ∧ a ≤ 2147483647) ∧ (-2147483648 ≤ b ∧ b ≤ 2147483647)) : zmax a b = if a < b then b else a := by
  unfold zmax
  rw [wwP h.1, wwP h.2]
theorem wlP {z : Int} (h : -9223372036854775808 ≤ z ∧ z ≤ 9223372036854775807) : wl z = z := by
  unfold wl
  rw [Int64.toInt_ofInt, show Int64.size = 18446744073709551616 from rfl]
  exact Int.bmod_eq_of_le (by omega) (by omega)
theorem zi2lP {z : Int} (h : -2147483648 ≤ z ∧ z ≤ 2147483647) : zi2l z = z := by
  unfold zi2l
  rw [Int32.toInt_toInt64]
  exact wwP h
theorem zlcmp_self {z : Int} : ww (zlcmp z z) = 0 := by
  unfold zlcmp
  rw [if_neg (by omega), if_pos rfl]
  rfl
