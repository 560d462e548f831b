/-! ===== bounds of what comes to a cell ===== -/
theorem td_pos {m : Int} (h : 0 ≤ m) : m.tdiv 100 = m / 100 := Int.tdiv_eq_ediv_of_nonneg h
theorem td_neg {m : Int} (h : m < 0) : m.tdiv 100 = -((-m) / 100) := by
  have e : m.tdiv 100 = -((-m).tdiv 100) := by rw [Int.neg_tdiv]; omega
  rw [e, td_pos (by omega)]
theorem part_bd {x w : Int32} {k K : Nat} (hx : -3900 ≤ x.toInt ∧ x.toInt ≤ 300) (hw : -3900 ≤ w.toInt ∧ w.toInt ≤ 300) (hk : k ≤ K) (hK : K ≤ 100) :
    100 * (((x - w) * nI k) / 100).toInt ≤ (300 - w.toInt) * K ∧ -((w.toInt + 3900) * K) ≤ 100 * (((x - w) * nI k) / 100).toInt := by
  have e1 : (x - w).toInt = x.toInt - w.toInt := by rw [Int32.toInt_sub, bm (by omega) (by omega)]
  have k0 : (0 : Int) ≤ (k : Int) := Int.natCast_nonneg k
  have kK : (k : Int) ≤ (K : Int) := by omega
  have p1 : (x.toInt - w.toInt) * k ≤ (300 - w.toInt) * K := Int.le_trans (Int.mul_le_mul_of_nonneg_right (show x.toInt - w.toInt ≤ 300 - w.toInt by omega) k0) (Int.mul_le_mul_of_nonneg_left kK (by omega))
  have p2 : (-(w.toInt + 3900)) * k ≤ (x.toInt - w.toInt) * k := Int.mul_le_mul_of_nonneg_right (by omega) k0
  have p3 : (w.toInt + 3900) * k ≤ (w.toInt + 3900) * K := Int.mul_le_mul_of_nonneg_left kK (by omega)
  have p4 : (-(w.toInt + 3900)) * (k : Int) = -((w.toInt + 3900) * k) := Int.neg_mul _ _
  have q1 : (300 - w.toInt) * (K : Int) ≤ 4200 * 100 := Int.mul_le_mul (by omega) (by omega) (by omega) (by omega)
  have q2 : (w.toInt + 3900) * (K : Int) ≤ 4200 * 100 := Int.mul_le_mul (by omega) (by omega) (by omega) (by omega)
  have q3 : 0 ≤ (300 - w.toInt) * (K : Int) := Int.mul_nonneg (by omega) (by omega)
  have q4 : 0 ≤ (w.toInt + 3900) * (K : Int) := Int.mul_nonneg (by omega) (by omega)
  have e2 : ((x - w) * nI k).toInt = (x.toInt - w.toInt) * k := by
    rw [Int32.toInt_mul, e1, nI_toInt (by omega), bm (by omega) (by omega)]
  generalize (x.toInt - w.toInt) * (k : Int) = m at *
  generalize (300 - w.toInt) * (K : Int) = A at *
  generalize (w.toInt + 3900) * (K : Int) = B at *
  have e3 : (((x - w) * nI k) / 100).toInt = m.tdiv 100 := by
    rw [Int32.toInt_div, e2, show (100 : Int32).toInt = 100 by decide]
    by_cases h : 0 ≤ m
    · rw [td_pos h, bm (by omega) (by omega)]
    · rw [td_neg (by omega), bm (by omega) (by omega)]
  rw [e3]
  by_cases h : 0 ≤ m
  · rw [td_pos h]
    omega
  · rw [td_neg (by omega)]
    omega
