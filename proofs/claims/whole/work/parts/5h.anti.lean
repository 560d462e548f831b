/-! ===== what goes from one cell comes to the other ===== -/
theorem min_comm (a b : Int32) : minJ a b = minJ b a := by
  unfold minJ
  by_cases h1 : b < a
  · have h2 : ¬ a < b := fun g => by
      rw [Int32.lt_iff_toInt_lt] at h1 g
      omega
    rw [if_pos h1, if_neg h2]
  · by_cases h2 : a < b
    · rw [if_neg h1, if_pos h2]
    · rw [if_neg h1, if_neg h2]
      apply Int32.toInt_inj.mp
      rw [Int32.lt_iff_toInt_lt] at h1 h2
      omega
theorem div_neg100 {y : Int32} (h : -1000000 ≤ y.toInt ∧ y.toInt ≤ 1000000) : (-y) / 100 = -(y / 100) := by
  have d : -1000000 ≤ y.toInt.tdiv 100 ∧ y.toInt.tdiv 100 ≤ 1000000 := by
    by_cases g : 0 ≤ y.toInt
    · rw [td_pos g]; omega
    · rw [td_neg (by omega)]; omega
  apply Int32.toInt_inj.mp
  rw [Int32.toInt_div, Int32.toInt_neg, Int32.toInt_neg, Int32.toInt_div, show (100 : Int32).toInt = 100 by decide, bm (x := -y.toInt) (by omega) (by omega), Int.neg_tdiv, bm (x := y.toInt.tdiv 100) (by omega) (by omega)]
