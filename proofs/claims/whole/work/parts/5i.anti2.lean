/-! ===== exW is antisymmetric ===== -/
theorem prod_bd {x w : Int32} {k : Nat} (hx : -3900 ≤ x.toInt ∧ x.toInt ≤ 300) (hw : -3900 ≤ w.toInt ∧ w.toInt ≤ 300) (hk : k ≤ 100) : -1000000 ≤ ((x - w) * nI k).toInt ∧ ((x - w) * nI k).toInt ≤ 1000000 := by
  have e1 : (x - w).toInt = x.toInt - w.toInt := by rw [Int32.toInt_sub, bm (by omega) (by omega)]
  have k0 : (0 : Int) ≤ (k : Int) := Int.natCast_nonneg k
  have p1 : (x.toInt - w.toInt) * k ≤ 4200 * k := Int.mul_le_mul_of_nonneg_right (by omega) k0
  have p2 : (-4200) * (k : Int) ≤ (x.toInt - w.toInt) * k := Int.mul_le_mul_of_nonneg_right (by omega) k0
  have e2 : ((x - w) * nI k).toInt = (x.toInt - w.toInt) * k := by
    rw [Int32.toInt_mul, e1, nI_toInt (by omega), bm (by omega) (by omega)]
  rw [e2]
  omega
theorem min_N {a b : Int32} {m : Nat} (ha : isN a m) (hb : isN b m) : isN (minJ a b) m := by
  unfold minJ
  split
  · exact hb
  · exact ha
theorem ex_anti {W : Nat → Int32} {q c d : Nat} (hO : OkW W q) (hc : c < 144) (hd : d < 144) : exW W d c = -exW W c d := by
  have hm := min_N (ld_N hO hc) (ld_N hO hd)
  obtain ⟨k, hk, ek⟩ : ∃ k, k < 16 ∧ minJ (ldW W c) (ldW W d) = nI k := ⟨_, hm.2, hm.1⟩
  have b := prod_bd (ok_warm hO d hd) (ok_warm hO c hc) (k := k) (by omega)
  unfold exW
  rw [min_comm (ldW W d) (ldW W c), ek, show W (192 + c) - W (192 + d) = -(W (192 + d) - W (192 + c)) from Int32.neg_sub.symm, Int32.neg_mul]
  exact div_neg100 b
