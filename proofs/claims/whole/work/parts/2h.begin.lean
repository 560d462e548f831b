/-! ===== State.forget, State.begin ===== -/
theorem fill_s {z : Hp} {a : Nat} (v : Int32) (h1 : (zK z a).1 = 1) (h2 : (zK z a).2 < 1000000) : m_J7_fill_53178 a v z = some ((), wI z a (fun i => if i < (zK z a).2 then v else zI z a i)) :=
  fill_ok v (n := (zK z a).2) (by rw [← h1]) h2
theorem forget_ok {z : Hp} {s : Nat} (h : LayS z s) : ∃ y, m_X8_forget s z = some ((), y) ∧ Fi (fun a => s ≤ a ∧ a < s + 32) z y ∧
    (∀ g, g < 4 → zI y (s + 2) g = 10 ∧ zI y (s + 3) g = 15 ∧ zI y (s + 4) g = 100 ∧ zI y (s + 5) g = 0) ∧ (∀ c, c < 144 → zI y (s + 6) c = 0 ∧ zI y (s + 30) c = 0) ∧ (∀ c, c < 12 → zI y (s + 7) c = -1) ∧
    zI y (s + 1) 6 = 100 ∧ zI y (s + 8) 6 = 0 ∧ zI y (s + 15) 3 = 0 ∧ zI y (s + 19) 4 = 0 ∧ zI y s 10 = 0 ∧ zI y s 12 = 99999 ∧ zI y s 13 = 0 := by
  refine ⟨?y, ?h1, ?h2, ?h3⟩
  case h1 =>
    simp [m_X8_forget, m_X7_forget, gI, gR, pI, pR, aI, sI, aL, sL, aO, aR, sR, aN, onul, bnd, isC, cpI, cpL, sLen, sCh, nwC, sk_0, sk_1, sk_2, sk_3, sk_4, sk_5, sk_6, sk_7, sk_8, sk_9, sk_10, sk_11, sk_12, sk_13, sk_14, sk_15, sk_16, sk_17, sk_18, sk_19, sk_20, sk_21, sk_22, sk_23, sk_24, sk_25, sk_26, sk_27, sk_28, sk_29, sk_30, sk_31, sr_0_0, sr_0_1, sr_0_2, sr_0_3, sr_0_4, sr_0_5, sr_0_6, sr_0_7, sr_0_8, sr_0_9, sr_1_0, sr_1_1, sr_1_2, sr_1_3, sr_1_4, sr_1_5, sr_8_0, sr_8_1, sr_8_2, sr_8_3, sr_8_4, sr_8_5, sr_15_0, sr_15_1, sr_15_2, sr_19_0, sr_19_1, sr_19_2, sr_19_3, sr_24_0, sr_24_1, zK_wI, zR_wI, zL_wI, zN_wI, zI_wI, zK_wL, zR_wL, zI_wL, zN_wL, zL_wL, zK_wR, zI_wR, zL_wR, zN_wR, zR_wR, ups_eq, h, fill_s]
    exact rfl
  case h2 =>
    iterate 14 refine Fi.trans ?_ (Fi.w (by omega))
    exact Fi.rfl'
  case h3 =>
    simp +contextual [zK_wI, zR_wI, zL_wI, zN_wI, zI_wI, zK_wL, zR_wL, zI_wL, zN_wL, zL_wL, zK_wR, zI_wR, zL_wR, zN_wR, zR_wR, ups_eq]
theorem begin_ok {z : Hp} {s : Nat} (h : LayS z s) : ∃ y, m_X8_begin s z = some ((), y) ∧ Fi (fun a => a = s ∨ a = s + 25 ∨ a = s + 27 ∨ a = s + 28 ∨ a = s + 29 ∨ a = s + 31) z y ∧
    (∀ c, c < 144 → zI y (s + 27) c = zI z (s + 1) 6 ∧ zI y (s + 28) c = 0 ∧ zI y (s + 29) c = 0) ∧ (∀ c, c < 10 → zI y (s + 25) c = -1) ∧ (∀ c, c < 5 → zI y (s + 31) c = 0) ∧ zI y (s + 31) 5 = 144 * zI z (s + 1) 6 ∧
    zI y s 11 = 0 ∧ zI y s 14 = 0 ∧ zI y s 15 = 0 ∧ zI y s 16 = 0 ∧ zI y s 10 = zI z s 10 ∧ zI y s 12 = zI z s 12 ∧ zI y s 13 = zI z s 13 := by
  have e4 : inb 5 6 = true := by decide
  have e5 : (5 : Int32).toNatClampNeg = 5 := by decide
  refine ⟨?y, ?h1, ?h2, ?h3⟩
  case h1 =>
    simp [m_X8_begin, gI, gR, pI, pR, aI, sI, aL, sL, aO, aR, sR, aN, onul, bnd, isC, cpI, cpL, sLen, sCh, nwC, sk_0, sk_1, sk_2, sk_3, sk_4, sk_5, sk_6, sk_7, sk_8, sk_9, sk_10, sk_11, sk_12, sk_13, sk_14, sk_15, sk_16, sk_17, sk_18, sk_19, sk_20, sk_21, sk_22, sk_23, sk_24, sk_25, sk_26, sk_27, sk_28, sk_29, sk_30, sk_31, sr_0_0, sr_0_1, sr_0_2, sr_0_3, sr_0_4, sr_0_5, sr_0_6, sr_0_7, sr_0_8, sr_0_9, sr_1_0, sr_1_1, sr_1_2, sr_1_3, sr_1_4, sr_1_5, sr_8_0, sr_8_1, sr_8_2, sr_8_3, sr_8_4, sr_8_5, sr_15_0, sr_15_1, sr_15_2, sr_19_0, sr_19_1, sr_19_2, sr_19_3, sr_24_0, sr_24_1, zK_wI, zR_wI, zL_wI, zN_wI, zI_wI, zK_wL, zR_wL, zI_wL, zN_wL, zL_wL, zK_wR, zI_wR, zL_wR, zN_wR, zR_wR, ups_eq, h, fill_s, e4, e5]
    exact rfl
  case h2 =>
    repeat (first | exact Fi.rfl' | refine Fi.trans ?_ (Fi.w (by omega)))
  case h3 =>
    simp +contextual [zK_wI, zR_wI, zL_wI, zN_wI, zI_wI, zK_wL, zR_wL, zI_wL, zN_wL, zL_wL, zK_wR, zI_wR, zL_wR, zN_wR, zR_wR, ups_eq]
    intro c hc
    rw [if_neg (by omega), if_pos (by omega)]
