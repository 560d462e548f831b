/-! ===== new FrostRingModel() ===== -/
theorem many4 {α : Type} {z : Hp} {a : Nat} (h : zK z a = (1, 4)) (hI : zI z a = fun _ => 0) {f : Hp → Option α} : (sI 1 z a 0 (-1) fun z58 => sI 1 z58 a 1 (-1) fun z59 => sI 1 z59 a 2 (-1) fun z60 => sI 1 z60 a 3 (-1) fun z61 => f z61) = f (wI z a (fun i => if i < 4 then -1 else 0)) := by
  simp (disch := omega) [gI, gR, pI, pR, aI, sI, aL, sL, aO, aR, sR, aN, onul, bnd, isC, cpI, cpL, sLen, sCh, nwC, zK_wI, zR_wI, zL_wI, zN_wI, zI_wI, zK_wL, zR_wL, zI_wL, zN_wL, zL_wL, zK_wR, zI_wR, zL_wR, zN_wR, zR_wR, ups_eq, inb_nI, nI_clamp, wI_wI, nI_add, pk_mul, add_c, c_add, c_mul, lt_c, le_c, eq_c, gt_c, ge_c, inb_c, clamp_c, h]
  refine congrArg f (congrArg (wI z a) (funext fun i => ?_))
  simp only [ups_eq, hI]
  grind
theorem start_M {z : Hp} (hn : zN z = 92) : ∃ y, (nwC (12 + 7) 0 z fun a z => bnd (m_X12_init a z) fun _ z => some (a, z)) = some (92, y) ∧ zN y = 115 ∧ LayM y ∧ Fr (fun a => 92 ≤ a) z y ∧
    (zI y 93 = beginW (fun i => if i < 810 then plainW i else 0) ∧ zI y 92 = ups (fun _ => 0) 14 (-1) ∧ zI y 96 = (fun _ => 0) ∧ zI y 111 = (fun i => if i < 4 then -1 else 0) ∧ zI y 112 = (fun _ => 0) ∧ zL y 113 = fun _ => 0) := by
  obtain ⟨w0, hw0⟩ : ∃ w, w = zNew z 19 0 := ⟨_, rfl⟩
  have hN0 : zN w0 = 93 := by rw [hw0, zN_new, hn]
  have hk0 : zK w0 92 = (19, 0) := by rw [hw0, zK_new, hn]; exact if_pos rfl
  have hI0 : zI w0 92 = fun _ => 0 := by rw [hw0, zI_new, hn]; exact if_pos rfl
  have hc0 : Fr (fun a => 92 ≤ a) z w0 := by rw [hw0]; exact Fr.new (by rw [hn]; exact Nat.le_refl _)
  obtain ⟨x1, hx1⟩ : ∃ x, x = zNew w0 1 810 := ⟨_, rfl⟩
  have xk1 : zK x1 92 = (19, 0) := by rw [hx1, zK_new, hN0, if_neg (by decide)]; exact hk0
  have xa1 : zK x1 93 = (1, 810) := by rw [hx1, zK_new, hN0]; exact if_pos rfl
  have xI1 : zI x1 93 = fun _ => 0 := by rw [hx1, zI_new, hN0]; exact if_pos rfl
  have xL1 : zL x1 93 = fun _ => 0 := by rw [hx1, zL_new, hN0]; exact if_pos rfl
  have xO1 : zI x1 92 = zI w0 92 := by rw [hx1, zI_new, hN0, if_neg (by decide)]
  have xR1 : zR x1 92 = zR w0 92 := by rw [hx1, zR_new, hN0, if_neg (by decide)]
  have xN1 : zN x1 = 94 := by rw [hx1, zN_new, hN0]
  have xc1 : Fr (fun a => a = 92 ∨ 93 ≤ a) w0 x1 := by rw [hx1]; exact Fr.new (by rw [hN0]; exact Or.inr (Nat.le_refl _))
  obtain ⟨w1, hw1⟩ : ∃ w, w = wR x1 92 (ups (zR x1 92) 1 (some 93)) := ⟨_, rfl⟩
  have hN1 : zN w1 = 94 := by rw [hw1, zN_wR, xN1]
  have hk1 : zK w1 92 = (19, 0) := by rw [hw1, zK_wR]; exact xk1
  have g1 : zK w1 93 = (1, 810) := by rw [hw1, zK_wR]; exact xa1
  have gI1 : zI w1 93 = fun _ => 0 := by rw [hw1, zI_wR]; exact xI1
  have hO1 : zI w1 92 = zI w0 92 := by rw [hw1, zI_wR, xO1]
  have r1 : zR w1 92 = ups (zR w0 92) 1 (some 93) := by rw [hw1, zR_wR, if_pos rfl, xR1]
  have hc1 : Fr (fun a => a = 92 ∨ 93 ≤ a) w0 w1 := by rw [hw1]; exact xc1.trans (Fr.wR (Or.inl rfl))
  obtain ⟨x2, hx2⟩ : ∃ x, x = zNew w1 1 810 := ⟨_, rfl⟩
  have xk2 : zK x2 92 = (19, 0) := by rw [hx2, zK_new, hN1, if_neg (by decide)]; exact hk1
  have xa2 : zK x2 94 = (1, 810) := by rw [hx2, zK_new, hN1]; exact if_pos rfl
  have xI2 : zI x2 94 = fun _ => 0 := by rw [hx2, zI_new, hN1]; exact if_pos rfl
  have xL2 : zL x2 94 = fun _ => 0 := by rw [hx2, zL_new, hN1]; exact if_pos rfl
  have xO2 : zI x2 92 = zI w1 92 := by rw [hx2, zI_new, hN1, if_neg (by decide)]
  have xR2 : zR x2 92 = zR w1 92 := by rw [hx2, zR_new, hN1, if_neg (by decide)]
  have xN2 : zN x2 = 95 := by rw [hx2, zN_new, hN1]
  have xc2 : Fr (fun a => a = 92 ∨ 94 ≤ a) w1 x2 := by rw [hx2]; exact Fr.new (by rw [hN1]; exact Or.inr (Nat.le_refl _))
  obtain ⟨w2, hw2⟩ : ∃ w, w = wR x2 92 (ups (zR x2 92) 2 (some 94)) := ⟨_, rfl⟩
  have hN2 : zN w2 = 95 := by rw [hw2, zN_wR, xN2]
  have hk2 : zK w2 92 = (19, 0) := by rw [hw2, zK_wR]; exact xk2
  have g2 : zK w2 94 = (1, 810) := by rw [hw2, zK_wR]; exact xa2
  have gI2 : zI w2 94 = fun _ => 0 := by rw [hw2, zI_wR]; exact xI2
  have hO2 : zI w2 92 = zI w1 92 := by rw [hw2, zI_wR, xO2]
  have r2 : zR w2 92 = ups (zR w1 92) 2 (some 94) := by rw [hw2, zR_wR, if_pos rfl, xR2]
  have hc2 : Fr (fun a => a = 92 ∨ 94 ≤ a) w1 w2 := by rw [hw2]; exact xc2.trans (Fr.wR (Or.inl rfl))
  obtain ⟨x3, hx3⟩ : ∃ x, x = zNew w2 1 2430 := ⟨_, rfl⟩
  have xk3 : zK x3 92 = (19, 0) := by rw [hx3, zK_new, hN2, if_neg (by decide)]; exact hk2
  have xa3 : zK x3 95 = (1, 2430) := by rw [hx3, zK_new, hN2]; exact if_pos rfl
  have xI3 : zI x3 95 = fun _ => 0 := by rw [hx3, zI_new, hN2]; exact if_pos rfl
  have xL3 : zL x3 95 = fun _ => 0 := by rw [hx3, zL_new, hN2]; exact if_pos rfl
  have xO3 : zI x3 92 = zI w2 92 := by rw [hx3, zI_new, hN2, if_neg (by decide)]
  have xR3 : zR x3 92 = zR w2 92 := by rw [hx3, zR_new, hN2, if_neg (by decide)]
  have xN3 : zN x3 = 96 := by rw [hx3, zN_new, hN2]
  have xc3 : Fr (fun a => a = 92 ∨ 95 ≤ a) w2 x3 := by rw [hx3]; exact Fr.new (by rw [hN2]; exact Or.inr (Nat.le_refl _))
  obtain ⟨w3, hw3⟩ : ∃ w, w = wR x3 92 (ups (zR x3 92) 3 (some 95)) := ⟨_, rfl⟩
  have hN3 : zN w3 = 96 := by rw [hw3, zN_wR, xN3]
  have hk3 : zK w3 92 = (19, 0) := by rw [hw3, zK_wR]; exact xk3
  have g3 : zK w3 95 = (1, 2430) := by rw [hw3, zK_wR]; exact xa3
  have gI3 : zI w3 95 = fun _ => 0 := by rw [hw3, zI_wR]; exact xI3
  have hO3 : zI w3 92 = zI w2 92 := by rw [hw3, zI_wR, xO3]
  have r3 : zR w3 92 = ups (zR w2 92) 3 (some 95) := by rw [hw3, zR_wR, if_pos rfl, xR3]
  have hc3 : Fr (fun a => a = 92 ∨ 95 ≤ a) w2 w3 := by rw [hw3]; exact xc3.trans (Fr.wR (Or.inl rfl))
  obtain ⟨x4, hx4⟩ : ∃ x, x = zNew w3 2 3 := ⟨_, rfl⟩
  have xk4 : zK x4 92 = (19, 0) := by rw [hx4, zK_new, hN3, if_neg (by decide)]; exact hk3
  have xa4 : zK x4 96 = (2, 3) := by rw [hx4, zK_new, hN3]; exact if_pos rfl
  have xI4 : zI x4 96 = fun _ => 0 := by rw [hx4, zI_new, hN3]; exact if_pos rfl
  have xL4 : zL x4 96 = fun _ => 0 := by rw [hx4, zL_new, hN3]; exact if_pos rfl
  have xO4 : zI x4 92 = zI w3 92 := by rw [hx4, zI_new, hN3, if_neg (by decide)]
  have xR4 : zR x4 92 = zR w3 92 := by rw [hx4, zR_new, hN3, if_neg (by decide)]
  have xN4 : zN x4 = 97 := by rw [hx4, zN_new, hN3]
  have xc4 : Fr (fun a => a = 92 ∨ 96 ≤ a) w3 x4 := by rw [hx4]; exact Fr.new (by rw [hN3]; exact Or.inr (Nat.le_refl _))
  obtain ⟨w4, hw4⟩ : ∃ w, w = wR x4 92 (ups (zR x4 92) 4 (some 96)) := ⟨_, rfl⟩
  have hN4 : zN w4 = 97 := by rw [hw4, zN_wR, xN4]
  have hk4 : zK w4 92 = (19, 0) := by rw [hw4, zK_wR]; exact xk4
  have g4 : zK w4 96 = (2, 3) := by rw [hw4, zK_wR]; exact xa4
  have gI4 : zI w4 96 = fun _ => 0 := by rw [hw4, zI_wR]; exact xI4
  have hO4 : zI w4 92 = zI w3 92 := by rw [hw4, zI_wR, xO4]
  have r4 : zR w4 92 = ups (zR w3 92) 4 (some 96) := by rw [hw4, zR_wR, if_pos rfl, xR4]
  have hc4 : Fr (fun a => a = 92 ∨ 96 ≤ a) w3 w4 := by rw [hw4]; exact xc4.trans (Fr.wR (Or.inl rfl))
  obtain ⟨x5, hx5⟩ : ∃ x, x = zNew w4 3 700 := ⟨_, rfl⟩
  have xk5 : zK x5 92 = (19, 0) := by rw [hx5, zK_new, hN4, if_neg (by decide)]; exact hk4
  have xa5 : zK x5 97 = (3, 700) := by rw [hx5, zK_new, hN4]; exact if_pos rfl
  have xI5 : zI x5 97 = fun _ => 0 := by rw [hx5, zI_new, hN4]; exact if_pos rfl
  have xL5 : zL x5 97 = fun _ => 0 := by rw [hx5, zL_new, hN4]; exact if_pos rfl
  have xO5 : zI x5 92 = zI w4 92 := by rw [hx5, zI_new, hN4, if_neg (by decide)]
  have xR5 : zR x5 92 = zR w4 92 := by rw [hx5, zR_new, hN4, if_neg (by decide)]
  have xN5 : zN x5 = 98 := by rw [hx5, zN_new, hN4]
  have xc5 : Fr (fun a => a = 92 ∨ 97 ≤ a) w4 x5 := by rw [hx5]; exact Fr.new (by rw [hN4]; exact Or.inr (Nat.le_refl _))
  obtain ⟨w5, hw5⟩ : ∃ w, w = wR x5 92 (ups (zR x5 92) 5 (some 97)) := ⟨_, rfl⟩
  have hN5 : zN w5 = 98 := by rw [hw5, zN_wR, xN5]
  have hk5 : zK w5 92 = (19, 0) := by rw [hw5, zK_wR]; exact xk5
  have g5 : zK w5 97 = (3, 700) := by rw [hw5, zK_wR]; exact xa5
  have gI5 : zI w5 97 = fun _ => 0 := by rw [hw5, zI_wR]; exact xI5
  have hO5 : zI w5 92 = zI w4 92 := by rw [hw5, zI_wR, xO5]
  have r5 : zR w5 92 = ups (zR w4 92) 5 (some 97) := by rw [hw5, zR_wR, if_pos rfl, xR5]
  have hc5 : Fr (fun a => a = 92 ∨ 97 ≤ a) w4 w5 := by rw [hw5]; exact xc5.trans (Fr.wR (Or.inl rfl))
  obtain ⟨x6, hx6⟩ : ∃ x, x = zNew w5 1 5 := ⟨_, rfl⟩
  have xk6 : zK x6 92 = (19, 0) := by rw [hx6, zK_new, hN5, if_neg (by decide)]; exact hk5
  have xa6 : zK x6 98 = (1, 5) := by rw [hx6, zK_new, hN5]; exact if_pos rfl
  have xI6 : zI x6 98 = fun _ => 0 := by rw [hx6, zI_new, hN5]; exact if_pos rfl
  have xL6 : zL x6 98 = fun _ => 0 := by rw [hx6, zL_new, hN5]; exact if_pos rfl
  have xO6 : zI x6 92 = zI w5 92 := by rw [hx6, zI_new, hN5, if_neg (by decide)]
  have xR6 : zR x6 92 = zR w5 92 := by rw [hx6, zR_new, hN5, if_neg (by decide)]
  have xN6 : zN x6 = 99 := by rw [hx6, zN_new, hN5]
  have xc6 : Fr (fun a => a = 92 ∨ 98 ≤ a) w5 x6 := by rw [hx6]; exact Fr.new (by rw [hN5]; exact Or.inr (Nat.le_refl _))
  obtain ⟨w6, hw6⟩ : ∃ w, w = wR x6 92 (ups (zR x6 92) 7 (some 98)) := ⟨_, rfl⟩
  have hN6 : zN w6 = 99 := by rw [hw6, zN_wR, xN6]
  have hk6 : zK w6 92 = (19, 0) := by rw [hw6, zK_wR]; exact xk6
  have g6 : zK w6 98 = (1, 5) := by rw [hw6, zK_wR]; exact xa6
  have gI6 : zI w6 98 = fun _ => 0 := by rw [hw6, zI_wR]; exact xI6
  have hO6 : zI w6 92 = zI w5 92 := by rw [hw6, zI_wR, xO6]
  have r6 : zR w6 92 = ups (zR w5 92) 7 (some 98) := by rw [hw6, zR_wR, if_pos rfl, xR6]
  have hc6 : Fr (fun a => a = 92 ∨ 98 ≤ a) w5 w6 := by rw [hw6]; exact xc6.trans (Fr.wR (Or.inl rfl))
  obtain ⟨u, hu⟩ : ∃ u, u = wI w6 92 (ups (zI w6 92) 14 (-1)) := ⟨_, rfl⟩
  have uN : zN u = zN w6 := by rw [hu, zN_wI]
  have hkw := hk6
  have uI : zI u 92 = ups (zI w6 92) 14 (-1) := by rw [hu, zI_wI, if_pos rfl]
  replace hN6 : zN u = 99 := by rw [uN, hN6]
  replace hk6 : zK u 92 = (19, 0) := by rw [hu, zK_wI]; exact hk6
  replace g6 : zK u 98 = (1, 5) := by rw [hu, zK_wI]; exact g6
  replace gI6 : zI u 98 = fun _ => 0 := by rw [hu, zI_wI, if_neg (by decide)]; exact gI6
  replace r6 : zR u 92 = ups (zR w5 92) 7 (some 98) := by rw [hu, zR_wI]; exact r6
  replace hc6 : Fr (fun a => a = 92 ∨ 98 ≤ a) w5 u := by rw [hu]; exact hc6.trans (Fr.wI (Or.inl rfl))
  obtain ⟨x7, hx7⟩ : ∃ x, x = zNew u 1 810 := ⟨_, rfl⟩
  have xk7 : zK x7 92 = (19, 0) := by rw [hx7, zK_new, hN6, if_neg (by decide)]; exact hk6
  have xa7 : zK x7 99 = (1, 810) := by rw [hx7, zK_new, hN6]; exact if_pos rfl
  have xI7 : zI x7 99 = fun _ => 0 := by rw [hx7, zI_new, hN6]; exact if_pos rfl
  have xL7 : zL x7 99 = fun _ => 0 := by rw [hx7, zL_new, hN6]; exact if_pos rfl
  have xO7 : zI x7 92 = zI u 92 := by rw [hx7, zI_new, hN6, if_neg (by decide)]
  have xR7 : zR x7 92 = zR u 92 := by rw [hx7, zR_new, hN6, if_neg (by decide)]
  have xN7 : zN x7 = 100 := by rw [hx7, zN_new, hN6]
  have xc7 : Fr (fun a => a = 92 ∨ 99 ≤ a) u x7 := by rw [hx7]; exact Fr.new (by rw [hN6]; exact Or.inr (Nat.le_refl _))
  obtain ⟨w7, hw7⟩ : ∃ w, w = wR x7 92 (ups (zR x7 92) 15 (some 99)) := ⟨_, rfl⟩
  have hN7 : zN w7 = 100 := by rw [hw7, zN_wR, xN7]
  have hk7 : zK w7 92 = (19, 0) := by rw [hw7, zK_wR]; exact xk7
  have g7 : zK w7 99 = (1, 810) := by rw [hw7, zK_wR]; exact xa7
  have gI7 : zI w7 99 = fun _ => 0 := by rw [hw7, zI_wR]; exact xI7
  have hO7 : zI w7 92 = zI u 92 := by rw [hw7, zI_wR, xO7]
  have r7 : zR w7 92 = ups (zR u 92) 15 (some 99) := by rw [hw7, zR_wR, if_pos rfl, xR7]
  have hc7 : Fr (fun a => a = 92 ∨ 99 ≤ a) u w7 := by rw [hw7]; exact xc7.trans (Fr.wR (Or.inl rfl))
  obtain ⟨x8, hx8⟩ : ∃ x, x = zNew w7 2 4 := ⟨_, rfl⟩
  have xk8 : zK x8 92 = (19, 0) := by rw [hx8, zK_new, hN7, if_neg (by decide)]; exact hk7
  have xa8 : zK x8 100 = (2, 4) := by rw [hx8, zK_new, hN7]; exact if_pos rfl
  have xI8 : zI x8 100 = fun _ => 0 := by rw [hx8, zI_new, hN7]; exact if_pos rfl
  have xL8 : zL x8 100 = fun _ => 0 := by rw [hx8, zL_new, hN7]; exact if_pos rfl
  have xO8 : zI x8 92 = zI w7 92 := by rw [hx8, zI_new, hN7, if_neg (by decide)]
  have xR8 : zR x8 92 = zR w7 92 := by rw [hx8, zR_new, hN7, if_neg (by decide)]
  have xN8 : zN x8 = 101 := by rw [hx8, zN_new, hN7]
  have xc8 : Fr (fun a => a = 92 ∨ 100 ≤ a) w7 x8 := by rw [hx8]; exact Fr.new (by rw [hN7]; exact Or.inr (Nat.le_refl _))
  obtain ⟨w8, hw8⟩ : ∃ w, w = wR x8 92 (ups (zR x8 92) 16 (some 100)) := ⟨_, rfl⟩
  have hN8 : zN w8 = 101 := by rw [hw8, zN_wR, xN8]
  have hk8 : zK w8 92 = (19, 0) := by rw [hw8, zK_wR]; exact xk8
  have g8 : zK w8 100 = (2, 4) := by rw [hw8, zK_wR]; exact xa8
  have gI8 : zI w8 100 = fun _ => 0 := by rw [hw8, zI_wR]; exact xI8
  have hO8 : zI w8 92 = zI w7 92 := by rw [hw8, zI_wR, xO8]
  have r8 : zR w8 92 = ups (zR w7 92) 16 (some 100) := by rw [hw8, zR_wR, if_pos rfl, xR8]
  have hc8 : Fr (fun a => a = 92 ∨ 100 ≤ a) w7 w8 := by rw [hw8]; exact xc8.trans (Fr.wR (Or.inl rfl))
  obtain ⟨x9, hx9⟩ : ∃ x, x = zNew w8 2 12 := ⟨_, rfl⟩
  have xk9 : zK x9 92 = (19, 0) := by rw [hx9, zK_new, hN8, if_neg (by decide)]; exact hk8
  have xa9 : zK x9 101 = (2, 12) := by rw [hx9, zK_new, hN8]; exact if_pos rfl
  have xI9 : zI x9 101 = fun _ => 0 := by rw [hx9, zI_new, hN8]; exact if_pos rfl
  have xL9 : zL x9 101 = fun _ => 0 := by rw [hx9, zL_new, hN8]; exact if_pos rfl
  have xO9 : zI x9 92 = zI w8 92 := by rw [hx9, zI_new, hN8, if_neg (by decide)]
  have xR9 : zR x9 92 = zR w8 92 := by rw [hx9, zR_new, hN8, if_neg (by decide)]
  have xN9 : zN x9 = 102 := by rw [hx9, zN_new, hN8]
  have xc9 : Fr (fun a => a = 92 ∨ 101 ≤ a) w8 x9 := by rw [hx9]; exact Fr.new (by rw [hN8]; exact Or.inr (Nat.le_refl _))
  obtain ⟨w9, hw9⟩ : ∃ w, w = wR x9 92 (ups (zR x9 92) 17 (some 101)) := ⟨_, rfl⟩
  have hN9 : zN w9 = 102 := by rw [hw9, zN_wR, xN9]
  have hk9 : zK w9 92 = (19, 0) := by rw [hw9, zK_wR]; exact xk9
  have g9 : zK w9 101 = (2, 12) := by rw [hw9, zK_wR]; exact xa9
  have gI9 : zI w9 101 = fun _ => 0 := by rw [hw9, zI_wR]; exact xI9
  have hO9 : zI w9 92 = zI w8 92 := by rw [hw9, zI_wR, xO9]
  have r9 : zR w9 92 = ups (zR w8 92) 17 (some 101) := by rw [hw9, zR_wR, if_pos rfl, xR9]
  have hc9 : Fr (fun a => a = 92 ∨ 101 ≤ a) w8 w9 := by rw [hw9]; exact xc9.trans (Fr.wR (Or.inl rfl))
  obtain ⟨x10, hx10⟩ : ∃ x, x = zNew w9 1 144 := ⟨_, rfl⟩
  have xk10 : zK x10 92 = (19, 0) := by rw [hx10, zK_new, hN9, if_neg (by decide)]; exact hk9
  have xa10 : zK x10 102 = (1, 144) := by rw [hx10, zK_new, hN9]; exact if_pos rfl
  have xI10 : zI x10 102 = fun _ => 0 := by rw [hx10, zI_new, hN9]; exact if_pos rfl
  have xL10 : zL x10 102 = fun _ => 0 := by rw [hx10, zL_new, hN9]; exact if_pos rfl
  have xO10 : zI x10 92 = zI w9 92 := by rw [hx10, zI_new, hN9, if_neg (by decide)]
  have xR10 : zR x10 92 = zR w9 92 := by rw [hx10, zR_new, hN9, if_neg (by decide)]
  have xN10 : zN x10 = 103 := by rw [hx10, zN_new, hN9]
  have xc10 : Fr (fun a => a = 92 ∨ 102 ≤ a) w9 x10 := by rw [hx10]; exact Fr.new (by rw [hN9]; exact Or.inr (Nat.le_refl _))
  obtain ⟨w10, hw10⟩ : ∃ w, w = wR x10 92 (ups (zR x10 92) 24 (some 102)) := ⟨_, rfl⟩
  have hN10 : zN w10 = 103 := by rw [hw10, zN_wR, xN10]
  have hk10 : zK w10 92 = (19, 0) := by rw [hw10, zK_wR]; exact xk10
  have g10 : zK w10 102 = (1, 144) := by rw [hw10, zK_wR]; exact xa10
  have gI10 : zI w10 102 = fun _ => 0 := by rw [hw10, zI_wR]; exact xI10
  have hO10 : zI w10 92 = zI w9 92 := by rw [hw10, zI_wR, xO10]
  have r10 : zR w10 92 = ups (zR w9 92) 24 (some 102) := by rw [hw10, zR_wR, if_pos rfl, xR10]
  have hc10 : Fr (fun a => a = 92 ∨ 102 ≤ a) w9 w10 := by rw [hw10]; exact xc10.trans (Fr.wR (Or.inl rfl))
  obtain ⟨x11, hx11⟩ : ∃ x, x = zNew w10 1 18 := ⟨_, rfl⟩
  have xk11 : zK x11 92 = (19, 0) := by rw [hx11, zK_new, hN10, if_neg (by decide)]; exact hk10
  have xa11 : zK x11 103 = (1, 18) := by rw [hx11, zK_new, hN10]; exact if_pos rfl
  have xI11 : zI x11 103 = fun _ => 0 := by rw [hx11, zI_new, hN10]; exact if_pos rfl
  have xL11 : zL x11 103 = fun _ => 0 := by rw [hx11, zL_new, hN10]; exact if_pos rfl
  have xO11 : zI x11 92 = zI w10 92 := by rw [hx11, zI_new, hN10, if_neg (by decide)]
  have xR11 : zR x11 92 = zR w10 92 := by rw [hx11, zR_new, hN10, if_neg (by decide)]
  have xN11 : zN x11 = 104 := by rw [hx11, zN_new, hN10]
  have xc11 : Fr (fun a => a = 92 ∨ 103 ≤ a) w10 x11 := by rw [hx11]; exact Fr.new (by rw [hN10]; exact Or.inr (Nat.le_refl _))
  obtain ⟨w11, hw11⟩ : ∃ w, w = wR x11 92 (ups (zR x11 92) 25 (some 103)) := ⟨_, rfl⟩
  have hN11 : zN w11 = 104 := by rw [hw11, zN_wR, xN11]
  have hk11 : zK w11 92 = (19, 0) := by rw [hw11, zK_wR]; exact xk11
  have g11 : zK w11 103 = (1, 18) := by rw [hw11, zK_wR]; exact xa11
  have gI11 : zI w11 103 = fun _ => 0 := by rw [hw11, zI_wR]; exact xI11
  have hO11 : zI w11 92 = zI w10 92 := by rw [hw11, zI_wR, xO11]
  have r11 : zR w11 92 = ups (zR w10 92) 25 (some 103) := by rw [hw11, zR_wR, if_pos rfl, xR11]
  have hc11 : Fr (fun a => a = 92 ∨ 103 ≤ a) w10 w11 := by rw [hw11]; exact xc11.trans (Fr.wR (Or.inl rfl))
  obtain ⟨x12, hx12⟩ : ∃ x, x = zNew w11 1 144 := ⟨_, rfl⟩
  have xk12 : zK x12 92 = (19, 0) := by rw [hx12, zK_new, hN11, if_neg (by decide)]; exact hk11
  have xa12 : zK x12 104 = (1, 144) := by rw [hx12, zK_new, hN11]; exact if_pos rfl
  have xI12 : zI x12 104 = fun _ => 0 := by rw [hx12, zI_new, hN11]; exact if_pos rfl
  have xL12 : zL x12 104 = fun _ => 0 := by rw [hx12, zL_new, hN11]; exact if_pos rfl
  have xO12 : zI x12 92 = zI w11 92 := by rw [hx12, zI_new, hN11, if_neg (by decide)]
  have xR12 : zR x12 92 = zR w11 92 := by rw [hx12, zR_new, hN11, if_neg (by decide)]
  have xN12 : zN x12 = 105 := by rw [hx12, zN_new, hN11]
  have xc12 : Fr (fun a => a = 92 ∨ 104 ≤ a) w11 x12 := by rw [hx12]; exact Fr.new (by rw [hN11]; exact Or.inr (Nat.le_refl _))
  obtain ⟨w12, hw12⟩ : ∃ w, w = wR x12 92 (ups (zR x12 92) 26 (some 104)) := ⟨_, rfl⟩
  have hN12 : zN w12 = 105 := by rw [hw12, zN_wR, xN12]
  have hk12 : zK w12 92 = (19, 0) := by rw [hw12, zK_wR]; exact xk12
  have g12 : zK w12 104 = (1, 144) := by rw [hw12, zK_wR]; exact xa12
  have gI12 : zI w12 104 = fun _ => 0 := by rw [hw12, zI_wR]; exact xI12
  have hO12 : zI w12 92 = zI w11 92 := by rw [hw12, zI_wR, xO12]
  have r12 : zR w12 92 = ups (zR w11 92) 26 (some 104) := by rw [hw12, zR_wR, if_pos rfl, xR12]
  have hc12 : Fr (fun a => a = 92 ∨ 104 ≤ a) w11 w12 := by rw [hw12]; exact xc12.trans (Fr.wR (Or.inl rfl))
  obtain ⟨x13, hx13⟩ : ∃ x, x = zNew w12 2 144 := ⟨_, rfl⟩
  have xk13 : zK x13 92 = (19, 0) := by rw [hx13, zK_new, hN12, if_neg (by decide)]; exact hk12
  have xa13 : zK x13 105 = (2, 144) := by rw [hx13, zK_new, hN12]; exact if_pos rfl
  have xI13 : zI x13 105 = fun _ => 0 := by rw [hx13, zI_new, hN12]; exact if_pos rfl
  have xL13 : zL x13 105 = fun _ => 0 := by rw [hx13, zL_new, hN12]; exact if_pos rfl
  have xO13 : zI x13 92 = zI w12 92 := by rw [hx13, zI_new, hN12, if_neg (by decide)]
  have xR13 : zR x13 92 = zR w12 92 := by rw [hx13, zR_new, hN12, if_neg (by decide)]
  have xN13 : zN x13 = 106 := by rw [hx13, zN_new, hN12]
  have xc13 : Fr (fun a => a = 92 ∨ 105 ≤ a) w12 x13 := by rw [hx13]; exact Fr.new (by rw [hN12]; exact Or.inr (Nat.le_refl _))
  obtain ⟨w13, hw13⟩ : ∃ w, w = wR x13 92 (ups (zR x13 92) 27 (some 105)) := ⟨_, rfl⟩
  have hN13 : zN w13 = 106 := by rw [hw13, zN_wR, xN13]
  have hk13 : zK w13 92 = (19, 0) := by rw [hw13, zK_wR]; exact xk13
  have g13 : zK w13 105 = (2, 144) := by rw [hw13, zK_wR]; exact xa13
  have gI13 : zI w13 105 = fun _ => 0 := by rw [hw13, zI_wR]; exact xI13
  have hO13 : zI w13 92 = zI w12 92 := by rw [hw13, zI_wR, xO13]
  have r13 : zR w13 92 = ups (zR w12 92) 27 (some 105) := by rw [hw13, zR_wR, if_pos rfl, xR13]
  have hc13 : Fr (fun a => a = 92 ∨ 105 ≤ a) w12 w13 := by rw [hw13]; exact xc13.trans (Fr.wR (Or.inl rfl))
  obtain ⟨x14, hx14⟩ : ∃ x, x = zNew w13 2 576 := ⟨_, rfl⟩
  have xk14 : zK x14 92 = (19, 0) := by rw [hx14, zK_new, hN13, if_neg (by decide)]; exact hk13
  have xa14 : zK x14 106 = (2, 576) := by rw [hx14, zK_new, hN13]; exact if_pos rfl
  have xI14 : zI x14 106 = fun _ => 0 := by rw [hx14, zI_new, hN13]; exact if_pos rfl
  have xL14 : zL x14 106 = fun _ => 0 := by rw [hx14, zL_new, hN13]; exact if_pos rfl
  have xO14 : zI x14 92 = zI w13 92 := by rw [hx14, zI_new, hN13, if_neg (by decide)]
  have xR14 : zR x14 92 = zR w13 92 := by rw [hx14, zR_new, hN13, if_neg (by decide)]
  have xN14 : zN x14 = 107 := by rw [hx14, zN_new, hN13]
  have xc14 : Fr (fun a => a = 92 ∨ 106 ≤ a) w13 x14 := by rw [hx14]; exact Fr.new (by rw [hN13]; exact Or.inr (Nat.le_refl _))
  obtain ⟨w14, hw14⟩ : ∃ w, w = wR x14 92 (ups (zR x14 92) 28 (some 106)) := ⟨_, rfl⟩
  have hN14 : zN w14 = 107 := by rw [hw14, zN_wR, xN14]
  have hk14 : zK w14 92 = (19, 0) := by rw [hw14, zK_wR]; exact xk14
  have g14 : zK w14 106 = (2, 576) := by rw [hw14, zK_wR]; exact xa14
  have gI14 : zI w14 106 = fun _ => 0 := by rw [hw14, zI_wR]; exact xI14
  have hO14 : zI w14 92 = zI w13 92 := by rw [hw14, zI_wR, xO14]
  have r14 : zR w14 92 = ups (zR w13 92) 28 (some 106) := by rw [hw14, zR_wR, if_pos rfl, xR14]
  have hc14 : Fr (fun a => a = 92 ∨ 106 ≤ a) w13 w14 := by rw [hw14]; exact xc14.trans (Fr.wR (Or.inl rfl))
  obtain ⟨x15, hx15⟩ : ∃ x, x = zNew w14 1 288 := ⟨_, rfl⟩
  have xk15 : zK x15 92 = (19, 0) := by rw [hx15, zK_new, hN14, if_neg (by decide)]; exact hk14
  have xa15 : zK x15 107 = (1, 288) := by rw [hx15, zK_new, hN14]; exact if_pos rfl
  have xI15 : zI x15 107 = fun _ => 0 := by rw [hx15, zI_new, hN14]; exact if_pos rfl
  have xL15 : zL x15 107 = fun _ => 0 := by rw [hx15, zL_new, hN14]; exact if_pos rfl
  have xO15 : zI x15 92 = zI w14 92 := by rw [hx15, zI_new, hN14, if_neg (by decide)]
  have xR15 : zR x15 92 = zR w14 92 := by rw [hx15, zR_new, hN14, if_neg (by decide)]
  have xN15 : zN x15 = 108 := by rw [hx15, zN_new, hN14]
  have xc15 : Fr (fun a => a = 92 ∨ 107 ≤ a) w14 x15 := by rw [hx15]; exact Fr.new (by rw [hN14]; exact Or.inr (Nat.le_refl _))
  obtain ⟨w15, hw15⟩ : ∃ w, w = wR x15 92 (ups (zR x15 92) 29 (some 107)) := ⟨_, rfl⟩
  have hN15 : zN w15 = 108 := by rw [hw15, zN_wR, xN15]
  have hk15 : zK w15 92 = (19, 0) := by rw [hw15, zK_wR]; exact xk15
  have g15 : zK w15 107 = (1, 288) := by rw [hw15, zK_wR]; exact xa15
  have gI15 : zI w15 107 = fun _ => 0 := by rw [hw15, zI_wR]; exact xI15
  have hO15 : zI w15 92 = zI w14 92 := by rw [hw15, zI_wR, xO15]
  have r15 : zR w15 92 = ups (zR w14 92) 29 (some 107) := by rw [hw15, zR_wR, if_pos rfl, xR15]
  have hc15 : Fr (fun a => a = 92 ∨ 107 ≤ a) w14 w15 := by rw [hw15]; exact xc15.trans (Fr.wR (Or.inl rfl))
  obtain ⟨x16, hx16⟩ : ∃ x, x = zNew w15 1 288 := ⟨_, rfl⟩
  have xk16 : zK x16 92 = (19, 0) := by rw [hx16, zK_new, hN15, if_neg (by decide)]; exact hk15
  have xa16 : zK x16 108 = (1, 288) := by rw [hx16, zK_new, hN15]; exact if_pos rfl
  have xI16 : zI x16 108 = fun _ => 0 := by rw [hx16, zI_new, hN15]; exact if_pos rfl
  have xL16 : zL x16 108 = fun _ => 0 := by rw [hx16, zL_new, hN15]; exact if_pos rfl
  have xO16 : zI x16 92 = zI w15 92 := by rw [hx16, zI_new, hN15, if_neg (by decide)]
  have xR16 : zR x16 92 = zR w15 92 := by rw [hx16, zR_new, hN15, if_neg (by decide)]
  have xN16 : zN x16 = 109 := by rw [hx16, zN_new, hN15]
  have xc16 : Fr (fun a => a = 92 ∨ 108 ≤ a) w15 x16 := by rw [hx16]; exact Fr.new (by rw [hN15]; exact Or.inr (Nat.le_refl _))
  obtain ⟨w16, hw16⟩ : ∃ w, w = wR x16 92 (ups (zR x16 92) 30 (some 108)) := ⟨_, rfl⟩
  have hN16 : zN w16 = 109 := by rw [hw16, zN_wR, xN16]
  have hk16 : zK w16 92 = (19, 0) := by rw [hw16, zK_wR]; exact xk16
  have g16 : zK w16 108 = (1, 288) := by rw [hw16, zK_wR]; exact xa16
  have gI16 : zI w16 108 = fun _ => 0 := by rw [hw16, zI_wR]; exact xI16
  have hO16 : zI w16 92 = zI w15 92 := by rw [hw16, zI_wR, xO16]
  have r16 : zR w16 92 = ups (zR w15 92) 30 (some 108) := by rw [hw16, zR_wR, if_pos rfl, xR16]
  have hc16 : Fr (fun a => a = 92 ∨ 108 ≤ a) w15 w16 := by rw [hw16]; exact xc16.trans (Fr.wR (Or.inl rfl))
  obtain ⟨x17, hx17⟩ : ∃ x, x = zNew w16 2 144 := ⟨_, rfl⟩
  have xk17 : zK x17 92 = (19, 0) := by rw [hx17, zK_new, hN16, if_neg (by decide)]; exact hk16
  have xa17 : zK x17 109 = (2, 144) := by rw [hx17, zK_new, hN16]; exact if_pos rfl
  have xI17 : zI x17 109 = fun _ => 0 := by rw [hx17, zI_new, hN16]; exact if_pos rfl
  have xL17 : zL x17 109 = fun _ => 0 := by rw [hx17, zL_new, hN16]; exact if_pos rfl
  have xO17 : zI x17 92 = zI w16 92 := by rw [hx17, zI_new, hN16, if_neg (by decide)]
  have xR17 : zR x17 92 = zR w16 92 := by rw [hx17, zR_new, hN16, if_neg (by decide)]
  have xN17 : zN x17 = 110 := by rw [hx17, zN_new, hN16]
  have xc17 : Fr (fun a => a = 92 ∨ 109 ≤ a) w16 x17 := by rw [hx17]; exact Fr.new (by rw [hN16]; exact Or.inr (Nat.le_refl _))
  obtain ⟨w17, hw17⟩ : ∃ w, w = wR x17 92 (ups (zR x17 92) 32 (some 109)) := ⟨_, rfl⟩
  have hN17 : zN w17 = 110 := by rw [hw17, zN_wR, xN17]
  have hk17 : zK w17 92 = (19, 0) := by rw [hw17, zK_wR]; exact xk17
  have g17 : zK w17 109 = (2, 144) := by rw [hw17, zK_wR]; exact xa17
  have gI17 : zI w17 109 = fun _ => 0 := by rw [hw17, zI_wR]; exact xI17
  have hO17 : zI w17 92 = zI w16 92 := by rw [hw17, zI_wR, xO17]
  have r17 : zR w17 92 = ups (zR w16 92) 32 (some 109) := by rw [hw17, zR_wR, if_pos rfl, xR17]
  have hc17 : Fr (fun a => a = 92 ∨ 109 ≤ a) w16 w17 := by rw [hw17]; exact xc17.trans (Fr.wR (Or.inl rfl))
  obtain ⟨x18, hx18⟩ : ∃ x, x = zNew w17 1 144 := ⟨_, rfl⟩
  have xk18 : zK x18 92 = (19, 0) := by rw [hx18, zK_new, hN17, if_neg (by decide)]; exact hk17
  have xa18 : zK x18 110 = (1, 144) := by rw [hx18, zK_new, hN17]; exact if_pos rfl
  have xI18 : zI x18 110 = fun _ => 0 := by rw [hx18, zI_new, hN17]; exact if_pos rfl
  have xL18 : zL x18 110 = fun _ => 0 := by rw [hx18, zL_new, hN17]; exact if_pos rfl
  have xO18 : zI x18 92 = zI w17 92 := by rw [hx18, zI_new, hN17, if_neg (by decide)]
  have xR18 : zR x18 92 = zR w17 92 := by rw [hx18, zR_new, hN17, if_neg (by decide)]
  have xN18 : zN x18 = 111 := by rw [hx18, zN_new, hN17]
  have xc18 : Fr (fun a => a = 92 ∨ 110 ≤ a) w17 x18 := by rw [hx18]; exact Fr.new (by rw [hN17]; exact Or.inr (Nat.le_refl _))
  obtain ⟨w18, hw18⟩ : ∃ w, w = wR x18 92 (ups (zR x18 92) 33 (some 110)) := ⟨_, rfl⟩
  have hN18 : zN w18 = 111 := by rw [hw18, zN_wR, xN18]
  have hk18 : zK w18 92 = (19, 0) := by rw [hw18, zK_wR]; exact xk18
  have g18 : zK w18 110 = (1, 144) := by rw [hw18, zK_wR]; exact xa18
  have gI18 : zI w18 110 = fun _ => 0 := by rw [hw18, zI_wR]; exact xI18
  have hO18 : zI w18 92 = zI w17 92 := by rw [hw18, zI_wR, xO18]
  have r18 : zR w18 92 = ups (zR w17 92) 33 (some 110) := by rw [hw18, zR_wR, if_pos rfl, xR18]
  have hc18 : Fr (fun a => a = 92 ∨ 110 ≤ a) w17 w18 := by rw [hw18]; exact xc18.trans (Fr.wR (Or.inl rfl))
  obtain ⟨x19, hx19⟩ : ∃ x, x = zNew w18 1 4 := ⟨_, rfl⟩
  have xk19 : zK x19 92 = (19, 0) := by rw [hx19, zK_new, hN18, if_neg (by decide)]; exact hk18
  have xa19 : zK x19 111 = (1, 4) := by rw [hx19, zK_new, hN18]; exact if_pos rfl
  have xI19 : zI x19 111 = fun _ => 0 := by rw [hx19, zI_new, hN18]; exact if_pos rfl
  have xL19 : zL x19 111 = fun _ => 0 := by rw [hx19, zL_new, hN18]; exact if_pos rfl
  have xO19 : zI x19 92 = zI w18 92 := by rw [hx19, zI_new, hN18, if_neg (by decide)]
  have xR19 : zR x19 92 = zR w18 92 := by rw [hx19, zR_new, hN18, if_neg (by decide)]
  have xN19 : zN x19 = 112 := by rw [hx19, zN_new, hN18]
  have xc19 : Fr (fun a => a = 92 ∨ 111 ≤ a) w18 x19 := by rw [hx19]; exact Fr.new (by rw [hN18]; exact Or.inr (Nat.le_refl _))
  obtain ⟨t, ht⟩ : ∃ t, t = wI x19 111 (fun i => if i < 4 then -1 else 0) := ⟨_, rfl⟩
  have tI : zI t 111 = fun i => if i < 4 then -1 else 0 := by rw [ht, zI_wI, if_pos rfl]
  have tk : zK t = zK x19 := by rw [ht, zK_wI]
  have tR : zR t = zR x19 := by rw [ht, zR_wI]
  have tN : zN t = zN x19 := by rw [ht, zN_wI]
  have tO : zI t 92 = zI x19 92 := by rw [ht, zI_wI, if_neg (by decide)]
  obtain ⟨w19, hw19⟩ : ∃ w, w = wR t 92 (ups (zR t 92) 36 (some 111)) := ⟨_, rfl⟩
  have hN19 : zN w19 = 112 := by rw [hw19, zN_wR, tN, xN19]
  have hk19 : zK w19 92 = (19, 0) := by rw [hw19, zK_wR, tk]; exact xk19
  have g19 : zK w19 111 = (1, 4) := by rw [hw19, zK_wR, tk]; exact xa19
  have gI19 : zI w19 111 = fun i => if i < 4 then -1 else 0 := by rw [hw19, zI_wR]; exact tI
  have hO19 : zI w19 92 = zI w18 92 := by rw [hw19, zI_wR, tO, xO19]
  have r19 : zR w19 92 = ups (zR w18 92) 36 (some 111) := by rw [hw19, zR_wR, if_pos rfl, tR, xR19]
  have hc19 : Fr (fun a => a = 92 ∨ 111 ≤ a) w18 w19 := by rw [hw19, ht]; exact (xc19.trans (Fr.wI (Or.inr (Nat.le_refl _)))).trans (Fr.wR (Or.inl rfl))
  obtain ⟨x20, hx20⟩ : ∃ x, x = zNew w19 1 4 := ⟨_, rfl⟩
  have xk20 : zK x20 92 = (19, 0) := by rw [hx20, zK_new, hN19, if_neg (by decide)]; exact hk19
  have xa20 : zK x20 112 = (1, 4) := by rw [hx20, zK_new, hN19]; exact if_pos rfl
  have xI20 : zI x20 112 = fun _ => 0 := by rw [hx20, zI_new, hN19]; exact if_pos rfl
  have xL20 : zL x20 112 = fun _ => 0 := by rw [hx20, zL_new, hN19]; exact if_pos rfl
  have xO20 : zI x20 92 = zI w19 92 := by rw [hx20, zI_new, hN19, if_neg (by decide)]
  have xR20 : zR x20 92 = zR w19 92 := by rw [hx20, zR_new, hN19, if_neg (by decide)]
  have xN20 : zN x20 = 113 := by rw [hx20, zN_new, hN19]
  have xc20 : Fr (fun a => a = 92 ∨ 112 ≤ a) w19 x20 := by rw [hx20]; exact Fr.new (by rw [hN19]; exact Or.inr (Nat.le_refl _))
  obtain ⟨w20, hw20⟩ : ∃ w, w = wR x20 92 (ups (zR x20 92) 37 (some 112)) := ⟨_, rfl⟩
  have hN20 : zN w20 = 113 := by rw [hw20, zN_wR, xN20]
  have hk20 : zK w20 92 = (19, 0) := by rw [hw20, zK_wR]; exact xk20
  have g20 : zK w20 112 = (1, 4) := by rw [hw20, zK_wR]; exact xa20
  have gI20 : zI w20 112 = fun _ => 0 := by rw [hw20, zI_wR]; exact xI20
  have hO20 : zI w20 92 = zI w19 92 := by rw [hw20, zI_wR, xO20]
  have r20 : zR w20 92 = ups (zR w19 92) 37 (some 112) := by rw [hw20, zR_wR, if_pos rfl, xR20]
  have hc20 : Fr (fun a => a = 92 ∨ 112 ≤ a) w19 w20 := by rw [hw20]; exact xc20.trans (Fr.wR (Or.inl rfl))
  obtain ⟨x21, hx21⟩ : ∃ x, x = zNew w20 4 240 := ⟨_, rfl⟩
  have xk21 : zK x21 92 = (19, 0) := by rw [hx21, zK_new, hN20, if_neg (by decide)]; exact hk20
  have xa21 : zK x21 113 = (4, 240) := by rw [hx21, zK_new, hN20]; exact if_pos rfl
  have xI21 : zI x21 113 = fun _ => 0 := by rw [hx21, zI_new, hN20]; exact if_pos rfl
  have xL21 : zL x21 113 = fun _ => 0 := by rw [hx21, zL_new, hN20]; exact if_pos rfl
  have xO21 : zI x21 92 = zI w20 92 := by rw [hx21, zI_new, hN20, if_neg (by decide)]
  have xR21 : zR x21 92 = zR w20 92 := by rw [hx21, zR_new, hN20, if_neg (by decide)]
  have xN21 : zN x21 = 114 := by rw [hx21, zN_new, hN20]
  have xc21 : Fr (fun a => a = 92 ∨ 113 ≤ a) w20 x21 := by rw [hx21]; exact Fr.new (by rw [hN20]; exact Or.inr (Nat.le_refl _))
  obtain ⟨w21, hw21⟩ : ∃ w, w = wR x21 92 (ups (zR x21 92) 38 (some 113)) := ⟨_, rfl⟩
  have hN21 : zN w21 = 114 := by rw [hw21, zN_wR, xN21]
  have hk21 : zK w21 92 = (19, 0) := by rw [hw21, zK_wR]; exact xk21
  have g21 : zK w21 113 = (4, 240) := by rw [hw21, zK_wR]; exact xa21
  have gI21 : zL w21 113 = fun _ => 0 := by rw [hw21, zL_wR]; exact xL21
  have hO21 : zI w21 92 = zI w20 92 := by rw [hw21, zI_wR, xO21]
  have r21 : zR w21 92 = ups (zR w20 92) 38 (some 113) := by rw [hw21, zR_wR, if_pos rfl, xR21]
  have hc21 : Fr (fun a => a = 92 ∨ 113 ≤ a) w20 w21 := by rw [hw21]; exact xc21.trans (Fr.wR (Or.inl rfl))
  obtain ⟨x22, hx22⟩ : ∃ x, x = zNew w21 4 60 := ⟨_, rfl⟩
  have xk22 : zK x22 92 = (19, 0) := by rw [hx22, zK_new, hN21, if_neg (by decide)]; exact hk21
  have xa22 : zK x22 114 = (4, 60) := by rw [hx22, zK_new, hN21]; exact if_pos rfl
  have xI22 : zI x22 114 = fun _ => 0 := by rw [hx22, zI_new, hN21]; exact if_pos rfl
  have xL22 : zL x22 114 = fun _ => 0 := by rw [hx22, zL_new, hN21]; exact if_pos rfl
  have xO22 : zI x22 92 = zI w21 92 := by rw [hx22, zI_new, hN21, if_neg (by decide)]
  have xR22 : zR x22 92 = zR w21 92 := by rw [hx22, zR_new, hN21, if_neg (by decide)]
  have xN22 : zN x22 = 115 := by rw [hx22, zN_new, hN21]
  have xc22 : Fr (fun a => a = 92 ∨ 114 ≤ a) w21 x22 := by rw [hx22]; exact Fr.new (by rw [hN21]; exact Or.inr (Nat.le_refl _))
  obtain ⟨w22, hw22⟩ : ∃ w, w = wR x22 92 (ups (zR x22 92) 39 (some 114)) := ⟨_, rfl⟩
  have hN22 : zN w22 = 115 := by rw [hw22, zN_wR, xN22]
  have hk22 : zK w22 92 = (19, 0) := by rw [hw22, zK_wR]; exact xk22
  have g22 : zK w22 114 = (4, 60) := by rw [hw22, zK_wR]; exact xa22
  have gI22 : zL w22 114 = fun _ => 0 := by rw [hw22, zL_wR]; exact xL22
  have hO22 : zI w22 92 = zI w21 92 := by rw [hw22, zI_wR, xO22]
  have r22 : zR w22 92 = ups (zR w21 92) 39 (some 114) := by rw [hw22, zR_wR, if_pos rfl, xR22]
  have hc22 : Fr (fun a => a = 92 ∨ 114 ≤ a) w21 w22 := by rw [hw22]; exact xc22.trans (Fr.wR (Or.inl rfl))
  have D21 : Fr (fun a => a = 92 ∨ 114 ≤ a) w21 w22 := hc22
  have D20 : Fr (fun a => a = 92 ∨ 113 ≤ a) w20 w22 := hc21.trans (D21.mono (fun a h => h.imp id (fun q => by omega)))
  have D19 : Fr (fun a => a = 92 ∨ 112 ≤ a) w19 w22 := hc20.trans (D20.mono (fun a h => h.imp id (fun q => by omega)))
  have D18 : Fr (fun a => a = 92 ∨ 111 ≤ a) w18 w22 := hc19.trans (D19.mono (fun a h => h.imp id (fun q => by omega)))
  have D17 : Fr (fun a => a = 92 ∨ 110 ≤ a) w17 w22 := hc18.trans (D18.mono (fun a h => h.imp id (fun q => by omega)))
  have D16 : Fr (fun a => a = 92 ∨ 109 ≤ a) w16 w22 := hc17.trans (D17.mono (fun a h => h.imp id (fun q => by omega)))
  have D15 : Fr (fun a => a = 92 ∨ 108 ≤ a) w15 w22 := hc16.trans (D16.mono (fun a h => h.imp id (fun q => by omega)))
  have D14 : Fr (fun a => a = 92 ∨ 107 ≤ a) w14 w22 := hc15.trans (D15.mono (fun a h => h.imp id (fun q => by omega)))
  have D13 : Fr (fun a => a = 92 ∨ 106 ≤ a) w13 w22 := hc14.trans (D14.mono (fun a h => h.imp id (fun q => by omega)))
  have D12 : Fr (fun a => a = 92 ∨ 105 ≤ a) w12 w22 := hc13.trans (D13.mono (fun a h => h.imp id (fun q => by omega)))
  have D11 : Fr (fun a => a = 92 ∨ 104 ≤ a) w11 w22 := hc12.trans (D12.mono (fun a h => h.imp id (fun q => by omega)))
  have D10 : Fr (fun a => a = 92 ∨ 103 ≤ a) w10 w22 := hc11.trans (D11.mono (fun a h => h.imp id (fun q => by omega)))
  have D9 : Fr (fun a => a = 92 ∨ 102 ≤ a) w9 w22 := hc10.trans (D10.mono (fun a h => h.imp id (fun q => by omega)))
  have D8 : Fr (fun a => a = 92 ∨ 101 ≤ a) w8 w22 := hc9.trans (D9.mono (fun a h => h.imp id (fun q => by omega)))
  have D7 : Fr (fun a => a = 92 ∨ 100 ≤ a) w7 w22 := hc8.trans (D8.mono (fun a h => h.imp id (fun q => by omega)))
  have D6 : Fr (fun a => a = 92 ∨ 99 ≤ a) u w22 := hc7.trans (D7.mono (fun a h => h.imp id (fun q => by omega)))
  have D5 : Fr (fun a => a = 92 ∨ 98 ≤ a) w5 w22 := hc6.trans (D6.mono (fun a h => h.imp id (fun q => by omega)))
  have D4 : Fr (fun a => a = 92 ∨ 97 ≤ a) w4 w22 := hc5.trans (D5.mono (fun a h => h.imp id (fun q => by omega)))
  have D3 : Fr (fun a => a = 92 ∨ 96 ≤ a) w3 w22 := hc4.trans (D4.mono (fun a h => h.imp id (fun q => by omega)))
  have D2 : Fr (fun a => a = 92 ∨ 95 ≤ a) w2 w22 := hc3.trans (D3.mono (fun a h => h.imp id (fun q => by omega)))
  have D1 : Fr (fun a => a = 92 ∨ 94 ≤ a) w1 w22 := hc2.trans (D2.mono (fun a h => h.imp id (fun q => by omega)))
  have D0 : Fr (fun a => a = 92 ∨ 93 ≤ a) w0 w22 := hc1.trans (D1.mono (fun a h => h.imp id (fun q => by omega)))
  have LM : LayM w22 := by
    refine ⟨fun q hq => ?_, fun q hq => ?_⟩
    · simp only [mKT, List.mem_cons, List.not_mem_nil, or_false] at hq
      rcases hq with rfl | rfl | rfl | rfl | rfl | rfl | rfl | rfl | rfl | rfl | rfl | rfl | rfl | rfl | rfl | rfl | rfl | rfl | rfl | rfl | rfl | rfl | rfl
      · exact hk22
      · show zK w22 93 = _; rw [(D1 93 (by omega)).1]; exact g1
      · show zK w22 94 = _; rw [(D2 94 (by omega)).1]; exact g2
      · show zK w22 95 = _; rw [(D3 95 (by omega)).1]; exact g3
      · show zK w22 96 = _; rw [(D4 96 (by omega)).1]; exact g4
      · show zK w22 97 = _; rw [(D5 97 (by omega)).1]; exact g5
      · show zK w22 98 = _; rw [(D6 98 (by omega)).1]; exact g6
      · show zK w22 99 = _; rw [(D7 99 (by omega)).1]; exact g7
      · show zK w22 100 = _; rw [(D8 100 (by omega)).1]; exact g8
      · show zK w22 101 = _; rw [(D9 101 (by omega)).1]; exact g9
      · show zK w22 102 = _; rw [(D10 102 (by omega)).1]; exact g10
      · show zK w22 103 = _; rw [(D11 103 (by omega)).1]; exact g11
      · show zK w22 104 = _; rw [(D12 104 (by omega)).1]; exact g12
      · show zK w22 105 = _; rw [(D13 105 (by omega)).1]; exact g13
      · show zK w22 106 = _; rw [(D14 106 (by omega)).1]; exact g14
      · show zK w22 107 = _; rw [(D15 107 (by omega)).1]; exact g15
      · show zK w22 108 = _; rw [(D16 108 (by omega)).1]; exact g16
      · show zK w22 109 = _; rw [(D17 109 (by omega)).1]; exact g17
      · show zK w22 110 = _; rw [(D18 110 (by omega)).1]; exact g18
      · show zK w22 111 = _; rw [(D19 111 (by omega)).1]; exact g19
      · show zK w22 112 = _; rw [(D20 112 (by omega)).1]; exact g20
      · show zK w22 113 = _; rw [(D21 113 (by omega)).1]; exact g21
      · exact g22
    · simp only [mRT, List.mem_cons, List.not_mem_nil, or_false] at hq
      rcases hq with rfl | rfl | rfl | rfl | rfl | rfl | rfl | rfl | rfl | rfl | rfl | rfl | rfl | rfl | rfl | rfl | rfl | rfl | rfl | rfl | rfl | rfl
      · show zR w22 92 1 = _; rw [r22, r21, r20, r19, r18, r17, r16, r15, r14, r13, r12, r11, r10, r9, r8, r7, r6, r5, r4, r3, r2, r1]; rfl
      · show zR w22 92 2 = _; rw [r22, r21, r20, r19, r18, r17, r16, r15, r14, r13, r12, r11, r10, r9, r8, r7, r6, r5, r4, r3, r2, r1]; rfl
      · show zR w22 92 3 = _; rw [r22, r21, r20, r19, r18, r17, r16, r15, r14, r13, r12, r11, r10, r9, r8, r7, r6, r5, r4, r3, r2, r1]; rfl
      · show zR w22 92 4 = _; rw [r22, r21, r20, r19, r18, r17, r16, r15, r14, r13, r12, r11, r10, r9, r8, r7, r6, r5, r4, r3, r2, r1]; rfl
      · show zR w22 92 5 = _; rw [r22, r21, r20, r19, r18, r17, r16, r15, r14, r13, r12, r11, r10, r9, r8, r7, r6, r5, r4, r3, r2, r1]; rfl
      · show zR w22 92 7 = _; rw [r22, r21, r20, r19, r18, r17, r16, r15, r14, r13, r12, r11, r10, r9, r8, r7, r6, r5, r4, r3, r2, r1]; rfl
      · show zR w22 92 15 = _; rw [r22, r21, r20, r19, r18, r17, r16, r15, r14, r13, r12, r11, r10, r9, r8, r7, r6, r5, r4, r3, r2, r1]; rfl
      · show zR w22 92 16 = _; rw [r22, r21, r20, r19, r18, r17, r16, r15, r14, r13, r12, r11, r10, r9, r8, r7, r6, r5, r4, r3, r2, r1]; rfl
      · show zR w22 92 17 = _; rw [r22, r21, r20, r19, r18, r17, r16, r15, r14, r13, r12, r11, r10, r9, r8, r7, r6, r5, r4, r3, r2, r1]; rfl
      · show zR w22 92 24 = _; rw [r22, r21, r20, r19, r18, r17, r16, r15, r14, r13, r12, r11, r10, r9, r8, r7, r6, r5, r4, r3, r2, r1]; rfl
      · show zR w22 92 25 = _; rw [r22, r21, r20, r19, r18, r17, r16, r15, r14, r13, r12, r11, r10, r9, r8, r7, r6, r5, r4, r3, r2, r1]; rfl
      · show zR w22 92 26 = _; rw [r22, r21, r20, r19, r18, r17, r16, r15, r14, r13, r12, r11, r10, r9, r8, r7, r6, r5, r4, r3, r2, r1]; rfl
      · show zR w22 92 27 = _; rw [r22, r21, r20, r19, r18, r17, r16, r15, r14, r13, r12, r11, r10, r9, r8, r7, r6, r5, r4, r3, r2, r1]; rfl
      · show zR w22 92 28 = _; rw [r22, r21, r20, r19, r18, r17, r16, r15, r14, r13, r12, r11, r10, r9, r8, r7, r6, r5, r4, r3, r2, r1]; rfl
      · show zR w22 92 29 = _; rw [r22, r21, r20, r19, r18, r17, r16, r15, r14, r13, r12, r11, r10, r9, r8, r7, r6, r5, r4, r3, r2, r1]; rfl
      · show zR w22 92 30 = _; rw [r22, r21, r20, r19, r18, r17, r16, r15, r14, r13, r12, r11, r10, r9, r8, r7, r6, r5, r4, r3, r2, r1]; rfl
      · show zR w22 92 32 = _; rw [r22, r21, r20, r19, r18, r17, r16, r15, r14, r13, r12, r11, r10, r9, r8, r7, r6, r5, r4, r3, r2, r1]; rfl
      · show zR w22 92 33 = _; rw [r22, r21, r20, r19, r18, r17, r16, r15, r14, r13, r12, r11, r10, r9, r8, r7, r6, r5, r4, r3, r2, r1]; rfl
      · show zR w22 92 36 = _; rw [r22, r21, r20, r19, r18, r17, r16, r15, r14, r13, r12, r11, r10, r9, r8, r7, r6, r5, r4, r3, r2, r1]; rfl
      · show zR w22 92 37 = _; rw [r22, r21, r20, r19, r18, r17, r16, r15, r14, r13, r12, r11, r10, r9, r8, r7, r6, r5, r4, r3, r2, r1]; rfl
      · show zR w22 92 38 = _; rw [r22, r21, r20, r19, r18, r17, r16, r15, r14, r13, r12, r11, r10, r9, r8, r7, r6, r5, r4, r3, r2, r1]; rfl
      · show zR w22 92 39 = _; rw [r22, r21, r20, r19, r18, r17, r16, r15, r14, r13, r12, r11, r10, r9, r8, r7, r6, r5, r4, r3, r2, r1]; rfl
  have hm := plain_ok (z := w22) (mk_93 LM)
  obtain ⟨p, hp⟩ : ∃ p, p = wI w22 93 (fun i => if i < 810 then plainW i else zI w22 93 i) := ⟨_, rfl⟩
  rw [← hp] at hm
  have LP : LayM p := LM.of (by rw [hp, zK_wI]) (by rw [hp, zR_wI])
  have hb := begins_ok LP
  have pI : zI p 93 = fun i => if i < 810 then plainW i else 0 := by
    rw [hp, zI_wI, if_pos rfl]; funext i; rw [(D1 93 (by omega)).2.1, gI1]
  obtain ⟨y, hy⟩ : ∃ y, y = wI p 93 (beginW (zI p 93)) := ⟨_, rfl⟩
  rw [← hy] at hb
  have I0 : zI w22 92 = ups (fun _ => 0) 14 (-1) := by rw [hO22, hO21, hO20, hO19, hO18, hO17, hO16, hO15, hO14, hO13, hO12, hO11, hO10, hO9, hO8, hO7, uI, hO6, hO5, hO4, hO3, hO2, hO1, hI0]
  have J : ∀ a, a ≠ 93 → zI y a = zI w22 a := fun a ha => by rw [hy, zI_wI, if_neg ha, hp, zI_wI, if_neg ha]
  refine ⟨y, ?h1, ?h2, ?h3, ?h4, ?h5⟩
  case h1 =>
    rw [nwC_eq, ← hw0, hn]
    show bnd (m_X12_init 92 w0) _ = _
    rw [m_X12_init]
    rw [nwC_eq, ← hx1, hN0]
    rw [pR_eq (by rw [xk1]), ← hw1]
    rw [nwC_eq, ← hx2, hN1]
    rw [pR_eq (by rw [xk2]), ← hw2]
    rw [nwC_eq, ← hx3, hN2]
    rw [pR_eq (by rw [xk3]), ← hw3]
    rw [nwC_eq, ← hx4, hN3]
    rw [pR_eq (by rw [xk4]), ← hw4]
    rw [nwC_eq, ← hx5, hN4]
    rw [pR_eq (by rw [xk5]), ← hw5]
    rw [nwC_eq, ← hx6, hN5]
    rw [pR_eq (by rw [xk6]), ← hw6]
    rw [pI_eq (by rw [hkw]), ← hu]
    rw [nwC_eq, ← hx7, hN6]
    rw [pR_eq (by rw [xk7]), ← hw7]
    rw [nwC_eq, ← hx8, hN7]
    rw [pR_eq (by rw [xk8]), ← hw8]
    rw [nwC_eq, ← hx9, hN8]
    rw [pR_eq (by rw [xk9]), ← hw9]
    rw [nwC_eq, ← hx10, hN9]
    rw [pR_eq (by rw [xk10]), ← hw10]
    rw [nwC_eq, ← hx11, hN10]
    rw [pR_eq (by rw [xk11]), ← hw11]
    rw [nwC_eq, ← hx12, hN11]
    rw [pR_eq (by rw [xk12]), ← hw12]
    rw [nwC_eq, ← hx13, hN12]
    rw [pR_eq (by rw [xk13]), ← hw13]
    rw [nwC_eq, ← hx14, hN13]
    rw [pR_eq (by rw [xk14]), ← hw14]
    rw [nwC_eq, ← hx15, hN14]
    rw [pR_eq (by rw [xk15]), ← hw15]
    rw [nwC_eq, ← hx16, hN15]
    rw [pR_eq (by rw [xk16]), ← hw16]
    rw [nwC_eq, ← hx17, hN16]
    rw [pR_eq (by rw [xk17]), ← hw17]
    rw [nwC_eq, ← hx18, hN17]
    rw [pR_eq (by rw [xk18]), ← hw18]
    rw [nwC_eq, ← hx19, hN18]
    rw [many4 xa19 xI19, ← ht]
    rw [pR_eq (by rw [tk, xk19]), ← hw19]
    rw [nwC_eq, ← hx20, hN19]
    rw [pR_eq (by rw [xk20]), ← hw20]
    rw [nwC_eq, ← hx21, hN20]
    rw [pR_eq (by rw [xk21]), ← hw21]
    rw [nwC_eq, ← hx22, hN21]
    rw [pR_eq (by rw [xk22]), ← hw22]
    rw [gR_eq (b := 93) (by rw [hk22]) (mr_92_1 LM), hm, bnd_some, isC_eq (by rw [mk_92 LP]), hb, bnd_some, bnd_some]
  case h2 => rw [hy, zN_wI, hp, zN_wI]; exact hN22
  case h3 => exact LP.of (by rw [hy, zK_wI]) (by rw [hy, zR_wI])
  case h4 =>
    refine (hc0.trans (D0.mono (fun a h => by omega))).trans ?_
    rw [hy, hp]
    exact (Fr.wI (by decide)).trans (Fr.wI (by decide))
  case h5 =>
    refine ⟨?_, ?_, ?_, ?_, ?_, ?_⟩
    · rw [hy, zI_wI, if_pos rfl, pI]
    · rw [J 92 (by decide)]; exact I0
    · rw [J 96 (by decide), (D4 96 (by omega)).2.1]; exact gI4
    · rw [J 111 (by decide), (D19 111 (by omega)).2.1]; exact gI19
    · rw [J 112 (by decide), (D20 112 (by omega)).2.1]; exact gI20
    · rw [hy, zL_wI, hp, zL_wI, (D21 113 (by omega)).2.2.1]; exact gI21
