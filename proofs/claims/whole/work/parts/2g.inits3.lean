/-! ===== the other constructors ===== -/
theorem init_X4 {z : Hp} {n : Nat} (hn : zN z = n + 1) (hk : zK z n = (11, 0)) : ∃ y, m_X4_init n z = some ((), y) ∧ zN y = n + 2 ∧ Fr (fun a => n ≤ a ∧ a < n + 2) z y ∧ zK y n = (11, 0) ∧ zK y (n + 1) = (1, 700) ∧ zR y n 0 = some (n + 1) ∧ zI y n 1 = 0 := by
  refine ⟨?y, ?h1, ?h2, ?h3, ?h4⟩
  case h1 =>
    simp [m_X4_init, nwC, pR, pI, zN_new, zN_wR, zN_wI, zK_new, zK_wR, zK_wI, hn, hk, Nat.add_assoc]
    exact rfl
  case h2 => simp [zN_new, zN_wR, zN_wI, hn, Nat.add_assoc]
  case h3 => repeat (first | exact Fr.rfl' | refine Fr.trans ?_ (Fr.wI (by omega)) | refine Fr.trans ?_ (Fr.wR (by omega)) | refine Fr.trans ?_ (Fr.new (by simp only [zN_new, zN_wR, zN_wI, hn]; omega)))
  case h4 => simp [zK_new, zK_wR, zK_wI, zR_new, zR_wR, zR_wI, zI_new, zI_wR, zI_wI, zN_new, zN_wR, zN_wI, hn, hk, ups_eq, Nat.add_assoc]
theorem init_X2 {z : Hp} {n : Nat} (r1 r2 : Nat) (hn : zN z = n + 1) (hk : zK z n = (9, 0)) : ∃ y, m_X2_init n r1 r2 z = some ((), y) ∧ zN y = n + 2 ∧ Fr (fun a => n ≤ a ∧ a < n + 2) z y ∧ zK y n = (9, 0) ∧ zK y (n + 1) = (1, 4) ∧ zR y n 0 = some r1 ∧ zR y n 1 = some (n + 1) ∧ zR y n 2 = some r2 := by
  refine ⟨?y, ?h1, ?h2, ?h3, ?h4⟩
  case h1 =>
    simp [m_X2_init, nwC, pR, pI, zN_new, zN_wR, zN_wI, zK_new, zK_wR, zK_wI, hn, hk, Nat.add_assoc]
    exact rfl
  case h2 => simp [zN_new, zN_wR, zN_wI, hn, Nat.add_assoc]
  case h3 => repeat (first | exact Fr.rfl' | refine Fr.trans ?_ (Fr.wI (by omega)) | refine Fr.trans ?_ (Fr.wR (by omega)) | refine Fr.trans ?_ (Fr.new (by simp only [zN_new, zN_wR, zN_wI, hn]; omega)))
  case h4 => simp [zK_new, zK_wR, zK_wI, zR_new, zR_wR, zR_wI, zI_new, zI_wR, zI_wI, zN_new, zN_wR, zN_wI, hn, hk, ups_eq, Nat.add_assoc]
theorem init_X10 {z : Hp} {n : Nat} (hn : zN z = n + 1) (hk : zK z n = (17, 0)) : ∃ y, m_X10_init n z = some ((), y) ∧ zN y = n + 9 ∧ Fr (fun a => n ≤ a ∧ a < n + 9) z y ∧ zK y n = (17, 0) ∧ zK y (n + 1) = (1, 144) ∧ zK y (n + 2) = (1, 144) ∧ zK y (n + 3) = (1, 144) ∧ zK y (n + 4) = (1, 288) ∧ zK y (n + 5) = (1, 288) ∧ zK y (n + 6) = (1, 288) ∧ zK y (n + 7) = (1, 144) ∧ zK y (n + 8) = (1, 576) ∧ zR y n 0 = some (n + 1) ∧ zR y n 1 = some (n + 2) ∧ zR y n 2 = some (n + 3) ∧ zR y n 3 = some (n + 4) ∧ zR y n 4 = some (n + 5) ∧ zR y n 7 = some (n + 6) ∧ zR y n 8 = some (n + 7) ∧ zR y n 9 = some (n + 8) := by
  refine ⟨?y, ?h1, ?h2, ?h3, ?h4⟩
  case h1 =>
    simp [m_X10_init, nwC, pR, pI, zN_new, zN_wR, zN_wI, zK_new, zK_wR, zK_wI, hn, hk, Nat.add_assoc]
    exact rfl
  case h2 => simp [zN_new, zN_wR, zN_wI, hn, Nat.add_assoc]
  case h3 => repeat (first | exact Fr.rfl' | refine Fr.trans ?_ (Fr.wI (by omega)) | refine Fr.trans ?_ (Fr.wR (by omega)) | refine Fr.trans ?_ (Fr.new (by simp only [zN_new, zN_wR, zN_wI, hn]; omega)))
  case h4 => simp [zK_new, zK_wR, zK_wI, zR_new, zR_wR, zR_wI, zI_new, zI_wR, zI_wI, zN_new, zN_wR, zN_wI, hn, hk, ups_eq, Nat.add_assoc]
theorem zN_new2 (z : Hp) (n k : Nat) : zN (zNew2 z n k) = zN z + 1 + n := zRows_n _ _ _
theorem zK_new2 (z : Hp) (n k a : Nat) : zK (zNew2 z n k) a = if a = zN z then (6, n) else if zN z + 1 ≤ a ∧ a < zN z + 1 + n then (4, k) else zK z a := by
  show zK (zRows n (zNew z 6 n) k) a = _
  have h1 : zN (zNew z 6 n) = zN z + 1 := rfl
  by_cases c : zN z + 1 ≤ a ∧ a < zN z + 1 + n
  · rw [(zRows_in (zNew z 6 n) k n a (by omega) (by omega)).1, if_neg (by omega), if_pos c]
  · rw [(zRows_out (zNew z 6 n) k n a (by omega)).1, if_neg c, zK_new]
theorem zR_new2 (z : Hp) (n k a : Nat) (h : a ≤ zN z ∨ zN z + 1 + n ≤ a) : zR (zNew2 z n k) a = if a = zN z then (fun i => if i < n then some (zN z + 1 + i) else none) else zR z a := by
  unfold zNew2
  rw [zR_wR]
  by_cases c : a = zN z
  · rw [if_pos c, if_pos c]
  · have h1 : zN (zNew z 6 n) = zN z + 1 := rfl
    rw [if_neg c, if_neg c, (zRows_out (zNew z 6 n) k n a (by omega)).2.2.2, zR_new, if_neg c]
theorem zL_new2 (z : Hp) (n k a : Nat) (h : zN z + 1 ≤ a ∧ a < zN z + 1 + n) : zL (zNew2 z n k) a = fun _ => 0 := by
  show zL (zRows n (zNew z 6 n) k) a = _
  have h1 : zN (zNew z 6 n) = zN z + 1 := rfl
  exact (zRows_in (zNew z 6 n) k n a (by omega) (by omega)).2
theorem Fr.new2 {P : Nat → Prop} {z : Hp} {n k : Nat} (h : ∀ a, zN z ≤ a → a < zN z + 1 + n → P a) : Fr P z (zNew2 z n k) := fun a ha => by
  have h1 : zN (zNew z 6 n) = zN z + 1 := rfl
  have c : a < zN z ∨ zN z + 1 + n ≤ a := by
    by_cases c1 : a < zN z
    · exact Or.inl c1
    · by_cases c2 : zN z + 1 + n ≤ a
      · exact Or.inr c2
      · exact absurd (h a (by omega) (by omega)) ha
  have ne : a ≠ zN z := by omega
  obtain ⟨g1, g2, g3, g4⟩ := zRows_out (zNew z 6 n) k n a (by omega)
  refine ⟨?_, ?_, ?_, ?_⟩
  · show zK (zRows n (zNew z 6 n) k) a = _
    rw [g1, zK_new, if_neg ne]
  · show zI (zRows n (zNew z 6 n) k) a = _
    rw [g2, zI_new, if_neg ne]
  · show zL (zRows n (zNew z 6 n) k) a = _
    rw [g3, zL_new, if_neg ne]
  · unfold zNew2
    rw [zR_wR, if_neg ne, g4, zR_new, if_neg ne]
theorem init_X6 {z : Hp} {n : Nat} (hn : zN z = n + 1) (hk : zK z n = (13, 0)) : ∃ y, m_X6_init n z = some ((), y) ∧ zN y = n + 8 ∧ Fr (fun a => n ≤ a ∧ a < n + 8) z y ∧ zK y n = (13, 0) ∧ zK y (n + 1) = (6, 4) ∧ zK y (n + 2) = (4, 60) ∧ zK y (n + 3) = (4, 60) ∧ zK y (n + 4) = (4, 60) ∧ zK y (n + 5) = (4, 60) ∧ zK y (n + 6) = (1, 4) ∧ zK y (n + 7) = (1, 4) ∧
    zR y n 0 = some (n + 1) ∧ zR y n 1 = some (n + 6) ∧ zR y n 2 = some (n + 7) ∧ (∀ i, i < 4 → zR y (n + 1) i = some (n + 2 + i)) ∧ (∀ i, i < 4 → zI y (n + 7) i = -1) ∧ ∀ i, i < 4 → zL y (n + 2 + i) = fun _ => 0 := by
  obtain ⟨w1, hw1⟩ : ∃ w, w = zNew2 z 4 60 := ⟨_, rfl⟩
  have n1 : zN w1 = n + 6 := by rw [hw1, zN_new2, hn]
  have k1 : ∀ a, zK w1 a = if a = n + 1 then (6, 4) else if n + 2 ≤ a ∧ a < n + 6 then (4, 60) else zK z a := fun a => by rw [hw1, zK_new2, hn]
  have r1 : ∀ a, (a ≤ n + 1 ∨ n + 6 ≤ a) → zR w1 a = if a = n + 1 then (fun i => if i < 4 then some (n + 2 + i) else none) else zR z a := fun a ha => by rw [hw1, zR_new2 _ _ _ _ (by omega), hn]
  have l1 : ∀ i, i < 4 → zL w1 (n + 2 + i) = fun _ => 0 := fun i hi => by rw [hw1, zL_new2 _ _ _ _ (by omega)]
  have f1 : Fr (fun a => n ≤ a ∧ a < n + 8) z w1 := by rw [hw1]; exact Fr.new2 (fun a h1 h2 => by omega)
  obtain ⟨w2, hw2⟩ : ∃ w, w = wR (zNew (wR (zNew (wR w1 n (ups (zR w1 n) 0 (some (n + 1)))) 1 4) n (ups (zR (zNew (wR w1 n (ups (zR w1 n) 0 (some (n + 1)))) 1 4) n) 1 (some (n + 6)))) 1 4) n (ups (zR (zNew (wR (zNew (wR w1 n (ups (zR w1 n) 0 (some (n + 1)))) 1 4) n (ups (zR (zNew (wR w1 n (ups (zR w1 n) 0 (some (n + 1)))) 1 4) n) 1 (some (n + 6)))) 1 4) n) 2 (some (n + 7))) := ⟨_, rfl⟩
  have kn : zK w1 n = (13, 0) := by rw [k1, if_neg (by omega), if_neg (by omega)]; exact hk
  have n2 : zN w2 = n + 8 := by rw [hw2]; simp [zN_new, zN_wR, n1, Nat.add_assoc]
  have k2 : ∀ a, zK w2 a = if a = n + 7 then (1, 4) else if a = n + 6 then (1, 4) else zK w1 a := fun a => by rw [hw2]; simp [zK_new, zK_wR, zN_new, zN_wR, n1, Nat.add_assoc]
  have r2 : ∀ a, a < n + 6 → zR w2 a = if a = n then ups (ups (ups (zR w1 n) 0 (some (n + 1))) 1 (some (n + 6))) 2 (some (n + 7)) else zR w1 a := fun a ha => by
    rw [hw2]
    have e1 : a ≠ n + 7 := by omega
    have e2 : a ≠ n + 6 := by omega
    by_cases c : a = n
    · subst c; simp [zR_new, zR_wR, zN_new, zN_wR, n1, Nat.add_assoc]
    · simp [zR_new, zR_wR, zN_new, zN_wR, n1, c, e1, e2, Nat.add_assoc]
  have l2 : ∀ a, a < n + 6 → zL w2 a = zL w1 a := fun a ha => by
    rw [hw2]
    have e1 : a ≠ n + 7 := by omega
    have e2 : a ≠ n + 6 := by omega
    simp [zL_new, zL_wR, zN_new, zN_wR, n1, e1, e2, Nat.add_assoc]
  have f2 : Fr (fun a => n ≤ a ∧ a < n + 8) w1 w2 := by
    rw [hw2]
    repeat (first | exact Fr.rfl' | refine Fr.trans ?_ (Fr.wR (by omega)) | refine Fr.trans ?_ (Fr.new (by simp only [zN_new, zN_wR, n1]; omega)))
  have e7 : zK w2 (n + 7) = (1, 4) := by rw [k2, if_pos rfl]
  refine ⟨?y, ?h1, ?h2, ?h3, ?h4⟩
  case h1 =>
    have a1 : (zK w1 n).1 = 6 + 7 := by rw [kn]
    have hf := fill_ok (-1) e7 (by decide)
    simp only [m_X6_init, nw2, ← hw1, hn]
    rw [pR_eq a1]
    simp only [nwC_eq, zN_wR, n1]
    rw [pR_eq (by rw [zK_new, zK_wR, zN_wR, n1, if_neg (by omega), kn])]
    simp only [zN_wR, zN_new, n1]
    rw [pR_eq (by simp [zK_new, zK_wR, zN_new, zN_wR, n1, kn, Nat.add_assoc])]
    rw [← hw2, gR_eq (b := n + 7) (by rw [k2, if_neg (by omega), if_neg (by omega), kn]) (by rw [r2 n (by omega), if_pos rfl]; rfl), hf]
    exact rfl
  case h2 => exact n2
  case h3 => exact (f1.trans f2).trans (Fr.wI (by omega))
  case h4 =>
    simp only [zK_wI, zR_wI, zL_wI]
    refine ⟨?_, ?_, ?_, ?_, ?_, ?_, ?_, ?_, ?_, ?_, ?_, ?_, ?_, ?_⟩
    · rw [k2, if_neg (by omega), if_neg (by omega), kn]
    · rw [k2, if_neg (by omega), if_neg (by omega), k1, if_pos rfl]
    · rw [k2, if_neg (by omega), if_neg (by omega), k1, if_neg (by omega), if_pos (by omega)]
    · rw [k2, if_neg (by omega), if_neg (by omega), k1, if_neg (by omega), if_pos (by omega)]
    · rw [k2, if_neg (by omega), if_neg (by omega), k1, if_neg (by omega), if_pos (by omega)]
    · rw [k2, if_neg (by omega), if_neg (by omega), k1, if_neg (by omega), if_pos (by omega)]
    · rw [k2, if_neg (by omega), if_pos rfl]
    · exact e7
    · rw [r2 n (by omega), if_pos rfl]; rfl
    · rw [r2 n (by omega), if_pos rfl]; rfl
    · rw [r2 n (by omega), if_pos rfl]; rfl
    · intro i hi
      rw [r2 _ (by omega), if_neg (by omega), r1 _ (by omega), if_pos rfl]
      exact if_pos hi
    · intro i hi
      rw [zI_wI, if_pos rfl]
      exact if_pos hi
    · intro i hi
      rw [l2 _ (by omega), l1 i hi]
