/-! ===== what the constructors lay ===== -/
theorem zN_new (z : Hp) (k n : Nat) : zN (zNew z k n) = zN z + 1 := rfl
theorem zK_new (z : Hp) (k n a : Nat) : zK (zNew z k n) a = if a = zN z then (k, n) else zK z a := rfl
theorem zI_new (z : Hp) (k n a : Nat) : zI (zNew z k n) a = if a = zN z then (fun _ => 0) else zI z a := rfl
theorem zL_new (z : Hp) (k n a : Nat) : zL (zNew z k n) a = if a = zN z then (fun _ => 0) else zL z a := rfl
theorem zR_new (z : Hp) (k n a : Nat) : zR (zNew z k n) a = if a = zN z then (fun _ => none) else zR z a := rfl
theorem Fr.rfl' {P : Nat → Prop} {z : Hp} : Fr P z z := fun _ _ => ⟨rfl, rfl, rfl, rfl⟩
theorem Fr.trans {P : Nat → Prop} {x y z : Hp} (h1 : Fr P x y) (h2 : Fr P y z) : Fr P x z := fun a ha => ⟨(h2 a ha).1.trans (h1 a ha).1, (h2 a ha).2.1.trans (h1 a ha).2.1, (h2 a ha).2.2.1.trans (h1 a ha).2.2.1, (h2 a ha).2.2.2.trans (h1 a ha).2.2.2⟩
theorem Fr.mono {P Q : Nat → Prop} {x y : Hp} (h : Fr P x y) (hs : ∀ a, P a → Q a) : Fr Q x y := fun a ha => h a (fun q => ha (hs a q))
theorem Fr.new {P : Nat → Prop} {z : Hp} {k n : Nat} (h : P (zN z)) : Fr P z (zNew z k n) := fun a ha => by
  have : a ≠ zN z := fun e => ha (by rw [e]; exact h)
  simp [zK_new, zI_new, zL_new, zR_new, this]
theorem Fr.wI {P : Nat → Prop} {z : Hp} {b : Nat} {f : Nat → Int32} (h : P b) : Fr P z (wI z b f) := fun a ha => by
  have : a ≠ b := fun e => ha (by rw [e]; exact h)
  simp [zK_wI, zI_wI, zL_wI, zR_wI, this]
theorem Fr.wR {P : Nat → Prop} {z : Hp} {b : Nat} {f : Nat → Option Nat} (h : P b) : Fr P z (wR z b f) := fun a ha => by
  have : a ≠ b := fun e => ha (by rw [e]; exact h)
  simp [zK_wR, zI_wR, zL_wR, zR_wR, this]
theorem Fr.fi {P : Nat → Prop} {z y : Hp} (h : Fi P z y) : Fr P z y := fun a ha => ⟨by rw [h.2.1], h.2.2.2.2 a ha, by rw [h.2.2.1], by rw [h.2.2.2.1]⟩
theorem init_X7 {z : Hp} {n : Nat} (hn : zN z = n + 1) (hk : zK z n = (14, 0)) : ∃ y, m_X7_init n z = some ((), y) ∧ zN y = n + 7 ∧ Fr (fun a => n ≤ a ∧ a < n + 7) z y ∧ zK y n = (14, 0) ∧ zK y (n + 1) = (1, 4) ∧ zK y (n + 2) = (1, 4) ∧ zK y (n + 3) = (1, 4) ∧ zK y (n + 4) = (1, 4) ∧ zK y (n + 5) = (1, 144) ∧ zK y (n + 6) = (1, 12) ∧ zR y n 0 = some (n + 1) ∧ zR y n 1 = some (n + 2) ∧ zR y n 2 = some (n + 3) ∧ zR y n 3 = some (n + 4) ∧ zR y n 4 = some (n + 5) ∧ zR y n 5 = some (n + 6) := by
  refine ⟨?y, ?h1, ?h2, ?h3, ?h4⟩
  case h1 =>
    simp [m_X7_init, nwC, pR, pI, zN_new, zN_wR, zN_wI, zK_new, zK_wR, zK_wI, hn, hk, Nat.add_assoc]
    exact rfl
  case h2 => simp [zN_new, zN_wR, zN_wI, hn, Nat.add_assoc]
  case h3 => repeat (first | exact Fr.rfl' | refine Fr.trans ?_ (Fr.wI (by omega)) | refine Fr.trans ?_ (Fr.wR (by omega)) | refine Fr.trans ?_ (Fr.new (by simp only [zN_new, zN_wR, zN_wI, hn]; omega)))
  case h4 => simp [zK_new, zK_wR, zK_wI, zR_new, zR_wR, zR_wI, zN_new, zN_wR, zN_wI, hn, hk, ups_eq, Nat.add_assoc]
theorem init_X3 {z : Hp} {n : Nat} (hn : zN z = n + 1) (hk : zK z n = (10, 0)) : ∃ y, m_X3_init n z = some ((), y) ∧ zN y = n + 7 ∧ Fr (fun a => n ≤ a ∧ a < n + 7) z y ∧ zK y n = (10, 0) ∧ zK y (n + 1) = (1, 18) ∧ zK y (n + 2) = (1, 18) ∧ zK y (n + 3) = (1, 18) ∧ zK y (n + 4) = (1, 18) ∧ zK y (n + 5) = (1, 18) ∧ zK y (n + 6) = (1, 18) ∧ zR y n 0 = some (n + 1) ∧ zR y n 1 = some (n + 2) ∧ zR y n 2 = some (n + 3) ∧ zR y n 3 = some (n + 4) ∧ zR y n 4 = some (n + 5) ∧ zR y n 5 = some (n + 6) := by
  refine ⟨?y, ?h1, ?h2, ?h3, ?h4⟩
  case h1 =>
    simp [m_X3_init, nwC, pR, pI, zN_new, zN_wR, zN_wI, zK_new, zK_wR, zK_wI, hn, hk, Nat.add_assoc]
    exact rfl
  case h2 => simp [zN_new, zN_wR, zN_wI, hn, Nat.add_assoc]
  case h3 => repeat (first | exact Fr.rfl' | refine Fr.trans ?_ (Fr.wI (by omega)) | refine Fr.trans ?_ (Fr.wR (by omega)) | refine Fr.trans ?_ (Fr.new (by simp only [zN_new, zN_wR, zN_wI, hn]; omega)))
  case h4 => simp [zK_new, zK_wR, zK_wI, zR_new, zR_wR, zR_wI, zN_new, zN_wR, zN_wI, hn, hk, ups_eq, Nat.add_assoc]
theorem init_X1 {z : Hp} {n : Nat} (hn : zN z = n + 1) (hk : zK z n = (8, 0)) : ∃ y, m_X1_init n z = some ((), y) ∧ zN y = n + 4 ∧ Fr (fun a => n ≤ a ∧ a < n + 4) z y ∧ zK y n = (8, 0) ∧ zK y (n + 1) = (1, 6) ∧ zK y (n + 2) = (1, 6) ∧ zK y (n + 3) = (1, 6) ∧ zR y n 0 = some (n + 1) ∧ zR y n 1 = some (n + 2) ∧ zR y n 2 = some (n + 3) := by
  refine ⟨?y, ?h1, ?h2, ?h3, ?h4⟩
  case h1 =>
    simp [m_X1_init, nwC, pR, pI, zN_new, zN_wR, zN_wI, zK_new, zK_wR, zK_wI, hn, hk, Nat.add_assoc]
    exact rfl
  case h2 => simp [zN_new, zN_wR, zN_wI, hn, Nat.add_assoc]
  case h3 => repeat (first | exact Fr.rfl' | refine Fr.trans ?_ (Fr.wI (by omega)) | refine Fr.trans ?_ (Fr.wR (by omega)) | refine Fr.trans ?_ (Fr.new (by simp only [zN_new, zN_wR, zN_wI, hn]; omega)))
  case h4 => simp [zK_new, zK_wR, zK_wI, zR_new, zR_wR, zR_wI, zN_new, zN_wR, zN_wI, hn, hk, ups_eq, Nat.add_assoc]
theorem init_X5 {z : Hp} {n : Nat} (hn : zN z = n + 1) (hk : zK z n = (12, 0)) : ∃ y, m_X5_init n z = some ((), y) ∧ zN y = n + 5 ∧ Fr (fun a => n ≤ a ∧ a < n + 5) z y ∧ zK y n = (12, 0) ∧ zK y (n + 1) = (1, 4) ∧ zK y (n + 2) = (1, 12) ∧ zK y (n + 3) = (1, 12) ∧ zK y (n + 4) = (1, 12) ∧ zR y n 0 = some (n + 1) ∧ zR y n 1 = some (n + 2) ∧ zR y n 2 = some (n + 3) ∧ zR y n 3 = some (n + 4) := by
  refine ⟨?y, ?h1, ?h2, ?h3, ?h4⟩
  case h1 =>
    simp [m_X5_init, nwC, pR, pI, zN_new, zN_wR, zN_wI, zK_new, zK_wR, zK_wI, hn, hk, Nat.add_assoc]
    exact rfl
  case h2 => simp [zN_new, zN_wR, zN_wI, hn, Nat.add_assoc]
  case h3 => repeat (first | exact Fr.rfl' | refine Fr.trans ?_ (Fr.wI (by omega)) | refine Fr.trans ?_ (Fr.wR (by omega)) | refine Fr.trans ?_ (Fr.new (by simp only [zN_new, zN_wR, zN_wI, hn]; omega)))
  case h4 => simp [zK_new, zK_wR, zK_wI, zR_new, zR_wR, zR_wI, zN_new, zN_wR, zN_wI, hn, hk, ups_eq, Nat.add_assoc]
theorem init_X0 {z : Hp} {n : Nat} (hn : zN z = n + 1) (hk : zK z n = (7, 0)) : ∃ y, m_X0_init n z = some ((), y) ∧ zN y = n + 3 ∧ Fr (fun a => n ≤ a ∧ a < n + 3) z y ∧ zK y n = (7, 0) ∧ zK y (n + 1) = (1, 10) ∧ zK y (n + 2) = (1, 10) ∧ zR y n 0 = some (n + 1) ∧ zR y n 1 = some (n + 2) := by
  refine ⟨?y, ?h1, ?h2, ?h3, ?h4⟩
  case h1 =>
    simp [m_X0_init, nwC, pR, pI, zN_new, zN_wR, zN_wI, zK_new, zK_wR, zK_wI, hn, hk, Nat.add_assoc]
    exact rfl
  case h2 => simp [zN_new, zN_wR, zN_wI, hn, Nat.add_assoc]
  case h3 => repeat (first | exact Fr.rfl' | refine Fr.trans ?_ (Fr.wI (by omega)) | refine Fr.trans ?_ (Fr.wR (by omega)) | refine Fr.trans ?_ (Fr.new (by simp only [zN_new, zN_wR, zN_wI, hn]; omega)))
  case h4 => simp [zK_new, zK_wR, zK_wI, zR_new, zR_wR, zR_wI, zN_new, zN_wR, zN_wI, hn, hk, ups_eq, Nat.add_assoc]
theorem init_X9 {z : Hp} {n : Nat} (hn : zN z = n + 1) (hk : zK z n = (16, 0)) : ∃ y, m_X9_init n z = some ((), y) ∧ zN y = n + 4 ∧ Fr (fun a => n ≤ a ∧ a < n + 4) z y ∧ zK y n = (16, 0) ∧ zK y (n + 1) = (1, 144) ∧ zK y (n + 2) = (1, 144) ∧ zK y (n + 3) = (1, 18) ∧ zR y n 0 = some (n + 1) ∧ zR y n 1 = some (n + 2) ∧ zR y n 2 = some (n + 3) := by
  refine ⟨?y, ?h1, ?h2, ?h3, ?h4⟩
  case h1 =>
    simp [m_X9_init, nwC, pR, pI, zN_new, zN_wR, zN_wI, zK_new, zK_wR, zK_wI, hn, hk, Nat.add_assoc]
    exact rfl
  case h2 => simp [zN_new, zN_wR, zN_wI, hn, Nat.add_assoc]
  case h3 => repeat (first | exact Fr.rfl' | refine Fr.trans ?_ (Fr.wI (by omega)) | refine Fr.trans ?_ (Fr.wR (by omega)) | refine Fr.trans ?_ (Fr.new (by simp only [zN_new, zN_wR, zN_wI, hn]; omega)))
  case h4 => simp [zK_new, zK_wR, zK_wI, zR_new, zR_wR, zR_wI, zN_new, zN_wR, zN_wI, hn, hk, ups_eq, Nat.add_assoc]
