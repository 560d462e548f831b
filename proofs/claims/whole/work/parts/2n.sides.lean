/-! ===== the cells beside a cell ===== -/
def oN : Option Nat → Int32
  | none => -1
  | some n => nI n
/-- the model's ways: right, left, below, above -/
def bsM (c w : Nat) : Option Nat :=
  if w = 0 then (if c % 12 < 11 then some (c + 1) else none) else if w = 1 then (if 0 < c % 12 then some (c - 1) else none)
  else if w = 2 then (if c < 132 then some (c + 12) else none) else (if 12 ≤ c then some (c - 12) else none)
/-- the class's sides: right, left, above, below -/
def bsC (c w : Nat) : Option Nat :=
  if w = 0 then (if c % 12 < 11 then some (c + 1) else none) else if w = 1 then (if 0 < c % 12 then some (c - 1) else none)
  else if w = 2 then (if 12 ≤ c then some (c - 12) else none) else (if c < 132 then some (c + 12) else none)
theorem isPlace_ok (x y : Int32) (z : Hp) : m_X12_isPlace x y z = some (if (0 ≤ x ∧ x ≤ 11) ∧ 0 ≤ y ∧ y ≤ 11 then 1 else 0, z) := by
  unfold m_X12_isPlace
  rw [in_lit x 0 11 (by decide) (by decide), bnd_some]
  by_cases h : 0 ≤ x ∧ x ≤ 11
  · simp only [if_pos h, show ((1 : Int32) = 0) = False by simp, if_false]
    rw [in_lit y 0 11 (by decide) (by decide), bnd_some]
    by_cases g : 0 ≤ y ∧ y ≤ 11
    · simp only [if_pos g, show ((1 : Int32) = 0) = False by simp, if_false, if_pos (show (0 ≤ x ∧ x ≤ 11) ∧ 0 ≤ y ∧ y ≤ 11 from ⟨h, g⟩)]
    · simp only [if_neg g, if_true, if_neg (show ¬ ((0 ≤ x ∧ x ≤ 11) ∧ 0 ≤ y ∧ y ≤ 11) from fun q => g q.2)]
  · simp only [if_neg h, if_true, if_neg (show ¬ ((0 ≤ x ∧ x ≤ 11) ∧ 0 ≤ y ∧ y ≤ 11) from fun q => h q.1)]
theorem pl_n {x y : Nat} (hx : x < 2 ^ 31) (hy : y < 2 ^ 31) : ((0 ≤ nI x ∧ nI x ≤ 11) ∧ 0 ≤ nI y ∧ nI y ≤ 11) ↔ (x ≤ 11 ∧ y ≤ 11) := by
  rw [show (11 : Int32) = nI 11 from rfl, nI_leI hx (by decide), nI_leI hy (by decide)]
  exact ⟨fun q => ⟨q.1.2, q.2.2⟩, fun q => ⟨⟨nI_pos' hx, q.1⟩, nI_pos' hy, q.2⟩⟩
theorem besideM_ok {c w : Nat} (hc : c < 144) (hw : w < 4) (z : Hp) : m_X12_beside (nI c) (nI w) z = some (oN (bsM c w), z) := by
  have e0 : (0 : Int32) = nI 0 := rfl
  have e1 : (1 : Int32) = nI 1 := rfl
  have hm : c % 12 < 12 := Nat.mod_lt _ (by decide)
  have hd : c / 12 < 12 := by omega
  have key : ∀ x y : Nat, x < 2 ^ 31 → y < 2 ^ 31 → (match some (if (0 ≤ nI x ∧ nI x ≤ 11) ∧ 0 ≤ nI y ∧ nI y ≤ 11 then (1 : Int32) else 0, z) with | some (x2, z1) => if x2 = 0 then some ((-1 : Int32), z1) else some (nI (12 * y + x), z1) | none => none) = some (if x ≤ 11 ∧ y ≤ 11 then nI (12 * y + x) else -1, z) := by
    intro x y hx hy
    by_cases g : x ≤ 11 ∧ y ≤ 11
    · simp only [if_pos ((pl_n hx hy).mpr g), if_pos g, show ((1 : Int32) = 0) = False by simp, if_false]
    · simp only [if_neg (fun q => g ((pl_n hx hy).mp q)), if_neg g, if_true]
  have k2 : ∀ x y : Nat, x < 2 ^ 31 → y < 2 ^ 31 → ∀ t0 t1 : Int32, t1 + t0 = nI y → m_X12_beside_B47 (nI x) t0 t1 z = some (if x ≤ 11 ∧ y ≤ 11 then nI (12 * y + x) else -1, z) := by
    intro x y hx hy t0 t1 e
    unfold m_X12_beside_B47
    rw [e, isPlace_ok, bnd_some, c_mul, nI_add]
    exact key x y hx hy
  have k3 : ∀ t0 t1 : Int32, ¬ 0 ≤ t1 + t0 → ∀ x, m_X12_beside_B47 x t0 t1 z = some (-1, z) := by
    intro t0 t1 e x
    unfold m_X12_beside_B47
    rw [isPlace_ok, bnd_some]
    simp only [if_neg (show ¬ ((0 ≤ x ∧ x ≤ 11) ∧ 0 ≤ t1 + t0 ∧ t1 + t0 ≤ 11) from fun q => e q.2.1), if_true]
  have k4 : ∀ x : Int32, ¬ 0 ≤ x → ∀ t0 t1, m_X12_beside_B47 x t0 t1 z = some (-1, z) := by
    intro x e t0 t1
    unfold m_X12_beside_B47
    rw [isPlace_ok, bnd_some]
    simp only [if_neg (show ¬ ((0 ≤ x ∧ x ≤ 11) ∧ 0 ≤ t1 + t0 ∧ t1 + t0 ≤ 11) from fun q => e q.1.1), if_true]
  unfold m_X12_beside m_X12_beside_B22
  rw [rem12 (by omega), div12 (by omega)]
  have hw4 : w = 0 ∨ w = 1 ∨ w = 2 ∨ w = 3 := by omega
  rcases hw4 with rfl | rfl | rfl | rfl
  · simp (disch := omega) only [eq_c, if_true, if_false, show ((0 : Nat) = 2) = False by simp, show ((0 : Nat) = 3) = False by simp]
    rw [nI_1, k2 (c % 12 + 1) (c / 12) (by omega) (by omega) 0 (nI (c / 12)) (by rw [e0, nI_add, Nat.add_zero])]
    unfold bsM
    rw [if_pos rfl]
    by_cases g : c % 12 < 11
    · rw [if_pos (by omega), if_pos g, show 12 * (c / 12) + (c % 12 + 1) = c + 1 by omega]; rfl
    · rw [if_neg (by omega), if_neg g]; rfl
  · simp (disch := omega) only [eq_c, if_true, if_false, show ((1 : Nat) = 0) = False by simp, show ((1 : Nat) = 2) = False by simp, show ((1 : Nat) = 3) = False by simp]
    unfold bsM
    rw [if_neg (by decide), if_pos rfl]
    by_cases g : 0 < c % 12
    · rw [sb_m1 g, k2 (c % 12 - 1) (c / 12) (by omega) (by omega) 0 (nI (c / 12)) (by rw [e0, nI_add, Nat.add_zero]), if_pos (by omega), if_pos g, show 12 * (c / 12) + (c % 12 - 1) = c - 1 by omega]; rfl
    · rw [if_neg g, show c % 12 = 0 by omega, k4 _ (by decide)]; rfl
  · simp (disch := omega) only [eq_c, if_true, if_false, show ((2 : Nat) = 0) = False by simp, show ((2 : Nat) = 1) = False by simp]
    unfold bsM
    rw [if_neg (by decide), if_neg (by decide), if_pos rfl, e0, nI_add, k2 (c % 12 + 0) (c / 12 + 1) (by omega) (by omega) 1 (nI (c / 12)) (by rw [nI_1])]
    by_cases g : c < 132
    · rw [if_pos (by omega), if_pos g, show 12 * (c / 12 + 1) + (c % 12 + 0) = c + 12 by omega]; rfl
    · rw [if_neg (by omega), if_neg g]; rfl
  · simp (disch := omega) only [eq_c, if_true, if_false, show ((3 : Nat) = 0) = False by simp, show ((3 : Nat) = 1) = False by simp, show ((3 : Nat) = 2) = False by simp]
    unfold bsM
    rw [if_neg (by decide), if_neg (by decide), if_neg (by decide)]
    by_cases g : 12 ≤ c
    · rw [e0, nI_add, k2 (c % 12 + 0) (c / 12 - 1) (by omega) (by omega) (-1) (nI (c / 12)) (sb_m1 (by omega)), if_pos (by omega), if_pos g, show 12 * (c / 12 - 1) + (c % 12 + 0) = c - 12 by omega]; rfl
    · rw [if_neg g, show c / 12 = 0 by omega, k3 _ _ (by decide)]; rfl
