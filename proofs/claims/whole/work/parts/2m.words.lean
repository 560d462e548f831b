/-! ===== words: in, places, sides ===== -/
theorem lg_lt (a b : Int64) : (lg_cmp a b < 0) ↔ a < b := by
  unfold lg_cmp
  by_cases h1 : b < a
  · rw [if_pos h1, Int64.lt_iff_toInt_lt]
    rw [Int64.lt_iff_toInt_lt] at h1
    exact ⟨fun q => absurd q (by decide), fun q => by omega⟩
  · rw [if_neg h1]
    by_cases h2 : a = b
    · subst h2
      rw [if_pos rfl]
      exact ⟨fun q => absurd q (by decide), fun q => absurd q h1⟩
    · rw [if_neg h2]
      rw [Int64.lt_iff_toInt_lt] at h1 ⊢
      have h3 : a.toInt ≠ b.toInt := fun q => h2 (Int64.toInt_inj.mp q)
      exact ⟨fun _ => by omega, fun _ => by decide⟩
theorem lg_gt (a b : Int64) : (0 < lg_cmp a b) ↔ b < a := by
  unfold lg_cmp
  by_cases h1 : b < a
  · rw [if_pos h1]
    exact ⟨fun _ => h1, fun _ => by decide⟩
  · rw [if_neg h1]
    by_cases h2 : a = b
    · rw [if_pos h2]
      exact ⟨fun q => absurd q (by decide), fun q => absurd q h1⟩
    · rw [if_neg h2]
      exact ⟨fun q => absurd q (by decide), fun q => absurd q h1⟩
theorem in_gen (a b c : Int64) (z : Hp) : m_X12_in a b c z = some (if b ≤ a ∧ a ≤ c then 1 else 0, z) := by
  unfold m_X12_in
  simp only [lg_lt, lg_gt]
  by_cases h1 : a < b
  · rw [if_pos h1, if_neg (fun q => Int64.not_le.mpr h1 q.1)]
  · rw [if_neg h1]
    by_cases h2 : c < a
    · rw [if_pos h2, if_neg (fun q => Int64.not_le.mpr h2 q.2)]
    · rw [if_neg h2, if_pos ⟨Int64.not_lt.mp h1, Int64.not_lt.mp h2⟩]
theorem i64_le (x y : Int32) : x.toInt64 ≤ y.toInt64 ↔ x ≤ y := by
  rw [Int64.le_iff_toInt_le, Int32.le_iff_toInt_le, Int32.toInt_toInt64, Int32.toInt_toInt64]
theorem in32 (x lo hi : Int32) (z : Hp) : m_X12_in x.toInt64 lo.toInt64 hi.toInt64 z = some (if lo ≤ x ∧ x ≤ hi then 1 else 0, z) := by
  rw [in_gen]
  simp only [i64_le]
/-- bounds that are written out -/
theorem in_lit (x : Int32) (a b : Nat) (ha : (OfNat.ofNat a : Nat) < 2 ^ 31) (hb : (OfNat.ofNat b : Nat) < 2 ^ 31) (z : Hp) : m_X12_in x.toInt64 (no_index (OfNat.ofNat a)) (no_index (OfNat.ofNat b)) z = some (if (OfNat.ofNat a : Int32) ≤ x ∧ x ≤ (OfNat.ofNat b : Int32) then 1 else 0, z) := by
  have e1 : (OfNat.ofNat a : Int64) = (nI a).toInt64 := (nI_l ha).symm
  have e2 : (OfNat.ofNat b : Int64) = (nI b).toInt64 := (nI_l hb).symm
  rw [e1, e2, in32]
  rfl
theorem rem12 {c : Nat} (h : c < 2 ^ 31) : nI c - nI c / 12 * 12 = nI (c % 12) := pk_rem h (by decide) (by decide)
theorem div12 {c : Nat} (h : c < 2 ^ 31) : nI c / 12 = nI (c / 12) := pk_div h (by decide) (by decide)
