/-! ===== bits: bytes of the tape, numbers cut ===== -/
theorem cut8 (w : Int64) : Int32.toInt64 (Int8.toInt32 (Int32.toInt8 (Int64.toInt32 w))) = (w <<< 56) >>> 56 := by
  apply Int64.toBitVec_inj.mp
  rw [Int64.toBitVec_shiftRight, Int64.toBitVec_shiftLeft]
  apply BitVec.eq_of_getLsbD_eq
  intro i hi
  simp [BitVec.getLsbD_signExtend, BitVec.getLsbD_sshiftRight, BitVec.getLsbD_shiftLeft, BitVec.getLsbD_setWidth]
  grind
theorem cut16 (w : Int64) : Int32.toInt64 (Int16.toInt32 (Int32.toInt16 (Int64.toInt32 w))) = (w <<< 48) >>> 48 := by
  apply Int64.toBitVec_inj.mp
  rw [Int64.toBitVec_shiftRight, Int64.toBitVec_shiftLeft]
  apply BitVec.eq_of_getLsbD_eq
  intro i hi
  simp [BitVec.getLsbD_signExtend, BitVec.getLsbD_sshiftRight, BitVec.getLsbD_shiftLeft, BitVec.getLsbD_setWidth]
  grind
theorem cut32 (w : Int64) : Int32.toInt64 (Int64.toInt32 w) = (w <<< 32) >>> 32 := by
  apply Int64.toBitVec_inj.mp
  rw [Int64.toBitVec_shiftRight, Int64.toBitVec_shiftLeft]
  apply BitVec.eq_of_getLsbD_eq
  intro i hi
  simp [BitVec.getLsbD_signExtend, BitVec.getLsbD_sshiftRight, BitVec.getLsbD_shiftLeft, BitVec.getLsbD_setWidth]
  grind
theorem b255 : ∀ i, i < 32 → (255#32).getLsbD i = decide (i < 8) := by decide
theorem byte24 (v : Int32) : ((v.toUInt32 >>> (Int32.toUInt32 24 &&& Int32.toUInt32 31)).toInt32 &&& (255 : Int32)) = (vp_nar .byte (Int8.toInt32 (Int32.toInt8 (v >>> ((24 : Int32) &&& 31))))) &&& (255 : Int32) := by
  rw [vp_nar_byte]
  rw [show Int32.toUInt32 24 &&& Int32.toUInt32 31 = (24 : UInt32) by decide, show (24 : Int32) &&& 31 = 24 by decide]
  apply Int32.toBitVec_inj.mp
  apply BitVec.eq_of_getLsbD_eq
  intro i hi
  have hb := b255 i hi
  by_cases h8 : i < 8
  · simp [BitVec.getLsbD_signExtend, BitVec.getLsbD_sshiftRight, BitVec.getLsbD_ushiftRight, BitVec.getLsbD_setWidth, hb, h8]
    grind
  · simp [hb, h8]
theorem byte16 (v : Int32) : ((v.toUInt32 >>> (Int32.toUInt32 16 &&& Int32.toUInt32 31)).toInt32 &&& (255 : Int32)) = (vp_nar .byte (Int8.toInt32 (Int32.toInt8 (v >>> ((16 : Int32) &&& 31))))) &&& (255 : Int32) := by
  rw [vp_nar_byte]
  rw [show Int32.toUInt32 16 &&& Int32.toUInt32 31 = (16 : UInt32) by decide, show (16 : Int32) &&& 31 = 16 by decide]
  apply Int32.toBitVec_inj.mp
  apply BitVec.eq_of_getLsbD_eq
  intro i hi
  have hb := b255 i hi
  by_cases h8 : i < 8
  · simp [BitVec.getLsbD_signExtend, BitVec.getLsbD_sshiftRight, BitVec.getLsbD_ushiftRight, BitVec.getLsbD_setWidth, hb, h8]
    grind
  · simp [hb, h8]
theorem byte8 (v : Int32) : ((v.toUInt32 >>> (Int32.toUInt32 8 &&& Int32.toUInt32 31)).toInt32 &&& (255 : Int32)) = (vp_nar .byte (Int8.toInt32 (Int32.toInt8 (v >>> ((8 : Int32) &&& 31))))) &&& (255 : Int32) := by
  rw [vp_nar_byte]
  rw [show Int32.toUInt32 8 &&& Int32.toUInt32 31 = (8 : UInt32) by decide, show (8 : Int32) &&& 31 = 8 by decide]
  apply Int32.toBitVec_inj.mp
  apply BitVec.eq_of_getLsbD_eq
  intro i hi
  have hb := b255 i hi
  by_cases h8 : i < 8
  · simp [BitVec.getLsbD_signExtend, BitVec.getLsbD_sshiftRight, BitVec.getLsbD_ushiftRight, BitVec.getLsbD_setWidth, hb, h8]
    grind
  · simp [hb, h8]
theorem byte0 (v : Int32) : ((v.toUInt32 >>> (Int32.toUInt32 0 &&& Int32.toUInt32 31)).toInt32 &&& (255 : Int32)) = (vp_nar .byte (Int8.toInt32 (Int32.toInt8 (v >>> ((0 : Int32) &&& 31))))) &&& (255 : Int32) := by
  rw [vp_nar_byte]
  rw [show Int32.toUInt32 0 &&& Int32.toUInt32 31 = (0 : UInt32) by decide, show (0 : Int32) &&& 31 = 0 by decide]
  apply Int32.toBitVec_inj.mp
  apply BitVec.eq_of_getLsbD_eq
  intro i hi
  have hb := b255 i hi
  by_cases h8 : i < 8
  · simp [BitVec.getLsbD_signExtend, BitVec.getLsbD_sshiftRight, BitVec.getLsbD_ushiftRight, BitVec.getLsbD_setWidth, hb, h8]
    grind
  · simp [hb, h8]
theorem cut_same (w : Int64) {k : Nat} (hk : k < 4) (z y : Hp) : ∃ r, m_X6_cut w (nI k) z = some (r, z) ∧ m_X12_cut w (nI k) y = some (r, y) := by
  unfold m_X6_cut m_X12_cut
  have h : k = 0 ∨ k = 1 ∨ k = 2 ∨ k = 3 := by omega
  rcases h with rfl | rfl | rfl | rfl
  · refine ⟨_, rfl, ?_⟩
    rw [cut8]
    rfl
  · refine ⟨_, rfl, ?_⟩
    rw [cut16]
    rfl
  · refine ⟨_, rfl, ?_⟩
    rw [cut32]
    rfl
  · refine ⟨_, rfl, ?_⟩
    have e : (64 - ((8 : Int32) <<< (nI 3 &&& 31))).toInt64 &&& 63 = (0 : Int64) := by decide
    rw [e]
    have e2 : (w <<< (0 : Int64)) >>> (0 : Int64) = w := by
      apply Int64.toBitVec_inj.mp
      simp
    rw [e2]
theorem wL_wL (z : Hp) (a : Nat) (f g : Nat → Int64) : wL (wL z a f) a g = wL z a g := by
  unfold wL
  simp only [Prod.mk.injEq, true_and, and_true]
  funext b
  simp only [ups_eq]
  split <;> rfl
theorem wL_self (z : Hp) (a : Nat) : wL z a (zL z a) = z := by
  unfold wL zL
  have : ups z.2.2.2.1 a (z.2.2.2.1 a) = z.2.2.2.1 := by
    funext b
    simp only [ups_eq]
    split
    · rename_i h; rw [h]
    · rfl
  rw [this]
theorem zL_ne {z : Hp} {a b : Nat} {f : Nat → Int64} (h : b ≠ a) : zL (wL z a f) b = zL z b := if_neg h
theorem zL_eq {z : Hp} {a : Nat} {f : Nat → Int64} : zL (wL z a f) a = f := if_pos rfl
theorem cr84 {z : Hp} {k : Nat} (h : LayC z) (hk : k < 4) : zR z 84 k = some (85 + k) := by
  have e : k = 0 ∨ k = 1 ∨ k = 2 ∨ k = 3 := by omega
  rcases e with rfl | rfl | rfl | rfl
  · exact cr_84_0 h
  · exact cr_84_1 h
  · exact cr_84_2 h
  · exact cr_84_3 h
theorem ck85 {z : Hp} {k : Nat} (h : LayC z) (hk : k < 4) : zK z (85 + k) = (4, 60) := by
  have e : k = 0 ∨ k = 1 ∨ k = 2 ∨ k = 3 := by omega
  rcases e with rfl | rfl | rfl | rfl
  · exact ck_85 h
  · exact ck_86 h
  · exact ck_87 h
  · exact ck_88 h
theorem lt_sI {n : Nat} (hn : n + 1 < 2 ^ 31) (x : Int32) : x < nI (n + 1) ↔ x ≤ nI n := by
  rw [Int32.lt_iff_toInt_lt, Int32.le_iff_toInt_le, nI_toInt (by omega), nI_toInt (by omega)]
  omega
theorem isSlot_ok (x : Int32) (z : Hp) : m_X12_isSlot x z = some (if ¬ x < 0 ∧ x < 4 then 1 else 0, z) := by
  unfold m_X12_isSlot
  rw [in_lit _ 0 3 (by decide) (by decide), bnd_some]
  have e : (0 ≤ x ∧ x ≤ 3) ↔ (¬ x < 0 ∧ x < 4) := by
    rw [Int32.not_lt, show (4 : Int32) = nI (3 + 1) from rfl, lt_sI (by decide)]
    exact Iff.rfl
  simp only [show ((0 : Int32) ≤ x ∧ x ≤ 3) ↔ (¬ x < 0 ∧ x < 4) from e]
  exact congrArg (fun q => some (q, z)) (nar_b _)
