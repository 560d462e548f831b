/-! ===== small words, both sides ===== -/
theorem ladd (a b k : Nat) : (no_index (OfNat.ofNat a) : Nat) + b + (no_index (OfNat.ofNat k) : Nat) = ((OfNat.ofNat a : Nat) + (OfNat.ofNat k : Nat)) + b := Nat.add_right_comm _ _ _
theorem rng {x : Int32} (n : Nat) (hn : n + 1 < 2 ^ 31) (h : 0 ≤ x ∧ x ≤ nI n) : ∃ a, x = nI a ∧ a ≤ n := by
  have h2 := h.2
  rw [Int32.le_iff_toInt_le, nI_toInt (by omega)] at h2
  have h3 : ¬ x < 0 := Int32.not_lt.mpr h.1
  have g := isN.of (m := n + 1) h3 (by omega) hn
  exact ⟨_, g.1, Nat.lt_succ_iff.mp g.2⟩
theorem kd_eq {W : Nat → Int32} {q c : Nat} (h : OkW W q) (hc : c < 144) : W (48 + c) = nI (kdW W c) := (ok_kd h c hc).1
theorem kd_lt {W : Nat → Int32} {q c : Nat} (h : OkW W q) (hc : c < 144) : kdW W c < 4 := (ok_kd h c hc).2
theorem isFrozenC_ok {z : Hp} {s q c : Nat} {W : Nat → Int32} (hS : LayS z s) (hR : RelS z s W) (hO : OkW W q) (hc : c < 144) : m_X8_isFrozen s (nI c) z = some (bI (frW W c), z) := by
  have hk := kd_lt hO hc
  unfold m_X8_isFrozen
  simp (disch := omega) [gI, gR, pI, pR, aI, sI, aL, sL, aO, aR, sR, aN, onul, bnd, isC, cpI, cpL, sLen, sCh, nwC, zK_wI, zR_wI, zL_wI, zN_wI, zI_wI, zK_wL, zR_wL, zI_wL, zN_wL, zL_wL, zK_wR, zI_wR, zL_wR, zN_wR, zR_wR, ups_eq, inb_nI, nI_clamp, wI_wI, nI_add, pk_mul, add_c, c_add, c_mul, lt_c, le_c, eq_c, gt_c, ge_c, inb_c, clamp_c, ladd, sk_0, sk_1, sk_2, sk_3, sk_4, sk_5, sk_6, sk_7, sk_8, sk_9, sk_10, sk_11, sk_12, sk_13, sk_14, sk_15, sk_16, sk_17, sk_18, sk_19, sk_20, sk_21, sk_22, sk_23, sk_24, sk_25, sk_26, sk_27, sk_28, sk_29, sk_30, sk_31, sr_0_0, sr_0_1, sr_0_2, sr_0_3, sr_0_4, sr_0_5, sr_0_6, sr_0_7, sr_0_8, sr_0_9, sr_1_0, sr_1_1, sr_1_2, sr_1_3, sr_1_4, sr_1_5, sr_8_0, sr_8_1, sr_8_2, sr_8_3, sr_8_4, sr_8_5, sr_15_0, sr_15_1, sr_15_2, sr_19_0, sr_19_1, sr_19_2, sr_19_3, sr_24_0, sr_24_1, rs_lead hR, rs_ilead hR, rs_latent hR, rs_mark hR, rs_ground hR, rs_far hR, rs_pn hR, rs_p0 hR, rs_p1 hR, rs_p2 hR, rs_p3 hR, rs_p4 hR, rs_p5 hR, rs_hn hR, rs_h0 hR, rs_h1 hR, rs_h2 hR, rs_rn hR, rs_rc hR, rs_gc hR, rs_warm hR, rs_ice hR, rs_dug hR, rs_shaft hR, rs_sums hR, rs_sc hR, rs_dc hR, rs_cold hR, rs_lines hR, rs_ticks hR, rs_fl hR, rs_fls hR, hS, kd_eq hO]
  by_cases h1 : W (480 + c) = 0 <;> by_cases h2 : W (336 + c) = W (22 + 4 * kdW W c) <;> simp [h1, h2, frW, bI]
theorem isDugM_ok {z : Hp} {c : Nat} (hM : LayM z) (hc : c < 144) : m_X12_isDug 92 (nI c) z = some (bI (decide (zI z 93 (480 + c) = 1)), z) := by
  unfold m_X12_isDug
  simp (disch := omega) [gI, gR, pI, pR, aI, sI, aL, sL, aO, aR, sR, aN, onul, bnd, isC, cpI, cpL, sLen, sCh, nwC, zK_wI, zR_wI, zL_wI, zN_wI, zI_wI, zK_wL, zR_wL, zI_wL, zN_wL, zL_wL, zK_wR, zI_wR, zL_wR, zN_wR, zR_wR, ups_eq, inb_nI, nI_clamp, wI_wI, nI_add, pk_mul, add_c, c_add, c_mul, lt_c, le_c, eq_c, gt_c, ge_c, inb_c, clamp_c, ladd, mk_92, mk_93, mk_94, mk_95, mk_96, mk_97, mk_98, mk_99, mk_100, mk_101, mk_102, mk_103, mk_104, mk_105, mk_106, mk_107, mk_108, mk_109, mk_110, mk_111, mk_112, mk_113, mk_114, mr_92_1, mr_92_2, mr_92_3, mr_92_4, mr_92_5, mr_92_7, mr_92_15, mr_92_16, mr_92_17, mr_92_24, mr_92_25, mr_92_26, mr_92_27, mr_92_28, mr_92_29, mr_92_30, mr_92_32, mr_92_33, mr_92_36, mr_92_37, mr_92_38, mr_92_39, hM]
  by_cases h1 : zI z 93 (480 + c) = 1 <;> simp [h1, bI]
theorem isFrozenM_ok {z : Hp} {q c : Nat} (hM : LayM z) (hO : OkW (zI z 93) q) (hc : c < 144) : m_X12_isFrozen 92 (nI c) z = some (bI (frW (zI z 93) c), z) := by
  have hk := kd_lt hO hc
  unfold m_X12_isFrozen m_X12_groundOf
  simp (disch := omega) [gI, gR, pI, pR, aI, sI, aL, sL, aO, aR, sR, aN, onul, bnd, isC, cpI, cpL, sLen, sCh, nwC, zK_wI, zR_wI, zL_wI, zN_wI, zI_wI, zK_wL, zR_wL, zI_wL, zN_wL, zL_wL, zK_wR, zI_wR, zL_wR, zN_wR, zR_wR, ups_eq, inb_nI, nI_clamp, wI_wI, nI_add, pk_mul, add_c, c_add, c_mul, lt_c, le_c, eq_c, gt_c, ge_c, inb_c, clamp_c, ladd, mk_92, mk_93, mk_94, mk_95, mk_96, mk_97, mk_98, mk_99, mk_100, mk_101, mk_102, mk_103, mk_104, mk_105, mk_106, mk_107, mk_108, mk_109, mk_110, mk_111, mk_112, mk_113, mk_114, mr_92_1, mr_92_2, mr_92_3, mr_92_4, mr_92_5, mr_92_7, mr_92_15, mr_92_16, mr_92_17, mr_92_24, mr_92_25, mr_92_26, mr_92_27, mr_92_28, mr_92_29, mr_92_30, mr_92_32, mr_92_33, mr_92_36, mr_92_37, mr_92_38, mr_92_39, hM, kd_eq hO, isDugM_ok, bI_0]
  rcases ok_dug hO c hc with h1 | h1 <;> by_cases h2 : zI z 93 (336 + c) = zI z 93 (22 + 4 * kdW (zI z 93) c) <;> simp [h1, h2, frW, bI]
theorem isShaftM_ok {z : Hp} {c : Nat} (hM : LayM z) (hc : c < 144) : m_X12_isShaft 92 (nI c) z = some (bI (shW (zI z 93) c), z) := by
  unfold m_X12_isShaft
  rw [rem12 (by omega), div12 (by omega)]
  simp (disch := omega) [gI, gR, pI, pR, aI, sI, aL, sL, aO, aR, sR, aN, onul, bnd, isC, cpI, cpL, sLen, sCh, nwC, zK_wI, zR_wI, zL_wI, zN_wI, zI_wI, zK_wL, zR_wL, zI_wL, zN_wL, zL_wL, zK_wR, zI_wR, zL_wR, zN_wR, zR_wR, ups_eq, inb_nI, nI_clamp, wI_wI, nI_add, pk_mul, add_c, c_add, c_mul, lt_c, le_c, eq_c, gt_c, ge_c, inb_c, clamp_c, ladd, mk_92, mk_93, mk_94, mk_95, mk_96, mk_97, mk_98, mk_99, mk_100, mk_101, mk_102, mk_103, mk_104, mk_105, mk_106, mk_107, mk_108, mk_109, mk_110, mk_111, mk_112, mk_113, mk_114, mr_92_1, mr_92_2, mr_92_3, mr_92_4, mr_92_5, mr_92_7, mr_92_15, mr_92_16, mr_92_17, mr_92_24, mr_92_25, mr_92_26, mr_92_27, mr_92_28, mr_92_29, mr_92_30, mr_92_32, mr_92_33, mr_92_36, mr_92_37, mr_92_38, mr_92_39, hM, in32]
  simp only [shW, bI, ← Int32.not_lt]
  by_cases h1 : zI z 93 7 = 1 <;> by_cases h2 : nI (c % 12) < zI z 93 8 <;> by_cases h3 : zI z 93 10 < nI (c % 12) <;> by_cases h4 : nI (c / 12) < zI z 93 9 <;> by_cases h5 : zI z 93 11 < nI (c / 12) <;> simp [h1, h2, h3, h4, h5]
theorem isCell_ok (x y : Int32) (z : Hp) : m_X11_isCell x y z = some (if (0 ≤ x ∧ x ≤ 11) ∧ 0 ≤ y ∧ y ≤ 11 then 1 else 0, z) := by
  have e : ∀ x : Int32, x < 12 ↔ x ≤ 11 := fun x => by
    rw [Int32.lt_iff_toInt_lt, Int32.le_iff_toInt_le, show (12 : Int32).toInt = 12 by decide, show (11 : Int32).toInt = 11 by decide]
    omega
  unfold m_X11_isCell
  simp only [e, ← Int32.not_lt]
  by_cases h1 : x < 0 <;> by_cases h2 : 11 < x <;> by_cases h3 : y < 0 <;> by_cases h4 : 11 < y <;> simp [h1, h2, h3, h4]
/-- the first place from k on, of m -/
def ff (P : Nat → Bool) : Nat → Nat → Int32
  | 0, _ => -1
  | m + 1, k => if P k = true then nI k else ff P m (k + 1)
theorem ff_s {P : Nat → Bool} {N n : Nat} (h : n < N) : ff P (N - n) n = if P n = true then nI n else ff P (N - (n + 1)) (n + 1) := by
  obtain ⟨m, e⟩ : ∃ m, N - n = m + 1 := ⟨N - n - 1, by omega⟩
  rw [e, show N - (n + 1) = m by omega]
  rfl
def pcW (W : Nat → Int32) (c : Nat) : Int32 := ff (fun p => decide (W (624 + 6 * p) = nI c)) (nPW W) 0
theorem np_eq {W : Nat → Int32} {q : Nat} (h : OkW W q) : W 2 = nI (nPW W) := (ok_pn h).1.1
theorem np_lt {W : Nat → Int32} {q : Nat} (h : OkW W q) : nPW W ≤ q ∧ q ≤ 18 := ⟨Nat.lt_succ_iff.mp (ok_pn h).1.2, (ok_pn h).2⟩
theorem standingIn_ok {z : Hp} {s q c : Nat} {W : Nat → Int32} (hS : LayS z s) (hR : RelS z s W) (hO : OkW W q) (hc : c < 144) : m_X3_standingIn (s + 8) (nI c) z = some (pcW W c, z) := by
  have hp := np_lt hO
  unfold m_X3_standingIn
  refine loopQ (X := Int32) (fun f x => m_X3_standingIn_L2 f (s + 8) (nI c) x z) (fun t => t = some (pcW W c, z)) (fun n x => x = nI n ∧ pcW W c = ff (fun p => decide (W (624 + 6 * p) = nI c)) (nPW W - n) n) (nPW W) ?hs ?he 0 FU 0 (by omega) (FU_pos (by omega)) ⟨rfl, rfl⟩
  case hs =>
    rintro n f x hn ⟨rfl, h2⟩
    rw [ff_s hn] at h2
    rw [m_X3_standingIn_L2]
    simp (disch := omega) [gI, gR, pI, pR, aI, sI, aL, sL, aO, aR, sR, aN, onul, bnd, isC, cpI, cpL, sLen, sCh, nwC, zK_wI, zR_wI, zL_wI, zN_wI, zI_wI, zK_wL, zR_wL, zI_wL, zN_wL, zL_wL, zK_wR, zI_wR, zL_wR, zN_wR, zR_wR, ups_eq, inb_nI, nI_clamp, wI_wI, nI_add, pk_mul, add_c, c_add, c_mul, lt_c, le_c, eq_c, gt_c, ge_c, inb_c, clamp_c, ladd, sk_0, sk_1, sk_2, sk_3, sk_4, sk_5, sk_6, sk_7, sk_8, sk_9, sk_10, sk_11, sk_12, sk_13, sk_14, sk_15, sk_16, sk_17, sk_18, sk_19, sk_20, sk_21, sk_22, sk_23, sk_24, sk_25, sk_26, sk_27, sk_28, sk_29, sk_30, sk_31, sr_0_0, sr_0_1, sr_0_2, sr_0_3, sr_0_4, sr_0_5, sr_0_6, sr_0_7, sr_0_8, sr_0_9, sr_1_0, sr_1_1, sr_1_2, sr_1_3, sr_1_4, sr_1_5, sr_8_0, sr_8_1, sr_8_2, sr_8_3, sr_8_4, sr_8_5, sr_15_0, sr_15_1, sr_15_2, sr_19_0, sr_19_1, sr_19_2, sr_19_3, sr_24_0, sr_24_1, rs_lead hR, rs_ilead hR, rs_latent hR, rs_mark hR, rs_ground hR, rs_far hR, rs_pn hR, rs_p0 hR, rs_p1 hR, rs_p2 hR, rs_p3 hR, rs_p4 hR, rs_p5 hR, rs_hn hR, rs_h0 hR, rs_h1 hR, rs_h2 hR, rs_rn hR, rs_rc hR, rs_gc hR, rs_warm hR, rs_ice hR, rs_dug hR, rs_shaft hR, rs_sums hR, rs_sc hR, rs_dc hR, rs_cold hR, rs_lines hR, rs_ticks hR, rs_fl hR, rs_fls hR, hS, np_eq hO, nI_ltI, hn]
    by_cases h1 : W (624 + 6 * n) = nI c
    · right
      simp [h1] at h2 ⊢
      exact h2.symm
    · left
      simp [h1] at h2 ⊢
      exact ⟨_, ⟨rfl, h2⟩, rfl⟩
  case he =>
    rintro f x ⟨rfl, h2⟩
    rw [Nat.sub_self] at h2
    rw [m_X3_standingIn_L2, h2]
    simp (disch := omega) [gI, gR, pI, pR, aI, sI, aL, sL, aO, aR, sR, aN, onul, bnd, isC, cpI, cpL, sLen, sCh, nwC, zK_wI, zR_wI, zL_wI, zN_wI, zI_wI, zK_wL, zR_wL, zI_wL, zN_wL, zL_wL, zK_wR, zI_wR, zL_wR, zN_wR, zR_wR, ups_eq, inb_nI, nI_clamp, wI_wI, nI_add, pk_mul, add_c, c_add, c_mul, lt_c, le_c, eq_c, gt_c, ge_c, inb_c, clamp_c, ladd, sk_0, sk_1, sk_2, sk_3, sk_4, sk_5, sk_6, sk_7, sk_8, sk_9, sk_10, sk_11, sk_12, sk_13, sk_14, sk_15, sk_16, sk_17, sk_18, sk_19, sk_20, sk_21, sk_22, sk_23, sk_24, sk_25, sk_26, sk_27, sk_28, sk_29, sk_30, sk_31, sr_0_0, sr_0_1, sr_0_2, sr_0_3, sr_0_4, sr_0_5, sr_0_6, sr_0_7, sr_0_8, sr_0_9, sr_1_0, sr_1_1, sr_1_2, sr_1_3, sr_1_4, sr_1_5, sr_8_0, sr_8_1, sr_8_2, sr_8_3, sr_8_4, sr_8_5, sr_15_0, sr_15_1, sr_15_2, sr_19_0, sr_19_1, sr_19_2, sr_19_3, sr_24_0, sr_24_1, rs_lead hR, rs_ilead hR, rs_latent hR, rs_mark hR, rs_ground hR, rs_far hR, rs_pn hR, rs_p0 hR, rs_p1 hR, rs_p2 hR, rs_p3 hR, rs_p4 hR, rs_p5 hR, rs_hn hR, rs_h0 hR, rs_h1 hR, rs_h2 hR, rs_rn hR, rs_rc hR, rs_gc hR, rs_warm hR, rs_ice hR, rs_dug hR, rs_shaft hR, rs_sums hR, rs_sc hR, rs_dc hR, rs_cold hR, rs_lines hR, rs_ticks hR, rs_fl hR, rs_fls hR, hS, np_eq hO, nI_ltI, ff]
theorem pipeAt_ok {z : Hp} {q c : Nat} (hM : LayM z) (hO : OkW (zI z 93) q) (hc : c < 144) : m_X12_pipeAt 92 (nI c) z = some (pcW (zI z 93) c, z) := by
  have hp := np_lt hO
  unfold m_X12_pipeAt
  refine loopQ (X := Int32) (fun f x => m_X12_pipeAt_L2 f 92 (nI c) x z) (fun t => t = some (pcW (zI z 93) c, z)) (fun n x => x = nI n ∧ pcW (zI z 93) c = ff (fun p => decide (zI z 93 (624 + 6 * p) = nI c)) (nPW (zI z 93) - n) n) (nPW (zI z 93)) ?hs ?he 0 FU 0 (by omega) (FU_pos (by omega)) ⟨rfl, rfl⟩
  case hs =>
    rintro n f x hn ⟨rfl, h2⟩
    rw [ff_s hn] at h2
    rw [m_X12_pipeAt_L2]
    simp (disch := omega) [gI, gR, pI, pR, aI, sI, aL, sL, aO, aR, sR, aN, onul, bnd, isC, cpI, cpL, sLen, sCh, nwC, zK_wI, zR_wI, zL_wI, zN_wI, zI_wI, zK_wL, zR_wL, zI_wL, zN_wL, zL_wL, zK_wR, zI_wR, zL_wR, zN_wR, zR_wR, ups_eq, inb_nI, nI_clamp, wI_wI, nI_add, pk_mul, add_c, c_add, c_mul, lt_c, le_c, eq_c, gt_c, ge_c, inb_c, clamp_c, ladd, mk_92, mk_93, mk_94, mk_95, mk_96, mk_97, mk_98, mk_99, mk_100, mk_101, mk_102, mk_103, mk_104, mk_105, mk_106, mk_107, mk_108, mk_109, mk_110, mk_111, mk_112, mk_113, mk_114, mr_92_1, mr_92_2, mr_92_3, mr_92_4, mr_92_5, mr_92_7, mr_92_15, mr_92_16, mr_92_17, mr_92_24, mr_92_25, mr_92_26, mr_92_27, mr_92_28, mr_92_29, mr_92_30, mr_92_32, mr_92_33, mr_92_36, mr_92_37, mr_92_38, mr_92_39, hM, np_eq hO, nI_ltI, hn]
    by_cases h1 : zI z 93 (624 + 6 * n) = nI c
    · right
      simp [h1] at h2 ⊢
      exact h2.symm
    · left
      simp [h1] at h2 ⊢
      exact ⟨_, ⟨rfl, h2⟩, rfl⟩
  case he =>
    rintro f x ⟨rfl, h2⟩
    rw [Nat.sub_self] at h2
    rw [m_X12_pipeAt_L2, h2]
    simp (disch := omega) [gI, gR, pI, pR, aI, sI, aL, sL, aO, aR, sR, aN, onul, bnd, isC, cpI, cpL, sLen, sCh, nwC, zK_wI, zR_wI, zL_wI, zN_wI, zI_wI, zK_wL, zR_wL, zI_wL, zN_wL, zL_wL, zK_wR, zI_wR, zL_wR, zN_wR, zR_wR, ups_eq, inb_nI, nI_clamp, wI_wI, nI_add, pk_mul, add_c, c_add, c_mul, lt_c, le_c, eq_c, gt_c, ge_c, inb_c, clamp_c, ladd, mk_92, mk_93, mk_94, mk_95, mk_96, mk_97, mk_98, mk_99, mk_100, mk_101, mk_102, mk_103, mk_104, mk_105, mk_106, mk_107, mk_108, mk_109, mk_110, mk_111, mk_112, mk_113, mk_114, mr_92_1, mr_92_2, mr_92_3, mr_92_4, mr_92_5, mr_92_7, mr_92_15, mr_92_16, mr_92_17, mr_92_24, mr_92_25, mr_92_26, mr_92_27, mr_92_28, mr_92_29, mr_92_30, mr_92_32, mr_92_33, mr_92_36, mr_92_37, mr_92_38, mr_92_39, hM, np_eq hO, nI_ltI, ff]
/-- both at once, on a heap that stays -/
def RO (f g : Hp → Option (Int32 × Hp)) (z : Hp) : Prop := ∃ v, f z = some (v, z) ∧ g z = some (v, z)
