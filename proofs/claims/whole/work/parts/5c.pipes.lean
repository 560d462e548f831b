/-! ===== what pipes want and take, by the model ===== -/
theorem sub_nI {a b : Int32} (h : 0 ≤ a.toInt - b.toInt) (h2 : a.toInt - b.toInt < 2147483648) : a - b = nI (a.toInt - b.toInt).toNat := by
  apply Int32.toInt_inj.mp
  rw [Int32.toInt_sub, bm (by omega) h2, nI_toInt (by omega)]
  omega
def pcN (W : Nat → Int32) (p : Nat) : Nat := nn (W (624 + 6 * p))
/-- what pipe p would take -/
def wnN (W : Nat → Int32) (p : Nat) : Nat := if W (627 + 6 * p) = 1 ∧ W (480 + pcN W p) = 0 ∧ W (625 + 6 * p) < W (192 + pcN W p) then ((W (192 + pcN W p)).toInt - (W (625 + 6 * p)).toInt).toNat * nn (W (626 + 6 * p)) / 100 else 0
theorem pc_eq {W : Nat → Int32} {q p : Nat} (hO : OkW W q) (hp : p < nPW W) : W (624 + 6 * p) = nI (pcN W p) ∧ pcN W p < 144 := ok_pc hO p hp
theorem wn_le {W : Nat → Int32} {q p : Nat} (hO : OkW W q) (hp : p < nPW W) : wnN W p ≤ 420 := by
  unfold wnN
  split
  · have h1 := ok_warm hO _ (pc_eq hO hp).2
    have h2 := ok_pa hO p hp
    have h3 := ok_pl hO p hp
    rw [show 624 + 6 * p + 1 = 625 + 6 * p by omega] at h2
    rw [show 624 + 6 * p + 2 = 626 + 6 * p by omega] at h3
    have a : ((W (192 + pcN W p)).toInt - (W (625 + 6 * p)).toInt).toNat ≤ 700 := by omega
    have b : nn (W (626 + 6 * p)) ≤ 60 := Nat.lt_succ_iff.mp h3.2
    have := Nat.mul_le_mul a b
    omega
  · omega
theorem wn_val {W : Nat → Int32} {q p : Nat} (hO : OkW W q) (hp : p < nPW W) (h : W (627 + 6 * p) = 1 ∧ W (480 + pcN W p) = 0 ∧ W (625 + 6 * p) < W (192 + pcN W p)) : ((W (192 + pcN W p) - W (625 + 6 * p)) * W (626 + 6 * p)) / 100 = nI (wnN W p) := by
  have h1 := ok_warm hO _ (pc_eq hO hp).2
  have h2 := ok_pa hO p hp
  have h3 := ok_pl hO p hp
  rw [show 624 + 6 * p + 1 = 625 + 6 * p by omega] at h2
  rw [show 624 + 6 * p + 2 = 626 + 6 * p by omega] at h3
  have hlt := h.2.2
  rw [Int32.lt_iff_toInt_lt] at hlt
  have a : ((W (192 + pcN W p)).toInt - (W (625 + 6 * p)).toInt).toNat ≤ 700 := by omega
  have b : nn (W (626 + 6 * p)) ≤ 60 := Nat.lt_succ_iff.mp h3.2
  have ab := Nat.mul_le_mul a b
  unfold wnN
  rw [if_pos h, sub_nI (by omega) (by omega)]
  have e3 := h3.1
  generalize hk : nn (W (626 + 6 * p)) = k at *
  rw [e3, pk_mul]
  exact pk_div (d := 100) (by omega) (by decide) (by decide)
theorem sw_le {W : Nat → Int32} {q : Nat} (hO : OkW W q) {n : Nat} (hn : n ≤ nPW W) : sN (wnN W) n ≤ 18 * 420 := by
  have h := sN_le (g := wnN W) (B := 420) (n := n) (fun i hi => wn_le hO (by omega))
  have := np_lt hO
  exact Nat.le_trans h (Nat.mul_le_mul (show n ≤ 18 by omega) (Nat.le_refl 420))
theorem wantsM_ok {z : Hp} {W : Nat → Int32} {q : Nat} (K : Nat → Int64 → Hp → Option (Unit × Hp)) (hM : LayM z) (hV : ∀ i, i ≠ 15 → i ≠ 16 → zI z 93 i = W i) (hO : OkW W q) :
    ∃ y, m_X12_pipes_L4 K FU 92 0 0 z = K 92 (lN (sN (wnN W) (nPW W))) y ∧ Fi (fun a => a = 103) z y ∧ ∀ p, p < nPW W → zI y 103 p = nI (wnN W p) := by
  have hp := np_lt hO
  refine loopQ (X := Int64 × Int32 × Hp) (fun f x => m_X12_pipes_L4 K f 92 x.1 x.2.1 x.2.2) (fun t => ∃ y, t = K 92 (lN (sN (wnN W) (nPW W))) y ∧ Fi (fun a => a = 103) z y ∧ ∀ p, p < nPW W → zI y 103 p = nI (wnN W p)) (fun n x => x.1 = lN (sN (wnN W) n) ∧ x.2.1 = nI n ∧ Fi (fun a => a = 103) z x.2.2 ∧ ∀ p, p < n → zI x.2.2 103 p = nI (wnN W p)) (nPW W) ?hs ?he 0 FU (0, 0, z) (by omega) (FU_pos (by omega)) ⟨rfl, rfl, Fi.rfl', fun p h => absurd h (by omega)⟩
  case hs =>
    rintro n f ⟨w, v, x⟩ hn ⟨h0, h1, h2, h3⟩
    dsimp only at h0 h1 h2 h3
    subst h0 h1
    have Mx := hM.fi h2
    have Vx : ∀ i, i ≠ 15 → i ≠ 16 → zI x 93 i = W i := fun i a b => by rw [h2.2.2.2.2 93 (by decide)]; exact hV i a b
    have Ax : AgW (zI x 93) W := fun i hi => Vx i (by omega) (by omega)
    have hc := pc_eq hO hn
    have hwl := wn_le hO hn
    have e2 : zI x 93 2 = nI (nPW W) := by rw [Vx 2 (by decide) (by decide)]; exact np_eq hO
    have ec : zI x 93 (624 + 6 * n) = nI (pcN W n) := by rw [Vx _ (by omega) (by omega)]; exact hc.1
    have e3 : zI x 93 (627 + 6 * n) = W (627 + 6 * n) := Vx _ (by omega) (by omega)
    have e4 : zI x 93 (625 + 6 * n) = W (625 + 6 * n) := Vx _ (by omega) (by omega)
    have e5 : zI x 93 (626 + 6 * n) = W (626 + 6 * n) := Vx _ (by omega) (by omega)
    have ew : zI x 93 (192 + pcN W n) = W (192 + pcN W n) := Vx _ (by have := hc.2; omega) (by omega)
    have ed := dugA Mx Ax hc.2
    have hcl := hc.2
    refine Or.inl ⟨(lN (sN (wnN W) (n + 1)), nI (n + 1), wI x 103 (ups (zI x 103) n (nI (wnN W n)))), ⟨rfl, rfl, h2.trans (Fi.w rfl), fun p hpn => ?_⟩, ?_⟩
    · dsimp only
      rw [zI_eq]
      by_cases g : p = n
      · rw [g, up_eq]
      · rw [up_ne g]; exact h3 p (by omega)
    · dsimp only
      have es : lN (sN (wnN W) n) + lN (wnN W n) = lN (sN (wnN W) (n + 1)) := lN_add _ _
      have el : (nI (wnN W n)).toInt64 = lN (wnN W n) := nI_l (by omega)
      rw [m_X12_pipes_L4]
      by_cases c : W (627 + 6 * n) = 1 ∧ W (480 + pcN W n) = 0 ∧ W (625 + 6 * n) < W (192 + pcN W n)
      · have ev := wn_val hO hn c
        simp (disch := omega) [gI, gR, pI, pR, aI, sI, aL, sL, aO, aR, sR, aN, onul, bnd, isC, cpI, cpL, sLen, sCh, nwC, zK_wI, zR_wI, zL_wI, zN_wI, zI_wI, zK_wL, zR_wL, zI_wL, zN_wL, zL_wL, zK_wR, zI_wR, zL_wR, zN_wR, zR_wR, ups_eq, inb_nI, nI_clamp, wI_wI, nI_add, pk_mul, add_c, c_add, c_mul, lt_c, le_c, eq_c, gt_c, ge_c, inb_c, clamp_c, ladd, mk_92, mk_93, mk_94, mk_95, mk_96, mk_97, mk_98, mk_99, mk_100, mk_101, mk_102, mk_103, mk_104, mk_105, mk_106, mk_107, mk_108, mk_109, mk_110, mk_111, mk_112, mk_113, mk_114, mr_92_1, mr_92_2, mr_92_3, mr_92_4, mr_92_5, mr_92_7, mr_92_15, mr_92_16, mr_92_17, mr_92_24, mr_92_25, mr_92_26, mr_92_27, mr_92_28, mr_92_29, mr_92_30, mr_92_32, mr_92_33, mr_92_36, mr_92_37, mr_92_38, mr_92_39, Mx, e2, ec, e3, e4, e5, ew, ed, nI_ltI, hn, c, bI, m_X12_pipes_B213, m_X12_pipes_B150, m_X12_pipes_B133, m_X12_pipes_B83, m_X12_pipes_B82, ev, el, es]
      · have e0 : wnN W n = 0 := by unfold wnN; rw [if_neg c]
        have es0 : lN (sN (wnN W) (n + 1)) = lN (sN (wnN W) n) := by
          rw [← es, e0]; exact Int64.add_zero _
        rw [e0, es0, show nI 0 = 0 from rfl]
        by_cases c1 : W (627 + 6 * n) = 1
        · rcases ok_dug hO _ hc.2 with c2 | c2
          · have c3 : ¬ W (625 + 6 * n) < W (192 + pcN W n) := fun g => c ⟨c1, c2, g⟩
            simp (disch := omega) [gI, gR, pI, pR, aI, sI, aL, sL, aO, aR, sR, aN, onul, bnd, isC, cpI, cpL, sLen, sCh, nwC, zK_wI, zR_wI, zL_wI, zN_wI, zI_wI, zK_wL, zR_wL, zI_wL, zN_wL, zL_wL, zK_wR, zI_wR, zL_wR, zN_wR, zR_wR, ups_eq, inb_nI, nI_clamp, wI_wI, nI_add, pk_mul, add_c, c_add, c_mul, lt_c, le_c, eq_c, gt_c, ge_c, inb_c, clamp_c, ladd, mk_92, mk_93, mk_94, mk_95, mk_96, mk_97, mk_98, mk_99, mk_100, mk_101, mk_102, mk_103, mk_104, mk_105, mk_106, mk_107, mk_108, mk_109, mk_110, mk_111, mk_112, mk_113, mk_114, mr_92_1, mr_92_2, mr_92_3, mr_92_4, mr_92_5, mr_92_7, mr_92_15, mr_92_16, mr_92_17, mr_92_24, mr_92_25, mr_92_26, mr_92_27, mr_92_28, mr_92_29, mr_92_30, mr_92_32, mr_92_33, mr_92_36, mr_92_37, mr_92_38, mr_92_39, Mx, e2, ec, e3, e4, e5, ew, ed, nI_ltI, hn, c1, c2, c3, bI, m_X12_pipes_B213, m_X12_pipes_B150, m_X12_pipes_B133, m_X12_pipes_B83, m_X12_pipes_B82, show Int32.toInt64 0 = 0 by decide, Int64.add_zero]
          · simp (disch := omega) [gI, gR, pI, pR, aI, sI, aL, sL, aO, aR, sR, aN, onul, bnd, isC, cpI, cpL, sLen, sCh, nwC, zK_wI, zR_wI, zL_wI, zN_wI, zI_wI, zK_wL, zR_wL, zI_wL, zN_wL, zL_wL, zK_wR, zI_wR, zL_wR, zN_wR, zR_wR, ups_eq, inb_nI, nI_clamp, wI_wI, nI_add, pk_mul, add_c, c_add, c_mul, lt_c, le_c, eq_c, gt_c, ge_c, inb_c, clamp_c, ladd, mk_92, mk_93, mk_94, mk_95, mk_96, mk_97, mk_98, mk_99, mk_100, mk_101, mk_102, mk_103, mk_104, mk_105, mk_106, mk_107, mk_108, mk_109, mk_110, mk_111, mk_112, mk_113, mk_114, mr_92_1, mr_92_2, mr_92_3, mr_92_4, mr_92_5, mr_92_7, mr_92_15, mr_92_16, mr_92_17, mr_92_24, mr_92_25, mr_92_26, mr_92_27, mr_92_28, mr_92_29, mr_92_30, mr_92_32, mr_92_33, mr_92_36, mr_92_37, mr_92_38, mr_92_39, Mx, e2, ec, e3, e4, e5, ew, ed, nI_ltI, hn, c1, c2, bI, m_X12_pipes_B213, m_X12_pipes_B150, m_X12_pipes_B133, m_X12_pipes_B83, m_X12_pipes_B82, show Int32.toInt64 0 = 0 by decide, Int64.add_zero]
        · simp (disch := omega) [gI, gR, pI, pR, aI, sI, aL, sL, aO, aR, sR, aN, onul, bnd, isC, cpI, cpL, sLen, sCh, nwC, zK_wI, zR_wI, zL_wI, zN_wI, zI_wI, zK_wL, zR_wL, zI_wL, zN_wL, zL_wL, zK_wR, zI_wR, zL_wR, zN_wR, zR_wR, ups_eq, inb_nI, nI_clamp, wI_wI, nI_add, pk_mul, add_c, c_add, c_mul, lt_c, le_c, eq_c, gt_c, ge_c, inb_c, clamp_c, ladd, mk_92, mk_93, mk_94, mk_95, mk_96, mk_97, mk_98, mk_99, mk_100, mk_101, mk_102, mk_103, mk_104, mk_105, mk_106, mk_107, mk_108, mk_109, mk_110, mk_111, mk_112, mk_113, mk_114, mr_92_1, mr_92_2, mr_92_3, mr_92_4, mr_92_5, mr_92_7, mr_92_15, mr_92_16, mr_92_17, mr_92_24, mr_92_25, mr_92_26, mr_92_27, mr_92_28, mr_92_29, mr_92_30, mr_92_32, mr_92_33, mr_92_36, mr_92_37, mr_92_38, mr_92_39, Mx, e2, ec, e3, e4, e5, ew, ed, nI_ltI, hn, c1, bI, m_X12_pipes_B213, m_X12_pipes_B150, m_X12_pipes_B133, m_X12_pipes_B83, m_X12_pipes_B82, show Int32.toInt64 0 = 0 by decide, Int64.add_zero]
  case he =>
    rintro f ⟨w, v, x⟩ ⟨h0, h1, h2, h3⟩
    dsimp only at h0 h1 h2 h3 ⊢
    subst h0 h1
    have Mx := hM.fi h2
    have e2 : zI x 93 2 = nI (nPW W) := by rw [h2.2.2.2.2 93 (by decide), hV 2 (by decide) (by decide)]; exact np_eq hO
    refine ⟨x, ?_, h2, h3⟩
    rw [m_X12_pipes_L4]
    simp (disch := omega) [gI, gR, pI, pR, aI, sI, aL, sL, aO, aR, sR, aN, onul, bnd, isC, cpI, cpL, sLen, sCh, nwC, zK_wI, zR_wI, zL_wI, zN_wI, zI_wI, zK_wL, zR_wL, zI_wL, zN_wL, zL_wL, zK_wR, zI_wR, zL_wR, zN_wR, zR_wR, ups_eq, inb_nI, nI_clamp, wI_wI, nI_add, pk_mul, add_c, c_add, c_mul, lt_c, le_c, eq_c, gt_c, ge_c, inb_c, clamp_c, ladd, mk_92, mk_93, mk_94, mk_95, mk_96, mk_97, mk_98, mk_99, mk_100, mk_101, mk_102, mk_103, mk_104, mk_105, mk_106, mk_107, mk_108, mk_109, mk_110, mk_111, mk_112, mk_113, mk_114, mr_92_1, mr_92_2, mr_92_3, mr_92_4, mr_92_5, mr_92_7, mr_92_15, mr_92_16, mr_92_17, mr_92_24, mr_92_25, mr_92_26, mr_92_27, mr_92_28, mr_92_29, mr_92_30, mr_92_32, mr_92_33, mr_92_36, mr_92_37, mr_92_38, mr_92_39, Mx, e2, nI_ltI]
/-- what it takes -/
def tkN (W : Nat → Int32) (p : Nat) : Nat := if nn (W 6) < sN (wnN W) (nPW W) then wnN W p * nn (W 6) / sN (wnN W) (nPW W) else wnN W p
theorem lN_div {a d : Nat} (ha : a < 2 ^ 31) (h0 : 0 < d) (hd : d < 2 ^ 31) : lN a / lN d = lN (a / d) := by
  apply Int64.toInt_inj.mp
  have h1 : a / d ≤ a := Nat.div_le_self _ _
  rw [Int64.toInt_div, lN_toInt ha, lN_toInt hd, lN_toInt (by omega), ← Int.ofNat_tdiv]
  generalize a / d = k at h1 ⊢
  exact Int.bmod_eq_of_le (by omega) (by omega)
