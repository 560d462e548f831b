/-! ===== rows of numbers: row, write, paste ===== -/
theorem lt4 (x : Int32) : x < 4 ↔ x < nI 4 := Iff.rfl
/-- slots change, and what counts for nothing -/
theorem In.re4 {z y : Hp} {s d : Nat} (h : In z s d) (hk : zK y = zK z) (hr : zR y = zR z) (hn : zN y = zN z) (e : ∀ a, a ≠ 89 → a ≠ 90 → a ≠ 111 → a ≠ 112 → zI y a = zI z a) (hS : Sl y) : In y s d := by
  refine h.re2 hk hr hn (fun a ha => e a (by omega) (by omega) (by omega) (by omega)) ?_ ?_ hS
  · exact (in_Tp h).of (by rw [e 92 (by omega) (by omega) (by omega) (by omega)]) (by rw [e 66 (by omega) (by omega) (by omega) (by omega)]) (e 67 (by omega) (by omega) (by omega) (by omega)) (e 97 (by omega) (by omega) (by omega) (by omega))
  · have q := e 92 (by omega) (by omega) (by omega) (by omega)
    exact (in_Fd h).of (e 0 (by omega) (by omega) (by omega) (by omega)) (by rw [q]) (by rw [q]) (by rw [q]) (by rw [q]) (e 91 (by omega) (by omega) (by omega) (by omega)) (e 110 (by omega) (by omega) (by omega) (by omega))
theorem rowM_L {z : Hp} {k : Nat} (hM : LayM z) (hk : k < 4) : m_X12_row_L52 FU 92 (nI k) 0 z = some (0, wL z 113 (fun i => if 60 * k ≤ i ∧ i < 60 * k + 60 then 0 else zL z 113 i)) := by
  refine loopQ (X := Int32 × Hp) (fun f x => m_X12_row_L52 f 92 (nI k) x.1 x.2) (fun t => t = some (0, wL z 113 (fun i => if 60 * k ≤ i ∧ i < 60 * k + 60 then 0 else zL z 113 i))) (fun n x => x.1 = nI n ∧ x.2 = wL z 113 (fun i => if 60 * k ≤ i ∧ i < 60 * k + n then 0 else zL z 113 i)) 60 ?hs ?he 0 FU (0, z) (by decide) (by decide) ⟨rfl, ?h0⟩
  case h0 =>
    refine (wL_self z 113).symm.trans (congrArg (wL z 113) (funext fun i => ?_))
    rw [if_neg (by omega)]
  case hs =>
    rintro n f ⟨v, y⟩ hn ⟨h1, h2⟩
    dsimp only at h1 h2
    subst h1 h2
    refine Or.inl ⟨(nI (n + 1), wL z 113 (fun i => if 60 * k ≤ i ∧ i < 60 * k + (n + 1) then 0 else zL z 113 i)), ⟨rfl, rfl⟩, ?_⟩
    dsimp only
    rw [m_X12_row_L52]
    simp (disch := omega) [gI, gR, pI, pR, aI, sI, aL, sL, aO, aR, sR, aN, onul, bnd, isC, cpI, cpL, sLen, sCh, nwC, zK_wI, zR_wI, zL_wI, zN_wI, zI_wI, zK_wL, zR_wL, zI_wL, zN_wL, zL_wL, zK_wR, zI_wR, zL_wR, zN_wR, zR_wR, ups_eq, inb_nI, nI_clamp, wI_wI, nI_add, pk_mul, add_c, c_add, c_mul, lt_c, le_c, eq_c, gt_c, ge_c, inb_c, clamp_c, ladd, mk_92, mk_93, mk_94, mk_95, mk_96, mk_97, mk_98, mk_99, mk_100, mk_101, mk_102, mk_103, mk_104, mk_105, mk_106, mk_107, mk_108, mk_109, mk_110, mk_111, mk_112, mk_113, mk_114, mr_92_1, mr_92_2, mr_92_3, mr_92_4, mr_92_5, mr_92_7, mr_92_15, mr_92_16, mr_92_17, mr_92_24, mr_92_25, mr_92_26, mr_92_27, mr_92_28, mr_92_29, mr_92_30, mr_92_32, mr_92_33, mr_92_36, mr_92_37, mr_92_38, mr_92_39, hM, hn, wL_wL]
    refine congrArg (fun q => m_X12_row_L52 f 92 (nI k) (nI (n + 1)) (wL z 113 q)) (funext fun i => ?_)
    simp only [ups_eq]
    grind
  case he =>
    rintro f ⟨v, y⟩ ⟨h1, h2⟩
    dsimp only at h1 h2 ⊢
    subst h1 h2
    rw [m_X12_row_L52]
    simp (disch := omega) [gI, gR, pI, pR, aI, sI, aL, sL, aO, aR, sR, aN, onul, bnd, isC, cpI, cpL, sLen, sCh, nwC, zK_wI, zR_wI, zL_wI, zN_wI, zI_wI, zK_wL, zR_wL, zI_wL, zN_wL, zL_wL, zK_wR, zI_wR, zL_wR, zN_wR, zR_wR, ups_eq, inb_nI, nI_clamp, wI_wI, nI_add, pk_mul, add_c, c_add, c_mul, lt_c, le_c, eq_c, gt_c, ge_c, inb_c, clamp_c, ladd, mk_92, mk_93, mk_94, mk_95, mk_96, mk_97, mk_98, mk_99, mk_100, mk_101, mk_102, mk_103, mk_104, mk_105, mk_106, mk_107, mk_108, mk_109, mk_110, mk_111, mk_112, mk_113, mk_114, mr_92_1, mr_92_2, mr_92_3, mr_92_4, mr_92_5, mr_92_7, mr_92_15, mr_92_16, mr_92_17, mr_92_24, mr_92_25, mr_92_26, mr_92_27, mr_92_28, mr_92_29, mr_92_30, mr_92_32, mr_92_33, mr_92_36, mr_92_37, mr_92_38, mr_92_39, hM]
theorem op_row (a w n : Int32) : Op (m_X11_row 0 a w n) (m_X12_row 92 a w n) := by
  intro z s d h
  have hS := in_S h; have hR := in_R h; have hO := in_ok h; have hM := in_M h; have hC := in_C h; have hN := in_now h
  have hs := in_lo h
  unfold m_X11_row m_X12_row
  have e3 : ∀ y : Hp, m_X12_in w.toInt64 0 3 y = some (if ¬ w < 0 ∧ w < 4 then 1 else 0, y) := fun y => by
    rw [in_lit _ 0 3 (by decide) (by decide)]
    have e : (0 ≤ w ∧ w ≤ 3) ↔ (¬ w < 0 ∧ w < 4) := by
      rw [Int32.not_lt, show (4 : Int32) = nI (3 + 1) from rfl, lt_sI (by decide)]
      exact Iff.rfl
    simp only [show ((0 : Int32) ≤ w ∧ w ≤ 3) ↔ (¬ w < 0 ∧ w < 4) from e]
  simp only [isSlot_ok, e3, bnd_some]
  by_cases ha : ¬ a < 0 ∧ a < 4
  · by_cases hw : ¬ w < 0 ∧ w < 4
    · by_cases hn1 : 60 < n
      · refine ⟨-2, z, z, s, d, ?_, by rw [mk_92 hM], ?_, h⟩ <;> simp [ha, hw, hn1]
      · by_cases hn0 : n < 0
        · refine ⟨-3, z, z, s, d, ?_, by rw [mk_92 hM], ?_, h⟩ <;> simp [ha, hw, hn1, hn0]
        · obtain ⟨k, rfl, hk⟩ := ofN (n := 4) (by decide) ha.1 ha.2
          obtain ⟨u, rfl, hu⟩ := ofN (n := 4) (by decide) hw.1 hw.2
          obtain ⟨m, rfl, hm⟩ := ofN (n := 61) (by decide) hn0 ((lt_sI (n := 60) (by decide) n).mpr (Int32.not_lt.mp hn1))
          obtain ⟨y, hy⟩ : ∃ y, y = wL (wI (wI z 89 (ups (zI z 89) k (nI u))) 90 (ups (zI z 90) k (nI m))) (85 + k) (fun i => if i < 60 then 0 else zL z (85 + k) i) := ⟨_, rfl⟩
          have yK : zK y = zK z := by rw [hy]; rfl
          have yR : zR y = zR z := by rw [hy]; rfl
          have hMy : LayM y := hM.of yK yR
          obtain ⟨x1, hx1⟩ : ∃ x, x = wI (wI y 111 (ups (zI z 111) k (nI m))) 112 (ups (zI z 112) k (nI u)) := ⟨_, rfl⟩
          have hMx : LayM x1 := hMy.of (by rw [hx1]; rfl) (by rw [hx1]; rfl)
          obtain ⟨x, hx⟩ : ∃ x, x = wL x1 113 (fun i => if 60 * k ≤ i ∧ i < 60 * k + 60 then 0 else zL x1 113 i) := ⟨_, rfl⟩
          have y111 : zI y 111 = zI z 111 := by rw [hy]; rfl
          have y112 : zI y 112 = zI z 112 := by rw [hy]; rfl
          refine ⟨0, y, x, s, d, ?_, by rw [mk_92 hMy], ?_, ?_⟩
          · rw [if_neg ha.1, if_pos ha.2, if_neg hw.1, if_pos hw.2, if_neg hn1, if_neg hn0]
            unfold m_X6_lay
            have f1 := fillL_ok (z := wI (wI z 89 (ups (zI z 89) k (nI u))) 90 (ups (zI z 90) k (nI m))) (a := 85 + k) (n := 60) 0 (ck85 hC hk) (by decide)
            simp (disch := omega) [gI, gR, pI, pR, aI, sI, aL, sL, aO, aR, sR, aN, onul, bnd, isC, cpI, cpL, sLen, sCh, nwC, zK_wI, zR_wI, zL_wI, zN_wI, zI_wI, zK_wL, zR_wL, zI_wL, zN_wL, zL_wL, zK_wR, zI_wR, zL_wR, zN_wR, zR_wR, ups_eq, inb_nI, nI_clamp, wI_wI, nI_add, pk_mul, add_c, c_add, c_mul, lt_c, le_c, eq_c, gt_c, ge_c, inb_c, clamp_c, ladd, mk_92, mk_93, mk_94, mk_95, mk_96, mk_97, mk_98, mk_99, mk_100, mk_101, mk_102, mk_103, mk_104, mk_105, mk_106, mk_107, mk_108, mk_109, mk_110, mk_111, mk_112, mk_113, mk_114, mr_92_1, mr_92_2, mr_92_3, mr_92_4, mr_92_5, mr_92_7, mr_92_15, mr_92_16, mr_92_17, mr_92_24, mr_92_25, mr_92_26, mr_92_27, mr_92_28, mr_92_29, mr_92_30, mr_92_32, mr_92_33, mr_92_36, mr_92_37, mr_92_38, mr_92_39, ck_0, ck_65, ck_66, ck_67, ck_68, ck_69, ck_70, ck_71, ck_72, ck_73, ck_74, ck_75, ck_76, ck_77, ck_78, ck_79, ck_80, ck_81, ck_82, ck_83, ck_84, ck_85, ck_86, ck_87, ck_88, ck_89, ck_90, ck_91, cr_0_2, cr_0_3, cr_0_4, cr_0_5, cr_0_6, cr_0_7, cr_0_8, cr_66_0, cr_68_0, cr_68_1, cr_70_0, cr_70_1, cr_70_2, cr_74_0, cr_74_1, cr_74_2, cr_74_7, cr_74_8, cr_74_9, cr_83_0, cr_83_1, cr_83_2, cr_84_0, cr_84_1, cr_84_2, cr_84_3, sk_0, sk_1, sk_2, sk_3, sk_4, sk_5, sk_6, sk_7, sk_8, sk_9, sk_10, sk_11, sk_12, sk_13, sk_14, sk_15, sk_16, sk_17, sk_18, sk_19, sk_20, sk_21, sk_22, sk_23, sk_24, sk_25, sk_26, sk_27, sk_28, sk_29, sk_30, sk_31, sr_0_0, sr_0_1, sr_0_2, sr_0_3, sr_0_4, sr_0_5, sr_0_6, sr_0_7, sr_0_8, sr_0_9, sr_1_0, sr_1_1, sr_1_2, sr_1_3, sr_1_4, sr_1_5, sr_8_0, sr_8_1, sr_8_2, sr_8_3, sr_8_4, sr_8_5, sr_15_0, sr_15_1, sr_15_2, sr_19_0, sr_19_1, sr_19_2, sr_19_3, sr_24_0, sr_24_1, rs_lead hR, rs_ilead hR, rs_latent hR, rs_mark hR, rs_ground hR, rs_far hR, rs_pn hR, rs_p0 hR, rs_p1 hR, rs_p2 hR, rs_p3 hR, rs_p4 hR, rs_p5 hR, rs_hn hR, rs_h0 hR, rs_h1 hR, rs_h2 hR, rs_rn hR, rs_rc hR, rs_gc hR, rs_warm hR, rs_ice hR, rs_dug hR, rs_shaft hR, rs_sums hR, rs_sc hR, rs_dc hR, rs_cold hR, rs_lines hR, rs_ticks hR, rs_fl hR, rs_fls hR, hM, hS, hC, hN, cr84 hC hk, f1, hy]
          · have f2 := rowM_L (z := x1) hMx hk
            simp only [if_pos ha, if_pos hw, show ((1 : Int32) = 0) = False by simp, if_false, if_neg hn1, if_neg hn0]
            simp (disch := omega) [gI, gR, pI, pR, aI, sI, aL, sL, aO, aR, sR, aN, onul, bnd, isC, cpI, cpL, sLen, sCh, nwC, zK_wI, zR_wI, zL_wI, zN_wI, zI_wI, zK_wL, zR_wL, zI_wL, zN_wL, zL_wL, zK_wR, zI_wR, zL_wR, zN_wR, zR_wR, ups_eq, inb_nI, nI_clamp, wI_wI, nI_add, pk_mul, add_c, c_add, c_mul, lt_c, le_c, eq_c, gt_c, ge_c, inb_c, clamp_c, ladd, mk_92, mk_93, mk_94, mk_95, mk_96, mk_97, mk_98, mk_99, mk_100, mk_101, mk_102, mk_103, mk_104, mk_105, mk_106, mk_107, mk_108, mk_109, mk_110, mk_111, mk_112, mk_113, mk_114, mr_92_1, mr_92_2, mr_92_3, mr_92_4, mr_92_5, mr_92_7, mr_92_15, mr_92_16, mr_92_17, mr_92_24, mr_92_25, mr_92_26, mr_92_27, mr_92_28, mr_92_29, mr_92_30, mr_92_32, mr_92_33, mr_92_36, mr_92_37, mr_92_38, mr_92_39, hMy, y111, y112]
            rw [← hx1, f2, hx]
          · have xL : ∀ a, a ≠ 113 → a ≠ 85 + k → zL x a = zL z a := fun a q1 q2 => by rw [hx, zL_ne q1, hx1, zL_wI, zL_wI, hy, zL_ne q2, zL_wI, zL_wI]
            have x113 : zL x 113 = fun i => if 60 * k ≤ i ∧ i < 60 * k + 60 then 0 else zL z 113 i := by
              rw [hx, zL_eq, hx1, zL_wI, zL_wI, hy, zL_ne (by omega), zL_wI, zL_wI]
            have x85 : zL x (85 + k) = fun i => if i < 60 then 0 else zL z (85 + k) i := by
              rw [hx, zL_ne (by omega), hx1, zL_wI, zL_wI, hy, zL_eq]
            have xI : ∀ a, a ≠ 89 → a ≠ 90 → a ≠ 111 → a ≠ 112 → zI x a = zI z a := fun a q1 q2 q3 q4 => by
              rw [hx, zI_wL, hx1, zI_ne q4, zI_ne q3, hy, zI_wL, zI_ne q2, zI_ne q1]
            have x111 : zI x 111 = ups (zI z 111) k (nI m) := by rw [hx, zI_wL, hx1, zI_ne (by decide), zI_eq]
            have x112 : zI x 112 = ups (zI z 112) k (nI u) := by rw [hx, zI_wL, hx1, zI_eq]
            have x89 : zI x 89 = ups (zI z 89) k (nI u) := by rw [hx, zI_wL, hx1, zI_ne (by decide), zI_ne (by decide), hy, zI_wL, zI_ne (by decide), zI_eq]
            have x90 : zI x 90 = ups (zI z 90) k (nI m) := by rw [hx, zI_wL, hx1, zI_ne (by decide), zI_ne (by decide), hy, zI_wL, zI_eq]
            refine In.re4 h (by rw [hx, hx1]; exact yK) (by rw [hx, hx1]; exact yR) (by rw [hx, hx1, hy]; rfl) xI ⟨?_, ?_, ?_, ?_, ?_⟩
            · intro j hj
              rw [x111]
              simp only [ups_eq]
              split
              · exact Or.inr (isN.mk hm (by decide))
              · exact in_sn h j hj
            · intro j hj
              rw [x111, x90]
              simp only [ups_eq, in_sl h j hj]
            · intro j hj
              rw [x112]
              simp only [ups_eq]
              split
              · exact isN.mk hu (by decide)
              · exact in_sw h j hj
            · intro j hj
              rw [x111, x112, x89]
              simp only [ups_eq]
              by_cases c : j = k
              · rw [if_pos c, if_pos c, if_pos c]; exact Or.inr rfl
              · rw [if_neg c, if_neg c, if_neg c]; exact in_sv h j hj
            · intro j i hj hi
              rw [x113]
              by_cases c : j = k
              · rw [c, x85]
                simp [hi]
              · rw [xL (85 + j) (by omega) (by omega)]
                dsimp only
                rw [if_neg (by omega)]
                exact in_nu h j i hj hi
    · refine ⟨-2, z, z, s, d, ?_, by rw [mk_92 hM], ?_, h⟩
      · by_cases q : w < 0
        · simp [ha, q]
        · have q2 : ¬ w < 4 := fun g => hw ⟨q, g⟩
          simp [ha, q, q2]
      · simp only [if_pos ha, if_neg hw, show ((1 : Int32) = 0) = False by simp, if_false, if_true]
  · refine ⟨-2, z, z, s, d, ?_, by rw [mk_92 hM], ?_, h⟩
    · by_cases q : a < 0
      · simp [q]
      · have q2 : ¬ a < 4 := fun g => ha ⟨q, g⟩
        simp [q, q2]
    · simp only [if_neg ha, if_true]
theorem op_write (a i : Int32) (w : Int64) : Op (m_X11_write 0 a i w) (m_X12_write 92 a i w) := by
  intro z s d h
  have hS := in_S h; have hR := in_R h; have hO := in_ok h; have hM := in_M h; have hC := in_C h; have hN := in_now h
  have hs := in_lo h
  unfold m_X11_write m_X12_write
  simp only [isSlot_ok, bnd_some]
  by_cases ha : ¬ a < 0 ∧ a < 4
  · obtain ⟨k, rfl, hk⟩ := ofN (n := 4) (by decide) ha.1 ha.2
    rcases in_sn h k hk with c | c
    · refine ⟨-6, z, z, s, d, ?_, by rw [mk_92 hM], ?_, h⟩
      · rw [if_neg ha.1, if_pos ha.2]
        simp (disch := omega) [gI, gR, pI, pR, aI, sI, aL, sL, aO, aR, sR, aN, onul, bnd, isC, cpI, cpL, sLen, sCh, nwC, zK_wI, zR_wI, zL_wI, zN_wI, zI_wI, zK_wL, zR_wL, zI_wL, zN_wL, zL_wL, zK_wR, zI_wR, zL_wR, zN_wR, zR_wR, ups_eq, inb_nI, nI_clamp, wI_wI, nI_add, pk_mul, add_c, c_add, c_mul, lt_c, le_c, eq_c, gt_c, ge_c, inb_c, clamp_c, ladd, mk_92, mk_93, mk_94, mk_95, mk_96, mk_97, mk_98, mk_99, mk_100, mk_101, mk_102, mk_103, mk_104, mk_105, mk_106, mk_107, mk_108, mk_109, mk_110, mk_111, mk_112, mk_113, mk_114, mr_92_1, mr_92_2, mr_92_3, mr_92_4, mr_92_5, mr_92_7, mr_92_15, mr_92_16, mr_92_17, mr_92_24, mr_92_25, mr_92_26, mr_92_27, mr_92_28, mr_92_29, mr_92_30, mr_92_32, mr_92_33, mr_92_36, mr_92_37, mr_92_38, mr_92_39, ck_0, ck_65, ck_66, ck_67, ck_68, ck_69, ck_70, ck_71, ck_72, ck_73, ck_74, ck_75, ck_76, ck_77, ck_78, ck_79, ck_80, ck_81, ck_82, ck_83, ck_84, ck_85, ck_86, ck_87, ck_88, ck_89, ck_90, ck_91, cr_0_2, cr_0_3, cr_0_4, cr_0_5, cr_0_6, cr_0_7, cr_0_8, cr_66_0, cr_68_0, cr_68_1, cr_70_0, cr_70_1, cr_70_2, cr_74_0, cr_74_1, cr_74_2, cr_74_7, cr_74_8, cr_74_9, cr_83_0, cr_83_1, cr_83_2, cr_84_0, cr_84_1, cr_84_2, cr_84_3, sk_0, sk_1, sk_2, sk_3, sk_4, sk_5, sk_6, sk_7, sk_8, sk_9, sk_10, sk_11, sk_12, sk_13, sk_14, sk_15, sk_16, sk_17, sk_18, sk_19, sk_20, sk_21, sk_22, sk_23, sk_24, sk_25, sk_26, sk_27, sk_28, sk_29, sk_30, sk_31, sr_0_0, sr_0_1, sr_0_2, sr_0_3, sr_0_4, sr_0_5, sr_0_6, sr_0_7, sr_0_8, sr_0_9, sr_1_0, sr_1_1, sr_1_2, sr_1_3, sr_1_4, sr_1_5, sr_8_0, sr_8_1, sr_8_2, sr_8_3, sr_8_4, sr_8_5, sr_15_0, sr_15_1, sr_15_2, sr_19_0, sr_19_1, sr_19_2, sr_19_3, sr_24_0, sr_24_1, rs_lead hR, rs_ilead hR, rs_latent hR, rs_mark hR, rs_ground hR, rs_far hR, rs_pn hR, rs_p0 hR, rs_p1 hR, rs_p2 hR, rs_p3 hR, rs_p4 hR, rs_p5 hR, rs_hn hR, rs_h0 hR, rs_h1 hR, rs_h2 hR, rs_rn hR, rs_rc hR, rs_gc hR, rs_warm hR, rs_ice hR, rs_dug hR, rs_shaft hR, rs_sums hR, rs_sc hR, rs_dc hR, rs_cold hR, rs_lines hR, rs_ticks hR, rs_fl hR, rs_fls hR, hM, hS, hC, hN, m_X6_hasRow, in_sl h, c]
      · simp only [if_pos ha]
        simp (disch := omega) [gI, gR, pI, pR, aI, sI, aL, sL, aO, aR, sR, aN, onul, bnd, isC, cpI, cpL, sLen, sCh, nwC, zK_wI, zR_wI, zL_wI, zN_wI, zI_wI, zK_wL, zR_wL, zI_wL, zN_wL, zL_wL, zK_wR, zI_wR, zL_wR, zN_wR, zR_wR, ups_eq, inb_nI, nI_clamp, wI_wI, nI_add, pk_mul, add_c, c_add, c_mul, lt_c, le_c, eq_c, gt_c, ge_c, inb_c, clamp_c, ladd, mk_92, mk_93, mk_94, mk_95, mk_96, mk_97, mk_98, mk_99, mk_100, mk_101, mk_102, mk_103, mk_104, mk_105, mk_106, mk_107, mk_108, mk_109, mk_110, mk_111, mk_112, mk_113, mk_114, mr_92_1, mr_92_2, mr_92_3, mr_92_4, mr_92_5, mr_92_7, mr_92_15, mr_92_16, mr_92_17, mr_92_24, mr_92_25, mr_92_26, mr_92_27, mr_92_28, mr_92_29, mr_92_30, mr_92_32, mr_92_33, mr_92_36, mr_92_37, mr_92_38, mr_92_39, ck_0, ck_65, ck_66, ck_67, ck_68, ck_69, ck_70, ck_71, ck_72, ck_73, ck_74, ck_75, ck_76, ck_77, ck_78, ck_79, ck_80, ck_81, ck_82, ck_83, ck_84, ck_85, ck_86, ck_87, ck_88, ck_89, ck_90, ck_91, cr_0_2, cr_0_3, cr_0_4, cr_0_5, cr_0_6, cr_0_7, cr_0_8, cr_66_0, cr_68_0, cr_68_1, cr_70_0, cr_70_1, cr_70_2, cr_74_0, cr_74_1, cr_74_2, cr_74_7, cr_74_8, cr_74_9, cr_83_0, cr_83_1, cr_83_2, cr_84_0, cr_84_1, cr_84_2, cr_84_3, sk_0, sk_1, sk_2, sk_3, sk_4, sk_5, sk_6, sk_7, sk_8, sk_9, sk_10, sk_11, sk_12, sk_13, sk_14, sk_15, sk_16, sk_17, sk_18, sk_19, sk_20, sk_21, sk_22, sk_23, sk_24, sk_25, sk_26, sk_27, sk_28, sk_29, sk_30, sk_31, sr_0_0, sr_0_1, sr_0_2, sr_0_3, sr_0_4, sr_0_5, sr_0_6, sr_0_7, sr_0_8, sr_0_9, sr_1_0, sr_1_1, sr_1_2, sr_1_3, sr_1_4, sr_1_5, sr_8_0, sr_8_1, sr_8_2, sr_8_3, sr_8_4, sr_8_5, sr_15_0, sr_15_1, sr_15_2, sr_19_0, sr_19_1, sr_19_2, sr_19_3, sr_24_0, sr_24_1, rs_lead hR, rs_ilead hR, rs_latent hR, rs_mark hR, rs_ground hR, rs_far hR, rs_pn hR, rs_p0 hR, rs_p1 hR, rs_p2 hR, rs_p3 hR, rs_p4 hR, rs_p5 hR, rs_hn hR, rs_h0 hR, rs_h1 hR, rs_h2 hR, rs_rn hR, rs_rc hR, rs_gc hR, rs_warm hR, rs_ice hR, rs_dug hR, rs_shaft hR, rs_sums hR, rs_sc hR, rs_dc hR, rs_cold hR, rs_lines hR, rs_ticks hR, rs_fl hR, rs_fls hR, hM, hS, hC, hN, c]
    · have c2 := c.2
      obtain ⟨L, hL, eL⟩ : ∃ L, L < 61 ∧ zI z 111 k = nI L := ⟨_, c2, c.1⟩
      have n1 : ¬ nI L = -1 := nI_ne_m1 (by omega)
      have e1 : ∀ y : Hp, m_X12_in i.toInt64 0 (nI L - 1).toInt64 y = some (if ¬ i < 0 ∧ i < nI L then 1 else 0, y) := fun y => in_m1 i (by omega) y
      have sv : zI z 89 k = zI z 112 k := (in_sv h k hk).resolve_left (by rw [eL]; exact n1)
      by_cases hi : ¬ i < 0 ∧ i < nI L
      · obtain ⟨m, rfl, hm⟩ := ofN (n := L) (by omega) hi.1 hi.2
        have w0 := in_sw h k hk
        obtain ⟨u, hu, eu⟩ : ∃ u, u < 4 ∧ zI z 112 k = nI u := ⟨_, w0.2, w0.1⟩
        obtain ⟨r, g1, _⟩ := cut_same w hu z z
        obtain ⟨y, hy⟩ : ∃ y, y = wL z (85 + k) (ups (zL z (85 + k)) m r) := ⟨_, rfl⟩
        have g2 : m_X12_cut w (nI u) y = some (r, y) := by
          obtain ⟨r2, q1, q2⟩ := cut_same w hu z y
          rw [g1] at q1
          cases q1
          exact q2
        have hMy : LayM y := hM.of (by rw [hy]; rfl) (by rw [hy]; rfl)
        obtain ⟨x, hx⟩ : ∃ x, x = wL y 113 (ups (zL z 113) (60 * k + m) r) := ⟨_, rfl⟩
        have y113 : zL y 113 = zL z 113 := by rw [hy, zL_ne (by omega)]
        have yI : zI y = zI z := by rw [hy]; rfl
        refine ⟨0, y, x, s, d, ?_, by rw [mk_92 hMy], ?_, ?_⟩
        · rw [if_neg ha.1, if_pos ha.2]
          have k85 := ck85 hC hk
          simp (disch := omega) [gI, gR, pI, pR, aI, sI, aL, sL, aO, aR, sR, aN, onul, bnd, isC, cpI, cpL, sLen, sCh, nwC, zK_wI, zR_wI, zL_wI, zN_wI, zI_wI, zK_wL, zR_wL, zI_wL, zN_wL, zL_wL, zK_wR, zI_wR, zL_wR, zN_wR, zR_wR, ups_eq, inb_nI, nI_clamp, wI_wI, nI_add, pk_mul, add_c, c_add, c_mul, lt_c, le_c, eq_c, gt_c, ge_c, inb_c, clamp_c, ladd, mk_92, mk_93, mk_94, mk_95, mk_96, mk_97, mk_98, mk_99, mk_100, mk_101, mk_102, mk_103, mk_104, mk_105, mk_106, mk_107, mk_108, mk_109, mk_110, mk_111, mk_112, mk_113, mk_114, mr_92_1, mr_92_2, mr_92_3, mr_92_4, mr_92_5, mr_92_7, mr_92_15, mr_92_16, mr_92_17, mr_92_24, mr_92_25, mr_92_26, mr_92_27, mr_92_28, mr_92_29, mr_92_30, mr_92_32, mr_92_33, mr_92_36, mr_92_37, mr_92_38, mr_92_39, ck_0, ck_65, ck_66, ck_67, ck_68, ck_69, ck_70, ck_71, ck_72, ck_73, ck_74, ck_75, ck_76, ck_77, ck_78, ck_79, ck_80, ck_81, ck_82, ck_83, ck_84, ck_85, ck_86, ck_87, ck_88, ck_89, ck_90, ck_91, cr_0_2, cr_0_3, cr_0_4, cr_0_5, cr_0_6, cr_0_7, cr_0_8, cr_66_0, cr_68_0, cr_68_1, cr_70_0, cr_70_1, cr_70_2, cr_74_0, cr_74_1, cr_74_2, cr_74_7, cr_74_8, cr_74_9, cr_83_0, cr_83_1, cr_83_2, cr_84_0, cr_84_1, cr_84_2, cr_84_3, sk_0, sk_1, sk_2, sk_3, sk_4, sk_5, sk_6, sk_7, sk_8, sk_9, sk_10, sk_11, sk_12, sk_13, sk_14, sk_15, sk_16, sk_17, sk_18, sk_19, sk_20, sk_21, sk_22, sk_23, sk_24, sk_25, sk_26, sk_27, sk_28, sk_29, sk_30, sk_31, sr_0_0, sr_0_1, sr_0_2, sr_0_3, sr_0_4, sr_0_5, sr_0_6, sr_0_7, sr_0_8, sr_0_9, sr_1_0, sr_1_1, sr_1_2, sr_1_3, sr_1_4, sr_1_5, sr_8_0, sr_8_1, sr_8_2, sr_8_3, sr_8_4, sr_8_5, sr_15_0, sr_15_1, sr_15_2, sr_19_0, sr_19_1, sr_19_2, sr_19_3, sr_24_0, sr_24_1, rs_lead hR, rs_ilead hR, rs_latent hR, rs_mark hR, rs_ground hR, rs_far hR, rs_pn hR, rs_p0 hR, rs_p1 hR, rs_p2 hR, rs_p3 hR, rs_p4 hR, rs_p5 hR, rs_hn hR, rs_h0 hR, rs_h1 hR, rs_h2 hR, rs_rn hR, rs_rc hR, rs_gc hR, rs_warm hR, rs_ice hR, rs_dug hR, rs_shaft hR, rs_sums hR, rs_sc hR, rs_dc hR, rs_cold hR, rs_lines hR, rs_ticks hR, rs_fl hR, rs_fls hR, hM, hS, hC, hN, m_X6_hasRow, m_X6_lengthOf, m_X6_put, in_sl h, sv, eL, n1, hi.1, hi.2, cr84 hC hk, eu, g1, k85, hy]
        · simp only [if_pos ha]
          simp (disch := omega) [gI, gR, pI, pR, aI, sI, aL, sL, aO, aR, sR, aN, onul, bnd, isC, cpI, cpL, sLen, sCh, nwC, zK_wI, zR_wI, zL_wI, zN_wI, zI_wI, zK_wL, zR_wL, zI_wL, zN_wL, zL_wL, zK_wR, zI_wR, zL_wR, zN_wR, zR_wR, ups_eq, inb_nI, nI_clamp, wI_wI, nI_add, pk_mul, add_c, c_add, c_mul, lt_c, le_c, eq_c, gt_c, ge_c, inb_c, clamp_c, ladd, mk_92, mk_93, mk_94, mk_95, mk_96, mk_97, mk_98, mk_99, mk_100, mk_101, mk_102, mk_103, mk_104, mk_105, mk_106, mk_107, mk_108, mk_109, mk_110, mk_111, mk_112, mk_113, mk_114, mr_92_1, mr_92_2, mr_92_3, mr_92_4, mr_92_5, mr_92_7, mr_92_15, mr_92_16, mr_92_17, mr_92_24, mr_92_25, mr_92_26, mr_92_27, mr_92_28, mr_92_29, mr_92_30, mr_92_32, mr_92_33, mr_92_36, mr_92_37, mr_92_38, mr_92_39, hMy, yI, eL, n1, e1, hi, eu, g2, y113, hx]
        · have xI : zI x = zI z := by rw [hx, hy]; rfl
          refine In.re4 h (by rw [hx, hy]; rfl) (by rw [hx, hy]; rfl) (by rw [hx, hy]; rfl) (fun a _ _ _ _ => by rw [xI]) ⟨?_, ?_, ?_, ?_, ?_⟩
          · rw [xI]; exact in_sn h
          · rw [xI]; exact in_sl h
          · rw [xI]; exact in_sw h
          · rw [xI]; exact in_sv h
          · intro j i hj hi
            rw [hx, zL_eq, zL_ne (by omega), hy]
            by_cases c : j = k
            · subst c
              rw [zL_eq]
              simp only [ups_eq]
              by_cases c3 : i = m
              · rw [if_pos c3, if_pos (by omega)]
              · rw [if_neg c3, if_neg (by omega)]
                exact in_nu h j i hj hi
            · rw [zL_ne (by omega), up_ne (by omega)]
              exact in_nu h j i hj hi
      · refine ⟨-7, z, z, s, d, ?_, by rw [mk_92 hM], ?_, h⟩
        · rw [if_neg ha.1, if_pos ha.2]
          by_cases q : i < 0
          · simp (disch := omega) [gI, gR, pI, pR, aI, sI, aL, sL, aO, aR, sR, aN, onul, bnd, isC, cpI, cpL, sLen, sCh, nwC, zK_wI, zR_wI, zL_wI, zN_wI, zI_wI, zK_wL, zR_wL, zI_wL, zN_wL, zL_wL, zK_wR, zI_wR, zL_wR, zN_wR, zR_wR, ups_eq, inb_nI, nI_clamp, wI_wI, nI_add, pk_mul, add_c, c_add, c_mul, lt_c, le_c, eq_c, gt_c, ge_c, inb_c, clamp_c, ladd, mk_92, mk_93, mk_94, mk_95, mk_96, mk_97, mk_98, mk_99, mk_100, mk_101, mk_102, mk_103, mk_104, mk_105, mk_106, mk_107, mk_108, mk_109, mk_110, mk_111, mk_112, mk_113, mk_114, mr_92_1, mr_92_2, mr_92_3, mr_92_4, mr_92_5, mr_92_7, mr_92_15, mr_92_16, mr_92_17, mr_92_24, mr_92_25, mr_92_26, mr_92_27, mr_92_28, mr_92_29, mr_92_30, mr_92_32, mr_92_33, mr_92_36, mr_92_37, mr_92_38, mr_92_39, ck_0, ck_65, ck_66, ck_67, ck_68, ck_69, ck_70, ck_71, ck_72, ck_73, ck_74, ck_75, ck_76, ck_77, ck_78, ck_79, ck_80, ck_81, ck_82, ck_83, ck_84, ck_85, ck_86, ck_87, ck_88, ck_89, ck_90, ck_91, cr_0_2, cr_0_3, cr_0_4, cr_0_5, cr_0_6, cr_0_7, cr_0_8, cr_66_0, cr_68_0, cr_68_1, cr_70_0, cr_70_1, cr_70_2, cr_74_0, cr_74_1, cr_74_2, cr_74_7, cr_74_8, cr_74_9, cr_83_0, cr_83_1, cr_83_2, cr_84_0, cr_84_1, cr_84_2, cr_84_3, sk_0, sk_1, sk_2, sk_3, sk_4, sk_5, sk_6, sk_7, sk_8, sk_9, sk_10, sk_11, sk_12, sk_13, sk_14, sk_15, sk_16, sk_17, sk_18, sk_19, sk_20, sk_21, sk_22, sk_23, sk_24, sk_25, sk_26, sk_27, sk_28, sk_29, sk_30, sk_31, sr_0_0, sr_0_1, sr_0_2, sr_0_3, sr_0_4, sr_0_5, sr_0_6, sr_0_7, sr_0_8, sr_0_9, sr_1_0, sr_1_1, sr_1_2, sr_1_3, sr_1_4, sr_1_5, sr_8_0, sr_8_1, sr_8_2, sr_8_3, sr_8_4, sr_8_5, sr_15_0, sr_15_1, sr_15_2, sr_19_0, sr_19_1, sr_19_2, sr_19_3, sr_24_0, sr_24_1, rs_lead hR, rs_ilead hR, rs_latent hR, rs_mark hR, rs_ground hR, rs_far hR, rs_pn hR, rs_p0 hR, rs_p1 hR, rs_p2 hR, rs_p3 hR, rs_p4 hR, rs_p5 hR, rs_hn hR, rs_h0 hR, rs_h1 hR, rs_h2 hR, rs_rn hR, rs_rc hR, rs_gc hR, rs_warm hR, rs_ice hR, rs_dug hR, rs_shaft hR, rs_sums hR, rs_sc hR, rs_dc hR, rs_cold hR, rs_lines hR, rs_ticks hR, rs_fl hR, rs_fls hR, hM, hS, hC, hN, m_X6_hasRow, m_X6_lengthOf, in_sl h, eL, n1, q]
          · have q2 : ¬ i < nI L := fun g => hi ⟨q, g⟩
            simp (disch := omega) [gI, gR, pI, pR, aI, sI, aL, sL, aO, aR, sR, aN, onul, bnd, isC, cpI, cpL, sLen, sCh, nwC, zK_wI, zR_wI, zL_wI, zN_wI, zI_wI, zK_wL, zR_wL, zI_wL, zN_wL, zL_wL, zK_wR, zI_wR, zL_wR, zN_wR, zR_wR, ups_eq, inb_nI, nI_clamp, wI_wI, nI_add, pk_mul, add_c, c_add, c_mul, lt_c, le_c, eq_c, gt_c, ge_c, inb_c, clamp_c, ladd, mk_92, mk_93, mk_94, mk_95, mk_96, mk_97, mk_98, mk_99, mk_100, mk_101, mk_102, mk_103, mk_104, mk_105, mk_106, mk_107, mk_108, mk_109, mk_110, mk_111, mk_112, mk_113, mk_114, mr_92_1, mr_92_2, mr_92_3, mr_92_4, mr_92_5, mr_92_7, mr_92_15, mr_92_16, mr_92_17, mr_92_24, mr_92_25, mr_92_26, mr_92_27, mr_92_28, mr_92_29, mr_92_30, mr_92_32, mr_92_33, mr_92_36, mr_92_37, mr_92_38, mr_92_39, ck_0, ck_65, ck_66, ck_67, ck_68, ck_69, ck_70, ck_71, ck_72, ck_73, ck_74, ck_75, ck_76, ck_77, ck_78, ck_79, ck_80, ck_81, ck_82, ck_83, ck_84, ck_85, ck_86, ck_87, ck_88, ck_89, ck_90, ck_91, cr_0_2, cr_0_3, cr_0_4, cr_0_5, cr_0_6, cr_0_7, cr_0_8, cr_66_0, cr_68_0, cr_68_1, cr_70_0, cr_70_1, cr_70_2, cr_74_0, cr_74_1, cr_74_2, cr_74_7, cr_74_8, cr_74_9, cr_83_0, cr_83_1, cr_83_2, cr_84_0, cr_84_1, cr_84_2, cr_84_3, sk_0, sk_1, sk_2, sk_3, sk_4, sk_5, sk_6, sk_7, sk_8, sk_9, sk_10, sk_11, sk_12, sk_13, sk_14, sk_15, sk_16, sk_17, sk_18, sk_19, sk_20, sk_21, sk_22, sk_23, sk_24, sk_25, sk_26, sk_27, sk_28, sk_29, sk_30, sk_31, sr_0_0, sr_0_1, sr_0_2, sr_0_3, sr_0_4, sr_0_5, sr_0_6, sr_0_7, sr_0_8, sr_0_9, sr_1_0, sr_1_1, sr_1_2, sr_1_3, sr_1_4, sr_1_5, sr_8_0, sr_8_1, sr_8_2, sr_8_3, sr_8_4, sr_8_5, sr_15_0, sr_15_1, sr_15_2, sr_19_0, sr_19_1, sr_19_2, sr_19_3, sr_24_0, sr_24_1, rs_lead hR, rs_ilead hR, rs_latent hR, rs_mark hR, rs_ground hR, rs_far hR, rs_pn hR, rs_p0 hR, rs_p1 hR, rs_p2 hR, rs_p3 hR, rs_p4 hR, rs_p5 hR, rs_hn hR, rs_h0 hR, rs_h1 hR, rs_h2 hR, rs_rn hR, rs_rc hR, rs_gc hR, rs_warm hR, rs_ice hR, rs_dug hR, rs_shaft hR, rs_sums hR, rs_sc hR, rs_dc hR, rs_cold hR, rs_lines hR, rs_ticks hR, rs_fl hR, rs_fls hR, hM, hS, hC, hN, m_X6_hasRow, m_X6_lengthOf, in_sl h, eL, n1, q, q2]
        · simp only [if_pos ha]
          have e2 := e1 z
          rw [if_neg hi] at e2
          simp (disch := omega) [gI, gR, pI, pR, aI, sI, aL, sL, aO, aR, sR, aN, onul, bnd, isC, cpI, cpL, sLen, sCh, nwC, zK_wI, zR_wI, zL_wI, zN_wI, zI_wI, zK_wL, zR_wL, zI_wL, zN_wL, zL_wL, zK_wR, zI_wR, zL_wR, zN_wR, zR_wR, ups_eq, inb_nI, nI_clamp, wI_wI, nI_add, pk_mul, add_c, c_add, c_mul, lt_c, le_c, eq_c, gt_c, ge_c, inb_c, clamp_c, ladd, mk_92, mk_93, mk_94, mk_95, mk_96, mk_97, mk_98, mk_99, mk_100, mk_101, mk_102, mk_103, mk_104, mk_105, mk_106, mk_107, mk_108, mk_109, mk_110, mk_111, mk_112, mk_113, mk_114, mr_92_1, mr_92_2, mr_92_3, mr_92_4, mr_92_5, mr_92_7, mr_92_15, mr_92_16, mr_92_17, mr_92_24, mr_92_25, mr_92_26, mr_92_27, mr_92_28, mr_92_29, mr_92_30, mr_92_32, mr_92_33, mr_92_36, mr_92_37, mr_92_38, mr_92_39, ck_0, ck_65, ck_66, ck_67, ck_68, ck_69, ck_70, ck_71, ck_72, ck_73, ck_74, ck_75, ck_76, ck_77, ck_78, ck_79, ck_80, ck_81, ck_82, ck_83, ck_84, ck_85, ck_86, ck_87, ck_88, ck_89, ck_90, ck_91, cr_0_2, cr_0_3, cr_0_4, cr_0_5, cr_0_6, cr_0_7, cr_0_8, cr_66_0, cr_68_0, cr_68_1, cr_70_0, cr_70_1, cr_70_2, cr_74_0, cr_74_1, cr_74_2, cr_74_7, cr_74_8, cr_74_9, cr_83_0, cr_83_1, cr_83_2, cr_84_0, cr_84_1, cr_84_2, cr_84_3, sk_0, sk_1, sk_2, sk_3, sk_4, sk_5, sk_6, sk_7, sk_8, sk_9, sk_10, sk_11, sk_12, sk_13, sk_14, sk_15, sk_16, sk_17, sk_18, sk_19, sk_20, sk_21, sk_22, sk_23, sk_24, sk_25, sk_26, sk_27, sk_28, sk_29, sk_30, sk_31, sr_0_0, sr_0_1, sr_0_2, sr_0_3, sr_0_4, sr_0_5, sr_0_6, sr_0_7, sr_0_8, sr_0_9, sr_1_0, sr_1_1, sr_1_2, sr_1_3, sr_1_4, sr_1_5, sr_8_0, sr_8_1, sr_8_2, sr_8_3, sr_8_4, sr_8_5, sr_15_0, sr_15_1, sr_15_2, sr_19_0, sr_19_1, sr_19_2, sr_19_3, sr_24_0, sr_24_1, rs_lead hR, rs_ilead hR, rs_latent hR, rs_mark hR, rs_ground hR, rs_far hR, rs_pn hR, rs_p0 hR, rs_p1 hR, rs_p2 hR, rs_p3 hR, rs_p4 hR, rs_p5 hR, rs_hn hR, rs_h0 hR, rs_h1 hR, rs_h2 hR, rs_rn hR, rs_rc hR, rs_gc hR, rs_warm hR, rs_ice hR, rs_dug hR, rs_shaft hR, rs_sums hR, rs_sc hR, rs_dc hR, rs_cold hR, rs_lines hR, rs_ticks hR, rs_fl hR, rs_fls hR, hM, hS, hC, hN, eL, n1, e2]
  · refine ⟨-2, z, z, s, d, ?_, by rw [mk_92 hM], ?_, h⟩
    · by_cases q : a < 0
      · simp [q]
      · have q2 : ¬ a < 4 := fun g => ha ⟨q, g⟩
        simp [q, q2]
    · simp only [if_neg ha, if_true]
theorem span_ok {i n : Int32} {L : Nat} (hL : L < 61) (hi : ¬ i < 0) (hn : ¬ n < 0) (hq : ¬ 0 < lg_cmp (i.toInt64 + n.toInt64) (nI L).toInt64) : ∃ a m, i = nI a ∧ n = nI m ∧ a + m ≤ L := by
  have hi' : 0 ≤ i.toInt := by
    rw [Int32.lt_iff_toInt_lt, show (0 : Int32).toInt = 0 by decide] at hi; omega
  have hn' : 0 ≤ n.toInt := by
    rw [Int32.lt_iff_toInt_lt, show (0 : Int32).toInt = 0 by decide] at hn; omega
  have bi : i.toInt < 2147483648 := Int32.toInt_lt i
  have bn : n.toInt < 2147483648 := Int32.toInt_lt n
  rw [lg_gt, Int64.not_lt, Int64.le_iff_toInt_le, Int64.toInt_add, Int32.toInt_toInt64, Int32.toInt_toInt64, Int32.toInt_toInt64, nI_toInt (by omega), Int.bmod_eq_of_le (by omega) (by omega)] at hq
  have g1 := isN.of (m := 61) hi (by omega) (by decide)
  have g2 := isN.of (m := 61) hn (by omega) (by decide)
  obtain ⟨a, ha, ea⟩ : ∃ a, a < 61 ∧ i = nI a := ⟨_, g1.2, g1.1⟩
  obtain ⟨m, hm, em⟩ : ∃ m, m < 61 ∧ n = nI m := ⟨_, g2.2, g2.1⟩
  refine ⟨a, m, ea, em, ?_⟩
  rw [ea, em, nI_toInt (by omega), nI_toInt (by omega)] at hq
  omega
/-- the model's paste: out, then in -/
theorem pasteM_L {z : Hp} {k u a b n : Nat} (hM : LayM z) (hk : k < 4) (hu : u < 4) (ha : a + n ≤ 60) (hb : b + n ≤ 60) :
    ∃ g, m_X12_paste_L113 m_X12_paste_B147 FU 92 (nI k) (nI a) (nI u) (nI b) (nI n) 0 z = some (0, wL (wL z 114 g) 113 (fun i => if 60 * u + b ≤ i ∧ i < 60 * u + b + n then zL z 113 (60 * k + a + (i - (60 * u + b))) else zL z 113 i)) := by
  refine ⟨fun i => if i < n then zL z 113 (60 * k + a + i) else zL z 114 i, ?_⟩
  refine loopQ (X := Int32 × Hp) (fun f x => m_X12_paste_L113 m_X12_paste_B147 f 92 (nI k) (nI a) (nI u) (nI b) (nI n) x.1 x.2) (fun t => t = some (0, wL (wL z 114 (fun i => if i < n then zL z 113 (60 * k + a + i) else zL z 114 i)) 113 (fun i => if 60 * u + b ≤ i ∧ i < 60 * u + b + n then zL z 113 (60 * k + a + (i - (60 * u + b))) else zL z 113 i))) (fun j x => x.1 = nI j ∧ x.2 = wL z 114 (fun i => if i < j then zL z 113 (60 * k + a + i) else zL z 114 i)) n ?hs ?he 0 FU (0, z) (by omega) (FU_pos (by omega)) ⟨rfl, ?h0⟩
  case h0 => simp [wL_self]
  case hs =>
    rintro j f ⟨v, y⟩ hn ⟨h1, h2⟩
    dsimp only at h1 h2
    subst h1 h2
    refine Or.inl ⟨(nI (j + 1), wL z 114 (fun i => if i < j + 1 then zL z 113 (60 * k + a + i) else zL z 114 i)), ⟨rfl, rfl⟩, ?_⟩
    dsimp only
    rw [m_X12_paste_L113]
    simp (disch := omega) [gI, gR, pI, pR, aI, sI, aL, sL, aO, aR, sR, aN, onul, bnd, isC, cpI, cpL, sLen, sCh, nwC, zK_wI, zR_wI, zL_wI, zN_wI, zI_wI, zK_wL, zR_wL, zI_wL, zN_wL, zL_wL, zK_wR, zI_wR, zL_wR, zN_wR, zR_wR, ups_eq, inb_nI, nI_clamp, wI_wI, nI_add, pk_mul, add_c, c_add, c_mul, lt_c, le_c, eq_c, gt_c, ge_c, inb_c, clamp_c, ladd, mk_92, mk_93, mk_94, mk_95, mk_96, mk_97, mk_98, mk_99, mk_100, mk_101, mk_102, mk_103, mk_104, mk_105, mk_106, mk_107, mk_108, mk_109, mk_110, mk_111, mk_112, mk_113, mk_114, mr_92_1, mr_92_2, mr_92_3, mr_92_4, mr_92_5, mr_92_7, mr_92_15, mr_92_16, mr_92_17, mr_92_24, mr_92_25, mr_92_26, mr_92_27, mr_92_28, mr_92_29, mr_92_30, mr_92_32, mr_92_33, mr_92_36, mr_92_37, mr_92_38, mr_92_39, hM, nI_ltI, hn, wL_wL]
    refine congrArg (fun q => m_X12_paste_L113 m_X12_paste_B147 f 92 (nI k) (nI a) (nI u) (nI b) (nI n) (nI (j + 1)) (wL z 114 q)) (funext fun i => ?_)
    simp only [ups_eq]
    grind
  case he =>
    rintro f ⟨v, y⟩ ⟨h1, h2⟩
    dsimp only at h1 h2 ⊢
    subst h1
    rw [m_X12_paste_L113, if_neg (nI_nlt (Nat.le_refl _) (by omega))]
    unfold m_X12_paste_B147
    have hMy : LayM y := hM.of (by rw [h2]; rfl) (by rw [h2]; rfl)
    have y113 : zL y 113 = zL z 113 := by rw [h2, zL_ne (by decide)]
    have y114 : zL y 114 = fun i => if i < n then zL z 113 (60 * k + a + i) else zL z 114 i := by rw [h2, zL_eq]
    rw [← h2]
    refine loopQ (X := Int32 × Hp) (fun f x => m_X12_paste_L150 f 92 (nI u) (nI b) (nI n) x.1 x.2) (fun t => t = some (0, wL y 113 (fun i => if 60 * u + b ≤ i ∧ i < 60 * u + b + n then zL z 113 (60 * k + a + (i - (60 * u + b))) else zL z 113 i))) (fun j x => x.1 = nI j ∧ x.2 = wL y 113 (fun i => if 60 * u + b ≤ i ∧ i < 60 * u + b + j then zL z 113 (60 * k + a + (i - (60 * u + b))) else zL z 113 i)) n ?hs ?he 0 FU (0, y) (by omega) (FU_pos (by omega)) ⟨rfl, ?h0⟩
    case h0 =>
      refine (wL_self y 113).symm.trans (congrArg (wL y 113) (funext fun i => ?_))
      rw [if_neg (by omega), y113]
    case hs =>
      rintro j f ⟨v, x⟩ hn ⟨h1, h3⟩
      dsimp only at h1 h3
      subst h1 h3
      refine Or.inl ⟨(nI (j + 1), wL y 113 (fun i => if 60 * u + b ≤ i ∧ i < 60 * u + b + (j + 1) then zL z 113 (60 * k + a + (i - (60 * u + b))) else zL z 113 i)), ⟨rfl, rfl⟩, ?_⟩
      dsimp only
      rw [m_X12_paste_L150]
      simp (disch := omega) [gI, gR, pI, pR, aI, sI, aL, sL, aO, aR, sR, aN, onul, bnd, isC, cpI, cpL, sLen, sCh, nwC, zK_wI, zR_wI, zL_wI, zN_wI, zI_wI, zK_wL, zR_wL, zI_wL, zN_wL, zL_wL, zK_wR, zI_wR, zL_wR, zN_wR, zR_wR, ups_eq, inb_nI, nI_clamp, wI_wI, nI_add, pk_mul, add_c, c_add, c_mul, lt_c, le_c, eq_c, gt_c, ge_c, inb_c, clamp_c, ladd, mk_92, mk_93, mk_94, mk_95, mk_96, mk_97, mk_98, mk_99, mk_100, mk_101, mk_102, mk_103, mk_104, mk_105, mk_106, mk_107, mk_108, mk_109, mk_110, mk_111, mk_112, mk_113, mk_114, mr_92_1, mr_92_2, mr_92_3, mr_92_4, mr_92_5, mr_92_7, mr_92_15, mr_92_16, mr_92_17, mr_92_24, mr_92_25, mr_92_26, mr_92_27, mr_92_28, mr_92_29, mr_92_30, mr_92_32, mr_92_33, mr_92_36, mr_92_37, mr_92_38, mr_92_39, hMy, nI_ltI, hn, wL_wL, y114]
      refine congrArg (fun q => m_X12_paste_L150 f 92 (nI u) (nI b) (nI n) (nI (j + 1)) (wL y 113 q)) (funext fun i => ?_)
      simp only [ups_eq]
      by_cases c : i = 60 * u + b + j
      · rw [if_pos c, if_pos (by omega)]
        congr 1
        omega
      · rw [if_neg c]
        by_cases c2 : 60 * u + b ≤ i ∧ i < 60 * u + b + j
        · rw [if_pos c2, if_pos (by omega)]
        · rw [if_neg c2, if_neg (by omega)]
    case he =>
      rintro f ⟨v, x⟩ ⟨h1, h3⟩
      dsimp only at h1 h3 ⊢
      subst h1 h3
      rw [m_X12_paste_L150, if_neg (nI_nlt (Nat.le_refl _) (by omega))]
