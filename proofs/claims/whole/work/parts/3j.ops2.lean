/-! ===== cold, run, gauge ===== -/
theorem op_cold (v : Int32) : Op (m_X11_cold 0 v) (m_X12_cold 92 v) := by
  intro z s d h
  have hS := in_S h; have hR := in_R h; have hO := in_ok h; have hM := in_M h; have hC := in_C h; have hN := in_now h
  have hs := in_lo h
  unfold m_X11_cold m_X12_cold
  simp only [in_lit _ 0 99999 (show (0 : Nat) < 2 ^ 31 by decide) (by decide), bnd_some]
  by_cases hp : 0 ≤ v ∧ v ≤ 99999
  · obtain ⟨y, hy⟩ : ∃ y, y = wI z s (ups (zI z s) 12 v) := ⟨_, rfl⟩
    obtain ⟨x, hx⟩ : ∃ x, x = wI y 93 (ups (zI z 93) 6 v) := ⟨_, rfl⟩
    have y93 : zI y 93 = zI z 93 := by rw [hy, zI_ne (by omega)]
    have hMy : LayM y := hM.of (by rw [hy, zK_wI]) (by rw [hy, zR_wI])
    have ex : ∀ a, a ≠ s → a ≠ 93 → zI x a = zI z a := fun a h1 h2 => by rw [hx, zI_ne h2, hy, zI_ne h1]
    have x93 : zI x 93 = ups (zI z 93) 6 v := by rw [hx, zI_eq]
    have xs : zI x s = ups (zI z s) 12 v := by rw [hx, zI_ne (by omega), hy, zI_eq]
    refine ⟨zI z 93 6, y, x, s, d, ?_, by rw [mk_92 hMy], ?_, ?_⟩
    · rw [if_neg (Int32.not_lt.mpr hp.1), if_neg (Int32.not_lt.mpr hp.2)]
      simp (disch := omega) [gI, gR, pI, pR, aI, sI, aL, sL, aO, aR, sR, aN, onul, bnd, isC, cpI, cpL, sLen, sCh, nwC, zK_wI, zR_wI, zL_wI, zN_wI, zI_wI, zK_wL, zR_wL, zI_wL, zN_wL, zL_wL, zK_wR, zI_wR, zL_wR, zN_wR, zR_wR, ups_eq, inb_nI, nI_clamp, wI_wI, nI_add, pk_mul, add_c, c_add, c_mul, lt_c, le_c, eq_c, gt_c, ge_c, inb_c, clamp_c, ladd, mk_92, mk_93, mk_94, mk_95, mk_96, mk_97, mk_98, mk_99, mk_100, mk_101, mk_102, mk_103, mk_104, mk_105, mk_106, mk_107, mk_108, mk_109, mk_110, mk_111, mk_112, mk_113, mk_114, mr_92_1, mr_92_2, mr_92_3, mr_92_4, mr_92_5, mr_92_7, mr_92_15, mr_92_16, mr_92_17, mr_92_24, mr_92_25, mr_92_26, mr_92_27, mr_92_28, mr_92_29, mr_92_30, mr_92_32, mr_92_33, mr_92_36, mr_92_37, mr_92_38, mr_92_39, ck_0, ck_65, ck_66, ck_67, ck_68, ck_69, ck_70, ck_71, ck_72, ck_73, ck_74, ck_75, ck_76, ck_77, ck_78, ck_79, ck_80, ck_81, ck_82, ck_83, ck_84, ck_85, ck_86, ck_87, ck_88, ck_89, ck_90, ck_91, cr_0_2, cr_0_3, cr_0_4, cr_0_5, cr_0_6, cr_0_7, cr_0_8, cr_66_0, cr_68_0, cr_68_1, cr_70_0, cr_70_1, cr_70_2, cr_74_0, cr_74_1, cr_74_2, cr_74_7, cr_74_8, cr_74_9, cr_83_0, cr_83_1, cr_83_2, cr_84_0, cr_84_1, cr_84_2, cr_84_3, sk_0, sk_1, sk_2, sk_3, sk_4, sk_5, sk_6, sk_7, sk_8, sk_9, sk_10, sk_11, sk_12, sk_13, sk_14, sk_15, sk_16, sk_17, sk_18, sk_19, sk_20, sk_21, sk_22, sk_23, sk_24, sk_25, sk_26, sk_27, sk_28, sk_29, sk_30, sk_31, sr_0_0, sr_0_1, sr_0_2, sr_0_3, sr_0_4, sr_0_5, sr_0_6, sr_0_7, sr_0_8, sr_0_9, sr_1_0, sr_1_1, sr_1_2, sr_1_3, sr_1_4, sr_1_5, sr_8_0, sr_8_1, sr_8_2, sr_8_3, sr_8_4, sr_8_5, sr_15_0, sr_15_1, sr_15_2, sr_19_0, sr_19_1, sr_19_2, sr_19_3, sr_24_0, sr_24_1, rs_lead hR, rs_ilead hR, rs_latent hR, rs_mark hR, rs_ground hR, rs_far hR, rs_pn hR, rs_p0 hR, rs_p1 hR, rs_p2 hR, rs_p3 hR, rs_p4 hR, rs_p5 hR, rs_hn hR, rs_h0 hR, rs_h1 hR, rs_h2 hR, rs_rn hR, rs_rc hR, rs_gc hR, rs_warm hR, rs_ice hR, rs_dug hR, rs_shaft hR, rs_sums hR, rs_sc hR, rs_dc hR, rs_cold hR, rs_lines hR, rs_ticks hR, rs_fl hR, rs_fls hR, hM, hS, hC, hN, hy]
    · rw [if_pos hp]
      simp (disch := omega) [gI, gR, pI, pR, aI, sI, aL, sL, aO, aR, sR, aN, onul, bnd, isC, cpI, cpL, sLen, sCh, nwC, zK_wI, zR_wI, zL_wI, zN_wI, zI_wI, zK_wL, zR_wL, zI_wL, zN_wL, zL_wL, zK_wR, zI_wR, zL_wR, zN_wR, zR_wR, ups_eq, inb_nI, nI_clamp, wI_wI, nI_add, pk_mul, add_c, c_add, c_mul, lt_c, le_c, eq_c, gt_c, ge_c, inb_c, clamp_c, mk_92, mk_93, mk_94, mk_95, mk_96, mk_97, mk_98, mk_99, mk_100, mk_101, mk_102, mk_103, mk_104, mk_105, mk_106, mk_107, mk_108, mk_109, mk_110, mk_111, mk_112, mk_113, mk_114, mr_92_1, mr_92_2, mr_92_3, mr_92_4, mr_92_5, mr_92_7, mr_92_15, mr_92_16, mr_92_17, mr_92_24, mr_92_25, mr_92_26, mr_92_27, mr_92_28, mr_92_29, mr_92_30, mr_92_32, mr_92_33, mr_92_36, mr_92_37, mr_92_38, mr_92_39, hMy, y93, hx]
    · have hz : ∀ a, s ≤ a → a < s + 32 → a ≠ s → zI x a = zI z a := fun a h1 h2 h3 => ex a h3 (by omega)
      have hf : ∀ k, k ≠ 12 → zI x s k = zI z s k := fun k hk => by rw [xs, up_ne hk]
      have e : ∀ i, i ≠ 6 → zI x 93 i = zI z 93 i := fun i hi => by rw [x93, up_ne hi]
      refine In.re3 h (by rw [hx, hy]; rfl) (by rw [hx, hy]; rfl) (by rw [hx, hy]; rfl) (by rw [hx, hy]; rfl) (fun a ha => ex a (by omega) (by omega)) (by rw [ex 66 (by omega) (by omega)]) (fun k _ => by rw [ex 92 (by omega) (by omega)]) ?_ ?_ ?_
      · exact ⟨rs_lead_of (rs_lead hR) (hz (s + 2) (by omega) (by omega) (by omega)) (fun i hi => e i (by omega)),
        rs_ilead_of (rs_ilead hR) (hz (s + 3) (by omega) (by omega) (by omega)) (fun i hi => e i (by omega)),
        rs_latent_of (rs_latent hR) (hz (s + 4) (by omega) (by omega) (by omega)) (fun i hi => e i (by omega)),
        rs_mark_of (rs_mark hR) (hz (s + 5) (by omega) (by omega) (by omega)) (fun i hi => e i (by omega)),
        rs_ground_of (rs_ground hR) (hz (s + 6) (by omega) (by omega) (by omega)) (fun i hi => e i (by omega)),
        rs_speed_of (rs_speed hR) (hz (s + 7) (by omega) (by omega) (by omega)) (fun i hi => e i (by omega)),
        rs_far_of (rs_far hR) (congrFun (hz (s + 1) (by omega) (by omega) (by omega)) 6) (fun i hi => e i (by omega)),
        rs_pn_of (rs_pn hR) (congrFun (hz (s + 8) (by omega) (by omega) (by omega)) 6) (fun i hi => e i (by omega)),
        rs_p0_of (rs_p0 hR) (hz (s + 9) (by omega) (by omega) (by omega)) (np_le hO) (fun i hi => e i (by omega)),
        rs_p1_of (rs_p1 hR) (hz (s + 10) (by omega) (by omega) (by omega)) (np_le hO) (fun i hi => e i (by omega)),
        rs_p2_of (rs_p2 hR) (hz (s + 11) (by omega) (by omega) (by omega)) (np_le hO) (fun i hi => e i (by omega)),
        rs_p3_of (rs_p3 hR) (hz (s + 12) (by omega) (by omega) (by omega)) (np_le hO) (fun i hi => e i (by omega)),
        rs_p4_of (rs_p4 hR) (hz (s + 13) (by omega) (by omega) (by omega)) (np_le hO) (fun i hi => e i (by omega)),
        rs_p5_of (rs_p5 hR) (hz (s + 14) (by omega) (by omega) (by omega)) (np_le hO) (fun i hi => e i (by omega)),
        rs_hn_of (rs_hn hR) (congrFun (hz (s + 15) (by omega) (by omega) (by omega)) 3) (fun i hi => e i (by omega)),
        rs_h0_of (rs_h0 hR) (hz (s + 16) (by omega) (by omega) (by omega)) (nh_le hO) (fun i hi => e i (by omega)),
        rs_h1_of (rs_h1 hR) (hz (s + 17) (by omega) (by omega) (by omega)) (nh_le hO) (fun i hi => e i (by omega)),
        rs_h2_of (rs_h2 hR) (hz (s + 18) (by omega) (by omega) (by omega)) (nh_le hO) (fun i hi => e i (by omega)),
        rs_rn_of (rs_rn hR) (congrFun (hz (s + 19) (by omega) (by omega) (by omega)) 4) (fun i hi => e i (by omega)),
        rs_rc_of (rs_rc hR) (hz (s + 20) (by omega) (by omega) (by omega)) (nr_lt hO) (fun i hi => e i (by omega)),
        rs_rw_of (rs_rw hR) (hz (s + 21) (by omega) (by omega) (by omega)) (nr_lt hO) (nc_lt hO) (fun i hi => e i (by omega)),
        rs_rs_of (rs_rs hR) (hz (s + 22) (by omega) (by omega) (by omega)) (hz (s + 23) (by omega) (by omega) (by omega)) (nr_lt hO) (nc_lt hO) (fun i hi => e i (by omega)),
        rs_gc_of (rs_gc hR) (hz (s + 25) (by omega) (by omega) (by omega)) (fun i hi => e i (by omega)),
        rs_gr_of (rs_gr hR) (hz (s + 26) (by omega) (by omega) (by omega)) (fun i hi => e i (by omega)),
        rs_warm_of (rs_warm hR) (hz (s + 27) (by omega) (by omega) (by omega)) (fun i hi => e i (by omega)),
        rs_ice_of (rs_ice hR) (hz (s + 28) (by omega) (by omega) (by omega)) (fun i hi => e i (by omega)),
        rs_dug_of (rs_dug hR) (hz (s + 29) (by omega) (by omega) (by omega)) (fun i hi => e i (by omega)),
        rs_shaft_of (rs_shaft hR) (hz (s + 30) (by omega) (by omega) (by omega)) (fun i hi => e i (by omega)),
        rs_sums_of (rs_sums hR) (hz (s + 31) (by omega) (by omega) (by omega)) (fun i hi => e i (by omega)),
        rs_sc_of (rs_sc hR) (hf 10 (by omega)) (fun i hi => e i (by omega)),
        rs_dc_of (rs_dc hR) (hf 11 (by omega)) (fun i hi => e i (by omega)),
        by rw [xs, x93, up_eq, up_eq],
        rs_lines_of (rs_lines hR) (hf 13 (by omega)) (fun i hi => e i (by omega)),
        rs_ticks_of (rs_ticks hR) (hf 14 (by omega)) (fun i hi => e i (by omega)),
        rs_fl_of (rs_fl hR) (hf 15 (by omega)) (fun i hi => e i (by omega)),
        rs_fls_of (rs_fls hR) (hf 16 (by omega)) (fun i hi => e i (by omega))⟩
      · obtain ⟨m, rfl, hm⟩ := rng 99999 (by decide) hp
        exact ⟨ok_kd_of (ok_kd hO)  (fun i hi => e i (by omega)),
        ok_gl_of (ok_gl hO)  (fun i hi => e i (by omega)),
        ok_lat_of (ok_lat hO)  (fun i hi => e i (by omega)),
        ok_mark_of (ok_mark hO)  (fun i hi => e i (by omega)),
        ok_sp_of (ok_sp hO)  (fun i hi => e i (by omega)),
        ok_far_of (ok_far hO)  (fun i hi => e i (by omega)),
        ok_warm_of (ok_warm hO)  (fun i hi => e i (by omega)),
        ok_ice_of (ok_ice hO) (fun c hc => kd_lt hO hc) (fun i hi => e i (by omega)),
        ok_dug_of (ok_dug hO)  (fun i hi => e i (by omega)),
        ok_dsh_of (ok_dsh hO)  (fun i hi => e i (by omega)),
        ok_pn_of (ok_pn hO)  (fun i hi => e i (by omega)),
        ok_pc_of (ok_pc hO) (np_le hO) (fun i hi => e i (by omega)),
        ok_pd_of (ok_pd hO) (np_le hO) (fun i hi => e i (by omega)),
        ok_pa_of (ok_pa hO) (np_le hO) (fun i hi => e i (by omega)),
        ok_pl_of (ok_pl hO) (np_le hO) (fun i hi => e i (by omega)),
        ok_pr_of (ok_pr hO) (np_le hO) (fun i hi => e i (by omega)),
        ok_hn_of (ok_hn hO)  (fun i hi => e i (by omega)),
        ok_hc_of (ok_hc hO) (nh_le hO) (fun i hi => e i (by omega)),
        ok_rn_of (ok_rn hO)  (fun i hi => e i (by omega)),
        ok_rc_of (ok_rc hO) (nr_lt hO) (fun i hi => e i (by omega)),
        ok_rw_of (ok_rw hO) (nr_lt hO) (nc_lt hO) (fun i hi => e i (by omega)),
        ok_gc_of (ok_gc hO)  (fun i hi => e i (by omega)),
        ok_sh_of (ok_sh hO)  (fun i hi => e i (by omega)),
        by rw [x93, up_eq]; exact isN.mk (by omega) (by decide),
        ok_fl_of (ok_fl hO)  (fun i hi => e i (by omega))⟩
      · rw [e 1 (by omega)]; exact in_tk h
  · refine ⟨-2, z, z, s, d, ?_, by rw [mk_92 hM], ?_, h⟩
    · by_cases q : v < 0
      · rw [if_pos q]
      · rw [if_neg q, if_pos (Int32.not_le.mp (fun g => hp ⟨Int32.not_lt.mp q, g⟩))]
    · rw [if_neg hp]
      simp
theorem isPipe_ok {z : Hp} {q : Nat} (hM : LayM z) (hO : OkW (zI z 93) q) (p : Int32) : m_X12_isPipe 92 p z = some (if ¬ p < 0 ∧ p < nI (nPW (zI z 93)) then 1 else 0, z) := by
  have hn := np_lt hO
  unfold m_X12_isPipe
  simp (disch := omega) [gI, gR, pI, pR, aI, sI, aL, sL, aO, aR, sR, aN, onul, bnd, isC, cpI, cpL, sLen, sCh, nwC, zK_wI, zR_wI, zL_wI, zN_wI, zI_wI, zK_wL, zR_wL, zI_wL, zN_wL, zL_wL, zK_wR, zI_wR, zL_wR, zN_wR, zR_wR, ups_eq, inb_nI, nI_clamp, wI_wI, nI_add, pk_mul, add_c, c_add, c_mul, lt_c, le_c, eq_c, gt_c, ge_c, inb_c, clamp_c, ladd, mk_92, mk_93, mk_94, mk_95, mk_96, mk_97, mk_98, mk_99, mk_100, mk_101, mk_102, mk_103, mk_104, mk_105, mk_106, mk_107, mk_108, mk_109, mk_110, mk_111, mk_112, mk_113, mk_114, mr_92_1, mr_92_2, mr_92_3, mr_92_4, mr_92_5, mr_92_7, mr_92_15, mr_92_16, mr_92_17, mr_92_24, mr_92_25, mr_92_26, mr_92_27, mr_92_28, mr_92_29, mr_92_30, mr_92_32, mr_92_33, mr_92_36, mr_92_37, mr_92_38, mr_92_39, hM, np_eq hO, in_m1 p (show nPW (zI z 93) < 2 ^ 31 by omega)]
  exact nar_b _
theorem op_run (p : Int32) {b : Int32} (hb : b = 0 ∨ b = 1) : Op (m_X11_run 0 p b) (m_X12_run 92 p b) := by
  intro z s d h
  have hS := in_S h; have hR := in_R h; have hO := in_ok h; have hM := in_M h; have hC := in_C h; have hN := in_now h
  have hs := in_lo h
  have hn := np_lt hO
  unfold m_X11_run m_X12_run
  by_cases hp : ¬ p < 0 ∧ p < nI (nPW (zI z 93))
  · obtain ⟨n, rfl, hq⟩ := ofN (by omega) hp.1 hp.2
    obtain ⟨y, hy⟩ : ∃ y, y = wI z (s + 12) (ups (zI z (s + 12)) n b) := ⟨_, rfl⟩
    obtain ⟨x, hx⟩ : ∃ x, x = wI y 93 (ups (zI z 93) (627 + 6 * n) b) := ⟨_, rfl⟩
    have y93 : zI y 93 = zI z 93 := by rw [hy, zI_ne (by omega)]
    have hMy : LayM y := hM.of (by rw [hy, zK_wI]) (by rw [hy, zR_wI])
    have ex : ∀ a, a ≠ s + 12 → a ≠ 93 → zI x a = zI z a := fun a h1 h2 => by rw [hx, zI_ne h2, hy, zI_ne h1]
    have x93 : zI x 93 = ups (zI z 93) (627 + 6 * n) b := by rw [hx, zI_eq]
    have xs : zI x (s + 12) = ups (zI z (s + 12)) n b := by rw [hx, zI_ne (by omega), hy, zI_eq]
    have hr := ok_pr hO n hq
    refine ⟨if zI z 93 (627 + 6 * n) = b then 0 else 1, y, x, s, d, ?_, by rw [mk_92 hMy], ?_, ?_⟩
    · rw [if_neg hp.1]
      rcases hb with rfl | rfl
      · simp (disch := omega) [gI, gR, pI, pR, aI, sI, aL, sL, aO, aR, sR, aN, onul, bnd, isC, cpI, cpL, sLen, sCh, nwC, zK_wI, zR_wI, zL_wI, zN_wI, zI_wI, zK_wL, zR_wL, zI_wL, zN_wL, zL_wL, zK_wR, zI_wR, zL_wR, zN_wR, zR_wR, ups_eq, inb_nI, nI_clamp, wI_wI, nI_add, pk_mul, add_c, c_add, c_mul, lt_c, le_c, eq_c, gt_c, ge_c, inb_c, clamp_c, ladd, mk_92, mk_93, mk_94, mk_95, mk_96, mk_97, mk_98, mk_99, mk_100, mk_101, mk_102, mk_103, mk_104, mk_105, mk_106, mk_107, mk_108, mk_109, mk_110, mk_111, mk_112, mk_113, mk_114, mr_92_1, mr_92_2, mr_92_3, mr_92_4, mr_92_5, mr_92_7, mr_92_15, mr_92_16, mr_92_17, mr_92_24, mr_92_25, mr_92_26, mr_92_27, mr_92_28, mr_92_29, mr_92_30, mr_92_32, mr_92_33, mr_92_36, mr_92_37, mr_92_38, mr_92_39, ck_0, ck_65, ck_66, ck_67, ck_68, ck_69, ck_70, ck_71, ck_72, ck_73, ck_74, ck_75, ck_76, ck_77, ck_78, ck_79, ck_80, ck_81, ck_82, ck_83, ck_84, ck_85, ck_86, ck_87, ck_88, ck_89, ck_90, ck_91, cr_0_2, cr_0_3, cr_0_4, cr_0_5, cr_0_6, cr_0_7, cr_0_8, cr_66_0, cr_68_0, cr_68_1, cr_70_0, cr_70_1, cr_70_2, cr_74_0, cr_74_1, cr_74_2, cr_74_7, cr_74_8, cr_74_9, cr_83_0, cr_83_1, cr_83_2, cr_84_0, cr_84_1, cr_84_2, cr_84_3, sk_0, sk_1, sk_2, sk_3, sk_4, sk_5, sk_6, sk_7, sk_8, sk_9, sk_10, sk_11, sk_12, sk_13, sk_14, sk_15, sk_16, sk_17, sk_18, sk_19, sk_20, sk_21, sk_22, sk_23, sk_24, sk_25, sk_26, sk_27, sk_28, sk_29, sk_30, sk_31, sr_0_0, sr_0_1, sr_0_2, sr_0_3, sr_0_4, sr_0_5, sr_0_6, sr_0_7, sr_0_8, sr_0_9, sr_1_0, sr_1_1, sr_1_2, sr_1_3, sr_1_4, sr_1_5, sr_8_0, sr_8_1, sr_8_2, sr_8_3, sr_8_4, sr_8_5, sr_15_0, sr_15_1, sr_15_2, sr_19_0, sr_19_1, sr_19_2, sr_19_3, sr_24_0, sr_24_1, rs_lead hR, rs_ilead hR, rs_latent hR, rs_mark hR, rs_ground hR, rs_far hR, rs_pn hR, rs_p0 hR, rs_p1 hR, rs_p2 hR, rs_p3 hR, rs_p4 hR, rs_p5 hR, rs_hn hR, rs_h0 hR, rs_h1 hR, rs_h2 hR, rs_rn hR, rs_rc hR, rs_gc hR, rs_warm hR, rs_ice hR, rs_dug hR, rs_shaft hR, rs_sums hR, rs_sc hR, rs_dc hR, rs_cold hR, rs_lines hR, rs_ticks hR, rs_fl hR, rs_fls hR, hM, hS, hC, hN, np_eq hO, nI_ltI, hq, m_X11_run_B51, m_X11_run_B29]
        by_cases c : zI z 93 (627 + 6 * n) = 0 <;> simp [c, hy, show vp_nar .boolean 0 = 0 by decide, show vp_nar .boolean 1 = 1 by decide]
      · simp (disch := omega) [gI, gR, pI, pR, aI, sI, aL, sL, aO, aR, sR, aN, onul, bnd, isC, cpI, cpL, sLen, sCh, nwC, zK_wI, zR_wI, zL_wI, zN_wI, zI_wI, zK_wL, zR_wL, zI_wL, zN_wL, zL_wL, zK_wR, zI_wR, zL_wR, zN_wR, zR_wR, ups_eq, inb_nI, nI_clamp, wI_wI, nI_add, pk_mul, add_c, c_add, c_mul, lt_c, le_c, eq_c, gt_c, ge_c, inb_c, clamp_c, ladd, mk_92, mk_93, mk_94, mk_95, mk_96, mk_97, mk_98, mk_99, mk_100, mk_101, mk_102, mk_103, mk_104, mk_105, mk_106, mk_107, mk_108, mk_109, mk_110, mk_111, mk_112, mk_113, mk_114, mr_92_1, mr_92_2, mr_92_3, mr_92_4, mr_92_5, mr_92_7, mr_92_15, mr_92_16, mr_92_17, mr_92_24, mr_92_25, mr_92_26, mr_92_27, mr_92_28, mr_92_29, mr_92_30, mr_92_32, mr_92_33, mr_92_36, mr_92_37, mr_92_38, mr_92_39, ck_0, ck_65, ck_66, ck_67, ck_68, ck_69, ck_70, ck_71, ck_72, ck_73, ck_74, ck_75, ck_76, ck_77, ck_78, ck_79, ck_80, ck_81, ck_82, ck_83, ck_84, ck_85, ck_86, ck_87, ck_88, ck_89, ck_90, ck_91, cr_0_2, cr_0_3, cr_0_4, cr_0_5, cr_0_6, cr_0_7, cr_0_8, cr_66_0, cr_68_0, cr_68_1, cr_70_0, cr_70_1, cr_70_2, cr_74_0, cr_74_1, cr_74_2, cr_74_7, cr_74_8, cr_74_9, cr_83_0, cr_83_1, cr_83_2, cr_84_0, cr_84_1, cr_84_2, cr_84_3, sk_0, sk_1, sk_2, sk_3, sk_4, sk_5, sk_6, sk_7, sk_8, sk_9, sk_10, sk_11, sk_12, sk_13, sk_14, sk_15, sk_16, sk_17, sk_18, sk_19, sk_20, sk_21, sk_22, sk_23, sk_24, sk_25, sk_26, sk_27, sk_28, sk_29, sk_30, sk_31, sr_0_0, sr_0_1, sr_0_2, sr_0_3, sr_0_4, sr_0_5, sr_0_6, sr_0_7, sr_0_8, sr_0_9, sr_1_0, sr_1_1, sr_1_2, sr_1_3, sr_1_4, sr_1_5, sr_8_0, sr_8_1, sr_8_2, sr_8_3, sr_8_4, sr_8_5, sr_15_0, sr_15_1, sr_15_2, sr_19_0, sr_19_1, sr_19_2, sr_19_3, sr_24_0, sr_24_1, rs_lead hR, rs_ilead hR, rs_latent hR, rs_mark hR, rs_ground hR, rs_far hR, rs_pn hR, rs_p0 hR, rs_p1 hR, rs_p2 hR, rs_p3 hR, rs_p4 hR, rs_p5 hR, rs_hn hR, rs_h0 hR, rs_h1 hR, rs_h2 hR, rs_rn hR, rs_rc hR, rs_gc hR, rs_warm hR, rs_ice hR, rs_dug hR, rs_shaft hR, rs_sums hR, rs_sc hR, rs_dc hR, rs_cold hR, rs_lines hR, rs_ticks hR, rs_fl hR, rs_fls hR, hM, hS, hC, hN, np_eq hO, nI_ltI, hq, m_X11_run_B51, m_X11_run_B29]
        by_cases c : zI z 93 (627 + 6 * n) = 1 <;> simp [c, hy, show vp_nar .boolean 0 = 0 by decide, show vp_nar .boolean 1 = 1 by decide]
    · have k := isPipe_ok (z := y) hMy (by rw [y93]; exact hO) (nI n)
      rw [y93, if_pos hp] at k
      have hr' : zI z 93 (627 + 6 * n) = 0 ∨ zI z 93 (627 + 6 * n) = 1 := by
        rw [show 624 + 6 * n + 3 = 627 + 6 * n by omega] at hr
        exact hr
      simp (disch := omega) [gI, gR, pI, pR, aI, sI, aL, sL, aO, aR, sR, aN, onul, bnd, isC, cpI, cpL, sLen, sCh, nwC, zK_wI, zR_wI, zL_wI, zN_wI, zI_wI, zK_wL, zR_wL, zI_wL, zN_wL, zL_wL, zK_wR, zI_wR, zL_wR, zN_wR, zR_wR, ups_eq, inb_nI, nI_clamp, wI_wI, nI_add, pk_mul, add_c, c_add, c_mul, lt_c, le_c, eq_c, gt_c, ge_c, inb_c, clamp_c, ladd, mk_92, mk_93, mk_94, mk_95, mk_96, mk_97, mk_98, mk_99, mk_100, mk_101, mk_102, mk_103, mk_104, mk_105, mk_106, mk_107, mk_108, mk_109, mk_110, mk_111, mk_112, mk_113, mk_114, mr_92_1, mr_92_2, mr_92_3, mr_92_4, mr_92_5, mr_92_7, mr_92_15, mr_92_16, mr_92_17, mr_92_24, mr_92_25, mr_92_26, mr_92_27, mr_92_28, mr_92_29, mr_92_30, mr_92_32, mr_92_33, mr_92_36, mr_92_37, mr_92_38, mr_92_39, hMy, y93, hx, k, m_X12_run_B52, m_X12_run_B36]
      rcases hb with rfl | rfl <;> rcases hr' with c | c <;> simp [c]
    · have hz : ∀ a, s ≤ a → a < s + 32 → a ≠ s + 12 → zI x a = zI z a := fun a h1 h2 h3 => ex a h3 (by omega)
      have hf : ∀ k, k ≠ 99 → zI x s k = zI z s k := fun k _ => by rw [ex s (by omega) (by omega)]
      have e : ∀ i, i ≠ 627 + 6 * n → zI x 93 i = zI z 93 i := fun i hi => by rw [x93, up_ne hi]
      have n2 : nPW (zI x 93) = nPW (zI z 93) := nPW_of (e 2 (by omega))
      refine In.re3 h (by rw [hx, hy]; rfl) (by rw [hx, hy]; rfl) (by rw [hx, hy]; rfl) (by rw [hx, hy]; rfl) (fun a ha => ex a (by omega) (by omega)) (by rw [ex 66 (by omega) (by omega)]) (fun k _ => by rw [ex 92 (by omega) (by omega)]) ?_ ?_ ?_
      · exact ⟨rs_lead_of (rs_lead hR) (hz (s + 2) (by omega) (by omega) (by omega)) (fun i hi => e i (by omega)),
        rs_ilead_of (rs_ilead hR) (hz (s + 3) (by omega) (by omega) (by omega)) (fun i hi => e i (by omega)),
        rs_latent_of (rs_latent hR) (hz (s + 4) (by omega) (by omega) (by omega)) (fun i hi => e i (by omega)),
        rs_mark_of (rs_mark hR) (hz (s + 5) (by omega) (by omega) (by omega)) (fun i hi => e i (by omega)),
        rs_ground_of (rs_ground hR) (hz (s + 6) (by omega) (by omega) (by omega)) (fun i hi => e i (by omega)),
        rs_speed_of (rs_speed hR) (hz (s + 7) (by omega) (by omega) (by omega)) (fun i hi => e i (by omega)),
        rs_far_of (rs_far hR) (congrFun (hz (s + 1) (by omega) (by omega) (by omega)) 6) (fun i hi => e i (by omega)),
        rs_pn_of (rs_pn hR) (congrFun (hz (s + 8) (by omega) (by omega) (by omega)) 6) (fun i hi => e i (by omega)),
        by
        intro p hp
        rw [n2] at hp
        rw [hz (s + 9) (by omega) (by omega) (by omega), e (624 + 6 * p) (by omega)]
        exact rs_p0 hR p hp,
        by
        intro p hp
        rw [n2] at hp
        rw [hz (s + 10) (by omega) (by omega) (by omega), e (624 + 6 * p + 1) (by omega)]
        exact rs_p1 hR p hp,
        by
        intro p hp
        rw [n2] at hp
        rw [hz (s + 11) (by omega) (by omega) (by omega), e (624 + 6 * p + 2) (by omega)]
        exact rs_p2 hR p hp,
        by
        intro p hp
        rw [n2] at hp
        rw [xs, x93]
        simp only [ups_eq]
        by_cases c : p = n
        · rw [if_pos c, if_pos (by omega)]
        · rw [if_neg c, if_neg (by omega)]
          exact rs_p3 hR p hp,
        by
        intro p hp
        rw [n2] at hp
        rw [hz (s + 13) (by omega) (by omega) (by omega), e (624 + 6 * p + 4) (by omega)]
        exact rs_p4 hR p hp,
        by
        intro p hp
        rw [n2] at hp
        rw [hz (s + 14) (by omega) (by omega) (by omega), e (624 + 6 * p + 5) (by omega)]
        exact rs_p5 hR p hp,
        rs_hn_of (rs_hn hR) (congrFun (hz (s + 15) (by omega) (by omega) (by omega)) 3) (fun i hi => e i (by omega)),
        rs_h0_of (rs_h0 hR) (hz (s + 16) (by omega) (by omega) (by omega)) (nh_le hO) (fun i hi => e i (by omega)),
        rs_h1_of (rs_h1 hR) (hz (s + 17) (by omega) (by omega) (by omega)) (nh_le hO) (fun i hi => e i (by omega)),
        rs_h2_of (rs_h2 hR) (hz (s + 18) (by omega) (by omega) (by omega)) (nh_le hO) (fun i hi => e i (by omega)),
        rs_rn_of (rs_rn hR) (congrFun (hz (s + 19) (by omega) (by omega) (by omega)) 4) (fun i hi => e i (by omega)),
        rs_rc_of (rs_rc hR) (hz (s + 20) (by omega) (by omega) (by omega)) (nr_lt hO) (fun i hi => e i (by omega)),
        rs_rw_of (rs_rw hR) (hz (s + 21) (by omega) (by omega) (by omega)) (nr_lt hO) (nc_lt hO) (fun i hi => e i (by omega)),
        rs_rs_of (rs_rs hR) (hz (s + 22) (by omega) (by omega) (by omega)) (hz (s + 23) (by omega) (by omega) (by omega)) (nr_lt hO) (nc_lt hO) (fun i hi => e i (by omega)),
        rs_gc_of (rs_gc hR) (hz (s + 25) (by omega) (by omega) (by omega)) (fun i hi => e i (by omega)),
        rs_gr_of (rs_gr hR) (hz (s + 26) (by omega) (by omega) (by omega)) (fun i hi => e i (by omega)),
        rs_warm_of (rs_warm hR) (hz (s + 27) (by omega) (by omega) (by omega)) (fun i hi => e i (by omega)),
        rs_ice_of (rs_ice hR) (hz (s + 28) (by omega) (by omega) (by omega)) (fun i hi => e i (by omega)),
        rs_dug_of (rs_dug hR) (hz (s + 29) (by omega) (by omega) (by omega)) (fun i hi => e i (by omega)),
        rs_shaft_of (rs_shaft hR) (hz (s + 30) (by omega) (by omega) (by omega)) (fun i hi => e i (by omega)),
        rs_sums_of (rs_sums hR) (hz (s + 31) (by omega) (by omega) (by omega)) (fun i hi => e i (by omega)),
        rs_sc_of (rs_sc hR) (hf 10 (by omega)) (fun i hi => e i (by omega)),
        rs_dc_of (rs_dc hR) (hf 11 (by omega)) (fun i hi => e i (by omega)),
        rs_cold_of (rs_cold hR) (hf 12 (by omega)) (fun i hi => e i (by omega)),
        rs_lines_of (rs_lines hR) (hf 13 (by omega)) (fun i hi => e i (by omega)),
        rs_ticks_of (rs_ticks hR) (hf 14 (by omega)) (fun i hi => e i (by omega)),
        rs_fl_of (rs_fl hR) (hf 15 (by omega)) (fun i hi => e i (by omega)),
        rs_fls_of (rs_fls hR) (hf 16 (by omega)) (fun i hi => e i (by omega))⟩
      · exact ⟨ok_kd_of (ok_kd hO)  (fun i hi => e i (by omega)),
        ok_gl_of (ok_gl hO)  (fun i hi => e i (by omega)),
        ok_lat_of (ok_lat hO)  (fun i hi => e i (by omega)),
        ok_mark_of (ok_mark hO)  (fun i hi => e i (by omega)),
        ok_sp_of (ok_sp hO)  (fun i hi => e i (by omega)),
        ok_far_of (ok_far hO)  (fun i hi => e i (by omega)),
        ok_warm_of (ok_warm hO)  (fun i hi => e i (by omega)),
        ok_ice_of (ok_ice hO) (fun c hc => kd_lt hO hc) (fun i hi => e i (by omega)),
        ok_dug_of (ok_dug hO)  (fun i hi => e i (by omega)),
        ok_dsh_of (ok_dsh hO)  (fun i hi => e i (by omega)),
        ok_pn_of (ok_pn hO)  (fun i hi => e i (by omega)),
        by intro p hp; rw [n2] at hp; rw [e (624 + 6 * p) (by omega)]; exact ok_pc hO p hp,
        by intro p r hp hr; rw [n2] at hp hr; rw [e (624 + 6 * p) (by omega), e (624 + 6 * r) (by omega)]; exact ok_pd hO p r hp hr,
        by intro p hp; rw [n2] at hp; rw [e (624 + 6 * p + 1) (by omega)]; exact ok_pa hO p hp,
        by intro p hp; rw [n2] at hp; rw [e (624 + 6 * p + 2) (by omega)]; exact ok_pl hO p hp,
        by
        intro p hp
        rw [n2] at hp
        rw [x93]
        simp only [ups_eq]
        by_cases c : p = n
        · rw [if_pos (by omega)]; exact hb
        · rw [if_neg (by omega)]; exact ok_pr hO p hp,
        ok_hn_of (ok_hn hO)  (fun i hi => e i (by omega)),
        ok_hc_of (ok_hc hO) (nh_le hO) (fun i hi => e i (by omega)),
        ok_rn_of (ok_rn hO)  (fun i hi => e i (by omega)),
        ok_rc_of (ok_rc hO) (nr_lt hO) (fun i hi => e i (by omega)),
        ok_rw_of (ok_rw hO) (nr_lt hO) (nc_lt hO) (fun i hi => e i (by omega)),
        ok_gc_of (ok_gc hO)  (fun i hi => e i (by omega)),
        ok_sh_of (ok_sh hO)  (fun i hi => e i (by omega)),
        ok_cold_of (ok_cold hO)  (fun i hi => e i (by omega)),
        ok_fl_of (ok_fl hO)  (fun i hi => e i (by omega))⟩
      · rw [e 1 (by omega)]; exact in_tk h
  · have k := isPipe_ok hM hO p
    rw [if_neg hp] at k
    refine ⟨0, z, z, s, d, ?_, by rw [mk_92 hM], ?_, h⟩
    · by_cases q : p < 0
      · rw [if_pos q]
      · have q2 : ¬ p < nI (nPW (zI z 93)) := fun g => hp ⟨q, g⟩
        rw [if_neg q]
        simp (disch := omega) [gI, gR, pI, pR, aI, sI, aL, sL, aO, aR, sR, aN, onul, bnd, isC, cpI, cpL, sLen, sCh, nwC, zK_wI, zR_wI, zL_wI, zN_wI, zI_wI, zK_wL, zR_wL, zI_wL, zN_wL, zL_wL, zK_wR, zI_wR, zL_wR, zN_wR, zR_wR, ups_eq, inb_nI, nI_clamp, wI_wI, nI_add, pk_mul, add_c, c_add, c_mul, lt_c, le_c, eq_c, gt_c, ge_c, inb_c, clamp_c, ladd, mk_92, mk_93, mk_94, mk_95, mk_96, mk_97, mk_98, mk_99, mk_100, mk_101, mk_102, mk_103, mk_104, mk_105, mk_106, mk_107, mk_108, mk_109, mk_110, mk_111, mk_112, mk_113, mk_114, mr_92_1, mr_92_2, mr_92_3, mr_92_4, mr_92_5, mr_92_7, mr_92_15, mr_92_16, mr_92_17, mr_92_24, mr_92_25, mr_92_26, mr_92_27, mr_92_28, mr_92_29, mr_92_30, mr_92_32, mr_92_33, mr_92_36, mr_92_37, mr_92_38, mr_92_39, ck_0, ck_65, ck_66, ck_67, ck_68, ck_69, ck_70, ck_71, ck_72, ck_73, ck_74, ck_75, ck_76, ck_77, ck_78, ck_79, ck_80, ck_81, ck_82, ck_83, ck_84, ck_85, ck_86, ck_87, ck_88, ck_89, ck_90, ck_91, cr_0_2, cr_0_3, cr_0_4, cr_0_5, cr_0_6, cr_0_7, cr_0_8, cr_66_0, cr_68_0, cr_68_1, cr_70_0, cr_70_1, cr_70_2, cr_74_0, cr_74_1, cr_74_2, cr_74_7, cr_74_8, cr_74_9, cr_83_0, cr_83_1, cr_83_2, cr_84_0, cr_84_1, cr_84_2, cr_84_3, sk_0, sk_1, sk_2, sk_3, sk_4, sk_5, sk_6, sk_7, sk_8, sk_9, sk_10, sk_11, sk_12, sk_13, sk_14, sk_15, sk_16, sk_17, sk_18, sk_19, sk_20, sk_21, sk_22, sk_23, sk_24, sk_25, sk_26, sk_27, sk_28, sk_29, sk_30, sk_31, sr_0_0, sr_0_1, sr_0_2, sr_0_3, sr_0_4, sr_0_5, sr_0_6, sr_0_7, sr_0_8, sr_0_9, sr_1_0, sr_1_1, sr_1_2, sr_1_3, sr_1_4, sr_1_5, sr_8_0, sr_8_1, sr_8_2, sr_8_3, sr_8_4, sr_8_5, sr_15_0, sr_15_1, sr_15_2, sr_19_0, sr_19_1, sr_19_2, sr_19_3, sr_24_0, sr_24_1, rs_lead hR, rs_ilead hR, rs_latent hR, rs_mark hR, rs_ground hR, rs_far hR, rs_pn hR, rs_p0 hR, rs_p1 hR, rs_p2 hR, rs_p3 hR, rs_p4 hR, rs_p5 hR, rs_hn hR, rs_h0 hR, rs_h1 hR, rs_h2 hR, rs_rn hR, rs_rc hR, rs_gc hR, rs_warm hR, rs_ice hR, rs_dug hR, rs_shaft hR, rs_sums hR, rs_sc hR, rs_dc hR, rs_cold hR, rs_lines hR, rs_ticks hR, rs_fl hR, rs_fls hR, hM, hS, hC, hN, np_eq hO, q2]
    · simp (disch := omega) [gI, gR, pI, pR, aI, sI, aL, sL, aO, aR, sR, aN, onul, bnd, isC, cpI, cpL, sLen, sCh, nwC, zK_wI, zR_wI, zL_wI, zN_wI, zI_wI, zK_wL, zR_wL, zI_wL, zN_wL, zL_wL, zK_wR, zI_wR, zL_wR, zN_wR, zR_wR, ups_eq, inb_nI, nI_clamp, wI_wI, nI_add, pk_mul, add_c, c_add, c_mul, lt_c, le_c, eq_c, gt_c, ge_c, inb_c, clamp_c, ladd, mk_92, mk_93, mk_94, mk_95, mk_96, mk_97, mk_98, mk_99, mk_100, mk_101, mk_102, mk_103, mk_104, mk_105, mk_106, mk_107, mk_108, mk_109, mk_110, mk_111, mk_112, mk_113, mk_114, mr_92_1, mr_92_2, mr_92_3, mr_92_4, mr_92_5, mr_92_7, mr_92_15, mr_92_16, mr_92_17, mr_92_24, mr_92_25, mr_92_26, mr_92_27, mr_92_28, mr_92_29, mr_92_30, mr_92_32, mr_92_33, mr_92_36, mr_92_37, mr_92_38, mr_92_39, ck_0, ck_65, ck_66, ck_67, ck_68, ck_69, ck_70, ck_71, ck_72, ck_73, ck_74, ck_75, ck_76, ck_77, ck_78, ck_79, ck_80, ck_81, ck_82, ck_83, ck_84, ck_85, ck_86, ck_87, ck_88, ck_89, ck_90, ck_91, cr_0_2, cr_0_3, cr_0_4, cr_0_5, cr_0_6, cr_0_7, cr_0_8, cr_66_0, cr_68_0, cr_68_1, cr_70_0, cr_70_1, cr_70_2, cr_74_0, cr_74_1, cr_74_2, cr_74_7, cr_74_8, cr_74_9, cr_83_0, cr_83_1, cr_83_2, cr_84_0, cr_84_1, cr_84_2, cr_84_3, sk_0, sk_1, sk_2, sk_3, sk_4, sk_5, sk_6, sk_7, sk_8, sk_9, sk_10, sk_11, sk_12, sk_13, sk_14, sk_15, sk_16, sk_17, sk_18, sk_19, sk_20, sk_21, sk_22, sk_23, sk_24, sk_25, sk_26, sk_27, sk_28, sk_29, sk_30, sk_31, sr_0_0, sr_0_1, sr_0_2, sr_0_3, sr_0_4, sr_0_5, sr_0_6, sr_0_7, sr_0_8, sr_0_9, sr_1_0, sr_1_1, sr_1_2, sr_1_3, sr_1_4, sr_1_5, sr_8_0, sr_8_1, sr_8_2, sr_8_3, sr_8_4, sr_8_5, sr_15_0, sr_15_1, sr_15_2, sr_19_0, sr_19_1, sr_19_2, sr_19_3, sr_24_0, sr_24_1, rs_lead hR, rs_ilead hR, rs_latent hR, rs_mark hR, rs_ground hR, rs_far hR, rs_pn hR, rs_p0 hR, rs_p1 hR, rs_p2 hR, rs_p3 hR, rs_p4 hR, rs_p5 hR, rs_hn hR, rs_h0 hR, rs_h1 hR, rs_h2 hR, rs_rn hR, rs_rc hR, rs_gc hR, rs_warm hR, rs_ice hR, rs_dug hR, rs_shaft hR, rs_sums hR, rs_sc hR, rs_dc hR, rs_cold hR, rs_lines hR, rs_ticks hR, rs_fl hR, rs_fls hR, hM, hS, hC, hN, k]
theorem op_gauge (g x y v : Int32) : Op (m_X11_gauge 0 g x y v) (m_X12_gauge 92 g x y v) := by
  intro z s d h
  have hS := in_S h; have hR := in_R h; have hO := in_ok h; have hM := in_M h; have hC := in_C h; have hN := in_now h
  have hs := in_lo h
  unfold m_X11_gauge m_X12_gauge m_X11_gauge_B22 m_X11_gauge_B23
  have e10 : ∀ x : Int32, x < 10 ↔ x ≤ 9 := fun x => by
    rw [Int32.lt_iff_toInt_lt, Int32.le_iff_toInt_le, show (10 : Int32).toInt = 10 by decide, show (9 : Int32).toInt = 9 by decide]
    omega
  have e5 : ∀ y : Hp, m_X12_in v.toInt64 (-500) 500 y = some (if (-500 : Int32) ≤ v ∧ v ≤ 500 then 1 else 0, y) := fun y => by
    rw [show (-500 : Int64) = (-500 : Int32).toInt64 by decide, show (500 : Int64) = (500 : Int32).toInt64 by decide, in32]
  simp only [isCell_ok, isPlace_ok, e5, in_lit _ 0 9 (show (0 : Nat) < 2 ^ 31 by decide) (by decide), bnd_some, e10]
  by_cases hg : 0 ≤ g ∧ g ≤ 9
  · by_cases hp : (0 ≤ x ∧ x ≤ 11) ∧ 0 ≤ y ∧ y ≤ 11
    · by_cases hv : (-500 : Int32) ≤ v ∧ v ≤ 500
      · obtain ⟨n, rfl, hn⟩ := rng 9 (by decide) hg
        obtain ⟨a, rfl, ha⟩ := rng 11 (by decide) hp.1
        obtain ⟨b, rfl, hb⟩ := rng 11 (by decide) hp.2
        obtain ⟨c, hc, ec⟩ : ∃ c, c < 144 ∧ 12 * b + a = c := ⟨_, by omega, rfl⟩
        obtain ⟨y1, hy1⟩ : ∃ y, y = wI z (s + 25) (ups (zI z (s + 25)) n (nI c)) := ⟨_, rfl⟩
        obtain ⟨y, hy⟩ : ∃ y, y = wI y1 (s + 26) (ups (zI z (s + 26)) n v) := ⟨_, rfl⟩
        obtain ⟨x, hx⟩ : ∃ x, x = wI y 93 (ups (ups (zI z 93) (790 + 2 * n) (nI c)) (791 + 2 * n) v) := ⟨_, rfl⟩
        have y93 : zI y 93 = zI z 93 := by rw [hy, zI_ne (by omega), hy1, zI_ne (by omega)]
        have hMy : LayM y := hM.of (by rw [hy, zK_wI, hy1, zK_wI]) (by rw [hy, zR_wI, hy1, zR_wI])
        have ex : ∀ a, a ≠ s + 25 → a ≠ s + 26 → a ≠ 93 → zI x a = zI z a := fun a h1 h2 h3 => by rw [hx, zI_ne h3, hy, zI_ne h2, hy1, zI_ne h1]
        have x93 : zI x 93 = ups (ups (zI z 93) (790 + 2 * n) (nI c)) (791 + 2 * n) v := by rw [hx, zI_eq]
        have xs : zI x (s + 25) = ups (zI z (s + 25)) n (nI c) := by rw [hx, zI_ne (by omega), hy, zI_ne (by omega), hy1, zI_eq]
        have xt : zI x (s + 26) = ups (zI z (s + 26)) n v := by rw [hx, zI_ne (by omega), hy, zI_eq]
        refine ⟨0, y, x, s, d, ?_, by rw [mk_92 hMy], ?_, ?_⟩
        · rw [if_neg (Int32.not_lt.mpr hg.1), if_pos hg.2, if_pos hp, if_neg (by decide), if_neg (by decide), if_neg (Int32.not_lt.mpr hv.1), if_neg (Int32.not_lt.mpr hv.2)]
          simp (disch := omega) [gI, gR, pI, pR, aI, sI, aL, sL, aO, aR, sR, aN, onul, bnd, isC, cpI, cpL, sLen, sCh, nwC, zK_wI, zR_wI, zL_wI, zN_wI, zI_wI, zK_wL, zR_wL, zI_wL, zN_wL, zL_wL, zK_wR, zI_wR, zL_wR, zN_wR, zR_wR, ups_eq, inb_nI, nI_clamp, wI_wI, nI_add, pk_mul, add_c, c_add, c_mul, lt_c, le_c, eq_c, gt_c, ge_c, inb_c, clamp_c, ladd, mk_92, mk_93, mk_94, mk_95, mk_96, mk_97, mk_98, mk_99, mk_100, mk_101, mk_102, mk_103, mk_104, mk_105, mk_106, mk_107, mk_108, mk_109, mk_110, mk_111, mk_112, mk_113, mk_114, mr_92_1, mr_92_2, mr_92_3, mr_92_4, mr_92_5, mr_92_7, mr_92_15, mr_92_16, mr_92_17, mr_92_24, mr_92_25, mr_92_26, mr_92_27, mr_92_28, mr_92_29, mr_92_30, mr_92_32, mr_92_33, mr_92_36, mr_92_37, mr_92_38, mr_92_39, ck_0, ck_65, ck_66, ck_67, ck_68, ck_69, ck_70, ck_71, ck_72, ck_73, ck_74, ck_75, ck_76, ck_77, ck_78, ck_79, ck_80, ck_81, ck_82, ck_83, ck_84, ck_85, ck_86, ck_87, ck_88, ck_89, ck_90, ck_91, cr_0_2, cr_0_3, cr_0_4, cr_0_5, cr_0_6, cr_0_7, cr_0_8, cr_66_0, cr_68_0, cr_68_1, cr_70_0, cr_70_1, cr_70_2, cr_74_0, cr_74_1, cr_74_2, cr_74_7, cr_74_8, cr_74_9, cr_83_0, cr_83_1, cr_83_2, cr_84_0, cr_84_1, cr_84_2, cr_84_3, sk_0, sk_1, sk_2, sk_3, sk_4, sk_5, sk_6, sk_7, sk_8, sk_9, sk_10, sk_11, sk_12, sk_13, sk_14, sk_15, sk_16, sk_17, sk_18, sk_19, sk_20, sk_21, sk_22, sk_23, sk_24, sk_25, sk_26, sk_27, sk_28, sk_29, sk_30, sk_31, sr_0_0, sr_0_1, sr_0_2, sr_0_3, sr_0_4, sr_0_5, sr_0_6, sr_0_7, sr_0_8, sr_0_9, sr_1_0, sr_1_1, sr_1_2, sr_1_3, sr_1_4, sr_1_5, sr_8_0, sr_8_1, sr_8_2, sr_8_3, sr_8_4, sr_8_5, sr_15_0, sr_15_1, sr_15_2, sr_19_0, sr_19_1, sr_19_2, sr_19_3, sr_24_0, sr_24_1, rs_lead hR, rs_ilead hR, rs_latent hR, rs_mark hR, rs_ground hR, rs_far hR, rs_pn hR, rs_p0 hR, rs_p1 hR, rs_p2 hR, rs_p3 hR, rs_p4 hR, rs_p5 hR, rs_hn hR, rs_h0 hR, rs_h1 hR, rs_h2 hR, rs_rn hR, rs_rc hR, rs_gc hR, rs_warm hR, rs_ice hR, rs_dug hR, rs_shaft hR, rs_sums hR, rs_sc hR, rs_dc hR, rs_cold hR, rs_lines hR, rs_ticks hR, rs_fl hR, rs_fls hR, hM, hS, hC, hN, hy, hy1, ec]
        · rw [if_pos hg]
          simp only [if_pos hp, if_pos hv, show ((1 : Int32) = 0) = False by simp, if_false]
          simp (disch := omega) [gI, gR, pI, pR, aI, sI, aL, sL, aO, aR, sR, aN, onul, bnd, isC, cpI, cpL, sLen, sCh, nwC, zK_wI, zR_wI, zL_wI, zN_wI, zI_wI, zK_wL, zR_wL, zI_wL, zN_wL, zL_wL, zK_wR, zI_wR, zL_wR, zN_wR, zR_wR, ups_eq, inb_nI, nI_clamp, wI_wI, nI_add, pk_mul, add_c, c_add, c_mul, lt_c, le_c, eq_c, gt_c, ge_c, inb_c, clamp_c, ladd, mk_92, mk_93, mk_94, mk_95, mk_96, mk_97, mk_98, mk_99, mk_100, mk_101, mk_102, mk_103, mk_104, mk_105, mk_106, mk_107, mk_108, mk_109, mk_110, mk_111, mk_112, mk_113, mk_114, mr_92_1, mr_92_2, mr_92_3, mr_92_4, mr_92_5, mr_92_7, mr_92_15, mr_92_16, mr_92_17, mr_92_24, mr_92_25, mr_92_26, mr_92_27, mr_92_28, mr_92_29, mr_92_30, mr_92_32, mr_92_33, mr_92_36, mr_92_37, mr_92_38, mr_92_39, hMy, y93, hx, ec]
        · have hz : ∀ a, s ≤ a → a < s + 32 → (a ≠ s + 25 ∧ a ≠ s + 26) → zI x a = zI z a := fun a h1 h2 h3 => ex a h3.1 h3.2 (by omega)
          have hf : ∀ k, k ≠ 99 → zI x s k = zI z s k := fun k _ => by rw [ex s (by omega) (by omega) (by omega)]
          have e : ∀ i, (i ≠ 790 + 2 * n ∧ i ≠ 791 + 2 * n) → zI x 93 i = zI z 93 i := fun i hi => by rw [x93, up_ne hi.2, up_ne hi.1]
          refine In.re3 h (by rw [hx, hy, hy1]; rfl) (by rw [hx, hy, hy1]; rfl) (by rw [hx, hy, hy1]; rfl) (by rw [hx, hy, hy1]; rfl) (fun a ha => ex a (by omega) (by omega) (by omega)) (by rw [ex 66 (by omega) (by omega) (by omega)]) (fun k _ => by rw [ex 92 (by omega) (by omega) (by omega)]) ?_ ?_ ?_
          · exact ⟨rs_lead_of (rs_lead hR) (hz (s + 2) (by omega) (by omega) (by omega)) (fun i hi => e i (by omega)),
            rs_ilead_of (rs_ilead hR) (hz (s + 3) (by omega) (by omega) (by omega)) (fun i hi => e i (by omega)),
            rs_latent_of (rs_latent hR) (hz (s + 4) (by omega) (by omega) (by omega)) (fun i hi => e i (by omega)),
            rs_mark_of (rs_mark hR) (hz (s + 5) (by omega) (by omega) (by omega)) (fun i hi => e i (by omega)),
            rs_ground_of (rs_ground hR) (hz (s + 6) (by omega) (by omega) (by omega)) (fun i hi => e i (by omega)),
            rs_speed_of (rs_speed hR) (hz (s + 7) (by omega) (by omega) (by omega)) (fun i hi => e i (by omega)),
            rs_far_of (rs_far hR) (congrFun (hz (s + 1) (by omega) (by omega) (by omega)) 6) (fun i hi => e i (by omega)),
            rs_pn_of (rs_pn hR) (congrFun (hz (s + 8) (by omega) (by omega) (by omega)) 6) (fun i hi => e i (by omega)),
            rs_p0_of (rs_p0 hR) (hz (s + 9) (by omega) (by omega) (by omega)) (np_le hO) (fun i hi => e i (by omega)),
            rs_p1_of (rs_p1 hR) (hz (s + 10) (by omega) (by omega) (by omega)) (np_le hO) (fun i hi => e i (by omega)),
            rs_p2_of (rs_p2 hR) (hz (s + 11) (by omega) (by omega) (by omega)) (np_le hO) (fun i hi => e i (by omega)),
            rs_p3_of (rs_p3 hR) (hz (s + 12) (by omega) (by omega) (by omega)) (np_le hO) (fun i hi => e i (by omega)),
            rs_p4_of (rs_p4 hR) (hz (s + 13) (by omega) (by omega) (by omega)) (np_le hO) (fun i hi => e i (by omega)),
            rs_p5_of (rs_p5 hR) (hz (s + 14) (by omega) (by omega) (by omega)) (np_le hO) (fun i hi => e i (by omega)),
            rs_hn_of (rs_hn hR) (congrFun (hz (s + 15) (by omega) (by omega) (by omega)) 3) (fun i hi => e i (by omega)),
            rs_h0_of (rs_h0 hR) (hz (s + 16) (by omega) (by omega) (by omega)) (nh_le hO) (fun i hi => e i (by omega)),
            rs_h1_of (rs_h1 hR) (hz (s + 17) (by omega) (by omega) (by omega)) (nh_le hO) (fun i hi => e i (by omega)),
            rs_h2_of (rs_h2 hR) (hz (s + 18) (by omega) (by omega) (by omega)) (nh_le hO) (fun i hi => e i (by omega)),
            rs_rn_of (rs_rn hR) (congrFun (hz (s + 19) (by omega) (by omega) (by omega)) 4) (fun i hi => e i (by omega)),
            rs_rc_of (rs_rc hR) (hz (s + 20) (by omega) (by omega) (by omega)) (nr_lt hO) (fun i hi => e i (by omega)),
            rs_rw_of (rs_rw hR) (hz (s + 21) (by omega) (by omega) (by omega)) (nr_lt hO) (nc_lt hO) (fun i hi => e i (by omega)),
            rs_rs_of (rs_rs hR) (hz (s + 22) (by omega) (by omega) (by omega)) (hz (s + 23) (by omega) (by omega) (by omega)) (nr_lt hO) (nc_lt hO) (fun i hi => e i (by omega)),
            by
            intro k hk
            rw [xs, x93]
            simp only [ups_eq]
            by_cases q : k = n
            · rw [if_pos q, if_neg (by omega), if_pos (by omega)]
            · rw [if_neg q, if_neg (by omega), if_neg (by omega)]
              exact rs_gc hR k hk,
            by
            intro k hk
            rw [xt, x93]
            simp only [ups_eq]
            by_cases q : k = n
            · intro _
              rw [if_pos q, if_pos (by omega)]
            · rw [if_neg q, if_neg (by omega), if_neg (by omega), if_neg (by omega), if_neg (by omega)]
              exact rs_gr hR k hk,
            rs_warm_of (rs_warm hR) (hz (s + 27) (by omega) (by omega) (by omega)) (fun i hi => e i (by omega)),
            rs_ice_of (rs_ice hR) (hz (s + 28) (by omega) (by omega) (by omega)) (fun i hi => e i (by omega)),
            rs_dug_of (rs_dug hR) (hz (s + 29) (by omega) (by omega) (by omega)) (fun i hi => e i (by omega)),
            rs_shaft_of (rs_shaft hR) (hz (s + 30) (by omega) (by omega) (by omega)) (fun i hi => e i (by omega)),
            rs_sums_of (rs_sums hR) (hz (s + 31) (by omega) (by omega) (by omega)) (fun i hi => e i (by omega)),
            rs_sc_of (rs_sc hR) (hf 10 (by omega)) (fun i hi => e i (by omega)),
            rs_dc_of (rs_dc hR) (hf 11 (by omega)) (fun i hi => e i (by omega)),
            rs_cold_of (rs_cold hR) (hf 12 (by omega)) (fun i hi => e i (by omega)),
            rs_lines_of (rs_lines hR) (hf 13 (by omega)) (fun i hi => e i (by omega)),
            rs_ticks_of (rs_ticks hR) (hf 14 (by omega)) (fun i hi => e i (by omega)),
            rs_fl_of (rs_fl hR) (hf 15 (by omega)) (fun i hi => e i (by omega)),
            rs_fls_of (rs_fls hR) (hf 16 (by omega)) (fun i hi => e i (by omega))⟩
          · exact ⟨ok_kd_of (ok_kd hO)  (fun i hi => e i (by omega)),
            ok_gl_of (ok_gl hO)  (fun i hi => e i (by omega)),
            ok_lat_of (ok_lat hO)  (fun i hi => e i (by omega)),
            ok_mark_of (ok_mark hO)  (fun i hi => e i (by omega)),
            ok_sp_of (ok_sp hO)  (fun i hi => e i (by omega)),
            ok_far_of (ok_far hO)  (fun i hi => e i (by omega)),
            ok_warm_of (ok_warm hO)  (fun i hi => e i (by omega)),
            ok_ice_of (ok_ice hO) (fun c hc => kd_lt hO hc) (fun i hi => e i (by omega)),
            ok_dug_of (ok_dug hO)  (fun i hi => e i (by omega)),
            ok_dsh_of (ok_dsh hO)  (fun i hi => e i (by omega)),
            ok_pn_of (ok_pn hO)  (fun i hi => e i (by omega)),
            ok_pc_of (ok_pc hO) (np_le hO) (fun i hi => e i (by omega)),
            ok_pd_of (ok_pd hO) (np_le hO) (fun i hi => e i (by omega)),
            ok_pa_of (ok_pa hO) (np_le hO) (fun i hi => e i (by omega)),
            ok_pl_of (ok_pl hO) (np_le hO) (fun i hi => e i (by omega)),
            ok_pr_of (ok_pr hO) (np_le hO) (fun i hi => e i (by omega)),
            ok_hn_of (ok_hn hO)  (fun i hi => e i (by omega)),
            ok_hc_of (ok_hc hO) (nh_le hO) (fun i hi => e i (by omega)),
            ok_rn_of (ok_rn hO)  (fun i hi => e i (by omega)),
            ok_rc_of (ok_rc hO) (nr_lt hO) (fun i hi => e i (by omega)),
            ok_rw_of (ok_rw hO) (nr_lt hO) (nc_lt hO) (fun i hi => e i (by omega)),
            by
            intro k hk
            rw [x93]
            simp only [ups_eq]
            by_cases q : k = n
            · rw [if_neg (by omega), if_pos (by omega)]
              exact Or.inr (isN.mk hc (by decide))
            · rw [if_neg (by omega), if_neg (by omega)]
              exact ok_gc hO k hk,
            ok_sh_of (ok_sh hO)  (fun i hi => e i (by omega)),
            ok_cold_of (ok_cold hO)  (fun i hi => e i (by omega)),
            ok_fl_of (ok_fl hO)  (fun i hi => e i (by omega))⟩
          · rw [e 1 (by omega)]; exact in_tk h
      · refine ⟨-2, z, z, s, d, ?_, by rw [mk_92 hM], ?_, h⟩
        · rw [if_neg (Int32.not_lt.mpr hg.1), if_pos hg.2, if_pos hp, if_neg (by decide), if_neg (by decide)]
          by_cases q : v < -500
          · rw [if_pos q]
          · rw [if_neg q, if_pos (Int32.not_le.mp (fun g => hv ⟨Int32.not_lt.mp q, g⟩))]
        · rw [if_pos hg]
          simp [hp, hv]
    · refine ⟨-2, z, z, s, d, ?_, by rw [mk_92 hM], ?_, h⟩
      · rw [if_neg (Int32.not_lt.mpr hg.1), if_pos hg.2, if_neg hp]
        simp
      · rw [if_pos hg]
        simp [hp]
  · refine ⟨-2, z, z, s, d, ?_, by rw [mk_92 hM], ?_, h⟩
    · by_cases q : g < 0
      · rw [if_pos q]; simp
      · rw [if_neg q, if_neg (fun k => hg ⟨Int32.not_lt.mp q, k⟩)]; simp
    · rw [if_neg hg]
      simp
