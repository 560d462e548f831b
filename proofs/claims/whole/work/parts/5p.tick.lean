/-! ===== houses and the flood by the class; the call tick ===== -/
theorem crackC_ok2 {z : Hp} {s q : Nat} {W : Nat → Int32} (hS : LayS z s) (hR : RelS z s W) (hO : OkW W q) : ∃ y, m_X8_crackHouses s z = some ((), y) ∧ Fi (fun a => a = s + 18) z y ∧ RelS y s (crackW W) := by
  have hh := nh_lt hO
  unfold m_X8_crackHouses
  refine loopQ (X := Int32 × Hp) (fun f x => m_X8_crackHouses_L2 f s x.1 x.2) (fun t => ∃ y, t = some ((), y) ∧ Fi (fun a => a = s + 18) z y ∧ RelS y s (crackW W)) (fun n x => x.1 = nI n ∧ Fi (fun a => a = s + 18) z x.2 ∧ RelS x.2 s (ckW W n)) (nHW W) ?hs ?he 0 FU (0, z) (by omega) (FU_pos (by omega)) ⟨rfl, Fi.rfl', ?h0⟩
  case h0 =>
    have : ckW W 0 = W := funext fun i => ck_id (by omega)
    rw [this]
    exact hR
  case hs =>
    rintro n f ⟨v, x⟩ hn ⟨h1, h2, hRx⟩
    dsimp only at h1 h2 hRx
    subst h1
    have Sx := hS.fi h2
    have hc := ok_hc hO n hn
    have n3 : nHW (ckW W n) = nHW W := nHW_of (ck_id (by omega))
    obtain ⟨k, hk, ek, en⟩ : ∃ k, k < 11 ∧ W (732 + 3 * n) = nI k ∧ nn (W (732 + 3 * n)) = k := ⟨_, hc.2, hc.1, rfl⟩
    have e3 : zI x (s + 15) 3 = nI (nHW W) := by rw [rs_hn hRx, ck_id (by omega)]; exact nh_eq hO
    have e1 : zI x s 14 = W 1 := by rw [rs_ticks hRx, ck_id (by omega)]
    have eh : zI x (s + 16) n = nI k := by rw [rs_h0 hRx n (by omega), ck_id (by omega)]; exact ek
    have el : zI x (s + 17) n = W (733 + 3 * n) := by rw [rs_h1 hRx n (by omega), ck_id (by omega), show 732 + 3 * n + 1 = 733 + 3 * n by omega]
    have ec : zI x (s + 18) n = W (734 + 3 * n) := by rw [rs_h2 hRx n (by omega), ck_id (by omega), show 732 + 3 * n + 2 = 734 + 3 * n by omega]
    have lw : ∀ i, 336 ≤ i ∧ i < 624 → ckW W n i = W i := fun i hi => ck_id (by omega)
    have l1 : m_X8_liftOfColumn s (nI k) x = some (liftW W k, x) := by rw [liftC_ok Sx hRx (by omega), liftW_of lw (by omega)]
    have l2 : m_X8_liftOfColumn s (nI (k + 1)) x = some (liftW W (k + 1), x) := by rw [liftC_ok Sx hRx (by omega), liftW_of lw (by omega)]
    have bb : ckB W n = (decide (W (734 + 3 * n) = -1) && decide (W (733 + 3 * n) < absJ (liftW W k - liftW W (k + 1)))) := by unfold ckB; rw [en]
    left
    by_cases c : W (734 + 3 * n) = -1 ∧ W (733 + 3 * n) < absJ (liftW W k - liftW W (k + 1))
    · have b1 : ckB W n = true := by rw [bb]; simp [c]
      obtain ⟨w, hw⟩ : ∃ w, w = wI x (s + 18) (ups (zI x (s + 18)) n (W 1)) := ⟨_, rfl⟩
      have hz : ∀ a, s ≤ a → a < s + 32 → a ≠ s + 18 → zI w a = zI x a := fun a _ _ h => by rw [hw, zI_ne h]
      have hf : ∀ k, k < 1000 → zI w s k = zI x s k := fun k _ => by rw [hw, zI_ne (by omega)]
      have e : ∀ i, i ≠ 734 + 3 * n → ckW W (n + 1) i = ckW W n i := fun i hi => by rw [ck_s, if_neg (fun g => hi g.1)]
      have m3 : nHW (ckW W (n + 1)) = nHW W := nHW_of (ck_id (by omega))
      have hO' := okck hO (n := n) (by omega)
      refine ⟨(nI (n + 1), w), ⟨rfl, by rw [hw]; exact h2.trans (Fi.w rfl), ?_⟩, ?_⟩
      · exact ⟨rs_lead_of (rs_lead hRx) (hz (s + 2) (by omega) (by omega) (by omega)) (fun i hi => e i (by omega)),
          rs_ilead_of (rs_ilead hRx) (hz (s + 3) (by omega) (by omega) (by omega)) (fun i hi => e i (by omega)),
          rs_latent_of (rs_latent hRx) (hz (s + 4) (by omega) (by omega) (by omega)) (fun i hi => e i (by omega)),
          rs_mark_of (rs_mark hRx) (hz (s + 5) (by omega) (by omega) (by omega)) (fun i hi => e i (by omega)),
          rs_ground_of (rs_ground hRx) (hz (s + 6) (by omega) (by omega) (by omega)) (fun i hi => e i (by omega)),
          rs_speed_of (rs_speed hRx) (hz (s + 7) (by omega) (by omega) (by omega)) (fun i hi => e i (by omega)),
          rs_far_of (rs_far hRx) (congrFun (hz (s + 1) (by omega) (by omega) (by omega)) 6) (fun i hi => e i (by omega)),
          rs_pn_of (rs_pn hRx) (congrFun (hz (s + 8) (by omega) (by omega) (by omega)) 6) (fun i hi => e i (by omega)),
          rs_p0_of (rs_p0 hRx) (hz (s + 9) (by omega) (by omega) (by omega)) (np_le hO') (fun i hi => e i (by omega)),
          rs_p1_of (rs_p1 hRx) (hz (s + 10) (by omega) (by omega) (by omega)) (np_le hO') (fun i hi => e i (by omega)),
          rs_p2_of (rs_p2 hRx) (hz (s + 11) (by omega) (by omega) (by omega)) (np_le hO') (fun i hi => e i (by omega)),
          rs_p3_of (rs_p3 hRx) (hz (s + 12) (by omega) (by omega) (by omega)) (np_le hO') (fun i hi => e i (by omega)),
          rs_p4_of (rs_p4 hRx) (hz (s + 13) (by omega) (by omega) (by omega)) (np_le hO') (fun i hi => e i (by omega)),
          rs_p5_of (rs_p5 hRx) (hz (s + 14) (by omega) (by omega) (by omega)) (np_le hO') (fun i hi => e i (by omega)),
          rs_hn_of (rs_hn hRx) (congrFun (hz (s + 15) (by omega) (by omega) (by omega)) 3) (fun i hi => e i (by omega)),
          fun g hg => by rw [m3] at hg; rw [hz (s + 16) (by omega) (by omega) (by omega), e _ (by omega)]; exact rs_h0 hRx g (by omega),
          fun g hg => by rw [m3] at hg; rw [hz (s + 17) (by omega) (by omega) (by omega), e _ (by omega)]; exact rs_h1 hRx g (by omega),
          fun g hg => by
            rw [m3] at hg
            rw [hw, zI_eq, ups_eq, ck_s]
            by_cases gn : g = n
            · rw [if_pos gn, if_pos ⟨by omega, b1⟩]
            · rw [if_neg gn, if_neg (fun q => gn (by omega))]
              exact rs_h2 hRx g (by omega),
          rs_rn_of (rs_rn hRx) (congrFun (hz (s + 19) (by omega) (by omega) (by omega)) 4) (fun i hi => e i (by omega)),
          rs_rc_of (rs_rc hRx) (hz (s + 20) (by omega) (by omega) (by omega)) (nr_lt hO') (fun i hi => e i (by omega)),
          rs_rw_of (rs_rw hRx) (hz (s + 21) (by omega) (by omega) (by omega)) (nr_lt hO') (nc_lt hO') (fun i hi => e i (by omega)),
          rs_rs_of (rs_rs hRx) (hz (s + 22) (by omega) (by omega) (by omega)) (hz (s + 23) (by omega) (by omega) (by omega)) (nr_lt hO') (nc_lt hO') (fun i hi => e i (by omega)),
          rs_gc_of (rs_gc hRx) (hz (s + 25) (by omega) (by omega) (by omega)) (fun i hi => e i (by omega)),
          rs_gr_of (rs_gr hRx) (hz (s + 26) (by omega) (by omega) (by omega)) (fun i hi => e i (by omega)),
          rs_warm_of (rs_warm hRx) (hz (s + 27) (by omega) (by omega) (by omega)) (fun i hi => e i (by omega)),
          rs_ice_of (rs_ice hRx) (hz (s + 28) (by omega) (by omega) (by omega)) (fun i hi => e i (by omega)),
          rs_dug_of (rs_dug hRx) (hz (s + 29) (by omega) (by omega) (by omega)) (fun i hi => e i (by omega)),
          rs_shaft_of (rs_shaft hRx) (hz (s + 30) (by omega) (by omega) (by omega)) (fun i hi => e i (by omega)),
          rs_sums_of (rs_sums hRx) (hz (s + 31) (by omega) (by omega) (by omega)) (fun i hi => e i (by omega)),
          rs_sc_of (rs_sc hRx) (hf 10 (by omega)) (fun i hi => e i (by omega)),
          rs_dc_of (rs_dc hRx) (hf 11 (by omega)) (fun i hi => e i (by omega)),
          rs_cold_of (rs_cold hRx) (hf 12 (by omega)) (fun i hi => e i (by omega)),
          rs_lines_of (rs_lines hRx) (hf 13 (by omega)) (fun i hi => e i (by omega)),
          rs_ticks_of (rs_ticks hRx) (hf 14 (by omega)) (fun i hi => e i (by omega)),
          rs_fl_of (rs_fl hRx) (hf 15 (by omega)) (fun i hi => e i (by omega)),
          rs_fls_of (rs_fls hRx) (hf 16 (by omega)) (fun i hi => e i (by omega))⟩
      · dsimp only
        rw [m_X8_crackHouses_L2, hw]
        simp (disch := omega) [gI, gR, pI, pR, aI, sI, aL, sL, aO, aR, sR, aN, onul, bnd, isC, cpI, cpL, sLen, sCh, nwC, zK_wI, zR_wI, zL_wI, zN_wI, zI_wI, zK_wL, zR_wL, zI_wL, zN_wL, zL_wL, zK_wR, zI_wR, zL_wR, zN_wR, zR_wR, ups_eq, inb_nI, nI_clamp, wI_wI, nI_add, pk_mul, add_c, c_add, c_mul, lt_c, le_c, eq_c, gt_c, ge_c, inb_c, clamp_c, ladd, sk_0, sk_1, sk_2, sk_3, sk_4, sk_5, sk_6, sk_7, sk_8, sk_9, sk_10, sk_11, sk_12, sk_13, sk_14, sk_15, sk_16, sk_17, sk_18, sk_19, sk_20, sk_21, sk_22, sk_23, sk_24, sk_25, sk_26, sk_27, sk_28, sk_29, sk_30, sk_31, sr_0_0, sr_0_1, sr_0_2, sr_0_3, sr_0_4, sr_0_5, sr_0_6, sr_0_7, sr_0_8, sr_0_9, sr_1_0, sr_1_1, sr_1_2, sr_1_3, sr_1_4, sr_1_5, sr_8_0, sr_8_1, sr_8_2, sr_8_3, sr_8_4, sr_8_5, sr_15_0, sr_15_1, sr_15_2, sr_19_0, sr_19_1, sr_19_2, sr_19_3, sr_24_0, sr_24_1, Sx, e3, e1, eh, el, ec, nI_ltI, hn, l1, l2, c, abs_ok, m_X8_crackHouses_B79]
    · have b1 : ¬ ckB W n = true := by
        rw [bb]
        simp
        exact fun g => Int32.not_lt.mp (fun k => c ⟨g, k⟩)
      have e : ckW W (n + 1) = ckW W n := funext fun i => by rw [ck_s, if_neg (fun g => b1 g.2)]
      refine ⟨(nI (n + 1), x), ⟨rfl, h2, by rw [e]; exact hRx⟩, ?_⟩
      dsimp only
      rw [m_X8_crackHouses_L2]
      by_cases c1 : W (734 + 3 * n) = -1
      · have c2 : ¬ W (733 + 3 * n) < absJ (liftW W k - liftW W (k + 1)) := fun g => c ⟨c1, g⟩
        simp (disch := omega) [gI, gR, pI, pR, aI, sI, aL, sL, aO, aR, sR, aN, onul, bnd, isC, cpI, cpL, sLen, sCh, nwC, zK_wI, zR_wI, zL_wI, zN_wI, zI_wI, zK_wL, zR_wL, zI_wL, zN_wL, zL_wL, zK_wR, zI_wR, zL_wR, zN_wR, zR_wR, ups_eq, inb_nI, nI_clamp, wI_wI, nI_add, pk_mul, add_c, c_add, c_mul, lt_c, le_c, eq_c, gt_c, ge_c, inb_c, clamp_c, ladd, sk_0, sk_1, sk_2, sk_3, sk_4, sk_5, sk_6, sk_7, sk_8, sk_9, sk_10, sk_11, sk_12, sk_13, sk_14, sk_15, sk_16, sk_17, sk_18, sk_19, sk_20, sk_21, sk_22, sk_23, sk_24, sk_25, sk_26, sk_27, sk_28, sk_29, sk_30, sk_31, sr_0_0, sr_0_1, sr_0_2, sr_0_3, sr_0_4, sr_0_5, sr_0_6, sr_0_7, sr_0_8, sr_0_9, sr_1_0, sr_1_1, sr_1_2, sr_1_3, sr_1_4, sr_1_5, sr_8_0, sr_8_1, sr_8_2, sr_8_3, sr_8_4, sr_8_5, sr_15_0, sr_15_1, sr_15_2, sr_19_0, sr_19_1, sr_19_2, sr_19_3, sr_24_0, sr_24_1, Sx, e3, e1, eh, el, ec, nI_ltI, hn, l1, l2, c1, c2, abs_ok, m_X8_crackHouses_B79]
      · simp (disch := omega) [gI, gR, pI, pR, aI, sI, aL, sL, aO, aR, sR, aN, onul, bnd, isC, cpI, cpL, sLen, sCh, nwC, zK_wI, zR_wI, zL_wI, zN_wI, zI_wI, zK_wL, zR_wL, zI_wL, zN_wL, zL_wL, zK_wR, zI_wR, zL_wR, zN_wR, zR_wR, ups_eq, inb_nI, nI_clamp, wI_wI, nI_add, pk_mul, add_c, c_add, c_mul, lt_c, le_c, eq_c, gt_c, ge_c, inb_c, clamp_c, ladd, sk_0, sk_1, sk_2, sk_3, sk_4, sk_5, sk_6, sk_7, sk_8, sk_9, sk_10, sk_11, sk_12, sk_13, sk_14, sk_15, sk_16, sk_17, sk_18, sk_19, sk_20, sk_21, sk_22, sk_23, sk_24, sk_25, sk_26, sk_27, sk_28, sk_29, sk_30, sk_31, sr_0_0, sr_0_1, sr_0_2, sr_0_3, sr_0_4, sr_0_5, sr_0_6, sr_0_7, sr_0_8, sr_0_9, sr_1_0, sr_1_1, sr_1_2, sr_1_3, sr_1_4, sr_1_5, sr_8_0, sr_8_1, sr_8_2, sr_8_3, sr_8_4, sr_8_5, sr_15_0, sr_15_1, sr_15_2, sr_19_0, sr_19_1, sr_19_2, sr_19_3, sr_24_0, sr_24_1, Sx, e3, e1, eh, el, ec, nI_ltI, hn, l1, l2, c1, abs_ok, m_X8_crackHouses_B79]
  case he =>
    rintro f ⟨v, x⟩ ⟨h1, h2, hRx⟩
    dsimp only at h1 h2 hRx ⊢
    subst h1
    have Sx := hS.fi h2
    have e3 : zI x (s + 15) 3 = nI (nHW W) := by rw [rs_hn hRx, ck_id (by omega)]; exact nh_eq hO
    refine ⟨x, ?_, h2, hRx⟩
    rw [m_X8_crackHouses_L2]
    simp (disch := omega) [gI, gR, pI, pR, aI, sI, aL, sL, aO, aR, sR, aN, onul, bnd, isC, cpI, cpL, sLen, sCh, nwC, zK_wI, zR_wI, zL_wI, zN_wI, zI_wI, zK_wL, zR_wL, zI_wL, zN_wL, zL_wL, zK_wR, zI_wR, zL_wR, zN_wR, zR_wR, ups_eq, inb_nI, nI_clamp, wI_wI, nI_add, pk_mul, add_c, c_add, c_mul, lt_c, le_c, eq_c, gt_c, ge_c, inb_c, clamp_c, ladd, sk_0, sk_1, sk_2, sk_3, sk_4, sk_5, sk_6, sk_7, sk_8, sk_9, sk_10, sk_11, sk_12, sk_13, sk_14, sk_15, sk_16, sk_17, sk_18, sk_19, sk_20, sk_21, sk_22, sk_23, sk_24, sk_25, sk_26, sk_27, sk_28, sk_29, sk_30, sk_31, sr_0_0, sr_0_1, sr_0_2, sr_0_3, sr_0_4, sr_0_5, sr_0_6, sr_0_7, sr_0_8, sr_0_9, sr_1_0, sr_1_1, sr_1_2, sr_1_3, sr_1_4, sr_1_5, sr_8_0, sr_8_1, sr_8_2, sr_8_3, sr_8_4, sr_8_5, sr_15_0, sr_15_1, sr_15_2, sr_19_0, sr_19_1, sr_19_2, sr_19_3, sr_24_0, sr_24_1, Sx, e3, nI_ltI]
/-- some cell is dug -/
theorem dc_pos {W : Nat → Int32} : ∀ n, n ≤ 144 → ∃ k, k ≤ n ∧ sm (fun c => bI (decide (W (480 + c) = 1))) n = nI k ∧ (0 < k ↔ orB (fun c => decide (W (480 + c) = 1)) n = true)
  | 0, _ => ⟨0, by omega, rfl, ⟨fun h => absurd h (by omega), fun h => absurd (show false = true from h) (by decide)⟩⟩
  | n + 1, hn => by
    obtain ⟨k, h1, h2, h3⟩ := dc_pos n (by omega)
    have es : orB (fun c => decide (W (480 + c) = 1)) (n + 1) = (orB (fun c => decide (W (480 + c) = 1)) n || decide (W (480 + n) = 1)) := rfl
    have em : sm (fun c => bI (decide (W (480 + c) = 1))) (n + 1) = sm (fun c => bI (decide (W (480 + c) = 1))) n + bI (decide (W (480 + n) = 1)) := rfl
    rw [es, em, h2]
    cases decide (W (480 + n) = 1) with
    | true => exact ⟨k + 1, by omega, nI_1 k, ⟨fun _ => by simp, fun _ => by omega⟩⟩
    | false =>
      refine ⟨k, by omega, Int32.add_zero _, ?_⟩
      rw [Bool.or_false]
      exact h3
theorem dc_iff {W : Nat → Int32} : 0 < dcW W ↔ dgB W = true := by
  obtain ⟨k, h1, h2, h3⟩ := dc_pos (W := W) 144 (by omega)
  unfold dcW dgB
  rw [h2, ← h3]
  exact nI_ltI (a := 0) (by decide) (by omega)
theorem floodC_ok {z : Hp} {s q : Nat} {W : Nat → Int32} (hC : LayC z) (hS : LayS z s) (hR : RelS z s W) (hO : OkW W q) (hs : s + 32 ≤ 70) (hN : zR z 0 0 = some s) (hq : zR z 74 3 = some 78 ∧ zR z 74 4 = some 79 ∨ zR z 74 3 = some 79 ∧ zR z 74 4 = some 78) (hs0 : 1 ≤ s) :
    ∃ y, m_X11_floodIfOpen 0 z = some ((), y) ∧ Fi (fun a => a = s ∨ (74 ≤ a ∧ a ≤ 82)) z y ∧ RelS y s (flW W) := by
  have no : flB W = false → W = flW W := fun h => by funext i; unfold flW; rw [h]; rfl
  unfold m_X11_floodIfOpen
  rw [gR_eq (by rw [ck_0 hC]) hN, gI_eq (by rw [sk_0 hS]), rs_fl hR]
  by_cases c : W 12 = 0
  · rw [if_pos c, gR_eq (by rw [ck_0 hC]) hN, gI_eq (by rw [sk_0 hS]), rs_dc hR]
    by_cases c2 : dgB W = true
    · obtain ⟨y, g1, F1⟩ := shutC hC hS hR hO (by omega) hq
      have Cy := hC.fi F1
      have Sy := hS.fi F1
      have yN : zR y 0 0 = some s := by rw [F1.2.2.2.1]; exact hN
      have Ry : RelS y s W := hR.of (fun a h1 h2 => F1.2.2.2.2 a (by omega))
      rw [if_pos (dc_iff.mpr c2), gR_eq (by rw [ck_0 hC]) (cr_0_6 hC), gR_eq (by rw [ck_0 hC]) hN, isC_eq (by rw [ck_74 hC]), g1, bnd_some]
      by_cases c3 : wayV W = -1
      · rw [if_neg (by simp [c3, bI])]
        exact ⟨y, rfl, F1.mono (fun a h => by omega), by rw [← no (by unfold flB; rw [c2]; simp [c3])]; exact Ry⟩
      · have b1 : flB W = true := by unfold flB; rw [c2]; simp [c, c3]
        obtain ⟨x, hx⟩ : ∃ x, x = wI y s (ups (zI y s) 15 1) := ⟨_, rfl⟩
        have Cx : LayC x := Cy.of (by rw [hx]; rfl) (by rw [hx]; rfl)
        have Sx : LayS x s := Sy.of (by rw [hx]; rfl) (by rw [hx]; rfl)
        have xN : zR x 0 0 = some s := by rw [hx]; exact yN
        have xs : zI x s = ups (zI y s) 15 1 := by rw [hx, zI_eq]
        obtain ⟨w, hw⟩ : ∃ w, w = wI x s (ups (zI x s) 16 (W 13 + 1)) := ⟨_, rfl⟩
        have x16 : zI x s 16 = W 13 := by rw [xs, up_ne (by decide)]; exact rs_fls Ry
        refine ⟨w, ?_, ?_, ?_⟩
        · rw [if_pos (by simp [c3, bI]), gR_eq (by rw [ck_0 Cy]) yN, pI_eq (by rw [sk_0 Sy]), ← hx, gR_eq (by rw [ck_0 Cx]) xN, gI_eq (by rw [sk_0 Sx]), pI_eq (by rw [sk_0 Sx]), x16, ← hw]
        · rw [hw, hx]
          exact ((F1.mono (fun a h => by omega)).trans (Fi.w (by omega))).trans (Fi.w (by omega))
        · have hz : ∀ a, s ≤ a → a < s + 32 → a ≠ s → zI w a = zI y a := fun a _ _ h => by rw [hw, zI_ne h, hx, zI_ne h]
          have ws : zI w s = ups (ups (zI y s) 15 1) 16 (W 13 + 1) := by rw [hw, zI_eq, xs]
          have hf : ∀ k, k < 15 → zI w s k = zI y s k := fun k hk => by rw [ws, up_ne (by omega), up_ne (by omega)]
          have e : ∀ i, i ≠ 12 ∧ i ≠ 13 → flW W i = W i := fun i hi => fl_id hi
          exact ⟨rs_lead_of (rs_lead Ry) (hz (s + 2) (by omega) (by omega) (by omega)) (fun i hi => e i (by omega)),
            rs_ilead_of (rs_ilead Ry) (hz (s + 3) (by omega) (by omega) (by omega)) (fun i hi => e i (by omega)),
            rs_latent_of (rs_latent Ry) (hz (s + 4) (by omega) (by omega) (by omega)) (fun i hi => e i (by omega)),
            rs_mark_of (rs_mark Ry) (hz (s + 5) (by omega) (by omega) (by omega)) (fun i hi => e i (by omega)),
            rs_ground_of (rs_ground Ry) (hz (s + 6) (by omega) (by omega) (by omega)) (fun i hi => e i (by omega)),
            rs_speed_of (rs_speed Ry) (hz (s + 7) (by omega) (by omega) (by omega)) (fun i hi => e i (by omega)),
            rs_far_of (rs_far Ry) (congrFun (hz (s + 1) (by omega) (by omega) (by omega)) 6) (fun i hi => e i (by omega)),
            rs_pn_of (rs_pn Ry) (congrFun (hz (s + 8) (by omega) (by omega) (by omega)) 6) (fun i hi => e i (by omega)),
            rs_p0_of (rs_p0 Ry) (hz (s + 9) (by omega) (by omega) (by omega)) (np_le hO) (fun i hi => e i (by omega)),
            rs_p1_of (rs_p1 Ry) (hz (s + 10) (by omega) (by omega) (by omega)) (np_le hO) (fun i hi => e i (by omega)),
            rs_p2_of (rs_p2 Ry) (hz (s + 11) (by omega) (by omega) (by omega)) (np_le hO) (fun i hi => e i (by omega)),
            rs_p3_of (rs_p3 Ry) (hz (s + 12) (by omega) (by omega) (by omega)) (np_le hO) (fun i hi => e i (by omega)),
            rs_p4_of (rs_p4 Ry) (hz (s + 13) (by omega) (by omega) (by omega)) (np_le hO) (fun i hi => e i (by omega)),
            rs_p5_of (rs_p5 Ry) (hz (s + 14) (by omega) (by omega) (by omega)) (np_le hO) (fun i hi => e i (by omega)),
            rs_hn_of (rs_hn Ry) (congrFun (hz (s + 15) (by omega) (by omega) (by omega)) 3) (fun i hi => e i (by omega)),
            rs_h0_of (rs_h0 Ry) (hz (s + 16) (by omega) (by omega) (by omega)) (nh_le hO) (fun i hi => e i (by omega)),
            rs_h1_of (rs_h1 Ry) (hz (s + 17) (by omega) (by omega) (by omega)) (nh_le hO) (fun i hi => e i (by omega)),
            rs_h2_of (rs_h2 Ry) (hz (s + 18) (by omega) (by omega) (by omega)) (nh_le hO) (fun i hi => e i (by omega)),
            rs_rn_of (rs_rn Ry) (congrFun (hz (s + 19) (by omega) (by omega) (by omega)) 4) (fun i hi => e i (by omega)),
            rs_rc_of (rs_rc Ry) (hz (s + 20) (by omega) (by omega) (by omega)) (nr_lt hO) (fun i hi => e i (by omega)),
            rs_rw_of (rs_rw Ry) (hz (s + 21) (by omega) (by omega) (by omega)) (nr_lt hO) (nc_lt hO) (fun i hi => e i (by omega)),
            rs_rs_of (rs_rs Ry) (hz (s + 22) (by omega) (by omega) (by omega)) (hz (s + 23) (by omega) (by omega) (by omega)) (nr_lt hO) (nc_lt hO) (fun i hi => e i (by omega)),
            rs_gc_of (rs_gc Ry) (hz (s + 25) (by omega) (by omega) (by omega)) (fun i hi => e i (by omega)),
            rs_gr_of (rs_gr Ry) (hz (s + 26) (by omega) (by omega) (by omega)) (fun i hi => e i (by omega)),
            rs_warm_of (rs_warm Ry) (hz (s + 27) (by omega) (by omega) (by omega)) (fun i hi => e i (by omega)),
            rs_ice_of (rs_ice Ry) (hz (s + 28) (by omega) (by omega) (by omega)) (fun i hi => e i (by omega)),
            rs_dug_of (rs_dug Ry) (hz (s + 29) (by omega) (by omega) (by omega)) (fun i hi => e i (by omega)),
            rs_shaft_of (rs_shaft Ry) (hz (s + 30) (by omega) (by omega) (by omega)) (fun i hi => e i (by omega)),
            rs_sums_of (rs_sums Ry) (hz (s + 31) (by omega) (by omega) (by omega)) (fun i hi => e i (by omega)),
            rs_sc_of (rs_sc Ry) (hf 10 (by omega)) (fun i hi => e i (by omega)),
            rs_dc_of (rs_dc Ry) (hf 11 (by omega)) (fun i hi => e i (by omega)),
            rs_cold_of (rs_cold Ry) (hf 12 (by omega)) (fun i hi => e i (by omega)),
            rs_lines_of (rs_lines Ry) (hf 13 (by omega)) (fun i hi => e i (by omega)),
            rs_ticks_of (rs_ticks Ry) (hf 14 (by omega)) (fun i hi => e i (by omega)),
            by rw [ws, up_ne (by decide), up_eq]; unfold flW; rw [if_pos b1]; rfl,
            by rw [ws, up_eq]; unfold flW; rw [if_pos b1]; rfl⟩
    · rw [if_neg (fun g => c2 (dc_iff.mp g))]
      exact ⟨z, rfl, Fi.rfl', by rw [← no (by unfold flB; simp [c2])]; exact hR⟩
  · rw [if_neg c]
    exact ⟨z, rfl, Fi.rfl', by rw [← no (by unfold flB; simp [c])]; exact hR⟩
/-- what can be reached is told by the cells alone -/
theorem Rr.of {w w2 : Nat → Option Nat} {st st2 : Nat → Bool} (hw : ∀ c, c < 144 → w2 c = w c) (hs : ∀ c, c < 144 → st2 c = st c) {c n : Nat} (h : Rr w st c n) : Rr w2 st2 c n :=
  Rr.ind (P := fun c n => Rr w2 st2 c n) (fun c n hc h1 h2 => Rr.st hc (by rw [hs c hc]; exact h1) (by rw [hw c hc]; exact h2)) (fun c d m b hc _ g h1 h2 => Rr.go g hc h1 (by rw [hw c hc]; exact h2)) h
theorem WayRes.of {w w2 : Nat → Option Nat} {st st2 : Nat → Bool} (hw : ∀ c, c < 144 → w2 c = w c) (hs : ∀ c, c < 144 → st2 c = st c) {v : Int32} (h : WayRes w st v) : WayRes w2 st2 v := by
  have hw' : ∀ c, c < 144 → w c = w2 c := fun c hc => (hw c hc).symm
  have hs' : ∀ c, c < 144 → st c = st2 c := fun c hc => (hs c hc).symm
  rcases h with ⟨h1, h2⟩ | ⟨n, h1, h2, ⟨c, h3, h4⟩, h5⟩
  · exact Or.inl ⟨h1, fun c n hc hr => h2 c n hc (hr.of hw' hs')⟩
  · exact Or.inr ⟨n, h1, h2, ⟨c, h3, h4.of hw hs⟩, fun c m hc hr => h5 c m hc (hr.of hw' hs')⟩
theorem frW_of {W V : Nat → Int32} {q : Nat} (hO : OkW W q) (e : ∀ i, 20 ≤ i ∧ i < 36 ∨ 48 ≤ i ∧ i < 192 ∨ 336 ≤ i ∧ i < 624 → V i = W i) {c : Nat} (hc : c < 144) : frW V c = frW W c := by
  have hk := kd_lt hO hc
  unfold frW
  rw [kdW_of (e (48 + c) (by omega)), e (480 + c) (by omega), e (336 + c) (by omega), e (22 + 4 * kdW W c) (by omega)]
theorem wayV_of {W V : Nat → Int32} {q : Nat} (hO : OkW W q) (e : ∀ i, 7 ≤ i ∧ i < 12 ∨ 20 ≤ i ∧ i < 36 ∨ 48 ≤ i ∧ i < 192 ∨ 336 ≤ i ∧ i < 624 → V i = W i) : wayV V = wayV W := by
  have hsh := fun c => shW_of (W := W) (V := V) (fun i hi => e i (by omega)) c
  have hw : ∀ c, c < 144 → wtW V none (some 1) c = wtW W none (some 1) c := fun c hc => by
    unfold wtW
    rw [hsh c, frW_of hO (fun i hi => e i (by omega)) hc]
  have hst : ∀ c, c < 144 → stB V c = stB W c := fun c hc => by
    have : sdB V c = sdB W c := funext fun w => by
      unfold sdB
      cases bsM c w with
      | none => rfl
      | some d => exact hsh d
    unfold stB
    rw [hsh c, this]
  unfold wayV
  refine congrArg Classical.epsilon (funext fun v => propext ⟨fun h => h.of (fun c hc => (hw c hc).symm) (fun c hc => (hst c hc).symm), fun h => h.of hw hst⟩)
theorem crack_fl {W : Nat → Int32} {q : Nat} (hO : OkW W q) : crackW (flW W) = flW (crackW W) := by
  have hc := nh_le hO
  have n3 : nHW (flW W) = nHW W := nHW_of (fl_id (by omega))
  have ew : wayV (crackW W) = wayV W := wayV_of hO (fun i hi => ck_id (by omega))
  have ed : dgB (crackW W) = dgB W := by
    unfold dgB
    have : ∀ c, c < 144 → crackW W (480 + c) = W (480 + c) := fun c hc => ck_id (by omega)
    have oc : ∀ n, n ≤ 144 → orB (fun c => decide (crackW W (480 + c) = 1)) n = orB (fun c => decide (W (480 + c) = 1)) n := by
      intro n
      induction n with
      | zero => intro _; rfl
      | succ n ih =>
        intro hn
        show (orB _ n || decide (crackW W (480 + n) = 1)) = (orB _ n || decide (W (480 + n) = 1))
        rw [ih (by omega), this n (by omega)]
    exact oc 144 (Nat.le_refl _)
  have e12 : crackW W 12 = W 12 := ck_id (by omega)
  have e13 : crackW W 13 = W 13 := ck_id (by omega)
  have eb : flB (crackW W) = flB W := by unfold flB; rw [ew, ed, e12]
  have ck : ∀ h, h < nHW W → ckB (flW W) h = ckB W h := fun h hh => by
    have hx := ok_hc hO h hh
    have hxl := hx.2
    unfold ckB
    rw [fl_id (show 734 + 3 * h ≠ 12 ∧ 734 + 3 * h ≠ 13 by omega), fl_id (show 733 + 3 * h ≠ 12 ∧ 733 + 3 * h ≠ 13 by omega), fl_id (show 732 + 3 * h ≠ 12 ∧ 732 + 3 * h ≠ 13 by omega), liftW_of (fun i hi => fl_id (by omega)) (show nn (W (732 + 3 * h)) < 12 by omega), liftW_of (fun i hi => fl_id (by omega)) (show nn (W (732 + 3 * h)) + 1 < 12 by omega)]
  funext i
  by_cases r : 732 ≤ i ∧ i < 732 + 3 * nHW W ∧ (i - 732) % 3 = 2
  · rw [fl_id (W := crackW W) (by omega)]
    unfold crackW ckW
    rw [n3, ck _ (by omega), fl_id (show 1 ≠ 12 ∧ 1 ≠ 13 by decide), fl_id (W := W) (i := i) (by omega)]
  · have a1 : crackW (flW W) i = flW W i := ck_id (by rw [n3]; exact r)
    have a2 : crackW W i = W i := ck_id r
    rw [a1]
    unfold flW
    rw [eb, a2, e13]
/-- n ticks -/
noncomputable def tkI (W : Nat → Int32) : Nat → Nat → Int32
  | 0 => W
  | n + 1 => tickW (tkI W n)
theorem oktkI {W : Nat → Int32} {q : Nat} (hO : OkW W q) : ∀ n, OkW (tkI W n) q
  | 0 => hO
  | n + 1 => oktick (oktkI hO n)
theorem tick_1 {W : Nat → Int32} : tickW W 1 = W 1 + 1 := by
  show flW (crackW (passW W)) 1 = _
  rw [fl_id (by decide)]
  show ckW (passW W) _ 1 = _
  rw [ck_id (by omega)]
  rfl
theorem tkI_1 {W : Nat → Int32} {t : Nat} (h : W 1 = nI t) : ∀ n, tkI W n 1 = nI (t + n)
  | 0 => h
  | n + 1 => by
    show tickW (tkI W n) 1 = _
    rw [tick_1, tkI_1 h n, nI_1]
    rfl
theorem tickC_ok {z : Hp} {s d m : Nat} (h : In z s d) (hm : m ≤ 40) : ∃ y, m_X11_tick_L34 m_X11_tick_B67 FU 0 (nI m) 0 z = some (tkI (zI z 93) m 1, y) ∧ Fi (fun a => (s ≤ a ∧ a < s + 32) ∨ (71 ≤ a ∧ a ≤ 82)) z y ∧ RelS y s (tkI (zI z 93) m) := by
  have hS := in_S h; have hR := in_R h; have hO := in_ok h; have hM := in_M h; have hC := in_C h; have hN := in_now h
  have hs := in_lo h
  obtain ⟨W, hW⟩ : ∃ W, W = zI z 93 := ⟨_, rfl⟩
  rw [← hW] at hR hO ⊢
  refine loopQ (X := Int32 × Hp) (fun f x => m_X11_tick_L34 m_X11_tick_B67 f 0 (nI m) x.1 x.2) (fun t => ∃ y, t = some (tkI W m 1, y) ∧ Fi (fun a => (s ≤ a ∧ a < s + 32) ∨ (71 ≤ a ∧ a ≤ 82)) z y ∧ RelS y s (tkI W m)) (fun n x => x.1 = nI n ∧ Fi (fun a => (s ≤ a ∧ a < s + 32) ∨ (71 ≤ a ∧ a ≤ 82)) z x.2 ∧ RelS x.2 s (tkI W n)) m ?hs ?he 0 FU (0, z) (by omega) (FU_pos (by omega)) ⟨rfl, Fi.rfl', hR⟩
  case hs =>
    rintro n f ⟨v, x⟩ hn ⟨h1, h2, hRx⟩
    dsimp only at h1 h2 hRx
    subst h1
    have Cx := hC.fi h2
    have Sx := hS.fi h2
    have Ox := oktkI hO n
    have xN : zR x 0 0 = some s := by rw [h2.2.2.2.1]; exact hN
    obtain ⟨x1, r1, F1, R1⟩ := passC_ok Cx Sx hRx Ox (by omega)
    have C1 := Cx.fi F1
    have S1 := Sx.fi F1
    have O1 := okpass Ox
    have N1 : zR x1 0 0 = some s := by rw [F1.2.2.2.1]; exact xN
    have q1 : zR x1 74 3 = some 78 ∧ zR x1 74 4 = some 79 ∨ zR x1 74 3 = some 79 ∧ zR x1 74 4 = some 78 := by rw [F1.2.2.2.1, h2.2.2.2.1]; exact in_wq h
    obtain ⟨x2, r2, F2, R2⟩ := floodC_ok C1 S1 R1 O1 (by omega) N1 q1 (by omega)
    have C2 := C1.fi F2
    have S2 := S1.fi F2
    have N2 : zR x2 0 0 = some s := by rw [F2.2.2.2.1]; exact N1
    obtain ⟨x3, r3, F3, R3⟩ := crackC_ok2 S2 R2 (okfl O1)
    rw [crack_fl O1] at R3
    refine Or.inl ⟨(nI (n + 1), x3), ⟨rfl, ((h2.trans (F1.mono (fun a h => by omega))).trans (F2.mono (fun a h => by omega))).trans (F3.mono (fun a h => by omega)), R3⟩, ?_⟩
    dsimp only
    rw [m_X11_tick_L34, if_pos (nI_lt hn (by omega)), gR_eq (by rw [ck_0 Cx]) (cr_0_5 Cx), gR_eq (by rw [ck_0 Cx]) xN, isC_eq (by rw [ck_70 Cx]), r1, bnd_some, isC_eq (by rw [ck_0 C1]), r2, bnd_some, gR_eq (by rw [ck_0 C2]) N2, isC_eq (by rw [sk_0 S2]), r3, bnd_some, nI_1]
  case he =>
    rintro f ⟨v, x⟩ ⟨h1, h2, hRx⟩
    dsimp only at h1 h2 hRx ⊢
    subst h1
    have Cx := hC.fi h2
    have Sx := hS.fi h2
    have xN : zR x 0 0 = some s := by rw [h2.2.2.2.1]; exact hN
    refine ⟨x, ?_, h2, hRx⟩
    rw [m_X11_tick_L34, if_neg (nI_nlt (Nat.le_refl _) (by omega))]
    unfold m_X11_tick_B67
    rw [gR_eq (by rw [ck_0 Cx]) xN, gI_eq (by rw [sk_0 Sx]), rs_ticks hRx]
theorem tickM_ok {z : Hp} {q m : Nat} (hM : LayM z) (hO : OkW (zI z 93) q) (hm : m ≤ 60) : ∃ y, m_X12_tick_L34 m_X12_tick_B49 FU 92 (nI m) 0 z = some (tkI (zI z 93) m 1, y) ∧ Fi (fun a => a = 93 ∨ (102 ≤ a ∧ a ≤ 104)) z y ∧ zI y 93 = tkI (zI z 93) m := by
  obtain ⟨W, hW⟩ : ∃ W, W = zI z 93 := ⟨_, rfl⟩
  rw [← hW] at hO ⊢
  refine loopQ (X := Int32 × Hp) (fun f x => m_X12_tick_L34 m_X12_tick_B49 f 92 (nI m) x.1 x.2) (fun t => ∃ y, t = some (tkI W m 1, y) ∧ Fi (fun a => a = 93 ∨ (102 ≤ a ∧ a ≤ 104)) z y ∧ zI y 93 = tkI W m) (fun n x => x.1 = nI n ∧ Fi (fun a => a = 93 ∨ (102 ≤ a ∧ a ≤ 104)) z x.2 ∧ zI x.2 93 = tkI W n) m ?hs ?he 0 FU (0, z) (by omega) (FU_pos (by omega)) ⟨rfl, Fi.rfl', hW.symm⟩
  case hs =>
    rintro n f ⟨v, x⟩ hn ⟨h1, h2, h3⟩
    dsimp only at h1 h2 h3
    subst h1
    have Mx := hM.fi h2
    obtain ⟨y, r, F, e⟩ := ticksM_ok Mx (q := q) (by rw [h3]; exact oktkI hO n)
    refine Or.inl ⟨(nI (n + 1), y), ⟨rfl, h2.trans (F.mono (fun a h => by omega)), by rw [e, h3]; rfl⟩, ?_⟩
    dsimp only
    rw [m_X12_tick_L34, if_pos (nI_lt hn (by omega)), isC_eq (by rw [mk_92 Mx]), r, bnd_some, nI_1]
  case he =>
    rintro f ⟨v, x⟩ ⟨h1, h2, h3⟩
    dsimp only at h1 h2 h3 ⊢
    subst h1
    have Mx := hM.fi h2
    refine ⟨x, ?_, h2, h3⟩
    rw [m_X12_tick_L34, if_neg (nI_nlt (Nat.le_refl _) (by omega))]
    unfold m_X12_tick_B49
    rw [gR_eq (by rw [mk_92 Mx]) (mr_92_1 Mx), show (1 : Int32) = nI 1 from rfl, aI_n (mk_93 Mx) (by decide) (by decide), h3]
theorem op_tick (v : Int32) : Op (m_X11_tick 0 v) (m_X12_tick 92 v) := by
  intro z s d h
  have hS := in_S h; have hR := in_R h; have hO := in_ok h; have hM := in_M h; have hC := in_C h; have hN := in_now h
  have hs := in_lo h
  have ht := in_tk h
  obtain ⟨t, et, tl⟩ : ∃ t, zI z 93 1 = nI t ∧ t ≤ 2000 := ⟨_, ht.1, Nat.lt_succ_iff.mp ht.2⟩
  by_cases hv : ¬ v < 1 ∧ ¬ 40 < v
  · obtain ⟨m, rfl, hm⟩ : ∃ m, v = nI m ∧ m ≤ 40 := by
      refine rng (x := v) 40 (by decide) ⟨?_, ?_⟩
      · have := hv.1
        rw [Int32.lt_iff_toInt_lt] at this
        rw [Int32.le_iff_toInt_le, toI_0]
        have : (1 : Int32).toInt = 1 := by decide
        omega
      · exact Int32.not_lt.mp hv.2
    have m1 : 1 ≤ m := by
      by_cases c : m = 0
      · subst c; exact absurd (show nI 0 < 1 by decide) hv.1
      · omega
    have in1 : ∀ y, m_X12_in (nI m).toInt64 1 40 y = some (1, y) := fun y => by
      rw [in_lit _ 1 40 (by decide) (by decide), if_pos ⟨Int32.not_lt.mp hv.1, Int32.not_lt.mp hv.2⟩]
    by_cases c : 2000 < t + m
    · refine ⟨-3, z, z, s, d, ?_, by rw [mk_92 hM], ?_, h⟩
      · unfold m_X11_tick
        rw [if_neg hv.1, if_neg hv.2, gR_eq (by rw [ck_0 hC]) hN, gI_eq (by rw [sk_0 hS]), rs_ticks hR, et, nI_add, if_pos (gt_lit c (by omega))]
      · unfold m_X12_tick
        rw [in1, bnd_some, if_neg (by decide), gR_eq (by rw [mk_92 hM]) (mr_92_1 hM), show (1 : Int32) = nI 1 from rfl, aI_n (mk_93 hM) (by decide) (by decide), et, nI_add, if_pos (gt_lit c (by omega))]
    · obtain ⟨y, r1, F1, R1⟩ := tickC_ok h hm
      have My := hM.fi F1
      have y93 : zI y 93 = zI z 93 := F1.2.2.2.2 93 (by omega)
      obtain ⟨w, r2, F2, e2⟩ := tickM_ok My (q := 12) (by rw [y93]; exact hO) (m := m) (by omega)
      rw [y93] at r2 e2
      refine ⟨tkI (zI z 93) m 1, y, w, s, d, ?_, by rw [mk_92 My], ?_, ?_⟩
      · unfold m_X11_tick
        rw [if_neg hv.1, if_neg hv.2, gR_eq (by rw [ck_0 hC]) hN, gI_eq (by rw [sk_0 hS]), rs_ticks hR, et, nI_add, if_neg (ngt_lit (by omega) (by decide)), r1]
      · unfold m_X12_tick
        rw [in1, bnd_some, if_neg (by decide), gR_eq (by rw [mk_92 My]) (mr_92_1 My), show (1 : Int32) = nI 1 from rfl, aI_n (mk_93 My) (by decide) (by decide), y93, et, nI_add, if_neg (ngt_lit (by omega) (by decide)), r2]
      · refine In.re3 h (by rw [F2.2.1, F1.2.1]) (by rw [F2.2.2.2.1, F1.2.2.2.1]) (by rw [F2.1, F1.1]) (by rw [F2.2.2.1, F1.2.2.1]) (fun a ha => by rw [F2.2.2.2.2 a (by omega), F1.2.2.2.2 a (by omega)]) (by rw [F2.2.2.2.2 66 (by omega), F1.2.2.2.2 66 (by omega)]) (fun k _ => by rw [F2.2.2.2.2 92 (by omega), F1.2.2.2.2 92 (by omega)]) ?_ ?_ ?_
        · rw [e2]
          exact R1.of (fun a h1 h2 => F2.2.2.2.2 a (by omega))
        · rw [e2]; exact oktkI hO m
        · rw [e2, tkI_1 et m]
          exact isN.mk (by omega) (by decide)
  · have n1 : ¬ ((1 : Int32) ≤ v ∧ v ≤ 40) := fun g => hv ⟨Int32.not_lt.mpr g.1, Int32.not_lt.mpr g.2⟩
    have in0 : m_X12_in v.toInt64 1 40 z = some (0, z) := by
      rw [in_lit _ 1 40 (by decide) (by decide), if_neg n1]
    refine ⟨-2, z, z, s, d, ?_, by rw [mk_92 hM], ?_, h⟩
    · unfold m_X11_tick
      by_cases c1 : v < 1
      · rw [if_pos c1]
      · have c2 : 40 < v := by
          by_cases c3 : 40 < v
          · exact c3
          · exact absurd ⟨c1, c3⟩ hv
        rw [if_neg c1, if_pos c2]
    · unfold m_X12_tick
      rw [in0, bnd_some, if_pos rfl]

