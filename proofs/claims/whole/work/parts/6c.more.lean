/-! ===== more pipes: a world with some ===== -/
def addW (W : Nat → Int32) (c i : Nat) : Int32 :=
  if i = 2 then W 2 + 1 else if i = 624 + 6 * nPW W then nI c else if i = 625 + 6 * nPW W then W 625 else if i = 626 + 6 * nPW W then W 626 else if i = 627 + 6 * nPW W then 1 else if i = 628 + 6 * nPW W then 0 else if i = 629 + 6 * nPW W then 0 else W i
theorem ad_id {W : Nat → Int32} {c i : Nat} (h : i ≠ 2 ∧ ¬ (624 + 6 * nPW W ≤ i ∧ i < 630 + 6 * nPW W)) : addW W c i = W i := by
  unfold addW
  rw [if_neg h.1, if_neg (by omega), if_neg (by omega), if_neg (by omega), if_neg (by omega), if_neg (by omega), if_neg (by omega)]
theorem ad_0 {W : Nat → Int32} {c : Nat} : addW W c (624 + 6 * nPW W) = nI c := by unfold addW; rw [if_neg (by omega), if_pos rfl]
theorem ad_1 {W : Nat → Int32} {c : Nat} : addW W c (624 + 6 * nPW W + 1) = W 625 := by unfold addW; rw [if_neg (by omega), if_neg (by omega), if_pos (by omega)]
theorem ad_2 {W : Nat → Int32} {c : Nat} : addW W c (624 + 6 * nPW W + 2) = W 626 := by unfold addW; rw [if_neg (by omega), if_neg (by omega), if_neg (by omega), if_pos (by omega)]
theorem ad_3 {W : Nat → Int32} {c : Nat} : addW W c (624 + 6 * nPW W + 3) = 1 := by unfold addW; rw [if_neg (by omega), if_neg (by omega), if_neg (by omega), if_neg (by omega), if_pos (by omega)]
theorem ad_4 {W : Nat → Int32} {c : Nat} : addW W c (624 + 6 * nPW W + 4) = 0 := by unfold addW; rw [if_neg (by omega), if_neg (by omega), if_neg (by omega), if_neg (by omega), if_neg (by omega), if_pos (by omega)]
theorem ad_5 {W : Nat → Int32} {c : Nat} : addW W c (624 + 6 * nPW W + 5) = 0 := by unfold addW; rw [if_neg (by omega), if_neg (by omega), if_neg (by omega), if_neg (by omega), if_neg (by omega), if_neg (by omega), if_pos (by omega)]
theorem ad_c {W : Nat → Int32} {q c : Nat} (hO : OkW W q) : addW W c 2 = nI (nPW W + 1) := by
  unfold addW
  rw [if_pos rfl, np_eq hO, nI_1]
theorem ad_n {W : Nat → Int32} {q c : Nat} (hO : OkW W q) : nPW (addW W c) = nPW W + 1 := by
  have := np_le hO
  unfold nPW
  rw [ad_c hO, nn_nI (by omega)]
  rfl
theorem okadd {W : Nat → Int32} {q c : Nat} (hO : OkW W q) (hq : q + 1 ≤ 18) (hc : c < 144) (h1 : 1 ≤ nPW W) (hn : ∀ p, p < nPW W → W (624 + 6 * p) ≠ nI c) : OkW (addW W c) (q + 1) := by
  have hp := np_lt hO
  have n2 := ad_n (c := c) hO
  have e : ∀ i, i ≠ 2 ∧ ¬ (624 ≤ i ∧ i < 732) → addW W c i = W i := fun i hi => ad_id (by omega)
  exact ⟨ok_kd_of (ok_kd hO)  (fun i hi => e i (by omega)),
    ok_gl_of (ok_gl hO)  (fun i hi => e i (by omega)),
    ok_lat_of (ok_lat hO)  (fun i hi => e i (by omega)),
    ok_mark_of (ok_mark hO)  (fun i hi => e i (by omega)),
    ok_sp_of (ok_sp hO)  (fun i hi => e i (by omega)),
    ok_far_of (ok_far hO)  (fun i hi => e i (by omega)),
    ok_warm_of (ok_warm hO)  (fun i hi => e i (by omega)),
    ok_ice_of (ok_ice hO) (fun c hc => kd_lt hO hc) (fun i hi => e i (by omega)),
    ok_dug_of (ok_dug hO)  (fun i hi => e i (by omega)),
    ok_dsh_of (ok_dsh hO)  (fun i hi => e i (by omega)),
    ⟨by rw [ad_c hO]; exact isN.mk (by omega) (by omega), hq⟩,
    fun p hp => by
      rw [n2] at hp
      by_cases g : p = nPW W
      · subst g; rw [ad_0]; exact isN.mk hc (by decide)
      · rw [ad_id (by omega)]; exact ok_pc hO p (by omega),
    fun p r hp hr heq => by
      rw [n2] at hp hr
      by_cases g : p = nPW W
      · by_cases g2 : r = nPW W
        · omega
        · subst g
          rw [ad_0, ad_id (by omega)] at heq
          exact absurd heq.symm (hn r (by omega))
      · by_cases g2 : r = nPW W
        · subst g2
          rw [ad_0, ad_id (by omega)] at heq
          exact absurd heq (hn p (by omega))
        · rw [ad_id (by omega), ad_id (by omega)] at heq
          exact ok_pd hO p r (by omega) (by omega) heq,
    fun p hp => by
      rw [n2] at hp
      by_cases g : p = nPW W
      · subst g; rw [ad_1]; exact ok_pa hO 0 h1
      · rw [ad_id (by omega)]; exact ok_pa hO p (by omega),
    fun p hp => by
      rw [n2] at hp
      by_cases g : p = nPW W
      · subst g; rw [ad_2]; exact ok_pl hO 0 h1
      · rw [ad_id (by omega)]; exact ok_pl hO p (by omega),
    fun p hp => by
      rw [n2] at hp
      by_cases g : p = nPW W
      · subst g; rw [ad_3]; exact Or.inr rfl
      · rw [ad_id (by omega)]; exact ok_pr hO p (by omega),
    ok_hn_of (ok_hn hO)  (fun i hi => e i (by omega)),
    ok_hc_of (ok_hc hO) (nh_le hO) (fun i hi => e i (by omega)),
    ok_rn_of (ok_rn hO)  (fun i hi => e i (by omega)),
    ok_rc_of (ok_rc hO) (nr_lt hO) (fun i hi => e i (by omega)),
    ok_rw_of (ok_rw hO) (nr_lt hO) (nc_lt hO) (fun i hi => e i (by omega)),
    ok_gc_of (ok_gc hO)  (fun i hi => e i (by omega)),
    ok_sh_of (ok_sh hO)  (fun i hi => e i (by omega)),
    ok_cold_of (ok_cold hO)  (fun i hi => e i (by omega)),
    ok_fl_of (ok_fl hO)  (fun i hi => e i (by omega))⟩
theorem addC_ok {z : Hp} {d q c : Nat} {W : Nat → Int32} (hD : LayS z d) (hR : RelS z d W) (hO : OkW W q) (hq : q < 18) : ∃ y, m_X3_add (d + 8) (nI c) (W 625) (W 626) z = some ((), y) ∧ Fi (fun a => d + 8 ≤ a ∧ a ≤ d + 14) z y ∧ RelS y d (addW W c) := by
  have hp := np_lt hO
  obtain ⟨n, hn⟩ : ∃ n, n = nPW W := ⟨_, rfl⟩
  have ec : zI z (d + 8) 6 = nI n := by rw [rs_pn hR, hn]; exact np_eq hO
  obtain ⟨y, hy⟩ : ∃ y, y = wI (wI (wI (wI (wI (wI (wI z (d + 9) (ups (zI z (d + 9)) n (nI c))) (d + 10) (ups (zI z (d + 10)) n (W 625))) (d + 11) (ups (zI z (d + 11)) n (W 626))) (d + 12) (ups (zI z (d + 12)) n 1)) (d + 13) (ups (zI z (d + 13)) n 0)) (d + 14) (ups (zI z (d + 14)) n 0)) (d + 8) (ups (zI z (d + 8)) 6 (nI (n + 1))) := ⟨_, rfl⟩
  have y8 : zI y (d + 8) = ups (zI z (d + 8)) 6 (nI (n + 1)) := by rw [hy, zI_eq]
  have y9 : zI y (d + 9) = ups (zI z (d + 9)) n (nI c) := by rw [hy, zI_ne (by omega), zI_ne (by omega), zI_ne (by omega), zI_ne (by omega), zI_ne (by omega), zI_ne (by omega), zI_eq]
  have y10 : zI y (d + 10) = ups (zI z (d + 10)) n (W 625) := by rw [hy, zI_ne (by omega), zI_ne (by omega), zI_ne (by omega), zI_ne (by omega), zI_ne (by omega), zI_eq]
  have y11 : zI y (d + 11) = ups (zI z (d + 11)) n (W 626) := by rw [hy, zI_ne (by omega), zI_ne (by omega), zI_ne (by omega), zI_ne (by omega), zI_eq]
  have y12 : zI y (d + 12) = ups (zI z (d + 12)) n 1 := by rw [hy, zI_ne (by omega), zI_ne (by omega), zI_ne (by omega), zI_eq]
  have y13 : zI y (d + 13) = ups (zI z (d + 13)) n 0 := by rw [hy, zI_ne (by omega), zI_ne (by omega), zI_eq]
  have y14 : zI y (d + 14) = ups (zI z (d + 14)) n 0 := by rw [hy, zI_ne (by omega), zI_eq]
  have hz : ∀ a, d ≤ a → a < d + 32 → ¬ (d + 8 ≤ a ∧ a ≤ d + 14) → zI y a = zI z a := fun a _ _ h => by
    rw [hy, zI_ne (by omega), zI_ne (by omega), zI_ne (by omega), zI_ne (by omega), zI_ne (by omega), zI_ne (by omega), zI_ne (by omega)]
  have hf : ∀ k, k < 1000 → zI y d k = zI z d k := fun k _ => by rw [hz d (by omega) (by omega) (by omega)]
  have n2 := ad_n (c := c) hO
  have e : ∀ i, i ≠ 2 ∧ ¬ (624 ≤ i ∧ i < 732) → addW W c i = W i := fun i hi => ad_id (by omega)
  refine ⟨y, ?_, ?_, ?_⟩
  · unfold m_X3_add
    simp (disch := omega) [gI, gR, pI, pR, aI, sI, aL, sL, aO, aR, sR, aN, onul, bnd, isC, cpI, cpL, sLen, sCh, nwC, zK_wI, zR_wI, zL_wI, zN_wI, zI_wI, zK_wL, zR_wL, zI_wL, zN_wL, zL_wL, zK_wR, zI_wR, zL_wR, zN_wR, zR_wR, ups_eq, inb_nI, nI_clamp, wI_wI, nI_add, pk_mul, add_c, c_add, c_mul, lt_c, le_c, eq_c, gt_c, ge_c, inb_c, clamp_c, ladd, sk_0, sk_1, sk_2, sk_3, sk_4, sk_5, sk_6, sk_7, sk_8, sk_9, sk_10, sk_11, sk_12, sk_13, sk_14, sk_15, sk_16, sk_17, sk_18, sk_19, sk_20, sk_21, sk_22, sk_23, sk_24, sk_25, sk_26, sk_27, sk_28, sk_29, sk_30, sk_31, sr_0_0, sr_0_1, sr_0_2, sr_0_3, sr_0_4, sr_0_5, sr_0_6, sr_0_7, sr_0_8, sr_0_9, sr_1_0, sr_1_1, sr_1_2, sr_1_3, sr_1_4, sr_1_5, sr_8_0, sr_8_1, sr_8_2, sr_8_3, sr_8_4, sr_8_5, sr_15_0, sr_15_1, sr_15_2, sr_19_0, sr_19_1, sr_19_2, sr_19_3, sr_24_0, sr_24_1, hD, ec, show n < 18 by omega, hy]
  · rw [hy]
    exact ((((((Fi.w (by omega)).trans (Fi.w (by omega))).trans (Fi.w (by omega))).trans (Fi.w (by omega))).trans (Fi.w (by omega))).trans (Fi.w (by omega))).trans (Fi.w (by omega))
  · exact ⟨rs_lead_of (rs_lead hR) (hz (d + 2) (by omega) (by omega) (by omega)) (fun i hi => e i (by omega)),
      rs_ilead_of (rs_ilead hR) (hz (d + 3) (by omega) (by omega) (by omega)) (fun i hi => e i (by omega)),
      rs_latent_of (rs_latent hR) (hz (d + 4) (by omega) (by omega) (by omega)) (fun i hi => e i (by omega)),
      rs_mark_of (rs_mark hR) (hz (d + 5) (by omega) (by omega) (by omega)) (fun i hi => e i (by omega)),
      rs_ground_of (rs_ground hR) (hz (d + 6) (by omega) (by omega) (by omega)) (fun i hi => e i (by omega)),
      rs_speed_of (rs_speed hR) (hz (d + 7) (by omega) (by omega) (by omega)) (fun i hi => e i (by omega)),
      rs_far_of (rs_far hR) (congrFun (hz (d + 1) (by omega) (by omega) (by omega)) 6) (fun i hi => e i (by omega)),
      by rw [y8, up_eq, ad_c hO, hn],
      fun p hp => by
          rw [n2] at hp
          rw [y9, ups_eq]
          by_cases g : p = n
          · rw [if_pos g, g, hn, ad_0]
          · rw [if_neg g, ad_id (by omega)]; exact rs_p0 hR p (by omega),
      fun p hp => by
          rw [n2] at hp
          rw [y10, ups_eq]
          by_cases g : p = n
          · rw [if_pos g, g, hn, ad_1]
          · rw [if_neg g, ad_id (by omega)]; exact rs_p1 hR p (by omega),
      fun p hp => by
          rw [n2] at hp
          rw [y11, ups_eq]
          by_cases g : p = n
          · rw [if_pos g, g, hn, ad_2]
          · rw [if_neg g, ad_id (by omega)]; exact rs_p2 hR p (by omega),
      fun p hp => by
          rw [n2] at hp
          rw [y12, ups_eq]
          by_cases g : p = n
          · rw [if_pos g, g, hn, ad_3]
          · rw [if_neg g, ad_id (by omega)]; exact rs_p3 hR p (by omega),
      fun p hp => by
          rw [n2] at hp
          rw [y13, ups_eq]
          by_cases g : p = n
          · rw [if_pos g, g, hn, ad_4]
          · rw [if_neg g, ad_id (by omega)]; exact rs_p4 hR p (by omega),
      fun p hp => by
          rw [n2] at hp
          rw [y14, ups_eq]
          by_cases g : p = n
          · rw [if_pos g, g, hn, ad_5]
          · rw [if_neg g, ad_id (by omega)]; exact rs_p5 hR p (by omega),
      rs_hn_of (rs_hn hR) (congrFun (hz (d + 15) (by omega) (by omega) (by omega)) 3) (fun i hi => e i (by omega)),
      rs_h0_of (rs_h0 hR) (hz (d + 16) (by omega) (by omega) (by omega)) (nh_le hO) (fun i hi => e i (by omega)),
      rs_h1_of (rs_h1 hR) (hz (d + 17) (by omega) (by omega) (by omega)) (nh_le hO) (fun i hi => e i (by omega)),
      rs_h2_of (rs_h2 hR) (hz (d + 18) (by omega) (by omega) (by omega)) (nh_le hO) (fun i hi => e i (by omega)),
      rs_rn_of (rs_rn hR) (congrFun (hz (d + 19) (by omega) (by omega) (by omega)) 4) (fun i hi => e i (by omega)),
      rs_rc_of (rs_rc hR) (hz (d + 20) (by omega) (by omega) (by omega)) (nr_lt hO) (fun i hi => e i (by omega)),
      rs_rw_of (rs_rw hR) (hz (d + 21) (by omega) (by omega) (by omega)) (nr_lt hO) (nc_lt hO) (fun i hi => e i (by omega)),
      rs_rs_of (rs_rs hR) (hz (d + 22) (by omega) (by omega) (by omega)) (hz (d + 23) (by omega) (by omega) (by omega)) (nr_lt hO) (nc_lt hO) (fun i hi => e i (by omega)),
      rs_gc_of (rs_gc hR) (hz (d + 25) (by omega) (by omega) (by omega)) (fun i hi => e i (by omega)),
      rs_gr_of (rs_gr hR) (hz (d + 26) (by omega) (by omega) (by omega)) (fun i hi => e i (by omega)),
      rs_warm_of (rs_warm hR) (hz (d + 27) (by omega) (by omega) (by omega)) (fun i hi => e i (by omega)),
      rs_ice_of (rs_ice hR) (hz (d + 28) (by omega) (by omega) (by omega)) (fun i hi => e i (by omega)),
      rs_dug_of (rs_dug hR) (hz (d + 29) (by omega) (by omega) (by omega)) (fun i hi => e i (by omega)),
      rs_shaft_of (rs_shaft hR) (hz (d + 30) (by omega) (by omega) (by omega)) (fun i hi => e i (by omega)),
      rs_sums_of (rs_sums hR) (hz (d + 31) (by omega) (by omega) (by omega)) (fun i hi => e i (by omega)),
      rs_sc_of (rs_sc hR) (hf 10 (by omega)) (fun i hi => e i (by omega)),
      rs_dc_of (rs_dc hR) (hf 11 (by omega)) (fun i hi => e i (by omega)),
      rs_cold_of (rs_cold hR) (hf 12 (by omega)) (fun i hi => e i (by omega)),
      rs_lines_of (rs_lines hR) (hf 13 (by omega)) (fun i hi => e i (by omega)),
      rs_ticks_of (rs_ticks hR) (hf 14 (by omega)) (fun i hi => e i (by omega)),
      rs_fl_of (rs_fl hR) (hf 15 (by omega)) (fun i hi => e i (by omega)),
      rs_fls_of (rs_fls hR) (hf 16 (by omega)) (fun i hi => e i (by omega))⟩
theorem addM_ok {z : Hp} {q c k i v3 v2 : Nat} {W : Nat → Int32} (K : Nat → Int32 → Int32 → Int32 → Int32 → Hp → Option (Int32 × Hp)) (hM : LayM z) (h93 : zI z 93 = W) (hO : OkW W q) (hq : q < 18) (hk : k < 4) (hi : i < 6) (h1 : 1 ≤ nPW W) (hn : zL z 113 (60 * k + i) = lN c) (hc : c < 144) :
    m_X12_shutsBy_L48 (m_X12_shutsBy_B72 K) FU 92 (nI k) (nI v2) (nI v3) (nI i) (624 + 6 * W 2) 0 z = K 92 (nI k) (nI v2) (nI v3) (nI (i + 1)) (wI z 93 (addW W c)) := by
  have hp := np_lt hO
  obtain ⟨n, hnn⟩ : ∃ n, n = nPW W := ⟨_, rfl⟩
  have e2 : W 2 = nI n := by rw [hnn]; exact np_eq hO
  rw [e2, show (624 : Int32) + 6 * nI n = nI (624 + 6 * n) by rw [c_mul, c_add]]
  refine loopQ (X := Int32 × Hp) (fun f x => m_X12_shutsBy_L48 (m_X12_shutsBy_B72 K) f 92 (nI k) (nI v2) (nI v3) (nI i) (nI (624 + 6 * n)) x.1 x.2) (fun t => t = K 92 (nI k) (nI v2) (nI v3) (nI (i + 1)) (wI z 93 (addW W c))) (fun m x => x.1 = nI m ∧ x.2 = wI z 93 (fun j => if 624 + 6 * n ≤ j ∧ j < 624 + 6 * n + m then 0 else W j)) 6 ?hs ?he 0 FU (0, z) (by decide) (by decide) ⟨rfl, ?h0⟩
  case h0 =>
    dsimp only
    refine (wI_self z 93).symm.trans (congrArg (wI z 93) (funext fun j => ?_))
    rw [if_neg (by omega), h93]
  case hs =>
    rintro m f ⟨v, x⟩ hm ⟨g1, g2⟩
    dsimp only at g1 g2
    subst g1
    have Mx : LayM x := hM.of (by rw [g2]; rfl) (by rw [g2]; rfl)
    refine Or.inl ⟨(nI (m + 1), wI z 93 (fun j => if 624 + 6 * n ≤ j ∧ j < 624 + 6 * n + (m + 1) then 0 else W j)), ⟨rfl, rfl⟩, ?_⟩
    dsimp only
    rw [m_X12_shutsBy_L48, if_pos (lt_lit hm (by decide)), gR_eq (by rw [mk_92 Mx]) (mr_92_1 Mx), nI_add, sI_n (mk_93 Mx) (by omega) (by decide), nI_1, g2, zI_eq, wI_wI]
    refine congrArg (fun g => m_X12_shutsBy_L48 (m_X12_shutsBy_B72 K) f 92 (nI k) (nI v2) (nI v3) (nI i) (nI (624 + 6 * n)) (nI (m + 1)) (wI z 93 g)) (funext fun j => ?_)
    rw [ups_eq]
    by_cases c1 : j = 624 + 6 * n + m
    · rw [if_pos c1, if_pos (by omega)]
    · rw [if_neg c1]
      by_cases c2 : 624 + 6 * n ≤ j ∧ j < 624 + 6 * n + m
      · rw [if_pos c2, if_pos (by omega)]
      · rw [if_neg c2, if_neg (by omega)]
  case he =>
    rintro f ⟨v, x⟩ ⟨g1, g2⟩
    dsimp only at g1 g2 ⊢
    subst g1
    have Mx : LayM x := hM.of (by rw [g2]; rfl) (by rw [g2]; rfl)
    have x113 : zL x 113 (60 * k + i) = lN c := by rw [g2]; exact hn
    have x93 : zI x 93 = fun j => if 624 + 6 * n ≤ j ∧ j < 624 + 6 * n + 6 then 0 else W j := by rw [g2, zI_eq]
    have a1 : zI x 93 625 = W 625 := by rw [x93]; exact if_neg (by omega)
    have a2 : zI x 93 626 = W 626 := by rw [x93]; exact if_neg (by omega)
    have a3 : zI x 93 2 = nI n := by rw [x93]; exact (if_neg (by omega)).trans e2
    have fin : wI x 93 (ups (ups (ups (ups (ups (zI x 93) (624 + 6 * n) (nI c)) (625 + 6 * n) (W 625)) (626 + 6 * n) (W 626)) (627 + 6 * n) 1) 2 (nI (n + 1))) = wI z 93 (addW W c) := by
      rw [g2, wI_wI, zI_eq]
      refine congrArg (wI z 93) (funext fun j => ?_)
      simp only [ups_eq]
      unfold addW
      rw [← hnn, e2, nI_1]
      by_cases c1 : j = 2
      · rw [if_pos c1, if_pos c1]
      · rw [if_neg c1, if_neg c1]
        by_cases c2 : j = 627 + 6 * n
        · rw [if_pos c2, if_neg (by omega), if_neg (by omega), if_neg (by omega), if_pos c2]
        · rw [if_neg c2]
          by_cases c3 : j = 626 + 6 * n
          · rw [if_pos c3, if_neg (by omega), if_neg (by omega), if_pos c3]
          · rw [if_neg c3]
            by_cases c4 : j = 625 + 6 * n
            · rw [if_pos c4, if_neg (by omega), if_pos c4]
            · rw [if_neg c4]
              by_cases c5 : j = 624 + 6 * n
              · rw [if_pos c5, if_pos c5]
              · rw [if_neg c5, if_neg c5, if_neg c4, if_neg c3, if_neg c2]
                by_cases c6 : j = 628 + 6 * n
                · rw [if_pos (by omega), if_pos c6]
                · rw [if_neg c6]
                  by_cases c7 : j = 629 + 6 * n
                  · rw [if_pos (by omega), if_pos c7]
                  · rw [if_neg (by omega), if_neg c7]
    rw [m_X12_shutsBy_L48, if_neg (nlt_lit (Nat.le_refl _) (by decide)), ← fin]
    have n1 : ¬ 625 = 624 + 6 * n := by omega
    have n2 : ¬ 626 = 625 + 6 * n := by omega
    have n3 : ¬ 626 = 624 + 6 * n := by omega
    have n4 : ¬ 2 = 627 + 6 * n := by omega
    have n5 : ¬ 2 = 626 + 6 * n := by omega
    have n6 : ¬ 2 = 625 + 6 * n := by omega
    have n7 : ¬ 2 = 624 + 6 * n := by omega
    unfold m_X12_shutsBy_B72 m_X12_shutsBy_B146
    simp (disch := omega) [gI, gR, pI, pR, aI, sI, aL, sL, aO, aR, sR, aN, onul, bnd, isC, cpI, cpL, sLen, sCh, nwC, zK_wI, zR_wI, zL_wI, zN_wI, zI_wI, zK_wL, zR_wL, zI_wL, zN_wL, zL_wL, zK_wR, zI_wR, zL_wR, zN_wR, zR_wR, ups_eq, inb_nI, nI_clamp, wI_wI, nI_add, pk_mul, add_c, c_add, c_mul, lt_c, le_c, eq_c, gt_c, ge_c, inb_c, clamp_c, ladd, mk_92, mk_93, mk_94, mk_95, mk_96, mk_97, mk_98, mk_99, mk_100, mk_101, mk_102, mk_103, mk_104, mk_105, mk_106, mk_107, mk_108, mk_109, mk_110, mk_111, mk_112, mk_113, mk_114, mr_92_1, mr_92_2, mr_92_3, mr_92_4, mr_92_5, mr_92_7, mr_92_15, mr_92_16, mr_92_17, mr_92_24, mr_92_25, mr_92_26, mr_92_27, mr_92_28, mr_92_29, mr_92_30, mr_92_32, mr_92_33, mr_92_36, mr_92_37, mr_92_38, mr_92_39, Mx, x113, lN_i, a1, a2, a3, n1, n2, n3, n4, n5, n6, n7]
def msW (W : Nat → Int32) (cs : Nat → Nat) (P : Nat → Bool) : Nat → Nat → Int32
  | 0 => W
  | n + 1 => if P n = true then addW (msW W cs P n) (cs n) else msW W cs P n
theorem msW_congr {W : Nat → Int32} {cs : Nat → Nat} {P Q : Nat → Bool} : ∀ {n : Nat}, (∀ i, i < n → P i = Q i) → msW W cs P n = msW W cs Q n
  | 0, _ => rfl
  | n + 1, e => by
    show (if P n = true then addW (msW W cs P n) (cs n) else msW W cs P n) = (if Q n = true then addW (msW W cs Q n) (cs n) else msW W cs Q n)
    rw [msW_congr (fun i hi => e i (by omega)), e n (by omega)]
theorem ms_ok {W : Nat → Int32} {cs : Nat → Nat} {P : Nat → Bool} {L : Nat} (hO : OkW W 12) (h1 : 1 ≤ nPW W) (hL : L ≤ 6) (hc : ∀ i, i < L → cs i < 144) (hp : ∀ i p, i < L → p < nPW W → W (624 + 6 * p) ≠ nI (cs i)) (hd : ∀ i j, i < j → j < L → cs i ≠ cs j) :
    ∀ n, n ≤ L → OkW (msW W cs P n) (12 + n) ∧ 1 ≤ nPW (msW W cs P n) ∧ ∀ p j, p < nPW (msW W cs P n) → n ≤ j → j < L → msW W cs P n (624 + 6 * p) ≠ nI (cs j)
  | 0, _ => ⟨hO, h1, fun p j hpp _ hj => hp j p hj hpp⟩
  | n + 1, hn => by
    obtain ⟨a1, a2, a3⟩ := ms_ok (P := P) hO h1 hL hc hp hd n (by omega)
    show OkW (if P n = true then addW (msW W cs P n) (cs n) else msW W cs P n) (12 + (n + 1)) ∧ 1 ≤ nPW (if P n = true then addW (msW W cs P n) (cs n) else msW W cs P n) ∧ ∀ p j, p < nPW (if P n = true then addW (msW W cs P n) (cs n) else msW W cs P n) → n + 1 ≤ j → j < L → (if P n = true then addW (msW W cs P n) (cs n) else msW W cs P n) (624 + 6 * p) ≠ nI (cs j)
    by_cases g : P n = true
    · rw [if_pos g]
      have en := ad_n (c := cs n) a1
      refine ⟨okadd (q := 12 + n) a1 (show 12 + n + 1 ≤ 18 by omega) (hc n (by omega)) a2 (fun p h => a3 p n h (Nat.le_refl _) (by omega)), by omega, fun p j h2 h3 h4 => ?_⟩
      rw [en] at h2
      by_cases e : p = nPW (msW W cs P n)
      · subst e
        rw [ad_0]
        have c1 := hc n (by omega)
        have c2 := hc j h4
        exact fun k => hd n j (by omega) h4 ((nI_eq (by omega) (by omega)).mp k)
      · rw [ad_id (by omega)]
        exact a3 p j (by omega) (by omega) h4
    · rw [if_neg g]
      refine ⟨?_, a2, fun p j h2 h3 h4 => a3 p j h2 (by omega) h4⟩
      obtain ⟨b1, b2⟩ := ok_pn a1
      have e : ∀ i, i < 810 → msW W cs P n i = msW W cs P n i := fun _ _ => rfl
      exact ⟨a1.1, a1.2.1, a1.2.2.1, a1.2.2.2.1, a1.2.2.2.2.1, a1.2.2.2.2.2.1, a1.2.2.2.2.2.2.1, a1.2.2.2.2.2.2.2.1, a1.2.2.2.2.2.2.2.2.1, a1.2.2.2.2.2.2.2.2.2.1, ⟨⟨b1.1, by have := b1.2; omega⟩, by omega⟩, a1.2.2.2.2.2.2.2.2.2.2.2⟩
theorem ms_hi {W : Nat → Int32} {cs : Nat → Nat} {P : Nat → Bool} {L : Nat} (hO : OkW W 12) (h1 : 1 ≤ nPW W) (hL : L ≤ 6) (hc : ∀ i, i < L → cs i < 144) (hp : ∀ i p, i < L → p < nPW W → W (624 + 6 * p) ≠ nI (cs i)) (hd : ∀ i j, i < j → j < L → cs i ≠ cs j) {i : Nat} (hi : 732 ≤ i) :
    ∀ n, n ≤ L → msW W cs P n i = W i
  | 0, _ => rfl
  | n + 1, hn => by
    have a := (ms_ok (P := P) hO h1 hL hc hp hd n (by omega)).1
    have b := np_lt a
    show (if P n = true then addW (msW W cs P n) (cs n) else msW W cs P n) i = W i
    by_cases g : P n = true
    · rw [if_pos g, ad_id (by omega)]
      exact ms_hi hO h1 hL hc hp hd hi n (by omega)
    · rw [if_neg g]
      exact ms_hi hO h1 hL hc hp hd hi n (by omega)
theorem tick_hi {W : Nat → Int32} {q i : Nat} (hO : OkW W q) (hi : 750 ≤ i) : tickW W i = W i := by
  have h1 := nh_le (okpass hO)
  have h2 := np_le hO
  show flW (crackW (passW W)) i = _
  rw [fl_id (by omega)]
  show ckW (passW W) _ i = _
  rw [ck_id (by omega), pw_id (by omega)]
theorem tkI_hi {W : Nat → Int32} {q i : Nat} (hO : OkW W q) (hi : 750 ≤ i) : ∀ n, tkI W n i = W i
  | 0 => rfl
  | n + 1 => (tick_hi (oktkI hO n) hi).trans (tkI_hi hO hi n)

