/-! ===== way, shut, pump ===== -/
/-- only what counts for nothing has changed -/
theorem In.scr {z y : Hp} {s d : Nat} (h : In z s d) (F : Fi (fun a => (70 ≤ a ∧ a ≤ 82) ∨ (102 ≤ a ∧ a ≤ 109) ∨ a = 94) z y) : In y s d := by
  have hs := in_lo h
  have e93 := F.2.2.2.2 93 (by omega)
  refine In.re3 h F.2.1 F.2.2.2.1 F.1 F.2.2.1 (fun a ha => F.2.2.2.2 a (by omega)) (by rw [F.2.2.2.2 66 (by omega)]) (fun k _ => by rw [F.2.2.2.2 92 (by omega)]) ?_ ?_ ?_
  · rw [e93]; exact (in_R h).of (fun a h1 h2 => F.2.2.2.2 a (by omega))
  · rw [e93]; exact in_ok h
  · rw [e93]; exact in_tk h
noncomputable def wayV (W : Nat → Int32) : Int32 := Classical.epsilon (fun v : Int32 => WayRes (wtW W none (some 1)) (stB W) v)
theorem wayV_eq {W : Nat → Int32} {v : Int32} (h : WayRes (wtW W none (some 1)) (stB W) v) : v = wayV W := h.uniq (Classical.epsilon_spec (p := fun v : Int32 => WayRes (wtW W none (some 1)) (stB W) v) ⟨v, h⟩)
noncomputable def thickV (W : Nat → Int32) : Int32 := Classical.epsilon (fun v : Int32 => WayRes (wtW W (some 1) (some 0)) (stB W) v)
theorem thickV_eq {W : Nat → Int32} {v : Int32} (h : WayRes (wtW W (some 1) (some 0)) (stB W) v) : v = thickV W := h.uniq (Classical.epsilon_spec (p := fun v : Int32 => WayRes (wtW W (some 1) (some 0)) (stB W) v) ⟨v, h⟩)
theorem wayC {z : Hp} {s p : Nat} {W : Nat → Int32} (hC : LayC z) (hS : LayS z s) (hR : RelS z s W) (hO : OkW W p) (hs : s + 32 ≤ 70 ∨ 115 ≤ s) (hq : zR z 74 3 = some 78 ∧ zR z 74 4 = some 79 ∨ zR z 74 3 = some 79 ∧ zR z 74 4 = some 78) :
    ∃ y, m_X10_shortestWay 74 s z = some (wayV W, y) ∧ Fi (fun a => 74 ≤ a ∧ a ≤ 82) z y := by
  have key : ∃ v y, m_X10_shortestWay 74 s z = some (v, y) ∧ Fi (fun a => 74 ≤ a ∧ a ≤ 82) z y ∧ WayRes (wtW W none (some 1)) (stB W) v := by
    rcases hq with ⟨h, _⟩ | ⟨h, _⟩
    · exact shortestWay_ok hC hS hR hO hs h (Or.inl rfl)
    · exact shortestWay_ok hC hS hR hO hs h (Or.inr rfl)
  obtain ⟨v, y, h1, h2, h3⟩ := key
  exact ⟨y, by rw [h1, wayV_eq h3], h2⟩
theorem wayM {z : Hp} {p : Nat} (hM : LayM z) (hO : OkW (zI z 93) p) : ∃ G, m_X12_leastOut 92 (-1) 1 z = some (wayV (zI z 93), wI z 104 G) := by
  obtain ⟨v, G, h1, h2⟩ := leastOut_ok (fz := none) (ot := some 1) hM hO way_fz way_ot
  exact ⟨G, by rw [← wayV_eq h2]; exact h1⟩
theorem thickM {z : Hp} {p : Nat} (hM : LayM z) (hO : OkW (zI z 93) p) : ∃ G, m_X12_leastOut 92 1 0 z = some (thickV (zI z 93), wI z 104 G) := by
  obtain ⟨v, G, h1, h2⟩ := leastOut_ok (fz := some 1) (ot := some 0) hM hO way_ot thick_ot
  exact ⟨G, by rw [← thickV_eq h2]; exact h1⟩
theorem shutC {z : Hp} {s p : Nat} {W : Nat → Int32} (hC : LayC z) (hS : LayS z s) (hR : RelS z s W) (hO : OkW W p) (hs : s + 32 ≤ 70 ∨ 115 ≤ s) (hq : zR z 74 3 = some 78 ∧ zR z 74 4 = some 79 ∨ zR z 74 3 = some 79 ∧ zR z 74 4 = some 78) :
    ∃ y, m_X10_isShut 74 s z = some (bI (decide (wayV W = -1)), y) ∧ Fi (fun a => 74 ≤ a ∧ a ≤ 82) z y := by
  obtain ⟨y, h1, h2⟩ := wayC hC hS hR hO hs hq
  refine ⟨y, ?_, h2⟩
  unfold m_X10_isShut
  rw [isC_eq (by rw [ck_74 hC]), h1, bnd_some]
  by_cases c : wayV W = -1 <;> simp [c, bI]
theorem shutM {z : Hp} {p : Nat} (hM : LayM z) (hO : OkW (zI z 93) p) : ∃ G, m_X12_isShut 92 z = some (bI (decide (wayV (zI z 93) = -1)), wI z 104 G) := by
  obtain ⟨G, h1⟩ := wayM hM hO
  refine ⟨G, ?_⟩
  unfold m_X12_isShut
  rw [isC_eq (by rw [mk_92 hM]), h1, bnd_some]
  by_cases c : wayV (zI z 93) = -1 <;> simp [c, bI]
theorem hasShaft_ok {z : Hp} (hM : LayM z) : m_X12_hasShaft 92 z = some (bI (decide (zI z 93 7 = 1)), z) := by
  unfold m_X12_hasShaft
  simp (disch := omega) [gI, gR, pI, pR, aI, sI, aL, sL, aO, aR, sR, aN, onul, bnd, isC, cpI, cpL, sLen, sCh, nwC, zK_wI, zR_wI, zL_wI, zN_wI, zI_wI, zK_wL, zR_wL, zI_wL, zN_wL, zL_wL, zK_wR, zI_wR, zL_wR, zN_wR, zR_wR, ups_eq, inb_nI, nI_clamp, wI_wI, nI_add, pk_mul, add_c, c_add, c_mul, lt_c, le_c, eq_c, gt_c, ge_c, inb_c, clamp_c, ladd, mk_92, mk_93, mk_94, mk_95, mk_96, mk_97, mk_98, mk_99, mk_100, mk_101, mk_102, mk_103, mk_104, mk_105, mk_106, mk_107, mk_108, mk_109, mk_110, mk_111, mk_112, mk_113, mk_114, mr_92_1, mr_92_2, mr_92_3, mr_92_4, mr_92_5, mr_92_7, mr_92_15, mr_92_16, mr_92_17, mr_92_24, mr_92_25, mr_92_26, mr_92_27, mr_92_28, mr_92_29, mr_92_30, mr_92_32, mr_92_33, mr_92_36, mr_92_37, mr_92_38, mr_92_39, hM]
  by_cases c : zI z 93 7 = 1 <;> simp [c, bI]
/-- a shaft has cells -/
theorem sc_pos {W : Nat → Int32} {p : Nat} (hO : OkW W p) (h7 : W 7 = 1) : ∃ n, scW W = nI n ∧ 1 ≤ n ∧ n ≤ 100 := by
  rcases ok_sh hO with h | ⟨_, ⟨a1, a2, a3, a4⟩, a5, a6, a7, a8⟩
  · rw [h7] at h; exact absurd h (by decide)
  · obtain ⟨x, hx, ex⟩ : ∃ x, x < 11 ∧ W 8 = nI x ∧ x = nn (W 8) := ⟨nn (W 8), a1.2, a1.1, rfl⟩
    obtain ⟨y, hy, ey⟩ : ∃ x, x < 11 ∧ W 9 = nI x ∧ x = nn (W 9) := ⟨nn (W 9), a2.2, a2.1, rfl⟩
    obtain ⟨u, hu, eu⟩ : ∃ x, x < 11 ∧ W 10 = nI x ∧ x = nn (W 10) := ⟨nn (W 10), a3.2, a3.1, rfl⟩
    obtain ⟨v, hv, ev⟩ : ∃ x, x < 11 ∧ W 11 = nI x ∧ x = nn (W 11) := ⟨nn (W 11), a4.2, a4.1, rfl⟩
    have sb : ∀ a b, b ≤ a → nI a - nI b = nI (a - b) := fun a b hab => by
      rw [show nI a = nI ((a - b) + b) by rw [Nat.sub_add_cancel hab], ← nI_add]
      exact Int32.add_sub_cancel _ _
    refine ⟨(u - x + 1) * (v - y + 1), ?_, Nat.mul_pos (by omega) (by omega), ?_⟩
    · unfold scW
      rw [if_pos h7, ex.1, ey.1, eu.1, ev.1, sb u x (by omega), sb v y (by omega), nI_1, nI_1, pk_mul]
    · have h1 : u - x + 1 ≤ 10 := by omega
      have h2 : v - y + 1 ≤ 10 := by omega
      exact Nat.mul_le_mul h1 h2
theorem sc_iff {W : Nat → Int32} {p : Nat} (hO : OkW W p) : scW W = 0 ↔ ¬ W 7 = 1 := by
  by_cases h : W 7 = 1
  · obtain ⟨n, h1, h2, h3⟩ := sc_pos hO h
    rw [h1]
    exact ⟨fun e => absurd ((nI_eq (b := 0) (by omega) (by decide)).mp e) (by omega), fun e => absurd h e⟩
  · unfold scW
    rw [if_neg h]
    exact ⟨fun _ => h, fun _ => rfl⟩
theorem op_way : Op (m_X11_way 0) (m_X12_way 92) := by
  intro z s d h
  have hS := in_S h; have hR := in_R h; have hO := in_ok h; have hM := in_M h; have hC := in_C h; have hN := in_now h
  have hs := in_lo h
  by_cases h7 : zI z 93 7 = 1
  · obtain ⟨y, g1, F1⟩ := wayC hC hS hR hO (by omega) (in_wq h)
    have hMy := hM.fi F1
    have y93 : zI y 93 = zI z 93 := F1.2.2.2.2 93 (by omega)
    obtain ⟨G, g2⟩ := wayM hMy (by rw [y93]; exact hO)
    rw [y93] at g2
    have e0 := hasShaft_ok hMy
    rw [y93, h7] at e0
    have sc : ¬ zI z s 10 = 0 := by rw [rs_sc hR]; exact fun e => (sc_iff hO).mp e h7
    refine ⟨wayV (zI z 93), y, wI y 104 G, s, d, ?_, by rw [mk_92 hMy], ?_, ?_⟩
    · unfold m_X11_way
      rw [gR_eq (by rw [ck_0 hC]) hN, gI_eq (by rw [sk_0 hS]), if_neg sc, gR_eq (by rw [ck_0 hC]) (cr_0_6 hC), gR_eq (by rw [ck_0 hC]) hN, isC_eq (by rw [ck_74 hC]), g1, bnd_some]
    · unfold m_X12_way
      rw [isC_eq (by rw [mk_92 hMy]), e0, bnd_some, if_neg (by decide), isC_eq (by rw [mk_92 hMy]), g2, bnd_some]
    · exact h.scr ((F1.mono (fun a h => by omega)).trans (Fi.w (by omega)))
  · have e0 := hasShaft_ok hM
    have sc : zI z s 10 = 0 := by rw [rs_sc hR]; exact (sc_iff hO).mpr h7
    refine ⟨-6, z, z, s, d, ?_, by rw [mk_92 hM], ?_, h⟩
    · unfold m_X11_way
      rw [gR_eq (by rw [ck_0 hC]) hN, gI_eq (by rw [sk_0 hS]), if_pos sc]
    · unfold m_X12_way
      rw [isC_eq (by rw [mk_92 hM]), e0, bnd_some]
      simp [h7, bI]
theorem op_shut : Op (m_X11_shut 0) (m_X12_shut 92) := by
  intro z s d h
  have hS := in_S h; have hR := in_R h; have hO := in_ok h; have hM := in_M h; have hC := in_C h; have hN := in_now h
  have hs := in_lo h
  by_cases h7 : zI z 93 7 = 1
  · obtain ⟨y, g1, F1⟩ := shutC hC hS hR hO (by omega) (in_wq h)
    have hMy := hM.fi F1
    have y93 : zI y 93 = zI z 93 := F1.2.2.2.2 93 (by omega)
    obtain ⟨G, g2⟩ := shutM hMy (by rw [y93]; exact hO)
    rw [y93] at g2
    have e0 := hasShaft_ok hMy
    rw [y93, h7] at e0
    have sc : ¬ zI z s 10 = 0 := by rw [rs_sc hR]; exact fun e => (sc_iff hO).mp e h7
    refine ⟨bI (decide (wayV (zI z 93) = -1)), y, wI y 104 G, s, d, ?_, by rw [mk_92 hMy], ?_, ?_⟩
    · unfold m_X11_shut
      rw [gR_eq (by rw [ck_0 hC]) hN, gI_eq (by rw [sk_0 hS]), if_neg sc, gR_eq (by rw [ck_0 hC]) (cr_0_6 hC), gR_eq (by rw [ck_0 hC]) hN, isC_eq (by rw [ck_74 hC]), g1, bnd_some]
      by_cases c : wayV (zI z 93) = -1 <;> simp [c, bI]
    · unfold m_X12_shut
      rw [isC_eq (by rw [mk_92 hMy]), e0, bnd_some, if_neg (by decide), isC_eq (by rw [mk_92 hMy]), g2, bnd_some]
      by_cases c : wayV (zI z 93) = -1 <;> simp [c, bI]
    · exact h.scr ((F1.mono (fun a h => by omega)).trans (Fi.w (by omega)))
  · have e0 := hasShaft_ok hM
    have sc : zI z s 10 = 0 := by rw [rs_sc hR]; exact (sc_iff hO).mpr h7
    refine ⟨-6, z, z, s, d, ?_, by rw [mk_92 hM], ?_, h⟩
    · unfold m_X11_shut
      rw [gR_eq (by rw [ck_0 hC]) hN, gI_eq (by rw [sk_0 hS]), if_pos sc]
    · unfold m_X12_shut
      rw [isC_eq (by rw [mk_92 hM]), e0, bnd_some]
      simp [h7, bI]
theorem op_pump : Op (m_X11_pump 0) (m_X12_pump 92) := by
  intro z s d h
  have hS := in_S h; have hR := in_R h; have hO := in_ok h; have hM := in_M h; have hC := in_C h; have hN := in_now h
  have hs := in_lo h
  by_cases h7 : zI z 93 7 = 1
  · have sc : ¬ zI z s 10 = 0 := by rw [rs_sc hR]; exact fun e => (sc_iff hO).mp e h7
    by_cases h12 : zI z 93 12 = 0
    · have e0 := hasShaft_ok hM
      rw [h7] at e0
      refine ⟨-5, z, z, s, d, ?_, by rw [mk_92 hM], ?_, h⟩
      · unfold m_X11_pump
        rw [gR_eq (by rw [ck_0 hC]) hN, gI_eq (by rw [sk_0 hS]), if_neg sc, gR_eq (by rw [ck_0 hC]) hN, gI_eq (by rw [sk_0 hS]), rs_fl hR, if_pos h12]
      · unfold m_X12_pump
        rw [isC_eq (by rw [mk_92 hM]), e0, bnd_some, if_neg (by decide)]
        simp (disch := omega) [gI, gR, pI, pR, aI, sI, aL, sL, aO, aR, sR, aN, onul, bnd, isC, cpI, cpL, sLen, sCh, nwC, zK_wI, zR_wI, zL_wI, zN_wI, zI_wI, zK_wL, zR_wL, zI_wL, zN_wL, zL_wL, zK_wR, zI_wR, zL_wR, zN_wR, zR_wR, ups_eq, inb_nI, nI_clamp, wI_wI, nI_add, pk_mul, add_c, c_add, c_mul, lt_c, le_c, eq_c, gt_c, ge_c, inb_c, clamp_c, ladd, mk_92, mk_93, mk_94, mk_95, mk_96, mk_97, mk_98, mk_99, mk_100, mk_101, mk_102, mk_103, mk_104, mk_105, mk_106, mk_107, mk_108, mk_109, mk_110, mk_111, mk_112, mk_113, mk_114, mr_92_1, mr_92_2, mr_92_3, mr_92_4, mr_92_5, mr_92_7, mr_92_15, mr_92_16, mr_92_17, mr_92_24, mr_92_25, mr_92_26, mr_92_27, mr_92_28, mr_92_29, mr_92_30, mr_92_32, mr_92_33, mr_92_36, mr_92_37, mr_92_38, mr_92_39, hM, h12]
    · obtain ⟨y, g1, F1⟩ := shutC hC hS hR hO (by omega) (in_wq h)
      have hMy := hM.fi F1
      have hCy := hC.fi F1
      have hSy := hS.fi F1
      have y93 : zI y 93 = zI z 93 := F1.2.2.2.2 93 (by omega)
      have yN : zR y 0 0 = some s := by rw [F1.2.2.2.1]; exact hN
      by_cases hw : wayV (zI z 93) = -1
      · obtain ⟨x, hx⟩ : ∃ x, x = wI y s (ups (zI y s) 15 0) := ⟨_, rfl⟩
        have hMx : LayM x := hMy.of (by rw [hx]; rfl) (by rw [hx]; rfl)
        have x93 : zI x 93 = zI z 93 := by rw [hx, zI_ne (by omega)]; exact y93
        obtain ⟨G, g2⟩ := shutM hMx (by rw [x93]; exact hO)
        rw [x93] at g2
        have e0 := hasShaft_ok hMx
        rw [x93, h7] at e0
        obtain ⟨x2, hx2⟩ : ∃ x2, x2 = wI x 104 G := ⟨_, rfl⟩
        rw [← hx2] at g2
        have hMx2 : LayM x2 := hMx.of (by rw [hx2]; rfl) (by rw [hx2]; rfl)
        have x293 : zI x2 93 = zI z 93 := by rw [hx2, zI_ne (by decide)]; exact x93
        obtain ⟨w, hww⟩ : ∃ w, w = wI x2 93 (ups (zI z 93) 12 0) := ⟨_, rfl⟩
        refine ⟨0, x, w, s, d, ?_, by rw [mk_92 hMx], ?_, ?_⟩
        · unfold m_X11_pump
          rw [gR_eq (by rw [ck_0 hC]) hN, gI_eq (by rw [sk_0 hS]), if_neg sc, gR_eq (by rw [ck_0 hC]) hN, gI_eq (by rw [sk_0 hS]), rs_fl hR, if_neg h12, gR_eq (by rw [ck_0 hC]) (cr_0_6 hC), gR_eq (by rw [ck_0 hC]) hN, isC_eq (by rw [ck_74 hC]), g1, bnd_some, hw, if_neg (by decide), gR_eq (by rw [ck_0 hCy]) yN, pI_eq (by rw [sk_0 hSy]), ← hx]
        · unfold m_X12_pump
          rw [isC_eq (by rw [mk_92 hMx]), e0, bnd_some, if_neg (by decide), gR_eq (by rw [mk_92 hMx]) (mr_92_1 hMx), show (12 : Int32) = nI 12 from rfl, aI_n (mk_93 hMx) (by decide) (by decide), x93, if_neg h12, isC_eq (by rw [mk_92 hMx]), g2, bnd_some, hw, if_neg (by decide), gR_eq (by rw [mk_92 hMx2]) (mr_92_1 hMx2), sI_n (mk_93 hMx2) (by decide) (by decide), x293, ← hww]
        · have F : ∀ a, a ≠ s → a ≠ 93 → a ≠ 104 → ¬ (74 ≤ a ∧ a ≤ 82) → zI w a = zI z a := fun a h1 h2 h3 h4 => by
            rw [hww, zI_ne h2, hx2, zI_ne h3, hx, zI_ne h1, F1.2.2.2.2 a h4]
          have w93 : zI w 93 = ups (zI z 93) 12 0 := by rw [hww, zI_eq]
          have ws : zI w s = ups (zI z s) 15 0 := by rw [hww, zI_ne (by omega), hx2, zI_ne (by omega), hx, zI_eq, F1.2.2.2.2 s (by omega)]
          have hz : ∀ a, s ≤ a → a < s + 32 → a ≠ s → zI w a = zI z a := fun a h1 h2 h3 => F a h3 (by omega) (by omega) (by omega)
          have hf : ∀ k, k ≠ 15 → zI w s k = zI z s k := fun k hk => by rw [ws, up_ne hk]
          have e : ∀ i, i ≠ 12 → zI w 93 i = zI z 93 i := fun i hi => by rw [w93, up_ne hi]
          refine In.re3 h (by rw [hww, hx2, hx]; exact F1.2.1) (by rw [hww, hx2, hx]; exact F1.2.2.2.1) (by rw [hww, hx2, hx]; exact F1.1) (by rw [hww, hx2, hx]; exact F1.2.2.1) (fun a ha => F a (by omega) (by omega) (by omega) (by omega)) (by rw [F 66 (by omega) (by omega) (by omega) (by omega)]) (fun k _ => by rw [F 92 (by omega) (by omega) (by omega) (by omega)]) ?_ ?_ ?_
          · exact ⟨rs_lead_of (rs_lead hR) (hz (s + 2) (by omega) (by omega) (by omega)) (fun i hi => e i (by omega)),
            rs_ilead_of (rs_ilead hR) (hz (s + 3) (by omega) (by omega) (by omega)) (fun i hi => e i (by omega)),
            rs_latent_of (rs_latent hR) (hz (s + 4) (by omega) (by omega) (by omega)) (fun i hi => e i (by omega)),
            rs_mark_of (rs_mark hR) (hz (s + 5) (by omega) (by omega) (by omega)) (fun i hi => e i (by omega)),
            rs_ground_of (rs_ground hR) (hz (s + 6) (by omega) (by omega) (by omega)) (fun i hi => e i (by omega)),
            rs_speed_of (rs_speed hR) (hz (s + 7) (by omega) (by omega) (by omega)) (fun i hi => e i (by omega)),
            rs_far_of (rs_far hR) (congrFun (hz (s + 1) (by omega) (by omega) (by omega)) 6) (fun i hi => e i (by omega)),
            rs_pn_of (rs_pn hR) (congrFun (hz (s + 8) (by omega) (by omega) (by omega)) 6) (fun i hi => e i (by omega)),
            rs_p0_of (rs_p0 hR) (hz (s + 9) (by omega) (by omega) (by omega)) (np_le hO) (fun i hi => e i (by omega)),
            rs_p1_of (rs_p1 hR) (hz (s + 10) (by omega) (by omega) (by omega)) (np_le hO) (fun i hi => e i (by omega)),
            rs_p2_of (rs_p2 hR) (hz (s + 11) (by omega) (by omega) (by omega)) (np_le hO) (fun i hi => e i (by omega)),
            rs_p3_of (rs_p3 hR) (hz (s + 12) (by omega) (by omega) (by omega)) (np_le hO) (fun i hi => e i (by omega)),
            rs_p4_of (rs_p4 hR) (hz (s + 13) (by omega) (by omega) (by omega)) (np_le hO) (fun i hi => e i (by omega)),
            rs_p5_of (rs_p5 hR) (hz (s + 14) (by omega) (by omega) (by omega)) (np_le hO) (fun i hi => e i (by omega)),
            rs_hn_of (rs_hn hR) (congrFun (hz (s + 15) (by omega) (by omega) (by omega)) 3) (fun i hi => e i (by omega)),
            rs_h0_of (rs_h0 hR) (hz (s + 16) (by omega) (by omega) (by omega)) (nh_le hO) (fun i hi => e i (by omega)),
            rs_h1_of (rs_h1 hR) (hz (s + 17) (by omega) (by omega) (by omega)) (nh_le hO) (fun i hi => e i (by omega)),
            rs_h2_of (rs_h2 hR) (hz (s + 18) (by omega) (by omega) (by omega)) (nh_le hO) (fun i hi => e i (by omega)),
            rs_rn_of (rs_rn hR) (congrFun (hz (s + 19) (by omega) (by omega) (by omega)) 4) (fun i hi => e i (by omega)),
            rs_rc_of (rs_rc hR) (hz (s + 20) (by omega) (by omega) (by omega)) (nr_lt hO) (fun i hi => e i (by omega)),
            rs_rw_of (rs_rw hR) (hz (s + 21) (by omega) (by omega) (by omega)) (nr_lt hO) (nc_lt hO) (fun i hi => e i (by omega)),
            rs_rs_of (rs_rs hR) (hz (s + 22) (by omega) (by omega) (by omega)) (hz (s + 23) (by omega) (by omega) (by omega)) (nr_lt hO) (nc_lt hO) (fun i hi => e i (by omega)),
            rs_gc_of (rs_gc hR) (hz (s + 25) (by omega) (by omega) (by omega)) (fun i hi => e i (by omega)),
            rs_gr_of (rs_gr hR) (hz (s + 26) (by omega) (by omega) (by omega)) (fun i hi => e i (by omega)),
            rs_warm_of (rs_warm hR) (hz (s + 27) (by omega) (by omega) (by omega)) (fun i hi => e i (by omega)),
            rs_ice_of (rs_ice hR) (hz (s + 28) (by omega) (by omega) (by omega)) (fun i hi => e i (by omega)),
            rs_dug_of (rs_dug hR) (hz (s + 29) (by omega) (by omega) (by omega)) (fun i hi => e i (by omega)),
            rs_shaft_of (rs_shaft hR) (hz (s + 30) (by omega) (by omega) (by omega)) (fun i hi => e i (by omega)),
            rs_sums_of (rs_sums hR) (hz (s + 31) (by omega) (by omega) (by omega)) (fun i hi => e i (by omega)),
            rs_sc_of (rs_sc hR) (hf 10 (by omega)) (fun i hi => e i (by omega)),
            rs_dc_of (rs_dc hR) (hf 11 (by omega)) (fun i hi => e i (by omega)),
            rs_cold_of (rs_cold hR) (hf 12 (by omega)) (fun i hi => e i (by omega)),
            rs_lines_of (rs_lines hR) (hf 13 (by omega)) (fun i hi => e i (by omega)),
            rs_ticks_of (rs_ticks hR) (hf 14 (by omega)) (fun i hi => e i (by omega)),
            by rw [ws, w93, up_eq, up_eq],
            rs_fls_of (rs_fls hR) (hf 16 (by omega)) (fun i hi => e i (by omega))⟩
          · exact ⟨ok_kd_of (ok_kd hO)  (fun i hi => e i (by omega)),
            ok_gl_of (ok_gl hO)  (fun i hi => e i (by omega)),
            ok_lat_of (ok_lat hO)  (fun i hi => e i (by omega)),
            ok_mark_of (ok_mark hO)  (fun i hi => e i (by omega)),
            ok_sp_of (ok_sp hO)  (fun i hi => e i (by omega)),
            ok_far_of (ok_far hO)  (fun i hi => e i (by omega)),
            ok_warm_of (ok_warm hO)  (fun i hi => e i (by omega)),
            ok_ice_of (ok_ice hO) (fun c hc => kd_lt hO hc) (fun i hi => e i (by omega)),
            ok_dug_of (ok_dug hO)  (fun i hi => e i (by omega)),
            ok_dsh_of (ok_dsh hO)  (fun i hi => e i (by omega)),
            ok_pn_of (ok_pn hO)  (fun i hi => e i (by omega)),
            ok_pc_of (ok_pc hO) (np_le hO) (fun i hi => e i (by omega)),
            ok_pd_of (ok_pd hO) (np_le hO) (fun i hi => e i (by omega)),
            ok_pa_of (ok_pa hO) (np_le hO) (fun i hi => e i (by omega)),
            ok_pl_of (ok_pl hO) (np_le hO) (fun i hi => e i (by omega)),
            ok_pr_of (ok_pr hO) (np_le hO) (fun i hi => e i (by omega)),
            ok_hn_of (ok_hn hO)  (fun i hi => e i (by omega)),
            ok_hc_of (ok_hc hO) (nh_le hO) (fun i hi => e i (by omega)),
            ok_rn_of (ok_rn hO)  (fun i hi => e i (by omega)),
            ok_rc_of (ok_rc hO) (nr_lt hO) (fun i hi => e i (by omega)),
            ok_rw_of (ok_rw hO) (nr_lt hO) (nc_lt hO) (fun i hi => e i (by omega)),
            ok_gc_of (ok_gc hO)  (fun i hi => e i (by omega)),
            ok_sh_of (ok_sh hO)  (fun i hi => e i (by omega)),
            ok_cold_of (ok_cold hO)  (fun i hi => e i (by omega)),
            by rw [w93, up_eq]; exact Or.inl rfl⟩
          · rw [e 1 (by omega)]; exact in_tk h
      · obtain ⟨G, g2⟩ := shutM hMy (by rw [y93]; exact hO)
        rw [y93] at g2
        have e0 := hasShaft_ok hMy
        rw [y93, h7] at e0
        refine ⟨-8, y, wI y 104 G, s, d, ?_, by rw [mk_92 hMy], ?_, ?_⟩
        · unfold m_X11_pump
          rw [gR_eq (by rw [ck_0 hC]) hN, gI_eq (by rw [sk_0 hS]), if_neg sc, gR_eq (by rw [ck_0 hC]) hN, gI_eq (by rw [sk_0 hS]), rs_fl hR, if_neg h12, gR_eq (by rw [ck_0 hC]) (cr_0_6 hC), gR_eq (by rw [ck_0 hC]) hN, isC_eq (by rw [ck_74 hC]), g1, bnd_some]
          simp [hw, bI]
        · unfold m_X12_pump
          rw [isC_eq (by rw [mk_92 hMy]), e0, bnd_some, if_neg (by decide), gR_eq (by rw [mk_92 hMy]) (mr_92_1 hMy), show (12 : Int32) = nI 12 from rfl, aI_n (mk_93 hMy) (by decide) (by decide), y93, if_neg h12, isC_eq (by rw [mk_92 hMy]), g2, bnd_some]
          simp [hw, bI]
        · exact h.scr ((F1.mono (fun a h => by omega)).trans (Fi.w (by omega)))
  · have e0 := hasShaft_ok hM
    have sc : zI z s 10 = 0 := by rw [rs_sc hR]; exact (sc_iff hO).mpr h7
    refine ⟨-6, z, z, s, d, ?_, by rw [mk_92 hM], ?_, h⟩
    · unfold m_X11_pump
      rw [gR_eq (by rw [ck_0 hC]) hN, gI_eq (by rw [sk_0 hS]), if_pos sc]
    · unfold m_X12_pump
      rw [isC_eq (by rw [mk_92 hM]), e0, bnd_some]
      simp [h7, bI]
