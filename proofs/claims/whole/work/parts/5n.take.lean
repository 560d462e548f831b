/-! ===== a tick by the class: pipes; heat done to the cells ===== -/
theorem wanted_ok {z : Hp} {s q p : Nat} {W : Nat → Int32} (hS : LayS z s) (hG : RelG z s W) (hO : OkW W q) (hp : p < nPW W) : m_X9_wanted s (nI p) z = some (nI (wnN W p), z) := by
  have hnp := np_le hO
  have hc := pc_eq hO hp
  have hcl := hc.2
  have e0 : zI z (s + 9) p = nI (pcN W p) := by rw [rg_p0 hG p hp]; exact hc.1
  have e1 : zI z (s + 10) p = W (625 + 6 * p) := by rw [rg_p1 hG p hp, show 624 + 6 * p + 1 = 625 + 6 * p by omega]
  have e2 : zI z (s + 11) p = W (626 + 6 * p) := by rw [rg_p2 hG p hp, show 624 + 6 * p + 2 = 626 + 6 * p by omega]
  have e3 : zI z (s + 12) p = W (627 + 6 * p) := by rw [rg_p3 hG p hp, show 624 + 6 * p + 3 = 627 + 6 * p by omega]
  have ew := rg_warm hG _ hcl
  have ed := rg_dug hG _ hcl
  have hr := ok_pr hO p hp
  rw [show 624 + 6 * p + 3 = 627 + 6 * p by omega] at hr
  unfold m_X9_wanted
  rcases hr with r | r
  · have w0 : wnN W p = 0 := by unfold wnN; rw [if_neg (fun g => by rw [r] at g; exact absurd g.1 (by decide))]
    simp (disch := omega) [gI, gR, pI, pR, aI, sI, aL, sL, aO, aR, sR, aN, onul, bnd, isC, cpI, cpL, sLen, sCh, nwC, zK_wI, zR_wI, zL_wI, zN_wI, zI_wI, zK_wL, zR_wL, zI_wL, zN_wL, zL_wL, zK_wR, zI_wR, zL_wR, zN_wR, zR_wR, ups_eq, inb_nI, nI_clamp, wI_wI, nI_add, pk_mul, add_c, c_add, c_mul, lt_c, le_c, eq_c, gt_c, ge_c, inb_c, clamp_c, ladd, sk_0, sk_1, sk_2, sk_3, sk_4, sk_5, sk_6, sk_7, sk_8, sk_9, sk_10, sk_11, sk_12, sk_13, sk_14, sk_15, sk_16, sk_17, sk_18, sk_19, sk_20, sk_21, sk_22, sk_23, sk_24, sk_25, sk_26, sk_27, sk_28, sk_29, sk_30, sk_31, sr_0_0, sr_0_1, sr_0_2, sr_0_3, sr_0_4, sr_0_5, sr_0_6, sr_0_7, sr_0_8, sr_0_9, sr_1_0, sr_1_1, sr_1_2, sr_1_3, sr_1_4, sr_1_5, sr_8_0, sr_8_1, sr_8_2, sr_8_3, sr_8_4, sr_8_5, sr_15_0, sr_15_1, sr_15_2, sr_19_0, sr_19_1, sr_19_2, sr_19_3, sr_24_0, sr_24_1, hS, e0, e1, e2, e3, ew, ed, r, w0]
    rfl
  · rcases ok_dug hO _ hcl with d | d
    · by_cases l : W (625 + 6 * p) < W (192 + pcN W p)
      · have v := wn_val hO hp ⟨r, d, l⟩
        have m : maxJ 0 (W (192 + pcN W p) - W (625 + 6 * p)) = W (192 + pcN W p) - W (625 + 6 * p) := by
          have h1 := ok_warm hO _ hcl
          have h2 := ok_pa hO p hp
          rw [show 624 + 6 * p + 1 = 625 + 6 * p by omega] at h2
          rw [Int32.lt_iff_toInt_lt] at l
          unfold maxJ
          rw [if_pos (by rw [Int32.lt_iff_toInt_lt, toI_0, sub_int (by omega) (by omega)]; omega)]
        simp (disch := omega) [gI, gR, pI, pR, aI, sI, aL, sL, aO, aR, sR, aN, onul, bnd, isC, cpI, cpL, sLen, sCh, nwC, zK_wI, zR_wI, zL_wI, zN_wI, zI_wI, zK_wL, zR_wL, zI_wL, zN_wL, zL_wL, zK_wR, zI_wR, zL_wR, zN_wR, zR_wR, ups_eq, inb_nI, nI_clamp, wI_wI, nI_add, pk_mul, add_c, c_add, c_mul, lt_c, le_c, eq_c, gt_c, ge_c, inb_c, clamp_c, ladd, sk_0, sk_1, sk_2, sk_3, sk_4, sk_5, sk_6, sk_7, sk_8, sk_9, sk_10, sk_11, sk_12, sk_13, sk_14, sk_15, sk_16, sk_17, sk_18, sk_19, sk_20, sk_21, sk_22, sk_23, sk_24, sk_25, sk_26, sk_27, sk_28, sk_29, sk_30, sk_31, sr_0_0, sr_0_1, sr_0_2, sr_0_3, sr_0_4, sr_0_5, sr_0_6, sr_0_7, sr_0_8, sr_0_9, sr_1_0, sr_1_1, sr_1_2, sr_1_3, sr_1_4, sr_1_5, sr_8_0, sr_8_1, sr_8_2, sr_8_3, sr_8_4, sr_8_5, sr_15_0, sr_15_1, sr_15_2, sr_19_0, sr_19_1, sr_19_2, sr_19_3, sr_24_0, sr_24_1, hS, e0, e1, e2, e3, ew, ed, r, d, max_ok, m, v]
      · have w0 : wnN W p = 0 := by unfold wnN; rw [if_neg (fun g => l g.2.2)]
        have m : maxJ 0 (W (192 + pcN W p) - W (625 + 6 * p)) = 0 := by
          have h1 := ok_warm hO _ hcl
          have h2 := ok_pa hO p hp
          rw [show 624 + 6 * p + 1 = 625 + 6 * p by omega] at h2
          rw [Int32.lt_iff_toInt_lt] at l
          unfold maxJ
          rw [if_neg (by rw [Int32.lt_iff_toInt_lt, toI_0, sub_int (by omega) (by omega)]; omega)]
        simp (disch := omega) [gI, gR, pI, pR, aI, sI, aL, sL, aO, aR, sR, aN, onul, bnd, isC, cpI, cpL, sLen, sCh, nwC, zK_wI, zR_wI, zL_wI, zN_wI, zI_wI, zK_wL, zR_wL, zI_wL, zN_wL, zL_wL, zK_wR, zI_wR, zL_wR, zN_wR, zR_wR, ups_eq, inb_nI, nI_clamp, wI_wI, nI_add, pk_mul, add_c, c_add, c_mul, lt_c, le_c, eq_c, gt_c, ge_c, inb_c, clamp_c, ladd, sk_0, sk_1, sk_2, sk_3, sk_4, sk_5, sk_6, sk_7, sk_8, sk_9, sk_10, sk_11, sk_12, sk_13, sk_14, sk_15, sk_16, sk_17, sk_18, sk_19, sk_20, sk_21, sk_22, sk_23, sk_24, sk_25, sk_26, sk_27, sk_28, sk_29, sk_30, sk_31, sr_0_0, sr_0_1, sr_0_2, sr_0_3, sr_0_4, sr_0_5, sr_0_6, sr_0_7, sr_0_8, sr_0_9, sr_1_0, sr_1_1, sr_1_2, sr_1_3, sr_1_4, sr_1_5, sr_8_0, sr_8_1, sr_8_2, sr_8_3, sr_8_4, sr_8_5, sr_15_0, sr_15_1, sr_15_2, sr_19_0, sr_19_1, sr_19_2, sr_19_3, sr_24_0, sr_24_1, hS, e0, e1, e2, e3, ew, ed, r, d, max_ok, m, w0]
        rfl
    · have w0 : wnN W p = 0 := by unfold wnN; rw [if_neg (fun g => by rw [d] at g; exact absurd g.2.1 (by decide))]
      simp (disch := omega) [gI, gR, pI, pR, aI, sI, aL, sL, aO, aR, sR, aN, onul, bnd, isC, cpI, cpL, sLen, sCh, nwC, zK_wI, zR_wI, zL_wI, zN_wI, zI_wI, zK_wL, zR_wL, zI_wL, zN_wL, zL_wL, zK_wR, zI_wR, zL_wR, zN_wR, zR_wR, ups_eq, inb_nI, nI_clamp, wI_wI, nI_add, pk_mul, add_c, c_add, c_mul, lt_c, le_c, eq_c, gt_c, ge_c, inb_c, clamp_c, ladd, sk_0, sk_1, sk_2, sk_3, sk_4, sk_5, sk_6, sk_7, sk_8, sk_9, sk_10, sk_11, sk_12, sk_13, sk_14, sk_15, sk_16, sk_17, sk_18, sk_19, sk_20, sk_21, sk_22, sk_23, sk_24, sk_25, sk_26, sk_27, sk_28, sk_29, sk_30, sk_31, sr_0_0, sr_0_1, sr_0_2, sr_0_3, sr_0_4, sr_0_5, sr_0_6, sr_0_7, sr_0_8, sr_0_9, sr_1_0, sr_1_1, sr_1_2, sr_1_3, sr_1_4, sr_1_5, sr_8_0, sr_8_1, sr_8_2, sr_8_3, sr_8_4, sr_8_5, sr_15_0, sr_15_1, sr_15_2, sr_19_0, sr_19_1, sr_19_2, sr_19_3, sr_24_0, sr_24_1, hS, e0, e1, e2, e3, ew, ed, r, d, w0]
      rfl
theorem wantsC_ok {z : Hp} {s q : Nat} {W : Nat → Int32} (K : Nat → Nat → Int32 → Hp → Option (Unit × Hp)) (hC : LayC z) (hS : LayS z s) (hG : RelG z s W) (hO : OkW W q) (hs : s + 32 ≤ 70 ∨ 115 ≤ s) :
    ∃ y, m_X9_takeByPipes_L4 K FU 70 s 0 0 z = K 70 s (nI (sN (wnN W) (nPW W))) y ∧ Fi (fun a => a = 73) z y ∧ ∀ p, p < nPW W → zI y 73 p = nI (wnN W p) := by
  have hnp := np_le hO
  refine loopQ (X := Int32 × Int32 × Hp) (fun f x => m_X9_takeByPipes_L4 K f 70 s x.1 x.2.1 x.2.2) (fun t => ∃ y, t = K 70 s (nI (sN (wnN W) (nPW W))) y ∧ Fi (fun a => a = 73) z y ∧ ∀ p, p < nPW W → zI y 73 p = nI (wnN W p)) (fun n x => x.1 = nI (sN (wnN W) n) ∧ x.2.1 = nI n ∧ Fi (fun a => a = 73) z x.2.2 ∧ ∀ p, p < n → zI x.2.2 73 p = nI (wnN W p)) (nPW W) ?hs ?he 0 FU (0, 0, z) (by omega) (FU_pos (by omega)) ⟨rfl, rfl, Fi.rfl', fun p h => absurd h (by omega)⟩
  case hs =>
    rintro n f ⟨w, v, x⟩ hn ⟨h0, h1, h2, h3⟩
    dsimp only at h0 h1 h2 h3
    subst h0 h1
    have Cx := hC.fi h2
    have Sx := hS.fi h2
    have Gx : RelG x s W := hG.of (fun a ha => h2.2.2.2.2 a (by unfold Gc at ha; omega))
    have e2 : zI x (s + 8) 6 = nI (nPW W) := by rw [rg_pn Gx]; exact np_eq hO
    have ew := wanted_ok Sx Gx hO hn
    refine Or.inl ⟨(nI (sN (wnN W) (n + 1)), nI (n + 1), wI x 73 (ups (zI x 73) n (nI (wnN W n)))), ⟨rfl, rfl, h2.trans (Fi.w rfl), fun p hpn => ?_⟩, ?_⟩
    · dsimp only
      rw [zI_eq]
      by_cases g : p = n
      · rw [g, up_eq]
      · rw [up_ne g]; exact h3 p (by omega)
    · dsimp only
      have es : nI (sN (wnN W) n) + nI (wnN W n) = nI (sN (wnN W) (n + 1)) := nI_add _ _
      rw [m_X9_takeByPipes_L4]
      simp (disch := omega) [gI, gR, pI, pR, aI, sI, aL, sL, aO, aR, sR, aN, onul, bnd, isC, cpI, cpL, sLen, sCh, nwC, zK_wI, zR_wI, zL_wI, zN_wI, zI_wI, zK_wL, zR_wL, zI_wL, zN_wL, zL_wL, zK_wR, zI_wR, zL_wR, zN_wR, zR_wR, ups_eq, inb_nI, nI_clamp, wI_wI, nI_add, pk_mul, add_c, c_add, c_mul, lt_c, le_c, eq_c, gt_c, ge_c, inb_c, clamp_c, ladd, sk_0, sk_1, sk_2, sk_3, sk_4, sk_5, sk_6, sk_7, sk_8, sk_9, sk_10, sk_11, sk_12, sk_13, sk_14, sk_15, sk_16, sk_17, sk_18, sk_19, sk_20, sk_21, sk_22, sk_23, sk_24, sk_25, sk_26, sk_27, sk_28, sk_29, sk_30, sk_31, sr_0_0, sr_0_1, sr_0_2, sr_0_3, sr_0_4, sr_0_5, sr_0_6, sr_0_7, sr_0_8, sr_0_9, sr_1_0, sr_1_1, sr_1_2, sr_1_3, sr_1_4, sr_1_5, sr_8_0, sr_8_1, sr_8_2, sr_8_3, sr_8_4, sr_8_5, sr_15_0, sr_15_1, sr_15_2, sr_19_0, sr_19_1, sr_19_2, sr_19_3, sr_24_0, sr_24_1, ck_0, ck_65, ck_66, ck_67, ck_68, ck_69, ck_70, ck_71, ck_72, ck_73, ck_74, ck_75, ck_76, ck_77, ck_78, ck_79, ck_80, ck_81, ck_82, ck_83, ck_84, ck_85, ck_86, ck_87, ck_88, ck_89, ck_90, ck_91, cr_0_2, cr_0_3, cr_0_4, cr_0_5, cr_0_6, cr_0_7, cr_0_8, cr_66_0, cr_68_0, cr_68_1, cr_70_0, cr_70_1, cr_70_2, cr_74_0, cr_74_1, cr_74_2, cr_74_7, cr_74_8, cr_74_9, cr_83_0, cr_83_1, cr_83_2, cr_84_0, cr_84_1, cr_84_2, cr_84_3, Sx, Cx, e2, nI_ltI, hn, ew]
      first | rfl | rw [es]
  case he =>
    rintro f ⟨w, v, x⟩ ⟨h0, h1, h2, h3⟩
    dsimp only at h0 h1 h2 h3 ⊢
    subst h0 h1
    have Sx := hS.fi h2
    have Gx : RelG x s W := hG.of (fun a ha => h2.2.2.2.2 a (by unfold Gc at ha; omega))
    have e2 : zI x (s + 8) 6 = nI (nPW W) := by rw [rg_pn Gx]; exact np_eq hO
    refine ⟨x, ?_, h2, h3⟩
    rw [m_X9_takeByPipes_L4]
    simp (disch := omega) [gI, gR, pI, pR, aI, sI, aL, sL, aO, aR, sR, aN, onul, bnd, isC, cpI, cpL, sLen, sCh, nwC, zK_wI, zR_wI, zL_wI, zN_wI, zI_wI, zK_wL, zR_wL, zI_wL, zN_wL, zL_wL, zK_wR, zI_wR, zL_wR, zN_wR, zR_wR, ups_eq, inb_nI, nI_clamp, wI_wI, nI_add, pk_mul, add_c, c_add, c_mul, lt_c, le_c, eq_c, gt_c, ge_c, inb_c, clamp_c, ladd, sk_0, sk_1, sk_2, sk_3, sk_4, sk_5, sk_6, sk_7, sk_8, sk_9, sk_10, sk_11, sk_12, sk_13, sk_14, sk_15, sk_16, sk_17, sk_18, sk_19, sk_20, sk_21, sk_22, sk_23, sk_24, sk_25, sk_26, sk_27, sk_28, sk_29, sk_30, sk_31, sr_0_0, sr_0_1, sr_0_2, sr_0_3, sr_0_4, sr_0_5, sr_0_6, sr_0_7, sr_0_8, sr_0_9, sr_1_0, sr_1_1, sr_1_2, sr_1_3, sr_1_4, sr_1_5, sr_8_0, sr_8_1, sr_8_2, sr_8_3, sr_8_4, sr_8_5, sr_15_0, sr_15_1, sr_15_2, sr_19_0, sr_19_1, sr_19_2, sr_19_3, sr_24_0, sr_24_1, Sx, e2, nI_ltI]
theorem takesC_ok {z : Hp} {s q : Nat} {W : Nat → Int32} (hC : LayC z) (hS : LayS z s) (hG : RelG z s W) (hO : OkW W q) (hs : s + 32 ≤ 70 ∨ 115 ≤ s) (h73 : ∀ p, p < nPW W → zI z 73 p = nI (wnN W p)) :
    ∃ y, m_X9_takeByPipes_L43 FU 70 s (nI (sN (wnN W) (nPW W))) 0 z = some ((), y) ∧ Fi (fun a => a = 72 ∨ a = s + 13 ∨ a = s + 14 ∨ a = s + 31) z y ∧ (∀ c, c < 144 → zI y 72 c = zI z 72 c + sm (tsW W c) (nPW W)) ∧
      (∀ p, p < nPW W → zI y (s + 13) p = nI (tkN W p) ∧ zI y (s + 14) p = zI z (s + 14) p + nI (tkN W p)) ∧ zI y (s + 31) = ups (zI z (s + 31)) 1 (zI z (s + 31) 1 + sm (fun p => nI (tkN W p)) (nPW W)) := by
  have hnp := np_le hO
  have hcd := cold_N hO
  have hSw := sw_le hO (Nat.le_refl (nPW W))
  obtain ⟨S, eS⟩ : ∃ S, S = sN (wnN W) (nPW W) := ⟨_, rfl⟩
  rw [← eS] at hSw
  rw [← eS]
  obtain ⟨cd, ecd⟩ : ∃ k, k = nn (W 6) := ⟨_, rfl⟩
  rw [← ecd] at hcd
  refine loopQ (X := Int32 × Hp) (fun f x => m_X9_takeByPipes_L43 f 70 s (nI S) x.1 x.2) (fun t => ∃ y, t = some ((), y) ∧ Fi (fun a => a = 72 ∨ a = s + 13 ∨ a = s + 14 ∨ a = s + 31) z y ∧ (∀ c, c < 144 → zI y 72 c = zI z 72 c + sm (tsW W c) (nPW W)) ∧
      (∀ p, p < nPW W → zI y (s + 13) p = nI (tkN W p) ∧ zI y (s + 14) p = zI z (s + 14) p + nI (tkN W p)) ∧ zI y (s + 31) = ups (zI z (s + 31)) 1 (zI z (s + 31) 1 + sm (fun p => nI (tkN W p)) (nPW W))) (fun n x => x.1 = nI n ∧ Fi (fun a => a = 72 ∨ a = s + 13 ∨ a = s + 14 ∨ a = s + 31) z x.2 ∧ (∀ c, c < 144 → zI x.2 72 c = zI z 72 c + sm (tsW W c) n) ∧
      (∀ p, p < n → zI x.2 (s + 13) p = nI (tkN W p) ∧ zI x.2 (s + 14) p = zI z (s + 14) p + nI (tkN W p)) ∧ (∀ p, n ≤ p → zI x.2 (s + 14) p = zI z (s + 14) p) ∧ zI x.2 (s + 31) = ups (zI z (s + 31)) 1 (zI z (s + 31) 1 + sm (fun p => nI (tkN W p)) n)) (nPW W) ?hs ?he 0 FU (0, z) (by omega) (FU_pos (by omega)) ⟨rfl, Fi.rfl', fun c _ => (Int32.add_zero _).symm, fun p h => absurd h (by omega), fun _ _ => rfl, ?h0⟩
  case h0 =>
    funext i
    rw [ups_eq]
    by_cases c : i = 1
    · rw [if_pos c, c]; exact (Int32.add_zero _).symm
    · rw [if_neg c]
  case hs =>
    rintro n f ⟨v, x⟩ hn ⟨h1, h2, h3, h4, h5, h6⟩
    dsimp only at h1 h2 h3 h4 h5 h6
    subst h1
    have Cx := hC.fi h2
    have Sx := hS.fi h2
    have Gx : RelG x s W := hG.of (fun a ha => h2.2.2.2.2 a (by unfold Gc at ha; omega))
    have hc := pc_eq hO hn
    have hcl := hc.2
    have hwl := wn_le hO hn
    have e2 : zI x (s + 8) 6 = nI (nPW W) := by rw [rg_pn Gx]; exact np_eq hO
    have e6 : zI x s 12 = nI cd := by rw [rg_cold Gx]; exact hcd.1
    have ec : zI x (s + 9) n = nI (pcN W n) := by rw [rg_p0 Gx n hn]; exact hc.1
    have ew : zI x 73 n = nI (wnN W n) := by rw [h2.2.2.2.2 73 (by omega)]; exact h73 n hn
    obtain ⟨x1, hx1⟩ : ∃ y, y = wI x 72 (ups (zI x 72) (pcN W n) (zI x 72 (pcN W n) - nI (tkN W n))) := ⟨_, rfl⟩
    obtain ⟨x2, hx2⟩ : ∃ y, y = wI x1 (s + 13) (ups (zI x (s + 13)) n (nI (tkN W n))) := ⟨_, rfl⟩
    obtain ⟨x3, hx3⟩ : ∃ y, y = wI x2 (s + 14) (ups (zI x (s + 14)) n (zI x (s + 14) n + nI (tkN W n))) := ⟨_, rfl⟩
    obtain ⟨x4, hx4⟩ : ∃ y, y = wI x3 (s + 31) (ups (zI x (s + 31)) 1 (zI x (s + 31) 1 + nI (tkN W n))) := ⟨_, rfl⟩
    have S1 : LayS x1 s := Sx.of (by rw [hx1]; rfl) (by rw [hx1]; rfl)
    have S2 : LayS x2 s := S1.of (by rw [hx2]; rfl) (by rw [hx2]; rfl)
    have S3 : LayS x3 s := S2.of (by rw [hx3]; rfl) (by rw [hx3]; rfl)
    have a13 : zI x1 (s + 13) = zI x (s + 13) := by rw [hx1, zI_ne (by omega)]
    have a14 : zI x2 (s + 14) = zI x (s + 14) := by rw [hx2, zI_ne (by omega), hx1, zI_ne (by omega)]
    have a31 : zI x3 (s + 31) = zI x (s + 31) := by rw [hx3, zI_ne (by omega), hx2, zI_ne (by omega), hx1, zI_ne (by omega)]
    have B : m_X9_takeByPipes_B85 (m_X9_takeByPipes_L43 f) 70 s (nI S) (nI n) (nI (tkN W n)) x = m_X9_takeByPipes_L43 f 70 s (nI S) (nI (n + 1)) x4 := by
      unfold m_X9_takeByPipes_B85
      rw [gR_eq (by rw [ck_70 Cx]) (cr_70_1 Cx), gR_eq (by rw [sk_0 Sx]) (sr_0_1 Sx), gR_eq (by rw [sk_8 Sx]) (sr_8_0 Sx), aI_n (sk_9 Sx) (by omega) (by decide), ec, aI_n (ck_72 Cx) hcl (by decide), sI_n (ck_72 Cx) hcl (by decide), ← hx1,
        gR_eq (by rw [sk_0 S1]) (sr_0_1 S1), gR_eq (by rw [sk_8 S1]) (sr_8_4 S1), sI_n (sk_13 S1) (by omega) (by decide), a13, ← hx2,
        gR_eq (by rw [sk_0 S2]) (sr_0_1 S2), gR_eq (by rw [sk_8 S2]) (sr_8_5 S2), aI_n (sk_14 S2) (by omega) (by decide), sI_n (sk_14 S2) (by omega) (by decide), a14, ← hx3,
        gR_eq (by rw [sk_0 S3]) (sr_0_9 S3), show (1 : Int32) = nI 1 from rfl, aI_n (sk_31 S3) (by decide) (by decide), sI_n (sk_31 S3) (by decide) (by decide), a31, ← hx4, nI_add]
    have F4 : Fi (fun a => a = 72 ∨ a = s + 13 ∨ a = s + 14 ∨ a = s + 31) x x4 := by
      rw [hx4, hx3, hx2, hx1]
      exact (((Fi.w (by omega)).trans (Fi.w (by omega))).trans (Fi.w (by omega))).trans (Fi.w (by omega))
    refine Or.inl ⟨(nI (n + 1), x4), ⟨rfl, h2.trans F4, fun c hc144 => ?_, fun p hp => ?_, fun p hp => ?_, ?_⟩, ?_⟩
    · dsimp only
      rw [hx4, zI_ne (by omega), hx3, zI_ne (by omega), hx2, zI_ne (by omega), hx1, zI_eq]
      show _ = zI z 72 c + (sm (tsW W c) n + tsW W c n)
      by_cases g : c = pcN W n
      · subst g
        rw [up_eq, h3 _ hcl, ← Int32.add_assoc]
        unfold tsW
        rw [if_pos rfl, Int32.sub_eq_add_neg]
      · rw [up_ne g, h3 c hc144]
        unfold tsW
        rw [if_neg (fun e => g e.symm), Int32.add_zero]
    · dsimp only
      rw [hx4, zI_ne (by omega), zI_ne (by omega), hx3, zI_ne (show s + 13 ≠ s + 14 by omega), zI_eq, hx2, zI_eq]
      by_cases g : p = n
      · rw [g, up_eq, up_eq, h5 n (Nat.le_refl _)]
        exact ⟨rfl, rfl⟩
      · rw [up_ne g, up_ne g]
        exact h4 p (by omega)
    · dsimp only
      rw [hx4, zI_ne (by omega), hx3, zI_eq, up_ne (show p ≠ n by omega)]
      exact h5 p (by omega)
    · dsimp only
      rw [hx4, zI_eq, h6]
      funext i
      simp only [ups_eq]
      by_cases c : i = 1
      · rw [if_pos c, if_pos c, if_pos trivial, Int32.add_assoc]
        rfl
      · rw [if_neg c, if_neg c, if_neg c]
    · dsimp only
      rw [m_X9_takeByPipes_L43, ← B]
      by_cases c : cd < S
      · have t0 : tkN W n = wnN W n * cd / S := by unfold tkN; rw [← eS, ← ecd, if_pos c]
        have hm := Nat.mul_le_mul hwl (Nat.le_of_lt_succ hcd.2)
        have g3 : nI (wnN W n * cd) / nI S = nI (tkN W n) := by
          rw [pk_div (by omega) (by omega) (by omega), t0]
        have g2 : ¬ nI S = 0 := fun e => absurd ((nI_eq (b := 0) (by omega) (by decide)).mp e) (by omega)
        have g0 : (0 : Int32) < nI S := nI_lt (a := 0) (by omega) (by omega)
        simp (disch := omega) [gI, gR, pI, pR, aI, sI, aL, sL, aO, aR, sR, aN, onul, bnd, isC, cpI, cpL, sLen, sCh, nwC, zK_wI, zR_wI, zL_wI, zN_wI, zI_wI, zK_wL, zR_wL, zI_wL, zN_wL, zL_wL, zK_wR, zI_wR, zL_wR, zN_wR, zR_wR, ups_eq, inb_nI, nI_clamp, wI_wI, nI_add, pk_mul, add_c, c_add, c_mul, lt_c, le_c, eq_c, gt_c, ge_c, inb_c, clamp_c, ladd, sk_0, sk_1, sk_2, sk_3, sk_4, sk_5, sk_6, sk_7, sk_8, sk_9, sk_10, sk_11, sk_12, sk_13, sk_14, sk_15, sk_16, sk_17, sk_18, sk_19, sk_20, sk_21, sk_22, sk_23, sk_24, sk_25, sk_26, sk_27, sk_28, sk_29, sk_30, sk_31, sr_0_0, sr_0_1, sr_0_2, sr_0_3, sr_0_4, sr_0_5, sr_0_6, sr_0_7, sr_0_8, sr_0_9, sr_1_0, sr_1_1, sr_1_2, sr_1_3, sr_1_4, sr_1_5, sr_8_0, sr_8_1, sr_8_2, sr_8_3, sr_8_4, sr_8_5, sr_15_0, sr_15_1, sr_15_2, sr_19_0, sr_19_1, sr_19_2, sr_19_3, sr_24_0, sr_24_1, ck_0, ck_65, ck_66, ck_67, ck_68, ck_69, ck_70, ck_71, ck_72, ck_73, ck_74, ck_75, ck_76, ck_77, ck_78, ck_79, ck_80, ck_81, ck_82, ck_83, ck_84, ck_85, ck_86, ck_87, ck_88, ck_89, ck_90, ck_91, cr_0_2, cr_0_3, cr_0_4, cr_0_5, cr_0_6, cr_0_7, cr_0_8, cr_66_0, cr_68_0, cr_68_1, cr_70_0, cr_70_1, cr_70_2, cr_74_0, cr_74_1, cr_74_2, cr_74_7, cr_74_8, cr_74_9, cr_83_0, cr_83_1, cr_83_2, cr_84_0, cr_84_1, cr_84_2, cr_84_3, Sx, Cx, e2, e6, ew, nI_ltI, hn, c, g0, g2, g3]
      · have t0 : tkN W n = wnN W n := by unfold tkN; rw [← eS, ← ecd, if_neg c]
        rw [t0]
        simp (disch := omega) [gI, gR, pI, pR, aI, sI, aL, sL, aO, aR, sR, aN, onul, bnd, isC, cpI, cpL, sLen, sCh, nwC, zK_wI, zR_wI, zL_wI, zN_wI, zI_wI, zK_wL, zR_wL, zI_wL, zN_wL, zL_wL, zK_wR, zI_wR, zL_wR, zN_wR, zR_wR, ups_eq, inb_nI, nI_clamp, wI_wI, nI_add, pk_mul, add_c, c_add, c_mul, lt_c, le_c, eq_c, gt_c, ge_c, inb_c, clamp_c, ladd, sk_0, sk_1, sk_2, sk_3, sk_4, sk_5, sk_6, sk_7, sk_8, sk_9, sk_10, sk_11, sk_12, sk_13, sk_14, sk_15, sk_16, sk_17, sk_18, sk_19, sk_20, sk_21, sk_22, sk_23, sk_24, sk_25, sk_26, sk_27, sk_28, sk_29, sk_30, sk_31, sr_0_0, sr_0_1, sr_0_2, sr_0_3, sr_0_4, sr_0_5, sr_0_6, sr_0_7, sr_0_8, sr_0_9, sr_1_0, sr_1_1, sr_1_2, sr_1_3, sr_1_4, sr_1_5, sr_8_0, sr_8_1, sr_8_2, sr_8_3, sr_8_4, sr_8_5, sr_15_0, sr_15_1, sr_15_2, sr_19_0, sr_19_1, sr_19_2, sr_19_3, sr_24_0, sr_24_1, ck_0, ck_65, ck_66, ck_67, ck_68, ck_69, ck_70, ck_71, ck_72, ck_73, ck_74, ck_75, ck_76, ck_77, ck_78, ck_79, ck_80, ck_81, ck_82, ck_83, ck_84, ck_85, ck_86, ck_87, ck_88, ck_89, ck_90, ck_91, cr_0_2, cr_0_3, cr_0_4, cr_0_5, cr_0_6, cr_0_7, cr_0_8, cr_66_0, cr_68_0, cr_68_1, cr_70_0, cr_70_1, cr_70_2, cr_74_0, cr_74_1, cr_74_2, cr_74_7, cr_74_8, cr_74_9, cr_83_0, cr_83_1, cr_83_2, cr_84_0, cr_84_1, cr_84_2, cr_84_3, Sx, Cx, e2, e6, ew, nI_ltI, hn, c]
  case he =>
    rintro f ⟨v, x⟩ ⟨h1, h2, h3, h4, h5, h6⟩
    dsimp only at h1 h2 h3 h4 h5 h6 ⊢
    subst h1
    have Sx := hS.fi h2
    have Gx : RelG x s W := hG.of (fun a ha => h2.2.2.2.2 a (by unfold Gc at ha; omega))
    have e2 : zI x (s + 8) 6 = nI (nPW W) := by rw [rg_pn Gx]; exact np_eq hO
    refine ⟨x, ?_, h2, h3, h4, h6⟩
    rw [m_X9_takeByPipes_L43]
    simp (disch := omega) [gI, gR, pI, pR, aI, sI, aL, sL, aO, aR, sR, aN, onul, bnd, isC, cpI, cpL, sLen, sCh, nwC, zK_wI, zR_wI, zL_wI, zN_wI, zI_wI, zK_wL, zR_wL, zI_wL, zN_wL, zL_wL, zK_wR, zI_wR, zL_wR, zN_wR, zR_wR, ups_eq, inb_nI, nI_clamp, wI_wI, nI_add, pk_mul, add_c, c_add, c_mul, lt_c, le_c, eq_c, gt_c, ge_c, inb_c, clamp_c, ladd, sk_0, sk_1, sk_2, sk_3, sk_4, sk_5, sk_6, sk_7, sk_8, sk_9, sk_10, sk_11, sk_12, sk_13, sk_14, sk_15, sk_16, sk_17, sk_18, sk_19, sk_20, sk_21, sk_22, sk_23, sk_24, sk_25, sk_26, sk_27, sk_28, sk_29, sk_30, sk_31, sr_0_0, sr_0_1, sr_0_2, sr_0_3, sr_0_4, sr_0_5, sr_0_6, sr_0_7, sr_0_8, sr_0_9, sr_1_0, sr_1_1, sr_1_2, sr_1_3, sr_1_4, sr_1_5, sr_8_0, sr_8_1, sr_8_2, sr_8_3, sr_8_4, sr_8_5, sr_15_0, sr_15_1, sr_15_2, sr_19_0, sr_19_1, sr_19_2, sr_19_3, sr_24_0, sr_24_1, Sx, e2, nI_ltI]
theorem th_0 {mk w ice : Int32} (hi : 0 ≤ ice.toInt) : thN mk w ice 0 = 0 := by
  have h1 : minJ 0 (maxJ 0 (mk - w)) = 0 := by
    apply Int32.toInt_inj.mp
    rw [toI_min, toI_max, toI_0]
    omega
  unfold thN
  rw [h1, Int32.sub_self]
  apply Int32.toInt_inj.mp
  rw [toI_min, toI_0]
  omega
/-- the cells of s that cool and warmUp read and do not change -/
def Gd (s a : Nat) : Prop := (s ≤ a ∧ a ≤ s + 12) ∨ a = s + 29
theorem doesC_ok {z : Hp} {s q : Nat} {W : Nat → Int32} (K : Nat → Hp → Option (Unit × Hp)) (hC : LayC z) (hS : LayS z s) (hG : RelG z s W) (hO : OkW W q) (hs : s + 32 ≤ 70 ∨ 115 ≤ s) (hh : ∀ c, c < 144 → zI z 72 c = htW W c) (hz : ∀ c, c < 144 → W (480 + c) = 1 → htW W c = 0) :
    ∃ y, m_X9_pass_L62 K FU 70 s 0 z = K s y ∧ Fi (fun a => a = s + 27 ∨ a = s + 28) z y ∧ (∀ c, c < 144 → zI y (s + 27) c = wmW W c) ∧ ∀ c, c < 144 → zI y (s + 28) c = icW W c := by
  refine loopQ (X := Int32 × Hp) (fun f x => m_X9_pass_L62 K f 70 s x.1 x.2) (fun t => ∃ y, t = K s y ∧ Fi (fun a => a = s + 27 ∨ a = s + 28) z y ∧ (∀ c, c < 144 → zI y (s + 27) c = wmW W c) ∧ ∀ c, c < 144 → zI y (s + 28) c = icW W c) (fun n x => x.1 = nI n ∧ Fi (fun a => a = s + 27 ∨ a = s + 28) z x.2 ∧ (∀ c, c < 144 → zI x.2 (s + 27) c = if c < n then wmW W c else W (192 + c)) ∧ ∀ c, c < 144 → zI x.2 (s + 28) c = if c < n then icW W c else W (336 + c)) 144 ?hs ?he 0 FU (0, z) (by decide) (by decide) ⟨rfl, Fi.rfl', fun c hc => by rw [if_neg (by omega)]; exact rg_warm hG c hc, fun c hc => by rw [if_neg (by omega)]; exact rg_ice hG c hc⟩
  case hs =>
    rintro n f ⟨v, x⟩ hn ⟨h1, h2, h3, h4⟩
    dsimp only at h1 h2 h3 h4
    subst h1
    have Cx := hC.fi h2
    have Sx := hS.fi h2
    have hk := kd_lt hO hn
    have e3 : zI x (s + 6) n = nI (kdW W n) := by rw [h2.2.2.2.2 (s + 6) (by omega), rg_ground hG n hn]; exact kd_eq hO hn
    have em : zI x (s + 5) (kdW W n) = W (23 + 4 * kdW W n) := by rw [h2.2.2.2.2 (s + 5) (by omega)]; exact rg_mark hG _ hk
    have el : zI x (s + 4) (kdW W n) = W (22 + 4 * kdW W n) := by rw [h2.2.2.2.2 (s + 4) (by omega)]; exact rg_latent hG _ hk
    have ew : zI x (s + 27) n = W (192 + n) := by rw [h3 n hn, if_neg (by omega)]
    have ei : zI x (s + 28) n = W (336 + n) := by rw [h4 n hn, if_neg (by omega)]
    have eh : zI x 72 n = htW W n := by rw [h2.2.2.2.2 72 (by omega)]; exact hh n hn
    have n1 : ¬ s + 27 = s + 28 := by omega
    have n2 : ¬ s + 28 = s + 27 := by omega
    -- two cells are written
    have fin : ∀ w, w = wI (wI x (s + 28) (ups (zI x (s + 28)) n (icW W n))) (s + 27) (ups (zI x (s + 27)) n (wmW W n)) → Fi (fun a => a = s + 27 ∨ a = s + 28) z w ∧ (∀ c, c < 144 → zI w (s + 27) c = if c < n + 1 then wmW W c else W (192 + c)) ∧ ∀ c, c < 144 → zI w (s + 28) c = if c < n + 1 then icW W c else W (336 + c) := by
      intro w hw
      refine ⟨?_, fun c hc => ?_, fun c hc => ?_⟩
      · rw [hw]; exact (h2.trans (Fi.w (Or.inr rfl))).trans (Fi.w (Or.inl rfl))
      · rw [hw, zI_eq, ups_eq]
        by_cases g : c = n
        · rw [if_pos g, if_pos (by omega), g]
        · rw [if_neg g, h3 c hc]
          by_cases g2 : c < n
          · rw [if_pos g2, if_pos (by omega)]
          · rw [if_neg g2, if_neg (by omega)]
      · rw [hw, zI_ne n2, zI_eq, ups_eq]
        by_cases g : c = n
        · rw [if_pos g, if_pos (by omega), g]
        · rw [if_neg g, h4 c hc]
          by_cases g2 : c < n
          · rw [if_pos g2, if_pos (by omega)]
          · rw [if_neg g2, if_neg (by omega)]
    have same : wmW W n = W (192 + n) → icW W n = W (336 + n) → x = wI (wI x (s + 28) (ups (zI x (s + 28)) n (icW W n))) (s + 27) (ups (zI x (s + 27)) n (wmW W n)) := by
      intro a b
      have u : ∀ (g : Nat → Int32) (v : Int32), g n = v → ups g n v = g := fun g v e => by
        funext i
        rw [ups_eq]
        by_cases c : i = n
        · rw [if_pos c, c, e]
        · rw [if_neg c]
      rw [u (zI x (s + 28)) _ (by rw [ei, b]), u (zI x (s + 27)) _ (by rw [ew, a]), wI_self, wI_self]
    left
    by_cases c1 : htW W n < 0
    · have nd : ¬ W (480 + n) = 1 := fun g => by rw [hz n hn g] at c1; exact absurd c1 (by decide)
      have ic : icW W n = W (336 + n) + fzN (W (23 + 4 * kdW W n)) (W (22 + 4 * kdW W n)) (W (192 + n)) (W (336 + n)) (htW W n) := by unfold icW icN; rw [if_neg nd, if_pos c1]
      have wm : wmW W n = W (192 + n) - (-htW W n - fzN (W (23 + 4 * kdW W n)) (W (22 + 4 * kdW W n)) (W (192 + n)) (W (336 + n)) (htW W n)) := by unfold wmW wmN; rw [if_neg nd, if_pos c1]; grind
      have ef : minJ (-htW W n - minJ (-htW W n) (maxJ 0 (W (192 + n) - W (23 + 4 * kdW W n)))) (W (22 + 4 * kdW W n) - W (336 + n)) = fzN (W (23 + 4 * kdW W n)) (W (22 + 4 * kdW W n)) (W (192 + n)) (W (336 + n)) (htW W n) := rfl
      obtain ⟨w, hw⟩ : ∃ w, w = wI (wI x (s + 28) (ups (zI x (s + 28)) n (icW W n))) (s + 27) (ups (zI x (s + 27)) n (wmW W n)) := ⟨_, rfl⟩
      have run : m_X9_cool s (nI n) (-htW W n) x = some ((), w) := by
        rw [hw, ic, wm]
        unfold m_X9_cool
        simp (disch := omega) [gI, gR, pI, pR, aI, sI, aL, sL, aO, aR, sR, aN, onul, bnd, isC, cpI, cpL, sLen, sCh, nwC, zK_wI, zR_wI, zL_wI, zN_wI, zI_wI, zK_wL, zR_wL, zI_wL, zN_wL, zL_wL, zK_wR, zI_wR, zL_wR, zN_wR, zR_wR, ups_eq, inb_nI, nI_clamp, wI_wI, nI_add, pk_mul, add_c, c_add, c_mul, lt_c, le_c, eq_c, gt_c, ge_c, inb_c, clamp_c, ladd, sk_0, sk_1, sk_2, sk_3, sk_4, sk_5, sk_6, sk_7, sk_8, sk_9, sk_10, sk_11, sk_12, sk_13, sk_14, sk_15, sk_16, sk_17, sk_18, sk_19, sk_20, sk_21, sk_22, sk_23, sk_24, sk_25, sk_26, sk_27, sk_28, sk_29, sk_30, sk_31, sr_0_0, sr_0_1, sr_0_2, sr_0_3, sr_0_4, sr_0_5, sr_0_6, sr_0_7, sr_0_8, sr_0_9, sr_1_0, sr_1_1, sr_1_2, sr_1_3, sr_1_4, sr_1_5, sr_8_0, sr_8_1, sr_8_2, sr_8_3, sr_8_4, sr_8_5, sr_15_0, sr_15_1, sr_15_2, sr_19_0, sr_19_1, sr_19_2, sr_19_3, sr_24_0, sr_24_1, Sx, e3, em, el, ew, ei, n1, n2, max_ok, min_ok, ef]
      refine ⟨(nI (n + 1), w), ⟨rfl, fin w hw⟩, ?_⟩
      dsimp only
      rw [m_X9_pass_L62, if_pos (lt_lit hn (by decide)), gR_eq (by rw [ck_70 Cx]) (cr_70_1 Cx), aI_n (ck_72 Cx) hn (by decide), eh, if_pos c1, gR_eq (by rw [ck_70 Cx]) (cr_70_1 Cx), aI_n (ck_72 Cx) hn (by decide), eh, run, bnd_some]
      unfold m_X9_pass_B113
      rw [nI_1]
    · by_cases c2 : 0 < htW W n
      · have nd : ¬ W (480 + n) = 1 := fun g => by rw [hz n hn g] at c2; exact absurd c2 (by decide)
        have ic : icW W n = W (336 + n) - thN (W (23 + 4 * kdW W n)) (W (192 + n)) (W (336 + n)) (htW W n) := by unfold icW icN; rw [if_neg nd, if_neg c1]
        have wm : wmW W n = W (192 + n) + (htW W n - thN (W (23 + 4 * kdW W n)) (W (192 + n)) (W (336 + n)) (htW W n)) := by unfold wmW wmN; rw [if_neg nd, if_neg c1]
        have ef : minJ (htW W n - minJ (htW W n) (maxJ 0 (W (23 + 4 * kdW W n) - W (192 + n)))) (W (336 + n)) = thN (W (23 + 4 * kdW W n)) (W (192 + n)) (W (336 + n)) (htW W n) := rfl
        obtain ⟨w, hw⟩ : ∃ w, w = wI (wI x (s + 28) (ups (zI x (s + 28)) n (icW W n))) (s + 27) (ups (zI x (s + 27)) n (wmW W n)) := ⟨_, rfl⟩
        have run : m_X9_warmUp s (nI n) (htW W n) x = some ((), w) := by
          rw [hw, ic, wm]
          unfold m_X9_warmUp
          simp (disch := omega) [gI, gR, pI, pR, aI, sI, aL, sL, aO, aR, sR, aN, onul, bnd, isC, cpI, cpL, sLen, sCh, nwC, zK_wI, zR_wI, zL_wI, zN_wI, zI_wI, zK_wL, zR_wL, zI_wL, zN_wL, zL_wL, zK_wR, zI_wR, zL_wR, zN_wR, zR_wR, ups_eq, inb_nI, nI_clamp, wI_wI, nI_add, pk_mul, add_c, c_add, c_mul, lt_c, le_c, eq_c, gt_c, ge_c, inb_c, clamp_c, ladd, sk_0, sk_1, sk_2, sk_3, sk_4, sk_5, sk_6, sk_7, sk_8, sk_9, sk_10, sk_11, sk_12, sk_13, sk_14, sk_15, sk_16, sk_17, sk_18, sk_19, sk_20, sk_21, sk_22, sk_23, sk_24, sk_25, sk_26, sk_27, sk_28, sk_29, sk_30, sk_31, sr_0_0, sr_0_1, sr_0_2, sr_0_3, sr_0_4, sr_0_5, sr_0_6, sr_0_7, sr_0_8, sr_0_9, sr_1_0, sr_1_1, sr_1_2, sr_1_3, sr_1_4, sr_1_5, sr_8_0, sr_8_1, sr_8_2, sr_8_3, sr_8_4, sr_8_5, sr_15_0, sr_15_1, sr_15_2, sr_19_0, sr_19_1, sr_19_2, sr_19_3, sr_24_0, sr_24_1, Sx, e3, em, el, ew, ei, n1, n2, max_ok, min_ok, ef]
        refine ⟨(nI (n + 1), w), ⟨rfl, fin w hw⟩, ?_⟩
        dsimp only
        rw [m_X9_pass_L62, if_pos (lt_lit hn (by decide)), gR_eq (by rw [ck_70 Cx]) (cr_70_1 Cx), aI_n (ck_72 Cx) hn (by decide), eh, if_neg c1, gR_eq (by rw [ck_70 Cx]) (cr_70_1 Cx), aI_n (ck_72 Cx) hn (by decide), eh, if_pos c2, gR_eq (by rw [ck_70 Cx]) (cr_70_1 Cx), aI_n (ck_72 Cx) hn (by decide), eh, run, bnd_some]
        unfold m_X9_pass_B113
        rw [nI_1]
      · have h0 : htW W n = 0 := by
          apply Int32.toInt_inj.mp
          rw [Int32.lt_iff_toInt_lt] at c1 c2
          omega
        have hi := (ok_ice hO n hn).1.int (by decide)
        have t0 := th_0 (mk := W (23 + 4 * kdW W n)) (w := W (192 + n)) (ice := W (336 + n)) (by omega)
        have wm : wmW W n = W (192 + n) := by
          unfold wmW wmN
          rw [h0, t0]
          split
          · rfl
          · simp
        have ic : icW W n = W (336 + n) := by
          unfold icW icN
          rw [h0, t0]
          split
          · rfl
          · simp
        refine ⟨(nI (n + 1), x), ⟨rfl, fin x (same wm ic)⟩, ?_⟩
        dsimp only
        rw [m_X9_pass_L62, if_pos (lt_lit hn (by decide)), gR_eq (by rw [ck_70 Cx]) (cr_70_1 Cx), aI_n (ck_72 Cx) hn (by decide), eh, if_neg c1, gR_eq (by rw [ck_70 Cx]) (cr_70_1 Cx), aI_n (ck_72 Cx) hn (by decide), eh, if_neg c2]
        unfold m_X9_pass_B113
        rw [nI_1]
  case he =>
    rintro f ⟨v, x⟩ ⟨h1, h2, h3, h4⟩
    dsimp only at h1 h2 h3 h4 ⊢
    subst h1
    rw [m_X9_pass_L62, if_neg (nlt_lit (Nat.le_refl _) (by decide))]
    exact ⟨x, rfl, h2, fun c hc => by rw [h3 c hc, if_pos hc], fun c hc => by rw [h4 c hc, if_pos hc]⟩
