/-! ===== feed ===== -/
def bM (v : Int32) (j : Nat) : Int32 := vp_nar .byte (Int8.toInt32 (Int32.toInt8 (v >>> (nI (24 - 8 * j) &&& 31))))
theorem bM_R (v : Int32) (j : Nat) : bR (bM v j) := by
  obtain ⟨y, e⟩ : ∃ y : Int8, bM v j = Int8.toInt32 y := ⟨_, rfl⟩
  rw [e]
  unfold bR
  rw [Int8.toInt_toInt32]
  have h1 := Int8.le_toInt y
  have h2 := Int8.toInt_lt y
  omega
def shJ (j : Nat) : Int32 := if j = 4 then -8 else nI (24 - 8 * j)
theorem append_s {z : Hp} {n j : Nat} (v : Int32) (f : Nat) (hC : LayC z) (hn : n < 700) (hl : zI z 66 1 = nI n) (hj : j < 4) :
    m_X4_append_L3 (f + 1) 66 v (shJ j) z = m_X4_append_L3 f 66 v (shJ (j + 1)) (wI (wI z 67 (ups (zI z 67) n (bM v j &&& 255))) 66 (ups (zI z 66) 1 (nI (n + 1)))) := by
  have h : j = 0 ∨ j = 1 ∨ j = 2 ∨ j = 3 := by omega
  rw [m_X4_append_L3]
  rcases h with rfl | rfl | rfl | rfl
  · have e : bM v 0 &&& 255 = _ := (byte24 v).symm
    rw [e, show shJ 0 = 24 from rfl, show shJ (0 + 1) = 16 from rfl, if_neg (by decide)]
    simp (disch := omega) only [gI, gR, pI, pR, aI, sI, aL, sL, aO, aR, sR, aN, onul, bnd, isC, cpI, cpL, sLen, sCh, nwC, zK_wI, zR_wI, zL_wI, zN_wI, zI_wI, zK_wL, zR_wL, zI_wL, zN_wL, zL_wL, zK_wR, zI_wR, zL_wR, zN_wR, zR_wR, ups_eq, inb_nI, nI_clamp, wI_wI, nI_add, pk_mul, add_c, c_add, c_mul, lt_c, le_c, eq_c, gt_c, ge_c, inb_c, clamp_c, ck_0, ck_65, ck_66, ck_67, ck_68, ck_69, ck_70, ck_71, ck_72, ck_73, ck_74, ck_75, ck_76, ck_77, ck_78, ck_79, ck_80, ck_81, ck_82, ck_83, ck_84, ck_85, ck_86, ck_87, ck_88, ck_89, ck_90, ck_91, cr_0_2, cr_0_3, cr_0_4, cr_0_5, cr_0_6, cr_0_7, cr_0_8, cr_66_0, cr_68_0, cr_68_1, cr_70_0, cr_70_1, cr_70_2, cr_74_0, cr_74_1, cr_74_2, cr_74_7, cr_74_8, cr_74_9, cr_83_0, cr_83_1, cr_83_2, cr_84_0, cr_84_1, cr_84_2, cr_84_3, hC, hl, hn, nI_1, if_true, if_false, Nat.reduceEqDiff, and_self, m_X4_append_B43]
    try rfl
  · have e : bM v 1 &&& 255 = _ := (byte16 v).symm
    rw [e, show shJ 1 = 16 from rfl, show shJ (1 + 1) = 8 from rfl, if_neg (by decide)]
    simp (disch := omega) only [gI, gR, pI, pR, aI, sI, aL, sL, aO, aR, sR, aN, onul, bnd, isC, cpI, cpL, sLen, sCh, nwC, zK_wI, zR_wI, zL_wI, zN_wI, zI_wI, zK_wL, zR_wL, zI_wL, zN_wL, zL_wL, zK_wR, zI_wR, zL_wR, zN_wR, zR_wR, ups_eq, inb_nI, nI_clamp, wI_wI, nI_add, pk_mul, add_c, c_add, c_mul, lt_c, le_c, eq_c, gt_c, ge_c, inb_c, clamp_c, ck_0, ck_65, ck_66, ck_67, ck_68, ck_69, ck_70, ck_71, ck_72, ck_73, ck_74, ck_75, ck_76, ck_77, ck_78, ck_79, ck_80, ck_81, ck_82, ck_83, ck_84, ck_85, ck_86, ck_87, ck_88, ck_89, ck_90, ck_91, cr_0_2, cr_0_3, cr_0_4, cr_0_5, cr_0_6, cr_0_7, cr_0_8, cr_66_0, cr_68_0, cr_68_1, cr_70_0, cr_70_1, cr_70_2, cr_74_0, cr_74_1, cr_74_2, cr_74_7, cr_74_8, cr_74_9, cr_83_0, cr_83_1, cr_83_2, cr_84_0, cr_84_1, cr_84_2, cr_84_3, hC, hl, hn, nI_1, if_true, if_false, Nat.reduceEqDiff, and_self, m_X4_append_B43]
    try rfl
  · have e : bM v 2 &&& 255 = _ := (byte8 v).symm
    rw [e, show shJ 2 = 8 from rfl, show shJ (2 + 1) = 0 from rfl, if_neg (by decide)]
    simp (disch := omega) only [gI, gR, pI, pR, aI, sI, aL, sL, aO, aR, sR, aN, onul, bnd, isC, cpI, cpL, sLen, sCh, nwC, zK_wI, zR_wI, zL_wI, zN_wI, zI_wI, zK_wL, zR_wL, zI_wL, zN_wL, zL_wL, zK_wR, zI_wR, zL_wR, zN_wR, zR_wR, ups_eq, inb_nI, nI_clamp, wI_wI, nI_add, pk_mul, add_c, c_add, c_mul, lt_c, le_c, eq_c, gt_c, ge_c, inb_c, clamp_c, ck_0, ck_65, ck_66, ck_67, ck_68, ck_69, ck_70, ck_71, ck_72, ck_73, ck_74, ck_75, ck_76, ck_77, ck_78, ck_79, ck_80, ck_81, ck_82, ck_83, ck_84, ck_85, ck_86, ck_87, ck_88, ck_89, ck_90, ck_91, cr_0_2, cr_0_3, cr_0_4, cr_0_5, cr_0_6, cr_0_7, cr_0_8, cr_66_0, cr_68_0, cr_68_1, cr_70_0, cr_70_1, cr_70_2, cr_74_0, cr_74_1, cr_74_2, cr_74_7, cr_74_8, cr_74_9, cr_83_0, cr_83_1, cr_83_2, cr_84_0, cr_84_1, cr_84_2, cr_84_3, hC, hl, hn, nI_1, if_true, if_false, Nat.reduceEqDiff, and_self, m_X4_append_B43]
    try rfl
  · have e : bM v 3 &&& 255 = _ := (byte0 v).symm
    rw [e, show shJ 3 = 0 from rfl, show shJ (3 + 1) = -8 from rfl, if_neg (by decide)]
    simp (disch := omega) only [gI, gR, pI, pR, aI, sI, aL, sL, aO, aR, sR, aN, onul, bnd, isC, cpI, cpL, sLen, sCh, nwC, zK_wI, zR_wI, zL_wI, zN_wI, zI_wI, zK_wL, zR_wL, zI_wL, zN_wL, zL_wL, zK_wR, zI_wR, zL_wR, zN_wR, zR_wR, ups_eq, inb_nI, nI_clamp, wI_wI, nI_add, pk_mul, add_c, c_add, c_mul, lt_c, le_c, eq_c, gt_c, ge_c, inb_c, clamp_c, ck_0, ck_65, ck_66, ck_67, ck_68, ck_69, ck_70, ck_71, ck_72, ck_73, ck_74, ck_75, ck_76, ck_77, ck_78, ck_79, ck_80, ck_81, ck_82, ck_83, ck_84, ck_85, ck_86, ck_87, ck_88, ck_89, ck_90, ck_91, cr_0_2, cr_0_3, cr_0_4, cr_0_5, cr_0_6, cr_0_7, cr_0_8, cr_66_0, cr_68_0, cr_68_1, cr_70_0, cr_70_1, cr_70_2, cr_74_0, cr_74_1, cr_74_2, cr_74_7, cr_74_8, cr_74_9, cr_83_0, cr_83_1, cr_83_2, cr_84_0, cr_84_1, cr_84_2, cr_84_3, hC, hl, hn, nI_1, if_true, if_false, Nat.reduceEqDiff, and_self, m_X4_append_B43]
    try rfl
theorem append_ok {z : Hp} {n : Nat} (v : Int32) (hC : LayC z) (hn : n + 4 ≤ 700) (hl : zI z 66 1 = nI n) :
    ∃ y, m_X4_append 66 v z = some ((), y) ∧ Fi (fun a => a = 66 ∨ a = 67) z y ∧ zI y 66 1 = nI (n + 4) ∧ ∀ i, zI y 67 i = if n ≤ i ∧ i < n + 4 then bM v (i - n) &&& 255 else zI z 67 i := by
  unfold m_X4_append
  refine loopQ (X := Int32 × Hp) (fun f x => m_X4_append_L3 f 66 v x.1 x.2) (fun t => ∃ y, t = some ((), y) ∧ Fi (fun a => a = 66 ∨ a = 67) z y ∧ zI y 66 1 = nI (n + 4) ∧ ∀ i, zI y 67 i = if n ≤ i ∧ i < n + 4 then bM v (i - n) &&& 255 else zI z 67 i)
    (fun j x => x.1 = shJ j ∧ Fi (fun a => a = 66 ∨ a = 67) z x.2 ∧ zI x.2 66 1 = nI (n + j) ∧ ∀ i, zI x.2 67 i = if n ≤ i ∧ i < n + j then bM v (i - n) &&& 255 else zI z 67 i) 4 ?hs ?he 0 FU (24, z) (by decide) (by decide) ⟨rfl, Fi.rfl', by simpa using hl, fun i => by rw [if_neg (by omega)]⟩
  case hs =>
    rintro j f ⟨w, y⟩ hj ⟨h1, h2, h3, h4⟩
    dsimp only at h1 h2 h3 h4
    subst h1
    refine Or.inl ⟨(shJ (j + 1), wI (wI y 67 (ups (zI y 67) (n + j) (bM v j &&& 255))) 66 (ups (zI y 66) 1 (nI (n + j + 1)))), ⟨rfl, ?_, ?_, ?_⟩, append_s v f (hC.fi h2) (by omega) h3 hj⟩
    · exact (h2.trans (Fi.w (Or.inr rfl))).trans (Fi.w (Or.inl rfl))
    · dsimp only
      rw [zI_eq, up_eq, Nat.add_assoc]
    · intro i
      dsimp only
      rw [zI_ne (by decide), zI_eq]
      simp only [ups_eq, h4]
      by_cases c : i = n + j
      · rw [if_pos c, if_pos (by omega)]
        rw [show i - n = j by omega]
      · rw [if_neg c]
        by_cases c2 : n ≤ i ∧ i < n + j
        · rw [if_pos c2, if_pos (by omega)]
        · rw [if_neg c2, if_neg (by omega)]
  case he =>
    rintro f ⟨w, y⟩ ⟨h1, h2, h3, h4⟩
    dsimp only at h1 h2 h3 h4 ⊢
    subst h1
    rw [m_X4_append_L3, if_pos (by decide)]
    exact ⟨y, rfl, h2, h3, h4⟩
def fv (a b c d e : Int32) (j : Nat) : Int32 := if j = 0 then a else if j = 1 then b else if j = 2 then c else if j = 3 then d else e
theorem feedC_ok {z : Hp} {n : Nat} (a b c d e : Int32) (hC : LayC z) (hn : n + 20 ≤ 700) (hl : zI z 66 1 = nI n) :
    ∃ y, m_X11_feed 0 a b c d e z = some (nI (n + 20), y) ∧ Fi (fun a => a = 66 ∨ a = 67) z y ∧ zI y 66 1 = nI (n + 20) ∧ ∀ i, zI y 67 i = if n ≤ i ∧ i < n + 20 then bM (fv a b c d e ((i - n) / 4)) ((i - n) % 4) &&& 255 else zI z 67 i := by
  obtain ⟨y1, g1, f1, l1, t1⟩ := append_ok a hC (by omega) hl
  obtain ⟨y2, g2, f2, l2, t2⟩ := append_ok b (hC.fi f1) (by omega) l1
  obtain ⟨y3, g3, f3, l3, t3⟩ := append_ok c ((hC.fi f1).fi f2) (by omega) l2
  obtain ⟨y4, g4, f4, l4, t4⟩ := append_ok d (((hC.fi f1).fi f2).fi f3) (by omega) l3
  obtain ⟨y5, g5, f5, l5, t5⟩ := append_ok e ((((hC.fi f1).fi f2).fi f3).fi f4) (by omega) l4
  have k1 := hC.fi f1
  have k2 := k1.fi f2
  have k3 := k2.fi f3
  have k4 := k3.fi f4
  have k5 := k4.fi f5
  refine ⟨y5, ?_, (((f1.trans f2).trans f3).trans f4).trans f5, l5, fun i => ?_⟩
  · have q : ¬ 700 < nI n + 20 := by
      rw [show nI n + 20 = nI (n + 20) from nI_add n 20, show (700 : Int32) = nI 700 from rfl]
      exact nI_nlt (by omega) (by omega)
    unfold m_X11_feed
    rw [gR_eq (by rw [ck_0 hC]) (cr_0_3 hC), gI_eq (by rw [ck_66 hC]), hl, if_neg q, gR_eq (by rw [ck_0 hC]) (cr_0_3 hC), isC_eq (by rw [ck_66 hC]), g1, bnd_some]
    rw [gR_eq (by rw [ck_0 k1]) (cr_0_3 k1), isC_eq (by rw [ck_66 k1]), g2, bnd_some]
    rw [gR_eq (by rw [ck_0 k2]) (cr_0_3 k2), isC_eq (by rw [ck_66 k2]), g3, bnd_some]
    rw [gR_eq (by rw [ck_0 k3]) (cr_0_3 k3), isC_eq (by rw [ck_66 k3]), g4, bnd_some]
    rw [gR_eq (by rw [ck_0 k4]) (cr_0_3 k4), isC_eq (by rw [ck_66 k4]), g5, bnd_some]
    rw [gR_eq (by rw [ck_0 k5]) (cr_0_3 k5), gI_eq (by rw [ck_66 k5]), l5]
  · rw [t5 i, t4 i, t3 i, t2 i, t1 i]
    unfold fv
    by_cases c0 : n ≤ i ∧ i < n + 20
    · rw [if_pos c0]
      have hq : (i - n) / 4 = 0 ∨ (i - n) / 4 = 1 ∨ (i - n) / 4 = 2 ∨ (i - n) / 4 = 3 ∨ (i - n) / 4 = 4 := by omega
      rcases hq with q | q | q | q | q
      · rw [if_neg (by omega), if_neg (by omega), if_neg (by omega), if_neg (by omega), if_pos (by omega), q, if_pos rfl, show (i - n) % 4 = i - n by omega]
      · rw [if_neg (by omega), if_neg (by omega), if_neg (by omega), if_pos (by omega), q, if_neg (by decide), if_pos rfl, show (i - n) % 4 = i - (n + 4) by omega]
      · rw [if_neg (by omega), if_neg (by omega), if_pos (by omega), q, if_neg (by decide), if_neg (by decide), if_pos rfl, show (i - n) % 4 = i - (n + 4 + 4) by omega]
      · rw [if_neg (by omega), if_pos (by omega), q, if_neg (by decide), if_neg (by decide), if_neg (by decide), if_pos rfl, show (i - n) % 4 = i - (n + 4 + 4 + 4) by omega]
      · rw [if_pos (by omega), q, if_neg (by decide), if_neg (by decide), if_neg (by decide), if_neg (by decide), show (i - n) % 4 = i - (n + 4 + 4 + 4 + 4) by omega]
    · rw [if_neg (by omega), if_neg (by omega), if_neg (by omega), if_neg (by omega), if_neg (by omega), if_neg c0]
theorem c_sub24 {m : Nat} (h : m ≤ 24) : (24 : Int32) - nI m = nI (24 - m) := by
  rw [show (24 : Int32) = nI ((24 - m) + m) by rw [Nat.sub_add_cancel h]; rfl, ← nI_add]
  exact Int32.add_sub_cancel _ _
theorem feedM_ok {z : Hp} {n : Nat} (a b c d e : Int32) (hM : LayM z) (hn : n + 20 ≤ 700) (hl : zI z 92 6 = nI n) :
    ∃ y, m_X12_feed 92 a b c d e z = some (nI (n + 20), y) ∧ Fi (fun a => a = 92 ∨ a = 97 ∨ a = 98) z y ∧ (∀ k, zI y 92 k = if k = 6 then nI (n + 20) else zI z 92 k) ∧ ∀ i, zI y 97 i = if n ≤ i ∧ i < n + 20 then bM (fv a b c d e ((i - n) / 4)) ((i - n) % 4) else zI z 97 i := by
  have q : ¬ 700 < nI n + 20 := by
    rw [show nI n + 20 = nI (n + 20) from nI_add n 20, show (700 : Int32) = nI 700 from rfl]
    exact nI_nlt (by omega) (by omega)
  unfold m_X12_feed
  rw [gI_eq (by rw [mk_92 hM]), hl, if_neg q]
  simp (disch := omega) only [gI, gR, pI, pR, aI, sI, aL, sL, aO, aR, sR, aN, onul, bnd, isC, cpI, cpL, sLen, sCh, nwC, zK_wI, zR_wI, zL_wI, zN_wI, zI_wI, zK_wL, zR_wL, zI_wL, zN_wL, zL_wL, zK_wR, zI_wR, zL_wR, zN_wR, zR_wR, ups_eq, inb_nI, nI_clamp, wI_wI, nI_add, pk_mul, add_c, c_add, c_mul, lt_c, le_c, eq_c, gt_c, ge_c, inb_c, clamp_c, mk_92, mk_93, mk_94, mk_95, mk_96, mk_97, mk_98, mk_99, mk_100, mk_101, mk_102, mk_103, mk_104, mk_105, mk_106, mk_107, mk_108, mk_109, mk_110, mk_111, mk_112, mk_113, mk_114, mr_92_1, mr_92_2, mr_92_3, mr_92_4, mr_92_5, mr_92_7, mr_92_15, mr_92_16, mr_92_17, mr_92_24, mr_92_25, mr_92_26, mr_92_27, mr_92_28, mr_92_29, mr_92_30, mr_92_32, mr_92_33, mr_92_36, mr_92_37, mr_92_38, mr_92_39, hM, if_true, if_false, Nat.reduceEqDiff, and_self, zI_wI]
  obtain ⟨x, hx⟩ : ∃ x, x = wI z 98 (ups (ups (ups (ups (ups (zI z 98) 0 a) 1 b) 2 c) 3 d) 4 e) := ⟨_, rfl⟩
  rw [← hx]
  have hMx : LayM x := hM.of (by rw [hx]; rfl) (by rw [hx]; rfl)
  have x92 : zI x 92 = zI z 92 := by rw [hx, zI_ne (by decide)]
  have x97 : zI x 97 = zI z 97 := by rw [hx, zI_ne (by decide)]
  have x98 : ∀ j, j < 5 → zI x 98 j = fv a b c d e j := by
    intro j hj
    rw [hx, zI_eq]
    have h : j = 0 ∨ j = 1 ∨ j = 2 ∨ j = 3 ∨ j = 4 := by omega
    rcases h with rfl | rfl | rfl | rfl | rfl <;> rfl
  refine loopQ (X := Int32 × Hp) (fun f y => m_X12_feed_L55 m_X12_feed_B101 f 92 y.1 y.2) (fun t => ∃ y, t = some (nI (n + 20), y) ∧ Fi (fun a => a = 92 ∨ a = 97 ∨ a = 98) z y ∧ (∀ k, zI y 92 k = if k = 6 then nI (n + 20) else zI z 92 k) ∧ ∀ i, zI y 97 i = if n ≤ i ∧ i < n + 20 then bM (fv a b c d e ((i - n) / 4)) ((i - n) % 4) else zI z 97 i)
    (fun j y => y.1 = nI j ∧ y.2 = wI x 97 (fun i => if n ≤ i ∧ i < n + j then bM (fv a b c d e ((i - n) / 4)) ((i - n) % 4) else zI x 97 i)) 20 ?hs ?he 0 FU (0, x) (by decide) (by decide) ⟨rfl, ?h0⟩
  case h0 =>
    refine (wI_self x 97).symm.trans (congrArg (wI x 97) (funext fun i => ?_))
    rw [if_neg (by omega)]
  case hs =>
    rintro j f ⟨v, y⟩ hj ⟨h1, h2⟩
    dsimp only at h1 h2
    subst h1 h2
    refine Or.inl ⟨(nI (j + 1), wI x 97 (fun i => if n ≤ i ∧ i < n + (j + 1) then bM (fv a b c d e ((i - n) / 4)) ((i - n) % 4) else zI x 97 i)), ⟨rfl, rfl⟩, ?_⟩
    dsimp only
    have d4 : nI j / 4 = nI (j / 4) := pk_div (by omega) (by decide) (by decide)
    have r4 : nI j - nI (j / 4) * 4 = nI (j % 4) := by
      rw [← d4]; exact pk_rem (by omega) (by decide) (by decide)
    rw [m_X12_feed_L55]
    simp (disch := omega) only [d4, r4, c_sub24, gI, gR, pI, pR, aI, sI, aL, sL, aO, aR, sR, aN, onul, bnd, isC, cpI, cpL, sLen, sCh, nwC, zK_wI, zR_wI, zL_wI, zN_wI, zI_wI, zK_wL, zR_wL, zI_wL, zN_wL, zL_wL, zK_wR, zI_wR, zL_wR, zN_wR, zR_wR, ups_eq, inb_nI, nI_clamp, wI_wI, nI_add, pk_mul, add_c, c_add, c_mul, lt_c, le_c, eq_c, gt_c, ge_c, inb_c, clamp_c, mk_92, mk_93, mk_94, mk_95, mk_96, mk_97, mk_98, mk_99, mk_100, mk_101, mk_102, mk_103, mk_104, mk_105, mk_106, mk_107, mk_108, mk_109, mk_110, mk_111, mk_112, mk_113, mk_114, mr_92_1, mr_92_2, mr_92_3, mr_92_4, mr_92_5, mr_92_7, mr_92_15, mr_92_16, mr_92_17, mr_92_24, mr_92_25, mr_92_26, mr_92_27, mr_92_28, mr_92_29, mr_92_30, mr_92_32, mr_92_33, mr_92_36, mr_92_37, mr_92_38, mr_92_39, hMx, if_true, if_false, Nat.reduceEqDiff, and_self, zI_ne, x92, hl, x98, hj, nI_add]
    refine congrArg (fun q => m_X12_feed_L55 m_X12_feed_B101 f 92 (nI (j + 1)) (wI x 97 q)) (funext fun i => ?_)
    simp only [ups_eq]
    by_cases c0 : i = n + j
    · rw [if_pos c0, if_pos (by omega), show i - n = j by omega]
      rfl
    · rw [if_neg c0]
      by_cases c2 : n ≤ i ∧ i < n + j
      · rw [if_pos c2, if_pos (by omega)]
      · rw [if_neg c2, if_neg (by omega)]
  case he =>
    rintro f ⟨v, y⟩ ⟨h1, h2⟩
    dsimp only at h1 h2 ⊢
    subst h1 h2
    rw [m_X12_feed_L55, if_neg (nlt_lit (Nat.le_refl _) (by decide))]
    unfold m_X12_feed_B101
    have e20 : nI n + 20 = nI (n + 20) := nI_add n 20
    simp (disch := omega) only [gI, gR, pI, pR, aI, sI, aL, sL, aO, aR, sR, aN, onul, bnd, isC, cpI, cpL, sLen, sCh, nwC, zK_wI, zR_wI, zL_wI, zN_wI, zI_wI, zK_wL, zR_wL, zI_wL, zN_wL, zL_wL, zK_wR, zI_wR, zL_wR, zN_wR, zR_wR, ups_eq, inb_nI, nI_clamp, wI_wI, nI_add, pk_mul, add_c, c_add, c_mul, lt_c, le_c, eq_c, gt_c, ge_c, inb_c, clamp_c, mk_92, mk_93, mk_94, mk_95, mk_96, mk_97, mk_98, mk_99, mk_100, mk_101, mk_102, mk_103, mk_104, mk_105, mk_106, mk_107, mk_108, mk_109, mk_110, mk_111, mk_112, mk_113, mk_114, mr_92_1, mr_92_2, mr_92_3, mr_92_4, mr_92_5, mr_92_7, mr_92_15, mr_92_16, mr_92_17, mr_92_24, mr_92_25, mr_92_26, mr_92_27, mr_92_28, mr_92_29, mr_92_30, mr_92_32, mr_92_33, mr_92_36, mr_92_37, mr_92_38, mr_92_39, hMx, if_true, if_false, Nat.reduceEqDiff, and_self, zI_ne, x92, hl, e20]
    refine ⟨_, rfl, ?_, ?_, ?_⟩
    · rw [hx]
      exact ((Fi.w (by omega)).trans (Fi.w (by omega))).trans (Fi.w (by omega))
    · intro k
      rw [zI_eq]
      rfl
    · intro i
      rw [zI_ne (by decide), zI_eq, x97]
theorem op_feed (a b c d e : Int32) : Op (m_X11_feed 0 a b c d e) (m_X12_feed 92 a b c d e) := by
  intro z s dd h
  have hS := in_S h; have hR := in_R h; have hO := in_ok h; have hM := in_M h; have hC := in_C h; have hN := in_now h
  have hs := in_lo h
  have t0 := in_tn h
  obtain ⟨n, hn, en⟩ : ∃ n, n < 701 ∧ zI z 92 6 = nI n := ⟨_, t0.2, t0.1⟩
  have el : zI z 66 1 = nI n := by rw [in_tl h, en]
  by_cases hp : n + 20 ≤ 700
  · obtain ⟨y, g1, f1, l1, t1⟩ := feedC_ok a b c d e hC hp el
    have e92 : zI y 92 = zI z 92 := f1.2.2.2.2 92 (by omega)
    have hMy := hM.fi f1
    obtain ⟨x, g2, f2, l2, t2⟩ := feedM_ok a b c d e hMy hp (by rw [e92]; exact en)
    refine ⟨_, y, x, s, dd, g1, by rw [mk_92 hMy], g2, ?_⟩
    have ex : ∀ a, a ≠ 66 → a ≠ 67 → a ≠ 92 → a ≠ 97 → a ≠ 98 → zI x a = zI z a := fun a h1 h2 h3 h4 h5 => by
      rw [f2.2.2.2.2 a (by omega), f1.2.2.2.2 a (by omega)]
    have e97 : zI y 97 = zI z 97 := f1.2.2.2.2 97 (by omega)
    have x66 : zI x 66 = zI y 66 := f2.2.2.2.2 66 (by omega)
    have x67 : zI x 67 = zI y 67 := f2.2.2.2.2 67 (by omega)
    refine In.re2 h (f2.2.1.trans f1.2.1) (f2.2.2.2.1.trans f1.2.2.2.1) (f2.1.trans f1.1) (fun a ha => ex a (by omega) (by omega) (by omega) (by omega) (by omega)) ?_ ?_ ?_
    · refine ⟨by rw [l2 6, if_pos rfl]; exact isN.mk (by omega) (by decide), by rw [x66, l1, l2 6, if_pos rfl], fun i hi => ?_⟩
      rw [l2 6, if_pos rfl, nn_nI (by omega)] at hi
      rw [x67, t1 i, t2 i]
      by_cases c : n ≤ i ∧ i < n + 20
      · rw [if_pos c, if_pos c]
        exact ⟨rfl, bM_R _ _⟩
      · rw [if_neg c, if_neg c, e97]
        exact in_tb h i (by rw [en, nn_nI (by omega)]; omega)
    · refine (in_Fd h).of (ex 0 (by omega) (by omega) (by omega) (by omega) (by omega)) ?_ ?_ ?_ ?_ (ex 91 (by omega) (by omega) (by omega) (by omega) (by omega)) (ex 110 (by omega) (by omega) (by omega) (by omega) (by omega))
      · rw [l2 13, if_neg (by decide), e92]
      · rw [l2 14, if_neg (by decide), e92]
      · rw [l2 34, if_neg (by decide), e92]
      · rw [l2 35, if_neg (by decide), e92]
    · exact (in_Sl h).of (ex 111 (by omega) (by omega) (by omega) (by omega) (by omega)) (ex 90 (by omega) (by omega) (by omega) (by omega) (by omega)) (ex 112 (by omega) (by omega) (by omega) (by omega) (by omega)) (ex 89 (by omega) (by omega) (by omega) (by omega) (by omega)) (f2.2.2.1.trans f1.2.2.1)
  · have q : 700 < nI n + 20 := by
      rw [show nI n + 20 = nI (n + 20) from nI_add n 20, show (700 : Int32) = nI 700 from rfl]
      exact nI_lt (by omega) (by omega)
    refine ⟨-1, z, z, s, dd, ?_, by rw [mk_92 hM], ?_, h⟩
    · unfold m_X11_feed
      rw [gR_eq (by rw [ck_0 hC]) (cr_0_3 hC), gI_eq (by rw [ck_66 hC]), el, if_pos q]
    · unfold m_X12_feed
      rw [gI_eq (by rw [mk_92 hM]), en, if_pos q]
