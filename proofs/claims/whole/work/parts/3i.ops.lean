/-! ===== a call of both; how the invariant is kept ===== -/
def Op (f g : Hp → Option (Int32 × Hp)) : Prop := ∀ z s d, In z s d → ∃ v y y2 s2 d2, f z = some (v, y) ∧ (zK y 92).1 = 19 ∧ g y = some (v, y2) ∧ In y2 s2 d2
theorem Op.ro {f g : Hp → Option (Int32 × Hp)} (H : ∀ z s d, In z s d → RO f g z) : Op f g := by
  intro z s d h
  obtain ⟨v, e1, e2⟩ := H z s d h
  exact ⟨v, z, z, s, d, e1, by rw [mk_92 (in_M h)], e2, h⟩
def Tp (z : Hp) : Prop := isN (zI z 92 6) 701 ∧ zI z 66 1 = zI z 92 6 ∧ ∀ i, i < nn (zI z 92 6) → zI z 67 i = zI z 97 i &&& 255 ∧ bR (zI z 97 i)
def FdP (z : Hp) : Prop := zI z 0 11 = zI z 92 13 ∧ zI z 0 12 = zI z 92 14 ∧ zI z 0 9 = zI z 92 34 ∧ isN (zI z 92 34) 145 ∧ (∀ i, i < nn (zI z 92 34) → zI z 91 i = zI z 110 i) ∧ zI z 0 10 = zI z 92 35
def Sl (z : Hp) : Prop := (∀ k, k < 4 → zI z 111 k = -1 ∨ isN (zI z 111 k) 61) ∧ (∀ k, k < 4 → zI z 90 k = zI z 111 k) ∧ (∀ k, k < 4 → isN (zI z 112 k) 4) ∧ (∀ k, k < 4 → zI z 111 k = -1 ∨ zI z 89 k = zI z 112 k) ∧ (∀ k i, k < 4 → i < 60 → zL z (85 + k) i = zL z 113 (60 * k + i))
theorem in_Tp {z : Hp} {s d : Nat} (h : In z s d) : Tp z := ⟨in_tn h, in_tl h, in_tb h⟩
theorem in_Fd {z : Hp} {s d : Nat} (h : In z s d) : FdP z := ⟨in_fk h, in_fp h, in_gn h, in_gN h, in_gg h, in_ch h⟩
theorem in_Sl {z : Hp} {s d : Nat} (h : In z s d) : Sl z := ⟨in_sn h, in_sl h, in_sw h, in_sv h, in_nu h⟩
theorem Tp.of {z y : Hp} (h : Tp z) (e1 : zI y 92 6 = zI z 92 6) (e2 : zI y 66 1 = zI z 66 1) (e3 : zI y 67 = zI z 67) (e4 : zI y 97 = zI z 97) : Tp y := by
  unfold Tp at h ⊢
  rw [e1, e2, e3, e4]
  exact h
theorem FdP.of {z y : Hp} (h : FdP z) (e1 : zI y 0 = zI z 0) (e2 : zI y 92 13 = zI z 92 13) (e3 : zI y 92 14 = zI z 92 14) (e4 : zI y 92 34 = zI z 92 34) (e5 : zI y 92 35 = zI z 92 35) (e6 : zI y 91 = zI z 91) (e7 : zI y 110 = zI z 110) : FdP y := by
  unfold FdP at h ⊢
  rw [e1, e2, e3, e4, e5, e6, e7]
  exact h
theorem Sl.of {z y : Hp} (h : Sl z) (e1 : zI y 111 = zI z 111) (e2 : zI y 90 = zI z 90) (e3 : zI y 112 = zI z 112) (e4 : zI y 89 = zI z 89) (e5 : zL y = zL z) : Sl y := by
  unfold Sl at h ⊢
  rw [e1, e2, e3, e4, e5]
  exact h
theorem ImR.of {z y : Hp} {k : Nat} (h : ImR z k) (hk : zK y = zK z) (hr : zR y = zR z) (hn : zN y = zN z) (e : ∀ a, 115 ≤ a → zI y a = zI z a) (e5 : zI y 95 = zI z 95) (e6 : zI y 96 = zI z 96) : ImR y k := by
  unfold ImR at h ⊢
  rw [e5, e6, hr, hn]
  rcases h with h | ⟨h1, t, h2, h3, h4, h5, h6, h7⟩
  · exact Or.inl h
  · exact Or.inr ⟨h1, t, h2, h3, h4, h5.of hk hr, h6.of (fun a ha _ => e a (by omega)), h7⟩
theorem In.re {z y : Hp} {s d : Nat} (h : In z s d) (hk : zK y = zK z) (hr : zR y = zR z) (hn : zN y = zN z) (hR : RelS y s (zI y 93)) (hO : OkW (zI y 93) 12) (ht : isN (zI y 93 1) 2001) (hi : ∀ k, k < 3 → ImR y k) (hT : Tp y) (hF : FdP y) (hS : Sl y) : In y s d :=
  ⟨in_sd h, by rw [hr]; exact in_now h, by rw [hr]; exact in_draft h, (in_C h).of hk hr, (in_M h).of hk hr, (in_S h).of hk hr, (in_D h).of hk hr, by rw [hr]; exact in_wq h, by rw [hr]; exact in_ps h, hR, hO, ht, hi,
    by have := in_imd h; unfold ImD at this ⊢; rw [hr]; exact this, hT.1, hT.2.1, hT.2.2, hF.1, hF.2.1, hF.2.2.1, hF.2.2.2.1, hF.2.2.2.2.1, hF.2.2.2.2.2, hS.1, hS.2.1, hS.2.2.1, hS.2.2.2.1, hS.2.2.2.2, by rw [hn]; exact in_N h⟩
theorem in_lo {z : Hp} {s d : Nat} (h : In z s d) : 1 ≤ s ∧ s + 32 ≤ 65 ∧ 1 ≤ d ∧ d + 32 ≤ 65 := by
  rcases in_sd h with ⟨rfl, rfl⟩ | ⟨rfl, rfl⟩ <;> omega
/-- only ints have changed, and none that a State, the world, the images have -/
theorem In.re2 {z y : Hp} {s d : Nat} (h : In z s d) (hk : zK y = zK z) (hr : zR y = zR z) (hn : zN y = zN z) (e : ∀ a, (1 ≤ a ∧ a < 65) ∨ a = 93 ∨ a = 95 ∨ a = 96 ∨ 115 ≤ a → zI y a = zI z a) (hT : Tp y) (hF : FdP y) (hS : Sl y) : In y s d := by
  have hs := in_lo h
  have e93 : zI y 93 = zI z 93 := e 93 (by omega)
  refine In.re h hk hr hn ?_ ?_ ?_ ?_ hT hF hS
  · rw [e93]; exact (in_R h).of (fun a h1 h2 => e a (by omega))
  · rw [e93]; exact in_ok h
  · rw [e93]; exact in_tk h
  · exact fun k q => (in_im h k q).of hk hr hn (fun a ha => e a (by omega)) (e 95 (by omega)) (e 96 (by omega))
theorem op_end (n : Int32) : Op (m_X11_end 0 n) (m_X12_end 92 n) := by
  intro z s d h
  have hS := in_S h; have hR := in_R h; have hO := in_ok h; have hM := in_M h; have hC := in_C h; have hN := in_now h
  have hn := in_tn h
  have hl := in_tl h
  by_cases hp : ¬ n < 0 ∧ ¬ zI z 92 6 < n
  · have e1 : m_X12_in n.toInt64 0 (zI z 92 6).toInt64 (wI z 66 (ups (zI z 66) 1 n)) = some (1, wI z 66 (ups (zI z 66) 1 n)) := by
      rw [show (0 : Int64) = (0 : Int32).toInt64 by decide, in32, if_pos ⟨Int32.not_lt.mp hp.1, Int32.not_lt.mp hp.2⟩]
    refine ⟨n, wI z 66 (ups (zI z 66) 1 n), wI (wI z 66 (ups (zI z 66) 1 n)) 92 (ups (zI z 92) 6 n), s, d, ?_, ?_, ?_, ?_⟩
    · unfold m_X11_end
      simp (disch := omega) [gI, gR, pI, pR, aI, sI, aL, sL, aO, aR, sR, aN, onul, bnd, isC, cpI, cpL, sLen, sCh, nwC, zK_wI, zR_wI, zL_wI, zN_wI, zI_wI, zK_wL, zR_wL, zI_wL, zN_wL, zL_wL, zK_wR, zI_wR, zL_wR, zN_wR, zR_wR, ups_eq, inb_nI, nI_clamp, wI_wI, nI_add, pk_mul, add_c, c_add, c_mul, lt_c, le_c, eq_c, gt_c, ge_c, inb_c, clamp_c, ladd, mk_92, mk_93, mk_94, mk_95, mk_96, mk_97, mk_98, mk_99, mk_100, mk_101, mk_102, mk_103, mk_104, mk_105, mk_106, mk_107, mk_108, mk_109, mk_110, mk_111, mk_112, mk_113, mk_114, mr_92_1, mr_92_2, mr_92_3, mr_92_4, mr_92_5, mr_92_7, mr_92_15, mr_92_16, mr_92_17, mr_92_24, mr_92_25, mr_92_26, mr_92_27, mr_92_28, mr_92_29, mr_92_30, mr_92_32, mr_92_33, mr_92_36, mr_92_37, mr_92_38, mr_92_39, ck_0, ck_65, ck_66, ck_67, ck_68, ck_69, ck_70, ck_71, ck_72, ck_73, ck_74, ck_75, ck_76, ck_77, ck_78, ck_79, ck_80, ck_81, ck_82, ck_83, ck_84, ck_85, ck_86, ck_87, ck_88, ck_89, ck_90, ck_91, cr_0_2, cr_0_3, cr_0_4, cr_0_5, cr_0_6, cr_0_7, cr_0_8, cr_66_0, cr_68_0, cr_68_1, cr_70_0, cr_70_1, cr_70_2, cr_74_0, cr_74_1, cr_74_2, cr_74_7, cr_74_8, cr_74_9, cr_83_0, cr_83_1, cr_83_2, cr_84_0, cr_84_1, cr_84_2, cr_84_3, sk_0, sk_1, sk_2, sk_3, sk_4, sk_5, sk_6, sk_7, sk_8, sk_9, sk_10, sk_11, sk_12, sk_13, sk_14, sk_15, sk_16, sk_17, sk_18, sk_19, sk_20, sk_21, sk_22, sk_23, sk_24, sk_25, sk_26, sk_27, sk_28, sk_29, sk_30, sk_31, sr_0_0, sr_0_1, sr_0_2, sr_0_3, sr_0_4, sr_0_5, sr_0_6, sr_0_7, sr_0_8, sr_0_9, sr_1_0, sr_1_1, sr_1_2, sr_1_3, sr_1_4, sr_1_5, sr_8_0, sr_8_1, sr_8_2, sr_8_3, sr_8_4, sr_8_5, sr_15_0, sr_15_1, sr_15_2, sr_19_0, sr_19_1, sr_19_2, sr_19_3, sr_24_0, sr_24_1, rs_lead hR, rs_ilead hR, rs_latent hR, rs_mark hR, rs_ground hR, rs_far hR, rs_pn hR, rs_p0 hR, rs_p1 hR, rs_p2 hR, rs_p3 hR, rs_p4 hR, rs_p5 hR, rs_hn hR, rs_h0 hR, rs_h1 hR, rs_h2 hR, rs_rn hR, rs_rc hR, rs_gc hR, rs_warm hR, rs_ice hR, rs_dug hR, rs_shaft hR, rs_sums hR, rs_sc hR, rs_dc hR, rs_cold hR, rs_lines hR, rs_ticks hR, rs_fl hR, rs_fls hR, hM, hS, hC, hN, hl, hp.1, hp.2]
    · rw [zK_wI, mk_92 hM]
    · unfold m_X12_end
      simp (disch := omega) [gI, gR, pI, pR, aI, sI, aL, sL, aO, aR, sR, aN, onul, bnd, isC, cpI, cpL, sLen, sCh, nwC, zK_wI, zR_wI, zL_wI, zN_wI, zI_wI, zK_wL, zR_wL, zI_wL, zN_wL, zL_wL, zK_wR, zI_wR, zL_wR, zN_wR, zR_wR, ups_eq, inb_nI, nI_clamp, wI_wI, nI_add, pk_mul, add_c, c_add, c_mul, lt_c, le_c, eq_c, gt_c, ge_c, inb_c, clamp_c, ladd, mk_92, mk_93, mk_94, mk_95, mk_96, mk_97, mk_98, mk_99, mk_100, mk_101, mk_102, mk_103, mk_104, mk_105, mk_106, mk_107, mk_108, mk_109, mk_110, mk_111, mk_112, mk_113, mk_114, mr_92_1, mr_92_2, mr_92_3, mr_92_4, mr_92_5, mr_92_7, mr_92_15, mr_92_16, mr_92_17, mr_92_24, mr_92_25, mr_92_26, mr_92_27, mr_92_28, mr_92_29, mr_92_30, mr_92_32, mr_92_33, mr_92_36, mr_92_37, mr_92_38, mr_92_39, ck_0, ck_65, ck_66, ck_67, ck_68, ck_69, ck_70, ck_71, ck_72, ck_73, ck_74, ck_75, ck_76, ck_77, ck_78, ck_79, ck_80, ck_81, ck_82, ck_83, ck_84, ck_85, ck_86, ck_87, ck_88, ck_89, ck_90, ck_91, cr_0_2, cr_0_3, cr_0_4, cr_0_5, cr_0_6, cr_0_7, cr_0_8, cr_66_0, cr_68_0, cr_68_1, cr_70_0, cr_70_1, cr_70_2, cr_74_0, cr_74_1, cr_74_2, cr_74_7, cr_74_8, cr_74_9, cr_83_0, cr_83_1, cr_83_2, cr_84_0, cr_84_1, cr_84_2, cr_84_3, sk_0, sk_1, sk_2, sk_3, sk_4, sk_5, sk_6, sk_7, sk_8, sk_9, sk_10, sk_11, sk_12, sk_13, sk_14, sk_15, sk_16, sk_17, sk_18, sk_19, sk_20, sk_21, sk_22, sk_23, sk_24, sk_25, sk_26, sk_27, sk_28, sk_29, sk_30, sk_31, sr_0_0, sr_0_1, sr_0_2, sr_0_3, sr_0_4, sr_0_5, sr_0_6, sr_0_7, sr_0_8, sr_0_9, sr_1_0, sr_1_1, sr_1_2, sr_1_3, sr_1_4, sr_1_5, sr_8_0, sr_8_1, sr_8_2, sr_8_3, sr_8_4, sr_8_5, sr_15_0, sr_15_1, sr_15_2, sr_19_0, sr_19_1, sr_19_2, sr_19_3, sr_24_0, sr_24_1, rs_lead hR, rs_ilead hR, rs_latent hR, rs_mark hR, rs_ground hR, rs_far hR, rs_pn hR, rs_p0 hR, rs_p1 hR, rs_p2 hR, rs_p3 hR, rs_p4 hR, rs_p5 hR, rs_hn hR, rs_h0 hR, rs_h1 hR, rs_h2 hR, rs_rn hR, rs_rc hR, rs_gc hR, rs_warm hR, rs_ice hR, rs_dug hR, rs_shaft hR, rs_sums hR, rs_sc hR, rs_dc hR, rs_cold hR, rs_lines hR, rs_ticks hR, rs_fl hR, rs_fls hR, hM, hS, hC, hN, e1]
    · refine h.re2 rfl rfl rfl ?_ ?_ ((in_Fd h).of rfl rfl rfl rfl rfl rfl rfl) ((in_Sl h).of rfl rfl rfl rfl rfl)
      · intro a ha
        rw [zI_ne (by omega), zI_ne (by omega)]
      · have k0 := hn.2
        have k1 := hn.1
        have k2 : n < nI (nn (zI z 92 6) + 1) := by
          have q := hp.2
          rw [k1] at q
          rw [Int32.lt_iff_toInt_lt, nI_toInt (by omega)] at q ⊢
          omega
        obtain ⟨m, rfl, hm⟩ := ofN (by omega) hp.1 k2
        refine ⟨isN.mk (n := m) (by omega) (by decide), rfl, fun i hi => ?_⟩
        have hi2 : i < m := by
          have e : nn (nI m) = m := nn_nI (by omega)
          have : i < nn (nI m) := hi
          omega
        exact in_tb h i (by omega)
  · have e1 : m_X12_in n.toInt64 0 (zI z 92 6).toInt64 z = some (0, z) := by
      rw [show (0 : Int64) = (0 : Int32).toInt64 by decide, in32, if_neg (fun g => hp ⟨Int32.not_lt.mpr g.1, Int32.not_lt.mpr g.2⟩)]
    refine ⟨-1, z, z, s, d, ?_, by rw [mk_92 hM], ?_, h⟩
    · unfold m_X11_end
      by_cases q : n < 0
      · simp (disch := omega) [gI, gR, pI, pR, aI, sI, aL, sL, aO, aR, sR, aN, onul, bnd, isC, cpI, cpL, sLen, sCh, nwC, zK_wI, zR_wI, zL_wI, zN_wI, zI_wI, zK_wL, zR_wL, zI_wL, zN_wL, zL_wL, zK_wR, zI_wR, zL_wR, zN_wR, zR_wR, ups_eq, inb_nI, nI_clamp, wI_wI, nI_add, pk_mul, add_c, c_add, c_mul, lt_c, le_c, eq_c, gt_c, ge_c, inb_c, clamp_c, ladd, mk_92, mk_93, mk_94, mk_95, mk_96, mk_97, mk_98, mk_99, mk_100, mk_101, mk_102, mk_103, mk_104, mk_105, mk_106, mk_107, mk_108, mk_109, mk_110, mk_111, mk_112, mk_113, mk_114, mr_92_1, mr_92_2, mr_92_3, mr_92_4, mr_92_5, mr_92_7, mr_92_15, mr_92_16, mr_92_17, mr_92_24, mr_92_25, mr_92_26, mr_92_27, mr_92_28, mr_92_29, mr_92_30, mr_92_32, mr_92_33, mr_92_36, mr_92_37, mr_92_38, mr_92_39, ck_0, ck_65, ck_66, ck_67, ck_68, ck_69, ck_70, ck_71, ck_72, ck_73, ck_74, ck_75, ck_76, ck_77, ck_78, ck_79, ck_80, ck_81, ck_82, ck_83, ck_84, ck_85, ck_86, ck_87, ck_88, ck_89, ck_90, ck_91, cr_0_2, cr_0_3, cr_0_4, cr_0_5, cr_0_6, cr_0_7, cr_0_8, cr_66_0, cr_68_0, cr_68_1, cr_70_0, cr_70_1, cr_70_2, cr_74_0, cr_74_1, cr_74_2, cr_74_7, cr_74_8, cr_74_9, cr_83_0, cr_83_1, cr_83_2, cr_84_0, cr_84_1, cr_84_2, cr_84_3, sk_0, sk_1, sk_2, sk_3, sk_4, sk_5, sk_6, sk_7, sk_8, sk_9, sk_10, sk_11, sk_12, sk_13, sk_14, sk_15, sk_16, sk_17, sk_18, sk_19, sk_20, sk_21, sk_22, sk_23, sk_24, sk_25, sk_26, sk_27, sk_28, sk_29, sk_30, sk_31, sr_0_0, sr_0_1, sr_0_2, sr_0_3, sr_0_4, sr_0_5, sr_0_6, sr_0_7, sr_0_8, sr_0_9, sr_1_0, sr_1_1, sr_1_2, sr_1_3, sr_1_4, sr_1_5, sr_8_0, sr_8_1, sr_8_2, sr_8_3, sr_8_4, sr_8_5, sr_15_0, sr_15_1, sr_15_2, sr_19_0, sr_19_1, sr_19_2, sr_19_3, sr_24_0, sr_24_1, rs_lead hR, rs_ilead hR, rs_latent hR, rs_mark hR, rs_ground hR, rs_far hR, rs_pn hR, rs_p0 hR, rs_p1 hR, rs_p2 hR, rs_p3 hR, rs_p4 hR, rs_p5 hR, rs_hn hR, rs_h0 hR, rs_h1 hR, rs_h2 hR, rs_rn hR, rs_rc hR, rs_gc hR, rs_warm hR, rs_ice hR, rs_dug hR, rs_shaft hR, rs_sums hR, rs_sc hR, rs_dc hR, rs_cold hR, rs_lines hR, rs_ticks hR, rs_fl hR, rs_fls hR, hM, hS, hC, hN, q, m_X11_end]
      · have q2 : zI z 92 6 < n := by
          by_cases q3 : zI z 92 6 < n
          · exact q3
          · exact absurd ⟨q, q3⟩ hp
        simp (disch := omega) [gI, gR, pI, pR, aI, sI, aL, sL, aO, aR, sR, aN, onul, bnd, isC, cpI, cpL, sLen, sCh, nwC, zK_wI, zR_wI, zL_wI, zN_wI, zI_wI, zK_wL, zR_wL, zI_wL, zN_wL, zL_wL, zK_wR, zI_wR, zL_wR, zN_wR, zR_wR, ups_eq, inb_nI, nI_clamp, wI_wI, nI_add, pk_mul, add_c, c_add, c_mul, lt_c, le_c, eq_c, gt_c, ge_c, inb_c, clamp_c, ladd, mk_92, mk_93, mk_94, mk_95, mk_96, mk_97, mk_98, mk_99, mk_100, mk_101, mk_102, mk_103, mk_104, mk_105, mk_106, mk_107, mk_108, mk_109, mk_110, mk_111, mk_112, mk_113, mk_114, mr_92_1, mr_92_2, mr_92_3, mr_92_4, mr_92_5, mr_92_7, mr_92_15, mr_92_16, mr_92_17, mr_92_24, mr_92_25, mr_92_26, mr_92_27, mr_92_28, mr_92_29, mr_92_30, mr_92_32, mr_92_33, mr_92_36, mr_92_37, mr_92_38, mr_92_39, ck_0, ck_65, ck_66, ck_67, ck_68, ck_69, ck_70, ck_71, ck_72, ck_73, ck_74, ck_75, ck_76, ck_77, ck_78, ck_79, ck_80, ck_81, ck_82, ck_83, ck_84, ck_85, ck_86, ck_87, ck_88, ck_89, ck_90, ck_91, cr_0_2, cr_0_3, cr_0_4, cr_0_5, cr_0_6, cr_0_7, cr_0_8, cr_66_0, cr_68_0, cr_68_1, cr_70_0, cr_70_1, cr_70_2, cr_74_0, cr_74_1, cr_74_2, cr_74_7, cr_74_8, cr_74_9, cr_83_0, cr_83_1, cr_83_2, cr_84_0, cr_84_1, cr_84_2, cr_84_3, sk_0, sk_1, sk_2, sk_3, sk_4, sk_5, sk_6, sk_7, sk_8, sk_9, sk_10, sk_11, sk_12, sk_13, sk_14, sk_15, sk_16, sk_17, sk_18, sk_19, sk_20, sk_21, sk_22, sk_23, sk_24, sk_25, sk_26, sk_27, sk_28, sk_29, sk_30, sk_31, sr_0_0, sr_0_1, sr_0_2, sr_0_3, sr_0_4, sr_0_5, sr_0_6, sr_0_7, sr_0_8, sr_0_9, sr_1_0, sr_1_1, sr_1_2, sr_1_3, sr_1_4, sr_1_5, sr_8_0, sr_8_1, sr_8_2, sr_8_3, sr_8_4, sr_8_5, sr_15_0, sr_15_1, sr_15_2, sr_19_0, sr_19_1, sr_19_2, sr_19_3, sr_24_0, sr_24_1, rs_lead hR, rs_ilead hR, rs_latent hR, rs_mark hR, rs_ground hR, rs_far hR, rs_pn hR, rs_p0 hR, rs_p1 hR, rs_p2 hR, rs_p3 hR, rs_p4 hR, rs_p5 hR, rs_hn hR, rs_h0 hR, rs_h1 hR, rs_h2 hR, rs_rn hR, rs_rc hR, rs_gc hR, rs_warm hR, rs_ice hR, rs_dug hR, rs_shaft hR, rs_sums hR, rs_sc hR, rs_dc hR, rs_cold hR, rs_lines hR, rs_ticks hR, rs_fl hR, rs_fls hR, hM, hS, hC, hN, hl, q, q2, m_X11_end]
    · unfold m_X12_end
      simp (disch := omega) [gI, gR, pI, pR, aI, sI, aL, sL, aO, aR, sR, aN, onul, bnd, isC, cpI, cpL, sLen, sCh, nwC, zK_wI, zR_wI, zL_wI, zN_wI, zI_wI, zK_wL, zR_wL, zI_wL, zN_wL, zL_wL, zK_wR, zI_wR, zL_wR, zN_wR, zR_wR, ups_eq, inb_nI, nI_clamp, wI_wI, nI_add, pk_mul, add_c, c_add, c_mul, lt_c, le_c, eq_c, gt_c, ge_c, inb_c, clamp_c, ladd, mk_92, mk_93, mk_94, mk_95, mk_96, mk_97, mk_98, mk_99, mk_100, mk_101, mk_102, mk_103, mk_104, mk_105, mk_106, mk_107, mk_108, mk_109, mk_110, mk_111, mk_112, mk_113, mk_114, mr_92_1, mr_92_2, mr_92_3, mr_92_4, mr_92_5, mr_92_7, mr_92_15, mr_92_16, mr_92_17, mr_92_24, mr_92_25, mr_92_26, mr_92_27, mr_92_28, mr_92_29, mr_92_30, mr_92_32, mr_92_33, mr_92_36, mr_92_37, mr_92_38, mr_92_39, ck_0, ck_65, ck_66, ck_67, ck_68, ck_69, ck_70, ck_71, ck_72, ck_73, ck_74, ck_75, ck_76, ck_77, ck_78, ck_79, ck_80, ck_81, ck_82, ck_83, ck_84, ck_85, ck_86, ck_87, ck_88, ck_89, ck_90, ck_91, cr_0_2, cr_0_3, cr_0_4, cr_0_5, cr_0_6, cr_0_7, cr_0_8, cr_66_0, cr_68_0, cr_68_1, cr_70_0, cr_70_1, cr_70_2, cr_74_0, cr_74_1, cr_74_2, cr_74_7, cr_74_8, cr_74_9, cr_83_0, cr_83_1, cr_83_2, cr_84_0, cr_84_1, cr_84_2, cr_84_3, sk_0, sk_1, sk_2, sk_3, sk_4, sk_5, sk_6, sk_7, sk_8, sk_9, sk_10, sk_11, sk_12, sk_13, sk_14, sk_15, sk_16, sk_17, sk_18, sk_19, sk_20, sk_21, sk_22, sk_23, sk_24, sk_25, sk_26, sk_27, sk_28, sk_29, sk_30, sk_31, sr_0_0, sr_0_1, sr_0_2, sr_0_3, sr_0_4, sr_0_5, sr_0_6, sr_0_7, sr_0_8, sr_0_9, sr_1_0, sr_1_1, sr_1_2, sr_1_3, sr_1_4, sr_1_5, sr_8_0, sr_8_1, sr_8_2, sr_8_3, sr_8_4, sr_8_5, sr_15_0, sr_15_1, sr_15_2, sr_19_0, sr_19_1, sr_19_2, sr_19_3, sr_24_0, sr_24_1, rs_lead hR, rs_ilead hR, rs_latent hR, rs_mark hR, rs_ground hR, rs_far hR, rs_pn hR, rs_p0 hR, rs_p1 hR, rs_p2 hR, rs_p3 hR, rs_p4 hR, rs_p5 hR, rs_hn hR, rs_h0 hR, rs_h1 hR, rs_h2 hR, rs_rn hR, rs_rc hR, rs_gc hR, rs_warm hR, rs_ice hR, rs_dug hR, rs_shaft hR, rs_sums hR, rs_sc hR, rs_dc hR, rs_cold hR, rs_lines hR, rs_ticks hR, rs_fl hR, rs_fls hR, hM, hS, hC, hN, e1]
/-- the State at s and the world change, and what counts for nothing -/
theorem In.re3 {z y : Hp} {s d : Nat} (h : In z s d) (hk : zK y = zK z) (hr : zR y = zR z) (hn : zN y = zN z) (hl : zL y = zL z)
    (e : ∀ a, a = 0 ∨ a = 67 ∨ (89 ≤ a ∧ a ≤ 91) ∨ (95 ≤ a ∧ a ≤ 97) ∨ (110 ≤ a ∧ a ≤ 112) ∨ 115 ≤ a → zI y a = zI z a) (e1 : zI y 66 1 = zI z 66 1) (e2 : ∀ k, k = 6 ∨ k = 13 ∨ k = 14 ∨ k = 34 ∨ k = 35 → zI y 92 k = zI z 92 k)
    (hR : RelS y s (zI y 93)) (hO : OkW (zI y 93) 12) (ht : isN (zI y 93 1) 2001) : In y s d := by
  refine In.re h hk hr hn hR hO ht ?_ ?_ ?_ ?_
  · exact fun k q => (in_im h k q).of hk hr hn (fun a ha => e a (by omega)) (e 95 (by omega)) (e 96 (by omega))
  · exact (in_Tp h).of (e2 6 (by omega)) e1 (e 67 (by omega)) (e 97 (by omega))
  · exact (in_Fd h).of (e 0 (by omega)) (e2 13 (by omega)) (e2 14 (by omega)) (e2 34 (by omega)) (e2 35 (by omega)) (e 91 (by omega)) (e 110 (by omega))
  · exact (in_Sl h).of (e 111 (by omega)) (e 90 (by omega)) (e 112 (by omega)) (e 89 (by omega)) hl
