/-! ===== keep, back ===== -/
theorem RelS.cw {z : Hp} {s q : Nat} {W V : Nat → Int32} (hR : RelS z s W) (hO : OkW W q) (e : ∀ i, i < 810 → V i = W i) : RelS z s V :=
  have hz : ∀ a, s ≤ a → a < s + 32 → a ≠ s + 99 → zI z a = zI z a := fun _ _ _ _ => rfl
  have hf : ∀ k, k ≠ 99 → zI z s k = zI z s k := fun _ _ => rfl
  ⟨rs_lead_of (rs_lead hR) (hz (s + 2) (by omega) (by omega) (by omega)) (fun i hi => e i (by omega)),
    rs_ilead_of (rs_ilead hR) (hz (s + 3) (by omega) (by omega) (by omega)) (fun i hi => e i (by omega)),
    rs_latent_of (rs_latent hR) (hz (s + 4) (by omega) (by omega) (by omega)) (fun i hi => e i (by omega)),
    rs_mark_of (rs_mark hR) (hz (s + 5) (by omega) (by omega) (by omega)) (fun i hi => e i (by omega)),
    rs_ground_of (rs_ground hR) (hz (s + 6) (by omega) (by omega) (by omega)) (fun i hi => e i (by omega)),
    rs_speed_of (rs_speed hR) (hz (s + 7) (by omega) (by omega) (by omega)) (fun i hi => e i (by omega)),
    rs_far_of (rs_far hR) (congrFun (hz (s + 1) (by omega) (by omega) (by omega)) 6) (fun i hi => e i (by omega)),
    rs_pn_of (rs_pn hR) (congrFun (hz (s + 8) (by omega) (by omega) (by omega)) 6) (fun i hi => e i (by omega)),
    rs_p0_of (rs_p0 hR) (hz (s + 9) (by omega) (by omega) (by omega)) (np_le hO) (fun i hi => e i (by omega)),
    rs_p1_of (rs_p1 hR) (hz (s + 10) (by omega) (by omega) (by omega)) (np_le hO) (fun i hi => e i (by omega)),
    rs_p2_of (rs_p2 hR) (hz (s + 11) (by omega) (by omega) (by omega)) (np_le hO) (fun i hi => e i (by omega)),
    rs_p3_of (rs_p3 hR) (hz (s + 12) (by omega) (by omega) (by omega)) (np_le hO) (fun i hi => e i (by omega)),
    rs_p4_of (rs_p4 hR) (hz (s + 13) (by omega) (by omega) (by omega)) (np_le hO) (fun i hi => e i (by omega)),
    rs_p5_of (rs_p5 hR) (hz (s + 14) (by omega) (by omega) (by omega)) (np_le hO) (fun i hi => e i (by omega)),
    rs_hn_of (rs_hn hR) (congrFun (hz (s + 15) (by omega) (by omega) (by omega)) 3) (fun i hi => e i (by omega)),
    rs_h0_of (rs_h0 hR) (hz (s + 16) (by omega) (by omega) (by omega)) (nh_le hO) (fun i hi => e i (by omega)),
    rs_h1_of (rs_h1 hR) (hz (s + 17) (by omega) (by omega) (by omega)) (nh_le hO) (fun i hi => e i (by omega)),
    rs_h2_of (rs_h2 hR) (hz (s + 18) (by omega) (by omega) (by omega)) (nh_le hO) (fun i hi => e i (by omega)),
    rs_rn_of (rs_rn hR) (congrFun (hz (s + 19) (by omega) (by omega) (by omega)) 4) (fun i hi => e i (by omega)),
    rs_rc_of (rs_rc hR) (hz (s + 20) (by omega) (by omega) (by omega)) (nr_lt hO) (fun i hi => e i (by omega)),
    rs_rw_of (rs_rw hR) (hz (s + 21) (by omega) (by omega) (by omega)) (nr_lt hO) (nc_lt hO) (fun i hi => e i (by omega)),
    rs_rs_of (rs_rs hR) (hz (s + 22) (by omega) (by omega) (by omega)) (hz (s + 23) (by omega) (by omega) (by omega)) (nr_lt hO) (nc_lt hO) (fun i hi => e i (by omega)),
    rs_gc_of (rs_gc hR) (hz (s + 25) (by omega) (by omega) (by omega)) (fun i hi => e i (by omega)),
    rs_gr_of (rs_gr hR) (hz (s + 26) (by omega) (by omega) (by omega)) (fun i hi => e i (by omega)),
    rs_warm_of (rs_warm hR) (hz (s + 27) (by omega) (by omega) (by omega)) (fun i hi => e i (by omega)),
    rs_ice_of (rs_ice hR) (hz (s + 28) (by omega) (by omega) (by omega)) (fun i hi => e i (by omega)),
    rs_dug_of (rs_dug hR) (hz (s + 29) (by omega) (by omega) (by omega)) (fun i hi => e i (by omega)),
    rs_shaft_of (rs_shaft hR) (hz (s + 30) (by omega) (by omega) (by omega)) (fun i hi => e i (by omega)),
    rs_sums_of (rs_sums hR) (hz (s + 31) (by omega) (by omega) (by omega)) (fun i hi => e i (by omega)),
    rs_sc_of (rs_sc hR) (hf 10 (by omega)) (fun i hi => e i (by omega)),
    rs_dc_of (rs_dc hR) (hf 11 (by omega)) (fun i hi => e i (by omega)),
    rs_cold_of (rs_cold hR) (hf 12 (by omega)) (fun i hi => e i (by omega)),
    rs_lines_of (rs_lines hR) (hf 13 (by omega)) (fun i hi => e i (by omega)),
    rs_ticks_of (rs_ticks hR) (hf 14 (by omega)) (fun i hi => e i (by omega)),
    rs_fl_of (rs_fl hR) (hf 15 (by omega)) (fun i hi => e i (by omega)),
    rs_fls_of (rs_fls hR) (hf 16 (by omega)) (fun i hi => e i (by omega))⟩
theorem OkW.cw {q : Nat} {W V : Nat → Int32} (hO : OkW W q) (e : ∀ i, i < 810 → V i = W i) : OkW V q :=
  ⟨ok_kd_of (ok_kd hO)  (fun i hi => e i (by omega)),
    ok_gl_of (ok_gl hO)  (fun i hi => e i (by omega)),
    ok_lat_of (ok_lat hO)  (fun i hi => e i (by omega)),
    ok_mark_of (ok_mark hO)  (fun i hi => e i (by omega)),
    ok_sp_of (ok_sp hO)  (fun i hi => e i (by omega)),
    ok_far_of (ok_far hO)  (fun i hi => e i (by omega)),
    ok_warm_of (ok_warm hO)  (fun i hi => e i (by omega)),
    ok_ice_of (ok_ice hO) (fun c hc => kd_lt hO hc) (fun i hi => e i (by omega)),
    ok_dug_of (ok_dug hO)  (fun i hi => e i (by omega)),
    ok_dsh_of (ok_dsh hO)  (fun i hi => e i (by omega)),
    ok_pn_of (ok_pn hO)  (fun i hi => e i (by omega)),
    ok_pc_of (ok_pc hO) (np_le hO) (fun i hi => e i (by omega)),
    ok_pd_of (ok_pd hO) (np_le hO) (fun i hi => e i (by omega)),
    ok_pa_of (ok_pa hO) (np_le hO) (fun i hi => e i (by omega)),
    ok_pl_of (ok_pl hO) (np_le hO) (fun i hi => e i (by omega)),
    ok_pr_of (ok_pr hO) (np_le hO) (fun i hi => e i (by omega)),
    ok_hn_of (ok_hn hO)  (fun i hi => e i (by omega)),
    ok_hc_of (ok_hc hO) (nh_le hO) (fun i hi => e i (by omega)),
    ok_rn_of (ok_rn hO)  (fun i hi => e i (by omega)),
    ok_rc_of (ok_rc hO) (nr_lt hO) (fun i hi => e i (by omega)),
    ok_rw_of (ok_rw hO) (nr_lt hO) (nc_lt hO) (fun i hi => e i (by omega)),
    ok_gc_of (ok_gc hO)  (fun i hi => e i (by omega)),
    ok_sh_of (ok_sh hO)  (fun i hi => e i (by omega)),
    ok_cold_of (ok_cold hO)  (fun i hi => e i (by omega)),
    ok_fl_of (ok_fl hO)  (fun i hi => e i (by omega))⟩
theorem LayS.fr3 {z y : Hp} {s : Nat} (h : LayS z s) (e : ∀ a, s ≤ a → a < s + 32 → zK y a = zK z a ∧ zR y a = zR z a) : LayS y s := by
  refine ⟨fun j q hj => ?_, fun q hq => ?_⟩
  · have b : j < 32 := by
      have := (List.getElem?_eq_some_iff.mp hj).1
      exact this
    rw [(e (s + j) (by omega) (by omega)).1]
    exact h.1 j q hj
  · have b : ∀ q ∈ srT, q.1 < 32 := by decide
    have := b q hq
    rw [(e (s + q.1) (by omega) (by omega)).2]
    exact h.2 q hq
theorem LayC.fr3 {z y : Hp} (h : LayC z) (e : ∀ a, a ≤ 91 → zK y a = zK z a) (e2 : ∀ a, a ≤ 91 → a ≠ 65 → zR y a = zR z a) : LayC y := by
  refine ⟨fun q hq => ?_, fun q hq => ?_⟩
  · have b : ∀ q ∈ aKT, q.1 ≤ 91 := by decide
    rw [e q.1 (b q hq)]
    exact h.1 q hq
  · have b : ∀ q ∈ aRT, q.1 ≤ 91 ∧ q.1 ≠ 65 := by decide
    rw [e2 q.1 (b q hq).1 (b q hq).2]
    exact h.2 q hq
theorem LayM.fr3 {z y : Hp} (h : LayM z) (e : ∀ a, 92 ≤ a → a < 115 → zK y a = zK z a ∧ zR y a = zR z a) : LayM y := by
  refine ⟨fun q hq => ?_, fun q hq => ?_⟩
  · have b : ∀ q ∈ mKT, 92 ≤ q.1 ∧ q.1 < 115 := by decide
    rw [(e q.1 (b q hq).1 (b q hq).2).1]
    exact h.1 q hq
  · have b : ∀ q ∈ mRT, 92 ≤ q.1 ∧ q.1 < 115 := by decide
    rw [(e q.1 (b q hq).1 (b q hq).2).2]
    exact h.2 q hq
theorem keep_in {z y : Hp} {s d k t : Nat} (h : In z s d) (hk : k < 3) (hN : zN z ≤ zN y)
    (e : ∀ a, ¬ (t ≤ a ∧ a < t + 32) → a ≠ 65 → a ≠ 95 → a ≠ 96 → a < zN z → zK y a = zK z a ∧ zI y a = zI z a ∧ zL y a = zL z a ∧ zR y a = zR z a)
    (e65 : zK y 65 = zK z 65 ∧ zR y 65 = ups (zR z 65) k (some t)) (e95 : zK y 95 = zK z 95 ∧ zR y 95 = zR z 95 ∧ zI y 95 = fun i => if 810 * k ≤ i ∧ i < 810 * k + 810 then zI z 93 (i - 810 * k) else zI z 95 i)
    (e96 : zK y 96 = zK z 96 ∧ zR y 96 = zR z 96 ∧ zI y 96 = ups (zI z 96) k 1) (ht : 115 ≤ t) (htN : t + 32 ≤ zN y) (hL : LayS y t) (hRt : RelS y t (zI z 93)) (hd : ∀ j u, j < 3 → j ≠ k → zR z 65 j = some u → t + 32 ≤ u ∨ u + 32 ≤ t) : In y s d := by
  have hs := in_lo h
  have hN0 := in_N h
  have f : ∀ a, a < 115 → a ≠ 65 → a ≠ 95 → a ≠ 96 → zK y a = zK z a ∧ zI y a = zI z a ∧ zL y a = zL z a ∧ zR y a = zR z a := fun a h1 h2 h3 h4 => e a (by omega) h2 h3 h4 (by omega)
  have i93 : zI y 93 = zI z 93 := (f 93 (by omega) (by omega) (by omega) (by omega)).2.1
  have i92 : zI y 92 = zI z 92 := (f 92 (by omega) (by omega) (by omega) (by omega)).2.1
  have hO := in_ok h
  refine ⟨in_sd h, by rw [(f 0 (by omega) (by omega) (by omega) (by omega)).2.2.2]; exact in_now h, by rw [(f 0 (by omega) (by omega) (by omega) (by omega)).2.2.2]; exact in_draft h, ?_, ?_, ?_, ?_, ?_, ?_, ?_, ?_, ?_, ?_, ?_, ?_, ?_, ?_, ?_, ?_, ?_, ?_, ?_, ?_, ?_, ?_, ?_, ?_, ?_, ?_⟩
  · refine (in_C h).fr3 (fun a ha => ?_) (fun a ha h2 => (f a (by omega) h2 (by omega) (by omega)).2.2.2)
    by_cases c : a = 65
    · rw [c]; exact e65.1
    · exact (f a (by omega) c (by omega) (by omega)).1
  · refine (in_M h).fr3 (fun a h1 h2 => ?_)
    by_cases c : a = 95
    · rw [c]; exact ⟨e95.1, e95.2.1⟩
    · by_cases c2 : a = 96
      · rw [c2]; exact ⟨e96.1, e96.2.1⟩
      · exact ⟨(f a h2 (by omega) c c2).1, (f a h2 (by omega) c c2).2.2.2⟩
  · exact (in_S h).fr3 (fun a h1 h2 => ⟨(f a (by omega) (by omega) (by omega) (by omega)).1, (f a (by omega) (by omega) (by omega) (by omega)).2.2.2⟩)
  · exact (in_D h).fr3 (fun a h1 h2 => ⟨(f a (by omega) (by omega) (by omega) (by omega)).1, (f a (by omega) (by omega) (by omega) (by omega)).2.2.2⟩)
  · rw [(f 74 (by omega) (by omega) (by omega) (by omega)).2.2.2]; exact in_wq h
  · rw [(f 68 (by omega) (by omega) (by omega) (by omega)).2.2.2]; exact in_ps h
  · rw [i93]; exact (in_R h).of (fun a h1 h2 => (f a (by omega) (by omega) (by omega) (by omega)).2.1)
  · rw [i93]; exact hO
  · rw [i93]; exact in_tk h
  · intro j hj
    unfold ImR
    rw [e65.2, e96.2.2, e95.2.2]
    by_cases c : j = k
    · subst c
      right
      refine ⟨up_eq, t, up_eq, ht, htN, hL, ?_, ?_, ?_⟩
      · refine hRt.cw hO (fun i hi => ?_)
        dsimp only
        rw [if_pos (by omega), show 810 * j + i - 810 * j = i by omega]
      · refine hO.cw (fun i hi => ?_)
        dsimp only
        rw [if_pos (by omega), show 810 * j + i - 810 * j = i by omega]
      · dsimp only
        rw [if_pos (by omega), show 810 * j + 1 - 810 * j = 1 by omega]
        exact in_tk h
    · rw [up_ne c, up_ne c]
      rcases in_im h j hj with q | ⟨q1, u, q2, q3, q4, q5, q6, q7, q8⟩
      · exact Or.inl q
      · have dj := hd j u hj c q2
        have g : ∀ a, u ≤ a → a < u + 32 → zK y a = zK z a ∧ zI y a = zI z a ∧ zL y a = zL z a ∧ zR y a = zR z a := fun a h1 h2 => e a (by omega) (by omega) (by omega) (by omega) (by omega)
        have kk : ∀ i, i < 810 → (if 810 * k ≤ 810 * j + i ∧ 810 * j + i < 810 * k + 810 then zI z 93 (810 * j + i - 810 * k) else zI z 95 (810 * j + i)) = zI z 95 (810 * j + i) := fun i hi => by
          rw [if_neg (by omega)]
        refine Or.inr ⟨q1, u, q2, q3, by omega, q5.fr3 (fun a h1 h2 => ⟨(g a h1 h2).1, (g a h1 h2).2.2.2⟩), ?_, q7.cw kk, ?_⟩
        · exact (q6.of (fun a h1 h2 => (g a h1 h2).2.1)).cw q7 kk
        · dsimp only
          rw [kk 1 (by omega)]
          exact q8
  · intro j l hjl hl t1 t2 g1 g2
    rw [e65.2] at g1 g2
    by_cases c1 : j = k
    · rw [c1, up_eq] at g1
      rw [up_ne (by omega)] at g2
      cases g1
      exact hd l t2 hl (by omega) g2
    · rw [up_ne c1] at g1
      by_cases c2 : l = k
      · rw [c2, up_eq] at g2
        cases g2
        have := hd j t1 (by omega) c1 g1
        omega
      · rw [up_ne c2] at g2
        exact in_imd h j l hjl hl t1 t2 g1 g2
  · rw [i92]; exact in_tn h
  · rw [i92, (f 66 (by omega) (by omega) (by omega) (by omega)).2.1]; exact in_tl h
  · rw [i92, (f 67 (by omega) (by omega) (by omega) (by omega)).2.1, (f 97 (by omega) (by omega) (by omega) (by omega)).2.1]; exact in_tb h
  · rw [i92, (f 0 (by omega) (by omega) (by omega) (by omega)).2.1]; exact in_fk h
  · rw [i92, (f 0 (by omega) (by omega) (by omega) (by omega)).2.1]; exact in_fp h
  · rw [i92, (f 0 (by omega) (by omega) (by omega) (by omega)).2.1]; exact in_gn h
  · rw [i92]; exact in_gN h
  · rw [i92, (f 91 (by omega) (by omega) (by omega) (by omega)).2.1, (f 110 (by omega) (by omega) (by omega) (by omega)).2.1]; exact in_gg h
  · rw [i92, (f 0 (by omega) (by omega) (by omega) (by omega)).2.1]; exact in_ch h
  · rw [(f 111 (by omega) (by omega) (by omega) (by omega)).2.1]; exact in_sn h
  · rw [(f 111 (by omega) (by omega) (by omega) (by omega)).2.1, (f 90 (by omega) (by omega) (by omega) (by omega)).2.1]; exact in_sl h
  · rw [(f 112 (by omega) (by omega) (by omega) (by omega)).2.1]; exact in_sw h
  · rw [(f 111 (by omega) (by omega) (by omega) (by omega)).2.1, (f 112 (by omega) (by omega) (by omega) (by omega)).2.1, (f 89 (by omega) (by omega) (by omega) (by omega)).2.1]; exact in_sv h
  · intro j i hj hi
    rw [(f (85 + j) (by omega) (by omega) (by omega) (by omega)).2.2.1, (f 113 (by omega) (by omega) (by omega) (by omega)).2.2.1]
    exact in_nu h j i hj hi
  · omega
theorem keepM_ok {z : Hp} {k : Nat} (hM : LayM z) (hk : k < 3) : m_X12_keep_L17 m_X12_keep_B48 FU 92 (nI k) 0 z = some (0, wI (wI z 95 (fun i => if 810 * k ≤ i ∧ i < 810 * k + 810 then zI z 93 (i - 810 * k) else zI z 95 i)) 96 (ups (zI z 96) k 1)) := by
  refine loopQ (X := Int32 × Hp) (fun f x => m_X12_keep_L17 m_X12_keep_B48 f 92 (nI k) x.1 x.2) (fun t => t = some (0, wI (wI z 95 (fun i => if 810 * k ≤ i ∧ i < 810 * k + 810 then zI z 93 (i - 810 * k) else zI z 95 i)) 96 (ups (zI z 96) k 1))) (fun n x => x.1 = nI n ∧ x.2 = wI z 95 (fun i => if 810 * k ≤ i ∧ i < 810 * k + n then zI z 93 (i - 810 * k) else zI z 95 i)) 810 ?hs ?he 0 FU (0, z) (by decide) (by decide) ⟨rfl, ?h0⟩
  case h0 =>
    refine (wI_self z 95).symm.trans (congrArg (wI z 95) (funext fun i => ?_))
    rw [if_neg (by omega)]
  case hs =>
    rintro n f ⟨v, y⟩ hn ⟨h1, h2⟩
    dsimp only at h1 h2
    subst h1 h2
    refine Or.inl ⟨(nI (n + 1), wI z 95 (fun i => if 810 * k ≤ i ∧ i < 810 * k + (n + 1) then zI z 93 (i - 810 * k) else zI z 95 i)), ⟨rfl, rfl⟩, ?_⟩
    dsimp only
    rw [m_X12_keep_L17]
    simp (disch := omega) [gI, gR, pI, pR, aI, sI, aL, sL, aO, aR, sR, aN, onul, bnd, isC, cpI, cpL, sLen, sCh, nwC, zK_wI, zR_wI, zL_wI, zN_wI, zI_wI, zK_wL, zR_wL, zI_wL, zN_wL, zL_wL, zK_wR, zI_wR, zL_wR, zN_wR, zR_wR, ups_eq, inb_nI, nI_clamp, wI_wI, nI_add, pk_mul, add_c, c_add, c_mul, lt_c, le_c, eq_c, gt_c, ge_c, inb_c, clamp_c, ladd, mk_92, mk_93, mk_94, mk_95, mk_96, mk_97, mk_98, mk_99, mk_100, mk_101, mk_102, mk_103, mk_104, mk_105, mk_106, mk_107, mk_108, mk_109, mk_110, mk_111, mk_112, mk_113, mk_114, mr_92_1, mr_92_2, mr_92_3, mr_92_4, mr_92_5, mr_92_7, mr_92_15, mr_92_16, mr_92_17, mr_92_24, mr_92_25, mr_92_26, mr_92_27, mr_92_28, mr_92_29, mr_92_30, mr_92_32, mr_92_33, mr_92_36, mr_92_37, mr_92_38, mr_92_39, hM, hn]
    refine congrArg (fun q => m_X12_keep_L17 m_X12_keep_B48 f 92 (nI k) (nI (n + 1)) (wI z 95 q)) (funext fun i => ?_)
    simp only [ups_eq]
    by_cases c : i = 810 * k + n
    · rw [if_pos c, if_pos (by omega), show i - 810 * k = n by omega]
    · rw [if_neg c]
      by_cases c2 : 810 * k ≤ i ∧ i < 810 * k + n
      · rw [if_pos c2, if_pos (by omega)]
      · rw [if_neg c2, if_neg (by omega)]
  case he =>
    rintro f ⟨v, y⟩ ⟨h1, h2⟩
    dsimp only at h1 h2 ⊢
    subst h1 h2
    rw [m_X12_keep_L17]
    simp (disch := omega) [gI, gR, pI, pR, aI, sI, aL, sL, aO, aR, sR, aN, onul, bnd, isC, cpI, cpL, sLen, sCh, nwC, zK_wI, zR_wI, zL_wI, zN_wI, zI_wI, zK_wL, zR_wL, zI_wL, zN_wL, zL_wL, zK_wR, zI_wR, zL_wR, zN_wR, zR_wR, ups_eq, inb_nI, nI_clamp, wI_wI, nI_add, pk_mul, add_c, c_add, c_mul, lt_c, le_c, eq_c, gt_c, ge_c, inb_c, clamp_c, ladd, mk_92, mk_93, mk_94, mk_95, mk_96, mk_97, mk_98, mk_99, mk_100, mk_101, mk_102, mk_103, mk_104, mk_105, mk_106, mk_107, mk_108, mk_109, mk_110, mk_111, mk_112, mk_113, mk_114, mr_92_1, mr_92_2, mr_92_3, mr_92_4, mr_92_5, mr_92_7, mr_92_15, mr_92_16, mr_92_17, mr_92_24, mr_92_25, mr_92_26, mr_92_27, mr_92_28, mr_92_29, mr_92_30, mr_92_32, mr_92_33, mr_92_36, mr_92_37, mr_92_38, mr_92_39, hM, m_X12_keep_B48, show vp_nar .boolean 1 = 1 by decide]
theorem lt3 (x : Int32) : x < 3 ↔ x ≤ 2 := lt_sI (n := 2) (by decide) x
theorem op_keep (v : Int32) : Op (m_X11_keep 0 v) (m_X12_keep 92 v) := by
  intro z s d h
  have hS := in_S h; have hR := in_R h; have hO := in_ok h; have hM := in_M h; have hC := in_C h; have hN := in_now h
  have hs := in_lo h
  have hN0 := in_N h
  unfold m_X11_keep m_X12_keep
  simp only [in_lit _ 0 2 (show (0 : Nat) < 2 ^ 31 by decide) (by decide), bnd_some, lt3]
  by_cases hp : 0 ≤ v ∧ v ≤ 2
  · obtain ⟨k, rfl, hk⟩ := rng 2 (by decide) hp
    rw [if_neg (Int32.not_lt.mpr hp.1), if_pos hp.2]
    have dj : ∀ j u t, j < 3 → j ≠ k → zR z 65 j = some u → zR z 65 k = some t → t + 32 ≤ u ∨ u + 32 ≤ t := by
      intro j u t hj hjk e1 e2
      by_cases c : j < k
      · have := in_imd h j k c (by omega) u t e1 e2; omega
      · have := in_imd h k j (by omega) hj t u e2 e1; omega
    rcases in_im h k (by omega) with ⟨q1, q2⟩ | ⟨q1, t, q2, q3, q4, q5, q6, q7, q8⟩
    · -- a new State
      obtain ⟨x1, hx1⟩ : ∃ x, x = zNew z 15 0 := ⟨_, rfl⟩
      have n1 : zN x1 = zN z + 1 := by rw [hx1]; rfl
      have k1 : zK x1 (zN z) = (15, 0) := by rw [hx1]; exact up_eq
      have F1 : Fr (fun a => zN z ≤ a ∧ a < zN z + 32) z x1 := by rw [hx1]; exact Fr.new (by omega)
      obtain ⟨x2, g2, n2, F2, L2⟩ := init_X8 n1 k1
      obtain ⟨x3, hx3⟩ : ∃ x, x = wR x2 65 (ups (zR x2 65) k (some (zN z))) := ⟨_, rfl⟩
      have F12 := F1.trans F2
      have f12 : ∀ a, a < zN z → zK x2 a = zK z a ∧ zI x2 a = zI z a ∧ zL x2 a = zL z a ∧ zR x2 a = zR z a := fun a ha => F12 a (by omega)
      have K3 : zK x3 = zK x2 := by rw [hx3]; rfl
      have I3 : zI x3 = zI x2 := by rw [hx3]; rfl
      have R3 : ∀ a, a ≠ 65 → zR x3 a = zR x2 a := fun a ha => by rw [hx3, zR_wR, if_neg ha]
      have S3 : LayS x3 s := hS.fr3 (fun a h1 h2 => ⟨by rw [K3]; exact (f12 a (by omega)).1, by rw [R3 a (by omega)]; exact (f12 a (by omega)).2.2.2⟩)
      have T3 : LayS x3 (zN z) := L2.fr3 (fun a h1 h2 => ⟨by rw [K3], R3 a (by omega)⟩)
      have C3 : LayC x3 := hC.fr3 (fun a ha => by rw [K3]; exact (f12 a (by omega)).1) (fun a ha hb => by rw [R3 a hb]; exact (f12 a (by omega)).2.2.2)
      have M3 : LayM x3 := hM.fr3 (fun a h1 h2 => ⟨by rw [K3]; exact (f12 a (by omega)).1, by rw [R3 a (by omega)]; exact (f12 a (by omega)).2.2.2⟩)
      have R65 : zR x3 65 = ups (zR z 65) k (some (zN z)) := by rw [hx3, zR_wR, if_pos rfl, (f12 65 (by omega)).2.2.2]
      obtain ⟨y, g4, F4, c4⟩ := copyFrom_ok S3 T3 (by omega)
      have N3 : zR x3 0 0 = some s := by rw [R3 0 (by omega), (f12 0 (by omega)).2.2.2]; exact hN
      have RS3 : RelS x3 s (zI z 93) := hR.of (fun a h1 h2 => by rw [I3]; exact (f12 a (by omega)).2.1)
      have hMy : LayM y := M3.fi F4
      have gM := keepM_ok (z := y) hMy (k := k) (by omega)
      have y93 : zI y 93 = zI z 93 := by rw [F4.2.2.2.2 93 (by omega), I3]; exact (f12 93 (by omega)).2.1
      have y95 : zI y 95 = zI z 95 := by rw [F4.2.2.2.2 95 (by omega), I3]; exact (f12 95 (by omega)).2.1
      have y96 : zI y 96 = zI z 96 := by rw [F4.2.2.2.2 96 (by omega), I3]; exact (f12 96 (by omega)).2.1
      obtain ⟨w, hw⟩ : ∃ w, w = wI (wI y 95 (fun i => if 810 * k ≤ i ∧ i < 810 * k + 810 then zI z 93 (i - 810 * k) else zI z 95 i)) 96 (ups (zI z 96) k 1) := ⟨_, rfl⟩
      rw [y93, y95, y96, ← hw] at gM
      refine ⟨0, y, w, s, d, ?_, by rw [mk_92 hMy], ?_, ?_⟩
      · rw [gR_eq (by rw [ck_0 hC]) (cr_0_2 hC), aO_n (ck_65 hC) (by omega) (by decide), q2]
        show gR 11 2 z 0 _ = _
        rw [gR_eq (by rw [ck_0 hC]) (cr_0_2 hC), nwC_eq, ← hx1, g2, bnd_some]
        have w1 : zK x2 65 = (5, 3) := by rw [(f12 65 (by omega)).1]; exact ck_65 hC
        have w2 : (zK x2 (zN z)).1 = 8 + 7 := by rw [sk_0 L2]
        unfold sR
        rw [w1, if_pos ⟨⟨rfl, inb_nI (by omega) (by decide)⟩, w2⟩, nI_clamp (by omega), ← hx3]
        show m_X11_keep_B34 0 (nI k) x3 = _
        unfold m_X11_keep_B34
        rw [gR_eq (by rw [ck_0 C3]) (cr_0_2 C3), aR_n (ck_65 C3) (by omega) (by decide) (by rw [R65, up_eq]), gR_eq (by rw [ck_0 C3]) N3, isC_eq (by rw [sk_0 T3]), g4, bnd_some]
      · rw [if_pos hp]
        simp only [show ((1 : Int32) = 0) = False by simp, if_false]
        exact gM
      · have Kw : zK w = zK x2 := by rw [hw, zK_wI, zK_wI, F4.2.1, K3]
        have Rw : zR w = zR x3 := by rw [hw, zR_wI, zR_wI, F4.2.2.2.1]
        have Lw : zL w = zL x2 := by rw [hw, zL_wI, zL_wI, F4.2.2.1, hx3, zL_wR]
        have Nw : zN w = zN z + 32 := by rw [hw, zN_wI, zN_wI, F4.1, hx3, zN_wR, n2]
        have Iw : ∀ a, a ≠ 95 → a ≠ 96 → zI w a = zI y a := fun a h1 h2 => by rw [hw, zI_ne h2, zI_ne h1]
        refine keep_in (t := zN z) h (k := k) (by omega) (by omega) (fun a h1 h2 h3 h4 h5 => ⟨by rw [Kw]; exact (f12 a h5).1, by rw [Iw a h3 h4, F4.2.2.2.2 a h1, I3]; exact (f12 a h5).2.1, by rw [Lw]; exact (f12 a h5).2.2.1, by rw [Rw, R3 a h2]; exact (f12 a h5).2.2.2⟩) ⟨by rw [Kw]; exact (f12 65 (by omega)).1, by rw [Rw]; exact R65⟩ ⟨by rw [Kw]; exact (f12 95 (by omega)).1, by rw [Rw, R3 95 (by omega)]; exact (f12 95 (by omega)).2.2.2, by rw [hw, zI_ne (by decide), zI_eq]⟩ ⟨by rw [Kw]; exact (f12 96 (by omega)).1, by rw [Rw, R3 96 (by omega)]; exact (f12 96 (by omega)).2.2.2, by rw [hw, zI_eq]⟩ (by omega) (by omega) (T3.of (by rw [Kw, K3]) Rw) ((RS3.cp hO c4).of (fun a h1 h2 => Iw a (by omega) (by omega))) ?_
        intro j u hj hjk e1
        rcases in_im h j hj with ⟨_, r2⟩ | ⟨_, t', r2, r3, r4, _⟩
        · rw [r2] at e1; cases e1
        · rw [r2] at e1; cases e1; omega
    · -- the State that is there
      obtain ⟨y, g4, F4, c4⟩ := copyFrom_ok hS q5 (by omega)
      have hMy : LayM y := hM.fi F4
      have gM := keepM_ok (z := y) hMy (k := k) (by omega)
      have y93 : zI y 93 = zI z 93 := F4.2.2.2.2 93 (by omega)
      have y95 : zI y 95 = zI z 95 := F4.2.2.2.2 95 (by omega)
      have y96 : zI y 96 = zI z 96 := F4.2.2.2.2 96 (by omega)
      obtain ⟨w, hw⟩ : ∃ w, w = wI (wI y 95 (fun i => if 810 * k ≤ i ∧ i < 810 * k + 810 then zI z 93 (i - 810 * k) else zI z 95 i)) 96 (ups (zI z 96) k 1) := ⟨_, rfl⟩
      rw [y93, y95, y96, ← hw] at gM
      refine ⟨0, y, w, s, d, ?_, by rw [mk_92 hMy], ?_, ?_⟩
      · rw [gR_eq (by rw [ck_0 hC]) (cr_0_2 hC), aO_n (ck_65 hC) (by omega) (by decide), q2]
        show m_X11_keep_B34 0 (nI k) z = _
        unfold m_X11_keep_B34
        rw [gR_eq (by rw [ck_0 hC]) (cr_0_2 hC), aR_n (ck_65 hC) (by omega) (by decide) q2, gR_eq (by rw [ck_0 hC]) hN, isC_eq (by rw [sk_0 q5]), g4, bnd_some]
      · rw [if_pos hp]
        simp only [show ((1 : Int32) = 0) = False by simp, if_false]
        exact gM
      · have Kw : zK w = zK z := by rw [hw, zK_wI, zK_wI, F4.2.1]
        have Rw : zR w = zR z := by rw [hw, zR_wI, zR_wI, F4.2.2.2.1]
        have Lw : zL w = zL z := by rw [hw, zL_wI, zL_wI, F4.2.2.1]
        have Nw : zN w = zN z := by rw [hw, zN_wI, zN_wI, F4.1]
        have Iw : ∀ a, a ≠ 95 → a ≠ 96 → zI w a = zI y a := fun a h1 h2 => by rw [hw, zI_ne h2, zI_ne h1]
        have U : zR z 65 = ups (zR z 65) k (some t) := by
          funext j
          rw [ups_eq]
          split
          · rename_i c; rw [c]; exact q2
          · rfl
        exact keep_in (t := t) h (k := k) (by omega) (by omega) (fun a h1 h2 h3 h4 h5 => ⟨by rw [Kw], by rw [Iw a h3 h4, F4.2.2.2.2 a h1], by rw [Lw], by rw [Rw]⟩) ⟨by rw [Kw], by rw [Rw]; exact U⟩ ⟨by rw [Kw], by rw [Rw], by rw [hw, zI_ne (by decide), zI_eq]⟩ ⟨by rw [Kw], by rw [Rw], by rw [hw, zI_eq]⟩ q3 (by omega) (q5.of Kw Rw) ((hR.cp hO c4).of (fun a h1 h2 => Iw a (by omega) (by omega))) (fun j u hj hjk e1 => dj j u t hj hjk e1 q2)
  · refine ⟨-2, z, z, s, d, ?_, by rw [mk_92 hM], ?_, h⟩
    · by_cases q : v < 0
      · rw [if_pos q]
      · rw [if_neg q, if_neg (fun g => hp ⟨Int32.not_lt.mp q, g⟩)]
    · rw [if_neg hp]
      simp
theorem backM_ok {z : Hp} {k : Nat} (hM : LayM z) (hk : k < 3) : m_X12_back_L29 FU 92 (nI k) 0 z = some (0, wI z 93 (fun i => if i < 810 then zI z 95 (810 * k + i) else zI z 93 i)) := by
  refine loopQ (X := Int32 × Hp) (fun f x => m_X12_back_L29 f 92 (nI k) x.1 x.2) (fun t => t = some (0, wI z 93 (fun i => if i < 810 then zI z 95 (810 * k + i) else zI z 93 i))) (fun n x => x.1 = nI n ∧ x.2 = wI z 93 (fun i => if i < n then zI z 95 (810 * k + i) else zI z 93 i)) 810 ?hs ?he 0 FU (0, z) (by decide) (by decide) ⟨rfl, ?h0⟩
  case h0 => simp [wI_self]
  case hs =>
    rintro n f ⟨v, y⟩ hn ⟨h1, h2⟩
    dsimp only at h1 h2
    subst h1 h2
    refine Or.inl ⟨(nI (n + 1), wI z 93 (fun i => if i < n + 1 then zI z 95 (810 * k + i) else zI z 93 i)), ⟨rfl, rfl⟩, ?_⟩
    dsimp only
    rw [m_X12_back_L29]
    simp (disch := omega) [gI, gR, pI, pR, aI, sI, aL, sL, aO, aR, sR, aN, onul, bnd, isC, cpI, cpL, sLen, sCh, nwC, zK_wI, zR_wI, zL_wI, zN_wI, zI_wI, zK_wL, zR_wL, zI_wL, zN_wL, zL_wL, zK_wR, zI_wR, zL_wR, zN_wR, zR_wR, ups_eq, inb_nI, nI_clamp, wI_wI, nI_add, pk_mul, add_c, c_add, c_mul, lt_c, le_c, eq_c, gt_c, ge_c, inb_c, clamp_c, ladd, mk_92, mk_93, mk_94, mk_95, mk_96, mk_97, mk_98, mk_99, mk_100, mk_101, mk_102, mk_103, mk_104, mk_105, mk_106, mk_107, mk_108, mk_109, mk_110, mk_111, mk_112, mk_113, mk_114, mr_92_1, mr_92_2, mr_92_3, mr_92_4, mr_92_5, mr_92_7, mr_92_15, mr_92_16, mr_92_17, mr_92_24, mr_92_25, mr_92_26, mr_92_27, mr_92_28, mr_92_29, mr_92_30, mr_92_32, mr_92_33, mr_92_36, mr_92_37, mr_92_38, mr_92_39, hM, hn]
    refine congrArg (fun q => m_X12_back_L29 f 92 (nI k) (nI (n + 1)) (wI z 93 q)) (funext fun i => ?_)
    simp only [ups_eq]
    grind
  case he =>
    rintro f ⟨v, y⟩ ⟨h1, h2⟩
    dsimp only at h1 h2 ⊢
    subst h1 h2
    rw [m_X12_back_L29]
    simp (disch := omega) [gI, gR, pI, pR, aI, sI, aL, sL, aO, aR, sR, aN, onul, bnd, isC, cpI, cpL, sLen, sCh, nwC, zK_wI, zR_wI, zL_wI, zN_wI, zI_wI, zK_wL, zR_wL, zI_wL, zN_wL, zL_wL, zK_wR, zI_wR, zL_wR, zN_wR, zR_wR, ups_eq, inb_nI, nI_clamp, wI_wI, nI_add, pk_mul, add_c, c_add, c_mul, lt_c, le_c, eq_c, gt_c, ge_c, inb_c, clamp_c, ladd, mk_92, mk_93, mk_94, mk_95, mk_96, mk_97, mk_98, mk_99, mk_100, mk_101, mk_102, mk_103, mk_104, mk_105, mk_106, mk_107, mk_108, mk_109, mk_110, mk_111, mk_112, mk_113, mk_114, mr_92_1, mr_92_2, mr_92_3, mr_92_4, mr_92_5, mr_92_7, mr_92_15, mr_92_16, mr_92_17, mr_92_24, mr_92_25, mr_92_26, mr_92_27, mr_92_28, mr_92_29, mr_92_30, mr_92_32, mr_92_33, mr_92_36, mr_92_37, mr_92_38, mr_92_39, hM]
theorem op_back (v : Int32) : Op (m_X11_back 0 v) (m_X12_back 92 v) := by
  intro z s d h
  have hS := in_S h; have hR := in_R h; have hO := in_ok h; have hM := in_M h; have hC := in_C h; have hN := in_now h
  have hs := in_lo h
  have hN0 := in_N h
  unfold m_X11_back m_X12_back
  simp only [in_lit _ 0 2 (show (0 : Nat) < 2 ^ 31 by decide) (by decide), bnd_some, lt3]
  by_cases hp : 0 ≤ v ∧ v ≤ 2
  · obtain ⟨k, rfl, hk⟩ := rng 2 (by decide) hp
    rw [if_neg (Int32.not_lt.mpr hp.1), if_pos hp.2]
    simp only [if_pos hp, show ((1 : Int32) = 0) = False by simp, if_false]
    rcases in_im h k (by omega) with ⟨q1, q2⟩ | ⟨q1, t, q2, q3, q4, q5, q6, q7, q8⟩
    · refine ⟨-6, z, z, s, d, ?_, by rw [mk_92 hM], ?_, h⟩
      · rw [gR_eq (by rw [ck_0 hC]) (cr_0_2 hC), aO_n (ck_65 hC) (by omega) (by decide), q2]
        rfl
      · simp (disch := omega) [gI, gR, pI, pR, aI, sI, aL, sL, aO, aR, sR, aN, onul, bnd, isC, cpI, cpL, sLen, sCh, nwC, zK_wI, zR_wI, zL_wI, zN_wI, zI_wI, zK_wL, zR_wL, zI_wL, zN_wL, zL_wL, zK_wR, zI_wR, zL_wR, zN_wR, zR_wR, ups_eq, inb_nI, nI_clamp, wI_wI, nI_add, pk_mul, add_c, c_add, c_mul, lt_c, le_c, eq_c, gt_c, ge_c, inb_c, clamp_c, ladd, mk_92, mk_93, mk_94, mk_95, mk_96, mk_97, mk_98, mk_99, mk_100, mk_101, mk_102, mk_103, mk_104, mk_105, mk_106, mk_107, mk_108, mk_109, mk_110, mk_111, mk_112, mk_113, mk_114, mr_92_1, mr_92_2, mr_92_3, mr_92_4, mr_92_5, mr_92_7, mr_92_15, mr_92_16, mr_92_17, mr_92_24, mr_92_25, mr_92_26, mr_92_27, mr_92_28, mr_92_29, mr_92_30, mr_92_32, mr_92_33, mr_92_36, mr_92_37, mr_92_38, mr_92_39, ck_0, ck_65, ck_66, ck_67, ck_68, ck_69, ck_70, ck_71, ck_72, ck_73, ck_74, ck_75, ck_76, ck_77, ck_78, ck_79, ck_80, ck_81, ck_82, ck_83, ck_84, ck_85, ck_86, ck_87, ck_88, ck_89, ck_90, ck_91, cr_0_2, cr_0_3, cr_0_4, cr_0_5, cr_0_6, cr_0_7, cr_0_8, cr_66_0, cr_68_0, cr_68_1, cr_70_0, cr_70_1, cr_70_2, cr_74_0, cr_74_1, cr_74_2, cr_74_7, cr_74_8, cr_74_9, cr_83_0, cr_83_1, cr_83_2, cr_84_0, cr_84_1, cr_84_2, cr_84_3, sk_0, sk_1, sk_2, sk_3, sk_4, sk_5, sk_6, sk_7, sk_8, sk_9, sk_10, sk_11, sk_12, sk_13, sk_14, sk_15, sk_16, sk_17, sk_18, sk_19, sk_20, sk_21, sk_22, sk_23, sk_24, sk_25, sk_26, sk_27, sk_28, sk_29, sk_30, sk_31, sr_0_0, sr_0_1, sr_0_2, sr_0_3, sr_0_4, sr_0_5, sr_0_6, sr_0_7, sr_0_8, sr_0_9, sr_1_0, sr_1_1, sr_1_2, sr_1_3, sr_1_4, sr_1_5, sr_8_0, sr_8_1, sr_8_2, sr_8_3, sr_8_4, sr_8_5, sr_15_0, sr_15_1, sr_15_2, sr_19_0, sr_19_1, sr_19_2, sr_19_3, sr_24_0, sr_24_1, rs_lead hR, rs_ilead hR, rs_latent hR, rs_mark hR, rs_ground hR, rs_far hR, rs_pn hR, rs_p0 hR, rs_p1 hR, rs_p2 hR, rs_p3 hR, rs_p4 hR, rs_p5 hR, rs_hn hR, rs_h0 hR, rs_h1 hR, rs_h2 hR, rs_rn hR, rs_rc hR, rs_gc hR, rs_warm hR, rs_ice hR, rs_dug hR, rs_shaft hR, rs_sums hR, rs_sc hR, rs_dc hR, rs_cold hR, rs_lines hR, rs_ticks hR, rs_fl hR, rs_fls hR, hM, hS, hC, hN, q1]
    · obtain ⟨y, g4, F4, c4⟩ := copyFrom_ok q5 hS (by omega)
      have hMy : LayM y := hM.fi F4
      have gM := backM_ok (z := y) hMy (k := k) (by omega)
      have y95 : zI y 95 = zI z 95 := F4.2.2.2.2 95 (by omega)
      have y96 : zI y 96 = zI z 96 := F4.2.2.2.2 96 (by omega)
      obtain ⟨w, hw⟩ : ∃ w, w = wI y 93 (fun i => if i < 810 then zI y 95 (810 * k + i) else zI y 93 i) := ⟨_, rfl⟩
      rw [← hw] at gM
      refine ⟨0, y, w, s, d, ?_, by rw [mk_92 hMy], ?_, ?_⟩
      · rw [gR_eq (by rw [ck_0 hC]) (cr_0_2 hC), aO_n (ck_65 hC) (by omega) (by decide), q2]
        show gR 11 0 z 0 _ = _
        rw [gR_eq (by rw [ck_0 hC]) hN, gR_eq (by rw [ck_0 hC]) (cr_0_2 hC), aR_n (ck_65 hC) (by omega) (by decide) q2, isC_eq (by rw [sk_0 hS]), g4, bnd_some]
      · rw [gR_eq (by rw [mk_92 hMy]) (mr_92_4 hMy), aI_n (mk_96 hMy) (by omega) (by decide), y96, q1, if_neg (by decide)]
        exact gM
      · have Iw : ∀ a, a ≠ 93 → zI w a = zI y a := fun a h1 => by rw [hw, zI_ne h1]
        have ex : ∀ a, ¬ (s ≤ a ∧ a < s + 32) → a ≠ 93 → zI w a = zI z a := fun a h1 h2 => by rw [Iw a h2, F4.2.2.2.2 a h1]
        have e93 : ∀ i, i < 810 → zI w 93 i = zI z 95 (810 * k + i) := fun i hi => by rw [hw, zI_eq, if_pos hi, y95]
        refine In.re3 h (by rw [hw, zK_wI, F4.2.1]) (by rw [hw, zR_wI, F4.2.2.2.1]) (by rw [hw, zN_wI, F4.1]) (by rw [hw, zL_wI, F4.2.2.1]) (fun a ha => ex a (by omega) (by omega)) (by rw [ex 66 (by omega) (by omega)]) (fun j _ => by rw [ex 92 (by omega) (by omega)]) ?_ ?_ ?_
        · exact ((q6.cp q7 c4).of (fun a h1 h2 => Iw a (by omega))).cw q7 e93
        · exact q7.cw e93
        · rw [e93 1 (by omega)]
          exact q8
  · refine ⟨-2, z, z, s, d, ?_, by rw [mk_92 hM], ?_, h⟩
    · by_cases q : v < 0
      · rw [if_pos q]
      · rw [if_neg q, if_neg (fun g => hp ⟨Int32.not_lt.mp q, g⟩)]
    · rw [if_neg hp]
      simp
