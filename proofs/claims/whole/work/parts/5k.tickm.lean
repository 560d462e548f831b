/-! ===== houses crack, the shaft is flooded: the whole tick of the model ===== -/
theorem liftW_of {W V : Nat → Int32} (e : ∀ i, 336 ≤ i ∧ i < 624 → V i = W i) {x : Nat} (hx : x < 12) : liftW V x = liftW W x := by
  unfold liftW
  refine sm_congr (fun y hy => ?_)
  unfold liW
  rw [e (480 + (12 * y + x)) (by omega), e (336 + (12 * y + x)) (by omega)]
def ckB (W : Nat → Int32) (h : Nat) : Bool := decide (W (734 + 3 * h) = -1) && decide (W (733 + 3 * h) < absJ (liftW W (nn (W (732 + 3 * h))) - liftW W (nn (W (732 + 3 * h)) + 1)))
def ckW (W : Nat → Int32) (n i : Nat) : Int32 := if 732 ≤ i ∧ i < 732 + 3 * n ∧ (i - 732) % 3 = 2 ∧ ckB W ((i - 732) / 3) = true then W 1 else W i
theorem ck_id {W : Nat → Int32} {n i : Nat} (h : ¬ (732 ≤ i ∧ i < 732 + 3 * n ∧ (i - 732) % 3 = 2)) : ckW W n i = W i := if_neg (fun q => h ⟨q.1, q.2.1, q.2.2.1⟩)
theorem okck {W : Nat → Int32} {q n : Nat} (hO : OkW W q) (hn : n ≤ 6) : OkW (ckW W n) q := by
  have e : ∀ i, ¬ (732 ≤ i ∧ i < 750 ∧ (i - 732) % 3 = 2) → ckW W n i = W i := fun i hi => ck_id (by omega)
  have n3 : nHW (ckW W n) = nHW W := nHW_of (e 3 (by omega))
  exact ⟨ok_kd_of (ok_kd hO)  (fun i hi => e i (by omega)),
    ok_gl_of (ok_gl hO)  (fun i hi => e i (by omega)),
    ok_lat_of (ok_lat hO)  (fun i hi => e i (by omega)),
    ok_mark_of (ok_mark hO)  (fun i hi => e i (by omega)),
    ok_sp_of (ok_sp hO)  (fun i hi => e i (by omega)),
    ok_far_of (ok_far hO)  (fun i hi => e i (by omega)),
    ok_warm_of (ok_warm hO)  (fun i hi => e i (by omega)),
    ok_ice_of (ok_ice hO) (fun c hc => kd_lt hO hc) (fun i hi => e i (by omega)),
    ok_dug_of (ok_dug hO)  (fun i hi => e i (by omega)),
    ok_dsh_of (ok_dsh hO)  (fun i hi => e i (by omega)),
    ok_pn_of (ok_pn hO)  (fun i hi => e i (by omega)),
    ok_pc_of (ok_pc hO) (np_le hO) (fun i hi => e i (by omega)),
    ok_pd_of (ok_pd hO) (np_le hO) (fun i hi => e i (by omega)),
    ok_pa_of (ok_pa hO) (np_le hO) (fun i hi => e i (by omega)),
    ok_pl_of (ok_pl hO) (np_le hO) (fun i hi => e i (by omega)),
    ok_pr_of (ok_pr hO) (np_le hO) (fun i hi => e i (by omega)),
    ok_hn_of (ok_hn hO)  (fun i hi => e i (by omega)),
    fun g hg => by rw [n3] at hg; rw [e (732 + 3 * g) (by omega)]; exact ok_hc hO g hg,
    ok_rn_of (ok_rn hO)  (fun i hi => e i (by omega)),
    ok_rc_of (ok_rc hO) (nr_lt hO) (fun i hi => e i (by omega)),
    ok_rw_of (ok_rw hO) (nr_lt hO) (nc_lt hO) (fun i hi => e i (by omega)),
    ok_gc_of (ok_gc hO)  (fun i hi => e i (by omega)),
    ok_sh_of (ok_sh hO)  (fun i hi => e i (by omega)),
    ok_cold_of (ok_cold hO)  (fun i hi => e i (by omega)),
    ok_fl_of (ok_fl hO)  (fun i hi => e i (by omega))⟩
theorem ck_s {W : Nat → Int32} {n i : Nat} : ckW W (n + 1) i = if i = 734 + 3 * n ∧ ckB W n = true then W 1 else ckW W n i := by
  unfold ckW
  by_cases c : i = 734 + 3 * n
  · have e1 : (i - 732) / 3 = n := by omega
    rw [e1]
    by_cases b : ckB W n = true
    · rw [if_pos ⟨by omega, by omega, by omega, b⟩, if_pos ⟨c, b⟩]
    · rw [if_neg (fun q => b q.2.2.2), if_neg (fun q => b q.2), if_neg (fun q => b q.2.2.2)]
  · rw [if_neg (show ¬ (i = 734 + 3 * n ∧ ckB W n = true) from fun q => c q.1)]
    by_cases d : 732 ≤ i ∧ i < 732 + 3 * n ∧ (i - 732) % 3 = 2 ∧ ckB W ((i - 732) / 3) = true
    · rw [if_pos d, if_pos (show 732 ≤ i ∧ i < 732 + 3 * (n + 1) ∧ (i - 732) % 3 = 2 ∧ ckB W ((i - 732) / 3) = true from ⟨d.1, by omega, d.2.2⟩)]
    · rw [if_neg d, if_neg (show ¬ (732 ≤ i ∧ i < 732 + 3 * (n + 1) ∧ (i - 732) % 3 = 2 ∧ ckB W ((i - 732) / 3) = true) from fun q => d ⟨q.1, by omega, q.2.2⟩)]
theorem crackT_ok {z : Hp} {q : Nat} (K : Nat → Hp → Option (Unit × Hp)) (hM : LayM z) (hO : OkW (zI z 93) q) : m_X12_ticks_L102 K FU 92 0 z = K 92 (wI z 93 (ckW (zI z 93) (nHW (zI z 93)))) := by
  obtain ⟨W, hW⟩ : ∃ W, W = zI z 93 := ⟨_, rfl⟩
  rw [← hW] at hO ⊢
  have hh := nh_lt hO
  refine loopQ (X := Int32 × Hp) (fun f x => m_X12_ticks_L102 K f 92 x.1 x.2) (fun t => t = K 92 (wI z 93 (ckW W (nHW W)))) (fun n x => x.1 = nI n ∧ x.2 = wI z 93 (ckW W n)) (nHW W) ?hs ?he 0 FU (0, z) (by omega) (FU_pos (by omega)) ⟨rfl, ?h0⟩
  case h0 =>
    dsimp only
    refine (wI_self z 93).symm.trans (congrArg (wI z 93) (funext fun i => ?_))
    rw [ck_id (by omega), hW]
  case hs =>
    rintro n f ⟨v, x⟩ hn ⟨h1, h2⟩
    dsimp only at h1 h2
    subst h1
    have Mx : LayM x := hM.of (by rw [h2]; rfl) (by rw [h2]; rfl)
    have x93 : zI x 93 = ckW W n := by rw [h2, zI_eq]
    have Ox : OkW (zI x 93) q := by rw [x93]; exact okck hO (by omega)
    have hc := ok_hc hO n hn
    obtain ⟨k, hk, ek, en⟩ : ∃ k, k < 11 ∧ W (732 + 3 * n) = nI k ∧ nn (W (732 + 3 * n)) = k := ⟨_, hc.2, hc.1, rfl⟩
    have e3 : zI x 93 3 = nI (nHW W) := by rw [x93, ck_id (by omega)]; exact nh_eq hO
    have e1 : zI x 93 1 = W 1 := by rw [x93, ck_id (by omega)]
    have eh : zI x 93 (732 + 3 * n) = nI k := by rw [x93, ck_id (by omega)]; exact ek
    have el : zI x 93 (733 + 3 * n) = W (733 + 3 * n) := by rw [x93, ck_id (by omega)]
    have ec : zI x 93 (734 + 3 * n) = W (734 + 3 * n) := by rw [x93, ck_id (by omega)]
    have lw : ∀ i, 336 ≤ i ∧ i < 624 → zI x 93 i = W i := fun i hi => by rw [x93, ck_id (by omega)]
    have l1 : m_X12_liftOf 92 (nI k) x = some (liftW W k, x) := by rw [liftM_ok Mx Ox (by omega), liftW_of lw (by omega)]
    have l2 : m_X12_liftOf 92 (nI (k + 1)) x = some (liftW W (k + 1), x) := by rw [liftM_ok Mx Ox (by omega), liftW_of lw (by omega)]
    have bb : ckB W n = (decide (W (734 + 3 * n) = -1) && decide (W (733 + 3 * n) < absJ (liftW W k - liftW W (k + 1)))) := by unfold ckB; rw [en]
    refine Or.inl ⟨(nI (n + 1), wI z 93 (ckW W (n + 1))), ⟨rfl, rfl⟩, ?_⟩
    dsimp only
    have st : ∀ X : Nat → Int32, (∀ i, X i = ckW W (n + 1) i) → wI z 93 X = wI z 93 (ckW W (n + 1)) := fun X hX => by rw [funext hX]
    rw [m_X12_ticks_L102]
    by_cases c : W (734 + 3 * n) = -1
    · by_cases c2 : W (733 + 3 * n) < absJ (liftW W k - liftW W (k + 1))
      · have e : wI x 93 (ups (zI x 93) (734 + 3 * n) (W 1)) = wI z 93 (ckW W (n + 1)) := by
          rw [x93, h2, wI_wI]
          refine st _ (fun i => ?_)
          rw [ck_s, ups_eq]
          simp [bb, c, c2]
        simp (disch := omega) [gI, gR, pI, pR, aI, sI, aL, sL, aO, aR, sR, aN, onul, bnd, isC, cpI, cpL, sLen, sCh, nwC, zK_wI, zR_wI, zL_wI, zN_wI, zI_wI, zK_wL, zR_wL, zI_wL, zN_wL, zL_wL, zK_wR, zI_wR, zL_wR, zN_wR, zR_wR, ups_eq, inb_nI, nI_clamp, wI_wI, nI_add, pk_mul, add_c, c_add, c_mul, lt_c, le_c, eq_c, gt_c, ge_c, inb_c, clamp_c, ladd, mk_92, mk_93, mk_94, mk_95, mk_96, mk_97, mk_98, mk_99, mk_100, mk_101, mk_102, mk_103, mk_104, mk_105, mk_106, mk_107, mk_108, mk_109, mk_110, mk_111, mk_112, mk_113, mk_114, mr_92_1, mr_92_2, mr_92_3, mr_92_4, mr_92_5, mr_92_7, mr_92_15, mr_92_16, mr_92_17, mr_92_24, mr_92_25, mr_92_26, mr_92_27, mr_92_28, mr_92_29, mr_92_30, mr_92_32, mr_92_33, mr_92_36, mr_92_37, mr_92_38, mr_92_39, Mx, e3, e1, eh, el, ec, nI_ltI, hn, l1, l2, c, c2, abs_ok, m_X12_ticks_B189, m_X12_ticks_B183, m_X12_ticks_B90, m_X12_ticks_B84, m_X12_ticks_B58, m_X12_ticks_B52, m_X12_ticks_B22, e]
      · have e : x = wI z 93 (ckW W (n + 1)) := by
          rw [h2]
          refine st _ (fun i => ?_)
          rw [ck_s]
          simp [bb, c, c2]
        rw [← e]
        simp (disch := omega) [gI, gR, pI, pR, aI, sI, aL, sL, aO, aR, sR, aN, onul, bnd, isC, cpI, cpL, sLen, sCh, nwC, zK_wI, zR_wI, zL_wI, zN_wI, zI_wI, zK_wL, zR_wL, zI_wL, zN_wL, zL_wL, zK_wR, zI_wR, zL_wR, zN_wR, zR_wR, ups_eq, inb_nI, nI_clamp, wI_wI, nI_add, pk_mul, add_c, c_add, c_mul, lt_c, le_c, eq_c, gt_c, ge_c, inb_c, clamp_c, ladd, mk_92, mk_93, mk_94, mk_95, mk_96, mk_97, mk_98, mk_99, mk_100, mk_101, mk_102, mk_103, mk_104, mk_105, mk_106, mk_107, mk_108, mk_109, mk_110, mk_111, mk_112, mk_113, mk_114, mr_92_1, mr_92_2, mr_92_3, mr_92_4, mr_92_5, mr_92_7, mr_92_15, mr_92_16, mr_92_17, mr_92_24, mr_92_25, mr_92_26, mr_92_27, mr_92_28, mr_92_29, mr_92_30, mr_92_32, mr_92_33, mr_92_36, mr_92_37, mr_92_38, mr_92_39, Mx, e3, e1, eh, el, ec, nI_ltI, hn, l1, l2, c, c2, abs_ok, m_X12_ticks_B189, m_X12_ticks_B183, m_X12_ticks_B90, m_X12_ticks_B84, m_X12_ticks_B58, m_X12_ticks_B52, m_X12_ticks_B22]
    · have e : x = wI z 93 (ckW W (n + 1)) := by
        rw [h2]
        refine st _ (fun i => ?_)
        rw [ck_s]
        simp [bb, c]
      rw [← e]
      simp (disch := omega) [gI, gR, pI, pR, aI, sI, aL, sL, aO, aR, sR, aN, onul, bnd, isC, cpI, cpL, sLen, sCh, nwC, zK_wI, zR_wI, zL_wI, zN_wI, zI_wI, zK_wL, zR_wL, zI_wL, zN_wL, zL_wL, zK_wR, zI_wR, zL_wR, zN_wR, zR_wR, ups_eq, inb_nI, nI_clamp, wI_wI, nI_add, pk_mul, add_c, c_add, c_mul, lt_c, le_c, eq_c, gt_c, ge_c, inb_c, clamp_c, ladd, mk_92, mk_93, mk_94, mk_95, mk_96, mk_97, mk_98, mk_99, mk_100, mk_101, mk_102, mk_103, mk_104, mk_105, mk_106, mk_107, mk_108, mk_109, mk_110, mk_111, mk_112, mk_113, mk_114, mr_92_1, mr_92_2, mr_92_3, mr_92_4, mr_92_5, mr_92_7, mr_92_15, mr_92_16, mr_92_17, mr_92_24, mr_92_25, mr_92_26, mr_92_27, mr_92_28, mr_92_29, mr_92_30, mr_92_32, mr_92_33, mr_92_36, mr_92_37, mr_92_38, mr_92_39, Mx, e3, e1, eh, el, ec, nI_ltI, hn, c, m_X12_ticks_B189, m_X12_ticks_B183, m_X12_ticks_B90, m_X12_ticks_B84, m_X12_ticks_B58, m_X12_ticks_B52, m_X12_ticks_B22]
  case he =>
    rintro f ⟨v, x⟩ ⟨h1, h2⟩
    dsimp only at h1 h2 ⊢
    subst h1
    have Mx : LayM x := hM.of (by rw [h2]; rfl) (by rw [h2]; rfl)
    have e3 : zI x 93 3 = nI (nHW W) := by rw [h2, zI_eq, ck_id (by omega)]; exact nh_eq hO
    rw [m_X12_ticks_L102, ← h2]
    simp (disch := omega) [gI, gR, pI, pR, aI, sI, aL, sL, aO, aR, sR, aN, onul, bnd, isC, cpI, cpL, sLen, sCh, nwC, zK_wI, zR_wI, zL_wI, zN_wI, zI_wI, zK_wL, zR_wL, zI_wL, zN_wL, zL_wL, zK_wR, zI_wR, zL_wR, zN_wR, zR_wR, ups_eq, inb_nI, nI_clamp, wI_wI, nI_add, pk_mul, add_c, c_add, c_mul, lt_c, le_c, eq_c, gt_c, ge_c, inb_c, clamp_c, ladd, mk_92, mk_93, mk_94, mk_95, mk_96, mk_97, mk_98, mk_99, mk_100, mk_101, mk_102, mk_103, mk_104, mk_105, mk_106, mk_107, mk_108, mk_109, mk_110, mk_111, mk_112, mk_113, mk_114, mr_92_1, mr_92_2, mr_92_3, mr_92_4, mr_92_5, mr_92_7, mr_92_15, mr_92_16, mr_92_17, mr_92_24, mr_92_25, mr_92_26, mr_92_27, mr_92_28, mr_92_29, mr_92_30, mr_92_32, mr_92_33, mr_92_36, mr_92_37, mr_92_38, mr_92_39, Mx, e3, nI_ltI]
def dgB (W : Nat → Int32) : Bool := orB (fun c => decide (W (480 + c) = 1)) 144
theorem anyDug_ok {z : Hp} (hM : LayM z) : m_X12_anyDug 92 z = some (bI (dgB (zI z 93)), z) := by
  unfold m_X12_anyDug
  refine loopQ (X := Int32 × Int32) (fun f x => m_X12_anyDug_L4 f 92 x.1 x.2 z) (fun t => t = some (bI (dgB (zI z 93)), z)) (fun n x => x.2 = nI n ∧ x.1 = bI (orB (fun c => decide (zI z 93 (480 + c) = 1)) n)) 144 ?hs ?he 0 FU (0, 0) (by decide) (by decide) ⟨rfl, rfl⟩
  case hs =>
    rintro n f ⟨a, v⟩ hn ⟨h1, h2⟩
    dsimp only at h1 h2
    subst h1 h2
    have ed := isDugM_ok hM hn
    have es : orB (fun c => decide (zI z 93 (480 + c) = 1)) (n + 1) = (orB (fun c => decide (zI z 93 (480 + c) = 1)) n || decide (zI z 93 (480 + n) = 1)) := rfl
    refine Or.inl ⟨(bI (orB (fun c => decide (zI z 93 (480 + c) = 1)) (n + 1)), nI (n + 1)), ⟨rfl, rfl⟩, ?_⟩
    dsimp only
    rw [m_X12_anyDug_L4, if_pos (lt_lit hn (by decide)), es]
    cases h : orB (fun c => decide (zI z 93 (480 + c) = 1)) n with
    | true =>
      rw [if_neg (by decide)]
      unfold m_X12_anyDug_B23 m_X12_anyDug_B28
      rw [nI_1]
      rfl
    | false =>
      rw [if_pos (by decide), isC_eq (by rw [mk_92 hM]), ed, bnd_some]
      cases h2 : decide (zI z 93 (480 + n) = 1) with
      | true =>
        rw [if_neg (by decide)]
        unfold m_X12_anyDug_B23 m_X12_anyDug_B28
        rw [nI_1]
        rfl
      | false =>
        rw [if_pos (by decide)]
        unfold m_X12_anyDug_B28
        rw [nI_1]
        rfl
  case he =>
    rintro f ⟨a, v⟩ ⟨h1, h2⟩
    dsimp only at h1 h2 ⊢
    rw [show orB (fun c => decide (zI z 93 (480 + c) = 1)) 144 = dgB (zI z 93) from rfl] at h2
    rw [h1, h2, m_X12_anyDug_L4, if_neg (nlt_lit (Nat.le_refl _) (by decide))]
    unfold bI
    rw [nar_b]
noncomputable def flB (W : Nat → Int32) : Bool := decide (W 12 = 0) && (dgB W && !decide (wayV W = -1))
noncomputable def flW (W : Nat → Int32) (i : Nat) : Int32 := if flB W = true then (if i = 12 then 1 else if i = 13 then W 13 + 1 else W i) else W i
theorem fl_id {W : Nat → Int32} {i : Nat} (h : i ≠ 12 ∧ i ≠ 13) : flW W i = W i := by
  unfold flW
  rw [if_neg h.1, if_neg h.2]
  split <;> rfl
theorem okfl {W : Nat → Int32} {q : Nat} (hO : OkW W q) : OkW (flW W) q := by
  have e : ∀ i, i ≠ 12 ∧ i ≠ 13 → flW W i = W i := fun i hi => fl_id hi
  exact ⟨ok_kd_of (ok_kd hO)  (fun i hi => e i (by omega)),
    ok_gl_of (ok_gl hO)  (fun i hi => e i (by omega)),
    ok_lat_of (ok_lat hO)  (fun i hi => e i (by omega)),
    ok_mark_of (ok_mark hO)  (fun i hi => e i (by omega)),
    ok_sp_of (ok_sp hO)  (fun i hi => e i (by omega)),
    ok_far_of (ok_far hO)  (fun i hi => e i (by omega)),
    ok_warm_of (ok_warm hO)  (fun i hi => e i (by omega)),
    ok_ice_of (ok_ice hO) (fun c hc => kd_lt hO hc) (fun i hi => e i (by omega)),
    ok_dug_of (ok_dug hO)  (fun i hi => e i (by omega)),
    ok_dsh_of (ok_dsh hO)  (fun i hi => e i (by omega)),
    ok_pn_of (ok_pn hO)  (fun i hi => e i (by omega)),
    ok_pc_of (ok_pc hO) (np_le hO) (fun i hi => e i (by omega)),
    ok_pd_of (ok_pd hO) (np_le hO) (fun i hi => e i (by omega)),
    ok_pa_of (ok_pa hO) (np_le hO) (fun i hi => e i (by omega)),
    ok_pl_of (ok_pl hO) (np_le hO) (fun i hi => e i (by omega)),
    ok_pr_of (ok_pr hO) (np_le hO) (fun i hi => e i (by omega)),
    ok_hn_of (ok_hn hO)  (fun i hi => e i (by omega)),
    ok_hc_of (ok_hc hO) (nh_le hO) (fun i hi => e i (by omega)),
    ok_rn_of (ok_rn hO)  (fun i hi => e i (by omega)),
    ok_rc_of (ok_rc hO) (nr_lt hO) (fun i hi => e i (by omega)),
    ok_rw_of (ok_rw hO) (nr_lt hO) (nc_lt hO) (fun i hi => e i (by omega)),
    ok_gc_of (ok_gc hO)  (fun i hi => e i (by omega)),
    ok_sh_of (ok_sh hO)  (fun i hi => e i (by omega)),
    ok_cold_of (ok_cold hO)  (fun i hi => e i (by omega)),
    by unfold flW; split <;> first | exact Or.inr rfl | exact ok_fl hO⟩
theorem floodM_ok {z : Hp} {q : Nat} (hM : LayM z) (hO : OkW (zI z 93) q) : ∃ y, m_X12_ticks_B189 92 z = some ((), y) ∧ Fi (fun a => a = 93 ∨ a = 104) z y ∧ zI y 93 = flW (zI z 93) := by
  obtain ⟨W, hW⟩ : ∃ W, W = zI z 93 := ⟨_, rfl⟩
  have no : flB W = false → W = flW W := fun h => by funext i; unfold flW; rw [h]; rfl
  unfold m_X12_ticks_B189
  rw [gR_eq (by rw [mk_92 hM]) (mr_92_1 hM), show (12 : Int32) = nI 12 from rfl, aI_n (mk_93 hM) (by decide) (by decide), ← hW]
  by_cases c : W 12 = 0
  · rw [if_pos c, isC_eq (by rw [mk_92 hM]), anyDug_ok hM, bnd_some, ← hW]
    cases c2 : dgB W with
    | false =>
      rw [if_pos (by decide)]
      exact ⟨z, rfl, Fi.rfl', by rw [← hW]; exact no (by unfold flB; rw [c2, Bool.false_and, Bool.and_false])⟩
    | true =>
      obtain ⟨G, g⟩ := shutM hM hO
      rw [← hW] at g
      rw [if_neg (by decide), isC_eq (by rw [mk_92 hM]), g, bnd_some]
      by_cases c3 : wayV W = -1
      · rw [if_neg (by simp [c3, bI])]
        exact ⟨wI z 104 G, rfl, Fi.w (Or.inr rfl), by rw [zI_ne (by decide), ← hW]; exact no (by unfold flB; rw [c2]; simp [c3])⟩
      · obtain ⟨x, hx⟩ : ∃ x, x = wI z 104 G := ⟨_, rfl⟩
        have Mx : LayM x := hM.of (by rw [hx]; rfl) (by rw [hx]; rfl)
        have x93 : zI x 93 = W := by rw [hx, zI_ne (by decide)]; exact hW.symm
        obtain ⟨x1, hx1⟩ : ∃ y, y = wI x 93 (ups W 12 1) := ⟨_, rfl⟩
        have M1 : LayM x1 := Mx.of (by rw [hx1]; rfl) (by rw [hx1]; rfl)
        have x193 : zI x1 93 = ups W 12 1 := by rw [hx1, zI_eq]
        obtain ⟨x2, hx2⟩ : ∃ y, y = wI x1 93 (ups (ups W 12 1) 13 (W 13 + 1)) := ⟨_, rfl⟩
        refine ⟨x2, ?_, ?_, ?_⟩
        · rw [if_pos (by simp [c3, bI]), ← hx, gR_eq (by rw [mk_92 Mx]) (mr_92_1 Mx), sI_n (mk_93 Mx) (by decide) (by decide), x93, ← hx1, gR_eq (by rw [mk_92 M1]) (mr_92_1 M1), show (13 : Int32) = nI 13 from rfl, aI_n (mk_93 M1) (by decide) (by decide), sI_n (mk_93 M1) (by decide) (by decide), x193, up_ne (show 13 ≠ 12 by decide), ← hx2]
        · rw [hx2, hx1, hx]
          exact ((Fi.w (Or.inr rfl)).trans (Fi.w (Or.inl rfl))).trans (Fi.w (Or.inl rfl))
        · rw [hx2, zI_eq]
          funext i
          unfold flW
          rw [if_pos (by unfold flB; rw [c2]; simp [c, c3])]
          simp only [ups_eq]
          by_cases d : i = 12
          · rw [if_neg (by omega), if_pos d, if_pos d]
          · rw [if_neg d, if_neg d]
  · rw [if_neg c]
    exact ⟨z, rfl, Fi.rfl', by rw [← hW]; exact no (by unfold flB; simp [c])⟩
/-- all that a tick does to the world -/
def crackW (W : Nat → Int32) : Nat → Int32 := ckW W (nHW W)
noncomputable def tickW (W : Nat → Int32) : Nat → Int32 := flW (crackW (passW W))
theorem okcrack {W : Nat → Int32} {q : Nat} (hO : OkW W q) : OkW (crackW W) q := okck hO (nh_le hO)
theorem oktick {W : Nat → Int32} {q : Nat} (hO : OkW W q) : OkW (tickW W) q := okfl (okcrack (okpass hO))
theorem ticksM_ok {z : Hp} {q : Nat} (hM : LayM z) (hO : OkW (zI z 93) q) : ∃ y, m_X12_ticks 92 z = some ((), y) ∧ Fi (fun a => a = 93 ∨ a = 102 ∨ a = 103 ∨ a = 104) z y ∧ zI y 93 = tickW (zI z 93) := by
  obtain ⟨y, e1, F1, g1⟩ := passM_ok hM hO
  have M1 := hM.fi F1
  have O1 : OkW (zI y 93) q := by rw [g1]; exact okpass hO
  obtain ⟨x, hx⟩ : ∃ x, x = wI y 93 (ckW (zI y 93) (nHW (zI y 93))) := ⟨_, rfl⟩
  have Mx : LayM x := M1.of (by rw [hx]; rfl) (by rw [hx]; rfl)
  have x93 : zI x 93 = crackW (zI y 93) := by rw [hx, zI_eq]; rfl
  obtain ⟨w, e2, F2, g2⟩ := floodM_ok Mx (q := q) (by rw [x93]; exact okcrack O1)
  refine ⟨w, ?_, ?_, ?_⟩
  · rw [e1, crackT_ok _ M1 O1, ← hx, e2]
  · rw [hx] at F2
    exact ((F1.mono (fun a h => by omega)).trans (Fi.w (by omega))).trans (F2.mono (fun a h => by omega))
  · rw [g2, x93, g1]
    rfl

