/-! ===== a tick by the class: leads, and heat from cell to cell ===== -/
/-- what a tick reads of a State -/
def RelG (z : Hp) (s : Nat) (W : Nat → Int32) : Prop :=
  (∀ g, g < 4 → zI z (s + 2) g = W (20 + 4 * g)) ∧ (∀ g, g < 4 → zI z (s + 3) g = W (21 + 4 * g)) ∧ (∀ g, g < 4 → zI z (s + 4) g = W (22 + 4 * g)) ∧ (∀ g, g < 4 → zI z (s + 5) g = W (23 + 4 * g)) ∧ (∀ c, c < 144 → zI z (s + 6) c = W (48 + c)) ∧
  (∀ y, y < 12 → zI z (s + 7) y = W (36 + y) ∨ zI z (s + 7) y = -1 ∧ W (36 + y) = 0) ∧ (zI z (s + 1) 6 = W 5) ∧ (zI z (s + 8) 6 = W 2) ∧ (∀ p, p < nPW W → zI z (s + 9) p = W (624 + 6 * p)) ∧ (∀ p, p < nPW W → zI z (s + 10) p = W (624 + 6 * p + 1)) ∧ (∀ p, p < nPW W → zI z (s + 11) p = W (624 + 6 * p + 2)) ∧ (∀ p, p < nPW W → zI z (s + 12) p = W (624 + 6 * p + 3)) ∧
  (∀ c, c < 144 → zI z (s + 27) c = W (192 + c)) ∧ (∀ c, c < 144 → zI z (s + 28) c = W (336 + c)) ∧ (∀ c, c < 144 → zI z (s + 29) c = W (480 + c)) ∧ (zI z s 12 = W 6)
theorem RelS.g {z : Hp} {s : Nat} {W : Nat → Int32} (h : RelS z s W) : RelG z s W := ⟨rs_lead h, rs_ilead h, rs_latent h, rs_mark h, rs_ground h, rs_speed h, rs_far h, rs_pn h, rs_p0 h, rs_p1 h, rs_p2 h, rs_p3 h, rs_warm h, rs_ice h, rs_dug h, rs_cold h⟩
theorem rg_lead {z : Hp} {s : Nat} {W : Nat → Int32} (h : RelG z s W) : ∀ g, g < 4 → zI z (s + 2) g = W (20 + 4 * g) := h.1
theorem rg_ilead {z : Hp} {s : Nat} {W : Nat → Int32} (h : RelG z s W) : ∀ g, g < 4 → zI z (s + 3) g = W (21 + 4 * g) := h.2.1
theorem rg_latent {z : Hp} {s : Nat} {W : Nat → Int32} (h : RelG z s W) : ∀ g, g < 4 → zI z (s + 4) g = W (22 + 4 * g) := h.2.2.1
theorem rg_mark {z : Hp} {s : Nat} {W : Nat → Int32} (h : RelG z s W) : ∀ g, g < 4 → zI z (s + 5) g = W (23 + 4 * g) := h.2.2.2.1
theorem rg_ground {z : Hp} {s : Nat} {W : Nat → Int32} (h : RelG z s W) : ∀ c, c < 144 → zI z (s + 6) c = W (48 + c) := h.2.2.2.2.1
theorem rg_speed {z : Hp} {s : Nat} {W : Nat → Int32} (h : RelG z s W) : ∀ y, y < 12 → zI z (s + 7) y = W (36 + y) ∨ zI z (s + 7) y = -1 ∧ W (36 + y) = 0 := h.2.2.2.2.2.1
theorem rg_far {z : Hp} {s : Nat} {W : Nat → Int32} (h : RelG z s W) : zI z (s + 1) 6 = W 5 := h.2.2.2.2.2.2.1
theorem rg_pn {z : Hp} {s : Nat} {W : Nat → Int32} (h : RelG z s W) : zI z (s + 8) 6 = W 2 := h.2.2.2.2.2.2.2.1
theorem rg_p0 {z : Hp} {s : Nat} {W : Nat → Int32} (h : RelG z s W) : ∀ p, p < nPW W → zI z (s + 9) p = W (624 + 6 * p) := h.2.2.2.2.2.2.2.2.1
theorem rg_p1 {z : Hp} {s : Nat} {W : Nat → Int32} (h : RelG z s W) : ∀ p, p < nPW W → zI z (s + 10) p = W (624 + 6 * p + 1) := h.2.2.2.2.2.2.2.2.2.1
theorem rg_p2 {z : Hp} {s : Nat} {W : Nat → Int32} (h : RelG z s W) : ∀ p, p < nPW W → zI z (s + 11) p = W (624 + 6 * p + 2) := h.2.2.2.2.2.2.2.2.2.2.1
theorem rg_p3 {z : Hp} {s : Nat} {W : Nat → Int32} (h : RelG z s W) : ∀ p, p < nPW W → zI z (s + 12) p = W (624 + 6 * p + 3) := h.2.2.2.2.2.2.2.2.2.2.2.1
theorem rg_warm {z : Hp} {s : Nat} {W : Nat → Int32} (h : RelG z s W) : ∀ c, c < 144 → zI z (s + 27) c = W (192 + c) := h.2.2.2.2.2.2.2.2.2.2.2.2.1
theorem rg_ice {z : Hp} {s : Nat} {W : Nat → Int32} (h : RelG z s W) : ∀ c, c < 144 → zI z (s + 28) c = W (336 + c) := h.2.2.2.2.2.2.2.2.2.2.2.2.2.1
theorem rg_dug {z : Hp} {s : Nat} {W : Nat → Int32} (h : RelG z s W) : ∀ c, c < 144 → zI z (s + 29) c = W (480 + c) := h.2.2.2.2.2.2.2.2.2.2.2.2.2.2.1
theorem rg_cold {z : Hp} {s : Nat} {W : Nat → Int32} (h : RelG z s W) : zI z s 12 = W 6 := h.2.2.2.2.2.2.2.2.2.2.2.2.2.2.2
/-- the cells that a tick reads -/
def Gc (s a : Nat) : Prop := (s ≤ a ∧ a ≤ s + 12) ∨ (s + 27 ≤ a ∧ a ≤ s + 29)
theorem RelG.of {z y : Hp} {s : Nat} {W : Nat → Int32} (h : RelG z s W) (e : ∀ a, Gc s a → zI y a = zI z a) : RelG y s W := by
  have g : ∀ k, k ≤ 12 ∨ 27 ≤ k ∧ k ≤ 29 → zI y (s + k) = zI z (s + k) := fun k hk => e (s + k) (by unfold Gc; omega)
  unfold RelG at h ⊢
  rw [show zI y s = zI z s from g 0 (by omega), g 1 (by omega), g 2 (by omega), g 3 (by omega), g 4 (by omega), g 5 (by omega), g 6 (by omega), g 7 (by omega), g 8 (by omega), g 9 (by omega), g 10 (by omega), g 11 (by omega), g 12 (by omega), g 27 (by omega), g 28 (by omega), g 29 (by omega)]
  exact h
theorem frozenG {z : Hp} {s q c : Nat} {W : Nat → Int32} (hS : LayS z s) (hG : RelG z s W) (hO : OkW W q) (hc : c < 144) : m_X8_isFrozen s (nI c) z = some (bI (frW W c), z) := by
  have hk := kd_lt hO hc
  have e1 := rg_dug hG c hc
  have e2 := rg_ice hG c hc
  have e3 : zI z (s + 6) c = nI (kdW W c) := by rw [rg_ground hG c hc]; exact kd_eq hO hc
  have e4 := rg_latent hG _ hk
  unfold m_X8_isFrozen
  simp (disch := omega) [gI, gR, pI, pR, aI, sI, aL, sL, aO, aR, sR, aN, onul, bnd, isC, cpI, cpL, sLen, sCh, nwC, zK_wI, zR_wI, zL_wI, zN_wI, zI_wI, zK_wL, zR_wL, zI_wL, zN_wL, zL_wL, zK_wR, zI_wR, zL_wR, zN_wR, zR_wR, ups_eq, inb_nI, nI_clamp, wI_wI, nI_add, pk_mul, add_c, c_add, c_mul, lt_c, le_c, eq_c, gt_c, ge_c, inb_c, clamp_c, ladd, sk_0, sk_1, sk_2, sk_3, sk_4, sk_5, sk_6, sk_7, sk_8, sk_9, sk_10, sk_11, sk_12, sk_13, sk_14, sk_15, sk_16, sk_17, sk_18, sk_19, sk_20, sk_21, sk_22, sk_23, sk_24, sk_25, sk_26, sk_27, sk_28, sk_29, sk_30, sk_31, sr_0_0, sr_0_1, sr_0_2, sr_0_3, sr_0_4, sr_0_5, sr_0_6, sr_0_7, sr_0_8, sr_0_9, sr_1_0, sr_1_1, sr_1_2, sr_1_3, sr_1_4, sr_1_5, sr_8_0, sr_8_1, sr_8_2, sr_8_3, sr_8_4, sr_8_5, sr_15_0, sr_15_1, sr_15_2, sr_19_0, sr_19_1, sr_19_2, sr_19_3, sr_24_0, sr_24_1, hS, e1, e2, e3, e4]
  by_cases h1 : W (480 + c) = 0 <;> by_cases h2 : W (336 + c) = W (22 + 4 * kdW W c) <;> simp [h1, h2, frW, bI]
theorem leadsC_ok {z : Hp} {s q : Nat} {W : Nat → Int32} (hC : LayC z) (hS : LayS z s) (hG : RelG z s W) (hO : OkW W q) (hs : s + 32 ≤ 70 ∨ 115 ≤ s) :
    m_X9_lookUpLeads 70 s z = some ((), wI z 71 (fun i => if i < 144 then ldW W i else zI z 71 i)) := by
  unfold m_X9_lookUpLeads
  refine loopQ (X := Int32 × Hp) (fun f x => m_X9_lookUpLeads_L2 f 70 s x.1 x.2) (fun t => t = some ((), wI z 71 (fun i => if i < 144 then ldW W i else zI z 71 i))) (fun n x => x.1 = nI n ∧ x.2 = wI z 71 (fun i => if i < n then ldW W i else zI z 71 i)) 144 ?hs ?he 0 FU (0, z) (by decide) (by decide) ⟨rfl, ?h0⟩
  case h0 => simp [wI_self]
  case hs =>
    rintro n f ⟨v, x⟩ hn ⟨h1, h2⟩
    dsimp only at h1 h2
    subst h1
    have Fx : Fi (fun a => a = 71) z x := by rw [h2]; exact Fi.w rfl
    have Cx := hC.fi Fx
    have Sx := hS.fi Fx
    have Gx : RelG x s W := hG.of (fun a ha => Fx.2.2.2.2 a (by unfold Gc at ha; omega))
    have x71 : zI x 71 = fun i => if i < n then ldW W i else zI z 71 i := by rw [h2, zI_eq]
    have hk := kd_lt hO hn
    have e1 := rg_dug Gx n hn
    have e3 : zI x (s + 6) n = nI (kdW W n) := by rw [rg_ground Gx n hn]; exact kd_eq hO hn
    have e4 := rg_lead Gx _ hk
    have e5 := rg_ilead Gx _ hk
    have ef := frozenG Sx Gx hO hn
    have e : wI x 71 (ups (zI x 71) n (ldW W n)) = wI z 71 (fun i => if i < n + 1 then ldW W i else zI z 71 i) := by
      rw [x71, h2, wI_wI]
      refine congrArg (wI z 71) (funext fun i => ?_)
      rw [ups_eq]
      by_cases c : i = n
      · rw [if_pos c, if_pos (by omega), c]
      · rw [if_neg c]
        by_cases c2 : i < n
        · rw [if_pos c2, if_pos (by omega)]
        · rw [if_neg c2, if_neg (by omega)]
    refine Or.inl ⟨(nI (n + 1), wI z 71 (fun i => if i < n + 1 then ldW W i else zI z 71 i)), ⟨rfl, rfl⟩, ?_⟩
    dsimp only
    rw [m_X9_lookUpLeads_L2, ← e]
    rcases ok_dug hO n hn with c | c
    · cases c2 : frW W n with
      | true =>
        have el : ldW W n = W (21 + 4 * kdW W n) := by unfold ldW; rw [if_neg (by rw [c]; decide), if_pos c2]
        rw [el]
        simp (disch := omega) [gI, gR, pI, pR, aI, sI, aL, sL, aO, aR, sR, aN, onul, bnd, isC, cpI, cpL, sLen, sCh, nwC, zK_wI, zR_wI, zL_wI, zN_wI, zI_wI, zK_wL, zR_wL, zI_wL, zN_wL, zL_wL, zK_wR, zI_wR, zL_wR, zN_wR, zR_wR, ups_eq, inb_nI, nI_clamp, wI_wI, nI_add, pk_mul, add_c, c_add, c_mul, lt_c, le_c, eq_c, gt_c, ge_c, inb_c, clamp_c, ladd, sk_0, sk_1, sk_2, sk_3, sk_4, sk_5, sk_6, sk_7, sk_8, sk_9, sk_10, sk_11, sk_12, sk_13, sk_14, sk_15, sk_16, sk_17, sk_18, sk_19, sk_20, sk_21, sk_22, sk_23, sk_24, sk_25, sk_26, sk_27, sk_28, sk_29, sk_30, sk_31, sr_0_0, sr_0_1, sr_0_2, sr_0_3, sr_0_4, sr_0_5, sr_0_6, sr_0_7, sr_0_8, sr_0_9, sr_1_0, sr_1_1, sr_1_2, sr_1_3, sr_1_4, sr_1_5, sr_8_0, sr_8_1, sr_8_2, sr_8_3, sr_8_4, sr_8_5, sr_15_0, sr_15_1, sr_15_2, sr_19_0, sr_19_1, sr_19_2, sr_19_3, sr_24_0, sr_24_1, ck_0, ck_65, ck_66, ck_67, ck_68, ck_69, ck_70, ck_71, ck_72, ck_73, ck_74, ck_75, ck_76, ck_77, ck_78, ck_79, ck_80, ck_81, ck_82, ck_83, ck_84, ck_85, ck_86, ck_87, ck_88, ck_89, ck_90, ck_91, cr_0_2, cr_0_3, cr_0_4, cr_0_5, cr_0_6, cr_0_7, cr_0_8, cr_66_0, cr_68_0, cr_68_1, cr_70_0, cr_70_1, cr_70_2, cr_74_0, cr_74_1, cr_74_2, cr_74_7, cr_74_8, cr_74_9, cr_83_0, cr_83_1, cr_83_2, cr_84_0, cr_84_1, cr_84_2, cr_84_3, Sx, Cx, e1, e3, e4, e5, ef, c, c2, hn, bI, m_X9_lookUpLeads_B73, m_X9_lookUpLeads_B72]
      | false =>
        have el : ldW W n = W (20 + 4 * kdW W n) := by unfold ldW; rw [if_neg (by rw [c]; decide), if_neg (by rw [c2]; decide)]
        rw [el]
        simp (disch := omega) [gI, gR, pI, pR, aI, sI, aL, sL, aO, aR, sR, aN, onul, bnd, isC, cpI, cpL, sLen, sCh, nwC, zK_wI, zR_wI, zL_wI, zN_wI, zI_wI, zK_wL, zR_wL, zI_wL, zN_wL, zL_wL, zK_wR, zI_wR, zL_wR, zN_wR, zR_wR, ups_eq, inb_nI, nI_clamp, wI_wI, nI_add, pk_mul, add_c, c_add, c_mul, lt_c, le_c, eq_c, gt_c, ge_c, inb_c, clamp_c, ladd, sk_0, sk_1, sk_2, sk_3, sk_4, sk_5, sk_6, sk_7, sk_8, sk_9, sk_10, sk_11, sk_12, sk_13, sk_14, sk_15, sk_16, sk_17, sk_18, sk_19, sk_20, sk_21, sk_22, sk_23, sk_24, sk_25, sk_26, sk_27, sk_28, sk_29, sk_30, sk_31, sr_0_0, sr_0_1, sr_0_2, sr_0_3, sr_0_4, sr_0_5, sr_0_6, sr_0_7, sr_0_8, sr_0_9, sr_1_0, sr_1_1, sr_1_2, sr_1_3, sr_1_4, sr_1_5, sr_8_0, sr_8_1, sr_8_2, sr_8_3, sr_8_4, sr_8_5, sr_15_0, sr_15_1, sr_15_2, sr_19_0, sr_19_1, sr_19_2, sr_19_3, sr_24_0, sr_24_1, ck_0, ck_65, ck_66, ck_67, ck_68, ck_69, ck_70, ck_71, ck_72, ck_73, ck_74, ck_75, ck_76, ck_77, ck_78, ck_79, ck_80, ck_81, ck_82, ck_83, ck_84, ck_85, ck_86, ck_87, ck_88, ck_89, ck_90, ck_91, cr_0_2, cr_0_3, cr_0_4, cr_0_5, cr_0_6, cr_0_7, cr_0_8, cr_66_0, cr_68_0, cr_68_1, cr_70_0, cr_70_1, cr_70_2, cr_74_0, cr_74_1, cr_74_2, cr_74_7, cr_74_8, cr_74_9, cr_83_0, cr_83_1, cr_83_2, cr_84_0, cr_84_1, cr_84_2, cr_84_3, Sx, Cx, e1, e3, e4, e5, ef, c, c2, hn, bI, m_X9_lookUpLeads_B73, m_X9_lookUpLeads_B72]
    · have el : ldW W n = 0 := by unfold ldW; rw [if_pos c]
      rw [el]
      simp (disch := omega) [gI, gR, pI, pR, aI, sI, aL, sL, aO, aR, sR, aN, onul, bnd, isC, cpI, cpL, sLen, sCh, nwC, zK_wI, zR_wI, zL_wI, zN_wI, zI_wI, zK_wL, zR_wL, zI_wL, zN_wL, zL_wL, zK_wR, zI_wR, zL_wR, zN_wR, zR_wR, ups_eq, inb_nI, nI_clamp, wI_wI, nI_add, pk_mul, add_c, c_add, c_mul, lt_c, le_c, eq_c, gt_c, ge_c, inb_c, clamp_c, ladd, sk_0, sk_1, sk_2, sk_3, sk_4, sk_5, sk_6, sk_7, sk_8, sk_9, sk_10, sk_11, sk_12, sk_13, sk_14, sk_15, sk_16, sk_17, sk_18, sk_19, sk_20, sk_21, sk_22, sk_23, sk_24, sk_25, sk_26, sk_27, sk_28, sk_29, sk_30, sk_31, sr_0_0, sr_0_1, sr_0_2, sr_0_3, sr_0_4, sr_0_5, sr_0_6, sr_0_7, sr_0_8, sr_0_9, sr_1_0, sr_1_1, sr_1_2, sr_1_3, sr_1_4, sr_1_5, sr_8_0, sr_8_1, sr_8_2, sr_8_3, sr_8_4, sr_8_5, sr_15_0, sr_15_1, sr_15_2, sr_19_0, sr_19_1, sr_19_2, sr_19_3, sr_24_0, sr_24_1, ck_0, ck_65, ck_66, ck_67, ck_68, ck_69, ck_70, ck_71, ck_72, ck_73, ck_74, ck_75, ck_76, ck_77, ck_78, ck_79, ck_80, ck_81, ck_82, ck_83, ck_84, ck_85, ck_86, ck_87, ck_88, ck_89, ck_90, ck_91, cr_0_2, cr_0_3, cr_0_4, cr_0_5, cr_0_6, cr_0_7, cr_0_8, cr_66_0, cr_68_0, cr_68_1, cr_70_0, cr_70_1, cr_70_2, cr_74_0, cr_74_1, cr_74_2, cr_74_7, cr_74_8, cr_74_9, cr_83_0, cr_83_1, cr_83_2, cr_84_0, cr_84_1, cr_84_2, cr_84_3, Sx, Cx, e1, e3, e4, e5, ef, c, hn, bI, m_X9_lookUpLeads_B73, m_X9_lookUpLeads_B72]
  case he =>
    rintro f ⟨v, x⟩ ⟨h1, h2⟩
    dsimp only at h1 h2 ⊢
    subst h1
    rw [m_X9_lookUpLeads_L2, if_neg (nlt_lit (Nat.le_refl _) (by decide)), h2]
/-- the class at work on the heat of a tick: leads told, s read as W says -/
def Hot (z : Hp) (s : Nat) (W : Nat → Int32) : Prop := LayC z ∧ LayS z s ∧ RelG z s W ∧ ∀ c, c < 144 → zI z 71 c = ldW W c
theorem Hot.fi {P : Nat → Prop} {z y : Hp} {s : Nat} {W : Nat → Int32} (h : Hot z s W) (F : Fi P z y) (hp : ∀ a, P a → a ≠ 71 ∧ ¬ Gc s a) : Hot y s W :=
  ⟨h.1.fi F, h.2.1.fi F, h.2.2.1.of (fun a ha => F.2.2.2.2 a (fun q => (hp a q).2 ha)), fun c hc => by rw [F.2.2.2.2 71 (fun q => (hp 71 q).1 rfl)]; exact h.2.2.2 c hc⟩
theorem exchange_ok {z : Hp} {s q c d : Nat} {W : Nat → Int32} (h : Hot z s W) (hO : OkW W q) (hc : c < 144) (hd : d < 144) (hcd : c ≠ d) :
    m_X9_exchange 70 s (nI c) (nI d) z = some ((), wI z 72 (fun k => zI z 72 k + (if k = c then exW W c d else if k = d then exW W d c else 0))) := by
  obtain ⟨hC, hS, hG, hl⟩ := h
  have w1 := rg_warm hG c hc
  have w2 := rg_warm hG d hd
  have l1 := hl c hc
  have l2 := hl d hd
  have an := ex_anti hO hc hd
  have e : wI z 72 (fun k => zI z 72 k + (if k = c then exW W c d else if k = d then exW W d c else 0)) = wI z 72 (ups (ups (zI z 72) c (zI z 72 c + exW W c d)) d (zI z 72 d - exW W c d)) := by
    refine congrArg (wI z 72) (funext fun k => ?_)
    simp only [ups_eq]
    by_cases k1 : k = c
    · rw [if_pos k1, if_neg (show ¬ k = d by omega), if_pos k1, k1]
    · rw [if_neg k1]
      by_cases k2 : k = d
      · rw [if_pos k2, if_pos k2, k2, an, Int32.sub_eq_add_neg]
      · rw [if_neg k2, if_neg k2, if_neg k1, Int32.add_zero]
  rw [e]
  have ne : ¬ d = c := fun q => hcd q.symm
  have ex : (W (192 + d) - W (192 + c)) * minJ (ldW W c) (ldW W d) / 100 = exW W c d := rfl
  unfold m_X9_exchange
  simp (disch := omega) [gI, gR, pI, pR, aI, sI, aL, sL, aO, aR, sR, aN, onul, bnd, isC, cpI, cpL, sLen, sCh, nwC, zK_wI, zR_wI, zL_wI, zN_wI, zI_wI, zK_wL, zR_wL, zI_wL, zN_wL, zL_wL, zK_wR, zI_wR, zL_wR, zN_wR, zR_wR, ups_eq, inb_nI, nI_clamp, wI_wI, nI_add, pk_mul, add_c, c_add, c_mul, lt_c, le_c, eq_c, gt_c, ge_c, inb_c, clamp_c, ladd, sk_0, sk_1, sk_2, sk_3, sk_4, sk_5, sk_6, sk_7, sk_8, sk_9, sk_10, sk_11, sk_12, sk_13, sk_14, sk_15, sk_16, sk_17, sk_18, sk_19, sk_20, sk_21, sk_22, sk_23, sk_24, sk_25, sk_26, sk_27, sk_28, sk_29, sk_30, sk_31, sr_0_0, sr_0_1, sr_0_2, sr_0_3, sr_0_4, sr_0_5, sr_0_6, sr_0_7, sr_0_8, sr_0_9, sr_1_0, sr_1_1, sr_1_2, sr_1_3, sr_1_4, sr_1_5, sr_8_0, sr_8_1, sr_8_2, sr_8_3, sr_8_4, sr_8_5, sr_15_0, sr_15_1, sr_15_2, sr_19_0, sr_19_1, sr_19_2, sr_19_3, sr_24_0, sr_24_1, ck_0, ck_65, ck_66, ck_67, ck_68, ck_69, ck_70, ck_71, ck_72, ck_73, ck_74, ck_75, ck_76, ck_77, ck_78, ck_79, ck_80, ck_81, ck_82, ck_83, ck_84, ck_85, ck_86, ck_87, ck_88, ck_89, ck_90, ck_91, cr_0_2, cr_0_3, cr_0_4, cr_0_5, cr_0_6, cr_0_7, cr_0_8, cr_66_0, cr_68_0, cr_68_1, cr_70_0, cr_70_1, cr_70_2, cr_74_0, cr_74_1, cr_74_2, cr_74_7, cr_74_8, cr_74_9, cr_83_0, cr_83_1, cr_83_2, cr_84_0, cr_84_1, cr_84_2, cr_84_3, hS, hC, w1, w2, l1, l2, min_ok, ne, ex]
/-- what the edges of cell n bring to cell k -/
def dgH (W : Nat → Int32) (n k : Nat) : Int32 := (if n % 12 < 11 then (if k = n then exW W n (n + 1) else if k = n + 1 then exW W (n + 1) n else 0) else 0) + (if n < 132 then (if k = n then exW W n (n + 12) else if k = n + 12 then exW W (n + 12) n else 0) else 0)
theorem edges_ok {z : Hp} {s q y : Nat} {W : Nat → Int32} (K : Nat → Nat → Int32 → Hp → Option (Unit × Hp)) (h : Hot z s W) (hO : OkW W q) (hs : s + 32 ≤ 70 ∨ 115 ≤ s) (hy : y < 12) :
    m_X9_leadBetweenCells_L10 K FU 70 s (nI y) 0 z = K 70 s (nI y) (wI z 72 (fun k => zI z 72 k + sm (fun x => dgH W (12 * y + x) k) 12)) := by
  refine loopQ (X := Int32 × Hp) (fun f x => m_X9_leadBetweenCells_L10 K f 70 s (nI y) x.1 x.2) (fun t => t = K 70 s (nI y) (wI z 72 (fun k => zI z 72 k + sm (fun x => dgH W (12 * y + x) k) 12))) (fun n x => x.1 = nI n ∧ x.2 = wI z 72 (fun k => zI z 72 k + sm (fun x => dgH W (12 * y + x) k) n)) 12 ?hs ?he 0 FU (0, z) (by decide) (by decide) ⟨rfl, ?h0⟩
  case h0 =>
    dsimp only
    refine (wI_self z 72).symm.trans (congrArg (wI z 72) (funext fun k => ?_))
    exact (Int32.add_zero _).symm
  case hs =>
    rintro n f ⟨v, x⟩ hn ⟨h1, h2⟩
    dsimp only at h1 h2
    subst h1
    have F : ∀ {w : Hp} {G : Nat → Int32}, w = wI x 72 G → Fi (fun a => a = 72) x w := fun e => by rw [e]; exact Fi.w rfl
    have ok : ∀ a, a = 72 → a ≠ 71 ∧ ¬ Gc s a := fun a ha => ⟨by omega, fun g => by unfold Gc at g; omega⟩
    have Hx : Hot x s W := h.fi (by rw [h2]; exact Fi.w rfl) ok
    have x72 : zI x 72 = fun k => zI z 72 k + sm (fun x => dgH W (12 * y + x) k) n := by rw [h2, zI_eq]
    obtain ⟨c, ec⟩ : ∃ c, c = 12 * y + n := ⟨_, rfl⟩
    have hc : c < 144 := by omega
    have ei : (12 : Int32) * nI y + nI n = nI c := by rw [c_mul, nI_add, ec]
    have e1 : nI c + 1 = nI (c + 1) := nI_1 c
    have e12 : nI c + 12 = nI (c + 12) := nI_add c 12
    have es : ∀ k, sm (fun x => dgH W (12 * y + x) k) (n + 1) = sm (fun x => dgH W (12 * y + x) k) n + dgH W c k := fun k => by rw [ec]; rfl
    -- the second exchange
    have B : ∀ w : Hp, Hot w s W → (∀ k, zI w 72 k + (if c < 132 then (if k = c then exW W c (c + 12) else if k = c + 12 then exW W (c + 12) c else 0) else 0) = zI z 72 k + sm (fun x => dgH W (12 * y + x) k) (n + 1)) → (∀ G, wI w 72 G = wI z 72 G) → m_X9_leadBetweenCells_B41 (m_X9_leadBetweenCells_L10 K f) 70 s (nI y) (nI n) (nI c) w = m_X9_leadBetweenCells_L10 K f 70 s (nI y) (nI (n + 1)) (wI z 72 (fun k => zI z 72 k + sm (fun x => dgH W (12 * y + x) k) (n + 1))) := by
      intro w Hw hk hw
      unfold m_X9_leadBetweenCells_B41
      by_cases c11 : y < 11
      · rw [if_pos (show nI y < 11 from lt_lit c11 (by decide)), isC_eq (by rw [ck_70 Hw.1]), e12, exchange_ok Hw hO hc (by omega) (by omega), bnd_some]
        unfold m_X9_leadBetweenCells_B59
        rw [nI_1, hw]
        refine congrArg (fun g => m_X9_leadBetweenCells_L10 K f 70 s (nI y) (nI (n + 1)) (wI z 72 g)) (funext fun k => ?_)
        rw [← hk, if_pos (show c < 132 by omega)]
      · rw [if_neg (show ¬ nI y < 11 from nlt_lit (by omega) (by omega))]
        unfold m_X9_leadBetweenCells_B59
        rw [nI_1]
        refine congrArg (fun g => m_X9_leadBetweenCells_L10 K f 70 s (nI y) (nI (n + 1)) g) ?_
        rw [← hw, ← wI_self w 72, wI_wI]
        refine congrArg (wI w 72) (funext fun k => ?_)
        have := hk k
        rw [if_neg (show ¬ c < 132 by omega), Int32.add_zero] at this
        exact this
    refine Or.inl ⟨(nI (n + 1), wI z 72 (fun k => zI z 72 k + sm (fun x => dgH W (12 * y + x) k) (n + 1))), ⟨rfl, rfl⟩, ?_⟩
    dsimp only
    rw [m_X9_leadBetweenCells_L10, if_pos (lt_lit hn (by decide)), ei]
    by_cases c11 : n < 11
    · rw [if_pos (show nI n < 11 from lt_lit c11 (by decide)), isC_eq (by rw [ck_70 Hx.1]), e1, exchange_ok Hx hO hc (by omega) (by omega), bnd_some]
      refine B _ (Hx.fi (F rfl) ok) (fun k => ?_) (fun G => by rw [wI_wI, h2, wI_wI])
      rw [zI_eq, x72, es]
      unfold dgH
      rw [if_pos (show c % 12 < 11 by omega), Int32.add_assoc, Int32.add_assoc]
    · rw [if_neg (show ¬ nI n < 11 from nlt_lit (by omega) (by omega))]
      refine B x Hx (fun k => ?_) (fun G => by rw [h2, wI_wI])
      rw [x72, es]
      unfold dgH
      rw [if_neg (show ¬ c % 12 < 11 by omega), Int32.zero_add, Int32.add_assoc]
  case he =>
    rintro f ⟨v, x⟩ ⟨h1, h2⟩
    dsimp only at h1 h2 ⊢
    subst h1
    rw [m_X9_leadBetweenCells_L10, if_neg (nlt_lit (Nat.le_refl _) (by decide)), h2]
theorem between_ok {z : Hp} {s q : Nat} {W : Nat → Int32} (h : Hot z s W) (hO : OkW W q) (hs : s + 32 ≤ 70 ∨ 115 ≤ s) :
    m_X9_leadBetweenCells 70 s z = some ((), wI z 72 (fun k => zI z 72 k + sm (fun y => sm (fun x => dgH W (12 * y + x) k) 12) 12)) := by
  unfold m_X9_leadBetweenCells
  refine loopQ (X := Int32 × Hp) (fun f x => m_X9_leadBetweenCells_L2 f 70 s x.1 x.2) (fun t => t = some ((), wI z 72 (fun k => zI z 72 k + sm (fun y => sm (fun x => dgH W (12 * y + x) k) 12) 12))) (fun n x => x.1 = nI n ∧ x.2 = wI z 72 (fun k => zI z 72 k + sm (fun y => sm (fun x => dgH W (12 * y + x) k) 12) n)) 12 ?hs ?he 0 FU (0, z) (by decide) (by decide) ⟨rfl, ?h0⟩
  case h0 =>
    dsimp only
    refine (wI_self z 72).symm.trans (congrArg (wI z 72) (funext fun k => ?_))
    exact (Int32.add_zero _).symm
  case hs =>
    rintro n f ⟨v, x⟩ hn ⟨h1, h2⟩
    dsimp only at h1 h2
    subst h1
    have Hx : Hot x s W := h.fi (P := fun a => a = 72) (by rw [h2]; exact Fi.w rfl) (fun a ha => ⟨by omega, fun g => by unfold Gc at g; omega⟩)
    refine Or.inl ⟨(nI (n + 1), wI z 72 (fun k => zI z 72 k + sm (fun y => sm (fun x => dgH W (12 * y + x) k) 12) (n + 1))), ⟨rfl, rfl⟩, ?_⟩
    dsimp only
    rw [m_X9_leadBetweenCells_L2, if_pos (lt_lit hn (by decide)), edges_ok _ Hx hO hs hn]
    unfold m_X9_leadBetweenCells_B65
    rw [nI_1, h2, wI_wI, zI_eq]
    refine congrArg (fun g => m_X9_leadBetweenCells_L2 f 70 s (nI (n + 1)) (wI z 72 g)) (funext fun k => ?_)
    rw [Int32.add_assoc]
    rfl
  case he =>
    rintro f ⟨v, x⟩ ⟨h1, h2⟩
    dsimp only at h1 h2 ⊢
    subst h1
    rw [m_X9_leadBetweenCells_L2, if_neg (nlt_lit (Nat.le_refl _) (by decide)), h2]
