/-! ===== loops that only read, both sides ===== -/
/-- a place where a loop over cells that reads only begins and ends -/
def liW (W : Nat → Int32) (x y : Nat) : Int32 := if W (480 + (12 * y + x)) = 0 then W (336 + (12 * y + x)) / 10 else 0
def liftW (W : Nat → Int32) (x : Nat) : Int32 := sm (liW W x) 12
theorem liftC_ok {z : Hp} {s x : Nat} {W : Nat → Int32} (hS : LayS z s) (hR : RelS z s W) (hx : x < 12) : m_X8_liftOfColumn s (nI x) z = some (liftW W x, z) := by
  unfold m_X8_liftOfColumn
  refine loopQ (X := Int32 × Int32) (fun f x => m_X8_liftOfColumn_L4 f s x.1 x.2 z) (fun t => t = some (liftW W x, z)) (fun n v => v.2 = nI (12 * n + x) ∧ v.1 = sm (liW W x) n) 12 ?hs ?he 0 FU (0, nI x) (by decide) (by decide) ⟨by simp, rfl⟩
  case hs =>
    rintro n f ⟨a, v⟩ hn ⟨h1, h2⟩
    dsimp only at h1 h2
    subst h1 h2
    refine Or.inl ⟨(sm (liW W x) (n + 1), nI (12 * (n + 1) + x)), ⟨rfl, rfl⟩, ?_⟩
    dsimp only
    rw [m_X8_liftOfColumn_L4]
    simp (disch := omega) [gI, gR, pI, pR, aI, sI, aL, sL, aO, aR, sR, aN, onul, bnd, isC, cpI, cpL, sLen, sCh, nwC, zK_wI, zR_wI, zL_wI, zN_wI, zI_wI, zK_wL, zR_wL, zI_wL, zN_wL, zL_wL, zK_wR, zI_wR, zL_wR, zN_wR, zR_wR, ups_eq, inb_nI, nI_clamp, wI_wI, nI_add, pk_mul, add_c, c_add, c_mul, lt_c, le_c, eq_c, gt_c, ge_c, inb_c, clamp_c, ladd, sk_0, sk_1, sk_2, sk_3, sk_4, sk_5, sk_6, sk_7, sk_8, sk_9, sk_10, sk_11, sk_12, sk_13, sk_14, sk_15, sk_16, sk_17, sk_18, sk_19, sk_20, sk_21, sk_22, sk_23, sk_24, sk_25, sk_26, sk_27, sk_28, sk_29, sk_30, sk_31, sr_0_0, sr_0_1, sr_0_2, sr_0_3, sr_0_4, sr_0_5, sr_0_6, sr_0_7, sr_0_8, sr_0_9, sr_1_0, sr_1_1, sr_1_2, sr_1_3, sr_1_4, sr_1_5, sr_8_0, sr_8_1, sr_8_2, sr_8_3, sr_8_4, sr_8_5, sr_15_0, sr_15_1, sr_15_2, sr_19_0, sr_19_1, sr_19_2, sr_19_3, sr_24_0, sr_24_1, rs_lead hR, rs_ilead hR, rs_latent hR, rs_mark hR, rs_ground hR, rs_far hR, rs_pn hR, rs_p0 hR, rs_p1 hR, rs_p2 hR, rs_p3 hR, rs_p4 hR, rs_p5 hR, rs_hn hR, rs_h0 hR, rs_h1 hR, rs_h2 hR, rs_rn hR, rs_rc hR, rs_gc hR, rs_warm hR, rs_ice hR, rs_dug hR, rs_shaft hR, rs_sums hR, rs_sc hR, rs_dc hR, rs_cold hR, rs_lines hR, rs_ticks hR, rs_fl hR, rs_fls hR, hS, m_X8_liftOfColumn_B32, show 12 * n + x < 144 by omega, sm, liW]
    rw [show 12 * n + x + 12 = 12 * (n + 1) + x by omega]
    by_cases c : W (480 + (12 * n + x)) = 0 <;> simp [c]
  case he =>
    rintro f ⟨a, v⟩ ⟨h1, h2⟩
    dsimp only at h1 h2 ⊢
    subst h1 h2
    rw [m_X8_liftOfColumn_L4]
    simp (disch := omega) [gI, gR, pI, pR, aI, sI, aL, sL, aO, aR, sR, aN, onul, bnd, isC, cpI, cpL, sLen, sCh, nwC, zK_wI, zR_wI, zL_wI, zN_wI, zI_wI, zK_wL, zR_wL, zI_wL, zN_wL, zL_wL, zK_wR, zI_wR, zL_wR, zN_wR, zR_wR, ups_eq, inb_nI, nI_clamp, wI_wI, nI_add, pk_mul, add_c, c_add, c_mul, lt_c, le_c, eq_c, gt_c, ge_c, inb_c, clamp_c, ladd, sk_0, sk_1, sk_2, sk_3, sk_4, sk_5, sk_6, sk_7, sk_8, sk_9, sk_10, sk_11, sk_12, sk_13, sk_14, sk_15, sk_16, sk_17, sk_18, sk_19, sk_20, sk_21, sk_22, sk_23, sk_24, sk_25, sk_26, sk_27, sk_28, sk_29, sk_30, sk_31, sr_0_0, sr_0_1, sr_0_2, sr_0_3, sr_0_4, sr_0_5, sr_0_6, sr_0_7, sr_0_8, sr_0_9, sr_1_0, sr_1_1, sr_1_2, sr_1_3, sr_1_4, sr_1_5, sr_8_0, sr_8_1, sr_8_2, sr_8_3, sr_8_4, sr_8_5, sr_15_0, sr_15_1, sr_15_2, sr_19_0, sr_19_1, sr_19_2, sr_19_3, sr_24_0, sr_24_1, rs_lead hR, rs_ilead hR, rs_latent hR, rs_mark hR, rs_ground hR, rs_far hR, rs_pn hR, rs_p0 hR, rs_p1 hR, rs_p2 hR, rs_p3 hR, rs_p4 hR, rs_p5 hR, rs_hn hR, rs_h0 hR, rs_h1 hR, rs_h2 hR, rs_rn hR, rs_rc hR, rs_gc hR, rs_warm hR, rs_ice hR, rs_dug hR, rs_shaft hR, rs_sums hR, rs_sc hR, rs_dc hR, rs_cold hR, rs_lines hR, rs_ticks hR, rs_fl hR, rs_fls hR, hS, show ¬ 12 * 12 + x < 144 by omega, liftW]
theorem liftM_ok {z : Hp} {q x : Nat} (hM : LayM z) (hO : OkW (zI z 93) q) (hx : x < 12) : m_X12_liftOf 92 (nI x) z = some (liftW (zI z 93) x, z) := by
  unfold m_X12_liftOf
  refine loopQ (X := Int32 × Int32) (fun f v => m_X12_liftOf_L4 f 92 (nI x) v.1 v.2 z) (fun t => t = some (liftW (zI z 93) x, z)) (fun n v => v.2 = nI n ∧ v.1 = sm (liW (zI z 93) x) n) 12 ?hs ?he 0 FU (0, 0) (by decide) (by decide) ⟨rfl, rfl⟩
  case hs =>
    rintro n f ⟨a, v⟩ hn ⟨h1, h2⟩
    dsimp only at h1 h2
    subst h1 h2
    refine Or.inl ⟨(sm (liW (zI z 93) x) (n + 1), nI (n + 1)), ⟨rfl, rfl⟩, ?_⟩
    dsimp only
    have hd := ok_dug hO (12 * n + x) (by omega)
    rw [m_X12_liftOf_L4]
    simp (disch := omega) [gI, gR, pI, pR, aI, sI, aL, sL, aO, aR, sR, aN, onul, bnd, isC, cpI, cpL, sLen, sCh, nwC, zK_wI, zR_wI, zL_wI, zN_wI, zI_wI, zK_wL, zR_wL, zI_wL, zN_wL, zL_wL, zK_wR, zI_wR, zL_wR, zN_wR, zR_wR, ups_eq, inb_nI, nI_clamp, wI_wI, nI_add, pk_mul, add_c, c_add, c_mul, lt_c, le_c, eq_c, gt_c, ge_c, inb_c, clamp_c, ladd, mk_92, mk_93, mk_94, mk_95, mk_96, mk_97, mk_98, mk_99, mk_100, mk_101, mk_102, mk_103, mk_104, mk_105, mk_106, mk_107, mk_108, mk_109, mk_110, mk_111, mk_112, mk_113, mk_114, mr_92_1, mr_92_2, mr_92_3, mr_92_4, mr_92_5, mr_92_7, mr_92_15, mr_92_16, mr_92_17, mr_92_24, mr_92_25, mr_92_26, mr_92_27, mr_92_28, mr_92_29, mr_92_30, mr_92_32, mr_92_33, mr_92_36, mr_92_37, mr_92_38, mr_92_39, hM, m_X12_liftOf_B46, isDugM_ok, bI_0, hn, sm, liW]
    rcases hd with c | c <;> simp [c, Nat.add_assoc]
  case he =>
    rintro f ⟨a, v⟩ ⟨h1, h2⟩
    dsimp only at h1 h2 ⊢
    subst h1 h2
    rw [m_X12_liftOf_L4]
    simp (disch := omega) [gI, gR, pI, pR, aI, sI, aL, sL, aO, aR, sR, aN, onul, bnd, isC, cpI, cpL, sLen, sCh, nwC, zK_wI, zR_wI, zL_wI, zN_wI, zI_wI, zK_wL, zR_wL, zI_wL, zN_wL, zL_wL, zK_wR, zI_wR, zL_wR, zN_wR, zR_wR, ups_eq, inb_nI, nI_clamp, wI_wI, nI_add, pk_mul, add_c, c_add, c_mul, lt_c, le_c, eq_c, gt_c, ge_c, inb_c, clamp_c, ladd, mk_92, mk_93, mk_94, mk_95, mk_96, mk_97, mk_98, mk_99, mk_100, mk_101, mk_102, mk_103, mk_104, mk_105, mk_106, mk_107, mk_108, mk_109, mk_110, mk_111, mk_112, mk_113, mk_114, mr_92_1, mr_92_2, mr_92_3, mr_92_4, mr_92_5, mr_92_7, mr_92_15, mr_92_16, mr_92_17, mr_92_24, mr_92_25, mr_92_26, mr_92_27, mr_92_28, mr_92_29, mr_92_30, mr_92_32, mr_92_33, mr_92_36, mr_92_37, mr_92_38, mr_92_39, hM, liftW]
/-- bits -/
def bit (n : Nat) : Int32 := (1 : Int32) <<< (nI n &&& 31)
def bits (P : Nat → Bool) : Nat → Int32
  | 0 => 0
  | n + 1 => if P n = true then bits P n ||| bit n else bits P n
def frostW (W : Nat → Int32) (y : Nat) : Int32 := bits (fun x => frW W (12 * y + x)) 12
theorem or_0 (x : Int32) : x ||| 0 = x := by
  apply Int32.toBitVec_inj.mp
  simp
theorem frostC_ok {z : Hp} {s q y : Nat} {W : Nat → Int32} (hS : LayS z s) (hR : RelS z s W) (hO : OkW W q) (hy : y < 12) : m_X8_frozenBits s (nI y) z = some (frostW W y, z) := by
  unfold m_X8_frozenBits
  refine loopQ (X := Int32 × Int32) (fun f v => m_X8_frozenBits_L4 f s (nI y) v.1 v.2 z) (fun t => t = some (frostW W y, z)) (fun n v => v.2 = nI n ∧ v.1 = bits (fun x => frW W (12 * y + x)) n) 12 ?hs ?he 0 FU (0, 0) (by decide) (by decide) ⟨rfl, rfl⟩
  case hs =>
    rintro n f ⟨a, v⟩ hn ⟨h1, h2⟩
    dsimp only at h1 h2
    subst h1 h2
    refine Or.inl ⟨(bits (fun x => frW W (12 * y + x)) (n + 1), nI (n + 1)), ⟨rfl, rfl⟩, ?_⟩
    dsimp only
    have e := isFrozenC_ok hS hR hO (c := 12 * y + n) (by omega)
    rw [m_X8_frozenBits_L4]
    simp (disch := omega) [gI, gR, pI, pR, aI, sI, aL, sL, aO, aR, sR, aN, onul, bnd, isC, cpI, cpL, sLen, sCh, nwC, zK_wI, zR_wI, zL_wI, zN_wI, zI_wI, zK_wL, zR_wL, zI_wL, zN_wL, zL_wL, zK_wR, zI_wR, zL_wR, zN_wR, zR_wR, ups_eq, inb_nI, nI_clamp, wI_wI, nI_add, pk_mul, add_c, c_add, c_mul, lt_c, le_c, eq_c, gt_c, ge_c, inb_c, clamp_c, ladd, sk_0, sk_1, sk_2, sk_3, sk_4, sk_5, sk_6, sk_7, sk_8, sk_9, sk_10, sk_11, sk_12, sk_13, sk_14, sk_15, sk_16, sk_17, sk_18, sk_19, sk_20, sk_21, sk_22, sk_23, sk_24, sk_25, sk_26, sk_27, sk_28, sk_29, sk_30, sk_31, sr_0_0, sr_0_1, sr_0_2, sr_0_3, sr_0_4, sr_0_5, sr_0_6, sr_0_7, sr_0_8, sr_0_9, sr_1_0, sr_1_1, sr_1_2, sr_1_3, sr_1_4, sr_1_5, sr_8_0, sr_8_1, sr_8_2, sr_8_3, sr_8_4, sr_8_5, sr_15_0, sr_15_1, sr_15_2, sr_19_0, sr_19_1, sr_19_2, sr_19_3, sr_24_0, sr_24_1, rs_lead hR, rs_ilead hR, rs_latent hR, rs_mark hR, rs_ground hR, rs_far hR, rs_pn hR, rs_p0 hR, rs_p1 hR, rs_p2 hR, rs_p3 hR, rs_p4 hR, rs_p5 hR, rs_hn hR, rs_h0 hR, rs_h1 hR, rs_h2 hR, rs_rn hR, rs_rc hR, rs_gc hR, rs_warm hR, rs_ice hR, rs_dug hR, rs_shaft hR, rs_sums hR, rs_sc hR, rs_dc hR, rs_cold hR, rs_lines hR, rs_ticks hR, rs_fl hR, rs_fls hR, hS, m_X8_frozenBits_B29, e, bI_0, hn, bits, bit]
    by_cases c : frW W (12 * y + n) = true <;> simp [c]
  case he =>
    rintro f ⟨a, v⟩ ⟨h1, h2⟩
    dsimp only at h1 h2 ⊢
    subst h1 h2
    rw [m_X8_frozenBits_L4]
    simp (disch := omega) [gI, gR, pI, pR, aI, sI, aL, sL, aO, aR, sR, aN, onul, bnd, isC, cpI, cpL, sLen, sCh, nwC, zK_wI, zR_wI, zL_wI, zN_wI, zI_wI, zK_wL, zR_wL, zI_wL, zN_wL, zL_wL, zK_wR, zI_wR, zL_wR, zN_wR, zR_wR, ups_eq, inb_nI, nI_clamp, wI_wI, nI_add, pk_mul, add_c, c_add, c_mul, lt_c, le_c, eq_c, gt_c, ge_c, inb_c, clamp_c, ladd, sk_0, sk_1, sk_2, sk_3, sk_4, sk_5, sk_6, sk_7, sk_8, sk_9, sk_10, sk_11, sk_12, sk_13, sk_14, sk_15, sk_16, sk_17, sk_18, sk_19, sk_20, sk_21, sk_22, sk_23, sk_24, sk_25, sk_26, sk_27, sk_28, sk_29, sk_30, sk_31, sr_0_0, sr_0_1, sr_0_2, sr_0_3, sr_0_4, sr_0_5, sr_0_6, sr_0_7, sr_0_8, sr_0_9, sr_1_0, sr_1_1, sr_1_2, sr_1_3, sr_1_4, sr_1_5, sr_8_0, sr_8_1, sr_8_2, sr_8_3, sr_8_4, sr_8_5, sr_15_0, sr_15_1, sr_15_2, sr_19_0, sr_19_1, sr_19_2, sr_19_3, sr_24_0, sr_24_1, rs_lead hR, rs_ilead hR, rs_latent hR, rs_mark hR, rs_ground hR, rs_far hR, rs_pn hR, rs_p0 hR, rs_p1 hR, rs_p2 hR, rs_p3 hR, rs_p4 hR, rs_p5 hR, rs_hn hR, rs_h0 hR, rs_h1 hR, rs_h2 hR, rs_rn hR, rs_rc hR, rs_gc hR, rs_warm hR, rs_ice hR, rs_dug hR, rs_shaft hR, rs_sums hR, rs_sc hR, rs_dc hR, rs_cold hR, rs_lines hR, rs_ticks hR, rs_fl hR, rs_fls hR, hS, frostW]
theorem frostM_ok {z : Hp} {q y : Nat} (hM : LayM z) (hO : OkW (zI z 93) q) (hy : y < 12) : m_X12_frost 92 (nI y) z = some (frostW (zI z 93) y, z) := by
  unfold m_X12_frost
  rw [in_lit _ 0 11 (by decide) (by decide), bnd_some, if_pos (show (0 : Int32) ≤ nI y ∧ nI y ≤ 11 from ⟨nI_pos' (by omega), (nI_leI (a := y) (b := 11) (by omega) (by decide)).mpr (by omega)⟩)]
  simp only [show ((1 : Int32) = 0) = False by simp, if_false]
  refine loopQ (X := Int32 × Int32) (fun f v => m_X12_frost_L18 f 92 (nI y) v.1 v.2 z) (fun t => t = some (frostW (zI z 93) y, z)) (fun n v => v.2 = nI n ∧ v.1 = bits (fun x => frW (zI z 93) (12 * y + x)) n) 12 ?hs ?he 0 FU (0, 0) (by decide) (by decide) ⟨rfl, rfl⟩
  case hs =>
    rintro n f ⟨a, v⟩ hn ⟨h1, h2⟩
    dsimp only at h1 h2
    subst h1 h2
    refine Or.inl ⟨(bits (fun x => frW (zI z 93) (12 * y + x)) (n + 1), nI (n + 1)), ⟨rfl, rfl⟩, ?_⟩
    dsimp only
    have e := isFrozenM_ok hM hO (c := 12 * y + n) (by omega)
    rw [m_X12_frost_L18]
    simp (disch := omega) [gI, gR, pI, pR, aI, sI, aL, sL, aO, aR, sR, aN, onul, bnd, isC, cpI, cpL, sLen, sCh, nwC, zK_wI, zR_wI, zL_wI, zN_wI, zI_wI, zK_wL, zR_wL, zI_wL, zN_wL, zL_wL, zK_wR, zI_wR, zL_wR, zN_wR, zR_wR, ups_eq, inb_nI, nI_clamp, wI_wI, nI_add, pk_mul, add_c, c_add, c_mul, lt_c, le_c, eq_c, gt_c, ge_c, inb_c, clamp_c, ladd, mk_92, mk_93, mk_94, mk_95, mk_96, mk_97, mk_98, mk_99, mk_100, mk_101, mk_102, mk_103, mk_104, mk_105, mk_106, mk_107, mk_108, mk_109, mk_110, mk_111, mk_112, mk_113, mk_114, mr_92_1, mr_92_2, mr_92_3, mr_92_4, mr_92_5, mr_92_7, mr_92_15, mr_92_16, mr_92_17, mr_92_24, mr_92_25, mr_92_26, mr_92_27, mr_92_28, mr_92_29, mr_92_30, mr_92_32, mr_92_33, mr_92_36, mr_92_37, mr_92_38, mr_92_39, hM, m_X12_frost_B45, e, bI_0, hn, bits, bit]
    by_cases c : frW (zI z 93) (12 * y + n) = true <;> simp [c, or_0]
  case he =>
    rintro f ⟨a, v⟩ ⟨h1, h2⟩
    dsimp only at h1 h2 ⊢
    subst h1 h2
    rw [m_X12_frost_L18]
    simp (disch := omega) [gI, gR, pI, pR, aI, sI, aL, sL, aO, aR, sR, aN, onul, bnd, isC, cpI, cpL, sLen, sCh, nwC, zK_wI, zR_wI, zL_wI, zN_wI, zI_wI, zK_wL, zR_wL, zI_wL, zN_wL, zL_wL, zK_wR, zI_wR, zL_wR, zN_wR, zR_wR, ups_eq, inb_nI, nI_clamp, wI_wI, nI_add, pk_mul, add_c, c_add, c_mul, lt_c, le_c, eq_c, gt_c, ge_c, inb_c, clamp_c, ladd, mk_92, mk_93, mk_94, mk_95, mk_96, mk_97, mk_98, mk_99, mk_100, mk_101, mk_102, mk_103, mk_104, mk_105, mk_106, mk_107, mk_108, mk_109, mk_110, mk_111, mk_112, mk_113, mk_114, mr_92_1, mr_92_2, mr_92_3, mr_92_4, mr_92_5, mr_92_7, mr_92_15, mr_92_16, mr_92_17, mr_92_24, mr_92_25, mr_92_26, mr_92_27, mr_92_28, mr_92_29, mr_92_30, mr_92_32, mr_92_33, mr_92_36, mr_92_37, mr_92_38, mr_92_39, hM, frostW]
theorem heatC_ok {z : Hp} {s q : Nat} {W : Nat → Int32} (hS : LayS z s) (hR : RelS z s W) (hO : OkW W q) : m_X8_heatOfAll s z = some (sm (fun c => if W (480 + c) = 1 then 0 else W (192 + c) - W (336 + c)) 144, z) := by
  unfold m_X8_heatOfAll
  refine loopQ (X := Int32 × Int32) (fun f x => m_X8_heatOfAll_L4 f s x.1 x.2 z) (fun t => t = some (sm (fun c => if W (480 + c) = 1 then 0 else W (192 + c) - W (336 + c)) 144, z)) (fun n x => x.2 = nI n ∧ x.1 = sm (fun c => if W (480 + c) = 1 then 0 else W (192 + c) - W (336 + c)) n) 144 ?hs ?he 0 FU (0, 0) (by decide) (by decide) ⟨rfl, rfl⟩
  case hs =>
    rintro n f ⟨a, v⟩ hn ⟨h1, h2⟩
    dsimp only at h1 h2
    subst h1 h2
    refine Or.inl ⟨(sm (fun c => if W (480 + c) = 1 then 0 else W (192 + c) - W (336 + c)) (n + 1), nI (n + 1)), ⟨rfl, rfl⟩, ?_⟩
    dsimp only
    have hd := ok_dug hO n hn
    rw [m_X8_heatOfAll_L4]
    simp (disch := omega) [gI, gR, pI, pR, aI, sI, aL, sL, aO, aR, sR, aN, onul, bnd, isC, cpI, cpL, sLen, sCh, nwC, zK_wI, zR_wI, zL_wI, zN_wI, zI_wI, zK_wL, zR_wL, zI_wL, zN_wL, zL_wL, zK_wR, zI_wR, zL_wR, zN_wR, zR_wR, ups_eq, inb_nI, nI_clamp, wI_wI, nI_add, pk_mul, add_c, c_add, c_mul, lt_c, le_c, eq_c, gt_c, ge_c, inb_c, clamp_c, ladd, sk_0, sk_1, sk_2, sk_3, sk_4, sk_5, sk_6, sk_7, sk_8, sk_9, sk_10, sk_11, sk_12, sk_13, sk_14, sk_15, sk_16, sk_17, sk_18, sk_19, sk_20, sk_21, sk_22, sk_23, sk_24, sk_25, sk_26, sk_27, sk_28, sk_29, sk_30, sk_31, sr_0_0, sr_0_1, sr_0_2, sr_0_3, sr_0_4, sr_0_5, sr_0_6, sr_0_7, sr_0_8, sr_0_9, sr_1_0, sr_1_1, sr_1_2, sr_1_3, sr_1_4, sr_1_5, sr_8_0, sr_8_1, sr_8_2, sr_8_3, sr_8_4, sr_8_5, sr_15_0, sr_15_1, sr_15_2, sr_19_0, sr_19_1, sr_19_2, sr_19_3, sr_24_0, sr_24_1, rs_lead hR, rs_ilead hR, rs_latent hR, rs_mark hR, rs_ground hR, rs_far hR, rs_pn hR, rs_p0 hR, rs_p1 hR, rs_p2 hR, rs_p3 hR, rs_p4 hR, rs_p5 hR, rs_hn hR, rs_h0 hR, rs_h1 hR, rs_h2 hR, rs_rn hR, rs_rc hR, rs_gc hR, rs_warm hR, rs_ice hR, rs_dug hR, rs_shaft hR, rs_sums hR, rs_sc hR, rs_dc hR, rs_cold hR, rs_lines hR, rs_ticks hR, rs_fl hR, rs_fls hR, hS, m_X8_heatOfAll_B36, hn, sm]
    rcases hd with c | c <;> simp [c]
  case he =>
    rintro f ⟨a, v⟩ ⟨h1, h2⟩
    dsimp only at h1 h2 ⊢
    subst h1 h2
    rw [m_X8_heatOfAll_L4]
    simp (disch := omega) [gI, gR, pI, pR, aI, sI, aL, sL, aO, aR, sR, aN, onul, bnd, isC, cpI, cpL, sLen, sCh, nwC, zK_wI, zR_wI, zL_wI, zN_wI, zI_wI, zK_wL, zR_wL, zI_wL, zN_wL, zL_wL, zK_wR, zI_wR, zL_wR, zN_wR, zR_wR, ups_eq, inb_nI, nI_clamp, wI_wI, nI_add, pk_mul, add_c, c_add, c_mul, lt_c, le_c, eq_c, gt_c, ge_c, inb_c, clamp_c, ladd, sk_0, sk_1, sk_2, sk_3, sk_4, sk_5, sk_6, sk_7, sk_8, sk_9, sk_10, sk_11, sk_12, sk_13, sk_14, sk_15, sk_16, sk_17, sk_18, sk_19, sk_20, sk_21, sk_22, sk_23, sk_24, sk_25, sk_26, sk_27, sk_28, sk_29, sk_30, sk_31, sr_0_0, sr_0_1, sr_0_2, sr_0_3, sr_0_4, sr_0_5, sr_0_6, sr_0_7, sr_0_8, sr_0_9, sr_1_0, sr_1_1, sr_1_2, sr_1_3, sr_1_4, sr_1_5, sr_8_0, sr_8_1, sr_8_2, sr_8_3, sr_8_4, sr_8_5, sr_15_0, sr_15_1, sr_15_2, sr_19_0, sr_19_1, sr_19_2, sr_19_3, sr_24_0, sr_24_1, rs_lead hR, rs_ilead hR, rs_latent hR, rs_mark hR, rs_ground hR, rs_far hR, rs_pn hR, rs_p0 hR, rs_p1 hR, rs_p2 hR, rs_p3 hR, rs_p4 hR, rs_p5 hR, rs_hn hR, rs_h0 hR, rs_h1 hR, rs_h2 hR, rs_rn hR, rs_rc hR, rs_gc hR, rs_warm hR, rs_ice hR, rs_dug hR, rs_shaft hR, rs_sums hR, rs_sc hR, rs_dc hR, rs_cold hR, rs_lines hR, rs_ticks hR, rs_fl hR, rs_fls hR, hS]
/-- houses that cracked -/
theorem nh_eq {W : Nat → Int32} {q : Nat} (h : OkW W q) : W 3 = nI (nHW W) := (ok_hn h).1
theorem nh_lt {W : Nat → Int32} {q : Nat} (h : OkW W q) : nHW W < 7 := (ok_hn h).2
def crW (W : Nat → Int32) : Int32 := bits (fun h => !decide (W (732 + 3 * h + 2) = -1)) (nHW W)
theorem crackC_ok {z : Hp} {s q : Nat} {W : Nat → Int32} (hS : LayS z s) (hR : RelS z s W) (hO : OkW W q) : m_X1_crackedBits (s + 15) z = some (crW W, z) := by
  have hp := nh_lt hO
  unfold m_X1_crackedBits
  refine loopQ (X := Int32 × Int32) (fun f x => m_X1_crackedBits_L4 f (s + 15) x.1 x.2 z) (fun t => t = some (crW W, z)) (fun n x => x.2 = nI n ∧ x.1 = bits (fun h => !decide (W (732 + 3 * h + 2) = -1)) n) (nHW W) ?hs ?he 0 FU (0, 0) (by omega) (FU_pos (by omega)) ⟨rfl, rfl⟩
  case hs =>
    rintro n f ⟨a, v⟩ hn ⟨h1, h2⟩
    dsimp only at h1 h2
    subst h1 h2
    refine Or.inl ⟨(bits (fun h => !decide (W (732 + 3 * h + 2) = -1)) (n + 1), nI (n + 1)), ⟨rfl, rfl⟩, ?_⟩
    dsimp only
    rw [m_X1_crackedBits_L4]
    simp (disch := omega) [gI, gR, pI, pR, aI, sI, aL, sL, aO, aR, sR, aN, onul, bnd, isC, cpI, cpL, sLen, sCh, nwC, zK_wI, zR_wI, zL_wI, zN_wI, zI_wI, zK_wL, zR_wL, zI_wL, zN_wL, zL_wL, zK_wR, zI_wR, zL_wR, zN_wR, zR_wR, ups_eq, inb_nI, nI_clamp, wI_wI, nI_add, pk_mul, add_c, c_add, c_mul, lt_c, le_c, eq_c, gt_c, ge_c, inb_c, clamp_c, ladd, sk_0, sk_1, sk_2, sk_3, sk_4, sk_5, sk_6, sk_7, sk_8, sk_9, sk_10, sk_11, sk_12, sk_13, sk_14, sk_15, sk_16, sk_17, sk_18, sk_19, sk_20, sk_21, sk_22, sk_23, sk_24, sk_25, sk_26, sk_27, sk_28, sk_29, sk_30, sk_31, sr_0_0, sr_0_1, sr_0_2, sr_0_3, sr_0_4, sr_0_5, sr_0_6, sr_0_7, sr_0_8, sr_0_9, sr_1_0, sr_1_1, sr_1_2, sr_1_3, sr_1_4, sr_1_5, sr_8_0, sr_8_1, sr_8_2, sr_8_3, sr_8_4, sr_8_5, sr_15_0, sr_15_1, sr_15_2, sr_19_0, sr_19_1, sr_19_2, sr_19_3, sr_24_0, sr_24_1, rs_lead hR, rs_ilead hR, rs_latent hR, rs_mark hR, rs_ground hR, rs_far hR, rs_pn hR, rs_p0 hR, rs_p1 hR, rs_p2 hR, rs_p3 hR, rs_p4 hR, rs_p5 hR, rs_hn hR, rs_h0 hR, rs_h1 hR, rs_h2 hR, rs_rn hR, rs_rc hR, rs_gc hR, rs_warm hR, rs_ice hR, rs_dug hR, rs_shaft hR, rs_sums hR, rs_sc hR, rs_dc hR, rs_cold hR, rs_lines hR, rs_ticks hR, rs_fl hR, rs_fls hR, hS, m_X1_crackedBits_B28, nh_eq hO, nI_ltI, hn, bits, bit]
    by_cases c : W (734 + 3 * n) = -1 <;> simp [c]
  case he =>
    rintro f ⟨a, v⟩ ⟨h1, h2⟩
    dsimp only at h1 h2 ⊢
    subst h1 h2
    rw [m_X1_crackedBits_L4]
    simp (disch := omega) [gI, gR, pI, pR, aI, sI, aL, sL, aO, aR, sR, aN, onul, bnd, isC, cpI, cpL, sLen, sCh, nwC, zK_wI, zR_wI, zL_wI, zN_wI, zI_wI, zK_wL, zR_wL, zI_wL, zN_wL, zL_wL, zK_wR, zI_wR, zL_wR, zN_wR, zR_wR, ups_eq, inb_nI, nI_clamp, wI_wI, nI_add, pk_mul, add_c, c_add, c_mul, lt_c, le_c, eq_c, gt_c, ge_c, inb_c, clamp_c, ladd, sk_0, sk_1, sk_2, sk_3, sk_4, sk_5, sk_6, sk_7, sk_8, sk_9, sk_10, sk_11, sk_12, sk_13, sk_14, sk_15, sk_16, sk_17, sk_18, sk_19, sk_20, sk_21, sk_22, sk_23, sk_24, sk_25, sk_26, sk_27, sk_28, sk_29, sk_30, sk_31, sr_0_0, sr_0_1, sr_0_2, sr_0_3, sr_0_4, sr_0_5, sr_0_6, sr_0_7, sr_0_8, sr_0_9, sr_1_0, sr_1_1, sr_1_2, sr_1_3, sr_1_4, sr_1_5, sr_8_0, sr_8_1, sr_8_2, sr_8_3, sr_8_4, sr_8_5, sr_15_0, sr_15_1, sr_15_2, sr_19_0, sr_19_1, sr_19_2, sr_19_3, sr_24_0, sr_24_1, rs_lead hR, rs_ilead hR, rs_latent hR, rs_mark hR, rs_ground hR, rs_far hR, rs_pn hR, rs_p0 hR, rs_p1 hR, rs_p2 hR, rs_p3 hR, rs_p4 hR, rs_p5 hR, rs_hn hR, rs_h0 hR, rs_h1 hR, rs_h2 hR, rs_rn hR, rs_rc hR, rs_gc hR, rs_warm hR, rs_ice hR, rs_dug hR, rs_shaft hR, rs_sums hR, rs_sc hR, rs_dc hR, rs_cold hR, rs_lines hR, rs_ticks hR, rs_fl hR, rs_fls hR, hS, nh_eq hO, nI_ltI, crW]
theorem crackM_ok {z : Hp} {q : Nat} (hM : LayM z) (hO : OkW (zI z 93) q) : m_X12_cracks 92 z = some (crW (zI z 93), z) := by
  have hp := nh_lt hO
  unfold m_X12_cracks
  refine loopQ (X := Int32 × Int32) (fun f x => m_X12_cracks_L4 f 92 x.1 x.2 z) (fun t => t = some (crW (zI z 93), z)) (fun n x => x.2 = nI n ∧ x.1 = bits (fun h => !decide (zI z 93 (732 + 3 * h + 2) = -1)) n) (nHW (zI z 93)) ?hs ?he 0 FU (0, 0) (by omega) (FU_pos (by omega)) ⟨rfl, rfl⟩
  case hs =>
    rintro n f ⟨a, v⟩ hn ⟨h1, h2⟩
    dsimp only at h1 h2
    subst h1 h2
    refine Or.inl ⟨(bits (fun h => !decide (zI z 93 (732 + 3 * h + 2) = -1)) (n + 1), nI (n + 1)), ⟨rfl, rfl⟩, ?_⟩
    dsimp only
    rw [m_X12_cracks_L4]
    simp (disch := omega) [gI, gR, pI, pR, aI, sI, aL, sL, aO, aR, sR, aN, onul, bnd, isC, cpI, cpL, sLen, sCh, nwC, zK_wI, zR_wI, zL_wI, zN_wI, zI_wI, zK_wL, zR_wL, zI_wL, zN_wL, zL_wL, zK_wR, zI_wR, zL_wR, zN_wR, zR_wR, ups_eq, inb_nI, nI_clamp, wI_wI, nI_add, pk_mul, add_c, c_add, c_mul, lt_c, le_c, eq_c, gt_c, ge_c, inb_c, clamp_c, ladd, mk_92, mk_93, mk_94, mk_95, mk_96, mk_97, mk_98, mk_99, mk_100, mk_101, mk_102, mk_103, mk_104, mk_105, mk_106, mk_107, mk_108, mk_109, mk_110, mk_111, mk_112, mk_113, mk_114, mr_92_1, mr_92_2, mr_92_3, mr_92_4, mr_92_5, mr_92_7, mr_92_15, mr_92_16, mr_92_17, mr_92_24, mr_92_25, mr_92_26, mr_92_27, mr_92_28, mr_92_29, mr_92_30, mr_92_32, mr_92_33, mr_92_36, mr_92_37, mr_92_38, mr_92_39, hM, m_X12_cracks_B40, nh_eq hO, nI_ltI, hn, bits, bit]
    by_cases c : zI z 93 (734 + 3 * n) = -1 <;> simp [c, or_0]
  case he =>
    rintro f ⟨a, v⟩ ⟨h1, h2⟩
    dsimp only at h1 h2 ⊢
    subst h1 h2
    rw [m_X12_cracks_L4]
    simp (disch := omega) [gI, gR, pI, pR, aI, sI, aL, sL, aO, aR, sR, aN, onul, bnd, isC, cpI, cpL, sLen, sCh, nwC, zK_wI, zR_wI, zL_wI, zN_wI, zI_wI, zK_wL, zR_wL, zI_wL, zN_wL, zL_wL, zK_wR, zI_wR, zL_wR, zN_wR, zR_wR, ups_eq, inb_nI, nI_clamp, wI_wI, nI_add, pk_mul, add_c, c_add, c_mul, lt_c, le_c, eq_c, gt_c, ge_c, inb_c, clamp_c, ladd, mk_92, mk_93, mk_94, mk_95, mk_96, mk_97, mk_98, mk_99, mk_100, mk_101, mk_102, mk_103, mk_104, mk_105, mk_106, mk_107, mk_108, mk_109, mk_110, mk_111, mk_112, mk_113, mk_114, mr_92_1, mr_92_2, mr_92_3, mr_92_4, mr_92_5, mr_92_7, mr_92_15, mr_92_16, mr_92_17, mr_92_24, mr_92_25, mr_92_26, mr_92_27, mr_92_28, mr_92_29, mr_92_30, mr_92_32, mr_92_33, mr_92_36, mr_92_37, mr_92_38, mr_92_39, hM, nh_eq hO, nI_ltI, crW]
