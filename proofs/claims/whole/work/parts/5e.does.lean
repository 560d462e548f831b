/-! ===== heat done to the cells, by the model ===== -/
def fzN (mk lat w ice h : Int32) : Int32 := minJ (-h - minJ (-h) (maxJ 0 (w - mk))) (lat - ice)
def thN (mk w ice h : Int32) : Int32 := minJ (h - minJ h (maxJ 0 (mk - w))) ice
def icN (mk lat w ice h : Int32) : Int32 := if h < 0 then ice + fzN mk lat w ice h else ice - thN mk w ice h
def wmN (mk lat w ice h : Int32) : Int32 := if h < 0 then w + (h + fzN mk lat w ice h) else w + (h - thN mk w ice h)
/-- heat of a cell in a tick, all together; its ice and warmth behind it -/
def htW (W : Nat → Int32) (c : Nat) : Int32 := h1W W c + sm (tsW W c) (nPW W)
def icW (W : Nat → Int32) (c : Nat) : Int32 := if W (480 + c) = 1 then W (336 + c) else icN (W (23 + 4 * kdW W c)) (W (22 + 4 * kdW W c)) (W (192 + c)) (W (336 + c)) (htW W c)
def wmW (W : Nat → Int32) (c : Nat) : Int32 := if W (480 + c) = 1 then W (192 + c) else wmN (W (23 + 4 * kdW W c)) (W (22 + 4 * kdW W c)) (W (192 + c)) (W (336 + c)) (htW W c)
def AgG (V W : Nat → Int32) : Prop := ∀ i, (20 ≤ i ∧ i < 192) ∨ (480 ≤ i ∧ i < 624) → V i = W i
theorem groundB {z : Hp} {W : Nat → Int32} {q c k : Nat} (hM : LayM z) (hA : AgG (zI z 93) W) (hO : OkW W q) (hc : c < 144) (hk : k < 4) : m_X12_groundOf 92 (nI c) (nI k) z = some (W (20 + 4 * kdW W c + k), z) := by
  have h4 := kd_lt hO hc
  unfold m_X12_groundOf
  have e1 : zI z 93 (48 + c) = nI (kdW W c) := by rw [hA _ (by omega)]; exact kd_eq hO hc
  simp (disch := omega) [gI, gR, pI, pR, aI, sI, aL, sL, aO, aR, sR, aN, onul, bnd, isC, cpI, cpL, sLen, sCh, nwC, zK_wI, zR_wI, zL_wI, zN_wI, zI_wI, zK_wL, zR_wL, zI_wL, zN_wL, zL_wL, zK_wR, zI_wR, zL_wR, zN_wR, zR_wR, ups_eq, inb_nI, nI_clamp, wI_wI, nI_add, pk_mul, add_c, c_add, c_mul, lt_c, le_c, eq_c, gt_c, ge_c, inb_c, clamp_c, ladd, mk_92, mk_93, mk_94, mk_95, mk_96, mk_97, mk_98, mk_99, mk_100, mk_101, mk_102, mk_103, mk_104, mk_105, mk_106, mk_107, mk_108, mk_109, mk_110, mk_111, mk_112, mk_113, mk_114, mr_92_1, mr_92_2, mr_92_3, mr_92_4, mr_92_5, mr_92_7, mr_92_15, mr_92_16, mr_92_17, mr_92_24, mr_92_25, mr_92_26, mr_92_27, mr_92_28, mr_92_29, mr_92_30, mr_92_32, mr_92_33, mr_92_36, mr_92_37, mr_92_38, mr_92_39, hM, e1]
  exact hA _ (by omega)
theorem does_ok {z : Hp} {W : Nat → Int32} {q c : Nat} (hM : LayM z) (hA : AgG (zI z 93) W) (hO : OkW W q) (hc : c < 144) (hw : zI z 93 (192 + c) = W (192 + c)) (hi : zI z 93 (336 + c) = W (336 + c)) (hh : zI z 102 c = htW W c) (hd : W (480 + c) = 0) :
    m_X12_does 92 (nI c) z = some ((), wI z 93 (ups (ups (zI z 93) (336 + c) (icW W c)) (192 + c) (wmW W c))) := by
  have g3 : m_X12_groundOf 92 (nI c) 3 z = some (W (23 + 4 * kdW W c), z) := by
    have := groundB hM hA hO hc (k := 3) (by decide)
    rw [show 20 + 4 * kdW W c + 3 = 23 + 4 * kdW W c by omega] at this
    exact this
  have g2 : m_X12_groundOf 92 (nI c) 2 z = some (W (22 + 4 * kdW W c), z) := by
    have := groundB hM hA hO hc (k := 2) (by decide)
    rw [show 20 + 4 * kdW W c + 2 = 22 + 4 * kdW W c by omega] at this
    exact this
  have nd : ¬ W (480 + c) = 1 := by rw [hd]; decide
  have ne : ¬ 192 + c = 336 + c := by omega
  unfold m_X12_does icW wmW icN wmN
  rw [if_neg nd, if_neg nd]
  by_cases h : htW W c < 0
  · rw [if_pos h, if_pos h]
    simp (disch := omega) [gI, gR, pI, pR, aI, sI, aL, sL, aO, aR, sR, aN, onul, bnd, isC, cpI, cpL, sLen, sCh, nwC, zK_wI, zR_wI, zL_wI, zN_wI, zI_wI, zK_wL, zR_wL, zI_wL, zN_wL, zL_wL, zK_wR, zI_wR, zL_wR, zN_wR, zR_wR, ups_eq, inb_nI, nI_clamp, wI_wI, nI_add, pk_mul, add_c, c_add, c_mul, lt_c, le_c, eq_c, gt_c, ge_c, inb_c, clamp_c, ladd, mk_92, mk_93, mk_94, mk_95, mk_96, mk_97, mk_98, mk_99, mk_100, mk_101, mk_102, mk_103, mk_104, mk_105, mk_106, mk_107, mk_108, mk_109, mk_110, mk_111, mk_112, mk_113, mk_114, mr_92_1, mr_92_2, mr_92_3, mr_92_4, mr_92_5, mr_92_7, mr_92_15, mr_92_16, mr_92_17, mr_92_24, mr_92_25, mr_92_26, mr_92_27, mr_92_28, mr_92_29, mr_92_30, mr_92_32, mr_92_33, mr_92_36, mr_92_37, mr_92_38, mr_92_39, hM, g3, g2, hh, h, hw, hi, max_ok, min_ok, fzN]
  · rw [if_neg h, if_neg h]
    simp (disch := omega) [gI, gR, pI, pR, aI, sI, aL, sL, aO, aR, sR, aN, onul, bnd, isC, cpI, cpL, sLen, sCh, nwC, zK_wI, zR_wI, zL_wI, zN_wI, zI_wI, zK_wL, zR_wL, zI_wL, zN_wL, zL_wL, zK_wR, zI_wR, zL_wR, zN_wR, zR_wR, ups_eq, inb_nI, nI_clamp, wI_wI, nI_add, pk_mul, add_c, c_add, c_mul, lt_c, le_c, eq_c, gt_c, ge_c, inb_c, clamp_c, ladd, mk_92, mk_93, mk_94, mk_95, mk_96, mk_97, mk_98, mk_99, mk_100, mk_101, mk_102, mk_103, mk_104, mk_105, mk_106, mk_107, mk_108, mk_109, mk_110, mk_111, mk_112, mk_113, mk_114, mr_92_1, mr_92_2, mr_92_3, mr_92_4, mr_92_5, mr_92_7, mr_92_15, mr_92_16, mr_92_17, mr_92_24, mr_92_25, mr_92_26, mr_92_27, mr_92_28, mr_92_29, mr_92_30, mr_92_32, mr_92_33, mr_92_36, mr_92_37, mr_92_38, mr_92_39, hM, g3, g2, hh, h, hw, hi, max_ok, min_ok, thN]
def V3 (V W : Nat → Int32) (n i : Nat) : Int32 := if 192 ≤ i ∧ i < 192 + n then wmW W (i - 192) else if 336 ≤ i ∧ i < 336 + n then icW W (i - 336) else V i
theorem half2_ok {z : Hp} {W : Nat → Int32} {q : Nat} (K : Nat → Hp → Option (Unit × Hp)) (hM : LayM z) (hA : ∀ i, 20 ≤ i → i < 624 → zI z 93 i = W i) (hO : OkW W q) (hh : ∀ c, c < 144 → zI z 102 c = htW W c) :
    m_X12_ticks_L64 K FU 92 0 z = K 92 (wI z 93 (V3 (zI z 93) W 144)) := by
  refine loopQ (X := Int32 × Hp) (fun f x => m_X12_ticks_L64 K f 92 x.1 x.2) (fun t => t = K 92 (wI z 93 (V3 (zI z 93) W 144))) (fun n x => x.1 = nI n ∧ x.2 = wI z 93 (V3 (zI z 93) W n)) 144 ?hs ?he 0 FU (0, z) (by decide) (by decide) ⟨rfl, ?h0⟩
  case h0 =>
    refine (wI_self z 93).symm.trans (congrArg (wI z 93) (funext fun i => ?_))
    unfold V3
    rw [if_neg (by omega), if_neg (by omega)]
  case hs =>
    rintro n f ⟨v, x⟩ hn ⟨h1, h2⟩
    dsimp only at h1 h2
    subst h1
    have Mx : LayM x := hM.of (by rw [h2]; rfl) (by rw [h2]; rfl)
    have x93 : zI x 93 = V3 (zI z 93) W n := by rw [h2, zI_eq]
    have x102 : zI x 102 = zI z 102 := by rw [h2, zI_ne (by decide)]
    have Ax : AgG (zI x 93) W := fun i hi => by rw [x93]; unfold V3; rw [if_neg (by omega), if_neg (by omega)]; exact hA i (by omega) (by omega)
    have ed : m_X12_isDug 92 (nI n) x = some (bI (decide (W (480 + n) = 1)), x) := by rw [isDugM_ok Mx hn, Ax (480 + n) (by omega)]
    have st : ∀ X : Nat → Int32, (∀ i, X i = V3 (zI z 93) W (n + 1) i) → wI z 93 X = wI z 93 (V3 (zI z 93) W (n + 1)) := fun X hX => by rw [funext hX]
    left
    refine ⟨(nI (n + 1), wI z 93 (V3 (zI z 93) W (n + 1))), ⟨rfl, rfl⟩, ?_⟩
    dsimp only
    rw [m_X12_ticks_L64, if_pos (lt_lit hn (by decide)), isC_eq (by rw [mk_92 Mx]), ed, bnd_some]
    rcases ok_dug hO n hn with g | g
    · have ew : zI x 93 (192 + n) = W (192 + n) := by rw [x93]; unfold V3; rw [if_neg (by omega), if_neg (by omega)]; exact hA _ (by omega) (by omega)
      have ei : zI x 93 (336 + n) = W (336 + n) := by rw [x93]; unfold V3; rw [if_neg (by omega), if_neg (by omega)]; exact hA _ (by omega) (by omega)
      rw [g, if_pos (by decide), isC_eq (by rw [mk_92 Mx]), does_ok Mx Ax hO hn ew ei (by rw [x102]; exact hh n hn) g, bnd_some]
      unfold m_X12_ticks_B84
      rw [nI_1, h2, wI_wI, zI_eq, st]
      intro i
      simp only [ups_eq]
      unfold V3
      by_cases c1 : i = 192 + n
      · rw [if_pos c1, if_pos (show 192 ≤ i ∧ i < 192 + (n + 1) by omega), c1, show 192 + n - 192 = n by omega]
      · rw [if_neg c1]
        by_cases c2 : i = 336 + n
        · rw [if_pos c2, if_neg (show ¬ (192 ≤ i ∧ i < 192 + (n + 1)) by omega), if_pos (show 336 ≤ i ∧ i < 336 + (n + 1) by omega), c2, show 336 + n - 336 = n by omega]
        · rw [if_neg c2]
          by_cases d1 : 192 ≤ i ∧ i < 192 + n
          · rw [if_pos d1, if_pos (show 192 ≤ i ∧ i < 192 + (n + 1) by omega)]
          · rw [if_neg d1, if_neg (show ¬ (192 ≤ i ∧ i < 192 + (n + 1)) by omega)]
            by_cases d2 : 336 ≤ i ∧ i < 336 + n
            · rw [if_pos d2, if_pos (show 336 ≤ i ∧ i < 336 + (n + 1) by omega)]
            · rw [if_neg d2, if_neg (show ¬ (336 ≤ i ∧ i < 336 + (n + 1)) by omega)]
    · rw [g, if_neg (by decide)]
      unfold m_X12_ticks_B84
      rw [nI_1, h2, st]
      intro i
      unfold V3
      have w1 : wmW W n = W (192 + n) := by unfold wmW; rw [if_pos g]
      have w2 : icW W n = W (336 + n) := by unfold icW; rw [if_pos g]
      by_cases c1 : i = 192 + n
      · rw [if_neg (show ¬ (192 ≤ i ∧ i < 192 + n) by omega), if_neg (show ¬ (336 ≤ i ∧ i < 336 + n) by omega), if_pos (show 192 ≤ i ∧ i < 192 + (n + 1) by omega), c1, show 192 + n - 192 = n by omega, w1]
        exact hA _ (by omega) (by omega)
      · by_cases c2 : i = 336 + n
        · rw [if_neg (show ¬ (192 ≤ i ∧ i < 192 + n) by omega), if_neg (show ¬ (336 ≤ i ∧ i < 336 + n) by omega), if_neg (show ¬ (192 ≤ i ∧ i < 192 + (n + 1)) by omega), if_pos (show 336 ≤ i ∧ i < 336 + (n + 1) by omega), c2, show 336 + n - 336 = n by omega, w2]
          exact hA _ (by omega) (by omega)
        · by_cases d1 : 192 ≤ i ∧ i < 192 + n
          · rw [if_pos d1, if_pos (show 192 ≤ i ∧ i < 192 + (n + 1) by omega)]
          · rw [if_neg d1, if_neg (show ¬ (192 ≤ i ∧ i < 192 + (n + 1)) by omega)]
            by_cases d2 : 336 ≤ i ∧ i < 336 + n
            · rw [if_pos d2, if_pos (show 336 ≤ i ∧ i < 336 + (n + 1) by omega)]
            · rw [if_neg d2, if_neg (show ¬ (336 ≤ i ∧ i < 336 + (n + 1)) by omega)]
  case he =>
    rintro f ⟨v, x⟩ ⟨h1, h2⟩
    dsimp only at h1 h2 ⊢
    subst h1 h2
    rw [m_X12_ticks_L64, if_neg (nlt_lit (Nat.le_refl _) (by decide))]
