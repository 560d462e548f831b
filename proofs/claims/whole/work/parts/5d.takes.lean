/-! ===== what pipes take, by the model: the second loop ===== -/
theorem cold_N {W : Nat → Int32} {q : Nat} (hO : OkW W q) : W 6 = nI (nn (W 6)) ∧ nn (W 6) < 100000 := ok_cold hO
theorem tk_le {W : Nat → Int32} {q p : Nat} (hO : OkW W q) (hp : p < nPW W) : tkN W p ≤ 420 := by
  have h := wn_le hO hp
  unfold tkN
  split
  · rename_i g
    have : wnN W p * nn (W 6) ≤ wnN W p * sN (wnN W) (nPW W) := Nat.mul_le_mul (Nat.le_refl _) (Nat.le_of_lt g)
    have := Nat.div_le_of_le_mul (m := wnN W p * nn (W 6)) (k := sN (wnN W) (nPW W)) (n := wnN W p) (Nat.le_trans this (Nat.le_of_eq (Nat.mul_comm _ _)))
    exact Nat.le_trans this h
  · exact h
def tsW (W : Nat → Int32) (c p : Nat) : Int32 := if pcN W p = c then -nI (tkN W p) else 0
def V2 (V W : Nat → Int32) (n i : Nat) : Int32 :=
  if i = 14 then V 14 + sm (fun p => nI (tkN W p)) n else if 624 ≤ i ∧ i < 624 + 6 * n ∧ (i - 624) % 6 = 4 then nI (tkN W ((i - 624) / 6)) else if 624 ≤ i ∧ i < 624 + 6 * n ∧ (i - 624) % 6 = 5 then V i + nI (tkN W ((i - 624) / 6)) else V i
theorem takesM_ok {z : Hp} {W : Nat → Int32} {q : Nat} (hM : LayM z) (hV : ∀ i, i ≠ 15 → i ≠ 16 → zI z 93 i = W i) (hO : OkW W q) (h103 : ∀ p, p < nPW W → zI z 103 p = nI (wnN W p)) :
    ∃ y, m_X12_pipes_L152 FU 92 (lN (sN (wnN W) (nPW W))) 0 z = some ((), y) ∧ Fi (fun a => a = 102 ∨ a = 93) z y ∧ (∀ c, c < 144 → zI y 102 c = zI z 102 c + sm (tsW W c) (nPW W)) ∧ zI y 93 = V2 (zI z 93) W (nPW W) := by
  have hp := np_lt hO
  have hcd := cold_N hO
  have hS := sw_le hO (Nat.le_refl (nPW W))
  obtain ⟨S, eS⟩ : ∃ S, S = sN (wnN W) (nPW W) := ⟨_, rfl⟩
  rw [← eS] at hS
  rw [← eS]
  obtain ⟨cd, ecd⟩ : ∃ k, k = nn (W 6) := ⟨_, rfl⟩
  rw [← ecd] at hcd
  refine loopQ (X := Int32 × Hp) (fun f x => m_X12_pipes_L152 f 92 (lN S) x.1 x.2) (fun t => ∃ y, t = some ((), y) ∧ Fi (fun a => a = 102 ∨ a = 93) z y ∧ (∀ c, c < 144 → zI y 102 c = zI z 102 c + sm (tsW W c) (nPW W)) ∧ zI y 93 = V2 (zI z 93) W (nPW W)) (fun n x => x.1 = nI n ∧ Fi (fun a => a = 102 ∨ a = 93) z x.2 ∧ (∀ c, c < 144 → zI x.2 102 c = zI z 102 c + sm (tsW W c) n) ∧ zI x.2 93 = V2 (zI z 93) W n) (nPW W) ?hs ?he 0 FU (0, z) (by omega) (FU_pos (by omega)) ⟨rfl, Fi.rfl', fun c _ => (Int32.add_zero _).symm, ?h0⟩
  case h0 =>
    funext i
    unfold V2
    by_cases c : i = 14
    · rw [if_pos c, c]; exact (Int32.add_zero _).symm
    · rw [if_neg c, if_neg (by omega), if_neg (by omega)]
  case hs =>
    rintro n f ⟨v, x⟩ hn ⟨h1, h2, h3, h4⟩
    dsimp only at h1 h2 h3 h4
    subst h1
    have Mx := hM.fi h2
    have hc := pc_eq hO hn
    have hcl := hc.2
    have hwl := wn_le hO hn
    have lo : ∀ i, i < 14 → zI x 93 i = W i := fun i hi => by rw [h4]; unfold V2; rw [if_neg (by omega), if_neg (by omega), if_neg (by omega)]; exact hV i (by omega) (by omega)
    have hi : ∀ i, 624 + 6 * n ≤ i → zI x 93 i = zI z 93 i := fun i hi => by rw [h4]; unfold V2; rw [if_neg (by omega), if_neg (by omega), if_neg (by omega)]
    have e2 : zI x 93 2 = nI (nPW W) := by rw [lo 2 (by omega)]; exact np_eq hO
    have e6 : zI x 93 6 = nI cd := by rw [lo 6 (by omega)]; exact hcd.1
    have ec : zI x 93 (624 + 6 * n) = nI (pcN W n) := by rw [hi _ (by omega), hV _ (by omega) (by omega)]; exact hc.1
    have ew : zI x 103 n = nI (wnN W n) := by rw [h2.2.2.2.2 103 (by decide)]; exact h103 n hn
    obtain ⟨x1, hx1⟩ : ∃ y, y = wI x 102 (ups (zI x 102) (pcN W n) (zI x 102 (pcN W n) - nI (tkN W n))) := ⟨_, rfl⟩
    obtain ⟨x2, hx2⟩ : ∃ y, y = wI x1 93 (ups (ups (ups (zI x 93) (628 + 6 * n) (nI (tkN W n))) (629 + 6 * n) (zI x 93 (629 + 6 * n) + nI (tkN W n))) 14 (zI x 93 14 + nI (tkN W n))) := ⟨_, rfl⟩
    have M1 : LayM x1 := Mx.of (by rw [hx1]; rfl) (by rw [hx1]; rfl)
    have x193 : zI x1 93 = zI x 93 := by rw [hx1, zI_ne (by decide)]
    have B : m_X12_pipes_B213 (m_X12_pipes_L152 f) 92 (lN S) (nI n) (nI (624 + 6 * n)) (nI (tkN W n)) x = m_X12_pipes_L152 f 92 (lN S) (nI (n + 1)) x2 := by
      unfold m_X12_pipes_B213
      rw [gR_eq (by rw [mk_92 Mx]) (mr_92_24 Mx), gR_eq (by rw [mk_92 Mx]) (mr_92_1 Mx), aI_n (mk_93 Mx) (by omega) (by decide), ec, aI_n (mk_102 Mx) hcl (by decide), sI_n (mk_102 Mx) hcl (by decide), ← hx1]
      simp (disch := omega) [gI, gR, pI, pR, aI, sI, aL, sL, aO, aR, sR, aN, onul, bnd, isC, cpI, cpL, sLen, sCh, nwC, zK_wI, zR_wI, zL_wI, zN_wI, zI_wI, zK_wL, zR_wL, zI_wL, zN_wL, zL_wL, zK_wR, zI_wR, zL_wR, zN_wR, zR_wR, ups_eq, inb_nI, nI_clamp, wI_wI, nI_add, pk_mul, add_c, c_add, c_mul, lt_c, le_c, eq_c, gt_c, ge_c, inb_c, clamp_c, ladd, mk_92, mk_93, mk_94, mk_95, mk_96, mk_97, mk_98, mk_99, mk_100, mk_101, mk_102, mk_103, mk_104, mk_105, mk_106, mk_107, mk_108, mk_109, mk_110, mk_111, mk_112, mk_113, mk_114, mr_92_1, mr_92_2, mr_92_3, mr_92_4, mr_92_5, mr_92_7, mr_92_15, mr_92_16, mr_92_17, mr_92_24, mr_92_25, mr_92_26, mr_92_27, mr_92_28, mr_92_29, mr_92_30, mr_92_32, mr_92_33, mr_92_36, mr_92_37, mr_92_38, mr_92_39, M1, x193]
      rw [if_neg (show ¬ 14 = 629 + 6 * n by omega), if_neg (show ¬ 14 = 628 + 6 * n by omega), hx2]
    refine Or.inl ⟨(nI (n + 1), x2), ⟨rfl, ?_, fun c hc144 => ?_, ?_⟩, ?_⟩
    · dsimp only
      rw [hx2, hx1]
      exact (h2.trans (Fi.w (Or.inl rfl))).trans (Fi.w (Or.inr rfl))
    · dsimp only
      rw [hx2, zI_ne (by decide), hx1, zI_eq]
      show _ = zI z 102 c + (sm (tsW W c) n + tsW W c n)
      by_cases g : c = pcN W n
      · subst g
        rw [up_eq, h3 _ hcl, ← Int32.add_assoc]
        unfold tsW
        rw [if_pos rfl, Int32.sub_eq_add_neg]
      · rw [up_ne g, h3 c hc144]
        unfold tsW
        rw [if_neg (fun e => g e.symm), Int32.add_zero]
    · dsimp only
      rw [hx2, zI_eq]
      funext i
      simp only [ups_eq]
      have e4 : zI x 93 (629 + 6 * n) = zI z 93 (629 + 6 * n) := hi _ (by omega)
      have e14 : zI x 93 14 = zI z 93 14 + sm (fun p => nI (tkN W p)) n := by rw [h4]; unfold V2; rw [if_pos rfl]
      by_cases c14 : i = 14
      · rw [if_pos c14, e14]
        unfold V2
        rw [if_pos c14, Int32.add_assoc]
        rfl
      · rw [if_neg c14]
        by_cases c5 : i = 629 + 6 * n
        · rw [if_pos c5, e4]
          unfold V2
          rw [if_neg c14, if_neg (by omega), if_pos (by omega), c5, show (629 + 6 * n - 624) / 6 = n by omega]
        · rw [if_neg c5]
          by_cases c4 : i = 628 + 6 * n
          · rw [if_pos c4]
            unfold V2
            rw [if_neg c14, if_pos (by omega), c4, show (628 + 6 * n - 624) / 6 = n by omega]
          · rw [if_neg c4, h4]
            unfold V2
            rw [if_neg c14, if_neg c14]
            by_cases d4 : 624 ≤ i ∧ i < 624 + 6 * n ∧ (i - 624) % 6 = 4
            · rw [if_pos d4, if_pos (show 624 ≤ i ∧ i < 624 + 6 * (n + 1) ∧ (i - 624) % 6 = 4 by omega)]
            · rw [if_neg d4, if_neg (show ¬ (624 ≤ i ∧ i < 624 + 6 * (n + 1) ∧ (i - 624) % 6 = 4) by omega)]
              by_cases d5 : 624 ≤ i ∧ i < 624 + 6 * n ∧ (i - 624) % 6 = 5
              · rw [if_pos d5, if_pos (show 624 ≤ i ∧ i < 624 + 6 * (n + 1) ∧ (i - 624) % 6 = 5 by omega)]
              · rw [if_neg d5, if_neg (show ¬ (624 ≤ i ∧ i < 624 + 6 * (n + 1) ∧ (i - 624) % 6 = 5) by omega)]
    · dsimp only
      rw [m_X12_pipes_L152, ← B]
      by_cases c : cd < S
      · have t0 : tkN W n = wnN W n * cd / S := by unfold tkN; rw [← eS, ← ecd, if_pos c]
        have hm := Nat.mul_le_mul hwl (Nat.le_of_lt_succ hcd.2)
        have g1 : 0 < lg_cmp (lN S) (nI cd).toInt64 := by
          rw [lg_gt, nI_l (by omega)]
          exact (lN_lt (by omega) (by omega)).mpr c
        have g2 : ¬ lN S = 0 := fun e => absurd ((lN_eq (b := 0) (by omega) (by decide)).mp e) (by omega)
        have g3 : Int64.toInt32 ((nI (wnN W n)).toInt64 * (nI cd).toInt64 / lN S) = nI (tkN W n) := by
          rw [nI_l (by omega), nI_l (by omega), lN_mul, lN_div (by omega) (by omega) (by omega), lN_i, t0]
        simp (disch := omega) [gI, gR, pI, pR, aI, sI, aL, sL, aO, aR, sR, aN, onul, bnd, isC, cpI, cpL, sLen, sCh, nwC, zK_wI, zR_wI, zL_wI, zN_wI, zI_wI, zK_wL, zR_wL, zI_wL, zN_wL, zL_wL, zK_wR, zI_wR, zL_wR, zN_wR, zR_wR, ups_eq, inb_nI, nI_clamp, wI_wI, nI_add, pk_mul, add_c, c_add, c_mul, lt_c, le_c, eq_c, gt_c, ge_c, inb_c, clamp_c, ladd, mk_92, mk_93, mk_94, mk_95, mk_96, mk_97, mk_98, mk_99, mk_100, mk_101, mk_102, mk_103, mk_104, mk_105, mk_106, mk_107, mk_108, mk_109, mk_110, mk_111, mk_112, mk_113, mk_114, mr_92_1, mr_92_2, mr_92_3, mr_92_4, mr_92_5, mr_92_7, mr_92_15, mr_92_16, mr_92_17, mr_92_24, mr_92_25, mr_92_26, mr_92_27, mr_92_28, mr_92_29, mr_92_30, mr_92_32, mr_92_33, mr_92_36, mr_92_37, mr_92_38, mr_92_39, Mx, e2, e6, ew, nI_ltI, hn, g1, g2, g3]
      · have t0 : tkN W n = wnN W n := by unfold tkN; rw [← eS, ← ecd, if_neg c]
        have g1 : ¬ 0 < lg_cmp (lN S) (nI cd).toInt64 := by
          rw [lg_gt, nI_l (by omega)]
          exact fun e => c ((lN_lt (by omega) (by omega)).mp e)
        rw [t0]
        simp (disch := omega) [gI, gR, pI, pR, aI, sI, aL, sL, aO, aR, sR, aN, onul, bnd, isC, cpI, cpL, sLen, sCh, nwC, zK_wI, zR_wI, zL_wI, zN_wI, zI_wI, zK_wL, zR_wL, zI_wL, zN_wL, zL_wL, zK_wR, zI_wR, zL_wR, zN_wR, zR_wR, ups_eq, inb_nI, nI_clamp, wI_wI, nI_add, pk_mul, add_c, c_add, c_mul, lt_c, le_c, eq_c, gt_c, ge_c, inb_c, clamp_c, ladd, mk_92, mk_93, mk_94, mk_95, mk_96, mk_97, mk_98, mk_99, mk_100, mk_101, mk_102, mk_103, mk_104, mk_105, mk_106, mk_107, mk_108, mk_109, mk_110, mk_111, mk_112, mk_113, mk_114, mr_92_1, mr_92_2, mr_92_3, mr_92_4, mr_92_5, mr_92_7, mr_92_15, mr_92_16, mr_92_17, mr_92_24, mr_92_25, mr_92_26, mr_92_27, mr_92_28, mr_92_29, mr_92_30, mr_92_32, mr_92_33, mr_92_36, mr_92_37, mr_92_38, mr_92_39, Mx, e2, e6, ew, nI_ltI, hn, g1]
  case he =>
    rintro f ⟨v, x⟩ ⟨h1, h2, h3, h4⟩
    dsimp only at h1 h2 h3 h4 ⊢
    subst h1
    have Mx := hM.fi h2
    have e2 : zI x 93 2 = nI (nPW W) := by rw [h4]; unfold V2; rw [if_neg (by omega), if_neg (by omega), if_neg (by omega), hV 2 (by omega) (by omega)]; exact np_eq hO
    refine ⟨x, ?_, h2, h3, h4⟩
    rw [m_X12_pipes_L152]
    simp (disch := omega) [gI, gR, pI, pR, aI, sI, aL, sL, aO, aR, sR, aN, onul, bnd, isC, cpI, cpL, sLen, sCh, nwC, zK_wI, zR_wI, zL_wI, zN_wI, zI_wI, zK_wL, zR_wL, zI_wL, zN_wL, zL_wL, zK_wR, zI_wR, zL_wR, zN_wR, zR_wR, ups_eq, inb_nI, nI_clamp, wI_wI, nI_add, pk_mul, add_c, c_add, c_mul, lt_c, le_c, eq_c, gt_c, ge_c, inb_c, clamp_c, ladd, mk_92, mk_93, mk_94, mk_95, mk_96, mk_97, mk_98, mk_99, mk_100, mk_101, mk_102, mk_103, mk_104, mk_105, mk_106, mk_107, mk_108, mk_109, mk_110, mk_111, mk_112, mk_113, mk_114, mr_92_1, mr_92_2, mr_92_3, mr_92_4, mr_92_5, mr_92_7, mr_92_15, mr_92_16, mr_92_17, mr_92_24, mr_92_25, mr_92_26, mr_92_27, mr_92_28, mr_92_29, mr_92_30, mr_92_32, mr_92_33, mr_92_36, mr_92_37, mr_92_38, mr_92_39, Mx, e2, nI_ltI]
