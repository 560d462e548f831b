/-! ===== the model's begins ===== -/
theorem lt_c {n k : Nat} (hn : n < 2 ^ 31) (hk : (OfNat.ofNat k : Nat) < 2 ^ 31) : (nI n < (no_index (OfNat.ofNat k) : Int32)) ↔ n < (OfNat.ofNat k : Nat) := nI_ltI hn hk
theorem gt_c {n k : Nat} (hn : n < 2 ^ 31) (hk : (OfNat.ofNat k : Nat) < 2 ^ 31) : ((no_index (OfNat.ofNat k) : Int32) < nI n) ↔ (OfNat.ofNat k : Nat) < n := nI_ltI hk hn
theorem le_c {n k : Nat} (hn : n < 2 ^ 31) (hk : (OfNat.ofNat k : Nat) < 2 ^ 31) : (nI n ≤ (no_index (OfNat.ofNat k) : Int32)) ↔ n ≤ (OfNat.ofNat k : Nat) := nI_leI hn hk
theorem ge_c {n k : Nat} (hn : n < 2 ^ 31) (hk : (OfNat.ofNat k : Nat) < 2 ^ 31) : ((no_index (OfNat.ofNat k) : Int32) ≤ nI n) ↔ (OfNat.ofNat k : Nat) ≤ n := nI_leI hk hn
theorem eq_c {n k : Nat} (hn : n < 2 ^ 31) (hk : (OfNat.ofNat k : Nat) < 2 ^ 31) : (nI n = (no_index (OfNat.ofNat k) : Int32)) ↔ n = (OfNat.ofNat k : Nat) := nI_eq hn hk
theorem inb_c {k m : Nat} (h : (OfNat.ofNat k : Nat) < m) (hm : m < 2 ^ 31) : inb (no_index (OfNat.ofNat k) : Int32) m = true := inb_nI (n := k) h hm
theorem clamp_c {k : Nat} (h : (OfNat.ofNat k : Nat) < 2 ^ 31) : (no_index (OfNat.ofNat k) : Int32).toNatClampNeg = (OfNat.ofNat k : Nat) := nI_clamp (n := k) h
theorem add_c (n k : Nat) : nI n + (no_index (OfNat.ofNat k) : Int32) = nI (n + (OfNat.ofNat k : Nat)) := nI_add n k
theorem c_add (n k : Nat) : (no_index (OfNat.ofNat k) : Int32) + nI n = nI ((OfNat.ofNat k : Nat) + n) := nI_add k n
theorem c_mul (n k : Nat) : (no_index (OfNat.ofNat k) : Int32) * nI n = nI ((OfNat.ofNat k : Nat) * n) := pk_mul k n
theorem heatNow_ok {z : Hp} (h : LayM z) : m_X12_heatNow 92 z = some (sm (fun c => if zI z 93 (480 + c) = 1 then 0 else zI z 93 (192 + c) - zI z 93 (336 + c)) 144, z) := by
  unfold m_X12_heatNow
  refine loopQ (X := Int32 × Int32) (fun f x => m_X12_heatNow_L4 f 92 x.1 x.2 z) (fun t => t = some (sm (fun c => if zI z 93 (480 + c) = 1 then 0 else zI z 93 (192 + c) - zI z 93 (336 + c)) 144, z)) (fun n x => x.2 = nI n ∧ x.1 = sm (fun c => if zI z 93 (480 + c) = 1 then 0 else zI z 93 (192 + c) - zI z 93 (336 + c)) n) 144 ?hs ?he 0 FU (0, 0) (by decide) (by decide) ⟨rfl, rfl⟩
  case hs =>
    rintro n f ⟨a, v⟩ hn ⟨h1, h2⟩
    dsimp only at h1 h2
    subst h1
    refine Or.inl ⟨(sm (fun c => if zI z 93 (480 + c) = 1 then 0 else zI z 93 (192 + c) - zI z 93 (336 + c)) (n + 1), nI (n + 1)), ⟨rfl, rfl⟩, ?_⟩
    dsimp only
    have g1 : ∀ {α : Type} (f : Nat → Option α), gR 12 1 z 92 f = f 93 := fun f => gR_eq (by rw [mk_92 h]) (mr_92_1 h)
    rw [m_X12_heatNow_L4, if_pos (lt_lit hn (by decide)), g1, lit_add, aI_n (mk_93 h) (by omega) (by decide)]
    by_cases c : zI z 93 (480 + n) = 1
    · rw [if_pos c]
      unfold m_X12_heatNow_B51
      rw [h2, nI_1]
      refine congrArg (fun q => m_X12_heatNow_L4 f 92 (sm _ n + q) (nI (n + 1)) z) ?_
      exact (if_pos c).symm
    · rw [if_neg c, g1, lit_add, aI_n (mk_93 h) (by omega) (by decide), g1, lit_add, aI_n (mk_93 h) (by omega) (by decide)]
      unfold m_X12_heatNow_B51
      rw [h2, nI_1]
      refine congrArg (fun q => m_X12_heatNow_L4 f 92 (sm _ n + q) (nI (n + 1)) z) ?_
      exact (if_neg c).symm
  case he =>
    rintro f ⟨a, v⟩ ⟨h1, h2⟩
    dsimp only at h1 h2 ⊢
    subst h1
    rw [m_X12_heatNow_L4, if_neg (nlt_lit (Nat.le_refl _) (by decide)), h2]
/-- the world behind begins -/
def beginW (W : Nat → Int32) (i : Nat) : Int32 :=
  if i = 18 then sm (fun _ => W 5) 144 else if 192 ≤ i ∧ i < 336 then W 5 else if 336 ≤ i ∧ i < 624 then 0 else if 790 ≤ i ∧ i < 810 ∧ i % 2 = 0 then -1 else if 732 ≤ i ∧ i < 750 ∧ i % 3 = 2 then -1 else W i
theorem begins_ok {z : Hp} (h : LayM z) : m_X12_begins 92 z = some ((), wI z 93 (beginW (zI z 93))) := by
  unfold m_X12_begins
  refine loopQ (X := Int32 × Hp) (fun f x => m_X12_begins_L2 m_X12_begins_B53 f 92 x.1 x.2) (fun t => t = some ((), wI z 93 (beginW (zI z 93)))) (fun n x => x.1 = nI n ∧ x.2 = wI z 93 (fun i => if 192 ≤ i ∧ i < 192 + n then zI z 93 5 else if 336 ≤ i ∧ i < 336 + n then 0 else if 480 ≤ i ∧ i < 480 + n then 0 else zI z 93 i)) 144 ?hs ?he 0 FU (0, z) (by decide) (by decide) ⟨rfl, ?h0⟩
  case h0 =>
    refine (wI_self z 93).symm.trans (congrArg (wI z 93) (funext fun i => ?_))
    rw [if_neg (by omega), if_neg (by omega), if_neg (by omega)]
  case hs =>
    rintro n f ⟨v, y⟩ hn ⟨h1, h2⟩
    dsimp only at h1 h2
    subst h1
    subst h2
    refine Or.inl ⟨(nI (n + 1), wI z 93 (fun i => if 192 ≤ i ∧ i < 192 + (n + 1) then zI z 93 5 else if 336 ≤ i ∧ i < 336 + (n + 1) then 0 else if 480 ≤ i ∧ i < 480 + (n + 1) then 0 else zI z 93 i)), ⟨rfl, rfl⟩, ?_⟩
    dsimp only
    rw [m_X12_begins_L2]
    simp (disch := omega) [gI, gR, pI, pR, aI, sI, aL, sL, aO, aR, sR, aN, onul, bnd, isC, cpI, cpL, sLen, sCh, nwC, zK_wI, zR_wI, zL_wI, zN_wI, zI_wI, zK_wL, zR_wL, zI_wL, zN_wL, zL_wL, zK_wR, zI_wR, zL_wR, zN_wR, zR_wR, ups_eq, inb_nI, nI_clamp, wI_wI, nI_add, pk_mul, add_c, c_add, c_mul, lt_c, le_c, eq_c, gt_c, ge_c, inb_c, clamp_c, mk_92, mk_93, mk_94, mk_95, mk_96, mk_97, mk_98, mk_99, mk_100, mk_101, mk_102, mk_103, mk_104, mk_105, mk_106, mk_107, mk_108, mk_109, mk_110, mk_111, mk_112, mk_113, mk_114, mr_92_1, mr_92_2, mr_92_3, mr_92_4, mr_92_5, mr_92_7, mr_92_15, mr_92_16, mr_92_17, mr_92_24, mr_92_25, mr_92_26, mr_92_27, mr_92_28, mr_92_29, mr_92_30, mr_92_32, mr_92_33, mr_92_36, mr_92_37, mr_92_38, mr_92_39, h, hn]
    congr 1
    congr 1
    funext i
    simp only [ups_eq]
    grind
  case he =>
    rintro f ⟨v, y⟩ ⟨h1, h2⟩
    dsimp only at h1 h2 ⊢
    subst h1
    subst h2
    rw [m_X12_begins_L2, if_neg (nlt_lit (Nat.le_refl _) (by decide))]
    unfold m_X12_begins_B53
    generalize hW : (fun i => if 192 ≤ i ∧ i < 192 + 144 then zI z 93 5 else if 336 ≤ i ∧ i < 336 + 144 then 0 else if 480 ≤ i ∧ i < 480 + 144 then 0 else zI z 93 i) = W
    refine loopQ (X := Int32 × Hp) (fun f x => m_X12_begins_L55 m_X12_begins_B80 f 92 x.1 x.2) (fun t => t = some ((), wI z 93 (beginW (zI z 93)))) (fun n x => x.1 = nI n ∧ x.2 = wI z 93 (fun i => if 790 ≤ i ∧ i < 790 + 2 * n ∧ i % 2 = 0 then -1 else W i)) 10 ?hs ?he 0 FU (0, wI z 93 W) (by decide) (by decide) ⟨rfl, ?h0⟩
    case h0 =>
      refine congrArg (wI z 93) (funext fun i => ?_)
      grind
    case hs =>
      rintro n f ⟨v, y⟩ hn ⟨h1, h2⟩
      dsimp only at h1 h2
      subst h1
      subst h2
      refine Or.inl ⟨(nI (n + 1), wI z 93 (fun i => if 790 ≤ i ∧ i < 790 + 2 * (n + 1) ∧ i % 2 = 0 then -1 else W i)), ⟨rfl, rfl⟩, ?_⟩
      dsimp only
      rw [m_X12_begins_L55]
      simp (disch := omega) [gI, gR, pI, pR, aI, sI, aL, sL, aO, aR, sR, aN, onul, bnd, isC, cpI, cpL, sLen, sCh, nwC, zK_wI, zR_wI, zL_wI, zN_wI, zI_wI, zK_wL, zR_wL, zI_wL, zN_wL, zL_wL, zK_wR, zI_wR, zL_wR, zN_wR, zR_wR, ups_eq, inb_nI, nI_clamp, wI_wI, nI_add, pk_mul, add_c, c_add, c_mul, lt_c, le_c, eq_c, gt_c, ge_c, inb_c, clamp_c, mk_92, mk_93, mk_94, mk_95, mk_96, mk_97, mk_98, mk_99, mk_100, mk_101, mk_102, mk_103, mk_104, mk_105, mk_106, mk_107, mk_108, mk_109, mk_110, mk_111, mk_112, mk_113, mk_114, mr_92_1, mr_92_2, mr_92_3, mr_92_4, mr_92_5, mr_92_7, mr_92_15, mr_92_16, mr_92_17, mr_92_24, mr_92_25, mr_92_26, mr_92_27, mr_92_28, mr_92_29, mr_92_30, mr_92_32, mr_92_33, mr_92_36, mr_92_37, mr_92_38, mr_92_39, h, hn]
      congr 1
      congr 1
      funext i
      simp only [ups_eq]
      grind
    case he =>
      rintro f ⟨v, y⟩ ⟨h1, h2⟩
      dsimp only at h1 h2 ⊢
      subst h1
      subst h2
      rw [m_X12_begins_L55, if_neg (nlt_lit (Nat.le_refl _) (by decide))]
      unfold m_X12_begins_B80
      generalize hV : (fun i => if 790 ≤ i ∧ i < 790 + 2 * 10 ∧ i % 2 = 0 then -1 else W i) = V
      refine loopQ (X := Int32 × Hp) (fun f x => m_X12_begins_L82 m_X12_begins_B109 f 92 x.1 x.2) (fun t => t = some ((), wI z 93 (beginW (zI z 93)))) (fun n x => x.1 = nI n ∧ x.2 = wI z 93 (fun i => if 732 ≤ i ∧ i < 732 + 3 * n ∧ i % 3 = 2 then -1 else V i)) 6 ?hs ?he 0 FU (0, wI z 93 V) (by decide) (by decide) ⟨rfl, ?h0⟩
      case h0 =>
        refine congrArg (wI z 93) (funext fun i => ?_)
        grind
      case hs =>
        rintro n f ⟨v, y⟩ hn ⟨h1, h2⟩
        dsimp only at h1 h2
        subst h1
        subst h2
        refine Or.inl ⟨(nI (n + 1), wI z 93 (fun i => if 732 ≤ i ∧ i < 732 + 3 * (n + 1) ∧ i % 3 = 2 then -1 else V i)), ⟨rfl, rfl⟩, ?_⟩
        dsimp only
        rw [m_X12_begins_L82]
        simp (disch := omega) [gI, gR, pI, pR, aI, sI, aL, sL, aO, aR, sR, aN, onul, bnd, isC, cpI, cpL, sLen, sCh, nwC, zK_wI, zR_wI, zL_wI, zN_wI, zI_wI, zK_wL, zR_wL, zI_wL, zN_wL, zL_wL, zK_wR, zI_wR, zL_wR, zN_wR, zR_wR, ups_eq, inb_nI, nI_clamp, wI_wI, nI_add, pk_mul, add_c, c_add, c_mul, lt_c, le_c, eq_c, gt_c, ge_c, inb_c, clamp_c, mk_92, mk_93, mk_94, mk_95, mk_96, mk_97, mk_98, mk_99, mk_100, mk_101, mk_102, mk_103, mk_104, mk_105, mk_106, mk_107, mk_108, mk_109, mk_110, mk_111, mk_112, mk_113, mk_114, mr_92_1, mr_92_2, mr_92_3, mr_92_4, mr_92_5, mr_92_7, mr_92_15, mr_92_16, mr_92_17, mr_92_24, mr_92_25, mr_92_26, mr_92_27, mr_92_28, mr_92_29, mr_92_30, mr_92_32, mr_92_33, mr_92_36, mr_92_37, mr_92_38, mr_92_39, h, hn]
        congr 1
        congr 1
        funext i
        simp only [ups_eq]
        grind
      case he =>
        rintro f ⟨v, y⟩ ⟨h1, h2⟩
        dsimp only at h1 h2 ⊢
        subst h1
        subst h2
        rw [m_X12_begins_L82, if_neg (nlt_lit (Nat.le_refl _) (by decide))]
        unfold m_X12_begins_B109
        have hL : LayM (wI z 93 (fun i => if 732 ≤ i ∧ i < 732 + 3 * 6 ∧ i % 3 = 2 then -1 else V i)) := h.of rfl rfl
        simp (disch := omega) [gI, gR, pI, pR, aI, sI, aL, sL, aO, aR, sR, aN, onul, bnd, isC, cpI, cpL, sLen, sCh, nwC, zK_wI, zR_wI, zL_wI, zN_wI, zI_wI, zK_wL, zR_wL, zI_wL, zN_wL, zL_wL, zK_wR, zI_wR, zL_wR, zN_wR, zR_wR, ups_eq, inb_nI, nI_clamp, wI_wI, nI_add, pk_mul, add_c, c_add, c_mul, lt_c, le_c, eq_c, gt_c, ge_c, inb_c, clamp_c, mk_92, mk_93, mk_94, mk_95, mk_96, mk_97, mk_98, mk_99, mk_100, mk_101, mk_102, mk_103, mk_104, mk_105, mk_106, mk_107, mk_108, mk_109, mk_110, mk_111, mk_112, mk_113, mk_114, mr_92_1, mr_92_2, mr_92_3, mr_92_4, mr_92_5, mr_92_7, mr_92_15, mr_92_16, mr_92_17, mr_92_24, mr_92_25, mr_92_26, mr_92_27, mr_92_28, mr_92_29, mr_92_30, mr_92_32, mr_92_33, mr_92_36, mr_92_37, mr_92_38, mr_92_39, h, heatNow_ok hL]
        refine congrArg (wI z 93) (funext fun i => ?_)
        rw [ups_eq]
        unfold beginW
        by_cases c : i = 18
        · rw [if_pos c, if_pos c]
          refine sm_congr fun j hj => ?_
          subst hV
          subst hW
          grind
        · subst hV
          subst hW
          grind
