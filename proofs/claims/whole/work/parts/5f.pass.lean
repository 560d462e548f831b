/-! ===== a tick of the model up to its houses ===== -/
def passW (W : Nat → Int32) (i : Nat) : Int32 :=
  if i = 1 then W 1 + 1 else if i = 14 then W 14 + sm (fun p => nI (tkN W p)) (nPW W) else if i = 15 then W 15 + sm (rcW W) 144 else if i = 16 then W 16 + sm (scS W) 144
  else if 192 ≤ i ∧ i < 336 then wmW W (i - 192) else if 336 ≤ i ∧ i < 480 then icW W (i - 336)
  else if 624 ≤ i ∧ i < 624 + 6 * nPW W ∧ (i - 624) % 6 = 4 then nI (tkN W ((i - 624) / 6)) else if 624 ≤ i ∧ i < 624 + 6 * nPW W ∧ (i - 624) % 6 = 5 then W i + nI (tkN W ((i - 624) / 6)) else W i
theorem passW_eq {W : Nat → Int32} : ups (V3 (V2 (V1 W 144) W (nPW W)) W 144) 1 (W 1 + 1) = passW W := by
  funext i
  simp only [ups_eq]
  unfold passW V3 V2 V1
  by_cases c1 : i = 1
  · simp [c1]
  by_cases c14 : i = 14
  · subst c14; simp
  by_cases c15 : i = 15
  · subst c15; simp
  by_cases c16 : i = 16
  · subst c16; simp
  simp [c1, c14, c15, c16]
theorem zero102 {z : Hp} (K : Nat → Hp → Option (Unit × Hp)) (hM : LayM z) : m_X12_ticks_L2 K FU 92 0 z = K 92 (wI z 102 (fun i => if i < 144 then 0 else zI z 102 i)) := by
  refine loopQ (X := Int32 × Hp) (fun f x => m_X12_ticks_L2 K f 92 x.1 x.2) (fun t => t = K 92 (wI z 102 (fun i => if i < 144 then 0 else zI z 102 i))) (fun n x => x.1 = nI n ∧ x.2 = wI z 102 (fun i => if i < n then 0 else zI z 102 i)) 144 ?hs ?he 0 FU (0, z) (by decide) (by decide) ⟨rfl, ?h0⟩
  case h0 => simp [wI_self]
  case hs =>
    rintro n f ⟨v, y⟩ hn ⟨h1, h2⟩
    dsimp only at h1 h2
    subst h1 h2
    refine Or.inl ⟨(nI (n + 1), wI z 102 (fun i => if i < n + 1 then 0 else zI z 102 i)), ⟨rfl, rfl⟩, ?_⟩
    dsimp only
    rw [m_X12_ticks_L2]
    simp (disch := omega) [gI, gR, pI, pR, aI, sI, aL, sL, aO, aR, sR, aN, onul, bnd, isC, cpI, cpL, sLen, sCh, nwC, zK_wI, zR_wI, zL_wI, zN_wI, zI_wI, zK_wL, zR_wL, zI_wL, zN_wL, zL_wL, zK_wR, zI_wR, zL_wR, zN_wR, zR_wR, ups_eq, inb_nI, nI_clamp, wI_wI, nI_add, pk_mul, add_c, c_add, c_mul, lt_c, le_c, eq_c, gt_c, ge_c, inb_c, clamp_c, ladd, mk_92, mk_93, mk_94, mk_95, mk_96, mk_97, mk_98, mk_99, mk_100, mk_101, mk_102, mk_103, mk_104, mk_105, mk_106, mk_107, mk_108, mk_109, mk_110, mk_111, mk_112, mk_113, mk_114, mr_92_1, mr_92_2, mr_92_3, mr_92_4, mr_92_5, mr_92_7, mr_92_15, mr_92_16, mr_92_17, mr_92_24, mr_92_25, mr_92_26, mr_92_27, mr_92_28, mr_92_29, mr_92_30, mr_92_32, mr_92_33, mr_92_36, mr_92_37, mr_92_38, mr_92_39, hM, hn]
    refine congrArg (fun q => m_X12_ticks_L2 K f 92 (nI (n + 1)) (wI z 102 q)) (funext fun i => ?_)
    simp only [ups_eq]
    grind
  case he =>
    rintro f ⟨v, y⟩ ⟨h1, h2⟩
    dsimp only at h1 h2 ⊢
    subst h1 h2
    rw [m_X12_ticks_L2, if_neg (nlt_lit (Nat.le_refl _) (by decide))]
theorem passM_ok {z : Hp} {q : Nat} (hM : LayM z) (hO : OkW (zI z 93) q) :
    ∃ y, m_X12_ticks 92 z = m_X12_ticks_L102 m_X12_ticks_B189 FU 92 0 y ∧ Fi (fun a => a = 93 ∨ a = 102 ∨ a = 103) z y ∧ zI y 93 = passW (zI z 93) := by
  obtain ⟨W, hW⟩ : ∃ W, W = zI z 93 := ⟨_, rfl⟩
  obtain ⟨y1, e1, f1, g1, v1⟩ := half1_ok m_X12_ticks_B58 hM hO
  rw [← hW] at hO g1 v1
  have M1 := hM.fi f1
  have V1e : ∀ i, i ≠ 15 → i ≠ 16 → zI y1 93 i = W i := fun i a b => by rw [v1]; unfold V1; rw [if_neg a, if_neg b]
  obtain ⟨y2, e2, f2, g2⟩ := wantsM_ok m_X12_pipes_B150 M1 V1e hO
  have M2 := M1.fi f2
  have y293 : zI y2 93 = zI y1 93 := f2.2.2.2.2 93 (by decide)
  obtain ⟨y3, e3, f3, g3, v3⟩ := takesM_ok M2 (fun i a b => by rw [y293]; exact V1e i a b) hO g2
  have M3 := M2.fi f3
  have hA : ∀ i, 20 ≤ i → i < 624 → zI y3 93 i = W i := fun i a b => by
    rw [v3]
    unfold V2
    rw [if_neg (by omega), if_neg (by omega), if_neg (by omega), y293]
    exact V1e i (by omega) (by omega)
  have hh : ∀ c, c < 144 → zI y3 102 c = htW W c := fun c hc => by
    rw [g3 c hc, f2.2.2.2.2 102 (by decide), g1 c hc]
    rfl
  have e4 := half2_ok m_X12_ticks_B90 M3 hA hO hh
  obtain ⟨y4, hy4⟩ : ∃ y, y = wI y3 93 (V3 (zI y3 93) W 144) := ⟨_, rfl⟩
  have M4 : LayM y4 := M3.of (by rw [hy4]; rfl) (by rw [hy4]; rfl)
  have y493 : zI y4 93 = V3 (V2 (V1 W 144) W (nPW W)) W 144 := by rw [hy4, zI_eq, v3, y293, v1]
  have y41 : zI y4 93 1 = W 1 := by
    rw [y493]
    unfold V3 V2 V1
    rw [if_neg (by decide), if_neg (by decide), if_neg (by decide), if_neg (by omega), if_neg (by omega), if_neg (by decide), if_neg (by decide)]
  obtain ⟨y5, hy5⟩ : ∃ y, y = wI y4 93 (ups (zI y4 93) 1 (W 1 + 1)) := ⟨_, rfl⟩
  refine ⟨y5, ?_, ?_, ?_⟩
  · unfold m_X12_ticks
    rw [zero102 _ hM]
    unfold m_X12_ticks_B22
    rw [e1]
    unfold m_X12_ticks_B58 m_X12_pipes
    rw [isC_eq (by rw [mk_92 M1]), e2]
    unfold m_X12_pipes_B150
    rw [e3, bnd_some, e4, ← hy4]
    unfold m_X12_ticks_B90
    rw [gR_eq (by rw [mk_92 M4]) (mr_92_1 M4), show (1 : Int32) = nI 1 from rfl, aI_n (mk_93 M4) (by decide) (by decide), sI_n (mk_93 M4) (by decide) (by decide), y41]
    rw [show (nI 1 : Int32) = 1 from rfl, ← hy5]
  · rw [hy5, hy4]
    exact ((((f1.mono (fun a h => by omega)).trans (f2.mono (fun a h => by omega))).trans (f3.mono (fun a h => by omega))).trans (Fi.w (by omega))).trans (Fi.w (by omega))
  · rw [hy5, zI_eq, y493, ← hW]
    exact passW_eq
