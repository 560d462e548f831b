/-! ===== lacks, dig ===== -/
noncomputable def gapsN (W : Nat → Int32) : Nat := Classical.epsilon (fun n : Nat => ∃ B, GpR W n B)
theorem gapsN_eq {W : Nat → Int32} {n : Nat} {B : BS} (h : GpR W n B) : n = gapsN W := by
  obtain ⟨B2, g⟩ := Classical.epsilon_spec (p := fun n : Nat => ∃ B, GpR W n B) ⟨n, B, h⟩
  exact (h.uniq g).1
def mxL (W : Nat → Int32) : Nat → Int32
  | 0 => 0
  | n + 1 => maxJ (mxL W n) (liftW W n)
noncomputable def cvW (W : Nat → Int32) (k : Nat) : Int32 := if k = 0 then bI (decide (W 7 = 1) && decide (wayV W = -1)) else if k = 1 then (if W 7 = 1 then thickV W else 0) else if k = 2 then (if W 7 = 1 then nI (gapsN W) else 0) else if k = 3 then W 1 else mxL W 12
noncomputable def chB (W : Nat → Int32) (r i : Nat) : Bool :=
  if nn (W (751 + 10 * r + 3 * i)) = 0 then decide (cvW W 0 = 1) else if W (752 + 10 * r + 3 * i) = 60 then decide (cvW W (nn (W (751 + 10 * r + 3 * i))) < W (753 + 10 * r + 3 * i)) else decide (W (753 + 10 * r + 3 * i) < cvW W (nn (W (751 + 10 * r + 3 * i))))
noncomputable def lkW (W : Nat → Int32) (r : Nat) : Int32 := bits (fun i => !chB W r i) (nCW W r)
theorem cv3 {W : Nat → Int32} : cvW W 3 = W 1 := by
  unfold cvW
  rw [if_neg (by decide), if_neg (by decide), if_neg (by decide), if_pos rfl]
theorem cv4 {W : Nat → Int32} : cvW W 4 = mxL W 12 := by
  unfold cvW
  rw [if_neg (by decide), if_neg (by decide), if_neg (by decide), if_neg (by decide)]
def WQ (z : Hp) : Prop := zR z 74 3 = some 78 ∧ zR z 74 4 = some 79 ∨ zR z 74 3 = some 79 ∧ zR z 74 4 = some 78
theorem greatC_ok {z : Hp} {s : Nat} {W : Nat → Int32} (hS : LayS z s) (hR : RelS z s W) : m_X8_greatestLift s z = some (mxL W 12, z) := by
  unfold m_X8_greatestLift
  refine loopQ (X := Int32 × Int32) (fun f x => m_X8_greatestLift_L4 f s x.1 x.2 z) (fun t => t = some (mxL W 12, z)) (fun n x => x.2 = nI n ∧ x.1 = mxL W n) 12 ?hs ?he 0 FU (0, 0) (by decide) (by decide) ⟨rfl, rfl⟩
  case hs =>
    rintro n f ⟨a, v⟩ hn ⟨h1, h2⟩
    dsimp only at h1 h2
    subst h1 h2
    refine Or.inl ⟨(mxL W (n + 1), nI (n + 1)), ⟨rfl, rfl⟩, ?_⟩
    dsimp only
    rw [m_X8_greatestLift_L4, if_pos (lt_lit hn (by decide)), isC_eq (by rw [sk_0 hS]), liftC_ok hS hR hn, bnd_some, max_ok, bnd_some, nI_1]
    rfl
  case he =>
    rintro f ⟨a, v⟩ ⟨h1, h2⟩
    dsimp only at h1 h2 ⊢
    subst h1 h2
    rw [m_X8_greatestLift_L4, if_neg (nlt_lit (Nat.le_refl _) (by decide))]
theorem greatM_ok {z : Hp} {q : Nat} (hM : LayM z) (hO : OkW (zI z 93) q) : m_X12_wordOf_L21 FU 92 0 0 z = some (mxL (zI z 93) 12, z) := by
  refine loopQ (X := Int32 × Int32) (fun f x => m_X12_wordOf_L21 f 92 x.1 x.2 z) (fun t => t = some (mxL (zI z 93) 12, z)) (fun n x => x.2 = nI n ∧ x.1 = mxL (zI z 93) n) 12 ?hs ?he 0 FU (0, 0) (by decide) (by decide) ⟨rfl, rfl⟩
  case hs =>
    rintro n f ⟨a, v⟩ hn ⟨h1, h2⟩
    dsimp only at h1 h2
    subst h1 h2
    refine Or.inl ⟨(mxL (zI z 93) (n + 1), nI (n + 1)), ⟨rfl, rfl⟩, ?_⟩
    dsimp only
    rw [m_X12_wordOf_L21, if_pos (lt_lit hn (by decide)), isC_eq (by rw [mk_92 hM]), liftM_ok hM hO hn, bnd_some, max_ok, bnd_some, nI_1]
    rfl
  case he =>
    rintro f ⟨a, v⟩ ⟨h1, h2⟩
    dsimp only at h1 h2 ⊢
    subst h1 h2
    rw [m_X12_wordOf_L21, if_neg (nlt_lit (Nat.le_refl _) (by decide))]
theorem measureC {z : Hp} {s d k : Nat} (h : In z s d) (hk : k < 5) : ∃ y, m_X11_measure 0 (nI k) z = some (cvW (zI z 93) k, y) ∧ FW z y ∧ WQ y := by
  have hS := in_S h; have hR := in_R h; have hO := in_ok h; have hM := in_M h; have hC := in_C h; have hN := in_now h
  have hs := in_lo h
  have hq := in_wq h
  have wq : ∀ y, Fi (fun a => 74 ≤ a ∧ a ≤ 82) z y → WQ y := fun y F => by unfold WQ; rw [F.2.2.2.1]; exact hq
  have k5 : k = 0 ∨ k = 1 ∨ k = 2 ∨ k = 3 ∨ k = 4 := by omega
  have scp : (0 < zI z s 10) ↔ zI z 93 7 = 1 := by
    rw [rs_sc hR]
    by_cases g : zI z 93 7 = 1
    · obtain ⟨n, e, n1, n2⟩ := sc_pos hO g
      rw [e]
      exact ⟨fun _ => g, fun _ => nI_lt (a := 0) (by omega) (by omega)⟩
    · rw [(sc_iff hO).mpr g]
      exact ⟨fun q => absurd q (by decide), fun q => absurd q g⟩
  unfold m_X11_measure
  rw [gR_eq (by rw [ck_0 hC]) hN, gI_eq (by rw [sk_0 hS])]
  -- what the shaft is not needed for
  have oth : ∀ t0 : Int32, k = 3 ∨ k = 4 → ∃ y, m_X11_measure_B15 0 (nI k) t0 z = some (cvW (zI z 93) k, y) ∧ FW z y ∧ WQ y := by
    intro t0 hk2
    unfold m_X11_measure_B15
    rcases hk2 with rfl | rfl
    · refine ⟨z, ?_, FW.rfl', hq⟩
      rw [if_neg (by decide), if_neg (by decide), if_neg (by decide), if_pos (show nI 3 = 3 from rfl), gR_eq (by rw [ck_0 hC]) hN, gI_eq (by rw [sk_0 hS]), rs_ticks hR, cv3]
    · refine ⟨z, ?_, FW.rfl', hq⟩
      rw [if_neg (by decide), if_neg (by decide), if_neg (by decide), if_neg (by decide), gR_eq (by rw [ck_0 hC]) hN, isC_eq (by rw [sk_0 hS]), greatC_ok hS hR, bnd_some, cv4]
  by_cases g : zI z 93 7 = 1
  · rw [if_pos (scp.mpr g)]
    rcases k5 with rfl | rfl | rfl | k3 | k4
    · obtain ⟨y, r, F⟩ := shutC hC hS hR hO (by omega) hq
      refine ⟨y, ?_, FW.fi F, wq y F⟩
      unfold m_X11_measure_B15 cvW
      rw [if_pos (show nI 0 = 0 from rfl), if_neg (by decide), gR_eq (by rw [ck_0 hC]) (cr_0_6 hC), gR_eq (by rw [ck_0 hC]) hN, isC_eq (by rw [ck_74 hC]), r, bnd_some, if_pos rfl]
      by_cases c : wayV (zI z 93) = -1 <;> simp [c, g, bI]
    · obtain ⟨y, r, F, q⟩ := thickC hC hS hR hO g (by omega) hq
      refine ⟨y, ?_, F, q⟩
      unfold m_X11_measure_B15 cvW
      rw [if_neg (by decide), if_pos (show nI 1 = 1 from rfl), if_neg (by decide), gR_eq (by rw [ck_0 hC]) (cr_0_6 hC), gR_eq (by rw [ck_0 hC]) hN, isC_eq (by rw [ck_74 hC]), r, bnd_some, if_neg (by decide), if_pos rfl, if_pos g]
    · obtain ⟨qa, hqa1, hqa⟩ : ∃ qa, zR z 74 3 = some qa ∧ (qa = 78 ∨ qa = 79) := by
        rcases hq with g | g
        · exact ⟨78, g.1, Or.inl rfl⟩
        · exact ⟨79, g.1, Or.inr rfl⟩
      obtain ⟨n, y, B, r, _, F, _, gp, _⟩ := fewG_ok hC hS hR hO g (by omega) hqa1 hqa
      refine ⟨y, ?_, FW.fi F, wq y F⟩
      unfold m_X11_measure_B15 cvW
      rw [if_neg (by decide), if_neg (by decide), if_pos (show nI 2 = 2 from rfl), if_neg (by decide), gR_eq (by rw [ck_0 hC]) (cr_0_6 hC), gR_eq (by rw [ck_0 hC]) hN, isC_eq (by rw [ck_74 hC]), r, bnd_some, if_neg (by decide), if_neg (by decide), if_pos rfl, if_pos g, gapsN_eq gp]
    · exact oth 1 (Or.inl k3)
    · exact oth 1 (Or.inr k4)
  · rw [if_neg (fun q => g (scp.mp q))]
    rcases k5 with rfl | rfl | rfl | k3 | k4
    · refine ⟨z, ?_, FW.rfl', hq⟩
      unfold m_X11_measure_B15 cvW
      rw [if_pos (show nI 0 = 0 from rfl), if_pos rfl, if_pos rfl, decide_eq_false g]
      rfl
    · refine ⟨z, ?_, FW.rfl', hq⟩
      unfold m_X11_measure_B15 cvW
      rw [if_neg (by decide), if_pos (show nI 1 = 1 from rfl), if_pos rfl, if_neg (by decide), if_pos rfl, if_neg g]
    · refine ⟨z, ?_, FW.rfl', hq⟩
      unfold m_X11_measure_B15 cvW
      rw [if_neg (by decide), if_neg (by decide), if_pos (show nI 2 = 2 from rfl), if_pos rfl, if_neg (by decide), if_neg (by decide), if_pos rfl, if_neg g]
    · exact oth 0 (Or.inl k3)
    · exact oth 0 (Or.inr k4)
theorem lackC_ok {z : Hp} {s d r : Nat} (h : In z s d) (hr : r < nRW (zI z 93)) : ∃ y, m_X11_lackingConds 0 (nI r) z = some (lkW (zI z 93) r, y) ∧ FW z y ∧ WQ y := by
  have hO := in_ok h
  have hr4 := nr_lt hO
  have hc3 := nc_lt hO r hr
  obtain ⟨W, hW⟩ : ∃ W, W = zI z 93 := ⟨_, rfl⟩
  rw [← hW] at hr hO hr4 hc3 ⊢
  unfold m_X11_lackingConds
  refine loopQ (X := Int32 × Int32 × Hp) (fun f x => m_X11_lackingConds_L4 f 0 (nI r) x.1 x.2.1 x.2.2) (fun t => ∃ y, t = some (lkW W r, y) ∧ FW z y ∧ WQ y) (fun n x => x.1 = bits (fun i => !chB W r i) n ∧ x.2.1 = nI n ∧ FW z x.2.2 ∧ WQ x.2.2) (nCW W r) ?hs ?he 0 FU (0, 0, z) (by omega) (FU_pos (by omega)) ⟨rfl, rfl, FW.rfl', in_wq h⟩
  case hs =>
    rintro n f ⟨a, b, x⟩ hn ⟨h1, h2, h3, h4⟩
    dsimp only at h1 h2 h3 h4
    subst h1 h2
    have hx := h.fw h3 h4
    have x93 : zI x 93 = W := by rw [h3.2.2.2.2.2 93 (by omega)]; exact hW.symm
    have hC := in_C hx
    have hS := in_S hx
    have hN := in_now hx
    have hR := in_R hx
    rw [x93] at hR
    have ec : zI x (s + 20) r = nI (nCW W r) := by rw [rs_rc hR r hr]; exact (ok_rc hO r hr).1
    have hw := ok_rw hO r n hr hn
    obtain ⟨k, hk, ek, en⟩ : ∃ k, k < 5 ∧ W (751 + 10 * r + 3 * n) = nI k ∧ nn (W (751 + 10 * r + 3 * n)) = k := ⟨_, hw.2, hw.1, rfl⟩
    have ew : zI x (s + 21) (3 * r + n) = nI k := by rw [rs_rw hR r n hr hn]; exact ek
    obtain ⟨y, r1, F1, q1⟩ := measureC hx hk
    rw [x93] at r1
    have hy := hx.fw F1 q1
    have Cy := in_C hy
    have Sy := in_S hy
    have Ny := in_now hy
    have y93 : zI y 93 = W := by rw [F1.2.2.2.2.2 93 (by omega)]; exact x93
    have Ry := in_R hy
    rw [y93] at Ry
    -- the end of a step
    have B : m_X11_lackingConds_B83 (m_X11_lackingConds_L4 f) 0 (nI r) (bits (fun i => !chB W r i) n) (nI n) (bI (chB W r n)) y = m_X11_lackingConds_L4 f 0 (nI r) (bits (fun i => !chB W r i) (n + 1)) (nI (n + 1)) y := by
      unfold m_X11_lackingConds_B83 m_X11_lackingConds_B96
      show _ = m_X11_lackingConds_L4 f 0 (nI r) (if (!chB W r n) = true then bits (fun i => !chB W r i) n ||| bit n else bits (fun i => !chB W r i) n) (nI (n + 1)) y
      rw [nI_1]
      cases chB W r n with
      | true => rw [if_neg (by decide), if_neg (by decide)]
      | false => rw [if_pos (by decide), if_pos (by decide)]; rfl
    refine Or.inl ⟨(bits (fun i => !chB W r i) (n + 1), nI (n + 1), y), ⟨rfl, rfl, h3.trans F1, q1⟩, ?_⟩
    dsimp only
    rw [← B, m_X11_lackingConds_L4, gR_eq (by rw [ck_0 hC]) hN, gR_eq (by rw [sk_0 hS]) (sr_0_3 hS), gR_eq (by rw [sk_19 hS]) (sr_19_0 hS), aI_n (sk_20 hS) (by omega) (by decide), ec, if_pos (nI_lt hn (by omega)), gR_eq (by rw [ck_0 hC]) hN, gR_eq (by rw [sk_0 hS]) (sr_0_3 hS), gR_eq (by rw [sk_19 hS]) (sr_19_1 hS), show (3 : Int32) = nI 3 from rfl, pk_mul, nI_add, aI_n (sk_21 hS) (by omega) (by decide), ew, isC_eq (by rw [ck_0 hC]), r1, bnd_some]
    unfold chB
    rw [en]
    by_cases k0 : k = 0
    · subst k0
      rw [if_pos (show nI 0 = 0 from rfl), if_pos rfl]
      by_cases c : cvW W 0 = 1
      · rw [if_pos c, decide_eq_true c]; rfl
      · rw [if_neg c, decide_eq_false c]; rfl
    · have es := rs_rs Ry r n hr hn (by rw [ek]; exact fun q => k0 ((nI_eq (b := 0) (by omega) (by decide)).mp q))
      rw [if_neg (show ¬ nI k = 0 from fun q => k0 ((nI_eq (b := 0) (by omega) (by decide)).mp q)), if_neg k0, gR_eq (by rw [ck_0 Cy]) Ny, gR_eq (by rw [sk_0 Sy]) (sr_0_3 Sy), isC_eq (by rw [sk_19 Sy])]
      unfold m_X5_compares
      rw [gR_eq (by rw [sk_19 Sy]) (sr_19_2 Sy), aI_n (sk_22 Sy) (by omega) (by decide), es.1]
      by_cases c : W (752 + 10 * r + 3 * n) = 60
      · rw [if_pos c, if_pos c, gR_eq (by rw [sk_19 Sy]) (sr_19_3 Sy), aI_n (sk_23 Sy) (by omega) (by decide), es.2]
        by_cases c2 : cvW W k < W (753 + 10 * r + 3 * n)
        · rw [if_pos c2, decide_eq_true c2, bnd_some]; rfl
        · rw [if_neg c2, decide_eq_false c2, bnd_some]; rfl
      · rw [if_neg c, if_neg c, gR_eq (by rw [sk_19 Sy]) (sr_19_3 Sy), aI_n (sk_23 Sy) (by omega) (by decide), es.2]
        by_cases c2 : W (753 + 10 * r + 3 * n) < cvW W k
        · rw [if_pos c2, decide_eq_true c2, bnd_some]; rfl
        · rw [if_neg c2, decide_eq_false c2, bnd_some]; rfl
  case he =>
    rintro f ⟨a, b, x⟩ ⟨h1, h2, h3, h4⟩
    dsimp only at h1 h2 h3 h4 ⊢
    subst h1 h2
    have hx := h.fw h3 h4
    have x93 : zI x 93 = W := by rw [h3.2.2.2.2.2 93 (by omega)]; exact hW.symm
    have hC := in_C hx
    have hS := in_S hx
    have hR := in_R hx
    rw [x93] at hR
    have ec : zI x (s + 20) r = nI (nCW W r) := by rw [rs_rc hR r hr]; exact (ok_rc hO r hr).1
    refine ⟨x, ?_, h3, h4⟩
    rw [m_X11_lackingConds_L4, gR_eq (by rw [ck_0 hC]) (in_now hx), gR_eq (by rw [sk_0 hS]) (sr_0_3 hS), gR_eq (by rw [sk_19 hS]) (sr_19_0 hS), aI_n (sk_20 hS) (by omega) (by decide), ec, if_neg (nI_nlt (Nat.le_refl _) (by omega))]
    rfl
/-- what conditions of the model change -/
def FH (z y : Hp) : Prop := Fi (fun a => a = 92 ∨ (104 ≤ a ∧ a ≤ 109)) z y ∧ ∀ k, k ≠ 31 → zI y 92 k = zI z 92 k
theorem FH.rfl' {z : Hp} : FH z z := ⟨Fi.rfl', fun _ _ => rfl⟩
theorem FH.trans {x y z : Hp} (h : FH x y) (g : FH y z) : FH x z := ⟨h.1.trans g.1, fun k hk => (g.2 k hk).trans (h.2 k hk)⟩
theorem FH.fg {x y : Hp} (h : FG x y) : FH x y := ⟨h.1.mono (fun a h => by omega), h.2⟩
theorem FH.w {z : Hp} {G : Nat → Int32} : FH z (wI z 104 G) := ⟨Fi.w (by omega), fun k _ => by rw [zI_ne (by decide)]⟩
theorem FH.m93 {z y : Hp} (h : FH z y) : zI y 93 = zI z 93 := h.1.2.2.2.2 93 (by omega)
theorem In.fh {z y : Hp} {s d : Nat} (h : In z s d) (F : FH z y) : In y s d := by
  have hs := in_lo h
  refine In.re3 h F.1.2.1 F.1.2.2.2.1 F.1.1 F.1.2.2.1 (fun a ha => F.1.2.2.2.2 a (by omega)) (by rw [F.1.2.2.2.2 66 (by omega)]) (fun k hk => F.2 k (by omega)) ?_ ?_ ?_
  · rw [F.m93]; exact (in_R h).of (fun a h1 h2 => F.1.2.2.2.2 a (by omega))
  · rw [F.m93]; exact in_ok h
  · rw [F.m93]; exact in_tk h
theorem wordM {z : Hp} {q k : Nat} {W : Nat → Int32} (hM : LayM z) (h93 : zI z 93 = W) (hO : OkW W q) (hk : k < 5) (hk0 : k ≠ 0) : ∃ y, m_X12_wordOf 92 (nI k) z = some (cvW W k, y) ∧ FH z y := by
  have k5 : k = 1 ∨ k = 2 ∨ k = 3 ∨ k = 4 := by omega
  have e0 := hasShaft_ok hM
  rw [h93] at e0
  unfold m_X12_wordOf
  rcases k5 with rfl | rfl | rfl | rfl
  · rw [if_neg (by decide), if_neg (by decide), isC_eq (by rw [mk_92 hM]), e0, bnd_some]
    unfold cvW
    by_cases g : W 7 = 1
    · obtain ⟨G, r⟩ := thickM hM (p := q) (by rw [h93]; exact hO)
      rw [h93] at r
      refine ⟨wI z 104 G, ?_, FH.w⟩
      rw [decide_eq_true g, if_neg (by decide), if_pos (show nI 1 = 1 from rfl), isC_eq (by rw [mk_92 hM]), r, bnd_some, if_neg (by decide), if_pos rfl, if_pos g]
    · refine ⟨z, ?_, FH.rfl'⟩
      rw [decide_eq_false g, if_pos (by decide), if_neg (by decide), if_pos rfl, if_neg g]
  · rw [if_neg (by decide), if_neg (by decide), isC_eq (by rw [mk_92 hM]), e0, bnd_some]
    unfold cvW
    by_cases g : W 7 = 1
    · obtain ⟨n, y, B, r, _, F, gp, _⟩ := findGaps_ok hM h93 hO g
      refine ⟨y, ?_, FH.fg F⟩
      rw [decide_eq_true g, if_neg (by decide), if_neg (by decide), isC_eq (by rw [mk_92 hM]), r, bnd_some, if_neg (by decide), if_neg (by decide), if_pos rfl, if_pos g, gapsN_eq gp]
    · refine ⟨z, ?_, FH.rfl'⟩
      rw [decide_eq_false g, if_pos (by decide), if_neg (by decide), if_neg (by decide), if_pos rfl, if_neg g]
  · refine ⟨z, ?_, FH.rfl'⟩
    rw [if_pos (show nI 3 = 3 from rfl), gR_eq (by rw [mk_92 hM]) (mr_92_1 hM), show (1 : Int32) = nI 1 from rfl, aI_n (mk_93 hM) (by decide) (by decide), h93, cv3]
  · refine ⟨z, ?_, FH.rfl'⟩
    rw [if_neg (by decide), if_pos (show nI 4 = 4 from rfl), greatM_ok hM (q := q) (by rw [h93]; exact hO), h93, cv4]
theorem condM {z : Hp} {q r i : Nat} {W : Nat → Int32} (hM : LayM z) (h93 : zI z 93 = W) (hO : OkW W q) (hr : r < nRW W) (hi : i < nCW W r) : ∃ y, m_X12_condHolds 92 (nI (751 + 10 * r + 3 * i)) z = some (bI (chB W r i), y) ∧ FH z y := by
  have hr4 := nr_lt hO
  have hc3 := nc_lt hO r hr
  have hw := ok_rw hO r i hr hi
  obtain ⟨k, hk, ek, en⟩ : ∃ k, k < 5 ∧ W (751 + 10 * r + 3 * i) = nI k ∧ nn (W (751 + 10 * r + 3 * i)) = k := ⟨_, hw.2, hw.1, rfl⟩
  have e0 := hasShaft_ok hM
  rw [h93] at e0
  unfold m_X12_condHolds chB
  rw [en, gR_eq (by rw [mk_92 hM]) (mr_92_1 hM), aI_n (mk_93 hM) (by omega) (by decide), h93, ek]
  by_cases k0 : k = 0
  · subst k0
    rw [if_pos (show nI 0 = 0 from rfl), if_pos rfl, isC_eq (by rw [mk_92 hM]), e0, bnd_some]
    unfold cvW
    rw [if_pos rfl]
    by_cases g : W 7 = 1
    · obtain ⟨G, rr⟩ := shutM hM (p := q) (by rw [h93]; exact hO)
      rw [h93] at rr
      refine ⟨wI z 104 G, ?_, FH.w⟩
      rw [decide_eq_true g, if_neg (by decide), isC_eq (by rw [mk_92 hM]), rr, bnd_some]
      by_cases c : wayV W = -1 <;> simp [c, bI]
    · refine ⟨z, ?_, FH.rfl'⟩
      rw [decide_eq_false g, if_pos (by decide)]
      simp [bI]
  · obtain ⟨y, r1, F1⟩ := wordM hM h93 hO hk k0
    have My := hM.fi F1.1
    have y93 : zI y 93 = W := by rw [F1.m93]; exact h93
    refine ⟨y, ?_, F1⟩
    have a1 : nI (751 + 10 * r + 3 * i) + 1 = nI (752 + 10 * r + 3 * i) := by rw [nI_1, show 751 + 10 * r + 3 * i + 1 = 752 + 10 * r + 3 * i by omega]
    have a2 : nI (751 + 10 * r + 3 * i) + 2 = nI (753 + 10 * r + 3 * i) := by rw [show (2 : Int32) = nI 2 from rfl, nI_add, show 751 + 10 * r + 3 * i + 2 = 753 + 10 * r + 3 * i by omega]
    rw [if_neg (show ¬ nI k = 0 from fun q => k0 ((nI_eq (b := 0) (by omega) (by decide)).mp q)), if_neg k0, gR_eq (by rw [mk_92 hM]) (mr_92_1 hM), aI_n (mk_93 hM) (by omega) (by decide), h93, ek, isC_eq (by rw [mk_92 hM]), r1, bnd_some, gR_eq (by rw [mk_92 My]) (mr_92_1 My), a1, aI_n (mk_93 My) (by omega) (by decide), y93]
    by_cases c : W (752 + 10 * r + 3 * i) = 60
    · rw [if_pos c, if_pos c, gR_eq (by rw [mk_92 My]) (mr_92_1 My), a2, aI_n (mk_93 My) (by omega) (by decide), y93]
      by_cases c2 : cvW W k < W (753 + 10 * r + 3 * i)
      · rw [if_pos c2, decide_eq_true c2]; rfl
      · rw [if_neg c2, decide_eq_false c2]; rfl
    · rw [if_neg c, if_neg c, gR_eq (by rw [mk_92 My]) (mr_92_1 My), a2, aI_n (mk_93 My) (by omega) (by decide), y93]
      by_cases c2 : W (753 + 10 * r + 3 * i) < cvW W k
      · rw [if_pos c2, decide_eq_true c2]; rfl
      · rw [if_neg c2, decide_eq_false c2]; rfl
theorem lackM_ok {z : Hp} {q r : Nat} {W : Nat → Int32} (hM : LayM z) (h93 : zI z 93 = W) (hO : OkW W q) (hr : r < nRW W) : ∃ y, m_X12_lacks_L34 FU 92 (nI (750 + 10 * r)) 0 0 z = some (lkW W r, y) ∧ FH z y := by
  have hr4 := nr_lt hO
  have hc3 := nc_lt hO r hr
  refine loopQ (X := Int32 × Int32 × Hp) (fun f x => m_X12_lacks_L34 f 92 (nI (750 + 10 * r)) x.1 x.2.1 x.2.2) (fun t => ∃ y, t = some (lkW W r, y) ∧ FH z y) (fun n x => x.1 = bits (fun i => !chB W r i) n ∧ x.2.1 = nI n ∧ FH z x.2.2) (nCW W r) ?hs ?he 0 FU (0, 0, z) (by omega) (FU_pos (by omega)) ⟨rfl, rfl, FH.rfl'⟩
  case hs =>
    rintro n f ⟨a, b, x⟩ hn ⟨h1, h2, h3⟩
    dsimp only at h1 h2 h3
    subst h1 h2
    have Mx := hM.fi h3.1
    have x93 : zI x 93 = W := by rw [h3.m93]; exact h93
    have ec : zI x 93 (750 + 10 * r) = nI (nCW W r) := by rw [x93]; exact (ok_rc hO r hr).1
    obtain ⟨y, r1, F1⟩ := condM Mx x93 hO hr hn
    have ei : nI (750 + 10 * r) + 1 + 3 * nI n = nI (751 + 10 * r + 3 * n) := by rw [nI_1, show (3 : Int32) = nI 3 from rfl, pk_mul, nI_add, show 750 + 10 * r + 1 + 3 * n = 751 + 10 * r + 3 * n by omega]
    refine Or.inl ⟨(bits (fun i => !chB W r i) (n + 1), nI (n + 1), y), ⟨rfl, rfl, h3.trans F1⟩, ?_⟩
    dsimp only
    rw [m_X12_lacks_L34, gR_eq (by rw [mk_92 Mx]) (mr_92_1 Mx), aI_n (mk_93 Mx) (by omega) (by decide), ec, if_pos (nI_lt hn (by omega)), isC_eq (by rw [mk_92 Mx]), ei, r1, bnd_some]
    unfold m_X12_lacks_B69
    show _ = m_X12_lacks_L34 f 92 (nI (750 + 10 * r)) (if (!chB W r n) = true then bits (fun i => !chB W r i) n ||| bit n else bits (fun i => !chB W r i) n) (nI (n + 1)) y
    rw [nI_1]
    cases chB W r n with
    | true => rw [if_neg (by decide), if_neg (by decide), or_0]
    | false => rw [if_pos (by decide), if_pos (by decide)]; rfl
  case he =>
    rintro f ⟨a, b, x⟩ ⟨h1, h2, h3⟩
    dsimp only at h1 h2 h3 ⊢
    subst h1 h2
    have Mx := hM.fi h3.1
    have x93 : zI x 93 = W := by rw [h3.m93]; exact h93
    have ec : zI x 93 (750 + 10 * r) = nI (nCW W r) := by rw [x93]; exact (ok_rc hO r hr).1
    refine ⟨x, ?_, h3⟩
    rw [m_X12_lacks_L34, gR_eq (by rw [mk_92 Mx]) (mr_92_1 Mx), aI_n (mk_93 Mx) (by omega) (by decide), ec, if_neg (nI_nlt (Nat.le_refl _) (by omega))]
    rfl
theorem lacksM_in {z : Hp} {q r : Nat} {W : Nat → Int32} (hM : LayM z) (h93 : zI z 93 = W) (hO : OkW W q) (hr : r < nRW W) : ∃ y, m_X12_lacks 92 (nI r) z = some (lkW W r, y) ∧ FH z y := by
  have hr4 := nr_lt hO
  obtain ⟨y, r1, F1⟩ := lackM_ok hM h93 hO hr
  refine ⟨y, ?_, F1⟩
  have e4 : W 4 = nI (nRW W) := (ok_rn hO).1
  unfold m_X12_lacks
  rw [gR_eq (by rw [mk_92 hM]) (mr_92_1 hM), show (4 : Int32) = nI 4 from rfl, aI_n (mk_93 hM) (by decide) (by decide), h93, e4, in_m1 _ (by omega), if_pos ⟨nI_nlt (b := 0) (by omega) (by omega), nI_lt hr (by omega)⟩, bnd_some, if_neg (by decide), show (750 : Int32) = nI 750 from rfl, show (10 : Int32) = nI 10 from rfl, pk_mul, nI_add, r1]
theorem op_lacks (v : Int32) : Op (m_X11_lacks 0 v) (m_X12_lacks 92 v) := by
  intro z s d h
  have hS := in_S h; have hR := in_R h; have hO := in_ok h; have hM := in_M h; have hC := in_C h; have hN := in_now h
  have hr4 := nr_lt hO
  have e4 : zI z 93 4 = nI (nRW (zI z 93)) := (ok_rn hO).1
  by_cases hv : ¬ v < 0 ∧ v < nI (nRW (zI z 93))
  · obtain ⟨r, rfl, hr⟩ := ofN (by omega) hv.1 hv.2
    obtain ⟨y, r1, F1, q1⟩ := lackC_ok h hr
    have hy := h.fw F1 q1
    have My := in_M hy
    have y93 : zI y 93 = zI z 93 := F1.2.2.2.2.2 93 (by omega)
    obtain ⟨w, r2, F2⟩ := lacksM_in My y93 hO hr
    refine ⟨lkW (zI z 93) r, y, w, s, d, ?_, by rw [mk_92 My], r2, hy.fh F2⟩
    unfold m_X11_lacks
    rw [if_neg hv.1, gR_eq (by rw [ck_0 hC]) hN, gR_eq (by rw [sk_0 hS]) (sr_0_3 hS), gI_eq (by rw [sk_19 hS]), rs_rn hR, e4, if_pos hv.2, isC_eq (by rw [ck_0 hC]), r1, bnd_some]
  · refine ⟨-1, z, z, s, d, ?_, by rw [mk_92 hM], ?_, h⟩
    · unfold m_X11_lacks
      by_cases c : v < 0
      · rw [if_pos c]
      · rw [if_neg c, gR_eq (by rw [ck_0 hC]) hN, gR_eq (by rw [sk_0 hS]) (sr_0_3 hS), gI_eq (by rw [sk_19 hS]), rs_rn hR, e4, if_neg (fun q => hv ⟨c, q⟩)]
    · unfold m_X12_lacks
      rw [gR_eq (by rw [mk_92 hM]) (mr_92_1 hM), show (4 : Int32) = nI 4 from rfl, aI_n (mk_93 hM) (by decide) (by decide), e4, in_m1 _ (by omega), if_neg hv, bnd_some, if_pos rfl]
noncomputable def mdB (W : Nat → Int32) : Bool := decide (nRW W = 0) || orB (fun r => decide (lkW W r = 0)) (nRW W)
theorem orB_mono {P : Nat → Bool} {n m : Nat} (h : n ≤ m) (g : orB P n = true) : orB P m = true := by
  rw [orB_iff] at g ⊢
  obtain ⟨i, h1, h2⟩ := g
  exact ⟨i, by omega, h2⟩
theorem mayC {z : Hp} {s d c : Nat} (K : Nat → Int32 → Int32 → Hp → Option (Int32 × Hp)) (h : In z s d) : ∃ y, m_X11_dig_L68 K FU 0 (nI c) (bI (decide (nRW (zI z 93) = 0))) 0 z = K 0 (nI c) (bI (mdB (zI z 93))) y ∧ FW z y ∧ WQ y := by
  have hO := in_ok h
  have hr4 := nr_lt hO
  obtain ⟨W, hW⟩ : ∃ W, W = zI z 93 := ⟨_, rfl⟩
  rw [← hW] at hO hr4 ⊢
  have e4 : W 4 = nI (nRW W) := (ok_rn hO).1
  refine loopQ (X := Int32 × Int32 × Hp) (fun f x => m_X11_dig_L68 K f 0 (nI c) x.1 x.2.1 x.2.2) (fun t => ∃ y, t = K 0 (nI c) (bI (mdB W)) y ∧ FW z y ∧ WQ y) (fun n x => x.1 = bI (decide (nRW W = 0) || orB (fun r => decide (lkW W r = 0)) n) ∧ x.2.1 = nI n ∧ FW z x.2.2 ∧ WQ x.2.2) (nRW W) ?hs ?he 0 FU (bI (decide (nRW W = 0)), 0, z) (by omega) (FU_pos (by omega)) ⟨by rw [show orB (fun r => decide (lkW W r = 0)) 0 = false from rfl, Bool.or_false], rfl, FW.rfl', in_wq h⟩
  case hs =>
    rintro n f ⟨a, b, x⟩ hn ⟨h1, h2, h3, h4⟩
    dsimp only at h1 h2 h3 h4
    subst h1 h2
    have hx := h.fw h3 h4
    have x93 : zI x 93 = W := by rw [h3.2.2.2.2.2 93 (by omega)]; exact hW.symm
    have hC := in_C hx
    have hS := in_S hx
    have hR := in_R hx
    rw [x93] at hR
    have n0 : decide (nRW W = 0) = false := decide_eq_false (by omega)
    rw [n0, Bool.false_or]
    dsimp only
    rw [m_X11_dig_L68, gR_eq (by rw [ck_0 hC]) (in_now hx), gR_eq (by rw [sk_0 hS]) (sr_0_3 hS), gI_eq (by rw [sk_19 hS]), rs_rn hR, e4, if_pos (nI_lt hn (by omega))]
    cases ho : orB (fun r => decide (lkW W r = 0)) n with
    | true =>
      right
      refine ⟨x, ?_, h3, h4⟩
      have : mdB W = true := by unfold mdB; rw [orB_mono (Nat.le_of_lt hn) ho, Bool.or_true]
      rw [if_neg (by decide), this]
      rfl
    | false =>
      left
      obtain ⟨y, r1, F1, q1⟩ := lackC_ok hx (r := n) (by rw [x93]; exact hn)
      rw [x93] at r1
      refine ⟨(bI (decide (lkW W n = 0)), nI (n + 1), y), ⟨?_, rfl, h3.trans F1, q1⟩, ?_⟩
      · show _ = bI (false || (orB (fun r => decide (lkW W r = 0)) n || decide (lkW W n = 0)))
        rw [ho, Bool.false_or, Bool.false_or]
      · rw [if_pos (by decide), isC_eq (by rw [ck_0 hC]), r1, bnd_some]
        unfold m_X11_dig_B102
        rw [nI_1]
        by_cases c0 : lkW W n = 0
        · rw [if_pos c0, decide_eq_true c0]; rfl
        · rw [if_neg c0, decide_eq_false c0]; rfl
  case he =>
    rintro f ⟨a, b, x⟩ ⟨h1, h2, h3, h4⟩
    dsimp only at h1 h2 h3 h4 ⊢
    subst h1 h2
    have hx := h.fw h3 h4
    have x93 : zI x 93 = W := by rw [h3.2.2.2.2.2 93 (by omega)]; exact hW.symm
    have hC := in_C hx
    have hS := in_S hx
    have hR := in_R hx
    rw [x93] at hR
    refine ⟨x, ?_, h3, h4⟩
    rw [m_X11_dig_L68, gR_eq (by rw [ck_0 hC]) (in_now hx), gR_eq (by rw [sk_0 hS]) (sr_0_3 hS), gI_eq (by rw [sk_19 hS]), rs_rn hR, e4, if_neg (nI_nlt (Nat.le_refl _) (by omega))]
    rfl
theorem mayM {z : Hp} {q : Nat} {W : Nat → Int32} (hM : LayM z) (h93 : zI z 93 = W) (hO : OkW W q) : ∃ y, m_X12_mayDig 92 z = some (bI (mdB W), y) ∧ FH z y := by
  have hr4 := nr_lt hO
  have e4 : W 4 = nI (nRW W) := (ok_rn hO).1
  have key : ∃ y, m_X12_mayDig_B14 92 (bI (decide (nRW W = 0))) z = some (bI (mdB W), y) ∧ FH z y := by
    unfold m_X12_mayDig_B14
    refine loopQ (X := Int32 × Int32 × Hp) (fun f x => m_X12_mayDig_L17 f 92 x.1 x.2.1 x.2.2) (fun t => ∃ y, t = some (bI (mdB W), y) ∧ FH z y) (fun n x => x.1 = bI (decide (nRW W = 0) || orB (fun r => decide (lkW W r = 0)) n) ∧ x.2.1 = nI n ∧ FH z x.2.2) (nRW W) ?hs ?he 0 FU (bI (decide (nRW W = 0)), 0, z) (by omega) (FU_pos (by omega)) ⟨by rw [show orB (fun r => decide (lkW W r = 0)) 0 = false from rfl, Bool.or_false], rfl, FH.rfl'⟩
    case hs =>
      rintro n f ⟨a, b, x⟩ hn ⟨h1, h2, h3⟩
      dsimp only at h1 h2 h3
      subst h1 h2
      have Mx := hM.fi h3.1
      have x93 : zI x 93 = W := by rw [h3.m93]; exact h93
      have n0 : decide (nRW W = 0) = false := decide_eq_false (by omega)
      rw [n0, Bool.false_or]
      have es : orB (fun r => decide (lkW W r = 0)) (n + 1) = (orB (fun r => decide (lkW W r = 0)) n || decide (lkW W n = 0)) := rfl
      dsimp only
      rw [m_X12_mayDig_L17, gR_eq (by rw [mk_92 Mx]) (mr_92_1 Mx), show (4 : Int32) = nI 4 from rfl, aI_n (mk_93 Mx) (by decide) (by decide), x93, e4, if_pos (nI_lt hn (by omega))]
      left
      cases ho : orB (fun r => decide (lkW W r = 0)) n with
      | true =>
        refine ⟨(1, nI (n + 1), x), ⟨by rw [es, ho]; rfl, rfl, h3⟩, ?_⟩
        rw [if_neg (by decide)]
        unfold m_X12_mayDig_B39 m_X12_mayDig_B44
        rw [nI_1]
      | false =>
        obtain ⟨y, r1, F1⟩ := lacksM_in Mx x93 hO hn
        refine ⟨(bI (decide (lkW W n = 0)), nI (n + 1), y), ⟨by rw [es, ho]; rfl, rfl, h3.trans F1⟩, ?_⟩
        rw [if_pos (by decide), isC_eq (by rw [mk_92 Mx]), r1, bnd_some]
        unfold m_X12_mayDig_B39 m_X12_mayDig_B44
        rw [nI_1]
        by_cases c0 : lkW W n = 0
        · rw [if_pos c0, decide_eq_true c0]; rfl
        · rw [if_neg c0, decide_eq_false c0]; rfl
    case he =>
      rintro f ⟨a, b, x⟩ ⟨h1, h2, h3⟩
      dsimp only at h1 h2 h3 ⊢
      rw [show (decide (nRW W = 0) || orB (fun r => decide (lkW W r = 0)) (nRW W)) = mdB W from rfl] at h1
      subst h2
      have Mx := hM.fi h3.1
      have x93 : zI x 93 = W := by rw [h3.m93]; exact h93
      refine ⟨x, ?_, h3⟩
      rw [h1, m_X12_mayDig_L17, gR_eq (by rw [mk_92 Mx]) (mr_92_1 Mx), show (4 : Int32) = nI 4 from rfl, aI_n (mk_93 Mx) (by decide) (by decide), x93, e4, if_neg (nI_nlt (Nat.le_refl _) (by omega))]
      unfold bI
      rw [nar_b]
  obtain ⟨y, r1, F1⟩ := key
  refine ⟨y, ?_, F1⟩
  unfold m_X12_mayDig
  rw [gR_eq (by rw [mk_92 hM]) (mr_92_1 hM), show (4 : Int32) = nI 4 from rfl, aI_n (mk_93 hM) (by decide) (by decide), h93, e4]
  by_cases c : nRW W = 0
  · rw [decide_eq_true c] at r1
    rw [c, if_pos (show nI 0 = 0 from rfl)]
    exact r1
  · rw [decide_eq_false c] at r1
    rw [if_neg (show ¬ nI (nRW W) = 0 from fun q => c ((nI_eq (b := 0) (by omega) (by decide)).mp q))]
    exact r1
/-- how many cells a shaft has -/
theorem sm_upd {g h : Nat → Int32} {k : Nat} : ∀ {n : Nat}, k < n → (∀ i, i ≠ k → h i = g i) → sm h n + g k = sm g n + h k
  | 0, hk, _ => absurd hk (by omega)
  | n + 1, hk, e => by
    show sm h n + h n + g k = sm g n + g n + h k
    by_cases c : n = k
    · subst c
      rw [sm_congr (fun i hi => e i (by omega))]
      grind
    · have a := sm_upd (n := n) (by omega) e
      have b := e n c
      rw [b]
      grind
theorem sm_mulv {v : Int32} {P : Nat → Bool} : ∀ {n : Nat}, sm (fun y => if P y = true then v else 0) n = v * sm (fun y => bI (P y)) n
  | 0 => by rw [show sm (fun y => bI (P y)) 0 = 0 from rfl, Int32.mul_zero]; rfl
  | n + 1 => by
    show sm (fun y => if P y = true then v else 0) n + (if P n = true then v else 0) = v * (sm (fun y => bI (P y)) n + bI (P n))
    rw [sm_mulv]
    cases P n with
    | true => rw [if_pos rfl, show bI true = 1 from rfl]; grind
    | false => rw [if_neg (by decide), show bI false = 0 from rfl]; grind
theorem q_row : ∀ a, a < 11 → ∀ b, b < 11 → a ≤ b → sm (fun x => bI (decide (a ≤ x) && decide (x ≤ b))) 12 = nI (b - a + 1) := by decide +kernel
theorem sc_cnt {W : Nat → Int32} {p : Nat} (hO : OkW W p) (h7 : W 7 = 1) : scW W = sm (fun c => bI (shW W c)) 144 := by
  rcases ok_sh hO with h | ⟨_, ⟨a1, a2, a3, a4⟩, a5, a6, a7, a8⟩
  · rw [h7] at h; exact absurd h (by decide)
  · obtain ⟨x, hx, ex, ex'⟩ : ∃ x, x < 11 ∧ W 8 = nI x ∧ x = nn (W 8) := ⟨nn (W 8), a1.2, a1.1, rfl⟩
    obtain ⟨y, hy, ey, ey'⟩ : ∃ x, x < 11 ∧ W 9 = nI x ∧ x = nn (W 9) := ⟨nn (W 9), a2.2, a2.1, rfl⟩
    obtain ⟨u, hu, eu, eu'⟩ : ∃ x, x < 11 ∧ W 10 = nI x ∧ x = nn (W 10) := ⟨nn (W 10), a3.2, a3.1, rfl⟩
    obtain ⟨v, hv, ev, ev'⟩ : ∃ x, x < 11 ∧ W 11 = nI x ∧ x = nn (W 11) := ⟨nn (W 11), a4.2, a4.1, rfl⟩
    have e1 : sm (fun c => bI (shW W c)) 144 = sm (fun r => sm (fun k => bI (shW W (12 * r + k))) 12) 12 := sm_row (g := fun c => bI (shW W c)) (n := 12)
    have e2 : ∀ r, r < 12 → sm (fun k => bI (shW W (12 * r + k))) 12 = if (decide (y ≤ r) && decide (r ≤ v)) = true then nI (u - x + 1) else 0 := fun r hr => by
      have sw : ∀ k, k < 12 → shW W (12 * r + k) = ((decide (x ≤ k) && decide (k ≤ u)) && (decide (y ≤ r) && decide (r ≤ v))) := fun k hk => by
        unfold shW
        rw [show (12 * r + k) % 12 = k by omega, show (12 * r + k) / 12 = r by omega, ex, ey, eu, ev, decide_eq_true h7, Bool.true_and]
        have q1 : decide (nI x ≤ nI k) = decide (x ≤ k) := decide_eq_decide.mpr (nI_leI (by omega) (by omega))
        have q2 : decide (nI k ≤ nI u) = decide (k ≤ u) := decide_eq_decide.mpr (nI_leI (by omega) (by omega))
        have q3 : decide (nI y ≤ nI r) = decide (y ≤ r) := decide_eq_decide.mpr (nI_leI (by omega) (by omega))
        have q4 : decide (nI r ≤ nI v) = decide (r ≤ v) := decide_eq_decide.mpr (nI_leI (by omega) (by omega))
        rw [q1, q2, q3, q4]
      rw [sm_congr (fun k hk => by rw [sw k hk])]
      cases (decide (y ≤ r) && decide (r ≤ v)) with
      | true =>
        rw [if_pos rfl]
        simp only [Bool.and_true]
        exact q_row x hx u hu (by omega)
      | false =>
        rw [if_neg (by decide)]
        exact sm_nil (fun k _ => by rw [Bool.and_false]; rfl)
    have e3 : sm (fun r => sm (fun k => bI (shW W (12 * r + k))) 12) 12 = nI (u - x + 1) * nI (v - y + 1) := by
      rw [sm_congr e2, sm_mulv, q_row y hy v hv (by omega)]
    rw [e1, e3]
    unfold scW
    rw [if_pos h7, ex, ey, eu, ev, sub_nN (by omega), sub_nN (by omega), nI_1, nI_1]
/-- a cell is dug -/
def dgW (W : Nat → Int32) (c i : Nat) : Int32 := if i = 480 + c then 1 else if i = 17 then W 17 + (W (192 + c) - W (336 + c)) else W i
theorem dg_id {W : Nat → Int32} {c i : Nat} (h : i ≠ 480 + c ∧ i ≠ 17) : dgW W c i = W i := by unfold dgW; rw [if_neg h.1, if_neg h.2]
theorem dg_d {W : Nat → Int32} {c x : Nat} : dgW W c (480 + x) = if x = c then 1 else W (480 + x) := by
  unfold dgW
  by_cases g : x = c
  · rw [if_pos (by omega), if_pos g]
  · rw [if_neg (by omega), if_neg (by omega), if_neg g]
theorem okdg {W : Nat → Int32} {q c : Nat} (hO : OkW W q) (hc : c < 144) (hsh : shW W c = true) : OkW (dgW W c) q := by
  have e : ∀ i, ¬ (480 ≤ i ∧ i < 624) ∧ i ≠ 17 → dgW W c i = W i := fun i hi => dg_id (by omega)
  exact ⟨ok_kd_of (ok_kd hO)  (fun i hi => e i (by omega)),
    ok_gl_of (ok_gl hO)  (fun i hi => e i (by omega)),
    ok_lat_of (ok_lat hO)  (fun i hi => e i (by omega)),
    ok_mark_of (ok_mark hO)  (fun i hi => e i (by omega)),
    ok_sp_of (ok_sp hO)  (fun i hi => e i (by omega)),
    ok_far_of (ok_far hO)  (fun i hi => e i (by omega)),
    ok_warm_of (ok_warm hO)  (fun i hi => e i (by omega)),
    ok_ice_of (ok_ice hO) (fun c hc => kd_lt hO hc) (fun i hi => e i (by omega)),
    fun x hx => by
      rw [dg_d]
      split
      · exact Or.inr rfl
      · exact ok_dug hO x hx,
    fun x hx => by
      rw [dg_d, shW_of (fun i hi => e i (by omega))]
      split
      · rename_i g
        rw [g]
        exact fun _ => hsh
      · exact ok_dsh hO x hx,
    ok_pn_of (ok_pn hO)  (fun i hi => e i (by omega)),
    ok_pc_of (ok_pc hO) (np_le hO) (fun i hi => e i (by omega)),
    ok_pd_of (ok_pd hO) (np_le hO) (fun i hi => e i (by omega)),
    ok_pa_of (ok_pa hO) (np_le hO) (fun i hi => e i (by omega)),
    ok_pl_of (ok_pl hO) (np_le hO) (fun i hi => e i (by omega)),
    ok_pr_of (ok_pr hO) (np_le hO) (fun i hi => e i (by omega)),
    ok_hn_of (ok_hn hO)  (fun i hi => e i (by omega)),
    ok_hc_of (ok_hc hO) (nh_le hO) (fun i hi => e i (by omega)),
    ok_rn_of (ok_rn hO)  (fun i hi => e i (by omega)),
    ok_rc_of (ok_rc hO) (nr_lt hO) (fun i hi => e i (by omega)),
    ok_rw_of (ok_rw hO) (nr_lt hO) (nc_lt hO) (fun i hi => e i (by omega)),
    ok_gc_of (ok_gc hO)  (fun i hi => e i (by omega)),
    ok_sh_of (ok_sh hO)  (fun i hi => e i (by omega)),
    ok_cold_of (ok_cold hO)  (fun i hi => e i (by omega)),
    ok_fl_of (ok_fl hO)  (fun i hi => e i (by omega))⟩
theorem dc_dg {W : Nat → Int32} {c : Nat} (hc : c < 144) (hd : W (480 + c) = 0) : dcW (dgW W c) = dcW W + 1 := by
  have := sm_upd (g := fun x => bI (decide (W (480 + x) = 1))) (h := fun x => bI (decide (dgW W c (480 + x) = 1))) (k := c) (n := 144) hc (fun x hx => by rw [dg_d, if_neg hx])
  rw [dg_d, if_pos rfl, hd] at this
  have e : dcW (dgW W c) + 0 = dcW W + 1 := this
  rw [Int32.add_zero] at e
  exact e
theorem leftM {z : Hp} {q : Nat} {W : Nat → Int32} (hM : LayM z) (h93 : zI z 93 = W) (hO : OkW W q) (h7 : W 7 = 1) : m_X12_dig_L116 FU 92 0 0 z = some (scW W - dcW W, z) := by
  have val : scW W - dcW W = sm (fun c => bI (shW W c && !decide (W (480 + c) = 1))) 144 := by
    rw [sc_cnt hO h7]
    have e1 : sm (fun c => bI (shW W c)) 144 = sm (fun c => bI (shW W c && !decide (W (480 + c) = 1)) + bI (decide (W (480 + c) = 1))) 144 := sm_congr (fun c hc => by
      by_cases g : W (480 + c) = 1
      · rw [decide_eq_true g, ok_dsh hO c hc g]; rfl
      · rw [decide_eq_false g]; cases shW W c <;> rfl)
    rw [e1, sm_add]
    exact Int32.add_sub_cancel _ _
  rw [val]
  refine loopQ (X := Int32 × Int32) (fun f x => m_X12_dig_L116 f 92 x.1 x.2 z) (fun t => t = some (sm (fun c => bI (shW W c && !decide (W (480 + c) = 1))) 144, z)) (fun n x => x.2 = nI n ∧ x.1 = sm (fun c => bI (shW W c && !decide (W (480 + c) = 1))) n) 144 ?hs ?he 0 FU (0, 0) (by decide) (by decide) ⟨rfl, rfl⟩
  case hs =>
    rintro n f ⟨a, v⟩ hn ⟨h1, h2⟩
    dsimp only at h1 h2
    subst h1 h2
    have es := isShaftM_ok hM hn
    have ed := isDugM_ok hM hn
    rw [h93] at es ed
    refine Or.inl ⟨(sm (fun c => bI (shW W c && !decide (W (480 + c) = 1))) (n + 1), nI (n + 1)), ⟨rfl, rfl⟩, ?_⟩
    dsimp only
    rw [m_X12_dig_L116, if_pos (lt_lit hn (by decide)), isC_eq (by rw [mk_92 hM]), es, bnd_some]
    show _ = m_X12_dig_L116 f 92 (sm (fun c => bI (shW W c && !decide (W (480 + c) = 1))) n + bI (shW W n && !decide (W (480 + n) = 1))) (nI (n + 1)) z
    unfold m_X12_dig_B148 m_X12_dig_B149
    rw [nI_1]
    cases shW W n with
    | false => rw [if_pos (by decide)]; rfl
    | true =>
      rw [if_neg (by decide), isC_eq (by rw [mk_92 hM]), ed, bnd_some]
      cases decide (W (480 + n) = 1) with
      | false => rw [if_pos (by decide)]; rfl
      | true => rw [if_neg (by decide)]; rfl
  case he =>
    rintro f ⟨a, v⟩ ⟨h1, h2⟩
    dsimp only at h1 h2 ⊢
    rw [h1, h2, m_X12_dig_L116, if_neg (nlt_lit (Nat.le_refl _) (by decide))]
theorem op_dig (x y : Int32) : Op (m_X11_dig 0 x y) (m_X12_dig 92 x y) := by
  intro z s d h
  have hS := in_S h; have hR := in_R h; have hO := in_ok h; have hM := in_M h; have hC := in_C h; have hN := in_now h
  have hs := in_lo h
  unfold m_X11_dig m_X12_dig
  by_cases hp : (0 ≤ x ∧ x ≤ 11) ∧ 0 ≤ y ∧ y ≤ 11
  · obtain ⟨a, rfl, ha⟩ := rng 11 (by decide) hp.1
    obtain ⟨b, rfl, hb⟩ := rng 11 (by decide) hp.2
    obtain ⟨c, hc, e⟩ : ∃ c, c < 144 ∧ 12 * b + a = c := ⟨_, by omega, rfl⟩
    have ei : (12 : Int32) * nI b + nI a = nI c := by rw [c_mul, nI_add, ← e]
    have shC := rs_shaft hR c hc
    have dgC := rs_dug hR c hc
    cases hsh : shW (zI z 93) c with
    | false =>
      refine ⟨-2, z, z, s, d, ?_, by rw [mk_92 hM], ?_, h⟩
      · rw [isCell_ok, bnd_some, if_pos hp, if_neg (by decide), gR_eq (by rw [ck_0 hC]) hN, gR_eq (by rw [sk_0 hS]) (sr_0_8 hS), ei, aI_n (sk_30 hS) hc (by decide), shC, hsh, if_pos (by decide)]
      · rw [isPlace_ok, bnd_some, if_pos hp, if_neg (by decide), ei, isC_eq (by rw [mk_92 hM]), isShaftM_ok hM hc, bnd_some, hsh, if_pos (by decide)]
    | true =>
      have h7 : zI z 93 7 = 1 := by
        unfold shW at hsh
        rw [Bool.and_eq_true, Bool.and_eq_true, decide_eq_true_eq] at hsh
        exact hsh.1.1
      rcases ok_dug hO c hc with hd | hd
      · -- not dug yet
        obtain ⟨z1, r1, F1, q1⟩ := mayC (c := c) m_X11_dig_B110 h
        have h1 := h.fw F1 q1
        have z193 : zI z1 93 = zI z 93 := F1.2.2.2.2.2 93 (by omega)
        have C1 := in_C h1
        have S1 := in_S h1
        have N1 := in_now h1
        have R1 := in_R h1
        rw [z193] at R1
        have e4 : zI z 93 4 = nI (nRW (zI z 93)) := (ok_rn hO).1
        have hr4 := nr_lt hO
        have pre : ∀ R, m_X11_dig_B110 0 (nI c) (bI (mdB (zI z 93))) z1 = R → (bnd (m_X11_isCell (nI a) (nI b) z) fun x17 z16 => if x17 = 0 then some ((-2 : Int32), z16) else gR 11 0 z16 0 fun a18 => gR 8 8 z16 a18 fun a19 => aI 1 z16 a19 ((12 * nI b) + nI a) fun x20 => if x20 = 0 then some ((-2), z16) else gR 11 0 z16 0 fun a21 => gR 8 7 z16 a21 fun a22 => aI 1 z16 a22 ((12 * nI b) + nI a) fun x23 => if x23 = 0 then (gR 11 0 z16 0 fun a24 => gR 8 3 z16 a24 fun a25 => gI 5 4 z16 a25 fun x26 => if x26 = 0 then m_X11_dig_B63 0 ((12 * nI b) + nI a) 1 z16 else m_X11_dig_B63 0 ((12 * nI b) + nI a) 0 z16) else some ((-2), z16)) = R := fun R hRR => by
          rw [isCell_ok, bnd_some, if_pos hp, if_neg (by decide), gR_eq (by rw [ck_0 hC]) hN, gR_eq (by rw [sk_0 hS]) (sr_0_8 hS), ei, aI_n (sk_30 hS) hc (by decide), shC, hsh, if_neg (by decide), gR_eq (by rw [ck_0 hC]) hN, gR_eq (by rw [sk_0 hS]) (sr_0_7 hS), aI_n (sk_29 hS) hc (by decide), dgC, hd, if_pos rfl, gR_eq (by rw [ck_0 hC]) hN, gR_eq (by rw [sk_0 hS]) (sr_0_3 hS), gI_eq (by rw [sk_19 hS]), rs_rn hR, e4, ← hRR, ← r1]
          unfold m_X11_dig_B63
          by_cases n0 : nRW (zI z 93) = 0
          · rw [n0, if_pos (show nI 0 = 0 from rfl), decide_eq_true rfl]; rfl
          · rw [if_neg (show ¬ nI (nRW (zI z 93)) = 0 from fun q => n0 ((nI_eq (b := 0) (by omega) (by decide)).mp q)), decide_eq_false n0]; rfl
        -- the model's way to the rules
        have preM : ∀ y, LayM y → zI y 93 = zI z 93 → ∃ w, FH y w ∧ ∀ R, (if bI (mdB (zI z 93)) = 0 then some ((-5 : Int32), w) else gR 12 1 w 92 fun a18 => aI 1 w a18 12 fun x19 => if x19 = 1 then some ((-7), w) else gR 12 1 w 92 fun a20 => aI 1 w a20 17 fun x21 => gR 12 1 w 92 fun a22 => aI 1 w a22 (192 + nI c) fun x23 => gR 12 1 w 92 fun a24 => aI 1 w a24 (336 + nI c) fun x25 => sI 1 w a20 17 (x21 + (x23 - x25)) fun z26 => gR 12 1 z26 92 fun a27 => sI 1 z26 a27 (480 + nI c) 1 fun z28 => (m_X12_dig_L116 FU) 92 0 0 z28) = R →
            (bnd (m_X12_isPlace (nI a) (nI b) y) fun x8 z7 => if x8 = 0 then some ((-2 : Int32), z7) else isC 12 z7 92 <| bnd (m_X12_isShaft 92 ((12 * nI b) + nI a) z7) fun x10 z9 => if x10 = 0 then some ((-2), z9) else isC 12 z9 92 <| bnd (m_X12_isDug 92 ((12 * nI b) + nI a) z9) fun x13 z12 => if x13 = 0 then (isC 12 z12 92 <| bnd (m_X12_mayDig 92 z12) fun x16 z15 => if x16 = 0 then some ((-5), z15) else gR 12 1 z15 92 fun a18 => aI 1 z15 a18 12 fun x19 => if x19 = 1 then some ((-7), z15) else gR 12 1 z15 92 fun a20 => aI 1 z15 a20 17 fun x21 => gR 12 1 z15 92 fun a22 => aI 1 z15 a22 (192 + ((12 * nI b) + nI a)) fun x23 => gR 12 1 z15 92 fun a24 => aI 1 z15 a24 (336 + ((12 * nI b) + nI a)) fun x25 => sI 1 z15 a20 17 (x21 + (x23 - x25)) fun z26 => gR 12 1 z26 92 fun a27 => sI 1 z26 a27 (480 + ((12 * nI b) + nI a)) 1 fun z28 => (m_X12_dig_L116 FU) 92 0 0 z28) else some ((-2), z12)) = R := by
          intro y My y93
          obtain ⟨w, r2, F2⟩ := mayM My y93 hO
          refine ⟨w, F2, fun R hRR => ?_⟩
          have es := isShaftM_ok My hc
          have ed := isDugM_ok My hc
          rw [y93] at es ed
          rw [isPlace_ok, bnd_some, if_pos hp, if_neg (by decide), ei, isC_eq (by rw [mk_92 My]), es, bnd_some, hsh, if_neg (by decide), isC_eq (by rw [mk_92 My]), ed, bnd_some, hd, if_pos (by decide), isC_eq (by rw [mk_92 My]), r2, bnd_some]
          exact hRR
        cases hmd : mdB (zI z 93) with
        | false =>
          rw [hmd] at pre
          obtain ⟨w, F2, pm⟩ := preM z1 (in_M h1) z193
          rw [hmd] at pm
          refine ⟨-5, z1, w, s, d, pre _ ?_, by rw [mk_92 (in_M h1)], pm _ (by rw [if_pos (by decide)]), h1.fh F2⟩
          unfold m_X11_dig_B110
          rw [if_pos (by decide)]
        | true =>
          rw [hmd] at pre
          rcases ok_fl hO with h12 | h12
          · -- it is dug
            obtain ⟨z2, hz2⟩ : ∃ y, y = wI z1 (s + 29) (ups (zI z1 (s + 29)) c 1) := ⟨_, rfl⟩
            have S2 : LayS z2 s := S1.of (by rw [hz2]; rfl) (by rw [hz2]; rfl)
            have n2 : zI z2 s = zI z1 s := by rw [hz2, zI_ne (by omega)]
            obtain ⟨z3, hz3⟩ : ∃ y, y = wI z2 s (ups (zI z1 s) 11 (zI z1 s 11 + 1)) := ⟨_, rfl⟩
            have S3 : LayS z3 s := S2.of (by rw [hz3]; rfl) (by rw [hz3]; rfl)
            have n31 : zI z3 (s + 31) = zI z1 (s + 31) := by rw [hz3, zI_ne (by omega), hz2, zI_ne (by omega)]
            have n27 : zI z3 (s + 27) c = zI z 93 (192 + c) := by rw [hz3, zI_ne (by omega), hz2, zI_ne (by omega)]; exact rs_warm R1 c hc
            have n28 : zI z3 (s + 28) c = zI z 93 (336 + c) := by rw [hz3, zI_ne (by omega), hz2, zI_ne (by omega)]; exact rs_ice R1 c hc
            obtain ⟨z4, hz4⟩ : ∃ y, y = wI z3 (s + 31) (ups (zI z1 (s + 31)) 4 (zI z1 (s + 31) 4 + (zI z 93 (192 + c) - zI z 93 (336 + c)))) := ⟨_, rfl⟩
            have S4 : LayS z4 s := S3.of (by rw [hz4]; rfl) (by rw [hz4]; rfl)
            have C4 : LayC z4 := C1.of (by rw [hz4, hz3, hz2]; rfl) (by rw [hz4, hz3, hz2]; rfl)
            have N4 : zR z4 0 0 = some s := by rw [hz4, hz3, hz2]; exact N1
            have s4 : zI z4 s = ups (zI z1 s) 11 (zI z1 s 11 + 1) := by rw [hz4, zI_ne (by omega), hz3, zI_eq]
            have dgo : m_X8_digOut s (nI c) z1 = some ((), z4) := by
              unfold m_X8_digOut
              rw [gR_eq (by rw [sk_0 S1]) (sr_0_7 S1), sI_n (sk_29 S1) hc (by decide), ← hz2, gI_eq (by rw [sk_0 S2]), n2, pI_eq (by rw [sk_0 S2]), n2, ← hz3, gR_eq (by rw [sk_0 S3]) (sr_0_9 S3), show (4 : Int32) = nI 4 from rfl, aI_n (sk_31 S3) (by decide) (by decide), gR_eq (by rw [sk_0 S3]) (sr_0_5 S3), aI_n (sk_27 S3) hc (by decide), n27, gR_eq (by rw [sk_0 S3]) (sr_0_6 S3), aI_n (sk_28 S3) hc (by decide), n28, sI_n (sk_31 S3) (by decide) (by decide), n31, ← hz4]
            have F4 : Fi (fun a => a = s ∨ a = s + 29 ∨ a = s + 31) z1 z4 := by
              rw [hz4, hz3, hz2]
              exact ((Fi.w (by omega)).trans (Fi.w (by omega))).trans (Fi.w (by omega))
            have M4 := (in_M h1).fi F4
            have z493 : zI z4 93 = zI z 93 := by rw [F4.2.2.2.2 93 (by omega)]; exact z193
            obtain ⟨w, F5, pm⟩ := preM z4 M4 z493
            have Mw := M4.fi F5.1
            have w93 : zI w 93 = zI z 93 := by rw [F5.m93]; exact z493
            obtain ⟨w1, hw1⟩ : ∃ y, y = wI w 93 (ups (zI z 93) 17 (zI z 93 17 + (zI z 93 (192 + c) - zI z 93 (336 + c)))) := ⟨_, rfl⟩
            have M1w : LayM w1 := Mw.of (by rw [hw1]; rfl) (by rw [hw1]; rfl)
            have w193 : zI w1 93 = ups (zI z 93) 17 (zI z 93 17 + (zI z 93 (192 + c) - zI z 93 (336 + c))) := by rw [hw1, zI_eq]
            obtain ⟨w2, hw2⟩ : ∃ y, y = wI w1 93 (dgW (zI z 93) c) := ⟨_, rfl⟩
            have M2w : LayM w2 := M1w.of (by rw [hw2]; rfl) (by rw [hw2]; rfl)
            have w293 : zI w2 93 = dgW (zI z 93) c := by rw [hw2, zI_eq]
            have fe : wI w1 93 (ups (ups (zI z 93) 17 (zI z 93 17 + (zI z 93 (192 + c) - zI z 93 (336 + c)))) (480 + c) 1) = w2 := by
              rw [hw2]
              refine congrArg (wI w1 93) (funext fun i => ?_)
              simp only [ups_eq]
              rfl
            have Od := okdg hO hc hsh
            have e : ∀ i, ¬ (480 ≤ i ∧ i < 624) ∧ i ≠ 17 → dgW (zI z 93) c i = zI z 93 i := fun i hi => dg_id (by omega)
            have d7 : dgW (zI z 93) c 7 = 1 := by rw [e 7 (by omega)]; exact h7
            have scd : scW (dgW (zI z 93) c) = scW (zI z 93) := scW_of (fun i hi => e i (by omega))
            have dcd := dc_dg hc hd
            refine ⟨scW (dgW (zI z 93) c) - dcW (dgW (zI z 93) c), z4, w2, s, d, pre _ ?_, by rw [mk_92 M4], pm _ ?_, ?_⟩
            · unfold m_X11_dig_B110
              rw [if_neg (by decide), gR_eq (by rw [ck_0 C1]) N1, gI_eq (by rw [sk_0 S1]), rs_fl R1, if_pos h12, gR_eq (by rw [ck_0 C1]) N1, isC_eq (by rw [sk_0 S1]), dgo, bnd_some, gR_eq (by rw [ck_0 C4]) N4, gI_eq (by rw [sk_0 S4]), s4, up_ne (by decide), gR_eq (by rw [ck_0 C4]) N4, gI_eq (by rw [sk_0 S4]), s4, up_eq, rs_sc R1, rs_dc R1, scd, dcd]
            · rw [hmd, if_neg (by decide), gR_eq (by rw [mk_92 Mw]) (mr_92_1 Mw), show (12 : Int32) = nI 12 from rfl, aI_n (mk_93 Mw) (by decide) (by decide), w93, h12, if_neg (by decide), gR_eq (by rw [mk_92 Mw]) (mr_92_1 Mw), show (17 : Int32) = nI 17 from rfl, aI_n (mk_93 Mw) (by decide) (by decide), gR_eq (by rw [mk_92 Mw]) (mr_92_1 Mw), show (192 : Int32) = nI 192 from rfl, nI_add, aI_n (mk_93 Mw) (by omega) (by decide), gR_eq (by rw [mk_92 Mw]) (mr_92_1 Mw), show (336 : Int32) = nI 336 from rfl, nI_add, aI_n (mk_93 Mw) (by omega) (by decide), sI_n (mk_93 Mw) (by decide) (by decide), w93, ← hw1, gR_eq (by rw [mk_92 M1w]) (mr_92_1 M1w), show (480 : Int32) = nI 480 from rfl, nI_add, sI_n (mk_93 M1w) (by omega) (by decide), w193, fe]
              exact leftM M2w w293 Od d7
            · have uO : ∀ a, a ≠ s → a ≠ s + 29 → a ≠ s + 31 → ¬ (74 ≤ a ∧ a ≤ 82) → a ≠ 92 → a ≠ 93 → ¬ (104 ≤ a ∧ a ≤ 109) → zI w2 a = zI z a := fun a q1 q2 q3 q4 q5 q6 q7 => by
                rw [hw2, zI_ne q6, hw1, zI_ne q6, F5.1.2.2.2.2 a (by omega), F4.2.2.2.2 a (by omega), F1.2.2.2.2.2 a (by omega)]
              have u92 : ∀ k, k ≠ 31 → zI w2 92 k = zI z 92 k := fun k hk => by
                rw [hw2, zI_ne (by decide), hw1, zI_ne (by decide), F5.2 k hk, F4.2.2.2.2 92 (by omega), F1.2.2.2.2.2 92 (by omega)]
              have ws : zI w2 s = ups (zI z s) 11 (zI z s 11 + 1) := by rw [hw2, zI_ne (by omega), hw1, zI_ne (by omega), F5.1.2.2.2.2 s (by omega), s4, F1.2.2.2.2.2 s (by omega)]
              have w29 : zI w2 (s + 29) = ups (zI z (s + 29)) c 1 := by rw [hw2, zI_ne (by omega), hw1, zI_ne (by omega), F5.1.2.2.2.2 (s + 29) (by omega), hz4, zI_ne (by omega), hz3, zI_ne (by omega), hz2, zI_eq, F1.2.2.2.2.2 (s + 29) (by omega)]
              have w31 : zI w2 (s + 31) = ups (zI z (s + 31)) 4 (zI z (s + 31) 4 + (zI z 93 (192 + c) - zI z 93 (336 + c))) := by rw [hw2, zI_ne (by omega), hw1, zI_ne (by omega), F5.1.2.2.2.2 (s + 31) (by omega), hz4, zI_eq, F1.2.2.2.2.2 (s + 31) (by omega)]
              have hz : ∀ a, s ≤ a → a < s + 32 → (a ≠ s ∧ a ≠ s + 29 ∧ a ≠ s + 31) → zI w2 a = zI z a := fun a a1 a2 a3 => uO a (by omega) (by omega) (by omega) (by omega) (by omega) (by omega) (by omega)
              have hf : ∀ k, k ≠ 11 → zI w2 s k = zI z s k := fun k hk => by rw [ws, up_ne hk]
              refine In.re3 (z := z1) h1 (by rw [hw2, hw1, zK_wI, zK_wI, F5.1.2.1, F4.2.1]) (by rw [hw2, hw1, zR_wI, zR_wI, F5.1.2.2.2.1, F4.2.2.2.1]) (by rw [hw2, hw1, zN_wI, zN_wI, F5.1.1, F4.1]) (by rw [hw2, hw1, zL_wI, zL_wI, F5.1.2.2.1, F4.2.2.1]) (fun a ha => by rw [uO a (by omega) (by omega) (by omega) (by omega) (by omega) (by omega) (by omega), F1.2.2.2.2.2 a (by omega)]) (by rw [uO 66 (by omega) (by omega) (by omega) (by omega) (by omega) (by omega) (by omega), F1.2.2.2.2.2 66 (by omega)]) (fun k hk => by rw [u92 k (by omega), F1.2.2.2.2.2 92 (by omega)]) ?_ ?_ ?_
              · rw [w293]
                exact ⟨rs_lead_of (rs_lead hR) (hz (s + 2) (by omega) (by omega) (by omega)) (fun i hi => e i (by omega)),
                  rs_ilead_of (rs_ilead hR) (hz (s + 3) (by omega) (by omega) (by omega)) (fun i hi => e i (by omega)),
                  rs_latent_of (rs_latent hR) (hz (s + 4) (by omega) (by omega) (by omega)) (fun i hi => e i (by omega)),
                  rs_mark_of (rs_mark hR) (hz (s + 5) (by omega) (by omega) (by omega)) (fun i hi => e i (by omega)),
                  rs_ground_of (rs_ground hR) (hz (s + 6) (by omega) (by omega) (by omega)) (fun i hi => e i (by omega)),
                  rs_speed_of (rs_speed hR) (hz (s + 7) (by omega) (by omega) (by omega)) (fun i hi => e i (by omega)),
                  rs_far_of (rs_far hR) (congrFun (hz (s + 1) (by omega) (by omega) (by omega)) 6) (fun i hi => e i (by omega)),
                  rs_pn_of (rs_pn hR) (congrFun (hz (s + 8) (by omega) (by omega) (by omega)) 6) (fun i hi => e i (by omega)),
                  rs_p0_of (rs_p0 hR) (hz (s + 9) (by omega) (by omega) (by omega)) (np_le hO) (fun i hi => e i (by omega)),
                  rs_p1_of (rs_p1 hR) (hz (s + 10) (by omega) (by omega) (by omega)) (np_le hO) (fun i hi => e i (by omega)),
                  rs_p2_of (rs_p2 hR) (hz (s + 11) (by omega) (by omega) (by omega)) (np_le hO) (fun i hi => e i (by omega)),
                  rs_p3_of (rs_p3 hR) (hz (s + 12) (by omega) (by omega) (by omega)) (np_le hO) (fun i hi => e i (by omega)),
                  rs_p4_of (rs_p4 hR) (hz (s + 13) (by omega) (by omega) (by omega)) (np_le hO) (fun i hi => e i (by omega)),
                  rs_p5_of (rs_p5 hR) (hz (s + 14) (by omega) (by omega) (by omega)) (np_le hO) (fun i hi => e i (by omega)),
                  rs_hn_of (rs_hn hR) (congrFun (hz (s + 15) (by omega) (by omega) (by omega)) 3) (fun i hi => e i (by omega)),
                  rs_h0_of (rs_h0 hR) (hz (s + 16) (by omega) (by omega) (by omega)) (nh_le hO) (fun i hi => e i (by omega)),
                  rs_h1_of (rs_h1 hR) (hz (s + 17) (by omega) (by omega) (by omega)) (nh_le hO) (fun i hi => e i (by omega)),
                  rs_h2_of (rs_h2 hR) (hz (s + 18) (by omega) (by omega) (by omega)) (nh_le hO) (fun i hi => e i (by omega)),
                  rs_rn_of (rs_rn hR) (congrFun (hz (s + 19) (by omega) (by omega) (by omega)) 4) (fun i hi => e i (by omega)),
                  rs_rc_of (rs_rc hR) (hz (s + 20) (by omega) (by omega) (by omega)) (nr_lt hO) (fun i hi => e i (by omega)),
                  rs_rw_of (rs_rw hR) (hz (s + 21) (by omega) (by omega) (by omega)) (nr_lt hO) (nc_lt hO) (fun i hi => e i (by omega)),
                  rs_rs_of (rs_rs hR) (hz (s + 22) (by omega) (by omega) (by omega)) (hz (s + 23) (by omega) (by omega) (by omega)) (nr_lt hO) (nc_lt hO) (fun i hi => e i (by omega)),
                  rs_gc_of (rs_gc hR) (hz (s + 25) (by omega) (by omega) (by omega)) (fun i hi => e i (by omega)),
                  rs_gr_of (rs_gr hR) (hz (s + 26) (by omega) (by omega) (by omega)) (fun i hi => e i (by omega)),
                  rs_warm_of (rs_warm hR) (hz (s + 27) (by omega) (by omega) (by omega)) (fun i hi => e i (by omega)),
                  rs_ice_of (rs_ice hR) (hz (s + 28) (by omega) (by omega) (by omega)) (fun i hi => e i (by omega)),
                  fun x hx => by
                    rw [w29, ups_eq, dg_d]
                    by_cases g : x = c
                    · rw [if_pos g, if_pos g]
                    · rw [if_neg g, if_neg g]; exact rs_dug hR x hx,
                  rs_shaft_of (rs_shaft hR) (hz (s + 30) (by omega) (by omega) (by omega)) (fun i hi => e i (by omega)),
                  fun k k1 k2 => by
                    have hsu := rs_sums hR k k1 k2
                    rw [w31, ups_eq]
                    by_cases g : k = 4
                    · rw [if_pos g, g]
                      have h4 := rs_sums hR 4 (by omega) (by omega)
                      rw [h4]
                      unfold dgW
                      rw [if_neg (by omega), if_pos rfl]
                    · rw [if_neg g, e (13 + k) (by omega)]
                      exact hsu,
                  rs_sc_of (rs_sc hR) (hf 10 (by omega)) (fun i hi => e i (by omega)),
                  by rw [ws, up_eq, dcd, rs_dc hR],
                  rs_cold_of (rs_cold hR) (hf 12 (by omega)) (fun i hi => e i (by omega)),
                  rs_lines_of (rs_lines hR) (hf 13 (by omega)) (fun i hi => e i (by omega)),
                  rs_ticks_of (rs_ticks hR) (hf 14 (by omega)) (fun i hi => e i (by omega)),
                  rs_fl_of (rs_fl hR) (hf 15 (by omega)) (fun i hi => e i (by omega)),
                  rs_fls_of (rs_fls hR) (hf 16 (by omega)) (fun i hi => e i (by omega))⟩
              · rw [w293]; exact Od
              · rw [w293, e 1 (by omega)]; exact in_tk h
          · obtain ⟨w, F2, pm⟩ := preM z1 (in_M h1) z193
            rw [hmd] at pm
            have Mw := (in_M h1).fi F2.1
            have w93 : zI w 93 = zI z 93 := by rw [F2.m93]; exact z193
            refine ⟨-7, z1, w, s, d, pre _ ?_, by rw [mk_92 (in_M h1)], pm _ ?_, h1.fh F2⟩
            · unfold m_X11_dig_B110
              rw [if_neg (by decide), gR_eq (by rw [ck_0 C1]) N1, gI_eq (by rw [sk_0 S1]), rs_fl R1, h12, if_neg (by decide)]
            · rw [if_neg (by decide), gR_eq (by rw [mk_92 Mw]) (mr_92_1 Mw), show (12 : Int32) = nI 12 from rfl, aI_n (mk_93 Mw) (by decide) (by decide), w93, h12, if_pos rfl]
      · refine ⟨-2, z, z, s, d, ?_, by rw [mk_92 hM], ?_, h⟩
        · rw [isCell_ok, bnd_some, if_pos hp, if_neg (by decide), gR_eq (by rw [ck_0 hC]) hN, gR_eq (by rw [sk_0 hS]) (sr_0_8 hS), ei, aI_n (sk_30 hS) hc (by decide), shC, hsh, if_neg (by decide), gR_eq (by rw [ck_0 hC]) hN, gR_eq (by rw [sk_0 hS]) (sr_0_7 hS), aI_n (sk_29 hS) hc (by decide), dgC, hd, if_neg (by decide)]
        · rw [isPlace_ok, bnd_some, if_pos hp, if_neg (by decide), ei, isC_eq (by rw [mk_92 hM]), isShaftM_ok hM hc, bnd_some, hsh, if_neg (by decide), isC_eq (by rw [mk_92 hM]), isDugM_ok hM hc, bnd_some, hd, if_neg (by decide)]
  · refine ⟨-2, z, z, s, d, ?_, by rw [mk_92 hM], ?_, h⟩
    · rw [isCell_ok, bnd_some, if_neg hp, if_pos rfl]
    · rw [isPlace_ok, bnd_some, if_neg hp, if_pos rfl]

