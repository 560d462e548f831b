/-! ===== text: lines of the model, again ===== -/
section
variable {z0 z y : Hp} {b : Nat → Nat} {n : Nat} {s t : Ps} {D E : Dt}
/-! stream -/
theorem st_M (h : HM z0 z b n s D) : ∃ y, m_X12_readStream 92 z = some ((), y) ∧ HM z0 y b n (tS b n (tgG D.2.2.1) s) (uS b n D.1 D.2.2.1 s, D.2.1, ups D.2.2.1 (nmv 0 11 s) 1, D.2.2.2) := by
  have hM := h.M
  have hg := (nmv_b (s := s) (show 0 ≤ 11 by decide)).2
  have badB : ∀ {x : Hp} {t : Ps}, HM z0 x b n t D → (¬ (nm b n 0 11 t).2.1 = 0) → (tS b n (tgG D.2.2.1) s).2 = (nm b n 0 11 t).2 → ∃ y, m_X12_readStream_B47 92 x = some ((), y) ∧ HM z0 y b n (tS b n (tgG D.2.2.1) s) (uS b n D.1 D.2.2.1 s, D.2.1, ups D.2.2.1 (nmv 0 11 s) 1, D.2.2.2) := fun {x t} hx g e => by
    obtain ⟨v, y, r, h1, _⟩ := m_nm 0 11 0 11 hx (fun _ => ⟨rfl, rfl, by decide, by decide⟩)
    obtain ⟨v2, y2, r2, h2, _⟩ := m_told 38 0 30 h1 (by decide) (by decide) (by decide)
    have g2 : ¬ (nm b n 0 30 (wd b n (txw 38) (nm b n 0 11 t))).2.1 = 0 := nm_st1 (wd_st1 g)
    refine ⟨y2, ?_, h2.bad g2 (by rw [e, nm_st (wd_st1 g), wd_st g])⟩
    unfold m_X12_readStream_B47
    rw [isC_eq (by rw [mk_92 hx.M]), r, bnd_some, isC_eq (by rw [mk_92 h1.M]), show m_X12_told 92 38 0 30 y = _ from r2, bnd_some, isC_eq (by rw [mk_92 h2.M]), good_f h2.1 g2, bnd_some, if_pos rfl]
  have st : ¬ (fal (tgG D.2.2.1 (nmv 0 11 s)) 2 s.1.2.1 (nm b n 0 11 s)).2.1 = 0 → (tS b n (tgG D.2.2.1) s).2 = (fal (tgG D.2.2.1 (nmv 0 11 s)) 2 s.1.2.1 (nm b n 0 11 s)).2 := fun g => by
    unfold tS tS1
    rw [nm_st (wd_st1 g), wd_st g]
  have badN : ¬ (nm b n 0 11 s).2.1 = 0 → (tS b n (tgG D.2.2.1) s).2 = (nm b n 0 11 s).2 := fun g => by
    rw [st (fal_st1 g)]
    exact fal_st g
  unfold m_X12_readStream
  rw [isC_eq (by rw [mk_92 hM])]
  by_cases c : s.2.1 = 0
  · obtain ⟨hT, hv⟩ := h.1.2.2.2.2 c
    obtain ⟨d1, d2, d3, d4, d5⟩ := h.2.2.2 c
    rw [good_t h.1 c, bnd_some, if_neg (by decide), gI_eq (by rw [mk_92 hM]), hT.1]
    by_cases c1 : s.1.1 = 2
    · have ev := hT.2.2.2.1 c1
      have v5 := hv.2.2.2.2
      rw [if_pos ((tk2 hv.1).mpr c1), gI_eq (by rw [mk_92 hM]), ev, show m_X12_in (nI (min 999999 s.1.2.2.2)).toInt64 0 11 z = _ from in_lit _ 0 11 (by decide) (by decide) z, bnd_some]
      by_cases c2 : s.1.2.2.2 ≤ 11
      · have hk : nmk 0 11 s.1 = true := decide_eq_true ⟨Nat.zero_le _, c2⟩
        have eg : nmv 0 11 s = s.1.2.2.2 := if_pos ⟨c1, hk⟩
        have ng1 : nm b n 0 11 s = ad b n s := by
          unfold nm
          rw [if_pos c1, hk]
          exact fal_f
        have ei : nI (min 999999 s.1.2.2.2) = nI (nmv 0 11 s) := by rw [eg, show min 999999 s.1.2.2.2 = s.1.2.2.2 by omega]
        rw [ei, if_neg (i10p ⟨show (0 : Int32) ≤ nI (nmv 0 11 s) from (nI_leI (a := 0) (by decide) (by omega)).mpr (Nat.zero_le _), show nI (nmv 0 11 s) ≤ 11 from (nI_leI (b := 11) (by omega) (by decide)).mpr hg⟩), gR_eq (by rw [mk_92 hM]) (mr_92_17 hM), gI_eq (by rw [mk_92 hM]), ev, ei, aI_n (mk_101 hM) (by omega) (by decide), d3]
        by_cases c3 : D.2.2.1 (nmv 0 11 s) = 0
        · rw [if_pos c3]
          have e1 : fal (tgG D.2.2.1 (nmv 0 11 s)) 2 s.1.2.1 (nm b n 0 11 s) = nm b n 0 11 s := by
            unfold tgG
            rw [decide_eq_false (fun g => g c3), fal_f]
          obtain ⟨v1, z1, r1, h1, w1, _⟩ := m_nm 0 11 0 11 h (fun _ => ⟨rfl, rfl, by decide, by decide⟩)
          have gd1 : (nm b n 0 11 s).2.1 = 0 := by rw [ng1]; exact c
          rw [← e1] at h1
          obtain ⟨v3, z3, r3, h3, w3⟩ := m_told 38 0 30 h1 (by decide) (by decide) (by decide)
          replace h3 : HM z0 z3 b n (tS b n (tgG D.2.2.1) s) D := h3
          replace w3 : (tS b n (tgG D.2.2.1) s).2.1 = 0 → v3 = nI (nmv 0 30 (tS1 b n (tgG D.2.2.1) s)) := w3
          unfold m_X12_readStream_B47
          rw [isC_eq (by rw [mk_92 hM]), r1, bnd_some, isC_eq (by rw [mk_92 h1.M]), show m_X12_told 92 38 0 30 z1 = _ from r3, bnd_some, isC_eq (by rw [mk_92 h3.M])]
          by_cases c4 : (tS b n (tgG D.2.2.1) s).2.1 = 0
          · have h4 := h3.w101 (k := nmv 0 11 s) (v := 1)
            have h5 := h4.w99 (k := 36 + nmv 0 11 s) w3
            refine ⟨_, ?_, h5⟩
            rw [good_t h3.1 c4, bnd_some, if_neg (by decide), w1 gd1, gR_eq (by rw [mk_92 h3.M]) (mr_92_17 h3.M), show vp_nar .boolean 1 = 1 by decide, sI_n (mk_101 h3.M) (by omega) (by decide), gR_eq (by rw [mk_92 h4.M]) (mr_92_15 h4.M), c_add, sI_n (mk_99 h4.M) (by omega) (by decide)]
          · exact ⟨z3, by rw [good_f h3.1 c4, bnd_some, if_pos rfl], h3.bad c4 rfl⟩
        · rw [if_neg c3, isC_eq (by rw [mk_92 hM])]
          obtain ⟨z1, r1, h1⟩ := m_wrong 2 (by decide) h
          rw [r1, bnd_some]
          have gb : ¬ (fal true 2 s.1.2.1 s).2.1 = 0 := by
            show ¬ (fl true 2 s.1.2.1 s.2).1 = 0
            rw [fl_t c]; exact (by decide : ¬ (2 : Int32) = 0)
          have e1 : fal (tgG D.2.2.1 (nmv 0 11 s)) 2 s.1.2.1 (nm b n 0 11 s) = fal true 2 s.1.2.1 (ad b n s) := by
            unfold tgG
            rw [decide_eq_true c3, ng1]
          refine badB h1 (nm_st1 gb) ?_
          rw [nm_st gb, st (by rw [e1]; exact gb), e1]
          rfl
      · rw [if_pos (i10n (fun g => c2 (by have := (show nI (min 999999 s.1.2.2.2) ≤ 11 from g.2); rw [show (11 : Int32) = nI 11 from rfl, nI_leI (by omega) (by decide)] at this; omega)))]
        have gb : ¬ (nm b n 0 11 s).2.1 = 0 := fun g => c2 (of_decide_eq_true (nm_good g).2.2).2
        exact badB h gb (badN gb)
    · rw [if_neg (fun g => c1 ((tk2 hv.1).mp g))]
      have gb : ¬ (nm b n 0 11 s).2.1 = 0 := fun g => c1 (nm_good g).2.1
      exact badB h gb (badN gb)
  · rw [good_f h.1 c, bnd_some, if_pos rfl]
    exact badB h (nm_st1 c) (badN (nm_st1 c))
/-! a box -/
theorem box_M (lo hi : Nat) (hlo : lo ≤ hi) (hhi : hi < 12) (h : HM z0 z b n s D) : ∃ y, m_X12_readBox 92 (nI lo) (nI hi) z = some ((), y) ∧ HM z0 y b n (tB b n lo hi s) D ∧ ((tB b n lo hi s).2.1 = 0 → zI y 92 20 = nI (bX lo hi s) ∧ zI y 92 21 = nI (bY b n lo hi s) ∧ zI y 92 22 = nI (bX2 b n lo hi s) ∧ zI y 92 23 = nI (bY2 b n lo hi s)) := by
  have hb := bx_b b n s hlo
  obtain ⟨v1, z1, r1, h1, w1, f1⟩ := m_nm lo hi (nI lo) (nI hi) h (fun _ => ⟨rfl, rfl, by omega, by omega⟩)
  have h2 := h1.w92 (k := 20) (v := v1) (by omega)
  obtain ⟨v3, z3, r3, h3, w3, f3⟩ := m_nm lo hi (nI lo) (nI hi) h2 (fun _ => ⟨rfl, rfl, by omega, by omega⟩)
  have h4 := h3.w92 (k := 21) (v := v3) (by omega)
  obtain ⟨z5, r5, h5, f5⟩ := m_wd 37 h4 (by decide)
  replace h5 : HM z0 z5 b n (tB2 b n lo hi s) D := h5
  have e20 : zI z5 92 20 = v1 := by rw [f5.2 20 (by omega), zI_eq, up_ne (by decide), f3.2 20 (by omega), zI_eq, up_eq]
  have e21 : zI z5 92 21 = v3 := by rw [f5.2 21 (by omega), zI_eq, up_eq]
  have g1 : (tB2 b n lo hi s).2.1 = 0 → v1 = nI (bX lo hi s) ∧ v3 = nI (bY b n lo hi s) := fun g => by
    have q1 := wd_good g
    have q2 := (nm_good q1).1
    exact ⟨w1 q2, w3 q1⟩
  obtain ⟨v6, z6, r6, h6, w6, f6⟩ := m_nm (bX lo hi s) hi v1 (nI hi) h5 (fun g => ⟨(g1 g).1, rfl, by omega, by omega⟩)
  replace h6 : HM z0 z6 b n (tB3 b n lo hi s) D := h6
  have h7 := h6.w92 (k := 22) (v := v6) (by omega)
  have e21' : zI (wI z6 92 (ups (zI z6 92) 22 v6)) 92 21 = v3 := by rw [zI_eq, up_ne (by decide), f6.2 21 (by omega), e21]
  obtain ⟨v8, z8, r8, h8, w8, f8⟩ := m_nm (bY b n lo hi s) hi v3 (nI hi) h7 (fun g => ⟨(g1 (nm_good g).1).2, rfl, by omega, by omega⟩)
  replace h8 : HM z0 z8 b n (tB b n lo hi s) D := h8
  have h9 := h8.w92 (k := 23) (v := v8) (by omega)
  refine ⟨_, ?_, h9, fun g => ?_⟩
  · unfold m_X12_readBox
    rw [isC_eq (by rw [mk_92 h.M]), r1, bnd_some, pI_eq (by rw [mk_92 h1.M]), isC_eq (by rw [mk_92 h2.M]), r3, bnd_some, pI_eq (by rw [mk_92 h3.M]), isC_eq (by rw [mk_92 h4.M]), r5, bnd_some, gI_eq (by rw [mk_92 h5.M]), e20, isC_eq (by rw [mk_92 h5.M]), r6, bnd_some, pI_eq (by rw [mk_92 h6.M]), gI_eq (by rw [mk_92 h7.M]), e21', isC_eq (by rw [mk_92 h7.M]), r8, bnd_some, pI_eq (by rw [mk_92 h8.M])]
  · have q6 := (nm_good g).1
    have q5 := (nm_good q6).1
    refine ⟨?_, ?_, ?_, ?_⟩
    · rw [zI_eq, up_ne (by decide), f8.2 20 (by omega), zI_eq, up_ne (by decide), f6.2 20 (by omega), e20]; exact (g1 q5).1
    · rw [zI_eq, up_ne (by decide), f8.2 21 (by omega), e21']; exact (g1 q5).2
    · rw [zI_eq, up_ne (by decide), f8.2 22 (by omega), zI_eq, up_eq]; exact w6 q6
    · rw [zI_eq, up_eq]; exact w8 g
end
theorem fill_M {z : Hp} {x y x2 y2 : Nat} (v : Int32) (hM : LayM z) (e20 : zI z 92 20 = nI x) (e22 : zI z 92 22 = nI x2) (e23 : zI z 92 23 = nI y2) (hx : x ≤ x2) (hy : y ≤ y2) (hx2 : x2 < 12) (hy2 : y2 < 12) : m_X12_readLay_L29 FU 92 v (nI y) z = some ((), wI z 99 (fun i => if 48 ≤ i ∧ i < 192 then bx x y x2 y2 v (fun c => zI z 99 (48 + c)) (i - 48) else zI z 99 i)) := by
  have inner : ∀ (k : Nat → Int32 → Int32 → Hp → Option (Unit × Hp)) (r : Nat) (f0 : Nat → Int32), r < 12 → m_X12_readLay_L42 k FU 92 v (nI r) (nI x) (wI z 99 f0) = k 92 v (nI r) (wI z 99 (fun i => if (48 ≤ i ∧ i < 192) ∧ (x ≤ (i - 48) % 12 ∧ (i - 48) % 12 ≤ x2) ∧ (i - 48) / 12 = r then v else f0 i)) := fun k r f0 hr => by
    refine loopQ (X := Int32 × Hp) (fun f p => m_X12_readLay_L42 k f 92 v (nI r) p.1 p.2) (fun t => t = k 92 v (nI r) (wI z 99 (fun i => if (48 ≤ i ∧ i < 192) ∧ (x ≤ (i - 48) % 12 ∧ (i - 48) % 12 ≤ x2) ∧ (i - 48) / 12 = r then v else f0 i))) (fun j p => x ≤ j ∧ p.1 = nI j ∧ p.2 = wI z 99 (fun i => if (48 ≤ i ∧ i < 192) ∧ (x ≤ (i - 48) % 12 ∧ (i - 48) % 12 < j) ∧ (i - 48) / 12 = r then v else f0 i)) (x2 + 1) ?hs ?he x FU (nI x, wI z 99 f0) (by omega) (by show x2 + 1 - x < FU; exact FU_pos (by omega)) ⟨Nat.le_refl _, rfl, ?h0⟩
    case h0 =>
      refine congrArg (wI z 99) (funext fun c => ?_)
      rw [if_neg (by omega)]
    case hs =>
      rintro j f ⟨p1, p2⟩ hj ⟨h1, h2, h3⟩
      dsimp only at h2 h3 ⊢
      subst h2 h3
      left
      refine ⟨(nI (j + 1), wI z 99 (fun i => if (48 ≤ i ∧ i < 192) ∧ (x ≤ (i - 48) % 12 ∧ (i - 48) % 12 < j + 1) ∧ (i - 48) / 12 = r then v else f0 i)), ⟨by omega, rfl, rfl⟩, ?_⟩
      rw [m_X12_readLay_L42, gI_eq (by rw [zK_wI, mk_92 hM]), zI_ne (by decide), e22, if_neg (nI_nlt (by omega) (by omega)), gR_eq (b := 99) (by rw [zK_wI, mk_92 hM]) (by rw [zR_wI]; exact mr_92_15 hM), c_mul, c_add, nI_add, sI_n (n := 810) (by rw [zK_wI]; exact mk_99 hM) (by omega) (by decide), nI_1]
      refine congrArg (fun q => m_X12_readLay_L42 k f 92 v (nI r) (nI (j + 1)) q) ?_
      rw [wI_wI, zI_eq]
      refine congrArg (wI z 99) (funext fun c => ?_)
      rw [ups_eq]
      by_cases e : c = 48 + 12 * r + j
      · rw [if_pos e, if_pos (by omega)]
      · rw [if_neg e]
        by_cases g : (48 ≤ c ∧ c < 192) ∧ (x ≤ (c - 48) % 12 ∧ (c - 48) % 12 < j) ∧ (c - 48) / 12 = r
        · rw [if_pos g, if_pos (by omega)]
        · rw [if_neg g, if_neg (by omega)]
    case he =>
      rintro f ⟨p1, p2⟩ ⟨h1, h2, h3⟩
      dsimp only at h2 h3 ⊢
      subst h2 h3
      rw [m_X12_readLay_L42, gI_eq (by rw [zK_wI, mk_92 hM]), zI_ne (by decide), e22, if_pos (nI_lt (by omega) (by omega))]
      refine congrArg (fun q => k 92 v (nI r) (wI z 99 q)) (funext fun c => ?_)
      by_cases g : (48 ≤ c ∧ c < 192) ∧ (x ≤ (c - 48) % 12 ∧ (c - 48) % 12 < x2 + 1) ∧ (c - 48) / 12 = r
      · rw [if_pos g, if_pos (by omega)]
      · rw [if_neg g, if_neg (by omega)]
  refine loopQ (X := Int32 × Hp) (fun f p => m_X12_readLay_L29 f 92 v p.1 p.2) (fun t => t = some ((), wI z 99 (fun i => if 48 ≤ i ∧ i < 192 then bx x y x2 y2 v (fun c => zI z 99 (48 + c)) (i - 48) else zI z 99 i))) (fun j p => y ≤ j ∧ p.1 = nI j ∧ p.2 = wI z 99 (fun i => if (48 ≤ i ∧ i < 192) ∧ (x ≤ (i - 48) % 12 ∧ (i - 48) % 12 ≤ x2) ∧ y ≤ (i - 48) / 12 ∧ (i - 48) / 12 < j then v else zI z 99 i)) (y2 + 1) ?hs ?he y FU (nI y, z) (by omega) (by show y2 + 1 - y < FU; exact FU_pos (by omega)) ⟨Nat.le_refl _, rfl, ?h0⟩
  case h0 =>
    refine (wI_self z 99).symm.trans (congrArg (wI z 99) (funext fun c => ?_))
    rw [if_neg (by omega)]
  case hs =>
    rintro j f ⟨p1, p2⟩ hj ⟨h1, h2, h3⟩
    dsimp only at h2 h3 ⊢
    subst h2 h3
    left
    refine ⟨(nI (j + 1), wI z 99 (fun i => if (48 ≤ i ∧ i < 192) ∧ (x ≤ (i - 48) % 12 ∧ (i - 48) % 12 ≤ x2) ∧ y ≤ (i - 48) / 12 ∧ (i - 48) / 12 < j + 1 then v else zI z 99 i)), ⟨by omega, rfl, rfl⟩, ?_⟩
    rw [m_X12_readLay_L29, gI_eq (by rw [zK_wI, mk_92 hM]), zI_ne (by decide), e23, if_neg (nI_nlt (by omega) (by omega)), gI_eq (by rw [zK_wI, mk_92 hM]), zI_ne (by decide), e20, inner _ j _ (by omega)]
    unfold m_X12_readLay_B71
    rw [nI_1]
    refine congrArg (fun q => m_X12_readLay_L29 f 92 v (nI (j + 1)) (wI z 99 q)) (funext fun c => ?_)
    by_cases g : (48 ≤ c ∧ c < 192) ∧ (x ≤ (c - 48) % 12 ∧ (c - 48) % 12 ≤ x2) ∧ (c - 48) / 12 = j
    · rw [if_pos g, if_pos (by omega)]
    · rw [if_neg g]
      by_cases g2 : (48 ≤ c ∧ c < 192) ∧ (x ≤ (c - 48) % 12 ∧ (c - 48) % 12 ≤ x2) ∧ y ≤ (c - 48) / 12 ∧ (c - 48) / 12 < j
      · rw [if_pos g2, if_pos (by omega)]
      · rw [if_neg g2, if_neg (by omega)]
  case he =>
    rintro f ⟨p1, p2⟩ ⟨h1, h2, h3⟩
    dsimp only at h2 h3 ⊢
    subst h2 h3
    rw [m_X12_readLay_L29, gI_eq (by rw [zK_wI, mk_92 hM]), zI_ne (by decide), e23, if_pos (nI_lt (by omega) (by omega))]
    refine congrArg (fun q => some ((), wI z 99 q)) (funext fun c => ?_)
    unfold bx
    by_cases g : 48 ≤ c ∧ c < 192
    · rw [if_pos g]
      dsimp only
      rw [show 48 + (c - 48) = c by omega]
      by_cases g2 : (x ≤ (c - 48) % 12 ∧ (c - 48) % 12 ≤ x2) ∧ y ≤ (c - 48) / 12 ∧ (c - 48) / 12 ≤ y2
      · rw [if_pos g2, if_pos (by omega)]
      · rw [if_neg g2, if_neg (by omega)]
    · rw [if_neg g, if_neg (fun q => g q.1)]
section
variable {z0 z y : Hp} {b : Nat → Nat} {n : Nat} {s t : Ps} {D E : Dt}
theorem HM.f99 (h : HM z0 z b n s D) {f : Nat → Int32} : HM z0 (wI z 99 f) b n s (f, D.2) :=
  ⟨h.1.w (by decide) (by decide), h.2.1.trans (Fi.w (by omega)), fun j hj => by rw [zI_ne (by decide)]; exact h.2.2.1 j hj, fun g => by
    have := h.2.2.2 g
    rw [zI_eq, zI_ne (by decide), zI_ne (by decide), zI_ne (by decide)]
    exact ⟨rfl, this.2⟩⟩
theorem la_M (h : HM z0 z b n s D) : ∃ y, m_X12_readLay 92 z = some ((), y) ∧ HM z0 y b n (tL b n s) (uL b n D.1 s, D.2) := by
  have hb := bx_b b n s (show 0 ≤ 11 by decide)
  obtain ⟨z1, r1, h1, k1⟩ := box_M 0 11 (by decide) (by decide) h
  obtain ⟨v2, z2, r2, F2, P2, w2⟩ := told_M (q := 24) 0 3 h1.1 (by decide) (by decide) (by decide)
  have h2 : HM z0 z2 b n (tL b n s) D := h1.fm F2 P2 (fun g => wd_good (nm_good g).1)
  replace w2 : (tL b n s).2.1 = 0 → v2 = nI (nmv 0 3 (tL1 b n s)) := w2
  unfold m_X12_readLay
  rw [isC_eq (by rw [mk_92 h.M]), show m_X12_readBox 92 0 11 z = _ from r1, bnd_some, isC_eq (by rw [mk_92 h1.M]), show m_X12_told 92 24 0 3 z1 = _ from r2, bnd_some, isC_eq (by rw [mk_92 h2.M])]
  by_cases c : (tL b n s).2.1 = 0
  · obtain ⟨q1, q2, q3, q4⟩ := k1 (wd_good (nm_good c).1)
    refine ⟨_, ?_, h2.f99⟩
    rw [good_t h2.1 c, bnd_some, if_neg (by decide), gI_eq (by rw [mk_92 h2.M]), F2.2 21 (by omega), q2, w2 c, fill_M (x := bX 0 11 s) (x2 := bX2 b n 0 11 s) (y2 := bY2 b n 0 11 s) _ h2.M (by rw [F2.2 20 (by omega)]; exact q1) (by rw [F2.2 22 (by omega)]; exact q3) (by rw [F2.2 23 (by omega)]; exact q4) (by omega) (by omega) (by omega) (by omega), (h2.2.2.2 c).1]
    rfl
  · exact ⟨z2, by rw [good_f h2.1 c, bnd_some, if_pos rfl], h2.bad c rfl⟩
end
