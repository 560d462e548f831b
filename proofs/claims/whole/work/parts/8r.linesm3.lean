/-! ===== text: pipes and rules of the model ===== -/
section
variable {z0 z y : Hp} {b : Nat → Nat} {n : Nat} {s t : Ps} {D E : Dt}
theorem wrong_x {k : Int32} (h : PM z b n s) (c : s.2.1 = 0) : m_X12_wrong 92 k z = some ((), wI (wI z 92 (ups (zI z 92) 13 k)) 92 (ups (ups (zI z 92) 13 k) 14 (nI s.1.2.1))) := by
  obtain ⟨hT, hv⟩ := h.2.2.2.2 c
  unfold m_X12_wrong
  rw [isC_eq (by rw [mk_92 h.1]), good_t h c, bnd_some, if_neg (by decide), pI_eq (by rw [mk_92 h.1]), gI_eq (by rw [zK_wI, mk_92 h.1]), pI_eq (by rw [zK_wI, mk_92 h.1]), zI_eq, up_ne (show 10 ≠ 13 by decide), hT.2.1]
theorem wrong_n {k : Int32} (h : PM z b n s) (c : ¬ s.2.1 = 0) : m_X12_wrong 92 k z = some ((), z) := by
  unfold m_X12_wrong
  rw [isC_eq (by rw [mk_92 h.1]), good_f h c, bnd_some, if_pos rfl]
/-- a pipe where one stands already -/
theorem pl_M {m x : Nat} (K : Nat → Int32 → Hp → Option (Unit × Hp)) (h : HM z0 z b n s D) (c : s.2.1 = 0) (c1 : s.1.1 = 2) (c2 : s.1.2.2.2 ≤ 11) (hm : m ≤ 12) (em : D.1 2 = nI m) (hx : x < 12) : ∃ y, m_X12_readPipe_L40 K FU 92 (nI x) 0 z = K 92 (nI x) y ∧ HM z0 y b n (fal (decide (∃ p, p < m ∧ D.1 (624 + 6 * p) = nI (12 * s.1.2.2.2 + x))) 2 s.1.2.1 s) D := by
  have hM := h.M
  obtain ⟨hT, hv⟩ := h.1.2.2.2.2 c
  obtain ⟨d1, _⟩ := h.2.2.2 c
  have ev : zI z 92 12 = nI s.1.2.2.2 := by rw [hT.2.2.2.1 c1, show min 999999 s.1.2.2.2 = s.1.2.2.2 by omega]
  obtain ⟨zw, rw1, hw⟩ := m_wrong 2 (by decide) h
  have ew : zw = wI (wI z 92 (ups (zI z 92) 13 2)) 92 (ups (ups (zI z 92) 13 2) 14 (nI s.1.2.1)) := by
    have := rw1.symm.trans (wrong_x h.1 c)
    injection this with this
    exact congrArg Prod.snd this
  have gw : ¬ (fal true 2 s.1.2.1 s).2.1 = 0 := by
    show ¬ (fl true 2 s.1.2.1 s.2).1 = 0
    rw [fl_t c]; exact (by decide : ¬ (2 : Int32) = 0)
  have w12 : zI zw 92 12 = nI s.1.2.2.2 := by rw [ew, zI_eq, up_ne (by decide), up_ne (by decide)]; exact ev
  have w99 : zI zw 99 = D.1 := by rw [ew, zI_ne (by decide), zI_ne (by decide)]; exact d1
  refine loopQ (X := Int32 × Hp) (fun f p => m_X12_readPipe_L40 K f 92 (nI x) p.1 p.2) (fun t => ∃ y, t = K 92 (nI x) y ∧ HM z0 y b n (fal (decide (∃ p, p < m ∧ D.1 (624 + 6 * p) = nI (12 * s.1.2.2.2 + x))) 2 s.1.2.1 s) D) (fun j p => p.1 = nI j ∧ (p.2 = z ∧ (∀ q, q < j → ¬ D.1 (624 + 6 * q) = nI (12 * s.1.2.2.2 + x)) ∨ p.2 = zw ∧ ∃ q, q < m ∧ D.1 (624 + 6 * q) = nI (12 * s.1.2.2.2 + x))) m ?hs ?he 0 FU (0, z) (Nat.zero_le _) (by show m - 0 < FU; exact FU_pos (by omega)) ⟨rfl, Or.inl ⟨rfl, fun q hq => absurd hq (by omega)⟩⟩
  case hs =>
    rintro j f ⟨p1, p2⟩ hj ⟨h1, h2⟩
    dsimp only at h1 h2 ⊢
    subst h1
    left
    have run : ∀ w, LayM w → zI w 99 = D.1 → zI w 92 12 = nI s.1.2.2.2 → m_X12_readPipe_L40 K (f + 1) 92 (nI x) (nI j) w = if D.1 (624 + 6 * j) = nI (12 * s.1.2.2.2 + x) then (bnd (m_X12_wrong 92 2 w) fun _ z31 => m_X12_readPipe_L40 K f 92 (nI x) (nI (j + 1)) z31) else m_X12_readPipe_L40 K f 92 (nI x) (nI (j + 1)) w := fun w Mw q1 q2 => by
      rw [m_X12_readPipe_L40, gR_eq (by rw [mk_92 Mw]) (mr_92_15 Mw), show aI 1 w 99 2 = fun g => g (zI w 99 2) from funext fun g => aI_n (k := 2) (mk_99 Mw) (by decide) (by decide)]
      dsimp only
      rw [q1, em, if_pos (nI_lt hj (by omega)), gR_eq (by rw [mk_92 Mw]) (mr_92_15 Mw), c_mul, c_add, aI_n (mk_99 Mw) (by omega) (by decide), q1, gI_eq (by rw [mk_92 Mw]), q2, c_mul, nI_add, isC_eq (by rw [mk_92 Mw])]
      unfold m_X12_readPipe_B80
      rw [nI_1]
    rcases h2 with ⟨e, h2⟩ | ⟨e, h2⟩
    · subst e
      rw [run p2 hM d1 ev]
      by_cases g : D.1 (624 + 6 * j) = nI (12 * s.1.2.2.2 + x)
      · refine ⟨(nI (j + 1), zw), ⟨rfl, Or.inr ⟨rfl, j, hj, g⟩⟩, ?_⟩
        rw [if_pos g, rw1, bnd_some]
      · refine ⟨(nI (j + 1), p2), ⟨rfl, Or.inl ⟨rfl, fun q hq => ?_⟩⟩, ?_⟩
        · by_cases e : q = j
          · rw [e]; exact g
          · exact h2 q (by omega)
        · rw [if_neg g]
    · subst e
      rw [run p2 hw.M w99 w12]
      refine ⟨(nI (j + 1), p2), ⟨rfl, Or.inr ⟨rfl, h2⟩⟩, ?_⟩
      by_cases g : D.1 (624 + 6 * j) = nI (12 * s.1.2.2.2 + x)
      · rw [if_pos g, wrong_n hw.1 gw, bnd_some]
      · rw [if_neg g]
  case he =>
    rintro f ⟨p1, p2⟩ ⟨h1, h2⟩
    dsimp only at h1 h2 ⊢
    subst h1
    have run : ∀ w, LayM w → zI w 99 = D.1 → m_X12_readPipe_L40 K (f + 1) 92 (nI x) (nI m) w = K 92 (nI x) w := fun w Mw q1 => by
      rw [m_X12_readPipe_L40, gR_eq (by rw [mk_92 Mw]) (mr_92_15 Mw), show aI 1 w 99 2 = fun g => g (zI w 99 2) from funext fun g => aI_n (k := 2) (mk_99 Mw) (by decide) (by decide)]
      dsimp only
      rw [q1, em, if_neg (nI_nlt (Nat.le_refl _) (by omega))]
    rcases h2 with ⟨e, h2⟩ | ⟨e, h2⟩
    · subst e
      refine ⟨p2, run p2 hM d1, ?_⟩
      rw [decide_eq_false (fun ⟨q, g1, g2⟩ => h2 q g1 g2), fal_f]; exact h
    · subst e
      refine ⟨p2, run p2 hw.M w99, ?_⟩
      rw [decide_eq_true h2]; exact hw
theorem pi_M {m : Nat} (h : HM z0 z b n s D) (hm : m < 12) (em : D.1 2 = nI m) : ∃ y, m_X12_readPipe 92 z = some ((), y) ∧ HM z0 y b n (tP b n (tgP D.1) s) (uP b n D.1 s, D.2) := by
  have hM := h.M
  have eW : nPW D.1 = m := by unfold nPW; rw [em, nn_nI (by omega)]
  have hx := (nmv_b (s := s) (show 0 ≤ 11 by decide)).2
  obtain ⟨v1, z1, r1, h1, w1, _⟩ := m_nm 0 11 0 11 h (fun _ => ⟨rfl, rfl, by decide, by decide⟩)
  unfold m_X12_readPipe
  rw [isC_eq (by rw [mk_92 hM]), r1, bnd_some, isC_eq (by rw [mk_92 h1.M])]
  -- behind the cell
  have main : ∀ {x : Hp} {u : Ps}, HM z0 x b n u D → ((nm b n 0 11 u).2.1 = 0 → v1 = nI (nmv 0 11 s) ∧ nmv 0 11 u = nmv 0 11 (nm b n 0 11 s)) → ((nm b n 0 11 u).2.1 = 0 → nm b n 0 11 u = fal (tgP D.1 (cP b n s)) 2 (nm b n 0 11 s).1.2.1 (nm b n 0 11 (nm b n 0 11 s))) → (¬ (nm b n 0 11 u).2.1 = 0 → (nm b n 0 11 u).2 = (fal (tgP D.1 (cP b n s)) 2 (nm b n 0 11 s).1.2.1 (nm b n 0 11 (nm b n 0 11 s))).2) → ∃ y, m_X12_readPipe_B86 92 v1 x = some ((), y) ∧ HM z0 y b n (tP b n (tgP D.1) s) (uP b n D.1 s, D.2) := fun {x u} hx' e1 e2 e3 => by
    obtain ⟨v3, z3, r3, h3, w3, _⟩ := m_nm 0 11 0 11 hx' (fun _ => ⟨rfl, rfl, by decide, by decide⟩)
    have h3' : HM z0 z3 b n (fal (tgP D.1 (cP b n s)) 2 (nm b n 0 11 s).1.2.1 (nm b n 0 11 (nm b n 0 11 s))) D := by
      by_cases g : (nm b n 0 11 u).2.1 = 0
      · rw [← e2 g]; exact h3
      · exact h3.bad g (e3 g).symm
    obtain ⟨v4, z4, r4, h4, w4⟩ := m_ng 39 400 h3' (by decide) (by decide)
    replace h4 : HM z0 z4 b n (ng b n 400 (tP2 b n (tgP D.1) s)) D := h4
    replace w4 : (ng b n 400 (tP2 b n (tgP D.1) s)).2.1 = 0 → v4 = ngv b n 400 (tP2 b n (tgP D.1) s) := w4
    obtain ⟨v5, z5, r5, h5, w5⟩ := m_told 33 0 60 h4 (by decide) (by decide) (by decide)
    replace h5 : HM z0 z5 b n (tP b n (tgP D.1) s) D := h5
    replace w5 : (tP b n (tgP D.1) s).2.1 = 0 → v5 = nI (nmv 0 60 (tP3 b n (tgP D.1) s)) := w5
    unfold m_X12_readPipe_B86
    rw [isC_eq (by rw [mk_92 hx'.M]), r3, bnd_some, isC_eq (by rw [mk_92 h3.M]), show m_X12_below 92 39 (-400) z3 = _ from r4, bnd_some, isC_eq (by rw [mk_92 h4.M]), show m_X12_told 92 33 0 60 z4 = _ from r5, bnd_some, isC_eq (by rw [mk_92 h5.M])]
    by_cases c : (tP b n (tgP D.1) s).2.1 = 0
    · have q4 := wd_good (nm_good c).1
      have q3 := wd_good (ng_good q4)
      have gu : (nm b n 0 11 u).2.1 = 0 := by
        by_cases g : (nm b n 0 11 u).2.1 = 0
        · exact g
        · rw [← e3 g] at q3; exact absurd q3 g
      obtain ⟨x1, x2⟩ := e1 gu
      have ex2 : v3 = nI (nmv 0 11 (nm b n 0 11 s)) := by rw [w3 gu, x2]
      have d99 := (h5.2.2.2 c).1
      have ecell : (12 : Int32) * v3 + v1 = nI (cP b n s) := by rw [ex2, x1, c_mul, nI_add]; rfl
      have h6 := h5.w99 (k := 624 + 6 * m) (v := nI (cP b n s)) (fun _ => rfl)
      have h7 := h6.w99 (k := 624 + 6 * m + 1) (v := v4) (fun _ => w4 q4)
      have h8 := h7.w99 (k := 624 + 6 * m + 2) w5
      have h9 := h8.w99 (k := 624 + 6 * m + 3) (v := 1) (fun _ => rfl)
      have h10 := h9.w99 (k := 2) (v := nI (m + 1)) (fun _ => rfl)
      refine ⟨_, ?_, by unfold uP; rw [eW]; exact h10⟩
      have a2 : ∀ {w : Hp} (g : Int32 → Option (Unit × Hp)), LayM w → zI w 99 2 = nI m → aI 1 w 99 2 g = g (nI m) := fun {w} g Mw q => by rw [show aI 1 w 99 2 g = g (zI w 99 2) from aI_n (k := 2) (mk_99 Mw) (by decide) (by decide), q]
      rw [good_t h5.1 c, bnd_some, if_neg (by decide), gR_eq (by rw [mk_92 h5.M]) (mr_92_15 h5.M), a2 _ h5.M (by rw [d99]; exact em), gR_eq (by rw [mk_92 h5.M]) (mr_92_15 h5.M), c_mul, c_add, ecell, sI_n (mk_99 h5.M) (by omega) (by decide),
        gR_eq (by rw [mk_92 h6.M]) (mr_92_15 h6.M), nI_1, sI_n (mk_99 h6.M) (by omega) (by decide), gR_eq (by rw [mk_92 h7.M]) (mr_92_15 h7.M), add_c, sI_n (mk_99 h7.M) (by omega) (by decide), gR_eq (by rw [mk_92 h8.M]) (mr_92_15 h8.M), add_c, sI_n (mk_99 h8.M) (by omega) (by decide), gR_eq (by rw [mk_92 h9.M]) (mr_92_15 h9.M), a2 _ h9.M (by rw [(h9.2.2.2 c).1]; dsimp only; rw [up_ne (by omega), up_ne (by omega), up_ne (by omega), up_ne (by omega)]; exact em), nI_1, show sI 1 (wI (wI (wI (wI z5 99 (ups (zI z5 99) (624 + 6 * m) (nI (cP b n s)))) 99 (ups (zI (wI z5 99 (ups (zI z5 99) (624 + 6 * m) (nI (cP b n s)))) 99) (624 + 6 * m + 1) v4)) 99 (ups (zI (wI (wI z5 99 (ups (zI z5 99) (624 + 6 * m) (nI (cP b n s)))) 99 (ups (zI (wI z5 99 (ups (zI z5 99) (624 + 6 * m) (nI (cP b n s)))) 99) (624 + 6 * m + 1) v4)) 99) (624 + 6 * m + 2) v5)) 99 (ups (zI (wI (wI (wI z5 99 (ups (zI z5 99) (624 + 6 * m) (nI (cP b n s)))) 99 (ups (zI (wI z5 99 (ups (zI z5 99) (624 + 6 * m) (nI (cP b n s)))) 99) (624 + 6 * m + 1) v4)) 99 (ups (zI (wI (wI z5 99 (ups (zI z5 99) (624 + 6 * m) (nI (cP b n s)))) 99 (ups (zI (wI z5 99 (ups (zI z5 99) (624 + 6 * m) (nI (cP b n s)))) 99) (624 + 6 * m + 1) v4)) 99) (624 + 6 * m + 2) v5)) 99) (624 + 6 * m + 3) 1)) 99 2 (nI (m + 1)) _ = _ from sI_n (k := 2) (mk_99 h9.M) (by decide) (by decide)]
    · exact ⟨z5, by rw [good_f h5.1 c, bnd_some, if_pos rfl], h5.bad c rfl⟩
  by_cases c : (nm b n 0 11 s).2.1 = 0
  · have ev1 := w1 c
    obtain ⟨hT, hv⟩ := h1.1.2.2.2.2 c
    rw [good_t h1.1 c, bnd_some, if_neg (by decide), gI_eq (by rw [mk_92 h1.M]), hT.1]
    have bad2 : ¬ (nm b n 0 11 (nm b n 0 11 s)).2.1 = 0 → ∃ y, m_X12_readPipe_B86 92 v1 z1 = some ((), y) ∧ HM z0 y b n (tP b n (tgP D.1) s) (uP b n D.1 s, D.2) := fun g => main h1 (fun q => absurd q g) (fun q => absurd q g) (fun _ => (fal_st g).symm)
    by_cases c1 : (nm b n 0 11 s).1.1 = 2
    · have ev := hT.2.2.2.1 c1
      have v5 := hv.2.2.2.2
      rw [if_pos ((tk2 hv.1).mpr c1), gI_eq (by rw [mk_92 h1.M]), ev, show m_X12_in (nI (min 999999 (nm b n 0 11 s).1.2.2.2)).toInt64 0 11 z1 = _ from in_lit _ 0 11 (by decide) (by decide) z1, bnd_some]
      by_cases c2 : (nm b n 0 11 s).1.2.2.2 ≤ 11
      · have hk : nmk 0 11 (nm b n 0 11 s).1 = true := decide_eq_true ⟨Nat.zero_le _, c2⟩
        have eg : nmv 0 11 (nm b n 0 11 s) = (nm b n 0 11 s).1.2.2.2 := if_pos ⟨c1, hk⟩
        have ng1 : nm b n 0 11 (nm b n 0 11 s) = ad b n (nm b n 0 11 s) := by
          show (if (nm b n 0 11 s).1.1 = 2 then fal (!nmk 0 11 (nm b n 0 11 s).1) 2 (nm b n 0 11 s).1.2.1 (ad b n (nm b n 0 11 s)) else fal true 1 (nm b n 0 11 s).1.2.1 (nm b n 0 11 s)) = _
          rw [if_pos c1, hk]
          exact fal_f
        rw [if_neg (i10p ⟨show (0 : Int32) ≤ nI (min 999999 (nm b n 0 11 s).1.2.2.2) from (nI_leI (a := 0) (by decide) (by omega)).mpr (Nat.zero_le _), show nI (min 999999 (nm b n 0 11 s).1.2.2.2) ≤ 11 from (nI_leI (b := 11) (by omega) (by decide)).mpr (by omega)⟩), ev1]
        obtain ⟨z2, r2, h2⟩ := pl_M m_X12_readPipe_B86 h1 c c1 c2 (by omega) em (show nmv 0 11 s < 12 by omega)
        rw [r2, ← ev1]
        have et : decide (∃ p, p < m ∧ D.1 (624 + 6 * p) = nI (12 * (nm b n 0 11 s).1.2.2.2 + nmv 0 11 s)) = tgP D.1 (cP b n s) := by
          unfold tgP cP
          rw [eW, eg]
        rw [et] at h2
        cases q : tgP D.1 (cP b n s) with
        | false =>
          rw [q, fal_f] at h2
          exact main h2 (fun _ => ⟨ev1, rfl⟩) (fun _ => by rw [q, fal_f]) (fun g => absurd (by rw [ng1]; exact c) g)
        | true =>
          rw [q] at h2
          have gb : ¬ (fal true 2 (nm b n 0 11 s).1.2.1 (nm b n 0 11 s)).2.1 = 0 := by
            show ¬ (fl true 2 (nm b n 0 11 s).1.2.1 (nm b n 0 11 s).2).1 = 0
            rw [fl_t c]; exact (by decide : ¬ (2 : Int32) = 0)
          refine main h2 (fun g => absurd g (nm_st1 gb)) (fun g => absurd g (nm_st1 gb)) (fun _ => ?_)
          rw [nm_st gb, q, ng1]
          rfl
      · rw [if_pos (i10n (fun g => c2 (by have := (show nI (min 999999 (nm b n 0 11 s).1.2.2.2) ≤ 11 from g.2); rw [show (11 : Int32) = nI 11 from rfl, nI_leI (by omega) (by decide)] at this; omega)))]
        exact bad2 (fun g => c2 (of_decide_eq_true (nm_good g).2.2).2)
    · rw [if_neg (fun g => c1 ((tk2 hv.1).mp g))]
      exact bad2 (fun g => c1 (nm_good g).2.1)
  · rw [good_f h1.1 c, bnd_some, if_pos rfl]
    exact main h1 (fun q => absurd q (nm_st1 c)) (fun q => absurd q (nm_st1 c)) (fun _ => (fal_st (nm_st1 c)).symm)
end
