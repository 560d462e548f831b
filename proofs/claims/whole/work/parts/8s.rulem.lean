/-! ===== text: a rule of the model ===== -/
theorem cmp_st {b : Nat → Nat} {n : Nat} {s : Ps} (g : ¬ s.2.1 = 0) : (cmp b n s).2 = s.2 := by
  show fl _ 1 s.1.2.1 s.2 = s.2
  rw [fl_b g]
theorem tC1_st {b : Nat → Nat} {n i : Nat} {s : Ps} (g : ¬ s.2.1 = 0) : (tC1 b n i s).2 = s.2 := by
  unfold tC1
  show (if cw b s.1 = 5 then fal true 1 s.1.2.1 s else fal (decide (i = 3)) 3 s.1.2.1 s).2 = s.2
  split
  · exact fal_st g
  · exact fal_st g
theorem tC_st' {b : Nat → Nat} {n i : Nat} {s : Ps} (g : ¬ (tC1 b n i s).2.1 = 0) : (tC b n i s).2 = (tC1 b n i s).2 := by
  unfold tC
  split
  · rfl
  · rw [nm_st (by rw [cmp_st g]; exact g), cmp_st g]
theorem tC_st {b : Nat → Nat} {n i : Nat} {s : Ps} (g : ¬ s.2.1 = 0) : (tC b n i s).2 = s.2 := by
  rw [tC_st' (by rw [tC1_st g]; exact g), tC1_st g]
theorem rl_st {b : Nat → Nat} {n m : Nat} {s : Ps} {F : Nat → Int32} (g : ¬ s.2.1 = 0) : (rl b n m 4 0 s F).1.2 = s.2 := by
  rw [show rl b n m 4 0 s F = _ from rl_s (i := 0) (by decide), if_neg (fun q => g (tC_good q.1).1)]
  exact tC_st g
section
variable {z0 z y : Hp} {b : Nat → Nat} {n : Nat} {s t : Ps} {D E : Dt}
theorem wh_M (h : HM z0 z b n s D) (c : s.2.1 = 0) : m_X12_wordHere 92 z = some (cwv (cw b s.1), z) := by
  have hM := h.M
  have w : ∀ q, q < 48 → m_X12_is 92 q z = some (bI (isW b (txw q) s.1), z) := fun q hq => by rw [is_M h.1 hq, if_pos c]
  unfold m_X12_wordHere cw
  rw [isC_eq (by rw [mk_92 hM]), w 41 (by decide), bnd_some, show txw 41 = txw 18 from rfl]
  cases isW b (txw 18) s.1 with
  | true => rw [if_neg bI_t]; rfl
  | false =>
    rw [if_pos bI_f, isC_eq (by rw [mk_92 hM]), w 42 (by decide), bnd_some, show txw 42 = txw 19 from rfl]
    cases isW b (txw 19) s.1 with
    | true => rw [if_neg bI_t]; rfl
    | false =>
      rw [if_pos bI_f, isC_eq (by rw [mk_92 hM]), w 43 (by decide), bnd_some, show txw 43 = txw 20 from rfl]
      cases isW b (txw 20) s.1 with
      | true => rw [if_neg bI_t]; rfl
      | false =>
        rw [if_pos bI_f, isC_eq (by rw [mk_92 hM]), w 44 (by decide), bnd_some, show txw 44 = txw 21 from rfl]
        cases isW b (txw 21) s.1 with
        | true => rw [if_neg bI_t]; rfl
        | false =>
          rw [if_pos bI_f, isC_eq (by rw [mk_92 hM]), w 45 (by decide), bnd_some, show txw 45 = txw 22 from rfl]
          cases isW b (txw 22) s.1 with
          | true => rw [if_neg bI_t]; rfl
          | false => rw [if_pos bI_f]; rfl
theorem con_M {m i : Nat} (h : HM z0 z b n s D) (c : s.2.1 = 0) (hm : m < 4) (hi : i < 4) (ei : D.1 (750 + 10 * m) = nI i) : ∃ y, m_X12_readCond 92 (nI (750 + 10 * m)) z = some ((), y) ∧ HM z0 y b n (tC b n i s) (cF b n m i s D.1, D.2) := by
  have hM := h.M
  have hl := cw_lt (b := b) (T := s.1)
  obtain ⟨d1, _⟩ := h.2.2.2 c
  unfold m_X12_readCond
  rw [isC_eq (by rw [mk_92 hM]), wh_M h c, bnd_some]
  have bad33 : ∀ {x : Hp} {u : Ps} (w : Int32), HM z0 x b n u D → ¬ u.2.1 = 0 → (tC b n i s).2 = u.2 → ∃ y, m_X12_readCond_B33 92 (nI (750 + 10 * m)) w x = some ((), y) ∧ HM z0 y b n (tC b n i s) (cF b n m i s D.1, D.2) := fun {x u} w hx g e => by
    refine ⟨x, ?_, hx.bad g e⟩
    unfold m_X12_readCond_B33
    rw [isC_eq (by rw [mk_92 hx.M]), good_f hx.1 g, bnd_some, if_pos rfl]
  by_cases c5 : cw b s.1 = 5
  · rw [if_pos (show cwv (cw b s.1) = -1 from if_pos c5), isC_eq (by rw [mk_92 hM])]
    obtain ⟨z1, r1, h1⟩ := m_wrong 1 (by decide) h
    rw [r1, bnd_some]
    have gb : ¬ (fal true 1 s.1.2.1 s).2.1 = 0 := by
      show ¬ (fl true 1 s.1.2.1 s.2).1 = 0
      rw [fl_t c]; exact (by decide : ¬ (1 : Int32) = 0)
    have e1 : (tC1 b n i s).2 = (fal true 1 s.1.2.1 s).2 := by
      unfold tC1
      rw [if_pos c5]
      rfl
    exact bad33 _ h1 gb (by rw [tC_st' (by rw [e1]; exact gb), e1])
  · have ecw : cwv (cw b s.1) = nI (cw b s.1) := if_neg c5
    rw [ecw, if_neg (show ¬ nI (cw b s.1) = -1 from nI_ne_m1 (by omega)), gR_eq (by rw [mk_92 hM]) (mr_92_15 hM), aI_n (mk_99 hM) (by omega) (by decide), d1, ei]
    by_cases c3 : i = 3
    · rw [if_pos (by rw [c3]; rfl), isC_eq (by rw [mk_92 hM])]
      obtain ⟨z1, r1, h1⟩ := m_wrong 3 (by decide) h
      rw [r1, bnd_some]
      have gb : ¬ (fal true 3 s.1.2.1 s).2.1 = 0 := by
        show ¬ (fl true 3 s.1.2.1 s.2).1 = 0
        rw [fl_t c]; exact (by decide : ¬ (3 : Int32) = 0)
      have e1 : (tC1 b n i s).2 = (fal true 3 s.1.2.1 s).2 := by
        unfold tC1
        rw [if_neg c5, decide_eq_true c3]
        rfl
      exact bad33 _ h1 gb (by rw [tC_st' (by rw [e1]; exact gb), e1])
    · rw [if_neg (show ¬ nI i = 3 from fun g => c3 ((nI_eq (b := 3) (by omega) (by decide)).mp g))]
      have e1 : tC1 b n i s = ad b n s := by
        unfold tC1
        rw [if_neg c5, decide_eq_false c3, fal_f]
      obtain ⟨z1, r1, h1⟩ := m_ad h c
      rw [← e1] at h1
      have g1 : (tC1 b n i s).2.1 = 0 := by rw [e1]; exact c
      have h2 := h1.w99 (k := 751 + 10 * m + 3 * i) (v := nI (cw b s.1)) (fun _ => rfl)
      have d2 := (h1.2.2.2 g1).1
      unfold m_X12_readCond_B33
      rw [isC_eq (by rw [mk_92 hM]), good_t h.1 c, bnd_some, if_neg (by decide), isC_eq (by rw [mk_92 hM]), r1, bnd_some, gR_eq (by rw [mk_92 h1.M]) (mr_92_15 h1.M), aI_n (mk_99 h1.M) (by omega) (by decide), d2, ei, gR_eq (by rw [mk_92 h1.M]) (mr_92_15 h1.M), nI_1, c_mul, nI_add, show 750 + 10 * m + 1 + 3 * i = 751 + 10 * m + 3 * i by omega, sI_n (mk_99 h1.M) (by omega) (by decide)]
      -- the count
      have cnt : ∀ {x : Hp} {u : Ps} {F : Nat → Int32}, HM z0 x b n u (F, D.2) → F (750 + 10 * m) = nI i → ∃ y, m_X12_readCond_B131 92 (nI (750 + 10 * m)) x = some ((), y) ∧ HM z0 y b n u (ups F (750 + 10 * m) (nI (i + 1)), D.2) := fun {x u F} hx eF => by
        refine ⟨_, ?_, hx.w99 (k := 750 + 10 * m) (v := zI x 99 (750 + 10 * m) + 1) (fun g => by rw [(hx.2.2.2 g).1]; show F _ + 1 = _; rw [eF, nI_1])⟩
        unfold m_X12_readCond_B131
        rw [gR_eq (by rw [mk_92 hx.M]) (mr_92_15 hx.M), aI_n (mk_99 hx.M) (by omega) (by decide), sI_n (mk_99 hx.M) (by omega) (by decide)]
      by_cases c0 : cw b s.1 = 0
      · rw [if_neg (show ¬ (0 : Int32) < nI (cw b s.1) by rw [c0]; decide)]
        obtain ⟨y, r3, h3⟩ := cnt h2 (by show ups D.1 _ _ (750 + 10 * m) = nI i; rw [up_ne (by omega)]; exact ei)
        refine ⟨y, r3, ?_⟩
        unfold tC cF
        rw [if_pos c0, if_pos c0]
        exact h3
      · rw [if_pos (show (0 : Int32) < nI (cw b s.1) from nI_lt (a := 0) (by omega) (by omega))]
        have et : tC b n i s = nm b n 0 99999 (cmp b n (tC1 b n i s)) := if_neg c0
        have eF : cF b n m i s D.1 = ups (ups (ups (ups D.1 (751 + 10 * m + 3 * i) (nI (cw b s.1))) (752 + 10 * m + 3 * i) (nI (tC1 b n i s).1.2.2.2)) (753 + 10 * m + 3 * i) (nI (nmv 0 99999 (cmp b n (tC1 b n i s))))) (750 + 10 * m) (nI (i + 1)) := by
          unfold cF cSg cNr
          rw [if_neg c0, if_neg c0, if_neg c0]
        rw [et, eF]
        generalize tC1 b n i s = u at h2 g1
        have b92 : isC2 u.1 = true → ∃ y, m_X12_readCond_B92 92 (nI (750 + 10 * m)) (nI (751 + 10 * m + 3 * i)) (wI z1 99 (ups (zI z1 99) (751 + 10 * m + 3 * i) (nI (cw b s.1)))) = some ((), y) ∧ HM z0 y b n (nm b n 0 99999 (cmp b n u)) (ups (ups (ups (ups D.1 (751 + 10 * m + 3 * i) (nI (cw b s.1))) (752 + 10 * m + 3 * i) (nI u.1.2.2.2)) (753 + 10 * m + 3 * i) (nI (nmv 0 99999 (cmp b n u)))) (750 + 10 * m) (nI (i + 1)), D.2) := fun hc => by
          obtain ⟨hT, hv⟩ := h2.1.2.2.2.2 g1
          have k3 : u.1.1 = 3 := by
            unfold isC2 at hc
            cases q : isS 60 u.1 with
            | true => exact (of_decide_eq_true q).1
            | false => rw [q, Bool.false_or] at hc; exact (of_decide_eq_true hc).1
          have ev := hT.2.2.2.2 (Or.inl k3)
          have h3 := h2.w99 (k := 752 + 10 * m + 3 * i) (v := nI u.1.2.2.2) (fun _ => rfl)
          obtain ⟨z4, r4, h4⟩ := m_ad h3 g1
          have ec : ad b n u = cmp b n u := by
            unfold cmp
            rw [hc]
            show ad b n u = ad b n (fal false 1 u.1.2.1 u)
            rw [fal_f]
          rw [ec] at h4
          obtain ⟨v5, z5, r5, h5, w5, _⟩ := m_nm 0 99999 0 99999 h4 (fun _ => ⟨rfl, rfl, by decide, by decide⟩)
          have h6 := h5.w99 (k := 753 + 10 * m + 3 * i) w5
          obtain ⟨y, r7, h7⟩ := cnt h6 (by
            show ups (ups (ups D.1 _ _) _ _) _ _ (750 + 10 * m) = nI i
            rw [up_ne (by omega), up_ne (by omega), up_ne (by omega)]; exact ei)
          refine ⟨y, ?_, h7⟩
          unfold m_X12_readCond_B92
          rw [isC_eq (by rw [mk_92 h2.M]), good_t h2.1 g1, bnd_some, if_neg (by decide), gR_eq (by rw [mk_92 h2.M]) (mr_92_15 h2.M), gI_eq (by rw [mk_92 h2.M]), ev, nI_1, show 751 + 10 * m + 3 * i + 1 = 752 + 10 * m + 3 * i by omega, sI_n (mk_99 h2.M) (by omega) (by decide), isC_eq (by rw [mk_92 h3.M]), r4, bnd_some, gR_eq (by rw [mk_92 h4.M]) (mr_92_15 h4.M), isC_eq (by rw [mk_92 h4.M]), r5, bnd_some, add_c, show 751 + 10 * m + 3 * i + 2 = 753 + 10 * m + 3 * i by omega, sI_n (mk_99 h5.M) (by omega) (by decide), r7]
        rw [isC_eq (by rw [mk_92 h2.M]), show m_X12_isSign 92 60 _ = _ from isS_M (c := 60) h2.1 (by decide), bnd_some, if_pos g1]
        cases q1 : isS 60 u.1 with
        | true =>
          rw [if_neg bI_t]
          exact b92 (by unfold isC2; rw [q1]; rfl)
        | false =>
          rw [if_pos bI_f, isC_eq (by rw [mk_92 h2.M]), show m_X12_isSign 92 62 _ = _ from isS_M (c := 62) h2.1 (by decide), bnd_some, if_pos g1]
          cases q2 : isS 62 u.1 with
          | true =>
            rw [if_neg bI_t]
            exact b92 (by unfold isC2; rw [q1, q2]; rfl)
          | false =>
            rw [if_pos bI_f, isC_eq (by rw [mk_92 h2.M])]
            obtain ⟨z3, r3, h3⟩ := m_wrong 1 (by decide) h2
            rw [r3, bnd_some]
            have gb : ¬ (fal true 1 u.1.2.1 u).2.1 = 0 := by
              show ¬ (fl true 1 u.1.2.1 u.2).1 = 0
              rw [fl_t g1]; exact (by decide : ¬ (1 : Int32) = 0)
            have ec : (cmp b n u).2 = (fal true 1 u.1.2.1 u).2 := by
              unfold cmp isC2
              rw [q1, q2]
              rfl
            refine ⟨z3, ?_, h3.bad gb (by rw [nm_st (by rw [ec]; exact gb), ec])⟩
            unfold m_X12_readCond_B92
            rw [isC_eq (by rw [mk_92 h3.M]), good_f h3.1 gb, bnd_some, if_pos rfl]
theorem cF_k {m i : Nat} {F : Nat → Int32} : cF b n m i s F (750 + 10 * m) = nI (i + 1) := up_eq
theorem ru_M {m : Nat} (h : HM z0 z b n s D) (hm : m < 4) (em : D.1 4 = nI m) (e0 : D.1 (750 + 10 * m) = 0) : ∃ y, m_X12_readRule 92 z = some ((), y) ∧ HM z0 y b n (rl b n m 4 0 (wd b n (txw 17) s) D.1).1 (ups (rl b n m 4 0 (wd b n (txw 17) s) D.1).2 4 (nI (m + 1)), D.2) := by
  obtain ⟨z1, r1, h1, _⟩ := m_wd 40 h (by decide)
  replace h1 : HM z0 z1 b n (wd b n (txw 17) s) D := h1
  unfold m_X12_readRule
  rw [isC_eq (by rw [mk_92 h.M]), r1, bnd_some, gR_eq (by rw [mk_92 h1.M]) (mr_92_15 h1.M), show aI 1 z1 99 4 = fun g => g (zI z1 99 4) from funext fun g => aI_n (k := 4) (mk_99 h1.M) (by decide) (by decide)]
  dsimp only
  generalize wd b n (txw 17) s = s1 at h1
  by_cases c : s1.2.1 = 0
  · have d1 := (h1.2.2.2 c).1
    rw [d1, em, c_mul, c_add]
    refine loopQ (X := Int32 × Hp) (fun f x => m_X12_readRule_L22 m_X12_readRule_B49 f 92 (nI (750 + 10 * m)) x.1 x.2) (fun t => ∃ y, t = some ((), y) ∧ HM z0 y b n (rl b n m 4 0 s1 D.1).1 (ups (rl b n m 4 0 s1 D.1).2 4 (nI (m + 1)), D.2)) (fun j x => (j < 4 ∧ x.1 = 1 ∧ ∃ t G, HM z0 x.2 b n t (G, D.2) ∧ t.2.1 = 0 ∧ G (750 + 10 * m) = nI j ∧ G 4 = nI m ∧ rl b n m 4 0 s1 D.1 = rl b n m (4 - j) j t G) ∨ ((x.1 = 0 ∨ ¬ (rl b n m 4 0 s1 D.1).1.2.1 = 0) ∧ (rl b n m 4 0 s1 D.1).2 4 = nI m ∧ HM z0 x.2 b n (rl b n m 4 0 s1 D.1).1 ((rl b n m 4 0 s1 D.1).2, D.2))) 5 ?hs ?he 0 FU (1, z1) (by decide) (by decide) (Or.inl ⟨by decide, rfl, s1, D.1, h1, c, e0, em, rfl⟩)
    all_goals
      have fin : ∀ {v : Int32} {w : Hp} (f : Nat), (v = 0 ∨ ¬ (rl b n m 4 0 s1 D.1).1.2.1 = 0) → (rl b n m 4 0 s1 D.1).2 4 = nI m → HM z0 w b n (rl b n m 4 0 s1 D.1).1 ((rl b n m 4 0 s1 D.1).2, D.2) → ∃ y, m_X12_readRule_L22 m_X12_readRule_B49 (f + 1) 92 (nI (750 + 10 * m)) v w = some ((), y) ∧ HM z0 y b n (rl b n m 4 0 s1 D.1).1 (ups (rl b n m 4 0 s1 D.1).2 4 (nI (m + 1)), D.2) := fun {v w} f g1 g2 g3 => by
        have : ∃ y, m_X12_readRule_B49 92 w = some ((), y) ∧ HM z0 y b n (rl b n m 4 0 s1 D.1).1 (ups (rl b n m 4 0 s1 D.1).2 4 (nI (m + 1)), D.2) := by
          by_cases gd : (rl b n m 4 0 s1 D.1).1.2.1 = 0
          · have dw := (g3.2.2.2 gd).1
            refine ⟨_, ?_, g3.w99 (k := 4) (v := nI (m + 1)) (fun _ => rfl)⟩
            unfold m_X12_readRule_B49
            rw [isC_eq (by rw [mk_92 g3.M]), good_t g3.1 gd, bnd_some, if_neg (by decide), gR_eq (by rw [mk_92 g3.M]) (mr_92_15 g3.M), show aI 1 w 99 4 = fun g => g (zI w 99 4) from funext fun g => aI_n (k := 4) (mk_99 g3.M) (by decide) (by decide)]
            dsimp only
            rw [dw]
            dsimp only
            rw [g2, nI_1]
            refine (sI_n (k := 4) (mk_99 g3.M) (by decide) (by decide)).trans ?_
            rw [dw]
          · refine ⟨w, ?_, g3.bad gd rfl⟩
            unfold m_X12_readRule_B49
            rw [isC_eq (by rw [mk_92 g3.M]), good_f g3.1 gd, bnd_some, if_pos rfl]
        rw [m_X12_readRule_L22]
        by_cases cv : v = 0
        · rw [if_pos cv]; exact this
        · have gd : ¬ (rl b n m 4 0 s1 D.1).1.2.1 = 0 := by
            rcases g1 with g | g
            · exact absurd g cv
            · exact g
          rw [if_neg cv, isC_eq (by rw [mk_92 g3.M]), good_f g3.1 gd, bnd_some, if_pos rfl]; exact this
    case hs =>
      rintro j f ⟨v, w⟩ hj (⟨j4, g1, t, G, g2, g3, g4, g5, g6⟩ | ⟨g1, g2, g3⟩)
      · dsimp only at g1 g2 ⊢
        subst g1
        left
        obtain ⟨w2, r2, k2⟩ := con_M (m := m) g2 g3 hm j4 g4
        obtain ⟨w3, r3, F3, P3⟩ := takes_M (q := 46) k2.1 (by decide)
        rw [show txw 46 = txw 23 from rfl] at r3 P3
        rw [rl_s j4] at g6
        have eF4 : cF b n m j t G 4 = nI m := by
          unfold cF
          rw [up_ne (by omega)]
          split
          · rw [up_ne (by omega)]; exact g5
          · rw [up_ne (by omega), up_ne (by omega), up_ne (by omega)]; exact g5
        have run : m_X12_readRule_L22 m_X12_readRule_B49 (f + 1) 92 (nI (750 + 10 * m)) 1 w = m_X12_readRule_L22 m_X12_readRule_B49 f 92 (nI (750 + 10 * m)) (if (tC b n j t).2.1 = 0 then bI (isW b (txw 23) (tC b n j t).1) else 0) w3 := by
          rw [m_X12_readRule_L22, if_neg (by decide), isC_eq (by rw [mk_92 g2.M]), good_t g2.1 g3, bnd_some, if_neg (by decide), isC_eq (by rw [mk_92 g2.M]), r2, bnd_some, isC_eq (by rw [mk_92 k2.M]), r3, bnd_some]
        by_cases cc : (tC b n j t).2.1 = 0 ∧ isW b (txw 23) (tC b n j t).1 = true
        · rw [if_pos cc] at g6 P3
          have q := tC_good cc.1
          refine ⟨(1, w3), Or.inl ⟨by omega, rfl, ad b n (tC b n j t), cF b n m j t G, k2.fm F3 P3 (fun g => g), cc.1, cF_k, eF4, g6⟩, ?_⟩
          rw [run, if_pos cc.1, cc.2]; rfl
        · rw [if_neg cc] at g6 P3
          refine ⟨(_, w3), Or.inr ⟨?_, ?_, ?_⟩, run⟩
          · rw [g6]
            by_cases gd : (tC b n j t).2.1 = 0
            · left
              show (if (tC b n j t).2.1 = 0 then bI (isW b (txw 23) (tC b n j t).1) else 0) = 0
              rw [if_pos gd]
              cases q : isW b (txw 23) (tC b n j t).1 with
              | false => rfl
              | true => exact absurd ⟨gd, q⟩ cc
            · right; exact gd
          · rw [g6]; exact eF4
          · rw [g6]; exact k2.fm F3 P3 (fun g => g)
      · right
        exact fin f g1 g2 g3
    case he =>
      rintro f ⟨v, w⟩ (⟨j4, _⟩ | ⟨g1, g2, g3⟩)
      · exact absurd j4 (by decide)
      · exact fin f g1 g2 g3
  · obtain ⟨f, hf⟩ : ∃ f, FU = f + 1 := ⟨FU - 1, by have : 0 < FU := FU_pos (by omega); omega⟩
    refine ⟨z1, ?_, h1.bad c (rl_st c)⟩
    rw [hf, m_X12_readRule_L22, if_neg (by decide), isC_eq (by rw [mk_92 h1.M]), good_f h1.1 c, bnd_some, if_pos rfl]
    unfold m_X12_readRule_B49
    rw [isC_eq (by rw [mk_92 h1.M]), good_f h1.1 c, bnd_some, if_pos rfl]
end
