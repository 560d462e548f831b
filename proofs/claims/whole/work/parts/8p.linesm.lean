/-! ===== text: lines of the model ===== -/
def HM (z0 z : Hp) (b : Nat → Nat) (n : Nat) (s : Ps) (D : Dt) : Prop :=
  PM z b n s ∧ Fi (fun a => a = 92 ∨ a = 99 ∨ a = 100 ∨ a = 101) z0 z ∧ (∀ k, k < 9 ∨ 23 < k → zI z 92 k = zI z0 92 k) ∧ (s.2.1 = 0 → zI z 99 = D.1 ∧ zI z 100 = D.2.1 ∧ zI z 101 = D.2.2.1 ∧ zI z 92 18 = D.2.2.2.1 ∧ zI z 92 19 = D.2.2.2.2)
theorem wd_st {b : Nat → Nat} {n : Nat} {w : List Int32} {s : Ps} (g : ¬ s.2.1 = 0) : (wd b n w s).2 = s.2 := by
  show fl _ 1 s.1.2.1 s.2 = s.2
  rw [fl_b g]
theorem fal_st {c : Bool} {k : Int32} {p : Nat} {s : Ps} (g : ¬ s.2.1 = 0) : (fal c k p s).2 = s.2 := fl_b g
theorem ng_st {b : Nat → Nat} {n m : Nat} {s : Ps} (g : ¬ s.2.1 = 0) : (ng b n m s).2 = s.2 := by
  unfold ng
  rw [nm_st (by rw [mn_st]; exact g), mn_st]
theorem nm_st1 {b : Nat → Nat} {n lo hi : Nat} {s : Ps} (g : ¬ s.2.1 = 0) : ¬ (nm b n lo hi s).2.1 = 0 := by rw [nm_st g]; exact g
theorem wd_st1 {b : Nat → Nat} {n : Nat} {w : List Int32} {s : Ps} (g : ¬ s.2.1 = 0) : ¬ (wd b n w s).2.1 = 0 := by rw [wd_st g]; exact g
theorem ng_st1 {b : Nat → Nat} {n m : Nat} {s : Ps} (g : ¬ s.2.1 = 0) : ¬ (ng b n m s).2.1 = 0 := by rw [ng_st g]; exact g
theorem fal_st1 {c : Bool} {k : Int32} {p : Nat} {s : Ps} (g : ¬ s.2.1 = 0) : ¬ (fal c k p s).2.1 = 0 := by rw [fal_st g]; exact g
section
variable {z0 z y : Hp} {b : Nat → Nat} {n : Nat} {s t : Ps} {D E : Dt}
theorem HM.M (h : HM z0 z b n s D) : LayM z := h.1.1
theorem HM.fm (h : HM z0 z b n s D) (F : FM z y) (P : PM y b n t) (g : t.2.1 = 0 → s.2.1 = 0) : HM z0 y b n t D :=
  ⟨P, h.2.1.trans (F.1.mono (fun a e => Or.inl e)), fun k hk => (F.2 k (by omega)).trans (h.2.2.1 k hk), fun q => by
    have := h.2.2.2 (g q)
    rw [F.1.2.2.2.2 99 (by omega), F.1.2.2.2.2 100 (by omega), F.1.2.2.2.2 101 (by omega), F.2 18 (by omega), F.2 19 (by omega)]
    exact this⟩
theorem HM.bad (h : HM z0 z b n s D) (g : ¬ s.2.1 = 0) (e : t.2 = s.2) : HM z0 z b n t E := ⟨h.1.bad g e, h.2.1, h.2.2.1, fun q => absurd q (by rw [e]; exact g)⟩
theorem PM.w {a : Nat} {f : Nat → Int32} (h : PM z b n s) (ha : a ≠ 92) (ha2 : a ≠ 97) : PM (wI z a f) b n s :=
  ⟨h.1.of rfl rfl, ⟨by rw [zI_ne (Ne.symm ha)]; exact h.2.1.1, h.2.1.2.1, fun i hi => by rw [zI_ne (Ne.symm ha2)]; exact h.2.1.2.2 i hi⟩, by rw [zI_ne (Ne.symm ha)]; exact h.2.2.1, by rw [zI_ne (Ne.symm ha)]; exact h.2.2.2.1, fun g => by
    have := h.2.2.2.2 g
    unfold TkM at this ⊢
    rw [zI_ne (Ne.symm ha)]
    exact this⟩
theorem HM.w99 (h : HM z0 z b n s D) {k : Nat} {v u : Int32} (e : s.2.1 = 0 → v = u) : HM z0 (wI z 99 (ups (zI z 99) k v)) b n s (ups D.1 k u, D.2) :=
  ⟨h.1.w (by decide) (by decide), h.2.1.trans (Fi.w (by omega)), fun j hj => by rw [zI_ne (by decide)]; exact h.2.2.1 j hj, fun g => by
    have := h.2.2.2 g
    rw [zI_eq, zI_ne (by decide), zI_ne (by decide), zI_ne (by decide), this.1, e g]
    exact ⟨rfl, this.2⟩⟩
theorem HM.w100 (h : HM z0 z b n s D) {k : Nat} {v : Int32} : HM z0 (wI z 100 (ups (zI z 100) k v)) b n s (D.1, ups D.2.1 k v, D.2.2) :=
  ⟨h.1.w (by decide) (by decide), h.2.1.trans (Fi.w (by omega)), fun j hj => by rw [zI_ne (by decide)]; exact h.2.2.1 j hj, fun g => by
    have := h.2.2.2 g
    rw [zI_eq, zI_ne (by decide), zI_ne (by decide), zI_ne (by decide), this.2.1]
    exact ⟨this.1, rfl, this.2.2⟩⟩
theorem HM.w101 (h : HM z0 z b n s D) {k : Nat} {v : Int32} : HM z0 (wI z 101 (ups (zI z 101) k v)) b n s (D.1, D.2.1, ups D.2.2.1 k v, D.2.2.2) :=
  ⟨h.1.w (by decide) (by decide), h.2.1.trans (Fi.w (by omega)), fun j hj => by rw [zI_ne (by decide)]; exact h.2.2.1 j hj, fun g => by
    have := h.2.2.2 g
    rw [zI_eq, zI_ne (by decide), zI_ne (by decide), zI_ne (by decide), this.2.2.1]
    exact ⟨this.1, this.2.1, rfl, this.2.2.2⟩⟩
theorem PM.w92 {k : Nat} {v : Int32} (h : PM z b n s) (hk : 14 < k) : PM (wI z 92 (ups (zI z 92) k v)) b n s :=
  ⟨h.1.of rfl rfl, ⟨by rw [zI_eq, up_ne (by omega)]; exact h.2.1.1, h.2.1.2.1, fun i hi => by rw [zI_ne (by decide)]; exact h.2.1.2.2 i hi⟩, by rw [zI_eq, up_ne (by omega)]; exact h.2.2.1, by rw [zI_eq, up_ne (by omega)]; exact h.2.2.2.1, fun g => by
    have := h.2.2.2.2 g
    unfold TkM at this ⊢
    rw [zI_eq, up_ne (by omega), up_ne (by omega), up_ne (by omega), up_ne (by omega)]
    exact this⟩
theorem HM.w92 (h : HM z0 z b n s D) {k : Nat} {v : Int32} (hk : 20 ≤ k ∧ k ≤ 23) : HM z0 (wI z 92 (ups (zI z 92) k v)) b n s D :=
  ⟨h.1.w92 (by omega), h.2.1.trans (Fi.w (by omega)), fun j hj => by rw [zI_eq, up_ne (by omega)]; exact h.2.2.1 j hj, fun g => by
    have := h.2.2.2 g
    rw [zI_eq, zI_ne (by decide), zI_ne (by decide), zI_ne (by decide), up_ne (by omega), up_ne (by omega)]
    exact this⟩
theorem HM.w18 (h : HM z0 z b n s D) {v : Int32} : HM z0 (wI z 92 (ups (zI z 92) 18 v)) b n s (D.1, D.2.1, D.2.2.1, v, D.2.2.2.2) :=
  ⟨h.1.w92 (by omega), h.2.1.trans (Fi.w (by omega)), fun j hj => by rw [zI_eq, up_ne (by omega)]; exact h.2.2.1 j hj, fun g => by
    have := h.2.2.2 g
    rw [zI_eq, zI_ne (by decide), zI_ne (by decide), zI_ne (by decide), up_eq, up_ne (by omega)]
    exact ⟨this.1, this.2.1, this.2.2.1, rfl, this.2.2.2.2⟩⟩
theorem HM.w19 (h : HM z0 z b n s D) {v : Int32} : HM z0 (wI z 92 (ups (zI z 92) 19 v)) b n s (D.1, D.2.1, D.2.2.1, D.2.2.2.1, v) :=
  ⟨h.1.w92 (by omega), h.2.1.trans (Fi.w (by omega)), fun j hj => by rw [zI_eq, up_ne (by omega)]; exact h.2.2.1 j hj, fun g => by
    have := h.2.2.2 g
    rw [zI_eq, zI_ne (by decide), zI_ne (by decide), zI_ne (by decide), up_eq, up_ne (by omega)]
    exact ⟨this.1, this.2.1, this.2.2.1, this.2.2.2.1, rfl⟩⟩
theorem m_nm (lo hi : Nat) (v1 v2 : Int32) (h : HM z0 z b n s D) (e : s.2.1 = 0 → v1 = nI lo ∧ v2 = nI hi ∧ lo < 1000000 ∧ hi < 999999) : ∃ v y, m_X12_number 92 v1 v2 z = some (v, y) ∧ HM z0 y b n (nm b n lo hi s) D ∧ ((nm b n lo hi s).2.1 = 0 → v = nI (nmv lo hi s)) ∧ FM z y := by
  obtain ⟨v, y, r, F, P, q⟩ := nm_M lo hi v1 v2 h.1 e
  exact ⟨v, y, r, h.fm F P (fun g => (nm_good g).1), q, F⟩
theorem m_wd (q : Nat) (h : HM z0 z b n s D) (hq : q < 48) : ∃ y, m_X12_needs 92 q z = some ((), y) ∧ HM z0 y b n (wd b n (txw q) s) D ∧ FM z y := by
  obtain ⟨y, r, F, P⟩ := wd_M h.1 hq
  exact ⟨y, r, h.fm F P (fun g => wd_good g), F⟩
theorem m_told (q lo hi : Nat) (h : HM z0 z b n s D) (hq : q < 48) (hl : lo < 1000000) (hh : hi < 999999) : ∃ v y, m_X12_told 92 q (nI lo) (nI hi) z = some (v, y) ∧ HM z0 y b n (nm b n lo hi (wd b n (txw q) s)) D ∧ ((nm b n lo hi (wd b n (txw q) s)).2.1 = 0 → v = nI (nmv lo hi (wd b n (txw q) s))) := by
  obtain ⟨v, y, r, F, P, e⟩ := told_M lo hi h.1 hq hl hh
  exact ⟨v, y, r, h.fm F P (fun g => wd_good (nm_good g).1), e⟩
theorem m_ng (q m : Nat) (h : HM z0 z b n s D) (hq : q < 48) (hm : m < 999999) : ∃ v y, m_X12_below 92 q (- nI m) z = some (v, y) ∧ HM z0 y b n (ng b n m (wd b n (txw q) s)) D ∧ ((ng b n m (wd b n (txw q) s)).2.1 = 0 → v = ngv b n m (wd b n (txw q) s)) := by
  obtain ⟨v, y, r, F, P, e⟩ := ng_M h.1 hq hm
  exact ⟨v, y, r, h.fm F P (fun g => wd_good (ng_good g)), e⟩
theorem m_wrong (k : Int32) (hk : k ≠ 0) (h : HM z0 z b n s D) : ∃ y, m_X12_wrong 92 k z = some ((), y) ∧ HM z0 y b n (fal true k s.1.2.1 s) D := by
  obtain ⟨y, r, F, P⟩ := wrong_M k hk h.1
  exact ⟨y, r, h.fm F P (fun g => (fal_good hk g).1)⟩
theorem m_ad (h : HM z0 z b n s D) (g : s.2.1 = 0) : ∃ y, m_X12_step 92 z = some ((), y) ∧ HM z0 y b n (ad b n s) D := by
  obtain ⟨y, r, F, P⟩ := ad_M h.1 g
  exact ⟨y, r, h.fm F P (fun q => q)⟩
/-! ground -/
theorem gr_M (h : HM z0 z b n s D) : ∃ y, m_X12_readGround 92 z = some ((), y) ∧ HM z0 y b n (tG b n (tgG D.2.1) s) (uG b n D.1 D.2.1 s, ups D.2.1 (nmv 0 3 s) 1, D.2.2) := by
  have hM := h.M
  have hg := (nmv_b (s := s) (show 0 ≤ 3 by decide)).2
  -- where the number is at fault, or a fault was before
  have badB : ∀ {x : Hp} {t : Ps}, HM z0 x b n t D → (¬ (nm b n 0 3 t).2.1 = 0) → (tG b n (tgG D.2.1) s).2 = (nm b n 0 3 t).2 → ∃ y, m_X12_readGround_B47 92 x = some ((), y) ∧ HM z0 y b n (tG b n (tgG D.2.1) s) (uG b n D.1 D.2.1 s, ups D.2.1 (nmv 0 3 s) 1, D.2.2) := fun {x t} hx g e => by
    obtain ⟨v, y, r, h1, _⟩ := m_nm 0 3 0 3 hx (fun _ => ⟨rfl, rfl, by decide, by decide⟩)
    refine ⟨y, ?_, h1.bad g e⟩
    unfold m_X12_readGround_B47
    rw [isC_eq (by rw [mk_92 hx.M]), r, bnd_some, isC_eq (by rw [mk_92 h1.M]), good_f h1.1 g, bnd_some, if_pos rfl]
  have st : ¬ (tG1 b n (tgG D.2.1) s).2.1 = 0 → (tG b n (tgG D.2.1) s).2 = (tG1 b n (tgG D.2.1) s).2 := fun g => by
    unfold tG tG5 tG4 tG3 tG2
    rw [ng_st (wd_st1 (nm_st1 (wd_st1 (nm_st1 (wd_st1 (nm_st1 (wd_st1 g))))))), wd_st (nm_st1 (wd_st1 (nm_st1 (wd_st1 (nm_st1 (wd_st1 g)))))), nm_st (wd_st1 (nm_st1 (wd_st1 (nm_st1 (wd_st1 g))))), wd_st (nm_st1 (wd_st1 (nm_st1 (wd_st1 g)))), nm_st (wd_st1 (nm_st1 (wd_st1 g))), wd_st (nm_st1 (wd_st1 g)), nm_st (wd_st1 g), wd_st g]
  have badN : ¬ (nm b n 0 3 s).2.1 = 0 → (tG b n (tgG D.2.1) s).2 = (nm b n 0 3 s).2 := fun g => by
    rw [st (fal_st1 g)]
    exact fal_st g
  unfold m_X12_readGround
  rw [isC_eq (by rw [mk_92 hM])]
  by_cases c : s.2.1 = 0
  · obtain ⟨hT, hv⟩ := h.1.2.2.2.2 c
    obtain ⟨d1, d2, d3, d4, d5⟩ := h.2.2.2 c
    rw [good_t h.1 c, bnd_some, if_neg (by decide), gI_eq (by rw [mk_92 hM]), hT.1]
    by_cases c1 : s.1.1 = 2
    · have ev := hT.2.2.2.1 c1
      have v5 := hv.2.2.2.2
      rw [if_pos ((tk2 hv.1).mpr c1), gI_eq (by rw [mk_92 hM]), ev, show m_X12_in (nI (min 999999 s.1.2.2.2)).toInt64 0 3 z = _ from in_lit _ 0 3 (by decide) (by decide) z, bnd_some]
      by_cases c2 : s.1.2.2.2 ≤ 3
      · have hk : nmk 0 3 s.1 = true := decide_eq_true ⟨Nat.zero_le _, c2⟩
        have eg : nmv 0 3 s = s.1.2.2.2 := if_pos ⟨c1, hk⟩
        have ng1 : nm b n 0 3 s = ad b n s := by
          unfold nm
          rw [if_pos c1, hk]
          exact fal_f
        have ei : nI (min 999999 s.1.2.2.2) = nI (nmv 0 3 s) := by rw [eg, show min 999999 s.1.2.2.2 = s.1.2.2.2 by omega]
        rw [ei, if_neg (i10p ⟨show (0 : Int32) ≤ nI (nmv 0 3 s) from (nI_leI (a := 0) (by decide) (by omega)).mpr (Nat.zero_le _), show nI (nmv 0 3 s) ≤ 3 from (nI_leI (b := 3) (by omega) (by decide)).mpr hg⟩), gR_eq (by rw [mk_92 hM]) (mr_92_16 hM), gI_eq (by rw [mk_92 hM]), ev, ei, aI_n (mk_100 hM) (by omega) (by decide), d2]
        by_cases c3 : D.2.1 (nmv 0 3 s) = 0
        · rw [if_pos c3]
          have e1 : tG1 b n (tgG D.2.1) s = nm b n 0 3 s := by
            unfold tG1 tgG
            rw [decide_eq_false (fun g => g c3), fal_f]
          obtain ⟨v1, z1, r1, h1, w1, _⟩ := m_nm 0 3 0 3 h (fun _ => ⟨rfl, rfl, by decide, by decide⟩)
          have gd1 : (nm b n 0 3 s).2.1 = 0 := by rw [ng1]; exact c
          have h2 := h1.w100 (k := nmv 0 3 s) (v := 1)
          rw [← e1] at h2
          obtain ⟨v3, z3, r3, h3, w3⟩ := m_told 33 0 15 h2 (by decide) (by decide) (by decide)
          have h4 := h3.w99 (k := 20 + 4 * nmv 0 3 s) w3
          obtain ⟨v5', z5, r5, h5, w5⟩ := m_told 34 0 15 h4 (by decide) (by decide) (by decide)
          have h6 := h5.w99 (k := 20 + 4 * nmv 0 3 s + 1) w5
          obtain ⟨v7, z7, r7, h7, w7⟩ := m_told 35 1 999 h6 (by decide) (by decide) (by decide)
          have h8 := h7.w99 (k := 20 + 4 * nmv 0 3 s + 2) w7
          obtain ⟨v9, z9, r9, h9, w9⟩ := m_ng 36 30 h8 (by decide) (by decide)
          have h10 := h9.w99 (k := 20 + 4 * nmv 0 3 s + 3) w9
          refine ⟨_, ?_, h10⟩
          unfold m_X12_readGround_B47
          rw [isC_eq (by rw [mk_92 hM]), r1, bnd_some, isC_eq (by rw [mk_92 h1.M]), good_t h1.1 gd1, bnd_some, if_neg (by decide), w1 gd1, gR_eq (by rw [mk_92 h1.M]) (mr_92_16 h1.M), show vp_nar .boolean 1 = 1 by decide, sI_n (mk_100 h1.M) (by omega) (by decide),
            gR_eq (by rw [mk_92 h2.M]) (mr_92_15 h2.M), isC_eq (by rw [mk_92 h2.M]), show m_X12_told 92 33 0 15 _ = _ from r3, bnd_some, c_mul, c_add, sI_n (mk_99 h3.M) (by omega) (by decide),
            gR_eq (by rw [mk_92 h4.M]) (mr_92_15 h4.M), isC_eq (by rw [mk_92 h4.M]), show m_X12_told 92 34 0 15 _ = _ from r5, bnd_some, nI_1, sI_n (mk_99 h5.M) (by omega) (by decide),
            gR_eq (by rw [mk_92 h6.M]) (mr_92_15 h6.M), isC_eq (by rw [mk_92 h6.M]), show m_X12_told 92 35 1 999 _ = _ from r7, bnd_some, add_c, sI_n (mk_99 h7.M) (by omega) (by decide),
            gR_eq (by rw [mk_92 h8.M]) (mr_92_15 h8.M), isC_eq (by rw [mk_92 h8.M]), show m_X12_below 92 36 (-30) _ = _ from r9, bnd_some, add_c, sI_n (mk_99 h9.M) (by omega) (by decide)]
        · rw [if_neg c3, isC_eq (by rw [mk_92 hM])]
          obtain ⟨z1, r1, h1⟩ := m_wrong 2 (by decide) h
          rw [r1, bnd_some]
          have gb : ¬ (fal true 2 s.1.2.1 s).2.1 = 0 := by
            show ¬ (fl true 2 s.1.2.1 s.2).1 = 0
            rw [fl_t c]; exact (by decide : ¬ (2 : Int32) = 0)
          have e1 : tG1 b n (tgG D.2.1) s = fal true 2 s.1.2.1 (ad b n s) := by
            unfold tG1 tgG
            rw [decide_eq_true c3, ng1]
          refine badB h1 (nm_st1 gb) ?_
          rw [nm_st gb, st (by rw [e1]; exact gb), e1]
          rfl
      · rw [if_pos (i10n (fun g => c2 (by have := (show nI (min 999999 s.1.2.2.2) ≤ 3 from g.2); rw [show (3 : Int32) = nI 3 from rfl, nI_leI (by omega) (by decide)] at this; omega)))]
        have gb : ¬ (nm b n 0 3 s).2.1 = 0 := fun g => c2 (of_decide_eq_true (nm_good g).2.2).2
        exact badB h gb (badN gb)
    · rw [if_neg (fun g => c1 ((tk2 hv.1).mp g))]
      have gb : ¬ (nm b n 0 3 s).2.1 = 0 := fun g => c1 (nm_good g).2.1
      exact badB h gb (badN gb)
  · rw [good_f h.1 c, bnd_some, if_pos rfl]
    exact badB h (nm_st1 c) (badN (nm_st1 c))
end
