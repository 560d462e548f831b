/-! ===== text: words, signs, numbers, faults of the model ===== -/
/-- the model as a reader of tokens; behind a fault the token counts no more -/
def PM (z : Hp) (b : Nat → Nat) (n : Nat) (s : Ps) : Prop := LayM z ∧ BtM z b n ∧ zI z 92 13 = s.2.1 ∧ zI z 92 14 = s.2.2 ∧ (s.2.1 = 0 → TkM z s.1 ∧ vT n s.1)
def FM (z y : Hp) : Prop := Fi (fun a => a = 92) z y ∧ ∀ k, k < 9 ∨ 14 < k → zI y 92 k = zI z 92 k
theorem FM.rfl' {z : Hp} : FM z z := ⟨Fi.rfl', fun _ _ => rfl⟩
theorem FM.trans {x y z : Hp} (h : FM x y) (g : FM y z) : FM x z := ⟨h.1.trans g.1, fun k hk => (g.2 k hk).trans (h.2 k hk)⟩
theorem FM.ft {z y : Hp} (h : FT z y) : FM z y := ⟨h.1, fun k hk => h.2 k (by omega)⟩
theorem BtM.fm {z y : Hp} {b : Nat → Nat} {n : Nat} (h : BtM z b n) (F : FM z y) : BtM y b n := ⟨by rw [F.2 8 (by omega)]; exact h.1, h.2.1, fun i hi => by rw [F.1.2.2.2.2 97 (by omega)]; exact h.2.2 i hi⟩
theorem ad_M {z : Hp} {b : Nat → Nat} {n : Nat} {s : Ps} (h : PM z b n s) (g : s.2.1 = 0) : ∃ y, m_X12_step 92 z = some ((), y) ∧ FM z y ∧ PM y b n (ad b n s) := by
  obtain ⟨hM, hB, h6, h7, hT⟩ := h
  obtain ⟨hT, hv⟩ := hT g
  obtain ⟨y, r, F, T⟩ := stepM hM hB hv.2.2.2.1 hT.2.2.1
  exact ⟨y, r, FM.ft F, hM.fi F.1, hB.ft F, by rw [F.2 13 (by omega)]; exact h6, by rw [F.2 14 (by omega)]; exact h7, fun _ => ⟨T, nx_v (fun i hi => hB.lt hi) hv.2.2.2.1⟩⟩
theorem good_M {z : Hp} {b : Nat → Nat} {n : Nat} {s : Ps} (h : PM z b n s) : m_X12_good 92 z = some (bI (decide (s.2.1 = 0)), z) := by
  unfold m_X12_good
  rw [gI_eq (by rw [mk_92 h.1]), h.2.2.1]
  by_cases c : s.2.1 = 0
  · rw [if_pos c, decide_eq_true c]; rfl
  · rw [if_neg c, decide_eq_false c]; rfl
theorem good_t {z : Hp} {b : Nat → Nat} {n : Nat} {s : Ps} (h : PM z b n s) (g : s.2.1 = 0) : m_X12_good 92 z = some (1, z) := by
  rw [good_M h, decide_eq_true g]; rfl
theorem good_f {z : Hp} {b : Nat → Nat} {n : Nat} {s : Ps} (h : PM z b n s) (g : ¬ s.2.1 = 0) : m_X12_good 92 z = some (0, z) := by
  rw [good_M h, decide_eq_false g]; rfl
theorem wrong_M {z : Hp} {b : Nat → Nat} {n : Nat} {s : Ps} (k : Int32) (hk : k ≠ 0) (h : PM z b n s) : ∃ y, m_X12_wrong 92 k z = some ((), y) ∧ FM z y ∧ PM y b n (fal true k s.1.2.1 s) := by
  have hM := h.1
  unfold m_X12_wrong fal
  rw [isC_eq (by rw [mk_92 hM])]
  by_cases c : s.2.1 = 0
  · obtain ⟨hT, hv⟩ := h.2.2.2.2 c
    obtain ⟨z1, hz1⟩ : ∃ y, y = wI z 92 (ups (zI z 92) 13 k) := ⟨_, rfl⟩
    have M1 : LayM z1 := hM.of (by rw [hz1]; rfl) (by rw [hz1]; rfl)
    have e1 : zI z1 92 = ups (zI z 92) 13 k := by rw [hz1, zI_eq]
    have F1 : FM z z1 := by rw [hz1]; exact ⟨Fi.w rfl, fun j hj => by rw [zI_eq, up_ne (by omega)]⟩
    have F2 : FM z1 (wI z1 92 (ups (zI z1 92) 14 (nI s.1.2.1))) := ⟨Fi.w rfl, fun j hj => by rw [zI_eq, up_ne (by omega)]⟩
    refine ⟨_, ?_, F1.trans F2, M1.fi F2.1, h.2.1.fm (F1.trans F2), ?_, ?_, ?_⟩
    · rw [good_t h c, bnd_some, if_neg (by decide), pI_eq (by rw [mk_92 hM]), ← hz1, gI_eq (by rw [mk_92 M1]), pI_eq (by rw [mk_92 M1]), e1, up_ne (show 10 ≠ 13 by decide), hT.2.1]
    · rw [zI_eq, up_ne (by decide), e1, up_eq, fl_t c]
    · rw [zI_eq, up_eq, fl_t c]
    · rw [fl_t c]
      exact fun g => absurd g hk
  · refine ⟨z, by rw [good_f h c, bnd_some, if_pos rfl], FM.rfl', ?_⟩
    rw [fl_b c]; exact h
theorem raw_M {z : Hp} {b : Nat → Nat} {n i m : Nat} (h : BtM z b n) (hi : i < n) (hm : m < 128) : (zI z 97 i = nI m) ↔ (nI (b i) = nI m) := by
  obtain ⟨h1, h2⟩ := h.2.2 i hi
  obtain ⟨k1, k2, k3⟩ := bN_ok h1
  rw [← h2]
  constructor
  · intro e
    rw [← k1, e]
    exact (show ∀ m, m < 128 → nI m &&& 255 = nI m by decide +kernel) m hm
  · intro e
    have : bN (zI z 97 i) = m := (nI_eq (by omega) (by omega)).mp e
    rw [k3 (by omega), this]
theorem is0_M {z : Hp} {q : Nat} (hq : q < 48) : m_X12_is_B35 92 q z = some (0, z) := by
  have sl : ∀ {α : Type} (f : Int32 → Option α), sLen q f = f (nI (txw q).length) := fun f => if_pos (by rw [tx_n]; exact hq)
  unfold m_X12_is_B35 m_X12_is_B36
  obtain ⟨f, hf⟩ : ∃ f, FU = f + 1 := ⟨FU - 1, by have : 0 < FU := FU_pos (by omega); omega⟩
  rw [hf, m_X12_is_L39, sl]
  split
  · rw [if_pos rfl]; rfl
  · rfl
theorem is_M {z : Hp} {b : Nat → Nat} {n q : Nat} {s : Ps} (h : PM z b n s) (hq : q < 48) : m_X12_is 92 q z = some (if s.2.1 = 0 then bI (isW b (txw q) s.1) else 0, z) := by
  have hM := h.1
  have hB := h.2.1
  have hl := tx_l q
  have hn := hB.2.1
  have sl : ∀ {α : Type} (f : Int32 → Option α), sLen q f = f (nI (txw q).length) := fun f => if_pos (by rw [tx_n]; exact hq)
  unfold m_X12_is isW
  rw [isC_eq (by rw [mk_92 hM])]
  by_cases c : s.2.1 = 0
  · obtain ⟨hT, hv⟩ := h.2.2.2.2 c
    have v1 := hv.1
    have v2 := hv.2.1
    rw [good_t h c, bnd_some, if_neg (by decide), gI_eq (by rw [mk_92 hM]), hT.1, if_pos c]
    by_cases c1 : s.1.1 = 1
    · have v3 := hv.2.2.1
      have v4 := hv.2.2.2.1
      rw [if_pos (by rw [c1]; rfl), gI_eq (by rw [mk_92 hM]), hT.2.2.1, gI_eq (by rw [mk_92 hM]), hT.2.1, sl, sub_nN v3]
      by_cases c2 : s.1.2.2.1 - s.1.2.1 = (txw q).length
      · rw [if_pos (by rw [c2])]
        unfold m_X12_is_B36
        have g0 : ∀ f j, m_X12_is_L39 (f + 1) 92 q 0 j z = some (0, z) := fun f j => by
          rw [m_X12_is_L39, sl]
          split
          · rw [if_pos rfl]; rfl
          · rfl
        refine loopQ (X := (Int32 × Int32) × Hp) (fun f x => m_X12_is_L39 f 92 q x.1.1 x.1.2 x.2) (fun t => t = some (bI (decide (s.1.1 = 1 ∧ s.1.2.2.1 - s.1.2.1 = (txw q).length ∧ ∀ i, i < (txw q).length → nI (b (s.1.2.1 + i)) = (txw q).getD i 0)), z)) (fun j x => x.1.2 = nI j ∧ x.2 = z ∧ (x.1.1 = 1 ∧ (∀ i, i < j → nI (b (s.1.2.1 + i)) = (txw q).getD i 0) ∨ x.1.1 = 0 ∧ ¬ (∀ i, i < (txw q).length → nI (b (s.1.2.1 + i)) = (txw q).getD i 0))) (txw q).length ?hs ?he 0 FU ((1, 0), z) (Nat.zero_le _) (by show (txw q).length - 0 < FU; exact FU_pos (by omega)) ⟨rfl, rfl, Or.inl ⟨rfl, fun i hi => absurd hi (by omega)⟩⟩
        case hs =>
          rintro j f ⟨⟨w, v⟩, y⟩ hj ⟨h1, h2, h3⟩
          dsimp only at h1 h2 h3 ⊢
          subst h1 h2
          rcases h3 with ⟨e, h3⟩ | ⟨e, h3⟩
          · subst e
            left
            have sc : ∀ {α : Type} (g : Int32 → Option α), sCh q (nI j) g = g ((txw q).getD j 0) := fun g => by
              unfold sCh
              rw [if_pos ⟨by rw [tx_n]; exact hq, inb_nI (show j < (txc_T.getD q []).length from hj) (by show (txw q).length < 2 ^ 31; omega)⟩, nI_clamp (by omega)]
              rfl
            obtain ⟨m, hm, em⟩ := tx_c q hq j hj
            rw [m_X12_is_L39, sl, if_pos (nI_lt hj (by omega)), if_neg (by decide), gR_eq (by rw [mk_92 hM]) (mr_92_5 hM), gI_eq (by rw [mk_92 hM]), hT.2.1, nI_add, aI_n (mk_97 hM) (by omega) (by decide), sc]
            by_cases c3 : nI (b (s.1.2.1 + j)) = (txw q).getD j 0
            · refine ⟨((1, nI (j + 1)), y), ⟨rfl, rfl, Or.inl ⟨rfl, fun i hi => ?_⟩⟩, ?_⟩
              · by_cases e : i = j
                · rw [e]; exact c3
                · exact h3 i (by omega)
              · rw [if_pos (by rw [em]; rw [em] at c3; exact (raw_M hB (by omega) hm).mpr c3)]
                unfold m_X12_is_B75
                rw [nI_1]
            · refine ⟨((0, nI (j + 1)), y), ⟨rfl, rfl, Or.inr ⟨rfl, fun g => c3 (g j hj)⟩⟩, ?_⟩
              rw [if_neg (fun g => c3 (by rw [em]; rw [em] at g; exact (raw_M hB (by omega) hm).mp g))]
              unfold m_X12_is_B75
              rw [nI_1]
          · subst e
            right
            rw [g0, decide_eq_false (fun g => h3 g.2.2)]
            rfl
        case he =>
          rintro f ⟨⟨w, v⟩, y⟩ ⟨h1, h2, h3⟩
          dsimp only at h1 h2 h3 ⊢
          subst h1 h2
          rw [m_X12_is_L39, sl, if_neg (nI_nlt (Nat.le_refl _) (by omega))]
          rcases h3 with ⟨e, h3⟩ | ⟨e, h3⟩
          · subst e
            rw [decide_eq_true ⟨c1, c2, h3⟩]
            rfl
          · subst e
            rw [decide_eq_false (fun g => h3 g.2.2)]
            rfl
      · rw [if_neg (fun g => c2 ((nI_eq (by omega) (by omega)).mp g)), is0_M hq, decide_eq_false (fun g => c2 g.2.1)]
        rfl
    · have ht : tkm s.1.1 < 10 := by unfold tkm; split <;> omega
      rw [if_neg (show ¬ nI (tkm s.1.1) = 1 from fun g => c1 (by have := (nI_eq (b := 1) (by omega) (by decide)).mp g; unfold tkm at this; split at this <;> omega)), is0_M hq, decide_eq_false (fun g => c1 g.1)]
      rfl
  · rw [good_f h c, bnd_some, if_pos rfl, is0_M hq, if_neg c]
theorem takes_M {z : Hp} {b : Nat → Nat} {n q : Nat} {s : Ps} (h : PM z b n s) (hq : q < 48) : ∃ y, m_X12_takes 92 q z = some (if s.2.1 = 0 then bI (isW b (txw q) s.1) else 0, y) ∧ FM z y ∧ PM y b n (if s.2.1 = 0 ∧ isW b (txw q) s.1 = true then ad b n s else s) := by
  have hM := h.1
  unfold m_X12_takes
  rw [isC_eq (by rw [mk_92 hM]), is_M h hq, bnd_some]
  by_cases c : s.2.1 = 0
  · rw [if_pos c]
    cases hw : isW b (txw q) s.1 with
    | true =>
      obtain ⟨y, r, F, P⟩ := ad_M h c
      refine ⟨y, ?_, F, ?_⟩
      · rw [if_neg bI_t, isC_eq (by rw [mk_92 hM]), r, bnd_some]; rfl
      · rw [if_pos ⟨c, rfl⟩]; exact P
    | false =>
      refine ⟨z, ?_, FM.rfl', ?_⟩
      · rw [if_pos bI_f]; rfl
      · rw [if_neg (fun g => absurd g.2 (by decide))]; exact h
  · rw [if_neg c]
    refine ⟨z, ?_, FM.rfl', ?_⟩
    · rw [if_pos rfl]; rfl
    · rw [if_neg (fun g => c g.1)]; exact h
/-- behind a fault all is the same -/
theorem PM.bad {z : Hp} {b : Nat → Nat} {n : Nat} {s t : Ps} (h : PM z b n s) (g : s.2.1 ≠ 0) (e : t.2 = s.2) : PM z b n t := ⟨h.1, h.2.1, by rw [e]; exact h.2.2.1, by rw [e]; exact h.2.2.2.1, fun q => absurd q (by rw [e]; exact g)⟩
theorem PM.bad' {z : Hp} {b : Nat → Nat} {n : Nat} {s t : Ps} (h : PM z b n s) (g : t.2.1 ≠ 0) (e : t.2 = s.2) : PM z b n t := h.bad (by rw [← e]; exact g) e
theorem wd_M {z : Hp} {b : Nat → Nat} {n q : Nat} {s : Ps} (h : PM z b n s) (hq : q < 48) : ∃ y, m_X12_needs 92 q z = some ((), y) ∧ FM z y ∧ PM y b n (wd b n (txw q) s) := by
  have hM := h.1
  obtain ⟨z1, r1, F1, P1⟩ := takes_M h hq
  unfold m_X12_needs wd
  rw [isC_eq (by rw [mk_92 hM]), r1, bnd_some]
  by_cases c : s.2.1 = 0
  · cases hw : isW b (txw q) s.1 with
    | true =>
      rw [hw, if_pos ⟨c, rfl⟩] at P1
      refine ⟨z1, ?_, F1, ?_⟩
      · rw [if_pos c, if_neg bI_t]
      · show PM z1 b n (ad b n (fal false 1 s.1.2.1 s))
        unfold fal
        rw [fl_f]; exact P1
    | false =>
      rw [hw, if_neg (fun g => absurd g.2 (by decide))] at P1
      obtain ⟨y, r, F, P⟩ := wrong_M 1 (by decide) P1
      refine ⟨y, ?_, F1.trans F, ?_⟩
      · rw [if_pos c, if_pos bI_f, isC_eq (by rw [mk_92 P1.1]), r, bnd_some]
      · refine P.bad' ?_ rfl
        show (fl true 1 s.1.2.1 s.2).1 ≠ 0
        rw [fl_t c]; exact (by decide : (1 : Int32) ≠ 0)
  · rw [if_neg (fun g => c g.1)] at P1
    obtain ⟨y, r, F, P⟩ := wrong_M 1 (by decide) P1
    refine ⟨y, ?_, F1.trans F, ?_⟩
    · rw [if_neg c, if_pos rfl, isC_eq (by rw [mk_92 P1.1]), r, bnd_some]
    · refine P.bad ?_ ?_
      · show (fl true 1 s.1.2.1 s.2).1 ≠ 0
        rw [fl_b c]; exact c
      · show fl _ 1 s.1.2.1 s.2 = fl true 1 s.1.2.1 s.2
        rw [fl_b c, fl_b c]
theorem isS_M {z : Hp} {b : Nat → Nat} {n c : Nat} {s : Ps} (h : PM z b n s) (hc : c < 256) : m_X12_isSign 92 (nI c) z = some (if s.2.1 = 0 then bI (isS c s.1) else 0, z) := by
  have hM := h.1
  unfold m_X12_isSign isS
  rw [isC_eq (by rw [mk_92 hM])]
  by_cases g : s.2.1 = 0
  · obtain ⟨hT, hv⟩ := h.2.2.2.2 g
    have v1 := hv.1
    have v2 := hv.2.1
    have v5 := hv.2.2.2.2
    have ht : tkm s.1.1 < 10 := by unfold tkm; split <;> omega
    rw [good_t h g, bnd_some, if_neg (by decide), gI_eq (by rw [mk_92 hM]), hT.1, if_pos g]
    by_cases c1 : s.1.1 = 3
    · rw [if_pos (by rw [c1]; rfl), gI_eq (by rw [mk_92 hM]), hT.2.2.2.2 (Or.inl c1)]
      by_cases c2 : s.1.2.2.2 = c
      · rw [if_pos (by rw [c2]), decide_eq_true ⟨c1, c2⟩]; rfl
      · rw [if_neg (fun q => c2 ((nI_eq (by omega) (by omega)).mp q)), decide_eq_false (fun q => c2 q.2)]; rfl
    · rw [if_neg (show ¬ nI (tkm s.1.1) = 3 from fun q => c1 (by have := (nI_eq (b := 3) (by omega) (by decide)).mp q; unfold tkm at this; split at this <;> omega)), decide_eq_false (fun q => c1 q.1)]; rfl
  · rw [good_f h g, bnd_some, if_pos rfl, if_neg g]
theorem tk2 {k : Nat} (h : k < 6) : (nI (tkm k) = 2) ↔ k = 2 := by
  have ht : tkm k < 10 := by unfold tkm; split <;> omega
  constructor
  · intro g
    have := (nI_eq (b := 2) (by omega) (by decide)).mp g
    unfold tkm at this
    split at this <;> omega
  · intro g
    rw [g]; rfl
theorem nm_M {z : Hp} {b : Nat → Nat} {n : Nat} {s : Ps} (lo hi : Nat) (v1 v2 : Int32) (h : PM z b n s) (e : s.2.1 = 0 → v1 = nI lo ∧ v2 = nI hi ∧ lo < 1000000 ∧ hi < 999999) :
    ∃ v y, m_X12_number 92 v1 v2 z = some (v, y) ∧ FM z y ∧ PM y b n (nm b n lo hi s) ∧ ((nm b n lo hi s).2.1 = 0 → v = nI (nmv lo hi s)) := by
  have hM := h.1
  have b47 : ∀ {x : Hp} {t : Ps}, PM x b n t → ¬ t.2.1 = 0 → m_X12_number_B47 92 x = some (0, x) := fun {x t} P g => by
    unfold m_X12_number_B47
    rw [isC_eq (by rw [mk_92 P.1]), good_f P g, bnd_some, if_pos rfl]
  have b20 : ∀ {x : Hp} {t : Ps}, PM x b n t → ¬ t.2.1 = 0 → m_X12_number_B20 92 v1 v2 x = some (0, x) := fun {x t} P g => by
    unfold m_X12_number_B20
    rw [isC_eq (by rw [mk_92 P.1]), good_f P g, bnd_some, if_pos rfl, b47 P g]
  unfold m_X12_number
  rw [isC_eq (by rw [mk_92 hM])]
  by_cases g : s.2.1 = 0
  · obtain ⟨e1, e2, e3, e4⟩ := e g
    obtain ⟨hT, hv⟩ := h.2.2.2.2 g
    have hv1 := hv.1
    have hv5 := hv.2.2.2.2
    rw [good_t h g, bnd_some, if_neg (by decide), gI_eq (by rw [mk_92 hM]), hT.1]
    unfold nm nmv
    by_cases c : s.1.1 = 2
    · have ev := hT.2.2.2.1 c
      have hk : nmk lo hi s.1 = true ↔ (v1 ≤ zI z 92 12 ∧ zI z 92 12 ≤ v2) := by
        unfold nmk
        rw [ev, e1, e2, nI_leI (by omega) (by omega), nI_leI (by omega) (by omega), decide_eq_true_iff]
        omega
      rw [if_pos ((tk2 hv1).mpr c), if_pos c]
      unfold m_X12_number_B20
      rw [isC_eq (by rw [mk_92 hM]), good_t h g, bnd_some, if_neg (by decide), gI_eq (by rw [mk_92 hM]), in32, bnd_some]
      cases hn : nmk lo hi s.1 with
      | true =>
        obtain ⟨y, r, F, P⟩ := ad_M h g
        refine ⟨nI s.1.2.2.2, y, ?_, F, ?_, fun _ => by rw [if_pos ⟨c, rfl⟩]⟩
        · rw [if_neg (i10p (hk.mp hn))]
          unfold m_X12_number_B47
          rw [isC_eq (by rw [mk_92 hM]), good_t h g, bnd_some, if_neg (by decide), gI_eq (by rw [mk_92 hM]), isC_eq (by rw [mk_92 hM]), r, bnd_some, ev]
          have : s.1.2.2.2 ≤ hi := by unfold nmk at hn; simp at hn; exact hn.2
          rw [show min 999999 s.1.2.2.2 = s.1.2.2.2 by omega]
        · show PM y b n (fal false 2 s.1.2.1 (ad b n s))
          unfold fal
          rw [fl_f]; exact P
      | false =>
        obtain ⟨y, r, F, P⟩ := wrong_M 2 (by decide) h
        have gb : ¬ (fal true 2 s.1.2.1 s).2.1 = 0 := by
          show ¬ (fl true 2 s.1.2.1 s.2).1 = 0
          rw [fl_t g]; exact (by decide : ¬ (2 : Int32) = 0)
        refine ⟨0, y, ?_, F, P.bad gb rfl, fun q => absurd q gb⟩
        rw [if_pos (i10n (fun q => by rw [hk.mpr q] at hn; cases hn)), isC_eq (by rw [mk_92 hM]), r, bnd_some, b47 P gb]
    · obtain ⟨y, r, F, P⟩ := wrong_M 1 (by decide) h
      have gb : ¬ (fal true 1 s.1.2.1 s).2.1 = 0 := by
        show ¬ (fl true 1 s.1.2.1 s.2).1 = 0
        rw [fl_t g]; exact (by decide : ¬ (1 : Int32) = 0)
      refine ⟨0, y, ?_, F, by rw [if_neg c]; exact P, fun q => absurd (by rw [if_neg c] at q; exact q) gb⟩
      rw [if_neg (fun q => c ((tk2 hv1).mp q)), isC_eq (by rw [mk_92 hM]), r, bnd_some, b20 P gb]
  · have e2 : (nm b n lo hi s).2 = s.2 := by
      unfold nm
      split
      · show fl _ 2 s.1.2.1 s.2 = s.2
        rw [fl_b g]
      · show fl _ 1 s.1.2.1 s.2 = s.2
        rw [fl_b g]
    refine ⟨0, z, ?_, FM.rfl', h.bad g e2, fun q => absurd (by rw [e2] at q; exact q) g⟩
    rw [good_f h g, bnd_some, if_pos rfl, b20 h g]
theorem told_M {z : Hp} {b : Nat → Nat} {n q : Nat} {s : Ps} (lo hi : Nat) (h : PM z b n s) (hq : q < 48) (hl : lo < 1000000) (hh : hi < 999999) :
    ∃ v y, m_X12_told 92 q (nI lo) (nI hi) z = some (v, y) ∧ FM z y ∧ PM y b n (nm b n lo hi (wd b n (txw q) s)) ∧ ((nm b n lo hi (wd b n (txw q) s)).2.1 = 0 → v = nI (nmv lo hi (wd b n (txw q) s))) := by
  obtain ⟨z1, r1, F1, P1⟩ := wd_M h hq
  obtain ⟨v, y, r2, F2, P2, e⟩ := nm_M lo hi (nI lo) (nI hi) P1 (fun _ => ⟨rfl, rfl, hl, hh⟩)
  refine ⟨v, y, ?_, F1.trans F2, P2, e⟩
  unfold m_X12_told
  rw [isC_eq (by rw [mk_92 h.1]), r1, bnd_some, isC_eq (by rw [mk_92 P1.1]), r2, bnd_some]
theorem nm_good {b : Nat → Nat} {n lo hi : Nat} {s : Ps} (h : (nm b n lo hi s).2.1 = 0) : s.2.1 = 0 ∧ s.1.1 = 2 ∧ nmk lo hi s.1 = true := by
  unfold nm at h
  split at h
  · rename_i c
    have := fl_n (by decide) (show (fl (!nmk lo hi s.1) 2 s.1.2.1 s.2).1 = 0 from h)
    exact ⟨this.1, c, by cases q : nmk lo hi s.1 with
      | true => rfl
      | false => rw [q] at this; cases this.2⟩
  · have := fl_n (by decide) (show (fl true 1 s.1.2.1 s.2).1 = 0 from h)
    cases this.2
theorem wd_good {b : Nat → Nat} {n : Nat} {w : List Int32} {s : Ps} (h : (wd b n w s).2.1 = 0) : s.2.1 = 0 := (fl_n (by decide) (show (fl (!isW b w s.1) 1 s.1.2.1 s.2).1 = 0 from h)).1
theorem nm_st {b : Nat → Nat} {n lo hi : Nat} {s : Ps} (g : ¬ s.2.1 = 0) : (nm b n lo hi s).2 = s.2 := by
  unfold nm
  split
  · show fl _ 2 s.1.2.1 s.2 = s.2
    rw [fl_b g]
  · show fl _ 1 s.1.2.1 s.2 = s.2
    rw [fl_b g]
theorem ng_M {z : Hp} {b : Nat → Nat} {n q m : Nat} {s : Ps} (h : PM z b n s) (hq : q < 48) (hm : m < 999999) :
    ∃ v y, m_X12_below 92 q (- nI m) z = some (v, y) ∧ FM z y ∧ PM y b n (ng b n m (wd b n (txw q) s)) ∧ ((ng b n m (wd b n (txw q) s)).2.1 = 0 → v = ngv b n m (wd b n (txw q) s)) := by
  obtain ⟨z1, r1, F1, P1⟩ := wd_M h hq
  have M1 := P1.1
  unfold m_X12_below
  rw [isC_eq (by rw [mk_92 h.1]), r1, bnd_some, isC_eq (by rw [mk_92 M1]), show m_X12_isSign 92 45 z1 = some (if (wd b n (txw q) s).2.1 = 0 then bI (isS 45 (wd b n (txw q) s).1) else 0, z1) from isS_M (c := 45) P1 (by decide), bnd_some]
  generalize wd b n (txw q) s = t at P1
  unfold m_X12_below_B20 ng ngv mn ngm
  by_cases c : t.2.1 = 0
  · rw [if_pos c]
    cases hs : isS 45 t.1 with
    | true =>
      obtain ⟨z2, r2, F2, P2⟩ := ad_M P1 c
      obtain ⟨v, y, r3, F3, P3, e⟩ := nm_M 0 m 0 (- - nI m) P2 (fun _ => ⟨rfl, Int32.neg_neg, by omega, hm⟩)
      refine ⟨-v, y, ?_, (F1.trans F2).trans F3, P3, fun g => ?_⟩
      · rw [if_neg bI_t, isC_eq (by rw [mk_92 M1]), r2, bnd_some, if_neg bI_t, isC_eq (by rw [mk_92 P2.1]), r3, bnd_some]
      · rw [e g]
        have k := (nm_good (show (nm b n 0 m (ad b n t)).2.1 = 0 from g)).2
        show - nI (if (ad b n t).1.1 = 2 ∧ nmk 0 m (ad b n t).1 = true then (ad b n t).1.2.2.2 else 0) = (if (ad b n t).1.1 = 2 ∧ nmk 0 m (ad b n t).1 = true then - nI (ad b n t).1.2.2.2 else - nI m)
        rw [if_pos k, if_pos k]
    | false =>
      obtain ⟨v, y, r3, F3, P3, e⟩ := nm_M 0 0 0 0 P1 (fun _ => ⟨rfl, rfl, by omega, by omega⟩)
      refine ⟨v, y, ?_, F1.trans F3, P3, fun g => ?_⟩
      · rw [if_pos bI_f, if_pos bI_f, isC_eq (by rw [mk_92 M1]), r3, bnd_some]
      · rw [e g]
        have k := (nm_good (show (nm b n 0 0 t).2.1 = 0 from g)).2
        show nI (if t.1.1 = 2 ∧ nmk 0 0 t.1 = true then t.1.2.2.2 else 0) = (if t.1.1 = 2 ∧ nmk 0 0 t.1 = true then nI t.1.2.2.2 else - nI m)
        rw [if_pos k, if_pos k]
  · rw [if_neg c, if_pos rfl, if_pos rfl, isC_eq (by rw [mk_92 M1])]
    obtain ⟨v, y, r3, F3, P3, e⟩ := nm_M 0 0 0 0 P1 (fun g => absurd g c)
    have e1 : (nm b n 0 (if isS 45 t.1 = true then m else 0) (if isS 45 t.1 = true then ad b n t else t)).2 = t.2 := by
      rw [nm_st (by split <;> exact c)]
      split <;> rfl
    have e2 : (nm b n 0 0 t).2 = t.2 := nm_st c
    refine ⟨v, y, by rw [r3, bnd_some], F1.trans F3, P3.bad (by rw [e2]; exact c) (by rw [e1, e2]), fun g => absurd (by rw [e1] at g; exact g) c⟩
