/-! ===== text: both ===== -/
theorem l47_M {z : Hp} (K : Nat → Hp → Option (Int32 × Hp)) (hM : LayM z) : m_X12_text_L47 K FU 92 0 z = K 92 (wI z 100 (fun i => if i < 4 then 0 else zI z 100 i)) := by
  refine loopQ (X := Int32 × Hp) (fun f x => m_X12_text_L47 K f 92 x.1 x.2) (fun t => t = K 92 (wI z 100 (fun i => if i < 4 then 0 else zI z 100 i))) (fun j x => x.1 = nI j ∧ x.2 = wI z 100 (fun i => if i < j then 0 else zI z 100 i)) 4 ?hs ?he 0 FU (0, z) (by decide) (by decide) ⟨rfl, ?h0⟩
  case h0 =>
    refine (wI_self z 100).symm.trans (congrArg (wI z 100) (funext fun c => ?_))
    rw [if_neg (by omega)]
  case hs =>
    rintro j f ⟨p1, p2⟩ hj ⟨h2, h3⟩
    dsimp only at h2 h3 ⊢
    subst h2 h3
    left
    refine ⟨(nI (j + 1), wI z 100 (fun i => if i < j + 1 then 0 else zI z 100 i)), ⟨rfl, rfl⟩, ?_⟩
    rw [m_X12_text_L47, if_pos (show nI j < 4 from nI_lt (b := 4) hj (by decide)), gR_eq (b := 100) (by rw [zK_wI, mk_92 hM]) (by rw [zR_wI]; exact mr_92_16 hM), sI_n (n := 4) (by rw [zK_wI]; exact mk_100 hM) hj (by decide), nI_1, wI_wI, zI_eq]
    refine congrArg (fun q => m_X12_text_L47 K f 92 (nI (j + 1)) (wI z 100 q)) (funext fun c => ?_)
    rw [ups_eq]
    by_cases e : c = j
    · rw [if_pos e, if_pos (by omega)]; decide
    · rw [if_neg e]
      by_cases g : c < j
      · rw [if_pos g, if_pos (by omega)]
      · rw [if_neg g, if_neg (by omega)]
  case he =>
    rintro f ⟨p1, p2⟩ ⟨h2, h3⟩
    dsimp only at h2 h3 ⊢
    subst h2 h3
    rw [m_X12_text_L47, if_neg (show ¬ nI 4 < 4 by decide)]
theorem l67_M {z : Hp} (K : Nat → Hp → Option (Int32 × Hp)) (hM : LayM z) : m_X12_text_L67 K FU 92 0 z = K 92 (wI z 101 (fun i => if i < 12 then 0 else zI z 101 i)) := by
  refine loopQ (X := Int32 × Hp) (fun f x => m_X12_text_L67 K f 92 x.1 x.2) (fun t => t = K 92 (wI z 101 (fun i => if i < 12 then 0 else zI z 101 i))) (fun j x => x.1 = nI j ∧ x.2 = wI z 101 (fun i => if i < j then 0 else zI z 101 i)) 12 ?hs ?he 0 FU (0, z) (by decide) (by decide) ⟨rfl, ?h0⟩
  case h0 =>
    refine (wI_self z 101).symm.trans (congrArg (wI z 101) (funext fun c => ?_))
    rw [if_neg (by omega)]
  case hs =>
    rintro j f ⟨p1, p2⟩ hj ⟨h2, h3⟩
    dsimp only at h2 h3 ⊢
    subst h2 h3
    left
    refine ⟨(nI (j + 1), wI z 101 (fun i => if i < j + 1 then 0 else zI z 101 i)), ⟨rfl, rfl⟩, ?_⟩
    rw [m_X12_text_L67, if_pos (show nI j < 12 from nI_lt (b := 12) hj (by decide)), gR_eq (b := 101) (by rw [zK_wI, mk_92 hM]) (by rw [zR_wI]; exact mr_92_17 hM), sI_n (n := 12) (by rw [zK_wI]; exact mk_101 hM) hj (by decide), nI_1, wI_wI, zI_eq]
    refine congrArg (fun q => m_X12_text_L67 K f 92 (nI (j + 1)) (wI z 101 q)) (funext fun c => ?_)
    rw [ups_eq]
    by_cases e : c = j
    · rw [if_pos e, if_pos (by omega)]; decide
    · rw [if_neg e]
      by_cases g : c < j
      · rw [if_pos g, if_pos (by omega)]
      · rw [if_neg g, if_neg (by omega)]
  case he =>
    rintro f ⟨p1, p2⟩ ⟨h2, h3⟩
    dsimp only at h2 h3 ⊢
    subst h2 h3
    rw [m_X12_text_L67, if_neg (show ¬ nI 12 < 12 by decide)]
theorem l123_M {z : Hp} (K : Nat → Hp → Option (Int32 × Hp)) (hM : LayM z) : m_X12_text_L123 K FU 92 0 z = K 92 (wI z 93 (fun i => if i < 810 then zI z 99 i else zI z 93 i)) := by
  refine loopQ (X := Int32 × Hp) (fun f x => m_X12_text_L123 K f 92 x.1 x.2) (fun t => t = K 92 (wI z 93 (fun i => if i < 810 then zI z 99 i else zI z 93 i))) (fun j x => x.1 = nI j ∧ x.2 = wI z 93 (fun i => if i < j then zI z 99 i else zI z 93 i)) 810 ?hs ?he 0 FU (0, z) (by decide) (by decide) ⟨rfl, ?h0⟩
  case h0 =>
    refine (wI_self z 93).symm.trans (congrArg (wI z 93) (funext fun c => ?_))
    rw [if_neg (by omega)]
  case hs =>
    rintro j f ⟨p1, p2⟩ hj ⟨h2, h3⟩
    dsimp only at h2 h3 ⊢
    subst h2 h3
    left
    refine ⟨(nI (j + 1), wI z 93 (fun i => if i < j + 1 then zI z 99 i else zI z 93 i)), ⟨rfl, rfl⟩, ?_⟩
    rw [m_X12_text_L123, if_pos (show nI j < 810 from nI_lt (b := 810) hj (by decide)), gR_eq (b := 93) (by rw [zK_wI, mk_92 hM]) (by rw [zR_wI]; exact mr_92_1 hM), gR_eq (b := 99) (by rw [zK_wI, mk_92 hM]) (by rw [zR_wI]; exact mr_92_15 hM), aI_n (n := 810) (by rw [zK_wI]; exact mk_99 hM) hj (by decide), zI_ne (show 99 ≠ 93 by decide), sI_n (n := 810) (by rw [zK_wI]; exact mk_93 hM) hj (by decide), nI_1, wI_wI, zI_eq]
    refine congrArg (fun q => m_X12_text_L123 K f 92 (nI (j + 1)) (wI z 93 q)) (funext fun c => ?_)
    rw [ups_eq]
    by_cases e : c = j
    · rw [if_pos e, if_pos (by omega), e]
    · rw [if_neg e]
      by_cases g : c < j
      · rw [if_pos g, if_pos (by omega)]
      · rw [if_neg g, if_neg (by omega)]
  case he =>
    rintro f ⟨p1, p2⟩ ⟨h2, h3⟩
    dsimp only at h2 h3 ⊢
    subst h2 h3
    rw [m_X12_text_L123, if_neg (show ¬ nI 810 < 810 by decide)]
/-- the model's call -/
theorem txM {x : Hp} {n : Nat} {b : Nat → Nat} (hM : LayM x) (h6 : zI x 92 6 = nI n) (hn : n ≤ 700) (hb : ∀ i, i < n → bR (zI x 97 i) ∧ bN (zI x 97 i) = b i) :
    ∃ y, m_X12_text 92 x = some (if (its b n 41 ((nx b n 0, (0, -1)), Di (zI x 99) (zI x 100) (zI x 101))).1.2.1 = 0 then beginW (fun i => if i < 810 then (its b n 41 ((nx b n 0, (0, -1)), Di (zI x 99) (zI x 100) (zI x 101))).2.1 i else zI x 93 i) 0 else -4, y) ∧ Fi (fun a => a = 92 ∨ a = 93 ∨ a = 99 ∨ a = 100 ∨ a = 101) x y ∧ zI y 92 6 = 0 ∧ zI y 92 13 = (its b n 41 ((nx b n 0, (0, -1)), Di (zI x 99) (zI x 100) (zI x 101))).1.2.1 ∧ zI y 92 14 = (its b n 41 ((nx b n 0, (0, -1)), Di (zI x 99) (zI x 100) (zI x 101))).1.2.2 ∧ zI y 92 34 = zI x 92 34 ∧ zI y 92 35 = zI x 92 35 ∧ zI y 93 = (if (its b n 41 ((nx b n 0, (0, -1)), Di (zI x 99) (zI x 100) (zI x 101))).1.2.1 = 0 then beginW (fun i => if i < 810 then (its b n 41 ((nx b n 0, (0, -1)), Di (zI x 99) (zI x 100) (zI x 101))).2.1 i else zI x 93 i) else zI x 93) := by
  obtain ⟨x1, hx1⟩ : ∃ w, w = wI x 92 (ups (zI x 92) 8 (nI n)) := ⟨_, rfl⟩
  have M1 : LayM x1 := hM.of (by rw [hx1]; rfl) (by rw [hx1]; rfl)
  obtain ⟨x2, hx2⟩ : ∃ w, w = wI x1 92 (ups (zI x1 92) 6 0) := ⟨_, rfl⟩
  have M2 : LayM x2 := M1.of (by rw [hx2]; rfl) (by rw [hx2]; rfl)
  obtain ⟨x3, hx3⟩ : ∃ w, w = wI x2 92 (ups (zI x2 92) 9 0) := ⟨_, rfl⟩
  have M3 : LayM x3 := M2.of (by rw [hx3]; rfl) (by rw [hx3]; rfl)
  obtain ⟨x4, hx4⟩ : ∃ w, w = wI x3 92 (ups (zI x3 92) 13 0) := ⟨_, rfl⟩
  have M4 : LayM x4 := M3.of (by rw [hx4]; rfl) (by rw [hx4]; rfl)
  obtain ⟨x5, hx5⟩ : ∃ w, w = wI x4 92 (ups (zI x4 92) 14 (-1)) := ⟨_, rfl⟩
  have M5 : LayM x5 := M4.of (by rw [hx5]; rfl) (by rw [hx5]; rfl)
  obtain ⟨x6, hx6⟩ : ∃ w, w = wI x5 99 (fun i => if i < 810 then plainW i else zI x5 99 i) := ⟨_, rfl⟩
  have M6 : LayM x6 := M5.of (by rw [hx6]; rfl) (by rw [hx6]; rfl)
  obtain ⟨x7, hx7⟩ : ∃ w, w = wI x6 92 (ups (zI x6 92) 18 0) := ⟨_, rfl⟩
  have M7 : LayM x7 := M6.of (by rw [hx7]; rfl) (by rw [hx7]; rfl)
  obtain ⟨x8, hx8⟩ : ∃ w, w = wI x7 92 (ups (zI x7 92) 19 0) := ⟨_, rfl⟩
  have M8 : LayM x8 := M7.of (by rw [hx8]; rfl) (by rw [hx8]; rfl)
  obtain ⟨x9, hx9⟩ : ∃ w, w = wI x8 100 (fun i => if i < 4 then 0 else zI x8 100 i) := ⟨_, rfl⟩
  have M9 : LayM x9 := M8.of (by rw [hx9]; rfl) (by rw [hx9]; rfl)
  obtain ⟨xa, hxa⟩ : ∃ w, w = wI x9 101 (fun i => if i < 12 then 0 else zI x9 101 i) := ⟨_, rfl⟩
  have Ma : LayM xa := M9.of (by rw [hxa]; rfl) (by rw [hxa]; rfl)
  have i2 : ∀ a, a ≠ 92 → zI x2 a = zI x a := fun a h1 => by rw [hx2, zI_ne h1, hx1, zI_ne h1]
  have i5 : ∀ a, a ≠ 92 → zI x5 a = zI x2 a := fun a h1 => by rw [hx5, zI_ne h1, hx4, zI_ne h1, hx3, zI_ne h1]
  have e2 : zI x2 92 = ups (ups (zI x 92) 8 (nI n)) 6 0 := by rw [hx2, zI_eq, hx1, zI_eq]
  have e92 : zI xa 92 = ups (ups (ups (ups (ups (zI x2 92) 9 0) 13 0) 14 (-1)) 18 0) 19 0 := by rw [hxa, zI_ne (by decide), hx9, zI_ne (by decide), hx8, zI_eq, hx7, zI_eq, hx6, zI_ne (by decide), hx5, zI_eq, hx4, zI_eq, hx3, zI_eq]
  have e99 : zI xa 99 = (Di (zI x 99) (zI x 100) (zI x 101)).1 := by
    rw [hxa, zI_ne (by decide), hx9, zI_ne (by decide), hx8, zI_ne (by decide), hx7, zI_ne (by decide), hx6, zI_eq, i5 99 (by decide), i2 99 (by decide)]; rfl
  have e100 : zI xa 100 = (Di (zI x 99) (zI x 100) (zI x 101)).2.1 := by
    rw [hxa, zI_ne (by decide), hx9, zI_eq, hx8, zI_ne (by decide), hx7, zI_ne (by decide), hx6, zI_ne (by decide), i5 100 (by decide), i2 100 (by decide)]; rfl
  have e101 : zI xa 101 = (Di (zI x 99) (zI x 100) (zI x 101)).2.2.1 := by
    rw [hxa, zI_eq, hx9, zI_ne (by decide), hx8, zI_ne (by decide), hx7, zI_ne (by decide), hx6, zI_ne (by decide), i5 101 (by decide), i2 101 (by decide)]; rfl
  have F2a : Fi (fun a => a = 92 ∨ a = 99 ∨ a = 100 ∨ a = 101) x2 xa := by
    rw [hxa, hx9, hx8, hx7, hx6, hx5, hx4, hx3]
    exact ((((((((Fi.w (by omega)).trans (Fi.w (by omega))).trans (Fi.w (by omega))).trans (Fi.w (by omega))).trans (Fi.w (by omega))).trans (Fi.w (by omega))).trans (Fi.w (by omega))).trans (Fi.w (by omega)))
  have ba : BtM xa b n := by
    refine ⟨by rw [e92, up_ne (by decide), up_ne (by decide), up_ne (by decide), up_ne (by decide), up_ne (by decide), e2, up_ne (by decide), up_eq], hn, fun i hi => ?_⟩
    rw [F2a.2.2.2.2 97 (by omega), i2 97 (by decide)]; exact hb i hi
  obtain ⟨xb, rb, Fb, Tb⟩ := stepM Ma ba (Nat.zero_le n) (by rw [e92, up_ne (by decide), up_ne (by decide), up_ne (by decide), up_ne (by decide), up_eq]; rfl)
  have hH : HM x2 xb b n (nx b n 0, (0, -1)) (Di (zI x 99) (zI x 100) (zI x 101)) := by
    refine ⟨⟨Ma.fi Fb.1, ba.ft Fb, ?_, ?_, fun _ => ⟨Tb, nx_v (fun i hi => ba.lt hi) (Nat.zero_le n)⟩⟩, F2a.trans (Fb.1.mono (fun a ha => Or.inl ha)), fun k hk => ?_, fun _ => ?_⟩
    · rw [Fb.2 13 (by omega), e92, up_ne (by decide), up_ne (by decide), up_ne (by decide), up_eq]
    · rw [Fb.2 14 (by omega), e92, up_ne (by decide), up_ne (by decide), up_eq]
    · rw [Fb.2 k (by omega), e92, up_ne (by omega), up_ne (by omega), up_ne (by omega), up_ne (by omega), up_ne (by omega)]
    · rw [Fb.1.2.2.2.2 99 (by omega), Fb.1.2.2.2.2 100 (by omega), Fb.1.2.2.2.2 101 (by omega), Fb.2 18 (by omega), Fb.2 19 (by omega), e92, up_ne (show 18 ≠ 19 by decide), up_eq, up_eq]
      exact ⟨e99, e100, e101, rfl, rfl⟩
  have hend : ¬ ((its b n 41 ((nx b n 0, (0, -1)), Di (zI x 99) (zI x 100) (zI x 101))).1.2.1 = 0 ∧ ¬ (its b n 41 ((nx b n 0, (0, -1)), Di (zI x 99) (zI x 100) (zI x 101))).1.1.1 = 0) := its_end (l := 0) (fun _ => ⟨pl_0 (by decide) _ _ _, by decide, by decide⟩)
  obtain ⟨y1, ry, hy⟩ := lns_M m_X12_text_B111 hH Di_v hend
  have run : m_X12_text 92 x = m_X12_text_B111 92 y1 := by
    unfold m_X12_text
    rw [gI_eq (by rw [mk_92 hM]), h6, pI_eq (by rw [mk_92 hM]), ← hx1, pI_eq (by rw [mk_92 M1]), ← hx2, pI_eq (by rw [mk_92 M2]), ← hx3, pI_eq (by rw [mk_92 M3]), ← hx4, pI_eq (by rw [mk_92 M4]), ← hx5, gR_eq (by rw [mk_92 M5]) (mr_92_15 M5), plain_ok (mk_99 M5), bnd_some, ← hx6, pI_eq (by rw [mk_92 M6]), ← hx7, pI_eq (by rw [mk_92 M7]), ← hx8, l47_M _ M8, ← hx9]
    unfold m_X12_text_B65
    rw [l67_M _ M9, ← hxa]
    unfold m_X12_text_B86
    rw [isC_eq (by rw [mk_92 Ma]), rb, bnd_some, ry]
  generalize its b n 41 ((nx b n 0, (0, -1)), Di (zI x 99) (zI x 100) (zI x 101)) = X at hy
  have F2y := hy.2.1
  have Fxy : Fi (fun a => a = 92 ∨ a = 93 ∨ a = 99 ∨ a = 100 ∨ a = 101) x y1 := by
    have : Fi (fun a => a = 92 ∨ a = 93 ∨ a = 99 ∨ a = 100 ∨ a = 101) x x2 := by
      rw [hx2, hx1]; exact (Fi.w (by omega)).trans (Fi.w (by omega))
    exact this.trans (F2y.mono (fun a ha => by omega))
  have y93 : zI y1 93 = zI x 93 := by rw [F2y.2.2.2.2 93 (by omega), i2 93 (by decide)]
  have f6 : zI y1 92 6 = 0 := by rw [hy.2.2.1 6 (by omega), e2, up_eq]
  have f34 : zI y1 92 34 = zI x 92 34 := by rw [hy.2.2.1 34 (by omega), e2, up_ne (by decide), up_ne (by decide)]
  have f35 : zI y1 92 35 = zI x 92 35 := by rw [hy.2.2.1 35 (by omega), e2, up_ne (by decide), up_ne (by decide)]
  have My := hy.M
  rw [run]
  unfold m_X12_text_B111
  rw [isC_eq (by rw [mk_92 My])]
  by_cases c : X.1.2.1 = 0
  · have d99 := (hy.2.2.2 c).1
    rw [good_t hy.1 c, bnd_some, if_neg (by decide), l123_M _ My, if_pos c, if_pos c, d99, y93]
    obtain ⟨y2, hy2⟩ : ∃ w, w = wI y1 93 (fun i => if i < 810 then X.2.1 i else zI x 93 i) := ⟨_, rfl⟩
    have M2' : LayM y2 := My.of (by rw [hy2]; rfl) (by rw [hy2]; rfl)
    rw [← hy2]
    unfold m_X12_text_B148
    rw [isC_eq (by rw [mk_92 M2']), begins_ok M2', bnd_some]
    obtain ⟨y3, hy3⟩ : ∃ w, w = wI y2 93 (beginW (zI y2 93)) := ⟨_, rfl⟩
    have M3' : LayM y3 := M2'.of (by rw [hy3]; rfl) (by rw [hy3]; rfl)
    have e93 : zI y3 93 = beginW (fun i => if i < 810 then X.2.1 i else zI x 93 i) := by rw [hy3, zI_eq, hy2, zI_eq]
    have o92 : zI y3 92 = zI y1 92 := by rw [hy3, zI_ne (by decide), hy2, zI_ne (by decide)]
    rw [← hy3]
    refine ⟨y3, ?_, ?_, by rw [o92]; exact f6, by rw [o92]; exact hy.1.2.2.1, by rw [o92]; exact hy.1.2.2.2.1, by rw [o92]; exact f34, by rw [o92]; exact f35, e93⟩
    · rw [gR_eq (by rw [mk_92 M3']) (mr_92_1 M3'), show aI 1 y3 93 0 = fun g => g (zI y3 93 0) from funext fun g => aI_n (k := 0) (mk_93 M3') (by decide) (by decide), e93]
    · refine Fxy.trans ?_
      rw [hy3, hy2]
      exact (Fi.w (by omega)).trans (Fi.w (by omega))
  · refine ⟨y1, ?_, Fxy, f6, hy.1.2.2.1, hy.1.2.2.2.1, f34, f35, by rw [if_neg c]; exact y93⟩
    rw [good_f hy.1 c, bnd_some, if_pos rfl, if_neg c]
