/-! ===== does the shaft shut with some pipes more ===== -/
theorem bt_0 : ∀ S, S < 64 → ∀ i, i < 6 → (((nI S >>> (nI i &&& 31)) &&& 1) = 0 ↔ S.testBit i = false) := by decide +kernel
theorem sub_nN {a b : Nat} (h : b ≤ a) : nI a - nI b = nI (a - b) := by
  rw [show nI a = nI ((a - b) + b) by rw [Nat.sub_add_cancel h], ← nI_add]
  exact Int32.add_sub_cancel _ _
noncomputable def shB (W : Nat → Int32) (cs : Nat → Nat) (P : Nat → Bool) (L n : Nat) : Bool := decide (wayV (tkI (msW W cs P L) n) = -1)
/-- the cells of a row in which pipes may stand -/
def GdR (W : Nat → Int32) (cs : Nat → Nat) (L : Nat) : Prop := 1 ≤ nPW W ∧ L ≤ 6 ∧ (∀ i, i < L → cs i < 144) ∧ (∀ i p, i < L → p < nPW W → W (624 + 6 * p) ≠ nI (cs i)) ∧ ∀ i j, i < j → j < L → cs i ≠ cs j
theorem GdR.ok {W : Nat → Int32} {cs : Nat → Nat} {L : Nat} (h : GdR W cs L) (hO : OkW W 12) (P : Nat → Bool) {n : Nat} (hn : n ≤ L) : OkW (msW W cs P n) (12 + n) ∧ 1 ≤ nPW (msW W cs P n) ∧ ∀ p j, p < nPW (msW W cs P n) → n ≤ j → j < L → msW W cs P n (624 + 6 * p) ≠ nI (cs j) := ms_ok hO h.1 h.2.1 h.2.2.1 h.2.2.2.1 h.2.2.2.2 n hn
theorem withC_ok {z x : Hp} {s d k L S n : Nat} {cs : Nat → Nat} (h : In z s d) (F : Fi (fun a => (d ≤ a ∧ a < d + 32) ∨ (70 ≤ a ∧ a ≤ 82)) z x) (hk : k < 4) (hG : GdR (zI z 93) cs L) (hl : zI z 111 k = nI L) (hcs : ∀ i, i < L → zL z 113 (60 * k + i) = lN (cs i)) (hS : S < 64) (hn : n ≤ 30) :
    ∃ y, m_X11_shutsWith 0 (nI k) (nI S) (nI n) x = some (bI (shB (zI z 93) cs (fun i => S.testBit (L - 1 - i)) L n), y) ∧ Fi (fun a => (d ≤ a ∧ a < d + 32) ∨ (70 ≤ a ∧ a ≤ 82)) z y := by
  have hs := in_lo h
  have hsd := in_sd h
  have hL := hG.2.1
  obtain ⟨W, hW⟩ : ∃ W, W = zI z 93 := ⟨_, rfl⟩
  obtain ⟨P, hP⟩ : ∃ P : Nat → Bool, P = fun i => S.testBit (L - 1 - i) := ⟨_, rfl⟩
  have hO := in_ok h
  have hR := in_R h
  rw [← hW] at hO hR hG ⊢
  rw [← hP]
  have Cx := (in_C h).fi F
  have Sx := (in_S h).fi F
  have Dx := (in_D h).fi F
  have xN : zR x 0 0 = some s := by rw [F.2.2.2.1]; exact in_now h
  have xd : zR x 0 1 = some d := by rw [F.2.2.2.1]; exact in_draft h
  have Rx : RelS x s W := hR.of (fun a h1 h2 => F.2.2.2.2 a (by omega))
  have el : zI x 90 k = nI L := by rw [F.2.2.2.2 90 (by omega), in_sl h k hk]; exact hl
  have ex : ∀ i, i < L → zL x (85 + k) i = lN (cs i) := fun i hi => by rw [F.2.2.1, in_nu h k i hk (by omega)]; exact hcs i hi
  obtain ⟨x1, r1, F1, cp⟩ := copyFrom_ok Sx Dx (by omega)
  have R1 := Rx.cp hO cp
  have C1 := Cx.fi F1
  have FZ : Fi (fun a => (d ≤ a ∧ a < d + 32) ∨ (70 ≤ a ∧ a ≤ 82)) z x1 := F.trans (F1.mono (fun a h => by omega))
  have e1 : zI x1 90 k = nI L := by rw [F1.2.2.2.2 90 (by omega)]; exact el
  unfold m_X11_shutsWith m_X6_lengthOf
  rw [gR_eq (by rw [ck_0 Cx]) xd, gR_eq (by rw [ck_0 Cx]) xN, isC_eq (by rw [sk_0 Dx]), r1, bnd_some, gR_eq (by rw [ck_0 C1]) (cr_0_7 C1), isC_eq (by rw [ck_83 C1]), gR_eq (by rw [ck_83 C1]) (cr_83_2 C1), aI_n (ck_90 C1) hk (by decide), bnd_some, e1]
  -- ticks and the look behind the pipes
  have T : ∀ w, Fi (fun a => (d ≤ a ∧ a < d + 32) ∨ (70 ≤ a ∧ a ≤ 82)) z w → RelS w d (msW W cs P L) → ∃ y, m_X11_shutsWith_B98 0 (nI n) w = some (bI (shB W cs P L n), y) ∧ Fi (fun a => (d ≤ a ∧ a < d + 32) ∨ (70 ≤ a ∧ a ≤ 82)) z y := by
    intro w Fw Rw
    have Om := (hG.ok hO P (Nat.le_refl L)).1
    unfold m_X11_shutsWith_B98
    refine loopQ (X := Int32 × Hp) (fun f x => m_X11_shutsWith_L101 m_X11_shutsWith_B124 f 0 (nI n) x.1 x.2) (fun t => ∃ y, t = some (bI (shB W cs P L n), y) ∧ Fi (fun a => (d ≤ a ∧ a < d + 32) ∨ (70 ≤ a ∧ a ≤ 82)) z y) (fun m x => x.1 = nI m ∧ Fi (fun a => (d ≤ a ∧ a < d + 32) ∨ (70 ≤ a ∧ a ≤ 82)) z x.2 ∧ RelS x.2 d (psI (msW W cs P L) m)) n ?hs ?he 0 FU (0, w) (by omega) (FU_pos (by omega)) ⟨rfl, Fw, Rw⟩
    case hs =>
      rintro m f ⟨v, u⟩ hm ⟨g1, g2, g3⟩
      dsimp only at g1 g2 g3
      subst g1
      have Cu := (in_C h).fi g2
      have Du := (in_D h).fi g2
      have ud : zR u 0 1 = some d := by rw [g2.2.2.2.1]; exact in_draft h
      obtain ⟨u1, r, F2, R2⟩ := passC_ok Cu Du g3 (okpsI Om _) (by omega)
      refine Or.inl ⟨(nI (m + 1), u1), ⟨rfl, g2.trans (F2.mono (fun a h => by omega)), R2⟩, ?_⟩
      dsimp only
      rw [m_X11_shutsWith_L101, if_pos (nI_lt hm (by omega)), gR_eq (by rw [ck_0 Cu]) (cr_0_5 Cu), gR_eq (by rw [ck_0 Cu]) ud, isC_eq (by rw [ck_70 Cu]), r, bnd_some, nI_1]
    case he =>
      rintro f ⟨v, u⟩ ⟨g1, g2, g3⟩
      dsimp only at g1 g2 g3 ⊢
      subst g1
      have Cu := (in_C h).fi g2
      have Du := (in_D h).fi g2
      have ud : zR u 0 1 = some d := by rw [g2.2.2.2.1]; exact in_draft h
      obtain ⟨y, g4, F4⟩ := shutC Cu Du g3 (okpsI Om _) (by omega) (by rw [g2.2.2.2.1]; exact in_wq h)
      refine ⟨y, ?_, g2.trans (F4.mono (fun a h => by omega))⟩
      rw [m_X11_shutsWith_L101, if_neg (nI_nlt (Nat.le_refl _) (by omega))]
      unfold m_X11_shutsWith_B124
      rw [gR_eq (by rw [ck_0 Cu]) (cr_0_6 Cu), gR_eq (by rw [ck_0 Cu]) ud, isC_eq (by rw [ck_74 Cu]), g4, bnd_some, way_I Om n]
      unfold shB bI
      rw [nar_b]
  refine loopQ (X := Int32 × Hp) (fun f x => m_X11_shutsWith_L24 m_X11_shutsWith_B98 f 0 (nI k) (nI S) (nI n) (nI L) x.1 x.2) (fun t => ∃ y, t = some (bI (shB W cs P L n), y) ∧ Fi (fun a => (d ≤ a ∧ a < d + 32) ∨ (70 ≤ a ∧ a ≤ 82)) z y) (fun m x => x.1 = nI m ∧ Fi (fun a => (d ≤ a ∧ a < d + 32) ∨ (70 ≤ a ∧ a ≤ 82)) z x.2 ∧ RelS x.2 d (msW W cs P m)) L ?hs ?he 0 FU (0, x1) (by omega) (FU_pos (by omega)) ⟨rfl, FZ, R1⟩
  case hs =>
    rintro m f ⟨v, u⟩ hm ⟨g1, g2, g3⟩
    dsimp only at g1 g2 g3
    subst g1
    have Cu := (in_C h).fi g2
    have Du := (in_D h).fi g2
    have ud : zR u 0 1 = some d := by rw [g2.2.2.2.1]; exact in_draft h
    obtain ⟨Om, N1, _⟩ := hG.ok hO P (show m ≤ L by omega)
    have eu : zL u (85 + k) m = lN (cs m) := by rw [g2.2.2.1, in_nu h k m hk (by omega)]; exact hcs m hm
    have ei : nI L - 1 - nI m = nI (L - 1 - m) := by rw [show (1 : Int32) = nI 1 from rfl, sub_nN (by omega), sub_nN (by omega)]
    have eb := bt_0 S hS (L - 1 - m) (by omega)
    dsimp only
    rw [m_X11_shutsWith_L24, if_pos (nI_lt hm (by omega)), ei]
    left
    cases hb : P m with
    | false =>
      have hb' : S.testBit (L - 1 - m) = false := by rw [hP] at hb; exact hb
      refine ⟨(nI (m + 1), u), ⟨rfl, g2, ?_⟩, ?_⟩
      · show RelS u d (if P m = true then addW (msW W cs P m) (cs m) else msW W cs P m)
        rw [if_neg (by rw [hb]; decide)]
        exact g3
      · rw [if_pos (eb.mpr hb')]
        unfold m_X11_shutsWith_B92
        rw [nI_1]
    | true =>
      have hb' : ¬ S.testBit (L - 1 - m) = false := by rw [hP] at hb; rw [show S.testBit (L - 1 - m) = true from hb]; decide
      obtain ⟨u1, r, F2, R2⟩ := addC_ok (c := cs m) Du g3 Om (by omega)
      refine ⟨(nI (m + 1), u1), ⟨rfl, g2.trans (F2.mono (fun a h => by omega)), ?_⟩, ?_⟩
      · show RelS u1 d (if P m = true then addW (msW W cs P m) (cs m) else msW W cs P m)
        rw [if_pos hb]
        exact R2
      · rw [if_neg (fun g => hb' (eb.mp g)), gR_eq (by rw [ck_0 Cu]) ud, gR_eq (by rw [sk_0 Du]) (sr_0_1 Du), gR_eq (by rw [ck_0 Cu]) (cr_0_7 Cu), gR_eq (by rw [ck_83 Cu]) (cr_83_0 Cu), aR_n (ck_84 Cu) hk (by decide) (cr84 Cu hk), aL_n (ck85 Cu hk) (by omega) (by decide), eu, lN_i, gR_eq (by rw [ck_0 Cu]) ud, gR_eq (by rw [sk_0 Du]) (sr_0_1 Du), gR_eq (by rw [sk_8 Du]) (sr_8_1 Du), show (0 : Int32) = nI 0 from rfl, aI_n (sk_10 Du) (by decide) (by decide), gR_eq (by rw [ck_0 Cu]) ud, gR_eq (by rw [sk_0 Du]) (sr_0_1 Du), gR_eq (by rw [sk_8 Du]) (sr_8_2 Du), aI_n (sk_11 Du) (by decide) (by decide), rs_p1 g3 0 (by omega), rs_p2 g3 0 (by omega), isC_eq (by rw [sk_8 Du])]
        show bnd (m_X3_add (d + 8) (nI (cs m)) (msW W cs P m 625) (msW W cs P m 626) u) _ = _
        rw [r, bnd_some]
        unfold m_X11_shutsWith_B92
        rw [nI_1]
  case he =>
    rintro f ⟨v, u⟩ ⟨g1, g2, g3⟩
    dsimp only at g1 g2 g3 ⊢
    subst g1
    rw [m_X11_shutsWith_L24, if_neg (nI_nlt (Nat.le_refl _) (by omega))]
    exact T u g2 g3
theorem byM_ok {z : Hp} {k L T n : Nat} {W : Nat → Int32} {cs : Nat → Nat} (hM : LayM z) (h93 : zI z 93 = W) (hO : OkW W 12) (hk : k < 4) (hG : GdR W cs L) (hl : zI z 111 k = nI L) (hcs : ∀ i, i < L → zL z 113 (60 * k + i) = lN (cs i)) (hT : T < 64) (hn : n ≤ 30) :
    ∃ y, m_X12_shutsBy 92 (nI k) (nI T) (nI n) z = some (bI (shB W cs (fun i => T.testBit i) L n), y) ∧ Fi (fun a => a = 93 ∨ a = 94 ∨ (102 ≤ a ∧ a ≤ 104)) z y ∧ zI y 93 = W := by
  have hL := hG.2.1
  obtain ⟨P, hP⟩ : ∃ P : Nat → Bool, P = fun i => T.testBit i := ⟨_, rfl⟩
  rw [← hP]
  obtain ⟨z1, hz1⟩ : ∃ y, y = wI z 94 (fun i => if i < 810 then zI z 93 i else zI z 94 i) := ⟨_, rfl⟩
  have F1 : Fi (fun a => a = 93 ∨ a = 94 ∨ (102 ≤ a ∧ a ≤ 104)) z z1 := by rw [hz1]; exact Fi.w (by omega)
  have z193 : zI z1 93 = W := by rw [hz1, zI_ne (by decide)]; exact h93
  have z194 : ∀ i, i < 810 → zI z1 94 i = W i := fun i hi => by rw [hz1, zI_eq, if_pos hi, h93]
  unfold m_X12_shutsBy
  rw [isC_eq (by rw [mk_92 hM]), saves_ok hM, bnd_some, ← hz1]
  have Om := (hG.ok hO P (Nat.le_refl L)).1
  -- ticks, the look, and back
  have TT : ∀ w, Fi (fun a => a = 93 ∨ a = 94 ∨ (102 ≤ a ∧ a ≤ 104)) z w → (∀ i, i < 810 → zI w 94 i = W i) → zI w 93 = msW W cs P L → ∃ y, m_X12_shutsBy_B152 92 (nI n) w = some (bI (shB W cs P L n), y) ∧ Fi (fun a => a = 93 ∨ a = 94 ∨ (102 ≤ a ∧ a ≤ 104)) z y ∧ zI y 93 = W := by
    intro w Fw w94 w93
    unfold m_X12_shutsBy_B152
    refine loopQ (X := Int32 × Hp) (fun f x => m_X12_shutsBy_L155 m_X12_shutsBy_B171 f 92 (nI n) x.1 x.2) (fun t => ∃ y, t = some (bI (shB W cs P L n), y) ∧ Fi (fun a => a = 93 ∨ a = 94 ∨ (102 ≤ a ∧ a ≤ 104)) z y ∧ zI y 93 = W) (fun m x => x.1 = nI m ∧ Fi (fun a => a = 93 ∨ a = 94 ∨ (102 ≤ a ∧ a ≤ 104)) z x.2 ∧ (∀ i, i < 810 → zI x.2 94 i = W i) ∧ zI x.2 93 = tkI (msW W cs P L) m) n ?hs ?he 0 FU (0, w) (by omega) (FU_pos (by omega)) ⟨rfl, Fw, w94, w93⟩
    case hs =>
      rintro m f ⟨v, u⟩ hm ⟨g1, g2, g3, g4⟩
      dsimp only at g1 g2 g3 g4
      subst g1
      have Mu := hM.fi g2
      obtain ⟨y, r, F, e⟩ := ticksM_ok Mu (q := 12 + L) (by rw [g4]; exact oktkI Om m)
      refine Or.inl ⟨(nI (m + 1), y), ⟨rfl, g2.trans (F.mono (fun a h => by omega)), fun i hi => by rw [F.2.2.2.2 94 (by omega)]; exact g3 i hi, by rw [e, g4]; rfl⟩, ?_⟩
      dsimp only
      rw [m_X12_shutsBy_L155, if_pos (nI_lt hm (by omega)), isC_eq (by rw [mk_92 Mu]), r, bnd_some, nI_1]
    case he =>
      rintro f ⟨v, u⟩ ⟨g1, g2, g3, g4⟩
      dsimp only at g1 g2 g3 g4 ⊢
      subst g1
      have Mu := hM.fi g2
      obtain ⟨G, g⟩ := shutM Mu (p := 12 + L) (by rw [g4]; exact oktkI Om n)
      rw [g4] at g
      obtain ⟨u1, hu1⟩ : ∃ y, y = wI u 104 G := ⟨_, rfl⟩
      have M1 : LayM u1 := Mu.of (by rw [hu1]; rfl) (by rw [hu1]; rfl)
      obtain ⟨y, hy⟩ : ∃ y, y = wI u1 93 (fun i => if i < 810 then zI u1 94 i else zI u1 93 i) := ⟨_, rfl⟩
      refine ⟨y, ?_, ?_, ?_⟩
      · rw [m_X12_shutsBy_L155, if_neg (nI_nlt (Nat.le_refl _) (by omega))]
        unfold m_X12_shutsBy_B171
        rw [isC_eq (by rw [mk_92 Mu]), g, bnd_some, ← hu1, isC_eq (by rw [mk_92 M1]), putsBack_ok M1, bnd_some, ← hy]
        unfold shB bI
        rw [nar_b]
      · rw [hy, hu1]
        exact (g2.trans (Fi.w (by omega))).trans (Fi.w (by omega))
      · rw [hy, zI_eq]
        funext i
        by_cases c : i < 810
        · rw [if_pos c, hu1, zI_ne (by decide)]
          exact g3 i c
        · rw [if_neg c, hu1, zI_ne (by decide), g4, tkI_hi Om (by omega), ms_hi hO hG.1 hG.2.1 hG.2.2.1 hG.2.2.2.1 hG.2.2.2.2 (by omega) L (Nat.le_refl _)]
  refine loopQ (X := Int32 × Hp) (fun f x => m_X12_shutsBy_L7 m_X12_shutsBy_B152 f 92 (nI k) (nI T) (nI n) x.1 x.2) (fun t => ∃ y, t = some (bI (shB W cs P L n), y) ∧ Fi (fun a => a = 93 ∨ a = 94 ∨ (102 ≤ a ∧ a ≤ 104)) z y ∧ zI y 93 = W) (fun m x => x.1 = nI m ∧ Fi (fun a => a = 93 ∨ a = 94 ∨ (102 ≤ a ∧ a ≤ 104)) z x.2 ∧ (∀ i, i < 810 → zI x.2 94 i = W i) ∧ zI x.2 93 = msW W cs P m) L ?hs ?he 0 FU (0, z1) (by omega) (FU_pos (by omega)) ⟨rfl, F1, z194, z193⟩
  case hs =>
    rintro m f ⟨v, u⟩ hm ⟨g1, g2, g3, g4⟩
    dsimp only at g1 g2 g3 g4
    subst g1
    have Mu := hM.fi g2
    obtain ⟨Ok, N1, _⟩ := hG.ok hO P (show m ≤ L by omega)
    have e111 : zI u 111 k = nI L := by rw [g2.2.2.2.2 111 (by omega)]; exact hl
    have eb := bt_0 T hT m (by omega)
    dsimp only
    rw [m_X12_shutsBy_L7, gR_eq (by rw [mk_92 Mu]) (mr_92_36 Mu), aI_n (mk_111 Mu) hk (by decide), e111, if_pos (nI_lt hm (by omega))]
    left
    cases hb : P m with
    | false =>
      have hb' : T.testBit m = false := by rw [hP] at hb; exact hb
      refine ⟨(nI (m + 1), u), ⟨rfl, g2, g3, ?_⟩, ?_⟩
      · show zI u 93 = (if P m = true then addW (msW W cs P m) (cs m) else msW W cs P m)
        rw [if_neg (by rw [hb]; decide)]
        exact g4
      · rw [if_pos (eb.mpr hb')]
        unfold m_X12_shutsBy_B146
        rw [nI_1]
    | true =>
      have hb' : ¬ T.testBit m = false := by rw [hP] at hb; rw [show T.testBit m = true from hb]; decide
      refine ⟨(nI (m + 1), wI u 93 (addW (msW W cs P m) (cs m))), ⟨rfl, g2.trans (Fi.w (by omega)), fun i hi => by rw [zI_ne (by decide)]; exact g3 i hi, ?_⟩, ?_⟩
      · show zI (wI u 93 (addW (msW W cs P m) (cs m))) 93 = (if P m = true then addW (msW W cs P m) (cs m) else msW W cs P m)
        rw [if_pos hb, zI_eq]
      · rw [if_neg (fun g => hb' (eb.mp g)), gR_eq (by rw [mk_92 Mu]) (mr_92_1 Mu), show (2 : Int32) = nI 2 from rfl, aI_n (mk_93 Mu) (by decide) (by decide), g4]
        exact addM_ok (q := 12 + m) (W := msW W cs P m) _ Mu g4 Ok (by omega) hk (by omega) N1 (by rw [g2.2.2.1]; exact hcs m hm) (hG.2.2.1 m hm)
  case he =>
    rintro f ⟨v, u⟩ ⟨g1, g2, g3, g4⟩
    dsimp only at g1 g2 g3 g4 ⊢
    subst g1
    have Mu := hM.fi g2
    have e111 : zI u 111 k = nI L := by rw [g2.2.2.2.2 111 (by omega)]; exact hl
    rw [m_X12_shutsBy_L7, gR_eq (by rw [mk_92 Mu]) (mr_92_36 Mu), aI_n (mk_111 Mu) hk (by decide), e111, if_neg (nI_nlt (Nat.le_refl _) (by omega))]
    exact TT u g2 g3 g4
