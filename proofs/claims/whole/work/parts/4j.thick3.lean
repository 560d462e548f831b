/-! ===== thinnestFrost, whole; thick ===== -/
theorem path_ok {W : Nat → Int32} {p : Nat} (hO : OkW W p) (h7 : W 7 = 1) : ∃ c n, rimB c = true ∧ n ≤ 12 ∧ Rr (wtW W (some 1) (some 0)) (stB W) c n := by
  rcases ok_sh hO with h | ⟨_, ⟨a1, a2, a3, a4⟩, a5, a6, a7, a8⟩
  · rw [h7] at h; exact absurd h (by decide)
  · obtain ⟨x, hx, ex, hx2⟩ : ∃ x, x < 11 ∧ W 8 = nI x ∧ x = nn (W 8) := ⟨nn (W 8), a1.2, a1.1, rfl⟩
    obtain ⟨y, hy, ey, hy2⟩ : ∃ x, x < 11 ∧ W 9 = nI x ∧ x = nn (W 9) := ⟨nn (W 9), a2.2, a2.1, rfl⟩
    obtain ⟨u, hu, eu, hu2⟩ : ∃ x, x < 11 ∧ W 10 = nI x ∧ x = nn (W 10) := ⟨nn (W 10), a3.2, a3.1, rfl⟩
    obtain ⟨v, hv, ev, hv2⟩ : ∃ x, x < 11 ∧ W 11 = nI x ∧ x = nn (W 11) := ⟨nn (W 11), a4.2, a4.1, rfl⟩
    have shf : ∀ c, c < 144 → c % 12 < x → shW W c = false := by
      intro c hc hlt
      have g : ¬ W 8 ≤ nI (c % 12) := by
        rw [ex]
        exact fun q => absurd ((nI_leI (by omega) (by omega)).mp q) (by omega)
      unfold shW
      simp [g]
    have sht : shW W (12 * y + x) = true := by
      have m1 : (12 * y + x) % 12 = x := by omega
      have m2 : (12 * y + x) / 12 = y := by omega
      unfold shW
      rw [m1, m2, ex, ey, eu, ev]
      simp only [h7, decide_true, Bool.true_and, Bool.and_eq_true, decide_eq_true_eq]
      exact ⟨⟨(nI_leI (by omega) (by omega)).mpr (Nat.le_refl _), (nI_leI (by omega) (by omega)).mpr (by omega)⟩, (nI_leI (by omega) (by omega)).mpr (Nat.le_refl _), (nI_leI (by omega) (by omega)).mpr (by omega)⟩
    have wt : ∀ c, shW W c = false → ∃ b, b ≤ 1 ∧ wtW W (some 1) (some 0) c = some b := by
      intro c hc
      unfold wtW
      rw [hc]
      by_cases g : frW W c = true
      · exact ⟨1, Nat.le_refl _, by simp [g]⟩
      · exact ⟨0, by omega, by simp [g]⟩
    have walk : ∀ j, j < x → ∃ n, n ≤ j + 1 ∧ Rr (wtW W (some 1) (some 0)) (stB W) (12 * y + (x - 1 - j)) n := by
      intro j
      induction j with
      | zero =>
        intro hj
        have hc : 12 * y + (x - 1 - 0) < 144 := by omega
        have s0 := shf (12 * y + (x - 1 - 0)) hc (by omega)
        obtain ⟨b, hb, hw⟩ := wt _ s0
        refine ⟨b, by omega, Rr.st hc ((stB_iff hc).mpr ⟨s0, 12 * y + x, by omega, ?_, sht⟩) hw⟩
        unfold nb
        omega
      | succ j ih =>
        intro hj
        obtain ⟨n, hn, hR⟩ := ih (by omega)
        have hc : 12 * y + (x - 1 - (j + 1)) < 144 := by omega
        have s0 := shf (12 * y + (x - 1 - (j + 1))) hc (by omega)
        obtain ⟨b, hb, hw⟩ := wt _ s0
        refine ⟨n + b, by omega, hR.go hc ?_ hw⟩
        unfold nb
        omega
    obtain ⟨n, hn, hR⟩ := walk (x - 1) (by omega)
    refine ⟨_, n, ?_, by omega, hR⟩
    have : (12 * y + (x - 1 - (x - 1))) % 12 = 0 := by omega
    unfold rimB
    rw [this]
    rfl
theorem thin_ok {z : Hp} {s p qa la : Nat} {W : Nat → Int32} (hC : LayC z) (hS : LayS z s) (hR : RelS z s W) (hO : OkW W p) (h7 : W 7 = 1) (hs : s + 32 ≤ 70 ∨ 115 ≤ s) (hq : zR z 74 3 = some qa ∧ zR z 74 4 = some la) (hqa : qa = 78 ∧ la = 79 ∨ qa = 79 ∧ la = 78) :
    ∃ v y, m_X10_thinnestFrost 74 s z = some (v, y) ∧ FW z y ∧ (zR y 74 3 = some 78 ∧ zR y 74 4 = some 79 ∨ zR y 74 3 = some 79 ∧ zR y 74 4 = some 78) ∧ WayRes (wtW W (some 1) (some 0)) (stB W) v := by
  obtain ⟨y0, e0, f0, k0, a0⟩ := look_ok hC hS hR hO hs
  have c0 := hC.fi f0
  obtain ⟨y1, hy1⟩ : ∃ x, x = wI y0 77 (fun i => if i < 144 then 0 else zI y0 77 i) := ⟨_, rfl⟩
  obtain ⟨y2, hy2⟩ : ∃ x, x = wI y1 74 (ups (zI y1 74) 5 0) := ⟨_, rfl⟩
  obtain ⟨y3, hy3⟩ : ∃ x, x = wI y2 74 (ups (zI y2 74) 6 0) := ⟨_, rfl⟩
  have c1 : LayC y1 := c0.of (by rw [hy1]; rfl) (by rw [hy1]; rfl)
  have c2 : LayC y2 := c1.of (by rw [hy2]; rfl) (by rw [hy2]; rfl)
  have ex : ∀ a, a ≠ 74 → a ≠ 77 → zI y3 a = zI y0 a := fun a g1 g2 => by rw [hy3, zI_ne g1, hy2, zI_ne g1, hy1, zI_ne g2]
  have hL0 : TH W z y3 qa la (fun _ => 0) (fun _ => 0) (fun _ => 0) 0 0 := by
    refine ⟨(FW.fi (f0.mono (fun a h => by omega))).trans ?_, ?_, hqa, fun c hc => by rw [ex 75 (by decide) (by decide)]; exact k0 c hc, fun c hc => by rw [ex 76 (by decide) (by decide)]; exact a0 c hc, fun c hc => ?_, fun j hj => absurd hj (by omega), fun j hj => absurd hj (by omega), ?_, ?_⟩
    · rw [hy3, hy2, hy1]
      exact ((FW.w (by omega)).trans (FW.w (by omega))).trans (FW.w (by omega))
    · have : zR y3 = zR z := by rw [hy3, hy2, hy1]; exact f0.2.2.2.1
      rw [this]; exact hq
    · rw [hy3, zI_ne (by decide), hy2, zI_ne (by decide), hy1, zI_eq, if_pos rfl]
      exact if_pos hc
    · rw [hy3, zI_eq, up_ne (by decide), hy2, zI_eq, up_eq]; rfl
    · rw [hy3, zI_eq, up_eq]; rfl
  unfold m_X10_thinnestFrost
  rw [isC_eq (by rw [ck_74 hC]), e0, bnd_some, gR_eq (by rw [ck_74 c0]) (cr_74_2 c0), fill_ok 0 (ck_77 c0) (by decide), bnd_some, ← hy1, pI_eq (by rw [ck_74 c1]), ← hy2, pI_eq (by rw [ck_74 c2]), ← hy3]
  refine loopQ (X := Int32 × Hp) (fun f x => m_X10_thinnestFrost_L25 m_X10_thinnestFrost_B52 f 74 x.1 x.2) (fun t => ∃ v y, t = some (v, y) ∧ FW z y ∧ (zR y 74 3 = some 78 ∧ zR y 74 4 = some 79 ∨ zR y 74 3 = some 79 ∧ zR y 74 4 = some 78) ∧ WayRes (wtW W (some 1) (some 0)) (stB W) v)
    (fun n x => x.1 = nI n ∧ ∃ D q l m ml, TH W z x.2 qa la D q l m ml ∧ TI (wtW W (some 1) (some 0)) (stB W) 0 D q l m ml 0 0 ∧ ∀ c b, c < n → stB W c = true → wtW W (some 1) (some 0) c = some b → D c ≠ 0 ∧ D c ≤ b + 1) 144 ?hs ?he 0 FU (0, y3) (by decide) (by decide) ⟨rfl, _, _, _, 0, 0, hL0, ?h0, fun c b hc => absurd hc (by omega)⟩
  case h0 =>
    refine ⟨fun c _ h => absurd rfl h, fun j h => absurd h (by omega), fun j h => absurd h (by omega), fun c _ h => absurd rfl h, fun c _ h => absurd rfl h, ?_, by omega⟩
    have := sN_le (g := fun _ => 0) (B := 0) (n := 144) (fun i _ => Nat.le_refl _)
    simp only [if_true]
    omega
  case hs =>
    rintro n f ⟨v, x⟩ hn ⟨h1, D, q, l, m, ml, g1, g2, g3⟩
    dsimp only at h1 g1
    subst h1
    have cx := hC.fw g1.1
    left
    dsimp only
    rw [m_X10_thinnestFrost_L25, if_pos (lt_lit hn (by decide)), gR_eq (by rw [ck_74 cx]) (cr_74_1 cx), aI_n (ck_76 cx) hn (by decide), g1.2.2.2.2.1 n hn]
    cases hst : stB W n with
    | false =>
      rw [if_pos (by decide)]
      refine ⟨(nI (n + 1), x), ⟨rfl, D, q, l, m, ml, g1, g2, fun c b hc h1 h2 => ?_⟩, by unfold m_X10_thinnestFrost_B46; rw [nI_1]⟩
      by_cases g : c = n
      · rw [g, hst] at h1; cases h1
      · exact g3 c b (by omega) h1 h2
    | true =>
      rw [if_neg (by decide), isC_eq (by rw [ck_74 cx])]
      obtain ⟨y', D2, q2, l2, m2, ml2, r1, r2, r3, r4, r5, r6, r7⟩ := reach_ok hC g1 g2 hn (fun b hw => by rw [Nat.zero_add]; exact Rr.st hn hst hw)
      rw [r1, bnd_some]
      refine ⟨(nI (n + 1), y'), ⟨rfl, D2, q2, l2, m2, ml2, r2, r3, fun c b hc h1 h2 => ?_⟩, by unfold m_X10_thinnestFrost_B46; rw [nI_1]⟩
      by_cases g : c = n
      · subst g
        have := r5 b h2
        omega
      · have := g3 c b (by omega) h1 h2
        rw [r4 c this.1]
        exact this
  case he =>
    rintro f ⟨v, x⟩ ⟨h1, D, q, l, m, ml, g1, g2, g3⟩
    dsimp only at h1 g1 ⊢
    subst h1
    rw [m_X10_thinnestFrost_L25, if_neg (nlt_lit (Nat.le_refl _) (by decide))]
    unfold m_X10_thinnestFrost_B52
    refine loopQ (X := Int32 × Hp) (fun f x => m_X10_thinnestFrost_L54 f 74 x.1 x.2) (fun t => ∃ v y, t = some (v, y) ∧ FW z y ∧ (zR y 74 3 = some 78 ∧ zR y 74 4 = some 79 ∨ zR y 74 3 = some 79 ∧ zR y 74 4 = some 78) ∧ WayRes (wtW W (some 1) (some 0)) (stB W) v)
      (fun L x => x.1 = nI L ∧ ∃ qa la D q l m ml P, TH W z x.2 qa la D q l m ml ∧ TI (wtW W (some 1) (some 0)) (stB W) L D q l m ml 0 P ∧ ∀ c b, c < 144 → stB W c = true → wtW W (some 1) (some 0) c = some b → D c ≠ 0 ∧ D c ≤ b + 1) 145 ?hs ?he 0 FU (0, x) (by decide) (by decide) ⟨rfl, qa, la, D, q, l, m, ml, 0, g1, g2, g3⟩
    case hs =>
      rintro L f ⟨v, x⟩ hL ⟨h1, qa, la, D, q, l, m, ml, P, g1, g2, g3⟩
      dsimp only at h1 g1
      subst h1
      have cx := hC.fw g1.1
      dsimp only
      obtain ⟨r, y', D2, q2, l2, m2, ml2, r1, r2, r3, r4⟩ := level_ok hC (by omega) g1 g2 g3
      have cy := hC.fw r2.1
      rw [m_X10_thinnestFrost_L54, if_neg (show ¬ (144 : Int32) < nI L from ngt_lit (n := L) (k := 144) (show L ≤ 144 by omega) (by decide)), isC_eq (by rw [ck_74 cx]), r1, bnd_some]
      rcases r4 with ⟨rfl, r4⟩ | ⟨rfl, r4⟩
      · right
        rw [if_neg (by decide)]
        refine ⟨nI L, y', rfl, r2.1, ?_, r4⟩
        have := r2.2.1
        rcases r2.2.2.1 with ⟨rfl, rfl⟩ | ⟨rfl, rfl⟩
        · exact Or.inl this
        · exact Or.inr this
      · left
        rw [if_pos rfl, gR_eq (by rw [ck_74 cy]) r2.2.1.1, gR_eq (by rw [ck_74 cy]) r2.2.1.2]
        obtain ⟨u1, hu1⟩ : ∃ u, u = wR y' 74 (ups (zR y' 74) 3 (some la)) := ⟨_, rfl⟩
        obtain ⟨u2, hu2⟩ : ∃ u, u = wR u1 74 (ups (zR u1 74) 4 (some qa)) := ⟨_, rfl⟩
        obtain ⟨u3, hu3⟩ : ∃ u, u = wI u2 74 (ups (zI u2 74) 5 (nI ml2)) := ⟨_, rfl⟩
        obtain ⟨u4, hu4⟩ : ∃ u, u = wI u3 74 (ups (zI u3 74) 6 0) := ⟨_, rfl⟩
        have K1 : zK u1 = zK y' := by rw [hu1]; rfl
        have K2 : zK u2 = zK y' := by rw [hu2]; exact K1
        have K3 : zK u3 = zK y' := by rw [hu3]; exact K2
        have k74 : (zK y' 74).1 = 10 + 7 := by rw [ck_74 cy]
        have I2 : zI u2 = zI y' := by rw [hu2, hu1]; rfl
        have I4 : ∀ a, a ≠ 74 → zI u4 a = zI y' a := fun a ha => by rw [hu4, zI_ne ha, hu3, zI_ne ha, I2]
        have R4 : zR u4 74 3 = some la ∧ zR u4 74 4 = some qa := by
          rw [hu4, zR_wI, hu3, zR_wI, hu2, zR_wR, if_pos rfl, up_eq, up_ne (by decide), hu1, zR_wR, if_pos rfl, up_eq]
          exact ⟨rfl, rfl⟩
        have F4 : FW y' u4 := by
          refine ⟨by rw [hu4, hu3, hu2, hu1]; rfl, by rw [hu4, hu3, hu2, hu1]; rfl, by rw [hu4, hu3, hu2, hu1]; rfl, fun a ha => ?_, fun k h3 h4 => ?_, fun a ha => I4 a (by omega)⟩
          · rw [hu4, zR_wI, hu3, zR_wI, hu2, zR_wR, if_neg ha, hu1, zR_wR, if_neg ha]
          · rw [hu4, zR_wI, hu3, zR_wI, hu2, zR_wR, if_pos rfl, up_ne h4, hu1, zR_wR, if_pos rfl, up_ne h3]
        rw [pR_eq k74, ← hu1, pR_eq (by rw [K1]; exact k74), ← hu2, gI_eq (by rw [K2]; exact k74), I2, r2.2.2.2.2.2.2.2.2.2, pI_eq (by rw [K2]; exact k74), ← hu3, pI_eq (by rw [K3]; exact k74), ← hu4, nI_1]
        refine ⟨(nI (L + 1), u4), ⟨rfl, la, qa, D2, l2, q2, ml2, 0, P + m2, ?_, r4.swap, r3⟩, rfl⟩
        obtain ⟨b1, b2, b3, b4, b5, b6, b7, b8, b9, b10⟩ := r2
        refine ⟨b1.trans F4, R4, ?_, fun c hc => by rw [I4 75 (by decide)]; exact b4 c hc, fun c hc => by rw [I4 76 (by decide)]; exact b5 c hc, fun c hc => by rw [I4 77 (by decide)]; exact b6 c hc, fun j hj => by rw [I4 la (by omega)]; exact b8 j hj, fun j hj => absurd hj (by omega), ?_, ?_⟩
        · rcases b3 with ⟨rfl, rfl⟩ | ⟨rfl, rfl⟩
          · exact Or.inr ⟨rfl, rfl⟩
          · exact Or.inl ⟨rfl, rfl⟩
        · rw [hu4, zI_eq, up_ne (by decide), hu3, zI_eq, up_eq]
        · rw [hu4, zI_eq, up_eq]; rfl
    case he =>
      rintro f ⟨v, x⟩ ⟨h1, qa, la, D, q, l, m, ml, P, g1, g2, g3⟩
      obtain ⟨c, n, p1, p2, p3⟩ := path_ok hO h7
      have := g2.less g3 p3 (by omega)
      rw [p1] at this
      cases this
theorem thickC {z : Hp} {s p : Nat} {W : Nat → Int32} (hC : LayC z) (hS : LayS z s) (hR : RelS z s W) (hO : OkW W p) (h7 : W 7 = 1) (hs : s + 32 ≤ 70 ∨ 115 ≤ s) (hq : zR z 74 3 = some 78 ∧ zR z 74 4 = some 79 ∨ zR z 74 3 = some 79 ∧ zR z 74 4 = some 78) :
    ∃ y, m_X10_thinnestFrost 74 s z = some (thickV W, y) ∧ FW z y ∧ (zR y 74 3 = some 78 ∧ zR y 74 4 = some 79 ∨ zR y 74 3 = some 79 ∧ zR y 74 4 = some 78) := by
  have key : ∃ v y, m_X10_thinnestFrost 74 s z = some (v, y) ∧ FW z y ∧ (zR y 74 3 = some 78 ∧ zR y 74 4 = some 79 ∨ zR y 74 3 = some 79 ∧ zR y 74 4 = some 78) ∧ WayRes (wtW W (some 1) (some 0)) (stB W) v := by
    rcases hq with h | h
    · exact thin_ok hC hS hR hO h7 hs h (Or.inl ⟨rfl, rfl⟩)
    · exact thin_ok hC hS hR hO h7 hs h (Or.inr ⟨rfl, rfl⟩)
  obtain ⟨v, y, h1, h2, h3, h4⟩ := key
  exact ⟨y, by rw [h1, thickV_eq h4], h2, h3⟩
theorem LayS.fw {z y : Hp} {s : Nat} (h : LayS z s) (F : FW z y) (hs : s + 32 ≤ 74 ∨ 75 ≤ s) : LayS y s := h.fr3 (fun a h1 h2 => ⟨by rw [F.2.1], F.2.2.2.1 a (by omega)⟩)
theorem LayM.fw {z y : Hp} (h : LayM z) (F : FW z y) : LayM y := h.fr3 (fun a h1 h2 => ⟨by rw [F.2.1], F.2.2.2.1 a (by omega)⟩)
theorem In.fw {z y : Hp} {s d : Nat} (h : In z s d) (F : FW z y) (hq : zR y 74 3 = some 78 ∧ zR y 74 4 = some 79 ∨ zR y 74 3 = some 79 ∧ zR y 74 4 = some 78) : In y s d := by
  have hs := in_lo h
  have i : ∀ a, ¬ (74 ≤ a ∧ a ≤ 82) → zI y a = zI z a := F.2.2.2.2.2
  have r : ∀ a, a ≠ 74 → zR y a = zR z a := F.2.2.2.1
  have i93 := i 93 (by omega)
  have i92 := i 92 (by omega)
  refine ⟨in_sd h, by rw [r 0 (by omega)]; exact in_now h, by rw [r 0 (by omega)]; exact in_draft h, (in_C h).fw F, (in_M h).fw F, (in_S h).fw F (by omega), (in_D h).fw F (by omega), hq, by rw [r 68 (by omega)]; exact in_ps h, ?_, by rw [i93]; exact in_ok h, by rw [i93]; exact in_tk h, ?_, ?_, by rw [i92]; exact in_tn h, by rw [i92, i 66 (by omega)]; exact in_tl h, by rw [i92, i 67 (by omega), i 97 (by omega)]; exact in_tb h, by rw [i92, i 0 (by omega)]; exact in_fk h, by rw [i92, i 0 (by omega)]; exact in_fp h, by rw [i92, i 0 (by omega)]; exact in_gn h, by rw [i92]; exact in_gN h, by rw [i92, i 91 (by omega), i 110 (by omega)]; exact in_gg h, by rw [i92, i 0 (by omega)]; exact in_ch h, by rw [i 111 (by omega)]; exact in_sn h, by rw [i 111 (by omega), i 90 (by omega)]; exact in_sl h, by rw [i 112 (by omega)]; exact in_sw h, by rw [i 111 (by omega), i 112 (by omega), i 89 (by omega)]; exact in_sv h, by rw [F.2.2.1]; exact in_nu h, by rw [F.1]; exact in_N h⟩
  · rw [i93]; exact (in_R h).of (fun a h1 h2 => i a (by omega))
  · intro k hk
    have g := in_im h k hk
    unfold ImR at g ⊢
    rw [i 95 (by omega), i 96 (by omega), r 65 (by omega), F.1]
    rcases g with g | ⟨g1, t, g2, g3, g4, g5, g6, g7⟩
    · exact Or.inl g
    · exact Or.inr ⟨g1, t, g2, g3, g4, g5.fw F (by omega), g6.of (fun a h1 h2 => i a (by omega)), g7⟩
  · have := in_imd h
    unfold ImD at this ⊢
    rw [r 65 (by omega)]
    exact this
theorem op_thick : Op (m_X11_thick 0) (m_X12_thick 92) := by
  intro z s d h
  have hS := in_S h; have hR := in_R h; have hO := in_ok h; have hM := in_M h; have hC := in_C h; have hN := in_now h
  have hs := in_lo h
  by_cases h7 : zI z 93 7 = 1
  · obtain ⟨y, g1, F1, q1⟩ := thickC hC hS hR hO h7 (by omega) (in_wq h)
    have hMy := hM.fw F1
    have y93 : zI y 93 = zI z 93 := F1.2.2.2.2.2 93 (by omega)
    obtain ⟨G, g2⟩ := thickM hMy (by rw [y93]; exact hO)
    rw [y93] at g2
    have e0 := hasShaft_ok hMy
    rw [y93, h7] at e0
    have sc : ¬ zI z s 10 = 0 := by rw [rs_sc hR]; exact fun e => (sc_iff hO).mp e h7
    refine ⟨thickV (zI z 93), y, wI y 104 G, s, d, ?_, by rw [mk_92 hMy], ?_, ?_⟩
    · unfold m_X11_thick
      rw [gR_eq (by rw [ck_0 hC]) hN, gI_eq (by rw [sk_0 hS]), if_neg sc, gR_eq (by rw [ck_0 hC]) (cr_0_6 hC), gR_eq (by rw [ck_0 hC]) hN, isC_eq (by rw [ck_74 hC]), g1, bnd_some]
    · unfold m_X12_thick
      rw [isC_eq (by rw [mk_92 hMy]), e0, bnd_some, if_neg (by decide), isC_eq (by rw [mk_92 hMy]), g2, bnd_some]
    · exact (h.fw F1 q1).scr (Fi.w (by omega))
  · have e0 := hasShaft_ok hM
    have sc : zI z s 10 = 0 := by rw [rs_sc hR]; exact (sc_iff hO).mpr h7
    refine ⟨-6, z, z, s, d, ?_, by rw [mk_92 hM], ?_, h⟩
    · unfold m_X11_thick
      rw [gR_eq (by rw [ck_0 hC]) hN, gI_eq (by rw [sk_0 hS]), if_pos sc]
    · unfold m_X12_thick
      rw [isC_eq (by rw [mk_92 hM]), e0, bnd_some]
      simp [h7, bI]
