/-! ===== text: the call of both ===== -/
theorem bg_cw {F V : Nat → Int32} : ∀ i, i < 810 → beginW (fun i => if i < 810 then F i else V i) i = beginW F i := fun i hi => by
  unfold beginW
  dsimp only
  rw [if_pos (show 5 < 810 by decide), if_pos hi]
theorem op_text : Op (m_X11_text 0) (m_X12_text 92) := by
  intro z s d h
  have lo := in_lo h
  have sd := in_sd h
  have hC := in_C h
  have hM := in_M h
  have hN := in_now h
  have hDr := in_draft h
  have tn := in_tn h
  obtain ⟨n, hn⟩ : ∃ n, n = nn (zI z 92 6) := ⟨_, rfl⟩
  have h6 : zI z 92 6 = nI n := by rw [hn]; exact tn.1
  have n7 : n ≤ 700 := by have := tn.2; omega
  obtain ⟨b, hb⟩ : ∃ b : Nat → Nat, b = fun i => bN (zI z 97 i) := ⟨_, rfl⟩
  have tb := in_tb h
  rw [← hn] at tb
  have hB : BtC z b n := ⟨(in_tl h).trans h6, n7, fun i hi => by
    have := bN_ok (tb i hi).2
    rw [(tb i hi).1, hb]
    exact ⟨this.1, this.2.1⟩⟩
  obtain ⟨y0, M, fa, co, r0, hH, hg⟩ := txC (e := zI z 99) (g := zI z 100) (t := zI z 101) h hB
  obtain ⟨X, hX⟩ : ∃ X, X = its b n 41 ((nx b n 0, (0, -1)), Di (zI z 99) (zI z 100) (zI z 101)) := ⟨_, rfl⟩
  rw [← hX] at hH hg
  have F0 := hH.2.2.2.2.1
  have C0 := hH.C
  have S0 := hH.S
  have i0 : ∀ a, a ≠ 66 → a ≠ 68 → a ≠ 69 → ¬ (d ≤ a ∧ a < d + 32) → zI y0 a = zI z a := fun a h1 h2 h3 h4 => F0.2.2.2.2 a (by omega)
  obtain ⟨y1, hy1⟩ : ∃ w, w = wI y0 66 (ups (zI y0 66) 1 0) := ⟨_, rfl⟩
  have C1 : LayC y1 := C0.of (by rw [hy1]; rfl) (by rw [hy1]; rfl)
  obtain ⟨y2, hy2⟩ : ∃ w, w = wI y1 0 (ups (zI y1 0) 11 X.1.2.1) := ⟨_, rfl⟩
  have C2 : LayC y2 := C1.of (by rw [hy2]; rfl) (by rw [hy2]; rfl)
  obtain ⟨y3, hy3⟩ : ∃ w, w = wI y2 0 (ups (zI y2 0) 12 X.1.2.2) := ⟨_, rfl⟩
  have C3 : LayC y3 := C2.of (by rw [hy3]; rfl) (by rw [hy3]; rfl)
  have S3 : LayS y3 d := S0.of (by rw [hy3, hy2, hy1]; rfl) (by rw [hy3, hy2, hy1]; rfl)
  have R3 : zR y3 = zR (wR z 68 (ups (zR z 68) 2 (some d))) := by rw [hy3, hy2, hy1]; exact F0.2.2.2.1
  have K3 : zK y3 = zK z := by rw [hy3, hy2, hy1]; exact F0.2.1
  have L3 : zL y3 = zL z := by rw [hy3, hy2, hy1]; exact F0.2.2.1
  have N3 : zN y3 = zN z := by rw [hy3, hy2, hy1]; exact F0.1
  have q0 : zR y3 0 = zR z 0 := by rw [R3, zR_wR, if_neg (by decide)]
  have q68 : zR y3 68 = ups (zR z 68) 2 (some d) := by rw [R3, zR_wR, if_pos rfl]
  have qo : ∀ a, a ≠ 68 → zR y3 a = zR z a := fun a ha => by rw [R3, zR_wR, if_neg ha]
  have i3 : ∀ a, a ≠ 0 → a ≠ 66 → zI y3 a = zI y0 a := fun a h1 h2 => by rw [hy3, zI_ne h1, hy2, zI_ne h1, hy1, zI_ne h2]
  have i30 : zI y3 0 = ups (ups (zI z 0) 11 X.1.2.1) 12 X.1.2.2 := by rw [hy3, zI_eq, hy2, zI_eq, hy1, zI_ne (by decide), i0 0 (by omega) (by omega) (by omega) (by omega)]
  have i366 : zI y3 66 1 = 0 := by rw [hy3, zI_ne (by decide), hy2, zI_ne (by decide), hy1, zI_eq, up_eq]
  have j3 : ∀ a, a ≠ 0 → a ≠ 66 → a ≠ 68 → a ≠ 69 → ¬ (d ≤ a ∧ a < d + 32) → zI y3 a = zI z a := fun a h1 h2 h3 h4 h5 => by rw [i3 a h1 h2, i0 a h2 h3 h4 h5]
  have M3 : LayM y3 := hM.rf ⟨K3, fun a _ h2 => qo a h2, fun k hk => by rw [q68, up_ne hk], fun k _ => by rw [q0]⟩
  have f6 : zI y0 68 6 = X.1.2.1 := hH.1.2.2.2.2.1
  have f7 : zI y0 68 7 = X.1.2.2 := hH.1.2.2.2.2.2
  have runC : m_X11_text 0 z = if X.1.2.1 = 0 then (gR 11 1 y3 0 fun a14 => isC 8 y3 a14 <| bnd (m_X8_begin a14 y3) fun _ z15 => gR 11 0 z15 0 fun a17 => gR 11 1 z15 0 fun a18 => pR 11 0 z15 0 a18 fun z19 => pR 11 1 z19 0 a17 fun z20 => gR 11 0 z20 0 fun a21 => gI 8 13 z20 a21 fun x22 => some (x22, z20)) else some (-4, y3) := by
    unfold m_X11_text
    rw [gR_eq (by rw [ck_0 hC]) (cr_0_4 hC), gR_eq (by rw [ck_0 hC]) hDr, isC_eq (by rw [ck_68 hC]), r0, bnd_some, gR_eq (by rw [ck_0 C0]) (cr_0_3 C0), pI_eq (by rw [ck_66 C0]), ← hy1, gR_eq (by rw [ck_0 C1]) (cr_0_4 C1), gI_eq (by rw [ck_68 C1]), show zI y1 68 6 = X.1.2.1 by rw [hy1, zI_ne (by decide)]; exact f6, pI_eq (by rw [ck_0 C1]), ← hy2, gR_eq (by rw [ck_0 C2]) (cr_0_4 C2), gI_eq (by rw [ck_68 C2]), show zI y2 68 7 = X.1.2.2 by rw [hy2, zI_ne (by decide), hy1, zI_ne (by decide)]; exact f7, pI_eq (by rw [ck_0 C2]), ← hy3, gI_eq (by rw [ck_0 C3]), i30, up_ne (show 11 ≠ 12 by decide), up_eq]
  -- the model, on any heap that looks so
  have mod : ∀ x : Hp, LayM x → (∀ a, a = 92 ∨ a = 93 ∨ a = 97 ∨ a = 99 ∨ a = 100 ∨ a = 101 → zI x a = zI z a) → ∃ y, m_X12_text 92 x = some (if X.1.2.1 = 0 then X.2.1 0 else -4, y) ∧ Fi (fun a => a = 92 ∨ a = 93 ∨ a = 99 ∨ a = 100 ∨ a = 101) x y ∧ zI y 92 6 = 0 ∧ zI y 92 13 = X.1.2.1 ∧ zI y 92 14 = X.1.2.2 ∧ zI y 92 34 = zI z 92 34 ∧ zI y 92 35 = zI z 92 35 ∧ zI y 93 = (if X.1.2.1 = 0 then beginW (fun i => if i < 810 then X.2.1 i else zI z 93 i) else zI z 93) := fun x Mx ex => by
    have := txM (b := b) (n := n) Mx (by rw [ex 92 (by omega)]; exact h6) n7 (fun i hi => by rw [ex 97 (by omega)]; exact ⟨(tb i hi).2, by rw [hb]⟩)
    rw [ex 99 (by omega), ex 100 (by omega), ex 101 (by omega), ex 93 (by omega), ex 92 (by omega), ← hX] at this
    have e0 : beginW (fun i => if i < 810 then X.2.1 i else zI z 93 i) 0 = X.2.1 0 := by
      rw [bg_cw 0 (by decide)]
      unfold beginW
      rw [if_neg (by decide), if_neg (by decide), if_neg (by decide), if_neg (by decide), if_neg (by decide)]
    rw [e0] at this
    exact this
  by_cases c : X.1.2.1 = 0
  · obtain ⟨hD, h13⟩ := hg c
    obtain ⟨y4, r4, F4, b1, b2, b3, b4, b5, b6, b7, b8, b9, b10, b11⟩ := begin_ok S3
    have C4 := C3.fi F4
    have S4 := S3.fi F4
    have q4 : zR y4 = zR y3 := F4.2.2.2.1
    obtain ⟨y5, hy5⟩ : ∃ w, w = wR y4 0 (ups (zR y4 0) 0 (some d)) := ⟨_, rfl⟩
    obtain ⟨y6, hy6⟩ : ∃ w, w = wR y5 0 (ups (zR y5 0) 1 (some s)) := ⟨_, rfl⟩
    have I6 : zI y6 = zI y4 := by rw [hy6, hy5]; rfl
    have K6 : zK y6 = zK y4 := by rw [hy6, hy5]; rfl
    have k0 : ∀ w, zK w = zK y4 → (zK w 0).1 = 11 + 7 := fun w hw => by rw [hw, ck_0 C4]
    have R6 : zR y6 0 = ups (ups (zR y4 0) 0 (some d)) 1 (some s) := by rw [hy6, zR_wR, if_pos rfl, hy5, zR_wR, if_pos rfl]
    have R6o : ∀ a, a ≠ 0 → zR y6 a = zR y3 a := fun a ha => by rw [hy6, zR_wR, if_neg ha, hy5, zR_wR, if_neg ha, q4]
    have Rf6 : Rf2 z y6 := ⟨by rw [K6, F4.2.1, K3], fun a h1 h2 => by rw [R6o a h1, qo a h2], fun k hk => by rw [R6o 68 (by decide), q68, up_ne hk], fun k hk => by rw [R6, up_ne (by omega), up_ne (by omega), q4, q0]⟩
    have M6 : LayM y6 := hM.rf Rf6
    have j6 : ∀ a, a ≠ 0 → a ≠ 66 → a ≠ 68 → a ≠ 69 → ¬ (d ≤ a ∧ a < d + 32) → zI y6 a = zI z a := fun a h1 h2 h3 h4 h5 => by rw [I6, F4.2.2.2.2 a (by omega), j3 a h1 h2 h3 h4 h5]
    have ev : zI y6 d 13 = X.2.1 0 := by rw [I6, b11, show zI y3 d = M d by rw [i3 d (by omega) (by omega), hH.m (by omega) (by omega)]]; exact h13
    obtain ⟨y, rM, Fy, g6, g13, g14, g34, g35, g93⟩ := mod y6 M6 (fun a ha => j6 a (by omega) (by omega) (by omega) (by omega) (by omega))
    rw [if_pos c] at rM g93
    refine ⟨X.2.1 0, y6, y, d, s, ?_, by rw [mk_92 M6], rM, ?_⟩
    · rw [runC, if_pos c, gR_eq (by rw [ck_0 C3]) (show zR y3 0 1 = some d by rw [q0]; exact hDr), isC_eq (by rw [sk_0 S3]), r4, bnd_some, gR_eq (by rw [ck_0 C4]) (show zR y4 0 0 = some s by rw [q4, q0]; exact hN), gR_eq (by rw [ck_0 C4]) (show zR y4 0 1 = some d by rw [q4, q0]; exact hDr), pR_eq (by rw [ck_0 C4]), ← hy5, pR_eq (k0 y5 (by rw [hy5]; rfl)), ← hy6, gR_eq (k0 y6 K6) (show zR y6 0 0 = some d by rw [R6, up_ne (by decide), up_eq]), gI_eq (by rw [K6, sk_0 S4]), ev]
    · have Rel := rel_end (y := y) hD h13 (fun j h1 h2 h3 h4 h5 h6 h7 => by
        rw [Fy.2.2.2.2 (d + j) (by omega), I6, F4.2.2.2.2 (d + j) (by omega), i3 (d + j) (by omega) (by omega), hH.md h2]) (fun cc hc => by
        rw [Fy.2.2.2.2 (d + 27) (by omega), Fy.2.2.2.2 (d + 28) (by omega), Fy.2.2.2.2 (d + 29) (by omega), I6, ← hH.md (j := 1) (by decide), ← i3 (d + 1) (by omega) (by omega)]; exact b1 cc hc) (fun cc hc => by
        rw [Fy.2.2.2.2 (d + 25) (by omega), I6]; exact b2 cc hc) (fun cc hc => by
        rw [Fy.2.2.2.2 (d + 31) (by omega), I6]; exact b3 cc hc) (by
        rw [Fy.2.2.2.2 (d + 31) (by omega), I6, ← hH.md (j := 1) (by decide), ← i3 (d + 1) (by omega) (by omega)]; exact b4) (by
        rw [Fy.2.2.2.2 d (by omega), I6]; exact ⟨b5, b6, b7, b8⟩) (by
        rw [Fy.2.2.2.2 d (by omega), I6, ← show zI y3 d = M d by rw [i3 d (by omega) (by omega), hH.m (by omega) (by omega)]]; exact ⟨b9, b10, b11⟩)
      have e93 : ∀ i, i < 810 → zI y 93 i = beginW X.2.1 i := fun i hi => by rw [g93, bg_cw i hi]
      have jy : ∀ a, a ≠ 0 → a ≠ 66 → a ≠ 68 → a ≠ 69 → ¬ (d ≤ a ∧ a < d + 32) → ¬ (a = 92 ∨ a = 93 ∨ a = 99 ∨ a = 100 ∨ a = 101) → zI y a = zI z a := fun a h1 h2 h3 h4 h5 h6 => by rw [Fy.2.2.2.2 a h6, j6 a h1 h2 h3 h4 h5]
      have Rfy : Rf2 z y := ⟨by rw [Fy.2.1]; exact Rf6.1, fun a h1 h2 => by rw [Fy.2.2.2.1]; exact Rf6.2.1 a h1 h2, fun k hk => by rw [Fy.2.2.2.1]; exact Rf6.2.2.1 k hk, fun k hk => by rw [Fy.2.2.2.1]; exact Rf6.2.2.2 k hk⟩
      have y00 : zI y 0 = ups (ups (zI z 0) 11 X.1.2.1) 12 X.1.2.2 := by rw [Fy.2.2.2.2 0 (by omega), I6, F4.2.2.2.2 0 (by omega), i30]
      refine In.tx h Rfy (Or.inr ⟨rfl, rfl⟩) (by rw [Fy.2.2.2.1, R6, up_ne (by decide), up_eq]) (by rw [Fy.2.2.2.1, R6, up_eq]) (Or.inl (by rw [Fy.2.2.2.1, R6o 68 (by decide), q68, up_eq])) (by rw [Fy.1, hy6, zN_wR, hy5, zN_wR, F4.1, N3]) (Rel.1.cw Rel.2.1 e93) (Rel.2.1.cw e93) (by rw [e93 1 (by decide)]; exact Rel.2.2.1) (fun a ha => jy a (by omega) (by omega) (by omega) (by omega) (by omega) (by omega)) (jy 95 (by omega) (by omega) (by omega) (by omega) (by omega) (by omega)) (jy 96 (by omega) (by omega) (by omega) (by omega) (by omega) (by omega)) ?_ ?_ ?_
      · refine ⟨by rw [g6]; exact isN.mk (n := 0) (by decide) (by decide), by rw [g6, Fy.2.2.2.2 66 (by omega), I6, F4.2.2.2.2 66 (by omega)]; exact i366, fun i hi => absurd hi (by rw [g6]; exact Nat.not_lt_zero i)⟩
      · refine ⟨by rw [y00, up_ne (by decide), up_eq, g13], by rw [y00, up_eq, g14], by rw [y00, up_ne (by decide), up_ne (by decide), g34]; exact in_gn h, by rw [g34]; exact in_gN h, fun i hi => ?_, by rw [y00, up_ne (by decide), up_ne (by decide), g35]; exact in_ch h⟩
        rw [g34] at hi
        rw [jy 91 (by omega) (by omega) (by omega) (by omega) (by omega) (by omega), jy 110 (by omega) (by omega) (by omega) (by omega) (by omega) (by omega)]
        exact in_gg h i hi
      · exact (in_Sl h).of (jy 111 (by omega) (by omega) (by omega) (by omega) (by omega) (by omega)) (jy 90 (by omega) (by omega) (by omega) (by omega) (by omega) (by omega)) (jy 112 (by omega) (by omega) (by omega) (by omega) (by omega) (by omega)) (jy 89 (by omega) (by omega) (by omega) (by omega) (by omega) (by omega)) (by rw [Fy.2.2.1, hy6, zL_wR, hy5, zL_wR, F4.2.2.1, L3])
  · obtain ⟨y, rM, Fy, g6, g13, g14, g34, g35, g93⟩ := mod y3 M3 (fun a ha => j3 a (by omega) (by omega) (by omega) (by omega) (by omega))
    rw [if_neg c] at rM g93
    refine ⟨-4, y3, y, s, d, by rw [runC, if_neg c], by rw [mk_92 M3], rM, ?_⟩
    have jy : ∀ a, a ≠ 0 → a ≠ 66 → a ≠ 68 → a ≠ 69 → ¬ (d ≤ a ∧ a < d + 32) → ¬ (a = 92 ∨ a = 93 ∨ a = 99 ∨ a = 100 ∨ a = 101) → zI y a = zI z a := fun a h1 h2 h3 h4 h5 h6 => by rw [Fy.2.2.2.2 a h6, j3 a h1 h2 h3 h4 h5]
    have y00 : zI y 0 = ups (ups (zI z 0) 11 X.1.2.1) 12 X.1.2.2 := by rw [Fy.2.2.2.2 0 (by omega), i30]
    have Rfy : Rf2 z y := ⟨by rw [Fy.2.1, K3], fun a h1 h2 => by rw [Fy.2.2.2.1, qo a h2], fun k hk => by rw [Fy.2.2.2.1, q68, up_ne hk], fun k hk => by rw [Fy.2.2.2.1, q0]⟩
    refine In.tx h Rfy (Or.inl ⟨rfl, rfl⟩) (by rw [Fy.2.2.2.1, q0]; exact hN) (by rw [Fy.2.2.2.1, q0]; exact hDr) (Or.inr (by rw [Fy.2.2.2.1, q68, up_eq])) (by rw [Fy.1, N3]) ?_ (by rw [g93]; exact in_ok h) (by rw [g93]; exact in_tk h) (fun a ha => jy a (by omega) (by omega) (by omega) (by omega) (by omega) (by omega)) (jy 95 (by omega) (by omega) (by omega) (by omega) (by omega) (by omega)) (jy 96 (by omega) (by omega) (by omega) (by omega) (by omega) (by omega)) ?_ ?_ ?_
    · rw [g93]
      exact (in_R h).of (fun a h1 h2 => jy a (by omega) (by omega) (by omega) (by omega) (by omega) (by omega))
    · refine ⟨by rw [g6]; exact isN.mk (n := 0) (by decide) (by decide), by rw [g6, Fy.2.2.2.2 66 (by omega)]; exact i366, fun i hi => absurd hi (by rw [g6]; exact Nat.not_lt_zero i)⟩
    · refine ⟨by rw [y00, up_ne (by decide), up_eq, g13], by rw [y00, up_eq, g14], by rw [y00, up_ne (by decide), up_ne (by decide), g34]; exact in_gn h, by rw [g34]; exact in_gN h, fun i hi => ?_, by rw [y00, up_ne (by decide), up_ne (by decide), g35]; exact in_ch h⟩
      rw [g34] at hi
      rw [jy 91 (by omega) (by omega) (by omega) (by omega) (by omega) (by omega), jy 110 (by omega) (by omega) (by omega) (by omega) (by omega) (by omega)]
      exact in_gg h i hi
    · exact (in_Sl h).of (jy 111 (by omega) (by omega) (by omega) (by omega) (by omega) (by omega)) (jy 90 (by omega) (by omega) (by omega) (by omega) (by omega) (by omega)) (jy 112 (by omega) (by omega) (by omega) (by omega) (by omega) (by omega)) (jy 89 (by omega) (by omega) (by omega) (by omega) (by omega) (by omega)) (by rw [Fy.2.2.1, L3])
