/-! ===== foretell, off ===== -/
/-- the tick, from a on, at which the shaft is shut (b) or is not -/
noncomputable def ftB (W : Nat → Int32) (b : Bool) (a t : Nat) : Bool := decide (a ≤ t) && (decide (wayV (tkI W t) = -1) == b)
noncomputable def ftW (W : Nat → Int32) (b : Bool) (a : Nat) : Int32 := ff (ftB W b a) 61 0
theorem firstC_ok {z : Hp} {s d q a : Nat} {b : Bool} {W : Nat → Int32} (hC : LayC z) (hD : LayS z d) (hR : RelS z d W) (hO : OkW W q) (hd : d + 32 ≤ 65) (hd0 : 1 ≤ d) (hdr : zR z 0 1 = some d) (hq : zR z 74 3 = some 78 ∧ zR z 74 4 = some 79 ∨ zR z 74 3 = some 79 ∧ zR z 74 4 = some 78) (ha : a ≤ 1) :
    ∃ y, m_X11_firstTickWith 0 (bI b) (nI a) z = some (ftW W b a, y) ∧ Fi (fun k => (d ≤ k ∧ k < d + 32) ∨ (70 ≤ k ∧ k ≤ 82)) z y := by
  unfold m_X11_firstTickWith
  refine loopQ (X := Int32 × Hp) (fun f x => m_X11_firstTickWith_L2 f 0 (bI b) (nI a) x.1 x.2) (fun t => ∃ y, t = some (ftW W b a, y) ∧ Fi (fun k => (d ≤ k ∧ k < d + 32) ∨ (70 ≤ k ∧ k ≤ 82)) z y) (fun n x => x.1 = nI n ∧ Fi (fun k => (d ≤ k ∧ k < d + 32) ∨ (70 ≤ k ∧ k ≤ 82)) z x.2 ∧ RelS x.2 d (psI W (n - 1)) ∧ ftW W b a = ff (ftB W b a) (61 - n) n) 61 ?hs ?he 0 FU (0, z) (by decide) (by decide) ⟨rfl, Fi.rfl', hR, rfl⟩
  case hs =>
    rintro n f ⟨v, x⟩ hn ⟨h1, h2, hRx, h4⟩
    dsimp only at h1 h2 hRx h4
    subst h1
    have Cx := hC.fi h2
    have Dx := hD.fi h2
    have xd : zR x 0 1 = some d := by rw [h2.2.2.2.1]; exact hdr
    rw [ff_s hn] at h4
    -- the second half, on the heap behind the tick
    have B : ∀ x, LayC x → LayS x d → zR x 0 1 = some d → (zR x 74 3 = some 78 ∧ zR x 74 4 = some 79 ∨ zR x 74 3 = some 79 ∧ zR x 74 4 = some 78) → Fi (fun k => (d ≤ k ∧ k < d + 32) ∨ (70 ≤ k ∧ k ≤ 82)) z x → RelS x d (psI W n) →
        (∃ y : Int32 × Hp, (y.1 = nI (n + 1) ∧ Fi (fun k => (d ≤ k ∧ k < d + 32) ∨ (70 ≤ k ∧ k ≤ 82)) z y.2 ∧ RelS y.2 d (psI W (n + 1 - 1)) ∧ ftW W b a = ff (ftB W b a) (61 - (n + 1)) (n + 1)) ∧ m_X11_firstTickWith_B23 (m_X11_firstTickWith_L2 f) 0 (bI b) (nI a) (nI n) x = m_X11_firstTickWith_L2 f 0 (bI b) (nI a) y.1 y.2) ∨
        (∃ y, m_X11_firstTickWith_B23 (m_X11_firstTickWith_L2 f) 0 (bI b) (nI a) (nI n) x = some (ftW W b a, y) ∧ Fi (fun k => (d ≤ k ∧ k < d + 32) ∨ (70 ≤ k ∧ k ≤ 82)) z y) := by
      intro x Cx Dx xd xq Fx Rx
      unfold m_X11_firstTickWith_B23
      by_cases c : n < a
      · left
        have e0 : ftB W b a n = false := by unfold ftB; rw [decide_eq_false (show ¬ a ≤ n by omega), Bool.false_and]
        rw [e0, if_neg (by decide)] at h4
        refine ⟨(nI (n + 1), x), ⟨rfl, Fx, Rx, h4⟩, ?_⟩
        dsimp only
        rw [if_pos (nI_lt c (by omega))]
        unfold m_X11_firstTickWith_B45
        rw [nI_1]
      · obtain ⟨y, g1, F1⟩ := shutC Cx Dx Rx (okpsI hO n) (by omega) xq
        rw [if_neg (nI_nlt (by omega) (by omega)), gR_eq (by rw [ck_0 Cx]) (cr_0_6 Cx), gR_eq (by rw [ck_0 Cx]) xd, isC_eq (by rw [ck_74 Cx]), g1, bnd_some, way_I hO n]
        have e0 : ftB W b a n = (decide (wayV (tkI W n) = -1) == b) := by unfold ftB; rw [decide_eq_true (show a ≤ n by omega), Bool.true_and]
        rw [e0] at h4
        have Fy : Fi (fun k => (d ≤ k ∧ k < d + 32) ∨ (70 ≤ k ∧ k ≤ 82)) z y := Fx.trans (F1.mono (fun k h => by omega))
        by_cases c2 : decide (wayV (tkI W n) = -1) = b
        · right
          refine ⟨y, ?_, Fy⟩
          rw [if_pos (by rw [c2]), h4, if_pos (by rw [c2]; simp)]
        · left
          have c3 : ¬ bI (decide (wayV (tkI W n) = -1)) = bI b := fun g => c2 (by
            cases hx : decide (wayV (tkI W n) = -1) <;> cases hb : b <;> rw [hx, hb] at g <;> first | rfl | exact absurd g (by decide))
          rw [if_neg (by simpa using c2)] at h4
          refine ⟨(nI (n + 1), y), ⟨rfl, Fy, Rx.of (fun k h1 h2 => F1.2.2.2.2 k (by omega)), h4⟩, ?_⟩
          dsimp only
          rw [if_neg c3]
          unfold m_X11_firstTickWith_B45
          rw [nI_1]
    dsimp only
    rw [m_X11_firstTickWith_L2, if_neg (ngt_lit (show n ≤ 60 by omega) (by decide))]
    have xq : zR x 74 3 = some 78 ∧ zR x 74 4 = some 79 ∨ zR x 74 3 = some 79 ∧ zR x 74 4 = some 78 := by rw [h2.2.2.2.1]; exact hq
    by_cases c0 : n = 0
    · subst c0
      rw [if_neg (by decide)]
      exact B x Cx Dx xd xq h2 hRx
    · obtain ⟨m, rfl⟩ : ∃ m, n = m + 1 := ⟨n - 1, by omega⟩
      obtain ⟨x1, r1, F1, R1⟩ := passC_ok Cx Dx hRx (okpsI hO _) (by omega)
      rw [if_pos (show (0 : Int32) < nI (m + 1) from nI_lt (a := 0) (by omega) (by omega)), gR_eq (by rw [ck_0 Cx]) (cr_0_5 Cx), gR_eq (by rw [ck_0 Cx]) xd, isC_eq (by rw [ck_70 Cx]), r1, bnd_some]
      exact B x1 (Cx.fi F1) (Dx.fi F1) (by rw [F1.2.2.2.1]; exact xd) (by rw [F1.2.2.2.1]; exact xq) (h2.trans (F1.mono (fun k h => by omega))) R1
  case he =>
    rintro f ⟨v, x⟩ ⟨h1, h2, hRx, h4⟩
    dsimp only at h1 h2 hRx h4 ⊢
    subst h1
    refine ⟨x, ?_, h2⟩
    rw [m_X11_firstTickWith_L2, if_pos (by decide), h4]
    rfl
theorem foreM_ok {z : Hp} {q : Nat} (hM : LayM z) (hO : OkW (zI z 93) q) : ∃ y, m_X12_foretell_L18 m_X12_foretell_B52 FU 92 (-1) 0 z = some (ftW (zI z 93) true 0, y) ∧ Fi (fun k => k = 93 ∨ (102 ≤ k ∧ k ≤ 104)) z y ∧ ∀ i, i < 810 → zI y 93 i = zI z 94 i := by
  obtain ⟨W, hW⟩ : ∃ W, W = zI z 93 := ⟨_, rfl⟩
  rw [← hW] at hO ⊢
  have fin : ∀ x v, Fi (fun k => k = 93 ∨ (102 ≤ k ∧ k ≤ 104)) z x → v = ftW W true 0 → ∃ y, m_X12_foretell_B52 92 v x = some (ftW W true 0, y) ∧ Fi (fun k => k = 93 ∨ (102 ≤ k ∧ k ≤ 104)) z y ∧ ∀ i, i < 810 → zI y 93 i = zI z 94 i := by
    intro x v F e
    have Mx := hM.fi F
    refine ⟨_, ?_, F.trans (Fi.w (f := fun i => if i < 810 then zI x 94 i else zI x 93 i) (Or.inl rfl)), fun i hi => ?_⟩
    · unfold m_X12_foretell_B52
      rw [isC_eq (by rw [mk_92 Mx]), putsBack_ok Mx, bnd_some, e]
    · rw [zI_eq, if_pos hi, F.2.2.2.2 94 (by omega)]
  have dnf : ∀ n, n ≤ 61 → ∃ k, k = n := fun n _ => ⟨n, rfl⟩
  refine loopQ (X := Int32 × Int32 × Hp) (fun f x => m_X12_foretell_L18 m_X12_foretell_B52 f 92 x.1 x.2.1 x.2.2) (fun t => ∃ y, t = some (ftW W true 0, y) ∧ Fi (fun k => k = 93 ∨ (102 ≤ k ∧ k ≤ 104)) z y ∧ ∀ i, i < 810 → zI y 93 i = zI z 94 i) (fun n x => x.2.1 = nI n ∧ Fi (fun k => k = 93 ∨ (102 ≤ k ∧ k ≤ 104)) z x.2.2 ∧ zI x.2.2 93 = tkI W (n - 1) ∧ ((x.1 = -1 ∧ ftW W true 0 = ff (ftB W true 0) (61 - n) n) ∨ (x.1 = ftW W true 0 ∧ x.1 ≠ -1))) 61 ?hs ?he 0 FU (-1, 0, z) (by decide) (by decide) ⟨rfl, Fi.rfl', hW.symm, Or.inl ⟨rfl, rfl⟩⟩
  case hs =>
    rintro n f ⟨v, t, x⟩ hn ⟨h1, h2, h3, h4⟩
    dsimp only at h1 h2 h3 h4
    subst h1
    have Mx := hM.fi h2
    dsimp only
    rw [m_X12_foretell_L18, if_neg (ngt_lit (show n ≤ 60 by omega) (by decide))]
    rcases h4 with ⟨rfl, h4⟩ | ⟨h4, h5⟩
    · rw [if_pos rfl]
      rw [ff_s hn] at h4
      have e0 : ftB W true 0 n = decide (wayV (tkI W n) = -1) := by unfold ftB; simp
      rw [e0] at h4
      left
      have B : ∀ x, LayM x → Fi (fun k => k = 93 ∨ (102 ≤ k ∧ k ≤ 104)) z x → zI x 93 = tkI W n →
          ∃ y : Int32 × Int32 × Hp, (y.2.1 = nI (n + 1) ∧ Fi (fun k => k = 93 ∨ (102 ≤ k ∧ k ≤ 104)) z y.2.2 ∧ zI y.2.2 93 = tkI W (n + 1 - 1) ∧ ((y.1 = -1 ∧ ftW W true 0 = ff (ftB W true 0) (61 - (n + 1)) (n + 1)) ∨ (y.1 = ftW W true 0 ∧ y.1 ≠ -1))) ∧ m_X12_foretell_B37 (m_X12_foretell_L18 m_X12_foretell_B52 f) 92 (-1) (nI n) x = m_X12_foretell_L18 m_X12_foretell_B52 f 92 y.1 y.2.1 y.2.2 := by
        intro x Mx Fx ex
        obtain ⟨G, g⟩ := shutM Mx (p := q) (by rw [ex]; exact oktkI hO n)
        rw [ex] at g
        unfold m_X12_foretell_B37
        rw [isC_eq (by rw [mk_92 Mx]), g, bnd_some]
        by_cases c : wayV (tkI W n) = -1
        · rw [decide_eq_true c, if_pos rfl] at h4
          refine ⟨(nI n, nI (n + 1), wI x 104 G), ⟨rfl, Fx.trans (Fi.w (by omega)), by rw [zI_ne (by decide)]; exact ex, Or.inr ⟨h4.symm, nI_ne_m1 (by omega)⟩⟩, ?_⟩
          rw [if_neg (by simp [c, bI])]
          unfold m_X12_foretell_B46
          rw [nI_1]
        · rw [decide_eq_false c, if_neg (by decide)] at h4
          refine ⟨(-1, nI (n + 1), wI x 104 G), ⟨rfl, Fx.trans (Fi.w (by omega)), by rw [zI_ne (by decide)]; exact ex, Or.inl ⟨rfl, h4⟩⟩, ?_⟩
          rw [if_pos (by simp [c, bI])]
          unfold m_X12_foretell_B46
          rw [nI_1]
      by_cases c0 : n = 0
      · subst c0
        rw [if_neg (by decide)]
        exact B x Mx h2 h3
      · obtain ⟨m, rfl⟩ : ∃ m, n = m + 1 := ⟨n - 1, by omega⟩
        obtain ⟨y, r, F, e⟩ := ticksM_ok Mx (q := q) (by rw [h3]; exact oktkI hO _)
        rw [if_pos (show (0 : Int32) < nI (m + 1) from nI_lt (a := 0) (by omega) (by omega)), isC_eq (by rw [mk_92 Mx]), r, bnd_some]
        exact B y (Mx.fi F) (h2.trans (F.mono (fun k h => by omega))) (by rw [e, h3]; rfl)
    · right
      rw [if_neg h5]
      exact fin x v h2 h4
  case he =>
    rintro f ⟨v, t, x⟩ ⟨h1, h2, h3, h4⟩
    dsimp only at h1 h2 h3 h4 ⊢
    subst h1
    rw [m_X12_foretell_L18, if_pos (by decide)]
    refine fin x v h2 ?_
    rcases h4 with ⟨rfl, h4⟩ | ⟨h4, _⟩
    · rw [h4]; rfl
    · exact h4
theorem op_foretell : Op (m_X11_foretell 0) (m_X12_foretell 92) := by
  intro z s d h
  have hS := in_S h; have hR := in_R h; have hO := in_ok h; have hM := in_M h; have hC := in_C h; have hN := in_now h
  have hs := in_lo h
  have hsd := in_sd h
  have hD := in_D h
  have hdr := in_draft h
  by_cases h7 : zI z 93 7 = 1
  · have sc : ¬ zI z s 10 = 0 := by rw [rs_sc hR]; exact fun e => (sc_iff hO).mp e h7
    obtain ⟨z1, r1, F1, cp⟩ := copyFrom_ok hS hD (by omega)
    have R1 := hR.cp hO cp
    obtain ⟨y, r2, F2⟩ := firstC_ok (s := s) (a := 0) (b := true) (hC.fi F1) (hD.fi F1) R1 hO (by omega) (by omega) (by rw [F1.2.2.2.1]; exact hdr) (by rw [F1.2.2.2.1]; exact in_wq h) (by omega)
    have My := (hM.fi F1).fi F2
    have y93 : zI y 93 = zI z 93 := by rw [F2.2.2.2.2 93 (by omega), F1.2.2.2.2 93 (by omega)]
    have e0 := hasShaft_ok My
    rw [y93, h7] at e0
    obtain ⟨w, hw⟩ : ∃ w, w = wI y 94 (fun i => if i < 810 then zI y 93 i else zI y 94 i) := ⟨_, rfl⟩
    have Mw : LayM w := My.of (by rw [hw]; rfl) (by rw [hw]; rfl)
    have w93 : zI w 93 = zI z 93 := by rw [hw, zI_ne (by decide)]; exact y93
    have w94 : ∀ i, i < 810 → zI w 94 i = zI z 93 i := fun i hi => by rw [hw, zI_eq, if_pos hi, y93]
    obtain ⟨u, r3, F3, e3⟩ := foreM_ok Mw (q := 12) (by rw [w93]; exact hO)
    rw [w93] at r3
    refine ⟨ftW (zI z 93) true 0, y, u, s, d, ?_, by rw [mk_92 My], ?_, ?_⟩
    · unfold m_X11_foretell
      have C1 := hC.fi F1
      rw [gR_eq (by rw [ck_0 hC]) hN, gI_eq (by rw [sk_0 hS]), if_neg sc, gR_eq (by rw [ck_0 hC]) hdr, gR_eq (by rw [ck_0 hC]) hN, isC_eq (by rw [sk_0 hD]), r1, bnd_some, isC_eq (by rw [ck_0 C1]), show (1 : Int32) = bI true from rfl, show (0 : Int32) = nI 0 from rfl, r2, bnd_some]
    · unfold m_X12_foretell
      rw [isC_eq (by rw [mk_92 My]), e0, bnd_some, if_neg (by decide), isC_eq (by rw [mk_92 My]), saves_ok My, bnd_some, ← hw, r3]
    · refine h.drf ?_ (fun i hi => ?_)
      · have Fw : Fi (fun a => a = 94) y w := by rw [hw]; exact Fi.w rfl
        exact (((F1.mono (fun a h => by omega)).trans (F2.mono (fun a h => by omega))).trans (Fw.mono (fun a h => by omega))).trans (F3.mono (fun a h => by omega))
      · rw [e3 i hi, w94 i hi]
  · have e0 := hasShaft_ok hM
    have sc : zI z s 10 = 0 := by rw [rs_sc hR]; exact (sc_iff hO).mpr h7
    refine ⟨-6, z, z, s, d, ?_, by rw [mk_92 hM], ?_, h⟩
    · unfold m_X11_foretell
      rw [gR_eq (by rw [ck_0 hC]) hN, gI_eq (by rw [sk_0 hS]), if_pos sc]
    · unfold m_X12_foretell
      rw [isC_eq (by rw [mk_92 hM]), e0, bnd_some]
      simp [h7, bI]
/-- all pipes are stopped -/
def offN (W : Nat → Int32) (n i : Nat) : Int32 := if 624 ≤ i ∧ i < 624 + 6 * n ∧ (i - 624) % 6 = 3 then 0 else W i
theorem of_id {W : Nat → Int32} {n i : Nat} (h : ¬ (624 ≤ i ∧ i < 624 + 6 * n ∧ (i - 624) % 6 = 3)) : offN W n i = W i := if_neg h
theorem okoff {W : Nat → Int32} {q : Nat} (hO : OkW W q) : OkW (offN W (nPW W)) q := by
  have hp := np_le hO
  have e : ∀ i, ¬ (624 ≤ i ∧ i < 732) → offN W (nPW W) i = W i := fun i hi => of_id (by omega)
  have n2 : nPW (offN W (nPW W)) = nPW W := nPW_of (e 2 (by omega))
  exact ⟨ok_kd_of (ok_kd hO)  (fun i hi => e i (by omega)),
    ok_gl_of (ok_gl hO)  (fun i hi => e i (by omega)),
    ok_lat_of (ok_lat hO)  (fun i hi => e i (by omega)),
    ok_mark_of (ok_mark hO)  (fun i hi => e i (by omega)),
    ok_sp_of (ok_sp hO)  (fun i hi => e i (by omega)),
    ok_far_of (ok_far hO)  (fun i hi => e i (by omega)),
    ok_warm_of (ok_warm hO)  (fun i hi => e i (by omega)),
    ok_ice_of (ok_ice hO) (fun c hc => kd_lt hO hc) (fun i hi => e i (by omega)),
    ok_dug_of (ok_dug hO)  (fun i hi => e i (by omega)),
    ok_dsh_of (ok_dsh hO)  (fun i hi => e i (by omega)),
    ok_pn_of (ok_pn hO)  (fun i hi => e i (by omega)),
    fun p hp => by rw [n2] at hp; rw [of_id (by omega)]; exact ok_pc hO p hp,
    fun p r hp hr => by rw [n2] at hp hr; rw [of_id (by omega), of_id (by omega)]; exact ok_pd hO p r hp hr,
    fun p hp => by rw [n2] at hp; rw [of_id (by omega)]; exact ok_pa hO p hp,
    fun p hp => by rw [n2] at hp; rw [of_id (by omega)]; exact ok_pl hO p hp,
    fun p hp => by rw [n2] at hp; left; unfold offN; rw [if_pos (by omega)],
    ok_hn_of (ok_hn hO)  (fun i hi => e i (by omega)),
    ok_hc_of (ok_hc hO) (nh_le hO) (fun i hi => e i (by omega)),
    ok_rn_of (ok_rn hO)  (fun i hi => e i (by omega)),
    ok_rc_of (ok_rc hO) (nr_lt hO) (fun i hi => e i (by omega)),
    ok_rw_of (ok_rw hO) (nr_lt hO) (nc_lt hO) (fun i hi => e i (by omega)),
    ok_gc_of (ok_gc hO)  (fun i hi => e i (by omega)),
    ok_sh_of (ok_sh hO)  (fun i hi => e i (by omega)),
    ok_cold_of (ok_cold hO)  (fun i hi => e i (by omega)),
    ok_fl_of (ok_fl hO)  (fun i hi => e i (by omega))⟩
theorem stopC_ok {z : Hp} {d q : Nat} {W : Nat → Int32} (hD : LayS z d) (hR : RelS z d W) (hO : OkW W q) : ∃ y, m_X3_stopAll (d + 8) z = some ((), y) ∧ Fi (fun a => a = d + 12) z y ∧ RelS y d (offN W (nPW W)) := by
  have hp := np_le hO
  obtain ⟨y, hy⟩ : ∃ y, y = wI z (d + 12) (fun i => if i < 18 then 0 else zI z (d + 12) i) := ⟨_, rfl⟩
  have e : ∀ i, ¬ (624 ≤ i ∧ i < 732) → offN W (nPW W) i = W i := fun i hi => of_id (by omega)
  have n2 : nPW (offN W (nPW W)) = nPW W := nPW_of (e 2 (by omega))
  have hz : ∀ a, d ≤ a → a < d + 32 → a ≠ d + 12 → zI y a = zI z a := fun a _ _ h => by rw [hy, zI_ne h]
  have hf : ∀ k, k < 1000 → zI y d k = zI z d k := fun k _ => by rw [hy, zI_ne (by omega)]
  refine ⟨y, ?_, by rw [hy]; exact Fi.w rfl, ?_⟩
  · unfold m_X3_stopAll
    rw [gR_eq (by rw [sk_8 hD]) (sr_8_3 hD), fill_ok 0 (sk_12 hD) (by decide), bnd_some, ← hy]
  · exact ⟨rs_lead_of (rs_lead hR) (hz (d + 2) (by omega) (by omega) (by omega)) (fun i hi => e i (by omega)),
      rs_ilead_of (rs_ilead hR) (hz (d + 3) (by omega) (by omega) (by omega)) (fun i hi => e i (by omega)),
      rs_latent_of (rs_latent hR) (hz (d + 4) (by omega) (by omega) (by omega)) (fun i hi => e i (by omega)),
      rs_mark_of (rs_mark hR) (hz (d + 5) (by omega) (by omega) (by omega)) (fun i hi => e i (by omega)),
      rs_ground_of (rs_ground hR) (hz (d + 6) (by omega) (by omega) (by omega)) (fun i hi => e i (by omega)),
      rs_speed_of (rs_speed hR) (hz (d + 7) (by omega) (by omega) (by omega)) (fun i hi => e i (by omega)),
      rs_far_of (rs_far hR) (congrFun (hz (d + 1) (by omega) (by omega) (by omega)) 6) (fun i hi => e i (by omega)),
      rs_pn_of (rs_pn hR) (congrFun (hz (d + 8) (by omega) (by omega) (by omega)) 6) (fun i hi => e i (by omega)),
      fun p hp => by rw [n2] at hp; rw [of_id (by omega), hz (d + 9) (by omega) (by omega) (by omega)]; exact rs_p0 hR p hp,
      fun p hp => by rw [n2] at hp; rw [of_id (by omega), hz (d + 10) (by omega) (by omega) (by omega)]; exact rs_p1 hR p hp,
      fun p hp => by rw [n2] at hp; rw [of_id (by omega), hz (d + 11) (by omega) (by omega) (by omega)]; exact rs_p2 hR p hp,
      fun p hp => by rw [n2] at hp; unfold offN; rw [if_pos (by omega), hy, zI_eq, if_pos (by omega)],
      fun p hp => by rw [n2] at hp; rw [of_id (by omega), hz (d + 13) (by omega) (by omega) (by omega)]; exact rs_p4 hR p hp,
      fun p hp => by rw [n2] at hp; rw [of_id (by omega), hz (d + 14) (by omega) (by omega) (by omega)]; exact rs_p5 hR p hp,
      rs_hn_of (rs_hn hR) (congrFun (hz (d + 15) (by omega) (by omega) (by omega)) 3) (fun i hi => e i (by omega)),
      rs_h0_of (rs_h0 hR) (hz (d + 16) (by omega) (by omega) (by omega)) (nh_le hO) (fun i hi => e i (by omega)),
      rs_h1_of (rs_h1 hR) (hz (d + 17) (by omega) (by omega) (by omega)) (nh_le hO) (fun i hi => e i (by omega)),
      rs_h2_of (rs_h2 hR) (hz (d + 18) (by omega) (by omega) (by omega)) (nh_le hO) (fun i hi => e i (by omega)),
      rs_rn_of (rs_rn hR) (congrFun (hz (d + 19) (by omega) (by omega) (by omega)) 4) (fun i hi => e i (by omega)),
      rs_rc_of (rs_rc hR) (hz (d + 20) (by omega) (by omega) (by omega)) (nr_lt hO) (fun i hi => e i (by omega)),
      rs_rw_of (rs_rw hR) (hz (d + 21) (by omega) (by omega) (by omega)) (nr_lt hO) (nc_lt hO) (fun i hi => e i (by omega)),
      rs_rs_of (rs_rs hR) (hz (d + 22) (by omega) (by omega) (by omega)) (hz (d + 23) (by omega) (by omega) (by omega)) (nr_lt hO) (nc_lt hO) (fun i hi => e i (by omega)),
      rs_gc_of (rs_gc hR) (hz (d + 25) (by omega) (by omega) (by omega)) (fun i hi => e i (by omega)),
      rs_gr_of (rs_gr hR) (hz (d + 26) (by omega) (by omega) (by omega)) (fun i hi => e i (by omega)),
      rs_warm_of (rs_warm hR) (hz (d + 27) (by omega) (by omega) (by omega)) (fun i hi => e i (by omega)),
      rs_ice_of (rs_ice hR) (hz (d + 28) (by omega) (by omega) (by omega)) (fun i hi => e i (by omega)),
      rs_dug_of (rs_dug hR) (hz (d + 29) (by omega) (by omega) (by omega)) (fun i hi => e i (by omega)),
      rs_shaft_of (rs_shaft hR) (hz (d + 30) (by omega) (by omega) (by omega)) (fun i hi => e i (by omega)),
      rs_sums_of (rs_sums hR) (hz (d + 31) (by omega) (by omega) (by omega)) (fun i hi => e i (by omega)),
      rs_sc_of (rs_sc hR) (hf 10 (by omega)) (fun i hi => e i (by omega)),
      rs_dc_of (rs_dc hR) (hf 11 (by omega)) (fun i hi => e i (by omega)),
      rs_cold_of (rs_cold hR) (hf 12 (by omega)) (fun i hi => e i (by omega)),
      rs_lines_of (rs_lines hR) (hf 13 (by omega)) (fun i hi => e i (by omega)),
      rs_ticks_of (rs_ticks hR) (hf 14 (by omega)) (fun i hi => e i (by omega)),
      rs_fl_of (rs_fl hR) (hf 15 (by omega)) (fun i hi => e i (by omega)),
      rs_fls_of (rs_fls hR) (hf 16 (by omega)) (fun i hi => e i (by omega))⟩
theorem stopM_ok {z : Hp} {q : Nat} (K : Nat → Hp → Option (Int32 × Hp)) (hM : LayM z) (hO : OkW (zI z 93) q) : m_X12_off_L26 K FU 92 0 z = K 92 (wI z 93 (offN (zI z 93) (nPW (zI z 93)))) := by
  obtain ⟨W, hW⟩ : ∃ W, W = zI z 93 := ⟨_, rfl⟩
  rw [← hW] at hO ⊢
  have hp := np_le hO
  refine loopQ (X := Int32 × Hp) (fun f x => m_X12_off_L26 K f 92 x.1 x.2) (fun t => t = K 92 (wI z 93 (offN W (nPW W)))) (fun n x => x.1 = nI n ∧ x.2 = wI z 93 (offN W n)) (nPW W) ?hs ?he 0 FU (0, z) (by omega) (FU_pos (by omega)) ⟨rfl, ?h0⟩
  case h0 =>
    dsimp only
    refine (wI_self z 93).symm.trans (congrArg (wI z 93) (funext fun i => ?_))
    rw [of_id (by omega), hW]
  case hs =>
    rintro n f ⟨v, x⟩ hn ⟨h1, h2⟩
    dsimp only at h1 h2
    subst h1
    have Mx : LayM x := hM.of (by rw [h2]; rfl) (by rw [h2]; rfl)
    have x93 : zI x 93 = offN W n := by rw [h2, zI_eq]
    have e2 : zI x 93 2 = nI (nPW W) := by rw [x93, of_id (by omega)]; exact np_eq hO
    have e : wI x 93 (ups (zI x 93) (627 + 6 * n) 0) = wI z 93 (offN W (n + 1)) := by
      rw [x93, h2, wI_wI]
      refine congrArg (wI z 93) (funext fun i => ?_)
      rw [ups_eq]
      unfold offN
      by_cases c : i = 627 + 6 * n
      · rw [if_pos c, if_pos (by omega)]
      · rw [if_neg c]
        by_cases c2 : 624 ≤ i ∧ i < 624 + 6 * n ∧ (i - 624) % 6 = 3
        · rw [if_pos c2, if_pos (by omega)]
        · rw [if_neg c2, if_neg (by omega)]
    refine Or.inl ⟨(nI (n + 1), wI z 93 (offN W (n + 1))), ⟨rfl, rfl⟩, ?_⟩
    dsimp only
    rw [m_X12_off_L26]
    simp (disch := omega) [gI, gR, pI, pR, aI, sI, aL, sL, aO, aR, sR, aN, onul, bnd, isC, cpI, cpL, sLen, sCh, nwC, zK_wI, zR_wI, zL_wI, zN_wI, zI_wI, zK_wL, zR_wL, zI_wL, zN_wL, zL_wL, zK_wR, zI_wR, zL_wR, zN_wR, zR_wR, ups_eq, inb_nI, nI_clamp, wI_wI, nI_add, pk_mul, add_c, c_add, c_mul, lt_c, le_c, eq_c, gt_c, ge_c, inb_c, clamp_c, ladd, mk_92, mk_93, mk_94, mk_95, mk_96, mk_97, mk_98, mk_99, mk_100, mk_101, mk_102, mk_103, mk_104, mk_105, mk_106, mk_107, mk_108, mk_109, mk_110, mk_111, mk_112, mk_113, mk_114, mr_92_1, mr_92_2, mr_92_3, mr_92_4, mr_92_5, mr_92_7, mr_92_15, mr_92_16, mr_92_17, mr_92_24, mr_92_25, mr_92_26, mr_92_27, mr_92_28, mr_92_29, mr_92_30, mr_92_32, mr_92_33, mr_92_36, mr_92_37, mr_92_38, mr_92_39, Mx, e2, nI_ltI, hn, e]
  case he =>
    rintro f ⟨v, x⟩ ⟨h1, h2⟩
    dsimp only at h1 h2 ⊢
    subst h1
    have Mx : LayM x := hM.of (by rw [h2]; rfl) (by rw [h2]; rfl)
    have e2 : zI x 93 2 = nI (nPW W) := by rw [h2, zI_eq, of_id (by omega)]; exact np_eq hO
    rw [m_X12_off_L26, ← h2]
    simp (disch := omega) [gI, gR, pI, pR, aI, sI, aL, sL, aO, aR, sR, aN, onul, bnd, isC, cpI, cpL, sLen, sCh, nwC, zK_wI, zR_wI, zL_wI, zN_wI, zI_wI, zK_wL, zR_wL, zI_wL, zN_wL, zL_wL, zK_wR, zI_wR, zL_wR, zN_wR, zR_wR, ups_eq, inb_nI, nI_clamp, wI_wI, nI_add, pk_mul, add_c, c_add, c_mul, lt_c, le_c, eq_c, gt_c, ge_c, inb_c, clamp_c, ladd, mk_92, mk_93, mk_94, mk_95, mk_96, mk_97, mk_98, mk_99, mk_100, mk_101, mk_102, mk_103, mk_104, mk_105, mk_106, mk_107, mk_108, mk_109, mk_110, mk_111, mk_112, mk_113, mk_114, mr_92_1, mr_92_2, mr_92_3, mr_92_4, mr_92_5, mr_92_7, mr_92_15, mr_92_16, mr_92_17, mr_92_24, mr_92_25, mr_92_26, mr_92_27, mr_92_28, mr_92_29, mr_92_30, mr_92_32, mr_92_33, mr_92_36, mr_92_37, mr_92_38, mr_92_39, Mx, e2, nI_ltI]
theorem offM_ok {z : Hp} {q : Nat} (hM : LayM z) (hO : OkW (zI z 93) q) : ∃ y, m_X12_off_L62 m_X12_off_B92 FU 92 (-1) 1 z = some (ftW (zI z 93) false 1, y) ∧ Fi (fun k => k = 93 ∨ (102 ≤ k ∧ k ≤ 104)) z y ∧ ∀ i, i < 810 → zI y 93 i = zI z 94 i := by
  obtain ⟨W, hW⟩ : ∃ W, W = zI z 93 := ⟨_, rfl⟩
  rw [← hW] at hO ⊢
  have fin : ∀ x v, Fi (fun k => k = 93 ∨ (102 ≤ k ∧ k ≤ 104)) z x → v = ftW W false 1 → ∃ y, m_X12_off_B92 92 v x = some (ftW W false 1, y) ∧ Fi (fun k => k = 93 ∨ (102 ≤ k ∧ k ≤ 104)) z y ∧ ∀ i, i < 810 → zI y 93 i = zI z 94 i := by
    intro x v F e
    have Mx := hM.fi F
    refine ⟨_, ?_, F.trans (Fi.w (f := fun i => if i < 810 then zI x 94 i else zI x 93 i) (Or.inl rfl)), fun i hi => ?_⟩
    · unfold m_X12_off_B92
      rw [isC_eq (by rw [mk_92 Mx]), putsBack_ok Mx, bnd_some, e]
    · rw [zI_eq, if_pos hi, F.2.2.2.2 94 (by omega)]
  have st : ftW W false 1 = ff (ftB W false 1) 60 1 := by
    have e0 : ftB W false 1 0 = false := by unfold ftB; simp
    show (if ftB W false 1 0 = true then nI 0 else ff (ftB W false 1) 60 1) = _
    rw [e0, if_neg (by decide)]
  refine loopQ (X := Int32 × Int32 × Hp) (fun f x => m_X12_off_L62 m_X12_off_B92 f 92 x.1 x.2.1 x.2.2) (fun t => ∃ y, t = some (ftW W false 1, y) ∧ Fi (fun k => k = 93 ∨ (102 ≤ k ∧ k ≤ 104)) z y ∧ ∀ i, i < 810 → zI y 93 i = zI z 94 i) (fun n x => x.2.1 = nI n ∧ 1 ≤ n ∧ Fi (fun k => k = 93 ∨ (102 ≤ k ∧ k ≤ 104)) z x.2.2 ∧ zI x.2.2 93 = tkI W (n - 1) ∧ ((x.1 = -1 ∧ ftW W false 1 = ff (ftB W false 1) (61 - n) n) ∨ (x.1 = ftW W false 1 ∧ x.1 ≠ -1))) 61 ?hs ?he 1 FU (-1, 1, z) (by decide) (by decide) ⟨rfl, by decide, Fi.rfl', hW.symm, Or.inl ⟨rfl, st⟩⟩
  case hs =>
    rintro n f ⟨v, t, x⟩ hn ⟨h1, hn1, h2, h3, h4⟩
    dsimp only at h1 h2 h3 h4
    subst h1
    have Mx := hM.fi h2
    dsimp only
    rw [m_X12_off_L62, if_neg (ngt_lit (show n ≤ 60 by omega) (by decide))]
    rcases h4 with ⟨rfl, h4⟩ | ⟨h4, h5⟩
    · rw [if_pos rfl]
      rw [ff_s hn] at h4
      have e0 : ftB W false 1 n = !decide (wayV (tkI W n) = -1) := by unfold ftB; simp [hn1]
      rw [e0] at h4
      left
      obtain ⟨m, rfl⟩ : ∃ m, n = m + 1 := ⟨n - 1, by omega⟩
      obtain ⟨y, r, F, e⟩ := ticksM_ok Mx (q := q) (by rw [h3]; exact oktkI hO _)
      have My := Mx.fi F
      have ey : zI y 93 = tkI W (m + 1) := by rw [e, h3]; rfl
      obtain ⟨G, g⟩ := shutM My (p := q) (by rw [ey]; exact oktkI hO _)
      rw [ey] at g
      have Fy : Fi (fun k => k = 93 ∨ (102 ≤ k ∧ k ≤ 104)) z (wI y 104 G) := (h2.trans (F.mono (fun k h => by omega))).trans (Fi.w (by omega))
      rw [isC_eq (by rw [mk_92 Mx]), r, bnd_some, isC_eq (by rw [mk_92 My]), g, bnd_some]
      by_cases c : wayV (tkI W (m + 1)) = -1
      · rw [decide_eq_true c, if_neg (by decide)] at h4
        refine ⟨(-1, nI (m + 1 + 1), wI y 104 G), ⟨rfl, by omega, Fy, by rw [zI_ne (by decide)]; exact ey, Or.inl ⟨rfl, h4⟩⟩, ?_⟩
        rw [if_neg (by simp [c, bI])]
        unfold m_X12_off_B86
        rw [nI_1]
      · rw [decide_eq_false c, if_pos (by decide)] at h4
        refine ⟨(nI (m + 1), nI (m + 1 + 1), wI y 104 G), ⟨rfl, by omega, Fy, by rw [zI_ne (by decide)]; exact ey, Or.inr ⟨h4.symm, nI_ne_m1 (by omega)⟩⟩, ?_⟩
        rw [if_pos (by simp [c, bI])]
        unfold m_X12_off_B86
        rw [nI_1]
    · right
      rw [if_neg h5]
      exact fin x v h2 h4
  case he =>
    rintro f ⟨v, t, x⟩ ⟨h1, hn1, h2, h3, h4⟩
    dsimp only at h1 h2 h3 h4 ⊢
    subst h1
    rw [m_X12_off_L62, if_pos (by decide)]
    refine fin x v h2 ?_
    rcases h4 with ⟨rfl, h4⟩ | ⟨h4, _⟩
    · rw [h4]; rfl
    · exact h4
theorem op_off : Op (m_X11_off 0) (m_X12_off 92) := by
  intro z s d h
  have hS := in_S h; have hR := in_R h; have hO := in_ok h; have hM := in_M h; have hC := in_C h; have hN := in_now h
  have hs := in_lo h
  have hsd := in_sd h
  have hD := in_D h
  have hdr := in_draft h
  by_cases h7 : zI z 93 7 = 1
  · have sc : ¬ zI z s 10 = 0 := by rw [rs_sc hR]; exact fun e => (sc_iff hO).mp e h7
    obtain ⟨z0, g0, F0⟩ := shutC hC hS hR hO (by omega) (in_wq h)
    have C0 := hC.fi F0
    have S0 := hS.fi F0
    have D0 := hD.fi F0
    have N0 : zR z0 0 0 = some s := by rw [F0.2.2.2.1]; exact hN
    have dr0 : zR z0 0 1 = some d := by rw [F0.2.2.2.1]; exact hdr
    have R0 : RelS z0 s (zI z 93) := hR.of (fun a h1 h2 => F0.2.2.2.2 a (by omega))
    by_cases hw : wayV (zI z 93) = -1
    · obtain ⟨z1, r1, F1, cp⟩ := copyFrom_ok S0 D0 (by omega)
      have C1 := C0.fi F1
      have D1 := D0.fi F1
      have R1 := R0.cp hO cp
      have dr1 : zR z1 0 1 = some d := by rw [F1.2.2.2.1]; exact dr0
      obtain ⟨z2, r2, F2, R2⟩ := stopC_ok D1 R1 hO
      have C2 := C1.fi F2
      have O2 := okoff hO
      obtain ⟨y, r3, F3⟩ := firstC_ok (s := s) (a := 1) (b := false) C2 (D1.fi F2) R2 O2 (by omega) (by omega) (by rw [F2.2.2.2.1]; exact dr1) (by rw [F2.2.2.2.1, F1.2.2.2.1, F0.2.2.2.1]; exact in_wq h) (by omega)
      have FY : Fi (fun a => (d ≤ a ∧ a < d + 32) ∨ (70 ≤ a ∧ a ≤ 82)) z y := (((F0.mono (fun a h => by omega)).trans (F1.mono (fun a h => by omega))).trans (F2.mono (fun a h => by omega))).trans F3
      have My := hM.fi FY
      have y93 : zI y 93 = zI z 93 := FY.2.2.2.2 93 (by omega)
      have e0 := hasShaft_ok My
      rw [y93, h7] at e0
      obtain ⟨G, g4⟩ := shutM My (p := 12) (by rw [y93]; exact hO)
      rw [y93] at g4
      obtain ⟨y1, hy1⟩ : ∃ y1, y1 = wI y 104 G := ⟨_, rfl⟩
      have M1 : LayM y1 := My.of (by rw [hy1]; rfl) (by rw [hy1]; rfl)
      have y193 : zI y1 93 = zI z 93 := by rw [hy1, zI_ne (by decide)]; exact y93
      obtain ⟨w, hww⟩ : ∃ w, w = wI y1 94 (fun i => if i < 810 then zI y1 93 i else zI y1 94 i) := ⟨_, rfl⟩
      have Mw : LayM w := M1.of (by rw [hww]; rfl) (by rw [hww]; rfl)
      have w93 : zI w 93 = zI z 93 := by rw [hww, zI_ne (by decide)]; exact y193
      have w94 : ∀ i, i < 810 → zI w 94 i = zI z 93 i := fun i hi => by rw [hww, zI_eq, if_pos hi, y193]
      obtain ⟨u, hu⟩ : ∃ u, u = wI w 93 (offN (zI z 93) (nPW (zI z 93))) := ⟨_, rfl⟩
      have Mu : LayM u := Mw.of (by rw [hu]; rfl) (by rw [hu]; rfl)
      have u93 : zI u 93 = offN (zI z 93) (nPW (zI z 93)) := by rw [hu, zI_eq]
      obtain ⟨x, r5, F5, e5⟩ := offM_ok Mu (q := 12) (by rw [u93]; exact O2)
      rw [u93] at r5
      refine ⟨ftW (offN (zI z 93) (nPW (zI z 93))) false 1, y, x, s, d, ?_, by rw [mk_92 My], ?_, ?_⟩
      · unfold m_X11_off
        rw [gR_eq (by rw [ck_0 hC]) hN, gI_eq (by rw [sk_0 hS]), if_neg sc, gR_eq (by rw [ck_0 hC]) (cr_0_6 hC), gR_eq (by rw [ck_0 hC]) hN, isC_eq (by rw [ck_74 hC]), g0, bnd_some, hw, if_neg (by decide), gR_eq (by rw [ck_0 C0]) dr0, gR_eq (by rw [ck_0 C0]) N0, isC_eq (by rw [sk_0 D0]), r1, bnd_some, gR_eq (by rw [ck_0 C1]) dr1, gR_eq (by rw [sk_0 D1]) (sr_0_1 D1), isC_eq (by rw [sk_8 D1]), r2, bnd_some, isC_eq (by rw [ck_0 C2]), show (0 : Int32) = bI false from rfl, show (1 : Int32) = nI 1 from rfl, r3, bnd_some]
      · unfold m_X12_off
        rw [isC_eq (by rw [mk_92 My]), e0, bnd_some, if_neg (by decide), isC_eq (by rw [mk_92 My]), g4, bnd_some, hw, if_neg (by decide), ← hy1, isC_eq (by rw [mk_92 M1]), saves_ok M1, bnd_some, ← hww, stopM_ok _ Mw (q := 12) (by rw [w93]; exact hO), w93, ← hu]
        unfold m_X12_off_B58
        exact r5
      · refine h.drf ?_ (fun i hi => ?_)
        · have Fu : Fi (fun a => a = 104 ∨ a = 94 ∨ a = 93) y u := by
            rw [hu, hww, hy1]
            exact ((Fi.w (by omega)).trans (Fi.w (by omega))).trans (Fi.w (by omega))
          exact ((FY.mono (fun a h => by omega)).trans (Fu.mono (fun a h => by omega))).trans (F5.mono (fun a h => by omega))
        · rw [e5 i hi, hu, zI_ne (by decide), w94 i hi]
    · have My := hM.fi F0
      have y93 : zI z0 93 = zI z 93 := F0.2.2.2.2 93 (by omega)
      have e0 := hasShaft_ok My
      rw [y93, h7] at e0
      obtain ⟨G, g4⟩ := shutM My (p := 12) (by rw [y93]; exact hO)
      rw [y93] at g4
      refine ⟨-5, z0, wI z0 104 G, s, d, ?_, by rw [mk_92 My], ?_, ?_⟩
      · unfold m_X11_off
        rw [gR_eq (by rw [ck_0 hC]) hN, gI_eq (by rw [sk_0 hS]), if_neg sc, gR_eq (by rw [ck_0 hC]) (cr_0_6 hC), gR_eq (by rw [ck_0 hC]) hN, isC_eq (by rw [ck_74 hC]), g0, bnd_some]
        simp [hw, bI]
      · unfold m_X12_off
        rw [isC_eq (by rw [mk_92 My]), e0, bnd_some, if_neg (by decide), isC_eq (by rw [mk_92 My]), g4, bnd_some]
        simp [hw, bI]
      · exact h.scr ((F0.mono (fun a h => by omega)).trans (Fi.w (by omega)))
  · have e0 := hasShaft_ok hM
    have sc : zI z s 10 = 0 := by rw [rs_sc hR]; exact (sc_iff hO).mpr h7
    refine ⟨-6, z, z, s, d, ?_, by rw [mk_92 hM], ?_, h⟩
    · unfold m_X11_off
      rw [gR_eq (by rw [ck_0 hC]) hN, gI_eq (by rw [sk_0 hS]), if_pos sc]
    · unfold m_X12_off
      rw [isC_eq (by rw [mk_92 hM]), e0, bnd_some]
      simp [h7, bI]

