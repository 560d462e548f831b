/-! ===== leastOut, whole ===== -/
theorem stb_all {w : Nat → Option Nat} {st : Nat → Bool} {F : Nat → Int32} (h : ∀ c, c < 144 → Stb w st F c) {c n : Nat} (hr : Rr w st c n) : ∃ k, F c = nI k ∧ k ≤ n ∧ k ≤ 144 := by
  refine Rr.ind (P := fun c n => ∃ k, F c = nI k ∧ k ≤ n ∧ k ≤ 144) ?_ ?_ hr
  · intro c n hc h1 h2
    exact (h c hc n h2).1 h1
  · rintro c d m b hc hd ⟨k, g1, g2, g3⟩ hnb hw
    obtain ⟨j, j1, j2, j3⟩ := (h c hc b hw).2 d k hnb hd.lt g1 g3
    exact ⟨j, j1, by omega, j3⟩
/-- the least at the rim -/
theorem best_ok {z : Hp} {w : Nat → Option Nat} {st : Nat → Bool} (hM : LayM z) (h3 : FarOK w st (zI z 104)) (hs : ∀ c, c < 144 → Stb w st (zI z 104) c) : ∃ v, m_X12_leastOut_B218 92 z = some (v, z) ∧ WayRes w st v := by
  unfold m_X12_leastOut_B218
  have val : ∀ c, c < 144 → zI z 104 c = -1 ∨ ∃ n, zI z 104 c = nI n ∧ n ≤ 144 ∧ Rr w st c n := fun c hc => by
    rcases h3 c hc with q | ⟨n, q1, q2, q3⟩
    · exact Or.inl q
    · exact Or.inr ⟨n, q1, by omega, q3⟩
  refine loopQ (X := Int32 × Int32) (fun f x => m_X12_leastOut_L224 f 92 x.1 x.2 z) (fun t => ∃ v, t = some (v, z) ∧ WayRes w st v)
    (fun i x => x.2 = nI i ∧ ((x.1 = -1 ∧ ∀ c, c < i → rimB c = true → zI z 104 c = -1) ∨ ∃ n, x.1 = nI n ∧ n ≤ 144 ∧ (∃ c, rimB c = true ∧ Rr w st c n) ∧ ∀ c m, c < i → rimB c = true → zI z 104 c = nI m → m ≤ 144 → n ≤ m)) 144 ?hs ?he 0 FU (-1, 0) (by decide) (by decide) ⟨rfl, Or.inl ⟨rfl, fun c hc => absurd hc (by omega)⟩⟩
  case hs =>
    rintro i f ⟨a, v⟩ hi ⟨h1, h2⟩
    dsimp only at h1 h2
    subst h1
    left
    dsimp only
    rw [m_X12_leastOut_L224, if_pos (lt_lit hi (by decide)), rimM_ok hi, bnd_some]
    -- nothing changes
    have skip : (rimB i = true → zI z 104 i = -1 ∨ ∃ n m, a = nI n ∧ n ≤ 144 ∧ zI z 104 i = nI m ∧ m ≤ 144 ∧ n ≤ m) → ∃ y : Int32 × Int32, (y.2 = nI (i + 1) ∧ ((y.1 = -1 ∧ ∀ c, c < i + 1 → rimB c = true → zI z 104 c = -1) ∨ ∃ n, y.1 = nI n ∧ n ≤ 144 ∧ (∃ c, rimB c = true ∧ Rr w st c n) ∧ ∀ c m, c < i + 1 → rimB c = true → zI z 104 c = nI m → m ≤ 144 → n ≤ m)) ∧ m_X12_leastOut_B278 (m_X12_leastOut_L224 f) 92 a (nI i) z = m_X12_leastOut_L224 f 92 y.1 y.2 z := by
      intro hq
      refine ⟨(a, nI (i + 1)), ⟨rfl, ?_⟩, by unfold m_X12_leastOut_B278; rw [nI_1]⟩
      rcases h2 with ⟨q1, q2⟩ | ⟨n, q1, q2, q3, q4⟩
      · refine Or.inl ⟨q1, fun c hc hr => ?_⟩
        by_cases e : c = i
        · subst e
          rcases hq hr with g | ⟨n, m, g1, g2, g3, g4, g5⟩
          · exact g
          · rw [q1] at g1
            exact absurd g1.symm (nI_ne_m1 (by omega))
        · exact q2 c (by omega) hr
      · refine Or.inr ⟨n, q1, q2, q3, fun c m hc hr hm hm2 => ?_⟩
        by_cases e : c = i
        · subst e
          rcases hq hr with g | ⟨n', m', g1, g2, g3, g4, g5⟩
          · rw [g] at hm
            exact absurd hm.symm (nI_ne_m1 (by omega))
          · rw [q1] at g1
            rw [hm] at g3
            have e1 : n = n' := (nI_eq (by omega) (by omega)).mp g1
            have e2 : m = m' := (nI_eq (by omega) (by omega)).mp g3
            omega
        · exact q4 c m (by omega) hr hm hm2
    cases hr : rimB i with
    | false =>
      rw [if_pos (by decide)]
      exact skip (fun e => by rw [hr] at e; cases e)
    | true =>
      rw [if_neg (by decide), gR_eq (by rw [mk_92 hM]) (mr_92_26 hM), aI_n (mk_104 hM) hi (by decide)]
      rcases val i hi with g | ⟨m, g1, g2, g3⟩
      · rw [if_pos g]
        exact skip (fun _ => Or.inl g)
      · rw [g1, if_neg (nI_ne_m1 (by omega))]
        have take : (∀ c k, c < i → rimB c = true → zI z 104 c = nI k → k ≤ 144 → m ≤ k) → ∃ y : Int32 × Int32, (y.2 = nI (i + 1) ∧ ((y.1 = -1 ∧ ∀ c, c < i + 1 → rimB c = true → zI z 104 c = -1) ∨ ∃ n, y.1 = nI n ∧ n ≤ 144 ∧ (∃ c, rimB c = true ∧ Rr w st c n) ∧ ∀ c m, c < i + 1 → rimB c = true → zI z 104 c = nI m → m ≤ 144 → n ≤ m)) ∧ m_X12_leastOut_B269 (m_X12_leastOut_L224 f) 92 (nI i) z = m_X12_leastOut_L224 f 92 y.1 y.2 z := by
          intro hq
          refine ⟨(nI m, nI (i + 1)), ⟨rfl, Or.inr ⟨m, rfl, g2, ⟨i, hr, g3⟩, fun c k hc hrc hk hk2 => ?_⟩⟩, ?_⟩
          · by_cases e : c = i
            · subst e
              rw [g1] at hk
              have : m = k := (nI_eq (by omega) (by omega)).mp hk
              omega
            · exact hq c k (by omega) hrc hk hk2
          · unfold m_X12_leastOut_B269 m_X12_leastOut_B278
            rw [gR_eq (by rw [mk_92 hM]) (mr_92_26 hM), aI_n (mk_104 hM) hi (by decide), g1, nI_1]
        rcases h2 with ⟨rfl, q2⟩ | ⟨n, rfl, q2, q3, q4⟩
        · rw [if_pos rfl]
          refine take (fun c k hc hrc hk hk2 => ?_)
          rw [q2 c hc hrc] at hk
          exact absurd hk.symm (nI_ne_m1 (by omega))
        · rw [if_neg (nI_ne_m1 (by omega)), gR_eq (by rw [mk_92 hM]) (mr_92_26 hM), aI_n (mk_104 hM) hi (by decide), g1]
          by_cases hl : m < n
          · rw [if_pos (nI_lt hl (by omega))]
            exact take (fun c k hc hrc hk hk2 => by have := q4 c k hc hrc hk hk2; omega)
          · rw [if_neg (nI_nlt (by omega) (by omega))]
            exact skip (fun _ => Or.inr ⟨n, m, rfl, q2, g1, g2, by omega⟩)
  case he =>
    rintro f ⟨a, v⟩ ⟨h1, h2⟩
    dsimp only at h1 h2 ⊢
    subst h1
    rw [m_X12_leastOut_L224, if_neg (nlt_lit (Nat.le_refl _) (by decide))]
    refine ⟨a, rfl, ?_⟩
    rcases h2 with ⟨q1, q2⟩ | ⟨n, q1, q2, q3, q4⟩
    · refine Or.inl ⟨q1, fun c n hr hR => ?_⟩
      obtain ⟨k, e1, _, e3⟩ := stb_all hs hR
      rw [q2 c hR.lt hr] at e1
      exact absurd e1.symm (nI_ne_m1 (by omega))
    · refine Or.inr ⟨n, q1, q2, q3, fun c m hr hR => ?_⟩
      obtain ⟨k, e1, e2, e3⟩ := stb_all hs hR
      have := q4 c k hR.lt hr e1 e3
      omega
theorem leastOut_ok {z : Hp} {q : Nat} {fz ot : Option Nat} (hM : LayM z) (hO : OkW (zI z 93) q) (hfz : ∀ b, fz = some b → b ≤ 1) (hot : ∀ b, ot = some b → b ≤ 1) :
    ∃ v G, m_X12_leastOut 92 (oN fz) (oN ot) z = some (v, wI z 104 G) ∧ WayRes (wtW (zI z 93) fz ot) (stB (zI z 93)) v := by
  unfold m_X12_leastOut
  refine loopQ (X := Int32 × Hp) (fun f x => m_X12_leastOut_L2 m_X12_leastOut_B22 f 92 (oN fz) (oN ot) x.1 x.2) (fun t => ∃ v G, t = some (v, wI z 104 G) ∧ WayRes (wtW (zI z 93) fz ot) (stB (zI z 93)) v) (fun n x => x.1 = nI n ∧ x.2 = wI z 104 (fun i => if i < n then -1 else zI z 104 i)) 144 ?hs ?he 0 FU (0, z) (by decide) (by decide) ⟨rfl, ?h0⟩
  case h0 => simp [wI_self]
  case hs =>
    rintro n f ⟨v, y⟩ hn ⟨h1, h2⟩
    dsimp only at h1 h2
    subst h1 h2
    refine Or.inl ⟨(nI (n + 1), wI z 104 (fun i => if i < n + 1 then -1 else zI z 104 i)), ⟨rfl, rfl⟩, ?_⟩
    dsimp only
    rw [m_X12_leastOut_L2]
    simp (disch := omega) [gI, gR, pI, pR, aI, sI, aL, sL, aO, aR, sR, aN, onul, bnd, isC, cpI, cpL, sLen, sCh, nwC, zK_wI, zR_wI, zL_wI, zN_wI, zI_wI, zK_wL, zR_wL, zI_wL, zN_wL, zL_wL, zK_wR, zI_wR, zL_wR, zN_wR, zR_wR, ups_eq, inb_nI, nI_clamp, wI_wI, nI_add, pk_mul, add_c, c_add, c_mul, lt_c, le_c, eq_c, gt_c, ge_c, inb_c, clamp_c, ladd, mk_92, mk_93, mk_94, mk_95, mk_96, mk_97, mk_98, mk_99, mk_100, mk_101, mk_102, mk_103, mk_104, mk_105, mk_106, mk_107, mk_108, mk_109, mk_110, mk_111, mk_112, mk_113, mk_114, mr_92_1, mr_92_2, mr_92_3, mr_92_4, mr_92_5, mr_92_7, mr_92_15, mr_92_16, mr_92_17, mr_92_24, mr_92_25, mr_92_26, mr_92_27, mr_92_28, mr_92_29, mr_92_30, mr_92_32, mr_92_33, mr_92_36, mr_92_37, mr_92_38, mr_92_39, hM, hn]
    refine congrArg (fun q => m_X12_leastOut_L2 m_X12_leastOut_B22 f 92 (oN fz) (oN ot) (nI (n + 1)) (wI z 104 q)) (funext fun i => ?_)
    simp only [ups_eq]
    grind
  case he =>
    rintro f ⟨v, y⟩ ⟨h1, h2⟩
    dsimp only at h1 h2 ⊢
    subst h1
    rw [m_X12_leastOut_L2, if_neg (nlt_lit (Nat.le_refl _) (by decide))]
    unfold m_X12_leastOut_B22
    have hm0 : mu (fun i => if i < 144 then -1 else zI z 104 i) ≤ 144 * 145 := sN_le (fun i hi => by
      simp only [if_pos hi, if_true]
      exact Nat.le_refl _)
    refine loopM (X := Int32 × Hp) (fun f x => m_X12_leastOut_L24 m_X12_leastOut_B218 f 92 (oN fz) (oN ot) x.1 x.2) (fun t => ∃ v G, t = some (v, wI z 104 G) ∧ WayRes (wtW (zI z 93) fz ot) (stB (zI z 93)) v)
      (fun x => ∃ G, x.2 = wI z 104 G ∧ FarOK (wtW (zI z 93) fz ot) (stB (zI z 93)) G ∧ (x.1 = 1 ∨ x.1 = 0 ∧ ∀ c, c < 144 → Stb (wtW (zI z 93) fz ot) (stB (zI z 93)) G c)) (fun x => if x.1 = 0 then 0 else mu (zI x.2 104) + 1) ?hs FU (1, y) ?hm ⟨_, h2, ?hf, Or.inl rfl⟩
    case hm =>
      dsimp only
      rw [if_neg (by decide), h2, zI_eq]
      have : (1000000 : Nat) = FU := rfl
      omega
    case hf =>
      intro c hc
      left
      exact if_pos hc
    case hs =>
      rintro f ⟨fl, x⟩ ⟨G, g1, g2, g3⟩
      dsimp only at g1 g2 g3 ⊢
      have hMx : LayM x := hM.of (by rw [g1]; rfl) (by rw [g1]; rfl)
      have x93 : zI x 93 = zI z 93 := by rw [g1, zI_ne (by decide)]
      have x104 : zI x 104 = G := by rw [g1, zI_eq]
      rw [m_X12_leastOut_L24]
      rcases g3 with rfl | ⟨rfl, g3⟩
      · rw [if_neg (by decide)]
        obtain ⟨fl, G2, e1, e2, e3⟩ := pass_ok (z := x) (m_X12_leastOut_B215 (m_X12_leastOut_L24 m_X12_leastOut_B218 f)) hMx (by rw [x93]; exact hO) hfz hot (by rw [x93, x104]; exact g2)
        rw [x93] at e2 e3
        rw [x104] at e3
        have ew : wI x 104 G2 = wI z 104 G2 := by rw [g1, wI_wI]
        rw [ew] at e1
        left
        refine ⟨(fl, wI z 104 G2), ⟨G2, rfl, e2, ?_⟩, ?_, ?_⟩
        · rcases e3 with e3 | e3
          · exact Or.inr e3
          · exact Or.inl e3.1
        · dsimp only
          rw [zI_eq, x104]
          rcases e3 with ⟨e4, _⟩ | ⟨e4, e5⟩
          · rw [if_pos e4]; omega
          · rw [e4, if_neg (by decide)]; omega
        · rw [e1]
          rfl
      · right
        rw [if_pos rfl]
        obtain ⟨v, e1, e2⟩ := best_ok (z := x) hMx (by rw [x104]; exact g2) (by rw [x104]; exact g3)
        exact ⟨v, G, by rw [e1, g1], e2⟩
theorem way_fz : ∀ b, (none : Option Nat) = some b → b ≤ 1 := fun b h => by cases h
theorem way_ot : ∀ b, (some 1 : Option Nat) = some b → b ≤ 1 := fun b h => by cases h; exact Nat.le_refl _
theorem thick_ot : ∀ b, (some 0 : Option Nat) = some b → b ≤ 1 := fun b h => by cases h; exact Nat.zero_le _
