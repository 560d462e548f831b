/-! ===== the fewest pipes more ===== -/
theorem turned_ok {L S : Nat} (hL : L < 7) (hS : S < 64) (z : Hp) : m_X11_turned (nI S) (nI L) z = some (nI (rev L S), z) := by
  unfold m_X11_turned
  refine loopQ (X := Int32 × Int32) (fun f x => m_X11_turned_L4 f (nI S) (nI L) x.1 x.2 z) (fun t => t = some (nI (rev L S), z)) (fun n x => x.2 = nI n ∧ x.1 = nI (rvN L S n)) L ?hs ?he 0 FU (0, 0) (by omega) (FU_pos (by omega)) ⟨rfl, rfl⟩
  case hs =>
    rintro n f ⟨a, v⟩ hn ⟨h1, h2⟩
    dsimp only at h1 h2
    subst h1 h2
    refine Or.inl ⟨(nI (rvN L S (n + 1)), nI (n + 1)), ⟨rfl, rfl⟩, ?_⟩
    dsimp only
    rw [m_X11_turned_L4, if_pos (nI_lt hn (by omega)), show nI L - 1 - nI n = nI (L - 1 - n) by rw [show (1 : Int32) = nI 1 from rfl, sub_nN (by omega), sub_nN (by omega)], q_rev L hL S hS n (by omega) hn, nI_1]
  case he =>
    rintro f ⟨a, v⟩ ⟨h1, h2⟩
    dsimp only at h1 h2 ⊢
    subst h1 h2
    rw [m_X11_turned_L4, if_neg (nI_nlt (Nat.le_refl _) (by omega))]
    rfl
theorem ones_ok {T : Nat} (hT : T < 64) (z : Hp) : m_X12_ones (nI T) z = some (nI (pop T), z) := by
  unfold m_X12_ones
  refine loopQ (X := Int32 × Int32) (fun f x => m_X12_ones_L4 f (nI T) x.1 x.2 z) (fun t => t = some (nI (pop T), z)) (fun n x => x.2 = nI n ∧ x.1 = nI (popN T n)) 6 ?hs ?he 0 FU (0, 0) (by decide) (by decide) ⟨rfl, rfl⟩
  case hs =>
    rintro n f ⟨a, v⟩ hn ⟨h1, h2⟩
    dsimp only at h1 h2
    subst h1 h2
    refine Or.inl ⟨(nI (popN T (n + 1)), nI (n + 1)), ⟨rfl, rfl⟩, ?_⟩
    dsimp only
    rw [m_X12_ones_L4, if_pos (lt_lit hn (by decide)), q_ones T hT n hn, nI_1]
  case he =>
    rintro f ⟨a, v⟩ ⟨h1, h2⟩
    dsimp only at h1 h2 ⊢
    subst h1 h2
    rw [m_X12_ones_L4, if_neg (nlt_lit (Nat.le_refl _) (by decide))]
    rfl
/-- the set of places that is chosen, of those below N -/
def MnR (Sh : Nat → Bool) (N : Nat) : Option Nat → Prop
  | none => ∀ T, T < N → Sh T = false
  | some T => T < N ∧ Sh T = true ∧ ∀ U, U < N → Sh U = true → key T ≤ key U
theorem MnR.uniq {Sh : Nat → Bool} {N : Nat} (hN : N ≤ 64) {r t : Option Nat} (h : MnR Sh N r) (g : MnR Sh N t) : r = t := by
  cases r with
  | none =>
    cases t with
    | none => rfl
    | some T =>
      have := h T g.1
      rw [g.2.1] at this
      cases this
  | some R =>
    cases t with
    | none =>
      have := g R h.1
      rw [h.2.1] at this
      cases this
    | some T =>
      have a := h.2.2 T g.1 g.2.1
      have b := g.2.2 R h.1 h.2.1
      have c := g.1
      have e := h.1
      rw [q_inj R (by omega) T (by omega) (by omega)]
def upO (f : Nat → Int32) (i : Nat) : Option Nat → Nat → Int32
  | none => f
  | some T => ups f i (nI T)
def wIO (x : Hp) (a i : Nat) : Option Nat → Hp
  | none => x
  | some T => wI x a (ups (zI x a) i (nI T))
def pcO : Option Nat → Int32
  | none => -1
  | some T => nI (pop T)
theorem two_le {L : Nat} (h : L ≤ 6) : 2 ^ L ≤ 64 := Nat.pow_le_pow_right (n := 2) (by decide) h
theorem shB_rev {W : Nat → Int32} {cs : Nat → Nat} {L S n : Nat} (hL : L ≤ 6) (hS : S < 64) : shB W cs (fun i => S.testBit (L - 1 - i)) L n = shB W cs (fun i => (rev L S).testBit i) L n := by
  unfold shB
  rw [msW_congr (P := fun i => S.testBit (L - 1 - i)) (Q := fun i => (rev L S).testBit i) (fun i hi => (q_r3 L (by omega) S hS i (by omega) hi).symm)]
theorem fewC_ok {z : Hp} {s d k L n : Nat} {cs : Nat → Nat} (h : In z s d) (hk : k < 4) (hG : GdR (zI z 93) cs L) (hl : zI z 111 k = nI L) (hcs : ∀ i, i < L → zL z 113 (60 * k + i) = lN (cs i)) (hn : n ≤ 30) :
    ∃ r y, m_X11_fewestMore 0 (nI k) (nI n) z = some (pcO r, y) ∧ MnR (fun T => shB (zI z 93) cs (fun i => T.testBit i) L n) (2 ^ L) r ∧ ∃ x, Fi (fun a => (d ≤ a ∧ a < d + 32) ∨ (70 ≤ a ∧ a ≤ 82)) z x ∧ y = wIO x 0 10 r := by
  have hC := in_C h
  have hL := hG.2.1
  have h64 := two_le hL
  obtain ⟨Sh, hSh⟩ : ∃ Sh : Nat → Bool, Sh = fun T => shB (zI z 93) cs (fun i => T.testBit i) L n := ⟨_, rfl⟩
  rw [← hSh]
  have wth : ∀ x, Fi (fun a => (d ≤ a ∧ a < d + 32) ∨ (70 ≤ a ∧ a ≤ 82)) z x → ∀ S, S < 64 → ∃ y, m_X11_shutsWith 0 (nI k) (nI S) (nI n) x = some (bI (Sh (rev L S)), y) ∧ Fi (fun a => (d ≤ a ∧ a < d + 32) ∨ (70 ≤ a ∧ a ≤ 82)) z y := by
    intro x F S hS
    obtain ⟨y, r, F2⟩ := withC_ok h F hk hG hl hcs hS hn
    refine ⟨y, ?_, F2⟩
    rw [r, shB_rev hL hS, hSh]
  have el : zI z 90 k = nI L := by rw [in_sl h k hk]; exact hl
  unfold m_X11_fewestMore m_X6_lengthOf
  rw [gR_eq (by rw [ck_0 hC]) (cr_0_7 hC), isC_eq (by rw [ck_83 hC]), gR_eq (by rw [ck_83 hC]) (cr_83_2 hC), aI_n (ck_90 hC) hk (by decide), bnd_some, el]
  refine loopQ (X := Int32 × Hp) (fun f x => m_X11_fewestMore_L12 m_X11_fewestMore_B51 f 0 (nI k) (nI n) (nI L) x.1 x.2) (fun t => ∃ r y, t = some (pcO r, y) ∧ MnR Sh (2 ^ L) r ∧ ∃ x, Fi (fun a => (d ≤ a ∧ a < d + 32) ∨ (70 ≤ a ∧ a ≤ 82)) z x ∧ y = wIO x 0 10 r) (fun m x => x.1 = nI m ∧ Fi (fun a => (d ≤ a ∧ a < d + 32) ∨ (70 ≤ a ∧ a ≤ 82)) z x.2 ∧ ∀ S, S < 2 ^ L → pop S < m → Sh (rev L S) = false) (L + 1) ?hs ?he 0 FU (0, z) (by omega) (FU_pos (by omega)) ⟨rfl, Fi.rfl', fun S _ h => absurd h (by omega)⟩
  case hs =>
    rintro m f ⟨v, x⟩ hm ⟨g1, g2, g3⟩
    dsimp only at g1 g2 g3
    subst g1
    dsimp only
    rw [m_X11_fewestMore_L12, if_neg (nI_nlt (by omega) (by omega)), q_sh L (by omega)]
    refine loopQ (X := Int32 × Hp) (fun f2 x => m_X11_fewestMore_L25 m_X11_fewestMore_B51 (m_X11_fewestMore_B70 (m_X11_fewestMore_L12 m_X11_fewestMore_B51 f)) f2 0 (nI k) (nI n) (nI L) (nI m) x.1 x.2)
      (fun t => (∃ y : Int32 × Hp, (y.1 = nI (m + 1) ∧ Fi (fun a => (d ≤ a ∧ a < d + 32) ∨ (70 ≤ a ∧ a ≤ 82)) z y.2 ∧ ∀ S, S < 2 ^ L → pop S < m + 1 → Sh (rev L S) = false) ∧ t = m_X11_fewestMore_L12 m_X11_fewestMore_B51 f 0 (nI k) (nI n) (nI L) y.1 y.2) ∨ (∃ r y, t = some (pcO r, y) ∧ MnR Sh (2 ^ L) r ∧ ∃ x, Fi (fun a => (d ≤ a ∧ a < d + 32) ∨ (70 ≤ a ∧ a ≤ 82)) z x ∧ y = wIO x 0 10 r))
      (fun j x => x.1 = nI (2 ^ L - j) - 1 ∧ Fi (fun a => (d ≤ a ∧ a < d + 32) ∨ (70 ≤ a ∧ a ≤ 82)) z x.2 ∧ ∀ S, S < 2 ^ L → 2 ^ L - j ≤ S → pop S = m → Sh (rev L S) = false) (2 ^ L) ?is ?ie 0 FU (nI (2 ^ L) - 1, x) (Nat.zero_le _) (FU_pos (by omega)) ⟨rfl, g2, fun S h1 h2 => absurd h2 (by omega)⟩
    case is =>
      rintro j f2 ⟨w, u⟩ hj ⟨k1, k2, k3⟩
      dsimp only at k1 k2 k3
      subst k1
      obtain ⟨S, hS⟩ : ∃ S, S = 2 ^ L - j - 1 := ⟨_, rfl⟩
      have eS : nI (2 ^ L - j) - 1 = nI S := by rw [show (1 : Int32) = nI 1 from rfl, sub_nN (by omega), hS]
      have hS64 : S < 64 := by omega
      have Cu := hC.fi k2
      dsimp only
      rw [eS, m_X11_fewestMore_L25, if_neg (show ¬ nI S < 0 from nI_nlt (b := 0) (by omega) (by omega)), bc_ok, bnd_some, q_bc S hS64]
      have nx : nI S + -1 = nI (2 ^ L - (j + 1)) - 1 := by rw [show 2 ^ L - (j + 1) = S by omega]; exact (Int32.sub_eq_add_neg _ _).symm
      by_cases c : pop S = m
      · rw [if_pos (by rw [c]), isC_eq (by rw [ck_0 Cu])]
        obtain ⟨y, r, F2⟩ := wth u k2 S hS64
        rw [r, bnd_some]
        cases hb : Sh (rev L S) with
        | false =>
          left
          refine ⟨(nI (2 ^ L - (j + 1)) - 1, y), ⟨rfl, F2, fun U h1 h2 h3 => ?_⟩, ?_⟩
          · by_cases e : U = S
            · rw [e]; exact hb
            · exact k3 U h1 (by omega) h3
          · rw [if_pos (by decide)]
            unfold m_X11_fewestMore_B64
            rw [nx]
        | true =>
          right
          right
          have r1 := q_r1 L (by omega) S hS64 (by omega)
          have r2 := q_r2 L (by omega) S hS64 (by omega)
          refine ⟨some (rev L S), wI y 0 (ups (zI y 0) 10 (nI (rev L S))), ?_, ⟨r1.1, hb, fun U hU hUb => ?_⟩, y, F2, rfl⟩
          · have Cy := hC.fi F2
            rw [if_neg (by decide)]
            unfold m_X11_fewestMore_B51
            rw [turned_ok (by omega) hS64, bnd_some, pI_eq (by rw [ck_0 Cy])]
            show some (nI m, _) = some (nI (pop (rev L S)), _)
            rw [r2.1, c]
          · have u1 := q_r1 L (by omega) U (by omega) hU
            obtain ⟨V, hV⟩ : ∃ V, V = rev L U := ⟨_, rfl⟩
            have v64 : V < 2 ^ L := by rw [hV]; exact u1.1
            have eU : rev L V = U := by rw [hV]; exact u1.2.1
            have v2 := q_r2 L (by omega) V (by omega) v64
            rw [eU] at v2
            have np : ¬ pop V < m := fun q => by
              have := g3 V v64 q
              rw [eU, hUb] at this
              cases this
            unfold key
            rw [r2.1, r2.2, v2.1, v2.2]
            by_cases e : pop V = m
            · have ns : ¬ (S < V) := fun q => by
                have := k3 V v64 (by omega) e
                rw [eU, hUb] at this
                cases this
              have : V * 2 ^ (6 - L) ≤ S * 2 ^ (6 - L) := Nat.mul_le_mul (by omega) (Nat.le_refl _)
              omega
            · omega
      · rw [if_neg (fun g => c ((nI_eq (by have := (q_r1 L (by omega) S hS64 (by omega)).2.2; omega) (by omega)).mp g))]
        left
        refine ⟨(nI (2 ^ L - (j + 1)) - 1, u), ⟨rfl, k2, fun U h1 h2 h3 => ?_⟩, ?_⟩
        · by_cases e : U = S
          · rw [e] at h3; exact absurd h3 c
          · exact k3 U h1 (by omega) h3
        · unfold m_X11_fewestMore_B64
          rw [nx]
    case ie =>
      rintro f2 ⟨w, u⟩ ⟨k1, k2, k3⟩
      dsimp only at k1 k2 k3 ⊢
      rw [Nat.sub_self] at k1
      left
      refine ⟨(nI (m + 1), u), ⟨rfl, k2, fun S h1 h2 => ?_⟩, ?_⟩
      · by_cases e : pop S = m
        · exact k3 S h1 (by omega) e
        · exact g3 S h1 (by omega)
      · rw [k1, m_X11_fewestMore_L25, if_pos (by decide)]
        unfold m_X11_fewestMore_B70
        rw [nI_1]
  case he =>
    rintro f ⟨v, x⟩ ⟨g1, g2, g3⟩
    dsimp only at g1 g2 g3 ⊢
    subst g1
    refine ⟨none, x, ?_, fun T hT => ?_, x, g2, rfl⟩
    · rw [m_X11_fewestMore_L12, if_pos (nI_lt (by omega) (by omega))]
      rfl
    · have u1 := q_r1 L (by omega) T (by omega) hT
      have u2 := q_r1 L (by omega) (rev L T) (by omega) u1.1
      have := g3 (rev L T) u1.1 (by omega)
      rw [u1.2.1] at this
      exact this
theorem moreM_ok {z : Hp} {k L n : Nat} {cs : Nat → Nat} (hM : LayM z) (hO : OkW (zI z 93) 12) (hk : k < 4) (hG : GdR (zI z 93) cs L) (hl : zI z 111 k = nI L) (hcs : ∀ i, i < L → zL z 113 (60 * k + i) = lN (cs i)) (hn : n ≤ 30) :
    ∃ r y, m_X12_more_L78 m_X12_more_B161 FU 92 (nI k) (nI n) (-1) 0 z = some (pcO r, y) ∧ MnR (fun T => shB (zI z 93) cs (fun i => T.testBit i) L n) (2 ^ L) r ∧ ∃ x, Fi (fun a => a = 93 ∨ a = 94 ∨ (102 ≤ a ∧ a ≤ 104)) z x ∧ zI x 93 = zI z 93 ∧ y = wIO x 92 35 r := by
  have hL := hG.2.1
  have h64 := two_le hL
  obtain ⟨W, hW⟩ : ∃ W, W = zI z 93 := ⟨_, rfl⟩
  rw [← hW] at hO hG ⊢
  obtain ⟨Sh, hSh⟩ : ∃ Sh : Nat → Bool, Sh = fun T => shB W cs (fun i => T.testBit i) L n := ⟨_, rfl⟩
  rw [← hSh]
  have bym : ∀ x, Fi (fun a => a = 93 ∨ a = 94 ∨ (102 ≤ a ∧ a ≤ 104)) z x → zI x 93 = W → ∀ T, T < 64 → ∃ y, m_X12_shutsBy 92 (nI k) (nI T) (nI n) x = some (bI (Sh T), y) ∧ Fi (fun a => a = 93 ∨ a = 94 ∨ (102 ≤ a ∧ a ≤ 104)) z y ∧ zI y 93 = W := by
    intro x F e T hT
    obtain ⟨y, r, F2, e2⟩ := byM_ok (hM.fi F) e hO hk hG (by rw [F.2.2.2.2 111 (by omega)]; exact hl) (fun i hi => by rw [F.2.2.1]; exact hcs i hi) hT hn
    exact ⟨y, by rw [r, hSh], F.trans F2, e2⟩
  refine loopQ (X := Int32 × Int32 × Hp) (fun f x => m_X12_more_L78 m_X12_more_B161 f 92 (nI k) (nI n) x.1 x.2.1 x.2.2) (fun t => ∃ r y, t = some (pcO r, y) ∧ MnR Sh (2 ^ L) r ∧ ∃ x, Fi (fun a => a = 93 ∨ a = 94 ∨ (102 ≤ a ∧ a ≤ 104)) z x ∧ zI x 93 = W ∧ y = wIO x 92 35 r) (fun m x => x.2.1 = nI m ∧ Fi (fun a => a = 93 ∨ a = 94 ∨ (102 ≤ a ∧ a ≤ 104)) z x.2.2 ∧ zI x.2.2 93 = W ∧ ∃ r, MnR Sh m r ∧ x.1 = oN r) (2 ^ L) ?hs ?he 0 FU (-1, 0, z) (Nat.zero_le _) (FU_pos (by omega)) ⟨rfl, Fi.rfl', hW.symm, none, fun T h => absurd h (by omega), rfl⟩
  case hs =>
    rintro m f ⟨b, v, x⟩ hm ⟨g1, g2, g3, r, g4, g5⟩
    dsimp only at g1 g2 g3 g5
    subst g1 g5
    have Mx := hM.fi g2
    have e111 : zI x 111 k = nI L := by rw [g2.2.2.2.2 111 (by omega)]; exact hl
    dsimp only
    rw [m_X12_more_L78, gR_eq (by rw [mk_92 Mx]) (mr_92_36 Mx), aI_n (mk_111 Mx) hk (by decide), e111, q_sh L (by omega), if_pos (nI_lt hm (by omega))]
    left
    -- a set that would be ahead is tried
    have tr : (∀ T, r = some T → key m < key T) → ∃ y : Int32 × Int32 × Hp, (y.2.1 = nI (m + 1) ∧ Fi (fun a => a = 93 ∨ a = 94 ∨ (102 ≤ a ∧ a ≤ 104)) z y.2.2 ∧ zI y.2.2 93 = W ∧ ∃ r, MnR Sh (m + 1) r ∧ y.1 = oN r) ∧ m_X12_more_B129 (m_X12_more_L78 m_X12_more_B161 f) 92 (nI k) (nI n) (oN r) (nI m) x = m_X12_more_L78 m_X12_more_B161 f 92 (nI k) (nI n) y.1 y.2.1 y.2.2 := by
      intro hlt
      obtain ⟨y, ry, F2, e2⟩ := bym x g2 g3 m (by omega)
      unfold m_X12_more_B129 m_X12_more_B134
      rw [if_neg (by decide), isC_eq (by rw [mk_92 Mx]), ry, bnd_some]
      cases hb : Sh m with
      | false =>
        refine ⟨(oN r, nI (m + 1), y), ⟨rfl, F2, e2, r, ?_, rfl⟩, ?_⟩
        · cases r with
          | none =>
            intro T hT
            by_cases e : T = m
            · rw [e]; exact hb
            · exact g4 T (by omega)
          | some R =>
            refine ⟨by have := g4.1; omega, g4.2.1, fun U hU hUb => ?_⟩
            by_cases e : U = m
            · rw [e, hb] at hUb; cases hUb
            · exact g4.2.2 U (by omega) hUb
        · rw [if_pos (by decide)]
          unfold m_X12_more_B155
          rw [nI_1]
      | true =>
        refine ⟨(nI m, nI (m + 1), y), ⟨rfl, F2, e2, some m, ⟨by omega, hb, fun U hU hUb => ?_⟩, rfl⟩, ?_⟩
        · by_cases e : U = m
          · rw [e]; exact Nat.le_refl _
          · cases r with
            | none =>
              have := g4 U (by omega)
              rw [hUb] at this
              cases this
            | some R =>
              have a := g4.2.2 U (by omega) hUb
              have b := hlt R rfl
              omega
        · rw [if_neg (by decide)]
          unfold m_X12_more_B155
          rw [nI_1]
    -- one that would not is passed over
    have sk : ∀ R, r = some R → ¬ key m < key R → ∃ y : Int32 × Int32 × Hp, (y.2.1 = nI (m + 1) ∧ Fi (fun a => a = 93 ∨ a = 94 ∨ (102 ≤ a ∧ a ≤ 104)) z y.2.2 ∧ zI y.2.2 93 = W ∧ ∃ r, MnR Sh (m + 1) r ∧ y.1 = oN r) ∧ m_X12_more_B133 (m_X12_more_L78 m_X12_more_B161 f) 92 (nI k) (nI n) (oN r) (nI m) x = m_X12_more_L78 m_X12_more_B161 f 92 (nI k) (nI n) y.1 y.2.1 y.2.2 := by
      intro R hR hlt
      subst hR
      refine ⟨(oN (some R), nI (m + 1), x), ⟨rfl, g2, g3, some R, ⟨by have := g4.1; omega, g4.2.1, fun U hU hUb => ?_⟩, rfl⟩, ?_⟩
      · by_cases e : U = m
        · rw [e]; omega
        · exact g4.2.2 U (by omega) hUb
      · unfold m_X12_more_B133 m_X12_more_B134 m_X12_more_B155
        rw [if_pos rfl, nI_1]
    cases r with
    | none =>
      rw [if_pos (show oN none = -1 from rfl)]
      exact tr (fun T h => by cases h)
    | some R =>
      have hR64 : R < 64 := by have := g4.1; omega
      have hm64 : m < 64 := by omega
      have pm : pop m ≤ 6 := (q_r1 6 (by decide) m hm64 hm64).2.2
      have pR : pop R ≤ 6 := (q_r1 6 (by decide) R hR64 hR64).2.2
      have ql := q_lt m hm64 R hR64
      rw [if_neg (show ¬ oN (some R) = -1 from nI_ne_m1 (by omega)), ones_ok hm64, bnd_some, show oN (some R) = nI R from rfl, ones_ok hR64, bnd_some]
      by_cases c1 : pop m < pop R
      · rw [if_pos (nI_lt c1 (by omega))]
        exact tr (fun T h => by cases h; exact ql.mp (Or.inl c1))
      · rw [if_neg (nI_nlt (by omega) (by omega)), ones_ok hm64, bnd_some, ones_ok hR64, bnd_some]
        by_cases c2 : pop m = pop R
        · rw [if_pos (by rw [c2])]
          unfold m_X12_isAhead
          by_cases c3 : ((nI m &&& (nI m ^^^ nI R)) &&& (-(nI m ^^^ nI R))) = 0
          · rw [if_pos c3, bnd_some, if_pos rfl]
            exact sk R rfl (fun g => by
              rcases ql.mpr g with a | a
              · exact c1 a
              · exact a.2 c3)
          · rw [if_neg c3, bnd_some, if_neg (by decide)]
            exact tr (fun T h => by cases h; exact ql.mp (Or.inr ⟨c2, c3⟩))
        · rw [if_neg (fun g => c2 ((nI_eq (by omega) (by omega)).mp g))]
          exact sk R rfl (fun g => by
            rcases ql.mpr g with a | a
            · exact c1 a
            · exact c2 a.1)
  case he =>
    rintro f ⟨b, v, x⟩ ⟨g1, g2, g3, r, g4, g5⟩
    dsimp only at g1 g2 g3 g5 ⊢
    subst g1 g5
    have Mx := hM.fi g2
    have e111 : zI x 111 k = nI L := by rw [g2.2.2.2.2 111 (by omega)]; exact hl
    rw [m_X12_more_L78, gR_eq (by rw [mk_92 Mx]) (mr_92_36 Mx), aI_n (mk_111 Mx) hk (by decide), e111, q_sh L (by omega), if_neg (nI_nlt (Nat.le_refl _) (by omega))]
    unfold m_X12_more_B161
    cases r with
    | none =>
      rw [if_pos (show oN none = -1 from rfl)]
      exact ⟨none, x, rfl, g4, x, g2, g3, rfl⟩
    | some R =>
      have hR64 : R < 64 := by have := g4.1; omega
      rw [if_neg (show ¬ oN (some R) = -1 from nI_ne_m1 (by omega)), show oN (some R) = nI R from rfl, pI_eq (by rw [mk_92 Mx]), ones_ok hR64, bnd_some]
      exact ⟨some R, _, rfl, g4, x, g2, g3, rfl⟩
theorem op_more (a n : Int32) : Op (m_X11_more 0 a n) (m_X12_more 92 a n) := by
  intro z s d h
  have hS := in_S h; have hR := in_R h; have hO := in_ok h; have hM := in_M h; have hC := in_C h; have hN := in_now h
  have hs := in_lo h
  have hsd := in_sd h
  by_cases ha : ¬ a < 0 ∧ a < 4
  · obtain ⟨k, rfl, hk⟩ := ofN (n := 4) (by decide) ha.1 ha.2
    have sl : ∀ y, m_X12_isSlot (nI k) y = some (1, y) := fun y => by rw [isSlot_ok, if_pos ha]
    have ek := in_sl h k hk
    by_cases hv : ¬ n < 1 ∧ ¬ 30 < n
    · obtain ⟨m, rfl, hm⟩ : ∃ m, n = nI m ∧ m ≤ 30 := by
        refine rng (x := n) 30 (by decide) ⟨?_, Int32.not_lt.mp hv.2⟩
        have := hv.1
        rw [Int32.lt_iff_toInt_lt] at this
        rw [Int32.le_iff_toInt_le, toI_0]
        have : (1 : Int32).toInt = 1 := by decide
        omega
      have in1 : ∀ y, m_X12_in (nI m).toInt64 1 30 y = some (1, y) := fun y => by
        rw [in_lit _ 1 30 (by decide) (by decide), if_pos ⟨Int32.not_lt.mp hv.1, Int32.not_lt.mp hv.2⟩]
      have hc : ∀ R, m_X11_more 0 (nI k) (nI m) z = R ↔ (if 6 < zI z 111 k then some (-2, z) else if zI z 111 k = -1 then some (-6, z) else if zI z s 10 = 0 then some (-6, z) else if zI z (s + 8) 6 = 0 then some (-6, z) else bnd (m_X11_standForMore 0 (nI k) z) fun x15 z14 => if x15 = 0 then some (-7, z14) else isC 11 z14 0 <| bnd (m_X11_fewestMore 0 (nI k) (nI m) z14) fun x18 z17 => some (x18, z17)) = R := fun R => by
        unfold m_X11_more m_X11_more_B14 m_X6_lengthOf m_X6_hasRow
        rw [if_neg ha.1, if_pos ha.2, if_neg (by decide), if_neg hv.1, if_neg hv.2, gR_eq (by rw [ck_0 hC]) (cr_0_7 hC), isC_eq (by rw [ck_83 hC]), gR_eq (by rw [ck_83 hC]) (cr_83_2 hC), aI_n (ck_90 hC) hk (by decide), bnd_some, ek]
        by_cases c1 : 6 < zI z 111 k
        · rw [if_pos c1, if_pos c1]
        · rw [if_neg c1, if_neg c1, gR_eq (by rw [ck_0 hC]) (cr_0_7 hC), isC_eq (by rw [ck_83 hC]), gR_eq (by rw [ck_83 hC]) (cr_83_2 hC), aI_n (ck_90 hC) hk (by decide), ek]
          by_cases c2 : zI z 111 k = -1
          · rw [if_pos c2, bnd_some, if_pos rfl, if_pos c2]
          · rw [if_neg c2, bnd_some, if_neg (by decide), if_neg c2, gR_eq (by rw [ck_0 hC]) hN, gI_eq (by rw [sk_0 hS])]
            by_cases c3 : zI z s 10 = 0
            · rw [if_pos c3, if_pos c3]
            · rw [if_neg c3, if_neg c3, gR_eq (by rw [ck_0 hC]) hN, gR_eq (by rw [sk_0 hS]) (sr_0_1 hS), gI_eq (by rw [sk_8 hS])]
              by_cases c4 : zI z (s + 8) 6 = 0
              · rw [if_pos c4, if_pos c4]
              · rw [if_neg c4, if_neg c4, isC_eq (by rw [ck_0 hC])]
      have hm' : ∀ y R, LayM y → zI y 93 = zI z 93 → zI y 111 = zI z 111 → (m_X12_more 92 (nI k) (nI m) y = R ↔ (if 6 < zI z 111 k then some (-2, y) else if zI z 111 k = -1 then some (-6, y) else if ¬ zI z 93 7 = 1 then some (-6, y) else if zI z 93 2 = 0 then some (-6, y) else bnd (m_X12_mayTell 92 (nI k) y) fun x33 z32 => if x33 = 0 then some (-7, z32) else (m_X12_more_L78 m_X12_more_B161 FU) 92 (nI k) (nI m) (-1) 0 z32) = R) := fun y R My y93 y111 => by
        unfold m_X12_more
        rw [sl, bnd_some, if_neg (by decide), in1, bnd_some, if_neg (by decide), gR_eq (by rw [mk_92 My]) (mr_92_36 My), aI_n (mk_111 My) hk (by decide), y111]
        by_cases c1 : 6 < zI z 111 k
        · rw [if_pos c1, if_pos c1]
        · rw [if_neg c1, if_neg c1, gR_eq (by rw [mk_92 My]) (mr_92_36 My), aI_n (mk_111 My) hk (by decide), y111]
          by_cases c2 : zI z 111 k = -1
          · rw [if_pos c2, if_pos c2]
          · rw [if_neg c2, if_neg c2, isC_eq (by rw [mk_92 My]), hasShaft_ok My, bnd_some, y93]
            by_cases c3 : zI z 93 7 = 1
            · rw [decide_eq_true c3, if_neg (by decide), if_neg (fun g => g c3), gR_eq (by rw [mk_92 My]) (mr_92_1 My), show (2 : Int32) = nI 2 from rfl, aI_n (mk_93 My) (by decide) (by decide), y93]
              by_cases c4 : zI z 93 2 = 0
              · rw [if_pos c4, if_pos c4]
              · rw [if_neg c4, if_neg c4, isC_eq (by rw [mk_92 My])]
            · rw [decide_eq_false c3, if_pos (by decide), if_pos c3]
      by_cases c1 : 6 < zI z 111 k
      · exact ⟨-2, z, z, s, d, (hc _).mpr (by rw [if_pos c1]), by rw [mk_92 hM], (hm' z _ hM rfl rfl).mpr (by rw [if_pos c1]), h⟩
      · by_cases c2 : zI z 111 k = -1
        · exact ⟨-6, z, z, s, d, (hc _).mpr (by rw [if_neg c1, if_pos c2]), by rw [mk_92 hM], (hm' z _ hM rfl rfl).mpr (by rw [if_neg c1, if_pos c2]), h⟩
        · have c3i : zI z s 10 = 0 ↔ ¬ zI z 93 7 = 1 := by rw [rs_sc hR]; exact sc_iff hO
          by_cases c3 : ¬ zI z 93 7 = 1
          · exact ⟨-6, z, z, s, d, (hc _).mpr (by rw [if_neg c1, if_neg c2, if_pos (c3i.mpr c3)]), by rw [mk_92 hM], (hm' z _ hM rfl rfl).mpr (by rw [if_neg c1, if_neg c2, if_pos c3]), h⟩
          · have c3' : ¬ zI z s 10 = 0 := fun g => c3 (c3i.mp g)
            have epn := rs_pn hR
            by_cases c4 : zI z 93 2 = 0
            · exact ⟨-6, z, z, s, d, (hc _).mpr (by rw [if_neg c1, if_neg c2, if_neg c3', epn, if_pos c4]), by rw [mk_92 hM], (hm' z _ hM rfl rfl).mpr (by rw [if_neg c1, if_neg c2, if_neg c3, if_pos c4]), h⟩
            · obtain ⟨L, hL, eL⟩ : ∃ L, L ≤ 6 ∧ zI z 111 k = nI L := by
                rcases in_sn h k hk with g | g
                · exact absurd g c2
                · refine ⟨nn (zI z 111 k), ?_, g.1⟩
                  have gi := g.int (by decide)
                  rw [Int32.lt_iff_toInt_lt, show (6 : Int32).toInt = 6 by decide, gi] at c1
                  omega
              have hp1 : 1 ≤ nPW (zI z 93) := by
                by_cases q : nPW (zI z 93) = 0
                · exact absurd (by rw [np_eq hO, q]; rfl) c4
                · omega
              obtain ⟨nu, hnu⟩ : ∃ nu : Nat → Int64, nu = fun j => zL z 113 (60 * k + j) := ⟨_, rfl⟩
              have hnM : ∀ j, j < 60 → zL z 113 (60 * k + j) = nu j := fun j _ => by rw [hnu]
              have hnC : ∀ j, j < 60 → zL z (85 + k) j = nu j := fun j hj => by rw [in_nu h k j hk hj, hnM j hj]
              have tC := tellC_ok hC hS hR hN hO hk hL (by rw [ek, eL]) nu hnC
              cases ht : al (tlB (zI z 93) nu) L 0 with
              | false =>
                rw [ht] at tC
                have tM := tellM_ok hM hO hk hL eL nu hnM
                rw [ht] at tM
                exact ⟨-7, z, z, s, d, (hc _).mpr (by rw [if_neg c1, if_neg c2, if_neg c3', epn, if_neg c4, tC, bnd_some, if_pos (by decide)]), by rw [mk_92 hM], (hm' z _ hM rfl rfl).mpr (by rw [if_neg c1, if_neg c2, if_neg c3, if_neg c4, tM, bnd_some, if_pos (by decide)]), h⟩
              | true =>
                rw [ht] at tC
                obtain ⟨hG, hcs⟩ := tl_gd ht hO hp1 hL
                obtain ⟨r, y, e1, m1, x, F1, hy⟩ := fewC_ok h hk hG eL (fun i hi => by rw [hnM i (by omega)]; exact hcs i hi) hm
                have y1 : zI y 93 = zI z 93 ∧ zI y 111 = zI z 111 ∧ zK y = zK z ∧ zR y = zR z ∧ zN y = zN z ∧ zL y = zL z ∧ (∀ a, a ≠ 0 → ¬ ((d ≤ a ∧ a < d + 32) ∨ (70 ≤ a ∧ a ≤ 82)) → zI y a = zI z a) := by
                  cases r with
                  | none =>
                    have hy : y = x := hy
                    subst hy
                    exact ⟨F1.2.2.2.2 93 (by omega), F1.2.2.2.2 111 (by omega), F1.2.1, F1.2.2.2.1, F1.1, F1.2.2.1, fun a _ q => F1.2.2.2.2 a q⟩
                  | some T =>
                    have hy : y = wI x 0 (ups (zI x 0) 10 (nI T)) := hy
                    subst hy
                    exact ⟨by rw [zI_ne (by decide)]; exact F1.2.2.2.2 93 (by omega), by rw [zI_ne (by decide)]; exact F1.2.2.2.2 111 (by omega), F1.2.1, F1.2.2.2.1, F1.1, F1.2.2.1, fun a q0 q => by rw [zI_ne q0]; exact F1.2.2.2.2 a q⟩
                have y0 : zI y 0 = upO (zI z 0) 10 r := by
                  cases r with
                  | none =>
                    rw [hy]; exact F1.2.2.2.2 0 (by omega)
                  | some T =>
                    rw [hy, show wIO x 0 10 (some T) = wI x 0 (ups (zI x 0) 10 (nI T)) from rfl, zI_eq, F1.2.2.2.2 0 (by omega)]
                    rfl
                obtain ⟨y93, y111, yK, yR, yN, yL, yO⟩ := y1
                have My : LayM y := hM.of yK yR
                have tM := tellM_ok My (q := 12) (by rw [y93]; exact hO) hk hL (by rw [y111]; exact eL) nu (fun j hj => by rw [yL]; exact hnM j hj)
                rw [y93, ht] at tM
                obtain ⟨r2, u, e2, m2, x2, F2, x293, hu⟩ := moreM_ok My (by rw [y93]; exact hO) hk (cs := fun i => cN (nu i)) (L := L) (by rw [y93]; exact hG) (by rw [y111]; exact eL) (fun i hi => by rw [yL, hnM i (by omega)]; exact hcs i hi) hm
                rw [y93] at m2 x293
                have er := m2.uniq (two_le hL) m1
                subst er
                refine ⟨pcO r2, y, u, s, d, (hc _).mpr (by rw [if_neg c1, if_neg c2, if_neg c3', epn, if_neg c4, tC, bnd_some, if_neg (by decide), isC_eq (by rw [ck_0 hC]), e1, bnd_some]), by rw [mk_92 My], (hm' y _ My y93 y111).mpr (by rw [if_neg c1, if_neg c2, if_neg c3, if_neg c4, tM, bnd_some, if_neg (by decide), e2]), ?_⟩
                have u1 : zI u 93 = zI z 93 ∧ zK u = zK z ∧ zR u = zR z ∧ zN u = zN z ∧ zL u = zL z ∧ (∀ a, a ≠ 0 → a ≠ 92 → ¬ ((d ≤ a ∧ a < d + 32) ∨ (70 ≤ a ∧ a ≤ 82) ∨ (93 ≤ a ∧ a ≤ 94) ∨ (102 ≤ a ∧ a ≤ 104)) → zI u a = zI z a) ∧ zI u 0 = zI y 0 ∧ zI u 92 = upO (zI z 92) 35 r2 := by
                  cases r2 with
                  | none =>
                    have hu : u = x2 := hu
                    subst hu
                    exact ⟨x293, by rw [F2.2.1, yK], by rw [F2.2.2.2.1, yR], by rw [F2.1, yN], by rw [F2.2.2.1, yL], fun a q0 _ q => by rw [F2.2.2.2.2 a (by omega)]; exact yO a q0 (by omega), F2.2.2.2.2 0 (by omega), by rw [F2.2.2.2.2 92 (by omega)]; exact yO 92 (by omega) (by omega)⟩
                  | some T =>
                    have hu : u = wI x2 92 (ups (zI x2 92) 35 (nI T)) := hu
                    subst hu
                    refine ⟨by rw [zI_ne (by decide)]; exact x293, by rw [zK_wI, F2.2.1, yK], by rw [zR_wI, F2.2.2.2.1, yR], by rw [zN_wI, F2.1, yN], by rw [zL_wI, F2.2.2.1, yL], fun a q0 q2 q => by rw [zI_ne q2, F2.2.2.2.2 a (by omega)]; exact yO a q0 (by omega), by rw [zI_ne (by decide)]; exact F2.2.2.2.2 0 (by omega), ?_⟩
                    rw [zI_eq, F2.2.2.2.2 92 (by omega), yO 92 (by omega) (by omega)]
                    rfl
                obtain ⟨u93, uK, uR, uN, uL, uO, u0, u92⟩ := u1
                rw [y0] at u0
                refine In.re h uK uR uN ?_ ?_ ?_ ?_ ?_ ?_ ?_
                · rw [u93]; exact hR.of (fun a h1 h2 => uO a (by omega) (by omega) (by omega))
                · rw [u93]; exact hO
                · rw [u93]; exact in_tk h
                · exact fun k q => (in_im h k q).of uK uR uN (fun a ha => uO a (by omega) (by omega) (by omega)) (uO 95 (by omega) (by omega) (by omega)) (uO 96 (by omega) (by omega) (by omega))
                · refine (in_Tp h).of ?_ (by rw [uO 66 (by omega) (by omega) (by omega)]) (uO 67 (by omega) (by omega) (by omega)) (uO 97 (by omega) (by omega) (by omega))
                  rw [u92]
                  cases r2 with
                  | none => rfl
                  | some T => exact up_ne (by decide)
                · have f := in_Fd h
                  unfold FdP at f ⊢
                  rw [u0, u92, uO 91 (by omega) (by omega) (by omega), uO 110 (by omega) (by omega) (by omega)]
                  cases r2 with
                  | none => exact f
                  | some T =>
                    show ups (zI z 0) 10 (nI T) 11 = ups (zI z 92) 35 (nI T) 13 ∧ ups (zI z 0) 10 (nI T) 12 = ups (zI z 92) 35 (nI T) 14 ∧ ups (zI z 0) 10 (nI T) 9 = ups (zI z 92) 35 (nI T) 34 ∧ isN (ups (zI z 92) 35 (nI T) 34) 145 ∧ (∀ i, i < nn (ups (zI z 92) 35 (nI T) 34) → zI z 91 i = zI z 110 i) ∧ ups (zI z 0) 10 (nI T) 10 = ups (zI z 92) 35 (nI T) 35
                    rw [up_ne (show 11 ≠ 10 by decide), up_ne (show 12 ≠ 10 by decide), up_ne (show 9 ≠ 10 by decide), up_ne (show 13 ≠ 35 by decide), up_ne (show 14 ≠ 35 by decide), up_ne (show 34 ≠ 35 by decide), up_eq, up_eq]
                    exact ⟨f.1, f.2.1, f.2.2.1, f.2.2.2.1, f.2.2.2.2.1, rfl⟩
                · exact (in_Sl h).of (uO 111 (by omega) (by omega) (by omega)) (uO 90 (by omega) (by omega) (by omega)) (uO 112 (by omega) (by omega) (by omega)) (uO 89 (by omega) (by omega) (by omega)) uL
    · have n1 : ¬ ((1 : Int32) ≤ n ∧ n ≤ 30) := fun g => hv ⟨Int32.not_lt.mpr g.1, Int32.not_lt.mpr g.2⟩
      have in0 : m_X12_in n.toInt64 1 30 z = some (0, z) := by
        rw [in_lit _ 1 30 (by decide) (by decide), if_neg n1]
      refine ⟨-2, z, z, s, d, ?_, by rw [mk_92 hM], ?_, h⟩
      · unfold m_X11_more m_X11_more_B14
        rw [if_neg ha.1, if_pos ha.2, if_neg (by decide)]
        by_cases c1 : n < 1
        · rw [if_pos c1]
        · have c2 : 30 < n := by
            by_cases c3 : 30 < n
            · exact c3
            · exact absurd ⟨c1, c3⟩ hv
          rw [if_neg c1, if_pos c2]
      · unfold m_X12_more
        rw [sl, bnd_some, if_neg (by decide), in0, bnd_some, if_pos rfl]
  · refine ⟨-2, z, z, s, d, ?_, by rw [mk_92 hM], ?_, h⟩
    · unfold m_X11_more m_X11_more_B13 m_X11_more_B14
      by_cases c1 : a < 0
      · rw [if_pos c1, if_pos rfl]
      · rw [if_neg c1, if_neg (fun g => ha ⟨c1, g⟩), if_pos rfl]
    · unfold m_X12_more
      rw [isSlot_ok, if_neg ha, bnd_some, if_pos rfl]
