/-! ===== streams, and the first half of the model's tick ===== -/
theorem streams_ok {z : Hp} {W : Nat → Int32} {q c : Nat} (hM : LayM z) (hA : AgW (zI z 93) W) (hO : OkW W q) (hc : c < 144) :
    ∃ y, m_X12_streams 92 (nI c) z = some ((), y) ∧ Gr z y c 16 (stW W c) (stW W c) := by
  have esp : zI z 93 (36 + c / 12) = W (36 + c / 12) := hA _ (by omega)
  have ew : zI z 93 (192 + c) = W (192 + c) := hA _ (by omega)
  have e5 : zI z 93 5 = W 5 := hA _ (by omega)
  unfold m_X12_streams
  rw [gR_eq (by rw [mk_92 hM]) (mr_92_1 hM), div12 (by omega), show (36 : Int32) = nI 36 from rfl, nI_add, aI_n (mk_93 hM) (by omega) (by decide), esp]
  by_cases h1 : W (36 + c / 12) = 0
  · rw [if_pos h1]
    refine ⟨z, rfl, ?_⟩
    have : stW W c = 0 := by unfold stW; rw [if_pos h1]
    rw [this]
    exact Gr.z
  · rw [if_neg h1, isC_eq (by rw [mk_92 hM]), frozenA hM hA hO hc, bnd_some]
    cases h2 : frW W c with
    | true =>
      rw [if_neg (by decide)]
      refine ⟨z, rfl, ?_⟩
      have : stW W c = 0 := by unfold stW; rw [if_neg h1, if_pos h2]
      rw [this]
      exact Gr.z
    | false =>
      have h2' : ¬ frW W c = true := by rw [h2]; decide
      -- what is left when the stream comes from t
      have go : ∀ t : Int32, stW W c = ((t - W (192 + c)) * W (36 + c / 12)) / 100 → ∃ y, m_X12_streams_B78 92 (nI c) (W (36 + c / 12)) t z = some ((), y) ∧ Gr z y c 16 (stW W c) (stW W c) := by
        intro t ht
        obtain ⟨x1, hx1⟩ : ∃ y, y = wI z 102 (ups (zI z 102) c (zI z 102 c + stW W c)) := ⟨_, rfl⟩
        obtain ⟨x2, hx2⟩ : ∃ y, y = wI x1 93 (ups (zI z 93) 16 (zI z 93 16 + stW W c)) := ⟨_, rfl⟩
        have M1 : LayM x1 := hM.of (by rw [hx1]; rfl) (by rw [hx1]; rfl)
        have x93 : zI x1 93 = zI z 93 := by rw [hx1, zI_ne (by decide)]
        refine ⟨x2, ?_, ?_, ?_, fun d hd => ?_, ?_, fun j hj => ?_⟩
        · unfold m_X12_streams_B78
          rw [gR_eq (by rw [mk_92 hM]) (mr_92_1 hM), show (192 : Int32) = nI 192 from rfl, nI_add, aI_n (mk_93 hM) (by omega) (by decide), ew, gR_eq (by rw [mk_92 hM]) (mr_92_24 hM), aI_n (mk_102 hM) hc (by decide), sI_n (mk_102 hM) hc (by decide), ← ht, ← hx1]
          rw [gR_eq (by rw [mk_92 M1]) (mr_92_1 M1), show (16 : Int32) = nI 16 from rfl, aI_n (mk_93 M1) (by decide) (by decide), sI_n (mk_93 M1) (by decide) (by decide), x93, ← hx2]
        · rw [hx2, hx1]
          exact (Fi.w (Or.inl rfl)).trans (Fi.w (Or.inr rfl))
        · rw [hx2, zI_ne (by decide), hx1, zI_eq, up_eq]
        · rw [hx2, zI_ne (by decide), hx1, zI_eq, up_ne hd]
        · rw [hx2, zI_eq, up_eq]
        · rw [hx2, zI_eq, up_ne hj]
      have eb : m_X12_beside (nI c) 1 z = some (oN (bsM c 1), z) := besideM_ok hc (w := 1) (by decide) z
      rw [if_pos (by decide), eb, bnd_some]
      by_cases h3 : c % 12 = 0
      · have hb : bsM c 1 = none := by unfold bsM; simp [h3]
        rw [hb, if_pos (show oN none = -1 from rfl)]
        unfold m_X12_streams_B54
        rw [if_pos (show oN none = -1 from rfl), gR_eq (by rw [mk_92 hM]) (mr_92_1 hM), show (5 : Int32) = nI 5 from rfl, aI_n (mk_93 hM) (by decide) (by decide), e5]
        exact go (W 5) (by unfold stW; rw [if_neg h1, if_neg h2', if_pos h3])
      · have hb : bsM c 1 = some (c - 1) := by unfold bsM; simp [show 0 < c % 12 by omega]
        have hc1 : c - 1 < 144 := by omega
        have el : zI z 93 (192 + (c - 1)) = W (192 + (c - 1)) := hA _ (by omega)
        rw [hb, if_neg (show ¬ oN (some (c - 1)) = -1 from nI_ne_m1 (by omega)), show oN (some (c - 1)) = nI (c - 1) from rfl, isC_eq (by rw [mk_92 hM]), frozenA hM hA hO hc1, bnd_some]
        cases h4 : frW W (c - 1) with
        | true =>
          rw [if_neg (by decide)]
          refine ⟨z, rfl, ?_⟩
          have : stW W c = 0 := by unfold stW; rw [if_neg h1, if_neg h2', if_neg h3, if_pos (Or.inl h4)]
          rw [this]
          exact Gr.z
        | false =>
          rw [if_pos (by decide), isC_eq (by rw [mk_92 hM]), dugA hM hA hc1, bnd_some]
          rcases ok_dug hO (c - 1) hc1 with g | g
          · rw [g, if_pos (by decide)]
            unfold m_X12_streams_B54
            rw [if_neg (nI_ne_m1 (by omega)), gR_eq (by rw [mk_92 hM]) (mr_92_1 hM), show (192 : Int32) = nI 192 from rfl, nI_add, aI_n (mk_93 hM) (by omega) (by decide), el]
            refine go (W (192 + (c - 1))) ?_
            unfold stW
            rw [if_neg h1, if_neg h2', if_neg h3, if_neg (fun e => ?_)]
            rcases e with e | e
            · rw [h4] at e; cases e
            · rw [g] at e; exact absurd e (by decide)
          · rw [g, if_neg (by decide)]
            refine ⟨z, rfl, ?_⟩
            have : stW W c = 0 := by unfold stW; rw [if_neg h1, if_neg h2', if_neg h3, if_pos (Or.inr g)]
            rw [this]
            exact Gr.z
/-- heat that comes from all sides and by streams; what comes over the rim, by streams -/
def h1W (W : Nat → Int32) (c : Nat) : Int32 := if W (480 + c) = 1 then 0 else sm (sdW W c) 4 + stW W c
def rcW (W : Nat → Int32) (c : Nat) : Int32 := if W (480 + c) = 1 then 0 else sm (r4W W c) 4
def scS (W : Nat → Int32) (c : Nat) : Int32 := if W (480 + c) = 1 then 0 else stW W c
/-- the model's world behind the first half -/
def V1 (W : Nat → Int32) (n i : Nat) : Int32 := if i = 15 then W 15 + sm (rcW W) n else if i = 16 then W 16 + sm (scS W) n else W i
theorem half1_ok {z : Hp} {q : Nat} (K : Nat → Hp → Option (Unit × Hp)) (hM : LayM z) (hO : OkW (zI z 93) q) :
    ∃ y, m_X12_ticks_L24 K FU 92 0 (wI z 102 (fun i => if i < 144 then 0 else zI z 102 i)) = K 92 y ∧ Fi (fun k => k = 102 ∨ k = 93) z y ∧ (∀ c, c < 144 → zI y 102 c = h1W (zI z 93) c) ∧ zI y 93 = V1 (zI z 93) 144 := by
  obtain ⟨W, hW⟩ : ∃ W, W = zI z 93 := ⟨_, rfl⟩
  rw [← hW] at hO ⊢
  refine loopQ (X := Int32 × Hp) (fun f x => m_X12_ticks_L24 K f 92 x.1 x.2) (fun t => ∃ y, t = K 92 y ∧ Fi (fun k => k = 102 ∨ k = 93) z y ∧ (∀ c, c < 144 → zI y 102 c = h1W W c) ∧ zI y 93 = V1 W 144) (fun n x => x.1 = nI n ∧ Fi (fun k => k = 102 ∨ k = 93) z x.2 ∧ (∀ c, c < 144 → zI x.2 102 c = if c < n then h1W W c else 0) ∧ zI x.2 93 = V1 W n) 144 ?hs ?he 0 FU (0, wI z 102 (fun i => if i < 144 then 0 else zI z 102 i)) (by decide) (by decide) ⟨rfl, Fi.w (Or.inl rfl), ?h0, ?h1⟩
  case h0 =>
    intro c hc
    dsimp only
    rw [zI_eq, if_pos hc, if_neg (by omega)]
  case h1 =>
    dsimp only
    rw [zI_ne (by decide), ← hW]
    funext i
    unfold V1
    by_cases c : i = 15
    · rw [if_pos c, c]; exact (Int32.add_zero _).symm
    · rw [if_neg c]
      by_cases c2 : i = 16
      · rw [if_pos c2, c2]; exact (Int32.add_zero _).symm
      · rw [if_neg c2]
  case hs =>
    rintro n f ⟨v, x⟩ hn ⟨h1, h2, h3, h4⟩
    dsimp only at h1 h2 h3 h4
    subst h1
    have Mx := hM.fi h2
    have Ax : AgW (zI x 93) W := fun i hi => by rw [h4]; unfold V1; rw [if_neg (by omega), if_neg (by omega)]
    left
    dsimp only
    rw [m_X12_ticks_L24, if_pos (lt_lit hn (by decide)), isC_eq (by rw [mk_92 Mx]), dugA Mx Ax hn, bnd_some]
    rcases ok_dug hO n hn with g | g
    · rw [g, if_pos (by decide), isC_eq (by rw [mk_92 Mx])]
      obtain ⟨x1, e1, g1⟩ := comes_ok Mx Ax hO hn g
      have M1 := Mx.fi g1.1
      have A1 := g1.ag (by omega) Ax
      obtain ⟨x2, e2, g2⟩ := streams_ok M1 A1 hO hn
      rw [e1, bnd_some, isC_eq (by rw [mk_92 M1]), e2, bnd_some]
      have gn : ¬ W (480 + n) = 1 := by rw [g]; decide
      refine ⟨(nI (n + 1), x2), ⟨rfl, (h2.trans g1.1).trans g2.1, fun c hc => ?_, ?_⟩, by unfold m_X12_ticks_B52; rw [nI_1]⟩
      · dsimp only
        by_cases e : c = n
        · subst e
          rw [g2.2.1, g1.2.1, h3 c hc, if_neg (by omega), if_pos (by omega), Int32.zero_add]
          unfold h1W
          rw [if_neg gn]
        · rw [g2.2.2.1 c e, g1.2.2.1 c e, h3 c hc]
          by_cases e2 : c < n
          · rw [if_pos e2, if_pos (by omega)]
          · rw [if_neg e2, if_neg (by omega)]
      · dsimp only
        have q1 : rcW W n = sm (r4W W n) 4 := by unfold rcW; rw [if_neg gn]
        have q2 : scS W n = stW W n := by unfold scS; rw [if_neg gn]
        funext i
        unfold V1
        by_cases c : i = 15
        · subst c
          rw [if_pos rfl, g2.2.2.2.2 15 (by decide), g1.2.2.2.1, h4]
          unfold V1
          rw [if_pos rfl, Int32.add_assoc, ← q1]
          rfl
        · rw [if_neg c]
          by_cases c2 : i = 16
          · subst c2
            rw [if_pos rfl, g2.2.2.2.1, g1.2.2.2.2 16 (by decide), h4]
            unfold V1
            rw [if_neg (by decide), if_pos rfl, Int32.add_assoc, ← q2]
            rfl
          · rw [if_neg c2, g2.2.2.2.2 i c2, g1.2.2.2.2 i c, h4]
            unfold V1
            rw [if_neg c, if_neg c2]
    · rw [g, if_neg (by decide)]
      refine ⟨(nI (n + 1), x), ⟨rfl, h2, fun c hc => ?_, ?_⟩, by unfold m_X12_ticks_B52; rw [nI_1]⟩
      · dsimp only
        rw [h3 c hc]
        by_cases e : c = n
        · subst e
          rw [if_neg (by omega), if_pos (by omega)]
          unfold h1W
          rw [if_pos g]
        · by_cases e2 : c < n
          · rw [if_pos e2, if_pos (by omega)]
          · rw [if_neg e2, if_neg (by omega)]
      · dsimp only
        rw [h4]
        have q1 : rcW W n = 0 := by unfold rcW; rw [if_pos g]
        have q2 : scS W n = 0 := by unfold scS; rw [if_pos g]
        funext i
        unfold V1
        have s1 : sm (rcW W) (n + 1) = sm (rcW W) n := by
          show sm (rcW W) n + rcW W n = _
          rw [q1, Int32.add_zero]
        have s2 : sm (scS W) (n + 1) = sm (scS W) n := by
          show sm (scS W) n + scS W n = _
          rw [q2, Int32.add_zero]
        rw [s1, s2]
  case he =>
    rintro f ⟨v, x⟩ ⟨h1, h2, h3, h4⟩
    dsimp only at h1 h2 h3 h4 ⊢
    subst h1
    rw [m_X12_ticks_L24, if_neg (nlt_lit (Nat.le_refl _) (by decide))]
    exact ⟨x, rfl, h2, fun c hc => by rw [h3 c hc, if_pos hc], h4⟩
