/-! ===== Walls.look ===== -/
def kdB (W : Nat → Int32) (c : Nat) : Nat := if shW W c = true then 2 else if frW W c = true then 1 else 0
theorem kdB_lt (W : Nat → Int32) (c : Nat) : kdB W c ≤ 2 := by
  unfold kdB
  split
  · omega
  · split <;> omega
theorem kdB_2 {W : Nat → Int32} {c : Nat} : kdB W c = 2 ↔ shW W c = true := by
  unfold kdB
  by_cases h : shW W c = true
  · simp [h]
  · by_cases g : frW W c = true <;> simp [h, g]
theorem kdB_0 {W : Nat → Int32} {c : Nat} : kdB W c = 0 ↔ wtW W none (some 1) c = some 1 := by
  unfold kdB wtW
  by_cases h : shW W c = true
  · simp [h]
  · by_cases g : frW W c = true <;> simp [h, g]
/-- what the first n cells of the shaft, and k sides of the next, have marked -/
def AtP (W : Nat → Int32) (n k o : Nat) : Prop := shW W o = false ∧ ∃ c d, (c < n ∧ d < 4 ∨ c = n ∧ d < k) ∧ shW W c = true ∧ bsC c d = some o
def LkI (W : Nat → Int32) (z y : Hp) (n k : Nat) : Prop := Fi (fun a => a = 75 ∨ a = 76) z y ∧ (∀ c, c < 144 → zI y 75 c = nI (kdB W c)) ∧ ∀ o, o < 144 → (zI y 76 o = 1 ∧ AtP W n k o) ∨ (zI y 76 o = 0 ∧ ¬ AtP W n k o)
theorem look_in {z y : Hp} {s n q : Nat} {W : Nat → Int32} (K : Nat → Nat → Int32 → Hp → Option (Unit × Hp)) (hC : LayC z) (hS : LayS z s) (hR : RelS z s W) (hO : OkW W q) (hs : s + 32 ≤ 70 ∨ 115 ≤ s) (hn : n < 144) (h : LkI W z y n 0) :
    ∃ y2, LkI W z y2 (n + 1) 0 ∧ m_X10_look_L71 K FU 74 s (nI n) 0 y = K 74 s (nI n) y2 := by
  refine loopQ (X := Int32 × Hp) (fun f x => m_X10_look_L71 K f 74 s (nI n) x.1 x.2) (fun t => ∃ y2, LkI W z y2 (n + 1) 0 ∧ t = K 74 s (nI n) y2) (fun k x => x.1 = nI k ∧ LkI W z x.2 n k) 4 ?hs ?he 0 FU (0, y) (by decide) (by decide) ⟨rfl, h⟩
  case hs =>
    rintro k f ⟨v, x⟩ hk ⟨h1, h2, h3, h4⟩
    dsimp only at h1 h2 h3 h4
    subst h1
    dsimp only
    have hCx := hC.fi h2
    have hSx := hS.fi h2
    have e30 : ∀ o, o < 144 → zI x (s + 30) o = bI (shW W o) := fun o ho => by
      rw [h2.2.2.2.2 (s + 30) (by omega)]
      exact rs_shaft hR o ho
    rw [m_X10_look_L71, if_pos (lt_lit hk (by decide)), gR_eq (by rw [ck_74 hCx]) (cr_74_0 hCx), aI_n (ck_75 hCx) hn (by decide), h3 n hn]
    by_cases h5 : kdB W n = 2
    · rw [h5, if_pos (show nI 2 = 2 from rfl), besideC_ok hn hk, bnd_some]
      have hsh := kdB_2.mp h5
      left
      -- side k marks nothing
      have skip : (∀ o, bsC n k = some o → shW W o = true) → ∃ x2 : Int32 × Hp, (x2.1 = nI (k + 1) ∧ LkI W z x2.2 n (k + 1)) ∧ m_X10_look_B117 (m_X10_look_L71 K f) 74 s (nI n) (nI k) x = m_X10_look_L71 K f 74 s (nI n) x2.1 x2.2 := by
        intro hq
        refine ⟨(nI (k + 1), x), ⟨rfl, h2, h3, fun o ho => ?_⟩, by unfold m_X10_look_B117; rw [nI_1]⟩
        have e : AtP W n (k + 1) o ↔ AtP W n k o := by
          unfold AtP
          constructor
          · rintro ⟨a1, c, d, a2, a3, a4⟩
            refine ⟨a1, c, d, ?_, a3, a4⟩
            rcases a2 with a2 | ⟨rfl, a2⟩
            · exact Or.inl a2
            · by_cases e : d = k
              · subst e
                rw [hq o a4] at a1
                cases a1
              · exact Or.inr ⟨rfl, by omega⟩
          · rintro ⟨a1, c, d, a2, a3, a4⟩
            refine ⟨a1, c, d, ?_, a3, a4⟩
            rcases a2 with a2 | ⟨rfl, a2⟩
            · exact Or.inl a2
            · exact Or.inr ⟨rfl, by omega⟩
        rw [e]
        exact h4 o ho
      cases hd : bsC n k with
      | none =>
        rw [if_pos (show oN none = -1 from rfl)]
        exact skip (fun o e => by rw [hd] at e; cases e)
      | some o =>
        have ho := (bsC_nb hn hk hd).2
        rw [if_neg (show ¬ oN (some o) = -1 from nI_ne_m1 (by omega)), gR_eq (by rw [sk_0 hSx]) (sr_0_8 hSx), show oN (some o) = nI o from rfl, aI_n (sk_30 hSx) ho (by decide), e30 o ho]
        cases hso : shW W o with
        | true =>
          rw [if_neg (by decide)]
          exact skip (fun o' e => by rw [hd] at e; cases e; exact hso)
        | false =>
          rw [if_pos (by decide), gR_eq (by rw [ck_74 hCx]) (cr_74_1 hCx), sI_n (ck_76 hCx) ho (by decide)]
          refine ⟨(nI (k + 1), wI x 76 (ups (zI x 76) o 1)), ⟨rfl, h2.trans (Fi.w (Or.inr rfl)), fun c hc => ?_, fun p hp => ?_⟩, by unfold m_X10_look_B117; rw [nI_1]⟩
          · dsimp only
            rw [zI_ne (by decide)]
            exact h3 c hc
          · dsimp only
            rw [zI_eq]
            by_cases e : p = o
            · subst e
              left
              exact ⟨up_eq, hso, n, k, Or.inr ⟨rfl, by omega⟩, hsh, hd⟩
            · rw [up_ne e]
              have e2 : AtP W n (k + 1) p ↔ AtP W n k p := by
                unfold AtP
                constructor
                · rintro ⟨a1, c, d, a2, a3, a4⟩
                  refine ⟨a1, c, d, ?_, a3, a4⟩
                  rcases a2 with a2 | ⟨rfl, a2⟩
                  · exact Or.inl a2
                  · by_cases e3 : d = k
                    · subst e3
                      rw [hd] at a4
                      cases a4
                      exact absurd rfl e
                    · exact Or.inr ⟨rfl, by omega⟩
                · rintro ⟨a1, c, d, a2, a3, a4⟩
                  refine ⟨a1, c, d, ?_, a3, a4⟩
                  rcases a2 with a2 | ⟨rfl, a2⟩
                  · exact Or.inl a2
                  · exact Or.inr ⟨rfl, by omega⟩
              rw [e2]
              exact h4 p hp
    · right
      have e : ¬ nI (kdB W n) = 2 := fun e => h5 ((nI_eq (by have := kdB_lt W n; omega) (by decide)).mp e)
      rw [if_neg e]
      refine ⟨x, ⟨h2, h3, fun o ho => ?_⟩, rfl⟩
      have e2 : AtP W (n + 1) 0 o ↔ AtP W n k o := by
        have hns : ¬ shW W n = true := fun q => h5 (kdB_2.mpr q)
        unfold AtP
        constructor
        · rintro ⟨a1, c, d, a2, a3, a4⟩
          refine ⟨a1, c, d, ?_, a3, a4⟩
          rcases a2 with ⟨a2, a5⟩ | ⟨rfl, a2⟩
          · by_cases e3 : c = n
            · subst e3; exact absurd a3 hns
            · exact Or.inl ⟨by omega, a5⟩
          · omega
        · rintro ⟨a1, c, d, a2, a3, a4⟩
          refine ⟨a1, c, d, ?_, a3, a4⟩
          rcases a2 with ⟨a2, a5⟩ | ⟨rfl, a2⟩
          · exact Or.inl ⟨by omega, a5⟩
          · exact absurd a3 hns
      rw [e2]
      exact h4 o ho
  case he =>
    rintro f ⟨v, x⟩ ⟨h1, h2, h3, h4⟩
    dsimp only at h1 h2 h3 h4 ⊢
    subst h1
    rw [m_X10_look_L71, if_neg (nlt_lit (Nat.le_refl _) (by decide))]
    refine ⟨x, ⟨h2, h3, fun o ho => ?_⟩, rfl⟩
    have e : AtP W (n + 1) 0 o ↔ AtP W n 4 o := by
      unfold AtP
      constructor
      · rintro ⟨a1, c, d, a2, a3, a4⟩
        refine ⟨a1, c, d, ?_, a3, a4⟩
        rcases a2 with ⟨a2, a5⟩ | ⟨rfl, a2⟩
        · by_cases e3 : c = n
          · exact Or.inr ⟨e3, a5⟩
          · exact Or.inl ⟨by omega, a5⟩
        · omega
      · rintro ⟨a1, c, d, a2, a3, a4⟩
        refine ⟨a1, c, d, ?_, a3, a4⟩
        rcases a2 with ⟨a2, a5⟩ | ⟨rfl, a2⟩
        · exact Or.inl ⟨by omega, a5⟩
        · exact Or.inl ⟨by omega, a2⟩
    rw [e]
    exact h4 o ho
theorem AtP_end {W : Nat → Int32} {o : Nat} (ho : o < 144) : AtP W 144 0 o ↔ stB W o = true := by
  rw [stB_iff ho]
  unfold AtP
  constructor
  · rintro ⟨a1, c, d, a2, a3, a4⟩
    rcases a2 with ⟨a2, a5⟩ | ⟨_, a2⟩
    · exact ⟨a1, c, a2, (bsC_nb a2 a5 a4).1.symm, a3⟩
    · omega
  · rintro ⟨a1, c, a2, a3, a4⟩
    obtain ⟨w, h1, h2⟩ := nb_bsC a2 ho a3.symm
    exact ⟨a1, c, w, Or.inl ⟨a2, h1⟩, a4, h2⟩
theorem look_ok {z : Hp} {s q : Nat} {W : Nat → Int32} (hC : LayC z) (hS : LayS z s) (hR : RelS z s W) (hO : OkW W q) (hs : s + 32 ≤ 70 ∨ 115 ≤ s) :
    ∃ y, m_X10_look 74 s z = some ((), y) ∧ Fi (fun a => a = 75 ∨ a = 76) z y ∧ (∀ c, c < 144 → zI y 75 c = nI (kdB W c)) ∧ ∀ c, c < 144 → zI y 76 c = bI (stB W c) := by
  unfold m_X10_look
  refine loopQ (X := Int32 × Hp) (fun f x => m_X10_look_L2 m_X10_look_B60 f 74 s x.1 x.2) (fun t => ∃ y, t = some ((), y) ∧ Fi (fun a => a = 75 ∨ a = 76) z y ∧ (∀ c, c < 144 → zI y 75 c = nI (kdB W c)) ∧ ∀ c, c < 144 → zI y 76 c = bI (stB W c)) (fun n x => x.1 = nI n ∧ Fi (fun a => a = 75 ∨ a = 76) z x.2 ∧ (∀ c, c < n → zI x.2 75 c = nI (kdB W c)) ∧ ∀ c, c < n → zI x.2 76 c = 0) 144 ?hs ?he 0 FU (0, z) (by decide) (by decide) ⟨rfl, Fi.rfl', fun c hc => absurd hc (by omega), fun c hc => absurd hc (by omega)⟩
  case hs =>
    rintro n f ⟨v, x⟩ hn ⟨h1, h2, h3, h4⟩
    dsimp only at h1 h2 h3 h4
    subst h1
    dsimp only
    have hCx := hC.fi h2
    have hSx := hS.fi h2
    have hRx : RelS x s W := hR.of (fun a g1 g2 => h2.2.2.2.2 a (by omega))
    have fin : ∀ v : Int32, v = nI (kdB W n) → ∃ y : Int32 × Hp, (y.1 = nI (n + 1) ∧ Fi (fun a => a = 75 ∨ a = 76) z y.2 ∧ (∀ c, c < n + 1 → zI y.2 75 c = nI (kdB W c)) ∧ ∀ c, c < n + 1 → zI y.2 76 c = 0) ∧ m_X10_look_B47 (m_X10_look_L2 m_X10_look_B60 f) 74 s (nI n) (wI x 75 (ups (zI x 75) n v)) = m_X10_look_L2 m_X10_look_B60 f 74 s y.1 y.2 := by
      intro v hv
      refine ⟨(nI (n + 1), wI (wI x 75 (ups (zI x 75) n v)) 76 (ups (zI x 76) n 0)), ⟨rfl, (h2.trans (Fi.w (Or.inl rfl))).trans (Fi.w (Or.inr rfl)), fun c hc => ?_, fun c hc => ?_⟩, ?_⟩
      · dsimp only
        rw [zI_ne (by decide), zI_eq]
        by_cases e : c = n
        · rw [e, up_eq, hv]
        · rw [up_ne e]; exact h3 c (by omega)
      · dsimp only
        rw [zI_eq]
        by_cases e : c = n
        · rw [e, up_eq]
        · rw [up_ne e]; exact h4 c (by omega)
      · unfold m_X10_look_B47
        have hCy : LayC (wI x 75 (ups (zI x 75) n v)) := hCx.of rfl rfl
        rw [gR_eq (by rw [ck_74 hCy]) (cr_74_1 hCy), sI_n (ck_76 hCy) hn (by decide), zI_ne (by decide), nI_1]
    left
    rw [m_X10_look_L2, if_pos (lt_lit hn (by decide)), gR_eq (by rw [sk_0 hSx]) (sr_0_8 hSx), aI_n (sk_30 hSx) hn (by decide), rs_shaft hRx n hn]
    cases hsh : shW W n with
    | false =>
      rw [if_pos (by decide), gR_eq (by rw [ck_74 hCx]) (cr_74_0 hCx), isC_eq (by rw [sk_0 hSx]), isFrozenC_ok hSx hRx hO hn, bnd_some]
      unfold m_X10_look_B46
      cases hfr : frW W n with
      | false =>
        rw [if_pos (by decide), sI_n (ck_75 hCx) hn (by decide)]
        exact fin 0 (by unfold kdB; rw [hsh, hfr]; rfl)
      | true =>
        rw [if_neg (by decide), sI_n (ck_75 hCx) hn (by decide)]
        exact fin 1 (by unfold kdB; rw [hsh, hfr]; rfl)
    | true =>
      rw [if_neg (by decide), gR_eq (by rw [ck_74 hCx]) (cr_74_0 hCx), sI_n (ck_75 hCx) hn (by decide)]
      exact fin 2 (by unfold kdB; rw [hsh]; rfl)
  case he =>
    rintro f ⟨v, x⟩ ⟨h1, h2, h3, h4⟩
    dsimp only at h1 h2 h3 h4 ⊢
    subst h1
    rw [m_X10_look_L2, if_neg (nlt_lit (Nat.le_refl _) (by decide))]
    unfold m_X10_look_B60
    refine loopQ (X := Int32 × Hp) (fun f x => m_X10_look_L62 f 74 s x.1 x.2) (fun t => ∃ y, t = some ((), y) ∧ Fi (fun a => a = 75 ∨ a = 76) z y ∧ (∀ c, c < 144 → zI y 75 c = nI (kdB W c)) ∧ ∀ c, c < 144 → zI y 76 c = bI (stB W c)) (fun n x => x.1 = nI n ∧ LkI W z x.2 n 0) 144 ?hs ?he 0 FU (0, x) (by decide) (by decide) ⟨rfl, h2, h3, ?h0⟩
    case h0 =>
      intro o ho
      right
      refine ⟨h4 o ho, ?_⟩
      rintro ⟨_, c, d, a2, _⟩
      omega
    case hs =>
      rintro n f ⟨v, x⟩ hn ⟨h1, h5⟩
      dsimp only at h1 h5
      subst h1
      left
      obtain ⟨y2, g1, g2⟩ := look_in (m_X10_look_B123 (m_X10_look_L62 f)) hC hS hR hO hs hn h5
      refine ⟨(nI (n + 1), y2), ⟨rfl, g1⟩, ?_⟩
      dsimp only
      rw [m_X10_look_L62, if_pos (lt_lit hn (by decide)), g2]
      unfold m_X10_look_B123
      rw [nI_1]
    case he =>
      rintro f ⟨v, x⟩ ⟨h1, h5, h6, h7⟩
      dsimp only at h1 h5 h6 h7 ⊢
      subst h1
      rw [m_X10_look_L62, if_neg (nlt_lit (Nat.le_refl _) (by decide))]
      refine ⟨x, rfl, h5, h6, fun c hc => ?_⟩
      rcases h7 c hc with ⟨q1, q2⟩ | ⟨q1, q2⟩
      · rw [AtP_end hc] at q2
        rw [q1, q2]; rfl
      · rw [AtP_end hc] at q2
        have : stB W c = false := by simpa using q2
        rw [q1, this]; rfl
