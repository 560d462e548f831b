/-! ===== Walls.thinnestFrost, in the heap ===== -/
/-- the walls' own cells change, and which of two is the queue -/
def FW (z y : Hp) : Prop := zN y = zN z ∧ zK y = zK z ∧ zL y = zL z ∧ (∀ a, a ≠ 74 → zR y a = zR z a) ∧ (∀ k, k ≠ 3 → k ≠ 4 → zR y 74 k = zR z 74 k) ∧ ∀ a, ¬ (74 ≤ a ∧ a ≤ 82) → zI y a = zI z a
theorem FW.rfl' {z : Hp} : FW z z := ⟨rfl, rfl, rfl, fun _ _ => rfl, fun _ _ _ => rfl, fun _ _ => rfl⟩
theorem FW.trans {x y z : Hp} (h1 : FW x y) (h2 : FW y z) : FW x z := ⟨h2.1.trans h1.1, h2.2.1.trans h1.2.1, h2.2.2.1.trans h1.2.2.1, fun a ha => (h2.2.2.2.1 a ha).trans (h1.2.2.2.1 a ha), fun k h3 h4 => (h2.2.2.2.2.1 k h3 h4).trans (h1.2.2.2.2.1 k h3 h4), fun a ha => (h2.2.2.2.2.2 a ha).trans (h1.2.2.2.2.2 a ha)⟩
theorem FW.fi {z y : Hp} (h : Fi (fun a => 74 ≤ a ∧ a ≤ 82) z y) : FW z y := ⟨h.1, h.2.1, h.2.2.1, fun a _ => by rw [h.2.2.2.1], fun k _ _ => by rw [h.2.2.2.1], h.2.2.2.2⟩
theorem FW.w {z : Hp} {a : Nat} {f : Nat → Int32} (ha : 74 ≤ a ∧ a ≤ 82) : FW z (wI z a f) := FW.fi (Fi.w ha)
theorem LayC.fw {z y : Hp} (h : LayC z) (F : FW z y) : LayC y := by
  refine ⟨fun q hq => by rw [F.2.1]; exact h.1 q hq, fun q hq => ?_⟩
  have b : ∀ q ∈ aRT, q.1 ≠ 74 ∨ (q.2.1 ≠ 3 ∧ q.2.1 ≠ 4) := by decide
  by_cases e : q.1 = 74
  · rcases b q hq with g | g
    · exact absurd e g
    · have := h.2 q hq
      rw [e] at this ⊢
      rw [F.2.2.2.2.1 _ g.1 g.2]
      exact this
  · rw [F.2.2.2.1 _ e]
    exact h.2 q hq
theorem wt_k {W : Nat → Int32} {c : Nat} : (kdB W c = 2 ∧ wtW W (some 1) (some 0) c = none) ∨ (kdB W c = 1 ∧ wtW W (some 1) (some 0) c = some 1) ∨ (kdB W c = 0 ∧ wtW W (some 1) (some 0) c = some 0) := by
  unfold kdB wtW
  by_cases h : shW W c = true
  · simp [h]
  · by_cases g : frW W c = true <;> simp [h, g]
def TH (W : Nat → Int32) (z y : Hp) (qa la : Nat) (D q l : Nat → Nat) (m ml : Nat) : Prop :=
  FW z y ∧ (zR y 74 3 = some qa ∧ zR y 74 4 = some la) ∧ (qa = 78 ∧ la = 79 ∨ qa = 79 ∧ la = 78) ∧ (∀ c, c < 144 → zI y 75 c = nI (kdB W c)) ∧ (∀ c, c < 144 → zI y 76 c = bI (stB W c)) ∧ (∀ c, c < 144 → zI y 77 c = if D c = 0 then 0 else 1) ∧ (∀ j, j < m → zI y qa j = nI (q j)) ∧ (∀ j, j < ml → zI y la j = nI (l j)) ∧ zI y 74 5 = nI m ∧ zI y 74 6 = nI ml
theorem reach_ok {W : Nat → Int32} {z y : Hp} {qa la L m ml i P c : Nat} {D q l : Nat → Nat} (hC : LayC z) (h : TH W z y qa la D q l m ml) (hT : TI (wtW W (some 1) (some 0)) (stB W) L D q l m ml i P) (hc : c < 144) (hr : ∀ b, wtW W (some 1) (some 0) c = some b → Rr (wtW W (some 1) (some 0)) (stB W) c (L + b)) :
    ∃ y' D' q' l' m' ml', m_X10_reach 74 (nI c) y = some ((), y') ∧ TH W z y' qa la D' q' l' m' ml' ∧ TI (wtW W (some 1) (some 0)) (stB W) L D' q' l' m' ml' i P ∧ (∀ e, D e ≠ 0 → D' e = D e) ∧ (∀ b, wtW W (some 1) (some 0) c = some b → D' c ≠ 0 ∧ D' c ≤ L + 1 + b) ∧ (∀ j, j < m → q' j = q j) ∧ m ≤ m' := by
  have hle := hT.le
  obtain ⟨h1, h2, h3, h4, h5, h6, h7, h8, h9, h10⟩ := h
  have hCy := hC.fw h1
  have kqa : zK y qa = (1, 288) := by
    rcases h3 with ⟨rfl, _⟩ | ⟨rfl, _⟩
    · exact ck_78 hCy
    · exact ck_79 hCy
  have kla : zK y la = (1, 288) := by
    rcases h3 with ⟨_, rfl⟩ | ⟨_, rfl⟩
    · exact ck_79 hCy
    · exact ck_78 hCy
  unfold m_X10_reach
  rw [gR_eq (by rw [ck_74 hCy]) (cr_74_2 hCy), aI_n (ck_77 hCy) hc (by decide), h6 c hc]
  by_cases h0 : D c = 0
  · rw [if_pos h0, if_pos rfl, gR_eq (by rw [ck_74 hCy]) (cr_74_0 hCy), aI_n (ck_75 hCy) hc (by decide), h4 c hc]
    rcases wt_k (W := W) (c := c) with ⟨k, w⟩ | ⟨k, w⟩ | ⟨k, w⟩
    · rw [k, if_pos (show nI 2 = 2 from rfl)]
      exact ⟨y, D, q, l, m, ml, rfl, ⟨h1, h2, h3, h4, h5, h6, h7, h8, h9, h10⟩, hT, fun _ _ => rfl, (fun b hb => absurd (w.symm.trans hb) (by simp)), fun _ _ => rfl, Nat.le_refl _⟩
    · obtain ⟨y1, hy1⟩ : ∃ x, x = wI y 77 (ups (zI y 77) c 1) := ⟨_, rfl⟩
      have C1 : LayC y1 := hCy.of (by rw [hy1]; rfl) (by rw [hy1]; rfl)
      obtain ⟨y2, hy2⟩ : ∃ x, x = wI y1 la (ups (zI y1 la) ml (nI c)) := ⟨_, rfl⟩
      have C2 : LayC y2 := C1.of (by rw [hy2]; rfl) (by rw [hy2]; rfl)
      obtain ⟨y3, hy3⟩ : ∃ x, x = wI y2 74 (ups (zI y2 74) 6 (nI (ml + 1))) := ⟨_, rfl⟩
      have i1 : zI y1 74 = zI y 74 := by rw [hy1, zI_ne (by decide)]
      have i2 : zI y2 74 = zI y 74 := by rw [hy2, zI_ne (by omega)]; exact i1
      have l1 : zI y1 la = zI y la := by rw [hy1, zI_ne (by omega)]
      have ex : ∀ a, a ≠ 74 → a ≠ 77 → a ≠ la → zI y3 a = zI y a := fun a e1 e2 e3 => by rw [hy3, zI_ne e1, hy2, zI_ne e3, hy1, zI_ne e2]
      have R3 : zR y3 = zR y := by rw [hy3, hy2, hy1]; rfl
      refine ⟨y3, ups D c (L + 2), q, ups l ml c, m, ml + 1, ?_, ?_, hT.addL hc h0 (hr 1 w) w, fun e he => up_ne (fun g => he (by rw [g]; exact h0)), fun b hb => ?_, fun _ _ => rfl, Nat.le_refl _⟩
      · rw [k, if_neg (by decide), gR_eq (by rw [ck_74 hCy]) (cr_74_2 hCy), sI_n (ck_77 hCy) hc (by decide), ← hy1, gR_eq (by rw [ck_74 C1]) (cr_74_0 C1), aI_n (ck_75 C1) hc (by decide), show zI y1 75 c = nI 1 by rw [hy1, zI_ne (by decide), h4 c hc, k], if_neg (by decide)]
        unfold m_X10_reach_B69
        rw [gI_eq (by rw [ck_74 C1]), i1, h10, if_pos (lt_lit (show ml < 288 by omega) (by decide)), gR_eq (by rw [ck_74 C1]) (show zR y1 74 4 = some la by rw [hy1]; exact h2.2), gI_eq (by rw [ck_74 C1]), i1, h10, sI_n (show zK y1 la = (1, 288) by rw [hy1]; exact kla) (by omega) (by decide), ← hy2]
        rw [gI_eq (by rw [ck_74 C2]), i2, h10, nI_1, pI_eq (by rw [ck_74 C2]), ← hy3]
      · refine ⟨h1.trans ?_, by rw [R3]; exact h2, h3, fun e he => ?_, fun e he => ?_, fun e he => ?_, fun j hj => ?_, fun j hj => ?_, ?_, ?_⟩
        · rw [hy3, hy2, hy1]
          exact ((FW.w (by omega)).trans (FW.w (by omega))).trans (FW.w (by omega))
        · rw [ex 75 (by decide) (by decide) (by omega)]; exact h4 e he
        · rw [ex 76 (by decide) (by decide) (by omega)]; exact h5 e he
        · rw [hy3, zI_ne (by decide), hy2, zI_ne (by omega), hy1, zI_eq]
          by_cases g : e = c
          · rw [g, up_eq, up_eq, if_neg (by omega)]
          · rw [up_ne g, up_ne g]; exact h6 e he
        · rw [ex qa (by omega) (by omega) (by omega)]; exact h7 j hj
        · rw [hy3, zI_ne (by omega), hy2, zI_eq, l1]
          by_cases g : j = ml
          · rw [g, up_eq, up_eq]
          · rw [up_ne g, up_ne g]; exact h8 j (by omega)
        · rw [hy3, zI_eq, up_ne (by decide), i2]; exact h9
        · rw [hy3, zI_eq, up_eq]
      · rw [w] at hb
        cases hb
        rw [up_eq]
        omega
    · obtain ⟨y1, hy1⟩ : ∃ x, x = wI y 77 (ups (zI y 77) c 1) := ⟨_, rfl⟩
      have C1 : LayC y1 := hCy.of (by rw [hy1]; rfl) (by rw [hy1]; rfl)
      obtain ⟨y2, hy2⟩ : ∃ x, x = wI y1 qa (ups (zI y1 qa) m (nI c)) := ⟨_, rfl⟩
      have C2 : LayC y2 := C1.of (by rw [hy2]; rfl) (by rw [hy2]; rfl)
      obtain ⟨y3, hy3⟩ : ∃ x, x = wI y2 74 (ups (zI y2 74) 5 (nI (m + 1))) := ⟨_, rfl⟩
      have i1 : zI y1 74 = zI y 74 := by rw [hy1, zI_ne (by decide)]
      have i2 : zI y2 74 = zI y 74 := by rw [hy2, zI_ne (by omega)]; exact i1
      have l1 : zI y1 qa = zI y qa := by rw [hy1, zI_ne (by omega)]
      have ex : ∀ a, a ≠ 74 → a ≠ 77 → a ≠ qa → zI y3 a = zI y a := fun a e1 e2 e3 => by rw [hy3, zI_ne e1, hy2, zI_ne e3, hy1, zI_ne e2]
      have R3 : zR y3 = zR y := by rw [hy3, hy2, hy1]; rfl
      refine ⟨y3, ups D c (L + 1), ups q m c, l, m + 1, ml, ?_, ?_, hT.addQ hc h0 (hr 0 w), fun e he => up_ne (fun g => he (by rw [g]; exact h0)), fun b hb => ?_, fun j hj => up_ne (by omega), by omega⟩
      · rw [k, if_neg (by decide), gR_eq (by rw [ck_74 hCy]) (cr_74_2 hCy), sI_n (ck_77 hCy) hc (by decide), ← hy1, gR_eq (by rw [ck_74 C1]) (cr_74_0 C1), aI_n (ck_75 C1) hc (by decide), show zI y1 75 c = nI 0 by rw [hy1, zI_ne (by decide), h4 c hc, k], if_pos (by decide)]
        rw [gI_eq (by rw [ck_74 C1]), i1, h9, if_pos (lt_lit (show m < 288 by omega) (by decide)), gR_eq (by rw [ck_74 C1]) (show zR y1 74 3 = some qa by rw [hy1]; exact h2.1), gI_eq (by rw [ck_74 C1]), i1, h9, sI_n (show zK y1 qa = (1, 288) by rw [hy1]; exact kqa) (by omega) (by decide), ← hy2]
        rw [gI_eq (by rw [ck_74 C2]), i2, h9, nI_1, pI_eq (by rw [ck_74 C2]), ← hy3]
      · refine ⟨h1.trans ?_, by rw [R3]; exact h2, h3, fun e he => ?_, fun e he => ?_, fun e he => ?_, fun j hj => ?_, fun j hj => ?_, ?_, ?_⟩
        · rw [hy3, hy2, hy1]
          exact ((FW.w (by omega)).trans (FW.w (by omega))).trans (FW.w (by omega))
        · rw [ex 75 (by decide) (by decide) (by omega)]; exact h4 e he
        · rw [ex 76 (by decide) (by decide) (by omega)]; exact h5 e he
        · rw [hy3, zI_ne (by decide), hy2, zI_ne (by omega), hy1, zI_eq]
          by_cases g : e = c
          · rw [g, up_eq, up_eq, if_neg (by omega)]
          · rw [up_ne g, up_ne g]; exact h6 e he
        · rw [hy3, zI_ne (by omega), hy2, zI_eq, l1]
          by_cases g : j = m
          · rw [g, up_eq, up_eq]
          · rw [up_ne g, up_ne g]; exact h7 j (by omega)
        · rw [ex la (by omega) (by omega) (by omega)]; exact h8 j hj
        · rw [hy3, zI_eq, up_eq]
        · rw [hy3, zI_eq, up_ne (by decide), i2]; exact h10
      · rw [w] at hb
        cases hb
        rw [up_eq]
        omega
  · rw [if_neg h0, if_neg (by decide)]
    exact ⟨y, D, q, l, m, ml, rfl, ⟨h1, h2, h3, h4, h5, h6, h7, h8, h9, h10⟩, hT, fun _ _ => rfl, fun b hb => ⟨h0, hT.seen hc h0 hb⟩, fun _ _ => rfl, Nat.le_refl _⟩
/-- the four sides of a cell of this level -/
theorem sides2_ok {W : Nat → Int32} {z y : Hp} {qa la L m ml i P c : Nat} {D q l : Nat → Nat} (K : Nat → Int32 → Hp → Option (Int32 × Hp)) (hC : LayC z) (h : TH W z y qa la D q l m ml) (hT : TI (wtW W (some 1) (some 0)) (stB W) L D q l m ml i P) (hi : i < m) (hc : q i = c) :
    ∃ y' D' q' l' m' ml', m_X10_reachesRim_L35 K FU 74 (nI i) (nI c) 0 y = K 74 (nI i) y' ∧ TH W z y' qa la D' q' l' m' ml' ∧ TI (wtW W (some 1) (some 0)) (stB W) L D' q' l' m' ml' i P ∧ (∀ e, D e ≠ 0 → D' e = D e) ∧ i < m' ∧ q' i = c ∧ ∀ k e b, k < 4 → bsC c k = some e → wtW W (some 1) (some 0) e = some b → D' e ≠ 0 ∧ D' e ≤ L + 1 + b := by
  refine loopQ (X := Int32 × Hp) (fun f x => m_X10_reachesRim_L35 K f 74 (nI i) (nI c) x.1 x.2) (fun t => ∃ y' D' q' l' m' ml', t = K 74 (nI i) y' ∧ TH W z y' qa la D' q' l' m' ml' ∧ TI (wtW W (some 1) (some 0)) (stB W) L D' q' l' m' ml' i P ∧ (∀ e, D e ≠ 0 → D' e = D e) ∧ i < m' ∧ q' i = c ∧ ∀ k e b, k < 4 → bsC c k = some e → wtW W (some 1) (some 0) e = some b → D' e ≠ 0 ∧ D' e ≤ L + 1 + b)
    (fun n x => x.1 = nI n ∧ ∃ D' q' l' m' ml', TH W z x.2 qa la D' q' l' m' ml' ∧ TI (wtW W (some 1) (some 0)) (stB W) L D' q' l' m' ml' i P ∧ (∀ e, D e ≠ 0 → D' e = D e) ∧ i < m' ∧ q' i = c ∧ ∀ k e b, k < n → bsC c k = some e → wtW W (some 1) (some 0) e = some b → D' e ≠ 0 ∧ D' e ≤ L + 1 + b) 4 ?hs ?he 0 FU (0, y) (by decide) (by decide) ⟨rfl, D, q, l, m, ml, h, hT, fun _ _ => rfl, hi, hc, fun k e b hk => absurd hk (by omega)⟩
  case hs =>
    rintro n f ⟨v, x⟩ hn ⟨h1, D', q', l', m', ml', g1, g2, g3, g4, g5, g6⟩
    dsimp only at h1 g1
    subst h1
    have cx := hC.fw g1.1
    have hq := g2.2.1 i g4
    rw [g5] at hq
    left
    dsimp only
    rw [m_X10_reachesRim_L35, if_pos (lt_lit hn (by decide)), besideC_ok hq.1 hn, bnd_some]
    cases hb : bsC c n with
    | none =>
      rw [if_pos (show oN none = -1 from rfl)]
      refine ⟨(nI (n + 1), x), ⟨rfl, D', q', l', m', ml', g1, g2, g3, g4, g5, fun k e b hk hbk hw => ?_⟩, by unfold m_X10_reachesRim_B59; rw [nI_1]⟩
      by_cases g : k = n
      · rw [g, hb] at hbk; cases hbk
      · exact g6 k e b (by omega) hbk hw
    | some e =>
      have he := bsC_nb hq.1 hn hb
      rw [if_neg (show ¬ oN (some e) = -1 from nI_ne_m1 (by omega)), show oN (some e) = nI e from rfl, isC_eq (by rw [ck_74 cx])]
      have hRc := g2.1 c hq.1 (by omega)
      rw [hq.2] at hRc
      obtain ⟨y', D2, q2, l2, m2, ml2, r1, r2, r3, r4, r5, r6, r7⟩ := reach_ok hC g1 g2 he.2 (fun b hw => hRc.go he.2 he.1.symm hw)
      rw [r1, bnd_some]
      refine ⟨(nI (n + 1), y'), ⟨rfl, D2, q2, l2, m2, ml2, r2, r3, fun e2 he2 => ?_, by omega, by rw [r6 i g4]; exact g5, fun k e2 b hk hbk hw => ?_⟩, by unfold m_X10_reachesRim_B59; rw [nI_1]⟩
      · rw [r4 e2 (by rw [g3 e2 he2]; exact he2), g3 e2 he2]
      · by_cases g : k = n
        · rw [g, hb] at hbk
          cases hbk
          exact r5 b hw
        · have := g6 k e2 b (by omega) hbk hw
          rw [r4 e2 this.1]
          exact this
  case he =>
    rintro f ⟨v, x⟩ ⟨h1, D', q', l', m', ml', g1, g2, g3, g4, g5, g6⟩
    dsimp only at h1 g1 ⊢
    subst h1
    rw [m_X10_reachesRim_L35, if_neg (nlt_lit (Nat.le_refl _) (by decide))]
    exact ⟨x, D', q', l', m', ml', rfl, g1, g2, g3, g4, g5, g6⟩
/-- one level -/
theorem level_ok {W : Nat → Int32} {z y : Hp} {qa la L m ml P : Nat} {D q l : Nat → Nat} (hC : LayC z) (hL : L ≤ 144) (h : TH W z y qa la D q l m ml) (hT : TI (wtW W (some 1) (some 0)) (stB W) L D q l m ml 0 P) (h6 : ∀ c b, c < 144 → stB W c = true → wtW W (some 1) (some 0) c = some b → D c ≠ 0 ∧ D c ≤ b + 1) :
    ∃ r y' D' q' l' m' ml', m_X10_reachesRim 74 y = some (r, y') ∧ TH W z y' qa la D' q' l' m' ml' ∧ (∀ c b, c < 144 → stB W c = true → wtW W (some 1) (some 0) c = some b → D' c ≠ 0 ∧ D' c ≤ b + 1) ∧ ((r = 1 ∧ WayRes (wtW W (some 1) (some 0)) (stB W) (nI L)) ∨ (r = 0 ∧ TI (wtW W (some 1) (some 0)) (stB W) L D' q' l' m' ml' m' P)) := by
  unfold m_X10_reachesRim
  refine loopQ (X := Int32 × Hp) (fun f x => m_X10_reachesRim_L2 f 74 x.1 x.2) (fun t => ∃ r y' D' q' l' m' ml', t = some (r, y') ∧ TH W z y' qa la D' q' l' m' ml' ∧ (∀ c b, c < 144 → stB W c = true → wtW W (some 1) (some 0) c = some b → D' c ≠ 0 ∧ D' c ≤ b + 1) ∧ ((r = 1 ∧ WayRes (wtW W (some 1) (some 0)) (stB W) (nI L)) ∨ (r = 0 ∧ TI (wtW W (some 1) (some 0)) (stB W) L D' q' l' m' ml' m' P)))
    (fun i x => x.1 = nI i ∧ ∃ D' q' l' m' ml', TH W z x.2 qa la D' q' l' m' ml' ∧ TI (wtW W (some 1) (some 0)) (stB W) L D' q' l' m' ml' i P ∧ (∀ c b, c < 144 → stB W c = true → wtW W (some 1) (some 0) c = some b → D' c ≠ 0 ∧ D' c ≤ b + 1)) 145 ?hs ?he 0 FU (0, y) (by decide) (by decide) ⟨rfl, D, q, l, m, ml, h, hT, h6⟩
  case hs =>
    rintro i f ⟨v, x⟩ hi ⟨h1, D', q', l', m', ml', g1, g2, g3⟩
    dsimp only at h1 g1
    subst h1
    have hle := g2.le
    have cx := hC.fw g1.1
    have kqa : zK x qa = (1, 288) := by
      rcases g1.2.2.1 with ⟨rfl, _⟩ | ⟨rfl, _⟩
      · exact ck_78 cx
      · exact ck_79 cx
    dsimp only
    rw [m_X10_reachesRim_L2, gI_eq (by rw [ck_74 cx]), g1.2.2.2.2.2.2.2.2.1]
    by_cases him : i < m'
    · have hq := g2.2.1 i him
      rw [if_pos (nI_lt him (by omega)), if_pos (lt_lit (show i < 288 by omega) (by decide)), gR_eq (by rw [ck_74 cx]) g1.2.1.1, aI_n kqa (by omega) (by decide), g1.2.2.2.2.2.2.1 i him, rimC_ok hq.1, bnd_some]
      cases hr : rimB (q' i) with
      | true =>
        right
        rw [if_neg (by decide)]
        exact ⟨1, x, D', q', l', m', ml', rfl, g1, g3, Or.inl ⟨rfl, g2.found g3 hL him hr⟩⟩
      | false =>
        left
        rw [if_pos (by decide)]
        obtain ⟨y2, D2, q2, l2, m2, ml2, r1, r2, r3, r4, r5, r6, r7⟩ := sides2_ok (m_X10_reachesRim_B65 (m_X10_reachesRim_L2 f)) hC g1 g2 him rfl
        refine ⟨(nI (i + 1), y2), ⟨rfl, D2, q2, l2, m2, ml2, r2, r3.next r5 (by rw [r6]; exact hr) (fun e b he hnb hw => ?_), fun c b hc hst hw => ?_⟩, ?_⟩
        · rw [r6] at hnb
          obtain ⟨k, k1, k2⟩ := nb_bsC hq.1 he hnb
          exact r7 k e b k1 k2 hw
        · have := g3 c b hc hst hw
          rw [r4 c this.1]
          exact this
        · rw [r1]
          unfold m_X10_reachesRim_B65
          rw [nI_1]
    · right
      rw [if_neg (nI_nlt (by omega) (by omega))]
      have e : i = m' := Nat.le_antisymm g2.2.2.2.2.2.2 (by omega)
      subst e
      exact ⟨0, x, D', q', l', i, ml', rfl, g1, g3, Or.inr ⟨rfl, g2⟩⟩
  case he =>
    rintro f ⟨v, x⟩ ⟨h1, D', q', l', m', ml', g1, g2, g3⟩
    have := g2.le
    have := g2.2.2.2.2.2.2
    omega
