/-! ===== Walls.shortestWay, whole ===== -/
theorem way_1 (W : Nat → Int32) : ∀ c b, wtW W none (some 1) c = some b → b = 1 := by
  intro c b h
  unfold wtW at h
  split at h
  · cases h
  · split at h
    · cases h
    · cases h; rfl
/-- the four sides of the cell that was taken off -/
theorem sides_ok {W : Nat → Int32} {z y : Hp} {qa i c m : Nat} {d q : Nat → Nat} (K : Nat → Int32 → Hp → Option (Int32 × Hp)) (hC : LayC z) (hq : zR z 74 3 = some qa) (hqa : qa = 78 ∨ qa = 79) (hk : zK z qa = (1, 288)) (h75 : ∀ c, c < 144 → zI z 75 c = nI (kdB W c)) (h : HL W z y qa d q m) (hB : BF (wtW W none (some 1)) (stB W) d q m i) (hi : i < m) (hc : q i = c) :
    ∃ y2 d2 q2 m2, HL W z y2 qa d2 q2 m2 ∧ BF (wtW W none (some 1)) (stB W) d2 q2 m2 i ∧ i < m2 ∧ q2 i = c ∧ (∀ k e, k < 4 → bsC c k = some e → wtW W none (some 1) e = some 1 → d2 e ≠ 0 ∧ d2 e ≤ d2 c + 1) ∧ m_X10_shortestWay_L98 K FU 74 (nI i) (nI c) 0 y = K 74 (nI i) y2 := by
  refine loopQ (X := Int32 × Hp) (fun f x => m_X10_shortestWay_L98 K f 74 (nI i) (nI c) x.1 x.2) (fun t => ∃ y2 d2 q2 m2, HL W z y2 qa d2 q2 m2 ∧ BF (wtW W none (some 1)) (stB W) d2 q2 m2 i ∧ i < m2 ∧ q2 i = c ∧ (∀ k e, k < 4 → bsC c k = some e → wtW W none (some 1) e = some 1 → d2 e ≠ 0 ∧ d2 e ≤ d2 c + 1) ∧ t = K 74 (nI i) y2)
    (fun n x => x.1 = nI n ∧ ∃ d q m, HL W z x.2 qa d q m ∧ BF (wtW W none (some 1)) (stB W) d q m i ∧ i < m ∧ q i = c ∧ (∀ k e, k < n → bsC c k = some e → wtW W none (some 1) e = some 1 → d e ≠ 0 ∧ d e ≤ d c + 1)) 4 ?hs ?he 0 FU (0, y) (by decide) (by decide) ⟨rfl, d, q, m, h, hB, hi, hc, fun k e hk => absurd hk (by omega)⟩
  case hs =>
    rintro n f ⟨v, x⟩ hn ⟨h1, d, q, m, g1, g2, g3, g4, g5⟩
    dsimp only at h1 g1
    subst h1
    have hm := g2.m144
    have hc144 : c < 144 := by rw [← g4]; exact (g2.2.1 i g3).1
    have hdc : d c ≠ 0 := by rw [← g4]; exact (g2.2.1 i g3).2
    have hCx := hC.fi g1.1
    have x75 : ∀ e, e < 144 → zI x 75 e = nI (kdB W e) := fun e he => by rw [g1.1.2.2.2.2 75 (by omega)]; exact h75 e he
    left
    dsimp only
    rw [m_X10_shortestWay_L98, if_pos (lt_lit hn (by decide)), besideC_ok hc144 hn, bnd_some]
    have skip : (∀ e, bsC c n = some e → wtW W none (some 1) e = some 1 → d e ≠ 0 ∧ d e ≤ d c + 1) → ∃ x2 : Int32 × Hp, (x2.1 = nI (n + 1) ∧ ∃ d q m, HL W z x2.2 qa d q m ∧ BF (wtW W none (some 1)) (stB W) d q m i ∧ i < m ∧ q i = c ∧ (∀ k e, k < n + 1 → bsC c k = some e → wtW W none (some 1) e = some 1 → d e ≠ 0 ∧ d e ≤ d c + 1)) ∧ m_X10_shortestWay_B152 (m_X10_shortestWay_L98 K f) 74 (nI i) (nI c) (nI n) x = m_X10_shortestWay_L98 K f 74 (nI i) (nI c) x2.1 x2.2 := by
      intro hs
      refine ⟨(nI (n + 1), x), ⟨rfl, d, q, m, g1, g2, g3, g4, fun k e hk hb hw => ?_⟩, by unfold m_X10_shortestWay_B152; rw [nI_1]⟩
      by_cases e1 : k = n
      · rw [e1] at hb; exact hs e hb hw
      · exact g5 k e (by omega) hb hw
    cases hb : bsC c n with
    | none =>
      rw [if_pos (show oN none = -1 from rfl)]
      exact skip (fun e he => by rw [hb] at he; cases he)
    | some e =>
      have he := bsC_nb hc144 hn hb
      rw [if_neg (show ¬ oN (some e) = -1 from nI_ne_m1 (by omega)), show oN (some e) = nI e from rfl, gR_eq (by rw [ck_74 hCx]) (cr_74_0 hCx), aI_n (ck_75 hCx) he.2 (by decide), x75 e he.2]
      by_cases h0 : kdB W e = 0
      · rw [h0, if_pos (show nI 0 = 0 from rfl), gR_eq (by rw [ck_74 hCx]) (cr_74_2 hCx), aI_n (ck_77 hCx) he.2 (by decide), g1.2.1 e he.2]
        by_cases h2 : d e = 0
        · rw [h2, if_pos (show nI 0 = 0 from rfl), gR_eq (by rw [ck_74 hCx]) (cr_74_2 hCx), aI_n (ck_77 hCx) hc144 (by decide), g1.2.1 c hc144, isC_eq (by rw [ck_74 hCx]), nI_1]
          obtain ⟨y2, s1, s2⟩ := step_ok (v := d c + 1) hC hq hqa hk g1 (by omega) he.2
          rw [s1, bnd_some]
          have hw : wtW W none (some 1) e = some 1 := kdB_0.mp h0
          have hec : c ≠ e := fun q => hdc (by rw [q]; exact h2)
          refine ⟨(nI (n + 1), y2), ⟨rfl, ups d e (d c + 1), ups q m e, m + 1, s2, ?_, by omega, ?_, fun k e' hk hb' hw' => ?_⟩, by unfold m_X10_shortestWay_B152; rw [nI_1]⟩
          · have := g2.add g3 he.2 h2 hw (by rw [g4]; exact he.1.symm)
            rw [g4] at this
            exact this
          · rw [up_ne (by omega)]; exact g4
          · rw [up_ne hec]
            by_cases e3 : e' = e
            · rw [e3, up_eq]
              exact ⟨by omega, Nat.le_refl _⟩
            · rw [up_ne e3]
              by_cases e4 : k = n
              · rw [e4, hb] at hb'
                cases hb'
                exact absurd rfl e3
              · exact g5 k e' (by omega) hb' hw'
        · have hde := g2.1 e he.2 h2
          rw [if_neg (show ¬ nI (d e) = 0 from fun q => h2 ((nI_eq (by omega) (by decide)).mp q))]
          refine skip (fun e' hb' _ => ?_)
          rw [hb] at hb'
          cases hb'
          refine ⟨h2, ?_⟩
          obtain ⟨j, j1, j2⟩ := g2.2.2.1 e he.2 h2
          have := g2.2.2.2.2.2.1 j j1 g3
          rw [j2, g4] at this
          exact this
      · have := kdB_lt W e
        rw [if_neg (show ¬ nI (kdB W e) = 0 from fun q => h0 ((nI_eq (by omega) (by decide)).mp q))]
        refine skip (fun e' hb' hw' => ?_)
        rw [hb] at hb'
        cases hb'
        exact absurd (kdB_0.mpr hw') h0
  case he =>
    rintro f ⟨v, x⟩ ⟨h1, d, q, m, g1, g2, g3, g4, g5⟩
    dsimp only at h1 g1 ⊢
    subst h1
    rw [m_X10_shortestWay_L98, if_neg (nlt_lit (Nat.le_refl _) (by decide))]
    exact ⟨x, d, q, m, g1, g2, g3, g4, g5, rfl⟩
/-- the cells beside the shaft, to begin with -/
def BI0 (w : Nat → Option Nat) (st : Nat → Bool) (d q : Nat → Nat) (m n : Nat) : Prop :=
  (∀ c, c < 144 → d c ≠ 0 → d c = 1 ∧ c < n ∧ st c = true ∧ w c = some 1) ∧ (∀ c, c < 144 → c < n → st c = true → w c = some 1 → d c = 1) ∧ (∀ j, j < m → q j < 144 ∧ d (q j) ≠ 0) ∧ (∀ c, c < 144 → d c ≠ 0 → ∃ j, j < m ∧ q j = c) ∧ m = sN (fun c => if d c = 0 then 0 else 1) 144
theorem BI0.m144 {w : Nat → Option Nat} {st : Nat → Bool} {d q : Nat → Nat} {m n : Nat} (h : BI0 w st d q m n) : m ≤ 144 := by
  rw [h.2.2.2.2]
  exact sN_le (g := fun c => if d c = 0 then 0 else 1) (B := 1) (n := 144) (fun i _ => by split <;> omega)
theorem BI0.bf {w : Nat → Option Nat} {st : Nat → Bool} {d q : Nat → Nat} {m : Nat} (h : BI0 w st d q m 144) : BF w st d q m 0 := by
  obtain ⟨b1, b2, b3, b4, b5⟩ := h
  have d1 : ∀ j, j < m → d (q j) = 1 := fun j hj => (b1 _ (b3 j hj).1 (b3 j hj).2).1
  refine ⟨fun c hc hd => ?_, b3, b4, b5, fun j k hjk hk => by rw [d1 j (by omega), d1 k hk]; exact Nat.le_refl _, fun k hk h0 => by rw [d1 k hk, d1 0 h0]; omega, fun j hj => absurd hj (by omega), fun c hc h1 h2 => b2 c hc hc h1 h2, by omega⟩
  obtain ⟨g1, _, g3, g4⟩ := b1 c hc hd
  obtain ⟨j, j1, _⟩ := b4 c hc hd
  exact ⟨by omega, by rw [g1]; exact Rr.st hc g3 g4⟩
theorem BI0.add {w : Nat → Option Nat} {st : Nat → Bool} {d q : Nat → Nat} {m n : Nat} (h : BI0 w st d q m n) (hn : n < 144) (h1 : st n = true) (h2 : w n = some 1) : BI0 w st (ups d n 1) (ups q m n) (m + 1) (n + 1) := by
  obtain ⟨b1, b2, b3, b4, b5⟩ := h
  have h0 : d n = 0 := by
    by_cases g : d n = 0
    · exact g
    · have := (b1 n hn g).2.1; omega
  refine ⟨fun c hc hd => ?_, fun c hc hcn g1 g2 => ?_, fun j hj => ?_, fun c hc hd => ?_, ?_⟩
  · by_cases g : c = n
    · subst g; rw [up_eq]; exact ⟨rfl, by omega, h1, h2⟩
    · rw [up_ne g] at hd ⊢
      obtain ⟨a1, a2, a3⟩ := b1 c hc hd
      exact ⟨a1, by omega, a3⟩
  · by_cases g : c = n
    · rw [g, up_eq]
    · rw [up_ne g]; exact b2 c hc (by omega) g1 g2
  · by_cases g : j = m
    · rw [g, up_eq, up_eq]; exact ⟨hn, by omega⟩
    · rw [up_ne g, up_ne (fun e => (b3 j (by omega)).2 (by rw [e]; exact h0))]
      exact b3 j (by omega)
  · by_cases g : c = n
    · exact ⟨m, by omega, by rw [up_eq, g]⟩
    · rw [up_ne g] at hd
      obtain ⟨j, j1, j2⟩ := b4 c hc hd
      exact ⟨j, by omega, by rw [up_ne (by omega)]; exact j2⟩
  · have := sN_up (g := fun c => if d c = 0 then 0 else 1) (h := fun c => if ups d n 1 c = 0 then 0 else 1) (k := n) (n := 144) hn (fun c hc => by rw [up_ne hc])
    simp only [up_eq, h0, if_true, if_neg (Nat.succ_ne_zero 0)] at this
    omega
theorem shortestWay_ok {z : Hp} {s p qa : Nat} {W : Nat → Int32} (hC : LayC z) (hS : LayS z s) (hR : RelS z s W) (hO : OkW W p) (hs : s + 32 ≤ 70 ∨ 115 ≤ s) (hq : zR z 74 3 = some qa) (hqa : qa = 78 ∨ qa = 79) :
    ∃ v y, m_X10_shortestWay 74 s z = some (v, y) ∧ Fi (fun a => 74 ≤ a ∧ a ≤ 82) z y ∧ WayRes (wtW W none (some 1)) (stB W) v := by
  obtain ⟨y0, e0, f0, k0, a0⟩ := look_ok hC hS hR hO hs
  have c0 := hC.fi f0
  have q0 : zR y0 74 3 = some qa := by rw [f0.2.2.2.1]; exact hq
  have kq : zK y0 qa = (1, 288) := by
    rcases hqa with rfl | rfl
    · exact ck_78 c0
    · exact ck_79 c0
  obtain ⟨y1, hy1⟩ : ∃ x, x = wI y0 77 (fun i => if i < 144 then 0 else zI y0 77 i) := ⟨_, rfl⟩
  obtain ⟨y2, hy2⟩ : ∃ x, x = wI y1 74 (ups (zI y1 74) 5 0) := ⟨_, rfl⟩
  have c1 : LayC y1 := c0.of (by rw [hy1]; rfl) (by rw [hy1]; rfl)
  have hL0 : HL W y0 y2 qa (fun _ => 0) (fun _ => 0) 0 := by
    refine ⟨?_, fun c hc => ?_, fun j hj => absurd hj (by omega), ?_⟩
    · rw [hy2, hy1]
      exact (Fi.w (by omega)).trans (Fi.w (by omega))
    · rw [hy2, zI_ne (by decide), hy1, zI_eq]
      exact if_pos hc
    · rw [hy2, zI_eq, up_eq]; rfl
  have fin : ∀ {y d q m v}, HL W y0 y qa d q m → WayRes (wtW W none (some 1)) (stB W) v → ∃ v' y', some (v, y) = some (v', y') ∧ Fi (fun a => 74 ≤ a ∧ a ≤ 82) z y' ∧ WayRes (wtW W none (some 1)) (stB W) v' := by
    intro y d q m v g1 g2
    exact ⟨v, y, rfl, (f0.mono (fun a h => by omega)).trans (g1.1.mono (fun a h => by omega)), g2⟩
  unfold m_X10_shortestWay
  rw [isC_eq (by rw [ck_74 hC]), e0, bnd_some, gR_eq (by rw [ck_74 c0]) (cr_74_2 c0), fill_ok 0 (ck_77 c0) (by decide), bnd_some, ← hy1, pI_eq (by rw [ck_74 c1]), ← hy2]
  refine loopQ (X := Int32 × Hp) (fun f x => m_X10_shortestWay_L20 m_X10_shortestWay_B57 f 74 x.1 x.2) (fun t => ∃ v y, t = some (v, y) ∧ Fi (fun a => 74 ≤ a ∧ a ≤ 82) z y ∧ WayRes (wtW W none (some 1)) (stB W) v) (fun n x => x.1 = nI n ∧ ∃ d q m, HL W y0 x.2 qa d q m ∧ BI0 (wtW W none (some 1)) (stB W) d q m n) 144 ?hs ?he 0 FU (0, y2) (by decide) (by decide) ⟨rfl, fun _ => 0, fun _ => 0, 0, hL0, ?h0⟩
  case h0 =>
    refine ⟨fun c _ h => absurd rfl h, fun c _ h => absurd h (by omega), fun j h => absurd h (by omega), fun c _ h => absurd rfl h, ?_⟩
    have := sN_le (g := fun _ => 0) (B := 0) (n := 144) (fun i _ => Nat.le_refl _)
    simp only [if_true]
    omega
  case hs =>
    rintro n f ⟨v, x⟩ hn ⟨h1, d, q, m, g1, g2⟩
    dsimp only at h1 g1
    subst h1
    have hm := g2.m144
    have cx := c0.fi g1.1
    have x75 : zI x 75 n = nI (kdB W n) := by rw [g1.1.2.2.2.2 75 (by omega)]; exact k0 n hn
    have x76 : zI x 76 n = bI (stB W n) := by rw [g1.1.2.2.2.2 76 (by omega)]; exact a0 n hn
    left
    dsimp only
    rw [m_X10_shortestWay_L20, if_pos (lt_lit hn (by decide)), gR_eq (by rw [ck_74 cx]) (cr_74_1 cx), aI_n (ck_76 cx) hn (by decide), x76]
    have skip : ¬ (stB W n = true ∧ wtW W none (some 1) n = some 1) → ∃ x2 : Int32 × Hp, (x2.1 = nI (n + 1) ∧ ∃ d q m, HL W y0 x2.2 qa d q m ∧ BI0 (wtW W none (some 1)) (stB W) d q m (n + 1)) ∧ m_X10_shortestWay_B51 (m_X10_shortestWay_L20 m_X10_shortestWay_B57 f) 74 (nI n) x = m_X10_shortestWay_L20 m_X10_shortestWay_B57 f 74 x2.1 x2.2 := by
      intro hs
      refine ⟨(nI (n + 1), x), ⟨rfl, d, q, m, g1, ?_⟩, by unfold m_X10_shortestWay_B51; rw [nI_1]⟩
      obtain ⟨b1, b2, b3, b4, b5⟩ := g2
      refine ⟨fun c hc hd => ?_, fun c hc hcn q1 q2 => ?_, b3, b4, b5⟩
      · obtain ⟨a1, a2, a3⟩ := b1 c hc hd
        exact ⟨a1, by omega, a3⟩
      · by_cases g : c = n
        · rw [g] at q1 q2; exact absurd ⟨q1, q2⟩ hs
        · exact b2 c hc (by omega) q1 q2
    cases hst : stB W n with
    | false =>
      rw [if_pos (by decide)]
      exact skip (fun h => by rw [hst] at h; exact absurd h.1 (by decide))
    | true =>
      rw [if_neg (by decide), gR_eq (by rw [ck_74 cx]) (cr_74_0 cx), aI_n (ck_75 cx) hn (by decide), x75]
      by_cases hk0 : kdB W n = 0
      · rw [hk0, if_pos (show nI 0 = 0 from rfl), isC_eq (by rw [ck_74 cx])]
        obtain ⟨x2, s1, s2⟩ := step_ok (v := 1) c0 q0 hqa kq g1 (by omega) hn
        rw [show (1 : Int32) = nI 1 from rfl, s1, bnd_some]
        exact ⟨(nI (n + 1), x2), ⟨rfl, _, _, _, s2, g2.add hn hst (kdB_0.mp hk0)⟩, by unfold m_X10_shortestWay_B51; rw [nI_1]⟩
      · have := kdB_lt W n
        rw [if_neg (show ¬ nI (kdB W n) = 0 from fun q => hk0 ((nI_eq (by omega) (by decide)).mp q))]
        exact skip (fun h => hk0 (kdB_0.mpr h.2))
  case he =>
    rintro f ⟨v, x⟩ ⟨h1, d, q, m, g1, g2⟩
    dsimp only at h1 g1 ⊢
    subst h1
    rw [m_X10_shortestWay_L20, if_neg (nlt_lit (Nat.le_refl _) (by decide))]
    unfold m_X10_shortestWay_B57
    refine loopQ (X := Int32 × Hp) (fun f x => m_X10_shortestWay_L59 m_X10_shortestWay_B88 f 74 x.1 x.2) (fun t => ∃ v y, t = some (v, y) ∧ Fi (fun a => 74 ≤ a ∧ a ≤ 82) z y ∧ WayRes (wtW W none (some 1)) (stB W) v) (fun i x => x.1 = nI i ∧ ∃ d q m, HL W y0 x.2 qa d q m ∧ BF (wtW W none (some 1)) (stB W) d q m i) 145 ?hs ?he 0 FU (0, x) (by decide) (by decide) ⟨rfl, d, q, m, g1, g2.bf⟩
    case hs =>
      rintro i f ⟨v, x⟩ hi ⟨h1, d, q, m, g1, g2⟩
      dsimp only at h1 g1
      subst h1
      have hm := g2.m144
      have cx := c0.fi g1.1
      dsimp only
      rw [m_X10_shortestWay_L59, gI_eq (by rw [ck_74 cx]), g1.2.2.2]
      by_cases him : i < m
      · have hqi := g2.2.1 i him
        have hxq : zR x 74 3 = some qa := by rw [g1.1.2.2.2.1]; exact q0
        have hxk : zK x qa = (1, 288) := by rw [g1.1.2.1]; exact kq
        rw [if_pos (nI_lt him (by omega)), if_pos (lt_lit (show i < 288 by omega) (by decide)), gR_eq (by rw [ck_74 cx]) hxq, aI_n hxk (by omega) (by decide), g1.2.2.1 i him, rimC_ok hqi.1, bnd_some]
        cases hr : rimB (q i) with
        | true =>
          right
          rw [if_neg (by decide)]
          unfold m_X10_shortestWay_B88
          rw [gR_eq (by rw [ck_74 cx]) (cr_74_2 cx), aI_n (ck_77 cx) hqi.1 (by decide), g1.2.1 _ hqi.1]
          exact fin g1 (g2.found him hr (way_1 W))
        | false =>
          left
          rw [if_pos (by decide)]
          obtain ⟨y3, d3, q3, m3, t1, t2, t3, t4, t5, t6⟩ := sides_ok (m_X10_shortestWay_B158 (m_X10_shortestWay_L59 m_X10_shortestWay_B88 f)) c0 q0 hqa kq k0 g1 g2 him rfl
          refine ⟨(nI (i + 1), y3), ⟨rfl, d3, q3, m3, t1, t2.next t3 (by rw [t4]; exact hr) (by rw [t4]; exact t5)⟩, ?_⟩
          rw [t6]
          unfold m_X10_shortestWay_B158
          rw [nI_1]
      · right
        rw [if_neg (nI_nlt (by omega) (by omega))]
        have : i = m := Nat.le_antisymm g2.2.2.2.2.2.2.2.2 (by omega)
        subst this
        exact fin g1 (g2.none (way_1 W))
    case he =>
      rintro f ⟨v, x⟩ ⟨h1, d, q, m, g1, g2⟩
      have := g2.m144
      have := g2.2.2.2.2.2.2.2.2
      omega
