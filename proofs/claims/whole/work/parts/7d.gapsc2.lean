/-! ===== gaps by the class: a path is laid; how many; which ===== -/
theorem sideC {c d : Nat} (hc : c < 144) (hd : d < 144) (h : nb c d) (z : Hp) : ∃ w, w < 4 ∧ m_X10_sideTo (nI c) (nI d) z = some (nI w, z) ∧ bsC c w = some d := by
  have e1 : nI c + 1 = nI (c + 1) := nI_1 c
  unfold m_X10_sideTo
  rw [e1]
  by_cases g0 : d = c + 1
  · refine ⟨0, by decide, ?_, ?_⟩
    · rw [if_pos (by rw [g0])]; rfl
    · unfold nb at h
      simp only [bsC]
      simp
      omega
  · rw [if_neg (fun q => g0 ((nI_eq (by omega) (by omega)).mp q))]
    by_cases g1 : c = d + 1
    · refine ⟨1, by decide, ?_, ?_⟩
      · rw [if_pos (by rw [g1, show (1 : Int32) = nI 1 from rfl, sub_nN (by omega)]; rfl)]; rfl
      · unfold nb at h
        simp only [bsC]
        simp
        omega
    · have n1 : ¬ nI d = nI c - 1 := fun q => by
        by_cases c0 : c = 0
        · rw [c0] at q
          exact absurd q (show ¬ nI d = -1 from nI_ne_m1 (by omega))
        · rw [show (1 : Int32) = nI 1 from rfl, sub_nN (by omega)] at q
          have := (nI_eq (by omega) (by omega)).mp q
          omega
      rw [if_neg n1]
      by_cases g2 : d < c
      · refine ⟨2, by decide, ?_, ?_⟩
        · rw [if_pos (nI_lt g2 (by omega))]; rfl
        · unfold nb at h
          simp only [bsC]
          simp
          omega
      · refine ⟨3, by decide, ?_, ?_⟩
        · rw [if_neg (nI_nlt (by omega) (by omega))]; rfl
        · unfold nb at h
          simp only [bsC]
          simp
          omega
theorem TB.t {z : Hp} {t : Nat → Bool} {e : Nat → Nat → Bool} (h : TB z t e) (c : Nat) (b : Bool) : TB (wI z 81 (ups (zI z 81) c (bI b))) (ups t c b) e := by
  refine ⟨fun x hx => ?_, fun x w d hx hw hb => by rw [zI_ne (by decide)]; exact h.2 x w d hx hw hb⟩
  rw [zI_eq, ups_eq, ups_eq]
  by_cases g : x = c
  · rw [if_pos g, if_pos g]
  · rw [if_neg g, if_neg g]; exact h.1 x hx
theorem TB.e {z : Hp} {t : Nat → Bool} {e : Nat → Nat → Bool} {c w d : Nat} (h : TB z t e) (hw : w < 4) (hb : bsC c w = some d) (b : Bool) : TB (wI z 82 (ups (zI z 82) (4 * c + w) (bI b))) t (eU e c d b) := by
  refine ⟨fun x hx => by rw [zI_ne (by decide)]; exact h.1 x hx, fun x w2 y hx hw2 hb2 => ?_⟩
  rw [zI_eq, ups_eq]
  by_cases g : 4 * x + w2 = 4 * c + w
  · have gx : x = c := by omega
    have gw : w2 = w := by omega
    subst gx gw
    rw [hb] at hb2
    cases hb2
    rw [if_pos rfl, eU_e]
  · rw [if_neg g, eU_n]
    · exact h.2 x w2 y hx hw2 hb2
    · rintro ⟨g1, g2⟩
      subst g1 g2
      have := bsC_inj hw hw2 hb hb2
      omega
theorem layC {W : Nat → Int32} {t0 : Nat → Bool} {e0 : Nat → Nat → Bool} {z : Hp} {qa i v k : Nat} {B : BS} (hG : GS z qa W) (hT : TB z t0 e0) (hC : CB z qa B) (hB : BI (RE (opB W) t0 e0) (srN (stO W)) tgN B i) (hF : FV (opB W) (stO W) t0 e0 1000 k) (hv : v < 288) (h0 : B.1 v ≠ 0) (ht : tgN v = true) :
    ∃ y t e, m_X10_layPath 74 (nI (cn v)) z = some ((), y) ∧ Fi (fun a => a = 81 ∨ a = 82) z y ∧ TB y t e ∧ FV (opB W) (stO W) t e 1000 (k + 1) := by
  have hle := hB.le
  have hop : ∀ x, x < 288 → B.1 x ≠ 0 → opB W (x / 2) = true := by
    intro x hx hx0
    have key : ∀ m x, x < 288 → B.1 x ≠ 0 → B.1 x ≤ m → opB W (x / 2) = true := by
      intro m
      induction m with
      | zero => intro x _ h0 hk; exact absurd (Nat.le_zero.mp hk) h0
      | succ m ih =>
        intro x hx h0 hk
        rcases hB.2.2.2.1 x hx h0 with ⟨_, q⟩ | ⟨u, u1, _, u3, u4, u5⟩
        · unfold srN stO at q
          rw [Bool.and_eq_true, Bool.and_eq_true] at q
          exact q.2.1
        · have iu := ih u u1 u3 (by omega)
          rcases u5 with ⟨m1, m2, q⟩ | ⟨m1, m2, q⟩
          · rcases q with ⟨q1, _⟩ | ⟨_, q2⟩
            · rw [q1]; exact iu
            · exact (hF.2.1 _ _ q2).2.2.2.1
          · rcases q with ⟨q1, _⟩ | ⟨_, q2⟩
            · rw [q1]; exact iu
            · exact q2
    exact key (B.1 x) x hx hx0 (Nat.le_refl _)
  unfold m_X10_layPath
  refine loopQ (X := Int32 × Int32 × Hp) (fun f x => m_X10_layPath_L4 f 74 x.1 x.2.1 x.2.2) (fun r => ∃ y t e, r = some ((), y) ∧ Fi (fun a => a = 81 ∨ a = 82) z y ∧ TB y t e ∧ FV (opB W) (stO W) t e 1000 (k + 1)) (fun n x => x.2.1 = nI n ∧ ∃ v t e, x.1 = nI (cn v) ∧ Fi (fun a => a = 81 ∨ a = 82) z x.2.2 ∧ TB x.2.2 t e ∧ AW (opB W) (stO W) t0 e0 B.1 t e v k ∧ B.1 v + n ≤ 288) 288 ?hs ?he 0 FU (nI (cn v), 0, z) (by decide) (by decide) ⟨rfl, v, t0, e0, rfl, Fi.rfl', hT, AW.start hF hv h0 ht, by have := (hB.2.1 v hv h0).1; omega⟩
  case hs =>
    rintro n f ⟨a, b, x⟩ hn ⟨h1, v, t, e, h2, h3, h4, h5, h6⟩
    dsimp only at h1 h2 h3 h4
    subst h1 h2
    have hGx : GS x qa W := hG.fi h3 (fun a ha => by omega)
    have Cx := hGx.1
    have hv := h5.2.1
    have h0 := h5.2.2.1
    have pv : zI x 80 (cn v) = pcC (B.2.1 v) := by
      rw [h3.2.2.2.2 80 (by omega), hC.2.2 v hv]
      unfold pvC
      rw [if_neg h0]
    dsimp only
    rw [m_X10_layPath_L4, if_pos (lt_lit hn (by decide)), gR_eq (by rw [ck_74 Cx]) (cr_74_7 Cx), aI_n (ck_80 Cx) (cn_lt hv) (by decide), pv]
    rcases hB.2.2.2.1 v hv h0 with ⟨q1, q2⟩ | ⟨u, u1, u2, u3, u4, u5⟩
    · right
      refine ⟨x, t, e, ?_, h3, h4, h5.close q2⟩
      rw [q1, if_pos (by decide)]
    · left
      have st := h5.step hF u1 u3 u4 u5 hop
      have cu := cn_lt u1
      rw [u2, pcC_s, if_neg (show ¬ nI (cn u) < 0 from nI_nlt (b := 0) (by omega) (by omega))]
      rcases u5 with ⟨m1, m2, q⟩ | ⟨m1, m2, q⟩
      · obtain ⟨c, rfl⟩ : ∃ c, u = 2 * c := ⟨u / 2, by omega⟩
        obtain ⟨d, rfl⟩ : ∃ d, v = 2 * d + 1 := ⟨v / 2, by omega⟩
        have hc : c < 144 := by omega
        have hd : d < 144 := by omega
        have ec : 2 * c / 2 = c := by omega
        have ed : (2 * d + 1) / 2 = d := by omega
        have es : nI (144 + d) - 144 = nI d := by rw [show (144 : Int32) = nI 144 from rfl, sub_nN (by omega), show 144 + d - 144 = d by omega]
        rw [ec, ed] at q
        unfold stT stE at st
        rw [ec, ed] at st
        rw [cn_e, cn_o, if_pos (lt_lit hc (by decide)), if_neg (nlt_lit (show 144 ≤ 144 + d by omega) (by omega)), isC_eq (by rw [ck_74 Cx]), es]
        unfold m_X10_goBackOrThrough
        rcases q with ⟨q1, q2⟩ | ⟨q1, q2⟩
        · subst q1
          rw [if_pos rfl, if_pos rfl, decide_eq_true (show (2 * d + 1) % 2 = 1 by omega)] at st
          refine ⟨(nI d, nI (n + 1), wI x 81 (ups (zI x 81) d 1)), ⟨rfl, 2 * d, ups t d true, e, by rw [cn_e], h3.trans (Fi.w (by omega)), h4.t d true, st, by omega⟩, ?_⟩
          rw [if_pos rfl, gR_eq (by rw [ck_74 Cx]) (cr_74_8 Cx), sI_n (ck_81 Cx) hd (by decide), bnd_some]
          unfold m_X10_layPath_B80
          rw [nI_1]
        · have ncd : ¬ c = d := fun g => by rw [g] at q1; unfold nb at q1; omega
          rw [if_neg ncd, if_neg ncd, if_pos (show (2 * d + 1) % 2 = 1 by omega)] at st
          obtain ⟨w, hw, r, hb⟩ := sideC hd hc q1.symm x
          refine ⟨(nI c, nI (n + 1), wI x 82 (ups (zI x 82) (4 * d + w) 0)), ⟨rfl, 2 * c, t, eU e d c false, by rw [cn_e], h3.trans (Fi.w (by omega)), h4.e hw hb false, st, by omega⟩, ?_⟩
          rw [if_neg (fun g => ncd ((nI_eq (by omega) (by omega)).mp g)), gR_eq (by rw [ck_74 Cx]) (cr_74_9 Cx), r, bnd_some, show (4 : Int32) = nI 4 from rfl, pk_mul, nI_add, sI_n (ck_82 Cx) (by omega) (by decide), bnd_some]
          unfold m_X10_layPath_B80
          rw [nI_1]
      · obtain ⟨c, rfl⟩ : ∃ c, u = 2 * c + 1 := ⟨u / 2, by omega⟩
        obtain ⟨d, rfl⟩ : ∃ d, v = 2 * d := ⟨v / 2, by omega⟩
        have hc : c < 144 := by omega
        have hd : d < 144 := by omega
        have ec : (2 * c + 1) / 2 = c := by omega
        have ed : 2 * d / 2 = d := by omega
        have es : nI (144 + c) - 144 = nI c := by rw [show (144 : Int32) = nI 144 from rfl, sub_nN (by omega), show 144 + c - 144 = c by omega]
        rw [ec, ed] at q
        unfold stT stE at st
        rw [ec, ed] at st
        rw [cn_e, cn_o, if_neg (nlt_lit (show 144 ≤ 144 + c by omega) (by omega))]
        unfold m_X10_layPath_B54
        rw [if_neg (nlt_lit (show 144 ≤ 144 + c by omega) (by omega)), if_pos (lt_lit hd (by decide)), isC_eq (by rw [ck_74 Cx]), es]
        unfold m_X10_goOutOrBack
        rcases q with ⟨q1, q2⟩ | ⟨q1, q2⟩
        · subst q1
          rw [if_pos rfl, if_pos rfl, decide_eq_false (show ¬ 2 * d % 2 = 1 by omega)] at st
          refine ⟨(nI (144 + d), nI (n + 1), wI x 81 (ups (zI x 81) d 0)), ⟨rfl, 2 * d + 1, ups t d false, e, by rw [cn_o], h3.trans (Fi.w (by omega)), h4.t d false, st, by omega⟩, ?_⟩
          rw [if_pos rfl, gR_eq (by rw [ck_74 Cx]) (cr_74_8 Cx), sI_n (ck_81 Cx) hd (by decide), bnd_some]
          unfold m_X10_layPath_B80
          rw [nI_1]
        · have ncd : ¬ c = d := fun g => by rw [g] at q1; unfold nb at q1; omega
          rw [if_neg ncd, if_neg ncd, if_neg (show ¬ 2 * d % 2 = 1 by omega)] at st
          obtain ⟨w, hw, r, hb⟩ := sideC hc hd q1 x
          refine ⟨(nI (144 + c), nI (n + 1), wI x 82 (ups (zI x 82) (4 * c + w) 1)), ⟨rfl, 2 * c + 1, t, eU e c d true, by rw [cn_o], h3.trans (Fi.w (by omega)), h4.e hw hb true, st, by omega⟩, ?_⟩
          rw [if_neg (fun g => ncd ((nI_eq (by omega) (by omega)).mp g).symm), gR_eq (by rw [ck_74 Cx]) (cr_74_9 Cx), r, bnd_some, show (4 : Int32) = nI 4 from rfl, pk_mul, nI_add, sI_n (ck_82 Cx) (by omega) (by decide), bnd_some]
          unfold m_X10_layPath_B80
          rw [nI_1]
  case he =>
    rintro f ⟨a, b, x⟩ ⟨h1, v, t, e, h2, h3, h4, h5, h6⟩
    have := h5.2.2.1
    omega
theorem sh_ex {W : Nat → Int32} {p : Nat} (hO : OkW W p) (h7 : W 7 = 1) : ∃ c, c < 144 ∧ opB W c = false := by
  rcases ok_sh hO with h | ⟨_, ⟨a1, a2, a3, a4⟩, a5, a6, a7, a8⟩
  · rw [h7] at h; exact absurd h (by decide)
  · obtain ⟨x, hx, ex, ex'⟩ : ∃ x, x < 11 ∧ W 8 = nI x ∧ x = nn (W 8) := ⟨nn (W 8), a1.2, a1.1, rfl⟩
    obtain ⟨y, hy, ey, ey'⟩ : ∃ x, x < 11 ∧ W 9 = nI x ∧ x = nn (W 9) := ⟨nn (W 9), a2.2, a2.1, rfl⟩
    obtain ⟨u, hu, eu, eu'⟩ : ∃ x, x < 11 ∧ W 10 = nI x ∧ x = nn (W 10) := ⟨nn (W 10), a3.2, a3.1, rfl⟩
    obtain ⟨v, hv, ev, ev'⟩ : ∃ x, x < 11 ∧ W 11 = nI x ∧ x = nn (W 11) := ⟨nn (W 11), a4.2, a4.1, rfl⟩
    refine ⟨12 * y + x, by omega, ?_⟩
    have : shW W (12 * y + x) = true := by
      unfold shW
      rw [show (12 * y + x) % 12 = x by omega, show (12 * y + x) / 12 = y by omega, ex, ey, eu, ev, decide_eq_true h7, decide_eq_true (Int32.le_refl (nI x)), decide_eq_true (Int32.le_refl (nI y)), decide_eq_true ((nI_leI (a := x) (b := u) (by omega) (by omega)).mpr (by omega)), decide_eq_true ((nI_leI (a := y) (b := v) (by omega) (by omega)).mpr (by omega))]
      rfl
    unfold opB
    rw [this]
    rfl
/-- the paths are as many as can be; the search that found none more -/
def GpR (W : Nat → Int32) (n : Nat) (B : BS) : Prop := ∃ t e, FV (opB W) (stO W) t e 1000 n ∧ Dn (opB W) (stO W) t e B
theorem GpR.uniq {W : Nat → Int32} {n m : Nat} {B C : BS} (h : GpR W n B) (g : GpR W m C) : n = m ∧ ∀ c, c < 144 → sA B c = sA C c ∧ sB B c = sB C c := by
  obtain ⟨t, e, a, b⟩ := h
  obtain ⟨t2, e2, a2, b2⟩ := g
  exact b.uniq b2 a a2
theorem BI.par {E : Nat → Nat → Prop} {sr tg : Nat → Bool} {B : BS} {i : Nat} (h : BI E sr tg B i) : ∀ v, v < 288 → B.1 v ≠ 0 → B.2.1 v = 0 ∨ ∃ u, u < 288 ∧ B.2.1 v = u + 1 := fun v hv h0 => by
  rcases h.2.2.2.1 v hv h0 with ⟨q, _⟩ | ⟨u, u1, u2, _⟩
  · exact Or.inl q
  · exact Or.inr ⟨u, u1, u2⟩
theorem fewG_ok {z : Hp} {s p qa : Nat} {W : Nat → Int32} (hC : LayC z) (hS : LayS z s) (hR : RelS z s W) (hO : OkW W p) (h7 : W 7 = 1) (hs : s + 32 ≤ 70 ∨ 115 ≤ s) (hq : zR z 74 3 = some qa) (hqa : qa = 78 ∨ qa = 79) :
    ∃ n y B, m_X10_fewestGaps 74 s z = some (nI n, y) ∧ n ≤ 143 ∧ Fi (fun a => 74 ≤ a ∧ a ≤ 82) z y ∧ CB y qa B ∧ GpR W n B ∧ (∀ v, v < 288 → B.1 v ≠ 0 → B.2.1 v = 0 ∨ ∃ u, u < 288 ∧ B.2.1 v = u + 1) := by
  obtain ⟨z1, r1, F1, k1, k2⟩ := look_ok hC hS hR hO hs
  have C1 := hC.fi F1
  have G1 : GS z1 qa W := ⟨C1, by rw [F1.2.2.2.1]; exact hq, hqa, k1, k2⟩
  obtain ⟨z2, hz2⟩ : ∃ y, y = wI z1 81 (fun i => if i < 144 then 0 else zI z1 81 i) := ⟨_, rfl⟩
  have F2 : Fi (fun a => a = 81 ∨ a = 82) z1 z2 := by rw [hz2]; exact Fi.w (by omega)
  have C2 := C1.fi F2
  obtain ⟨z3, hz3⟩ : ∃ y, y = wI z2 82 (fun i => if i < 576 then 0 else zI z2 82 i) := ⟨_, rfl⟩
  have F3 : Fi (fun a => a = 81 ∨ a = 82) z2 z3 := by rw [hz3]; exact Fi.w (by omega)
  have G3 : GS z3 qa W := G1.fi (F2.trans F3) (fun a ha => by omega)
  have T3 : TB z3 (fun _ => false) (fun _ _ => false) := by
    refine ⟨fun c hc => ?_, fun c w d hc hw hb => ?_⟩
    · rw [hz3, zI_ne (by decide), hz2, zI_eq, if_pos hc]; rfl
    · rw [hz3, zI_eq, if_pos (by omega)]; rfl
  have FZ : Fi (fun a => 74 ≤ a ∧ a ≤ 82) z z3 := ((F1.mono (fun a h => by omega)).trans (F2.mono (fun a h => by omega))).trans (F3.mono (fun a h => by omega))
  obtain ⟨c0, hc0, ho0⟩ := sh_ex hO h7
  unfold m_X10_fewestGaps
  rw [isC_eq (by rw [ck_74 hC]), r1, bnd_some, gR_eq (by rw [ck_74 C1]) (cr_74_8 C1), fill_ok 0 (ck_81 C1) (by decide), bnd_some, ← hz2, gR_eq (by rw [ck_74 C2]) (cr_74_9 C2), fill_ok 0 (ck_82 C2) (by decide), bnd_some, ← hz3]
  refine loopQ (X := Int32 × Int32 × Hp) (fun f x => m_X10_fewestGaps_L25 m_X10_fewestGaps_B44 f 74 x.1 x.2.1 x.2.2) (fun r => ∃ n y B, r = some (nI n, y) ∧ n ≤ 143 ∧ Fi (fun a => 74 ≤ a ∧ a ≤ 82) z y ∧ CB y qa B ∧ GpR W n B ∧ (∀ v, v < 288 → B.1 v ≠ 0 → B.2.1 v = 0 ∨ ∃ u, u < 288 ∧ B.2.1 v = u + 1)) (fun n x => x.1 = nI n ∧ x.2.1 = nI n ∧ Fi (fun a => 74 ≤ a ∧ a ≤ 82) z x.2.2 ∧ GS x.2.2 qa W ∧ ∃ t e, TB x.2.2 t e ∧ FV (opB W) (stO W) t e 1000 n) 144 ?hs ?he 0 FU (0, 0, z3) (by decide) (by decide) ⟨rfl, rfl, FZ, G3, _, _, T3, FV.zero⟩
  case hs =>
    rintro n f ⟨a, b, x⟩ hn ⟨h1, h2, h3, h4, t, e, h5, h6⟩
    dsimp only at h1 h2 h3 h4 h5
    subst h1 h2
    obtain ⟨r, y, B, i, rr, F, cb, bi, fd⟩ := searchC h4 h5
    have Gy : GS y qa W := h4.fi F (fun a ha => by omega)
    have Ty : TB y t e := h5.fi F (fun a ha => by omega)
    have Fy : Fi (fun a => 74 ≤ a ∧ a ≤ 82) z y := h3.trans (F.mono (fun a h => by omega))
    dsimp only
    rw [m_X10_fewestGaps_L25, if_pos (lt_lit hn (by decide)), isC_eq (by rw [ck_74 h4.1]), rr, bnd_some]
    cases r with
    | none =>
      right
      rw [if_pos (show rsC none = -1 from rfl)]
      exact ⟨n, y, B, rfl, h6.le hc0 ho0, Fy, cb, ⟨t, e, h6, fd⟩, bi.par⟩
    | some v =>
      left
      have hv := cn_lt fd.1
      obtain ⟨w, t2, e2, r2, F2, T2, V2⟩ := layC Gy Ty cb bi h6 fd.1 fd.2.1 fd.2.2
      refine ⟨(nI (n + 1), nI (n + 1), w), ⟨rfl, rfl, Fy.trans (F2.mono (fun a h => by omega)), Gy.fi F2 (fun a ha => by omega), t2, e2, T2, V2⟩, ?_⟩
      rw [if_neg (show ¬ rsC (some v) = -1 from nI_ne_m1 (by omega)), isC_eq (by rw [ck_74 Gy.1]), show rsC (some v) = nI (cn v) from rfl, r2, bnd_some, nI_1]
  case he =>
    rintro f ⟨a, b, x⟩ ⟨h1, h2, h3, h4, t, e, h5, h6⟩
    have := h6.le hc0 ho0
    omega
/-- the gaps, listed -/
def gpB (B : BS) (c : Nat) : Bool := sA B c && !sB B c
def cnt (P : Nat → Bool) (n : Nat) : Nat := sN (fun c => b2 (P c)) n
def glF (P : Nat → Bool) : Nat → Nat → Nat
  | 0 => fun _ => 0
  | n + 1 => if P n = true then ups (glF P n) (cnt P n) n else glF P n
theorem cnt_le {P : Nat → Bool} {n : Nat} : cnt P n ≤ n := by
  have := sN_le (g := fun c => b2 (P c)) (B := 1) (n := n) (fun i _ => b2_le _)
  unfold cnt
  omega
theorem cnt_s {P : Nat → Bool} {n : Nat} : cnt P (n + 1) = cnt P n + b2 (P n) := rfl
theorem cnt_congr {P Q : Nat → Bool} {n : Nat} (h : ∀ c, c < n → P c = Q c) : cnt P n = cnt Q n := sN_congr (fun c hc => by rw [h c hc])
theorem glF_congr {P Q : Nat → Bool} : ∀ {n : Nat}, (∀ c, c < n → P c = Q c) → glF P n = glF Q n
  | 0, _ => rfl
  | n + 1, h => by
    show (if P n = true then ups (glF P n) (cnt P n) n else glF P n) = (if Q n = true then ups (glF Q n) (cnt Q n) n else glF Q n)
    rw [glF_congr (fun c hc => h c (by omega)), cnt_congr (fun c hc => h c (by omega)), h n (by omega)]
theorem cnt_sN (P : Nat → Bool) (n : Nat) : cnt P n = sN (fun c => b2 (P c)) n := rfl
theorem GpR.cnt {W : Nat → Int32} {n : Nat} {B : BS} (h : GpR W n B) : cnt (gpB B) 144 = n := by
  obtain ⟨t, e, a, b⟩ := h
  have := b.own a
  have e1 : sZ (gpZ (sA B) (sB B)) 144 = sZ (fun c => (b2 (gpB B c) : Int)) 144 := sZ_congr (fun c _ => by
    unfold gpZ gpB
    cases sA B c <;> cases sB B c <;> rfl)
  rw [e1, sZ_N] at this
  rw [cnt_sN]
  omega
theorem listC_ok {z : Hp} {qa : Nat} {B : BS} (hC : LayC z) (hB : CB z qa B) (hpr : ∀ v, v < 288 → B.1 v ≠ 0 → B.2.1 v = 0 ∨ ∃ u, u < 288 ∧ B.2.1 v = u + 1) :
    ∃ y, m_X10_listGaps 74 91 z = some ((), y) ∧ Fi (fun a => a = 91) z y ∧ ∀ k, k < cnt (gpB B) 144 → zI y 91 k = nI (glF (gpB B) 144 k) := by
  have hpar : ∀ v, v < 288 → B.1 v ≠ 0 → ¬ pcC (B.2.1 v) = -1 := fun v hv h0 => by
    rcases hpr v hv h0 with q | ⟨u, u1, u2⟩
    · rw [q]; decide
    · rw [u2, pcC_s]
      have := cn_lt u1
      exact nI_ne_m1 (by omega)
  have pz : ∀ v, v < 288 → (zI z 80 (cn v) = -1 ↔ B.1 v = 0) := fun v hv => by
    rw [hB.2.2 v hv]
    unfold pvC
    by_cases g : B.1 v = 0
    · rw [if_pos g]; exact ⟨fun _ => g, fun _ => rfl⟩
    · rw [if_neg g]; exact ⟨fun q => absurd q (hpar v hv g), fun q => absurd q g⟩
  unfold m_X10_listGaps
  refine loopQ (X := Int32 × Int32 × Hp) (fun f x => m_X10_listGaps_L4 f 74 91 x.1 x.2.1 x.2.2) (fun r => ∃ y, r = some ((), y) ∧ Fi (fun a => a = 91) z y ∧ ∀ k, k < cnt (gpB B) 144 → zI y 91 k = nI (glF (gpB B) 144 k)) (fun n x => x.1 = nI (cnt (gpB B) n) ∧ x.2.1 = nI n ∧ Fi (fun a => a = 91) z x.2.2 ∧ ∀ k, k < cnt (gpB B) n → zI x.2.2 91 k = nI (glF (gpB B) n k)) 144 ?hs ?he 0 FU (0, 0, z) (by decide) (by decide) ⟨rfl, rfl, Fi.rfl', fun k h => absurd h (Nat.not_lt_zero _)⟩
  case hs =>
    rintro n f ⟨a, b, x⟩ hn ⟨h1, h2, h3, h4⟩
    dsimp only at h1 h2 h3 h4
    subst h1 h2
    have Cx := hC.fi h3
    have hcl := cnt_le (P := gpB B) (n := n)
    have x80 : zI x 80 = zI z 80 := h3.2.2.2.2 80 (by omega)
    have p1 := pz (2 * n) (by omega)
    have p2 := pz (2 * n + 1) (by omega)
    rw [cn_e] at p1
    rw [cn_o] at p2
    have skip : gpB B n = false → cnt (gpB B) (n + 1) = cnt (gpB B) n ∧ glF (gpB B) (n + 1) = glF (gpB B) n := fun g => by
      refine ⟨by rw [cnt_s, g]; rfl, ?_⟩
      show (if gpB B n = true then _ else _) = _
      rw [g, if_neg (by decide)]
    left
    dsimp only
    rw [m_X10_listGaps_L4, if_pos (lt_lit hn (by decide)), gR_eq (by rw [ck_74 Cx]) (cr_74_7 Cx), aI_n (ck_80 Cx) (by omega) (by decide), x80]
    by_cases g1 : B.1 (2 * n) = 0
    · have gf : gpB B n = false := by unfold gpB sA; rw [decide_eq_true g1]; rfl
      have sk := skip gf
      refine ⟨(nI (cnt (gpB B) (n + 1)), nI (n + 1), x), ⟨rfl, rfl, h3, by rw [sk.1, sk.2]; exact h4⟩, ?_⟩
      rw [if_pos (p1.mpr g1), sk.1]
      unfold m_X10_listGaps_B48
      rw [nI_1]
    · rw [if_neg (fun q => g1 (p1.mp q)), gR_eq (by rw [ck_74 Cx]) (cr_74_7 Cx), show (144 : Int32) = nI 144 from rfl, nI_add, aI_n (ck_80 Cx) (by omega) (by decide), x80]
      by_cases g2 : B.1 (2 * n + 1) = 0
      · have gt : gpB B n = true := by unfold gpB sA sB; rw [decide_eq_false g1, decide_eq_true g2]; rfl
        have aN1 : ∀ K : Int32 → Option (Unit × Hp), aN 1 x 91 K = K (nI 144) := fun K => by
          unfold aN
          rw [ck_91 Cx]
          rfl
        refine ⟨(nI (cnt (gpB B) (n + 1)), nI (n + 1), wI x 91 (ups (zI x 91) (cnt (gpB B) n) (nI n))), ⟨rfl, rfl, h3.trans (Fi.w rfl), fun k hk => ?_⟩, ?_⟩
        · dsimp only
          rw [cnt_s, gt, b2_t] at hk
          show zI (wI x 91 (ups (zI x 91) (cnt (gpB B) n) (nI n))) 91 k = nI ((if gpB B n = true then ups (glF (gpB B) n) (cnt (gpB B) n) n else glF (gpB B) n) k)
          rw [zI_eq, if_pos gt, ups_eq, ups_eq]
          by_cases e : k = cnt (gpB B) n
          · rw [if_pos e, if_pos e]
          · rw [if_neg e, if_neg e]; exact h4 k (by omega)
        · rw [if_pos (p2.mpr g2), aN1, if_pos (nI_lt (by omega) (by decide)), sI_n (ck_91 Cx) (by omega) (by decide)]
          unfold m_X10_listGaps_B48
          rw [nI_1, nI_1, cnt_s, gt]
          rfl
      · have gf : gpB B n = false := by unfold gpB sB; rw [decide_eq_false g2]; simp
        have sk := skip gf
        refine ⟨(nI (cnt (gpB B) (n + 1)), nI (n + 1), x), ⟨rfl, rfl, h3, by rw [sk.1, sk.2]; exact h4⟩, ?_⟩
        rw [if_neg (fun q => g2 (p2.mp q)), sk.1]
        unfold m_X10_listGaps_B48
        rw [nI_1]
  case he =>
    rintro f ⟨a, b, x⟩ ⟨h1, h2, h3, h4⟩
    dsimp only at h1 h2 h3 h4 ⊢
    subst h1 h2
    rw [m_X10_listGaps_L4, if_neg (nlt_lit (Nat.le_refl _) (by decide))]
    exact ⟨x, rfl, h3, h4⟩
