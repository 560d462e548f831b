/-! ===== gaps by the class ===== -/
def opB (W : Nat → Int32) (c : Nat) : Bool := !shW W c && !frW W c
def stO (W : Nat → Int32) (c : Nat) : Bool := opB W c && stB W c
theorem kd_op {W : Nat → Int32} {c : Nat} : kdB W c = 0 ↔ opB W c = true := by
  unfold kdB opB
  cases shW W c <;> cases frW W c <;> simp
def cn (v : Nat) : Nat := if v % 2 = 0 then v / 2 else 144 + v / 2
theorem cn_e (c : Nat) : cn (2 * c) = c := by unfold cn; rw [if_pos (by omega)]; omega
theorem cn_o (c : Nat) : cn (2 * c + 1) = 144 + c := by unfold cn; rw [if_neg (by omega)]; omega
theorem cn_lt {v : Nat} (h : v < 288) : cn v < 288 := by unfold cn; split <;> omega
theorem cn_inj {u v : Nat} (hu : u < 288) (hv : v < 288) (h : cn u = cn v) : u = v := by
  unfold cn at h
  split at h <;> split at h <;> omega
def pcC (p : Nat) : Int32 := if p = 0 then -2 else nI (cn (p - 1))
theorem pcC_0 : pcC 0 = -2 := rfl
theorem pcC_s (u : Nat) : pcC (u + 1) = nI (cn u) := by unfold pcC; rw [if_neg (by omega)]; rfl
def pvC (s p : Nat) : Int32 := if s = 0 then -1 else pcC p
def CB (z : Hp) (qa : Nat) (B : BS) : Prop := zI z 74 5 = nI B.2.2.2 ∧ (∀ j, j < B.2.2.2 → zI z qa j = nI (cn (B.2.2.1 j))) ∧ ∀ v, v < 288 → zI z 80 (cn v) = pvC (B.1 v) (B.2.1 v)
def GS (z : Hp) (qa : Nat) (W : Nat → Int32) : Prop := LayC z ∧ zR z 74 3 = some qa ∧ (qa = 78 ∨ qa = 79) ∧ (∀ c, c < 144 → zI z 75 c = nI (kdB W c)) ∧ ∀ c, c < 144 → zI z 76 c = bI (stB W c)
theorem GS.fi {P : Nat → Prop} {z y : Hp} {qa : Nat} {W : Nat → Int32} (h : GS z qa W) (F : Fi P z y) (hp : ∀ a, P a → a ≠ 75 ∧ a ≠ 76) : GS y qa W :=
  ⟨h.1.fi F, by rw [F.2.2.2.1]; exact h.2.1, h.2.2.1, fun c hc => by rw [F.2.2.2.2 75 (fun q => (hp 75 q).1 rfl)]; exact h.2.2.2.1 c hc, fun c hc => by rw [F.2.2.2.2 76 (fun q => (hp 76 q).2 rfl)]; exact h.2.2.2.2 c hc⟩
def TB (z : Hp) (t : Nat → Bool) (e : Nat → Nat → Bool) : Prop := (∀ c, c < 144 → zI z 81 c = bI (t c)) ∧ ∀ c w d, c < 144 → w < 4 → bsC c w = some d → zI z 82 (4 * c + w) = bI (e c d)
theorem TB.fi {P : Nat → Prop} {z y : Hp} {t : Nat → Bool} {e : Nat → Nat → Bool} (h : TB z t e) (F : Fi P z y) (hp : ∀ a, P a → a ≠ 81 ∧ a ≠ 82) : TB y t e :=
  ⟨fun c hc => by rw [F.2.2.2.2 81 (fun q => (hp 81 q).1 rfl)]; exact h.1 c hc, fun c w d hc hw hb => by rw [F.2.2.2.2 82 (fun q => (hp 82 q).2 rfl)]; exact h.2 c w d hc hw hb⟩
theorem ckq {z : Hp} {qa : Nat} (hC : LayC z) (h : qa = 78 ∨ qa = 79) : zK z qa = (1, 288) := by
  rcases h with rfl | rfl
  · exact ck_78 hC
  · exact ck_79 hC
theorem come_ok {z : Hp} {qa v p i : Nat} {W : Nat → Int32} {B : BS} {E : Nat → Nat → Prop} {sr tg : Nat → Bool} (hG : GS z qa W) (h : CB z qa B) (hB : BI E sr tg B i) (hv : v < 288) :
    ∃ y, m_X10_come 74 (nI (cn v)) (pcC p) z = some ((), y) ∧ Fi (fun a => a = 74 ∨ a = qa ∨ a = 80) z y ∧ CB y qa (psh B v p) := by
  obtain ⟨hC, hq, hqa, _, _⟩ := hG
  obtain ⟨c1, c2, c3⟩ := h
  have hcv := cn_lt hv
  unfold m_X10_come psh
  rw [gR_eq (by rw [ck_74 hC]) (cr_74_7 hC), aI_n (ck_80 hC) hcv (by decide), c3 v hv]
  by_cases g : B.1 v = 0
  · have hm' := hB.lt hv g
    have e1 : pvC (B.1 v) (B.2.1 v) = -1 := by unfold pvC; rw [if_pos g]
    obtain ⟨z4, h4⟩ : ∃ y, y = wI z 80 (ups (zI z 80) (cn v) (pcC p)) := ⟨_, rfl⟩
    have C4 : LayC z4 := hC.of (by rw [h4]; rfl) (by rw [h4]; rfl)
    have q4 : zR z4 74 3 = some qa := by rw [h4]; exact hq
    have n4 : zI z4 74 5 = nI B.2.2.2 := by rw [h4, zI_ne (by decide)]; exact c1
    have qq4 : zI z4 qa = zI z qa := by rw [h4, zI_ne (by omega)]
    obtain ⟨z7, h7⟩ : ∃ y, y = wI z4 qa (ups (zI z qa) B.2.2.2 (nI (cn v))) := ⟨_, rfl⟩
    have C7 : LayC z7 := C4.of (by rw [h7]; rfl) (by rw [h7]; rfl)
    have n7 : zI z7 74 5 = nI B.2.2.2 := by rw [h7, zI_ne (by omega)]; exact n4
    obtain ⟨z9, h9⟩ : ∃ y, y = wI z7 74 (ups (zI z7 74) 5 (nI (B.2.2.2 + 1))) := ⟨_, rfl⟩
    rw [e1, if_pos rfl, gI_eq (by rw [ck_74 hC]), c1, if_pos (lt_lit hm' (by decide)), gR_eq (by rw [ck_74 hC]) (cr_74_7 hC), sI_n (ck_80 hC) hcv (by decide), ← h4, gR_eq (by rw [ck_74 C4]) q4, gI_eq (by rw [ck_74 C4]), n4, sI_n (ckq C4 hqa) hm' (by decide), qq4, ← h7, gI_eq (by rw [ck_74 C7]), n7, nI_1, pI_eq (by rw [ck_74 C7]), ← h9]
    refine ⟨z9, rfl, ?_, ?_⟩
    · rw [h9, h7, h4]
      exact ((Fi.w (by omega)).trans (Fi.w (by omega))).trans (Fi.w (by omega))
    · rw [if_pos g]
      refine ⟨by rw [h9, zI_eq, up_eq], fun j hj => ?_, fun w hw => ?_⟩
      · dsimp only at hj ⊢
        rw [h9, zI_ne (by omega), h7, zI_eq, ups_eq, ups_eq]
        by_cases k : j = B.2.2.2
        · rw [if_pos k, if_pos k]
        · rw [if_neg k, if_neg k]; exact c2 j (by omega)
      · dsimp only
        rw [h9, zI_ne (by decide), h7, zI_ne (by omega), h4, zI_eq, ups_eq, ups_eq, ups_eq]
        by_cases k : w = v
        · rw [if_pos k, if_pos (by rw [k]), if_pos k]
          unfold pvC
          rw [if_neg (by omega)]
        · rw [if_neg k, if_neg (fun q => k (cn_inj hw hv q)), if_neg k]
          exact c3 w hw
  · have e1 : ¬ pvC (B.1 v) (B.2.1 v) = -1 := by
      unfold pvC
      rw [if_neg g]
      rcases hB.2.2.2.1 v hv g with ⟨q, _⟩ | ⟨u, u1, u2, _⟩
      · rw [q]; decide
      · rw [u2, pcC_s]
        have := cn_lt u1
        exact nI_ne_m1 (by omega)
    rw [if_neg e1, if_neg g]
    exact ⟨z, rfl, Fi.rfl', c1, c2, c3⟩
theorem xor1 : ∀ w, w < 4 → nI w ^^^ 1 = nI (w ^^^ 1) ∧ w ^^^ 1 < 4 := by decide +kernel
theorem bsC_opp {c w d : Nat} (hc : c < 144) (hw : w < 4) (h : bsC c w = some d) : bsC d (w ^^^ 1) = some c := by
  have w4 : w = 0 ∨ w = 1 ∨ w = 2 ∨ w = 3 := by omega
  rcases w4 with rfl | rfl | rfl | rfl
  · rw [show (0 ^^^ 1 : Nat) = 1 by decide]
    simp only [bsC] at h ⊢
    simp at h ⊢
    omega
  · rw [show (1 ^^^ 1 : Nat) = 0 by decide]
    simp only [bsC] at h ⊢
    simp at h ⊢
    omega
  · rw [show (2 ^^^ 1 : Nat) = 3 by decide]
    simp only [bsC] at h ⊢
    simp at h ⊢
    omega
  · rw [show (3 ^^^ 1 : Nat) = 2 by decide]
    simp only [bsC] at h ⊢
    simp at h ⊢
    omega
theorem bsC_inj {c w w2 d : Nat} (hw : w < 4) (hw2 : w2 < 4) (h : bsC c w = some d) (h2 : bsC c w2 = some d) : w = w2 := by
  have w4 : w = 0 ∨ w = 1 ∨ w = 2 ∨ w = 3 := by omega
  have w5 : w2 = 0 ∨ w2 = 1 ∨ w2 = 2 ∨ w2 = 3 := by omega
  rcases w4 with rfl | rfl | rfl | rfl <;> rcases w5 with rfl | rfl | rfl | rfl <;> simp only [bsC] at h h2 <;> simp at h h2 <;> omega
/-- one stands at node u = B's i-th; the search of the class goes on -/
def SI (W : Nat → Int32) (t : Nat → Bool) (e : Nat → Nat → Bool) (z y : Hp) (qa : Nat) (B C : BS) (i : Nat) : Prop := Fi (fun a => a = 74 ∨ a = qa ∨ a = 80) z y ∧ CB y qa C ∧ BI (RE (opB W) t e) (srN (stO W)) tgN C i ∧ Mn B C
theorem SI.come {W : Nat → Int32} {t : Nat → Bool} {e : Nat → Nat → Bool} {z y : Hp} {qa i u v : Nat} {B C : BS} (hG : GS z qa W) (h : SI W t e z y qa B C i) (hu : u < 288) (hv : v < 288) (hs : B.1 u ≠ 0) (hE : RE (opB W) t e u v) :
    ∃ x, m_X10_come 74 (nI (cn v)) (nI (cn u)) y = some ((), x) ∧ ∃ D, SI W t e z x qa B D i ∧ Mn C D ∧ D.1 v ≠ 0 := by
  obtain ⟨F, hC, hB, hM⟩ := h
  have hqa := hG.2.2.1
  have hGy : GS y qa W := hG.fi F (fun a ha => by omega)
  obtain ⟨x, r, F2, c2⟩ := come_ok (p := u + 1) hGy hC hB hv
  rw [pcC_s] at r
  have m2 := psh_mn (p := u + 1) hB hv
  exact ⟨x, r, psh C v (u + 1), ⟨F.trans F2, c2, hB.psh hv (Or.inr ⟨u, hu, rfl, hM.sn hs, hE⟩), hM.trans m2.1⟩, m2.1, m2.2⟩
theorem insideC {W : Nat → Int32} {t : Nat → Bool} {e : Nat → Nat → Bool} {z : Hp} {qa i c : Nat} {B : BS} (hG : GS z qa W) (hT : TB z t e) (hC : CB z qa B) (hB : BI (RE (opB W) t e) (srN (stO W)) tgN B i) (hc : c < 144) (hs : B.1 (2 * c) ≠ 0) :
    ∃ y, m_X10_goOnFromInside 74 (nI c) z = some ((), y) ∧ ∃ C, SI W t e z y qa B C i ∧ ∀ v, v < 288 → RE (opB W) t e (2 * c) v → C.1 v ≠ 0 := by
  have hqa := hG.2.2.1
  have e2 : 2 * c / 2 = c := by omega
  -- the four sides
  have sides : ∀ x D, SI W t e z x qa B D i → ∃ y, m_X10_goOnFromInside_B19 74 (nI c) x = some ((), y) ∧ ∃ C, SI W t e z y qa B C i ∧ Mn D C ∧ ∀ d, d < 144 → nb c d → e d c = true → C.1 (2 * d + 1) ≠ 0 := by
    intro x D hD
    unfold m_X10_goOnFromInside_B19
    refine loopQ (X := Int32 × Hp) (fun f x => m_X10_goOnFromInside_L21 f 74 (nI c) x.1 x.2) (fun r => ∃ y, r = some ((), y) ∧ ∃ C, SI W t e z y qa B C i ∧ Mn D C ∧ ∀ d, d < 144 → nb c d → e d c = true → C.1 (2 * d + 1) ≠ 0) (fun n x => x.1 = nI n ∧ ∃ C, SI W t e z x.2 qa B C i ∧ Mn D C ∧ ∀ w d, w < n → bsC c w = some d → e d c = true → C.1 (2 * d + 1) ≠ 0) 4 ?hs ?he 0 FU (0, x) (by decide) (by decide) ⟨rfl, D, hD, Mn.rfl', fun w d h => absurd h (by omega)⟩
    case hs =>
      rintro n f ⟨v, x⟩ hn ⟨h1, C, h2, h3, h4⟩
      dsimp only at h1 h2
      subst h1
      have hGx : GS x qa W := hG.fi h2.1 (fun a ha => by omega)
      have hTx : TB x t e := hT.fi h2.1 (fun a ha => by omega)
      have Cx := hGx.1
      left
      dsimp only
      rw [m_X10_goOnFromInside_L21, if_pos (lt_lit hn (by decide)), besideC_ok hc hn, bnd_some]
      cases hb : bsC c n with
      | none =>
        refine ⟨(nI (n + 1), x), ⟨rfl, C, h2, h3, fun w d hw hbd he => ?_⟩, ?_⟩
        · by_cases g : w = n
          · rw [g, hb] at hbd; cases hbd
          · exact h4 w d (by omega) hbd he
        · rw [if_pos (show oN none = -1 from rfl)]
          unfold m_X10_goOnFromInside_B62
          rw [nI_1]
      | some d =>
        have hnb := bsC_nb hc hn hb
        have hd := hnb.2
        have x1 := xor1 n hn
        have ov := hTx.2 d (n ^^^ 1) c hd x1.2 (bsC_opp hc hn hb)
        rw [if_neg (show ¬ oN (some d) = -1 from nI_ne_m1 (by omega)), show oN (some d) = nI d from rfl, gR_eq (by rw [ck_74 Cx]) (cr_74_9 Cx), x1.1, show (4 : Int32) = nI 4 from rfl, pk_mul, nI_add, aI_n (ck_82 Cx) (by have := x1.2; omega) (by decide), ov]
        cases he : e d c with
        | false =>
          refine ⟨(nI (n + 1), x), ⟨rfl, C, h2, h3, fun w d' hw hbd he' => ?_⟩, ?_⟩
          · by_cases g : w = n
            · rw [g, hb] at hbd; cases hbd; rw [he] at he'; cases he'
            · exact h4 w d' (by omega) hbd he'
          · rw [if_pos (by decide)]
            unfold m_X10_goOnFromInside_B62
            rw [nI_1]
        | true =>
          obtain ⟨y, r, E2, s2, m2, n2⟩ := h2.come (u := 2 * c) (v := 2 * d + 1) hG (by omega) (by omega) hs (Or.inl ⟨by omega, by omega, Or.inr ⟨by rw [e2, show (2 * d + 1) / 2 = d by omega]; exact hnb.1, by rw [e2, show (2 * d + 1) / 2 = d by omega]; exact he⟩⟩)
          rw [cn_e, cn_o] at r
          refine ⟨(nI (n + 1), y), ⟨rfl, E2, s2, h3.trans m2, fun w d' hw hbd he' => ?_⟩, ?_⟩
          · by_cases g : w = n
            · rw [g, hb] at hbd; cases hbd; exact n2
            · exact m2.sn (h4 w d' (by omega) hbd he')
          · rw [if_neg (by decide), isC_eq (by rw [ck_74 Cx]), c_add, show (OfNat.ofNat 144 : Nat) + d = 144 + d from rfl, r, bnd_some]
            unfold m_X10_goOnFromInside_B62
            rw [nI_1]
    case he =>
      rintro f ⟨v, x⟩ ⟨h1, C, h2, h3, h4⟩
      dsimp only at h1 h2 ⊢
      subst h1
      refine ⟨x, ?_, C, h2, h3, fun d hd hn he => ?_⟩
      · rw [m_X10_goOnFromInside_L21, if_neg (nlt_lit (Nat.le_refl _) (by decide))]
      · obtain ⟨w, hw, hb⟩ := nb_bsC hc hd hn
        exact h4 w d hw hb he
  have fin : ∀ C : BS, (t c = false → C.1 (2 * c + 1) ≠ 0) → (∀ d, d < 144 → nb c d → e d c = true → C.1 (2 * d + 1) ≠ 0) → ∀ v, v < 288 → RE (opB W) t e (2 * c) v → C.1 v ≠ 0 := by
    intro C a1 a2 v hv hE
    rcases hE with ⟨_, m2, q⟩ | ⟨m1, _, _⟩
    · rw [e2] at q
      have ev : v = 2 * (v / 2) + 1 := by omega
      rcases q with ⟨q1, q2⟩ | ⟨q1, q2⟩
      · rw [ev, q1]; exact a1 q2
      · rw [ev]; exact a2 (v / 2) (by omega) q1 q2
    · omega
  have h0 : SI W t e z z qa B B i := ⟨Fi.rfl', hC, hB, Mn.rfl'⟩
  unfold m_X10_goOnFromInside
  rw [gR_eq (by rw [ck_74 hG.1]) (cr_74_8 hG.1), aI_n (ck_81 hG.1) hc (by decide), hT.1 c hc]
  cases ht : t c with
  | false =>
    obtain ⟨x, r, D, s1, m1, n1⟩ := h0.come (u := 2 * c) (v := 2 * c + 1) hG (by omega) (by omega) hs (Or.inl ⟨by omega, by omega, Or.inl ⟨by omega, by rw [e2]; exact ht⟩⟩)
    rw [cn_e, cn_o] at r
    obtain ⟨y, r2, C, s2, m2, n2⟩ := sides x D s1
    refine ⟨y, ?_, C, s2, fin C (fun _ => m2.sn n1) n2⟩
    rw [if_pos (by decide), isC_eq (by rw [ck_74 hG.1]), c_add, show (OfNat.ofNat 144 : Nat) + c = 144 + c from rfl, r, bnd_some, r2]
  | true =>
    obtain ⟨y, r2, C, s2, m2, n2⟩ := sides z B h0
    refine ⟨y, ?_, C, s2, fin C (fun g => by rw [ht] at g; cases g) n2⟩
    rw [if_neg (by decide), r2]
theorem outsideC {W : Nat → Int32} {t : Nat → Bool} {e : Nat → Nat → Bool} {z : Hp} {qa i c : Nat} {B : BS} (hG : GS z qa W) (hT : TB z t e) (hC : CB z qa B) (hB : BI (RE (opB W) t e) (srN (stO W)) tgN B i) (hc : c < 144) (hs : B.1 (2 * c + 1) ≠ 0) :
    ∃ y, m_X10_goOnFromOutside 74 (nI c) z = some ((), y) ∧ ∃ C, SI W t e z y qa B C i ∧ ∀ v, v < 288 → RE (opB W) t e (2 * c + 1) v → C.1 v ≠ 0 := by
  have hqa := hG.2.2.1
  have e2 : (2 * c + 1) / 2 = c := by omega
  have sides : ∀ x D, SI W t e z x qa B D i → ∃ y, m_X10_goOnFromOutside_B19 74 (nI c) x = some ((), y) ∧ ∃ C, SI W t e z y qa B C i ∧ Mn D C ∧ ∀ d, d < 144 → nb c d → opB W d = true → C.1 (2 * d) ≠ 0 := by
    intro x D hD
    unfold m_X10_goOnFromOutside_B19
    refine loopQ (X := Int32 × Hp) (fun f x => m_X10_goOnFromOutside_L21 f 74 (nI c) x.1 x.2) (fun r => ∃ y, r = some ((), y) ∧ ∃ C, SI W t e z y qa B C i ∧ Mn D C ∧ ∀ d, d < 144 → nb c d → opB W d = true → C.1 (2 * d) ≠ 0) (fun n x => x.1 = nI n ∧ ∃ C, SI W t e z x.2 qa B C i ∧ Mn D C ∧ ∀ w d, w < n → bsC c w = some d → opB W d = true → C.1 (2 * d) ≠ 0) 4 ?hs ?he 0 FU (0, x) (by decide) (by decide) ⟨rfl, D, hD, Mn.rfl', fun w d h => absurd h (by omega)⟩
    case hs =>
      rintro n f ⟨v, x⟩ hn ⟨h1, C, h2, h3, h4⟩
      dsimp only at h1 h2
      subst h1
      have hGx : GS x qa W := hG.fi h2.1 (fun a ha => by omega)
      have Cx := hGx.1
      left
      dsimp only
      rw [m_X10_goOnFromOutside_L21, if_pos (lt_lit hn (by decide)), besideC_ok hc hn, bnd_some]
      cases hb : bsC c n with
      | none =>
        refine ⟨(nI (n + 1), x), ⟨rfl, C, h2, h3, fun w d hw hbd he => ?_⟩, ?_⟩
        · by_cases g : w = n
          · rw [g, hb] at hbd; cases hbd
          · exact h4 w d (by omega) hbd he
        · rw [if_pos (show oN none = -1 from rfl)]
          unfold m_X10_goOnFromOutside_B56
          rw [nI_1]
      | some d =>
        have hnb := bsC_nb hc hn hb
        have hd := hnb.2
        have kd3 : kdB W d < 3 := by unfold kdB; split <;> (try split) <;> omega
        rw [if_neg (show ¬ oN (some d) = -1 from nI_ne_m1 (by omega)), show oN (some d) = nI d from rfl, gR_eq (by rw [ck_74 Cx]) (cr_74_0 Cx), aI_n (ck_75 Cx) hd (by decide), hGx.2.2.2.1 d hd]
        cases he : opB W d with
        | false =>
          have nk : ¬ kdB W d = 0 := fun g => by rw [kd_op.mp g] at he; cases he
          refine ⟨(nI (n + 1), x), ⟨rfl, C, h2, h3, fun w d' hw hbd he' => ?_⟩, ?_⟩
          · by_cases g : w = n
            · rw [g, hb] at hbd; cases hbd; rw [he] at he'; cases he'
            · exact h4 w d' (by omega) hbd he'
          · rw [if_neg (show ¬ nI (kdB W d) = 0 from fun g => nk ((nI_eq (b := 0) (by omega) (by decide)).mp g))]
            unfold m_X10_goOnFromOutside_B56
            rw [nI_1]
        | true =>
          obtain ⟨y, r, E2, s2, m2, n2⟩ := h2.come (u := 2 * c + 1) (v := 2 * d) hG (by omega) (by omega) hs (Or.inr ⟨by omega, by omega, Or.inr ⟨by rw [e2, show 2 * d / 2 = d by omega]; exact hnb.1, by rw [show 2 * d / 2 = d by omega]; exact he⟩⟩)
          rw [cn_e, cn_o] at r
          refine ⟨(nI (n + 1), y), ⟨rfl, E2, s2, h3.trans m2, fun w d' hw hbd he' => ?_⟩, ?_⟩
          · by_cases g : w = n
            · rw [g, hb] at hbd; cases hbd; exact n2
            · exact m2.sn (h4 w d' (by omega) hbd he')
          · rw [if_pos (by rw [kd_op.mpr he]; rfl), isC_eq (by rw [ck_74 Cx]), c_add, show (OfNat.ofNat 144 : Nat) + c = 144 + c from rfl, r, bnd_some]
            unfold m_X10_goOnFromOutside_B56
            rw [nI_1]
    case he =>
      rintro f ⟨v, x⟩ ⟨h1, C, h2, h3, h4⟩
      dsimp only at h1 h2 ⊢
      subst h1
      refine ⟨x, ?_, C, h2, h3, fun d hd hn he => ?_⟩
      · rw [m_X10_goOnFromOutside_L21, if_neg (nlt_lit (Nat.le_refl _) (by decide))]
      · obtain ⟨w, hw, hb⟩ := nb_bsC hc hd hn
        exact h4 w d hw hb he
  have fin : ∀ C : BS, (t c = true → C.1 (2 * c) ≠ 0) → (∀ d, d < 144 → nb c d → opB W d = true → C.1 (2 * d) ≠ 0) → ∀ v, v < 288 → RE (opB W) t e (2 * c + 1) v → C.1 v ≠ 0 := by
    intro C a1 a2 v hv hE
    rcases hE with ⟨m1, _, _⟩ | ⟨_, m2, q⟩
    · omega
    · rw [e2] at q
      have ev : v = 2 * (v / 2) := by omega
      rcases q with ⟨q1, q2⟩ | ⟨q1, q2⟩
      · rw [ev, q1]; exact a1 q2
      · rw [ev]; exact a2 (v / 2) (by omega) q1 q2
  have h0 : SI W t e z z qa B B i := ⟨Fi.rfl', hC, hB, Mn.rfl'⟩
  unfold m_X10_goOnFromOutside
  rw [gR_eq (by rw [ck_74 hG.1]) (cr_74_8 hG.1), aI_n (ck_81 hG.1) hc (by decide), hT.1 c hc]
  cases ht : t c with
  | true =>
    obtain ⟨x, r, D, s1, m1, n1⟩ := h0.come (u := 2 * c + 1) (v := 2 * c) hG (by omega) (by omega) hs (Or.inr ⟨by omega, by omega, Or.inl ⟨by omega, by rw [e2]; exact ht⟩⟩)
    rw [cn_e, cn_o] at r
    obtain ⟨y, r2, C, s2, m2, n2⟩ := sides x D s1
    refine ⟨y, ?_, C, s2, fin C (fun _ => m2.sn n1) n2⟩
    rw [if_neg (by decide), isC_eq (by rw [ck_74 hG.1]), c_add, show (OfNat.ofNat 144 : Nat) + c = 144 + c from rfl, r, bnd_some, r2]
  | false =>
    obtain ⟨y, r2, C, s2, m2, n2⟩ := sides z B h0
    refine ⟨y, ?_, C, s2, fin C (fun g => by rw [ht] at g; cases g) n2⟩
    rw [if_pos (by decide), r2]
def rsC : Option Nat → Int32
  | none => -1
  | some v => nI (cn v)
/-- what a search finds -/
def Fnd (W : Nat → Int32) (t : Nat → Bool) (e : Nat → Nat → Bool) (B : BS) : Option Nat → Prop
  | none => Dn (opB W) (stO W) t e B
  | some v => v < 288 ∧ B.1 v ≠ 0 ∧ tgN v = true
theorem searchC {W : Nat → Int32} {t : Nat → Bool} {e : Nat → Nat → Bool} {z : Hp} {qa : Nat} (hG : GS z qa W) (hT : TB z t e) :
    ∃ r y B i, m_X10_searchPath 74 z = some (rsC r, y) ∧ Fi (fun a => a = 74 ∨ a = qa ∨ a = 80) z y ∧ CB y qa B ∧ BI (RE (opB W) t e) (srN (stO W)) tgN B i ∧ Fnd W t e B r := by
  have hqa := hG.2.2.1
  obtain ⟨z1, hz1⟩ : ∃ y, y = wI z 80 (fun i => if i < 288 then -1 else zI z 80 i) := ⟨_, rfl⟩
  have C1 : LayC z1 := hG.1.of (by rw [hz1]; rfl) (by rw [hz1]; rfl)
  obtain ⟨z2, hz2⟩ : ∃ y, y = wI z1 74 (ups (zI z1 74) 5 0) := ⟨_, rfl⟩
  have F2 : Fi (fun a => a = 74 ∨ a = qa ∨ a = 80) z z2 := by
    rw [hz2, hz1]
    exact (Fi.w (by omega)).trans (Fi.w (by omega))
  have cb0 : CB z2 qa bs0 := by
    refine ⟨by rw [hz2, zI_eq, up_eq]; rfl, fun j hj => absurd hj (Nat.not_lt_zero _), fun v hv => ?_⟩
    rw [hz2, zI_ne (by decide), hz1, zI_eq, if_pos (cn_lt hv)]
    rfl
  unfold m_X10_searchPath
  rw [gR_eq (by rw [ck_74 hG.1]) (cr_74_7 hG.1), fill_ok (-1) (ck_80 hG.1) (by decide), bnd_some, ← hz1, pI_eq (by rw [ck_74 C1]), ← hz2]
  -- the loop over the queue
  have qu : ∀ x D, Fi (fun a => a = 74 ∨ a = qa ∨ a = 80) z x → CB x qa D → BI (RE (opB W) t e) (srN (stO W)) tgN D 0 → (∀ c, c < 144 → stO W c = true → D.1 (2 * c) ≠ 0) →
      ∃ r y B i, m_X10_searchPath_B53 74 x = some (rsC r, y) ∧ Fi (fun a => a = 74 ∨ a = qa ∨ a = 80) z y ∧ CB y qa B ∧ BI (RE (opB W) t e) (srN (stO W)) tgN B i ∧ Fnd W t e B r := by
    intro x D Fx cx bx sx
    unfold m_X10_searchPath_B53
    refine loopQ (X := Int32 × Hp) (fun f x => m_X10_searchPath_L55 f 74 x.1 x.2) (fun r => ∃ a y B i, r = some (rsC a, y) ∧ Fi (fun a => a = 74 ∨ a = qa ∨ a = 80) z y ∧ CB y qa B ∧ BI (RE (opB W) t e) (srN (stO W)) tgN B i ∧ Fnd W t e B a) (fun i x => x.1 = nI i ∧ ∃ C, Fi (fun a => a = 74 ∨ a = qa ∨ a = 80) z x.2 ∧ CB x.2 qa C ∧ BI (RE (opB W) t e) (srN (stO W)) tgN C i ∧ ∀ c, c < 144 → stO W c = true → C.1 (2 * c) ≠ 0) 289 ?hs ?he 0 FU (0, x) (by decide) (by decide) ⟨rfl, D, Fx, cx, bx, sx⟩
    case hs =>
      rintro i f ⟨v, x⟩ hi ⟨h1, C, h2, h3, h4, h5⟩
      dsimp only at h1 h2 h3
      subst h1
      have hGx : GS x qa W := hG.fi h2 (fun a ha => by omega)
      have hTx : TB x t e := hT.fi h2 (fun a ha => by omega)
      have Cx := hGx.1
      have hle := h4.le
      have him := h4.2.2.2.2.2
      dsimp only
      rw [m_X10_searchPath_L55, gI_eq (by rw [ck_74 Cx]), h3.1]
      by_cases g : i < C.2.2.2
      · have bi := h4.1 i g
        obtain ⟨u, hu⟩ : ∃ u, u = C.2.2.1 i := ⟨_, rfl⟩
        rw [← hu] at bi
        have hu0 : C.1 u ≠ 0 := by rw [bi.2]; omega
        have eu := h3.2.1 i g
        rw [← hu] at eu
        rw [if_pos (nI_lt g (by omega)), if_pos (lt_lit (show i < 288 by omega) (by decide)), gR_eq (by rw [ck_74 Cx]) hGx.2.1, aI_n (ckq Cx hqa) (by omega) (by decide), eu]
        by_cases pe : u % 2 = 0
        · obtain ⟨c, rfl⟩ : ∃ c, u = 2 * c := ⟨u / 2, by omega⟩
          obtain ⟨y, r, E2, s2, n2⟩ := insideC hGx hTx h3 h4 (show c < 144 by omega) hu0
          left
          have eq2 : E2.2.2.1 i = 2 * c := by rw [s2.2.2.2.2.1 i g]; exact hu.symm
          refine ⟨(nI (i + 1), y), ⟨rfl, E2, h2.trans s2.1, s2.2.1, s2.2.2.1.next (Nat.lt_of_lt_of_le g s2.2.2.2.2.2) ?_ (by rw [eq2]; exact n2), fun c hc hs => s2.2.2.2.sn (h5 c hc hs)⟩, ?_⟩
          · rw [eq2]
            unfold tgN
            rw [decide_eq_false (by omega), Bool.false_and]
          · rw [cn_e, if_pos (lt_lit (show c < 144 by omega) (by decide)), isC_eq (by rw [ck_74 Cx]), r, bnd_some]
            unfold m_X10_searchPath_B114
            rw [nI_1]
        · obtain ⟨c, rfl⟩ : ∃ c, u = 2 * c + 1 := ⟨u / 2, by omega⟩
          have hc : c < 144 := by omega
          have es : nI (144 + c) - 144 = nI c := by rw [show (144 : Int32) = nI 144 from rfl, sub_nN (by omega), show 144 + c - 144 = c by omega]
          rw [cn_o, if_neg (nlt_lit (show 144 ≤ 144 + c by omega) (by omega)), es, rimC_ok hc, bnd_some]
          cases hr : rimB c with
          | true =>
            right
            refine ⟨some (2 * c + 1), x, C, i, ?_, h2, h3, h4, bi.1, hu0, ?_⟩
            · rw [if_neg (by decide)]
              show some (nI (144 + c), x) = some (nI (cn (2 * c + 1)), x)
              rw [cn_o]
            · unfold tgN
              rw [show (2 * c + 1) / 2 = c by omega, hr, decide_eq_true (by omega)]
              rfl
          | false =>
            obtain ⟨y, r, E2, s2, n2⟩ := outsideC hGx hTx h3 h4 hc hu0
            left
            have eq2 : E2.2.2.1 i = 2 * c + 1 := by rw [s2.2.2.2.2.1 i g]; exact hu.symm
            refine ⟨(nI (i + 1), y), ⟨rfl, E2, h2.trans s2.1, s2.2.1, s2.2.2.1.next (Nat.lt_of_lt_of_le g s2.2.2.2.2.2) ?_ (by rw [eq2]; exact n2), fun c hc hs => s2.2.2.2.sn (h5 c hc hs)⟩, ?_⟩
            · rw [eq2]
              unfold tgN
              rw [show (2 * c + 1) / 2 = c by omega, hr, Bool.and_false]
            · rw [if_pos (by decide), isC_eq (by rw [ck_74 Cx]), r, bnd_some]
              unfold m_X10_searchPath_B114
              rw [nI_1]
      · right
        have ei : i = C.2.2.2 := by omega
        refine ⟨none, x, C, i, ?_, h2, h3, h4, ?_⟩
        · rw [if_neg (nI_nlt (by omega) (by omega))]
          rfl
        · rw [ei] at h4
          refine h4.dn (fun v hv hs => ?_)
          unfold srN at hs
          rw [Bool.and_eq_true, decide_eq_true_eq] at hs
          have := h5 (v / 2) (by omega) hs.2
          rw [show 2 * (v / 2) = v by omega] at this
          exact this
    case he =>
      rintro f ⟨v, x⟩ ⟨h1, C, h2, h3, h4, h5⟩
      have := h4.le
      have := h4.2.2.2.2.2
      omega
  refine loopQ (X := Int32 × Hp) (fun f x => m_X10_searchPath_L15 m_X10_searchPath_B53 f 74 x.1 x.2) (fun r => ∃ a y B i, r = some (rsC a, y) ∧ Fi (fun a => a = 74 ∨ a = qa ∨ a = 80) z y ∧ CB y qa B ∧ BI (RE (opB W) t e) (srN (stO W)) tgN B i ∧ Fnd W t e B a) (fun n x => x.1 = nI n ∧ ∃ C, Fi (fun a => a = 74 ∨ a = qa ∨ a = 80) z x.2 ∧ CB x.2 qa C ∧ BI (RE (opB W) t e) (srN (stO W)) tgN C 0 ∧ ∀ c, c < n → stO W c = true → C.1 (2 * c) ≠ 0) 144 ?hs ?he 0 FU (0, z2) (by decide) (by decide) ⟨rfl, bs0, F2, cb0, BI.zero, fun c hc => absurd hc (by omega)⟩
  case hs =>
    rintro n f ⟨v, x⟩ hn ⟨h1, C, h2, h3, h4, h5⟩
    dsimp only at h1 h2 h3
    subst h1
    have hGx : GS x qa W := hG.fi h2 (fun a ha => by omega)
    have Cx := hGx.1
    have kd3 : kdB W n < 3 := by unfold kdB; split <;> (try split) <;> omega
    left
    dsimp only
    rw [m_X10_searchPath_L15, if_pos (lt_lit hn (by decide)), gR_eq (by rw [ck_74 Cx]) (cr_74_1 Cx), aI_n (ck_76 Cx) hn (by decide), hGx.2.2.2.2 n hn]
    have skip : stO W n = false → ∀ c, c < n + 1 → stO W c = true → C.1 (2 * c) ≠ 0 := fun g c hc hs => by
      by_cases k : c = n
      · rw [k, g] at hs; cases hs
      · exact h5 c (by omega) hs
    cases hst : stB W n with
    | false =>
      refine ⟨(nI (n + 1), x), ⟨rfl, C, h2, h3, h4, skip (by unfold stO; rw [hst, Bool.and_false])⟩, ?_⟩
      rw [if_pos (by decide)]
      unfold m_X10_searchPath_B47
      rw [nI_1]
    | true =>
      rw [if_neg (by decide), gR_eq (by rw [ck_74 Cx]) (cr_74_0 Cx), aI_n (ck_75 Cx) hn (by decide), hGx.2.2.2.1 n hn]
      cases hop : opB W n with
      | false =>
        have nk : ¬ kdB W n = 0 := fun g => by rw [kd_op.mp g] at hop; cases hop
        refine ⟨(nI (n + 1), x), ⟨rfl, C, h2, h3, h4, skip (by unfold stO; rw [hop, Bool.false_and])⟩, ?_⟩
        rw [if_neg (show ¬ nI (kdB W n) = 0 from fun g => nk ((nI_eq (b := 0) (by omega) (by decide)).mp g))]
        unfold m_X10_searchPath_B47
        rw [nI_1]
      | true =>
        obtain ⟨y, r, F3, c3⟩ := come_ok (v := 2 * n) (p := 0) hGx h3 h4 (by omega)
        have m2 := psh_mn (v := 2 * n) (p := 0) h4 (by omega)
        rw [cn_e, pcC_0] at r
        refine ⟨(nI (n + 1), y), ⟨rfl, psh C (2 * n) 0, h2.trans F3, c3, h4.psh (by omega) (Or.inl ⟨rfl, ?_⟩), fun c hc hs => ?_⟩, ?_⟩
        · unfold srN stO
          rw [show 2 * n / 2 = n by omega, hop, hst, decide_eq_true (by omega)]
          rfl
        · by_cases k : c = n
          · rw [k]; exact m2.2
          · exact m2.1.sn (h5 c (by omega) hs)
        · rw [if_pos (by rw [kd_op.mpr hop]; rfl), isC_eq (by rw [ck_74 Cx]), r, bnd_some]
          unfold m_X10_searchPath_B47
          rw [nI_1]
  case he =>
    rintro f ⟨v, x⟩ ⟨h1, C, h2, h3, h4, h5⟩
    dsimp only at h1 h2 h3 ⊢
    subst h1
    rw [m_X10_searchPath_L15, if_neg (nlt_lit (Nat.le_refl _) (by decide))]
    exact qu x C h2 h3 h4 h5
