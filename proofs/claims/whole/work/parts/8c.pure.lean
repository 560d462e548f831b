/-! ===== text: words, signs, numbers, faults ===== -/
def txw (q : Nat) : List Int32 := txc_T.getD q []
theorem tx_n : txc_T.length = 48 := by decide
theorem tx_l (q : Nat) : (txw q).length < 10 := by
  by_cases h : q < 48
  · exact (show ∀ q, q < 48 → (txw q).length < 10 by decide) q h
  · have : txw q = [] := by unfold txw; rw [List.getD_eq_getElem?_getD, List.getElem?_eq_none (by rw [tx_n]; omega)]; rfl
    rw [this]; decide
theorem tx_c : ∀ q, q < 48 → ∀ i, i < (txw q).length → ∃ m, m < 128 ∧ (txw q).getD i 0 = nI m := by
  have h : ∀ q, q < 48 → ∀ i, i < (txw q).length → ((txw q).getD i 0 = nI (nn ((txw q).getD i 0)) ∧ nn ((txw q).getD i 0) < 128) := by decide +kernel
  exact fun q hq i hi => ⟨_, (h q hq i hi).2, (h q hq i hi).1⟩
/-- is the token this word -/
def isW (b : Nat → Nat) (w : List Int32) (T : Tk) : Bool := decide (T.1 = 1 ∧ T.2.2.1 - T.2.1 = w.length ∧ ∀ i, i < w.length → nI (b (T.2.1 + i)) = w.getD i 0)
/-- is it this sign -/
def isS (c : Nat) (T : Tk) : Bool := decide (T.1 = 3 ∧ T.2.2.2 = c)
/-- token and fault -/
abbrev Ps := Tk × (Int32 × Int32)
def fl (c : Bool) (k : Int32) (p : Nat) (e : Int32 × Int32) : Int32 × Int32 := if e.1 = 0 ∧ c = true then (k, nI p) else e
theorem fl_f {k : Int32} {p : Nat} {e : Int32 × Int32} : fl false k p e = e := if_neg (fun g => absurd g.2 (by decide))
theorem fl_t {k : Int32} {p : Nat} {e : Int32 × Int32} (h : e.1 = 0) : fl true k p e = (k, nI p) := if_pos ⟨h, rfl⟩
theorem fl_b {c : Bool} {k : Int32} {p : Nat} {e : Int32 × Int32} (h : e.1 ≠ 0) : fl c k p e = e := if_neg (fun g => h g.1)
/-- a fault that came stays -/
theorem fl_n {c : Bool} {k : Int32} {p : Nat} {e : Int32 × Int32} (hk : k ≠ 0) (h : (fl c k p e).1 = 0) : e.1 = 0 ∧ c = false := by
  by_cases g : e.1 = 0
  · cases c with
    | false => exact ⟨g, rfl⟩
    | true => rw [fl_t g] at h; exact absurd h hk
  · rw [fl_b g] at h; exact absurd h g
def ad (b : Nat → Nat) (n : Nat) (s : Ps) : Ps := (nx b n s.1.2.2.1, s.2)
def fal (c : Bool) (k : Int32) (p : Nat) (s : Ps) : Ps := (s.1, fl c k p s.2)
def wd (b : Nat → Nat) (n : Nat) (w : List Int32) (s : Ps) : Ps := ad b n (fal (!isW b w s.1) 1 s.1.2.1 s)
def sg (b : Nat → Nat) (n c : Nat) (s : Ps) : Ps := ad b n (fal (!isS c s.1) 1 s.1.2.1 s)
def nmk (lo hi : Nat) (T : Tk) : Bool := decide (lo ≤ T.2.2.2 ∧ T.2.2.2 ≤ hi)
def nm (b : Nat → Nat) (n lo hi : Nat) (s : Ps) : Ps := if s.1.1 = 2 then fal (!nmk lo hi s.1) 2 s.1.2.1 (ad b n s) else fal true 1 s.1.2.1 s
def nmv (lo hi : Nat) (s : Ps) : Nat := if s.1.1 = 2 ∧ nmk lo hi s.1 = true then s.1.2.2.2 else lo
theorem nmv_b {lo hi : Nat} {s : Ps} (h : lo ≤ hi) : lo ≤ nmv lo hi s ∧ nmv lo hi s ≤ hi := by
  unfold nmv nmk
  split
  · rename_i g
    simpa using g.2
  · omega
/-- behind a minus, if there is one -/
def mn (b : Nat → Nat) (n : Nat) (s : Ps) : Ps := if isS 45 s.1 = true then ad b n s else s
def ngm (m : Nat) (s : Ps) : Nat := if isS 45 s.1 = true then m else 0
def ng (b : Nat → Nat) (n m : Nat) (s : Ps) : Ps := nm b n 0 (ngm m s) (mn b n s)
def ngv (b : Nat → Nat) (n m : Nat) (s : Ps) : Int32 := if (mn b n s).1.1 = 2 ∧ nmk 0 (ngm m s) (mn b n s).1 = true then (if isS 45 s.1 = true then - nI (mn b n s).1.2.2.2 else nI (mn b n s).1.2.2.2) else - nI m
/-- the class as a reader of tokens -/
def PC (z : Hp) (b : Nat → Nat) (n : Nat) (s : Ps) : Prop := LayC z ∧ BtC z b n ∧ TkC z s.1 ∧ vT n s.1 ∧ zI z 68 6 = s.2.1 ∧ zI z 68 7 = s.2.2
/-- reader and parser alone, but for the length and what was told -/
def FP (z y : Hp) : Prop := Fi (fun a => a = 66 ∨ a = 68) z y ∧ zI y 66 1 = zI z 66 1 ∧ zI y 68 3 = zI z 68 3 ∧ zI y 68 4 = zI z 68 4
theorem FP.rfl' {z : Hp} : FP z z := ⟨Fi.rfl', rfl, rfl, rfl⟩
theorem FP.trans {x y z : Hp} (h : FP x y) (g : FP y z) : FP x z := ⟨h.1.trans g.1, g.2.1.trans h.2.1, g.2.2.1.trans h.2.2.1, g.2.2.2.trans h.2.2.2⟩
theorem FP.fr {z y : Hp} (h : FR z y) : FP z y := ⟨h.1.mono (fun _ g => Or.inl g), h.2, by rw [h.1.2.2.2.2 68 (by omega)], by rw [h.1.2.2.2.2 68 (by omega)]⟩
theorem FP.w {z : Hp} {k : Nat} {v : Int32} (hk : 5 ≤ k) : FP z (wI z 68 (ups (zI z 68) k v)) := ⟨Fi.w (Or.inr rfl), by rw [zI_ne (by decide)], by rw [zI_eq, up_ne (by omega)], by rw [zI_eq, up_ne (by omega)]⟩
theorem PC.fr {z y : Hp} {b : Nat → Nat} {n : Nat} {s : Ps} {T : Tk} (h : PC z b n s) (F : FR z y) (hT : TkC y T) (hv : vT n T) : PC y b n (T, s.2) :=
  ⟨h.1.fi F.1, h.2.1.fr F, hT, hv, by rw [F.1.2.2.2.2 68 (by omega)]; exact h.2.2.2.2.1, by rw [F.1.2.2.2.2 68 (by omega)]; exact h.2.2.2.2.2⟩
theorem BtC.lt {z : Hp} {b : Nat → Nat} {n : Nat} (h : BtC z b n) : ∀ i, i < n → b i < 256 := fun i hi => (h.2.2 i hi).2
theorem ad_C {z : Hp} {b : Nat → Nat} {n : Nat} {s : Ps} (h : PC z b n s) : ∃ y, m_X4_advance 66 z = some ((), y) ∧ FP z y ∧ PC y b n (ad b n s) := by
  have v := h.2.2.2.1
  obtain ⟨y, r, F, T⟩ := advC h.1 h.2.1 v.2.2.2.1 h.2.2.1.2.2.1
  exact ⟨y, r, FP.fr F, h.fr F T (nx_v h.2.1.lt v.2.2.2.1)⟩
theorem fail_C {z : Hp} {b : Nat → Nat} {n : Nat} {s : Ps} (k : Int32) (p : Nat) (h : PC z b n s) : ∃ y, m_X2_fail 68 k (nI p) z = some ((), y) ∧ FP z y ∧ PC y b n (fal true k p s) := by
  obtain ⟨hC, hB, hT, hv, h6, h7⟩ := h
  unfold m_X2_fail fal
  rw [gI_eq (by rw [ck_68 hC]), h6]
  by_cases c : s.2.1 = 0
  · obtain ⟨z1, hz1⟩ : ∃ y, y = wI z 68 (ups (zI z 68) 6 k) := ⟨_, rfl⟩
    have F1 : FP z z1 := by rw [hz1]; exact FP.w (by decide)
    have C1 : LayC z1 := hC.fi F1.1
    have e1 : zI z1 68 = ups (zI z 68) 6 k := by rw [hz1, zI_eq]
    have F2 : FP z (wI z1 68 (ups (zI z1 68) 7 (nI p))) := F1.trans (FP.w (by decide))
    refine ⟨wI z1 68 (ups (zI z1 68) 7 (nI p)), ?_, F2, hC.fi F2.1, ?_, ?_, hv, ?_, ?_⟩
    · rw [if_pos c, pI_eq (by rw [ck_68 hC]), ← hz1, pI_eq (by rw [ck_68 C1])]
    · exact ⟨by rw [F2.2.1]; exact hB.1, hB.2.1, fun i hi => by rw [F2.1.2.2.2.2 67 (by omega)]; exact hB.2.2 i hi⟩
    · unfold TkC
      rw [zI_ne (by decide), hz1, zI_ne (by decide)]
      exact hT
    · rw [zI_eq, up_ne (by decide), e1, up_eq, fl_t c]
    · rw [zI_eq, up_eq, fl_t c]
  · exact ⟨z, by rw [if_neg c], FP.rfl', hC, hB, hT, hv, by rw [fl_b c]; exact h6, by rw [fl_b c]; exact h7⟩
theorem isW_C {z : Hp} {b : Nat → Nat} {n q : Nat} {s : Ps} (h : PC z b n s) (hq : q < 48) : m_X4_isWord 66 q z = some (bI (isW b (txw q) s.1), z) := by
  obtain ⟨hC, hB, hT, hv, h6, h7⟩ := h
  have hl := tx_l q
  have hn := hB.2.1
  have sl : ∀ {α : Type} (f : Int32 → Option α), sLen q f = f (nI (txw q).length) := fun f => if_pos (by rw [tx_n]; exact hq)
  unfold m_X4_isWord isW
  rw [gI_eq (by rw [ck_66 hC]), hT.1]
  by_cases c1 : s.1.1 = 1
  · have v3 := hv.2.2.1
    have v4 := hv.2.2.2.1
    rw [if_pos (by rw [c1]; rfl), gI_eq (by rw [ck_66 hC]), hT.2.2.1, gI_eq (by rw [ck_66 hC]), hT.2.1, sl, sub_nN v3]
    by_cases c2 : s.1.2.2.1 - s.1.2.1 = (txw q).length
    · rw [if_pos (by rw [c2])]
      refine loopQ (X := Int32 × Hp) (fun f x => m_X4_isWord_L28 f 66 q x.1 x.2) (fun t => t = some (bI (decide (s.1.1 = 1 ∧ s.1.2.2.1 - s.1.2.1 = (txw q).length ∧ ∀ i, i < (txw q).length → nI (b (s.1.2.1 + i)) = (txw q).getD i 0)), z)) (fun j x => x.1 = nI j ∧ x.2 = z ∧ ∀ i, i < j → nI (b (s.1.2.1 + i)) = (txw q).getD i 0) (txw q).length ?hs ?he 0 FU (0, z) (Nat.zero_le _) (by show (txw q).length - 0 < FU; exact FU_pos (by omega)) ⟨rfl, rfl, fun i hi => absurd hi (by omega)⟩
      case hs =>
        rintro j f ⟨v, y⟩ hj ⟨h1, h2, h3⟩
        dsimp only at h1 h2 ⊢
        subst h1 h2
        have sc : ∀ {α : Type} (g : Int32 → Option α), sCh q (nI j) g = g ((txw q).getD j 0) := fun g => by
          unfold sCh
          rw [if_pos ⟨by rw [tx_n]; exact hq, inb_nI (show j < (txc_T.getD q []).length from hj) (by show (txw q).length < 2 ^ 31; omega)⟩, nI_clamp (by omega)]
          rfl
        rw [m_X4_isWord_L28, sl, if_pos (nI_lt hj (by omega)), gR_eq (by rw [ck_66 hC]) (cr_66_0 hC), gI_eq (by rw [ck_66 hC]), hT.2.1, nI_add, aI_n (ck_67 hC) (by omega) (by decide), (hB.2.2 (s.1.2.1 + j) (by omega)).1, sc]
        by_cases c3 : nI (b (s.1.2.1 + j)) = (txw q).getD j 0
        · left
          refine ⟨(nI (j + 1), y), ⟨rfl, rfl, fun i hi => ?_⟩, ?_⟩
          · by_cases e : i = j
            · rw [e]; exact c3
            · exact h3 i (by omega)
          · rw [if_pos c3, nI_1]
        · right
          rw [if_neg c3, decide_eq_false (fun g => c3 (g.2.2 j hj))]
          rfl
      case he =>
        rintro f ⟨v, y⟩ ⟨h1, h2, h3⟩
        dsimp only at h1 h2 ⊢
        subst h1 h2
        rw [m_X4_isWord_L28, sl, if_neg (nI_nlt (Nat.le_refl _) (by omega)), decide_eq_true ⟨c1, c2, h3⟩]
        rfl
    · rw [if_neg (fun g => c2 ((nI_eq (by omega) (by omega)).mp g)), decide_eq_false (fun g => c2 g.2.1)]
      rfl
  · have v1 := hv.1
    rw [if_neg (show ¬ nI s.1.1 = 1 from fun g => c1 ((nI_eq (b := 1) (by omega) (by decide)).mp g)), decide_eq_false (fun g => c1 g.1)]
    rfl
theorem isS_C {z : Hp} {b : Nat → Nat} {n c : Nat} {s : Ps} (h : PC z b n s) (hc : c < 256) : m_X4_isSign 66 (nI c) z = some (bI (isS c s.1), z) := by
  obtain ⟨hC, hB, hT, hv, h6, h7⟩ := h
  have v1 := hv.1
  have v5 := hv.2.2.2.2
  unfold m_X4_isSign isS
  rw [gI_eq (by rw [ck_66 hC]), hT.1]
  by_cases c1 : s.1.1 = 3
  · rw [if_pos (by rw [c1]; rfl), gI_eq (by rw [ck_66 hC]), hT.2.2.2]
    by_cases c2 : s.1.2.2.2 = c
    · rw [if_pos (by rw [c2]), decide_eq_true ⟨c1, c2⟩]; rfl
    · rw [if_neg (fun g => c2 ((nI_eq (by omega) (by omega)).mp g)), decide_eq_false (fun g => c2 g.2)]; rfl
  · rw [if_neg (show ¬ nI s.1.1 = 3 from fun g => c1 ((nI_eq (b := 3) (by omega) (by decide)).mp g)), decide_eq_false (fun g => c1 g.1)]; rfl
theorem bI_t : ¬ bI true = 0 := by decide
theorem bI_f : bI false = 0 := rfl
theorem PC.la {z : Hp} {b : Nat → Nat} {n : Nat} {s : Ps} (h : PC z b n s) : zI z 66 4 = nI s.1.2.1 := h.2.2.1.2.1
theorem wd_C {z : Hp} {b : Nat → Nat} {n q : Nat} {s : Ps} (h : PC z b n s) (hq : q < 48) : ∃ y, m_X2_needWord 68 q z = some ((), y) ∧ FP z y ∧ PC y b n (wd b n (txw q) s) := by
  have hC := h.1
  unfold m_X2_needWord wd
  rw [gR_eq (by rw [ck_68 hC]) (cr_68_0 hC), isC_eq (by rw [ck_66 hC]), isW_C h hq, bnd_some]
  cases isW b (txw q) s.1 with
  | true =>
    obtain ⟨y, r, F, P⟩ := ad_C h
    refine ⟨y, ?_, F, ?_⟩
    · rw [if_neg bI_t]
      unfold m_X2_needWord_B23
      rw [gR_eq (by rw [ck_68 hC]) (cr_68_0 hC), isC_eq (by rw [ck_66 hC]), r, bnd_some]
    · show PC y b n (ad b n (fal false 1 s.1.2.1 s))
      unfold fal
      rw [fl_f]; exact P
  | false =>
    obtain ⟨z1, r1, F1, P1⟩ := fail_C 1 s.1.2.1 h
    have C1 := P1.1
    obtain ⟨y, r, F, P⟩ := ad_C P1
    refine ⟨y, ?_, F1.trans F, P⟩
    rw [if_pos bI_f, gR_eq (by rw [ck_68 hC]) (cr_68_0 hC), gI_eq (by rw [ck_66 hC]), h.la, isC_eq (by rw [ck_68 hC]), r1, bnd_some]
    unfold m_X2_needWord_B23
    rw [gR_eq (by rw [ck_68 C1]) (cr_68_0 C1), isC_eq (by rw [ck_66 C1]), r, bnd_some]
theorem sg_C {z : Hp} {b : Nat → Nat} {n c : Nat} {s : Ps} (h : PC z b n s) (hq : c < 256) : ∃ y, m_X2_needSign 68 (nI c) z = some ((), y) ∧ FP z y ∧ PC y b n (sg b n c s) := by
  have hC := h.1
  unfold m_X2_needSign sg
  rw [gR_eq (by rw [ck_68 hC]) (cr_68_0 hC), isC_eq (by rw [ck_66 hC]), isS_C h hq, bnd_some]
  cases isS c s.1 with
  | true =>
    obtain ⟨y, r, F, P⟩ := ad_C h
    refine ⟨y, ?_, F, ?_⟩
    · rw [if_neg bI_t]
      unfold m_X2_needSign_B23
      rw [gR_eq (by rw [ck_68 hC]) (cr_68_0 hC), isC_eq (by rw [ck_66 hC]), r, bnd_some]
    · show PC y b n (ad b n (fal false 1 s.1.2.1 s))
      unfold fal
      rw [fl_f]; exact P
  | false =>
    obtain ⟨z1, r1, F1, P1⟩ := fail_C 1 s.1.2.1 h
    have C1 := P1.1
    obtain ⟨y, r, F, P⟩ := ad_C P1
    refine ⟨y, ?_, F1.trans F, P⟩
    rw [if_pos bI_f, gR_eq (by rw [ck_68 hC]) (cr_68_0 hC), gI_eq (by rw [ck_66 hC]), h.la, isC_eq (by rw [ck_68 hC]), r1, bnd_some]
    unfold m_X2_needSign_B23
    rw [gR_eq (by rw [ck_68 C1]) (cr_68_0 C1), isC_eq (by rw [ck_66 C1]), r, bnd_some]
theorem neg_nI {m : Nat} (h : m < 2 ^ 31) : (- nI m).toInt = - (m : Int) := by
  have e : - nI m = 0 - nI m := (Int32.zero_sub _).symm
  rw [e, sub_int (by rw [nI_toInt h, show (0 : Int32).toInt = 0 by decide]; omega) (by rw [nI_toInt h, show (0 : Int32).toInt = 0 by decide]; omega), nI_toInt h, show (0 : Int32).toInt = 0 by decide]
  omega
/-- the token's part of number, of the class; sgn says whether a minus stood before it -/
theorem nmB_C {z : Hp} {b : Nat → Nat} {n : Nat} {s : Ps} (lo hi : Nat) (v1 v2 v3 : Int32) (m : Nat) (h : PC z b n s) (e3 : v3 = 0 ∧ v1 = nI lo ∧ v2 = nI hi ∧ m = lo ∧ lo < 1000000 ∧ hi < 1000000 ∨ v3 = 1 ∧ v1 = - nI m ∧ v2 = 0 ∧ lo = 0 ∧ hi = m ∧ m < 1000000 ∨ v3 = 0 ∧ v1 = - nI m ∧ v2 = 0 ∧ lo = 0 ∧ hi = 0 ∧ m < 1000000) :
    ∃ y, m_X2_number_B33 68 v1 v2 v3 z = some (if s.1.1 = 2 ∧ nmk lo hi s.1 = true then (if v3 = 1 then - nI s.1.2.2.2 else nI s.1.2.2.2) else v1, y) ∧ FP z y ∧ PC y b n (nm b n lo hi s) ∧ zI y 68 5 = nI s.1.2.1 := by
  obtain ⟨hC, hB, hT, hv, h6, h7⟩ := id h
  have hv1 := hv.1
  have hv5 := hv.2.2.2.2
  obtain ⟨z1, hz1⟩ : ∃ y, y = wI z 68 (ups (zI z 68) 5 (nI s.1.2.1)) := ⟨_, rfl⟩
  have F1 : FP z z1 := by rw [hz1]; exact FP.w (by decide)
  have C1 : LayC z1 := hC.fi F1.1
  have e1 : zI z1 68 = ups (zI z 68) 5 (nI s.1.2.1) := by rw [hz1, zI_eq]
  have e66 : zI z1 66 = zI z 66 := by rw [hz1, zI_ne (by decide)]
  have P1 : PC z1 b n s := ⟨C1, ⟨by rw [F1.2.1]; exact hB.1, hB.2.1, fun i hi => by rw [F1.1.2.2.2.2 67 (by omega)]; exact hB.2.2 i hi⟩, by unfold TkC; rw [e66]; exact hT, hv, by rw [e1, up_ne (by decide)]; exact h6, by rw [e1, up_ne (by decide)]; exact h7⟩
  have q1 : zI z1 68 5 = nI s.1.2.1 := by rw [e1, up_eq]
  unfold m_X2_number_B33 nm
  rw [gR_eq (by rw [ck_68 hC]) (cr_68_0 hC), gI_eq (by rw [ck_66 hC]), h.la, pI_eq (by rw [ck_68 hC]), ← hz1, gR_eq (by rw [ck_68 C1]) (cr_68_0 C1), gI_eq (by rw [ck_66 C1]), e66, hT.1]
  by_cases c : s.1.1 = 2
  · rw [if_pos (by rw [c]; rfl), if_pos c]
    obtain ⟨z2, r2, F2, P2⟩ := ad_C P1
    have C2 := P2.1
    have q2 : zI z2 68 5 = nI s.1.2.1 := by
      obtain ⟨y', r', F', T'⟩ := advC C1 P1.2.1 P1.2.2.2.1.2.2.2.1 P1.2.2.1.2.2.1
      have : y' = z2 := by
        have := r'.symm.trans r2
        injection this with this
        exact congrArg Prod.snd this
      rw [← this, F'.1.2.2.2.2 68 (by omega)]; exact q1
    have key : ∀ t0 : Int32, (¬ t0 < v1 ∧ ¬ v2 < t0 ↔ nmk lo hi s.1 = true) → ∃ y, m_X2_number_B88 68 v1 v2 t0 z1 = some (if nmk lo hi s.1 = true then t0 else v1, y) ∧ FP z y ∧ PC y b n (fal (!nmk lo hi s.1) 2 s.1.2.1 (ad b n s)) ∧ zI y 68 5 = nI s.1.2.1 := fun t0 hk => by
      have bad : ¬ nmk lo hi s.1 = true → ∃ y, m_X2_number_B109 68 v1 z2 = some (v1, y) ∧ FP z y ∧ PC y b n (fal (!nmk lo hi s.1) 2 s.1.2.1 (ad b n s)) ∧ zI y 68 5 = nI s.1.2.1 := fun g => by
        obtain ⟨z3, r3, F3, P3⟩ := fail_C 2 s.1.2.1 P2
        have e : nmk lo hi s.1 = false := by cases q : nmk lo hi s.1 with
          | true => exact absurd q g
          | false => rfl
        refine ⟨z3, ?_, (F1.trans F2).trans F3, by rw [e]; exact P3, ?_⟩
        · unfold m_X2_number_B109
          rw [gI_eq (by rw [ck_68 C2]), q2, isC_eq (by rw [ck_68 C2]), r3, bnd_some]
        · unfold m_X2_fail at r3
          rw [gI_eq (by rw [ck_68 C2])] at r3
          by_cases d : zI z2 68 6 = 0
          · rw [if_pos d, pI_eq (by rw [ck_68 C2]), pI_eq (by rw [zK_wI, ck_68 C2])] at r3
            injection r3 with r3
            have r3 := congrArg Prod.snd r3
            dsimp only at r3
            rw [← r3, zI_eq, up_ne (by decide), zI_eq, up_ne (by decide)]; exact q2
          · rw [if_neg d] at r3
            injection r3 with r3
            have r3 := congrArg Prod.snd r3
            dsimp only at r3
            rw [← r3]; exact q2
      unfold m_X2_number_B88
      rw [gR_eq (by rw [ck_68 C1]) (cr_68_0 C1), isC_eq (by rw [ck_66 C1]), r2, bnd_some]
      by_cases g1 : t0 < v1
      · have hn : ¬ nmk lo hi s.1 = true := fun q => (hk.mpr q).1 g1
        rw [if_pos g1, if_neg hn]; exact bad hn
      · by_cases g2 : v2 < t0
        · have hn : ¬ nmk lo hi s.1 = true := fun q => (hk.mpr q).2 g2
          rw [if_neg g1, if_pos g2, if_neg hn]; exact bad hn
        · have hy := hk.mp ⟨g1, g2⟩
          rw [if_neg g1, if_neg g2, if_pos hy]
          refine ⟨z2, rfl, F1.trans F2, ?_, q2⟩
          rw [hy]
          show PC z2 b n (fal false 2 s.1.2.1 (ad b n s))
          unfold fal
          rw [fl_f]; exact P2
    have nkI : nmk lo hi s.1 = true ↔ lo ≤ s.1.2.2.2 ∧ s.1.2.2.2 ≤ hi := by unfold nmk; simp
    have fin : ∀ (u : Int32) (X : Option (Int32 × Hp)), (∃ y, X = some (if nmk lo hi s.1 = true then u else v1, y) ∧ FP z y ∧ PC y b n (fal (!nmk lo hi s.1) 2 s.1.2.1 (ad b n s)) ∧ zI y 68 5 = nI s.1.2.1) → u = (if v3 = 1 then - nI s.1.2.2.2 else nI s.1.2.2.2) → ∃ y, X = some (if s.1.1 = 2 ∧ nmk lo hi s.1 = true then (if v3 = 1 then - nI s.1.2.2.2 else nI s.1.2.2.2) else v1, y) ∧ FP z y ∧ PC y b n (fal (!nmk lo hi s.1) 2 s.1.2.1 (ad b n s)) ∧ zI y 68 5 = nI s.1.2.1 := fun u X hX hu => by
      obtain ⟨y, a1, a2⟩ := hX
      refine ⟨y, ?_, a2⟩
      rw [a1, hu]
      by_cases g : nmk lo hi s.1 = true
      · rw [if_pos g, if_pos (show s.1.1 = 2 ∧ nmk lo hi s.1 = true from ⟨c, g⟩)]
      · rw [if_neg g, if_neg (fun q => g q.2)]
    rcases e3 with ⟨w3, w1, w2, w4, w5, w6⟩ | ⟨w3, w1, w2, w4, w5, w6⟩ | ⟨w3, w1, w2, w4, w5, w6⟩
    · subst w3
      rw [if_pos rfl, gR_eq (by rw [ck_68 C1]) (cr_68_0 C1), gI_eq (by rw [ck_66 C1]), e66, hT.2.2.2]
      refine fin _ _ (key (nI s.1.2.2.2) ?_) (if_neg (by decide)).symm
      rw [nkI, w1, w2, Int32.not_lt, Int32.not_lt, nI_leI (by omega) (by omega), nI_leI (by omega) (by omega)]
    · subst w3
      rw [if_neg (by decide), gR_eq (by rw [ck_68 C1]) (cr_68_0 C1), gI_eq (by rw [ck_66 C1]), e66, hT.2.2.2]
      refine fin _ _ (key (- nI s.1.2.2.2) ?_) (if_pos rfl).symm
      rw [nkI, w1, w2, w4, w5, Int32.not_lt, Int32.not_lt, Int32.le_iff_toInt_le, Int32.le_iff_toInt_le, neg_nI (by omega), neg_nI (by omega), show (0 : Int32).toInt = 0 by decide]
      omega
    · subst w3
      rw [if_pos rfl, gR_eq (by rw [ck_68 C1]) (cr_68_0 C1), gI_eq (by rw [ck_66 C1]), e66, hT.2.2.2]
      refine fin _ _ (key (nI s.1.2.2.2) ?_) (if_neg (by decide)).symm
      rw [nkI, w1, w2, w4, w5, Int32.not_lt, Int32.not_lt, Int32.le_iff_toInt_le, Int32.le_iff_toInt_le, neg_nI (by omega), nI_toInt (by omega), show (0 : Int32).toInt = 0 by decide]
      omega
  · obtain ⟨z3, r3, F3, P3⟩ := fail_C 1 s.1.2.1 P1
    refine ⟨z3, ?_, F1.trans F3, by rw [if_neg c]; exact P3, ?_⟩
    · rw [if_neg (show ¬ nI s.1.1 = 2 from fun g => c ((nI_eq (b := 2) (by omega) (by decide)).mp g)), gI_eq (by rw [ck_68 C1]), q1, isC_eq (by rw [ck_68 C1]), r3, bnd_some, if_neg (fun g => c g.1)]
    · unfold m_X2_fail at r3
      rw [gI_eq (by rw [ck_68 C1])] at r3
      by_cases d : zI z1 68 6 = 0
      · rw [if_pos d, pI_eq (by rw [ck_68 C1]), pI_eq (by rw [zK_wI, ck_68 C1])] at r3
        injection r3 with r3
        have r3 := congrArg Prod.snd r3
        dsimp only at r3
        rw [← r3, zI_eq, up_ne (by decide), zI_eq, up_ne (by decide)]; exact q1
      · rw [if_neg d] at r3
        injection r3 with r3
        have r3 := congrArg Prod.snd r3
        dsimp only at r3
        rw [← r3]; exact q1
/-- a number that is not below 0 -/
theorem nm_C {z : Hp} {b : Nat → Nat} {n : Nat} {s : Ps} (lo hi : Nat) (h : PC z b n s) (hl : lo < 1000000) (hh : hi < 1000000) : ∃ y, m_X2_number 68 (nI lo) (nI hi) z = some (nI (nmv lo hi s), y) ∧ FP z y ∧ PC y b n (nm b n lo hi s) ∧ zI y 68 5 = nI s.1.2.1 := by
  obtain ⟨y, r, F, P, q⟩ := nmB_C lo hi (nI lo) (nI hi) 0 lo h (Or.inl ⟨rfl, rfl, rfl, rfl, hl, hh⟩)
  refine ⟨y, ?_, F, P, q⟩
  unfold m_X2_number m_X2_number_B20 m_X2_number_B21 nmv
  rw [if_neg (show ¬ nI lo < 0 from nI_nlt (b := 0) (Nat.zero_le _) (by omega)), if_pos rfl, r]
  by_cases g : s.1.1 = 2 ∧ nmk lo hi s.1 = true
  · rw [if_pos g, if_pos g, if_neg (by decide)]
  · rw [if_neg g, if_neg g]
/-- a number that is not above 0 -/
theorem ng_C {z : Hp} {b : Nat → Nat} {n : Nat} {s : Ps} (m : Nat) (h : PC z b n s) (hm : 0 < m) (hm2 : m < 1000000) : ∃ y, m_X2_number 68 (- nI m) 0 z = some (ngv b n m s, y) ∧ FP z y ∧ PC y b n (ng b n m s) := by
  have hC := h.1
  unfold m_X2_number ng ngv mn ngm
  rw [if_pos (show - nI m < 0 by rw [Int32.lt_iff_toInt_lt, neg_nI (by omega), show (0 : Int32).toInt = 0 by decide]; omega), gR_eq (by rw [ck_68 hC]) (cr_68_0 hC), isC_eq (by rw [ck_66 hC]), show m_X4_isSign 66 45 z = some (bI (isS 45 s.1), z) from isS_C (c := 45) h (by decide), bnd_some]
  cases isS 45 s.1 with
  | true =>
    obtain ⟨z1, r1, F1, P1⟩ := ad_C h
    obtain ⟨y, r, F, P, q⟩ := nmB_C 0 m (- nI m) 0 1 m P1 (Or.inr (Or.inl ⟨rfl, rfl, rfl, rfl, rfl, hm2⟩))
    refine ⟨y, ?_, F1.trans F, P⟩
    rw [if_neg bI_t]
    unfold m_X2_number_B21
    rw [if_neg (by decide), gR_eq (by rw [ck_68 hC]) (cr_68_0 hC), isC_eq (by rw [ck_66 hC]), r1, bnd_some, r]
    rfl
  | false =>
    obtain ⟨y, r, F, P, q⟩ := nmB_C 0 0 (- nI m) 0 0 m h (Or.inr (Or.inr ⟨rfl, rfl, rfl, rfl, rfl, hm2⟩))
    refine ⟨y, ?_, F, P⟩
    rw [if_pos bI_f]
    unfold m_X2_number_B20 m_X2_number_B21
    rw [if_pos rfl, r]
    rfl
