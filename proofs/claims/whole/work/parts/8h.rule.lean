/-! ===== text: a rule of the class ===== -/
/-- the row behind a condition -/
def cF (b : Nat → Nat) (n m i : Nat) (s : Ps) (F : Nat → Int32) : Nat → Int32 :=
  ups (if cw b s.1 = 0 then ups F (751 + 10 * m + 3 * i) (nI (cw b s.1)) else ups (ups (ups F (751 + 10 * m + 3 * i) (nI (cw b s.1))) (752 + 10 * m + 3 * i) (cSg b n i s)) (753 + 10 * m + 3 * i) (cNr b n i s)) (750 + 10 * m) (nI (i + 1))
def rl (b : Nat → Nat) (n m : Nat) : Nat → Nat → Ps → (Nat → Int32) → Ps × (Nat → Int32)
  | 0, _, s, F => (s, F)
  | f + 1, i, s, F => if (tC b n i s).2.1 = 0 ∧ isW b (txw 23) (tC b n i s).1 = true then rl b n m f (i + 1) (ad b n (tC b n i s)) (cF b n m i s F) else (tC b n i s, cF b n m i s F)
theorem rl_s {b : Nat → Nat} {n m i : Nat} {s : Ps} {F : Nat → Int32} (h : i < 4) : rl b n m (4 - i) i s F = if (tC b n i s).2.1 = 0 ∧ isW b (txw 23) (tC b n i s).1 = true then rl b n m (4 - (i + 1)) (i + 1) (ad b n (tC b n i s)) (cF b n m i s F) else (tC b n i s, cF b n m i s F) := by
  obtain ⟨f, e⟩ : ∃ f, 4 - i = f + 1 := ⟨4 - i - 1, by omega⟩
  rw [e, show 4 - (i + 1) = f by omega]
  rfl
theorem cmp_good {b : Nat → Nat} {n : Nat} {s : Ps} (h : (cmp b n s).2.1 = 0) : s.2.1 = 0 ∧ isC2 s.1 = true := by
  have := fl_n (by decide) (show (fl (!isC2 s.1) 1 s.1.2.1 s.2).1 = 0 from h)
  exact ⟨this.1, by cases q : isC2 s.1 with
    | true => rfl
    | false => rw [q] at this; cases this.2⟩
theorem tC1_good {b : Nat → Nat} {n i : Nat} {s : Ps} (h : (tC1 b n i s).2.1 = 0) : s.2.1 = 0 ∧ cw b s.1 < 5 ∧ i ≠ 3 := by
  unfold tC1 at h
  have h2 : (if cw b s.1 = 5 then fal true 1 s.1.2.1 s else fal (decide (i = 3)) 3 s.1.2.1 s).2.1 = 0 := h
  have := cw_lt (b := b) (T := s.1)
  by_cases c : cw b s.1 = 5
  · rw [if_pos c] at h2
    have := fl_n (by decide) (show (fl true 1 s.1.2.1 s.2).1 = 0 from h2)
    cases this.2
  · rw [if_neg c] at h2
    have := fl_n (by decide) (show (fl (decide (i = 3)) 3 s.1.2.1 s.2).1 = 0 from h2)
    exact ⟨this.1, by omega, by simpa using this.2⟩
theorem tC_good {b : Nat → Nat} {n i : Nat} {s : Ps} (h : (tC b n i s).2.1 = 0) : s.2.1 = 0 ∧ cw b s.1 < 5 ∧ i ≠ 3 ∧ (tC1 b n i s).2.1 = 0 := by
  unfold tC at h
  split at h
  · have := tC1_good h
    exact ⟨this.1, this.2.1, this.2.2, h⟩
  · have h1 := (cmp_good (nm_good h).1).1
    have := tC1_good h1
    exact ⟨this.1, this.2.1, this.2.2, h1⟩
/-- i conditions of rule m, on both sides -/
def Cr (d m i : Nat) (M : Me) (F : Nat → Int32) : Prop := F (750 + 10 * m) = nI i ∧ M (d + 20) m = nI i ∧ ∀ j, j < i → M (d + 21) (3 * m + j) = F (751 + 10 * m + 3 * j) ∧ isN (F (751 + 10 * m + 3 * j)) 5 ∧ (F (751 + 10 * m + 3 * j) ≠ 0 → M (d + 22) (3 * m + j) = F (752 + 10 * m + 3 * j) ∧ M (d + 23) (3 * m + j) = F (753 + 10 * m + 3 * j))
/-- what a rule leaves alone -/
def Rf (d m : Nat) (M M' : Me) (F F' : Nat → Int32) : Prop := (∀ a, a < d + 19 ∨ d + 23 < a → M' a = M a) ∧ (∀ r, r ≠ m → M' (d + 20) r = M (d + 20) r) ∧ (∀ j, j < 3 * m → M' (d + 21) j = M (d + 21) j ∧ M' (d + 22) j = M (d + 22) j ∧ M' (d + 23) j = M (d + 23) j) ∧ ∀ i, i < 750 + 10 * m ∨ 760 + 10 * m ≤ i → F' i = F i
theorem Rf.trans {d m : Nat} {M N K : Me} {F G H : Nat → Int32} (h : Rf d m M N F G) (g : Rf d m N K G H) : Rf d m M K F H :=
  ⟨fun a ha => (g.1 a ha).trans (h.1 a ha), fun r hr => (g.2.1 r hr).trans (h.2.1 r hr), fun j hj => ⟨(g.2.2.1 j hj).1.trans (h.2.2.1 j hj).1, (g.2.2.1 j hj).2.1.trans (h.2.2.1 j hj).2.1, (g.2.2.1 j hj).2.2.trans (h.2.2.1 j hj).2.2⟩, fun i hi => (g.2.2.2 i hi).trans (h.2.2.2 i hi)⟩
theorem Rf.rfl' {d m : Nat} {M : Me} {F : Nat → Int32} : Rf d m M M F F := ⟨fun _ _ => rfl, fun _ _ => rfl, fun _ _ => ⟨rfl, rfl, rfl⟩, fun _ _ => rfl⟩
theorem cr_step {b : Nat → Nat} {n d m i : Nat} {s : Ps} {M : Me} {F : Nat → Int32} (h : Cr d m i M F) (hm : m < 4) (hi : i < 3) (hc : cw b s.1 < 5) : Cr d m (i + 1) (mCo d m i (cwv (cw b s.1)) (cSg b n i s) (cNr b n i s) M) (cF b n m i s F) ∧ Rf d m M (mCo d m i (cwv (cw b s.1)) (cSg b n i s) (cNr b n i s) M) F (cF b n m i s F) := by
  have ec : cwv (cw b s.1) = nI (cw b s.1) := if_neg (by omega)
  have eF : ∀ k, k ≠ 750 + 10 * m → k < 751 + 10 * m + 3 * i ∨ 753 + 10 * m + 3 * i < k → cF b n m i s F k = F k := fun k h1 h2 => by
    unfold cF
    rw [up_ne h1]
    split
    · rw [up_ne (by omega)]
    · rw [up_ne (by omega), up_ne (by omega), up_ne (by omega)]
  have e1 : cF b n m i s F (751 + 10 * m + 3 * i) = nI (cw b s.1) := by
    unfold cF
    rw [up_ne (by omega)]
    split
    · rw [up_eq]
    · rw [up_ne (by omega), up_ne (by omega), up_eq]
  unfold mCo
  rw [if_pos ⟨hm, hi⟩, ec]
  constructor
  · refine ⟨by unfold cF; rw [up_eq], by rw [upm_e, up_eq], fun j hj => ?_⟩
    rw [upm_n (show d + 21 ≠ d + 20 by omega), upm_n (show d + 21 ≠ d + 23 by omega), upm_n (show d + 21 ≠ d + 22 by omega), upm_e, upm_n (show d + 22 ≠ d + 20 by omega), upm_n (show d + 22 ≠ d + 23 by omega), upm_e, upm_n (show d + 23 ≠ d + 20 by omega), upm_e, upm_n (show d + 22 ≠ d + 21 by omega), upm_n (show d + 23 ≠ d + 22 by omega), upm_n (show d + 23 ≠ d + 21 by omega)]
    by_cases e : j = i
    · subst e
      rw [up_eq, up_eq, up_eq, e1]
      refine ⟨rfl, isN.mk hc (by decide), fun g => ?_⟩
      have c0 : ¬ cw b s.1 = 0 := fun q => g (by rw [q]; rfl)
      unfold cF
      rw [if_neg c0, up_ne (by omega), up_ne (by omega), up_eq, up_ne (by omega), up_eq]
      exact ⟨rfl, rfl⟩
    · have := h.2.2 j (by omega)
      rw [up_ne (by omega), up_ne (by omega), up_ne (by omega), eF _ (by omega) (by omega), eF _ (by omega) (by omega), eF _ (by omega) (by omega)]
      exact this
  · refine ⟨fun a ha => by rw [upm_n (by omega), upm_n (by omega), upm_n (by omega), upm_n (by omega)], fun r hr => ?_, fun j hj => ?_, fun k hk => eF k (by omega) (by omega)⟩
    · rw [upm_e, up_ne hr, upm_n (by omega), upm_n (by omega), upm_n (by omega)]
    · rw [upm_n (show d + 21 ≠ d + 20 by omega), upm_n (show d + 21 ≠ d + 23 by omega), upm_n (show d + 21 ≠ d + 22 by omega), upm_e, upm_n (show d + 22 ≠ d + 20 by omega), upm_n (show d + 22 ≠ d + 23 by omega), upm_e, upm_n (show d + 23 ≠ d + 20 by omega), upm_e, upm_n (show d + 22 ≠ d + 21 by omega), upm_n (show d + 23 ≠ d + 22 by omega), upm_n (show d + 23 ≠ d + 21 by omega), up_ne (by omega), up_ne (by omega), up_ne (by omega)]
      exact ⟨rfl, rfl, rfl⟩
section
variable {z0 z y : Hp} {b : Nat → Nat} {n d : Nat} {s s' : Ps} {M : Me} {fa co : Int32}
theorem cls_C {m : Nat} (h : HC z0 z b n d s M fa co) (hm : m ≤ 4) (e : M (d + 19) 4 = nI m) : ∃ y, m_X2_readRule_B151 68 z = some ((), y) ∧ HC z0 y b n d s (if m < 4 then upm M (d + 19) 4 (nI (m + 1)) else M) fa co := by
  have hd := h.dd
  unfold m_X2_readRule_B151 m_X5_closeRule
  rw [gR_eq (by rw [ck_68 h.C]) h.r, gR_eq (by rw [sk_0 h.S]) (sr_0_3 h.S), isC_eq (by rw [sk_19 h.S]), gI_eq (by rw [sk_19 h.S]), h.md (by decide), e]
  by_cases c : m < 4
  · refine ⟨_, ?_, by rw [if_pos c]; exact h.w (a := d + 19) (k := 4) (v := nI (m + 1)) (by omega)⟩
    rw [if_pos (show nI m < 4 from nI_lt (b := 4) c (by decide)), gI_eq (by rw [sk_19 h.S]), h.md (by decide), e, nI_1, pI_eq (by rw [sk_19 h.S]), bnd_some, h.md (by decide)]
  · refine ⟨z, ?_, by rw [if_neg c]; exact h⟩
    rw [if_neg (show ¬ nI m < 4 from nI_nlt (b := 4) (by omega) (by omega)), bnd_some]
/-- one condition -/
theorem con_C {m i : Nat} (K18 : Nat → Int32 → Hp → Option (Unit × Hp)) (h : HC z0 z b n d s M fa co) (hi : i < 4) (hm : m ≤ 4) (e : M (d + 19) 4 = nI m) (hk : m < 4 → M (d + 20) m = nI i) (X : Option (Unit × Hp)) (hX : X = bnd (m_X2_condWord 68 z) fun x27 z26 =>
    if x27 = (-1) then (
      gR 2 0 z26 68 fun a33 =>
      gI 4 4 z26 a33 fun x34 =>
      isC 2 z26 68 <| bnd (m_X2_fail 68 1 x34 z26) fun _ z35 =>
      (m_X2_readRule_B65 K18 m_X2_readRule_B135 m_X2_readRule_B151) 68 (nI i) x27 z35
    ) else
    if nI i = 3 then (
      gR 2 0 z26 68 fun a29 =>
      gI 4 4 z26 a29 fun x30 =>
      isC 2 z26 68 <| bnd (m_X2_fail 68 3 x30 z26) fun _ z31 =>
      (m_X2_readRule_B65 K18 m_X2_readRule_B135 m_X2_readRule_B151) 68 (nI i) x27 z31
    ) else
    (m_X2_readRule_B65 K18 m_X2_readRule_B135 m_X2_readRule_B151) 68 (nI i) x27 z26) :
    ∃ y, HC z0 y b n d (tC b n i s) (mCo d m i (cwv (cw b s.1)) (cSg b n i s) (cNr b n i s) M) fa co ∧ (¬ ((tC b n i s).2.1 = 0 ∧ isW b (txw 23) (tC b n i s).1 = true) → X = m_X2_readRule_B151 68 y) ∧ ((tC b n i s).2.1 = 0 ∧ isW b (txw 23) (tC b n i s).1 = true → ∃ y2, X = K18 68 (nI (i + 1)) y2 ∧ HC z0 y2 b n d (ad b n (tC b n i s)) (mCo d m i (cwv (cw b s.1)) (cSg b n i s) (cNr b n i s) M) fa co) := by
  have hC := h.C
  have hl := cw_lt (b := b) (T := s.1)
  have key : ∃ z1, HC z0 z1 b n d (if cw b s.1 = 5 then fal true 1 s.1.2.1 s else fal (decide (i = 3)) 3 s.1.2.1 s) M fa co ∧ X = m_X2_readRule_B65 K18 m_X2_readRule_B135 m_X2_readRule_B151 68 (nI i) (cwv (cw b s.1)) z1 := by
    rw [hX, cw_C h, bnd_some]
    by_cases c5 : cw b s.1 = 5
    · obtain ⟨z1, r1, h1⟩ := h_fail 1 s.1.2.1 h
      refine ⟨z1, by rw [if_pos c5]; exact h1, ?_⟩
      rw [if_pos (show cwv (cw b s.1) = -1 from if_pos c5), gR_eq (by rw [ck_68 hC]) (cr_68_0 hC), gI_eq (by rw [ck_66 hC]), h.1.la, isC_eq (by rw [ck_68 hC]), r1, bnd_some]
    · have ne : ¬ cwv (cw b s.1) = -1 := by
        rw [show cwv (cw b s.1) = nI (cw b s.1) from if_neg c5]
        exact nI_ne_m1 (by omega)
      by_cases c3 : i = 3
      · obtain ⟨z1, r1, h1⟩ := h_fail 3 s.1.2.1 h
        refine ⟨z1, by rw [if_neg c5, decide_eq_true c3]; exact h1, ?_⟩
        rw [if_neg ne, if_pos (by rw [c3]; rfl), gR_eq (by rw [ck_68 hC]) (cr_68_0 hC), gI_eq (by rw [ck_66 hC]), h.1.la, isC_eq (by rw [ck_68 hC]), r1, bnd_some]
      · refine ⟨z, by rw [if_neg c5, decide_eq_false c3, fal_f]; exact h, ?_⟩
        rw [if_neg ne, if_neg (show ¬ nI i = 3 from fun g => c3 ((nI_eq (b := 3) (by omega) (by decide)).mp g))]
  obtain ⟨z1, h1, eX⟩ := key
  obtain ⟨z2, r2, h2⟩ := h_ad h1
  replace h2 : HC z0 z2 b n d (tC1 b n i s) M fa co := h2
  have key2 : ∃ z3, HC z0 z3 b n d (tC b n i s) M fa co ∧ X = m_X2_readRule_B100 K18 m_X2_readRule_B135 m_X2_readRule_B151 68 (nI i) (cwv (cw b s.1)) (cSg b n i s) (cNr b n i s) z3 := by
    rw [eX]
    unfold m_X2_readRule_B65 tC cSg cNr
    rw [gR_eq (by rw [ck_68 h1.C]) (cr_68_0 h1.C), isC_eq (by rw [ck_66 h1.C]), r2, bnd_some]
    by_cases c0 : cw b s.1 = 0
    · refine ⟨z2, by rw [if_pos c0]; exact h2, ?_⟩
      unfold m_X2_readRule_B84
      rw [if_pos c0, if_pos c0, c0, if_pos (show cwv 0 = 0 from rfl), if_pos (show cwv 0 = 0 from rfl)]
    · have ne : ¬ cwv (cw b s.1) = 0 := by
        unfold cwv
        split
        · decide
        · exact fun g => c0 ((nI_eq (b := 0) (by omega) (by decide)).mp g)
      obtain ⟨z3, r3, h3⟩ := cmp_C h2
      obtain ⟨z4, r4, h4, _⟩ := h_nm 0 99999 h3 (by decide) (by decide)
      refine ⟨z4, by rw [if_neg c0]; exact h4, ?_⟩
      unfold m_X2_readRule_B84
      rw [if_neg c0, if_neg c0, if_neg ne, isC_eq (by rw [ck_68 h2.C]), r3, bnd_some, if_neg ne, isC_eq (by rw [ck_68 h3.C]), show m_X2_number 68 0 99999 z3 = _ from r4, bnd_some]
  obtain ⟨z3, h3, eX3⟩ := key2
  obtain ⟨z4, r4, h4⟩ := cad_C (cwv (cw b s.1)) (cSg b n i s) (cNr b n i s) h3 hm e (fun g => ⟨hi, hk g⟩)
  have eX4 : X = gI 2 6 z4 68 fun x9 => if x9 = 0 then (gR 2 0 z4 68 fun a10 => isC 4 z4 a10 <| bnd (m_X4_isWord a10 23 z4) fun x12 z11 => if x12 = 0 then (m_X2_readRule_B135 68 z11) else gR 2 0 z11 68 fun a14 => isC 4 z11 a14 <| bnd (m_X4_advance a14 z11) fun _ z15 => K18 68 (nI i + 1) z15) else m_X2_readRule_B151 68 z4 := by
    rw [eX3]
    unfold m_X2_readRule_B100
    rw [gR_eq (by rw [ck_68 h3.C]) h3.r, gR_eq (by rw [sk_0 h3.S]) (sr_0_3 h3.S), isC_eq (by rw [sk_19 h3.S]), r4, bnd_some]
  have f6 : zI z4 68 6 = (tC b n i s).2.1 := h4.1.2.2.2.2.1
  refine ⟨z4, h4, fun g => ?_, fun g => ?_⟩
  · rw [eX4, gI_eq (by rw [ck_68 h4.C]), f6]
    by_cases c : (tC b n i s).2.1 = 0
    · rw [if_pos c, gR_eq (by rw [ck_68 h4.C]) (cr_68_0 h4.C), isC_eq (by rw [ck_66 h4.C]), isW_C h4.1 (by decide), bnd_some]
      cases q : isW b (txw 23) (tC b n i s).1 with
      | true => exact absurd ⟨c, q⟩ g
      | false => rw [if_pos bI_f]; rfl
    · rw [if_neg c]
  · obtain ⟨z5, r5, h5⟩ := h_ad h4
    refine ⟨z5, ?_, h5⟩
    rw [eX4, gI_eq (by rw [ck_68 h4.C]), f6, if_pos g.1, gR_eq (by rw [ck_68 h4.C]) (cr_68_0 h4.C), isC_eq (by rw [ck_66 h4.C]), isW_C h4.1 (by decide), bnd_some, g.2, if_neg bI_t, gR_eq (by rw [ck_68 h4.C]) (cr_68_0 h4.C), isC_eq (by rw [ck_66 h4.C]), r5, bnd_some, nI_1]
end
