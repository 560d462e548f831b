/-! ===== text: lines of the class ===== -/
/-- what the class's cells hold -/
abbrev Me := Nat → Nat → Int32
def upm (M : Me) (a k : Nat) (v : Int32) : Me := fun x => if x = a then ups (M a) k v else M x
theorem upm_e {M : Me} {a k : Nat} {v : Int32} : upm M a k v a = ups (M a) k v := if_pos rfl
theorem upm_n {M : Me} {a k x : Nat} {v : Int32} (h : x ≠ a) : upm M a k v x = M x := if_neg h
def HC (z0 z : Hp) (b : Nat → Nat) (n d : Nat) (s : Ps) (M : Me) (fa co : Int32) : Prop :=
  PC z b n s ∧ LayS z d ∧ zR z 68 2 = some d ∧ (d = 1 ∨ d = 33) ∧ Fi (fun a => a = 66 ∨ a = 68 ∨ a = 69 ∨ d ≤ a ∧ a < d + 32) z0 z ∧ (∀ a, a ≠ 66 → a ≠ 68 → zI z a = M a) ∧ zI z 68 3 = fa ∧ zI z 68 4 = co
section
variable {z0 z y : Hp} {b : Nat → Nat} {n d : Nat} {s s' : Ps} {M : Me} {fa co : Int32}
theorem HC.C (h : HC z0 z b n d s M fa co) : LayC z := h.1.1
theorem HC.S (h : HC z0 z b n d s M fa co) : LayS z d := h.2.1
theorem HC.r (h : HC z0 z b n d s M fa co) : zR z 68 2 = some d := h.2.2.1
theorem HC.dd (h : HC z0 z b n d s M fa co) : d = 1 ∨ d = 33 := h.2.2.2.1
theorem HC.m (h : HC z0 z b n d s M fa co) {a : Nat} (h1 : a ≠ 66) (h2 : a ≠ 68) : zI z a = M a := h.2.2.2.2.2.1 a h1 h2
theorem HC.md (h : HC z0 z b n d s M fa co) {j : Nat} (hj : j < 32) : zI z (d + j) = M (d + j) := h.m (by have := h.dd; omega) (by have := h.dd; omega)
theorem HC.fp (h : HC z0 z b n d s M fa co) (F : FP z y) (P : PC y b n s') : HC z0 y b n d s' M fa co :=
  ⟨P, h.2.1.fi F.1, by rw [F.1.2.2.2.1]; exact h.2.2.1, h.2.2.2.1, h.2.2.2.2.1.trans (F.1.mono (fun a g => by omega)), fun a h1 h2 => (F.1.2.2.2.2 a (by omega)).trans (h.2.2.2.2.2.1 a h1 h2), by rw [F.2.2.1]; exact h.2.2.2.2.2.2.1, by rw [F.2.2.2]; exact h.2.2.2.2.2.2.2⟩
theorem HC.w (h : HC z0 z b n d s M fa co) {a k : Nat} {v : Int32} (ha : a = 69 ∨ d ≤ a ∧ a < d + 32) : HC z0 (wI z a (ups (zI z a) k v)) b n d s (upm M a k v) fa co := by
  have hd := h.dd
  obtain ⟨⟨hC, hB, hT, hv, h6, h7⟩, hS, hr, _, hF, hm, h3, h4⟩ := h
  refine ⟨⟨hC.of rfl rfl, ⟨by rw [zI_ne (by omega)]; exact hB.1, hB.2.1, fun i hi => by rw [zI_ne (by omega)]; exact hB.2.2 i hi⟩, by unfold TkC; rw [zI_ne (by omega)]; exact hT, hv, by rw [zI_ne (by omega)]; exact h6, by rw [zI_ne (by omega)]; exact h7⟩, hS.of rfl rfl, hr, hd, hF.trans (Fi.w (by omega)), fun x h1 h2 => ?_, by rw [zI_ne (by omega)]; exact h3, by rw [zI_ne (by omega)]; exact h4⟩
  by_cases e : x = a
  · subst e
    rw [zI_eq, upm_e, hm x h1 h2]
  · rw [zI_ne e, upm_n e, hm x h1 h2]
theorem HC.w3 (h : HC z0 z b n d s M fa co) (v : Int32) : HC z0 (wI z 68 (ups (zI z 68) 3 v)) b n d s M v co := by
  have hd := h.dd
  obtain ⟨⟨hC, hB, hT, hv, h6, h7⟩, hS, hr, _, hF, hm, h3, h4⟩ := h
  exact ⟨⟨hC.of rfl rfl, ⟨by rw [zI_ne (by omega)]; exact hB.1, hB.2.1, fun i hi => by rw [zI_ne (by omega)]; exact hB.2.2 i hi⟩, by unfold TkC; rw [zI_ne (by omega)]; exact hT, hv, by rw [zI_eq, up_ne (by decide)]; exact h6, by rw [zI_eq, up_ne (by decide)]; exact h7⟩, hS.of rfl rfl, hr, hd, hF.trans (Fi.w (by omega)), fun x h1 h2 => by rw [zI_ne h2]; exact hm x h1 h2, by rw [zI_eq, up_eq], by rw [zI_eq, up_ne (by decide)]; exact h4⟩
theorem HC.w4 (h : HC z0 z b n d s M fa co) (v : Int32) : HC z0 (wI z 68 (ups (zI z 68) 4 v)) b n d s M fa v := by
  have hd := h.dd
  obtain ⟨⟨hC, hB, hT, hv, h6, h7⟩, hS, hr, _, hF, hm, h3, h4⟩ := h
  exact ⟨⟨hC.of rfl rfl, ⟨by rw [zI_ne (by omega)]; exact hB.1, hB.2.1, fun i hi => by rw [zI_ne (by omega)]; exact hB.2.2 i hi⟩, by unfold TkC; rw [zI_ne (by omega)]; exact hT, hv, by rw [zI_eq, up_ne (by decide)]; exact h6, by rw [zI_eq, up_ne (by decide)]; exact h7⟩, hS.of rfl rfl, hr, hd, hF.trans (Fi.w (by omega)), fun x h1 h2 => by rw [zI_ne h2]; exact hm x h1 h2, by rw [zI_eq, up_ne (by decide)]; exact h3, by rw [zI_eq, up_eq]⟩
theorem h_nm (lo hi : Nat) (h : HC z0 z b n d s M fa co) (hl : lo < 1000000) (hh : hi < 1000000) : ∃ y, m_X2_number 68 (nI lo) (nI hi) z = some (nI (nmv lo hi s), y) ∧ HC z0 y b n d (nm b n lo hi s) M fa co ∧ zI y 68 5 = nI s.1.2.1 := by
  obtain ⟨y, r, F, P, q⟩ := nm_C lo hi h.1 hl hh
  exact ⟨y, r, h.fp F P, q⟩
theorem h_ng (m : Nat) (h : HC z0 z b n d s M fa co) (hl : 0 < m) (hh : m < 1000000) : ∃ y, m_X2_number 68 (- nI m) 0 z = some (ngv b n m s, y) ∧ HC z0 y b n d (ng b n m s) M fa co := by
  obtain ⟨y, r, F, P⟩ := ng_C m h.1 hl hh
  exact ⟨y, r, h.fp F P⟩
theorem h_wd (q : Nat) (h : HC z0 z b n d s M fa co) (hq : q < 48) : ∃ y, m_X2_needWord 68 q z = some ((), y) ∧ HC z0 y b n d (wd b n (txw q) s) M fa co := by
  obtain ⟨y, r, F, P⟩ := wd_C h.1 hq
  exact ⟨y, r, h.fp F P⟩
theorem h_fail (k : Int32) (p : Nat) (h : HC z0 z b n d s M fa co) : ∃ y, m_X2_fail 68 k (nI p) z = some ((), y) ∧ HC z0 y b n d (fal true k p s) M fa co := by
  obtain ⟨y, r, F, P⟩ := fail_C k p h.1
  exact ⟨y, r, h.fp F P⟩
theorem h_ad (h : HC z0 z b n d s M fa co) : ∃ y, m_X4_advance 66 z = some ((), y) ∧ HC z0 y b n d (ad b n s) M fa co := by
  obtain ⟨y, r, F, P⟩ := ad_C h.1
  exact ⟨y, r, h.fp F P⟩
theorem fal_f {k : Int32} {p : Nat} {s : Ps} : fal false k p s = s := by unfold fal; rw [fl_f]
/-! ground -/
def tG1 (b : Nat → Nat) (n : Nat) (t : Nat → Bool) (s : Ps) : Ps := fal (t (nmv 0 3 s)) 2 s.1.2.1 (nm b n 0 3 s)
def tG2 (b : Nat → Nat) (n : Nat) (t : Nat → Bool) (s : Ps) : Ps := wd b n (txw 1) (tG1 b n t s)
def tG3 (b : Nat → Nat) (n : Nat) (t : Nat → Bool) (s : Ps) : Ps := wd b n (txw 2) (nm b n 0 15 (tG2 b n t s))
def tG4 (b : Nat → Nat) (n : Nat) (t : Nat → Bool) (s : Ps) : Ps := wd b n (txw 3) (nm b n 0 15 (tG3 b n t s))
def tG5 (b : Nat → Nat) (n : Nat) (t : Nat → Bool) (s : Ps) : Ps := wd b n (txw 4) (nm b n 1 999 (tG4 b n t s))
def tG (b : Nat → Nat) (n : Nat) (t : Nat → Bool) (s : Ps) : Ps := ng b n 30 (tG5 b n t s)
theorem gr_C (t : Nat → Bool) (h : HC z0 z b n d s M fa co) (ht : ∀ g, g < 4 → t g = decide (¬ M 69 g = 0)) : ∃ y, m_X2_readGround 68 z = some ((), y) ∧ HC z0 y b n d (tG b n t s) (upm (upm (upm (upm (upm M 69 (nmv 0 3 s) 1) (d + 2) (nmv 0 3 s) (nI (nmv 0 15 (tG2 b n t s)))) (d + 3) (nmv 0 3 s) (nI (nmv 0 15 (tG3 b n t s)))) (d + 4) (nmv 0 3 s) (nI (nmv 1 999 (tG4 b n t s)))) (d + 5) (nmv 0 3 s) (ngv b n 30 (tG5 b n t s))) fa co := by
  have hg := (nmv_b (s := s) (show 0 ≤ 3 by decide)).2
  have hd := h.dd
  obtain ⟨z1, r1, h1, q1⟩ := h_nm 0 3 h (by decide) (by decide)
  have main : ∀ {z2 : Hp}, HC z0 z2 b n d (tG1 b n t s) M fa co → ∃ y, m_X2_readGround_B25 68 (nI (nmv 0 3 s)) z2 = some ((), y) ∧ HC z0 y b n d (tG b n t s) (upm (upm (upm (upm (upm M 69 (nmv 0 3 s) 1) (d + 2) (nmv 0 3 s) (nI (nmv 0 15 (tG2 b n t s)))) (d + 3) (nmv 0 3 s) (nI (nmv 0 15 (tG3 b n t s)))) (d + 4) (nmv 0 3 s) (nI (nmv 1 999 (tG4 b n t s)))) (d + 5) (nmv 0 3 s) (ngv b n 30 (tG5 b n t s))) fa co := fun {z2} h2 => by
    have h3 := h2.w (a := 69) (k := nmv 0 3 s) (v := 1) (Or.inl rfl)
    obtain ⟨z4, r4, h4⟩ := h_wd 1 h3 (by decide)
    replace h4 : HC z0 z4 b n d (tG2 b n t s) _ fa co := h4
    obtain ⟨z5, r5, h5, _⟩ := h_nm 0 15 h4 (by decide) (by decide)
    have h6 := h5.w (a := d + 2) (k := nmv 0 3 s) (v := nI (nmv 0 15 (tG2 b n t s))) (by omega)
    obtain ⟨z7, r7, h7⟩ := h_wd 2 h6 (by decide)
    replace h7 : HC z0 z7 b n d (tG3 b n t s) _ fa co := h7
    obtain ⟨z8, r8, h8, _⟩ := h_nm 0 15 h7 (by decide) (by decide)
    have h9 := h8.w (a := d + 3) (k := nmv 0 3 s) (v := nI (nmv 0 15 (tG3 b n t s))) (by omega)
    obtain ⟨z10, r10, h10⟩ := h_wd 3 h9 (by decide)
    replace h10 : HC z0 z10 b n d (tG4 b n t s) _ fa co := h10
    obtain ⟨z11, r11, h11, _⟩ := h_nm 1 999 h10 (by decide) (by decide)
    have h12 := h11.w (a := d + 4) (k := nmv 0 3 s) (v := nI (nmv 1 999 (tG4 b n t s))) (by omega)
    obtain ⟨z13, r13, h13⟩ := h_wd 4 h12 (by decide)
    replace h13 : HC z0 z13 b n d (tG5 b n t s) _ fa co := h13
    obtain ⟨z14, r14, h14⟩ := h_ng 30 h13 (by decide) (by decide)
    have h15 := h14.w (a := d + 5) (k := nmv 0 3 s) (v := ngv b n 30 (tG5 b n t s)) (by omega)
    refine ⟨_, ?_, h15⟩
    unfold m_X2_readGround_B25
    rw [gR_eq (by rw [ck_68 h2.C]) (cr_68_1 h2.C), sI_n (ck_69 h2.C) (by omega) (by decide), isC_eq (by rw [ck_68 h3.C]), r4, bnd_some,
      gR_eq (by rw [ck_68 h4.C]) h4.r, gR_eq (by rw [sk_0 h4.S]) (sr_0_0 h4.S), gR_eq (by rw [sk_1 h4.S]) (sr_1_0 h4.S), isC_eq (by rw [ck_68 h4.C]), show m_X2_number 68 0 15 z4 = _ from r5, bnd_some, sI_n (sk_2 h5.S) (by omega) (by decide), isC_eq (by rw [ck_68 h6.C]), show m_X2_needWord 68 2 _ = _ from r7, bnd_some,
      gR_eq (by rw [ck_68 h7.C]) h7.r, gR_eq (by rw [sk_0 h7.S]) (sr_0_0 h7.S), gR_eq (by rw [sk_1 h7.S]) (sr_1_1 h7.S), isC_eq (by rw [ck_68 h7.C]), show m_X2_number 68 0 15 z7 = _ from r8, bnd_some, sI_n (sk_3 h8.S) (by omega) (by decide), isC_eq (by rw [ck_68 h9.C]), show m_X2_needWord 68 3 _ = _ from r10, bnd_some,
      gR_eq (by rw [ck_68 h10.C]) h10.r, gR_eq (by rw [sk_0 h10.S]) (sr_0_0 h10.S), gR_eq (by rw [sk_1 h10.S]) (sr_1_2 h10.S), isC_eq (by rw [ck_68 h10.C]), show m_X2_number 68 1 999 z10 = _ from r11, bnd_some, sI_n (sk_4 h11.S) (by omega) (by decide), isC_eq (by rw [ck_68 h12.C]), show m_X2_needWord 68 4 _ = _ from r13, bnd_some,
      gR_eq (by rw [ck_68 h13.C]) h13.r, gR_eq (by rw [sk_0 h13.S]) (sr_0_0 h13.S), gR_eq (by rw [sk_1 h13.S]) (sr_1_3 h13.S), isC_eq (by rw [ck_68 h13.C]), show m_X2_number 68 (-30) 0 z13 = _ from r14, bnd_some, sI_n (sk_5 h14.S) (by omega) (by decide)]
  unfold m_X2_readGround
  rw [isC_eq (by rw [ck_68 h.C]), show m_X2_number 68 0 3 z = _ from r1, bnd_some, gR_eq (by rw [ck_68 h1.C]) (cr_68_1 h1.C), aI_n (ck_69 h1.C) (by omega) (by decide), h1.m (by decide) (by decide)]
  have e := ht _ (show nmv 0 3 s < 4 by omega)
  by_cases c : M 69 (nmv 0 3 s) = 0
  · rw [if_pos c]
    refine main ?_
    unfold tG1
    rw [e, decide_eq_false (fun g => g c), fal_f]; exact h1
  · rw [if_neg c, gI_eq (by rw [ck_68 h1.C]), q1, isC_eq (by rw [ck_68 h1.C])]
    obtain ⟨z2, r2, h2⟩ := h_fail 2 s.1.2.1 h1
    rw [r2, bnd_some]
    refine main ?_
    unfold tG1
    rw [e, decide_eq_true c]; exact h2
/-! stream -/
def tS1 (b : Nat → Nat) (n : Nat) (t : Nat → Bool) (s : Ps) : Ps := wd b n (txw 8) (fal (t (nmv 0 11 s)) 2 s.1.2.1 (nm b n 0 11 s))
def tS (b : Nat → Nat) (n : Nat) (t : Nat → Bool) (s : Ps) : Ps := nm b n 0 30 (tS1 b n t s)
theorem st_C (t : Nat → Bool) (h : HC z0 z b n d s M fa co) (ht : ∀ g, g < 12 → t g = decide (¬ M (d + 7) g = -1)) : ∃ y, m_X2_readStream 68 z = some ((), y) ∧ HC z0 y b n d (tS b n t s) (upm M (d + 7) (nmv 0 11 s) (nI (nmv 0 30 (tS1 b n t s)))) fa co := by
  have hg := (nmv_b (s := s) (show 0 ≤ 11 by decide)).2
  have hd := h.dd
  obtain ⟨z1, r1, h1, q1⟩ := h_nm 0 11 h (by decide) (by decide)
  have main : ∀ {z2 : Hp}, HC z0 z2 b n d (fal (t (nmv 0 11 s)) 2 s.1.2.1 (nm b n 0 11 s)) M fa co → ∃ y, m_X2_readStream_B33 68 (nI (nmv 0 11 s)) z2 = some ((), y) ∧ HC z0 y b n d (tS b n t s) (upm M (d + 7) (nmv 0 11 s) (nI (nmv 0 30 (tS1 b n t s)))) fa co := fun {z2} h2 => by
    obtain ⟨z4, r4, h4⟩ := h_wd 8 h2 (by decide)
    obtain ⟨z5, r5, h5, _⟩ := h_nm 0 30 h4 (by decide) (by decide)
    have h6 := h5.w (a := d + 7) (k := nmv 0 11 s) (v := nI (nmv 0 30 (tS1 b n t s))) (by omega)
    refine ⟨_, ?_, h6⟩
    unfold m_X2_readStream_B33
    rw [isC_eq (by rw [ck_68 h2.C]), r4, bnd_some, gR_eq (by rw [ck_68 h4.C]) h4.r, gR_eq (by rw [sk_0 h4.S]) (sr_0_0 h4.S), gR_eq (by rw [sk_1 h4.S]) (sr_1_5 h4.S), isC_eq (by rw [ck_68 h4.C]), show m_X2_number 68 0 30 z4 = _ from r5, bnd_some, sI_n (sk_7 h5.S) (by omega) (by decide)]
    rfl
  unfold m_X2_readStream
  rw [isC_eq (by rw [ck_68 h.C]), show m_X2_number 68 0 11 z = _ from r1, bnd_some, gR_eq (by rw [ck_68 h1.C]) h1.r, gR_eq (by rw [sk_0 h1.S]) (sr_0_0 h1.S), gR_eq (by rw [sk_1 h1.S]) (sr_1_5 h1.S), aI_n (sk_7 h1.S) (by omega) (by decide), h1.md (by decide)]
  have e := ht _ (show nmv 0 11 s < 12 by omega)
  by_cases c : M (d + 7) (nmv 0 11 s) = -1
  · rw [if_pos c]
    refine main ?_
    rw [e, decide_eq_false (fun g => g c), fal_f]; exact h1
  · rw [if_neg c, gI_eq (by rw [ck_68 h1.C]), q1, isC_eq (by rw [ck_68 h1.C])]
    obtain ⟨z2, r2, h2⟩ := h_fail 2 s.1.2.1 h1
    rw [r2, bnd_some]
    refine main ?_
    rw [e, decide_eq_true c]; exact h2
/-! far, cold, house -/
theorem fr_C (h : HC z0 z b n d s M fa co) : ∃ y, m_X2_readFar 68 z = some ((), y) ∧ HC z0 y b n d (nm b n 1 300 s) (upm M (d + 1) 6 (nI (nmv 1 300 s))) 1 co := by
  have hd := h.dd
  have h1 := h.w3 1
  obtain ⟨z5, r5, h5, _⟩ := h_nm 1 300 h1 (by decide) (by decide)
  have h6 := h5.w (a := d + 1) (k := 6) (v := nI (nmv 1 300 s)) (by omega)
  refine ⟨_, ?_, h6⟩
  unfold m_X2_readFar
  rw [pI_eq (by rw [ck_68 h.C]), gR_eq (by rw [ck_68 h1.C]) h1.r, gR_eq (by rw [sk_0 h1.S]) (sr_0_0 h1.S), isC_eq (by rw [ck_68 h1.C]), show m_X2_number 68 1 300 _ = _ from r5, bnd_some, pI_eq (by rw [sk_1 h5.S])]
theorem co_C (h : HC z0 z b n d s M fa co) : ∃ y, m_X2_readCold 68 z = some ((), y) ∧ HC z0 y b n d (nm b n 0 99999 s) (upm M d 12 (nI (nmv 0 99999 s))) fa 1 := by
  have hd := h.dd
  have h1 := h.w4 1
  obtain ⟨z5, r5, h5, _⟩ := h_nm 0 99999 h1 (by decide) (by decide)
  have h6 := h5.w (a := d) (k := 12) (v := nI (nmv 0 99999 s)) (by omega)
  refine ⟨_, ?_, h6⟩
  unfold m_X2_readCold
  rw [pI_eq (by rw [ck_68 h.C]), gR_eq (by rw [ck_68 h1.C]) h1.r, isC_eq (by rw [ck_68 h1.C]), show m_X2_number 68 0 99999 _ = _ from r5, bnd_some, pI_eq (by rw [sk_0 h5.S])]
def tH1 (b : Nat → Nat) (n : Nat) (s : Ps) : Ps := wd b n (txw 15) (nm b n 0 10 s)
def tH (b : Nat → Nat) (n : Nat) (s : Ps) : Ps := nm b n 0 999 (tH1 b n s)
def mHo (b : Nat → Nat) (n d m : Nat) (s : Ps) (M : Me) : Me := upm (upm (upm (upm M (d + 16) m (nI (nmv 0 10 s))) (d + 17) m (nI (nmv 0 999 (tH1 b n s)))) (d + 18) m (-1)) (d + 15) 3 (nI (m + 1))
theorem ho_C {m : Nat} (h : HC z0 z b n d s M fa co) (hm : m ≤ 6) (e : M (d + 15) 3 = nI m) : ∃ y, m_X2_readHouse 68 z = some ((), y) ∧ HC z0 y b n d (tH b n s) (if m < 6 then mHo b n d m s M else M) fa co := by
  have hd := h.dd
  obtain ⟨z1, r1, h1, _⟩ := h_nm 0 10 h (by decide) (by decide)
  obtain ⟨z2, r2, h2⟩ := h_wd 15 h1 (by decide)
  replace h2 : HC z0 z2 b n d (tH1 b n s) M fa co := h2
  obtain ⟨z3, r3, h3, _⟩ := h_nm 0 999 h2 (by decide) (by decide)
  unfold m_X2_readHouse m_X1_add
  rw [isC_eq (by rw [ck_68 h.C]), show m_X2_number 68 0 10 _ = _ from r1, bnd_some, isC_eq (by rw [ck_68 h1.C]), r2, bnd_some, gR_eq (by rw [ck_68 h2.C]) h2.r, gR_eq (by rw [sk_0 h2.S]) (sr_0_2 h2.S), isC_eq (by rw [ck_68 h2.C]), show m_X2_number 68 0 999 _ = _ from r3, bnd_some, isC_eq (by rw [sk_15 h3.S]), gI_eq (by rw [sk_15 h3.S]), h3.md (by decide), e]
  by_cases c : m < 6
  · have h4 := h3.w (a := d + 16) (k := m) (v := nI (nmv 0 10 s)) (by omega)
    have h5 := h4.w (a := d + 17) (k := m) (v := nI (nmv 0 999 (tH1 b n s))) (by omega)
    have h6 := h5.w (a := d + 18) (k := m) (v := -1) (by omega)
    have h7 := h6.w (a := d + 15) (k := 3) (v := nI (m + 1)) (by omega)
    have e4 : ∀ {x : Hp} {K : Me} {t : Ps}, HC z0 x b n d t K fa co → K (d + 15) 3 = nI m → zI x (d + 15) 3 = nI m := fun {x K t} g1 g2 => by rw [g1.md (by decide)]; exact g2
    refine ⟨_, ?_, by rw [if_pos c]; exact h7⟩
    rw [if_pos (show nI m < 6 from nI_lt (b := 6) c (by decide)), gR_eq (by rw [sk_15 h3.S]) (sr_15_0 h3.S), gI_eq (by rw [sk_15 h3.S]), e4 h3 e, sI_n (sk_16 h3.S) (by omega) (by decide),
      gR_eq (by rw [sk_15 h4.S]) (sr_15_1 h4.S), gI_eq (by rw [sk_15 h4.S]), e4 h4 (by rw [upm_n (by omega)]; exact e), sI_n (sk_17 h4.S) (by omega) (by decide),
      gR_eq (by rw [sk_15 h5.S]) (sr_15_2 h5.S), gI_eq (by rw [sk_15 h5.S]), e4 h5 (by rw [upm_n (by omega), upm_n (by omega)]; exact e), sI_n (sk_18 h5.S) (by omega) (by decide), gI_eq (by rw [sk_15 h6.S]), e4 h6 (by rw [upm_n (by omega), upm_n (by omega), upm_n (by omega)]; exact e), nI_1, pI_eq (by rw [sk_15 h6.S])]
    rfl
  · refine ⟨z3, ?_, by rw [if_neg c]; exact h3⟩
    rw [if_neg (show ¬ nI m < 6 from nI_nlt (b := 6) (by omega) (by omega)), bnd_some]
end
