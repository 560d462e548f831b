/-! ===== text: pipes and rules of the class ===== -/
section
variable {z0 z y : Hp} {b : Nat → Nat} {n d : Nat} {s s' : Ps} {M : Me} {fa co : Int32}
theorem stand_C {m c : Nat} (h : HC z0 z b n d s M fa co) (hm : m ≤ 18) (e : M (d + 8) 6 = nI m) : ∃ r, m_X3_standingIn (d + 8) (nI c) z = some (r, z) ∧ (r = -1 ↔ ¬ ∃ p, p < m ∧ M (d + 9) p = nI c) := by
  have hS := h.S
  have e8 := h.md (j := 8) (by decide)
  have e9 := h.md (j := 9) (by decide)
  unfold m_X3_standingIn
  refine loopQ (X := Int32) (fun f x => m_X3_standingIn_L2 f (d + 8) (nI c) x z) (fun t => ∃ r, t = some (r, z) ∧ (r = -1 ↔ ¬ ∃ p, p < m ∧ M (d + 9) p = nI c)) (fun j x => x = nI j ∧ ∀ p, p < j → ¬ M (d + 9) p = nI c) m ?hs ?he 0 FU 0 (Nat.zero_le _) (by show m - 0 < FU; exact FU_pos (by omega)) ⟨rfl, fun p hp => absurd hp (by omega)⟩
  case hs =>
    rintro j f x hj ⟨h1, h2⟩
    subst h1
    rw [m_X3_standingIn_L2, gI_eq (by rw [sk_8 hS]), e8, e, if_pos (nI_lt hj (by omega)), gR_eq (by rw [sk_8 hS]) (sr_8_0 hS), aI_n (sk_9 hS) (by omega) (by decide), e9]
    by_cases g : M (d + 9) j = nI c
    · right
      refine ⟨nI j, by rw [if_pos g], ⟨fun q => absurd q (nI_ne_m1 (by omega)), fun q => absurd ⟨j, hj, g⟩ q⟩⟩
    · left
      refine ⟨nI (j + 1), ⟨rfl, fun p hp => ?_⟩, by rw [if_neg g, nI_1]⟩
      by_cases q : p = j
      · rw [q]; exact g
      · exact h2 p (by omega)
  case he =>
    rintro f x ⟨h1, h2⟩
    subst h1
    refine ⟨-1, ?_, ⟨fun _ q => ?_, fun _ => rfl⟩⟩
    · rw [m_X3_standingIn_L2, gI_eq (by rw [sk_8 hS]), e8, e, if_neg (nI_nlt (Nat.le_refl _) (by omega))]
    · obtain ⟨p, hp, g⟩ := q
      exact h2 p hp g
def mPi (d m : Nat) (v1 v2 v3 : Int32) (M : Me) : Me := upm (upm (upm (upm (upm (upm (upm M (d + 9) m v1) (d + 10) m v2) (d + 11) m v3) (d + 12) m 1) (d + 13) m 0) (d + 14) m 0) (d + 8) 6 (nI (m + 1))
theorem pad_C {m : Nat} (v1 v2 v3 : Int32) (h : HC z0 z b n d s M fa co) (hm : m < 18) (e : M (d + 8) 6 = nI m) : ∃ y, m_X3_add (d + 8) v1 v2 v3 z = some ((), y) ∧ HC z0 y b n d s (mPi d m v1 v2 v3 M) fa co := by
  have hd := h.dd
  have h4 := h.w (a := d + 9) (k := m) (v := v1) (by omega)
  have h5 := h4.w (a := d + 10) (k := m) (v := v2) (by omega)
  have h6 := h5.w (a := d + 11) (k := m) (v := v3) (by omega)
  have h7 := h6.w (a := d + 12) (k := m) (v := 1) (by omega)
  have h8 := h7.w (a := d + 13) (k := m) (v := 0) (by omega)
  have h9 := h8.w (a := d + 14) (k := m) (v := 0) (by omega)
  have h10 := h9.w (a := d + 8) (k := 6) (v := nI (m + 1)) (by omega)
  have e4 : ∀ {x : Hp} {K : Me} {t : Ps}, HC z0 x b n d t K fa co → K (d + 8) 6 = nI m → zI x (d + 8) 6 = nI m := fun {x K t} g1 g2 => by rw [g1.md (by decide)]; exact g2
  refine ⟨_, ?_, h10⟩
  unfold m_X3_add
  rw [gI_eq (by rw [sk_8 h.S]), e4 h e, if_pos (show nI m < 18 from nI_lt (b := 18) hm (by decide)), gR_eq (by rw [sk_8 h.S]) (sr_8_0 h.S), gI_eq (by rw [sk_8 h.S]), e4 h e, sI_n (sk_9 h.S) (by omega) (by decide),
    gR_eq (by rw [sk_8 h4.S]) (sr_8_1 h4.S), gI_eq (by rw [sk_8 h4.S]), e4 h4 (by rw [upm_n (by omega)]; exact e), sI_n (sk_10 h4.S) (by omega) (by decide),
    gR_eq (by rw [sk_8 h5.S]) (sr_8_2 h5.S), gI_eq (by rw [sk_8 h5.S]), e4 h5 (by rw [upm_n (by omega), upm_n (by omega)]; exact e), sI_n (sk_11 h5.S) (by omega) (by decide),
    gR_eq (by rw [sk_8 h6.S]) (sr_8_3 h6.S), gI_eq (by rw [sk_8 h6.S]), e4 h6 (by rw [upm_n (by omega), upm_n (by omega), upm_n (by omega)]; exact e), sI_n (sk_12 h6.S) (by omega) (by decide),
    gR_eq (by rw [sk_8 h7.S]) (sr_8_4 h7.S), gI_eq (by rw [sk_8 h7.S]), e4 h7 (by rw [upm_n (by omega), upm_n (by omega), upm_n (by omega), upm_n (by omega)]; exact e), sI_n (sk_13 h7.S) (by omega) (by decide),
    gR_eq (by rw [sk_8 h8.S]) (sr_8_5 h8.S), gI_eq (by rw [sk_8 h8.S]), e4 h8 (by rw [upm_n (by omega), upm_n (by omega), upm_n (by omega), upm_n (by omega), upm_n (by omega)]; exact e), sI_n (sk_14 h8.S) (by omega) (by decide),
    gI_eq (by rw [sk_8 h9.S]), e4 h9 (by rw [upm_n (by omega), upm_n (by omega), upm_n (by omega), upm_n (by omega), upm_n (by omega), upm_n (by omega)]; exact e), nI_1, pI_eq (by rw [sk_8 h9.S])]
def cP (b : Nat → Nat) (n : Nat) (s : Ps) : Nat := 12 * nmv 0 11 (nm b n 0 11 s) + nmv 0 11 s
def tP2 (b : Nat → Nat) (n : Nat) (t : Nat → Bool) (s : Ps) : Ps := wd b n (txw 12) (fal (t (cP b n s)) 2 (nm b n 0 11 s).1.2.1 (nm b n 0 11 (nm b n 0 11 s)))
def tP3 (b : Nat → Nat) (n : Nat) (t : Nat → Bool) (s : Ps) : Ps := wd b n (txw 1) (ng b n 400 (tP2 b n t s))
def tP (b : Nat → Nat) (n : Nat) (t : Nat → Bool) (s : Ps) : Ps := nm b n 0 60 (tP3 b n t s)
theorem cP_lt {b : Nat → Nat} {n : Nat} {s : Ps} : cP b n s < 144 := by
  have h1 := (nmv_b (lo := 0) (hi := 11) (s := s) (by decide)).2
  have h2 := (nmv_b (lo := 0) (hi := 11) (s := nm b n 0 11 s) (by decide)).2
  unfold cP
  omega
theorem pi_C {m : Nat} (t : Nat → Bool) (h : HC z0 z b n d s M fa co) (hm : m ≤ 12) (e : M (d + 8) 6 = nI m) (ht : ∀ c, c < 144 → (t c = true ↔ ∃ p, p < m ∧ M (d + 9) p = nI c)) : ∃ y, m_X2_readPipe 68 z = some ((), y) ∧ HC z0 y b n d (tP b n t s) (mPi d m (nI (cP b n s)) (ngv b n 400 (tP2 b n t s)) (nI (nmv 0 60 (tP3 b n t s))) M) fa co := by
  have hd := h.dd
  obtain ⟨z1, r1, h1, _⟩ := h_nm 0 11 h (by decide) (by decide)
  obtain ⟨z2, r2, h2, q2⟩ := h_nm 0 11 h1 (by decide) (by decide)
  have main : ∀ {z3 : Hp}, HC z0 z3 b n d (fal (t (cP b n s)) 2 (nm b n 0 11 s).1.2.1 (nm b n 0 11 (nm b n 0 11 s))) M fa co → ∃ y, m_X2_readPipe_B47 68 (nI (cP b n s)) z3 = some ((), y) ∧ HC z0 y b n d (tP b n t s) (mPi d m (nI (cP b n s)) (ngv b n 400 (tP2 b n t s)) (nI (nmv 0 60 (tP3 b n t s))) M) fa co := fun {z3} h3 => by
    obtain ⟨z4, r4, h4⟩ := h_wd 12 h3 (by decide)
    replace h4 : HC z0 z4 b n d (tP2 b n t s) M fa co := h4
    obtain ⟨z5, r5, h5⟩ := h_ng 400 h4 (by decide) (by decide)
    obtain ⟨z6, r6, h6⟩ := h_wd 1 h5 (by decide)
    replace h6 : HC z0 z6 b n d (tP3 b n t s) M fa co := h6
    obtain ⟨z7, r7, h7, _⟩ := h_nm 0 60 h6 (by decide) (by decide)
    obtain ⟨y, r8, h8⟩ := pad_C (nI (cP b n s)) (ngv b n 400 (tP2 b n t s)) (nI (nmv 0 60 (tP3 b n t s))) h7 (by omega) e
    refine ⟨y, ?_, h8⟩
    unfold m_X2_readPipe_B47
    rw [isC_eq (by rw [ck_68 h3.C]), r4, bnd_some, isC_eq (by rw [ck_68 h4.C]), show m_X2_number 68 (-400) 0 z4 = _ from r5, bnd_some, isC_eq (by rw [ck_68 h5.C]), r6, bnd_some, gR_eq (by rw [ck_68 h6.C]) h6.r, gR_eq (by rw [sk_0 h6.S]) (sr_0_1 h6.S), isC_eq (by rw [ck_68 h6.C]), show m_X2_number 68 0 60 z6 = _ from r7, bnd_some, isC_eq (by rw [sk_8 h7.S]), r8, bnd_some]
  obtain ⟨r, rs, rq⟩ := stand_C (c := cP b n s) h2 (by omega) e
  unfold m_X2_readPipe
  rw [isC_eq (by rw [ck_68 h.C]), show m_X2_number 68 0 11 z = _ from r1, bnd_some, isC_eq (by rw [ck_68 h1.C]), show m_X2_number 68 0 11 z1 = _ from r2, bnd_some, gR_eq (by rw [ck_68 h2.C]) h2.r, gR_eq (by rw [sk_0 h2.S]) (sr_0_1 h2.S), isC_eq (by rw [sk_8 h2.S]), c_mul, nI_add, show m_X3_standingIn (d + 8) (nI (12 * nmv 0 11 (nm b n 0 11 s) + nmv 0 11 s)) z2 = _ from rs, bnd_some]
  have et := ht (cP b n s) cP_lt
  by_cases c : r = -1
  · rw [if_pos c]
    refine main ?_
    have : t (cP b n s) = false := by
      cases q : t (cP b n s) with
      | false => rfl
      | true => exact absurd (et.mp q) (rq.mp c)
    rw [this, fal_f]; exact h2
  · rw [if_neg c, gI_eq (by rw [ck_68 h2.C]), q2, isC_eq (by rw [ck_68 h2.C])]
    obtain ⟨z3, r3, h3⟩ := h_fail 2 (nm b n 0 11 s).1.2.1 h2
    rw [r3, bnd_some]
    refine main ?_
    have : t (cP b n s) = true := by
      cases q : t (cP b n s) with
      | true => rfl
      | false => exact absurd (rq.mpr (fun g => by rw [et.mpr g] at q; cases q)) c
    rw [this]; exact h3
/-! conditions -/
def cw (b : Nat → Nat) (T : Tk) : Nat := if isW b (txw 18) T = true then 0 else if isW b (txw 19) T = true then 1 else if isW b (txw 20) T = true then 2 else if isW b (txw 21) T = true then 3 else if isW b (txw 22) T = true then 4 else 5
theorem cw_lt {b : Nat → Nat} {T : Tk} : cw b T < 6 := by
  unfold cw
  repeat (first | omega | split)
def cwv (k : Nat) : Int32 := if k = 5 then -1 else nI k
theorem cw_C (h : HC z0 z b n d s M fa co) : m_X2_condWord 68 z = some (cwv (cw b s.1), z) := by
  have hC := h.C
  have w := fun q hq => isW_C (q := q) h.1 hq
  unfold m_X2_condWord cw
  rw [gR_eq (by rw [ck_68 hC]) (cr_68_0 hC), isC_eq (by rw [ck_66 hC]), w 18 (by decide), bnd_some]
  cases isW b (txw 18) s.1 with
  | true => rw [if_neg bI_t]; rfl
  | false =>
    rw [if_pos bI_f, gR_eq (by rw [ck_68 hC]) (cr_68_0 hC), isC_eq (by rw [ck_66 hC]), w 19 (by decide), bnd_some]
    cases isW b (txw 19) s.1 with
    | true => rw [if_neg bI_t]; rfl
    | false =>
      rw [if_pos bI_f, gR_eq (by rw [ck_68 hC]) (cr_68_0 hC), isC_eq (by rw [ck_66 hC]), w 20 (by decide), bnd_some]
      cases isW b (txw 20) s.1 with
      | true => rw [if_neg bI_t]; rfl
      | false =>
        rw [if_pos bI_f, gR_eq (by rw [ck_68 hC]) (cr_68_0 hC), isC_eq (by rw [ck_66 hC]), w 21 (by decide), bnd_some]
        cases isW b (txw 21) s.1 with
        | true => rw [if_neg bI_t]; rfl
        | false =>
          rw [if_pos bI_f, gR_eq (by rw [ck_68 hC]) (cr_68_0 hC), isC_eq (by rw [ck_66 hC]), w 22 (by decide), bnd_some]
          cases isW b (txw 22) s.1 with
          | true => rw [if_neg bI_t]; rfl
          | false => rw [if_pos bI_f]; rfl
def isC2 (T : Tk) : Bool := isS 60 T || isS 62 T
def cmp (b : Nat → Nat) (n : Nat) (s : Ps) : Ps := ad b n (fal (!isC2 s.1) 1 s.1.2.1 s)
theorem cmp_C (h : HC z0 z b n d s M fa co) : ∃ y, m_X2_comparison 68 z = some (nI s.1.2.2.2, y) ∧ HC z0 y b n d (cmp b n s) M fa co := by
  have hC := h.C
  have fin : ∀ {x : Hp} {u : Ps}, HC z0 x b n d u M fa co → ∃ y, m_X2_comparison_B44 68 (nI s.1.2.2.2) x = some (nI s.1.2.2.2, y) ∧ HC z0 y b n d (ad b n u) M fa co := fun {x u} g => by
    obtain ⟨y, r, h1⟩ := h_ad g
    refine ⟨y, ?_, h1⟩
    unfold m_X2_comparison_B44
    rw [gR_eq (by rw [ck_68 g.C]) (cr_68_0 g.C), isC_eq (by rw [ck_66 g.C]), r, bnd_some]
  unfold m_X2_comparison cmp isC2
  rw [gR_eq (by rw [ck_68 hC]) (cr_68_0 hC), gI_eq (by rw [ck_66 hC]), h.1.2.2.1.2.2.2, gR_eq (by rw [ck_68 hC]) (cr_68_0 hC), isC_eq (by rw [ck_66 hC]), show m_X4_isSign 66 60 z = _ from isS_C (c := 60) h.1 (by decide), bnd_some]
  cases isS 60 s.1 with
  | true =>
    rw [if_neg bI_t, show (!(true || isS 62 s.1)) = false by cases isS 62 s.1 <;> rfl, fal_f]
    exact fin h
  | false =>
    rw [if_pos bI_f, gR_eq (by rw [ck_68 hC]) (cr_68_0 hC), isC_eq (by rw [ck_66 hC]), show m_X4_isSign 66 62 z = _ from isS_C (c := 62) h.1 (by decide), bnd_some]
    cases isS 62 s.1 with
    | true =>
      rw [if_neg bI_t, show (!(false || true)) = false from rfl, fal_f]
      exact fin h
    | false =>
      obtain ⟨z1, r1, h1⟩ := h_fail 1 s.1.2.1 h
      rw [if_pos bI_f, gR_eq (by rw [ck_68 hC]) (cr_68_0 hC), gI_eq (by rw [ck_66 hC]), h.1.la, isC_eq (by rw [ck_68 hC]), r1, bnd_some]
      exact fin h1
/-- behind a condition's word -/
def tC1 (b : Nat → Nat) (n i : Nat) (s : Ps) : Ps := ad b n (if cw b s.1 = 5 then fal true 1 s.1.2.1 s else fal (decide (i = 3)) 3 s.1.2.1 s)
def tC (b : Nat → Nat) (n i : Nat) (s : Ps) : Ps := if cw b s.1 = 0 then tC1 b n i s else nm b n 0 99999 (cmp b n (tC1 b n i s))
def cSg (b : Nat → Nat) (n i : Nat) (s : Ps) : Int32 := if cw b s.1 = 0 then 0 else nI (tC1 b n i s).1.2.2.2
def cNr (b : Nat → Nat) (n i : Nat) (s : Ps) : Int32 := if cw b s.1 = 0 then 0 else nI (nmv 0 99999 (cmp b n (tC1 b n i s)))
def mCo (d m k : Nat) (v1 v2 v3 : Int32) (M : Me) : Me := if m < 4 ∧ k < 3 then upm (upm (upm (upm M (d + 21) (3 * m + k) v1) (d + 22) (3 * m + k) v2) (d + 23) (3 * m + k) v3) (d + 20) m (nI (k + 1)) else M
theorem cad_C {m k : Nat} (v1 v2 v3 : Int32) (h : HC z0 z b n d s M fa co) (hm : m ≤ 4) (e : M (d + 19) 4 = nI m) (hk : m < 4 → k < 4 ∧ M (d + 20) m = nI k) : ∃ y, m_X5_addCond (d + 19) v1 v2 v3 z = some ((), y) ∧ HC z0 y b n d s (mCo d m k v1 v2 v3 M) fa co := by
  have hd := h.dd
  unfold m_X5_addCond mCo
  rw [gI_eq (by rw [sk_19 h.S]), h.md (by decide), e]
  by_cases c : m < 4
  · obtain ⟨k4, ek⟩ := hk c
    rw [if_pos (show nI m < 4 from nI_lt (b := 4) c (by decide)), gR_eq (by rw [sk_19 h.S]) (sr_19_0 h.S), gI_eq (by rw [sk_19 h.S]), h.md (by decide), e, aI_n (sk_20 h.S) (by omega) (by decide), h.md (j := 20) (by decide), ek]
    by_cases c2 : k < 3
    · have h4 := h.w (a := d + 21) (k := 3 * m + k) (v := v1) (by omega)
      have h5 := h4.w (a := d + 22) (k := 3 * m + k) (v := v2) (by omega)
      have h6 := h5.w (a := d + 23) (k := 3 * m + k) (v := v3) (by omega)
      have h7 := h6.w (a := d + 20) (k := m) (v := nI (k + 1)) (by omega)
      have e6 : zI (wI (wI (wI z (d + 21) (ups (zI z (d + 21)) (3 * m + k) v1)) (d + 22) (ups (zI (wI z (d + 21) (ups (zI z (d + 21)) (3 * m + k) v1)) (d + 22)) (3 * m + k) v2)) (d + 23) (ups (zI (wI (wI z (d + 21) (ups (zI z (d + 21)) (3 * m + k) v1)) (d + 22) (ups (zI (wI z (d + 21) (ups (zI z (d + 21)) (3 * m + k) v1)) (d + 22)) (3 * m + k) v2)) (d + 23)) (3 * m + k) v3)) (d + 19) 4 = nI m := by rw [h6.md (by decide), upm_n (by omega), upm_n (by omega), upm_n (by omega)]; exact e
      have e7 : zI (wI (wI (wI z (d + 21) (ups (zI z (d + 21)) (3 * m + k) v1)) (d + 22) (ups (zI (wI z (d + 21) (ups (zI z (d + 21)) (3 * m + k) v1)) (d + 22)) (3 * m + k) v2)) (d + 23) (ups (zI (wI (wI z (d + 21) (ups (zI z (d + 21)) (3 * m + k) v1)) (d + 22) (ups (zI (wI z (d + 21) (ups (zI z (d + 21)) (3 * m + k) v1)) (d + 22)) (3 * m + k) v2)) (d + 23)) (3 * m + k) v3)) (d + 20) m = nI k := by rw [h6.md (by decide), upm_n (by omega), upm_n (by omega), upm_n (by omega)]; exact ek
      refine ⟨_, ?_, by rw [if_pos ⟨c, c2⟩]; exact h7⟩
      rw [if_pos (show nI k < 3 from nI_lt (b := 3) c2 (by decide)), gI_eq (by rw [sk_19 h.S]), h.md (by decide), e, gR_eq (by rw [sk_19 h.S]) (sr_19_0 h.S), gI_eq (by rw [sk_19 h.S]), h.md (by decide), e, aI_n (sk_20 h.S) (by omega) (by decide), h.md (j := 20) (by decide), ek, c_mul, nI_add, gR_eq (by rw [sk_19 h.S]) (sr_19_1 h.S), sI_n (sk_21 h.S) (by omega) (by decide),
        gR_eq (by rw [sk_19 h4.S]) (sr_19_2 h4.S), sI_n (sk_22 h4.S) (by omega) (by decide), gR_eq (by rw [sk_19 h5.S]) (sr_19_3 h5.S), sI_n (sk_23 h5.S) (by omega) (by decide), gR_eq (by rw [sk_19 h6.S]) (sr_19_0 h6.S), gI_eq (by rw [sk_19 h6.S]), e6, aI_n (sk_20 h6.S) (by omega) (by decide), e7, sI_n (sk_20 h6.S) (by omega) (by decide), nI_1]
    · refine ⟨z, by rw [if_neg (show ¬ nI k < 3 from nI_nlt (b := 3) (by omega) (by omega))], by rw [if_neg (fun g => c2 g.2)]; exact h⟩
  · refine ⟨z, by rw [if_neg (show ¬ nI m < 4 from nI_nlt (b := 4) (by omega) (by omega))], by rw [if_neg (fun g => c g.1)]; exact h⟩
end
