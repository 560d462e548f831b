/-! ===== sets of places; which rows may be told ===== -/
def al (P : Nat → Bool) : Nat → Nat → Bool
  | 0, _ => true
  | m + 1, k => P k && al P m (k + 1)
theorem al_s {P : Nat → Bool} {N n : Nat} (h : n < N) : al P (N - n) n = (P n && al P (N - (n + 1)) (n + 1)) := by
  obtain ⟨m, e⟩ : ∃ m, N - n = m + 1 := ⟨N - n - 1, by omega⟩
  rw [e, show N - (n + 1) = m by omega]
  rfl
theorem al_iff {P : Nat → Bool} : ∀ {m k : Nat}, al P m k = true → ∀ i, k ≤ i → i < k + m → P i = true
  | 0, _, _, i, h1, h2 => absurd h2 (by omega)
  | m + 1, k, h, i, h1, h2 => by
    have h' : (P k && al P m (k + 1)) = true := h
    rw [Bool.and_eq_true] at h'
    by_cases c : i = k
    · rw [c]; exact h'.1
    · exact al_iff h'.2 i (by omega) (by omega)
theorem ff_none {P : Nat → Bool} : ∀ {m k : Nat}, k + m < 2 ^ 31 → ff P m k = -1 → ∀ i, k ≤ i → i < k + m → P i = false
  | 0, _, _, _, i, h1, h2 => absurd h2 (by omega)
  | m + 1, k, hb, h, i, h1, h2 => by
    have h' : (if P k = true then nI k else ff P m (k + 1)) = -1 := h
    cases hp : P k with
    | true =>
      rw [hp, if_pos rfl] at h'
      exact absurd h' (nI_ne_m1 (by omega))
    | false =>
      rw [hp, if_neg (by decide)] at h'
      by_cases c : i = k
      · rw [c]; exact hp
      · exact ff_none (by omega) h' i (by omega) (by omega)
def cN (v : Int64) : Nat := v.toInt.toNat
theorem cN_ok {v : Int64} (h : 0 ≤ v ∧ v ≤ 143) : v = lN (cN v) ∧ cN v < 144 := by
  have h1 := h.1
  have h2 := h.2
  rw [Int64.le_iff_toInt_le] at h1 h2
  have e0 : (0 : Int64).toInt = 0 := by decide
  have e1 : (143 : Int64).toInt = 143 := by decide
  unfold cN
  refine ⟨Int64.toInt_inj.mp ?_, by omega⟩
  rw [lN_toInt (by omega)]
  omega
theorem lg_eq (a b : Int64) : (lg_cmp a b = 0) ↔ a = b := by
  unfold lg_cmp
  by_cases h1 : b < a
  · rw [if_pos h1]
    refine ⟨fun q => absurd q (by decide), fun q => ?_⟩
    subst q
    rw [Int64.lt_iff_toInt_lt] at h1
    omega
  · rw [if_neg h1]
    by_cases h2 : a = b
    · rw [if_pos h2]; exact ⟨fun _ => h2, fun _ => rfl⟩
    · rw [if_neg h2]; exact ⟨fun q => absurd q (by decide), fun q => absurd q h2⟩
def tlB (W : Nat → Int32) (nu : Nat → Int64) (i : Nat) : Bool := decide (0 ≤ nu i ∧ nu i ≤ 143) && (decide (pcW W (cN (nu i)) = -1) && (decide (W (480 + cN (nu i)) = 0) && al (fun j => !decide (nu j = nu i)) i 0))
theorem tl_gd {W : Nat → Int32} {nu : Nat → Int64} {L : Nat} (h : al (tlB W nu) L 0 = true) (hO : OkW W 12) (h1 : 1 ≤ nPW W) (hL : L ≤ 6) : GdR W (fun i => cN (nu i)) L ∧ ∀ i, i < L → nu i = lN (cN (nu i)) := by
  have g : ∀ i, i < L → (0 ≤ nu i ∧ nu i ≤ 143) ∧ pcW W (cN (nu i)) = -1 ∧ W (480 + cN (nu i)) = 0 ∧ al (fun j => !decide (nu j = nu i)) i 0 = true := fun i hi => by
    have := al_iff h i (by omega) (by omega)
    unfold tlB at this
    rw [Bool.and_eq_true, Bool.and_eq_true, Bool.and_eq_true, decide_eq_true_eq, decide_eq_true_eq, decide_eq_true_eq] at this
    exact this
  refine ⟨⟨h1, hL, fun i hi => (cN_ok (g i hi).1).2, fun i p hi hp e => ?_, fun i j hij hj e => ?_⟩, fun i hi => (cN_ok (g i hi).1).1⟩
  · have hnp := np_le hO
    have := ff_none (by omega) (g i hi).2.1 p (by omega) (by omega)
    dsimp only at this e
    rw [decide_eq_true e] at this
    exact absurd this (by decide)
  · have hi := g i (by omega)
    have hj' := g j hj
    have := al_iff hj'.2.2.2 i (by omega) (by omega)
    dsimp only at this e
    have e2 : nu i = nu j := by rw [(cN_ok hi.1).1, (cN_ok hj'.1).1, e]
    rw [decide_eq_true e2] at this
    exact absurd this (by decide)
theorem tellM_in {z : Hp} {k i L : Nat} {v : Int64} (K : Nat → Int32 → Int32 → Hp → Option (Int32 × Hp)) (hM : LayM z) (hk : k < 4) (hi : i < 60) (nu : Nat → Int64) (hnu : ∀ j, j < 60 → zL z 113 (60 * k + j) = nu j) :
    m_X12_mayTell_L59 K FU 92 (nI k) (nI i) v 0 z = if al (fun j => !decide (nu j = v)) i 0 = true then K 92 (nI k) (nI i) z else some (0, z) := by
  refine loopQ (X := Int32) (fun f x => m_X12_mayTell_L59 K f 92 (nI k) (nI i) v x z) (fun t => t = if al (fun j => !decide (nu j = v)) i 0 = true then K 92 (nI k) (nI i) z else some (0, z)) (fun n x => x = nI n ∧ al (fun j => !decide (nu j = v)) i 0 = al (fun j => !decide (nu j = v)) (i - n) n) i ?hs ?he 0 FU 0 (by omega) (FU_pos (by omega)) ⟨rfl, rfl⟩
  case hs =>
    rintro n f x hn ⟨rfl, h2⟩
    rw [al_s hn] at h2
    rw [m_X12_mayTell_L59, if_pos (nI_lt hn (by omega)), gR_eq (by rw [mk_92 hM]) (mr_92_38 hM), show (60 : Int32) = nI 60 from rfl, pk_mul, nI_add, aL_n (mk_113 hM) (by omega) (by decide), hnu n (by omega)]
    by_cases c : nu n = v
    · right
      rw [if_pos ((lg_eq _ _).mpr c), h2, decide_eq_true c]
      rfl
    · left
      refine ⟨nI (n + 1), ⟨rfl, ?_⟩, ?_⟩
      · rw [h2, decide_eq_false c]; rfl
      · rw [if_neg (fun g => c ((lg_eq _ _).mp g)), nI_1]
  case he =>
    rintro f x ⟨rfl, h2⟩
    rw [Nat.sub_self] at h2
    rw [m_X12_mayTell_L59, if_neg (nI_nlt (Nat.le_refl _) (by omega)), h2]
    rfl
theorem tellM_ok {z : Hp} {k L q : Nat} (hM : LayM z) (hO : OkW (zI z 93) q) (hk : k < 4) (hL : L ≤ 6) (hl : zI z 111 k = nI L) (nu : Nat → Int64) (hnu : ∀ j, j < 60 → zL z 113 (60 * k + j) = nu j) :
    m_X12_mayTell 92 (nI k) z = some (bI (al (tlB (zI z 93) nu) L 0), z) := by
  unfold m_X12_mayTell
  refine loopQ (X := Int32) (fun f x => m_X12_mayTell_L2 f 92 (nI k) x z) (fun t => t = some (bI (al (tlB (zI z 93) nu) L 0), z)) (fun n x => x = nI n ∧ al (tlB (zI z 93) nu) L 0 = al (tlB (zI z 93) nu) (L - n) n) L ?hs ?he 0 FU 0 (by omega) (FU_pos (by omega)) ⟨rfl, rfl⟩
  case hs =>
    rintro n f x hn ⟨rfl, h2⟩
    rw [al_s hn] at h2
    rw [m_X12_mayTell_L2, gR_eq (by rw [mk_92 hM]) (mr_92_36 hM), aI_n (mk_111 hM) hk (by decide), hl, if_pos (nI_lt hn (by omega)), gR_eq (by rw [mk_92 hM]) (mr_92_38 hM), show (60 : Int32) = nI 60 from rfl, pk_mul, nI_add, aL_n (mk_113 hM) (by omega) (by decide), hnu n (by omega), in_gen, bnd_some]
    by_cases c1 : 0 ≤ nu n ∧ nu n ≤ 143
    · obtain ⟨e1, e2⟩ := cN_ok c1
      have e3 : Int64.toInt32 (nu n) = nI (cN (nu n)) := by rw [e1, lN_i]; rw [← e1]
      rw [if_pos c1, if_neg (by decide), isC_eq (by rw [mk_92 hM]), e3, pipeAt_ok hM hO e2, bnd_some]
      by_cases c2 : pcW (zI z 93) (cN (nu n)) = -1
      · rw [if_pos c2, isC_eq (by rw [mk_92 hM]), isDugM_ok hM e2, bnd_some]
        rcases ok_dug hO _ e2 with c3 | c3
        · rw [c3, if_pos (by decide), tellM_in (L := L) _ hM hk (by omega) nu hnu]
          have ev : tlB (zI z 93) nu n = al (fun j => !decide (nu j = nu n)) n 0 := by unfold tlB; rw [decide_eq_true c1, decide_eq_true c2, decide_eq_true c3, Bool.true_and, Bool.true_and, Bool.true_and]
          rw [ev] at h2
          cases c4 : al (fun j => !decide (nu j = nu n)) n 0 with
          | true =>
            left
            refine ⟨nI (n + 1), ⟨rfl, by rw [h2, c4, Bool.true_and]⟩, ?_⟩
            rw [if_pos rfl]
            unfold m_X12_mayTell_B90
            rw [nI_1]
          | false =>
            right
            rw [if_neg (by decide), h2, c4]
            rfl
        · right
          have ev : tlB (zI z 93) nu n = false := by unfold tlB; rw [decide_eq_false (show ¬ zI z 93 (480 + cN (nu n)) = 0 by rw [c3]; decide)]; simp
          rw [c3, if_neg (by decide), h2, ev]
          rfl
      · right
        have ev : tlB (zI z 93) nu n = false := by unfold tlB; rw [decide_eq_false c2]; simp
        rw [if_neg c2, h2, ev]
        rfl
    · right
      have ev : tlB (zI z 93) nu n = false := by unfold tlB; rw [decide_eq_false c1]; rfl
      rw [if_neg c1, if_pos rfl, h2, ev]
      rfl
  case he =>
    rintro f x ⟨rfl, h2⟩
    rw [Nat.sub_self] at h2
    rw [m_X12_mayTell_L2, gR_eq (by rw [mk_92 hM]) (mr_92_36 hM), aI_n (mk_111 hM) hk (by decide), hl, if_neg (nI_nlt (Nat.le_refl _) (by omega)), h2]
    rfl
theorem tellC_in {z : Hp} {k i L : Nat} {v : Int64} (K : Nat → Int32 → Int32 → Int32 → Hp → Option (Int32 × Hp)) (hC : LayC z) (hk : k < 4) (hi : i < 60) (nu : Nat → Int64) (hnu : ∀ j, j < 60 → zL z (85 + k) j = nu j) :
    m_X11_standForMore_L86 K FU 0 (nI k) (nI L) (nI i) v 0 z = if al (fun j => !decide (nu j = v)) i 0 = true then K 0 (nI k) (nI L) (nI i) z else some (0, z) := by
  refine loopQ (X := Int32) (fun f x => m_X11_standForMore_L86 K f 0 (nI k) (nI L) (nI i) v x z) (fun t => t = if al (fun j => !decide (nu j = v)) i 0 = true then K 0 (nI k) (nI L) (nI i) z else some (0, z)) (fun n x => x = nI n ∧ al (fun j => !decide (nu j = v)) i 0 = al (fun j => !decide (nu j = v)) (i - n) n) i ?hs ?he 0 FU 0 (by omega) (FU_pos (by omega)) ⟨rfl, rfl⟩
  case hs =>
    rintro n f x hn ⟨rfl, h2⟩
    rw [al_s hn] at h2
    rw [m_X11_standForMore_L86, if_pos (nI_lt hn (by omega)), gR_eq (by rw [ck_0 hC]) (cr_0_7 hC), gR_eq (by rw [ck_83 hC]) (cr_83_0 hC), aR_n (ck_84 hC) hk (by decide) (cr84 hC hk), aL_n (ck85 hC hk) (by omega) (by decide), hnu n (by omega)]
    by_cases c : nu n = v
    · right
      rw [if_pos ((lg_eq _ _).mpr c), h2, decide_eq_true c]
      rfl
    · left
      refine ⟨nI (n + 1), ⟨rfl, ?_⟩, ?_⟩
      · rw [h2, decide_eq_false c]; rfl
      · rw [if_neg (fun g => c ((lg_eq _ _).mp g)), nI_1]
  case he =>
    rintro f x ⟨rfl, h2⟩
    rw [Nat.sub_self] at h2
    rw [m_X11_standForMore_L86, if_neg (nI_nlt (Nat.le_refl _) (by omega)), h2]
    rfl
theorem tellC_ok {z : Hp} {s k L q : Nat} {W : Nat → Int32} (hC : LayC z) (hS : LayS z s) (hR : RelS z s W) (hN : zR z 0 0 = some s) (hO : OkW W q) (hk : k < 4) (hL : L ≤ 6) (hl : zI z 90 k = nI L) (nu : Nat → Int64) (hnu : ∀ j, j < 60 → zL z (85 + k) j = nu j) :
    m_X11_standForMore 0 (nI k) z = some (bI (al (tlB W nu) L 0), z) := by
  unfold m_X11_standForMore m_X6_lengthOf
  rw [gR_eq (by rw [ck_0 hC]) (cr_0_7 hC), isC_eq (by rw [ck_83 hC]), gR_eq (by rw [ck_83 hC]) (cr_83_2 hC), aI_n (ck_90 hC) hk (by decide), bnd_some, hl]
  refine loopQ (X := Int32) (fun f x => m_X11_standForMore_L11 f 0 (nI k) (nI L) x z) (fun t => t = some (bI (al (tlB W nu) L 0), z)) (fun n x => x = nI n ∧ al (tlB W nu) L 0 = al (tlB W nu) (L - n) n) L ?hs ?he 0 FU 0 (by omega) (FU_pos (by omega)) ⟨rfl, rfl⟩
  case hs =>
    rintro n f x hn ⟨rfl, h2⟩
    rw [al_s hn] at h2
    have rg : (0 ≤ nu n ∧ nu n ≤ 143) ↔ (¬ nu n < 0 ∧ nu n < 144) := by
      rw [Int64.not_lt, Int64.lt_iff_toInt_lt, Int64.le_iff_toInt_le (y := 143), show (143 : Int64).toInt = 143 by decide, show (144 : Int64).toInt = 144 by decide]
      exact ⟨fun g => ⟨g.1, by omega⟩, fun g => ⟨g.1, by omega⟩⟩
    rw [m_X11_standForMore_L11, if_pos (nI_lt hn (by omega)), gR_eq (by rw [ck_0 hC]) (cr_0_7 hC), gR_eq (by rw [ck_83 hC]) (cr_83_0 hC), aR_n (ck_84 hC) hk (by decide) (cr84 hC hk), aL_n (ck85 hC hk) (by omega) (by decide), hnu n (by omega)]
    simp only [lg_lt]
    by_cases c1 : 0 ≤ nu n ∧ nu n ≤ 143
    · obtain ⟨e1, e2⟩ := cN_ok c1
      have e3 : Int64.toInt32 (nu n) = nI (cN (nu n)) := by rw [e1, lN_i]; rw [← e1]
      have ed : zI z (s + 29) (cN (nu n)) = W (480 + cN (nu n)) := rs_dug hR _ e2
      rw [if_neg (rg.mp c1).1, if_pos (rg.mp c1).2, gR_eq (by rw [ck_0 hC]) hN, gR_eq (by rw [sk_0 hS]) (sr_0_7 hS), e3, aI_n (sk_29 hS) e2 (by decide), ed]
      rcases ok_dug hO _ e2 with c3 | c3
      · rw [if_pos c3, gR_eq (by rw [ck_0 hC]) hN, gR_eq (by rw [sk_0 hS]) (sr_0_1 hS), isC_eq (by rw [sk_8 hS]), standingIn_ok hS hR hO e2, bnd_some]
        by_cases c2 : pcW W (cN (nu n)) = -1
        · rw [if_pos c2, tellC_in _ hC hk (by omega) nu hnu]
          have ev : tlB W nu n = al (fun j => !decide (nu j = nu n)) n 0 := by unfold tlB; rw [decide_eq_true c1, decide_eq_true c2, decide_eq_true c3, Bool.true_and, Bool.true_and, Bool.true_and]
          rw [ev] at h2
          cases c4 : al (fun j => !decide (nu j = nu n)) n 0 with
          | true =>
            left
            refine ⟨nI (n + 1), ⟨rfl, by rw [h2, c4, Bool.true_and]⟩, ?_⟩
            rw [if_pos rfl]
            unfold m_X11_standForMore_B118
            rw [nI_1]
          | false =>
            right
            rw [if_neg (by decide), h2, c4]
            rfl
        · right
          have ev : tlB W nu n = false := by unfold tlB; rw [decide_eq_false c2]; simp
          rw [if_neg c2, h2, ev]
          rfl
      · right
        have nd : ¬ W (480 + cN (nu n)) = 0 := by rw [c3]; decide
        have ev : tlB W nu n = false := by unfold tlB; rw [decide_eq_false nd]; simp
        rw [if_neg nd, h2, ev]
        rfl
    · right
      have ev : tlB W nu n = false := by unfold tlB; rw [decide_eq_false c1]; rfl
      rw [h2, ev]
      by_cases c5 : nu n < 0
      · rw [if_pos c5]; rfl
      · rw [if_neg c5, if_neg (fun g => c1 (rg.mpr ⟨c5, g⟩))]; rfl
  case he =>
    rintro f x ⟨rfl, h2⟩
    rw [Nat.sub_self] at h2
    rw [m_X11_standForMore_L11, if_neg (nI_nlt (Nat.le_refl _) (by omega)), h2]
    rfl
def rvN (L S : Nat) : Nat → Nat
  | 0 => 0
  | n + 1 => rvN L S n + (if S.testBit (L - 1 - n) = true then 2 ^ n else 0)
def rev (L S : Nat) : Nat := rvN L S L
def popN (T : Nat) : Nat → Nat
  | 0 => 0
  | n + 1 => popN T n + (if T.testBit n = true then 1 else 0)
def pop (T : Nat) : Nat := popN T 6
def key (T : Nat) : Nat := 64 * pop T + (63 - rev 6 T)
theorem q_rev : ∀ L, L < 7 → ∀ S, S < 64 → ∀ n, n < 6 → n < L → nI (rvN L S n) ||| (((nI S >>> (nI (L - 1 - n) &&& 31)) &&& 1) <<< (nI n &&& 31)) = nI (rvN L S (n + 1)) := by decide +kernel
theorem q_ones : ∀ T, T < 64 → ∀ n, n < 6 → nI (popN T n) + ((nI T >>> (nI n &&& 31)) &&& 1) = nI (popN T (n + 1)) := by decide +kernel
theorem q_bc : ∀ S, S < 64 → bcJ (nI S) = nI (pop S) := by decide +kernel
theorem q_sh : ∀ L, L < 7 → (1 : Int32) <<< (nI L &&& 31) = nI (2 ^ L) := by decide +kernel
theorem q_r1 : ∀ L, L < 7 → ∀ S, S < 64 → S < 2 ^ L → rev L S < 2 ^ L ∧ rev L (rev L S) = S ∧ pop S ≤ L := by decide +kernel
theorem q_r2 : ∀ L, L < 7 → ∀ S, S < 64 → S < 2 ^ L → pop (rev L S) = pop S ∧ rev 6 (rev L S) = S * 2 ^ (6 - L) := by decide +kernel
theorem q_r3 : ∀ L, L < 7 → ∀ S, S < 64 → ∀ i, i < 6 → i < L → (rev L S).testBit i = S.testBit (L - 1 - i) := by decide +kernel
theorem q_lt : ∀ a, a < 64 → ∀ b, b < 64 → ((pop a < pop b ∨ (pop a = pop b ∧ ¬ ((nI a &&& (nI a ^^^ nI b)) &&& (-(nI a ^^^ nI b))) = 0)) ↔ key a < key b) := by decide +kernel
theorem q_inj : ∀ a, a < 64 → ∀ b, b < 64 → key a = key b → a = b := by decide +kernel
