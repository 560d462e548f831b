/-! ===== a tick by the class: the rim and the streams ===== -/
theorem sm_add {f g : Nat → Int32} : ∀ {n : Nat}, sm (fun i => f i + g i) n = sm f n + sm g n
  | 0 => (Int32.add_zero 0).symm
  | n + 1 => by
    show sm (fun i => f i + g i) n + (f n + g n) = (sm f n + f n) + (sm g n + g n)
    rw [sm_add]
    grind
theorem sm_nil {g : Nat → Int32} : ∀ {n : Nat}, (∀ i, i < n → g i = 0) → sm g n = 0
  | 0, _ => rfl
  | n + 1, h => by
    show sm g n + g n = 0
    rw [sm_nil (fun i hi => h i (by omega)), h n (by omega), Int32.add_zero]
theorem sm_one {g : Nat → Int32} {k : Nat} : ∀ {n : Nat}, k < n → (∀ i, i < n → i ≠ k → g i = 0) → sm g n = g k
  | 0, h, _ => absurd h (by omega)
  | n + 1, hk, h => by
    show sm g n + g n = g k
    by_cases c : k = n
    · subst c
      rw [sm_nil (fun i hi => h i (by omega) (by omega)), Int32.zero_add]
    · rw [sm_one (k := k) (by omega) (fun i hi => h i (by omega)), h n (by omega) (fun e => c e.symm), Int32.add_zero]
theorem sm_split {g : Nat → Int32} {n : Nat} : ∀ {k : Nat}, sm g (n + k) = sm g n + sm (fun i => g (n + i)) k
  | 0 => (Int32.add_zero _).symm
  | k + 1 => by
    show sm g (n + k) + g (n + k) = sm g n + (sm (fun i => g (n + i)) k + g (n + k))
    rw [sm_split, Int32.add_assoc]
theorem sm_row {g : Nat → Int32} : ∀ {n : Nat}, sm g (12 * n) = sm (fun y => sm (fun x => g (12 * y + x)) 12) n
  | 0 => rfl
  | n + 1 => by
    show sm g (12 * n + 12) = sm (fun y => sm (fun x => g (12 * y + x)) 12) n + sm (fun x => g (12 * n + x)) 12
    rw [sm_split, sm_row]
/-- heat (72) grows by D, the sums of s by S -/
def HtP (s : Nat) (z y : Hp) (D S : Nat → Int32) : Prop := Fi (fun a => a = 72 ∨ a = s + 31) z y ∧ (∀ k, zI y 72 k = zI z 72 k + D k) ∧ ∀ j, zI y (s + 31) j = zI z (s + 31) j + S j
theorem HtP.z {s : Nat} {z : Hp} : HtP s z z (fun _ => 0) (fun _ => 0) := ⟨Fi.rfl', fun _ => (Int32.add_zero _).symm, fun _ => (Int32.add_zero _).symm⟩
theorem HtP.trans {s : Nat} {x y z : Hp} {D S D2 S2 : Nat → Int32} (h : HtP s x y D S) (g : HtP s y z D2 S2) : HtP s x z (fun k => D k + D2 k) (fun k => S k + S2 k) :=
  ⟨h.1.trans g.1, fun k => by rw [g.2.1, h.2.1, Int32.add_assoc], fun k => by rw [g.2.2, h.2.2, Int32.add_assoc]⟩
theorem HtP.cast {s : Nat} {x y : Hp} {D S D2 S2 : Nat → Int32} (h : HtP s x y D S) (e1 : ∀ k, D k = D2 k) (e2 : ∀ k, S k = S2 k) : HtP s x y D2 S2 := ⟨h.1, fun k => by rw [h.2.1, e1], fun k => by rw [h.2.2, e2]⟩
theorem HtP.hot {s : Nat} {x y : Hp} {W D S : Nat → Int32} (h : HtP s x y D S) (g : Hot x s W) (hs : s + 32 ≤ 70 ∨ 115 ≤ s) : Hot y s W := g.fi h.1 (fun a ha => ⟨by omega, fun q => by unfold Gc at q; omega⟩)
theorem overRim_ok {z : Hp} {s c : Nat} {W : Nat → Int32} (h : Hot z s W) (hs : s + 32 ≤ 70 ∨ 115 ≤ s) (hc : c < 144) :
    ∃ y, m_X9_comeOverRim 70 s (nI c) z = some ((), y) ∧ HtP s z y (fun k => if k = c then rmW W c else 0) (fun j => if j = 2 then rmW W c else 0) := by
  obtain ⟨hC, hS, hG, hl⟩ := h
  have w1 := rg_warm hG c hc
  have e5 := rg_far hG
  have l1 := hl c hc
  have ex : (W 5 - W (192 + c)) * ldW W c / 100 = rmW W c := rfl
  have n1 : ¬ s + 31 = 72 := by omega
  have n2 : ¬ 72 = s + 31 := by omega
  refine ⟨wI (wI z 72 (ups (zI z 72) c (zI z 72 c + rmW W c))) (s + 31) (ups (zI z (s + 31)) 2 (zI z (s + 31) 2 + rmW W c)), ?_, ?_, fun k => ?_, fun j => ?_⟩
  · unfold m_X9_comeOverRim
    simp (disch := omega) [gI, gR, pI, pR, aI, sI, aL, sL, aO, aR, sR, aN, onul, bnd, isC, cpI, cpL, sLen, sCh, nwC, zK_wI, zR_wI, zL_wI, zN_wI, zI_wI, zK_wL, zR_wL, zI_wL, zN_wL, zL_wL, zK_wR, zI_wR, zL_wR, zN_wR, zR_wR, ups_eq, inb_nI, nI_clamp, wI_wI, nI_add, pk_mul, add_c, c_add, c_mul, lt_c, le_c, eq_c, gt_c, ge_c, inb_c, clamp_c, ladd, sk_0, sk_1, sk_2, sk_3, sk_4, sk_5, sk_6, sk_7, sk_8, sk_9, sk_10, sk_11, sk_12, sk_13, sk_14, sk_15, sk_16, sk_17, sk_18, sk_19, sk_20, sk_21, sk_22, sk_23, sk_24, sk_25, sk_26, sk_27, sk_28, sk_29, sk_30, sk_31, sr_0_0, sr_0_1, sr_0_2, sr_0_3, sr_0_4, sr_0_5, sr_0_6, sr_0_7, sr_0_8, sr_0_9, sr_1_0, sr_1_1, sr_1_2, sr_1_3, sr_1_4, sr_1_5, sr_8_0, sr_8_1, sr_8_2, sr_8_3, sr_8_4, sr_8_5, sr_15_0, sr_15_1, sr_15_2, sr_19_0, sr_19_1, sr_19_2, sr_19_3, sr_24_0, sr_24_1, ck_0, ck_65, ck_66, ck_67, ck_68, ck_69, ck_70, ck_71, ck_72, ck_73, ck_74, ck_75, ck_76, ck_77, ck_78, ck_79, ck_80, ck_81, ck_82, ck_83, ck_84, ck_85, ck_86, ck_87, ck_88, ck_89, ck_90, ck_91, cr_0_2, cr_0_3, cr_0_4, cr_0_5, cr_0_6, cr_0_7, cr_0_8, cr_66_0, cr_68_0, cr_68_1, cr_70_0, cr_70_1, cr_70_2, cr_74_0, cr_74_1, cr_74_2, cr_74_7, cr_74_8, cr_74_9, cr_83_0, cr_83_1, cr_83_2, cr_84_0, cr_84_1, cr_84_2, cr_84_3, hS, hC, w1, e5, l1, ex, n1, n2]
  · exact (Fi.w (Or.inl rfl)).trans (Fi.w (Or.inr rfl))
  · dsimp only
    rw [zI_ne n2, zI_eq, ups_eq]
    by_cases g : k = c
    · rw [if_pos g, if_pos g, g]
    · rw [if_neg g, if_neg g, Int32.add_zero]
  · dsimp only
    rw [zI_eq, ups_eq]
    by_cases g : j = 2
    · rw [if_pos g, if_pos g, g]
    · rw [if_neg g, if_neg g, Int32.add_zero]
def rim4 (W : Nat → Int32) (i k : Nat) : Int32 := (if k = i then rmW W i else 0) + (if k = 132 + i then rmW W (132 + i) else 0) + (if k = 12 * i then rmW W (12 * i) else 0) + (if k = 12 * i + 11 then rmW W (12 * i + 11) else 0)
def rimS (W : Nat → Int32) (i j : Nat) : Int32 := if j = 2 then rmW W i + rmW W (132 + i) + rmW W (12 * i) + rmW W (12 * i + 11) else 0
theorem rimC_all {z : Hp} {s : Nat} {W : Nat → Int32} (h : Hot z s W) (hs : s + 32 ≤ 70 ∨ 115 ≤ s) :
    ∃ y, m_X9_leadOverRim 70 s z = some ((), y) ∧ HtP s z y (fun k => sm (fun i => rim4 W i k) 12) (fun j => sm (fun i => rimS W i j) 12) := by
  unfold m_X9_leadOverRim
  refine loopQ (X := Int32 × Hp) (fun f x => m_X9_leadOverRim_L2 f 70 s x.1 x.2) (fun t => ∃ y, t = some ((), y) ∧ HtP s z y (fun k => sm (fun i => rim4 W i k) 12) (fun j => sm (fun i => rimS W i j) 12)) (fun n x => x.1 = nI n ∧ HtP s z x.2 (fun k => sm (fun i => rim4 W i k) n) (fun j => sm (fun i => rimS W i j) n)) 12 ?hs ?he 0 FU (0, z) (by decide) (by decide) ⟨rfl, HtP.z⟩
  case hs =>
    rintro n f ⟨v, x⟩ hn ⟨h1, h2⟩
    dsimp only at h1 h2
    subst h1
    have Hx := h2.hot h hs
    obtain ⟨x1, r1, t1⟩ := overRim_ok (c := n) Hx hs (by omega)
    have H1 := t1.hot Hx hs
    obtain ⟨x2, r2, t2⟩ := overRim_ok (c := 132 + n) H1 hs (by omega)
    have H2 := t2.hot H1 hs
    obtain ⟨x3, r3, t3⟩ := overRim_ok (c := 12 * n) H2 hs (by omega)
    have H3 := t3.hot H2 hs
    obtain ⟨x4, r4, t4⟩ := overRim_ok (c := 12 * n + 11) H3 hs (by omega)
    refine Or.inl ⟨(nI (n + 1), x4), ⟨rfl, (h2.trans (((t1.trans t2).trans t3).trans t4)).cast (fun k => rfl) (fun j => ?_)⟩, ?_⟩
    · show _ = sm (fun i => rimS W i j) n + rimS W n j
      unfold rimS
      by_cases g : j = 2
      · simp only [if_pos g]
      · simp only [if_neg g]
        simp
    · dsimp only
      have es : nI (12 * n + 12) - 1 = nI (12 * n + 11) := by
        rw [show 12 * n + 12 = (12 * n + 11) + 1 from rfl, ← nI_1]
        exact Int32.add_sub_cancel _ _
      rw [m_X9_leadOverRim_L2, if_pos (lt_lit hn (by decide)), isC_eq (by rw [ck_70 Hx.1]), r1, bnd_some, isC_eq (by rw [ck_70 H1.1]), c_add, show (OfNat.ofNat 132 : Nat) + n = 132 + n from rfl, r2, bnd_some, isC_eq (by rw [ck_70 H2.1]), c_mul, show (OfNat.ofNat 12 : Nat) * n = 12 * n from rfl, r3, bnd_some, isC_eq (by rw [ck_70 H3.1]), show (12 : Int32) = nI 12 from rfl, nI_add, es, r4, bnd_some, nI_1]
  case he =>
    rintro f ⟨v, x⟩ ⟨h1, h2⟩
    dsimp only at h1 h2 ⊢
    subst h1
    rw [m_X9_leadOverRim_L2, if_neg (nlt_lit (Nat.le_refl _) (by decide))]
    exact ⟨x, rfl, h2⟩
def letB (W : Nat → Int32) (c : Nat) : Bool := decide (W (480 + c) = 0) && !frW W c
def frmW (W : Nat → Int32) (y n : Nat) : Int32 := if n = 0 then W 5 else W (192 + (12 * y + n - 1))
def strB (W : Nat → Int32) (y n : Nat) : Bool := if n = 0 then true else letB W (12 * y + n - 1)
theorem sc_val {W : Nat → Int32} {q y n : Nat} (hO : OkW W q) (hy : y < 12) (hn : n < 12) (h0 : ¬ W (36 + y) = 0) : scS W (12 * y + n) = if strB W y n = true ∧ letB W (12 * y + n) = true then ((frmW W y n - W (192 + (12 * y + n))) * W (36 + y)) / 100 else 0 := by
  have hd := ok_dug hO (12 * y + n) (by omega)
  have e1 : (12 * y + n) / 12 = y := by omega
  have e2 : (12 * y + n) % 12 = n := by omega
  unfold scS stW letB strB frmW
  rw [e1, e2]
  rcases hd with g | g
  · rw [if_neg (by rw [g]; decide), if_neg h0]
    cases hf : frW W (12 * y + n) with
    | true => simp
    | false =>
      by_cases c : n = 0
      · simp [c, g] at g ⊢
        simp [g]
      · have hd2 := ok_dug hO (12 * y + n - 1) (by omega)
        have e3 : 12 * y + n - 1 = 12 * y + n - 1 := rfl
        simp only [if_neg c]
        unfold letB
        rcases hd2 with k | k
        · cases hf2 : frW W (12 * y + n - 1) <;> simp [k, g]
        · simp [k]
  · simp [g]
theorem stream_ok {z : Hp} {s q y : Nat} {W : Nat → Int32} (h : Hot z s W) (hO : OkW W q) (hs : s + 32 ≤ 70 ∨ 115 ≤ s) (hy : y < 12) (h0 : ¬ W (36 + y) = 0) (hsp : zI z (s + 7) y = W (36 + y)) :
    ∃ w, m_X9_stream 70 s (nI y) z = some ((), w) ∧ HtP s z w (fun k => sm (fun x => if k = 12 * y + x then scS W k else 0) 12) (fun j => sm (fun x => if j = 3 then scS W (12 * y + x) else 0) 12) := by
  unfold m_X9_stream
  rw [gR_eq (by rw [sk_0 h.2.1]) (sr_0_0 h.2.1), gI_eq (by rw [sk_1 h.2.1]), rg_far h.2.2.1]
  refine loopQ (X := Int32 × Int32 × Int32 × Hp) (fun f x => m_X9_stream_L14 f 70 s (nI y) x.1 x.2.1 x.2.2.1 x.2.2.2) (fun t => ∃ w, t = some ((), w) ∧ HtP s z w (fun k => sm (fun x => if k = 12 * y + x then scS W k else 0) 12) (fun j => sm (fun x => if j = 3 then scS W (12 * y + x) else 0) 12)) (fun n x => x.1 = frmW W y n ∧ x.2.1 = bI (strB W y n) ∧ x.2.2.1 = nI n ∧ HtP s z x.2.2.2 (fun k => sm (fun x => if k = 12 * y + x then scS W k else 0) n) (fun j => sm (fun x => if j = 3 then scS W (12 * y + x) else 0) n)) 12 ?hs ?he 0 FU (W 5, 1, 0, z) (by decide) (by decide) ⟨rfl, rfl, rfl, HtP.z⟩
  case hs =>
    rintro n f ⟨a, b, v, x⟩ hn ⟨h1, h2, h3, h4⟩
    dsimp only at h1 h2 h3 h4
    subst h1 h2 h3
    have Hx := h4.hot h hs
    obtain ⟨Cx, Sx, Gx, Lx⟩ := Hx
    obtain ⟨c, ec⟩ : ∃ c, c = 12 * y + n := ⟨_, rfl⟩
    have hc : c < 144 := by omega
    have ei : (12 : Int32) * nI y + nI n = nI c := by rw [c_mul, nI_add, ec]
    have ew := rg_warm Gx c hc
    have ed := rg_dug Gx c hc
    have ef := frozenG Sx Gx hO hc
    have esp : zI x (s + 7) y = W (36 + y) := by rw [h4.1.2.2.2.2 (s + 7) (by omega)]; exact hsp
    have sv := sc_val hO hy hn h0
    rw [← ec] at sv
    have nf : frmW W y (n + 1) = W (192 + c) := by unfold frmW; rw [if_neg (by omega), show 12 * y + (n + 1) - 1 = c by omega]
    have ns : strB W y (n + 1) = letB W c := by unfold strB; rw [if_neg (by omega), show 12 * y + (n + 1) - 1 = c by omega]
    -- the step
    have key : ∃ w, m_X9_stream_B54 (m_X9_stream_L14 f) 70 s (nI y) (frmW W y n) (bI (strB W y n)) (nI n) (nI c) (bI (letB W c)) x = m_X9_stream_L14 f 70 s (nI y) (W (192 + c)) (bI (letB W c)) (nI (n + 1)) w ∧ HtP s x w (fun k => if k = c then scS W k else 0) (fun j => if j = 3 then scS W c else 0) := by
      have b113 : ∀ w, LayS w s → zI w (s + 27) c = W (192 + c) → m_X9_stream_B113 (m_X9_stream_L14 f) 70 s (nI y) (nI n) (nI c) (bI (letB W c)) w = m_X9_stream_L14 f 70 s (nI y) (W (192 + c)) (bI (letB W c)) (nI (n + 1)) w := by
        intro w Sw e
        unfold m_X9_stream_B113
        rw [gR_eq (by rw [sk_0 Sw]) (sr_0_5 Sw), aI_n (sk_27 Sw) hc (by decide), e, nI_1]
      unfold m_X9_stream_B54
      cases k1 : strB W y n with
      | false =>
        have z0 : scS W c = 0 := by rw [sv, if_neg (by rw [k1]; simp)]
        refine ⟨x, ?_, HtP.z.cast (fun k => ?_) (fun j => ?_)⟩
        · rw [if_pos (by decide), b113 x Sx ew]
        · by_cases g : k = c
          · rw [if_pos g, g, z0]
          · rw [if_neg g]
        · rw [z0]; split <;> rfl
      | true =>
        rw [if_neg (by decide)]
        cases k2 : letB W c with
        | false =>
          rw [k2] at b113
          have z0 : scS W c = 0 := by rw [sv, if_neg (by rw [k2]; simp)]
          refine ⟨x, ?_, HtP.z.cast (fun k => ?_) (fun j => ?_)⟩
          · rw [if_pos (by decide), b113 x Sx ew]
          · by_cases g : k = c
            · rw [if_pos g, g, z0]
            · rw [if_neg g]
          · rw [z0]; split <;> rfl
        | true =>
          rw [k2] at b113
          have v0 : (frmW W y n - W (192 + c)) * W (36 + y) / 100 = scS W c := by rw [sv, if_pos ⟨k1, k2⟩]
          have n1 : ¬ s + 31 = 72 := by omega
          have n2 : ¬ 72 = s + 31 := by omega
          obtain ⟨w1, hw1⟩ : ∃ w, w = wI x 72 (ups (zI x 72) c (zI x 72 c + scS W c)) := ⟨_, rfl⟩
          have S1 : LayS w1 s := Sx.of (by rw [hw1]; rfl) (by rw [hw1]; rfl)
          have w131 : zI w1 (s + 31) = zI x (s + 31) := by rw [hw1, zI_ne n1]
          obtain ⟨w2, hw2⟩ : ∃ w, w = wI w1 (s + 31) (ups (zI x (s + 31)) 3 (zI x (s + 31) 3 + scS W c)) := ⟨_, rfl⟩
          have S2 : LayS w2 s := S1.of (by rw [hw2]; rfl) (by rw [hw2]; rfl)
          have e27 : zI w2 (s + 27) c = W (192 + c) := by rw [hw2, zI_ne (by omega), hw1, zI_ne (by omega)]; exact ew
          refine ⟨w2, ?_, ?_, fun k => ?_, fun j => ?_⟩
          · rw [if_neg (by decide), gR_eq (by rw [sk_0 Sx]) (sr_0_5 Sx), aI_n (sk_27 Sx) hc (by decide), ew, gR_eq (by rw [sk_0 Sx]) (sr_0_0 Sx), gR_eq (by rw [sk_1 Sx]) (sr_1_5 Sx), aI_n (sk_7 Sx) hy (by decide), esp, gR_eq (by rw [ck_70 Cx]) (cr_70_1 Cx), aI_n (ck_72 Cx) hc (by decide), sI_n (ck_72 Cx) hc (by decide), v0, ← hw1, gR_eq (by rw [sk_0 S1]) (sr_0_9 S1), show (3 : Int32) = nI 3 from rfl, aI_n (sk_31 S1) (by decide) (by decide), sI_n (sk_31 S1) (by decide) (by decide), w131, ← hw2]
            exact b113 w2 S2 e27
          · rw [hw2, hw1]
            exact (Fi.w (Or.inl rfl)).trans (Fi.w (Or.inr rfl))
          · dsimp only
            rw [hw2, zI_ne n2, hw1, zI_eq, ups_eq]
            by_cases g : k = c
            · rw [if_pos g, if_pos g, g]
            · rw [if_neg g, if_neg g, Int32.add_zero]
          · dsimp only
            rw [hw2, zI_eq, ups_eq]
            by_cases g : j = 3
            · rw [if_pos g, if_pos g, g]
            · rw [if_neg g, if_neg g, Int32.add_zero]
    obtain ⟨w, hw, hH⟩ := key
    refine Or.inl ⟨(W (192 + c), bI (letB W c), nI (n + 1), w), ⟨nf.symm, by rw [ns], rfl, (h4.trans hH).cast (fun k => by rw [ec]; rfl) (fun j => by rw [ec]; rfl)⟩, ?_⟩
    dsimp only
    rw [← hw, m_X9_stream_L14, if_pos (lt_lit hn (by decide)), ei, gR_eq (by rw [sk_0 Sx]) (sr_0_7 Sx), aI_n (sk_29 Sx) hc (by decide), ed]
    by_cases g : W (480 + c) = 0
    · rw [if_pos g, isC_eq (by rw [sk_0 Sx]), ef, bnd_some]
      unfold letB
      cases frW W c with
      | true =>
        rw [if_neg (by decide)]
        unfold m_X9_stream_B53
        simp [g, bI]
      | false =>
        rw [if_pos (by decide)]
        simp [g, bI]
    · rw [if_neg g]
      unfold m_X9_stream_B53 letB
      simp [g, bI]
  case he =>
    rintro f ⟨a, b, v, x⟩ ⟨h1, h2, h3, h4⟩
    dsimp only at h1 h2 h3 h4 ⊢
    subst h1 h2 h3
    rw [m_X9_stream_L14, if_neg (nlt_lit (Nat.le_refl _) (by decide))]
    exact ⟨x, rfl, h4⟩
theorem streams_all {z : Hp} {s q : Nat} {W : Nat → Int32} (K : Nat → Nat → Hp → Option (Unit × Hp)) (h : Hot z s W) (hO : OkW W q) (hs : s + 32 ≤ 70 ∨ 115 ≤ s) :
    ∃ w, m_X9_pass_L25 K FU 70 s 0 z = K 70 s w ∧ HtP s z w (fun k => sm (fun y => sm (fun x => if k = 12 * y + x then scS W k else 0) 12) 12) (fun j => sm (fun y => sm (fun x => if j = 3 then scS W (12 * y + x) else 0) 12) 12) := by
  refine loopQ (X := Int32 × Hp) (fun f x => m_X9_pass_L25 K f 70 s x.1 x.2) (fun t => ∃ w, t = K 70 s w ∧ HtP s z w (fun k => sm (fun y => sm (fun x => if k = 12 * y + x then scS W k else 0) 12) 12) (fun j => sm (fun y => sm (fun x => if j = 3 then scS W (12 * y + x) else 0) 12) 12)) (fun n x => x.1 = nI n ∧ HtP s z x.2 (fun k => sm (fun y => sm (fun x => if k = 12 * y + x then scS W k else 0) 12) n) (fun j => sm (fun y => sm (fun x => if j = 3 then scS W (12 * y + x) else 0) 12) n)) 12 ?hs ?he 0 FU (0, z) (by decide) (by decide) ⟨rfl, HtP.z⟩
  case hs =>
    rintro n f ⟨v, x⟩ hn ⟨h1, h2⟩
    dsimp only at h1 h2
    subst h1
    have Hx := h2.hot h hs
    have Sx := Hx.2.1
    have hsp := rg_speed Hx.2.2.1 n hn
    have hN := ok_sp hO n hn
    have hi := hN.int (by decide)
    left
    by_cases c : W (36 + n) = 0
    · refine ⟨(nI (n + 1), x), ⟨rfl, h2.cast (fun k => ?_) (fun j => ?_)⟩, ?_⟩
      · have z0 : sm (fun x => if k = 12 * n + x then scS W k else 0) 12 = 0 := by
          refine sm_nil (fun i hi => ?_)
          by_cases g : k = 12 * n + i
          · rw [if_pos g]
            unfold scS stW
            rw [show k / 12 = n by omega, if_pos c]
            split <;> rfl
          · rw [if_neg g]
        show _ = sm (fun y => sm (fun x => if k = 12 * y + x then scS W k else 0) 12) n + sm (fun x => if k = 12 * n + x then scS W k else 0) 12
        rw [z0, Int32.add_zero]
      · have z0 : sm (fun x => if j = 3 then scS W (12 * n + x) else 0) 12 = 0 := by
          refine sm_nil (fun i hi => ?_)
          have : scS W (12 * n + i) = 0 := by
            unfold scS stW
            rw [show (12 * n + i) / 12 = n by omega, if_pos c]
            split <;> rfl
          rw [this]
          split <;> rfl
        show _ = sm (fun y => sm (fun x => if j = 3 then scS W (12 * y + x) else 0) 12) n + sm (fun x => if j = 3 then scS W (12 * n + x) else 0) 12
        rw [z0, Int32.add_zero]
      · dsimp only
        have ng : ¬ (0 : Int32) < zI x (s + 7) n := by
          rcases hsp with e | ⟨e, _⟩
          · rw [e, c]; decide
          · rw [e]; decide
        rw [m_X9_pass_L25, if_pos (lt_lit hn (by decide)), gR_eq (by rw [sk_0 Sx]) (sr_0_0 Sx), gR_eq (by rw [sk_1 Sx]) (sr_1_5 Sx), aI_n (sk_7 Sx) hn (by decide), if_neg ng]
        unfold m_X9_pass_B49
        rw [nI_1]
    · have e : zI x (s + 7) n = W (36 + n) := by
        rcases hsp with e | ⟨_, e⟩
        · exact e
        · exact absurd e c
      obtain ⟨w, hw, hH⟩ := stream_ok Hx hO hs hn c e
      refine ⟨(nI (n + 1), w), ⟨rfl, (h2.trans hH).cast (fun k => rfl) (fun j => rfl)⟩, ?_⟩
      dsimp only
      have gt : (0 : Int32) < zI x (s + 7) n := by
        rw [e, Int32.lt_iff_toInt_lt, toI_0, hi]
        have : nn (W (36 + n)) ≠ 0 := fun q => c (by rw [hN.1, q]; rfl)
        omega
      rw [m_X9_pass_L25, if_pos (lt_lit hn (by decide)), gR_eq (by rw [sk_0 Sx]) (sr_0_0 Sx), gR_eq (by rw [sk_1 Sx]) (sr_1_5 Sx), aI_n (sk_7 Sx) hn (by decide), if_pos gt, isC_eq (by rw [ck_70 Hx.1]), hw, bnd_some]
      unfold m_X9_pass_B49
      rw [nI_1]
  case he =>
    rintro f ⟨v, x⟩ ⟨h1, h2⟩
    dsimp only at h1 h2 ⊢
    subst h1
    rw [m_X9_pass_L25, if_neg (nlt_lit (Nat.le_refl _) (by decide))]
    exact ⟨x, rfl, h2⟩
