/-! ===== a tick: heat, by the model ===== -/
def ldW (W : Nat → Int32) (c : Nat) : Int32 := if W (480 + c) = 1 then 0 else if frW W c = true then W (21 + 4 * kdW W c) else W (20 + 4 * kdW W c)
def exW (W : Nat → Int32) (c d : Nat) : Int32 := ((W (192 + d) - W (192 + c)) * minJ (ldW W c) (ldW W d)) / 100
def rmW (W : Nat → Int32) (c : Nat) : Int32 := ((W 5 - W (192 + c)) * ldW W c) / 100
def sdW (W : Nat → Int32) (c w : Nat) : Int32 := match bsM c w with | none => rmW W c | some d => exW W c d
def r4W (W : Nat → Int32) (c w : Nat) : Int32 := match bsM c w with | none => rmW W c | some _ => 0
/-- what a stream brings to a cell that is not dug -/
def stW (W : Nat → Int32) (c : Nat) : Int32 :=
  if W (36 + c / 12) = 0 then 0 else if frW W c = true then 0 else if c % 12 = 0 then ((W 5 - W (192 + c)) * W (36 + c / 12)) / 100
  else if frW W (c - 1) = true ∨ W (480 + (c - 1)) = 1 then 0 else ((W (192 + (c - 1)) - W (192 + c)) * W (36 + c / 12)) / 100
/-- V is W but for sums, pipes and what lies behind -/
def AgW (V W : Nat → Int32) : Prop := ∀ i, i < 14 ∨ (20 ≤ i ∧ i < 624) → V i = W i
theorem AgW.kd {V W : Nat → Int32} (h : AgW V W) {c : Nat} (hc : c < 144) : kdW V c = kdW W c := kdW_of (h _ (by omega))
theorem AgW.fr {V W : Nat → Int32} {q : Nat} (h : AgW V W) (hO : OkW W q) {c : Nat} (hc : c < 144) : frW V c = frW W c := by
  have := kd_lt hO hc
  unfold frW
  rw [h.kd hc, h (480 + c) (by omega), h (336 + c) (by omega), h (22 + 4 * kdW W c) (by omega)]
theorem ld_N {W : Nat → Int32} {q c : Nat} (hO : OkW W q) (hc : c < 144) : isN (ldW W c) 16 := by
  have k := kd_lt hO hc
  unfold ldW
  split
  · exact isN.mk (n := 0) (by decide) (by decide)
  · split
    · exact (ok_gl hO _ k).2
    · exact (ok_gl hO _ k).1
theorem min_0 {x : Int32} (h : isN x 16) : minJ x 0 = 0 := by
  obtain ⟨n, hn, e⟩ : ∃ n, n < 16 ∧ x = nI n := ⟨_, h.2, h.1⟩
  unfold minJ
  rw [e]
  by_cases g : n = 0
  · subst g; decide
  · rw [if_pos (show (0 : Int32) < nI n from nI_lt (a := 0) (by omega) (by omega))]
theorem ex_dug {W : Nat → Int32} {q c d : Nat} (hO : OkW W q) (hc : c < 144) (hd : W (480 + d) = 1) : exW W c d = 0 := by
  have e : ldW W d = 0 := by unfold ldW; rw [if_pos hd]
  unfold exW
  rw [e, min_0 (ld_N hO hc), Int32.mul_zero]
  decide
theorem dugA {z : Hp} {W : Nat → Int32} {c : Nat} (hM : LayM z) (hA : AgW (zI z 93) W) (hc : c < 144) : m_X12_isDug 92 (nI c) z = some (bI (decide (W (480 + c) = 1)), z) := by
  rw [isDugM_ok hM hc, hA (480 + c) (by omega)]
theorem groundA {z : Hp} {W : Nat → Int32} {q c k : Nat} (hM : LayM z) (hA : AgW (zI z 93) W) (hO : OkW W q) (hc : c < 144) (hk : k < 4) : m_X12_groundOf 92 (nI c) (nI k) z = some (W (20 + 4 * kdW W c + k), z) := by
  have h4 := kd_lt hO hc
  unfold m_X12_groundOf
  have e1 : zI z 93 (48 + c) = nI (kdW W c) := by rw [hA _ (by omega)]; exact kd_eq hO hc
  simp (disch := omega) [gI, gR, pI, pR, aI, sI, aL, sL, aO, aR, sR, aN, onul, bnd, isC, cpI, cpL, sLen, sCh, nwC, zK_wI, zR_wI, zL_wI, zN_wI, zI_wI, zK_wL, zR_wL, zI_wL, zN_wL, zL_wL, zK_wR, zI_wR, zL_wR, zN_wR, zR_wR, ups_eq, inb_nI, nI_clamp, wI_wI, nI_add, pk_mul, add_c, c_add, c_mul, lt_c, le_c, eq_c, gt_c, ge_c, inb_c, clamp_c, ladd, mk_92, mk_93, mk_94, mk_95, mk_96, mk_97, mk_98, mk_99, mk_100, mk_101, mk_102, mk_103, mk_104, mk_105, mk_106, mk_107, mk_108, mk_109, mk_110, mk_111, mk_112, mk_113, mk_114, mr_92_1, mr_92_2, mr_92_3, mr_92_4, mr_92_5, mr_92_7, mr_92_15, mr_92_16, mr_92_17, mr_92_24, mr_92_25, mr_92_26, mr_92_27, mr_92_28, mr_92_29, mr_92_30, mr_92_32, mr_92_33, mr_92_36, mr_92_37, mr_92_38, mr_92_39, hM, e1]
  exact hA _ (by omega)
theorem frozenA {z : Hp} {W : Nat → Int32} {q c : Nat} (hM : LayM z) (hA : AgW (zI z 93) W) (hO : OkW W q) (hc : c < 144) : m_X12_isFrozen 92 (nI c) z = some (bI (frW W c), z) := by
  have hk := kd_lt hO hc
  unfold m_X12_isFrozen
  rw [isC_eq (by rw [mk_92 hM]), dugA hM hA hc, bnd_some]
  have eg := groundA hM hA hO hc (k := 2) (by decide)
  have ei : zI z 93 (336 + c) = W (336 + c) := hA _ (by omega)
  rcases ok_dug hO c hc with h1 | h1
  · rw [h1, if_pos (by decide), gR_eq (by rw [mk_92 hM]) (mr_92_1 hM), c_add, aI_n (mk_93 hM) (show (OfNat.ofNat 336 : Nat) + c < 810 by show 336 + c < 810; omega) (by decide), isC_eq (by rw [mk_92 hM]), show (2 : Int32) = nI 2 from rfl, eg, bnd_some]
    rw [show (OfNat.ofNat 336 : Nat) + c = 336 + c from rfl, ei]
    unfold frW
    rw [h1, show 20 + 4 * kdW W c + 2 = 22 + 4 * kdW W c by omega]
    by_cases h2 : W (336 + c) = W (22 + 4 * kdW W c) <;> simp [h2, bI]
  · rw [h1, if_neg (by decide)]
    unfold frW
    rw [h1]
    rfl
theorem leadOf_ok {z : Hp} {W : Nat → Int32} {q c : Nat} (hM : LayM z) (hA : AgW (zI z 93) W) (hO : OkW W q) (hc : c < 144) (hd : W (480 + c) = 0) : m_X12_leadOf 92 (nI c) z = some (ldW W c, z) := by
  have g0 := groundA hM hA hO hc (k := 0) (by decide)
  have g1 := groundA hM hA hO hc (k := 1) (by decide)
  unfold m_X12_leadOf m_X12_leadOf_B15
  rw [isC_eq (by rw [mk_92 hM]), frozenA hM hA hO hc, bnd_some]
  unfold ldW
  rw [if_neg (show ¬ W (480 + c) = 1 by rw [hd]; decide)]
  cases frW W c with
  | false =>
    rw [if_pos (by decide), isC_eq (by rw [mk_92 hM]), show (0 : Int32) = nI 0 from rfl, g0, bnd_some]
    rfl
  | true =>
    rw [if_neg (by decide), isC_eq (by rw [mk_92 hM]), show (1 : Int32) = nI 1 from rfl, g1, bnd_some, if_pos rfl, show 20 + 4 * kdW W c + 1 = 21 + 4 * kdW W c by omega]
/-- row 102 at c grows by a, the world at i by b -/
def Gr (z y : Hp) (c i : Nat) (a b : Int32) : Prop := Fi (fun k => k = 102 ∨ k = 93) z y ∧ zI y 102 c = zI z 102 c + a ∧ (∀ d, d ≠ c → zI y 102 d = zI z 102 d) ∧ zI y 93 i = zI z 93 i + b ∧ ∀ j, j ≠ i → zI y 93 j = zI z 93 j
theorem Gr.z {z : Hp} {c i : Nat} : Gr z z c i 0 0 := ⟨Fi.rfl', by rw [Int32.add_zero], fun _ _ => rfl, by rw [Int32.add_zero], fun _ _ => rfl⟩
theorem Gr.trans {x y z : Hp} {c i : Nat} {a b a2 b2 : Int32} (h : Gr x y c i a b) (g : Gr y z c i a2 b2) : Gr x z c i (a + a2) (b + b2) :=
  ⟨h.1.trans g.1, by rw [g.2.1, h.2.1, Int32.add_assoc], fun d hd => (g.2.2.1 d hd).trans (h.2.2.1 d hd), by rw [g.2.2.2.1, h.2.2.2.1, Int32.add_assoc], fun j hj => (g.2.2.2.2 j hj).trans (h.2.2.2.2 j hj)⟩
theorem Gr.ag {z y : Hp} {W : Nat → Int32} {c i : Nat} {a b : Int32} (h : Gr z y c i a b) (hi : 14 ≤ i ∧ i < 20) (hA : AgW (zI z 93) W) : AgW (zI y 93) W := fun j hj => by rw [h.2.2.2.2 j (by omega)]; exact hA j hj
theorem comes_ok {z : Hp} {W : Nat → Int32} {q c : Nat} (hM : LayM z) (hA : AgW (zI z 93) W) (hO : OkW W q) (hc : c < 144) (hd : W (480 + c) = 0) :
    ∃ y, m_X12_comesBeside 92 (nI c) z = some ((), y) ∧ Gr z y c 15 (sm (sdW W c) 4) (sm (r4W W c) 4) := by
  unfold m_X12_comesBeside
  refine loopQ (X := Int32 × Hp) (fun f x => m_X12_comesBeside_L2 f 92 (nI c) x.1 x.2) (fun t => ∃ y, t = some ((), y) ∧ Gr z y c 15 (sm (sdW W c) 4) (sm (r4W W c) 4)) (fun n x => x.1 = nI n ∧ Gr z x.2 c 15 (sm (sdW W c) n) (sm (r4W W c) n)) 4 ?hs ?he 0 FU (0, z) (by decide) (by decide) ⟨rfl, Gr.z⟩
  case hs =>
    rintro n f ⟨v, x⟩ hn ⟨h1, h2⟩
    dsimp only at h1 h2
    subst h1
    have Mx := hM.fi h2.1
    have Ax := h2.ag (by omega) hA
    have nx : ∀ {y : Hp} {a b : Int32}, Gr x y c 15 a b → a = sdW W c n → b = r4W W c n → Gr z y c 15 (sm (sdW W c) (n + 1)) (sm (r4W W c) (n + 1)) := by
      intro y a b g e1 e2
      have := h2.trans g
      rw [e1, e2] at this
      exact this
    left
    dsimp only
    rw [m_X12_comesBeside_L2, if_pos (lt_lit hn (by decide)), besideM_ok hc hn, bnd_some]
    cases hb : bsM c n with
    | none =>
      rw [if_pos (show oN none = -1 from rfl)]
      have e5 : zI x 93 5 = W 5 := Ax _ (by omega)
      have ew : zI x 93 (192 + c) = W (192 + c) := Ax _ (by omega)
      have el := leadOf_ok Mx Ax hO hc hd
      obtain ⟨x1, hx1⟩ : ∃ y, y = wI x 102 (ups (zI x 102) c (zI x 102 c + rmW W c)) := ⟨_, rfl⟩
      obtain ⟨x2, hx2⟩ : ∃ y, y = wI x1 93 (ups (zI x 93) 15 (zI x 93 15 + rmW W c)) := ⟨_, rfl⟩
      have M1 : LayM x1 := Mx.of (by rw [hx1]; rfl) (by rw [hx1]; rfl)
      have x93 : zI x1 93 = zI x 93 := by rw [hx1, zI_ne (by decide)]
      refine ⟨(nI (n + 1), x2), ⟨rfl, nx (a := rmW W c) (b := rmW W c) ?_ (by unfold sdW; rw [hb]) (by unfold r4W; rw [hb])⟩, ?_⟩
      · refine ⟨?_, ?_, fun d hd => ?_, ?_, fun j hj => ?_⟩
        · rw [hx2, hx1]
          exact (Fi.w (Or.inl rfl)).trans (Fi.w (Or.inr rfl))
        · rw [hx2, zI_ne (by decide), hx1, zI_eq, up_eq]
        · rw [hx2, zI_ne (by decide), hx1, zI_eq, up_ne hd]
        · rw [hx2, zI_eq, up_eq]
        · rw [hx2, zI_eq, up_ne hj]
      · rw [gR_eq (by rw [mk_92 Mx]) (mr_92_1 Mx), show (5 : Int32) = nI 5 from rfl, aI_n (mk_93 Mx) (by decide) (by decide), gR_eq (by rw [mk_92 Mx]) (mr_92_1 Mx), show (192 : Int32) = nI 192 from rfl, nI_add, aI_n (mk_93 Mx) (by omega) (by decide), isC_eq (by rw [mk_92 Mx]), el, bnd_some, gR_eq (by rw [mk_92 Mx]) (mr_92_24 Mx), aI_n (mk_102 Mx) hc (by decide), sI_n (mk_102 Mx) hc (by decide), e5, ew]
        rw [show wI x 102 (ups (zI x 102) c (zI x 102 c + (W 5 - W (192 + c)) * ldW W c / 100)) = x1 from hx1.symm, gR_eq (by rw [mk_92 M1]) (mr_92_1 M1), show (15 : Int32) = nI 15 from rfl, aI_n (mk_93 M1) (by decide) (by decide), sI_n (mk_93 M1) (by decide) (by decide), x93, show wI x1 93 (ups (zI x 93) 15 (zI x 93 15 + (W 5 - W (192 + c)) * ldW W c / 100)) = x2 from hx2.symm]
        unfold m_X12_comesBeside_B127
        rw [nI_1]
    | some d =>
      have hd2 := (bsM_nb hc hn hb).2
      rw [if_neg (show ¬ oN (some d) = -1 from nI_ne_m1 (by omega)), show oN (some d) = nI d from rfl, isC_eq (by rw [mk_92 Mx]), dugA Mx Ax hd2, bnd_some]
      rcases ok_dug hO d hd2 with g | g
      · rw [g, if_pos (by decide)]
        have ew : zI x 93 (192 + c) = W (192 + c) := Ax _ (by omega)
        have ed : zI x 93 (192 + d) = W (192 + d) := Ax _ (by omega)
        have el := leadOf_ok Mx Ax hO hc hd
        have el2 := leadOf_ok Mx Ax hO hd2 g
        obtain ⟨x1, hx1⟩ : ∃ y, y = wI x 102 (ups (zI x 102) c (zI x 102 c + exW W c d)) := ⟨_, rfl⟩
        refine ⟨(nI (n + 1), x1), ⟨rfl, nx (a := exW W c d) (b := 0) ?_ (by unfold sdW; rw [hb]) (by unfold r4W; rw [hb])⟩, ?_⟩
        · refine ⟨?_, ?_, fun e he => ?_, ?_, fun j hj => ?_⟩
          · rw [hx1]; exact Fi.w (Or.inl rfl)
          · rw [hx1, zI_eq, up_eq]
          · rw [hx1, zI_eq, up_ne he]
          · rw [hx1, zI_ne (by decide), Int32.add_zero]
          · rw [hx1, zI_ne (by decide)]
        · rw [gR_eq (by rw [mk_92 Mx]) (mr_92_24 Mx), aI_n (mk_102 Mx) hc (by decide), gR_eq (by rw [mk_92 Mx]) (mr_92_1 Mx), show (192 : Int32) = nI 192 from rfl, nI_add, aI_n (mk_93 Mx) (by omega) (by decide), gR_eq (by rw [mk_92 Mx]) (mr_92_1 Mx), nI_add, aI_n (mk_93 Mx) (by omega) (by decide), isC_eq (by rw [mk_92 Mx]), el, bnd_some, isC_eq (by rw [mk_92 Mx]), el2, bnd_some, min_ok, bnd_some, sI_n (mk_102 Mx) hc (by decide), ed, ew]
          rw [show wI x 102 (ups (zI x 102) c (zI x 102 c + (W (192 + d) - W (192 + c)) * minJ (ldW W c) (ldW W d) / 100)) = x1 from hx1.symm]
          unfold m_X12_comesBeside_B127
          rw [nI_1]
      · rw [g, if_neg (by decide)]
        refine ⟨(nI (n + 1), x), ⟨rfl, nx (a := 0) (b := 0) Gr.z (by unfold sdW; rw [hb]; exact (ex_dug hO hc g).symm) (by unfold r4W; rw [hb])⟩, ?_⟩
        unfold m_X12_comesBeside_B127
        rw [nI_1]
  case he =>
    rintro f ⟨v, x⟩ ⟨h1, h2⟩
    dsimp only at h1 h2 ⊢
    subst h1
    rw [m_X12_comesBeside_L2, if_neg (nlt_lit (Nat.le_refl _) (by decide))]
    exact ⟨x, rfl, h2⟩
