/-! ===== text: lines of the class, again ===== -/
/-- a block of cells -/
def bx (x y x2 y2 : Nat) (v : Int32) (f : Nat → Int32) : Nat → Int32 := fun c => if (x ≤ c % 12 ∧ c % 12 ≤ x2) ∧ y ≤ c / 12 ∧ c / 12 ≤ y2 then v else f c
theorem fill_B {z : Hp} {a x y x2 y2 : Nat} (v : Int32) (hk : zK z a = (1, 144)) (hx : x ≤ x2) (hy : y ≤ y2) (hx2 : x2 < 12) (hy2 : y2 < 12) : m_X2_fillBlock a (nI x) (nI y) (nI x2) (nI y2) v z = some ((), wI z a (bx x y x2 y2 v (zI z a))) := by
  have inner : ∀ (k : Nat → Int32 → Int32 → Int32 → Int32 → Int32 → Hp → Option (Unit × Hp)) (r : Nat) (w : Hp), r < 12 → zK w a = (1, 144) → m_X2_fillBlock_L13 k FU a (nI x) (nI x2) (nI y2) v (nI r) (nI x) w = k a (nI x) (nI x2) (nI y2) v (nI r) (wI w a (bx x r x2 r v (zI w a))) := fun k r w hr hw => by
    refine loopQ (X := Int32 × Hp) (fun f p => m_X2_fillBlock_L13 k f a (nI x) (nI x2) (nI y2) v (nI r) p.1 p.2) (fun t => t = k a (nI x) (nI x2) (nI y2) v (nI r) (wI w a (bx x r x2 r v (zI w a)))) (fun j p => x ≤ j ∧ p.1 = nI j ∧ p.2 = wI w a (fun c => if (x ≤ c % 12 ∧ c % 12 < j) ∧ c / 12 = r then v else zI w a c)) (x2 + 1) ?hs ?he x FU (nI x, w) (by omega) (by show x2 + 1 - x < FU; exact FU_pos (by omega)) ⟨Nat.le_refl _, rfl, ?h0⟩
    case h0 =>
      refine (wI_self w a).symm.trans (congrArg (wI w a) (funext fun c => ?_))
      rw [if_neg (by omega)]
    case hs =>
      rintro j f ⟨p1, p2⟩ hj ⟨h1, h2, h3⟩
      dsimp only at h2 h3 ⊢
      subst h2 h3
      left
      refine ⟨(nI (j + 1), wI w a (fun c => if (x ≤ c % 12 ∧ c % 12 < j + 1) ∧ c / 12 = r then v else zI w a c)), ⟨by omega, rfl, rfl⟩, ?_⟩
      rw [m_X2_fillBlock_L13, if_neg (nI_nlt (by omega) (by omega)), c_mul, nI_add, sI_n (n := 144) (by rw [zK_wI]; exact hw) (by omega) (by decide), nI_1]
      refine congrArg (fun q => m_X2_fillBlock_L13 k f a (nI x) (nI x2) (nI y2) v (nI r) (nI (j + 1)) q) ?_
      rw [wI_wI, zI_eq]
      refine congrArg (wI w a) (funext fun c => ?_)
      rw [ups_eq]
      by_cases e : c = 12 * r + j
      · rw [if_pos e, if_pos (by omega)]
      · rw [if_neg e]
        by_cases g : (x ≤ c % 12 ∧ c % 12 < j) ∧ c / 12 = r
        · rw [if_pos g, if_pos (by omega)]
        · rw [if_neg g, if_neg (by omega)]
    case he =>
      rintro f ⟨p1, p2⟩ ⟨h1, h2, h3⟩
      dsimp only at h2 h3 ⊢
      subst h2 h3
      rw [m_X2_fillBlock_L13, if_pos (nI_lt (by omega) (by omega))]
      refine congrArg (fun q => k a (nI x) (nI x2) (nI y2) v (nI r) (wI w a q)) (funext fun c => ?_)
      unfold bx
      by_cases g : (x ≤ c % 12 ∧ c % 12 < x2 + 1) ∧ c / 12 = r
      · rw [if_pos g, if_pos (by omega)]
      · rw [if_neg g, if_neg (by omega)]
  unfold m_X2_fillBlock
  refine loopQ (X := Int32 × Hp) (fun f p => m_X2_fillBlock_L3 f a (nI x) (nI x2) (nI y2) v p.1 p.2) (fun t => t = some ((), wI z a (bx x y x2 y2 v (zI z a)))) (fun j p => y ≤ j ∧ p.1 = nI j ∧ p.2 = wI z a (fun c => if (x ≤ c % 12 ∧ c % 12 ≤ x2) ∧ y ≤ c / 12 ∧ c / 12 < j then v else zI z a c)) (y2 + 1) ?hs ?he y FU (nI y, z) (by omega) (by show y2 + 1 - y < FU; exact FU_pos (by omega)) ⟨Nat.le_refl _, rfl, ?h0⟩
  case h0 =>
    refine (wI_self z a).symm.trans (congrArg (wI z a) (funext fun c => ?_))
    rw [if_neg (by omega)]
  case hs =>
    rintro j f ⟨p1, p2⟩ hj ⟨h1, h2, h3⟩
    dsimp only at h2 h3 ⊢
    subst h2 h3
    left
    refine ⟨(nI (j + 1), wI z a (fun c => if (x ≤ c % 12 ∧ c % 12 ≤ x2) ∧ y ≤ c / 12 ∧ c / 12 < j + 1 then v else zI z a c)), ⟨by omega, rfl, rfl⟩, ?_⟩
    rw [m_X2_fillBlock_L3, if_neg (nI_nlt (by omega) (by omega)), inner _ j _ (by omega) (by rw [zK_wI]; exact hk)]
    unfold m_X2_fillBlock_B37
    rw [nI_1, wI_wI, zI_eq]
    refine congrArg (fun q => m_X2_fillBlock_L3 f a (nI x) (nI x2) (nI y2) v (nI (j + 1)) (wI z a q)) (funext fun c => ?_)
    unfold bx
    by_cases g : (x ≤ c % 12 ∧ c % 12 ≤ x2) ∧ j ≤ c / 12 ∧ c / 12 ≤ j
    · rw [if_pos g, if_pos (by omega)]
    · rw [if_neg g]
      dsimp only
      by_cases g2 : (x ≤ c % 12 ∧ c % 12 ≤ x2) ∧ y ≤ c / 12 ∧ c / 12 < j
      · rw [if_pos g2, if_pos (by omega)]
      · rw [if_neg g2, if_neg (by omega)]
  case he =>
    rintro f ⟨p1, p2⟩ ⟨h1, h2, h3⟩
    dsimp only at h2 h3 ⊢
    subst h2 h3
    rw [m_X2_fillBlock_L3, if_pos (nI_lt (by omega) (by omega))]
    refine congrArg (fun q => some ((), wI z a q)) (funext fun c => ?_)
    unfold bx
    by_cases g : (x ≤ c % 12 ∧ c % 12 ≤ x2) ∧ y ≤ c / 12 ∧ c / 12 < y2 + 1
    · rw [if_pos g, if_pos (by omega)]
    · rw [if_neg g, if_neg (by omega)]
def upf (M : Me) (a : Nat) (f : Nat → Int32) : Me := fun x => if x = a then f else M x
theorem upf_e {M : Me} {a : Nat} {f : Nat → Int32} : upf M a f a = f := if_pos rfl
theorem upf_n {M : Me} {a x : Nat} {f : Nat → Int32} (h : x ≠ a) : upf M a f x = M x := if_neg h
section
variable {z0 z y : Hp} {b : Nat → Nat} {n d : Nat} {s s' : Ps} {M : Me} {fa co : Int32}
theorem HC.wf (h : HC z0 z b n d s M fa co) {a : Nat} {f : Nat → Int32} (ha : a = 69 ∨ d ≤ a ∧ a < d + 32) : HC z0 (wI z a f) b n d s (upf M a f) fa co := by
  have hd := h.dd
  obtain ⟨⟨hC, hB, hT, hv, h6, h7⟩, hS, hr, _, hF, hm, h3, h4⟩ := h
  refine ⟨⟨hC.of rfl rfl, ⟨by rw [zI_ne (by omega)]; exact hB.1, hB.2.1, fun i hi => by rw [zI_ne (by omega)]; exact hB.2.2 i hi⟩, by unfold TkC; rw [zI_ne (by omega)]; exact hT, hv, by rw [zI_ne (by omega)]; exact h6, by rw [zI_ne (by omega)]; exact h7⟩, hS.of rfl rfl, hr, hd, hF.trans (Fi.w (by omega)), fun x h1 h2 => ?_, by rw [zI_ne (by omega)]; exact h3, by rw [zI_ne (by omega)]; exact h4⟩
  by_cases e : x = a
  · subst e
    rw [zI_eq, upf_e]
  · rw [zI_ne e, upf_n e, hm x h1 h2]
/-! a box -/
def tB1 (b : Nat → Nat) (n lo hi : Nat) (s : Ps) : Ps := nm b n lo hi s
def tB2 (b : Nat → Nat) (n lo hi : Nat) (s : Ps) : Ps := wd b n (txw 6) (nm b n lo hi (tB1 b n lo hi s))
def bX (lo hi : Nat) (s : Ps) : Nat := nmv lo hi s
def bY (b : Nat → Nat) (n lo hi : Nat) (s : Ps) : Nat := nmv lo hi (tB1 b n lo hi s)
def tB3 (b : Nat → Nat) (n lo hi : Nat) (s : Ps) : Ps := nm b n (bX lo hi s) hi (tB2 b n lo hi s)
def bX2 (b : Nat → Nat) (n lo hi : Nat) (s : Ps) : Nat := nmv (bX lo hi s) hi (tB2 b n lo hi s)
def bY2 (b : Nat → Nat) (n lo hi : Nat) (s : Ps) : Nat := nmv (bY b n lo hi s) hi (tB3 b n lo hi s)
def tB (b : Nat → Nat) (n lo hi : Nat) (s : Ps) : Ps := nm b n (bY b n lo hi s) hi (tB3 b n lo hi s)
theorem bx_b (b : Nat → Nat) (n : Nat) (s : Ps) {lo hi : Nat} (h : lo ≤ hi) : lo ≤ bX lo hi s ∧ bX lo hi s ≤ bX2 b n lo hi s ∧ bX2 b n lo hi s ≤ hi ∧ lo ≤ bY b n lo hi s ∧ bY b n lo hi s ≤ bY2 b n lo hi s ∧ bY2 b n lo hi s ≤ hi := by
  have h1 : lo ≤ bX lo hi s ∧ bX lo hi s ≤ hi := nmv_b h
  have h2 : lo ≤ bY b n lo hi s ∧ bY b n lo hi s ≤ hi := nmv_b h
  have h3 : bX lo hi s ≤ bX2 b n lo hi s ∧ bX2 b n lo hi s ≤ hi := nmv_b h1.2
  have h4 : bY b n lo hi s ≤ bY2 b n lo hi s ∧ bY2 b n lo hi s ≤ hi := nmv_b h2.2
  omega
theorem box_C (lo hi : Nat) (hlo : lo ≤ hi) (hhi : hi < 12) (h : HC z0 z b n d s M fa co) : ∃ z1 z2 z3 z4 z5, m_X2_number 68 (nI lo) (nI hi) z = some (nI (bX lo hi s), z1) ∧ m_X2_number 68 (nI lo) (nI hi) z1 = some (nI (bY b n lo hi s), z2) ∧ m_X2_needWord 68 6 z2 = some ((), z3) ∧ m_X2_number 68 (nI (bX lo hi s)) (nI hi) z3 = some (nI (bX2 b n lo hi s), z4) ∧ m_X2_number 68 (nI (bY b n lo hi s)) (nI hi) z4 = some (nI (bY2 b n lo hi s), z5) ∧ LayC z1 ∧ LayC z2 ∧ LayC z3 ∧ LayC z4 ∧ HC z0 z5 b n d (tB b n lo hi s) M fa co := by
  have hb := bx_b b n s hlo
  obtain ⟨z1, r1, h1, _⟩ := h_nm lo hi h (by omega) (by omega)
  obtain ⟨z2, r2, h2, _⟩ := h_nm lo hi h1 (by omega) (by omega)
  obtain ⟨z3, r3, h3⟩ := h_wd 6 h2 (by decide)
  obtain ⟨z4, r4, h4, _⟩ := h_nm (bX lo hi s) hi h3 (by omega) (by omega)
  obtain ⟨z5, r5, h5, _⟩ := h_nm (bY b n lo hi s) hi h4 (by omega) (by omega)
  exact ⟨z1, z2, z3, z4, z5, r1, r2, r3, r4, r5, h1.C, h2.C, h3.C, h4.C, h5⟩
/-! lay, shaft -/
def tL1 (b : Nat → Nat) (n : Nat) (s : Ps) : Ps := wd b n (txw 0) (tB b n 0 11 s)
def tL (b : Nat → Nat) (n : Nat) (s : Ps) : Ps := nm b n 0 3 (tL1 b n s)
theorem la_C (h : HC z0 z b n d s M fa co) : ∃ y, m_X2_readLay 68 z = some ((), y) ∧ HC z0 y b n d (tL b n s) (upf M (d + 6) (bx (bX 0 11 s) (bY b n 0 11 s) (bX2 b n 0 11 s) (bY2 b n 0 11 s) (nI (nmv 0 3 (tL1 b n s))) (M (d + 6)))) fa co := by
  have hd := h.dd
  have hb := bx_b b n s (show 0 ≤ 11 by decide)
  obtain ⟨z1, z2, z3, z4, z5, r1, r2, r3, r4, r5, C1, C2, C3, C4, h5⟩ := box_C 0 11 (by decide) (by decide) h
  obtain ⟨z6, r6, h6⟩ := h_wd 0 h5 (by decide)
  replace h6 : HC z0 z6 b n d (tL1 b n s) M fa co := h6
  obtain ⟨z7, r7, h7, _⟩ := h_nm 0 3 h6 (by decide) (by decide)
  have e6 := h7.md (j := 6) (by decide)
  have h8 := h7.wf (a := d + 6) (f := bx (bX 0 11 s) (bY b n 0 11 s) (bX2 b n 0 11 s) (bY2 b n 0 11 s) (nI (nmv 0 3 (tL1 b n s))) (zI z7 (d + 6))) (by omega)
  rw [e6] at h8
  refine ⟨_, ?_, h8⟩
  unfold m_X2_readLay
  rw [isC_eq (by rw [ck_68 h.C]), show m_X2_number 68 0 11 z = _ from r1, bnd_some, isC_eq (by rw [ck_68 C1]), show m_X2_number 68 0 11 z1 = _ from r2, bnd_some, isC_eq (by rw [ck_68 C2]), r3, bnd_some, isC_eq (by rw [ck_68 C3]), show m_X2_number 68 _ 11 z3 = _ from r4, bnd_some, isC_eq (by rw [ck_68 C4]), show m_X2_number 68 _ 11 z4 = _ from r5, bnd_some, isC_eq (by rw [ck_68 h5.C]), r6, bnd_some, isC_eq (by rw [ck_68 h6.C]), show m_X2_number 68 0 3 z6 = _ from r7, bnd_some, gR_eq (by rw [ck_68 h7.C]) h7.r, gR_eq (by rw [sk_0 h7.S]) (sr_0_0 h7.S), gR_eq (by rw [sk_1 h7.S]) (sr_1_4 h7.S), fill_B _ (sk_6 h7.S) (by omega) (by omega) (by omega) (by omega), bnd_some, e6]
theorem sh_C (h : HC z0 z b n d s M fa co) : ∃ y, m_X2_readShaft 68 z = some ((), y) ∧ HC z0 y b n d (tB b n 1 10 s) (upm (upf M (d + 30) (bx (bX 1 10 s) (bY b n 1 10 s) (bX2 b n 1 10 s) (bY2 b n 1 10 s) 1 (M (d + 30)))) d 10 ((nI (bX2 b n 1 10 s) - nI (bX 1 10 s) + 1) * (nI (bY2 b n 1 10 s) - nI (bY b n 1 10 s) + 1))) fa co := by
  have hd := h.dd
  have hb := bx_b b n s (show 1 ≤ 10 by decide)
  obtain ⟨z1, z2, z3, z4, z5, r1, r2, r3, r4, r5, C1, C2, C3, C4, h5⟩ := box_C 1 10 (by decide) (by decide) h
  have e6 := h5.md (j := 30) (by decide)
  have h8 := h5.wf (a := d + 30) (f := bx (bX 1 10 s) (bY b n 1 10 s) (bX2 b n 1 10 s) (bY2 b n 1 10 s) 1 (zI z5 (d + 30))) (by omega)
  rw [e6] at h8
  have h9 := h8.w (a := d) (k := 10) (v := (nI (bX2 b n 1 10 s) - nI (bX 1 10 s) + 1) * (nI (bY2 b n 1 10 s) - nI (bY b n 1 10 s) + 1)) (by omega)
  refine ⟨_, ?_, h9⟩
  unfold m_X2_readShaft
  rw [isC_eq (by rw [ck_68 h.C]), show m_X2_number 68 1 10 z = _ from r1, bnd_some, isC_eq (by rw [ck_68 C1]), show m_X2_number 68 1 10 z1 = _ from r2, bnd_some, isC_eq (by rw [ck_68 C2]), r3, bnd_some, isC_eq (by rw [ck_68 C3]), show m_X2_number 68 _ 10 z3 = _ from r4, bnd_some, isC_eq (by rw [ck_68 C4]), show m_X2_number 68 _ 10 z4 = _ from r5, bnd_some, gR_eq (by rw [ck_68 h5.C]) h5.r, gR_eq (by rw [sk_0 h5.S]) (sr_0_8 h5.S), fill_B _ (sk_30 h5.S) (by omega) (by omega) (by omega) (by omega), bnd_some, e6, gR_eq (by rw [ck_68 h8.C]) h8.r, pI_eq (by rw [sk_0 h8.S])]
end
