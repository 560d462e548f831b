/-! ===== text: a rule of the class, whole ===== -/
theorem Cr.up {d m i : Nat} {M : Me} {F : Nat → Int32} {v : Int32} (h : Cr d m i M F) : Cr d m i (upm M (d + 19) 4 v) F := by
  unfold Cr at h ⊢
  rw [upm_n (by omega), upm_n (by omega), upm_n (by omega), upm_n (by omega)]
  exact h
theorem Rf.up {d m : Nat} {M N : Me} {F G : Nat → Int32} {v : Int32} (h : Rf d m M N F G) : Rf d m M (upm N (d + 19) 4 v) F G := by
  unfold Rf at h ⊢
  rw [upm_n (show d + 20 ≠ d + 19 by omega), upm_n (show d + 21 ≠ d + 19 by omega), upm_n (show d + 22 ≠ d + 19 by omega), upm_n (show d + 23 ≠ d + 19 by omega)]
  exact ⟨fun a ha => by rw [upm_n (by omega)]; exact h.1 a ha, h.2⟩
section
variable {z0 z y : Hp} {b : Nat → Nat} {n d : Nat} {s s' : Ps} {M : Me} {fa co : Int32}
theorem ru_C {m : Nat} {F : Nat → Int32} (h : HC z0 z b n d s M fa co) (hm : m ≤ 4) (e : M (d + 19) 4 = nI m) (hF : m < 4 → F (750 + 10 * m) = 0) :
    ∃ y M', m_X2_readRule 68 z = some ((), y) ∧ HC z0 y b n d (rl b n m 4 0 (wd b n (txw 17) s) F).1 M' fa co ∧ ((rl b n m 4 0 (wd b n (txw 17) s) F).1.2.1 = 0 → m < 4 → (∃ k, k ≤ 3 ∧ Cr d m k M' (rl b n m 4 0 (wd b n (txw 17) s) F).2) ∧ M' (d + 19) 4 = nI (m + 1) ∧ Rf d m M M' F (rl b n m 4 0 (wd b n (txw 17) s) F).2) := by
  have hd := h.dd
  obtain ⟨z1, r1, h1⟩ := h_wd 17 h (by decide)
  obtain ⟨z2, M2, r2, h2, e2, k2, c2⟩ : ∃ z2 M2, m_X5_openRule (d + 19) z1 = some ((), z2) ∧ HC z0 z2 b n d (wd b n (txw 17) s) M2 fa co ∧ M2 (d + 19) 4 = nI m ∧ (m < 4 → M2 (d + 20) m = nI 0) ∧ (m < 4 → Cr d m 0 M2 F ∧ Rf d m M M2 F F) := by
    unfold m_X5_openRule
    rw [gI_eq (by rw [sk_19 h1.S]), h1.md (by decide), e]
    by_cases c : m < 4
    · have h3 := h1.w (a := d + 20) (k := m) (v := 0) (by omega)
      refine ⟨_, _, ?_, h3, by rw [upm_n (by omega)]; exact e, fun _ => by rw [upm_e, up_eq]; rfl, fun _ => ⟨⟨hF c, by rw [upm_e, up_eq]; rfl, fun j hj => absurd hj (by omega)⟩, fun a ha => by rw [upm_n (by omega)], fun r hr => by rw [upm_e, up_ne hr], fun j hj => by rw [upm_n (by omega), upm_n (by omega), upm_n (by omega)]; exact ⟨rfl, rfl, rfl⟩, fun _ _ => rfl⟩⟩
      rw [if_pos (show nI m < 4 from nI_lt (b := 4) c (by decide)), gR_eq (by rw [sk_19 h1.S]) (sr_19_0 h1.S), gI_eq (by rw [sk_19 h1.S]), h1.md (by decide), e, sI_n (sk_20 h1.S) (by omega) (by decide)]
    · exact ⟨z1, M, by rw [if_neg (show ¬ nI m < 4 from nI_nlt (b := 4) (by omega) (by omega))], h1, e, fun g => absurd g c, fun g => absurd g c⟩
  unfold m_X2_readRule
  rw [isC_eq (by rw [ck_68 h.C]), r1, bnd_some, gR_eq (by rw [ck_68 h1.C]) h1.r, gR_eq (by rw [sk_0 h1.S]) (sr_0_3 h1.S), isC_eq (by rw [sk_19 h1.S]), r2, bnd_some]
  generalize wd b n (txw 17) s = s1 at h2
  refine loopQ (X := Int32 × Hp) (fun f x => m_X2_readRule_L18 m_X2_readRule_B135 m_X2_readRule_B151 f 68 x.1 x.2) (fun t => ∃ y M', t = some ((), y) ∧ HC z0 y b n d (rl b n m 4 0 s1 F).1 M' fa co ∧ ((rl b n m 4 0 s1 F).1.2.1 = 0 → m < 4 → (∃ k, k ≤ 3 ∧ Cr d m k M' (rl b n m 4 0 s1 F).2) ∧ M' (d + 19) 4 = nI (m + 1) ∧ Rf d m M M' F (rl b n m 4 0 s1 F).2)) (fun j x => j < 4 ∧ x.1 = nI j ∧ ∃ t K G, HC z0 x.2 b n d t K fa co ∧ K (d + 19) 4 = nI m ∧ (m < 4 → K (d + 20) m = nI j) ∧ (m < 4 → Cr d m j K G ∧ Rf d m M K F G) ∧ rl b n m 4 0 s1 F = rl b n m (4 - j) j t G) 4 ?hs ?he 0 FU (0, z2) (by decide) (by decide) ⟨by decide, rfl, s1, M2, F, h2, e2, k2, c2, rfl⟩
  case he =>
    rintro f ⟨x, w⟩ ⟨h1, _⟩
    exact absurd h1 (by decide)
  case hs =>
    rintro j f ⟨x, w⟩ hj ⟨_, g1, t, K, G, g2, g3, g4, g5, g6⟩
    dsimp only at g1 g2 ⊢
    subst g1
    rw [m_X2_readRule_L18, if_neg (show ¬ (3 : Int32) < nI j from nI_nlt (a := 3) (b := j) (by omega) (by decide)), isC_eq (by rw [ck_68 g2.C])]
    obtain ⟨w1, k1, k2, k3⟩ := con_C (m_X2_readRule_L18 m_X2_readRule_B135 m_X2_readRule_B151 f) g2 hj hm g3 g4 _ rfl
    rw [rl_s hj] at g6
    have em : mCo d m j (cwv (cw b t.1)) (cSg b n j t) (cNr b n j t) K (d + 19) 4 = nI m := by
      unfold mCo
      split
      · rw [upm_n (by omega), upm_n (by omega), upm_n (by omega), upm_n (by omega)]; exact g3
      · exact g3
    by_cases c : (tC b n j t).2.1 = 0 ∧ isW b (txw 23) (tC b n j t).1 = true
    · left
      obtain ⟨w2, k4, k5⟩ := k3 c
      have q := tC_good c.1
      rw [if_pos c] at g6
      refine ⟨(nI (j + 1), w2), ⟨by omega, rfl, ad b n (tC b n j t), _, cF b n m j t G, k5, em, fun g => ?_, fun g => ?_, g6⟩, k4⟩
      · have := (cr_step (b := b) (n := n) (s := t) (g5 g).1 g (by omega) q.2.1).1
        exact this.2.1
      · have := cr_step (b := b) (n := n) (s := t) (g5 g).1 g (by omega) q.2.1
        exact ⟨this.1, (g5 g).2.trans this.2⟩
    · right
      rw [if_neg c] at g6
      rw [k2 c, g6]
      obtain ⟨w2, k4, k5⟩ := cls_C k1 hm em
      refine ⟨w2, _, k4, k5, fun gd g => ?_⟩
      have q := tC_good gd
      have := cr_step (b := b) (n := n) (s := t) (g5 g).1 g (by omega) q.2.1
      rw [if_pos g]
      exact ⟨⟨j + 1, by omega, this.1.up⟩, by rw [upm_e, up_eq], ((g5 g).2.trans this.2).up⟩
end
