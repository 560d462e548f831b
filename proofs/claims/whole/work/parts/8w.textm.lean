/-! ===== text: the lines of the model ===== -/
theorem rl_fr {b : Nat → Nat} {n m : Nat} : ∀ {f i : Nat} {s : Ps} {F : Nat → Int32}, i + f = 4 → 0 < f → (rl b n m f i s F).1.2.1 = 0 → ∀ x, x < 750 + 10 * m ∨ 760 + 10 * m ≤ x → (rl b n m f i s F).2 x = F x
  | 0, _, _, _, _, h, _ => absurd h (by omega)
  | f + 1, i, s, F, hif, _, h => by
    intro x hx
    have st : (tC b n i s).2.1 = 0 → cF b n m i s F x = F x := fun g => by
      have := (tC_good g).2.2.1
      unfold cF
      rw [up_ne (by omega)]
      split
      · rw [up_ne (by omega)]
      · rw [up_ne (by omega), up_ne (by omega), up_ne (by omega)]
    have e : rl b n m (f + 1) i s F = if (tC b n i s).2.1 = 0 ∧ isW b (txw 23) (tC b n i s).1 = true then rl b n m f (i + 1) (ad b n (tC b n i s)) (cF b n m i s F) else (tC b n i s, cF b n m i s F) := rfl
    rw [e] at h ⊢
    by_cases c : (tC b n i s).2.1 = 0 ∧ isW b (txw 23) (tC b n i s).1 = true
    · rw [if_pos c] at h ⊢
      have := (tC_good c.1).2.2.1
      rw [rl_fr (by omega) (by omega) h x hx, st c.1]
    · rw [if_neg c] at h ⊢
      exact st h
section
variable {z0 z y : Hp} {b : Nat → Nat} {n : Nat} {s t : Ps} {D E : Dt}
theorem VM.of (v : VM D) (e : ∀ i, i = 2 ∨ i = 3 ∨ i = 4 ∨ 750 ≤ i ∧ i < 790 → E.1 i = D.1 i) (e1 : E.2.2.2.1 = D.2.2.2.1 ∨ E.2.2.2.1 = 1) (e2 : E.2.2.2.2 = D.2.2.2.2 ∨ E.2.2.2.2 = 1) : VM E := by
  obtain ⟨⟨m, a1, a2⟩, ⟨k, b1, b2⟩, ⟨r, c1, c2, c3⟩, h1, h2⟩ := v
  refine ⟨⟨m, a1, by rw [e 2 (by omega)]; exact a2⟩, ⟨k, b1, by rw [e 3 (by omega)]; exact b2⟩, ⟨r, c1, by rw [e 4 (by omega)]; exact c2, fun q g1 g2 => by rw [e _ (by omega)]; exact c3 q g1 g2⟩, ?_, ?_⟩
  · rcases e1 with g | g
    · rw [g]; exact h1
    · exact Or.inr g
  · rcases e2 with g | g
    · rw [g]; exact h2
    · exact Or.inr g
theorem vm_u {k : Nat} (v : VM D) (hk : k < 9) (nf : fx k D = false) (gd : (rt b n k D s).2.1 = 0) : VM (uD b n k D s) := by
  have hg := (nmv_b (s := s) (show 0 ≤ 3 by decide)).2
  have hg2 := (nmv_b (s := s) (show 0 ≤ 11 by decide)).2
  have c : k = 0 ∨ k = 1 ∨ k = 2 ∨ k = 3 ∨ k = 4 ∨ k = 5 ∨ k = 6 ∨ k = 7 ∨ k = 8 := by omega
  rcases c with c | c | c | c | c | c | c | c | c <;> subst c
  · refine v.of (fun i hi => ?_) (Or.inl rfl) (Or.inl rfl)
    show uG b n D.1 D.2.1 s i = D.1 i
    unfold uG
    rw [up_ne (by omega), up_ne (by omega), up_ne (by omega), up_ne (by omega)]
  · refine v.of (fun i hi => ?_) (Or.inl rfl) (Or.inl rfl)
    show uL b n D.1 s i = D.1 i
    exact if_neg (by omega)
  · refine v.of (fun i hi => ?_) (Or.inl rfl) (Or.inl rfl)
    show uS b n D.1 D.2.2.1 s i = D.1 i
    unfold uS
    rw [up_ne (by omega)]
  · refine v.of (fun i hi => ?_) (Or.inr rfl) (Or.inl rfl)
    show ups D.1 5 (nI (nmv 1 300 s)) i = D.1 i
    rw [up_ne (by omega)]
  · refine v.of (fun i hi => ?_) (Or.inl rfl) (Or.inl rfl)
    show uX b n D.1 s i = D.1 i
    unfold uX
    rw [up_ne (by omega), up_ne (by omega), up_ne (by omega), up_ne (by omega), up_ne (by omega)]
  · obtain ⟨⟨m, a1, a2⟩, ⟨k, b1, b2⟩, ⟨r, c1, c2, c3⟩, h⟩ := v
    have em : nPW D.1 = m := by unfold nPW; rw [a2, nn_nI (by omega)]
    have hm : m < 12 := by
      have : ¬ D.1 2 = 12 := of_decide_eq_false nf
      have : m ≠ 12 := fun e => this (by rw [a2, e]; rfl)
      omega
    have eF : ∀ i, i ≠ 2 → i < 624 ∨ 732 ≤ i → uP b n D.1 s i = D.1 i := fun i h1 h2 => by
      unfold uP
      rw [em, up_ne h1, up_ne (by omega), up_ne (by omega), up_ne (by omega), up_ne (by omega)]
    exact ⟨⟨m + 1, by omega, (show uP b n D.1 s 2 = nI (m + 1) by unfold uP; rw [up_eq, em])⟩, ⟨k, b1, (eF 3 (by omega) (by omega)).trans b2⟩, ⟨r, c1, (eF 4 (by omega) (by omega)).trans c2, fun q g1 g2 => (eF _ (by omega) (by omega)).trans (c3 q g1 g2)⟩, h⟩
  · refine v.of (fun i hi => ?_) (Or.inl rfl) (Or.inr rfl)
    show ups D.1 6 (nI (nmv 0 99999 s)) i = D.1 i
    rw [up_ne (by omega)]
  · obtain ⟨⟨m, a1, a2⟩, ⟨k, b1, b2⟩, ⟨r, c1, c2, c3⟩, h⟩ := v
    have em : nHW D.1 = k := by unfold nHW; rw [b2, nn_nI (by omega)]
    have hm : k < 6 := by
      have : ¬ D.1 3 = 6 := of_decide_eq_false nf
      have : k ≠ 6 := fun e => this (by rw [b2, e]; rfl)
      omega
    have eF : ∀ i, i ≠ 3 → i < 732 ∨ 750 ≤ i → uH b n D.1 s i = D.1 i := fun i h1 h2 => by
      unfold uH
      rw [em, up_ne h1, up_ne (by omega), up_ne (by omega)]
    exact ⟨⟨m, a1, (eF 2 (by omega) (by omega)).trans a2⟩, ⟨k + 1, by omega, (show uH b n D.1 s 3 = nI (k + 1) by unfold uH; rw [up_eq, em])⟩, ⟨r, c1, (eF 4 (by omega) (by omega)).trans c2, fun q g1 g2 => (eF _ (by omega) (by omega)).trans (c3 q g1 g2)⟩, h⟩
  · obtain ⟨⟨m, a1, a2⟩, ⟨k, b1, b2⟩, ⟨r, c1, c2, c3⟩, h⟩ := v
    have em : nRW D.1 = r := by unfold nRW; rw [c2, nn_nI (by omega)]
    have hm : r < 4 := by
      have : ¬ D.1 4 = 4 := of_decide_eq_false nf
      have : r ≠ 4 := fun e => this (by rw [c2, e]; rfl)
      omega
    have gd' : (rl b n (nRW D.1) 4 0 (wd b n (txw 17) s) D.1).1.2.1 = 0 := gd
    have eF : ∀ i, i ≠ 4 → i < 750 + 10 * r ∨ 760 + 10 * r ≤ i → uR b n D.1 s i = D.1 i := fun i h1 h2 => by
      unfold uR
      rw [up_ne h1]
      exact rl_fr (by decide) (by decide) gd' i (by rw [em]; exact h2)
    exact ⟨⟨m, a1, (eF 2 (by omega) (by omega)).trans a2⟩, ⟨k, b1, (eF 3 (by omega) (by omega)).trans b2⟩, ⟨r + 1, by omega, (show uR b n D.1 s 4 = nI (r + 1) by unfold uR; rw [up_eq, em]), fun q g1 g2 => (eF _ (by omega) (by omega)).trans (c3 q (by omega) g2)⟩, h⟩
theorem vm_ln (v : VM D) (gd : (lnS b n D s).2.1 = 0) : VM (lnD b n D s) := by
  obtain ⟨_, hf, h9⟩ := ln_good gd
  have := lk_lt (b := b) (T := s.1)
  unfold lnS at gd
  rw [if_neg h9] at gd
  have nf : fx (lk b s.1) (Dz D) = false := by
    rw [fx_z]
    unfold lfull at hf
    cases q : fx (lk b s.1) D with
    | false => rfl
    | true => rw [q, Bool.or_true] at hf; cases hf
  exact vm_u v.dz (by omega) nf (sg_good gd).1
theorem ln_M (h : HM z0 z b n s D) (c : s.2.1 = 0) (v : VM D) : ∃ y, m_X12_readLine 92 z = some ((), y) ∧ HM z0 y b n (lnS b n D s) (lnD b n D s) := by
  have hM := h.M
  have bad : ∀ {x : Hp} {u : Ps}, HM z0 x b n u D → ¬ u.2.1 = 0 → (lnS b n D s).2 = u.2 → ∃ y, m_X12_readLine_B250 92 x = some ((), y) ∧ HM z0 y b n (lnS b n D s) (lnD b n D s) := fun {x u} hx g e => by
    refine ⟨x, ?_, hx.bad g e⟩
    unfold m_X12_readLine_B250
    rw [isC_eq (by rw [mk_92 hx.M]), good_f hx.1 g, bnd_some, if_pos rfl]
  rw [kn_M h c, fu_M h c v]
  unfold m_X12_readLine_B228
  by_cases h9 : lk b s.1 = 9
  · rw [decide_eq_false (fun g => g h9), if_pos bI_f, isC_eq (by rw [mk_92 hM])]
    obtain ⟨z1, r1, h1⟩ := m_wrong 1 (by decide) h
    rw [r1, bnd_some]
    have gb : ¬ (fal true 1 s.1.2.1 s).2.1 = 0 := by
      show ¬ (fl true 1 s.1.2.1 s.2).1 = 0
      rw [fl_t c]; exact (by decide : ¬ (1 : Int32) = 0)
    refine bad h1 gb ?_
    unfold lnS
    rw [if_pos h9, sg_st gb]
  · rw [decide_eq_true h9, if_neg bI_t]
    cases hf : lfull (lk b s.1) D with
    | true =>
      rw [if_neg bI_t, isC_eq (by rw [mk_92 hM])]
      obtain ⟨z1, r1, h1⟩ := m_wrong 3 (by decide) h
      rw [r1, bnd_some]
      have gb : ¬ (fal true 3 s.1.2.1 s).2.1 = 0 := by
        show ¬ (fl true 3 s.1.2.1 s.2).1 = 0
        rw [fl_t c]; exact (by decide : ¬ (3 : Int32) = 0)
      have e1 : (l1 b n D s).2 = (fal true 3 s.1.2.1 s).2 := by
        unfold l1
        rw [hf]
        rfl
      have g1 : ¬ (l1 b n D s).2.1 = 0 := by rw [e1]; exact gb
      refine bad h1 gb ?_
      unfold lnS
      rw [if_neg h9, sg_st (by rw [rt_st g1]; exact g1), rt_st g1, e1]
    | false =>
      rw [if_pos bI_f]
      have d1 := (h.2.2.2 c).1
      have h1 : HM z0 (wI z 99 (ups (zI z 99) 0 (zI z 99 0 + 1))) b n s (Dz D) := h.w99 (k := 0) (fun _ => by rw [d1])
      obtain ⟨y, r, hy⟩ := rt_M h1 c v h9 hf
      refine ⟨y, ?_, hy⟩
      unfold m_X12_readLine_B250
      rw [isC_eq (by rw [mk_92 hM]), good_t h.1 c, bnd_some, if_neg (by decide), gR_eq (by rw [mk_92 hM]) (mr_92_15 hM), a99 0 hM (by decide), show sI 1 z 99 0 (zI z 99 0 + 1) = fun g => g (wI z 99 (ups (zI z 99) 0 (zI z 99 0 + 1))) from funext fun g => sI_n (k := 0) (mk_99 hM) (by decide) (by decide)]
      exact r
/-- the lines of the model -/
theorem lns_M (K : Nat → Hp → Option (Int32 × Hp)) (h : HM z0 z b n s D) (v : VM D) (he : ¬ ((its b n 41 (s, D)).1.2.1 = 0 ∧ ¬ (its b n 41 (s, D)).1.1.1 = 0)) : ∃ y, m_X12_text_L90 K FU 92 z = K 92 y ∧ HM z0 y b n (its b n 41 (s, D)).1 (its b n 41 (s, D)).2 := by
  refine loopQ (X := Hp) (fun f x => m_X12_text_L90 K f 92 x) (fun t => ∃ y, t = K 92 y ∧ HM z0 y b n (its b n 41 (s, D)).1 (its b n 41 (s, D)).2) (fun j x => ∃ t E, HM z0 x b n t E ∧ (t.2.1 = 0 → VM E) ∧ its b n 41 (s, D) = its b n (41 - j) (t, E)) 41 ?hs ?he 0 FU z (by decide) (by decide) ⟨s, D, h, fun _ => v, rfl⟩
  all_goals
    have stop : ∀ {x : Hp} {t : Ps} {E : Dt} (f : Nat), HM z0 x b n t E → ¬ (t.2.1 = 0 ∧ ¬ t.1.1 = 0) → m_X12_text_L90 K (f + 1) 92 x = K 92 x := fun {x t E} f hx g => by
      rw [m_X12_text_L90, isC_eq (by rw [mk_92 hx.M])]
      by_cases c : t.2.1 = 0
      · obtain ⟨hT, hv⟩ := hx.1.2.2.2.2 c
        have k0 : t.1.1 = 0 := by
          by_cases q : t.1.1 = 0
          · exact q
          · exact absurd ⟨c, q⟩ g
        rw [good_t hx.1 c, bnd_some, if_neg (by decide), gI_eq (by rw [mk_92 hx.M]), hT.1, k0, if_pos (show nI (tkm 0) = 0 from rfl)]
      · rw [good_f hx.1 c, bnd_some, if_pos rfl]
  case hs =>
    rintro j f x hj ⟨t, E, g1, g2, g3⟩
    rw [its_s hj] at g3
    by_cases c : t.2.1 = 0 ∧ ¬ t.1.1 = 0
    · left
      rw [show stp b n (t, E) = (lnS b n E t, lnD b n E t) from if_pos c] at g3
      obtain ⟨y, r, hy⟩ := ln_M g1 c.1 (g2 c.1)
      obtain ⟨hT, hv⟩ := g1.1.2.2.2.2 c.1
      refine ⟨y, ⟨_, _, hy, fun gd => vm_ln (g2 c.1) gd, g3⟩, ?_⟩
      have ht : tkm t.1.1 < 10 := by have := hv.1; unfold tkm; split <;> omega
      rw [m_X12_text_L90, isC_eq (by rw [mk_92 g1.M]), good_t g1.1 c.1, bnd_some, if_neg (by decide), gI_eq (by rw [mk_92 g1.M]), hT.1, if_neg (show ¬ nI (tkm t.1.1) = 0 from fun q => c.2 (by have := (nI_eq (b := 0) (by omega) (by decide)).mp q; unfold tkm at this; split at this <;> omega)), isC_eq (by rw [mk_92 g1.M]), r, bnd_some]
    · right
      rw [show stp b n (t, E) = (t, E) from if_neg c, its_x (X := (t, E)) c] at g3
      exact ⟨x, stop f g1 c, by rw [g3]; exact g1⟩
  case he =>
    rintro f x ⟨t, E, g1, g2, g3⟩
    rw [show its b n (41 - 41) (t, E) = (t, E) from rfl] at g3
    rw [g3] at he
    exact ⟨x, stop f g1 he, by rw [g3]; exact g1⟩
end
