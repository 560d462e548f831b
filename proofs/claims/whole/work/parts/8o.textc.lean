/-! ===== text: all lines ===== -/
def stp (b : Nat → Nat) (n : Nat) (X : Ps × Dt) : Ps × Dt := if X.1.2.1 = 0 ∧ ¬ X.1.1.1 = 0 then (lnS b n X.2 X.1, lnD b n X.2 X.1) else X
def its (b : Nat → Nat) (n : Nat) : Nat → Ps × Dt → Ps × Dt
  | 0, X => X
  | k + 1, X => its b n k (stp b n X)
theorem its_s {b : Nat → Nat} {n i : Nat} {X : Ps × Dt} (h : i < 41) : its b n (41 - i) X = its b n (41 - (i + 1)) (stp b n X) := by
  obtain ⟨m, e⟩ : ∃ m, 41 - i = m + 1 := ⟨41 - i - 1, by omega⟩
  rw [e, show 41 - (i + 1) = m by omega]
  rfl
theorem its_x {b : Nat → Nat} {n : Nat} {X : Ps × Dt} (h : ¬ (X.1.2.1 = 0 ∧ ¬ X.1.1.1 = 0)) : ∀ k, its b n k X = X
  | 0 => rfl
  | k + 1 => by
    show its b n k (stp b n X) = X
    rw [show stp b n X = X from if_neg h]
    exact its_x h k
theorem mn_st {b : Nat → Nat} {n : Nat} {s : Ps} : (mn b n s).2 = s.2 := by unfold mn; split <;> rfl
theorem ng_good {b : Nat → Nat} {n m : Nat} {s : Ps} (h : (ng b n m s).2.1 = 0) : s.2.1 = 0 := by
  have := (nm_good h).1
  rw [mn_st] at this
  exact this
theorem fal_good {c : Bool} {k : Int32} {p : Nat} {s : Ps} (hk : k ≠ 0) (h : (fal c k p s).2.1 = 0) : s.2.1 = 0 ∧ c = false := fl_n hk (show (fl c k p s.2).1 = 0 from h)
theorem tG1_good {b : Nat → Nat} {n : Nat} {t : Nat → Bool} {s : Ps} (h : (tG b n t s).2.1 = 0) : (tG1 b n t s).2.1 = 0 := wd_good (nm_good (wd_good (nm_good (wd_good (nm_good (wd_good (ng_good h))).1)).1)).1
theorem tG_good {b : Nat → Nat} {n : Nat} {t : Nat → Bool} {s : Ps} (h : (tG b n t s).2.1 = 0) : s.2.1 = 0 ∧ t (nmv 0 3 s) = false := by
  have := fal_good (by decide) (tG1_good h)
  exact ⟨(nm_good this.1).1, this.2⟩
theorem tS_good {b : Nat → Nat} {n : Nat} {t : Nat → Bool} {s : Ps} (h : (tS b n t s).2.1 = 0) : s.2.1 = 0 ∧ t (nmv 0 11 s) = false := by
  have := fal_good (by decide) (wd_good (nm_good h).1)
  exact ⟨(nm_good this.1).1, this.2⟩
theorem tL_good {b : Nat → Nat} {n : Nat} {s : Ps} (h : (tL b n s).2.1 = 0) : s.2.1 = 0 := tB_good (wd_good (nm_good h).1)
theorem rt_good {b : Nat → Nat} {n k : Nat} {D : Dt} {s : Ps} (h : (rt b n k D s).2.1 = 0) : s.2.1 = 0 := by
  unfold rt at h
  split at h
  · exact (tG_good h).1
  split at h
  · exact tL_good h
  split at h
  · exact (tS_good h).1
  split at h
  · exact (nm_good h).1
  split at h
  · exact tB_good h
  split at h
  · exact (tP_good h).1
  split at h
  · exact (nm_good h).1
  split at h
  · exact tH_good h
  · exact wd_good (rl_good h)
theorem ln_good {b : Nat → Nat} {n : Nat} {D : Dt} {s : Ps} (h : (lnS b n D s).2.1 = 0) : s.2.1 = 0 ∧ lfull (lk b s.1) D = false ∧ lk b s.1 ≠ 9 := by
  unfold lnS at h
  have h1 := (sg_good h).1
  by_cases c : lk b s.1 = 9
  · rw [if_pos c] at h1
    have := (fal_good (by decide) h1).2
    cases this
  · rw [if_neg c] at h1
    have := l1_good (rt_good h1)
    exact ⟨this.1, this.2, c⟩
theorem ln_0 {b : Nat → Nat} {n l : Nat} {D : Dt} {s : Ps} (h : (lnS b n D s).2.1 = 0) (h0 : D.1 0 = nI l) (hl : l ≤ 40) : (lnD b n D s).1 0 = nI (l + 1) ∧ l + 1 ≤ 40 := by
  have := (ln_good h).2.1
  unfold lfull at this
  have h2 : decide (D.1 0 = 40) = false := by
    cases q : decide (D.1 0 = 40) with
    | false => rfl
    | true => rw [q, Bool.true_or] at this; cases this
  have h3 : ¬ D.1 0 = 40 := of_decide_eq_false h2
  have h4 : l ≠ 40 := fun e => h3 (by rw [h0, e]; rfl)
  refine ⟨?_, by omega⟩
  unfold lnD
  rw [uD_0]
  show ups D.1 0 (D.1 0 + 1) 0 = _
  rw [up_eq, h0, nI_1]
theorem its_end {b : Nat → Nat} {n : Nat} : ∀ {k l : Nat} {X : Ps × Dt}, (X.1.2.1 = 0 → X.2.1 0 = nI l ∧ l ≤ 40 ∧ 41 ≤ k + l) → ¬ ((its b n k X).1.2.1 = 0 ∧ ¬ (its b n k X).1.1.1 = 0)
  | 0, l, X, h => fun g => by have := h g.1; omega
  | k + 1, l, X, h => by
    by_cases c : X.1.2.1 = 0 ∧ ¬ X.1.1.1 = 0
    · show ¬ ((its b n k (stp b n X)).1.2.1 = 0 ∧ ¬ (its b n k (stp b n X)).1.1.1 = 0)
      rw [show stp b n X = (lnS b n X.2 X.1, lnD b n X.2 X.1) from if_pos c]
      obtain ⟨h1, h2, h3⟩ := h c.1
      exact its_end (l := l + 1) (fun g => by
        have := ln_0 g h1 h2
        exact ⟨this.1, this.2, by omega⟩)
    · rw [its_x c]; exact c
section
variable {z0 z y : Hp} {b : Nat → Nat} {n d : Nat} {s s' : Ps} {M : Me} {D : Dt}
/-- the lines of the class -/
theorem lns_C (h : HC z0 z b n d s M D.2.2.2.1 D.2.2.2.2) (hD : DDt d M D) (hl : M d 13 = D.1 0) (h0 : D.1 0 = nI 0) : ∃ y M' fa' co', m_X2_readText_L49 FU 68 0 z = some ((), y) ∧ HC z0 y b n d (its b n 41 (s, D)).1 M' fa' co' ∧ ((its b n 41 (s, D)).1.2.1 = 0 → DDt d M' (its b n 41 (s, D)).2 ∧ M' d 13 = (its b n 41 (s, D)).2.1 0) := by
  refine loopQ (X := Int32 × Hp) (fun f x => m_X2_readText_L49 f 68 x.1 x.2) (fun t => ∃ y M' fa' co', t = some ((), y) ∧ HC z0 y b n d (its b n 41 (s, D)).1 M' fa' co' ∧ ((its b n 41 (s, D)).1.2.1 = 0 → DDt d M' (its b n 41 (s, D)).2 ∧ M' d 13 = (its b n 41 (s, D)).2.1 0)) (fun j x => x.1 = nI j ∧ ∃ t E N fa co, HC z0 x.2 b n d t N fa co ∧ its b n 41 (s, D) = its b n (41 - j) (t, E) ∧ (t.2.1 = 0 → DDt d N E ∧ N d 13 = E.1 0 ∧ fa = E.2.2.2.1 ∧ co = E.2.2.2.2 ∧ ∃ l, E.1 0 = nI l ∧ l ≤ 40)) 41 ?hs ?he 0 FU (0, z) (by decide) (by decide) ⟨rfl, s, D, M, _, _, h, rfl, fun _ => ⟨hD, hl, rfl, rfl, 0, h0, by decide⟩⟩
  case hs =>
    rintro j f ⟨x, w⟩ hj ⟨g1, t, E, N, fa, co, g2, g3, g4⟩
    dsimp only at g1 g2 ⊢
    subst g1
    rw [its_s hj] at g3
    have f6 : zI w 68 6 = t.2.1 := g2.1.2.2.2.2.1
    have f3 : zI w 66 3 = nI t.1.1 := g2.1.2.2.1.1
    have tv := g2.1.2.2.2.1.1
    rw [m_X2_readText_L49, if_neg (show ¬ (40 : Int32) < nI j from nI_nlt (a := 40) (b := j) (by omega) (by decide)), gI_eq (by rw [ck_68 g2.C]), f6]
    by_cases c : t.2.1 = 0
    · rw [if_pos c, gR_eq (by rw [ck_68 g2.C]) (cr_68_0 g2.C), gI_eq (by rw [ck_66 g2.C]), f3]
      obtain ⟨q1, q2, q3, q4, l, q5, q6⟩ := g4 c
      by_cases c2 : t.1.1 = 0
      · right
        rw [show stp b n (t, E) = (t, E) from if_neg (fun g => g.2 c2), its_x (X := (t, E)) (fun g => g.2 c2)] at g3
        exact ⟨w, N, fa, co, by rw [if_pos (by rw [c2]; rfl)], by rw [g3]; exact g2, fun _ => by rw [g3]; exact ⟨q1, q2⟩⟩
      · left
        obtain ⟨w2, M2, fa2, co2, r2, h2, k2⟩ := ln_C g2 q1 q3 q4 q2 q5 q6
        rw [show stp b n (t, E) = (lnS b n E t, lnD b n E t) from if_pos ⟨c, c2⟩] at g3
        refine ⟨(nI (j + 1), w2), ⟨rfl, lnS b n E t, lnD b n E t, M2, fa2, co2, h2, g3, fun gd => ?_⟩, ?_⟩
        · obtain ⟨p1, p2, p3, p4⟩ := k2 gd
          have := ln_0 gd q5 q6
          exact ⟨p2, p1, p3, p4, l + 1, this.1, this.2⟩
        · rw [if_neg (show ¬ nI t.1.1 = 0 from fun g => c2 ((nI_eq (b := 0) (by omega) (by decide)).mp g)), isC_eq (by rw [ck_68 g2.C]), r2, bnd_some, nI_1]
    · right
      rw [show stp b n (t, E) = (t, E) from if_neg (fun g => c g.1), its_x (X := (t, E)) (fun g => c g.1)] at g3
      exact ⟨w, N, fa, co, by rw [if_neg c], by rw [g3]; exact g2, fun gd => absurd (by rw [g3] at gd; exact gd) c⟩
  case he =>
    rintro f ⟨x, w⟩ ⟨g1, t, E, N, fa, co, g2, g3, g4⟩
    dsimp only at g1 g2 ⊢
    subst g1
    rw [show its b n (41 - 41) (t, E) = (t, E) from rfl] at g3
    refine ⟨w, N, fa, co, ?_, by rw [g3]; exact g2, fun gd => ?_⟩
    · rw [m_X2_readText_L49, if_pos (show (40 : Int32) < nI 41 by decide)]
    · rw [g3] at gd ⊢
      exact ⟨(g4 gd).1, (g4 gd).2.1⟩
end
