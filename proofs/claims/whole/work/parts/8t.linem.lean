/-! ===== text: a line of the model ===== -/
theorem isW_u {b : Nat → Nat} {v w : List Int32} {T : Tk} (h : isW b v T = true) (g : isW b w T = true) : v = w := by
  have h1 := of_decide_eq_true h
  have h2 := of_decide_eq_true g
  have el : v.length = w.length := h1.2.1.symm.trans h2.2.1
  refine List.ext_getElem el (fun i a1 a2 => ?_)
  have e1 := h1.2.2 i a1
  have e2 := h2.2.2 i a2
  rw [List.getD_eq_getElem?_getD, List.getElem?_eq_getElem a1, Option.getD_some] at e1
  rw [List.getD_eq_getElem?_getD, List.getElem?_eq_getElem a2, Option.getD_some] at e2
  exact e1.symm.trans e2
def wq (k : Nat) : Nat := [0, 5, 7, 9, 10, 11, 13, 14, 16].getD k 0
theorem lk_d {b : Nat → Nat} {T : Tk} : ∀ j, j < 9 → isW b (txw (wq j)) T = decide (lk b T = j) := by
  have dis : ∀ i, i < 9 → ∀ j, j < 9 → txw (wq i) = txw (wq j) → i = j := by decide +kernel
  intro j hj
  cases q : isW b (txw (wq j)) T with
  | true =>
    have F : ∀ i, i < 9 → i ≠ j → isW b (txw (wq i)) T = false := fun i hi ne => by
      cases r : isW b (txw (wq i)) T with
      | false => rfl
      | true => exact absurd (dis i hi j hj (isW_u r q)) ne
    refine (decide_eq_true ?_).symm
    have f0 := F 0 (by decide)
    have f1 := F 1 (by decide)
    have f2 := F 2 (by decide)
    have f3 := F 3 (by decide)
    have f4 := F 4 (by decide)
    have f5 := F 5 (by decide)
    have f6 := F 6 (by decide)
    have f7 := F 7 (by decide)
    have f8 := F 8 (by decide)
    rw [show wq 0 = 0 from rfl] at f0
    rw [show wq 1 = 5 from rfl] at f1
    rw [show wq 2 = 7 from rfl] at f2
    rw [show wq 3 = 9 from rfl] at f3
    rw [show wq 4 = 10 from rfl] at f4
    rw [show wq 5 = 11 from rfl] at f5
    rw [show wq 6 = 13 from rfl] at f6
    rw [show wq 7 = 14 from rfl] at f7
    rw [show wq 8 = 16 from rfl] at f8
    have c : j = 0 ∨ j = 1 ∨ j = 2 ∨ j = 3 ∨ j = 4 ∨ j = 5 ∨ j = 6 ∨ j = 7 ∨ j = 8 := by omega
    unfold lk
    rcases c with c | c | c | c | c | c | c | c | c <;> subst c
    · rw [show wq 0 = 0 from rfl] at q; rw [q]; rfl
    · rw [show wq 1 = 5 from rfl] at q; rw [f0 (by decide), q]; rfl
    · rw [show wq 2 = 7 from rfl] at q; rw [f0 (by decide), f1 (by decide), q]; rfl
    · rw [show wq 3 = 9 from rfl] at q; rw [f0 (by decide), f1 (by decide), f2 (by decide), q]; rfl
    · rw [show wq 4 = 10 from rfl] at q; rw [f0 (by decide), f1 (by decide), f2 (by decide), f3 (by decide), q]; rfl
    · rw [show wq 5 = 11 from rfl] at q; rw [f0 (by decide), f1 (by decide), f2 (by decide), f3 (by decide), f4 (by decide), q]; rfl
    · rw [show wq 6 = 13 from rfl] at q; rw [f0 (by decide), f1 (by decide), f2 (by decide), f3 (by decide), f4 (by decide), f5 (by decide), q]; rfl
    · rw [show wq 7 = 14 from rfl] at q; rw [f0 (by decide), f1 (by decide), f2 (by decide), f3 (by decide), f4 (by decide), f5 (by decide), f6 (by decide), q]; rfl
    · rw [show wq 8 = 16 from rfl] at q; rw [f0 (by decide), f1 (by decide), f2 (by decide), f3 (by decide), f4 (by decide), f5 (by decide), f6 (by decide), f7 (by decide), q]; rfl
  | false =>
    refine (decide_eq_false (fun g => ?_)).symm
    subst g
    have : isW b (txw (wq (lk b T))) T = true := by
      have l9 : lk b T < 9 := hj
      revert l9
      unfold lk
      cases w0 : isW b (txw 0) T with
      | true => exact fun _ => w0
      | false =>
      cases w1 : isW b (txw 5) T with
      | true => exact fun _ => w1
      | false =>
      cases w2 : isW b (txw 7) T with
      | true => exact fun _ => w2
      | false =>
      cases w3 : isW b (txw 9) T with
      | true => exact fun _ => w3
      | false =>
      cases w4 : isW b (txw 10) T with
      | true => exact fun _ => w4
      | false =>
      cases w5 : isW b (txw 11) T with
      | true => exact fun _ => w5
      | false =>
      cases w6 : isW b (txw 13) T with
      | true => exact fun _ => w6
      | false =>
      cases w7 : isW b (txw 14) T with
      | true => exact fun _ => w7
      | false =>
      cases w8 : isW b (txw 16) T with
      | true => exact fun _ => w8
      | false => exact fun g => absurd g (by decide)
    rw [q] at this
    cases this
theorem lk_lt {b : Nat → Nat} {T : Tk} : lk b T < 10 := by
  unfold lk
  repeat (first | omega | split)
theorem sg_st {b : Nat → Nat} {n c : Nat} {s : Ps} (g : ¬ s.2.1 = 0) : (sg b n c s).2 = s.2 := by
  show fl _ 1 s.1.2.1 s.2 = s.2
  rw [fl_b g]
theorem tB_st {b : Nat → Nat} {n lo hi : Nat} {s : Ps} (g : ¬ s.2.1 = 0) : (tB b n lo hi s).2 = s.2 := by
  unfold tB tB3 tB2 tB1
  rw [nm_st (nm_st1 (wd_st1 (nm_st1 (nm_st1 g)))), nm_st (wd_st1 (nm_st1 (nm_st1 g))), wd_st (nm_st1 (nm_st1 g)), nm_st (nm_st1 g), nm_st g]
theorem tB_st1 {b : Nat → Nat} {n lo hi : Nat} {s : Ps} (g : ¬ s.2.1 = 0) : ¬ (tB b n lo hi s).2.1 = 0 := by rw [tB_st g]; exact g
theorem rt_st {b : Nat → Nat} {n k : Nat} {D : Dt} {s : Ps} (g : ¬ s.2.1 = 0) : (rt b n k D s).2 = s.2 := by
  unfold rt
  split
  · have g1 : ¬ (tG1 b n (tgG D.2.1) s).2.1 = 0 := fal_st1 (nm_st1 g)
    unfold tG tG5 tG4 tG3 tG2
    rw [ng_st (wd_st1 (nm_st1 (wd_st1 (nm_st1 (wd_st1 (nm_st1 (wd_st1 g1))))))), wd_st (nm_st1 (wd_st1 (nm_st1 (wd_st1 (nm_st1 (wd_st1 g1)))))), nm_st (wd_st1 (nm_st1 (wd_st1 (nm_st1 (wd_st1 g1))))), wd_st (nm_st1 (wd_st1 (nm_st1 (wd_st1 g1)))), nm_st (wd_st1 (nm_st1 (wd_st1 g1))), wd_st (nm_st1 (wd_st1 g1)), nm_st (wd_st1 g1), wd_st g1]
    unfold tG1
    rw [fal_st (nm_st1 g), nm_st g]
  split
  · unfold tL tL1
    rw [nm_st (wd_st1 (tB_st1 g)), wd_st (tB_st1 g), tB_st g]
  split
  · unfold tS tS1
    rw [nm_st (wd_st1 (fal_st1 (nm_st1 g))), wd_st (fal_st1 (nm_st1 g)), fal_st (nm_st1 g), nm_st g]
  split
  · exact nm_st g
  split
  · exact tB_st g
  split
  · unfold tP tP3 tP2
    have g1 : ¬ (fal (tgP D.1 (cP b n s)) 2 (nm b n 0 11 s).1.2.1 (nm b n 0 11 (nm b n 0 11 s))).2.1 = 0 := fal_st1 (nm_st1 (nm_st1 g))
    rw [nm_st (wd_st1 (ng_st1 (wd_st1 g1))), wd_st (ng_st1 (wd_st1 g1)), ng_st (wd_st1 g1), wd_st g1, fal_st (nm_st1 (nm_st1 g)), nm_st (nm_st1 g), nm_st g]
  split
  · exact nm_st g
  split
  · unfold tH tH1
    rw [nm_st (wd_st1 (nm_st1 g)), wd_st (nm_st1 g), nm_st g]
  · rw [rl_st (wd_st1 g), wd_st g]
section
variable {z0 z y : Hp} {b : Nat → Nat} {n : Nat} {s t : Ps} {D E : Dt}
/-- the end of a line -/
theorem end_M (h : HM z0 z b n s D) : ∃ y, m_X12_readLine_B547 92 z = some ((), y) ∧ HM z0 y b n (sg b n 59 s) D := by
  have hM := h.M
  have fin : ∀ {x : Hp} {u : Ps}, HM z0 x b n u D → (u.2.1 = 0 → ad b n u = sg b n 59 s) → (¬ u.2.1 = 0 → u.2 = (sg b n 59 s).2) → ∃ y, m_X12_readLine_B561 92 x = some ((), y) ∧ HM z0 y b n (sg b n 59 s) D := fun {x u} hx e1 e2 => by
    unfold m_X12_readLine_B561
    rw [isC_eq (by rw [mk_92 hx.M])]
    by_cases c : u.2.1 = 0
    · obtain ⟨y, r, h1⟩ := m_ad hx c
      refine ⟨y, ?_, by rw [← e1 c]; exact h1⟩
      rw [good_t hx.1 c, bnd_some, if_neg (by decide), isC_eq (by rw [mk_92 hx.M]), r, bnd_some]
    · exact ⟨x, by rw [good_f hx.1 c, bnd_some, if_pos rfl], hx.bad c (e2 c).symm⟩
  unfold m_X12_readLine_B547
  rw [isC_eq (by rw [mk_92 hM]), show m_X12_isSign 92 59 z = _ from isS_M (c := 59) h.1 (by decide), bnd_some]
  by_cases c : s.2.1 = 0
  · rw [if_pos c]
    cases q : isS 59 s.1 with
    | true =>
      rw [if_neg bI_t]
      refine fin h (fun _ => ?_) (fun g => absurd c g)
      unfold sg
      rw [q]
      show ad b n s = ad b n (fal false 1 s.1.2.1 s)
      rw [fal_f]
    | false =>
      rw [if_pos bI_f, isC_eq (by rw [mk_92 hM])]
      obtain ⟨z1, r1, h1⟩ := m_wrong 1 (by decide) h
      rw [r1, bnd_some]
      have gb : ¬ (fal true 1 s.1.2.1 s).2.1 = 0 := by
        show ¬ (fl true 1 s.1.2.1 s.2).1 = 0
        rw [fl_t c]; exact (by decide : ¬ (1 : Int32) = 0)
      refine fin h1 (fun g => absurd g gb) (fun _ => ?_)
      unfold sg
      rw [q]
      rfl
  · rw [if_neg c, if_pos rfl, isC_eq (by rw [mk_92 hM])]
    obtain ⟨z1, r1, h1⟩ := m_wrong 1 (by decide) h
    rw [r1, bnd_some]
    refine fin h1 (fun g => absurd (fal_good (by decide) g).1 c) (fun _ => ?_)
    rw [fal_st c, sg_st c]
end
