/-! ===== text: a line of the model, whole ===== -/
/-- what the row keeps while it is told -/
def VM (D : Dt) : Prop := (∃ m, m ≤ 12 ∧ D.1 2 = nI m) ∧ (∃ m, m ≤ 6 ∧ D.1 3 = nI m) ∧ (∃ m, m ≤ 4 ∧ D.1 4 = nI m ∧ ∀ r, m ≤ r → r < 4 → D.1 (750 + 10 * r) = 0) ∧ (D.2.2.2.1 = 0 ∨ D.2.2.2.1 = 1) ∧ (D.2.2.2.2 = 0 ∨ D.2.2.2.2 = 1)
section
variable {z0 z y : Hp} {b : Nat → Nat} {n : Nat} {s t : Ps} {D E : Dt}
theorem tk_M (q : Nat) (h : HM z0 z b n s D) (c : s.2.1 = 0) (hq : q < 48) : ∃ y, m_X12_takes 92 q z = some (bI (isW b (txw q) s.1), y) ∧ HM z0 y b n (if isW b (txw q) s.1 = true then ad b n s else s) D := by
  obtain ⟨y, r, F, P⟩ := takes_M h.1 hq
  rw [if_pos c] at r
  refine ⟨y, r, h.fm F ?_ (fun _ => c)⟩
  cases q2 : isW b (txw q) s.1 with
  | true => rw [q2, if_pos ⟨c, rfl⟩] at P; exact P
  | false => rw [q2, if_neg (fun g => absurd g.2 (by decide))] at P; exact P
theorem a99 {α : Type} {w : Hp} (k : Nat) (Mw : LayM w) (hk : (OfNat.ofNat k : Nat) < 810) (g : Int32 → Option α) : aI 1 w 99 (OfNat.ofNat k) g = g (zI w 99 (OfNat.ofNat k)) := aI_n (k := k) (mk_99 Mw) hk (by decide)
theorem kn_M (h : HM z0 z b n s D) (c : s.2.1 = 0) : m_X12_readLine 92 z = m_X12_readLine_B94 92 (bI (decide (¬ lk b s.1 = 9))) z := by
  have hM := h.M
  have w : ∀ q j, q < 48 → j < 9 → txw q = txw (wq j) → m_X12_is 92 q z = some (bI (decide (lk b s.1 = j)), z) := fun q j hq hj e => by rw [is_M h.1 hq, if_pos c, e, lk_d j hj]
  have go : ∀ (j : Nat) (X : Option (Unit × Hp)), j < 9 → (¬ lk b s.1 = j → X = m_X12_readLine_B94 92 (bI (decide (¬ lk b s.1 = 9))) z) → (if bI (decide (lk b s.1 = j)) = 0 then X else m_X12_readLine_B89 92 z) = m_X12_readLine_B94 92 (bI (decide (¬ lk b s.1 = 9))) z := fun j X hj hX => by
    by_cases g : lk b s.1 = j
    · rw [decide_eq_true g, if_neg bI_t, decide_eq_true (show ¬ lk b s.1 = 9 by omega)]; rfl
    · rw [decide_eq_false g, if_pos bI_f, hX g]
  unfold m_X12_readLine
  rw [isC_eq (by rw [mk_92 hM]), w 24 0 (by decide) (by decide) rfl, bnd_some]
  refine go 0 _ (by decide) (fun g0 => ?_)
  rw [isC_eq (by rw [mk_92 hM]), w 25 1 (by decide) (by decide) rfl, bnd_some]
  refine go 1 _ (by decide) (fun g1 => ?_)
  rw [isC_eq (by rw [mk_92 hM]), w 26 2 (by decide) (by decide) rfl, bnd_some]
  refine go 2 _ (by decide) (fun g2 => ?_)
  rw [isC_eq (by rw [mk_92 hM]), w 27 3 (by decide) (by decide) rfl, bnd_some]
  refine go 3 _ (by decide) (fun g3 => ?_)
  rw [isC_eq (by rw [mk_92 hM]), w 28 4 (by decide) (by decide) rfl, bnd_some]
  refine go 4 _ (by decide) (fun g4 => ?_)
  rw [isC_eq (by rw [mk_92 hM]), w 29 5 (by decide) (by decide) rfl, bnd_some]
  refine go 5 _ (by decide) (fun g5 => ?_)
  rw [isC_eq (by rw [mk_92 hM]), w 30 6 (by decide) (by decide) rfl, bnd_some]
  refine go 6 _ (by decide) (fun g6 => ?_)
  rw [isC_eq (by rw [mk_92 hM]), w 31 7 (by decide) (by decide) rfl, bnd_some]
  refine go 7 _ (by decide) (fun g7 => ?_)
  rw [isC_eq (by rw [mk_92 hM]), w 32 8 (by decide) (by decide) rfl, bnd_some]
  refine go 8 _ (by decide) (fun g8 => ?_)
  have := lk_lt (b := b) (T := s.1)
  rw [decide_eq_false (show ¬ ¬ lk b s.1 = 9 by omega)]
  rfl
theorem fu_M (h : HM z0 z b n s D) (c : s.2.1 = 0) (v : VM D) (v1 : Int32) : m_X12_readLine_B94 92 v1 z = m_X12_readLine_B228 92 v1 (bI (lfull (lk b s.1) D)) z := by
  have hM := h.M
  obtain ⟨d1, d2, d3, d4, d5⟩ := h.2.2.2 c
  have w : ∀ q j, q < 48 → j < 9 → txw q = txw (wq j) → m_X12_is 92 q z = some (bI (decide (lk b s.1 = j)), z) := fun q j hq hj e => by rw [is_M h.1 hq, if_pos c, e, lk_d j hj]
  unfold m_X12_readLine_B94
  rw [gR_eq (by rw [mk_92 hM]) (mr_92_15 hM), a99 0 hM (by decide), d1]
  unfold lfull
  by_cases c0 : D.1 0 = 40
  · rw [if_pos c0, decide_eq_true c0, Bool.true_or]; rfl
  · rw [if_neg c0, decide_eq_false c0, Bool.false_or]
    have go : ∀ (j : Nat) (X Y : Option (Unit × Hp)), (lk b s.1 = j → Y = m_X12_readLine_B228 92 v1 (bI (fx (lk b s.1) D)) z) → (¬ lk b s.1 = j → X = m_X12_readLine_B228 92 v1 (bI (fx (lk b s.1) D)) z) → (if bI (decide (lk b s.1 = j)) = 0 then X else Y) = m_X12_readLine_B228 92 v1 (bI (fx (lk b s.1) D)) z := fun j X Y hY hX => by
      by_cases g : lk b s.1 = j
      · rw [decide_eq_true g, if_neg bI_t, hY g]
      · rw [decide_eq_false g, if_pos bI_f, hX g]
    have tl : ∀ (j : Nat), (∀ i, i = 3 ∨ i = 4 ∨ i = 6 ∨ i = 7 ∨ i = 8 → i ≠ j → True) → True := fun _ _ => trivial
    -- all that lies behind the last check
    have p206 : ¬ lk b s.1 = 5 → ¬ lk b s.1 = 7 → ¬ lk b s.1 = 8 → ¬ lk b s.1 = 3 → ¬ lk b s.1 = 4 → m_X12_readLine_B206 92 v1 z = m_X12_readLine_B228 92 v1 (bI (fx (lk b s.1) D)) z := fun g5 g7 g8 g3 g4 => by
      unfold m_X12_readLine_B206
      rw [isC_eq (by rw [mk_92 hM]), w 30 6 (by decide) (by decide) rfl, bnd_some]
      refine go 6 _ _ (fun g => ?_) (fun g => ?_)
      · rw [g, show fx 6 D = decide (D.2.2.2.2 = 1) from rfl, gI_eq (by rw [mk_92 hM]), d5]
        rcases v.2.2.2.2 with q | q <;> rw [q] <;> rfl
      · have : fx (lk b s.1) D = false := by unfold fx; rw [if_neg g3, if_neg g4, if_neg g5, if_neg g, if_neg g7, if_neg g8]
        rw [this]; rfl
    have p185 : ¬ lk b s.1 = 5 → ¬ lk b s.1 = 7 → ¬ lk b s.1 = 8 → ¬ lk b s.1 = 3 → m_X12_readLine_B185 92 v1 z = m_X12_readLine_B228 92 v1 (bI (fx (lk b s.1) D)) z := fun g5 g7 g8 g3 => by
      unfold m_X12_readLine_B185
      rw [isC_eq (by rw [mk_92 hM]), w 28 4 (by decide) (by decide) rfl, bnd_some]
      refine go 4 _ _ (fun g => ?_) (fun g => p206 g5 g7 g8 g3 g)
      rw [gR_eq (by rw [mk_92 hM]) (mr_92_15 hM), a99 7 hM (by decide), d1]
      by_cases q : D.1 7 = 1
      · rw [if_pos q, g, show fx 4 D = decide (D.1 7 = 1) from rfl, decide_eq_true q]; rfl
      · rw [if_neg q]
        unfold m_X12_readLine_B206
        rw [isC_eq (by rw [mk_92 hM]), w 30 6 (by decide) (by decide) rfl, bnd_some, g, show fx 4 D = decide (D.1 7 = 1) from rfl, decide_eq_false q]; rfl
    have p168 : ¬ lk b s.1 = 5 → ¬ lk b s.1 = 7 → ¬ lk b s.1 = 8 → m_X12_readLine_B168 92 v1 z = m_X12_readLine_B228 92 v1 (bI (fx (lk b s.1) D)) z := fun g5 g7 g8 => by
      unfold m_X12_readLine_B168
      rw [isC_eq (by rw [mk_92 hM]), w 27 3 (by decide) (by decide) rfl, bnd_some]
      refine go 3 _ _ (fun g => ?_) (fun g => p185 g5 g7 g8 g)
      rw [gI_eq (by rw [mk_92 hM]), d4]
      rcases v.2.2.2.1 with q | q
      · rw [q, if_pos rfl]
        unfold m_X12_readLine_B185 m_X12_readLine_B206
        rw [isC_eq (by rw [mk_92 hM]), w 28 4 (by decide) (by decide) rfl, bnd_some, g, if_pos (by decide), isC_eq (by rw [mk_92 hM]), w 30 6 (by decide) (by decide) rfl, bnd_some, g, show fx 3 D = decide (D.2.2.2.1 = 1) from rfl, q]; rfl
      · rw [q, if_neg (by decide), g, show fx 3 D = decide (D.2.2.2.1 = 1) from rfl, q]; rfl
    have p148 : ¬ lk b s.1 = 5 → ¬ lk b s.1 = 7 → m_X12_readLine_B148 92 v1 z = m_X12_readLine_B228 92 v1 (bI (fx (lk b s.1) D)) z := fun g5 g7 => by
      unfold m_X12_readLine_B148
      rw [isC_eq (by rw [mk_92 hM]), w 32 8 (by decide) (by decide) rfl, bnd_some]
      refine go 8 _ _ (fun g => ?_) (fun g => p168 g5 g7 g)
      rw [gR_eq (by rw [mk_92 hM]) (mr_92_15 hM), a99 4 hM (by decide), d1]
      by_cases q : D.1 4 = 4
      · rw [if_pos q, g, show fx 8 D = decide (D.1 4 = 4) from rfl, decide_eq_true q]; rfl
      · rw [if_neg q]
        unfold m_X12_readLine_B168 m_X12_readLine_B185 m_X12_readLine_B206
        rw [isC_eq (by rw [mk_92 hM]), w 27 3 (by decide) (by decide) rfl, bnd_some, g, if_pos (by decide), isC_eq (by rw [mk_92 hM]), w 28 4 (by decide) (by decide) rfl, bnd_some, g, if_pos (by decide), isC_eq (by rw [mk_92 hM]), w 30 6 (by decide) (by decide) rfl, bnd_some, g, show fx 8 D = decide (D.1 4 = 4) from rfl, decide_eq_false q]; rfl
    have p127 : ¬ lk b s.1 = 5 → m_X12_readLine_B127 92 v1 z = m_X12_readLine_B228 92 v1 (bI (fx (lk b s.1) D)) z := fun g5 => by
      unfold m_X12_readLine_B127
      rw [isC_eq (by rw [mk_92 hM]), w 31 7 (by decide) (by decide) rfl, bnd_some]
      refine go 7 _ _ (fun g => ?_) (fun g => p148 g5 g)
      rw [gR_eq (by rw [mk_92 hM]) (mr_92_15 hM), a99 3 hM (by decide), d1]
      by_cases q : D.1 3 = 6
      · rw [if_pos q, g, show fx 7 D = decide (D.1 3 = 6) from rfl, decide_eq_true q]; rfl
      · rw [if_neg q]
        unfold m_X12_readLine_B148 m_X12_readLine_B168 m_X12_readLine_B185 m_X12_readLine_B206
        rw [isC_eq (by rw [mk_92 hM]), w 32 8 (by decide) (by decide) rfl, bnd_some, g, if_pos (by decide), isC_eq (by rw [mk_92 hM]), w 27 3 (by decide) (by decide) rfl, bnd_some, g, if_pos (by decide), isC_eq (by rw [mk_92 hM]), w 28 4 (by decide) (by decide) rfl, bnd_some, g, if_pos (by decide), isC_eq (by rw [mk_92 hM]), w 30 6 (by decide) (by decide) rfl, bnd_some, g, show fx 7 D = decide (D.1 3 = 6) from rfl, decide_eq_false q]; rfl
    rw [isC_eq (by rw [mk_92 hM]), w 29 5 (by decide) (by decide) rfl, bnd_some]
    refine go 5 _ _ (fun g => ?_) (fun g => p127 g)
    rw [gR_eq (by rw [mk_92 hM]) (mr_92_15 hM), a99 2 hM (by decide), d1]
    by_cases q : D.1 2 = 12
    · rw [if_pos q, g, show fx 5 D = decide (D.1 2 = 12) from rfl, decide_eq_true q]; rfl
    · rw [if_neg q]
      unfold m_X12_readLine_B127 m_X12_readLine_B148 m_X12_readLine_B168 m_X12_readLine_B185 m_X12_readLine_B206
      rw [isC_eq (by rw [mk_92 hM]), w 31 7 (by decide) (by decide) rfl, bnd_some, g, if_pos (by decide), isC_eq (by rw [mk_92 hM]), w 32 8 (by decide) (by decide) rfl, bnd_some, g, if_pos (by decide), isC_eq (by rw [mk_92 hM]), w 27 3 (by decide) (by decide) rfl, bnd_some, g, if_pos (by decide), isC_eq (by rw [mk_92 hM]), w 28 4 (by decide) (by decide) rfl, bnd_some, g, if_pos (by decide), isC_eq (by rw [mk_92 hM]), w 30 6 (by decide) (by decide) rfl, bnd_some, g, show fx 5 D = decide (D.1 2 = 12) from rfl, decide_eq_false q]; rfl
end
