/-! ===== the model's begins ===== -/
theorem heatNow_ok {z : Hp} (h : LayM z) : m_X12_heatNow 92 z = some (sm (fun c => if zI z 93 (480 + c) = 1 then 0 else zI z 93 (192 + c) - zI z 93 (336 + c)) 144, z) := by
  unfold m_X12_heatNow
  refine loopQ (X := Int32 × Int32) (fun f x => m_X12_heatNow_L4 f 92 x.1 x.2 z) (fun t => t = some (sm (fun c => if zI z 93 (480 + c) = 1 then 0 else zI z 93 (192 + c) - zI z 93 (336 + c)) 144, z)) (fun n x => x.2 = nI n ∧ x.1 = sm (fun c => if zI z 93 (480 + c) = 1 then 0 else zI z 93 (192 + c) - zI z 93 (336 + c)) n) 144 ?hs ?he 0 FU (0, 0) (by decide) (by decide) ⟨rfl, rfl⟩
  case hs =>
    rintro n f ⟨a, v⟩ hn ⟨h1, h2⟩
    dsimp only at h1 h2
    subst h1
    refine Or.inl ⟨(sm (fun c => if zI z 93 (480 + c) = 1 then 0 else zI z 93 (192 + c) - zI z 93 (336 + c)) (n + 1), nI (n + 1)), ⟨rfl, rfl⟩, ?_⟩
    dsimp only
    have g1 : ∀ {α : Type} (f : Nat → Option α), gR 12 1 z 92 f = f 93 := fun f => gR_eq (by rw [mk_92 h]) (mr_92_1 h)
    rw [m_X12_heatNow_L4, if_pos (lt_lit hn (by decide)), g1, lit_add, aI_n (mk_93 h) (by omega) (by decide)]
    by_cases c : zI z 93 (480 + n) = 1
    · rw [if_pos c]
      unfold m_X12_heatNow_B51
      rw [h2, nI_1]
      refine congrArg (fun q => m_X12_heatNow_L4 f 92 (sm _ n + q) (nI (n + 1)) z) ?_
      exact (if_pos c).symm
    · rw [if_neg c, g1, lit_add, aI_n (mk_93 h) (by omega) (by decide), g1, lit_add, aI_n (mk_93 h) (by omega) (by decide)]
      unfold m_X12_heatNow_B51
      rw [h2, nI_1]
      refine congrArg (fun q => m_X12_heatNow_L4 f 92 (sm _ n + q) (nI (n + 1)) z) ?_
      exact (if_neg c).symm
  case he =>
    rintro f ⟨a, v⟩ ⟨h1, h2⟩
    dsimp only at h1 h2 ⊢
    subst h1
    rw [m_X12_heatNow_L4, if_neg (nlt_lit (Nat.le_refl _) (by decide)), h2]
/-- the world behind begins -/
def beginW (W : Nat → Int32) (i : Nat) : Int32 :=
  if i = 18 then sm (fun _ => W 5) 144 else if 192 ≤ i ∧ i < 336 then W 5 else if 336 ≤ i ∧ i < 624 then 0 else if 790 ≤ i ∧ i < 810 ∧ i % 2 = 0 then -1 else if 732 ≤ i ∧ i < 750 ∧ i % 3 = 2 then -1 else W i
theorem begins_ok {z : Hp} (h : LayM z) : m_X12_begins 92 z = some ((), wI z 93 (beginW (zI z 93))) := by
  have g1 : ∀ {α : Type} (y : Hp) (f : Nat → Option α), zK y = zK z → zR y = zR z → gR 12 1 y 92 f = f 93 := fun y f e1 e2 => gR_eq (by rw [e1, mk_92 h]) (by rw [e2]; exact mr_92_1 h)
  have k3 : ∀ (y : Hp), zK y = zK z → zK y 93 = (1, 810) := fun y e => by rw [e]; exact mk_93 h
  unfold m_X12_begins
  refine loopQ (X := Int32 × Hp) (fun f x => m_X12_begins_L2 m_X12_begins_B53 f 92 x.1 x.2) (fun t => t = some ((), wI z 93 (beginW (zI z 93)))) (fun n x => x.1 = nI n ∧ x.2 = wI z 93 (fun i => if 192 ≤ i ∧ i < 192 + n then zI z 93 5 else if 336 ≤ i ∧ i < 336 + n then 0 else if 480 ≤ i ∧ i < 480 + n then 0 else zI z 93 i)) 144 ?hs ?he 0 FU (0, z) (by decide) (by decide) ⟨rfl, ?h0⟩
  case h0 =>
    refine (wI_self z 93).symm.trans (congrArg (wI z 93) (funext fun i => ?_))
    rw [if_neg (by omega), if_neg (by omega), if_neg (by omega)]
  case hs =>
    rintro n f ⟨v, y⟩ hn ⟨h1, h2⟩
    dsimp only at h1 h2
    subst h1
    refine Or.inl ⟨(nI (n + 1), wI z 93 (fun i => if 192 ≤ i ∧ i < 192 + (n + 1) then zI z 93 5 else if 336 ≤ i ∧ i < 336 + (n + 1) then 0 else if 480 ≤ i ∧ i < 480 + (n + 1) then 0 else zI z 93 i)), ⟨rfl, rfl⟩, ?_⟩
    dsimp only
    have ky : zK y = zK z := by rw [h2]; rfl
    have ry : zR y = zR z := by rw [h2]; rfl
    have e5 : (5 : Int32) = nI 5 := rfl
    have v5 : zI y 93 5 = zI z 93 5 := by rw [h2, zI_wI, if_pos rfl]; rfl
    rw [m_X12_begins_L2, if_pos (lt_lit hn (by decide)), g1 y _ ky ry, g1 y _ ky ry, e5, aI_n (k3 y ky) (by decide) (by decide), lit_add, sI_n (k3 y ky) (by omega) (by decide), g1 _ _ ky ry, lit_add, sI_n (n := 810) (k3 _ ky) (by omega) (by decide), g1 _ _ ky ry, lit_add, sI_n (n := 810) (k3 _ ky) (by omega) (by decide), nI_1, v5]
    refine congrArg (m_X12_begins_L2 m_X12_begins_B53 f 92 (nI (n + 1))) ?_
    simp only [zI_wI, if_true, wI_wI]
    rw [h2, wI_wI, zI_wI, if_pos rfl]
    refine congrArg (wI z 93) (funext fun i => ?_)
    simp only [ups_eq]
    by_cases c1 : i = 480 + n
    · subst c1
      rw [if_pos rfl, if_neg (by omega), if_neg (by omega), if_pos (by omega)]
    · by_cases c2 : i = 336 + n
      · subst c2
        rw [if_neg c1, if_pos rfl, if_neg (by omega), if_pos (by omega)]
      · by_cases c3 : i = 192 + n
        · subst c3
          rw [if_neg c1, if_neg c2, if_pos rfl, if_pos (by omega)]
        · rw [if_neg c1, if_neg c2, if_neg c3]
          by_cases d1 : 192 ≤ i ∧ i < 192 + n
          · rw [if_pos d1, if_pos (by omega)]
          · rw [if_neg d1, if_neg (show ¬ (192 ≤ i ∧ i < 192 + (n + 1)) by omega)]
            by_cases d2 : 336 ≤ i ∧ i < 336 + n
            · rw [if_pos d2, if_pos (by omega)]
            · rw [if_neg d2, if_neg (show ¬ (336 ≤ i ∧ i < 336 + (n + 1)) by omega)]
              by_cases d3 : 480 ≤ i ∧ i < 480 + n
              · rw [if_pos d3, if_pos (by omega)]
              · rw [if_neg d3, if_neg (show ¬ (480 ≤ i ∧ i < 480 + (n + 1)) by omega)]
  case he =>
    rintro f ⟨v, y⟩ ⟨h1, h2⟩
    dsimp only at h1 h2 ⊢
    subst h1
    rw [m_X12_begins_L2, if_neg (nlt_lit (Nat.le_refl _) (by decide))]
    unfold m_X12_begins_B53
    sorry
