theorem Fr.up {x y : Hp} {p q p2 q2 : Nat} (h : Fr (fun a => a = 0 ∨ (p ≤ a ∧ a < q)) x y) (hp : p2 ≤ p) (hq : q ≤ q2) : Fr (fun a => a = 0 ∨ (p2 ≤ a ∧ a < q2)) x y := h.mono (fun a h => by
  rcases h with h | h
  · exact Or.inl h
  · exact Or.inr ⟨by omega, by omega⟩)
theorem LayS.fr {P : Nat → Prop} {z y : Hp} {s : Nat} (h : LayS z s) (hf : Fr P z y) (hP : ∀ j, j < 32 → ¬ P (s + j)) : LayS y s := by
  refine ⟨fun j q hj => ?_, fun q hq => ?_⟩
  · have hl : j < 32 := by
      have := (List.getElem?_eq_some_iff.mp hj).1
      exact this
    rw [(hf _ (hP j hl)).1]
    exact h.1 j q hj
  · have hl : q.1 < 32 := by
      have : ∀ q ∈ srT, q.1 < 32 := by decide
      exact this q hq
    rw [(hf _ (hP _ hl)).2.2.2]
    exact h.2 q hq
theorem LayS.wr0 {z : Hp} {s : Nat} {f : Nat → Option Nat} (h : LayS z s) (hs : 0 < s) : LayS (wR z 0 f) s := by
  refine ⟨h.1, fun q hq => ?_⟩
  rw [zR_wR, if_neg (by omega)]
  exact h.2 q hq
/-- what new FrostRing() leaves: 'now' at 1, 'draft' at 33 -/
theorem start_C : ∃ y, (nwC (11 + 7) 0 z0 fun a z => bnd (m_X11_init a z) fun _ z => some (a, z)) = some (0, y) ∧ zN y = 92 ∧ LayC y ∧ LayS y 1 ∧ LayS y 33 ∧
    (zR y 0 0 = some 1 ∧ zR y 0 1 = some 33 ∧ zR y 74 3 = some 78 ∧ zR y 74 4 = some 79 ∧ zR y 68 2 = some 33 ∧ ∀ k, zR y 65 k = none) ∧
    (zI y 0 9 = 0 ∧ zI y 0 10 = 0 ∧ zI y 0 11 = 0 ∧ zI y 0 12 = -1 ∧ zI y 66 1 = 0 ∧ (∀ i, i < 4 → zI y 90 i = -1) ∧ (∀ i, i < 4 → zL y (85 + i) = fun _ => 0) ∧
      ∃ x, ((∀ g, g < 4 → zI x (1 + 2) g = 10 ∧ zI x (1 + 3) g = 15 ∧ zI x (1 + 4) g = 100 ∧ zI x (1 + 5) g = 0) ∧ (∀ c, c < 144 → zI x (1 + 6) c = 0 ∧ zI x (1 + 30) c = 0) ∧ (∀ c, c < 12 → zI x (1 + 7) c = -1) ∧
        zI x (1 + 1) 6 = 100 ∧ zI x (1 + 8) 6 = 0 ∧ zI x (1 + 15) 3 = 0 ∧ zI x (1 + 19) 4 = 0 ∧ zI x 1 10 = 0 ∧ zI x 1 12 = 99999 ∧ zI x 1 13 = 0) ∧
      Fi (fun a => a = 1 ∨ a = 1 + 25 ∨ a = 1 + 27 ∨ a = 1 + 28 ∨ a = 1 + 29 ∨ a = 1 + 31) x y ∧
      ((∀ c, c < 144 → zI y (1 + 27) c = zI x (1 + 1) 6 ∧ zI y (1 + 28) c = 0 ∧ zI y (1 + 29) c = 0) ∧ (∀ c, c < 10 → zI y (1 + 25) c = -1) ∧ (∀ c, c < 5 → zI y (1 + 31) c = 0) ∧ zI y (1 + 31) 5 = 144 * zI x (1 + 1) 6 ∧
        zI y 1 11 = 0 ∧ zI y 1 14 = 0 ∧ zI y 1 15 = 0 ∧ zI y 1 16 = 0 ∧ zI y 1 10 = zI x 1 10 ∧ zI y 1 12 = zI x 1 12 ∧ zI y 1 13 = zI x 1 13)) := by
  obtain ⟨w0, hw0⟩ : ∃ w, w = zNew z0 18 0 := ⟨_, rfl⟩
  have hN0 : zN w0 = 1 := by rw [hw0]; rfl
  have hk0 : zK w0 0 = (18, 0) := by rw [hw0]; rfl
  have hI0 : zI w0 0 = fun _ => 0 := by rw [hw0]; rfl
  obtain ⟨y1, e1, n1, f1, g1⟩ := init_X8 (z := zNew w0 15 0) (s := 1) (by rw [zN_new, hN0]) (by rw [zK_new, hN0]; exact if_pos rfl)
  have q1 : zK y1 0 = (18, 0) := by rw [(f1 0 (by omega)).1, zK_new, hN0, if_neg (by decide)]; exact hk0
  obtain ⟨w1, hw1⟩ : ∃ w, w = wR y1 0 (ups (zR y1 0) 0 (some 1)) := ⟨_, rfl⟩
  have hN1 : zN w1 = 33 := by rw [hw1]; exact n1
  have hk1 : zK w1 0 = (18, 0) := by rw [hw1]; exact q1
  have hc1 : Fr (fun a => a = 0 ∨ (1 ≤ a ∧ a < 33)) w0 w1 := by rw [hw1]; exact ((Fr.new (by rw [hN0]; exact Or.inr ⟨by decide, by decide⟩)).trans (f1.mono (fun a h => Or.inr h))).trans (Fr.wR (Or.inl rfl))
  have r1 : zR w1 0 = ups (zR w0 0) 0 (some 1) := by rw [hw1, zR_wR, if_pos rfl, (f1 0 (by omega)).2.2.2, zR_new, hN0, if_neg (by decide)]
  obtain ⟨y2, e2, n2, f2, g2⟩ := init_X8 (z := zNew w1 15 0) (s := 33) (by rw [zN_new, hN1]) (by rw [zK_new, hN1]; exact if_pos rfl)
  have q2 : zK y2 0 = (18, 0) := by rw [(f2 0 (by omega)).1, zK_new, hN1, if_neg (by decide)]; exact hk1
  obtain ⟨w2, hw2⟩ : ∃ w, w = wR y2 0 (ups (zR y2 0) 1 (some 33)) := ⟨_, rfl⟩
  have hN2 : zN w2 = 65 := by rw [hw2]; exact n2
  have hk2 : zK w2 0 = (18, 0) := by rw [hw2]; exact q2
  have hc2 : Fr (fun a => a = 0 ∨ (33 ≤ a ∧ a < 65)) w1 w2 := by rw [hw2]; exact ((Fr.new (by rw [hN1]; exact Or.inr ⟨by decide, by decide⟩)).trans (f2.mono (fun a h => Or.inr h))).trans (Fr.wR (Or.inl rfl))
  have r2 : zR w2 0 = ups (zR w1 0) 1 (some 33) := by rw [hw2, zR_wR, if_pos rfl, (f2 0 (by omega)).2.2.2, zR_new, hN1, if_neg (by decide)]
  have q3 : zK (zNew w2 5 3) 0 = (18, 0) := by rw [zK_new, hN2, if_neg (by decide)]; exact hk2
  obtain ⟨w3, hw3⟩ : ∃ w, w = wR (zNew w2 5 3) 0 (ups (zR (zNew w2 5 3) 0) 2 (some 65)) := ⟨_, rfl⟩
  have hN3 : zN w3 = 66 := by rw [hw3]; show zN w2 + 1 = _; rw [hN2]
  have hk3 : zK w3 0 = (18, 0) := by rw [hw3]; exact q3
  have g3 : zK w3 65 = (5, 3) := by rw [hw3, zK_wR, zK_new, hN2]; exact if_pos rfl
  have gr3 : zR w3 65 = fun _ => none := by rw [hw3, zR_wR, if_neg (by decide), zR_new, hN2]; exact if_pos rfl
  have hc3 : Fr (fun a => a = 0 ∨ (65 ≤ a ∧ a < 66)) w2 w3 := by rw [hw3]; exact (Fr.new (by rw [hN2]; exact Or.inr ⟨by decide, by decide⟩)).trans (Fr.wR (Or.inl rfl))
  have r3 : zR w3 0 = ups (zR w2 0) 2 (some 65) := by rw [hw3, zR_wR, if_pos rfl, zR_new, hN2, if_neg (by decide)]
  obtain ⟨y4, e4, n4, f4, g4⟩ := init_X4 (z := zNew w3 11 0) (n := 66) (by rw [zN_new, hN3]) (by rw [zK_new, hN3]; exact if_pos rfl)
  have q4 : zK y4 0 = (18, 0) := by rw [(f4 0 (by omega)).1, zK_new, hN3, if_neg (by decide)]; exact hk3
  obtain ⟨w4, hw4⟩ : ∃ w, w = wR y4 0 (ups (zR y4 0) 3 (some 66)) := ⟨_, rfl⟩
  have hN4 : zN w4 = 68 := by rw [hw4]; exact n4
  have hk4 : zK w4 0 = (18, 0) := by rw [hw4]; exact q4
  have hc4 : Fr (fun a => a = 0 ∨ (66 ≤ a ∧ a < 68)) w3 w4 := by rw [hw4]; exact ((Fr.new (by rw [hN3]; exact Or.inr ⟨by decide, by decide⟩)).trans (f4.mono (fun a h => Or.inr h))).trans (Fr.wR (Or.inl rfl))
  have r4 : zR w4 0 = ups (zR w3 0) 3 (some 66) := by rw [hw4, zR_wR, if_pos rfl, (f4 0 (by omega)).2.2.2, zR_new, hN3, if_neg (by decide)]
  obtain ⟨y5, e5, n5, f5, g5⟩ := init_X2 (z := zNew w4 9 0) (n := 68) 66 33 (by rw [zN_new, hN4]) (by rw [zK_new, hN4]; exact if_pos rfl)
  have q5 : zK y5 0 = (18, 0) := by rw [(f5 0 (by omega)).1, zK_new, hN4, if_neg (by decide)]; exact hk4
  obtain ⟨w5, hw5⟩ : ∃ w, w = wR y5 0 (ups (zR y5 0) 4 (some 68)) := ⟨_, rfl⟩
  have hN5 : zN w5 = 70 := by rw [hw5]; exact n5
  have hk5 : zK w5 0 = (18, 0) := by rw [hw5]; exact q5
  have hc5 : Fr (fun a => a = 0 ∨ (68 ≤ a ∧ a < 70)) w4 w5 := by rw [hw5]; exact ((Fr.new (by rw [hN4]; exact Or.inr ⟨by decide, by decide⟩)).trans (f5.mono (fun a h => Or.inr h))).trans (Fr.wR (Or.inl rfl))
  have r5 : zR w5 0 = ups (zR w4 0) 4 (some 68) := by rw [hw5, zR_wR, if_pos rfl, (f5 0 (by omega)).2.2.2, zR_new, hN4, if_neg (by decide)]
  obtain ⟨y6, e6, n6, f6, g6⟩ := init_X9 (z := zNew w5 16 0) (n := 70) (by rw [zN_new, hN5]) (by rw [zK_new, hN5]; exact if_pos rfl)
  have q6 : zK y6 0 = (18, 0) := by rw [(f6 0 (by omega)).1, zK_new, hN5, if_neg (by decide)]; exact hk5
  obtain ⟨w6, hw6⟩ : ∃ w, w = wR y6 0 (ups (zR y6 0) 5 (some 70)) := ⟨_, rfl⟩
  have hN6 : zN w6 = 74 := by rw [hw6]; exact n6
  have hk6 : zK w6 0 = (18, 0) := by rw [hw6]; exact q6
  have hc6 : Fr (fun a => a = 0 ∨ (70 ≤ a ∧ a < 74)) w5 w6 := by rw [hw6]; exact ((Fr.new (by rw [hN5]; exact Or.inr ⟨by decide, by decide⟩)).trans (f6.mono (fun a h => Or.inr h))).trans (Fr.wR (Or.inl rfl))
  have r6 : zR w6 0 = ups (zR w5 0) 5 (some 70) := by rw [hw6, zR_wR, if_pos rfl, (f6 0 (by omega)).2.2.2, zR_new, hN5, if_neg (by decide)]
  obtain ⟨y7, e7, n7, f7, g7⟩ := init_X10 (z := zNew w6 17 0) (n := 74) (by rw [zN_new, hN6]) (by rw [zK_new, hN6]; exact if_pos rfl)
  have q7 : zK y7 0 = (18, 0) := by rw [(f7 0 (by omega)).1, zK_new, hN6, if_neg (by decide)]; exact hk6
  obtain ⟨w7, hw7⟩ : ∃ w, w = wR y7 0 (ups (zR y7 0) 6 (some 74)) := ⟨_, rfl⟩
  have hN7 : zN w7 = 83 := by rw [hw7]; exact n7
  have hk7 : zK w7 0 = (18, 0) := by rw [hw7]; exact q7
  have hc7 : Fr (fun a => a = 0 ∨ (74 ≤ a ∧ a < 83)) w6 w7 := by rw [hw7]; exact ((Fr.new (by rw [hN6]; exact Or.inr ⟨by decide, by decide⟩)).trans (f7.mono (fun a h => Or.inr h))).trans (Fr.wR (Or.inl rfl))
  have r7 : zR w7 0 = ups (zR w6 0) 6 (some 74) := by rw [hw7, zR_wR, if_pos rfl, (f7 0 (by omega)).2.2.2, zR_new, hN6, if_neg (by decide)]
  obtain ⟨y8, e8, n8, f8, g8⟩ := init_X6 (z := zNew w7 13 0) (n := 83) (by rw [zN_new, hN7]) (by rw [zK_new, hN7]; exact if_pos rfl)
  have q8 : zK y8 0 = (18, 0) := by rw [(f8 0 (by omega)).1, zK_new, hN7, if_neg (by decide)]; exact hk7
  obtain ⟨w8, hw8⟩ : ∃ w, w = wR y8 0 (ups (zR y8 0) 7 (some 83)) := ⟨_, rfl⟩
  have hN8 : zN w8 = 91 := by rw [hw8]; exact n8
  have hk8 : zK w8 0 = (18, 0) := by rw [hw8]; exact q8
  have hc8 : Fr (fun a => a = 0 ∨ (83 ≤ a ∧ a < 91)) w7 w8 := by rw [hw8]; exact ((Fr.new (by rw [hN7]; exact Or.inr ⟨by decide, by decide⟩)).trans (f8.mono (fun a h => Or.inr h))).trans (Fr.wR (Or.inl rfl))
  have r8 : zR w8 0 = ups (zR w7 0) 7 (some 83) := by rw [hw8, zR_wR, if_pos rfl, (f8 0 (by omega)).2.2.2, zR_new, hN7, if_neg (by decide)]
  have q9 : zK (zNew w8 1 144) 0 = (18, 0) := by rw [zK_new, hN8, if_neg (by decide)]; exact hk8
  obtain ⟨w9, hw9⟩ : ∃ w, w = wR (zNew w8 1 144) 0 (ups (zR (zNew w8 1 144) 0) 8 (some 91)) := ⟨_, rfl⟩
  have hN9 : zN w9 = 92 := by rw [hw9]; show zN w8 + 1 = _; rw [hN8]
  have hk9 : zK w9 0 = (18, 0) := by rw [hw9]; exact q9
  have g9 : zK w9 91 = (1, 144) := by rw [hw9, zK_wR, zK_new, hN8]; exact if_pos rfl
  have gr9 : zR w9 91 = fun _ => none := by rw [hw9, zR_wR, if_neg (by decide), zR_new, hN8]; exact if_pos rfl
  have hc9 : Fr (fun a => a = 0 ∨ (91 ≤ a ∧ a < 92)) w8 w9 := by rw [hw9]; exact (Fr.new (by rw [hN8]; exact Or.inr ⟨by decide, by decide⟩)).trans (Fr.wR (Or.inl rfl))
  have r9 : zR w9 0 = ups (zR w8 0) 8 (some 91) := by rw [hw9, zR_wR, if_pos rfl, zR_new, hN8, if_neg (by decide)]
  obtain ⟨u1, hu1⟩ : ∃ u, u = wI w9 0 (ups (zI w9 0) 9 0) := ⟨_, rfl⟩
  have ku1 : zK u1 0 = (18, 0) := by rw [hu1]; exact hk9
  obtain ⟨u2, hu2⟩ : ∃ u, u = wI u1 0 (ups (zI u1 0) 10 0) := ⟨_, rfl⟩
  have ku2 : zK u2 0 = (18, 0) := by rw [hu2]; exact ku1
  obtain ⟨u3, hu3⟩ : ∃ u, u = wI u2 0 (ups (zI u2 0) 11 0) := ⟨_, rfl⟩
  have ku3 : zK u3 0 = (18, 0) := by rw [hu3]; exact ku2
  obtain ⟨u4, hu4⟩ : ∃ u, u = wI u3 0 (ups (zI u3 0) 12 (-1)) := ⟨_, rfl⟩
  have ku4 : zK u4 0 = (18, 0) := by rw [hu4]; exact ku3
  have fu : Fi (fun a => a = 0) w9 u4 := by rw [hu4, hu3, hu2, hu1]; exact Fi.trans (Fi.trans (Fi.trans (Fi.w (P := fun a => a = 0) rfl) (Fi.w (P := fun a => a = 0) rfl)) (Fi.w (P := fun a => a = 0) rfl)) (Fi.w (P := fun a => a = 0) rfl)
  have iu : zI u4 0 9 = 0 ∧ zI u4 0 10 = 0 ∧ zI u4 0 11 = 0 ∧ zI u4 0 12 = -1 := by rw [hu4, hu3, hu2, hu1]; simp [zI_wI, ups_eq]
  have D8 : Fr (fun a => a = 0 ∨ (91 ≤ a ∧ a < 92)) w8 w9 := hc9
  have D7 : Fr (fun a => a = 0 ∨ (83 ≤ a ∧ a < 92)) w7 w9 := Fr.trans (Fr.up hc8 (by decide) (by decide)) (Fr.up D8 (by decide) (by decide))
  have D6 : Fr (fun a => a = 0 ∨ (74 ≤ a ∧ a < 92)) w6 w9 := Fr.trans (Fr.up hc7 (by decide) (by decide)) (Fr.up D7 (by decide) (by decide))
  have D5 : Fr (fun a => a = 0 ∨ (70 ≤ a ∧ a < 92)) w5 w9 := Fr.trans (Fr.up hc6 (by decide) (by decide)) (Fr.up D6 (by decide) (by decide))
  have D4 : Fr (fun a => a = 0 ∨ (68 ≤ a ∧ a < 92)) w4 w9 := Fr.trans (Fr.up hc5 (by decide) (by decide)) (Fr.up D5 (by decide) (by decide))
  have D3 : Fr (fun a => a = 0 ∨ (66 ≤ a ∧ a < 92)) w3 w9 := Fr.trans (Fr.up hc4 (by decide) (by decide)) (Fr.up D4 (by decide) (by decide))
  have D2 : Fr (fun a => a = 0 ∨ (65 ≤ a ∧ a < 92)) w2 w9 := Fr.trans (Fr.up hc3 (by decide) (by decide)) (Fr.up D3 (by decide) (by decide))
  have D1 : Fr (fun a => a = 0 ∨ (33 ≤ a ∧ a < 92)) w1 w9 := Fr.trans (Fr.up hc2 (by decide) (by decide)) (Fr.up D2 (by decide) (by decide))
  have L1 : LayS u4 1 := LayS.of (LayS.fr (z := w1) (by rw [hw1]; exact LayS.wr0 g1 (by decide)) D1 (fun j hj => by omega)) fu.2.1 fu.2.2.2.1
  have L33 : LayS u4 33 := LayS.of (LayS.fr (z := w2) (by rw [hw2]; exact LayS.wr0 g2 (by decide)) D2 (fun j hj => by omega)) fu.2.1 fu.2.2.2.1
  obtain ⟨v1, ev1, fv1, gv1⟩ := forget_ok L1
  obtain ⟨v2, ev2, fv2, gv2⟩ := begin_ok (L1.fi fv1)
  have hR0 : zR u4 0 = zR w9 0 := by rw [fu.2.2.2.1]
  have hn0 : zR u4 0 0 = some 1 := by rw [hR0, r9, r8, r7, r6, r5, r4, r3, r2, r1]; rfl
  have b1 : zR v1 0 0 = some 1 := by rw [fv1.2.2.2.1]; exact hn0
  have K2 : zK v2 = zK w9 := by rw [fv2.2.1, fv1.2.1, fu.2.1]
  have R2 : zR v2 = zR w9 := by rw [fv2.2.2.2.1, fv1.2.2.2.1, fu.2.2.2.1]
  refine ⟨v2, ?h1, ?h2, ?h3, ?h4, ?h5, ?h6, ?h7⟩
  case h1 =>
    rw [nwC_eq, ← hw0]
    show bnd (m_X11_init 0 w0) _ = _
    rw [m_X11_init]
    simp only [nwC_eq, hN0]
    rw [e1, bnd_some, pR_eq (by rw [q1]), ← hw1]
    simp only [nwC_eq, hN1]
    rw [e2, bnd_some, pR_eq (by rw [q2]), ← hw2]
    simp only [nwC_eq, hN2]
    rw [pR_eq (by rw [q3]), ← hw3]
    simp only [nwC_eq, hN3]
    rw [e4, bnd_some, pR_eq (by rw [q4]), ← hw4]
    simp only [nwC_eq, hN4]
    rw [gR_eq (b := 66) (by rw [zK_new, hN4, if_neg (by decide), hk4]) (by rw [zR_new, hN4, if_neg (by decide), r4, r3, r2, r1]; rfl), gR_eq (b := 33) (by rw [zK_new, hN4, if_neg (by decide), hk4]) (by rw [zR_new, hN4, if_neg (by decide), r4, r3, r2, r1]; rfl)]
    rw [e5, bnd_some, pR_eq (by rw [q5]), ← hw5]
    simp only [nwC_eq, hN5]
    rw [e6, bnd_some, pR_eq (by rw [q6]), ← hw6]
    simp only [nwC_eq, hN6]
    rw [e7, bnd_some, pR_eq (by rw [q7]), ← hw7]
    simp only [nwC_eq, hN7]
    rw [e8, bnd_some, pR_eq (by rw [q8]), ← hw8]
    simp only [nwC_eq, hN8]
    rw [pR_eq (by rw [q9]), ← hw9]
    rw [pI_eq (by rw [hk9]), ← hu1]
    rw [pI_eq (by rw [ku1]), ← hu2]
    rw [pI_eq (by rw [ku2]), ← hu3]
    rw [pI_eq (by rw [ku3]), ← hu4]
    rw [gR_eq (b := 1) (by rw [ku4]) hn0, isC_eq (by rw [sk_0 L1]), ev1, bnd_some, gR_eq (b := 1) (by rw [fv1.2.1, ku4]) b1, isC_eq (by rw [sk_0 (L1.fi fv1)]), ev2, bnd_some]
    rfl
  case h2 => rw [fv2.1, fv1.1, fu.1]; exact hN9
  case h3 =>
    refine ⟨fun q hq => ?_, fun q hq => ?_⟩
    · rw [K2]
      simp only [aKT, List.mem_cons, List.not_mem_nil, or_false] at hq
      rcases hq with rfl | rfl | rfl | rfl | rfl | rfl | rfl | rfl | rfl | rfl | rfl | rfl | rfl | rfl | rfl | rfl | rfl | rfl | rfl | rfl | rfl | rfl | rfl | rfl | rfl | rfl | rfl | rfl
      · exact hk9
      · show zK w9 65 = _; rw [(D3 65 (by omega)).1]; exact g3
      · show zK w9 66 = _; rw [(D4 66 (by omega)).1]; rw [hw4]; exact g4.1
      · show zK w9 67 = _; rw [(D4 67 (by omega)).1]; rw [hw4]; exact g4.2.1
      · show zK w9 68 = _; rw [(D5 68 (by omega)).1]; rw [hw5]; exact g5.1
      · show zK w9 69 = _; rw [(D5 69 (by omega)).1]; rw [hw5]; exact g5.2.1
      · show zK w9 70 = _; rw [(D6 70 (by omega)).1]; rw [hw6]; exact g6.1
      · show zK w9 71 = _; rw [(D6 71 (by omega)).1]; rw [hw6]; exact g6.2.1
      · show zK w9 72 = _; rw [(D6 72 (by omega)).1]; rw [hw6]; exact g6.2.2.1
      · show zK w9 73 = _; rw [(D6 73 (by omega)).1]; rw [hw6]; exact g6.2.2.2.1
      · show zK w9 74 = _; rw [(D7 74 (by omega)).1]; rw [hw7]; exact g7.1
      · show zK w9 75 = _; rw [(D7 75 (by omega)).1]; rw [hw7]; exact g7.2.1
      · show zK w9 76 = _; rw [(D7 76 (by omega)).1]; rw [hw7]; exact g7.2.2.1
      · show zK w9 77 = _; rw [(D7 77 (by omega)).1]; rw [hw7]; exact g7.2.2.2.1
      · show zK w9 78 = _; rw [(D7 78 (by omega)).1]; rw [hw7]; exact g7.2.2.2.2.1
      · show zK w9 79 = _; rw [(D7 79 (by omega)).1]; rw [hw7]; exact g7.2.2.2.2.2.1
      · show zK w9 80 = _; rw [(D7 80 (by omega)).1]; rw [hw7]; exact g7.2.2.2.2.2.2.1
      · show zK w9 81 = _; rw [(D7 81 (by omega)).1]; rw [hw7]; exact g7.2.2.2.2.2.2.2.1
      · show zK w9 82 = _; rw [(D7 82 (by omega)).1]; rw [hw7]; exact g7.2.2.2.2.2.2.2.2.1
      · show zK w9 83 = _; rw [(D8 83 (by omega)).1]; rw [hw8]; exact g8.1
      · show zK w9 84 = _; rw [(D8 84 (by omega)).1]; rw [hw8]; exact g8.2.1
      · show zK w9 85 = _; rw [(D8 85 (by omega)).1]; rw [hw8]; exact g8.2.2.1
      · show zK w9 86 = _; rw [(D8 86 (by omega)).1]; rw [hw8]; exact g8.2.2.2.1
      · show zK w9 87 = _; rw [(D8 87 (by omega)).1]; rw [hw8]; exact g8.2.2.2.2.1
      · show zK w9 88 = _; rw [(D8 88 (by omega)).1]; rw [hw8]; exact g8.2.2.2.2.2.1
      · show zK w9 89 = _; rw [(D8 89 (by omega)).1]; rw [hw8]; exact g8.2.2.2.2.2.2.1
      · show zK w9 90 = _; rw [(D8 90 (by omega)).1]; rw [hw8]; exact g8.2.2.2.2.2.2.2.1
      · exact g9
    · rw [R2]
      simp only [aRT, List.mem_cons, List.not_mem_nil, or_false] at hq
      rcases hq with rfl | rfl | rfl | rfl | rfl | rfl | rfl | rfl | rfl | rfl | rfl | rfl | rfl | rfl | rfl | rfl | rfl | rfl | rfl | rfl | rfl | rfl | rfl | rfl | rfl | rfl
      · show zR w9 0 2 = _; rw [r9, r8, r7, r6, r5, r4, r3, r2, r1]; rfl
      · show zR w9 0 3 = _; rw [r9, r8, r7, r6, r5, r4, r3, r2, r1]; rfl
      · show zR w9 0 4 = _; rw [r9, r8, r7, r6, r5, r4, r3, r2, r1]; rfl
      · show zR w9 0 5 = _; rw [r9, r8, r7, r6, r5, r4, r3, r2, r1]; rfl
      · show zR w9 0 6 = _; rw [r9, r8, r7, r6, r5, r4, r3, r2, r1]; rfl
      · show zR w9 0 7 = _; rw [r9, r8, r7, r6, r5, r4, r3, r2, r1]; rfl
      · show zR w9 0 8 = _; rw [r9, r8, r7, r6, r5, r4, r3, r2, r1]; rfl
      · show zR w9 66 0 = _; rw [(D4 66 (by omega)).2.2.2, hw4, zR_wR, if_neg (by decide)]; exact g4.2.2.1
      · show zR w9 68 0 = _; rw [(D5 68 (by omega)).2.2.2, hw5, zR_wR, if_neg (by decide)]; exact g5.2.2.1
      · show zR w9 68 1 = _; rw [(D5 68 (by omega)).2.2.2, hw5, zR_wR, if_neg (by decide)]; exact g5.2.2.2.1
      · show zR w9 70 0 = _; rw [(D6 70 (by omega)).2.2.2, hw6, zR_wR, if_neg (by decide)]; exact g6.2.2.2.2.1
      · show zR w9 70 1 = _; rw [(D6 70 (by omega)).2.2.2, hw6, zR_wR, if_neg (by decide)]; exact g6.2.2.2.2.2.1
      · show zR w9 70 2 = _; rw [(D6 70 (by omega)).2.2.2, hw6, zR_wR, if_neg (by decide)]; exact g6.2.2.2.2.2.2
      · show zR w9 74 0 = _; rw [(D7 74 (by omega)).2.2.2, hw7, zR_wR, if_neg (by decide)]; exact g7.2.2.2.2.2.2.2.2.2.1
      · show zR w9 74 1 = _; rw [(D7 74 (by omega)).2.2.2, hw7, zR_wR, if_neg (by decide)]; exact g7.2.2.2.2.2.2.2.2.2.2.1
      · show zR w9 74 2 = _; rw [(D7 74 (by omega)).2.2.2, hw7, zR_wR, if_neg (by decide)]; exact g7.2.2.2.2.2.2.2.2.2.2.2.1
      · show zR w9 74 7 = _; rw [(D7 74 (by omega)).2.2.2, hw7, zR_wR, if_neg (by decide)]; exact g7.2.2.2.2.2.2.2.2.2.2.2.2.2.2.1
      · show zR w9 74 8 = _; rw [(D7 74 (by omega)).2.2.2, hw7, zR_wR, if_neg (by decide)]; exact g7.2.2.2.2.2.2.2.2.2.2.2.2.2.2.2.1
      · show zR w9 74 9 = _; rw [(D7 74 (by omega)).2.2.2, hw7, zR_wR, if_neg (by decide)]; exact g7.2.2.2.2.2.2.2.2.2.2.2.2.2.2.2.2
      · show zR w9 83 0 = _; rw [(D8 83 (by omega)).2.2.2, hw8, zR_wR, if_neg (by decide)]; exact g8.2.2.2.2.2.2.2.2.1
      · show zR w9 83 1 = _; rw [(D8 83 (by omega)).2.2.2, hw8, zR_wR, if_neg (by decide)]; exact g8.2.2.2.2.2.2.2.2.2.1
      · show zR w9 83 2 = _; rw [(D8 83 (by omega)).2.2.2, hw8, zR_wR, if_neg (by decide)]; exact g8.2.2.2.2.2.2.2.2.2.2.1
      · show zR w9 84 0 = _; rw [(D8 84 (by omega)).2.2.2, hw8, zR_wR, if_neg (by decide)]; exact g8.2.2.2.2.2.2.2.2.2.2.2.1 0 (by decide)
      · show zR w9 84 1 = _; rw [(D8 84 (by omega)).2.2.2, hw8, zR_wR, if_neg (by decide)]; exact g8.2.2.2.2.2.2.2.2.2.2.2.1 1 (by decide)
      · show zR w9 84 2 = _; rw [(D8 84 (by omega)).2.2.2, hw8, zR_wR, if_neg (by decide)]; exact g8.2.2.2.2.2.2.2.2.2.2.2.1 2 (by decide)
      · show zR w9 84 3 = _; rw [(D8 84 (by omega)).2.2.2, hw8, zR_wR, if_neg (by decide)]; exact g8.2.2.2.2.2.2.2.2.2.2.2.1 3 (by decide)
  case h4 => exact (L1.fi fv1).fi fv2
  case h5 => exact (LayS.fi (L33.fi fv1) fv2)
  case h6 =>
    rw [R2]
    refine ⟨by rw [r9, r8, r7, r6, r5, r4, r3, r2, r1]; rfl, by rw [r9, r8, r7, r6, r5, r4, r3, r2, r1]; rfl, ?_, ?_, ?_, fun k => ?_⟩
    · rw [(D7 74 (by omega)).2.2.2, hw7, zR_wR, if_neg (by decide)]; exact g7.2.2.2.2.2.2.2.2.2.2.2.2.1
    · rw [(D7 74 (by omega)).2.2.2, hw7, zR_wR, if_neg (by decide)]; exact g7.2.2.2.2.2.2.2.2.2.2.2.2.2.1
    · rw [(D5 68 (by omega)).2.2.2, hw5, zR_wR, if_neg (by decide)]; exact g5.2.2.2.2
    · rw [(D3 65 (by omega)).2.2.2, gr3]
  case h7 =>
    have I2 : ∀ a, 65 ≤ a → zI v2 a = zI w9 a := fun a ha => by rw [fv2.2.2.2.2 a (by omega), fv1.2.2.2.2 a (by omega), fu.2.2.2.2 a (by omega)]
    have J2 : zI v2 0 = zI u4 0 := by rw [fv2.2.2.2.2 0 (by omega), fv1.2.2.2.2 0 (by omega)]
    refine ⟨by rw [J2]; exact iu.1, by rw [J2]; exact iu.2.1, by rw [J2]; exact iu.2.2.1, by rw [J2]; exact iu.2.2.2, ?_, fun i hi => ?_, fun i hi => ?_, v1, gv1, fv2, gv2⟩
    · rw [I2 66 (by decide), (D4 66 (by omega)).2.1, hw4, zI_wR]; exact g4.2.2.2
    · rw [I2 90 (by decide), (D8 90 (by omega)).2.1, hw8, zI_wR]; exact g8.2.2.2.2.2.2.2.2.2.2.2.2.1 i hi
    · rw [fv2.2.2.1, fv1.2.2.1, fu.2.2.1, (D8 (85 + i) (by omega)).2.2.1, hw8, zL_wR]; exact g8.2.2.2.2.2.2.2.2.2.2.2.2.2 i hi
