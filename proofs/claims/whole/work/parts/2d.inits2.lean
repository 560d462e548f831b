theorem nwC_eq {α : Type} (k n : Nat) (z : Hp) (f : Nat → Hp → Option α) : nwC k n z f = f (zN z) (zNew z k n) := rfl
theorem bnd_some {σ α : Type} (r : σ) (z : Hp) (k : σ → Hp → Option α) : bnd (some (r, z)) k = k r z := rfl
theorem pR_eq {α : Type} {c k : Nat} {z : Hp} {a r : Nat} {f : Hp → Option α} (h : (zK z a).1 = c + 7) : pR c k z a r f = f (wR z a (ups (zR z a) k (some r))) := if_pos h
theorem pI_eq {α : Type} {c k : Nat} {z : Hp} {a : Nat} {v : Int32} {f : Hp → Option α} (h : (zK z a).1 = c + 7) : pI c k z a v f = f (wI z a (ups (zI z a) k v)) := if_pos h
theorem isC_eq {α : Type} {c : Nat} {z : Hp} {a : Nat} {t : Option α} (h : (zK z a).1 = c + 7) : isC c z a t = t := if_pos h
theorem gR_eq {α : Type} {c k : Nat} {z : Hp} {a b : Nat} {f : Nat → Option α} (h : (zK z a).1 = c + 7) (hb : zR z a k = some b) : gR c k z a f = f b := by
  unfold gR
  rw [if_pos h, hb]
theorem Fr.blk {x y : Hp} {s o m : Nat} (h : Fr (fun a => a = s ∨ (s + o ≤ a ∧ a < s + m)) x y) (hm : m ≤ 32) : Fr (fun a => s ≤ a ∧ a < s + 32) x y := h.mono (fun a h => by
  rcases h with h | h
  · omega
  · omega)
theorem Fr.blk2 {x y : Hp} {s o m o2 : Nat} (h : Fr (fun a => a = s ∨ (s + o ≤ a ∧ a < s + m)) x y) (ho : o2 ≤ o) (hm : m ≤ 32) : Fr (fun a => a = s ∨ (s + o2 ≤ a ∧ a < s + 32)) x y := h.mono (fun a h => by
  rcases h with h | h
  · exact Or.inl h
  · exact Or.inr ⟨by omega, by omega⟩)
theorem gI_eq {α : Type} {c k : Nat} {z : Hp} {a : Nat} {f : Int32 → Option α} (h : (zK z a).1 = c + 7) : gI c k z a f = f (zI z a k) := if_pos h
theorem init_X8 {z : Hp} {s : Nat} (hn : zN z = s + 1) (hk : zK z s = (15, 0)) : ∃ y, m_X8_init s z = some ((), y) ∧ zN y = s + 32 ∧ Fr (fun a => s ≤ a ∧ a < s + 32) z y ∧ LayS y s := by
  have hN0 : zN z = s + 1 := hn
  have hk0 : zK z s = (15, 0) := hk
  have hw0 : Fr (fun a => s ≤ a ∧ a < s + 32) z z := Fr.rfl'
  obtain ⟨y1, e1, n1, f1, g1⟩ := init_X7 (z := zNew z 14 0) (n := s + 1) (by rw [zN_new, hN0]) (by rw [zK_new, hN0]; exact if_pos rfl)
  have q1 : zK y1 s = (15, 0) := by rw [(f1 s (by omega)).1, zK_new, hN0, if_neg (by omega)]; exact hk0
  obtain ⟨w1, hw1⟩ : ∃ w, w = wR y1 s (ups (zR y1 s) 0 (some (s + 1))) := ⟨_, rfl⟩
  have hN1 : zN w1 = s + 8 := by rw [hw1]; exact n1
  have hk1 : zK w1 s = (15, 0) := by rw [hw1]; exact q1
  have hc1 : Fr (fun a => a = s ∨ (s + 1 ≤ a ∧ a < s + 8)) z w1 := by rw [hw1]; exact ((Fr.new (by rw [hN0]; omega)).trans (f1.mono (fun a h => Or.inr h))).trans (Fr.wR (Or.inl rfl))
  have r1 : zR w1 s = ups (zR z s) 0 (some (s + 1)) := by rw [hw1, zR_wR, if_pos rfl, (f1 s (by omega)).2.2.2, zR_new, hN0, if_neg (by omega)]
  obtain ⟨y2, e2, n2, f2, g2⟩ := init_X3 (z := zNew w1 10 0) (n := s + 8) (by rw [zN_new, hN1]) (by rw [zK_new, hN1]; exact if_pos rfl)
  have q2 : zK y2 s = (15, 0) := by rw [(f2 s (by omega)).1, zK_new, hN1, if_neg (by omega)]; exact hk1
  obtain ⟨w2, hw2⟩ : ∃ w, w = wR y2 s (ups (zR y2 s) 1 (some (s + 8))) := ⟨_, rfl⟩
  have hN2 : zN w2 = s + 15 := by rw [hw2]; exact n2
  have hk2 : zK w2 s = (15, 0) := by rw [hw2]; exact q2
  have hc2 : Fr (fun a => a = s ∨ (s + 8 ≤ a ∧ a < s + 15)) w1 w2 := by rw [hw2]; exact ((Fr.new (by rw [hN1]; omega)).trans (f2.mono (fun a h => Or.inr h))).trans (Fr.wR (Or.inl rfl))
  have r2 : zR w2 s = ups (zR w1 s) 1 (some (s + 8)) := by rw [hw2, zR_wR, if_pos rfl, (f2 s (by omega)).2.2.2, zR_new, hN1, if_neg (by omega)]
  obtain ⟨y3, e3, n3, f3, g3⟩ := init_X1 (z := zNew w2 8 0) (n := s + 15) (by rw [zN_new, hN2]) (by rw [zK_new, hN2]; exact if_pos rfl)
  have q3 : zK y3 s = (15, 0) := by rw [(f3 s (by omega)).1, zK_new, hN2, if_neg (by omega)]; exact hk2
  obtain ⟨w3, hw3⟩ : ∃ w, w = wR y3 s (ups (zR y3 s) 2 (some (s + 15))) := ⟨_, rfl⟩
  have hN3 : zN w3 = s + 19 := by rw [hw3]; exact n3
  have hk3 : zK w3 s = (15, 0) := by rw [hw3]; exact q3
  have hc3 : Fr (fun a => a = s ∨ (s + 15 ≤ a ∧ a < s + 19)) w2 w3 := by rw [hw3]; exact ((Fr.new (by rw [hN2]; omega)).trans (f3.mono (fun a h => Or.inr h))).trans (Fr.wR (Or.inl rfl))
  have r3 : zR w3 s = ups (zR w2 s) 2 (some (s + 15)) := by rw [hw3, zR_wR, if_pos rfl, (f3 s (by omega)).2.2.2, zR_new, hN2, if_neg (by omega)]
  obtain ⟨y4, e4, n4, f4, g4⟩ := init_X5 (z := zNew w3 12 0) (n := s + 19) (by rw [zN_new, hN3]) (by rw [zK_new, hN3]; exact if_pos rfl)
  have q4 : zK y4 s = (15, 0) := by rw [(f4 s (by omega)).1, zK_new, hN3, if_neg (by omega)]; exact hk3
  obtain ⟨w4, hw4⟩ : ∃ w, w = wR y4 s (ups (zR y4 s) 3 (some (s + 19))) := ⟨_, rfl⟩
  have hN4 : zN w4 = s + 24 := by rw [hw4]; exact n4
  have hk4 : zK w4 s = (15, 0) := by rw [hw4]; exact q4
  have hc4 : Fr (fun a => a = s ∨ (s + 19 ≤ a ∧ a < s + 24)) w3 w4 := by rw [hw4]; exact ((Fr.new (by rw [hN3]; omega)).trans (f4.mono (fun a h => Or.inr h))).trans (Fr.wR (Or.inl rfl))
  have r4 : zR w4 s = ups (zR w3 s) 3 (some (s + 19)) := by rw [hw4, zR_wR, if_pos rfl, (f4 s (by omega)).2.2.2, zR_new, hN3, if_neg (by omega)]
  obtain ⟨y5, e5, n5, f5, g5⟩ := init_X0 (z := zNew w4 7 0) (n := s + 24) (by rw [zN_new, hN4]) (by rw [zK_new, hN4]; exact if_pos rfl)
  have q5 : zK y5 s = (15, 0) := by rw [(f5 s (by omega)).1, zK_new, hN4, if_neg (by omega)]; exact hk4
  obtain ⟨w5, hw5⟩ : ∃ w, w = wR y5 s (ups (zR y5 s) 4 (some (s + 24))) := ⟨_, rfl⟩
  have hN5 : zN w5 = s + 27 := by rw [hw5]; exact n5
  have hk5 : zK w5 s = (15, 0) := by rw [hw5]; exact q5
  have hc5 : Fr (fun a => a = s ∨ (s + 24 ≤ a ∧ a < s + 27)) w4 w5 := by rw [hw5]; exact ((Fr.new (by rw [hN4]; omega)).trans (f5.mono (fun a h => Or.inr h))).trans (Fr.wR (Or.inl rfl))
  have r5 : zR w5 s = ups (zR w4 s) 4 (some (s + 24)) := by rw [hw5, zR_wR, if_pos rfl, (f5 s (by omega)).2.2.2, zR_new, hN4, if_neg (by omega)]
  have q6 : zK (zNew w5 1 144) s = (15, 0) := by rw [zK_new, hN5, if_neg (by omega)]; exact hk5
  obtain ⟨w6, hw6⟩ : ∃ w, w = wR (zNew w5 1 144) s (ups (zR (zNew w5 1 144) s) 5 (some (s + 27))) := ⟨_, rfl⟩
  have hN6 : zN w6 = s + 28 := by rw [hw6]; show zN w5 + 1 = _; rw [hN5]
  have hk6 : zK w6 s = (15, 0) := by rw [hw6]; exact q6
  have g6 : zK w6 (s + 27) = (1, 144) := by rw [hw6, zK_wR, zK_new, hN5]; exact if_pos rfl
  have hc6 : Fr (fun a => a = s ∨ (s + 27 ≤ a ∧ a < s + 28)) w5 w6 := by rw [hw6]; exact (Fr.new (by rw [hN5]; omega)).trans (Fr.wR (Or.inl rfl))
  have r6 : zR w6 s = ups (zR w5 s) 5 (some (s + 27)) := by rw [hw6, zR_wR, if_pos rfl, zR_new, hN5, if_neg (by omega)]
  have q7 : zK (zNew w6 1 144) s = (15, 0) := by rw [zK_new, hN6, if_neg (by omega)]; exact hk6
  obtain ⟨w7, hw7⟩ : ∃ w, w = wR (zNew w6 1 144) s (ups (zR (zNew w6 1 144) s) 6 (some (s + 28))) := ⟨_, rfl⟩
  have hN7 : zN w7 = s + 29 := by rw [hw7]; show zN w6 + 1 = _; rw [hN6]
  have hk7 : zK w7 s = (15, 0) := by rw [hw7]; exact q7
  have g7 : zK w7 (s + 28) = (1, 144) := by rw [hw7, zK_wR, zK_new, hN6]; exact if_pos rfl
  have hc7 : Fr (fun a => a = s ∨ (s + 28 ≤ a ∧ a < s + 29)) w6 w7 := by rw [hw7]; exact (Fr.new (by rw [hN6]; omega)).trans (Fr.wR (Or.inl rfl))
  have r7 : zR w7 s = ups (zR w6 s) 6 (some (s + 28)) := by rw [hw7, zR_wR, if_pos rfl, zR_new, hN6, if_neg (by omega)]
  have q8 : zK (zNew w7 1 144) s = (15, 0) := by rw [zK_new, hN7, if_neg (by omega)]; exact hk7
  obtain ⟨w8, hw8⟩ : ∃ w, w = wR (zNew w7 1 144) s (ups (zR (zNew w7 1 144) s) 7 (some (s + 29))) := ⟨_, rfl⟩
  have hN8 : zN w8 = s + 30 := by rw [hw8]; show zN w7 + 1 = _; rw [hN7]
  have hk8 : zK w8 s = (15, 0) := by rw [hw8]; exact q8
  have g8 : zK w8 (s + 29) = (1, 144) := by rw [hw8, zK_wR, zK_new, hN7]; exact if_pos rfl
  have hc8 : Fr (fun a => a = s ∨ (s + 29 ≤ a ∧ a < s + 30)) w7 w8 := by rw [hw8]; exact (Fr.new (by rw [hN7]; omega)).trans (Fr.wR (Or.inl rfl))
  have r8 : zR w8 s = ups (zR w7 s) 7 (some (s + 29)) := by rw [hw8, zR_wR, if_pos rfl, zR_new, hN7, if_neg (by omega)]
  have q9 : zK (zNew w8 1 144) s = (15, 0) := by rw [zK_new, hN8, if_neg (by omega)]; exact hk8
  obtain ⟨w9, hw9⟩ : ∃ w, w = wR (zNew w8 1 144) s (ups (zR (zNew w8 1 144) s) 8 (some (s + 30))) := ⟨_, rfl⟩
  have hN9 : zN w9 = s + 31 := by rw [hw9]; show zN w8 + 1 = _; rw [hN8]
  have hk9 : zK w9 s = (15, 0) := by rw [hw9]; exact q9
  have g9 : zK w9 (s + 30) = (1, 144) := by rw [hw9, zK_wR, zK_new, hN8]; exact if_pos rfl
  have hc9 : Fr (fun a => a = s ∨ (s + 30 ≤ a ∧ a < s + 31)) w8 w9 := by rw [hw9]; exact (Fr.new (by rw [hN8]; omega)).trans (Fr.wR (Or.inl rfl))
  have r9 : zR w9 s = ups (zR w8 s) 8 (some (s + 30)) := by rw [hw9, zR_wR, if_pos rfl, zR_new, hN8, if_neg (by omega)]
  have q10 : zK (zNew w9 1 6) s = (15, 0) := by rw [zK_new, hN9, if_neg (by omega)]; exact hk9
  obtain ⟨w10, hw10⟩ : ∃ w, w = wR (zNew w9 1 6) s (ups (zR (zNew w9 1 6) s) 9 (some (s + 31))) := ⟨_, rfl⟩
  have hN10 : zN w10 = s + 32 := by rw [hw10]; show zN w9 + 1 = _; rw [hN9]
  have hk10 : zK w10 s = (15, 0) := by rw [hw10]; exact q10
  have g10 : zK w10 (s + 31) = (1, 6) := by rw [hw10, zK_wR, zK_new, hN9]; exact if_pos rfl
  have hc10 : Fr (fun a => a = s ∨ (s + 31 ≤ a ∧ a < s + 32)) w9 w10 := by rw [hw10]; exact (Fr.new (by rw [hN9]; omega)).trans (Fr.wR (Or.inl rfl))
  have r10 : zR w10 s = ups (zR w9 s) 9 (some (s + 31)) := by rw [hw10, zR_wR, if_pos rfl, zR_new, hN9, if_neg (by omega)]
  have T1 : Fr (fun a => s ≤ a ∧ a < s + 32) z w1 := hc1.blk (by decide)
  have T2 : Fr (fun a => s ≤ a ∧ a < s + 32) z w2 := T1.trans (hc2.blk (by decide))
  have T3 : Fr (fun a => s ≤ a ∧ a < s + 32) z w3 := T2.trans (hc3.blk (by decide))
  have T4 : Fr (fun a => s ≤ a ∧ a < s + 32) z w4 := T3.trans (hc4.blk (by decide))
  have T5 : Fr (fun a => s ≤ a ∧ a < s + 32) z w5 := T4.trans (hc5.blk (by decide))
  have T6 : Fr (fun a => s ≤ a ∧ a < s + 32) z w6 := T5.trans (hc6.blk (by decide))
  have T7 : Fr (fun a => s ≤ a ∧ a < s + 32) z w7 := T6.trans (hc7.blk (by decide))
  have T8 : Fr (fun a => s ≤ a ∧ a < s + 32) z w8 := T7.trans (hc8.blk (by decide))
  have T9 : Fr (fun a => s ≤ a ∧ a < s + 32) z w9 := T8.trans (hc9.blk (by decide))
  have T10 : Fr (fun a => s ≤ a ∧ a < s + 32) z w10 := T9.trans (hc10.blk (by decide))
  have hs0 : s ≤ s ∧ s < s + 32 := by omega
  obtain ⟨u1, hu1⟩ : ∃ u, u = wI w10 s (ups (zI w10 s) 10 0) := ⟨_, rfl⟩
  have ku1 : zK u1 s = (15, 0) := by rw [hu1]; exact hk10
  have fu1 : Fi (fun a => a = s) w10 u1 := by rw [hu1]; exact Fi.w rfl
  obtain ⟨u2, hu2⟩ : ∃ u, u = wI u1 s (ups (zI u1 s) 11 0) := ⟨_, rfl⟩
  have ku2 : zK u2 s = (15, 0) := by rw [hu2]; exact ku1
  have fu2 : Fi (fun a => a = s) u1 u2 := by rw [hu2]; exact Fi.w rfl
  obtain ⟨u3, hu3⟩ : ∃ u, u = wI u2 s (ups (zI u2 s) 12 99999) := ⟨_, rfl⟩
  have ku3 : zK u3 s = (15, 0) := by rw [hu3]; exact ku2
  have fu3 : Fi (fun a => a = s) u2 u3 := by rw [hu3]; exact Fi.w rfl
  obtain ⟨u4, hu4⟩ : ∃ u, u = wI u3 s (ups (zI u3 s) 13 0) := ⟨_, rfl⟩
  have ku4 : zK u4 s = (15, 0) := by rw [hu4]; exact ku3
  have fu4 : Fi (fun a => a = s) u3 u4 := by rw [hu4]; exact Fi.w rfl
  obtain ⟨u5, hu5⟩ : ∃ u, u = wI u4 s (ups (zI u4 s) 14 0) := ⟨_, rfl⟩
  have ku5 : zK u5 s = (15, 0) := by rw [hu5]; exact ku4
  have fu5 : Fi (fun a => a = s) u4 u5 := by rw [hu5]; exact Fi.w rfl
  obtain ⟨u6, hu6⟩ : ∃ u, u = wI u5 s (ups (zI u5 s) 15 0) := ⟨_, rfl⟩
  have ku6 : zK u6 s = (15, 0) := by rw [hu6]; exact ku5
  have fu6 : Fi (fun a => a = s) u5 u6 := by rw [hu6]; exact Fi.w rfl
  obtain ⟨u7, hu7⟩ : ∃ u, u = wI u6 s (ups (zI u6 s) 16 0) := ⟨_, rfl⟩
  have ku7 : zK u7 s = (15, 0) := by rw [hu7]; exact ku6
  have fu7 : Fi (fun a => a = s) u6 u7 := by rw [hu7]; exact Fi.w rfl
  have fu : Fi (fun a => a = s) w10 u7 := fu1.trans (fu2.trans (fu3.trans (fu4.trans (fu5.trans (fu6.trans fu7)))))
  refine ⟨u7, ?h1, ?h2, ?h3, ?h4⟩
  case h1 =>
    rw [m_X8_init]
    simp only [nwC_eq, hN0]
    rw [e1, bnd_some, pR_eq (by rw [q1]), ← hw1]
    simp only [nwC_eq, hN1]
    rw [e2, bnd_some, pR_eq (by rw [q2]), ← hw2]
    simp only [nwC_eq, hN2]
    rw [e3, bnd_some, pR_eq (by rw [q3]), ← hw3]
    simp only [nwC_eq, hN3]
    rw [e4, bnd_some, pR_eq (by rw [q4]), ← hw4]
    simp only [nwC_eq, hN4]
    rw [e5, bnd_some, pR_eq (by rw [q5]), ← hw5]
    simp only [nwC_eq, hN5]
    rw [pR_eq (by rw [q6]), ← hw6]
    simp only [nwC_eq, hN6]
    rw [pR_eq (by rw [q7]), ← hw7]
    simp only [nwC_eq, hN7]
    rw [pR_eq (by rw [q8]), ← hw8]
    simp only [nwC_eq, hN8]
    rw [pR_eq (by rw [q9]), ← hw9]
    simp only [nwC_eq, hN9]
    rw [pR_eq (by rw [q10]), ← hw10]
    rw [pI_eq (by rw [hk10]), ← hu1]
    rw [pI_eq (by rw [ku1]), ← hu2]
    rw [pI_eq (by rw [ku2]), ← hu3]
    rw [pI_eq (by rw [ku3]), ← hu4]
    rw [pI_eq (by rw [ku4]), ← hu5]
    rw [pI_eq (by rw [ku5]), ← hu6]
    rw [pI_eq (by rw [ku6]), ← hu7]
  case h2 => rw [fu.1]; exact hN10
  case h3 => exact T10.trans (Fr.fi (fu.mono (fun a h => by rw [h]; exact hs0)))
  case h4 =>
    refine LayS.of (z := w10) ?_ fu.2.1 fu.2.2.2.1
    have D9 : Fr (fun a => a = s ∨ (s + 31 ≤ a ∧ a < s + 32)) w9 w10 := hc10.blk2 (by decide) (by decide)
    have D8 : Fr (fun a => a = s ∨ (s + 30 ≤ a ∧ a < s + 32)) w8 w10 := Fr.trans (hc9.blk2 (by decide) (by decide)) (D9.blk2 (by decide) (by decide))
    have D7 : Fr (fun a => a = s ∨ (s + 29 ≤ a ∧ a < s + 32)) w7 w10 := Fr.trans (hc8.blk2 (by decide) (by decide)) (D8.blk2 (by decide) (by decide))
    have D6 : Fr (fun a => a = s ∨ (s + 28 ≤ a ∧ a < s + 32)) w6 w10 := Fr.trans (hc7.blk2 (by decide) (by decide)) (D7.blk2 (by decide) (by decide))
    have D5 : Fr (fun a => a = s ∨ (s + 27 ≤ a ∧ a < s + 32)) w5 w10 := Fr.trans (hc6.blk2 (by decide) (by decide)) (D6.blk2 (by decide) (by decide))
    have D4 : Fr (fun a => a = s ∨ (s + 24 ≤ a ∧ a < s + 32)) w4 w10 := Fr.trans (hc5.blk2 (by decide) (by decide)) (D5.blk2 (by decide) (by decide))
    have D3 : Fr (fun a => a = s ∨ (s + 19 ≤ a ∧ a < s + 32)) w3 w10 := Fr.trans (hc4.blk2 (by decide) (by decide)) (D4.blk2 (by decide) (by decide))
    have D2 : Fr (fun a => a = s ∨ (s + 15 ≤ a ∧ a < s + 32)) w2 w10 := Fr.trans (hc3.blk2 (by decide) (by decide)) (D3.blk2 (by decide) (by decide))
    have D1 : Fr (fun a => a = s ∨ (s + 8 ≤ a ∧ a < s + 32)) w1 w10 := Fr.trans (hc2.blk2 (by decide) (by decide)) (D2.blk2 (by decide) (by decide))
    refine ⟨fun j q hj => ?_, fun q hq => ?_⟩
    · match j, hj with
      | 0, h => cases h; exact hk10
      | 1, h => cases h; show zK w10 (s + 1) = _; rw [(D1 (s + 1) (by omega)).1, hw1]; exact g1.1
      | 2, h => cases h; show zK w10 (s + 2) = _; rw [(D1 (s + 2) (by omega)).1, hw1]; exact g1.2.1
      | 3, h => cases h; show zK w10 (s + 3) = _; rw [(D1 (s + 3) (by omega)).1, hw1]; exact g1.2.2.1
      | 4, h => cases h; show zK w10 (s + 4) = _; rw [(D1 (s + 4) (by omega)).1, hw1]; exact g1.2.2.2.1
      | 5, h => cases h; show zK w10 (s + 5) = _; rw [(D1 (s + 5) (by omega)).1, hw1]; exact g1.2.2.2.2.1
      | 6, h => cases h; show zK w10 (s + 6) = _; rw [(D1 (s + 6) (by omega)).1, hw1]; exact g1.2.2.2.2.2.1
      | 7, h => cases h; show zK w10 (s + 7) = _; rw [(D1 (s + 7) (by omega)).1, hw1]; exact g1.2.2.2.2.2.2.1
      | 8, h => cases h; show zK w10 (s + 8) = _; rw [(D2 (s + 8) (by omega)).1, hw2]; exact g2.1
      | 9, h => cases h; show zK w10 (s + 9) = _; rw [(D2 (s + 9) (by omega)).1, hw2]; exact g2.2.1
      | 10, h => cases h; show zK w10 (s + 10) = _; rw [(D2 (s + 10) (by omega)).1, hw2]; exact g2.2.2.1
      | 11, h => cases h; show zK w10 (s + 11) = _; rw [(D2 (s + 11) (by omega)).1, hw2]; exact g2.2.2.2.1
      | 12, h => cases h; show zK w10 (s + 12) = _; rw [(D2 (s + 12) (by omega)).1, hw2]; exact g2.2.2.2.2.1
      | 13, h => cases h; show zK w10 (s + 13) = _; rw [(D2 (s + 13) (by omega)).1, hw2]; exact g2.2.2.2.2.2.1
      | 14, h => cases h; show zK w10 (s + 14) = _; rw [(D2 (s + 14) (by omega)).1, hw2]; exact g2.2.2.2.2.2.2.1
      | 15, h => cases h; show zK w10 (s + 15) = _; rw [(D3 (s + 15) (by omega)).1, hw3]; exact g3.1
      | 16, h => cases h; show zK w10 (s + 16) = _; rw [(D3 (s + 16) (by omega)).1, hw3]; exact g3.2.1
      | 17, h => cases h; show zK w10 (s + 17) = _; rw [(D3 (s + 17) (by omega)).1, hw3]; exact g3.2.2.1
      | 18, h => cases h; show zK w10 (s + 18) = _; rw [(D3 (s + 18) (by omega)).1, hw3]; exact g3.2.2.2.1
      | 19, h => cases h; show zK w10 (s + 19) = _; rw [(D4 (s + 19) (by omega)).1, hw4]; exact g4.1
      | 20, h => cases h; show zK w10 (s + 20) = _; rw [(D4 (s + 20) (by omega)).1, hw4]; exact g4.2.1
      | 21, h => cases h; show zK w10 (s + 21) = _; rw [(D4 (s + 21) (by omega)).1, hw4]; exact g4.2.2.1
      | 22, h => cases h; show zK w10 (s + 22) = _; rw [(D4 (s + 22) (by omega)).1, hw4]; exact g4.2.2.2.1
      | 23, h => cases h; show zK w10 (s + 23) = _; rw [(D4 (s + 23) (by omega)).1, hw4]; exact g4.2.2.2.2.1
      | 24, h => cases h; show zK w10 (s + 24) = _; rw [(D5 (s + 24) (by omega)).1, hw5]; exact g5.1
      | 25, h => cases h; show zK w10 (s + 25) = _; rw [(D5 (s + 25) (by omega)).1, hw5]; exact g5.2.1
      | 26, h => cases h; show zK w10 (s + 26) = _; rw [(D5 (s + 26) (by omega)).1, hw5]; exact g5.2.2.1
      | 27, h => cases h; show zK w10 (s + 27) = _; rw [(D6 (s + 27) (by omega)).1]; exact g6
      | 28, h => cases h; show zK w10 (s + 28) = _; rw [(D7 (s + 28) (by omega)).1]; exact g7
      | 29, h => cases h; show zK w10 (s + 29) = _; rw [(D8 (s + 29) (by omega)).1]; exact g8
      | 30, h => cases h; show zK w10 (s + 30) = _; rw [(D9 (s + 30) (by omega)).1]; exact g9
      | 31, h => cases h; exact g10
      | j + 32, h => exact absurd h (by simp [skT])
    · simp only [srT, List.mem_cons, List.not_mem_nil, or_false] at hq
      rcases hq with rfl | rfl | rfl | rfl | rfl | rfl | rfl | rfl | rfl | rfl | rfl | rfl | rfl | rfl | rfl | rfl | rfl | rfl | rfl | rfl | rfl | rfl | rfl | rfl | rfl | rfl | rfl | rfl | rfl | rfl | rfl
      · show zR w10 s 0 = _; simp [r10, r9, r8, r7, r6, r5, r4, r3, r2, r1, ups_eq]
      · show zR w10 s 1 = _; simp [r10, r9, r8, r7, r6, r5, r4, r3, r2, r1, ups_eq]
      · show zR w10 s 2 = _; simp [r10, r9, r8, r7, r6, r5, r4, r3, r2, r1, ups_eq]
      · show zR w10 s 3 = _; simp [r10, r9, r8, r7, r6, r5, r4, r3, r2, r1, ups_eq]
      · show zR w10 s 4 = _; simp [r10, r9, r8, r7, r6, r5, r4, r3, r2, r1, ups_eq]
      · show zR w10 s 5 = _; simp [r10, r9, r8, r7, r6, r5, r4, r3, r2, r1, ups_eq]
      · show zR w10 s 6 = _; simp [r10, r9, r8, r7, r6, r5, r4, r3, r2, r1, ups_eq]
      · show zR w10 s 7 = _; simp [r10, r9, r8, r7, r6, r5, r4, r3, r2, r1, ups_eq]
      · show zR w10 s 8 = _; simp [r10, r9, r8, r7, r6, r5, r4, r3, r2, r1, ups_eq]
      · show zR w10 s 9 = _; simp [r10, r9, r8, r7, r6, r5, r4, r3, r2, r1, ups_eq]
      · show zR w10 (s + 1) 0 = _; rw [(D1 (s + 1) (by omega)).2.2.2, hw1, zR_wR, if_neg (by omega)]; exact g1.2.2.2.2.2.2.2.1
      · show zR w10 (s + 1) 1 = _; rw [(D1 (s + 1) (by omega)).2.2.2, hw1, zR_wR, if_neg (by omega)]; exact g1.2.2.2.2.2.2.2.2.1
      · show zR w10 (s + 1) 2 = _; rw [(D1 (s + 1) (by omega)).2.2.2, hw1, zR_wR, if_neg (by omega)]; exact g1.2.2.2.2.2.2.2.2.2.1
      · show zR w10 (s + 1) 3 = _; rw [(D1 (s + 1) (by omega)).2.2.2, hw1, zR_wR, if_neg (by omega)]; exact g1.2.2.2.2.2.2.2.2.2.2.1
      · show zR w10 (s + 1) 4 = _; rw [(D1 (s + 1) (by omega)).2.2.2, hw1, zR_wR, if_neg (by omega)]; exact g1.2.2.2.2.2.2.2.2.2.2.2.1
      · show zR w10 (s + 1) 5 = _; rw [(D1 (s + 1) (by omega)).2.2.2, hw1, zR_wR, if_neg (by omega)]; exact g1.2.2.2.2.2.2.2.2.2.2.2.2
      · show zR w10 (s + 8) 0 = _; rw [(D2 (s + 8) (by omega)).2.2.2, hw2, zR_wR, if_neg (by omega)]; exact g2.2.2.2.2.2.2.2.1
      · show zR w10 (s + 8) 1 = _; rw [(D2 (s + 8) (by omega)).2.2.2, hw2, zR_wR, if_neg (by omega)]; exact g2.2.2.2.2.2.2.2.2.1
      · show zR w10 (s + 8) 2 = _; rw [(D2 (s + 8) (by omega)).2.2.2, hw2, zR_wR, if_neg (by omega)]; exact g2.2.2.2.2.2.2.2.2.2.1
      · show zR w10 (s + 8) 3 = _; rw [(D2 (s + 8) (by omega)).2.2.2, hw2, zR_wR, if_neg (by omega)]; exact g2.2.2.2.2.2.2.2.2.2.2.1
      · show zR w10 (s + 8) 4 = _; rw [(D2 (s + 8) (by omega)).2.2.2, hw2, zR_wR, if_neg (by omega)]; exact g2.2.2.2.2.2.2.2.2.2.2.2.1
      · show zR w10 (s + 8) 5 = _; rw [(D2 (s + 8) (by omega)).2.2.2, hw2, zR_wR, if_neg (by omega)]; exact g2.2.2.2.2.2.2.2.2.2.2.2.2
      · show zR w10 (s + 15) 0 = _; rw [(D3 (s + 15) (by omega)).2.2.2, hw3, zR_wR, if_neg (by omega)]; exact g3.2.2.2.2.1
      · show zR w10 (s + 15) 1 = _; rw [(D3 (s + 15) (by omega)).2.2.2, hw3, zR_wR, if_neg (by omega)]; exact g3.2.2.2.2.2.1
      · show zR w10 (s + 15) 2 = _; rw [(D3 (s + 15) (by omega)).2.2.2, hw3, zR_wR, if_neg (by omega)]; exact g3.2.2.2.2.2.2
      · show zR w10 (s + 19) 0 = _; rw [(D4 (s + 19) (by omega)).2.2.2, hw4, zR_wR, if_neg (by omega)]; exact g4.2.2.2.2.2.1
      · show zR w10 (s + 19) 1 = _; rw [(D4 (s + 19) (by omega)).2.2.2, hw4, zR_wR, if_neg (by omega)]; exact g4.2.2.2.2.2.2.1
      · show zR w10 (s + 19) 2 = _; rw [(D4 (s + 19) (by omega)).2.2.2, hw4, zR_wR, if_neg (by omega)]; exact g4.2.2.2.2.2.2.2.1
      · show zR w10 (s + 19) 3 = _; rw [(D4 (s + 19) (by omega)).2.2.2, hw4, zR_wR, if_neg (by omega)]; exact g4.2.2.2.2.2.2.2.2
      · show zR w10 (s + 24) 0 = _; rw [(D5 (s + 24) (by omega)).2.2.2, hw5, zR_wR, if_neg (by omega)]; exact g5.2.2.2.1
      · show zR w10 (s + 24) 1 = _; rw [(D5 (s + 24) (by omega)).2.2.2, hw5, zR_wR, if_neg (by omega)]; exact g5.2.2.2.2
