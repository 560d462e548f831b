/-! ===== the law, out of its calls ===== -/
def Ops : Prop :=
  (∀ a b c d e : Int32, Op (m_X11_feed 0 a b c d e) (m_X12_feed 92 a b c d e)) ∧
  (∀ a : Int32, Op (m_X11_end 0 a) (m_X12_end 92 a)) ∧
  (Op (m_X11_text 0) (m_X12_text 92)) ∧
  (∀ a : Int32, Op (m_X11_fault 0 a) (m_X12_fault 92 a)) ∧
  (∀ a : Int32, Op (m_X11_tick 0 a) (m_X12_tick 92 a)) ∧
  (∀ a b c : Int32, Op (m_X11_cell 0 a b c) (m_X12_cell 92 a b c)) ∧
  (∀ a : Int32, Op (m_X11_heat 0 a) (m_X12_heat 92 a)) ∧
  (∀ a b : Int32, b = 0 ∨ b = 1 → Op (m_X11_run 0 a b) (m_X12_run 92 a b)) ∧
  (∀ a b : Int32, Op (m_X11_pipe 0 a b) (m_X12_pipe 92 a b)) ∧
  (∀ a : Int32, Op (m_X11_cold 0 a) (m_X12_cold 92 a)) ∧
  (Op (m_X11_shut 0) (m_X12_shut 92)) ∧
  (Op (m_X11_way 0) (m_X12_way 92)) ∧
  (Op (m_X11_gaps 0) (m_X12_gaps 92)) ∧
  (∀ a : Int32, Op (m_X11_gap 0 a) (m_X12_gap 92 a)) ∧
  (Op (m_X11_thick 0) (m_X12_thick 92)) ∧
  (∀ a b : Int32, Op (m_X11_dig 0 a b) (m_X12_dig 92 a b)) ∧
  (∀ a : Int32, Op (m_X11_lacks 0 a) (m_X12_lacks 92 a)) ∧
  (Op (m_X11_pump 0) (m_X12_pump 92)) ∧
  (∀ a : Int32, Op (m_X11_lift 0 a) (m_X12_lift 92 a)) ∧
  (Op (m_X11_cracks 0) (m_X12_cracks 92)) ∧
  (∀ a b : Int32, Op (m_X11_house 0 a b) (m_X12_house 92 a b)) ∧
  (Op (m_X11_foretell 0) (m_X12_foretell 92)) ∧
  (Op (m_X11_off 0) (m_X12_off 92)) ∧
  (∀ a b : Int32, Op (m_X11_more 0 a b) (m_X12_more 92 a b)) ∧
  (Op (m_X11_chosen 0) (m_X12_chosen 92)) ∧
  (∀ a b c d : Int32, Op (m_X11_gauge 0 a b c d) (m_X12_gauge 92 a b c d)) ∧
  (∀ a : Int32, Op (m_X11_lies 0 a) (m_X12_lies 92 a)) ∧
  (∀ a : Int32, Op (m_X11_most 0 a) (m_X12_most 92 a)) ∧
  (∀ a : Int32, Op (m_X11_frost 0 a) (m_X12_frost 92 a)) ∧
  (∀ a : Int32, Op (m_X11_count 0 a) (m_X12_count 92 a)) ∧
  (∀ a : Int32, Op (m_X11_keep 0 a) (m_X12_keep 92 a)) ∧
  (∀ a : Int32, Op (m_X11_back 0 a) (m_X12_back 92 a)) ∧
  (∀ a b c : Int32, Op (m_X11_row 0 a b c) (m_X12_row 92 a b c)) ∧
  (∀ (a b : Int32) (w : Int64), Op (m_X11_write 0 a b w) (m_X12_write 92 a b w)) ∧
  (∀ a b c d e : Int32, Op (m_X11_paste 0 a b c d e) (m_X12_paste 92 a b c d e))
theorem ops_feed (h : Ops) : ∀ a b c d e : Int32, Op (m_X11_feed 0 a b c d e) (m_X12_feed 92 a b c d e) := h.1
theorem ops_end (h : Ops) : ∀ a : Int32, Op (m_X11_end 0 a) (m_X12_end 92 a) := h.2.1
theorem ops_text (h : Ops) : Op (m_X11_text 0) (m_X12_text 92) := h.2.2.1
theorem ops_fault (h : Ops) : ∀ a : Int32, Op (m_X11_fault 0 a) (m_X12_fault 92 a) := h.2.2.2.1
theorem ops_tick (h : Ops) : ∀ a : Int32, Op (m_X11_tick 0 a) (m_X12_tick 92 a) := h.2.2.2.2.1
theorem ops_cell (h : Ops) : ∀ a b c : Int32, Op (m_X11_cell 0 a b c) (m_X12_cell 92 a b c) := h.2.2.2.2.2.1
theorem ops_heat (h : Ops) : ∀ a : Int32, Op (m_X11_heat 0 a) (m_X12_heat 92 a) := h.2.2.2.2.2.2.1
theorem ops_run (h : Ops) : ∀ a b : Int32, b = 0 ∨ b = 1 → Op (m_X11_run 0 a b) (m_X12_run 92 a b) := h.2.2.2.2.2.2.2.1
theorem ops_pipe (h : Ops) : ∀ a b : Int32, Op (m_X11_pipe 0 a b) (m_X12_pipe 92 a b) := h.2.2.2.2.2.2.2.2.1
theorem ops_cold (h : Ops) : ∀ a : Int32, Op (m_X11_cold 0 a) (m_X12_cold 92 a) := h.2.2.2.2.2.2.2.2.2.1
theorem ops_shut (h : Ops) : Op (m_X11_shut 0) (m_X12_shut 92) := h.2.2.2.2.2.2.2.2.2.2.1
theorem ops_way (h : Ops) : Op (m_X11_way 0) (m_X12_way 92) := h.2.2.2.2.2.2.2.2.2.2.2.1
theorem ops_gaps (h : Ops) : Op (m_X11_gaps 0) (m_X12_gaps 92) := h.2.2.2.2.2.2.2.2.2.2.2.2.1
theorem ops_gap (h : Ops) : ∀ a : Int32, Op (m_X11_gap 0 a) (m_X12_gap 92 a) := h.2.2.2.2.2.2.2.2.2.2.2.2.2.1
theorem ops_thick (h : Ops) : Op (m_X11_thick 0) (m_X12_thick 92) := h.2.2.2.2.2.2.2.2.2.2.2.2.2.2.1
theorem ops_dig (h : Ops) : ∀ a b : Int32, Op (m_X11_dig 0 a b) (m_X12_dig 92 a b) := h.2.2.2.2.2.2.2.2.2.2.2.2.2.2.2.1
theorem ops_lacks (h : Ops) : ∀ a : Int32, Op (m_X11_lacks 0 a) (m_X12_lacks 92 a) := h.2.2.2.2.2.2.2.2.2.2.2.2.2.2.2.2.1
theorem ops_pump (h : Ops) : Op (m_X11_pump 0) (m_X12_pump 92) := h.2.2.2.2.2.2.2.2.2.2.2.2.2.2.2.2.2.1
theorem ops_lift (h : Ops) : ∀ a : Int32, Op (m_X11_lift 0 a) (m_X12_lift 92 a) := h.2.2.2.2.2.2.2.2.2.2.2.2.2.2.2.2.2.2.1
theorem ops_cracks (h : Ops) : Op (m_X11_cracks 0) (m_X12_cracks 92) := h.2.2.2.2.2.2.2.2.2.2.2.2.2.2.2.2.2.2.2.1
theorem ops_house (h : Ops) : ∀ a b : Int32, Op (m_X11_house 0 a b) (m_X12_house 92 a b) := h.2.2.2.2.2.2.2.2.2.2.2.2.2.2.2.2.2.2.2.2.1
theorem ops_foretell (h : Ops) : Op (m_X11_foretell 0) (m_X12_foretell 92) := h.2.2.2.2.2.2.2.2.2.2.2.2.2.2.2.2.2.2.2.2.2.1
theorem ops_off (h : Ops) : Op (m_X11_off 0) (m_X12_off 92) := h.2.2.2.2.2.2.2.2.2.2.2.2.2.2.2.2.2.2.2.2.2.2.1
theorem ops_more (h : Ops) : ∀ a b : Int32, Op (m_X11_more 0 a b) (m_X12_more 92 a b) := h.2.2.2.2.2.2.2.2.2.2.2.2.2.2.2.2.2.2.2.2.2.2.2.1
theorem ops_chosen (h : Ops) : Op (m_X11_chosen 0) (m_X12_chosen 92) := h.2.2.2.2.2.2.2.2.2.2.2.2.2.2.2.2.2.2.2.2.2.2.2.2.1
theorem ops_gauge (h : Ops) : ∀ a b c d : Int32, Op (m_X11_gauge 0 a b c d) (m_X12_gauge 92 a b c d) := h.2.2.2.2.2.2.2.2.2.2.2.2.2.2.2.2.2.2.2.2.2.2.2.2.2.1
theorem ops_lies (h : Ops) : ∀ a : Int32, Op (m_X11_lies 0 a) (m_X12_lies 92 a) := h.2.2.2.2.2.2.2.2.2.2.2.2.2.2.2.2.2.2.2.2.2.2.2.2.2.2.1
theorem ops_most (h : Ops) : ∀ a : Int32, Op (m_X11_most 0 a) (m_X12_most 92 a) := h.2.2.2.2.2.2.2.2.2.2.2.2.2.2.2.2.2.2.2.2.2.2.2.2.2.2.2.1
theorem ops_frost (h : Ops) : ∀ a : Int32, Op (m_X11_frost 0 a) (m_X12_frost 92 a) := h.2.2.2.2.2.2.2.2.2.2.2.2.2.2.2.2.2.2.2.2.2.2.2.2.2.2.2.2.1
theorem ops_count (h : Ops) : ∀ a : Int32, Op (m_X11_count 0 a) (m_X12_count 92 a) := h.2.2.2.2.2.2.2.2.2.2.2.2.2.2.2.2.2.2.2.2.2.2.2.2.2.2.2.2.2.1
theorem ops_keep (h : Ops) : ∀ a : Int32, Op (m_X11_keep 0 a) (m_X12_keep 92 a) := h.2.2.2.2.2.2.2.2.2.2.2.2.2.2.2.2.2.2.2.2.2.2.2.2.2.2.2.2.2.2.1
theorem ops_back (h : Ops) : ∀ a : Int32, Op (m_X11_back 0 a) (m_X12_back 92 a) := h.2.2.2.2.2.2.2.2.2.2.2.2.2.2.2.2.2.2.2.2.2.2.2.2.2.2.2.2.2.2.2.1
theorem ops_row (h : Ops) : ∀ a b c : Int32, Op (m_X11_row 0 a b c) (m_X12_row 92 a b c) := h.2.2.2.2.2.2.2.2.2.2.2.2.2.2.2.2.2.2.2.2.2.2.2.2.2.2.2.2.2.2.2.2.1
theorem ops_write (h : Ops) : ∀ (a b : Int32) (w : Int64), Op (m_X11_write 0 a b w) (m_X12_write 92 a b w) := h.2.2.2.2.2.2.2.2.2.2.2.2.2.2.2.2.2.2.2.2.2.2.2.2.2.2.2.2.2.2.2.2.2.1
theorem ops_paste (h : Ops) : ∀ a b c d e : Int32, Op (m_X11_paste 0 a b c d e) (m_X12_paste 92 a b c d e) := h.2.2.2.2.2.2.2.2.2.2.2.2.2.2.2.2.2.2.2.2.2.2.2.2.2.2.2.2.2.2.2.2.2.2
theorem call_ok {f g K : Hp → Option (Int32 × Hp)} {z : Hp} {s d : Nat} (H : Op f g) (h : In z s d) : ∃ y s2 d2, In y s2 d2 ∧ (isC 11 z 0 <| bnd (f z) fun v y => isC 12 y 92 <| bnd (g y) fun u y2 => if v = u then K y2 else some (0, y2)) = K y := by
  obtain ⟨v, y, y2, s2, d2, e1, e2, e3, e4⟩ := H z s d h
  refine ⟨y2, s2, d2, e4, ?_⟩
  rw [isC_eq (by rw [ck_0 (in_C h)]), e1, bnd_some, isC_eq e2, e3, bnd_some, if_pos rfl]
theorem lim_lt {L k : Nat} (hL : L < 2 ^ 31) (hk : k < 2 ^ 31) : (nI L - 6 < nI k) ↔ (L : Int) - 6 < k := by
  rw [Int32.lt_iff_toInt_lt, Int32.toInt_sub, nI_toInt hL, nI_toInt hk, show (6 : Int32).toInt = 6 by decide, bm (by omega) (by omega)]
theorem law_loop (H : Ops) {L : Nat} (hL : L ≤ 3072) (xs : Nat → Int32) {z : Hp} {s d : Nat} (h : In z s d) : ∃ z1, m_L_law_L18 (L, xs) 513 0 92 0 z = some (1, z1) := by
  refine loopQ (X := Int32 × Hp) (fun f x => m_L_law_L18 (L, xs) f 0 92 x.1 x.2) (fun t => ∃ z1, t = some (1, z1)) (fun n x => x.1 = nI (6 * n) ∧ ∃ s d, In x.2 s d) (L / 6) ?hs ?he 0 513 (0, z) (by omega) (by omega) ⟨rfl, s, d, h⟩
  case he =>
    rintro f ⟨v, y⟩ ⟨h1, _⟩
    dsimp only at h1 ⊢
    subst h1
    rw [m_L_law_L18]
    unfold xN
    dsimp only
    rw [if_pos ((lim_lt (by omega) (by omega)).mpr (by omega))]
    exact ⟨y, rfl⟩
  case hs =>
    rintro n f ⟨v, y⟩ hn ⟨h1, s, d, h⟩
    dsimp only at h1 h
    subst h1
    have ax : ∀ j : Nat, j < 6 → ∀ {α : Type} (k : Int32 → Option α), aX (L, xs) (nI (6 * n + j)) k = k (xs (6 * n + j)) := fun j hj α k => by
      unfold aX
      rw [if_pos (inb_nI (show 6 * n + j < (L, xs).1 by show _ < L; omega) (by show L < _; omega)), nI_clamp (by omega)]
    have a0 : ∀ {α : Type} (k : Int32 → Option α), aX (L, xs) (nI (6 * n)) k = k (xs (6 * n)) := fun k => ax 0 (by decide) k
    have a1 : ∀ {α : Type} (k : Int32 → Option α), aX (L, xs) (nI (6 * n) + 1) k = k (xs (6 * n + 1)) := fun k => by rw [nI_1]; exact ax 1 (by decide) k
    have a2 : ∀ {α : Type} (k : Int32 → Option α), aX (L, xs) (nI (6 * n) + 2) k = k (xs (6 * n + 2)) := fun k => by rw [show nI (6 * n) + 2 = nI (6 * n + 2) from nI_add _ 2]; exact ax 2 (by decide) k
    have a3 : ∀ {α : Type} (k : Int32 → Option α), aX (L, xs) (nI (6 * n) + 3) k = k (xs (6 * n + 3)) := fun k => by rw [show nI (6 * n) + 3 = nI (6 * n + 3) from nI_add _ 3]; exact ax 3 (by decide) k
    have a4 : ∀ {α : Type} (k : Int32 → Option α), aX (L, xs) (nI (6 * n) + 4) k = k (xs (6 * n + 4)) := fun k => by rw [show nI (6 * n) + 4 = nI (6 * n + 4) from nI_add _ 4]; exact ax 4 (by decide) k
    have a5 : ∀ {α : Type} (k : Int32 → Option α), aX (L, xs) (nI (6 * n) + 5) k = k (xs (6 * n + 5)) := fun k => by rw [show nI (6 * n) + 5 = nI (6 * n + 5) from nI_add _ 5]; exact ax 5 (by decide) k
    have e6 : nI (6 * n) + 6 = nI (6 * (n + 1)) := nI_add (6 * n) 6
    have fin : ∀ {t : Option (Int32 × Hp)}, (∃ y2 s2 d2, In y2 s2 d2 ∧ t = m_L_law_B1159 (L, xs) (m_L_law_L18 (L, xs) f) 0 92 (nI (6 * n)) y2) → (∃ x : Int32 × Hp, (x.1 = nI (6 * (n + 1)) ∧ ∃ s d, In x.2 s d) ∧ t = m_L_law_L18 (L, xs) f 0 92 x.1 x.2) := by
      rintro t ⟨y2, s2, d2, g1, g2⟩
      refine ⟨(nI (6 * (n + 1)), y2), ⟨rfl, s2, d2, g1⟩, ?_⟩
      rw [g2]
      unfold m_L_law_B1159
      rw [e6]
    left
    dsimp only
    rw [m_L_law_L18]
    unfold xN
    simp only [if_neg (show ¬ nI L - 6 < nI (6 * n) from fun q => absurd ((lim_lt (by omega) (by omega)).mp q) (by omega)), a0, a1, a2, a3, a4, a5]
    generalize (xs (6 * n) &&& 63) = op
    by_cases h0 : op = 0
    · rw [if_pos h0]
      exact fin (call_ok (ops_feed H _ _ _ _ _) h)
    by_cases h1 : op = 1
    · rw [if_neg h0, if_pos h1]
      exact fin (call_ok (ops_end H _) h)
    by_cases h2 : op = 2
    · rw [if_neg h0, if_neg h1, if_pos h2]
      exact fin (call_ok (ops_text H) h)
    by_cases h3 : op = 3
    · rw [if_neg h0, if_neg h1, if_neg h2, if_pos h3]
      exact fin (call_ok (ops_fault H _) h)
    by_cases h4 : op = 4
    · rw [if_neg h0, if_neg h1, if_neg h2, if_neg h3, if_pos h4]
      exact fin (call_ok (ops_tick H _) h)
    by_cases h5 : op = 5
    · rw [if_neg h0, if_neg h1, if_neg h2, if_neg h3, if_neg h4, if_pos h5]
      exact fin (call_ok (ops_cell H _ _ _) h)
    by_cases h6 : op = 6
    · rw [if_neg h0, if_neg h1, if_neg h2, if_neg h3, if_neg h4, if_neg h5, if_pos h6]
      exact fin (call_ok (ops_heat H _) h)
    by_cases h7 : op = 7
    · rw [if_neg h0, if_neg h1, if_neg h2, if_neg h3, if_neg h4, if_neg h5, if_neg h6, if_pos h7]
      unfold m_L_law_B418 m_L_law_B440
      simp only [a1, a2]
      by_cases hb : xs (6 * n + 2) = 0
      · simp only [if_pos hb]
        exact fin (call_ok (ops_run H _ _ (Or.inl rfl)) h)
      · simp only [if_neg hb]
        exact fin (call_ok (ops_run H _ _ (Or.inr rfl)) h)
    by_cases h8 : op = 8
    · rw [if_neg h0, if_neg h1, if_neg h2, if_neg h3, if_neg h4, if_neg h5, if_neg h6, if_neg h7, if_pos h8]
      exact fin (call_ok (ops_pipe H _ _) h)
    by_cases h9 : op = 9
    · rw [if_neg h0, if_neg h1, if_neg h2, if_neg h3, if_neg h4, if_neg h5, if_neg h6, if_neg h7, if_neg h8, if_pos h9]
      exact fin (call_ok (ops_cold H _) h)
    by_cases h10 : op = 10
    · rw [if_neg h0, if_neg h1, if_neg h2, if_neg h3, if_neg h4, if_neg h5, if_neg h6, if_neg h7, if_neg h8, if_neg h9, if_pos h10]
      exact fin (call_ok (ops_shut H) h)
    by_cases h11 : op = 11
    · rw [if_neg h0, if_neg h1, if_neg h2, if_neg h3, if_neg h4, if_neg h5, if_neg h6, if_neg h7, if_neg h8, if_neg h9, if_neg h10, if_pos h11]
      exact fin (call_ok (ops_way H) h)
    by_cases h12 : op = 12
    · rw [if_neg h0, if_neg h1, if_neg h2, if_neg h3, if_neg h4, if_neg h5, if_neg h6, if_neg h7, if_neg h8, if_neg h9, if_neg h10, if_neg h11, if_pos h12]
      exact fin (call_ok (ops_gaps H) h)
    by_cases h13 : op = 13
    · rw [if_neg h0, if_neg h1, if_neg h2, if_neg h3, if_neg h4, if_neg h5, if_neg h6, if_neg h7, if_neg h8, if_neg h9, if_neg h10, if_neg h11, if_neg h12, if_pos h13]
      exact fin (call_ok (ops_gap H _) h)
    by_cases h14 : op = 14
    · rw [if_neg h0, if_neg h1, if_neg h2, if_neg h3, if_neg h4, if_neg h5, if_neg h6, if_neg h7, if_neg h8, if_neg h9, if_neg h10, if_neg h11, if_neg h12, if_neg h13, if_pos h14]
      exact fin (call_ok (ops_thick H) h)
    by_cases h15 : op = 15
    · rw [if_neg h0, if_neg h1, if_neg h2, if_neg h3, if_neg h4, if_neg h5, if_neg h6, if_neg h7, if_neg h8, if_neg h9, if_neg h10, if_neg h11, if_neg h12, if_neg h13, if_neg h14, if_pos h15]
      exact fin (call_ok (ops_dig H _ _) h)
    by_cases h16 : op = 16
    · rw [if_neg h0, if_neg h1, if_neg h2, if_neg h3, if_neg h4, if_neg h5, if_neg h6, if_neg h7, if_neg h8, if_neg h9, if_neg h10, if_neg h11, if_neg h12, if_neg h13, if_neg h14, if_neg h15, if_pos h16]
      exact fin (call_ok (ops_lacks H _) h)
    by_cases h17 : op = 17
    · rw [if_neg h0, if_neg h1, if_neg h2, if_neg h3, if_neg h4, if_neg h5, if_neg h6, if_neg h7, if_neg h8, if_neg h9, if_neg h10, if_neg h11, if_neg h12, if_neg h13, if_neg h14, if_neg h15, if_neg h16, if_pos h17]
      exact fin (call_ok (ops_pump H) h)
    by_cases h18 : op = 18
    · rw [if_neg h0, if_neg h1, if_neg h2, if_neg h3, if_neg h4, if_neg h5, if_neg h6, if_neg h7, if_neg h8, if_neg h9, if_neg h10, if_neg h11, if_neg h12, if_neg h13, if_neg h14, if_neg h15, if_neg h16, if_neg h17, if_pos h18]
      exact fin (call_ok (ops_lift H _) h)
    by_cases h19 : op = 19
    · rw [if_neg h0, if_neg h1, if_neg h2, if_neg h3, if_neg h4, if_neg h5, if_neg h6, if_neg h7, if_neg h8, if_neg h9, if_neg h10, if_neg h11, if_neg h12, if_neg h13, if_neg h14, if_neg h15, if_neg h16, if_neg h17, if_neg h18, if_pos h19]
      exact fin (call_ok (ops_cracks H) h)
    by_cases h20 : op = 20
    · rw [if_neg h0, if_neg h1, if_neg h2, if_neg h3, if_neg h4, if_neg h5, if_neg h6, if_neg h7, if_neg h8, if_neg h9, if_neg h10, if_neg h11, if_neg h12, if_neg h13, if_neg h14, if_neg h15, if_neg h16, if_neg h17, if_neg h18, if_neg h19, if_pos h20]
      exact fin (call_ok (ops_house H _ _) h)
    by_cases h21 : op = 21
    · rw [if_neg h0, if_neg h1, if_neg h2, if_neg h3, if_neg h4, if_neg h5, if_neg h6, if_neg h7, if_neg h8, if_neg h9, if_neg h10, if_neg h11, if_neg h12, if_neg h13, if_neg h14, if_neg h15, if_neg h16, if_neg h17, if_neg h18, if_neg h19, if_neg h20, if_pos h21]
      exact fin (call_ok (ops_foretell H) h)
    by_cases h22 : op = 22
    · rw [if_neg h0, if_neg h1, if_neg h2, if_neg h3, if_neg h4, if_neg h5, if_neg h6, if_neg h7, if_neg h8, if_neg h9, if_neg h10, if_neg h11, if_neg h12, if_neg h13, if_neg h14, if_neg h15, if_neg h16, if_neg h17, if_neg h18, if_neg h19, if_neg h20, if_neg h21, if_pos h22]
      exact fin (call_ok (ops_off H) h)
    by_cases h23 : op = 23
    · rw [if_neg h0, if_neg h1, if_neg h2, if_neg h3, if_neg h4, if_neg h5, if_neg h6, if_neg h7, if_neg h8, if_neg h9, if_neg h10, if_neg h11, if_neg h12, if_neg h13, if_neg h14, if_neg h15, if_neg h16, if_neg h17, if_neg h18, if_neg h19, if_neg h20, if_neg h21, if_neg h22, if_pos h23]
      exact fin (call_ok (ops_more H _ _) h)
    by_cases h24 : op = 24
    · rw [if_neg h0, if_neg h1, if_neg h2, if_neg h3, if_neg h4, if_neg h5, if_neg h6, if_neg h7, if_neg h8, if_neg h9, if_neg h10, if_neg h11, if_neg h12, if_neg h13, if_neg h14, if_neg h15, if_neg h16, if_neg h17, if_neg h18, if_neg h19, if_neg h20, if_neg h21, if_neg h22, if_neg h23, if_pos h24]
      exact fin (call_ok (ops_chosen H) h)
    by_cases h25 : op = 25
    · rw [if_neg h0, if_neg h1, if_neg h2, if_neg h3, if_neg h4, if_neg h5, if_neg h6, if_neg h7, if_neg h8, if_neg h9, if_neg h10, if_neg h11, if_neg h12, if_neg h13, if_neg h14, if_neg h15, if_neg h16, if_neg h17, if_neg h18, if_neg h19, if_neg h20, if_neg h21, if_neg h22, if_neg h23, if_neg h24, if_pos h25]
      exact fin (call_ok (ops_gauge H _ _ _ _) h)
    by_cases h26 : op = 26
    · rw [if_neg h0, if_neg h1, if_neg h2, if_neg h3, if_neg h4, if_neg h5, if_neg h6, if_neg h7, if_neg h8, if_neg h9, if_neg h10, if_neg h11, if_neg h12, if_neg h13, if_neg h14, if_neg h15, if_neg h16, if_neg h17, if_neg h18, if_neg h19, if_neg h20, if_neg h21, if_neg h22, if_neg h23, if_neg h24, if_neg h25, if_pos h26]
      exact fin (call_ok (ops_lies H _) h)
    by_cases h27 : op = 27
    · rw [if_neg h0, if_neg h1, if_neg h2, if_neg h3, if_neg h4, if_neg h5, if_neg h6, if_neg h7, if_neg h8, if_neg h9, if_neg h10, if_neg h11, if_neg h12, if_neg h13, if_neg h14, if_neg h15, if_neg h16, if_neg h17, if_neg h18, if_neg h19, if_neg h20, if_neg h21, if_neg h22, if_neg h23, if_neg h24, if_neg h25, if_neg h26, if_pos h27]
      exact fin (call_ok (ops_most H _) h)
    by_cases h28 : op = 28
    · rw [if_neg h0, if_neg h1, if_neg h2, if_neg h3, if_neg h4, if_neg h5, if_neg h6, if_neg h7, if_neg h8, if_neg h9, if_neg h10, if_neg h11, if_neg h12, if_neg h13, if_neg h14, if_neg h15, if_neg h16, if_neg h17, if_neg h18, if_neg h19, if_neg h20, if_neg h21, if_neg h22, if_neg h23, if_neg h24, if_neg h25, if_neg h26, if_neg h27, if_pos h28]
      exact fin (call_ok (ops_frost H _) h)
    by_cases h29 : op = 29
    · rw [if_neg h0, if_neg h1, if_neg h2, if_neg h3, if_neg h4, if_neg h5, if_neg h6, if_neg h7, if_neg h8, if_neg h9, if_neg h10, if_neg h11, if_neg h12, if_neg h13, if_neg h14, if_neg h15, if_neg h16, if_neg h17, if_neg h18, if_neg h19, if_neg h20, if_neg h21, if_neg h22, if_neg h23, if_neg h24, if_neg h25, if_neg h26, if_neg h27, if_neg h28, if_pos h29]
      exact fin (call_ok (ops_count H _) h)
    by_cases h30 : op = 30
    · rw [if_neg h0, if_neg h1, if_neg h2, if_neg h3, if_neg h4, if_neg h5, if_neg h6, if_neg h7, if_neg h8, if_neg h9, if_neg h10, if_neg h11, if_neg h12, if_neg h13, if_neg h14, if_neg h15, if_neg h16, if_neg h17, if_neg h18, if_neg h19, if_neg h20, if_neg h21, if_neg h22, if_neg h23, if_neg h24, if_neg h25, if_neg h26, if_neg h27, if_neg h28, if_neg h29, if_pos h30]
      exact fin (call_ok (ops_keep H _) h)
    by_cases h31 : op = 31
    · rw [if_neg h0, if_neg h1, if_neg h2, if_neg h3, if_neg h4, if_neg h5, if_neg h6, if_neg h7, if_neg h8, if_neg h9, if_neg h10, if_neg h11, if_neg h12, if_neg h13, if_neg h14, if_neg h15, if_neg h16, if_neg h17, if_neg h18, if_neg h19, if_neg h20, if_neg h21, if_neg h22, if_neg h23, if_neg h24, if_neg h25, if_neg h26, if_neg h27, if_neg h28, if_neg h29, if_neg h30, if_pos h31]
      exact fin (call_ok (ops_back H _) h)
    by_cases h32 : op = 32
    · rw [if_neg h0, if_neg h1, if_neg h2, if_neg h3, if_neg h4, if_neg h5, if_neg h6, if_neg h7, if_neg h8, if_neg h9, if_neg h10, if_neg h11, if_neg h12, if_neg h13, if_neg h14, if_neg h15, if_neg h16, if_neg h17, if_neg h18, if_neg h19, if_neg h20, if_neg h21, if_neg h22, if_neg h23, if_neg h24, if_neg h25, if_neg h26, if_neg h27, if_neg h28, if_neg h29, if_neg h30, if_neg h31, if_pos h32]
      exact fin (call_ok (ops_row H _ _ _) h)
    by_cases h33 : op = 33
    · rw [if_neg h0, if_neg h1, if_neg h2, if_neg h3, if_neg h4, if_neg h5, if_neg h6, if_neg h7, if_neg h8, if_neg h9, if_neg h10, if_neg h11, if_neg h12, if_neg h13, if_neg h14, if_neg h15, if_neg h16, if_neg h17, if_neg h18, if_neg h19, if_neg h20, if_neg h21, if_neg h22, if_neg h23, if_neg h24, if_neg h25, if_neg h26, if_neg h27, if_neg h28, if_neg h29, if_neg h30, if_neg h31, if_neg h32, if_pos h33]
      exact fin (call_ok (ops_write H _ _ _) h)
    by_cases h34 : op = 34
    · rw [if_neg h0, if_neg h1, if_neg h2, if_neg h3, if_neg h4, if_neg h5, if_neg h6, if_neg h7, if_neg h8, if_neg h9, if_neg h10, if_neg h11, if_neg h12, if_neg h13, if_neg h14, if_neg h15, if_neg h16, if_neg h17, if_neg h18, if_neg h19, if_neg h20, if_neg h21, if_neg h22, if_neg h23, if_neg h24, if_neg h25, if_neg h26, if_neg h27, if_neg h28, if_neg h29, if_neg h30, if_neg h31, if_neg h32, if_neg h33, if_pos h34]
      exact fin (call_ok (ops_paste H _ _ _ _ _) h)
    rw [if_neg h0, if_neg h1, if_neg h2, if_neg h3, if_neg h4, if_neg h5, if_neg h6, if_neg h7, if_neg h8, if_neg h9, if_neg h10, if_neg h11, if_neg h12, if_neg h13, if_neg h14, if_neg h15, if_neg h16, if_neg h17, if_neg h18, if_neg h19, if_neg h20, if_neg h21, if_neg h22, if_neg h23, if_neg h24, if_neg h25, if_neg h26, if_neg h27, if_neg h28, if_neg h29, if_neg h30, if_neg h31, if_neg h32, if_neg h33, if_neg h34]
    exact fin ⟨y, s, d, h, rfl⟩
