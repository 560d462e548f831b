/-! ===== Walls.thinnestFrost: levels ===== -/
/-- D c: 0, or one more than the cost; q: this level's cells, i of them done; l: the next level's; P: cells of the levels before -/
def TI (w : Nat → Option Nat) (st : Nat → Bool) (L : Nat) (D q l : Nat → Nat) (m ml i P : Nat) : Prop :=
  (∀ c, c < 144 → D c ≠ 0 → Rr w st c (D c - 1)) ∧ (∀ j, j < m → q j < 144 ∧ D (q j) = L + 1) ∧ (∀ j, j < ml → l j < 144 ∧ D (l j) = L + 2 ∧ w (l j) = some 1) ∧
  (∀ c, c < 144 → D c ≠ 0 → D c ≤ L ∨ (∃ j, j < m ∧ q j = c) ∨ ∃ j, j < ml ∧ l j = c) ∧
  (∀ c, c < 144 → D c ≠ 0 → (D c ≤ L ∨ ∃ j, j < i ∧ q j = c) → rimB c = false ∧ ∀ e b, e < 144 → nb c e → w e = some b → D e ≠ 0 ∧ D e ≤ D c + b) ∧
  P + m + ml = sN (fun c => if D c = 0 then 0 else 1) 144 ∧ i ≤ m
theorem TI.le {w : Nat → Option Nat} {st : Nat → Bool} {L : Nat} {D q l : Nat → Nat} {m ml i P : Nat} (h : TI w st L D q l m ml i P) : P + m + ml ≤ 144 := by
  rw [h.2.2.2.2.2.1]
  exact sN_le (g := fun c => if D c = 0 then 0 else 1) (B := 1) (n := 144) (fun i _ => by split <;> omega)
/-- what a cell that is seen has cost -/
theorem TI.seen {w : Nat → Option Nat} {st : Nat → Bool} {L : Nat} {D q l : Nat → Nat} {m ml i P c b : Nat} (h : TI w st L D q l m ml i P) (hc : c < 144) (hd : D c ≠ 0) (hw : w c = some b) : D c ≤ L + 1 + b := by
  rcases h.2.2.2.1 c hc hd with g | ⟨j, g1, g2⟩ | ⟨j, g1, g2⟩
  · omega
  · have := (h.2.1 j g1).2
    rw [g2] at this
    omega
  · have g3 := h.2.2.1 j g1
    rw [g2, hw] at g3
    have e : b = 1 := by
      have := g3.2.2
      cases this
      rfl
    omega
theorem TI.addQ {w : Nat → Option Nat} {st : Nat → Bool} {L : Nat} {D q l : Nat → Nat} {m ml i P c : Nat} (h : TI w st L D q l m ml i P) (hc : c < 144) (h0 : D c = 0) (hr : Rr w st c L) : TI w st L (ups D c (L + 1)) (ups q m c) l (m + 1) ml i P := by
  obtain ⟨t1, t2, t3, t4, t5, t6, t7⟩ := h
  have dn : ∀ e, D e ≠ 0 → ups D c (L + 1) e = D e := fun e he => up_ne (fun g => he (by rw [g]; exact h0))
  have nz : ∀ e, ups D c (L + 1) e ≠ 0 → e ≠ c → D e ≠ 0 := fun e h1 h2 => by rw [up_ne h2] at h1; exact h1
  refine ⟨fun e he hd => ?_, fun j hj => ?_, fun j hj => ?_, fun e he hd => ?_, fun e he hd hdone => ?_, ?_, by omega⟩
  · by_cases g : e = c
    · rw [g, up_eq]; exact hr
    · rw [up_ne g] at hd ⊢; exact t1 e he hd
  · by_cases g : j = m
    · rw [g, up_eq, up_eq]; exact ⟨hc, rfl⟩
    · rw [up_ne g]
      have := t2 j (by omega)
      rw [dn _ (by omega)]
      exact this
  · have := t3 j hj
    rw [dn _ (by omega)]
    exact this
  · by_cases g : e = c
    · exact Or.inr (Or.inl ⟨m, by omega, by rw [up_eq, g]⟩)
    · rw [up_ne g] at hd ⊢
      rcases t4 e he hd with q1 | ⟨j, q1, q2⟩ | q1
      · exact Or.inl q1
      · exact Or.inr (Or.inl ⟨j, by omega, by rw [up_ne (by omega)]; exact q2⟩)
      · exact Or.inr (Or.inr q1)
  · have hec : e ≠ c := by
      intro g
      rw [g, up_eq] at hdone
      rcases hdone with q1 | ⟨j, q1, q2⟩
      · omega
      · rw [up_ne (by omega)] at q2
        have := t2 j (by omega)
        rw [q2] at this
        omega
    have hd0 := nz e hd hec
    rw [up_ne hec] at hdone ⊢
    have g := t5 e he hd0 (by
      rcases hdone with q1 | ⟨j, q1, q2⟩
      · exact Or.inl q1
      · rw [up_ne (by omega)] at q2
        exact Or.inr ⟨j, q1, q2⟩)
    refine ⟨g.1, fun e2 b h1 h2 h3 => ?_⟩
    have := g.2 e2 b h1 h2 h3
    rw [dn e2 this.1]
    exact this
  · have := sN_up (g := fun c => if D c = 0 then 0 else 1) (h := fun e => if ups D c (L + 1) e = 0 then 0 else 1) (k := c) (n := 144) hc (fun e he => by rw [up_ne he])
    simp only [up_eq, h0, if_true, if_neg (Nat.succ_ne_zero L)] at this
    omega
theorem TI.addL {w : Nat → Option Nat} {st : Nat → Bool} {L : Nat} {D q l : Nat → Nat} {m ml i P c : Nat} (h : TI w st L D q l m ml i P) (hc : c < 144) (h0 : D c = 0) (hr : Rr w st c (L + 1)) (hw : w c = some 1) : TI w st L (ups D c (L + 2)) q (ups l ml c) m (ml + 1) i P := by
  obtain ⟨t1, t2, t3, t4, t5, t6, t7⟩ := h
  have dn : ∀ e, D e ≠ 0 → ups D c (L + 2) e = D e := fun e he => up_ne (fun g => he (by rw [g]; exact h0))
  have nz : ∀ e, ups D c (L + 2) e ≠ 0 → e ≠ c → D e ≠ 0 := fun e h1 h2 => by rw [up_ne h2] at h1; exact h1
  refine ⟨fun e he hd => ?_, fun j hj => ?_, fun j hj => ?_, fun e he hd => ?_, fun e he hd hdone => ?_, ?_, by omega⟩
  · by_cases g : e = c
    · rw [g, up_eq]; exact hr
    · rw [up_ne g] at hd ⊢; exact t1 e he hd
  · have := t2 j hj
    rw [dn _ (by omega)]
    exact this
  · by_cases g : j = ml
    · rw [g, up_eq, up_eq]; exact ⟨hc, rfl, hw⟩
    · rw [up_ne g]
      have := t3 j (by omega)
      rw [dn _ (by omega)]
      exact this
  · by_cases g : e = c
    · exact Or.inr (Or.inr ⟨ml, by omega, by rw [up_eq, g]⟩)
    · rw [up_ne g] at hd ⊢
      rcases t4 e he hd with q1 | q1 | ⟨j, q1, q2⟩
      · exact Or.inl q1
      · exact Or.inr (Or.inl q1)
      · exact Or.inr (Or.inr ⟨j, by omega, by rw [up_ne (by omega)]; exact q2⟩)
  · have hec : e ≠ c := by
      intro g
      rw [g, up_eq] at hdone
      rcases hdone with q1 | ⟨j, q1, q2⟩
      · omega
      · have := t2 j (by omega)
        rw [q2] at this
        omega
    have hd0 := nz e hd hec
    rw [up_ne hec] at hdone ⊢
    have g := t5 e he hd0 hdone
    refine ⟨g.1, fun e2 b h1 h2 h3 => ?_⟩
    have := g.2 e2 b h1 h2 h3
    rw [dn e2 this.1]
    exact this
  · have := sN_up (g := fun c => if D c = 0 then 0 else 1) (h := fun e => if ups D c (L + 2) e = 0 then 0 else 1) (k := c) (n := 144) hc (fun e he => by rw [up_ne he])
    simp only [up_eq, h0, if_true, if_neg (Nat.succ_ne_zero (L + 1))] at this
    omega
/-- the next cell of this level -/
theorem TI.next {w : Nat → Option Nat} {st : Nat → Bool} {L : Nat} {D q l : Nat → Nat} {m ml i P : Nat} (h : TI w st L D q l m ml i P) (hi : i < m) (hr : rimB (q i) = false) (hs : ∀ e b, e < 144 → nb (q i) e → w e = some b → D e ≠ 0 ∧ D e ≤ L + 1 + b) : TI w st L D q l m ml (i + 1) P := by
  obtain ⟨t1, t2, t3, t4, t5, t6, t7⟩ := h
  refine ⟨t1, t2, t3, t4, fun e he hd hdone => ?_, t6, by omega⟩
  by_cases g : e = q i
  · subst g
    refine ⟨hr, fun e2 b h1 h2 h3 => ?_⟩
    rw [(t2 i hi).2]
    exact hs e2 b h1 h2 h3
  · refine t5 e he hd ?_
    rcases hdone with q1 | ⟨j, q1, q2⟩
    · exact Or.inl q1
    · by_cases g2 : j = i
      · rw [g2] at q2; exact absurd q2.symm g
      · exact Or.inr ⟨j, by omega, q2⟩
/-- the next level -/
theorem TI.swap {w : Nat → Option Nat} {st : Nat → Bool} {L : Nat} {D q l : Nat → Nat} {m ml P : Nat} (h : TI w st L D q l m ml m P) : TI w st (L + 1) D l q ml 0 0 (P + m) := by
  obtain ⟨t1, t2, t3, t4, t5, t6, t7⟩ := h
  refine ⟨t1, fun j hj => ⟨(t3 j hj).1, (t3 j hj).2.1⟩, fun j hj => absurd hj (by omega), fun e he hd => ?_, fun e he hd hdone => ?_, by omega, by omega⟩
  · rcases t4 e he hd with q1 | ⟨j, q1, q2⟩ | ⟨j, q1, q2⟩
    · exact Or.inl (by omega)
    · have := (t2 j q1).2
      rw [q2] at this
      exact Or.inl (by omega)
    · exact Or.inr (Or.inl ⟨j, q1, q2⟩)
  · refine t5 e he hd ?_
    rcases t4 e he hd with q1 | ⟨j, q1, q2⟩ | ⟨j, q1, q2⟩
    · exact Or.inl q1
    · exact Or.inr ⟨j, q1, q2⟩
    · have := (t3 j q1).2.1
      rw [q2] at this
      rcases hdone with d1 | ⟨j2, d1, _⟩
      · omega
      · omega
/-- what costs less than this level has been done -/
theorem TI.less {w : Nat → Option Nat} {st : Nat → Bool} {L : Nat} {D q l : Nat → Nat} {m ml i P : Nat} (h : TI w st L D q l m ml i P) (h6 : ∀ c b, c < 144 → st c = true → w c = some b → D c ≠ 0 ∧ D c ≤ b + 1) {c n : Nat} (hR : Rr w st c n) : n < L → rimB c = false := by
  have key : n < L → D c ≠ 0 ∧ D c ≤ n + 1 := by
    refine Rr.ind (P := fun c n => n < L → D c ≠ 0 ∧ D c ≤ n + 1) ?_ ?_ hR
    · intro c n hc h1 h2 _
      exact h6 c n hc h1 h2
    · intro c e k b hc he ih hnb hwb hlt
      have g := ih (by omega)
      have := (h.2.2.2.2.1 e he.lt g.1 (Or.inl (by omega))).2 c b hc hnb.symm hwb
      omega
  intro hlt
  have g := key hlt
  exact (h.2.2.2.2.1 c hR.lt g.1 (Or.inl (by omega))).1
theorem TI.found {w : Nat → Option Nat} {st : Nat → Bool} {L : Nat} {D q l : Nat → Nat} {m ml i P : Nat} (h : TI w st L D q l m ml i P) (h6 : ∀ c b, c < 144 → st c = true → w c = some b → D c ≠ 0 ∧ D c ≤ b + 1) (hL : L ≤ 144) (hi : i < m) (hr : rimB (q i) = true) : WayRes w st (nI L) := by
  have g := h.2.1 i hi
  right
  refine ⟨L, rfl, hL, ⟨q i, hr, ?_⟩, fun c n hrc hR => ?_⟩
  · have := h.1 (q i) g.1 (by omega)
    rw [g.2] at this
    exact this
  · by_cases hlt : n < L
    · have := h.less h6 hR hlt
      rw [hrc] at this
      cases this
    · omega
