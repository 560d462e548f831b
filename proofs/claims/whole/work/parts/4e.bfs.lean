/-! ===== Walls.shortestWay: cells by their distance ===== -/
def BF (w : Nat → Option Nat) (st : Nat → Bool) (d q : Nat → Nat) (m i : Nat) : Prop :=
  (∀ c, c < 144 → d c ≠ 0 → d c ≤ m ∧ Rr w st c (d c)) ∧ (∀ j, j < m → q j < 144 ∧ d (q j) ≠ 0) ∧ (∀ c, c < 144 → d c ≠ 0 → ∃ j, j < m ∧ q j = c) ∧ m = sN (fun c => if d c = 0 then 0 else 1) 144 ∧
  (∀ j k, j ≤ k → k < m → d (q j) ≤ d (q k)) ∧ (∀ k, k < m → i < m → d (q k) ≤ d (q i) + 1) ∧
  (∀ j, j < i → rimB (q j) = false ∧ ∀ e, e < 144 → nb (q j) e → w e = some 1 → d e ≠ 0 ∧ d e ≤ d (q j) + 1) ∧ (∀ c, c < 144 → st c = true → w c = some 1 → d c = 1) ∧ i ≤ m
theorem BF.m144 {w : Nat → Option Nat} {st : Nat → Bool} {d q : Nat → Nat} {m i : Nat} (h : BF w st d q m i) : m ≤ 144 := by
  rw [h.2.2.2.1]
  exact sN_le (g := fun c => if d c = 0 then 0 else 1) (B := 1) (n := 144) (fun i _ => by split <;> omega)
/-- a cell more -/
theorem BF.add {w : Nat → Option Nat} {st : Nat → Bool} {d q : Nat → Nat} {m i e : Nat} (h : BF w st d q m i) (hi : i < m) (he : e < 144) (h0 : d e = 0) (hw : w e = some 1) (hn : nb e (q i)) : BF w st (ups d e (d (q i) + 1)) (ups q m e) (m + 1) i := by
  obtain ⟨b1, b2, b3, b4, b5, b6, b7, b8, b9⟩ := h
  have bi := b2 i hi
  have b1i := b1 (q i) bi.1 bi.2
  have ne : ∀ j, j < m → q j ≠ e := fun j hj g => (b2 j hj).2 (by rw [g]; exact h0)
  have dq : ∀ j, j < m → ups d e (d (q i) + 1) (q j) = d (q j) := fun j hj => up_ne (ne j hj)
  have qj : ∀ j, j < m → ups q m e j = q j := fun j hj => up_ne (by omega)
  have dle : ∀ j, j < m → d (q j) ≤ d (q i) + 1 := fun j hj => b6 j hj hi
  refine ⟨fun c hc hd => ?_, fun j hj => ?_, fun c hc hd => ?_, ?_, fun j k hjk hk => ?_, fun k hk _ => ?_, fun j hj => ?_, fun c hc h1 h2 => ?_, by omega⟩
  · by_cases g : c = e
    · subst g
      rw [up_eq]
      exact ⟨by omega, b1i.2.go hc hn hw⟩
    · rw [up_ne g] at hd ⊢
      have := b1 c hc hd
      exact ⟨by omega, this.2⟩
  · by_cases g : j = m
    · rw [g, up_eq, up_eq]
      exact ⟨he, by omega⟩
    · rw [qj j (by omega), dq j (by omega)]
      exact b2 j (by omega)
  · by_cases g : c = e
    · exact ⟨m, by omega, by rw [up_eq, g]⟩
    · rw [up_ne g] at hd
      obtain ⟨j, j1, j2⟩ := b3 c hc hd
      exact ⟨j, by omega, by rw [qj j j1]; exact j2⟩
  · have := sN_up (g := fun c => if d c = 0 then 0 else 1) (h := fun c => if ups d e (d (q i) + 1) c = 0 then 0 else 1) (k := e) (n := 144) he (fun c hc => by rw [up_ne hc])
    simp only [up_eq, h0, if_true, if_neg (Nat.succ_ne_zero (d (q i)))] at this
    omega
  · by_cases g : k = m
    · rw [g, up_eq, up_eq]
      by_cases g2 : j = m
      · rw [g2, up_eq, up_eq]; exact Nat.le_refl _
      · rw [qj j (by omega), dq j (by omega)]
        exact dle j (by omega)
    · rw [qj j (by omega), dq j (by omega), qj k (by omega), dq k (by omega)]
      exact b5 j k hjk (by omega)
  · rw [qj i hi, dq i hi]
    by_cases g : k = m
    · rw [g, up_eq, up_eq]; exact Nat.le_refl _
    · rw [qj k (by omega), dq k (by omega)]
      exact dle k (by omega)
  · rw [qj j (by omega), dq j (by omega)]
    refine ⟨(b7 j hj).1, fun c hc hnb hwc => ?_⟩
    have := (b7 j hj).2 c hc hnb hwc
    by_cases g : c = e
    · rw [g] at this; omega
    · rw [up_ne g]; exact this
  · by_cases g : c = e
    · subst g
      have := b8 c hc h1 h2
      omega
    · rw [up_ne g]; exact b8 c hc h1 h2
/-- a rim cell is taken off: it is the nearest -/
theorem BF.found {w : Nat → Option Nat} {st : Nat → Bool} {d q : Nat → Nat} {m i : Nat} (h : BF w st d q m i) (hi : i < m) (hr : rimB (q i) = true) (hw : ∀ c b, w c = some b → b = 1) : WayRes w st (nI (d (q i))) := by
  have hm := h.m144
  obtain ⟨b1, b2, b3, b4, b5, b6, b7, b8, b9⟩ := h
  have bi := b2 i hi
  have b1i := b1 (q i) bi.1 bi.2
  right
  refine ⟨d (q i), rfl, by omega, ⟨q i, hr, b1i.2⟩, fun c n hrc hR => ?_⟩
  have key : n < d (q i) → d c ≠ 0 ∧ d c ≤ n := by
    refine Rr.ind (P := fun c n => n < d (q i) → d c ≠ 0 ∧ d c ≤ n) ?_ ?_ hR
    · intro c n hc h1 h2 _
      have e := hw c n h2
      subst e
      have := b8 c hc h1 h2
      omega
    · intro c e k b hc he ih hnb hwb hlt
      have e1 := hw c b hwb
      subst e1
      have g := ih (by omega)
      obtain ⟨j, j1, j2⟩ := b3 e he.lt g.1
      have ji : j < i := by
        by_cases c1 : j < i
        · exact c1
        · have := b5 i j (by omega) j1
          rw [j2] at this
          omega
      have := (b7 j ji).2 c hc (by rw [j2]; exact hnb.symm) hwb
      rw [j2] at this
      omega
  by_cases hlt : n < d (q i)
  · have g := key hlt
    obtain ⟨j, j1, j2⟩ := b3 c hR.lt g.1
    have ji : j < i := by
      by_cases c1 : j < i
      · exact c1
      · have := b5 i j (by omega) j1
        rw [j2] at this
        omega
    have := (b7 j ji).1
    rw [j2, hrc] at this
    cases this
  · omega
theorem BF.none {w : Nat → Option Nat} {st : Nat → Bool} {d q : Nat → Nat} {m : Nat} (h : BF w st d q m m) (hw : ∀ c b, w c = some b → b = 1) : WayRes w st (-1) := by
  obtain ⟨b1, b2, b3, b4, b5, b6, b7, b8, b9⟩ := h
  left
  refine ⟨rfl, fun c n hrc hR => ?_⟩
  have key : d c ≠ 0 := by
    refine Rr.ind (P := fun c _ => d c ≠ 0) ?_ ?_ hR
    · intro c n hc h1 h2
      have e := hw c n h2
      subst e
      have := b8 c hc h1 h2
      omega
    · intro c e k b hc he ih hnb hwb
      have e1 := hw c b hwb
      subst e1
      obtain ⟨j, j1, j2⟩ := b3 e he.lt ih
      exact ((b7 j j1).2 c hc (by rw [j2]; exact hnb.symm) hwb).1
  obtain ⟨j, j1, j2⟩ := b3 c hR.lt key
  have := (b7 j j1).1
  rw [j2, hrc] at this
  cases this
/-- the next one -/
theorem BF.next {w : Nat → Option Nat} {st : Nat → Bool} {d q : Nat → Nat} {m i : Nat} (h : BF w st d q m i) (hi : i < m) (hr : rimB (q i) = false) (hs : ∀ k e, k < 4 → bsC (q i) k = some e → w e = some 1 → d e ≠ 0 ∧ d e ≤ d (q i) + 1) : BF w st d q m (i + 1) := by
  obtain ⟨b1, b2, b3, b4, b5, b6, b7, b8, b9⟩ := h
  refine ⟨b1, b2, b3, b4, b5, fun k hk hi2 => ?_, fun j hj => ?_, b8, by omega⟩
  · have := b6 k hk hi
    have := b5 i (i + 1) (by omega) hi2
    omega
  · by_cases g : j = i
    · subst g
      refine ⟨hr, fun e he hnb hw => ?_⟩
      obtain ⟨k, k1, k2⟩ := nb_bsC (b2 j hi).1 he hnb
      exact hs k e k1 k2 hw
    · exact b7 j (by omega)
/-- the picture of the search in the heap; qa: where the queue lies -/
def HL (W : Nat → Int32) (z y : Hp) (qa : Nat) (d q : Nat → Nat) (m : Nat) : Prop := Fi (fun a => a = 74 ∨ a = 77 ∨ a = qa) z y ∧ (∀ c, c < 144 → zI y 77 c = nI (d c)) ∧ (∀ j, j < m → zI y qa j = nI (q j)) ∧ zI y 74 5 = nI m
theorem step_ok {W : Nat → Int32} {z y : Hp} {qa m e v : Nat} {d q : Nat → Nat} (hC : LayC z) (hq : zR z 74 3 = some qa) (hqa : qa = 78 ∨ qa = 79) (hk : zK z qa = (1, 288)) (h : HL W z y qa d q m) (hm : m < 288) (he : e < 144) : ∃ y2, m_X10_step 74 (nI e) (nI v) y = some ((), y2) ∧ HL W z y2 qa (ups d e v) (ups q m e) (m + 1) := by
  obtain ⟨h1, h2, h3, h4⟩ := h
  have hCy := hC.fi h1
  obtain ⟨y1, hy1⟩ : ∃ x, x = wI y 77 (ups (zI y 77) e (nI v)) := ⟨_, rfl⟩
  obtain ⟨y2, hy2⟩ : ∃ x, x = wI y1 qa (ups (zI y1 qa) m (nI e)) := ⟨_, rfl⟩
  obtain ⟨y3, hy3⟩ : ∃ x, x = wI y2 74 (ups (zI y2 74) 5 (nI (m + 1))) := ⟨_, rfl⟩
  have c1 : LayC y1 := hCy.of (by rw [hy1]; rfl) (by rw [hy1]; rfl)
  have c2 : LayC y2 := c1.of (by rw [hy2]; rfl) (by rw [hy2]; rfl)
  have i1 : zI y1 74 5 = nI m := by rw [hy1, zI_ne (by decide)]; exact h4
  have i2 : zI y2 74 5 = nI m := by rw [hy2, zI_ne (by omega)]; exact i1
  have k1 : zK y1 qa = (1, 288) := by rw [hy1, zK_wI, h1.2.1]; exact hk
  refine ⟨y3, ?_, ?_, fun c hc => ?_, fun j hj => ?_, ?_⟩
  · unfold m_X10_step
    rw [gI_eq (by rw [ck_74 hCy]), h4, if_pos (lt_lit hm (by decide)), gR_eq (by rw [ck_74 hCy]) (cr_74_2 hCy), sI_n (ck_77 hCy) he (by decide), ← hy1]
    rw [gR_eq (by rw [ck_74 c1]) (show zR y1 74 3 = some qa by rw [hy1, zR_wI, h1.2.2.2.1]; exact hq), gI_eq (by rw [ck_74 c1]), i1, sI_n k1 hm (by decide), ← hy2]
    rw [gI_eq (by rw [ck_74 c2]), i2, nI_1, pI_eq (by rw [ck_74 c2]), ← hy3]
  · rw [hy3, hy2, hy1]
    exact ((h1.trans (Fi.w (by omega))).trans (Fi.w (by omega))).trans (Fi.w (by omega))
  · rw [hy3, zI_ne (by decide), hy2, zI_ne (by omega), hy1, zI_eq]
    by_cases g : c = e
    · rw [g, up_eq, up_eq]
    · rw [up_ne g, up_ne g]; exact h2 c hc
  · rw [hy3, zI_ne (by omega), hy2, zI_eq]
    by_cases g : j = m
    · rw [g, up_eq, up_eq]
    · rw [up_ne g, up_ne g, hy1, zI_ne (by omega)]
      exact h3 j (by omega)
  · rw [hy3, zI_eq, up_eq]
