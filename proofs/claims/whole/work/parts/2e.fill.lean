/-! ===== Arrays.fill, and small rows for loops ===== -/
theorem FU_pos {n : Nat} (h : n < 1000000) : n < FU := h
theorem fill_L {a n : Nat} {v : Int32} (hn : n < 2 ^ 31) : ∀ (m k f : Nat) (z : Hp), k + m = n → m < f → zK z a = (1, n) → m_J7_fill_53178_L5 f a v (nI k) (nI n) z = some ((), wI z a (fun i => if k ≤ i ∧ i < n then v else zI z a i)) := by
  intro m
  induction m with
  | zero =>
    intro k f z h hf hk
    obtain ⟨f, rfl⟩ : ∃ g, f = g + 1 := ⟨f - 1, by omega⟩
    have e : k = n := by omega
    subst e
    rw [m_J7_fill_53178_L5, if_neg (nI_nlt (Nat.le_refl _) hn)]
    have e2 : (fun i => if k ≤ i ∧ i < k then v else zI z a i) = zI z a := by
      funext i
      rw [if_neg (by omega)]
    rw [e2, wI_self]
  | succ m ih =>
    intro k f z h hf hk
    obtain ⟨f, rfl⟩ : ∃ g, f = g + 1 := ⟨f - 1, by omega⟩
    rw [m_J7_fill_53178_L5, if_pos (nI_lt (by omega) hn), sI_n hk (by omega) hn, nI_1]
    rw [ih (k + 1) f (wI z a (ups (zI z a) k v)) (by omega) (by omega) hk, wI_wI]
    congr 3
    funext i
    rw [zI_wI, if_pos rfl, ups_eq]
    by_cases c1 : k + 1 ≤ i ∧ i < n
    · rw [if_pos c1, if_pos (by omega)]
    · rw [if_neg c1]
      by_cases c2 : i = k
      · rw [if_pos c2, if_pos (by omega)]
      · rw [if_neg c2, if_neg (by omega)]
theorem fill_ok {z : Hp} {a n : Nat} (v : Int32) (hk : zK z a = (1, n)) (hn : n < 1000000) : m_J7_fill_53178 a v z = some ((), wI z a (fun i => if i < n then v else zI z a i)) := by
  unfold m_J7_fill_53178 aN
  rw [hk, if_pos rfl]
  have h := fill_L (a := a) (v := v) (n := n) (by omega) n 0 FU z (by omega) hn hk
  rw [nI_0] at h
  show m_J7_fill_53178_L5 FU a v 0 (nI n) z = _
  rw [h]
  simp
theorem fillL_L {a n : Nat} {v : Int64} (hn : n < 2 ^ 31) : ∀ (m k f : Nat) (z : Hp), k + m = n → m < f → zK z a = (4, n) → m_J7_fill_d0a16_L6 f a v (nI k) (nI n) z = some ((), wL z a (fun i => if k ≤ i ∧ i < n then v else zL z a i)) := by
  intro m
  induction m with
  | zero =>
    intro k f z h hf hk
    obtain ⟨f, rfl⟩ : ∃ g, f = g + 1 := ⟨f - 1, by omega⟩
    have e : k = n := by omega
    subst e
    rw [m_J7_fill_d0a16_L6, if_neg (nI_nlt (Nat.le_refl _) hn)]
    have e2 : (fun i => if k ≤ i ∧ i < k then v else zL z a i) = zL z a := by
      funext i
      rw [if_neg (by omega)]
    rw [e2]
    refine congrArg some (congrArg (Prod.mk ()) ?_)
    refine Hp.ext rfl rfl rfl ?_ rfl
    funext b
    rw [zL_wL]
    split
    · rename_i q; rw [q]
    · rfl
  | succ m ih =>
    intro k f z h hf hk
    obtain ⟨f, rfl⟩ : ∃ g, f = g + 1 := ⟨f - 1, by omega⟩
    rw [m_J7_fill_d0a16_L6, if_pos (nI_lt (by omega) hn), sL_n hk (by omega) hn, nI_1]
    rw [ih (k + 1) f (wL z a (ups (zL z a) k v)) (by omega) (by omega) hk]
    refine congrArg some (congrArg (Prod.mk ()) ?_)
    refine Hp.ext rfl rfl rfl ?_ rfl
    funext b
    by_cases cb : b = a
    · subst cb
      funext i
      simp only [zL_wL, if_true, ups_eq]
      by_cases c1 : k + 1 ≤ i ∧ i < n
      · rw [if_pos c1, if_pos (by omega)]
      · rw [if_neg c1]
        by_cases c2 : i = k
        · rw [if_pos c2, if_pos (by omega)]
        · rw [if_neg c2, if_neg (by omega)]
    · simp only [zL_wL, cb, if_false]
theorem fillL_ok {z : Hp} {a n : Nat} (v : Int64) (hk : zK z a = (4, n)) (hn : n < 1000000) : m_J7_fill_d0a16 a v z = some ((), wL z a (fun i => if i < n then v else zL z a i)) := by
  unfold m_J7_fill_d0a16 aN
  rw [hk, if_pos rfl]
  have h := fillL_L (a := a) (v := v) (n := n) (by omega) n 0 FU z (by omega) hn hk
  rw [nI_0] at h
  show m_J7_fill_d0a16_L6 FU a v 0 (nI n) z = _
  rw [h]
  simp
