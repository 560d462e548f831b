/-! ===== ways: the rim, cells side by side, what can be reached at which cost ===== -/
def rimB (c : Nat) : Bool := decide (c % 12 = 0) || decide (c % 12 = 11) || decide (c / 12 = 0) || decide (c / 12 = 11)
theorem rimM_ok {c : Nat} (hc : c < 144) (z : Hp) : m_X12_isRim (nI c) z = some (bI (rimB c), z) := by
  have h1 : c % 12 < 12 := Nat.mod_lt _ (by decide)
  unfold m_X12_isRim m_X12_isRim_B32
  rw [rem12 (by omega), div12 (by omega)]
  simp (disch := omega) only [eq_c]
  by_cases a : c % 12 = 0 <;> by_cases b : c % 12 = 11 <;> by_cases d : c / 12 = 0 <;> by_cases e : c / 12 = 11 <;> simp [rimB, bI, a, b, d, e]
theorem rimC_ok {c : Nat} (hc : c < 144) (z : Hp) : m_X11_isAtRim (nI c) z = some (bI (rimB c), z) := by
  have h1 : c % 12 < 12 := Nat.mod_lt _ (by decide)
  unfold m_X11_isAtRim m_X11_isAtRim_B30
  rw [rem12 (by omega), div12 (by omega)]
  simp (disch := omega) only [eq_c]
  by_cases a : c % 12 = 0 <;> by_cases b : c % 12 = 11 <;> by_cases d : c / 12 = 0 <;> by_cases e : c / 12 = 11 <;> simp [rimB, bI, a, b, d, e]
theorem besideC_ok {c w : Nat} (hc : c < 144) (hw : w < 4) (z : Hp) : m_X11_beside (nI c) (nI w) z = some (oN (bsC c w), z) := by
  have h1 : c % 12 < 12 := Nat.mod_lt _ (by decide)
  have s12 : ∀ k, k ≤ c → nI c - nI k = nI (c - k) := fun k hk => by
    rw [show nI c = nI ((c - k) + k) by rw [Nat.sub_add_cancel hk], ← nI_add]
    exact Int32.add_sub_cancel _ _
  have hw4 : w = 0 ∨ w = 1 ∨ w = 2 ∨ w = 3 := by omega
  unfold m_X11_beside
  rw [rem12 (by omega)]
  rcases hw4 with rfl | rfl | rfl | rfl
  · rw [if_pos (show nI 0 = 0 from rfl)]
    simp (disch := omega) only [lt_c]
    by_cases g : c % 12 < 11
    · rw [if_pos g]; simp [bsC, g, oN, nI_1]
    · rw [if_neg g]; simp [bsC, g, oN]
  · rw [if_neg (by decide), if_pos (show nI 1 = 1 from rfl)]
    simp (disch := omega) only [gt_c]
    by_cases g : 0 < c % 12
    · rw [if_pos g]
      have e : nI c - 1 = nI (c - 1) := s12 1 (by omega)
      rw [e]; simp [bsC, g, oN]
    · rw [if_neg g]; simp [bsC, g, oN]
  · rw [if_neg (by decide), if_neg (by decide), if_pos (show nI 2 = 2 from rfl)]
    simp (disch := omega) only [lt_c]
    by_cases g : c < 12
    · rw [if_pos g]; simp [bsC, show ¬ 12 ≤ c by omega, oN]
    · rw [if_neg g]
      have e : nI c - 12 = nI (c - 12) := s12 12 (by omega)
      rw [e]; simp [bsC, show 12 ≤ c by omega, oN]
  · rw [if_neg (by decide), if_neg (by decide), if_neg (by decide)]
    simp (disch := omega) only [lt_c]
    by_cases g : c < 132
    · rw [if_pos g]
      have e : nI c + 12 = nI (c + 12) := nI_add c 12
      rw [e]; simp [bsC, g, oN]
    · rw [if_neg g]; simp [bsC, g, oN]
/-- one beside the other -/
def nb (c d : Nat) : Prop := (d = c + 1 ∧ c % 12 < 11) ∨ (c = d + 1 ∧ 0 < c % 12) ∨ d = c + 12 ∨ c = d + 12
theorem nb.symm {c d : Nat} (h : nb c d) : nb d c := by
  unfold nb at h ⊢
  omega
theorem bsM_nb {c w d : Nat} (hc : c < 144) (hw : w < 4) (h : bsM c w = some d) : nb c d ∧ d < 144 := by
  have hw4 : w = 0 ∨ w = 1 ∨ w = 2 ∨ w = 3 := by omega
  unfold bsM at h
  unfold nb
  rcases hw4 with rfl | rfl | rfl | rfl <;> simp at h <;> omega
theorem bsC_nb {c w d : Nat} (hc : c < 144) (hw : w < 4) (h : bsC c w = some d) : nb c d ∧ d < 144 := by
  have hw4 : w = 0 ∨ w = 1 ∨ w = 2 ∨ w = 3 := by omega
  unfold bsC at h
  unfold nb
  rcases hw4 with rfl | rfl | rfl | rfl <;> simp at h <;> omega
theorem nb_bsM {c d : Nat} (hc : c < 144) (hd : d < 144) (h : nb c d) : ∃ w, w < 4 ∧ bsM c w = some d := by
  rcases h with h | h | h | h
  · exact ⟨0, by omega, by simp [bsM, h.1, h.2]⟩
  · exact ⟨1, by omega, by simp [bsM, h.2]; omega⟩
  · exact ⟨2, by omega, by simp [bsM, h]; omega⟩
  · exact ⟨3, by omega, by simp [bsM]; omega⟩
theorem nb_bsC {c d : Nat} (hc : c < 144) (hd : d < 144) (h : nb c d) : ∃ w, w < 4 ∧ bsC c w = some d := by
  rcases h with h | h | h | h
  · exact ⟨0, by omega, by simp [bsC, h.1, h.2]⟩
  · exact ⟨1, by omega, by simp [bsC, h.2]; omega⟩
  · exact ⟨3, by omega, by simp [bsC, h]; omega⟩
  · exact ⟨2, by omega, by simp [bsC]; omega⟩
/-- beside the shaft, and not of it -/
def sdB (W : Nat → Int32) (c w : Nat) : Bool := match bsM c w with | some d => shW W d | none => false
def orB (P : Nat → Bool) : Nat → Bool
  | 0 => false
  | n + 1 => orB P n || P n
theorem orB_iff {P : Nat → Bool} : ∀ {n : Nat}, orB P n = true ↔ ∃ i, i < n ∧ P i = true
  | 0 => by simp [orB]
  | n + 1 => by
    show (orB P n || P n) = true ↔ _
    rw [Bool.or_eq_true, orB_iff]
    constructor
    · rintro (⟨i, h1, h2⟩ | h)
      · exact ⟨i, by omega, h2⟩
      · exact ⟨n, by omega, h⟩
    · rintro ⟨i, h1, h2⟩
      by_cases c : i = n
      · subst c; exact Or.inr h2
      · exact Or.inl ⟨i, by omega, h2⟩
def stB (W : Nat → Int32) (c : Nat) : Bool := orB (sdB W c) 4 && !shW W c
theorem stB_iff {W : Nat → Int32} {c : Nat} (hc : c < 144) : stB W c = true ↔ (shW W c = false ∧ ∃ d, d < 144 ∧ nb c d ∧ shW W d = true) := by
  unfold stB
  rw [Bool.and_eq_true, orB_iff]
  constructor
  · rintro ⟨⟨w, hw, h⟩, h2⟩
    refine ⟨by simpa using h2, ?_⟩
    unfold sdB at h
    split at h
    · rename_i d e
      exact ⟨d, (bsM_nb hc hw e).2, (bsM_nb hc hw e).1, h⟩
    · exact absurd h (by decide)
  · rintro ⟨h1, d, hd, h2, h3⟩
    obtain ⟨w, hw, e⟩ := nb_bsM hc hd h2
    exact ⟨⟨w, hw, by unfold sdB; rw [e]; exact h3⟩, by rw [h1]; rfl⟩
theorem besideShaft_ok {z : Hp} {c : Nat} (hM : LayM z) (hc : c < 144) : m_X12_isBesideShaft 92 (nI c) z = some (bI (stB (zI z 93) c), z) := by
  unfold m_X12_isBesideShaft
  refine loopQ (X := Int32 × Int32) (fun f x => m_X12_isBesideShaft_L4 m_X12_isBesideShaft_B46 f 92 (nI c) x.1 x.2 z) (fun t => t = some (bI (stB (zI z 93) c), z)) (fun n x => x.2 = nI n ∧ x.1 = bI (orB (sdB (zI z 93) c) n)) 4 ?hs ?he 0 FU (0, 0) (by decide) (by decide) ⟨rfl, rfl⟩
  case hs =>
    rintro n f ⟨a, v⟩ hn ⟨h1, h2⟩
    dsimp only at h1 h2
    subst h1 h2
    refine Or.inl ⟨(bI (orB (sdB (zI z 93) c) (n + 1)), nI (n + 1)), ⟨rfl, rfl⟩, ?_⟩
    dsimp only
    rw [m_X12_isBesideShaft_L4]
    have e0 := besideM_ok hc hn z
    cases hb : bsM c n with
    | none =>
      rw [hb] at e0
      have hs : sdB (zI z 93) c n = false := by unfold sdB; rw [hb]
      simp (disch := omega) [gI, gR, pI, pR, aI, sI, aL, sL, aO, aR, sR, aN, onul, bnd, isC, cpI, cpL, sLen, sCh, nwC, zK_wI, zR_wI, zL_wI, zN_wI, zI_wI, zK_wL, zR_wL, zI_wL, zN_wL, zL_wL, zK_wR, zI_wR, zL_wR, zN_wR, zR_wR, ups_eq, inb_nI, nI_clamp, wI_wI, nI_add, pk_mul, add_c, c_add, c_mul, lt_c, le_c, eq_c, gt_c, ge_c, inb_c, clamp_c, ladd, mk_92, mk_93, mk_94, mk_95, mk_96, mk_97, mk_98, mk_99, mk_100, mk_101, mk_102, mk_103, mk_104, mk_105, mk_106, mk_107, mk_108, mk_109, mk_110, mk_111, mk_112, mk_113, mk_114, mr_92_1, mr_92_2, mr_92_3, mr_92_4, mr_92_5, mr_92_7, mr_92_15, mr_92_16, mr_92_17, mr_92_24, mr_92_25, mr_92_26, mr_92_27, mr_92_28, mr_92_29, mr_92_30, mr_92_32, mr_92_33, mr_92_36, mr_92_37, mr_92_38, mr_92_39, hM, hn, m_X12_isBesideShaft_B46, m_X12_isBesideShaft_B39, m_X12_isBesideShaft_B38, m_X12_isBesideShaft_B34, e0, oN, bI_0, orB, hs]
      cases orB (sdB (zI z 93) c) n <;> simp [bI]
    | some d =>
      rw [hb] at e0
      have hd := (bsM_nb hc hn hb).2
      have hs : sdB (zI z 93) c n = shW (zI z 93) d := by unfold sdB; rw [hb]
      have k0 : ¬ nI d = -1 := nI_ne_m1 (by omega)
      simp (disch := omega) [gI, gR, pI, pR, aI, sI, aL, sL, aO, aR, sR, aN, onul, bnd, isC, cpI, cpL, sLen, sCh, nwC, zK_wI, zR_wI, zL_wI, zN_wI, zI_wI, zK_wL, zR_wL, zI_wL, zN_wL, zL_wL, zK_wR, zI_wR, zL_wR, zN_wR, zR_wR, ups_eq, inb_nI, nI_clamp, wI_wI, nI_add, pk_mul, add_c, c_add, c_mul, lt_c, le_c, eq_c, gt_c, ge_c, inb_c, clamp_c, ladd, mk_92, mk_93, mk_94, mk_95, mk_96, mk_97, mk_98, mk_99, mk_100, mk_101, mk_102, mk_103, mk_104, mk_105, mk_106, mk_107, mk_108, mk_109, mk_110, mk_111, mk_112, mk_113, mk_114, mr_92_1, mr_92_2, mr_92_3, mr_92_4, mr_92_5, mr_92_7, mr_92_15, mr_92_16, mr_92_17, mr_92_24, mr_92_25, mr_92_26, mr_92_27, mr_92_28, mr_92_29, mr_92_30, mr_92_32, mr_92_33, mr_92_36, mr_92_37, mr_92_38, mr_92_39, hM, hn, m_X12_isBesideShaft_B46, m_X12_isBesideShaft_B39, m_X12_isBesideShaft_B38, m_X12_isBesideShaft_B34, e0, oN, bI_0, orB, hs, k0, isShaftM_ok hM hd]
      cases orB (sdB (zI z 93) c) n <;> cases shW (zI z 93) d <;> simp [bI]
  case he =>
    rintro f ⟨a, v⟩ ⟨h1, h2⟩
    dsimp only at h1 h2 ⊢
    subst h1 h2
    rw [m_X12_isBesideShaft_L4]
    simp (disch := omega) [gI, gR, pI, pR, aI, sI, aL, sL, aO, aR, sR, aN, onul, bnd, isC, cpI, cpL, sLen, sCh, nwC, zK_wI, zR_wI, zL_wI, zN_wI, zI_wI, zK_wL, zR_wL, zI_wL, zN_wL, zL_wL, zK_wR, zI_wR, zL_wR, zN_wR, zR_wR, ups_eq, inb_nI, nI_clamp, wI_wI, nI_add, pk_mul, add_c, c_add, c_mul, lt_c, le_c, eq_c, gt_c, ge_c, inb_c, clamp_c, ladd, mk_92, mk_93, mk_94, mk_95, mk_96, mk_97, mk_98, mk_99, mk_100, mk_101, mk_102, mk_103, mk_104, mk_105, mk_106, mk_107, mk_108, mk_109, mk_110, mk_111, mk_112, mk_113, mk_114, mr_92_1, mr_92_2, mr_92_3, mr_92_4, mr_92_5, mr_92_7, mr_92_15, mr_92_16, mr_92_17, mr_92_24, mr_92_25, mr_92_26, mr_92_27, mr_92_28, mr_92_29, mr_92_30, mr_92_32, mr_92_33, mr_92_36, mr_92_37, mr_92_38, mr_92_39, hM, m_X12_isBesideShaft_B46, isShaftM_ok hM hc, bI_0]
    cases h1 : orB (sdB (zI z 93) c) 4 <;> cases h2 : shW (zI z 93) c <;> simp [bI, stB, h1, h2]
/-- a row of k + 1 cells that ends in c, at the cost n -/
def Ek (w : Nat → Option Nat) (st : Nat → Bool) : Nat → Nat → Nat → Prop
  | 0, c, n => c < 144 ∧ st c = true ∧ w c = some n
  | k + 1, c, n => c < 144 ∧ ∃ d m b, Ek w st k d m ∧ nb c d ∧ w c = some b ∧ n = m + b
def Rr (w : Nat → Option Nat) (st : Nat → Bool) (c n : Nat) : Prop := ∃ k, Ek w st k c n
theorem Rr.st {w : Nat → Option Nat} {st : Nat → Bool} {c n : Nat} (hc : c < 144) (h1 : st c = true) (h2 : w c = some n) : Rr w st c n := ⟨0, hc, h1, h2⟩
theorem Rr.go {w : Nat → Option Nat} {st : Nat → Bool} {c d m b : Nat} (h : Rr w st d m) (hc : c < 144) (h1 : nb c d) (h2 : w c = some b) : Rr w st c (m + b) := by
  obtain ⟨k, h⟩ := h
  exact ⟨k + 1, hc, d, m, b, h, h1, h2, rfl⟩
theorem Rr.ind {w : Nat → Option Nat} {st : Nat → Bool} {P : Nat → Nat → Prop} (h0 : ∀ c n, c < 144 → st c = true → w c = some n → P c n) (h1 : ∀ c d m b, c < 144 → Rr w st d m → P d m → nb c d → w c = some b → P c (m + b)) {c n : Nat} (h : Rr w st c n) : P c n := by
  obtain ⟨k, h⟩ := h
  induction k generalizing c n with
  | zero => exact h0 c n h.1 h.2.1 h.2.2
  | succ k ih =>
    obtain ⟨hc, d, m, b, g1, g2, g3, rfl⟩ := h
    exact h1 c d m b hc ⟨k, g1⟩ (ih g1) g2 g3
theorem Rr.lt {w : Nat → Option Nat} {st : Nat → Bool} {c n : Nat} (h : Rr w st c n) : c < 144 := Rr.ind (P := fun c _ => c < 144) (fun _ _ h _ _ => h) (fun _ _ _ _ h _ _ _ _ => h) h
/-- what a search for the cheapest row to the rim answers -/
def WayRes (w : Nat → Option Nat) (st : Nat → Bool) (v : Int32) : Prop := (v = -1 ∧ ∀ c n, rimB c = true → ¬ Rr w st c n) ∨ ∃ n, v = nI n ∧ n ≤ 144 ∧ (∃ c, rimB c = true ∧ Rr w st c n) ∧ ∀ c m, rimB c = true → Rr w st c m → n ≤ m
theorem WayRes.uniq {w : Nat → Option Nat} {st : Nat → Bool} {v u : Int32} (h : WayRes w st v) (g : WayRes w st u) : v = u := by
  rcases h with ⟨rfl, h⟩ | ⟨n, rfl, h1, ⟨c, h2, h3⟩, h4⟩
  · rcases g with ⟨rfl, g⟩ | ⟨n, rfl, g1, ⟨c, g2, g3⟩, g4⟩
    · rfl
    · exact absurd g3 (h c n g2)
  · rcases g with ⟨rfl, g⟩ | ⟨m, rfl, g1, ⟨d, g2, g3⟩, g4⟩
    · exact absurd h3 (g c n h2)
    · have : n = m := Nat.le_antisymm (h4 d m g2 g3) (g4 c n h2 h3)
      rw [this]
def wtW (W : Nat → Int32) (fz ot : Option Nat) (c : Nat) : Option Nat := if shW W c = true then none else if frW W c = true then fz else ot
