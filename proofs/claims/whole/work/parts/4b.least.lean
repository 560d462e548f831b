/-! ===== the model's leastOut ===== -/
def sN (g : Nat → Nat) : Nat → Nat
  | 0 => 0
  | n + 1 => sN g n + g n
theorem sN_congr {g h : Nat → Nat} : ∀ {n : Nat}, (∀ i, i < n → g i = h i) → sN g n = sN h n
  | 0, _ => rfl
  | n + 1, e => by
    show sN g n + g n = sN h n + h n
    rw [sN_congr (fun i hi => e i (by omega)), e n (by omega)]
theorem sN_le {g : Nat → Nat} {B : Nat} : ∀ {n : Nat}, (∀ i, i < n → g i ≤ B) → sN g n ≤ n * B
  | 0, _ => by simp [sN]
  | n + 1, e => by
    have h1 := sN_le (n := n) (fun i hi => e i (by omega))
    have h2 := e n (by omega)
    show sN g n + g n ≤ (n + 1) * B
    rw [Nat.add_mul, Nat.one_mul]
    omega
theorem sN_up {g h : Nat → Nat} {k : Nat} : ∀ {n : Nat}, k < n → (∀ i, i ≠ k → h i = g i) → sN h n + g k = sN g n + h k
  | 0, hk, _ => absurd hk (by omega)
  | n + 1, hk, e => by
    show sN h n + h n + g k = sN g n + g n + h k
    by_cases c : n = k
    · subst c
      rw [sN_congr (fun i hi => e i (by omega))]
      omega
    · have := sN_up (n := n) (by omega) e
      have := e n c
      omega
/-- cells that have no number yet; what is left to lower -/
def uN (F : Nat → Int32) : Nat := sN (fun c => if F c = -1 then 1 else 0) 144
def mu (F : Nat → Int32) : Nat := sN (fun c => if F c = -1 then 145 else nn (F c)) 144
def FarOK (w : Nat → Option Nat) (st : Nat → Bool) (F : Nat → Int32) : Prop := ∀ c, c < 144 → F c = -1 ∨ ∃ n, F c = nI n ∧ n + uN F ≤ 144 ∧ Rr w st c n
/-- nothing is to be done at c -/
def Stb (w : Nat → Option Nat) (st : Nat → Bool) (F : Nat → Int32) (c : Nat) : Prop := ∀ b, w c = some b → (st c = true → ∃ k, F c = nI k ∧ k ≤ b ∧ k ≤ 144) ∧ ∀ d m, nb c d → d < 144 → F d = nI m → m ≤ 144 → ∃ k, F c = nI k ∧ k ≤ m + b ∧ k ≤ 144
/-- the least that comes to c from k sides -/
def Lst (F : Nat → Int32) (b : Nat) (s : Bool) (c k : Nat) (v : Int32) : Prop :=
  (v = -1 ∧ s = false ∧ ∀ w d, w < k → bsM c w = some d → F d = -1) ∨
  ∃ n, v = nI n ∧ n ≤ 145 ∧ ((s = true ∧ n = b) ∨ ∃ w d m, w < k ∧ bsM c w = some d ∧ F d = nI m ∧ m ≤ 144 ∧ n = m + b) ∧ (s = true → n ≤ b) ∧ ∀ w d m, w < k → bsM c w = some d → F d = nI m → m ≤ 144 → n ≤ m + b
theorem least_ok {z : Hp} {c b : Nat} {s : Bool} (K : Nat → Int32 → Int32 → Int32 → Int32 → Int32 → Hp → Option (Int32 × Hp)) (v1 v2 v3 : Int32) (hM : LayM z) (hc : c < 144) (hb : b ≤ 1) (hF : ∀ d, d < 144 → zI z 104 d = -1 ∨ ∃ n, zI z 104 d = nI n ∧ n ≤ 144) :
    ∃ v, Lst (zI z 104) b s c 4 v ∧ m_X12_leastOut_L95 K FU 92 v1 v2 v3 (nI c) (nI b) (if s = true then nI b else -1) 0 z = K 92 v1 v2 v3 (nI c) v z := by
  refine loopQ (X := Int32 × Int32) (fun f x => m_X12_leastOut_L95 K f 92 v1 v2 v3 (nI c) (nI b) x.1 x.2 z) (fun t => ∃ v, Lst (zI z 104) b s c 4 v ∧ t = K 92 v1 v2 v3 (nI c) v z) (fun n x => x.2 = nI n ∧ Lst (zI z 104) b s c n x.1) 4 ?hs ?he 0 FU (if s = true then nI b else -1, 0) (by decide) (by decide) ⟨rfl, ?h0⟩
  case h0 =>
    dsimp only
    unfold Lst
    cases s
    · left
      exact ⟨by simp, rfl, fun w d h => absurd h (by omega)⟩
    · right
      exact ⟨b, by simp, by omega, Or.inl ⟨rfl, rfl⟩, fun _ => Nat.le_refl _, fun w d m h => absurd h (by omega)⟩
  case hs =>
    rintro n f ⟨a, v⟩ hn ⟨h1, h2⟩
    dsimp only at h1 h2
    subst h1
    have e0 := besideM_ok hc hn z
    dsimp only
    rw [m_X12_leastOut_L95]
    cases hd : bsM c n with
    | none =>
      rw [hd] at e0
      refine Or.inl ⟨(a, nI (n + 1)), ⟨rfl, ?_⟩, ?_⟩
      · dsimp only
        rcases h2 with ⟨q1, q2, q3⟩ | ⟨m, q1, q2, q3, q4, q5⟩
        · refine Or.inl ⟨q1, q2, fun w d hw hwd => ?_⟩
          by_cases e : w = n
          · rw [e, hd] at hwd; cases hwd
          · exact q3 w d (by omega) hwd
        · refine Or.inr ⟨m, q1, q2, ?_, q4, fun w d k hw hwd => ?_⟩
          · rcases q3 with q3 | ⟨w, d, k, g1, g2⟩
            · exact Or.inl q3
            · exact Or.inr ⟨w, d, k, by omega, g2⟩
          · by_cases e : w = n
            · rw [e, hd] at hwd; cases hwd
            · exact q5 w d k (by omega) hwd
      · simp (disch := omega) [gI, gR, pI, pR, aI, sI, aL, sL, aO, aR, sR, aN, onul, bnd, isC, cpI, cpL, sLen, sCh, nwC, zK_wI, zR_wI, zL_wI, zN_wI, zI_wI, zK_wL, zR_wL, zI_wL, zN_wL, zL_wL, zK_wR, zI_wR, zL_wR, zN_wR, zR_wR, ups_eq, inb_nI, nI_clamp, wI_wI, nI_add, pk_mul, add_c, c_add, c_mul, lt_c, le_c, eq_c, gt_c, ge_c, inb_c, clamp_c, ladd, mk_92, mk_93, mk_94, mk_95, mk_96, mk_97, mk_98, mk_99, mk_100, mk_101, mk_102, mk_103, mk_104, mk_105, mk_106, mk_107, mk_108, mk_109, mk_110, mk_111, mk_112, mk_113, mk_114, mr_92_1, mr_92_2, mr_92_3, mr_92_4, mr_92_5, mr_92_7, mr_92_15, mr_92_16, mr_92_17, mr_92_24, mr_92_25, mr_92_26, mr_92_27, mr_92_28, mr_92_29, mr_92_30, mr_92_32, mr_92_33, mr_92_36, mr_92_37, mr_92_38, mr_92_39, hM, hn, e0, oN, m_X12_leastOut_B278, m_X12_leastOut_B269, m_X12_leastOut_B218, m_X12_leastOut_B215, m_X12_leastOut_B209, m_X12_leastOut_B198, m_X12_leastOut_B166, m_X12_leastOut_B160, m_X12_leastOut_B148, m_X12_leastOut_B90, m_X12_leastOut_B55, m_X12_leastOut_B22]
    | some d =>
      rw [hd] at e0
      have hdl := (bsM_nb hc hn hd).2
      have k0 : ¬ nI d = -1 := nI_ne_m1 (by omega)
      rcases hF d hdl with u | ⟨m, u, hm⟩
      · refine Or.inl ⟨(a, nI (n + 1)), ⟨rfl, ?_⟩, ?_⟩
        · dsimp only
          rcases h2 with ⟨q1, q2, q3⟩ | ⟨m, q1, q2, q3, q4, q5⟩
          · refine Or.inl ⟨q1, q2, fun w d hw hwd => ?_⟩
            by_cases e : w = n
            · rw [e, hd] at hwd; cases hwd; exact u
            · exact q3 w d (by omega) hwd
          · refine Or.inr ⟨m, q1, q2, ?_, q4, fun w d' k hw hwd hk hk2 => ?_⟩
            · rcases q3 with q3 | ⟨w, d, k, g1, g2⟩
              · exact Or.inl q3
              · exact Or.inr ⟨w, d, k, by omega, g2⟩
            · by_cases e : w = n
              · rw [e, hd] at hwd; cases hwd
                rw [u] at hk
                exact absurd hk.symm (nI_ne_m1 (by omega))
              · exact q5 w d' k (by omega) hwd hk hk2
        · simp (disch := omega) [gI, gR, pI, pR, aI, sI, aL, sL, aO, aR, sR, aN, onul, bnd, isC, cpI, cpL, sLen, sCh, nwC, zK_wI, zR_wI, zL_wI, zN_wI, zI_wI, zK_wL, zR_wL, zI_wL, zN_wL, zL_wL, zK_wR, zI_wR, zL_wR, zN_wR, zR_wR, ups_eq, inb_nI, nI_clamp, wI_wI, nI_add, pk_mul, add_c, c_add, c_mul, lt_c, le_c, eq_c, gt_c, ge_c, inb_c, clamp_c, ladd, mk_92, mk_93, mk_94, mk_95, mk_96, mk_97, mk_98, mk_99, mk_100, mk_101, mk_102, mk_103, mk_104, mk_105, mk_106, mk_107, mk_108, mk_109, mk_110, mk_111, mk_112, mk_113, mk_114, mr_92_1, mr_92_2, mr_92_3, mr_92_4, mr_92_5, mr_92_7, mr_92_15, mr_92_16, mr_92_17, mr_92_24, mr_92_25, mr_92_26, mr_92_27, mr_92_28, mr_92_29, mr_92_30, mr_92_32, mr_92_33, mr_92_36, mr_92_37, mr_92_38, mr_92_39, hM, hn, e0, oN, k0, u, m_X12_leastOut_B278, m_X12_leastOut_B269, m_X12_leastOut_B218, m_X12_leastOut_B215, m_X12_leastOut_B209, m_X12_leastOut_B198, m_X12_leastOut_B166, m_X12_leastOut_B160, m_X12_leastOut_B148, m_X12_leastOut_B90, m_X12_leastOut_B55, m_X12_leastOut_B22]
      · have km : ¬ nI m = -1 := nI_ne_m1 (by omega)
        have eqm : ∀ {k}, k ≤ 144 → zI z 104 d = nI k → k = m := fun {k} hk e => by
          rw [u] at e
          exact ((nI_eq (by omega) (by omega)).mp e).symm
        rcases h2 with ⟨rfl, q2, q3⟩ | ⟨p, rfl, q2, q3, q4, q5⟩
        · refine Or.inl ⟨(nI (m + b), nI (n + 1)), ⟨rfl, ?_⟩, ?_⟩
          · refine Or.inr ⟨m + b, rfl, by omega, Or.inr ⟨n, d, m, by omega, hd, u, hm, rfl⟩, (fun e => absurd (q2.symm.trans e) (by decide)), fun w d' k hw hwd hk hk2 => ?_⟩
            by_cases e : w = n
            · rw [e, hd] at hwd; cases hwd
              have := eqm hk2 hk
              omega
            · have := q3 w d' (by omega) hwd
              rw [this] at hk
              exact absurd hk.symm (nI_ne_m1 (by omega))
          · simp (disch := omega) [gI, gR, pI, pR, aI, sI, aL, sL, aO, aR, sR, aN, onul, bnd, isC, cpI, cpL, sLen, sCh, nwC, zK_wI, zR_wI, zL_wI, zN_wI, zI_wI, zK_wL, zR_wL, zI_wL, zN_wL, zL_wL, zK_wR, zI_wR, zL_wR, zN_wR, zR_wR, ups_eq, inb_nI, nI_clamp, wI_wI, nI_add, pk_mul, add_c, c_add, c_mul, lt_c, le_c, eq_c, gt_c, ge_c, inb_c, clamp_c, ladd, mk_92, mk_93, mk_94, mk_95, mk_96, mk_97, mk_98, mk_99, mk_100, mk_101, mk_102, mk_103, mk_104, mk_105, mk_106, mk_107, mk_108, mk_109, mk_110, mk_111, mk_112, mk_113, mk_114, mr_92_1, mr_92_2, mr_92_3, mr_92_4, mr_92_5, mr_92_7, mr_92_15, mr_92_16, mr_92_17, mr_92_24, mr_92_25, mr_92_26, mr_92_27, mr_92_28, mr_92_29, mr_92_30, mr_92_32, mr_92_33, mr_92_36, mr_92_37, mr_92_38, mr_92_39, hM, hn, e0, oN, k0, u, km, m_X12_leastOut_B278, m_X12_leastOut_B269, m_X12_leastOut_B218, m_X12_leastOut_B215, m_X12_leastOut_B209, m_X12_leastOut_B198, m_X12_leastOut_B166, m_X12_leastOut_B160, m_X12_leastOut_B148, m_X12_leastOut_B90, m_X12_leastOut_B55, m_X12_leastOut_B22]
        · have kp : ¬ nI p = -1 := nI_ne_m1 (by omega)
          by_cases hl : m + b < p
          · refine Or.inl ⟨(nI (m + b), nI (n + 1)), ⟨rfl, ?_⟩, ?_⟩
            · refine Or.inr ⟨m + b, rfl, by omega, Or.inr ⟨n, d, m, by omega, hd, u, hm, rfl⟩, fun e => by have := q4 e; omega, fun w d' k hw hwd hk hk2 => ?_⟩
              by_cases e : w = n
              · rw [e, hd] at hwd; cases hwd
                have := eqm hk2 hk
                omega
              · have := q5 w d' k (by omega) hwd hk hk2
                omega
            · simp (disch := omega) [gI, gR, pI, pR, aI, sI, aL, sL, aO, aR, sR, aN, onul, bnd, isC, cpI, cpL, sLen, sCh, nwC, zK_wI, zR_wI, zL_wI, zN_wI, zI_wI, zK_wL, zR_wL, zI_wL, zN_wL, zL_wL, zK_wR, zI_wR, zL_wR, zN_wR, zR_wR, ups_eq, inb_nI, nI_clamp, wI_wI, nI_add, pk_mul, add_c, c_add, c_mul, lt_c, le_c, eq_c, gt_c, ge_c, inb_c, clamp_c, ladd, mk_92, mk_93, mk_94, mk_95, mk_96, mk_97, mk_98, mk_99, mk_100, mk_101, mk_102, mk_103, mk_104, mk_105, mk_106, mk_107, mk_108, mk_109, mk_110, mk_111, mk_112, mk_113, mk_114, mr_92_1, mr_92_2, mr_92_3, mr_92_4, mr_92_5, mr_92_7, mr_92_15, mr_92_16, mr_92_17, mr_92_24, mr_92_25, mr_92_26, mr_92_27, mr_92_28, mr_92_29, mr_92_30, mr_92_32, mr_92_33, mr_92_36, mr_92_37, mr_92_38, mr_92_39, hM, hn, e0, oN, k0, u, km, kp, nI_ltI, hl, m_X12_leastOut_B278, m_X12_leastOut_B269, m_X12_leastOut_B218, m_X12_leastOut_B215, m_X12_leastOut_B209, m_X12_leastOut_B198, m_X12_leastOut_B166, m_X12_leastOut_B160, m_X12_leastOut_B148, m_X12_leastOut_B90, m_X12_leastOut_B55, m_X12_leastOut_B22]
          · refine Or.inl ⟨(nI p, nI (n + 1)), ⟨rfl, ?_⟩, ?_⟩
            · refine Or.inr ⟨p, rfl, q2, ?_, q4, fun w d' k hw hwd hk hk2 => ?_⟩
              · rcases q3 with q3 | ⟨w, d, k, g1, g2⟩
                · exact Or.inl q3
                · exact Or.inr ⟨w, d, k, by omega, g2⟩
              · by_cases e : w = n
                · rw [e, hd] at hwd; cases hwd
                  have := eqm hk2 hk
                  omega
                · exact q5 w d' k (by omega) hwd hk hk2
            · simp (disch := omega) [gI, gR, pI, pR, aI, sI, aL, sL, aO, aR, sR, aN, onul, bnd, isC, cpI, cpL, sLen, sCh, nwC, zK_wI, zR_wI, zL_wI, zN_wI, zI_wI, zK_wL, zR_wL, zI_wL, zN_wL, zL_wL, zK_wR, zI_wR, zL_wR, zN_wR, zR_wR, ups_eq, inb_nI, nI_clamp, wI_wI, nI_add, pk_mul, add_c, c_add, c_mul, lt_c, le_c, eq_c, gt_c, ge_c, inb_c, clamp_c, ladd, mk_92, mk_93, mk_94, mk_95, mk_96, mk_97, mk_98, mk_99, mk_100, mk_101, mk_102, mk_103, mk_104, mk_105, mk_106, mk_107, mk_108, mk_109, mk_110, mk_111, mk_112, mk_113, mk_114, mr_92_1, mr_92_2, mr_92_3, mr_92_4, mr_92_5, mr_92_7, mr_92_15, mr_92_16, mr_92_17, mr_92_24, mr_92_25, mr_92_26, mr_92_27, mr_92_28, mr_92_29, mr_92_30, mr_92_32, mr_92_33, mr_92_36, mr_92_37, mr_92_38, mr_92_39, hM, hn, e0, oN, k0, u, km, kp, nI_ltI, hl, m_X12_leastOut_B278, m_X12_leastOut_B269, m_X12_leastOut_B218, m_X12_leastOut_B215, m_X12_leastOut_B209, m_X12_leastOut_B198, m_X12_leastOut_B166, m_X12_leastOut_B160, m_X12_leastOut_B148, m_X12_leastOut_B90, m_X12_leastOut_B55, m_X12_leastOut_B22]
  case he =>
    rintro f ⟨a, v⟩ ⟨h1, h2⟩
    dsimp only at h1 h2 ⊢
    subst h1
    refine ⟨a, h2, ?_⟩
    rw [m_X12_leastOut_L95]
    simp (disch := omega) [gI, gR, pI, pR, aI, sI, aL, sL, aO, aR, sR, aN, onul, bnd, isC, cpI, cpL, sLen, sCh, nwC, zK_wI, zR_wI, zL_wI, zN_wI, zI_wI, zK_wL, zR_wL, zI_wL, zN_wL, zL_wL, zK_wR, zI_wR, zL_wR, zN_wR, zR_wR, ups_eq, inb_nI, nI_clamp, wI_wI, nI_add, pk_mul, add_c, c_add, c_mul, lt_c, le_c, eq_c, gt_c, ge_c, inb_c, clamp_c, ladd, mk_92, mk_93, mk_94, mk_95, mk_96, mk_97, mk_98, mk_99, mk_100, mk_101, mk_102, mk_103, mk_104, mk_105, mk_106, mk_107, mk_108, mk_109, mk_110, mk_111, mk_112, mk_113, mk_114, mr_92_1, mr_92_2, mr_92_3, mr_92_4, mr_92_5, mr_92_7, mr_92_15, mr_92_16, mr_92_17, mr_92_24, mr_92_25, mr_92_26, mr_92_27, mr_92_28, mr_92_29, mr_92_30, mr_92_32, mr_92_33, mr_92_36, mr_92_37, mr_92_38, mr_92_39, hM]
/-- one number is set or lowered -/
theorem far_set {w : Nat → Option Nat} {st : Nat → Bool} {F : Nat → Int32} {c n : Nat} (h : FarOK w st F) (hc : c < 144) (hR : Rr w st c n) (hn : F c = -1 ∧ n + uN F ≤ 145 ∧ n ≤ 144 ∨ ∃ k, F c = nI k ∧ k ≤ 144 ∧ n < k) : FarOK w st (ups F c (nI n)) ∧ mu (ups F c (nI n)) < mu F := by
  have n0 : n < 2 ^ 31 := by
    rcases hn with h1 | ⟨k, _, _, _⟩ <;> omega
  have nm : ¬ nI n = -1 := nI_ne_m1 n0
  have e1 := sN_up (g := fun c => if F c = -1 then 1 else 0) (h := fun i => if ups F c (nI n) i = -1 then 1 else 0) (k := c) (n := 144) hc (fun i hi => by simp only [up_ne hi])
  have e2 := sN_up (g := fun c => if F c = -1 then 145 else nn (F c)) (h := fun i => if ups F c (nI n) i = -1 then 145 else nn (ups F c (nI n) i)) (k := c) (n := 144) hc (fun i hi => by simp only [up_ne hi])
  have d1 : sN (fun i => if ups F c (nI n) i = -1 then 1 else 0) 144 = uN (ups F c (nI n)) := rfl
  have d2 : sN (fun i => if ups F c (nI n) i = -1 then 145 else nn (ups F c (nI n) i)) 144 = mu (ups F c (nI n)) := rfl
  have d3 : sN (fun c => if F c = -1 then 1 else 0) 144 = uN F := rfl
  have d4 : sN (fun c => if F c = -1 then 145 else nn (F c)) 144 = mu F := rfl
  rw [d1, d3] at e1
  rw [d2, d4] at e2
  simp only [up_eq, if_neg nm, nn_nI n0] at e1 e2
  have u144 : uN F ≤ 144 := by
    have := sN_le (g := fun c => if F c = -1 then 1 else 0) (B := 1) (n := 144) (fun i _ => by split <;> omega)
    exact this
  have key : uN (ups F c (nI n)) ≤ uN F ∧ n + uN (ups F c (nI n)) ≤ 144 ∧ mu (ups F c (nI n)) < mu F := by
    rcases hn with ⟨a, b, b2⟩ | ⟨k, a, hk, b⟩
    · rw [a, if_pos rfl] at e1 e2
      omega
    · have km : ¬ nI k = -1 := nI_ne_m1 (by omega)
      rw [a, if_neg km] at e1 e2
      rw [nn_nI (by omega)] at e2
      rcases h c hc with q | ⟨j, q1, q2, _⟩
      · rw [a] at q; exact absurd q km
      · rw [a] at q1
        have : k = j := (nI_eq (by omega) (by omega)).mp q1
        omega
  refine ⟨fun d hd => ?_, key.2.2⟩
  by_cases e : d = c
  · subst e
    right
    exact ⟨n, up_eq, key.2.1, hR⟩
  · rw [up_ne e]
    rcases h d hd with q | ⟨j, q1, q2, q3⟩
    · exact Or.inl q
    · exact Or.inr ⟨j, q1, by omega, q3⟩
/-- one pass over all cells -/
theorem pass_ok {z : Hp} {q : Nat} {fz ot : Option Nat} (K : Nat → Int32 → Int32 → Int32 → Hp → Option (Int32 × Hp)) (hM : LayM z) (hO : OkW (zI z 93) q) (hfz : ∀ b, fz = some b → b ≤ 1) (hot : ∀ b, ot = some b → b ≤ 1)
    (hF : FarOK (wtW (zI z 93) fz ot) (stB (zI z 93)) (zI z 104)) :
    ∃ fl G, m_X12_leastOut_L33 K FU 92 (oN fz) (oN ot) 0 0 z = K 92 (oN fz) (oN ot) fl (wI z 104 G) ∧ FarOK (wtW (zI z 93) fz ot) (stB (zI z 93)) G ∧ ((fl = 0 ∧ ∀ c, c < 144 → Stb (wtW (zI z 93) fz ot) (stB (zI z 93)) G c) ∨ (fl = 1 ∧ mu G < mu (zI z 104))) := by
  refine loopQ (X := Int32 × Int32 × Hp) (fun f x => m_X12_leastOut_L33 K f 92 (oN fz) (oN ot) x.1 x.2.1 x.2.2) (fun t => ∃ fl G, t = K 92 (oN fz) (oN ot) fl (wI z 104 G) ∧ FarOK (wtW (zI z 93) fz ot) (stB (zI z 93)) G ∧ ((fl = 0 ∧ ∀ c, c < 144 → Stb (wtW (zI z 93) fz ot) (stB (zI z 93)) G c) ∨ (fl = 1 ∧ mu G < mu (zI z 104))))
    (fun n x => x.2.1 = nI n ∧ ∃ G, x.2.2 = wI z 104 G ∧ FarOK (wtW (zI z 93) fz ot) (stB (zI z 93)) G ∧ ((x.1 = 0 ∧ G = zI z 104 ∧ ∀ c, c < n → Stb (wtW (zI z 93) fz ot) (stB (zI z 93)) G c) ∨ (x.1 = 1 ∧ mu G < mu (zI z 104)))) 144 ?hs ?he 0 FU (0, 0, z) (by decide) (by decide) ⟨rfl, zI z 104, (wI_self z 104).symm, hF, Or.inl ⟨rfl, rfl, fun c hc => absurd hc (by omega)⟩⟩
  case hs =>
    rintro n f ⟨fl, v, y⟩ hn ⟨h1, G, h2, h3, h4⟩
    dsimp only at h1 h2 h3 h4
    subst h1
    have hMy : LayM y := hM.of (by rw [h2]; rfl) (by rw [h2]; rfl)
    have y93 : zI y 93 = zI z 93 := by rw [h2, zI_ne (by decide)]
    have y104 : zI y 104 = G := by rw [h2, zI_eq]
    have eF := isFrozenM_ok (z := y) hMy (by rw [y93]; exact hO) hn
    have eS := isShaftM_ok (z := y) hMy hn
    have eB := besideShaft_ok (z := y) hMy hn
    rw [y93] at eF eS eB
    -- nothing to do at n
    have skip : Stb (wtW (zI z 93) fz ot) (stB (zI z 93)) G n → (∃ x : Int32 × Int32 × Hp, (x.2.1 = nI (n + 1) ∧ ∃ G, x.2.2 = wI z 104 G ∧ FarOK (wtW (zI z 93) fz ot) (stB (zI z 93)) G ∧ ((x.1 = 0 ∧ G = zI z 104 ∧ ∀ c, c < n + 1 → Stb (wtW (zI z 93) fz ot) (stB (zI z 93)) G c) ∨ (x.1 = 1 ∧ mu G < mu (zI z 104)))) ∧ m_X12_leastOut_L33 K f 92 (oN fz) (oN ot) fl (nI (n + 1)) y = m_X12_leastOut_L33 K f 92 (oN fz) (oN ot) x.1 x.2.1 x.2.2) := by
      intro hs
      refine ⟨(fl, nI (n + 1), y), ⟨rfl, G, h2, h3, ?_⟩, rfl⟩
      rcases h4 with ⟨q1, q2, q3⟩ | q
      · refine Or.inl ⟨q1, q2, fun c hc => ?_⟩
        by_cases e : c = n
        · rw [e]; exact hs
        · exact q3 c (by omega)
      · exact Or.inr q
    -- what the weight is
    have go : ∀ t : Option Nat, (∀ b, t = some b → b ≤ 1) → wtW (zI z 93) fz ot n = (if shW (zI z 93) n = true then none else t) → (∃ x : Int32 × Int32 × Hp, (x.2.1 = nI (n + 1) ∧ ∃ G, x.2.2 = wI z 104 G ∧ FarOK (wtW (zI z 93) fz ot) (stB (zI z 93)) G ∧ ((x.1 = 0 ∧ G = zI z 104 ∧ ∀ c, c < n + 1 → Stb (wtW (zI z 93) fz ot) (stB (zI z 93)) G c) ∨ (x.1 = 1 ∧ mu G < mu (zI z 104)))) ∧ m_X12_leastOut_B55 (m_X12_leastOut_L33 K f) 92 (oN fz) (oN ot) fl (nI n) (oN t) y = m_X12_leastOut_L33 K f 92 (oN fz) (oN ot) x.1 x.2.1 x.2.2) := by
      intro t ht hw
      unfold m_X12_leastOut_B55
      rw [isC_eq (by rw [mk_92 hMy]), eS, bnd_some]
      cases hsh : shW (zI z 93) n with
      | true =>
        rw [hsh, if_pos rfl] at hw
        rw [if_neg (by decide)]
        unfold m_X12_leastOut_B209
        rw [nI_1]
        exact skip (fun b hb => by rw [hw] at hb; cases hb)
      | false =>
        rw [hsh, if_neg (by decide)] at hw
        rw [if_pos (by decide)]
        cases t with
        | none =>
          rw [if_pos (show oN none = -1 from rfl)]
          unfold m_X12_leastOut_B209
          rw [nI_1]
          exact skip (fun b hb => by rw [hw] at hb; cases hb)
        | some b =>
          have hb := ht b rfl
          rw [if_neg (show ¬ oN (some b) = -1 from nI_ne_m1 (by omega)), isC_eq (by rw [mk_92 hMy]), eB, bnd_some]
          have hG : ∀ d, d < 144 → zI y 104 d = -1 ∨ ∃ n, zI y 104 d = nI n ∧ n ≤ 144 := fun d hd => by
            rw [y104]
            rcases h3 d hd with q | ⟨k, q1, q2, _⟩
            · exact Or.inl q
            · exact Or.inr ⟨k, q1, by omega⟩
          obtain ⟨v, hv, ev⟩ := least_ok (z := y) (s := stB (zI z 93) n) (m_X12_leastOut_B166 (m_X12_leastOut_L33 K f)) (oN fz) (oN ot) fl hMy hn hb hG
          rw [y104] at hv
          have e90 : (if bI (stB (zI z 93) n) = 0 then m_X12_leastOut_B90 (m_X12_leastOut_L33 K f) 92 (oN fz) (oN ot) fl (nI n) (oN (some b)) (-1) y else m_X12_leastOut_B90 (m_X12_leastOut_L33 K f) 92 (oN fz) (oN ot) fl (nI n) (oN (some b)) (oN (some b)) y) = m_X12_leastOut_B166 (m_X12_leastOut_L33 K f) 92 (oN fz) (oN ot) fl (nI n) v y := by
            rw [← ev]
            unfold m_X12_leastOut_B90
            cases stB (zI z 93) n <;> rfl
          rw [e90]
          unfold m_X12_leastOut_B166
          rcases hv with ⟨rfl, q2, q3⟩ | ⟨p, rfl, p1, p2, p3, p4⟩
          · rw [if_pos rfl]
            unfold m_X12_leastOut_B209
            rw [nI_1]
            refine skip (fun b' hb' => ⟨fun e => absurd (q2.symm.trans e) (by decide), fun d m hnb hd hm hm2 => ?_⟩)
            obtain ⟨w, hw1, hw2⟩ := nb_bsM hn hd hnb
            rw [q3 w d hw1 hw2] at hm
            exact absurd hm.symm (nI_ne_m1 (by omega))
          · rw [if_neg (nI_ne_m1 (by omega)), gR_eq (by rw [mk_92 hMy]) (mr_92_26 hMy), aI_n (mk_104 hMy) hn (by decide), y104]
            have hRn : Rr (wtW (zI z 93) fz ot) (stB (zI z 93)) n p := by
              rcases p2 with ⟨a1, rfl⟩ | ⟨w, d, m, a1, a2, a3, a4, rfl⟩
              · exact Rr.st hn a1 hw
              · have hd := bsM_nb hn a1 a2
                rcases h3 d hd.2 with q | ⟨k, q1, q2, q3⟩
                · rw [a3] at q; exact absurd q (nI_ne_m1 (by omega))
                · rw [a3] at q1
                  have : m = k := (nI_eq (by omega) (by omega)).mp q1
                  subst this
                  exact q3.go hn hd.1 hw
            have setq : ∀ hset : (G n = -1 ∧ p + uN G ≤ 145 ∧ p ≤ 144 ∨ ∃ k, G n = nI k ∧ k ≤ 144 ∧ p < k), (∃ x : Int32 × Int32 × Hp, (x.2.1 = nI (n + 1) ∧ ∃ G, x.2.2 = wI z 104 G ∧ FarOK (wtW (zI z 93) fz ot) (stB (zI z 93)) G ∧ ((x.1 = 0 ∧ G = zI z 104 ∧ ∀ c, c < n + 1 → Stb (wtW (zI z 93) fz ot) (stB (zI z 93)) G c) ∨ (x.1 = 1 ∧ mu G < mu (zI z 104)))) ∧ m_X12_leastOut_B198 (m_X12_leastOut_L33 K f) 92 (oN fz) (oN ot) (nI n) (nI p) y = m_X12_leastOut_L33 K f 92 (oN fz) (oN ot) x.1 x.2.1 x.2.2) := by
              intro hset
              obtain ⟨s1, s2⟩ := far_set h3 hn hRn hset
              refine ⟨(1, nI (n + 1), wI z 104 (ups G n (nI p))), ⟨rfl, _, rfl, s1, Or.inr ⟨rfl, ?_⟩⟩, ?_⟩
              · rcases h4 with ⟨_, q2, _⟩ | ⟨_, q⟩
                · rw [← q2]; exact s2
                · omega
              · unfold m_X12_leastOut_B198 m_X12_leastOut_B209
                rw [gR_eq (by rw [mk_92 hMy]) (mr_92_26 hMy), sI_n (mk_104 hMy) hn (by decide), y104, nI_1, h2, wI_wI]
            have u144 : uN G ≤ 144 := sN_le (g := fun c => if G c = -1 then 1 else 0) (B := 1) (n := 144) (fun i _ => by split <;> omega)
            rcases h3 n hn with q | ⟨k, q1, q2, q3⟩
            · rw [if_pos q]
              have bd : p + uN G ≤ 145 ∧ p ≤ 144 := by
                have u1 : 1 ≤ uN G := by
                  have := sN_up (g := fun c => if G c = -1 then 1 else 0) (h := fun c => if c = n then 0 else if G c = -1 then 1 else 0) (k := n) (n := 144) hn (fun i hi => by rw [if_neg hi])
                  simp only [q, if_true] at this
                  have d3 : sN (fun c => if G c = -1 then 1 else 0) 144 = uN G := rfl
                  omega
                rcases p2 with ⟨a1, rfl⟩ | ⟨w, d, m, a1, a2, a3, a4, rfl⟩
                · omega
                · have hd := bsM_nb hn a1 a2
                  rcases h3 d hd.2 with q' | ⟨k, q1, q2, q3⟩
                  · rw [a3] at q'; exact absurd q' (nI_ne_m1 (by omega))
                  · rw [a3] at q1
                    have : m = k := (nI_eq (by omega) (by omega)).mp q1
                    omega
              exact setq (Or.inl ⟨q, bd⟩)
            · rw [q1, if_neg (nI_ne_m1 (by omega)), gR_eq (by rw [mk_92 hMy]) (mr_92_26 hMy), aI_n (mk_104 hMy) hn (by decide), y104, q1]
              by_cases hl : p < k
              · rw [if_pos (nI_lt hl (by omega))]
                exact setq (Or.inr ⟨k, q1, by omega, hl⟩)
              · rw [if_neg (nI_nlt (by omega) (by omega))]
                unfold m_X12_leastOut_B209
                rw [nI_1]
                refine skip (fun b' hb' => ?_)
                rw [hw] at hb'
                cases hb'
                refine ⟨fun e => ⟨k, q1, by have := p3 e; omega, by omega⟩, fun d m hnb hd hm hm2 => ⟨k, q1, ?_, by omega⟩⟩
                obtain ⟨w, hw1, hw2⟩ := nb_bsM hn hd hnb
                have := p4 w d m hw1 hw2 hm hm2
                omega
    left
    dsimp only
    rw [m_X12_leastOut_L33, if_pos (lt_lit hn (by decide)), isC_eq (by rw [mk_92 hMy]), eF, bnd_some]
    cases hfr : frW (zI z 93) n with
    | true =>
      rw [if_neg (by decide)]
      exact go fz hfz (by unfold wtW; rw [hfr, if_pos (rfl : true = true)])
    | false =>
      rw [if_pos (by decide)]
      exact go ot hot (by unfold wtW; rw [hfr]; rfl)
  case he =>
    rintro f ⟨fl, v, y⟩ ⟨h1, G, h2, h3, h4⟩
    dsimp only at h1 h2 h3 h4 ⊢
    subst h1
    rw [m_X12_leastOut_L33, if_neg (nlt_lit (Nat.le_refl _) (by decide)), h2]
    refine ⟨fl, G, rfl, h3, ?_⟩
    rcases h4 with ⟨q1, q2, q3⟩ | q
    · exact Or.inl ⟨q1, q3⟩
    · exact Or.inr q
