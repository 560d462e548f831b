/-! ===== loops by an invariant ===== -/
theorem loopQ {X α : Type} (L : Nat → X → Option α) (Q : Option α → Prop) (I : Nat → X → Prop) (N : Nat)
    (hs : ∀ n f x, n < N → I n x → (∃ y, I (n + 1) y ∧ L (f + 1) x = L f y) ∨ Q (L (f + 1) x)) (he : ∀ f x, I N x → Q (L (f + 1) x)) :
    ∀ n f x, n ≤ N → N - n < f → I n x → Q (L f x) := by
  intro n f
  induction f generalizing n with
  | zero => intro x _ h; exact absurd h (by omega)
  | succ f ih =>
    intro x hn hf hI
    by_cases c : n = N
    · subst c; exact he f x hI
    · rcases hs n f x (by omega) hI with ⟨y, hy, e⟩ | h
      · rw [e]; exact ih (n + 1) y (by omega) (by omega) hy
      · exact h
/-- by a measure that falls -/
theorem loopM {X α : Type} (L : Nat → X → Option α) (Q : Option α → Prop) (I : X → Prop) (μ : X → Nat)
    (hs : ∀ f x, I x → (∃ y, I y ∧ μ y < μ x ∧ L (f + 1) x = L f y) ∨ Q (L (f + 1) x)) : ∀ f x, μ x < f → I x → Q (L f x) := by
  intro f
  induction f with
  | zero => intro x h; exact absurd h (by omega)
  | succ f ih =>
    intro x hf hI
    rcases hs f x hI with ⟨y, hy, hm, e⟩ | h
    · rw [e]; exact ih y (by omega) hy
    · exact h
/-- sums -/
def sm (g : Nat → Int32) : Nat → Int32
  | 0 => 0
  | n + 1 => sm g n + g n
theorem sm_congr {g h : Nat → Int32} : ∀ {n : Nat}, (∀ i, i < n → g i = h i) → sm g n = sm h n
  | 0, _ => rfl
  | n + 1, e => by
    show sm g n + g n = sm h n + h n
    rw [sm_congr (fun i hi => e i (by omega)), e n (by omega)]
/-- the model's world, fresh -/
def plainW (i : Nat) : Int32 := if i = 5 then 100 else if i = 6 then 99999 else if 20 ≤ i ∧ i < 36 then (if i % 4 = 0 then 10 else if i % 4 = 1 then 15 else if i % 4 = 2 then 100 else 0) else 0
theorem gaf_ok {z : Hp} {a k : Nat} (hk : zK z a = (1, 810)) (h : k + 3 < 810) : m_X12_groundAtFirst a (nI k) z = some ((), wI z a (fun i => if i = k then 10 else if i = k + 1 then 15 else if i = k + 2 then 100 else if i = k + 3 then 0 else zI z a i)) := by
  have e1 : nI k + 1 = nI (k + 1) := nI_1 k
  have e2 : nI k + 2 = nI (k + 2) := nI_add k 2
  have e3 : nI k + 3 = nI (k + 3) := nI_add k 3
  unfold m_X12_groundAtFirst
  rw [sI_n hk (by omega) (by decide), e1, sI_n (n := 810) (by rw [zK_wI]; exact hk) (by omega) (by decide), e2, sI_n (n := 810) (by rw [zK_wI, zK_wI]; exact hk) (by omega) (by decide), e3, sI_n (n := 810) (by rw [zK_wI, zK_wI, zK_wI]; exact hk) (by omega) (by decide)]
  simp only [wI_wI, zI_wI, if_true]
  congr 3
  funext i
  simp only [ups_eq]
  by_cases c0 : i = k
  · subst c0; simp
  · by_cases c1 : i = k + 1
    · subst c1; simp
    · by_cases c2 : i = k + 2
      · subst c2; simp
      · by_cases c3 : i = k + 3
        · subst c3; simp
        · simp [c0, c1, c2, c3]
theorem plain_ok {z : Hp} {a : Nat} (hk : zK z a = (1, 810)) : m_X12_plain a z = some ((), wI z a (fun i => if i < 810 then plainW i else zI z a i)) := by
  unfold m_X12_plain
  refine loopQ (X := Int32 × Hp) (fun f x => m_X12_plain_L2 m_X12_plain_B19 f a x.1 x.2) (fun t => t = some ((), wI z a (fun i => if i < 810 then plainW i else zI z a i))) (fun n x => x.1 = nI n ∧ x.2 = wI z a (fun i => if i < n then 0 else zI z a i)) 810 ?hs ?he 0 FU (0, z) (by decide) (by decide) ⟨rfl, ?h0⟩
  case h0 => simp [wI_self]
  case hs =>
    rintro n f ⟨v, y⟩ hn ⟨h1, h2⟩
    dsimp only at h1 h2
    subst h1
    refine Or.inl ⟨(nI (n + 1), wI z a (fun i => if i < n + 1 then 0 else zI z a i)), ⟨rfl, rfl⟩, ?_⟩
    dsimp only
    rw [m_X12_plain_L2, if_pos (lt_lit hn (by decide)), sI_n (n := 810) (by rw [h2, zK_wI]; exact hk) hn (by decide), nI_1, h2, wI_wI]
    congr 2
    funext i
    rw [zI_wI, if_pos rfl, ups_eq]
    by_cases c : i = n
    · subst c; simp
    · by_cases c2 : i < n
      · simp [c, c2, show i < n + 1 by omega]
      · simp [c, c2, show ¬ i < n + 1 by omega]
  case he =>
    rintro f ⟨v, y⟩ ⟨h1, h2⟩
    dsimp only at h1 h2 ⊢
    subst h1
    rw [m_X12_plain_L2, if_neg (nlt_lit (Nat.le_refl _) (by decide))]
    have hy : zK y a = (1, 810) := by rw [h2]; exact hk
    unfold m_X12_plain_B19
    have e5 : (5 : Int32) = nI 5 := rfl
    have e6 : (6 : Int32) = nI 6 := rfl
    rw [e5, sI_n hy (by decide) (by decide), e6, sI_n (n := 810) (by rw [zK_wI]; exact hy) (by decide) (by decide)]
    obtain ⟨y2, hy2⟩ : ∃ w, w = wI (wI y a (ups (zI y a) 5 100)) a (ups (zI (wI y a (ups (zI y a) 5 100)) a) 6 99999) := ⟨_, rfl⟩
    rw [← hy2]
    refine loopQ (X := Int32 × Hp) (fun f x => m_X12_plain_L32 f a x.1 x.2) (fun t => t = some ((), wI z a (fun i => if i < 810 then plainW i else zI z a i))) (fun n x => x.1 = nI n ∧ x.2 = wI z a (fun i => if i < 810 then (if i < 20 + 4 * n then plainW i else 0) else zI z a i)) 4 ?s2 ?e2 0 FU (0, y2) (by decide) (by decide) ⟨rfl, ?z2⟩
    case z2 =>
      dsimp only
      rw [hy2, h2, zI_wI, if_pos rfl, wI_wI, zI_wI, if_pos rfl, wI_wI]
      refine congrArg (wI z a) (funext fun i => ?_)
      simp only [ups_eq, plainW]
      by_cases c5 : i = 5
      · subst c5; simp
      · by_cases c6 : i = 6
        · subst c6; simp
        · by_cases c8 : i < 810
          · by_cases c20 : i < 20
            · simp [c5, c6, c8, c20, show ¬ (20 ≤ i ∧ i < 36) by omega]
            · simp [c5, c6, c8, c20]
          · simp [c5, c6, c8]
    case s2 =>
      rintro n f ⟨v, y⟩ hn ⟨g1, g2⟩
      dsimp only at g1 g2
      subst g1
      refine Or.inl ⟨(nI (n + 1), wI z a (fun i => if i < 810 then (if i < 20 + 4 * (n + 1) then plainW i else 0) else zI z a i)), ⟨rfl, rfl⟩, ?_⟩
      dsimp only
      have ek : (20 : Int32) + 4 * nI n = nI (20 + 4 * n) := by
        rw [show (20 : Int32) = nI 20 from rfl, show (4 : Int32) = nI 4 from rfl, pk_mul, nI_add]
      rw [m_X12_plain_L32, if_pos (lt_lit hn (by decide)), ek, gaf_ok (by rw [g2, zK_wI]; exact hk) (by omega), bnd_some, nI_1, g2, wI_wI]
      congr 2
      funext i
      rw [zI_wI, if_pos rfl]
      by_cases c8 : i < 810
      · by_cases cA : i < 20 + 4 * n
        · rw [if_neg (by omega), if_neg (by omega), if_neg (by omega), if_neg (by omega), if_pos c8, if_pos cA, if_pos c8, if_pos (by omega)]
        · by_cases cB : i < 20 + 4 * (n + 1)
          · have hp : plainW i = if i % 4 = 0 then 10 else if i % 4 = 1 then 15 else if i % 4 = 2 then 100 else 0 := by
              unfold plainW
              rw [if_neg (by omega), if_neg (by omega), if_pos (by omega)]
            rw [hp]
            by_cases m0 : i = 20 + 4 * n
            · have r : i % 4 = 0 := by omega
              simp only [eq_true m0, eq_true c8, eq_true cB, r, if_true]
            · by_cases m1 : i = 20 + 4 * n + 1
              · have r : i % 4 = 1 := by omega
                simp only [eq_false m0, eq_true m1, eq_true c8, eq_true cB, r, if_true, if_false]
                rfl
              · by_cases m2 : i = 20 + 4 * n + 2
                · have r : i % 4 = 2 := by omega
                  simp only [eq_false m0, eq_false m1, eq_true m2, eq_true c8, eq_true cB, r, if_true, if_false]
                  rfl
                · have m3 : i = 20 + 4 * n + 3 := by omega
                  have r : i % 4 = 3 := by omega
                  simp only [eq_false m0, eq_false m1, eq_false m2, eq_true m3, eq_true c8, eq_true cB, r, if_true, if_false]
                  rfl
          · rw [if_neg (by omega), if_neg (by omega), if_neg (by omega), if_neg (by omega), if_pos c8, if_neg cA, if_pos c8, if_neg cB]
      · rw [if_neg (by omega), if_neg (by omega), if_neg (by omega), if_neg (by omega), if_neg c8, if_neg c8]
    case e2 =>
      rintro f ⟨v, y⟩ ⟨g1, g2⟩
      dsimp only at g1 g2 ⊢
      subst g1
      rw [m_X12_plain_L32, if_neg (nlt_lit (Nat.le_refl _) (by decide)), g2]
      congr 3
      funext i
      by_cases c8 : i < 810
      · rw [if_pos c8, if_pos c8]
        by_cases c36 : i < 20 + 4 * 4
        · rw [if_pos c36]
        · rw [if_neg c36]
          unfold plainW
          rw [if_neg (by omega), if_neg (by omega), if_neg (by omega)]
      · rw [if_neg c8, if_neg c8]
