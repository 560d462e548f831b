/-! ===== text: what each line tells ===== -/
theorem ngv_b {b : Nat → Nat} {n m : Nat} {s : Ps} (hm : m < 1000000) : -(m : Int) ≤ (ngv b n m s).toInt ∧ (ngv b n m s).toInt ≤ 0 := by
  unfold ngv ngm nmk
  split
  · split
    · rename_i h
      have h2 : 0 ≤ (mn b n s).1.2.2.2 ∧ (mn b n s).1.2.2.2 ≤ m := of_decide_eq_true h.2
      rw [neg_nI (by omega)]
      omega
    · rw [neg_nI (by omega)]
      omega
  · split
    · rename_i h
      have h2 : 0 ≤ (mn b n s).1.2.2.2 ∧ (mn b n s).1.2.2.2 ≤ 0 := of_decide_eq_true h.2
      rw [nI_toInt (by omega)]
      omega
    · rw [neg_nI (by omega)]
      omega
def tgG (G : Nat → Int32) : Nat → Bool := fun g => decide (¬ G g = 0)
def tgP (F : Nat → Int32) : Nat → Bool := fun c => decide (∃ p, p < nPW F ∧ F (624 + 6 * p) = nI c)
def uG (b : Nat → Nat) (n : Nat) (F G : Nat → Int32) (s : Ps) : Nat → Int32 := ups (ups (ups (ups F (20 + 4 * nmv 0 3 s) (nI (nmv 0 15 (tG2 b n (tgG G) s)))) (20 + 4 * nmv 0 3 s + 1) (nI (nmv 0 15 (tG3 b n (tgG G) s)))) (20 + 4 * nmv 0 3 s + 2) (nI (nmv 1 999 (tG4 b n (tgG G) s)))) (20 + 4 * nmv 0 3 s + 3) (ngv b n 30 (tG5 b n (tgG G) s))
def uL (b : Nat → Nat) (n : Nat) (F : Nat → Int32) (s : Ps) : Nat → Int32 := fun i => if 48 ≤ i ∧ i < 192 then bx (bX 0 11 s) (bY b n 0 11 s) (bX2 b n 0 11 s) (bY2 b n 0 11 s) (nI (nmv 0 3 (tL1 b n s))) (fun c => F (48 + c)) (i - 48) else F i
def uS (b : Nat → Nat) (n : Nat) (F S : Nat → Int32) (s : Ps) : Nat → Int32 := ups F (36 + nmv 0 11 s) (nI (nmv 0 30 (tS1 b n (tgG S) s)))
def uX (b : Nat → Nat) (n : Nat) (F : Nat → Int32) (s : Ps) : Nat → Int32 := ups (ups (ups (ups (ups F 7 1) 8 (nI (bX 1 10 s))) 9 (nI (bY b n 1 10 s))) 10 (nI (bX2 b n 1 10 s))) 11 (nI (bY2 b n 1 10 s))
def uP (b : Nat → Nat) (n : Nat) (F : Nat → Int32) (s : Ps) : Nat → Int32 := ups (ups (ups (ups (ups F (624 + 6 * nPW F) (nI (cP b n s))) (624 + 6 * nPW F + 1) (ngv b n 400 (tP2 b n (tgP F) s))) (624 + 6 * nPW F + 2) (nI (nmv 0 60 (tP3 b n (tgP F) s)))) (624 + 6 * nPW F + 3) 1) 2 (nI (nPW F + 1))
def uH (b : Nat → Nat) (n : Nat) (F : Nat → Int32) (s : Ps) : Nat → Int32 := ups (ups (ups F (732 + 3 * nHW F) (nI (nmv 0 10 s))) (732 + 3 * nHW F + 1) (nI (nmv 0 999 (tH1 b n s)))) 3 (nI (nHW F + 1))
def uR (b : Nat → Nat) (n : Nat) (F : Nat → Int32) (s : Ps) : Nat → Int32 := ups (rl b n (nRW F) 4 0 (wd b n (txw 17) s) F).2 4 (nI (nRW F + 1))
section
variable {z0 z y : Hp} {b : Nat → Nat} {n d : Nat} {s s' : Ps} {M : Me} {F G S : Nat → Int32} {fa co : Int32}
theorem k0_C (h : HC z0 z b n d s M fa co) (D : DD d M F G S fa co) : ∃ y M', m_X2_readGround 68 z = some ((), y) ∧ HC z0 y b n d (tG b n (tgG G) s) M' fa co ∧ M' d 13 = M d 13 ∧ DD d M' (uG b n F G s) (ups G (nmv 0 3 s) 1) S fa co := by
  have hd := h.dd
  have hg := (nmv_b (s := s) (show 0 ≤ 3 by decide)).2
  obtain ⟨a1, a2, a3, a4, a5, a6, a7, a8, a9, a10, a11, a12⟩ := D
  obtain ⟨y, r, h1⟩ := gr_C (tgG G) h (fun g hg => by unfold tgG; rw [(a11 g hg).1])
  have v1 := nmv_b (s := tG2 b n (tgG G) s) (show 0 ≤ 15 by decide)
  have v2 := nmv_b (s := tG3 b n (tgG G) s) (show 0 ≤ 15 by decide)
  have v3 := nmv_b (s := tG4 b n (tgG G) s) (show 1 ≤ 999 by decide)
  have v4 := ngv_b (b := b) (n := n) (s := tG5 b n (tgG G) s) (show 30 < 1000000 by decide)
  have eF : ∀ i, i < 20 ∨ 36 ≤ i → uG b n F G s i = F i := fun i hi => by
    unfold uG
    rw [up_ne (by omega), up_ne (by omega), up_ne (by omega), up_ne (by omega)]
  refine ⟨y, _, r, h1, by rw [upm_n (by omega), upm_n (by omega), upm_n (by omega), upm_n (by omega), upm_n (by omega)], ?_, a2.of ?_ (fun i _ _ => eF i (by omega)), a3.of ?_ (fun i _ _ => eF i (by omega)), a4.of ?_ (eF 5 (by omega)), a5.of ?_ (eF 6 (by omega)), a6.of (fun a _ _ => ?_) (fun i _ => eF i (by omega)), a7.of (fun a _ _ => ?_) (fun i _ => eF i (by omega)), a8.of (fun a _ _ => ?_) (fun i _ => eF i (by omega)), a9.of ?_ ?_ (fun i _ _ => eF i (by omega)), a10.of (fun i _ => eF i (by omega)), ?_, a12⟩
  · intro g hg4
    have := a1 g hg4
    rw [upm_n (show d + 2 ≠ d + 5 by omega), upm_n (show d + 2 ≠ d + 4 by omega), upm_n (show d + 2 ≠ d + 3 by omega), upm_e, upm_n (show d + 3 ≠ d + 5 by omega), upm_n (show d + 3 ≠ d + 4 by omega), upm_e, upm_n (show d + 4 ≠ d + 5 by omega), upm_e, upm_e, upm_n (show d + 2 ≠ 69 by omega), upm_n (show d + 3 ≠ d + 2 by omega), upm_n (show d + 3 ≠ 69 by omega), upm_n (show d + 4 ≠ d + 3 by omega), upm_n (show d + 4 ≠ d + 2 by omega), upm_n (show d + 4 ≠ 69 by omega), upm_n (show d + 5 ≠ d + 4 by omega), upm_n (show d + 5 ≠ d + 3 by omega), upm_n (show d + 5 ≠ d + 2 by omega), upm_n (show d + 5 ≠ 69 by omega)]
    by_cases e : g = nmv 0 3 s
    · unfold uG
      rw [← e, up_eq, up_eq, up_eq, up_eq, up_ne (show 20 + 4 * g ≠ 20 + 4 * g + 3 by omega), up_ne (show 20 + 4 * g ≠ 20 + 4 * g + 2 by omega), up_ne (show 20 + 4 * g ≠ 20 + 4 * g + 1 by omega), up_eq, show 21 + 4 * g = 20 + 4 * g + 1 by omega, up_ne (show 20 + 4 * g + 1 ≠ 20 + 4 * g + 3 by omega), up_ne (show 20 + 4 * g + 1 ≠ 20 + 4 * g + 2 by omega), up_eq, show 22 + 4 * g = 20 + 4 * g + 2 by omega, up_ne (show 20 + 4 * g + 2 ≠ 20 + 4 * g + 3 by omega), up_eq, show 23 + 4 * g = 20 + 4 * g + 3 by omega, up_eq]
      exact ⟨⟨rfl, rfl, rfl, rfl⟩, ⟨isN.mk (by omega) (by decide), isN.mk (by omega) (by decide)⟩, ⟨isN.mk (by omega) (by decide), by rw [nn_nI (by omega)]; omega⟩, v4⟩
    · unfold uG
      rw [up_ne e, up_ne e, up_ne e, up_ne e, up_ne (show 20 + 4 * g ≠ 20 + 4 * nmv 0 3 s + 3 by omega), up_ne (show 20 + 4 * g ≠ 20 + 4 * nmv 0 3 s + 2 by omega), up_ne (show 20 + 4 * g ≠ 20 + 4 * nmv 0 3 s + 1 by omega), up_ne (show 20 + 4 * g ≠ 20 + 4 * nmv 0 3 s by omega), up_ne (show 21 + 4 * g ≠ 20 + 4 * nmv 0 3 s + 3 by omega), up_ne (show 21 + 4 * g ≠ 20 + 4 * nmv 0 3 s + 2 by omega), up_ne (show 21 + 4 * g ≠ 20 + 4 * nmv 0 3 s + 1 by omega), up_ne (show 21 + 4 * g ≠ 20 + 4 * nmv 0 3 s by omega), up_ne (show 22 + 4 * g ≠ 20 + 4 * nmv 0 3 s + 3 by omega), up_ne (show 22 + 4 * g ≠ 20 + 4 * nmv 0 3 s + 2 by omega), up_ne (show 22 + 4 * g ≠ 20 + 4 * nmv 0 3 s + 1 by omega), up_ne (show 22 + 4 * g ≠ 20 + 4 * nmv 0 3 s by omega), up_ne (show 23 + 4 * g ≠ 20 + 4 * nmv 0 3 s + 3 by omega), up_ne (show 23 + 4 * g ≠ 20 + 4 * nmv 0 3 s + 2 by omega), up_ne (show 23 + 4 * g ≠ 20 + 4 * nmv 0 3 s + 1 by omega), up_ne (show 23 + 4 * g ≠ 20 + 4 * nmv 0 3 s by omega)]
      exact this
  · rw [upm_n (by omega), upm_n (by omega), upm_n (by omega), upm_n (by omega), upm_n (by omega)]
  · rw [upm_n (by omega), upm_n (by omega), upm_n (by omega), upm_n (by omega), upm_n (by omega)]
  · rw [upm_n (by omega), upm_n (by omega), upm_n (by omega), upm_n (by omega), upm_n (by omega)]
  · rw [upm_n (by omega), upm_n (by omega), upm_n (by omega), upm_n (by omega), upm_n (by omega)]
  · rw [upm_n (by omega), upm_n (by omega), upm_n (by omega), upm_n (by omega), upm_n (by omega)]
  · rw [upm_n (by omega), upm_n (by omega), upm_n (by omega), upm_n (by omega), upm_n (by omega)]
  · rw [upm_n (by omega), upm_n (by omega), upm_n (by omega), upm_n (by omega), upm_n (by omega)]
  · rw [upm_n (by omega), upm_n (by omega), upm_n (by omega), upm_n (by omega), upm_n (by omega)]
  · rw [upm_n (by omega), upm_n (by omega), upm_n (by omega), upm_n (by omega), upm_n (by omega)]
  · intro g hg4
    rw [upm_n (by omega), upm_n (by omega), upm_n (by omega), upm_n (by omega), upm_e]
    by_cases e : g = nmv 0 3 s
    · rw [e, up_eq, up_eq]; exact ⟨rfl, Or.inr rfl⟩
    · rw [up_ne e, up_ne e]; exact a11 g hg4
theorem k1_C (h : HC z0 z b n d s M fa co) (D : DD d M F G S fa co) : ∃ y M', m_X2_readLay 68 z = some ((), y) ∧ HC z0 y b n d (tL b n s) M' fa co ∧ M' d 13 = M d 13 ∧ DD d M' (uL b n F s) G S fa co := by
  have hd := h.dd
  obtain ⟨a1, a2, a3, a4, a5, a6, a7, a8, a9, a10, a11, a12⟩ := D
  obtain ⟨y, r, h1⟩ := la_C h
  have v1 := nmv_b (s := tL1 b n s) (show 0 ≤ 3 by decide)
  have eF : ∀ i, i < 48 ∨ 192 ≤ i → uL b n F s i = F i := fun i hi => if_neg (by omega)
  refine ⟨y, _, r, h1, by rw [upf_n (by omega)], a1.of (fun a _ _ => upf_n (by omega)) (fun i _ _ => eF i (by omega)), ?_, a3.of (upf_n (by omega)) (fun i _ _ => eF i (by omega)), a4.of (upf_n (by omega)) (eF 5 (by omega)), a5.of (by rw [upf_n (by omega)]) (eF 6 (by omega)), a6.of (fun a _ _ => upf_n (by omega)) (fun i _ => eF i (by omega)), a7.of (fun a _ _ => upf_n (by omega)) (fun i _ => eF i (by omega)), a8.of (fun a _ _ => upf_n (by omega)) (fun i _ => eF i (by omega)), a9.of (by rw [upf_n (by omega)]) (upf_n (by omega)) (fun i _ _ => eF i (by omega)), a10.of (fun i _ => eF i (by omega)), a11.of (upf_n (by omega)), a12⟩
  intro c hc
  have := a2 c hc
  have e : uL b n F s (48 + c) = bx (bX 0 11 s) (bY b n 0 11 s) (bX2 b n 0 11 s) (bY2 b n 0 11 s) (nI (nmv 0 3 (tL1 b n s))) (fun c => F (48 + c)) c := by
    unfold uL
    rw [if_pos (by omega), show 48 + c - 48 = c by omega]
  rw [upf_e, e]
  unfold bx
  split
  · exact ⟨rfl, isN.mk (by omega) (by decide)⟩
  · exact this
theorem k2_C (h : HC z0 z b n d s M fa co) (D : DD d M F G S fa co) : ∃ y M', m_X2_readStream 68 z = some ((), y) ∧ HC z0 y b n d (tS b n (tgG S) s) M' fa co ∧ M' d 13 = M d 13 ∧ DD d M' (uS b n F S s) G (ups S (nmv 0 11 s) 1) fa co := by
  have hd := h.dd
  have hg := (nmv_b (s := s) (show 0 ≤ 11 by decide)).2
  obtain ⟨a1, a2, a3, a4, a5, a6, a7, a8, a9, a10, a11, a12⟩ := D
  obtain ⟨y, r, h1⟩ := st_C (tgG S) h (fun g hg => by
    unfold tgG
    rcases (a3 g hg).2 with ⟨q1, q2, _⟩ | ⟨q1, q2⟩
    · rw [q1, q2]; rfl
    · rw [q1, q2, (a3 g hg).1.1]
      have := (a3 g hg).1.2
      rw [decide_eq_true (show ¬ (1 : Int32) = 0 by decide), decide_eq_true (nI_ne_m1 (by omega))])
  have v1 := nmv_b (s := tS1 b n (tgG S) s) (show 0 ≤ 30 by decide)
  have eF : ∀ i, i < 36 ∨ 48 ≤ i → uS b n F S s i = F i := fun i hi => by unfold uS; rw [up_ne (by omega)]
  refine ⟨y, _, r, h1, by rw [upm_n (by omega)], a1.of (fun a _ _ => upm_n (by omega)) (fun i _ _ => eF i (by omega)), a2.of (upm_n (by omega)) (fun i _ _ => eF i (by omega)), ?_, a4.of (upm_n (by omega)) (eF 5 (by omega)), a5.of (by rw [upm_n (by omega)]) (eF 6 (by omega)), a6.of (fun a _ _ => upm_n (by omega)) (fun i _ => eF i (by omega)), a7.of (fun a _ _ => upm_n (by omega)) (fun i _ => eF i (by omega)), a8.of (fun a _ _ => upm_n (by omega)) (fun i _ => eF i (by omega)), a9.of (by rw [upm_n (by omega)]) (upm_n (by omega)) (fun i _ _ => eF i (by omega)), a10.of (fun i _ => eF i (by omega)), a11.of (upm_n (by omega)), a12⟩
  intro c hc
  unfold uS
  rw [upm_e]
  by_cases e : c = nmv 0 11 s
  · rw [e, up_eq, up_eq, up_eq]
    exact ⟨isN.mk (by omega) (by decide), Or.inr ⟨rfl, rfl⟩⟩
  · rw [up_ne e, up_ne e, up_ne (show 36 + c ≠ 36 + nmv 0 11 s by omega)]
    exact a3 c hc
theorem k3_C (h : HC z0 z b n d s M fa co) (D : DD d M F G S fa co) : ∃ y M', m_X2_readFar 68 z = some ((), y) ∧ HC z0 y b n d (nm b n 1 300 s) M' 1 co ∧ M' d 13 = M d 13 ∧ DD d M' (ups F 5 (nI (nmv 1 300 s))) G S 1 co := by
  have hd := h.dd
  obtain ⟨a1, a2, a3, a4, a5, a6, a7, a8, a9, a10, a11, a12, a13⟩ := D
  obtain ⟨y, r, h1⟩ := fr_C h
  have v1 := nmv_b (s := s) (show 1 ≤ 300 by decide)
  refine ⟨y, _, r, h1, by rw [upm_n (by omega)], a1.of (fun a _ _ => upm_n (by omega)) (fun i _ _ => up_ne (by omega)), a2.of (upm_n (by omega)) (fun i _ _ => up_ne (by omega)), a3.of (upm_n (by omega)) (fun i _ _ => up_ne (by omega)), ?_, a5.of (by rw [upm_n (by omega)]) (up_ne (by omega)), a6.of (fun a _ _ => upm_n (by omega)) (fun i _ => up_ne (by omega)), a7.of (fun a _ _ => upm_n (by omega)) (fun i _ => up_ne (by omega)), a8.of (fun a _ _ => upm_n (by omega)) (fun i _ => up_ne (by omega)), a9.of (by rw [upm_n (by omega)]) (upm_n (by omega)) (fun i _ _ => up_ne (by omega)), a10.of (fun i _ => up_ne (by omega)), a11.of (upm_n (by omega)), Or.inr rfl, a13⟩
  unfold D4
  rw [upm_e, up_eq, up_eq]
  exact ⟨rfl, isN.mk (by omega) (by decide), by rw [nn_nI (by omega)]; omega⟩
theorem k6_C (h : HC z0 z b n d s M fa co) (D : DD d M F G S fa co) : ∃ y M', m_X2_readCold 68 z = some ((), y) ∧ HC z0 y b n d (nm b n 0 99999 s) M' fa 1 ∧ M' d 13 = M d 13 ∧ DD d M' (ups F 6 (nI (nmv 0 99999 s))) G S fa 1 := by
  have hd := h.dd
  obtain ⟨a1, a2, a3, a4, a5, a6, a7, a8, a9, a10, a11, a12, a13⟩ := D
  obtain ⟨y, r, h1⟩ := co_C h
  have v1 := nmv_b (s := s) (show 0 ≤ 99999 by decide)
  refine ⟨y, _, r, h1, by rw [upm_e, up_ne (by decide)], a1.of (fun a _ _ => upm_n (by omega)) (fun i _ _ => up_ne (by omega)), a2.of (upm_n (by omega)) (fun i _ _ => up_ne (by omega)), a3.of (upm_n (by omega)) (fun i _ _ => up_ne (by omega)), a4.of (upm_n (by omega)) (up_ne (by omega)), ?_, a6.of (fun a _ _ => upm_n (by omega)) (fun i _ => up_ne (by omega)), a7.of (fun a _ _ => upm_n (by omega)) (fun i _ => up_ne (by omega)), a8.of (fun a _ _ => upm_n (by omega)) (fun i _ => up_ne (by omega)), a9.of (by rw [upm_e, up_ne (by decide)]) (upm_n (by omega)) (fun i _ _ => up_ne (by omega)), a10.of (fun i _ => up_ne (by omega)), a11.of (upm_n (by omega)), a12, Or.inr rfl⟩
  unfold D5
  rw [upm_e, up_eq, up_eq]
  exact ⟨rfl, isN.mk (by omega) (by decide)⟩
theorem k4_C (h : HC z0 z b n d s M fa co) (D : DD d M F G S fa co) : ∃ y M', m_X2_readShaft 68 z = some ((), y) ∧ HC z0 y b n d (tB b n 1 10 s) M' fa co ∧ M' d 13 = M d 13 ∧ (F 7 = 0 → DD d M' (uX b n F s) G S fa co) := by
  have hd := h.dd
  obtain ⟨a1, a2, a3, a4, a5, a6, a7, a8, a9, a10, a11, a12⟩ := D
  obtain ⟨y, r, h1⟩ := sh_C h
  have hb := bx_b b n s (show 1 ≤ 10 by decide)
  have eF : ∀ i, i < 7 ∨ 12 ≤ i → uX b n F s i = F i := fun i hi => by
    unfold uX
    rw [up_ne (by omega), up_ne (by omega), up_ne (by omega), up_ne (by omega), up_ne (by omega)]
  have eM : ∀ {v : Int32} {f : Nat → Int32} {a : Nat}, a ≠ d → a ≠ d + 30 → upm (upf M (d + 30) f) d 10 v a = M a := fun h1 h2 => by rw [upm_n h1, upf_n h2]
  refine ⟨y, _, r, h1, by rw [upm_e, up_ne (by decide), upf_n (by omega)], fun g7 => ⟨a1.of (fun a _ _ => eM (by omega) (by omega)) (fun i _ _ => eF i (by omega)), a2.of (eM (by omega) (by omega)) (fun i _ _ => eF i (by omega)), a3.of (eM (by omega) (by omega)) (fun i _ _ => eF i (by omega)), a4.of (eM (by omega) (by omega)) (eF 5 (by omega)), a5.of (by rw [upm_e, up_ne (by decide), upf_n (by omega)]) (eF 6 (by omega)), a6.of (fun a _ _ => eM (by omega) (by omega)) (fun i _ => eF i (by omega)), a7.of (fun a _ _ => eM (by omega) (by omega)) (fun i _ => eF i (by omega)), a8.of (fun a _ _ => eM (by omega) (by omega)) (fun i _ => eF i (by omega)), ?_, a10.of (fun i _ => eF i (by omega)), a11.of (eM (by omega) (by omega)), a12⟩⟩
  right
  rcases a9 with ⟨_, _, q⟩ | ⟨q, _⟩
  · refine ⟨by unfold uX; rw [up_ne (by decide), up_ne (by decide), up_ne (by decide), up_ne (by decide), up_eq], bX 1 10 s, bY b n 1 10 s, bX2 b n 1 10 s, bY2 b n 1 10 s, by omega, ?_, by rw [upm_e, up_eq], fun c hc => ?_⟩
    · unfold uX
      refine ⟨?_, ?_, ?_, up_eq⟩
      · rw [up_ne (by decide), up_ne (by decide), up_ne (by decide), up_eq]
      · rw [up_ne (by decide), up_ne (by decide), up_eq]
      · rw [up_ne (by decide), up_eq]
    · rw [upm_n (by omega), upf_e]
      unfold bx
      rw [q c hc]
  · rw [g7] at q
    exact absurd q (by decide)
end
