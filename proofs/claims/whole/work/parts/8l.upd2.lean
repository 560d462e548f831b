/-! ===== text: what each line tells, again ===== -/
section
variable {z0 z y : Hp} {b : Nat → Nat} {n d : Nat} {s s' : Ps} {M : Me} {F G S : Nat → Int32} {fa co : Int32}
theorem tP_good {b : Nat → Nat} {n : Nat} {t : Nat → Bool} {s : Ps} (h : (tP b n t s).2.1 = 0) : s.2.1 = 0 ∧ t (cP b n s) = false := by
  have h1 := (nm_good h).1
  have h2 := wd_good h1
  have h3 := (nm_good h2).1
  have h4 : (tP2 b n t s).2.1 = 0 := by
    unfold mn at h3
    split at h3
    · exact h3
    · exact h3
  have h5 := wd_good h4
  have h6 := fl_n (by decide) (show (fl (t (cP b n s)) 2 (nm b n 0 11 s).1.2.1 (nm b n 0 11 (nm b n 0 11 s)).2).1 = 0 from h5)
  exact ⟨(nm_good (nm_good h6.1).1).1, h6.2⟩
theorem k5_C (h : HC z0 z b n d s M fa co) (D : DD d M F G S fa co) : ∃ y M', m_X2_readPipe 68 z = some ((), y) ∧ HC z0 y b n d (tP b n (tgP F) s) M' fa co ∧ M' d 13 = M d 13 ∧ ((tP b n (tgP F) s).2.1 = 0 → ¬ F 2 = 12 → DD d M' (uP b n F s) G S fa co) := by
  have hd := h.dd
  obtain ⟨a1, a2, a3, a4, a5, a6, a7, a8, a9, a10, a11, a12⟩ := D
  obtain ⟨m, m1, m2, m3, m4, m5, m6⟩ := a6
  have em : nPW F = m := by unfold nPW; rw [m2, nn_nI (by omega)]
  have ht : ∀ c, c < 144 → (tgP F c = true ↔ ∃ p, p < m ∧ M (d + 9) p = nI c) := fun c _ => by
    unfold tgP
    rw [decide_eq_true_iff, em]
    exact ⟨fun ⟨p, h1, h2⟩ => ⟨p, h1, by rw [(m4 p h1).1.1]; exact h2⟩, fun ⟨p, h1, h2⟩ => ⟨p, h1, by rw [← (m4 p h1).1.1]; exact h2⟩⟩
  obtain ⟨y, r, h1⟩ := pi_C (tgP F) h m1 m3 ht
  have eM : ∀ {v1 v2 v3 : Int32} {a : Nat}, a < d + 8 ∨ d + 14 < a → mPi d m v1 v2 v3 M a = M a := fun {v1 v2 v3 a} ha => by
    unfold mPi
    rw [upm_n (by omega), upm_n (by omega), upm_n (by omega), upm_n (by omega), upm_n (by omega), upm_n (by omega), upm_n (by omega)]
  have eF : ∀ i, i ≠ 2 → i < 624 + 6 * m ∨ 628 + 6 * m ≤ i → uP b n F s i = F i := fun i h1 h2 => by
    unfold uP
    rw [em, up_ne h1, up_ne (by omega), up_ne (by omega), up_ne (by omega), up_ne (by omega)]
  refine ⟨y, _, r, h1, by rw [eM (by omega)], fun gd g12 => ?_⟩
  have hm : m < 12 := by
    have : m ≠ 12 := fun e => g12 (by rw [m2, e]; rfl)
    omega
  refine ⟨a1.of (fun a _ _ => eM (by omega)) (fun i _ _ => eF i (by omega) (by omega)), a2.of (eM (by omega)) (fun i _ _ => eF i (by omega) (by omega)), a3.of (eM (by omega)) (fun i _ _ => eF i (by omega) (by omega)), a4.of (eM (by omega)) (eF 5 (by omega) (by omega)), a5.of (by rw [eM (by omega)]) (eF 6 (by omega) (by omega)), ?_, a7.of (fun a _ _ => eM (by omega)) (fun i _ => eF i (by omega) (by omega)), a8.of (fun a _ _ => eM (by omega)) (fun i _ => eF i (by omega) (by omega)), a9.of (by rw [eM (by omega)]) (eM (by omega)) (fun i _ _ => eF i (by omega) (by omega)), a10.of (fun i _ => eF i (by omega) (by omega)), a11.of (eM (by omega)), a12⟩
  have nt := (tP_good gd).2
  have c144 := cP_lt (b := b) (n := n) (s := s)
  have hnt : ¬ ∃ p, p < m ∧ F (624 + 6 * p) = nI (cP b n s) := by
    unfold tgP at nt
    rw [em] at nt
    exact of_decide_eq_false nt
  have v3 := nmv_b (s := tP3 b n (tgP F) s) (show 0 ≤ 60 by decide)
  have v2 := ngv_b (b := b) (n := n) (s := tP2 b n (tgP F) s) (show 400 < 1000000 by decide)
  have f0 : uP b n F s (624 + 6 * m) = nI (cP b n s) := by
    unfold uP
    rw [em, up_ne (by omega), up_ne (by omega), up_ne (by omega), up_ne (by omega), up_eq]
  have f1 : uP b n F s (625 + 6 * m) = ngv b n 400 (tP2 b n (tgP F) s) := by
    unfold uP
    rw [em, show 625 + 6 * m = 624 + 6 * m + 1 by omega, up_ne (by omega), up_ne (by omega), up_ne (by omega), up_eq]
  have f2 : uP b n F s (626 + 6 * m) = nI (nmv 0 60 (tP3 b n (tgP F) s)) := by
    unfold uP
    rw [em, show 626 + 6 * m = 624 + 6 * m + 2 by omega, up_ne (by omega), up_ne (by omega), up_eq]
  have f3 : uP b n F s (627 + 6 * m) = 1 := by
    unfold uP
    rw [em, show 627 + 6 * m = 624 + 6 * m + 3 by omega, up_ne (by omega), up_eq]
  refine ⟨m + 1, by omega, by unfold uP; rw [up_eq, em], by unfold mPi; rw [upm_e, up_eq], fun p hp => ?_, fun p q hp hq => ?_, fun p hp => ?_⟩
  · have g9 : mPi d m (nI (cP b n s)) (ngv b n 400 (tP2 b n (tgP F) s)) (nI (nmv 0 60 (tP3 b n (tgP F) s))) M (d + 9) = ups (M (d + 9)) m (nI (cP b n s)) := by
      unfold mPi
      rw [upm_n (by omega), upm_n (by omega), upm_n (by omega), upm_n (by omega), upm_n (by omega), upm_n (by omega), upm_e]
    have g10 : mPi d m (nI (cP b n s)) (ngv b n 400 (tP2 b n (tgP F) s)) (nI (nmv 0 60 (tP3 b n (tgP F) s))) M (d + 10) = ups (M (d + 10)) m (ngv b n 400 (tP2 b n (tgP F) s)) := by
      unfold mPi
      rw [upm_n (by omega), upm_n (by omega), upm_n (by omega), upm_n (by omega), upm_n (by omega), upm_e, upm_n (by omega)]
    have g11 : mPi d m (nI (cP b n s)) (ngv b n 400 (tP2 b n (tgP F) s)) (nI (nmv 0 60 (tP3 b n (tgP F) s))) M (d + 11) = ups (M (d + 11)) m (nI (nmv 0 60 (tP3 b n (tgP F) s))) := by
      unfold mPi
      rw [upm_n (by omega), upm_n (by omega), upm_n (by omega), upm_n (by omega), upm_e, upm_n (by omega), upm_n (by omega)]
    have g12 : mPi d m (nI (cP b n s)) (ngv b n 400 (tP2 b n (tgP F) s)) (nI (nmv 0 60 (tP3 b n (tgP F) s))) M (d + 12) = ups (M (d + 12)) m 1 := by
      unfold mPi
      rw [upm_n (by omega), upm_n (by omega), upm_n (by omega), upm_e, upm_n (by omega), upm_n (by omega), upm_n (by omega)]
    have g13 : mPi d m (nI (cP b n s)) (ngv b n 400 (tP2 b n (tgP F) s)) (nI (nmv 0 60 (tP3 b n (tgP F) s))) M (d + 13) = ups (M (d + 13)) m 0 := by
      unfold mPi
      rw [upm_n (by omega), upm_n (by omega), upm_e, upm_n (by omega), upm_n (by omega), upm_n (by omega), upm_n (by omega)]
    have g14 : mPi d m (nI (cP b n s)) (ngv b n 400 (tP2 b n (tgP F) s)) (nI (nmv 0 60 (tP3 b n (tgP F) s))) M (d + 14) = ups (M (d + 14)) m 0 := by
      unfold mPi
      rw [upm_n (by omega), upm_e, upm_n (by omega), upm_n (by omega), upm_n (by omega), upm_n (by omega), upm_n (by omega)]
    rw [g9, g10, g11, g12, g13, g14]
    by_cases e : p = m
    · subst e
      rw [up_eq, up_eq, up_eq, up_eq, up_eq, up_eq, f0, f1, f2, f3]
      exact ⟨⟨rfl, rfl, rfl, rfl, rfl, rfl⟩, isN.mk c144 (by decide), v2, isN.mk (by omega) (by decide), rfl⟩
    · rw [up_ne e, up_ne e, up_ne e, up_ne e, up_ne e, up_ne e, eF _ (by omega) (by omega), eF _ (by omega) (by omega), eF _ (by omega) (by omega), eF _ (by omega) (by omega)]
      exact m4 p (by omega)
  · by_cases e1 : p = m
    · by_cases e2 : q = m
      · exact fun _ => e1.trans e2.symm
      · rw [e1, f0, eF (624 + 6 * q) (by omega) (by omega)]
        exact fun g => absurd ⟨q, by omega, g.symm⟩ hnt
    · by_cases e2 : q = m
      · rw [e2, f0, eF (624 + 6 * p) (by omega) (by omega)]
        exact fun g => absurd ⟨p, by omega, g⟩ hnt
      · rw [eF (624 + 6 * p) (by omega) (by omega), eF (624 + 6 * q) (by omega) (by omega)]
        exact m5 p q (by omega) (by omega)
  · rw [eF (628 + 6 * p) (by omega) (by omega), eF (629 + 6 * p) (by omega) (by omega)]
    exact m6 p hp
theorem k7_C (h : HC z0 z b n d s M fa co) (D : DD d M F G S fa co) : ∃ y M', m_X2_readHouse 68 z = some ((), y) ∧ HC z0 y b n d (tH b n s) M' fa co ∧ M' d 13 = M d 13 ∧ (¬ F 3 = 6 → DD d M' (uH b n F s) G S fa co) := by
  have hd := h.dd
  obtain ⟨a1, a2, a3, a4, a5, a6, a7, a8, a9, a10, a11, a12⟩ := D
  obtain ⟨m, m1, m2, m3, m4⟩ := a7
  have em : nHW F = m := by unfold nHW; rw [m2, nn_nI (by omega)]
  obtain ⟨y, r, h1⟩ := ho_C h m1 m3
  have v1 := nmv_b (s := s) (show 0 ≤ 10 by decide)
  have eM : ∀ {a : Nat}, a < d + 15 ∨ d + 18 < a → (if m < 6 then mHo b n d m s M else M) a = M a := fun {a} ha => by
    split
    · unfold mHo
      rw [upm_n (by omega), upm_n (by omega), upm_n (by omega), upm_n (by omega)]
    · rfl
  have eF : ∀ i, i ≠ 3 → i < 732 + 3 * m ∨ 734 + 3 * m ≤ i → uH b n F s i = F i := fun i h1 h2 => by
    unfold uH
    rw [em, up_ne h1, up_ne (by omega), up_ne (by omega)]
  refine ⟨y, _, r, h1, by rw [eM (by omega)], fun g6 => ?_⟩
  have hm : m < 6 := by
    have : m ≠ 6 := fun e => g6 (by rw [m2, e]; rfl)
    omega
  refine ⟨a1.of (fun a _ _ => eM (by omega)) (fun i _ _ => eF i (by omega) (by omega)), a2.of (eM (by omega)) (fun i _ _ => eF i (by omega) (by omega)), a3.of (eM (by omega)) (fun i _ _ => eF i (by omega) (by omega)), a4.of (eM (by omega)) (eF 5 (by omega) (by omega)), a5.of (by rw [eM (by omega)]) (eF 6 (by omega) (by omega)), a6.of (fun a _ _ => eM (by omega)) (fun i _ => eF i (by omega) (by omega)), ?_, a8.of (fun a _ _ => eM (by omega)) (fun i _ => eF i (by omega) (by omega)), a9.of (by rw [eM (by omega)]) (eM (by omega)) (fun i _ _ => eF i (by omega) (by omega)), a10.of (fun i _ => eF i (by omega) (by omega)), a11.of (eM (by omega)), a12⟩
  rw [if_pos hm]
  refine ⟨m + 1, by omega, by unfold uH; rw [up_eq, em], by unfold mHo; rw [upm_e, up_eq], fun p hp => ?_⟩
  have g16 : mHo b n d m s M (d + 16) = ups (M (d + 16)) m (nI (nmv 0 10 s)) := by
    unfold mHo
    rw [upm_n (by omega), upm_n (by omega), upm_n (by omega), upm_e]
  have g17 : mHo b n d m s M (d + 17) = ups (M (d + 17)) m (nI (nmv 0 999 (tH1 b n s))) := by
    unfold mHo
    rw [upm_n (by omega), upm_n (by omega), upm_e, upm_n (by omega)]
  have g18 : mHo b n d m s M (d + 18) = ups (M (d + 18)) m (-1) := by
    unfold mHo
    rw [upm_n (by omega), upm_e, upm_n (by omega), upm_n (by omega)]
  rw [g16, g17, g18]
  by_cases e : p = m
  · subst e
    have f0 : uH b n F s (732 + 3 * p) = nI (nmv 0 10 s) := by
      unfold uH
      rw [em, up_ne (by omega), up_ne (by omega), up_eq]
    have f1 : uH b n F s (733 + 3 * p) = nI (nmv 0 999 (tH1 b n s)) := by
      unfold uH
      rw [em, show 733 + 3 * p = 732 + 3 * p + 1 by omega, up_ne (by omega), up_eq]
    rw [up_eq, up_eq, up_eq, f0, f1]
    exact ⟨rfl, rfl, rfl, isN.mk (by omega) (by decide)⟩
  · rw [up_ne e, up_ne e, up_ne e, eF _ (by omega) (by omega), eF _ (by omega) (by omega)]
    exact m4 p (by omega)
theorem k8_C (h : HC z0 z b n d s M fa co) (D : DD d M F G S fa co) : ∃ y M', m_X2_readRule 68 z = some ((), y) ∧ HC z0 y b n d (rl b n (nRW F) 4 0 (wd b n (txw 17) s) F).1 M' fa co ∧ ((rl b n (nRW F) 4 0 (wd b n (txw 17) s) F).1.2.1 = 0 → ¬ F 4 = 4 → M' d 13 = M d 13 ∧ DD d M' (uR b n F s) G S fa co) := by
  have hd := h.dd
  obtain ⟨a1, a2, a3, a4, a5, a6, a7, a8, a9, a10, a11, a12⟩ := D
  obtain ⟨m, m1, m2, m3, m4, m5⟩ := a8
  have em : nRW F = m := by unfold nRW; rw [m2, nn_nI (by omega)]
  unfold uR
  rw [em]
  obtain ⟨y, M', r, h1, hg⟩ := ru_C (F := F) h m1 m3 (fun g => m5 m (Nat.le_refl _) g)
  refine ⟨y, M', r, h1, fun gd g4 => ?_⟩
  have hm : m < 4 := by
    have : m ≠ 4 := fun e => g4 (by rw [m2, e]; rfl)
    omega
  obtain ⟨⟨k, hk, cr⟩, e19, f1, f2, f3, f4⟩ := hg gd hm
  generalize (rl b n m 4 0 (wd b n (txw 17) s) F).2 = F1 at cr f4
  have eF : ∀ i, i ≠ 4 → i < 750 + 10 * m ∨ 760 + 10 * m ≤ i → ups F1 4 (nI (m + 1)) i = F i := fun i h1 h2 => by rw [up_ne h1]; exact f4 i h2
  refine ⟨by rw [f1 d (by omega)], a1.of (fun a _ _ => f1 a (by omega)) (fun i _ _ => eF i (by omega) (by omega)), a2.of (f1 _ (by omega)) (fun i _ _ => eF i (by omega) (by omega)), a3.of (f1 _ (by omega)) (fun i _ _ => eF i (by omega) (by omega)), a4.of (f1 _ (by omega)) (eF 5 (by omega) (by omega)), a5.of (by rw [f1 _ (by omega)]) (eF 6 (by omega) (by omega)), a6.of (fun a _ _ => f1 a (by omega)) (fun i _ => eF i (by omega) (by omega)), a7.of (fun a _ _ => f1 a (by omega)) (fun i _ => eF i (by omega) (by omega)), ?_, a9.of (by rw [f1 _ (by omega)]) (f1 _ (by omega)) (fun i _ _ => eF i (by omega) (by omega)), a10.of (fun i _ => eF i (by omega) (by omega)), a11.of (f1 _ (by omega)), a12⟩
  refine ⟨m + 1, by omega, up_eq, e19, fun q hq => ?_, fun q h1 h2 => ?_⟩
  · by_cases e : q = m
    · subst e
      exact ⟨k, hk, cr.of hk rfl (fun _ _ => ⟨rfl, rfl, rfl⟩) (fun i h1 h2 => up_ne (by omega))⟩
    · obtain ⟨k2, hk2, cr2⟩ := m4 q (by omega)
      exact ⟨k2, hk2, cr2.of hk2 (f2 q e) (fun j hj => f3 (3 * q + j) (by omega)) (fun i h1 h2 => eF i (by omega) (by omega))⟩
  · rw [eF _ (by omega) (by omega)]
    exact m5 q (by omega) h2
end
