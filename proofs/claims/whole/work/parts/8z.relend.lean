/-! ===== text: the world behind it ===== -/
theorem sm_cst {v : Int32} : ∀ {n : Nat}, sm (fun _ => v) n = nI n * v
  | 0 => by
    show (0 : Int32) = nI 0 * v
    rw [show nI 0 = 0 from rfl, Int32.zero_mul]
  | n + 1 => by
    show sm (fun _ => v) n + v = nI (n + 1) * v
    rw [sm_cst, show nI (n + 1) = nI n + 1 from (nI_1 n).symm, Int32.add_mul, Int32.one_mul]
theorem rel_end {y : Hp} {d : Nat} {M : Me} {D : Dt} (hD : DDt d M D) (h13 : M d 13 = D.1 0)
    (ek : ∀ j, 0 < j → j < 32 → j ≠ 25 → j ≠ 27 → j ≠ 28 → j ≠ 29 → j ≠ 31 → zI y (d + j) = M (d + j))
    (b1 : ∀ c, c < 144 → zI y (d + 27) c = M (d + 1) 6 ∧ zI y (d + 28) c = 0 ∧ zI y (d + 29) c = 0) (b2 : ∀ c, c < 10 → zI y (d + 25) c = -1) (b3 : ∀ c, c < 5 → zI y (d + 31) c = 0) (b4 : zI y (d + 31) 5 = 144 * M (d + 1) 6) (b5 : zI y d 11 = 0 ∧ zI y d 14 = 0 ∧ zI y d 15 = 0 ∧ zI y d 16 = 0) (b6 : zI y d 10 = M d 10 ∧ zI y d 12 = M d 12 ∧ zI y d 13 = M d 13) : RelS y d (beginW D.1) ∧ OkW (beginW D.1) 12 ∧ isN (beginW D.1 1) 2001 ∧ beginW D.1 0 = D.1 0 := by
  obtain ⟨a1, a2, a3, a4, a5, ⟨m, m1, m2, m3, m4, m5, m6⟩, ⟨q, q1, q2, q3, q4⟩, ⟨r, r1, r2, r3, r4, r5⟩, a9, a10, a11, a12⟩ := hD
  generalize D.1 = F at *
  obtain ⟨W, hW⟩ : ∃ W, W = beginW F := ⟨_, rfl⟩
  rw [← hW]
  have eW : ∀ i, i ≠ 18 → i < 192 ∨ 624 ≤ i → ¬ (732 ≤ i ∧ i < 750 ∧ i % 3 = 2) → i < 790 → W i = F i := fun i h1 h2 h3 h4 => by
    rw [hW]
    unfold beginW
    rw [if_neg h1, if_neg (by omega), if_neg (by omega), if_neg (by omega), if_neg h3]
  have w18 : W 18 = 144 * F 5 := by
    rw [hW]
    show sm (fun _ => F 5) 144 = _
    rw [sm_cst]; rfl
  have wwarm : ∀ c, c < 144 → W (192 + c) = F 5 := fun c hc => by
    rw [hW]
    unfold beginW
    rw [if_neg (by omega), if_pos (by omega)]
  have wz : ∀ i, 336 ≤ i → i < 624 → W i = 0 := fun i h1 h2 => by
    rw [hW]
    unfold beginW
    rw [if_neg (by omega), if_neg (by omega), if_pos (by omega)]
  have wg : ∀ g, g < 10 → W (790 + 2 * g) = -1 := fun g hg => by
    rw [hW]
    unfold beginW
    rw [if_neg (by omega), if_neg (by omega), if_neg (by omega), if_pos (by omega)]
  have wh : ∀ h, h < 6 → W (732 + 3 * h + 2) = -1 := fun h hh => by
    rw [hW]
    unfold beginW
    rw [if_neg (by omega), if_neg (by omega), if_neg (by omega), if_neg (by omega), if_pos (by omega)]
  have nP : nPW W = m := by unfold nPW; rw [eW 2 (by omega) (by omega) (by omega) (by omega), m2, nn_nI (by omega)]
  have nH : nHW W = q := by unfold nHW; rw [eW 3 (by omega) (by omega) (by omega) (by omega), q2, nn_nI (by omega)]
  have nR : nRW W = r := by unfold nRW; rw [eW 4 (by omega) (by omega) (by omega) (by omega), r2, nn_nI (by omega)]
  have f7 : W 7 = F 7 := eW 7 (by omega) (by omega) (by omega) (by omega)
  have f8 : W 8 = F 8 := eW 8 (by omega) (by omega) (by omega) (by omega)
  have f9 : W 9 = F 9 := eW 9 (by omega) (by omega) (by omega) (by omega)
  have f10 : W 10 = F 10 := eW 10 (by omega) (by omega) (by omega) (by omega)
  have f11 : W 11 = F 11 := eW 11 (by omega) (by omega) (by omega) (by omega)
  have z' : ∀ i, i = 1 ∨ 12 ≤ i ∧ i < 18 → W i = 0 := fun i hi => by rw [eW i (by omega) (by omega) (by omega) (by omega)]; exact a10 i hi
  have dug0 : ∀ c, c < 144 → W (480 + c) = 0 := fun c hc => wz _ (by omega) (by omega)
  have cond : ∀ p i, p < r → i < nCW W p → ∃ k, k ≤ 3 ∧ i < k ∧ Cr d p k M F := fun p i hp hi => by
    obtain ⟨k, hk, cr⟩ := r4 p hp
    refine ⟨k, hk, ?_, cr⟩
    unfold nCW at hi
    rw [eW (750 + 10 * p) (by omega) (by omega) (by omega) (by omega), cr.1, nn_nI (by omega)] at hi
    exact hi
  have ew3 : ∀ p i, p < 4 → i < 3 → W (751 + 10 * p + 3 * i) = F (751 + 10 * p + 3 * i) ∧ W (752 + 10 * p + 3 * i) = F (752 + 10 * p + 3 * i) ∧ W (753 + 10 * p + 3 * i) = F (753 + 10 * p + 3 * i) := fun p i hp hi => ⟨eW _ (by omega) (by omega) (by omega) (by omega), eW _ (by omega) (by omega) (by omega) (by omega), eW _ (by omega) (by omega) (by omega) (by omega)⟩
  refine ⟨⟨?_, ?_, ?_, ?_, ?_, ?_, ?_, ?_, ?_, ?_, ?_, ?_, ?_, ?_, ?_, ?_, ?_, ?_, ?_, ?_, ?_, ?_, ?_, ?_, ?_, ?_, ?_, ?_, ?_, ?_, ?_, ?_, ?_, ?_, ?_, ?_⟩, ⟨?_, ?_, ?_, ?_, ?_, ?_, ?_, ?_, ?_, ?_, ?_, ?_, ?_, ?_, ?_, ?_, ?_, ?_, ?_, ?_, ?_, ?_, ?_, ?_, ?_⟩, ?_, ?_⟩
  · intro g hg; rw [ek 2 (by decide) (by decide) (by decide) (by decide) (by decide) (by decide) (by decide), eW _ (by omega) (by omega) (by omega) (by omega)]; exact (a1 g hg).1.1
  · intro g hg; rw [ek 3 (by decide) (by decide) (by decide) (by decide) (by decide) (by decide) (by decide), eW _ (by omega) (by omega) (by omega) (by omega)]; exact (a1 g hg).1.2.1
  · intro g hg; rw [ek 4 (by decide) (by decide) (by decide) (by decide) (by decide) (by decide) (by decide), eW _ (by omega) (by omega) (by omega) (by omega)]; exact (a1 g hg).1.2.2.1
  · intro g hg; rw [ek 5 (by decide) (by decide) (by decide) (by decide) (by decide) (by decide) (by decide), eW _ (by omega) (by omega) (by omega) (by omega)]; exact (a1 g hg).1.2.2.2
  · intro c hc; rw [ek 6 (by decide) (by decide) (by decide) (by decide) (by decide) (by decide) (by decide), eW _ (by omega) (by omega) (by omega) (by omega)]; exact (a2 c hc).1
  · intro c hc
    rw [ek 7 (by decide) (by decide) (by decide) (by decide) (by decide) (by decide) (by decide), eW _ (by omega) (by omega) (by omega) (by omega)]
    rcases (a3 c hc).2 with ⟨_, g1, g2⟩ | ⟨_, g1⟩
    · exact Or.inr ⟨g1, g2⟩
    · exact Or.inl g1
  · rw [ek 1 (by decide) (by decide) (by decide) (by decide) (by decide) (by decide) (by decide), eW 5 (by omega) (by omega) (by omega) (by omega)]; exact a4.1
  · rw [ek 8 (by decide) (by decide) (by decide) (by decide) (by decide) (by decide) (by decide), eW 2 (by omega) (by omega) (by omega) (by omega), m2]; exact m3
  · intro p hp; rw [nP] at hp; rw [ek 9 (by decide) (by decide) (by decide) (by decide) (by decide) (by decide) (by decide), eW _ (by omega) (by omega) (by omega) (by omega)]; exact (m4 p hp).1.1
  · intro p hp; rw [nP] at hp; rw [ek 10 (by decide) (by decide) (by decide) (by decide) (by decide) (by decide) (by decide), show 624 + 6 * p + 1 = 625 + 6 * p by omega, eW _ (by omega) (by omega) (by omega) (by omega)]; exact (m4 p hp).1.2.1
  · intro p hp; rw [nP] at hp; rw [ek 11 (by decide) (by decide) (by decide) (by decide) (by decide) (by decide) (by decide), show 624 + 6 * p + 2 = 626 + 6 * p by omega, eW _ (by omega) (by omega) (by omega) (by omega)]; exact (m4 p hp).1.2.2.1
  · intro p hp; rw [nP] at hp; rw [ek 12 (by decide) (by decide) (by decide) (by decide) (by decide) (by decide) (by decide), show 624 + 6 * p + 3 = 627 + 6 * p by omega, eW _ (by omega) (by omega) (by omega) (by omega)]; exact (m4 p hp).1.2.2.2.1
  · intro p hp; rw [nP] at hp; rw [ek 13 (by decide) (by decide) (by decide) (by decide) (by decide) (by decide) (by decide), show 624 + 6 * p + 4 = 628 + 6 * p by omega, eW _ (by omega) (by omega) (by omega) (by omega), (m6 p (by omega)).1]; exact (m4 p hp).1.2.2.2.2.1
  · intro p hp; rw [nP] at hp; rw [ek 14 (by decide) (by decide) (by decide) (by decide) (by decide) (by decide) (by decide), show 624 + 6 * p + 5 = 629 + 6 * p by omega, eW _ (by omega) (by omega) (by omega) (by omega), (m6 p (by omega)).2]; exact (m4 p hp).1.2.2.2.2.2
  · rw [ek 15 (by decide) (by decide) (by decide) (by decide) (by decide) (by decide) (by decide), eW 3 (by omega) (by omega) (by omega) (by omega), q2]; exact q3
  · intro p hp; rw [nH] at hp; rw [ek 16 (by decide) (by decide) (by decide) (by decide) (by decide) (by decide) (by decide), eW _ (by omega) (by omega) (by omega) (by omega)]; exact (q4 p hp).1
  · intro p hp; rw [nH] at hp; rw [ek 17 (by decide) (by decide) (by decide) (by decide) (by decide) (by decide) (by decide), show 732 + 3 * p + 1 = 733 + 3 * p by omega, eW _ (by omega) (by omega) (by omega) (by omega)]; exact (q4 p hp).2.1
  · intro p hp; rw [nH] at hp; rw [ek 18 (by decide) (by decide) (by decide) (by decide) (by decide) (by decide) (by decide), wh p (by omega)]; exact (q4 p hp).2.2.1
  · rw [ek 19 (by decide) (by decide) (by decide) (by decide) (by decide) (by decide) (by decide), eW 4 (by omega) (by omega) (by omega) (by omega), r2]; exact r3
  · intro p hp
    rw [nR] at hp
    obtain ⟨k, hk, cr⟩ := r4 p hp
    rw [ek 20 (by decide) (by decide) (by decide) (by decide) (by decide) (by decide) (by decide), eW _ (by omega) (by omega) (by omega) (by omega), cr.1]; exact cr.2.1
  · intro p i hp hi
    rw [nR] at hp
    obtain ⟨k, hk, hik, cr⟩ := cond p i hp hi
    rw [ek 21 (by decide) (by decide) (by decide) (by decide) (by decide) (by decide) (by decide), (ew3 p i (by omega) (by omega)).1]; exact (cr.2.2 i hik).1
  · intro p i hp hi h0
    rw [nR] at hp
    obtain ⟨k, hk, hik, cr⟩ := cond p i hp hi
    rw [(ew3 p i (by omega) (by omega)).1] at h0
    rw [ek 22 (by decide) (by decide) (by decide) (by decide) (by decide) (by decide) (by decide), ek 23 (by decide) (by decide) (by decide) (by decide) (by decide) (by decide) (by decide), (ew3 p i (by omega) (by omega)).2.1, (ew3 p i (by omega) (by omega)).2.2]; exact (cr.2.2 i hik).2.2 h0
  · intro g hg; rw [b2 g hg, wg g hg]
  · intro g hg hn; exact absurd (wg g hg) hn
  · intro c hc; rw [(b1 c hc).1, wwarm c hc]; exact a4.1
  · intro c hc; rw [(b1 c hc).2.1, wz _ (by omega) (by omega)]
  · intro c hc; rw [(b1 c hc).2.2, dug0 c hc]
  · intro c hc
    rw [ek 30 (by decide) (by decide) (by decide) (by decide) (by decide) (by decide) (by decide)]
    unfold shW
    rw [f7, f8, f9, f10, f11]
    rcases a9 with ⟨g1, _, g3⟩ | ⟨g1, x, y', x2, y2, g2, ⟨g3, g4, g5, g6⟩, _, g8⟩
    · rw [g3 c hc, g1]; rfl
    · rw [g8 c hc, g1, g3, g4, g5, g6]
      unfold bx
      have l1 := nI_leI (a := x) (b := c % 12) (by omega) (by omega)
      have l2 := nI_leI (a := c % 12) (b := x2) (by omega) (by omega)
      have l3 := nI_leI (a := y') (b := c / 12) (by omega) (by omega)
      have l4 := nI_leI (a := c / 12) (b := y2) (by omega) (by omega)
      by_cases k1 : (x ≤ c % 12 ∧ c % 12 ≤ x2) ∧ y' ≤ c / 12 ∧ c / 12 ≤ y2
      · rw [if_pos k1, decide_eq_true (l1.mpr k1.1.1), decide_eq_true (l2.mpr k1.1.2), decide_eq_true (l3.mpr k1.2.1), decide_eq_true (l4.mpr k1.2.2)]; rfl
      · rw [if_neg k1]
        refine (bI_0 _).mpr ?_ |>.symm
        cases hh : (decide ((1 : Int32) = 1) && (decide (nI x ≤ nI (c % 12)) && decide (nI (c % 12) ≤ nI x2)) && (decide (nI y' ≤ nI (c / 12)) && decide (nI (c / 12) ≤ nI y2))) with
        | false => rfl
        | true =>
          simp only [Bool.and_eq_true, decide_eq_true_eq] at hh
          exact absurd ⟨⟨l1.mp hh.1.2.1, l2.mp hh.1.2.2⟩, l3.mp hh.2.1, l4.mp hh.2.2⟩ k1
  · intro k h1 h2
    by_cases c : k = 5
    · rw [c, b4, w18, a4.1]
    · rw [b3 k (by omega), z' (13 + k) (by omega)]
  · rw [b6.1]
    unfold scW
    rw [f7, f8, f9, f10, f11]
    rcases a9 with ⟨g1, g2, _⟩ | ⟨g1, x, y', x2, y2, _, ⟨g3, g4, g5, g6⟩, g7, _⟩
    · rw [g2, g1]; rfl
    · rw [g7, g1, g3, g4, g5, g6, if_pos rfl]
  · rw [b5.1]
    unfold dcW
    refine (sm_nil (fun c hc => ?_)).symm
    rw [dug0 c hc]; rfl
  · rw [b6.2.1, eW 6 (by omega) (by omega) (by omega) (by omega)]; exact a5.1
  · rw [b6.2.2, eW 0 (by omega) (by omega) (by omega) (by omega)]; exact h13
  · rw [b5.2.1, z' 1 (by omega)]
  · rw [b5.2.2.1, z' 12 (by omega)]
  · rw [b5.2.2.2, z' 13 (by omega)]
  · intro c hc; rw [eW _ (by omega) (by omega) (by omega) (by omega)]; exact (a2 c hc).2
  · intro g hg; rw [eW (20 + 4 * g) (by omega) (by omega) (by omega) (by omega), eW (21 + 4 * g) (by omega) (by omega) (by omega) (by omega)]; exact (a1 g hg).2.1
  · intro g hg; rw [eW (22 + 4 * g) (by omega) (by omega) (by omega) (by omega)]; exact (a1 g hg).2.2.1
  · intro g hg; rw [eW (23 + 4 * g) (by omega) (by omega) (by omega) (by omega)]; exact (a1 g hg).2.2.2
  · intro c hc; rw [eW _ (by omega) (by omega) (by omega) (by omega)]; exact (a3 c hc).1
  · rw [eW 5 (by omega) (by omega) (by omega) (by omega)]; exact a4.2
  · intro c hc
    rw [wwarm c hc]
    have := a4.2
    rw [this.1.1, nI_toInt (by have := this.1.2; omega)]
    have := this.1.2
    omega
  · intro c hc
    rw [wz _ (by omega) (by omega)]
    exact ⟨isN.mk (n := 0) (by decide) (by decide), by rw [show nn (0 : Int32) = 0 by decide]; exact Nat.zero_le _⟩
  · intro c hc; exact Or.inl (dug0 c hc)
  · intro c hc h1; rw [dug0 c hc] at h1; exact absurd h1 (by decide)
  · rw [eW 2 (by omega) (by omega) (by omega) (by omega), m2]; exact ⟨isN.mk (by omega) (by decide), by decide⟩
  · intro p hp; rw [nP] at hp; rw [eW _ (by omega) (by omega) (by omega) (by omega)]; exact (m4 p hp).2.1
  · intro p p2 hp hp2; rw [nP] at hp hp2; rw [eW (624 + 6 * p) (by omega) (by omega) (by omega) (by omega), eW (624 + 6 * p2) (by omega) (by omega) (by omega) (by omega)]; exact m5 p p2 hp hp2
  · intro p hp; rw [nP] at hp; rw [show 624 + 6 * p + 1 = 625 + 6 * p by omega, eW _ (by omega) (by omega) (by omega) (by omega)]; exact (m4 p hp).2.2.1
  · intro p hp; rw [nP] at hp; rw [show 624 + 6 * p + 2 = 626 + 6 * p by omega, eW _ (by omega) (by omega) (by omega) (by omega)]; exact (m4 p hp).2.2.2.1
  · intro p hp; rw [nP] at hp; rw [show 624 + 6 * p + 3 = 627 + 6 * p by omega, eW _ (by omega) (by omega) (by omega) (by omega)]; exact Or.inr (m4 p hp).2.2.2.2
  · rw [eW 3 (by omega) (by omega) (by omega) (by omega), q2]; exact isN.mk (by omega) (by decide)
  · intro p hp; rw [nH] at hp; rw [eW _ (by omega) (by omega) (by omega) (by omega)]; exact (q4 p hp).2.2.2
  · rw [eW 4 (by omega) (by omega) (by omega) (by omega), r2]; exact isN.mk (by omega) (by decide)
  · intro p hp
    rw [nR] at hp
    obtain ⟨k, hk, cr⟩ := r4 p hp
    rw [eW _ (by omega) (by omega) (by omega) (by omega), cr.1]; exact isN.mk (by omega) (by decide)
  · intro p i hp hi
    rw [nR] at hp
    obtain ⟨k, hk, hik, cr⟩ := cond p i hp hi
    rw [(ew3 p i (by omega) (by omega)).1]; exact (cr.2.2 i hik).2.1
  · intro g hg; exact Or.inl (wg g hg)
  · rw [f7, f8, f9, f10, f11]
    rcases a9 with ⟨g1, _⟩ | ⟨g1, x, y', x2, y2, g2, ⟨g3, g4, g5, g6⟩, _⟩
    · exact Or.inl g1
    · rw [g3, g4, g5, g6, nn_nI (by omega), nn_nI (by omega), nn_nI (by omega), nn_nI (by omega)]
      exact Or.inr ⟨g1, ⟨isN.mk (by omega) (by decide), isN.mk (by omega) (by decide), isN.mk (by omega) (by decide), isN.mk (by omega) (by decide)⟩, by omega, by omega, by omega, by omega⟩
  · rw [eW 6 (by omega) (by omega) (by omega) (by omega)]; exact a5.2
  · exact Or.inl (z' 12 (by omega))
  · rw [z' 1 (by omega)]; exact isN.mk (n := 0) (by decide) (by decide)
  · exact eW 0 (by omega) (by omega) (by omega) (by omega)
