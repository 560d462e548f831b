/-! ===== the start keeps the invariant ===== -/
def W0 : Nat → Int32 := beginW (fun i => if i < 810 then plainW i else 0)
theorem W0_c {i : Nat} (v : Int32) (h : W0 i = v) : W0 i = v := h
theorem W0_lo : W0 0 = 0 ∧ W0 1 = 0 ∧ W0 2 = 0 ∧ W0 3 = 0 ∧ W0 4 = 0 ∧ W0 5 = 100 ∧ W0 6 = 99999 ∧ W0 7 = 0 ∧ W0 12 = 0 ∧ W0 13 = 0 ∧ W0 14 = 0 ∧ W0 15 = 0 ∧ W0 16 = 0 ∧ W0 17 = 0 ∧ W0 18 = 14400 := by decide +kernel
theorem W0_g : ∀ g, g < 4 → W0 (20 + 4 * g) = 10 ∧ W0 (21 + 4 * g) = 15 ∧ W0 (22 + 4 * g) = 100 ∧ W0 (23 + 4 * g) = 0 := by decide +kernel
theorem W0_s : ∀ y, y < 12 → W0 (36 + y) = 0 := by decide +kernel
theorem W0_cell : ∀ c, c < 144 → W0 (48 + c) = 0 ∧ W0 (192 + c) = 100 ∧ W0 (336 + c) = 0 ∧ W0 (480 + c) = 0 := by decide +kernel
theorem W0_gc : ∀ g, g < 10 → W0 (790 + 2 * g) = -1 := by decide +kernel
theorem W0_sh (c : Nat) : shW W0 c = false := by
  unfold shW
  rw [W0_lo.2.2.2.2.2.2.2.1]
  rfl
theorem W0_dc : dcW W0 = 0 := by decide +kernel
theorem W0_n2 : nPW W0 = 0 := by unfold nPW; rw [W0_lo.2.2.1]; rfl
theorem W0_n3 : nHW W0 = 0 := by unfold nHW; rw [W0_lo.2.2.2.1]; rfl
theorem W0_n4 : nRW W0 = 0 := by unfold nRW; rw [W0_lo.2.2.2.2.1]; rfl
theorem W0_kd (c : Nat) (hc : c < 144) : kdW W0 c = 0 := by unfold kdW; rw [(W0_cell c hc).1]; rfl
theorem isN0 {m : Nat} (k : Nat) (h : k < m) (hm : m < 2 ^ 31) {x : Int32} (e : x = nI k) : isN x m := by rw [e]; exact isN.mk h hm
theorem W0_ok : OkW W0 12 := by
  have L := W0_lo
  refine ⟨fun c hc => isN0 0 (by omega) (by decide) (W0_cell c hc).1, fun g hg => ⟨isN0 10 (by omega) (by decide) (W0_g g hg).1, isN0 15 (by omega) (by decide) (W0_g g hg).2.1⟩, fun g hg => ⟨isN0 100 (by omega) (by decide) (W0_g g hg).2.2.1, by rw [(W0_g g hg).2.2.1]; decide⟩, fun g hg => by rw [(W0_g g hg).2.2.2]; decide, fun y hy => isN0 0 (by omega) (by decide) (W0_s y hy), ⟨isN0 100 (by omega) (by decide) L.2.2.2.2.2.1, by rw [L.2.2.2.2.2.1]; decide⟩, fun c hc => by rw [(W0_cell c hc).2.1]; decide, fun c hc => ⟨isN0 0 (by omega) (by decide) (W0_cell c hc).2.2.1, by rw [(W0_cell c hc).2.2.1]; exact Nat.zero_le _⟩, fun c hc => Or.inl (W0_cell c hc).2.2.2, fun c hc e => by rw [(W0_cell c hc).2.2.2] at e; exact absurd e (by decide), ⟨isN0 0 (by omega) (by decide) L.2.2.1, by omega⟩, ?_, ?_, ?_, ?_, ?_, isN0 0 (by omega) (by decide) L.2.2.2.1, ?_, isN0 0 (by omega) (by decide) L.2.2.2.2.1, ?_, ?_, fun g hg => Or.inl (W0_gc g hg), Or.inl L.2.2.2.2.2.2.2.1, isN0 99999 (by omega) (by decide) L.2.2.2.2.2.2.1, Or.inl L.2.2.2.2.2.2.2.2.1⟩
  · intro p hp; rw [W0_n2] at hp; omega
  · intro p r hp; rw [W0_n2] at hp; omega
  · intro p hp; rw [W0_n2] at hp; omega
  · intro p hp; rw [W0_n2] at hp; omega
  · intro p hp; rw [W0_n2] at hp; omega
  · intro p hp; rw [W0_n3] at hp; omega
  · intro p hp; rw [W0_n4] at hp; omega
  · intro p i hp; rw [W0_n4] at hp; omega
theorem start_In : ∃ y y2, (nwC (11 + 7) 0 z0 fun a z => bnd (m_X11_init a z) fun _ z => some (a, z)) = some (0, y) ∧ (nwC (12 + 7) 0 y fun a z => bnd (m_X12_init a z) fun _ z => some (a, z)) = some (92, y2) ∧ In y2 1 33 := by
  obtain ⟨y, e1, n1, LC, L1, L33, ⟨r0, r1, r2, r3, r4, r5⟩, j1, j2, j3, j4, j5, j6, j7, x, ⟨k1, k2, k3, k4, k5, k6, k7, k8, k9, k10⟩, F, b1, b2, b3, b4, b5, b6, b7, b8, b9, b10, b11⟩ := start_C
  obtain ⟨y2, e2, n2, LM, Fr2, m1, m2, m3, m4, m5, m6⟩ := start_M n1
  refine ⟨y, y2, e1, e2, ?_⟩
  have f : ∀ a, a < 92 → zK y2 a = zK y a ∧ zI y2 a = zI y a ∧ zL y2 a = zL y a ∧ zR y2 a = zR y a := fun a ha => Fr2 a (by omega)
  have m1' : zI y2 93 = W0 := m1
  have L := W0_lo
  have ix : ∀ a, ¬ (a = 1 ∨ a = 1 + 25 ∨ a = 1 + 27 ∨ a = 1 + 28 ∨ a = 1 + 29 ∨ a = 1 + 31) → a < 92 → zI y2 a = zI x a := fun a h1 h2 => by rw [(f a h2).2.1]; exact F.2.2.2.2 a h1
  refine ⟨Or.inl ⟨rfl, rfl⟩, by rw [(f 0 (by omega)).2.2.2]; exact r0, by rw [(f 0 (by omega)).2.2.2]; exact r1, LC.fr3 (fun a ha => (f a (by omega)).1) (fun a ha _ => (f a (by omega)).2.2.2), LM, L1.fr3 (fun a h1 h2 => ⟨(f a (by omega)).1, (f a (by omega)).2.2.2⟩), L33.fr3 (fun a h1 h2 => ⟨(f a (by omega)).1, (f a (by omega)).2.2.2⟩), ?_, ?_, ?_, ?_, ?_, ?_, ?_, ?_, ?_, ?_, ?_, ?_, ?_, ?_, ?_, ?_, ?_, ?_, ?_, ?_, ?_, ?_⟩
  · rw [(f 74 (by omega)).2.2.2]; exact Or.inl ⟨r2, r3⟩
  · rw [(f 68 (by omega)).2.2.2]; exact Or.inr r4
  · rw [m1']
    have i1 : ∀ j, j ≠ 0 → j ≠ 25 → j ≠ 27 → j ≠ 28 → j ≠ 29 → j ≠ 31 → j < 32 → zI y2 (1 + j) = zI x (1 + j) := fun j h0 h1 h2 h3 h4 h5 h6 => ix (1 + j) (by omega) (by omega)
    have iy : ∀ j, j < 32 → zI y2 (1 + j) = zI y (1 + j) := fun j h => (f (1 + j) (by omega)).2.1
    have iy0 : zI y2 1 = zI y 1 := (f 1 (by omega)).2.1
    refine ⟨fun g hg => ?_, fun g hg => ?_, fun g hg => ?_, fun g hg => ?_, fun c hc => ?_, fun r hr => ?_, ?_, ?_, ?_, ?_, ?_, ?_, ?_, ?_, ?_, ?_, ?_, ?_, ?_, ?_, ?_, ?_, fun g hg => ?_, fun g hg h => ?_, fun c hc => ?_, fun c hc => ?_, fun c hc => ?_, fun c hc => ?_, fun k hk1 hk2 => ?_, ?_, ?_, ?_, ?_, ?_, ?_, ?_⟩
    · rw [i1 2 (by omega) (by omega) (by omega) (by omega) (by omega) (by omega) (by omega), (k1 g hg).1, (W0_g g hg).1]
    · rw [i1 3 (by omega) (by omega) (by omega) (by omega) (by omega) (by omega) (by omega), (k1 g hg).2.1, (W0_g g hg).2.1]
    · rw [i1 4 (by omega) (by omega) (by omega) (by omega) (by omega) (by omega) (by omega), (k1 g hg).2.2.1, (W0_g g hg).2.2.1]
    · rw [i1 5 (by omega) (by omega) (by omega) (by omega) (by omega) (by omega) (by omega), (k1 g hg).2.2.2, (W0_g g hg).2.2.2]
    · rw [i1 6 (by omega) (by omega) (by omega) (by omega) (by omega) (by omega) (by omega), (k2 c hc).1, (W0_cell c hc).1]
    · rw [i1 7 (by omega) (by omega) (by omega) (by omega) (by omega) (by omega) (by omega), k3 r hr]
      exact Or.inr ⟨rfl, W0_s r hr⟩
    · rw [i1 1 (by omega) (by omega) (by omega) (by omega) (by omega) (by omega) (by omega), k4, L.2.2.2.2.2.1]
    · rw [i1 8 (by omega) (by omega) (by omega) (by omega) (by omega) (by omega) (by omega), k5, L.2.2.1]
    · intro p hp; rw [W0_n2] at hp; omega
    · intro p hp; rw [W0_n2] at hp; omega
    · intro p hp; rw [W0_n2] at hp; omega
    · intro p hp; rw [W0_n2] at hp; omega
    · intro p hp; rw [W0_n2] at hp; omega
    · intro p hp; rw [W0_n2] at hp; omega
    · rw [i1 15 (by omega) (by omega) (by omega) (by omega) (by omega) (by omega) (by omega), k6, L.2.2.2.1]
    · intro p hp; rw [W0_n3] at hp; omega
    · intro p hp; rw [W0_n3] at hp; omega
    · intro p hp; rw [W0_n3] at hp; omega
    · rw [i1 19 (by omega) (by omega) (by omega) (by omega) (by omega) (by omega) (by omega), k7, L.2.2.2.2.1]
    · intro p hp; rw [W0_n4] at hp; omega
    · intro p i hp; rw [W0_n4] at hp; omega
    · intro p i hp; rw [W0_n4] at hp; omega
    · rw [iy 25 (by omega), b2 g hg, W0_gc g hg]
    · exact absurd (W0_gc g hg) h
    · rw [iy 27 (by omega), (b1 c hc).1, k4, (W0_cell c hc).2.1]
    · rw [iy 28 (by omega), (b1 c hc).2.1, (W0_cell c hc).2.2.1]
    · rw [iy 29 (by omega), (b1 c hc).2.2, (W0_cell c hc).2.2.2]
    · rw [i1 30 (by omega) (by omega) (by omega) (by omega) (by omega) (by omega) (by omega), (k2 c hc).2, W0_sh c]; rfl
    · rw [iy 31 (by omega)]
      by_cases c5 : k = 5
      · rw [c5, b4, k4, L.2.2.2.2.2.2.2.2.2.2.2.2.2.2]; decide
      · rw [b3 k (by omega)]
        have : k = 1 ∨ k = 2 ∨ k = 3 ∨ k = 4 := by omega
        rcases this with rfl | rfl | rfl | rfl
        · exact L.2.2.2.2.2.2.2.2.2.2.1.symm
        · exact L.2.2.2.2.2.2.2.2.2.2.2.1.symm
        · exact L.2.2.2.2.2.2.2.2.2.2.2.2.1.symm
        · exact L.2.2.2.2.2.2.2.2.2.2.2.2.2.1.symm
    · rw [iy0, b9, k8]; unfold scW; rw [L.2.2.2.2.2.2.2.1]; rfl
    · rw [iy0, b5, W0_dc]
    · rw [iy0, b10, k9, L.2.2.2.2.2.2.1]
    · rw [iy0, b11, k10, L.1]
    · rw [iy0, b6, L.2.1]
    · rw [iy0, b7, L.2.2.2.2.2.2.2.2.1]
    · rw [iy0, b8, L.2.2.2.2.2.2.2.2.2.1]
  · rw [m1']; exact W0_ok
  · rw [m1']; exact isN0 0 (by omega) (by decide) L.2.1
  · intro k hk
    left
    exact ⟨by rw [m3], by rw [(f 65 (by omega)).2.2.2]; exact r5 k⟩
  · intro j k _ _ t u h1
    rw [(f 65 (by omega)).2.2.2, r5 j] at h1
    cases h1
  · rw [m2]; exact isN0 0 (by omega) (by decide) rfl
  · rw [(f 66 (by omega)).2.1, j5, m2]; rfl
  · intro i hi
    rw [m2] at hi
    have e : nn (ups (fun _ => (0 : Int32)) 14 (-1) 6) = 0 := by decide
    omega
  · rw [(f 0 (by omega)).2.1, j3, m2]; rfl
  · rw [(f 0 (by omega)).2.1, j4, m2]; rfl
  · rw [(f 0 (by omega)).2.1, j1, m2]; rfl
  · rw [m2]; exact isN0 0 (by omega) (by decide) rfl
  · intro i hi
    rw [m2] at hi
    have e : nn (ups (fun _ => (0 : Int32)) 14 (-1) 34) = 0 := by decide
    omega
  · rw [(f 0 (by omega)).2.1, j2, m2]; rfl
  · intro k hk
    rw [m4]
    exact Or.inl (if_pos hk)
  · intro k hk
    rw [(f 90 (by omega)).2.1, m4, j6 k hk]
    exact (if_pos hk).symm
  · intro k hk
    rw [m5]; exact isN0 0 (by omega) (by decide) rfl
  · intro k hk
    rw [m4]
    exact Or.inl (if_pos hk)
  · intro k i hk hi
    rw [(f (85 + k) (by omega)).2.2.1, m6, j7 k hk]
  · rw [n2]; exact Nat.le_refl _
theorem pure_of (H : Ops) (L : Nat) (hL : L ≤ 3072) (xs : Nat → Int32) : ∃ z1, m_L_law (L, xs) z0 = some (1, z1) := by
  obtain ⟨y, y2, e1, e2, h⟩ := start_In
  obtain ⟨z1, hz1⟩ := law_loop H hL xs h
  refine ⟨z1, ?_⟩
  rw [nwC_eq] at e1 e2
  unfold m_L_law
  rw [nwC_eq]
  cases g1 : m_X11_init (zN z0) (zNew z0 (11 + 7) 0) with
  | none => rw [g1] at e1; cases e1
  | some q1 =>
    obtain ⟨u1, v1⟩ := q1
    rw [g1, bnd_some] at e1
    cases e1
    rw [bnd_some, nwC_eq]
    cases g2 : m_X12_init (zN y) (zNew y (12 + 7) 0) with
    | none => rw [g2] at e2; cases e2
    | some q2 =>
      obtain ⟨u2, v2⟩ := q2
      rw [g2, bnd_some] at e2
      have h2 : zN y = 92 ∧ v2 = y2 := by
        injection e2 with e3
        injection e3 with e4 e5
        exact ⟨e4, e5⟩
      rw [bnd_some, h2.1, h2.2]
      exact hz1
