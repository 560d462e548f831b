/-! ===== what each part of RelS and OkW reads ===== -/
theorem up_ne {α : Type} {f : Nat → α} {k j : Nat} {x : α} (h : j ≠ k) : ups f k x j = f j := if_neg h
theorem up_eq {α : Type} {f : Nat → α} {k : Nat} {x : α} : ups f k x k = x := if_pos rfl
theorem zI_ne {z : Hp} {a b : Nat} {f : Nat → Int32} (h : b ≠ a) : zI (wI z a f) b = zI z b := if_neg h
theorem zI_eq {z : Hp} {a : Nat} {f : Nat → Int32} : zI (wI z a f) a = f := if_pos rfl
theorem nPW_of {W V : Nat → Int32} (e : V 2 = W 2) : nPW V = nPW W := by unfold nPW; rw [e]
theorem nHW_of {W V : Nat → Int32} (e : V 3 = W 3) : nHW V = nHW W := by unfold nHW; rw [e]
theorem nRW_of {W V : Nat → Int32} (e : V 4 = W 4) : nRW V = nRW W := by unfold nRW; rw [e]
theorem nCW_of {W V : Nat → Int32} {r : Nat} (e : V (750 + 10 * r) = W (750 + 10 * r)) : nCW V r = nCW W r := by unfold nCW; rw [e]
theorem kdW_of {W V : Nat → Int32} {c : Nat} (e : V (48 + c) = W (48 + c)) : kdW V c = kdW W c := by unfold kdW; rw [e]
theorem shW_of {W V : Nat → Int32} (e : ∀ i, 7 ≤ i ∧ i < 12 → V i = W i) (c : Nat) : shW V c = shW W c := by
  unfold shW; rw [e 7 (by omega), e 8 (by omega), e 9 (by omega), e 10 (by omega), e 11 (by omega)]
theorem scW_of {W V : Nat → Int32} (e : ∀ i, 7 ≤ i ∧ i < 12 → V i = W i) : scW V = scW W := by
  unfold scW; rw [e 7 (by omega), e 8 (by omega), e 9 (by omega), e 10 (by omega), e 11 (by omega)]
theorem dcW_of {W V : Nat → Int32} (e : ∀ i, 480 ≤ i ∧ i < 624 → V i = W i) : dcW V = dcW W := by
  unfold dcW; exact sm_congr (fun c hc => by rw [e (480 + c) (by omega)])
theorem rs_lead_of {z y : Hp} {s : Nat} {W V : Nat → Int32} (h : ∀ g, g < 4 → zI z (s + 2) g = W (20 + 4 * g)) (hz0 : zI y (s + 2) = zI z (s + 2)) (e : ∀ i, 20 ≤ i ∧ i < 36 → V i = W i) : ∀ g, g < 4 → zI y (s + 2) g = V (20 + 4 * g) := by
  intro g q0
  rw [hz0, e (20 + 4 * g) (by omega)]
  exact h g q0
theorem rs_ilead_of {z y : Hp} {s : Nat} {W V : Nat → Int32} (h : ∀ g, g < 4 → zI z (s + 3) g = W (21 + 4 * g)) (hz0 : zI y (s + 3) = zI z (s + 3)) (e : ∀ i, 20 ≤ i ∧ i < 36 → V i = W i) : ∀ g, g < 4 → zI y (s + 3) g = V (21 + 4 * g) := by
  intro g q0
  rw [hz0, e (21 + 4 * g) (by omega)]
  exact h g q0
theorem rs_latent_of {z y : Hp} {s : Nat} {W V : Nat → Int32} (h : ∀ g, g < 4 → zI z (s + 4) g = W (22 + 4 * g)) (hz0 : zI y (s + 4) = zI z (s + 4)) (e : ∀ i, 20 ≤ i ∧ i < 36 → V i = W i) : ∀ g, g < 4 → zI y (s + 4) g = V (22 + 4 * g) := by
  intro g q0
  rw [hz0, e (22 + 4 * g) (by omega)]
  exact h g q0
theorem rs_mark_of {z y : Hp} {s : Nat} {W V : Nat → Int32} (h : ∀ g, g < 4 → zI z (s + 5) g = W (23 + 4 * g)) (hz0 : zI y (s + 5) = zI z (s + 5)) (e : ∀ i, 20 ≤ i ∧ i < 36 → V i = W i) : ∀ g, g < 4 → zI y (s + 5) g = V (23 + 4 * g) := by
  intro g q0
  rw [hz0, e (23 + 4 * g) (by omega)]
  exact h g q0
theorem rs_ground_of {z y : Hp} {s : Nat} {W V : Nat → Int32} (h : ∀ c, c < 144 → zI z (s + 6) c = W (48 + c)) (hz0 : zI y (s + 6) = zI z (s + 6)) (e : ∀ i, 48 ≤ i ∧ i < 192 → V i = W i) : ∀ c, c < 144 → zI y (s + 6) c = V (48 + c) := by
  intro c q0
  rw [hz0, e (48 + c) (by omega)]
  exact h c q0
theorem rs_speed_of {z y : Hp} {s : Nat} {W V : Nat → Int32} (h : ∀ r, r < 12 → zI z (s + 7) r = W (36 + r) ∨ zI z (s + 7) r = -1 ∧ W (36 + r) = 0) (hz0 : zI y (s + 7) = zI z (s + 7)) (e : ∀ i, 36 ≤ i ∧ i < 48 → V i = W i) : ∀ r, r < 12 → zI y (s + 7) r = V (36 + r) ∨ zI y (s + 7) r = -1 ∧ V (36 + r) = 0 := by
  intro r q0
  rw [hz0, e (36 + r) (by omega)]
  exact h r q0
theorem rs_far_of {z y : Hp} {s : Nat} {W V : Nat → Int32} (h : zI z (s + 1) 6 = W 5) (hz : zI y (s + 1) 6 = zI z (s + 1) 6) (e : ∀ i, i = 5 → V i = W i) : zI y (s + 1) 6 = V 5 := by
  rw [hz, e 5 (by omega)]
  exact h
theorem rs_pn_of {z y : Hp} {s : Nat} {W V : Nat → Int32} (h : zI z (s + 8) 6 = W 2) (hz : zI y (s + 8) 6 = zI z (s + 8) 6) (e : ∀ i, i = 2 → V i = W i) : zI y (s + 8) 6 = V 2 := by
  rw [hz, e 2 (by omega)]
  exact h
theorem rs_p0_of {z y : Hp} {s : Nat} {W V : Nat → Int32} (h : ∀ p, p < nPW W → zI z (s + 9) p = W (624 + 6 * p)) (hz0 : zI y (s + 9) = zI z (s + 9)) (bP : nPW W ≤ 18) (e : ∀ i, i = 2 ∨ 624 ≤ i ∧ i < 732 → V i = W i) : ∀ p, p < nPW V → zI y (s + 9) p = V (624 + 6 * p) := by
  intro p q0
  rw [nPW_of (e 2 (by omega))] at q0
  have bb : p < 18 := by omega
  rw [hz0, e (624 + 6 * p) (by omega)]
  exact h p q0
theorem rs_p1_of {z y : Hp} {s : Nat} {W V : Nat → Int32} (h : ∀ p, p < nPW W → zI z (s + 10) p = W (624 + 6 * p + 1)) (hz0 : zI y (s + 10) = zI z (s + 10)) (bP : nPW W ≤ 18) (e : ∀ i, i = 2 ∨ 624 ≤ i ∧ i < 732 → V i = W i) : ∀ p, p < nPW V → zI y (s + 10) p = V (624 + 6 * p + 1) := by
  intro p q0
  rw [nPW_of (e 2 (by omega))] at q0
  have bb : p < 18 := by omega
  rw [hz0, e (624 + 6 * p + 1) (by omega)]
  exact h p q0
theorem rs_p2_of {z y : Hp} {s : Nat} {W V : Nat → Int32} (h : ∀ p, p < nPW W → zI z (s + 11) p = W (624 + 6 * p + 2)) (hz0 : zI y (s + 11) = zI z (s + 11)) (bP : nPW W ≤ 18) (e : ∀ i, i = 2 ∨ 624 ≤ i ∧ i < 732 → V i = W i) : ∀ p, p < nPW V → zI y (s + 11) p = V (624 + 6 * p + 2) := by
  intro p q0
  rw [nPW_of (e 2 (by omega))] at q0
  have bb : p < 18 := by omega
  rw [hz0, e (624 + 6 * p + 2) (by omega)]
  exact h p q0
theorem rs_p3_of {z y : Hp} {s : Nat} {W V : Nat → Int32} (h : ∀ p, p < nPW W → zI z (s + 12) p = W (624 + 6 * p + 3)) (hz0 : zI y (s + 12) = zI z (s + 12)) (bP : nPW W ≤ 18) (e : ∀ i, i = 2 ∨ 624 ≤ i ∧ i < 732 → V i = W i) : ∀ p, p < nPW V → zI y (s + 12) p = V (624 + 6 * p + 3) := by
  intro p q0
  rw [nPW_of (e 2 (by omega))] at q0
  have bb : p < 18 := by omega
  rw [hz0, e (624 + 6 * p + 3) (by omega)]
  exact h p q0
theorem rs_p4_of {z y : Hp} {s : Nat} {W V : Nat → Int32} (h : ∀ p, p < nPW W → zI z (s + 13) p = W (624 + 6 * p + 4)) (hz0 : zI y (s + 13) = zI z (s + 13)) (bP : nPW W ≤ 18) (e : ∀ i, i = 2 ∨ 624 ≤ i ∧ i < 732 → V i = W i) : ∀ p, p < nPW V → zI y (s + 13) p = V (624 + 6 * p + 4) := by
  intro p q0
  rw [nPW_of (e 2 (by omega))] at q0
  have bb : p < 18 := by omega
  rw [hz0, e (624 + 6 * p + 4) (by omega)]
  exact h p q0
theorem rs_p5_of {z y : Hp} {s : Nat} {W V : Nat → Int32} (h : ∀ p, p < nPW W → zI z (s + 14) p = W (624 + 6 * p + 5)) (hz0 : zI y (s + 14) = zI z (s + 14)) (bP : nPW W ≤ 18) (e : ∀ i, i = 2 ∨ 624 ≤ i ∧ i < 732 → V i = W i) : ∀ p, p < nPW V → zI y (s + 14) p = V (624 + 6 * p + 5) := by
  intro p q0
  rw [nPW_of (e 2 (by omega))] at q0
  have bb : p < 18 := by omega
  rw [hz0, e (624 + 6 * p + 5) (by omega)]
  exact h p q0
theorem rs_hn_of {z y : Hp} {s : Nat} {W V : Nat → Int32} (h : zI z (s + 15) 3 = W 3) (hz : zI y (s + 15) 3 = zI z (s + 15) 3) (e : ∀ i, i = 3 → V i = W i) : zI y (s + 15) 3 = V 3 := by
  rw [hz, e 3 (by omega)]
  exact h
theorem rs_h0_of {z y : Hp} {s : Nat} {W V : Nat → Int32} (h : ∀ g, g < nHW W → zI z (s + 16) g = W (732 + 3 * g)) (hz0 : zI y (s + 16) = zI z (s + 16)) (bH : nHW W ≤ 6) (e : ∀ i, i = 3 ∨ 732 ≤ i ∧ i < 750 → V i = W i) : ∀ g, g < nHW V → zI y (s + 16) g = V (732 + 3 * g) := by
  intro g q0
  rw [nHW_of (e 3 (by omega))] at q0
  have bb : g < 6 := by omega
  rw [hz0, e (732 + 3 * g) (by omega)]
  exact h g q0
theorem rs_h1_of {z y : Hp} {s : Nat} {W V : Nat → Int32} (h : ∀ g, g < nHW W → zI z (s + 17) g = W (732 + 3 * g + 1)) (hz0 : zI y (s + 17) = zI z (s + 17)) (bH : nHW W ≤ 6) (e : ∀ i, i = 3 ∨ 732 ≤ i ∧ i < 750 → V i = W i) : ∀ g, g < nHW V → zI y (s + 17) g = V (732 + 3 * g + 1) := by
  intro g q0
  rw [nHW_of (e 3 (by omega))] at q0
  have bb : g < 6 := by omega
  rw [hz0, e (732 + 3 * g + 1) (by omega)]
  exact h g q0
theorem rs_h2_of {z y : Hp} {s : Nat} {W V : Nat → Int32} (h : ∀ g, g < nHW W → zI z (s + 18) g = W (732 + 3 * g + 2)) (hz0 : zI y (s + 18) = zI z (s + 18)) (bH : nHW W ≤ 6) (e : ∀ i, i = 3 ∨ 732 ≤ i ∧ i < 750 → V i = W i) : ∀ g, g < nHW V → zI y (s + 18) g = V (732 + 3 * g + 2) := by
  intro g q0
  rw [nHW_of (e 3 (by omega))] at q0
  have bb : g < 6 := by omega
  rw [hz0, e (732 + 3 * g + 2) (by omega)]
  exact h g q0
theorem rs_rn_of {z y : Hp} {s : Nat} {W V : Nat → Int32} (h : zI z (s + 19) 4 = W 4) (hz : zI y (s + 19) 4 = zI z (s + 19) 4) (e : ∀ i, i = 4 → V i = W i) : zI y (s + 19) 4 = V 4 := by
  rw [hz, e 4 (by omega)]
  exact h
theorem rs_rc_of {z y : Hp} {s : Nat} {W V : Nat → Int32} (h : ∀ r, r < nRW W → zI z (s + 20) r = W (750 + 10 * r)) (hz0 : zI y (s + 20) = zI z (s + 20)) (bR : nRW W ≤ 4) (e : ∀ i, i = 4 ∨ 750 ≤ i ∧ i < 790 → V i = W i) : ∀ r, r < nRW V → zI y (s + 20) r = V (750 + 10 * r) := by
  intro r q0
  rw [nRW_of (e 4 (by omega))] at q0
  have bb : r < 4 := by omega
  rw [hz0, e (750 + 10 * r) (by omega)]
  exact h r q0
theorem rs_rw_of {z y : Hp} {s : Nat} {W V : Nat → Int32} (h : ∀ r i, r < nRW W → i < nCW W r → zI z (s + 21) (3 * r + i) = W (751 + 10 * r + 3 * i)) (hz0 : zI y (s + 21) = zI z (s + 21)) (bR : nRW W ≤ 4) (bC : ∀ r, r < nRW W → nCW W r ≤ 3) (e : ∀ i, i = 4 ∨ 750 ≤ i ∧ i < 790 → V i = W i) : ∀ r i, r < nRW V → i < nCW V r → zI y (s + 21) (3 * r + i) = V (751 + 10 * r + 3 * i) := by
  intro r i q0 q1
  rw [nRW_of (e 4 (by omega))] at q0
  have bb : r < 4 := by omega
  rw [nCW_of (e (750 + 10 * r) (by omega))] at q1
  have bc := bC r q0
  rw [hz0, e (751 + 10 * r + 3 * i) (by omega)]
  exact h r i q0 q1
theorem rs_rs_of {z y : Hp} {s : Nat} {W V : Nat → Int32} (h : ∀ r i, r < nRW W → i < nCW W r → W (751 + 10 * r + 3 * i) ≠ 0 → zI z (s + 22) (3 * r + i) = W (752 + 10 * r + 3 * i) ∧ zI z (s + 23) (3 * r + i) = W (753 + 10 * r + 3 * i)) (hz0 : zI y (s + 22) = zI z (s + 22)) (hz1 : zI y (s + 23) = zI z (s + 23)) (bR : nRW W ≤ 4) (bC : ∀ r, r < nRW W → nCW W r ≤ 3) (e : ∀ i, i = 4 ∨ 750 ≤ i ∧ i < 790 → V i = W i) : ∀ r i, r < nRW V → i < nCW V r → V (751 + 10 * r + 3 * i) ≠ 0 → zI y (s + 22) (3 * r + i) = V (752 + 10 * r + 3 * i) ∧ zI y (s + 23) (3 * r + i) = V (753 + 10 * r + 3 * i) := by
  intro r i q0 q1 q2
  rw [nRW_of (e 4 (by omega))] at q0
  have bb : r < 4 := by omega
  rw [nCW_of (e (750 + 10 * r) (by omega))] at q1
  have bc := bC r q0
  rw [e (751 + 10 * r + 3 * i) (by omega)] at q2
  rw [hz0, hz1, e (752 + 10 * r + 3 * i) (by omega), e (753 + 10 * r + 3 * i) (by omega)]
  exact h r i q0 q1 q2
theorem rs_gc_of {z y : Hp} {s : Nat} {W V : Nat → Int32} (h : ∀ g, g < 10 → zI z (s + 25) g = W (790 + 2 * g)) (hz0 : zI y (s + 25) = zI z (s + 25)) (e : ∀ i, 790 ≤ i ∧ i < 810 → V i = W i) : ∀ g, g < 10 → zI y (s + 25) g = V (790 + 2 * g) := by
  intro g q0
  rw [hz0, e (790 + 2 * g) (by omega)]
  exact h g q0
theorem rs_gr_of {z y : Hp} {s : Nat} {W V : Nat → Int32} (h : ∀ g, g < 10 → W (790 + 2 * g) ≠ -1 → zI z (s + 26) g = W (791 + 2 * g)) (hz0 : zI y (s + 26) = zI z (s + 26)) (e : ∀ i, 790 ≤ i ∧ i < 810 → V i = W i) : ∀ g, g < 10 → V (790 + 2 * g) ≠ -1 → zI y (s + 26) g = V (791 + 2 * g) := by
  intro g q0 q1
  rw [e (790 + 2 * g) (by omega)] at q1
  rw [hz0, e (791 + 2 * g) (by omega)]
  exact h g q0 q1
theorem rs_warm_of {z y : Hp} {s : Nat} {W V : Nat → Int32} (h : ∀ c, c < 144 → zI z (s + 27) c = W (192 + c)) (hz0 : zI y (s + 27) = zI z (s + 27)) (e : ∀ i, 192 ≤ i ∧ i < 336 → V i = W i) : ∀ c, c < 144 → zI y (s + 27) c = V (192 + c) := by
  intro c q0
  rw [hz0, e (192 + c) (by omega)]
  exact h c q0
theorem rs_ice_of {z y : Hp} {s : Nat} {W V : Nat → Int32} (h : ∀ c, c < 144 → zI z (s + 28) c = W (336 + c)) (hz0 : zI y (s + 28) = zI z (s + 28)) (e : ∀ i, 336 ≤ i ∧ i < 480 → V i = W i) : ∀ c, c < 144 → zI y (s + 28) c = V (336 + c) := by
  intro c q0
  rw [hz0, e (336 + c) (by omega)]
  exact h c q0
theorem rs_dug_of {z y : Hp} {s : Nat} {W V : Nat → Int32} (h : ∀ c, c < 144 → zI z (s + 29) c = W (480 + c)) (hz0 : zI y (s + 29) = zI z (s + 29)) (e : ∀ i, 480 ≤ i ∧ i < 624 → V i = W i) : ∀ c, c < 144 → zI y (s + 29) c = V (480 + c) := by
  intro c q0
  rw [hz0, e (480 + c) (by omega)]
  exact h c q0
theorem rs_shaft_of {z y : Hp} {s : Nat} {W V : Nat → Int32} (h : ∀ c, c < 144 → zI z (s + 30) c = bI (shW W c)) (hz0 : zI y (s + 30) = zI z (s + 30)) (e : ∀ i, 7 ≤ i ∧ i < 12 → V i = W i) : ∀ c, c < 144 → zI y (s + 30) c = bI (shW V c) := by
  intro c hc
  rw [hz0, shW_of e]
  exact h c hc
theorem rs_sums_of {z y : Hp} {s : Nat} {W V : Nat → Int32} (h : ∀ k, 1 ≤ k → k < 6 → zI z (s + 31) k = W (13 + k)) (hz0 : zI y (s + 31) = zI z (s + 31)) (e : ∀ i, 14 ≤ i ∧ i < 19 → V i = W i) : ∀ k, 1 ≤ k → k < 6 → zI y (s + 31) k = V (13 + k) := by
  intro k q0 q1
  rw [hz0, e (13 + k) (by omega)]
  exact h k q0 q1
theorem rs_sc_of {z y : Hp} {s : Nat} {W V : Nat → Int32} (h : zI z s 10 = scW W) (hz : zI y s 10 = zI z s 10) (e : ∀ i, 7 ≤ i ∧ i < 12 → V i = W i) : zI y s 10 = scW V := by
  rw [hz, scW_of e]
  exact h
theorem rs_dc_of {z y : Hp} {s : Nat} {W V : Nat → Int32} (h : zI z s 11 = dcW W) (hz : zI y s 11 = zI z s 11) (e : ∀ i, 480 ≤ i ∧ i < 624 → V i = W i) : zI y s 11 = dcW V := by
  rw [hz, dcW_of e]
  exact h
theorem rs_cold_of {z y : Hp} {s : Nat} {W V : Nat → Int32} (h : zI z s 12 = W 6) (hz : zI y s 12 = zI z s 12) (e : ∀ i, i = 6 → V i = W i) : zI y s 12 = V 6 := by
  rw [hz, e 6 (by omega)]
  exact h
theorem rs_lines_of {z y : Hp} {s : Nat} {W V : Nat → Int32} (h : zI z s 13 = W 0) (hz : zI y s 13 = zI z s 13) (e : ∀ i, i = 0 → V i = W i) : zI y s 13 = V 0 := by
  rw [hz, e 0 (by omega)]
  exact h
theorem rs_ticks_of {z y : Hp} {s : Nat} {W V : Nat → Int32} (h : zI z s 14 = W 1) (hz : zI y s 14 = zI z s 14) (e : ∀ i, i = 1 → V i = W i) : zI y s 14 = V 1 := by
  rw [hz, e 1 (by omega)]
  exact h
theorem rs_fl_of {z y : Hp} {s : Nat} {W V : Nat → Int32} (h : zI z s 15 = W 12) (hz : zI y s 15 = zI z s 15) (e : ∀ i, i = 12 → V i = W i) : zI y s 15 = V 12 := by
  rw [hz, e 12 (by omega)]
  exact h
theorem rs_fls_of {z y : Hp} {s : Nat} {W V : Nat → Int32} (h : zI z s 16 = W 13) (hz : zI y s 16 = zI z s 16) (e : ∀ i, i = 13 → V i = W i) : zI y s 16 = V 13 := by
  rw [hz, e 13 (by omega)]
  exact h
theorem ok_kd_of {W V : Nat → Int32} (h : ∀ c, c < 144 → isN (W (48 + c)) 4) (e : ∀ i, 48 ≤ i ∧ i < 192 → V i = W i) : ∀ c, c < 144 → isN (V (48 + c)) 4 := by
  intro c q0
  rw [e (48 + c) (by omega)]
  exact h c q0
theorem ok_gl_of {W V : Nat → Int32} (h : ∀ g, g < 4 → isN (W (20 + 4 * g)) 16 ∧ isN (W (21 + 4 * g)) 16) (e : ∀ i, 20 ≤ i ∧ i < 36 → V i = W i) : ∀ g, g < 4 → isN (V (20 + 4 * g)) 16 ∧ isN (V (21 + 4 * g)) 16 := by
  intro g q0
  rw [e (20 + 4 * g) (by omega), e (21 + 4 * g) (by omega)]
  exact h g q0
theorem ok_lat_of {W V : Nat → Int32} (h : ∀ g, g < 4 → isN (W (22 + 4 * g)) 1000 ∧ 1 ≤ nn (W (22 + 4 * g))) (e : ∀ i, 20 ≤ i ∧ i < 36 → V i = W i) : ∀ g, g < 4 → isN (V (22 + 4 * g)) 1000 ∧ 1 ≤ nn (V (22 + 4 * g)) := by
  intro g q0
  rw [e (22 + 4 * g) (by omega)]
  exact h g q0
theorem ok_mark_of {W V : Nat → Int32} (h : ∀ g, g < 4 → -30 ≤ (W (23 + 4 * g)).toInt ∧ (W (23 + 4 * g)).toInt ≤ 0) (e : ∀ i, 20 ≤ i ∧ i < 36 → V i = W i) : ∀ g, g < 4 → -30 ≤ (V (23 + 4 * g)).toInt ∧ (V (23 + 4 * g)).toInt ≤ 0 := by
  intro g q0
  rw [e (23 + 4 * g) (by omega)]
  exact h g q0
theorem ok_sp_of {W V : Nat → Int32} (h : ∀ y, y < 12 → isN (W (36 + y)) 31) (e : ∀ i, 36 ≤ i ∧ i < 48 → V i = W i) : ∀ y, y < 12 → isN (V (36 + y)) 31 := by
  intro y q0
  rw [e (36 + y) (by omega)]
  exact h y q0
theorem ok_far_of {W V : Nat → Int32} (h : isN (W 5) 301 ∧ 1 ≤ nn (W 5)) (e : ∀ i, i = 5 → V i = W i) : isN (V 5) 301 ∧ 1 ≤ nn (V 5) := by
  rw [e 5 (by omega)]
  exact h
theorem ok_warm_of {W V : Nat → Int32} (h : ∀ c, c < 144 → -3900 ≤ (W (192 + c)).toInt ∧ (W (192 + c)).toInt ≤ 300) (e : ∀ i, 192 ≤ i ∧ i < 336 → V i = W i) : ∀ c, c < 144 → -3900 ≤ (V (192 + c)).toInt ∧ (V (192 + c)).toInt ≤ 300 := by
  intro c q0
  rw [e (192 + c) (by omega)]
  exact h c q0
theorem ok_ice_of {W V : Nat → Int32} (h : ∀ c, c < 144 → isN (W (336 + c)) 1000 ∧ nn (W (336 + c)) ≤ nn (W (22 + 4 * kdW W c))) (bK : ∀ c, c < 144 → kdW W c < 4) (e : ∀ i, 20 ≤ i ∧ i < 36 ∨ 48 ≤ i ∧ i < 192 ∨ 336 ≤ i ∧ i < 480 → V i = W i) : ∀ c, c < 144 → isN (V (336 + c)) 1000 ∧ nn (V (336 + c)) ≤ nn (V (22 + 4 * kdW V c)) := by
  intro c q0
  have bk := bK c q0
  rw [kdW_of (e (48 + c) (by omega)), e (336 + c) (by omega), e (22 + 4 * kdW W c) (by omega)]
  exact h c q0
theorem ok_dug_of {W V : Nat → Int32} (h : ∀ c, c < 144 → W (480 + c) = 0 ∨ W (480 + c) = 1) (e : ∀ i, 480 ≤ i ∧ i < 624 → V i = W i) : ∀ c, c < 144 → V (480 + c) = 0 ∨ V (480 + c) = 1 := by
  intro c q0
  rw [e (480 + c) (by omega)]
  exact h c q0
theorem ok_dsh_of {W V : Nat → Int32} (h : ∀ c, c < 144 → W (480 + c) = 1 → shW W c = true) (e : ∀ i, 480 ≤ i ∧ i < 624 ∨ 7 ≤ i ∧ i < 12 → V i = W i) : ∀ c, c < 144 → V (480 + c) = 1 → shW V c = true := by
  intro c hc
  rw [e (480 + c) (by omega), shW_of (fun i hi => e i (by omega))]
  exact h c hc
theorem ok_pn_of {q : Nat} {W V : Nat → Int32} (h : isN (W 2) (q + 1) ∧ q ≤ 18) (e : ∀ i, i = 2 → V i = W i) : isN (V 2) (q + 1) ∧ q ≤ 18 := by
  rw [e 2 (by omega)]
  exact h
theorem ok_pc_of {W V : Nat → Int32} (h : ∀ p, p < nPW W → isN (W (624 + 6 * p)) 144) (bP : nPW W ≤ 18) (e : ∀ i, i = 2 ∨ 624 ≤ i ∧ i < 732 → V i = W i) : ∀ p, p < nPW V → isN (V (624 + 6 * p)) 144 := by
  intro p q0
  rw [nPW_of (e 2 (by omega))] at q0
  have bb : p < 18 := by omega
  rw [e (624 + 6 * p) (by omega)]
  exact h p q0
theorem ok_pd_of {W V : Nat → Int32} (h : ∀ p r, p < nPW W → r < nPW W → W (624 + 6 * p) = W (624 + 6 * r) → p = r) (bP : nPW W ≤ 18) (e : ∀ i, i = 2 ∨ 624 ≤ i ∧ i < 732 → V i = W i) : ∀ p r, p < nPW V → r < nPW V → V (624 + 6 * p) = V (624 + 6 * r) → p = r := by
  intro p r q0 q1 q2
  rw [nPW_of (e 2 (by omega))] at q0
  rw [nPW_of (e 2 (by omega))] at q1
  have bb : p < 18 ∧ r < 18 := by omega
  rw [e (624 + 6 * p) (by omega), e (624 + 6 * r) (by omega)] at q2
  exact h p r q0 q1 q2
theorem ok_pa_of {W V : Nat → Int32} (h : ∀ p, p < nPW W → -400 ≤ (W (624 + 6 * p + 1)).toInt ∧ (W (624 + 6 * p + 1)).toInt ≤ 0) (bP : nPW W ≤ 18) (e : ∀ i, i = 2 ∨ 624 ≤ i ∧ i < 732 → V i = W i) : ∀ p, p < nPW V → -400 ≤ (V (624 + 6 * p + 1)).toInt ∧ (V (624 + 6 * p + 1)).toInt ≤ 0 := by
  intro p q0
  rw [nPW_of (e 2 (by omega))] at q0
  have bb : p < 18 := by omega
  rw [e (624 + 6 * p + 1) (by omega)]
  exact h p q0
theorem ok_pl_of {W V : Nat → Int32} (h : ∀ p, p < nPW W → isN (W (624 + 6 * p + 2)) 61) (bP : nPW W ≤ 18) (e : ∀ i, i = 2 ∨ 624 ≤ i ∧ i < 732 → V i = W i) : ∀ p, p < nPW V → isN (V (624 + 6 * p + 2)) 61 := by
  intro p q0
  rw [nPW_of (e 2 (by omega))] at q0
  have bb : p < 18 := by omega
  rw [e (624 + 6 * p + 2) (by omega)]
  exact h p q0
theorem ok_pr_of {W V : Nat → Int32} (h : ∀ p, p < nPW W → W (624 + 6 * p + 3) = 0 ∨ W (624 + 6 * p + 3) = 1) (bP : nPW W ≤ 18) (e : ∀ i, i = 2 ∨ 624 ≤ i ∧ i < 732 → V i = W i) : ∀ p, p < nPW V → V (624 + 6 * p + 3) = 0 ∨ V (624 + 6 * p + 3) = 1 := by
  intro p q0
  rw [nPW_of (e 2 (by omega))] at q0
  have bb : p < 18 := by omega
  rw [e (624 + 6 * p + 3) (by omega)]
  exact h p q0
theorem ok_hn_of {W V : Nat → Int32} (h : isN (W 3) 7) (e : ∀ i, i = 3 → V i = W i) : isN (V 3) 7 := by
  rw [e 3 (by omega)]
  exact h
theorem ok_hc_of {W V : Nat → Int32} (h : ∀ g, g < nHW W → isN (W (732 + 3 * g)) 11) (bH : nHW W ≤ 6) (e : ∀ i, i = 3 ∨ 732 ≤ i ∧ i < 750 → V i = W i) : ∀ g, g < nHW V → isN (V (732 + 3 * g)) 11 := by
  intro g q0
  rw [nHW_of (e 3 (by omega))] at q0
  have bb : g < 6 := by omega
  rw [e (732 + 3 * g) (by omega)]
  exact h g q0
theorem ok_rn_of {W V : Nat → Int32} (h : isN (W 4) 5) (e : ∀ i, i = 4 → V i = W i) : isN (V 4) 5 := by
  rw [e 4 (by omega)]
  exact h
theorem ok_rc_of {W V : Nat → Int32} (h : ∀ r, r < nRW W → isN (W (750 + 10 * r)) 4) (bR : nRW W ≤ 4) (e : ∀ i, i = 4 ∨ 750 ≤ i ∧ i < 790 → V i = W i) : ∀ r, r < nRW V → isN (V (750 + 10 * r)) 4 := by
  intro r q0
  rw [nRW_of (e 4 (by omega))] at q0
  have bb : r < 4 := by omega
  rw [e (750 + 10 * r) (by omega)]
  exact h r q0
theorem ok_rw_of {W V : Nat → Int32} (h : ∀ r i, r < nRW W → i < nCW W r → isN (W (751 + 10 * r + 3 * i)) 5) (bR : nRW W ≤ 4) (bC : ∀ r, r < nRW W → nCW W r ≤ 3) (e : ∀ i, i = 4 ∨ 750 ≤ i ∧ i < 790 → V i = W i) : ∀ r i, r < nRW V → i < nCW V r → isN (V (751 + 10 * r + 3 * i)) 5 := by
  intro r i q0 q1
  rw [nRW_of (e 4 (by omega))] at q0
  have bb : r < 4 := by omega
  rw [nCW_of (e (750 + 10 * r) (by omega))] at q1
  have bc := bC r q0
  rw [e (751 + 10 * r + 3 * i) (by omega)]
  exact h r i q0 q1
theorem ok_gc_of {W V : Nat → Int32} (h : ∀ g, g < 10 → W (790 + 2 * g) = -1 ∨ isN (W (790 + 2 * g)) 144) (e : ∀ i, 790 ≤ i ∧ i < 810 → V i = W i) : ∀ g, g < 10 → V (790 + 2 * g) = -1 ∨ isN (V (790 + 2 * g)) 144 := by
  intro g q0
  rw [e (790 + 2 * g) (by omega)]
  exact h g q0
theorem ok_sh_of {W V : Nat → Int32} (h : W 7 = 0 ∨ W 7 = 1 ∧ (isN (W 8) 11 ∧ isN (W 9) 11 ∧ isN (W 10) 11 ∧ isN (W 11) 11) ∧ 1 ≤ nn (W 8) ∧ 1 ≤ nn (W 9) ∧ nn (W 8) ≤ nn (W 10) ∧ nn (W 9) ≤ nn (W 11)) (e : ∀ i, 7 ≤ i ∧ i < 12 → V i = W i) : V 7 = 0 ∨ V 7 = 1 ∧ (isN (V 8) 11 ∧ isN (V 9) 11 ∧ isN (V 10) 11 ∧ isN (V 11) 11) ∧ 1 ≤ nn (V 8) ∧ 1 ≤ nn (V 9) ∧ nn (V 8) ≤ nn (V 10) ∧ nn (V 9) ≤ nn (V 11) := by
  rw [e 7 (by omega), e 8 (by omega), e 9 (by omega), e 10 (by omega), e 11 (by omega)]
  exact h
theorem ok_cold_of {W V : Nat → Int32} (h : isN (W 6) 100000) (e : ∀ i, i = 6 → V i = W i) : isN (V 6) 100000 := by
  rw [e 6 (by omega)]
  exact h
theorem ok_fl_of {W V : Nat → Int32} (h : W 12 = 0 ∨ W 12 = 1) (e : ∀ i, i = 12 → V i = W i) : V 12 = 0 ∨ V 12 = 1 := by
  rw [e 12 (by omega)]
  exact h
theorem nr_lt {W : Nat → Int32} {q : Nat} (h : OkW W q) : nRW W ≤ 4 := Nat.lt_succ_iff.mp (ok_rn h).2
theorem nc_lt {W : Nat → Int32} {q : Nat} (h : OkW W q) (r : Nat) (hr : r < nRW W) : nCW W r ≤ 3 := Nat.lt_succ_iff.mp (ok_rc h r hr).2
theorem nh_le {W : Nat → Int32} {q : Nat} (h : OkW W q) : nHW W ≤ 6 := Nat.lt_succ_iff.mp (ok_hn h).2
theorem np_le {W : Nat → Int32} {q : Nat} (h : OkW W q) : nPW W ≤ 18 := Nat.le_trans (np_lt h).1 (np_lt h).2
