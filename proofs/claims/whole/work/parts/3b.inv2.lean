/-! ===== the invariant ===== -/
/-- the State at s is what the row W says -/
def RelS (z : Hp) (s : Nat) (W : Nat → Int32) : Prop :=
  (∀ g, g < 4 → zI z (s + 2) g = W (20 + 4 * g)) ∧
  (∀ g, g < 4 → zI z (s + 3) g = W (21 + 4 * g)) ∧
  (∀ g, g < 4 → zI z (s + 4) g = W (22 + 4 * g)) ∧
  (∀ g, g < 4 → zI z (s + 5) g = W (23 + 4 * g)) ∧
  (∀ c, c < 144 → zI z (s + 6) c = W (48 + c)) ∧
  (∀ y, y < 12 → zI z (s + 7) y = W (36 + y) ∨ zI z (s + 7) y = -1 ∧ W (36 + y) = 0) ∧
  (zI z (s + 1) 6 = W 5) ∧
  (zI z (s + 8) 6 = W 2) ∧
  (∀ p, p < nPW W → zI z (s + 9) p = W (624 + 6 * p)) ∧
  (∀ p, p < nPW W → zI z (s + 10) p = W (624 + 6 * p + 1)) ∧
  (∀ p, p < nPW W → zI z (s + 11) p = W (624 + 6 * p + 2)) ∧
  (∀ p, p < nPW W → zI z (s + 12) p = W (624 + 6 * p + 3)) ∧
  (∀ p, p < nPW W → zI z (s + 13) p = W (624 + 6 * p + 4)) ∧
  (∀ p, p < nPW W → zI z (s + 14) p = W (624 + 6 * p + 5)) ∧
  (zI z (s + 15) 3 = W 3) ∧
  (∀ h, h < nHW W → zI z (s + 16) h = W (732 + 3 * h)) ∧
  (∀ h, h < nHW W → zI z (s + 17) h = W (732 + 3 * h + 1)) ∧
  (∀ h, h < nHW W → zI z (s + 18) h = W (732 + 3 * h + 2)) ∧
  (zI z (s + 19) 4 = W 4) ∧
  (∀ r, r < nRW W → zI z (s + 20) r = W (750 + 10 * r)) ∧
  (∀ r i, r < nRW W → i < nCW W r → zI z (s + 21) (3 * r + i) = W (751 + 10 * r + 3 * i)) ∧
  (∀ r i, r < nRW W → i < nCW W r → W (751 + 10 * r + 3 * i) ≠ 0 → zI z (s + 22) (3 * r + i) = W (752 + 10 * r + 3 * i) ∧ zI z (s + 23) (3 * r + i) = W (753 + 10 * r + 3 * i)) ∧
  (∀ g, g < 10 → zI z (s + 25) g = W (790 + 2 * g)) ∧
  (∀ g, g < 10 → W (790 + 2 * g) ≠ -1 → zI z (s + 26) g = W (791 + 2 * g)) ∧
  (∀ c, c < 144 → zI z (s + 27) c = W (192 + c)) ∧
  (∀ c, c < 144 → zI z (s + 28) c = W (336 + c)) ∧
  (∀ c, c < 144 → zI z (s + 29) c = W (480 + c)) ∧
  (∀ c, c < 144 → zI z (s + 30) c = bI (shW W c)) ∧
  (∀ k, 1 ≤ k → k < 6 → zI z (s + 31) k = W (13 + k)) ∧
  (zI z s 10 = scW W) ∧
  (zI z s 11 = dcW W) ∧
  (zI z s 12 = W 6) ∧
  (zI z s 13 = W 0) ∧
  (zI z s 14 = W 1) ∧
  (zI z s 15 = W 12) ∧
  (zI z s 16 = W 13)
theorem rs_lead {z : Hp} {s : Nat} {W : Nat → Int32} (h : RelS z s W) : ∀ g, g < 4 → zI z (s + 2) g = W (20 + 4 * g) := h.1
theorem rs_ilead {z : Hp} {s : Nat} {W : Nat → Int32} (h : RelS z s W) : ∀ g, g < 4 → zI z (s + 3) g = W (21 + 4 * g) := h.2.1
theorem rs_latent {z : Hp} {s : Nat} {W : Nat → Int32} (h : RelS z s W) : ∀ g, g < 4 → zI z (s + 4) g = W (22 + 4 * g) := h.2.2.1
theorem rs_mark {z : Hp} {s : Nat} {W : Nat → Int32} (h : RelS z s W) : ∀ g, g < 4 → zI z (s + 5) g = W (23 + 4 * g) := h.2.2.2.1
theorem rs_ground {z : Hp} {s : Nat} {W : Nat → Int32} (h : RelS z s W) : ∀ c, c < 144 → zI z (s + 6) c = W (48 + c) := h.2.2.2.2.1
theorem rs_speed {z : Hp} {s : Nat} {W : Nat → Int32} (h : RelS z s W) : ∀ y, y < 12 → zI z (s + 7) y = W (36 + y) ∨ zI z (s + 7) y = -1 ∧ W (36 + y) = 0 := h.2.2.2.2.2.1
theorem rs_far {z : Hp} {s : Nat} {W : Nat → Int32} (h : RelS z s W) : zI z (s + 1) 6 = W 5 := h.2.2.2.2.2.2.1
theorem rs_pn {z : Hp} {s : Nat} {W : Nat → Int32} (h : RelS z s W) : zI z (s + 8) 6 = W 2 := h.2.2.2.2.2.2.2.1
theorem rs_p0 {z : Hp} {s : Nat} {W : Nat → Int32} (h : RelS z s W) : ∀ p, p < nPW W → zI z (s + 9) p = W (624 + 6 * p) := h.2.2.2.2.2.2.2.2.1
theorem rs_p1 {z : Hp} {s : Nat} {W : Nat → Int32} (h : RelS z s W) : ∀ p, p < nPW W → zI z (s + 10) p = W (624 + 6 * p + 1) := h.2.2.2.2.2.2.2.2.2.1
theorem rs_p2 {z : Hp} {s : Nat} {W : Nat → Int32} (h : RelS z s W) : ∀ p, p < nPW W → zI z (s + 11) p = W (624 + 6 * p + 2) := h.2.2.2.2.2.2.2.2.2.2.1
theorem rs_p3 {z : Hp} {s : Nat} {W : Nat → Int32} (h : RelS z s W) : ∀ p, p < nPW W → zI z (s + 12) p = W (624 + 6 * p + 3) := h.2.2.2.2.2.2.2.2.2.2.2.1
theorem rs_p4 {z : Hp} {s : Nat} {W : Nat → Int32} (h : RelS z s W) : ∀ p, p < nPW W → zI z (s + 13) p = W (624 + 6 * p + 4) := h.2.2.2.2.2.2.2.2.2.2.2.2.1
theorem rs_p5 {z : Hp} {s : Nat} {W : Nat → Int32} (h : RelS z s W) : ∀ p, p < nPW W → zI z (s + 14) p = W (624 + 6 * p + 5) := h.2.2.2.2.2.2.2.2.2.2.2.2.2.1
theorem rs_hn {z : Hp} {s : Nat} {W : Nat → Int32} (h : RelS z s W) : zI z (s + 15) 3 = W 3 := h.2.2.2.2.2.2.2.2.2.2.2.2.2.2.1
theorem rs_h0 {z : Hp} {s : Nat} {W : Nat → Int32} (h : RelS z s W) : ∀ h, h < nHW W → zI z (s + 16) h = W (732 + 3 * h) := h.2.2.2.2.2.2.2.2.2.2.2.2.2.2.2.1
theorem rs_h1 {z : Hp} {s : Nat} {W : Nat → Int32} (h : RelS z s W) : ∀ h, h < nHW W → zI z (s + 17) h = W (732 + 3 * h + 1) := h.2.2.2.2.2.2.2.2.2.2.2.2.2.2.2.2.1
theorem rs_h2 {z : Hp} {s : Nat} {W : Nat → Int32} (h : RelS z s W) : ∀ h, h < nHW W → zI z (s + 18) h = W (732 + 3 * h + 2) := h.2.2.2.2.2.2.2.2.2.2.2.2.2.2.2.2.2.1
theorem rs_rn {z : Hp} {s : Nat} {W : Nat → Int32} (h : RelS z s W) : zI z (s + 19) 4 = W 4 := h.2.2.2.2.2.2.2.2.2.2.2.2.2.2.2.2.2.2.1
theorem rs_rc {z : Hp} {s : Nat} {W : Nat → Int32} (h : RelS z s W) : ∀ r, r < nRW W → zI z (s + 20) r = W (750 + 10 * r) := h.2.2.2.2.2.2.2.2.2.2.2.2.2.2.2.2.2.2.2.1
theorem rs_rw {z : Hp} {s : Nat} {W : Nat → Int32} (h : RelS z s W) : ∀ r i, r < nRW W → i < nCW W r → zI z (s + 21) (3 * r + i) = W (751 + 10 * r + 3 * i) := h.2.2.2.2.2.2.2.2.2.2.2.2.2.2.2.2.2.2.2.2.1
theorem rs_rs {z : Hp} {s : Nat} {W : Nat → Int32} (h : RelS z s W) : ∀ r i, r < nRW W → i < nCW W r → W (751 + 10 * r + 3 * i) ≠ 0 → zI z (s + 22) (3 * r + i) = W (752 + 10 * r + 3 * i) ∧ zI z (s + 23) (3 * r + i) = W (753 + 10 * r + 3 * i) := h.2.2.2.2.2.2.2.2.2.2.2.2.2.2.2.2.2.2.2.2.2.1
theorem rs_gc {z : Hp} {s : Nat} {W : Nat → Int32} (h : RelS z s W) : ∀ g, g < 10 → zI z (s + 25) g = W (790 + 2 * g) := h.2.2.2.2.2.2.2.2.2.2.2.2.2.2.2.2.2.2.2.2.2.2.1
theorem rs_gr {z : Hp} {s : Nat} {W : Nat → Int32} (h : RelS z s W) : ∀ g, g < 10 → W (790 + 2 * g) ≠ -1 → zI z (s + 26) g = W (791 + 2 * g) := h.2.2.2.2.2.2.2.2.2.2.2.2.2.2.2.2.2.2.2.2.2.2.2.1
theorem rs_warm {z : Hp} {s : Nat} {W : Nat → Int32} (h : RelS z s W) : ∀ c, c < 144 → zI z (s + 27) c = W (192 + c) := h.2.2.2.2.2.2.2.2.2.2.2.2.2.2.2.2.2.2.2.2.2.2.2.2.1
theorem rs_ice {z : Hp} {s : Nat} {W : Nat → Int32} (h : RelS z s W) : ∀ c, c < 144 → zI z (s + 28) c = W (336 + c) := h.2.2.2.2.2.2.2.2.2.2.2.2.2.2.2.2.2.2.2.2.2.2.2.2.2.1
theorem rs_dug {z : Hp} {s : Nat} {W : Nat → Int32} (h : RelS z s W) : ∀ c, c < 144 → zI z (s + 29) c = W (480 + c) := h.2.2.2.2.2.2.2.2.2.2.2.2.2.2.2.2.2.2.2.2.2.2.2.2.2.2.1
theorem rs_shaft {z : Hp} {s : Nat} {W : Nat → Int32} (h : RelS z s W) : ∀ c, c < 144 → zI z (s + 30) c = bI (shW W c) := h.2.2.2.2.2.2.2.2.2.2.2.2.2.2.2.2.2.2.2.2.2.2.2.2.2.2.2.1
theorem rs_sums {z : Hp} {s : Nat} {W : Nat → Int32} (h : RelS z s W) : ∀ k, 1 ≤ k → k < 6 → zI z (s + 31) k = W (13 + k) := h.2.2.2.2.2.2.2.2.2.2.2.2.2.2.2.2.2.2.2.2.2.2.2.2.2.2.2.2.1
theorem rs_sc {z : Hp} {s : Nat} {W : Nat → Int32} (h : RelS z s W) : zI z s 10 = scW W := h.2.2.2.2.2.2.2.2.2.2.2.2.2.2.2.2.2.2.2.2.2.2.2.2.2.2.2.2.2.1
theorem rs_dc {z : Hp} {s : Nat} {W : Nat → Int32} (h : RelS z s W) : zI z s 11 = dcW W := h.2.2.2.2.2.2.2.2.2.2.2.2.2.2.2.2.2.2.2.2.2.2.2.2.2.2.2.2.2.2.1
theorem rs_cold {z : Hp} {s : Nat} {W : Nat → Int32} (h : RelS z s W) : zI z s 12 = W 6 := h.2.2.2.2.2.2.2.2.2.2.2.2.2.2.2.2.2.2.2.2.2.2.2.2.2.2.2.2.2.2.2.1
theorem rs_lines {z : Hp} {s : Nat} {W : Nat → Int32} (h : RelS z s W) : zI z s 13 = W 0 := h.2.2.2.2.2.2.2.2.2.2.2.2.2.2.2.2.2.2.2.2.2.2.2.2.2.2.2.2.2.2.2.2.1
theorem rs_ticks {z : Hp} {s : Nat} {W : Nat → Int32} (h : RelS z s W) : zI z s 14 = W 1 := h.2.2.2.2.2.2.2.2.2.2.2.2.2.2.2.2.2.2.2.2.2.2.2.2.2.2.2.2.2.2.2.2.2.1
theorem rs_fl {z : Hp} {s : Nat} {W : Nat → Int32} (h : RelS z s W) : zI z s 15 = W 12 := h.2.2.2.2.2.2.2.2.2.2.2.2.2.2.2.2.2.2.2.2.2.2.2.2.2.2.2.2.2.2.2.2.2.2.1
theorem rs_fls {z : Hp} {s : Nat} {W : Nat → Int32} (h : RelS z s W) : zI z s 16 = W 13 := h.2.2.2.2.2.2.2.2.2.2.2.2.2.2.2.2.2.2.2.2.2.2.2.2.2.2.2.2.2.2.2.2.2.2.2
theorem RelS.of {z y : Hp} {s : Nat} {W : Nat → Int32} (h : RelS z s W) (e : ∀ a, s ≤ a → a < s + 32 → zI y a = zI z a) : RelS y s W := by
  unfold RelS at h ⊢
  rw [e s (by omega) (by omega), e (s + 1) (by omega) (by omega), e (s + 2) (by omega) (by omega), e (s + 3) (by omega) (by omega), e (s + 4) (by omega) (by omega), e (s + 5) (by omega) (by omega), e (s + 6) (by omega) (by omega), e (s + 7) (by omega) (by omega), e (s + 8) (by omega) (by omega), e (s + 9) (by omega) (by omega), e (s + 10) (by omega) (by omega), e (s + 11) (by omega) (by omega), e (s + 12) (by omega) (by omega), e (s + 13) (by omega) (by omega), e (s + 14) (by omega) (by omega), e (s + 15) (by omega) (by omega), e (s + 16) (by omega) (by omega), e (s + 17) (by omega) (by omega), e (s + 18) (by omega) (by omega), e (s + 19) (by omega) (by omega), e (s + 20) (by omega) (by omega), e (s + 21) (by omega) (by omega), e (s + 22) (by omega) (by omega), e (s + 23) (by omega) (by omega), e (s + 25) (by omega) (by omega), e (s + 26) (by omega) (by omega), e (s + 27) (by omega) (by omega), e (s + 28) (by omega) (by omega), e (s + 29) (by omega) (by omega), e (s + 30) (by omega) (by omega), e (s + 31) (by omega) (by omega)]
  exact h
/-- what every world keeps (at most q pipes) -/
def OkW (W : Nat → Int32) (q : Nat) : Prop :=
  (∀ c, c < 144 → isN (W (48 + c)) 4) ∧
  (∀ g, g < 4 → isN (W (20 + 4 * g)) 16 ∧ isN (W (21 + 4 * g)) 16) ∧
  (∀ g, g < 4 → isN (W (22 + 4 * g)) 1000 ∧ 1 ≤ nn (W (22 + 4 * g))) ∧
  (∀ g, g < 4 → -30 ≤ (W (23 + 4 * g)).toInt ∧ (W (23 + 4 * g)).toInt ≤ 0) ∧
  (∀ y, y < 12 → isN (W (36 + y)) 31) ∧
  (isN (W 5) 301 ∧ 1 ≤ nn (W 5)) ∧
  (∀ c, c < 144 → -3900 ≤ (W (192 + c)).toInt ∧ (W (192 + c)).toInt ≤ 300) ∧
  (∀ c, c < 144 → isN (W (336 + c)) 1000 ∧ nn (W (336 + c)) ≤ nn (W (22 + 4 * kdW W c))) ∧
  (∀ c, c < 144 → W (480 + c) = 0 ∨ W (480 + c) = 1) ∧
  (∀ c, c < 144 → W (480 + c) = 1 → shW W c = true) ∧
  (isN (W 2) (q + 1) ∧ q ≤ 18) ∧
  (∀ p, p < nPW W → isN (W (624 + 6 * p)) 144) ∧
  (∀ p r, p < nPW W → r < nPW W → W (624 + 6 * p) = W (624 + 6 * r) → p = r) ∧
  (∀ p, p < nPW W → -400 ≤ (W (624 + 6 * p + 1)).toInt ∧ (W (624 + 6 * p + 1)).toInt ≤ 0) ∧
  (∀ p, p < nPW W → isN (W (624 + 6 * p + 2)) 61) ∧
  (∀ p, p < nPW W → W (624 + 6 * p + 3) = 0 ∨ W (624 + 6 * p + 3) = 1) ∧
  (isN (W 3) 7) ∧
  (∀ h, h < nHW W → isN (W (732 + 3 * h)) 11) ∧
  (isN (W 4) 5) ∧
  (∀ r, r < nRW W → isN (W (750 + 10 * r)) 4) ∧
  (∀ r i, r < nRW W → i < nCW W r → isN (W (751 + 10 * r + 3 * i)) 5) ∧
  (∀ g, g < 10 → W (790 + 2 * g) = -1 ∨ isN (W (790 + 2 * g)) 144) ∧
  (W 7 = 0 ∨ W 7 = 1 ∧ (isN (W 8) 11 ∧ isN (W 9) 11 ∧ isN (W 10) 11 ∧ isN (W 11) 11) ∧ 1 ≤ nn (W 8) ∧ 1 ≤ nn (W 9) ∧ nn (W 8) ≤ nn (W 10) ∧ nn (W 9) ≤ nn (W 11)) ∧
  (isN (W 6) 100000) ∧
  (W 12 = 0 ∨ W 12 = 1)
theorem ok_kd {W : Nat → Int32} {q : Nat} (h : OkW W q) : ∀ c, c < 144 → isN (W (48 + c)) 4 := h.1
theorem ok_gl {W : Nat → Int32} {q : Nat} (h : OkW W q) : ∀ g, g < 4 → isN (W (20 + 4 * g)) 16 ∧ isN (W (21 + 4 * g)) 16 := h.2.1
theorem ok_lat {W : Nat → Int32} {q : Nat} (h : OkW W q) : ∀ g, g < 4 → isN (W (22 + 4 * g)) 1000 ∧ 1 ≤ nn (W (22 + 4 * g)) := h.2.2.1
theorem ok_mark {W : Nat → Int32} {q : Nat} (h : OkW W q) : ∀ g, g < 4 → -30 ≤ (W (23 + 4 * g)).toInt ∧ (W (23 + 4 * g)).toInt ≤ 0 := h.2.2.2.1
theorem ok_sp {W : Nat → Int32} {q : Nat} (h : OkW W q) : ∀ y, y < 12 → isN (W (36 + y)) 31 := h.2.2.2.2.1
theorem ok_far {W : Nat → Int32} {q : Nat} (h : OkW W q) : isN (W 5) 301 ∧ 1 ≤ nn (W 5) := h.2.2.2.2.2.1
theorem ok_warm {W : Nat → Int32} {q : Nat} (h : OkW W q) : ∀ c, c < 144 → -3900 ≤ (W (192 + c)).toInt ∧ (W (192 + c)).toInt ≤ 300 := h.2.2.2.2.2.2.1
theorem ok_ice {W : Nat → Int32} {q : Nat} (h : OkW W q) : ∀ c, c < 144 → isN (W (336 + c)) 1000 ∧ nn (W (336 + c)) ≤ nn (W (22 + 4 * kdW W c)) := h.2.2.2.2.2.2.2.1
theorem ok_dug {W : Nat → Int32} {q : Nat} (h : OkW W q) : ∀ c, c < 144 → W (480 + c) = 0 ∨ W (480 + c) = 1 := h.2.2.2.2.2.2.2.2.1
theorem ok_dsh {W : Nat → Int32} {q : Nat} (h : OkW W q) : ∀ c, c < 144 → W (480 + c) = 1 → shW W c = true := h.2.2.2.2.2.2.2.2.2.1
theorem ok_pn {W : Nat → Int32} {q : Nat} (h : OkW W q) : isN (W 2) (q + 1) ∧ q ≤ 18 := h.2.2.2.2.2.2.2.2.2.2.1
theorem ok_pc {W : Nat → Int32} {q : Nat} (h : OkW W q) : ∀ p, p < nPW W → isN (W (624 + 6 * p)) 144 := h.2.2.2.2.2.2.2.2.2.2.2.1
theorem ok_pd {W : Nat → Int32} {q : Nat} (h : OkW W q) : ∀ p r, p < nPW W → r < nPW W → W (624 + 6 * p) = W (624 + 6 * r) → p = r := h.2.2.2.2.2.2.2.2.2.2.2.2.1
theorem ok_pa {W : Nat → Int32} {q : Nat} (h : OkW W q) : ∀ p, p < nPW W → -400 ≤ (W (624 + 6 * p + 1)).toInt ∧ (W (624 + 6 * p + 1)).toInt ≤ 0 := h.2.2.2.2.2.2.2.2.2.2.2.2.2.1
theorem ok_pl {W : Nat → Int32} {q : Nat} (h : OkW W q) : ∀ p, p < nPW W → isN (W (624 + 6 * p + 2)) 61 := h.2.2.2.2.2.2.2.2.2.2.2.2.2.2.1
theorem ok_pr {W : Nat → Int32} {q : Nat} (h : OkW W q) : ∀ p, p < nPW W → W (624 + 6 * p + 3) = 0 ∨ W (624 + 6 * p + 3) = 1 := h.2.2.2.2.2.2.2.2.2.2.2.2.2.2.2.1
theorem ok_hn {W : Nat → Int32} {q : Nat} (h : OkW W q) : isN (W 3) 7 := h.2.2.2.2.2.2.2.2.2.2.2.2.2.2.2.2.1
theorem ok_hc {W : Nat → Int32} {q : Nat} (h : OkW W q) : ∀ h, h < nHW W → isN (W (732 + 3 * h)) 11 := h.2.2.2.2.2.2.2.2.2.2.2.2.2.2.2.2.2.1
theorem ok_rn {W : Nat → Int32} {q : Nat} (h : OkW W q) : isN (W 4) 5 := h.2.2.2.2.2.2.2.2.2.2.2.2.2.2.2.2.2.2.1
theorem ok_rc {W : Nat → Int32} {q : Nat} (h : OkW W q) : ∀ r, r < nRW W → isN (W (750 + 10 * r)) 4 := h.2.2.2.2.2.2.2.2.2.2.2.2.2.2.2.2.2.2.2.1
theorem ok_rw {W : Nat → Int32} {q : Nat} (h : OkW W q) : ∀ r i, r < nRW W → i < nCW W r → isN (W (751 + 10 * r + 3 * i)) 5 := h.2.2.2.2.2.2.2.2.2.2.2.2.2.2.2.2.2.2.2.2.1
theorem ok_gc {W : Nat → Int32} {q : Nat} (h : OkW W q) : ∀ g, g < 10 → W (790 + 2 * g) = -1 ∨ isN (W (790 + 2 * g)) 144 := h.2.2.2.2.2.2.2.2.2.2.2.2.2.2.2.2.2.2.2.2.2.1
theorem ok_sh {W : Nat → Int32} {q : Nat} (h : OkW W q) : W 7 = 0 ∨ W 7 = 1 ∧ (isN (W 8) 11 ∧ isN (W 9) 11 ∧ isN (W 10) 11 ∧ isN (W 11) 11) ∧ 1 ≤ nn (W 8) ∧ 1 ≤ nn (W 9) ∧ nn (W 8) ≤ nn (W 10) ∧ nn (W 9) ≤ nn (W 11) := h.2.2.2.2.2.2.2.2.2.2.2.2.2.2.2.2.2.2.2.2.2.2.1
theorem ok_cold {W : Nat → Int32} {q : Nat} (h : OkW W q) : isN (W 6) 100000 := h.2.2.2.2.2.2.2.2.2.2.2.2.2.2.2.2.2.2.2.2.2.2.2.1
theorem ok_fl {W : Nat → Int32} {q : Nat} (h : OkW W q) : W 12 = 0 ∨ W 12 = 1 := h.2.2.2.2.2.2.2.2.2.2.2.2.2.2.2.2.2.2.2.2.2.2.2.2
/-- an image -/
def ImR (z : Hp) (k : Nat) : Prop := (zI z 96 k = 0 ∧ zR z 65 k = none) ∨ (zI z 96 k = 1 ∧ ∃ t, zR z 65 k = some t ∧ 115 ≤ t ∧ t + 32 ≤ zN z ∧ LayS z t ∧ RelS z t (fun i => zI z 95 (810 * k + i)) ∧ OkW (fun i => zI z 95 (810 * k + i)) 12 ∧ isN (zI z 95 (810 * k + 1)) 2001)
/-- two images lie apart -/
def ImD (z : Hp) (j k : Nat) : Prop := ∀ t u, zR z 65 j = some t → zR z 65 k = some u → t + 32 ≤ u ∨ u + 32 ≤ t
/-- class and model, side by side -/
def In (z : Hp) (s d : Nat) : Prop :=
  (s = 1 ∧ d = 33 ∨ s = 33 ∧ d = 1) ∧
  (zR z 0 0 = some s) ∧
  (zR z 0 1 = some d) ∧
  (LayC z) ∧
  (LayM z) ∧
  (LayS z s) ∧
  (LayS z d) ∧
  (zR z 74 3 = some 78 ∧ zR z 74 4 = some 79 ∨ zR z 74 3 = some 79 ∧ zR z 74 4 = some 78) ∧
  (zR z 68 2 = some s ∨ zR z 68 2 = some d) ∧
  (RelS z s (zI z 93)) ∧
  (OkW (zI z 93) 12) ∧
  (isN (zI z 93 1) 2001) ∧
  (∀ k, k < 3 → ImR z k) ∧
  (∀ j k, j < k → k < 3 → ImD z j k) ∧
  (isN (zI z 92 6) 701) ∧
  (zI z 66 1 = zI z 92 6) ∧
  (∀ i, i < nn (zI z 92 6) → zI z 67 i = zI z 97 i &&& 255 ∧ bR (zI z 97 i)) ∧
  (zI z 0 11 = zI z 92 13) ∧
  (zI z 0 12 = zI z 92 14) ∧
  (zI z 0 9 = zI z 92 34) ∧
  (isN (zI z 92 34) 145) ∧
  (∀ i, i < nn (zI z 92 34) → zI z 91 i = zI z 110 i) ∧
  (zI z 0 10 = zI z 92 35) ∧
  (∀ k, k < 4 → zI z 111 k = -1 ∨ isN (zI z 111 k) 61) ∧
  (∀ k, k < 4 → zI z 90 k = zI z 111 k) ∧
  (∀ k, k < 4 → isN (zI z 112 k) 4) ∧
  (∀ k, k < 4 → zI z 111 k = -1 ∨ zI z 89 k = zI z 112 k) ∧
  (∀ k i, k < 4 → i < 60 → zL z (85 + k) i = zL z 113 (60 * k + i)) ∧
  (115 ≤ zN z)
theorem in_sd {z : Hp} {s d : Nat} (h : In z s d) : s = 1 ∧ d = 33 ∨ s = 33 ∧ d = 1 := h.1
theorem in_now {z : Hp} {s d : Nat} (h : In z s d) : zR z 0 0 = some s := h.2.1
theorem in_draft {z : Hp} {s d : Nat} (h : In z s d) : zR z 0 1 = some d := h.2.2.1
theorem in_C {z : Hp} {s d : Nat} (h : In z s d) : LayC z := h.2.2.2.1
theorem in_M {z : Hp} {s d : Nat} (h : In z s d) : LayM z := h.2.2.2.2.1
theorem in_S {z : Hp} {s d : Nat} (h : In z s d) : LayS z s := h.2.2.2.2.2.1
theorem in_D {z : Hp} {s d : Nat} (h : In z s d) : LayS z d := h.2.2.2.2.2.2.1
theorem in_wq {z : Hp} {s d : Nat} (h : In z s d) : zR z 74 3 = some 78 ∧ zR z 74 4 = some 79 ∨ zR z 74 3 = some 79 ∧ zR z 74 4 = some 78 := h.2.2.2.2.2.2.2.1
theorem in_ps {z : Hp} {s d : Nat} (h : In z s d) : zR z 68 2 = some s ∨ zR z 68 2 = some d := h.2.2.2.2.2.2.2.2.1
theorem in_R {z : Hp} {s d : Nat} (h : In z s d) : RelS z s (zI z 93) := h.2.2.2.2.2.2.2.2.2.1
theorem in_ok {z : Hp} {s d : Nat} (h : In z s d) : OkW (zI z 93) 12 := h.2.2.2.2.2.2.2.2.2.2.1
theorem in_tk {z : Hp} {s d : Nat} (h : In z s d) : isN (zI z 93 1) 2001 := h.2.2.2.2.2.2.2.2.2.2.2.1
theorem in_im {z : Hp} {s d : Nat} (h : In z s d) : ∀ k, k < 3 → ImR z k := h.2.2.2.2.2.2.2.2.2.2.2.2.1
theorem in_imd {z : Hp} {s d : Nat} (h : In z s d) : ∀ j k, j < k → k < 3 → ImD z j k := h.2.2.2.2.2.2.2.2.2.2.2.2.2.1
theorem in_tn {z : Hp} {s d : Nat} (h : In z s d) : isN (zI z 92 6) 701 := h.2.2.2.2.2.2.2.2.2.2.2.2.2.2.1
theorem in_tl {z : Hp} {s d : Nat} (h : In z s d) : zI z 66 1 = zI z 92 6 := h.2.2.2.2.2.2.2.2.2.2.2.2.2.2.2.1
theorem in_tb {z : Hp} {s d : Nat} (h : In z s d) : ∀ i, i < nn (zI z 92 6) → zI z 67 i = zI z 97 i &&& 255 ∧ bR (zI z 97 i) := h.2.2.2.2.2.2.2.2.2.2.2.2.2.2.2.2.1
theorem in_fk {z : Hp} {s d : Nat} (h : In z s d) : zI z 0 11 = zI z 92 13 := h.2.2.2.2.2.2.2.2.2.2.2.2.2.2.2.2.2.1
theorem in_fp {z : Hp} {s d : Nat} (h : In z s d) : zI z 0 12 = zI z 92 14 := h.2.2.2.2.2.2.2.2.2.2.2.2.2.2.2.2.2.2.1
theorem in_gn {z : Hp} {s d : Nat} (h : In z s d) : zI z 0 9 = zI z 92 34 := h.2.2.2.2.2.2.2.2.2.2.2.2.2.2.2.2.2.2.2.1
theorem in_gN {z : Hp} {s d : Nat} (h : In z s d) : isN (zI z 92 34) 145 := h.2.2.2.2.2.2.2.2.2.2.2.2.2.2.2.2.2.2.2.2.1
theorem in_gg {z : Hp} {s d : Nat} (h : In z s d) : ∀ i, i < nn (zI z 92 34) → zI z 91 i = zI z 110 i := h.2.2.2.2.2.2.2.2.2.2.2.2.2.2.2.2.2.2.2.2.2.1
theorem in_ch {z : Hp} {s d : Nat} (h : In z s d) : zI z 0 10 = zI z 92 35 := h.2.2.2.2.2.2.2.2.2.2.2.2.2.2.2.2.2.2.2.2.2.2.1
theorem in_sn {z : Hp} {s d : Nat} (h : In z s d) : ∀ k, k < 4 → zI z 111 k = -1 ∨ isN (zI z 111 k) 61 := h.2.2.2.2.2.2.2.2.2.2.2.2.2.2.2.2.2.2.2.2.2.2.2.1
theorem in_sl {z : Hp} {s d : Nat} (h : In z s d) : ∀ k, k < 4 → zI z 90 k = zI z 111 k := h.2.2.2.2.2.2.2.2.2.2.2.2.2.2.2.2.2.2.2.2.2.2.2.2.1
theorem in_sw {z : Hp} {s d : Nat} (h : In z s d) : ∀ k, k < 4 → isN (zI z 112 k) 4 := h.2.2.2.2.2.2.2.2.2.2.2.2.2.2.2.2.2.2.2.2.2.2.2.2.2.1
theorem in_sv {z : Hp} {s d : Nat} (h : In z s d) : ∀ k, k < 4 → zI z 111 k = -1 ∨ zI z 89 k = zI z 112 k := h.2.2.2.2.2.2.2.2.2.2.2.2.2.2.2.2.2.2.2.2.2.2.2.2.2.2.1
theorem in_nu {z : Hp} {s d : Nat} (h : In z s d) : ∀ k i, k < 4 → i < 60 → zL z (85 + k) i = zL z 113 (60 * k + i) := h.2.2.2.2.2.2.2.2.2.2.2.2.2.2.2.2.2.2.2.2.2.2.2.2.2.2.2.1
theorem in_N {z : Hp} {s d : Nat} (h : In z s d) : 115 ≤ zN z := h.2.2.2.2.2.2.2.2.2.2.2.2.2.2.2.2.2.2.2.2.2.2.2.2.2.2.2.2
