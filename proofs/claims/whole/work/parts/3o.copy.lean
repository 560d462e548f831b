/-! ===== State.copyFrom ===== -/
def CpS (z y : Hp) (s t : Nat) : Prop :=
  (∀ i, i < 4 → zI y (t + 2) i = zI z (s + 2) i) ∧
  (∀ i, i < 4 → zI y (t + 3) i = zI z (s + 3) i) ∧
  (∀ i, i < 4 → zI y (t + 4) i = zI z (s + 4) i) ∧
  (∀ i, i < 4 → zI y (t + 5) i = zI z (s + 5) i) ∧
  (∀ i, i < 144 → zI y (t + 6) i = zI z (s + 6) i) ∧
  (∀ i, i < 12 → zI y (t + 7) i = zI z (s + 7) i) ∧
  (∀ i, i < 18 → zI y (t + 9) i = zI z (s + 9) i) ∧
  (∀ i, i < 18 → zI y (t + 10) i = zI z (s + 10) i) ∧
  (∀ i, i < 18 → zI y (t + 11) i = zI z (s + 11) i) ∧
  (∀ i, i < 18 → zI y (t + 12) i = zI z (s + 12) i) ∧
  (∀ i, i < 18 → zI y (t + 13) i = zI z (s + 13) i) ∧
  (∀ i, i < 18 → zI y (t + 14) i = zI z (s + 14) i) ∧
  (∀ i, i < 6 → zI y (t + 16) i = zI z (s + 16) i) ∧
  (∀ i, i < 6 → zI y (t + 17) i = zI z (s + 17) i) ∧
  (∀ i, i < 6 → zI y (t + 18) i = zI z (s + 18) i) ∧
  (∀ i, i < 4 → zI y (t + 20) i = zI z (s + 20) i) ∧
  (∀ i, i < 12 → zI y (t + 21) i = zI z (s + 21) i) ∧
  (∀ i, i < 12 → zI y (t + 22) i = zI z (s + 22) i) ∧
  (∀ i, i < 12 → zI y (t + 23) i = zI z (s + 23) i) ∧
  (∀ i, i < 10 → zI y (t + 25) i = zI z (s + 25) i) ∧
  (∀ i, i < 10 → zI y (t + 26) i = zI z (s + 26) i) ∧
  (∀ i, i < 144 → zI y (t + 27) i = zI z (s + 27) i) ∧
  (∀ i, i < 144 → zI y (t + 28) i = zI z (s + 28) i) ∧
  (∀ i, i < 144 → zI y (t + 29) i = zI z (s + 29) i) ∧
  (∀ i, i < 144 → zI y (t + 30) i = zI z (s + 30) i) ∧
  (∀ i, i < 6 → zI y (t + 31) i = zI z (s + 31) i) ∧
  (zI y (t + 1) 6 = zI z (s + 1) 6) ∧
  (zI y (t + 8) 6 = zI z (s + 8) 6) ∧
  (zI y (t + 15) 3 = zI z (s + 15) 3) ∧
  (zI y (t + 19) 4 = zI z (s + 19) 4) ∧
  (zI y t 10 = zI z s 10) ∧
  (zI y t 11 = zI z s 11) ∧
  (zI y t 12 = zI z s 12) ∧
  (zI y t 13 = zI z s 13) ∧
  (zI y t 14 = zI z s 14) ∧
  (zI y t 15 = zI z s 15) ∧
  (zI y t 16 = zI z s 16)
theorem cp_a2 {z y : Hp} {s t : Nat} (h : CpS z y s t) : ∀ i, i < 4 → zI y (t + 2) i = zI z (s + 2) i := h.1
theorem cp_a3 {z y : Hp} {s t : Nat} (h : CpS z y s t) : ∀ i, i < 4 → zI y (t + 3) i = zI z (s + 3) i := h.2.1
theorem cp_a4 {z y : Hp} {s t : Nat} (h : CpS z y s t) : ∀ i, i < 4 → zI y (t + 4) i = zI z (s + 4) i := h.2.2.1
theorem cp_a5 {z y : Hp} {s t : Nat} (h : CpS z y s t) : ∀ i, i < 4 → zI y (t + 5) i = zI z (s + 5) i := h.2.2.2.1
theorem cp_a6 {z y : Hp} {s t : Nat} (h : CpS z y s t) : ∀ i, i < 144 → zI y (t + 6) i = zI z (s + 6) i := h.2.2.2.2.1
theorem cp_a7 {z y : Hp} {s t : Nat} (h : CpS z y s t) : ∀ i, i < 12 → zI y (t + 7) i = zI z (s + 7) i := h.2.2.2.2.2.1
theorem cp_a9 {z y : Hp} {s t : Nat} (h : CpS z y s t) : ∀ i, i < 18 → zI y (t + 9) i = zI z (s + 9) i := h.2.2.2.2.2.2.1
theorem cp_a10 {z y : Hp} {s t : Nat} (h : CpS z y s t) : ∀ i, i < 18 → zI y (t + 10) i = zI z (s + 10) i := h.2.2.2.2.2.2.2.1
theorem cp_a11 {z y : Hp} {s t : Nat} (h : CpS z y s t) : ∀ i, i < 18 → zI y (t + 11) i = zI z (s + 11) i := h.2.2.2.2.2.2.2.2.1
theorem cp_a12 {z y : Hp} {s t : Nat} (h : CpS z y s t) : ∀ i, i < 18 → zI y (t + 12) i = zI z (s + 12) i := h.2.2.2.2.2.2.2.2.2.1
theorem cp_a13 {z y : Hp} {s t : Nat} (h : CpS z y s t) : ∀ i, i < 18 → zI y (t + 13) i = zI z (s + 13) i := h.2.2.2.2.2.2.2.2.2.2.1
theorem cp_a14 {z y : Hp} {s t : Nat} (h : CpS z y s t) : ∀ i, i < 18 → zI y (t + 14) i = zI z (s + 14) i := h.2.2.2.2.2.2.2.2.2.2.2.1
theorem cp_a16 {z y : Hp} {s t : Nat} (h : CpS z y s t) : ∀ i, i < 6 → zI y (t + 16) i = zI z (s + 16) i := h.2.2.2.2.2.2.2.2.2.2.2.2.1
theorem cp_a17 {z y : Hp} {s t : Nat} (h : CpS z y s t) : ∀ i, i < 6 → zI y (t + 17) i = zI z (s + 17) i := h.2.2.2.2.2.2.2.2.2.2.2.2.2.1
theorem cp_a18 {z y : Hp} {s t : Nat} (h : CpS z y s t) : ∀ i, i < 6 → zI y (t + 18) i = zI z (s + 18) i := h.2.2.2.2.2.2.2.2.2.2.2.2.2.2.1
theorem cp_a20 {z y : Hp} {s t : Nat} (h : CpS z y s t) : ∀ i, i < 4 → zI y (t + 20) i = zI z (s + 20) i := h.2.2.2.2.2.2.2.2.2.2.2.2.2.2.2.1
theorem cp_a21 {z y : Hp} {s t : Nat} (h : CpS z y s t) : ∀ i, i < 12 → zI y (t + 21) i = zI z (s + 21) i := h.2.2.2.2.2.2.2.2.2.2.2.2.2.2.2.2.1
theorem cp_a22 {z y : Hp} {s t : Nat} (h : CpS z y s t) : ∀ i, i < 12 → zI y (t + 22) i = zI z (s + 22) i := h.2.2.2.2.2.2.2.2.2.2.2.2.2.2.2.2.2.1
theorem cp_a23 {z y : Hp} {s t : Nat} (h : CpS z y s t) : ∀ i, i < 12 → zI y (t + 23) i = zI z (s + 23) i := h.2.2.2.2.2.2.2.2.2.2.2.2.2.2.2.2.2.2.1
theorem cp_a25 {z y : Hp} {s t : Nat} (h : CpS z y s t) : ∀ i, i < 10 → zI y (t + 25) i = zI z (s + 25) i := h.2.2.2.2.2.2.2.2.2.2.2.2.2.2.2.2.2.2.2.1
theorem cp_a26 {z y : Hp} {s t : Nat} (h : CpS z y s t) : ∀ i, i < 10 → zI y (t + 26) i = zI z (s + 26) i := h.2.2.2.2.2.2.2.2.2.2.2.2.2.2.2.2.2.2.2.2.1
theorem cp_a27 {z y : Hp} {s t : Nat} (h : CpS z y s t) : ∀ i, i < 144 → zI y (t + 27) i = zI z (s + 27) i := h.2.2.2.2.2.2.2.2.2.2.2.2.2.2.2.2.2.2.2.2.2.1
theorem cp_a28 {z y : Hp} {s t : Nat} (h : CpS z y s t) : ∀ i, i < 144 → zI y (t + 28) i = zI z (s + 28) i := h.2.2.2.2.2.2.2.2.2.2.2.2.2.2.2.2.2.2.2.2.2.2.1
theorem cp_a29 {z y : Hp} {s t : Nat} (h : CpS z y s t) : ∀ i, i < 144 → zI y (t + 29) i = zI z (s + 29) i := h.2.2.2.2.2.2.2.2.2.2.2.2.2.2.2.2.2.2.2.2.2.2.2.1
theorem cp_a30 {z y : Hp} {s t : Nat} (h : CpS z y s t) : ∀ i, i < 144 → zI y (t + 30) i = zI z (s + 30) i := h.2.2.2.2.2.2.2.2.2.2.2.2.2.2.2.2.2.2.2.2.2.2.2.2.1
theorem cp_a31 {z y : Hp} {s t : Nat} (h : CpS z y s t) : ∀ i, i < 6 → zI y (t + 31) i = zI z (s + 31) i := h.2.2.2.2.2.2.2.2.2.2.2.2.2.2.2.2.2.2.2.2.2.2.2.2.2.1
theorem cp_f1_6 {z y : Hp} {s t : Nat} (h : CpS z y s t) : zI y (t + 1) 6 = zI z (s + 1) 6 := h.2.2.2.2.2.2.2.2.2.2.2.2.2.2.2.2.2.2.2.2.2.2.2.2.2.2.1
theorem cp_f8_6 {z y : Hp} {s t : Nat} (h : CpS z y s t) : zI y (t + 8) 6 = zI z (s + 8) 6 := h.2.2.2.2.2.2.2.2.2.2.2.2.2.2.2.2.2.2.2.2.2.2.2.2.2.2.2.1
theorem cp_f15_3 {z y : Hp} {s t : Nat} (h : CpS z y s t) : zI y (t + 15) 3 = zI z (s + 15) 3 := h.2.2.2.2.2.2.2.2.2.2.2.2.2.2.2.2.2.2.2.2.2.2.2.2.2.2.2.2.1
theorem cp_f19_4 {z y : Hp} {s t : Nat} (h : CpS z y s t) : zI y (t + 19) 4 = zI z (s + 19) 4 := h.2.2.2.2.2.2.2.2.2.2.2.2.2.2.2.2.2.2.2.2.2.2.2.2.2.2.2.2.2.1
theorem cp_f0_10 {z y : Hp} {s t : Nat} (h : CpS z y s t) : zI y t 10 = zI z s 10 := h.2.2.2.2.2.2.2.2.2.2.2.2.2.2.2.2.2.2.2.2.2.2.2.2.2.2.2.2.2.2.1
theorem cp_f0_11 {z y : Hp} {s t : Nat} (h : CpS z y s t) : zI y t 11 = zI z s 11 := h.2.2.2.2.2.2.2.2.2.2.2.2.2.2.2.2.2.2.2.2.2.2.2.2.2.2.2.2.2.2.2.1
theorem cp_f0_12 {z y : Hp} {s t : Nat} (h : CpS z y s t) : zI y t 12 = zI z s 12 := h.2.2.2.2.2.2.2.2.2.2.2.2.2.2.2.2.2.2.2.2.2.2.2.2.2.2.2.2.2.2.2.2.1
theorem cp_f0_13 {z y : Hp} {s t : Nat} (h : CpS z y s t) : zI y t 13 = zI z s 13 := h.2.2.2.2.2.2.2.2.2.2.2.2.2.2.2.2.2.2.2.2.2.2.2.2.2.2.2.2.2.2.2.2.2.1
theorem cp_f0_14 {z y : Hp} {s t : Nat} (h : CpS z y s t) : zI y t 14 = zI z s 14 := h.2.2.2.2.2.2.2.2.2.2.2.2.2.2.2.2.2.2.2.2.2.2.2.2.2.2.2.2.2.2.2.2.2.2.1
theorem cp_f0_15 {z y : Hp} {s t : Nat} (h : CpS z y s t) : zI y t 15 = zI z s 15 := h.2.2.2.2.2.2.2.2.2.2.2.2.2.2.2.2.2.2.2.2.2.2.2.2.2.2.2.2.2.2.2.2.2.2.2.1
theorem cp_f0_16 {z y : Hp} {s t : Nat} (h : CpS z y s t) : zI y t 16 = zI z s 16 := h.2.2.2.2.2.2.2.2.2.2.2.2.2.2.2.2.2.2.2.2.2.2.2.2.2.2.2.2.2.2.2.2.2.2.2.2
set_option maxHeartbeats 8000000 in
theorem copyFrom_ok {z : Hp} {s t : Nat} (hS : LayS z s) (hT : LayS z t) (hd : s + 32 ≤ t ∨ t + 32 ≤ s) : ∃ y, m_X8_copyFrom t s z = some ((), y) ∧ Fi (fun a => t ≤ a ∧ a < t + 32) z y ∧ CpS z y s t := by
  refine ⟨?y, ?h1, ?h2, ?h3⟩
  case h1 =>
    simp (disch := omega) [m_X8_copyFrom, m_X7_copyFrom, m_X3_copyFrom, m_X1_copyFrom, m_X5_copyFrom, m_X0_copyFrom, gI, gR, pI, pR, aI, sI, aL, sL, aO, aR, sR, aN, onul, bnd, isC, cpI, cpL, sLen, sCh, nwC, zK_wI, zR_wI, zI_ne, zI_eq, up_ne, sk_0, sk_1, sk_2, sk_3, sk_4, sk_5, sk_6, sk_7, sk_8, sk_9, sk_10, sk_11, sk_12, sk_13, sk_14, sk_15, sk_16, sk_17, sk_18, sk_19, sk_20, sk_21, sk_22, sk_23, sk_24, sk_25, sk_26, sk_27, sk_28, sk_29, sk_30, sk_31, sr_0_0, sr_0_1, sr_0_2, sr_0_3, sr_0_4, sr_0_5, sr_0_6, sr_0_7, sr_0_8, sr_0_9, sr_1_0, sr_1_1, sr_1_2, sr_1_3, sr_1_4, sr_1_5, sr_8_0, sr_8_1, sr_8_2, sr_8_3, sr_8_4, sr_8_5, sr_15_0, sr_15_1, sr_15_2, sr_19_0, sr_19_1, sr_19_2, sr_19_3, sr_24_0, sr_24_1, hS, hT, va_cpy]
    exact rfl
  case h2 =>
    repeat refine Fi.trans ?_ (Fi.w (by omega))
    exact Fi.rfl'
  case h3 =>
    unfold CpS
    simp +contextual (disch := omega) [zI_ne, zI_eq, ups_eq, va_cpy]
theorem RelS.cp {z y : Hp} {s t q : Nat} {W : Nat → Int32} (h : RelS z s W) (hO : OkW W q) (hc : CpS z y s t) : RelS y t W :=
  ⟨by intro g q0; rw [cp_a2 hc g (by omega)]; exact rs_lead h g q0,
    by intro g q0; rw [cp_a3 hc g (by omega)]; exact rs_ilead h g q0,
    by intro g q0; rw [cp_a4 hc g (by omega)]; exact rs_latent h g q0,
    by intro g q0; rw [cp_a5 hc g (by omega)]; exact rs_mark h g q0,
    by intro c q0; rw [cp_a6 hc c (by omega)]; exact rs_ground h c q0,
    by intro r q0; rw [cp_a7 hc r (by omega)]; exact rs_speed h r q0,
    by rw [cp_f1_6 hc]; exact rs_far h,
    by rw [cp_f8_6 hc]; exact rs_pn h,
    by intro p q0; have b2 := np_le hO; rw [cp_a9 hc p (by omega)]; exact rs_p0 h p q0,
    by intro p q0; have b2 := np_le hO; rw [cp_a10 hc p (by omega)]; exact rs_p1 h p q0,
    by intro p q0; have b2 := np_le hO; rw [cp_a11 hc p (by omega)]; exact rs_p2 h p q0,
    by intro p q0; have b2 := np_le hO; rw [cp_a12 hc p (by omega)]; exact rs_p3 h p q0,
    by intro p q0; have b2 := np_le hO; rw [cp_a13 hc p (by omega)]; exact rs_p4 h p q0,
    by intro p q0; have b2 := np_le hO; rw [cp_a14 hc p (by omega)]; exact rs_p5 h p q0,
    by rw [cp_f15_3 hc]; exact rs_hn h,
    by intro g q0; have b3 := nh_le hO; rw [cp_a16 hc g (by omega)]; exact rs_h0 h g q0,
    by intro g q0; have b3 := nh_le hO; rw [cp_a17 hc g (by omega)]; exact rs_h1 h g q0,
    by intro g q0; have b3 := nh_le hO; rw [cp_a18 hc g (by omega)]; exact rs_h2 h g q0,
    by rw [cp_f19_4 hc]; exact rs_rn h,
    by intro r q0; have b4 := nr_lt hO; rw [cp_a20 hc r (by omega)]; exact rs_rc h r q0,
    by intro r i q0 q1; have b4 := nr_lt hO; have b5 := nc_lt hO r q0; rw [cp_a21 hc (3 * r + i) (by omega)]; exact rs_rw h r i q0 q1,
    by intro r i q0 q1 q2; have b4 := nr_lt hO; have b5 := nc_lt hO r q0; rw [cp_a22 hc (3 * r + i) (by omega), cp_a23 hc (3 * r + i) (by omega)]; exact rs_rs h r i q0 q1 q2,
    by intro g q0; rw [cp_a25 hc g (by omega)]; exact rs_gc h g q0,
    by intro g q0 q1; rw [cp_a26 hc g (by omega)]; exact rs_gr h g q0 q1,
    by intro c q0; rw [cp_a27 hc c (by omega)]; exact rs_warm h c q0,
    by intro c q0; rw [cp_a28 hc c (by omega)]; exact rs_ice h c q0,
    by intro c q0; rw [cp_a29 hc c (by omega)]; exact rs_dug h c q0,
    by intro c q0; rw [cp_a30 hc c (by omega)]; exact rs_shaft h c q0,
    by intro k q0 q1; rw [cp_a31 hc k (by omega)]; exact rs_sums h k q0 q1,
    by rw [cp_f0_10 hc]; exact rs_sc h,
    by rw [cp_f0_11 hc]; exact rs_dc h,
    by rw [cp_f0_12 hc]; exact rs_cold h,
    by rw [cp_f0_13 hc]; exact rs_lines h,
    by rw [cp_f0_14 hc]; exact rs_ticks h,
    by rw [cp_f0_15 hc]; exact rs_fl h,
    by rw [cp_f0_16 hc]; exact rs_fls h⟩
