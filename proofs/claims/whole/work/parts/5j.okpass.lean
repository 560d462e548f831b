/-! ===== behind a tick the world keeps its bounds ===== -/
theorem toI_min (a b : Int32) : (minJ a b).toInt = min a.toInt b.toInt := by
  unfold minJ
  by_cases h : b < a
  · rw [if_pos h]
    rw [Int32.lt_iff_toInt_lt] at h
    omega
  · rw [if_neg h]
    rw [Int32.lt_iff_toInt_lt] at h
    omega
theorem toI_max (a b : Int32) : (maxJ a b).toInt = max a.toInt b.toInt := by
  unfold maxJ
  by_cases h : a < b
  · rw [if_pos h]
    rw [Int32.lt_iff_toInt_lt] at h
    omega
  · rw [if_neg h]
    rw [Int32.lt_iff_toInt_lt] at h
    omega
theorem add_int {a b : Int32} (h : -2147483648 ≤ a.toInt + b.toInt) (h2 : a.toInt + b.toInt < 2147483648) : (a + b).toInt = a.toInt + b.toInt := by rw [Int32.toInt_add, bm h h2]
theorem sub_int {a b : Int32} (h : -2147483648 ≤ a.toInt - b.toInt) (h2 : a.toInt - b.toInt < 2147483648) : (a - b).toInt = a.toInt - b.toInt := by rw [Int32.toInt_sub, bm h h2]
theorem neg_int {a : Int32} (h : -2147483648 < a.toInt) : (-a).toInt = -a.toInt := by
  have := Int32.toInt_lt a
  rw [Int32.toInt_neg, bm (by omega) (by omega)]
theorem toI_0 : (0 : Int32).toInt = 0 := by decide
theorem isN.int {x : Int32} {m : Nat} (h : isN x m) (hm : m < 2 ^ 31) : x.toInt = (nn x : Int) := by
  have e := h.1
  have l := h.2
  generalize nn x = k at e l ⊢
  rw [e, nI_toInt (by omega)]
theorem isN.ofI {x : Int32} {m : Nat} (h0 : 0 ≤ x.toInt) (h1 : x.toInt < m) (hm : m < 2 ^ 31) : isN x m :=
  isN.of (fun h => by rw [Int32.lt_iff_toInt_lt, toI_0] at h; omega) h1 hm
theorem sd_bd {W : Nat → Int32} {q c n : Nat} (hO : OkW W q) (hc : c < 144) (hn : n < 4) : 100 * (sdW W c n).toInt ≤ (300 - (W (192 + c)).toInt) * 15 ∧ -(((W (192 + c)).toInt + 3900) * 15) ≤ 100 * (sdW W c n).toInt := by
  have hw := ok_warm hO c hc
  unfold sdW
  cases hb : bsM c n with
  | none =>
    have hl := ld_N hO hc
    obtain ⟨k, hk, ek⟩ : ∃ k, k < 16 ∧ ldW W c = nI k := ⟨_, hl.2, hl.1⟩
    have hf := ok_far hO
    have ef := hf.1.int (by decide)
    have el := hf.1.2
    have := part_bd (x := W 5) (w := W (192 + c)) (k := k) (K := 15) ⟨by omega, by omega⟩ hw (by omega) (by decide)
    dsimp only
    unfold rmW
    rw [ek]
    exact this
  | some d =>
    have hd := (bsM_nb hc hn hb).2
    have hl := min_N (ld_N hO hc) (ld_N hO hd)
    obtain ⟨k, hk, ek⟩ : ∃ k, k < 16 ∧ minJ (ldW W c) (ldW W d) = nI k := ⟨_, hl.2, hl.1⟩
    have := part_bd (x := W (192 + d)) (w := W (192 + c)) (k := k) (K := 15) (ok_warm hO d hd) hw (by omega) (by decide)
    dsimp only
    unfold exW
    rw [ek]
    exact this
theorem st_bd {W : Nat → Int32} {q c : Nat} (hO : OkW W q) (hc : c < 144) : 100 * (stW W c).toInt ≤ (300 - (W (192 + c)).toInt) * 30 ∧ -(((W (192 + c)).toInt + 3900) * 30) ≤ 100 * (stW W c).toInt := by
  have hw := ok_warm hO c hc
  have z0 : 100 * (0 : Int32).toInt ≤ (300 - (W (192 + c)).toInt) * 30 ∧ -(((W (192 + c)).toInt + 3900) * 30) ≤ 100 * (0 : Int32).toInt := by
    rw [toI_0]; omega
  have hs := ok_sp hO (c / 12) (by omega)
  obtain ⟨k, hk, ek⟩ : ∃ k, k < 31 ∧ W (36 + c / 12) = nI k := ⟨_, hs.2, hs.1⟩
  have hf := ok_far hO
  have ef := hf.1.int (by decide)
  have el := hf.1.2
  unfold stW
  split
  · exact z0
  · split
    · exact z0
    · split
      · have := part_bd (x := W 5) (w := W (192 + c)) (k := k) (K := 30) ⟨by omega, by omega⟩ hw (by omega) (by decide)
        rw [ek]
        exact this
      · split
        · exact z0
        · have := part_bd (x := W (192 + (c - 1))) (w := W (192 + c)) (k := k) (K := 30) (ok_warm hO (c - 1) (by omega)) hw (by omega) (by decide)
          rw [ek]
          exact this
theorem h1_bd {W : Nat → Int32} {q c : Nat} (hO : OkW W q) (hc : c < 144) (hd : W (480 + c) = 0) : 100 * (h1W W c).toInt ≤ (300 - (W (192 + c)).toInt) * 90 ∧ -(((W (192 + c)).toInt + 3900) * 90) ≤ 100 * (h1W W c).toInt := by
  have hw := ok_warm hO c hc
  have a0 := sd_bd hO hc (n := 0) (by decide)
  have a1 := sd_bd hO hc (n := 1) (by decide)
  have a2 := sd_bd hO hc (n := 2) (by decide)
  have a3 := sd_bd hO hc (n := 3) (by decide)
  have a4 := st_bd hO hc
  have e : h1W W c = (sdW W c 0 + sdW W c 1 + sdW W c 2 + sdW W c 3) + stW W c := by
    unfold h1W
    rw [if_neg (by rw [hd]; decide)]
    show (((0 + sdW W c 0) + sdW W c 1) + sdW W c 2) + sdW W c 3 + stW W c = _
    rw [Int32.zero_add]
  have e1 := add_int (a := sdW W c 0) (b := sdW W c 1) (by omega) (by omega)
  have e2 := add_int (a := sdW W c 0 + sdW W c 1) (b := sdW W c 2) (by omega) (by omega)
  have e3 := add_int (a := sdW W c 0 + sdW W c 1 + sdW W c 2) (b := sdW W c 3) (by omega) (by omega)
  have e4 := add_int (a := sdW W c 0 + sdW W c 1 + sdW W c 2 + sdW W c 3) (b := stW W c) (by omega) (by omega)
  rw [e]
  omega
theorem tk_wn {W : Nat → Int32} {p : Nat} : tkN W p ≤ wnN W p := by
  unfold tkN
  split
  · rename_i g
    have : wnN W p * nn (W 6) ≤ wnN W p * sN (wnN W) (nPW W) := Nat.mul_le_mul (Nat.le_refl _) (Nat.le_of_lt g)
    exact Nat.div_le_of_le_mul (Nat.le_trans this (Nat.le_of_eq (Nat.mul_comm _ _)))
  · exact Nat.le_refl _
theorem wn_bd {W : Nat → Int32} {q p : Nat} (hO : OkW W q) (hp : p < nPW W) : wnN W p = 0 ∨ (100 * (wnN W p : Int) ≤ 60 * ((W (192 + pcN W p)).toInt + 400)) := by
  unfold wnN
  split
  · rename_i h
    right
    have h2 := ok_pa hO p hp
    have h3 := ok_pl hO p hp
    rw [show 624 + 6 * p + 1 = 625 + 6 * p by omega] at h2
    rw [show 624 + 6 * p + 2 = 626 + 6 * p by omega] at h3
    have hlt := h.2.2
    rw [Int32.lt_iff_toInt_lt] at hlt
    have a : ((W (192 + pcN W p)).toInt - (W (625 + 6 * p)).toInt).toNat ≤ ((W (192 + pcN W p)).toInt + 400).toNat := by omega
    have b : nn (W (626 + 6 * p)) ≤ 60 := Nat.lt_succ_iff.mp h3.2
    have ab := Nat.mul_le_mul a b
    generalize ((W (192 + pcN W p)).toInt - (W (625 + 6 * p)).toInt).toNat * nn (W (626 + 6 * p)) = m at *
    omega
  · exact Or.inl rfl
theorem ts_sum {W : Nat → Int32} {q c : Nat} (hO : OkW W q) : ∀ n, n ≤ nPW W → ∃ t, sm (tsW W c) n = -nI t ∧ (t = 0 ∨ ∃ p, p < n ∧ pcN W p = c ∧ t = tkN W p)
  | 0, _ => ⟨0, show (0 : Int32) = -nI 0 by decide, Or.inl rfl⟩
  | n + 1, hn => by
    obtain ⟨t, e, ht⟩ := ts_sum hO n (by omega)
    have es : sm (tsW W c) (n + 1) = sm (tsW W c) n + tsW W c n := rfl
    by_cases g : pcN W n = c
    · have t0 : t = 0 := by
        rcases ht with h | ⟨p, h1, h2, _⟩
        · exact h
        · have : p = n := ok_pd hO p n (by omega) (by omega) (by rw [(pc_eq hO (p := p) (by omega)).1, (pc_eq hO (p := n) (by omega)).1, h2, g])
          omega
      refine ⟨tkN W n, ?_, Or.inr ⟨n, by omega, g, rfl⟩⟩
      rw [es, e, t0]
      unfold tsW
      rw [if_pos g, show -nI 0 = 0 by decide, Int32.zero_add]
    · refine ⟨t, ?_, ?_⟩
      · rw [es, e]
        unfold tsW
        rw [if_neg g, Int32.add_zero]
      · rcases ht with h | ⟨p, h1, h2⟩
        · exact Or.inl h
        · exact Or.inr ⟨p, by omega, h2⟩
/-- heat all together: bounds -/
theorem ht_bd {W : Nat → Int32} {q c : Nat} (hO : OkW W q) (hc : c < 144) (hd : W (480 + c) = 0) : -10000 ≤ (htW W c).toInt ∧ (htW W c).toInt ≤ 300 - (W (192 + c)).toInt ∧ -3900 ≤ (W (192 + c)).toInt + (htW W c).toInt := by
  have hw := ok_warm hO c hc
  have h1 := h1_bd hO hc hd
  obtain ⟨t, e, ht⟩ := ts_sum (c := c) hO (nPW W) (Nat.le_refl _)
  have tb : t ≤ 420 ∧ (t = 0 ∨ 100 * (t : Int) ≤ 60 * ((W (192 + c)).toInt + 400)) := by
    rcases ht with h | ⟨p, g1, g2, g3⟩
    · rw [h]; exact ⟨by omega, Or.inl rfl⟩
    · have a := tk_le hO g1
      have b := tk_wn (W := W) (p := p)
      refine ⟨by omega, ?_⟩
      rcases wn_bd hO g1 with k | k
      · left; omega
      · right; rw [g2] at k; omega
  have en : (-nI t).toInt = -(t : Int) := by
    rw [neg_int (by rw [nI_toInt (by omega)]; omega), nI_toInt (by omega)]
  have es : (htW W c).toInt = (h1W W c).toInt - t := by
    unfold htW
    rw [e, add_int (by omega) (by omega), en]
    omega
  rw [es]
  omega
theorem fz_bd {mk lat w ice h : Int32} (hm : -30 ≤ mk.toInt ∧ mk.toInt ≤ 0) (hl : 0 ≤ lat.toInt ∧ lat.toInt ≤ 1000) (hw : -3900 ≤ w.toInt ∧ w.toInt ≤ 300) (hi : 0 ≤ ice.toInt ∧ ice.toInt ≤ lat.toInt) (hh : -10000 ≤ h.toInt ∧ h.toInt < 0) :
    0 ≤ (fzN mk lat w ice h).toInt ∧ (fzN mk lat w ice h).toInt ≤ -h.toInt ∧ (fzN mk lat w ice h).toInt ≤ lat.toInt - ice.toInt := by
  have e1 : (-h).toInt = -h.toInt := neg_int (by omega)
  have e2 : (w - mk).toInt = w.toInt - mk.toInt := sub_int (by omega) (by omega)
  have e3 : (lat - ice).toInt = lat.toInt - ice.toInt := sub_int (by omega) (by omega)
  have e4 : (minJ (-h) (maxJ 0 (w - mk))).toInt = min (-h.toInt) (max 0 (w.toInt - mk.toInt)) := by rw [toI_min, toI_max, e1, e2, toI_0]
  have e5 : (-h - minJ (-h) (maxJ 0 (w - mk))).toInt = -h.toInt - min (-h.toInt) (max 0 (w.toInt - mk.toInt)) := by rw [sub_int (by rw [e1, e4]; omega) (by rw [e1, e4]; omega), e1, e4]
  unfold fzN
  rw [toI_min, e5, e3]
  omega
theorem th_bd {mk w ice h : Int32} (hm : -30 ≤ mk.toInt ∧ mk.toInt ≤ 0) (hw : -3900 ≤ w.toInt ∧ w.toInt ≤ 300) (hi : 0 ≤ ice.toInt ∧ ice.toInt ≤ 1000) (hh : 0 ≤ h.toInt ∧ h.toInt ≤ 10000) :
    0 ≤ (thN mk w ice h).toInt ∧ (thN mk w ice h).toInt ≤ h.toInt ∧ (thN mk w ice h).toInt ≤ ice.toInt := by
  have e2 : (mk - w).toInt = mk.toInt - w.toInt := sub_int (by omega) (by omega)
  have e4 : (minJ h (maxJ 0 (mk - w))).toInt = min h.toInt (max 0 (mk.toInt - w.toInt)) := by rw [toI_min, toI_max, e2, toI_0]
  have e5 : (h - minJ h (maxJ 0 (mk - w))).toInt = h.toInt - min h.toInt (max 0 (mk.toInt - w.toInt)) := by rw [sub_int (by rw [e4]; omega) (by rw [e4]; omega), e4]
  unfold thN
  rw [toI_min, e5]
  omega
theorem wi_bd {W : Nat → Int32} {q c : Nat} (hO : OkW W q) (hc : c < 144) : (-3900 ≤ (wmW W c).toInt ∧ (wmW W c).toInt ≤ 300) ∧ (0 ≤ (icW W c).toInt ∧ (icW W c).toInt ≤ (W (22 + 4 * kdW W c)).toInt) := by
  have hk := kd_lt hO hc
  have hw := ok_warm hO c hc
  have hl := ok_lat hO _ hk
  have hi := ok_ice hO c hc
  have hm := ok_mark hO _ hk
  have el := hl.1.int (by decide)
  have ei := hi.1.int (by decide)
  have l1 := hl.1.2
  have i1 := hi.1.2
  have i2 := hi.2
  rcases ok_dug hO c hc with hd | hd
  · have hb := ht_bd hO hc hd
    have nd : ¬ W (480 + c) = 1 := by rw [hd]; decide
    unfold wmW icW
    rw [if_neg nd, if_neg nd]
    unfold wmN icN
    by_cases h : htW W c < 0
    · rw [if_pos h, if_pos h]
      rw [Int32.lt_iff_toInt_lt, toI_0] at h
      have f := fz_bd hm (lat := W (22 + 4 * kdW W c)) ⟨by omega, by omega⟩ hw (ice := W (336 + c)) ⟨by omega, by omega⟩ (h := htW W c) ⟨by omega, h⟩
      have a1 := add_int (a := htW W c) (b := fzN (W (23 + 4 * kdW W c)) (W (22 + 4 * kdW W c)) (W (192 + c)) (W (336 + c)) (htW W c)) (by omega) (by omega)
      have a2 := add_int (a := W (336 + c)) (b := fzN (W (23 + 4 * kdW W c)) (W (22 + 4 * kdW W c)) (W (192 + c)) (W (336 + c)) (htW W c)) (by omega) (by omega)
      have a3 := add_int (a := W (192 + c)) (b := htW W c + fzN (W (23 + 4 * kdW W c)) (W (22 + 4 * kdW W c)) (W (192 + c)) (W (336 + c)) (htW W c)) (by omega) (by omega)
      rw [a2, a3]
      omega
    · rw [if_neg h, if_neg h]
      rw [Int32.lt_iff_toInt_lt, toI_0] at h
      have f := th_bd hm hw (ice := W (336 + c)) ⟨by omega, by omega⟩ (h := htW W c) ⟨by omega, by omega⟩
      have a1 := sub_int (a := htW W c) (b := thN (W (23 + 4 * kdW W c)) (W (192 + c)) (W (336 + c)) (htW W c)) (by omega) (by omega)
      rw [add_int (by omega) (by omega), sub_int (a := W (336 + c)) (by omega) (by omega)]
      omega
  · unfold wmW icW
    rw [if_pos hd, if_pos hd]
    omega
theorem pw_id {W : Nat → Int32} {i : Nat} (h : i ≠ 1 ∧ i ≠ 14 ∧ i ≠ 15 ∧ i ≠ 16 ∧ ¬ (192 ≤ i ∧ i < 480) ∧ ¬ (624 ≤ i ∧ i < 624 + 6 * nPW W ∧ 4 ≤ (i - 624) % 6)) : passW W i = W i := by
  unfold passW
  rw [if_neg (by omega), if_neg (by omega), if_neg (by omega), if_neg (by omega), if_neg (by omega), if_neg (by omega), if_neg (by omega), if_neg (by omega)]
theorem pw_warm {W : Nat → Int32} {c : Nat} (hc : c < 144) : passW W (192 + c) = wmW W c := by
  unfold passW
  rw [if_neg (by omega), if_neg (by omega), if_neg (by omega), if_neg (by omega), if_pos (by omega), show 192 + c - 192 = c by omega]
theorem pw_ice {W : Nat → Int32} {c : Nat} (hc : c < 144) : passW W (336 + c) = icW W c := by
  unfold passW
  rw [if_neg (by omega), if_neg (by omega), if_neg (by omega), if_neg (by omega), if_neg (by omega), if_pos (by omega), show 336 + c - 336 = c by omega]
theorem pw_p {W : Nat → Int32} {p k : Nat} (hk : k < 4) : passW W (624 + 6 * p + k) = W (624 + 6 * p + k) := pw_id (by omega)
theorem pw_p0 {W : Nat → Int32} {p : Nat} : passW W (624 + 6 * p) = W (624 + 6 * p) := pw_id (by omega)
theorem pw_p4 {W : Nat → Int32} {p : Nat} (hp : p < nPW W) : passW W (624 + 6 * p + 4) = nI (tkN W p) := by
  unfold passW
  rw [if_neg (by omega), if_neg (by omega), if_neg (by omega), if_neg (by omega), if_neg (by omega), if_neg (by omega), if_pos (by omega), show (624 + 6 * p + 4 - 624) / 6 = p by omega]
theorem pw_p5 {W : Nat → Int32} {p : Nat} (hp : p < nPW W) : passW W (624 + 6 * p + 5) = W (624 + 6 * p + 5) + nI (tkN W p) := by
  unfold passW
  rw [if_neg (by omega), if_neg (by omega), if_neg (by omega), if_neg (by omega), if_neg (by omega), if_neg (by omega), if_neg (by omega), if_pos (by omega), show (624 + 6 * p + 5 - 624) / 6 = p by omega]
theorem okpass {W : Nat → Int32} {q : Nat} (hO : OkW W q) : OkW (passW W) q := by
  have hnp := np_le hO
  have n2 : nPW (passW W) = nPW W := nPW_of (pw_id (by omega))
  have e : ∀ i, i = 0 ∨ (2 ≤ i ∧ i < 14) ∨ (17 ≤ i ∧ i < 192) ∨ (480 ≤ i ∧ i < 624) ∨ 732 ≤ i → passW W i = W i := fun i hi => pw_id (by omega)
  exact ⟨ok_kd_of (ok_kd hO)  (fun i hi => e i (by omega)),
    ok_gl_of (ok_gl hO)  (fun i hi => e i (by omega)),
    ok_lat_of (ok_lat hO)  (fun i hi => e i (by omega)),
    ok_mark_of (ok_mark hO)  (fun i hi => e i (by omega)),
    ok_sp_of (ok_sp hO)  (fun i hi => e i (by omega)),
    ok_far_of (ok_far hO)  (fun i hi => e i (by omega)),
    fun c hc => by rw [pw_warm hc]; exact (wi_bd hO hc).1,
    fun c hc => by
      have hk := kd_lt hO hc
      have hb := (wi_bd hO hc).2
      have hl := (ok_lat hO _ hk).1
      have el := hl.int (by decide)
      have l1 := hl.2
      have hN : isN (icW W c) 1000 := isN.ofI hb.1 (by omega) (by decide)
      rw [pw_ice hc, kdW_of (e (48 + c) (by omega)), e (22 + 4 * kdW W c) (by omega)]
      have ei := hN.int (by decide)
      exact ⟨hN, by omega⟩,
    ok_dug_of (ok_dug hO)  (fun i hi => e i (by omega)),
    ok_dsh_of (ok_dsh hO)  (fun i hi => e i (by omega)),
    ok_pn_of (ok_pn hO)  (fun i hi => e i (by omega)),
    fun p hp => by rw [n2] at hp; rw [pw_p0]; exact ok_pc hO p hp,
    fun p r hp hr => by rw [n2] at hp hr; rw [pw_p0, pw_p0]; exact ok_pd hO p r hp hr,
    fun p hp => by rw [n2] at hp; rw [pw_p (by omega)]; exact ok_pa hO p hp,
    fun p hp => by rw [n2] at hp; rw [pw_p (by omega)]; exact ok_pl hO p hp,
    fun p hp => by rw [n2] at hp; rw [pw_p (by omega)]; exact ok_pr hO p hp,
    ok_hn_of (ok_hn hO)  (fun i hi => e i (by omega)),
    ok_hc_of (ok_hc hO) (nh_le hO) (fun i hi => e i (by omega)),
    ok_rn_of (ok_rn hO)  (fun i hi => e i (by omega)),
    ok_rc_of (ok_rc hO) (nr_lt hO) (fun i hi => e i (by omega)),
    ok_rw_of (ok_rw hO) (nr_lt hO) (nc_lt hO) (fun i hi => e i (by omega)),
    ok_gc_of (ok_gc hO)  (fun i hi => e i (by omega)),
    ok_sh_of (ok_sh hO)  (fun i hi => e i (by omega)),
    ok_cold_of (ok_cold hO)  (fun i hi => e i (by omega)),
    ok_fl_of (ok_fl hO)  (fun i hi => e i (by omega))⟩

