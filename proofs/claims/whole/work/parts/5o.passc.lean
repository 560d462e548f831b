/-! ===== a tick of the class is passW ===== -/
theorem ld_dug {W : Nat → Int32} {c : Nat} (hd : W (480 + c) = 1) : ldW W c = 0 := by unfold ldW; rw [if_pos hd]
theorem ex_dug2 {W : Nat → Int32} {q c d : Nat} (hO : OkW W q) (hd : d < 144) (h : W (480 + c) = 1) : exW W c d = 0 := by
  unfold exW
  rw [ld_dug h, min_comm, min_0 (ld_N hO hd), Int32.mul_zero]
  decide
theorem rm_dug {W : Nat → Int32} {c : Nat} (h : W (480 + c) = 1) : rmW W c = 0 := by
  unfold rmW
  rw [ld_dug h, Int32.mul_zero]
  decide
def nR (W : Nat → Int32) (k : Nat) : Int32 := if k % 12 < 11 then exW W k (k + 1) else 0
def nL (W : Nat → Int32) (k : Nat) : Int32 := if 0 < k % 12 then exW W k (k - 1) else 0
def nD (W : Nat → Int32) (k : Nat) : Int32 := if k < 132 then exW W k (k + 12) else 0
def nU (W : Nat → Int32) (k : Nat) : Int32 := if 12 ≤ k then exW W k (k - 12) else 0
def rR (W : Nat → Int32) (k : Nat) : Int32 := if k % 12 < 11 then 0 else rmW W k
def rL (W : Nat → Int32) (k : Nat) : Int32 := if 0 < k % 12 then 0 else rmW W k
def rD (W : Nat → Int32) (k : Nat) : Int32 := if k < 132 then 0 else rmW W k
def rU (W : Nat → Int32) (k : Nat) : Int32 := if 12 ≤ k then 0 else rmW W k
theorem dg_split {W : Nat → Int32} {n k : Nat} (hk : k < 144) : dgH W n k = ((if n = k then nR W k else 0) + (if n + 1 = k then nL W k else 0)) + ((if n = k then nD W k else 0) + (if n + 12 = k then nU W k else 0)) := by
  unfold dgH nR nL nD nU
  by_cases c1 : n = k
  · subst c1
    rw [if_pos rfl, if_pos rfl, if_pos rfl, if_pos rfl, if_neg (show ¬ n + 1 = n by omega), if_neg (show ¬ n + 12 = n by omega), Int32.add_zero, Int32.add_zero]
  · have c1' : ¬ k = n := fun e => c1 e.symm
    rw [if_neg c1', if_neg c1', if_neg c1, if_neg c1, Int32.zero_add, Int32.zero_add]
    have a1 : (if n % 12 < 11 then (if k = n + 1 then exW W (n + 1) n else 0) else 0) = if n + 1 = k then (if 0 < k % 12 then exW W k (k - 1) else 0) else 0 := by
      by_cases c2 : n + 1 = k
      · subst c2
        rw [if_pos rfl, if_pos rfl, show n + 1 - 1 = n by omega]
        by_cases c3 : n % 12 < 11
        · rw [if_pos c3, if_pos (by omega)]
        · rw [if_neg c3, if_neg (by omega)]
      · rw [if_neg (show ¬ k = n + 1 from fun e => c2 e.symm), if_neg c2]
        split <;> rfl
    have a2 : (if n < 132 then (if k = n + 12 then exW W (n + 12) n else 0) else 0) = if n + 12 = k then (if 12 ≤ k then exW W k (k - 12) else 0) else 0 := by
      by_cases c2 : n + 12 = k
      · subst c2
        rw [if_pos rfl, if_pos rfl, show n + 12 - 12 = n by omega, if_pos (show 12 ≤ n + 12 by omega), if_pos (show n < 132 by omega)]
      · rw [if_neg (show ¬ k = n + 12 from fun e => c2 e.symm), if_neg c2]
        split <;> rfl
    rw [a1, a2]
theorem sm_pick {v : Int32} {k n : Nat} (h : k < n) : sm (fun i => if i = k then v else 0) n = v := (sm_one h (fun i _ hi => if_neg hi)).trans (if_pos rfl)
theorem edge_sum {W : Nat → Int32} {k : Nat} (hk : k < 144) : sm (fun n => dgH W n k) 144 = (nR W k + nL W k) + (nD W k + nU W k) := by
  rw [sm_congr (fun n _ => dg_split hk), sm_add, sm_add, sm_add, sm_pick hk, sm_pick hk]
  have a1 : sm (fun n => if n + 1 = k then nL W k else 0) 144 = nL W k := by
    by_cases c : k = 0
    · rw [sm_nil (fun i _ => if_neg (by omega))]
      unfold nL
      rw [if_neg (by omega)]
    · exact (sm_one (k := k - 1) (by omega) (fun i _ hi => if_neg (by omega))).trans (if_pos (by omega))
  have a2 : sm (fun n => if n + 12 = k then nU W k else 0) 144 = nU W k := by
    by_cases c : k < 12
    · rw [sm_nil (fun i _ => if_neg (by omega))]
      unfold nU
      rw [if_neg (by omega)]
    · exact (sm_one (k := k - 12) (by omega) (fun i _ hi => if_neg (by omega))).trans (if_pos (by omega))
  rw [a1, a2]
theorem rim_sum {W : Nat → Int32} {k : Nat} (hk : k < 144) : sm (fun i => rim4 W i k) 12 = rU W k + rD W k + rL W k + rR W k := by
  unfold rim4
  rw [sm_add, sm_add, sm_add]
  have a1 : sm (fun i => if k = i then rmW W i else 0) 12 = rU W k := by
    unfold rU
    by_cases c : k < 12
    · rw [if_neg (by omega)]
      exact (sm_one c (fun i _ hi => if_neg (fun e => hi e.symm))).trans (if_pos rfl)
    · rw [if_pos (by omega)]
      exact sm_nil (fun i _ => if_neg (by omega))
  have a2 : sm (fun i => if k = 132 + i then rmW W (132 + i) else 0) 12 = rD W k := by
    unfold rD
    by_cases c : k < 132
    · rw [if_pos c]
      exact sm_nil (fun i _ => if_neg (by omega))
    · rw [if_neg c]
      refine (sm_one (k := k - 132) (by omega) (fun i _ hi => if_neg (by omega))).trans ?_
      rw [if_pos (by omega), show 132 + (k - 132) = k by omega]
  have a3 : sm (fun i => if k = 12 * i then rmW W (12 * i) else 0) 12 = rL W k := by
    unfold rL
    by_cases c : 0 < k % 12
    · rw [if_pos c]
      exact sm_nil (fun i _ => if_neg (by omega))
    · rw [if_neg c]
      refine (sm_one (k := k / 12) (by omega) (fun i _ hi => if_neg (by omega))).trans ?_
      rw [if_pos (by omega), show 12 * (k / 12) = k by omega]
  have a4 : sm (fun i => if k = 12 * i + 11 then rmW W (12 * i + 11) else 0) 12 = rR W k := by
    unfold rR
    by_cases c : k % 12 < 11
    · rw [if_pos c]
      exact sm_nil (fun i _ => if_neg (by omega))
    · rw [if_neg c]
      refine (sm_one (k := k / 12) (by omega) (fun i _ hi => if_neg (by omega))).trans ?_
      rw [if_pos (by omega), show 12 * (k / 12) + 11 = k by omega]
  rw [a1, a2, a3, a4]
theorem side_sum {W : Nat → Int32} {k : Nat} : sm (sdW W k) 4 = (nR W k + rR W k) + (nL W k + rL W k) + (nD W k + rD W k) + (nU W k + rU W k) := by
  have e0 : sdW W k 0 = nR W k + rR W k := by
    unfold sdW bsM nR rR
    by_cases c : k % 12 < 11 <;> simp [c]
  have e1 : sdW W k 1 = nL W k + rL W k := by
    unfold sdW bsM nL rL
    by_cases c : 0 < k % 12 <;> simp [c]
  have e2 : sdW W k 2 = nD W k + rD W k := by
    unfold sdW bsM nD rD
    by_cases c : k < 132 <;> simp [c]
  have e3 : sdW W k 3 = nU W k + rU W k := by
    unfold sdW bsM nU rU
    by_cases c : 12 ≤ k <;> simp [c]
  show 0 + sdW W k 0 + sdW W k 1 + sdW W k 2 + sdW W k 3 = _
  rw [e0, e1, e2, e3, Int32.zero_add]
theorem r4_sum {W : Nat → Int32} {k : Nat} : sm (r4W W k) 4 = rR W k + rL W k + rD W k + rU W k := by
  have e0 : r4W W k 0 = rR W k := by
    unfold r4W bsM rR
    by_cases c : k % 12 < 11 <;> simp [c]
  have e1 : r4W W k 1 = rL W k := by
    unfold r4W bsM rL
    by_cases c : 0 < k % 12 <;> simp [c]
  have e2 : r4W W k 2 = rD W k := by
    unfold r4W bsM rD
    by_cases c : k < 132 <;> simp [c]
  have e3 : r4W W k 3 = rU W k := by
    unfold r4W bsM rU
    by_cases c : 12 ≤ k <;> simp [c]
  show 0 + r4W W k 0 + r4W W k 1 + r4W W k 2 + r4W W k 3 = _
  rw [e0, e1, e2, e3, Int32.zero_add]
theorem r_dug {W : Nat → Int32} {k : Nat} (h : W (480 + k) = 1) : rR W k = 0 ∧ rL W k = 0 ∧ rD W k = 0 ∧ rU W k = 0 := by
  unfold rR rL rD rU
  rw [rm_dug h]
  simp
theorem n_dug {W : Nat → Int32} {q k : Nat} (hO : OkW W q) (hk : k < 144) (h : W (480 + k) = 1) : nR W k = 0 ∧ nL W k = 0 ∧ nD W k = 0 ∧ nU W k = 0 := by
  unfold nR nL nD nU
  refine ⟨?_, ?_, ?_, ?_⟩
  · split
    · exact ex_dug2 hO (by omega) h
    · rfl
  · split
    · exact ex_dug2 hO (by omega) h
    · rfl
  · split
    · exact ex_dug2 hO (by omega) h
    · rfl
  · split
    · exact ex_dug2 hO (by omega) h
    · rfl
/-- heat, as the class adds it up -/
theorem heat_sum {W : Nat → Int32} {q k : Nat} (hO : OkW W q) (hk : k < 144) : sm (fun y => sm (fun x => dgH W (12 * y + x) k) 12) 12 + sm (fun i => rim4 W i k) 12 + sm (fun y => sm (fun x => if k = 12 * y + x then scS W k else 0) 12) 12 = h1W W k := by
  have e1 : sm (fun y => sm (fun x => dgH W (12 * y + x) k) 12) 12 = (nR W k + nL W k) + (nD W k + nU W k) := (sm_row (g := fun n => dgH W n k) (n := 12)).symm.trans (edge_sum hk)
  have e2 : sm (fun y => sm (fun x => if k = 12 * y + x then scS W k else 0) 12) 12 = scS W k := by
    refine (sm_row (g := fun n => if k = n then scS W k else 0) (n := 12)).symm.trans ?_
    exact (sm_one (k := k) (by omega) (fun i _ hi => if_neg (fun e => hi e.symm))).trans (if_pos rfl)
  rw [e1, rim_sum hk, e2]
  unfold h1W scS
  rcases ok_dug hO k hk with d | d
  · rw [if_neg (by rw [d]; decide), if_neg (by rw [d]; decide), side_sum]
    grind
  · have a := r_dug d
    have b := n_dug hO hk d
    rw [if_pos d, if_pos d, a.1, a.2.1, a.2.2.1, a.2.2.2, b.1, b.2.1, b.2.2.1, b.2.2.2]
    rfl
theorem rim_all {W : Nat → Int32} {q : Nat} (hO : OkW W q) : sm (fun i => rimS W i 2) 12 = sm (rcW W) 144 := by
  have e0 : sm (rcW W) 144 = sm (fun k => rR W k + rL W k + rD W k + rU W k) 144 := by
    refine sm_congr (fun k hk => ?_)
    unfold rcW
    rcases ok_dug hO k hk with d | d
    · rw [if_neg (by rw [d]; decide), r4_sum]
    · have a := r_dug d
      rw [if_pos d, a.1, a.2.1, a.2.2.1, a.2.2.2]
      rfl
  have f1 : sm (rR W) 144 = sm (fun y => rmW W (12 * y + 11)) 12 := by
    refine (sm_row (g := rR W) (n := 12)).trans (sm_congr (fun y _ => ?_))
    refine (sm_one (k := 11) (by decide) (fun i hi h => ?_)).trans ?_
    · unfold rR
      rw [if_pos (by omega)]
    · unfold rR
      rw [if_neg (by omega)]
  have f2 : sm (rL W) 144 = sm (fun y => rmW W (12 * y)) 12 := by
    refine (sm_row (g := rL W) (n := 12)).trans (sm_congr (fun y _ => ?_))
    refine (sm_one (k := 0) (by decide) (fun i hi h => ?_)).trans ?_
    · unfold rL
      rw [if_pos (by omega)]
    · unfold rL
      rw [if_neg (by omega)]
      rfl
  have f3 : sm (rD W) 144 = sm (fun i => rmW W (132 + i)) 12 := by
    refine (sm_split (g := rD W) (n := 132) (k := 12)).trans ?_
    rw [sm_nil (g := rD W) (fun i hi => by unfold rD; rw [if_pos hi]), Int32.zero_add]
    exact sm_congr (fun i _ => by unfold rD; rw [if_neg (by omega)])
  have f4 : sm (rU W) 144 = sm (rmW W) 12 := by
    refine (sm_split (g := rU W) (n := 12) (k := 132)).trans ?_
    rw [sm_nil (g := fun i => rU W (12 + i)) (fun i hi => by unfold rU; rw [if_pos (by omega)]), Int32.add_zero]
    exact sm_congr (fun i _ => by unfold rU; rw [if_neg (by omega)])
  have e1 : sm (fun i => rimS W i 2) 12 = sm (fun i => rmW W i + rmW W (132 + i) + rmW W (12 * i) + rmW W (12 * i + 11)) 12 := sm_congr (fun i _ => by unfold rimS; rw [if_pos rfl])
  rw [e0, e1, sm_add, sm_add, sm_add, sm_add, sm_add, sm_add, f1, f2, f3, f4]
  grind
theorem rim_oth {W : Nat → Int32} {j : Nat} (h : j ≠ 2) : sm (fun i => rimS W i j) 12 = 0 := sm_nil (fun i _ => by unfold rimS; rw [if_neg h])
theorem strm_all {W : Nat → Int32} : sm (fun y => sm (fun x => if 3 = 3 then scS W (12 * y + x) else 0) 12) 12 = sm (scS W) 144 := (sm_row (g := scS W) (n := 12)).symm
theorem str_oth {W : Nat → Int32} {j : Nat} (h : j ≠ 3) : sm (fun y => sm (fun x => if j = 3 then scS W (12 * y + x) else 0) 12) 12 = 0 := sm_nil (fun y _ => sm_nil (fun x _ => if_neg h))
theorem ht_dug {W : Nat → Int32} {q c : Nat} (hO : OkW W q) (hd : W (480 + c) = 1) : htW W c = 0 := by
  have t0 : sm (tsW W c) (nPW W) = 0 := sm_nil (fun p hp => by
    unfold tsW
    by_cases g : pcN W p = c
    · have w0 : wnN W p = 0 := by
        unfold wnN
        rw [if_neg (fun k => by rw [g, hd] at k; exact absurd k.2.1 (by decide))]
      have k0 : tkN W p = 0 := Nat.le_zero.mp (Nat.le_trans tk_wn (Nat.le_of_eq w0))
      rw [if_pos g, k0]
      decide
    · rw [if_neg g])
  unfold htW h1W
  rw [if_pos hd, t0]
  rfl
theorem passC_ok {z : Hp} {s q : Nat} {W : Nat → Int32} (hC : LayC z) (hS : LayS z s) (hR : RelS z s W) (hO : OkW W q) (hs : s + 32 ≤ 70 ∨ 115 ≤ s) :
    ∃ y, m_X9_pass 70 s z = some ((), y) ∧ Fi (fun a => (s ≤ a ∧ a < s + 32) ∨ (71 ≤ a ∧ a ≤ 73)) z y ∧ RelS y s (passW W) := by
  have hG := hR.g
  have hnp := np_le hO
  obtain ⟨z1, hz1⟩ : ∃ y, y = wI z 71 (fun i => if i < 144 then ldW W i else zI z 71 i) := ⟨_, rfl⟩
  have r1 : m_X9_lookUpLeads 70 s z = some ((), z1) := by rw [hz1]; exact leadsC_ok hC hS hG hO hs
  have F1 : Fi (fun a => a = 71) z z1 := by rw [hz1]; exact Fi.w rfl
  have H1 : Hot z1 s W := ⟨hC.fi F1, hS.fi F1, hG.of (fun a ha => F1.2.2.2.2 a (by unfold Gc at ha; omega)), fun c hc => by rw [hz1, zI_eq, if_pos hc]⟩
  obtain ⟨z2, hz2⟩ : ∃ y, y = wI z1 72 (fun i => if i < 144 then 0 else zI z1 72 i) := ⟨_, rfl⟩
  have r2 : m_J7_fill_53178 72 0 z1 = some ((), z2) := by rw [hz2]; exact fill_ok 0 (ck_72 H1.1) (by decide)
  have F2 : Fi (fun a => a = 72) z1 z2 := by rw [hz2]; exact Fi.w rfl
  have H2 : Hot z2 s W := H1.fi F2 (fun a ha => ⟨by omega, fun g => by unfold Gc at g; omega⟩)
  obtain ⟨z3, hz3⟩ : ∃ y, y = wI z2 72 (fun k => zI z2 72 k + sm (fun y => sm (fun x => dgH W (12 * y + x) k) 12) 12) := ⟨_, rfl⟩
  have r3 : m_X9_leadBetweenCells 70 s z2 = some ((), z3) := by rw [hz3]; exact between_ok H2 hO hs
  have F3 : Fi (fun a => a = 72) z2 z3 := by rw [hz3]; exact Fi.w rfl
  have H3 : Hot z3 s W := H2.fi F3 (fun a ha => ⟨by omega, fun g => by unfold Gc at g; omega⟩)
  obtain ⟨z4, r4, t4⟩ := rimC_all H3 hs
  have H4 := t4.hot H3 hs
  obtain ⟨z5, r5, t5⟩ := streams_all m_X9_pass_B55 H4 hO hs
  have H5 := t5.hot H4 hs
  obtain ⟨z6, r6, F6, g6⟩ := wantsC_ok m_X9_takeByPipes_B41 H5.1 H5.2.1 H5.2.2.1 hO hs
  have C6 := H5.1.fi F6
  have S6 := H5.2.1.fi F6
  have G6 : RelG z6 s W := H5.2.2.1.of (fun a ha => F6.2.2.2.2 a (by unfold Gc at ha; omega))
  obtain ⟨z7, r7, F7, h7, p7, s7⟩ := takesC_ok C6 S6 G6 hO hs g6
  have C7 := C6.fi F7
  have S7 := S6.fi F7
  have G7 : RelG z7 s W := G6.of (fun a ha => F7.2.2.2.2 a (by unfold Gc at ha; omega))
  have hh : ∀ c, c < 144 → zI z7 72 c = htW W c := fun c hc => by
    rw [h7 c hc, F6.2.2.2.2 72 (by omega), t5.2.1, t4.2.1, hz3, zI_eq, hz2, zI_eq, if_pos hc, Int32.zero_add, heat_sum hO hc]
    rfl
  obtain ⟨z8, r8, F8, w8, i8⟩ := doesC_ok m_X9_pass_B119 C7 S7 G7 hO hs hh (fun c _ hd => ht_dug hO hd)
  have S8 := S7.fi F8
  obtain ⟨z9, hz9⟩ : ∃ y, y = wI z8 s (ups (zI z8 s) 14 (zI z8 s 14 + 1)) := ⟨_, rfl⟩
  have F48 : Fi (fun a => (s < a ∧ a < s + 32) ∨ (71 ≤ a ∧ a ≤ 73)) z z8 := (((((((F1.mono (fun a h => by omega)).trans (F2.mono (fun a h => by omega))).trans (F3.mono (fun a h => by omega))).trans (t4.1.mono (fun a h => by omega))).trans (t5.1.mono (fun a h => by omega))).trans (F6.mono (fun a h => by omega))).trans (F7.mono (fun a h => by omega))).trans (F8.mono (fun a h => by omega))
  refine ⟨z9, ?_, ?_, ?_⟩
  · unfold m_X9_pass
    rw [isC_eq (by rw [ck_70 hC]), r1, bnd_some, gR_eq (by rw [ck_70 H1.1]) (cr_70_1 H1.1), r2, bnd_some, isC_eq (by rw [ck_70 H2.1]), r3, bnd_some, isC_eq (by rw [ck_70 H3.1]), r4, bnd_some, r5]
    unfold m_X9_pass_B55 m_X9_takeByPipes
    rw [isC_eq (by rw [ck_70 H5.1]), r6]
    unfold m_X9_takeByPipes_B41
    rw [r7, bnd_some, r8]
    unfold m_X9_pass_B119
    rw [gI_eq (by rw [sk_0 S8]), pI_eq (by rw [sk_0 S8]), ← hz9]
  · rw [hz9]
    exact (F48.mono (fun a h => by omega)).trans (Fi.w (by omega))
  · have hz : ∀ a, s ≤ a → a < s + 32 → (a ≠ s ∧ a ≠ s + 13 ∧ a ≠ s + 14 ∧ a ≠ s + 27 ∧ a ≠ s + 28 ∧ a ≠ s + 31) → zI z9 a = zI z a := fun a a1 a2 a3 => by
      rw [hz9, zI_ne (by omega), F8.2.2.2.2 a (by omega), F7.2.2.2.2 a (by omega), F6.2.2.2.2 a (by omega), t5.1.2.2.2.2 a (by omega), t4.1.2.2.2.2 a (by omega), F3.2.2.2.2 a (by omega), F2.2.2.2.2 a (by omega), F1.2.2.2.2 a (by omega)]
    have z8s : zI z8 s = zI z s := by
      rw [F8.2.2.2.2 s (by omega), F7.2.2.2.2 s (by omega), F6.2.2.2.2 s (by omega), t5.1.2.2.2.2 s (by omega), t4.1.2.2.2.2 s (by omega), F3.2.2.2.2 s (by omega), F2.2.2.2.2 s (by omega), F1.2.2.2.2 s (by omega)]
    have hf : ∀ k, k ≠ 14 → zI z9 s k = zI z s k := fun k hk => by rw [hz9, zI_eq, up_ne hk, z8s]
    have e : ∀ i, i = 0 ∨ (2 ≤ i ∧ i < 14) ∨ (17 ≤ i ∧ i < 192) ∨ (480 ≤ i ∧ i < 624) ∨ 732 ≤ i → passW W i = W i := fun i hi => pw_id (by omega)
    have n2 : nPW (passW W) = nPW W := nPW_of (pw_id (by omega))
    have c14 : zI z6 (s + 14) = zI z (s + 14) := by
      rw [F6.2.2.2.2 _ (by omega), t5.1.2.2.2.2 _ (by omega), t4.1.2.2.2.2 _ (by omega), F3.2.2.2.2 _ (by omega), F2.2.2.2.2 _ (by omega), F1.2.2.2.2 _ (by omega)]
    have c31 : ∀ j, zI z6 (s + 31) j = zI z (s + 31) j + sm (fun i => rimS W i j) 12 + sm (fun y => sm (fun x => if j = 3 then scS W (12 * y + x) else 0) 12) 12 := fun j => by
      rw [F6.2.2.2.2 _ (by omega), t5.2.2, t4.2.2, F3.2.2.2.2 _ (by omega), F2.2.2.2.2 _ (by omega), F1.2.2.2.2 _ (by omega)]
    have d31 : zI z9 (s + 31) = ups (zI z6 (s + 31)) 1 (zI z6 (s + 31) 1 + sm (fun p => nI (tkN W p)) (nPW W)) := by
      rw [hz9, zI_ne (by omega), F8.2.2.2.2 _ (by omega), s7]
    exact ⟨rs_lead_of (rs_lead hR) (hz (s + 2) (by omega) (by omega) (by omega)) (fun i hi => e i (by omega)),
      rs_ilead_of (rs_ilead hR) (hz (s + 3) (by omega) (by omega) (by omega)) (fun i hi => e i (by omega)),
      rs_latent_of (rs_latent hR) (hz (s + 4) (by omega) (by omega) (by omega)) (fun i hi => e i (by omega)),
      rs_mark_of (rs_mark hR) (hz (s + 5) (by omega) (by omega) (by omega)) (fun i hi => e i (by omega)),
      rs_ground_of (rs_ground hR) (hz (s + 6) (by omega) (by omega) (by omega)) (fun i hi => e i (by omega)),
      rs_speed_of (rs_speed hR) (hz (s + 7) (by omega) (by omega) (by omega)) (fun i hi => e i (by omega)),
      rs_far_of (rs_far hR) (congrFun (hz (s + 1) (by omega) (by omega) (by omega)) 6) (fun i hi => e i (by omega)),
      rs_pn_of (rs_pn hR) (congrFun (hz (s + 8) (by omega) (by omega) (by omega)) 6) (fun i hi => e i (by omega)),
      fun p hp => by rw [n2] at hp; rw [pw_p0, hz (s + 9) (by omega) (by omega) (by omega)]; exact rs_p0 hR p hp,
      fun p hp => by rw [n2] at hp; rw [pw_p (by omega), hz (s + 10) (by omega) (by omega) (by omega)]; exact rs_p1 hR p hp,
      fun p hp => by rw [n2] at hp; rw [pw_p (by omega), hz (s + 11) (by omega) (by omega) (by omega)]; exact rs_p2 hR p hp,
      fun p hp => by rw [n2] at hp; rw [pw_p (by omega), hz (s + 12) (by omega) (by omega) (by omega)]; exact rs_p3 hR p hp,
      fun p hp => by rw [n2] at hp; rw [pw_p4 hp, hz9, zI_ne (by omega), F8.2.2.2.2 _ (by omega)]; exact (p7 p hp).1,
      fun p hp => by rw [n2] at hp; rw [pw_p5 hp, hz9, zI_ne (by omega), F8.2.2.2.2 _ (by omega), (p7 p hp).2, c14, rs_p5 hR p hp],
      rs_hn_of (rs_hn hR) (congrFun (hz (s + 15) (by omega) (by omega) (by omega)) 3) (fun i hi => e i (by omega)),
      rs_h0_of (rs_h0 hR) (hz (s + 16) (by omega) (by omega) (by omega)) (nh_le hO) (fun i hi => e i (by omega)),
      rs_h1_of (rs_h1 hR) (hz (s + 17) (by omega) (by omega) (by omega)) (nh_le hO) (fun i hi => e i (by omega)),
      rs_h2_of (rs_h2 hR) (hz (s + 18) (by omega) (by omega) (by omega)) (nh_le hO) (fun i hi => e i (by omega)),
      rs_rn_of (rs_rn hR) (congrFun (hz (s + 19) (by omega) (by omega) (by omega)) 4) (fun i hi => e i (by omega)),
      rs_rc_of (rs_rc hR) (hz (s + 20) (by omega) (by omega) (by omega)) (nr_lt hO) (fun i hi => e i (by omega)),
      rs_rw_of (rs_rw hR) (hz (s + 21) (by omega) (by omega) (by omega)) (nr_lt hO) (nc_lt hO) (fun i hi => e i (by omega)),
      rs_rs_of (rs_rs hR) (hz (s + 22) (by omega) (by omega) (by omega)) (hz (s + 23) (by omega) (by omega) (by omega)) (nr_lt hO) (nc_lt hO) (fun i hi => e i (by omega)),
      rs_gc_of (rs_gc hR) (hz (s + 25) (by omega) (by omega) (by omega)) (fun i hi => e i (by omega)),
      rs_gr_of (rs_gr hR) (hz (s + 26) (by omega) (by omega) (by omega)) (fun i hi => e i (by omega)),
      fun c hc => by rw [hz9, zI_ne (by omega), w8 c hc, pw_warm hc],
      fun c hc => by rw [hz9, zI_ne (by omega), i8 c hc, pw_ice hc],
      rs_dug_of (rs_dug hR) (hz (s + 29) (by omega) (by omega) (by omega)) (fun i hi => e i (by omega)),
      rs_shaft_of (rs_shaft hR) (hz (s + 30) (by omega) (by omega) (by omega)) (fun i hi => e i (by omega)),
      fun k h1 h6 => by
        have k5 : k = 1 ∨ k = 2 ∨ k = 3 ∨ k = 4 ∨ k = 5 := by omega
        have hsu := rs_sums hR k h1 h6
        rw [d31]
        rcases k5 with rfl | rfl | rfl | rfl | rfl
        · rw [up_eq, c31, rim_oth (by decide), str_oth (by decide), hsu, Int32.add_zero, Int32.add_zero]
          rfl
        · rw [up_ne (by decide), c31, rim_all hO, str_oth (by decide), hsu, Int32.add_zero]
          rfl
        · rw [up_ne (by decide), c31, rim_oth (by decide), strm_all, hsu, Int32.add_zero]
          rfl
        · rw [up_ne (by decide), c31, rim_oth (by decide), str_oth (by decide), hsu, Int32.add_zero, Int32.add_zero]
          exact (pw_id (by omega)).symm
        · rw [up_ne (by decide), c31, rim_oth (by decide), str_oth (by decide), hsu, Int32.add_zero, Int32.add_zero]
          exact (pw_id (by omega)).symm,
      rs_sc_of (rs_sc hR) (hf 10 (by omega)) (fun i hi => e i (by omega)),
      rs_dc_of (rs_dc hR) (hf 11 (by omega)) (fun i hi => e i (by omega)),
      rs_cold_of (rs_cold hR) (hf 12 (by omega)) (fun i hi => e i (by omega)),
      rs_lines_of (rs_lines hR) (hf 13 (by omega)) (fun i hi => e i (by omega)),
      by rw [hz9, zI_eq, up_eq, z8s, rs_ticks hR]; rfl,
      rs_fl_of (rs_fl hR) (hf 15 (by omega)) (fun i hi => e i (by omega)),
      rs_fls_of (rs_fls hR) (hf 16 (by omega)) (fun i hi => e i (by omega))⟩

