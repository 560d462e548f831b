/-! ===== worlds that differ in houses and floods alone; the saved world ===== -/
def AgH (V W : Nat → Int32) : Prop := ∀ i, i ≠ 12 ∧ i ≠ 13 ∧ ¬ (732 ≤ i ∧ i < 750) → V i = W i
theorem AgH.rfl' {W : Nat → Int32} : AgH W W := fun _ _ => rfl
theorem AgH.trans {U V W : Nat → Int32} (h : AgH U V) (g : AgH V W) : AgH U W := fun i hi => (h i hi).trans (g i hi)
theorem ag_kd {V W : Nat → Int32} (h : AgH V W) {c : Nat} (hc : c < 144) : kdW V c = kdW W c := kdW_of (h _ (by omega))
theorem ag_np {V W : Nat → Int32} (h : AgH V W) : nPW V = nPW W := nPW_of (h 2 (by omega))
theorem ag_fr {V W : Nat → Int32} {q : Nat} (h : AgH V W) (hO : OkW W q) {c : Nat} (hc : c < 144) : frW V c = frW W c := frW_of hO (fun i hi => h i (by omega)) hc
theorem ag_way {V W : Nat → Int32} {q : Nat} (h : AgH V W) (hO : OkW W q) : wayV V = wayV W := wayV_of hO (fun i hi => h i (by omega))
theorem ag_ld {V W : Nat → Int32} {q : Nat} (h : AgH V W) (hO : OkW W q) {c : Nat} (hc : c < 144) : ldW V c = ldW W c := by
  have hk := kd_lt hO hc
  unfold ldW
  rw [ag_fr h hO hc, ag_kd h hc, h (480 + c) (by omega), h (21 + 4 * kdW W c) (by omega), h (20 + 4 * kdW W c) (by omega)]
theorem ag_ex {V W : Nat → Int32} {q : Nat} (h : AgH V W) (hO : OkW W q) {c d : Nat} (hc : c < 144) (hd : d < 144) : exW V c d = exW W c d := by
  unfold exW
  rw [ag_ld h hO hc, ag_ld h hO hd, h (192 + c) (by omega), h (192 + d) (by omega)]
theorem ag_rm {V W : Nat → Int32} {q : Nat} (h : AgH V W) (hO : OkW W q) {c : Nat} (hc : c < 144) : rmW V c = rmW W c := by
  unfold rmW
  rw [ag_ld h hO hc, h (192 + c) (by omega), h 5 (by omega)]
theorem ag_sd {V W : Nat → Int32} {q : Nat} (h : AgH V W) (hO : OkW W q) {c w : Nat} (hc : c < 144) (hw : w < 4) : sdW V c w = sdW W c w := by
  unfold sdW
  cases hb : bsM c w with
  | none => exact ag_rm h hO hc
  | some d => exact ag_ex h hO hc (bsM_nb hc hw hb).2
theorem ag_r4 {V W : Nat → Int32} {q : Nat} (h : AgH V W) (hO : OkW W q) {c w : Nat} (hc : c < 144) : r4W V c w = r4W W c w := by
  unfold r4W
  cases bsM c w with
  | none => exact ag_rm h hO hc
  | some d => rfl
theorem ag_st {V W : Nat → Int32} {q : Nat} (h : AgH V W) (hO : OkW W q) {c : Nat} (hc : c < 144) : stW V c = stW W c := by
  unfold stW
  rw [ag_fr h hO hc, ag_fr h hO (show c - 1 < 144 by omega), h (36 + c / 12) (by omega), h 5 (by omega), h (192 + c) (by omega), h (480 + (c - 1)) (by omega), h (192 + (c - 1)) (by omega)]
theorem ag_h1 {V W : Nat → Int32} {q : Nat} (h : AgH V W) (hO : OkW W q) {c : Nat} (hc : c < 144) : h1W V c = h1W W c := by
  unfold h1W
  rw [h (480 + c) (by omega), ag_st h hO hc, sm_congr (fun w hw => ag_sd h hO hc hw)]
theorem ag_rc {V W : Nat → Int32} {q : Nat} (h : AgH V W) (hO : OkW W q) {c : Nat} (hc : c < 144) : rcW V c = rcW W c := by
  unfold rcW
  rw [h (480 + c) (by omega), sm_congr (fun w hw => ag_r4 h hO hc)]
theorem ag_sc {V W : Nat → Int32} {q : Nat} (h : AgH V W) (hO : OkW W q) {c : Nat} (hc : c < 144) : scS V c = scS W c := by
  unfold scS
  rw [h (480 + c) (by omega), ag_st h hO hc]
theorem ag_pc {V W : Nat → Int32} {q : Nat} (h : AgH V W) (hO : OkW W q) {p : Nat} (hp : p < nPW W) : pcN V p = pcN W p := by
  have := np_le hO
  unfold pcN
  rw [h (624 + 6 * p) (by omega)]
theorem ag_wn {V W : Nat → Int32} {q : Nat} (h : AgH V W) (hO : OkW W q) {p : Nat} (hp : p < nPW W) : wnN V p = wnN W p := by
  have := np_le hO
  have hc := (pc_eq hO hp).2
  unfold wnN
  rw [ag_pc h hO hp, h (627 + 6 * p) (by omega), h (480 + pcN W p) (by omega), h (625 + 6 * p) (by omega), h (192 + pcN W p) (by omega), h (626 + 6 * p) (by omega)]
theorem ag_tk {V W : Nat → Int32} {q : Nat} (h : AgH V W) (hO : OkW W q) {p : Nat} (hp : p < nPW W) : tkN V p = tkN W p := by
  have e : sN (wnN V) (nPW W) = sN (wnN W) (nPW W) := sN_congr (fun i hi => ag_wn h hO hi)
  unfold tkN
  rw [ag_np h, e, h 6 (by omega), ag_wn h hO hp]
theorem ag_ht {V W : Nat → Int32} {q : Nat} (h : AgH V W) (hO : OkW W q) {c : Nat} (hc : c < 144) : htW V c = htW W c := by
  have e : sm (tsW V c) (nPW W) = sm (tsW W c) (nPW W) := sm_congr (fun p hp => by unfold tsW; rw [ag_pc h hO hp, ag_tk h hO hp])
  unfold htW
  rw [ag_np h, e, ag_h1 h hO hc]
theorem ag_ic {V W : Nat → Int32} {q : Nat} (h : AgH V W) (hO : OkW W q) {c : Nat} (hc : c < 144) : icW V c = icW W c := by
  have hk := kd_lt hO hc
  unfold icW
  rw [ag_ht h hO hc, ag_kd h hc, h (480 + c) (by omega), h (336 + c) (by omega), h (192 + c) (by omega), h (23 + 4 * kdW W c) (by omega), h (22 + 4 * kdW W c) (by omega)]
theorem ag_wm {V W : Nat → Int32} {q : Nat} (h : AgH V W) (hO : OkW W q) {c : Nat} (hc : c < 144) : wmW V c = wmW W c := by
  have hk := kd_lt hO hc
  unfold wmW
  rw [ag_ht h hO hc, ag_kd h hc, h (480 + c) (by omega), h (336 + c) (by omega), h (192 + c) (by omega), h (23 + 4 * kdW W c) (by omega), h (22 + 4 * kdW W c) (by omega)]
theorem ag_pass {V W : Nat → Int32} {q : Nat} (h : AgH V W) (hO : OkW W q) : AgH (passW V) (passW W) := by
  intro i hi
  unfold passW
  rw [ag_np h, h 1 (by omega), h 14 (by omega), h 15 (by omega), h 16 (by omega), h i hi, sm_congr (g := fun p => nI (tkN V p)) (h := fun p => nI (tkN W p)) (fun p hp => by rw [ag_tk h hO hp]), sm_congr (fun c hc => ag_rc h hO hc), sm_congr (fun c hc => ag_sc h hO hc)]
  by_cases c1 : 192 ≤ i ∧ i < 336
  · rw [ag_wm h hO (show i - 192 < 144 by omega), if_pos c1, if_pos c1]
  · by_cases c2 : 336 ≤ i ∧ i < 480
    · rw [ag_ic h hO (show i - 336 < 144 by omega), if_neg c1, if_neg c1, if_pos c2, if_pos c2]
    · rw [if_neg c1, if_neg c1, if_neg c2, if_neg c2]
      by_cases c3 : 624 ≤ i ∧ i < 624 + 6 * nPW W
      · rw [ag_tk h hO (show (i - 624) / 6 < nPW W by omega)]
      · have n4 : ¬ (624 ≤ i ∧ i < 624 + 6 * nPW W ∧ (i - 624) % 6 = 4) := fun g => c3 ⟨g.1, g.2.1⟩
        have n5 : ¬ (624 ≤ i ∧ i < 624 + 6 * nPW W ∧ (i - 624) % 6 = 5) := fun g => c3 ⟨g.1, g.2.1⟩
        rw [if_neg n4, if_neg n4, if_neg n5, if_neg n5]
theorem ag_tick {W : Nat → Int32} {q : Nat} (hO : OkW W q) : AgH (passW W) (tickW W) := fun i hi => by
  have := nh_le (okpass hO)
  show _ = flW (crackW (passW W)) i
  rw [fl_id ⟨hi.1, hi.2.1⟩]
  exact (ck_id (by omega)).symm
/-- n ticks of which only the heat counts -/
def psI (W : Nat → Int32) : Nat → Nat → Int32
  | 0 => W
  | n + 1 => passW (psI W n)
theorem okpsI {W : Nat → Int32} {q : Nat} (hO : OkW W q) : ∀ n, OkW (psI W n) q
  | 0 => hO
  | n + 1 => okpass (okpsI hO n)
theorem ag_I {W : Nat → Int32} {q : Nat} (hO : OkW W q) : ∀ n, AgH (psI W n) (tkI W n)
  | 0 => AgH.rfl'
  | n + 1 => (ag_pass (ag_I hO n) (oktkI hO n)).trans (ag_tick (oktkI hO n))
theorem way_I {W : Nat → Int32} {q : Nat} (hO : OkW W q) (n : Nat) : wayV (psI W n) = wayV (tkI W n) := ag_way (ag_I hO n) (oktkI hO n)
theorem saves_ok {z : Hp} (hM : LayM z) : m_X12_saves 92 z = some ((), wI z 94 (fun i => if i < 810 then zI z 93 i else zI z 94 i)) := by
  unfold m_X12_saves
  refine loopQ (X := Int32 × Hp) (fun f x => m_X12_saves_L2 f 92 x.1 x.2) (fun t => t = some ((), wI z 94 (fun i => if i < 810 then zI z 93 i else zI z 94 i))) (fun n x => x.1 = nI n ∧ x.2 = wI z 94 (fun i => if i < n then zI z 93 i else zI z 94 i)) 810 ?hs ?he 0 FU (0, z) (by decide) (by decide) ⟨rfl, ?h0⟩
  case h0 => simp [wI_self]
  case hs =>
    rintro n f ⟨v, y⟩ hn ⟨h1, h2⟩
    dsimp only at h1 h2
    subst h1 h2
    refine Or.inl ⟨(nI (n + 1), wI z 94 (fun i => if i < n + 1 then zI z 93 i else zI z 94 i)), ⟨rfl, rfl⟩, ?_⟩
    dsimp only
    rw [m_X12_saves_L2]
    simp (disch := omega) [gI, gR, pI, pR, aI, sI, aL, sL, aO, aR, sR, aN, onul, bnd, isC, cpI, cpL, sLen, sCh, nwC, zK_wI, zR_wI, zL_wI, zN_wI, zI_wI, zK_wL, zR_wL, zI_wL, zN_wL, zL_wL, zK_wR, zI_wR, zL_wR, zN_wR, zR_wR, ups_eq, inb_nI, nI_clamp, wI_wI, nI_add, pk_mul, add_c, c_add, c_mul, lt_c, le_c, eq_c, gt_c, ge_c, inb_c, clamp_c, ladd, mk_92, mk_93, mk_94, mk_95, mk_96, mk_97, mk_98, mk_99, mk_100, mk_101, mk_102, mk_103, mk_104, mk_105, mk_106, mk_107, mk_108, mk_109, mk_110, mk_111, mk_112, mk_113, mk_114, mr_92_1, mr_92_2, mr_92_3, mr_92_4, mr_92_5, mr_92_7, mr_92_15, mr_92_16, mr_92_17, mr_92_24, mr_92_25, mr_92_26, mr_92_27, mr_92_28, mr_92_29, mr_92_30, mr_92_32, mr_92_33, mr_92_36, mr_92_37, mr_92_38, mr_92_39, hM, hn]
    refine congrArg (fun q => m_X12_saves_L2 f 92 (nI (n + 1)) (wI z 94 q)) (funext fun i => ?_)
    simp only [ups_eq]
    grind
  case he =>
    rintro f ⟨v, y⟩ ⟨h1, h2⟩
    dsimp only at h1 h2 ⊢
    subst h1 h2
    rw [m_X12_saves_L2, if_neg (nlt_lit (Nat.le_refl _) (by decide))]
theorem putsBack_ok {z : Hp} (hM : LayM z) : m_X12_putsBack 92 z = some ((), wI z 93 (fun i => if i < 810 then zI z 94 i else zI z 93 i)) := by
  unfold m_X12_putsBack
  refine loopQ (X := Int32 × Hp) (fun f x => m_X12_putsBack_L2 f 92 x.1 x.2) (fun t => t = some ((), wI z 93 (fun i => if i < 810 then zI z 94 i else zI z 93 i))) (fun n x => x.1 = nI n ∧ x.2 = wI z 93 (fun i => if i < n then zI z 94 i else zI z 93 i)) 810 ?hs ?he 0 FU (0, z) (by decide) (by decide) ⟨rfl, ?h0⟩
  case h0 => simp [wI_self]
  case hs =>
    rintro n f ⟨v, y⟩ hn ⟨h1, h2⟩
    dsimp only at h1 h2
    subst h1 h2
    refine Or.inl ⟨(nI (n + 1), wI z 93 (fun i => if i < n + 1 then zI z 94 i else zI z 93 i)), ⟨rfl, rfl⟩, ?_⟩
    dsimp only
    rw [m_X12_putsBack_L2]
    simp (disch := omega) [gI, gR, pI, pR, aI, sI, aL, sL, aO, aR, sR, aN, onul, bnd, isC, cpI, cpL, sLen, sCh, nwC, zK_wI, zR_wI, zL_wI, zN_wI, zI_wI, zK_wL, zR_wL, zI_wL, zN_wL, zL_wL, zK_wR, zI_wR, zL_wR, zN_wR, zR_wR, ups_eq, inb_nI, nI_clamp, wI_wI, nI_add, pk_mul, add_c, c_add, c_mul, lt_c, le_c, eq_c, gt_c, ge_c, inb_c, clamp_c, ladd, mk_92, mk_93, mk_94, mk_95, mk_96, mk_97, mk_98, mk_99, mk_100, mk_101, mk_102, mk_103, mk_104, mk_105, mk_106, mk_107, mk_108, mk_109, mk_110, mk_111, mk_112, mk_113, mk_114, mr_92_1, mr_92_2, mr_92_3, mr_92_4, mr_92_5, mr_92_7, mr_92_15, mr_92_16, mr_92_17, mr_92_24, mr_92_25, mr_92_26, mr_92_27, mr_92_28, mr_92_29, mr_92_30, mr_92_32, mr_92_33, mr_92_36, mr_92_37, mr_92_38, mr_92_39, hM, hn]
    refine congrArg (fun q => m_X12_putsBack_L2 f 92 (nI (n + 1)) (wI z 93 q)) (funext fun i => ?_)
    simp only [ups_eq]
    grind
  case he =>
    rintro f ⟨v, y⟩ ⟨h1, h2⟩
    dsimp only at h1 h2 ⊢
    subst h1 h2
    rw [m_X12_putsBack_L2, if_neg (nlt_lit (Nat.le_refl _) (by decide))]
/-- the draft, the saved world and what counts for nothing have changed -/
theorem In.drf {z y : Hp} {s d : Nat} (h : In z s d) (F : Fi (fun a => (d ≤ a ∧ a < d + 32) ∨ (70 ≤ a ∧ a ≤ 82) ∨ (102 ≤ a ∧ a ≤ 109) ∨ a = 94 ∨ a = 93) z y) (e93 : ∀ i, i < 810 → zI y 93 i = zI z 93 i) : In y s d := by
  have hs := in_lo h
  have hsd := in_sd h
  refine In.re3 h F.2.1 F.2.2.2.1 F.1 F.2.2.1 (fun a ha => F.2.2.2.2 a (by omega)) (by rw [F.2.2.2.2 66 (by omega)]) (fun k _ => by rw [F.2.2.2.2 92 (by omega)]) ?_ ?_ ?_
  · exact ((in_R h).of (fun a h1 h2 => F.2.2.2.2 a (by omega))).cw (in_ok h) e93
  · exact (in_ok h).cw e93
  · rw [e93 1 (by decide)]; exact in_tk h
