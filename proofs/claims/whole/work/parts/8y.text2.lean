/-! ===== text: the class reads ===== -/
theorem txC {z : Hp} {s d n : Nat} {b : Nat → Nat} {e g t : Nat → Int32} (h : In z s d) (hb : BtC z b n) : ∃ y M' fa' co', m_X2_readText 68 d z = some ((), y) ∧ HC (wR z 68 (ups (zR z 68) 2 (some d))) y b n d (its b n 41 ((nx b n 0, (0, -1)), Di e g t)).1 M' fa' co' ∧ ((its b n 41 ((nx b n 0, (0, -1)), Di e g t)).1.2.1 = 0 → DDt d M' (its b n 41 ((nx b n 0, (0, -1)), Di e g t)).2 ∧ M' d 13 = (its b n 41 ((nx b n 0, (0, -1)), Di e g t)).2.1 0) := by
  have lo := in_lo h
  have sd := in_sd h
  have hd : d = 1 ∨ d = 33 := by omega
  obtain ⟨z1, hz1⟩ : ∃ x, x = wR z 68 (ups (zR z 68) 2 (some d)) := ⟨_, rfl⟩
  have R1 : Rf2 z z1 := by
    rw [hz1]
    exact ⟨rfl, fun a _ h68 => by rw [zR_wR, if_neg h68], fun k hk => by rw [zR_wR, if_pos rfl, up_ne hk], fun k hk => by rw [zR_wR, if_neg (by decide)]⟩
  have I1 : zI z1 = zI z := by rw [hz1]; rfl
  have C1 := (in_C h).rf R1
  have S1 : LayS z1 d := (in_D h).rf R1 (by omega)
  have r1 : zR z1 68 2 = some d := by rw [hz1, zR_wR, if_pos rfl, up_eq]
  obtain ⟨v1, ev1, fv1, q1, q2, q3, q4, q5, q6, q7, q8, q9, q10⟩ := forget_ok S1
  have D1' := C1.fi fv1
  obtain ⟨v2, hv2⟩ : ∃ x, x = wI v1 69 (fun i => if i < 4 then 0 else zI v1 69 i) := ⟨_, rfl⟩
  have D2' : LayC v2 := D1'.of (by rw [hv2]; rfl) (by rw [hv2]; rfl)
  obtain ⟨v3, hv3⟩ : ∃ x, x = wI v2 68 (ups (zI v2 68) 3 0) := ⟨_, rfl⟩
  have D3' : LayC v3 := D2'.of (by rw [hv3]; rfl) (by rw [hv3]; rfl)
  obtain ⟨v4, hv4⟩ : ∃ x, x = wI v3 68 (ups (zI v3 68) 4 0) := ⟨_, rfl⟩
  have D4' : LayC v4 := D3'.of (by rw [hv4]; rfl) (by rw [hv4]; rfl)
  obtain ⟨v5, hv5⟩ : ∃ x, x = wI v4 68 (ups (zI v4 68) 6 0) := ⟨_, rfl⟩
  have D5' : LayC v5 := D4'.of (by rw [hv5]; rfl) (by rw [hv5]; rfl)
  obtain ⟨v6, hv6⟩ : ∃ x, x = wI v5 68 (ups (zI v5 68) 7 (-1)) := ⟨_, rfl⟩
  have D6' : LayC v6 := D5'.of (by rw [hv6]; rfl) (by rw [hv6]; rfl)
  obtain ⟨v7, hv7⟩ : ∃ x, x = wI v6 66 (ups (zI v6 66) 2 0) := ⟨_, rfl⟩
  have D7' : LayC v7 := D6'.of (by rw [hv7]; rfl) (by rw [hv7]; rfl)
  have F17 : Fi (fun a => a = 66 ∨ a = 68 ∨ a = 69 ∨ d ≤ a ∧ a < d + 32) z1 v7 := by
    refine (fv1.mono (fun a ha => by omega)).trans ?_
    rw [hv7, hv6, hv5, hv4, hv3, hv2]
    exact (((((Fi.w (by omega)).trans (Fi.w (by omega))).trans (Fi.w (by omega))).trans (Fi.w (by omega))).trans (Fi.w (by omega))).trans (Fi.w (by omega))
  have e68 : zI v7 68 = ups (ups (ups (ups (zI v2 68) 3 0) 4 0) 6 0) 7 (-1) := by rw [hv7, zI_ne (by decide), hv6, zI_eq, hv5, zI_eq, hv4, zI_eq, hv3, zI_eq]
  have e66 : zI v7 66 = ups (zI z 66) 2 0 := by rw [hv7, zI_eq, hv6, zI_ne (by decide), hv5, zI_ne (by decide), hv4, zI_ne (by decide), hv3, zI_ne (by decide), hv2, zI_ne (by decide), fv1.2.2.2.2 66 (by omega), I1]
  have e67 : zI v7 67 = zI z 67 := by rw [F17.2.2.2.2 67 (by omega), I1]
  have ed : ∀ j, j < 32 → zI v7 (d + j) = zI v1 (d + j) := fun j hj => by rw [hv7, zI_ne (by omega), hv6, zI_ne (by omega), hv5, zI_ne (by omega), hv4, zI_ne (by omega), hv3, zI_ne (by omega), hv2, zI_ne (by omega)]
  have e69 : ∀ i, i < 4 → zI v7 69 i = 0 := fun i hi => by rw [hv7, zI_ne (by decide), hv6, zI_ne (by decide), hv5, zI_ne (by decide), hv4, zI_ne (by decide), hv3, zI_ne (by decide), hv2, zI_eq, if_pos hi]
  have b7 : BtC v7 b n := ⟨by rw [e66, up_ne (by decide)]; exact hb.1, hb.2.1, fun i hi => by rw [e67]; exact hb.2.2 i hi⟩
  obtain ⟨w, rw1, Fw, Tw⟩ := advC D7' b7 (Nat.zero_le n) (by rw [e66, up_eq]; rfl)
  have w68 : zI w 68 = zI v7 68 := Fw.1.2.2.2.2 68 (by omega)
  have wd' : ∀ j, j < 32 → zI w (d + j) = zI v1 (d + j) := fun j hj => by rw [Fw.1.2.2.2.2 (d + j) (by omega), ed j hj]
  have P : PC w b n (nx b n 0, (0, -1)) := ⟨D7'.fi Fw.1, b7.fr Fw, Tw, nx_v hb.lt (Nat.zero_le n), by rw [w68, e68, up_ne (by decide), up_eq], by rw [w68, e68, up_eq]⟩
  have hH : HC z1 w b n d (nx b n 0, (0, -1)) (fun a => zI w a) (Di e g t).2.2.2.1 (Di e g t).2.2.2.2 := by
    refine ⟨P, (S1.fi F17).fi Fw.1, by rw [Fw.1.2.2.2.1, F17.2.2.2.1]; exact r1, hd, F17.trans (Fw.1.mono (fun a ha => Or.inl ha)), fun a _ _ => rfl, ?_, ?_⟩
    · rw [w68, e68, up_ne (by decide), up_ne (by decide), up_ne (by decide), up_eq]; rfl
    · rw [w68, e68, up_ne (by decide), up_ne (by decide), up_eq]; rfl
  have hD : DDt d (fun a => zI w a) (Di e g t) := by
    refine Di_D (fun i hi => ?_) (fun c hc => ?_) (fun c hc => ?_) ?_ ?_ ?_ ?_ ?_ ?_ (fun i hi => ?_)
    · rw [wd' 2 (by decide), wd' 3 (by decide), wd' 4 (by decide), wd' 5 (by decide)]; exact q1 i hi
    · rw [wd' 6 (by decide), wd' 30 (by decide)]; exact q2 c hc
    · rw [wd' 7 (by decide)]; exact q3 c hc
    · rw [wd' 1 (by decide)]; exact q4
    · rw [wd' 8 (by decide)]; exact q5
    · rw [wd' 15 (by decide)]; exact q6
    · rw [wd' 19 (by decide)]; exact q7
    · exact (congrFun (wd' 0 (by decide)) 10).trans q8
    · exact (congrFun (wd' 0 (by decide)) 12).trans q9
    · rw [Fw.1.2.2.2.2 69 (by omega)]; exact e69 i hi
  have hl : (fun a => zI w a) d 13 = (Di e g t).1 0 := by
    rw [pl_0 (by decide) e g t]
    exact (congrFun (wd' 0 (by decide)) 13).trans q10
  obtain ⟨y, M', fa', co', r9, h9, k9⟩ := lns_C hH hD hl (pl_0 (by decide) e g t)
  refine ⟨y, M', fa', co', ?_, by rw [← hz1]; exact h9, k9⟩
  unfold m_X2_readText m_X4_rewind
  rw [pR_eq (by rw [ck_68 (in_C h)]), ← hz1, gR_eq (by rw [ck_68 C1]) r1, isC_eq (by rw [sk_0 S1]), ev1, bnd_some, gR_eq (by rw [ck_68 D1']) (cr_68_1 D1'), fill_ok 0 (ck_69 D1') (by decide), bnd_some, ← hv2, pI_eq (by rw [ck_68 D2']), ← hv3, pI_eq (by rw [ck_68 D3']), ← hv4, pI_eq (by rw [ck_68 D4']), ← hv5, pI_eq (by rw [ck_68 D5']), ← hv6, gR_eq (by rw [ck_68 D6']) (cr_68_0 D6'), isC_eq (by rw [ck_66 D6']), pI_eq (by rw [ck_66 D6']), ← hv7, isC_eq (by rw [ck_66 D7']), rw1, bnd_some, bnd_some, r9]
