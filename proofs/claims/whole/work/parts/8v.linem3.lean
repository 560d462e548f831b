/-! ===== text: a line of the model, its routines ===== -/
section
variable {z0 z y : Hp} {b : Nat → Nat} {n : Nat} {s t : Ps} {D E : Dt}
theorem VM.dz (v : VM D) : VM (Dz D) := by
  obtain ⟨⟨m, a1, a2⟩, ⟨k, b1, b2⟩, ⟨r, c1, c2, c3⟩, h⟩ := v
  exact ⟨⟨m, a1, a2⟩, ⟨k, b1, b2⟩, ⟨r, c1, c2, fun q h1 h2 => (show ups D.1 0 (D.1 0 + 1) (750 + 10 * q) = 0 by rw [up_ne (by omega)]; exact c3 q h1 h2)⟩, h⟩
/-- a routine's call and the line's end -/
theorem rt_M (h : HM z0 z b n s (Dz D)) (c : s.2.1 = 0) (v : VM D) (h9 : ¬ lk b s.1 = 9) (hf : lfull (lk b s.1) D = false) :
    ∃ y, (isC 12 z 92 <| bnd (m_X12_takes 92 24 z) fun x18 z17 =>
  if x18 = 0 then (
    isC 12 z17 92 <| bnd (m_X12_takes 92 25 z17) fun x21 z20 =>
    if x21 = 0 then (
      isC 12 z20 92 <| bnd (m_X12_takes 92 26 z20) fun x24 z23 =>
      if x24 = 0 then (
        isC 12 z23 92 <| bnd (m_X12_takes 92 29 z23) fun x27 z26 =>
        if x27 = 0 then (
          isC 12 z26 92 <| bnd (m_X12_takes 92 32 z26) fun x30 z29 =>
          if x30 = 0 then (
            isC 12 z29 92 <| bnd (m_X12_takes 92 27 z29) fun x33 z32 =>
            if x33 = 0 then (
              isC 12 z32 92 <| bnd (m_X12_takes 92 30 z32) fun x36 z35 =>
              if x36 = 0 then (
                isC 12 z35 92 <| bnd (m_X12_takes 92 28 z35) fun x39 z38 =>
                if x39 = 0 then (
                  isC 12 z38 92 <| bnd (m_X12_step 92 z38) fun _ z41 =>
                  gR 12 15 z41 92 fun a43 =>
                  aI 1 z41 a43 3 fun x44 =>
                  gR 12 15 z41 92 fun a45 =>
                  isC 12 z41 92 <| bnd (m_X12_number 92 0 10 z41) fun x47 z46 =>
                  sI 1 z46 a45 (732 + (3 * x44)) x47 fun z49 =>
                  gR 12 15 z49 92 fun a50 =>
                  isC 12 z49 92 <| bnd (m_X12_told 92 47 0 999 z49) fun x52 z51 =>
                  sI 1 z51 a50 ((732 + (3 * x44)) + 1) x52 fun z54 =>
                  gR 12 15 z54 92 fun a55 =>
                  aI 1 z54 a55 3 fun x56 =>
                  sI 1 z54 a55 3 (x56 + 1) fun z57 =>
                  m_X12_readLine_B547 92 z57
                ) else
                isC 12 z38 92 <| bnd (m_X12_readBox 92 1 10 z38) fun _ z58 =>
                gR 12 15 z58 92 fun a60 =>
                sI 1 z58 a60 7 1 fun z61 =>
                gR 12 15 z61 92 fun a62 =>
                gI 12 20 z61 92 fun x63 =>
                sI 1 z61 a62 8 x63 fun z64 =>
                gR 12 15 z64 92 fun a65 =>
                gI 12 21 z64 92 fun x66 =>
                sI 1 z64 a65 9 x66 fun z67 =>
                gR 12 15 z67 92 fun a68 =>
                gI 12 22 z67 92 fun x69 =>
                sI 1 z67 a68 10 x69 fun z70 =>
                gR 12 15 z70 92 fun a71 =>
                gI 12 23 z70 92 fun x72 =>
                sI 1 z70 a71 11 x72 fun z73 =>
                m_X12_readLine_B547 92 z73
              ) else
              pI 12 19 z35 92 1 fun z74 =>
              gR 12 15 z74 92 fun a75 =>
              isC 12 z74 92 <| bnd (m_X12_number 92 0 99999 z74) fun x77 z76 =>
              sI 1 z76 a75 6 x77 fun z79 =>
              m_X12_readLine_B547 92 z79
            ) else
            pI 12 18 z32 92 1 fun z80 =>
            gR 12 15 z80 92 fun a81 =>
            isC 12 z80 92 <| bnd (m_X12_number 92 1 300 z80) fun x83 z82 =>
            sI 1 z82 a81 5 x83 fun z85 =>
            m_X12_readLine_B547 92 z85
          ) else
          isC 12 z29 92 <| bnd (m_X12_readRule 92 z29) fun _ z86 =>
          m_X12_readLine_B547 92 z86
        ) else
        isC 12 z26 92 <| bnd (m_X12_readPipe 92 z26) fun _ z88 =>
        m_X12_readLine_B547 92 z88
      ) else
      isC 12 z23 92 <| bnd (m_X12_readStream 92 z23) fun _ z90 =>
      m_X12_readLine_B547 92 z90
    ) else
    isC 12 z20 92 <| bnd (m_X12_readLay 92 z20) fun _ z92 =>
    m_X12_readLine_B547 92 z92
  ) else
  isC 12 z17 92 <| bnd (m_X12_readGround 92 z17) fun _ z94 =>
  m_X12_readLine_B547 92 z94) = some ((), y) ∧ HM z0 y b n (lnS b n D s) (lnD b n D s) := by
  have vz := v.dz
  have el1 : l1 b n D s = ad b n s := by unfold l1; rw [hf, fal_f]
  have eS : lnS b n D s = sg b n 59 (rt b n (lk b s.1) (Dz D) (ad b n s)) := by unfold lnS; rw [if_neg h9, el1]
  have eD : lnD b n D s = uD b n (lk b s.1) (Dz D) (ad b n s) := by unfold lnD; rw [el1]
  rw [eS, eD]
  have nfx : fx (lk b s.1) D = false := by
    unfold lfull at hf
    cases q : fx (lk b s.1) D with
    | false => rfl
    | true => rw [q, Bool.or_true] at hf; cases hf
  -- the end
  have fin : ∀ {x : Hp} {u : Ps} {E : Dt}, HM z0 x b n u E → u = rt b n (lk b s.1) (Dz D) (ad b n s) → E = uD b n (lk b s.1) (Dz D) (ad b n s) → ∃ y, m_X12_readLine_B547 92 x = some ((), y) ∧ HM z0 y b n (sg b n 59 (rt b n (lk b s.1) (Dz D) (ad b n s))) (uD b n (lk b s.1) (Dz D) (ad b n s)) := fun {x u E} hx e1 e2 => by
    rw [← e1, ← e2]; exact end_M hx
  have fin2 : ∀ {x w : Hp} {u : Ps} {E : Dt} (R : Nat → Hp → Option (Unit × Hp)), LayM w → R 92 w = some ((), x) → HM z0 x b n u E → u = rt b n (lk b s.1) (Dz D) (ad b n s) → E = uD b n (lk b s.1) (Dz D) (ad b n s) → ∃ y, (isC 12 w 92 <| bnd (R 92 w) fun _ z94 => m_X12_readLine_B547 92 z94) = some ((), y) ∧ HM z0 y b n (sg b n 59 (rt b n (lk b s.1) (Dz D) (ad b n s))) (uD b n (lk b s.1) (Dz D) (ad b n s)) := fun {x w u E} R Mw r hx e1 e2 => by
    rw [isC_eq (by rw [mk_92 Mw]), r, bnd_some]; exact fin hx e1 e2
  -- one word after another
  have tk : ∀ {x : Hp} (q j : Nat), HM z0 x b n s (Dz D) → q < 48 → j < 9 → txw q = txw (wq j) → ∃ y, m_X12_takes 92 q x = some (bI (decide (lk b s.1 = j)), y) ∧ HM z0 y b n (if lk b s.1 = j then ad b n s else s) (Dz D) := fun {x} q j hx hq hj e => by
    obtain ⟨y, r, h1⟩ := tk_M q hx c hq
    rw [e, lk_d j hj] at r h1
    refine ⟨y, r, ?_⟩
    by_cases g : lk b s.1 = j
    · rw [if_pos (decide_eq_true g)] at h1; rw [if_pos g]; exact h1
    · rw [if_neg (fun q => g (of_decide_eq_true q))] at h1; rw [if_neg g]; exact h1
  obtain ⟨z1, r1, h1⟩ := tk 24 0 h (by decide) (by decide) rfl
  rw [isC_eq (by rw [mk_92 h.M]), r1, bnd_some]
  by_cases g0 : lk b s.1 = 0
  · rw [decide_eq_true g0, if_neg bI_t]
    rw [if_pos g0] at h1
    obtain ⟨y, r, hy⟩ := gr_M h1
    exact fin2 m_X12_readGround h1.M r hy (by rw [g0]; rfl) (by rw [g0]; rfl)
  rw [decide_eq_false g0, if_pos bI_f]
  rw [if_neg g0] at h1
  obtain ⟨z2, r2, h2⟩ := tk 25 1 h1 (by decide) (by decide) rfl
  rw [isC_eq (by rw [mk_92 h1.M]), r2, bnd_some]
  by_cases g1 : lk b s.1 = 1
  · rw [decide_eq_true g1, if_neg bI_t]
    rw [if_pos g1] at h2
    obtain ⟨y, r, hy⟩ := la_M h2
    exact fin2 m_X12_readLay h2.M r hy (by rw [g1]; rfl) (by rw [g1]; rfl)
  rw [decide_eq_false g1, if_pos bI_f]
  rw [if_neg g1] at h2
  obtain ⟨z3, r3, h3⟩ := tk 26 2 h2 (by decide) (by decide) rfl
  rw [isC_eq (by rw [mk_92 h2.M]), r3, bnd_some]
  by_cases g2 : lk b s.1 = 2
  · rw [decide_eq_true g2, if_neg bI_t]
    rw [if_pos g2] at h3
    obtain ⟨y, r, hy⟩ := st_M h3
    exact fin2 m_X12_readStream h3.M r hy (by rw [g2]; rfl) (by rw [g2]; rfl)
  rw [decide_eq_false g2, if_pos bI_f]
  rw [if_neg g2] at h3
  obtain ⟨z4, r4, h4⟩ := tk 29 5 h3 (by decide) (by decide) rfl
  rw [isC_eq (by rw [mk_92 h3.M]), r4, bnd_some]
  by_cases g5 : lk b s.1 = 5
  · rw [decide_eq_true g5, if_neg bI_t]
    rw [if_pos g5] at h4
    obtain ⟨m, m1, m2⟩ := vz.1
    have hm : m < 12 := by
      rw [g5] at nfx
      have : ¬ D.1 2 = 12 := of_decide_eq_false nfx
      have : m ≠ 12 := fun e => this (by rw [show D.1 2 = (Dz D).1 2 from rfl, m2, e]; rfl)
      omega
    obtain ⟨y, r, hy⟩ := pi_M h4 hm m2
    exact fin2 m_X12_readPipe h4.M r hy (by rw [g5]; rfl) (by rw [g5]; rfl)
  rw [decide_eq_false g5, if_pos bI_f]
  rw [if_neg g5] at h4
  obtain ⟨z5, r5, h5⟩ := tk 32 8 h4 (by decide) (by decide) rfl
  rw [isC_eq (by rw [mk_92 h4.M]), r5, bnd_some]
  by_cases g8 : lk b s.1 = 8
  · rw [decide_eq_true g8, if_neg bI_t]
    rw [if_pos g8] at h5
    obtain ⟨m, m1, m2, m3⟩ := vz.2.2.1
    have hm : m < 4 := by
      rw [g8] at nfx
      have : ¬ D.1 4 = 4 := of_decide_eq_false nfx
      have : m ≠ 4 := fun e => this (by rw [show D.1 4 = (Dz D).1 4 from rfl, m2, e]; rfl)
      omega
    have em : nRW (Dz D).1 = m := by unfold nRW; rw [m2, nn_nI (by omega)]
    obtain ⟨y, r, hy⟩ := ru_M h5 hm m2 (m3 m (Nat.le_refl _) hm)
    exact fin2 m_X12_readRule h5.M r hy (by rw [g8]; show _ = (rl b n (nRW (Dz D).1) 4 0 (wd b n (txw 17) (ad b n s)) (Dz D).1).1; rw [em]) (by rw [g8]; show _ = (uR b n (Dz D).1 (ad b n s), (Dz D).2); unfold uR; rw [em])
  rw [decide_eq_false g8, if_pos bI_f]
  rw [if_neg g8] at h5
  obtain ⟨z6, r6, h6⟩ := tk 27 3 h5 (by decide) (by decide) rfl
  rw [isC_eq (by rw [mk_92 h5.M]), r6, bnd_some]
  by_cases g3 : lk b s.1 = 3
  · rw [decide_eq_true g3, if_neg bI_t]
    rw [if_pos g3] at h6
    have k1 := h6.w18 (v := 1)
    obtain ⟨w2, y2, q2, k2, e2, _⟩ := m_nm 1 300 1 300 k1 (fun _ => ⟨rfl, rfl, by decide, by decide⟩)
    have k3 := k2.w99 (k := 5) e2
    rw [pI_eq (by rw [mk_92 h6.M]), gR_eq (by rw [mk_92 k1.M]) (mr_92_15 k1.M), isC_eq (by rw [mk_92 k1.M]), q2, bnd_some, show sI 1 y2 99 5 w2 = fun g => g (wI y2 99 (ups (zI y2 99) 5 w2)) from funext fun g => sI_n (k := 5) (mk_99 k2.M) (by decide) (by decide)]
    exact fin k3 (by rw [g3]; rfl) (by rw [g3]; rfl)
  rw [decide_eq_false g3, if_pos bI_f]
  rw [if_neg g3] at h6
  obtain ⟨z7, r7, h7⟩ := tk 30 6 h6 (by decide) (by decide) rfl
  rw [isC_eq (by rw [mk_92 h6.M]), r7, bnd_some]
  by_cases g6 : lk b s.1 = 6
  · rw [decide_eq_true g6, if_neg bI_t]
    rw [if_pos g6] at h7
    have k1 := h7.w19 (v := 1)
    obtain ⟨w2, y2, q2, k2, e2, _⟩ := m_nm 0 99999 0 99999 k1 (fun _ => ⟨rfl, rfl, by decide, by decide⟩)
    have k3 := k2.w99 (k := 6) e2
    rw [pI_eq (by rw [mk_92 h7.M]), gR_eq (by rw [mk_92 k1.M]) (mr_92_15 k1.M), isC_eq (by rw [mk_92 k1.M]), q2, bnd_some, show sI 1 y2 99 6 w2 = fun g => g (wI y2 99 (ups (zI y2 99) 6 w2)) from funext fun g => sI_n (k := 6) (mk_99 k2.M) (by decide) (by decide)]
    exact fin k3 (by rw [g6]; rfl) (by rw [g6]; rfl)
  rw [decide_eq_false g6, if_pos bI_f]
  rw [if_neg g6] at h7
  obtain ⟨z8, r8, h8⟩ := tk 28 4 h7 (by decide) (by decide) rfl
  rw [isC_eq (by rw [mk_92 h7.M]), r8, bnd_some]
  have s99 : ∀ {w : Hp} (k : Nat) (v : Int32) (g : Hp → Option (Unit × Hp)), LayM w → (OfNat.ofNat k : Nat) < 810 → sI 1 w 99 (OfNat.ofNat k) v g = g (wI w 99 (ups (zI w 99) (OfNat.ofNat k) v)) := fun {w} k v g Mw hk => sI_n (k := k) (mk_99 Mw) hk (by decide)
  by_cases g4 : lk b s.1 = 4
  · rw [decide_eq_true g4, if_neg bI_t]
    rw [if_pos g4] at h8
    obtain ⟨y1, q1, k1, e1⟩ := box_M 1 10 (by decide) (by decide) h8
    have k2 := k1.w99 (k := 7) (v := 1) (fun _ => rfl)
    have k3 := k2.w99 (k := 8) (v := zI y1 92 20) (fun g => (e1 g).1)
    have k4 := k3.w99 (k := 9) (v := zI y1 92 21) (fun g => (e1 g).2.1)
    have k5 := k4.w99 (k := 10) (v := zI y1 92 22) (fun g => (e1 g).2.2.1)
    have k6 := k5.w99 (k := 11) (v := zI y1 92 23) (fun g => (e1 g).2.2.2)
    rw [isC_eq (by rw [mk_92 h8.M]), show m_X12_readBox 92 1 10 z8 = _ from q1, bnd_some, gR_eq (by rw [mk_92 k1.M]) (mr_92_15 k1.M), s99 7 1 _ k1.M (by decide), gR_eq (by rw [mk_92 k2.M]) (mr_92_15 k2.M), gI_eq (by rw [mk_92 k2.M]), zI_ne (show 92 ≠ 99 by decide), s99 8 _ _ k2.M (by decide), gR_eq (by rw [mk_92 k3.M]) (mr_92_15 k3.M), gI_eq (by rw [mk_92 k3.M]), zI_ne (show 92 ≠ 99 by decide), zI_ne (show 92 ≠ 99 by decide), s99 9 _ _ k3.M (by decide), gR_eq (by rw [mk_92 k4.M]) (mr_92_15 k4.M), gI_eq (by rw [mk_92 k4.M]), zI_ne (show 92 ≠ 99 by decide), zI_ne (show 92 ≠ 99 by decide), zI_ne (show 92 ≠ 99 by decide), s99 10 _ _ k4.M (by decide), gR_eq (by rw [mk_92 k5.M]) (mr_92_15 k5.M), gI_eq (by rw [mk_92 k5.M]), zI_ne (show 92 ≠ 99 by decide), zI_ne (show 92 ≠ 99 by decide), zI_ne (show 92 ≠ 99 by decide), zI_ne (show 92 ≠ 99 by decide), s99 11 _ _ k5.M (by decide)]
    exact fin k6 (by rw [g4]; rfl) (by rw [g4]; rfl)
  rw [decide_eq_false g4, if_pos bI_f]
  rw [if_neg g4] at h8
  have g7 : lk b s.1 = 7 := by have := lk_lt (b := b) (T := s.1); omega
  obtain ⟨m, m1, m2⟩ := vz.2.1
  have em : nHW (Dz D).1 = m := by unfold nHW; rw [m2, nn_nI (by omega)]
  obtain ⟨z9, r9, h9'⟩ := m_ad h8 c
  have d9 := (h9'.2.2.2 c).1
  obtain ⟨w1, y1, q1, k1, e1, _⟩ := m_nm 0 10 0 10 h9' (fun _ => ⟨rfl, rfl, by decide, by decide⟩)
  have k2 := k1.w99 (k := 732 + 3 * m) e1
  obtain ⟨w3, y3, q3, k3, e3⟩ := m_told 47 0 999 k2 (by decide) (by decide) (by decide)
  replace k3 : HM z0 y3 b n (tH b n (ad b n s)) _ := k3
  replace e3 : (tH b n (ad b n s)).2.1 = 0 → w3 = nI (nmv 0 999 (tH1 b n (ad b n s))) := e3
  have k4 := k3.w99 (k := 732 + 3 * m + 1) e3
  have k5 := k4.w99 (k := 3) (v := zI (wI y3 99 (ups (zI y3 99) (732 + 3 * m + 1) w3)) 99 3 + 1) (u := nI (m + 1)) (fun g => by
    rw [(k4.2.2.2 g).1]
    dsimp only
    rw [up_ne (by omega), up_ne (by omega), m2, nI_1])
  rw [isC_eq (by rw [mk_92 h8.M]), r9, bnd_some, gR_eq (by rw [mk_92 h9'.M]) (mr_92_15 h9'.M), a99 3 h9'.M (by decide), d9, m2, gR_eq (by rw [mk_92 h9'.M]) (mr_92_15 h9'.M), isC_eq (by rw [mk_92 h9'.M]), q1, bnd_some, c_mul, c_add, sI_n (mk_99 k1.M) (by omega) (by decide), gR_eq (by rw [mk_92 k2.M]) (mr_92_15 k2.M), isC_eq (by rw [mk_92 k2.M]), show m_X12_told 92 47 0 999 _ = _ from q3, bnd_some, nI_1, sI_n (mk_99 k3.M) (by omega) (by decide), gR_eq (by rw [mk_92 k4.M]) (mr_92_15 k4.M), a99 3 k4.M (by decide), s99 3 _ _ k4.M (by decide)]
  exact fin k5 (by rw [g7]; rfl) (by rw [g7]; show _ = (uH b n (Dz D).1 (ad b n s), (Dz D).2); unfold uH; rw [em])
end
