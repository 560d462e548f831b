/-! ===== text: a line of the class ===== -/
section
variable {z0 z y : Hp} {b : Nat → Nat} {n d : Nat} {s s' : Ps} {M : Me} {D : Dt}
theorem fx_z {k : Nat} {D : Dt} : fx k (Dz D) = fx k D := by
  unfold fx
  rfl
theorem nfx {b : Nat → Nat} {n k : Nat} {D : Dt} {s : Ps} (hk : lk b s.1 = k) (h : (l1 b n D s).2.1 = 0) : fx k (Dz D) = false := by
  have := (l1_good h).2
  rw [hk] at this
  unfold lfull at this
  rw [fx_z]
  cases q : fx k D with
  | false => rfl
  | true => rw [q, Bool.or_true] at this; cases this
/-- the routines, as a line calls them -/
theorem ln_C {l : Nat} {fa co : Int32} (h : HC z0 z b n d s M fa co) (hD : DDt d M D) (efa : fa = D.2.2.2.1) (eco : co = D.2.2.2.2) (hl : M d 13 = D.1 0) (h0 : D.1 0 = nI l) (hl40 : l ≤ 40) : LR z0 b n d s D (m_X2_readLine 68 z) := by
  have hd := h.dd
  have hC := h.C
  have hS := h.S
  subst efa eco
  have hDz : DDt d M (Dz D) := hD.dz hd
  have w := fun q hq => isW_C (q := q) h.1 hq
  have ew : ∀ {α : Type} (q : Nat) (hq : q < 48) (f : Int32 → Hp → Option α), (gR 2 0 z 68 fun a30 => isC 4 z a30 <| bnd (m_X4_isWord a30 q z) f) = f (bI (isW b (txw q) s.1)) z := fun q hq f => by
    rw [gR_eq (by rw [ck_68 hC]) (cr_68_0 hC), isC_eq (by rw [ck_66 hC]), w q hq, bnd_some]
  have t0 : m_X2_readLine 68 z = m_X2_readLine_B17 68 (bI (!decide (D.1 0 = 40))) z := by
    unfold m_X2_readLine
    rw [gR_eq (by rw [ck_68 hC]) h.r, gI_eq (by rw [sk_0 hS]), show zI z d 13 = M d 13 by rw [h.m (by omega) (by omega)], hl, h0]
    by_cases c : l < 40
    · rw [if_pos (show nI l < 40 from nI_lt (b := 40) c (by decide)), decide_eq_false (show ¬ nI l = 40 from fun g => by have := (nI_eq (b := 40) (by omega) (by decide)).mp g; omega)]; rfl
    · rw [if_neg (show ¬ nI l < 40 from nI_nlt (b := 40) (by omega) (by omega)), decide_eq_true (show nI l = 40 by rw [show l = 40 by omega]; rfl)]; rfl
  rw [t0]
  unfold m_X2_readLine_B17
  rw [ew 0 (by decide)]
  -- what is allowed
  have al : ∀ (k : Nat) (c : Prop) [Decidable c] (Bf : Int32 → Option (Unit × Hp)), (c ↔ fx k D = false) → (if bI (!decide (D.1 0 = 40)) = 0 then Bf 0 else if c then Bf 1 else Bf 0) = Bf (bI (!lfull k D)) := fun k c _ Bf hc => by
    unfold lfull
    cases q : decide (D.1 0 = 40) with
    | true => rw [if_pos (show bI (!true) = 0 from rfl)]; rfl
    | false =>
      rw [if_neg (show ¬ bI (!false) = 0 by decide)]
      cases q2 : fx k D with
      | false => rw [if_pos (hc.mpr q2)]; rfl
      | true => rw [if_neg (fun g => by rw [hc.mp g] at q2; cases q2)]; rfl
  have al0 : ∀ (k : Nat), fx k D = false → bI (!decide (D.1 0 = 40)) = bI (!lfull k D) := fun k hk => by
    unfold lfull
    rw [hk, Bool.or_false]
  cases w0 : isW b (txw 0) s.1 with
  | true =>
    have hk : lk b s.1 = 0 := by unfold lk; rw [w0]; rfl
    rw [if_neg bI_t, al0 0 rfl]
    exact lr_C m_X2_readGround h hk (by decide) hl (fun {x} hx => by
      obtain ⟨y, M', r, h1, e13, h2⟩ := k0_C hx hDz
      exact ⟨y, M', _, _, r, h1, fun _ => ⟨e13, h2, rfl, rfl⟩⟩)
  | false =>
  rw [if_pos bI_f, ew 5 (by decide)]
  cases w1 : isW b (txw 5) s.1 with
  | true =>
    have hk : lk b s.1 = 1 := by unfold lk; rw [w0, w1]; rfl
    rw [if_neg bI_t, al0 1 rfl]
    exact lr_C m_X2_readLay h hk (by decide) hl (fun {x} hx => by
      obtain ⟨y, M', r, h1, e13, h2⟩ := k1_C hx hDz
      exact ⟨y, M', _, _, r, h1, fun _ => ⟨e13, h2, rfl, rfl⟩⟩)
  | false =>
  rw [if_pos bI_f, ew 7 (by decide)]
  cases w2 : isW b (txw 7) s.1 with
  | true =>
    have hk : lk b s.1 = 2 := by unfold lk; rw [w0, w1, w2]; rfl
    rw [if_neg bI_t, al0 2 rfl]
    exact lr_C m_X2_readStream h hk (by decide) hl (fun {x} hx => by
      obtain ⟨y, M', r, h1, e13, h2⟩ := k2_C hx hDz
      exact ⟨y, M', _, _, r, h1, fun _ => ⟨e13, h2, rfl, rfl⟩⟩)
  | false =>
  rw [if_pos bI_f, ew 9 (by decide)]
  obtain ⟨a1, a2, a3, a4, a5, a6, a7, a8, a9, a10, a11, a12, a13⟩ := id hD
  cases w3 : isW b (txw 9) s.1 with
  | true =>
    have hk : lk b s.1 = 3 := by unfold lk; rw [w0, w1, w2, w3]; rfl
    have e3 : zI z 68 3 = D.2.2.2.1 := h.2.2.2.2.2.2.1
    rw [if_neg bI_t, gI_eq (by rw [ck_68 hC]), e3, show m_X2_readLine_B118 68 68 z = m_X2_readLine_B119 68 0 68 z from rfl, al 3 (D.2.2.2.1 = 0) (fun t => m_X2_readLine_B119 68 t 68 z) (by
      show _ ↔ decide (D.2.2.2.1 = 1) = false
      rcases a12 with q | q <;> rw [q] <;> decide)]
    exact lr_C m_X2_readFar h hk (by decide) hl (fun {x} hx => by
      obtain ⟨y, M', r, h1, e13, h2⟩ := k3_C hx hDz
      exact ⟨y, M', _, _, r, h1, fun _ => ⟨e13, h2, rfl, rfl⟩⟩)
  | false =>
  rw [if_pos bI_f, ew 10 (by decide)]
  cases w4 : isW b (txw 10) s.1 with
  | true =>
    have hk : lk b s.1 = 4 := by unfold lk; rw [w0, w1, w2, w3, w4]; rfl
    rw [if_neg bI_t, gR_eq (by rw [ck_68 hC]) h.r, gI_eq (by rw [sk_0 hS]), show zI z d 10 = M d 10 by rw [h.m (by omega) (by omega)], show m_X2_readLine_B160 68 68 z = m_X2_readLine_B161 68 0 68 z from rfl, al 4 (M d 10 = 0) (fun t => m_X2_readLine_B161 68 t 68 z) (by
      show _ ↔ decide (D.1 7 = 1) = false
      rcases a9 with ⟨q1, q2, _⟩ | ⟨q1, x, y, x2, y2, q2, _, q4, _⟩
      · rw [q1, q2]; decide
      · rw [q1, q4, decide_eq_true rfl]
        have hne : ¬ (nI x2 - nI x + 1) * (nI y2 - nI y + 1) = 0 := by
          rw [sub_nN (by omega), sub_nN (by omega), nI_1, nI_1, pk_mul]
          have b1 : 1 * 1 ≤ (x2 - x + 1) * (y2 - y + 1) := Nat.mul_le_mul (by omega) (by omega)
          have b2 : (x2 - x + 1) * (y2 - y + 1) ≤ 10 * 10 := Nat.mul_le_mul (by omega) (by omega)
          exact fun g => by have := (nI_eq (b := 0) (by omega) (by decide)).mp g; omega
        exact ⟨fun g => absurd g hne, fun g => absurd g (by decide)⟩)]
    exact lr_C m_X2_readShaft h hk (by decide) hl (fun {x} hx => by
      obtain ⟨y, M', r, h1, e13, h2⟩ := k4_C hx hDz
      refine ⟨y, M', _, _, r, h1, fun g => ⟨e13, h2 ?_, rfl, rfl⟩⟩
      have := nfx hk (tB_good (show (tB b n 1 10 (l1 b n D s)).2.1 = 0 from g))
      have q : ¬ (Dz D).1 7 = 1 := of_decide_eq_false this
      have q7 : (Dz D).1 7 = D.1 7 := rfl
      rw [q7] at q ⊢
      rcases a9 with ⟨q1, _⟩ | ⟨q1, _⟩
      · exact q1
      · exact absurd q1 q)
  | false =>
  rw [if_pos bI_f, ew 11 (by decide)]
  cases w5 : isW b (txw 11) s.1 with
  | true =>
    have hk : lk b s.1 = 5 := by unfold lk; rw [w0, w1, w2, w3, w4, w5]; rfl
    obtain ⟨m, m1, m2, m3, _⟩ := a6
    rw [if_neg bI_t, gR_eq (by rw [ck_68 hC]) h.r, gR_eq (by rw [sk_0 hS]) (sr_0_1 hS), gI_eq (by rw [sk_8 hS]), h.md (by decide), m3, show m_X2_readLine_B207 68 68 z = m_X2_readLine_B208 68 0 68 z from rfl, al 5 (nI m < 12) (fun t => m_X2_readLine_B208 68 t 68 z) (by
      show _ ↔ decide (D.1 2 = 12) = false
      rw [m2, decide_eq_false_iff_not]
      rw [show (nI m < 12) ↔ m < 12 from nI_ltI (b := 12) (by omega) (by decide), show (nI m = 12) ↔ m = 12 from nI_eq (b := 12) (by omega) (by decide)]
      omega)]
    exact lr_C m_X2_readPipe h hk (by decide) hl (fun {x} hx => by
      obtain ⟨y, M', r, h1, e13, h2⟩ := k5_C hx hDz
      refine ⟨y, M', _, _, r, h1, fun g => ⟨e13, h2 g ?_, rfl, rfl⟩⟩
      have := nfx hk (tP_good (show (tP b n (tgP (Dz D).1) (l1 b n D s)).2.1 = 0 from g)).1
      exact of_decide_eq_false this)
  | false =>
  rw [if_pos bI_f, ew 13 (by decide)]
  cases w6 : isW b (txw 13) s.1 with
  | true =>
    have hk : lk b s.1 = 6 := by unfold lk; rw [w0, w1, w2, w3, w4, w5, w6]; rfl
    have e3 : zI z 68 4 = D.2.2.2.2 := h.2.2.2.2.2.2.2
    rw [if_neg bI_t, gI_eq (by rw [ck_68 hC]), e3, show m_X2_readLine_B246 68 68 z = m_X2_readLine_B247 68 0 68 z from rfl, al 6 (D.2.2.2.2 = 0) (fun t => m_X2_readLine_B247 68 t 68 z) (by
      show _ ↔ decide (D.2.2.2.2 = 1) = false
      rcases a13 with q | q <;> rw [q] <;> decide)]
    exact lr_C m_X2_readCold h hk (by decide) hl (fun {x} hx => by
      obtain ⟨y, M', r, h1, e13, h2⟩ := k6_C hx hDz
      exact ⟨y, M', _, _, r, h1, fun _ => ⟨e13, h2, rfl, rfl⟩⟩)
  | false =>
  rw [if_pos bI_f, ew 14 (by decide)]
  cases w7 : isW b (txw 14) s.1 with
  | true =>
    have hk : lk b s.1 = 7 := by unfold lk; rw [w0, w1, w2, w3, w4, w5, w6, w7]; rfl
    obtain ⟨m, m1, m2, m3, _⟩ := a7
    rw [if_neg bI_t, gR_eq (by rw [ck_68 hC]) h.r, gR_eq (by rw [sk_0 hS]) (sr_0_2 hS), gI_eq (by rw [sk_15 hS]), h.md (by decide), m3, show m_X2_readLine_B293 68 68 z = m_X2_readLine_B294 68 0 68 z from rfl, al 7 (nI m < 6) (fun t => m_X2_readLine_B294 68 t 68 z) (by
      show _ ↔ decide (D.1 3 = 6) = false
      rw [m2, decide_eq_false_iff_not]
      rw [show (nI m < 6) ↔ m < 6 from nI_ltI (b := 6) (by omega) (by decide), show (nI m = 6) ↔ m = 6 from nI_eq (b := 6) (by omega) (by decide)]
      omega)]
    exact lr_C m_X2_readHouse h hk (by decide) hl (fun {x} hx => by
      obtain ⟨y, M', r, h1, e13, h2⟩ := k7_C hx hDz
      refine ⟨y, M', _, _, r, h1, fun g => ⟨e13, h2 ?_, rfl, rfl⟩⟩
      have := nfx hk (tH_good (show (tH b n (l1 b n D s)).2.1 = 0 from g))
      exact of_decide_eq_false this)
  | false =>
  rw [if_pos bI_f, ew 16 (by decide)]
  cases w8 : isW b (txw 16) s.1 with
  | true =>
    have hk : lk b s.1 = 8 := by unfold lk; rw [w0, w1, w2, w3, w4, w5, w6, w7, w8]; rfl
    obtain ⟨m, m1, m2, m3, _⟩ := a8
    rw [if_neg bI_t, gR_eq (by rw [ck_68 hC]) h.r, gR_eq (by rw [sk_0 hS]) (sr_0_3 hS), gI_eq (by rw [sk_19 hS]), h.md (by decide), m3, show m_X2_readLine_B339 68 68 z = m_X2_readLine_B340 68 0 68 z from rfl, al 8 (nI m < 4) (fun t => m_X2_readLine_B340 68 t 68 z) (by
      show _ ↔ decide (D.1 4 = 4) = false
      rw [m2, decide_eq_false_iff_not]
      rw [show (nI m < 4) ↔ m < 4 from nI_ltI (b := 4) (by omega) (by decide), show (nI m = 4) ↔ m = 4 from nI_eq (b := 4) (by omega) (by decide)]
      omega)]
    exact lr_C m_X2_readRule h hk (by decide) hl (fun {x} hx => by
      obtain ⟨y, M', r, h1, h2⟩ := k8_C hx hDz
      refine ⟨y, M', _, _, r, h1, fun g => ?_⟩
      have := nfx hk (wd_good (rl_good (show (rl b n (nRW (Dz D).1) 4 0 (wd b n (txw 17) (l1 b n D s)) (Dz D).1).1.2.1 = 0 from g)))
      obtain ⟨e13, h3⟩ := h2 g (of_decide_eq_false this)
      exact ⟨e13, h3, rfl, rfl⟩)
  | false =>
    have hk : lk b s.1 = 9 := by unfold lk; rw [w0, w1, w2, w3, w4, w5, w6, w7, w8]; rfl
    obtain ⟨z1, r1, h1⟩ := h_fail 1 s.1.2.1 h
    obtain ⟨z2, r2, h2⟩ := b362_C h1
    have e1 : lnS b n D s = sg b n 59 (fal true 1 s.1.2.1 s) := by unfold lnS; rw [if_pos hk]
    refine ⟨z2, _, _, _, ?_, by rw [e1]; exact h2, fun g => ?_⟩
    · rw [if_pos bI_f, gR_eq (by rw [ck_68 hC]) (cr_68_0 hC), gI_eq (by rw [ck_66 hC]), h.1.la, isC_eq (by rw [ck_68 hC]), r1, bnd_some, r2]
    · rw [e1] at g
      have := fl_n (by decide) (show (fl true 1 s.1.2.1 s.2).1 = 0 from (sg_good g).1)
      cases this.2
end
