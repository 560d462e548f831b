/-! ===== gaps by the model: a path is laid; how many; which; the call ===== -/
theorem nar1 : vp_nar .boolean (1 : Int32) = 1 := by first | rfl | decide
theorem nar0 : vp_nar .boolean (0 : Int32) = 0 := by first | rfl | decide
theorem wayTo_ok {c d : Nat} (hc : c < 144) (hd : d < 144) (h : nb c d) (z : Hp) : ∃ w, w < 4 ∧ m_X12_wayTo (nI c) (nI d) z = some (nI w, z) ∧ bsM c w = some d := by
  unfold m_X12_wayTo
  refine loopQ (X := Int32) (fun f x => m_X12_wayTo_L2 f (nI c) (nI d) x z) (fun r => ∃ w, w < 4 ∧ r = some (nI w, z) ∧ bsM c w = some d) (fun n x => x = nI n ∧ ∀ w, w < n → bsM c w ≠ some d) 4 ?hs ?he 0 FU 0 (by decide) (by decide) ⟨rfl, fun w hw => absurd hw (by omega)⟩
  case hs =>
    rintro n f x hn ⟨rfl, h2⟩
    rw [m_X12_wayTo_L2, besideM_ok hc hn, bnd_some]
    by_cases g : bsM c n = some d
    · right
      exact ⟨n, hn, by rw [g, if_pos (show oN (some d) = nI d from rfl)], g⟩
    · left
      refine ⟨nI (n + 1), ⟨rfl, fun w hw => ?_⟩, ?_⟩
      · by_cases k : w = n
        · rw [k]; exact g
        · exact h2 w (by omega)
      · have ne : ¬ oN (bsM c n) = nI d := by
          cases hb : bsM c n with
          | none => exact fun q => nI_ne_m1 (n := d) (by omega) q.symm
          | some x =>
            have hx := (bsM_nb hc hn hb).2
            exact fun q => g (by rw [hb, (nI_eq (by omega) (by omega)).mp q])
        rw [if_neg ne, nI_1]
  case he =>
    rintro f x ⟨rfl, h2⟩
    obtain ⟨w, hw, hb⟩ := nb_bsM hc hd h
    exact absurd hb (h2 w hw)
theorem TM.t {z : Hp} {t : Nat → Bool} {e : Nat → Nat → Bool} (h : TM z t e) (c : Nat) (b : Bool) : TM (wI z 105 (ups (zI z 105) c (bI b))) (ups t c b) e := by
  refine ⟨fun x hx => ?_, fun x w d hx hw hb => by rw [zI_ne (by decide)]; exact h.2 x w d hx hw hb⟩
  rw [zI_eq, ups_eq, ups_eq]
  by_cases g : x = c
  · rw [if_pos g, if_pos g]
  · rw [if_neg g, if_neg g]; exact h.1 x hx
theorem TM.e {z : Hp} {t : Nat → Bool} {e : Nat → Nat → Bool} {c w d : Nat} (h : TM z t e) (hw : w < 4) (hb : bsM c w = some d) (b : Bool) : TM (wI z 106 (ups (zI z 106) (4 * c + w) (bI b))) t (eU e c d b) := by
  refine ⟨fun x hx => by rw [zI_ne (by decide)]; exact h.1 x hx, fun x w2 y hx hw2 hb2 => ?_⟩
  rw [zI_eq, ups_eq]
  by_cases g : 4 * x + w2 = 4 * c + w
  · have gx : x = c := by omega
    have gw : w2 = w := by omega
    subst gx gw
    rw [hb] at hb2
    cases hb2
    rw [if_pos rfl, eU_e]
  · rw [if_neg g, eU_n]
    · exact h.2 x w2 y hx hw2 hb2
    · rintro ⟨g1, g2⟩
      subst g1 g2
      have := bsM_inj hw hw2 hb hb2
      omega
theorem BI.opn {W : Nat → Int32} {t0 : Nat → Bool} {e0 : Nat → Nat → Bool} {B : BS} {i k : Nat} (hB : BI (RE (opB W) t0 e0) (srN (stO W)) tgN B i) (hF : FV (opB W) (stO W) t0 e0 1000 k) : ∀ x, x < 288 → B.1 x ≠ 0 → opB W (x / 2) = true := by
  intro x hx hx0
  have key : ∀ m x, x < 288 → B.1 x ≠ 0 → B.1 x ≤ m → opB W (x / 2) = true := by
    intro m
    induction m with
    | zero => intro x _ h0 hk; exact absurd (Nat.le_zero.mp hk) h0
    | succ m ih =>
      intro x hx h0 hk
      rcases hB.2.2.2.1 x hx h0 with ⟨_, q⟩ | ⟨u, u1, _, u3, u4, u5⟩
      · unfold srN stO at q
        rw [Bool.and_eq_true, Bool.and_eq_true] at q
        exact q.2.1
      · have iu := ih u u1 u3 (by omega)
        rcases u5 with ⟨m1, m2, q⟩ | ⟨m1, m2, q⟩
        · rcases q with ⟨q1, _⟩ | ⟨_, q2⟩
          · rw [q1]; exact iu
          · exact (hF.2.1 _ _ q2).2.2.2.1
        · rcases q with ⟨q1, _⟩ | ⟨_, q2⟩
          · rw [q1]; exact iu
          · exact q2
  exact key (B.1 x) x hx hx0 (Nat.le_refl _)
theorem goesM {W : Nat → Int32} {t0 : Nat → Bool} {e0 : Nat → Nat → Bool} {z : Hp} {i v k : Nat} {B : BS} (hM : LayM z) (hT : TM z t0 e0) (hC : MBq z B) (hB : BI (RE (opB W) t0 e0) (srN (stO W)) tgN B i) (hF : FV (opB W) (stO W) t0 e0 1000 k) (hv : v < 288) (h0 : B.1 v ≠ 0) (ht : tgN v = true) :
    ∃ y t e, m_X12_goes 92 (nI v) z = some ((), y) ∧ Fi (fun a => a = 105 ∨ a = 106) z y ∧ TM y t e ∧ FV (opB W) (stO W) t e 1000 (k + 1) := by
  have hle := hB.le
  have hop := hB.opn hF
  unfold m_X12_goes
  refine loopQ (X := Int32 × Hp) (fun f x => m_X12_goes_L2 f 92 x.1 x.2) (fun r => ∃ y t e, r = some ((), y) ∧ Fi (fun a => a = 105 ∨ a = 106) z y ∧ TM y t e ∧ FV (opB W) (stO W) t e 1000 (k + 1)) (fun n x => ∃ v t e, x.1 = nI v ∧ Fi (fun a => a = 105 ∨ a = 106) z x.2 ∧ TM x.2 t e ∧ AW (opB W) (stO W) t0 e0 B.1 t e v k ∧ B.1 v + n ≤ 288) 288 ?hs ?he 0 FU (nI v, z) (by decide) (by decide) ⟨v, t0, e0, rfl, Fi.rfl', hT, AW.start hF hv h0 ht, by have := (hB.2.1 v hv h0).1; omega⟩
  case hs =>
    rintro n f ⟨a, x⟩ hn ⟨v, t, e, h2, h3, h4, h5, h6⟩
    dsimp only at h2 h3 h4
    subst h2
    have Mx := hM.fi h3
    have hv := h5.2.1
    have h0 := h5.2.2.1
    have pv : zI x 107 v = pcM (B.2.1 v) := by
      rw [h3.2.2.2.2 107 (by omega), hC.2.2 v hv]
      unfold pvM
      rw [if_neg h0]
    dsimp only
    rw [m_X12_goes_L2, gR_eq (by rw [mk_92 Mx]) (mr_92_29 Mx), aI_n (mk_107 Mx) hv (by decide), pv]
    rcases hB.2.2.2.1 v hv h0 with ⟨q1, q2⟩ | ⟨u, u1, u2, u3, u4, u5⟩
    · right
      refine ⟨x, t, e, ?_, h3, h4, h5.close q2⟩
      rw [q1, if_pos (by decide)]
    · left
      have st := h5.step hF u1 u3 u4 u5 hop
      rw [u2, pcM_s, if_neg (show ¬ nI u = 1000 from fun q => absurd ((nI_eq (b := 1000) (by omega) (by decide)).mp q) (by omega)), gR_eq (by rw [mk_92 Mx]) (mr_92_29 Mx), aI_n (mk_107 Mx) hv (by decide), pv, u2, pcM_s, rem2 (c := v) (by omega), div2 (c := u) (by omega), div2 (c := v) (by omega)]
      rcases u5 with ⟨m1, m2, q⟩ | ⟨m1, m2, q⟩
      · obtain ⟨c, rfl⟩ : ∃ c, u = 2 * c := ⟨u / 2, by omega⟩
        obtain ⟨d, rfl⟩ : ∃ d, v = 2 * d + 1 := ⟨v / 2, by omega⟩
        have hc : c < 144 := by omega
        have hd : d < 144 := by omega
        have ec : 2 * c / 2 = c := by omega
        have ed : (2 * d + 1) / 2 = d := by omega
        rw [ec, ed] at q
        unfold stT stE at st
        rw [ec, ed] at st
        rw [ec, ed, m2]
        rcases q with ⟨q1, q2⟩ | ⟨q1, q2⟩
        · subst q1
          rw [if_pos rfl, if_pos rfl, decide_eq_true (show (2 * d + 1) % 2 = 1 by omega)] at st
          refine ⟨(nI (2 * d), wI x 105 (ups (zI x 105) d 1)), ⟨2 * d, ups t d true, e, rfl, h3.trans (Fi.w (by omega)), h4.t d true, st, by omega⟩, ?_⟩
          rw [if_pos rfl, gR_eq (by rw [mk_92 Mx]) (mr_92_27 Mx), if_pos (show nI 1 = 1 from rfl)]
          unfold m_X12_goes_B56 m_X12_goes_B105
          rw [nar1, sI_n (mk_105 Mx) hd (by decide)]
        · have ncd : ¬ c = d := fun g => by rw [g] at q1; unfold nb at q1; omega
          rw [if_neg ncd, if_neg ncd, if_pos (show (2 * d + 1) % 2 = 1 by omega)] at st
          obtain ⟨w, hw, r, hb⟩ := wayTo_ok hd hc q1.symm x
          refine ⟨(nI (2 * c), wI x 106 (ups (zI x 106) (4 * d + w) 0)), ⟨2 * c, t, eU e d c false, rfl, h3.trans (Fi.w (by omega)), h4.e hw hb false, st, by omega⟩, ?_⟩
          rw [if_neg (fun g => ncd ((nI_eq (by omega) (by omega)).mp g)), if_neg (show ¬ nI 1 = 0 by decide), gR_eq (by rw [mk_92 Mx]) (mr_92_28 Mx), r, bnd_some, show (4 : Int32) = nI 4 from rfl, pk_mul, nI_add, nar0, sI_n (mk_106 Mx) (by omega) (by decide)]
          rfl
      · obtain ⟨c, rfl⟩ : ∃ c, u = 2 * c + 1 := ⟨u / 2, by omega⟩
        obtain ⟨d, rfl⟩ : ∃ d, v = 2 * d := ⟨v / 2, by omega⟩
        have hc : c < 144 := by omega
        have hd : d < 144 := by omega
        have ec : (2 * c + 1) / 2 = c := by omega
        have ed : 2 * d / 2 = d := by omega
        rw [ec, ed] at q
        unfold stT stE at st
        rw [ec, ed] at st
        rw [ec, ed, m2]
        rcases q with ⟨q1, q2⟩ | ⟨q1, q2⟩
        · subst q1
          rw [if_pos rfl, if_pos rfl, decide_eq_false (show ¬ 2 * d % 2 = 1 by omega)] at st
          refine ⟨(nI (2 * d + 1), wI x 105 (ups (zI x 105) d 0)), ⟨2 * d + 1, ups t d false, e, rfl, h3.trans (Fi.w (by omega)), h4.t d false, st, by omega⟩, ?_⟩
          rw [if_pos rfl, gR_eq (by rw [mk_92 Mx]) (mr_92_27 Mx), if_neg (show ¬ nI 0 = 1 by decide)]
          unfold m_X12_goes_B56 m_X12_goes_B105
          rw [nar0, sI_n (mk_105 Mx) hd (by decide)]
        · have ncd : ¬ c = d := fun g => by rw [g] at q1; unfold nb at q1; omega
          rw [if_neg ncd, if_neg ncd, if_neg (show ¬ 2 * d % 2 = 1 by omega)] at st
          obtain ⟨w, hw, r, hb⟩ := wayTo_ok hc hd q1 x
          refine ⟨(nI (2 * c + 1), wI x 106 (ups (zI x 106) (4 * c + w) 1)), ⟨2 * c + 1, t, eU e c d true, rfl, h3.trans (Fi.w (by omega)), h4.e hw hb true, st, by omega⟩, ?_⟩
          rw [if_neg (fun g => ncd ((nI_eq (by omega) (by omega)).mp g)), if_pos (show nI 0 = 0 from rfl), gR_eq (by rw [mk_92 Mx]) (mr_92_28 Mx), r, bnd_some, show (4 : Int32) = nI 4 from rfl, pk_mul, nI_add, nar1, sI_n (mk_106 Mx) (by omega) (by decide)]
          rfl
  case he =>
    rintro f ⟨a, x⟩ ⟨v, t, e, h2, h3, h4, h5, h6⟩
    have := h5.2.2.1
    omega
/-- what findGaps changes -/
def FG (z y : Hp) : Prop := Fi (fun a => a = 92 ∨ (105 ≤ a ∧ a ≤ 109)) z y ∧ ∀ k, k ≠ 31 → zI y 92 k = zI z 92 k
theorem FG.rfl' {z : Hp} : FG z z := ⟨Fi.rfl', fun _ _ => rfl⟩
theorem FG.trans {x y z : Hp} (h : FG x y) (g : FG y z) : FG x z := ⟨h.1.trans g.1, fun k hk => (g.2 k hk).trans (h.2 k hk)⟩
theorem FG.fs {x y : Hp} (h : FS x y) : FG x y := ⟨h.1.mono (fun a h => by omega), h.2⟩
theorem FG.fi {P : Nat → Prop} {x y : Hp} (h : Fi P x y) (hp : ∀ a, P a → 105 ≤ a ∧ a ≤ 109) : FG x y := ⟨h.mono (fun a q => Or.inr (hp a q)), fun k _ => by rw [h.2.2.2.2 92 (fun q => by have := hp 92 q; omega)]⟩
theorem clearG {z : Hp} (K : Nat → Hp → Option (Int32 × Hp)) (hM : LayM z) : ∃ y, m_X12_findGaps_L2 K FU 92 0 z = K 92 y ∧ Fi (fun a => a = 105 ∨ a = 106) z y ∧ TM y (fun _ => false) (fun _ _ => false) := by
  have inner : ∀ (K2 : Nat → Int32 → Hp → Option (Int32 × Hp)) x c, LayM x → c < 144 → m_X12_findGaps_L18 K2 FU 92 (nI c) 0 x = K2 92 (nI c) (wI x 106 (fun i => if 4 * c ≤ i ∧ i < 4 * c + 4 then 0 else zI x 106 i)) := by
    intro K2 x c Mx hc
    refine loopQ (X := Int32 × Hp) (fun f u => m_X12_findGaps_L18 K2 f 92 (nI c) u.1 u.2) (fun t => t = K2 92 (nI c) (wI x 106 (fun i => if 4 * c ≤ i ∧ i < 4 * c + 4 then 0 else zI x 106 i))) (fun n u => u.1 = nI n ∧ u.2 = wI x 106 (fun i => if 4 * c ≤ i ∧ i < 4 * c + n then 0 else zI x 106 i)) 4 ?hs ?he 0 FU (0, x) (by decide) (by decide) ⟨rfl, ?h0⟩
    case h0 =>
      refine (wI_self x 106).symm.trans (congrArg (wI x 106) (funext fun i => ?_))
      rw [if_neg (by omega)]
    case hs =>
      rintro n f ⟨v, u⟩ hn ⟨h1, h2⟩
      dsimp only at h1 h2
      subst h1
      have Mu : LayM u := Mx.of (by rw [h2]; rfl) (by rw [h2]; rfl)
      refine Or.inl ⟨(nI (n + 1), wI x 106 (fun i => if 4 * c ≤ i ∧ i < 4 * c + (n + 1) then 0 else zI x 106 i)), ⟨rfl, rfl⟩, ?_⟩
      dsimp only
      rw [m_X12_findGaps_L18, if_pos (lt_lit hn (by decide)), gR_eq (by rw [mk_92 Mu]) (mr_92_28 Mu), show (4 : Int32) = nI 4 from rfl, pk_mul, nI_add, nar0, sI_n (mk_106 Mu) (by omega) (by decide), nI_1, h2, zI_eq, wI_wI]
      refine congrArg (fun q => m_X12_findGaps_L18 K2 f 92 (nI c) (nI (n + 1)) (wI x 106 q)) (funext fun i => ?_)
      rw [ups_eq]
      by_cases c1 : i = 4 * c + n
      · rw [if_pos c1, if_pos (by omega)]
      · rw [if_neg c1]
        by_cases c2 : 4 * c ≤ i ∧ i < 4 * c + n
        · rw [if_pos c2, if_pos (by omega)]
        · rw [if_neg c2, if_neg (by omega)]
    case he =>
      rintro f ⟨v, u⟩ ⟨h1, h2⟩
      dsimp only at h1 h2 ⊢
      subst h1
      rw [m_X12_findGaps_L18, if_neg (nlt_lit (Nat.le_refl _) (by decide)), h2]
  refine loopQ (X := Int32 × Hp) (fun f x => m_X12_findGaps_L2 K f 92 x.1 x.2) (fun r => ∃ y, r = K 92 y ∧ Fi (fun a => a = 105 ∨ a = 106) z y ∧ TM y (fun _ => false) (fun _ _ => false)) (fun n x => x.1 = nI n ∧ Fi (fun a => a = 105 ∨ a = 106) z x.2 ∧ (∀ c, c < n → zI x.2 105 c = 0) ∧ ∀ c w, c < n → w < 4 → zI x.2 106 (4 * c + w) = 0) 144 ?hs ?he 0 FU (0, z) (by decide) (by decide) ⟨rfl, Fi.rfl', fun c hc => absurd hc (by omega), fun c w hc => absurd hc (by omega)⟩
  case hs =>
    rintro n f ⟨v, x⟩ hn ⟨h1, h2, h3, h4⟩
    dsimp only at h1 h2 h3 h4
    subst h1
    have Mx := hM.fi h2
    obtain ⟨x1, hx1⟩ : ∃ y, y = wI x 105 (ups (zI x 105) n 0) := ⟨_, rfl⟩
    have M1 : LayM x1 := Mx.of (by rw [hx1]; rfl) (by rw [hx1]; rfl)
    obtain ⟨x2, hx2⟩ : ∃ y, y = wI x1 106 (fun i => if 4 * n ≤ i ∧ i < 4 * n + 4 then 0 else zI x1 106 i) := ⟨_, rfl⟩
    refine Or.inl ⟨(nI (n + 1), x2), ⟨rfl, ?_, fun c hc => ?_, fun c w hc hw => ?_⟩, ?_⟩
    · rw [hx2, hx1]
      exact (h2.trans (Fi.w (by omega))).trans (Fi.w (by omega))
    · dsimp only
      rw [hx2, zI_ne (by decide), hx1, zI_eq, ups_eq]
      by_cases g : c = n
      · rw [if_pos g]
      · rw [if_neg g]; exact h3 c (by omega)
    · dsimp only
      rw [hx2, zI_eq]
      by_cases g : c = n
      · rw [if_pos (by omega)]
      · rw [if_neg (by omega), hx1, zI_ne (by decide)]; exact h4 c w (by omega) hw
    · dsimp only
      rw [m_X12_findGaps_L2, if_pos (lt_lit hn (by decide)), gR_eq (by rw [mk_92 Mx]) (mr_92_27 Mx), nar0, sI_n (mk_105 Mx) hn (by decide), ← hx1, inner _ x1 n M1 hn, ← hx2]
      unfold m_X12_findGaps_B40
      rw [nI_1]
  case he =>
    rintro f ⟨v, x⟩ ⟨h1, h2, h3, h4⟩
    dsimp only at h1 h2 h3 h4 ⊢
    subst h1
    rw [m_X12_findGaps_L2, if_neg (nlt_lit (Nat.le_refl _) (by decide))]
    exact ⟨x, rfl, h2, fun c hc => h3 c hc, fun c w d hc hw _ => h4 c w hc hw⟩
theorem isGapM {z : Hp} {n : Nat} {B : BS} (hM : LayM z) (hB : MBq z B) (hpr : ∀ v, v < 288 → B.1 v ≠ 0 → B.2.1 v = 0 ∨ ∃ u, u < 288 ∧ B.2.1 v = u + 1) : ∃ y, m_X12_findGaps_B74 92 (nI n) z = some (nI n, y) ∧ Fi (fun a => a = 109) z y ∧ ∀ c, c < 144 → zI y 109 c = bI (gpB B c) := by
  have pz : ∀ v, v < 288 → (zI z 107 v = -1 ↔ B.1 v = 0) := fun v hv => by
    rw [hB.2.2 v hv]
    unfold pvM
    by_cases g : B.1 v = 0
    · rw [if_pos g]; exact ⟨fun _ => g, fun _ => rfl⟩
    · rw [if_neg g]
      refine ⟨fun q => ?_, fun q => absurd q g⟩
      rcases hpr v hv g with k | ⟨u, u1, u2⟩
      · rw [k] at q; exact absurd q (by decide)
      · rw [u2, pcM_s] at q; exact absurd q (nI_ne_m1 (by omega))
  unfold m_X12_findGaps_B74
  refine loopQ (X := Int32 × Hp) (fun f x => m_X12_findGaps_L76 f 92 (nI n) x.1 x.2) (fun r => ∃ y, r = some (nI n, y) ∧ Fi (fun a => a = 109) z y ∧ ∀ c, c < 144 → zI y 109 c = bI (gpB B c)) (fun k x => x.1 = nI k ∧ Fi (fun a => a = 109) z x.2 ∧ ∀ c, c < k → zI x.2 109 c = bI (gpB B c)) 144 ?hs ?he 0 FU (0, z) (by decide) (by decide) ⟨rfl, Fi.rfl', fun c hc => absurd hc (by omega)⟩
  case hs =>
    rintro k f ⟨v, x⟩ hk ⟨h1, h2, h3⟩
    dsimp only at h1 h2 h3
    subst h1
    have Mx := hM.fi h2
    have x107 : zI x 107 = zI z 107 := h2.2.2.2.2 107 (by omega)
    have fin : ∀ b, b = gpB B k → (∀ c, c < k + 1 → zI (wI x 109 (ups (zI x 109) k (bI b))) 109 c = bI (gpB B c)) := fun b hb c hc => by
      rw [zI_eq, ups_eq]
      by_cases g : c = k
      · rw [if_pos g, g, hb]
      · rw [if_neg g]; exact h3 c (by omega)
    left
    refine ⟨(nI (k + 1), wI x 109 (ups (zI x 109) k (bI (gpB B k)))), ⟨rfl, h2.trans (Fi.w rfl), fin _ rfl⟩, ?_⟩
    dsimp only
    rw [m_X12_findGaps_L76, if_pos (lt_lit hk (by decide)), gR_eq (by rw [mk_92 Mx]) (mr_92_32 Mx), gR_eq (by rw [mk_92 Mx]) (mr_92_29 Mx), show (2 : Int32) = nI 2 from rfl, pk_mul, aI_n (mk_107 Mx) (by omega) (by decide), x107]
    by_cases g1 : B.1 (2 * k) = 0
    · have gf : gpB B k = false := by unfold gpB sA; rw [decide_eq_true g1]; rfl
      rw [if_pos ((pz _ (by omega)).mpr g1), gf]
      unfold m_X12_findGaps_B118 m_X12_findGaps_B119
      rw [nar0, sI_n (mk_109 Mx) hk (by decide), nI_1]
      rfl
    · rw [if_neg (fun q => g1 ((pz _ (by omega)).mp q)), gR_eq (by rw [mk_92 Mx]) (mr_92_29 Mx), nI_1, aI_n (mk_107 Mx) (by omega) (by decide), x107]
      by_cases g2 : B.1 (2 * k + 1) = 0
      · have gt : gpB B k = true := by unfold gpB sA sB; rw [decide_eq_false g1, decide_eq_true g2]; rfl
        rw [if_pos ((pz _ (by omega)).mpr g2), gt]
        unfold m_X12_findGaps_B119
        rw [nar1, sI_n (mk_109 Mx) hk (by decide), nI_1]
        rfl
      · have gf : gpB B k = false := by unfold gpB sB; rw [decide_eq_false g2]; simp
        rw [if_neg (fun q => g2 ((pz _ (by omega)).mp q)), gf]
        unfold m_X12_findGaps_B118 m_X12_findGaps_B119
        rw [nar0, sI_n (mk_109 Mx) hk (by decide), nI_1]
        rfl
  case he =>
    rintro f ⟨v, x⟩ ⟨h1, h2, h3⟩
    dsimp only at h1 h2 h3 ⊢
    subst h1
    rw [m_X12_findGaps_L76, if_neg (nlt_lit (Nat.le_refl _) (by decide))]
    exact ⟨x, rfl, h2, h3⟩
theorem findGaps_ok {z : Hp} {q : Nat} {W : Nat → Int32} (hM : LayM z) (h93 : zI z 93 = W) (hO : OkW W q) (h7 : W 7 = 1) :
    ∃ n y B, m_X12_findGaps 92 z = some (nI n, y) ∧ n ≤ 143 ∧ FG z y ∧ GpR W n B ∧ ∀ c, c < 144 → zI y 109 c = bI (gpB B c) := by
  obtain ⟨c0, hc0, ho0⟩ := sh_ex hO h7
  unfold m_X12_findGaps
  obtain ⟨z1, r1, F1, T1⟩ := clearG m_X12_findGaps_B46 hM
  have M1 := hM.fi F1
  rw [r1]
  unfold m_X12_findGaps_B46
  have z193 : zI z1 93 = W := by rw [F1.2.2.2.2 93 (by omega)]; exact h93
  have G1 : FG z z1 := FG.fi F1 (fun a h => by omega)
  obtain ⟨r, z2, B, i, r2, F2, mb, bi, fd⟩ := searchM M1 z193 hO T1 (fun x y h => absurd (show false = true from h) (by decide))
  rw [isC_eq (by rw [mk_92 M1]), r2, bnd_some]
  refine loopQ (X := Int32 × Int32 × Hp) (fun f x => m_X12_findGaps_L53 m_X12_findGaps_B74 f 92 x.1 x.2.1 x.2.2) (fun r => ∃ n y B, r = some (nI n, y) ∧ n ≤ 143 ∧ FG z y ∧ GpR W n B ∧ ∀ c, c < 144 → zI y 109 c = bI (gpB B c)) (fun n x => x.1 = nI n ∧ FG z x.2.2 ∧ ∃ r t e B i, x.2.1 = rsM r ∧ TM x.2.2 t e ∧ FV (opB W) (stO W) t e 1000 n ∧ MBq x.2.2 B ∧ BI (RE (opB W) t e) (srN (stO W)) tgN B i ∧ Fnd W t e B r) 144 ?hs ?he 0 FU (0, rsM r, z2) (by decide) (by decide) ⟨rfl, G1.trans (FG.fs F2), r, _, _, B, i, rfl, T1.fi F2.1 (fun a h => by omega), FV.zero, mb, bi, fd⟩
  case hs =>
    rintro n f ⟨a, b, x⟩ hn ⟨h1, h2, r, t, e, B, i, h3, h4, h5, h6, h7, h8⟩
    dsimp only at h1 h2 h3 h4 h6
    subst h1 h3
    have Mx := hM.fi h2.1
    have x93 : zI x 93 = W := by rw [h2.1.2.2.2.2 93 (by omega)]; exact h93
    dsimp only
    rw [m_X12_findGaps_L53]
    cases r with
    | none =>
      right
      rw [if_pos (show rsM none = -1 from rfl)]
      obtain ⟨y, r3, F3, g3⟩ := isGapM (n := n) Mx h6 h7.par
      exact ⟨n, y, B, r3, h5.le hc0 ho0, h2.trans (FG.fi F3 (fun a h => by omega)), ⟨t, e, h5, h8⟩, g3⟩
    | some v =>
      left
      obtain ⟨y, t2, e2, r3, F3, T3, V3⟩ := goesM Mx h4 h6 h7 h5 h8.1 h8.2.1 h8.2.2
      have My := Mx.fi F3
      obtain ⟨r4, w, B4, i4, e4, F4, mb4, bi4, fd4⟩ := searchM My (by rw [F3.2.2.2.2 93 (by omega)]; exact x93) hO T3 (fun x y h => (V3.2.1 x y h).2.2.2.1)
      have h8l := h8.1
      refine ⟨(nI (n + 1), rsM r4, w), ⟨rfl, (h2.trans (FG.fi F3 (fun a h => by omega))).trans (FG.fs F4), r4, t2, e2, B4, i4, rfl, T3.fi F4.1 (fun a h => by omega), V3, mb4, bi4, fd4⟩, ?_⟩
      rw [if_neg (show ¬ rsM (some v) = -1 from nI_ne_m1 (by omega)), isC_eq (by rw [mk_92 Mx]), show rsM (some v) = nI v from rfl, r3, bnd_some, isC_eq (by rw [mk_92 My]), e4, bnd_some, nI_1]
  case he =>
    rintro f ⟨a, b, x⟩ ⟨h1, h2, r, t, e, B, i, h3, h4, h5, h6, h7, h8⟩
    have := h5.le hc0 ho0
    omega
theorem listM_ok {z : Hp} {n : Nat} {P : Nat → Bool} (hM : LayM z) (hP : ∀ c, c < 144 → zI z 109 c = bI (P c)) (h0 : zI z 92 34 = 0) :
    ∃ y, m_X12_gaps_L22 FU 92 (nI n) 0 z = some (nI n, y) ∧ Fi (fun a => a = 92 ∨ a = 110) z y ∧ (∀ k, k ≠ 34 → zI y 92 k = zI z 92 k) ∧ zI y 92 34 = nI (cnt P 144) ∧ ∀ k, k < cnt P 144 → zI y 110 k = nI (glF P 144 k) := by
  refine loopQ (X := Int32 × Hp) (fun f x => m_X12_gaps_L22 f 92 (nI n) x.1 x.2) (fun r => ∃ y, r = some (nI n, y) ∧ Fi (fun a => a = 92 ∨ a = 110) z y ∧ (∀ k, k ≠ 34 → zI y 92 k = zI z 92 k) ∧ zI y 92 34 = nI (cnt P 144) ∧ ∀ k, k < cnt P 144 → zI y 110 k = nI (glF P 144 k)) (fun m x => x.1 = nI m ∧ Fi (fun a => a = 92 ∨ a = 110) z x.2 ∧ (∀ k, k ≠ 34 → zI x.2 92 k = zI z 92 k) ∧ zI x.2 92 34 = nI (cnt P m) ∧ ∀ k, k < cnt P m → zI x.2 110 k = nI (glF P m k)) 144 ?hs ?he 0 FU (0, z) (by decide) (by decide) ⟨rfl, Fi.rfl', fun _ _ => rfl, h0, fun k h => absurd h (Nat.not_lt_zero _)⟩
  case hs =>
    rintro m f ⟨v, x⟩ hm ⟨h1, h2, h3, h4, h5⟩
    dsimp only at h1 h2 h3 h4 h5
    subst h1
    have Mx := hM.fi h2
    have hcl := cnt_le (P := P) (n := m)
    left
    dsimp only
    rw [m_X12_gaps_L22, if_pos (lt_lit hm (by decide)), gR_eq (by rw [mk_92 Mx]) (mr_92_32 Mx), aI_n (mk_109 Mx) hm (by decide), h2.2.2.2.2 109 (by omega), hP m hm]
    cases g : P m with
    | false =>
      refine ⟨(nI (m + 1), x), ⟨rfl, h2, h3, ?_, ?_⟩, ?_⟩
      · rw [cnt_s, g]; exact h4
      · rw [cnt_s, g]
        show ∀ k, k < cnt P m → zI x 110 k = nI ((if P m = true then _ else glF P m) k)
        rw [g, if_neg (by decide)]
        exact h5
      · rw [if_pos (by decide)]
        unfold m_X12_gaps_B61
        rw [nI_1]
    | true =>
      obtain ⟨x1, hx1⟩ : ∃ y, y = wI x 110 (ups (zI x 110) (cnt P m) (nI m)) := ⟨_, rfl⟩
      have M1 : LayM x1 := Mx.of (by rw [hx1]; rfl) (by rw [hx1]; rfl)
      have e1 : zI x1 92 34 = nI (cnt P m) := by rw [hx1, zI_ne (by decide)]; exact h4
      obtain ⟨x2, hx2⟩ : ∃ y, y = wI x1 92 (ups (zI x1 92) 34 (nI (cnt P m + 1))) := ⟨_, rfl⟩
      refine ⟨(nI (m + 1), x2), ⟨rfl, ?_, fun k hk => ?_, ?_, fun k hk => ?_⟩, ?_⟩
      · rw [hx2, hx1]
        exact (h2.trans (Fi.w (by omega))).trans (Fi.w (by omega))
      · dsimp only
        rw [hx2, zI_eq, up_ne hk, hx1, zI_ne (by decide)]
        exact h3 k hk
      · dsimp only
        rw [hx2, zI_eq, up_eq, cnt_s, g]
        rfl
      · rw [cnt_s, g, b2_t] at hk
        show zI x2 110 k = nI ((if P m = true then ups (glF P m) (cnt P m) m else glF P m) k)
        rw [if_pos g, hx2, zI_ne (by decide), hx1, zI_eq, ups_eq, ups_eq]
        by_cases e : k = cnt P m
        · rw [if_pos e, if_pos e]
        · rw [if_neg e, if_neg e]; exact h5 k (by omega)
      · rw [if_neg (by decide), gR_eq (by rw [mk_92 Mx]) (mr_92_33 Mx), gI_eq (by rw [mk_92 Mx]), h4, sI_n (mk_110 Mx) (by omega) (by decide), ← hx1, gI_eq (by rw [mk_92 M1]), e1, nI_1, pI_eq (by rw [mk_92 M1]), ← hx2]
        unfold m_X12_gaps_B61
        rw [nI_1]
  case he =>
    rintro f ⟨v, x⟩ ⟨h1, h2, h3, h4, h5⟩
    dsimp only at h1 h2 h3 h4 h5 ⊢
    subst h1
    rw [m_X12_gaps_L22, if_neg (nlt_lit (Nat.le_refl _) (by decide))]
    exact ⟨x, rfl, h2, h3, h4, h5⟩
theorem op_gaps : Op (m_X11_gaps 0) (m_X12_gaps 92) := by
  intro z s d h
  have hS := in_S h; have hR := in_R h; have hO := in_ok h; have hM := in_M h; have hC := in_C h; have hN := in_now h
  have hs := in_lo h
  have hsd := in_sd h
  by_cases h7 : zI z 93 7 = 1
  · have sc : ¬ zI z s 10 = 0 := by rw [rs_sc hR]; exact fun e => (sc_iff hO).mp e h7
    obtain ⟨qa, hq, hqa⟩ : ∃ qa, zR z 74 3 = some qa ∧ (qa = 78 ∨ qa = 79) := by
      rcases in_wq h with g | g
      · exact ⟨78, g.1, Or.inl rfl⟩
      · exact ⟨79, g.1, Or.inr rfl⟩
    obtain ⟨n, z1, B, r1, hn, F1, cb, gp, par⟩ := fewG_ok hC hS hR hO h7 (by omega) hq hqa
    have C1 := hC.fi F1
    obtain ⟨z2, hz2⟩ : ∃ y, y = wI z1 0 (ups (zI z1 0) 9 (nI n)) := ⟨_, rfl⟩
    have F2 : Fi (fun a => a = 0) z1 z2 := by rw [hz2]; exact Fi.w rfl
    have C2 := C1.fi F2
    have cb2 : CB z2 qa B := ⟨by rw [F2.2.2.2.2 74 (by omega)]; exact cb.1, fun j hj => by rw [F2.2.2.2.2 qa (by omega)]; exact cb.2.1 j hj, fun v hv => by rw [F2.2.2.2.2 80 (by omega)]; exact cb.2.2 v hv⟩
    obtain ⟨y, r3, F3, l3⟩ := listC_ok C2 cb2 par
    have C3 := C2.fi F3
    have FY : Fi (fun a => a = 0 ∨ (74 ≤ a ∧ a ≤ 82) ∨ a = 91) z y := ((F1.mono (fun a h => by omega)).trans (F2.mono (fun a h => by omega))).trans (F3.mono (fun a h => by omega))
    have My := hM.fi FY
    have y93 : zI y 93 = zI z 93 := FY.2.2.2.2 93 (by omega)
    have y0 : zI y 0 = ups (zI z 0) 9 (nI n) := by rw [F3.2.2.2.2 0 (by omega), hz2, zI_eq, F1.2.2.2.2 0 (by omega)]
    have e0 := hasShaft_ok My
    rw [y93, h7] at e0
    obtain ⟨m, w, B2, r4, hm, G4, gp2, ig⟩ := findGaps_ok My y93 hO h7
    have Mw := My.fi G4.1
    obtain ⟨w1, hw1⟩ : ∃ u, u = wI w 92 (ups (zI w 92) 34 0) := ⟨_, rfl⟩
    have M1 : LayM w1 := Mw.of (by rw [hw1]; rfl) (by rw [hw1]; rfl)
    obtain ⟨u, r5, F5, k5, c5, l5⟩ := listM_ok (n := m) (P := gpB B2) M1 (fun c hc => by rw [hw1, zI_ne (by decide)]; exact ig c hc) (by rw [hw1, zI_eq, up_eq])
    have uq := gp.uniq gp2
    have em : n = m := uq.1
    have eP : ∀ c, c < 144 → gpB B c = gpB B2 c := fun c hc => by unfold gpB; rw [(uq.2 c hc).1, (uq.2 c hc).2]
    have cB : cnt (gpB B) 144 = n := gp.cnt
    have ecn : cnt (gpB B2) 144 = n := by rw [← cnt_congr eP]; exact cB
    have egl : glF (gpB B2) 144 = glF (gpB B) 144 := (glF_congr eP).symm
    rw [ecn] at c5 l5
    rw [egl] at l5
    rw [cB] at l3
    refine ⟨nI n, y, u, s, d, ?_, by rw [mk_92 My], ?_, ?_⟩
    · unfold m_X11_gaps
      rw [gR_eq (by rw [ck_0 hC]) hN, gI_eq (by rw [sk_0 hS]), if_neg sc, gR_eq (by rw [ck_0 hC]) (cr_0_6 hC), gR_eq (by rw [ck_0 hC]) hN, isC_eq (by rw [ck_74 hC]), r1, bnd_some, pI_eq (by rw [ck_0 C1]), ← hz2, gR_eq (by rw [ck_0 C2]) (cr_0_6 C2), gR_eq (by rw [ck_0 C2]) (cr_0_8 C2), isC_eq (by rw [ck_74 C2]), r3, bnd_some, gI_eq (by rw [ck_0 C3]), y0, up_eq]
    · unfold m_X12_gaps
      rw [isC_eq (by rw [mk_92 My]), e0, bnd_some, if_neg (by decide), isC_eq (by rw [mk_92 My]), r4, bnd_some, pI_eq (by rw [mk_92 Mw]), ← hw1, r5, em]
    · have uO : ∀ a, a ≠ 0 → ¬ (74 ≤ a ∧ a ≤ 82) → a ≠ 91 → a ≠ 92 → ¬ (105 ≤ a ∧ a ≤ 110) → zI u a = zI z a := fun a q0 q1 q2 q3 q4 => by
        rw [F5.2.2.2.2 a (by omega), hw1, zI_ne q3, G4.1.2.2.2.2 a (by omega), FY.2.2.2.2 a (by omega)]
      have u93 := uO 93 (by omega) (by omega) (by omega) (by omega) (by omega)
      have uK : zK u = zK z := by rw [F5.2.1, hw1, zK_wI, G4.1.2.1, FY.2.1]
      have uR : zR u = zR z := by rw [F5.2.2.2.1, hw1, zR_wI, G4.1.2.2.2.1, FY.2.2.2.1]
      have uN : zN u = zN z := by rw [F5.1, hw1, zN_wI, G4.1.1, FY.1]
      have uL : zL u = zL z := by rw [F5.2.2.1, hw1, zL_wI, G4.1.2.2.1, FY.2.2.1]
      have u0 : zI u 0 = ups (zI z 0) 9 (nI n) := by rw [F5.2.2.2.2 0 (by omega), hw1, zI_ne (by decide), G4.1.2.2.2.2 0 (by omega), y0]
      have u92 : ∀ k, k ≠ 31 → k ≠ 34 → zI u 92 k = zI z 92 k := fun k q1 q2 => by rw [k5 k q2, hw1, zI_eq, up_ne q2, G4.2 k q1, FY.2.2.2.2 92 (by omega)]
      have u91 : zI u 91 = zI y 91 := by rw [F5.2.2.2.2 91 (by omega), hw1, zI_ne (by decide), G4.1.2.2.2.2 91 (by omega)]
      refine In.re h uK uR uN ?_ ?_ ?_ ?_ ?_ ?_ ?_
      · rw [u93]; exact hR.of (fun a h1 h2 => uO a (by omega) (by omega) (by omega) (by omega) (by omega))
      · rw [u93]; exact hO
      · rw [u93]; exact in_tk h
      · exact fun k q => (in_im h k q).of uK uR uN (fun a ha => uO a (by omega) (by omega) (by omega) (by omega) (by omega)) (uO 95 (by omega) (by omega) (by omega) (by omega) (by omega)) (uO 96 (by omega) (by omega) (by omega) (by omega) (by omega))
      · exact (in_Tp h).of (u92 6 (by omega) (by omega)) (by rw [uO 66 (by omega) (by omega) (by omega) (by omega) (by omega)]) (uO 67 (by omega) (by omega) (by omega) (by omega) (by omega)) (uO 97 (by omega) (by omega) (by omega) (by omega) (by omega))
      · have f := in_Fd h
        unfold FdP at f ⊢
        rw [u0, up_ne (show 11 ≠ 9 by decide), up_ne (show 12 ≠ 9 by decide), up_ne (show 10 ≠ 9 by decide), up_eq, u92 13 (by omega) (by omega), u92 14 (by omega) (by omega), u92 35 (by omega) (by omega), c5]
        refine ⟨f.1, f.2.1, rfl, isN.mk (by omega) (by decide), fun i hi => ?_, f.2.2.2.2.2⟩
        rw [nn_nI (by omega)] at hi
        rw [u91, l3 i hi, l5 i hi]
      · exact (in_Sl h).of (uO 111 (by omega) (by omega) (by omega) (by omega) (by omega)) (uO 90 (by omega) (by omega) (by omega) (by omega) (by omega)) (uO 112 (by omega) (by omega) (by omega) (by omega) (by omega)) (uO 89 (by omega) (by omega) (by omega) (by omega) (by omega)) uL
  · have e0 := hasShaft_ok hM
    have sc : zI z s 10 = 0 := by rw [rs_sc hR]; exact (sc_iff hO).mpr h7
    refine ⟨-6, z, z, s, d, ?_, by rw [mk_92 hM], ?_, h⟩
    · unfold m_X11_gaps
      rw [gR_eq (by rw [ck_0 hC]) hN, gI_eq (by rw [sk_0 hS]), if_pos sc]
    · unfold m_X12_gaps
      rw [isC_eq (by rw [mk_92 hM]), e0, bnd_some]
      simp [h7, bI]
