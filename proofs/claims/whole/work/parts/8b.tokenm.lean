/-! ===== text: tokens of the model ===== -/
def bcd (i : Nat) : Nat := if i < 128 then i + 128 else i - 128
theorem q_byte : ∀ i, i < 256 → ((nI i - 128) &&& 255) = nI (bcd i) ∧ bcd i < 256 ∧ (128 ≤ i → nI i - 128 = nI (bcd i)) := by decide +kernel
theorem bR_i {x : Int32} (h : bR x) : ∃ i, i < 256 ∧ x = nI i - 128 := by
  refine ⟨(x.toInt + 128).toNat, ?_, ?_⟩
  · have := h.1; have := h.2; omega
  · have h1 := h.1
    have h2 := h.2
    apply Int32.toInt_inj.mp
    rw [sub_int (by rw [nI_toInt (by omega), show (128 : Int32).toInt = 128 by decide]; omega) (by rw [nI_toInt (by omega), show (128 : Int32).toInt = 128 by decide]; omega), nI_toInt (by omega), show (128 : Int32).toInt = 128 by decide]
    omega
/-- a byte, as it is read -/
def bN (x : Int32) : Nat := nn (x &&& 255)
theorem bN_ok {x : Int32} (h : bR x) : x &&& 255 = nI (bN x) ∧ bN x < 256 ∧ (bN x < 128 → x = nI (bN x)) := by
  obtain ⟨i, hi, e⟩ := bR_i h
  obtain ⟨q1, q2, q3⟩ := q_byte i hi
  have eb : bN x = bcd i := by unfold bN; rw [e, q1, nn_nI (by omega)]
  rw [eb, e]
  refine ⟨q1, q2, fun g => q3 ?_⟩
  unfold bcd at g
  split at g <;> omega
def BtM (z : Hp) (b : Nat → Nat) (n : Nat) : Prop := zI z 92 8 = nI n ∧ n ≤ 700 ∧ ∀ i, i < n → bR (zI z 97 i) ∧ bN (zI z 97 i) = b i
def tkm (k : Nat) : Nat := if k = 5 then 4 else k
def TkM (z : Hp) (T : Tk) : Prop := zI z 92 11 = nI (tkm T.1) ∧ zI z 92 10 = nI T.2.1 ∧ zI z 92 9 = nI T.2.2.1 ∧ (T.1 = 2 → zI z 92 12 = nI (min 999999 T.2.2.2)) ∧ (T.1 = 3 ∨ T.1 = 5 → zI z 92 12 = nI T.2.2.2)
/-- only what a step of the model changes -/
def FT (z y : Hp) : Prop := Fi (fun a => a = 92) z y ∧ ∀ k, k < 9 ∨ 12 < k → zI y 92 k = zI z 92 k
theorem FT.rfl' {z : Hp} : FT z z := ⟨Fi.rfl', fun _ _ => rfl⟩
theorem FT.trans {x y z : Hp} (h : FT x y) (g : FT y z) : FT x z := ⟨h.1.trans g.1, fun k hk => (g.2 k hk).trans (h.2 k hk)⟩
theorem FT.w {z : Hp} {k : Nat} {v : Int32} (hk : 9 ≤ k ∧ k ≤ 12) : FT z (wI z 92 (ups (zI z 92) k v)) := ⟨Fi.w rfl, fun j hj => by rw [zI_eq, up_ne (by omega)]⟩
theorem BtM.ft {z y : Hp} {b : Nat → Nat} {n : Nat} (h : BtM z b n) (F : FT z y) : BtM y b n := ⟨by rw [F.2 8 (by omega)]; exact h.1, h.2.1, fun i hi => by rw [F.1.2.2.2.2 97 (by omega)]; exact h.2.2 i hi⟩
def seV (b : Nat → Nat) (n p : Nat) : Int32 := if p < n then nI (b p) else -1
theorem BtM.lt {z : Hp} {b : Nat → Nat} {n i : Nat} (h : BtM z b n) (hi : i < n) : b i < 256 := by
  have := h.2.2 i hi
  rw [← this.2]; exact (bN_ok this.1).2.1
theorem see_ok {z : Hp} {b : Nat → Nat} {n p : Nat} (hM : LayM z) (hb : BtM z b n) (hp : p ≤ n) : m_X12_see 92 (nI p) z = some (seV b n p, z) := by
  have hn := hb.2.1
  unfold m_X12_see seV
  rw [gI_eq (by rw [mk_92 hM]), hb.1]
  by_cases c : p < n
  · have hx := hb.2.2 p c
    rw [if_pos (nI_lt c (by omega)), if_pos c, gR_eq (by rw [mk_92 hM]) (mr_92_5 hM), aI_n (mk_97 hM) (by omega) (by decide), (bN_ok hx.1).1, hx.2]
  · rw [if_neg (nI_nlt (by omega) (by omega)), if_neg c]
theorem seV_32 {z : Hp} {b : Nat → Nat} {n p c : Nat} (hb : BtM z b n) (hc : c < 256) : (seV b n p = nI c) ↔ (p < n ∧ b p = c) := by
  unfold seV
  by_cases g : p < n
  · have := hb.lt g
    rw [if_pos g]
    exact ⟨fun q => ⟨g, (nI_eq (by omega) (by omega)).mp q⟩, fun q => by rw [q.2]⟩
  · rw [if_neg g]
    exact ⟨fun q => absurd q.symm (nI_ne_m1 (by omega)), fun q => absurd q.1 g⟩
theorem sv32 {z : Hp} {b : Nat → Nat} {n p : Nat} (hb : BtM z b n) : (seV b n p = 32) ↔ (p < n ∧ b p = 32) := seV_32 (c := 32) hb (by decide)
theorem sv10 {z : Hp} {b : Nat → Nat} {n p : Nat} (hb : BtM z b n) : (seV b n p = 10) ↔ (p < n ∧ b p = 10) := seV_32 (c := 10) hb (by decide)
theorem seV_i {z : Hp} {b : Nat → Nat} {n p lo hi : Nat} (hb : BtM z b n) (hlo : lo < 256) (hhi : hi < 256) : (nI lo ≤ seV b n p ∧ seV b n p ≤ nI hi) ↔ (p < n ∧ lo ≤ b p ∧ b p ≤ hi) := by
  unfold seV
  by_cases g : p < n
  · have := hb.lt g
    rw [if_pos g, nI_leI (by omega) (by omega), nI_leI (by omega) (by omega)]
    exact ⟨fun q => ⟨g, q⟩, fun q => q.2⟩
  · rw [if_neg g]
    refine ⟨fun q => ?_, fun q => absurd q.1 g⟩
    have h1 := q.1
    rw [Int32.le_iff_toInt_le, nI_toInt (by omega), show (-1 : Int32).toInt = -1 by decide] at h1
    omega
theorem isLe_i {x : Nat} : isLe x = true ↔ 97 ≤ x ∧ x ≤ 122 := by unfold isLe; simp
theorem isDi_i {x : Nat} : isDi x = true ↔ 48 ≤ x ∧ x ≤ 57 := by unfold isDi; simp
theorem i10p {P : Prop} [Decidable P] (h : P) : ¬ (if P then (1 : Int32) else 0) = 0 := by rw [if_pos h]; decide
theorem i10n {P : Prop} [Decidable P] (h : ¬ P) : (if P then (1 : Int32) else 0) = 0 := by rw [if_neg h]
theorem in_le {z : Hp} {b : Nat → Nat} {n p : Nat} (hb : BtM z b n) (y : Hp) : m_X12_in (seV b n p).toInt64 97 122 y = some (if p < n ∧ isLe (b p) = true then 1 else 0, y) := by
  have e : ((97 : Int32) ≤ seV b n p ∧ seV b n p ≤ 122) ↔ (p < n ∧ isLe (b p) = true) := by rw [isLe_i]; exact seV_i (lo := 97) (hi := 122) hb (by decide) (by decide)
  rw [in_lit _ 97 122 (by decide) (by decide)]
  by_cases g : p < n ∧ isLe (b p) = true
  · rw [if_pos g, if_pos (e.mpr g)]
  · rw [if_neg g, if_neg (fun q => g (e.mp q))]
theorem in_di {z : Hp} {b : Nat → Nat} {n p : Nat} (hb : BtM z b n) (y : Hp) : m_X12_in (seV b n p).toInt64 48 57 y = some (if p < n ∧ isDi (b p) = true then 1 else 0, y) := by
  have e : ((48 : Int32) ≤ seV b n p ∧ seV b n p ≤ 57) ↔ (p < n ∧ isDi (b p) = true) := by rw [isDi_i]; exact seV_i (lo := 48) (hi := 57) hb (by decide) (by decide)
  rw [in_lit _ 48 57 (by decide) (by decide)]
  by_cases g : p < n ∧ isDi (b p) = true
  · rw [if_pos g, if_pos (e.mpr g)]
  · rw [if_neg g, if_neg (fun q => g (e.mp q))]
theorem skipM {z : Hp} {b : Nat → Nat} {n p : Nat} (K : Nat → Hp → Option (Unit × Hp)) (hM : LayM z) (hb : BtM z b n) (hp : p ≤ n) (e : zI z 92 9 = nI p) :
    ∃ y, m_X12_step_L0 K FU 92 z = K 92 y ∧ FT z y ∧ zI y 92 9 = nI (rn isBl b (n - p) p) ∧ zI y 92 12 = zI z 92 12 := by
  have hn := hb.2.1
  refine loopQ (X := Hp) (fun f x => m_X12_step_L0 K f 92 x) (fun t => ∃ y, t = K 92 y ∧ FT z y ∧ zI y 92 9 = nI (rn isBl b (n - p) p) ∧ zI y 92 12 = zI z 92 12) (fun j x => FT z x ∧ j ≤ n ∧ p ≤ j ∧ zI x 92 9 = nI j ∧ zI x 92 12 = zI z 92 12 ∧ rn isBl b (n - p) p = rn isBl b (n - j) j) n ?hs ?he p FU z hp (by show n - p < FU; exact FU_pos (by omega)) ⟨FT.rfl', hp, Nat.le_refl _, e, rfl, rfl⟩
  case hs =>
    rintro j f x hj ⟨h1, _, h2, h3, h5, h4⟩
    have Mx := hM.fi h1.1
    have bx := hb.ft h1
    rw [rn_s hj] at h4
    rw [m_X12_step_L0, gI_eq (by rw [mk_92 Mx]), h3, isC_eq (by rw [mk_92 Mx]), see_ok Mx bx (by omega), bnd_some]
    have go : isBl (b j) = true → ∃ y, (FT z y ∧ j + 1 ≤ n ∧ p ≤ j + 1 ∧ zI y 92 9 = nI (j + 1) ∧ zI y 92 12 = zI z 92 12 ∧ rn isBl b (n - p) p = rn isBl b (n - (j + 1)) (j + 1)) ∧ m_X12_step_B26 (m_X12_step_L0 K f) 92 x = m_X12_step_L0 K f 92 y := fun c => by
      rw [if_pos c] at h4
      refine ⟨wI x 92 (ups (zI x 92) 9 (nI (j + 1))), ⟨h1.trans (FT.w (by decide)), by omega, by omega, by rw [zI_eq, up_eq], by rw [zI_eq, up_ne (by decide)]; exact h5, h4⟩, ?_⟩
      unfold m_X12_step_B26
      rw [gI_eq (by rw [mk_92 Mx]), h3, nI_1, pI_eq (by rw [mk_92 Mx])]
    by_cases c1 : b j = 32
    · left
      rw [if_pos ((sv32 bx).mpr ⟨hj, c1⟩)]
      exact go (by unfold isBl; rw [decide_eq_true c1]; rfl)
    · rw [if_neg (fun g => c1 ((sv32 bx).mp g).2), gI_eq (by rw [mk_92 Mx]), h3, isC_eq (by rw [mk_92 Mx]), see_ok Mx bx (by omega), bnd_some]
      by_cases c2 : b j = 10
      · left
        rw [if_pos ((sv10 bx).mpr ⟨hj, c2⟩)]
        exact go (by unfold isBl; rw [decide_eq_true c2, Bool.or_true])
      · right
        have nb : ¬ isBl (b j) = true := by unfold isBl; rw [decide_eq_false c1, decide_eq_false c2]; decide
        rw [if_neg nb] at h4
        exact ⟨x, by rw [if_neg (fun g => c2 ((sv10 bx).mp g).2)], h1, by rw [h4]; exact h3, h5⟩
  case he =>
    rintro f x ⟨h1, _, h2, h3, h5, h4⟩
    have Mx := hM.fi h1.1
    have bx := hb.ft h1
    rw [Nat.sub_self] at h4
    refine ⟨x, ?_, h1, by rw [h4]; exact h3, h5⟩
    rw [m_X12_step_L0, gI_eq (by rw [mk_92 Mx]), h3, isC_eq (by rw [mk_92 Mx]), see_ok Mx bx (Nat.le_refl _), bnd_some, if_neg (fun g => absurd ((sv32 bx).mp g).1 (Nat.lt_irrefl _)), gI_eq (by rw [mk_92 Mx]), h3, isC_eq (by rw [mk_92 Mx]), see_ok Mx bx (Nat.le_refl _), bnd_some, if_neg (fun g => absurd ((sv10 bx).mp g).1 (Nat.lt_irrefl _))]
theorem wordRunM {z : Hp} {b : Nat → Nat} {n q : Nat} (hM : LayM z) (hb : BtM z b n) (hq : q ≤ n) (e : zI z 92 9 = nI q) :
    ∃ y, m_X12_step_L83 m_X12_step_B117 FU 92 z = some ((), y) ∧ FT z y ∧ zI y 92 9 = nI (rn isLe b (n - q) q) ∧ zI y 92 10 = zI z 92 10 ∧ zI y 92 11 = 1 := by
  have hn := hb.2.1
  have fin : ∀ x, FT z x → zI x 92 10 = zI z 92 10 → zI x 92 9 = nI (rn isLe b (n - q) q) → ∃ y, m_X12_step_B117 92 x = some ((), y) ∧ FT z y ∧ zI y 92 9 = nI (rn isLe b (n - q) q) ∧ zI y 92 10 = zI z 92 10 ∧ zI y 92 11 = 1 := fun x h1 h2 h3 => by
    have Mx := hM.fi h1.1
    refine ⟨wI x 92 (ups (zI x 92) 11 1), ?_, h1.trans (FT.w (by decide)), by rw [zI_eq, up_ne (by decide)]; exact h3, by rw [zI_eq, up_ne (by decide)]; exact h2, by rw [zI_eq, up_eq]⟩
    unfold m_X12_step_B117
    rw [pI_eq (by rw [mk_92 Mx])]
  refine loopQ (X := Hp) (fun f x => m_X12_step_L83 m_X12_step_B117 f 92 x) (fun t => ∃ y, t = some ((), y) ∧ FT z y ∧ zI y 92 9 = nI (rn isLe b (n - q) q) ∧ zI y 92 10 = zI z 92 10 ∧ zI y 92 11 = 1) (fun j x => FT z x ∧ zI x 92 9 = nI j ∧ zI x 92 10 = zI z 92 10 ∧ rn isLe b (n - q) q = rn isLe b (n - j) j) n ?hs ?he q FU z hq (by show n - q < FU; exact FU_pos (by omega)) ⟨FT.rfl', e, rfl, rfl⟩
  case hs =>
    rintro j f x hj ⟨h1, h3, h5, h4⟩
    have Mx := hM.fi h1.1
    have bx := hb.ft h1
    rw [rn_s hj] at h4
    rw [m_X12_step_L83, gI_eq (by rw [mk_92 Mx]), h3, isC_eq (by rw [mk_92 Mx]), see_ok Mx bx (by omega), bnd_some, in_le bx, bnd_some]
    by_cases c : isLe (b j) = true
    · left
      rw [if_pos c] at h4
      refine ⟨wI x 92 (ups (zI x 92) 9 (nI (j + 1))), ⟨h1.trans (FT.w (by decide)), by rw [zI_eq, up_eq], by rw [zI_eq, up_ne (by decide)]; exact h5, h4⟩, ?_⟩
      rw [if_neg (i10p ⟨hj, c⟩), gI_eq (by rw [mk_92 Mx]), h3, nI_1, pI_eq (by rw [mk_92 Mx])]
    · right
      rw [if_neg c] at h4
      rw [if_pos (i10n (fun g => c g.2))]
      exact fin x h1 h5 (by rw [h4]; exact h3)
  case he =>
    rintro f x ⟨h1, h3, h5, h4⟩
    have Mx := hM.fi h1.1
    have bx := hb.ft h1
    rw [Nat.sub_self] at h4
    rw [m_X12_step_L83, gI_eq (by rw [mk_92 Mx]), h3, isC_eq (by rw [mk_92 Mx]), see_ok Mx bx (Nat.le_refl _), bnd_some, in_le bx, bnd_some, if_pos (i10n (fun g => absurd g.1 (Nat.lt_irrefl _)))]
    exact fin x h1 h5 (by rw [h4]; exact h3)
theorem numRunM {z : Hp} {b : Nat → Nat} {n q : Nat} (hM : LayM z) (hb : BtM z b n) (hq : q ≤ n) (e : zI z 92 9 = nI q) (e12 : zI z 92 12 = 0) :
    ∃ y, m_X12_step_L144 m_X12_step_B206 FU 92 z = some ((), y) ∧ FT z y ∧ zI y 92 9 = nI (rn isDi b (n - q) q) ∧ zI y 92 10 = zI z 92 10 ∧ zI y 92 11 = 2 ∧ zI y 92 12 = nI (nv 999999 b (n - q) q 0) := by
  have hn := hb.2.1
  have fin : ∀ x, FT z x → zI x 92 10 = zI z 92 10 → zI x 92 9 = nI (rn isDi b (n - q) q) → zI x 92 12 = nI (nv 999999 b (n - q) q 0) → ∃ y, m_X12_step_B206 92 x = some ((), y) ∧ FT z y ∧ zI y 92 9 = nI (rn isDi b (n - q) q) ∧ zI y 92 10 = zI z 92 10 ∧ zI y 92 11 = 2 ∧ zI y 92 12 = nI (nv 999999 b (n - q) q 0) := fun x h1 h2 h3 h4 => by
    have Mx := hM.fi h1.1
    refine ⟨wI x 92 (ups (zI x 92) 11 2), ?_, h1.trans (FT.w (by decide)), by rw [zI_eq, up_ne (by decide)]; exact h3, by rw [zI_eq, up_ne (by decide)]; exact h2, by rw [zI_eq, up_eq], by rw [zI_eq, up_ne (by decide)]; exact h4⟩
    unfold m_X12_step_B206
    rw [pI_eq (by rw [mk_92 Mx])]
  refine loopQ (X := Hp) (fun f x => m_X12_step_L144 m_X12_step_B206 f 92 x) (fun t => ∃ y, t = some ((), y) ∧ FT z y ∧ zI y 92 9 = nI (rn isDi b (n - q) q) ∧ zI y 92 10 = zI z 92 10 ∧ zI y 92 11 = 2 ∧ zI y 92 12 = nI (nv 999999 b (n - q) q 0)) (fun j x => FT z x ∧ zI x 92 9 = nI j ∧ zI x 92 10 = zI z 92 10 ∧ rn isDi b (n - q) q = rn isDi b (n - j) j ∧ ∃ v, v ≤ 999999 ∧ zI x 92 12 = nI v ∧ nv 999999 b (n - q) q 0 = nv 999999 b (n - j) j v) n ?hs ?he q FU z hq (by show n - q < FU; exact FU_pos (by omega)) ⟨FT.rfl', e, rfl, rfl, 0, by omega, e12, rfl⟩
  case hs =>
    rintro j f x hj ⟨h1, h3, h5, h4, v, hv, v1, v2⟩
    have Mx := hM.fi h1.1
    have bx := hb.ft h1
    rw [rn_s hj] at h4
    rw [nv_s hj] at v2
    rw [m_X12_step_L144, gI_eq (by rw [mk_92 Mx]), h3, isC_eq (by rw [mk_92 Mx]), see_ok Mx bx (by omega), bnd_some, in_di bx, bnd_some]
    by_cases c : isDi (b j) = true
    · left
      rw [if_pos c] at h4 v2
      have hd2 := isDi_i.mp c
      have ev : minJ 999999 (10 * nI v + seV b n j - 48) = nI (min 999999 (10 * v + b j - 48)) := by
        have e1 : (10 : Int32) * nI v + seV b n j - 48 = nI (10 * v + b j - 48) := by unfold seV; rw [if_pos hj, c_mul, nI_add, show (48 : Int32) = nI 48 from rfl, sub_nN (by omega)]
        rw [e1]
        apply Int32.toInt_inj.mp
        rw [toI_min, nI_toInt (by omega), nI_toInt (by omega), show (999999 : Int32).toInt = 999999 by decide]
        omega
      obtain ⟨x1, hx1⟩ : ∃ y, y = wI x 92 (ups (zI x 92) 12 (nI (min 999999 (10 * v + b j - 48)))) := ⟨_, rfl⟩
      have M1 : LayM x1 := Mx.of (by rw [hx1]; rfl) (by rw [hx1]; rfl)
      have x12 : zI x1 92 = ups (zI x 92) 12 (nI (min 999999 (10 * v + b j - 48))) := by rw [hx1, zI_eq]
      refine ⟨wI x1 92 (ups (zI x1 92) 9 (nI (j + 1))), ⟨(h1.trans (by rw [hx1]; exact FT.w (by decide))).trans (FT.w (by decide)), by rw [zI_eq, up_eq], by rw [zI_eq, up_ne (by decide), x12, up_ne (by decide)]; exact h5, h4, min 999999 (10 * v + b j - 48), by omega, by rw [zI_eq, up_ne (by decide), x12, up_eq], v2⟩, ?_⟩
      rw [if_neg (i10p ⟨hj, c⟩), gI_eq (by rw [mk_92 Mx]), v1, gI_eq (by rw [mk_92 Mx]), h3, isC_eq (by rw [mk_92 Mx]), see_ok Mx bx (by omega), bnd_some, min_ok, bnd_some, ev, pI_eq (by rw [mk_92 Mx]), ← hx1, gI_eq (by rw [mk_92 M1]), x12, up_ne (by decide), h3, nI_1, pI_eq (by rw [mk_92 M1]), x12]
    · right
      rw [if_neg c] at h4 v2
      rw [if_pos (i10n (fun g => c g.2))]
      exact fin x h1 h5 (by rw [h4]; exact h3) (by rw [v2]; exact v1)
  case he =>
    rintro f x ⟨h1, h3, h5, h4, v, hv, v1, v2⟩
    have Mx := hM.fi h1.1
    have bx := hb.ft h1
    rw [Nat.sub_self] at h4 v2
    rw [m_X12_step_L144, gI_eq (by rw [mk_92 Mx]), h3, isC_eq (by rw [mk_92 Mx]), see_ok Mx bx (Nat.le_refl _), bnd_some, in_di bx, bnd_some, if_pos (i10n (fun g => absurd g.1 (Nat.lt_irrefl _)))]
    exact fin x h1 h5 (by rw [h4]; exact h3) (by rw [v2]; exact v1)
theorem stepM {z : Hp} {b : Nat → Nat} {n p : Nat} (hM : LayM z) (hb : BtM z b n) (hp : p ≤ n) (e : zI z 92 9 = nI p) : ∃ y, m_X12_step 92 z = some ((), y) ∧ FT z y ∧ TkM y (nx b n p) := by
  have hn := hb.2.1
  obtain ⟨z1, r1, F1, e1, _⟩ := skipM m_X12_step_B39 hM hb hp e
  have hq := rn_le (P := isBl) (b := b) hp
  unfold m_X12_step nx
  rw [r1]
  generalize rn isBl b (n - p) p = q at hq e1
  have M1 := hM.fi F1.1
  have b1 := hb.ft F1
  obtain ⟨z2, hz2⟩ : ∃ y, y = wI z1 92 (ups (zI z1 92) 10 (nI q)) := ⟨_, rfl⟩
  have F2 : FT z1 z2 := by rw [hz2]; exact FT.w (by decide)
  have M2 := M1.fi F2.1
  have b2 := b1.ft F2
  have e2 : zI z2 92 = ups (zI z1 92) 10 (nI q) := by rw [hz2, zI_eq]
  have p2 : zI z2 92 9 = nI q := by rw [e2, up_ne (by decide)]; exact e1
  have q2 : zI z2 92 10 = nI q := by rw [e2, up_eq]
  unfold m_X12_step_B39 nxQ
  rw [gI_eq (by rw [mk_92 M1]), e1, pI_eq (by rw [mk_92 M1]), ← hz2, gI_eq (by rw [mk_92 M2]), p2, isC_eq (by rw [mk_92 M2]), see_ok M2 b2 hq.2, bnd_some]
  by_cases c : q < n
  · have hl := b2.lt c
    have sv : seV b n q = nI (b q) := by unfold seV; rw [if_pos c]
    rw [if_pos c, if_neg (show ¬ seV b n q = -1 by rw [sv]; exact nI_ne_m1 (by omega)), in_le b2, bnd_some]
    cases hle : isLe (b q) with
    | true =>
      obtain ⟨y, r3, F3, a1, a2, a3⟩ := wordRunM M2 b2 hq.2 p2
      refine ⟨y, ?_, (F1.trans F2).trans F3, ?_⟩
      · rw [if_neg (i10p ⟨c, rfl⟩), r3]
      · rw [if_pos rfl]
        exact ⟨a3, by rw [a2]; exact q2, a1, fun g => absurd g (show ¬ (1 = 2) by decide), fun g => absurd g (show ¬ (1 = 3 ∨ 1 = 5) by decide)⟩
    | false =>
      rw [if_pos (i10n (show ¬ (q < n ∧ false = true) from fun g => absurd g.2 (by decide))), in_di b2, bnd_some, if_neg (show ¬ (false = true) by decide)]
      cases hdi : isDi (b q) with
      | true =>
        obtain ⟨z3, hz3⟩ : ∃ y, y = wI z2 92 (ups (zI z2 92) 12 0) := ⟨_, rfl⟩
        have F3 : FT z2 z3 := by rw [hz3]; exact FT.w (by decide)
        have M3 := M2.fi F3.1
        have e3 : zI z3 92 = ups (zI z2 92) 12 0 := by rw [hz3, zI_eq]
        obtain ⟨y, r4, F4, a1, a2, a3, a4⟩ := numRunM M3 (b2.ft F3) hq.2 (by rw [e3, up_ne (by decide)]; exact p2) (by rw [e3, up_eq])
        refine ⟨y, ?_, ((F1.trans F2).trans F3).trans F4, ?_⟩
        · rw [if_neg (i10p ⟨c, rfl⟩), pI_eq (by rw [mk_92 M2]), ← hz3, r4]
        · rw [if_pos rfl]
          refine ⟨a3, by rw [a2, e3, up_ne (by decide)]; exact q2, a1, fun _ => ?_, fun g => absurd g (show ¬ (2 = 3 ∨ 2 = 5) by decide)⟩
          rw [a4, (nv_cap (b := b) (m := n - q) (p := q) (v := 0) (w := 0) rfl (by omega)).1]
      | false =>
        obtain ⟨z3, hz3⟩ : ∃ y, y = wI z2 92 (ups (zI z2 92) 12 (nI (b q))) := ⟨_, rfl⟩
        have F3 : FT z2 z3 := by rw [hz3]; exact FT.w (by decide)
        have M3 := M2.fi F3.1
        have e3 : zI z3 92 = ups (zI z2 92) 12 (nI (b q)) := by rw [hz3, zI_eq]
        have fin : ∀ k, k = tkm (if isSg (b q) = true then 3 else 5) → ∃ y, m_X12_step_B249 92 (nI k) 92 z3 = some ((), y) ∧ FT z y ∧ TkM y (if isSg (b q) = true then 3 else 5, q, q + 1, b q) := fun k hk => by
          obtain ⟨z4, hz4⟩ : ∃ y, y = wI z3 92 (ups (zI z3 92) 11 (nI k)) := ⟨_, rfl⟩
          have F4 : FT z3 z4 := by rw [hz4]; exact FT.w (by decide)
          have M4 := M3.fi F4.1
          have e4 : zI z4 92 = ups (zI z3 92) 11 (nI k) := by rw [hz4, zI_eq]
          have p4 : zI z4 92 9 = nI q := by rw [e4, up_ne (by decide), e3, up_ne (by decide)]; exact p2
          refine ⟨wI z4 92 (ups (zI z4 92) 9 (nI (q + 1))), ?_, (((F1.trans F2).trans F3).trans F4).trans (FT.w (by decide)), ?_, ?_, ?_, ?_, ?_⟩
          · unfold m_X12_step_B249
            rw [pI_eq (by rw [mk_92 M3]), ← hz4, gI_eq (by rw [mk_92 M4]), p4, nI_1, pI_eq (by rw [mk_92 M4])]
          · rw [zI_eq, up_ne (by decide), e4, up_eq, hk]
          · rw [zI_eq, up_ne (by decide), e4, up_ne (by decide), e3, up_ne (by decide)]; exact q2
          · rw [zI_eq, up_eq]
          · intro g
            dsimp only at g
            split at g <;> omega
          · intro _
            rw [zI_eq, up_ne (by decide), e4, up_ne (by decide), e3, up_eq]
        rw [if_pos (i10n (show ¬ (q < n ∧ false = true) from fun g => absurd g.2 (by decide))), if_neg (show ¬ (false = true) by decide), pI_eq (by rw [mk_92 M2]), sv, ← hz3]
        by_cases s1 : b q = 60
        · rw [s1, if_pos (show nI 60 = 60 from rfl)]
          unfold m_X12_step_B244
          have := fin 3 (by unfold isSg; rw [s1]; rfl)
          rw [s1] at this
          exact this
        · rw [if_neg (show ¬ nI (b q) = 60 from fun g => s1 ((nI_eq (b := 60) (by omega) (by decide)).mp g))]
          by_cases s2 : b q = 62
          · rw [s2, if_pos (show nI 62 = 62 from rfl)]
            unfold m_X12_step_B244
            have := fin 3 (by unfold isSg; rw [s2]; rfl)
            rw [s2] at this
            exact this
          · rw [if_neg (show ¬ nI (b q) = 62 from fun g => s2 ((nI_eq (b := 62) (by omega) (by decide)).mp g))]
            by_cases s3 : b q = 45
            · rw [s3, if_pos (show nI 45 = 45 from rfl)]
              unfold m_X12_step_B244
              have := fin 3 (by unfold isSg; rw [s3]; rfl)
              rw [s3] at this
              exact this
            · rw [if_neg (show ¬ nI (b q) = 45 from fun g => s3 ((nI_eq (b := 45) (by omega) (by decide)).mp g))]
              by_cases s4 : b q = 59
              · rw [s4, if_pos (show nI 59 = 59 from rfl)]
                unfold m_X12_step_B244
                have := fin 3 (by unfold isSg; rw [s4]; rfl)
                rw [s4] at this
                exact this
              · rw [if_neg (show ¬ nI (b q) = 59 from fun g => s4 ((nI_eq (b := 59) (by omega) (by decide)).mp g))]
                exact fin 4 (by unfold isSg; rw [decide_eq_false s1, decide_eq_false s2, decide_eq_false s3, decide_eq_false s4]; rfl)
  · obtain ⟨z3, hz3⟩ : ∃ y, y = wI z2 92 (ups (zI z2 92) 11 0) := ⟨_, rfl⟩
    have F3 : FT z2 z3 := by rw [hz3]; exact FT.w (by decide)
    have e3 : zI z3 92 = ups (zI z2 92) 11 0 := by rw [hz3, zI_eq]
    refine ⟨z3, ?_, (F1.trans F2).trans F3, ?_⟩
    · rw [if_pos (show seV b n q = -1 by unfold seV; rw [if_neg c]), pI_eq (by rw [mk_92 M2]), ← hz3]
    · rw [if_neg c]
      exact ⟨by rw [e3, up_eq]; rfl, by rw [e3, up_ne (by decide)]; exact q2, by rw [e3, up_ne (by decide)]; exact p2, fun g => absurd g (show ¬ (0 = 2) by decide), fun g => absurd g (show ¬ (0 = 3 ∨ 0 = 5) by decide)⟩
