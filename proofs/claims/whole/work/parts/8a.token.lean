/-! ===== text: tokens ===== -/
def isBl (x : Nat) : Bool := decide (x = 32) || decide (x = 10)
def isLe (x : Nat) : Bool := decide (97 ≤ x) && decide (x ≤ 122)
def isDi (x : Nat) : Bool := decide (48 ≤ x) && decide (x ≤ 57)
def isSg (x : Nat) : Bool := decide (x = 60) || (decide (x = 62) || (decide (x = 45) || decide (x = 59)))
def knd (x : Nat) : Nat := if isBl x = true then 4 else if isLe x = true then 1 else if isDi x = true then 2 else if isSg x = true then 3 else 5
theorem knd_lt (x : Nat) : knd x < 6 := by
  unfold knd
  cases isBl x <;> cases isLe x <;> cases isDi x <;> cases isSg x <;> decide
theorem kd4 {x : Nat} : knd x = 4 ↔ isBl x = true := by
  unfold knd
  cases isBl x <;> cases isLe x <;> cases isDi x <;> cases isSg x <;> simp
theorem kd1 {x : Nat} : knd x = 1 ↔ isLe x = true := by
  unfold knd
  cases hb : isBl x with
  | true =>
    have : isLe x = false := by
      unfold isBl at hb
      unfold isLe
      simp at hb ⊢
      omega
    rw [this]
    simp
  | false => cases isLe x <;> cases isDi x <;> cases isSg x <;> simp
theorem kd2 {x : Nat} : knd x = 2 ↔ isDi x = true := by
  unfold knd
  cases hd : isDi x with
  | true =>
    have h1 : isBl x = false := by
      unfold isDi at hd
      unfold isBl
      simp at hd ⊢
      omega
    have h2 : isLe x = false := by
      unfold isDi at hd
      unfold isLe
      simp at hd ⊢
      omega
    rw [h1, h2]
    simp
  | false => cases isBl x <;> cases isLe x <;> cases isSg x <;> simp
theorem kindOf_ok {x : Nat} (hx : x < 256) (z : Hp) : m_X4_kindOf (nI x) z = some (nI (knd x), z) := by
  have e : ∀ a c : Nat, a = c → some (nI a, z) = some (nI c, z) := fun a c h => by rw [h]
  unfold m_X4_kindOf m_X4_kindOf_B28 m_X4_kindOf_B42 m_X4_kindOf_B66
  simp (disch := omega) only [eq_c, lt_c, gt_c]
  unfold knd isBl isLe isDi isSg
  by_cases c1 : x = 32
  · simp [c1]; rfl
  by_cases c2 : x = 10
  · simp [c2]; rfl
  by_cases c3 : x < 97
  · by_cases c4 : x < 48
    · by_cases d1 : x = 45
      · simp [d1]; rfl
      · simp [c1, c2, c3, c4, d1, show ¬ x = 60 by omega, show ¬ x = 62 by omega, show ¬ x = 59 by omega, show ¬ 97 ≤ x by omega, show ¬ 48 ≤ x by omega]; rfl
    · by_cases c5 : 57 < x
      · by_cases d1 : x = 60
        · simp [d1]; rfl
        by_cases d2 : x = 62
        · simp [d2]; rfl
        by_cases d3 : x = 59
        · simp [d3]; rfl
        simp [c1, c2, c3, c4, c5, d1, d2, d3, show ¬ x = 45 by omega, show ¬ 97 ≤ x by omega, show ¬ x ≤ 57 by omega]; rfl
      · simp [c1, c2, c3, c4, c5, show ¬ 97 ≤ x by omega, show 48 ≤ x by omega, show x ≤ 57 by omega]; rfl
  · by_cases c5 : 122 < x
    · simp [c1, c2, c3, c5, show ¬ x < 48 by omega, show 57 < x by omega, show ¬ x = 60 by omega, show ¬ x = 62 by omega, show ¬ x = 45 by omega, show ¬ x = 59 by omega, show ¬ x ≤ 122 by omega, show ¬ x ≤ 57 by omega]; rfl
    · simp [c1, c2, c3, c5, show 97 ≤ x by omega, show x ≤ 122 by omega]; rfl
/-- as far as P holds -/
def rn (P : Nat → Bool) (b : Nat → Nat) : Nat → Nat → Nat
  | 0, p => p
  | m + 1, p => if P (b p) = true then rn P b m (p + 1) else p
theorem rn_s {P : Nat → Bool} {b : Nat → Nat} {n p : Nat} (h : p < n) : rn P b (n - p) p = if P (b p) = true then rn P b (n - (p + 1)) (p + 1) else p := by
  obtain ⟨m, e⟩ : ∃ m, n - p = m + 1 := ⟨n - p - 1, by omega⟩
  rw [e, show n - (p + 1) = m by omega]
  rfl
theorem rn_bd {P : Nat → Bool} {b : Nat → Nat} : ∀ {m p : Nat}, p ≤ rn P b m p ∧ rn P b m p ≤ p + m
  | 0, p => ⟨Nat.le_refl _, Nat.le_refl _⟩
  | m + 1, p => by
    show p ≤ (if P (b p) = true then rn P b m (p + 1) else p) ∧ (if P (b p) = true then rn P b m (p + 1) else p) ≤ p + (m + 1)
    have := rn_bd (P := P) (b := b) (m := m) (p := p + 1)
    split <;> omega
theorem rn_le {P : Nat → Bool} {b : Nat → Nat} {n p : Nat} (h : p ≤ n) : p ≤ rn P b (n - p) p ∧ rn P b (n - p) p ≤ n := by
  have := rn_bd (P := P) (b := b) (m := n - p) (p := p)
  omega
theorem rn_st {P : Nat → Bool} {b : Nat → Nat} : ∀ {m p : Nat}, rn P b m p < p + m → P (b (rn P b m p)) = false
  | 0, p, h => absurd h (by show ¬ p < p + 0; omega)
  | m + 1, p, h => by
    cases c : P (b p) with
    | true =>
      have e : rn P b (m + 1) p = rn P b m (p + 1) := by show (if P (b p) = true then _ else _) = _; rw [c, if_pos rfl]
      rw [e] at h ⊢
      exact rn_st (by omega)
    | false =>
      have e : rn P b (m + 1) p = p := by show (if P (b p) = true then _ else _) = _; rw [c, if_neg (by decide)]
      rw [e]; exact c
def nv (cap : Nat) (b : Nat → Nat) : Nat → Nat → Nat → Nat
  | 0, _, v => v
  | m + 1, p, v => if isDi (b p) = true then nv cap b m (p + 1) (min cap (10 * v + b p - 48)) else v
theorem nv_s {cap : Nat} {b : Nat → Nat} {n p v : Nat} (h : p < n) : nv cap b (n - p) p v = if isDi (b p) = true then nv cap b (n - (p + 1)) (p + 1) (min cap (10 * v + b p - 48)) else v := by
  obtain ⟨m, e⟩ : ∃ m, n - p = m + 1 := ⟨n - p - 1, by omega⟩
  rw [e, show n - (p + 1) = m by omega]
  rfl
theorem nv_cap {b : Nat → Nat} : ∀ {m p v w : Nat}, w = min 999999 v → v ≤ 1000000 → nv 999999 b m p w = min 999999 (nv 1000000 b m p v) ∧ nv 1000000 b m p v ≤ 1000000
  | 0, p, v, w, h, hv => ⟨h, hv⟩
  | m + 1, p, v, w, h, hv => by
    show (if isDi (b p) = true then nv 999999 b m (p + 1) (min 999999 (10 * w + b p - 48)) else w) = min 999999 (if isDi (b p) = true then nv 1000000 b m (p + 1) (min 1000000 (10 * v + b p - 48)) else v) ∧ (if isDi (b p) = true then nv 1000000 b m (p + 1) (min 1000000 (10 * v + b p - 48)) else v) ≤ 1000000
    cases hd : isDi (b p) with
    | true =>
      rw [if_pos rfl, if_pos rfl]
      unfold isDi at hd
      simp at hd
      exact nv_cap (by omega) (by omega)
    | false =>
      rw [if_neg (by decide), if_neg (by decide)]
      exact ⟨h, hv⟩
/-- a token: its kind (0 end, 1 word, 2 number, 3 sign, 5 bad), its place, the place behind it, its value -/
abbrev Tk := Nat × Nat × Nat × Nat
def nxQ (b : Nat → Nat) (n q : Nat) : Tk :=
  if q < n then (if isLe (b q) = true then (1, q, rn isLe b (n - q) q, 0) else if isDi (b q) = true then (2, q, rn isDi b (n - q) q, nv 1000000 b (n - q) q 0) else (if isSg (b q) = true then 3 else 5, q, q + 1, b q)) else (0, q, q, 0)
def nx (b : Nat → Nat) (n p : Nat) : Tk := nxQ b n (rn isBl b (n - p) p)
def vT (n : Nat) (T : Tk) : Prop := T.1 < 6 ∧ T.1 ≠ 4 ∧ T.2.1 ≤ T.2.2.1 ∧ T.2.2.1 ≤ n ∧ T.2.2.2 ≤ 1000000
theorem nx_v {b : Nat → Nat} {n p : Nat} (hb : ∀ i, i < n → b i < 256) (hp : p ≤ n) : vT n (nx b n p) := by
  have hq := rn_le (P := isBl) (b := b) hp
  unfold nx nxQ
  generalize rn isBl b (n - p) p = q at hq
  have h1 := rn_le (P := isLe) (b := b) (n := n) (p := q) hq.2
  have h2 := rn_le (P := isDi) (b := b) (n := n) (p := q) hq.2
  have h3 := (nv_cap (b := b) (m := n - q) (p := q) (v := 0) (w := 0) rfl (by omega)).2
  by_cases c : q < n
  · have := hb q c
    rw [if_pos c]
    split
    · exact ⟨by show 1 < 6; omega, by show 1 ≠ 4; omega, h1.1, h1.2, by show 0 ≤ 1000000; omega⟩
    · split
      · exact ⟨by show 2 < 6; omega, by show 2 ≠ 4; omega, h2.1, h2.2, h3⟩
      · refine ⟨?_, ?_, Nat.le_succ _, c, by show b q ≤ 1000000; omega⟩
        · show (if isSg (b q) = true then 3 else 5) < 6; split <;> omega
        · show (if isSg (b q) = true then 3 else 5) ≠ 4; split <;> omega
  · rw [if_neg c]
    exact ⟨by show 0 < 6; omega, by show 0 ≠ 4; omega, Nat.le_refl _, hq.2, by show 0 ≤ 1000000; omega⟩
/-- the tape of the class, and its token -/
def BtC (z : Hp) (b : Nat → Nat) (n : Nat) : Prop := zI z 66 1 = nI n ∧ n ≤ 700 ∧ ∀ i, i < n → zI z 67 i = nI (b i) ∧ b i < 256
def TkC (z : Hp) (T : Tk) : Prop := zI z 66 3 = nI T.1 ∧ zI z 66 4 = nI T.2.1 ∧ zI z 66 2 = nI T.2.2.1 ∧ zI z 66 5 = nI T.2.2.2
/-- only the reader's own fields, but its length -/
def FR (z y : Hp) : Prop := Fi (fun a => a = 66) z y ∧ zI y 66 1 = zI z 66 1
theorem FR.rfl' {z : Hp} : FR z z := ⟨Fi.rfl', rfl⟩
theorem FR.trans {x y z : Hp} (h : FR x y) (g : FR y z) : FR x z := ⟨h.1.trans g.1, g.2.trans h.2⟩
theorem FR.w {z : Hp} {k : Nat} {v : Int32} (hk : k ≠ 1) : FR z (wI z 66 (ups (zI z 66) k v)) := ⟨Fi.w rfl, by rw [zI_eq, up_ne (fun e => hk e.symm)]⟩
theorem BtC.fr {z y : Hp} {b : Nat → Nat} {n : Nat} (h : BtC z b n) (F : FR z y) : BtC y b n := ⟨by rw [F.2]; exact h.1, h.2.1, fun i hi => by rw [F.1.2.2.2.2 67 (by omega)]; exact h.2.2 i hi⟩
theorem skipC {z : Hp} {b : Nat → Nat} {n p : Nat} (K : Nat → Hp → Option (Unit × Hp)) (hC : LayC z) (hb : BtC z b n) (hp : p ≤ n) (e : zI z 66 2 = nI p) :
    ∃ y, m_X4_advance_L0 K FU 66 z = K 66 y ∧ FR z y ∧ zI y 66 2 = nI (rn isBl b (n - p) p) := by
  have hn := hb.2.1
  refine loopQ (X := Hp) (fun f x => m_X4_advance_L0 K f 66 x) (fun t => ∃ y, t = K 66 y ∧ FR z y ∧ zI y 66 2 = nI (rn isBl b (n - p) p)) (fun j x => FR z x ∧ j ≤ n ∧ p ≤ j ∧ zI x 66 2 = nI j ∧ rn isBl b (n - p) p = rn isBl b (n - j) j) n ?hs ?he p FU z hp (by show n - p < FU; exact FU_pos (by omega)) ⟨FR.rfl', hp, Nat.le_refl _, e, rfl⟩
  case hs =>
    rintro j f x hj ⟨h1, _, h2, h3, h4⟩
    have Cx := hC.fi h1.1
    have bx := hb.fr h1
    have bj := bx.2.2 j hj
    rw [m_X4_advance_L0, gI_eq (by rw [ck_66 Cx]), h3, gI_eq (by rw [ck_66 Cx]), bx.1, if_pos (nI_lt hj (by omega)), gR_eq (by rw [ck_66 Cx]) (cr_66_0 Cx), gI_eq (by rw [ck_66 Cx]), h3, aI_n (ck_67 Cx) (by omega) (by decide), bj.1, kindOf_ok bj.2, bnd_some]
    rw [rn_s hj] at h4
    by_cases c : knd (b j) = 4
    · left
      rw [if_pos (kd4.mp c)] at h4
      refine ⟨wI x 66 (ups (zI x 66) 2 (nI (j + 1))), ⟨h1.trans (FR.w (by decide)), by omega, by omega, by rw [zI_eq, up_eq], h4⟩, ?_⟩
      rw [if_pos (by rw [c]; rfl), gI_eq (by rw [ck_66 Cx]), h3, nI_1, pI_eq (by rw [ck_66 Cx])]
    · right
      rw [if_neg (fun g => c (kd4.mpr g))] at h4
      have := knd_lt (b j)
      exact ⟨x, by rw [if_neg (show ¬ nI (knd (b j)) = 4 from fun q => c ((nI_eq (b := 4) (by omega) (by decide)).mp q))], h1, by rw [h4]; exact h3⟩
  case he =>
    rintro f x ⟨h1, _, h2, h3, h4⟩
    have Cx := hC.fi h1.1
    have bx := hb.fr h1
    refine ⟨x, ?_, h1, ?_⟩
    · rw [m_X4_advance_L0, gI_eq (by rw [ck_66 Cx]), h3, gI_eq (by rw [ck_66 Cx]), bx.1, if_neg (nI_nlt (Nat.le_refl _) (by omega))]
    · rw [h4, Nat.sub_self]; exact h3
theorem runC {z : Hp} {b : Nat → Nat} {n q k : Nat} (hC : LayC z) (hb : BtC z b n) (hq : q ≤ n) (hk : k = 1 ∨ k = 2) (e : zI z 66 2 = nI q) (e3 : zI z 66 3 = nI k) (e5 : zI z 66 5 = 0) :
    ∃ y, m_X4_advance_L126 FU 66 z = some ((), y) ∧ FR z y ∧ zI y 66 2 = nI (rn (fun x => decide (knd x = k)) b (n - q) q) ∧ zI y 66 3 = nI k ∧ zI y 66 4 = zI z 66 4 ∧ zI y 66 5 = nI (if k = 2 then nv 1000000 b (n - q) q 0 else 0) := by
  have hn := hb.2.1
  refine loopQ (X := Hp) (fun f x => m_X4_advance_L126 f 66 x) (fun t => ∃ y, t = some ((), y) ∧ FR z y ∧ zI y 66 2 = nI (rn (fun x => decide (knd x = k)) b (n - q) q) ∧ zI y 66 3 = nI k ∧ zI y 66 4 = zI z 66 4 ∧ zI y 66 5 = nI (if k = 2 then nv 1000000 b (n - q) q 0 else 0)) (fun j x => FR z x ∧ j ≤ n ∧ zI x 66 2 = nI j ∧ zI x 66 3 = nI k ∧ zI x 66 4 = zI z 66 4 ∧ rn (fun x => decide (knd x = k)) b (n - q) q = rn (fun x => decide (knd x = k)) b (n - j) j ∧ ∃ v, v ≤ 1000000 ∧ zI x 66 5 = nI v ∧ (k = 1 → v = 0) ∧ (k = 2 → nv 1000000 b (n - q) q 0 = nv 1000000 b (n - j) j v)) n ?hs ?he q FU z hq (by show n - q < FU; exact FU_pos (by omega)) ⟨FR.rfl', hq, e, e3, rfl, rfl, 0, by omega, e5, fun _ => rfl, fun _ => rfl⟩
  case hs =>
    rintro j f x hj ⟨h1, _, h2, h3, h4, h5, v, hv, v1, v2, v3⟩
    have Cx := hC.fi h1.1
    have bx := hb.fr h1
    have bj := bx.2.2 j hj
    have hkl := knd_lt (b j)
    rw [m_X4_advance_L126, gI_eq (by rw [ck_66 Cx]), h2, gI_eq (by rw [ck_66 Cx]), bx.1, if_pos (nI_lt hj (by omega)), gR_eq (by rw [ck_66 Cx]) (cr_66_0 Cx), gI_eq (by rw [ck_66 Cx]), h2, aI_n (ck_67 Cx) (by omega) (by decide), bj.1, kindOf_ok bj.2, bnd_some, gI_eq (by rw [ck_66 Cx]), h3]
    rw [rn_s hj] at h5
    by_cases c : knd (b j) = k
    · left
      rw [if_pos (by simpa using c)] at h5
      rw [if_pos (by rw [c]), gI_eq (by rw [ck_66 Cx]), h3]
      rcases hk with k1 | k2
      · subst k1
        refine ⟨wI x 66 (ups (zI x 66) 2 (nI (j + 1))), ⟨h1.trans (FR.w (by decide)), by omega, by rw [zI_eq, up_eq], by rw [zI_eq, up_ne (by decide)]; exact h3, by rw [zI_eq, up_ne (by decide)]; exact h4, h5, v, hv, by rw [zI_eq, up_ne (by decide)]; exact v1, v2, fun g => absurd g (by decide)⟩, ?_⟩
        rw [if_neg (by decide)]
        unfold m_X4_advance_B193
        rw [gI_eq (by rw [ck_66 Cx]), h2, nI_1, pI_eq (by rw [ck_66 Cx])]
      · subst k2
        have hd := kd2.mp c
        have v3' := v3 rfl
        rw [nv_s hj, if_pos hd] at v3'
        have hd2 : 48 ≤ b j ∧ b j ≤ 57 := by unfold isDi at hd; simpa using hd
        have ev : minJ 1000000 (10 * nI v + nI (b j) - 48) = nI (min 1000000 (10 * v + b j - 48)) := by
          have e1 : (10 : Int32) * nI v + nI (b j) - 48 = nI (10 * v + b j - 48) := by rw [c_mul, nI_add, show (48 : Int32) = nI 48 from rfl, sub_nN (by omega)]
          rw [e1]
          apply Int32.toInt_inj.mp
          rw [toI_min, nI_toInt (by omega), nI_toInt (by omega), show (1000000 : Int32).toInt = 1000000 by decide]
          omega
        obtain ⟨x1, hx1⟩ : ∃ y, y = wI x 66 (ups (zI x 66) 5 (nI (min 1000000 (10 * v + b j - 48)))) := ⟨_, rfl⟩
        have C1 : LayC x1 := Cx.of (by rw [hx1]; rfl) (by rw [hx1]; rfl)
        have x12 : zI x1 66 = ups (zI x 66) 5 (nI (min 1000000 (10 * v + b j - 48))) := by rw [hx1, zI_eq]
        refine ⟨wI x1 66 (ups (zI x1 66) 2 (nI (j + 1))), ⟨(h1.trans (by rw [hx1]; exact FR.w (by decide))).trans (FR.w (by decide)), by omega, by rw [zI_eq, up_eq], by rw [zI_eq, up_ne (by decide), x12, up_ne (by decide)]; exact h3, by rw [zI_eq, up_ne (by decide), x12, up_ne (by decide)]; exact h4, h5, min 1000000 (10 * v + b j - 48), by omega, by rw [zI_eq, up_ne (by decide), x12, up_eq], fun g => absurd g (by decide), fun _ => v3'⟩, ?_⟩
        rw [if_pos (show nI 2 = 2 from rfl), gI_eq (by rw [ck_66 Cx]), v1, gR_eq (by rw [ck_66 Cx]) (cr_66_0 Cx), gI_eq (by rw [ck_66 Cx]), h2, aI_n (ck_67 Cx) (by omega) (by decide), bj.1, min_ok, bnd_some, ev, pI_eq (by rw [ck_66 Cx]), ← hx1]
        unfold m_X4_advance_B193
        rw [gI_eq (by rw [ck_66 C1]), x12, up_ne (by decide), h2, nI_1, pI_eq (by rw [ck_66 C1]), x12]
    · right
      rw [if_neg (by simpa using c)] at h5
      refine ⟨x, ?_, h1, by rw [h5]; exact h2, h3, h4, ?_⟩
      · rw [if_neg (fun g => c ((nI_eq (by omega) (by omega)).mp g))]
      · rw [v1]
        rcases hk with k1 | k2
        · rw [if_neg (by omega), v2 k1]
        · have v3' := v3 k2
          rw [nv_s hj, if_neg (fun g => c (by rw [k2]; exact kd2.mpr g))] at v3'
          rw [if_pos k2, v3']
  case he =>
    rintro f x ⟨h1, _, h2, h3, h4, h5, v, hv, v1, v2, v3⟩
    have Cx := hC.fi h1.1
    have bx := hb.fr h1
    rw [Nat.sub_self] at h5 v3
    refine ⟨x, ?_, h1, by rw [h5]; exact h2, h3, h4, ?_⟩
    · rw [m_X4_advance_L126, gI_eq (by rw [ck_66 Cx]), h2, gI_eq (by rw [ck_66 Cx]), bx.1, if_neg (nI_nlt (Nat.le_refl _) (by omega))]
    · rw [v1]
      rcases hk with k1 | k2
      · rw [if_neg (by omega), v2 k1]
      · rw [if_pos k2, v3 k2]; rfl
theorem advC {z : Hp} {b : Nat → Nat} {n p : Nat} (hC : LayC z) (hb : BtC z b n) (hp : p ≤ n) (e : zI z 66 2 = nI p) : ∃ y, m_X4_advance 66 z = some ((), y) ∧ FR z y ∧ TkC y (nx b n p) := by
  have hn := hb.2.1
  obtain ⟨z1, r1, F1, e1⟩ := skipC m_X4_advance_B40 hC hb hp e
  have hq := rn_le (P := isBl) (b := b) hp
  have hst : rn isBl b (n - p) p < n → isBl (b (rn isBl b (n - p) p)) = false := fun h => rn_st (by omega)
  unfold m_X4_advance nx
  rw [r1]
  generalize rn isBl b (n - p) p = q at hq e1 hst
  have C1 := hC.fi F1.1
  have b1 := hb.fr F1
  obtain ⟨z2, hz2⟩ : ∃ y, y = wI z1 66 (ups (zI z1 66) 4 (nI q)) := ⟨_, rfl⟩
  have F2 : FR z1 z2 := by rw [hz2]; exact FR.w (by decide)
  have C2 := C1.fi F2.1
  have e2 : zI z2 66 = ups (zI z1 66) 4 (nI q) := by rw [hz2, zI_eq]
  obtain ⟨z3, hz3⟩ : ∃ y, y = wI z2 66 (ups (zI z2 66) 5 0) := ⟨_, rfl⟩
  have F3 : FR z2 z3 := by rw [hz3]; exact FR.w (by decide)
  have C3 := C2.fi F3.1
  have b3 := (b1.fr F2).fr F3
  have e3 : zI z3 66 = ups (ups (zI z1 66) 4 (nI q)) 5 0 := by rw [hz3, zI_eq, e2]
  have p3 : zI z3 66 2 = nI q := by rw [e3, up_ne (by decide), up_ne (by decide)]; exact e1
  have q3 : zI z3 66 4 = nI q := by rw [e3, up_ne (by decide), up_eq]
  have v3 : zI z3 66 5 = 0 := by rw [e3, up_eq]
  have F13 := (F1.trans F2).trans F3
  unfold m_X4_advance_B40 nxQ
  rw [gI_eq (by rw [ck_66 C1]), e1, pI_eq (by rw [ck_66 C1]), ← hz2, pI_eq (by rw [ck_66 C2]), ← hz3, gI_eq (by rw [ck_66 C3]), p3, gI_eq (by rw [ck_66 C3]), b3.1]
  by_cases c : q < n
  · have bq := b3.2.2 q c
    have nb := hst c
    have hkl := knd_lt (b q)
    obtain ⟨z4, hz4⟩ : ∃ y, y = wI z3 66 (ups (zI z3 66) 3 (nI (knd (b q)))) := ⟨_, rfl⟩
    have F4 : FR z3 z4 := by rw [hz4]; exact FR.w (by decide)
    have C4 := C3.fi F4.1
    have b4 := b3.fr F4
    have e4 : zI z4 66 = ups (zI z3 66) 3 (nI (knd (b q))) := by rw [hz4, zI_eq]
    have k4 : zI z4 66 3 = nI (knd (b q)) := by rw [e4, up_eq]
    have p4 : zI z4 66 2 = nI q := by rw [e4, up_ne (by decide)]; exact p3
    have q4 : zI z4 66 4 = nI q := by rw [e4, up_ne (by decide)]; exact q3
    have v4 : zI z4 66 5 = 0 := by rw [e4, up_ne (by decide)]; exact v3
    rw [if_pos c, if_pos (nI_lt c (by omega)), gR_eq (by rw [ck_66 C3]) (cr_66_0 C3), gI_eq (by rw [ck_66 C3]), p3, aI_n (ck_67 C3) (by omega) (by decide), bq.1, kindOf_ok bq.2, bnd_some, pI_eq (by rw [ck_66 C3]), ← hz4, gI_eq (by rw [ck_66 C4]), k4]
    cases hl : isLe (b q) with
    | true =>
      have hk1 : knd (b q) = 1 := kd1.mpr hl
      obtain ⟨y, r5, F5, a1, a2, a3, a4⟩ := runC C4 b4 (k := 1) hq.2 (Or.inl rfl) p4 (by rw [k4, hk1]) v4
      have eP : rn (fun x => decide (knd x = 1)) b (n - q) q = rn isLe b (n - q) q := by
        have : (fun x => decide (knd x = 1)) = isLe := funext fun x => by
          cases h : isLe x with
          | true => rw [decide_eq_true (kd1.mpr h)]
          | false => rw [decide_eq_false (fun g => by rw [kd1.mp g] at h; cases h)]
        rw [this]
      refine ⟨y, ?_, F13.trans (F4.trans F5), ?_⟩
      · rw [hk1, if_pos (show nI 1 = 1 from rfl), r5]
      · rw [if_pos rfl]
        exact ⟨a2, by rw [a3]; exact q4, by rw [a1, eP], by rw [a4, if_neg (by decide)]⟩
    | false =>
      have hk1 : ¬ knd (b q) = 1 := fun g => by rw [kd1.mp g] at hl; cases hl
      rw [if_neg (show ¬ nI (knd (b q)) = 1 from fun g => hk1 ((nI_eq (b := 1) (by omega) (by decide)).mp g)), if_neg (by decide), gI_eq (by rw [ck_66 C4]), k4]
      cases hd : isDi (b q) with
      | true =>
        have hk2 : knd (b q) = 2 := kd2.mpr hd
        obtain ⟨y, r5, F5, a1, a2, a3, a4⟩ := runC C4 b4 (k := 2) hq.2 (Or.inr rfl) p4 (by rw [k4, hk2]) v4
        have eP : rn (fun x => decide (knd x = 2)) b (n - q) q = rn isDi b (n - q) q := by
          have : (fun x => decide (knd x = 2)) = isDi := funext fun x => by
            cases h : isDi x with
            | true => rw [decide_eq_true (kd2.mpr h)]
            | false => rw [decide_eq_false (fun g => by rw [kd2.mp g] at h; cases h)]
          rw [this]
        refine ⟨y, ?_, F13.trans (F4.trans F5), ?_⟩
        · rw [hk2, if_pos (show nI 2 = 2 from rfl), r5]
        · rw [if_pos rfl]
          exact ⟨a2, by rw [a3]; exact q4, by rw [a1, eP], by rw [a4, if_pos rfl]⟩
      | false =>
        have hk2 : ¬ knd (b q) = 2 := fun g => by rw [kd2.mp g] at hd; cases hd
        have hkk : knd (b q) = if isSg (b q) = true then 3 else 5 := by unfold knd; rw [nb, hl, hd]; simp
        obtain ⟨z5, hz5⟩ : ∃ y, y = wI z4 66 (ups (zI z4 66) 5 (nI (b q))) := ⟨_, rfl⟩
        have F5 : FR z4 z5 := by rw [hz5]; exact FR.w (by decide)
        have C5 := C4.fi F5.1
        have e5 : zI z5 66 = ups (zI z4 66) 5 (nI (b q)) := by rw [hz5, zI_eq]
        have p5 : zI z5 66 2 = nI q := by rw [e5, up_ne (by decide)]; exact p4
        obtain ⟨z6, hz6⟩ : ∃ y, y = wI z5 66 (ups (zI z5 66) 2 (nI (q + 1))) := ⟨_, rfl⟩
        have F6 : FR z5 z6 := by rw [hz6]; exact FR.w (by decide)
        have e6 : zI z6 66 = ups (zI z5 66) 2 (nI (q + 1)) := by rw [hz6, zI_eq]
        have bq4 := b4.2.2 q c
        refine ⟨z6, ?_, F13.trans ((F4.trans F5).trans F6), ?_⟩
        · rw [if_neg (show ¬ nI (knd (b q)) = 2 from fun g => hk2 ((nI_eq (b := 2) (by omega) (by decide)).mp g)), gR_eq (by rw [ck_66 C4]) (cr_66_0 C4), gI_eq (by rw [ck_66 C4]), p4, aI_n (ck_67 C4) (by omega) (by decide), bq4.1, pI_eq (by rw [ck_66 C4]), ← hz5, gI_eq (by rw [ck_66 C5]), p5, nI_1, pI_eq (by rw [ck_66 C5]), ← hz6]
        · rw [if_neg (by decide)]
          refine ⟨?_, ?_, ?_, ?_⟩
          · rw [e6, up_ne (by decide), e5, up_ne (by decide), k4, hkk]
          · rw [e6, up_ne (by decide), e5, up_ne (by decide)]; exact q4
          · rw [e6, up_eq]
          · rw [e6, up_ne (by decide), e5, up_eq]
  · obtain ⟨z4, hz4⟩ : ∃ y, y = wI z3 66 (ups (zI z3 66) 3 0) := ⟨_, rfl⟩
    have F4 : FR z3 z4 := by rw [hz4]; exact FR.w (by decide)
    have e4 : zI z4 66 = ups (zI z3 66) 3 0 := by rw [hz4, zI_eq]
    refine ⟨z4, ?_, F13.trans F4, ?_⟩
    · rw [if_neg (nI_nlt (by omega) (by omega)), pI_eq (by rw [ck_66 C3]), ← hz4]
    · rw [if_neg c]
      exact ⟨by rw [e4, up_eq]; rfl, by rw [e4, up_ne (by decide)]; exact q3, by rw [e4, up_ne (by decide)]; exact p3, by rw [e4, up_ne (by decide)]; exact v3⟩
