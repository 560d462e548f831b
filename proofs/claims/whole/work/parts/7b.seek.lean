/-! ===== gaps: a search for a path more, and what it turns over ===== -/
/-- nodes: 2c comes into cell c, 2c + 1 out of it -/
def RE (op t : Nat → Bool) (e : Nat → Nat → Bool) (u v : Nat) : Prop :=
  (u % 2 = 0 ∧ v % 2 = 1 ∧ ((v / 2 = u / 2 ∧ t (u / 2) = false) ∨ (nb (u / 2) (v / 2) ∧ e (v / 2) (u / 2) = true))) ∨
  (u % 2 = 1 ∧ v % 2 = 0 ∧ ((v / 2 = u / 2 ∧ t (u / 2) = true) ∨ (nb (u / 2) (v / 2) ∧ op (v / 2) = true)))
def srN (st : Nat → Bool) (v : Nat) : Bool := decide (v % 2 = 0) && st (v / 2)
def tgN (v : Nat) : Bool := decide (v % 2 = 1) && rimB (v / 2)
/-- places in the queue (0: not seen), parents (0: the shaft, u + 1: node u), the queue, its length -/
abbrev BS := (Nat → Nat) × (Nat → Nat) × (Nat → Nat) × Nat
def psh (B : BS) (v p : Nat) : BS := if B.1 v = 0 then (ups B.1 v (B.2.2.2 + 1), ups B.2.1 v p, ups B.2.2.1 B.2.2.2 v, B.2.2.2 + 1) else B
def BI (E : Nat → Nat → Prop) (sr tg : Nat → Bool) (B : BS) (i : Nat) : Prop :=
  (∀ j, j < B.2.2.2 → B.2.2.1 j < 288 ∧ B.1 (B.2.2.1 j) = j + 1) ∧ (∀ v, v < 288 → B.1 v ≠ 0 → B.1 v ≤ B.2.2.2 ∧ B.2.2.1 (B.1 v - 1) = v) ∧ B.2.2.2 = sN (fun v => if B.1 v = 0 then 0 else 1) 288 ∧
  (∀ v, v < 288 → B.1 v ≠ 0 → (B.2.1 v = 0 ∧ sr v = true) ∨ ∃ u, u < 288 ∧ B.2.1 v = u + 1 ∧ B.1 u ≠ 0 ∧ B.1 u < B.1 v ∧ E u v) ∧
  (∀ j, j < i → tg (B.2.2.1 j) = false ∧ ∀ v, v < 288 → E (B.2.2.1 j) v → B.1 v ≠ 0) ∧ i ≤ B.2.2.2
theorem BI.le {E : Nat → Nat → Prop} {sr tg : Nat → Bool} {B : BS} {i : Nat} (h : BI E sr tg B i) : B.2.2.2 ≤ 288 := by
  rw [h.2.2.1]
  exact sN_le (g := fun v => if B.1 v = 0 then 0 else 1) (B := 1) (n := 288) (fun i _ => by split <;> omega)
theorem BI.lt {E : Nat → Nat → Prop} {sr tg : Nat → Bool} {B : BS} {i v : Nat} (h : BI E sr tg B i) (hv : v < 288) (h0 : B.1 v = 0) : B.2.2.2 < 288 := by
  have a := sN_up (g := fun v => if B.1 v = 0 then 0 else 1) (h := fun x => if ups B.1 v 1 x = 0 then 0 else 1) (k := v) (n := 288) hv (fun x hx => by rw [up_ne hx])
  have b := sN_le (g := fun x => if ups B.1 v 1 x = 0 then 0 else 1) (B := 1) (n := 288) (fun i _ => by split <;> omega)
  rw [up_eq, h0, if_pos rfl, if_neg (by decide)] at a
  have := h.2.2.1
  omega
/-- what is seen stays so -/
def Mn (B C : BS) : Prop := (∀ v, B.1 v ≠ 0 → C.1 v = B.1 v ∧ C.2.1 v = B.2.1 v) ∧ (∀ j, j < B.2.2.2 → C.2.2.1 j = B.2.2.1 j) ∧ B.2.2.2 ≤ C.2.2.2
theorem Mn.rfl' {B : BS} : Mn B B := ⟨fun _ _ => ⟨rfl, rfl⟩, fun _ _ => rfl, Nat.le_refl _⟩
theorem Mn.trans {A B C : BS} (h : Mn A B) (g : Mn B C) : Mn A C :=
  ⟨fun v hv => by
    have a := h.1 v hv
    have b := g.1 v (by rw [a.1]; exact hv)
    exact ⟨b.1.trans a.1, b.2.trans a.2⟩, fun j hj => (g.2.1 j (Nat.lt_of_lt_of_le hj h.2.2)).trans (h.2.1 j hj), Nat.le_trans h.2.2 g.2.2⟩
theorem Mn.sn {B C : BS} (h : Mn B C) {v : Nat} (hv : B.1 v ≠ 0) : C.1 v ≠ 0 := by rw [(h.1 v hv).1]; exact hv
theorem psh_mn {E : Nat → Nat → Prop} {sr tg : Nat → Bool} {B : BS} {i v p : Nat} (h : BI E sr tg B i) (hv : v < 288) : Mn B (psh B v p) ∧ (psh B v p).1 v ≠ 0 := by
  unfold psh
  by_cases c : B.1 v = 0
  · rw [if_pos c]
    refine ⟨⟨fun w hw => ?_, fun j hj => up_ne (by omega), Nat.le_succ _⟩, ?_⟩
    · have ne : w ≠ v := fun g => hw (by rw [g]; exact c)
      exact ⟨up_ne ne, up_ne ne⟩
    · show ups B.1 v (B.2.2.2 + 1) v ≠ 0
      rw [up_eq]; omega
  · rw [if_neg c]
    exact ⟨Mn.rfl', c⟩
theorem psh_new {B : BS} {v p : Nat} (h : B.1 v = 0) : psh B v p = (ups B.1 v (B.2.2.2 + 1), ups B.2.1 v p, ups B.2.2.1 B.2.2.2 v, B.2.2.2 + 1) := if_pos h
theorem psh_old {B : BS} {v p : Nat} (h : ¬ B.1 v = 0) : psh B v p = B := if_neg h
theorem BI.psh {E : Nat → Nat → Prop} {sr tg : Nat → Bool} {B : BS} {i v p : Nat} (h : BI E sr tg B i) (hv : v < 288) (hp : (p = 0 ∧ sr v = true) ∨ ∃ u, u < 288 ∧ p = u + 1 ∧ B.1 u ≠ 0 ∧ E u v) : BI E sr tg (psh B v p) i := by
  by_cases c : B.1 v = 0
  · obtain ⟨b1, b2, b3, b4, b5, b6⟩ := h
    rw [psh_new c]
    have ne : ∀ j, j < B.2.2.2 → B.2.2.1 j ≠ v := fun j hj g => by
      have := (b1 j hj).2
      rw [g, c] at this
      omega
    refine ⟨fun j hj => ?_, fun w hw hw0 => ?_, ?_, fun w hw hw0 => ?_, fun j hj => ?_, Nat.le_succ_of_le b6⟩
    · dsimp only at hj ⊢
      by_cases g : j = B.2.2.2
      · rw [g, up_eq, up_eq]; exact ⟨hv, rfl⟩
      · rw [up_ne g, up_ne (ne j (by omega))]
        exact b1 j (by omega)
    · dsimp only at hw0 ⊢
      by_cases g : w = v
      · rw [g, up_eq]
        exact ⟨Nat.le_refl _, by rw [show B.2.2.2 + 1 - 1 = B.2.2.2 by omega, up_eq]⟩
      · rw [up_ne g] at hw0 ⊢
        have := b2 w hw hw0
        exact ⟨by omega, by rw [up_ne (by omega)]; exact this.2⟩
    · dsimp only
      have a := sN_up (g := fun v => if B.1 v = 0 then 0 else 1) (h := fun x => if ups B.1 v (B.2.2.2 + 1) x = 0 then 0 else 1) (k := v) (n := 288) hv (fun x hx => by rw [up_ne hx])
      rw [up_eq, c, if_pos rfl, if_neg (by omega)] at a
      omega
    · dsimp only at hw0 ⊢
      by_cases g : w = v
      · rw [g, up_eq, up_eq]
        rcases hp with ⟨p1, p2⟩ | ⟨u, u1, u2, u3, u4⟩
        · exact Or.inl ⟨p1, p2⟩
        · have nu : u ≠ v := fun q => u3 (by rw [q]; exact c)
          have := b2 u u1 u3
          exact Or.inr ⟨u, u1, u2, by rw [up_ne nu]; exact u3, by rw [up_ne nu]; omega, u4⟩
      · rw [up_ne g] at hw0
        rw [up_ne g, up_ne g]
        rcases b4 w hw hw0 with q | ⟨u, u1, u2, u3, u4, u5⟩
        · exact Or.inl q
        · have nu : u ≠ v := fun q => u3 (by rw [q]; exact c)
          exact Or.inr ⟨u, u1, u2, by rw [up_ne nu]; exact u3, by rw [up_ne nu]; exact u4, u5⟩
    · dsimp only
      rw [up_ne (show j ≠ B.2.2.2 by omega)]
      refine ⟨(b5 j hj).1, fun w hw hE => ?_⟩
      have := (b5 j hj).2 w hw hE
      rw [up_ne (fun g => this (by rw [g]; exact c))]
      exact this
  · rw [psh_old c]
    exact h
theorem BI.next {E : Nat → Nat → Prop} {sr tg : Nat → Bool} {B : BS} {i : Nat} (h : BI E sr tg B i) (hi : i < B.2.2.2) (ht : tg (B.2.2.1 i) = false) (hE : ∀ v, v < 288 → E (B.2.2.1 i) v → B.1 v ≠ 0) : BI E sr tg B (i + 1) := by
  obtain ⟨b1, b2, b3, b4, b5, b6⟩ := h
  refine ⟨b1, b2, b3, b4, fun j hj => ?_, by omega⟩
  by_cases c : j = i
  · rw [c]; exact ⟨ht, hE⟩
  · exact b5 j (by omega)
def bs0 : BS := (fun _ => 0, fun _ => 0, fun _ => 0, 0)
theorem BI.zero {E : Nat → Nat → Prop} {sr tg : Nat → Bool} : BI E sr tg bs0 0 := by
  refine ⟨fun j hj => absurd hj (Nat.not_lt_zero _), fun v _ h => absurd rfl h, ?_, fun v _ h => absurd rfl h, fun j hj => absurd hj (Nat.not_lt_zero _), Nat.le_refl _⟩
  have z : ∀ n, sN (fun v => if (bs0.1 v) = 0 then 0 else 1) n = 0 := fun n => by
    induction n with
    | zero => rfl
    | succ n ih => show sN (fun v => if (bs0.1 v) = 0 then 0 else 1) n + 0 = 0; rw [ih]
  exact (z 288).symm
/-- the search is through: all that can be reached is seen, the rim is not -/
def Dn (op st t : Nat → Bool) (e : Nat → Nat → Bool) (B : BS) : Prop :=
  (∀ v, v < 288 → srN st v = true → B.1 v ≠ 0) ∧ (∀ v, v < 288 → B.1 v ≠ 0 → tgN v = false) ∧ (∀ u v, u < 288 → v < 288 → B.1 u ≠ 0 → RE op t e u v → B.1 v ≠ 0) ∧
  ∀ P : Nat → Prop, (∀ v, v < 288 → srN st v = true → P v) → (∀ u v, u < 288 → v < 288 → P u → RE op t e u v → P v) → ∀ v, v < 288 → B.1 v ≠ 0 → P v
theorem BI.dn {op st t : Nat → Bool} {e : Nat → Nat → Bool} {B : BS} (h : BI (RE op t e) (srN st) tgN B B.2.2.2) (hs : ∀ v, v < 288 → srN st v = true → B.1 v ≠ 0) : Dn op st t e B := by
  obtain ⟨b1, b2, b3, b4, b5, b6⟩ := h
  have at' : ∀ v, v < 288 → B.1 v ≠ 0 → ∃ j, j < B.2.2.2 ∧ B.2.2.1 j = v := fun v hv h0 => ⟨B.1 v - 1, by have := (b2 v hv h0).1; omega, (b2 v hv h0).2⟩
  refine ⟨hs, fun v hv h0 => ?_, fun u v hu hv h0 hE => ?_, fun P p1 p2 v hv h0 => ?_⟩
  · obtain ⟨j, j1, j2⟩ := at' v hv h0
    rw [← j2]; exact (b5 j j1).1
  · obtain ⟨j, j1, j2⟩ := at' u hu h0
    exact (b5 j j1).2 v hv (by rw [j2]; exact hE)
  · have key : ∀ k v, v < 288 → B.1 v ≠ 0 → B.1 v ≤ k → P v := by
      intro k
      induction k with
      | zero => intro v _ h0 hk; exact absurd (Nat.le_zero.mp hk) h0
      | succ k ih =>
        intro v hv h0 hk
        rcases b4 v hv h0 with ⟨_, q⟩ | ⟨u, u1, _, u3, u4, u5⟩
        · exact p1 v hv q
        · exact p2 u v u1 hv (ih u u1 u3 (by omega)) u5
    exact key (B.1 v) v hv h0 (Nat.le_refl _)
def sA (B : BS) (c : Nat) : Bool := !decide (B.1 (2 * c) = 0)
def sB (B : BS) (c : Nat) : Bool := !decide (B.1 (2 * c + 1) = 0)
theorem sA_t {B : BS} {c : Nat} : sA B c = true ↔ B.1 (2 * c) ≠ 0 := by unfold sA; simp
theorem sB_t {B : BS} {c : Nat} : sB B c = true ↔ B.1 (2 * c + 1) ≠ 0 := by unfold sB; simp
theorem Dn.cut {op st t : Nat → Bool} {e : Nat → Nat → Bool} {B : BS} (h : Dn op st t e B) : Cut op st (sA B) (sB B) := by
  refine ⟨fun c hc hs => ?_, fun c hc hb => ?_, fun c d hc hd hb hn ho => ?_⟩
  · rw [sA_t]
    refine h.1 (2 * c) (by omega) ?_
    unfold srN
    rw [show 2 * c / 2 = c by omega, hs, decide_eq_true (by omega)]
    rfl
  · rw [sB_t] at hb
    have := h.2.1 (2 * c + 1) (by omega) hb
    unfold tgN at this
    rw [show (2 * c + 1) / 2 = c by omega, decide_eq_true (by omega), Bool.true_and] at this
    exact this
  · rw [sB_t] at hb
    rw [sA_t]
    refine h.2.2.1 (2 * c + 1) (2 * d) (by omega) (by omega) hb (Or.inr ⟨by omega, by omega, Or.inr ⟨?_, ?_⟩⟩)
    · rw [show (2 * c + 1) / 2 = c by omega, show 2 * d / 2 = d by omega]; exact hn
    · rw [show 2 * d / 2 = d by omega]; exact ho
/-- own cut: as many as the paths -/
theorem Dn.own {op st t : Nat → Bool} {e : Nat → Nat → Bool} {B : BS} {n : Nat} (h : Dn op st t e B) (hF : FV op st t e 1000 n) : sZ (gpZ (sA B) (sB B)) 144 = (n : Int) := by
  have he := h.cut.eq hF
  have g0 : sZ (gZ (sA B) (sB B) t) 144 = 0 := by
    refine (sZ_congr (fun c hc => ?_)).trans sZ_0
    unfold gZ
    rw [if_neg, if_neg]
    · rintro ⟨h1, h2, h3⟩
      rw [sB_t] at h1
      have := h.2.2.1 (2 * c + 1) (2 * c) (by omega) (by omega) h1 (Or.inr ⟨by omega, by omega, Or.inl ⟨by omega, by rw [show (2 * c + 1) / 2 = c by omega]; exact h3⟩⟩)
      rw [sA_t.mpr this] at h2
      cases h2
    · rintro ⟨h1, h2, h3⟩
      rw [sA_t] at h1
      have := h.2.2.1 (2 * c) (2 * c + 1) (by omega) (by omega) h1 (Or.inl ⟨by omega, by omega, Or.inl ⟨by omega, by rw [show 2 * c / 2 = c by omega]; exact h3⟩⟩)
      rw [sB_t.mpr this] at h2
      cases h2
  have k0 : sZ (fun c => sZ (kZ (sA B) (sB B) e c) 144) 144 = 0 := by
    refine (sZ_congr (fun c hc => ?_)).trans sZ_0
    refine (sZ_congr (fun d hd => ?_)).trans sZ_0
    unfold kZ
    rw [if_neg]
    rintro ⟨h1, h2, h3⟩
    rw [sA_t] at h1
    have hnb := (hF.2.1 c d h3).2.2.1.symm
    have := h.2.2.1 (2 * d) (2 * c + 1) (by omega) (by omega) h1 (Or.inl ⟨by omega, by omega, Or.inr ⟨by rw [show 2 * d / 2 = d by omega, show (2 * c + 1) / 2 = c by omega]; exact hnb, by rw [show 2 * d / 2 = d by omega, show (2 * c + 1) / 2 = c by omega]; exact h3⟩⟩)
    rw [sB_t.mpr this] at h2
    cases h2
  rw [g0, k0] at he
  omega
theorem Dn.sub {op st t1 t2 : Nat → Bool} {e1 e2 : Nat → Nat → Bool} {B1 B2 : BS} {n : Nat} (h1 : Dn op st t1 e1 B1) (h2 : Dn op st t2 e2 B2) (F1 : FV op st t1 e1 1000 n) (hle : sZ (gpZ (sA B2) (sB B2)) 144 ≤ (n : Int)) : ∀ v, v < 288 → B1.1 v ≠ 0 → B2.1 v ≠ 0 := by
  obtain ⟨k1, k2, k3⟩ := h2.cut.tight F1 hle
  refine h1.2.2.2 (fun v => B2.1 v ≠ 0) (fun v hv hs => h2.1 v hv hs) (fun u v hu hv hPu hE => ?_)
  have du : u = 2 * (u / 2) + u % 2 := by omega
  have dv : v = 2 * (v / 2) + v % 2 := by omega
  rcases hE with ⟨m1, m2, q⟩ | ⟨m1, m2, q⟩
  · rw [m1, Nat.add_zero] at du
    rw [m2] at dv
    have hA : sA B2 (u / 2) = true := by rw [sA_t, ← du]; exact hPu
    rw [dv]
    rcases q with ⟨q1, q2⟩ | ⟨q1, q2⟩
    · rw [q1]; exact sB_t.mp (k1 (u / 2) (by omega) hA q2)
    · exact sB_t.mp (k3 (v / 2) (u / 2) (by omega) (by omega) hA q2)
  · rw [m1] at du
    rw [m2, Nat.add_zero] at dv
    have hB : sB B2 (u / 2) = true := by rw [sB_t, ← du]; exact hPu
    rw [dv]
    rcases q with ⟨q1, q2⟩ | ⟨q1, q2⟩
    · rw [q1]; exact sA_t.mp (k2 (u / 2) (by omega) hB q2)
    · exact sA_t.mp (h2.cut.2.2 (u / 2) (v / 2) (by omega) (by omega) hB q1 q2)
/-- the number of paths and the cells before the cut are the same, however the paths were found -/
theorem Dn.uniq {op st t1 t2 : Nat → Bool} {e1 e2 : Nat → Nat → Bool} {B1 B2 : BS} {n1 n2 : Nat} (h1 : Dn op st t1 e1 B1) (h2 : Dn op st t2 e2 B2) (F1 : FV op st t1 e1 1000 n1) (F2 : FV op st t2 e2 1000 n2) : n1 = n2 ∧ ∀ c, c < 144 → sA B1 c = sA B2 c ∧ sB B1 c = sB B2 c := by
  have o1 := h1.own F1
  have o2 := h2.own F2
  have l1 := h2.cut.le F1
  have l2 := h1.cut.le F2
  have en : n1 = n2 := by omega
  have s1 := h1.sub h2 F1 (by omega)
  have s2 := h2.sub h1 F2 (by omega)
  refine ⟨en, fun c hc => ⟨?_, ?_⟩⟩
  · have : sA B1 c = true ↔ sA B2 c = true := by rw [sA_t, sA_t]; exact ⟨s1 _ (by omega), s2 _ (by omega)⟩
    cases hx : sA B1 c <;> cases hy : sA B2 c <;> simp_all
  · have : sB B1 c = true ↔ sB B2 c = true := by rw [sB_t, sB_t]; exact ⟨s1 _ (by omega), s2 _ (by omega)⟩
    cases hx : sB B1 c <;> cases hy : sB B2 c <;> simp_all
/-- a path is turned over, from its last node up to node v; ps the places, t0 and e0 as they were -/
def AW (op st t0 : Nat → Bool) (e0 : Nat → Nat → Bool) (ps : Nat → Nat) (t : Nat → Bool) (e : Nat → Nat → Bool) (v n : Nat) : Prop :=
  FV op st t e v n ∧ v < 288 ∧ ps v ≠ 0 ∧ (∀ x, x < 144 → t x ≠ t0 x → ps v ≤ ps (2 * x) ∧ ps v ≤ ps (2 * x + 1)) ∧ (∀ x y, e x y ≠ e0 x y → ps v ≤ ps (2 * x + 1) ∧ ps v ≤ ps (2 * y)) ∧
  (v % 2 = 0 → ∀ y, y < 144 → e0 y (v / 2) = true → ps v < ps (2 * y + 1))
theorem AW.start {op st t0 : Nat → Bool} {e0 : Nat → Nat → Bool} {ps : Nat → Nat} {v n : Nat} (h : FV op st t0 e0 1000 n) (hv : v < 288) (h0 : ps v ≠ 0) (ht : tgN v = true) : AW op st t0 e0 ps t0 e0 v n := by
  unfold tgN at ht
  rw [Bool.and_eq_true, decide_eq_true_eq] at ht
  refine ⟨?_, hv, h0, fun x _ q => absurd rfl q, fun x y q => absurd rfl q, fun q => absurd q (by omega)⟩
  have := h.start ht.2
  rw [show 2 * (v / 2) + 1 = v by omega] at this
  exact this
/-- one step back, to u: what it changes -/
def stT (u v : Nat) (t : Nat → Bool) : Nat → Bool := if u / 2 = v / 2 then ups t (v / 2) (decide (v % 2 = 1)) else t
def stE (u v : Nat) (e : Nat → Nat → Bool) : Nat → Nat → Bool := if u / 2 = v / 2 then e else if v % 2 = 1 then eU e (v / 2) (u / 2) false else eU e (u / 2) (v / 2) true
theorem AW.step {op st t0 : Nat → Bool} {e0 : Nat → Nat → Bool} {ps : Nat → Nat} {t : Nat → Bool} {e : Nat → Nat → Bool} {u v n : Nat} (h : AW op st t0 e0 ps t e v n) (h0 : FV op st t0 e0 1000 n) (hu : u < 288) (hp : ps u ≠ 0) (hlt : ps u < ps v) (hE : RE op t0 e0 u v) (hop : ∀ x, x < 288 → ps x ≠ 0 → op (x / 2) = true) : AW op st t0 e0 ps (stT u v t) (stE u v e) u n := by
  obtain ⟨a1, a2, a3, a4, a5, a6⟩ := h
  have tt : ∀ x, x < 144 → (u = 2 * x ∨ u = 2 * x + 1) → t x = t0 x := fun x hx q => by
    by_cases g : t x = t0 x
    · exact g
    · have := a4 x hx g
      rcases q with q | q <;> rw [← q] at this <;> omega
  have ee : ∀ x y, (u = 2 * x + 1 ∨ u = 2 * y) → e x y = e0 x y := fun x y q => by
    by_cases g : e x y = e0 x y
    · exact g
    · have := a5 x y g
      rcases q with q | q <;> rw [← q] at this <;> omega
  have one : ∀ c x y, c < 144 → x < 144 → y < 144 → e0 x c = true → e0 y c = true → x = y := fun c x y hc hx hy q1 q2 => by
    by_cases g : x = y
    · exact g
    · have s := sN_two (g := fun d => b2 (e0 d c)) g (n := 144) hx hy
      have f := (h0.2.2.1 c hc).1
      rw [dv_n (show 1000 ≠ 2 * c by omega)] at f
      have := b2_le (t0 c)
      rw [q1, q2, b2_t] at s
      unfold inS at f
      omega
  have none0 : ∀ c y, c < 144 → y < 144 → t0 c = false → e0 y c = true → False := fun c y hc hy q1 q2 => by
    have s := sN_mem (g := fun d => b2 (e0 d c)) (k := y) (n := 144) hy
    have f := (h0.2.2.1 c hc).1
    rw [dv_n (show 1000 ≠ 2 * c by omega), q1, b2_f] at f
    rw [q2, b2_t] at s
    unfold inS at f
    omega
  have ou := hop u hu hp
  have ov := hop v a2 a3
  rcases hE with ⟨m1, m2, q⟩ | ⟨m1, m2, q⟩
  · -- u comes into a cell, v out of one
    obtain ⟨c, rfl⟩ : ∃ c, u = 2 * c := ⟨u / 2, by omega⟩
    obtain ⟨d, rfl⟩ : ∃ d, v = 2 * d + 1 := ⟨v / 2, by omega⟩
    have hc : c < 144 := by omega
    have hd : d < 144 := by omega
    have ec : 2 * c / 2 = c := by omega
    have ed : (2 * d + 1) / 2 = d := by omega
    rw [ec, ed] at q
    rw [ec] at ou
    rw [ed] at ov
    unfold stT stE
    rw [ec, ed]
    rcases q with ⟨q1, q2⟩ | ⟨q1, q2⟩
    · subst q1
      rw [if_pos rfl, if_pos rfl, decide_eq_true (show (2 * d + 1) % 2 = 1 by omega)]
      have td : t d = false := by rw [tt d hd (Or.inl rfl)]; exact q2
      refine ⟨a1.thru hd ov td, hu, hp, fun x hx g => ?_, fun x y g => ?_, fun _ y hy g => ?_⟩
      · by_cases g2 : x = d
        · rw [g2]; exact ⟨Nat.le_refl _, by omega⟩
        · rw [up_ne g2] at g
          have := a4 x hx g
          omega
      · have := a5 x y g
        omega
      · rw [ec] at g
        exact absurd (none0 d y hd hy q2 g) (by simp)
    · have ncd : ¬ c = d := fun g => by rw [g] at q1; unfold nb at q1; omega
      rw [if_neg ncd, if_neg ncd, if_pos (show (2 * d + 1) % 2 = 1 by omega)]
      have eh : e d c = true := by rw [ee d c (Or.inr rfl)]; exact q2
      refine ⟨a1.back hd hc eh, hu, hp, fun x hx g => ?_, fun x y g => ?_, fun _ y hy g => ?_⟩
      · have := a4 x hx g
        omega
      · by_cases g2 : x = d ∧ y = c
        · rw [g2.1, g2.2]; exact ⟨by omega, Nat.le_refl _⟩
        · rw [eU_n g2] at g
          have := a5 x y g
          omega
      · rw [ec] at g
        have := one c y d hc hy hd g q2
        rw [this]; exact hlt
  · -- u comes out of a cell, v into one
    obtain ⟨c, rfl⟩ : ∃ c, u = 2 * c + 1 := ⟨u / 2, by omega⟩
    obtain ⟨d, rfl⟩ : ∃ d, v = 2 * d := ⟨v / 2, by omega⟩
    have hc : c < 144 := by omega
    have hd : d < 144 := by omega
    have ec : (2 * c + 1) / 2 = c := by omega
    have ed : 2 * d / 2 = d := by omega
    rw [ec, ed] at q
    rw [ec] at ou
    rw [ed] at ov
    unfold stT stE
    rw [ec, ed]
    rcases q with ⟨q1, q2⟩ | ⟨q1, q2⟩
    · subst q1
      rw [if_pos rfl, if_pos rfl, decide_eq_false (show ¬ 2 * d % 2 = 1 by omega)]
      have td : t d = true := by rw [tt d hd (Or.inr rfl)]; exact q2
      refine ⟨a1.unthru hd td, hu, hp, fun x hx g => ?_, fun x y g => ?_, fun g => absurd g (by omega)⟩
      · by_cases g2 : x = d
        · rw [g2]; exact ⟨by omega, Nat.le_refl _⟩
        · rw [up_ne g2] at g
          have := a4 x hx g
          omega
      · have := a5 x y g
        omega
    · have ncd : ¬ c = d := fun g => by rw [g] at q1; unfold nb at q1; omega
      rw [if_neg ncd, if_neg ncd, if_neg (show ¬ 2 * d % 2 = 1 by omega)]
      have eh : e c d = false := by
        rw [ee c d (Or.inl rfl)]
        cases g : e0 c d with
        | false => rfl
        | true =>
          have := a6 (by omega) c hc (by rw [ed]; exact g)
          omega
      refine ⟨a1.onto hc hd q1 ou ov eh, hu, hp, fun x hx g => ?_, fun x y g => ?_, fun g => absurd g (by omega)⟩
      · have := a4 x hx g
        omega
      · by_cases g2 : x = c ∧ y = d
        · rw [g2.1, g2.2]; exact ⟨Nat.le_refl _, by omega⟩
        · rw [eU_n g2] at g
          have := a5 x y g
          omega
theorem AW.close {op st t0 : Nat → Bool} {e0 : Nat → Nat → Bool} {ps : Nat → Nat} {t : Nat → Bool} {e : Nat → Nat → Bool} {v n : Nat} (h : AW op st t0 e0 ps t e v n) (hs : srN st v = true) : FV op st t e 1000 (n + 1) := by
  unfold srN at hs
  rw [Bool.and_eq_true, decide_eq_true_eq] at hs
  have a1 := h.1
  have a2 := h.2.1
  rw [show v = 2 * (v / 2) by omega] at a1
  exact a1.close (by omega) hs.2
