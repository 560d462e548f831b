/-! ===== gaps: paths that share no cell, and cuts ===== -/
def b2 (b : Bool) : Nat := if b = true then 1 else 0
theorem b2_le (b : Bool) : b2 b ≤ 1 := by cases b <;> decide
theorem b2_t : b2 true = 1 := rfl
theorem b2_f : b2 false = 0 := rfl
/-- sums of integers -/
def sZ (g : Nat → Int) : Nat → Int
  | 0 => 0
  | n + 1 => sZ g n + g n
theorem sZ_congr {g h : Nat → Int} : ∀ {n : Nat}, (∀ i, i < n → g i = h i) → sZ g n = sZ h n
  | 0, _ => rfl
  | n + 1, e => by
    show sZ g n + g n = sZ h n + h n
    rw [sZ_congr (fun i hi => e i (by omega)), e n (by omega)]
theorem sZ_add {g h : Nat → Int} : ∀ {n : Nat}, sZ (fun i => g i + h i) n = sZ g n + sZ h n
  | 0 => rfl
  | n + 1 => by
    show sZ (fun i => g i + h i) n + (g n + h n) = (sZ g n + g n) + (sZ h n + h n)
    rw [sZ_add]; omega
theorem sZ_sub {g h : Nat → Int} : ∀ {n : Nat}, sZ (fun i => g i - h i) n = sZ g n - sZ h n
  | 0 => rfl
  | n + 1 => by
    show sZ (fun i => g i - h i) n + (g n - h n) = (sZ g n + g n) - (sZ h n + h n)
    rw [sZ_sub]; omega
theorem sZ_0 : ∀ {n : Nat}, sZ (fun _ => 0) n = 0
  | 0 => rfl
  | n + 1 => by
    show sZ (fun _ => 0) n + 0 = 0
    rw [sZ_0]; rfl
theorem sZ_swap {g : Nat → Nat → Int} {m : Nat} : ∀ {n : Nat}, sZ (fun i => sZ (g i) m) n = sZ (fun j => sZ (fun i => g i j) n) m
  | 0 => sZ_0.symm
  | n + 1 => by
    show sZ (fun i => sZ (g i) m) n + sZ (g n) m = sZ (fun j => sZ (fun i => g i j) n + g n j) m
    rw [sZ_swap, sZ_add]
theorem sZ_ite {a : Bool} {g : Nat → Int} {n : Nat} : (if a = true then sZ g n else 0) = sZ (fun i => if a = true then g i else 0) n := by
  cases a with
  | true => rfl
  | false => exact sZ_0.symm
theorem sZ_nn {g : Nat → Int} : ∀ {n : Nat}, (∀ i, i < n → 0 ≤ g i) → 0 ≤ sZ g n
  | 0, _ => Int.le_refl 0
  | n + 1, h => by
    have a := sZ_nn (n := n) (fun i hi => h i (by omega))
    have b := h n (by omega)
    show 0 ≤ sZ g n + g n
    omega
theorem sZ_z {g : Nat → Int} : ∀ {n : Nat}, (∀ i, i < n → 0 ≤ g i) → sZ g n ≤ 0 → ∀ i, i < n → g i = 0
  | 0, _, _, i, hi => absurd hi (by omega)
  | n + 1, h, hs, i, hi => by
    have a := sZ_nn (n := n) (fun i hi => h i (by omega))
    have b := h n (by omega)
    have hs' : sZ g n + g n ≤ 0 := hs
    by_cases c : i = n
    · rw [c]; omega
    · exact sZ_z (n := n) (fun i hi => h i (by omega)) (by omega) i (by omega)
theorem sZ_N {g : Nat → Nat} : ∀ {n : Nat}, sZ (fun i => (g i : Int)) n = (sN g n : Int)
  | 0 => rfl
  | n + 1 => by
    show sZ (fun i => (g i : Int)) n + (g n : Int) = ((sN g n + g n : Nat) : Int)
    rw [sZ_N]; omega
theorem sN_mem {g : Nat → Nat} {k : Nat} : ∀ {n : Nat}, k < n → g k ≤ sN g n
  | 0, h => absurd h (by omega)
  | n + 1, h => by
    show g k ≤ sN g n + g n
    by_cases c : k = n
    · rw [c]; omega
    · have := sN_mem (g := g) (k := k) (n := n) (by omega); omega
theorem sN_two {g : Nat → Nat} {j k : Nat} (hjk : j ≠ k) : ∀ {n : Nat}, j < n → k < n → g j + g k ≤ sN g n
  | 0, h, _ => absurd h (by omega)
  | n + 1, h1, h2 => by
    show g j + g k ≤ sN g n + g n
    by_cases c : j = n
    · have := sN_mem (g := g) (k := k) (n := n) (by omega)
      rw [c]; omega
    · by_cases d : k = n
      · have := sN_mem (g := g) (k := j) (n := n) (by omega)
        rw [d]; omega
      · have := sN_two (g := g) hjk (n := n) (by omega) (by omega); omega
def inS (e : Nat → Nat → Bool) (c : Nat) : Nat := sN (fun d => b2 (e d c)) 144
def ouS (e : Nat → Nat → Bool) (c : Nat) : Nat := sN (fun d => b2 (e c d)) 144
def dv (v k : Nat) : Nat := if v = k then 1 else 0
/-- n paths from st to the rim through op; one unit more goes out from node v -/
def FV (op st : Nat → Bool) (t : Nat → Bool) (e : Nat → Nat → Bool) (v n : Nat) : Prop :=
  (∀ c, c < 144 → t c = true → op c = true) ∧ (∀ c d, e c d = true → c < 144 ∧ d < 144 ∧ nb c d ∧ op c = true ∧ op d = true) ∧
  (∀ c, c < 144 → inS e c + dv v (2 * c) ≤ b2 (t c) ∧ (inS e c + dv v (2 * c) < b2 (t c) → st c = true)) ∧
  (∀ c, c < 144 → ouS e c ≤ b2 (t c) + dv v (2 * c + 1) ∧ (ouS e c < b2 (t c) + dv v (2 * c + 1) → rimB c = true)) ∧
  sN (fun c => b2 (t c)) 144 = n + sN (fun c => inS e c + dv v (2 * c)) 144
theorem dv_e {v : Nat} : dv v v = 1 := if_pos rfl
theorem dv_n {v k : Nat} (h : v ≠ k) : dv v k = 0 := if_neg h
theorem FV.start {op st t : Nat → Bool} {e : Nat → Nat → Bool} {n r : Nat} (h : FV op st t e 1000 n) (hr : rimB r = true) : FV op st t e (2 * r + 1) n := by
  obtain ⟨f1, f2, f3, f4, f5⟩ := h
  refine ⟨f1, f2, fun c hc => ?_, fun c hc => ?_, ?_⟩
  · have := f3 c hc
    rw [dv_n (show 1000 ≠ 2 * c by omega)] at this
    rw [dv_n (show 2 * r + 1 ≠ 2 * c by omega)]
    exact this
  · have := f4 c hc
    rw [dv_n (show 1000 ≠ 2 * c + 1 by omega)] at this
    by_cases g : c = r
    · rw [g] at this ⊢
      rw [dv_e]
      exact ⟨by omega, fun _ => hr⟩
    · rw [dv_n (show 2 * r + 1 ≠ 2 * c + 1 by omega)]
      exact this
  · rw [f5]
    exact congrArg (fun k => n + k) (sN_congr (fun c hc => by rw [dv_n (show 1000 ≠ 2 * c by omega), dv_n (show 2 * r + 1 ≠ 2 * c by omega)]))
/-- (a) through cell c -/
theorem FV.thru {op st t : Nat → Bool} {e : Nat → Nat → Bool} {n c : Nat} (h : FV op st t e (2 * c + 1) n) (hc : c < 144) (ho : op c = true) (ht : t c = false) : FV op st (ups t c true) e (2 * c) n := by
  obtain ⟨f1, f2, f3, f4, f5⟩ := h
  refine ⟨fun x hx hxt => ?_, f2, fun x hx => ?_, fun x hx => ?_, ?_⟩
  · by_cases g : x = c
    · rw [g]; exact ho
    · rw [up_ne g] at hxt; exact f1 x hx hxt
  · have := f3 x hx
    rw [dv_n (show 2 * c + 1 ≠ 2 * x by omega)] at this
    by_cases g : x = c
    · rw [g, ht, b2_f] at this
      rw [g, up_eq, dv_e, b2_t]
      exact ⟨by omega, fun q => absurd q (by omega)⟩
    · rw [up_ne g, dv_n (show 2 * c ≠ 2 * x by omega)]
      exact this
  · have := f4 x hx
    rw [dv_n (show 2 * c ≠ 2 * x + 1 by omega)]
    by_cases g : x = c
    · rw [g, ht, dv_e, b2_f] at this
      rw [g, up_eq, b2_t]
      exact this
    · rw [dv_n (show 2 * c + 1 ≠ 2 * x + 1 by omega)] at this
      rw [up_ne g]
      exact this
  · have a := sN_up (g := fun x => b2 (t x)) (h := fun x => b2 (ups t c true x)) (k := c) (n := 144) hc (fun x hx => by rw [up_ne hx])
    have b := sN_up (g := fun x => inS e x + dv (2 * c + 1) (2 * x)) (h := fun x => inS e x + dv (2 * c) (2 * x)) (k := c) (n := 144) hc (fun x hx => by rw [dv_n (show 2 * c + 1 ≠ 2 * x by omega), dv_n (show 2 * c ≠ 2 * x by omega)])
    rw [ht, up_eq, b2_t, b2_f] at a
    rw [dv_e, dv_n (show 2 * c + 1 ≠ 2 * c by omega)] at b
    omega
/-- (c) no more through cell c -/
theorem FV.unthru {op st t : Nat → Bool} {e : Nat → Nat → Bool} {n c : Nat} (h : FV op st t e (2 * c) n) (hc : c < 144) (ht : t c = true) : FV op st (ups t c false) e (2 * c + 1) n := by
  obtain ⟨f1, f2, f3, f4, f5⟩ := h
  refine ⟨fun x hx hxt => ?_, f2, fun x hx => ?_, fun x hx => ?_, ?_⟩
  · by_cases g : x = c
    · rw [g, up_eq] at hxt; cases hxt
    · rw [up_ne g] at hxt; exact f1 x hx hxt
  · have := f3 x hx
    rw [dv_n (show 2 * c + 1 ≠ 2 * x by omega)]
    by_cases g : x = c
    · rw [g, ht, dv_e, b2_t] at this
      rw [g, up_eq, b2_f]
      exact ⟨by omega, fun q => absurd q (by omega)⟩
    · rw [dv_n (show 2 * c ≠ 2 * x by omega)] at this
      rw [up_ne g]
      exact this
  · have := f4 x hx
    rw [dv_n (show 2 * c ≠ 2 * x + 1 by omega)] at this
    by_cases g : x = c
    · rw [g, ht, b2_t] at this
      rw [g, up_eq, dv_e, b2_f]
      exact ⟨by omega, fun q => this.2 (by omega)⟩
    · rw [up_ne g, dv_n (show 2 * c + 1 ≠ 2 * x + 1 by omega)]
      exact this
  · have a := sN_up (g := fun x => b2 (t x)) (h := fun x => b2 (ups t c false x)) (k := c) (n := 144) hc (fun x hx => by rw [up_ne hx])
    have b := sN_up (g := fun x => inS e x + dv (2 * c) (2 * x)) (h := fun x => inS e x + dv (2 * c + 1) (2 * x)) (k := c) (n := 144) hc (fun x hx => by rw [dv_n (show 2 * c + 1 ≠ 2 * x by omega), dv_n (show 2 * c ≠ 2 * x by omega)])
    rw [ht, up_eq, b2_t, b2_f] at a
    rw [dv_e, dv_n (show 2 * c + 1 ≠ 2 * c by omega)] at b
    omega
def eU (e : Nat → Nat → Bool) (c d : Nat) (b : Bool) (x y : Nat) : Bool := if x = c ∧ y = d then b else e x y
theorem eU_e {e : Nat → Nat → Bool} {c d : Nat} {b : Bool} : eU e c d b c d = b := if_pos ⟨rfl, rfl⟩
theorem eU_n {e : Nat → Nat → Bool} {c d x y : Nat} {b : Bool} (h : ¬ (x = c ∧ y = d)) : eU e c d b x y = e x y := if_neg h
theorem in_U {e : Nat → Nat → Bool} {c d : Nat} {b : Bool} (hc : c < 144) : inS (eU e c d b) d + b2 (e c d) = inS e d + b2 b := by
  have := sN_up (g := fun x => b2 (e x d)) (h := fun x => b2 (eU e c d b x d)) (k := c) (n := 144) hc (fun x hx => by rw [eU_n (fun q => hx q.1)])
  rw [eU_e] at this
  exact this
theorem in_U2 {e : Nat → Nat → Bool} {c d x : Nat} {b : Bool} (h : x ≠ d) : inS (eU e c d b) x = inS e x := sN_congr (fun y _ => by rw [eU_n (fun q => h q.2)])
theorem ou_U {e : Nat → Nat → Bool} {c d : Nat} {b : Bool} (hd : d < 144) : ouS (eU e c d b) c + b2 (e c d) = ouS e c + b2 b := by
  have := sN_up (g := fun x => b2 (e c x)) (h := fun x => b2 (eU e c d b c x)) (k := d) (n := 144) hd (fun x hx => by rw [eU_n (fun q => hx q.2)])
  rw [eU_e] at this
  exact this
theorem ou_U2 {e : Nat → Nat → Bool} {c d x : Nat} {b : Bool} (h : x ≠ c) : ouS (eU e c d b) x = ouS e x := sN_congr (fun y _ => by rw [eU_n (fun q => h q.1)])
/-- (b) back along c to d -/
theorem FV.back {op st t : Nat → Bool} {e : Nat → Nat → Bool} {n c d : Nat} (h : FV op st t e (2 * c + 1) n) (hc : c < 144) (hd : d < 144) (he : e c d = true) : FV op st t (eU e c d false) (2 * d) n := by
  obtain ⟨f1, f2, f3, f4, f5⟩ := h
  have i1 := in_U (e := e) (c := c) (d := d) (b := false) hc
  have o1 := ou_U (e := e) (c := c) (d := d) (b := false) hd
  rw [he, b2_t, b2_f] at i1 o1
  refine ⟨f1, fun x y hxy => ?_, fun x hx => ?_, fun x hx => ?_, ?_⟩
  · by_cases g : x = c ∧ y = d
    · rw [g.1, g.2, eU_e] at hxy; cases hxy
    · rw [eU_n g] at hxy; exact f2 x y hxy
  · have := f3 x hx
    rw [dv_n (show 2 * c + 1 ≠ 2 * x by omega)] at this
    by_cases g : x = d
    · rw [g] at this ⊢
      rw [dv_e]
      exact ⟨by omega, fun q => this.2 (by omega)⟩
    · rw [in_U2 g, dv_n (show 2 * d ≠ 2 * x by omega)]
      exact this
  · have := f4 x hx
    rw [dv_n (show 2 * d ≠ 2 * x + 1 by omega)]
    by_cases g : x = c
    · rw [g, dv_e] at this
      rw [g]
      exact ⟨by omega, fun q => this.2 (by omega)⟩
    · rw [dv_n (show 2 * c + 1 ≠ 2 * x + 1 by omega)] at this
      rw [ou_U2 g]
      exact this
  · rw [f5]
    refine congrArg (fun k => n + k) (sN_congr (fun x hx => ?_))
    rw [dv_n (show 2 * c + 1 ≠ 2 * x by omega)]
    by_cases g : x = d
    · rw [g, dv_e]; omega
    · rw [in_U2 g, dv_n (show 2 * d ≠ 2 * x by omega)]
/-- (d) on from c to d -/
theorem FV.onto {op st t : Nat → Bool} {e : Nat → Nat → Bool} {n c d : Nat} (h : FV op st t e (2 * d) n) (hc : c < 144) (hd : d < 144) (hn : nb c d) (ho : op c = true) (ho2 : op d = true) (he : e c d = false) : FV op st t (eU e c d true) (2 * c + 1) n := by
  obtain ⟨f1, f2, f3, f4, f5⟩ := h
  have i1 := in_U (e := e) (c := c) (d := d) (b := true) hc
  have o1 := ou_U (e := e) (c := c) (d := d) (b := true) hd
  rw [he, b2_t, b2_f] at i1 o1
  refine ⟨f1, fun x y hxy => ?_, fun x hx => ?_, fun x hx => ?_, ?_⟩
  · by_cases g : x = c ∧ y = d
    · rw [g.1, g.2]; exact ⟨hc, hd, hn, ho, ho2⟩
    · rw [eU_n g] at hxy; exact f2 x y hxy
  · have := f3 x hx
    rw [dv_n (show 2 * c + 1 ≠ 2 * x by omega)]
    by_cases g : x = d
    · rw [g, dv_e] at this
      rw [g]
      exact ⟨by omega, fun q => this.2 (by omega)⟩
    · rw [dv_n (show 2 * d ≠ 2 * x by omega)] at this
      rw [in_U2 g]
      exact this
  · have := f4 x hx
    rw [dv_n (show 2 * d ≠ 2 * x + 1 by omega)] at this
    by_cases g : x = c
    · rw [g] at this ⊢
      rw [dv_e]
      exact ⟨by omega, fun q => this.2 (by omega)⟩
    · rw [ou_U2 g, dv_n (show 2 * c + 1 ≠ 2 * x + 1 by omega)]
      exact this
  · rw [f5]
    refine congrArg (fun k => n + k) (sN_congr (fun x hx => ?_))
    rw [dv_n (show 2 * c + 1 ≠ 2 * x by omega)]
    by_cases g : x = d
    · rw [g, dv_e]; omega
    · rw [in_U2 g, dv_n (show 2 * d ≠ 2 * x by omega)]
/-- at the shaft: a path more -/
theorem FV.close {op st t : Nat → Bool} {e : Nat → Nat → Bool} {n c : Nat} (h : FV op st t e (2 * c) n) (hc : c < 144) (hs : st c = true) : FV op st t e 1000 (n + 1) := by
  obtain ⟨f1, f2, f3, f4, f5⟩ := h
  refine ⟨f1, f2, fun x hx => ?_, fun x hx => ?_, ?_⟩
  · have := f3 x hx
    rw [dv_n (show 1000 ≠ 2 * x by omega)]
    by_cases g : x = c
    · rw [g, dv_e] at this
      rw [g]
      exact ⟨by omega, fun _ => hs⟩
    · rw [dv_n (show 2 * c ≠ 2 * x by omega)] at this
      exact this
  · have := f4 x hx
    rw [dv_n (show 2 * c ≠ 2 * x + 1 by omega)] at this
    rw [dv_n (show 1000 ≠ 2 * x + 1 by omega)]
    exact this
  · have e2 : sN (fun x => inS e x + dv 1000 (2 * x)) 144 = sN (fun x => inS e x) 144 := sN_congr (fun x hx => by rw [dv_n (show 1000 ≠ 2 * x by omega), Nat.add_zero])
    have e3 : sN (fun x => inS e x + dv (2 * c) (2 * x)) 144 + inS e c = sN (fun x => inS e x) 144 + (inS e c + dv (2 * c) (2 * c)) := sN_up (g := fun x => inS e x) (h := fun x => inS e x + dv (2 * c) (2 * x)) (k := c) (n := 144) hc (fun x hx => by rw [dv_n (show 2 * c ≠ 2 * x by omega), Nat.add_zero])
    rw [dv_e] at e3
    rw [e2]
    omega
theorem FV.zero {op st : Nat → Bool} : FV op st (fun _ => false) (fun _ _ => false) 1000 0 := by
  have z : ∀ n, sN (fun _ => b2 false) n = 0 := fun n => by
    induction n with
    | zero => rfl
    | succ n ih => show sN (fun _ => b2 false) n + b2 false = 0; rw [ih]; rfl
  refine ⟨fun c _ h => absurd (show false = true from h) (by decide), fun c d h => absurd (show false = true from h) (by decide), fun c hc => ?_, fun c hc => ?_, ?_⟩
  · rw [dv_n (show 1000 ≠ 2 * c by omega)]
    unfold inS
    rw [z]
    exact ⟨Nat.le_refl _, fun q => absurd (show 0 + 0 < b2 false from q) (by decide)⟩
  · rw [dv_n (show 1000 ≠ 2 * c + 1 by omega)]
    unfold ouS
    rw [z]
    exact ⟨Nat.le_refl _, fun q => absurd (show 0 < b2 false + 0 from q) (by decide)⟩
  · rw [z, Nat.zero_add]
    refine (z 144).symm.trans (sN_congr (fun c hc => ?_))
    rw [dv_n (show 1000 ≠ 2 * c by omega)]
    unfold inS
    rw [z]
    rfl
theorem FV.le {op st t : Nat → Bool} {e : Nat → Nat → Bool} {n c : Nat} (h : FV op st t e 1000 n) (hc : c < 144) (ho : op c = false) : n ≤ 143 := by
  obtain ⟨f1, f2, f3, f4, f5⟩ := h
  have tc : t c = false := by
    cases g : t c with
    | false => rfl
    | true => have := f1 c hc g; rw [ho] at this; cases this
  have a := sN_up (g := fun x => b2 (t x)) (h := fun x => b2 (ups t c true x)) (k := c) (n := 144) hc (fun x hx => by rw [up_ne hx])
  have b := sN_le (g := fun x => b2 (ups t c true x)) (B := 1) (n := 144) (fun i _ => b2_le _)
  rw [tc, up_eq, b2_t, b2_f] at a
  omega
/-- a cut: A the cells that one comes into, B those that one comes out of -/
def Cut (op st A B : Nat → Bool) : Prop := (∀ c, c < 144 → st c = true → A c = true) ∧ (∀ c, c < 144 → B c = true → rimB c = false) ∧ ∀ c d, c < 144 → d < 144 → B c = true → nb c d → op d = true → A d = true
def gpZ (A B : Nat → Bool) (c : Nat) : Int := if A c = true ∧ B c = false then 1 else 0
def gZ (A B t : Nat → Bool) (c : Nat) : Int := if A c = true ∧ B c = false ∧ t c = false then 1 else if B c = true ∧ A c = false ∧ t c = true then 1 else 0
def kZ (A B : Nat → Bool) (e : Nat → Nat → Bool) (c d : Nat) : Int := if A d = true ∧ B c = false ∧ e c d = true then 1 else 0
theorem Cut.eq {op st t A B : Nat → Bool} {e : Nat → Nat → Bool} {n : Nat} (h : FV op st t e 1000 n) (hC : Cut op st A B) : (n : Int) + (sZ (gZ A B t) 144 + sZ (fun c => sZ (kZ A B e c) 144) 144) = sZ (gpZ A B) 144 := by
  obtain ⟨f1, f2, f3, f4, f5⟩ := h
  have hn : (n : Int) = sZ (fun c => (b2 (t c) : Int)) 144 - sZ (fun c => (inS e c : Int)) 144 := by
    rw [sZ_N, sZ_N]
    have : sN (fun c => inS e c + dv 1000 (2 * c)) 144 = sN (inS e) 144 := sN_congr (fun c hc => by rw [dv_n (show 1000 ≠ 2 * c by omega), Nat.add_zero])
    rw [this] at f5
    omega
  have e1 : sZ (fun c => (b2 (t c) : Int)) 144 - sZ (fun c => (inS e c : Int)) 144 = sZ (fun c => (if A c = true then (b2 (t c) : Int) else 0)) 144 - sZ (fun c => (if A c = true then (inS e c : Int) else 0)) 144 := by
    rw [← sZ_sub, ← sZ_sub]
    refine sZ_congr (fun c hc => ?_)
    cases ga : A c with
    | true => simp
    | false =>
      have := f3 c hc
      rw [dv_n (show 1000 ≠ 2 * c by omega), Nat.add_zero] at this
      have ns : ¬ inS e c < b2 (t c) := fun q => by
        have := hC.1 c hc (this.2 q)
        rw [ga] at this; cases this
      simp
      omega
  have e2 : sZ (fun c => (if B c = true then (b2 (t c) : Int) else 0)) 144 - sZ (fun c => (if B c = true then (ouS e c : Int) else 0)) 144 = 0 := by
    rw [← sZ_sub]
    refine (sZ_congr (fun c hc => ?_)).trans sZ_0
    cases gb : B c with
    | false => simp
    | true =>
      have := f4 c hc
      rw [dv_n (show 1000 ≠ 2 * c + 1 by omega), Nat.add_zero] at this
      have ns : ¬ ouS e c < b2 (t c) := fun q => by
        have := this.2 q
        rw [hC.2.1 c hc gb] at this; cases this
      simp
      omega
  have e3 : sZ (fun c => (if A c = true then (inS e c : Int) else 0)) 144 = sZ (fun c => sZ (fun d => if A d = true then (b2 (e c d) : Int) else 0) 144) 144 := by
    rw [sZ_swap]
    refine sZ_congr (fun c _ => ?_)
    unfold inS
    rw [← sZ_N, sZ_ite]
  have e4 : sZ (fun c => (if B c = true then (ouS e c : Int) else 0)) 144 = sZ (fun c => sZ (fun d => if B c = true then (b2 (e c d) : Int) else 0) 144) 144 := by
    refine sZ_congr (fun c _ => ?_)
    unfold ouS
    rw [← sZ_N, sZ_ite]
  have e5 : sZ (fun c => sZ (fun d => if A d = true then (b2 (e c d) : Int) else 0) 144) 144 - sZ (fun c => sZ (fun d => if B c = true then (b2 (e c d) : Int) else 0) 144) 144 = sZ (fun c => sZ (kZ A B e c) 144) 144 := by
    rw [← sZ_sub]
    refine sZ_congr (fun c hc => ?_)
    rw [← sZ_sub]
    refine sZ_congr (fun d hd => ?_)
    unfold kZ
    cases ge : e c d with
    | false => simp [b2_f]
    | true =>
      cases gb : B c with
      | false => cases A d <;> simp [b2_t]
      | true =>
        have := f2 c d ge
        rw [hC.2.2 c d hc hd gb this.2.2.1 this.2.2.2.2]
        simp [b2_t]
  have e6 : sZ (fun c => (if A c = true then (b2 (t c) : Int) else 0)) 144 - sZ (fun c => (if B c = true then (b2 (t c) : Int) else 0)) 144 = sZ (gpZ A B) 144 - sZ (gZ A B t) 144 := by
    rw [← sZ_sub, ← sZ_sub]
    refine sZ_congr (fun c _ => ?_)
    unfold gpZ gZ
    cases A c <;> cases B c <;> cases t c <;> simp [b2_t, b2_f]
  omega
theorem gZ_nn {A B t : Nat → Bool} (c : Nat) : 0 ≤ gZ A B t c := by
  unfold gZ
  split
  · decide
  · split <;> decide
theorem kZ_nn {A B : Nat → Bool} {e : Nat → Nat → Bool} (c d : Nat) : 0 ≤ kZ A B e c d := by
  unfold kZ
  split <;> decide
theorem Cut.le {op st t A B : Nat → Bool} {e : Nat → Nat → Bool} {n : Nat} (h : FV op st t e 1000 n) (hC : Cut op st A B) : (n : Int) ≤ sZ (gpZ A B) 144 := by
  have := hC.eq h
  have a := sZ_nn (n := 144) (fun c _ => gZ_nn (A := A) (B := B) (t := t) c)
  have b := sZ_nn (n := 144) (g := fun c => sZ (kZ A B e c) 144) (fun c _ => sZ_nn (fun d _ => kZ_nn c d))
  omega
/-- a cut that is no larger than the paths are many: nothing leaves it -/
theorem Cut.tight {op st t A B : Nat → Bool} {e : Nat → Nat → Bool} {n : Nat} (h : FV op st t e 1000 n) (hC : Cut op st A B) (hle : sZ (gpZ A B) 144 ≤ (n : Int)) : (∀ c, c < 144 → A c = true → t c = false → B c = true) ∧ (∀ c, c < 144 → B c = true → t c = true → A c = true) ∧ ∀ c d, c < 144 → d < 144 → A d = true → e c d = true → B c = true := by
  have he := hC.eq h
  have a := sZ_nn (n := 144) (fun c _ => gZ_nn (A := A) (B := B) (t := t) c)
  have b := sZ_nn (n := 144) (g := fun c => sZ (kZ A B e c) 144) (fun c _ => sZ_nn (fun d _ => kZ_nn c d))
  have ga := sZ_z (n := 144) (fun c _ => gZ_nn (A := A) (B := B) (t := t) c) (by omega)
  have kb := sZ_z (n := 144) (g := fun c => sZ (kZ A B e c) 144) (fun c _ => sZ_nn (fun d _ => kZ_nn c d)) (by omega)
  refine ⟨fun c hc h1 h2 => ?_, fun c hc h1 h2 => ?_, fun c d hc hd h1 h2 => ?_⟩
  · have := ga c hc
    cases g : B c with
    | true => rfl
    | false => unfold gZ at this; rw [if_pos ⟨h1, g, h2⟩] at this; exact absurd this (by decide)
  · have := ga c hc
    cases g : A c with
    | true => rfl
    | false => unfold gZ at this; rw [if_neg (fun q => by rw [g] at q; cases q.1), if_pos ⟨h1, g, h2⟩] at this; exact absurd this (by decide)
  · have k1 := kb c hc
    have k2 := sZ_z (n := 144) (g := kZ A B e c) (fun d _ => kZ_nn c d) (by omega) d hd
    cases g : B c with
    | true => rfl
    | false => unfold kZ at k2; rw [if_pos ⟨h1, g, h2⟩] at k2; exact absurd k2 (by decide)
