/-! ===== the words of the shallow programs ===== -/
def inb (i : Int32) (n : Nat) : Bool := decide (0 ≤ i.toInt) && decide (i.toInt < n)
theorem inb_vp {i : Int32} {n : Nat} (h : inb i n = true) : vp_in i n := by
  simp only [inb, Bool.and_eq_true, decide_eq_true_eq] at h
  exact vp_in_iff.mpr h
theorem inb_lt {i : Int32} {n : Nat} (h : inb i n = true) : i.toNatClampNeg < n := Nat.not_le.mp fun q => inb_vp h (Or.inr q)
def gI {α : Type} (c k : Nat) (z : Hp) (a : Nat) (f : Int32 → Option α) : Option α := if (zK z a).1 = c + 7 then f (zI z a k) else none
def gR {α : Type} (c k : Nat) (z : Hp) (a : Nat) (f : Nat → Option α) : Option α := if (zK z a).1 = c + 7 then (match zR z a k with | some b => f b | none => none) else none
def pI {α : Type} (c k : Nat) (z : Hp) (a : Nat) (v : Int32) (f : Hp → Option α) : Option α := if (zK z a).1 = c + 7 then f (wI z a (ups (zI z a) k v)) else none
def pR {α : Type} (c k : Nat) (z : Hp) (a r : Nat) (f : Hp → Option α) : Option α := if (zK z a).1 = c + 7 then f (wR z a (ups (zR z a) k (some r))) else none
/-- an array of ints (t = 1), booleans (2), bytes (3): a place of it -/
def aI {α : Type} (t : Nat) (z : Hp) (a : Nat) (i : Int32) (f : Int32 → Option α) : Option α := if (zK z a).1 = t ∧ inb i (zK z a).2 = true then f (zI z a i.toNatClampNeg) else none
def sI {α : Type} (t : Nat) (z : Hp) (a : Nat) (i v : Int32) (f : Hp → Option α) : Option α := if (zK z a).1 = t ∧ inb i (zK z a).2 = true then f (wI z a (ups (zI z a) i.toNatClampNeg v)) else none
def aL {α : Type} (z : Hp) (a : Nat) (i : Int32) (f : Int64 → Option α) : Option α := if (zK z a).1 = 4 ∧ inb i (zK z a).2 = true then f (zL z a i.toNatClampNeg) else none
def sL {α : Type} (z : Hp) (a : Nat) (i : Int32) (v : Int64) (f : Hp → Option α) : Option α := if (zK z a).1 = 4 ∧ inb i (zK z a).2 = true then f (wL z a (ups (zL z a) i.toNatClampNeg v)) else none
/-- an array of references: t = 5 (State[]), 6 (long[][]) -/
def aO {α : Type} (t : Nat) (z : Hp) (a : Nat) (i : Int32) (f : Option Nat → Option α) : Option α := if (zK z a).1 = t ∧ inb i (zK z a).2 = true then f (zR z a i.toNatClampNeg) else none
def aR {α : Type} (t : Nat) (z : Hp) (a : Nat) (i : Int32) (f : Nat → Option α) : Option α := if (zK z a).1 = t ∧ inb i (zK z a).2 = true then (match zR z a i.toNatClampNeg with | some b => f b | none => none) else none
def sR {α : Type} (z : Hp) (a : Nat) (i : Int32) (r : Nat) (f : Hp → Option α) : Option α := if ((zK z a).1 = 5 ∧ inb i (zK z a).2 = true) ∧ (zK z r).1 = 8 + 7 then f (wR z a (ups (zR z a) i.toNatClampNeg (some r))) else none
/-- an array's length (t: its kind) -/
def aN {α : Type} (t : Nat) (z : Hp) (a : Nat) (f : Int32 → Option α) : Option α := if (zK z a).1 = t then f (nI (zK z a).2) else none
def onul {α : Type} (r : Option Nat) (f : Option α) (g : Nat → Option α) : Option α := match r with | none => f | some b => g b
/-- a call, and what follows -/
def bnd {σ α : Type} (t : Option (σ × Hp)) (k : σ → Hp → Option α) : Option α := match t with | some (r, z) => k r z | none => none
/-- an object's class: 'this' of a call -/
def isC {α : Type} (c : Nat) (z : Hp) (a : Nat) (t : Option α) : Option α := if (zK z a).1 = c + 7 then t else none
def ClsOk (c : Nat) (C : String) (T : u_T) (N : Nat) (ty : Nat → FieldType) : Prop := cls_T[c]? = some (C, T, N) ∧ (∀ w ∈ u_ws C T N, w ∈ gw) ∧ (∀ k, k < N → parseFieldDescriptor (T k).2.2.1 = some (ty k)) ∧ ∀ a, a < N → ∀ b, b < N → a ≠ b → (T a).2.1 ≠ (T b).2.1
theorem Rl.obj {Γ : Am} {z : Hp} {H : Heap} {a c : Nat} (h : Rl Γ z H) (hk : (zK z a).1 = c + 7) : t_OB (mB Γ + a) (mC Γ c) (nF c) (mS Γ c) H (fval Γ z c a) := by
  have h1 := h.2.2.1 a
  unfold CellAt at h1
  generalize zK z a = q at h1 hk
  obtain ⟨q1, q2⟩ := q
  have e : q1 = c + 7 := hk
  subst e
  exact h1
theorem CellAt.obj {Γ : Am} {z : Hp} {H : Heap} {a c : Nat} (hk : (zK z a).1 = c + 7) (h : t_OB (mB Γ + a) (mC Γ c) (nF c) (mS Γ c) H (fval Γ z c a)) : CellAt Γ z H a := by
  unfold CellAt
  generalize zK z a = q at hk
  obtain ⟨q1, q2⟩ := q
  have e : q1 = c + 7 := hk
  subst e
  exact h
def arrP (Γ : Am) (z : Hp) (a t n : Nat) : Cell := match t with
  | 1 => arrV (mA Γ 0) n (fun j => .int (zI z a j))
  | 2 => arrV (mA Γ 1) n (fun j => .int (zI z a j))
  | 3 => arrV (mA Γ 2) n (fun j => .int (zI z a j))
  | 4 => arrV (mA Γ 3) n (fun j => .long (zL z a j))
  | 5 => arrV (mA Γ 4) n (fun j => rfv Γ (zR z a j))
  | _ => arrV (mA Γ 5) n (fun j => rfv Γ (zR z a j))

theorem Rl.arr1 {Γ : Am} {z : Hp} {H : Heap} {a : Nat} (h : Rl Γ z H) (hk : (zK z a).1 = 1) : H[mB Γ + a]? = some (arrP Γ z a 1 (zK z a).2) := by
  have h1 := h.2.2.1 a
  unfold CellAt at h1
  generalize zK z a = q at h1 hk ⊢
  obtain ⟨q1, q2⟩ := q
  have e : q1 = 1 := hk
  subst e
  exact h1
theorem CellAt.arr1 {Γ : Am} {z : Hp} {H : Heap} {a : Nat} (hk : (zK z a).1 = 1) (h : H[mB Γ + a]? = some (arrP Γ z a 1 (zK z a).2)) : CellAt Γ z H a := by
  unfold CellAt
  generalize zK z a = q at hk h ⊢
  obtain ⟨q1, q2⟩ := q
  have e : q1 = 1 := hk
  subst e
  exact h
theorem Rl.arr2 {Γ : Am} {z : Hp} {H : Heap} {a : Nat} (h : Rl Γ z H) (hk : (zK z a).1 = 2) : H[mB Γ + a]? = some (arrP Γ z a 2 (zK z a).2) := by
  have h1 := h.2.2.1 a
  unfold CellAt at h1
  generalize zK z a = q at h1 hk ⊢
  obtain ⟨q1, q2⟩ := q
  have e : q1 = 2 := hk
  subst e
  exact h1
theorem CellAt.arr2 {Γ : Am} {z : Hp} {H : Heap} {a : Nat} (hk : (zK z a).1 = 2) (h : H[mB Γ + a]? = some (arrP Γ z a 2 (zK z a).2)) : CellAt Γ z H a := by
  unfold CellAt
  generalize zK z a = q at hk h ⊢
  obtain ⟨q1, q2⟩ := q
  have e : q1 = 2 := hk
  subst e
  exact h
theorem Rl.arr3 {Γ : Am} {z : Hp} {H : Heap} {a : Nat} (h : Rl Γ z H) (hk : (zK z a).1 = 3) : H[mB Γ + a]? = some (arrP Γ z a 3 (zK z a).2) := by
  have h1 := h.2.2.1 a
  unfold CellAt at h1
  generalize zK z a = q at h1 hk ⊢
  obtain ⟨q1, q2⟩ := q
  have e : q1 = 3 := hk
  subst e
  exact h1
theorem CellAt.arr3 {Γ : Am} {z : Hp} {H : Heap} {a : Nat} (hk : (zK z a).1 = 3) (h : H[mB Γ + a]? = some (arrP Γ z a 3 (zK z a).2)) : CellAt Γ z H a := by
  unfold CellAt
  generalize zK z a = q at hk h ⊢
  obtain ⟨q1, q2⟩ := q
  have e : q1 = 3 := hk
  subst e
  exact h
theorem Rl.arr4 {Γ : Am} {z : Hp} {H : Heap} {a : Nat} (h : Rl Γ z H) (hk : (zK z a).1 = 4) : H[mB Γ + a]? = some (arrP Γ z a 4 (zK z a).2) := by
  have h1 := h.2.2.1 a
  unfold CellAt at h1
  generalize zK z a = q at h1 hk ⊢
  obtain ⟨q1, q2⟩ := q
  have e : q1 = 4 := hk
  subst e
  exact h1
theorem CellAt.arr4 {Γ : Am} {z : Hp} {H : Heap} {a : Nat} (hk : (zK z a).1 = 4) (h : H[mB Γ + a]? = some (arrP Γ z a 4 (zK z a).2)) : CellAt Γ z H a := by
  unfold CellAt
  generalize zK z a = q at hk h ⊢
  obtain ⟨q1, q2⟩ := q
  have e : q1 = 4 := hk
  subst e
  exact h
theorem Rl.arr5 {Γ : Am} {z : Hp} {H : Heap} {a : Nat} (h : Rl Γ z H) (hk : (zK z a).1 = 5) : H[mB Γ + a]? = some (arrP Γ z a 5 (zK z a).2) := by
  have h1 := h.2.2.1 a
  unfold CellAt at h1
  generalize zK z a = q at h1 hk ⊢
  obtain ⟨q1, q2⟩ := q
  have e : q1 = 5 := hk
  subst e
  exact h1
theorem CellAt.arr5 {Γ : Am} {z : Hp} {H : Heap} {a : Nat} (hk : (zK z a).1 = 5) (h : H[mB Γ + a]? = some (arrP Γ z a 5 (zK z a).2)) : CellAt Γ z H a := by
  unfold CellAt
  generalize zK z a = q at hk h ⊢
  obtain ⟨q1, q2⟩ := q
  have e : q1 = 5 := hk
  subst e
  exact h
theorem Rl.arr6 {Γ : Am} {z : Hp} {H : Heap} {a : Nat} (h : Rl Γ z H) (hk : (zK z a).1 = 6) : H[mB Γ + a]? = some (arrP Γ z a 6 (zK z a).2) := by
  have h1 := h.2.2.1 a
  unfold CellAt at h1
  generalize zK z a = q at h1 hk ⊢
  obtain ⟨q1, q2⟩ := q
  have e : q1 = 6 := hk
  subst e
  exact h1
theorem CellAt.arr6 {Γ : Am} {z : Hp} {H : Heap} {a : Nat} (hk : (zK z a).1 = 6) (h : H[mB Γ + a]? = some (arrP Γ z a 6 (zK z a).2)) : CellAt Γ z H a := by
  unfold CellAt
  generalize zK z a = q at hk h ⊢
  obtain ⟨q1, q2⟩ := q
  have e : q1 = 6 := hk
  subst e
  exact h
section JHEAP
variable {l : Launch} {Γ : Am} {M : Mi} {ρ : Type} {cv : ρ → Option Value} {mc ms pc : Nat} {lv : List (Nat × Value)} {st : List Value} {z : Hp} {t : Option (ρ × Hp)} {C : String} {T : u_T} {N : Nat} {ty : Nat → FieldType} {a c k idx : Nat}
theorem j_getI {f : Int32 → Option (ρ × Hp)} (hcl : ClsOk c C T N ty) (hk : k < N) (hf : fRef c k = false) (hlink : Cond.fieldLink M.1 idx (T k).1 (T k).2.1 (T k).2.2.1 ∈ gw) (hd : decode M.2.1 pc = .ok (.getfield idx, 3)) (kk : ∀ x : Int32, J l Γ M cv mc ms (pc + 3) lv (.int x :: st) z (f x)) : J l Γ M cv mc ms pc lv (.ref (mB Γ + a) :: st) z (gI c k z a f) := by
  intro v z1 ht p e s m args below meth c0 H locs cells slots ls hC hK hv hR hL h1 h2
  unfold gI at ht
  by_cases hkd : (zK z a).1 = c + 7
  · rw [if_pos hkd] at ht
    obtain ⟨cell, q1, q2, q3, q4⟩ := hR.obj hkd
    obtain ⟨hc, hin, hty, hnm⟩ := hcl
    obtain ⟨hS, hfc, kC, hkC, hkind⟩ := hK.1 c _ hc
    obtain ⟨cf, kf, fi, fd, hi, hsl⟩ := hS k hk
    have hts := hC.2.2.2.2.2.2.2
    refine W.getf hC.1 hC.2.1 hC.2.2.2.1 (hts _ hlink) hi (u_facts hfc hkC (u_lays hts hin hk) hi).1 q1 (by rw [q3]; exact fun h => by cases h) (v := .int (zI z a k)) ?_ rfl rfl hd (kk _ v z1 ht p e s m args below meth c0 H locs cells slots ls hC hK hv hR hL h1 h2)
    rw [hsl, q4 k (by rw [nF_of hc]; exact hk)]
    simp [fval, hf]
  · rw [if_neg hkd] at ht
    cases ht
theorem j_getR {f : Nat → Option (ρ × Hp)} (hcl : ClsOk c C T N ty) (hk : k < N) (hf : fRef c k = true) (hlink : Cond.fieldLink M.1 idx (T k).1 (T k).2.1 (T k).2.2.1 ∈ gw) (hd : decode M.2.1 pc = .ok (.getfield idx, 3)) (kk : ∀ b : Nat, J l Γ M cv mc ms (pc + 3) lv (.ref (mB Γ + b) :: st) z (f b)) : J l Γ M cv mc ms pc lv (.ref (mB Γ + a) :: st) z (gR c k z a f) := by
  intro v z1 ht p e s m args below meth c0 H locs cells slots ls hC hK hv hR hL h1 h2
  unfold gR at ht
  by_cases hkd : (zK z a).1 = c + 7
  · rw [if_pos hkd] at ht
    cases hb : zR z a k with
    | none => rw [hb] at ht; cases ht
    | some b =>
      rw [hb] at ht
      obtain ⟨cell, q1, q2, q3, q4⟩ := hR.obj hkd
      obtain ⟨hc, hin, hty, hnm⟩ := hcl
      obtain ⟨hS, hfc, kC, hkC, hkind⟩ := hK.1 c _ hc
      obtain ⟨cf, kf, fi, fd, hi, hsl⟩ := hS k hk
      have hts := hC.2.2.2.2.2.2.2
      refine W.getf hC.1 hC.2.1 hC.2.2.2.1 (hts _ hlink) hi (u_facts hfc hkC (u_lays hts hin hk) hi).1 q1 (by rw [q3]; exact fun h => by cases h) (v := .ref (mB Γ + b)) ?_ rfl rfl hd (kk b v z1 ht p e s m args below meth c0 H locs cells slots ls hC hK hv hR hL h1 h2)
      rw [hsl, q4 k (by rw [nF_of hc]; exact hk)]
      simp [fval, hf, hb, rfv, va_rf]
  · rw [if_neg hkd] at ht
    cases ht
/-- a field's store, final or not -/
theorem w_put {p : Program} {e : Env} {s : State} {m : MethodId} {args : Array Value} {below : List Frame} {meth : Method} {c0 : Code} {H : Heap} {locs : List Loc} {cells slots : Nat} {Q : State → Prop} {ls : Array Slot} {v : Value} (hcl : ClsOk c C T N ty) (hC : Cx M p s m args meth c0) (hK : Kw Γ s) (hR : Rl Γ z H) (hkd : (zK z a).1 = c + 7) (hk : k < N) (hlink : Cond.fieldLink M.1 idx (T k).1 (T k).2.1 (T k).2.2.1 ∈ gw)
    (hfin : (T k).2.2.2 = false ∨ ((T k).2.2.2 = true ∧ M.2.2.2.2.1 = "<init>" ∧ (T k).1 = M.1)) (hn : narrow (ty k) v = v) (hfit : fits (ty k) v = true) (hd : decode M.2.1 pc = .ok (.putfield idx, 3))
    (kk : ∀ (H1 : Heap) (i : Nat), t_OB (mB Γ + a) (mC Γ c) (nF c) (mS Γ c) H1 (updV (fval Γ z c a) k v) → H1.size = H.size → (∀ q : Nat, q ≠ mB Γ + a → H1[q]? = H[q]?) → W p l e M.2.2.2.2.2 s m args below meth c0 H1 (locs ++ [⟨mB Γ + a, i⟩]) cells slots Q (F0 m (pc + 3) ls st)) : W p l e M.2.2.2.2.2 s m args below meth c0 H locs cells slots Q (F0 m pc ls (v :: .ref (mB Γ + a) :: st)) := by
  obtain ⟨cell, q1, q2, q3, q4⟩ := hR.obj hkd
  obtain ⟨hc, hin, hty, hnm⟩ := hcl
  rw [nF_of hc] at q4
  obtain ⟨hS, hfc, kC, hkC, hkind⟩ := hK.1 c _ hc
  have hts := hC.2.2.2.2.2.2.2
  have hap : ∀ x y, x < N → y < N → x ≠ y → mS Γ c x ≠ mS Γ c y := by
    intro x y hx hy hne
    obtain ⟨_, _, _, fa, hia, ea⟩ := hS x hx
    obtain ⟨_, _, _, fb, hib, eb⟩ := hS y hy
    rw [← ea, ← eb]
    refine u_apart (u_lays hts hin hx) (u_lays hts hin hy) hia hib ?_
    rw [(State.fieldFound?_type hia (hty x hx)).1, (State.fieldFound?_type hib (hty y hy)).1]
    exact hnm x hx y hy hne
  obtain ⟨cf, kf, fi, f, hi, hsl⟩ := hS k hk
  have hlay := u_lays hts hin hk
  have h6 := u_fits hfc hkC hkind hlay hi (hty k hk) hn hfit
  have hst := (u_facts hfc hkC hlay hi).1
  have hfl : hasFlag f.accessFlags Acc.final = false ∨ (m.cls = cf ∧ meth.name = "<init>") := by
    have hl2 := hts _ (hin _ (u_in_lay hk))
    unfold u_lay at hl2
    rcases hfin with hff | ⟨hff, hnm2, hdecl⟩
    · rw [if_neg (by rw [hff]; decide)] at hl2
      exact Or.inl (u_store hfc hkC hkind hl2 hi (hty k hk) hn hfit).1
    · rw [if_pos hff] at hl2
      obtain ⟨_, _, c', _, _, _, -, -, hf', -, -, -, hown2, -⟩ := Cond.laysFinal_spec hl2
      have e1 : c' = cf := by have := hi.symm.trans hf'; simp at this; exact this.1.symm
      rw [hdecl] at hown2
      refine Or.inr ⟨?_, hC.2.2.2.2.2.2.1.trans hnm2⟩
      rw [← e1]
      exact Option.some.inj (hC.2.2.2.1.symm.trans hown2)
  have hlt : mB Γ + a < H.size := (Array.getElem?_eq_some_iff.mp q1).1
  have hsz : f.slot < cell.slots.size := by rw [hsl]; exact k2_hasslot (q4 k hk)
  refine W.putf hC.1 hC.2.1 hC.2.2.2.1 (hts _ hlink) hi hst hfl q1 (by rw [q3]; exact fun h => by cases h) hsz h6.1 (by rw [q2, q3]; exact h6.2) rfl rfl hd ?_
  refine kk _ f.slot ⟨cell.setSlot f.slot v, ?_, q2, q3, ?_⟩ ?_ ?_
  · simp [Array.getElem?_setIfInBounds, hlt]
  · rw [nF_of hc, hsl]
    exact t_set q4 hap hk v
  · simp
  · intro q hq
    simp [Array.getElem?_setIfInBounds, Ne.symm hq]
theorem j_putI {x : Int32} {f : Hp → Option (ρ × Hp)} (hcl : ClsOk c C T N ty) (hk : k < N) (hf : fRef c k = false) (hlink : Cond.fieldLink M.1 idx (T k).1 (T k).2.1 (T k).2.2.1 ∈ gw)
    (hfin : (T k).2.2.2 = false ∨ ((T k).2.2.2 = true ∧ M.2.2.2.2.1 = "<init>" ∧ (T k).1 = M.1)) (hn : narrow (ty k) (.int x) = .int x) (hfit : fits (ty k) (.int x) = true) (hd : decode M.2.1 pc = .ok (.putfield idx, 3))
    (kk : ∀ z2 : Hp, J l Γ M cv mc ms (pc + 3) lv st z2 (f z2)) : J l Γ M cv mc ms pc lv (.int x :: .ref (mB Γ + a) :: st) z (pI c k z a x f) := by
  intro v z1 ht p e s m args below meth c0 H locs cells slots ls hC hK hv hR hL h1 h2
  unfold pI at ht
  by_cases hkd : (zK z a).1 = c + 7
  · rw [if_pos hkd] at ht
    refine w_put hcl hC hK hR hkd hk hlink hfin hn hfit hd (fun H1 i hob hsz ho => ?_)
    refine kk _ v z1 ht p e s m args below meth c0 H1 _ cells slots ls hC hK hv ?_ ?_ h1 h2
    · refine hR.set (hR.lt (by rw [hkd]; omega)) hsz ho rfl rfl (fun b hb => ups_n _ _ hb) (fun b _ => rfl) (fun b _ => rfl) (CellAt.obj hkd (hob.to ?_))
      intro j _
      show updV (fval Γ z c a) k (.int x) j = fval Γ (wI z a (ups (zI z a) k x)) c a j
      have e1 : zI (wI z a (ups (zI z a) k x)) a = ups (zI z a) k x := ups_s _ _ _
      have e2 : zR (wI z a (ups (zI z a) k x)) a = zR z a := rfl
      unfold fval updV
      rw [e1, e2]
      by_cases hj : j = k
      · subst hj
        simp [hf, ups_s]
      · rw [if_neg hj, ups_n _ _ hj]
    · intro q hq
      rcases List.mem_append.mp hq with h | h
      · exact hL q h
      · rw [List.mem_singleton.mp h]; exact Nat.le_add_right _ _
  · rw [if_neg hkd] at ht
    cases ht
theorem j_putR {r : Nat} {f : Hp → Option (ρ × Hp)} (hcl : ClsOk c C T N ty) (hk : k < N) (hf : fRef c k = true) (hlink : Cond.fieldLink M.1 idx (T k).1 (T k).2.1 (T k).2.2.1 ∈ gw)
    (hfin : (T k).2.2.2 = false ∨ ((T k).2.2.2 = true ∧ M.2.2.2.2.1 = "<init>" ∧ (T k).1 = M.1)) (hn : narrow (ty k) (.ref (mB Γ + r)) = .ref (mB Γ + r)) (hfit : fits (ty k) (.ref (mB Γ + r)) = true) (hd : decode M.2.1 pc = .ok (.putfield idx, 3))
    (kk : ∀ z2 : Hp, J l Γ M cv mc ms (pc + 3) lv st z2 (f z2)) : J l Γ M cv mc ms pc lv (.ref (mB Γ + r) :: .ref (mB Γ + a) :: st) z (pR c k z a r f) := by
  intro v z1 ht p e s m args below meth c0 H locs cells slots ls hC hK hv hR hL h1 h2
  unfold pR at ht
  by_cases hkd : (zK z a).1 = c + 7
  · rw [if_pos hkd] at ht
    refine w_put hcl hC hK hR hkd hk hlink hfin hn hfit hd (fun H1 i hob hsz ho => ?_)
    refine kk _ v z1 ht p e s m args below meth c0 H1 _ cells slots ls hC hK hv ?_ ?_ h1 h2
    · refine hR.set (hR.lt (by rw [hkd]; omega)) hsz ho rfl rfl (fun b _ => rfl) (fun b _ => rfl) (fun b hb => ups_n _ _ hb) (CellAt.obj hkd (hob.to ?_))
      intro j _
      show updV (fval Γ z c a) k (.ref (mB Γ + r)) j = fval Γ (wR z a (ups (zR z a) k (some r))) c a j
      have e1 : zR (wR z a (ups (zR z a) k (some r))) a = ups (zR z a) k (some r) := ups_s _ _ _
      have e2 : zI (wR z a (ups (zR z a) k (some r))) a = zI z a := rfl
      unfold fval updV
      rw [e1, e2]
      by_cases hj : j = k
      · subst hj
        simp [hf, ups_s, rfv, va_rf]
      · rw [if_neg hj, ups_n _ _ hj]
    · intro q hq
      rcases List.mem_append.mp hq with h | h
      · exact hL q h
      · rw [List.mem_singleton.mp h]; exact Nat.le_add_right _ _
  · rw [if_neg hkd] at ht
    cases ht
theorem j_iaload {i : Int32} {f : Int32 → Option (ρ × Hp)} (hd : decode M.2.1 pc = .ok (.iaload, 1)) (kk : ∀ x : Int32, J l Γ M cv mc ms (pc + 1) lv (.int x :: st) z (f x)) : J l Γ M cv mc ms pc lv (.int i :: .ref (mB Γ + a) :: st) z (aI 1 z a i f) := by
  intro v z1 ht p e s m args below meth c0 H locs cells slots ls hC hK hv hR hL h1 h2
  unfold aI at ht
  by_cases hkd : (zK z a).1 = 1 ∧ inb i (zK z a).2 = true
  · rw [if_pos hkd] at ht
    have hcell := hR.arr1 hkd.1
    have harr := (hK.2.1 0 _ rfl).1 (zK z a).2
    exact W.iald (v := Value.int (zI z a i.toNatClampNeg)) hC.1 hC.2.1 hcell (harr _) (fun q => by cases q) (by show ¬ (i < 0 ∨ (arrV _ _ _).slots.size ≤ _); rw [arrV_size]; exact inb_vp hkd.2) (by show (arrV _ _ _).slots[_]? = _; rw [arrV_read _ _ (inb_lt hkd.2)]) rfl rfl hd (kk _ v z1 ht p e s m args below meth c0 H locs cells slots ls hC hK hv hR hL h1 h2)
  · rw [if_neg hkd] at ht
    cases ht
theorem j_zaload {i : Int32} {f : Int32 → Option (ρ × Hp)} (hd : decode M.2.1 pc = .ok (.baload, 1)) (kk : ∀ x : Int32, J l Γ M cv mc ms (pc + 1) lv (.int x :: st) z (f x)) : J l Γ M cv mc ms pc lv (.int i :: .ref (mB Γ + a) :: st) z (aI 2 z a i f) := by
  intro v z1 ht p e s m args below meth c0 H locs cells slots ls hC hK hv hR hL h1 h2
  unfold aI at ht
  by_cases hkd : (zK z a).1 = 2 ∧ inb i (zK z a).2 = true
  · rw [if_pos hkd] at ht
    have hcell := hR.arr2 hkd.1
    have harr := (hK.2.1 1 _ rfl).1 (zK z a).2
    exact W.zald (v := Value.int (zI z a i.toNatClampNeg)) hC.1 hC.2.1 hcell (harr _) (fun q => by cases q) (by show ¬ (i < 0 ∨ (arrV _ _ _).slots.size ≤ _); rw [arrV_size]; exact inb_vp hkd.2) (by show (arrV _ _ _).slots[_]? = _; rw [arrV_read _ _ (inb_lt hkd.2)]) rfl rfl hd (kk _ v z1 ht p e s m args below meth c0 H locs cells slots ls hC hK hv hR hL h1 h2)
  · rw [if_neg hkd] at ht
    cases ht
theorem j_baload {i : Int32} {f : Int32 → Option (ρ × Hp)} (hd : decode M.2.1 pc = .ok (.baload, 1)) (kk : ∀ x : Int32, J l Γ M cv mc ms (pc + 1) lv (.int x :: st) z (f x)) : J l Γ M cv mc ms pc lv (.int i :: .ref (mB Γ + a) :: st) z (aI 3 z a i f) := by
  intro v z1 ht p e s m args below meth c0 H locs cells slots ls hC hK hv hR hL h1 h2
  unfold aI at ht
  by_cases hkd : (zK z a).1 = 3 ∧ inb i (zK z a).2 = true
  · rw [if_pos hkd] at ht
    have hcell := hR.arr3 hkd.1
    have harr := (hK.2.1 2 _ rfl).1 (zK z a).2
    exact W.bald (v := Value.int (zI z a i.toNatClampNeg)) hC.1 hC.2.1 hcell (harr _) (fun q => by cases q) (by show ¬ (i < 0 ∨ (arrV _ _ _).slots.size ≤ _); rw [arrV_size]; exact inb_vp hkd.2) (by show (arrV _ _ _).slots[_]? = _; rw [arrV_read _ _ (inb_lt hkd.2)]) rfl rfl hd (kk _ v z1 ht p e s m args below meth c0 H locs cells slots ls hC hK hv hR hL h1 h2)
  · rw [if_neg hkd] at ht
    cases ht
theorem j_laload {i : Int32} {f : Int64 → Option (ρ × Hp)} (hd : decode M.2.1 pc = .ok (.laload, 1)) (kk : ∀ x : Int64, J l Γ M cv mc ms (pc + 1) lv (.long x :: st) z (f x)) : J l Γ M cv mc ms pc lv (.int i :: .ref (mB Γ + a) :: st) z (aL z a i f) := by
  intro v z1 ht p e s m args below meth c0 H locs cells slots ls hC hK hv hR hL h1 h2
  unfold aL at ht
  by_cases hkd : (zK z a).1 = 4 ∧ inb i (zK z a).2 = true
  · rw [if_pos hkd] at ht
    have hcell := hR.arr4 hkd.1
    have harr := (hK.2.1 3 _ rfl).1 (zK z a).2
    exact W.lald (v := Value.long (zL z a i.toNatClampNeg)) hC.1 hC.2.1 hcell (harr _) (fun q => by cases q) (by show ¬ (i < 0 ∨ (arrV _ _ _).slots.size ≤ _); rw [arrV_size]; exact inb_vp hkd.2) (by show (arrV _ _ _).slots[_]? = _; rw [arrV_read _ _ (inb_lt hkd.2)]) rfl rfl hd (kk _ v z1 ht p e s m args below meth c0 H locs cells slots ls hC hK hv hR hL h1 h2)
  · rw [if_neg hkd] at ht
    cases ht
theorem j_aaload5 {i : Int32} {f : Option Nat → Option (ρ × Hp)} (hd : decode M.2.1 pc = .ok (.aaload, 1)) (kk : ∀ x : Option Nat, J l Γ M cv mc ms (pc + 1) lv (rfv Γ x :: st) z (f x)) : J l Γ M cv mc ms pc lv (.int i :: .ref (mB Γ + a) :: st) z (aO 5 z a i f) := by
  intro v z1 ht p e s m args below meth c0 H locs cells slots ls hC hK hv hR hL h1 h2
  unfold aO at ht
  by_cases hkd : (zK z a).1 = 5 ∧ inb i (zK z a).2 = true
  · rw [if_pos hkd] at ht
    have hcell := hR.arr5 hkd.1
    have harr := (hK.2.1 4 _ rfl).1 (zK z a).2
    exact W.aald (v := rfv Γ (zR z a i.toNatClampNeg)) hC.1 hC.2.1 hcell (harr _) rfl (fun q => by cases q) (by show ¬ (i < 0 ∨ (arrV _ _ _).slots.size ≤ _); rw [arrV_size]; exact inb_vp hkd.2) (by show (arrV _ _ _).slots[_]? = _; rw [arrV_read _ _ (inb_lt hkd.2)]) rfl rfl hd (kk _ v z1 ht p e s m args below meth c0 H locs cells slots ls hC hK hv hR hL h1 h2)
  · rw [if_neg hkd] at ht
    cases ht
theorem j_aaload6 {i : Int32} {f : Option Nat → Option (ρ × Hp)} (hd : decode M.2.1 pc = .ok (.aaload, 1)) (kk : ∀ x : Option Nat, J l Γ M cv mc ms (pc + 1) lv (rfv Γ x :: st) z (f x)) : J l Γ M cv mc ms pc lv (.int i :: .ref (mB Γ + a) :: st) z (aO 6 z a i f) := by
  intro v z1 ht p e s m args below meth c0 H locs cells slots ls hC hK hv hR hL h1 h2
  unfold aO at ht
  by_cases hkd : (zK z a).1 = 6 ∧ inb i (zK z a).2 = true
  · rw [if_pos hkd] at ht
    have hcell := hR.arr6 hkd.1
    have harr := (hK.2.1 5 _ rfl).1 (zK z a).2
    exact W.aald (v := rfv Γ (zR z a i.toNatClampNeg)) hC.1 hC.2.1 hcell (harr _) rfl (fun q => by cases q) (by show ¬ (i < 0 ∨ (arrV _ _ _).slots.size ≤ _); rw [arrV_size]; exact inb_vp hkd.2) (by show (arrV _ _ _).slots[_]? = _; rw [arrV_read _ _ (inb_lt hkd.2)]) rfl rfl hd (kk _ v z1 ht p e s m args below meth c0 H locs cells slots ls hC hK hv hR hL h1 h2)
  · rw [if_neg hkd] at ht
    cases ht
theorem j_aaloadR5 {i : Int32} {f : Nat → Option (ρ × Hp)} (hd : decode M.2.1 pc = .ok (.aaload, 1)) (kk : ∀ b : Nat, J l Γ M cv mc ms (pc + 1) lv (.ref (mB Γ + b) :: st) z (f b)) : J l Γ M cv mc ms pc lv (.int i :: .ref (mB Γ + a) :: st) z (aR 5 z a i f) := by
  have e : aR 5 z a i f = aO 5 z a i (fun r => match r with | some b => f b | none => none) := rfl
  rw [e]
  refine j_aaload5 hd (fun r => ?_)
  cases r with
  | none => exact J.none
  | some b => exact kk b
theorem j_aaloadR6 {i : Int32} {f : Nat → Option (ρ × Hp)} (hd : decode M.2.1 pc = .ok (.aaload, 1)) (kk : ∀ b : Nat, J l Γ M cv mc ms (pc + 1) lv (.ref (mB Γ + b) :: st) z (f b)) : J l Γ M cv mc ms pc lv (.int i :: .ref (mB Γ + a) :: st) z (aR 6 z a i f) := by
  have e : aR 6 z a i f = aO 6 z a i (fun r => match r with | some b => f b | none => none) := rfl
  rw [e]
  refine j_aaload6 hd (fun r => ?_)
  cases r with
  | none => exact J.none
  | some b => exact kk b
theorem j_iastore {i : Int32} {x : Int32} {f : Hp → Option (ρ × Hp)} (hd : decode M.2.1 pc = .ok (.iastore, 1)) (kk : ∀ z2 : Hp, J l Γ M cv mc ms (pc + 1) lv st z2 (f z2)) : J l Γ M cv mc ms pc lv (.int x :: .int i :: .ref (mB Γ + a) :: st) z (sI 1 z a i x f) := by
  intro v z1 ht p e s m args below meth c0 H locs cells slots ls hC hK hv hR hL h1 h2
  unfold sI at ht
  by_cases hkd : (zK z a).1 = 1 ∧ inb i (zK z a).2 = true
  · rw [if_pos hkd] at ht
    have hcell := hR.arr1 hkd.1
    have harr := (hK.2.1 0 _ rfl).1 (zK z a).2
    refine W.iast hC.1 hC.2.1 hcell (harr _) (fun q => by cases q) (by show ¬ (i < 0 ∨ (arrV _ _ _).slots.size ≤ _); rw [arrV_size]; exact inb_vp hkd.2) rfl rfl hd (fun H1 e1 hsz ho => ?_)
    refine kk _ v z1 ht p e s m args below meth c0 H1 _ cells slots ls hC hK hv ?_ ?_ h1 h2
    · refine hR.set (hR.lt (by rw [hkd.1]; omega)) hsz ho rfl rfl (fun b hb => ups_n _ _ hb) (fun b hb => rfl) (fun b _ => rfl) (CellAt.arr1 hkd.1 ?_)
      rw [e1]
      simp only [arrP]
      rw [arrV_store]
      refine congrArg some (congrArg (arrV _ _) (funext fun j => ?_))
      have e2 : zI (wI z a (ups (zI z a) i.toNatClampNeg x)) a = ups (zI z a) i.toNatClampNeg x := ups_s _ _ _
      rw [e2]
      by_cases hj : j = i.toNatClampNeg
      · subst hj
        simp [updV, ups_s, vp_nar]
        try rfl
      · simp [updV, hj, ups_n _ _ hj]
    · intro q hq
      rcases List.mem_append.mp hq with h | h
      · exact hL q h
      · rw [List.mem_singleton.mp h]; exact Nat.le_add_right _ _
  · rw [if_neg hkd] at ht
    cases ht
theorem j_zastore {i : Int32} {x : Int32} {f : Hp → Option (ρ × Hp)} (hd : decode M.2.1 pc = .ok (.bastore, 1)) (kk : ∀ z2 : Hp, J l Γ M cv mc ms (pc + 1) lv st z2 (f z2)) : J l Γ M cv mc ms pc lv (.int x :: .int i :: .ref (mB Γ + a) :: st) z (sI 2 z a i (vp_nar .boolean x) f) := by
  intro v z1 ht p e s m args below meth c0 H locs cells slots ls hC hK hv hR hL h1 h2
  unfold sI at ht
  by_cases hkd : (zK z a).1 = 2 ∧ inb i (zK z a).2 = true
  · rw [if_pos hkd] at ht
    have hcell := hR.arr2 hkd.1
    have harr := (hK.2.1 1 _ rfl).1 (zK z a).2
    refine W.zast hC.1 hC.2.1 hcell (harr _) (fun q => by cases q) (by show ¬ (i < 0 ∨ (arrV _ _ _).slots.size ≤ _); rw [arrV_size]; exact inb_vp hkd.2) rfl rfl hd (fun H1 e1 hsz ho => ?_)
    refine kk _ v z1 ht p e s m args below meth c0 H1 _ cells slots ls hC hK hv ?_ ?_ h1 h2
    · refine hR.set (hR.lt (by rw [hkd.1]; omega)) hsz ho rfl rfl (fun b hb => ups_n _ _ hb) (fun b hb => rfl) (fun b _ => rfl) (CellAt.arr2 hkd.1 ?_)
      rw [e1]
      simp only [arrP]
      rw [arrV_store]
      refine congrArg some (congrArg (arrV _ _) (funext fun j => ?_))
      have e2 : zI (wI z a (ups (zI z a) i.toNatClampNeg (vp_nar .boolean x))) a = ups (zI z a) i.toNatClampNeg (vp_nar .boolean x) := ups_s _ _ _
      rw [e2]
      by_cases hj : j = i.toNatClampNeg
      · subst hj
        simp [updV, ups_s, vp_nar]
        try rfl
      · simp [updV, hj, ups_n _ _ hj]
    · intro q hq
      rcases List.mem_append.mp hq with h | h
      · exact hL q h
      · rw [List.mem_singleton.mp h]; exact Nat.le_add_right _ _
  · rw [if_neg hkd] at ht
    cases ht
theorem j_bastore {i : Int32} {x : Int32} {f : Hp → Option (ρ × Hp)} (hd : decode M.2.1 pc = .ok (.bastore, 1)) (kk : ∀ z2 : Hp, J l Γ M cv mc ms (pc + 1) lv st z2 (f z2)) : J l Γ M cv mc ms pc lv (.int x :: .int i :: .ref (mB Γ + a) :: st) z (sI 3 z a i (vp_nar .byte x) f) := by
  intro v z1 ht p e s m args below meth c0 H locs cells slots ls hC hK hv hR hL h1 h2
  unfold sI at ht
  by_cases hkd : (zK z a).1 = 3 ∧ inb i (zK z a).2 = true
  · rw [if_pos hkd] at ht
    have hcell := hR.arr3 hkd.1
    have harr := (hK.2.1 2 _ rfl).1 (zK z a).2
    refine W.bast hC.1 hC.2.1 hcell (harr _) (fun q => by cases q) (by show ¬ (i < 0 ∨ (arrV _ _ _).slots.size ≤ _); rw [arrV_size]; exact inb_vp hkd.2) rfl rfl hd (fun H1 e1 hsz ho => ?_)
    refine kk _ v z1 ht p e s m args below meth c0 H1 _ cells slots ls hC hK hv ?_ ?_ h1 h2
    · refine hR.set (hR.lt (by rw [hkd.1]; omega)) hsz ho rfl rfl (fun b hb => ups_n _ _ hb) (fun b hb => rfl) (fun b _ => rfl) (CellAt.arr3 hkd.1 ?_)
      rw [e1]
      simp only [arrP]
      rw [arrV_store]
      refine congrArg some (congrArg (arrV _ _) (funext fun j => ?_))
      have e2 : zI (wI z a (ups (zI z a) i.toNatClampNeg (vp_nar .byte x))) a = ups (zI z a) i.toNatClampNeg (vp_nar .byte x) := ups_s _ _ _
      rw [e2]
      by_cases hj : j = i.toNatClampNeg
      · subst hj
        simp [updV, ups_s, vp_nar]
        try rfl
      · simp [updV, hj, ups_n _ _ hj]
    · intro q hq
      rcases List.mem_append.mp hq with h | h
      · exact hL q h
      · rw [List.mem_singleton.mp h]; exact Nat.le_add_right _ _
  · rw [if_neg hkd] at ht
    cases ht
theorem j_lastore {i : Int32} {x : Int64} {f : Hp → Option (ρ × Hp)} (hd : decode M.2.1 pc = .ok (.lastore, 1)) (kk : ∀ z2 : Hp, J l Γ M cv mc ms (pc + 1) lv st z2 (f z2)) : J l Γ M cv mc ms pc lv (.long x :: .int i :: .ref (mB Γ + a) :: st) z (sL z a i x f) := by
  intro v z1 ht p e s m args below meth c0 H locs cells slots ls hC hK hv hR hL h1 h2
  unfold sL at ht
  by_cases hkd : (zK z a).1 = 4 ∧ inb i (zK z a).2 = true
  · rw [if_pos hkd] at ht
    have hcell := hR.arr4 hkd.1
    have harr := (hK.2.1 3 _ rfl).1 (zK z a).2
    refine W.last hC.1 hC.2.1 hcell (harr _) (fun q => by cases q) (by show ¬ (i < 0 ∨ (arrV _ _ _).slots.size ≤ _); rw [arrV_size]; exact inb_vp hkd.2) rfl rfl hd (fun H1 e1 hsz ho => ?_)
    refine kk _ v z1 ht p e s m args below meth c0 H1 _ cells slots ls hC hK hv ?_ ?_ h1 h2
    · refine hR.set (hR.lt (by rw [hkd.1]; omega)) hsz ho rfl rfl (fun b hb => rfl) (fun b hb => ups_n _ _ hb) (fun b _ => rfl) (CellAt.arr4 hkd.1 ?_)
      rw [e1]
      simp only [arrP]
      rw [arrV_store]
      refine congrArg some (congrArg (arrV _ _) (funext fun j => ?_))
      have e2 : zL (wL z a (ups (zL z a) i.toNatClampNeg x)) a = ups (zL z a) i.toNatClampNeg x := ups_s _ _ _
      rw [e2]
      by_cases hj : j = i.toNatClampNeg
      · subst hj
        simp [updV, ups_s, vp_nar]
        try rfl
      · simp [updV, hj, ups_n _ _ hj]
    · intro q hq
      rcases List.mem_append.mp hq with h | h
      · exact hL q h
      · rw [List.mem_singleton.mp h]; exact Nat.le_add_right _ _
  · rw [if_neg hkd] at ht
    cases ht
theorem j_ifnonnull {r : Option Nat} {off : Int} {t1 : Option (ρ × Hp)} {f : Nat → Option (ρ × Hp)} (tgt : Nat) (hd : decode M.2.1 pc = .ok (.ifnonnull off, 3)) (ht : (pc : Int) + off = (tgt : Int)) (kt : ∀ b, r = some b → J l Γ M cv mc ms tgt lv st z (f b)) (kf : r = none → J l Γ M cv mc ms (pc + 3) lv st z t1) : J l Γ M cv mc ms pc lv (rfv Γ r :: st) z (onul r t1 f) := by
  cases r with
  | none => exact J.go (fun p e s m args below meth c H locs cells slots ls Q hC hK hv hR hW => lv_ifnonnullN hC.1 hC.2.1 hd hW) (kf rfl)
  | some b => exact J.go (fun p e s m args below meth c H locs cells slots ls Q hC hK hv hR hW => lv_ifnonnull hC.1 hC.2.1 hd ht hW) (kt b rfl)
theorem j_isC {t1 : Option (ρ × Hp)} (h : (zK z a).1 = c + 7 → J l Γ M cv mc ms pc lv st z t1) : J l Γ M cv mc ms pc lv st z (isC c z a t1) := by
  unfold isC
  by_cases hkd : (zK z a).1 = c + 7
  · rw [if_pos hkd]; exact h hkd
  · rw [if_neg hkd]; exact J.none
theorem j_alen1 {f : Int32 → Option (ρ × Hp)} (hd : decode M.2.1 pc = .ok (.arraylength, 1)) (kk : ∀ x : Int32, J l Γ M cv mc ms (pc + 1) lv (.int x :: st) z (f x)) : J l Γ M cv mc ms pc lv (.ref (mB Γ + a) :: st) z (aN 1 z a f) := by
  intro v z1 ht p e s m args below meth c0 H locs cells slots ls hC hK hv hR hL h1 h2
  unfold aN at ht
  by_cases hkd : (zK z a).1 = 1
  · rw [if_pos hkd] at ht
    exact W.alen hC.1 hC.2.1 (hR.arr1 hkd) ((hK.2.1 0 _ rfl).1 (zK z a).2 _) (by show (arrV _ _ _).slots.size.toInt32 = _; rw [arrV_size]; rfl) rfl rfl hd (kk _ v z1 ht p e s m args below meth c0 H locs cells slots ls hC hK hv hR hL h1 h2)
  · rw [if_neg hkd] at ht
    cases ht
theorem j_alen2 {f : Int32 → Option (ρ × Hp)} (hd : decode M.2.1 pc = .ok (.arraylength, 1)) (kk : ∀ x : Int32, J l Γ M cv mc ms (pc + 1) lv (.int x :: st) z (f x)) : J l Γ M cv mc ms pc lv (.ref (mB Γ + a) :: st) z (aN 2 z a f) := by
  intro v z1 ht p e s m args below meth c0 H locs cells slots ls hC hK hv hR hL h1 h2
  unfold aN at ht
  by_cases hkd : (zK z a).1 = 2
  · rw [if_pos hkd] at ht
    exact W.alen hC.1 hC.2.1 (hR.arr2 hkd) ((hK.2.1 1 _ rfl).1 (zK z a).2 _) (by show (arrV _ _ _).slots.size.toInt32 = _; rw [arrV_size]; rfl) rfl rfl hd (kk _ v z1 ht p e s m args below meth c0 H locs cells slots ls hC hK hv hR hL h1 h2)
  · rw [if_neg hkd] at ht
    cases ht
theorem j_alen3 {f : Int32 → Option (ρ × Hp)} (hd : decode M.2.1 pc = .ok (.arraylength, 1)) (kk : ∀ x : Int32, J l Γ M cv mc ms (pc + 1) lv (.int x :: st) z (f x)) : J l Γ M cv mc ms pc lv (.ref (mB Γ + a) :: st) z (aN 3 z a f) := by
  intro v z1 ht p e s m args below meth c0 H locs cells slots ls hC hK hv hR hL h1 h2
  unfold aN at ht
  by_cases hkd : (zK z a).1 = 3
  · rw [if_pos hkd] at ht
    exact W.alen hC.1 hC.2.1 (hR.arr3 hkd) ((hK.2.1 2 _ rfl).1 (zK z a).2 _) (by show (arrV _ _ _).slots.size.toInt32 = _; rw [arrV_size]; rfl) rfl rfl hd (kk _ v z1 ht p e s m args below meth c0 H locs cells slots ls hC hK hv hR hL h1 h2)
  · rw [if_neg hkd] at ht
    cases ht
theorem j_alen4 {f : Int32 → Option (ρ × Hp)} (hd : decode M.2.1 pc = .ok (.arraylength, 1)) (kk : ∀ x : Int32, J l Γ M cv mc ms (pc + 1) lv (.int x :: st) z (f x)) : J l Γ M cv mc ms pc lv (.ref (mB Γ + a) :: st) z (aN 4 z a f) := by
  intro v z1 ht p e s m args below meth c0 H locs cells slots ls hC hK hv hR hL h1 h2
  unfold aN at ht
  by_cases hkd : (zK z a).1 = 4
  · rw [if_pos hkd] at ht
    exact W.alen hC.1 hC.2.1 (hR.arr4 hkd) ((hK.2.1 3 _ rfl).1 (zK z a).2 _) (by show (arrV _ _ _).slots.size.toInt32 = _; rw [arrV_size]; rfl) rfl rfl hd (kk _ v z1 ht p e s m args below meth c0 H locs cells slots ls hC hK hv hR hL h1 h2)
  · rw [if_neg hkd] at ht
    cases ht
end JHEAP
