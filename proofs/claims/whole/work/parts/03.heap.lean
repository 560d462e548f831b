/-! ===== the good words of the tables: one list for every method ===== -/
def gw : List Cond := lw_tbl.filter goodWord
theorem gw_of {w : Cond} (h : w ∈ lw_tbl) (hg : goodWord w = true) : w ∈ gw := List.mem_filter.mpr ⟨h, hg⟩
theorem gw_good {w : Cond} (h : w ∈ gw) : goodWord w = true := (List.mem_filter.mp h).2
theorem gw_in {w : Cond} (h : w ∈ gw) : w ∈ lw_tbl := (List.mem_filter.mp h).1
theorem gw_sub {ws : List Cond} (h : ∀ w ∈ ws, w ∈ gw) : GoodIn gw ws := fun w hw => ⟨h w hw, good_of_word (gw_good (h w hw))⟩
/-! ===== the abstract heap: how many cells; kind and length of each; ints; longs; references =====
kinds: 0 no cell; 1 int[], 2 boolean[], 3 byte[], 4 long[], 5 State[], 6 long[][]; 7 + c an object of class c -/
abbrev Hp : Type := Nat × (Nat → Nat × Nat) × (Nat → Nat → Int32) × (Nat → Nat → Int64) × (Nat → Nat → Option Nat)
def zN (z : Hp) : Nat := z.1
def zK (z : Hp) : Nat → Nat × Nat := z.2.1
def zI (z : Hp) : Nat → Nat → Int32 := z.2.2.1
def zL (z : Hp) : Nat → Nat → Int64 := z.2.2.2.1
def zR (z : Hp) : Nat → Nat → Option Nat := z.2.2.2.2
def ups {α : Type} (f : Nat → α) (k : Nat) (x : α) : Nat → α := fun j => if j = k then x else f j
def wI (z : Hp) (a : Nat) (f : Nat → Int32) : Hp := (z.1, z.2.1, ups z.2.2.1 a f, z.2.2.2.1, z.2.2.2.2)
def wL (z : Hp) (a : Nat) (f : Nat → Int64) : Hp := (z.1, z.2.1, z.2.2.1, ups z.2.2.2.1 a f, z.2.2.2.2)
def wR (z : Hp) (a : Nat) (f : Nat → Option Nat) : Hp := (z.1, z.2.1, z.2.2.1, z.2.2.2.1, ups z.2.2.2.2 a f)
/-- one more cell -/
def zNew (z : Hp) (k n : Nat) : Hp := (z.1 + 1, ups z.2.1 z.1 (k, n), ups z.2.2.1 z.1 (fun _ => 0), ups z.2.2.2.1 z.1 (fun _ => 0), ups z.2.2.2.2 z.1 (fun _ => none))
theorem ups_s {α : Type} (f : Nat → α) (k : Nat) (x : α) : ups f k x k = x := if_pos rfl
theorem ups_n {α : Type} (f : Nat → α) {k j : Nat} (x : α) (h : j ≠ k) : ups f k x j = f j := if_neg h

/-- the classes, by number -/
def cls_T : List vw_C := [(RX0, TX0, 2), (RX1, TX1, 4), (RX2, TX2, 8), (RX3, TX3, 7), (RX4, TX4, 6), (RX5, TX5, 5), (RX6, TX6, 3), (RX7, TX7, 7), (RX8, TX8, 17), (RX9, TX9, 3), (RX10, TX10, 10), (RX11, TX11, 13), (RX12, TX12, 40)]
/-- which fields are references -/
def fR_T : List (List Bool) := [[true, true], [true, true, true, false], [true, true, true, false, false, false, false, false], [true, true, true, true, true, true, false], [true, false, false, false, false, false], [true, true, true, true, false], [true, true, true], [true, true, true, true, true, true, false], [true, true, true, true, true, true, true, true, true, true, false, false, false, false, false, false, false], [true, true, true], [true, true, true, true, true, false, false, true, true, true], [true, true, true, true, true, true, true, true, true, false, false, false, false], [false, true, true, true, true, true, false, true, false, false, false, false, false, false, false, true, true, true, false, false, false, false, false, false, true, true, true, true, true, true, true, false, true, true, false, false, true, true, true, true]]
def fRef (c j : Nat) : Bool := (fR_T.getD c []).getD j false
def nF (c : Nat) : Nat := (([2, 4, 8, 7, 6, 5, 3, 7, 17, 3, 10, 13, 40] : List Nat)).getD c 0
theorem nF_of {c : Nat} {q : vw_C} (h : cls_T[c]? = some q) : nF c = q.2.2 := by
  match c, h with
  | 0, h => cases h; rfl
  | 1, h => cases h; rfl
  | 2, h => cases h; rfl
  | 3, h => cases h; rfl
  | 4, h => cases h; rfl
  | 5, h => cases h; rfl
  | 6, h => cases h; rfl
  | 7, h => cases h; rfl
  | 8, h => cases h; rfl
  | 9, h => cases h; rfl
  | 10, h => cases h; rfl
  | 11, h => cases h; rfl
  | 12, h => cases h; rfl
  | n + 13, h => simp [cls_T] at h
def arr_T : List FieldType := [.int, .boolean, .byte, .long, .object "FrostRing$State", .array .long]
/-- what is fixed for a whole run: the first address that is the law's own, the heap at its start, class numbers, slots, array classes, where the texts lie -/
abbrev Am : Type := Nat × Heap × (Nat → ClassId) × (Nat → Nat → Nat) × (Nat → ClassId) × (Nat → Nat) × (Nat → Nat) × (Nat × Nat × (Nat → Int32))
def mB (Γ : Am) : Nat := Γ.1
def mH (Γ : Am) : Heap := Γ.2.1
def mC (Γ : Am) : Nat → ClassId := Γ.2.2.1
def mS (Γ : Am) : Nat → Nat → Nat := Γ.2.2.2.1
def mA (Γ : Am) : Nat → ClassId := Γ.2.2.2.2.1
def mT (Γ : Am) : Nat → Nat := Γ.2.2.2.2.2.1
/-- a text's bytes -/
def mV (Γ : Am) : Nat → Nat := Γ.2.2.2.2.2.2.1
/-- the script: where, how long, what -/
def mX (Γ : Am) : Nat × Nat × (Nat → Int32) := Γ.2.2.2.2.2.2.2
/-- the law's own cells -/
def Own (Γ : Am) : Addr → Prop := fun q => mB Γ ≤ q
def rfv (Γ : Am) (r : Option Nat) : Value := va_rf (r.map (fun a => mB Γ + a))
def fval (Γ : Am) (z : Hp) (c a j : Nat) : Value := if fRef c j = true then rfv Γ (zR z a j) else .int (zI z a j)
def CellAt (Γ : Am) (z : Hp) (H : Heap) (a : Nat) : Prop := match zK z a with
  | (0, _) => True
  | (1, n) => H[mB Γ + a]? = some (arrV (mA Γ 0) n (fun j => .int (zI z a j)))
  | (2, n) => H[mB Γ + a]? = some (arrV (mA Γ 1) n (fun j => .int (zI z a j)))
  | (3, n) => H[mB Γ + a]? = some (arrV (mA Γ 2) n (fun j => .int (zI z a j)))
  | (4, n) => H[mB Γ + a]? = some (arrV (mA Γ 3) n (fun j => .long (zL z a j)))
  | (5, n) => H[mB Γ + a]? = some (arrV (mA Γ 4) n (fun j => rfv Γ (zR z a j)))
  | (6, n) => H[mB Γ + a]? = some (arrV (mA Γ 5) n (fun j => rfv Γ (zR z a j)))
  | (c + 7, _) => t_OB (mB Γ + a) (mC Γ c) (nF c) (mS Γ c) H (fval Γ z c a)
def Rl (Γ : Am) (z : Hp) (H : Heap) : Prop := H.size = mB Γ + zN z ∧ (∀ q : Nat, q < mB Γ → H[q]? = (mH Γ)[q]?) ∧ (∀ a : Nat, CellAt Γ z H a) ∧ ∀ a : Nat, zN z ≤ a → (zK z a).1 = 0
theorem Rl.lt {Γ : Am} {z : Hp} {H : Heap} (h : Rl Γ z H) {a : Nat} (hk : (zK z a).1 ≠ 0) : a < zN z := Nat.not_le.mp fun q => hk (h.2.2.2 a q)
/-- a cell's picture depends on that cell alone -/
theorem CellAt.kept {Γ : Am} {z z1 : Hp} {H H1 : Heap} {a : Nat} (h : CellAt Γ z H a) (hH : H1[mB Γ + a]? = H[mB Γ + a]?) (hk : zK z1 a = zK z a) (hi : zI z1 a = zI z a) (hl : zL z1 a = zL z a) (hr : zR z1 a = zR z a) : CellAt Γ z1 H1 a := by
  unfold CellAt at h ⊢
  rw [hk]
  split at h
  · trivial
  · rw [hH, hi]; exact h
  · rw [hH, hi]; exact h
  · rw [hH, hi]; exact h
  · rw [hH, hl]; exact h
  · rw [hH, hr]; exact h
  · rw [hH, hr]; exact h
  · refine (h.kept hH).to (fun k _ => ?_)
    simp only [fval, hi, hr]
/-- one old cell changes -/
theorem Rl.set {Γ : Am} {z z1 : Hp} {H H1 : Heap} {a : Nat} (h : Rl Γ z H) (ha : a < zN z) (hsz : H1.size = H.size) (ho : ∀ q : Nat, q ≠ mB Γ + a → H1[q]? = H[q]?) (hN : zN z1 = zN z) (hK : zK z1 = zK z)
    (hi : ∀ b, b ≠ a → zI z1 b = zI z b) (hl : ∀ b, b ≠ a → zL z1 b = zL z b) (hr : ∀ b, b ≠ a → zR z1 b = zR z b) (hc : CellAt Γ z1 H1 a) : Rl Γ z1 H1 := by
  refine ⟨by rw [hsz, hN]; exact h.1, fun q hq => ?_, fun b => ?_, fun b hb => by rw [hK]; exact h.2.2.2 b (by rw [← hN]; exact hb)⟩
  · rw [ho q (by omega)]; exact h.2.1 q hq
  · by_cases hb : b = a
    · rw [hb]; exact hc
    · exact (h.2.2.1 b).kept (ho _ (by omega)) (by rw [hK]) (hi b hb) (hl b hb) (hr b hb)
/-- one new cell -/
theorem Rl.new {Γ : Am} {z : Hp} {H H1 : Heap} {k n : Nat} (h : Rl Γ z H) (hsz : H1.size = mB Γ + zN z + 1) (ho : ∀ q : Nat, q < mB Γ + zN z → H1[q]? = H[q]?) (hc : CellAt Γ (zNew z k n) H1 (zN z)) : Rl Γ (zNew z k n) H1 := by
  refine ⟨by rw [hsz]; show _ = mB Γ + (zN z + 1); omega, fun q hq => ?_, fun b => ?_, fun b hb => ?_⟩
  · rw [ho q (by omega)]; exact h.2.1 q hq
  · by_cases hb : b = zN z
    · rw [hb]; exact hc
    · by_cases hlt : b < zN z
      · exact (h.2.2.1 b).kept (ho _ (by omega)) (ups_n _ _ hb) (ups_n _ _ hb) (ups_n _ _ hb) (ups_n _ _ hb)
      · have e : zK (zNew z k n) b = zK z b := ups_n _ _ hb
        have e0 := h.2.2.2 b (by omega)
        unfold CellAt
        rw [e]
        generalize hq : zK z b = q at e0 ⊢
        obtain ⟨q1, q2⟩ := q
        have e1 : q1 = 0 := e0
        subst e1
        trivial
  · have hb' : zN z + 1 ≤ b := hb
    have e : zK (zNew z k n) b = zK z b := ups_n _ _ (show b ≠ zN z by omega)
    rw [e]
    exact h.2.2.2 b (by omega)

