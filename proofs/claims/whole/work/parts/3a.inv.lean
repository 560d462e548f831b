/-! ===== the world's words, and what a State of the class is beside it ===== -/
def nn (x : Int32) : Nat := x.toNatClampNeg
theorem nn_nI {n : Nat} (h : n < 2 ^ 31) : nn (nI n) = n := nI_clamp h
/-- a number from 0 on, below m -/
def isN (x : Int32) (m : Nat) : Prop := x = nI (nn x) ∧ nn x < m
theorem isN.mk {n m : Nat} (h : n < m) (hm : m < 2 ^ 31) : isN (nI n) m := by
  unfold isN
  rw [nn_nI (by omega)]
  exact ⟨rfl, h⟩
theorem isN.of {x : Int32} {m : Nat} (h0 : ¬ x < 0) (h1 : x.toInt < m) (hm : m < 2 ^ 31) : isN x m := by
  have h2 : 0 ≤ x.toInt := by
    rw [Int32.lt_iff_toInt_lt] at h0
    have : (0 : Int32).toInt = 0 := by decide
    omega
  have e : x = nI x.toInt.toNat := by
    apply Int32.toInt_inj.mp
    rw [nI_toInt (by omega)]
    omega
  rw [e]
  exact isN.mk (by omega) hm
/-- a byte -/
def bR (x : Int32) : Prop := -128 ≤ x.toInt ∧ x.toInt ≤ 127
def kdW (W : Nat → Int32) (c : Nat) : Nat := nn (W (48 + c))
/-- is the cell frozen -/
def frW (W : Nat → Int32) (c : Nat) : Bool := decide (W (480 + c) = 0) && decide (W (336 + c) = W (22 + 4 * kdW W c))
/-- is it of the shaft -/
def shW (W : Nat → Int32) (c : Nat) : Bool := decide (W 7 = 1) && (decide (W 8 ≤ nI (c % 12)) && decide (nI (c % 12) ≤ W 10)) && (decide (W 9 ≤ nI (c / 12)) && decide (nI (c / 12) ≤ W 11))
def bI (b : Bool) : Int32 := if b = true then 1 else 0
theorem bI_0 (b : Bool) : (bI b = 0) ↔ b = false := by cases b <;> decide
theorem bI_1 (b : Bool) : (bI b = 1) ↔ b = true := by cases b <;> decide
def nPW (W : Nat → Int32) : Nat := nn (W 2)
def nHW (W : Nat → Int32) : Nat := nn (W 3)
def nRW (W : Nat → Int32) : Nat := nn (W 4)
def nCW (W : Nat → Int32) (r : Nat) : Nat := nn (W (750 + 10 * r))
def scW (W : Nat → Int32) : Int32 := if W 7 = 1 then (W 10 - W 8 + 1) * (W 11 - W 9 + 1) else 0
def dcW (W : Nat → Int32) : Int32 := sm (fun c => bI (decide (W (480 + c) = 1))) 144
/-- steps by number -/
def itr {α : Type} (g : Nat → α → α) : Nat → α → α
  | 0, x => x
  | n + 1, x => g n (itr g n x)
theorem itr_congr {α : Type} {g h : Nat → α → α} : ∀ {n : Nat} {x : α}, (∀ i y, i < n → g i y = h i y) → itr g n x = itr h n x
  | 0, _, _ => rfl
  | n + 1, x, e => by
    show g n (itr g n x) = h n (itr h n x)
    rw [itr_congr (fun i y hi => e i y (by omega)), e n _ (by omega)]
