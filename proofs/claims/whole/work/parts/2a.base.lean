/-! ===== the pure layer: base rows ===== -/
theorem zK_wI (z : Hp) (a : Nat) (f : Nat → Int32) : zK (wI z a f) = zK z := rfl
theorem zR_wI (z : Hp) (a : Nat) (f : Nat → Int32) : zR (wI z a f) = zR z := rfl
theorem zL_wI (z : Hp) (a : Nat) (f : Nat → Int32) : zL (wI z a f) = zL z := rfl
theorem zN_wI (z : Hp) (a : Nat) (f : Nat → Int32) : zN (wI z a f) = zN z := rfl
theorem zI_wI (z : Hp) (a b : Nat) (f : Nat → Int32) : zI (wI z a f) b = if b = a then f else zI z b := rfl
theorem zK_wL (z : Hp) (a : Nat) (f : Nat → Int64) : zK (wL z a f) = zK z := rfl
theorem zR_wL (z : Hp) (a : Nat) (f : Nat → Int64) : zR (wL z a f) = zR z := rfl
theorem zI_wL (z : Hp) (a : Nat) (f : Nat → Int64) : zI (wL z a f) = zI z := rfl
theorem zN_wL (z : Hp) (a : Nat) (f : Nat → Int64) : zN (wL z a f) = zN z := rfl
theorem zL_wL (z : Hp) (a b : Nat) (f : Nat → Int64) : zL (wL z a f) b = if b = a then f else zL z b := rfl
theorem zK_wR (z : Hp) (a : Nat) (f : Nat → Option Nat) : zK (wR z a f) = zK z := rfl
theorem zI_wR (z : Hp) (a : Nat) (f : Nat → Option Nat) : zI (wR z a f) = zI z := rfl
theorem zL_wR (z : Hp) (a : Nat) (f : Nat → Option Nat) : zL (wR z a f) = zL z := rfl
theorem zN_wR (z : Hp) (a : Nat) (f : Nat → Option Nat) : zN (wR z a f) = zN z := rfl
theorem zR_wR (z : Hp) (a b : Nat) (f : Nat → Option Nat) : zR (wR z a f) b = if b = a then f else zR z b := rfl
theorem ups_eq {α : Type} (f : Nat → α) (k j : Nat) (x : α) : ups f k x j = if j = k then x else f j := rfl
theorem wI_wI (z : Hp) (a : Nat) (f g : Nat → Int32) : wI (wI z a f) a g = wI z a g := by
  unfold wI
  simp only [Prod.mk.injEq, true_and, and_true]
  funext b
  simp only [ups_eq]
  split <;> rfl
theorem wI_self (z : Hp) (a : Nat) : wI z a (zI z a) = z := by
  unfold wI zI
  have : ups z.2.2.1 a (z.2.2.1 a) = z.2.2.1 := by
    funext b
    simp only [ups_eq]
    split
    · rename_i h; rw [h]
    · rfl
  rw [this]
theorem Hp.ext {z y : Hp} (h1 : zN z = zN y) (h2 : zK z = zK y) (h3 : zI z = zI y) (h4 : zL z = zL y) (h5 : zR z = zR y) : z = y := by
  obtain ⟨a1, a2, a3, a4, a5⟩ := z
  obtain ⟨b1, b2, b3, b4, b5⟩ := y
  simp only [zN, zK, zI, zL, zR] at h1 h2 h3 h4 h5
  subst h1 h2 h3 h4 h5
  rfl
theorem inb_nI {n m : Nat} (h : n < m) (hm : m < 2 ^ 31) : inb (nI n) m = true := by
  unfold inb
  rw [nI_toInt (by omega)]
  simp only [Bool.and_eq_true, decide_eq_true_eq]
  omega
theorem lit_nI (n : Nat) : (OfNat.ofNat n : Int32) = nI n := rfl
theorem nI_ne_m1 {n : Nat} (h : n < 2 ^ 31) : ¬ nI n = -1 := by
  intro e
  have h1 : (nI n).toInt = ((-1 : Int32)).toInt := by rw [e]
  rw [nI_toInt h] at h1
  have h2 : ((-1 : Int32)).toInt = -1 := by decide
  omega
/-- the frame: outside P nothing has changed -/
def Fr (P : Nat → Prop) (z y : Hp) : Prop := ∀ a : Nat, ¬ P a → zK y a = zK z a ∧ zI y a = zI z a ∧ zL y a = zL z a ∧ zR y a = zR z a
/-- only ints have changed, in the cells of P -/
def Fi (P : Nat → Prop) (z y : Hp) : Prop := zN y = zN z ∧ zK y = zK z ∧ zL y = zL z ∧ zR y = zR z ∧ ∀ a : Nat, ¬ P a → zI y a = zI z a
theorem Fi.rfl' {P : Nat → Prop} {z : Hp} : Fi P z z := ⟨rfl, rfl, rfl, rfl, fun _ _ => rfl⟩
theorem Fi.trans {P : Nat → Prop} {x y z : Hp} (h1 : Fi P x y) (h2 : Fi P y z) : Fi P x z := ⟨h2.1.trans h1.1, h2.2.1.trans h1.2.1, h2.2.2.1.trans h1.2.2.1, h2.2.2.2.1.trans h1.2.2.2.1, fun a ha => (h2.2.2.2.2 a ha).trans (h1.2.2.2.2 a ha)⟩
theorem Fi.mono {P Q : Nat → Prop} {x y : Hp} (h : Fi P x y) (hs : ∀ a, P a → Q a) : Fi Q x y := ⟨h.1, h.2.1, h.2.2.1, h.2.2.2.1, fun a ha => h.2.2.2.2 a (fun q => ha (hs a q))⟩
theorem Fi.w1 (z : Hp) (a : Nat) (f : Nat → Int32) : Fi (fun b => b = a) z (wI z a f) := ⟨rfl, rfl, rfl, rfl, fun b hb => by rw [zI_wI, if_neg hb]⟩
theorem Fi.w {P : Nat → Prop} {z : Hp} {a : Nat} {f : Nat → Int32} (ha : P a) : Fi P z (wI z a f) := (Fi.w1 z a f).mono (fun b hb => by rw [hb]; exact ha)
/-- the class of a state's cells: kinds and lengths -/
def skT : List (Nat × Nat) := [(15, 0), (14, 0), (1, 4), (1, 4), (1, 4), (1, 4), (1, 144), (1, 12), (10, 0), (1, 18), (1, 18), (1, 18), (1, 18), (1, 18), (1, 18), (8, 0), (1, 6), (1, 6), (1, 6), (12, 0), (1, 4), (1, 12), (1, 12), (1, 12), (7, 0), (1, 10), (1, 10), (1, 144), (1, 144), (1, 144), (1, 144), (1, 6)]
/-- references of a state's objects: (cell, field, cell) -/
def srT : List (Nat × Nat × Nat) := [(0, 0, 1), (0, 1, 8), (0, 2, 15), (0, 3, 19), (0, 4, 24), (0, 5, 27), (0, 6, 28), (0, 7, 29), (0, 8, 30), (0, 9, 31), (1, 0, 2), (1, 1, 3), (1, 2, 4), (1, 3, 5), (1, 4, 6), (1, 5, 7), (8, 0, 9), (8, 1, 10), (8, 2, 11), (8, 3, 12), (8, 4, 13), (8, 5, 14), (15, 0, 16), (15, 1, 17), (15, 2, 18), (19, 0, 20), (19, 1, 21), (19, 2, 22), (19, 3, 23), (24, 0, 25), (24, 1, 26)]
/-- a State and all that is its own, at s .. s + 31 -/
def LayS (z : Hp) (s : Nat) : Prop := (∀ j q, skT[j]? = some q → zK z (s + j) = q) ∧ ∀ q ∈ srT, zR z (s + q.1) q.2.1 = some (s + q.2.2)
theorem LayS.of {z y : Hp} {s : Nat} (h : LayS z s) (hk : zK y = zK z) (hr : zR y = zR z) : LayS y s := ⟨fun j q hj => by rw [hk]; exact h.1 j q hj, fun q hq => by rw [hr]; exact h.2 q hq⟩
theorem LayS.fi {P : Nat → Prop} {z y : Hp} {s : Nat} (h : LayS z s) (hf : Fi P z y) : LayS y s := h.of hf.2.1 hf.2.2.2.1
theorem aI_n {α : Type} {t n k a : Nat} {z : Hp} {f : Int32 → Option α} (h : zK z a = (t, n)) (hk : k < n) (hn : n < 2 ^ 31) : aI t z a (nI k) f = f (zI z a k) := by
  unfold aI
  rw [h, if_pos ⟨rfl, inb_nI hk hn⟩, nI_clamp (by omega)]
theorem sI_n {α : Type} {t n k a : Nat} {z : Hp} {v : Int32} {f : Hp → Option α} (h : zK z a = (t, n)) (hk : k < n) (hn : n < 2 ^ 31) : sI t z a (nI k) v f = f (wI z a (ups (zI z a) k v)) := by
  unfold sI
  rw [h, if_pos ⟨rfl, inb_nI hk hn⟩, nI_clamp (by omega)]
theorem aL_n {α : Type} {n k a : Nat} {z : Hp} {f : Int64 → Option α} (h : zK z a = (4, n)) (hk : k < n) (hn : n < 2 ^ 31) : aL z a (nI k) f = f (zL z a k) := by
  unfold aL
  rw [h, if_pos ⟨rfl, inb_nI hk hn⟩, nI_clamp (by omega)]
theorem sL_n {α : Type} {n k a : Nat} {z : Hp} {v : Int64} {f : Hp → Option α} (h : zK z a = (4, n)) (hk : k < n) (hn : n < 2 ^ 31) : sL z a (nI k) v f = f (wL z a (ups (zL z a) k v)) := by
  unfold sL
  rw [h, if_pos ⟨rfl, inb_nI hk hn⟩, nI_clamp (by omega)]
theorem aO_n {α : Type} {t n k a : Nat} {z : Hp} {f : Option Nat → Option α} (h : zK z a = (t, n)) (hk : k < n) (hn : n < 2 ^ 31) : aO t z a (nI k) f = f (zR z a k) := by
  unfold aO
  rw [h, if_pos ⟨rfl, inb_nI hk hn⟩, nI_clamp (by omega)]
theorem aR_n {α : Type} {t n k a b : Nat} {z : Hp} {f : Nat → Option α} (h : zK z a = (t, n)) (hk : k < n) (hn : n < 2 ^ 31) (hb : zR z a k = some b) : aR t z a (nI k) f = f b := by
  unfold aR
  rw [h, if_pos ⟨rfl, inb_nI hk hn⟩, nI_clamp (by omega), hb]
theorem lt_lit {n k : Nat} (h : n < (OfNat.ofNat k : Nat)) (hk : (OfNat.ofNat k : Nat) < 2 ^ 31) : nI n < (OfNat.ofNat k : Int32) := nI_lt h hk
theorem nlt_lit {n k : Nat} (h : (OfNat.ofNat k : Nat) ≤ n) (hn : n < 2 ^ 31) : ¬ nI n < (OfNat.ofNat k : Int32) := nI_nlt h hn
theorem gt_lit {n k : Nat} (h : (OfNat.ofNat k : Nat) < n) (hn : n < 2 ^ 31) : (OfNat.ofNat k : Int32) < nI n := nI_lt h hn
theorem ngt_lit {n k : Nat} (h : n ≤ (OfNat.ofNat k : Nat)) (hk : (OfNat.ofNat k : Nat) < 2 ^ 31) : ¬ (OfNat.ofNat k : Int32) < nI n := nI_nlt h hk
theorem add_lit (n k : Nat) : nI n + (OfNat.ofNat k : Int32) = nI (n + (OfNat.ofNat k : Nat)) := nI_add n k
theorem lit_add (n k : Nat) : (OfNat.ofNat k : Int32) + nI n = nI ((OfNat.ofNat k : Nat) + n) := nI_add k n
theorem lit_mul (n k : Nat) : (OfNat.ofNat k : Int32) * nI n = nI ((OfNat.ofNat k : Nat) * n) := pk_mul k n
theorem eq_lit {n k : Nat} (hn : n < 2 ^ 31) (hk : (OfNat.ofNat k : Nat) < 2 ^ 31) : nI n = (OfNat.ofNat k : Int32) ↔ n = (OfNat.ofNat k : Nat) := nI_eq hn hk
