/-! ===== text: what is told, on both sides ===== -/
def D1 (d : Nat) (M : Me) (F : Nat → Int32) : Prop := ∀ g, g < 4 → (M (d + 2) g = F (20 + 4 * g) ∧ M (d + 3) g = F (21 + 4 * g) ∧ M (d + 4) g = F (22 + 4 * g) ∧ M (d + 5) g = F (23 + 4 * g)) ∧ (isN (F (20 + 4 * g)) 16 ∧ isN (F (21 + 4 * g)) 16) ∧ (isN (F (22 + 4 * g)) 1000 ∧ 1 ≤ nn (F (22 + 4 * g))) ∧ -30 ≤ (F (23 + 4 * g)).toInt ∧ (F (23 + 4 * g)).toInt ≤ 0
def D2 (d : Nat) (M : Me) (F : Nat → Int32) : Prop := ∀ c, c < 144 → M (d + 6) c = F (48 + c) ∧ isN (F (48 + c)) 4
def D3 (d : Nat) (M : Me) (F S : Nat → Int32) : Prop := ∀ y, y < 12 → isN (F (36 + y)) 31 ∧ (S y = 0 ∧ M (d + 7) y = -1 ∧ F (36 + y) = 0 ∨ S y = 1 ∧ M (d + 7) y = F (36 + y))
def D4 (d : Nat) (M : Me) (F : Nat → Int32) : Prop := M (d + 1) 6 = F 5 ∧ isN (F 5) 301 ∧ 1 ≤ nn (F 5)
def D5 (d : Nat) (M : Me) (F : Nat → Int32) : Prop := M d 12 = F 6 ∧ isN (F 6) 100000
def D6 (d : Nat) (M : Me) (F : Nat → Int32) : Prop := ∃ m, m ≤ 12 ∧ F 2 = nI m ∧ M (d + 8) 6 = nI m ∧ (∀ p, p < m → (M (d + 9) p = F (624 + 6 * p) ∧ M (d + 10) p = F (625 + 6 * p) ∧ M (d + 11) p = F (626 + 6 * p) ∧ M (d + 12) p = F (627 + 6 * p) ∧ M (d + 13) p = 0 ∧ M (d + 14) p = 0) ∧ isN (F (624 + 6 * p)) 144 ∧ (-400 ≤ (F (625 + 6 * p)).toInt ∧ (F (625 + 6 * p)).toInt ≤ 0) ∧ isN (F (626 + 6 * p)) 61 ∧ F (627 + 6 * p) = 1) ∧ (∀ p r, p < m → r < m → F (624 + 6 * p) = F (624 + 6 * r) → p = r) ∧ ∀ p, p < 18 → F (628 + 6 * p) = 0 ∧ F (629 + 6 * p) = 0
def D7 (d : Nat) (M : Me) (F : Nat → Int32) : Prop := ∃ m, m ≤ 6 ∧ F 3 = nI m ∧ M (d + 15) 3 = nI m ∧ ∀ h, h < m → M (d + 16) h = F (732 + 3 * h) ∧ M (d + 17) h = F (733 + 3 * h) ∧ M (d + 18) h = -1 ∧ isN (F (732 + 3 * h)) 11
def D8 (d : Nat) (M : Me) (F : Nat → Int32) : Prop := ∃ m, m ≤ 4 ∧ F 4 = nI m ∧ M (d + 19) 4 = nI m ∧ (∀ r, r < m → ∃ k, k ≤ 3 ∧ Cr d r k M F) ∧ ∀ r, m ≤ r → r < 4 → F (750 + 10 * r) = 0
def D9 (d : Nat) (M : Me) (F : Nat → Int32) : Prop := (F 7 = 0 ∧ M d 10 = 0 ∧ ∀ c, c < 144 → M (d + 30) c = 0) ∨ (F 7 = 1 ∧ ∃ x y x2 y2, (1 ≤ x ∧ x ≤ x2 ∧ x2 ≤ 10 ∧ 1 ≤ y ∧ y ≤ y2 ∧ y2 ≤ 10) ∧ (F 8 = nI x ∧ F 9 = nI y ∧ F 10 = nI x2 ∧ F 11 = nI y2) ∧ M d 10 = (nI x2 - nI x + 1) * (nI y2 - nI y + 1) ∧ ∀ c, c < 144 → M (d + 30) c = bx x y x2 y2 1 (fun _ => 0) c)
def D10 (F : Nat → Int32) : Prop := ∀ i, i = 1 ∨ 12 ≤ i ∧ i < 18 → F i = 0
def D11 (M : Me) (G : Nat → Int32) : Prop := ∀ g, g < 4 → M 69 g = G g ∧ (G g = 0 ∨ G g = 1)
def DD (d : Nat) (M : Me) (F G S : Nat → Int32) (fa co : Int32) : Prop := D1 d M F ∧ D2 d M F ∧ D3 d M F S ∧ D4 d M F ∧ D5 d M F ∧ D6 d M F ∧ D7 d M F ∧ D8 d M F ∧ D9 d M F ∧ D10 F ∧ D11 M G ∧ (fa = 0 ∨ fa = 1) ∧ (co = 0 ∨ co = 1)
section
variable {d : Nat} {M M' : Me} {F F' G G' S S' : Nat → Int32} {fa co : Int32}
theorem D1.of (h : D1 d M F) (eM : ∀ a, d + 2 ≤ a → a ≤ d + 5 → M' a = M a) (eF : ∀ i, 20 ≤ i → i < 36 → F' i = F i) : D1 d M' F' := fun g hg => by
  rw [eM (d + 2) (by omega) (by omega), eM (d + 3) (by omega) (by omega), eM (d + 4) (by omega) (by omega), eM (d + 5) (by omega) (by omega), eF (20 + 4 * g) (by omega) (by omega), eF (21 + 4 * g) (by omega) (by omega), eF (22 + 4 * g) (by omega) (by omega), eF (23 + 4 * g) (by omega) (by omega)]
  exact h g hg
theorem D2.of (h : D2 d M F) (eM : M' (d + 6) = M (d + 6)) (eF : ∀ i, 48 ≤ i → i < 192 → F' i = F i) : D2 d M' F' := fun c hc => by
  rw [eM, eF (48 + c) (by omega) (by omega)]
  exact h c hc
theorem D3.of (h : D3 d M F S) (eM : M' (d + 7) = M (d + 7)) (eF : ∀ i, 36 ≤ i → i < 48 → F' i = F i) : D3 d M' F' S := fun c hc => by
  rw [eM, eF (36 + c) (by omega) (by omega)]
  exact h c hc
theorem D4.of (h : D4 d M F) (eM : M' (d + 1) = M (d + 1)) (eF : F' 5 = F 5) : D4 d M' F' := by
  unfold D4
  rw [eM, eF]
  exact h
theorem D5.of (h : D5 d M F) (eM : M' d 12 = M d 12) (eF : F' 6 = F 6) : D5 d M' F' := by
  unfold D5
  rw [eM, eF]
  exact h
theorem D6.of (h : D6 d M F) (eM : ∀ a, d + 8 ≤ a → a ≤ d + 14 → M' a = M a) (eF : ∀ i, i = 2 ∨ 624 ≤ i ∧ i < 732 → F' i = F i) : D6 d M' F' := by
  obtain ⟨m, h1, h2, h3, h4, h5, h6⟩ := h
  refine ⟨m, h1, by rw [eF 2 (by omega)]; exact h2, by rw [eM (d + 8) (by omega) (by omega)]; exact h3, fun p hp => ?_, fun p r hp hr => ?_, fun p hp => ?_⟩
  · rw [eM (d + 9) (by omega) (by omega), eM (d + 10) (by omega) (by omega), eM (d + 11) (by omega) (by omega), eM (d + 12) (by omega) (by omega), eM (d + 13) (by omega) (by omega), eM (d + 14) (by omega) (by omega), eF (624 + 6 * p) (by omega), eF (625 + 6 * p) (by omega), eF (626 + 6 * p) (by omega), eF (627 + 6 * p) (by omega)]
    exact h4 p hp
  · rw [eF (624 + 6 * p) (by omega), eF (624 + 6 * r) (by omega)]
    exact h5 p r hp hr
  · rw [eF (628 + 6 * p) (by omega), eF (629 + 6 * p) (by omega)]
    exact h6 p hp
theorem D7.of (h : D7 d M F) (eM : ∀ a, d + 15 ≤ a → a ≤ d + 18 → M' a = M a) (eF : ∀ i, i = 3 ∨ 732 ≤ i ∧ i < 750 → F' i = F i) : D7 d M' F' := by
  obtain ⟨m, h1, h2, h3, h4⟩ := h
  refine ⟨m, h1, by rw [eF 3 (by omega)]; exact h2, by rw [eM (d + 15) (by omega) (by omega)]; exact h3, fun p hp => ?_⟩
  rw [eM (d + 16) (by omega) (by omega), eM (d + 17) (by omega) (by omega), eM (d + 18) (by omega) (by omega), eF (732 + 3 * p) (by omega), eF (733 + 3 * p) (by omega)]
  exact h4 p hp
theorem Cr.of {r k : Nat} (h : Cr d r k M F) (hk : k ≤ 3) (e0 : M' (d + 20) r = M (d + 20) r) (e1 : ∀ j, j < 3 → M' (d + 21) (3 * r + j) = M (d + 21) (3 * r + j) ∧ M' (d + 22) (3 * r + j) = M (d + 22) (3 * r + j) ∧ M' (d + 23) (3 * r + j) = M (d + 23) (3 * r + j)) (eF : ∀ i, 750 + 10 * r ≤ i → i < 760 + 10 * r → F' i = F i) : Cr d r k M' F' := by
  refine ⟨by rw [eF _ (by omega) (by omega)]; exact h.1, by rw [e0]; exact h.2.1, fun j hj => ?_⟩
  have := e1 j (by omega)
  rw [this.1, this.2.1, this.2.2, eF (751 + 10 * r + 3 * j) (by omega) (by omega), eF (752 + 10 * r + 3 * j) (by omega) (by omega), eF (753 + 10 * r + 3 * j) (by omega) (by omega)]
  exact h.2.2 j hj
theorem D8.of (h : D8 d M F) (eM : ∀ a, d + 19 ≤ a → a ≤ d + 23 → M' a = M a) (eF : ∀ i, i = 4 ∨ 750 ≤ i ∧ i < 790 → F' i = F i) : D8 d M' F' := by
  obtain ⟨m, h1, h2, h3, h4, h5⟩ := h
  refine ⟨m, h1, by rw [eF 4 (by omega)]; exact h2, by rw [eM (d + 19) (by omega) (by omega)]; exact h3, fun r hr => ?_, fun r hr h6 => by rw [eF _ (by omega)]; exact h5 r hr h6⟩
  obtain ⟨k, hk, c⟩ := h4 r hr
  exact ⟨k, hk, c.of hk (by rw [eM (d + 20) (by omega) (by omega)]) (fun j _ => by rw [eM (d + 21) (by omega) (by omega), eM (d + 22) (by omega) (by omega), eM (d + 23) (by omega) (by omega)]; exact ⟨rfl, rfl, rfl⟩) (fun i h1 h2 => eF i (by omega))⟩
theorem D9.of (h : D9 d M F) (e1 : M' d 10 = M d 10) (e2 : M' (d + 30) = M (d + 30)) (eF : ∀ i, 7 ≤ i → i < 12 → F' i = F i) : D9 d M' F' := by
  unfold D9 at h ⊢
  rw [e1, e2, eF 7 (by omega) (by omega), eF 8 (by omega) (by omega), eF 9 (by omega) (by omega), eF 10 (by omega) (by omega), eF 11 (by omega) (by omega)]
  exact h
theorem D10.of (h : D10 F) (eF : ∀ i, i = 1 ∨ 12 ≤ i ∧ i < 18 → F' i = F i) : D10 F' := fun i hi => (eF i hi).trans (h i hi)
theorem D11.of (h : D11 M G) (e : M' 69 = M 69) : D11 M' G := fun g hg => by rw [e]; exact h g hg
/-- all but what is named -/
theorem DD.of (h : DD d M F G S fa co) (hd : d = 1 ∨ d = 33) (eM : ∀ a, d < a ∧ a < d + 32 ∨ a = 69 → M' a = M a) (e1 : M' d 10 = M d 10) (e2 : M' d 12 = M d 12) (eF : ∀ i, i ≠ 0 → i < 790 → F' i = F i) : DD d M' F' G S fa co :=
  ⟨h.1.of (fun a _ _ => eM a (by omega)) (fun i _ _ => eF i (by omega) (by omega)), h.2.1.of (eM _ (by omega)) (fun i _ _ => eF i (by omega) (by omega)), h.2.2.1.of (eM _ (by omega)) (fun i _ _ => eF i (by omega) (by omega)), h.2.2.2.1.of (eM _ (by omega)) (eF 5 (by omega) (by omega)), h.2.2.2.2.1.of e2 (eF 6 (by omega) (by omega)), h.2.2.2.2.2.1.of (fun a _ _ => eM a (by omega)) (fun i _ => eF i (by omega) (by omega)), h.2.2.2.2.2.2.1.of (fun a _ _ => eM a (by omega)) (fun i _ => eF i (by omega) (by omega)), h.2.2.2.2.2.2.2.1.of (fun a _ _ => eM a (by omega)) (fun i _ => eF i (by omega) (by omega)), h.2.2.2.2.2.2.2.2.1.of e1 (eM _ (by omega)) (fun i _ _ => eF i (by omega) (by omega)), h.2.2.2.2.2.2.2.2.2.1.of (fun i _ => eF i (by omega) (by omega)), h.2.2.2.2.2.2.2.2.2.2.1.of (eM _ (by omega)), h.2.2.2.2.2.2.2.2.2.2.2⟩
end
