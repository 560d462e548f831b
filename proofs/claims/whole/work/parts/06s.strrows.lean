/-- the texts, by their signs -/
def txc_T : List (List Int32) := [[97, 110, 100], [97, 116], [99, 111, 108, 100], [100, 105, 103], [102, 97, 114], [103, 97, 112, 115], [103, 114, 111, 117, 110, 100], [104, 111, 117, 115, 101], [105, 99, 101], [105, 102], [108, 97, 116, 101, 110, 116], [108, 97, 121], [108, 101, 97, 100], [108, 105, 102, 116], [108, 105, 109, 105, 116], [109, 97, 114, 107], [112, 105, 112, 101], [115, 104, 97, 102, 116], [115, 104, 117, 116], [115, 112, 101, 101, 100], [115, 116, 114, 101, 97, 109], [116, 104, 105, 99, 107], [116, 105, 99, 107], [116, 111]]
def sLen {α : Type} (w : Nat) (f : Int32 → Option α) : Option α := f (nI (txc_T.getD w []).length)
def sCh {α : Type} (w : Nat) (i : Int32) (f : Int32 → Option α) : Option α := if inb i (txc_T.getD w []).length = true then f ((txc_T.getD w []).getD i.toNatClampNeg 0) else none
section JSTR
variable {l : Launch} {Γ : Am} {M : Mi} {ρ : Type} {cv : ρ → Option Value} {mc ms pc : Nat} {lv : List (Nat × Value)} {st stk : List Value} {z : Hp} {t : Option (ρ × Hp)} {idx w : Nat}
theorem j_strlen {f : Int32 → Option (ρ × Hp)} (hl : Cond.methodLink M.1 idx { cls := "java/lang/String", name := "length", desc := "()I" } ∈ gw) (hd : decode M.2.1 pc = .ok (.invokevirtual idx, 3)) (hf : 2 ≤ M.2.2.2.2.2.frames) (ho : 60 ≤ M.2.2.2.2.2.locals) (hs : (st.map fun v => v.category).sum ≤ 8) (kk : ∀ x : Int32, J l Γ M cv mc ms (pc + 3) lv (.int x :: st) z (f x)) : J l Γ M cv mc ms pc lv (.ref (mT Γ w) :: st) z (sLen w f) := by
  sorry
theorem j_strchar {i : Int32} {f : Int32 → Option (ρ × Hp)} (hl : Cond.methodLink M.1 idx { cls := "java/lang/String", name := "charAt", desc := "(I)C" } ∈ gw) (hd : decode M.2.1 pc = .ok (.invokevirtual idx, 3)) (hf : 2 ≤ M.2.2.2.2.2.frames) (ho : 80 ≤ M.2.2.2.2.2.locals) (hs : (st.map fun v => v.category).sum ≤ 8) (kk : ∀ x : Int32, J l Γ M cv mc ms (pc + 3) lv (.int x :: st) z (f x)) : J l Γ M cv mc ms pc lv (.int i :: .ref (mT Γ w) :: st) z (sCh w i f) := by
  sorry
theorem j_multi {g0 : Nat → Hp → Option (ρ × Hp)} {n k : Int32} {n0 k0 mc2 ms2 : Nat} (hw : Cond.classLink M.1 idx "[[J" ∈ gw) (ha : Cond.arrayClass .long ∈ gw) (hd : decode M.2.1 pc = .ok (.multianewarray idx 2, 4)) (hn : ¬ n < 0 ∧ ¬ k < 0) (hn0 : n.toNatClampNeg = n0) (hk0 : k.toNatClampNeg = k0) (hb : n0 * 4 ≤ 536870912) (hb2 : k0 * 8 ≤ 536870912) (hmc : mc2 + (1 + n0) ≤ mc) (hms : ms2 + (n0 + n0 * k0) ≤ ms)
    (kk : ∀ (b : Nat) (z2 : Hp), J l Γ M cv mc2 ms2 (pc + 4) lv (.ref (mB Γ + b) :: st) z2 (g0 b z2)) : J l Γ M cv mc ms pc lv (.int k :: .int n :: st) z (nw2 n0 k0 z g0) := by
  sorry
end JSTR
