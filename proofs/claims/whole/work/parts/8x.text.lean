/-! ===== text: references; the class's call ===== -/
/-- only the parser's State and which State is now have changed -/
def Rf2 (z y : Hp) : Prop := zK y = zK z ∧ (∀ a, a ≠ 0 → a ≠ 68 → zR y a = zR z a) ∧ (∀ k, k ≠ 2 → zR y 68 k = zR z 68 k) ∧ ∀ k, 1 < k → zR y 0 k = zR z 0 k
theorem LayC.rf {z y : Hp} (h : LayC z) (F : Rf2 z y) : LayC y := by
  have dec : ∀ q ∈ aRT, (q.1 = 0 → 1 < q.2.1) ∧ (q.1 = 68 → q.2.1 ≠ 2) := by decide
  refine ⟨fun q hq => by rw [F.1]; exact h.1 q hq, fun q hq => ?_⟩
  have := dec q hq
  have e := h.2 q hq
  by_cases c0 : q.1 = 0
  · rw [c0] at e ⊢
    rw [F.2.2.2 _ (this.1 c0)]; exact e
  · by_cases c1 : q.1 = 68
    · rw [c1] at e ⊢
      rw [F.2.2.1 _ (this.2 c1)]; exact e
    · rw [F.2.1 _ c0 c1]; exact e
theorem LayM.rf {z y : Hp} (h : LayM z) (F : Rf2 z y) : LayM y := by
  have dec : ∀ q ∈ mRT, q.1 ≠ 0 ∧ q.1 ≠ 68 := by decide
  exact ⟨fun q hq => by rw [F.1]; exact h.1 q hq, fun q hq => by rw [F.2.1 _ (dec q hq).1 (dec q hq).2]; exact h.2 q hq⟩
theorem LayS.rf {z y : Hp} {s : Nat} (h : LayS z s) (F : Rf2 z y) (hs : 1 ≤ s ∧ s + 32 ≤ 65 ∨ 115 ≤ s) : LayS y s := by
  have dec : ∀ q ∈ srT, q.1 < 32 := by decide
  exact ⟨fun j q hj => by rw [F.1]; exact h.1 j q hj, fun q hq => by rw [F.2.1 _ (by omega) (by have := dec q hq; omega)]; exact h.2 q hq⟩
theorem ImR.rf {z y : Hp} {k : Nat} (h : ImR z k) (F : Rf2 z y) (hn : zN y = zN z) (e : ∀ a, 115 ≤ a → zI y a = zI z a) (e5 : zI y 95 = zI z 95) (e6 : zI y 96 = zI z 96) : ImR y k := by
  unfold ImR at h ⊢
  rw [e5, e6, F.2.1 65 (by decide) (by decide), hn]
  rcases h with h | ⟨h1, t, h2, h3, h4, h5, h6, h7⟩
  · exact Or.inl h
  · exact Or.inr ⟨h1, t, h2, h3, h4, h5.rf F (Or.inr h3), h6.of (fun a ha _ => e a (by omega)), h7⟩
theorem In.tx {z y : Hp} {s d s2 d2 : Nat} (h : In z s d) (F : Rf2 z y) (hsd : s2 = s ∧ d2 = d ∨ s2 = d ∧ d2 = s) (h0 : zR y 0 0 = some s2) (h1 : zR y 0 1 = some d2) (h68 : zR y 68 2 = some s2 ∨ zR y 68 2 = some d2) (hn : zN y = zN z) (hR : RelS y s2 (zI y 93)) (hO : OkW (zI y 93) 12) (ht : isN (zI y 93 1) 2001) (e : ∀ a, 115 ≤ a → zI y a = zI z a) (e5 : zI y 95 = zI z 95) (e6 : zI y 96 = zI z 96) (hT : Tp y) (hF : FdP y) (hS : Sl y) : In y s2 d2 := by
  have lo := in_lo h
  have sd := in_sd h
  have LS := in_S h
  have LD := in_D h
  refine ⟨by omega, h0, h1, (in_C h).rf F, (in_M h).rf F, ?_, ?_, by rw [F.2.1 74 (by decide) (by decide)]; exact in_wq h, h68, hR, hO, ht, fun k q => (in_im h k q).rf F hn e e5 e6, by have := in_imd h; unfold ImD at this ⊢; rw [F.2.1 65 (by decide) (by decide)]; exact this, hT.1, hT.2.1, hT.2.2, hF.1, hF.2.1, hF.2.2.1, hF.2.2.2.1, hF.2.2.2.2.1, hF.2.2.2.2.2, hS.1, hS.2.1, hS.2.2.1, hS.2.2.2.1, hS.2.2.2.2, by rw [hn]; exact in_N h⟩
  · rcases hsd with ⟨q1, q2⟩ | ⟨q1, q2⟩
    · rw [q1]; exact LS.rf F (by omega)
    · rw [q1]; exact LD.rf F (by omega)
  · rcases hsd with ⟨q1, q2⟩ | ⟨q1, q2⟩
    · rw [q2]; exact LD.rf F (by omega)
    · rw [q2]; exact LS.rf F (by omega)
/-- before the first line -/
def Di (e g t : Nat → Int32) : Dt := (fun i => if i < 810 then plainW i else e i, fun i => if i < 4 then 0 else g i, fun i => if i < 12 then 0 else t i, 0, 0)
theorem Di_v {e g t : Nat → Int32} : VM (Di e g t) := by
  refine ⟨⟨0, by decide, rfl⟩, ⟨0, by decide, rfl⟩, ⟨0, by decide, rfl, fun r _ hr => ?_⟩, Or.inl rfl, Or.inl rfl⟩
  show (if 750 + 10 * r < 810 then plainW (750 + 10 * r) else _) = 0
  rw [if_pos (by omega)]
  unfold plainW
  rw [if_neg (by omega), if_neg (by omega), if_neg (by omega)]
theorem pl_0 {i : Nat} (h : i ≠ 5 ∧ i ≠ 6 ∧ (i < 20 ∨ 36 ≤ i) ∧ i < 810) (e g t : Nat → Int32) : (Di e g t).1 i = 0 := by
  show (if i < 810 then plainW i else _) = 0
  rw [if_pos (by omega)]
  unfold plainW
  rw [if_neg (by omega), if_neg (by omega), if_neg (by omega)]
theorem Di_D {d : Nat} {M : Me} {e g t : Nat → Int32} (h1 : ∀ g, g < 4 → M (d + 2) g = 10 ∧ M (d + 3) g = 15 ∧ M (d + 4) g = 100 ∧ M (d + 5) g = 0) (h2 : ∀ c, c < 144 → M (d + 6) c = 0 ∧ M (d + 30) c = 0) (h3 : ∀ c, c < 12 → M (d + 7) c = -1) (h4 : M (d + 1) 6 = 100) (h5 : M (d + 8) 6 = 0) (h6 : M (d + 15) 3 = 0) (h7 : M (d + 19) 4 = 0) (h8 : M d 10 = 0) (h9 : M d 12 = 99999) (h10 : ∀ i, i < 4 → M 69 i = 0) : DDt d M (Di e g t) := by
  have z0 := fun i h => pl_0 (i := i) h e g t
  have dec : ∀ g, g < 4 → plainW (20 + 4 * g) = 10 ∧ plainW (21 + 4 * g) = 15 ∧ plainW (22 + 4 * g) = 100 ∧ plainW (23 + 4 * g) = 0 := by decide
  have isz : ∀ k, 0 < k → k < 1000000 → isN (0 : Int32) k := fun k hk h => isN.mk (n := 0) hk (by omega)
  refine ⟨fun q hq => ?_, fun c hc => ?_, fun c hc => ?_, ⟨h4, ?_, ?_⟩, ⟨h9, ?_⟩, ⟨0, by decide, z0 2 (by decide), h5, fun p hp => absurd hp (by omega), fun p r hp => absurd hp (by omega), fun p hp => ⟨z0 _ (by omega), z0 _ (by omega)⟩⟩, ⟨0, by decide, z0 3 (by decide), h6, fun p hp => absurd hp (by omega)⟩, ⟨0, by decide, z0 4 (by decide), h7, fun p hp => absurd hp (by omega), fun r _ hr => z0 _ (by omega)⟩, Or.inl ⟨z0 7 (by decide), h8, fun c hc => (h2 c hc).2⟩, fun i hi => z0 i (by omega), fun q hq => ⟨?_, Or.inl ?_⟩, Or.inl rfl, Or.inl rfl⟩
  · have e1 : (Di e g t).1 (20 + 4 * q) = 10 := (if_pos (show 20 + 4 * q < 810 by omega)).trans (dec q hq).1
    have e2 : (Di e g t).1 (21 + 4 * q) = 15 := (if_pos (show 21 + 4 * q < 810 by omega)).trans (dec q hq).2.1
    have e3 : (Di e g t).1 (22 + 4 * q) = 100 := (if_pos (show 22 + 4 * q < 810 by omega)).trans (dec q hq).2.2.1
    have e4 : (Di e g t).1 (23 + 4 * q) = 0 := (if_pos (show 23 + 4 * q < 810 by omega)).trans (dec q hq).2.2.2
    rw [e1, e2, e3, e4]
    exact ⟨h1 q hq, ⟨isN.mk (n := 10) (by decide) (by decide), isN.mk (n := 15) (by decide) (by decide)⟩, ⟨isN.mk (n := 100) (by decide) (by decide), by decide⟩, by decide, by decide⟩
  · rw [z0 (48 + c) (by omega)]
    exact ⟨(h2 c hc).1, isz 4 (by decide) (by decide)⟩
  · rw [z0 (36 + c) (by omega)]
    exact ⟨isz 31 (by decide) (by decide), Or.inl ⟨if_pos hc, h3 c hc, rfl⟩⟩
  · exact isN.mk (n := 100) (by decide) (by decide)
  · exact (by decide : 1 ≤ nn (100 : Int32))
  · exact isN.mk (n := 99999) (by decide) (by decide)
  · rw [h10 q hq]
    exact (if_pos hq).symm
  · exact if_pos hq
