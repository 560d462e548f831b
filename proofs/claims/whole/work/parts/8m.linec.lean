/-! ===== text: a line ===== -/
abbrev Dt := (Nat → Int32) × (Nat → Int32) × (Nat → Int32) × Int32 × Int32
def DDt (d : Nat) (M : Me) (D : Dt) : Prop := DD d M D.1 D.2.1 D.2.2.1 D.2.2.2.1 D.2.2.2.2
def lk (b : Nat → Nat) (T : Tk) : Nat := if isW b (txw 0) T = true then 0 else if isW b (txw 5) T = true then 1 else if isW b (txw 7) T = true then 2 else if isW b (txw 9) T = true then 3 else if isW b (txw 10) T = true then 4 else if isW b (txw 11) T = true then 5 else if isW b (txw 13) T = true then 6 else if isW b (txw 14) T = true then 7 else if isW b (txw 16) T = true then 8 else 9
def fx (k : Nat) (D : Dt) : Bool := if k = 3 then decide (D.2.2.2.1 = 1) else if k = 4 then decide (D.1 7 = 1) else if k = 5 then decide (D.1 2 = 12) else if k = 6 then decide (D.2.2.2.2 = 1) else if k = 7 then decide (D.1 3 = 6) else if k = 8 then decide (D.1 4 = 4) else false
def lfull (k : Nat) (D : Dt) : Bool := decide (D.1 0 = 40) || fx k D
def rt (b : Nat → Nat) (n k : Nat) (D : Dt) (s : Ps) : Ps := if k = 0 then tG b n (tgG D.2.1) s else if k = 1 then tL b n s else if k = 2 then tS b n (tgG D.2.2.1) s else if k = 3 then nm b n 1 300 s else if k = 4 then tB b n 1 10 s else if k = 5 then tP b n (tgP D.1) s else if k = 6 then nm b n 0 99999 s else if k = 7 then tH b n s else (rl b n (nRW D.1) 4 0 (wd b n (txw 17) s) D.1).1
def uD (b : Nat → Nat) (n k : Nat) (D : Dt) (s : Ps) : Dt := if k = 0 then (uG b n D.1 D.2.1 s, ups D.2.1 (nmv 0 3 s) 1, D.2.2) else if k = 1 then (uL b n D.1 s, D.2) else if k = 2 then (uS b n D.1 D.2.2.1 s, D.2.1, ups D.2.2.1 (nmv 0 11 s) 1, D.2.2.2) else if k = 3 then (ups D.1 5 (nI (nmv 1 300 s)), D.2.1, D.2.2.1, 1, D.2.2.2.2) else if k = 4 then (uX b n D.1 s, D.2) else if k = 5 then (uP b n D.1 s, D.2) else if k = 6 then (ups D.1 6 (nI (nmv 0 99999 s)), D.2.1, D.2.2.1, D.2.2.2.1, 1) else if k = 7 then (uH b n D.1 s, D.2) else (uR b n D.1 s, D.2)
def Dz (D : Dt) : Dt := (ups D.1 0 (D.1 0 + 1), D.2)
def l1 (b : Nat → Nat) (n : Nat) (D : Dt) (s : Ps) : Ps := ad b n (fal (lfull (lk b s.1) D) 3 s.1.2.1 s)
def lnS (b : Nat → Nat) (n : Nat) (D : Dt) (s : Ps) : Ps := sg b n 59 (if lk b s.1 = 9 then fal true 1 s.1.2.1 s else rt b n (lk b s.1) (Dz D) (l1 b n D s))
def lnD (b : Nat → Nat) (n : Nat) (D : Dt) (s : Ps) : Dt := uD b n (lk b s.1) (Dz D) (l1 b n D s)
theorem cF_0 {b : Nat → Nat} {n m i : Nat} {s : Ps} {F : Nat → Int32} : cF b n m i s F 0 = F 0 := by
  unfold cF
  rw [up_ne (by omega)]
  split
  · rw [up_ne (by omega)]
  · rw [up_ne (by omega), up_ne (by omega), up_ne (by omega)]
theorem rl_0 {b : Nat → Nat} {n m : Nat} : ∀ {f i : Nat} {s : Ps} {F : Nat → Int32}, (rl b n m f i s F).2 0 = F 0
  | 0, _, _, _ => rfl
  | f + 1, i, s, F => by
    show (if (tC b n i s).2.1 = 0 ∧ isW b (txw 23) (tC b n i s).1 = true then rl b n m f (i + 1) (ad b n (tC b n i s)) (cF b n m i s F) else (tC b n i s, cF b n m i s F)).2 0 = F 0
    split
    · rw [rl_0, cF_0]
    · exact cF_0
theorem uD_0 {b : Nat → Nat} {n k : Nat} {D : Dt} {s : Ps} : (uD b n k D s).1 0 = D.1 0 := by
  unfold uD
  split
  · show uG b n D.1 D.2.1 s 0 = D.1 0
    unfold uG
    rw [up_ne (by omega), up_ne (by omega), up_ne (by omega), up_ne (by omega)]
  split
  · show uL b n D.1 s 0 = D.1 0
    unfold uL
    rw [if_neg (show ¬ (48 ≤ 0 ∧ 0 < 192) by omega)]
  split
  · show uS b n D.1 D.2.2.1 s 0 = D.1 0
    unfold uS
    rw [up_ne (by omega)]
  split
  · show ups D.1 5 (nI (nmv 1 300 s)) 0 = D.1 0
    rw [up_ne (show 0 ≠ 5 by decide)]
  split
  · show uX b n D.1 s 0 = D.1 0
    unfold uX
    rw [up_ne (by omega), up_ne (by omega), up_ne (by omega), up_ne (by omega), up_ne (by omega)]
  split
  · show uP b n D.1 s 0 = D.1 0
    unfold uP
    rw [up_ne (by omega), up_ne (by omega), up_ne (by omega), up_ne (by omega), up_ne (by omega)]
  split
  · show ups D.1 6 (nI (nmv 0 99999 s)) 0 = D.1 0
    rw [up_ne (show 0 ≠ 6 by decide)]
  split
  · show uH b n D.1 s 0 = D.1 0
    unfold uH
    rw [up_ne (by omega), up_ne (by omega), up_ne (by omega)]
  · show uR b n D.1 s 0 = D.1 0
    unfold uR
    rw [up_ne (by omega)]; exact rl_0
theorem tB_good {b : Nat → Nat} {n lo hi : Nat} {s : Ps} (h : (tB b n lo hi s).2.1 = 0) : s.2.1 = 0 := (nm_good (nm_good (wd_good (nm_good (nm_good h).1).1)).1).1
theorem tH_good {b : Nat → Nat} {n : Nat} {s : Ps} (h : (tH b n s).2.1 = 0) : s.2.1 = 0 := (nm_good (wd_good (nm_good h).1)).1
theorem rl_good {b : Nat → Nat} {n m : Nat} {s : Ps} {F : Nat → Int32} (h : (rl b n m 4 0 s F).1.2.1 = 0) : s.2.1 = 0 := by
  rw [show rl b n m 4 0 s F = _ from rl_s (i := 0) (by decide)] at h
  split at h
  · rename_i c
    exact (tC_good c.1).1
  · exact (tC_good h).1
theorem sg_good {b : Nat → Nat} {n c : Nat} {s : Ps} (h : (sg b n c s).2.1 = 0) : s.2.1 = 0 ∧ isS c s.1 = true := by
  have := fl_n (by decide) (show (fl (!isS c s.1) 1 s.1.2.1 s.2).1 = 0 from h)
  exact ⟨this.1, by cases q : isS c s.1 with
    | true => rfl
    | false => rw [q] at this; cases this.2⟩
theorem l1_good {b : Nat → Nat} {n : Nat} {D : Dt} {s : Ps} (h : (l1 b n D s).2.1 = 0) : s.2.1 = 0 ∧ lfull (lk b s.1) D = false := fl_n (by decide) (show (fl (lfull (lk b s.1) D) 3 s.1.2.1 s.2).1 = 0 from h)
section
variable {z0 z y : Hp} {b : Nat → Nat} {n d : Nat} {s s' : Ps} {M : Me} {D : Dt}
theorem op_C {fa co : Int32} (f : Bool) (h : HC z0 z b n d s M fa co) : ∃ y, m_X2_openLine 68 (bI (!f)) z = some ((), y) ∧ HC z0 y b n d (ad b n (fal f 3 s.1.2.1 s)) M fa co := by
  have hC := h.C
  unfold m_X2_openLine m_X2_openLine_B16
  cases f with
  | true =>
    obtain ⟨z1, r1, h1⟩ := h_fail 3 s.1.2.1 h
    obtain ⟨z2, r2, h2⟩ := h_ad h1
    refine ⟨z2, ?_, h2⟩
    rw [if_pos (show bI (!true) = 0 from rfl), gR_eq (by rw [ck_68 hC]) (cr_68_0 hC), gI_eq (by rw [ck_66 hC]), h.1.la, isC_eq (by rw [ck_68 hC]), r1, bnd_some, gR_eq (by rw [ck_68 h1.C]) (cr_68_0 h1.C), isC_eq (by rw [ck_66 h1.C]), r2, bnd_some]
  | false =>
    obtain ⟨z2, r2, h2⟩ := h_ad h
    refine ⟨z2, ?_, by rw [fal_f]; exact h2⟩
    rw [if_neg (show ¬ bI (!false) = 0 by decide), gR_eq (by rw [ck_68 hC]) (cr_68_0 hC), isC_eq (by rw [ck_66 hC]), r2, bnd_some]
theorem b362_C {fa co : Int32} (h : HC z0 z b n d s M fa co) : ∃ y, m_X2_readLine_B362 68 z = some ((), y) ∧ HC z0 y b n d (sg b n 59 s) (upm M d 13 (M d 13 + 1)) fa co := by
  have hd := h.dd
  obtain ⟨z1, r1, F1, P1⟩ := sg_C (c := 59) h.1 (by decide)
  have h1 := h.fp F1 P1
  have h2 := h1.w (a := d) (k := 13) (v := M d 13 + 1) (by omega)
  have ed : zI z1 d = M d := h1.m (by omega) (by omega)
  refine ⟨_, ?_, h2⟩
  unfold m_X2_readLine_B362
  rw [isC_eq (by rw [ck_68 h.C]), show m_X2_needSign 68 59 z = _ from r1, bnd_some, gR_eq (by rw [ck_68 h1.C]) h1.r, gI_eq (by rw [sk_0 h1.S]), pI_eq (by rw [sk_0 h1.S]), ed]
/-- what a line of the class comes to -/
def LR (z0 : Hp) (b : Nat → Nat) (n d : Nat) (s : Ps) (D : Dt) (X : Option (Unit × Hp)) : Prop := ∃ y M' fa' co', X = some ((), y) ∧ HC z0 y b n d (lnS b n D s) M' fa' co' ∧ ((lnS b n D s).2.1 = 0 → M' d 13 = (lnD b n D s).1 0 ∧ DDt d M' (lnD b n D s) ∧ fa' = (lnD b n D s).2.2.2.1 ∧ co' = (lnD b n D s).2.2.2.2)
theorem lr_C {k : Nat} {fa co : Int32} (R : Nat → Hp → Option (Unit × Hp)) (h : HC z0 z b n d s M fa co) (hk : lk b s.1 = k) (h9 : k ≠ 9) (hl : M d 13 = D.1 0)
    (hR : ∀ {x : Hp}, HC z0 x b n d (l1 b n D s) M fa co → ∃ y M' fa' co', R 68 x = some ((), y) ∧ HC z0 y b n d (rt b n k (Dz D) (l1 b n D s)) M' fa' co' ∧ ((rt b n k (Dz D) (l1 b n D s)).2.1 = 0 → M' d 13 = M d 13 ∧ DDt d M' (uD b n k (Dz D) (l1 b n D s)) ∧ fa' = (uD b n k (Dz D) (l1 b n D s)).2.2.2.1 ∧ co' = (uD b n k (Dz D) (l1 b n D s)).2.2.2.2)) :
    LR z0 b n d s D (isC 2 z 68 <| bnd (m_X2_openLine 68 (bI (!lfull k D)) z) fun _ z83 => isC 2 z83 68 <| bnd (R 68 z83) fun _ z85 => m_X2_readLine_B362 68 z85) := by
  have hd := h.dd
  obtain ⟨z1, r1, h1⟩ := op_C (lfull k D) h
  have h1' : HC z0 z1 b n d (l1 b n D s) M fa co := by unfold l1; rw [hk]; exact h1
  obtain ⟨z2, M2, fa2, co2, r2, h2, g2⟩ := hR h1'
  obtain ⟨z3, r3, h3⟩ := b362_C h2
  have e1 : lnS b n D s = sg b n 59 (rt b n k (Dz D) (l1 b n D s)) := by unfold lnS; rw [hk, if_neg h9]
  have e2 : lnD b n D s = uD b n k (Dz D) (l1 b n D s) := by unfold lnD; rw [hk]
  refine ⟨z3, _, fa2, co2, ?_, by rw [e1]; exact h3, fun g => ?_⟩
  · rw [isC_eq (by rw [ck_68 h.C]), r1, bnd_some, isC_eq (by rw [ck_68 h1.C]), r2, bnd_some, r3]
  · rw [e1] at g
    obtain ⟨q1, q2, q3, q4⟩ := g2 (sg_good g).1
    rw [e2]
    refine ⟨?_, ?_, q3, q4⟩
    · rw [upm_e, up_eq, q1, uD_0, hl]
      show D.1 0 + 1 = ups D.1 0 (D.1 0 + 1) 0
      rw [up_eq]
    · exact DD.of q2 hd (fun a ha => upm_n (by omega)) (by rw [upm_e, up_ne (by decide)]) (by rw [upm_e, up_ne (by decide)]) (fun i _ _ => rfl)
theorem DDt.dz (h : DDt d M D) (hd : d = 1 ∨ d = 33) : DDt d M (Dz D) := DD.of h hd (fun _ _ => rfl) rfl rfl (fun i hi _ => up_ne hi)
end
