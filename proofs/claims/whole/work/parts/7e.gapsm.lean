/-! ===== gaps by the model ===== -/
def pcM (p : Nat) : Int32 := if p = 0 then 1000 else nI (p - 1)
theorem pcM_s (u : Nat) : pcM (u + 1) = nI u := by unfold pcM; rw [if_neg (by omega)]; rfl
def pvM (s p : Nat) : Int32 := if s = 0 then -1 else pcM p
def MBq (z : Hp) (B : BS) : Prop := zI z 92 31 = nI B.2.2.2 ∧ (∀ j, j < B.2.2.2 → zI z 108 j = nI (B.2.2.1 j)) ∧ ∀ v, v < 288 → zI z 107 v = pvM (B.1 v) (B.2.1 v)
def TM (z : Hp) (t : Nat → Bool) (e : Nat → Nat → Bool) : Prop := (∀ c, c < 144 → zI z 105 c = bI (t c)) ∧ ∀ c w d, c < 144 → w < 4 → bsM c w = some d → zI z 106 (4 * c + w) = bI (e c d)
theorem TM.fi {P : Nat → Prop} {z y : Hp} {t : Nat → Bool} {e : Nat → Nat → Bool} (h : TM z t e) (F : Fi P z y) (hp : ∀ a, P a → a ≠ 105 ∧ a ≠ 106) : TM y t e :=
  ⟨fun c hc => by rw [F.2.2.2.2 105 (fun q => (hp 105 q).1 rfl)]; exact h.1 c hc, fun c w d hc hw hb => by rw [F.2.2.2.2 106 (fun q => (hp 106 q).2 rfl)]; exact h.2 c w d hc hw hb⟩
theorem openM_ok {z : Hp} {q c : Nat} (hM : LayM z) (hO : OkW (zI z 93) q) (hc : c < 144) : m_X12_isOpen 92 (nI c) z = some (bI (opB (zI z 93) c), z) := by
  unfold m_X12_isOpen
  rw [isC_eq (by rw [mk_92 hM]), isShaftM_ok hM hc, bnd_some]
  unfold opB
  cases shW (zI z 93) c with
  | true => rw [if_neg (by decide)]; rfl
  | false =>
    rw [if_pos (by decide), isC_eq (by rw [mk_92 hM]), isFrozenM_ok hM hO hc, bnd_some]
    cases frW (zI z 93) c with
    | true => rw [if_neg (by decide)]; rfl
    | false => rw [if_pos (by decide)]; rfl
theorem reachM_ok {z : Hp} {v p i : Nat} {B : BS} {E : Nat → Nat → Prop} {sr tg : Nat → Bool} (hM : LayM z) (h : MBq z B) (hB : BI E sr tg B i) (hv : v < 288) :
    ∃ y, m_X12_reach 92 (nI v) (pcM p) z = some ((), y) ∧ Fi (fun a => a = 92 ∨ a = 108 ∨ a = 107) z y ∧ (∀ k, k ≠ 31 → zI y 92 k = zI z 92 k) ∧ MBq y (psh B v p) := by
  obtain ⟨c1, c2, c3⟩ := h
  unfold m_X12_reach psh
  rw [gR_eq (by rw [mk_92 hM]) (mr_92_29 hM), aI_n (mk_107 hM) hv (by decide), c3 v hv]
  by_cases g : B.1 v = 0
  · have hm' := hB.lt hv g
    have e1 : pvM (B.1 v) (B.2.1 v) = -1 := by unfold pvM; rw [if_pos g]
    obtain ⟨z4, h4⟩ : ∃ y, y = wI z 107 (ups (zI z 107) v (pcM p)) := ⟨_, rfl⟩
    have M4 : LayM z4 := hM.of (by rw [h4]; rfl) (by rw [h4]; rfl)
    have n4 : zI z4 92 31 = nI B.2.2.2 := by rw [h4, zI_ne (by decide)]; exact c1
    have qq4 : zI z4 108 = zI z 108 := by rw [h4, zI_ne (by decide)]
    obtain ⟨z7, h7⟩ : ∃ y, y = wI z4 108 (ups (zI z 108) B.2.2.2 (nI v)) := ⟨_, rfl⟩
    have M7 : LayM z7 := M4.of (by rw [h7]; rfl) (by rw [h7]; rfl)
    have n7 : zI z7 92 31 = nI B.2.2.2 := by rw [h7, zI_ne (by decide)]; exact n4
    obtain ⟨z9, h9⟩ : ∃ y, y = wI z7 92 (ups (zI z7 92) 31 (nI (B.2.2.2 + 1))) := ⟨_, rfl⟩
    rw [e1, if_pos rfl, gR_eq (by rw [mk_92 hM]) (mr_92_29 hM), sI_n (mk_107 hM) hv (by decide), ← h4, gR_eq (by rw [mk_92 M4]) (mr_92_30 M4), gI_eq (by rw [mk_92 M4]), n4, sI_n (mk_108 M4) hm' (by decide), qq4, ← h7, gI_eq (by rw [mk_92 M7]), n7, nI_1, pI_eq (by rw [mk_92 M7]), ← h9]
    refine ⟨z9, rfl, ?_, fun k hk => ?_, ?_⟩
    · rw [h9, h7, h4]
      exact ((Fi.w (by omega)).trans (Fi.w (by omega))).trans (Fi.w (by omega))
    · rw [h9, zI_eq, up_ne hk, h7, zI_ne (by decide), h4, zI_ne (by decide)]
    · rw [if_pos g]
      refine ⟨by rw [h9, zI_eq, up_eq], fun j hj => ?_, fun w hw => ?_⟩
      · dsimp only at hj ⊢
        rw [h9, zI_ne (by decide), h7, zI_eq, ups_eq, ups_eq]
        by_cases k : j = B.2.2.2
        · rw [if_pos k, if_pos k]
        · rw [if_neg k, if_neg k]; exact c2 j (by omega)
      · dsimp only
        rw [h9, zI_ne (by decide), h7, zI_ne (by decide), h4, zI_eq, ups_eq, ups_eq, ups_eq]
        by_cases k : w = v
        · rw [if_pos k, if_pos k, if_pos k]
          unfold pvM
          rw [if_neg (by omega)]
        · rw [if_neg k, if_neg k, if_neg k]
          exact c3 w hw
  · have e1 : ¬ pvM (B.1 v) (B.2.1 v) = -1 := by
      unfold pvM
      rw [if_neg g]
      rcases hB.par v hv g with q | ⟨u, u1, u2⟩
      · rw [q]; decide
      · rw [u2, pcM_s]
        exact nI_ne_m1 (by omega)
    rw [if_neg e1, if_neg g]
    exact ⟨z, rfl, Fi.rfl', fun _ _ => rfl, c1, c2, c3⟩
theorem bsM_opp {c w d : Nat} (hc : c < 144) (hw : w < 4) (h : bsM c w = some d) : bsM d (w ^^^ 1) = some c := by
  have w4 : w = 0 ∨ w = 1 ∨ w = 2 ∨ w = 3 := by omega
  rcases w4 with rfl | rfl | rfl | rfl
  · rw [show (0 ^^^ 1 : Nat) = 1 by decide]
    simp only [bsM] at h ⊢
    simp at h ⊢
    omega
  · rw [show (1 ^^^ 1 : Nat) = 0 by decide]
    simp only [bsM] at h ⊢
    simp at h ⊢
    omega
  · rw [show (2 ^^^ 1 : Nat) = 3 by decide]
    simp only [bsM] at h ⊢
    simp at h ⊢
    omega
  · rw [show (3 ^^^ 1 : Nat) = 2 by decide]
    simp only [bsM] at h ⊢
    simp at h ⊢
    omega
theorem bsM_inj {c w w2 d : Nat} (hw : w < 4) (hw2 : w2 < 4) (h : bsM c w = some d) (h2 : bsM c w2 = some d) : w = w2 := by
  have w4 : w = 0 ∨ w = 1 ∨ w = 2 ∨ w = 3 := by omega
  have w5 : w2 = 0 ∨ w2 = 1 ∨ w2 = 2 ∨ w2 = 3 := by omega
  rcases w4 with rfl | rfl | rfl | rfl <;> rcases w5 with rfl | rfl | rfl | rfl <;> simp only [bsM] at h h2 <;> simp at h h2 <;> omega
/-- what the search of the model changes -/
def FS (z y : Hp) : Prop := Fi (fun a => a = 92 ∨ a = 108 ∨ a = 107) z y ∧ ∀ k, k ≠ 31 → zI y 92 k = zI z 92 k
theorem FS.rfl' {z : Hp} : FS z z := ⟨Fi.rfl', fun _ _ => rfl⟩
theorem FS.trans {x y z : Hp} (h : FS x y) (g : FS y z) : FS x z := ⟨h.1.trans g.1, fun k hk => (g.2 k hk).trans (h.2 k hk)⟩
def SM (W : Nat → Int32) (t : Nat → Bool) (e : Nat → Nat → Bool) (z y : Hp) (B C : BS) (i : Nat) : Prop := FS z y ∧ MBq y C ∧ BI (RE (opB W) t e) (srN (stO W)) tgN C i ∧ Mn B C
theorem SM.reach {W : Nat → Int32} {t : Nat → Bool} {e : Nat → Nat → Bool} {z y : Hp} {i u v : Nat} {B C : BS} (hM : LayM z) (h : SM W t e z y B C i) (hu : u < 288) (hv : v < 288) (hs : B.1 u ≠ 0) (hE : RE (opB W) t e u v) :
    ∃ x, m_X12_reach 92 (nI v) (nI u) y = some ((), x) ∧ ∃ D, SM W t e z x B D i ∧ Mn C D ∧ D.1 v ≠ 0 := by
  obtain ⟨F, hC, hB, hMn⟩ := h
  obtain ⟨x, r, F2, k2, c2⟩ := reachM_ok (p := u + 1) (hM.fi F.1) hC hB hv
  rw [pcM_s] at r
  have m2 := psh_mn (p := u + 1) hB hv
  exact ⟨x, r, psh C v (u + 1), ⟨F.trans ⟨F2, k2⟩, c2, hB.psh hv (Or.inr ⟨u, hu, rfl, hMn.sn hs, hE⟩), hMn.trans m2.1⟩, m2.1, m2.2⟩
/-- from a node that comes into cell c -/
theorem sidesIn {W : Nat → Int32} {t : Nat → Bool} {e : Nat → Nat → Bool} {z x : Hp} {q i c : Nat} {v1 : Int32} {B D : BS} (K : Nat → Int32 → Hp → Option (Int32 × Hp)) (hM : LayM z) (h93 : zI z 93 = W) (hO : OkW W q) (hT : TM z t e) (he2 : ∀ x y, e x y = true → opB W x = true) (hc : c < 144) (hs : B.1 (2 * c) ≠ 0) (hD : SM W t e z x B D i) :
    ∃ y C, m_X12_search_L204 K FU 92 v1 (nI (2 * c)) (nI c) 0 x = K 92 v1 y ∧ SM W t e z y B C i ∧ Mn D C ∧ ∀ d, d < 144 → nb c d → e d c = true → C.1 (2 * d + 1) ≠ 0 := by
  have e2 : 2 * c / 2 = c := by omega
  refine loopQ (X := Int32 × Hp) (fun f x => m_X12_search_L204 K f 92 v1 (nI (2 * c)) (nI c) x.1 x.2) (fun r => ∃ y C, r = K 92 v1 y ∧ SM W t e z y B C i ∧ Mn D C ∧ ∀ d, d < 144 → nb c d → e d c = true → C.1 (2 * d + 1) ≠ 0) (fun n x => x.1 = nI n ∧ ∃ C, SM W t e z x.2 B C i ∧ Mn D C ∧ ∀ w d, w < n → bsM c w = some d → e d c = true → C.1 (2 * d + 1) ≠ 0) 4 ?hs ?he 0 FU (0, x) (by decide) (by decide) ⟨rfl, D, hD, Mn.rfl', fun w d h => absurd h (by omega)⟩
  case hs =>
    rintro n f ⟨v, x⟩ hn ⟨h1, C, h2, h3, h4⟩
    dsimp only at h1 h2
    subst h1
    have Mx := hM.fi h2.1.1
    have hTx : TM x t e := hT.fi h2.1.1 (fun a ha => by omega)
    have x93 : zI x 93 = W := by rw [h2.1.1.2.2.2.2 93 (by omega)]; exact h93
    left
    dsimp only
    rw [m_X12_search_L204, if_pos (lt_lit hn (by decide)), besideM_ok hc hn, bnd_some]
    have skip : ∀ d, bsM c n = some d → e d c = false → ∀ w d', w < n + 1 → bsM c w = some d' → e d' c = true → C.1 (2 * d' + 1) ≠ 0 := fun d hb he w d' hw hbd he' => by
      by_cases g : w = n
      · rw [g, hb] at hbd; cases hbd; rw [he] at he'; cases he'
      · exact h4 w d' (by omega) hbd he'
    cases hb : bsM c n with
    | none =>
      refine ⟨(nI (n + 1), x), ⟨rfl, C, h2, h3, fun w d hw hbd he => ?_⟩, ?_⟩
      · by_cases g : w = n
        · rw [g, hb] at hbd; cases hbd
        · exact h4 w d (by omega) hbd he
      · rw [if_pos (show oN none = -1 from rfl)]
        unfold m_X12_search_B261
        rw [nI_1]
    | some d =>
      have hnb := bsM_nb hc hn hb
      have hd := hnb.2
      have x1 := xor1 n hn
      have ov := hTx.2 d (n ^^^ 1) c hd x1.2 (bsM_opp hc hn hb)
      have eo := openM_ok Mx (q := q) (by rw [x93]; exact hO) hd
      rw [x93] at eo
      rw [if_neg (show ¬ oN (some d) = -1 from nI_ne_m1 (by omega)), show oN (some d) = nI d from rfl, isC_eq (by rw [mk_92 Mx]), eo, bnd_some]
      cases ho : opB W d with
      | false =>
        have he : e d c = false := by
          cases g : e d c with
          | false => rfl
          | true => have := he2 d c g; rw [ho] at this; cases this
        refine ⟨(nI (n + 1), x), ⟨rfl, C, h2, h3, skip d hb he⟩, ?_⟩
        rw [if_pos (by decide)]
        unfold m_X12_search_B261
        rw [nI_1]
      | true =>
        rw [if_neg (by decide), gR_eq (by rw [mk_92 Mx]) (mr_92_28 Mx), x1.1, show (4 : Int32) = nI 4 from rfl, pk_mul, nI_add, aI_n (mk_106 Mx) (by have := x1.2; omega) (by decide), ov]
        cases he : e d c with
        | false =>
          refine ⟨(nI (n + 1), x), ⟨rfl, C, h2, h3, skip d hb he⟩, ?_⟩
          rw [if_pos (by decide)]
          unfold m_X12_search_B261
          rw [nI_1]
        | true =>
          obtain ⟨y, r, E2, s2, m2, n2⟩ := h2.reach (u := 2 * c) (v := 2 * d + 1) hM (by omega) (by omega) hs (Or.inl ⟨by omega, by omega, Or.inr ⟨by rw [e2, show (2 * d + 1) / 2 = d by omega]; exact hnb.1, by rw [e2, show (2 * d + 1) / 2 = d by omega]; exact he⟩⟩)
          refine ⟨(nI (n + 1), y), ⟨rfl, E2, s2, h3.trans m2, fun w d' hw hbd he' => ?_⟩, ?_⟩
          · by_cases g : w = n
            · rw [g, hb] at hbd; cases hbd; exact n2
            · exact m2.sn (h4 w d' (by omega) hbd he')
          · rw [if_neg (by decide), isC_eq (by rw [mk_92 Mx]), show (2 : Int32) = nI 2 from rfl, pk_mul, nI_1, r, bnd_some]
            unfold m_X12_search_B261
            rw [nI_1]
  case he =>
    rintro f ⟨v, x⟩ ⟨h1, C, h2, h3, h4⟩
    dsimp only at h1 h2 ⊢
    subst h1
    refine ⟨x, C, ?_, h2, h3, fun d hd hn he => ?_⟩
    · rw [m_X12_search_L204, if_neg (nlt_lit (Nat.le_refl _) (by decide))]
    · obtain ⟨w, hw, hb⟩ := nb_bsM hc hd hn
      exact h4 w d hw hb he
/-- from a node that comes out of cell c -/
theorem sidesOut {W : Nat → Int32} {t : Nat → Bool} {e : Nat → Nat → Bool} {z x : Hp} {q i c : Nat} {v1 : Int32} {B D : BS} (K : Nat → Int32 → Hp → Option (Int32 × Hp)) (hM : LayM z) (h93 : zI z 93 = W) (hO : OkW W q) (hc : c < 144) (hs : B.1 (2 * c + 1) ≠ 0) (hD : SM W t e z x B D i) :
    ∃ y C, m_X12_search_L135 K FU 92 v1 (nI (2 * c + 1)) (nI c) 0 x = K 92 v1 y ∧ SM W t e z y B C i ∧ Mn D C ∧ ∀ d, d < 144 → nb c d → opB W d = true → C.1 (2 * d) ≠ 0 := by
  have e2 : (2 * c + 1) / 2 = c := by omega
  refine loopQ (X := Int32 × Hp) (fun f x => m_X12_search_L135 K f 92 v1 (nI (2 * c + 1)) (nI c) x.1 x.2) (fun r => ∃ y C, r = K 92 v1 y ∧ SM W t e z y B C i ∧ Mn D C ∧ ∀ d, d < 144 → nb c d → opB W d = true → C.1 (2 * d) ≠ 0) (fun n x => x.1 = nI n ∧ ∃ C, SM W t e z x.2 B C i ∧ Mn D C ∧ ∀ w d, w < n → bsM c w = some d → opB W d = true → C.1 (2 * d) ≠ 0) 4 ?hs ?he 0 FU (0, x) (by decide) (by decide) ⟨rfl, D, hD, Mn.rfl', fun w d h => absurd h (by omega)⟩
  case hs =>
    rintro n f ⟨v, x⟩ hn ⟨h1, C, h2, h3, h4⟩
    dsimp only at h1 h2
    subst h1
    have Mx := hM.fi h2.1.1
    have x93 : zI x 93 = W := by rw [h2.1.1.2.2.2.2 93 (by omega)]; exact h93
    left
    dsimp only
    rw [m_X12_search_L135, if_pos (lt_lit hn (by decide)), besideM_ok hc hn, bnd_some]
    cases hb : bsM c n with
    | none =>
      refine ⟨(nI (n + 1), x), ⟨rfl, C, h2, h3, fun w d hw hbd he => ?_⟩, ?_⟩
      · by_cases g : w = n
        · rw [g, hb] at hbd; cases hbd
        · exact h4 w d (by omega) hbd he
      · rw [if_pos (show oN none = -1 from rfl)]
        unfold m_X12_search_B173
        rw [nI_1]
    | some d =>
      have hnb := bsM_nb hc hn hb
      have hd := hnb.2
      have eo := openM_ok Mx (q := q) (by rw [x93]; exact hO) hd
      rw [x93] at eo
      rw [if_neg (show ¬ oN (some d) = -1 from nI_ne_m1 (by omega)), show oN (some d) = nI d from rfl, isC_eq (by rw [mk_92 Mx]), eo, bnd_some]
      cases ho : opB W d with
      | false =>
        refine ⟨(nI (n + 1), x), ⟨rfl, C, h2, h3, fun w d' hw hbd he' => ?_⟩, ?_⟩
        · by_cases g : w = n
          · rw [g, hb] at hbd; cases hbd; rw [ho] at he'; cases he'
          · exact h4 w d' (by omega) hbd he'
        · rw [if_pos (by decide)]
          unfold m_X12_search_B173
          rw [nI_1]
      | true =>
        obtain ⟨y, r, E2, s2, m2, n2⟩ := h2.reach (u := 2 * c + 1) (v := 2 * d) hM (by omega) (by omega) hs (Or.inr ⟨by omega, by omega, Or.inr ⟨by rw [e2, show 2 * d / 2 = d by omega]; exact hnb.1, by rw [show 2 * d / 2 = d by omega]; exact ho⟩⟩)
        refine ⟨(nI (n + 1), y), ⟨rfl, E2, s2, h3.trans m2, fun w d' hw hbd he' => ?_⟩, ?_⟩
        · by_cases g : w = n
          · rw [g, hb] at hbd; cases hbd; exact n2
          · exact m2.sn (h4 w d' (by omega) hbd he')
        · rw [if_neg (by decide), isC_eq (by rw [mk_92 Mx]), show (2 : Int32) = nI 2 from rfl, pk_mul, r, bnd_some]
          unfold m_X12_search_B173
          rw [nI_1]
  case he =>
    rintro f ⟨v, x⟩ ⟨h1, C, h2, h3, h4⟩
    dsimp only at h1 h2 ⊢
    subst h1
    refine ⟨x, C, ?_, h2, h3, fun d hd hn he => ?_⟩
    · rw [m_X12_search_L135, if_neg (nlt_lit (Nat.le_refl _) (by decide))]
    · obtain ⟨w, hw, hb⟩ := nb_bsM hc hd hn
      exact h4 w d hw hb he
theorem rem2 {c : Nat} (h : c < 2 ^ 31) : nI c - nI c / 2 * 2 = nI (c % 2) := pk_rem h (by decide) (by decide)
theorem div2 {c : Nat} (h : c < 2 ^ 31) : nI c / 2 = nI (c / 2) := pk_div h (by decide) (by decide)
/-- one node of the queue -/
theorem nodeM {W : Nat → Int32} {t : Nat → Bool} {e : Nat → Nat → Bool} {z : Hp} {q i u : Nat} {v1 : Int32} {B : BS} (K : Nat → Int32 → Hp → Option (Int32 × Hp)) (hM : LayM z) (h93 : zI z 93 = W) (hO : OkW W q) (hT : TM z t e) (he2 : ∀ x y, e x y = true → opB W x = true) (hB : MBq z B) (hI : BI (RE (opB W) t e) (srN (stO W)) tgN B i) (hu : u < 288) (hs : B.1 u ≠ 0) :
    ∃ y C, m_X12_search_B108 K 92 v1 (nI u) (nI (u / 2)) z = K 92 v1 y ∧ SM W t e z y B C i ∧ ∀ v, v < 288 → RE (opB W) t e u v → C.1 v ≠ 0 := by
  have h0 : SM W t e z z B B i := ⟨FS.rfl', hB, hI, Mn.rfl'⟩
  have hc : u / 2 < 144 := by omega
  unfold m_X12_search_B108
  rw [rem2 (by omega)]
  by_cases pe : u % 2 = 0
  · obtain ⟨c, rfl⟩ : ∃ c, u = 2 * c := ⟨u / 2, by omega⟩
    have e2 : 2 * c / 2 = c := by omega
    rw [e2] at hc ⊢
    have fin : ∀ C : BS, (t c = false → C.1 (2 * c + 1) ≠ 0) → (∀ d, d < 144 → nb c d → e d c = true → C.1 (2 * d + 1) ≠ 0) → ∀ v, v < 288 → RE (opB W) t e (2 * c) v → C.1 v ≠ 0 := by
      intro C a1 a2 v hv hE
      rcases hE with ⟨_, m2, q⟩ | ⟨m1, _, _⟩
      · rw [e2] at q
        have ev : v = 2 * (v / 2) + 1 := by omega
        rcases q with ⟨q1, q2⟩ | ⟨q1, q2⟩
        · rw [ev, q1]; exact a1 q2
        · rw [ev]; exact a2 (v / 2) (by omega) q1 q2
      · omega
    rw [pe, if_neg (by decide), gR_eq (by rw [mk_92 hM]) (mr_92_27 hM), aI_n (mk_105 hM) hc (by decide), hT.1 c hc]
    unfold m_X12_search_B201
    cases ht : t c with
    | false =>
      obtain ⟨x, r, D, s1, m1, n1⟩ := h0.reach (u := 2 * c) (v := 2 * c + 1) hM (by omega) (by omega) hs (Or.inl ⟨by omega, by omega, Or.inl ⟨by omega, by rw [e2]; exact ht⟩⟩)
      obtain ⟨y, C, r2, s2, m2, n2⟩ := sidesIn (v1 := v1) (m_X12_search_B267 K) hM h93 hO hT he2 hc hs s1
      refine ⟨y, C, ?_, s2, fin C (fun _ => m2.sn n1) n2⟩
      rw [if_pos (by decide), isC_eq (by rw [mk_92 hM]), show (2 : Int32) = nI 2 from rfl, pk_mul, nI_1, r, bnd_some, r2]
      rfl
    | true =>
      obtain ⟨y, C, r2, s2, m2, n2⟩ := sidesIn (v1 := v1) (m_X12_search_B267 K) hM h93 hO hT he2 hc hs h0
      refine ⟨y, C, ?_, s2, fin C (fun g => by rw [ht] at g; cases g) n2⟩
      rw [if_neg (by decide), r2]
      rfl
  · obtain ⟨c, rfl⟩ : ∃ c, u = 2 * c + 1 := ⟨u / 2, by omega⟩
    have e2 : (2 * c + 1) / 2 = c := by omega
    rw [e2] at hc ⊢
    have fin : ∀ C : BS, (t c = true → C.1 (2 * c) ≠ 0) → (∀ d, d < 144 → nb c d → opB W d = true → C.1 (2 * d) ≠ 0) → ∀ v, v < 288 → RE (opB W) t e (2 * c + 1) v → C.1 v ≠ 0 := by
      intro C a1 a2 v hv hE
      rcases hE with ⟨m1, _, _⟩ | ⟨_, m2, q⟩
      · omega
      · rw [e2] at q
        have ev : v = 2 * (v / 2) := by omega
        rcases q with ⟨q1, q2⟩ | ⟨q1, q2⟩
        · rw [ev, q1]; exact a1 q2
        · rw [ev]; exact a2 (v / 2) (by omega) q1 q2
    rw [show (2 * c + 1) % 2 = 1 by omega, if_pos (show nI 1 = 1 from rfl), gR_eq (by rw [mk_92 hM]) (mr_92_27 hM), aI_n (mk_105 hM) hc (by decide), hT.1 c hc]
    unfold m_X12_search_B132
    cases ht : t c with
    | true =>
      obtain ⟨x, r, D, s1, m1, n1⟩ := h0.reach (u := 2 * c + 1) (v := 2 * c) hM (by omega) (by omega) hs (Or.inr ⟨by omega, by omega, Or.inl ⟨by omega, by rw [e2]; exact ht⟩⟩)
      obtain ⟨y, C, r2, s2, m2, n2⟩ := sidesOut (v1 := v1) (m_X12_search_B179 K) hM h93 hO hc hs s1
      refine ⟨y, C, ?_, s2, fin C (fun _ => m2.sn n1) n2⟩
      rw [if_neg (by decide), isC_eq (by rw [mk_92 hM]), show (2 : Int32) = nI 2 from rfl, pk_mul, r, bnd_some, r2]
      rfl
    | false =>
      obtain ⟨y, C, r2, s2, m2, n2⟩ := sidesOut (v1 := v1) (m_X12_search_B179 K) hM h93 hO hc hs h0
      refine ⟨y, C, ?_, s2, fin C (fun g => by rw [ht] at g; cases g) n2⟩
      rw [if_pos (by decide), r2]
      rfl
def rsM : Option Nat → Int32
  | none => -1
  | some v => nI v
theorem clearM {z : Hp} (K : Nat → Hp → Option (Int32 × Hp)) (hM : LayM z) : m_X12_search_L2 K FU 92 0 z = K 92 (wI z 107 (fun i => if i < 288 then -1 else zI z 107 i)) := by
  refine loopQ (X := Int32 × Hp) (fun f x => m_X12_search_L2 K f 92 x.1 x.2) (fun t => t = K 92 (wI z 107 (fun i => if i < 288 then -1 else zI z 107 i))) (fun n x => x.1 = nI n ∧ x.2 = wI z 107 (fun i => if i < n then -1 else zI z 107 i)) 288 ?hs ?he 0 FU (0, z) (by decide) (by decide) ⟨rfl, ?h0⟩
  case h0 => simp [wI_self]
  case hs =>
    rintro n f ⟨v, y⟩ hn ⟨h1, h2⟩
    dsimp only at h1 h2
    subst h1 h2
    refine Or.inl ⟨(nI (n + 1), wI z 107 (fun i => if i < n + 1 then -1 else zI z 107 i)), ⟨rfl, rfl⟩, ?_⟩
    dsimp only
    rw [m_X12_search_L2]
    simp (disch := omega) [gI, gR, pI, pR, aI, sI, aL, sL, aO, aR, sR, aN, onul, bnd, isC, cpI, cpL, sLen, sCh, nwC, zK_wI, zR_wI, zL_wI, zN_wI, zI_wI, zK_wL, zR_wL, zI_wL, zN_wL, zL_wL, zK_wR, zI_wR, zL_wR, zN_wR, zR_wR, ups_eq, inb_nI, nI_clamp, wI_wI, nI_add, pk_mul, add_c, c_add, c_mul, lt_c, le_c, eq_c, gt_c, ge_c, inb_c, clamp_c, ladd, mk_92, mk_93, mk_94, mk_95, mk_96, mk_97, mk_98, mk_99, mk_100, mk_101, mk_102, mk_103, mk_104, mk_105, mk_106, mk_107, mk_108, mk_109, mk_110, mk_111, mk_112, mk_113, mk_114, mr_92_1, mr_92_2, mr_92_3, mr_92_4, mr_92_5, mr_92_7, mr_92_15, mr_92_16, mr_92_17, mr_92_24, mr_92_25, mr_92_26, mr_92_27, mr_92_28, mr_92_29, mr_92_30, mr_92_32, mr_92_33, mr_92_36, mr_92_37, mr_92_38, mr_92_39, hM, hn]
    refine congrArg (fun q => m_X12_search_L2 K f 92 (nI (n + 1)) (wI z 107 q)) (funext fun i => ?_)
    simp only [ups_eq]
    grind
  case he =>
    rintro f ⟨v, y⟩ ⟨h1, h2⟩
    dsimp only at h1 h2 ⊢
    subst h1 h2
    rw [m_X12_search_L2, if_neg (nlt_lit (Nat.le_refl _) (by decide))]
theorem searchM {W : Nat → Int32} {t : Nat → Bool} {e : Nat → Nat → Bool} {z : Hp} {q : Nat} (hM : LayM z) (h93 : zI z 93 = W) (hO : OkW W q) (hT : TM z t e) (he2 : ∀ x y, e x y = true → opB W x = true) :
    ∃ r y B i, m_X12_search 92 z = some (rsM r, y) ∧ FS z y ∧ MBq y B ∧ BI (RE (opB W) t e) (srN (stO W)) tgN B i ∧ Fnd W t e B r := by
  obtain ⟨z1, hz1⟩ : ∃ y, y = wI z 107 (fun i => if i < 288 then -1 else zI z 107 i) := ⟨_, rfl⟩
  have M1 : LayM z1 := hM.of (by rw [hz1]; rfl) (by rw [hz1]; rfl)
  obtain ⟨z2, hz2⟩ : ∃ y, y = wI z1 92 (ups (zI z1 92) 31 0) := ⟨_, rfl⟩
  have F2 : FS z z2 := by
    refine ⟨?_, fun k hk => ?_⟩
    · rw [hz2, hz1]
      exact (Fi.w (by omega)).trans (Fi.w (by omega))
    · rw [hz2, zI_eq, up_ne hk, hz1, zI_ne (by decide)]
  have cb0 : MBq z2 bs0 := by
    refine ⟨by rw [hz2, zI_eq, up_eq]; rfl, fun j hj => absurd hj (Nat.not_lt_zero _), fun v hv => ?_⟩
    rw [hz2, zI_ne (by decide), hz1, zI_eq, if_pos hv]
    rfl
  unfold m_X12_search
  rw [clearM _ hM, ← hz1]
  unfold m_X12_search_B22
  rw [pI_eq (by rw [mk_92 M1]), ← hz2]
  have qu : ∀ x D, FS z x → MBq x D → BI (RE (opB W) t e) (srN (stO W)) tgN D 0 → (∀ c, c < 144 → stO W c = true → D.1 (2 * c) ≠ 0) →
      ∃ r y B i, m_X12_search_B68 92 x = some (rsM r, y) ∧ FS z y ∧ MBq y B ∧ BI (RE (opB W) t e) (srN (stO W)) tgN B i ∧ Fnd W t e B r := by
    intro x D Fx cx bx sx
    unfold m_X12_search_B68
    refine loopQ (X := Int32 × Hp) (fun f x => m_X12_search_L70 f 92 x.1 x.2) (fun r => ∃ a y B i, r = some (rsM a, y) ∧ FS z y ∧ MBq y B ∧ BI (RE (opB W) t e) (srN (stO W)) tgN B i ∧ Fnd W t e B a) (fun i x => x.1 = nI i ∧ ∃ C, FS z x.2 ∧ MBq x.2 C ∧ BI (RE (opB W) t e) (srN (stO W)) tgN C i ∧ ∀ c, c < 144 → stO W c = true → C.1 (2 * c) ≠ 0) 289 ?hs ?he 0 FU (0, x) (by decide) (by decide) ⟨rfl, D, Fx, cx, bx, sx⟩
    case hs =>
      rintro i f ⟨v, x⟩ hi ⟨h1, C, h2, h3, h4, h5⟩
      dsimp only at h1 h2 h3
      subst h1
      have Mx := hM.fi h2.1
      have hTx : TM x t e := hT.fi h2.1 (fun a ha => by omega)
      have x93 : zI x 93 = W := by rw [h2.1.2.2.2.2 93 (by omega)]; exact h93
      have hle := h4.le
      have him := h4.2.2.2.2.2
      dsimp only
      rw [m_X12_search_L70, gI_eq (by rw [mk_92 Mx]), h3.1]
      by_cases g : i < C.2.2.2
      · have bi := h4.1 i g
        obtain ⟨u, hu⟩ : ∃ u, u = C.2.2.1 i := ⟨_, rfl⟩
        rw [← hu] at bi
        have hu0 : C.1 u ≠ 0 := by rw [bi.2]; omega
        have hul := bi.1
        have eu := h3.2.1 i g
        rw [← hu] at eu
        have go : tgN u = false → (∃ y : Int32 × Hp, (y.1 = nI (i + 1) ∧ ∃ C, FS z y.2 ∧ MBq y.2 C ∧ BI (RE (opB W) t e) (srN (stO W)) tgN C (i + 1) ∧ ∀ c, c < 144 → stO W c = true → C.1 (2 * c) ≠ 0) ∧ m_X12_search_B108 (m_X12_search_L70 f) 92 (nI (i + 1)) (nI u) (nI (u / 2)) x = m_X12_search_L70 f 92 y.1 y.2) := by
          intro tg
          obtain ⟨y, E2, r, s2, n2⟩ := nodeM (v1 := nI (i + 1)) (m_X12_search_L70 f) Mx x93 hO hTx he2 h3 h4 hul hu0
          have eq2 : E2.2.2.1 i = u := by rw [s2.2.2.2.2.1 i g]; exact hu.symm
          exact ⟨(nI (i + 1), y), ⟨rfl, E2, h2.trans s2.1, s2.2.1, s2.2.2.1.next (Nat.lt_of_lt_of_le g s2.2.2.2.2.2) (by rw [eq2]; exact tg) (by rw [eq2]; exact n2), fun c hc hs => s2.2.2.2.sn (h5 c hc hs)⟩, r⟩
        rw [if_pos (nI_lt g (by omega)), gR_eq (by rw [mk_92 Mx]) (mr_92_30 Mx), aI_n (mk_108 Mx) (by omega) (by decide), eu, rem2 (by omega), div2 (by omega), nI_1]
        by_cases pe : u % 2 = 0
        · left
          rw [pe, if_neg (by decide)]
          exact go (by unfold tgN; rw [decide_eq_false (by omega), Bool.false_and])
        · have po : u % 2 = 1 := by omega
          rw [po, if_pos (show nI 1 = 1 from rfl), rimM_ok (by omega), bnd_some]
          cases hr : rimB (u / 2) with
          | true =>
            right
            refine ⟨some u, x, C, i, ?_, h2, h3, h4, hul, hu0, ?_⟩
            · rw [if_neg (by decide)]; rfl
            · unfold tgN
              rw [hr, decide_eq_true po]
              rfl
          | false =>
            left
            rw [if_pos (by decide)]
            exact go (by unfold tgN; rw [hr, Bool.and_false])
      · right
        have ei : i = C.2.2.2 := by omega
        refine ⟨none, x, C, i, ?_, h2, h3, h4, ?_⟩
        · rw [if_neg (nI_nlt (by omega) (by omega))]
          rfl
        · rw [ei] at h4
          refine h4.dn (fun v hv hs => ?_)
          unfold srN at hs
          rw [Bool.and_eq_true, decide_eq_true_eq] at hs
          have := h5 (v / 2) (by omega) hs.2
          rw [show 2 * (v / 2) = v by omega] at this
          exact this
    case he =>
      rintro f ⟨v, x⟩ ⟨h1, C, h2, h3, h4, h5⟩
      have := h4.le
      have := h4.2.2.2.2.2
      omega
  refine loopQ (X := Int32 × Hp) (fun f x => m_X12_search_L29 m_X12_search_B68 f 92 x.1 x.2) (fun r => ∃ a y B i, r = some (rsM a, y) ∧ FS z y ∧ MBq y B ∧ BI (RE (opB W) t e) (srN (stO W)) tgN B i ∧ Fnd W t e B a) (fun n x => x.1 = nI n ∧ ∃ C, FS z x.2 ∧ MBq x.2 C ∧ BI (RE (opB W) t e) (srN (stO W)) tgN C 0 ∧ ∀ c, c < n → stO W c = true → C.1 (2 * c) ≠ 0) 144 ?hs ?he 0 FU (0, z2) (by decide) (by decide) ⟨rfl, bs0, F2, cb0, BI.zero, fun c hc => absurd hc (by omega)⟩
  case hs =>
    rintro n f ⟨v, x⟩ hn ⟨h1, C, h2, h3, h4, h5⟩
    dsimp only at h1 h2 h3
    subst h1
    have Mx := hM.fi h2.1
    have x93 : zI x 93 = W := by rw [h2.1.2.2.2.2 93 (by omega)]; exact h93
    have eo := openM_ok Mx (q := q) (by rw [x93]; exact hO) hn
    have es := besideShaft_ok Mx hn
    rw [x93] at eo es
    left
    dsimp only
    rw [m_X12_search_L29, if_pos (lt_lit hn (by decide)), isC_eq (by rw [mk_92 Mx]), eo, bnd_some]
    have skip : stO W n = false → ∀ c, c < n + 1 → stO W c = true → C.1 (2 * c) ≠ 0 := fun g c hc hs => by
      by_cases k : c = n
      · rw [k, g] at hs; cases hs
      · exact h5 c (by omega) hs
    cases hop : opB W n with
    | false =>
      refine ⟨(nI (n + 1), x), ⟨rfl, C, h2, h3, h4, skip (by unfold stO; rw [hop, Bool.false_and])⟩, ?_⟩
      rw [if_pos (by decide)]
      unfold m_X12_search_B62
      rw [nI_1]
    | true =>
      rw [if_neg (by decide), isC_eq (by rw [mk_92 Mx]), es, bnd_some]
      cases hst : stB W n with
      | false =>
        refine ⟨(nI (n + 1), x), ⟨rfl, C, h2, h3, h4, skip (by unfold stO; rw [hst, Bool.and_false])⟩, ?_⟩
        rw [if_pos (by decide)]
        unfold m_X12_search_B62
        rw [nI_1]
      | true =>
        obtain ⟨y, r, F3, k3, c3⟩ := reachM_ok (v := 2 * n) (p := 0) Mx h3 h4 (by omega)
        have m2 := psh_mn (v := 2 * n) (p := 0) h4 (by omega)
        refine ⟨(nI (n + 1), y), ⟨rfl, psh C (2 * n) 0, h2.trans ⟨F3, k3⟩, c3, h4.psh (by omega) (Or.inl ⟨rfl, ?_⟩), fun c hc hs => ?_⟩, ?_⟩
        · unfold srN stO
          rw [show 2 * n / 2 = n by omega, hop, hst, decide_eq_true (by omega)]
          rfl
        · by_cases k : c = n
          · rw [k]; exact m2.2
          · exact m2.1.sn (h5 c (by omega) hs)
        · rw [if_neg (by decide), isC_eq (by rw [mk_92 Mx]), show (2 : Int32) = nI 2 from rfl, pk_mul, show (1000 : Int32) = pcM 0 from rfl, r, bnd_some]
          unfold m_X12_search_B62
          rw [nI_1]
  case he =>
    rintro f ⟨v, x⟩ ⟨h1, C, h2, h3, h4, h5⟩
    dsimp only at h1 h2 h3 ⊢
    subst h1
    rw [m_X12_search_L29, if_neg (nlt_lit (Nat.le_refl _) (by decide))]
    exact qu x C h2 h3 h4 h5
