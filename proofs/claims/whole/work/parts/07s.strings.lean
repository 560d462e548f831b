theorem dJ0_length_8abf5_0 : decode cJ0_length_8abf5 0 = .ok (.aload_n 0, 1) := by decide +kernel
theorem dJ0_length_8abf5_1 : decode cJ0_length_8abf5 1 = .ok (.getfield 9, 3) := by decide +kernel
theorem dJ0_length_8abf5_4 : decode cJ0_length_8abf5 4 = .ok (.arraylength, 1) := by decide +kernel
theorem dJ0_length_8abf5_5 : decode cJ0_length_8abf5 5 = .ok (.aload_n 0, 1) := by decide +kernel
theorem dJ0_length_8abf5_6 : decode cJ0_length_8abf5 6 = .ok (.invokevirtual 335, 3) := by decide +kernel
theorem dJ0_length_8abf5_9 : decode cJ0_length_8abf5 9 = .ok (.ishr, 1) := by decide +kernel
theorem dJ0_length_8abf5_10 : decode cJ0_length_8abf5 10 = .ok (.ireturn, 1) := by decide +kernel
theorem dJ0_coder_7d493_0 : decode cJ0_coder_7d493 0 = .ok (.getstatic 38, 3) := by decide +kernel
theorem dJ0_coder_7d493_3 : decode cJ0_coder_7d493 3 = .ok (.ifCond .eq 10, 3) := by decide +kernel
theorem dJ0_coder_7d493_6 : decode cJ0_coder_7d493 6 = .ok (.aload_n 0, 1) := by decide +kernel
theorem dJ0_coder_7d493_7 : decode cJ0_coder_7d493 7 = .ok (.getfield 15, 3) := by decide +kernel
theorem dJ0_coder_7d493_10 : decode cJ0_coder_7d493 10 = .ok (.goto 4, 3) := by decide +kernel
theorem dJ0_coder_7d493_13 : decode cJ0_coder_7d493 13 = .ok (.iconst 1, 1) := by decide +kernel
theorem dJ0_coder_7d493_14 : decode cJ0_coder_7d493 14 = .ok (.ireturn, 1) := by decide +kernel
theorem dJ0_charAt_5068e_0 : decode cJ0_charAt_5068e 0 = .ok (.aload_n 0, 1) := by decide +kernel
theorem dJ0_charAt_5068e_1 : decode cJ0_charAt_5068e 1 = .ok (.invokevirtual 492, 3) := by decide +kernel
theorem dJ0_charAt_5068e_4 : decode cJ0_charAt_5068e 4 = .ok (.ifCond .eq 12, 3) := by decide +kernel
theorem dJ0_charAt_5068e_7 : decode cJ0_charAt_5068e 7 = .ok (.aload_n 0, 1) := by decide +kernel
theorem dJ0_charAt_5068e_8 : decode cJ0_charAt_5068e 8 = .ok (.getfield 9, 3) := by decide +kernel
theorem dJ0_charAt_5068e_11 : decode cJ0_charAt_5068e 11 = .ok (.iload_n 1, 1) := by decide +kernel
theorem dJ0_charAt_5068e_12 : decode cJ0_charAt_5068e 12 = .ok (.invokestatic 495, 3) := by decide +kernel
theorem dJ0_charAt_5068e_15 : decode cJ0_charAt_5068e 15 = .ok (.ireturn, 1) := by decide +kernel
theorem dJ0_charAt_5068e_16 : decode cJ0_charAt_5068e 16 = .ok (.aload_n 0, 1) := by decide +kernel
theorem dJ0_charAt_5068e_17 : decode cJ0_charAt_5068e 17 = .ok (.getfield 9, 3) := by decide +kernel
theorem dJ0_charAt_5068e_20 : decode cJ0_charAt_5068e 20 = .ok (.iload_n 1, 1) := by decide +kernel
theorem dJ0_charAt_5068e_21 : decode cJ0_charAt_5068e 21 = .ok (.invokestatic 498, 3) := by decide +kernel
theorem dJ0_charAt_5068e_24 : decode cJ0_charAt_5068e 24 = .ok (.ireturn, 1) := by decide +kernel
theorem dJ0_isLatin1_aae02_0 : decode cJ0_isLatin1_aae02 0 = .ok (.getstatic 38, 3) := by decide +kernel
theorem dJ0_isLatin1_aae02_3 : decode cJ0_isLatin1_aae02 3 = .ok (.ifCond .eq 14, 3) := by decide +kernel
theorem dJ0_isLatin1_aae02_6 : decode cJ0_isLatin1_aae02 6 = .ok (.aload_n 0, 1) := by decide +kernel
theorem dJ0_isLatin1_aae02_7 : decode cJ0_isLatin1_aae02 7 = .ok (.getfield 15, 3) := by decide +kernel
theorem dJ0_isLatin1_aae02_10 : decode cJ0_isLatin1_aae02 10 = .ok (.ifCond .ne 7, 3) := by decide +kernel
theorem dJ0_isLatin1_aae02_13 : decode cJ0_isLatin1_aae02 13 = .ok (.iconst 1, 1) := by decide +kernel
theorem dJ0_isLatin1_aae02_14 : decode cJ0_isLatin1_aae02 14 = .ok (.goto 4, 3) := by decide +kernel
theorem dJ0_isLatin1_aae02_17 : decode cJ0_isLatin1_aae02 17 = .ok (.iconst 0, 1) := by decide +kernel
theorem dJ0_isLatin1_aae02_18 : decode cJ0_isLatin1_aae02 18 = .ok (.ireturn, 1) := by decide +kernel
theorem dJ1_charAt_3b067_0 : decode cJ1_charAt_3b067 0 = .ok (.iload_n 1, 1) := by decide +kernel
theorem dJ1_charAt_3b067_1 : decode cJ1_charAt_3b067 1 = .ok (.aload_n 0, 1) := by decide +kernel
theorem dJ1_charAt_3b067_2 : decode cJ1_charAt_3b067 2 = .ok (.arraylength, 1) := by decide +kernel
theorem dJ1_charAt_3b067_3 : decode cJ1_charAt_3b067 3 = .ok (.invokestatic 9, 3) := by decide +kernel
theorem dJ1_charAt_3b067_6 : decode cJ1_charAt_3b067 6 = .ok (.aload_n 0, 1) := by decide +kernel
theorem dJ1_charAt_3b067_7 : decode cJ1_charAt_3b067 7 = .ok (.iload_n 1, 1) := by decide +kernel
theorem dJ1_charAt_3b067_8 : decode cJ1_charAt_3b067 8 = .ok (.baload, 1) := by decide +kernel
theorem dJ1_charAt_3b067_9 : decode cJ1_charAt_3b067 9 = .ok (.sipush 255, 3) := by decide +kernel
theorem dJ1_charAt_3b067_12 : decode cJ1_charAt_3b067 12 = .ok (.iand, 1) := by decide +kernel
theorem dJ1_charAt_3b067_13 : decode cJ1_charAt_3b067 13 = .ok (.i2c, 1) := by decide +kernel
theorem dJ1_charAt_3b067_14 : decode cJ1_charAt_3b067 14 = .ok (.ireturn, 1) := by decide +kernel
theorem dJ0_checkIndex_df160_0 : decode cJ0_checkIndex_df160 0 = .ok (.iload_n 0, 1) := by decide +kernel
theorem dJ0_checkIndex_df160_1 : decode cJ0_checkIndex_df160 1 = .ok (.iload_n 1, 1) := by decide +kernel
theorem dJ0_checkIndex_df160_2 : decode cJ0_checkIndex_df160 2 = .ok (.getstatic 1053, 3) := by decide +kernel
theorem dJ0_checkIndex_df160_5 : decode cJ0_checkIndex_df160 5 = .ok (.invokestatic 1059, 3) := by decide +kernel
theorem dJ0_checkIndex_df160_8 : decode cJ0_checkIndex_df160 8 = .ok (.pop, 1) := by decide +kernel
theorem dJ0_checkIndex_df160_9 : decode cJ0_checkIndex_df160 9 = .ok (.return_, 1) := by decide +kernel
theorem dJ3_checkIndex_8e157_0 : decode cJ3_checkIndex_8e157 0 = .ok (.iload_n 0, 1) := by decide +kernel
theorem dJ3_checkIndex_8e157_1 : decode cJ3_checkIndex_8e157 1 = .ok (.ifCond .lt 8, 3) := by decide +kernel
theorem dJ3_checkIndex_8e157_4 : decode cJ3_checkIndex_8e157 4 = .ok (.iload_n 0, 1) := by decide +kernel
theorem dJ3_checkIndex_8e157_5 : decode cJ3_checkIndex_8e157 5 = .ok (.iload_n 1, 1) := by decide +kernel
theorem dJ3_checkIndex_8e157_6 : decode cJ3_checkIndex_8e157 6 = .ok (.if_icmp .lt 10, 3) := by decide +kernel
theorem dJ3_checkIndex_8e157_9 : decode cJ3_checkIndex_8e157 9 = .ok (.aload_n 2, 1) := by decide +kernel
theorem dJ3_checkIndex_8e157_10 : decode cJ3_checkIndex_8e157 10 = .ok (.iload_n 0, 1) := by decide +kernel
theorem dJ3_checkIndex_8e157_11 : decode cJ3_checkIndex_8e157 11 = .ok (.iload_n 1, 1) := by decide +kernel
theorem dJ3_checkIndex_8e157_12 : decode cJ3_checkIndex_8e157 12 = .ok (.invokestatic 95, 3) := by decide +kernel
theorem dJ3_checkIndex_8e157_15 : decode cJ3_checkIndex_8e157 15 = .ok (.athrow, 1) := by decide +kernel
theorem dJ3_checkIndex_8e157_16 : decode cJ3_checkIndex_8e157 16 = .ok (.iload_n 0, 1) := by decide +kernel
theorem dJ3_checkIndex_8e157_17 : decode cJ3_checkIndex_8e157 17 = .ok (.ireturn, 1) := by decide +kernel
abbrev mi_J3_checkIndex_8e157 : Mi := (RJ3, cJ3_checkIndex_8e157, 3, (Option.some Jvm.ClassFile.FieldType.int), "checkIndex", { frames := 0, cells := 0, slots := 0, locals := 0 })
abbrev mi_J0_checkIndex_df160 : Mi := (RJ0, cJ0_checkIndex_df160, 2, (Option.none : Option Jvm.ClassFile.FieldType), "checkIndex", { frames := 1, cells := 0, slots := 0, locals := 22 })
abbrev mi_J1_charAt_3b067 : Mi := (RJ1, cJ1_charAt_3b067, 2, (Option.some Jvm.ClassFile.FieldType.char), "charAt", { frames := 2, cells := 0, slots := 0, locals := 43 })
abbrev mi_J0_isLatin1_aae02 : Mi := (RJ0, cJ0_isLatin1_aae02, 1, (Option.some Jvm.ClassFile.FieldType.boolean), "isLatin1", { frames := 0, cells := 0, slots := 0, locals := 0 })
abbrev mi_J0_coder_7d493 : Mi := (RJ0, cJ0_coder_7d493, 1, (Option.some Jvm.ClassFile.FieldType.byte), "coder", { frames := 0, cells := 0, slots := 0, locals := 0 })
abbrev mi_J0_length_8abf5 : Mi := (RJ0, cJ0_length_8abf5, 1, (Option.some Jvm.ClassFile.FieldType.int), "length", { frames := 1, cells := 0, slots := 0, locals := 20 })
abbrev mi_J0_charAt_5068e : Mi := (RJ0, cJ0_charAt_5068e, 2, (Option.some Jvm.ClassFile.FieldType.char), "charAt", { frames := 3, cells := 0, slots := 0, locals := 64 })
theorem cw_len_coder : CwV mi_J0_length_8abf5 mi_J0_coder_7d493 yJ0_coder_7d493 "java/lang/String" 335 0 := ⟨⟨w_619, w_620, w_621, w_110, w_622⟩, ⟨by decide, by decide⟩, by decide +kernel, by decide, by decide⟩
theorem cw_cha_lat : CwV mi_J0_charAt_5068e mi_J0_isLatin1_aae02 yJ0_isLatin1_aae02 "java/lang/String" 492 0 := ⟨⟨w_629, w_630, w_631, w_110, w_632⟩, ⟨by decide, by decide⟩, by decide +kernel, by decide, by decide⟩
theorem cw_cha_lch : CwS mi_J0_charAt_5068e mi_J1_charAt_3b067 yJ1_charAt_3b067 495 2 := ⟨⟨w_633, w_634, w_111, w_635⟩, ⟨by decide, by decide⟩, by decide +kernel, by decide, by decide⟩
theorem cw_lch_chk : CwS mi_J1_charAt_3b067 mi_J0_checkIndex_df160 yJ0_checkIndex_df160 9 2 := ⟨⟨w_636, w_637, w_110, w_638⟩, ⟨by decide, by decide⟩, by decide +kernel, by decide, by decide⟩
theorem cw_chk_pre : CwS mi_J0_checkIndex_df160 mi_J3_checkIndex_8e157 yJ3_checkIndex_8e157 1059 3 := ⟨⟨w_641, w_642, w_112, w_643⟩, ⟨by decide, by decide⟩, by decide +kernel, by decide, by decide⟩
def sLen {α : Type} (w : Nat) (f : Int32 → Option α) : Option α := if w < txc_T.length then f (nI (txc_T.getD w []).length) else none
def sCh {α : Type} (w : Nat) (i : Int32) (f : Int32 → Option α) : Option α := if w < txc_T.length ∧ inb i (txc_T.getD w []).length = true then f ((txc_T.getD w []).getD i.toNatClampNeg 0) else none
theorem txc_len : ∀ l ∈ txc_T, l.length < 100 := by decide +kernel
theorem txc_lt (w : Nat) : (txc_T.getD w []).length < 2 ^ 31 := by
  by_cases h : w < txc_T.length
  · have := txc_len _ (List.getElem_mem h)
    rw [List.getD_eq_getElem?_getD, List.getElem?_eq_getElem h]
    show (txc_T[w]).length < _
    omega
  · rw [List.getD_eq_getElem?_getD, List.getElem?_eq_none (by omega)]
    decide
theorem txc_c : ∀ l ∈ txc_T, ∀ x ∈ l, ((x &&& 255).toUInt32 % 65536).toInt32 = x ∧ narrow .char (.int x) = .int x := by decide +kernel
theorem getD_in {l : List Int32} {i : Nat} (h : i < l.length) : l.getD i 0 ∈ l := by
  rw [List.getD_eq_getElem?_getD, List.getElem?_eq_getElem h]
  exact List.getElem_mem h
theorem outer_eq (c : ClassId) (N h0 : Nat) : ∀ i : Nat, Jvm.Free.Multi.outerC c N h0 i = arrV c N (fun j => va_rf (if j < i then some (h0 + 1 + j) else none))
  | 0 => by
    show ({ cls := c, slots := Array.replicate N .null, vm := .none } : Cell) = _
    rw [arrV_new]
    refine congrArg (arrV c N) (funext fun j => ?_)
    simp [va_rf]
  | i + 1 => by
    show (Jvm.Free.Multi.outerC c N h0 i).setSlot i (.ref (h0 + 1 + i)) = _
    rw [outer_eq c N h0 i, arrV_store]
    refine congrArg (arrV c N) (funext fun j => ?_)
    by_cases e : j = i
    · subst e
      simp [updV, va_rf]
    · by_cases h : j < i
      · simp [updV, e, h, Nat.lt_succ_of_lt h]
      · simp [updV, e, h, show ¬ j < i + 1 by omega]
theorem zRows_n (z : Hp) (k : Nat) : ∀ n, zN (zRows n z k) = zN z + n
  | 0 => rfl
  | n + 1 => by show zN (zRows n z k) + 1 = _; rw [zRows_n z k n]; omega
theorem zRows_in (z : Hp) (k : Nat) : ∀ n a, zN z ≤ a → a < zN z + n → zK (zRows n z k) a = (4, k) ∧ zL (zRows n z k) a = fun _ => 0
  | 0, a, h1, h2 => absurd h2 (by omega)
  | n + 1, a, h1, h2 => by
    have hn := zRows_n z k n
    by_cases e : a = zN (zRows n z k)
    · rw [e]
      exact ⟨ups_s _ _ _, ups_s _ _ _⟩
    · obtain ⟨g1, g2⟩ := zRows_in z k n a h1 (by omega)
      exact ⟨(ups_n _ _ e).trans g1, (ups_n _ _ e).trans g2⟩
theorem zRows_out (z : Hp) (k : Nat) : ∀ n a, (a < zN z ∨ zN z + n ≤ a) → zK (zRows n z k) a = zK z a ∧ zI (zRows n z k) a = zI z a ∧ zL (zRows n z k) a = zL z a ∧ zR (zRows n z k) a = zR z a
  | 0, a, _ => ⟨rfl, rfl, rfl, rfl⟩
  | n + 1, a, h => by
    have hn := zRows_n z k n
    have e : a ≠ zN (zRows n z k) := by omega
    obtain ⟨g1, g2, g3, g4⟩ := zRows_out z k n a (by omega)
    exact ⟨(ups_n _ _ e).trans g1, (ups_n _ _ e).trans g2, (ups_n _ _ e).trans g3, (ups_n _ _ e).trans g4⟩
section JSTR
variable {l : Launch} {Γ : Am} {M : Mi} {ρ : Type} {cv : ρ → Option Value} {mc ms pc : Nat} {lv : List (Nat × Value)} {st stk : List Value} {z : Hp} {t : Option (ρ × Hp)} {idx w : Nat}
theorem Rl.low {H : Heap} (h : Rl Γ z H) : ∀ a : Nat, a < (mH Γ).size → ¬ Own Γ a → H[a]? = (mH Γ)[a]? := fun a _ ha => h.2.1 a (Nat.not_le.mp ha)
theorem j_sget {n d : String} {v : Value} (hk : ∀ s, Kw Γ s → va_OF "java/lang/String" n d v (mT Γ w) (Own Γ) s (mH Γ)) (hl : Cond.fieldLink M.1 idx "java/lang/String" n d ∈ gw) (hd : decode M.2.1 pc = .ok (.getfield idx, 3)) (k : J l Γ M cv mc ms (pc + 3) lv (v :: st) z t) : J l Γ M cv mc ms pc lv (.ref (mT Γ w) :: st) z t :=
  J.go (fun p e s m args below meth c H locs cells slots ls Q hC hK hv hR hW => by
    obtain ⟨cf, k, fi, f, cell, h1, h2, h3, h4, h5, h6⟩ := (hk s hK).kept hR.low
    exact W.getf hC.1 hC.2.1 hC.2.2.2.1 (hC.2.2.2.2.2.2.2 _ hl) h1 h2 h3 h4 (v := v) h5 rfl rfl hd hW) k
theorem X_ldcwS {p : Program} {l : Launch} {e : Env} {R : Room} {s : State} {m : MethodId} {args : Array Value} {below : List Frame} {meth : Method} {c : Code} {T : State} {locs : List Loc} {cells slots : Nat}
    (X : Stand p l e R s m args below meth c T locs cells slots) (hexec : p.tables.exec = Jvm.exec) {own text : String} {index : Nat} {a : Addr} (hown : s.vm.findClass own = some m.cls)
    (hconst : (Cond.stringRef own index text).before args s = true) (hev : (Term.string own index).eval args s none [] s = some (.ref a)) {g : JFrame} (hg : g.method = m) (hdg : decode c.code g.pc = .ok (.ldc_w index, 3)) :
    ∀ target, Steps p.tables e below (T.setTop { g with pc := g.pc + 3, stack := .ref a :: g.stack }) target → Steps p.tables e below (T.setTop g) target := by
  obtain ⟨k, cf, i, a', hk, hcf, hcp, -, hr, hev'⟩ := Cond.stringRef_spec hown hconst
  cases hev.symm.trans hev'
  obtain ⟨k', hk', he⟩ := X.warmed.alike.2.2 _ _ hk
  have hr' : k'.resolved[index]? = some (some (.string a)) := by
    rcases X.warmed.entry hk hk' index with h | ⟨h, -⟩
    · rw [h]; exact hr
    · rw [hr] at h; cases h
  intro target hrest
  subst hg
  jvm_step X.here [hexec, hdg, ldc_w.wp_string (e := e) (s := T) (f := g) X.here.top hk' (by rw [he]; exact hcf) hcp hr']
  exact hrest
theorem j_ldcwS {i w : Nat} {tx : String} (hd : decode M.2.1 pc = .ok (.ldc_w i, 3)) (hw : (M.1, i, tx, w) ∈ str_T) (k : J l Γ M cv mc ms (pc + 3) lv (.ref (mT Γ w) :: st) z t) : J l Γ M cv mc ms pc lv st z t :=
  J.go (fun p e s m args below meth c H locs cells slots ls Q hC hK hv hR hW => by
    have hZ := hK.2.2.2.1 _ hw
    intro T hT X
    obtain ⟨t2, a1, b1⟩ := hW T hT X
    exact ⟨t2, X_ldcwS X hC.1 hC.2.2.2.1 (text := tx) (a := mT Γ w) hZ.1 hZ.2 (g := F0 m pc ls st) rfl (by rw [hC.2.1]; exact hd) t2 a1, b1⟩) k
theorem j_salen (hw : w < txc_T.length) (hd : decode M.2.1 pc = .ok (.arraylength, 1)) (k : J l Γ M cv mc ms (pc + 1) lv (.int (nI (txc_T.getD w []).length) :: st) z t) : J l Γ M cv mc ms pc lv (.ref (mV Γ w) :: st) z t :=
  J.go (fun p e s m args below meth c H locs cells slots ls Q hC hK hv hR hW => by
    obtain ⟨cell, h1, h2, h3, h4, h5, h6, h7⟩ := (hK.2.2.2.2.2.2.1 w hw).2.2.2.kept hR.low
    exact W.alen hC.1 hC.2.1 h1 h2 h5 rfl rfl hd hW) k
theorem j_sbald {i : Int32} (hw : w < txc_T.length) (hi : inb i (txc_T.getD w []).length = true) (hd : decode M.2.1 pc = .ok (.baload, 1)) (k : J l Γ M cv mc ms (pc + 1) lv (.int ((txc_T.getD w []).getD i.toNatClampNeg 0) :: st) z t) : J l Γ M cv mc ms pc lv (.int i :: .ref (mV Γ w) :: st) z t :=
  J.go (fun p e s m args below meth c H locs cells slots ls Q hC hK hv hR hW => by
    obtain ⟨cell, h1, h2, h3, h4, h5, h6, h7⟩ := (hK.2.2.2.2.2.2.1 w hw).2.2.2.kept hR.low
    have hlt := inb_lt hi
    exact W.bald (v := .int ((txc_T.getD w []).getD i.toNatClampNeg 0)) hC.1 hC.2.1 h1 h2 h3 (fun q => by
      rcases q with q | q
      · exact inb_vp hi (Or.inl q)
      · omega) (h6 _ hlt) rfl rfl hd hW) k
theorem j_gets {C n d : String} {v : Value} (hk : ∀ s, Kw Γ s → va_Z C n d v (Own Γ) s (mH Γ)) (hl : Cond.fieldLink M.1 idx C n d ∈ gw) (hd : decode M.2.1 pc = .ok (.getstatic idx, 3)) (k : J l Γ M cv mc ms (pc + 3) lv (v :: st) z t) : J l Γ M cv mc ms pc lv st z t :=
  J.go (fun p e s m args below meth c H locs cells slots ls Q hC hK hv hR hW => by
    obtain ⟨cf, kf, fi, f, a, cell, h1, h2, h3, h4, h5, h6, h7, h8⟩ := (hk s hK).kept hR.low
    exact W.gets hC.1 hC.2.1 hC.2.2.2.1 (hC.2.2.2.2.2.2.2 _ hl) h1 h2 h3 h4 h5 (fun e => by rw [e] at h6; cases h6) h7 rfl hd hW) k
theorem j_getsF (hl : Cond.fieldLink M.1 idx "jdk/internal/util/Preconditions" "SIOOBE_FORMATTER" "Ljava/util/function/BiFunction;" ∈ gw) (hd : decode M.2.1 pc = .ok (.getstatic idx, 3)) (k : ∀ v : Value, v.category = 1 → J l Γ M cv mc ms (pc + 3) lv (v :: st) z t) : J l Γ M cv mc ms pc lv st z t := by
  intro v z1 ht p e s m args below meth c H locs cells slots ls hC hK hv hR hL h1 h2
  obtain ⟨u, hu, hz⟩ := hK.2.2.2.2.2.2.2.2.1
  obtain ⟨cf, kf, fi, f, a, cell, g1, g2, g3, g4, g5, g6, g7, g8⟩ := hz.kept hR.low
  exact W.gets hC.1 hC.2.1 hC.2.2.2.1 (hC.2.2.2.2.2.2.2 _ hl) g1 g2 g3 g4 g5 (fun e => by rw [e] at g6; cases g6) g7 rfl hd (k u hu v z1 ht p e s m args below meth c H locs cells slots ls hC hK hv hR hL h1 h2)
theorem j_i2c {x y : Int32} (hd : decode M.2.1 pc = .ok (.i2c, 1)) (hy : (x.toUInt32 % 65536).toInt32 = y) (k : J l Γ M cv mc ms (pc + 1) lv (.int y :: st) z t) : J l Γ M cv mc ms pc lv (.int x :: st) z t := J.go (fun p e s m args below meth c H locs cells slots ls Q hC hK hv hR hW => lv_i2c hC.1 hC.2.1 hd hy hW) k
theorem j_callVS {σ : Type} {cv' : σ → Option Value} {r1 : σ} {mc2 ms2 : Nat} {as : List Value} {y : MethodName} {M' : Mi} (hw : w < txc_T.length) (hct : Ct l Γ y M' cv' (.ref (mT Γ w) :: as) z (some (r1, z))) (hcw : CwV M M' y "java/lang/String" idx as.length) (hd : decode M.2.1 pc = .ok (.invokevirtual idx, 3)) (hs : (st.map fun v => v.category).sum ≤ 8) (hstk : stk = as.reverse ++ .ref (mT Γ w) :: st)
    (hmc : mc2 + M'.2.2.2.2.2.cells ≤ mc) (hms : ms2 + M'.2.2.2.2.2.slots ≤ ms) (kk : J l Γ M cv mc2 ms2 (pc + 3) lv ((cv' r1).toList ++ st) z t) : J l Γ M cv mc ms pc lv stk z t := by
  have e : t = bnd (some (r1, z)) (fun r z2 => t) := rfl
  rw [e]
  intro v z1 ht
  cases hz : t with
  | none => rw [← e, hz] at ht; cases ht
  | some q =>
    rw [← e] at ht
    subst hz
    intro p e s m args below meth c0 H locs cells slots ls hC hK hv hR hL h1 h2
    obtain ⟨⟨w1, w2, w3, w4, w5⟩, hy, hn, hf, hl⟩ := hcw
    have hts := hC.2.2.2.2.2.2.2
    obtain ⟨cell, q1, q2, q3, -⟩ := (hK.2.2.2.2.2.2.1 w hw).1.kept hR.low
    have hrun := va_runV (R := M.2.2.2.2.2) (l := l) (e := e) (below := below) (meth := meth) (locs := locs) (cells := cells) (slots := slots) (g := F0 m pc ls stk) (As := as) (rest := st) (C := "java/lang/String") (n := as.length) (nL := M.2.2.1) (Ts := gw) (own := M.1) ⟨hC.1, hC.2.1, hC.2.2.1, hC.2.2.2.1, hts⟩ (hct r1 z rfl) ⟨⟨rfl, rfl, hf, hl, cw_ws hC w5, List.mem_cons_self, hts _ w5, hts _ w4, hy, cw_len hn, hts _ w1⟩, hts _ w2, hts _ w3⟩
      ⟨cw_blind, ⟨cell, q1, q2, q3⟩, fun U hU hW => ⟨rfl, by rw [hU]; exact hR, hK.warm hW⟩⟩ rfl rfl hv.1 hstk (lv_room hs) hd ⟨by omega, by omega⟩
    intro T hT X
    obtain ⟨v', st₀, tt, T', L, h0, X', hL', e1, e2, ⟨hv', hRl⟩, stp⟩ := hrun T hT X
    cases hv'
    obtain ⟨t2, a1, b1⟩ := kk v z1 ht p e s m args below meth c0 T'.heap (locs ++ L) _ _ ls hC hK hv (by rw [e1]; exact hRl) (fun q hq => by
      rcases List.mem_append.mp hq with h | h
      · exact hL q h
      · exact hL' q h) (by omega) (by omega) T' rfl X'
    exact ⟨t2, stp t2 a1, b1⟩

theorem ct_coder (hw : w < txc_T.length) : Ct l Γ yJ0_coder_7d493 mi_J0_coder_7d493 cvI [.ref (mT Γ w)] z (some (0, z)) := by
  refine Ct.ofJ (by decide +kernel) ⟨rfl, rfl⟩ (Nat.le_of_ble_eq_true rfl) ?_
  show J l Γ mi_J0_coder_7d493 cvI 0 0 0 [(0, .ref (mT Γ w))] [] z (if (1 : Int32) = 0 then none else some (0, z))
  refine j_gets (pc := 0) (fun s hK => hK.2.2.2.2.2.2.2.1) w_623 dJ0_coder_7d493_0 ?_
  refine j_if_eq (pc := 3) 13 dJ0_coder_7d493_3 (by decide) J.none ?_
  refine j_aload_n (pc := 6) 0 dJ0_coder_7d493_6 rfl rfl ?_
  refine j_sget (pc := 7) (fun s hK => (hK.2.2.2.2.2.2.1 w hw).2.1) w_1777 dJ0_coder_7d493_7 ?_
  refine j_goto (pc := 10) 14 dJ0_coder_7d493_10 (by decide) ?_
  exact j_ireturn (pc := 14) dJ0_coder_7d493_14 rfl rfl
theorem ct_isLatin1 (hw : w < txc_T.length) : Ct l Γ yJ0_isLatin1_aae02 mi_J0_isLatin1_aae02 cvI [.ref (mT Γ w)] z (some (1, z)) := by
  refine Ct.ofJ (by decide +kernel) ⟨rfl, rfl⟩ (Nat.le_of_ble_eq_true rfl) ?_
  show J l Γ mi_J0_isLatin1_aae02 cvI 0 0 0 [(0, .ref (mT Γ w))] [] z (if (1 : Int32) = 0 then none else if (0 : Int32) = 0 then some (1, z) else none)
  refine j_gets (pc := 0) (fun s hK => hK.2.2.2.2.2.2.2.1) w_623 dJ0_isLatin1_aae02_0 ?_
  refine j_if_eq (pc := 3) 17 dJ0_isLatin1_aae02_3 (by decide) J.none ?_
  refine j_aload_n (pc := 6) 0 dJ0_isLatin1_aae02_6 rfl rfl ?_
  refine j_sget (pc := 7) (fun s hK => (hK.2.2.2.2.2.2.1 w hw).2.1) w_1777 dJ0_isLatin1_aae02_7 ?_
  refine j_if_ne (pc := 10) 17 dJ0_isLatin1_aae02_10 (by decide) J.none ?_
  refine j_iconst (pc := 13) (v := 1) dJ0_isLatin1_aae02_13 (by decide) ?_
  refine j_goto (pc := 14) 18 dJ0_isLatin1_aae02_14 (by decide) ?_
  exact j_ireturn (pc := 18) dJ0_isLatin1_aae02_18 rfl rfl
theorem ct_length (hw : w < txc_T.length) : Ct l Γ yJ0_length_8abf5 mi_J0_length_8abf5 cvI [.ref (mT Γ w)] z (some (nI (txc_T.getD w []).length, z)) := by
  refine Ct.ofJ (by decide +kernel) ⟨rfl, rfl⟩ (Nat.le_of_ble_eq_true rfl) ?_
  show J l Γ mi_J0_length_8abf5 cvI 0 0 0 [(0, .ref (mT Γ w))] [] z _
  refine j_aload_n (pc := 0) 0 dJ0_length_8abf5_0 rfl rfl ?_
  refine j_sget (pc := 1) (fun s hK => (hK.2.2.2.2.2.2.1 w hw).2.2.1) w_1776 dJ0_length_8abf5_1 ?_
  refine j_salen (pc := 4) hw dJ0_length_8abf5_4 ?_
  refine j_aload_n (pc := 5) 0 dJ0_length_8abf5_5 rfl rfl ?_
  refine j_callVS (pc := 6) (mc2 := 0) (ms2 := 0) (as := []) hw (ct_coder hw) cw_len_coder dJ0_length_8abf5_6 (Nat.le_of_ble_eq_true rfl) rfl (by decide) (by decide) ?_
  show J l Γ mi_J0_length_8abf5 cvI 0 0 (6 + 3) [(0, .ref (mT Γ w))] [.int 0, .int (nI (txc_T.getD w []).length)] z _
  refine j_ishr (pc := 9) dJ0_length_8abf5_9 ?_
  have e : nI (txc_T.getD w []).length >>> ((0 : Int32) &&& 31) = nI (txc_T.getD w []).length := by
    rw [pk_shrN (txc_lt w) _ 0 (by decide)]
    simp
  rw [e]
  exact j_ireturn (pc := 10) dJ0_length_8abf5_10 rfl rfl
theorem ct_pre (i n : Int32) (u : Value) (hu : u.category = 1) (hi : ¬ i < 0 ∧ i < n) : Ct l Γ yJ3_checkIndex_8e157 mi_J3_checkIndex_8e157 cvI [.int i, .int n, u] z (some (i, z)) := by
  refine Ct.ofJ (by decide +kernel) ⟨rfl, rfl⟩ ?_ ?_
  · cases u <;> first | exact Nat.le_of_ble_eq_true rfl | (simp [Value.category] at hu)
  have e : lv_args 0 [.int i, .int n, u] = [(0, .int i), (1, .int n), (2, u)] := by cases u <;> rfl
  rw [e]
  have e2 : some (i, z) = if i < 0 then none else if i < n then some (i, z) else none := by rw [if_neg hi.1, if_pos hi.2]
  rw [e2]
  refine j_iload_n (pc := 0) 0 dJ3_checkIndex_8e157_0 rfl rfl ?_
  refine j_if_lt (pc := 1) 9 dJ3_checkIndex_8e157_1 (by decide) J.none ?_
  refine j_iload_n (pc := 4) 0 dJ3_checkIndex_8e157_4 rfl rfl ?_
  refine j_iload_n (pc := 5) 1 dJ3_checkIndex_8e157_5 rfl rfl ?_
  refine j_icmp_lt (pc := 6) 16 dJ3_checkIndex_8e157_6 (by decide) ?_ J.none
  refine j_iload_n (pc := 16) 0 dJ3_checkIndex_8e157_16 rfl rfl ?_
  exact j_ireturn (pc := 17) dJ3_checkIndex_8e157_17 rfl rfl
theorem ct_chk (i n : Int32) (hi : ¬ i < 0 ∧ i < n) : Ct l Γ yJ0_checkIndex_df160 mi_J0_checkIndex_df160 cvV [.int i, .int n] z (some ((), z)) := by
  refine Ct.ofJ (by decide +kernel) ⟨rfl, rfl⟩ (Nat.le_of_ble_eq_true rfl) ?_
  show J l Γ mi_J0_checkIndex_df160 cvV 0 0 0 [(0, .int i), (1, .int n)] [] z (bnd (some (i, z)) fun _ z => some ((), z))
  refine j_iload_n (pc := 0) 0 dJ0_checkIndex_df160_0 rfl rfl ?_
  refine j_iload_n (pc := 1) 1 dJ0_checkIndex_df160_1 rfl rfl ?_
  refine j_getsF (pc := 2) w_639 dJ0_checkIndex_df160_2 (fun u hu => ?_)
  refine j_callS_I (pc := 5) (as := [.int i, .int n, u]) (mc2 := 0) (ms2 := 0) (ct_pre i n u hu hi) cw_chk_pre dJ0_checkIndex_df160_5 (Nat.le_of_ble_eq_true rfl) rfl (by decide) (by decide) (fun r z => ?_)
  refine j_pop (pc := 8) dJ0_checkIndex_df160_8 rfl ?_
  exact j_return (pc := 9) dJ0_checkIndex_df160_9 rfl
theorem ct_latCh {i : Int32} (hw : w < txc_T.length) (hi : inb i (txc_T.getD w []).length = true) : Ct l Γ yJ1_charAt_3b067 mi_J1_charAt_3b067 cvI [.ref (mV Γ w), .int i] z (some ((txc_T.getD w []).getD i.toNatClampNeg 0, z)) := by
  have hlt := inb_lt hi
  have h0 : ¬ i < 0 := fun q => inb_vp hi (Or.inl q)
  have h1 : i < nI (txc_T.getD w []).length := by
    obtain ⟨j, hj, rfl⟩ := nI_of h0
    rw [nI_clamp hj] at hlt
    exact nI_lt hlt (txc_lt w)
  have hm : (txc_T.getD w []).getD i.toNatClampNeg 0 ∈ txc_T.getD w [] := getD_in hlt
  have hm2 : txc_T.getD w [] ∈ txc_T := by
    rw [List.getD_eq_getElem?_getD, List.getElem?_eq_getElem hw]
    exact List.getElem_mem hw
  have hc := txc_c _ hm2 _ hm
  refine Ct.ofJ (by decide +kernel) ⟨rfl, rfl⟩ (Nat.le_of_ble_eq_true rfl) ?_
  show J l Γ mi_J1_charAt_3b067 cvI 0 0 0 [(0, .ref (mV Γ w)), (1, .int i)] [] z (bnd (some ((), z)) fun _ z => some ((txc_T.getD w []).getD i.toNatClampNeg 0, z))
  refine j_iload_n (pc := 0) 1 dJ1_charAt_3b067_0 rfl rfl ?_
  refine j_aload_n (pc := 1) 0 dJ1_charAt_3b067_1 rfl rfl ?_
  refine j_salen (pc := 2) hw dJ1_charAt_3b067_2 ?_
  refine j_callS_V (pc := 3) (as := [.int i, .int (nI (txc_T.getD w []).length)]) (mc2 := 0) (ms2 := 0) (ct_chk i _ ⟨h0, h1⟩) cw_lch_chk dJ1_charAt_3b067_3 (Nat.le_of_ble_eq_true rfl) rfl (by decide) (by decide) (fun _ z => ?_)
  refine j_aload_n (pc := 6) 0 dJ1_charAt_3b067_6 rfl rfl ?_
  refine j_iload_n (pc := 7) 1 dJ1_charAt_3b067_7 rfl rfl ?_
  refine j_sbald (pc := 8) hw hi dJ1_charAt_3b067_8 ?_
  refine j_sipush (pc := 9) (v := 255) dJ1_charAt_3b067_9 (by decide) ?_
  refine j_iand (pc := 12) dJ1_charAt_3b067_12 ?_
  refine j_i2c (pc := 13) dJ1_charAt_3b067_13 hc.1 ?_
  exact j_ireturn (pc := 14) dJ1_charAt_3b067_14 rfl hc.2
theorem ct_charAt {i : Int32} (hw : w < txc_T.length) (hi : inb i (txc_T.getD w []).length = true) : Ct l Γ yJ0_charAt_5068e mi_J0_charAt_5068e cvI [.ref (mT Γ w), .int i] z (some ((txc_T.getD w []).getD i.toNatClampNeg 0, z)) := by
  have hm : (txc_T.getD w []).getD i.toNatClampNeg 0 ∈ txc_T.getD w [] := getD_in (inb_lt hi)
  have hm2 : txc_T.getD w [] ∈ txc_T := by
    rw [List.getD_eq_getElem?_getD, List.getElem?_eq_getElem hw]
    exact List.getElem_mem hw
  have hc := txc_c _ hm2 _ hm
  refine Ct.ofJ (by decide +kernel) ⟨rfl, rfl⟩ (Nat.le_of_ble_eq_true rfl) ?_
  have e0 : some ((txc_T.getD w []).getD i.toNatClampNeg 0, z) = if (1 : Int32) = 0 then none else bnd (some ((txc_T.getD w []).getD i.toNatClampNeg 0, z)) fun r z => if r = (txc_T.getD w []).getD i.toNatClampNeg 0 then some (r, z) else none := by
    rw [if_neg (by decide)]
    show _ = if _ = _ then _ else _
    rw [if_pos rfl]
  rw [e0]
  show J l Γ mi_J0_charAt_5068e cvI 0 0 0 [(0, .ref (mT Γ w)), (1, .int i)] [] z _
  refine j_aload_n (pc := 0) 0 dJ0_charAt_5068e_0 rfl rfl ?_
  refine j_callVS (pc := 1) (mc2 := 0) (ms2 := 0) (as := []) hw (ct_isLatin1 hw) cw_cha_lat dJ0_charAt_5068e_1 (Nat.le_of_ble_eq_true rfl) rfl (by decide) (by decide) ?_
  show J l Γ mi_J0_charAt_5068e cvI 0 0 (1 + 3) [(0, .ref (mT Γ w)), (1, .int i)] [.int 1] z _
  refine j_if_eq (pc := 4) 16 dJ0_charAt_5068e_4 (by decide) J.none ?_
  refine j_aload_n (pc := 7) 0 dJ0_charAt_5068e_7 rfl rfl ?_
  refine j_sget (pc := 8) (fun s hK => (hK.2.2.2.2.2.2.1 w hw).2.2.1) w_1776 dJ0_charAt_5068e_8 ?_
  refine j_iload_n (pc := 11) 1 dJ0_charAt_5068e_11 rfl rfl ?_
  refine j_callS_I (pc := 12) (as := [.ref (mV Γ w), .int i]) (mc2 := 0) (ms2 := 0) (ct_latCh hw hi) cw_cha_lch dJ0_charAt_5068e_12 (Nat.le_of_ble_eq_true rfl) rfl (by decide) (by decide) (fun r z => ?_)
  refine j_ite (fun h => ?_) (fun _ => J.none)
  subst h
  exact j_ireturn (pc := 15) dJ0_charAt_5068e_15 rfl hc.2
theorem j_strlen {f : Int32 → Option (ρ × Hp)} (hl : Cond.methodLink M.1 idx { cls := "java/lang/String", name := "length", desc := "()I" } ∈ gw) (hd : decode M.2.1 pc = .ok (.invokevirtual idx, 3)) (hf : 2 ≤ M.2.2.2.2.2.frames) (ho : 60 ≤ M.2.2.2.2.2.locals) (hs : (st.map fun v => v.category).sum ≤ 8) (kk : ∀ x : Int32, J l Γ M cv mc ms (pc + 3) lv (.int x :: st) z (f x)) : J l Γ M cv mc ms pc lv (.ref (mT Γ w) :: st) z (sLen w f) := by
  unfold sLen
  refine j_ite (fun hw => ?_) (fun _ => J.none)
  exact j_callVS (mc2 := mc) (ms2 := ms) (as := []) hw (ct_length hw) ⟨⟨hl, w_616, w_617, w_110, w_618⟩, ⟨by decide, by decide⟩, by decide +kernel, by show 1 + 1 ≤ _; omega, by show 8 + (1 + 11) + 20 ≤ _; omega⟩ hd hs rfl (Nat.le_refl _) (Nat.le_refl _) (kk _)
theorem j_strchar {i : Int32} {f : Int32 → Option (ρ × Hp)} (hl : Cond.methodLink M.1 idx { cls := "java/lang/String", name := "charAt", desc := "(I)C" } ∈ gw) (hd : decode M.2.1 pc = .ok (.invokevirtual idx, 3)) (hf : 4 ≤ M.2.2.2.2.2.frames) (ho : 110 ≤ M.2.2.2.2.2.locals) (hs : (st.map fun v => v.category).sum ≤ 8) (kk : ∀ x : Int32, J l Γ M cv mc ms (pc + 3) lv (.int x :: st) z (f x)) : J l Γ M cv mc ms pc lv (.int i :: .ref (mT Γ w) :: st) z (sCh w i f) := by
  unfold sCh
  refine j_ite (fun hw => ?_) (fun _ => J.none)
  exact j_callVS (mc2 := mc) (ms2 := ms) (as := [.int i]) hw.1 (ct_charAt hw.1 hw.2) ⟨⟨hl, w_626, w_627, w_110, w_628⟩, ⟨by decide, by decide⟩, by show _ = some 1; decide +kernel, by show 3 + 1 ≤ _; omega, by show 8 + (2 + 11) + 64 ≤ _; omega⟩ hd hs rfl (Nat.le_refl _) (Nat.le_refl _) (kk _)
theorem j_multi {g0 : Nat → Hp → Option (ρ × Hp)} {n k : Int32} {n0 k0 mc2 ms2 : Nat} (hw : Cond.classLink M.1 idx "[[J" ∈ gw) (ha : Cond.arrayClass .long ∈ gw) (hd : decode M.2.1 pc = .ok (.multianewarray idx 2, 4)) (hn : ¬ n < 0 ∧ ¬ k < 0) (hn0 : n.toNatClampNeg = n0) (hk0 : k.toNatClampNeg = k0) (hb : n0 * 4 ≤ 536870912) (hb2 : k0 * 8 ≤ 536870912) (hmc : mc2 + (1 + n0) ≤ mc) (hms : ms2 + (n0 + n0 * k0) ≤ ms)
    (kk : ∀ (b : Nat) (z2 : Hp), J l Γ M cv mc2 ms2 (pc + 4) lv (.ref (mB Γ + b) :: st) z2 (g0 b z2)) : J l Γ M cv mc ms pc lv (.int k :: .int n :: st) z (nw2 n0 k0 z g0) := by
  intro v z1 ht p e s m args below meth c0 H locs cells slots ls hC hK hv hR hL h1 h2
  subst hn0
  subst hk0
  have hts := hC.2.2.2.2.2.2.2
  intro T hT X
  obtain ⟨vm₁, cA, comp, -, fA, fC, hO, -, X', step⟩ := X.multianewarray2F (ty := .long) hC.1 hC.2.2.2.1 (hts _ hw) hK.2.2.2.2.2.1 (hts _ ha) (g := F0 m pc ls (.int k :: .int n :: st)) rfl (by rw [hC.2.1]; exact hd) rfl hn.1 hn.2 hb hb2 (by omega) rfl rfl (by omega) (by omega)
  generalize hF : Jvm.Free.Multi.fill (T.setVm vm₁) cA comp n.toNatClampNeg k.toNatClampNeg (defaultValue .long) n.toNatClampNeg = F at X' step
  have hTh : (T.setVm vm₁).heap = H := hT
  obtain ⟨f1, f2, -, -⟩ := Jvm.Free.Multi.fill_facts (T.setVm vm₁) cA comp n.toNatClampNeg k.toNatClampNeg (defaultValue .long) n.toNatClampNeg
  rw [hF, hTh] at f1 f2
  have hold : ∀ x : Nat, x < H.size → F.heap[x]? = H[x]? := fun x hx => by
    have := Jvm.Free.Multi.fill_old (T.setVm vm₁) cA comp n.toNatClampNeg k.toNatClampNeg (defaultValue .long) (a := x) (by rw [hTh]; exact hx) n.toNatClampNeg
    rw [hF, hTh] at this
    exact this
  have hrow : ∀ j : Nat, j < n.toNatClampNeg → F.heap[H.size + 1 + j]? = some (arrV comp k.toNatClampNeg (fun _ => .long 0)) := fun j hj => by
    have := Jvm.Free.Multi.fill_inner (T.setVm vm₁) cA comp n.toNatClampNeg k.toNatClampNeg (defaultValue .long) n.toNatClampNeg j hj
    rw [hF, hTh] at this
    rw [this, ← arrV_new]
    rfl
  rw [outer_eq] at f2
  have hc1 : cA = mA Γ 5 := Option.some.inj (fA.symm.trans (hK.2.1 5 _ rfl).2)
  have hc2 : comp = mA Γ 3 := Option.some.inj (fC.symm.trans (hK.2.1 3 _ rfl).2)
  subst hc1
  subst hc2
  have hs0 := hR.1
  have hRl : Rl Γ (zNew2 z n.toNatClampNeg k.toNatClampNeg) F.heap := by
    have hn1 : zN (zNew z 6 n.toNatClampNeg) = zN z + 1 := rfl
    have hnn : zN (zNew2 z n.toNatClampNeg k.toNatClampNeg) = zN z + 1 + n.toNatClampNeg := zRows_n _ _ _
    refine ⟨by rw [f1, hnn, hs0]; omega, fun q hq => by rw [hold q (by omega)]; exact hR.2.1 q hq, fun a => ?_, fun a haa => ?_⟩
    · by_cases c1 : a < zN z
      · obtain ⟨g1, g2, g3, g4⟩ := zRows_out (zNew z 6 n.toNatClampNeg) k.toNatClampNeg n.toNatClampNeg a (Or.inl (by omega))
        have ne : a ≠ zN z := by omega
        exact (hR.2.2.1 a).kept (hold _ (by omega)) (g1.trans (ups_n _ _ ne)) (g2.trans (ups_n _ _ ne)) (g3.trans (ups_n _ _ ne)) ((ups_n _ _ ne).trans (g4.trans (ups_n _ _ ne)))
      · by_cases c2 : a = zN z
        · obtain ⟨g1, g2, g3, g4⟩ := zRows_out (zNew z 6 n.toNatClampNeg) k.toNatClampNeg n.toNatClampNeg a (Or.inl (by omega))
          have e1 : zK (zNew2 z n.toNatClampNeg k.toNatClampNeg) a = (6, n.toNatClampNeg) := by
            refine g1.trans ?_
            rw [c2]
            exact ups_s _ _ _
          refine CellAt.arr6 (by rw [e1]) ?_
          rw [e1]
          have e2 : zR (zNew2 z n.toNatClampNeg k.toNatClampNeg) a = fun i => if i < n.toNatClampNeg then some (zN z + 1 + i) else none := by
            rw [c2]
            exact ups_s _ _ _
          simp only [arrP]
          rw [e2, c2, ← hs0, f2]
          refine congrArg some (congrArg (arrV _ _) (funext fun j => ?_))
          by_cases hj : j < n.toNatClampNeg
          · have ea : H.size + 1 + j = mB Γ + (zN z + 1 + j) := by omega
            simp only [hj, if_true, rfv, va_rf, Option.map_some, ea]
          · simp [hj, rfv, va_rf]
        · by_cases c3 : a < zN z + 1 + n.toNatClampNeg
          · obtain ⟨g1, g2⟩ := zRows_in (zNew z 6 n.toNatClampNeg) k.toNatClampNeg n.toNatClampNeg a (by omega) (by omega)
            have e1 : zK (zNew2 z n.toNatClampNeg k.toNatClampNeg) a = (4, k.toNatClampNeg) := g1
            refine CellAt.arr4 (by rw [e1]) ?_
            rw [e1]
            have e2 : zL (zNew2 z n.toNatClampNeg k.toNatClampNeg) a = fun _ => 0 := g2
            simp only [arrP]
            rw [e2]
            have := hrow (a - (zN z + 1)) (by omega)
            rw [show H.size + 1 + (a - (zN z + 1)) = mB Γ + a by omega] at this
            exact this
          · obtain ⟨g1, g2, g3, g4⟩ := zRows_out (zNew z 6 n.toNatClampNeg) k.toNatClampNeg n.toNatClampNeg a (Or.inr (by omega))
            have e1 : zK (zNew2 z n.toNatClampNeg k.toNatClampNeg) a = zK z a := g1.trans (ups_n _ _ c2)
            have e0 := hR.2.2.2 a (by omega)
            unfold CellAt
            rw [e1]
            generalize hq : zK z a = q at e0 ⊢
            obtain ⟨q1, q2⟩ := q
            have e2 : q1 = 0 := e0
            subst e2
            trivial
    · rw [hnn] at haa
      obtain ⟨g1, g2, g3, g4⟩ := zRows_out (zNew z 6 n.toNatClampNeg) k.toNatClampNeg n.toNatClampNeg a (Or.inr (by omega))
      have e1 : zK (zNew2 z n.toNatClampNeg k.toNatClampNeg) a = zK z a := g1.trans (ups_n _ _ (show a ≠ zN z by omega))
      rw [e1]
      exact hR.2.2.2 a (by omega)
  obtain ⟨t2, a1, b1⟩ := kk (zN z) _ v z1 ht p e s m args below meth c0 F.heap locs _ _ ls hC hK hv hRl hL (by omega) (by omega) F rfl X'
  refine ⟨t2, step t2 ?_, b1⟩
  have eT : T.heap.size = mB Γ + zN z := by rw [hT]; exact hs0
  rw [eT]
  exact a1
end JSTR
