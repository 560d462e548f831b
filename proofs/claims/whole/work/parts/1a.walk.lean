theorem dX0_init_0 : decode cX0_init 0 = .ok (.aload_n 0, 1) := by decide +kernel
theorem dX0_init_1 : decode cX0_init 1 = .ok (.invokespecial 3, 3) := by decide +kernel
theorem dX0_init_4 : decode cX0_init 4 = .ok (.aload_n 0, 1) := by decide +kernel
theorem dX0_init_5 : decode cX0_init 5 = .ok (.bipush 10, 2) := by decide +kernel
theorem dX0_init_7 : decode cX0_init 7 = .ok (.newarray .int, 2) := by decide +kernel
theorem dX0_init_9 : decode cX0_init 9 = .ok (.putfield 9, 3) := by decide +kernel
theorem dX0_init_12 : decode cX0_init 12 = .ok (.aload_n 0, 1) := by decide +kernel
theorem dX0_init_13 : decode cX0_init 13 = .ok (.bipush 10, 2) := by decide +kernel
theorem dX0_init_15 : decode cX0_init 15 = .ok (.newarray .int, 2) := by decide +kernel
theorem dX0_init_17 : decode cX0_init 17 = .ok (.putfield 15, 3) := by decide +kernel
theorem dX0_init_20 : decode cX0_init 20 = .ok (.return_, 1) := by decide +kernel
theorem ct_X0_init {l : Launch} {Γ : Am} (r0 : Nat) (z : Hp) : Ct l Γ yX0_init mi_X0_init cvV [.ref (mB Γ + r0)] z (m_X0_init r0 z) := by
  refine Ct.ofJ (by decide) ⟨rfl, rfl⟩ (Nat.le_of_ble_eq_true rfl) ?_
  unfold m_X0_init
  show J l Γ mi_X0_init cvV 2 20 0 [(0, .ref (mB Γ + r0))] [] z _
  refine j_aload_n (pc := 0) 0 dX0_init_0 rfl rfl ?_
  refine j_objInit (pc := 1) w_276 w_122 w_123 dX0_init_1 (by decide) (by decide) ?_
  refine j_aload_n (pc := 4) 0 dX0_init_4 rfl rfl ?_
  refine j_bipush (pc := 5) (v := 10) dX0_init_5 (by decide) ?_
  refine j_newarr1 (pc := 7) (n0 := 10) (mc2 := 1) (ms2 := 10) w_177 dX0_init_7 (by decide) (by decide) (by decide) (by decide) (by decide) (fun a1 z2 => ?_)
  refine j_putR (pc := 9) ok_X0 (by decide) rfl w_277 (Or.inr ⟨rfl, rfl, rfl⟩) rfl rfl dX0_init_9 (fun z3 => ?_)
  refine j_aload_n (pc := 12) 0 dX0_init_12 rfl rfl ?_
  refine j_bipush (pc := 13) (v := 10) dX0_init_13 (by decide) ?_
  refine j_newarr1 (pc := 15) (n0 := 10) (mc2 := 0) (ms2 := 0) w_177 dX0_init_15 (by decide) (by decide) (by decide) (by decide) (by decide) (fun a4 z5 => ?_)
  refine j_putR (pc := 17) ok_X0 (by decide) rfl w_280 (Or.inr ⟨rfl, rfl, rfl⟩) rfl rfl dX0_init_17 (fun z6 => ?_)
  exact j_return (pc := 20) dX0_init_20 rfl
theorem dX0_copyFrom_0 : decode cX0_copyFrom 0 = .ok (.aload_n 1, 1) := by decide +kernel
theorem dX0_copyFrom_1 : decode cX0_copyFrom 1 = .ok (.getfield 9, 3) := by decide +kernel
theorem dX0_copyFrom_4 : decode cX0_copyFrom 4 = .ok (.iconst 0, 1) := by decide +kernel
theorem dX0_copyFrom_5 : decode cX0_copyFrom 5 = .ok (.aload_n 0, 1) := by decide +kernel
theorem dX0_copyFrom_6 : decode cX0_copyFrom 6 = .ok (.getfield 9, 3) := by decide +kernel
theorem dX0_copyFrom_9 : decode cX0_copyFrom 9 = .ok (.iconst 0, 1) := by decide +kernel
theorem dX0_copyFrom_10 : decode cX0_copyFrom 10 = .ok (.bipush 10, 2) := by decide +kernel
theorem dX0_copyFrom_12 : decode cX0_copyFrom 12 = .ok (.invokestatic 18, 3) := by decide +kernel
theorem dX0_copyFrom_15 : decode cX0_copyFrom 15 = .ok (.aload_n 1, 1) := by decide +kernel
theorem dX0_copyFrom_16 : decode cX0_copyFrom 16 = .ok (.getfield 15, 3) := by decide +kernel
theorem dX0_copyFrom_19 : decode cX0_copyFrom 19 = .ok (.iconst 0, 1) := by decide +kernel
theorem dX0_copyFrom_20 : decode cX0_copyFrom 20 = .ok (.aload_n 0, 1) := by decide +kernel
theorem dX0_copyFrom_21 : decode cX0_copyFrom 21 = .ok (.getfield 15, 3) := by decide +kernel
theorem dX0_copyFrom_24 : decode cX0_copyFrom 24 = .ok (.iconst 0, 1) := by decide +kernel
theorem dX0_copyFrom_25 : decode cX0_copyFrom 25 = .ok (.bipush 10, 2) := by decide +kernel
theorem dX0_copyFrom_27 : decode cX0_copyFrom 27 = .ok (.invokestatic 18, 3) := by decide +kernel
theorem dX0_copyFrom_30 : decode cX0_copyFrom 30 = .ok (.return_, 1) := by decide +kernel
theorem ct_X0_copyFrom {l : Launch} {Γ : Am} (r0 : Nat) (r1 : Nat) (z : Hp) : Ct l Γ yX0_copyFrom mi_X0_copyFrom cvV [.ref (mB Γ + r0), .ref (mB Γ + r1)] z (m_X0_copyFrom r0 r1 z) := by
  refine Ct.ofJ (by decide) ⟨rfl, rfl⟩ (Nat.le_of_ble_eq_true rfl) ?_
  unfold m_X0_copyFrom
  show J l Γ mi_X0_copyFrom cvV 0 0 0 [(0, .ref (mB Γ + r0)), (1, .ref (mB Γ + r1))] [] z _
  refine j_aload_n (pc := 0) 1 dX0_copyFrom_0 rfl rfl ?_
  refine j_getR (pc := 1) ok_X0 (by decide) rfl w_277 dX0_copyFrom_1 (fun a1 => ?_)
  refine j_iconst (pc := 4) (v := 0) dX0_copyFrom_4 (by decide) ?_
  refine j_aload_n (pc := 5) 0 dX0_copyFrom_5 rfl rfl ?_
  refine j_getR (pc := 6) ok_X0 (by decide) rfl w_277 dX0_copyFrom_6 (fun a2 => ?_)
  refine j_iconst (pc := 9) (v := 0) dX0_copyFrom_9 (by decide) ?_
  refine j_bipush (pc := 10) (v := 10) dX0_copyFrom_10 (by decide) ?_
  refine j_arraycopy1 (pc := 12) ⟨w_1082, w_1062, w_1061, w_114⟩ (by decide) (by decide) dX0_copyFrom_12 (fun z3 => ?_)
  refine j_aload_n (pc := 15) 1 dX0_copyFrom_15 rfl rfl ?_
  refine j_getR (pc := 16) ok_X0 (by decide) rfl w_280 dX0_copyFrom_16 (fun a4 => ?_)
  refine j_iconst (pc := 19) (v := 0) dX0_copyFrom_19 (by decide) ?_
  refine j_aload_n (pc := 20) 0 dX0_copyFrom_20 rfl rfl ?_
  refine j_getR (pc := 21) ok_X0 (by decide) rfl w_280 dX0_copyFrom_21 (fun a5 => ?_)
  refine j_iconst (pc := 24) (v := 0) dX0_copyFrom_24 (by decide) ?_
  refine j_bipush (pc := 25) (v := 10) dX0_copyFrom_25 (by decide) ?_
  refine j_arraycopy1 (pc := 27) ⟨w_1082, w_1062, w_1061, w_114⟩ (by decide) (by decide) dX0_copyFrom_27 (fun z6 => ?_)
  exact j_return (pc := 30) dX0_copyFrom_30 rfl
theorem dX1_init_0 : decode cX1_init 0 = .ok (.aload_n 0, 1) := by decide +kernel
theorem dX1_init_1 : decode cX1_init 1 = .ok (.invokespecial 3, 3) := by decide +kernel
theorem dX1_init_4 : decode cX1_init 4 = .ok (.aload_n 0, 1) := by decide +kernel
theorem dX1_init_5 : decode cX1_init 5 = .ok (.bipush 6, 2) := by decide +kernel
theorem dX1_init_7 : decode cX1_init 7 = .ok (.newarray .int, 2) := by decide +kernel
theorem dX1_init_9 : decode cX1_init 9 = .ok (.putfield 9, 3) := by decide +kernel
theorem dX1_init_12 : decode cX1_init 12 = .ok (.aload_n 0, 1) := by decide +kernel
theorem dX1_init_13 : decode cX1_init 13 = .ok (.bipush 6, 2) := by decide +kernel
theorem dX1_init_15 : decode cX1_init 15 = .ok (.newarray .int, 2) := by decide +kernel
theorem dX1_init_17 : decode cX1_init 17 = .ok (.putfield 15, 3) := by decide +kernel
theorem dX1_init_20 : decode cX1_init 20 = .ok (.aload_n 0, 1) := by decide +kernel
theorem dX1_init_21 : decode cX1_init 21 = .ok (.bipush 6, 2) := by decide +kernel
theorem dX1_init_23 : decode cX1_init 23 = .ok (.newarray .int, 2) := by decide +kernel
theorem dX1_init_25 : decode cX1_init 25 = .ok (.putfield 18, 3) := by decide +kernel
theorem dX1_init_28 : decode cX1_init 28 = .ok (.aload_n 0, 1) := by decide +kernel
theorem dX1_init_29 : decode cX1_init 29 = .ok (.iconst 0, 1) := by decide +kernel
theorem dX1_init_30 : decode cX1_init 30 = .ok (.putfield 21, 3) := by decide +kernel
theorem dX1_init_33 : decode cX1_init 33 = .ok (.return_, 1) := by decide +kernel
theorem ct_X1_init {l : Launch} {Γ : Am} (r0 : Nat) (z : Hp) : Ct l Γ yX1_init mi_X1_init cvV [.ref (mB Γ + r0)] z (m_X1_init r0 z) := by
  refine Ct.ofJ (by decide) ⟨rfl, rfl⟩ (Nat.le_of_ble_eq_true rfl) ?_
  unfold m_X1_init
  show J l Γ mi_X1_init cvV 3 18 0 [(0, .ref (mB Γ + r0))] [] z _
  refine j_aload_n (pc := 0) 0 dX1_init_0 rfl rfl ?_
  refine j_objInit (pc := 1) w_224 w_122 w_123 dX1_init_1 (by decide) (by decide) ?_
  refine j_aload_n (pc := 4) 0 dX1_init_4 rfl rfl ?_
  refine j_bipush (pc := 5) (v := 6) dX1_init_5 (by decide) ?_
  refine j_newarr1 (pc := 7) (n0 := 6) (mc2 := 2) (ms2 := 12) w_177 dX1_init_7 (by decide) (by decide) (by decide) (by decide) (by decide) (fun a1 z2 => ?_)
  refine j_putR (pc := 9) ok_X1 (by decide) rfl w_225 (Or.inr ⟨rfl, rfl, rfl⟩) rfl rfl dX1_init_9 (fun z3 => ?_)
  refine j_aload_n (pc := 12) 0 dX1_init_12 rfl rfl ?_
  refine j_bipush (pc := 13) (v := 6) dX1_init_13 (by decide) ?_
  refine j_newarr1 (pc := 15) (n0 := 6) (mc2 := 1) (ms2 := 6) w_177 dX1_init_15 (by decide) (by decide) (by decide) (by decide) (by decide) (fun a4 z5 => ?_)
  refine j_putR (pc := 17) ok_X1 (by decide) rfl w_227 (Or.inr ⟨rfl, rfl, rfl⟩) rfl rfl dX1_init_17 (fun z6 => ?_)
  refine j_aload_n (pc := 20) 0 dX1_init_20 rfl rfl ?_
  refine j_bipush (pc := 21) (v := 6) dX1_init_21 (by decide) ?_
  refine j_newarr1 (pc := 23) (n0 := 6) (mc2 := 0) (ms2 := 0) w_177 dX1_init_23 (by decide) (by decide) (by decide) (by decide) (by decide) (fun a7 z8 => ?_)
  refine j_putR (pc := 25) ok_X1 (by decide) rfl w_229 (Or.inr ⟨rfl, rfl, rfl⟩) rfl rfl dX1_init_25 (fun z9 => ?_)
  refine j_aload_n (pc := 28) 0 dX1_init_28 rfl rfl ?_
  refine j_iconst (pc := 29) (v := 0) dX1_init_29 (by decide) ?_
  refine j_putI (pc := 30) ok_X1 (by decide) rfl w_231 (Or.inl rfl) rfl rfl dX1_init_30 (fun z10 => ?_)
  exact j_return (pc := 33) dX1_init_33 rfl
theorem dX1_add_0 : decode cX1_add 0 = .ok (.aload_n 0, 1) := by decide +kernel
theorem dX1_add_1 : decode cX1_add 1 = .ok (.getfield 21, 3) := by decide +kernel
theorem dX1_add_4 : decode cX1_add 4 = .ok (.bipush 6, 2) := by decide +kernel
theorem dX1_add_6 : decode cX1_add 6 = .ok (.if_icmp .lt 4, 3) := by decide +kernel
theorem dX1_add_9 : decode cX1_add 9 = .ok (.return_, 1) := by decide +kernel
theorem dX1_add_10 : decode cX1_add 10 = .ok (.aload_n 0, 1) := by decide +kernel
theorem dX1_add_11 : decode cX1_add 11 = .ok (.getfield 9, 3) := by decide +kernel
theorem dX1_add_14 : decode cX1_add 14 = .ok (.aload_n 0, 1) := by decide +kernel
theorem dX1_add_15 : decode cX1_add 15 = .ok (.getfield 21, 3) := by decide +kernel
theorem dX1_add_18 : decode cX1_add 18 = .ok (.iload_n 1, 1) := by decide +kernel
theorem dX1_add_19 : decode cX1_add 19 = .ok (.iastore, 1) := by decide +kernel
theorem dX1_add_20 : decode cX1_add 20 = .ok (.aload_n 0, 1) := by decide +kernel
theorem dX1_add_21 : decode cX1_add 21 = .ok (.getfield 15, 3) := by decide +kernel
theorem dX1_add_24 : decode cX1_add 24 = .ok (.aload_n 0, 1) := by decide +kernel
theorem dX1_add_25 : decode cX1_add 25 = .ok (.getfield 21, 3) := by decide +kernel
theorem dX1_add_28 : decode cX1_add 28 = .ok (.iload_n 2, 1) := by decide +kernel
theorem dX1_add_29 : decode cX1_add 29 = .ok (.iastore, 1) := by decide +kernel
theorem dX1_add_30 : decode cX1_add 30 = .ok (.aload_n 0, 1) := by decide +kernel
theorem dX1_add_31 : decode cX1_add 31 = .ok (.getfield 18, 3) := by decide +kernel
theorem dX1_add_34 : decode cX1_add 34 = .ok (.aload_n 0, 1) := by decide +kernel
theorem dX1_add_35 : decode cX1_add 35 = .ok (.getfield 21, 3) := by decide +kernel
theorem dX1_add_38 : decode cX1_add 38 = .ok (.iconst (-1), 1) := by decide +kernel
theorem dX1_add_39 : decode cX1_add 39 = .ok (.iastore, 1) := by decide +kernel
theorem dX1_add_40 : decode cX1_add 40 = .ok (.aload_n 0, 1) := by decide +kernel
theorem dX1_add_41 : decode cX1_add 41 = .ok (.dup, 1) := by decide +kernel
theorem dX1_add_42 : decode cX1_add 42 = .ok (.getfield 21, 3) := by decide +kernel
theorem dX1_add_45 : decode cX1_add 45 = .ok (.iconst 1, 1) := by decide +kernel
theorem dX1_add_46 : decode cX1_add 46 = .ok (.iadd, 1) := by decide +kernel
theorem dX1_add_47 : decode cX1_add 47 = .ok (.putfield 21, 3) := by decide +kernel
theorem dX1_add_50 : decode cX1_add 50 = .ok (.return_, 1) := by decide +kernel
theorem ct_X1_add {l : Launch} {Γ : Am} (r0 : Nat) (v1 : Int32) (v2 : Int32) (z : Hp) : Ct l Γ yX1_add mi_X1_add cvV [.ref (mB Γ + r0), .int v1, .int v2] z (m_X1_add r0 v1 v2 z) := by
  refine Ct.ofJ (by decide) ⟨rfl, rfl⟩ (Nat.le_of_ble_eq_true rfl) ?_
  unfold m_X1_add
  show J l Γ mi_X1_add cvV 0 0 0 [(0, .ref (mB Γ + r0)), (1, .int v1), (2, .int v2)] [] z _
  refine j_aload_n (pc := 0) 0 dX1_add_0 rfl rfl ?_
  refine j_getI (pc := 1) ok_X1 (by decide) rfl w_231 dX1_add_1 (fun x1 => ?_)
  refine j_bipush (pc := 4) (v := 6) dX1_add_4 (by decide) ?_
  refine j_icmp_lt (pc := 6) 10 dX1_add_6 (by decide) ?_ ?_
  · refine j_aload_n (pc := 10) 0 dX1_add_10 rfl rfl ?_
    refine j_getR (pc := 11) ok_X1 (by decide) rfl w_225 dX1_add_11 (fun a2 => ?_)
    refine j_aload_n (pc := 14) 0 dX1_add_14 rfl rfl ?_
    refine j_getI (pc := 15) ok_X1 (by decide) rfl w_231 dX1_add_15 (fun x3 => ?_)
    refine j_iload_n (pc := 18) 1 dX1_add_18 rfl rfl ?_
    refine j_iastore (pc := 19) dX1_add_19 (fun z4 => ?_)
    refine j_aload_n (pc := 20) 0 dX1_add_20 rfl rfl ?_
    refine j_getR (pc := 21) ok_X1 (by decide) rfl w_227 dX1_add_21 (fun a5 => ?_)
    refine j_aload_n (pc := 24) 0 dX1_add_24 rfl rfl ?_
    refine j_getI (pc := 25) ok_X1 (by decide) rfl w_231 dX1_add_25 (fun x6 => ?_)
    refine j_iload_n (pc := 28) 2 dX1_add_28 rfl rfl ?_
    refine j_iastore (pc := 29) dX1_add_29 (fun z7 => ?_)
    refine j_aload_n (pc := 30) 0 dX1_add_30 rfl rfl ?_
    refine j_getR (pc := 31) ok_X1 (by decide) rfl w_229 dX1_add_31 (fun a8 => ?_)
    refine j_aload_n (pc := 34) 0 dX1_add_34 rfl rfl ?_
    refine j_getI (pc := 35) ok_X1 (by decide) rfl w_231 dX1_add_35 (fun x9 => ?_)
    refine j_iconst (pc := 38) (v := (-1)) dX1_add_38 (by decide) ?_
    refine j_iastore (pc := 39) dX1_add_39 (fun z10 => ?_)
    refine j_aload_n (pc := 40) 0 dX1_add_40 rfl rfl ?_
    refine j_dup (pc := 41) dX1_add_41 rfl ?_
    refine j_getI (pc := 42) ok_X1 (by decide) rfl w_231 dX1_add_42 (fun x11 => ?_)
    refine j_iconst (pc := 45) (v := 1) dX1_add_45 (by decide) ?_
    refine j_iadd (pc := 46) dX1_add_46 ?_
    refine j_putI (pc := 47) ok_X1 (by decide) rfl w_231 (Or.inl rfl) rfl rfl dX1_add_47 (fun z12 => ?_)
    exact j_return (pc := 50) dX1_add_50 rfl
  exact j_return (pc := 9) dX1_add_9 rfl
theorem dX1_crackedBits_0 : decode cX1_crackedBits 0 = .ok (.iconst 0, 1) := by decide +kernel
theorem dX1_crackedBits_1 : decode cX1_crackedBits 1 = .ok (.istore_n 1, 1) := by decide +kernel
theorem dX1_crackedBits_2 : decode cX1_crackedBits 2 = .ok (.iconst 0, 1) := by decide +kernel
theorem dX1_crackedBits_3 : decode cX1_crackedBits 3 = .ok (.istore_n 2, 1) := by decide +kernel
theorem dX1_crackedBits_4 : decode cX1_crackedBits 4 = .ok (.iload_n 2, 1) := by decide +kernel
theorem dX1_crackedBits_5 : decode cX1_crackedBits 5 = .ok (.aload_n 0, 1) := by decide +kernel
theorem dX1_crackedBits_6 : decode cX1_crackedBits 6 = .ok (.getfield 21, 3) := by decide +kernel
theorem dX1_crackedBits_9 : decode cX1_crackedBits 9 = .ok (.if_icmp .ge 25, 3) := by decide +kernel
theorem dX1_crackedBits_12 : decode cX1_crackedBits 12 = .ok (.aload_n 0, 1) := by decide +kernel
theorem dX1_crackedBits_13 : decode cX1_crackedBits 13 = .ok (.getfield 18, 3) := by decide +kernel
theorem dX1_crackedBits_16 : decode cX1_crackedBits 16 = .ok (.iload_n 2, 1) := by decide +kernel
theorem dX1_crackedBits_17 : decode cX1_crackedBits 17 = .ok (.iaload, 1) := by decide +kernel
theorem dX1_crackedBits_18 : decode cX1_crackedBits 18 = .ok (.iconst (-1), 1) := by decide +kernel
theorem dX1_crackedBits_19 : decode cX1_crackedBits 19 = .ok (.if_icmp .eq 9, 3) := by decide +kernel
theorem dX1_crackedBits_22 : decode cX1_crackedBits 22 = .ok (.iload_n 1, 1) := by decide +kernel
theorem dX1_crackedBits_23 : decode cX1_crackedBits 23 = .ok (.iconst 1, 1) := by decide +kernel
theorem dX1_crackedBits_24 : decode cX1_crackedBits 24 = .ok (.iload_n 2, 1) := by decide +kernel
theorem dX1_crackedBits_25 : decode cX1_crackedBits 25 = .ok (.ishl, 1) := by decide +kernel
theorem dX1_crackedBits_26 : decode cX1_crackedBits 26 = .ok (.ior, 1) := by decide +kernel
theorem dX1_crackedBits_27 : decode cX1_crackedBits 27 = .ok (.istore_n 1, 1) := by decide +kernel
theorem dX1_crackedBits_28 : decode cX1_crackedBits 28 = .ok (.iinc 2 1, 3) := by decide +kernel
theorem dX1_crackedBits_31 : decode cX1_crackedBits 31 = .ok (.goto (-27), 3) := by decide +kernel
theorem dX1_crackedBits_34 : decode cX1_crackedBits 34 = .ok (.iload_n 1, 1) := by decide +kernel
theorem dX1_crackedBits_35 : decode cX1_crackedBits 35 = .ok (.ireturn, 1) := by decide +kernel
theorem j_X1_crackedBits_B28 {l : Launch} {Γ : Am} {k4 : Nat → Int32 → Int32 → Hp → Option (Int32 × Hp)} (hL4 : ∀ (r0 : Nat) (v1 : Int32) (v2 : Int32) (z : Hp), J l Γ mi_X1_crackedBits cvI 0 0 4 [(0, .ref (mB Γ + r0)), (1, .int v1), (2, .int v2)] [] z (k4 r0 v1 v2 z)) : ∀ (r0 : Nat) (v1 : Int32) (v2 : Int32) (z : Hp), J l Γ mi_X1_crackedBits cvI 0 0 28 [(0, .ref (mB Γ + r0)), (1, .int v1), (2, .int v2)] [] z (m_X1_crackedBits_B28 k4 r0 v1 v2 z) := by
  intro r0 v1 v2 z
  unfold m_X1_crackedBits_B28
  refine j_iinc (pc := 28) (n0 := 2) (v0 := v2 + 1) (lv2 := [(2, .int (v2 + 1)), (0, .ref (mB Γ + r0)), (1, .int v1)]) dX1_crackedBits_28 rfl rfl (by decide) rfl ?_
  refine j_goto (pc := 31) 4 dX1_crackedBits_31 (by decide) ?_
  exact J.sub [1, 2, 0] rfl (hL4 r0 v1 (v2 + 1) z)
theorem j_X1_crackedBits_L4 {l : Launch} {Γ : Am}   : ∀ (f : Nat), ∀ (r0 : Nat) (v1 : Int32) (v2 : Int32) (z : Hp), J l Γ mi_X1_crackedBits cvI 0 0 4 [(0, .ref (mB Γ + r0)), (1, .int v1), (2, .int v2)] [] z (m_X1_crackedBits_L4  f r0 v1 v2 z) := by
  intro f
  induction f with
  | zero => intro r0 v1 v2 z; exact J.none
  | succ f hL4 =>
    intro r0 v1 v2 z
    rw [m_X1_crackedBits_L4]
    refine j_iload_n (pc := 4) 2 dX1_crackedBits_4 rfl rfl ?_
    refine j_aload_n (pc := 5) 0 dX1_crackedBits_5 rfl rfl ?_
    refine j_getI (pc := 6) ok_X1 (by decide) rfl w_231 dX1_crackedBits_6 (fun x1 => ?_)
    refine j_icmp_ge (pc := 9) 34 dX1_crackedBits_9 (by decide) ?_ ?_
    · refine j_iload_n (pc := 34) 1 dX1_crackedBits_34 rfl rfl ?_
      exact j_ireturn (pc := 35) dX1_crackedBits_35 rfl rfl
    refine j_aload_n (pc := 12) 0 dX1_crackedBits_12 rfl rfl ?_
    refine j_getR (pc := 13) ok_X1 (by decide) rfl w_229 dX1_crackedBits_13 (fun a2 => ?_)
    refine j_iload_n (pc := 16) 2 dX1_crackedBits_16 rfl rfl ?_
    refine j_iaload (pc := 17) dX1_crackedBits_17 (fun x3 => ?_)
    refine j_iconst (pc := 18) (v := (-1)) dX1_crackedBits_18 (by decide) ?_
    refine j_icmp_eq (pc := 19) 28 dX1_crackedBits_19 (by decide) ?_ ?_
    · exact J.sub [0, 1, 2] rfl ((j_X1_crackedBits_B28 hL4) r0 v1 v2 z)
    refine j_iload_n (pc := 22) 1 dX1_crackedBits_22 rfl rfl ?_
    refine j_iconst (pc := 23) (v := 1) dX1_crackedBits_23 (by decide) ?_
    refine j_iload_n (pc := 24) 2 dX1_crackedBits_24 rfl rfl ?_
    refine j_ishl (pc := 25) dX1_crackedBits_25 ?_
    refine j_ior (pc := 26) dX1_crackedBits_26 ?_
    refine j_istore_n (pc := 27) (lv2 := [(1, .int (v1 ||| ((1 : Int32) <<< (v2 &&& 31)))), (0, .ref (mB Γ + r0)), (2, .int v2)]) dX1_crackedBits_27 rfl (by decide) rfl ?_
    exact J.sub [1, 0, 2] rfl ((j_X1_crackedBits_B28 hL4) r0 (v1 ||| ((1 : Int32) <<< (v2 &&& 31))) v2 z)
theorem ct_X1_crackedBits {l : Launch} {Γ : Am} (r0 : Nat) (z : Hp) : Ct l Γ yX1_crackedBits mi_X1_crackedBits cvI [.ref (mB Γ + r0)] z (m_X1_crackedBits r0 z) := by
  refine Ct.ofJ (by decide) ⟨rfl, rfl⟩ (Nat.le_of_ble_eq_true rfl) ?_
  unfold m_X1_crackedBits
  show J l Γ mi_X1_crackedBits cvI 0 0 0 [(0, .ref (mB Γ + r0))] [] z _
  refine j_iconst (pc := 0) (v := 0) dX1_crackedBits_0 (by decide) ?_
  refine j_istore_n (pc := 1) (lv2 := [(1, .int 0), (0, .ref (mB Γ + r0))]) dX1_crackedBits_1 rfl (by decide) rfl ?_
  refine j_iconst (pc := 2) (v := 0) dX1_crackedBits_2 (by decide) ?_
  refine j_istore_n (pc := 3) (lv2 := [(2, .int 0), (1, .int 0), (0, .ref (mB Γ + r0))]) dX1_crackedBits_3 rfl (by decide) rfl ?_
  exact J.sub [2, 1, 0] rfl ((j_X1_crackedBits_L4 FU) r0 0 0 z)
theorem dX1_tell_0 : decode cX1_tell 0 = .ok (.iload_n 1, 1) := by decide +kernel
theorem dX1_tell_1 : decode cX1_tell 1 = .ok (.ifCond .lt 11, 3) := by decide +kernel
theorem dX1_tell_4 : decode cX1_tell 4 = .ok (.iload_n 1, 1) := by decide +kernel
theorem dX1_tell_5 : decode cX1_tell 5 = .ok (.aload_n 0, 1) := by decide +kernel
theorem dX1_tell_6 : decode cX1_tell 6 = .ok (.getfield 21, 3) := by decide +kernel
theorem dX1_tell_9 : decode cX1_tell 9 = .ok (.if_icmp .lt 6, 3) := by decide +kernel
theorem dX1_tell_12 : decode cX1_tell 12 = .ok (.ldc 25, 2) := by decide +kernel
theorem dX1_tell_14 : decode cX1_tell 14 = .ok (.ireturn, 1) := by decide +kernel
theorem dX1_tell_15 : decode cX1_tell 15 = .ok (.iload_n 2, 1) := by decide +kernel
theorem dX1_tell_16 : decode cX1_tell 16 = .ok (.tableswitch 49 0 2 #[28, 35, 42], 28) := by decide +kernel
theorem dX1_tell_44 : decode cX1_tell 44 = .ok (.aload_n 0, 1) := by decide +kernel
theorem dX1_tell_45 : decode cX1_tell 45 = .ok (.getfield 9, 3) := by decide +kernel
theorem dX1_tell_48 : decode cX1_tell 48 = .ok (.iload_n 1, 1) := by decide +kernel
theorem dX1_tell_49 : decode cX1_tell 49 = .ok (.iaload, 1) := by decide +kernel
theorem dX1_tell_50 : decode cX1_tell 50 = .ok (.ireturn, 1) := by decide +kernel
theorem dX1_tell_51 : decode cX1_tell 51 = .ok (.aload_n 0, 1) := by decide +kernel
theorem dX1_tell_52 : decode cX1_tell 52 = .ok (.getfield 15, 3) := by decide +kernel
theorem dX1_tell_55 : decode cX1_tell 55 = .ok (.iload_n 1, 1) := by decide +kernel
theorem dX1_tell_56 : decode cX1_tell 56 = .ok (.iaload, 1) := by decide +kernel
theorem dX1_tell_57 : decode cX1_tell 57 = .ok (.ireturn, 1) := by decide +kernel
theorem dX1_tell_58 : decode cX1_tell 58 = .ok (.aload_n 0, 1) := by decide +kernel
theorem dX1_tell_59 : decode cX1_tell 59 = .ok (.getfield 18, 3) := by decide +kernel
theorem dX1_tell_62 : decode cX1_tell 62 = .ok (.iload_n 1, 1) := by decide +kernel
theorem dX1_tell_63 : decode cX1_tell 63 = .ok (.iaload, 1) := by decide +kernel
theorem dX1_tell_64 : decode cX1_tell 64 = .ok (.ireturn, 1) := by decide +kernel
theorem dX1_tell_65 : decode cX1_tell 65 = .ok (.ldc 25, 2) := by decide +kernel
theorem dX1_tell_67 : decode cX1_tell 67 = .ok (.ireturn, 1) := by decide +kernel
theorem ct_X1_tell {l : Launch} {Γ : Am} (r0 : Nat) (v1 : Int32) (v2 : Int32) (z : Hp) : Ct l Γ yX1_tell mi_X1_tell cvI [.ref (mB Γ + r0), .int v1, .int v2] z (m_X1_tell r0 v1 v2 z) := by
  refine Ct.ofJ (by decide) ⟨rfl, rfl⟩ (Nat.le_of_ble_eq_true rfl) ?_
  unfold m_X1_tell
  show J l Γ mi_X1_tell cvI 0 0 0 [(0, .ref (mB Γ + r0)), (1, .int v1), (2, .int v2)] [] z _
  refine j_iload_n (pc := 0) 1 dX1_tell_0 rfl rfl ?_
  refine j_if_lt (pc := 1) 12 dX1_tell_1 (by decide) ?_ ?_
  · refine j_ldc (pc := 12) (v := (-2000000000)) dX1_tell_12 w_1047 ?_
    exact j_ireturn (pc := 14) dX1_tell_14 rfl rfl
  refine j_iload_n (pc := 4) 1 dX1_tell_4 rfl rfl ?_
  refine j_aload_n (pc := 5) 0 dX1_tell_5 rfl rfl ?_
  refine j_getI (pc := 6) ok_X1 (by decide) rfl w_231 dX1_tell_6 (fun x1 => ?_)
  refine j_icmp_lt (pc := 9) 15 dX1_tell_9 (by decide) ?_ ?_
  · refine j_iload_n (pc := 15) 2 dX1_tell_15 rfl rfl ?_
    refine j_ite (fun h4 => ?_) (fun h4 => ?_)
    · refine j_case (pc := 16) 44 dX1_tell_16 h4 (by decide) rfl (by decide) ?_
      refine j_aload_n (pc := 44) 0 dX1_tell_44 rfl rfl ?_
      refine j_getR (pc := 45) ok_X1 (by decide) rfl w_225 dX1_tell_45 (fun a2 => ?_)
      refine j_iload_n (pc := 48) 1 dX1_tell_48 rfl rfl ?_
      refine j_iaload (pc := 49) dX1_tell_49 (fun x3 => ?_)
      exact j_ireturn (pc := 50) dX1_tell_50 rfl rfl
    refine j_ite (fun h7 => ?_) (fun h7 => ?_)
    · refine j_case (pc := 16) 51 dX1_tell_16 h7 (by decide) rfl (by decide) ?_
      refine j_aload_n (pc := 51) 0 dX1_tell_51 rfl rfl ?_
      refine j_getR (pc := 52) ok_X1 (by decide) rfl w_227 dX1_tell_52 (fun a5 => ?_)
      refine j_iload_n (pc := 55) 1 dX1_tell_55 rfl rfl ?_
      refine j_iaload (pc := 56) dX1_tell_56 (fun x6 => ?_)
      exact j_ireturn (pc := 57) dX1_tell_57 rfl rfl
    refine j_ite (fun h10 => ?_) (fun h10 => ?_)
    · refine j_case (pc := 16) 58 dX1_tell_16 h10 (by decide) rfl (by decide) ?_
      refine j_aload_n (pc := 58) 0 dX1_tell_58 rfl rfl ?_
      refine j_getR (pc := 59) ok_X1 (by decide) rfl w_229 dX1_tell_59 (fun a8 => ?_)
      refine j_iload_n (pc := 62) 1 dX1_tell_62 rfl rfl ?_
      refine j_iaload (pc := 63) dX1_tell_63 (fun x9 => ?_)
      exact j_ireturn (pc := 64) dX1_tell_64 rfl rfl
    refine j_dflt (pc := 16) 65 dX1_tell_16 (sw_out 3 (by decide) (fun k hk => ?_)) (by decide) ?_
    · match k, hk with
      | 0, _ => exact h4
      | 1, _ => exact h7
      | 2, _ => exact h10
      | k + 3, hk => exact absurd hk (by omega)
    refine j_ldc (pc := 65) (v := (-2000000000)) dX1_tell_65 w_1047 ?_
    exact j_ireturn (pc := 67) dX1_tell_67 rfl rfl
  refine j_ldc (pc := 12) (v := (-2000000000)) dX1_tell_12 w_1047 ?_
  exact j_ireturn (pc := 14) dX1_tell_14 rfl rfl
theorem dX1_copyFrom_0 : decode cX1_copyFrom 0 = .ok (.aload_n 1, 1) := by decide +kernel
theorem dX1_copyFrom_1 : decode cX1_copyFrom 1 = .ok (.getfield 9, 3) := by decide +kernel
theorem dX1_copyFrom_4 : decode cX1_copyFrom 4 = .ok (.iconst 0, 1) := by decide +kernel
theorem dX1_copyFrom_5 : decode cX1_copyFrom 5 = .ok (.aload_n 0, 1) := by decide +kernel
theorem dX1_copyFrom_6 : decode cX1_copyFrom 6 = .ok (.getfield 9, 3) := by decide +kernel
theorem dX1_copyFrom_9 : decode cX1_copyFrom 9 = .ok (.iconst 0, 1) := by decide +kernel
theorem dX1_copyFrom_10 : decode cX1_copyFrom 10 = .ok (.bipush 6, 2) := by decide +kernel
theorem dX1_copyFrom_12 : decode cX1_copyFrom 12 = .ok (.invokestatic 26, 3) := by decide +kernel
theorem dX1_copyFrom_15 : decode cX1_copyFrom 15 = .ok (.aload_n 1, 1) := by decide +kernel
theorem dX1_copyFrom_16 : decode cX1_copyFrom 16 = .ok (.getfield 15, 3) := by decide +kernel
theorem dX1_copyFrom_19 : decode cX1_copyFrom 19 = .ok (.iconst 0, 1) := by decide +kernel
theorem dX1_copyFrom_20 : decode cX1_copyFrom 20 = .ok (.aload_n 0, 1) := by decide +kernel
theorem dX1_copyFrom_21 : decode cX1_copyFrom 21 = .ok (.getfield 15, 3) := by decide +kernel
theorem dX1_copyFrom_24 : decode cX1_copyFrom 24 = .ok (.iconst 0, 1) := by decide +kernel
theorem dX1_copyFrom_25 : decode cX1_copyFrom 25 = .ok (.bipush 6, 2) := by decide +kernel
theorem dX1_copyFrom_27 : decode cX1_copyFrom 27 = .ok (.invokestatic 26, 3) := by decide +kernel
theorem dX1_copyFrom_30 : decode cX1_copyFrom 30 = .ok (.aload_n 1, 1) := by decide +kernel
theorem dX1_copyFrom_31 : decode cX1_copyFrom 31 = .ok (.getfield 18, 3) := by decide +kernel
theorem dX1_copyFrom_34 : decode cX1_copyFrom 34 = .ok (.iconst 0, 1) := by decide +kernel
theorem dX1_copyFrom_35 : decode cX1_copyFrom 35 = .ok (.aload_n 0, 1) := by decide +kernel
theorem dX1_copyFrom_36 : decode cX1_copyFrom 36 = .ok (.getfield 18, 3) := by decide +kernel
theorem dX1_copyFrom_39 : decode cX1_copyFrom 39 = .ok (.iconst 0, 1) := by decide +kernel
theorem dX1_copyFrom_40 : decode cX1_copyFrom 40 = .ok (.bipush 6, 2) := by decide +kernel
theorem dX1_copyFrom_42 : decode cX1_copyFrom 42 = .ok (.invokestatic 26, 3) := by decide +kernel
theorem dX1_copyFrom_45 : decode cX1_copyFrom 45 = .ok (.aload_n 0, 1) := by decide +kernel
theorem dX1_copyFrom_46 : decode cX1_copyFrom 46 = .ok (.aload_n 1, 1) := by decide +kernel
theorem dX1_copyFrom_47 : decode cX1_copyFrom 47 = .ok (.getfield 21, 3) := by decide +kernel
theorem dX1_copyFrom_50 : decode cX1_copyFrom 50 = .ok (.putfield 21, 3) := by decide +kernel
theorem dX1_copyFrom_53 : decode cX1_copyFrom 53 = .ok (.return_, 1) := by decide +kernel
theorem ct_X1_copyFrom {l : Launch} {Γ : Am} (r0 : Nat) (r1 : Nat) (z : Hp) : Ct l Γ yX1_copyFrom mi_X1_copyFrom cvV [.ref (mB Γ + r0), .ref (mB Γ + r1)] z (m_X1_copyFrom r0 r1 z) := by
  refine Ct.ofJ (by decide) ⟨rfl, rfl⟩ (Nat.le_of_ble_eq_true rfl) ?_
  unfold m_X1_copyFrom
  show J l Γ mi_X1_copyFrom cvV 0 0 0 [(0, .ref (mB Γ + r0)), (1, .ref (mB Γ + r1))] [] z _
  refine j_aload_n (pc := 0) 1 dX1_copyFrom_0 rfl rfl ?_
  refine j_getR (pc := 1) ok_X1 (by decide) rfl w_225 dX1_copyFrom_1 (fun a1 => ?_)
  refine j_iconst (pc := 4) (v := 0) dX1_copyFrom_4 (by decide) ?_
  refine j_aload_n (pc := 5) 0 dX1_copyFrom_5 rfl rfl ?_
  refine j_getR (pc := 6) ok_X1 (by decide) rfl w_225 dX1_copyFrom_6 (fun a2 => ?_)
  refine j_iconst (pc := 9) (v := 0) dX1_copyFrom_9 (by decide) ?_
  refine j_bipush (pc := 10) (v := 6) dX1_copyFrom_10 (by decide) ?_
  refine j_arraycopy1 (pc := 12) ⟨w_1072, w_1062, w_1061, w_114⟩ (by decide) (by decide) dX1_copyFrom_12 (fun z3 => ?_)
  refine j_aload_n (pc := 15) 1 dX1_copyFrom_15 rfl rfl ?_
  refine j_getR (pc := 16) ok_X1 (by decide) rfl w_227 dX1_copyFrom_16 (fun a4 => ?_)
  refine j_iconst (pc := 19) (v := 0) dX1_copyFrom_19 (by decide) ?_
  refine j_aload_n (pc := 20) 0 dX1_copyFrom_20 rfl rfl ?_
  refine j_getR (pc := 21) ok_X1 (by decide) rfl w_227 dX1_copyFrom_21 (fun a5 => ?_)
  refine j_iconst (pc := 24) (v := 0) dX1_copyFrom_24 (by decide) ?_
  refine j_bipush (pc := 25) (v := 6) dX1_copyFrom_25 (by decide) ?_
  refine j_arraycopy1 (pc := 27) ⟨w_1072, w_1062, w_1061, w_114⟩ (by decide) (by decide) dX1_copyFrom_27 (fun z6 => ?_)
  refine j_aload_n (pc := 30) 1 dX1_copyFrom_30 rfl rfl ?_
  refine j_getR (pc := 31) ok_X1 (by decide) rfl w_229 dX1_copyFrom_31 (fun a7 => ?_)
  refine j_iconst (pc := 34) (v := 0) dX1_copyFrom_34 (by decide) ?_
  refine j_aload_n (pc := 35) 0 dX1_copyFrom_35 rfl rfl ?_
  refine j_getR (pc := 36) ok_X1 (by decide) rfl w_229 dX1_copyFrom_36 (fun a8 => ?_)
  refine j_iconst (pc := 39) (v := 0) dX1_copyFrom_39 (by decide) ?_
  refine j_bipush (pc := 40) (v := 6) dX1_copyFrom_40 (by decide) ?_
  refine j_arraycopy1 (pc := 42) ⟨w_1072, w_1062, w_1061, w_114⟩ (by decide) (by decide) dX1_copyFrom_42 (fun z9 => ?_)
  refine j_aload_n (pc := 45) 0 dX1_copyFrom_45 rfl rfl ?_
  refine j_aload_n (pc := 46) 1 dX1_copyFrom_46 rfl rfl ?_
  refine j_getI (pc := 47) ok_X1 (by decide) rfl w_231 dX1_copyFrom_47 (fun x10 => ?_)
  refine j_putI (pc := 50) ok_X1 (by decide) rfl w_231 (Or.inl rfl) rfl rfl dX1_copyFrom_50 (fun z11 => ?_)
  exact j_return (pc := 53) dX1_copyFrom_53 rfl
theorem dX2_init_0 : decode cX2_init 0 = .ok (.aload_n 0, 1) := by decide +kernel
theorem dX2_init_1 : decode cX2_init 1 = .ok (.invokespecial 3, 3) := by decide +kernel
theorem dX2_init_4 : decode cX2_init 4 = .ok (.aload_n 0, 1) := by decide +kernel
theorem dX2_init_5 : decode cX2_init 5 = .ok (.iconst 4, 1) := by decide +kernel
theorem dX2_init_6 : decode cX2_init 6 = .ok (.newarray .int, 2) := by decide +kernel
theorem dX2_init_8 : decode cX2_init 8 = .ok (.putfield 9, 3) := by decide +kernel
theorem dX2_init_11 : decode cX2_init 11 = .ok (.aload_n 0, 1) := by decide +kernel
theorem dX2_init_12 : decode cX2_init 12 = .ok (.iconst 0, 1) := by decide +kernel
theorem dX2_init_13 : decode cX2_init 13 = .ok (.putfield 15, 3) := by decide +kernel
theorem dX2_init_16 : decode cX2_init 16 = .ok (.aload_n 0, 1) := by decide +kernel
theorem dX2_init_17 : decode cX2_init 17 = .ok (.iconst 0, 1) := by decide +kernel
theorem dX2_init_18 : decode cX2_init 18 = .ok (.putfield 19, 3) := by decide +kernel
theorem dX2_init_21 : decode cX2_init 21 = .ok (.aload_n 0, 1) := by decide +kernel
theorem dX2_init_22 : decode cX2_init 22 = .ok (.iconst 0, 1) := by decide +kernel
theorem dX2_init_23 : decode cX2_init 23 = .ok (.putfield 22, 3) := by decide +kernel
theorem dX2_init_26 : decode cX2_init 26 = .ok (.aload_n 0, 1) := by decide +kernel
theorem dX2_init_27 : decode cX2_init 27 = .ok (.iconst 0, 1) := by decide +kernel
theorem dX2_init_28 : decode cX2_init 28 = .ok (.putfield 25, 3) := by decide +kernel
theorem dX2_init_31 : decode cX2_init 31 = .ok (.aload_n 0, 1) := by decide +kernel
theorem dX2_init_32 : decode cX2_init 32 = .ok (.iconst (-1), 1) := by decide +kernel
theorem dX2_init_33 : decode cX2_init 33 = .ok (.putfield 28, 3) := by decide +kernel
theorem dX2_init_36 : decode cX2_init 36 = .ok (.aload_n 0, 1) := by decide +kernel
theorem dX2_init_37 : decode cX2_init 37 = .ok (.aload_n 1, 1) := by decide +kernel
theorem dX2_init_38 : decode cX2_init 38 = .ok (.putfield 31, 3) := by decide +kernel
theorem dX2_init_41 : decode cX2_init 41 = .ok (.aload_n 0, 1) := by decide +kernel
theorem dX2_init_42 : decode cX2_init 42 = .ok (.aload_n 2, 1) := by decide +kernel
theorem dX2_init_43 : decode cX2_init 43 = .ok (.putfield 35, 3) := by decide +kernel
theorem dX2_init_46 : decode cX2_init 46 = .ok (.return_, 1) := by decide +kernel
theorem ct_X2_init {l : Launch} {Γ : Am} (r0 : Nat) (r1 : Nat) (r2 : Nat) (z : Hp) : Ct l Γ yX2_init mi_X2_init cvV [.ref (mB Γ + r0), .ref (mB Γ + r1), .ref (mB Γ + r2)] z (m_X2_init r0 r1 r2 z) := by
  refine Ct.ofJ (by decide) ⟨rfl, rfl⟩ (Nat.le_of_ble_eq_true rfl) ?_
  unfold m_X2_init
  show J l Γ mi_X2_init cvV 1 4 0 [(0, .ref (mB Γ + r0)), (1, .ref (mB Γ + r1)), (2, .ref (mB Γ + r2))] [] z _
  refine j_aload_n (pc := 0) 0 dX2_init_0 rfl rfl ?_
  refine j_objInit (pc := 1) w_410 w_122 w_123 dX2_init_1 (by decide) (by decide) ?_
  refine j_aload_n (pc := 4) 0 dX2_init_4 rfl rfl ?_
  refine j_iconst (pc := 5) (v := 4) dX2_init_5 (by decide) ?_
  refine j_newarr1 (pc := 6) (n0 := 4) (mc2 := 0) (ms2 := 0) w_177 dX2_init_6 (by decide) (by decide) (by decide) (by decide) (by decide) (fun a1 z2 => ?_)
  refine j_putR (pc := 8) ok_X2 (by decide) rfl w_412 (Or.inr ⟨rfl, rfl, rfl⟩) rfl rfl dX2_init_8 (fun z3 => ?_)
  refine j_aload_n (pc := 11) 0 dX2_init_11 rfl rfl ?_
  refine j_iconst (pc := 12) (v := 0) dX2_init_12 (by decide) ?_
  refine j_putI (pc := 13) ok_X2 (by decide) rfl w_414 (Or.inl rfl) rfl rfl dX2_init_13 (fun z4 => ?_)
  refine j_aload_n (pc := 16) 0 dX2_init_16 rfl rfl ?_
  refine j_iconst (pc := 17) (v := 0) dX2_init_17 (by decide) ?_
  refine j_putI (pc := 18) ok_X2 (by decide) rfl w_415 (Or.inl rfl) rfl rfl dX2_init_18 (fun z5 => ?_)
  refine j_aload_n (pc := 21) 0 dX2_init_21 rfl rfl ?_
  refine j_iconst (pc := 22) (v := 0) dX2_init_22 (by decide) ?_
  refine j_putI (pc := 23) ok_X2 (by decide) rfl w_416 (Or.inl rfl) rfl rfl dX2_init_23 (fun z6 => ?_)
  refine j_aload_n (pc := 26) 0 dX2_init_26 rfl rfl ?_
  refine j_iconst (pc := 27) (v := 0) dX2_init_27 (by decide) ?_
  refine j_putI (pc := 28) ok_X2 (by decide) rfl w_417 (Or.inl rfl) rfl rfl dX2_init_28 (fun z7 => ?_)
  refine j_aload_n (pc := 31) 0 dX2_init_31 rfl rfl ?_
  refine j_iconst (pc := 32) (v := (-1)) dX2_init_32 (by decide) ?_
  refine j_putI (pc := 33) ok_X2 (by decide) rfl w_419 (Or.inl rfl) rfl rfl dX2_init_33 (fun z8 => ?_)
  refine j_aload_n (pc := 36) 0 dX2_init_36 rfl rfl ?_
  refine j_aload_n (pc := 37) 1 dX2_init_37 rfl rfl ?_
  refine j_putR (pc := 38) ok_X2 (by decide) rfl w_411 (Or.inr ⟨rfl, rfl, rfl⟩) rfl rfl dX2_init_38 (fun z9 => ?_)
  refine j_aload_n (pc := 41) 0 dX2_init_41 rfl rfl ?_
  refine j_aload_n (pc := 42) 2 dX2_init_42 rfl rfl ?_
  refine j_putR (pc := 43) ok_X2 (by decide) rfl w_413 (Or.inl rfl) rfl rfl dX2_init_43 (fun z10 => ?_)
  exact j_return (pc := 46) dX2_init_46 rfl
theorem dJ7_fill_53178_0 : decode cJ7_fill_53178 0 = .ok (.iconst 0, 1) := by decide +kernel
theorem dJ7_fill_53178_1 : decode cJ7_fill_53178 1 = .ok (.istore_n 2, 1) := by decide +kernel
theorem dJ7_fill_53178_2 : decode cJ7_fill_53178 2 = .ok (.aload_n 0, 1) := by decide +kernel
theorem dJ7_fill_53178_3 : decode cJ7_fill_53178 3 = .ok (.arraylength, 1) := by decide +kernel
theorem dJ7_fill_53178_4 : decode cJ7_fill_53178 4 = .ok (.istore_n 3, 1) := by decide +kernel
theorem dJ7_fill_53178_5 : decode cJ7_fill_53178 5 = .ok (.iload_n 2, 1) := by decide +kernel
theorem dJ7_fill_53178_6 : decode cJ7_fill_53178 6 = .ok (.iload_n 3, 1) := by decide +kernel
theorem dJ7_fill_53178_7 : decode cJ7_fill_53178 7 = .ok (.if_icmp .ge 13, 3) := by decide +kernel
theorem dJ7_fill_53178_10 : decode cJ7_fill_53178 10 = .ok (.aload_n 0, 1) := by decide +kernel
theorem dJ7_fill_53178_11 : decode cJ7_fill_53178 11 = .ok (.iload_n 2, 1) := by decide +kernel
theorem dJ7_fill_53178_12 : decode cJ7_fill_53178 12 = .ok (.iload_n 1, 1) := by decide +kernel
theorem dJ7_fill_53178_13 : decode cJ7_fill_53178 13 = .ok (.iastore, 1) := by decide +kernel
theorem dJ7_fill_53178_14 : decode cJ7_fill_53178 14 = .ok (.iinc 2 1, 3) := by decide +kernel
theorem dJ7_fill_53178_17 : decode cJ7_fill_53178 17 = .ok (.goto (-12), 3) := by decide +kernel
theorem dJ7_fill_53178_20 : decode cJ7_fill_53178 20 = .ok (.return_, 1) := by decide +kernel
theorem j_J7_fill_53178_L5 {l : Launch} {Γ : Am}   : ∀ (f : Nat), ∀ (r0 : Nat) (v1 : Int32) (v2 : Int32) (v3 : Int32) (z : Hp), J l Γ mi_J7_fill_53178 cvV 0 0 5 [(0, .ref (mB Γ + r0)), (1, .int v1), (2, .int v2), (3, .int v3)] [] z (m_J7_fill_53178_L5  f r0 v1 v2 v3 z) := by
  intro f
  induction f with
  | zero => intro r0 v1 v2 v3 z; exact J.none
  | succ f hL5 =>
    intro r0 v1 v2 v3 z
    rw [m_J7_fill_53178_L5]
    refine j_iload_n (pc := 5) 2 dJ7_fill_53178_5 rfl rfl ?_
    refine j_iload_n (pc := 6) 3 dJ7_fill_53178_6 rfl rfl ?_
    refine j_icmp_ge (pc := 7) 20 dJ7_fill_53178_7 (by decide) ?_ ?_
    · exact j_return (pc := 20) dJ7_fill_53178_20 rfl
    refine j_aload_n (pc := 10) 0 dJ7_fill_53178_10 rfl rfl ?_
    refine j_iload_n (pc := 11) 2 dJ7_fill_53178_11 rfl rfl ?_
    refine j_iload_n (pc := 12) 1 dJ7_fill_53178_12 rfl rfl ?_
    refine j_iastore (pc := 13) dJ7_fill_53178_13 (fun z1 => ?_)
    refine j_iinc (pc := 14) (n0 := 2) (v0 := v2 + 1) (lv2 := [(2, .int (v2 + 1)), (0, .ref (mB Γ + r0)), (1, .int v1), (3, .int v3)]) dJ7_fill_53178_14 rfl rfl (by decide) rfl ?_
    refine j_goto (pc := 17) 5 dJ7_fill_53178_17 (by decide) ?_
    exact J.sub [1, 2, 0, 3] rfl (hL5 r0 v1 (v2 + 1) v3 z1)
theorem ct_J7_fill_53178 {l : Launch} {Γ : Am} (r0 : Nat) (v1 : Int32) (z : Hp) : Ct l Γ yJ7_fill_53178 mi_J7_fill_53178 cvV [.ref (mB Γ + r0), .int v1] z (m_J7_fill_53178 r0 v1 z) := by
  refine Ct.ofJ (by decide +kernel) ⟨rfl, rfl⟩ (Nat.le_of_ble_eq_true rfl) ?_
  unfold m_J7_fill_53178
  show J l Γ mi_J7_fill_53178 cvV 0 0 0 [(0, .ref (mB Γ + r0)), (1, .int v1)] [] z _
  refine j_iconst (pc := 0) (v := 0) dJ7_fill_53178_0 (by decide) ?_
  refine j_istore_n (pc := 1) (lv2 := [(2, .int 0), (0, .ref (mB Γ + r0)), (1, .int v1)]) dJ7_fill_53178_1 rfl (by decide) rfl ?_
  refine j_aload_n (pc := 2) 1 dJ7_fill_53178_2 rfl rfl ?_
  refine j_alen1 (pc := 3) dJ7_fill_53178_3 (fun x2 => ?_)
  refine j_istore_n (pc := 4) (lv2 := [(3, .int x2), (2, .int 0), (0, .ref (mB Γ + r0)), (1, .int v1)]) dJ7_fill_53178_4 rfl (by decide) rfl ?_
  exact J.sub [2, 3, 1, 0] rfl ((j_J7_fill_53178_L5 FU) r0 v1 0 x2 z)
theorem dX7_forget_0 : decode cX7_forget 0 = .ok (.aload_n 0, 1) := by decide +kernel
theorem dX7_forget_1 : decode cX7_forget 1 = .ok (.getfield 9, 3) := by decide +kernel
theorem dX7_forget_4 : decode cX7_forget 4 = .ok (.bipush 10, 2) := by decide +kernel
theorem dX7_forget_6 : decode cX7_forget 6 = .ok (.invokestatic 34, 3) := by decide +kernel
theorem dX7_forget_9 : decode cX7_forget 9 = .ok (.aload_n 0, 1) := by decide +kernel
theorem dX7_forget_10 : decode cX7_forget 10 = .ok (.getfield 15, 3) := by decide +kernel
theorem dX7_forget_13 : decode cX7_forget 13 = .ok (.bipush 15, 2) := by decide +kernel
theorem dX7_forget_15 : decode cX7_forget 15 = .ok (.invokestatic 34, 3) := by decide +kernel
theorem dX7_forget_18 : decode cX7_forget 18 = .ok (.aload_n 0, 1) := by decide +kernel
theorem dX7_forget_19 : decode cX7_forget 19 = .ok (.getfield 18, 3) := by decide +kernel
theorem dX7_forget_22 : decode cX7_forget 22 = .ok (.bipush 100, 2) := by decide +kernel
theorem dX7_forget_24 : decode cX7_forget 24 = .ok (.invokestatic 34, 3) := by decide +kernel
theorem dX7_forget_27 : decode cX7_forget 27 = .ok (.aload_n 0, 1) := by decide +kernel
theorem dX7_forget_28 : decode cX7_forget 28 = .ok (.getfield 21, 3) := by decide +kernel
theorem dX7_forget_31 : decode cX7_forget 31 = .ok (.iconst 0, 1) := by decide +kernel
theorem dX7_forget_32 : decode cX7_forget 32 = .ok (.invokestatic 34, 3) := by decide +kernel
theorem dX7_forget_35 : decode cX7_forget 35 = .ok (.aload_n 0, 1) := by decide +kernel
theorem dX7_forget_36 : decode cX7_forget 36 = .ok (.getfield 24, 3) := by decide +kernel
theorem dX7_forget_39 : decode cX7_forget 39 = .ok (.iconst 0, 1) := by decide +kernel
theorem dX7_forget_40 : decode cX7_forget 40 = .ok (.invokestatic 34, 3) := by decide +kernel
theorem dX7_forget_43 : decode cX7_forget 43 = .ok (.aload_n 0, 1) := by decide +kernel
theorem dX7_forget_44 : decode cX7_forget 44 = .ok (.getfield 27, 3) := by decide +kernel
theorem dX7_forget_47 : decode cX7_forget 47 = .ok (.iconst (-1), 1) := by decide +kernel
theorem dX7_forget_48 : decode cX7_forget 48 = .ok (.invokestatic 34, 3) := by decide +kernel
theorem dX7_forget_51 : decode cX7_forget 51 = .ok (.aload_n 0, 1) := by decide +kernel
theorem dX7_forget_52 : decode cX7_forget 52 = .ok (.bipush 100, 2) := by decide +kernel
theorem dX7_forget_54 : decode cX7_forget 54 = .ok (.putfield 30, 3) := by decide +kernel
theorem dX7_forget_57 : decode cX7_forget 57 = .ok (.return_, 1) := by decide +kernel
theorem cw_X7_forget_34 : CwS mi_X7_forget mi_J7_fill_53178 yJ7_fill_53178 34 2 := ⟨⟨w_523, w_500, w_107, w_501⟩, ⟨by decide, by decide⟩, by decide +kernel, by decide, by decide⟩
theorem ct_X7_forget {l : Launch} {Γ : Am} (r0 : Nat) (z : Hp) : Ct l Γ yX7_forget mi_X7_forget cvV [.ref (mB Γ + r0)] z (m_X7_forget r0 z) := by
  refine Ct.ofJ (by decide) ⟨rfl, rfl⟩ (Nat.le_of_ble_eq_true rfl) ?_
  unfold m_X7_forget
  show J l Γ mi_X7_forget cvV 0 0 0 [(0, .ref (mB Γ + r0))] [] z _
  refine j_aload_n (pc := 0) 0 dX7_forget_0 rfl rfl ?_
  refine j_getR (pc := 1) ok_X7 (by decide) rfl w_136 dX7_forget_1 (fun a1 => ?_)
  refine j_bipush (pc := 4) (v := 10) dX7_forget_4 (by decide) ?_
  refine j_callS_V (pc := 6) (as := [.ref (mB Γ + a1), .int 10]) (mc2 := 0) (ms2 := 0) (ct_J7_fill_53178 _ _ _) cw_X7_forget_34 dX7_forget_6 (Nat.le_of_ble_eq_true rfl) rfl (by decide) (by decide) (fun _ z2 => ?_)
  refine j_aload_n (pc := 9) 0 dX7_forget_9 rfl rfl ?_
  refine j_getR (pc := 10) ok_X7 (by decide) rfl w_139 dX7_forget_10 (fun a3 => ?_)
  refine j_bipush (pc := 13) (v := 15) dX7_forget_13 (by decide) ?_
  refine j_callS_V (pc := 15) (as := [.ref (mB Γ + a3), .int 15]) (mc2 := 0) (ms2 := 0) (ct_J7_fill_53178 _ _ _) cw_X7_forget_34 dX7_forget_15 (Nat.le_of_ble_eq_true rfl) rfl (by decide) (by decide) (fun _ z4 => ?_)
  refine j_aload_n (pc := 18) 0 dX7_forget_18 rfl rfl ?_
  refine j_getR (pc := 19) ok_X7 (by decide) rfl w_142 dX7_forget_19 (fun a5 => ?_)
  refine j_bipush (pc := 22) (v := 100) dX7_forget_22 (by decide) ?_
  refine j_callS_V (pc := 24) (as := [.ref (mB Γ + a5), .int 100]) (mc2 := 0) (ms2 := 0) (ct_J7_fill_53178 _ _ _) cw_X7_forget_34 dX7_forget_24 (Nat.le_of_ble_eq_true rfl) rfl (by decide) (by decide) (fun _ z6 => ?_)
  refine j_aload_n (pc := 27) 0 dX7_forget_27 rfl rfl ?_
  refine j_getR (pc := 28) ok_X7 (by decide) rfl w_146 dX7_forget_28 (fun a7 => ?_)
  refine j_iconst (pc := 31) (v := 0) dX7_forget_31 (by decide) ?_
  refine j_callS_V (pc := 32) (as := [.ref (mB Γ + a7), .int 0]) (mc2 := 0) (ms2 := 0) (ct_J7_fill_53178 _ _ _) cw_X7_forget_34 dX7_forget_32 (Nat.le_of_ble_eq_true rfl) rfl (by decide) (by decide) (fun _ z8 => ?_)
  refine j_aload_n (pc := 35) 0 dX7_forget_35 rfl rfl ?_
  refine j_getR (pc := 36) ok_X7 (by decide) rfl w_149 dX7_forget_36 (fun a9 => ?_)
  refine j_iconst (pc := 39) (v := 0) dX7_forget_39 (by decide) ?_
  refine j_callS_V (pc := 40) (as := [.ref (mB Γ + a9), .int 0]) (mc2 := 0) (ms2 := 0) (ct_J7_fill_53178 _ _ _) cw_X7_forget_34 dX7_forget_40 (Nat.le_of_ble_eq_true rfl) rfl (by decide) (by decide) (fun _ z10 => ?_)
  refine j_aload_n (pc := 43) 0 dX7_forget_43 rfl rfl ?_
  refine j_getR (pc := 44) ok_X7 (by decide) rfl w_154 dX7_forget_44 (fun a11 => ?_)
  refine j_iconst (pc := 47) (v := (-1)) dX7_forget_47 (by decide) ?_
  refine j_callS_V (pc := 48) (as := [.ref (mB Γ + a11), .int (-1)]) (mc2 := 0) (ms2 := 0) (ct_J7_fill_53178 _ _ _) cw_X7_forget_34 dX7_forget_48 (Nat.le_of_ble_eq_true rfl) rfl (by decide) (by decide) (fun _ z12 => ?_)
  refine j_aload_n (pc := 51) 0 dX7_forget_51 rfl rfl ?_
  refine j_bipush (pc := 52) (v := 100) dX7_forget_52 (by decide) ?_
  refine j_putI (pc := 54) ok_X7 (by decide) rfl w_157 (Or.inl rfl) rfl rfl dX7_forget_54 (fun z13 => ?_)
  exact j_return (pc := 57) dX7_forget_57 rfl
theorem dX8_forget_0 : decode cX8_forget 0 = .ok (.aload_n 0, 1) := by decide +kernel
theorem dX8_forget_1 : decode cX8_forget 1 = .ok (.getfield 12, 3) := by decide +kernel
theorem dX8_forget_4 : decode cX8_forget 4 = .ok (.invokevirtual 85, 3) := by decide +kernel
theorem dX8_forget_7 : decode cX8_forget 7 = .ok (.aload_n 0, 1) := by decide +kernel
theorem dX8_forget_8 : decode cX8_forget 8 = .ok (.getfield 21, 3) := by decide +kernel
theorem dX8_forget_11 : decode cX8_forget 11 = .ok (.iconst 0, 1) := by decide +kernel
theorem dX8_forget_12 : decode cX8_forget 12 = .ok (.putfield 88, 3) := by decide +kernel
theorem dX8_forget_15 : decode cX8_forget 15 = .ok (.aload_n 0, 1) := by decide +kernel
theorem dX8_forget_16 : decode cX8_forget 16 = .ok (.getfield 28, 3) := by decide +kernel
theorem dX8_forget_19 : decode cX8_forget 19 = .ok (.iconst 0, 1) := by decide +kernel
theorem dX8_forget_20 : decode cX8_forget 20 = .ok (.putfield 91, 3) := by decide +kernel
theorem dX8_forget_23 : decode cX8_forget 23 = .ok (.aload_n 0, 1) := by decide +kernel
theorem dX8_forget_24 : decode cX8_forget 24 = .ok (.getfield 35, 3) := by decide +kernel
theorem dX8_forget_27 : decode cX8_forget 27 = .ok (.iconst 0, 1) := by decide +kernel
theorem dX8_forget_28 : decode cX8_forget 28 = .ok (.putfield 92, 3) := by decide +kernel
theorem dX8_forget_31 : decode cX8_forget 31 = .ok (.aload_n 0, 1) := by decide +kernel
theorem dX8_forget_32 : decode cX8_forget 32 = .ok (.getfield 56, 3) := by decide +kernel
theorem dX8_forget_35 : decode cX8_forget 35 = .ok (.iconst 0, 1) := by decide +kernel
theorem dX8_forget_36 : decode cX8_forget 36 = .ok (.invokestatic 93, 3) := by decide +kernel
theorem dX8_forget_39 : decode cX8_forget 39 = .ok (.aload_n 0, 1) := by decide +kernel
theorem dX8_forget_40 : decode cX8_forget 40 = .ok (.iconst 0, 1) := by decide +kernel
theorem dX8_forget_41 : decode cX8_forget 41 = .ok (.putfield 62, 3) := by decide +kernel
theorem dX8_forget_44 : decode cX8_forget 44 = .ok (.aload_n 0, 1) := by decide +kernel
theorem dX8_forget_45 : decode cX8_forget 45 = .ok (.ldc 69, 2) := by decide +kernel
theorem dX8_forget_47 : decode cX8_forget 47 = .ok (.putfield 70, 3) := by decide +kernel
theorem dX8_forget_50 : decode cX8_forget 50 = .ok (.aload_n 0, 1) := by decide +kernel
theorem dX8_forget_51 : decode cX8_forget 51 = .ok (.iconst 0, 1) := by decide +kernel
theorem dX8_forget_52 : decode cX8_forget 52 = .ok (.putfield 73, 3) := by decide +kernel
theorem dX8_forget_55 : decode cX8_forget 55 = .ok (.return_, 1) := by decide +kernel
theorem cw_X8_forget_85 : CwV mi_X8_forget mi_X7_forget yX7_forget RX7 85 0 := ⟨⟨w_519, w_520, w_521, w_97, w_522⟩, ⟨by decide, by decide⟩, by decide +kernel, by decide, by decide⟩
theorem cw_X8_forget_93 : CwS mi_X8_forget mi_J7_fill_53178 yJ7_fill_53178 93 2 := ⟨⟨w_524, w_500, w_107, w_501⟩, ⟨by decide, by decide⟩, by decide +kernel, by decide, by decide⟩
theorem ct_X8_forget {l : Launch} {Γ : Am} (r0 : Nat) (z : Hp) : Ct l Γ yX8_forget mi_X8_forget cvV [.ref (mB Γ + r0)] z (m_X8_forget r0 z) := by
  refine Ct.ofJ (by decide) ⟨rfl, rfl⟩ (Nat.le_of_ble_eq_true rfl) ?_
  unfold m_X8_forget
  show J l Γ mi_X8_forget cvV 0 0 0 [(0, .ref (mB Γ + r0))] [] z _
  refine j_aload_n (pc := 0) 0 dX8_forget_0 rfl rfl ?_
  refine j_getR (pc := 1) ok_X8 (by decide) rfl w_289 dX8_forget_1 (fun a1 => ?_)
  refine j_isC (fun h3 => ?_)
  refine j_callV_V (pc := 4) (as := []) (mc2 := 0) (ms2 := 0) (ct_X7_forget _ _) h3 rfl cw_X8_forget_85 dX8_forget_4 (Nat.le_of_ble_eq_true rfl) rfl (by decide) (by decide) (fun _ z2 => ?_)
  refine j_aload_n (pc := 7) 0 dX8_forget_7 rfl rfl ?_
  refine j_getR (pc := 8) ok_X8 (by decide) rfl w_293 dX8_forget_8 (fun a4 => ?_)
  refine j_iconst (pc := 11) (v := 0) dX8_forget_11 (by decide) ?_
  refine j_putI (pc := 12) ok_X3 (by decide) rfl w_200 (Or.inl rfl) rfl rfl dX8_forget_12 (fun z5 => ?_)
  refine j_aload_n (pc := 15) 0 dX8_forget_15 rfl rfl ?_
  refine j_getR (pc := 16) ok_X8 (by decide) rfl w_297 dX8_forget_16 (fun a6 => ?_)
  refine j_iconst (pc := 19) (v := 0) dX8_forget_19 (by decide) ?_
  refine j_putI (pc := 20) ok_X1 (by decide) rfl w_232 (Or.inl rfl) rfl rfl dX8_forget_20 (fun z7 => ?_)
  refine j_aload_n (pc := 23) 0 dX8_forget_23 rfl rfl ?_
  refine j_getR (pc := 24) ok_X8 (by decide) rfl w_300 dX8_forget_24 (fun a8 => ?_)
  refine j_iconst (pc := 27) (v := 0) dX8_forget_27 (by decide) ?_
  refine j_putI (pc := 28) ok_X5 (by decide) rfl w_257 (Or.inl rfl) rfl rfl dX8_forget_28 (fun z9 => ?_)
  refine j_aload_n (pc := 31) 0 dX8_forget_31 rfl rfl ?_
  refine j_getR (pc := 32) ok_X8 (by decide) rfl w_314 dX8_forget_32 (fun a10 => ?_)
  refine j_iconst (pc := 35) (v := 0) dX8_forget_35 (by decide) ?_
  refine j_callS_V (pc := 36) (as := [.ref (mB Γ + a10), .int 0]) (mc2 := 0) (ms2 := 0) (ct_J7_fill_53178 _ _ _) cw_X8_forget_93 dX8_forget_36 (Nat.le_of_ble_eq_true rfl) rfl (by decide) (by decide) (fun _ z11 => ?_)
  refine j_aload_n (pc := 39) 0 dX8_forget_39 rfl rfl ?_
  refine j_iconst (pc := 40) (v := 0) dX8_forget_40 (by decide) ?_
  refine j_putI (pc := 41) ok_X8 (by decide) rfl w_321 (Or.inl rfl) rfl rfl dX8_forget_41 (fun z12 => ?_)
  refine j_aload_n (pc := 44) 0 dX8_forget_44 rfl rfl ?_
  refine j_ldc (pc := 45) (v := 99999) dX8_forget_45 w_288 ?_
  refine j_putI (pc := 47) ok_X8 (by decide) rfl w_326 (Or.inl rfl) rfl rfl dX8_forget_47 (fun z13 => ?_)
  refine j_aload_n (pc := 50) 0 dX8_forget_50 rfl rfl ?_
  refine j_iconst (pc := 51) (v := 0) dX8_forget_51 (by decide) ?_
  refine j_putI (pc := 52) ok_X8 (by decide) rfl w_330 (Or.inl rfl) rfl rfl dX8_forget_52 (fun z14 => ?_)
  exact j_return (pc := 55) dX8_forget_55 rfl
theorem dX4_kindOf_0 : decode cX4_kindOf 0 = .ok (.iload_n 0, 1) := by decide +kernel
theorem dX4_kindOf_1 : decode cX4_kindOf 1 = .ok (.bipush 32, 2) := by decide +kernel
theorem dX4_kindOf_3 : decode cX4_kindOf 3 = .ok (.if_icmp .eq 9, 3) := by decide +kernel
theorem dX4_kindOf_6 : decode cX4_kindOf 6 = .ok (.iload_n 0, 1) := by decide +kernel
theorem dX4_kindOf_7 : decode cX4_kindOf 7 = .ok (.bipush 10, 2) := by decide +kernel
theorem dX4_kindOf_9 : decode cX4_kindOf 9 = .ok (.if_icmp .ne 5, 3) := by decide +kernel
theorem dX4_kindOf_12 : decode cX4_kindOf 12 = .ok (.iconst 4, 1) := by decide +kernel
theorem dX4_kindOf_13 : decode cX4_kindOf 13 = .ok (.ireturn, 1) := by decide +kernel
theorem dX4_kindOf_14 : decode cX4_kindOf 14 = .ok (.iload_n 0, 1) := by decide +kernel
theorem dX4_kindOf_15 : decode cX4_kindOf 15 = .ok (.bipush 97, 2) := by decide +kernel
theorem dX4_kindOf_17 : decode cX4_kindOf 17 = .ok (.if_icmp .lt 11, 3) := by decide +kernel
theorem dX4_kindOf_20 : decode cX4_kindOf 20 = .ok (.iload_n 0, 1) := by decide +kernel
theorem dX4_kindOf_21 : decode cX4_kindOf 21 = .ok (.bipush 122, 2) := by decide +kernel
theorem dX4_kindOf_23 : decode cX4_kindOf 23 = .ok (.if_icmp .gt 5, 3) := by decide +kernel
theorem dX4_kindOf_26 : decode cX4_kindOf 26 = .ok (.iconst 1, 1) := by decide +kernel
theorem dX4_kindOf_27 : decode cX4_kindOf 27 = .ok (.ireturn, 1) := by decide +kernel
theorem dX4_kindOf_28 : decode cX4_kindOf 28 = .ok (.iload_n 0, 1) := by decide +kernel
theorem dX4_kindOf_29 : decode cX4_kindOf 29 = .ok (.bipush 48, 2) := by decide +kernel
theorem dX4_kindOf_31 : decode cX4_kindOf 31 = .ok (.if_icmp .lt 11, 3) := by decide +kernel
theorem dX4_kindOf_34 : decode cX4_kindOf 34 = .ok (.iload_n 0, 1) := by decide +kernel
theorem dX4_kindOf_35 : decode cX4_kindOf 35 = .ok (.bipush 57, 2) := by decide +kernel
theorem dX4_kindOf_37 : decode cX4_kindOf 37 = .ok (.if_icmp .gt 5, 3) := by decide +kernel
theorem dX4_kindOf_40 : decode cX4_kindOf 40 = .ok (.iconst 2, 1) := by decide +kernel
theorem dX4_kindOf_41 : decode cX4_kindOf 41 = .ok (.ireturn, 1) := by decide +kernel
theorem dX4_kindOf_42 : decode cX4_kindOf 42 = .ok (.iload_n 0, 1) := by decide +kernel
theorem dX4_kindOf_43 : decode cX4_kindOf 43 = .ok (.bipush 60, 2) := by decide +kernel
theorem dX4_kindOf_45 : decode cX4_kindOf 45 = .ok (.if_icmp .eq 21, 3) := by decide +kernel
theorem dX4_kindOf_48 : decode cX4_kindOf 48 = .ok (.iload_n 0, 1) := by decide +kernel
theorem dX4_kindOf_49 : decode cX4_kindOf 49 = .ok (.bipush 62, 2) := by decide +kernel
theorem dX4_kindOf_51 : decode cX4_kindOf 51 = .ok (.if_icmp .eq 15, 3) := by decide +kernel
theorem dX4_kindOf_54 : decode cX4_kindOf 54 = .ok (.iload_n 0, 1) := by decide +kernel
theorem dX4_kindOf_55 : decode cX4_kindOf 55 = .ok (.bipush 45, 2) := by decide +kernel
theorem dX4_kindOf_57 : decode cX4_kindOf 57 = .ok (.if_icmp .eq 9, 3) := by decide +kernel
theorem dX4_kindOf_60 : decode cX4_kindOf 60 = .ok (.iload_n 0, 1) := by decide +kernel
theorem dX4_kindOf_61 : decode cX4_kindOf 61 = .ok (.bipush 59, 2) := by decide +kernel
theorem dX4_kindOf_63 : decode cX4_kindOf 63 = .ok (.if_icmp .ne 7, 3) := by decide +kernel
theorem dX4_kindOf_66 : decode cX4_kindOf 66 = .ok (.iconst 3, 1) := by decide +kernel
theorem dX4_kindOf_67 : decode cX4_kindOf 67 = .ok (.goto 4, 3) := by decide +kernel
theorem dX4_kindOf_70 : decode cX4_kindOf 70 = .ok (.iconst 5, 1) := by decide +kernel
theorem dX4_kindOf_71 : decode cX4_kindOf 71 = .ok (.ireturn, 1) := by decide +kernel
theorem j_X4_kindOf_B66 {l : Launch} {Γ : Am}   : ∀  (z : Hp), J l Γ mi_X4_kindOf cvI 0 0 66 [] [] z (m_X4_kindOf_B66   z) := by
  intro  z
  unfold m_X4_kindOf_B66
  refine j_iconst (pc := 66) (v := 3) dX4_kindOf_66 (by decide) ?_
  refine j_goto (pc := 67) 71 dX4_kindOf_67 (by decide) ?_
  exact j_ireturn (pc := 71) dX4_kindOf_71 rfl rfl
theorem j_X4_kindOf_B42 {l : Launch} {Γ : Am}   : ∀ (v0 : Int32) (z : Hp), J l Γ mi_X4_kindOf cvI 0 0 42 [(0, .int v0)] [] z (m_X4_kindOf_B42  v0 z) := by
  intro v0 z
  unfold m_X4_kindOf_B42
  refine j_iload_n (pc := 42) 0 dX4_kindOf_42 rfl rfl ?_
  refine j_bipush (pc := 43) (v := 60) dX4_kindOf_43 (by decide) ?_
  refine j_icmp_eq (pc := 45) 66 dX4_kindOf_45 (by decide) ?_ ?_
  · exact J.sub [] rfl (j_X4_kindOf_B66 z)
  refine j_iload_n (pc := 48) 0 dX4_kindOf_48 rfl rfl ?_
  refine j_bipush (pc := 49) (v := 62) dX4_kindOf_49 (by decide) ?_
  refine j_icmp_eq (pc := 51) 66 dX4_kindOf_51 (by decide) ?_ ?_
  · exact J.sub [] rfl (j_X4_kindOf_B66 z)
  refine j_iload_n (pc := 54) 0 dX4_kindOf_54 rfl rfl ?_
  refine j_bipush (pc := 55) (v := 45) dX4_kindOf_55 (by decide) ?_
  refine j_icmp_eq (pc := 57) 66 dX4_kindOf_57 (by decide) ?_ ?_
  · exact J.sub [] rfl (j_X4_kindOf_B66 z)
  refine j_iload_n (pc := 60) 0 dX4_kindOf_60 rfl rfl ?_
  refine j_bipush (pc := 61) (v := 59) dX4_kindOf_61 (by decide) ?_
  refine j_icmp_ne (pc := 63) 70 dX4_kindOf_63 (by decide) ?_ ?_
  · refine j_iconst (pc := 70) (v := 5) dX4_kindOf_70 (by decide) ?_
    exact j_ireturn (pc := 71) dX4_kindOf_71 rfl rfl
  exact J.sub [] rfl (j_X4_kindOf_B66 z)
theorem j_X4_kindOf_B28 {l : Launch} {Γ : Am}   : ∀ (v0 : Int32) (z : Hp), J l Γ mi_X4_kindOf cvI 0 0 28 [(0, .int v0)] [] z (m_X4_kindOf_B28  v0 z) := by
  intro v0 z
  unfold m_X4_kindOf_B28
  refine j_iload_n (pc := 28) 0 dX4_kindOf_28 rfl rfl ?_
  refine j_bipush (pc := 29) (v := 48) dX4_kindOf_29 (by decide) ?_
  refine j_icmp_lt (pc := 31) 42 dX4_kindOf_31 (by decide) ?_ ?_
  · exact J.sub [0] rfl (j_X4_kindOf_B42 v0 z)
  refine j_iload_n (pc := 34) 0 dX4_kindOf_34 rfl rfl ?_
  refine j_bipush (pc := 35) (v := 57) dX4_kindOf_35 (by decide) ?_
  refine j_icmp_gt (pc := 37) 42 dX4_kindOf_37 (by decide) ?_ ?_
  · exact J.sub [0] rfl (j_X4_kindOf_B42 v0 z)
  refine j_iconst (pc := 40) (v := 2) dX4_kindOf_40 (by decide) ?_
  exact j_ireturn (pc := 41) dX4_kindOf_41 rfl rfl
theorem ct_X4_kindOf {l : Launch} {Γ : Am} (v0 : Int32) (z : Hp) : Ct l Γ yX4_kindOf mi_X4_kindOf cvI [.int v0] z (m_X4_kindOf v0 z) := by
  refine Ct.ofJ (by decide) ⟨rfl, rfl⟩ (Nat.le_of_ble_eq_true rfl) ?_
  unfold m_X4_kindOf
  show J l Γ mi_X4_kindOf cvI 0 0 0 [(0, .int v0)] [] z _
  refine j_iload_n (pc := 0) 0 dX4_kindOf_0 rfl rfl ?_
  refine j_bipush (pc := 1) (v := 32) dX4_kindOf_1 (by decide) ?_
  refine j_icmp_eq (pc := 3) 12 dX4_kindOf_3 (by decide) ?_ ?_
  · refine j_iconst (pc := 12) (v := 4) dX4_kindOf_12 (by decide) ?_
    exact j_ireturn (pc := 13) dX4_kindOf_13 rfl rfl
  refine j_iload_n (pc := 6) 0 dX4_kindOf_6 rfl rfl ?_
  refine j_bipush (pc := 7) (v := 10) dX4_kindOf_7 (by decide) ?_
  refine j_icmp_ne (pc := 9) 14 dX4_kindOf_9 (by decide) ?_ ?_
  · refine j_iload_n (pc := 14) 0 dX4_kindOf_14 rfl rfl ?_
    refine j_bipush (pc := 15) (v := 97) dX4_kindOf_15 (by decide) ?_
    refine j_icmp_lt (pc := 17) 28 dX4_kindOf_17 (by decide) ?_ ?_
    · exact J.sub [0] rfl (j_X4_kindOf_B28 v0 z)
    refine j_iload_n (pc := 20) 0 dX4_kindOf_20 rfl rfl ?_
    refine j_bipush (pc := 21) (v := 122) dX4_kindOf_21 (by decide) ?_
    refine j_icmp_gt (pc := 23) 28 dX4_kindOf_23 (by decide) ?_ ?_
    · exact J.sub [0] rfl (j_X4_kindOf_B28 v0 z)
    refine j_iconst (pc := 26) (v := 1) dX4_kindOf_26 (by decide) ?_
    exact j_ireturn (pc := 27) dX4_kindOf_27 rfl rfl
  refine j_iconst (pc := 12) (v := 4) dX4_kindOf_12 (by decide) ?_
  exact j_ireturn (pc := 13) dX4_kindOf_13 rfl rfl
theorem dJ9_min_7cf53_0 : decode cJ9_min_7cf53 0 = .ok (.iload_n 0, 1) := by decide +kernel
theorem dJ9_min_7cf53_1 : decode cJ9_min_7cf53 1 = .ok (.iload_n 1, 1) := by decide +kernel
theorem dJ9_min_7cf53_2 : decode cJ9_min_7cf53 2 = .ok (.if_icmp .gt 7, 3) := by decide +kernel
theorem dJ9_min_7cf53_5 : decode cJ9_min_7cf53 5 = .ok (.iload_n 0, 1) := by decide +kernel
theorem dJ9_min_7cf53_6 : decode cJ9_min_7cf53 6 = .ok (.goto 4, 3) := by decide +kernel
theorem dJ9_min_7cf53_9 : decode cJ9_min_7cf53 9 = .ok (.iload_n 1, 1) := by decide +kernel
theorem dJ9_min_7cf53_10 : decode cJ9_min_7cf53 10 = .ok (.ireturn, 1) := by decide +kernel
theorem ct_J9_min_7cf53 {l : Launch} {Γ : Am} (v0 : Int32) (v1 : Int32) (z : Hp) : Ct l Γ yJ9_min_7cf53 mi_J9_min_7cf53 cvI [.int v0, .int v1] z (m_J9_min_7cf53 v0 v1 z) := by
  refine Ct.ofJ (by decide +kernel) ⟨rfl, rfl⟩ (Nat.le_of_ble_eq_true rfl) ?_
  unfold m_J9_min_7cf53
  show J l Γ mi_J9_min_7cf53 cvI 0 0 0 [(0, .int v0), (1, .int v1)] [] z _
  refine j_iload_n (pc := 0) 0 dJ9_min_7cf53_0 rfl rfl ?_
  refine j_iload_n (pc := 1) 1 dJ9_min_7cf53_1 rfl rfl ?_
  refine j_icmp_gt (pc := 2) 9 dJ9_min_7cf53_2 (by decide) ?_ ?_
  · refine j_iload_n (pc := 9) 1 dJ9_min_7cf53_9 rfl rfl ?_
    exact j_ireturn (pc := 10) dJ9_min_7cf53_10 rfl rfl
  refine j_iload_n (pc := 5) 0 dJ9_min_7cf53_5 rfl rfl ?_
  refine j_goto (pc := 6) 10 dJ9_min_7cf53_6 (by decide) ?_
  exact j_ireturn (pc := 10) dJ9_min_7cf53_10 rfl rfl
theorem dX4_advance_0 : decode cX4_advance 0 = .ok (.aload_n 0, 1) := by decide +kernel
theorem dX4_advance_1 : decode cX4_advance 1 = .ok (.getfield 19, 3) := by decide +kernel
theorem dX4_advance_4 : decode cX4_advance 4 = .ok (.aload_n 0, 1) := by decide +kernel
theorem dX4_advance_5 : decode cX4_advance 5 = .ok (.getfield 15, 3) := by decide +kernel
theorem dX4_advance_8 : decode cX4_advance 8 = .ok (.if_icmp .ge 32, 3) := by decide +kernel
theorem dX4_advance_11 : decode cX4_advance 11 = .ok (.aload_n 0, 1) := by decide +kernel
theorem dX4_advance_12 : decode cX4_advance 12 = .ok (.getfield 9, 3) := by decide +kernel
theorem dX4_advance_15 : decode cX4_advance 15 = .ok (.aload_n 0, 1) := by decide +kernel
theorem dX4_advance_16 : decode cX4_advance 16 = .ok (.getfield 19, 3) := by decide +kernel
theorem dX4_advance_19 : decode cX4_advance 19 = .ok (.iaload, 1) := by decide +kernel
theorem dX4_advance_20 : decode cX4_advance 20 = .ok (.invokestatic 34, 3) := by decide +kernel
theorem dX4_advance_23 : decode cX4_advance 23 = .ok (.iconst 4, 1) := by decide +kernel
theorem dX4_advance_24 : decode cX4_advance 24 = .ok (.if_icmp .ne 16, 3) := by decide +kernel
theorem dX4_advance_27 : decode cX4_advance 27 = .ok (.aload_n 0, 1) := by decide +kernel
theorem dX4_advance_28 : decode cX4_advance 28 = .ok (.dup, 1) := by decide +kernel
theorem dX4_advance_29 : decode cX4_advance 29 = .ok (.getfield 19, 3) := by decide +kernel
theorem dX4_advance_32 : decode cX4_advance 32 = .ok (.iconst 1, 1) := by decide +kernel
theorem dX4_advance_33 : decode cX4_advance 33 = .ok (.iadd, 1) := by decide +kernel
theorem dX4_advance_34 : decode cX4_advance 34 = .ok (.putfield 19, 3) := by decide +kernel
theorem dX4_advance_37 : decode cX4_advance 37 = .ok (.goto (-37), 3) := by decide +kernel
theorem dX4_advance_40 : decode cX4_advance 40 = .ok (.aload_n 0, 1) := by decide +kernel
theorem dX4_advance_41 : decode cX4_advance 41 = .ok (.aload_n 0, 1) := by decide +kernel
theorem dX4_advance_42 : decode cX4_advance 42 = .ok (.getfield 19, 3) := by decide +kernel
theorem dX4_advance_45 : decode cX4_advance 45 = .ok (.putfield 25, 3) := by decide +kernel
theorem dX4_advance_48 : decode cX4_advance 48 = .ok (.aload_n 0, 1) := by decide +kernel
theorem dX4_advance_49 : decode cX4_advance 49 = .ok (.iconst 0, 1) := by decide +kernel
theorem dX4_advance_50 : decode cX4_advance 50 = .ok (.putfield 28, 3) := by decide +kernel
theorem dX4_advance_53 : decode cX4_advance 53 = .ok (.aload_n 0, 1) := by decide +kernel
theorem dX4_advance_54 : decode cX4_advance 54 = .ok (.getfield 19, 3) := by decide +kernel
theorem dX4_advance_57 : decode cX4_advance 57 = .ok (.aload_n 0, 1) := by decide +kernel
theorem dX4_advance_58 : decode cX4_advance 58 = .ok (.getfield 15, 3) := by decide +kernel
theorem dX4_advance_61 : decode cX4_advance 61 = .ok (.if_icmp .lt 9, 3) := by decide +kernel
theorem dX4_advance_64 : decode cX4_advance 64 = .ok (.aload_n 0, 1) := by decide +kernel
theorem dX4_advance_65 : decode cX4_advance 65 = .ok (.iconst 0, 1) := by decide +kernel
theorem dX4_advance_66 : decode cX4_advance 66 = .ok (.putfield 22, 3) := by decide +kernel
theorem dX4_advance_69 : decode cX4_advance 69 = .ok (.return_, 1) := by decide +kernel
theorem dX4_advance_70 : decode cX4_advance 70 = .ok (.aload_n 0, 1) := by decide +kernel
theorem dX4_advance_71 : decode cX4_advance 71 = .ok (.aload_n 0, 1) := by decide +kernel
theorem dX4_advance_72 : decode cX4_advance 72 = .ok (.getfield 9, 3) := by decide +kernel
theorem dX4_advance_75 : decode cX4_advance 75 = .ok (.aload_n 0, 1) := by decide +kernel
theorem dX4_advance_76 : decode cX4_advance 76 = .ok (.getfield 19, 3) := by decide +kernel
theorem dX4_advance_79 : decode cX4_advance 79 = .ok (.iaload, 1) := by decide +kernel
theorem dX4_advance_80 : decode cX4_advance 80 = .ok (.invokestatic 34, 3) := by decide +kernel
theorem dX4_advance_83 : decode cX4_advance 83 = .ok (.putfield 22, 3) := by decide +kernel
theorem dX4_advance_86 : decode cX4_advance 86 = .ok (.aload_n 0, 1) := by decide +kernel
theorem dX4_advance_87 : decode cX4_advance 87 = .ok (.getfield 22, 3) := by decide +kernel
theorem dX4_advance_90 : decode cX4_advance 90 = .ok (.iconst 1, 1) := by decide +kernel
theorem dX4_advance_91 : decode cX4_advance 91 = .ok (.if_icmp .eq 35, 3) := by decide +kernel
theorem dX4_advance_94 : decode cX4_advance 94 = .ok (.aload_n 0, 1) := by decide +kernel
theorem dX4_advance_95 : decode cX4_advance 95 = .ok (.getfield 22, 3) := by decide +kernel
theorem dX4_advance_98 : decode cX4_advance 98 = .ok (.iconst 2, 1) := by decide +kernel
theorem dX4_advance_99 : decode cX4_advance 99 = .ok (.if_icmp .eq 27, 3) := by decide +kernel
theorem dX4_advance_102 : decode cX4_advance 102 = .ok (.aload_n 0, 1) := by decide +kernel
theorem dX4_advance_103 : decode cX4_advance 103 = .ok (.aload_n 0, 1) := by decide +kernel
theorem dX4_advance_104 : decode cX4_advance 104 = .ok (.getfield 9, 3) := by decide +kernel
theorem dX4_advance_107 : decode cX4_advance 107 = .ok (.aload_n 0, 1) := by decide +kernel
theorem dX4_advance_108 : decode cX4_advance 108 = .ok (.getfield 19, 3) := by decide +kernel
theorem dX4_advance_111 : decode cX4_advance 111 = .ok (.iaload, 1) := by decide +kernel
theorem dX4_advance_112 : decode cX4_advance 112 = .ok (.putfield 28, 3) := by decide +kernel
theorem dX4_advance_115 : decode cX4_advance 115 = .ok (.aload_n 0, 1) := by decide +kernel
theorem dX4_advance_116 : decode cX4_advance 116 = .ok (.dup, 1) := by decide +kernel
theorem dX4_advance_117 : decode cX4_advance 117 = .ok (.getfield 19, 3) := by decide +kernel
theorem dX4_advance_120 : decode cX4_advance 120 = .ok (.iconst 1, 1) := by decide +kernel
theorem dX4_advance_121 : decode cX4_advance 121 = .ok (.iadd, 1) := by decide +kernel
theorem dX4_advance_122 : decode cX4_advance 122 = .ok (.putfield 19, 3) := by decide +kernel
theorem dX4_advance_125 : decode cX4_advance 125 = .ok (.return_, 1) := by decide +kernel
theorem dX4_advance_126 : decode cX4_advance 126 = .ok (.aload_n 0, 1) := by decide +kernel
theorem dX4_advance_127 : decode cX4_advance 127 = .ok (.getfield 19, 3) := by decide +kernel
theorem dX4_advance_130 : decode cX4_advance 130 = .ok (.aload_n 0, 1) := by decide +kernel
theorem dX4_advance_131 : decode cX4_advance 131 = .ok (.getfield 15, 3) := by decide +kernel
theorem dX4_advance_134 : decode cX4_advance 134 = .ok (.if_icmp .ge 72, 3) := by decide +kernel
theorem dX4_advance_137 : decode cX4_advance 137 = .ok (.aload_n 0, 1) := by decide +kernel
theorem dX4_advance_138 : decode cX4_advance 138 = .ok (.getfield 9, 3) := by decide +kernel
theorem dX4_advance_141 : decode cX4_advance 141 = .ok (.aload_n 0, 1) := by decide +kernel
theorem dX4_advance_142 : decode cX4_advance 142 = .ok (.getfield 19, 3) := by decide +kernel
theorem dX4_advance_145 : decode cX4_advance 145 = .ok (.iaload, 1) := by decide +kernel
theorem dX4_advance_146 : decode cX4_advance 146 = .ok (.invokestatic 34, 3) := by decide +kernel
theorem dX4_advance_149 : decode cX4_advance 149 = .ok (.aload_n 0, 1) := by decide +kernel
theorem dX4_advance_150 : decode cX4_advance 150 = .ok (.getfield 22, 3) := by decide +kernel
theorem dX4_advance_153 : decode cX4_advance 153 = .ok (.if_icmp .ne 53, 3) := by decide +kernel
theorem dX4_advance_156 : decode cX4_advance 156 = .ok (.aload_n 0, 1) := by decide +kernel
theorem dX4_advance_157 : decode cX4_advance 157 = .ok (.getfield 22, 3) := by decide +kernel
theorem dX4_advance_160 : decode cX4_advance 160 = .ok (.iconst 2, 1) := by decide +kernel
theorem dX4_advance_161 : decode cX4_advance 161 = .ok (.if_icmp .ne 32, 3) := by decide +kernel
theorem dX4_advance_164 : decode cX4_advance 164 = .ok (.aload_n 0, 1) := by decide +kernel
theorem dX4_advance_165 : decode cX4_advance 165 = .ok (.ldc 38, 2) := by decide +kernel
theorem dX4_advance_167 : decode cX4_advance 167 = .ok (.bipush 10, 2) := by decide +kernel
theorem dX4_advance_169 : decode cX4_advance 169 = .ok (.aload_n 0, 1) := by decide +kernel
theorem dX4_advance_170 : decode cX4_advance 170 = .ok (.getfield 28, 3) := by decide +kernel
theorem dX4_advance_173 : decode cX4_advance 173 = .ok (.imul, 1) := by decide +kernel
theorem dX4_advance_174 : decode cX4_advance 174 = .ok (.aload_n 0, 1) := by decide +kernel
theorem dX4_advance_175 : decode cX4_advance 175 = .ok (.getfield 9, 3) := by decide +kernel
theorem dX4_advance_178 : decode cX4_advance 178 = .ok (.aload_n 0, 1) := by decide +kernel
theorem dX4_advance_179 : decode cX4_advance 179 = .ok (.getfield 19, 3) := by decide +kernel
theorem dX4_advance_182 : decode cX4_advance 182 = .ok (.iaload, 1) := by decide +kernel
theorem dX4_advance_183 : decode cX4_advance 183 = .ok (.iadd, 1) := by decide +kernel
theorem dX4_advance_184 : decode cX4_advance 184 = .ok (.bipush 48, 2) := by decide +kernel
theorem dX4_advance_186 : decode cX4_advance 186 = .ok (.isub, 1) := by decide +kernel
theorem dX4_advance_187 : decode cX4_advance 187 = .ok (.invokestatic 39, 3) := by decide +kernel
theorem dX4_advance_190 : decode cX4_advance 190 = .ok (.putfield 28, 3) := by decide +kernel
theorem dX4_advance_193 : decode cX4_advance 193 = .ok (.aload_n 0, 1) := by decide +kernel
theorem dX4_advance_194 : decode cX4_advance 194 = .ok (.dup, 1) := by decide +kernel
theorem dX4_advance_195 : decode cX4_advance 195 = .ok (.getfield 19, 3) := by decide +kernel
theorem dX4_advance_198 : decode cX4_advance 198 = .ok (.iconst 1, 1) := by decide +kernel
theorem dX4_advance_199 : decode cX4_advance 199 = .ok (.iadd, 1) := by decide +kernel
theorem dX4_advance_200 : decode cX4_advance 200 = .ok (.putfield 19, 3) := by decide +kernel
theorem dX4_advance_203 : decode cX4_advance 203 = .ok (.goto (-77), 3) := by decide +kernel
theorem dX4_advance_206 : decode cX4_advance 206 = .ok (.return_, 1) := by decide +kernel
theorem cw_X4_advance_34 : CwS mi_X4_advance mi_X4_kindOf yX4_kindOf 34 1 := ⟨⟨w_599, w_600, w_102, w_601⟩, ⟨by decide, by decide⟩, by decide +kernel, by decide, by decide⟩
theorem cw_X4_advance_39 : CwS mi_X4_advance mi_J9_min_7cf53 yJ9_min_7cf53 39 2 := ⟨⟨w_603, w_604, w_109, w_605⟩, ⟨by decide, by decide⟩, by decide +kernel, by decide, by decide⟩
theorem j_X4_advance_B193 {l : Launch} {Γ : Am} {k126 : Nat → Hp → Option (Unit × Hp)} (hL126 : ∀ (r0 : Nat) (z : Hp), J l Γ mi_X4_advance cvV 0 0 126 [(0, .ref (mB Γ + r0))] [] z (k126 r0 z)) : ∀ (r0 : Nat) (z : Hp), J l Γ mi_X4_advance cvV 0 0 193 [(0, .ref (mB Γ + r0))] [] z (m_X4_advance_B193 k126 r0 z) := by
  intro r0 z
  unfold m_X4_advance_B193
  refine j_aload_n (pc := 193) 0 dX4_advance_193 rfl rfl ?_
  refine j_dup (pc := 194) dX4_advance_194 rfl ?_
  refine j_getI (pc := 195) ok_X4 (by decide) rfl w_385 dX4_advance_195 (fun x1 => ?_)
  refine j_iconst (pc := 198) (v := 1) dX4_advance_198 (by decide) ?_
  refine j_iadd (pc := 199) dX4_advance_199 ?_
  refine j_putI (pc := 200) ok_X4 (by decide) rfl w_385 (Or.inl rfl) rfl rfl dX4_advance_200 (fun z2 => ?_)
  refine j_goto (pc := 203) 126 dX4_advance_203 (by decide) ?_
  exact J.sub [0] rfl (hL126 r0 z2)
theorem j_X4_advance_L126 {l : Launch} {Γ : Am}   : ∀ (f : Nat), ∀ (r0 : Nat) (z : Hp), J l Γ mi_X4_advance cvV 0 0 126 [(0, .ref (mB Γ + r0))] [] z (m_X4_advance_L126  f r0 z) := by
  intro f
  induction f with
  | zero => intro r0 z; exact J.none
  | succ f hL126 =>
    intro r0 z
    rw [m_X4_advance_L126]
    refine j_aload_n (pc := 126) 0 dX4_advance_126 rfl rfl ?_
    refine j_getI (pc := 127) ok_X4 (by decide) rfl w_385 dX4_advance_127 (fun x3 => ?_)
    refine j_aload_n (pc := 130) 0 dX4_advance_130 rfl rfl ?_
    refine j_getI (pc := 131) ok_X4 (by decide) rfl w_383 dX4_advance_131 (fun x4 => ?_)
    refine j_icmp_ge (pc := 134) 206 dX4_advance_134 (by decide) ?_ ?_
    · exact j_return (pc := 206) dX4_advance_206 rfl
    refine j_aload_n (pc := 137) 0 dX4_advance_137 rfl rfl ?_
    refine j_getR (pc := 138) ok_X4 (by decide) rfl w_382 dX4_advance_138 (fun a5 => ?_)
    refine j_aload_n (pc := 141) 0 dX4_advance_141 rfl rfl ?_
    refine j_getI (pc := 142) ok_X4 (by decide) rfl w_385 dX4_advance_142 (fun x6 => ?_)
    refine j_iaload (pc := 145) dX4_advance_145 (fun x7 => ?_)
    refine j_callS_I (pc := 146) (as := [.int x7]) (mc2 := 0) (ms2 := 0) (ct_X4_kindOf _ _) cw_X4_advance_34 dX4_advance_146 (Nat.le_of_ble_eq_true rfl) rfl (by decide) (by decide) (fun x9 z8 => ?_)
    refine j_aload_n (pc := 149) 0 dX4_advance_149 rfl rfl ?_
    refine j_getI (pc := 150) ok_X4 (by decide) rfl w_386 dX4_advance_150 (fun x10 => ?_)
    refine j_icmp_ne (pc := 153) 206 dX4_advance_153 (by decide) ?_ ?_
    · exact j_return (pc := 206) dX4_advance_206 rfl
    refine j_aload_n (pc := 156) 0 dX4_advance_156 rfl rfl ?_
    refine j_getI (pc := 157) ok_X4 (by decide) rfl w_386 dX4_advance_157 (fun x11 => ?_)
    refine j_iconst (pc := 160) (v := 2) dX4_advance_160 (by decide) ?_
    refine j_icmp_ne (pc := 161) 193 dX4_advance_161 (by decide) ?_ ?_
    · exact J.sub [0] rfl ((j_X4_advance_B193 hL126) r0 z8)
    refine j_aload_n (pc := 164) 0 dX4_advance_164 rfl rfl ?_
    refine j_ldc (pc := 165) (v := 1000000) dX4_advance_165 w_602 ?_
    refine j_bipush (pc := 167) (v := 10) dX4_advance_167 (by decide) ?_
    refine j_aload_n (pc := 169) 0 dX4_advance_169 rfl rfl ?_
    refine j_getI (pc := 170) ok_X4 (by decide) rfl w_390 dX4_advance_170 (fun x12 => ?_)
    refine j_imul (pc := 173) dX4_advance_173 ?_
    refine j_aload_n (pc := 174) 0 dX4_advance_174 rfl rfl ?_
    refine j_getR (pc := 175) ok_X4 (by decide) rfl w_382 dX4_advance_175 (fun a13 => ?_)
    refine j_aload_n (pc := 178) 0 dX4_advance_178 rfl rfl ?_
    refine j_getI (pc := 179) ok_X4 (by decide) rfl w_385 dX4_advance_179 (fun x14 => ?_)
    refine j_iaload (pc := 182) dX4_advance_182 (fun x15 => ?_)
    refine j_iadd (pc := 183) dX4_advance_183 ?_
    refine j_bipush (pc := 184) (v := 48) dX4_advance_184 (by decide) ?_
    refine j_isub (pc := 186) dX4_advance_186 ?_
    refine j_callS_I (pc := 187) (as := [.int 1000000, .int (((10 * x12) + x15) - 48)]) (mc2 := 0) (ms2 := 0) (ct_J9_min_7cf53 _ _ _) cw_X4_advance_39 dX4_advance_187 (Nat.le_of_ble_eq_true rfl) rfl (by decide) (by decide) (fun x17 z16 => ?_)
    refine j_putI (pc := 190) ok_X4 (by decide) rfl w_390 (Or.inl rfl) rfl rfl dX4_advance_190 (fun z18 => ?_)
    exact J.sub [0] rfl ((j_X4_advance_B193 hL126) r0 z18)
theorem j_X4_advance_B40 {l : Launch} {Γ : Am}   : ∀ (r0 : Nat) (z : Hp), J l Γ mi_X4_advance cvV 0 0 40 [(0, .ref (mB Γ + r0))] [] z (m_X4_advance_B40  r0 z) := by
  intro r0 z
  unfold m_X4_advance_B40
  refine j_aload_n (pc := 40) 0 dX4_advance_40 rfl rfl ?_
  refine j_aload_n (pc := 41) 0 dX4_advance_41 rfl rfl ?_
  refine j_getI (pc := 42) ok_X4 (by decide) rfl w_385 dX4_advance_42 (fun x19 => ?_)
  refine j_putI (pc := 45) ok_X4 (by decide) rfl w_388 (Or.inl rfl) rfl rfl dX4_advance_45 (fun z20 => ?_)
  refine j_aload_n (pc := 48) 0 dX4_advance_48 rfl rfl ?_
  refine j_iconst (pc := 49) (v := 0) dX4_advance_49 (by decide) ?_
  refine j_putI (pc := 50) ok_X4 (by decide) rfl w_390 (Or.inl rfl) rfl rfl dX4_advance_50 (fun z21 => ?_)
  refine j_aload_n (pc := 53) 0 dX4_advance_53 rfl rfl ?_
  refine j_getI (pc := 54) ok_X4 (by decide) rfl w_385 dX4_advance_54 (fun x22 => ?_)
  refine j_aload_n (pc := 57) 0 dX4_advance_57 rfl rfl ?_
  refine j_getI (pc := 58) ok_X4 (by decide) rfl w_383 dX4_advance_58 (fun x23 => ?_)
  refine j_icmp_lt (pc := 61) 70 dX4_advance_61 (by decide) ?_ ?_
  · refine j_aload_n (pc := 70) 0 dX4_advance_70 rfl rfl ?_
    refine j_aload_n (pc := 71) 0 dX4_advance_71 rfl rfl ?_
    refine j_getR (pc := 72) ok_X4 (by decide) rfl w_382 dX4_advance_72 (fun a24 => ?_)
    refine j_aload_n (pc := 75) 0 dX4_advance_75 rfl rfl ?_
    refine j_getI (pc := 76) ok_X4 (by decide) rfl w_385 dX4_advance_76 (fun x25 => ?_)
    refine j_iaload (pc := 79) dX4_advance_79 (fun x26 => ?_)
    refine j_callS_I (pc := 80) (as := [.int x26]) (mc2 := 0) (ms2 := 0) (ct_X4_kindOf _ _) cw_X4_advance_34 dX4_advance_80 (Nat.le_of_ble_eq_true rfl) rfl (by decide) (by decide) (fun x28 z27 => ?_)
    refine j_putI (pc := 83) ok_X4 (by decide) rfl w_386 (Or.inl rfl) rfl rfl dX4_advance_83 (fun z29 => ?_)
    refine j_aload_n (pc := 86) 0 dX4_advance_86 rfl rfl ?_
    refine j_getI (pc := 87) ok_X4 (by decide) rfl w_386 dX4_advance_87 (fun x30 => ?_)
    refine j_iconst (pc := 90) (v := 1) dX4_advance_90 (by decide) ?_
    refine j_icmp_eq (pc := 91) 126 dX4_advance_91 (by decide) ?_ ?_
    · exact J.sub [0] rfl ((j_X4_advance_L126 FU) r0 z29)
    refine j_aload_n (pc := 94) 0 dX4_advance_94 rfl rfl ?_
    refine j_getI (pc := 95) ok_X4 (by decide) rfl w_386 dX4_advance_95 (fun x31 => ?_)
    refine j_iconst (pc := 98) (v := 2) dX4_advance_98 (by decide) ?_
    refine j_icmp_eq (pc := 99) 126 dX4_advance_99 (by decide) ?_ ?_
    · exact J.sub [0] rfl ((j_X4_advance_L126 FU) r0 z29)
    refine j_aload_n (pc := 102) 0 dX4_advance_102 rfl rfl ?_
    refine j_aload_n (pc := 103) 0 dX4_advance_103 rfl rfl ?_
    refine j_getR (pc := 104) ok_X4 (by decide) rfl w_382 dX4_advance_104 (fun a32 => ?_)
    refine j_aload_n (pc := 107) 0 dX4_advance_107 rfl rfl ?_
    refine j_getI (pc := 108) ok_X4 (by decide) rfl w_385 dX4_advance_108 (fun x33 => ?_)
    refine j_iaload (pc := 111) dX4_advance_111 (fun x34 => ?_)
    refine j_putI (pc := 112) ok_X4 (by decide) rfl w_390 (Or.inl rfl) rfl rfl dX4_advance_112 (fun z35 => ?_)
    refine j_aload_n (pc := 115) 0 dX4_advance_115 rfl rfl ?_
    refine j_dup (pc := 116) dX4_advance_116 rfl ?_
    refine j_getI (pc := 117) ok_X4 (by decide) rfl w_385 dX4_advance_117 (fun x36 => ?_)
    refine j_iconst (pc := 120) (v := 1) dX4_advance_120 (by decide) ?_
    refine j_iadd (pc := 121) dX4_advance_121 ?_
    refine j_putI (pc := 122) ok_X4 (by decide) rfl w_385 (Or.inl rfl) rfl rfl dX4_advance_122 (fun z37 => ?_)
    exact j_return (pc := 125) dX4_advance_125 rfl
  refine j_aload_n (pc := 64) 0 dX4_advance_64 rfl rfl ?_
  refine j_iconst (pc := 65) (v := 0) dX4_advance_65 (by decide) ?_
  refine j_putI (pc := 66) ok_X4 (by decide) rfl w_386 (Or.inl rfl) rfl rfl dX4_advance_66 (fun z38 => ?_)
  exact j_return (pc := 69) dX4_advance_69 rfl
theorem j_X4_advance_L0 {l : Launch} {Γ : Am} {k40 : Nat → Hp → Option (Unit × Hp)} (hL40 : ∀ (r0 : Nat) (z : Hp), J l Γ mi_X4_advance cvV 0 0 40 [(0, .ref (mB Γ + r0))] [] z (k40 r0 z)) : ∀ (f : Nat), ∀ (r0 : Nat) (z : Hp), J l Γ mi_X4_advance cvV 0 0 0 [(0, .ref (mB Γ + r0))] [] z (m_X4_advance_L0 k40 f r0 z) := by
  intro f
  induction f with
  | zero => intro r0 z; exact J.none
  | succ f hL0 =>
    intro r0 z
    rw [m_X4_advance_L0]
    refine j_aload_n (pc := 0) 0 dX4_advance_0 rfl rfl ?_
    refine j_getI (pc := 1) ok_X4 (by decide) rfl w_385 dX4_advance_1 (fun x39 => ?_)
    refine j_aload_n (pc := 4) 0 dX4_advance_4 rfl rfl ?_
    refine j_getI (pc := 5) ok_X4 (by decide) rfl w_383 dX4_advance_5 (fun x40 => ?_)
    refine j_icmp_ge (pc := 8) 40 dX4_advance_8 (by decide) ?_ ?_
    · exact J.sub [0] rfl (hL40 r0 z)
    refine j_aload_n (pc := 11) 0 dX4_advance_11 rfl rfl ?_
    refine j_getR (pc := 12) ok_X4 (by decide) rfl w_382 dX4_advance_12 (fun a41 => ?_)
    refine j_aload_n (pc := 15) 0 dX4_advance_15 rfl rfl ?_
    refine j_getI (pc := 16) ok_X4 (by decide) rfl w_385 dX4_advance_16 (fun x42 => ?_)
    refine j_iaload (pc := 19) dX4_advance_19 (fun x43 => ?_)
    refine j_callS_I (pc := 20) (as := [.int x43]) (mc2 := 0) (ms2 := 0) (ct_X4_kindOf _ _) cw_X4_advance_34 dX4_advance_20 (Nat.le_of_ble_eq_true rfl) rfl (by decide) (by decide) (fun x45 z44 => ?_)
    refine j_iconst (pc := 23) (v := 4) dX4_advance_23 (by decide) ?_
    refine j_icmp_ne (pc := 24) 40 dX4_advance_24 (by decide) ?_ ?_
    · exact J.sub [0] rfl (hL40 r0 z44)
    refine j_aload_n (pc := 27) 0 dX4_advance_27 rfl rfl ?_
    refine j_dup (pc := 28) dX4_advance_28 rfl ?_
    refine j_getI (pc := 29) ok_X4 (by decide) rfl w_385 dX4_advance_29 (fun x46 => ?_)
    refine j_iconst (pc := 32) (v := 1) dX4_advance_32 (by decide) ?_
    refine j_iadd (pc := 33) dX4_advance_33 ?_
    refine j_putI (pc := 34) ok_X4 (by decide) rfl w_385 (Or.inl rfl) rfl rfl dX4_advance_34 (fun z47 => ?_)
    refine j_goto (pc := 37) 0 dX4_advance_37 (by decide) ?_
    exact J.sub [0] rfl (hL0 r0 z47)
theorem ct_X4_advance {l : Launch} {Γ : Am} (r0 : Nat) (z : Hp) : Ct l Γ yX4_advance mi_X4_advance cvV [.ref (mB Γ + r0)] z (m_X4_advance r0 z) := by
  refine Ct.ofJ (by decide) ⟨rfl, rfl⟩ (Nat.le_of_ble_eq_true rfl) ?_
  unfold m_X4_advance
  show J l Γ mi_X4_advance cvV 0 0 0 [(0, .ref (mB Γ + r0))] [] z _
  exact J.sub [0] rfl ((j_X4_advance_L0 j_X4_advance_B40 FU) r0 z)
theorem dX4_rewind_0 : decode cX4_rewind 0 = .ok (.aload_n 0, 1) := by decide +kernel
theorem dX4_rewind_1 : decode cX4_rewind 1 = .ok (.iconst 0, 1) := by decide +kernel
theorem dX4_rewind_2 : decode cX4_rewind 2 = .ok (.putfield 19, 3) := by decide +kernel
theorem dX4_rewind_5 : decode cX4_rewind 5 = .ok (.aload_n 0, 1) := by decide +kernel
theorem dX4_rewind_6 : decode cX4_rewind 6 = .ok (.invokevirtual 31, 3) := by decide +kernel
theorem dX4_rewind_9 : decode cX4_rewind 9 = .ok (.return_, 1) := by decide +kernel
theorem cw_X4_rewind_31 : CwV mi_X4_rewind mi_X4_advance yX4_advance RX4 31 0 := ⟨⟨w_595, w_596, w_597, w_102, w_598⟩, ⟨by decide, by decide⟩, by decide +kernel, by decide, by decide⟩
theorem ct_X4_rewind {l : Launch} {Γ : Am} (r0 : Nat) (z : Hp) : Ct l Γ yX4_rewind mi_X4_rewind cvV [.ref (mB Γ + r0)] z (m_X4_rewind r0 z) := by
  refine Ct.ofJ (by decide) ⟨rfl, rfl⟩ (Nat.le_of_ble_eq_true rfl) ?_
  unfold m_X4_rewind
  show J l Γ mi_X4_rewind cvV 0 0 0 [(0, .ref (mB Γ + r0))] [] z _
  refine j_aload_n (pc := 0) 0 dX4_rewind_0 rfl rfl ?_
  refine j_iconst (pc := 1) (v := 0) dX4_rewind_1 (by decide) ?_
  refine j_putI (pc := 2) ok_X4 (by decide) rfl w_385 (Or.inl rfl) rfl rfl dX4_rewind_2 (fun z1 => ?_)
  refine j_aload_n (pc := 5) 0 dX4_rewind_5 rfl rfl ?_
  refine j_isC (fun h3 => ?_)
  refine j_callV_V (pc := 6) (as := []) (mc2 := 0) (ms2 := 0) (ct_X4_advance _ _) h3 rfl cw_X4_rewind_31 dX4_rewind_6 (Nat.le_of_ble_eq_true rfl) rfl (by decide) (by decide) (fun _ z2 => ?_)
  exact j_return (pc := 9) dX4_rewind_9 rfl
theorem dX4_isWord_0 : decode cX4_isWord 0 = .ok (.aload_n 0, 1) := by decide +kernel
theorem dX4_isWord_1 : decode cX4_isWord 1 = .ok (.getfield 22, 3) := by decide +kernel
theorem dX4_isWord_4 : decode cX4_isWord 4 = .ok (.iconst 1, 1) := by decide +kernel
theorem dX4_isWord_5 : decode cX4_isWord 5 = .ok (.if_icmp .ne 19, 3) := by decide +kernel
theorem dX4_isWord_8 : decode cX4_isWord 8 = .ok (.aload_n 0, 1) := by decide +kernel
theorem dX4_isWord_9 : decode cX4_isWord 9 = .ok (.getfield 19, 3) := by decide +kernel
theorem dX4_isWord_12 : decode cX4_isWord 12 = .ok (.aload_n 0, 1) := by decide +kernel
theorem dX4_isWord_13 : decode cX4_isWord 13 = .ok (.getfield 25, 3) := by decide +kernel
theorem dX4_isWord_16 : decode cX4_isWord 16 = .ok (.isub, 1) := by decide +kernel
theorem dX4_isWord_17 : decode cX4_isWord 17 = .ok (.aload_n 1, 1) := by decide +kernel
theorem dX4_isWord_18 : decode cX4_isWord 18 = .ok (.invokevirtual 45, 3) := by decide +kernel
theorem dX4_isWord_21 : decode cX4_isWord 21 = .ok (.if_icmp .eq 5, 3) := by decide +kernel
theorem dX4_isWord_24 : decode cX4_isWord 24 = .ok (.iconst 0, 1) := by decide +kernel
theorem dX4_isWord_25 : decode cX4_isWord 25 = .ok (.ireturn, 1) := by decide +kernel
theorem dX4_isWord_26 : decode cX4_isWord 26 = .ok (.iconst 0, 1) := by decide +kernel
theorem dX4_isWord_27 : decode cX4_isWord 27 = .ok (.istore_n 2, 1) := by decide +kernel
theorem dX4_isWord_28 : decode cX4_isWord 28 = .ok (.iload_n 2, 1) := by decide +kernel
theorem dX4_isWord_29 : decode cX4_isWord 29 = .ok (.aload_n 1, 1) := by decide +kernel
theorem dX4_isWord_30 : decode cX4_isWord 30 = .ok (.invokevirtual 45, 3) := by decide +kernel
theorem dX4_isWord_33 : decode cX4_isWord 33 = .ok (.if_icmp .ge 30, 3) := by decide +kernel
theorem dX4_isWord_36 : decode cX4_isWord 36 = .ok (.aload_n 0, 1) := by decide +kernel
theorem dX4_isWord_37 : decode cX4_isWord 37 = .ok (.getfield 9, 3) := by decide +kernel
theorem dX4_isWord_40 : decode cX4_isWord 40 = .ok (.aload_n 0, 1) := by decide +kernel
theorem dX4_isWord_41 : decode cX4_isWord 41 = .ok (.getfield 25, 3) := by decide +kernel
theorem dX4_isWord_44 : decode cX4_isWord 44 = .ok (.iload_n 2, 1) := by decide +kernel
theorem dX4_isWord_45 : decode cX4_isWord 45 = .ok (.iadd, 1) := by decide +kernel
theorem dX4_isWord_46 : decode cX4_isWord 46 = .ok (.iaload, 1) := by decide +kernel
theorem dX4_isWord_47 : decode cX4_isWord 47 = .ok (.aload_n 1, 1) := by decide +kernel
theorem dX4_isWord_48 : decode cX4_isWord 48 = .ok (.iload_n 2, 1) := by decide +kernel
theorem dX4_isWord_49 : decode cX4_isWord 49 = .ok (.invokevirtual 50, 3) := by decide +kernel
theorem dX4_isWord_52 : decode cX4_isWord 52 = .ok (.if_icmp .eq 5, 3) := by decide +kernel
theorem dX4_isWord_55 : decode cX4_isWord 55 = .ok (.iconst 0, 1) := by decide +kernel
theorem dX4_isWord_56 : decode cX4_isWord 56 = .ok (.ireturn, 1) := by decide +kernel
theorem dX4_isWord_57 : decode cX4_isWord 57 = .ok (.iinc 2 1, 3) := by decide +kernel
theorem dX4_isWord_60 : decode cX4_isWord 60 = .ok (.goto (-32), 3) := by decide +kernel
theorem dX4_isWord_63 : decode cX4_isWord 63 = .ok (.iconst 1, 1) := by decide +kernel
theorem dX4_isWord_64 : decode cX4_isWord 64 = .ok (.ireturn, 1) := by decide +kernel
theorem j_X4_isWord_L28 {l : Launch} {Γ : Am}   : ∀ (f : Nat), ∀ (r0 : Nat) (q1 : Nat) (v2 : Int32) (z : Hp), J l Γ mi_X4_isWord cvI 0 0 28 [(0, .ref (mB Γ + r0)), (1, .ref (mT Γ q1)), (2, .int v2)] [] z (m_X4_isWord_L28  f r0 q1 v2 z) := by
  intro f
  induction f with
  | zero => intro r0 q1 v2 z; exact J.none
  | succ f hL28 =>
    intro r0 q1 v2 z
    rw [m_X4_isWord_L28]
    refine j_iload_n (pc := 28) 2 dX4_isWord_28 rfl rfl ?_
    refine j_aload_n (pc := 29) 1 dX4_isWord_29 rfl rfl ?_
    refine j_strlen (pc := 30) w_615 dX4_isWord_30 (by decide) (by decide) (Nat.le_of_ble_eq_true rfl) (fun x1 => ?_)
    refine j_icmp_ge (pc := 33) 63 dX4_isWord_33 (by decide) ?_ ?_
    · refine j_iconst (pc := 63) (v := 1) dX4_isWord_63 (by decide) ?_
      exact j_ireturn (pc := 64) dX4_isWord_64 rfl rfl
    refine j_aload_n (pc := 36) 0 dX4_isWord_36 rfl rfl ?_
    refine j_getR (pc := 37) ok_X4 (by decide) rfl w_382 dX4_isWord_37 (fun a2 => ?_)
    refine j_aload_n (pc := 40) 0 dX4_isWord_40 rfl rfl ?_
    refine j_getI (pc := 41) ok_X4 (by decide) rfl w_388 dX4_isWord_41 (fun x3 => ?_)
    refine j_iload_n (pc := 44) 2 dX4_isWord_44 rfl rfl ?_
    refine j_iadd (pc := 45) dX4_isWord_45 ?_
    refine j_iaload (pc := 46) dX4_isWord_46 (fun x4 => ?_)
    refine j_aload_n (pc := 47) 1 dX4_isWord_47 rfl rfl ?_
    refine j_iload_n (pc := 48) 2 dX4_isWord_48 rfl rfl ?_
    refine j_strchar (pc := 49) w_625 dX4_isWord_49 (by decide) (by decide) (Nat.le_of_ble_eq_true rfl) (fun x5 => ?_)
    refine j_icmp_eq (pc := 52) 57 dX4_isWord_52 (by decide) ?_ ?_
    · refine j_iinc (pc := 57) (n0 := 2) (v0 := v2 + 1) (lv2 := [(2, .int (v2 + 1)), (0, .ref (mB Γ + r0)), (1, .ref (mT Γ q1))]) dX4_isWord_57 rfl rfl (by decide) rfl ?_
      refine j_goto (pc := 60) 28 dX4_isWord_60 (by decide) ?_
      exact J.sub [1, 2, 0] rfl (hL28 r0 q1 (v2 + 1) z)
    refine j_iconst (pc := 55) (v := 0) dX4_isWord_55 (by decide) ?_
    exact j_ireturn (pc := 56) dX4_isWord_56 rfl rfl
theorem ct_X4_isWord {l : Launch} {Γ : Am} (r0 : Nat) (q1 : Nat) (z : Hp) : Ct l Γ yX4_isWord mi_X4_isWord cvI [.ref (mB Γ + r0), .ref (mT Γ q1)] z (m_X4_isWord r0 q1 z) := by
  refine Ct.ofJ (by decide) ⟨rfl, rfl⟩ (Nat.le_of_ble_eq_true rfl) ?_
  unfold m_X4_isWord
  show J l Γ mi_X4_isWord cvI 0 0 0 [(0, .ref (mB Γ + r0)), (1, .ref (mT Γ q1))] [] z _
  refine j_aload_n (pc := 0) 0 dX4_isWord_0 rfl rfl ?_
  refine j_getI (pc := 1) ok_X4 (by decide) rfl w_386 dX4_isWord_1 (fun x6 => ?_)
  refine j_iconst (pc := 4) (v := 1) dX4_isWord_4 (by decide) ?_
  refine j_icmp_ne (pc := 5) 24 dX4_isWord_5 (by decide) ?_ ?_
  · refine j_iconst (pc := 24) (v := 0) dX4_isWord_24 (by decide) ?_
    exact j_ireturn (pc := 25) dX4_isWord_25 rfl rfl
  refine j_aload_n (pc := 8) 0 dX4_isWord_8 rfl rfl ?_
  refine j_getI (pc := 9) ok_X4 (by decide) rfl w_385 dX4_isWord_9 (fun x7 => ?_)
  refine j_aload_n (pc := 12) 0 dX4_isWord_12 rfl rfl ?_
  refine j_getI (pc := 13) ok_X4 (by decide) rfl w_388 dX4_isWord_13 (fun x8 => ?_)
  refine j_isub (pc := 16) dX4_isWord_16 ?_
  refine j_aload_n (pc := 17) 1 dX4_isWord_17 rfl rfl ?_
  refine j_strlen (pc := 18) w_615 dX4_isWord_18 (by decide) (by decide) (Nat.le_of_ble_eq_true rfl) (fun x9 => ?_)
  refine j_icmp_eq (pc := 21) 26 dX4_isWord_21 (by decide) ?_ ?_
  · refine j_iconst (pc := 26) (v := 0) dX4_isWord_26 (by decide) ?_
    refine j_istore_n (pc := 27) (lv2 := [(2, .int 0), (0, .ref (mB Γ + r0)), (1, .ref (mT Γ q1))]) dX4_isWord_27 rfl (by decide) rfl ?_
    exact J.sub [1, 2, 0] rfl ((j_X4_isWord_L28 FU) r0 q1 0 z)
  refine j_iconst (pc := 24) (v := 0) dX4_isWord_24 (by decide) ?_
  exact j_ireturn (pc := 25) dX4_isWord_25 rfl rfl
theorem dX2_fail_0 : decode cX2_fail 0 = .ok (.aload_n 0, 1) := by decide +kernel
theorem dX2_fail_1 : decode cX2_fail 1 = .ok (.getfield 25, 3) := by decide +kernel
theorem dX2_fail_4 : decode cX2_fail 4 = .ok (.ifCond .ne 13, 3) := by decide +kernel
theorem dX2_fail_7 : decode cX2_fail 7 = .ok (.aload_n 0, 1) := by decide +kernel
theorem dX2_fail_8 : decode cX2_fail 8 = .ok (.iload_n 1, 1) := by decide +kernel
theorem dX2_fail_9 : decode cX2_fail 9 = .ok (.putfield 25, 3) := by decide +kernel
theorem dX2_fail_12 : decode cX2_fail 12 = .ok (.aload_n 0, 1) := by decide +kernel
theorem dX2_fail_13 : decode cX2_fail 13 = .ok (.iload_n 2, 1) := by decide +kernel
theorem dX2_fail_14 : decode cX2_fail 14 = .ok (.putfield 28, 3) := by decide +kernel
theorem dX2_fail_17 : decode cX2_fail 17 = .ok (.return_, 1) := by decide +kernel
theorem ct_X2_fail {l : Launch} {Γ : Am} (r0 : Nat) (v1 : Int32) (v2 : Int32) (z : Hp) : Ct l Γ yX2_fail mi_X2_fail cvV [.ref (mB Γ + r0), .int v1, .int v2] z (m_X2_fail r0 v1 v2 z) := by
  refine Ct.ofJ (by decide) ⟨rfl, rfl⟩ (Nat.le_of_ble_eq_true rfl) ?_
  unfold m_X2_fail
  show J l Γ mi_X2_fail cvV 0 0 0 [(0, .ref (mB Γ + r0)), (1, .int v1), (2, .int v2)] [] z _
  refine j_aload_n (pc := 0) 0 dX2_fail_0 rfl rfl ?_
  refine j_getI (pc := 1) ok_X2 (by decide) rfl w_417 dX2_fail_1 (fun x1 => ?_)
  refine j_if_ne (pc := 4) 17 dX2_fail_4 (by decide) ?_ ?_
  · exact j_return (pc := 17) dX2_fail_17 rfl
  refine j_aload_n (pc := 7) 0 dX2_fail_7 rfl rfl ?_
  refine j_iload_n (pc := 8) 1 dX2_fail_8 rfl rfl ?_
  refine j_putI (pc := 9) ok_X2 (by decide) rfl w_417 (Or.inl rfl) rfl rfl dX2_fail_9 (fun z2 => ?_)
  refine j_aload_n (pc := 12) 0 dX2_fail_12 rfl rfl ?_
  refine j_iload_n (pc := 13) 2 dX2_fail_13 rfl rfl ?_
  refine j_putI (pc := 14) ok_X2 (by decide) rfl w_419 (Or.inl rfl) rfl rfl dX2_fail_14 (fun z3 => ?_)
  exact j_return (pc := 17) dX2_fail_17 rfl
theorem dX2_openLine_0 : decode cX2_openLine 0 = .ok (.iload_n 1, 1) := by decide +kernel
theorem dX2_openLine_1 : decode cX2_openLine 1 = .ok (.ifCond .ne 15, 3) := by decide +kernel
theorem dX2_openLine_4 : decode cX2_openLine 4 = .ok (.aload_n 0, 1) := by decide +kernel
theorem dX2_openLine_5 : decode cX2_openLine 5 = .ok (.iconst 3, 1) := by decide +kernel
theorem dX2_openLine_6 : decode cX2_openLine 6 = .ok (.aload_n 0, 1) := by decide +kernel
theorem dX2_openLine_7 : decode cX2_openLine 7 = .ok (.getfield 31, 3) := by decide +kernel
theorem dX2_openLine_10 : decode cX2_openLine 10 = .ok (.getfield 143, 3) := by decide +kernel
theorem dX2_openLine_13 : decode cX2_openLine 13 = .ok (.invokevirtual 146, 3) := by decide +kernel
theorem dX2_openLine_16 : decode cX2_openLine 16 = .ok (.aload_n 0, 1) := by decide +kernel
theorem dX2_openLine_17 : decode cX2_openLine 17 = .ok (.getfield 31, 3) := by decide +kernel
theorem dX2_openLine_20 : decode cX2_openLine 20 = .ok (.invokevirtual 154, 3) := by decide +kernel
theorem dX2_openLine_23 : decode cX2_openLine 23 = .ok (.return_, 1) := by decide +kernel
theorem cw_X2_openLine_154 : CwV mi_X2_openLine mi_X4_advance yX4_advance RX4 154 0 := ⟨⟨w_671, w_596, w_597, w_102, w_598⟩, ⟨by decide, by decide⟩, by decide +kernel, by decide, by decide⟩
theorem cw_X2_openLine_146 : CwV mi_X2_openLine mi_X2_fail yX2_fail RX2 146 2 := ⟨⟨w_667, w_669, w_2, w_103, w_670⟩, ⟨by decide, by decide⟩, by decide +kernel, by decide, by decide⟩
theorem j_X2_openLine_B16 {l : Launch} {Γ : Am}   : ∀ (r0 : Nat) (z : Hp), J l Γ mi_X2_openLine cvV 0 0 16 [(0, .ref (mB Γ + r0))] [] z (m_X2_openLine_B16  r0 z) := by
  intro r0 z
  unfold m_X2_openLine_B16
  refine j_aload_n (pc := 16) 0 dX2_openLine_16 rfl rfl ?_
  refine j_getR (pc := 17) ok_X2 (by decide) rfl w_411 dX2_openLine_17 (fun a1 => ?_)
  refine j_isC (fun h3 => ?_)
  refine j_callV_V (pc := 20) (as := []) (mc2 := 0) (ms2 := 0) (ct_X4_advance _ _) h3 rfl cw_X2_openLine_154 dX2_openLine_20 (Nat.le_of_ble_eq_true rfl) rfl (by decide) (by decide) (fun _ z2 => ?_)
  exact j_return (pc := 23) dX2_openLine_23 rfl
theorem ct_X2_openLine {l : Launch} {Γ : Am} (r0 : Nat) (v1 : Int32) (z : Hp) : Ct l Γ yX2_openLine mi_X2_openLine cvV [.ref (mB Γ + r0), .int v1] z (m_X2_openLine r0 v1 z) := by
  refine Ct.ofJ (by decide) ⟨rfl, rfl⟩ (Nat.le_of_ble_eq_true rfl) ?_
  unfold m_X2_openLine
  show J l Γ mi_X2_openLine cvV 0 0 0 [(0, .ref (mB Γ + r0)), (1, .int v1)] [] z _
  refine j_iload_n (pc := 0) 1 dX2_openLine_0 rfl rfl ?_
  refine j_if_ne (pc := 1) 16 dX2_openLine_1 (by decide) ?_ ?_
  · exact J.sub [0] rfl (j_X2_openLine_B16 r0 z)
  refine j_aload_n (pc := 4) 0 dX2_openLine_4 rfl rfl ?_
  refine j_iconst (pc := 5) (v := 3) dX2_openLine_5 (by decide) ?_
  refine j_aload_n (pc := 6) 0 dX2_openLine_6 rfl rfl ?_
  refine j_getR (pc := 7) ok_X2 (by decide) rfl w_411 dX2_openLine_7 (fun a4 => ?_)
  refine j_getI (pc := 10) ok_X4 (by decide) rfl w_389 dX2_openLine_10 (fun x5 => ?_)
  refine j_isC (fun h7 => ?_)
  refine j_callV_V (pc := 13) (as := [.int 3, .int x5]) (mc2 := 0) (ms2 := 0) (ct_X2_fail _ _ _ _) h7 rfl cw_X2_openLine_146 dX2_openLine_13 (Nat.le_of_ble_eq_true rfl) rfl (by decide) (by decide) (fun _ z6 => ?_)
  exact J.sub [0] rfl (j_X2_openLine_B16 r0 z6)
theorem dX4_isSign_0 : decode cX4_isSign 0 = .ok (.aload_n 0, 1) := by decide +kernel
theorem dX4_isSign_1 : decode cX4_isSign 1 = .ok (.getfield 22, 3) := by decide +kernel
theorem dX4_isSign_4 : decode cX4_isSign 4 = .ok (.iconst 3, 1) := by decide +kernel
theorem dX4_isSign_5 : decode cX4_isSign 5 = .ok (.if_icmp .ne 15, 3) := by decide +kernel
theorem dX4_isSign_8 : decode cX4_isSign 8 = .ok (.aload_n 0, 1) := by decide +kernel
theorem dX4_isSign_9 : decode cX4_isSign 9 = .ok (.getfield 28, 3) := by decide +kernel
theorem dX4_isSign_12 : decode cX4_isSign 12 = .ok (.iload_n 1, 1) := by decide +kernel
theorem dX4_isSign_13 : decode cX4_isSign 13 = .ok (.if_icmp .ne 7, 3) := by decide +kernel
theorem dX4_isSign_16 : decode cX4_isSign 16 = .ok (.iconst 1, 1) := by decide +kernel
theorem dX4_isSign_17 : decode cX4_isSign 17 = .ok (.goto 4, 3) := by decide +kernel
theorem dX4_isSign_20 : decode cX4_isSign 20 = .ok (.iconst 0, 1) := by decide +kernel
theorem dX4_isSign_21 : decode cX4_isSign 21 = .ok (.ireturn, 1) := by decide +kernel
theorem ct_X4_isSign {l : Launch} {Γ : Am} (r0 : Nat) (v1 : Int32) (z : Hp) : Ct l Γ yX4_isSign mi_X4_isSign cvI [.ref (mB Γ + r0), .int v1] z (m_X4_isSign r0 v1 z) := by
  refine Ct.ofJ (by decide) ⟨rfl, rfl⟩ (Nat.le_of_ble_eq_true rfl) ?_
  unfold m_X4_isSign
  show J l Γ mi_X4_isSign cvI 0 0 0 [(0, .ref (mB Γ + r0)), (1, .int v1)] [] z _
  refine j_aload_n (pc := 0) 0 dX4_isSign_0 rfl rfl ?_
  refine j_getI (pc := 1) ok_X4 (by decide) rfl w_386 dX4_isSign_1 (fun x1 => ?_)
  refine j_iconst (pc := 4) (v := 3) dX4_isSign_4 (by decide) ?_
  refine j_icmp_ne (pc := 5) 20 dX4_isSign_5 (by decide) ?_ ?_
  · refine j_iconst (pc := 20) (v := 0) dX4_isSign_20 (by decide) ?_
    exact j_ireturn (pc := 21) dX4_isSign_21 rfl rfl
  refine j_aload_n (pc := 8) 0 dX4_isSign_8 rfl rfl ?_
  refine j_getI (pc := 9) ok_X4 (by decide) rfl w_390 dX4_isSign_9 (fun x2 => ?_)
  refine j_iload_n (pc := 12) 1 dX4_isSign_12 rfl rfl ?_
  refine j_icmp_ne (pc := 13) 20 dX4_isSign_13 (by decide) ?_ ?_
  · refine j_iconst (pc := 20) (v := 0) dX4_isSign_20 (by decide) ?_
    exact j_ireturn (pc := 21) dX4_isSign_21 rfl rfl
  refine j_iconst (pc := 16) (v := 1) dX4_isSign_16 (by decide) ?_
  refine j_goto (pc := 17) 21 dX4_isSign_17 (by decide) ?_
  exact j_ireturn (pc := 21) dX4_isSign_21 rfl rfl
theorem dX2_number_0 : decode cX2_number 0 = .ok (.iload_n 1, 1) := by decide +kernel
theorem dX2_number_1 : decode cX2_number 1 = .ok (.ifCond .ge 19, 3) := by decide +kernel
theorem dX2_number_4 : decode cX2_number 4 = .ok (.aload_n 0, 1) := by decide +kernel
theorem dX2_number_5 : decode cX2_number 5 = .ok (.getfield 31, 3) := by decide +kernel
theorem dX2_number_8 : decode cX2_number 8 = .ok (.bipush 45, 2) := by decide +kernel
theorem dX2_number_10 : decode cX2_number 10 = .ok (.invokevirtual 254, 3) := by decide +kernel
theorem dX2_number_13 : decode cX2_number 13 = .ok (.ifCond .eq 7, 3) := by decide +kernel
theorem dX2_number_16 : decode cX2_number 16 = .ok (.iconst 1, 1) := by decide +kernel
theorem dX2_number_17 : decode cX2_number 17 = .ok (.goto 4, 3) := by decide +kernel
theorem dX2_number_20 : decode cX2_number 20 = .ok (.iconst 0, 1) := by decide +kernel
theorem dX2_number_21 : decode cX2_number 21 = .ok (.istore_n 3, 1) := by decide +kernel
theorem dX2_number_22 : decode cX2_number 22 = .ok (.iload_n 3, 1) := by decide +kernel
theorem dX2_number_23 : decode cX2_number 23 = .ok (.ifCond .eq 10, 3) := by decide +kernel
theorem dX2_number_26 : decode cX2_number 26 = .ok (.aload_n 0, 1) := by decide +kernel
theorem dX2_number_27 : decode cX2_number 27 = .ok (.getfield 31, 3) := by decide +kernel
theorem dX2_number_30 : decode cX2_number 30 = .ok (.invokevirtual 154, 3) := by decide +kernel
theorem dX2_number_33 : decode cX2_number 33 = .ok (.aload_n 0, 1) := by decide +kernel
theorem dX2_number_34 : decode cX2_number 34 = .ok (.aload_n 0, 1) := by decide +kernel
theorem dX2_number_35 : decode cX2_number 35 = .ok (.getfield 31, 3) := by decide +kernel
theorem dX2_number_38 : decode cX2_number 38 = .ok (.getfield 143, 3) := by decide +kernel
theorem dX2_number_41 : decode cX2_number 41 = .ok (.putfield 22, 3) := by decide +kernel
theorem dX2_number_44 : decode cX2_number 44 = .ok (.aload_n 0, 1) := by decide +kernel
theorem dX2_number_45 : decode cX2_number 45 = .ok (.getfield 31, 3) := by decide +kernel
theorem dX2_number_48 : decode cX2_number 48 = .ok (.getfield 55, 3) := by decide +kernel
theorem dX2_number_51 : decode cX2_number 51 = .ok (.iconst 2, 1) := by decide +kernel
theorem dX2_number_52 : decode cX2_number 52 = .ok (.if_icmp .eq 14, 3) := by decide +kernel
theorem dX2_number_55 : decode cX2_number 55 = .ok (.aload_n 0, 1) := by decide +kernel
theorem dX2_number_56 : decode cX2_number 56 = .ok (.iconst 1, 1) := by decide +kernel
theorem dX2_number_57 : decode cX2_number 57 = .ok (.aload_n 0, 1) := by decide +kernel
theorem dX2_number_58 : decode cX2_number 58 = .ok (.getfield 22, 3) := by decide +kernel
theorem dX2_number_61 : decode cX2_number 61 = .ok (.invokevirtual 146, 3) := by decide +kernel
theorem dX2_number_64 : decode cX2_number 64 = .ok (.iload_n 1, 1) := by decide +kernel
theorem dX2_number_65 : decode cX2_number 65 = .ok (.ireturn, 1) := by decide +kernel
theorem dX2_number_66 : decode cX2_number 66 = .ok (.iload_n 3, 1) := by decide +kernel
theorem dX2_number_67 : decode cX2_number 67 = .ok (.ifCond .eq 14, 3) := by decide +kernel
theorem dX2_number_70 : decode cX2_number 70 = .ok (.aload_n 0, 1) := by decide +kernel
theorem dX2_number_71 : decode cX2_number 71 = .ok (.getfield 31, 3) := by decide +kernel
theorem dX2_number_74 : decode cX2_number 74 = .ok (.getfield 251, 3) := by decide +kernel
theorem dX2_number_77 : decode cX2_number 77 = .ok (.ineg, 1) := by decide +kernel
theorem dX2_number_78 : decode cX2_number 78 = .ok (.goto 10, 3) := by decide +kernel
theorem dX2_number_81 : decode cX2_number 81 = .ok (.aload_n 0, 1) := by decide +kernel
theorem dX2_number_82 : decode cX2_number 82 = .ok (.getfield 31, 3) := by decide +kernel
theorem dX2_number_85 : decode cX2_number 85 = .ok (.getfield 251, 3) := by decide +kernel
theorem dX2_number_88 : decode cX2_number 88 = .ok (.istore 4, 2) := by decide +kernel
theorem dX2_number_90 : decode cX2_number 90 = .ok (.aload_n 0, 1) := by decide +kernel
theorem dX2_number_91 : decode cX2_number 91 = .ok (.getfield 31, 3) := by decide +kernel
theorem dX2_number_94 : decode cX2_number 94 = .ok (.invokevirtual 154, 3) := by decide +kernel
theorem dX2_number_97 : decode cX2_number 97 = .ok (.iload 4, 2) := by decide +kernel
theorem dX2_number_99 : decode cX2_number 99 = .ok (.iload_n 1, 1) := by decide +kernel
theorem dX2_number_100 : decode cX2_number 100 = .ok (.if_icmp .lt 9, 3) := by decide +kernel
theorem dX2_number_103 : decode cX2_number 103 = .ok (.iload 4, 2) := by decide +kernel
theorem dX2_number_105 : decode cX2_number 105 = .ok (.iload_n 2, 1) := by decide +kernel
theorem dX2_number_106 : decode cX2_number 106 = .ok (.if_icmp .le 14, 3) := by decide +kernel
theorem dX2_number_109 : decode cX2_number 109 = .ok (.aload_n 0, 1) := by decide +kernel
theorem dX2_number_110 : decode cX2_number 110 = .ok (.iconst 2, 1) := by decide +kernel
theorem dX2_number_111 : decode cX2_number 111 = .ok (.aload_n 0, 1) := by decide +kernel
theorem dX2_number_112 : decode cX2_number 112 = .ok (.getfield 22, 3) := by decide +kernel
theorem dX2_number_115 : decode cX2_number 115 = .ok (.invokevirtual 146, 3) := by decide +kernel
theorem dX2_number_118 : decode cX2_number 118 = .ok (.iload_n 1, 1) := by decide +kernel
theorem dX2_number_119 : decode cX2_number 119 = .ok (.ireturn, 1) := by decide +kernel
theorem dX2_number_120 : decode cX2_number 120 = .ok (.iload 4, 2) := by decide +kernel
theorem dX2_number_122 : decode cX2_number 122 = .ok (.ireturn, 1) := by decide +kernel
theorem cw_X2_number_146 : CwV mi_X2_number mi_X2_fail yX2_fail RX2 146 2 := ⟨⟨w_667, w_669, w_2, w_103, w_670⟩, ⟨by decide, by decide⟩, by decide +kernel, by decide, by decide⟩
theorem cw_X2_number_154 : CwV mi_X2_number mi_X4_advance yX4_advance RX4 154 0 := ⟨⟨w_671, w_596, w_597, w_102, w_598⟩, ⟨by decide, by decide⟩, by decide +kernel, by decide, by decide⟩
theorem cw_X2_number_254 : CwV mi_X2_number mi_X4_isSign yX4_isSign RX4 254 1 := ⟨⟨w_680, w_681, w_682, w_102, w_683⟩, ⟨by decide, by decide⟩, by decide +kernel, by decide, by decide⟩
theorem j_X2_number_B109 {l : Launch} {Γ : Am}   : ∀ (r0 : Nat) (v1 : Int32) (z : Hp), J l Γ mi_X2_number cvI 0 0 109 [(0, .ref (mB Γ + r0)), (1, .int v1)] [] z (m_X2_number_B109  r0 v1 z) := by
  intro r0 v1 z
  unfold m_X2_number_B109
  refine j_aload_n (pc := 109) 0 dX2_number_109 rfl rfl ?_
  refine j_iconst (pc := 110) (v := 2) dX2_number_110 (by decide) ?_
  refine j_aload_n (pc := 111) 0 dX2_number_111 rfl rfl ?_
  refine j_getI (pc := 112) ok_X2 (by decide) rfl w_416 dX2_number_112 (fun x1 => ?_)
  refine j_isC (fun h3 => ?_)
  refine j_callV_V (pc := 115) (as := [.int 2, .int x1]) (mc2 := 0) (ms2 := 0) (ct_X2_fail _ _ _ _) h3 rfl cw_X2_number_146 dX2_number_115 (Nat.le_of_ble_eq_true rfl) rfl (by decide) (by decide) (fun _ z2 => ?_)
  refine j_iload_n (pc := 118) 1 dX2_number_118 rfl rfl ?_
  exact j_ireturn (pc := 119) dX2_number_119 rfl rfl
theorem j_X2_number_B88 {l : Launch} {Γ : Am}   : ∀ (r0 : Nat) (v1 : Int32) (v2 : Int32) (t0 : Int32) (z : Hp), J l Γ mi_X2_number cvI 0 0 88 [(0, .ref (mB Γ + r0)), (1, .int v1), (2, .int v2)] [.int t0] z (m_X2_number_B88  r0 v1 v2 t0 z) := by
  intro r0 v1 v2 t0 z
  unfold m_X2_number_B88
  refine j_istore (pc := 88) (lv2 := [(4, .int t0), (0, .ref (mB Γ + r0)), (1, .int v1), (2, .int v2)]) dX2_number_88 (by decide) rfl ?_
  refine j_aload_n (pc := 90) 1 dX2_number_90 rfl rfl ?_
  refine j_getR (pc := 91) ok_X2 (by decide) rfl w_411 dX2_number_91 (fun a4 => ?_)
  refine j_isC (fun h6 => ?_)
  refine j_callV_V (pc := 94) (as := []) (mc2 := 0) (ms2 := 0) (ct_X4_advance _ _) h6 rfl cw_X2_number_154 dX2_number_94 (Nat.le_of_ble_eq_true rfl) rfl (by decide) (by decide) (fun _ z5 => ?_)
  refine j_iload (pc := 97) 0 dX2_number_97 rfl ?_
  refine j_iload_n (pc := 99) 2 dX2_number_99 rfl rfl ?_
  refine j_icmp_lt (pc := 100) 109 dX2_number_100 (by decide) ?_ ?_
  · exact J.sub [1, 2] rfl (j_X2_number_B109 r0 v1 z5)
  refine j_iload (pc := 103) 0 dX2_number_103 rfl ?_
  refine j_iload_n (pc := 105) 3 dX2_number_105 rfl rfl ?_
  refine j_icmp_le (pc := 106) 120 dX2_number_106 (by decide) ?_ ?_
  · refine j_iload (pc := 120) 0 dX2_number_120 rfl ?_
    exact j_ireturn (pc := 122) dX2_number_122 rfl rfl
  exact J.sub [1, 2] rfl (j_X2_number_B109 r0 v1 z5)
theorem j_X2_number_B33 {l : Launch} {Γ : Am}   : ∀ (r0 : Nat) (v1 : Int32) (v2 : Int32) (v3 : Int32) (z : Hp), J l Γ mi_X2_number cvI 0 0 33 [(0, .ref (mB Γ + r0)), (1, .int v1), (2, .int v2), (3, .int v3)] [] z (m_X2_number_B33  r0 v1 v2 v3 z) := by
  intro r0 v1 v2 v3 z
  unfold m_X2_number_B33
  refine j_aload_n (pc := 33) 0 dX2_number_33 rfl rfl ?_
  refine j_aload_n (pc := 34) 0 dX2_number_34 rfl rfl ?_
  refine j_getR (pc := 35) ok_X2 (by decide) rfl w_411 dX2_number_35 (fun a7 => ?_)
  refine j_getI (pc := 38) ok_X4 (by decide) rfl w_389 dX2_number_38 (fun x8 => ?_)
  refine j_putI (pc := 41) ok_X2 (by decide) rfl w_416 (Or.inl rfl) rfl rfl dX2_number_41 (fun z9 => ?_)
  refine j_aload_n (pc := 44) 0 dX2_number_44 rfl rfl ?_
  refine j_getR (pc := 45) ok_X2 (by decide) rfl w_411 dX2_number_45 (fun a10 => ?_)
  refine j_getI (pc := 48) ok_X4 (by decide) rfl w_387 dX2_number_48 (fun x11 => ?_)
  refine j_iconst (pc := 51) (v := 2) dX2_number_51 (by decide) ?_
  refine j_icmp_eq (pc := 52) 66 dX2_number_52 (by decide) ?_ ?_
  · refine j_iload_n (pc := 66) 3 dX2_number_66 rfl rfl ?_
    refine j_if_eq (pc := 67) 81 dX2_number_67 (by decide) ?_ ?_
    · refine j_aload_n (pc := 81) 0 dX2_number_81 rfl rfl ?_
      refine j_getR (pc := 82) ok_X2 (by decide) rfl w_411 dX2_number_82 (fun a12 => ?_)
      refine j_getI (pc := 85) ok_X4 (by decide) rfl w_391 dX2_number_85 (fun x13 => ?_)
      exact J.sub [0, 1, 2] rfl (j_X2_number_B88 r0 v1 v2 x13 z9)
    refine j_aload_n (pc := 70) 0 dX2_number_70 rfl rfl ?_
    refine j_getR (pc := 71) ok_X2 (by decide) rfl w_411 dX2_number_71 (fun a14 => ?_)
    refine j_getI (pc := 74) ok_X4 (by decide) rfl w_391 dX2_number_74 (fun x15 => ?_)
    refine j_ineg (pc := 77) dX2_number_77 ?_
    refine j_goto (pc := 78) 88 dX2_number_78 (by decide) ?_
    exact J.sub [0, 1, 2] rfl (j_X2_number_B88 r0 v1 v2 (-x15) z9)
  refine j_aload_n (pc := 55) 0 dX2_number_55 rfl rfl ?_
  refine j_iconst (pc := 56) (v := 1) dX2_number_56 (by decide) ?_
  refine j_aload_n (pc := 57) 0 dX2_number_57 rfl rfl ?_
  refine j_getI (pc := 58) ok_X2 (by decide) rfl w_416 dX2_number_58 (fun x16 => ?_)
  refine j_isC (fun h18 => ?_)
  refine j_callV_V (pc := 61) (as := [.int 1, .int x16]) (mc2 := 0) (ms2 := 0) (ct_X2_fail _ _ _ _) h18 rfl cw_X2_number_146 dX2_number_61 (Nat.le_of_ble_eq_true rfl) rfl (by decide) (by decide) (fun _ z17 => ?_)
  refine j_iload_n (pc := 64) 1 dX2_number_64 rfl rfl ?_
  exact j_ireturn (pc := 65) dX2_number_65 rfl rfl
theorem j_X2_number_B21 {l : Launch} {Γ : Am}   : ∀ (r0 : Nat) (v1 : Int32) (v2 : Int32) (t0 : Int32) (z : Hp), J l Γ mi_X2_number cvI 0 0 21 [(0, .ref (mB Γ + r0)), (1, .int v1), (2, .int v2)] [.int t0] z (m_X2_number_B21  r0 v1 v2 t0 z) := by
  intro r0 v1 v2 t0 z
  unfold m_X2_number_B21
  refine j_istore_n (pc := 21) (lv2 := [(3, .int t0), (0, .ref (mB Γ + r0)), (1, .int v1), (2, .int v2)]) dX2_number_21 rfl (by decide) rfl ?_
  refine j_iload_n (pc := 22) 0 dX2_number_22 rfl rfl ?_
  refine j_if_eq (pc := 23) 33 dX2_number_23 (by decide) ?_ ?_
  · exact J.sub [1, 2, 3, 0] rfl (j_X2_number_B33 r0 v1 v2 t0 z)
  refine j_aload_n (pc := 26) 1 dX2_number_26 rfl rfl ?_
  refine j_getR (pc := 27) ok_X2 (by decide) rfl w_411 dX2_number_27 (fun a19 => ?_)
  refine j_isC (fun h21 => ?_)
  refine j_callV_V (pc := 30) (as := []) (mc2 := 0) (ms2 := 0) (ct_X4_advance _ _) h21 rfl cw_X2_number_154 dX2_number_30 (Nat.le_of_ble_eq_true rfl) rfl (by decide) (by decide) (fun _ z20 => ?_)
  exact J.sub [1, 2, 3, 0] rfl (j_X2_number_B33 r0 v1 v2 t0 z20)
theorem j_X2_number_B20 {l : Launch} {Γ : Am}   : ∀ (r0 : Nat) (v1 : Int32) (v2 : Int32) (z : Hp), J l Γ mi_X2_number cvI 0 0 20 [(0, .ref (mB Γ + r0)), (1, .int v1), (2, .int v2)] [] z (m_X2_number_B20  r0 v1 v2 z) := by
  intro r0 v1 v2 z
  unfold m_X2_number_B20
  refine j_iconst (pc := 20) (v := 0) dX2_number_20 (by decide) ?_
  exact J.sub [0, 1, 2] rfl (j_X2_number_B21 r0 v1 v2 0 z)
theorem ct_X2_number {l : Launch} {Γ : Am} (r0 : Nat) (v1 : Int32) (v2 : Int32) (z : Hp) : Ct l Γ yX2_number mi_X2_number cvI [.ref (mB Γ + r0), .int v1, .int v2] z (m_X2_number r0 v1 v2 z) := by
  refine Ct.ofJ (by decide) ⟨rfl, rfl⟩ (Nat.le_of_ble_eq_true rfl) ?_
  unfold m_X2_number
  show J l Γ mi_X2_number cvI 0 0 0 [(0, .ref (mB Γ + r0)), (1, .int v1), (2, .int v2)] [] z _
  refine j_iload_n (pc := 0) 1 dX2_number_0 rfl rfl ?_
  refine j_if_ge (pc := 1) 20 dX2_number_1 (by decide) ?_ ?_
  · exact J.sub [0, 1, 2] rfl (j_X2_number_B20 r0 v1 v2 z)
  refine j_aload_n (pc := 4) 0 dX2_number_4 rfl rfl ?_
  refine j_getR (pc := 5) ok_X2 (by decide) rfl w_411 dX2_number_5 (fun a22 => ?_)
  refine j_bipush (pc := 8) (v := 45) dX2_number_8 (by decide) ?_
  refine j_isC (fun h25 => ?_)
  refine j_callV_I (pc := 10) (as := [.int 45]) (mc2 := 0) (ms2 := 0) (ct_X4_isSign _ _ _) h25 rfl cw_X2_number_254 dX2_number_10 (Nat.le_of_ble_eq_true rfl) rfl (by decide) (by decide) (fun x24 z23 => ?_)
  refine j_if_eq (pc := 13) 20 dX2_number_13 (by decide) ?_ ?_
  · exact J.sub [0, 1, 2] rfl (j_X2_number_B20 r0 v1 v2 z23)
  refine j_iconst (pc := 16) (v := 1) dX2_number_16 (by decide) ?_
  refine j_goto (pc := 17) 21 dX2_number_17 (by decide) ?_
  exact J.sub [0, 1, 2] rfl (j_X2_number_B21 r0 v1 v2 1 z23)
theorem dX2_needWord_0 : decode cX2_needWord 0 = .ok (.aload_n 0, 1) := by decide +kernel
theorem dX2_needWord_1 : decode cX2_needWord 1 = .ok (.getfield 31, 3) := by decide +kernel
theorem dX2_needWord_4 : decode cX2_needWord 4 = .ok (.aload_n 1, 1) := by decide +kernel
theorem dX2_needWord_5 : decode cX2_needWord 5 = .ok (.invokevirtual 66, 3) := by decide +kernel
theorem dX2_needWord_8 : decode cX2_needWord 8 = .ok (.ifCond .ne 15, 3) := by decide +kernel
theorem dX2_needWord_11 : decode cX2_needWord 11 = .ok (.aload_n 0, 1) := by decide +kernel
theorem dX2_needWord_12 : decode cX2_needWord 12 = .ok (.iconst 1, 1) := by decide +kernel
theorem dX2_needWord_13 : decode cX2_needWord 13 = .ok (.aload_n 0, 1) := by decide +kernel
theorem dX2_needWord_14 : decode cX2_needWord 14 = .ok (.getfield 31, 3) := by decide +kernel
theorem dX2_needWord_17 : decode cX2_needWord 17 = .ok (.getfield 143, 3) := by decide +kernel
theorem dX2_needWord_20 : decode cX2_needWord 20 = .ok (.invokevirtual 146, 3) := by decide +kernel
theorem dX2_needWord_23 : decode cX2_needWord 23 = .ok (.aload_n 0, 1) := by decide +kernel
theorem dX2_needWord_24 : decode cX2_needWord 24 = .ok (.getfield 31, 3) := by decide +kernel
theorem dX2_needWord_27 : decode cX2_needWord 27 = .ok (.invokevirtual 154, 3) := by decide +kernel
theorem dX2_needWord_30 : decode cX2_needWord 30 = .ok (.return_, 1) := by decide +kernel
theorem cw_X2_needWord_154 : CwV mi_X2_needWord mi_X4_advance yX4_advance RX4 154 0 := ⟨⟨w_671, w_596, w_597, w_102, w_598⟩, ⟨by decide, by decide⟩, by decide +kernel, by decide, by decide⟩
theorem cw_X2_needWord_66 : CwV mi_X2_needWord mi_X4_isWord yX4_isWord RX4 66 1 := ⟨⟨w_611, w_612, w_613, w_102, w_614⟩, ⟨by decide, by decide⟩, by decide +kernel, by decide, by decide⟩
theorem cw_X2_needWord_146 : CwV mi_X2_needWord mi_X2_fail yX2_fail RX2 146 2 := ⟨⟨w_667, w_669, w_2, w_103, w_670⟩, ⟨by decide, by decide⟩, by decide +kernel, by decide, by decide⟩
theorem j_X2_needWord_B23 {l : Launch} {Γ : Am}   : ∀ (r0 : Nat) (z : Hp), J l Γ mi_X2_needWord cvV 0 0 23 [(0, .ref (mB Γ + r0))] [] z (m_X2_needWord_B23  r0 z) := by
  intro r0 z
  unfold m_X2_needWord_B23
  refine j_aload_n (pc := 23) 0 dX2_needWord_23 rfl rfl ?_
  refine j_getR (pc := 24) ok_X2 (by decide) rfl w_411 dX2_needWord_24 (fun a1 => ?_)
  refine j_isC (fun h3 => ?_)
  refine j_callV_V (pc := 27) (as := []) (mc2 := 0) (ms2 := 0) (ct_X4_advance _ _) h3 rfl cw_X2_needWord_154 dX2_needWord_27 (Nat.le_of_ble_eq_true rfl) rfl (by decide) (by decide) (fun _ z2 => ?_)
  exact j_return (pc := 30) dX2_needWord_30 rfl
theorem ct_X2_needWord {l : Launch} {Γ : Am} (r0 : Nat) (q1 : Nat) (z : Hp) : Ct l Γ yX2_needWord mi_X2_needWord cvV [.ref (mB Γ + r0), .ref (mT Γ q1)] z (m_X2_needWord r0 q1 z) := by
  refine Ct.ofJ (by decide) ⟨rfl, rfl⟩ (Nat.le_of_ble_eq_true rfl) ?_
  unfold m_X2_needWord
  show J l Γ mi_X2_needWord cvV 0 0 0 [(0, .ref (mB Γ + r0)), (1, .ref (mT Γ q1))] [] z _
  refine j_aload_n (pc := 0) 0 dX2_needWord_0 rfl rfl ?_
  refine j_getR (pc := 1) ok_X2 (by decide) rfl w_411 dX2_needWord_1 (fun a4 => ?_)
  refine j_aload_n (pc := 4) 1 dX2_needWord_4 rfl rfl ?_
  refine j_isC (fun h7 => ?_)
  refine j_callV_I (pc := 5) (as := [.ref (mT Γ q1)]) (mc2 := 0) (ms2 := 0) (ct_X4_isWord _ _ _) h7 rfl cw_X2_needWord_66 dX2_needWord_5 (Nat.le_of_ble_eq_true rfl) rfl (by decide) (by decide) (fun x6 z5 => ?_)
  refine j_if_ne (pc := 8) 23 dX2_needWord_8 (by decide) ?_ ?_
  · exact J.sub [0] rfl (j_X2_needWord_B23 r0 z5)
  refine j_aload_n (pc := 11) 0 dX2_needWord_11 rfl rfl ?_
  refine j_iconst (pc := 12) (v := 1) dX2_needWord_12 (by decide) ?_
  refine j_aload_n (pc := 13) 0 dX2_needWord_13 rfl rfl ?_
  refine j_getR (pc := 14) ok_X2 (by decide) rfl w_411 dX2_needWord_14 (fun a8 => ?_)
  refine j_getI (pc := 17) ok_X4 (by decide) rfl w_389 dX2_needWord_17 (fun x9 => ?_)
  refine j_isC (fun h11 => ?_)
  refine j_callV_V (pc := 20) (as := [.int 1, .int x9]) (mc2 := 0) (ms2 := 0) (ct_X2_fail _ _ _ _) h11 rfl cw_X2_needWord_146 dX2_needWord_20 (Nat.le_of_ble_eq_true rfl) rfl (by decide) (by decide) (fun _ z10 => ?_)
  exact J.sub [0] rfl (j_X2_needWord_B23 r0 z10)
theorem dX2_readGround_0 : decode cX2_readGround 0 = .ok (.aload_n 0, 1) := by decide +kernel
theorem dX2_readGround_1 : decode cX2_readGround 1 = .ok (.iconst 0, 1) := by decide +kernel
theorem dX2_readGround_2 : decode cX2_readGround 2 = .ok (.iconst 3, 1) := by decide +kernel
theorem dX2_readGround_3 : decode cX2_readGround 3 = .ok (.invokevirtual 157, 3) := by decide +kernel
theorem dX2_readGround_6 : decode cX2_readGround 6 = .ok (.istore_n 1, 1) := by decide +kernel
theorem dX2_readGround_7 : decode cX2_readGround 7 = .ok (.aload_n 0, 1) := by decide +kernel
theorem dX2_readGround_8 : decode cX2_readGround 8 = .ok (.getfield 9, 3) := by decide +kernel
theorem dX2_readGround_11 : decode cX2_readGround 11 = .ok (.iload_n 1, 1) := by decide +kernel
theorem dX2_readGround_12 : decode cX2_readGround 12 = .ok (.iaload, 1) := by decide +kernel
theorem dX2_readGround_13 : decode cX2_readGround 13 = .ok (.ifCond .eq 12, 3) := by decide +kernel
theorem dX2_readGround_16 : decode cX2_readGround 16 = .ok (.aload_n 0, 1) := by decide +kernel
theorem dX2_readGround_17 : decode cX2_readGround 17 = .ok (.iconst 2, 1) := by decide +kernel
theorem dX2_readGround_18 : decode cX2_readGround 18 = .ok (.aload_n 0, 1) := by decide +kernel
theorem dX2_readGround_19 : decode cX2_readGround 19 = .ok (.getfield 22, 3) := by decide +kernel
theorem dX2_readGround_22 : decode cX2_readGround 22 = .ok (.invokevirtual 146, 3) := by decide +kernel
theorem dX2_readGround_25 : decode cX2_readGround 25 = .ok (.aload_n 0, 1) := by decide +kernel
theorem dX2_readGround_26 : decode cX2_readGround 26 = .ok (.getfield 9, 3) := by decide +kernel
theorem dX2_readGround_29 : decode cX2_readGround 29 = .ok (.iload_n 1, 1) := by decide +kernel
theorem dX2_readGround_30 : decode cX2_readGround 30 = .ok (.iconst 1, 1) := by decide +kernel
theorem dX2_readGround_31 : decode cX2_readGround 31 = .ok (.iastore, 1) := by decide +kernel
theorem dX2_readGround_32 : decode cX2_readGround 32 = .ok (.aload_n 0, 1) := by decide +kernel
theorem dX2_readGround_33 : decode cX2_readGround 33 = .ok (.ldc 161, 2) := by decide +kernel
theorem dX2_readGround_35 : decode cX2_readGround 35 = .ok (.invokevirtual 163, 3) := by decide +kernel
theorem dX2_readGround_38 : decode cX2_readGround 38 = .ok (.aload_n 0, 1) := by decide +kernel
theorem dX2_readGround_39 : decode cX2_readGround 39 = .ok (.getfield 35, 3) := by decide +kernel
theorem dX2_readGround_42 : decode cX2_readGround 42 = .ok (.getfield 167, 3) := by decide +kernel
theorem dX2_readGround_45 : decode cX2_readGround 45 = .ok (.getfield 171, 3) := by decide +kernel
theorem dX2_readGround_48 : decode cX2_readGround 48 = .ok (.iload_n 1, 1) := by decide +kernel
theorem dX2_readGround_49 : decode cX2_readGround 49 = .ok (.aload_n 0, 1) := by decide +kernel
theorem dX2_readGround_50 : decode cX2_readGround 50 = .ok (.iconst 0, 1) := by decide +kernel
theorem dX2_readGround_51 : decode cX2_readGround 51 = .ok (.bipush 15, 2) := by decide +kernel
theorem dX2_readGround_53 : decode cX2_readGround 53 = .ok (.invokevirtual 157, 3) := by decide +kernel
theorem dX2_readGround_56 : decode cX2_readGround 56 = .ok (.iastore, 1) := by decide +kernel
theorem dX2_readGround_57 : decode cX2_readGround 57 = .ok (.aload_n 0, 1) := by decide +kernel
theorem dX2_readGround_58 : decode cX2_readGround 58 = .ok (.ldc 175, 2) := by decide +kernel
theorem dX2_readGround_60 : decode cX2_readGround 60 = .ok (.invokevirtual 163, 3) := by decide +kernel
theorem dX2_readGround_63 : decode cX2_readGround 63 = .ok (.aload_n 0, 1) := by decide +kernel
theorem dX2_readGround_64 : decode cX2_readGround 64 = .ok (.getfield 35, 3) := by decide +kernel
theorem dX2_readGround_67 : decode cX2_readGround 67 = .ok (.getfield 167, 3) := by decide +kernel
theorem dX2_readGround_70 : decode cX2_readGround 70 = .ok (.getfield 177, 3) := by decide +kernel
theorem dX2_readGround_73 : decode cX2_readGround 73 = .ok (.iload_n 1, 1) := by decide +kernel
theorem dX2_readGround_74 : decode cX2_readGround 74 = .ok (.aload_n 0, 1) := by decide +kernel
theorem dX2_readGround_75 : decode cX2_readGround 75 = .ok (.iconst 0, 1) := by decide +kernel
theorem dX2_readGround_76 : decode cX2_readGround 76 = .ok (.bipush 15, 2) := by decide +kernel
theorem dX2_readGround_78 : decode cX2_readGround 78 = .ok (.invokevirtual 157, 3) := by decide +kernel
theorem dX2_readGround_81 : decode cX2_readGround 81 = .ok (.iastore, 1) := by decide +kernel
theorem dX2_readGround_82 : decode cX2_readGround 82 = .ok (.aload_n 0, 1) := by decide +kernel
theorem dX2_readGround_83 : decode cX2_readGround 83 = .ok (.ldc 180, 2) := by decide +kernel
theorem dX2_readGround_85 : decode cX2_readGround 85 = .ok (.invokevirtual 163, 3) := by decide +kernel
theorem dX2_readGround_88 : decode cX2_readGround 88 = .ok (.aload_n 0, 1) := by decide +kernel
theorem dX2_readGround_89 : decode cX2_readGround 89 = .ok (.getfield 35, 3) := by decide +kernel
theorem dX2_readGround_92 : decode cX2_readGround 92 = .ok (.getfield 167, 3) := by decide +kernel
theorem dX2_readGround_95 : decode cX2_readGround 95 = .ok (.getfield 182, 3) := by decide +kernel
theorem dX2_readGround_98 : decode cX2_readGround 98 = .ok (.iload_n 1, 1) := by decide +kernel
theorem dX2_readGround_99 : decode cX2_readGround 99 = .ok (.aload_n 0, 1) := by decide +kernel
theorem dX2_readGround_100 : decode cX2_readGround 100 = .ok (.iconst 1, 1) := by decide +kernel
theorem dX2_readGround_101 : decode cX2_readGround 101 = .ok (.sipush 999, 3) := by decide +kernel
theorem dX2_readGround_104 : decode cX2_readGround 104 = .ok (.invokevirtual 157, 3) := by decide +kernel
theorem dX2_readGround_107 : decode cX2_readGround 107 = .ok (.iastore, 1) := by decide +kernel
theorem dX2_readGround_108 : decode cX2_readGround 108 = .ok (.aload_n 0, 1) := by decide +kernel
theorem dX2_readGround_109 : decode cX2_readGround 109 = .ok (.ldc 184, 2) := by decide +kernel
theorem dX2_readGround_111 : decode cX2_readGround 111 = .ok (.invokevirtual 163, 3) := by decide +kernel
theorem dX2_readGround_114 : decode cX2_readGround 114 = .ok (.aload_n 0, 1) := by decide +kernel
theorem dX2_readGround_115 : decode cX2_readGround 115 = .ok (.getfield 35, 3) := by decide +kernel
theorem dX2_readGround_118 : decode cX2_readGround 118 = .ok (.getfield 167, 3) := by decide +kernel
theorem dX2_readGround_121 : decode cX2_readGround 121 = .ok (.getfield 186, 3) := by decide +kernel
theorem dX2_readGround_124 : decode cX2_readGround 124 = .ok (.iload_n 1, 1) := by decide +kernel
theorem dX2_readGround_125 : decode cX2_readGround 125 = .ok (.aload_n 0, 1) := by decide +kernel
theorem dX2_readGround_126 : decode cX2_readGround 126 = .ok (.bipush (-30), 2) := by decide +kernel
theorem dX2_readGround_128 : decode cX2_readGround 128 = .ok (.iconst 0, 1) := by decide +kernel
theorem dX2_readGround_129 : decode cX2_readGround 129 = .ok (.invokevirtual 157, 3) := by decide +kernel
theorem dX2_readGround_132 : decode cX2_readGround 132 = .ok (.iastore, 1) := by decide +kernel
theorem dX2_readGround_133 : decode cX2_readGround 133 = .ok (.return_, 1) := by decide +kernel
theorem cw_X2_readGround_163 : CwV mi_X2_readGround mi_X2_needWord yX2_needWord RX2 163 1 := ⟨⟨w_685, w_687, w_5, w_103, w_688⟩, ⟨by decide, by decide⟩, by decide +kernel, by decide, by decide⟩
theorem cw_X2_readGround_157 : CwV mi_X2_readGround mi_X2_number yX2_number RX2 157 2 := ⟨⟨w_676, w_678, w_4, w_103, w_679⟩, ⟨by decide, by decide⟩, by decide +kernel, by decide, by decide⟩
theorem cw_X2_readGround_146 : CwV mi_X2_readGround mi_X2_fail yX2_fail RX2 146 2 := ⟨⟨w_667, w_669, w_2, w_103, w_670⟩, ⟨by decide, by decide⟩, by decide +kernel, by decide, by decide⟩
theorem j_X2_readGround_B25 {l : Launch} {Γ : Am}   : ∀ (r0 : Nat) (v1 : Int32) (z : Hp), J l Γ mi_X2_readGround cvV 0 0 25 [(0, .ref (mB Γ + r0)), (1, .int v1)] [] z (m_X2_readGround_B25  r0 v1 z) := by
  intro r0 v1 z
  unfold m_X2_readGround_B25
  refine j_aload_n (pc := 25) 0 dX2_readGround_25 rfl rfl ?_
  refine j_getR (pc := 26) ok_X2 (by decide) rfl w_412 dX2_readGround_26 (fun a1 => ?_)
  refine j_iload_n (pc := 29) 1 dX2_readGround_29 rfl rfl ?_
  refine j_iconst (pc := 30) (v := 1) dX2_readGround_30 (by decide) ?_
  refine j_iastore (pc := 31) dX2_readGround_31 (fun z2 => ?_)
  refine j_aload_n (pc := 32) 0 dX2_readGround_32 rfl rfl ?_
  refine j_ldcS (pc := 33) (w := 1) (tx := "lead") dX2_readGround_33 (by decide +kernel) ?_
  refine j_isC (fun h4 => ?_)
  refine j_callV_V (pc := 35) (as := [.ref (mT Γ 1)]) (mc2 := 0) (ms2 := 0) (ct_X2_needWord _ _ _) h4 rfl cw_X2_readGround_163 dX2_readGround_35 (Nat.le_of_ble_eq_true rfl) rfl (by decide) (by decide) (fun _ z3 => ?_)
  refine j_aload_n (pc := 38) 0 dX2_readGround_38 rfl rfl ?_
  refine j_getR (pc := 39) ok_X2 (by decide) rfl w_413 dX2_readGround_39 (fun a5 => ?_)
  refine j_getR (pc := 42) ok_X8 (by decide) rfl w_291 dX2_readGround_42 (fun a6 => ?_)
  refine j_getR (pc := 45) ok_X7 (by decide) rfl w_138 dX2_readGround_45 (fun a7 => ?_)
  refine j_iload_n (pc := 48) 1 dX2_readGround_48 rfl rfl ?_
  refine j_aload_n (pc := 49) 0 dX2_readGround_49 rfl rfl ?_
  refine j_iconst (pc := 50) (v := 0) dX2_readGround_50 (by decide) ?_
  refine j_bipush (pc := 51) (v := 15) dX2_readGround_51 (by decide) ?_
  refine j_isC (fun h10 => ?_)
  refine j_callV_I (pc := 53) (as := [.int 0, .int 15]) (mc2 := 0) (ms2 := 0) (ct_X2_number _ _ _ _) h10 rfl cw_X2_readGround_157 dX2_readGround_53 (Nat.le_of_ble_eq_true rfl) rfl (by decide) (by decide) (fun x9 z8 => ?_)
  refine j_iastore (pc := 56) dX2_readGround_56 (fun z11 => ?_)
  refine j_aload_n (pc := 57) 0 dX2_readGround_57 rfl rfl ?_
  refine j_ldcS (pc := 58) (w := 2) (tx := "ice") dX2_readGround_58 (by decide +kernel) ?_
  refine j_isC (fun h13 => ?_)
  refine j_callV_V (pc := 60) (as := [.ref (mT Γ 2)]) (mc2 := 0) (ms2 := 0) (ct_X2_needWord _ _ _) h13 rfl cw_X2_readGround_163 dX2_readGround_60 (Nat.le_of_ble_eq_true rfl) rfl (by decide) (by decide) (fun _ z12 => ?_)
  refine j_aload_n (pc := 63) 0 dX2_readGround_63 rfl rfl ?_
  refine j_getR (pc := 64) ok_X2 (by decide) rfl w_413 dX2_readGround_64 (fun a14 => ?_)
  refine j_getR (pc := 67) ok_X8 (by decide) rfl w_291 dX2_readGround_67 (fun a15 => ?_)
  refine j_getR (pc := 70) ok_X7 (by decide) rfl w_141 dX2_readGround_70 (fun a16 => ?_)
  refine j_iload_n (pc := 73) 1 dX2_readGround_73 rfl rfl ?_
  refine j_aload_n (pc := 74) 0 dX2_readGround_74 rfl rfl ?_
  refine j_iconst (pc := 75) (v := 0) dX2_readGround_75 (by decide) ?_
  refine j_bipush (pc := 76) (v := 15) dX2_readGround_76 (by decide) ?_
  refine j_isC (fun h19 => ?_)
  refine j_callV_I (pc := 78) (as := [.int 0, .int 15]) (mc2 := 0) (ms2 := 0) (ct_X2_number _ _ _ _) h19 rfl cw_X2_readGround_157 dX2_readGround_78 (Nat.le_of_ble_eq_true rfl) rfl (by decide) (by decide) (fun x18 z17 => ?_)
  refine j_iastore (pc := 81) dX2_readGround_81 (fun z20 => ?_)
  refine j_aload_n (pc := 82) 0 dX2_readGround_82 rfl rfl ?_
  refine j_ldcS (pc := 83) (w := 3) (tx := "latent") dX2_readGround_83 (by decide +kernel) ?_
  refine j_isC (fun h22 => ?_)
  refine j_callV_V (pc := 85) (as := [.ref (mT Γ 3)]) (mc2 := 0) (ms2 := 0) (ct_X2_needWord _ _ _) h22 rfl cw_X2_readGround_163 dX2_readGround_85 (Nat.le_of_ble_eq_true rfl) rfl (by decide) (by decide) (fun _ z21 => ?_)
  refine j_aload_n (pc := 88) 0 dX2_readGround_88 rfl rfl ?_
  refine j_getR (pc := 89) ok_X2 (by decide) rfl w_413 dX2_readGround_89 (fun a23 => ?_)
  refine j_getR (pc := 92) ok_X8 (by decide) rfl w_291 dX2_readGround_92 (fun a24 => ?_)
  refine j_getR (pc := 95) ok_X7 (by decide) rfl w_144 dX2_readGround_95 (fun a25 => ?_)
  refine j_iload_n (pc := 98) 1 dX2_readGround_98 rfl rfl ?_
  refine j_aload_n (pc := 99) 0 dX2_readGround_99 rfl rfl ?_
  refine j_iconst (pc := 100) (v := 1) dX2_readGround_100 (by decide) ?_
  refine j_sipush (pc := 101) (v := 999) dX2_readGround_101 (by decide) ?_
  refine j_isC (fun h28 => ?_)
  refine j_callV_I (pc := 104) (as := [.int 1, .int 999]) (mc2 := 0) (ms2 := 0) (ct_X2_number _ _ _ _) h28 rfl cw_X2_readGround_157 dX2_readGround_104 (Nat.le_of_ble_eq_true rfl) rfl (by decide) (by decide) (fun x27 z26 => ?_)
  refine j_iastore (pc := 107) dX2_readGround_107 (fun z29 => ?_)
  refine j_aload_n (pc := 108) 0 dX2_readGround_108 rfl rfl ?_
  refine j_ldcS (pc := 109) (w := 4) (tx := "mark") dX2_readGround_109 (by decide +kernel) ?_
  refine j_isC (fun h31 => ?_)
  refine j_callV_V (pc := 111) (as := [.ref (mT Γ 4)]) (mc2 := 0) (ms2 := 0) (ct_X2_needWord _ _ _) h31 rfl cw_X2_readGround_163 dX2_readGround_111 (Nat.le_of_ble_eq_true rfl) rfl (by decide) (by decide) (fun _ z30 => ?_)
  refine j_aload_n (pc := 114) 0 dX2_readGround_114 rfl rfl ?_
  refine j_getR (pc := 115) ok_X2 (by decide) rfl w_413 dX2_readGround_115 (fun a32 => ?_)
  refine j_getR (pc := 118) ok_X8 (by decide) rfl w_291 dX2_readGround_118 (fun a33 => ?_)
  refine j_getR (pc := 121) ok_X7 (by decide) rfl w_147 dX2_readGround_121 (fun a34 => ?_)
  refine j_iload_n (pc := 124) 1 dX2_readGround_124 rfl rfl ?_
  refine j_aload_n (pc := 125) 0 dX2_readGround_125 rfl rfl ?_
  refine j_bipush (pc := 126) (v := (-30)) dX2_readGround_126 (by decide) ?_
  refine j_iconst (pc := 128) (v := 0) dX2_readGround_128 (by decide) ?_
  refine j_isC (fun h37 => ?_)
  refine j_callV_I (pc := 129) (as := [.int (-30), .int 0]) (mc2 := 0) (ms2 := 0) (ct_X2_number _ _ _ _) h37 rfl cw_X2_readGround_157 dX2_readGround_129 (Nat.le_of_ble_eq_true rfl) rfl (by decide) (by decide) (fun x36 z35 => ?_)
  refine j_iastore (pc := 132) dX2_readGround_132 (fun z38 => ?_)
  exact j_return (pc := 133) dX2_readGround_133 rfl
theorem ct_X2_readGround {l : Launch} {Γ : Am} (r0 : Nat) (z : Hp) : Ct l Γ yX2_readGround mi_X2_readGround cvV [.ref (mB Γ + r0)] z (m_X2_readGround r0 z) := by
  refine Ct.ofJ (by decide) ⟨rfl, rfl⟩ (Nat.le_of_ble_eq_true rfl) ?_
  unfold m_X2_readGround
  show J l Γ mi_X2_readGround cvV 0 0 0 [(0, .ref (mB Γ + r0))] [] z _
  refine j_aload_n (pc := 0) 0 dX2_readGround_0 rfl rfl ?_
  refine j_iconst (pc := 1) (v := 0) dX2_readGround_1 (by decide) ?_
  refine j_iconst (pc := 2) (v := 3) dX2_readGround_2 (by decide) ?_
  refine j_isC (fun h41 => ?_)
  refine j_callV_I (pc := 3) (as := [.int 0, .int 3]) (mc2 := 0) (ms2 := 0) (ct_X2_number _ _ _ _) h41 rfl cw_X2_readGround_157 dX2_readGround_3 (Nat.le_of_ble_eq_true rfl) rfl (by decide) (by decide) (fun x40 z39 => ?_)
  refine j_istore_n (pc := 6) (lv2 := [(1, .int x40), (0, .ref (mB Γ + r0))]) dX2_readGround_6 rfl (by decide) rfl ?_
  refine j_aload_n (pc := 7) 1 dX2_readGround_7 rfl rfl ?_
  refine j_getR (pc := 8) ok_X2 (by decide) rfl w_412 dX2_readGround_8 (fun a42 => ?_)
  refine j_iload_n (pc := 11) 0 dX2_readGround_11 rfl rfl ?_
  refine j_iaload (pc := 12) dX2_readGround_12 (fun x43 => ?_)
  refine j_if_eq (pc := 13) 25 dX2_readGround_13 (by decide) ?_ ?_
  · exact J.sub [1, 0] rfl (j_X2_readGround_B25 r0 x40 z39)
  refine j_aload_n (pc := 16) 1 dX2_readGround_16 rfl rfl ?_
  refine j_iconst (pc := 17) (v := 2) dX2_readGround_17 (by decide) ?_
  refine j_aload_n (pc := 18) 1 dX2_readGround_18 rfl rfl ?_
  refine j_getI (pc := 19) ok_X2 (by decide) rfl w_416 dX2_readGround_19 (fun x44 => ?_)
  refine j_isC (fun h46 => ?_)
  refine j_callV_V (pc := 22) (as := [.int 2, .int x44]) (mc2 := 0) (ms2 := 0) (ct_X2_fail _ _ _ _) h46 rfl cw_X2_readGround_146 dX2_readGround_22 (Nat.le_of_ble_eq_true rfl) rfl (by decide) (by decide) (fun _ z45 => ?_)
  exact J.sub [1, 0] rfl (j_X2_readGround_B25 r0 x40 z45)
theorem dX2_fillBlock_0 : decode cX2_fillBlock 0 = .ok (.iload_n 2, 1) := by decide +kernel
theorem dX2_fillBlock_1 : decode cX2_fillBlock 1 = .ok (.istore 6, 2) := by decide +kernel
theorem dX2_fillBlock_3 : decode cX2_fillBlock 3 = .ok (.iload 6, 2) := by decide +kernel
theorem dX2_fillBlock_5 : decode cX2_fillBlock 5 = .ok (.iload 4, 2) := by decide +kernel
theorem dX2_fillBlock_7 : decode cX2_fillBlock 7 = .ok (.if_icmp .gt 36, 3) := by decide +kernel
theorem dX2_fillBlock_10 : decode cX2_fillBlock 10 = .ok (.iload_n 1, 1) := by decide +kernel
theorem dX2_fillBlock_11 : decode cX2_fillBlock 11 = .ok (.istore 7, 2) := by decide +kernel
theorem dX2_fillBlock_13 : decode cX2_fillBlock 13 = .ok (.iload 7, 2) := by decide +kernel
theorem dX2_fillBlock_15 : decode cX2_fillBlock 15 = .ok (.iload_n 3, 1) := by decide +kernel
theorem dX2_fillBlock_16 : decode cX2_fillBlock 16 = .ok (.if_icmp .gt 21, 3) := by decide +kernel
theorem dX2_fillBlock_19 : decode cX2_fillBlock 19 = .ok (.aload_n 0, 1) := by decide +kernel
theorem dX2_fillBlock_20 : decode cX2_fillBlock 20 = .ok (.bipush 12, 2) := by decide +kernel
theorem dX2_fillBlock_22 : decode cX2_fillBlock 22 = .ok (.iload 6, 2) := by decide +kernel
theorem dX2_fillBlock_24 : decode cX2_fillBlock 24 = .ok (.imul, 1) := by decide +kernel
theorem dX2_fillBlock_25 : decode cX2_fillBlock 25 = .ok (.iload 7, 2) := by decide +kernel
theorem dX2_fillBlock_27 : decode cX2_fillBlock 27 = .ok (.iadd, 1) := by decide +kernel
theorem dX2_fillBlock_28 : decode cX2_fillBlock 28 = .ok (.iload 5, 2) := by decide +kernel
theorem dX2_fillBlock_30 : decode cX2_fillBlock 30 = .ok (.iastore, 1) := by decide +kernel
theorem dX2_fillBlock_31 : decode cX2_fillBlock 31 = .ok (.iinc 7 1, 3) := by decide +kernel
theorem dX2_fillBlock_34 : decode cX2_fillBlock 34 = .ok (.goto (-21), 3) := by decide +kernel
theorem dX2_fillBlock_37 : decode cX2_fillBlock 37 = .ok (.iinc 6 1, 3) := by decide +kernel
theorem dX2_fillBlock_40 : decode cX2_fillBlock 40 = .ok (.goto (-37), 3) := by decide +kernel
theorem dX2_fillBlock_43 : decode cX2_fillBlock 43 = .ok (.return_, 1) := by decide +kernel
theorem j_X2_fillBlock_B37 {l : Launch} {Γ : Am} {k3 : Nat → Int32 → Int32 → Int32 → Int32 → Int32 → Hp → Option (Unit × Hp)} (hL3 : ∀ (r0 : Nat) (v1 : Int32) (v3 : Int32) (v4 : Int32) (v5 : Int32) (v6 : Int32) (z : Hp), J l Γ mi_X2_fillBlock cvV 0 0 3 [(0, .ref (mB Γ + r0)), (1, .int v1), (3, .int v3), (4, .int v4), (5, .int v5), (6, .int v6)] [] z (k3 r0 v1 v3 v4 v5 v6 z)) : ∀ (r0 : Nat) (v1 : Int32) (v3 : Int32) (v4 : Int32) (v5 : Int32) (v6 : Int32) (z : Hp), J l Γ mi_X2_fillBlock cvV 0 0 37 [(0, .ref (mB Γ + r0)), (1, .int v1), (3, .int v3), (4, .int v4), (5, .int v5), (6, .int v6)] [] z (m_X2_fillBlock_B37 k3 r0 v1 v3 v4 v5 v6 z) := by
  intro r0 v1 v3 v4 v5 v6 z
  unfold m_X2_fillBlock_B37
  refine j_iinc (pc := 37) (n0 := 5) (v0 := v6 + 1) (lv2 := [(6, .int (v6 + 1)), (0, .ref (mB Γ + r0)), (1, .int v1), (3, .int v3), (4, .int v4), (5, .int v5)]) dX2_fillBlock_37 rfl rfl (by decide) rfl ?_
  refine j_goto (pc := 40) 3 dX2_fillBlock_40 (by decide) ?_
  exact J.sub [1, 2, 3, 4, 5, 0] rfl (hL3 r0 v1 v3 v4 v5 (v6 + 1) z)
theorem j_X2_fillBlock_L13 {l : Launch} {Γ : Am} {k37 : Nat → Int32 → Int32 → Int32 → Int32 → Int32 → Hp → Option (Unit × Hp)} (hL37 : ∀ (r0 : Nat) (v1 : Int32) (v3 : Int32) (v4 : Int32) (v5 : Int32) (v6 : Int32) (z : Hp), J l Γ mi_X2_fillBlock cvV 0 0 37 [(0, .ref (mB Γ + r0)), (1, .int v1), (3, .int v3), (4, .int v4), (5, .int v5), (6, .int v6)] [] z (k37 r0 v1 v3 v4 v5 v6 z)) : ∀ (f : Nat), ∀ (r0 : Nat) (v1 : Int32) (v3 : Int32) (v4 : Int32) (v5 : Int32) (v6 : Int32) (v7 : Int32) (z : Hp), J l Γ mi_X2_fillBlock cvV 0 0 13 [(0, .ref (mB Γ + r0)), (1, .int v1), (3, .int v3), (4, .int v4), (5, .int v5), (6, .int v6), (7, .int v7)] [] z (m_X2_fillBlock_L13 k37 f r0 v1 v3 v4 v5 v6 v7 z) := by
  intro f
  induction f with
  | zero => intro r0 v1 v3 v4 v5 v6 v7 z; exact J.none
  | succ f hL13 =>
    intro r0 v1 v3 v4 v5 v6 v7 z
    rw [m_X2_fillBlock_L13]
    refine j_iload (pc := 13) 6 dX2_fillBlock_13 rfl ?_
    refine j_iload_n (pc := 15) 2 dX2_fillBlock_15 rfl rfl ?_
    refine j_icmp_gt (pc := 16) 37 dX2_fillBlock_16 (by decide) ?_ ?_
    · exact J.sub [0, 1, 2, 3, 4, 5] rfl (hL37 r0 v1 v3 v4 v5 v6 z)
    refine j_aload_n (pc := 19) 0 dX2_fillBlock_19 rfl rfl ?_
    refine j_bipush (pc := 20) (v := 12) dX2_fillBlock_20 (by decide) ?_
    refine j_iload (pc := 22) 5 dX2_fillBlock_22 rfl ?_
    refine j_imul (pc := 24) dX2_fillBlock_24 ?_
    refine j_iload (pc := 25) 6 dX2_fillBlock_25 rfl ?_
    refine j_iadd (pc := 27) dX2_fillBlock_27 ?_
    refine j_iload (pc := 28) 4 dX2_fillBlock_28 rfl ?_
    refine j_iastore (pc := 30) dX2_fillBlock_30 (fun z1 => ?_)
    refine j_iinc (pc := 31) (n0 := 6) (v0 := v7 + 1) (lv2 := [(7, .int (v7 + 1)), (0, .ref (mB Γ + r0)), (1, .int v1), (3, .int v3), (4, .int v4), (5, .int v5), (6, .int v6)]) dX2_fillBlock_31 rfl rfl (by decide) rfl ?_
    refine j_goto (pc := 34) 13 dX2_fillBlock_34 (by decide) ?_
    exact J.sub [1, 2, 3, 4, 5, 6, 0] rfl (hL13 r0 v1 v3 v4 v5 v6 (v7 + 1) z1)
theorem j_X2_fillBlock_L3 {l : Launch} {Γ : Am}   : ∀ (f : Nat), ∀ (r0 : Nat) (v1 : Int32) (v3 : Int32) (v4 : Int32) (v5 : Int32) (v6 : Int32) (z : Hp), J l Γ mi_X2_fillBlock cvV 0 0 3 [(0, .ref (mB Γ + r0)), (1, .int v1), (3, .int v3), (4, .int v4), (5, .int v5), (6, .int v6)] [] z (m_X2_fillBlock_L3  f r0 v1 v3 v4 v5 v6 z) := by
  intro f
  induction f with
  | zero => intro r0 v1 v3 v4 v5 v6 z; exact J.none
  | succ f hL3 =>
    intro r0 v1 v3 v4 v5 v6 z
    rw [m_X2_fillBlock_L3]
    refine j_iload (pc := 3) 5 dX2_fillBlock_3 rfl ?_
    refine j_iload (pc := 5) 3 dX2_fillBlock_5 rfl ?_
    refine j_icmp_gt (pc := 7) 43 dX2_fillBlock_7 (by decide) ?_ ?_
    · exact j_return (pc := 43) dX2_fillBlock_43 rfl
    refine j_iload_n (pc := 10) 1 dX2_fillBlock_10 rfl rfl ?_
    refine j_istore (pc := 11) (lv2 := [(7, .int v1), (0, .ref (mB Γ + r0)), (1, .int v1), (3, .int v3), (4, .int v4), (5, .int v5), (6, .int v6)]) dX2_fillBlock_11 (by decide) rfl ?_
    exact J.sub [1, 2, 3, 4, 5, 6, 0] rfl ((j_X2_fillBlock_L13 (j_X2_fillBlock_B37 hL3) FU) r0 v1 v3 v4 v5 v6 v1 z)
theorem ct_X2_fillBlock {l : Launch} {Γ : Am} (r0 : Nat) (v1 : Int32) (v2 : Int32) (v3 : Int32) (v4 : Int32) (v5 : Int32) (z : Hp) : Ct l Γ yX2_fillBlock mi_X2_fillBlock cvV [.ref (mB Γ + r0), .int v1, .int v2, .int v3, .int v4, .int v5] z (m_X2_fillBlock r0 v1 v2 v3 v4 v5 z) := by
  refine Ct.ofJ (by decide) ⟨rfl, rfl⟩ (Nat.le_of_ble_eq_true rfl) ?_
  unfold m_X2_fillBlock
  show J l Γ mi_X2_fillBlock cvV 0 0 0 [(0, .ref (mB Γ + r0)), (1, .int v1), (2, .int v2), (3, .int v3), (4, .int v4), (5, .int v5)] [] z _
  refine j_iload_n (pc := 0) 2 dX2_fillBlock_0 rfl rfl ?_
  refine j_istore (pc := 1) (lv2 := [(6, .int v2), (0, .ref (mB Γ + r0)), (1, .int v1), (2, .int v2), (3, .int v3), (4, .int v4), (5, .int v5)]) dX2_fillBlock_1 (by decide) rfl ?_
  exact J.sub [1, 2, 4, 5, 6, 0] rfl ((j_X2_fillBlock_L3 FU) r0 v1 v3 v4 v5 v2 z)
theorem dX2_readLay_0 : decode cX2_readLay 0 = .ok (.aload_n 0, 1) := by decide +kernel
theorem dX2_readLay_1 : decode cX2_readLay 1 = .ok (.iconst 0, 1) := by decide +kernel
theorem dX2_readLay_2 : decode cX2_readLay 2 = .ok (.bipush 11, 2) := by decide +kernel
theorem dX2_readLay_4 : decode cX2_readLay 4 = .ok (.invokevirtual 157, 3) := by decide +kernel
theorem dX2_readLay_7 : decode cX2_readLay 7 = .ok (.istore_n 1, 1) := by decide +kernel
theorem dX2_readLay_8 : decode cX2_readLay 8 = .ok (.aload_n 0, 1) := by decide +kernel
theorem dX2_readLay_9 : decode cX2_readLay 9 = .ok (.iconst 0, 1) := by decide +kernel
theorem dX2_readLay_10 : decode cX2_readLay 10 = .ok (.bipush 11, 2) := by decide +kernel
theorem dX2_readLay_12 : decode cX2_readLay 12 = .ok (.invokevirtual 157, 3) := by decide +kernel
theorem dX2_readLay_15 : decode cX2_readLay 15 = .ok (.istore_n 2, 1) := by decide +kernel
theorem dX2_readLay_16 : decode cX2_readLay 16 = .ok (.aload_n 0, 1) := by decide +kernel
theorem dX2_readLay_17 : decode cX2_readLay 17 = .ok (.ldc 188, 2) := by decide +kernel
theorem dX2_readLay_19 : decode cX2_readLay 19 = .ok (.invokevirtual 163, 3) := by decide +kernel
theorem dX2_readLay_22 : decode cX2_readLay 22 = .ok (.aload_n 0, 1) := by decide +kernel
theorem dX2_readLay_23 : decode cX2_readLay 23 = .ok (.iload_n 1, 1) := by decide +kernel
theorem dX2_readLay_24 : decode cX2_readLay 24 = .ok (.bipush 11, 2) := by decide +kernel
theorem dX2_readLay_26 : decode cX2_readLay 26 = .ok (.invokevirtual 157, 3) := by decide +kernel
theorem dX2_readLay_29 : decode cX2_readLay 29 = .ok (.istore_n 3, 1) := by decide +kernel
theorem dX2_readLay_30 : decode cX2_readLay 30 = .ok (.aload_n 0, 1) := by decide +kernel
theorem dX2_readLay_31 : decode cX2_readLay 31 = .ok (.iload_n 2, 1) := by decide +kernel
theorem dX2_readLay_32 : decode cX2_readLay 32 = .ok (.bipush 11, 2) := by decide +kernel
theorem dX2_readLay_34 : decode cX2_readLay 34 = .ok (.invokevirtual 157, 3) := by decide +kernel
theorem dX2_readLay_37 : decode cX2_readLay 37 = .ok (.istore 4, 2) := by decide +kernel
theorem dX2_readLay_39 : decode cX2_readLay 39 = .ok (.aload_n 0, 1) := by decide +kernel
theorem dX2_readLay_40 : decode cX2_readLay 40 = .ok (.ldc 64, 2) := by decide +kernel
theorem dX2_readLay_42 : decode cX2_readLay 42 = .ok (.invokevirtual 163, 3) := by decide +kernel
theorem dX2_readLay_45 : decode cX2_readLay 45 = .ok (.aload_n 0, 1) := by decide +kernel
theorem dX2_readLay_46 : decode cX2_readLay 46 = .ok (.iconst 0, 1) := by decide +kernel
theorem dX2_readLay_47 : decode cX2_readLay 47 = .ok (.iconst 3, 1) := by decide +kernel
theorem dX2_readLay_48 : decode cX2_readLay 48 = .ok (.invokevirtual 157, 3) := by decide +kernel
theorem dX2_readLay_51 : decode cX2_readLay 51 = .ok (.istore 5, 2) := by decide +kernel
theorem dX2_readLay_53 : decode cX2_readLay 53 = .ok (.aload_n 0, 1) := by decide +kernel
theorem dX2_readLay_54 : decode cX2_readLay 54 = .ok (.getfield 35, 3) := by decide +kernel
theorem dX2_readLay_57 : decode cX2_readLay 57 = .ok (.getfield 167, 3) := by decide +kernel
theorem dX2_readLay_60 : decode cX2_readLay 60 = .ok (.getfield 190, 3) := by decide +kernel
theorem dX2_readLay_63 : decode cX2_readLay 63 = .ok (.iload_n 1, 1) := by decide +kernel
theorem dX2_readLay_64 : decode cX2_readLay 64 = .ok (.iload_n 2, 1) := by decide +kernel
theorem dX2_readLay_65 : decode cX2_readLay 65 = .ok (.iload_n 3, 1) := by decide +kernel
theorem dX2_readLay_66 : decode cX2_readLay 66 = .ok (.iload 4, 2) := by decide +kernel
theorem dX2_readLay_68 : decode cX2_readLay 68 = .ok (.iload 5, 2) := by decide +kernel
theorem dX2_readLay_70 : decode cX2_readLay 70 = .ok (.invokestatic 192, 3) := by decide +kernel
theorem dX2_readLay_73 : decode cX2_readLay 73 = .ok (.return_, 1) := by decide +kernel
theorem cw_X2_readLay_157 : CwV mi_X2_readLay mi_X2_number yX2_number RX2 157 2 := ⟨⟨w_676, w_678, w_4, w_103, w_679⟩, ⟨by decide, by decide⟩, by decide +kernel, by decide, by decide⟩
theorem cw_X2_readLay_163 : CwV mi_X2_readLay mi_X2_needWord yX2_needWord RX2 163 1 := ⟨⟨w_685, w_687, w_5, w_103, w_688⟩, ⟨by decide, by decide⟩, by decide +kernel, by decide, by decide⟩
theorem cw_X2_readLay_192 : CwS mi_X2_readLay mi_X2_fillBlock yX2_fillBlock 192 6 := ⟨⟨w_698, w_699, w_103, w_700⟩, ⟨by decide, by decide⟩, by decide +kernel, by decide, by decide⟩
theorem ct_X2_readLay {l : Launch} {Γ : Am} (r0 : Nat) (z : Hp) : Ct l Γ yX2_readLay mi_X2_readLay cvV [.ref (mB Γ + r0)] z (m_X2_readLay r0 z) := by
  refine Ct.ofJ (by decide) ⟨rfl, rfl⟩ (Nat.le_of_ble_eq_true rfl) ?_
  unfold m_X2_readLay
  show J l Γ mi_X2_readLay cvV 0 0 0 [(0, .ref (mB Γ + r0))] [] z _
  refine j_aload_n (pc := 0) 0 dX2_readLay_0 rfl rfl ?_
  refine j_iconst (pc := 1) (v := 0) dX2_readLay_1 (by decide) ?_
  refine j_bipush (pc := 2) (v := 11) dX2_readLay_2 (by decide) ?_
  refine j_isC (fun h3 => ?_)
  refine j_callV_I (pc := 4) (as := [.int 0, .int 11]) (mc2 := 0) (ms2 := 0) (ct_X2_number _ _ _ _) h3 rfl cw_X2_readLay_157 dX2_readLay_4 (Nat.le_of_ble_eq_true rfl) rfl (by decide) (by decide) (fun x2 z1 => ?_)
  refine j_istore_n (pc := 7) (lv2 := [(1, .int x2), (0, .ref (mB Γ + r0))]) dX2_readLay_7 rfl (by decide) rfl ?_
  refine j_aload_n (pc := 8) 1 dX2_readLay_8 rfl rfl ?_
  refine j_iconst (pc := 9) (v := 0) dX2_readLay_9 (by decide) ?_
  refine j_bipush (pc := 10) (v := 11) dX2_readLay_10 (by decide) ?_
  refine j_isC (fun h6 => ?_)
  refine j_callV_I (pc := 12) (as := [.int 0, .int 11]) (mc2 := 0) (ms2 := 0) (ct_X2_number _ _ _ _) h6 rfl cw_X2_readLay_157 dX2_readLay_12 (Nat.le_of_ble_eq_true rfl) rfl (by decide) (by decide) (fun x5 z4 => ?_)
  refine j_istore_n (pc := 15) (lv2 := [(2, .int x5), (1, .int x2), (0, .ref (mB Γ + r0))]) dX2_readLay_15 rfl (by decide) rfl ?_
  refine j_aload_n (pc := 16) 2 dX2_readLay_16 rfl rfl ?_
  refine j_ldcS (pc := 17) (w := 6) (tx := "to") dX2_readLay_17 (by decide +kernel) ?_
  refine j_isC (fun h8 => ?_)
  refine j_callV_V (pc := 19) (as := [.ref (mT Γ 6)]) (mc2 := 0) (ms2 := 0) (ct_X2_needWord _ _ _) h8 rfl cw_X2_readLay_163 dX2_readLay_19 (Nat.le_of_ble_eq_true rfl) rfl (by decide) (by decide) (fun _ z7 => ?_)
  refine j_aload_n (pc := 22) 2 dX2_readLay_22 rfl rfl ?_
  refine j_iload_n (pc := 23) 1 dX2_readLay_23 rfl rfl ?_
  refine j_bipush (pc := 24) (v := 11) dX2_readLay_24 (by decide) ?_
  refine j_isC (fun h11 => ?_)
  refine j_callV_I (pc := 26) (as := [.int x2, .int 11]) (mc2 := 0) (ms2 := 0) (ct_X2_number _ _ _ _) h11 rfl cw_X2_readLay_157 dX2_readLay_26 (Nat.le_of_ble_eq_true rfl) rfl (by decide) (by decide) (fun x10 z9 => ?_)
  refine j_istore_n (pc := 29) (lv2 := [(3, .int x10), (2, .int x5), (1, .int x2), (0, .ref (mB Γ + r0))]) dX2_readLay_29 rfl (by decide) rfl ?_
  refine j_aload_n (pc := 30) 3 dX2_readLay_30 rfl rfl ?_
  refine j_iload_n (pc := 31) 1 dX2_readLay_31 rfl rfl ?_
  refine j_bipush (pc := 32) (v := 11) dX2_readLay_32 (by decide) ?_
  refine j_isC (fun h14 => ?_)
  refine j_callV_I (pc := 34) (as := [.int x5, .int 11]) (mc2 := 0) (ms2 := 0) (ct_X2_number _ _ _ _) h14 rfl cw_X2_readLay_157 dX2_readLay_34 (Nat.le_of_ble_eq_true rfl) rfl (by decide) (by decide) (fun x13 z12 => ?_)
  refine j_istore (pc := 37) (lv2 := [(4, .int x13), (3, .int x10), (2, .int x5), (1, .int x2), (0, .ref (mB Γ + r0))]) dX2_readLay_37 (by decide) rfl ?_
  refine j_aload_n (pc := 39) 4 dX2_readLay_39 rfl rfl ?_
  refine j_ldcS (pc := 40) (w := 0) (tx := "ground") dX2_readLay_40 (by decide +kernel) ?_
  refine j_isC (fun h16 => ?_)
  refine j_callV_V (pc := 42) (as := [.ref (mT Γ 0)]) (mc2 := 0) (ms2 := 0) (ct_X2_needWord _ _ _) h16 rfl cw_X2_readLay_163 dX2_readLay_42 (Nat.le_of_ble_eq_true rfl) rfl (by decide) (by decide) (fun _ z15 => ?_)
  refine j_aload_n (pc := 45) 4 dX2_readLay_45 rfl rfl ?_
  refine j_iconst (pc := 46) (v := 0) dX2_readLay_46 (by decide) ?_
  refine j_iconst (pc := 47) (v := 3) dX2_readLay_47 (by decide) ?_
  refine j_isC (fun h19 => ?_)
  refine j_callV_I (pc := 48) (as := [.int 0, .int 3]) (mc2 := 0) (ms2 := 0) (ct_X2_number _ _ _ _) h19 rfl cw_X2_readLay_157 dX2_readLay_48 (Nat.le_of_ble_eq_true rfl) rfl (by decide) (by decide) (fun x18 z17 => ?_)
  refine j_istore (pc := 51) (lv2 := [(5, .int x18), (4, .int x13), (3, .int x10), (2, .int x5), (1, .int x2), (0, .ref (mB Γ + r0))]) dX2_readLay_51 (by decide) rfl ?_
  refine j_aload_n (pc := 53) 5 dX2_readLay_53 rfl rfl ?_
  refine j_getR (pc := 54) ok_X2 (by decide) rfl w_413 dX2_readLay_54 (fun a20 => ?_)
  refine j_getR (pc := 57) ok_X8 (by decide) rfl w_291 dX2_readLay_57 (fun a21 => ?_)
  refine j_getR (pc := 60) ok_X7 (by decide) rfl w_152 dX2_readLay_60 (fun a22 => ?_)
  refine j_iload_n (pc := 63) 4 dX2_readLay_63 rfl rfl ?_
  refine j_iload_n (pc := 64) 3 dX2_readLay_64 rfl rfl ?_
  refine j_iload_n (pc := 65) 2 dX2_readLay_65 rfl rfl ?_
  refine j_iload (pc := 66) 1 dX2_readLay_66 rfl ?_
  refine j_iload (pc := 68) 0 dX2_readLay_68 rfl ?_
  refine j_callS_V (pc := 70) (as := [.ref (mB Γ + a22), .int x2, .int x5, .int x10, .int x13, .int x18]) (mc2 := 0) (ms2 := 0) (ct_X2_fillBlock _ _ _ _ _ _ _) cw_X2_readLay_192 dX2_readLay_70 (Nat.le_of_ble_eq_true rfl) rfl (by decide) (by decide) (fun _ z23 => ?_)
  exact j_return (pc := 73) dX2_readLay_73 rfl
