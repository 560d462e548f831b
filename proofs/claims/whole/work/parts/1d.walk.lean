theorem dX8_heatOfAll_0 : decode cX8_heatOfAll 0 = .ok (.iconst 0, 1) := by decide +kernel
theorem dX8_heatOfAll_1 : decode cX8_heatOfAll 1 = .ok (.istore_n 1, 1) := by decide +kernel
theorem dX8_heatOfAll_2 : decode cX8_heatOfAll 2 = .ok (.iconst 0, 1) := by decide +kernel
theorem dX8_heatOfAll_3 : decode cX8_heatOfAll 3 = .ok (.istore_n 2, 1) := by decide +kernel
theorem dX8_heatOfAll_4 : decode cX8_heatOfAll 4 = .ok (.iload_n 2, 1) := by decide +kernel
theorem dX8_heatOfAll_5 : decode cX8_heatOfAll 5 = .ok (.sipush 144, 3) := by decide +kernel
theorem dX8_heatOfAll_8 : decode cX8_heatOfAll 8 = .ok (.if_icmp .ge 34, 3) := by decide +kernel
theorem dX8_heatOfAll_11 : decode cX8_heatOfAll 11 = .ok (.aload_n 0, 1) := by decide +kernel
theorem dX8_heatOfAll_12 : decode cX8_heatOfAll 12 = .ok (.getfield 53, 3) := by decide +kernel
theorem dX8_heatOfAll_15 : decode cX8_heatOfAll 15 = .ok (.iload_n 2, 1) := by decide +kernel
theorem dX8_heatOfAll_16 : decode cX8_heatOfAll 16 = .ok (.iaload, 1) := by decide +kernel
theorem dX8_heatOfAll_17 : decode cX8_heatOfAll 17 = .ok (.ifCond .ne 19, 3) := by decide +kernel
theorem dX8_heatOfAll_20 : decode cX8_heatOfAll 20 = .ok (.iload_n 1, 1) := by decide +kernel
theorem dX8_heatOfAll_21 : decode cX8_heatOfAll 21 = .ok (.aload_n 0, 1) := by decide +kernel
theorem dX8_heatOfAll_22 : decode cX8_heatOfAll 22 = .ok (.getfield 46, 3) := by decide +kernel
theorem dX8_heatOfAll_25 : decode cX8_heatOfAll 25 = .ok (.iload_n 2, 1) := by decide +kernel
theorem dX8_heatOfAll_26 : decode cX8_heatOfAll 26 = .ok (.iaload, 1) := by decide +kernel
theorem dX8_heatOfAll_27 : decode cX8_heatOfAll 27 = .ok (.aload_n 0, 1) := by decide +kernel
theorem dX8_heatOfAll_28 : decode cX8_heatOfAll 28 = .ok (.getfield 50, 3) := by decide +kernel
theorem dX8_heatOfAll_31 : decode cX8_heatOfAll 31 = .ok (.iload_n 2, 1) := by decide +kernel
theorem dX8_heatOfAll_32 : decode cX8_heatOfAll 32 = .ok (.iaload, 1) := by decide +kernel
theorem dX8_heatOfAll_33 : decode cX8_heatOfAll 33 = .ok (.isub, 1) := by decide +kernel
theorem dX8_heatOfAll_34 : decode cX8_heatOfAll 34 = .ok (.iadd, 1) := by decide +kernel
theorem dX8_heatOfAll_35 : decode cX8_heatOfAll 35 = .ok (.istore_n 1, 1) := by decide +kernel
theorem dX8_heatOfAll_36 : decode cX8_heatOfAll 36 = .ok (.iinc 2 1, 3) := by decide +kernel
theorem dX8_heatOfAll_39 : decode cX8_heatOfAll 39 = .ok (.goto (-35), 3) := by decide +kernel
theorem dX8_heatOfAll_42 : decode cX8_heatOfAll 42 = .ok (.iload_n 1, 1) := by decide +kernel
theorem dX8_heatOfAll_43 : decode cX8_heatOfAll 43 = .ok (.ireturn, 1) := by decide +kernel
theorem j_X8_heatOfAll_B36 {l : Launch} {Γ : Am} {k4 : Nat → Int32 → Int32 → Hp → Option (Int32 × Hp)} (hL4 : ∀ (r0 : Nat) (v1 : Int32) (v2 : Int32) (z : Hp), J l Γ mi_X8_heatOfAll cvI 0 0 4 [(0, .ref (mB Γ + r0)), (1, .int v1), (2, .int v2)] [] z (k4 r0 v1 v2 z)) : ∀ (r0 : Nat) (v1 : Int32) (v2 : Int32) (z : Hp), J l Γ mi_X8_heatOfAll cvI 0 0 36 [(0, .ref (mB Γ + r0)), (1, .int v1), (2, .int v2)] [] z (m_X8_heatOfAll_B36 k4 r0 v1 v2 z) := by
  intro r0 v1 v2 z
  unfold m_X8_heatOfAll_B36
  refine j_iinc (pc := 36) (n0 := 2) (v0 := v2 + 1) (lv2 := [(2, .int (v2 + 1)), (0, .ref (mB Γ + r0)), (1, .int v1)]) dX8_heatOfAll_36 rfl rfl (by decide) rfl ?_
  refine j_goto (pc := 39) 4 dX8_heatOfAll_39 (by decide) ?_
  exact J.sub [1, 2, 0] rfl (hL4 r0 v1 (v2 + 1) z)
theorem j_X8_heatOfAll_L4 {l : Launch} {Γ : Am}   : ∀ (f : Nat), ∀ (r0 : Nat) (v1 : Int32) (v2 : Int32) (z : Hp), J l Γ mi_X8_heatOfAll cvI 0 0 4 [(0, .ref (mB Γ + r0)), (1, .int v1), (2, .int v2)] [] z (m_X8_heatOfAll_L4  f r0 v1 v2 z) := by
  intro f
  induction f with
  | zero => intro r0 v1 v2 z; exact J.none
  | succ f hL4 =>
    intro r0 v1 v2 z
    rw [m_X8_heatOfAll_L4]
    refine j_iload_n (pc := 4) 2 dX8_heatOfAll_4 rfl rfl ?_
    refine j_sipush (pc := 5) (v := 144) dX8_heatOfAll_5 (by decide) ?_
    refine j_icmp_ge (pc := 8) 42 dX8_heatOfAll_8 (by decide) ?_ ?_
    · refine j_iload_n (pc := 42) 1 dX8_heatOfAll_42 rfl rfl ?_
      exact j_ireturn (pc := 43) dX8_heatOfAll_43 rfl rfl
    refine j_aload_n (pc := 11) 0 dX8_heatOfAll_11 rfl rfl ?_
    refine j_getR (pc := 12) ok_X8 (by decide) rfl w_311 dX8_heatOfAll_12 (fun a1 => ?_)
    refine j_iload_n (pc := 15) 2 dX8_heatOfAll_15 rfl rfl ?_
    refine j_iaload (pc := 16) dX8_heatOfAll_16 (fun x2 => ?_)
    refine j_if_ne (pc := 17) 36 dX8_heatOfAll_17 (by decide) ?_ ?_
    · exact J.sub [0, 1, 2] rfl ((j_X8_heatOfAll_B36 hL4) r0 v1 v2 z)
    refine j_iload_n (pc := 20) 1 dX8_heatOfAll_20 rfl rfl ?_
    refine j_aload_n (pc := 21) 0 dX8_heatOfAll_21 rfl rfl ?_
    refine j_getR (pc := 22) ok_X8 (by decide) rfl w_305 dX8_heatOfAll_22 (fun a3 => ?_)
    refine j_iload_n (pc := 25) 2 dX8_heatOfAll_25 rfl rfl ?_
    refine j_iaload (pc := 26) dX8_heatOfAll_26 (fun x4 => ?_)
    refine j_aload_n (pc := 27) 0 dX8_heatOfAll_27 rfl rfl ?_
    refine j_getR (pc := 28) ok_X8 (by decide) rfl w_308 dX8_heatOfAll_28 (fun a5 => ?_)
    refine j_iload_n (pc := 31) 2 dX8_heatOfAll_31 rfl rfl ?_
    refine j_iaload (pc := 32) dX8_heatOfAll_32 (fun x6 => ?_)
    refine j_isub (pc := 33) dX8_heatOfAll_33 ?_
    refine j_iadd (pc := 34) dX8_heatOfAll_34 ?_
    refine j_istore_n (pc := 35) (lv2 := [(1, .int (v1 + (x4 - x6))), (0, .ref (mB Γ + r0)), (2, .int v2)]) dX8_heatOfAll_35 rfl (by decide) rfl ?_
    exact J.sub [1, 0, 2] rfl ((j_X8_heatOfAll_B36 hL4) r0 (v1 + (x4 - x6)) v2 z)
theorem ct_X8_heatOfAll {l : Launch} {Γ : Am} (r0 : Nat) (z : Hp) : Ct l Γ yX8_heatOfAll mi_X8_heatOfAll cvI [.ref (mB Γ + r0)] z (m_X8_heatOfAll r0 z) := by
  refine Ct.ofJ (by decide) ⟨rfl, rfl⟩ (Nat.le_of_ble_eq_true rfl) ?_
  unfold m_X8_heatOfAll
  show J l Γ mi_X8_heatOfAll cvI 0 0 0 [(0, .ref (mB Γ + r0))] [] z _
  refine j_iconst (pc := 0) (v := 0) dX8_heatOfAll_0 (by decide) ?_
  refine j_istore_n (pc := 1) (lv2 := [(1, .int 0), (0, .ref (mB Γ + r0))]) dX8_heatOfAll_1 rfl (by decide) rfl ?_
  refine j_iconst (pc := 2) (v := 0) dX8_heatOfAll_2 (by decide) ?_
  refine j_istore_n (pc := 3) (lv2 := [(2, .int 0), (1, .int 0), (0, .ref (mB Γ + r0))]) dX8_heatOfAll_3 rfl (by decide) rfl ?_
  exact J.sub [2, 1, 0] rfl ((j_X8_heatOfAll_L4 FU) r0 0 0 z)
theorem dX8_digOut_0 : decode cX8_digOut 0 = .ok (.aload_n 0, 1) := by decide +kernel
theorem dX8_digOut_1 : decode cX8_digOut 1 = .ok (.getfield 53, 3) := by decide +kernel
theorem dX8_digOut_4 : decode cX8_digOut 4 = .ok (.iload_n 1, 1) := by decide +kernel
theorem dX8_digOut_5 : decode cX8_digOut 5 = .ok (.iconst 1, 1) := by decide +kernel
theorem dX8_digOut_6 : decode cX8_digOut 6 = .ok (.iastore, 1) := by decide +kernel
theorem dX8_digOut_7 : decode cX8_digOut 7 = .ok (.aload_n 0, 1) := by decide +kernel
theorem dX8_digOut_8 : decode cX8_digOut 8 = .ok (.dup, 1) := by decide +kernel
theorem dX8_digOut_9 : decode cX8_digOut 9 = .ok (.getfield 66, 3) := by decide +kernel
theorem dX8_digOut_12 : decode cX8_digOut 12 = .ok (.iconst 1, 1) := by decide +kernel
theorem dX8_digOut_13 : decode cX8_digOut 13 = .ok (.iadd, 1) := by decide +kernel
theorem dX8_digOut_14 : decode cX8_digOut 14 = .ok (.putfield 66, 3) := by decide +kernel
theorem dX8_digOut_17 : decode cX8_digOut 17 = .ok (.aload_n 0, 1) := by decide +kernel
theorem dX8_digOut_18 : decode cX8_digOut 18 = .ok (.getfield 59, 3) := by decide +kernel
theorem dX8_digOut_21 : decode cX8_digOut 21 = .ok (.iconst 4, 1) := by decide +kernel
theorem dX8_digOut_22 : decode cX8_digOut 22 = .ok (.dup2, 1) := by decide +kernel
theorem dX8_digOut_23 : decode cX8_digOut 23 = .ok (.iaload, 1) := by decide +kernel
theorem dX8_digOut_24 : decode cX8_digOut 24 = .ok (.aload_n 0, 1) := by decide +kernel
theorem dX8_digOut_25 : decode cX8_digOut 25 = .ok (.getfield 46, 3) := by decide +kernel
theorem dX8_digOut_28 : decode cX8_digOut 28 = .ok (.iload_n 1, 1) := by decide +kernel
theorem dX8_digOut_29 : decode cX8_digOut 29 = .ok (.iaload, 1) := by decide +kernel
theorem dX8_digOut_30 : decode cX8_digOut 30 = .ok (.aload_n 0, 1) := by decide +kernel
theorem dX8_digOut_31 : decode cX8_digOut 31 = .ok (.getfield 50, 3) := by decide +kernel
theorem dX8_digOut_34 : decode cX8_digOut 34 = .ok (.iload_n 1, 1) := by decide +kernel
theorem dX8_digOut_35 : decode cX8_digOut 35 = .ok (.iaload, 1) := by decide +kernel
theorem dX8_digOut_36 : decode cX8_digOut 36 = .ok (.isub, 1) := by decide +kernel
theorem dX8_digOut_37 : decode cX8_digOut 37 = .ok (.iadd, 1) := by decide +kernel
theorem dX8_digOut_38 : decode cX8_digOut 38 = .ok (.iastore, 1) := by decide +kernel
theorem dX8_digOut_39 : decode cX8_digOut 39 = .ok (.return_, 1) := by decide +kernel
theorem ct_X8_digOut {l : Launch} {Γ : Am} (r0 : Nat) (v1 : Int32) (z : Hp) : Ct l Γ yX8_digOut mi_X8_digOut cvV [.ref (mB Γ + r0), .int v1] z (m_X8_digOut r0 v1 z) := by
  refine Ct.ofJ (by decide) ⟨rfl, rfl⟩ (Nat.le_of_ble_eq_true rfl) ?_
  unfold m_X8_digOut
  show J l Γ mi_X8_digOut cvV 0 0 0 [(0, .ref (mB Γ + r0)), (1, .int v1)] [] z _
  refine j_aload_n (pc := 0) 0 dX8_digOut_0 rfl rfl ?_
  refine j_getR (pc := 1) ok_X8 (by decide) rfl w_311 dX8_digOut_1 (fun a1 => ?_)
  refine j_iload_n (pc := 4) 1 dX8_digOut_4 rfl rfl ?_
  refine j_iconst (pc := 5) (v := 1) dX8_digOut_5 (by decide) ?_
  refine j_iastore (pc := 6) dX8_digOut_6 (fun z2 => ?_)
  refine j_aload_n (pc := 7) 0 dX8_digOut_7 rfl rfl ?_
  refine j_dup (pc := 8) dX8_digOut_8 rfl ?_
  refine j_getI (pc := 9) ok_X8 (by decide) rfl w_324 dX8_digOut_9 (fun x3 => ?_)
  refine j_iconst (pc := 12) (v := 1) dX8_digOut_12 (by decide) ?_
  refine j_iadd (pc := 13) dX8_digOut_13 ?_
  refine j_putI (pc := 14) ok_X8 (by decide) rfl w_324 (Or.inl rfl) rfl rfl dX8_digOut_14 (fun z4 => ?_)
  refine j_aload_n (pc := 17) 0 dX8_digOut_17 rfl rfl ?_
  refine j_getR (pc := 18) ok_X8 (by decide) rfl w_318 dX8_digOut_18 (fun a5 => ?_)
  refine j_iconst (pc := 21) (v := 4) dX8_digOut_21 (by decide) ?_
  refine j_dup2 (pc := 22) dX8_digOut_22 rfl rfl ?_
  refine j_iaload (pc := 23) dX8_digOut_23 (fun x6 => ?_)
  refine j_aload_n (pc := 24) 0 dX8_digOut_24 rfl rfl ?_
  refine j_getR (pc := 25) ok_X8 (by decide) rfl w_305 dX8_digOut_25 (fun a7 => ?_)
  refine j_iload_n (pc := 28) 1 dX8_digOut_28 rfl rfl ?_
  refine j_iaload (pc := 29) dX8_digOut_29 (fun x8 => ?_)
  refine j_aload_n (pc := 30) 0 dX8_digOut_30 rfl rfl ?_
  refine j_getR (pc := 31) ok_X8 (by decide) rfl w_308 dX8_digOut_31 (fun a9 => ?_)
  refine j_iload_n (pc := 34) 1 dX8_digOut_34 rfl rfl ?_
  refine j_iaload (pc := 35) dX8_digOut_35 (fun x10 => ?_)
  refine j_isub (pc := 36) dX8_digOut_36 ?_
  refine j_iadd (pc := 37) dX8_digOut_37 ?_
  refine j_iastore (pc := 38) dX8_digOut_38 (fun z11 => ?_)
  exact j_return (pc := 39) dX8_digOut_39 rfl
theorem dX8_frozenBits_0 : decode cX8_frozenBits 0 = .ok (.iconst 0, 1) := by decide +kernel
theorem dX8_frozenBits_1 : decode cX8_frozenBits 1 = .ok (.istore_n 2, 1) := by decide +kernel
theorem dX8_frozenBits_2 : decode cX8_frozenBits 2 = .ok (.iconst 0, 1) := by decide +kernel
theorem dX8_frozenBits_3 : decode cX8_frozenBits 3 = .ok (.istore_n 3, 1) := by decide +kernel
theorem dX8_frozenBits_4 : decode cX8_frozenBits 4 = .ok (.iload_n 3, 1) := by decide +kernel
theorem dX8_frozenBits_5 : decode cX8_frozenBits 5 = .ok (.bipush 12, 2) := by decide +kernel
theorem dX8_frozenBits_7 : decode cX8_frozenBits 7 = .ok (.if_icmp .ge 28, 3) := by decide +kernel
theorem dX8_frozenBits_10 : decode cX8_frozenBits 10 = .ok (.aload_n 0, 1) := by decide +kernel
theorem dX8_frozenBits_11 : decode cX8_frozenBits 11 = .ok (.bipush 12, 2) := by decide +kernel
theorem dX8_frozenBits_13 : decode cX8_frozenBits 13 = .ok (.iload_n 1, 1) := by decide +kernel
theorem dX8_frozenBits_14 : decode cX8_frozenBits 14 = .ok (.imul, 1) := by decide +kernel
theorem dX8_frozenBits_15 : decode cX8_frozenBits 15 = .ok (.iload_n 3, 1) := by decide +kernel
theorem dX8_frozenBits_16 : decode cX8_frozenBits 16 = .ok (.iadd, 1) := by decide +kernel
theorem dX8_frozenBits_17 : decode cX8_frozenBits 17 = .ok (.invokevirtual 133, 3) := by decide +kernel
theorem dX8_frozenBits_20 : decode cX8_frozenBits 20 = .ok (.ifCond .eq 9, 3) := by decide +kernel
theorem dX8_frozenBits_23 : decode cX8_frozenBits 23 = .ok (.iload_n 2, 1) := by decide +kernel
theorem dX8_frozenBits_24 : decode cX8_frozenBits 24 = .ok (.iconst 1, 1) := by decide +kernel
theorem dX8_frozenBits_25 : decode cX8_frozenBits 25 = .ok (.iload_n 3, 1) := by decide +kernel
theorem dX8_frozenBits_26 : decode cX8_frozenBits 26 = .ok (.ishl, 1) := by decide +kernel
theorem dX8_frozenBits_27 : decode cX8_frozenBits 27 = .ok (.ior, 1) := by decide +kernel
theorem dX8_frozenBits_28 : decode cX8_frozenBits 28 = .ok (.istore_n 2, 1) := by decide +kernel
theorem dX8_frozenBits_29 : decode cX8_frozenBits 29 = .ok (.iinc 3 1, 3) := by decide +kernel
theorem dX8_frozenBits_32 : decode cX8_frozenBits 32 = .ok (.goto (-28), 3) := by decide +kernel
theorem dX8_frozenBits_35 : decode cX8_frozenBits 35 = .ok (.iload_n 2, 1) := by decide +kernel
theorem dX8_frozenBits_36 : decode cX8_frozenBits 36 = .ok (.ireturn, 1) := by decide +kernel
theorem cw_X8_frozenBits_133 : CwV mi_X8_frozenBits mi_X8_isFrozen yX8_isFrozen RX8 133 1 := ⟨⟨w_893, w_801, w_802, w_96, w_803⟩, ⟨by decide, by decide⟩, by decide +kernel, by decide, by decide⟩
theorem j_X8_frozenBits_B29 {l : Launch} {Γ : Am} {k4 : Nat → Int32 → Int32 → Int32 → Hp → Option (Int32 × Hp)} (hL4 : ∀ (r0 : Nat) (v1 : Int32) (v2 : Int32) (v3 : Int32) (z : Hp), J l Γ mi_X8_frozenBits cvI 0 0 4 [(0, .ref (mB Γ + r0)), (1, .int v1), (2, .int v2), (3, .int v3)] [] z (k4 r0 v1 v2 v3 z)) : ∀ (r0 : Nat) (v1 : Int32) (v2 : Int32) (v3 : Int32) (z : Hp), J l Γ mi_X8_frozenBits cvI 0 0 29 [(0, .ref (mB Γ + r0)), (1, .int v1), (2, .int v2), (3, .int v3)] [] z (m_X8_frozenBits_B29 k4 r0 v1 v2 v3 z) := by
  intro r0 v1 v2 v3 z
  unfold m_X8_frozenBits_B29
  refine j_iinc (pc := 29) (n0 := 3) (v0 := v3 + 1) (lv2 := [(3, .int (v3 + 1)), (0, .ref (mB Γ + r0)), (1, .int v1), (2, .int v2)]) dX8_frozenBits_29 rfl rfl (by decide) rfl ?_
  refine j_goto (pc := 32) 4 dX8_frozenBits_32 (by decide) ?_
  exact J.sub [1, 2, 3, 0] rfl (hL4 r0 v1 v2 (v3 + 1) z)
theorem j_X8_frozenBits_L4 {l : Launch} {Γ : Am}   : ∀ (f : Nat), ∀ (r0 : Nat) (v1 : Int32) (v2 : Int32) (v3 : Int32) (z : Hp), J l Γ mi_X8_frozenBits cvI 0 0 4 [(0, .ref (mB Γ + r0)), (1, .int v1), (2, .int v2), (3, .int v3)] [] z (m_X8_frozenBits_L4  f r0 v1 v2 v3 z) := by
  intro f
  induction f with
  | zero => intro r0 v1 v2 v3 z; exact J.none
  | succ f hL4 =>
    intro r0 v1 v2 v3 z
    rw [m_X8_frozenBits_L4]
    refine j_iload_n (pc := 4) 3 dX8_frozenBits_4 rfl rfl ?_
    refine j_bipush (pc := 5) (v := 12) dX8_frozenBits_5 (by decide) ?_
    refine j_icmp_ge (pc := 7) 35 dX8_frozenBits_7 (by decide) ?_ ?_
    · refine j_iload_n (pc := 35) 2 dX8_frozenBits_35 rfl rfl ?_
      exact j_ireturn (pc := 36) dX8_frozenBits_36 rfl rfl
    refine j_aload_n (pc := 10) 0 dX8_frozenBits_10 rfl rfl ?_
    refine j_bipush (pc := 11) (v := 12) dX8_frozenBits_11 (by decide) ?_
    refine j_iload_n (pc := 13) 1 dX8_frozenBits_13 rfl rfl ?_
    refine j_imul (pc := 14) dX8_frozenBits_14 ?_
    refine j_iload_n (pc := 15) 3 dX8_frozenBits_15 rfl rfl ?_
    refine j_iadd (pc := 16) dX8_frozenBits_16 ?_
    refine j_isC (fun h3 => ?_)
    refine j_callV_I (pc := 17) (as := [.int ((12 * v1) + v3)]) (mc2 := 0) (ms2 := 0) (ct_X8_isFrozen _ _ _) h3 rfl cw_X8_frozenBits_133 dX8_frozenBits_17 (Nat.le_of_ble_eq_true rfl) rfl (by decide) (by decide) (fun x2 z1 => ?_)
    refine j_if_eq (pc := 20) 29 dX8_frozenBits_20 (by decide) ?_ ?_
    · exact J.sub [0, 1, 2, 3] rfl ((j_X8_frozenBits_B29 hL4) r0 v1 v2 v3 z1)
    refine j_iload_n (pc := 23) 2 dX8_frozenBits_23 rfl rfl ?_
    refine j_iconst (pc := 24) (v := 1) dX8_frozenBits_24 (by decide) ?_
    refine j_iload_n (pc := 25) 3 dX8_frozenBits_25 rfl rfl ?_
    refine j_ishl (pc := 26) dX8_frozenBits_26 ?_
    refine j_ior (pc := 27) dX8_frozenBits_27 ?_
    refine j_istore_n (pc := 28) (lv2 := [(2, .int (v2 ||| ((1 : Int32) <<< (v3 &&& 31)))), (0, .ref (mB Γ + r0)), (1, .int v1), (3, .int v3)]) dX8_frozenBits_28 rfl (by decide) rfl ?_
    exact J.sub [1, 2, 0, 3] rfl ((j_X8_frozenBits_B29 hL4) r0 v1 (v2 ||| ((1 : Int32) <<< (v3 &&& 31))) v3 z1)
theorem ct_X8_frozenBits {l : Launch} {Γ : Am} (r0 : Nat) (v1 : Int32) (z : Hp) : Ct l Γ yX8_frozenBits mi_X8_frozenBits cvI [.ref (mB Γ + r0), .int v1] z (m_X8_frozenBits r0 v1 z) := by
  refine Ct.ofJ (by decide) ⟨rfl, rfl⟩ (Nat.le_of_ble_eq_true rfl) ?_
  unfold m_X8_frozenBits
  show J l Γ mi_X8_frozenBits cvI 0 0 0 [(0, .ref (mB Γ + r0)), (1, .int v1)] [] z _
  refine j_iconst (pc := 0) (v := 0) dX8_frozenBits_0 (by decide) ?_
  refine j_istore_n (pc := 1) (lv2 := [(2, .int 0), (0, .ref (mB Γ + r0)), (1, .int v1)]) dX8_frozenBits_1 rfl (by decide) rfl ?_
  refine j_iconst (pc := 2) (v := 0) dX8_frozenBits_2 (by decide) ?_
  refine j_istore_n (pc := 3) (lv2 := [(3, .int 0), (2, .int 0), (0, .ref (mB Γ + r0)), (1, .int v1)]) dX8_frozenBits_3 rfl (by decide) rfl ?_
  exact J.sub [2, 3, 1, 0] rfl ((j_X8_frozenBits_L4 FU) r0 v1 0 0 z)
theorem dJ6_bitCount_0f7a4_0 : decode cJ6_bitCount_0f7a4 0 = .ok (.iload_n 0, 1) := by decide +kernel
theorem dJ6_bitCount_0f7a4_1 : decode cJ6_bitCount_0f7a4 1 = .ok (.iload_n 0, 1) := by decide +kernel
theorem dJ6_bitCount_0f7a4_2 : decode cJ6_bitCount_0f7a4 2 = .ok (.iconst 1, 1) := by decide +kernel
theorem dJ6_bitCount_0f7a4_3 : decode cJ6_bitCount_0f7a4 3 = .ok (.iushr, 1) := by decide +kernel
theorem dJ6_bitCount_0f7a4_4 : decode cJ6_bitCount_0f7a4 4 = .ok (.ldc_w 265, 3) := by decide +kernel
theorem dJ6_bitCount_0f7a4_7 : decode cJ6_bitCount_0f7a4 7 = .ok (.iand, 1) := by decide +kernel
theorem dJ6_bitCount_0f7a4_8 : decode cJ6_bitCount_0f7a4 8 = .ok (.isub, 1) := by decide +kernel
theorem dJ6_bitCount_0f7a4_9 : decode cJ6_bitCount_0f7a4 9 = .ok (.istore_n 0, 1) := by decide +kernel
theorem dJ6_bitCount_0f7a4_10 : decode cJ6_bitCount_0f7a4 10 = .ok (.iload_n 0, 1) := by decide +kernel
theorem dJ6_bitCount_0f7a4_11 : decode cJ6_bitCount_0f7a4 11 = .ok (.ldc_w 266, 3) := by decide +kernel
theorem dJ6_bitCount_0f7a4_14 : decode cJ6_bitCount_0f7a4 14 = .ok (.iand, 1) := by decide +kernel
theorem dJ6_bitCount_0f7a4_15 : decode cJ6_bitCount_0f7a4 15 = .ok (.iload_n 0, 1) := by decide +kernel
theorem dJ6_bitCount_0f7a4_16 : decode cJ6_bitCount_0f7a4 16 = .ok (.iconst 2, 1) := by decide +kernel
theorem dJ6_bitCount_0f7a4_17 : decode cJ6_bitCount_0f7a4 17 = .ok (.iushr, 1) := by decide +kernel
theorem dJ6_bitCount_0f7a4_18 : decode cJ6_bitCount_0f7a4 18 = .ok (.ldc_w 266, 3) := by decide +kernel
theorem dJ6_bitCount_0f7a4_21 : decode cJ6_bitCount_0f7a4 21 = .ok (.iand, 1) := by decide +kernel
theorem dJ6_bitCount_0f7a4_22 : decode cJ6_bitCount_0f7a4 22 = .ok (.iadd, 1) := by decide +kernel
theorem dJ6_bitCount_0f7a4_23 : decode cJ6_bitCount_0f7a4 23 = .ok (.istore_n 0, 1) := by decide +kernel
theorem dJ6_bitCount_0f7a4_24 : decode cJ6_bitCount_0f7a4 24 = .ok (.iload_n 0, 1) := by decide +kernel
theorem dJ6_bitCount_0f7a4_25 : decode cJ6_bitCount_0f7a4 25 = .ok (.iload_n 0, 1) := by decide +kernel
theorem dJ6_bitCount_0f7a4_26 : decode cJ6_bitCount_0f7a4 26 = .ok (.iconst 4, 1) := by decide +kernel
theorem dJ6_bitCount_0f7a4_27 : decode cJ6_bitCount_0f7a4 27 = .ok (.iushr, 1) := by decide +kernel
theorem dJ6_bitCount_0f7a4_28 : decode cJ6_bitCount_0f7a4 28 = .ok (.iadd, 1) := by decide +kernel
theorem dJ6_bitCount_0f7a4_29 : decode cJ6_bitCount_0f7a4 29 = .ok (.ldc_w 267, 3) := by decide +kernel
theorem dJ6_bitCount_0f7a4_32 : decode cJ6_bitCount_0f7a4 32 = .ok (.iand, 1) := by decide +kernel
theorem dJ6_bitCount_0f7a4_33 : decode cJ6_bitCount_0f7a4 33 = .ok (.istore_n 0, 1) := by decide +kernel
theorem dJ6_bitCount_0f7a4_34 : decode cJ6_bitCount_0f7a4 34 = .ok (.iload_n 0, 1) := by decide +kernel
theorem dJ6_bitCount_0f7a4_35 : decode cJ6_bitCount_0f7a4 35 = .ok (.iload_n 0, 1) := by decide +kernel
theorem dJ6_bitCount_0f7a4_36 : decode cJ6_bitCount_0f7a4 36 = .ok (.bipush 8, 2) := by decide +kernel
theorem dJ6_bitCount_0f7a4_38 : decode cJ6_bitCount_0f7a4 38 = .ok (.iushr, 1) := by decide +kernel
theorem dJ6_bitCount_0f7a4_39 : decode cJ6_bitCount_0f7a4 39 = .ok (.iadd, 1) := by decide +kernel
theorem dJ6_bitCount_0f7a4_40 : decode cJ6_bitCount_0f7a4 40 = .ok (.istore_n 0, 1) := by decide +kernel
theorem dJ6_bitCount_0f7a4_41 : decode cJ6_bitCount_0f7a4 41 = .ok (.iload_n 0, 1) := by decide +kernel
theorem dJ6_bitCount_0f7a4_42 : decode cJ6_bitCount_0f7a4 42 = .ok (.iload_n 0, 1) := by decide +kernel
theorem dJ6_bitCount_0f7a4_43 : decode cJ6_bitCount_0f7a4 43 = .ok (.bipush 16, 2) := by decide +kernel
theorem dJ6_bitCount_0f7a4_45 : decode cJ6_bitCount_0f7a4 45 = .ok (.iushr, 1) := by decide +kernel
theorem dJ6_bitCount_0f7a4_46 : decode cJ6_bitCount_0f7a4 46 = .ok (.iadd, 1) := by decide +kernel
theorem dJ6_bitCount_0f7a4_47 : decode cJ6_bitCount_0f7a4 47 = .ok (.istore_n 0, 1) := by decide +kernel
theorem dJ6_bitCount_0f7a4_48 : decode cJ6_bitCount_0f7a4 48 = .ok (.iload_n 0, 1) := by decide +kernel
theorem dJ6_bitCount_0f7a4_49 : decode cJ6_bitCount_0f7a4 49 = .ok (.bipush 63, 2) := by decide +kernel
theorem dJ6_bitCount_0f7a4_51 : decode cJ6_bitCount_0f7a4 51 = .ok (.iand, 1) := by decide +kernel
theorem dJ6_bitCount_0f7a4_52 : decode cJ6_bitCount_0f7a4 52 = .ok (.ireturn, 1) := by decide +kernel
theorem ct_J6_bitCount_0f7a4 {l : Launch} {Γ : Am} (v0 : Int32) (z : Hp) : Ct l Γ yJ6_bitCount_0f7a4 mi_J6_bitCount_0f7a4 cvI [.int v0] z (m_J6_bitCount_0f7a4 v0 z) := by
  refine Ct.ofJ (by decide +kernel) ⟨rfl, rfl⟩ (Nat.le_of_ble_eq_true rfl) ?_
  unfold m_J6_bitCount_0f7a4
  show J l Γ mi_J6_bitCount_0f7a4 cvI 0 0 0 [(0, .int v0)] [] z _
  refine j_iload_n (pc := 0) 0 dJ6_bitCount_0f7a4_0 rfl rfl ?_
  refine j_iload_n (pc := 1) 0 dJ6_bitCount_0f7a4_1 rfl rfl ?_
  refine j_iconst (pc := 2) (v := 1) dJ6_bitCount_0f7a4_2 (by decide) ?_
  refine j_iushr (pc := 3) dJ6_bitCount_0f7a4_3 ?_
  refine j_ldcw (pc := 4) (v := 1431655765) dJ6_bitCount_0f7a4_4 w_1121 ?_
  refine j_iand (pc := 7) dJ6_bitCount_0f7a4_7 ?_
  refine j_isub (pc := 8) dJ6_bitCount_0f7a4_8 ?_
  refine j_istore_n (pc := 9) (lv2 := [(0, .int (v0 - (((v0.toUInt32 >>> (Int32.toUInt32 1 &&& Int32.toUInt32 31)).toInt32) &&& 1431655765)))]) dJ6_bitCount_0f7a4_9 rfl (by decide) rfl ?_
  refine j_iload_n (pc := 10) 0 dJ6_bitCount_0f7a4_10 rfl rfl ?_
  refine j_ldcw (pc := 11) (v := 858993459) dJ6_bitCount_0f7a4_11 w_1122 ?_
  refine j_iand (pc := 14) dJ6_bitCount_0f7a4_14 ?_
  refine j_iload_n (pc := 15) 0 dJ6_bitCount_0f7a4_15 rfl rfl ?_
  refine j_iconst (pc := 16) (v := 2) dJ6_bitCount_0f7a4_16 (by decide) ?_
  refine j_iushr (pc := 17) dJ6_bitCount_0f7a4_17 ?_
  refine j_ldcw (pc := 18) (v := 858993459) dJ6_bitCount_0f7a4_18 w_1122 ?_
  refine j_iand (pc := 21) dJ6_bitCount_0f7a4_21 ?_
  refine j_iadd (pc := 22) dJ6_bitCount_0f7a4_22 ?_
  refine j_istore_n (pc := 23) (lv2 := [(0, .int (((v0 - (((v0.toUInt32 >>> (Int32.toUInt32 1 &&& Int32.toUInt32 31)).toInt32) &&& 1431655765)) &&& 858993459) + ((((v0 - (((v0.toUInt32 >>> (Int32.toUInt32 1 &&& Int32.toUInt32 31)).toInt32) &&& 1431655765)).toUInt32 >>> (Int32.toUInt32 2 &&& Int32.toUInt32 31)).toInt32) &&& 858993459)))]) dJ6_bitCount_0f7a4_23 rfl (by decide) rfl ?_
  refine j_iload_n (pc := 24) 0 dJ6_bitCount_0f7a4_24 rfl rfl ?_
  refine j_iload_n (pc := 25) 0 dJ6_bitCount_0f7a4_25 rfl rfl ?_
  refine j_iconst (pc := 26) (v := 4) dJ6_bitCount_0f7a4_26 (by decide) ?_
  refine j_iushr (pc := 27) dJ6_bitCount_0f7a4_27 ?_
  refine j_iadd (pc := 28) dJ6_bitCount_0f7a4_28 ?_
  refine j_ldcw (pc := 29) (v := 252645135) dJ6_bitCount_0f7a4_29 w_1123 ?_
  refine j_iand (pc := 32) dJ6_bitCount_0f7a4_32 ?_
  refine j_istore_n (pc := 33) (lv2 := [(0, .int (((((v0 - (((v0.toUInt32 >>> (Int32.toUInt32 1 &&& Int32.toUInt32 31)).toInt32) &&& 1431655765)) &&& 858993459) + ((((v0 - (((v0.toUInt32 >>> (Int32.toUInt32 1 &&& Int32.toUInt32 31)).toInt32) &&& 1431655765)).toUInt32 >>> (Int32.toUInt32 2 &&& Int32.toUInt32 31)).toInt32) &&& 858993459)) + (((((v0 - (((v0.toUInt32 >>> (Int32.toUInt32 1 &&& Int32.toUInt32 31)).toInt32) &&& 1431655765)) &&& 858993459) + ((((v0 - (((v0.toUInt32 >>> (Int32.toUInt32 1 &&& Int32.toUInt32 31)).toInt32) &&& 1431655765)).toUInt32 >>> (Int32.toUInt32 2 &&& Int32.toUInt32 31)).toInt32) &&& 858993459)).toUInt32 >>> (Int32.toUInt32 4 &&& Int32.toUInt32 31)).toInt32)) &&& 252645135))]) dJ6_bitCount_0f7a4_33 rfl (by decide) rfl ?_
  refine j_iload_n (pc := 34) 0 dJ6_bitCount_0f7a4_34 rfl rfl ?_
  refine j_iload_n (pc := 35) 0 dJ6_bitCount_0f7a4_35 rfl rfl ?_
  refine j_bipush (pc := 36) (v := 8) dJ6_bitCount_0f7a4_36 (by decide) ?_
  refine j_iushr (pc := 38) dJ6_bitCount_0f7a4_38 ?_
  refine j_iadd (pc := 39) dJ6_bitCount_0f7a4_39 ?_
  refine j_istore_n (pc := 40) (lv2 := [(0, .int ((((((v0 - (((v0.toUInt32 >>> (Int32.toUInt32 1 &&& Int32.toUInt32 31)).toInt32) &&& 1431655765)) &&& 858993459) + ((((v0 - (((v0.toUInt32 >>> (Int32.toUInt32 1 &&& Int32.toUInt32 31)).toInt32) &&& 1431655765)).toUInt32 >>> (Int32.toUInt32 2 &&& Int32.toUInt32 31)).toInt32) &&& 858993459)) + (((((v0 - (((v0.toUInt32 >>> (Int32.toUInt32 1 &&& Int32.toUInt32 31)).toInt32) &&& 1431655765)) &&& 858993459) + ((((v0 - (((v0.toUInt32 >>> (Int32.toUInt32 1 &&& Int32.toUInt32 31)).toInt32) &&& 1431655765)).toUInt32 >>> (Int32.toUInt32 2 &&& Int32.toUInt32 31)).toInt32) &&& 858993459)).toUInt32 >>> (Int32.toUInt32 4 &&& Int32.toUInt32 31)).toInt32)) &&& 252645135) + (((((((v0 - (((v0.toUInt32 >>> (Int32.toUInt32 1 &&& Int32.toUInt32 31)).toInt32) &&& 1431655765)) &&& 858993459) + ((((v0 - (((v0.toUInt32 >>> (Int32.toUInt32 1 &&& Int32.toUInt32 31)).toInt32) &&& 1431655765)).toUInt32 >>> (Int32.toUInt32 2 &&& Int32.toUInt32 31)).toInt32) &&& 858993459)) + (((((v0 - (((v0.toUInt32 >>> (Int32.toUInt32 1 &&& Int32.toUInt32 31)).toInt32) &&& 1431655765)) &&& 858993459) + ((((v0 - (((v0.toUInt32 >>> (Int32.toUInt32 1 &&& Int32.toUInt32 31)).toInt32) &&& 1431655765)).toUInt32 >>> (Int32.toUInt32 2 &&& Int32.toUInt32 31)).toInt32) &&& 858993459)).toUInt32 >>> (Int32.toUInt32 4 &&& Int32.toUInt32 31)).toInt32)) &&& 252645135).toUInt32 >>> (Int32.toUInt32 8 &&& Int32.toUInt32 31)).toInt32)))]) dJ6_bitCount_0f7a4_40 rfl (by decide) rfl ?_
  refine j_iload_n (pc := 41) 0 dJ6_bitCount_0f7a4_41 rfl rfl ?_
  refine j_iload_n (pc := 42) 0 dJ6_bitCount_0f7a4_42 rfl rfl ?_
  refine j_bipush (pc := 43) (v := 16) dJ6_bitCount_0f7a4_43 (by decide) ?_
  refine j_iushr (pc := 45) dJ6_bitCount_0f7a4_45 ?_
  refine j_iadd (pc := 46) dJ6_bitCount_0f7a4_46 ?_
  refine j_istore_n (pc := 47) (lv2 := [(0, .int (((((((v0 - (((v0.toUInt32 >>> (Int32.toUInt32 1 &&& Int32.toUInt32 31)).toInt32) &&& 1431655765)) &&& 858993459) + ((((v0 - (((v0.toUInt32 >>> (Int32.toUInt32 1 &&& Int32.toUInt32 31)).toInt32) &&& 1431655765)).toUInt32 >>> (Int32.toUInt32 2 &&& Int32.toUInt32 31)).toInt32) &&& 858993459)) + (((((v0 - (((v0.toUInt32 >>> (Int32.toUInt32 1 &&& Int32.toUInt32 31)).toInt32) &&& 1431655765)) &&& 858993459) + ((((v0 - (((v0.toUInt32 >>> (Int32.toUInt32 1 &&& Int32.toUInt32 31)).toInt32) &&& 1431655765)).toUInt32 >>> (Int32.toUInt32 2 &&& Int32.toUInt32 31)).toInt32) &&& 858993459)).toUInt32 >>> (Int32.toUInt32 4 &&& Int32.toUInt32 31)).toInt32)) &&& 252645135) + (((((((v0 - (((v0.toUInt32 >>> (Int32.toUInt32 1 &&& Int32.toUInt32 31)).toInt32) &&& 1431655765)) &&& 858993459) + ((((v0 - (((v0.toUInt32 >>> (Int32.toUInt32 1 &&& Int32.toUInt32 31)).toInt32) &&& 1431655765)).toUInt32 >>> (Int32.toUInt32 2 &&& Int32.toUInt32 31)).toInt32) &&& 858993459)) + (((((v0 - (((v0.toUInt32 >>> (Int32.toUInt32 1 &&& Int32.toUInt32 31)).toInt32) &&& 1431655765)) &&& 858993459) + ((((v0 - (((v0.toUInt32 >>> (Int32.toUInt32 1 &&& Int32.toUInt32 31)).toInt32) &&& 1431655765)).toUInt32 >>> (Int32.toUInt32 2 &&& Int32.toUInt32 31)).toInt32) &&& 858993459)).toUInt32 >>> (Int32.toUInt32 4 &&& Int32.toUInt32 31)).toInt32)) &&& 252645135).toUInt32 >>> (Int32.toUInt32 8 &&& Int32.toUInt32 31)).toInt32)) + ((((((((v0 - (((v0.toUInt32 >>> (Int32.toUInt32 1 &&& Int32.toUInt32 31)).toInt32) &&& 1431655765)) &&& 858993459) + ((((v0 - (((v0.toUInt32 >>> (Int32.toUInt32 1 &&& Int32.toUInt32 31)).toInt32) &&& 1431655765)).toUInt32 >>> (Int32.toUInt32 2 &&& Int32.toUInt32 31)).toInt32) &&& 858993459)) + (((((v0 - (((v0.toUInt32 >>> (Int32.toUInt32 1 &&& Int32.toUInt32 31)).toInt32) &&& 1431655765)) &&& 858993459) + ((((v0 - (((v0.toUInt32 >>> (Int32.toUInt32 1 &&& Int32.toUInt32 31)).toInt32) &&& 1431655765)).toUInt32 >>> (Int32.toUInt32 2 &&& Int32.toUInt32 31)).toInt32) &&& 858993459)).toUInt32 >>> (Int32.toUInt32 4 &&& Int32.toUInt32 31)).toInt32)) &&& 252645135) + (((((((v0 - (((v0.toUInt32 >>> (Int32.toUInt32 1 &&& Int32.toUInt32 31)).toInt32) &&& 1431655765)) &&& 858993459) + ((((v0 - (((v0.toUInt32 >>> (Int32.toUInt32 1 &&& Int32.toUInt32 31)).toInt32) &&& 1431655765)).toUInt32 >>> (Int32.toUInt32 2 &&& Int32.toUInt32 31)).toInt32) &&& 858993459)) + (((((v0 - (((v0.toUInt32 >>> (Int32.toUInt32 1 &&& Int32.toUInt32 31)).toInt32) &&& 1431655765)) &&& 858993459) + ((((v0 - (((v0.toUInt32 >>> (Int32.toUInt32 1 &&& Int32.toUInt32 31)).toInt32) &&& 1431655765)).toUInt32 >>> (Int32.toUInt32 2 &&& Int32.toUInt32 31)).toInt32) &&& 858993459)).toUInt32 >>> (Int32.toUInt32 4 &&& Int32.toUInt32 31)).toInt32)) &&& 252645135).toUInt32 >>> (Int32.toUInt32 8 &&& Int32.toUInt32 31)).toInt32)).toUInt32 >>> (Int32.toUInt32 16 &&& Int32.toUInt32 31)).toInt32)))]) dJ6_bitCount_0f7a4_47 rfl (by decide) rfl ?_
  refine j_iload_n (pc := 48) 0 dJ6_bitCount_0f7a4_48 rfl rfl ?_
  refine j_bipush (pc := 49) (v := 63) dJ6_bitCount_0f7a4_49 (by decide) ?_
  refine j_iand (pc := 51) dJ6_bitCount_0f7a4_51 ?_
  exact j_ireturn (pc := 52) dJ6_bitCount_0f7a4_52 rfl rfl
theorem dX8_frozenCells_0 : decode cX8_frozenCells 0 = .ok (.iconst 0, 1) := by decide +kernel
theorem dX8_frozenCells_1 : decode cX8_frozenCells 1 = .ok (.istore_n 1, 1) := by decide +kernel
theorem dX8_frozenCells_2 : decode cX8_frozenCells 2 = .ok (.iconst 0, 1) := by decide +kernel
theorem dX8_frozenCells_3 : decode cX8_frozenCells 3 = .ok (.istore_n 2, 1) := by decide +kernel
theorem dX8_frozenCells_4 : decode cX8_frozenCells 4 = .ok (.iload_n 2, 1) := by decide +kernel
theorem dX8_frozenCells_5 : decode cX8_frozenCells 5 = .ok (.bipush 12, 2) := by decide +kernel
theorem dX8_frozenCells_7 : decode cX8_frozenCells 7 = .ok (.if_icmp .ge 20, 3) := by decide +kernel
theorem dX8_frozenCells_10 : decode cX8_frozenCells 10 = .ok (.iload_n 1, 1) := by decide +kernel
theorem dX8_frozenCells_11 : decode cX8_frozenCells 11 = .ok (.aload_n 0, 1) := by decide +kernel
theorem dX8_frozenCells_12 : decode cX8_frozenCells 12 = .ok (.iload_n 2, 1) := by decide +kernel
theorem dX8_frozenCells_13 : decode cX8_frozenCells 13 = .ok (.invokevirtual 137, 3) := by decide +kernel
theorem dX8_frozenCells_16 : decode cX8_frozenCells 16 = .ok (.invokestatic 141, 3) := by decide +kernel
theorem dX8_frozenCells_19 : decode cX8_frozenCells 19 = .ok (.iadd, 1) := by decide +kernel
theorem dX8_frozenCells_20 : decode cX8_frozenCells 20 = .ok (.istore_n 1, 1) := by decide +kernel
theorem dX8_frozenCells_21 : decode cX8_frozenCells 21 = .ok (.iinc 2 1, 3) := by decide +kernel
theorem dX8_frozenCells_24 : decode cX8_frozenCells 24 = .ok (.goto (-20), 3) := by decide +kernel
theorem dX8_frozenCells_27 : decode cX8_frozenCells 27 = .ok (.iload_n 1, 1) := by decide +kernel
theorem dX8_frozenCells_28 : decode cX8_frozenCells 28 = .ok (.ireturn, 1) := by decide +kernel
theorem cw_X8_frozenCells_137 : CwV mi_X8_frozenCells mi_X8_frozenBits yX8_frozenBits RX8 137 1 := ⟨⟨w_1172, w_1161, w_1162, w_96, w_1163⟩, ⟨by decide, by decide⟩, by decide +kernel, by decide, by decide⟩
theorem cw_X8_frozenCells_141 : CwS mi_X8_frozenCells mi_J6_bitCount_0f7a4 yJ6_bitCount_0f7a4 141 1 := ⟨⟨w_1173, w_1119, w_115, w_1120⟩, ⟨by decide, by decide⟩, by decide +kernel, by decide, by decide⟩
theorem j_X8_frozenCells_L4 {l : Launch} {Γ : Am}   : ∀ (f : Nat), ∀ (r0 : Nat) (v1 : Int32) (v2 : Int32) (z : Hp), J l Γ mi_X8_frozenCells cvI 0 0 4 [(0, .ref (mB Γ + r0)), (1, .int v1), (2, .int v2)] [] z (m_X8_frozenCells_L4  f r0 v1 v2 z) := by
  intro f
  induction f with
  | zero => intro r0 v1 v2 z; exact J.none
  | succ f hL4 =>
    intro r0 v1 v2 z
    rw [m_X8_frozenCells_L4]
    refine j_iload_n (pc := 4) 2 dX8_frozenCells_4 rfl rfl ?_
    refine j_bipush (pc := 5) (v := 12) dX8_frozenCells_5 (by decide) ?_
    refine j_icmp_ge (pc := 7) 27 dX8_frozenCells_7 (by decide) ?_ ?_
    · refine j_iload_n (pc := 27) 1 dX8_frozenCells_27 rfl rfl ?_
      exact j_ireturn (pc := 28) dX8_frozenCells_28 rfl rfl
    refine j_iload_n (pc := 10) 1 dX8_frozenCells_10 rfl rfl ?_
    refine j_aload_n (pc := 11) 0 dX8_frozenCells_11 rfl rfl ?_
    refine j_iload_n (pc := 12) 2 dX8_frozenCells_12 rfl rfl ?_
    refine j_isC (fun h3 => ?_)
    refine j_callV_I (pc := 13) (as := [.int v2]) (mc2 := 0) (ms2 := 0) (ct_X8_frozenBits _ _ _) h3 rfl cw_X8_frozenCells_137 dX8_frozenCells_13 (Nat.le_of_ble_eq_true rfl) rfl (by decide) (by decide) (fun x2 z1 => ?_)
    refine j_callS_I (pc := 16) (as := [.int x2]) (mc2 := 0) (ms2 := 0) (ct_J6_bitCount_0f7a4 _ _) cw_X8_frozenCells_141 dX8_frozenCells_16 (Nat.le_of_ble_eq_true rfl) rfl (by decide) (by decide) (fun x5 z4 => ?_)
    refine j_iadd (pc := 19) dX8_frozenCells_19 ?_
    refine j_istore_n (pc := 20) (lv2 := [(1, .int (v1 + x5)), (0, .ref (mB Γ + r0)), (2, .int v2)]) dX8_frozenCells_20 rfl (by decide) rfl ?_
    refine j_iinc (pc := 21) (n0 := 2) (v0 := v2 + 1) (lv2 := [(2, .int (v2 + 1)), (1, .int (v1 + x5)), (0, .ref (mB Γ + r0))]) dX8_frozenCells_21 rfl rfl (by decide) rfl ?_
    refine j_goto (pc := 24) 4 dX8_frozenCells_24 (by decide) ?_
    exact J.sub [2, 1, 0] rfl (hL4 r0 (v1 + x5) (v2 + 1) z4)
theorem ct_X8_frozenCells {l : Launch} {Γ : Am} (r0 : Nat) (z : Hp) : Ct l Γ yX8_frozenCells mi_X8_frozenCells cvI [.ref (mB Γ + r0)] z (m_X8_frozenCells r0 z) := by
  refine Ct.ofJ (by decide) ⟨rfl, rfl⟩ (Nat.le_of_ble_eq_true rfl) ?_
  unfold m_X8_frozenCells
  show J l Γ mi_X8_frozenCells cvI 0 0 0 [(0, .ref (mB Γ + r0))] [] z _
  refine j_iconst (pc := 0) (v := 0) dX8_frozenCells_0 (by decide) ?_
  refine j_istore_n (pc := 1) (lv2 := [(1, .int 0), (0, .ref (mB Γ + r0))]) dX8_frozenCells_1 rfl (by decide) rfl ?_
  refine j_iconst (pc := 2) (v := 0) dX8_frozenCells_2 (by decide) ?_
  refine j_istore_n (pc := 3) (lv2 := [(2, .int 0), (1, .int 0), (0, .ref (mB Γ + r0))]) dX8_frozenCells_3 rfl (by decide) rfl ?_
  exact J.sub [2, 1, 0] rfl ((j_X8_frozenCells_L4 FU) r0 0 0 z)
theorem dX8_liftOfColumn_0 : decode cX8_liftOfColumn 0 = .ok (.iconst 0, 1) := by decide +kernel
theorem dX8_liftOfColumn_1 : decode cX8_liftOfColumn 1 = .ok (.istore_n 2, 1) := by decide +kernel
theorem dX8_liftOfColumn_2 : decode cX8_liftOfColumn 2 = .ok (.iload_n 1, 1) := by decide +kernel
theorem dX8_liftOfColumn_3 : decode cX8_liftOfColumn 3 = .ok (.istore_n 3, 1) := by decide +kernel
theorem dX8_liftOfColumn_4 : decode cX8_liftOfColumn 4 = .ok (.iload_n 3, 1) := by decide +kernel
theorem dX8_liftOfColumn_5 : decode cX8_liftOfColumn 5 = .ok (.sipush 144, 3) := by decide +kernel
theorem dX8_liftOfColumn_8 : decode cX8_liftOfColumn 8 = .ok (.if_icmp .ge 30, 3) := by decide +kernel
theorem dX8_liftOfColumn_11 : decode cX8_liftOfColumn 11 = .ok (.aload_n 0, 1) := by decide +kernel
theorem dX8_liftOfColumn_12 : decode cX8_liftOfColumn 12 = .ok (.getfield 53, 3) := by decide +kernel
theorem dX8_liftOfColumn_15 : decode cX8_liftOfColumn 15 = .ok (.iload_n 3, 1) := by decide +kernel
theorem dX8_liftOfColumn_16 : decode cX8_liftOfColumn 16 = .ok (.iaload, 1) := by decide +kernel
theorem dX8_liftOfColumn_17 : decode cX8_liftOfColumn 17 = .ok (.ifCond .ne 15, 3) := by decide +kernel
theorem dX8_liftOfColumn_20 : decode cX8_liftOfColumn 20 = .ok (.iload_n 2, 1) := by decide +kernel
theorem dX8_liftOfColumn_21 : decode cX8_liftOfColumn 21 = .ok (.aload_n 0, 1) := by decide +kernel
theorem dX8_liftOfColumn_22 : decode cX8_liftOfColumn 22 = .ok (.getfield 50, 3) := by decide +kernel
theorem dX8_liftOfColumn_25 : decode cX8_liftOfColumn 25 = .ok (.iload_n 3, 1) := by decide +kernel
theorem dX8_liftOfColumn_26 : decode cX8_liftOfColumn 26 = .ok (.iaload, 1) := by decide +kernel
theorem dX8_liftOfColumn_27 : decode cX8_liftOfColumn 27 = .ok (.bipush 10, 2) := by decide +kernel
theorem dX8_liftOfColumn_29 : decode cX8_liftOfColumn 29 = .ok (.idiv, 1) := by decide +kernel
theorem dX8_liftOfColumn_30 : decode cX8_liftOfColumn 30 = .ok (.iadd, 1) := by decide +kernel
theorem dX8_liftOfColumn_31 : decode cX8_liftOfColumn 31 = .ok (.istore_n 2, 1) := by decide +kernel
theorem dX8_liftOfColumn_32 : decode cX8_liftOfColumn 32 = .ok (.iinc 3 12, 3) := by decide +kernel
theorem dX8_liftOfColumn_35 : decode cX8_liftOfColumn 35 = .ok (.goto (-31), 3) := by decide +kernel
theorem dX8_liftOfColumn_38 : decode cX8_liftOfColumn 38 = .ok (.iload_n 2, 1) := by decide +kernel
theorem dX8_liftOfColumn_39 : decode cX8_liftOfColumn 39 = .ok (.ireturn, 1) := by decide +kernel
theorem j_X8_liftOfColumn_B32 {l : Launch} {Γ : Am} {k4 : Nat → Int32 → Int32 → Hp → Option (Int32 × Hp)} (hL4 : ∀ (r0 : Nat) (v2 : Int32) (v3 : Int32) (z : Hp), J l Γ mi_X8_liftOfColumn cvI 0 0 4 [(0, .ref (mB Γ + r0)), (2, .int v2), (3, .int v3)] [] z (k4 r0 v2 v3 z)) : ∀ (r0 : Nat) (v2 : Int32) (v3 : Int32) (z : Hp), J l Γ mi_X8_liftOfColumn cvI 0 0 32 [(0, .ref (mB Γ + r0)), (2, .int v2), (3, .int v3)] [] z (m_X8_liftOfColumn_B32 k4 r0 v2 v3 z) := by
  intro r0 v2 v3 z
  unfold m_X8_liftOfColumn_B32
  refine j_iinc (pc := 32) (n0 := 2) (v0 := v3 + 12) (lv2 := [(3, .int (v3 + 12)), (0, .ref (mB Γ + r0)), (2, .int v2)]) dX8_liftOfColumn_32 rfl rfl (by decide) rfl ?_
  refine j_goto (pc := 35) 4 dX8_liftOfColumn_35 (by decide) ?_
  exact J.sub [1, 2, 0] rfl (hL4 r0 v2 (v3 + 12) z)
theorem j_X8_liftOfColumn_L4 {l : Launch} {Γ : Am}   : ∀ (f : Nat), ∀ (r0 : Nat) (v2 : Int32) (v3 : Int32) (z : Hp), J l Γ mi_X8_liftOfColumn cvI 0 0 4 [(0, .ref (mB Γ + r0)), (2, .int v2), (3, .int v3)] [] z (m_X8_liftOfColumn_L4  f r0 v2 v3 z) := by
  intro f
  induction f with
  | zero => intro r0 v2 v3 z; exact J.none
  | succ f hL4 =>
    intro r0 v2 v3 z
    rw [m_X8_liftOfColumn_L4]
    refine j_iload_n (pc := 4) 2 dX8_liftOfColumn_4 rfl rfl ?_
    refine j_sipush (pc := 5) (v := 144) dX8_liftOfColumn_5 (by decide) ?_
    refine j_icmp_ge (pc := 8) 38 dX8_liftOfColumn_8 (by decide) ?_ ?_
    · refine j_iload_n (pc := 38) 1 dX8_liftOfColumn_38 rfl rfl ?_
      exact j_ireturn (pc := 39) dX8_liftOfColumn_39 rfl rfl
    refine j_aload_n (pc := 11) 0 dX8_liftOfColumn_11 rfl rfl ?_
    refine j_getR (pc := 12) ok_X8 (by decide) rfl w_311 dX8_liftOfColumn_12 (fun a1 => ?_)
    refine j_iload_n (pc := 15) 2 dX8_liftOfColumn_15 rfl rfl ?_
    refine j_iaload (pc := 16) dX8_liftOfColumn_16 (fun x2 => ?_)
    refine j_if_ne (pc := 17) 32 dX8_liftOfColumn_17 (by decide) ?_ ?_
    · exact J.sub [0, 1, 2] rfl ((j_X8_liftOfColumn_B32 hL4) r0 v2 v3 z)
    refine j_iload_n (pc := 20) 1 dX8_liftOfColumn_20 rfl rfl ?_
    refine j_aload_n (pc := 21) 0 dX8_liftOfColumn_21 rfl rfl ?_
    refine j_getR (pc := 22) ok_X8 (by decide) rfl w_308 dX8_liftOfColumn_22 (fun a3 => ?_)
    refine j_iload_n (pc := 25) 2 dX8_liftOfColumn_25 rfl rfl ?_
    refine j_iaload (pc := 26) dX8_liftOfColumn_26 (fun x4 => ?_)
    refine j_bipush (pc := 27) (v := 10) dX8_liftOfColumn_27 (by decide) ?_
    refine j_idiv (pc := 29) dX8_liftOfColumn_29 (by decide) ?_
    refine j_iadd (pc := 30) dX8_liftOfColumn_30 ?_
    refine j_istore_n (pc := 31) (lv2 := [(2, .int (v2 + (x4 / 10))), (0, .ref (mB Γ + r0)), (3, .int v3)]) dX8_liftOfColumn_31 rfl (by decide) rfl ?_
    exact J.sub [1, 0, 2] rfl ((j_X8_liftOfColumn_B32 hL4) r0 (v2 + (x4 / 10)) v3 z)
theorem ct_X8_liftOfColumn {l : Launch} {Γ : Am} (r0 : Nat) (v1 : Int32) (z : Hp) : Ct l Γ yX8_liftOfColumn mi_X8_liftOfColumn cvI [.ref (mB Γ + r0), .int v1] z (m_X8_liftOfColumn r0 v1 z) := by
  refine Ct.ofJ (by decide) ⟨rfl, rfl⟩ (Nat.le_of_ble_eq_true rfl) ?_
  unfold m_X8_liftOfColumn
  show J l Γ mi_X8_liftOfColumn cvI 0 0 0 [(0, .ref (mB Γ + r0)), (1, .int v1)] [] z _
  refine j_iconst (pc := 0) (v := 0) dX8_liftOfColumn_0 (by decide) ?_
  refine j_istore_n (pc := 1) (lv2 := [(2, .int 0), (0, .ref (mB Γ + r0)), (1, .int v1)]) dX8_liftOfColumn_1 rfl (by decide) rfl ?_
  refine j_iload_n (pc := 2) 2 dX8_liftOfColumn_2 rfl rfl ?_
  refine j_istore_n (pc := 3) (lv2 := [(3, .int v1), (2, .int 0), (0, .ref (mB Γ + r0)), (1, .int v1)]) dX8_liftOfColumn_3 rfl (by decide) rfl ?_
  exact J.sub [2, 1, 0] rfl ((j_X8_liftOfColumn_L4 FU) r0 0 v1 z)
theorem dJ9_max_7cf53_0 : decode cJ9_max_7cf53 0 = .ok (.iload_n 0, 1) := by decide +kernel
theorem dJ9_max_7cf53_1 : decode cJ9_max_7cf53 1 = .ok (.iload_n 1, 1) := by decide +kernel
theorem dJ9_max_7cf53_2 : decode cJ9_max_7cf53 2 = .ok (.if_icmp .lt 7, 3) := by decide +kernel
theorem dJ9_max_7cf53_5 : decode cJ9_max_7cf53 5 = .ok (.iload_n 0, 1) := by decide +kernel
theorem dJ9_max_7cf53_6 : decode cJ9_max_7cf53 6 = .ok (.goto 4, 3) := by decide +kernel
theorem dJ9_max_7cf53_9 : decode cJ9_max_7cf53 9 = .ok (.iload_n 1, 1) := by decide +kernel
theorem dJ9_max_7cf53_10 : decode cJ9_max_7cf53 10 = .ok (.ireturn, 1) := by decide +kernel
theorem ct_J9_max_7cf53 {l : Launch} {Γ : Am} (v0 : Int32) (v1 : Int32) (z : Hp) : Ct l Γ yJ9_max_7cf53 mi_J9_max_7cf53 cvI [.int v0, .int v1] z (m_J9_max_7cf53 v0 v1 z) := by
  refine Ct.ofJ (by decide +kernel) ⟨rfl, rfl⟩ (Nat.le_of_ble_eq_true rfl) ?_
  unfold m_J9_max_7cf53
  show J l Γ mi_J9_max_7cf53 cvI 0 0 0 [(0, .int v0), (1, .int v1)] [] z _
  refine j_iload_n (pc := 0) 0 dJ9_max_7cf53_0 rfl rfl ?_
  refine j_iload_n (pc := 1) 1 dJ9_max_7cf53_1 rfl rfl ?_
  refine j_icmp_lt (pc := 2) 9 dJ9_max_7cf53_2 (by decide) ?_ ?_
  · refine j_iload_n (pc := 9) 1 dJ9_max_7cf53_9 rfl rfl ?_
    exact j_ireturn (pc := 10) dJ9_max_7cf53_10 rfl rfl
  refine j_iload_n (pc := 5) 0 dJ9_max_7cf53_5 rfl rfl ?_
  refine j_goto (pc := 6) 10 dJ9_max_7cf53_6 (by decide) ?_
  exact j_ireturn (pc := 10) dJ9_max_7cf53_10 rfl rfl
theorem dX8_greatestLift_0 : decode cX8_greatestLift 0 = .ok (.iconst 0, 1) := by decide +kernel
theorem dX8_greatestLift_1 : decode cX8_greatestLift 1 = .ok (.istore_n 1, 1) := by decide +kernel
theorem dX8_greatestLift_2 : decode cX8_greatestLift 2 = .ok (.iconst 0, 1) := by decide +kernel
theorem dX8_greatestLift_3 : decode cX8_greatestLift 3 = .ok (.istore_n 2, 1) := by decide +kernel
theorem dX8_greatestLift_4 : decode cX8_greatestLift 4 = .ok (.iload_n 2, 1) := by decide +kernel
theorem dX8_greatestLift_5 : decode cX8_greatestLift 5 = .ok (.bipush 12, 2) := by decide +kernel
theorem dX8_greatestLift_7 : decode cX8_greatestLift 7 = .ok (.if_icmp .ge 19, 3) := by decide +kernel
theorem dX8_greatestLift_10 : decode cX8_greatestLift 10 = .ok (.iload_n 1, 1) := by decide +kernel
theorem dX8_greatestLift_11 : decode cX8_greatestLift 11 = .ok (.aload_n 0, 1) := by decide +kernel
theorem dX8_greatestLift_12 : decode cX8_greatestLift 12 = .ok (.iload_n 2, 1) := by decide +kernel
theorem dX8_greatestLift_13 : decode cX8_greatestLift 13 = .ok (.invokevirtual 146, 3) := by decide +kernel
theorem dX8_greatestLift_16 : decode cX8_greatestLift 16 = .ok (.invokestatic 149, 3) := by decide +kernel
theorem dX8_greatestLift_19 : decode cX8_greatestLift 19 = .ok (.istore_n 1, 1) := by decide +kernel
theorem dX8_greatestLift_20 : decode cX8_greatestLift 20 = .ok (.iinc 2 1, 3) := by decide +kernel
theorem dX8_greatestLift_23 : decode cX8_greatestLift 23 = .ok (.goto (-19), 3) := by decide +kernel
theorem dX8_greatestLift_26 : decode cX8_greatestLift 26 = .ok (.iload_n 1, 1) := by decide +kernel
theorem dX8_greatestLift_27 : decode cX8_greatestLift 27 = .ok (.ireturn, 1) := by decide +kernel
theorem cw_X8_greatestLift_146 : CwV mi_X8_greatestLift mi_X8_liftOfColumn yX8_liftOfColumn RX8 146 1 := ⟨⟨w_874, w_875, w_876, w_96, w_877⟩, ⟨by decide, by decide⟩, by decide +kernel, by decide, by decide⟩
theorem cw_X8_greatestLift_149 : CwS mi_X8_greatestLift mi_J9_max_7cf53 yJ9_max_7cf53 149 2 := ⟨⟨w_1009, w_834, w_109, w_835⟩, ⟨by decide, by decide⟩, by decide +kernel, by decide, by decide⟩
theorem j_X8_greatestLift_L4 {l : Launch} {Γ : Am}   : ∀ (f : Nat), ∀ (r0 : Nat) (v1 : Int32) (v2 : Int32) (z : Hp), J l Γ mi_X8_greatestLift cvI 0 0 4 [(0, .ref (mB Γ + r0)), (1, .int v1), (2, .int v2)] [] z (m_X8_greatestLift_L4  f r0 v1 v2 z) := by
  intro f
  induction f with
  | zero => intro r0 v1 v2 z; exact J.none
  | succ f hL4 =>
    intro r0 v1 v2 z
    rw [m_X8_greatestLift_L4]
    refine j_iload_n (pc := 4) 2 dX8_greatestLift_4 rfl rfl ?_
    refine j_bipush (pc := 5) (v := 12) dX8_greatestLift_5 (by decide) ?_
    refine j_icmp_ge (pc := 7) 26 dX8_greatestLift_7 (by decide) ?_ ?_
    · refine j_iload_n (pc := 26) 1 dX8_greatestLift_26 rfl rfl ?_
      exact j_ireturn (pc := 27) dX8_greatestLift_27 rfl rfl
    refine j_iload_n (pc := 10) 1 dX8_greatestLift_10 rfl rfl ?_
    refine j_aload_n (pc := 11) 0 dX8_greatestLift_11 rfl rfl ?_
    refine j_iload_n (pc := 12) 2 dX8_greatestLift_12 rfl rfl ?_
    refine j_isC (fun h3 => ?_)
    refine j_callV_I (pc := 13) (as := [.int v2]) (mc2 := 0) (ms2 := 0) (ct_X8_liftOfColumn _ _ _) h3 rfl cw_X8_greatestLift_146 dX8_greatestLift_13 (Nat.le_of_ble_eq_true rfl) rfl (by decide) (by decide) (fun x2 z1 => ?_)
    refine j_callS_I (pc := 16) (as := [.int v1, .int x2]) (mc2 := 0) (ms2 := 0) (ct_J9_max_7cf53 _ _ _) cw_X8_greatestLift_149 dX8_greatestLift_16 (Nat.le_of_ble_eq_true rfl) rfl (by decide) (by decide) (fun x5 z4 => ?_)
    refine j_istore_n (pc := 19) (lv2 := [(1, .int x5), (0, .ref (mB Γ + r0)), (2, .int v2)]) dX8_greatestLift_19 rfl (by decide) rfl ?_
    refine j_iinc (pc := 20) (n0 := 2) (v0 := v2 + 1) (lv2 := [(2, .int (v2 + 1)), (1, .int x5), (0, .ref (mB Γ + r0))]) dX8_greatestLift_20 rfl rfl (by decide) rfl ?_
    refine j_goto (pc := 23) 4 dX8_greatestLift_23 (by decide) ?_
    exact J.sub [2, 1, 0] rfl (hL4 r0 x5 (v2 + 1) z4)
theorem ct_X8_greatestLift {l : Launch} {Γ : Am} (r0 : Nat) (z : Hp) : Ct l Γ yX8_greatestLift mi_X8_greatestLift cvI [.ref (mB Γ + r0)] z (m_X8_greatestLift r0 z) := by
  refine Ct.ofJ (by decide) ⟨rfl, rfl⟩ (Nat.le_of_ble_eq_true rfl) ?_
  unfold m_X8_greatestLift
  show J l Γ mi_X8_greatestLift cvI 0 0 0 [(0, .ref (mB Γ + r0))] [] z _
  refine j_iconst (pc := 0) (v := 0) dX8_greatestLift_0 (by decide) ?_
  refine j_istore_n (pc := 1) (lv2 := [(1, .int 0), (0, .ref (mB Γ + r0))]) dX8_greatestLift_1 rfl (by decide) rfl ?_
  refine j_iconst (pc := 2) (v := 0) dX8_greatestLift_2 (by decide) ?_
  refine j_istore_n (pc := 3) (lv2 := [(2, .int 0), (1, .int 0), (0, .ref (mB Γ + r0))]) dX8_greatestLift_3 rfl (by decide) rfl ?_
  exact J.sub [2, 1, 0] rfl ((j_X8_greatestLift_L4 FU) r0 0 0 z)
theorem dJ9_abs_0f7a4_0 : decode cJ9_abs_0f7a4 0 = .ok (.iload_n 0, 1) := by decide +kernel
theorem dJ9_abs_0f7a4_1 : decode cJ9_abs_0f7a4 1 = .ok (.ifCond .ge 8, 3) := by decide +kernel
theorem dJ9_abs_0f7a4_4 : decode cJ9_abs_0f7a4 4 = .ok (.iload_n 0, 1) := by decide +kernel
theorem dJ9_abs_0f7a4_5 : decode cJ9_abs_0f7a4 5 = .ok (.ineg, 1) := by decide +kernel
theorem dJ9_abs_0f7a4_6 : decode cJ9_abs_0f7a4 6 = .ok (.goto 4, 3) := by decide +kernel
theorem dJ9_abs_0f7a4_9 : decode cJ9_abs_0f7a4 9 = .ok (.iload_n 0, 1) := by decide +kernel
theorem dJ9_abs_0f7a4_10 : decode cJ9_abs_0f7a4 10 = .ok (.ireturn, 1) := by decide +kernel
theorem ct_J9_abs_0f7a4 {l : Launch} {Γ : Am} (v0 : Int32) (z : Hp) : Ct l Γ yJ9_abs_0f7a4 mi_J9_abs_0f7a4 cvI [.int v0] z (m_J9_abs_0f7a4 v0 z) := by
  refine Ct.ofJ (by decide +kernel) ⟨rfl, rfl⟩ (Nat.le_of_ble_eq_true rfl) ?_
  unfold m_J9_abs_0f7a4
  show J l Γ mi_J9_abs_0f7a4 cvI 0 0 0 [(0, .int v0)] [] z _
  refine j_iload_n (pc := 0) 0 dJ9_abs_0f7a4_0 rfl rfl ?_
  refine j_if_ge (pc := 1) 9 dJ9_abs_0f7a4_1 (by decide) ?_ ?_
  · refine j_iload_n (pc := 9) 0 dJ9_abs_0f7a4_9 rfl rfl ?_
    exact j_ireturn (pc := 10) dJ9_abs_0f7a4_10 rfl rfl
  refine j_iload_n (pc := 4) 0 dJ9_abs_0f7a4_4 rfl rfl ?_
  refine j_ineg (pc := 5) dJ9_abs_0f7a4_5 ?_
  refine j_goto (pc := 6) 10 dJ9_abs_0f7a4_6 (by decide) ?_
  exact j_ireturn (pc := 10) dJ9_abs_0f7a4_10 rfl rfl
theorem dX8_crackHouses_0 : decode cX8_crackHouses 0 = .ok (.iconst 0, 1) := by decide +kernel
theorem dX8_crackHouses_1 : decode cX8_crackHouses 1 = .ok (.istore_n 1, 1) := by decide +kernel
theorem dX8_crackHouses_2 : decode cX8_crackHouses 2 = .ok (.iload_n 1, 1) := by decide +kernel
theorem dX8_crackHouses_3 : decode cX8_crackHouses 3 = .ok (.aload_n 0, 1) := by decide +kernel
theorem dX8_crackHouses_4 : decode cX8_crackHouses 4 = .ok (.getfield 28, 3) := by decide +kernel
theorem dX8_crackHouses_7 : decode cX8_crackHouses 7 = .ok (.getfield 91, 3) := by decide +kernel
theorem dX8_crackHouses_10 : decode cX8_crackHouses 10 = .ok (.if_icmp .ge 75, 3) := by decide +kernel
theorem dX8_crackHouses_13 : decode cX8_crackHouses 13 = .ok (.aload_n 0, 1) := by decide +kernel
theorem dX8_crackHouses_14 : decode cX8_crackHouses 14 = .ok (.getfield 28, 3) := by decide +kernel
theorem dX8_crackHouses_17 : decode cX8_crackHouses 17 = .ok (.getfield 155, 3) := by decide +kernel
theorem dX8_crackHouses_20 : decode cX8_crackHouses 20 = .ok (.iload_n 1, 1) := by decide +kernel
theorem dX8_crackHouses_21 : decode cX8_crackHouses 21 = .ok (.iaload, 1) := by decide +kernel
theorem dX8_crackHouses_22 : decode cX8_crackHouses 22 = .ok (.istore_n 2, 1) := by decide +kernel
theorem dX8_crackHouses_23 : decode cX8_crackHouses 23 = .ok (.aload_n 0, 1) := by decide +kernel
theorem dX8_crackHouses_24 : decode cX8_crackHouses 24 = .ok (.iload_n 2, 1) := by decide +kernel
theorem dX8_crackHouses_25 : decode cX8_crackHouses 25 = .ok (.invokevirtual 146, 3) := by decide +kernel
theorem dX8_crackHouses_28 : decode cX8_crackHouses 28 = .ok (.aload_n 0, 1) := by decide +kernel
theorem dX8_crackHouses_29 : decode cX8_crackHouses 29 = .ok (.iload_n 2, 1) := by decide +kernel
theorem dX8_crackHouses_30 : decode cX8_crackHouses 30 = .ok (.iconst 1, 1) := by decide +kernel
theorem dX8_crackHouses_31 : decode cX8_crackHouses 31 = .ok (.iadd, 1) := by decide +kernel
theorem dX8_crackHouses_32 : decode cX8_crackHouses 32 = .ok (.invokevirtual 146, 3) := by decide +kernel
theorem dX8_crackHouses_35 : decode cX8_crackHouses 35 = .ok (.isub, 1) := by decide +kernel
theorem dX8_crackHouses_36 : decode cX8_crackHouses 36 = .ok (.invokestatic 158, 3) := by decide +kernel
theorem dX8_crackHouses_39 : decode cX8_crackHouses 39 = .ok (.istore_n 3, 1) := by decide +kernel
theorem dX8_crackHouses_40 : decode cX8_crackHouses 40 = .ok (.aload_n 0, 1) := by decide +kernel
theorem dX8_crackHouses_41 : decode cX8_crackHouses 41 = .ok (.getfield 28, 3) := by decide +kernel
theorem dX8_crackHouses_44 : decode cX8_crackHouses 44 = .ok (.getfield 161, 3) := by decide +kernel
theorem dX8_crackHouses_47 : decode cX8_crackHouses 47 = .ok (.iload_n 1, 1) := by decide +kernel
theorem dX8_crackHouses_48 : decode cX8_crackHouses 48 = .ok (.iaload, 1) := by decide +kernel
theorem dX8_crackHouses_49 : decode cX8_crackHouses 49 = .ok (.iconst (-1), 1) := by decide +kernel
theorem dX8_crackHouses_50 : decode cX8_crackHouses 50 = .ok (.if_icmp .ne 29, 3) := by decide +kernel
theorem dX8_crackHouses_53 : decode cX8_crackHouses 53 = .ok (.iload_n 3, 1) := by decide +kernel
theorem dX8_crackHouses_54 : decode cX8_crackHouses 54 = .ok (.aload_n 0, 1) := by decide +kernel
theorem dX8_crackHouses_55 : decode cX8_crackHouses 55 = .ok (.getfield 28, 3) := by decide +kernel
theorem dX8_crackHouses_58 : decode cX8_crackHouses 58 = .ok (.getfield 164, 3) := by decide +kernel
theorem dX8_crackHouses_61 : decode cX8_crackHouses 61 = .ok (.iload_n 1, 1) := by decide +kernel
theorem dX8_crackHouses_62 : decode cX8_crackHouses 62 = .ok (.iaload, 1) := by decide +kernel
theorem dX8_crackHouses_63 : decode cX8_crackHouses 63 = .ok (.if_icmp .le 16, 3) := by decide +kernel
theorem dX8_crackHouses_66 : decode cX8_crackHouses 66 = .ok (.aload_n 0, 1) := by decide +kernel
theorem dX8_crackHouses_67 : decode cX8_crackHouses 67 = .ok (.getfield 28, 3) := by decide +kernel
theorem dX8_crackHouses_70 : decode cX8_crackHouses 70 = .ok (.getfield 161, 3) := by decide +kernel
theorem dX8_crackHouses_73 : decode cX8_crackHouses 73 = .ok (.iload_n 1, 1) := by decide +kernel
theorem dX8_crackHouses_74 : decode cX8_crackHouses 74 = .ok (.aload_n 0, 1) := by decide +kernel
theorem dX8_crackHouses_75 : decode cX8_crackHouses 75 = .ok (.getfield 76, 3) := by decide +kernel
theorem dX8_crackHouses_78 : decode cX8_crackHouses 78 = .ok (.iastore, 1) := by decide +kernel
theorem dX8_crackHouses_79 : decode cX8_crackHouses 79 = .ok (.iinc 1 1, 3) := by decide +kernel
theorem dX8_crackHouses_82 : decode cX8_crackHouses 82 = .ok (.goto (-80), 3) := by decide +kernel
theorem dX8_crackHouses_85 : decode cX8_crackHouses 85 = .ok (.return_, 1) := by decide +kernel
theorem cw_X8_crackHouses_146 : CwV mi_X8_crackHouses mi_X8_liftOfColumn yX8_liftOfColumn RX8 146 1 := ⟨⟨w_874, w_875, w_876, w_96, w_877⟩, ⟨by decide, by decide⟩, by decide +kernel, by decide, by decide⟩
theorem cw_X8_crackHouses_158 : CwS mi_X8_crackHouses mi_J9_abs_0f7a4 yJ9_abs_0f7a4 158 1 := ⟨⟨w_878, w_879, w_109, w_880⟩, ⟨by decide, by decide⟩, by decide +kernel, by decide, by decide⟩
theorem j_X8_crackHouses_B79 {l : Launch} {Γ : Am} {k2 : Nat → Int32 → Hp → Option (Unit × Hp)} (hL2 : ∀ (r0 : Nat) (v1 : Int32) (z : Hp), J l Γ mi_X8_crackHouses cvV 0 0 2 [(0, .ref (mB Γ + r0)), (1, .int v1)] [] z (k2 r0 v1 z)) : ∀ (r0 : Nat) (v1 : Int32) (z : Hp), J l Γ mi_X8_crackHouses cvV 0 0 79 [(0, .ref (mB Γ + r0)), (1, .int v1)] [] z (m_X8_crackHouses_B79 k2 r0 v1 z) := by
  intro r0 v1 z
  unfold m_X8_crackHouses_B79
  refine j_iinc (pc := 79) (n0 := 1) (v0 := v1 + 1) (lv2 := [(1, .int (v1 + 1)), (0, .ref (mB Γ + r0))]) dX8_crackHouses_79 rfl rfl (by decide) rfl ?_
  refine j_goto (pc := 82) 2 dX8_crackHouses_82 (by decide) ?_
  exact J.sub [1, 0] rfl (hL2 r0 (v1 + 1) z)
theorem j_X8_crackHouses_L2 {l : Launch} {Γ : Am}   : ∀ (f : Nat), ∀ (r0 : Nat) (v1 : Int32) (z : Hp), J l Γ mi_X8_crackHouses cvV 0 0 2 [(0, .ref (mB Γ + r0)), (1, .int v1)] [] z (m_X8_crackHouses_L2  f r0 v1 z) := by
  intro f
  induction f with
  | zero => intro r0 v1 z; exact J.none
  | succ f hL2 =>
    intro r0 v1 z
    rw [m_X8_crackHouses_L2]
    refine j_iload_n (pc := 2) 1 dX8_crackHouses_2 rfl rfl ?_
    refine j_aload_n (pc := 3) 0 dX8_crackHouses_3 rfl rfl ?_
    refine j_getR (pc := 4) ok_X8 (by decide) rfl w_297 dX8_crackHouses_4 (fun a1 => ?_)
    refine j_getI (pc := 7) ok_X1 (by decide) rfl w_232 dX8_crackHouses_7 (fun x2 => ?_)
    refine j_icmp_ge (pc := 10) 85 dX8_crackHouses_10 (by decide) ?_ ?_
    · exact j_return (pc := 85) dX8_crackHouses_85 rfl
    refine j_aload_n (pc := 13) 0 dX8_crackHouses_13 rfl rfl ?_
    refine j_getR (pc := 14) ok_X8 (by decide) rfl w_297 dX8_crackHouses_14 (fun a3 => ?_)
    refine j_getR (pc := 17) ok_X1 (by decide) rfl w_226 dX8_crackHouses_17 (fun a4 => ?_)
    refine j_iload_n (pc := 20) 1 dX8_crackHouses_20 rfl rfl ?_
    refine j_iaload (pc := 21) dX8_crackHouses_21 (fun x5 => ?_)
    refine j_istore_n (pc := 22) (lv2 := [(2, .int x5), (0, .ref (mB Γ + r0)), (1, .int v1)]) dX8_crackHouses_22 rfl (by decide) rfl ?_
    refine j_aload_n (pc := 23) 1 dX8_crackHouses_23 rfl rfl ?_
    refine j_iload_n (pc := 24) 0 dX8_crackHouses_24 rfl rfl ?_
    refine j_isC (fun h8 => ?_)
    refine j_callV_I (pc := 25) (as := [.int x5]) (mc2 := 0) (ms2 := 0) (ct_X8_liftOfColumn _ _ _) h8 rfl cw_X8_crackHouses_146 dX8_crackHouses_25 (Nat.le_of_ble_eq_true rfl) rfl (by decide) (by decide) (fun x7 z6 => ?_)
    refine j_aload_n (pc := 28) 1 dX8_crackHouses_28 rfl rfl ?_
    refine j_iload_n (pc := 29) 0 dX8_crackHouses_29 rfl rfl ?_
    refine j_iconst (pc := 30) (v := 1) dX8_crackHouses_30 (by decide) ?_
    refine j_iadd (pc := 31) dX8_crackHouses_31 ?_
    refine j_isC (fun h11 => ?_)
    refine j_callV_I (pc := 32) (as := [.int (x5 + 1)]) (mc2 := 0) (ms2 := 0) (ct_X8_liftOfColumn _ _ _) h11 rfl cw_X8_crackHouses_146 dX8_crackHouses_32 (Nat.le_of_ble_eq_true rfl) rfl (by decide) (by decide) (fun x10 z9 => ?_)
    refine j_isub (pc := 35) dX8_crackHouses_35 ?_
    refine j_callS_I (pc := 36) (as := [.int (x7 - x10)]) (mc2 := 0) (ms2 := 0) (ct_J9_abs_0f7a4 _ _) cw_X8_crackHouses_158 dX8_crackHouses_36 (Nat.le_of_ble_eq_true rfl) rfl (by decide) (by decide) (fun x13 z12 => ?_)
    refine j_istore_n (pc := 39) (lv2 := [(3, .int x13), (2, .int x5), (0, .ref (mB Γ + r0)), (1, .int v1)]) dX8_crackHouses_39 rfl (by decide) rfl ?_
    refine j_aload_n (pc := 40) 2 dX8_crackHouses_40 rfl rfl ?_
    refine j_getR (pc := 41) ok_X8 (by decide) rfl w_297 dX8_crackHouses_41 (fun a14 => ?_)
    refine j_getR (pc := 44) ok_X1 (by decide) rfl w_230 dX8_crackHouses_44 (fun a15 => ?_)
    refine j_iload_n (pc := 47) 3 dX8_crackHouses_47 rfl rfl ?_
    refine j_iaload (pc := 48) dX8_crackHouses_48 (fun x16 => ?_)
    refine j_iconst (pc := 49) (v := (-1)) dX8_crackHouses_49 (by decide) ?_
    refine j_icmp_ne (pc := 50) 79 dX8_crackHouses_50 (by decide) ?_ ?_
    · exact J.sub [2, 3] rfl ((j_X8_crackHouses_B79 hL2) r0 v1 z12)
    refine j_iload_n (pc := 53) 0 dX8_crackHouses_53 rfl rfl ?_
    refine j_aload_n (pc := 54) 2 dX8_crackHouses_54 rfl rfl ?_
    refine j_getR (pc := 55) ok_X8 (by decide) rfl w_297 dX8_crackHouses_55 (fun a17 => ?_)
    refine j_getR (pc := 58) ok_X1 (by decide) rfl w_228 dX8_crackHouses_58 (fun a18 => ?_)
    refine j_iload_n (pc := 61) 3 dX8_crackHouses_61 rfl rfl ?_
    refine j_iaload (pc := 62) dX8_crackHouses_62 (fun x19 => ?_)
    refine j_icmp_le (pc := 63) 79 dX8_crackHouses_63 (by decide) ?_ ?_
    · exact J.sub [2, 3] rfl ((j_X8_crackHouses_B79 hL2) r0 v1 z12)
    refine j_aload_n (pc := 66) 2 dX8_crackHouses_66 rfl rfl ?_
    refine j_getR (pc := 67) ok_X8 (by decide) rfl w_297 dX8_crackHouses_67 (fun a20 => ?_)
    refine j_getR (pc := 70) ok_X1 (by decide) rfl w_230 dX8_crackHouses_70 (fun a21 => ?_)
    refine j_iload_n (pc := 73) 3 dX8_crackHouses_73 rfl rfl ?_
    refine j_aload_n (pc := 74) 2 dX8_crackHouses_74 rfl rfl ?_
    refine j_getI (pc := 75) ok_X8 (by decide) rfl w_333 dX8_crackHouses_75 (fun x22 => ?_)
    refine j_iastore (pc := 78) dX8_crackHouses_78 (fun z23 => ?_)
    exact J.sub [2, 3] rfl ((j_X8_crackHouses_B79 hL2) r0 v1 z23)
theorem ct_X8_crackHouses {l : Launch} {Γ : Am} (r0 : Nat) (z : Hp) : Ct l Γ yX8_crackHouses mi_X8_crackHouses cvV [.ref (mB Γ + r0)] z (m_X8_crackHouses r0 z) := by
  refine Ct.ofJ (by decide) ⟨rfl, rfl⟩ (Nat.le_of_ble_eq_true rfl) ?_
  unfold m_X8_crackHouses
  show J l Γ mi_X8_crackHouses cvV 0 0 0 [(0, .ref (mB Γ + r0))] [] z _
  refine j_iconst (pc := 0) (v := 0) dX8_crackHouses_0 (by decide) ?_
  refine j_istore_n (pc := 1) (lv2 := [(1, .int 0), (0, .ref (mB Γ + r0))]) dX8_crackHouses_1 rfl (by decide) rfl ?_
  exact J.sub [1, 0] rfl ((j_X8_crackHouses_L2 FU) r0 0 z)
theorem dX8_beliedGauges_0 : decode cX8_beliedGauges 0 = .ok (.iconst 0, 1) := by decide +kernel
theorem dX8_beliedGauges_1 : decode cX8_beliedGauges 1 = .ok (.istore_n 2, 1) := by decide +kernel
theorem dX8_beliedGauges_2 : decode cX8_beliedGauges 2 = .ok (.iconst 0, 1) := by decide +kernel
theorem dX8_beliedGauges_3 : decode cX8_beliedGauges 3 = .ok (.istore_n 3, 1) := by decide +kernel
theorem dX8_beliedGauges_4 : decode cX8_beliedGauges 4 = .ok (.iload_n 3, 1) := by decide +kernel
theorem dX8_beliedGauges_5 : decode cX8_beliedGauges 5 = .ok (.bipush 10, 2) := by decide +kernel
theorem dX8_beliedGauges_7 : decode cX8_beliedGauges 7 = .ok (.if_icmp .ge 66, 3) := by decide +kernel
theorem dX8_beliedGauges_10 : decode cX8_beliedGauges 10 = .ok (.aload_n 0, 1) := by decide +kernel
theorem dX8_beliedGauges_11 : decode cX8_beliedGauges 11 = .ok (.getfield 42, 3) := by decide +kernel
theorem dX8_beliedGauges_14 : decode cX8_beliedGauges 14 = .ok (.getfield 102, 3) := by decide +kernel
theorem dX8_beliedGauges_17 : decode cX8_beliedGauges 17 = .ok (.iload_n 3, 1) := by decide +kernel
theorem dX8_beliedGauges_18 : decode cX8_beliedGauges 18 = .ok (.iaload, 1) := by decide +kernel
theorem dX8_beliedGauges_19 : decode cX8_beliedGauges 19 = .ok (.istore 4, 2) := by decide +kernel
theorem dX8_beliedGauges_21 : decode cX8_beliedGauges 21 = .ok (.iload 4, 2) := by decide +kernel
theorem dX8_beliedGauges_23 : decode cX8_beliedGauges 23 = .ok (.iconst (-1), 1) := by decide +kernel
theorem dX8_beliedGauges_24 : decode cX8_beliedGauges 24 = .ok (.if_icmp .eq 43, 3) := by decide +kernel
theorem dX8_beliedGauges_27 : decode cX8_beliedGauges 27 = .ok (.aload_n 0, 1) := by decide +kernel
theorem dX8_beliedGauges_28 : decode cX8_beliedGauges 28 = .ok (.getfield 53, 3) := by decide +kernel
theorem dX8_beliedGauges_31 : decode cX8_beliedGauges 31 = .ok (.iload 4, 2) := by decide +kernel
theorem dX8_beliedGauges_33 : decode cX8_beliedGauges 33 = .ok (.iaload, 1) := by decide +kernel
theorem dX8_beliedGauges_34 : decode cX8_beliedGauges 34 = .ok (.ifCond .ne 27, 3) := by decide +kernel
theorem dX8_beliedGauges_37 : decode cX8_beliedGauges 37 = .ok (.aload_n 0, 1) := by decide +kernel
theorem dX8_beliedGauges_38 : decode cX8_beliedGauges 38 = .ok (.getfield 46, 3) := by decide +kernel
theorem dX8_beliedGauges_41 : decode cX8_beliedGauges 41 = .ok (.iload 4, 2) := by decide +kernel
theorem dX8_beliedGauges_43 : decode cX8_beliedGauges 43 = .ok (.iaload, 1) := by decide +kernel
theorem dX8_beliedGauges_44 : decode cX8_beliedGauges 44 = .ok (.aload_n 0, 1) := by decide +kernel
theorem dX8_beliedGauges_45 : decode cX8_beliedGauges 45 = .ok (.getfield 42, 3) := by decide +kernel
theorem dX8_beliedGauges_48 : decode cX8_beliedGauges 48 = .ok (.getfield 167, 3) := by decide +kernel
theorem dX8_beliedGauges_51 : decode cX8_beliedGauges 51 = .ok (.iload_n 3, 1) := by decide +kernel
theorem dX8_beliedGauges_52 : decode cX8_beliedGauges 52 = .ok (.iaload, 1) := by decide +kernel
theorem dX8_beliedGauges_53 : decode cX8_beliedGauges 53 = .ok (.isub, 1) := by decide +kernel
theorem dX8_beliedGauges_54 : decode cX8_beliedGauges 54 = .ok (.invokestatic 158, 3) := by decide +kernel
theorem dX8_beliedGauges_57 : decode cX8_beliedGauges 57 = .ok (.iload_n 1, 1) := by decide +kernel
theorem dX8_beliedGauges_58 : decode cX8_beliedGauges 58 = .ok (.if_icmp .le 9, 3) := by decide +kernel
theorem dX8_beliedGauges_61 : decode cX8_beliedGauges 61 = .ok (.iload_n 2, 1) := by decide +kernel
theorem dX8_beliedGauges_62 : decode cX8_beliedGauges 62 = .ok (.iconst 1, 1) := by decide +kernel
theorem dX8_beliedGauges_63 : decode cX8_beliedGauges 63 = .ok (.iload_n 3, 1) := by decide +kernel
theorem dX8_beliedGauges_64 : decode cX8_beliedGauges 64 = .ok (.ishl, 1) := by decide +kernel
theorem dX8_beliedGauges_65 : decode cX8_beliedGauges 65 = .ok (.ior, 1) := by decide +kernel
theorem dX8_beliedGauges_66 : decode cX8_beliedGauges 66 = .ok (.istore_n 2, 1) := by decide +kernel
theorem dX8_beliedGauges_67 : decode cX8_beliedGauges 67 = .ok (.iinc 3 1, 3) := by decide +kernel
theorem dX8_beliedGauges_70 : decode cX8_beliedGauges 70 = .ok (.goto (-66), 3) := by decide +kernel
theorem dX8_beliedGauges_73 : decode cX8_beliedGauges 73 = .ok (.iload_n 2, 1) := by decide +kernel
theorem dX8_beliedGauges_74 : decode cX8_beliedGauges 74 = .ok (.ireturn, 1) := by decide +kernel
theorem cw_X8_beliedGauges_158 : CwS mi_X8_beliedGauges mi_J9_abs_0f7a4 yJ9_abs_0f7a4 158 1 := ⟨⟨w_878, w_879, w_109, w_880⟩, ⟨by decide, by decide⟩, by decide +kernel, by decide, by decide⟩
theorem j_X8_beliedGauges_B67 {l : Launch} {Γ : Am} {k4 : Nat → Int32 → Int32 → Int32 → Hp → Option (Int32 × Hp)} (hL4 : ∀ (r0 : Nat) (v1 : Int32) (v2 : Int32) (v3 : Int32) (z : Hp), J l Γ mi_X8_beliedGauges cvI 0 0 4 [(0, .ref (mB Γ + r0)), (1, .int v1), (2, .int v2), (3, .int v3)] [] z (k4 r0 v1 v2 v3 z)) : ∀ (r0 : Nat) (v1 : Int32) (v2 : Int32) (v3 : Int32) (z : Hp), J l Γ mi_X8_beliedGauges cvI 0 0 67 [(0, .ref (mB Γ + r0)), (1, .int v1), (2, .int v2), (3, .int v3)] [] z (m_X8_beliedGauges_B67 k4 r0 v1 v2 v3 z) := by
  intro r0 v1 v2 v3 z
  unfold m_X8_beliedGauges_B67
  refine j_iinc (pc := 67) (n0 := 3) (v0 := v3 + 1) (lv2 := [(3, .int (v3 + 1)), (0, .ref (mB Γ + r0)), (1, .int v1), (2, .int v2)]) dX8_beliedGauges_67 rfl rfl (by decide) rfl ?_
  refine j_goto (pc := 70) 4 dX8_beliedGauges_70 (by decide) ?_
  exact J.sub [1, 2, 3, 0] rfl (hL4 r0 v1 v2 (v3 + 1) z)
theorem j_X8_beliedGauges_B61 {l : Launch} {Γ : Am} {k4 : Nat → Int32 → Int32 → Int32 → Hp → Option (Int32 × Hp)} (hL4 : ∀ (r0 : Nat) (v1 : Int32) (v2 : Int32) (v3 : Int32) (z : Hp), J l Γ mi_X8_beliedGauges cvI 0 0 4 [(0, .ref (mB Γ + r0)), (1, .int v1), (2, .int v2), (3, .int v3)] [] z (k4 r0 v1 v2 v3 z)) : ∀ (r0 : Nat) (v1 : Int32) (v2 : Int32) (v3 : Int32) (z : Hp), J l Γ mi_X8_beliedGauges cvI 0 0 61 [(0, .ref (mB Γ + r0)), (1, .int v1), (2, .int v2), (3, .int v3)] [] z (m_X8_beliedGauges_B61 k4 r0 v1 v2 v3 z) := by
  intro r0 v1 v2 v3 z
  unfold m_X8_beliedGauges_B61
  refine j_iload_n (pc := 61) 2 dX8_beliedGauges_61 rfl rfl ?_
  refine j_iconst (pc := 62) (v := 1) dX8_beliedGauges_62 (by decide) ?_
  refine j_iload_n (pc := 63) 3 dX8_beliedGauges_63 rfl rfl ?_
  refine j_ishl (pc := 64) dX8_beliedGauges_64 ?_
  refine j_ior (pc := 65) dX8_beliedGauges_65 ?_
  refine j_istore_n (pc := 66) (lv2 := [(2, .int (v2 ||| ((1 : Int32) <<< (v3 &&& 31)))), (0, .ref (mB Γ + r0)), (1, .int v1), (3, .int v3)]) dX8_beliedGauges_66 rfl (by decide) rfl ?_
  exact J.sub [1, 2, 0, 3] rfl ((j_X8_beliedGauges_B67 hL4) r0 v1 (v2 ||| ((1 : Int32) <<< (v3 &&& 31))) v3 z)
theorem j_X8_beliedGauges_L4 {l : Launch} {Γ : Am}   : ∀ (f : Nat), ∀ (r0 : Nat) (v1 : Int32) (v2 : Int32) (v3 : Int32) (z : Hp), J l Γ mi_X8_beliedGauges cvI 0 0 4 [(0, .ref (mB Γ + r0)), (1, .int v1), (2, .int v2), (3, .int v3)] [] z (m_X8_beliedGauges_L4  f r0 v1 v2 v3 z) := by
  intro f
  induction f with
  | zero => intro r0 v1 v2 v3 z; exact J.none
  | succ f hL4 =>
    intro r0 v1 v2 v3 z
    rw [m_X8_beliedGauges_L4]
    refine j_iload_n (pc := 4) 3 dX8_beliedGauges_4 rfl rfl ?_
    refine j_bipush (pc := 5) (v := 10) dX8_beliedGauges_5 (by decide) ?_
    refine j_icmp_ge (pc := 7) 73 dX8_beliedGauges_7 (by decide) ?_ ?_
    · refine j_iload_n (pc := 73) 2 dX8_beliedGauges_73 rfl rfl ?_
      exact j_ireturn (pc := 74) dX8_beliedGauges_74 rfl rfl
    refine j_aload_n (pc := 10) 0 dX8_beliedGauges_10 rfl rfl ?_
    refine j_getR (pc := 11) ok_X8 (by decide) rfl w_303 dX8_beliedGauges_11 (fun a1 => ?_)
    refine j_getR (pc := 14) ok_X0 (by decide) rfl w_278 dX8_beliedGauges_14 (fun a2 => ?_)
    refine j_iload_n (pc := 17) 3 dX8_beliedGauges_17 rfl rfl ?_
    refine j_iaload (pc := 18) dX8_beliedGauges_18 (fun x3 => ?_)
    refine j_istore (pc := 19) (lv2 := [(4, .int x3), (0, .ref (mB Γ + r0)), (1, .int v1), (2, .int v2), (3, .int v3)]) dX8_beliedGauges_19 (by decide) rfl ?_
    refine j_iload (pc := 21) 0 dX8_beliedGauges_21 rfl ?_
    refine j_iconst (pc := 23) (v := (-1)) dX8_beliedGauges_23 (by decide) ?_
    refine j_icmp_eq (pc := 24) 67 dX8_beliedGauges_24 (by decide) ?_ ?_
    · exact J.sub [1, 2, 3, 4] rfl ((j_X8_beliedGauges_B67 hL4) r0 v1 v2 v3 z)
    refine j_aload_n (pc := 27) 1 dX8_beliedGauges_27 rfl rfl ?_
    refine j_getR (pc := 28) ok_X8 (by decide) rfl w_311 dX8_beliedGauges_28 (fun a4 => ?_)
    refine j_iload (pc := 31) 0 dX8_beliedGauges_31 rfl ?_
    refine j_iaload (pc := 33) dX8_beliedGauges_33 (fun x5 => ?_)
    refine j_if_ne (pc := 34) 61 dX8_beliedGauges_34 (by decide) ?_ ?_
    · exact J.sub [1, 2, 3, 4] rfl ((j_X8_beliedGauges_B61 hL4) r0 v1 v2 v3 z)
    refine j_aload_n (pc := 37) 1 dX8_beliedGauges_37 rfl rfl ?_
    refine j_getR (pc := 38) ok_X8 (by decide) rfl w_305 dX8_beliedGauges_38 (fun a6 => ?_)
    refine j_iload (pc := 41) 0 dX8_beliedGauges_41 rfl ?_
    refine j_iaload (pc := 43) dX8_beliedGauges_43 (fun x7 => ?_)
    refine j_aload_n (pc := 44) 1 dX8_beliedGauges_44 rfl rfl ?_
    refine j_getR (pc := 45) ok_X8 (by decide) rfl w_303 dX8_beliedGauges_45 (fun a8 => ?_)
    refine j_getR (pc := 48) ok_X0 (by decide) rfl w_281 dX8_beliedGauges_48 (fun a9 => ?_)
    refine j_iload_n (pc := 51) 4 dX8_beliedGauges_51 rfl rfl ?_
    refine j_iaload (pc := 52) dX8_beliedGauges_52 (fun x10 => ?_)
    refine j_isub (pc := 53) dX8_beliedGauges_53 ?_
    refine j_callS_I (pc := 54) (as := [.int (x7 - x10)]) (mc2 := 0) (ms2 := 0) (ct_J9_abs_0f7a4 _ _) cw_X8_beliedGauges_158 dX8_beliedGauges_54 (Nat.le_of_ble_eq_true rfl) rfl (by decide) (by decide) (fun x12 z11 => ?_)
    refine j_iload_n (pc := 57) 2 dX8_beliedGauges_57 rfl rfl ?_
    refine j_icmp_le (pc := 58) 67 dX8_beliedGauges_58 (by decide) ?_ ?_
    · exact J.sub [1, 2, 3, 4] rfl ((j_X8_beliedGauges_B67 hL4) r0 v1 v2 v3 z11)
    exact J.sub [1, 2, 3, 4] rfl ((j_X8_beliedGauges_B61 hL4) r0 v1 v2 v3 z11)
theorem ct_X8_beliedGauges {l : Launch} {Γ : Am} (r0 : Nat) (v1 : Int32) (z : Hp) : Ct l Γ yX8_beliedGauges mi_X8_beliedGauges cvI [.ref (mB Γ + r0), .int v1] z (m_X8_beliedGauges r0 v1 z) := by
  refine Ct.ofJ (by decide) ⟨rfl, rfl⟩ (Nat.le_of_ble_eq_true rfl) ?_
  unfold m_X8_beliedGauges
  show J l Γ mi_X8_beliedGauges cvI 0 0 0 [(0, .ref (mB Γ + r0)), (1, .int v1)] [] z _
  refine j_iconst (pc := 0) (v := 0) dX8_beliedGauges_0 (by decide) ?_
  refine j_istore_n (pc := 1) (lv2 := [(2, .int 0), (0, .ref (mB Γ + r0)), (1, .int v1)]) dX8_beliedGauges_1 rfl (by decide) rfl ?_
  refine j_iconst (pc := 2) (v := 0) dX8_beliedGauges_2 (by decide) ?_
  refine j_istore_n (pc := 3) (lv2 := [(3, .int 0), (2, .int 0), (0, .ref (mB Γ + r0)), (1, .int v1)]) dX8_beliedGauges_3 rfl (by decide) rfl ?_
  exact J.sub [2, 3, 1, 0] rfl ((j_X8_beliedGauges_L4 FU) r0 v1 0 0 z)
theorem dX8_outermost_0 : decode cX8_outermost 0 = .ok (.iconst (-1), 1) := by decide +kernel
theorem dX8_outermost_1 : decode cX8_outermost 1 = .ok (.istore_n 2, 1) := by decide +kernel
theorem dX8_outermost_2 : decode cX8_outermost 2 = .ok (.iconst 0, 1) := by decide +kernel
theorem dX8_outermost_3 : decode cX8_outermost 3 = .ok (.istore_n 3, 1) := by decide +kernel
theorem dX8_outermost_4 : decode cX8_outermost 4 = .ok (.iload_n 3, 1) := by decide +kernel
theorem dX8_outermost_5 : decode cX8_outermost 5 = .ok (.sipush 144, 3) := by decide +kernel
theorem dX8_outermost_8 : decode cX8_outermost 8 = .ok (.if_icmp .ge 44, 3) := by decide +kernel
theorem dX8_outermost_11 : decode cX8_outermost 11 = .ok (.aload_n 0, 1) := by decide +kernel
theorem dX8_outermost_12 : decode cX8_outermost 12 = .ok (.getfield 53, 3) := by decide +kernel
theorem dX8_outermost_15 : decode cX8_outermost 15 = .ok (.iload_n 3, 1) := by decide +kernel
theorem dX8_outermost_16 : decode cX8_outermost 16 = .ok (.iaload, 1) := by decide +kernel
theorem dX8_outermost_17 : decode cX8_outermost 17 = .ok (.ifCond .ne 29, 3) := by decide +kernel
theorem dX8_outermost_20 : decode cX8_outermost 20 = .ok (.iload_n 2, 1) := by decide +kernel
theorem dX8_outermost_21 : decode cX8_outermost 21 = .ok (.iconst (-1), 1) := by decide +kernel
theorem dX8_outermost_22 : decode cX8_outermost 22 = .ok (.if_icmp .eq 22, 3) := by decide +kernel
theorem dX8_outermost_25 : decode cX8_outermost 25 = .ok (.iload_n 1, 1) := by decide +kernel
theorem dX8_outermost_26 : decode cX8_outermost 26 = .ok (.aload_n 0, 1) := by decide +kernel
theorem dX8_outermost_27 : decode cX8_outermost 27 = .ok (.getfield 46, 3) := by decide +kernel
theorem dX8_outermost_30 : decode cX8_outermost 30 = .ok (.iload_n 3, 1) := by decide +kernel
theorem dX8_outermost_31 : decode cX8_outermost 31 = .ok (.iaload, 1) := by decide +kernel
theorem dX8_outermost_32 : decode cX8_outermost 32 = .ok (.imul, 1) := by decide +kernel
theorem dX8_outermost_33 : decode cX8_outermost 33 = .ok (.iload_n 1, 1) := by decide +kernel
theorem dX8_outermost_34 : decode cX8_outermost 34 = .ok (.aload_n 0, 1) := by decide +kernel
theorem dX8_outermost_35 : decode cX8_outermost 35 = .ok (.getfield 46, 3) := by decide +kernel
theorem dX8_outermost_38 : decode cX8_outermost 38 = .ok (.iload_n 2, 1) := by decide +kernel
theorem dX8_outermost_39 : decode cX8_outermost 39 = .ok (.iaload, 1) := by decide +kernel
theorem dX8_outermost_40 : decode cX8_outermost 40 = .ok (.imul, 1) := by decide +kernel
theorem dX8_outermost_41 : decode cX8_outermost 41 = .ok (.if_icmp .le 5, 3) := by decide +kernel
theorem dX8_outermost_44 : decode cX8_outermost 44 = .ok (.iload_n 3, 1) := by decide +kernel
theorem dX8_outermost_45 : decode cX8_outermost 45 = .ok (.istore_n 2, 1) := by decide +kernel
theorem dX8_outermost_46 : decode cX8_outermost 46 = .ok (.iinc 3 1, 3) := by decide +kernel
theorem dX8_outermost_49 : decode cX8_outermost 49 = .ok (.goto (-45), 3) := by decide +kernel
theorem dX8_outermost_52 : decode cX8_outermost 52 = .ok (.iload_n 2, 1) := by decide +kernel
theorem dX8_outermost_53 : decode cX8_outermost 53 = .ok (.ireturn, 1) := by decide +kernel
theorem j_X8_outermost_B46 {l : Launch} {Γ : Am} {k4 : Nat → Int32 → Int32 → Int32 → Hp → Option (Int32 × Hp)} (hL4 : ∀ (r0 : Nat) (v1 : Int32) (v2 : Int32) (v3 : Int32) (z : Hp), J l Γ mi_X8_outermost cvI 0 0 4 [(0, .ref (mB Γ + r0)), (1, .int v1), (2, .int v2), (3, .int v3)] [] z (k4 r0 v1 v2 v3 z)) : ∀ (r0 : Nat) (v1 : Int32) (v2 : Int32) (v3 : Int32) (z : Hp), J l Γ mi_X8_outermost cvI 0 0 46 [(0, .ref (mB Γ + r0)), (1, .int v1), (2, .int v2), (3, .int v3)] [] z (m_X8_outermost_B46 k4 r0 v1 v2 v3 z) := by
  intro r0 v1 v2 v3 z
  unfold m_X8_outermost_B46
  refine j_iinc (pc := 46) (n0 := 3) (v0 := v3 + 1) (lv2 := [(3, .int (v3 + 1)), (0, .ref (mB Γ + r0)), (1, .int v1), (2, .int v2)]) dX8_outermost_46 rfl rfl (by decide) rfl ?_
  refine j_goto (pc := 49) 4 dX8_outermost_49 (by decide) ?_
  exact J.sub [1, 2, 3, 0] rfl (hL4 r0 v1 v2 (v3 + 1) z)
theorem j_X8_outermost_B44 {l : Launch} {Γ : Am} {k4 : Nat → Int32 → Int32 → Int32 → Hp → Option (Int32 × Hp)} (hL4 : ∀ (r0 : Nat) (v1 : Int32) (v2 : Int32) (v3 : Int32) (z : Hp), J l Γ mi_X8_outermost cvI 0 0 4 [(0, .ref (mB Γ + r0)), (1, .int v1), (2, .int v2), (3, .int v3)] [] z (k4 r0 v1 v2 v3 z)) : ∀ (r0 : Nat) (v1 : Int32) (v3 : Int32) (z : Hp), J l Γ mi_X8_outermost cvI 0 0 44 [(0, .ref (mB Γ + r0)), (1, .int v1), (3, .int v3)] [] z (m_X8_outermost_B44 k4 r0 v1 v3 z) := by
  intro r0 v1 v3 z
  unfold m_X8_outermost_B44
  refine j_iload_n (pc := 44) 2 dX8_outermost_44 rfl rfl ?_
  refine j_istore_n (pc := 45) (lv2 := [(2, .int v3), (0, .ref (mB Γ + r0)), (1, .int v1), (3, .int v3)]) dX8_outermost_45 rfl (by decide) rfl ?_
  exact J.sub [1, 2, 0, 3] rfl ((j_X8_outermost_B46 hL4) r0 v1 v3 v3 z)
theorem j_X8_outermost_L4 {l : Launch} {Γ : Am}   : ∀ (f : Nat), ∀ (r0 : Nat) (v1 : Int32) (v2 : Int32) (v3 : Int32) (z : Hp), J l Γ mi_X8_outermost cvI 0 0 4 [(0, .ref (mB Γ + r0)), (1, .int v1), (2, .int v2), (3, .int v3)] [] z (m_X8_outermost_L4  f r0 v1 v2 v3 z) := by
  intro f
  induction f with
  | zero => intro r0 v1 v2 v3 z; exact J.none
  | succ f hL4 =>
    intro r0 v1 v2 v3 z
    rw [m_X8_outermost_L4]
    refine j_iload_n (pc := 4) 3 dX8_outermost_4 rfl rfl ?_
    refine j_sipush (pc := 5) (v := 144) dX8_outermost_5 (by decide) ?_
    refine j_icmp_ge (pc := 8) 52 dX8_outermost_8 (by decide) ?_ ?_
    · refine j_iload_n (pc := 52) 2 dX8_outermost_52 rfl rfl ?_
      exact j_ireturn (pc := 53) dX8_outermost_53 rfl rfl
    refine j_aload_n (pc := 11) 0 dX8_outermost_11 rfl rfl ?_
    refine j_getR (pc := 12) ok_X8 (by decide) rfl w_311 dX8_outermost_12 (fun a1 => ?_)
    refine j_iload_n (pc := 15) 3 dX8_outermost_15 rfl rfl ?_
    refine j_iaload (pc := 16) dX8_outermost_16 (fun x2 => ?_)
    refine j_if_ne (pc := 17) 46 dX8_outermost_17 (by decide) ?_ ?_
    · exact J.sub [0, 1, 2, 3] rfl ((j_X8_outermost_B46 hL4) r0 v1 v2 v3 z)
    refine j_iload_n (pc := 20) 2 dX8_outermost_20 rfl rfl ?_
    refine j_iconst (pc := 21) (v := (-1)) dX8_outermost_21 (by decide) ?_
    refine j_icmp_eq (pc := 22) 44 dX8_outermost_22 (by decide) ?_ ?_
    · exact J.sub [0, 1, 3] rfl ((j_X8_outermost_B44 hL4) r0 v1 v3 z)
    refine j_iload_n (pc := 25) 1 dX8_outermost_25 rfl rfl ?_
    refine j_aload_n (pc := 26) 0 dX8_outermost_26 rfl rfl ?_
    refine j_getR (pc := 27) ok_X8 (by decide) rfl w_305 dX8_outermost_27 (fun a3 => ?_)
    refine j_iload_n (pc := 30) 3 dX8_outermost_30 rfl rfl ?_
    refine j_iaload (pc := 31) dX8_outermost_31 (fun x4 => ?_)
    refine j_imul (pc := 32) dX8_outermost_32 ?_
    refine j_iload_n (pc := 33) 1 dX8_outermost_33 rfl rfl ?_
    refine j_aload_n (pc := 34) 0 dX8_outermost_34 rfl rfl ?_
    refine j_getR (pc := 35) ok_X8 (by decide) rfl w_305 dX8_outermost_35 (fun a5 => ?_)
    refine j_iload_n (pc := 38) 2 dX8_outermost_38 rfl rfl ?_
    refine j_iaload (pc := 39) dX8_outermost_39 (fun x6 => ?_)
    refine j_imul (pc := 40) dX8_outermost_40 ?_
    refine j_icmp_le (pc := 41) 46 dX8_outermost_41 (by decide) ?_ ?_
    · exact J.sub [0, 1, 2, 3] rfl ((j_X8_outermost_B46 hL4) r0 v1 v2 v3 z)
    exact J.sub [0, 1, 3] rfl ((j_X8_outermost_B44 hL4) r0 v1 v3 z)
theorem ct_X8_outermost {l : Launch} {Γ : Am} (r0 : Nat) (v1 : Int32) (z : Hp) : Ct l Γ yX8_outermost mi_X8_outermost cvI [.ref (mB Γ + r0), .int v1] z (m_X8_outermost r0 v1 z) := by
  refine Ct.ofJ (by decide) ⟨rfl, rfl⟩ (Nat.le_of_ble_eq_true rfl) ?_
  unfold m_X8_outermost
  show J l Γ mi_X8_outermost cvI 0 0 0 [(0, .ref (mB Γ + r0)), (1, .int v1)] [] z _
  refine j_iconst (pc := 0) (v := (-1)) dX8_outermost_0 (by decide) ?_
  refine j_istore_n (pc := 1) (lv2 := [(2, .int (-1)), (0, .ref (mB Γ + r0)), (1, .int v1)]) dX8_outermost_1 rfl (by decide) rfl ?_
  refine j_iconst (pc := 2) (v := 0) dX8_outermost_2 (by decide) ?_
  refine j_istore_n (pc := 3) (lv2 := [(3, .int 0), (2, .int (-1)), (0, .ref (mB Γ + r0)), (1, .int v1)]) dX8_outermost_3 rfl (by decide) rfl ?_
  exact J.sub [2, 3, 1, 0] rfl ((j_X8_outermost_L4 FU) r0 v1 (-1) 0 z)
theorem dX9_init_0 : decode cX9_init 0 = .ok (.aload_n 0, 1) := by decide +kernel
theorem dX9_init_1 : decode cX9_init 1 = .ok (.invokespecial 3, 3) := by decide +kernel
theorem dX9_init_4 : decode cX9_init 4 = .ok (.aload_n 0, 1) := by decide +kernel
theorem dX9_init_5 : decode cX9_init 5 = .ok (.sipush 144, 3) := by decide +kernel
theorem dX9_init_8 : decode cX9_init 8 = .ok (.newarray .int, 2) := by decide +kernel
theorem dX9_init_10 : decode cX9_init 10 = .ok (.putfield 9, 3) := by decide +kernel
theorem dX9_init_13 : decode cX9_init 13 = .ok (.aload_n 0, 1) := by decide +kernel
theorem dX9_init_14 : decode cX9_init 14 = .ok (.sipush 144, 3) := by decide +kernel
theorem dX9_init_17 : decode cX9_init 17 = .ok (.newarray .int, 2) := by decide +kernel
theorem dX9_init_19 : decode cX9_init 19 = .ok (.putfield 15, 3) := by decide +kernel
theorem dX9_init_22 : decode cX9_init 22 = .ok (.aload_n 0, 1) := by decide +kernel
theorem dX9_init_23 : decode cX9_init 23 = .ok (.bipush 18, 2) := by decide +kernel
theorem dX9_init_25 : decode cX9_init 25 = .ok (.newarray .int, 2) := by decide +kernel
theorem dX9_init_27 : decode cX9_init 27 = .ok (.putfield 18, 3) := by decide +kernel
theorem dX9_init_30 : decode cX9_init 30 = .ok (.return_, 1) := by decide +kernel
theorem ct_X9_init {l : Launch} {Γ : Am} (r0 : Nat) (z : Hp) : Ct l Γ yX9_init mi_X9_init cvV [.ref (mB Γ + r0)] z (m_X9_init r0 z) := by
  refine Ct.ofJ (by decide) ⟨rfl, rfl⟩ (Nat.le_of_ble_eq_true rfl) ?_
  unfold m_X9_init
  show J l Γ mi_X9_init cvV 3 306 0 [(0, .ref (mB Γ + r0))] [] z _
  refine j_aload_n (pc := 0) 0 dX9_init_0 rfl rfl ?_
  refine j_objInit (pc := 1) w_443 w_122 w_123 dX9_init_1 (by decide) (by decide) ?_
  refine j_aload_n (pc := 4) 0 dX9_init_4 rfl rfl ?_
  refine j_sipush (pc := 5) (v := 144) dX9_init_5 (by decide) ?_
  refine j_newarr1 (pc := 8) (n0 := 144) (mc2 := 2) (ms2 := 162) w_177 dX9_init_8 (by decide) (by decide) (by decide) (by decide) (by decide) (fun a1 z2 => ?_)
  refine j_putR (pc := 10) ok_X9 (by decide) rfl w_444 (Or.inr ⟨rfl, rfl, rfl⟩) rfl rfl dX9_init_10 (fun z3 => ?_)
  refine j_aload_n (pc := 13) 0 dX9_init_13 rfl rfl ?_
  refine j_sipush (pc := 14) (v := 144) dX9_init_14 (by decide) ?_
  refine j_newarr1 (pc := 17) (n0 := 144) (mc2 := 1) (ms2 := 18) w_177 dX9_init_17 (by decide) (by decide) (by decide) (by decide) (by decide) (fun a4 z5 => ?_)
  refine j_putR (pc := 19) ok_X9 (by decide) rfl w_445 (Or.inr ⟨rfl, rfl, rfl⟩) rfl rfl dX9_init_19 (fun z6 => ?_)
  refine j_aload_n (pc := 22) 0 dX9_init_22 rfl rfl ?_
  refine j_bipush (pc := 23) (v := 18) dX9_init_23 (by decide) ?_
  refine j_newarr1 (pc := 25) (n0 := 18) (mc2 := 0) (ms2 := 0) w_177 dX9_init_25 (by decide) (by decide) (by decide) (by decide) (by decide) (fun a7 z8 => ?_)
  refine j_putR (pc := 27) ok_X9 (by decide) rfl w_446 (Or.inr ⟨rfl, rfl, rfl⟩) rfl rfl dX9_init_27 (fun z9 => ?_)
  exact j_return (pc := 30) dX9_init_30 rfl
theorem dX9_lookUpLeads_0 : decode cX9_lookUpLeads 0 = .ok (.iconst 0, 1) := by decide +kernel
theorem dX9_lookUpLeads_1 : decode cX9_lookUpLeads 1 = .ok (.istore_n 2, 1) := by decide +kernel
theorem dX9_lookUpLeads_2 : decode cX9_lookUpLeads 2 = .ok (.iload_n 2, 1) := by decide +kernel
theorem dX9_lookUpLeads_3 : decode cX9_lookUpLeads 3 = .ok (.sipush 144, 3) := by decide +kernel
theorem dX9_lookUpLeads_6 : decode cX9_lookUpLeads 6 = .ok (.if_icmp .ge 73, 3) := by decide +kernel
theorem dX9_lookUpLeads_9 : decode cX9_lookUpLeads 9 = .ok (.aload_n 1, 1) := by decide +kernel
theorem dX9_lookUpLeads_10 : decode cX9_lookUpLeads 10 = .ok (.getfield 37, 3) := by decide +kernel
theorem dX9_lookUpLeads_13 : decode cX9_lookUpLeads 13 = .ok (.getfield 66, 3) := by decide +kernel
theorem dX9_lookUpLeads_16 : decode cX9_lookUpLeads 16 = .ok (.iload_n 2, 1) := by decide +kernel
theorem dX9_lookUpLeads_17 : decode cX9_lookUpLeads 17 = .ok (.iaload, 1) := by decide +kernel
theorem dX9_lookUpLeads_18 : decode cX9_lookUpLeads 18 = .ok (.istore_n 3, 1) := by decide +kernel
theorem dX9_lookUpLeads_19 : decode cX9_lookUpLeads 19 = .ok (.aload_n 1, 1) := by decide +kernel
theorem dX9_lookUpLeads_20 : decode cX9_lookUpLeads 20 = .ok (.getfield 69, 3) := by decide +kernel
theorem dX9_lookUpLeads_23 : decode cX9_lookUpLeads 23 = .ok (.iload_n 2, 1) := by decide +kernel
theorem dX9_lookUpLeads_24 : decode cX9_lookUpLeads 24 = .ok (.iaload, 1) := by decide +kernel
theorem dX9_lookUpLeads_25 : decode cX9_lookUpLeads 25 = .ok (.ifCond .eq 13, 3) := by decide +kernel
theorem dX9_lookUpLeads_28 : decode cX9_lookUpLeads 28 = .ok (.aload_n 0, 1) := by decide +kernel
theorem dX9_lookUpLeads_29 : decode cX9_lookUpLeads 29 = .ok (.getfield 9, 3) := by decide +kernel
theorem dX9_lookUpLeads_32 : decode cX9_lookUpLeads 32 = .ok (.iload_n 2, 1) := by decide +kernel
theorem dX9_lookUpLeads_33 : decode cX9_lookUpLeads 33 = .ok (.iconst 0, 1) := by decide +kernel
theorem dX9_lookUpLeads_34 : decode cX9_lookUpLeads 34 = .ok (.iastore, 1) := by decide +kernel
theorem dX9_lookUpLeads_35 : decode cX9_lookUpLeads 35 = .ok (.goto 38, 3) := by decide +kernel
theorem dX9_lookUpLeads_38 : decode cX9_lookUpLeads 38 = .ok (.aload_n 0, 1) := by decide +kernel
theorem dX9_lookUpLeads_39 : decode cX9_lookUpLeads 39 = .ok (.getfield 9, 3) := by decide +kernel
theorem dX9_lookUpLeads_42 : decode cX9_lookUpLeads 42 = .ok (.iload_n 2, 1) := by decide +kernel
theorem dX9_lookUpLeads_43 : decode cX9_lookUpLeads 43 = .ok (.aload_n 1, 1) := by decide +kernel
theorem dX9_lookUpLeads_44 : decode cX9_lookUpLeads 44 = .ok (.iload_n 2, 1) := by decide +kernel
theorem dX9_lookUpLeads_45 : decode cX9_lookUpLeads 45 = .ok (.invokevirtual 72, 3) := by decide +kernel
theorem dX9_lookUpLeads_48 : decode cX9_lookUpLeads 48 = .ok (.ifCond .eq 15, 3) := by decide +kernel
theorem dX9_lookUpLeads_51 : decode cX9_lookUpLeads 51 = .ok (.aload_n 1, 1) := by decide +kernel
theorem dX9_lookUpLeads_52 : decode cX9_lookUpLeads 52 = .ok (.getfield 37, 3) := by decide +kernel
theorem dX9_lookUpLeads_55 : decode cX9_lookUpLeads 55 = .ok (.getfield 76, 3) := by decide +kernel
theorem dX9_lookUpLeads_58 : decode cX9_lookUpLeads 58 = .ok (.iload_n 3, 1) := by decide +kernel
theorem dX9_lookUpLeads_59 : decode cX9_lookUpLeads 59 = .ok (.iaload, 1) := by decide +kernel
theorem dX9_lookUpLeads_60 : decode cX9_lookUpLeads 60 = .ok (.goto 12, 3) := by decide +kernel
theorem dX9_lookUpLeads_63 : decode cX9_lookUpLeads 63 = .ok (.aload_n 1, 1) := by decide +kernel
theorem dX9_lookUpLeads_64 : decode cX9_lookUpLeads 64 = .ok (.getfield 37, 3) := by decide +kernel
theorem dX9_lookUpLeads_67 : decode cX9_lookUpLeads 67 = .ok (.getfield 79, 3) := by decide +kernel
theorem dX9_lookUpLeads_70 : decode cX9_lookUpLeads 70 = .ok (.iload_n 3, 1) := by decide +kernel
theorem dX9_lookUpLeads_71 : decode cX9_lookUpLeads 71 = .ok (.iaload, 1) := by decide +kernel
theorem dX9_lookUpLeads_72 : decode cX9_lookUpLeads 72 = .ok (.iastore, 1) := by decide +kernel
theorem dX9_lookUpLeads_73 : decode cX9_lookUpLeads 73 = .ok (.iinc 2 1, 3) := by decide +kernel
theorem dX9_lookUpLeads_76 : decode cX9_lookUpLeads 76 = .ok (.goto (-74), 3) := by decide +kernel
theorem dX9_lookUpLeads_79 : decode cX9_lookUpLeads 79 = .ok (.return_, 1) := by decide +kernel
theorem cw_X9_lookUpLeads_72 : CwV mi_X9_lookUpLeads mi_X8_isFrozen yX8_isFrozen RX8 72 1 := ⟨⟨w_800, w_801, w_802, w_96, w_803⟩, ⟨by decide, by decide⟩, by decide +kernel, by decide, by decide⟩
theorem j_X9_lookUpLeads_B73 {l : Launch} {Γ : Am} {k2 : Nat → Nat → Int32 → Hp → Option (Unit × Hp)} (hL2 : ∀ (r0 : Nat) (r1 : Nat) (v2 : Int32) (z : Hp), J l Γ mi_X9_lookUpLeads cvV 0 0 2 [(0, .ref (mB Γ + r0)), (1, .ref (mB Γ + r1)), (2, .int v2)] [] z (k2 r0 r1 v2 z)) : ∀ (r0 : Nat) (r1 : Nat) (v2 : Int32) (z : Hp), J l Γ mi_X9_lookUpLeads cvV 0 0 73 [(0, .ref (mB Γ + r0)), (1, .ref (mB Γ + r1)), (2, .int v2)] [] z (m_X9_lookUpLeads_B73 k2 r0 r1 v2 z) := by
  intro r0 r1 v2 z
  unfold m_X9_lookUpLeads_B73
  refine j_iinc (pc := 73) (n0 := 2) (v0 := v2 + 1) (lv2 := [(2, .int (v2 + 1)), (0, .ref (mB Γ + r0)), (1, .ref (mB Γ + r1))]) dX9_lookUpLeads_73 rfl rfl (by decide) rfl ?_
  refine j_goto (pc := 76) 2 dX9_lookUpLeads_76 (by decide) ?_
  exact J.sub [1, 2, 0] rfl (hL2 r0 r1 (v2 + 1) z)
theorem j_X9_lookUpLeads_B72 {l : Launch} {Γ : Am} {k2 : Nat → Nat → Int32 → Hp → Option (Unit × Hp)} (hL2 : ∀ (r0 : Nat) (r1 : Nat) (v2 : Int32) (z : Hp), J l Γ mi_X9_lookUpLeads cvV 0 0 2 [(0, .ref (mB Γ + r0)), (1, .ref (mB Γ + r1)), (2, .int v2)] [] z (k2 r0 r1 v2 z)) : ∀ (r0 : Nat) (r1 : Nat) (v2 : Int32) (t0 : Int32) (t1 : Int32) (b2 : Nat) (z : Hp), J l Γ mi_X9_lookUpLeads cvV 0 0 72 [(0, .ref (mB Γ + r0)), (1, .ref (mB Γ + r1)), (2, .int v2)] [.int t0, .int t1, .ref (mB Γ + b2)] z (m_X9_lookUpLeads_B72 k2 r0 r1 v2 t0 t1 b2 z) := by
  intro r0 r1 v2 t0 t1 b2 z
  unfold m_X9_lookUpLeads_B72
  refine j_iastore (pc := 72) dX9_lookUpLeads_72 (fun z1 => ?_)
  exact J.sub [0, 1, 2] rfl ((j_X9_lookUpLeads_B73 hL2) r0 r1 v2 z1)
theorem j_X9_lookUpLeads_L2 {l : Launch} {Γ : Am}   : ∀ (f : Nat), ∀ (r0 : Nat) (r1 : Nat) (v2 : Int32) (z : Hp), J l Γ mi_X9_lookUpLeads cvV 0 0 2 [(0, .ref (mB Γ + r0)), (1, .ref (mB Γ + r1)), (2, .int v2)] [] z (m_X9_lookUpLeads_L2  f r0 r1 v2 z) := by
  intro f
  induction f with
  | zero => intro r0 r1 v2 z; exact J.none
  | succ f hL2 =>
    intro r0 r1 v2 z
    rw [m_X9_lookUpLeads_L2]
    refine j_iload_n (pc := 2) 2 dX9_lookUpLeads_2 rfl rfl ?_
    refine j_sipush (pc := 3) (v := 144) dX9_lookUpLeads_3 (by decide) ?_
    refine j_icmp_ge (pc := 6) 79 dX9_lookUpLeads_6 (by decide) ?_ ?_
    · exact j_return (pc := 79) dX9_lookUpLeads_79 rfl
    refine j_aload_n (pc := 9) 1 dX9_lookUpLeads_9 rfl rfl ?_
    refine j_getR (pc := 10) ok_X8 (by decide) rfl w_290 dX9_lookUpLeads_10 (fun a2 => ?_)
    refine j_getR (pc := 13) ok_X7 (by decide) rfl w_150 dX9_lookUpLeads_13 (fun a3 => ?_)
    refine j_iload_n (pc := 16) 2 dX9_lookUpLeads_16 rfl rfl ?_
    refine j_iaload (pc := 17) dX9_lookUpLeads_17 (fun x4 => ?_)
    refine j_istore_n (pc := 18) (lv2 := [(3, .int x4), (0, .ref (mB Γ + r0)), (1, .ref (mB Γ + r1)), (2, .int v2)]) dX9_lookUpLeads_18 rfl (by decide) rfl ?_
    refine j_aload_n (pc := 19) 2 dX9_lookUpLeads_19 rfl rfl ?_
    refine j_getR (pc := 20) ok_X8 (by decide) rfl w_312 dX9_lookUpLeads_20 (fun a5 => ?_)
    refine j_iload_n (pc := 23) 3 dX9_lookUpLeads_23 rfl rfl ?_
    refine j_iaload (pc := 24) dX9_lookUpLeads_24 (fun x6 => ?_)
    refine j_if_eq (pc := 25) 38 dX9_lookUpLeads_25 (by decide) ?_ ?_
    · refine j_aload_n (pc := 38) 1 dX9_lookUpLeads_38 rfl rfl ?_
      refine j_getR (pc := 39) ok_X9 (by decide) rfl w_444 dX9_lookUpLeads_39 (fun a7 => ?_)
      refine j_iload_n (pc := 42) 3 dX9_lookUpLeads_42 rfl rfl ?_
      refine j_aload_n (pc := 43) 2 dX9_lookUpLeads_43 rfl rfl ?_
      refine j_iload_n (pc := 44) 3 dX9_lookUpLeads_44 rfl rfl ?_
      refine j_isC (fun h10 => ?_)
      refine j_callV_I (pc := 45) (as := [.int v2]) (mc2 := 0) (ms2 := 0) (ct_X8_isFrozen _ _ _) h10 rfl cw_X9_lookUpLeads_72 dX9_lookUpLeads_45 (Nat.le_of_ble_eq_true rfl) rfl (by decide) (by decide) (fun x9 z8 => ?_)
      refine j_if_eq (pc := 48) 63 dX9_lookUpLeads_48 (by decide) ?_ ?_
      · refine j_aload_n (pc := 63) 2 dX9_lookUpLeads_63 rfl rfl ?_
        refine j_getR (pc := 64) ok_X8 (by decide) rfl w_290 dX9_lookUpLeads_64 (fun a11 => ?_)
        refine j_getR (pc := 67) ok_X7 (by decide) rfl w_137 dX9_lookUpLeads_67 (fun a12 => ?_)
        refine j_iload_n (pc := 70) 0 dX9_lookUpLeads_70 rfl rfl ?_
        refine j_iaload (pc := 71) dX9_lookUpLeads_71 (fun x13 => ?_)
        exact J.sub [1, 2, 3] rfl ((j_X9_lookUpLeads_B72 hL2) r0 r1 v2 x13 v2 a7 z8)
      refine j_aload_n (pc := 51) 2 dX9_lookUpLeads_51 rfl rfl ?_
      refine j_getR (pc := 52) ok_X8 (by decide) rfl w_290 dX9_lookUpLeads_52 (fun a14 => ?_)
      refine j_getR (pc := 55) ok_X7 (by decide) rfl w_140 dX9_lookUpLeads_55 (fun a15 => ?_)
      refine j_iload_n (pc := 58) 0 dX9_lookUpLeads_58 rfl rfl ?_
      refine j_iaload (pc := 59) dX9_lookUpLeads_59 (fun x16 => ?_)
      refine j_goto (pc := 60) 72 dX9_lookUpLeads_60 (by decide) ?_
      exact J.sub [1, 2, 3] rfl ((j_X9_lookUpLeads_B72 hL2) r0 r1 v2 x16 v2 a7 z8)
    refine j_aload_n (pc := 28) 1 dX9_lookUpLeads_28 rfl rfl ?_
    refine j_getR (pc := 29) ok_X9 (by decide) rfl w_444 dX9_lookUpLeads_29 (fun a17 => ?_)
    refine j_iload_n (pc := 32) 3 dX9_lookUpLeads_32 rfl rfl ?_
    refine j_iconst (pc := 33) (v := 0) dX9_lookUpLeads_33 (by decide) ?_
    refine j_iastore (pc := 34) dX9_lookUpLeads_34 (fun z18 => ?_)
    refine j_goto (pc := 35) 73 dX9_lookUpLeads_35 (by decide) ?_
    exact J.sub [1, 2, 3] rfl ((j_X9_lookUpLeads_B73 hL2) r0 r1 v2 z18)
theorem ct_X9_lookUpLeads {l : Launch} {Γ : Am} (r0 : Nat) (r1 : Nat) (z : Hp) : Ct l Γ yX9_lookUpLeads mi_X9_lookUpLeads cvV [.ref (mB Γ + r0), .ref (mB Γ + r1)] z (m_X9_lookUpLeads r0 r1 z) := by
  refine Ct.ofJ (by decide) ⟨rfl, rfl⟩ (Nat.le_of_ble_eq_true rfl) ?_
  unfold m_X9_lookUpLeads
  show J l Γ mi_X9_lookUpLeads cvV 0 0 0 [(0, .ref (mB Γ + r0)), (1, .ref (mB Γ + r1))] [] z _
  refine j_iconst (pc := 0) (v := 0) dX9_lookUpLeads_0 (by decide) ?_
  refine j_istore_n (pc := 1) (lv2 := [(2, .int 0), (0, .ref (mB Γ + r0)), (1, .ref (mB Γ + r1))]) dX9_lookUpLeads_1 rfl (by decide) rfl ?_
  exact J.sub [1, 2, 0] rfl ((j_X9_lookUpLeads_L2 FU) r0 r1 0 z)
theorem dX9_exchange_0 : decode cX9_exchange 0 = .ok (.aload_n 1, 1) := by decide +kernel
theorem dX9_exchange_1 : decode cX9_exchange 1 = .ok (.getfield 83, 3) := by decide +kernel
theorem dX9_exchange_4 : decode cX9_exchange 4 = .ok (.iload_n 3, 1) := by decide +kernel
theorem dX9_exchange_5 : decode cX9_exchange 5 = .ok (.iaload, 1) := by decide +kernel
theorem dX9_exchange_6 : decode cX9_exchange 6 = .ok (.aload_n 1, 1) := by decide +kernel
theorem dX9_exchange_7 : decode cX9_exchange 7 = .ok (.getfield 83, 3) := by decide +kernel
theorem dX9_exchange_10 : decode cX9_exchange 10 = .ok (.iload_n 2, 1) := by decide +kernel
theorem dX9_exchange_11 : decode cX9_exchange 11 = .ok (.iaload, 1) := by decide +kernel
theorem dX9_exchange_12 : decode cX9_exchange 12 = .ok (.isub, 1) := by decide +kernel
theorem dX9_exchange_13 : decode cX9_exchange 13 = .ok (.aload_n 0, 1) := by decide +kernel
theorem dX9_exchange_14 : decode cX9_exchange 14 = .ok (.getfield 9, 3) := by decide +kernel
theorem dX9_exchange_17 : decode cX9_exchange 17 = .ok (.iload_n 2, 1) := by decide +kernel
theorem dX9_exchange_18 : decode cX9_exchange 18 = .ok (.iaload, 1) := by decide +kernel
theorem dX9_exchange_19 : decode cX9_exchange 19 = .ok (.aload_n 0, 1) := by decide +kernel
theorem dX9_exchange_20 : decode cX9_exchange 20 = .ok (.getfield 9, 3) := by decide +kernel
theorem dX9_exchange_23 : decode cX9_exchange 23 = .ok (.iload_n 3, 1) := by decide +kernel
theorem dX9_exchange_24 : decode cX9_exchange 24 = .ok (.iaload, 1) := by decide +kernel
theorem dX9_exchange_25 : decode cX9_exchange 25 = .ok (.invokestatic 86, 3) := by decide +kernel
theorem dX9_exchange_28 : decode cX9_exchange 28 = .ok (.imul, 1) := by decide +kernel
theorem dX9_exchange_29 : decode cX9_exchange 29 = .ok (.bipush 100, 2) := by decide +kernel
theorem dX9_exchange_31 : decode cX9_exchange 31 = .ok (.idiv, 1) := by decide +kernel
theorem dX9_exchange_32 : decode cX9_exchange 32 = .ok (.istore 4, 2) := by decide +kernel
theorem dX9_exchange_34 : decode cX9_exchange 34 = .ok (.aload_n 0, 1) := by decide +kernel
theorem dX9_exchange_35 : decode cX9_exchange 35 = .ok (.getfield 15, 3) := by decide +kernel
theorem dX9_exchange_38 : decode cX9_exchange 38 = .ok (.iload_n 2, 1) := by decide +kernel
theorem dX9_exchange_39 : decode cX9_exchange 39 = .ok (.dup2, 1) := by decide +kernel
theorem dX9_exchange_40 : decode cX9_exchange 40 = .ok (.iaload, 1) := by decide +kernel
theorem dX9_exchange_41 : decode cX9_exchange 41 = .ok (.iload 4, 2) := by decide +kernel
theorem dX9_exchange_43 : decode cX9_exchange 43 = .ok (.iadd, 1) := by decide +kernel
theorem dX9_exchange_44 : decode cX9_exchange 44 = .ok (.iastore, 1) := by decide +kernel
theorem dX9_exchange_45 : decode cX9_exchange 45 = .ok (.aload_n 0, 1) := by decide +kernel
theorem dX9_exchange_46 : decode cX9_exchange 46 = .ok (.getfield 15, 3) := by decide +kernel
theorem dX9_exchange_49 : decode cX9_exchange 49 = .ok (.iload_n 3, 1) := by decide +kernel
theorem dX9_exchange_50 : decode cX9_exchange 50 = .ok (.dup2, 1) := by decide +kernel
theorem dX9_exchange_51 : decode cX9_exchange 51 = .ok (.iaload, 1) := by decide +kernel
theorem dX9_exchange_52 : decode cX9_exchange 52 = .ok (.iload 4, 2) := by decide +kernel
theorem dX9_exchange_54 : decode cX9_exchange 54 = .ok (.isub, 1) := by decide +kernel
theorem dX9_exchange_55 : decode cX9_exchange 55 = .ok (.iastore, 1) := by decide +kernel
theorem dX9_exchange_56 : decode cX9_exchange 56 = .ok (.return_, 1) := by decide +kernel
theorem cw_X9_exchange_86 : CwS mi_X9_exchange mi_J9_min_7cf53 yJ9_min_7cf53 86 2 := ⟨⟨w_813, w_604, w_109, w_605⟩, ⟨by decide, by decide⟩, by decide +kernel, by decide, by decide⟩
theorem ct_X9_exchange {l : Launch} {Γ : Am} (r0 : Nat) (r1 : Nat) (v2 : Int32) (v3 : Int32) (z : Hp) : Ct l Γ yX9_exchange mi_X9_exchange cvV [.ref (mB Γ + r0), .ref (mB Γ + r1), .int v2, .int v3] z (m_X9_exchange r0 r1 v2 v3 z) := by
  refine Ct.ofJ (by decide) ⟨rfl, rfl⟩ (Nat.le_of_ble_eq_true rfl) ?_
  unfold m_X9_exchange
  show J l Γ mi_X9_exchange cvV 0 0 0 [(0, .ref (mB Γ + r0)), (1, .ref (mB Γ + r1)), (2, .int v2), (3, .int v3)] [] z _
  refine j_aload_n (pc := 0) 1 dX9_exchange_0 rfl rfl ?_
  refine j_getR (pc := 1) ok_X8 (by decide) rfl w_306 dX9_exchange_1 (fun a1 => ?_)
  refine j_iload_n (pc := 4) 3 dX9_exchange_4 rfl rfl ?_
  refine j_iaload (pc := 5) dX9_exchange_5 (fun x2 => ?_)
  refine j_aload_n (pc := 6) 1 dX9_exchange_6 rfl rfl ?_
  refine j_getR (pc := 7) ok_X8 (by decide) rfl w_306 dX9_exchange_7 (fun a3 => ?_)
  refine j_iload_n (pc := 10) 2 dX9_exchange_10 rfl rfl ?_
  refine j_iaload (pc := 11) dX9_exchange_11 (fun x4 => ?_)
  refine j_isub (pc := 12) dX9_exchange_12 ?_
  refine j_aload_n (pc := 13) 0 dX9_exchange_13 rfl rfl ?_
  refine j_getR (pc := 14) ok_X9 (by decide) rfl w_444 dX9_exchange_14 (fun a5 => ?_)
  refine j_iload_n (pc := 17) 2 dX9_exchange_17 rfl rfl ?_
  refine j_iaload (pc := 18) dX9_exchange_18 (fun x6 => ?_)
  refine j_aload_n (pc := 19) 0 dX9_exchange_19 rfl rfl ?_
  refine j_getR (pc := 20) ok_X9 (by decide) rfl w_444 dX9_exchange_20 (fun a7 => ?_)
  refine j_iload_n (pc := 23) 3 dX9_exchange_23 rfl rfl ?_
  refine j_iaload (pc := 24) dX9_exchange_24 (fun x8 => ?_)
  refine j_callS_I (pc := 25) (as := [.int x6, .int x8]) (mc2 := 0) (ms2 := 0) (ct_J9_min_7cf53 _ _ _) cw_X9_exchange_86 dX9_exchange_25 (Nat.le_of_ble_eq_true rfl) rfl (by decide) (by decide) (fun x10 z9 => ?_)
  refine j_imul (pc := 28) dX9_exchange_28 ?_
  refine j_bipush (pc := 29) (v := 100) dX9_exchange_29 (by decide) ?_
  refine j_idiv (pc := 31) dX9_exchange_31 (by decide) ?_
  refine j_istore (pc := 32) (lv2 := [(4, .int (((x2 - x4) * x10) / 100)), (0, .ref (mB Γ + r0)), (1, .ref (mB Γ + r1)), (2, .int v2), (3, .int v3)]) dX9_exchange_32 (by decide) rfl ?_
  refine j_aload_n (pc := 34) 1 dX9_exchange_34 rfl rfl ?_
  refine j_getR (pc := 35) ok_X9 (by decide) rfl w_445 dX9_exchange_35 (fun a11 => ?_)
  refine j_iload_n (pc := 38) 3 dX9_exchange_38 rfl rfl ?_
  refine j_dup2 (pc := 39) dX9_exchange_39 rfl rfl ?_
  refine j_iaload (pc := 40) dX9_exchange_40 (fun x12 => ?_)
  refine j_iload (pc := 41) 0 dX9_exchange_41 rfl ?_
  refine j_iadd (pc := 43) dX9_exchange_43 ?_
  refine j_iastore (pc := 44) dX9_exchange_44 (fun z13 => ?_)
  refine j_aload_n (pc := 45) 1 dX9_exchange_45 rfl rfl ?_
  refine j_getR (pc := 46) ok_X9 (by decide) rfl w_445 dX9_exchange_46 (fun a14 => ?_)
  refine j_iload_n (pc := 49) 4 dX9_exchange_49 rfl rfl ?_
  refine j_dup2 (pc := 50) dX9_exchange_50 rfl rfl ?_
  refine j_iaload (pc := 51) dX9_exchange_51 (fun x15 => ?_)
  refine j_iload (pc := 52) 0 dX9_exchange_52 rfl ?_
  refine j_isub (pc := 54) dX9_exchange_54 ?_
  refine j_iastore (pc := 55) dX9_exchange_55 (fun z16 => ?_)
  exact j_return (pc := 56) dX9_exchange_56 rfl
theorem dX9_leadBetweenCells_0 : decode cX9_leadBetweenCells 0 = .ok (.iconst 0, 1) := by decide +kernel
theorem dX9_leadBetweenCells_1 : decode cX9_leadBetweenCells 1 = .ok (.istore_n 2, 1) := by decide +kernel
theorem dX9_leadBetweenCells_2 : decode cX9_leadBetweenCells 2 = .ok (.iload_n 2, 1) := by decide +kernel
theorem dX9_leadBetweenCells_3 : decode cX9_leadBetweenCells 3 = .ok (.bipush 12, 2) := by decide +kernel
theorem dX9_leadBetweenCells_5 : decode cX9_leadBetweenCells 5 = .ok (.if_icmp .ge 66, 3) := by decide +kernel
theorem dX9_leadBetweenCells_8 : decode cX9_leadBetweenCells 8 = .ok (.iconst 0, 1) := by decide +kernel
theorem dX9_leadBetweenCells_9 : decode cX9_leadBetweenCells 9 = .ok (.istore_n 3, 1) := by decide +kernel
theorem dX9_leadBetweenCells_10 : decode cX9_leadBetweenCells 10 = .ok (.iload_n 3, 1) := by decide +kernel
theorem dX9_leadBetweenCells_11 : decode cX9_leadBetweenCells 11 = .ok (.bipush 12, 2) := by decide +kernel
theorem dX9_leadBetweenCells_13 : decode cX9_leadBetweenCells 13 = .ok (.if_icmp .ge 52, 3) := by decide +kernel
theorem dX9_leadBetweenCells_16 : decode cX9_leadBetweenCells 16 = .ok (.bipush 12, 2) := by decide +kernel
theorem dX9_leadBetweenCells_18 : decode cX9_leadBetweenCells 18 = .ok (.iload_n 2, 1) := by decide +kernel
theorem dX9_leadBetweenCells_19 : decode cX9_leadBetweenCells 19 = .ok (.imul, 1) := by decide +kernel
theorem dX9_leadBetweenCells_20 : decode cX9_leadBetweenCells 20 = .ok (.iload_n 3, 1) := by decide +kernel
theorem dX9_leadBetweenCells_21 : decode cX9_leadBetweenCells 21 = .ok (.iadd, 1) := by decide +kernel
theorem dX9_leadBetweenCells_22 : decode cX9_leadBetweenCells 22 = .ok (.istore 4, 2) := by decide +kernel
theorem dX9_leadBetweenCells_24 : decode cX9_leadBetweenCells 24 = .ok (.iload_n 3, 1) := by decide +kernel
theorem dX9_leadBetweenCells_25 : decode cX9_leadBetweenCells 25 = .ok (.bipush 11, 2) := by decide +kernel
theorem dX9_leadBetweenCells_27 : decode cX9_leadBetweenCells 27 = .ok (.if_icmp .ge 14, 3) := by decide +kernel
theorem dX9_leadBetweenCells_30 : decode cX9_leadBetweenCells 30 = .ok (.aload_n 0, 1) := by decide +kernel
theorem dX9_leadBetweenCells_31 : decode cX9_leadBetweenCells 31 = .ok (.aload_n 1, 1) := by decide +kernel
theorem dX9_leadBetweenCells_32 : decode cX9_leadBetweenCells 32 = .ok (.iload 4, 2) := by decide +kernel
theorem dX9_leadBetweenCells_34 : decode cX9_leadBetweenCells 34 = .ok (.iload 4, 2) := by decide +kernel
theorem dX9_leadBetweenCells_36 : decode cX9_leadBetweenCells 36 = .ok (.iconst 1, 1) := by decide +kernel
theorem dX9_leadBetweenCells_37 : decode cX9_leadBetweenCells 37 = .ok (.iadd, 1) := by decide +kernel
theorem dX9_leadBetweenCells_38 : decode cX9_leadBetweenCells 38 = .ok (.invokevirtual 80, 3) := by decide +kernel
theorem dX9_leadBetweenCells_41 : decode cX9_leadBetweenCells 41 = .ok (.iload_n 2, 1) := by decide +kernel
theorem dX9_leadBetweenCells_42 : decode cX9_leadBetweenCells 42 = .ok (.bipush 11, 2) := by decide +kernel
theorem dX9_leadBetweenCells_44 : decode cX9_leadBetweenCells 44 = .ok (.if_icmp .ge 15, 3) := by decide +kernel
theorem dX9_leadBetweenCells_47 : decode cX9_leadBetweenCells 47 = .ok (.aload_n 0, 1) := by decide +kernel
theorem dX9_leadBetweenCells_48 : decode cX9_leadBetweenCells 48 = .ok (.aload_n 1, 1) := by decide +kernel
theorem dX9_leadBetweenCells_49 : decode cX9_leadBetweenCells 49 = .ok (.iload 4, 2) := by decide +kernel
theorem dX9_leadBetweenCells_51 : decode cX9_leadBetweenCells 51 = .ok (.iload 4, 2) := by decide +kernel
theorem dX9_leadBetweenCells_53 : decode cX9_leadBetweenCells 53 = .ok (.bipush 12, 2) := by decide +kernel
theorem dX9_leadBetweenCells_55 : decode cX9_leadBetweenCells 55 = .ok (.iadd, 1) := by decide +kernel
theorem dX9_leadBetweenCells_56 : decode cX9_leadBetweenCells 56 = .ok (.invokevirtual 80, 3) := by decide +kernel
theorem dX9_leadBetweenCells_59 : decode cX9_leadBetweenCells 59 = .ok (.iinc 3 1, 3) := by decide +kernel
theorem dX9_leadBetweenCells_62 : decode cX9_leadBetweenCells 62 = .ok (.goto (-52), 3) := by decide +kernel
theorem dX9_leadBetweenCells_65 : decode cX9_leadBetweenCells 65 = .ok (.iinc 2 1, 3) := by decide +kernel
theorem dX9_leadBetweenCells_68 : decode cX9_leadBetweenCells 68 = .ok (.goto (-66), 3) := by decide +kernel
theorem dX9_leadBetweenCells_71 : decode cX9_leadBetweenCells 71 = .ok (.return_, 1) := by decide +kernel
theorem cw_X9_leadBetweenCells_80 : CwV mi_X9_leadBetweenCells mi_X9_exchange yX9_exchange RX9 80 3 := ⟨⟨w_809, w_811, w_19, w_104, w_812⟩, ⟨by decide, by decide⟩, by decide +kernel, by decide, by decide⟩
theorem j_X9_leadBetweenCells_B65 {l : Launch} {Γ : Am} {k2 : Nat → Nat → Int32 → Hp → Option (Unit × Hp)} (hL2 : ∀ (r0 : Nat) (r1 : Nat) (v2 : Int32) (z : Hp), J l Γ mi_X9_leadBetweenCells cvV 0 0 2 [(0, .ref (mB Γ + r0)), (1, .ref (mB Γ + r1)), (2, .int v2)] [] z (k2 r0 r1 v2 z)) : ∀ (r0 : Nat) (r1 : Nat) (v2 : Int32) (z : Hp), J l Γ mi_X9_leadBetweenCells cvV 0 0 65 [(0, .ref (mB Γ + r0)), (1, .ref (mB Γ + r1)), (2, .int v2)] [] z (m_X9_leadBetweenCells_B65 k2 r0 r1 v2 z) := by
  intro r0 r1 v2 z
  unfold m_X9_leadBetweenCells_B65
  refine j_iinc (pc := 65) (n0 := 2) (v0 := v2 + 1) (lv2 := [(2, .int (v2 + 1)), (0, .ref (mB Γ + r0)), (1, .ref (mB Γ + r1))]) dX9_leadBetweenCells_65 rfl rfl (by decide) rfl ?_
  refine j_goto (pc := 68) 2 dX9_leadBetweenCells_68 (by decide) ?_
  exact J.sub [1, 2, 0] rfl (hL2 r0 r1 (v2 + 1) z)
theorem j_X9_leadBetweenCells_B59 {l : Launch} {Γ : Am} {k10 : Nat → Nat → Int32 → Int32 → Hp → Option (Unit × Hp)} (hL10 : ∀ (r0 : Nat) (r1 : Nat) (v2 : Int32) (v3 : Int32) (z : Hp), J l Γ mi_X9_leadBetweenCells cvV 0 0 10 [(0, .ref (mB Γ + r0)), (1, .ref (mB Γ + r1)), (2, .int v2), (3, .int v3)] [] z (k10 r0 r1 v2 v3 z)) : ∀ (r0 : Nat) (r1 : Nat) (v2 : Int32) (v3 : Int32) (z : Hp), J l Γ mi_X9_leadBetweenCells cvV 0 0 59 [(0, .ref (mB Γ + r0)), (1, .ref (mB Γ + r1)), (2, .int v2), (3, .int v3)] [] z (m_X9_leadBetweenCells_B59 k10 r0 r1 v2 v3 z) := by
  intro r0 r1 v2 v3 z
  unfold m_X9_leadBetweenCells_B59
  refine j_iinc (pc := 59) (n0 := 3) (v0 := v3 + 1) (lv2 := [(3, .int (v3 + 1)), (0, .ref (mB Γ + r0)), (1, .ref (mB Γ + r1)), (2, .int v2)]) dX9_leadBetweenCells_59 rfl rfl (by decide) rfl ?_
  refine j_goto (pc := 62) 10 dX9_leadBetweenCells_62 (by decide) ?_
  exact J.sub [1, 2, 3, 0] rfl (hL10 r0 r1 v2 (v3 + 1) z)
theorem j_X9_leadBetweenCells_B41 {l : Launch} {Γ : Am} {k10 : Nat → Nat → Int32 → Int32 → Hp → Option (Unit × Hp)} (hL10 : ∀ (r0 : Nat) (r1 : Nat) (v2 : Int32) (v3 : Int32) (z : Hp), J l Γ mi_X9_leadBetweenCells cvV 0 0 10 [(0, .ref (mB Γ + r0)), (1, .ref (mB Γ + r1)), (2, .int v2), (3, .int v3)] [] z (k10 r0 r1 v2 v3 z)) : ∀ (r0 : Nat) (r1 : Nat) (v2 : Int32) (v3 : Int32) (v4 : Int32) (z : Hp), J l Γ mi_X9_leadBetweenCells cvV 0 0 41 [(0, .ref (mB Γ + r0)), (1, .ref (mB Γ + r1)), (2, .int v2), (3, .int v3), (4, .int v4)] [] z (m_X9_leadBetweenCells_B41 k10 r0 r1 v2 v3 v4 z) := by
  intro r0 r1 v2 v3 v4 z
  unfold m_X9_leadBetweenCells_B41
  refine j_iload_n (pc := 41) 2 dX9_leadBetweenCells_41 rfl rfl ?_
  refine j_bipush (pc := 42) (v := 11) dX9_leadBetweenCells_42 (by decide) ?_
  refine j_icmp_ge (pc := 44) 59 dX9_leadBetweenCells_44 (by decide) ?_ ?_
  · exact J.sub [0, 1, 2, 3] rfl ((j_X9_leadBetweenCells_B59 hL10) r0 r1 v2 v3 z)
  refine j_aload_n (pc := 47) 0 dX9_leadBetweenCells_47 rfl rfl ?_
  refine j_aload_n (pc := 48) 1 dX9_leadBetweenCells_48 rfl rfl ?_
  refine j_iload (pc := 49) 4 dX9_leadBetweenCells_49 rfl ?_
  refine j_iload (pc := 51) 4 dX9_leadBetweenCells_51 rfl ?_
  refine j_bipush (pc := 53) (v := 12) dX9_leadBetweenCells_53 (by decide) ?_
  refine j_iadd (pc := 55) dX9_leadBetweenCells_55 ?_
  refine j_isC (fun h2 => ?_)
  refine j_callV_V (pc := 56) (as := [.ref (mB Γ + r1), .int v4, .int (v4 + 12)]) (mc2 := 0) (ms2 := 0) (ct_X9_exchange _ _ _ _ _) h2 rfl cw_X9_leadBetweenCells_80 dX9_leadBetweenCells_56 (Nat.le_of_ble_eq_true rfl) rfl (by decide) (by decide) (fun _ z1 => ?_)
  exact J.sub [0, 1, 2, 3] rfl ((j_X9_leadBetweenCells_B59 hL10) r0 r1 v2 v3 z1)
theorem j_X9_leadBetweenCells_L10 {l : Launch} {Γ : Am} {k65 : Nat → Nat → Int32 → Hp → Option (Unit × Hp)} (hL65 : ∀ (r0 : Nat) (r1 : Nat) (v2 : Int32) (z : Hp), J l Γ mi_X9_leadBetweenCells cvV 0 0 65 [(0, .ref (mB Γ + r0)), (1, .ref (mB Γ + r1)), (2, .int v2)] [] z (k65 r0 r1 v2 z)) : ∀ (f : Nat), ∀ (r0 : Nat) (r1 : Nat) (v2 : Int32) (v3 : Int32) (z : Hp), J l Γ mi_X9_leadBetweenCells cvV 0 0 10 [(0, .ref (mB Γ + r0)), (1, .ref (mB Γ + r1)), (2, .int v2), (3, .int v3)] [] z (m_X9_leadBetweenCells_L10 k65 f r0 r1 v2 v3 z) := by
  intro f
  induction f with
  | zero => intro r0 r1 v2 v3 z; exact J.none
  | succ f hL10 =>
    intro r0 r1 v2 v3 z
    rw [m_X9_leadBetweenCells_L10]
    refine j_iload_n (pc := 10) 3 dX9_leadBetweenCells_10 rfl rfl ?_
    refine j_bipush (pc := 11) (v := 12) dX9_leadBetweenCells_11 (by decide) ?_
    refine j_icmp_ge (pc := 13) 65 dX9_leadBetweenCells_13 (by decide) ?_ ?_
    · exact J.sub [0, 1, 2] rfl (hL65 r0 r1 v2 z)
    refine j_bipush (pc := 16) (v := 12) dX9_leadBetweenCells_16 (by decide) ?_
    refine j_iload_n (pc := 18) 2 dX9_leadBetweenCells_18 rfl rfl ?_
    refine j_imul (pc := 19) dX9_leadBetweenCells_19 ?_
    refine j_iload_n (pc := 20) 3 dX9_leadBetweenCells_20 rfl rfl ?_
    refine j_iadd (pc := 21) dX9_leadBetweenCells_21 ?_
    refine j_istore (pc := 22) (lv2 := [(4, .int ((12 * v2) + v3)), (0, .ref (mB Γ + r0)), (1, .ref (mB Γ + r1)), (2, .int v2), (3, .int v3)]) dX9_leadBetweenCells_22 (by decide) rfl ?_
    refine j_iload_n (pc := 24) 4 dX9_leadBetweenCells_24 rfl rfl ?_
    refine j_bipush (pc := 25) (v := 11) dX9_leadBetweenCells_25 (by decide) ?_
    refine j_icmp_ge (pc := 27) 41 dX9_leadBetweenCells_27 (by decide) ?_ ?_
    · exact J.sub [1, 2, 3, 4, 0] rfl ((j_X9_leadBetweenCells_B41 hL10) r0 r1 v2 v3 ((12 * v2) + v3) z)
    refine j_aload_n (pc := 30) 1 dX9_leadBetweenCells_30 rfl rfl ?_
    refine j_aload_n (pc := 31) 2 dX9_leadBetweenCells_31 rfl rfl ?_
    refine j_iload (pc := 32) 0 dX9_leadBetweenCells_32 rfl ?_
    refine j_iload (pc := 34) 0 dX9_leadBetweenCells_34 rfl ?_
    refine j_iconst (pc := 36) (v := 1) dX9_leadBetweenCells_36 (by decide) ?_
    refine j_iadd (pc := 37) dX9_leadBetweenCells_37 ?_
    refine j_isC (fun h4 => ?_)
    refine j_callV_V (pc := 38) (as := [.ref (mB Γ + r1), .int ((12 * v2) + v3), .int (((12 * v2) + v3) + 1)]) (mc2 := 0) (ms2 := 0) (ct_X9_exchange _ _ _ _ _) h4 rfl cw_X9_leadBetweenCells_80 dX9_leadBetweenCells_38 (Nat.le_of_ble_eq_true rfl) rfl (by decide) (by decide) (fun _ z3 => ?_)
    exact J.sub [1, 2, 3, 4, 0] rfl ((j_X9_leadBetweenCells_B41 hL10) r0 r1 v2 v3 ((12 * v2) + v3) z3)
theorem j_X9_leadBetweenCells_L2 {l : Launch} {Γ : Am}   : ∀ (f : Nat), ∀ (r0 : Nat) (r1 : Nat) (v2 : Int32) (z : Hp), J l Γ mi_X9_leadBetweenCells cvV 0 0 2 [(0, .ref (mB Γ + r0)), (1, .ref (mB Γ + r1)), (2, .int v2)] [] z (m_X9_leadBetweenCells_L2  f r0 r1 v2 z) := by
  intro f
  induction f with
  | zero => intro r0 r1 v2 z; exact J.none
  | succ f hL2 =>
    intro r0 r1 v2 z
    rw [m_X9_leadBetweenCells_L2]
    refine j_iload_n (pc := 2) 2 dX9_leadBetweenCells_2 rfl rfl ?_
    refine j_bipush (pc := 3) (v := 12) dX9_leadBetweenCells_3 (by decide) ?_
    refine j_icmp_ge (pc := 5) 71 dX9_leadBetweenCells_5 (by decide) ?_ ?_
    · exact j_return (pc := 71) dX9_leadBetweenCells_71 rfl
    refine j_iconst (pc := 8) (v := 0) dX9_leadBetweenCells_8 (by decide) ?_
    refine j_istore_n (pc := 9) (lv2 := [(3, .int 0), (0, .ref (mB Γ + r0)), (1, .ref (mB Γ + r1)), (2, .int v2)]) dX9_leadBetweenCells_9 rfl (by decide) rfl ?_
    exact J.sub [1, 2, 3, 0] rfl ((j_X9_leadBetweenCells_L10 (j_X9_leadBetweenCells_B65 hL2) FU) r0 r1 v2 0 z)
theorem ct_X9_leadBetweenCells {l : Launch} {Γ : Am} (r0 : Nat) (r1 : Nat) (z : Hp) : Ct l Γ yX9_leadBetweenCells mi_X9_leadBetweenCells cvV [.ref (mB Γ + r0), .ref (mB Γ + r1)] z (m_X9_leadBetweenCells r0 r1 z) := by
  refine Ct.ofJ (by decide) ⟨rfl, rfl⟩ (Nat.le_of_ble_eq_true rfl) ?_
  unfold m_X9_leadBetweenCells
  show J l Γ mi_X9_leadBetweenCells cvV 0 0 0 [(0, .ref (mB Γ + r0)), (1, .ref (mB Γ + r1))] [] z _
  refine j_iconst (pc := 0) (v := 0) dX9_leadBetweenCells_0 (by decide) ?_
  refine j_istore_n (pc := 1) (lv2 := [(2, .int 0), (0, .ref (mB Γ + r0)), (1, .ref (mB Γ + r1))]) dX9_leadBetweenCells_1 rfl (by decide) rfl ?_
  exact J.sub [1, 2, 0] rfl ((j_X9_leadBetweenCells_L2 FU) r0 r1 0 z)
theorem dX9_comeOverRim_0 : decode cX9_comeOverRim 0 = .ok (.aload_n 1, 1) := by decide +kernel
theorem dX9_comeOverRim_1 : decode cX9_comeOverRim 1 = .ok (.getfield 37, 3) := by decide +kernel
theorem dX9_comeOverRim_4 : decode cX9_comeOverRim 4 = .ok (.getfield 95, 3) := by decide +kernel
theorem dX9_comeOverRim_7 : decode cX9_comeOverRim 7 = .ok (.aload_n 1, 1) := by decide +kernel
theorem dX9_comeOverRim_8 : decode cX9_comeOverRim 8 = .ok (.getfield 83, 3) := by decide +kernel
theorem dX9_comeOverRim_11 : decode cX9_comeOverRim 11 = .ok (.iload_n 2, 1) := by decide +kernel
theorem dX9_comeOverRim_12 : decode cX9_comeOverRim 12 = .ok (.iaload, 1) := by decide +kernel
theorem dX9_comeOverRim_13 : decode cX9_comeOverRim 13 = .ok (.isub, 1) := by decide +kernel
theorem dX9_comeOverRim_14 : decode cX9_comeOverRim 14 = .ok (.aload_n 0, 1) := by decide +kernel
theorem dX9_comeOverRim_15 : decode cX9_comeOverRim 15 = .ok (.getfield 9, 3) := by decide +kernel
theorem dX9_comeOverRim_18 : decode cX9_comeOverRim 18 = .ok (.iload_n 2, 1) := by decide +kernel
theorem dX9_comeOverRim_19 : decode cX9_comeOverRim 19 = .ok (.iaload, 1) := by decide +kernel
theorem dX9_comeOverRim_20 : decode cX9_comeOverRim 20 = .ok (.imul, 1) := by decide +kernel
theorem dX9_comeOverRim_21 : decode cX9_comeOverRim 21 = .ok (.bipush 100, 2) := by decide +kernel
theorem dX9_comeOverRim_23 : decode cX9_comeOverRim 23 = .ok (.idiv, 1) := by decide +kernel
theorem dX9_comeOverRim_24 : decode cX9_comeOverRim 24 = .ok (.istore_n 3, 1) := by decide +kernel
theorem dX9_comeOverRim_25 : decode cX9_comeOverRim 25 = .ok (.aload_n 0, 1) := by decide +kernel
theorem dX9_comeOverRim_26 : decode cX9_comeOverRim 26 = .ok (.getfield 15, 3) := by decide +kernel
theorem dX9_comeOverRim_29 : decode cX9_comeOverRim 29 = .ok (.iload_n 2, 1) := by decide +kernel
theorem dX9_comeOverRim_30 : decode cX9_comeOverRim 30 = .ok (.dup2, 1) := by decide +kernel
theorem dX9_comeOverRim_31 : decode cX9_comeOverRim 31 = .ok (.iaload, 1) := by decide +kernel
theorem dX9_comeOverRim_32 : decode cX9_comeOverRim 32 = .ok (.iload_n 3, 1) := by decide +kernel
theorem dX9_comeOverRim_33 : decode cX9_comeOverRim 33 = .ok (.iadd, 1) := by decide +kernel
theorem dX9_comeOverRim_34 : decode cX9_comeOverRim 34 = .ok (.iastore, 1) := by decide +kernel
theorem dX9_comeOverRim_35 : decode cX9_comeOverRim 35 = .ok (.aload_n 1, 1) := by decide +kernel
theorem dX9_comeOverRim_36 : decode cX9_comeOverRim 36 = .ok (.getfield 98, 3) := by decide +kernel
theorem dX9_comeOverRim_39 : decode cX9_comeOverRim 39 = .ok (.iconst 2, 1) := by decide +kernel
theorem dX9_comeOverRim_40 : decode cX9_comeOverRim 40 = .ok (.dup2, 1) := by decide +kernel
theorem dX9_comeOverRim_41 : decode cX9_comeOverRim 41 = .ok (.iaload, 1) := by decide +kernel
theorem dX9_comeOverRim_42 : decode cX9_comeOverRim 42 = .ok (.iload_n 3, 1) := by decide +kernel
theorem dX9_comeOverRim_43 : decode cX9_comeOverRim 43 = .ok (.iadd, 1) := by decide +kernel
theorem dX9_comeOverRim_44 : decode cX9_comeOverRim 44 = .ok (.iastore, 1) := by decide +kernel
theorem dX9_comeOverRim_45 : decode cX9_comeOverRim 45 = .ok (.return_, 1) := by decide +kernel
theorem ct_X9_comeOverRim {l : Launch} {Γ : Am} (r0 : Nat) (r1 : Nat) (v2 : Int32) (z : Hp) : Ct l Γ yX9_comeOverRim mi_X9_comeOverRim cvV [.ref (mB Γ + r0), .ref (mB Γ + r1), .int v2] z (m_X9_comeOverRim r0 r1 v2 z) := by
  refine Ct.ofJ (by decide) ⟨rfl, rfl⟩ (Nat.le_of_ble_eq_true rfl) ?_
  unfold m_X9_comeOverRim
  show J l Γ mi_X9_comeOverRim cvV 0 0 0 [(0, .ref (mB Γ + r0)), (1, .ref (mB Γ + r1)), (2, .int v2)] [] z _
  refine j_aload_n (pc := 0) 1 dX9_comeOverRim_0 rfl rfl ?_
  refine j_getR (pc := 1) ok_X8 (by decide) rfl w_290 dX9_comeOverRim_1 (fun a1 => ?_)
  refine j_getI (pc := 4) ok_X7 (by decide) rfl w_159 dX9_comeOverRim_4 (fun x2 => ?_)
  refine j_aload_n (pc := 7) 1 dX9_comeOverRim_7 rfl rfl ?_
  refine j_getR (pc := 8) ok_X8 (by decide) rfl w_306 dX9_comeOverRim_8 (fun a3 => ?_)
  refine j_iload_n (pc := 11) 2 dX9_comeOverRim_11 rfl rfl ?_
  refine j_iaload (pc := 12) dX9_comeOverRim_12 (fun x4 => ?_)
  refine j_isub (pc := 13) dX9_comeOverRim_13 ?_
  refine j_aload_n (pc := 14) 0 dX9_comeOverRim_14 rfl rfl ?_
  refine j_getR (pc := 15) ok_X9 (by decide) rfl w_444 dX9_comeOverRim_15 (fun a5 => ?_)
  refine j_iload_n (pc := 18) 2 dX9_comeOverRim_18 rfl rfl ?_
  refine j_iaload (pc := 19) dX9_comeOverRim_19 (fun x6 => ?_)
  refine j_imul (pc := 20) dX9_comeOverRim_20 ?_
  refine j_bipush (pc := 21) (v := 100) dX9_comeOverRim_21 (by decide) ?_
  refine j_idiv (pc := 23) dX9_comeOverRim_23 (by decide) ?_
  refine j_istore_n (pc := 24) (lv2 := [(3, .int (((x2 - x4) * x6) / 100)), (0, .ref (mB Γ + r0)), (1, .ref (mB Γ + r1)), (2, .int v2)]) dX9_comeOverRim_24 rfl (by decide) rfl ?_
  refine j_aload_n (pc := 25) 1 dX9_comeOverRim_25 rfl rfl ?_
  refine j_getR (pc := 26) ok_X9 (by decide) rfl w_445 dX9_comeOverRim_26 (fun a7 => ?_)
  refine j_iload_n (pc := 29) 3 dX9_comeOverRim_29 rfl rfl ?_
  refine j_dup2 (pc := 30) dX9_comeOverRim_30 rfl rfl ?_
  refine j_iaload (pc := 31) dX9_comeOverRim_31 (fun x8 => ?_)
  refine j_iload_n (pc := 32) 0 dX9_comeOverRim_32 rfl rfl ?_
  refine j_iadd (pc := 33) dX9_comeOverRim_33 ?_
  refine j_iastore (pc := 34) dX9_comeOverRim_34 (fun z9 => ?_)
  refine j_aload_n (pc := 35) 2 dX9_comeOverRim_35 rfl rfl ?_
  refine j_getR (pc := 36) ok_X8 (by decide) rfl w_319 dX9_comeOverRim_36 (fun a10 => ?_)
  refine j_iconst (pc := 39) (v := 2) dX9_comeOverRim_39 (by decide) ?_
  refine j_dup2 (pc := 40) dX9_comeOverRim_40 rfl rfl ?_
  refine j_iaload (pc := 41) dX9_comeOverRim_41 (fun x11 => ?_)
  refine j_iload_n (pc := 42) 0 dX9_comeOverRim_42 rfl rfl ?_
  refine j_iadd (pc := 43) dX9_comeOverRim_43 ?_
  refine j_iastore (pc := 44) dX9_comeOverRim_44 (fun z12 => ?_)
  exact j_return (pc := 45) dX9_comeOverRim_45 rfl
theorem dX9_leadOverRim_0 : decode cX9_leadOverRim 0 = .ok (.iconst 0, 1) := by decide +kernel
theorem dX9_leadOverRim_1 : decode cX9_leadOverRim 1 = .ok (.istore_n 2, 1) := by decide +kernel
theorem dX9_leadOverRim_2 : decode cX9_leadOverRim 2 = .ok (.iload_n 2, 1) := by decide +kernel
theorem dX9_leadOverRim_3 : decode cX9_leadOverRim 3 = .ok (.bipush 12, 2) := by decide +kernel
theorem dX9_leadOverRim_5 : decode cX9_leadOverRim 5 = .ok (.if_icmp .ge 48, 3) := by decide +kernel
theorem dX9_leadOverRim_8 : decode cX9_leadOverRim 8 = .ok (.aload_n 0, 1) := by decide +kernel
theorem dX9_leadOverRim_9 : decode cX9_leadOverRim 9 = .ok (.aload_n 1, 1) := by decide +kernel
theorem dX9_leadOverRim_10 : decode cX9_leadOverRim 10 = .ok (.iload_n 2, 1) := by decide +kernel
theorem dX9_leadOverRim_11 : decode cX9_leadOverRim 11 = .ok (.invokevirtual 92, 3) := by decide +kernel
theorem dX9_leadOverRim_14 : decode cX9_leadOverRim 14 = .ok (.aload_n 0, 1) := by decide +kernel
theorem dX9_leadOverRim_15 : decode cX9_leadOverRim 15 = .ok (.aload_n 1, 1) := by decide +kernel
theorem dX9_leadOverRim_16 : decode cX9_leadOverRim 16 = .ok (.sipush 132, 3) := by decide +kernel
theorem dX9_leadOverRim_19 : decode cX9_leadOverRim 19 = .ok (.iload_n 2, 1) := by decide +kernel
theorem dX9_leadOverRim_20 : decode cX9_leadOverRim 20 = .ok (.iadd, 1) := by decide +kernel
theorem dX9_leadOverRim_21 : decode cX9_leadOverRim 21 = .ok (.invokevirtual 92, 3) := by decide +kernel
theorem dX9_leadOverRim_24 : decode cX9_leadOverRim 24 = .ok (.aload_n 0, 1) := by decide +kernel
theorem dX9_leadOverRim_25 : decode cX9_leadOverRim 25 = .ok (.aload_n 1, 1) := by decide +kernel
theorem dX9_leadOverRim_26 : decode cX9_leadOverRim 26 = .ok (.bipush 12, 2) := by decide +kernel
theorem dX9_leadOverRim_28 : decode cX9_leadOverRim 28 = .ok (.iload_n 2, 1) := by decide +kernel
theorem dX9_leadOverRim_29 : decode cX9_leadOverRim 29 = .ok (.imul, 1) := by decide +kernel
theorem dX9_leadOverRim_30 : decode cX9_leadOverRim 30 = .ok (.invokevirtual 92, 3) := by decide +kernel
theorem dX9_leadOverRim_33 : decode cX9_leadOverRim 33 = .ok (.aload_n 0, 1) := by decide +kernel
theorem dX9_leadOverRim_34 : decode cX9_leadOverRim 34 = .ok (.aload_n 1, 1) := by decide +kernel
theorem dX9_leadOverRim_35 : decode cX9_leadOverRim 35 = .ok (.bipush 12, 2) := by decide +kernel
theorem dX9_leadOverRim_37 : decode cX9_leadOverRim 37 = .ok (.iload_n 2, 1) := by decide +kernel
theorem dX9_leadOverRim_38 : decode cX9_leadOverRim 38 = .ok (.imul, 1) := by decide +kernel
theorem dX9_leadOverRim_39 : decode cX9_leadOverRim 39 = .ok (.bipush 12, 2) := by decide +kernel
theorem dX9_leadOverRim_41 : decode cX9_leadOverRim 41 = .ok (.iadd, 1) := by decide +kernel
theorem dX9_leadOverRim_42 : decode cX9_leadOverRim 42 = .ok (.iconst 1, 1) := by decide +kernel
theorem dX9_leadOverRim_43 : decode cX9_leadOverRim 43 = .ok (.isub, 1) := by decide +kernel
theorem dX9_leadOverRim_44 : decode cX9_leadOverRim 44 = .ok (.invokevirtual 92, 3) := by decide +kernel
theorem dX9_leadOverRim_47 : decode cX9_leadOverRim 47 = .ok (.iinc 2 1, 3) := by decide +kernel
theorem dX9_leadOverRim_50 : decode cX9_leadOverRim 50 = .ok (.goto (-48), 3) := by decide +kernel
theorem dX9_leadOverRim_53 : decode cX9_leadOverRim 53 = .ok (.return_, 1) := by decide +kernel
theorem cw_X9_leadOverRim_92 : CwV mi_X9_leadOverRim mi_X9_comeOverRim yX9_comeOverRim RX9 92 2 := ⟨⟨w_818, w_820, w_21, w_104, w_821⟩, ⟨by decide, by decide⟩, by decide +kernel, by decide, by decide⟩
theorem j_X9_leadOverRim_L2 {l : Launch} {Γ : Am}   : ∀ (f : Nat), ∀ (r0 : Nat) (r1 : Nat) (v2 : Int32) (z : Hp), J l Γ mi_X9_leadOverRim cvV 0 0 2 [(0, .ref (mB Γ + r0)), (1, .ref (mB Γ + r1)), (2, .int v2)] [] z (m_X9_leadOverRim_L2  f r0 r1 v2 z) := by
  intro f
  induction f with
  | zero => intro r0 r1 v2 z; exact J.none
  | succ f hL2 =>
    intro r0 r1 v2 z
    rw [m_X9_leadOverRim_L2]
    refine j_iload_n (pc := 2) 2 dX9_leadOverRim_2 rfl rfl ?_
    refine j_bipush (pc := 3) (v := 12) dX9_leadOverRim_3 (by decide) ?_
    refine j_icmp_ge (pc := 5) 53 dX9_leadOverRim_5 (by decide) ?_ ?_
    · exact j_return (pc := 53) dX9_leadOverRim_53 rfl
    refine j_aload_n (pc := 8) 0 dX9_leadOverRim_8 rfl rfl ?_
    refine j_aload_n (pc := 9) 1 dX9_leadOverRim_9 rfl rfl ?_
    refine j_iload_n (pc := 10) 2 dX9_leadOverRim_10 rfl rfl ?_
    refine j_isC (fun h2 => ?_)
    refine j_callV_V (pc := 11) (as := [.ref (mB Γ + r1), .int v2]) (mc2 := 0) (ms2 := 0) (ct_X9_comeOverRim _ _ _ _) h2 rfl cw_X9_leadOverRim_92 dX9_leadOverRim_11 (Nat.le_of_ble_eq_true rfl) rfl (by decide) (by decide) (fun _ z1 => ?_)
    refine j_aload_n (pc := 14) 0 dX9_leadOverRim_14 rfl rfl ?_
    refine j_aload_n (pc := 15) 1 dX9_leadOverRim_15 rfl rfl ?_
    refine j_sipush (pc := 16) (v := 132) dX9_leadOverRim_16 (by decide) ?_
    refine j_iload_n (pc := 19) 2 dX9_leadOverRim_19 rfl rfl ?_
    refine j_iadd (pc := 20) dX9_leadOverRim_20 ?_
    refine j_isC (fun h4 => ?_)
    refine j_callV_V (pc := 21) (as := [.ref (mB Γ + r1), .int (132 + v2)]) (mc2 := 0) (ms2 := 0) (ct_X9_comeOverRim _ _ _ _) h4 rfl cw_X9_leadOverRim_92 dX9_leadOverRim_21 (Nat.le_of_ble_eq_true rfl) rfl (by decide) (by decide) (fun _ z3 => ?_)
    refine j_aload_n (pc := 24) 0 dX9_leadOverRim_24 rfl rfl ?_
    refine j_aload_n (pc := 25) 1 dX9_leadOverRim_25 rfl rfl ?_
    refine j_bipush (pc := 26) (v := 12) dX9_leadOverRim_26 (by decide) ?_
    refine j_iload_n (pc := 28) 2 dX9_leadOverRim_28 rfl rfl ?_
    refine j_imul (pc := 29) dX9_leadOverRim_29 ?_
    refine j_isC (fun h6 => ?_)
    refine j_callV_V (pc := 30) (as := [.ref (mB Γ + r1), .int (12 * v2)]) (mc2 := 0) (ms2 := 0) (ct_X9_comeOverRim _ _ _ _) h6 rfl cw_X9_leadOverRim_92 dX9_leadOverRim_30 (Nat.le_of_ble_eq_true rfl) rfl (by decide) (by decide) (fun _ z5 => ?_)
    refine j_aload_n (pc := 33) 0 dX9_leadOverRim_33 rfl rfl ?_
    refine j_aload_n (pc := 34) 1 dX9_leadOverRim_34 rfl rfl ?_
    refine j_bipush (pc := 35) (v := 12) dX9_leadOverRim_35 (by decide) ?_
    refine j_iload_n (pc := 37) 2 dX9_leadOverRim_37 rfl rfl ?_
    refine j_imul (pc := 38) dX9_leadOverRim_38 ?_
    refine j_bipush (pc := 39) (v := 12) dX9_leadOverRim_39 (by decide) ?_
    refine j_iadd (pc := 41) dX9_leadOverRim_41 ?_
    refine j_iconst (pc := 42) (v := 1) dX9_leadOverRim_42 (by decide) ?_
    refine j_isub (pc := 43) dX9_leadOverRim_43 ?_
    refine j_isC (fun h8 => ?_)
    refine j_callV_V (pc := 44) (as := [.ref (mB Γ + r1), .int (((12 * v2) + 12) - 1)]) (mc2 := 0) (ms2 := 0) (ct_X9_comeOverRim _ _ _ _) h8 rfl cw_X9_leadOverRim_92 dX9_leadOverRim_44 (Nat.le_of_ble_eq_true rfl) rfl (by decide) (by decide) (fun _ z7 => ?_)
    refine j_iinc (pc := 47) (n0 := 2) (v0 := v2 + 1) (lv2 := [(2, .int (v2 + 1)), (0, .ref (mB Γ + r0)), (1, .ref (mB Γ + r1))]) dX9_leadOverRim_47 rfl rfl (by decide) rfl ?_
    refine j_goto (pc := 50) 2 dX9_leadOverRim_50 (by decide) ?_
    exact J.sub [1, 2, 0] rfl (hL2 r0 r1 (v2 + 1) z7)
theorem ct_X9_leadOverRim {l : Launch} {Γ : Am} (r0 : Nat) (r1 : Nat) (z : Hp) : Ct l Γ yX9_leadOverRim mi_X9_leadOverRim cvV [.ref (mB Γ + r0), .ref (mB Γ + r1)] z (m_X9_leadOverRim r0 r1 z) := by
  refine Ct.ofJ (by decide) ⟨rfl, rfl⟩ (Nat.le_of_ble_eq_true rfl) ?_
  unfold m_X9_leadOverRim
  show J l Γ mi_X9_leadOverRim cvV 0 0 0 [(0, .ref (mB Γ + r0)), (1, .ref (mB Γ + r1))] [] z _
  refine j_iconst (pc := 0) (v := 0) dX9_leadOverRim_0 (by decide) ?_
  refine j_istore_n (pc := 1) (lv2 := [(2, .int 0), (0, .ref (mB Γ + r0)), (1, .ref (mB Γ + r1))]) dX9_leadOverRim_1 rfl (by decide) rfl ?_
  exact J.sub [1, 2, 0] rfl ((j_X9_leadOverRim_L2 FU) r0 r1 0 z)
theorem dX9_stream_0 : decode cX9_stream 0 = .ok (.aload_n 1, 1) := by decide +kernel
theorem dX9_stream_1 : decode cX9_stream 1 = .ok (.getfield 37, 3) := by decide +kernel
theorem dX9_stream_4 : decode cX9_stream 4 = .ok (.getfield 95, 3) := by decide +kernel
theorem dX9_stream_7 : decode cX9_stream 7 = .ok (.istore_n 3, 1) := by decide +kernel
theorem dX9_stream_8 : decode cX9_stream 8 = .ok (.iconst 1, 1) := by decide +kernel
theorem dX9_stream_9 : decode cX9_stream 9 = .ok (.istore 4, 2) := by decide +kernel
theorem dX9_stream_11 : decode cX9_stream 11 = .ok (.iconst 0, 1) := by decide +kernel
theorem dX9_stream_12 : decode cX9_stream 12 = .ok (.istore 5, 2) := by decide +kernel
theorem dX9_stream_14 : decode cX9_stream 14 = .ok (.iload 5, 2) := by decide +kernel
theorem dX9_stream_16 : decode cX9_stream 16 = .ok (.bipush 12, 2) := by decide +kernel
theorem dX9_stream_18 : decode cX9_stream 18 = .ok (.if_icmp .ge 113, 3) := by decide +kernel
theorem dX9_stream_21 : decode cX9_stream 21 = .ok (.bipush 12, 2) := by decide +kernel
theorem dX9_stream_23 : decode cX9_stream 23 = .ok (.iload_n 2, 1) := by decide +kernel
theorem dX9_stream_24 : decode cX9_stream 24 = .ok (.imul, 1) := by decide +kernel
theorem dX9_stream_25 : decode cX9_stream 25 = .ok (.iload 5, 2) := by decide +kernel
theorem dX9_stream_27 : decode cX9_stream 27 = .ok (.iadd, 1) := by decide +kernel
theorem dX9_stream_28 : decode cX9_stream 28 = .ok (.istore 6, 2) := by decide +kernel
theorem dX9_stream_30 : decode cX9_stream 30 = .ok (.aload_n 1, 1) := by decide +kernel
theorem dX9_stream_31 : decode cX9_stream 31 = .ok (.getfield 69, 3) := by decide +kernel
theorem dX9_stream_34 : decode cX9_stream 34 = .ok (.iload 6, 2) := by decide +kernel
theorem dX9_stream_36 : decode cX9_stream 36 = .ok (.iaload, 1) := by decide +kernel
theorem dX9_stream_37 : decode cX9_stream 37 = .ok (.ifCond .ne 16, 3) := by decide +kernel
theorem dX9_stream_40 : decode cX9_stream 40 = .ok (.aload_n 1, 1) := by decide +kernel
theorem dX9_stream_41 : decode cX9_stream 41 = .ok (.iload 6, 2) := by decide +kernel
theorem dX9_stream_43 : decode cX9_stream 43 = .ok (.invokevirtual 72, 3) := by decide +kernel
theorem dX9_stream_46 : decode cX9_stream 46 = .ok (.ifCond .ne 7, 3) := by decide +kernel
theorem dX9_stream_49 : decode cX9_stream 49 = .ok (.iconst 1, 1) := by decide +kernel
theorem dX9_stream_50 : decode cX9_stream 50 = .ok (.goto 4, 3) := by decide +kernel
theorem dX9_stream_53 : decode cX9_stream 53 = .ok (.iconst 0, 1) := by decide +kernel
theorem dX9_stream_54 : decode cX9_stream 54 = .ok (.istore 7, 2) := by decide +kernel
theorem dX9_stream_56 : decode cX9_stream 56 = .ok (.iload 4, 2) := by decide +kernel
theorem dX9_stream_58 : decode cX9_stream 58 = .ok (.ifCond .eq 55, 3) := by decide +kernel
theorem dX9_stream_61 : decode cX9_stream 61 = .ok (.iload 7, 2) := by decide +kernel
theorem dX9_stream_63 : decode cX9_stream 63 = .ok (.ifCond .eq 50, 3) := by decide +kernel
theorem dX9_stream_66 : decode cX9_stream 66 = .ok (.iload_n 3, 1) := by decide +kernel
theorem dX9_stream_67 : decode cX9_stream 67 = .ok (.aload_n 1, 1) := by decide +kernel
theorem dX9_stream_68 : decode cX9_stream 68 = .ok (.getfield 83, 3) := by decide +kernel
theorem dX9_stream_71 : decode cX9_stream 71 = .ok (.iload 6, 2) := by decide +kernel
theorem dX9_stream_73 : decode cX9_stream 73 = .ok (.iaload, 1) := by decide +kernel
theorem dX9_stream_74 : decode cX9_stream 74 = .ok (.isub, 1) := by decide +kernel
theorem dX9_stream_75 : decode cX9_stream 75 = .ok (.aload_n 1, 1) := by decide +kernel
theorem dX9_stream_76 : decode cX9_stream 76 = .ok (.getfield 37, 3) := by decide +kernel
theorem dX9_stream_79 : decode cX9_stream 79 = .ok (.getfield 43, 3) := by decide +kernel
theorem dX9_stream_82 : decode cX9_stream 82 = .ok (.iload_n 2, 1) := by decide +kernel
theorem dX9_stream_83 : decode cX9_stream 83 = .ok (.iaload, 1) := by decide +kernel
theorem dX9_stream_84 : decode cX9_stream 84 = .ok (.imul, 1) := by decide +kernel
theorem dX9_stream_85 : decode cX9_stream 85 = .ok (.bipush 100, 2) := by decide +kernel
theorem dX9_stream_87 : decode cX9_stream 87 = .ok (.idiv, 1) := by decide +kernel
theorem dX9_stream_88 : decode cX9_stream 88 = .ok (.istore 8, 2) := by decide +kernel
theorem dX9_stream_90 : decode cX9_stream 90 = .ok (.aload_n 0, 1) := by decide +kernel
theorem dX9_stream_91 : decode cX9_stream 91 = .ok (.getfield 15, 3) := by decide +kernel
theorem dX9_stream_94 : decode cX9_stream 94 = .ok (.iload 6, 2) := by decide +kernel
theorem dX9_stream_96 : decode cX9_stream 96 = .ok (.dup2, 1) := by decide +kernel
theorem dX9_stream_97 : decode cX9_stream 97 = .ok (.iaload, 1) := by decide +kernel
theorem dX9_stream_98 : decode cX9_stream 98 = .ok (.iload 8, 2) := by decide +kernel
theorem dX9_stream_100 : decode cX9_stream 100 = .ok (.iadd, 1) := by decide +kernel
theorem dX9_stream_101 : decode cX9_stream 101 = .ok (.iastore, 1) := by decide +kernel
theorem dX9_stream_102 : decode cX9_stream 102 = .ok (.aload_n 1, 1) := by decide +kernel
theorem dX9_stream_103 : decode cX9_stream 103 = .ok (.getfield 98, 3) := by decide +kernel
theorem dX9_stream_106 : decode cX9_stream 106 = .ok (.iconst 3, 1) := by decide +kernel
theorem dX9_stream_107 : decode cX9_stream 107 = .ok (.dup2, 1) := by decide +kernel
theorem dX9_stream_108 : decode cX9_stream 108 = .ok (.iaload, 1) := by decide +kernel
theorem dX9_stream_109 : decode cX9_stream 109 = .ok (.iload 8, 2) := by decide +kernel
theorem dX9_stream_111 : decode cX9_stream 111 = .ok (.iadd, 1) := by decide +kernel
theorem dX9_stream_112 : decode cX9_stream 112 = .ok (.iastore, 1) := by decide +kernel
theorem dX9_stream_113 : decode cX9_stream 113 = .ok (.iload 7, 2) := by decide +kernel
theorem dX9_stream_115 : decode cX9_stream 115 = .ok (.istore 4, 2) := by decide +kernel
theorem dX9_stream_117 : decode cX9_stream 117 = .ok (.aload_n 1, 1) := by decide +kernel
theorem dX9_stream_118 : decode cX9_stream 118 = .ok (.getfield 83, 3) := by decide +kernel
theorem dX9_stream_121 : decode cX9_stream 121 = .ok (.iload 6, 2) := by decide +kernel
theorem dX9_stream_123 : decode cX9_stream 123 = .ok (.iaload, 1) := by decide +kernel
theorem dX9_stream_124 : decode cX9_stream 124 = .ok (.istore_n 3, 1) := by decide +kernel
theorem dX9_stream_125 : decode cX9_stream 125 = .ok (.iinc 5 1, 3) := by decide +kernel
theorem dX9_stream_128 : decode cX9_stream 128 = .ok (.goto (-114), 3) := by decide +kernel
theorem dX9_stream_131 : decode cX9_stream 131 = .ok (.return_, 1) := by decide +kernel
theorem cw_X9_stream_72 : CwV mi_X9_stream mi_X8_isFrozen yX8_isFrozen RX8 72 1 := ⟨⟨w_800, w_801, w_802, w_96, w_803⟩, ⟨by decide, by decide⟩, by decide +kernel, by decide, by decide⟩
theorem j_X9_stream_B113 {l : Launch} {Γ : Am} {k14 : Nat → Nat → Int32 → Int32 → Int32 → Int32 → Hp → Option (Unit × Hp)} (hL14 : ∀ (r0 : Nat) (r1 : Nat) (v2 : Int32) (v3 : Int32) (v4 : Int32) (v5 : Int32) (z : Hp), J l Γ mi_X9_stream cvV 0 0 14 [(0, .ref (mB Γ + r0)), (1, .ref (mB Γ + r1)), (2, .int v2), (3, .int v3), (4, .int v4), (5, .int v5)] [] z (k14 r0 r1 v2 v3 v4 v5 z)) : ∀ (r0 : Nat) (r1 : Nat) (v2 : Int32) (v5 : Int32) (v6 : Int32) (v7 : Int32) (z : Hp), J l Γ mi_X9_stream cvV 0 0 113 [(0, .ref (mB Γ + r0)), (1, .ref (mB Γ + r1)), (2, .int v2), (5, .int v5), (6, .int v6), (7, .int v7)] [] z (m_X9_stream_B113 k14 r0 r1 v2 v5 v6 v7 z) := by
  intro r0 r1 v2 v5 v6 v7 z
  unfold m_X9_stream_B113
  refine j_iload (pc := 113) 5 dX9_stream_113 rfl ?_
  refine j_istore (pc := 115) (lv2 := [(4, .int v7), (0, .ref (mB Γ + r0)), (1, .ref (mB Γ + r1)), (2, .int v2), (5, .int v5), (6, .int v6), (7, .int v7)]) dX9_stream_115 (by decide) rfl ?_
  refine j_aload_n (pc := 117) 2 dX9_stream_117 rfl rfl ?_
  refine j_getR (pc := 118) ok_X8 (by decide) rfl w_306 dX9_stream_118 (fun a1 => ?_)
  refine j_iload (pc := 121) 5 dX9_stream_121 rfl ?_
  refine j_iaload (pc := 123) dX9_stream_123 (fun x2 => ?_)
  refine j_istore_n (pc := 124) (lv2 := [(3, .int x2), (4, .int v7), (0, .ref (mB Γ + r0)), (1, .ref (mB Γ + r1)), (2, .int v2), (5, .int v5), (6, .int v6), (7, .int v7)]) dX9_stream_124 rfl (by decide) rfl ?_
  refine j_iinc (pc := 125) (n0 := 5) (v0 := v5 + 1) (lv2 := [(5, .int (v5 + 1)), (3, .int x2), (4, .int v7), (0, .ref (mB Γ + r0)), (1, .ref (mB Γ + r1)), (2, .int v2), (6, .int v6), (7, .int v7)]) dX9_stream_125 rfl rfl (by decide) rfl ?_
  refine j_goto (pc := 128) 14 dX9_stream_128 (by decide) ?_
  exact J.sub [3, 4, 5, 1, 2, 0] rfl (hL14 r0 r1 v2 x2 v7 (v5 + 1) z)
theorem j_X9_stream_B54 {l : Launch} {Γ : Am} {k14 : Nat → Nat → Int32 → Int32 → Int32 → Int32 → Hp → Option (Unit × Hp)} (hL14 : ∀ (r0 : Nat) (r1 : Nat) (v2 : Int32) (v3 : Int32) (v4 : Int32) (v5 : Int32) (z : Hp), J l Γ mi_X9_stream cvV 0 0 14 [(0, .ref (mB Γ + r0)), (1, .ref (mB Γ + r1)), (2, .int v2), (3, .int v3), (4, .int v4), (5, .int v5)] [] z (k14 r0 r1 v2 v3 v4 v5 z)) : ∀ (r0 : Nat) (r1 : Nat) (v2 : Int32) (v3 : Int32) (v4 : Int32) (v5 : Int32) (v6 : Int32) (t0 : Int32) (z : Hp), J l Γ mi_X9_stream cvV 0 0 54 [(0, .ref (mB Γ + r0)), (1, .ref (mB Γ + r1)), (2, .int v2), (3, .int v3), (4, .int v4), (5, .int v5), (6, .int v6)] [.int t0] z (m_X9_stream_B54 k14 r0 r1 v2 v3 v4 v5 v6 t0 z) := by
  intro r0 r1 v2 v3 v4 v5 v6 t0 z
  unfold m_X9_stream_B54
  refine j_istore (pc := 54) (lv2 := [(7, .int t0), (0, .ref (mB Γ + r0)), (1, .ref (mB Γ + r1)), (2, .int v2), (3, .int v3), (4, .int v4), (5, .int v5), (6, .int v6)]) dX9_stream_54 (by decide) rfl ?_
  refine j_iload (pc := 56) 5 dX9_stream_56 rfl ?_
  refine j_if_eq (pc := 58) 113 dX9_stream_58 (by decide) ?_ ?_
  · exact J.sub [1, 2, 3, 6, 7, 0] rfl ((j_X9_stream_B113 hL14) r0 r1 v2 v5 v6 t0 z)
  refine j_iload (pc := 61) 0 dX9_stream_61 rfl ?_
  refine j_if_eq (pc := 63) 113 dX9_stream_63 (by decide) ?_ ?_
  · exact J.sub [1, 2, 3, 6, 7, 0] rfl ((j_X9_stream_B113 hL14) r0 r1 v2 v5 v6 t0 z)
  refine j_iload_n (pc := 66) 4 dX9_stream_66 rfl rfl ?_
  refine j_aload_n (pc := 67) 2 dX9_stream_67 rfl rfl ?_
  refine j_getR (pc := 68) ok_X8 (by decide) rfl w_306 dX9_stream_68 (fun a3 => ?_)
  refine j_iload (pc := 71) 7 dX9_stream_71 rfl ?_
  refine j_iaload (pc := 73) dX9_stream_73 (fun x4 => ?_)
  refine j_isub (pc := 74) dX9_stream_74 ?_
  refine j_aload_n (pc := 75) 2 dX9_stream_75 rfl rfl ?_
  refine j_getR (pc := 76) ok_X8 (by decide) rfl w_290 dX9_stream_76 (fun a5 => ?_)
  refine j_getR (pc := 79) ok_X7 (by decide) rfl w_155 dX9_stream_79 (fun a6 => ?_)
  refine j_iload_n (pc := 82) 3 dX9_stream_82 rfl rfl ?_
  refine j_iaload (pc := 83) dX9_stream_83 (fun x7 => ?_)
  refine j_imul (pc := 84) dX9_stream_84 ?_
  refine j_bipush (pc := 85) (v := 100) dX9_stream_85 (by decide) ?_
  refine j_idiv (pc := 87) dX9_stream_87 (by decide) ?_
  refine j_istore (pc := 88) (lv2 := [(8, .int (((v3 - x4) * x7) / 100)), (7, .int t0), (0, .ref (mB Γ + r0)), (1, .ref (mB Γ + r1)), (2, .int v2), (3, .int v3), (4, .int v4), (5, .int v5), (6, .int v6)]) dX9_stream_88 (by decide) rfl ?_
  refine j_aload_n (pc := 90) 2 dX9_stream_90 rfl rfl ?_
  refine j_getR (pc := 91) ok_X9 (by decide) rfl w_445 dX9_stream_91 (fun a8 => ?_)
  refine j_iload (pc := 94) 8 dX9_stream_94 rfl ?_
  refine j_dup2 (pc := 96) dX9_stream_96 rfl rfl ?_
  refine j_iaload (pc := 97) dX9_stream_97 (fun x9 => ?_)
  refine j_iload (pc := 98) 0 dX9_stream_98 rfl ?_
  refine j_iadd (pc := 100) dX9_stream_100 ?_
  refine j_iastore (pc := 101) dX9_stream_101 (fun z10 => ?_)
  refine j_aload_n (pc := 102) 3 dX9_stream_102 rfl rfl ?_
  refine j_getR (pc := 103) ok_X8 (by decide) rfl w_319 dX9_stream_103 (fun a11 => ?_)
  refine j_iconst (pc := 106) (v := 3) dX9_stream_106 (by decide) ?_
  refine j_dup2 (pc := 107) dX9_stream_107 rfl rfl ?_
  refine j_iaload (pc := 108) dX9_stream_108 (fun x12 => ?_)
  refine j_iload (pc := 109) 0 dX9_stream_109 rfl ?_
  refine j_iadd (pc := 111) dX9_stream_111 ?_
  refine j_iastore (pc := 112) dX9_stream_112 (fun z13 => ?_)
  exact J.sub [2, 3, 4, 7, 8, 1] rfl ((j_X9_stream_B113 hL14) r0 r1 v2 v5 v6 t0 z13)
theorem j_X9_stream_B53 {l : Launch} {Γ : Am} {k14 : Nat → Nat → Int32 → Int32 → Int32 → Int32 → Hp → Option (Unit × Hp)} (hL14 : ∀ (r0 : Nat) (r1 : Nat) (v2 : Int32) (v3 : Int32) (v4 : Int32) (v5 : Int32) (z : Hp), J l Γ mi_X9_stream cvV 0 0 14 [(0, .ref (mB Γ + r0)), (1, .ref (mB Γ + r1)), (2, .int v2), (3, .int v3), (4, .int v4), (5, .int v5)] [] z (k14 r0 r1 v2 v3 v4 v5 z)) : ∀ (r0 : Nat) (r1 : Nat) (v2 : Int32) (v3 : Int32) (v4 : Int32) (v5 : Int32) (v6 : Int32) (z : Hp), J l Γ mi_X9_stream cvV 0 0 53 [(0, .ref (mB Γ + r0)), (1, .ref (mB Γ + r1)), (2, .int v2), (3, .int v3), (4, .int v4), (5, .int v5), (6, .int v6)] [] z (m_X9_stream_B53 k14 r0 r1 v2 v3 v4 v5 v6 z) := by
  intro r0 r1 v2 v3 v4 v5 v6 z
  unfold m_X9_stream_B53
  refine j_iconst (pc := 53) (v := 0) dX9_stream_53 (by decide) ?_
  exact J.sub [0, 1, 2, 3, 4, 5, 6] rfl ((j_X9_stream_B54 hL14) r0 r1 v2 v3 v4 v5 v6 0 z)
theorem j_X9_stream_L14 {l : Launch} {Γ : Am}   : ∀ (f : Nat), ∀ (r0 : Nat) (r1 : Nat) (v2 : Int32) (v3 : Int32) (v4 : Int32) (v5 : Int32) (z : Hp), J l Γ mi_X9_stream cvV 0 0 14 [(0, .ref (mB Γ + r0)), (1, .ref (mB Γ + r1)), (2, .int v2), (3, .int v3), (4, .int v4), (5, .int v5)] [] z (m_X9_stream_L14  f r0 r1 v2 v3 v4 v5 z) := by
  intro f
  induction f with
  | zero => intro r0 r1 v2 v3 v4 v5 z; exact J.none
  | succ f hL14 =>
    intro r0 r1 v2 v3 v4 v5 z
    rw [m_X9_stream_L14]
    refine j_iload (pc := 14) 5 dX9_stream_14 rfl ?_
    refine j_bipush (pc := 16) (v := 12) dX9_stream_16 (by decide) ?_
    refine j_icmp_ge (pc := 18) 131 dX9_stream_18 (by decide) ?_ ?_
    · exact j_return (pc := 131) dX9_stream_131 rfl
    refine j_bipush (pc := 21) (v := 12) dX9_stream_21 (by decide) ?_
    refine j_iload_n (pc := 23) 2 dX9_stream_23 rfl rfl ?_
    refine j_imul (pc := 24) dX9_stream_24 ?_
    refine j_iload (pc := 25) 5 dX9_stream_25 rfl ?_
    refine j_iadd (pc := 27) dX9_stream_27 ?_
    refine j_istore (pc := 28) (lv2 := [(6, .int ((12 * v2) + v5)), (0, .ref (mB Γ + r0)), (1, .ref (mB Γ + r1)), (2, .int v2), (3, .int v3), (4, .int v4), (5, .int v5)]) dX9_stream_28 (by decide) rfl ?_
    refine j_aload_n (pc := 30) 2 dX9_stream_30 rfl rfl ?_
    refine j_getR (pc := 31) ok_X8 (by decide) rfl w_312 dX9_stream_31 (fun a14 => ?_)
    refine j_iload (pc := 34) 0 dX9_stream_34 rfl ?_
    refine j_iaload (pc := 36) dX9_stream_36 (fun x15 => ?_)
    refine j_if_ne (pc := 37) 53 dX9_stream_37 (by decide) ?_ ?_
    · exact J.sub [1, 2, 3, 4, 5, 6, 0] rfl ((j_X9_stream_B53 hL14) r0 r1 v2 v3 v4 v5 ((12 * v2) + v5) z)
    refine j_aload_n (pc := 40) 2 dX9_stream_40 rfl rfl ?_
    refine j_iload (pc := 41) 0 dX9_stream_41 rfl ?_
    refine j_isC (fun h18 => ?_)
    refine j_callV_I (pc := 43) (as := [.int ((12 * v2) + v5)]) (mc2 := 0) (ms2 := 0) (ct_X8_isFrozen _ _ _) h18 rfl cw_X9_stream_72 dX9_stream_43 (Nat.le_of_ble_eq_true rfl) rfl (by decide) (by decide) (fun x17 z16 => ?_)
    refine j_if_ne (pc := 46) 53 dX9_stream_46 (by decide) ?_ ?_
    · exact J.sub [1, 2, 3, 4, 5, 6, 0] rfl ((j_X9_stream_B53 hL14) r0 r1 v2 v3 v4 v5 ((12 * v2) + v5) z16)
    refine j_iconst (pc := 49) (v := 1) dX9_stream_49 (by decide) ?_
    refine j_goto (pc := 50) 54 dX9_stream_50 (by decide) ?_
    exact J.sub [1, 2, 3, 4, 5, 6, 0] rfl ((j_X9_stream_B54 hL14) r0 r1 v2 v3 v4 v5 ((12 * v2) + v5) 1 z16)
theorem ct_X9_stream {l : Launch} {Γ : Am} (r0 : Nat) (r1 : Nat) (v2 : Int32) (z : Hp) : Ct l Γ yX9_stream mi_X9_stream cvV [.ref (mB Γ + r0), .ref (mB Γ + r1), .int v2] z (m_X9_stream r0 r1 v2 z) := by
  refine Ct.ofJ (by decide) ⟨rfl, rfl⟩ (Nat.le_of_ble_eq_true rfl) ?_
  unfold m_X9_stream
  show J l Γ mi_X9_stream cvV 0 0 0 [(0, .ref (mB Γ + r0)), (1, .ref (mB Γ + r1)), (2, .int v2)] [] z _
  refine j_aload_n (pc := 0) 1 dX9_stream_0 rfl rfl ?_
  refine j_getR (pc := 1) ok_X8 (by decide) rfl w_290 dX9_stream_1 (fun a19 => ?_)
  refine j_getI (pc := 4) ok_X7 (by decide) rfl w_159 dX9_stream_4 (fun x20 => ?_)
  refine j_istore_n (pc := 7) (lv2 := [(3, .int x20), (0, .ref (mB Γ + r0)), (1, .ref (mB Γ + r1)), (2, .int v2)]) dX9_stream_7 rfl (by decide) rfl ?_
  refine j_iconst (pc := 8) (v := 1) dX9_stream_8 (by decide) ?_
  refine j_istore (pc := 9) (lv2 := [(4, .int 1), (3, .int x20), (0, .ref (mB Γ + r0)), (1, .ref (mB Γ + r1)), (2, .int v2)]) dX9_stream_9 (by decide) rfl ?_
  refine j_iconst (pc := 11) (v := 0) dX9_stream_11 (by decide) ?_
  refine j_istore (pc := 12) (lv2 := [(5, .int 0), (4, .int 1), (3, .int x20), (0, .ref (mB Γ + r0)), (1, .ref (mB Γ + r1)), (2, .int v2)]) dX9_stream_12 (by decide) rfl ?_
  exact J.sub [3, 4, 5, 2, 1, 0] rfl ((j_X9_stream_L14 FU) r0 r1 v2 x20 1 0 z)
theorem dX9_wanted_0 : decode cX9_wanted 0 = .ok (.aload_n 0, 1) := by decide +kernel
theorem dX9_wanted_1 : decode cX9_wanted 1 = .ok (.getfield 101, 3) := by decide +kernel
theorem dX9_wanted_4 : decode cX9_wanted 4 = .ok (.getfield 117, 3) := by decide +kernel
theorem dX9_wanted_7 : decode cX9_wanted 7 = .ok (.iload_n 1, 1) := by decide +kernel
theorem dX9_wanted_8 : decode cX9_wanted 8 = .ok (.iaload, 1) := by decide +kernel
theorem dX9_wanted_9 : decode cX9_wanted 9 = .ok (.istore_n 2, 1) := by decide +kernel
theorem dX9_wanted_10 : decode cX9_wanted 10 = .ok (.aload_n 0, 1) := by decide +kernel
theorem dX9_wanted_11 : decode cX9_wanted 11 = .ok (.getfield 101, 3) := by decide +kernel
theorem dX9_wanted_14 : decode cX9_wanted 14 = .ok (.getfield 126, 3) := by decide +kernel
theorem dX9_wanted_17 : decode cX9_wanted 17 = .ok (.iload_n 1, 1) := by decide +kernel
theorem dX9_wanted_18 : decode cX9_wanted 18 = .ok (.iaload, 1) := by decide +kernel
theorem dX9_wanted_19 : decode cX9_wanted 19 = .ok (.ifCond .eq 12, 3) := by decide +kernel
theorem dX9_wanted_22 : decode cX9_wanted 22 = .ok (.aload_n 0, 1) := by decide +kernel
theorem dX9_wanted_23 : decode cX9_wanted 23 = .ok (.getfield 69, 3) := by decide +kernel
theorem dX9_wanted_26 : decode cX9_wanted 26 = .ok (.iload_n 2, 1) := by decide +kernel
theorem dX9_wanted_27 : decode cX9_wanted 27 = .ok (.iaload, 1) := by decide +kernel
theorem dX9_wanted_28 : decode cX9_wanted 28 = .ok (.ifCond .eq 5, 3) := by decide +kernel
theorem dX9_wanted_31 : decode cX9_wanted 31 = .ok (.iconst 0, 1) := by decide +kernel
theorem dX9_wanted_32 : decode cX9_wanted 32 = .ok (.ireturn, 1) := by decide +kernel
theorem dX9_wanted_33 : decode cX9_wanted 33 = .ok (.iconst 0, 1) := by decide +kernel
theorem dX9_wanted_34 : decode cX9_wanted 34 = .ok (.aload_n 0, 1) := by decide +kernel
theorem dX9_wanted_35 : decode cX9_wanted 35 = .ok (.getfield 83, 3) := by decide +kernel
theorem dX9_wanted_38 : decode cX9_wanted 38 = .ok (.iload_n 2, 1) := by decide +kernel
theorem dX9_wanted_39 : decode cX9_wanted 39 = .ok (.iaload, 1) := by decide +kernel
theorem dX9_wanted_40 : decode cX9_wanted 40 = .ok (.aload_n 0, 1) := by decide +kernel
theorem dX9_wanted_41 : decode cX9_wanted 41 = .ok (.getfield 101, 3) := by decide +kernel
theorem dX9_wanted_44 : decode cX9_wanted 44 = .ok (.getfield 129, 3) := by decide +kernel
theorem dX9_wanted_47 : decode cX9_wanted 47 = .ok (.iload_n 1, 1) := by decide +kernel
theorem dX9_wanted_48 : decode cX9_wanted 48 = .ok (.iaload, 1) := by decide +kernel
theorem dX9_wanted_49 : decode cX9_wanted 49 = .ok (.isub, 1) := by decide +kernel
theorem dX9_wanted_50 : decode cX9_wanted 50 = .ok (.invokestatic 132, 3) := by decide +kernel
theorem dX9_wanted_53 : decode cX9_wanted 53 = .ok (.aload_n 0, 1) := by decide +kernel
theorem dX9_wanted_54 : decode cX9_wanted 54 = .ok (.getfield 101, 3) := by decide +kernel
theorem dX9_wanted_57 : decode cX9_wanted 57 = .ok (.getfield 135, 3) := by decide +kernel
theorem dX9_wanted_60 : decode cX9_wanted 60 = .ok (.iload_n 1, 1) := by decide +kernel
theorem dX9_wanted_61 : decode cX9_wanted 61 = .ok (.iaload, 1) := by decide +kernel
theorem dX9_wanted_62 : decode cX9_wanted 62 = .ok (.imul, 1) := by decide +kernel
theorem dX9_wanted_63 : decode cX9_wanted 63 = .ok (.bipush 100, 2) := by decide +kernel
theorem dX9_wanted_65 : decode cX9_wanted 65 = .ok (.idiv, 1) := by decide +kernel
theorem dX9_wanted_66 : decode cX9_wanted 66 = .ok (.ireturn, 1) := by decide +kernel
theorem cw_X9_wanted_132 : CwS mi_X9_wanted mi_J9_max_7cf53 yJ9_max_7cf53 132 2 := ⟨⟨w_833, w_834, w_109, w_835⟩, ⟨by decide, by decide⟩, by decide +kernel, by decide, by decide⟩
theorem ct_X9_wanted {l : Launch} {Γ : Am} (r0 : Nat) (v1 : Int32) (z : Hp) : Ct l Γ yX9_wanted mi_X9_wanted cvI [.ref (mB Γ + r0), .int v1] z (m_X9_wanted r0 v1 z) := by
  refine Ct.ofJ (by decide) ⟨rfl, rfl⟩ (Nat.le_of_ble_eq_true rfl) ?_
  unfold m_X9_wanted
  show J l Γ mi_X9_wanted cvI 0 0 0 [(0, .ref (mB Γ + r0)), (1, .int v1)] [] z _
  refine j_aload_n (pc := 0) 0 dX9_wanted_0 rfl rfl ?_
  refine j_getR (pc := 1) ok_X8 (by decide) rfl w_296 dX9_wanted_1 (fun a1 => ?_)
  refine j_getR (pc := 4) ok_X3 (by decide) rfl w_185 dX9_wanted_4 (fun a2 => ?_)
  refine j_iload_n (pc := 7) 1 dX9_wanted_7 rfl rfl ?_
  refine j_iaload (pc := 8) dX9_wanted_8 (fun x3 => ?_)
  refine j_istore_n (pc := 9) (lv2 := [(2, .int x3), (0, .ref (mB Γ + r0)), (1, .int v1)]) dX9_wanted_9 rfl (by decide) rfl ?_
  refine j_aload_n (pc := 10) 1 dX9_wanted_10 rfl rfl ?_
  refine j_getR (pc := 11) ok_X8 (by decide) rfl w_296 dX9_wanted_11 (fun a4 => ?_)
  refine j_getR (pc := 14) ok_X3 (by decide) rfl w_194 dX9_wanted_14 (fun a5 => ?_)
  refine j_iload_n (pc := 17) 2 dX9_wanted_17 rfl rfl ?_
  refine j_iaload (pc := 18) dX9_wanted_18 (fun x6 => ?_)
  refine j_if_eq (pc := 19) 31 dX9_wanted_19 (by decide) ?_ ?_
  · refine j_iconst (pc := 31) (v := 0) dX9_wanted_31 (by decide) ?_
    exact j_ireturn (pc := 32) dX9_wanted_32 rfl rfl
  refine j_aload_n (pc := 22) 1 dX9_wanted_22 rfl rfl ?_
  refine j_getR (pc := 23) ok_X8 (by decide) rfl w_312 dX9_wanted_23 (fun a7 => ?_)
  refine j_iload_n (pc := 26) 0 dX9_wanted_26 rfl rfl ?_
  refine j_iaload (pc := 27) dX9_wanted_27 (fun x8 => ?_)
  refine j_if_eq (pc := 28) 33 dX9_wanted_28 (by decide) ?_ ?_
  · refine j_iconst (pc := 33) (v := 0) dX9_wanted_33 (by decide) ?_
    refine j_aload_n (pc := 34) 1 dX9_wanted_34 rfl rfl ?_
    refine j_getR (pc := 35) ok_X8 (by decide) rfl w_306 dX9_wanted_35 (fun a9 => ?_)
    refine j_iload_n (pc := 38) 0 dX9_wanted_38 rfl rfl ?_
    refine j_iaload (pc := 39) dX9_wanted_39 (fun x10 => ?_)
    refine j_aload_n (pc := 40) 1 dX9_wanted_40 rfl rfl ?_
    refine j_getR (pc := 41) ok_X8 (by decide) rfl w_296 dX9_wanted_41 (fun a11 => ?_)
    refine j_getR (pc := 44) ok_X3 (by decide) rfl w_187 dX9_wanted_44 (fun a12 => ?_)
    refine j_iload_n (pc := 47) 2 dX9_wanted_47 rfl rfl ?_
    refine j_iaload (pc := 48) dX9_wanted_48 (fun x13 => ?_)
    refine j_isub (pc := 49) dX9_wanted_49 ?_
    refine j_callS_I (pc := 50) (as := [.int 0, .int (x10 - x13)]) (mc2 := 0) (ms2 := 0) (ct_J9_max_7cf53 _ _ _) cw_X9_wanted_132 dX9_wanted_50 (Nat.le_of_ble_eq_true rfl) rfl (by decide) (by decide) (fun x15 z14 => ?_)
    refine j_aload_n (pc := 53) 1 dX9_wanted_53 rfl rfl ?_
    refine j_getR (pc := 54) ok_X8 (by decide) rfl w_296 dX9_wanted_54 (fun a16 => ?_)
    refine j_getR (pc := 57) ok_X3 (by decide) rfl w_190 dX9_wanted_57 (fun a17 => ?_)
    refine j_iload_n (pc := 60) 2 dX9_wanted_60 rfl rfl ?_
    refine j_iaload (pc := 61) dX9_wanted_61 (fun x18 => ?_)
    refine j_imul (pc := 62) dX9_wanted_62 ?_
    refine j_bipush (pc := 63) (v := 100) dX9_wanted_63 (by decide) ?_
    refine j_idiv (pc := 65) dX9_wanted_65 (by decide) ?_
    exact j_ireturn (pc := 66) dX9_wanted_66 rfl rfl
  refine j_iconst (pc := 31) (v := 0) dX9_wanted_31 (by decide) ?_
  exact j_ireturn (pc := 32) dX9_wanted_32 rfl rfl
theorem dX9_takeByPipes_0 : decode cX9_takeByPipes 0 = .ok (.iconst 0, 1) := by decide +kernel
theorem dX9_takeByPipes_1 : decode cX9_takeByPipes 1 = .ok (.istore_n 2, 1) := by decide +kernel
theorem dX9_takeByPipes_2 : decode cX9_takeByPipes 2 = .ok (.iconst 0, 1) := by decide +kernel
theorem dX9_takeByPipes_3 : decode cX9_takeByPipes 3 = .ok (.istore_n 3, 1) := by decide +kernel
theorem dX9_takeByPipes_4 : decode cX9_takeByPipes 4 = .ok (.iload_n 3, 1) := by decide +kernel
theorem dX9_takeByPipes_5 : decode cX9_takeByPipes 5 = .ok (.aload_n 1, 1) := by decide +kernel
theorem dX9_takeByPipes_6 : decode cX9_takeByPipes 6 = .ok (.getfield 101, 3) := by decide +kernel
theorem dX9_takeByPipes_9 : decode cX9_takeByPipes 9 = .ok (.getfield 105, 3) := by decide +kernel
theorem dX9_takeByPipes_12 : decode cX9_takeByPipes 12 = .ok (.if_icmp .ge 29, 3) := by decide +kernel
theorem dX9_takeByPipes_15 : decode cX9_takeByPipes 15 = .ok (.aload_n 0, 1) := by decide +kernel
theorem dX9_takeByPipes_16 : decode cX9_takeByPipes 16 = .ok (.getfield 18, 3) := by decide +kernel
theorem dX9_takeByPipes_19 : decode cX9_takeByPipes 19 = .ok (.iload_n 3, 1) := by decide +kernel
theorem dX9_takeByPipes_20 : decode cX9_takeByPipes 20 = .ok (.aload_n 1, 1) := by decide +kernel
theorem dX9_takeByPipes_21 : decode cX9_takeByPipes 21 = .ok (.iload_n 3, 1) := by decide +kernel
theorem dX9_takeByPipes_22 : decode cX9_takeByPipes 22 = .ok (.invokestatic 110, 3) := by decide +kernel
theorem dX9_takeByPipes_25 : decode cX9_takeByPipes 25 = .ok (.iastore, 1) := by decide +kernel
theorem dX9_takeByPipes_26 : decode cX9_takeByPipes 26 = .ok (.iload_n 2, 1) := by decide +kernel
theorem dX9_takeByPipes_27 : decode cX9_takeByPipes 27 = .ok (.aload_n 0, 1) := by decide +kernel
theorem dX9_takeByPipes_28 : decode cX9_takeByPipes 28 = .ok (.getfield 18, 3) := by decide +kernel
theorem dX9_takeByPipes_31 : decode cX9_takeByPipes 31 = .ok (.iload_n 3, 1) := by decide +kernel
theorem dX9_takeByPipes_32 : decode cX9_takeByPipes 32 = .ok (.iaload, 1) := by decide +kernel
theorem dX9_takeByPipes_33 : decode cX9_takeByPipes 33 = .ok (.iadd, 1) := by decide +kernel
theorem dX9_takeByPipes_34 : decode cX9_takeByPipes 34 = .ok (.istore_n 2, 1) := by decide +kernel
theorem dX9_takeByPipes_35 : decode cX9_takeByPipes 35 = .ok (.iinc 3 1, 3) := by decide +kernel
theorem dX9_takeByPipes_38 : decode cX9_takeByPipes 38 = .ok (.goto (-34), 3) := by decide +kernel
theorem dX9_takeByPipes_41 : decode cX9_takeByPipes 41 = .ok (.iconst 0, 1) := by decide +kernel
theorem dX9_takeByPipes_42 : decode cX9_takeByPipes 42 = .ok (.istore_n 3, 1) := by decide +kernel
theorem dX9_takeByPipes_43 : decode cX9_takeByPipes 43 = .ok (.iload_n 3, 1) := by decide +kernel
theorem dX9_takeByPipes_44 : decode cX9_takeByPipes 44 = .ok (.aload_n 1, 1) := by decide +kernel
theorem dX9_takeByPipes_45 : decode cX9_takeByPipes 45 = .ok (.getfield 101, 3) := by decide +kernel
theorem dX9_takeByPipes_48 : decode cX9_takeByPipes 48 = .ok (.getfield 105, 3) := by decide +kernel
theorem dX9_takeByPipes_51 : decode cX9_takeByPipes 51 = .ok (.if_icmp .ge 95, 3) := by decide +kernel
theorem dX9_takeByPipes_54 : decode cX9_takeByPipes 54 = .ok (.aload_n 0, 1) := by decide +kernel
theorem dX9_takeByPipes_55 : decode cX9_takeByPipes 55 = .ok (.getfield 18, 3) := by decide +kernel
theorem dX9_takeByPipes_58 : decode cX9_takeByPipes 58 = .ok (.iload_n 3, 1) := by decide +kernel
theorem dX9_takeByPipes_59 : decode cX9_takeByPipes 59 = .ok (.iaload, 1) := by decide +kernel
theorem dX9_takeByPipes_60 : decode cX9_takeByPipes 60 = .ok (.istore 4, 2) := by decide +kernel
theorem dX9_takeByPipes_62 : decode cX9_takeByPipes 62 = .ok (.iload_n 2, 1) := by decide +kernel
theorem dX9_takeByPipes_63 : decode cX9_takeByPipes 63 = .ok (.aload_n 1, 1) := by decide +kernel
theorem dX9_takeByPipes_64 : decode cX9_takeByPipes 64 = .ok (.getfield 114, 3) := by decide +kernel
theorem dX9_takeByPipes_67 : decode cX9_takeByPipes 67 = .ok (.if_icmp .le 18, 3) := by decide +kernel
theorem dX9_takeByPipes_70 : decode cX9_takeByPipes 70 = .ok (.iload_n 2, 1) := by decide +kernel
theorem dX9_takeByPipes_71 : decode cX9_takeByPipes 71 = .ok (.ifCond .le 14, 3) := by decide +kernel
theorem dX9_takeByPipes_74 : decode cX9_takeByPipes 74 = .ok (.iload 4, 2) := by decide +kernel
theorem dX9_takeByPipes_76 : decode cX9_takeByPipes 76 = .ok (.aload_n 1, 1) := by decide +kernel
theorem dX9_takeByPipes_77 : decode cX9_takeByPipes 77 = .ok (.getfield 114, 3) := by decide +kernel
theorem dX9_takeByPipes_80 : decode cX9_takeByPipes 80 = .ok (.imul, 1) := by decide +kernel
theorem dX9_takeByPipes_81 : decode cX9_takeByPipes 81 = .ok (.iload_n 2, 1) := by decide +kernel
theorem dX9_takeByPipes_82 : decode cX9_takeByPipes 82 = .ok (.idiv, 1) := by decide +kernel
theorem dX9_takeByPipes_83 : decode cX9_takeByPipes 83 = .ok (.istore 4, 2) := by decide +kernel
theorem dX9_takeByPipes_85 : decode cX9_takeByPipes 85 = .ok (.aload_n 0, 1) := by decide +kernel
theorem dX9_takeByPipes_86 : decode cX9_takeByPipes 86 = .ok (.getfield 15, 3) := by decide +kernel
theorem dX9_takeByPipes_89 : decode cX9_takeByPipes 89 = .ok (.aload_n 1, 1) := by decide +kernel
theorem dX9_takeByPipes_90 : decode cX9_takeByPipes 90 = .ok (.getfield 101, 3) := by decide +kernel
theorem dX9_takeByPipes_93 : decode cX9_takeByPipes 93 = .ok (.getfield 117, 3) := by decide +kernel
theorem dX9_takeByPipes_96 : decode cX9_takeByPipes 96 = .ok (.iload_n 3, 1) := by decide +kernel
theorem dX9_takeByPipes_97 : decode cX9_takeByPipes 97 = .ok (.iaload, 1) := by decide +kernel
theorem dX9_takeByPipes_98 : decode cX9_takeByPipes 98 = .ok (.dup2, 1) := by decide +kernel
theorem dX9_takeByPipes_99 : decode cX9_takeByPipes 99 = .ok (.iaload, 1) := by decide +kernel
theorem dX9_takeByPipes_100 : decode cX9_takeByPipes 100 = .ok (.iload 4, 2) := by decide +kernel
theorem dX9_takeByPipes_102 : decode cX9_takeByPipes 102 = .ok (.isub, 1) := by decide +kernel
theorem dX9_takeByPipes_103 : decode cX9_takeByPipes 103 = .ok (.iastore, 1) := by decide +kernel
theorem dX9_takeByPipes_104 : decode cX9_takeByPipes 104 = .ok (.aload_n 1, 1) := by decide +kernel
theorem dX9_takeByPipes_105 : decode cX9_takeByPipes 105 = .ok (.getfield 101, 3) := by decide +kernel
theorem dX9_takeByPipes_108 : decode cX9_takeByPipes 108 = .ok (.getfield 120, 3) := by decide +kernel
theorem dX9_takeByPipes_111 : decode cX9_takeByPipes 111 = .ok (.iload_n 3, 1) := by decide +kernel
theorem dX9_takeByPipes_112 : decode cX9_takeByPipes 112 = .ok (.iload 4, 2) := by decide +kernel
theorem dX9_takeByPipes_114 : decode cX9_takeByPipes 114 = .ok (.iastore, 1) := by decide +kernel
theorem dX9_takeByPipes_115 : decode cX9_takeByPipes 115 = .ok (.aload_n 1, 1) := by decide +kernel
theorem dX9_takeByPipes_116 : decode cX9_takeByPipes 116 = .ok (.getfield 101, 3) := by decide +kernel
theorem dX9_takeByPipes_119 : decode cX9_takeByPipes 119 = .ok (.getfield 123, 3) := by decide +kernel
theorem dX9_takeByPipes_122 : decode cX9_takeByPipes 122 = .ok (.iload_n 3, 1) := by decide +kernel
theorem dX9_takeByPipes_123 : decode cX9_takeByPipes 123 = .ok (.dup2, 1) := by decide +kernel
theorem dX9_takeByPipes_124 : decode cX9_takeByPipes 124 = .ok (.iaload, 1) := by decide +kernel
theorem dX9_takeByPipes_125 : decode cX9_takeByPipes 125 = .ok (.iload 4, 2) := by decide +kernel
theorem dX9_takeByPipes_127 : decode cX9_takeByPipes 127 = .ok (.iadd, 1) := by decide +kernel
theorem dX9_takeByPipes_128 : decode cX9_takeByPipes 128 = .ok (.iastore, 1) := by decide +kernel
theorem dX9_takeByPipes_129 : decode cX9_takeByPipes 129 = .ok (.aload_n 1, 1) := by decide +kernel
theorem dX9_takeByPipes_130 : decode cX9_takeByPipes 130 = .ok (.getfield 98, 3) := by decide +kernel
theorem dX9_takeByPipes_133 : decode cX9_takeByPipes 133 = .ok (.iconst 1, 1) := by decide +kernel
theorem dX9_takeByPipes_134 : decode cX9_takeByPipes 134 = .ok (.dup2, 1) := by decide +kernel
theorem dX9_takeByPipes_135 : decode cX9_takeByPipes 135 = .ok (.iaload, 1) := by decide +kernel
theorem dX9_takeByPipes_136 : decode cX9_takeByPipes 136 = .ok (.iload 4, 2) := by decide +kernel
theorem dX9_takeByPipes_138 : decode cX9_takeByPipes 138 = .ok (.iadd, 1) := by decide +kernel
theorem dX9_takeByPipes_139 : decode cX9_takeByPipes 139 = .ok (.iastore, 1) := by decide +kernel
theorem dX9_takeByPipes_140 : decode cX9_takeByPipes 140 = .ok (.iinc 3 1, 3) := by decide +kernel
theorem dX9_takeByPipes_143 : decode cX9_takeByPipes 143 = .ok (.goto (-100), 3) := by decide +kernel
theorem dX9_takeByPipes_146 : decode cX9_takeByPipes 146 = .ok (.return_, 1) := by decide +kernel
theorem cw_X9_takeByPipes_110 : CwS mi_X9_takeByPipes mi_X9_wanted yX9_wanted 110 2 := ⟨⟨w_830, w_831, w_104, w_832⟩, ⟨by decide, by decide⟩, by decide +kernel, by decide, by decide⟩
theorem j_X9_takeByPipes_B85 {l : Launch} {Γ : Am} {k43 : Nat → Nat → Int32 → Int32 → Hp → Option (Unit × Hp)} (hL43 : ∀ (r0 : Nat) (r1 : Nat) (v2 : Int32) (v3 : Int32) (z : Hp), J l Γ mi_X9_takeByPipes cvV 0 0 43 [(0, .ref (mB Γ + r0)), (1, .ref (mB Γ + r1)), (2, .int v2), (3, .int v3)] [] z (k43 r0 r1 v2 v3 z)) : ∀ (r0 : Nat) (r1 : Nat) (v2 : Int32) (v3 : Int32) (v4 : Int32) (z : Hp), J l Γ mi_X9_takeByPipes cvV 0 0 85 [(0, .ref (mB Γ + r0)), (1, .ref (mB Γ + r1)), (2, .int v2), (3, .int v3), (4, .int v4)] [] z (m_X9_takeByPipes_B85 k43 r0 r1 v2 v3 v4 z) := by
  intro r0 r1 v2 v3 v4 z
  unfold m_X9_takeByPipes_B85
  refine j_aload_n (pc := 85) 0 dX9_takeByPipes_85 rfl rfl ?_
  refine j_getR (pc := 86) ok_X9 (by decide) rfl w_445 dX9_takeByPipes_86 (fun a1 => ?_)
  refine j_aload_n (pc := 89) 1 dX9_takeByPipes_89 rfl rfl ?_
  refine j_getR (pc := 90) ok_X8 (by decide) rfl w_296 dX9_takeByPipes_90 (fun a2 => ?_)
  refine j_getR (pc := 93) ok_X3 (by decide) rfl w_185 dX9_takeByPipes_93 (fun a3 => ?_)
  refine j_iload_n (pc := 96) 3 dX9_takeByPipes_96 rfl rfl ?_
  refine j_iaload (pc := 97) dX9_takeByPipes_97 (fun x4 => ?_)
  refine j_dup2 (pc := 98) dX9_takeByPipes_98 rfl rfl ?_
  refine j_iaload (pc := 99) dX9_takeByPipes_99 (fun x5 => ?_)
  refine j_iload (pc := 100) 4 dX9_takeByPipes_100 rfl ?_
  refine j_isub (pc := 102) dX9_takeByPipes_102 ?_
  refine j_iastore (pc := 103) dX9_takeByPipes_103 (fun z6 => ?_)
  refine j_aload_n (pc := 104) 1 dX9_takeByPipes_104 rfl rfl ?_
  refine j_getR (pc := 105) ok_X8 (by decide) rfl w_296 dX9_takeByPipes_105 (fun a7 => ?_)
  refine j_getR (pc := 108) ok_X3 (by decide) rfl w_196 dX9_takeByPipes_108 (fun a8 => ?_)
  refine j_iload_n (pc := 111) 3 dX9_takeByPipes_111 rfl rfl ?_
  refine j_iload (pc := 112) 4 dX9_takeByPipes_112 rfl ?_
  refine j_iastore (pc := 114) dX9_takeByPipes_114 (fun z9 => ?_)
  refine j_aload_n (pc := 115) 1 dX9_takeByPipes_115 rfl rfl ?_
  refine j_getR (pc := 116) ok_X8 (by decide) rfl w_296 dX9_takeByPipes_116 (fun a10 => ?_)
  refine j_getR (pc := 119) ok_X3 (by decide) rfl w_198 dX9_takeByPipes_119 (fun a11 => ?_)
  refine j_iload_n (pc := 122) 3 dX9_takeByPipes_122 rfl rfl ?_
  refine j_dup2 (pc := 123) dX9_takeByPipes_123 rfl rfl ?_
  refine j_iaload (pc := 124) dX9_takeByPipes_124 (fun x12 => ?_)
  refine j_iload (pc := 125) 4 dX9_takeByPipes_125 rfl ?_
  refine j_iadd (pc := 127) dX9_takeByPipes_127 ?_
  refine j_iastore (pc := 128) dX9_takeByPipes_128 (fun z13 => ?_)
  refine j_aload_n (pc := 129) 1 dX9_takeByPipes_129 rfl rfl ?_
  refine j_getR (pc := 130) ok_X8 (by decide) rfl w_319 dX9_takeByPipes_130 (fun a14 => ?_)
  refine j_iconst (pc := 133) (v := 1) dX9_takeByPipes_133 (by decide) ?_
  refine j_dup2 (pc := 134) dX9_takeByPipes_134 rfl rfl ?_
  refine j_iaload (pc := 135) dX9_takeByPipes_135 (fun x15 => ?_)
  refine j_iload (pc := 136) 4 dX9_takeByPipes_136 rfl ?_
  refine j_iadd (pc := 138) dX9_takeByPipes_138 ?_
  refine j_iastore (pc := 139) dX9_takeByPipes_139 (fun z16 => ?_)
  refine j_iinc (pc := 140) (n0 := 3) (v0 := v3 + 1) (lv2 := [(3, .int (v3 + 1)), (0, .ref (mB Γ + r0)), (1, .ref (mB Γ + r1)), (2, .int v2), (4, .int v4)]) dX9_takeByPipes_140 rfl rfl (by decide) rfl ?_
  refine j_goto (pc := 143) 43 dX9_takeByPipes_143 (by decide) ?_
  exact J.sub [1, 2, 3, 0] rfl (hL43 r0 r1 v2 (v3 + 1) z16)
theorem j_X9_takeByPipes_L43 {l : Launch} {Γ : Am}   : ∀ (f : Nat), ∀ (r0 : Nat) (r1 : Nat) (v2 : Int32) (v3 : Int32) (z : Hp), J l Γ mi_X9_takeByPipes cvV 0 0 43 [(0, .ref (mB Γ + r0)), (1, .ref (mB Γ + r1)), (2, .int v2), (3, .int v3)] [] z (m_X9_takeByPipes_L43  f r0 r1 v2 v3 z) := by
  intro f
  induction f with
  | zero => intro r0 r1 v2 v3 z; exact J.none
  | succ f hL43 =>
    intro r0 r1 v2 v3 z
    rw [m_X9_takeByPipes_L43]
    refine j_iload_n (pc := 43) 3 dX9_takeByPipes_43 rfl rfl ?_
    refine j_aload_n (pc := 44) 1 dX9_takeByPipes_44 rfl rfl ?_
    refine j_getR (pc := 45) ok_X8 (by decide) rfl w_296 dX9_takeByPipes_45 (fun a17 => ?_)
    refine j_getI (pc := 48) ok_X3 (by decide) rfl w_202 dX9_takeByPipes_48 (fun x18 => ?_)
    refine j_icmp_ge (pc := 51) 146 dX9_takeByPipes_51 (by decide) ?_ ?_
    · exact j_return (pc := 146) dX9_takeByPipes_146 rfl
    refine j_aload_n (pc := 54) 0 dX9_takeByPipes_54 rfl rfl ?_
    refine j_getR (pc := 55) ok_X9 (by decide) rfl w_446 dX9_takeByPipes_55 (fun a19 => ?_)
    refine j_iload_n (pc := 58) 3 dX9_takeByPipes_58 rfl rfl ?_
    refine j_iaload (pc := 59) dX9_takeByPipes_59 (fun x20 => ?_)
    refine j_istore (pc := 60) (lv2 := [(4, .int x20), (0, .ref (mB Γ + r0)), (1, .ref (mB Γ + r1)), (2, .int v2), (3, .int v3)]) dX9_takeByPipes_60 (by decide) rfl ?_
    refine j_iload_n (pc := 62) 3 dX9_takeByPipes_62 rfl rfl ?_
    refine j_aload_n (pc := 63) 2 dX9_takeByPipes_63 rfl rfl ?_
    refine j_getI (pc := 64) ok_X8 (by decide) rfl w_327 dX9_takeByPipes_64 (fun x21 => ?_)
    refine j_icmp_le (pc := 67) 85 dX9_takeByPipes_67 (by decide) ?_ ?_
    · exact J.sub [1, 2, 3, 4, 0] rfl ((j_X9_takeByPipes_B85 hL43) r0 r1 v2 v3 x20 z)
    refine j_iload_n (pc := 70) 3 dX9_takeByPipes_70 rfl rfl ?_
    refine j_if_le (pc := 71) 85 dX9_takeByPipes_71 (by decide) ?_ ?_
    · exact J.sub [1, 2, 3, 4, 0] rfl ((j_X9_takeByPipes_B85 hL43) r0 r1 v2 v3 x20 z)
    refine j_iload (pc := 74) 0 dX9_takeByPipes_74 rfl ?_
    refine j_aload_n (pc := 76) 2 dX9_takeByPipes_76 rfl rfl ?_
    refine j_getI (pc := 77) ok_X8 (by decide) rfl w_327 dX9_takeByPipes_77 (fun x22 => ?_)
    refine j_imul (pc := 80) dX9_takeByPipes_80 ?_
    refine j_iload_n (pc := 81) 3 dX9_takeByPipes_81 rfl rfl ?_
    refine j_ite (fun _ => J.none) (fun h23 => ?_)
    refine j_idiv (pc := 82) dX9_takeByPipes_82 h23 ?_
    refine j_istore (pc := 83) (lv2 := [(4, .int ((x20 * x22) / v2)), (0, .ref (mB Γ + r0)), (1, .ref (mB Γ + r1)), (2, .int v2), (3, .int v3)]) dX9_takeByPipes_83 (by decide) rfl ?_
    exact J.sub [1, 2, 3, 4, 0] rfl ((j_X9_takeByPipes_B85 hL43) r0 r1 v2 v3 ((x20 * x22) / v2) z)
theorem j_X9_takeByPipes_B41 {l : Launch} {Γ : Am}   : ∀ (r0 : Nat) (r1 : Nat) (v2 : Int32) (z : Hp), J l Γ mi_X9_takeByPipes cvV 0 0 41 [(0, .ref (mB Γ + r0)), (1, .ref (mB Γ + r1)), (2, .int v2)] [] z (m_X9_takeByPipes_B41  r0 r1 v2 z) := by
  intro r0 r1 v2 z
  unfold m_X9_takeByPipes_B41
  refine j_iconst (pc := 41) (v := 0) dX9_takeByPipes_41 (by decide) ?_
  refine j_istore_n (pc := 42) (lv2 := [(3, .int 0), (0, .ref (mB Γ + r0)), (1, .ref (mB Γ + r1)), (2, .int v2)]) dX9_takeByPipes_42 rfl (by decide) rfl ?_
  exact J.sub [1, 2, 3, 0] rfl ((j_X9_takeByPipes_L43 FU) r0 r1 v2 0 z)
theorem j_X9_takeByPipes_L4 {l : Launch} {Γ : Am} {k41 : Nat → Nat → Int32 → Hp → Option (Unit × Hp)} (hL41 : ∀ (r0 : Nat) (r1 : Nat) (v2 : Int32) (z : Hp), J l Γ mi_X9_takeByPipes cvV 0 0 41 [(0, .ref (mB Γ + r0)), (1, .ref (mB Γ + r1)), (2, .int v2)] [] z (k41 r0 r1 v2 z)) : ∀ (f : Nat), ∀ (r0 : Nat) (r1 : Nat) (v2 : Int32) (v3 : Int32) (z : Hp), J l Γ mi_X9_takeByPipes cvV 0 0 4 [(0, .ref (mB Γ + r0)), (1, .ref (mB Γ + r1)), (2, .int v2), (3, .int v3)] [] z (m_X9_takeByPipes_L4 k41 f r0 r1 v2 v3 z) := by
  intro f
  induction f with
  | zero => intro r0 r1 v2 v3 z; exact J.none
  | succ f hL4 =>
    intro r0 r1 v2 v3 z
    rw [m_X9_takeByPipes_L4]
    refine j_iload_n (pc := 4) 3 dX9_takeByPipes_4 rfl rfl ?_
    refine j_aload_n (pc := 5) 1 dX9_takeByPipes_5 rfl rfl ?_
    refine j_getR (pc := 6) ok_X8 (by decide) rfl w_296 dX9_takeByPipes_6 (fun a24 => ?_)
    refine j_getI (pc := 9) ok_X3 (by decide) rfl w_202 dX9_takeByPipes_9 (fun x25 => ?_)
    refine j_icmp_ge (pc := 12) 41 dX9_takeByPipes_12 (by decide) ?_ ?_
    · exact J.sub [0, 1, 2] rfl (hL41 r0 r1 v2 z)
    refine j_aload_n (pc := 15) 0 dX9_takeByPipes_15 rfl rfl ?_
    refine j_getR (pc := 16) ok_X9 (by decide) rfl w_446 dX9_takeByPipes_16 (fun a26 => ?_)
    refine j_iload_n (pc := 19) 3 dX9_takeByPipes_19 rfl rfl ?_
    refine j_aload_n (pc := 20) 1 dX9_takeByPipes_20 rfl rfl ?_
    refine j_iload_n (pc := 21) 3 dX9_takeByPipes_21 rfl rfl ?_
    refine j_callS_I (pc := 22) (as := [.ref (mB Γ + r1), .int v3]) (mc2 := 0) (ms2 := 0) (ct_X9_wanted _ _ _) cw_X9_takeByPipes_110 dX9_takeByPipes_22 (Nat.le_of_ble_eq_true rfl) rfl (by decide) (by decide) (fun x28 z27 => ?_)
    refine j_iastore (pc := 25) dX9_takeByPipes_25 (fun z29 => ?_)
    refine j_iload_n (pc := 26) 2 dX9_takeByPipes_26 rfl rfl ?_
    refine j_aload_n (pc := 27) 0 dX9_takeByPipes_27 rfl rfl ?_
    refine j_getR (pc := 28) ok_X9 (by decide) rfl w_446 dX9_takeByPipes_28 (fun a30 => ?_)
    refine j_iload_n (pc := 31) 3 dX9_takeByPipes_31 rfl rfl ?_
    refine j_iaload (pc := 32) dX9_takeByPipes_32 (fun x31 => ?_)
    refine j_iadd (pc := 33) dX9_takeByPipes_33 ?_
    refine j_istore_n (pc := 34) (lv2 := [(2, .int (v2 + x31)), (0, .ref (mB Γ + r0)), (1, .ref (mB Γ + r1)), (3, .int v3)]) dX9_takeByPipes_34 rfl (by decide) rfl ?_
    refine j_iinc (pc := 35) (n0 := 3) (v0 := v3 + 1) (lv2 := [(3, .int (v3 + 1)), (2, .int (v2 + x31)), (0, .ref (mB Γ + r0)), (1, .ref (mB Γ + r1))]) dX9_takeByPipes_35 rfl rfl (by decide) rfl ?_
    refine j_goto (pc := 38) 4 dX9_takeByPipes_38 (by decide) ?_
    exact J.sub [2, 3, 1, 0] rfl (hL4 r0 r1 (v2 + x31) (v3 + 1) z29)
theorem ct_X9_takeByPipes {l : Launch} {Γ : Am} (r0 : Nat) (r1 : Nat) (z : Hp) : Ct l Γ yX9_takeByPipes mi_X9_takeByPipes cvV [.ref (mB Γ + r0), .ref (mB Γ + r1)] z (m_X9_takeByPipes r0 r1 z) := by
  refine Ct.ofJ (by decide) ⟨rfl, rfl⟩ (Nat.le_of_ble_eq_true rfl) ?_
  unfold m_X9_takeByPipes
  show J l Γ mi_X9_takeByPipes cvV 0 0 0 [(0, .ref (mB Γ + r0)), (1, .ref (mB Γ + r1))] [] z _
  refine j_iconst (pc := 0) (v := 0) dX9_takeByPipes_0 (by decide) ?_
  refine j_istore_n (pc := 1) (lv2 := [(2, .int 0), (0, .ref (mB Γ + r0)), (1, .ref (mB Γ + r1))]) dX9_takeByPipes_1 rfl (by decide) rfl ?_
  refine j_iconst (pc := 2) (v := 0) dX9_takeByPipes_2 (by decide) ?_
  refine j_istore_n (pc := 3) (lv2 := [(3, .int 0), (2, .int 0), (0, .ref (mB Γ + r0)), (1, .ref (mB Γ + r1))]) dX9_takeByPipes_3 rfl (by decide) rfl ?_
  exact J.sub [2, 3, 1, 0] rfl ((j_X9_takeByPipes_L4 j_X9_takeByPipes_B41 FU) r0 r1 0 0 z)
