theorem dX12_pump_0 : decode cX12_pump 0 = .ok (.aload_n 0, 1) := by decide +kernel
theorem dX12_pump_1 : decode cX12_pump 1 = .ok (.invokevirtual 365, 3) := by decide +kernel
theorem dX12_pump_4 : decode cX12_pump 4 = .ok (.ifCond .ne 6, 3) := by decide +kernel
theorem dX12_pump_7 : decode cX12_pump 7 = .ok (.bipush (-6), 2) := by decide +kernel
theorem dX12_pump_9 : decode cX12_pump 9 = .ok (.ireturn, 1) := by decide +kernel
theorem dX12_pump_10 : decode cX12_pump 10 = .ok (.aload_n 0, 1) := by decide +kernel
theorem dX12_pump_11 : decode cX12_pump 11 = .ok (.getfield 13, 3) := by decide +kernel
theorem dX12_pump_14 : decode cX12_pump 14 = .ok (.bipush 12, 2) := by decide +kernel
theorem dX12_pump_16 : decode cX12_pump 16 = .ok (.iaload, 1) := by decide +kernel
theorem dX12_pump_17 : decode cX12_pump 17 = .ok (.ifCond .ne 6, 3) := by decide +kernel
theorem dX12_pump_20 : decode cX12_pump 20 = .ok (.bipush (-5), 2) := by decide +kernel
theorem dX12_pump_22 : decode cX12_pump 22 = .ok (.ireturn, 1) := by decide +kernel
theorem dX12_pump_23 : decode cX12_pump 23 = .ok (.aload_n 0, 1) := by decide +kernel
theorem dX12_pump_24 : decode cX12_pump 24 = .ok (.invokevirtual 334, 3) := by decide +kernel
theorem dX12_pump_27 : decode cX12_pump 27 = .ok (.ifCond .ne 6, 3) := by decide +kernel
theorem dX12_pump_30 : decode cX12_pump 30 = .ok (.bipush (-8), 2) := by decide +kernel
theorem dX12_pump_32 : decode cX12_pump 32 = .ok (.ireturn, 1) := by decide +kernel
theorem dX12_pump_33 : decode cX12_pump 33 = .ok (.aload_n 0, 1) := by decide +kernel
theorem dX12_pump_34 : decode cX12_pump 34 = .ok (.getfield 13, 3) := by decide +kernel
theorem dX12_pump_37 : decode cX12_pump 37 = .ok (.bipush 12, 2) := by decide +kernel
theorem dX12_pump_39 : decode cX12_pump 39 = .ok (.iconst 0, 1) := by decide +kernel
theorem dX12_pump_40 : decode cX12_pump 40 = .ok (.iastore, 1) := by decide +kernel
theorem dX12_pump_41 : decode cX12_pump 41 = .ok (.iconst 0, 1) := by decide +kernel
theorem dX12_pump_42 : decode cX12_pump 42 = .ok (.ireturn, 1) := by decide +kernel
theorem cw_X12_pump_365 : CwV mi_X12_pump mi_X12_hasShaft yX12_hasShaft RX12 365 0 := ⟨⟨w_1613, w_1615, w_81, w_108, w_1616⟩, ⟨by decide, by decide⟩, by decide +kernel, by decide, by decide⟩
theorem cw_X12_pump_334 : CwV mi_X12_pump mi_X12_isShut yX12_isShut RX12 334 0 := ⟨⟨w_1559, w_1561, w_75, w_108, w_1562⟩, ⟨by decide, by decide⟩, by decide +kernel, by decide, by decide⟩
theorem ct_X12_pump {l : Launch} {Γ : Am} (r0 : Nat) (z : Hp) : Ct l Γ yX12_pump mi_X12_pump cvI [.ref (mB Γ + r0)] z (m_X12_pump r0 z) := by
  refine Ct.ofJ (by decide) ⟨rfl, rfl⟩ (Nat.le_of_ble_eq_true rfl) ?_
  unfold m_X12_pump
  show J l Γ mi_X12_pump cvI 0 0 0 [(0, .ref (mB Γ + r0))] [] z _
  refine j_aload_n (pc := 0) 0 dX12_pump_0 rfl rfl ?_
  refine j_isC (fun h3 => ?_)
  refine j_callV_I (pc := 1) (as := []) (mc2 := 0) (ms2 := 0) (ct_X12_hasShaft _ _) h3 rfl cw_X12_pump_365 dX12_pump_1 (Nat.le_of_ble_eq_true rfl) rfl (by decide) (by decide) (fun x2 z1 => ?_)
  refine j_if_ne (pc := 4) 10 dX12_pump_4 (by decide) ?_ ?_
  · refine j_aload_n (pc := 10) 0 dX12_pump_10 rfl rfl ?_
    refine j_getR (pc := 11) ok_X12 (by decide) rfl w_1239 dX12_pump_11 (fun a4 => ?_)
    refine j_bipush (pc := 14) (v := 12) dX12_pump_14 (by decide) ?_
    refine j_iaload (pc := 16) dX12_pump_16 (fun x5 => ?_)
    refine j_if_ne (pc := 17) 23 dX12_pump_17 (by decide) ?_ ?_
    · refine j_aload_n (pc := 23) 0 dX12_pump_23 rfl rfl ?_
      refine j_isC (fun h8 => ?_)
      refine j_callV_I (pc := 24) (as := []) (mc2 := 0) (ms2 := 0) (ct_X12_isShut _ _) h8 rfl cw_X12_pump_334 dX12_pump_24 (Nat.le_of_ble_eq_true rfl) rfl (by decide) (by decide) (fun x7 z6 => ?_)
      refine j_if_ne (pc := 27) 33 dX12_pump_27 (by decide) ?_ ?_
      · refine j_aload_n (pc := 33) 0 dX12_pump_33 rfl rfl ?_
        refine j_getR (pc := 34) ok_X12 (by decide) rfl w_1239 dX12_pump_34 (fun a9 => ?_)
        refine j_bipush (pc := 37) (v := 12) dX12_pump_37 (by decide) ?_
        refine j_iconst (pc := 39) (v := 0) dX12_pump_39 (by decide) ?_
        refine j_iastore (pc := 40) dX12_pump_40 (fun z10 => ?_)
        refine j_iconst (pc := 41) (v := 0) dX12_pump_41 (by decide) ?_
        exact j_ireturn (pc := 42) dX12_pump_42 rfl rfl
      refine j_bipush (pc := 30) (v := (-8)) dX12_pump_30 (by decide) ?_
      exact j_ireturn (pc := 32) dX12_pump_32 rfl rfl
    refine j_bipush (pc := 20) (v := (-5)) dX12_pump_20 (by decide) ?_
    exact j_ireturn (pc := 22) dX12_pump_22 rfl rfl
  refine j_bipush (pc := 7) (v := (-6)) dX12_pump_7 (by decide) ?_
  exact j_ireturn (pc := 9) dX12_pump_9 rfl rfl
theorem dX12_lift_0 : decode cX12_lift 0 = .ok (.iload_n 1, 1) := by decide +kernel
theorem dX12_lift_1 : decode cX12_lift 1 = .ok (.i2l, 1) := by decide +kernel
theorem dX12_lift_2 : decode cX12_lift 2 = .ok (.lconst 0, 1) := by decide +kernel
theorem dX12_lift_3 : decode cX12_lift 3 = .ok (.ldc2_w 114, 3) := by decide +kernel
theorem dX12_lift_6 : decode cX12_lift 6 = .ok (.invokestatic 110, 3) := by decide +kernel
theorem dX12_lift_9 : decode cX12_lift 9 = .ok (.ifCond .eq 11, 3) := by decide +kernel
theorem dX12_lift_12 : decode cX12_lift 12 = .ok (.aload_n 0, 1) := by decide +kernel
theorem dX12_lift_13 : decode cX12_lift 13 = .ok (.iload_n 1, 1) := by decide +kernel
theorem dX12_lift_14 : decode cX12_lift 14 = .ok (.invokevirtual 325, 3) := by decide +kernel
theorem dX12_lift_17 : decode cX12_lift 17 = .ok (.goto 6, 3) := by decide +kernel
theorem dX12_lift_20 : decode cX12_lift 20 = .ok (.ldc_w 342, 3) := by decide +kernel
theorem dX12_lift_23 : decode cX12_lift 23 = .ok (.ireturn, 1) := by decide +kernel
theorem cw_X12_lift_110 : CwS mi_X12_lift mi_X12_in yX12_in 110 3 := ⟨⟨w_1365, w_1366, w_108, w_1367⟩, ⟨by decide, by decide⟩, by decide +kernel, by decide, by decide⟩
theorem cw_X12_lift_325 : CwV mi_X12_lift mi_X12_liftOf yX12_liftOf RX12 325 1 := ⟨⟨w_1550, w_1552, w_73, w_108, w_1553⟩, ⟨by decide, by decide⟩, by decide +kernel, by decide, by decide⟩
theorem ct_X12_lift {l : Launch} {Γ : Am} (r0 : Nat) (v1 : Int32) (z : Hp) : Ct l Γ yX12_lift mi_X12_lift cvI [.ref (mB Γ + r0), .int v1] z (m_X12_lift r0 v1 z) := by
  refine Ct.ofJ (by decide) ⟨rfl, rfl⟩ (Nat.le_of_ble_eq_true rfl) ?_
  unfold m_X12_lift
  show J l Γ mi_X12_lift cvI 0 0 0 [(0, .ref (mB Γ + r0)), (1, .int v1)] [] z _
  refine j_iload_n (pc := 0) 1 dX12_lift_0 rfl rfl ?_
  refine j_i2l (pc := 1) dX12_lift_1 ?_
  refine j_lconst (pc := 2) (v := 0) dX12_lift_2 (by decide) ?_
  refine j_ldc2 (pc := 3) (v := 11) dX12_lift_3 w_1471 ?_
  refine j_callS_I (pc := 6) (as := [.long (Int32.toInt64 v1), .long 0, .long 11]) (mc2 := 0) (ms2 := 0) (ct_X12_in _ _ _ _) cw_X12_lift_110 dX12_lift_6 (Nat.le_of_ble_eq_true rfl) rfl (by decide) (by decide) (fun x2 z1 => ?_)
  refine j_if_eq (pc := 9) 20 dX12_lift_9 (by decide) ?_ ?_
  · refine j_ldcw (pc := 20) (v := (-2000000000)) dX12_lift_20 w_1582 ?_
    exact j_ireturn (pc := 23) dX12_lift_23 rfl rfl
  refine j_aload_n (pc := 12) 0 dX12_lift_12 rfl rfl ?_
  refine j_iload_n (pc := 13) 1 dX12_lift_13 rfl rfl ?_
  refine j_isC (fun h5 => ?_)
  refine j_callV_I (pc := 14) (as := [.int v1]) (mc2 := 0) (ms2 := 0) (ct_X12_liftOf _ _ _) h5 rfl cw_X12_lift_325 dX12_lift_14 (Nat.le_of_ble_eq_true rfl) rfl (by decide) (by decide) (fun x4 z3 => ?_)
  refine j_goto (pc := 17) 23 dX12_lift_17 (by decide) ?_
  exact j_ireturn (pc := 23) dX12_lift_23 rfl rfl
theorem dX12_cracks_0 : decode cX12_cracks 0 = .ok (.iconst 0, 1) := by decide +kernel
theorem dX12_cracks_1 : decode cX12_cracks 1 = .ok (.istore_n 1, 1) := by decide +kernel
theorem dX12_cracks_2 : decode cX12_cracks 2 = .ok (.iconst 0, 1) := by decide +kernel
theorem dX12_cracks_3 : decode cX12_cracks 3 = .ok (.istore_n 2, 1) := by decide +kernel
theorem dX12_cracks_4 : decode cX12_cracks 4 = .ok (.iload_n 2, 1) := by decide +kernel
theorem dX12_cracks_5 : decode cX12_cracks 5 = .ok (.aload_n 0, 1) := by decide +kernel
theorem dX12_cracks_6 : decode cX12_cracks 6 = .ok (.getfield 13, 3) := by decide +kernel
theorem dX12_cracks_9 : decode cX12_cracks 9 = .ok (.iconst 3, 1) := by decide +kernel
theorem dX12_cracks_10 : decode cX12_cracks 10 = .ok (.iaload, 1) := by decide +kernel
theorem dX12_cracks_11 : decode cX12_cracks 11 = .ok (.if_icmp .ge 37, 3) := by decide +kernel
theorem dX12_cracks_14 : decode cX12_cracks 14 = .ok (.iload_n 1, 1) := by decide +kernel
theorem dX12_cracks_15 : decode cX12_cracks 15 = .ok (.aload_n 0, 1) := by decide +kernel
theorem dX12_cracks_16 : decode cX12_cracks 16 = .ok (.getfield 13, 3) := by decide +kernel
theorem dX12_cracks_19 : decode cX12_cracks 19 = .ok (.sipush 732, 3) := by decide +kernel
theorem dX12_cracks_22 : decode cX12_cracks 22 = .ok (.iconst 3, 1) := by decide +kernel
theorem dX12_cracks_23 : decode cX12_cracks 23 = .ok (.iload_n 2, 1) := by decide +kernel
theorem dX12_cracks_24 : decode cX12_cracks 24 = .ok (.imul, 1) := by decide +kernel
theorem dX12_cracks_25 : decode cX12_cracks 25 = .ok (.iadd, 1) := by decide +kernel
theorem dX12_cracks_26 : decode cX12_cracks 26 = .ok (.iconst 2, 1) := by decide +kernel
theorem dX12_cracks_27 : decode cX12_cracks 27 = .ok (.iadd, 1) := by decide +kernel
theorem dX12_cracks_28 : decode cX12_cracks 28 = .ok (.iaload, 1) := by decide +kernel
theorem dX12_cracks_29 : decode cX12_cracks 29 = .ok (.iconst (-1), 1) := by decide +kernel
theorem dX12_cracks_30 : decode cX12_cracks 30 = .ok (.if_icmp .ne 7, 3) := by decide +kernel
theorem dX12_cracks_33 : decode cX12_cracks 33 = .ok (.iconst 0, 1) := by decide +kernel
theorem dX12_cracks_34 : decode cX12_cracks 34 = .ok (.goto 6, 3) := by decide +kernel
theorem dX12_cracks_37 : decode cX12_cracks 37 = .ok (.iconst 1, 1) := by decide +kernel
theorem dX12_cracks_38 : decode cX12_cracks 38 = .ok (.iload_n 2, 1) := by decide +kernel
theorem dX12_cracks_39 : decode cX12_cracks 39 = .ok (.ishl, 1) := by decide +kernel
theorem dX12_cracks_40 : decode cX12_cracks 40 = .ok (.ior, 1) := by decide +kernel
theorem dX12_cracks_41 : decode cX12_cracks 41 = .ok (.istore_n 1, 1) := by decide +kernel
theorem dX12_cracks_42 : decode cX12_cracks 42 = .ok (.iinc 2 1, 3) := by decide +kernel
theorem dX12_cracks_45 : decode cX12_cracks 45 = .ok (.goto (-41), 3) := by decide +kernel
theorem dX12_cracks_48 : decode cX12_cracks 48 = .ok (.iload_n 1, 1) := by decide +kernel
theorem dX12_cracks_49 : decode cX12_cracks 49 = .ok (.ireturn, 1) := by decide +kernel
theorem j_X12_cracks_B40 {l : Launch} {Γ : Am} {k4 : Nat → Int32 → Int32 → Hp → Option (Int32 × Hp)} (hL4 : ∀ (r0 : Nat) (v1 : Int32) (v2 : Int32) (z : Hp), J l Γ mi_X12_cracks cvI 0 0 4 [(0, .ref (mB Γ + r0)), (1, .int v1), (2, .int v2)] [] z (k4 r0 v1 v2 z)) : ∀ (r0 : Nat) (v2 : Int32) (t0 : Int32) (t1 : Int32) (z : Hp), J l Γ mi_X12_cracks cvI 0 0 40 [(0, .ref (mB Γ + r0)), (2, .int v2)] [.int t0, .int t1] z (m_X12_cracks_B40 k4 r0 v2 t0 t1 z) := by
  intro r0 v2 t0 t1 z
  unfold m_X12_cracks_B40
  refine j_ior (pc := 40) dX12_cracks_40 ?_
  refine j_istore_n (pc := 41) (lv2 := [(1, .int (t1 ||| t0)), (0, .ref (mB Γ + r0)), (2, .int v2)]) dX12_cracks_41 rfl (by decide) rfl ?_
  refine j_iinc (pc := 42) (n0 := 2) (v0 := v2 + 1) (lv2 := [(2, .int (v2 + 1)), (1, .int (t1 ||| t0)), (0, .ref (mB Γ + r0))]) dX12_cracks_42 rfl rfl (by decide) rfl ?_
  refine j_goto (pc := 45) 4 dX12_cracks_45 (by decide) ?_
  exact J.sub [2, 1, 0] rfl (hL4 r0 (t1 ||| t0) (v2 + 1) z)
theorem j_X12_cracks_L4 {l : Launch} {Γ : Am}   : ∀ (f : Nat), ∀ (r0 : Nat) (v1 : Int32) (v2 : Int32) (z : Hp), J l Γ mi_X12_cracks cvI 0 0 4 [(0, .ref (mB Γ + r0)), (1, .int v1), (2, .int v2)] [] z (m_X12_cracks_L4  f r0 v1 v2 z) := by
  intro f
  induction f with
  | zero => intro r0 v1 v2 z; exact J.none
  | succ f hL4 =>
    intro r0 v1 v2 z
    rw [m_X12_cracks_L4]
    refine j_iload_n (pc := 4) 2 dX12_cracks_4 rfl rfl ?_
    refine j_aload_n (pc := 5) 0 dX12_cracks_5 rfl rfl ?_
    refine j_getR (pc := 6) ok_X12 (by decide) rfl w_1239 dX12_cracks_6 (fun a1 => ?_)
    refine j_iconst (pc := 9) (v := 3) dX12_cracks_9 (by decide) ?_
    refine j_iaload (pc := 10) dX12_cracks_10 (fun x2 => ?_)
    refine j_icmp_ge (pc := 11) 48 dX12_cracks_11 (by decide) ?_ ?_
    · refine j_iload_n (pc := 48) 1 dX12_cracks_48 rfl rfl ?_
      exact j_ireturn (pc := 49) dX12_cracks_49 rfl rfl
    refine j_iload_n (pc := 14) 1 dX12_cracks_14 rfl rfl ?_
    refine j_aload_n (pc := 15) 0 dX12_cracks_15 rfl rfl ?_
    refine j_getR (pc := 16) ok_X12 (by decide) rfl w_1239 dX12_cracks_16 (fun a3 => ?_)
    refine j_sipush (pc := 19) (v := 732) dX12_cracks_19 (by decide) ?_
    refine j_iconst (pc := 22) (v := 3) dX12_cracks_22 (by decide) ?_
    refine j_iload_n (pc := 23) 2 dX12_cracks_23 rfl rfl ?_
    refine j_imul (pc := 24) dX12_cracks_24 ?_
    refine j_iadd (pc := 25) dX12_cracks_25 ?_
    refine j_iconst (pc := 26) (v := 2) dX12_cracks_26 (by decide) ?_
    refine j_iadd (pc := 27) dX12_cracks_27 ?_
    refine j_iaload (pc := 28) dX12_cracks_28 (fun x4 => ?_)
    refine j_iconst (pc := 29) (v := (-1)) dX12_cracks_29 (by decide) ?_
    refine j_icmp_ne (pc := 30) 37 dX12_cracks_30 (by decide) ?_ ?_
    · refine j_iconst (pc := 37) (v := 1) dX12_cracks_37 (by decide) ?_
      refine j_iload_n (pc := 38) 2 dX12_cracks_38 rfl rfl ?_
      refine j_ishl (pc := 39) dX12_cracks_39 ?_
      exact J.sub [0, 2] rfl ((j_X12_cracks_B40 hL4) r0 v2 ((1 : Int32) <<< (v2 &&& 31)) v1 z)
    refine j_iconst (pc := 33) (v := 0) dX12_cracks_33 (by decide) ?_
    refine j_goto (pc := 34) 40 dX12_cracks_34 (by decide) ?_
    exact J.sub [0, 2] rfl ((j_X12_cracks_B40 hL4) r0 v2 0 v1 z)
theorem ct_X12_cracks {l : Launch} {Γ : Am} (r0 : Nat) (z : Hp) : Ct l Γ yX12_cracks mi_X12_cracks cvI [.ref (mB Γ + r0)] z (m_X12_cracks r0 z) := by
  refine Ct.ofJ (by decide) ⟨rfl, rfl⟩ (Nat.le_of_ble_eq_true rfl) ?_
  unfold m_X12_cracks
  show J l Γ mi_X12_cracks cvI 0 0 0 [(0, .ref (mB Γ + r0))] [] z _
  refine j_iconst (pc := 0) (v := 0) dX12_cracks_0 (by decide) ?_
  refine j_istore_n (pc := 1) (lv2 := [(1, .int 0), (0, .ref (mB Γ + r0))]) dX12_cracks_1 rfl (by decide) rfl ?_
  refine j_iconst (pc := 2) (v := 0) dX12_cracks_2 (by decide) ?_
  refine j_istore_n (pc := 3) (lv2 := [(2, .int 0), (1, .int 0), (0, .ref (mB Γ + r0))]) dX12_cracks_3 rfl (by decide) rfl ?_
  exact J.sub [2, 1, 0] rfl ((j_X12_cracks_L4 FU) r0 0 0 z)
theorem dX12_house_0 : decode cX12_house 0 = .ok (.iload_n 1, 1) := by decide +kernel
theorem dX12_house_1 : decode cX12_house 1 = .ok (.i2l, 1) := by decide +kernel
theorem dX12_house_2 : decode cX12_house 2 = .ok (.lconst 0, 1) := by decide +kernel
theorem dX12_house_3 : decode cX12_house 3 = .ok (.aload_n 0, 1) := by decide +kernel
theorem dX12_house_4 : decode cX12_house 4 = .ok (.getfield 13, 3) := by decide +kernel
theorem dX12_house_7 : decode cX12_house 7 = .ok (.iconst 3, 1) := by decide +kernel
theorem dX12_house_8 : decode cX12_house 8 = .ok (.iaload, 1) := by decide +kernel
theorem dX12_house_9 : decode cX12_house 9 = .ok (.iconst 1, 1) := by decide +kernel
theorem dX12_house_10 : decode cX12_house 10 = .ok (.isub, 1) := by decide +kernel
theorem dX12_house_11 : decode cX12_house 11 = .ok (.i2l, 1) := by decide +kernel
theorem dX12_house_12 : decode cX12_house 12 = .ok (.invokestatic 110, 3) := by decide +kernel
theorem dX12_house_15 : decode cX12_house 15 = .ok (.ifCond .eq 32, 3) := by decide +kernel
theorem dX12_house_18 : decode cX12_house 18 = .ok (.iload_n 2, 1) := by decide +kernel
theorem dX12_house_19 : decode cX12_house 19 = .ok (.i2l, 1) := by decide +kernel
theorem dX12_house_20 : decode cX12_house 20 = .ok (.lconst 0, 1) := by decide +kernel
theorem dX12_house_21 : decode cX12_house 21 = .ok (.ldc2_w 120, 3) := by decide +kernel
theorem dX12_house_24 : decode cX12_house 24 = .ok (.invokestatic 110, 3) := by decide +kernel
theorem dX12_house_27 : decode cX12_house 27 = .ok (.ifCond .eq 20, 3) := by decide +kernel
theorem dX12_house_30 : decode cX12_house 30 = .ok (.aload_n 0, 1) := by decide +kernel
theorem dX12_house_31 : decode cX12_house 31 = .ok (.getfield 13, 3) := by decide +kernel
theorem dX12_house_34 : decode cX12_house 34 = .ok (.sipush 732, 3) := by decide +kernel
theorem dX12_house_37 : decode cX12_house 37 = .ok (.iconst 3, 1) := by decide +kernel
theorem dX12_house_38 : decode cX12_house 38 = .ok (.iload_n 1, 1) := by decide +kernel
theorem dX12_house_39 : decode cX12_house 39 = .ok (.imul, 1) := by decide +kernel
theorem dX12_house_40 : decode cX12_house 40 = .ok (.iadd, 1) := by decide +kernel
theorem dX12_house_41 : decode cX12_house 41 = .ok (.iload_n 2, 1) := by decide +kernel
theorem dX12_house_42 : decode cX12_house 42 = .ok (.iadd, 1) := by decide +kernel
theorem dX12_house_43 : decode cX12_house 43 = .ok (.iaload, 1) := by decide +kernel
theorem dX12_house_44 : decode cX12_house 44 = .ok (.goto 6, 3) := by decide +kernel
theorem dX12_house_47 : decode cX12_house 47 = .ok (.ldc_w 342, 3) := by decide +kernel
theorem dX12_house_50 : decode cX12_house 50 = .ok (.ireturn, 1) := by decide +kernel
theorem cw_X12_house_110 : CwS mi_X12_house mi_X12_in yX12_in 110 3 := ⟨⟨w_1365, w_1366, w_108, w_1367⟩, ⟨by decide, by decide⟩, by decide +kernel, by decide, by decide⟩
theorem j_X12_house_B47 {l : Launch} {Γ : Am}   : ∀  (z : Hp), J l Γ mi_X12_house cvI 0 0 47 [] [] z (m_X12_house_B47   z) := by
  intro  z
  unfold m_X12_house_B47
  refine j_ldcw (pc := 47) (v := (-2000000000)) dX12_house_47 w_1582 ?_
  exact j_ireturn (pc := 50) dX12_house_50 rfl rfl
theorem ct_X12_house {l : Launch} {Γ : Am} (r0 : Nat) (v1 : Int32) (v2 : Int32) (z : Hp) : Ct l Γ yX12_house mi_X12_house cvI [.ref (mB Γ + r0), .int v1, .int v2] z (m_X12_house r0 v1 v2 z) := by
  refine Ct.ofJ (by decide) ⟨rfl, rfl⟩ (Nat.le_of_ble_eq_true rfl) ?_
  unfold m_X12_house
  show J l Γ mi_X12_house cvI 0 0 0 [(0, .ref (mB Γ + r0)), (1, .int v1), (2, .int v2)] [] z _
  refine j_iload_n (pc := 0) 1 dX12_house_0 rfl rfl ?_
  refine j_i2l (pc := 1) dX12_house_1 ?_
  refine j_lconst (pc := 2) (v := 0) dX12_house_2 (by decide) ?_
  refine j_aload_n (pc := 3) 0 dX12_house_3 rfl rfl ?_
  refine j_getR (pc := 4) ok_X12 (by decide) rfl w_1239 dX12_house_4 (fun a1 => ?_)
  refine j_iconst (pc := 7) (v := 3) dX12_house_7 (by decide) ?_
  refine j_iaload (pc := 8) dX12_house_8 (fun x2 => ?_)
  refine j_iconst (pc := 9) (v := 1) dX12_house_9 (by decide) ?_
  refine j_isub (pc := 10) dX12_house_10 ?_
  refine j_i2l (pc := 11) dX12_house_11 ?_
  refine j_callS_I (pc := 12) (as := [.long (Int32.toInt64 v1), .long 0, .long (Int32.toInt64 (x2 - 1))]) (mc2 := 0) (ms2 := 0) (ct_X12_in _ _ _ _) cw_X12_house_110 dX12_house_12 (Nat.le_of_ble_eq_true rfl) rfl (by decide) (by decide) (fun x4 z3 => ?_)
  refine j_if_eq (pc := 15) 47 dX12_house_15 (by decide) ?_ ?_
  · exact J.sub [] rfl (j_X12_house_B47 z3)
  refine j_iload_n (pc := 18) 2 dX12_house_18 rfl rfl ?_
  refine j_i2l (pc := 19) dX12_house_19 ?_
  refine j_lconst (pc := 20) (v := 0) dX12_house_20 (by decide) ?_
  refine j_ldc2 (pc := 21) (v := 2) dX12_house_21 w_1364 ?_
  refine j_callS_I (pc := 24) (as := [.long (Int32.toInt64 v2), .long 0, .long 2]) (mc2 := 0) (ms2 := 0) (ct_X12_in _ _ _ _) cw_X12_house_110 dX12_house_24 (Nat.le_of_ble_eq_true rfl) rfl (by decide) (by decide) (fun x6 z5 => ?_)
  refine j_if_eq (pc := 27) 47 dX12_house_27 (by decide) ?_ ?_
  · exact J.sub [] rfl (j_X12_house_B47 z5)
  refine j_aload_n (pc := 30) 0 dX12_house_30 rfl rfl ?_
  refine j_getR (pc := 31) ok_X12 (by decide) rfl w_1239 dX12_house_31 (fun a7 => ?_)
  refine j_sipush (pc := 34) (v := 732) dX12_house_34 (by decide) ?_
  refine j_iconst (pc := 37) (v := 3) dX12_house_37 (by decide) ?_
  refine j_iload_n (pc := 38) 1 dX12_house_38 rfl rfl ?_
  refine j_imul (pc := 39) dX12_house_39 ?_
  refine j_iadd (pc := 40) dX12_house_40 ?_
  refine j_iload_n (pc := 41) 2 dX12_house_41 rfl rfl ?_
  refine j_iadd (pc := 42) dX12_house_42 ?_
  refine j_iaload (pc := 43) dX12_house_43 (fun x8 => ?_)
  refine j_goto (pc := 44) 50 dX12_house_44 (by decide) ?_
  exact j_ireturn (pc := 50) dX12_house_50 rfl rfl
theorem dX12_foretell_0 : decode cX12_foretell 0 = .ok (.aload_n 0, 1) := by decide +kernel
theorem dX12_foretell_1 : decode cX12_foretell 1 = .ok (.invokevirtual 365, 3) := by decide +kernel
theorem dX12_foretell_4 : decode cX12_foretell 4 = .ok (.ifCond .ne 6, 3) := by decide +kernel
theorem dX12_foretell_7 : decode cX12_foretell 7 = .ok (.bipush (-6), 2) := by decide +kernel
theorem dX12_foretell_9 : decode cX12_foretell 9 = .ok (.ireturn, 1) := by decide +kernel
theorem dX12_foretell_10 : decode cX12_foretell 10 = .ok (.aload_n 0, 1) := by decide +kernel
theorem dX12_foretell_11 : decode cX12_foretell 11 = .ok (.invokevirtual 404, 3) := by decide +kernel
theorem dX12_foretell_14 : decode cX12_foretell 14 = .ok (.iconst (-1), 1) := by decide +kernel
theorem dX12_foretell_15 : decode cX12_foretell 15 = .ok (.istore_n 1, 1) := by decide +kernel
theorem dX12_foretell_16 : decode cX12_foretell 16 = .ok (.iconst 0, 1) := by decide +kernel
theorem dX12_foretell_17 : decode cX12_foretell 17 = .ok (.istore_n 2, 1) := by decide +kernel
theorem dX12_foretell_18 : decode cX12_foretell 18 = .ok (.iload_n 2, 1) := by decide +kernel
theorem dX12_foretell_19 : decode cX12_foretell 19 = .ok (.bipush 60, 2) := by decide +kernel
theorem dX12_foretell_21 : decode cX12_foretell 21 = .ok (.if_icmp .gt 31, 3) := by decide +kernel
theorem dX12_foretell_24 : decode cX12_foretell 24 = .ok (.iload_n 1, 1) := by decide +kernel
theorem dX12_foretell_25 : decode cX12_foretell 25 = .ok (.iconst (-1), 1) := by decide +kernel
theorem dX12_foretell_26 : decode cX12_foretell 26 = .ok (.if_icmp .ne 26, 3) := by decide +kernel
theorem dX12_foretell_29 : decode cX12_foretell 29 = .ok (.iload_n 2, 1) := by decide +kernel
theorem dX12_foretell_30 : decode cX12_foretell 30 = .ok (.ifCond .le 7, 3) := by decide +kernel
theorem dX12_foretell_33 : decode cX12_foretell 33 = .ok (.aload_n 0, 1) := by decide +kernel
theorem dX12_foretell_34 : decode cX12_foretell 34 = .ok (.invokevirtual 339, 3) := by decide +kernel
theorem dX12_foretell_37 : decode cX12_foretell 37 = .ok (.aload_n 0, 1) := by decide +kernel
theorem dX12_foretell_38 : decode cX12_foretell 38 = .ok (.invokevirtual 334, 3) := by decide +kernel
theorem dX12_foretell_41 : decode cX12_foretell 41 = .ok (.ifCond .eq 5, 3) := by decide +kernel
theorem dX12_foretell_44 : decode cX12_foretell 44 = .ok (.iload_n 2, 1) := by decide +kernel
theorem dX12_foretell_45 : decode cX12_foretell 45 = .ok (.istore_n 1, 1) := by decide +kernel
theorem dX12_foretell_46 : decode cX12_foretell 46 = .ok (.iinc 2 1, 3) := by decide +kernel
theorem dX12_foretell_49 : decode cX12_foretell 49 = .ok (.goto (-31), 3) := by decide +kernel
theorem dX12_foretell_52 : decode cX12_foretell 52 = .ok (.aload_n 0, 1) := by decide +kernel
theorem dX12_foretell_53 : decode cX12_foretell 53 = .ok (.invokevirtual 407, 3) := by decide +kernel
theorem dX12_foretell_56 : decode cX12_foretell 56 = .ok (.iload_n 1, 1) := by decide +kernel
theorem dX12_foretell_57 : decode cX12_foretell 57 = .ok (.ireturn, 1) := by decide +kernel
theorem cw_X12_foretell_407 : CwV mi_X12_foretell mi_X12_putsBack yX12_putsBack RX12 407 0 := ⟨⟨w_1701, w_1703, w_91, w_108, w_1704⟩, ⟨by decide, by decide⟩, by decide +kernel, by decide, by decide⟩
theorem cw_X12_foretell_334 : CwV mi_X12_foretell mi_X12_isShut yX12_isShut RX12 334 0 := ⟨⟨w_1559, w_1561, w_75, w_108, w_1562⟩, ⟨by decide, by decide⟩, by decide +kernel, by decide, by decide⟩
theorem cw_X12_foretell_339 : CwV mi_X12_foretell mi_X12_ticks yX12_ticks RX12 339 0 := ⟨⟨w_1507, w_1509, w_64, w_108, w_1510⟩, ⟨by decide, by decide⟩, by decide +kernel, by decide, by decide⟩
theorem cw_X12_foretell_365 : CwV mi_X12_foretell mi_X12_hasShaft yX12_hasShaft RX12 365 0 := ⟨⟨w_1613, w_1615, w_81, w_108, w_1616⟩, ⟨by decide, by decide⟩, by decide +kernel, by decide, by decide⟩
theorem cw_X12_foretell_404 : CwV mi_X12_foretell mi_X12_saves yX12_saves RX12 404 0 := ⟨⟨w_1697, w_1699, w_90, w_108, w_1700⟩, ⟨by decide, by decide⟩, by decide +kernel, by decide, by decide⟩
theorem j_X12_foretell_B52 {l : Launch} {Γ : Am}   : ∀ (r0 : Nat) (v1 : Int32) (z : Hp), J l Γ mi_X12_foretell cvI 0 0 52 [(0, .ref (mB Γ + r0)), (1, .int v1)] [] z (m_X12_foretell_B52  r0 v1 z) := by
  intro r0 v1 z
  unfold m_X12_foretell_B52
  refine j_aload_n (pc := 52) 0 dX12_foretell_52 rfl rfl ?_
  refine j_isC (fun h2 => ?_)
  refine j_callV_V (pc := 53) (as := []) (mc2 := 0) (ms2 := 0) (ct_X12_putsBack _ _) h2 rfl cw_X12_foretell_407 dX12_foretell_53 (Nat.le_of_ble_eq_true rfl) rfl (by decide) (by decide) (fun _ z1 => ?_)
  refine j_iload_n (pc := 56) 1 dX12_foretell_56 rfl rfl ?_
  exact j_ireturn (pc := 57) dX12_foretell_57 rfl rfl
theorem j_X12_foretell_B46 {l : Launch} {Γ : Am} {k18 : Nat → Int32 → Int32 → Hp → Option (Int32 × Hp)} (hL18 : ∀ (r0 : Nat) (v1 : Int32) (v2 : Int32) (z : Hp), J l Γ mi_X12_foretell cvI 0 0 18 [(0, .ref (mB Γ + r0)), (1, .int v1), (2, .int v2)] [] z (k18 r0 v1 v2 z)) : ∀ (r0 : Nat) (v1 : Int32) (v2 : Int32) (z : Hp), J l Γ mi_X12_foretell cvI 0 0 46 [(0, .ref (mB Γ + r0)), (1, .int v1), (2, .int v2)] [] z (m_X12_foretell_B46 k18 r0 v1 v2 z) := by
  intro r0 v1 v2 z
  unfold m_X12_foretell_B46
  refine j_iinc (pc := 46) (n0 := 2) (v0 := v2 + 1) (lv2 := [(2, .int (v2 + 1)), (0, .ref (mB Γ + r0)), (1, .int v1)]) dX12_foretell_46 rfl rfl (by decide) rfl ?_
  refine j_goto (pc := 49) 18 dX12_foretell_49 (by decide) ?_
  exact J.sub [1, 2, 0] rfl (hL18 r0 v1 (v2 + 1) z)
theorem j_X12_foretell_B37 {l : Launch} {Γ : Am} {k18 : Nat → Int32 → Int32 → Hp → Option (Int32 × Hp)} (hL18 : ∀ (r0 : Nat) (v1 : Int32) (v2 : Int32) (z : Hp), J l Γ mi_X12_foretell cvI 0 0 18 [(0, .ref (mB Γ + r0)), (1, .int v1), (2, .int v2)] [] z (k18 r0 v1 v2 z)) : ∀ (r0 : Nat) (v1 : Int32) (v2 : Int32) (z : Hp), J l Γ mi_X12_foretell cvI 0 0 37 [(0, .ref (mB Γ + r0)), (1, .int v1), (2, .int v2)] [] z (m_X12_foretell_B37 k18 r0 v1 v2 z) := by
  intro r0 v1 v2 z
  unfold m_X12_foretell_B37
  refine j_aload_n (pc := 37) 0 dX12_foretell_37 rfl rfl ?_
  refine j_isC (fun h5 => ?_)
  refine j_callV_I (pc := 38) (as := []) (mc2 := 0) (ms2 := 0) (ct_X12_isShut _ _) h5 rfl cw_X12_foretell_334 dX12_foretell_38 (Nat.le_of_ble_eq_true rfl) rfl (by decide) (by decide) (fun x4 z3 => ?_)
  refine j_if_eq (pc := 41) 46 dX12_foretell_41 (by decide) ?_ ?_
  · exact J.sub [0, 1, 2] rfl ((j_X12_foretell_B46 hL18) r0 v1 v2 z3)
  refine j_iload_n (pc := 44) 2 dX12_foretell_44 rfl rfl ?_
  refine j_istore_n (pc := 45) (lv2 := [(1, .int v2), (0, .ref (mB Γ + r0)), (2, .int v2)]) dX12_foretell_45 rfl (by decide) rfl ?_
  exact J.sub [1, 0, 2] rfl ((j_X12_foretell_B46 hL18) r0 v2 v2 z3)
theorem j_X12_foretell_L18 {l : Launch} {Γ : Am} {k52 : Nat → Int32 → Hp → Option (Int32 × Hp)} (hL52 : ∀ (r0 : Nat) (v1 : Int32) (z : Hp), J l Γ mi_X12_foretell cvI 0 0 52 [(0, .ref (mB Γ + r0)), (1, .int v1)] [] z (k52 r0 v1 z)) : ∀ (f : Nat), ∀ (r0 : Nat) (v1 : Int32) (v2 : Int32) (z : Hp), J l Γ mi_X12_foretell cvI 0 0 18 [(0, .ref (mB Γ + r0)), (1, .int v1), (2, .int v2)] [] z (m_X12_foretell_L18 k52 f r0 v1 v2 z) := by
  intro f
  induction f with
  | zero => intro r0 v1 v2 z; exact J.none
  | succ f hL18 =>
    intro r0 v1 v2 z
    rw [m_X12_foretell_L18]
    refine j_iload_n (pc := 18) 2 dX12_foretell_18 rfl rfl ?_
    refine j_bipush (pc := 19) (v := 60) dX12_foretell_19 (by decide) ?_
    refine j_icmp_gt (pc := 21) 52 dX12_foretell_21 (by decide) ?_ ?_
    · exact J.sub [0, 1] rfl (hL52 r0 v1 z)
    refine j_iload_n (pc := 24) 1 dX12_foretell_24 rfl rfl ?_
    refine j_iconst (pc := 25) (v := (-1)) dX12_foretell_25 (by decide) ?_
    refine j_icmp_ne (pc := 26) 52 dX12_foretell_26 (by decide) ?_ ?_
    · exact J.sub [0, 1] rfl (hL52 r0 v1 z)
    refine j_iload_n (pc := 29) 2 dX12_foretell_29 rfl rfl ?_
    refine j_if_le (pc := 30) 37 dX12_foretell_30 (by decide) ?_ ?_
    · exact J.sub [0, 1, 2] rfl ((j_X12_foretell_B37 hL18) r0 v1 v2 z)
    refine j_aload_n (pc := 33) 0 dX12_foretell_33 rfl rfl ?_
    refine j_isC (fun h7 => ?_)
    refine j_callV_V (pc := 34) (as := []) (mc2 := 0) (ms2 := 0) (ct_X12_ticks _ _) h7 rfl cw_X12_foretell_339 dX12_foretell_34 (Nat.le_of_ble_eq_true rfl) rfl (by decide) (by decide) (fun _ z6 => ?_)
    exact J.sub [0, 1, 2] rfl ((j_X12_foretell_B37 hL18) r0 v1 v2 z6)
theorem ct_X12_foretell {l : Launch} {Γ : Am} (r0 : Nat) (z : Hp) : Ct l Γ yX12_foretell mi_X12_foretell cvI [.ref (mB Γ + r0)] z (m_X12_foretell r0 z) := by
  refine Ct.ofJ (by decide) ⟨rfl, rfl⟩ (Nat.le_of_ble_eq_true rfl) ?_
  unfold m_X12_foretell
  show J l Γ mi_X12_foretell cvI 0 0 0 [(0, .ref (mB Γ + r0))] [] z _
  refine j_aload_n (pc := 0) 0 dX12_foretell_0 rfl rfl ?_
  refine j_isC (fun h10 => ?_)
  refine j_callV_I (pc := 1) (as := []) (mc2 := 0) (ms2 := 0) (ct_X12_hasShaft _ _) h10 rfl cw_X12_foretell_365 dX12_foretell_1 (Nat.le_of_ble_eq_true rfl) rfl (by decide) (by decide) (fun x9 z8 => ?_)
  refine j_if_ne (pc := 4) 10 dX12_foretell_4 (by decide) ?_ ?_
  · refine j_aload_n (pc := 10) 0 dX12_foretell_10 rfl rfl ?_
    refine j_isC (fun h12 => ?_)
    refine j_callV_V (pc := 11) (as := []) (mc2 := 0) (ms2 := 0) (ct_X12_saves _ _) h12 rfl cw_X12_foretell_404 dX12_foretell_11 (Nat.le_of_ble_eq_true rfl) rfl (by decide) (by decide) (fun _ z11 => ?_)
    refine j_iconst (pc := 14) (v := (-1)) dX12_foretell_14 (by decide) ?_
    refine j_istore_n (pc := 15) (lv2 := [(1, .int (-1)), (0, .ref (mB Γ + r0))]) dX12_foretell_15 rfl (by decide) rfl ?_
    refine j_iconst (pc := 16) (v := 0) dX12_foretell_16 (by decide) ?_
    refine j_istore_n (pc := 17) (lv2 := [(2, .int 0), (1, .int (-1)), (0, .ref (mB Γ + r0))]) dX12_foretell_17 rfl (by decide) rfl ?_
    exact J.sub [2, 1, 0] rfl ((j_X12_foretell_L18 j_X12_foretell_B52 FU) r0 (-1) 0 z11)
  refine j_bipush (pc := 7) (v := (-6)) dX12_foretell_7 (by decide) ?_
  exact j_ireturn (pc := 9) dX12_foretell_9 rfl rfl
theorem dX12_off_0 : decode cX12_off 0 = .ok (.aload_n 0, 1) := by decide +kernel
theorem dX12_off_1 : decode cX12_off 1 = .ok (.invokevirtual 365, 3) := by decide +kernel
theorem dX12_off_4 : decode cX12_off 4 = .ok (.ifCond .ne 6, 3) := by decide +kernel
theorem dX12_off_7 : decode cX12_off 7 = .ok (.bipush (-6), 2) := by decide +kernel
theorem dX12_off_9 : decode cX12_off 9 = .ok (.ireturn, 1) := by decide +kernel
theorem dX12_off_10 : decode cX12_off 10 = .ok (.aload_n 0, 1) := by decide +kernel
theorem dX12_off_11 : decode cX12_off 11 = .ok (.invokevirtual 334, 3) := by decide +kernel
theorem dX12_off_14 : decode cX12_off 14 = .ok (.ifCond .ne 6, 3) := by decide +kernel
theorem dX12_off_17 : decode cX12_off 17 = .ok (.bipush (-5), 2) := by decide +kernel
theorem dX12_off_19 : decode cX12_off 19 = .ok (.ireturn, 1) := by decide +kernel
theorem dX12_off_20 : decode cX12_off 20 = .ok (.aload_n 0, 1) := by decide +kernel
theorem dX12_off_21 : decode cX12_off 21 = .ok (.invokevirtual 404, 3) := by decide +kernel
theorem dX12_off_24 : decode cX12_off 24 = .ok (.iconst 0, 1) := by decide +kernel
theorem dX12_off_25 : decode cX12_off 25 = .ok (.istore_n 1, 1) := by decide +kernel
theorem dX12_off_26 : decode cX12_off 26 = .ok (.iload_n 1, 1) := by decide +kernel
theorem dX12_off_27 : decode cX12_off 27 = .ok (.aload_n 0, 1) := by decide +kernel
theorem dX12_off_28 : decode cX12_off 28 = .ok (.getfield 13, 3) := by decide +kernel
theorem dX12_off_31 : decode cX12_off 31 = .ok (.iconst 2, 1) := by decide +kernel
theorem dX12_off_32 : decode cX12_off 32 = .ok (.iaload, 1) := by decide +kernel
theorem dX12_off_33 : decode cX12_off 33 = .ok (.if_icmp .ge 25, 3) := by decide +kernel
theorem dX12_off_36 : decode cX12_off 36 = .ok (.aload_n 0, 1) := by decide +kernel
theorem dX12_off_37 : decode cX12_off 37 = .ok (.getfield 13, 3) := by decide +kernel
theorem dX12_off_40 : decode cX12_off 40 = .ok (.sipush 624, 3) := by decide +kernel
theorem dX12_off_43 : decode cX12_off 43 = .ok (.bipush 6, 2) := by decide +kernel
theorem dX12_off_45 : decode cX12_off 45 = .ok (.iload_n 1, 1) := by decide +kernel
theorem dX12_off_46 : decode cX12_off 46 = .ok (.imul, 1) := by decide +kernel
theorem dX12_off_47 : decode cX12_off 47 = .ok (.iadd, 1) := by decide +kernel
theorem dX12_off_48 : decode cX12_off 48 = .ok (.iconst 3, 1) := by decide +kernel
theorem dX12_off_49 : decode cX12_off 49 = .ok (.iadd, 1) := by decide +kernel
theorem dX12_off_50 : decode cX12_off 50 = .ok (.iconst 0, 1) := by decide +kernel
theorem dX12_off_51 : decode cX12_off 51 = .ok (.iastore, 1) := by decide +kernel
theorem dX12_off_52 : decode cX12_off 52 = .ok (.iinc 1 1, 3) := by decide +kernel
theorem dX12_off_55 : decode cX12_off 55 = .ok (.goto (-29), 3) := by decide +kernel
theorem dX12_off_58 : decode cX12_off 58 = .ok (.iconst (-1), 1) := by decide +kernel
theorem dX12_off_59 : decode cX12_off 59 = .ok (.istore_n 1, 1) := by decide +kernel
theorem dX12_off_60 : decode cX12_off 60 = .ok (.iconst 1, 1) := by decide +kernel
theorem dX12_off_61 : decode cX12_off 61 = .ok (.istore_n 2, 1) := by decide +kernel
theorem dX12_off_62 : decode cX12_off 62 = .ok (.iload_n 2, 1) := by decide +kernel
theorem dX12_off_63 : decode cX12_off 63 = .ok (.bipush 60, 2) := by decide +kernel
theorem dX12_off_65 : decode cX12_off 65 = .ok (.if_icmp .gt 27, 3) := by decide +kernel
theorem dX12_off_68 : decode cX12_off 68 = .ok (.iload_n 1, 1) := by decide +kernel
theorem dX12_off_69 : decode cX12_off 69 = .ok (.iconst (-1), 1) := by decide +kernel
theorem dX12_off_70 : decode cX12_off 70 = .ok (.if_icmp .ne 22, 3) := by decide +kernel
theorem dX12_off_73 : decode cX12_off 73 = .ok (.aload_n 0, 1) := by decide +kernel
theorem dX12_off_74 : decode cX12_off 74 = .ok (.invokevirtual 339, 3) := by decide +kernel
theorem dX12_off_77 : decode cX12_off 77 = .ok (.aload_n 0, 1) := by decide +kernel
theorem dX12_off_78 : decode cX12_off 78 = .ok (.invokevirtual 334, 3) := by decide +kernel
theorem dX12_off_81 : decode cX12_off 81 = .ok (.ifCond .ne 5, 3) := by decide +kernel
theorem dX12_off_84 : decode cX12_off 84 = .ok (.iload_n 2, 1) := by decide +kernel
theorem dX12_off_85 : decode cX12_off 85 = .ok (.istore_n 1, 1) := by decide +kernel
theorem dX12_off_86 : decode cX12_off 86 = .ok (.iinc 2 1, 3) := by decide +kernel
theorem dX12_off_89 : decode cX12_off 89 = .ok (.goto (-27), 3) := by decide +kernel
theorem dX12_off_92 : decode cX12_off 92 = .ok (.aload_n 0, 1) := by decide +kernel
theorem dX12_off_93 : decode cX12_off 93 = .ok (.invokevirtual 407, 3) := by decide +kernel
theorem dX12_off_96 : decode cX12_off 96 = .ok (.iload_n 1, 1) := by decide +kernel
theorem dX12_off_97 : decode cX12_off 97 = .ok (.ireturn, 1) := by decide +kernel
theorem cw_X12_off_407 : CwV mi_X12_off mi_X12_putsBack yX12_putsBack RX12 407 0 := ⟨⟨w_1701, w_1703, w_91, w_108, w_1704⟩, ⟨by decide, by decide⟩, by decide +kernel, by decide, by decide⟩
theorem cw_X12_off_339 : CwV mi_X12_off mi_X12_ticks yX12_ticks RX12 339 0 := ⟨⟨w_1507, w_1509, w_64, w_108, w_1510⟩, ⟨by decide, by decide⟩, by decide +kernel, by decide, by decide⟩
theorem cw_X12_off_334 : CwV mi_X12_off mi_X12_isShut yX12_isShut RX12 334 0 := ⟨⟨w_1559, w_1561, w_75, w_108, w_1562⟩, ⟨by decide, by decide⟩, by decide +kernel, by decide, by decide⟩
theorem cw_X12_off_365 : CwV mi_X12_off mi_X12_hasShaft yX12_hasShaft RX12 365 0 := ⟨⟨w_1613, w_1615, w_81, w_108, w_1616⟩, ⟨by decide, by decide⟩, by decide +kernel, by decide, by decide⟩
theorem cw_X12_off_404 : CwV mi_X12_off mi_X12_saves yX12_saves RX12 404 0 := ⟨⟨w_1697, w_1699, w_90, w_108, w_1700⟩, ⟨by decide, by decide⟩, by decide +kernel, by decide, by decide⟩
theorem j_X12_off_B92 {l : Launch} {Γ : Am}   : ∀ (r0 : Nat) (v1 : Int32) (z : Hp), J l Γ mi_X12_off cvI 0 0 92 [(0, .ref (mB Γ + r0)), (1, .int v1)] [] z (m_X12_off_B92  r0 v1 z) := by
  intro r0 v1 z
  unfold m_X12_off_B92
  refine j_aload_n (pc := 92) 0 dX12_off_92 rfl rfl ?_
  refine j_isC (fun h2 => ?_)
  refine j_callV_V (pc := 93) (as := []) (mc2 := 0) (ms2 := 0) (ct_X12_putsBack _ _) h2 rfl cw_X12_off_407 dX12_off_93 (Nat.le_of_ble_eq_true rfl) rfl (by decide) (by decide) (fun _ z1 => ?_)
  refine j_iload_n (pc := 96) 1 dX12_off_96 rfl rfl ?_
  exact j_ireturn (pc := 97) dX12_off_97 rfl rfl
theorem j_X12_off_B86 {l : Launch} {Γ : Am} {k62 : Nat → Int32 → Int32 → Hp → Option (Int32 × Hp)} (hL62 : ∀ (r0 : Nat) (v1 : Int32) (v2 : Int32) (z : Hp), J l Γ mi_X12_off cvI 0 0 62 [(0, .ref (mB Γ + r0)), (1, .int v1), (2, .int v2)] [] z (k62 r0 v1 v2 z)) : ∀ (r0 : Nat) (v1 : Int32) (v2 : Int32) (z : Hp), J l Γ mi_X12_off cvI 0 0 86 [(0, .ref (mB Γ + r0)), (1, .int v1), (2, .int v2)] [] z (m_X12_off_B86 k62 r0 v1 v2 z) := by
  intro r0 v1 v2 z
  unfold m_X12_off_B86
  refine j_iinc (pc := 86) (n0 := 2) (v0 := v2 + 1) (lv2 := [(2, .int (v2 + 1)), (0, .ref (mB Γ + r0)), (1, .int v1)]) dX12_off_86 rfl rfl (by decide) rfl ?_
  refine j_goto (pc := 89) 62 dX12_off_89 (by decide) ?_
  exact J.sub [1, 2, 0] rfl (hL62 r0 v1 (v2 + 1) z)
theorem j_X12_off_L62 {l : Launch} {Γ : Am} {k92 : Nat → Int32 → Hp → Option (Int32 × Hp)} (hL92 : ∀ (r0 : Nat) (v1 : Int32) (z : Hp), J l Γ mi_X12_off cvI 0 0 92 [(0, .ref (mB Γ + r0)), (1, .int v1)] [] z (k92 r0 v1 z)) : ∀ (f : Nat), ∀ (r0 : Nat) (v1 : Int32) (v2 : Int32) (z : Hp), J l Γ mi_X12_off cvI 0 0 62 [(0, .ref (mB Γ + r0)), (1, .int v1), (2, .int v2)] [] z (m_X12_off_L62 k92 f r0 v1 v2 z) := by
  intro f
  induction f with
  | zero => intro r0 v1 v2 z; exact J.none
  | succ f hL62 =>
    intro r0 v1 v2 z
    rw [m_X12_off_L62]
    refine j_iload_n (pc := 62) 2 dX12_off_62 rfl rfl ?_
    refine j_bipush (pc := 63) (v := 60) dX12_off_63 (by decide) ?_
    refine j_icmp_gt (pc := 65) 92 dX12_off_65 (by decide) ?_ ?_
    · exact J.sub [0, 1] rfl (hL92 r0 v1 z)
    refine j_iload_n (pc := 68) 1 dX12_off_68 rfl rfl ?_
    refine j_iconst (pc := 69) (v := (-1)) dX12_off_69 (by decide) ?_
    refine j_icmp_ne (pc := 70) 92 dX12_off_70 (by decide) ?_ ?_
    · exact J.sub [0, 1] rfl (hL92 r0 v1 z)
    refine j_aload_n (pc := 73) 0 dX12_off_73 rfl rfl ?_
    refine j_isC (fun h4 => ?_)
    refine j_callV_V (pc := 74) (as := []) (mc2 := 0) (ms2 := 0) (ct_X12_ticks _ _) h4 rfl cw_X12_off_339 dX12_off_74 (Nat.le_of_ble_eq_true rfl) rfl (by decide) (by decide) (fun _ z3 => ?_)
    refine j_aload_n (pc := 77) 0 dX12_off_77 rfl rfl ?_
    refine j_isC (fun h7 => ?_)
    refine j_callV_I (pc := 78) (as := []) (mc2 := 0) (ms2 := 0) (ct_X12_isShut _ _) h7 rfl cw_X12_off_334 dX12_off_78 (Nat.le_of_ble_eq_true rfl) rfl (by decide) (by decide) (fun x6 z5 => ?_)
    refine j_if_ne (pc := 81) 86 dX12_off_81 (by decide) ?_ ?_
    · exact J.sub [0, 1, 2] rfl ((j_X12_off_B86 hL62) r0 v1 v2 z5)
    refine j_iload_n (pc := 84) 2 dX12_off_84 rfl rfl ?_
    refine j_istore_n (pc := 85) (lv2 := [(1, .int v2), (0, .ref (mB Γ + r0)), (2, .int v2)]) dX12_off_85 rfl (by decide) rfl ?_
    exact J.sub [1, 0, 2] rfl ((j_X12_off_B86 hL62) r0 v2 v2 z5)
theorem j_X12_off_B58 {l : Launch} {Γ : Am}   : ∀ (r0 : Nat) (z : Hp), J l Γ mi_X12_off cvI 0 0 58 [(0, .ref (mB Γ + r0))] [] z (m_X12_off_B58  r0 z) := by
  intro r0 z
  unfold m_X12_off_B58
  refine j_iconst (pc := 58) (v := (-1)) dX12_off_58 (by decide) ?_
  refine j_istore_n (pc := 59) (lv2 := [(1, .int (-1)), (0, .ref (mB Γ + r0))]) dX12_off_59 rfl (by decide) rfl ?_
  refine j_iconst (pc := 60) (v := 1) dX12_off_60 (by decide) ?_
  refine j_istore_n (pc := 61) (lv2 := [(2, .int 1), (1, .int (-1)), (0, .ref (mB Γ + r0))]) dX12_off_61 rfl (by decide) rfl ?_
  exact J.sub [2, 1, 0] rfl ((j_X12_off_L62 j_X12_off_B92 FU) r0 (-1) 1 z)
theorem j_X12_off_L26 {l : Launch} {Γ : Am} {k58 : Nat → Hp → Option (Int32 × Hp)} (hL58 : ∀ (r0 : Nat) (z : Hp), J l Γ mi_X12_off cvI 0 0 58 [(0, .ref (mB Γ + r0))] [] z (k58 r0 z)) : ∀ (f : Nat), ∀ (r0 : Nat) (v1 : Int32) (z : Hp), J l Γ mi_X12_off cvI 0 0 26 [(0, .ref (mB Γ + r0)), (1, .int v1)] [] z (m_X12_off_L26 k58 f r0 v1 z) := by
  intro f
  induction f with
  | zero => intro r0 v1 z; exact J.none
  | succ f hL26 =>
    intro r0 v1 z
    rw [m_X12_off_L26]
    refine j_iload_n (pc := 26) 1 dX12_off_26 rfl rfl ?_
    refine j_aload_n (pc := 27) 0 dX12_off_27 rfl rfl ?_
    refine j_getR (pc := 28) ok_X12 (by decide) rfl w_1239 dX12_off_28 (fun a8 => ?_)
    refine j_iconst (pc := 31) (v := 2) dX12_off_31 (by decide) ?_
    refine j_iaload (pc := 32) dX12_off_32 (fun x9 => ?_)
    refine j_icmp_ge (pc := 33) 58 dX12_off_33 (by decide) ?_ ?_
    · exact J.sub [0] rfl (hL58 r0 z)
    refine j_aload_n (pc := 36) 0 dX12_off_36 rfl rfl ?_
    refine j_getR (pc := 37) ok_X12 (by decide) rfl w_1239 dX12_off_37 (fun a10 => ?_)
    refine j_sipush (pc := 40) (v := 624) dX12_off_40 (by decide) ?_
    refine j_bipush (pc := 43) (v := 6) dX12_off_43 (by decide) ?_
    refine j_iload_n (pc := 45) 1 dX12_off_45 rfl rfl ?_
    refine j_imul (pc := 46) dX12_off_46 ?_
    refine j_iadd (pc := 47) dX12_off_47 ?_
    refine j_iconst (pc := 48) (v := 3) dX12_off_48 (by decide) ?_
    refine j_iadd (pc := 49) dX12_off_49 ?_
    refine j_iconst (pc := 50) (v := 0) dX12_off_50 (by decide) ?_
    refine j_iastore (pc := 51) dX12_off_51 (fun z11 => ?_)
    refine j_iinc (pc := 52) (n0 := 1) (v0 := v1 + 1) (lv2 := [(1, .int (v1 + 1)), (0, .ref (mB Γ + r0))]) dX12_off_52 rfl rfl (by decide) rfl ?_
    refine j_goto (pc := 55) 26 dX12_off_55 (by decide) ?_
    exact J.sub [1, 0] rfl (hL26 r0 (v1 + 1) z11)
theorem ct_X12_off {l : Launch} {Γ : Am} (r0 : Nat) (z : Hp) : Ct l Γ yX12_off mi_X12_off cvI [.ref (mB Γ + r0)] z (m_X12_off r0 z) := by
  refine Ct.ofJ (by decide) ⟨rfl, rfl⟩ (Nat.le_of_ble_eq_true rfl) ?_
  unfold m_X12_off
  show J l Γ mi_X12_off cvI 0 0 0 [(0, .ref (mB Γ + r0))] [] z _
  refine j_aload_n (pc := 0) 0 dX12_off_0 rfl rfl ?_
  refine j_isC (fun h14 => ?_)
  refine j_callV_I (pc := 1) (as := []) (mc2 := 0) (ms2 := 0) (ct_X12_hasShaft _ _) h14 rfl cw_X12_off_365 dX12_off_1 (Nat.le_of_ble_eq_true rfl) rfl (by decide) (by decide) (fun x13 z12 => ?_)
  refine j_if_ne (pc := 4) 10 dX12_off_4 (by decide) ?_ ?_
  · refine j_aload_n (pc := 10) 0 dX12_off_10 rfl rfl ?_
    refine j_isC (fun h17 => ?_)
    refine j_callV_I (pc := 11) (as := []) (mc2 := 0) (ms2 := 0) (ct_X12_isShut _ _) h17 rfl cw_X12_off_334 dX12_off_11 (Nat.le_of_ble_eq_true rfl) rfl (by decide) (by decide) (fun x16 z15 => ?_)
    refine j_if_ne (pc := 14) 20 dX12_off_14 (by decide) ?_ ?_
    · refine j_aload_n (pc := 20) 0 dX12_off_20 rfl rfl ?_
      refine j_isC (fun h19 => ?_)
      refine j_callV_V (pc := 21) (as := []) (mc2 := 0) (ms2 := 0) (ct_X12_saves _ _) h19 rfl cw_X12_off_404 dX12_off_21 (Nat.le_of_ble_eq_true rfl) rfl (by decide) (by decide) (fun _ z18 => ?_)
      refine j_iconst (pc := 24) (v := 0) dX12_off_24 (by decide) ?_
      refine j_istore_n (pc := 25) (lv2 := [(1, .int 0), (0, .ref (mB Γ + r0))]) dX12_off_25 rfl (by decide) rfl ?_
      exact J.sub [1, 0] rfl ((j_X12_off_L26 j_X12_off_B58 FU) r0 0 z18)
    refine j_bipush (pc := 17) (v := (-5)) dX12_off_17 (by decide) ?_
    exact j_ireturn (pc := 19) dX12_off_19 rfl rfl
  refine j_bipush (pc := 7) (v := (-6)) dX12_off_7 (by decide) ?_
  exact j_ireturn (pc := 9) dX12_off_9 rfl rfl
theorem dX12_shutsBy_0 : decode cX12_shutsBy 0 = .ok (.aload_n 0, 1) := by decide +kernel
theorem dX12_shutsBy_1 : decode cX12_shutsBy 1 = .ok (.invokevirtual 404, 3) := by decide +kernel
theorem dX12_shutsBy_4 : decode cX12_shutsBy 4 = .ok (.iconst 0, 1) := by decide +kernel
theorem dX12_shutsBy_5 : decode cX12_shutsBy 5 = .ok (.istore 4, 2) := by decide +kernel
theorem dX12_shutsBy_7 : decode cX12_shutsBy 7 = .ok (.iload 4, 2) := by decide +kernel
theorem dX12_shutsBy_9 : decode cX12_shutsBy 9 = .ok (.aload_n 0, 1) := by decide +kernel
theorem dX12_shutsBy_10 : decode cX12_shutsBy 10 = .ok (.getfield 73, 3) := by decide +kernel
theorem dX12_shutsBy_13 : decode cX12_shutsBy 13 = .ok (.iload_n 1, 1) := by decide +kernel
theorem dX12_shutsBy_14 : decode cX12_shutsBy 14 = .ok (.iaload, 1) := by decide +kernel
theorem dX12_shutsBy_15 : decode cX12_shutsBy 15 = .ok (.if_icmp .ge 137, 3) := by decide +kernel
theorem dX12_shutsBy_18 : decode cX12_shutsBy 18 = .ok (.iload_n 2, 1) := by decide +kernel
theorem dX12_shutsBy_19 : decode cX12_shutsBy 19 = .ok (.iload 4, 2) := by decide +kernel
theorem dX12_shutsBy_21 : decode cX12_shutsBy 21 = .ok (.ishr, 1) := by decide +kernel
theorem dX12_shutsBy_22 : decode cX12_shutsBy 22 = .ok (.iconst 1, 1) := by decide +kernel
theorem dX12_shutsBy_23 : decode cX12_shutsBy 23 = .ok (.iand, 1) := by decide +kernel
theorem dX12_shutsBy_24 : decode cX12_shutsBy 24 = .ok (.ifCond .ne 6, 3) := by decide +kernel
theorem dX12_shutsBy_27 : decode cX12_shutsBy 27 = .ok (.goto 119, 3) := by decide +kernel
theorem dX12_shutsBy_30 : decode cX12_shutsBy 30 = .ok (.sipush 624, 3) := by decide +kernel
theorem dX12_shutsBy_33 : decode cX12_shutsBy 33 = .ok (.bipush 6, 2) := by decide +kernel
theorem dX12_shutsBy_35 : decode cX12_shutsBy 35 = .ok (.aload_n 0, 1) := by decide +kernel
theorem dX12_shutsBy_36 : decode cX12_shutsBy 36 = .ok (.getfield 13, 3) := by decide +kernel
theorem dX12_shutsBy_39 : decode cX12_shutsBy 39 = .ok (.iconst 2, 1) := by decide +kernel
theorem dX12_shutsBy_40 : decode cX12_shutsBy 40 = .ok (.iaload, 1) := by decide +kernel
theorem dX12_shutsBy_41 : decode cX12_shutsBy 41 = .ok (.imul, 1) := by decide +kernel
theorem dX12_shutsBy_42 : decode cX12_shutsBy 42 = .ok (.iadd, 1) := by decide +kernel
theorem dX12_shutsBy_43 : decode cX12_shutsBy 43 = .ok (.istore 5, 2) := by decide +kernel
theorem dX12_shutsBy_45 : decode cX12_shutsBy 45 = .ok (.iconst 0, 1) := by decide +kernel
theorem dX12_shutsBy_46 : decode cX12_shutsBy 46 = .ok (.istore 6, 2) := by decide +kernel
theorem dX12_shutsBy_48 : decode cX12_shutsBy 48 = .ok (.iload 6, 2) := by decide +kernel
theorem dX12_shutsBy_50 : decode cX12_shutsBy 50 = .ok (.bipush 6, 2) := by decide +kernel
theorem dX12_shutsBy_52 : decode cX12_shutsBy 52 = .ok (.if_icmp .ge 20, 3) := by decide +kernel
theorem dX12_shutsBy_55 : decode cX12_shutsBy 55 = .ok (.aload_n 0, 1) := by decide +kernel
theorem dX12_shutsBy_56 : decode cX12_shutsBy 56 = .ok (.getfield 13, 3) := by decide +kernel
theorem dX12_shutsBy_59 : decode cX12_shutsBy 59 = .ok (.iload 5, 2) := by decide +kernel
theorem dX12_shutsBy_61 : decode cX12_shutsBy 61 = .ok (.iload 6, 2) := by decide +kernel
theorem dX12_shutsBy_63 : decode cX12_shutsBy 63 = .ok (.iadd, 1) := by decide +kernel
theorem dX12_shutsBy_64 : decode cX12_shutsBy 64 = .ok (.iconst 0, 1) := by decide +kernel
theorem dX12_shutsBy_65 : decode cX12_shutsBy 65 = .ok (.iastore, 1) := by decide +kernel
theorem dX12_shutsBy_66 : decode cX12_shutsBy 66 = .ok (.iinc 6 1, 3) := by decide +kernel
theorem dX12_shutsBy_69 : decode cX12_shutsBy 69 = .ok (.goto (-21), 3) := by decide +kernel
theorem dX12_shutsBy_72 : decode cX12_shutsBy 72 = .ok (.aload_n 0, 1) := by decide +kernel
theorem dX12_shutsBy_73 : decode cX12_shutsBy 73 = .ok (.getfield 13, 3) := by decide +kernel
theorem dX12_shutsBy_76 : decode cX12_shutsBy 76 = .ok (.iload 5, 2) := by decide +kernel
theorem dX12_shutsBy_78 : decode cX12_shutsBy 78 = .ok (.aload_n 0, 1) := by decide +kernel
theorem dX12_shutsBy_79 : decode cX12_shutsBy 79 = .ok (.getfield 79, 3) := by decide +kernel
theorem dX12_shutsBy_82 : decode cX12_shutsBy 82 = .ok (.bipush 60, 2) := by decide +kernel
theorem dX12_shutsBy_84 : decode cX12_shutsBy 84 = .ok (.iload_n 1, 1) := by decide +kernel
theorem dX12_shutsBy_85 : decode cX12_shutsBy 85 = .ok (.imul, 1) := by decide +kernel
theorem dX12_shutsBy_86 : decode cX12_shutsBy 86 = .ok (.iload 4, 2) := by decide +kernel
theorem dX12_shutsBy_88 : decode cX12_shutsBy 88 = .ok (.iadd, 1) := by decide +kernel
theorem dX12_shutsBy_89 : decode cX12_shutsBy 89 = .ok (.laload, 1) := by decide +kernel
theorem dX12_shutsBy_90 : decode cX12_shutsBy 90 = .ok (.l2i, 1) := by decide +kernel
theorem dX12_shutsBy_91 : decode cX12_shutsBy 91 = .ok (.iastore, 1) := by decide +kernel
theorem dX12_shutsBy_92 : decode cX12_shutsBy 92 = .ok (.aload_n 0, 1) := by decide +kernel
theorem dX12_shutsBy_93 : decode cX12_shutsBy 93 = .ok (.getfield 13, 3) := by decide +kernel
theorem dX12_shutsBy_96 : decode cX12_shutsBy 96 = .ok (.iload 5, 2) := by decide +kernel
theorem dX12_shutsBy_98 : decode cX12_shutsBy 98 = .ok (.iconst 1, 1) := by decide +kernel
theorem dX12_shutsBy_99 : decode cX12_shutsBy 99 = .ok (.iadd, 1) := by decide +kernel
theorem dX12_shutsBy_100 : decode cX12_shutsBy 100 = .ok (.aload_n 0, 1) := by decide +kernel
theorem dX12_shutsBy_101 : decode cX12_shutsBy 101 = .ok (.getfield 13, 3) := by decide +kernel
theorem dX12_shutsBy_104 : decode cX12_shutsBy 104 = .ok (.sipush 625, 3) := by decide +kernel
theorem dX12_shutsBy_107 : decode cX12_shutsBy 107 = .ok (.iaload, 1) := by decide +kernel
theorem dX12_shutsBy_108 : decode cX12_shutsBy 108 = .ok (.iastore, 1) := by decide +kernel
theorem dX12_shutsBy_109 : decode cX12_shutsBy 109 = .ok (.aload_n 0, 1) := by decide +kernel
theorem dX12_shutsBy_110 : decode cX12_shutsBy 110 = .ok (.getfield 13, 3) := by decide +kernel
theorem dX12_shutsBy_113 : decode cX12_shutsBy 113 = .ok (.iload 5, 2) := by decide +kernel
theorem dX12_shutsBy_115 : decode cX12_shutsBy 115 = .ok (.iconst 2, 1) := by decide +kernel
theorem dX12_shutsBy_116 : decode cX12_shutsBy 116 = .ok (.iadd, 1) := by decide +kernel
theorem dX12_shutsBy_117 : decode cX12_shutsBy 117 = .ok (.aload_n 0, 1) := by decide +kernel
theorem dX12_shutsBy_118 : decode cX12_shutsBy 118 = .ok (.getfield 13, 3) := by decide +kernel
theorem dX12_shutsBy_121 : decode cX12_shutsBy 121 = .ok (.sipush 626, 3) := by decide +kernel
theorem dX12_shutsBy_124 : decode cX12_shutsBy 124 = .ok (.iaload, 1) := by decide +kernel
theorem dX12_shutsBy_125 : decode cX12_shutsBy 125 = .ok (.iastore, 1) := by decide +kernel
theorem dX12_shutsBy_126 : decode cX12_shutsBy 126 = .ok (.aload_n 0, 1) := by decide +kernel
theorem dX12_shutsBy_127 : decode cX12_shutsBy 127 = .ok (.getfield 13, 3) := by decide +kernel
theorem dX12_shutsBy_130 : decode cX12_shutsBy 130 = .ok (.iload 5, 2) := by decide +kernel
theorem dX12_shutsBy_132 : decode cX12_shutsBy 132 = .ok (.iconst 3, 1) := by decide +kernel
theorem dX12_shutsBy_133 : decode cX12_shutsBy 133 = .ok (.iadd, 1) := by decide +kernel
theorem dX12_shutsBy_134 : decode cX12_shutsBy 134 = .ok (.iconst 1, 1) := by decide +kernel
theorem dX12_shutsBy_135 : decode cX12_shutsBy 135 = .ok (.iastore, 1) := by decide +kernel
theorem dX12_shutsBy_136 : decode cX12_shutsBy 136 = .ok (.aload_n 0, 1) := by decide +kernel
theorem dX12_shutsBy_137 : decode cX12_shutsBy 137 = .ok (.getfield 13, 3) := by decide +kernel
theorem dX12_shutsBy_140 : decode cX12_shutsBy 140 = .ok (.iconst 2, 1) := by decide +kernel
theorem dX12_shutsBy_141 : decode cX12_shutsBy 141 = .ok (.dup2, 1) := by decide +kernel
theorem dX12_shutsBy_142 : decode cX12_shutsBy 142 = .ok (.iaload, 1) := by decide +kernel
theorem dX12_shutsBy_143 : decode cX12_shutsBy 143 = .ok (.iconst 1, 1) := by decide +kernel
theorem dX12_shutsBy_144 : decode cX12_shutsBy 144 = .ok (.iadd, 1) := by decide +kernel
theorem dX12_shutsBy_145 : decode cX12_shutsBy 145 = .ok (.iastore, 1) := by decide +kernel
theorem dX12_shutsBy_146 : decode cX12_shutsBy 146 = .ok (.iinc 4 1, 3) := by decide +kernel
theorem dX12_shutsBy_149 : decode cX12_shutsBy 149 = .ok (.goto (-142), 3) := by decide +kernel
theorem dX12_shutsBy_152 : decode cX12_shutsBy 152 = .ok (.iconst 0, 1) := by decide +kernel
theorem dX12_shutsBy_153 : decode cX12_shutsBy 153 = .ok (.istore 4, 2) := by decide +kernel
theorem dX12_shutsBy_155 : decode cX12_shutsBy 155 = .ok (.iload 4, 2) := by decide +kernel
theorem dX12_shutsBy_157 : decode cX12_shutsBy 157 = .ok (.iload_n 3, 1) := by decide +kernel
theorem dX12_shutsBy_158 : decode cX12_shutsBy 158 = .ok (.if_icmp .ge 13, 3) := by decide +kernel
theorem dX12_shutsBy_161 : decode cX12_shutsBy 161 = .ok (.aload_n 0, 1) := by decide +kernel
theorem dX12_shutsBy_162 : decode cX12_shutsBy 162 = .ok (.invokevirtual 339, 3) := by decide +kernel
theorem dX12_shutsBy_165 : decode cX12_shutsBy 165 = .ok (.iinc 4 1, 3) := by decide +kernel
theorem dX12_shutsBy_168 : decode cX12_shutsBy 168 = .ok (.goto (-13), 3) := by decide +kernel
theorem dX12_shutsBy_171 : decode cX12_shutsBy 171 = .ok (.aload_n 0, 1) := by decide +kernel
theorem dX12_shutsBy_172 : decode cX12_shutsBy 172 = .ok (.invokevirtual 334, 3) := by decide +kernel
theorem dX12_shutsBy_175 : decode cX12_shutsBy 175 = .ok (.istore 4, 2) := by decide +kernel
theorem dX12_shutsBy_177 : decode cX12_shutsBy 177 = .ok (.aload_n 0, 1) := by decide +kernel
theorem dX12_shutsBy_178 : decode cX12_shutsBy 178 = .ok (.invokevirtual 407, 3) := by decide +kernel
theorem dX12_shutsBy_181 : decode cX12_shutsBy 181 = .ok (.iload 4, 2) := by decide +kernel
theorem dX12_shutsBy_183 : decode cX12_shutsBy 183 = .ok (.ireturn, 1) := by decide +kernel
theorem cw_X12_shutsBy_334 : CwV mi_X12_shutsBy mi_X12_isShut yX12_isShut RX12 334 0 := ⟨⟨w_1559, w_1561, w_75, w_108, w_1562⟩, ⟨by decide, by decide⟩, by decide +kernel, by decide, by decide⟩
theorem cw_X12_shutsBy_407 : CwV mi_X12_shutsBy mi_X12_putsBack yX12_putsBack RX12 407 0 := ⟨⟨w_1701, w_1703, w_91, w_108, w_1704⟩, ⟨by decide, by decide⟩, by decide +kernel, by decide, by decide⟩
theorem cw_X12_shutsBy_339 : CwV mi_X12_shutsBy mi_X12_ticks yX12_ticks RX12 339 0 := ⟨⟨w_1507, w_1509, w_64, w_108, w_1510⟩, ⟨by decide, by decide⟩, by decide +kernel, by decide, by decide⟩
theorem cw_X12_shutsBy_404 : CwV mi_X12_shutsBy mi_X12_saves yX12_saves RX12 404 0 := ⟨⟨w_1697, w_1699, w_90, w_108, w_1700⟩, ⟨by decide, by decide⟩, by decide +kernel, by decide, by decide⟩
theorem j_X12_shutsBy_B171 {l : Launch} {Γ : Am}   : ∀ (r0 : Nat) (z : Hp), J l Γ mi_X12_shutsBy cvI 0 0 171 [(0, .ref (mB Γ + r0))] [] z (m_X12_shutsBy_B171  r0 z) := by
  intro r0 z
  unfold m_X12_shutsBy_B171
  refine j_aload_n (pc := 171) 0 dX12_shutsBy_171 rfl rfl ?_
  refine j_isC (fun h3 => ?_)
  refine j_callV_I (pc := 172) (as := []) (mc2 := 0) (ms2 := 0) (ct_X12_isShut _ _) h3 rfl cw_X12_shutsBy_334 dX12_shutsBy_172 (Nat.le_of_ble_eq_true rfl) rfl (by decide) (by decide) (fun x2 z1 => ?_)
  refine j_istore (pc := 175) (lv2 := [(4, .int x2), (0, .ref (mB Γ + r0))]) dX12_shutsBy_175 (by decide) rfl ?_
  refine j_aload_n (pc := 177) 1 dX12_shutsBy_177 rfl rfl ?_
  refine j_isC (fun h5 => ?_)
  refine j_callV_V (pc := 178) (as := []) (mc2 := 0) (ms2 := 0) (ct_X12_putsBack _ _) h5 rfl cw_X12_shutsBy_407 dX12_shutsBy_178 (Nat.le_of_ble_eq_true rfl) rfl (by decide) (by decide) (fun _ z4 => ?_)
  refine j_iload (pc := 181) 0 dX12_shutsBy_181 rfl ?_
  exact j_zreturn (pc := 183) dX12_shutsBy_183 rfl
theorem j_X12_shutsBy_L155 {l : Launch} {Γ : Am} {k171 : Nat → Hp → Option (Int32 × Hp)} (hL171 : ∀ (r0 : Nat) (z : Hp), J l Γ mi_X12_shutsBy cvI 0 0 171 [(0, .ref (mB Γ + r0))] [] z (k171 r0 z)) : ∀ (f : Nat), ∀ (r0 : Nat) (v3 : Int32) (v4 : Int32) (z : Hp), J l Γ mi_X12_shutsBy cvI 0 0 155 [(0, .ref (mB Γ + r0)), (3, .int v3), (4, .int v4)] [] z (m_X12_shutsBy_L155 k171 f r0 v3 v4 z) := by
  intro f
  induction f with
  | zero => intro r0 v3 v4 z; exact J.none
  | succ f hL155 =>
    intro r0 v3 v4 z
    rw [m_X12_shutsBy_L155]
    refine j_iload (pc := 155) 2 dX12_shutsBy_155 rfl ?_
    refine j_iload_n (pc := 157) 1 dX12_shutsBy_157 rfl rfl ?_
    refine j_icmp_ge (pc := 158) 171 dX12_shutsBy_158 (by decide) ?_ ?_
    · exact J.sub [0] rfl (hL171 r0 z)
    refine j_aload_n (pc := 161) 0 dX12_shutsBy_161 rfl rfl ?_
    refine j_isC (fun h7 => ?_)
    refine j_callV_V (pc := 162) (as := []) (mc2 := 0) (ms2 := 0) (ct_X12_ticks _ _) h7 rfl cw_X12_shutsBy_339 dX12_shutsBy_162 (Nat.le_of_ble_eq_true rfl) rfl (by decide) (by decide) (fun _ z6 => ?_)
    refine j_iinc (pc := 165) (n0 := 2) (v0 := v4 + 1) (lv2 := [(4, .int (v4 + 1)), (0, .ref (mB Γ + r0)), (3, .int v3)]) dX12_shutsBy_165 rfl rfl (by decide) rfl ?_
    refine j_goto (pc := 168) 155 dX12_shutsBy_168 (by decide) ?_
    exact J.sub [1, 2, 0] rfl (hL155 r0 v3 (v4 + 1) z6)
theorem j_X12_shutsBy_B152 {l : Launch} {Γ : Am}   : ∀ (r0 : Nat) (v3 : Int32) (z : Hp), J l Γ mi_X12_shutsBy cvI 0 0 152 [(0, .ref (mB Γ + r0)), (3, .int v3)] [] z (m_X12_shutsBy_B152  r0 v3 z) := by
  intro r0 v3 z
  unfold m_X12_shutsBy_B152
  refine j_iconst (pc := 152) (v := 0) dX12_shutsBy_152 (by decide) ?_
  refine j_istore (pc := 153) (lv2 := [(4, .int 0), (0, .ref (mB Γ + r0)), (3, .int v3)]) dX12_shutsBy_153 (by decide) rfl ?_
  exact J.sub [1, 2, 0] rfl ((j_X12_shutsBy_L155 j_X12_shutsBy_B171 FU) r0 v3 0 z)
theorem j_X12_shutsBy_B146 {l : Launch} {Γ : Am} {k7 : Nat → Int32 → Int32 → Int32 → Int32 → Hp → Option (Int32 × Hp)} (hL7 : ∀ (r0 : Nat) (v1 : Int32) (v2 : Int32) (v3 : Int32) (v4 : Int32) (z : Hp), J l Γ mi_X12_shutsBy cvI 0 0 7 [(0, .ref (mB Γ + r0)), (1, .int v1), (2, .int v2), (3, .int v3), (4, .int v4)] [] z (k7 r0 v1 v2 v3 v4 z)) : ∀ (r0 : Nat) (v1 : Int32) (v2 : Int32) (v3 : Int32) (v4 : Int32) (z : Hp), J l Γ mi_X12_shutsBy cvI 0 0 146 [(0, .ref (mB Γ + r0)), (1, .int v1), (2, .int v2), (3, .int v3), (4, .int v4)] [] z (m_X12_shutsBy_B146 k7 r0 v1 v2 v3 v4 z) := by
  intro r0 v1 v2 v3 v4 z
  unfold m_X12_shutsBy_B146
  refine j_iinc (pc := 146) (n0 := 4) (v0 := v4 + 1) (lv2 := [(4, .int (v4 + 1)), (0, .ref (mB Γ + r0)), (1, .int v1), (2, .int v2), (3, .int v3)]) dX12_shutsBy_146 rfl rfl (by decide) rfl ?_
  refine j_goto (pc := 149) 7 dX12_shutsBy_149 (by decide) ?_
  exact J.sub [1, 2, 3, 4, 0] rfl (hL7 r0 v1 v2 v3 (v4 + 1) z)
theorem j_X12_shutsBy_B72 {l : Launch} {Γ : Am} {k7 : Nat → Int32 → Int32 → Int32 → Int32 → Hp → Option (Int32 × Hp)} (hL7 : ∀ (r0 : Nat) (v1 : Int32) (v2 : Int32) (v3 : Int32) (v4 : Int32) (z : Hp), J l Γ mi_X12_shutsBy cvI 0 0 7 [(0, .ref (mB Γ + r0)), (1, .int v1), (2, .int v2), (3, .int v3), (4, .int v4)] [] z (k7 r0 v1 v2 v3 v4 z)) : ∀ (r0 : Nat) (v1 : Int32) (v2 : Int32) (v3 : Int32) (v4 : Int32) (v5 : Int32) (z : Hp), J l Γ mi_X12_shutsBy cvI 0 0 72 [(0, .ref (mB Γ + r0)), (1, .int v1), (2, .int v2), (3, .int v3), (4, .int v4), (5, .int v5)] [] z (m_X12_shutsBy_B72 k7 r0 v1 v2 v3 v4 v5 z) := by
  intro r0 v1 v2 v3 v4 v5 z
  unfold m_X12_shutsBy_B72
  refine j_aload_n (pc := 72) 0 dX12_shutsBy_72 rfl rfl ?_
  refine j_getR (pc := 73) ok_X12 (by decide) rfl w_1239 dX12_shutsBy_73 (fun a8 => ?_)
  refine j_iload (pc := 76) 5 dX12_shutsBy_76 rfl ?_
  refine j_aload_n (pc := 78) 0 dX12_shutsBy_78 rfl rfl ?_
  refine j_getR (pc := 79) ok_X12 (by decide) rfl w_1276 dX12_shutsBy_79 (fun a9 => ?_)
  refine j_bipush (pc := 82) (v := 60) dX12_shutsBy_82 (by decide) ?_
  refine j_iload_n (pc := 84) 1 dX12_shutsBy_84 rfl rfl ?_
  refine j_imul (pc := 85) dX12_shutsBy_85 ?_
  refine j_iload (pc := 86) 4 dX12_shutsBy_86 rfl ?_
  refine j_iadd (pc := 88) dX12_shutsBy_88 ?_
  refine j_laload (pc := 89) dX12_shutsBy_89 (fun x10 => ?_)
  refine j_l2i (pc := 90) dX12_shutsBy_90 ?_
  refine j_iastore (pc := 91) dX12_shutsBy_91 (fun z11 => ?_)
  refine j_aload_n (pc := 92) 0 dX12_shutsBy_92 rfl rfl ?_
  refine j_getR (pc := 93) ok_X12 (by decide) rfl w_1239 dX12_shutsBy_93 (fun a12 => ?_)
  refine j_iload (pc := 96) 5 dX12_shutsBy_96 rfl ?_
  refine j_iconst (pc := 98) (v := 1) dX12_shutsBy_98 (by decide) ?_
  refine j_iadd (pc := 99) dX12_shutsBy_99 ?_
  refine j_aload_n (pc := 100) 0 dX12_shutsBy_100 rfl rfl ?_
  refine j_getR (pc := 101) ok_X12 (by decide) rfl w_1239 dX12_shutsBy_101 (fun a13 => ?_)
  refine j_sipush (pc := 104) (v := 625) dX12_shutsBy_104 (by decide) ?_
  refine j_iaload (pc := 107) dX12_shutsBy_107 (fun x14 => ?_)
  refine j_iastore (pc := 108) dX12_shutsBy_108 (fun z15 => ?_)
  refine j_aload_n (pc := 109) 0 dX12_shutsBy_109 rfl rfl ?_
  refine j_getR (pc := 110) ok_X12 (by decide) rfl w_1239 dX12_shutsBy_110 (fun a16 => ?_)
  refine j_iload (pc := 113) 5 dX12_shutsBy_113 rfl ?_
  refine j_iconst (pc := 115) (v := 2) dX12_shutsBy_115 (by decide) ?_
  refine j_iadd (pc := 116) dX12_shutsBy_116 ?_
  refine j_aload_n (pc := 117) 0 dX12_shutsBy_117 rfl rfl ?_
  refine j_getR (pc := 118) ok_X12 (by decide) rfl w_1239 dX12_shutsBy_118 (fun a17 => ?_)
  refine j_sipush (pc := 121) (v := 626) dX12_shutsBy_121 (by decide) ?_
  refine j_iaload (pc := 124) dX12_shutsBy_124 (fun x18 => ?_)
  refine j_iastore (pc := 125) dX12_shutsBy_125 (fun z19 => ?_)
  refine j_aload_n (pc := 126) 0 dX12_shutsBy_126 rfl rfl ?_
  refine j_getR (pc := 127) ok_X12 (by decide) rfl w_1239 dX12_shutsBy_127 (fun a20 => ?_)
  refine j_iload (pc := 130) 5 dX12_shutsBy_130 rfl ?_
  refine j_iconst (pc := 132) (v := 3) dX12_shutsBy_132 (by decide) ?_
  refine j_iadd (pc := 133) dX12_shutsBy_133 ?_
  refine j_iconst (pc := 134) (v := 1) dX12_shutsBy_134 (by decide) ?_
  refine j_iastore (pc := 135) dX12_shutsBy_135 (fun z21 => ?_)
  refine j_aload_n (pc := 136) 0 dX12_shutsBy_136 rfl rfl ?_
  refine j_getR (pc := 137) ok_X12 (by decide) rfl w_1239 dX12_shutsBy_137 (fun a22 => ?_)
  refine j_iconst (pc := 140) (v := 2) dX12_shutsBy_140 (by decide) ?_
  refine j_dup2 (pc := 141) dX12_shutsBy_141 rfl rfl ?_
  refine j_iaload (pc := 142) dX12_shutsBy_142 (fun x23 => ?_)
  refine j_iconst (pc := 143) (v := 1) dX12_shutsBy_143 (by decide) ?_
  refine j_iadd (pc := 144) dX12_shutsBy_144 ?_
  refine j_iastore (pc := 145) dX12_shutsBy_145 (fun z24 => ?_)
  exact J.sub [0, 1, 2, 3, 4] rfl ((j_X12_shutsBy_B146 hL7) r0 v1 v2 v3 v4 z24)
theorem j_X12_shutsBy_L48 {l : Launch} {Γ : Am} {k72 : Nat → Int32 → Int32 → Int32 → Int32 → Int32 → Hp → Option (Int32 × Hp)} (hL72 : ∀ (r0 : Nat) (v1 : Int32) (v2 : Int32) (v3 : Int32) (v4 : Int32) (v5 : Int32) (z : Hp), J l Γ mi_X12_shutsBy cvI 0 0 72 [(0, .ref (mB Γ + r0)), (1, .int v1), (2, .int v2), (3, .int v3), (4, .int v4), (5, .int v5)] [] z (k72 r0 v1 v2 v3 v4 v5 z)) : ∀ (f : Nat), ∀ (r0 : Nat) (v1 : Int32) (v2 : Int32) (v3 : Int32) (v4 : Int32) (v5 : Int32) (v6 : Int32) (z : Hp), J l Γ mi_X12_shutsBy cvI 0 0 48 [(0, .ref (mB Γ + r0)), (1, .int v1), (2, .int v2), (3, .int v3), (4, .int v4), (5, .int v5), (6, .int v6)] [] z (m_X12_shutsBy_L48 k72 f r0 v1 v2 v3 v4 v5 v6 z) := by
  intro f
  induction f with
  | zero => intro r0 v1 v2 v3 v4 v5 v6 z; exact J.none
  | succ f hL48 =>
    intro r0 v1 v2 v3 v4 v5 v6 z
    rw [m_X12_shutsBy_L48]
    refine j_iload (pc := 48) 6 dX12_shutsBy_48 rfl ?_
    refine j_bipush (pc := 50) (v := 6) dX12_shutsBy_50 (by decide) ?_
    refine j_icmp_ge (pc := 52) 72 dX12_shutsBy_52 (by decide) ?_ ?_
    · exact J.sub [0, 1, 2, 3, 4, 5] rfl (hL72 r0 v1 v2 v3 v4 v5 z)
    refine j_aload_n (pc := 55) 0 dX12_shutsBy_55 rfl rfl ?_
    refine j_getR (pc := 56) ok_X12 (by decide) rfl w_1239 dX12_shutsBy_56 (fun a25 => ?_)
    refine j_iload (pc := 59) 5 dX12_shutsBy_59 rfl ?_
    refine j_iload (pc := 61) 6 dX12_shutsBy_61 rfl ?_
    refine j_iadd (pc := 63) dX12_shutsBy_63 ?_
    refine j_iconst (pc := 64) (v := 0) dX12_shutsBy_64 (by decide) ?_
    refine j_iastore (pc := 65) dX12_shutsBy_65 (fun z26 => ?_)
    refine j_iinc (pc := 66) (n0 := 6) (v0 := v6 + 1) (lv2 := [(6, .int (v6 + 1)), (0, .ref (mB Γ + r0)), (1, .int v1), (2, .int v2), (3, .int v3), (4, .int v4), (5, .int v5)]) dX12_shutsBy_66 rfl rfl (by decide) rfl ?_
    refine j_goto (pc := 69) 48 dX12_shutsBy_69 (by decide) ?_
    exact J.sub [1, 2, 3, 4, 5, 6, 0] rfl (hL48 r0 v1 v2 v3 v4 v5 (v6 + 1) z26)
theorem j_X12_shutsBy_L7 {l : Launch} {Γ : Am} {k152 : Nat → Int32 → Hp → Option (Int32 × Hp)} (hL152 : ∀ (r0 : Nat) (v3 : Int32) (z : Hp), J l Γ mi_X12_shutsBy cvI 0 0 152 [(0, .ref (mB Γ + r0)), (3, .int v3)] [] z (k152 r0 v3 z)) : ∀ (f : Nat), ∀ (r0 : Nat) (v1 : Int32) (v2 : Int32) (v3 : Int32) (v4 : Int32) (z : Hp), J l Γ mi_X12_shutsBy cvI 0 0 7 [(0, .ref (mB Γ + r0)), (1, .int v1), (2, .int v2), (3, .int v3), (4, .int v4)] [] z (m_X12_shutsBy_L7 k152 f r0 v1 v2 v3 v4 z) := by
  intro f
  induction f with
  | zero => intro r0 v1 v2 v3 v4 z; exact J.none
  | succ f hL7 =>
    intro r0 v1 v2 v3 v4 z
    rw [m_X12_shutsBy_L7]
    refine j_iload (pc := 7) 4 dX12_shutsBy_7 rfl ?_
    refine j_aload_n (pc := 9) 0 dX12_shutsBy_9 rfl rfl ?_
    refine j_getR (pc := 10) ok_X12 (by decide) rfl w_1274 dX12_shutsBy_10 (fun a27 => ?_)
    refine j_iload_n (pc := 13) 1 dX12_shutsBy_13 rfl rfl ?_
    refine j_iaload (pc := 14) dX12_shutsBy_14 (fun x28 => ?_)
    refine j_icmp_ge (pc := 15) 152 dX12_shutsBy_15 (by decide) ?_ ?_
    · exact J.sub [0, 3] rfl (hL152 r0 v3 z)
    refine j_iload_n (pc := 18) 2 dX12_shutsBy_18 rfl rfl ?_
    refine j_iload (pc := 19) 4 dX12_shutsBy_19 rfl ?_
    refine j_ishr (pc := 21) dX12_shutsBy_21 ?_
    refine j_iconst (pc := 22) (v := 1) dX12_shutsBy_22 (by decide) ?_
    refine j_iand (pc := 23) dX12_shutsBy_23 ?_
    refine j_if_ne (pc := 24) 30 dX12_shutsBy_24 (by decide) ?_ ?_
    · refine j_sipush (pc := 30) (v := 624) dX12_shutsBy_30 (by decide) ?_
      refine j_bipush (pc := 33) (v := 6) dX12_shutsBy_33 (by decide) ?_
      refine j_aload_n (pc := 35) 0 dX12_shutsBy_35 rfl rfl ?_
      refine j_getR (pc := 36) ok_X12 (by decide) rfl w_1239 dX12_shutsBy_36 (fun a29 => ?_)
      refine j_iconst (pc := 39) (v := 2) dX12_shutsBy_39 (by decide) ?_
      refine j_iaload (pc := 40) dX12_shutsBy_40 (fun x30 => ?_)
      refine j_imul (pc := 41) dX12_shutsBy_41 ?_
      refine j_iadd (pc := 42) dX12_shutsBy_42 ?_
      refine j_istore (pc := 43) (lv2 := [(5, .int (624 + (6 * x30))), (0, .ref (mB Γ + r0)), (1, .int v1), (2, .int v2), (3, .int v3), (4, .int v4)]) dX12_shutsBy_43 (by decide) rfl ?_
      refine j_iconst (pc := 45) (v := 0) dX12_shutsBy_45 (by decide) ?_
      refine j_istore (pc := 46) (lv2 := [(6, .int 0), (5, .int (624 + (6 * x30))), (0, .ref (mB Γ + r0)), (1, .int v1), (2, .int v2), (3, .int v3), (4, .int v4)]) dX12_shutsBy_46 (by decide) rfl ?_
      exact J.sub [2, 3, 4, 5, 6, 1, 0] rfl ((j_X12_shutsBy_L48 (j_X12_shutsBy_B72 hL7) FU) r0 v1 v2 v3 v4 (624 + (6 * x30)) 0 z)
    refine j_goto (pc := 27) 146 dX12_shutsBy_27 (by decide) ?_
    exact J.sub [0, 1, 2, 3, 4] rfl ((j_X12_shutsBy_B146 hL7) r0 v1 v2 v3 v4 z)
theorem ct_X12_shutsBy {l : Launch} {Γ : Am} (r0 : Nat) (v1 : Int32) (v2 : Int32) (v3 : Int32) (z : Hp) : Ct l Γ yX12_shutsBy mi_X12_shutsBy cvI [.ref (mB Γ + r0), .int v1, .int v2, .int v3] z (m_X12_shutsBy r0 v1 v2 v3 z) := by
  refine Ct.ofJ (by decide) ⟨rfl, rfl⟩ (Nat.le_of_ble_eq_true rfl) ?_
  unfold m_X12_shutsBy
  show J l Γ mi_X12_shutsBy cvI 0 0 0 [(0, .ref (mB Γ + r0)), (1, .int v1), (2, .int v2), (3, .int v3)] [] z _
  refine j_aload_n (pc := 0) 0 dX12_shutsBy_0 rfl rfl ?_
  refine j_isC (fun h32 => ?_)
  refine j_callV_V (pc := 1) (as := []) (mc2 := 0) (ms2 := 0) (ct_X12_saves _ _) h32 rfl cw_X12_shutsBy_404 dX12_shutsBy_1 (Nat.le_of_ble_eq_true rfl) rfl (by decide) (by decide) (fun _ z31 => ?_)
  refine j_iconst (pc := 4) (v := 0) dX12_shutsBy_4 (by decide) ?_
  refine j_istore (pc := 5) (lv2 := [(4, .int 0), (0, .ref (mB Γ + r0)), (1, .int v1), (2, .int v2), (3, .int v3)]) dX12_shutsBy_5 (by decide) rfl ?_
  exact J.sub [1, 2, 3, 4, 0] rfl ((j_X12_shutsBy_L7 j_X12_shutsBy_B152 FU) r0 v1 v2 v3 0 z31)
theorem dX12_ones_0 : decode cX12_ones 0 = .ok (.iconst 0, 1) := by decide +kernel
theorem dX12_ones_1 : decode cX12_ones 1 = .ok (.istore_n 1, 1) := by decide +kernel
theorem dX12_ones_2 : decode cX12_ones 2 = .ok (.iconst 0, 1) := by decide +kernel
theorem dX12_ones_3 : decode cX12_ones 3 = .ok (.istore_n 2, 1) := by decide +kernel
theorem dX12_ones_4 : decode cX12_ones 4 = .ok (.iload_n 2, 1) := by decide +kernel
theorem dX12_ones_5 : decode cX12_ones 5 = .ok (.bipush 6, 2) := by decide +kernel
theorem dX12_ones_7 : decode cX12_ones 7 = .ok (.if_icmp .ge 17, 3) := by decide +kernel
theorem dX12_ones_10 : decode cX12_ones 10 = .ok (.iload_n 1, 1) := by decide +kernel
theorem dX12_ones_11 : decode cX12_ones 11 = .ok (.iload_n 0, 1) := by decide +kernel
theorem dX12_ones_12 : decode cX12_ones 12 = .ok (.iload_n 2, 1) := by decide +kernel
theorem dX12_ones_13 : decode cX12_ones 13 = .ok (.ishr, 1) := by decide +kernel
theorem dX12_ones_14 : decode cX12_ones 14 = .ok (.iconst 1, 1) := by decide +kernel
theorem dX12_ones_15 : decode cX12_ones 15 = .ok (.iand, 1) := by decide +kernel
theorem dX12_ones_16 : decode cX12_ones 16 = .ok (.iadd, 1) := by decide +kernel
theorem dX12_ones_17 : decode cX12_ones 17 = .ok (.istore_n 1, 1) := by decide +kernel
theorem dX12_ones_18 : decode cX12_ones 18 = .ok (.iinc 2 1, 3) := by decide +kernel
theorem dX12_ones_21 : decode cX12_ones 21 = .ok (.goto (-17), 3) := by decide +kernel
theorem dX12_ones_24 : decode cX12_ones 24 = .ok (.iload_n 1, 1) := by decide +kernel
theorem dX12_ones_25 : decode cX12_ones 25 = .ok (.ireturn, 1) := by decide +kernel
theorem j_X12_ones_L4 {l : Launch} {Γ : Am}   : ∀ (f : Nat), ∀ (v0 : Int32) (v1 : Int32) (v2 : Int32) (z : Hp), J l Γ mi_X12_ones cvI 0 0 4 [(0, .int v0), (1, .int v1), (2, .int v2)] [] z (m_X12_ones_L4  f v0 v1 v2 z) := by
  intro f
  induction f with
  | zero => intro v0 v1 v2 z; exact J.none
  | succ f hL4 =>
    intro v0 v1 v2 z
    rw [m_X12_ones_L4]
    refine j_iload_n (pc := 4) 2 dX12_ones_4 rfl rfl ?_
    refine j_bipush (pc := 5) (v := 6) dX12_ones_5 (by decide) ?_
    refine j_icmp_ge (pc := 7) 24 dX12_ones_7 (by decide) ?_ ?_
    · refine j_iload_n (pc := 24) 1 dX12_ones_24 rfl rfl ?_
      exact j_ireturn (pc := 25) dX12_ones_25 rfl rfl
    refine j_iload_n (pc := 10) 1 dX12_ones_10 rfl rfl ?_
    refine j_iload_n (pc := 11) 0 dX12_ones_11 rfl rfl ?_
    refine j_iload_n (pc := 12) 2 dX12_ones_12 rfl rfl ?_
    refine j_ishr (pc := 13) dX12_ones_13 ?_
    refine j_iconst (pc := 14) (v := 1) dX12_ones_14 (by decide) ?_
    refine j_iand (pc := 15) dX12_ones_15 ?_
    refine j_iadd (pc := 16) dX12_ones_16 ?_
    refine j_istore_n (pc := 17) (lv2 := [(1, .int (v1 + ((v0 >>> (v2 &&& 31)) &&& 1))), (0, .int v0), (2, .int v2)]) dX12_ones_17 rfl (by decide) rfl ?_
    refine j_iinc (pc := 18) (n0 := 2) (v0 := v2 + 1) (lv2 := [(2, .int (v2 + 1)), (1, .int (v1 + ((v0 >>> (v2 &&& 31)) &&& 1))), (0, .int v0)]) dX12_ones_18 rfl rfl (by decide) rfl ?_
    refine j_goto (pc := 21) 4 dX12_ones_21 (by decide) ?_
    exact J.sub [2, 1, 0] rfl (hL4 v0 (v1 + ((v0 >>> (v2 &&& 31)) &&& 1)) (v2 + 1) z)
theorem ct_X12_ones {l : Launch} {Γ : Am} (v0 : Int32) (z : Hp) : Ct l Γ yX12_ones mi_X12_ones cvI [.int v0] z (m_X12_ones v0 z) := by
  refine Ct.ofJ (by decide) ⟨rfl, rfl⟩ (Nat.le_of_ble_eq_true rfl) ?_
  unfold m_X12_ones
  show J l Γ mi_X12_ones cvI 0 0 0 [(0, .int v0)] [] z _
  refine j_iconst (pc := 0) (v := 0) dX12_ones_0 (by decide) ?_
  refine j_istore_n (pc := 1) (lv2 := [(1, .int 0), (0, .int v0)]) dX12_ones_1 rfl (by decide) rfl ?_
  refine j_iconst (pc := 2) (v := 0) dX12_ones_2 (by decide) ?_
  refine j_istore_n (pc := 3) (lv2 := [(2, .int 0), (1, .int 0), (0, .int v0)]) dX12_ones_3 rfl (by decide) rfl ?_
  exact J.sub [2, 1, 0] rfl ((j_X12_ones_L4 FU) v0 0 0 z)
theorem dX12_isAhead_0 : decode cX12_isAhead 0 = .ok (.iload_n 0, 1) := by decide +kernel
theorem dX12_isAhead_1 : decode cX12_isAhead 1 = .ok (.iload_n 1, 1) := by decide +kernel
theorem dX12_isAhead_2 : decode cX12_isAhead 2 = .ok (.ixor, 1) := by decide +kernel
theorem dX12_isAhead_3 : decode cX12_isAhead 3 = .ok (.istore_n 2, 1) := by decide +kernel
theorem dX12_isAhead_4 : decode cX12_isAhead 4 = .ok (.iload_n 0, 1) := by decide +kernel
theorem dX12_isAhead_5 : decode cX12_isAhead 5 = .ok (.iload_n 2, 1) := by decide +kernel
theorem dX12_isAhead_6 : decode cX12_isAhead 6 = .ok (.iand, 1) := by decide +kernel
theorem dX12_isAhead_7 : decode cX12_isAhead 7 = .ok (.iload_n 2, 1) := by decide +kernel
theorem dX12_isAhead_8 : decode cX12_isAhead 8 = .ok (.ineg, 1) := by decide +kernel
theorem dX12_isAhead_9 : decode cX12_isAhead 9 = .ok (.iand, 1) := by decide +kernel
theorem dX12_isAhead_10 : decode cX12_isAhead 10 = .ok (.ifCond .eq 7, 3) := by decide +kernel
theorem dX12_isAhead_13 : decode cX12_isAhead 13 = .ok (.iconst 1, 1) := by decide +kernel
theorem dX12_isAhead_14 : decode cX12_isAhead 14 = .ok (.goto 4, 3) := by decide +kernel
theorem dX12_isAhead_17 : decode cX12_isAhead 17 = .ok (.iconst 0, 1) := by decide +kernel
theorem dX12_isAhead_18 : decode cX12_isAhead 18 = .ok (.ireturn, 1) := by decide +kernel
theorem ct_X12_isAhead {l : Launch} {Γ : Am} (v0 : Int32) (v1 : Int32) (z : Hp) : Ct l Γ yX12_isAhead mi_X12_isAhead cvI [.int v0, .int v1] z (m_X12_isAhead v0 v1 z) := by
  refine Ct.ofJ (by decide) ⟨rfl, rfl⟩ (Nat.le_of_ble_eq_true rfl) ?_
  unfold m_X12_isAhead
  show J l Γ mi_X12_isAhead cvI 0 0 0 [(0, .int v0), (1, .int v1)] [] z _
  refine j_iload_n (pc := 0) 0 dX12_isAhead_0 rfl rfl ?_
  refine j_iload_n (pc := 1) 1 dX12_isAhead_1 rfl rfl ?_
  refine j_ixor (pc := 2) dX12_isAhead_2 ?_
  refine j_istore_n (pc := 3) (lv2 := [(2, .int (v0 ^^^ v1)), (0, .int v0), (1, .int v1)]) dX12_isAhead_3 rfl (by decide) rfl ?_
  refine j_iload_n (pc := 4) 1 dX12_isAhead_4 rfl rfl ?_
  refine j_iload_n (pc := 5) 0 dX12_isAhead_5 rfl rfl ?_
  refine j_iand (pc := 6) dX12_isAhead_6 ?_
  refine j_iload_n (pc := 7) 0 dX12_isAhead_7 rfl rfl ?_
  refine j_ineg (pc := 8) dX12_isAhead_8 ?_
  refine j_iand (pc := 9) dX12_isAhead_9 ?_
  refine j_if_eq (pc := 10) 17 dX12_isAhead_10 (by decide) ?_ ?_
  · refine j_iconst (pc := 17) (v := 0) dX12_isAhead_17 (by decide) ?_
    exact j_ireturn (pc := 18) dX12_isAhead_18 rfl rfl
  refine j_iconst (pc := 13) (v := 1) dX12_isAhead_13 (by decide) ?_
  refine j_goto (pc := 14) 18 dX12_isAhead_14 (by decide) ?_
  exact j_ireturn (pc := 18) dX12_isAhead_18 rfl rfl
theorem dX12_mayTell_0 : decode cX12_mayTell 0 = .ok (.iconst 0, 1) := by decide +kernel
theorem dX12_mayTell_1 : decode cX12_mayTell 1 = .ok (.istore_n 2, 1) := by decide +kernel
theorem dX12_mayTell_2 : decode cX12_mayTell 2 = .ok (.iload_n 2, 1) := by decide +kernel
theorem dX12_mayTell_3 : decode cX12_mayTell 3 = .ok (.aload_n 0, 1) := by decide +kernel
theorem dX12_mayTell_4 : decode cX12_mayTell 4 = .ok (.getfield 73, 3) := by decide +kernel
theorem dX12_mayTell_7 : decode cX12_mayTell 7 = .ok (.iload_n 1, 1) := by decide +kernel
theorem dX12_mayTell_8 : decode cX12_mayTell 8 = .ok (.iaload, 1) := by decide +kernel
theorem dX12_mayTell_9 : decode cX12_mayTell 9 = .ok (.if_icmp .ge 87, 3) := by decide +kernel
theorem dX12_mayTell_12 : decode cX12_mayTell 12 = .ok (.aload_n 0, 1) := by decide +kernel
theorem dX12_mayTell_13 : decode cX12_mayTell 13 = .ok (.getfield 79, 3) := by decide +kernel
theorem dX12_mayTell_16 : decode cX12_mayTell 16 = .ok (.bipush 60, 2) := by decide +kernel
theorem dX12_mayTell_18 : decode cX12_mayTell 18 = .ok (.iload_n 1, 1) := by decide +kernel
theorem dX12_mayTell_19 : decode cX12_mayTell 19 = .ok (.imul, 1) := by decide +kernel
theorem dX12_mayTell_20 : decode cX12_mayTell 20 = .ok (.iload_n 2, 1) := by decide +kernel
theorem dX12_mayTell_21 : decode cX12_mayTell 21 = .ok (.iadd, 1) := by decide +kernel
theorem dX12_mayTell_22 : decode cX12_mayTell 22 = .ok (.laload, 1) := by decide +kernel
theorem dX12_mayTell_23 : decode cX12_mayTell 23 = .ok (.lstore_n 3, 1) := by decide +kernel
theorem dX12_mayTell_24 : decode cX12_mayTell 24 = .ok (.lload_n 3, 1) := by decide +kernel
theorem dX12_mayTell_25 : decode cX12_mayTell 25 = .ok (.lconst 0, 1) := by decide +kernel
theorem dX12_mayTell_26 : decode cX12_mayTell 26 = .ok (.ldc2_w 410, 3) := by decide +kernel
theorem dX12_mayTell_29 : decode cX12_mayTell 29 = .ok (.invokestatic 110, 3) := by decide +kernel
theorem dX12_mayTell_32 : decode cX12_mayTell 32 = .ok (.ifCond .eq 22, 3) := by decide +kernel
theorem dX12_mayTell_35 : decode cX12_mayTell 35 = .ok (.aload_n 0, 1) := by decide +kernel
theorem dX12_mayTell_36 : decode cX12_mayTell 36 = .ok (.lload_n 3, 1) := by decide +kernel
theorem dX12_mayTell_37 : decode cX12_mayTell 37 = .ok (.l2i, 1) := by decide +kernel
theorem dX12_mayTell_38 : decode cX12_mayTell 38 = .ok (.invokevirtual 343, 3) := by decide +kernel
theorem dX12_mayTell_41 : decode cX12_mayTell 41 = .ok (.iconst (-1), 1) := by decide +kernel
theorem dX12_mayTell_42 : decode cX12_mayTell 42 = .ok (.if_icmp .ne 12, 3) := by decide +kernel
theorem dX12_mayTell_45 : decode cX12_mayTell 45 = .ok (.aload_n 0, 1) := by decide +kernel
theorem dX12_mayTell_46 : decode cX12_mayTell 46 = .ok (.lload_n 3, 1) := by decide +kernel
theorem dX12_mayTell_47 : decode cX12_mayTell 47 = .ok (.l2i, 1) := by decide +kernel
theorem dX12_mayTell_48 : decode cX12_mayTell 48 = .ok (.invokevirtual 102, 3) := by decide +kernel
theorem dX12_mayTell_51 : decode cX12_mayTell 51 = .ok (.ifCond .eq 5, 3) := by decide +kernel
theorem dX12_mayTell_54 : decode cX12_mayTell 54 = .ok (.iconst 0, 1) := by decide +kernel
theorem dX12_mayTell_55 : decode cX12_mayTell 55 = .ok (.ireturn, 1) := by decide +kernel
theorem dX12_mayTell_56 : decode cX12_mayTell 56 = .ok (.iconst 0, 1) := by decide +kernel
theorem dX12_mayTell_57 : decode cX12_mayTell 57 = .ok (.istore 5, 2) := by decide +kernel
theorem dX12_mayTell_59 : decode cX12_mayTell 59 = .ok (.iload 5, 2) := by decide +kernel
theorem dX12_mayTell_61 : decode cX12_mayTell 61 = .ok (.iload_n 2, 1) := by decide +kernel
theorem dX12_mayTell_62 : decode cX12_mayTell 62 = .ok (.if_icmp .ge 28, 3) := by decide +kernel
theorem dX12_mayTell_65 : decode cX12_mayTell 65 = .ok (.aload_n 0, 1) := by decide +kernel
theorem dX12_mayTell_66 : decode cX12_mayTell 66 = .ok (.getfield 79, 3) := by decide +kernel
theorem dX12_mayTell_69 : decode cX12_mayTell 69 = .ok (.bipush 60, 2) := by decide +kernel
theorem dX12_mayTell_71 : decode cX12_mayTell 71 = .ok (.iload_n 1, 1) := by decide +kernel
theorem dX12_mayTell_72 : decode cX12_mayTell 72 = .ok (.imul, 1) := by decide +kernel
theorem dX12_mayTell_73 : decode cX12_mayTell 73 = .ok (.iload 5, 2) := by decide +kernel
theorem dX12_mayTell_75 : decode cX12_mayTell 75 = .ok (.iadd, 1) := by decide +kernel
theorem dX12_mayTell_76 : decode cX12_mayTell 76 = .ok (.laload, 1) := by decide +kernel
theorem dX12_mayTell_77 : decode cX12_mayTell 77 = .ok (.lload_n 3, 1) := by decide +kernel
theorem dX12_mayTell_78 : decode cX12_mayTell 78 = .ok (.lcmp, 1) := by decide +kernel
theorem dX12_mayTell_79 : decode cX12_mayTell 79 = .ok (.ifCond .ne 5, 3) := by decide +kernel
theorem dX12_mayTell_82 : decode cX12_mayTell 82 = .ok (.iconst 0, 1) := by decide +kernel
theorem dX12_mayTell_83 : decode cX12_mayTell 83 = .ok (.ireturn, 1) := by decide +kernel
theorem dX12_mayTell_84 : decode cX12_mayTell 84 = .ok (.iinc 5 1, 3) := by decide +kernel
theorem dX12_mayTell_87 : decode cX12_mayTell 87 = .ok (.goto (-28), 3) := by decide +kernel
theorem dX12_mayTell_90 : decode cX12_mayTell 90 = .ok (.iinc 2 1, 3) := by decide +kernel
theorem dX12_mayTell_93 : decode cX12_mayTell 93 = .ok (.goto (-91), 3) := by decide +kernel
theorem dX12_mayTell_96 : decode cX12_mayTell 96 = .ok (.iconst 1, 1) := by decide +kernel
theorem dX12_mayTell_97 : decode cX12_mayTell 97 = .ok (.ireturn, 1) := by decide +kernel
theorem cw_X12_mayTell_110 : CwS mi_X12_mayTell mi_X12_in yX12_in 110 3 := ⟨⟨w_1365, w_1366, w_108, w_1367⟩, ⟨by decide, by decide⟩, by decide +kernel, by decide, by decide⟩
theorem cw_X12_mayTell_343 : CwV mi_X12_mayTell mi_X12_pipeAt yX12_pipeAt RX12 343 1 := ⟨⟨w_1583, w_1585, w_79, w_108, w_1586⟩, ⟨by decide, by decide⟩, by decide +kernel, by decide, by decide⟩
theorem cw_X12_mayTell_102 : CwV mi_X12_mayTell mi_X12_isDug yX12_isDug RX12 102 1 := ⟨⟨w_1511, w_1513, w_65, w_108, w_1514⟩, ⟨by decide, by decide⟩, by decide +kernel, by decide, by decide⟩
theorem j_X12_mayTell_B90 {l : Launch} {Γ : Am} {k2 : Nat → Int32 → Int32 → Hp → Option (Int32 × Hp)} (hL2 : ∀ (r0 : Nat) (v1 : Int32) (v2 : Int32) (z : Hp), J l Γ mi_X12_mayTell cvI 0 0 2 [(0, .ref (mB Γ + r0)), (1, .int v1), (2, .int v2)] [] z (k2 r0 v1 v2 z)) : ∀ (r0 : Nat) (v1 : Int32) (v2 : Int32) (z : Hp), J l Γ mi_X12_mayTell cvI 0 0 90 [(0, .ref (mB Γ + r0)), (1, .int v1), (2, .int v2)] [] z (m_X12_mayTell_B90 k2 r0 v1 v2 z) := by
  intro r0 v1 v2 z
  unfold m_X12_mayTell_B90
  refine j_iinc (pc := 90) (n0 := 2) (v0 := v2 + 1) (lv2 := [(2, .int (v2 + 1)), (0, .ref (mB Γ + r0)), (1, .int v1)]) dX12_mayTell_90 rfl rfl (by decide) rfl ?_
  refine j_goto (pc := 93) 2 dX12_mayTell_93 (by decide) ?_
  exact J.sub [1, 2, 0] rfl (hL2 r0 v1 (v2 + 1) z)
theorem j_X12_mayTell_L59 {l : Launch} {Γ : Am} {k90 : Nat → Int32 → Int32 → Hp → Option (Int32 × Hp)} (hL90 : ∀ (r0 : Nat) (v1 : Int32) (v2 : Int32) (z : Hp), J l Γ mi_X12_mayTell cvI 0 0 90 [(0, .ref (mB Γ + r0)), (1, .int v1), (2, .int v2)] [] z (k90 r0 v1 v2 z)) : ∀ (f : Nat), ∀ (r0 : Nat) (v1 : Int32) (v2 : Int32) (w3 : Int64) (v5 : Int32) (z : Hp), J l Γ mi_X12_mayTell cvI 0 0 59 [(0, .ref (mB Γ + r0)), (1, .int v1), (2, .int v2), (3, .long w3), (5, .int v5)] [] z (m_X12_mayTell_L59 k90 f r0 v1 v2 w3 v5 z) := by
  intro f
  induction f with
  | zero => intro r0 v1 v2 w3 v5 z; exact J.none
  | succ f hL59 =>
    intro r0 v1 v2 w3 v5 z
    rw [m_X12_mayTell_L59]
    refine j_iload (pc := 59) 4 dX12_mayTell_59 rfl ?_
    refine j_iload_n (pc := 61) 2 dX12_mayTell_61 rfl rfl ?_
    refine j_icmp_ge (pc := 62) 90 dX12_mayTell_62 (by decide) ?_ ?_
    · exact J.sub [0, 1, 2] rfl (hL90 r0 v1 v2 z)
    refine j_aload_n (pc := 65) 0 dX12_mayTell_65 rfl rfl ?_
    refine j_getR (pc := 66) ok_X12 (by decide) rfl w_1276 dX12_mayTell_66 (fun a1 => ?_)
    refine j_bipush (pc := 69) (v := 60) dX12_mayTell_69 (by decide) ?_
    refine j_iload_n (pc := 71) 1 dX12_mayTell_71 rfl rfl ?_
    refine j_imul (pc := 72) dX12_mayTell_72 ?_
    refine j_iload (pc := 73) 4 dX12_mayTell_73 rfl ?_
    refine j_iadd (pc := 75) dX12_mayTell_75 ?_
    refine j_laload (pc := 76) dX12_mayTell_76 (fun x2 => ?_)
    refine j_lload_n (pc := 77) 3 dX12_mayTell_77 rfl rfl ?_
    refine j_lcmp (pc := 78) dX12_mayTell_78 ?_
    refine j_if_ne (pc := 79) 84 dX12_mayTell_79 (by decide) ?_ ?_
    · refine j_iinc (pc := 84) (n0 := 4) (v0 := v5 + 1) (lv2 := [(5, .int (v5 + 1)), (0, .ref (mB Γ + r0)), (1, .int v1), (2, .int v2), (3, .long w3)]) dX12_mayTell_84 rfl rfl (by decide) rfl ?_
      refine j_goto (pc := 87) 59 dX12_mayTell_87 (by decide) ?_
      exact J.sub [1, 2, 3, 4, 0] rfl (hL59 r0 v1 v2 w3 (v5 + 1) z)
    refine j_iconst (pc := 82) (v := 0) dX12_mayTell_82 (by decide) ?_
    exact j_ireturn (pc := 83) dX12_mayTell_83 rfl rfl
theorem j_X12_mayTell_L2 {l : Launch} {Γ : Am}   : ∀ (f : Nat), ∀ (r0 : Nat) (v1 : Int32) (v2 : Int32) (z : Hp), J l Γ mi_X12_mayTell cvI 0 0 2 [(0, .ref (mB Γ + r0)), (1, .int v1), (2, .int v2)] [] z (m_X12_mayTell_L2  f r0 v1 v2 z) := by
  intro f
  induction f with
  | zero => intro r0 v1 v2 z; exact J.none
  | succ f hL2 =>
    intro r0 v1 v2 z
    rw [m_X12_mayTell_L2]
    refine j_iload_n (pc := 2) 2 dX12_mayTell_2 rfl rfl ?_
    refine j_aload_n (pc := 3) 0 dX12_mayTell_3 rfl rfl ?_
    refine j_getR (pc := 4) ok_X12 (by decide) rfl w_1274 dX12_mayTell_4 (fun a3 => ?_)
    refine j_iload_n (pc := 7) 1 dX12_mayTell_7 rfl rfl ?_
    refine j_iaload (pc := 8) dX12_mayTell_8 (fun x4 => ?_)
    refine j_icmp_ge (pc := 9) 96 dX12_mayTell_9 (by decide) ?_ ?_
    · refine j_iconst (pc := 96) (v := 1) dX12_mayTell_96 (by decide) ?_
      exact j_ireturn (pc := 97) dX12_mayTell_97 rfl rfl
    refine j_aload_n (pc := 12) 0 dX12_mayTell_12 rfl rfl ?_
    refine j_getR (pc := 13) ok_X12 (by decide) rfl w_1276 dX12_mayTell_13 (fun a5 => ?_)
    refine j_bipush (pc := 16) (v := 60) dX12_mayTell_16 (by decide) ?_
    refine j_iload_n (pc := 18) 1 dX12_mayTell_18 rfl rfl ?_
    refine j_imul (pc := 19) dX12_mayTell_19 ?_
    refine j_iload_n (pc := 20) 2 dX12_mayTell_20 rfl rfl ?_
    refine j_iadd (pc := 21) dX12_mayTell_21 ?_
    refine j_laload (pc := 22) dX12_mayTell_22 (fun x6 => ?_)
    refine j_lstore_n (pc := 23) (lv2 := [(3, .long x6), (0, .ref (mB Γ + r0)), (1, .int v1), (2, .int v2)]) dX12_mayTell_23 rfl (by decide) rfl ?_
    refine j_lload_n (pc := 24) 0 dX12_mayTell_24 rfl rfl ?_
    refine j_lconst (pc := 25) (v := 0) dX12_mayTell_25 (by decide) ?_
    refine j_ldc2 (pc := 26) (v := 143) dX12_mayTell_26 w_1721 ?_
    refine j_callS_I (pc := 29) (as := [.long x6, .long 0, .long 143]) (mc2 := 0) (ms2 := 0) (ct_X12_in _ _ _ _) cw_X12_mayTell_110 dX12_mayTell_29 (Nat.le_of_ble_eq_true rfl) rfl (by decide) (by decide) (fun x8 z7 => ?_)
    refine j_if_eq (pc := 32) 54 dX12_mayTell_32 (by decide) ?_ ?_
    · refine j_iconst (pc := 54) (v := 0) dX12_mayTell_54 (by decide) ?_
      exact j_ireturn (pc := 55) dX12_mayTell_55 rfl rfl
    refine j_aload_n (pc := 35) 1 dX12_mayTell_35 rfl rfl ?_
    refine j_lload_n (pc := 36) 0 dX12_mayTell_36 rfl rfl ?_
    refine j_l2i (pc := 37) dX12_mayTell_37 ?_
    refine j_isC (fun h11 => ?_)
    refine j_callV_I (pc := 38) (as := [.int (Int64.toInt32 x6)]) (mc2 := 0) (ms2 := 0) (ct_X12_pipeAt _ _ _) h11 rfl cw_X12_mayTell_343 dX12_mayTell_38 (Nat.le_of_ble_eq_true rfl) rfl (by decide) (by decide) (fun x10 z9 => ?_)
    refine j_iconst (pc := 41) (v := (-1)) dX12_mayTell_41 (by decide) ?_
    refine j_icmp_ne (pc := 42) 54 dX12_mayTell_42 (by decide) ?_ ?_
    · refine j_iconst (pc := 54) (v := 0) dX12_mayTell_54 (by decide) ?_
      exact j_ireturn (pc := 55) dX12_mayTell_55 rfl rfl
    refine j_aload_n (pc := 45) 1 dX12_mayTell_45 rfl rfl ?_
    refine j_lload_n (pc := 46) 0 dX12_mayTell_46 rfl rfl ?_
    refine j_l2i (pc := 47) dX12_mayTell_47 ?_
    refine j_isC (fun h14 => ?_)
    refine j_callV_I (pc := 48) (as := [.int (Int64.toInt32 x6)]) (mc2 := 0) (ms2 := 0) (ct_X12_isDug _ _ _) h14 rfl cw_X12_mayTell_102 dX12_mayTell_48 (Nat.le_of_ble_eq_true rfl) rfl (by decide) (by decide) (fun x13 z12 => ?_)
    refine j_if_eq (pc := 51) 56 dX12_mayTell_51 (by decide) ?_ ?_
    · refine j_iconst (pc := 56) (v := 0) dX12_mayTell_56 (by decide) ?_
      refine j_istore (pc := 57) (lv2 := [(5, .int 0), (3, .long x6), (0, .ref (mB Γ + r0)), (1, .int v1), (2, .int v2)]) dX12_mayTell_57 (by decide) rfl ?_
      exact J.sub [2, 3, 4, 1, 0] rfl ((j_X12_mayTell_L59 (j_X12_mayTell_B90 hL2) FU) r0 v1 v2 x6 0 z12)
    refine j_iconst (pc := 54) (v := 0) dX12_mayTell_54 (by decide) ?_
    exact j_ireturn (pc := 55) dX12_mayTell_55 rfl rfl
theorem ct_X12_mayTell {l : Launch} {Γ : Am} (r0 : Nat) (v1 : Int32) (z : Hp) : Ct l Γ yX12_mayTell mi_X12_mayTell cvI [.ref (mB Γ + r0), .int v1] z (m_X12_mayTell r0 v1 z) := by
  refine Ct.ofJ (by decide) ⟨rfl, rfl⟩ (Nat.le_of_ble_eq_true rfl) ?_
  unfold m_X12_mayTell
  show J l Γ mi_X12_mayTell cvI 0 0 0 [(0, .ref (mB Γ + r0)), (1, .int v1)] [] z _
  refine j_iconst (pc := 0) (v := 0) dX12_mayTell_0 (by decide) ?_
  refine j_istore_n (pc := 1) (lv2 := [(2, .int 0), (0, .ref (mB Γ + r0)), (1, .int v1)]) dX12_mayTell_1 rfl (by decide) rfl ?_
  exact J.sub [1, 2, 0] rfl ((j_X12_mayTell_L2 FU) r0 v1 0 z)
theorem dX12_isSlot_0 : decode cX12_isSlot 0 = .ok (.iload_n 0, 1) := by decide +kernel
theorem dX12_isSlot_1 : decode cX12_isSlot 1 = .ok (.i2l, 1) := by decide +kernel
theorem dX12_isSlot_2 : decode cX12_isSlot 2 = .ok (.lconst 0, 1) := by decide +kernel
theorem dX12_isSlot_3 : decode cX12_isSlot 3 = .ok (.ldc2_w 198, 3) := by decide +kernel
theorem dX12_isSlot_6 : decode cX12_isSlot 6 = .ok (.invokestatic 110, 3) := by decide +kernel
theorem dX12_isSlot_9 : decode cX12_isSlot 9 = .ok (.ireturn, 1) := by decide +kernel
theorem cw_X12_isSlot_110 : CwS mi_X12_isSlot mi_X12_in yX12_in 110 3 := ⟨⟨w_1365, w_1366, w_108, w_1367⟩, ⟨by decide, by decide⟩, by decide +kernel, by decide, by decide⟩
theorem ct_X12_isSlot {l : Launch} {Γ : Am} (v0 : Int32) (z : Hp) : Ct l Γ yX12_isSlot mi_X12_isSlot cvI [.int v0] z (m_X12_isSlot v0 z) := by
  refine Ct.ofJ (by decide) ⟨rfl, rfl⟩ (Nat.le_of_ble_eq_true rfl) ?_
  unfold m_X12_isSlot
  show J l Γ mi_X12_isSlot cvI 0 0 0 [(0, .int v0)] [] z _
  refine j_iload_n (pc := 0) 0 dX12_isSlot_0 rfl rfl ?_
  refine j_i2l (pc := 1) dX12_isSlot_1 ?_
  refine j_lconst (pc := 2) (v := 0) dX12_isSlot_2 (by decide) ?_
  refine j_ldc2 (pc := 3) (v := 3) dX12_isSlot_3 w_1433 ?_
  refine j_callS_I (pc := 6) (as := [.long (Int32.toInt64 v0), .long 0, .long 3]) (mc2 := 0) (ms2 := 0) (ct_X12_in _ _ _ _) cw_X12_isSlot_110 dX12_isSlot_6 (Nat.le_of_ble_eq_true rfl) rfl (by decide) (by decide) (fun x2 z1 => ?_)
  exact j_zreturn (pc := 9) dX12_isSlot_9 rfl
theorem dX12_more_0 : decode cX12_more 0 = .ok (.iload_n 1, 1) := by decide +kernel
theorem dX12_more_1 : decode cX12_more 1 = .ok (.invokestatic 412, 3) := by decide +kernel
theorem dX12_more_4 : decode cX12_more 4 = .ok (.ifCond .eq 26, 3) := by decide +kernel
theorem dX12_more_7 : decode cX12_more 7 = .ok (.iload_n 2, 1) := by decide +kernel
theorem dX12_more_8 : decode cX12_more 8 = .ok (.i2l, 1) := by decide +kernel
theorem dX12_more_9 : decode cX12_more 9 = .ok (.lconst 1, 1) := by decide +kernel
theorem dX12_more_10 : decode cX12_more 10 = .ok (.ldc2_w 415, 3) := by decide +kernel
theorem dX12_more_13 : decode cX12_more 13 = .ok (.invokestatic 110, 3) := by decide +kernel
theorem dX12_more_16 : decode cX12_more 16 = .ok (.ifCond .eq 14, 3) := by decide +kernel
theorem dX12_more_19 : decode cX12_more 19 = .ok (.aload_n 0, 1) := by decide +kernel
theorem dX12_more_20 : decode cX12_more 20 = .ok (.getfield 73, 3) := by decide +kernel
theorem dX12_more_23 : decode cX12_more 23 = .ok (.iload_n 1, 1) := by decide +kernel
theorem dX12_more_24 : decode cX12_more 24 = .ok (.iaload, 1) := by decide +kernel
theorem dX12_more_25 : decode cX12_more 25 = .ok (.bipush 6, 2) := by decide +kernel
theorem dX12_more_27 : decode cX12_more 27 = .ok (.if_icmp .le 6, 3) := by decide +kernel
theorem dX12_more_30 : decode cX12_more 30 = .ok (.bipush (-2), 2) := by decide +kernel
theorem dX12_more_32 : decode cX12_more 32 = .ok (.ireturn, 1) := by decide +kernel
theorem dX12_more_33 : decode cX12_more 33 = .ok (.aload_n 0, 1) := by decide +kernel
theorem dX12_more_34 : decode cX12_more 34 = .ok (.getfield 73, 3) := by decide +kernel
theorem dX12_more_37 : decode cX12_more 37 = .ok (.iload_n 1, 1) := by decide +kernel
theorem dX12_more_38 : decode cX12_more 38 = .ok (.iaload, 1) := by decide +kernel
theorem dX12_more_39 : decode cX12_more 39 = .ok (.iconst (-1), 1) := by decide +kernel
theorem dX12_more_40 : decode cX12_more 40 = .ok (.if_icmp .eq 19, 3) := by decide +kernel
theorem dX12_more_43 : decode cX12_more 43 = .ok (.aload_n 0, 1) := by decide +kernel
theorem dX12_more_44 : decode cX12_more 44 = .ok (.invokevirtual 365, 3) := by decide +kernel
theorem dX12_more_47 : decode cX12_more 47 = .ok (.ifCond .eq 12, 3) := by decide +kernel
theorem dX12_more_50 : decode cX12_more 50 = .ok (.aload_n 0, 1) := by decide +kernel
theorem dX12_more_51 : decode cX12_more 51 = .ok (.getfield 13, 3) := by decide +kernel
theorem dX12_more_54 : decode cX12_more 54 = .ok (.iconst 2, 1) := by decide +kernel
theorem dX12_more_55 : decode cX12_more 55 = .ok (.iaload, 1) := by decide +kernel
theorem dX12_more_56 : decode cX12_more 56 = .ok (.ifCond .ne 6, 3) := by decide +kernel
theorem dX12_more_59 : decode cX12_more 59 = .ok (.bipush (-6), 2) := by decide +kernel
theorem dX12_more_61 : decode cX12_more 61 = .ok (.ireturn, 1) := by decide +kernel
theorem dX12_more_62 : decode cX12_more 62 = .ok (.aload_n 0, 1) := by decide +kernel
theorem dX12_more_63 : decode cX12_more 63 = .ok (.iload_n 1, 1) := by decide +kernel
theorem dX12_more_64 : decode cX12_more 64 = .ok (.invokevirtual 417, 3) := by decide +kernel
theorem dX12_more_67 : decode cX12_more 67 = .ok (.ifCond .ne 6, 3) := by decide +kernel
theorem dX12_more_70 : decode cX12_more 70 = .ok (.bipush (-7), 2) := by decide +kernel
theorem dX12_more_72 : decode cX12_more 72 = .ok (.ireturn, 1) := by decide +kernel
theorem dX12_more_73 : decode cX12_more 73 = .ok (.iconst (-1), 1) := by decide +kernel
theorem dX12_more_74 : decode cX12_more 74 = .ok (.istore_n 3, 1) := by decide +kernel
theorem dX12_more_75 : decode cX12_more 75 = .ok (.iconst 0, 1) := by decide +kernel
theorem dX12_more_76 : decode cX12_more 76 = .ok (.istore 4, 2) := by decide +kernel
theorem dX12_more_78 : decode cX12_more 78 = .ok (.iload 4, 2) := by decide +kernel
theorem dX12_more_80 : decode cX12_more 80 = .ok (.iconst 1, 1) := by decide +kernel
theorem dX12_more_81 : decode cX12_more 81 = .ok (.aload_n 0, 1) := by decide +kernel
theorem dX12_more_82 : decode cX12_more 82 = .ok (.getfield 73, 3) := by decide +kernel
theorem dX12_more_85 : decode cX12_more 85 = .ok (.iload_n 1, 1) := by decide +kernel
theorem dX12_more_86 : decode cX12_more 86 = .ok (.iaload, 1) := by decide +kernel
theorem dX12_more_87 : decode cX12_more 87 = .ok (.ishl, 1) := by decide +kernel
theorem dX12_more_88 : decode cX12_more 88 = .ok (.if_icmp .ge 73, 3) := by decide +kernel
theorem dX12_more_91 : decode cX12_more 91 = .ok (.iload_n 3, 1) := by decide +kernel
theorem dX12_more_92 : decode cX12_more 92 = .ok (.iconst (-1), 1) := by decide +kernel
theorem dX12_more_93 : decode cX12_more 93 = .ok (.if_icmp .eq 36, 3) := by decide +kernel
theorem dX12_more_96 : decode cX12_more 96 = .ok (.iload 4, 2) := by decide +kernel
theorem dX12_more_98 : decode cX12_more 98 = .ok (.invokestatic 420, 3) := by decide +kernel
theorem dX12_more_101 : decode cX12_more 101 = .ok (.iload_n 3, 1) := by decide +kernel
theorem dX12_more_102 : decode cX12_more 102 = .ok (.invokestatic 420, 3) := by decide +kernel
theorem dX12_more_105 : decode cX12_more 105 = .ok (.if_icmp .lt 24, 3) := by decide +kernel
theorem dX12_more_108 : decode cX12_more 108 = .ok (.iload 4, 2) := by decide +kernel
theorem dX12_more_110 : decode cX12_more 110 = .ok (.invokestatic 420, 3) := by decide +kernel
theorem dX12_more_113 : decode cX12_more 113 = .ok (.iload_n 3, 1) := by decide +kernel
theorem dX12_more_114 : decode cX12_more 114 = .ok (.invokestatic 420, 3) := by decide +kernel
theorem dX12_more_117 : decode cX12_more 117 = .ok (.if_icmp .ne 16, 3) := by decide +kernel
theorem dX12_more_120 : decode cX12_more 120 = .ok (.iload 4, 2) := by decide +kernel
theorem dX12_more_122 : decode cX12_more 122 = .ok (.iload_n 3, 1) := by decide +kernel
theorem dX12_more_123 : decode cX12_more 123 = .ok (.invokestatic 423, 3) := by decide +kernel
theorem dX12_more_126 : decode cX12_more 126 = .ok (.ifCond .eq 7, 3) := by decide +kernel
theorem dX12_more_129 : decode cX12_more 129 = .ok (.iconst 1, 1) := by decide +kernel
theorem dX12_more_130 : decode cX12_more 130 = .ok (.goto 4, 3) := by decide +kernel
theorem dX12_more_133 : decode cX12_more 133 = .ok (.iconst 0, 1) := by decide +kernel
theorem dX12_more_134 : decode cX12_more 134 = .ok (.istore 5, 2) := by decide +kernel
theorem dX12_more_136 : decode cX12_more 136 = .ok (.iload 5, 2) := by decide +kernel
theorem dX12_more_138 : decode cX12_more 138 = .ok (.ifCond .eq 17, 3) := by decide +kernel
theorem dX12_more_141 : decode cX12_more 141 = .ok (.aload_n 0, 1) := by decide +kernel
theorem dX12_more_142 : decode cX12_more 142 = .ok (.iload_n 1, 1) := by decide +kernel
theorem dX12_more_143 : decode cX12_more 143 = .ok (.iload 4, 2) := by decide +kernel
theorem dX12_more_145 : decode cX12_more 145 = .ok (.iload_n 2, 1) := by decide +kernel
theorem dX12_more_146 : decode cX12_more 146 = .ok (.invokevirtual 426, 3) := by decide +kernel
theorem dX12_more_149 : decode cX12_more 149 = .ok (.ifCond .eq 6, 3) := by decide +kernel
theorem dX12_more_152 : decode cX12_more 152 = .ok (.iload 4, 2) := by decide +kernel
theorem dX12_more_154 : decode cX12_more 154 = .ok (.istore_n 3, 1) := by decide +kernel
theorem dX12_more_155 : decode cX12_more 155 = .ok (.iinc 4 1, 3) := by decide +kernel
theorem dX12_more_158 : decode cX12_more 158 = .ok (.goto (-80), 3) := by decide +kernel
theorem dX12_more_161 : decode cX12_more 161 = .ok (.iload_n 3, 1) := by decide +kernel
theorem dX12_more_162 : decode cX12_more 162 = .ok (.iconst (-1), 1) := by decide +kernel
theorem dX12_more_163 : decode cX12_more 163 = .ok (.if_icmp .ne 5, 3) := by decide +kernel
theorem dX12_more_166 : decode cX12_more 166 = .ok (.iconst (-1), 1) := by decide +kernel
theorem dX12_more_167 : decode cX12_more 167 = .ok (.ireturn, 1) := by decide +kernel
theorem dX12_more_168 : decode cX12_more 168 = .ok (.aload_n 0, 1) := by decide +kernel
theorem dX12_more_169 : decode cX12_more 169 = .ok (.iload_n 3, 1) := by decide +kernel
theorem dX12_more_170 : decode cX12_more 170 = .ok (.putfield 430, 3) := by decide +kernel
theorem dX12_more_173 : decode cX12_more 173 = .ok (.iload_n 3, 1) := by decide +kernel
theorem dX12_more_174 : decode cX12_more 174 = .ok (.invokestatic 420, 3) := by decide +kernel
theorem dX12_more_177 : decode cX12_more 177 = .ok (.ireturn, 1) := by decide +kernel
theorem cw_X12_more_420 : CwS mi_X12_more mi_X12_ones yX12_ones 420 1 := ⟨⟨w_1722, w_1723, w_108, w_1724⟩, ⟨by decide, by decide⟩, by decide +kernel, by decide, by decide⟩
theorem cw_X12_more_426 : CwV mi_X12_more mi_X12_shutsBy yX12_shutsBy RX12 426 3 := ⟨⟨w_1728, w_1730, w_93, w_108, w_1731⟩, ⟨by decide, by decide⟩, by decide +kernel, by decide, by decide⟩
theorem cw_X12_more_423 : CwS mi_X12_more mi_X12_isAhead yX12_isAhead 423 2 := ⟨⟨w_1725, w_1726, w_108, w_1727⟩, ⟨by decide, by decide⟩, by decide +kernel, by decide, by decide⟩
theorem cw_X12_more_412 : CwS mi_X12_more mi_X12_isSlot yX12_isSlot 412 1 := ⟨⟨w_1713, w_1714, w_108, w_1715⟩, ⟨by decide, by decide⟩, by decide +kernel, by decide, by decide⟩
theorem cw_X12_more_110 : CwS mi_X12_more mi_X12_in yX12_in 110 3 := ⟨⟨w_1365, w_1366, w_108, w_1367⟩, ⟨by decide, by decide⟩, by decide +kernel, by decide, by decide⟩
theorem cw_X12_more_365 : CwV mi_X12_more mi_X12_hasShaft yX12_hasShaft RX12 365 0 := ⟨⟨w_1613, w_1615, w_81, w_108, w_1616⟩, ⟨by decide, by decide⟩, by decide +kernel, by decide, by decide⟩
theorem cw_X12_more_417 : CwV mi_X12_more mi_X12_mayTell yX12_mayTell RX12 417 1 := ⟨⟨w_1717, w_1719, w_92, w_108, w_1720⟩, ⟨by decide, by decide⟩, by decide +kernel, by decide, by decide⟩
theorem j_X12_more_B161 {l : Launch} {Γ : Am}   : ∀ (r0 : Nat) (v3 : Int32) (z : Hp), J l Γ mi_X12_more cvI 0 0 161 [(0, .ref (mB Γ + r0)), (3, .int v3)] [] z (m_X12_more_B161  r0 v3 z) := by
  intro r0 v3 z
  unfold m_X12_more_B161
  refine j_iload_n (pc := 161) 1 dX12_more_161 rfl rfl ?_
  refine j_iconst (pc := 162) (v := (-1)) dX12_more_162 (by decide) ?_
  refine j_icmp_ne (pc := 163) 168 dX12_more_163 (by decide) ?_ ?_
  · refine j_aload_n (pc := 168) 0 dX12_more_168 rfl rfl ?_
    refine j_iload_n (pc := 169) 1 dX12_more_169 rfl rfl ?_
    refine j_putI (pc := 170) ok_X12 (by decide) rfl w_1273 (Or.inl rfl) rfl rfl dX12_more_170 (fun z1 => ?_)
    refine j_iload_n (pc := 173) 1 dX12_more_173 rfl rfl ?_
    refine j_callS_I (pc := 174) (as := [.int v3]) (mc2 := 0) (ms2 := 0) (ct_X12_ones _ _) cw_X12_more_420 dX12_more_174 (Nat.le_of_ble_eq_true rfl) rfl (by decide) (by decide) (fun x3 z2 => ?_)
    exact j_ireturn (pc := 177) dX12_more_177 rfl rfl
  refine j_iconst (pc := 166) (v := (-1)) dX12_more_166 (by decide) ?_
  exact j_ireturn (pc := 167) dX12_more_167 rfl rfl
theorem j_X12_more_B155 {l : Launch} {Γ : Am} {k78 : Nat → Int32 → Int32 → Int32 → Int32 → Hp → Option (Int32 × Hp)} (hL78 : ∀ (r0 : Nat) (v1 : Int32) (v2 : Int32) (v3 : Int32) (v4 : Int32) (z : Hp), J l Γ mi_X12_more cvI 0 0 78 [(0, .ref (mB Γ + r0)), (1, .int v1), (2, .int v2), (3, .int v3), (4, .int v4)] [] z (k78 r0 v1 v2 v3 v4 z)) : ∀ (r0 : Nat) (v1 : Int32) (v2 : Int32) (v3 : Int32) (v4 : Int32) (z : Hp), J l Γ mi_X12_more cvI 0 0 155 [(0, .ref (mB Γ + r0)), (1, .int v1), (2, .int v2), (3, .int v3), (4, .int v4)] [] z (m_X12_more_B155 k78 r0 v1 v2 v3 v4 z) := by
  intro r0 v1 v2 v3 v4 z
  unfold m_X12_more_B155
  refine j_iinc (pc := 155) (n0 := 4) (v0 := v4 + 1) (lv2 := [(4, .int (v4 + 1)), (0, .ref (mB Γ + r0)), (1, .int v1), (2, .int v2), (3, .int v3)]) dX12_more_155 rfl rfl (by decide) rfl ?_
  refine j_goto (pc := 158) 78 dX12_more_158 (by decide) ?_
  exact J.sub [1, 2, 3, 4, 0] rfl (hL78 r0 v1 v2 v3 (v4 + 1) z)
theorem j_X12_more_B134 {l : Launch} {Γ : Am} {k78 : Nat → Int32 → Int32 → Int32 → Int32 → Hp → Option (Int32 × Hp)} (hL78 : ∀ (r0 : Nat) (v1 : Int32) (v2 : Int32) (v3 : Int32) (v4 : Int32) (z : Hp), J l Γ mi_X12_more cvI 0 0 78 [(0, .ref (mB Γ + r0)), (1, .int v1), (2, .int v2), (3, .int v3), (4, .int v4)] [] z (k78 r0 v1 v2 v3 v4 z)) : ∀ (r0 : Nat) (v1 : Int32) (v2 : Int32) (v3 : Int32) (v4 : Int32) (t0 : Int32) (z : Hp), J l Γ mi_X12_more cvI 0 0 134 [(0, .ref (mB Γ + r0)), (1, .int v1), (2, .int v2), (3, .int v3), (4, .int v4)] [.int t0] z (m_X12_more_B134 k78 r0 v1 v2 v3 v4 t0 z) := by
  intro r0 v1 v2 v3 v4 t0 z
  unfold m_X12_more_B134
  refine j_istore (pc := 134) (lv2 := [(5, .int t0), (0, .ref (mB Γ + r0)), (1, .int v1), (2, .int v2), (3, .int v3), (4, .int v4)]) dX12_more_134 (by decide) rfl ?_
  refine j_iload (pc := 136) 0 dX12_more_136 rfl ?_
  refine j_if_eq (pc := 138) 155 dX12_more_138 (by decide) ?_ ?_
  · exact J.sub [1, 2, 3, 4, 5] rfl ((j_X12_more_B155 hL78) r0 v1 v2 v3 v4 z)
  refine j_aload_n (pc := 141) 1 dX12_more_141 rfl rfl ?_
  refine j_iload_n (pc := 142) 2 dX12_more_142 rfl rfl ?_
  refine j_iload (pc := 143) 5 dX12_more_143 rfl ?_
  refine j_iload_n (pc := 145) 3 dX12_more_145 rfl rfl ?_
  refine j_isC (fun h6 => ?_)
  refine j_callV_I (pc := 146) (as := [.int v1, .int v4, .int v2]) (mc2 := 0) (ms2 := 0) (ct_X12_shutsBy _ _ _ _ _) h6 rfl cw_X12_more_426 dX12_more_146 (Nat.le_of_ble_eq_true rfl) rfl (by decide) (by decide) (fun x5 z4 => ?_)
  refine j_if_eq (pc := 149) 155 dX12_more_149 (by decide) ?_ ?_
  · exact J.sub [1, 2, 3, 4, 5] rfl ((j_X12_more_B155 hL78) r0 v1 v2 v3 v4 z4)
  refine j_iload (pc := 152) 5 dX12_more_152 rfl ?_
  refine j_istore_n (pc := 154) (lv2 := [(3, .int v4), (5, .int t0), (0, .ref (mB Γ + r0)), (1, .int v1), (2, .int v2), (4, .int v4)]) dX12_more_154 rfl (by decide) rfl ?_
  exact J.sub [2, 3, 4, 0, 5] rfl ((j_X12_more_B155 hL78) r0 v1 v2 v4 v4 z4)
theorem j_X12_more_B133 {l : Launch} {Γ : Am} {k78 : Nat → Int32 → Int32 → Int32 → Int32 → Hp → Option (Int32 × Hp)} (hL78 : ∀ (r0 : Nat) (v1 : Int32) (v2 : Int32) (v3 : Int32) (v4 : Int32) (z : Hp), J l Γ mi_X12_more cvI 0 0 78 [(0, .ref (mB Γ + r0)), (1, .int v1), (2, .int v2), (3, .int v3), (4, .int v4)] [] z (k78 r0 v1 v2 v3 v4 z)) : ∀ (r0 : Nat) (v1 : Int32) (v2 : Int32) (v3 : Int32) (v4 : Int32) (z : Hp), J l Γ mi_X12_more cvI 0 0 133 [(0, .ref (mB Γ + r0)), (1, .int v1), (2, .int v2), (3, .int v3), (4, .int v4)] [] z (m_X12_more_B133 k78 r0 v1 v2 v3 v4 z) := by
  intro r0 v1 v2 v3 v4 z
  unfold m_X12_more_B133
  refine j_iconst (pc := 133) (v := 0) dX12_more_133 (by decide) ?_
  exact J.sub [0, 1, 2, 3, 4] rfl ((j_X12_more_B134 hL78) r0 v1 v2 v3 v4 0 z)
theorem j_X12_more_B129 {l : Launch} {Γ : Am} {k78 : Nat → Int32 → Int32 → Int32 → Int32 → Hp → Option (Int32 × Hp)} (hL78 : ∀ (r0 : Nat) (v1 : Int32) (v2 : Int32) (v3 : Int32) (v4 : Int32) (z : Hp), J l Γ mi_X12_more cvI 0 0 78 [(0, .ref (mB Γ + r0)), (1, .int v1), (2, .int v2), (3, .int v3), (4, .int v4)] [] z (k78 r0 v1 v2 v3 v4 z)) : ∀ (r0 : Nat) (v1 : Int32) (v2 : Int32) (v3 : Int32) (v4 : Int32) (z : Hp), J l Γ mi_X12_more cvI 0 0 129 [(0, .ref (mB Γ + r0)), (1, .int v1), (2, .int v2), (3, .int v3), (4, .int v4)] [] z (m_X12_more_B129 k78 r0 v1 v2 v3 v4 z) := by
  intro r0 v1 v2 v3 v4 z
  unfold m_X12_more_B129
  refine j_iconst (pc := 129) (v := 1) dX12_more_129 (by decide) ?_
  refine j_goto (pc := 130) 134 dX12_more_130 (by decide) ?_
  exact J.sub [0, 1, 2, 3, 4] rfl ((j_X12_more_B134 hL78) r0 v1 v2 v3 v4 1 z)
theorem j_X12_more_L78 {l : Launch} {Γ : Am} {k161 : Nat → Int32 → Hp → Option (Int32 × Hp)} (hL161 : ∀ (r0 : Nat) (v3 : Int32) (z : Hp), J l Γ mi_X12_more cvI 0 0 161 [(0, .ref (mB Γ + r0)), (3, .int v3)] [] z (k161 r0 v3 z)) : ∀ (f : Nat), ∀ (r0 : Nat) (v1 : Int32) (v2 : Int32) (v3 : Int32) (v4 : Int32) (z : Hp), J l Γ mi_X12_more cvI 0 0 78 [(0, .ref (mB Γ + r0)), (1, .int v1), (2, .int v2), (3, .int v3), (4, .int v4)] [] z (m_X12_more_L78 k161 f r0 v1 v2 v3 v4 z) := by
  intro f
  induction f with
  | zero => intro r0 v1 v2 v3 v4 z; exact J.none
  | succ f hL78 =>
    intro r0 v1 v2 v3 v4 z
    rw [m_X12_more_L78]
    refine j_iload (pc := 78) 4 dX12_more_78 rfl ?_
    refine j_iconst (pc := 80) (v := 1) dX12_more_80 (by decide) ?_
    refine j_aload_n (pc := 81) 0 dX12_more_81 rfl rfl ?_
    refine j_getR (pc := 82) ok_X12 (by decide) rfl w_1274 dX12_more_82 (fun a7 => ?_)
    refine j_iload_n (pc := 85) 1 dX12_more_85 rfl rfl ?_
    refine j_iaload (pc := 86) dX12_more_86 (fun x8 => ?_)
    refine j_ishl (pc := 87) dX12_more_87 ?_
    refine j_icmp_ge (pc := 88) 161 dX12_more_88 (by decide) ?_ ?_
    · exact J.sub [0, 3] rfl (hL161 r0 v3 z)
    refine j_iload_n (pc := 91) 3 dX12_more_91 rfl rfl ?_
    refine j_iconst (pc := 92) (v := (-1)) dX12_more_92 (by decide) ?_
    refine j_icmp_eq (pc := 93) 129 dX12_more_93 (by decide) ?_ ?_
    · exact J.sub [0, 1, 2, 3, 4] rfl ((j_X12_more_B129 hL78) r0 v1 v2 v3 v4 z)
    refine j_iload (pc := 96) 4 dX12_more_96 rfl ?_
    refine j_callS_I (pc := 98) (as := [.int v4]) (mc2 := 0) (ms2 := 0) (ct_X12_ones _ _) cw_X12_more_420 dX12_more_98 (Nat.le_of_ble_eq_true rfl) rfl (by decide) (by decide) (fun x10 z9 => ?_)
    refine j_iload_n (pc := 101) 3 dX12_more_101 rfl rfl ?_
    refine j_callS_I (pc := 102) (as := [.int v3]) (mc2 := 0) (ms2 := 0) (ct_X12_ones _ _) cw_X12_more_420 dX12_more_102 (Nat.le_of_ble_eq_true rfl) rfl (by decide) (by decide) (fun x12 z11 => ?_)
    refine j_icmp_lt (pc := 105) 129 dX12_more_105 (by decide) ?_ ?_
    · exact J.sub [0, 1, 2, 3, 4] rfl ((j_X12_more_B129 hL78) r0 v1 v2 v3 v4 z11)
    refine j_iload (pc := 108) 4 dX12_more_108 rfl ?_
    refine j_callS_I (pc := 110) (as := [.int v4]) (mc2 := 0) (ms2 := 0) (ct_X12_ones _ _) cw_X12_more_420 dX12_more_110 (Nat.le_of_ble_eq_true rfl) rfl (by decide) (by decide) (fun x14 z13 => ?_)
    refine j_iload_n (pc := 113) 3 dX12_more_113 rfl rfl ?_
    refine j_callS_I (pc := 114) (as := [.int v3]) (mc2 := 0) (ms2 := 0) (ct_X12_ones _ _) cw_X12_more_420 dX12_more_114 (Nat.le_of_ble_eq_true rfl) rfl (by decide) (by decide) (fun x16 z15 => ?_)
    refine j_icmp_ne (pc := 117) 133 dX12_more_117 (by decide) ?_ ?_
    · exact J.sub [0, 1, 2, 3, 4] rfl ((j_X12_more_B133 hL78) r0 v1 v2 v3 v4 z15)
    refine j_iload (pc := 120) 4 dX12_more_120 rfl ?_
    refine j_iload_n (pc := 122) 3 dX12_more_122 rfl rfl ?_
    refine j_callS_I (pc := 123) (as := [.int v4, .int v3]) (mc2 := 0) (ms2 := 0) (ct_X12_isAhead _ _ _) cw_X12_more_423 dX12_more_123 (Nat.le_of_ble_eq_true rfl) rfl (by decide) (by decide) (fun x18 z17 => ?_)
    refine j_if_eq (pc := 126) 133 dX12_more_126 (by decide) ?_ ?_
    · exact J.sub [0, 1, 2, 3, 4] rfl ((j_X12_more_B133 hL78) r0 v1 v2 v3 v4 z17)
    exact J.sub [0, 1, 2, 3, 4] rfl ((j_X12_more_B129 hL78) r0 v1 v2 v3 v4 z17)
theorem ct_X12_more {l : Launch} {Γ : Am} (r0 : Nat) (v1 : Int32) (v2 : Int32) (z : Hp) : Ct l Γ yX12_more mi_X12_more cvI [.ref (mB Γ + r0), .int v1, .int v2] z (m_X12_more r0 v1 v2 z) := by
  refine Ct.ofJ (by decide) ⟨rfl, rfl⟩ (Nat.le_of_ble_eq_true rfl) ?_
  unfold m_X12_more
  show J l Γ mi_X12_more cvI 0 0 0 [(0, .ref (mB Γ + r0)), (1, .int v1), (2, .int v2)] [] z _
  refine j_iload_n (pc := 0) 1 dX12_more_0 rfl rfl ?_
  refine j_callS_I (pc := 1) (as := [.int v1]) (mc2 := 0) (ms2 := 0) (ct_X12_isSlot _ _) cw_X12_more_412 dX12_more_1 (Nat.le_of_ble_eq_true rfl) rfl (by decide) (by decide) (fun x20 z19 => ?_)
  refine j_if_eq (pc := 4) 30 dX12_more_4 (by decide) ?_ ?_
  · refine j_bipush (pc := 30) (v := (-2)) dX12_more_30 (by decide) ?_
    exact j_ireturn (pc := 32) dX12_more_32 rfl rfl
  refine j_iload_n (pc := 7) 2 dX12_more_7 rfl rfl ?_
  refine j_i2l (pc := 8) dX12_more_8 ?_
  refine j_lconst (pc := 9) (v := 1) dX12_more_9 (by decide) ?_
  refine j_ldc2 (pc := 10) (v := 30) dX12_more_10 w_1716 ?_
  refine j_callS_I (pc := 13) (as := [.long (Int32.toInt64 v2), .long 1, .long 30]) (mc2 := 0) (ms2 := 0) (ct_X12_in _ _ _ _) cw_X12_more_110 dX12_more_13 (Nat.le_of_ble_eq_true rfl) rfl (by decide) (by decide) (fun x22 z21 => ?_)
  refine j_if_eq (pc := 16) 30 dX12_more_16 (by decide) ?_ ?_
  · refine j_bipush (pc := 30) (v := (-2)) dX12_more_30 (by decide) ?_
    exact j_ireturn (pc := 32) dX12_more_32 rfl rfl
  refine j_aload_n (pc := 19) 0 dX12_more_19 rfl rfl ?_
  refine j_getR (pc := 20) ok_X12 (by decide) rfl w_1274 dX12_more_20 (fun a23 => ?_)
  refine j_iload_n (pc := 23) 1 dX12_more_23 rfl rfl ?_
  refine j_iaload (pc := 24) dX12_more_24 (fun x24 => ?_)
  refine j_bipush (pc := 25) (v := 6) dX12_more_25 (by decide) ?_
  refine j_icmp_le (pc := 27) 33 dX12_more_27 (by decide) ?_ ?_
  · refine j_aload_n (pc := 33) 0 dX12_more_33 rfl rfl ?_
    refine j_getR (pc := 34) ok_X12 (by decide) rfl w_1274 dX12_more_34 (fun a25 => ?_)
    refine j_iload_n (pc := 37) 1 dX12_more_37 rfl rfl ?_
    refine j_iaload (pc := 38) dX12_more_38 (fun x26 => ?_)
    refine j_iconst (pc := 39) (v := (-1)) dX12_more_39 (by decide) ?_
    refine j_icmp_eq (pc := 40) 59 dX12_more_40 (by decide) ?_ ?_
    · refine j_bipush (pc := 59) (v := (-6)) dX12_more_59 (by decide) ?_
      exact j_ireturn (pc := 61) dX12_more_61 rfl rfl
    refine j_aload_n (pc := 43) 0 dX12_more_43 rfl rfl ?_
    refine j_isC (fun h29 => ?_)
    refine j_callV_I (pc := 44) (as := []) (mc2 := 0) (ms2 := 0) (ct_X12_hasShaft _ _) h29 rfl cw_X12_more_365 dX12_more_44 (Nat.le_of_ble_eq_true rfl) rfl (by decide) (by decide) (fun x28 z27 => ?_)
    refine j_if_eq (pc := 47) 59 dX12_more_47 (by decide) ?_ ?_
    · refine j_bipush (pc := 59) (v := (-6)) dX12_more_59 (by decide) ?_
      exact j_ireturn (pc := 61) dX12_more_61 rfl rfl
    refine j_aload_n (pc := 50) 0 dX12_more_50 rfl rfl ?_
    refine j_getR (pc := 51) ok_X12 (by decide) rfl w_1239 dX12_more_51 (fun a30 => ?_)
    refine j_iconst (pc := 54) (v := 2) dX12_more_54 (by decide) ?_
    refine j_iaload (pc := 55) dX12_more_55 (fun x31 => ?_)
    refine j_if_ne (pc := 56) 62 dX12_more_56 (by decide) ?_ ?_
    · refine j_aload_n (pc := 62) 0 dX12_more_62 rfl rfl ?_
      refine j_iload_n (pc := 63) 1 dX12_more_63 rfl rfl ?_
      refine j_isC (fun h34 => ?_)
      refine j_callV_I (pc := 64) (as := [.int v1]) (mc2 := 0) (ms2 := 0) (ct_X12_mayTell _ _ _) h34 rfl cw_X12_more_417 dX12_more_64 (Nat.le_of_ble_eq_true rfl) rfl (by decide) (by decide) (fun x33 z32 => ?_)
      refine j_if_ne (pc := 67) 73 dX12_more_67 (by decide) ?_ ?_
      · refine j_iconst (pc := 73) (v := (-1)) dX12_more_73 (by decide) ?_
        refine j_istore_n (pc := 74) (lv2 := [(3, .int (-1)), (0, .ref (mB Γ + r0)), (1, .int v1), (2, .int v2)]) dX12_more_74 rfl (by decide) rfl ?_
        refine j_iconst (pc := 75) (v := 0) dX12_more_75 (by decide) ?_
        refine j_istore (pc := 76) (lv2 := [(4, .int 0), (3, .int (-1)), (0, .ref (mB Γ + r0)), (1, .int v1), (2, .int v2)]) dX12_more_76 (by decide) rfl ?_
        exact J.sub [2, 3, 4, 1, 0] rfl ((j_X12_more_L78 j_X12_more_B161 FU) r0 v1 v2 (-1) 0 z32)
      refine j_bipush (pc := 70) (v := (-7)) dX12_more_70 (by decide) ?_
      exact j_ireturn (pc := 72) dX12_more_72 rfl rfl
    refine j_bipush (pc := 59) (v := (-6)) dX12_more_59 (by decide) ?_
    exact j_ireturn (pc := 61) dX12_more_61 rfl rfl
  refine j_bipush (pc := 30) (v := (-2)) dX12_more_30 (by decide) ?_
  exact j_ireturn (pc := 32) dX12_more_32 rfl rfl
theorem dX12_chosen_0 : decode cX12_chosen 0 = .ok (.aload_n 0, 1) := by decide +kernel
theorem dX12_chosen_1 : decode cX12_chosen 1 = .ok (.getfield 430, 3) := by decide +kernel
theorem dX12_chosen_4 : decode cX12_chosen 4 = .ok (.ireturn, 1) := by decide +kernel
theorem ct_X12_chosen {l : Launch} {Γ : Am} (r0 : Nat) (z : Hp) : Ct l Γ yX12_chosen mi_X12_chosen cvI [.ref (mB Γ + r0)] z (m_X12_chosen r0 z) := by
  refine Ct.ofJ (by decide) ⟨rfl, rfl⟩ (Nat.le_of_ble_eq_true rfl) ?_
  unfold m_X12_chosen
  show J l Γ mi_X12_chosen cvI 0 0 0 [(0, .ref (mB Γ + r0))] [] z _
  refine j_aload_n (pc := 0) 0 dX12_chosen_0 rfl rfl ?_
  refine j_getI (pc := 1) ok_X12 (by decide) rfl w_1273 dX12_chosen_1 (fun x1 => ?_)
  exact j_ireturn (pc := 4) dX12_chosen_4 rfl rfl
theorem dX12_gauge_0 : decode cX12_gauge 0 = .ok (.iload_n 1, 1) := by decide +kernel
theorem dX12_gauge_1 : decode cX12_gauge 1 = .ok (.i2l, 1) := by decide +kernel
theorem dX12_gauge_2 : decode cX12_gauge 2 = .ok (.lconst 0, 1) := by decide +kernel
theorem dX12_gauge_3 : decode cX12_gauge 3 = .ok (.ldc2_w 433, 3) := by decide +kernel
theorem dX12_gauge_6 : decode cX12_gauge 6 = .ok (.invokestatic 110, 3) := by decide +kernel
theorem dX12_gauge_9 : decode cX12_gauge 9 = .ok (.ifCond .eq 26, 3) := by decide +kernel
theorem dX12_gauge_12 : decode cX12_gauge 12 = .ok (.iload_n 2, 1) := by decide +kernel
theorem dX12_gauge_13 : decode cX12_gauge 13 = .ok (.iload_n 3, 1) := by decide +kernel
theorem dX12_gauge_14 : decode cX12_gauge 14 = .ok (.invokestatic 116, 3) := by decide +kernel
theorem dX12_gauge_17 : decode cX12_gauge 17 = .ok (.ifCond .eq 18, 3) := by decide +kernel
theorem dX12_gauge_20 : decode cX12_gauge 20 = .ok (.iload 4, 2) := by decide +kernel
theorem dX12_gauge_22 : decode cX12_gauge 22 = .ok (.i2l, 1) := by decide +kernel
theorem dX12_gauge_23 : decode cX12_gauge 23 = .ok (.ldc2_w 435, 3) := by decide +kernel
theorem dX12_gauge_26 : decode cX12_gauge 26 = .ok (.ldc2_w 437, 3) := by decide +kernel
theorem dX12_gauge_29 : decode cX12_gauge 29 = .ok (.invokestatic 110, 3) := by decide +kernel
theorem dX12_gauge_32 : decode cX12_gauge 32 = .ok (.ifCond .ne 6, 3) := by decide +kernel
theorem dX12_gauge_35 : decode cX12_gauge 35 = .ok (.bipush (-2), 2) := by decide +kernel
theorem dX12_gauge_37 : decode cX12_gauge 37 = .ok (.ireturn, 1) := by decide +kernel
theorem dX12_gauge_38 : decode cX12_gauge 38 = .ok (.aload_n 0, 1) := by decide +kernel
theorem dX12_gauge_39 : decode cX12_gauge 39 = .ok (.getfield 13, 3) := by decide +kernel
theorem dX12_gauge_42 : decode cX12_gauge 42 = .ok (.sipush 790, 3) := by decide +kernel
theorem dX12_gauge_45 : decode cX12_gauge 45 = .ok (.iconst 2, 1) := by decide +kernel
theorem dX12_gauge_46 : decode cX12_gauge 46 = .ok (.iload_n 1, 1) := by decide +kernel
theorem dX12_gauge_47 : decode cX12_gauge 47 = .ok (.imul, 1) := by decide +kernel
theorem dX12_gauge_48 : decode cX12_gauge 48 = .ok (.iadd, 1) := by decide +kernel
theorem dX12_gauge_49 : decode cX12_gauge 49 = .ok (.bipush 12, 2) := by decide +kernel
theorem dX12_gauge_51 : decode cX12_gauge 51 = .ok (.iload_n 3, 1) := by decide +kernel
theorem dX12_gauge_52 : decode cX12_gauge 52 = .ok (.imul, 1) := by decide +kernel
theorem dX12_gauge_53 : decode cX12_gauge 53 = .ok (.iload_n 2, 1) := by decide +kernel
theorem dX12_gauge_54 : decode cX12_gauge 54 = .ok (.iadd, 1) := by decide +kernel
theorem dX12_gauge_55 : decode cX12_gauge 55 = .ok (.iastore, 1) := by decide +kernel
theorem dX12_gauge_56 : decode cX12_gauge 56 = .ok (.aload_n 0, 1) := by decide +kernel
theorem dX12_gauge_57 : decode cX12_gauge 57 = .ok (.getfield 13, 3) := by decide +kernel
theorem dX12_gauge_60 : decode cX12_gauge 60 = .ok (.sipush 790, 3) := by decide +kernel
theorem dX12_gauge_63 : decode cX12_gauge 63 = .ok (.iconst 2, 1) := by decide +kernel
theorem dX12_gauge_64 : decode cX12_gauge 64 = .ok (.iload_n 1, 1) := by decide +kernel
theorem dX12_gauge_65 : decode cX12_gauge 65 = .ok (.imul, 1) := by decide +kernel
theorem dX12_gauge_66 : decode cX12_gauge 66 = .ok (.iadd, 1) := by decide +kernel
theorem dX12_gauge_67 : decode cX12_gauge 67 = .ok (.iconst 1, 1) := by decide +kernel
theorem dX12_gauge_68 : decode cX12_gauge 68 = .ok (.iadd, 1) := by decide +kernel
theorem dX12_gauge_69 : decode cX12_gauge 69 = .ok (.iload 4, 2) := by decide +kernel
theorem dX12_gauge_71 : decode cX12_gauge 71 = .ok (.iastore, 1) := by decide +kernel
theorem dX12_gauge_72 : decode cX12_gauge 72 = .ok (.iconst 0, 1) := by decide +kernel
theorem dX12_gauge_73 : decode cX12_gauge 73 = .ok (.ireturn, 1) := by decide +kernel
theorem cw_X12_gauge_110 : CwS mi_X12_gauge mi_X12_in yX12_in 110 3 := ⟨⟨w_1365, w_1366, w_108, w_1367⟩, ⟨by decide, by decide⟩, by decide +kernel, by decide, by decide⟩
theorem cw_X12_gauge_116 : CwS mi_X12_gauge mi_X12_isPlace yX12_isPlace 116 2 := ⟨⟨w_1522, w_1523, w_108, w_1524⟩, ⟨by decide, by decide⟩, by decide +kernel, by decide, by decide⟩
theorem ct_X12_gauge {l : Launch} {Γ : Am} (r0 : Nat) (v1 : Int32) (v2 : Int32) (v3 : Int32) (v4 : Int32) (z : Hp) : Ct l Γ yX12_gauge mi_X12_gauge cvI [.ref (mB Γ + r0), .int v1, .int v2, .int v3, .int v4] z (m_X12_gauge r0 v1 v2 v3 v4 z) := by
  refine Ct.ofJ (by decide) ⟨rfl, rfl⟩ (Nat.le_of_ble_eq_true rfl) ?_
  unfold m_X12_gauge
  show J l Γ mi_X12_gauge cvI 0 0 0 [(0, .ref (mB Γ + r0)), (1, .int v1), (2, .int v2), (3, .int v3), (4, .int v4)] [] z _
  refine j_iload_n (pc := 0) 1 dX12_gauge_0 rfl rfl ?_
  refine j_i2l (pc := 1) dX12_gauge_1 ?_
  refine j_lconst (pc := 2) (v := 0) dX12_gauge_2 (by decide) ?_
  refine j_ldc2 (pc := 3) (v := 9) dX12_gauge_3 w_1740 ?_
  refine j_callS_I (pc := 6) (as := [.long (Int32.toInt64 v1), .long 0, .long 9]) (mc2 := 0) (ms2 := 0) (ct_X12_in _ _ _ _) cw_X12_gauge_110 dX12_gauge_6 (Nat.le_of_ble_eq_true rfl) rfl (by decide) (by decide) (fun x2 z1 => ?_)
  refine j_if_eq (pc := 9) 35 dX12_gauge_9 (by decide) ?_ ?_
  · refine j_bipush (pc := 35) (v := (-2)) dX12_gauge_35 (by decide) ?_
    exact j_ireturn (pc := 37) dX12_gauge_37 rfl rfl
  refine j_iload_n (pc := 12) 2 dX12_gauge_12 rfl rfl ?_
  refine j_iload_n (pc := 13) 3 dX12_gauge_13 rfl rfl ?_
  refine j_callS_I (pc := 14) (as := [.int v2, .int v3]) (mc2 := 0) (ms2 := 0) (ct_X12_isPlace _ _ _) cw_X12_gauge_116 dX12_gauge_14 (Nat.le_of_ble_eq_true rfl) rfl (by decide) (by decide) (fun x4 z3 => ?_)
  refine j_if_eq (pc := 17) 35 dX12_gauge_17 (by decide) ?_ ?_
  · refine j_bipush (pc := 35) (v := (-2)) dX12_gauge_35 (by decide) ?_
    exact j_ireturn (pc := 37) dX12_gauge_37 rfl rfl
  refine j_iload (pc := 20) 4 dX12_gauge_20 rfl ?_
  refine j_i2l (pc := 22) dX12_gauge_22 ?_
  refine j_ldc2 (pc := 23) (v := (-500)) dX12_gauge_23 w_1741 ?_
  refine j_ldc2 (pc := 26) (v := 500) dX12_gauge_26 w_1742 ?_
  refine j_callS_I (pc := 29) (as := [.long (Int32.toInt64 v4), .long (-500), .long 500]) (mc2 := 0) (ms2 := 0) (ct_X12_in _ _ _ _) cw_X12_gauge_110 dX12_gauge_29 (Nat.le_of_ble_eq_true rfl) rfl (by decide) (by decide) (fun x6 z5 => ?_)
  refine j_if_ne (pc := 32) 38 dX12_gauge_32 (by decide) ?_ ?_
  · refine j_aload_n (pc := 38) 0 dX12_gauge_38 rfl rfl ?_
    refine j_getR (pc := 39) ok_X12 (by decide) rfl w_1239 dX12_gauge_39 (fun a7 => ?_)
    refine j_sipush (pc := 42) (v := 790) dX12_gauge_42 (by decide) ?_
    refine j_iconst (pc := 45) (v := 2) dX12_gauge_45 (by decide) ?_
    refine j_iload_n (pc := 46) 1 dX12_gauge_46 rfl rfl ?_
    refine j_imul (pc := 47) dX12_gauge_47 ?_
    refine j_iadd (pc := 48) dX12_gauge_48 ?_
    refine j_bipush (pc := 49) (v := 12) dX12_gauge_49 (by decide) ?_
    refine j_iload_n (pc := 51) 3 dX12_gauge_51 rfl rfl ?_
    refine j_imul (pc := 52) dX12_gauge_52 ?_
    refine j_iload_n (pc := 53) 2 dX12_gauge_53 rfl rfl ?_
    refine j_iadd (pc := 54) dX12_gauge_54 ?_
    refine j_iastore (pc := 55) dX12_gauge_55 (fun z8 => ?_)
    refine j_aload_n (pc := 56) 0 dX12_gauge_56 rfl rfl ?_
    refine j_getR (pc := 57) ok_X12 (by decide) rfl w_1239 dX12_gauge_57 (fun a9 => ?_)
    refine j_sipush (pc := 60) (v := 790) dX12_gauge_60 (by decide) ?_
    refine j_iconst (pc := 63) (v := 2) dX12_gauge_63 (by decide) ?_
    refine j_iload_n (pc := 64) 1 dX12_gauge_64 rfl rfl ?_
    refine j_imul (pc := 65) dX12_gauge_65 ?_
    refine j_iadd (pc := 66) dX12_gauge_66 ?_
    refine j_iconst (pc := 67) (v := 1) dX12_gauge_67 (by decide) ?_
    refine j_iadd (pc := 68) dX12_gauge_68 ?_
    refine j_iload (pc := 69) 4 dX12_gauge_69 rfl ?_
    refine j_iastore (pc := 71) dX12_gauge_71 (fun z10 => ?_)
    refine j_iconst (pc := 72) (v := 0) dX12_gauge_72 (by decide) ?_
    exact j_ireturn (pc := 73) dX12_gauge_73 rfl rfl
  refine j_bipush (pc := 35) (v := (-2)) dX12_gauge_35 (by decide) ?_
  exact j_ireturn (pc := 37) dX12_gauge_37 rfl rfl
theorem dX12_lies_0 : decode cX12_lies 0 = .ok (.iload_n 1, 1) := by decide +kernel
theorem dX12_lies_1 : decode cX12_lies 1 = .ok (.i2l, 1) := by decide +kernel
theorem dX12_lies_2 : decode cX12_lies 2 = .ok (.lconst 0, 1) := by decide +kernel
theorem dX12_lies_3 : decode cX12_lies 3 = .ok (.ldc2_w 439, 3) := by decide +kernel
theorem dX12_lies_6 : decode cX12_lies 6 = .ok (.invokestatic 110, 3) := by decide +kernel
theorem dX12_lies_9 : decode cX12_lies 9 = .ok (.ifCond .ne 6, 3) := by decide +kernel
theorem dX12_lies_12 : decode cX12_lies 12 = .ok (.bipush (-2), 2) := by decide +kernel
theorem dX12_lies_14 : decode cX12_lies 14 = .ok (.ireturn, 1) := by decide +kernel
theorem dX12_lies_15 : decode cX12_lies 15 = .ok (.iconst 0, 1) := by decide +kernel
theorem dX12_lies_16 : decode cX12_lies 16 = .ok (.istore_n 2, 1) := by decide +kernel
theorem dX12_lies_17 : decode cX12_lies 17 = .ok (.iconst 0, 1) := by decide +kernel
theorem dX12_lies_18 : decode cX12_lies 18 = .ok (.istore_n 3, 1) := by decide +kernel
theorem dX12_lies_19 : decode cX12_lies 19 = .ok (.iload_n 3, 1) := by decide +kernel
theorem dX12_lies_20 : decode cX12_lies 20 = .ok (.bipush 10, 2) := by decide +kernel
theorem dX12_lies_22 : decode cX12_lies 22 = .ok (.if_icmp .ge 77, 3) := by decide +kernel
theorem dX12_lies_25 : decode cX12_lies 25 = .ok (.aload_n 0, 1) := by decide +kernel
theorem dX12_lies_26 : decode cX12_lies 26 = .ok (.getfield 13, 3) := by decide +kernel
theorem dX12_lies_29 : decode cX12_lies 29 = .ok (.sipush 790, 3) := by decide +kernel
theorem dX12_lies_32 : decode cX12_lies 32 = .ok (.iconst 2, 1) := by decide +kernel
theorem dX12_lies_33 : decode cX12_lies 33 = .ok (.iload_n 3, 1) := by decide +kernel
theorem dX12_lies_34 : decode cX12_lies 34 = .ok (.imul, 1) := by decide +kernel
theorem dX12_lies_35 : decode cX12_lies 35 = .ok (.iadd, 1) := by decide +kernel
theorem dX12_lies_36 : decode cX12_lies 36 = .ok (.iaload, 1) := by decide +kernel
theorem dX12_lies_37 : decode cX12_lies 37 = .ok (.istore 4, 2) := by decide +kernel
theorem dX12_lies_39 : decode cX12_lies 39 = .ok (.iload 4, 2) := by decide +kernel
theorem dX12_lies_41 : decode cX12_lies 41 = .ok (.iconst (-1), 1) := by decide +kernel
theorem dX12_lies_42 : decode cX12_lies 42 = .ok (.if_icmp .eq 51, 3) := by decide +kernel
theorem dX12_lies_45 : decode cX12_lies 45 = .ok (.aload_n 0, 1) := by decide +kernel
theorem dX12_lies_46 : decode cX12_lies 46 = .ok (.iload 4, 2) := by decide +kernel
theorem dX12_lies_48 : decode cX12_lies 48 = .ok (.invokevirtual 102, 3) := by decide +kernel
theorem dX12_lies_51 : decode cX12_lies 51 = .ok (.ifCond .ne 36, 3) := by decide +kernel
theorem dX12_lies_54 : decode cX12_lies 54 = .ok (.aload_n 0, 1) := by decide +kernel
theorem dX12_lies_55 : decode cX12_lies 55 = .ok (.getfield 13, 3) := by decide +kernel
theorem dX12_lies_58 : decode cX12_lies 58 = .ok (.sipush 192, 3) := by decide +kernel
theorem dX12_lies_61 : decode cX12_lies 61 = .ok (.iload 4, 2) := by decide +kernel
theorem dX12_lies_63 : decode cX12_lies 63 = .ok (.iadd, 1) := by decide +kernel
theorem dX12_lies_64 : decode cX12_lies 64 = .ok (.iaload, 1) := by decide +kernel
theorem dX12_lies_65 : decode cX12_lies 65 = .ok (.aload_n 0, 1) := by decide +kernel
theorem dX12_lies_66 : decode cX12_lies 66 = .ok (.getfield 13, 3) := by decide +kernel
theorem dX12_lies_69 : decode cX12_lies 69 = .ok (.sipush 790, 3) := by decide +kernel
theorem dX12_lies_72 : decode cX12_lies 72 = .ok (.iconst 2, 1) := by decide +kernel
theorem dX12_lies_73 : decode cX12_lies 73 = .ok (.iload_n 3, 1) := by decide +kernel
theorem dX12_lies_74 : decode cX12_lies 74 = .ok (.imul, 1) := by decide +kernel
theorem dX12_lies_75 : decode cX12_lies 75 = .ok (.iadd, 1) := by decide +kernel
theorem dX12_lies_76 : decode cX12_lies 76 = .ok (.iconst 1, 1) := by decide +kernel
theorem dX12_lies_77 : decode cX12_lies 77 = .ok (.iadd, 1) := by decide +kernel
theorem dX12_lies_78 : decode cX12_lies 78 = .ok (.iaload, 1) := by decide +kernel
theorem dX12_lies_79 : decode cX12_lies 79 = .ok (.isub, 1) := by decide +kernel
theorem dX12_lies_80 : decode cX12_lies 80 = .ok (.invokestatic 328, 3) := by decide +kernel
theorem dX12_lies_83 : decode cX12_lies 83 = .ok (.iload_n 1, 1) := by decide +kernel
theorem dX12_lies_84 : decode cX12_lies 84 = .ok (.if_icmp .le 9, 3) := by decide +kernel
theorem dX12_lies_87 : decode cX12_lies 87 = .ok (.iload_n 2, 1) := by decide +kernel
theorem dX12_lies_88 : decode cX12_lies 88 = .ok (.iconst 1, 1) := by decide +kernel
theorem dX12_lies_89 : decode cX12_lies 89 = .ok (.iload_n 3, 1) := by decide +kernel
theorem dX12_lies_90 : decode cX12_lies 90 = .ok (.ishl, 1) := by decide +kernel
theorem dX12_lies_91 : decode cX12_lies 91 = .ok (.ior, 1) := by decide +kernel
theorem dX12_lies_92 : decode cX12_lies 92 = .ok (.istore_n 2, 1) := by decide +kernel
theorem dX12_lies_93 : decode cX12_lies 93 = .ok (.iinc 3 1, 3) := by decide +kernel
theorem dX12_lies_96 : decode cX12_lies 96 = .ok (.goto (-77), 3) := by decide +kernel
theorem dX12_lies_99 : decode cX12_lies 99 = .ok (.iload_n 2, 1) := by decide +kernel
theorem dX12_lies_100 : decode cX12_lies 100 = .ok (.ireturn, 1) := by decide +kernel
theorem cw_X12_lies_102 : CwV mi_X12_lies mi_X12_isDug yX12_isDug RX12 102 1 := ⟨⟨w_1511, w_1513, w_65, w_108, w_1514⟩, ⟨by decide, by decide⟩, by decide +kernel, by decide, by decide⟩
theorem cw_X12_lies_328 : CwS mi_X12_lies mi_J9_abs_0f7a4 yJ9_abs_0f7a4 328 1 := ⟨⟨w_1554, w_879, w_109, w_880⟩, ⟨by decide, by decide⟩, by decide +kernel, by decide, by decide⟩
theorem cw_X12_lies_110 : CwS mi_X12_lies mi_X12_in yX12_in 110 3 := ⟨⟨w_1365, w_1366, w_108, w_1367⟩, ⟨by decide, by decide⟩, by decide +kernel, by decide, by decide⟩
theorem j_X12_lies_B93 {l : Launch} {Γ : Am} {k19 : Nat → Int32 → Int32 → Int32 → Hp → Option (Int32 × Hp)} (hL19 : ∀ (r0 : Nat) (v1 : Int32) (v2 : Int32) (v3 : Int32) (z : Hp), J l Γ mi_X12_lies cvI 0 0 19 [(0, .ref (mB Γ + r0)), (1, .int v1), (2, .int v2), (3, .int v3)] [] z (k19 r0 v1 v2 v3 z)) : ∀ (r0 : Nat) (v1 : Int32) (v2 : Int32) (v3 : Int32) (z : Hp), J l Γ mi_X12_lies cvI 0 0 93 [(0, .ref (mB Γ + r0)), (1, .int v1), (2, .int v2), (3, .int v3)] [] z (m_X12_lies_B93 k19 r0 v1 v2 v3 z) := by
  intro r0 v1 v2 v3 z
  unfold m_X12_lies_B93
  refine j_iinc (pc := 93) (n0 := 3) (v0 := v3 + 1) (lv2 := [(3, .int (v3 + 1)), (0, .ref (mB Γ + r0)), (1, .int v1), (2, .int v2)]) dX12_lies_93 rfl rfl (by decide) rfl ?_
  refine j_goto (pc := 96) 19 dX12_lies_96 (by decide) ?_
  exact J.sub [1, 2, 3, 0] rfl (hL19 r0 v1 v2 (v3 + 1) z)
theorem j_X12_lies_B87 {l : Launch} {Γ : Am} {k19 : Nat → Int32 → Int32 → Int32 → Hp → Option (Int32 × Hp)} (hL19 : ∀ (r0 : Nat) (v1 : Int32) (v2 : Int32) (v3 : Int32) (z : Hp), J l Γ mi_X12_lies cvI 0 0 19 [(0, .ref (mB Γ + r0)), (1, .int v1), (2, .int v2), (3, .int v3)] [] z (k19 r0 v1 v2 v3 z)) : ∀ (r0 : Nat) (v1 : Int32) (v2 : Int32) (v3 : Int32) (z : Hp), J l Γ mi_X12_lies cvI 0 0 87 [(0, .ref (mB Γ + r0)), (1, .int v1), (2, .int v2), (3, .int v3)] [] z (m_X12_lies_B87 k19 r0 v1 v2 v3 z) := by
  intro r0 v1 v2 v3 z
  unfold m_X12_lies_B87
  refine j_iload_n (pc := 87) 2 dX12_lies_87 rfl rfl ?_
  refine j_iconst (pc := 88) (v := 1) dX12_lies_88 (by decide) ?_
  refine j_iload_n (pc := 89) 3 dX12_lies_89 rfl rfl ?_
  refine j_ishl (pc := 90) dX12_lies_90 ?_
  refine j_ior (pc := 91) dX12_lies_91 ?_
  refine j_istore_n (pc := 92) (lv2 := [(2, .int (v2 ||| ((1 : Int32) <<< (v3 &&& 31)))), (0, .ref (mB Γ + r0)), (1, .int v1), (3, .int v3)]) dX12_lies_92 rfl (by decide) rfl ?_
  exact J.sub [1, 2, 0, 3] rfl ((j_X12_lies_B93 hL19) r0 v1 (v2 ||| ((1 : Int32) <<< (v3 &&& 31))) v3 z)
theorem j_X12_lies_L19 {l : Launch} {Γ : Am}   : ∀ (f : Nat), ∀ (r0 : Nat) (v1 : Int32) (v2 : Int32) (v3 : Int32) (z : Hp), J l Γ mi_X12_lies cvI 0 0 19 [(0, .ref (mB Γ + r0)), (1, .int v1), (2, .int v2), (3, .int v3)] [] z (m_X12_lies_L19  f r0 v1 v2 v3 z) := by
  intro f
  induction f with
  | zero => intro r0 v1 v2 v3 z; exact J.none
  | succ f hL19 =>
    intro r0 v1 v2 v3 z
    rw [m_X12_lies_L19]
    refine j_iload_n (pc := 19) 3 dX12_lies_19 rfl rfl ?_
    refine j_bipush (pc := 20) (v := 10) dX12_lies_20 (by decide) ?_
    refine j_icmp_ge (pc := 22) 99 dX12_lies_22 (by decide) ?_ ?_
    · refine j_iload_n (pc := 99) 2 dX12_lies_99 rfl rfl ?_
      exact j_ireturn (pc := 100) dX12_lies_100 rfl rfl
    refine j_aload_n (pc := 25) 0 dX12_lies_25 rfl rfl ?_
    refine j_getR (pc := 26) ok_X12 (by decide) rfl w_1239 dX12_lies_26 (fun a1 => ?_)
    refine j_sipush (pc := 29) (v := 790) dX12_lies_29 (by decide) ?_
    refine j_iconst (pc := 32) (v := 2) dX12_lies_32 (by decide) ?_
    refine j_iload_n (pc := 33) 3 dX12_lies_33 rfl rfl ?_
    refine j_imul (pc := 34) dX12_lies_34 ?_
    refine j_iadd (pc := 35) dX12_lies_35 ?_
    refine j_iaload (pc := 36) dX12_lies_36 (fun x2 => ?_)
    refine j_istore (pc := 37) (lv2 := [(4, .int x2), (0, .ref (mB Γ + r0)), (1, .int v1), (2, .int v2), (3, .int v3)]) dX12_lies_37 (by decide) rfl ?_
    refine j_iload (pc := 39) 0 dX12_lies_39 rfl ?_
    refine j_iconst (pc := 41) (v := (-1)) dX12_lies_41 (by decide) ?_
    refine j_icmp_eq (pc := 42) 93 dX12_lies_42 (by decide) ?_ ?_
    · exact J.sub [1, 2, 3, 4] rfl ((j_X12_lies_B93 hL19) r0 v1 v2 v3 z)
    refine j_aload_n (pc := 45) 1 dX12_lies_45 rfl rfl ?_
    refine j_iload (pc := 46) 0 dX12_lies_46 rfl ?_
    refine j_isC (fun h5 => ?_)
    refine j_callV_I (pc := 48) (as := [.int x2]) (mc2 := 0) (ms2 := 0) (ct_X12_isDug _ _ _) h5 rfl cw_X12_lies_102 dX12_lies_48 (Nat.le_of_ble_eq_true rfl) rfl (by decide) (by decide) (fun x4 z3 => ?_)
    refine j_if_ne (pc := 51) 87 dX12_lies_51 (by decide) ?_ ?_
    · exact J.sub [1, 2, 3, 4] rfl ((j_X12_lies_B87 hL19) r0 v1 v2 v3 z3)
    refine j_aload_n (pc := 54) 1 dX12_lies_54 rfl rfl ?_
    refine j_getR (pc := 55) ok_X12 (by decide) rfl w_1239 dX12_lies_55 (fun a6 => ?_)
    refine j_sipush (pc := 58) (v := 192) dX12_lies_58 (by decide) ?_
    refine j_iload (pc := 61) 0 dX12_lies_61 rfl ?_
    refine j_iadd (pc := 63) dX12_lies_63 ?_
    refine j_iaload (pc := 64) dX12_lies_64 (fun x7 => ?_)
    refine j_aload_n (pc := 65) 1 dX12_lies_65 rfl rfl ?_
    refine j_getR (pc := 66) ok_X12 (by decide) rfl w_1239 dX12_lies_66 (fun a8 => ?_)
    refine j_sipush (pc := 69) (v := 790) dX12_lies_69 (by decide) ?_
    refine j_iconst (pc := 72) (v := 2) dX12_lies_72 (by decide) ?_
    refine j_iload_n (pc := 73) 4 dX12_lies_73 rfl rfl ?_
    refine j_imul (pc := 74) dX12_lies_74 ?_
    refine j_iadd (pc := 75) dX12_lies_75 ?_
    refine j_iconst (pc := 76) (v := 1) dX12_lies_76 (by decide) ?_
    refine j_iadd (pc := 77) dX12_lies_77 ?_
    refine j_iaload (pc := 78) dX12_lies_78 (fun x9 => ?_)
    refine j_isub (pc := 79) dX12_lies_79 ?_
    refine j_callS_I (pc := 80) (as := [.int (x7 - x9)]) (mc2 := 0) (ms2 := 0) (ct_J9_abs_0f7a4 _ _) cw_X12_lies_328 dX12_lies_80 (Nat.le_of_ble_eq_true rfl) rfl (by decide) (by decide) (fun x11 z10 => ?_)
    refine j_iload_n (pc := 83) 2 dX12_lies_83 rfl rfl ?_
    refine j_icmp_le (pc := 84) 93 dX12_lies_84 (by decide) ?_ ?_
    · exact J.sub [1, 2, 3, 4] rfl ((j_X12_lies_B93 hL19) r0 v1 v2 v3 z10)
    exact J.sub [1, 2, 3, 4] rfl ((j_X12_lies_B87 hL19) r0 v1 v2 v3 z10)
theorem ct_X12_lies {l : Launch} {Γ : Am} (r0 : Nat) (v1 : Int32) (z : Hp) : Ct l Γ yX12_lies mi_X12_lies cvI [.ref (mB Γ + r0), .int v1] z (m_X12_lies r0 v1 z) := by
  refine Ct.ofJ (by decide) ⟨rfl, rfl⟩ (Nat.le_of_ble_eq_true rfl) ?_
  unfold m_X12_lies
  show J l Γ mi_X12_lies cvI 0 0 0 [(0, .ref (mB Γ + r0)), (1, .int v1)] [] z _
  refine j_iload_n (pc := 0) 1 dX12_lies_0 rfl rfl ?_
  refine j_i2l (pc := 1) dX12_lies_1 ?_
  refine j_lconst (pc := 2) (v := 0) dX12_lies_2 (by decide) ?_
  refine j_ldc2 (pc := 3) (v := 99) dX12_lies_3 w_1747 ?_
  refine j_callS_I (pc := 6) (as := [.long (Int32.toInt64 v1), .long 0, .long 99]) (mc2 := 0) (ms2 := 0) (ct_X12_in _ _ _ _) cw_X12_lies_110 dX12_lies_6 (Nat.le_of_ble_eq_true rfl) rfl (by decide) (by decide) (fun x13 z12 => ?_)
  refine j_if_ne (pc := 9) 15 dX12_lies_9 (by decide) ?_ ?_
  · refine j_iconst (pc := 15) (v := 0) dX12_lies_15 (by decide) ?_
    refine j_istore_n (pc := 16) (lv2 := [(2, .int 0), (0, .ref (mB Γ + r0)), (1, .int v1)]) dX12_lies_16 rfl (by decide) rfl ?_
    refine j_iconst (pc := 17) (v := 0) dX12_lies_17 (by decide) ?_
    refine j_istore_n (pc := 18) (lv2 := [(3, .int 0), (2, .int 0), (0, .ref (mB Γ + r0)), (1, .int v1)]) dX12_lies_18 rfl (by decide) rfl ?_
    exact J.sub [2, 3, 1, 0] rfl ((j_X12_lies_L19 FU) r0 v1 0 0 z12)
  refine j_bipush (pc := 12) (v := (-2)) dX12_lies_12 (by decide) ?_
  exact j_ireturn (pc := 14) dX12_lies_14 rfl rfl
theorem dX12_most_0 : decode cX12_most 0 = .ok (.iload_n 1, 1) := by decide +kernel
theorem dX12_most_1 : decode cX12_most 1 = .ok (.i2l, 1) := by decide +kernel
theorem dX12_most_2 : decode cX12_most 2 = .ok (.lconst 0, 1) := by decide +kernel
theorem dX12_most_3 : decode cX12_most 3 = .ok (.lconst 1, 1) := by decide +kernel
theorem dX12_most_4 : decode cX12_most 4 = .ok (.invokestatic 110, 3) := by decide +kernel
theorem dX12_most_7 : decode cX12_most 7 = .ok (.ifCond .ne 5, 3) := by decide +kernel
theorem dX12_most_10 : decode cX12_most 10 = .ok (.iconst (-1), 1) := by decide +kernel
theorem dX12_most_11 : decode cX12_most 11 = .ok (.ireturn, 1) := by decide +kernel
theorem dX12_most_12 : decode cX12_most 12 = .ok (.iconst (-1), 1) := by decide +kernel
theorem dX12_most_13 : decode cX12_most 13 = .ok (.istore_n 2, 1) := by decide +kernel
theorem dX12_most_14 : decode cX12_most 14 = .ok (.iconst 0, 1) := by decide +kernel
theorem dX12_most_15 : decode cX12_most 15 = .ok (.istore_n 3, 1) := by decide +kernel
theorem dX12_most_16 : decode cX12_most 16 = .ok (.iload_n 3, 1) := by decide +kernel
theorem dX12_most_17 : decode cX12_most 17 = .ok (.sipush 144, 3) := by decide +kernel
theorem dX12_most_20 : decode cX12_most 20 = .ok (.if_icmp .ge 80, 3) := by decide +kernel
theorem dX12_most_23 : decode cX12_most 23 = .ok (.aload_n 0, 1) := by decide +kernel
theorem dX12_most_24 : decode cX12_most 24 = .ok (.iload_n 3, 1) := by decide +kernel
theorem dX12_most_25 : decode cX12_most 25 = .ok (.invokevirtual 102, 3) := by decide +kernel
theorem dX12_most_28 : decode cX12_most 28 = .ok (.ifCond .eq 6, 3) := by decide +kernel
theorem dX12_most_31 : decode cX12_most 31 = .ok (.goto 63, 3) := by decide +kernel
theorem dX12_most_34 : decode cX12_most 34 = .ok (.iload_n 2, 1) := by decide +kernel
theorem dX12_most_35 : decode cX12_most 35 = .ok (.iconst (-1), 1) := by decide +kernel
theorem dX12_most_36 : decode cX12_most 36 = .ok (.if_icmp .eq 56, 3) := by decide +kernel
theorem dX12_most_39 : decode cX12_most 39 = .ok (.iload_n 1, 1) := by decide +kernel
theorem dX12_most_40 : decode cX12_most 40 = .ok (.ifCond .ne 29, 3) := by decide +kernel
theorem dX12_most_43 : decode cX12_most 43 = .ok (.aload_n 0, 1) := by decide +kernel
theorem dX12_most_44 : decode cX12_most 44 = .ok (.getfield 13, 3) := by decide +kernel
theorem dX12_most_47 : decode cX12_most 47 = .ok (.sipush 192, 3) := by decide +kernel
theorem dX12_most_50 : decode cX12_most 50 = .ok (.iload_n 3, 1) := by decide +kernel
theorem dX12_most_51 : decode cX12_most 51 = .ok (.iadd, 1) := by decide +kernel
theorem dX12_most_52 : decode cX12_most 52 = .ok (.iaload, 1) := by decide +kernel
theorem dX12_most_53 : decode cX12_most 53 = .ok (.aload_n 0, 1) := by decide +kernel
theorem dX12_most_54 : decode cX12_most 54 = .ok (.getfield 13, 3) := by decide +kernel
theorem dX12_most_57 : decode cX12_most 57 = .ok (.sipush 192, 3) := by decide +kernel
theorem dX12_most_60 : decode cX12_most 60 = .ok (.iload_n 2, 1) := by decide +kernel
theorem dX12_most_61 : decode cX12_most 61 = .ok (.iadd, 1) := by decide +kernel
theorem dX12_most_62 : decode cX12_most 62 = .ok (.iaload, 1) := by decide +kernel
theorem dX12_most_63 : decode cX12_most 63 = .ok (.if_icmp .ge 31, 3) := by decide +kernel
theorem dX12_most_66 : decode cX12_most 66 = .ok (.goto 26, 3) := by decide +kernel
theorem dX12_most_69 : decode cX12_most 69 = .ok (.aload_n 0, 1) := by decide +kernel
theorem dX12_most_70 : decode cX12_most 70 = .ok (.getfield 13, 3) := by decide +kernel
theorem dX12_most_73 : decode cX12_most 73 = .ok (.sipush 192, 3) := by decide +kernel
theorem dX12_most_76 : decode cX12_most 76 = .ok (.iload_n 3, 1) := by decide +kernel
theorem dX12_most_77 : decode cX12_most 77 = .ok (.iadd, 1) := by decide +kernel
theorem dX12_most_78 : decode cX12_most 78 = .ok (.iaload, 1) := by decide +kernel
theorem dX12_most_79 : decode cX12_most 79 = .ok (.aload_n 0, 1) := by decide +kernel
theorem dX12_most_80 : decode cX12_most 80 = .ok (.getfield 13, 3) := by decide +kernel
theorem dX12_most_83 : decode cX12_most 83 = .ok (.sipush 192, 3) := by decide +kernel
theorem dX12_most_86 : decode cX12_most 86 = .ok (.iload_n 2, 1) := by decide +kernel
theorem dX12_most_87 : decode cX12_most 87 = .ok (.iadd, 1) := by decide +kernel
theorem dX12_most_88 : decode cX12_most 88 = .ok (.iaload, 1) := by decide +kernel
theorem dX12_most_89 : decode cX12_most 89 = .ok (.if_icmp .le 5, 3) := by decide +kernel
theorem dX12_most_92 : decode cX12_most 92 = .ok (.iload_n 3, 1) := by decide +kernel
theorem dX12_most_93 : decode cX12_most 93 = .ok (.istore_n 2, 1) := by decide +kernel
theorem dX12_most_94 : decode cX12_most 94 = .ok (.iinc 3 1, 3) := by decide +kernel
theorem dX12_most_97 : decode cX12_most 97 = .ok (.goto (-81), 3) := by decide +kernel
theorem dX12_most_100 : decode cX12_most 100 = .ok (.iload_n 2, 1) := by decide +kernel
theorem dX12_most_101 : decode cX12_most 101 = .ok (.ireturn, 1) := by decide +kernel
theorem cw_X12_most_102 : CwV mi_X12_most mi_X12_isDug yX12_isDug RX12 102 1 := ⟨⟨w_1511, w_1513, w_65, w_108, w_1514⟩, ⟨by decide, by decide⟩, by decide +kernel, by decide, by decide⟩
theorem cw_X12_most_110 : CwS mi_X12_most mi_X12_in yX12_in 110 3 := ⟨⟨w_1365, w_1366, w_108, w_1367⟩, ⟨by decide, by decide⟩, by decide +kernel, by decide, by decide⟩
theorem j_X12_most_B94 {l : Launch} {Γ : Am} {k16 : Nat → Int32 → Int32 → Int32 → Hp → Option (Int32 × Hp)} (hL16 : ∀ (r0 : Nat) (v1 : Int32) (v2 : Int32) (v3 : Int32) (z : Hp), J l Γ mi_X12_most cvI 0 0 16 [(0, .ref (mB Γ + r0)), (1, .int v1), (2, .int v2), (3, .int v3)] [] z (k16 r0 v1 v2 v3 z)) : ∀ (r0 : Nat) (v1 : Int32) (v2 : Int32) (v3 : Int32) (z : Hp), J l Γ mi_X12_most cvI 0 0 94 [(0, .ref (mB Γ + r0)), (1, .int v1), (2, .int v2), (3, .int v3)] [] z (m_X12_most_B94 k16 r0 v1 v2 v3 z) := by
  intro r0 v1 v2 v3 z
  unfold m_X12_most_B94
  refine j_iinc (pc := 94) (n0 := 3) (v0 := v3 + 1) (lv2 := [(3, .int (v3 + 1)), (0, .ref (mB Γ + r0)), (1, .int v1), (2, .int v2)]) dX12_most_94 rfl rfl (by decide) rfl ?_
  refine j_goto (pc := 97) 16 dX12_most_97 (by decide) ?_
  exact J.sub [1, 2, 3, 0] rfl (hL16 r0 v1 v2 (v3 + 1) z)
theorem j_X12_most_B92 {l : Launch} {Γ : Am} {k16 : Nat → Int32 → Int32 → Int32 → Hp → Option (Int32 × Hp)} (hL16 : ∀ (r0 : Nat) (v1 : Int32) (v2 : Int32) (v3 : Int32) (z : Hp), J l Γ mi_X12_most cvI 0 0 16 [(0, .ref (mB Γ + r0)), (1, .int v1), (2, .int v2), (3, .int v3)] [] z (k16 r0 v1 v2 v3 z)) : ∀ (r0 : Nat) (v1 : Int32) (v3 : Int32) (z : Hp), J l Γ mi_X12_most cvI 0 0 92 [(0, .ref (mB Γ + r0)), (1, .int v1), (3, .int v3)] [] z (m_X12_most_B92 k16 r0 v1 v3 z) := by
  intro r0 v1 v3 z
  unfold m_X12_most_B92
  refine j_iload_n (pc := 92) 2 dX12_most_92 rfl rfl ?_
  refine j_istore_n (pc := 93) (lv2 := [(2, .int v3), (0, .ref (mB Γ + r0)), (1, .int v1), (3, .int v3)]) dX12_most_93 rfl (by decide) rfl ?_
  exact J.sub [1, 2, 0, 3] rfl ((j_X12_most_B94 hL16) r0 v1 v3 v3 z)
theorem j_X12_most_L16 {l : Launch} {Γ : Am}   : ∀ (f : Nat), ∀ (r0 : Nat) (v1 : Int32) (v2 : Int32) (v3 : Int32) (z : Hp), J l Γ mi_X12_most cvI 0 0 16 [(0, .ref (mB Γ + r0)), (1, .int v1), (2, .int v2), (3, .int v3)] [] z (m_X12_most_L16  f r0 v1 v2 v3 z) := by
  intro f
  induction f with
  | zero => intro r0 v1 v2 v3 z; exact J.none
  | succ f hL16 =>
    intro r0 v1 v2 v3 z
    rw [m_X12_most_L16]
    refine j_iload_n (pc := 16) 3 dX12_most_16 rfl rfl ?_
    refine j_sipush (pc := 17) (v := 144) dX12_most_17 (by decide) ?_
    refine j_icmp_ge (pc := 20) 100 dX12_most_20 (by decide) ?_ ?_
    · refine j_iload_n (pc := 100) 2 dX12_most_100 rfl rfl ?_
      exact j_ireturn (pc := 101) dX12_most_101 rfl rfl
    refine j_aload_n (pc := 23) 0 dX12_most_23 rfl rfl ?_
    refine j_iload_n (pc := 24) 3 dX12_most_24 rfl rfl ?_
    refine j_isC (fun h3 => ?_)
    refine j_callV_I (pc := 25) (as := [.int v3]) (mc2 := 0) (ms2 := 0) (ct_X12_isDug _ _ _) h3 rfl cw_X12_most_102 dX12_most_25 (Nat.le_of_ble_eq_true rfl) rfl (by decide) (by decide) (fun x2 z1 => ?_)
    refine j_if_eq (pc := 28) 34 dX12_most_28 (by decide) ?_ ?_
    · refine j_iload_n (pc := 34) 2 dX12_most_34 rfl rfl ?_
      refine j_iconst (pc := 35) (v := (-1)) dX12_most_35 (by decide) ?_
      refine j_icmp_eq (pc := 36) 92 dX12_most_36 (by decide) ?_ ?_
      · exact J.sub [0, 1, 3] rfl ((j_X12_most_B92 hL16) r0 v1 v3 z1)
      refine j_iload_n (pc := 39) 1 dX12_most_39 rfl rfl ?_
      refine j_if_ne (pc := 40) 69 dX12_most_40 (by decide) ?_ ?_
      · refine j_aload_n (pc := 69) 0 dX12_most_69 rfl rfl ?_
        refine j_getR (pc := 70) ok_X12 (by decide) rfl w_1239 dX12_most_70 (fun a4 => ?_)
        refine j_sipush (pc := 73) (v := 192) dX12_most_73 (by decide) ?_
        refine j_iload_n (pc := 76) 3 dX12_most_76 rfl rfl ?_
        refine j_iadd (pc := 77) dX12_most_77 ?_
        refine j_iaload (pc := 78) dX12_most_78 (fun x5 => ?_)
        refine j_aload_n (pc := 79) 0 dX12_most_79 rfl rfl ?_
        refine j_getR (pc := 80) ok_X12 (by decide) rfl w_1239 dX12_most_80 (fun a6 => ?_)
        refine j_sipush (pc := 83) (v := 192) dX12_most_83 (by decide) ?_
        refine j_iload_n (pc := 86) 2 dX12_most_86 rfl rfl ?_
        refine j_iadd (pc := 87) dX12_most_87 ?_
        refine j_iaload (pc := 88) dX12_most_88 (fun x7 => ?_)
        refine j_icmp_le (pc := 89) 94 dX12_most_89 (by decide) ?_ ?_
        · exact J.sub [0, 1, 2, 3] rfl ((j_X12_most_B94 hL16) r0 v1 v2 v3 z1)
        exact J.sub [0, 1, 3] rfl ((j_X12_most_B92 hL16) r0 v1 v3 z1)
      refine j_aload_n (pc := 43) 0 dX12_most_43 rfl rfl ?_
      refine j_getR (pc := 44) ok_X12 (by decide) rfl w_1239 dX12_most_44 (fun a8 => ?_)
      refine j_sipush (pc := 47) (v := 192) dX12_most_47 (by decide) ?_
      refine j_iload_n (pc := 50) 3 dX12_most_50 rfl rfl ?_
      refine j_iadd (pc := 51) dX12_most_51 ?_
      refine j_iaload (pc := 52) dX12_most_52 (fun x9 => ?_)
      refine j_aload_n (pc := 53) 0 dX12_most_53 rfl rfl ?_
      refine j_getR (pc := 54) ok_X12 (by decide) rfl w_1239 dX12_most_54 (fun a10 => ?_)
      refine j_sipush (pc := 57) (v := 192) dX12_most_57 (by decide) ?_
      refine j_iload_n (pc := 60) 2 dX12_most_60 rfl rfl ?_
      refine j_iadd (pc := 61) dX12_most_61 ?_
      refine j_iaload (pc := 62) dX12_most_62 (fun x11 => ?_)
      refine j_icmp_ge (pc := 63) 94 dX12_most_63 (by decide) ?_ ?_
      · exact J.sub [0, 1, 2, 3] rfl ((j_X12_most_B94 hL16) r0 v1 v2 v3 z1)
      refine j_goto (pc := 66) 92 dX12_most_66 (by decide) ?_
      exact J.sub [0, 1, 3] rfl ((j_X12_most_B92 hL16) r0 v1 v3 z1)
    refine j_goto (pc := 31) 94 dX12_most_31 (by decide) ?_
    exact J.sub [0, 1, 2, 3] rfl ((j_X12_most_B94 hL16) r0 v1 v2 v3 z1)
theorem ct_X12_most {l : Launch} {Γ : Am} (r0 : Nat) (v1 : Int32) (z : Hp) : Ct l Γ yX12_most mi_X12_most cvI [.ref (mB Γ + r0), .int v1] z (m_X12_most r0 v1 z) := by
  refine Ct.ofJ (by decide) ⟨rfl, rfl⟩ (Nat.le_of_ble_eq_true rfl) ?_
  unfold m_X12_most
  show J l Γ mi_X12_most cvI 0 0 0 [(0, .ref (mB Γ + r0)), (1, .int v1)] [] z _
  refine j_iload_n (pc := 0) 1 dX12_most_0 rfl rfl ?_
  refine j_i2l (pc := 1) dX12_most_1 ?_
  refine j_lconst (pc := 2) (v := 0) dX12_most_2 (by decide) ?_
  refine j_lconst (pc := 3) (v := 1) dX12_most_3 (by decide) ?_
  refine j_callS_I (pc := 4) (as := [.long (Int32.toInt64 v1), .long 0, .long 1]) (mc2 := 0) (ms2 := 0) (ct_X12_in _ _ _ _) cw_X12_most_110 dX12_most_4 (Nat.le_of_ble_eq_true rfl) rfl (by decide) (by decide) (fun x13 z12 => ?_)
  refine j_if_ne (pc := 7) 12 dX12_most_7 (by decide) ?_ ?_
  · refine j_iconst (pc := 12) (v := (-1)) dX12_most_12 (by decide) ?_
    refine j_istore_n (pc := 13) (lv2 := [(2, .int (-1)), (0, .ref (mB Γ + r0)), (1, .int v1)]) dX12_most_13 rfl (by decide) rfl ?_
    refine j_iconst (pc := 14) (v := 0) dX12_most_14 (by decide) ?_
    refine j_istore_n (pc := 15) (lv2 := [(3, .int 0), (2, .int (-1)), (0, .ref (mB Γ + r0)), (1, .int v1)]) dX12_most_15 rfl (by decide) rfl ?_
    exact J.sub [2, 3, 1, 0] rfl ((j_X12_most_L16 FU) r0 v1 (-1) 0 z12)
  refine j_iconst (pc := 10) (v := (-1)) dX12_most_10 (by decide) ?_
  exact j_ireturn (pc := 11) dX12_most_11 rfl rfl
theorem dX12_frost_0 : decode cX12_frost 0 = .ok (.iload_n 1, 1) := by decide +kernel
theorem dX12_frost_1 : decode cX12_frost 1 = .ok (.i2l, 1) := by decide +kernel
theorem dX12_frost_2 : decode cX12_frost 2 = .ok (.lconst 0, 1) := by decide +kernel
theorem dX12_frost_3 : decode cX12_frost 3 = .ok (.ldc2_w 114, 3) := by decide +kernel
theorem dX12_frost_6 : decode cX12_frost 6 = .ok (.invokestatic 110, 3) := by decide +kernel
theorem dX12_frost_9 : decode cX12_frost 9 = .ok (.ifCond .ne 5, 3) := by decide +kernel
theorem dX12_frost_12 : decode cX12_frost 12 = .ok (.iconst (-1), 1) := by decide +kernel
theorem dX12_frost_13 : decode cX12_frost 13 = .ok (.ireturn, 1) := by decide +kernel
theorem dX12_frost_14 : decode cX12_frost 14 = .ok (.iconst 0, 1) := by decide +kernel
theorem dX12_frost_15 : decode cX12_frost 15 = .ok (.istore_n 2, 1) := by decide +kernel
theorem dX12_frost_16 : decode cX12_frost 16 = .ok (.iconst 0, 1) := by decide +kernel
theorem dX12_frost_17 : decode cX12_frost 17 = .ok (.istore_n 3, 1) := by decide +kernel
theorem dX12_frost_18 : decode cX12_frost 18 = .ok (.iload_n 3, 1) := by decide +kernel
theorem dX12_frost_19 : decode cX12_frost 19 = .ok (.bipush 12, 2) := by decide +kernel
theorem dX12_frost_21 : decode cX12_frost 21 = .ok (.if_icmp .ge 32, 3) := by decide +kernel
theorem dX12_frost_24 : decode cX12_frost 24 = .ok (.iload_n 2, 1) := by decide +kernel
theorem dX12_frost_25 : decode cX12_frost 25 = .ok (.aload_n 0, 1) := by decide +kernel
theorem dX12_frost_26 : decode cX12_frost 26 = .ok (.bipush 12, 2) := by decide +kernel
theorem dX12_frost_28 : decode cX12_frost 28 = .ok (.iload_n 1, 1) := by decide +kernel
theorem dX12_frost_29 : decode cX12_frost 29 = .ok (.imul, 1) := by decide +kernel
theorem dX12_frost_30 : decode cX12_frost 30 = .ok (.iload_n 3, 1) := by decide +kernel
theorem dX12_frost_31 : decode cX12_frost 31 = .ok (.iadd, 1) := by decide +kernel
theorem dX12_frost_32 : decode cX12_frost 32 = .ok (.invokevirtual 301, 3) := by decide +kernel
theorem dX12_frost_35 : decode cX12_frost 35 = .ok (.ifCond .eq 9, 3) := by decide +kernel
theorem dX12_frost_38 : decode cX12_frost 38 = .ok (.iconst 1, 1) := by decide +kernel
theorem dX12_frost_39 : decode cX12_frost 39 = .ok (.iload_n 3, 1) := by decide +kernel
theorem dX12_frost_40 : decode cX12_frost 40 = .ok (.ishl, 1) := by decide +kernel
theorem dX12_frost_41 : decode cX12_frost 41 = .ok (.goto 4, 3) := by decide +kernel
theorem dX12_frost_44 : decode cX12_frost 44 = .ok (.iconst 0, 1) := by decide +kernel
theorem dX12_frost_45 : decode cX12_frost 45 = .ok (.ior, 1) := by decide +kernel
theorem dX12_frost_46 : decode cX12_frost 46 = .ok (.istore_n 2, 1) := by decide +kernel
theorem dX12_frost_47 : decode cX12_frost 47 = .ok (.iinc 3 1, 3) := by decide +kernel
theorem dX12_frost_50 : decode cX12_frost 50 = .ok (.goto (-32), 3) := by decide +kernel
theorem dX12_frost_53 : decode cX12_frost 53 = .ok (.iload_n 2, 1) := by decide +kernel
theorem dX12_frost_54 : decode cX12_frost 54 = .ok (.ireturn, 1) := by decide +kernel
theorem cw_X12_frost_301 : CwV mi_X12_frost mi_X12_isFrozen yX12_isFrozen RX12 301 1 := ⟨⟨w_1529, w_1531, w_68, w_108, w_1532⟩, ⟨by decide, by decide⟩, by decide +kernel, by decide, by decide⟩
theorem cw_X12_frost_110 : CwS mi_X12_frost mi_X12_in yX12_in 110 3 := ⟨⟨w_1365, w_1366, w_108, w_1367⟩, ⟨by decide, by decide⟩, by decide +kernel, by decide, by decide⟩
theorem j_X12_frost_B45 {l : Launch} {Γ : Am} {k18 : Nat → Int32 → Int32 → Int32 → Hp → Option (Int32 × Hp)} (hL18 : ∀ (r0 : Nat) (v1 : Int32) (v2 : Int32) (v3 : Int32) (z : Hp), J l Γ mi_X12_frost cvI 0 0 18 [(0, .ref (mB Γ + r0)), (1, .int v1), (2, .int v2), (3, .int v3)] [] z (k18 r0 v1 v2 v3 z)) : ∀ (r0 : Nat) (v1 : Int32) (v3 : Int32) (t0 : Int32) (t1 : Int32) (z : Hp), J l Γ mi_X12_frost cvI 0 0 45 [(0, .ref (mB Γ + r0)), (1, .int v1), (3, .int v3)] [.int t0, .int t1] z (m_X12_frost_B45 k18 r0 v1 v3 t0 t1 z) := by
  intro r0 v1 v3 t0 t1 z
  unfold m_X12_frost_B45
  refine j_ior (pc := 45) dX12_frost_45 ?_
  refine j_istore_n (pc := 46) (lv2 := [(2, .int (t1 ||| t0)), (0, .ref (mB Γ + r0)), (1, .int v1), (3, .int v3)]) dX12_frost_46 rfl (by decide) rfl ?_
  refine j_iinc (pc := 47) (n0 := 3) (v0 := v3 + 1) (lv2 := [(3, .int (v3 + 1)), (2, .int (t1 ||| t0)), (0, .ref (mB Γ + r0)), (1, .int v1)]) dX12_frost_47 rfl rfl (by decide) rfl ?_
  refine j_goto (pc := 50) 18 dX12_frost_50 (by decide) ?_
  exact J.sub [2, 3, 1, 0] rfl (hL18 r0 v1 (t1 ||| t0) (v3 + 1) z)
theorem j_X12_frost_L18 {l : Launch} {Γ : Am}   : ∀ (f : Nat), ∀ (r0 : Nat) (v1 : Int32) (v2 : Int32) (v3 : Int32) (z : Hp), J l Γ mi_X12_frost cvI 0 0 18 [(0, .ref (mB Γ + r0)), (1, .int v1), (2, .int v2), (3, .int v3)] [] z (m_X12_frost_L18  f r0 v1 v2 v3 z) := by
  intro f
  induction f with
  | zero => intro r0 v1 v2 v3 z; exact J.none
  | succ f hL18 =>
    intro r0 v1 v2 v3 z
    rw [m_X12_frost_L18]
    refine j_iload_n (pc := 18) 3 dX12_frost_18 rfl rfl ?_
    refine j_bipush (pc := 19) (v := 12) dX12_frost_19 (by decide) ?_
    refine j_icmp_ge (pc := 21) 53 dX12_frost_21 (by decide) ?_ ?_
    · refine j_iload_n (pc := 53) 2 dX12_frost_53 rfl rfl ?_
      exact j_ireturn (pc := 54) dX12_frost_54 rfl rfl
    refine j_iload_n (pc := 24) 2 dX12_frost_24 rfl rfl ?_
    refine j_aload_n (pc := 25) 0 dX12_frost_25 rfl rfl ?_
    refine j_bipush (pc := 26) (v := 12) dX12_frost_26 (by decide) ?_
    refine j_iload_n (pc := 28) 1 dX12_frost_28 rfl rfl ?_
    refine j_imul (pc := 29) dX12_frost_29 ?_
    refine j_iload_n (pc := 30) 3 dX12_frost_30 rfl rfl ?_
    refine j_iadd (pc := 31) dX12_frost_31 ?_
    refine j_isC (fun h3 => ?_)
    refine j_callV_I (pc := 32) (as := [.int ((12 * v1) + v3)]) (mc2 := 0) (ms2 := 0) (ct_X12_isFrozen _ _ _) h3 rfl cw_X12_frost_301 dX12_frost_32 (Nat.le_of_ble_eq_true rfl) rfl (by decide) (by decide) (fun x2 z1 => ?_)
    refine j_if_eq (pc := 35) 44 dX12_frost_35 (by decide) ?_ ?_
    · refine j_iconst (pc := 44) (v := 0) dX12_frost_44 (by decide) ?_
      exact J.sub [0, 1, 3] rfl ((j_X12_frost_B45 hL18) r0 v1 v3 0 v2 z1)
    refine j_iconst (pc := 38) (v := 1) dX12_frost_38 (by decide) ?_
    refine j_iload_n (pc := 39) 3 dX12_frost_39 rfl rfl ?_
    refine j_ishl (pc := 40) dX12_frost_40 ?_
    refine j_goto (pc := 41) 45 dX12_frost_41 (by decide) ?_
    exact J.sub [0, 1, 3] rfl ((j_X12_frost_B45 hL18) r0 v1 v3 ((1 : Int32) <<< (v3 &&& 31)) v2 z1)
theorem ct_X12_frost {l : Launch} {Γ : Am} (r0 : Nat) (v1 : Int32) (z : Hp) : Ct l Γ yX12_frost mi_X12_frost cvI [.ref (mB Γ + r0), .int v1] z (m_X12_frost r0 v1 z) := by
  refine Ct.ofJ (by decide) ⟨rfl, rfl⟩ (Nat.le_of_ble_eq_true rfl) ?_
  unfold m_X12_frost
  show J l Γ mi_X12_frost cvI 0 0 0 [(0, .ref (mB Γ + r0)), (1, .int v1)] [] z _
  refine j_iload_n (pc := 0) 1 dX12_frost_0 rfl rfl ?_
  refine j_i2l (pc := 1) dX12_frost_1 ?_
  refine j_lconst (pc := 2) (v := 0) dX12_frost_2 (by decide) ?_
  refine j_ldc2 (pc := 3) (v := 11) dX12_frost_3 w_1471 ?_
  refine j_callS_I (pc := 6) (as := [.long (Int32.toInt64 v1), .long 0, .long 11]) (mc2 := 0) (ms2 := 0) (ct_X12_in _ _ _ _) cw_X12_frost_110 dX12_frost_6 (Nat.le_of_ble_eq_true rfl) rfl (by decide) (by decide) (fun x5 z4 => ?_)
  refine j_if_ne (pc := 9) 14 dX12_frost_9 (by decide) ?_ ?_
  · refine j_iconst (pc := 14) (v := 0) dX12_frost_14 (by decide) ?_
    refine j_istore_n (pc := 15) (lv2 := [(2, .int 0), (0, .ref (mB Γ + r0)), (1, .int v1)]) dX12_frost_15 rfl (by decide) rfl ?_
    refine j_iconst (pc := 16) (v := 0) dX12_frost_16 (by decide) ?_
    refine j_istore_n (pc := 17) (lv2 := [(3, .int 0), (2, .int 0), (0, .ref (mB Γ + r0)), (1, .int v1)]) dX12_frost_17 rfl (by decide) rfl ?_
    exact J.sub [2, 3, 1, 0] rfl ((j_X12_frost_L18 FU) r0 v1 0 0 z4)
  refine j_iconst (pc := 12) (v := (-1)) dX12_frost_12 (by decide) ?_
  exact j_ireturn (pc := 13) dX12_frost_13 rfl rfl
theorem dX12_count_0 : decode cX12_count 0 = .ok (.iconst 0, 1) := by decide +kernel
theorem dX12_count_1 : decode cX12_count 1 = .ok (.istore_n 2, 1) := by decide +kernel
theorem dX12_count_2 : decode cX12_count 2 = .ok (.iload_n 1, 1) := by decide +kernel
theorem dX12_count_3 : decode cX12_count 3 = .ok (.tableswitch 218 0 12 #[65, 72, 79, 86, 86, 135, 142, 147, 154, 162, 170, 203, 210], 65) := by decide +kernel
theorem dX12_count_68 : decode cX12_count 68 = .ok (.aload_n 0, 1) := by decide +kernel
theorem dX12_count_69 : decode cX12_count 69 = .ok (.getfield 13, 3) := by decide +kernel
theorem dX12_count_72 : decode cX12_count 72 = .ok (.iconst 0, 1) := by decide +kernel
theorem dX12_count_73 : decode cX12_count 73 = .ok (.iaload, 1) := by decide +kernel
theorem dX12_count_74 : decode cX12_count 74 = .ok (.ireturn, 1) := by decide +kernel
theorem dX12_count_75 : decode cX12_count 75 = .ok (.aload_n 0, 1) := by decide +kernel
theorem dX12_count_76 : decode cX12_count 76 = .ok (.getfield 13, 3) := by decide +kernel
theorem dX12_count_79 : decode cX12_count 79 = .ok (.iconst 1, 1) := by decide +kernel
theorem dX12_count_80 : decode cX12_count 80 = .ok (.iaload, 1) := by decide +kernel
theorem dX12_count_81 : decode cX12_count 81 = .ok (.ireturn, 1) := by decide +kernel
theorem dX12_count_82 : decode cX12_count 82 = .ok (.aload_n 0, 1) := by decide +kernel
theorem dX12_count_83 : decode cX12_count 83 = .ok (.getfield 13, 3) := by decide +kernel
theorem dX12_count_86 : decode cX12_count 86 = .ok (.iconst 2, 1) := by decide +kernel
theorem dX12_count_87 : decode cX12_count 87 = .ok (.iaload, 1) := by decide +kernel
theorem dX12_count_88 : decode cX12_count 88 = .ok (.ireturn, 1) := by decide +kernel
theorem dX12_count_89 : decode cX12_count 89 = .ok (.iconst 0, 1) := by decide +kernel
theorem dX12_count_90 : decode cX12_count 90 = .ok (.istore_n 3, 1) := by decide +kernel
theorem dX12_count_91 : decode cX12_count 91 = .ok (.iload_n 3, 1) := by decide +kernel
theorem dX12_count_92 : decode cX12_count 92 = .ok (.sipush 144, 3) := by decide +kernel
theorem dX12_count_95 : decode cX12_count 95 = .ok (.if_icmp .ge 41, 3) := by decide +kernel
theorem dX12_count_98 : decode cX12_count 98 = .ok (.iload_n 2, 1) := by decide +kernel
theorem dX12_count_99 : decode cX12_count 99 = .ok (.iload_n 1, 1) := by decide +kernel
theorem dX12_count_100 : decode cX12_count 100 = .ok (.iconst 3, 1) := by decide +kernel
theorem dX12_count_101 : decode cX12_count 101 = .ok (.if_icmp .ne 14, 3) := by decide +kernel
theorem dX12_count_104 : decode cX12_count 104 = .ok (.aload_n 0, 1) := by decide +kernel
theorem dX12_count_105 : decode cX12_count 105 = .ok (.iload_n 3, 1) := by decide +kernel
theorem dX12_count_106 : decode cX12_count 106 = .ok (.invokevirtual 301, 3) := by decide +kernel
theorem dX12_count_109 : decode cX12_count 109 = .ok (.ifCond .eq 18, 3) := by decide +kernel
theorem dX12_count_112 : decode cX12_count 112 = .ok (.goto 11, 3) := by decide +kernel
theorem dX12_count_115 : decode cX12_count 115 = .ok (.aload_n 0, 1) := by decide +kernel
theorem dX12_count_116 : decode cX12_count 116 = .ok (.iload_n 3, 1) := by decide +kernel
theorem dX12_count_117 : decode cX12_count 117 = .ok (.invokevirtual 102, 3) := by decide +kernel
theorem dX12_count_120 : decode cX12_count 120 = .ok (.ifCond .eq 7, 3) := by decide +kernel
theorem dX12_count_123 : decode cX12_count 123 = .ok (.iconst 1, 1) := by decide +kernel
theorem dX12_count_124 : decode cX12_count 124 = .ok (.goto 4, 3) := by decide +kernel
theorem dX12_count_127 : decode cX12_count 127 = .ok (.iconst 0, 1) := by decide +kernel
theorem dX12_count_128 : decode cX12_count 128 = .ok (.iadd, 1) := by decide +kernel
theorem dX12_count_129 : decode cX12_count 129 = .ok (.istore_n 2, 1) := by decide +kernel
theorem dX12_count_130 : decode cX12_count 130 = .ok (.iinc 3 1, 3) := by decide +kernel
theorem dX12_count_133 : decode cX12_count 133 = .ok (.goto (-42), 3) := by decide +kernel
theorem dX12_count_136 : decode cX12_count 136 = .ok (.iload_n 2, 1) := by decide +kernel
theorem dX12_count_137 : decode cX12_count 137 = .ok (.ireturn, 1) := by decide +kernel
theorem dX12_count_138 : decode cX12_count 138 = .ok (.aload_n 0, 1) := by decide +kernel
theorem dX12_count_139 : decode cX12_count 139 = .ok (.getfield 13, 3) := by decide +kernel
theorem dX12_count_142 : decode cX12_count 142 = .ok (.iconst 4, 1) := by decide +kernel
theorem dX12_count_143 : decode cX12_count 143 = .ok (.iaload, 1) := by decide +kernel
theorem dX12_count_144 : decode cX12_count 144 = .ok (.ireturn, 1) := by decide +kernel
theorem dX12_count_145 : decode cX12_count 145 = .ok (.aload_n 0, 1) := by decide +kernel
theorem dX12_count_146 : decode cX12_count 146 = .ok (.getfield 122, 3) := by decide +kernel
theorem dX12_count_149 : decode cX12_count 149 = .ok (.ireturn, 1) := by decide +kernel
theorem dX12_count_150 : decode cX12_count 150 = .ok (.aload_n 0, 1) := by decide +kernel
theorem dX12_count_151 : decode cX12_count 151 = .ok (.getfield 13, 3) := by decide +kernel
theorem dX12_count_154 : decode cX12_count 154 = .ok (.iconst 3, 1) := by decide +kernel
theorem dX12_count_155 : decode cX12_count 155 = .ok (.iaload, 1) := by decide +kernel
theorem dX12_count_156 : decode cX12_count 156 = .ok (.ireturn, 1) := by decide +kernel
theorem dX12_count_157 : decode cX12_count 157 = .ok (.aload_n 0, 1) := by decide +kernel
theorem dX12_count_158 : decode cX12_count 158 = .ok (.getfield 13, 3) := by decide +kernel
theorem dX12_count_161 : decode cX12_count 161 = .ok (.bipush 12, 2) := by decide +kernel
theorem dX12_count_163 : decode cX12_count 163 = .ok (.iaload, 1) := by decide +kernel
theorem dX12_count_164 : decode cX12_count 164 = .ok (.ireturn, 1) := by decide +kernel
theorem dX12_count_165 : decode cX12_count 165 = .ok (.aload_n 0, 1) := by decide +kernel
theorem dX12_count_166 : decode cX12_count 166 = .ok (.getfield 13, 3) := by decide +kernel
theorem dX12_count_169 : decode cX12_count 169 = .ok (.bipush 6, 2) := by decide +kernel
theorem dX12_count_171 : decode cX12_count 171 = .ok (.iaload, 1) := by decide +kernel
theorem dX12_count_172 : decode cX12_count 172 = .ok (.ireturn, 1) := by decide +kernel
theorem dX12_count_173 : decode cX12_count 173 = .ok (.iconst 0, 1) := by decide +kernel
theorem dX12_count_174 : decode cX12_count 174 = .ok (.istore_n 3, 1) := by decide +kernel
theorem dX12_count_175 : decode cX12_count 175 = .ok (.iload_n 3, 1) := by decide +kernel
theorem dX12_count_176 : decode cX12_count 176 = .ok (.iconst 4, 1) := by decide +kernel
theorem dX12_count_177 : decode cX12_count 177 = .ok (.if_icmp .ge 27, 3) := by decide +kernel
theorem dX12_count_180 : decode cX12_count 180 = .ok (.iload_n 2, 1) := by decide +kernel
theorem dX12_count_181 : decode cX12_count 181 = .ok (.aload_n 0, 1) := by decide +kernel
theorem dX12_count_182 : decode cX12_count 182 = .ok (.getfield 73, 3) := by decide +kernel
theorem dX12_count_185 : decode cX12_count 185 = .ok (.iload_n 3, 1) := by decide +kernel
theorem dX12_count_186 : decode cX12_count 186 = .ok (.iaload, 1) := by decide +kernel
theorem dX12_count_187 : decode cX12_count 187 = .ok (.iconst (-1), 1) := by decide +kernel
theorem dX12_count_188 : decode cX12_count 188 = .ok (.if_icmp .ne 7, 3) := by decide +kernel
theorem dX12_count_191 : decode cX12_count 191 = .ok (.iconst 0, 1) := by decide +kernel
theorem dX12_count_192 : decode cX12_count 192 = .ok (.goto 4, 3) := by decide +kernel
theorem dX12_count_195 : decode cX12_count 195 = .ok (.iconst 1, 1) := by decide +kernel
theorem dX12_count_196 : decode cX12_count 196 = .ok (.iadd, 1) := by decide +kernel
theorem dX12_count_197 : decode cX12_count 197 = .ok (.istore_n 2, 1) := by decide +kernel
theorem dX12_count_198 : decode cX12_count 198 = .ok (.iinc 3 1, 3) := by decide +kernel
theorem dX12_count_201 : decode cX12_count 201 = .ok (.goto (-26), 3) := by decide +kernel
theorem dX12_count_204 : decode cX12_count 204 = .ok (.iload_n 2, 1) := by decide +kernel
theorem dX12_count_205 : decode cX12_count 205 = .ok (.ireturn, 1) := by decide +kernel
theorem dX12_count_206 : decode cX12_count 206 = .ok (.aload_n 0, 1) := by decide +kernel
theorem dX12_count_207 : decode cX12_count 207 = .ok (.getfield 13, 3) := by decide +kernel
theorem dX12_count_210 : decode cX12_count 210 = .ok (.iconst 5, 1) := by decide +kernel
theorem dX12_count_211 : decode cX12_count 211 = .ok (.iaload, 1) := by decide +kernel
theorem dX12_count_212 : decode cX12_count 212 = .ok (.ireturn, 1) := by decide +kernel
theorem dX12_count_213 : decode cX12_count 213 = .ok (.aload_n 0, 1) := by decide +kernel
theorem dX12_count_214 : decode cX12_count 214 = .ok (.getfield 13, 3) := by decide +kernel
theorem dX12_count_217 : decode cX12_count 217 = .ok (.bipush 13, 2) := by decide +kernel
theorem dX12_count_219 : decode cX12_count 219 = .ok (.iaload, 1) := by decide +kernel
theorem dX12_count_220 : decode cX12_count 220 = .ok (.ireturn, 1) := by decide +kernel
theorem dX12_count_221 : decode cX12_count 221 = .ok (.iconst (-1), 1) := by decide +kernel
theorem dX12_count_222 : decode cX12_count 222 = .ok (.ireturn, 1) := by decide +kernel
theorem cw_X12_count_102 : CwV mi_X12_count mi_X12_isDug yX12_isDug RX12 102 1 := ⟨⟨w_1511, w_1513, w_65, w_108, w_1514⟩, ⟨by decide, by decide⟩, by decide +kernel, by decide, by decide⟩
theorem cw_X12_count_301 : CwV mi_X12_count mi_X12_isFrozen yX12_isFrozen RX12 301 1 := ⟨⟨w_1529, w_1531, w_68, w_108, w_1532⟩, ⟨by decide, by decide⟩, by decide +kernel, by decide, by decide⟩
theorem j_X12_count_B196 {l : Launch} {Γ : Am} {k175 : Nat → Int32 → Int32 → Hp → Option (Int32 × Hp)} (hL175 : ∀ (r0 : Nat) (v2 : Int32) (v3 : Int32) (z : Hp), J l Γ mi_X12_count cvI 0 0 175 [(0, .ref (mB Γ + r0)), (2, .int v2), (3, .int v3)] [] z (k175 r0 v2 v3 z)) : ∀ (r0 : Nat) (v3 : Int32) (t0 : Int32) (t1 : Int32) (z : Hp), J l Γ mi_X12_count cvI 0 0 196 [(0, .ref (mB Γ + r0)), (3, .int v3)] [.int t0, .int t1] z (m_X12_count_B196 k175 r0 v3 t0 t1 z) := by
  intro r0 v3 t0 t1 z
  unfold m_X12_count_B196
  refine j_iadd (pc := 196) dX12_count_196 ?_
  refine j_istore_n (pc := 197) (lv2 := [(2, .int (t1 + t0)), (0, .ref (mB Γ + r0)), (3, .int v3)]) dX12_count_197 rfl (by decide) rfl ?_
  refine j_iinc (pc := 198) (n0 := 2) (v0 := v3 + 1) (lv2 := [(3, .int (v3 + 1)), (2, .int (t1 + t0)), (0, .ref (mB Γ + r0))]) dX12_count_198 rfl rfl (by decide) rfl ?_
  refine j_goto (pc := 201) 175 dX12_count_201 (by decide) ?_
  exact J.sub [2, 1, 0] rfl (hL175 r0 (t1 + t0) (v3 + 1) z)
theorem j_X12_count_L175 {l : Launch} {Γ : Am}   : ∀ (f : Nat), ∀ (r0 : Nat) (v2 : Int32) (v3 : Int32) (z : Hp), J l Γ mi_X12_count cvI 0 0 175 [(0, .ref (mB Γ + r0)), (2, .int v2), (3, .int v3)] [] z (m_X12_count_L175  f r0 v2 v3 z) := by
  intro f
  induction f with
  | zero => intro r0 v2 v3 z; exact J.none
  | succ f hL175 =>
    intro r0 v2 v3 z
    rw [m_X12_count_L175]
    refine j_iload_n (pc := 175) 2 dX12_count_175 rfl rfl ?_
    refine j_iconst (pc := 176) (v := 4) dX12_count_176 (by decide) ?_
    refine j_icmp_ge (pc := 177) 204 dX12_count_177 (by decide) ?_ ?_
    · refine j_iload_n (pc := 204) 1 dX12_count_204 rfl rfl ?_
      exact j_ireturn (pc := 205) dX12_count_205 rfl rfl
    refine j_iload_n (pc := 180) 1 dX12_count_180 rfl rfl ?_
    refine j_aload_n (pc := 181) 0 dX12_count_181 rfl rfl ?_
    refine j_getR (pc := 182) ok_X12 (by decide) rfl w_1274 dX12_count_182 (fun a1 => ?_)
    refine j_iload_n (pc := 185) 2 dX12_count_185 rfl rfl ?_
    refine j_iaload (pc := 186) dX12_count_186 (fun x2 => ?_)
    refine j_iconst (pc := 187) (v := (-1)) dX12_count_187 (by decide) ?_
    refine j_icmp_ne (pc := 188) 195 dX12_count_188 (by decide) ?_ ?_
    · refine j_iconst (pc := 195) (v := 1) dX12_count_195 (by decide) ?_
      exact J.sub [0, 2] rfl ((j_X12_count_B196 hL175) r0 v3 1 v2 z)
    refine j_iconst (pc := 191) (v := 0) dX12_count_191 (by decide) ?_
    refine j_goto (pc := 192) 196 dX12_count_192 (by decide) ?_
    exact J.sub [0, 2] rfl ((j_X12_count_B196 hL175) r0 v3 0 v2 z)
theorem j_X12_count_B128 {l : Launch} {Γ : Am} {k91 : Nat → Int32 → Int32 → Int32 → Hp → Option (Int32 × Hp)} (hL91 : ∀ (r0 : Nat) (v1 : Int32) (v2 : Int32) (v3 : Int32) (z : Hp), J l Γ mi_X12_count cvI 0 0 91 [(0, .ref (mB Γ + r0)), (1, .int v1), (2, .int v2), (3, .int v3)] [] z (k91 r0 v1 v2 v3 z)) : ∀ (r0 : Nat) (v1 : Int32) (v3 : Int32) (t0 : Int32) (t1 : Int32) (z : Hp), J l Γ mi_X12_count cvI 0 0 128 [(0, .ref (mB Γ + r0)), (1, .int v1), (3, .int v3)] [.int t0, .int t1] z (m_X12_count_B128 k91 r0 v1 v3 t0 t1 z) := by
  intro r0 v1 v3 t0 t1 z
  unfold m_X12_count_B128
  refine j_iadd (pc := 128) dX12_count_128 ?_
  refine j_istore_n (pc := 129) (lv2 := [(2, .int (t1 + t0)), (0, .ref (mB Γ + r0)), (1, .int v1), (3, .int v3)]) dX12_count_129 rfl (by decide) rfl ?_
  refine j_iinc (pc := 130) (n0 := 3) (v0 := v3 + 1) (lv2 := [(3, .int (v3 + 1)), (2, .int (t1 + t0)), (0, .ref (mB Γ + r0)), (1, .int v1)]) dX12_count_130 rfl rfl (by decide) rfl ?_
  refine j_goto (pc := 133) 91 dX12_count_133 (by decide) ?_
  exact J.sub [2, 3, 1, 0] rfl (hL91 r0 v1 (t1 + t0) (v3 + 1) z)
theorem j_X12_count_B127 {l : Launch} {Γ : Am} {k91 : Nat → Int32 → Int32 → Int32 → Hp → Option (Int32 × Hp)} (hL91 : ∀ (r0 : Nat) (v1 : Int32) (v2 : Int32) (v3 : Int32) (z : Hp), J l Γ mi_X12_count cvI 0 0 91 [(0, .ref (mB Γ + r0)), (1, .int v1), (2, .int v2), (3, .int v3)] [] z (k91 r0 v1 v2 v3 z)) : ∀ (r0 : Nat) (v1 : Int32) (v3 : Int32) (t0 : Int32) (z : Hp), J l Γ mi_X12_count cvI 0 0 127 [(0, .ref (mB Γ + r0)), (1, .int v1), (3, .int v3)] [.int t0] z (m_X12_count_B127 k91 r0 v1 v3 t0 z) := by
  intro r0 v1 v3 t0 z
  unfold m_X12_count_B127
  refine j_iconst (pc := 127) (v := 0) dX12_count_127 (by decide) ?_
  exact J.sub [0, 1, 2] rfl ((j_X12_count_B128 hL91) r0 v1 v3 0 t0 z)
theorem j_X12_count_B123 {l : Launch} {Γ : Am} {k91 : Nat → Int32 → Int32 → Int32 → Hp → Option (Int32 × Hp)} (hL91 : ∀ (r0 : Nat) (v1 : Int32) (v2 : Int32) (v3 : Int32) (z : Hp), J l Γ mi_X12_count cvI 0 0 91 [(0, .ref (mB Γ + r0)), (1, .int v1), (2, .int v2), (3, .int v3)] [] z (k91 r0 v1 v2 v3 z)) : ∀ (r0 : Nat) (v1 : Int32) (v3 : Int32) (t0 : Int32) (z : Hp), J l Γ mi_X12_count cvI 0 0 123 [(0, .ref (mB Γ + r0)), (1, .int v1), (3, .int v3)] [.int t0] z (m_X12_count_B123 k91 r0 v1 v3 t0 z) := by
  intro r0 v1 v3 t0 z
  unfold m_X12_count_B123
  refine j_iconst (pc := 123) (v := 1) dX12_count_123 (by decide) ?_
  refine j_goto (pc := 124) 128 dX12_count_124 (by decide) ?_
  exact J.sub [0, 1, 2] rfl ((j_X12_count_B128 hL91) r0 v1 v3 1 t0 z)
theorem j_X12_count_L91 {l : Launch} {Γ : Am}   : ∀ (f : Nat), ∀ (r0 : Nat) (v1 : Int32) (v2 : Int32) (v3 : Int32) (z : Hp), J l Γ mi_X12_count cvI 0 0 91 [(0, .ref (mB Γ + r0)), (1, .int v1), (2, .int v2), (3, .int v3)] [] z (m_X12_count_L91  f r0 v1 v2 v3 z) := by
  intro f
  induction f with
  | zero => intro r0 v1 v2 v3 z; exact J.none
  | succ f hL91 =>
    intro r0 v1 v2 v3 z
    rw [m_X12_count_L91]
    refine j_iload_n (pc := 91) 3 dX12_count_91 rfl rfl ?_
    refine j_sipush (pc := 92) (v := 144) dX12_count_92 (by decide) ?_
    refine j_icmp_ge (pc := 95) 136 dX12_count_95 (by decide) ?_ ?_
    · refine j_iload_n (pc := 136) 2 dX12_count_136 rfl rfl ?_
      exact j_ireturn (pc := 137) dX12_count_137 rfl rfl
    refine j_iload_n (pc := 98) 2 dX12_count_98 rfl rfl ?_
    refine j_iload_n (pc := 99) 1 dX12_count_99 rfl rfl ?_
    refine j_iconst (pc := 100) (v := 3) dX12_count_100 (by decide) ?_
    refine j_icmp_ne (pc := 101) 115 dX12_count_101 (by decide) ?_ ?_
    · refine j_aload_n (pc := 115) 0 dX12_count_115 rfl rfl ?_
      refine j_iload_n (pc := 116) 3 dX12_count_116 rfl rfl ?_
      refine j_isC (fun h5 => ?_)
      refine j_callV_I (pc := 117) (as := [.int v3]) (mc2 := 0) (ms2 := 0) (ct_X12_isDug _ _ _) h5 rfl cw_X12_count_102 dX12_count_117 (Nat.le_of_ble_eq_true rfl) rfl (by decide) (by decide) (fun x4 z3 => ?_)
      refine j_if_eq (pc := 120) 127 dX12_count_120 (by decide) ?_ ?_
      · exact J.sub [0, 1, 3] rfl ((j_X12_count_B127 hL91) r0 v1 v3 v2 z3)
      exact J.sub [0, 1, 3] rfl ((j_X12_count_B123 hL91) r0 v1 v3 v2 z3)
    refine j_aload_n (pc := 104) 0 dX12_count_104 rfl rfl ?_
    refine j_iload_n (pc := 105) 3 dX12_count_105 rfl rfl ?_
    refine j_isC (fun h8 => ?_)
    refine j_callV_I (pc := 106) (as := [.int v3]) (mc2 := 0) (ms2 := 0) (ct_X12_isFrozen _ _ _) h8 rfl cw_X12_count_301 dX12_count_106 (Nat.le_of_ble_eq_true rfl) rfl (by decide) (by decide) (fun x7 z6 => ?_)
    refine j_if_eq (pc := 109) 127 dX12_count_109 (by decide) ?_ ?_
    · exact J.sub [0, 1, 3] rfl ((j_X12_count_B127 hL91) r0 v1 v3 v2 z6)
    refine j_goto (pc := 112) 123 dX12_count_112 (by decide) ?_
    exact J.sub [0, 1, 3] rfl ((j_X12_count_B123 hL91) r0 v1 v3 v2 z6)
theorem ct_X12_count {l : Launch} {Γ : Am} (r0 : Nat) (v1 : Int32) (z : Hp) : Ct l Γ yX12_count mi_X12_count cvI [.ref (mB Γ + r0), .int v1] z (m_X12_count r0 v1 z) := by
  refine Ct.ofJ (by decide) ⟨rfl, rfl⟩ (Nat.le_of_ble_eq_true rfl) ?_
  unfold m_X12_count
  show J l Γ mi_X12_count cvI 0 0 0 [(0, .ref (mB Γ + r0)), (1, .int v1)] [] z _
  refine j_iconst (pc := 0) (v := 0) dX12_count_0 (by decide) ?_
  refine j_istore_n (pc := 1) (lv2 := [(2, .int 0), (0, .ref (mB Γ + r0)), (1, .int v1)]) dX12_count_1 rfl (by decide) rfl ?_
  refine j_iload_n (pc := 2) 2 dX12_count_2 rfl rfl ?_
  refine j_ite (fun h11 => ?_) (fun h11 => ?_)
  · refine j_case (pc := 3) 68 dX12_count_3 h11 (by decide) rfl (by decide) ?_
    refine j_aload_n (pc := 68) 1 dX12_count_68 rfl rfl ?_
    refine j_getR (pc := 69) ok_X12 (by decide) rfl w_1239 dX12_count_69 (fun a9 => ?_)
    refine j_iconst (pc := 72) (v := 0) dX12_count_72 (by decide) ?_
    refine j_iaload (pc := 73) dX12_count_73 (fun x10 => ?_)
    exact j_ireturn (pc := 74) dX12_count_74 rfl rfl
  refine j_ite (fun h14 => ?_) (fun h14 => ?_)
  · refine j_case (pc := 3) 75 dX12_count_3 h14 (by decide) rfl (by decide) ?_
    refine j_aload_n (pc := 75) 1 dX12_count_75 rfl rfl ?_
    refine j_getR (pc := 76) ok_X12 (by decide) rfl w_1239 dX12_count_76 (fun a12 => ?_)
    refine j_iconst (pc := 79) (v := 1) dX12_count_79 (by decide) ?_
    refine j_iaload (pc := 80) dX12_count_80 (fun x13 => ?_)
    exact j_ireturn (pc := 81) dX12_count_81 rfl rfl
  refine j_ite (fun h17 => ?_) (fun h17 => ?_)
  · refine j_case (pc := 3) 82 dX12_count_3 h17 (by decide) rfl (by decide) ?_
    refine j_aload_n (pc := 82) 1 dX12_count_82 rfl rfl ?_
    refine j_getR (pc := 83) ok_X12 (by decide) rfl w_1239 dX12_count_83 (fun a15 => ?_)
    refine j_iconst (pc := 86) (v := 2) dX12_count_86 (by decide) ?_
    refine j_iaload (pc := 87) dX12_count_87 (fun x16 => ?_)
    exact j_ireturn (pc := 88) dX12_count_88 rfl rfl
  refine j_ite (fun h18 => ?_) (fun h18 => ?_)
  · refine j_case (pc := 3) 89 dX12_count_3 h18 (by decide) rfl (by decide) ?_
    refine j_iconst (pc := 89) (v := 0) dX12_count_89 (by decide) ?_
    refine j_istore_n (pc := 90) (lv2 := [(3, .int 0), (2, .int 0), (0, .ref (mB Γ + r0)), (1, .int v1)]) dX12_count_90 rfl (by decide) rfl ?_
    exact J.sub [2, 3, 1, 0] rfl ((j_X12_count_L91 FU) r0 v1 0 0 z)
  refine j_ite (fun h19 => ?_) (fun h19 => ?_)
  · refine j_case (pc := 3) 89 dX12_count_3 h19 (by decide) rfl (by decide) ?_
    refine j_iconst (pc := 89) (v := 0) dX12_count_89 (by decide) ?_
    refine j_istore_n (pc := 90) (lv2 := [(3, .int 0), (2, .int 0), (0, .ref (mB Γ + r0)), (1, .int v1)]) dX12_count_90 rfl (by decide) rfl ?_
    exact J.sub [2, 3, 1, 0] rfl ((j_X12_count_L91 FU) r0 v1 0 0 z)
  refine j_ite (fun h22 => ?_) (fun h22 => ?_)
  · refine j_case (pc := 3) 138 dX12_count_3 h22 (by decide) rfl (by decide) ?_
    refine j_aload_n (pc := 138) 1 dX12_count_138 rfl rfl ?_
    refine j_getR (pc := 139) ok_X12 (by decide) rfl w_1239 dX12_count_139 (fun a20 => ?_)
    refine j_iconst (pc := 142) (v := 4) dX12_count_142 (by decide) ?_
    refine j_iaload (pc := 143) dX12_count_143 (fun x21 => ?_)
    exact j_ireturn (pc := 144) dX12_count_144 rfl rfl
  refine j_ite (fun h24 => ?_) (fun h24 => ?_)
  · refine j_case (pc := 3) 145 dX12_count_3 h24 (by decide) rfl (by decide) ?_
    refine j_aload_n (pc := 145) 1 dX12_count_145 rfl rfl ?_
    refine j_getI (pc := 146) ok_X12 (by decide) rfl w_1244 dX12_count_146 (fun x23 => ?_)
    exact j_ireturn (pc := 149) dX12_count_149 rfl rfl
  refine j_ite (fun h27 => ?_) (fun h27 => ?_)
  · refine j_case (pc := 3) 150 dX12_count_3 h27 (by decide) rfl (by decide) ?_
    refine j_aload_n (pc := 150) 1 dX12_count_150 rfl rfl ?_
    refine j_getR (pc := 151) ok_X12 (by decide) rfl w_1239 dX12_count_151 (fun a25 => ?_)
    refine j_iconst (pc := 154) (v := 3) dX12_count_154 (by decide) ?_
    refine j_iaload (pc := 155) dX12_count_155 (fun x26 => ?_)
    exact j_ireturn (pc := 156) dX12_count_156 rfl rfl
  refine j_ite (fun h30 => ?_) (fun h30 => ?_)
  · refine j_case (pc := 3) 157 dX12_count_3 h30 (by decide) rfl (by decide) ?_
    refine j_aload_n (pc := 157) 1 dX12_count_157 rfl rfl ?_
    refine j_getR (pc := 158) ok_X12 (by decide) rfl w_1239 dX12_count_158 (fun a28 => ?_)
    refine j_bipush (pc := 161) (v := 12) dX12_count_161 (by decide) ?_
    refine j_iaload (pc := 163) dX12_count_163 (fun x29 => ?_)
    exact j_ireturn (pc := 164) dX12_count_164 rfl rfl
  refine j_ite (fun h33 => ?_) (fun h33 => ?_)
  · refine j_case (pc := 3) 165 dX12_count_3 h33 (by decide) rfl (by decide) ?_
    refine j_aload_n (pc := 165) 1 dX12_count_165 rfl rfl ?_
    refine j_getR (pc := 166) ok_X12 (by decide) rfl w_1239 dX12_count_166 (fun a31 => ?_)
    refine j_bipush (pc := 169) (v := 6) dX12_count_169 (by decide) ?_
    refine j_iaload (pc := 171) dX12_count_171 (fun x32 => ?_)
    exact j_ireturn (pc := 172) dX12_count_172 rfl rfl
  refine j_ite (fun h34 => ?_) (fun h34 => ?_)
  · refine j_case (pc := 3) 173 dX12_count_3 h34 (by decide) rfl (by decide) ?_
    refine j_iconst (pc := 173) (v := 0) dX12_count_173 (by decide) ?_
    refine j_istore_n (pc := 174) (lv2 := [(3, .int 0), (2, .int 0), (0, .ref (mB Γ + r0)), (1, .int v1)]) dX12_count_174 rfl (by decide) rfl ?_
    exact J.sub [2, 1, 0] rfl ((j_X12_count_L175 FU) r0 0 0 z)
  refine j_ite (fun h37 => ?_) (fun h37 => ?_)
  · refine j_case (pc := 3) 206 dX12_count_3 h37 (by decide) rfl (by decide) ?_
    refine j_aload_n (pc := 206) 1 dX12_count_206 rfl rfl ?_
    refine j_getR (pc := 207) ok_X12 (by decide) rfl w_1239 dX12_count_207 (fun a35 => ?_)
    refine j_iconst (pc := 210) (v := 5) dX12_count_210 (by decide) ?_
    refine j_iaload (pc := 211) dX12_count_211 (fun x36 => ?_)
    exact j_ireturn (pc := 212) dX12_count_212 rfl rfl
  refine j_ite (fun h40 => ?_) (fun h40 => ?_)
  · refine j_case (pc := 3) 213 dX12_count_3 h40 (by decide) rfl (by decide) ?_
    refine j_aload_n (pc := 213) 1 dX12_count_213 rfl rfl ?_
    refine j_getR (pc := 214) ok_X12 (by decide) rfl w_1239 dX12_count_214 (fun a38 => ?_)
    refine j_bipush (pc := 217) (v := 13) dX12_count_217 (by decide) ?_
    refine j_iaload (pc := 219) dX12_count_219 (fun x39 => ?_)
    exact j_ireturn (pc := 220) dX12_count_220 rfl rfl
  refine j_dflt (pc := 3) 221 dX12_count_3 (sw_out 13 (by decide) (fun k hk => ?_)) (by decide) ?_
  · match k, hk with
    | 0, _ => exact h11
    | 1, _ => exact h14
    | 2, _ => exact h17
    | 3, _ => exact h18
    | 4, _ => exact h19
    | 5, _ => exact h22
    | 6, _ => exact h24
    | 7, _ => exact h27
    | 8, _ => exact h30
    | 9, _ => exact h33
    | 10, _ => exact h34
    | 11, _ => exact h37
    | 12, _ => exact h40
    | k + 13, hk => exact absurd hk (by omega)
  refine j_iconst (pc := 221) (v := (-1)) dX12_count_221 (by decide) ?_
  exact j_ireturn (pc := 222) dX12_count_222 rfl rfl
