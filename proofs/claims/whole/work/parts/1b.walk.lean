theorem dX2_readStream_0 : decode cX2_readStream 0 = .ok (.aload_n 0, 1) := by decide +kernel
theorem dX2_readStream_1 : decode cX2_readStream 1 = .ok (.iconst 0, 1) := by decide +kernel
theorem dX2_readStream_2 : decode cX2_readStream 2 = .ok (.bipush 11, 2) := by decide +kernel
theorem dX2_readStream_4 : decode cX2_readStream 4 = .ok (.invokevirtual 157, 3) := by decide +kernel
theorem dX2_readStream_7 : decode cX2_readStream 7 = .ok (.istore_n 1, 1) := by decide +kernel
theorem dX2_readStream_8 : decode cX2_readStream 8 = .ok (.aload_n 0, 1) := by decide +kernel
theorem dX2_readStream_9 : decode cX2_readStream 9 = .ok (.getfield 35, 3) := by decide +kernel
theorem dX2_readStream_12 : decode cX2_readStream 12 = .ok (.getfield 167, 3) := by decide +kernel
theorem dX2_readStream_15 : decode cX2_readStream 15 = .ok (.getfield 196, 3) := by decide +kernel
theorem dX2_readStream_18 : decode cX2_readStream 18 = .ok (.iload_n 1, 1) := by decide +kernel
theorem dX2_readStream_19 : decode cX2_readStream 19 = .ok (.iaload, 1) := by decide +kernel
theorem dX2_readStream_20 : decode cX2_readStream 20 = .ok (.iconst (-1), 1) := by decide +kernel
theorem dX2_readStream_21 : decode cX2_readStream 21 = .ok (.if_icmp .eq 12, 3) := by decide +kernel
theorem dX2_readStream_24 : decode cX2_readStream 24 = .ok (.aload_n 0, 1) := by decide +kernel
theorem dX2_readStream_25 : decode cX2_readStream 25 = .ok (.iconst 2, 1) := by decide +kernel
theorem dX2_readStream_26 : decode cX2_readStream 26 = .ok (.aload_n 0, 1) := by decide +kernel
theorem dX2_readStream_27 : decode cX2_readStream 27 = .ok (.getfield 22, 3) := by decide +kernel
theorem dX2_readStream_30 : decode cX2_readStream 30 = .ok (.invokevirtual 146, 3) := by decide +kernel
theorem dX2_readStream_33 : decode cX2_readStream 33 = .ok (.aload_n 0, 1) := by decide +kernel
theorem dX2_readStream_34 : decode cX2_readStream 34 = .ok (.ldc 199, 2) := by decide +kernel
theorem dX2_readStream_36 : decode cX2_readStream 36 = .ok (.invokevirtual 163, 3) := by decide +kernel
theorem dX2_readStream_39 : decode cX2_readStream 39 = .ok (.aload_n 0, 1) := by decide +kernel
theorem dX2_readStream_40 : decode cX2_readStream 40 = .ok (.getfield 35, 3) := by decide +kernel
theorem dX2_readStream_43 : decode cX2_readStream 43 = .ok (.getfield 167, 3) := by decide +kernel
theorem dX2_readStream_46 : decode cX2_readStream 46 = .ok (.getfield 196, 3) := by decide +kernel
theorem dX2_readStream_49 : decode cX2_readStream 49 = .ok (.iload_n 1, 1) := by decide +kernel
theorem dX2_readStream_50 : decode cX2_readStream 50 = .ok (.aload_n 0, 1) := by decide +kernel
theorem dX2_readStream_51 : decode cX2_readStream 51 = .ok (.iconst 0, 1) := by decide +kernel
theorem dX2_readStream_52 : decode cX2_readStream 52 = .ok (.bipush 30, 2) := by decide +kernel
theorem dX2_readStream_54 : decode cX2_readStream 54 = .ok (.invokevirtual 157, 3) := by decide +kernel
theorem dX2_readStream_57 : decode cX2_readStream 57 = .ok (.iastore, 1) := by decide +kernel
theorem dX2_readStream_58 : decode cX2_readStream 58 = .ok (.return_, 1) := by decide +kernel
theorem cw_X2_readStream_163 : CwV mi_X2_readStream mi_X2_needWord yX2_needWord RX2 163 1 := ⟨⟨w_685, w_687, w_5, w_103, w_688⟩, ⟨by decide, by decide⟩, by decide +kernel, by decide, by decide⟩
theorem cw_X2_readStream_157 : CwV mi_X2_readStream mi_X2_number yX2_number RX2 157 2 := ⟨⟨w_676, w_678, w_4, w_103, w_679⟩, ⟨by decide, by decide⟩, by decide +kernel, by decide, by decide⟩
theorem cw_X2_readStream_146 : CwV mi_X2_readStream mi_X2_fail yX2_fail RX2 146 2 := ⟨⟨w_667, w_669, w_2, w_103, w_670⟩, ⟨by decide, by decide⟩, by decide +kernel, by decide, by decide⟩
theorem j_X2_readStream_B33 {l : Launch} {Γ : Am}   : ∀ (r0 : Nat) (v1 : Int32) (z : Hp), J l Γ mi_X2_readStream cvV 0 0 33 [(0, .ref (mB Γ + r0)), (1, .int v1)] [] z (m_X2_readStream_B33  r0 v1 z) := by
  intro r0 v1 z
  unfold m_X2_readStream_B33
  refine j_aload_n (pc := 33) 0 dX2_readStream_33 rfl rfl ?_
  refine j_ldcS (pc := 34) (w := 8) (tx := "speed") dX2_readStream_34 (by decide +kernel) ?_
  refine j_isC (fun h2 => ?_)
  refine j_callV_V (pc := 36) (as := [.ref (mT Γ 8)]) (mc2 := 0) (ms2 := 0) (ct_X2_needWord _ _ _) h2 rfl cw_X2_readStream_163 dX2_readStream_36 (Nat.le_of_ble_eq_true rfl) rfl (by decide) (by decide) (fun _ z1 => ?_)
  refine j_aload_n (pc := 39) 0 dX2_readStream_39 rfl rfl ?_
  refine j_getR (pc := 40) ok_X2 (by decide) rfl w_413 dX2_readStream_40 (fun a3 => ?_)
  refine j_getR (pc := 43) ok_X8 (by decide) rfl w_291 dX2_readStream_43 (fun a4 => ?_)
  refine j_getR (pc := 46) ok_X7 (by decide) rfl w_156 dX2_readStream_46 (fun a5 => ?_)
  refine j_iload_n (pc := 49) 1 dX2_readStream_49 rfl rfl ?_
  refine j_aload_n (pc := 50) 0 dX2_readStream_50 rfl rfl ?_
  refine j_iconst (pc := 51) (v := 0) dX2_readStream_51 (by decide) ?_
  refine j_bipush (pc := 52) (v := 30) dX2_readStream_52 (by decide) ?_
  refine j_isC (fun h8 => ?_)
  refine j_callV_I (pc := 54) (as := [.int 0, .int 30]) (mc2 := 0) (ms2 := 0) (ct_X2_number _ _ _ _) h8 rfl cw_X2_readStream_157 dX2_readStream_54 (Nat.le_of_ble_eq_true rfl) rfl (by decide) (by decide) (fun x7 z6 => ?_)
  refine j_iastore (pc := 57) dX2_readStream_57 (fun z9 => ?_)
  exact j_return (pc := 58) dX2_readStream_58 rfl
theorem ct_X2_readStream {l : Launch} {Γ : Am} (r0 : Nat) (z : Hp) : Ct l Γ yX2_readStream mi_X2_readStream cvV [.ref (mB Γ + r0)] z (m_X2_readStream r0 z) := by
  refine Ct.ofJ (by decide) ⟨rfl, rfl⟩ (Nat.le_of_ble_eq_true rfl) ?_
  unfold m_X2_readStream
  show J l Γ mi_X2_readStream cvV 0 0 0 [(0, .ref (mB Γ + r0))] [] z _
  refine j_aload_n (pc := 0) 0 dX2_readStream_0 rfl rfl ?_
  refine j_iconst (pc := 1) (v := 0) dX2_readStream_1 (by decide) ?_
  refine j_bipush (pc := 2) (v := 11) dX2_readStream_2 (by decide) ?_
  refine j_isC (fun h12 => ?_)
  refine j_callV_I (pc := 4) (as := [.int 0, .int 11]) (mc2 := 0) (ms2 := 0) (ct_X2_number _ _ _ _) h12 rfl cw_X2_readStream_157 dX2_readStream_4 (Nat.le_of_ble_eq_true rfl) rfl (by decide) (by decide) (fun x11 z10 => ?_)
  refine j_istore_n (pc := 7) (lv2 := [(1, .int x11), (0, .ref (mB Γ + r0))]) dX2_readStream_7 rfl (by decide) rfl ?_
  refine j_aload_n (pc := 8) 1 dX2_readStream_8 rfl rfl ?_
  refine j_getR (pc := 9) ok_X2 (by decide) rfl w_413 dX2_readStream_9 (fun a13 => ?_)
  refine j_getR (pc := 12) ok_X8 (by decide) rfl w_291 dX2_readStream_12 (fun a14 => ?_)
  refine j_getR (pc := 15) ok_X7 (by decide) rfl w_156 dX2_readStream_15 (fun a15 => ?_)
  refine j_iload_n (pc := 18) 0 dX2_readStream_18 rfl rfl ?_
  refine j_iaload (pc := 19) dX2_readStream_19 (fun x16 => ?_)
  refine j_iconst (pc := 20) (v := (-1)) dX2_readStream_20 (by decide) ?_
  refine j_icmp_eq (pc := 21) 33 dX2_readStream_21 (by decide) ?_ ?_
  · exact J.sub [1, 0] rfl (j_X2_readStream_B33 r0 x11 z10)
  refine j_aload_n (pc := 24) 1 dX2_readStream_24 rfl rfl ?_
  refine j_iconst (pc := 25) (v := 2) dX2_readStream_25 (by decide) ?_
  refine j_aload_n (pc := 26) 1 dX2_readStream_26 rfl rfl ?_
  refine j_getI (pc := 27) ok_X2 (by decide) rfl w_416 dX2_readStream_27 (fun x17 => ?_)
  refine j_isC (fun h19 => ?_)
  refine j_callV_V (pc := 30) (as := [.int 2, .int x17]) (mc2 := 0) (ms2 := 0) (ct_X2_fail _ _ _ _) h19 rfl cw_X2_readStream_146 dX2_readStream_30 (Nat.le_of_ble_eq_true rfl) rfl (by decide) (by decide) (fun _ z18 => ?_)
  exact J.sub [1, 0] rfl (j_X2_readStream_B33 r0 x11 z18)
theorem dX2_readFar_0 : decode cX2_readFar 0 = .ok (.aload_n 0, 1) := by decide +kernel
theorem dX2_readFar_1 : decode cX2_readFar 1 = .ok (.iconst 1, 1) := by decide +kernel
theorem dX2_readFar_2 : decode cX2_readFar 2 = .ok (.putfield 15, 3) := by decide +kernel
theorem dX2_readFar_5 : decode cX2_readFar 5 = .ok (.aload_n 0, 1) := by decide +kernel
theorem dX2_readFar_6 : decode cX2_readFar 6 = .ok (.getfield 35, 3) := by decide +kernel
theorem dX2_readFar_9 : decode cX2_readFar 9 = .ok (.getfield 167, 3) := by decide +kernel
theorem dX2_readFar_12 : decode cX2_readFar 12 = .ok (.aload_n 0, 1) := by decide +kernel
theorem dX2_readFar_13 : decode cX2_readFar 13 = .ok (.iconst 1, 1) := by decide +kernel
theorem dX2_readFar_14 : decode cX2_readFar 14 = .ok (.sipush 300, 3) := by decide +kernel
theorem dX2_readFar_17 : decode cX2_readFar 17 = .ok (.invokevirtual 157, 3) := by decide +kernel
theorem dX2_readFar_20 : decode cX2_readFar 20 = .ok (.putfield 200, 3) := by decide +kernel
theorem dX2_readFar_23 : decode cX2_readFar 23 = .ok (.return_, 1) := by decide +kernel
theorem cw_X2_readFar_157 : CwV mi_X2_readFar mi_X2_number yX2_number RX2 157 2 := ⟨⟨w_676, w_678, w_4, w_103, w_679⟩, ⟨by decide, by decide⟩, by decide +kernel, by decide, by decide⟩
theorem ct_X2_readFar {l : Launch} {Γ : Am} (r0 : Nat) (z : Hp) : Ct l Γ yX2_readFar mi_X2_readFar cvV [.ref (mB Γ + r0)] z (m_X2_readFar r0 z) := by
  refine Ct.ofJ (by decide) ⟨rfl, rfl⟩ (Nat.le_of_ble_eq_true rfl) ?_
  unfold m_X2_readFar
  show J l Γ mi_X2_readFar cvV 0 0 0 [(0, .ref (mB Γ + r0))] [] z _
  refine j_aload_n (pc := 0) 0 dX2_readFar_0 rfl rfl ?_
  refine j_iconst (pc := 1) (v := 1) dX2_readFar_1 (by decide) ?_
  refine j_putI (pc := 2) ok_X2 (by decide) rfl w_414 (Or.inl rfl) rfl rfl dX2_readFar_2 (fun z1 => ?_)
  refine j_aload_n (pc := 5) 0 dX2_readFar_5 rfl rfl ?_
  refine j_getR (pc := 6) ok_X2 (by decide) rfl w_413 dX2_readFar_6 (fun a2 => ?_)
  refine j_getR (pc := 9) ok_X8 (by decide) rfl w_291 dX2_readFar_9 (fun a3 => ?_)
  refine j_aload_n (pc := 12) 0 dX2_readFar_12 rfl rfl ?_
  refine j_iconst (pc := 13) (v := 1) dX2_readFar_13 (by decide) ?_
  refine j_sipush (pc := 14) (v := 300) dX2_readFar_14 (by decide) ?_
  refine j_isC (fun h6 => ?_)
  refine j_callV_I (pc := 17) (as := [.int 1, .int 300]) (mc2 := 0) (ms2 := 0) (ct_X2_number _ _ _ _) h6 rfl cw_X2_readFar_157 dX2_readFar_17 (Nat.le_of_ble_eq_true rfl) rfl (by decide) (by decide) (fun x5 z4 => ?_)
  refine j_putI (pc := 20) ok_X7 (by decide) rfl w_160 (Or.inl rfl) rfl rfl dX2_readFar_20 (fun z7 => ?_)
  exact j_return (pc := 23) dX2_readFar_23 rfl
theorem dX2_readShaft_0 : decode cX2_readShaft 0 = .ok (.aload_n 0, 1) := by decide +kernel
theorem dX2_readShaft_1 : decode cX2_readShaft 1 = .ok (.iconst 1, 1) := by decide +kernel
theorem dX2_readShaft_2 : decode cX2_readShaft 2 = .ok (.bipush 10, 2) := by decide +kernel
theorem dX2_readShaft_4 : decode cX2_readShaft 4 = .ok (.invokevirtual 157, 3) := by decide +kernel
theorem dX2_readShaft_7 : decode cX2_readShaft 7 = .ok (.istore_n 1, 1) := by decide +kernel
theorem dX2_readShaft_8 : decode cX2_readShaft 8 = .ok (.aload_n 0, 1) := by decide +kernel
theorem dX2_readShaft_9 : decode cX2_readShaft 9 = .ok (.iconst 1, 1) := by decide +kernel
theorem dX2_readShaft_10 : decode cX2_readShaft 10 = .ok (.bipush 10, 2) := by decide +kernel
theorem dX2_readShaft_12 : decode cX2_readShaft 12 = .ok (.invokevirtual 157, 3) := by decide +kernel
theorem dX2_readShaft_15 : decode cX2_readShaft 15 = .ok (.istore_n 2, 1) := by decide +kernel
theorem dX2_readShaft_16 : decode cX2_readShaft 16 = .ok (.aload_n 0, 1) := by decide +kernel
theorem dX2_readShaft_17 : decode cX2_readShaft 17 = .ok (.ldc 188, 2) := by decide +kernel
theorem dX2_readShaft_19 : decode cX2_readShaft 19 = .ok (.invokevirtual 163, 3) := by decide +kernel
theorem dX2_readShaft_22 : decode cX2_readShaft 22 = .ok (.aload_n 0, 1) := by decide +kernel
theorem dX2_readShaft_23 : decode cX2_readShaft 23 = .ok (.iload_n 1, 1) := by decide +kernel
theorem dX2_readShaft_24 : decode cX2_readShaft 24 = .ok (.bipush 10, 2) := by decide +kernel
theorem dX2_readShaft_26 : decode cX2_readShaft 26 = .ok (.invokevirtual 157, 3) := by decide +kernel
theorem dX2_readShaft_29 : decode cX2_readShaft 29 = .ok (.istore_n 3, 1) := by decide +kernel
theorem dX2_readShaft_30 : decode cX2_readShaft 30 = .ok (.aload_n 0, 1) := by decide +kernel
theorem dX2_readShaft_31 : decode cX2_readShaft 31 = .ok (.iload_n 2, 1) := by decide +kernel
theorem dX2_readShaft_32 : decode cX2_readShaft 32 = .ok (.bipush 10, 2) := by decide +kernel
theorem dX2_readShaft_34 : decode cX2_readShaft 34 = .ok (.invokevirtual 157, 3) := by decide +kernel
theorem dX2_readShaft_37 : decode cX2_readShaft 37 = .ok (.istore 4, 2) := by decide +kernel
theorem dX2_readShaft_39 : decode cX2_readShaft 39 = .ok (.aload_n 0, 1) := by decide +kernel
theorem dX2_readShaft_40 : decode cX2_readShaft 40 = .ok (.getfield 35, 3) := by decide +kernel
theorem dX2_readShaft_43 : decode cX2_readShaft 43 = .ok (.getfield 202, 3) := by decide +kernel
theorem dX2_readShaft_46 : decode cX2_readShaft 46 = .ok (.iload_n 1, 1) := by decide +kernel
theorem dX2_readShaft_47 : decode cX2_readShaft 47 = .ok (.iload_n 2, 1) := by decide +kernel
theorem dX2_readShaft_48 : decode cX2_readShaft 48 = .ok (.iload_n 3, 1) := by decide +kernel
theorem dX2_readShaft_49 : decode cX2_readShaft 49 = .ok (.iload 4, 2) := by decide +kernel
theorem dX2_readShaft_51 : decode cX2_readShaft 51 = .ok (.iconst 1, 1) := by decide +kernel
theorem dX2_readShaft_52 : decode cX2_readShaft 52 = .ok (.invokestatic 192, 3) := by decide +kernel
theorem dX2_readShaft_55 : decode cX2_readShaft 55 = .ok (.aload_n 0, 1) := by decide +kernel
theorem dX2_readShaft_56 : decode cX2_readShaft 56 = .ok (.getfield 35, 3) := by decide +kernel
theorem dX2_readShaft_59 : decode cX2_readShaft 59 = .ok (.iload_n 3, 1) := by decide +kernel
theorem dX2_readShaft_60 : decode cX2_readShaft 60 = .ok (.iload_n 1, 1) := by decide +kernel
theorem dX2_readShaft_61 : decode cX2_readShaft 61 = .ok (.isub, 1) := by decide +kernel
theorem dX2_readShaft_62 : decode cX2_readShaft 62 = .ok (.iconst 1, 1) := by decide +kernel
theorem dX2_readShaft_63 : decode cX2_readShaft 63 = .ok (.iadd, 1) := by decide +kernel
theorem dX2_readShaft_64 : decode cX2_readShaft 64 = .ok (.iload 4, 2) := by decide +kernel
theorem dX2_readShaft_66 : decode cX2_readShaft 66 = .ok (.iload_n 2, 1) := by decide +kernel
theorem dX2_readShaft_67 : decode cX2_readShaft 67 = .ok (.isub, 1) := by decide +kernel
theorem dX2_readShaft_68 : decode cX2_readShaft 68 = .ok (.iconst 1, 1) := by decide +kernel
theorem dX2_readShaft_69 : decode cX2_readShaft 69 = .ok (.iadd, 1) := by decide +kernel
theorem dX2_readShaft_70 : decode cX2_readShaft 70 = .ok (.imul, 1) := by decide +kernel
theorem dX2_readShaft_71 : decode cX2_readShaft 71 = .ok (.putfield 94, 3) := by decide +kernel
theorem dX2_readShaft_74 : decode cX2_readShaft 74 = .ok (.return_, 1) := by decide +kernel
theorem cw_X2_readShaft_157 : CwV mi_X2_readShaft mi_X2_number yX2_number RX2 157 2 := ⟨⟨w_676, w_678, w_4, w_103, w_679⟩, ⟨by decide, by decide⟩, by decide +kernel, by decide, by decide⟩
theorem cw_X2_readShaft_163 : CwV mi_X2_readShaft mi_X2_needWord yX2_needWord RX2 163 1 := ⟨⟨w_685, w_687, w_5, w_103, w_688⟩, ⟨by decide, by decide⟩, by decide +kernel, by decide, by decide⟩
theorem cw_X2_readShaft_192 : CwS mi_X2_readShaft mi_X2_fillBlock yX2_fillBlock 192 6 := ⟨⟨w_698, w_699, w_103, w_700⟩, ⟨by decide, by decide⟩, by decide +kernel, by decide, by decide⟩
theorem ct_X2_readShaft {l : Launch} {Γ : Am} (r0 : Nat) (z : Hp) : Ct l Γ yX2_readShaft mi_X2_readShaft cvV [.ref (mB Γ + r0)] z (m_X2_readShaft r0 z) := by
  refine Ct.ofJ (by decide) ⟨rfl, rfl⟩ (Nat.le_of_ble_eq_true rfl) ?_
  unfold m_X2_readShaft
  show J l Γ mi_X2_readShaft cvV 0 0 0 [(0, .ref (mB Γ + r0))] [] z _
  refine j_aload_n (pc := 0) 0 dX2_readShaft_0 rfl rfl ?_
  refine j_iconst (pc := 1) (v := 1) dX2_readShaft_1 (by decide) ?_
  refine j_bipush (pc := 2) (v := 10) dX2_readShaft_2 (by decide) ?_
  refine j_isC (fun h3 => ?_)
  refine j_callV_I (pc := 4) (as := [.int 1, .int 10]) (mc2 := 0) (ms2 := 0) (ct_X2_number _ _ _ _) h3 rfl cw_X2_readShaft_157 dX2_readShaft_4 (Nat.le_of_ble_eq_true rfl) rfl (by decide) (by decide) (fun x2 z1 => ?_)
  refine j_istore_n (pc := 7) (lv2 := [(1, .int x2), (0, .ref (mB Γ + r0))]) dX2_readShaft_7 rfl (by decide) rfl ?_
  refine j_aload_n (pc := 8) 1 dX2_readShaft_8 rfl rfl ?_
  refine j_iconst (pc := 9) (v := 1) dX2_readShaft_9 (by decide) ?_
  refine j_bipush (pc := 10) (v := 10) dX2_readShaft_10 (by decide) ?_
  refine j_isC (fun h6 => ?_)
  refine j_callV_I (pc := 12) (as := [.int 1, .int 10]) (mc2 := 0) (ms2 := 0) (ct_X2_number _ _ _ _) h6 rfl cw_X2_readShaft_157 dX2_readShaft_12 (Nat.le_of_ble_eq_true rfl) rfl (by decide) (by decide) (fun x5 z4 => ?_)
  refine j_istore_n (pc := 15) (lv2 := [(2, .int x5), (1, .int x2), (0, .ref (mB Γ + r0))]) dX2_readShaft_15 rfl (by decide) rfl ?_
  refine j_aload_n (pc := 16) 2 dX2_readShaft_16 rfl rfl ?_
  refine j_ldcS (pc := 17) (w := 6) (tx := "to") dX2_readShaft_17 (by decide +kernel) ?_
  refine j_isC (fun h8 => ?_)
  refine j_callV_V (pc := 19) (as := [.ref (mT Γ 6)]) (mc2 := 0) (ms2 := 0) (ct_X2_needWord _ _ _) h8 rfl cw_X2_readShaft_163 dX2_readShaft_19 (Nat.le_of_ble_eq_true rfl) rfl (by decide) (by decide) (fun _ z7 => ?_)
  refine j_aload_n (pc := 22) 2 dX2_readShaft_22 rfl rfl ?_
  refine j_iload_n (pc := 23) 1 dX2_readShaft_23 rfl rfl ?_
  refine j_bipush (pc := 24) (v := 10) dX2_readShaft_24 (by decide) ?_
  refine j_isC (fun h11 => ?_)
  refine j_callV_I (pc := 26) (as := [.int x2, .int 10]) (mc2 := 0) (ms2 := 0) (ct_X2_number _ _ _ _) h11 rfl cw_X2_readShaft_157 dX2_readShaft_26 (Nat.le_of_ble_eq_true rfl) rfl (by decide) (by decide) (fun x10 z9 => ?_)
  refine j_istore_n (pc := 29) (lv2 := [(3, .int x10), (2, .int x5), (1, .int x2), (0, .ref (mB Γ + r0))]) dX2_readShaft_29 rfl (by decide) rfl ?_
  refine j_aload_n (pc := 30) 3 dX2_readShaft_30 rfl rfl ?_
  refine j_iload_n (pc := 31) 1 dX2_readShaft_31 rfl rfl ?_
  refine j_bipush (pc := 32) (v := 10) dX2_readShaft_32 (by decide) ?_
  refine j_isC (fun h14 => ?_)
  refine j_callV_I (pc := 34) (as := [.int x5, .int 10]) (mc2 := 0) (ms2 := 0) (ct_X2_number _ _ _ _) h14 rfl cw_X2_readShaft_157 dX2_readShaft_34 (Nat.le_of_ble_eq_true rfl) rfl (by decide) (by decide) (fun x13 z12 => ?_)
  refine j_istore (pc := 37) (lv2 := [(4, .int x13), (3, .int x10), (2, .int x5), (1, .int x2), (0, .ref (mB Γ + r0))]) dX2_readShaft_37 (by decide) rfl ?_
  refine j_aload_n (pc := 39) 4 dX2_readShaft_39 rfl rfl ?_
  refine j_getR (pc := 40) ok_X2 (by decide) rfl w_413 dX2_readShaft_40 (fun a15 => ?_)
  refine j_getR (pc := 43) ok_X8 (by decide) rfl w_316 dX2_readShaft_43 (fun a16 => ?_)
  refine j_iload_n (pc := 46) 3 dX2_readShaft_46 rfl rfl ?_
  refine j_iload_n (pc := 47) 2 dX2_readShaft_47 rfl rfl ?_
  refine j_iload_n (pc := 48) 1 dX2_readShaft_48 rfl rfl ?_
  refine j_iload (pc := 49) 0 dX2_readShaft_49 rfl ?_
  refine j_iconst (pc := 51) (v := 1) dX2_readShaft_51 (by decide) ?_
  refine j_callS_V (pc := 52) (as := [.ref (mB Γ + a16), .int x2, .int x5, .int x10, .int x13, .int 1]) (mc2 := 0) (ms2 := 0) (ct_X2_fillBlock _ _ _ _ _ _ _) cw_X2_readShaft_192 dX2_readShaft_52 (Nat.le_of_ble_eq_true rfl) rfl (by decide) (by decide) (fun _ z17 => ?_)
  refine j_aload_n (pc := 55) 4 dX2_readShaft_55 rfl rfl ?_
  refine j_getR (pc := 56) ok_X2 (by decide) rfl w_413 dX2_readShaft_56 (fun a18 => ?_)
  refine j_iload_n (pc := 59) 1 dX2_readShaft_59 rfl rfl ?_
  refine j_iload_n (pc := 60) 3 dX2_readShaft_60 rfl rfl ?_
  refine j_isub (pc := 61) dX2_readShaft_61 ?_
  refine j_iconst (pc := 62) (v := 1) dX2_readShaft_62 (by decide) ?_
  refine j_iadd (pc := 63) dX2_readShaft_63 ?_
  refine j_iload (pc := 64) 0 dX2_readShaft_64 rfl ?_
  refine j_iload_n (pc := 66) 2 dX2_readShaft_66 rfl rfl ?_
  refine j_isub (pc := 67) dX2_readShaft_67 ?_
  refine j_iconst (pc := 68) (v := 1) dX2_readShaft_68 (by decide) ?_
  refine j_iadd (pc := 69) dX2_readShaft_69 ?_
  refine j_imul (pc := 70) dX2_readShaft_70 ?_
  refine j_putI (pc := 71) ok_X8 (by decide) rfl w_322 (Or.inl rfl) rfl rfl dX2_readShaft_71 (fun z19 => ?_)
  exact j_return (pc := 74) dX2_readShaft_74 rfl
theorem dX3_standingIn_0 : decode cX3_standingIn 0 = .ok (.iconst 0, 1) := by decide +kernel
theorem dX3_standingIn_1 : decode cX3_standingIn 1 = .ok (.istore_n 2, 1) := by decide +kernel
theorem dX3_standingIn_2 : decode cX3_standingIn 2 = .ok (.iload_n 2, 1) := by decide +kernel
theorem dX3_standingIn_3 : decode cX3_standingIn 3 = .ok (.aload_n 0, 1) := by decide +kernel
theorem dX3_standingIn_4 : decode cX3_standingIn 4 = .ok (.getfield 30, 3) := by decide +kernel
theorem dX3_standingIn_7 : decode cX3_standingIn 7 = .ok (.if_icmp .ge 21, 3) := by decide +kernel
theorem dX3_standingIn_10 : decode cX3_standingIn 10 = .ok (.aload_n 0, 1) := by decide +kernel
theorem dX3_standingIn_11 : decode cX3_standingIn 11 = .ok (.getfield 9, 3) := by decide +kernel
theorem dX3_standingIn_14 : decode cX3_standingIn 14 = .ok (.iload_n 2, 1) := by decide +kernel
theorem dX3_standingIn_15 : decode cX3_standingIn 15 = .ok (.iaload, 1) := by decide +kernel
theorem dX3_standingIn_16 : decode cX3_standingIn 16 = .ok (.iload_n 1, 1) := by decide +kernel
theorem dX3_standingIn_17 : decode cX3_standingIn 17 = .ok (.if_icmp .ne 5, 3) := by decide +kernel
theorem dX3_standingIn_20 : decode cX3_standingIn 20 = .ok (.iload_n 2, 1) := by decide +kernel
theorem dX3_standingIn_21 : decode cX3_standingIn 21 = .ok (.ireturn, 1) := by decide +kernel
theorem dX3_standingIn_22 : decode cX3_standingIn 22 = .ok (.iinc 2 1, 3) := by decide +kernel
theorem dX3_standingIn_25 : decode cX3_standingIn 25 = .ok (.goto (-23), 3) := by decide +kernel
theorem dX3_standingIn_28 : decode cX3_standingIn 28 = .ok (.iconst (-1), 1) := by decide +kernel
theorem dX3_standingIn_29 : decode cX3_standingIn 29 = .ok (.ireturn, 1) := by decide +kernel
theorem j_X3_standingIn_L2 {l : Launch} {Γ : Am}   : ∀ (f : Nat), ∀ (r0 : Nat) (v1 : Int32) (v2 : Int32) (z : Hp), J l Γ mi_X3_standingIn cvI 0 0 2 [(0, .ref (mB Γ + r0)), (1, .int v1), (2, .int v2)] [] z (m_X3_standingIn_L2  f r0 v1 v2 z) := by
  intro f
  induction f with
  | zero => intro r0 v1 v2 z; exact J.none
  | succ f hL2 =>
    intro r0 v1 v2 z
    rw [m_X3_standingIn_L2]
    refine j_iload_n (pc := 2) 2 dX3_standingIn_2 rfl rfl ?_
    refine j_aload_n (pc := 3) 0 dX3_standingIn_3 rfl rfl ?_
    refine j_getI (pc := 4) ok_X3 (by decide) rfl w_199 dX3_standingIn_4 (fun x1 => ?_)
    refine j_icmp_ge (pc := 7) 28 dX3_standingIn_7 (by decide) ?_ ?_
    · refine j_iconst (pc := 28) (v := (-1)) dX3_standingIn_28 (by decide) ?_
      exact j_ireturn (pc := 29) dX3_standingIn_29 rfl rfl
    refine j_aload_n (pc := 10) 0 dX3_standingIn_10 rfl rfl ?_
    refine j_getR (pc := 11) ok_X3 (by decide) rfl w_184 dX3_standingIn_11 (fun a2 => ?_)
    refine j_iload_n (pc := 14) 2 dX3_standingIn_14 rfl rfl ?_
    refine j_iaload (pc := 15) dX3_standingIn_15 (fun x3 => ?_)
    refine j_iload_n (pc := 16) 1 dX3_standingIn_16 rfl rfl ?_
    refine j_icmp_ne (pc := 17) 22 dX3_standingIn_17 (by decide) ?_ ?_
    · refine j_iinc (pc := 22) (n0 := 2) (v0 := v2 + 1) (lv2 := [(2, .int (v2 + 1)), (0, .ref (mB Γ + r0)), (1, .int v1)]) dX3_standingIn_22 rfl rfl (by decide) rfl ?_
      refine j_goto (pc := 25) 2 dX3_standingIn_25 (by decide) ?_
      exact J.sub [1, 2, 0] rfl (hL2 r0 v1 (v2 + 1) z)
    refine j_iload_n (pc := 20) 2 dX3_standingIn_20 rfl rfl ?_
    exact j_ireturn (pc := 21) dX3_standingIn_21 rfl rfl
theorem ct_X3_standingIn {l : Launch} {Γ : Am} (r0 : Nat) (v1 : Int32) (z : Hp) : Ct l Γ yX3_standingIn mi_X3_standingIn cvI [.ref (mB Γ + r0), .int v1] z (m_X3_standingIn r0 v1 z) := by
  refine Ct.ofJ (by decide) ⟨rfl, rfl⟩ (Nat.le_of_ble_eq_true rfl) ?_
  unfold m_X3_standingIn
  show J l Γ mi_X3_standingIn cvI 0 0 0 [(0, .ref (mB Γ + r0)), (1, .int v1)] [] z _
  refine j_iconst (pc := 0) (v := 0) dX3_standingIn_0 (by decide) ?_
  refine j_istore_n (pc := 1) (lv2 := [(2, .int 0), (0, .ref (mB Γ + r0)), (1, .int v1)]) dX3_standingIn_1 rfl (by decide) rfl ?_
  exact J.sub [1, 2, 0] rfl ((j_X3_standingIn_L2 FU) r0 v1 0 z)
theorem dX3_add_0 : decode cX3_add 0 = .ok (.aload_n 0, 1) := by decide +kernel
theorem dX3_add_1 : decode cX3_add 1 = .ok (.getfield 30, 3) := by decide +kernel
theorem dX3_add_4 : decode cX3_add 4 = .ok (.bipush 18, 2) := by decide +kernel
theorem dX3_add_6 : decode cX3_add 6 = .ok (.if_icmp .lt 4, 3) := by decide +kernel
theorem dX3_add_9 : decode cX3_add 9 = .ok (.return_, 1) := by decide +kernel
theorem dX3_add_10 : decode cX3_add 10 = .ok (.aload_n 0, 1) := by decide +kernel
theorem dX3_add_11 : decode cX3_add 11 = .ok (.getfield 9, 3) := by decide +kernel
theorem dX3_add_14 : decode cX3_add 14 = .ok (.aload_n 0, 1) := by decide +kernel
theorem dX3_add_15 : decode cX3_add 15 = .ok (.getfield 30, 3) := by decide +kernel
theorem dX3_add_18 : decode cX3_add 18 = .ok (.iload_n 1, 1) := by decide +kernel
theorem dX3_add_19 : decode cX3_add 19 = .ok (.iastore, 1) := by decide +kernel
theorem dX3_add_20 : decode cX3_add 20 = .ok (.aload_n 0, 1) := by decide +kernel
theorem dX3_add_21 : decode cX3_add 21 = .ok (.getfield 15, 3) := by decide +kernel
theorem dX3_add_24 : decode cX3_add 24 = .ok (.aload_n 0, 1) := by decide +kernel
theorem dX3_add_25 : decode cX3_add 25 = .ok (.getfield 30, 3) := by decide +kernel
theorem dX3_add_28 : decode cX3_add 28 = .ok (.iload_n 2, 1) := by decide +kernel
theorem dX3_add_29 : decode cX3_add 29 = .ok (.iastore, 1) := by decide +kernel
theorem dX3_add_30 : decode cX3_add 30 = .ok (.aload_n 0, 1) := by decide +kernel
theorem dX3_add_31 : decode cX3_add 31 = .ok (.getfield 18, 3) := by decide +kernel
theorem dX3_add_34 : decode cX3_add 34 = .ok (.aload_n 0, 1) := by decide +kernel
theorem dX3_add_35 : decode cX3_add 35 = .ok (.getfield 30, 3) := by decide +kernel
theorem dX3_add_38 : decode cX3_add 38 = .ok (.iload_n 3, 1) := by decide +kernel
theorem dX3_add_39 : decode cX3_add 39 = .ok (.iastore, 1) := by decide +kernel
theorem dX3_add_40 : decode cX3_add 40 = .ok (.aload_n 0, 1) := by decide +kernel
theorem dX3_add_41 : decode cX3_add 41 = .ok (.getfield 21, 3) := by decide +kernel
theorem dX3_add_44 : decode cX3_add 44 = .ok (.aload_n 0, 1) := by decide +kernel
theorem dX3_add_45 : decode cX3_add 45 = .ok (.getfield 30, 3) := by decide +kernel
theorem dX3_add_48 : decode cX3_add 48 = .ok (.iconst 1, 1) := by decide +kernel
theorem dX3_add_49 : decode cX3_add 49 = .ok (.iastore, 1) := by decide +kernel
theorem dX3_add_50 : decode cX3_add 50 = .ok (.aload_n 0, 1) := by decide +kernel
theorem dX3_add_51 : decode cX3_add 51 = .ok (.getfield 24, 3) := by decide +kernel
theorem dX3_add_54 : decode cX3_add 54 = .ok (.aload_n 0, 1) := by decide +kernel
theorem dX3_add_55 : decode cX3_add 55 = .ok (.getfield 30, 3) := by decide +kernel
theorem dX3_add_58 : decode cX3_add 58 = .ok (.iconst 0, 1) := by decide +kernel
theorem dX3_add_59 : decode cX3_add 59 = .ok (.iastore, 1) := by decide +kernel
theorem dX3_add_60 : decode cX3_add 60 = .ok (.aload_n 0, 1) := by decide +kernel
theorem dX3_add_61 : decode cX3_add 61 = .ok (.getfield 27, 3) := by decide +kernel
theorem dX3_add_64 : decode cX3_add 64 = .ok (.aload_n 0, 1) := by decide +kernel
theorem dX3_add_65 : decode cX3_add 65 = .ok (.getfield 30, 3) := by decide +kernel
theorem dX3_add_68 : decode cX3_add 68 = .ok (.iconst 0, 1) := by decide +kernel
theorem dX3_add_69 : decode cX3_add 69 = .ok (.iastore, 1) := by decide +kernel
theorem dX3_add_70 : decode cX3_add 70 = .ok (.aload_n 0, 1) := by decide +kernel
theorem dX3_add_71 : decode cX3_add 71 = .ok (.dup, 1) := by decide +kernel
theorem dX3_add_72 : decode cX3_add 72 = .ok (.getfield 30, 3) := by decide +kernel
theorem dX3_add_75 : decode cX3_add 75 = .ok (.iconst 1, 1) := by decide +kernel
theorem dX3_add_76 : decode cX3_add 76 = .ok (.iadd, 1) := by decide +kernel
theorem dX3_add_77 : decode cX3_add 77 = .ok (.putfield 30, 3) := by decide +kernel
theorem dX3_add_80 : decode cX3_add 80 = .ok (.return_, 1) := by decide +kernel
theorem ct_X3_add {l : Launch} {Γ : Am} (r0 : Nat) (v1 : Int32) (v2 : Int32) (v3 : Int32) (z : Hp) : Ct l Γ yX3_add mi_X3_add cvV [.ref (mB Γ + r0), .int v1, .int v2, .int v3] z (m_X3_add r0 v1 v2 v3 z) := by
  refine Ct.ofJ (by decide) ⟨rfl, rfl⟩ (Nat.le_of_ble_eq_true rfl) ?_
  unfold m_X3_add
  show J l Γ mi_X3_add cvV 0 0 0 [(0, .ref (mB Γ + r0)), (1, .int v1), (2, .int v2), (3, .int v3)] [] z _
  refine j_aload_n (pc := 0) 0 dX3_add_0 rfl rfl ?_
  refine j_getI (pc := 1) ok_X3 (by decide) rfl w_199 dX3_add_1 (fun x1 => ?_)
  refine j_bipush (pc := 4) (v := 18) dX3_add_4 (by decide) ?_
  refine j_icmp_lt (pc := 6) 10 dX3_add_6 (by decide) ?_ ?_
  · refine j_aload_n (pc := 10) 0 dX3_add_10 rfl rfl ?_
    refine j_getR (pc := 11) ok_X3 (by decide) rfl w_184 dX3_add_11 (fun a2 => ?_)
    refine j_aload_n (pc := 14) 0 dX3_add_14 rfl rfl ?_
    refine j_getI (pc := 15) ok_X3 (by decide) rfl w_199 dX3_add_15 (fun x3 => ?_)
    refine j_iload_n (pc := 18) 1 dX3_add_18 rfl rfl ?_
    refine j_iastore (pc := 19) dX3_add_19 (fun z4 => ?_)
    refine j_aload_n (pc := 20) 0 dX3_add_20 rfl rfl ?_
    refine j_getR (pc := 21) ok_X3 (by decide) rfl w_186 dX3_add_21 (fun a5 => ?_)
    refine j_aload_n (pc := 24) 0 dX3_add_24 rfl rfl ?_
    refine j_getI (pc := 25) ok_X3 (by decide) rfl w_199 dX3_add_25 (fun x6 => ?_)
    refine j_iload_n (pc := 28) 2 dX3_add_28 rfl rfl ?_
    refine j_iastore (pc := 29) dX3_add_29 (fun z7 => ?_)
    refine j_aload_n (pc := 30) 0 dX3_add_30 rfl rfl ?_
    refine j_getR (pc := 31) ok_X3 (by decide) rfl w_189 dX3_add_31 (fun a8 => ?_)
    refine j_aload_n (pc := 34) 0 dX3_add_34 rfl rfl ?_
    refine j_getI (pc := 35) ok_X3 (by decide) rfl w_199 dX3_add_35 (fun x9 => ?_)
    refine j_iload_n (pc := 38) 3 dX3_add_38 rfl rfl ?_
    refine j_iastore (pc := 39) dX3_add_39 (fun z10 => ?_)
    refine j_aload_n (pc := 40) 0 dX3_add_40 rfl rfl ?_
    refine j_getR (pc := 41) ok_X3 (by decide) rfl w_192 dX3_add_41 (fun a11 => ?_)
    refine j_aload_n (pc := 44) 0 dX3_add_44 rfl rfl ?_
    refine j_getI (pc := 45) ok_X3 (by decide) rfl w_199 dX3_add_45 (fun x12 => ?_)
    refine j_iconst (pc := 48) (v := 1) dX3_add_48 (by decide) ?_
    refine j_iastore (pc := 49) dX3_add_49 (fun z13 => ?_)
    refine j_aload_n (pc := 50) 0 dX3_add_50 rfl rfl ?_
    refine j_getR (pc := 51) ok_X3 (by decide) rfl w_195 dX3_add_51 (fun a14 => ?_)
    refine j_aload_n (pc := 54) 0 dX3_add_54 rfl rfl ?_
    refine j_getI (pc := 55) ok_X3 (by decide) rfl w_199 dX3_add_55 (fun x15 => ?_)
    refine j_iconst (pc := 58) (v := 0) dX3_add_58 (by decide) ?_
    refine j_iastore (pc := 59) dX3_add_59 (fun z16 => ?_)
    refine j_aload_n (pc := 60) 0 dX3_add_60 rfl rfl ?_
    refine j_getR (pc := 61) ok_X3 (by decide) rfl w_197 dX3_add_61 (fun a17 => ?_)
    refine j_aload_n (pc := 64) 0 dX3_add_64 rfl rfl ?_
    refine j_getI (pc := 65) ok_X3 (by decide) rfl w_199 dX3_add_65 (fun x18 => ?_)
    refine j_iconst (pc := 68) (v := 0) dX3_add_68 (by decide) ?_
    refine j_iastore (pc := 69) dX3_add_69 (fun z19 => ?_)
    refine j_aload_n (pc := 70) 0 dX3_add_70 rfl rfl ?_
    refine j_dup (pc := 71) dX3_add_71 rfl ?_
    refine j_getI (pc := 72) ok_X3 (by decide) rfl w_199 dX3_add_72 (fun x20 => ?_)
    refine j_iconst (pc := 75) (v := 1) dX3_add_75 (by decide) ?_
    refine j_iadd (pc := 76) dX3_add_76 ?_
    refine j_putI (pc := 77) ok_X3 (by decide) rfl w_199 (Or.inl rfl) rfl rfl dX3_add_77 (fun z21 => ?_)
    exact j_return (pc := 80) dX3_add_80 rfl
  exact j_return (pc := 9) dX3_add_9 rfl
theorem dX2_readPipe_0 : decode cX2_readPipe 0 = .ok (.aload_n 0, 1) := by decide +kernel
theorem dX2_readPipe_1 : decode cX2_readPipe 1 = .ok (.iconst 0, 1) := by decide +kernel
theorem dX2_readPipe_2 : decode cX2_readPipe 2 = .ok (.bipush 11, 2) := by decide +kernel
theorem dX2_readPipe_4 : decode cX2_readPipe 4 = .ok (.invokevirtual 157, 3) := by decide +kernel
theorem dX2_readPipe_7 : decode cX2_readPipe 7 = .ok (.istore_n 1, 1) := by decide +kernel
theorem dX2_readPipe_8 : decode cX2_readPipe 8 = .ok (.aload_n 0, 1) := by decide +kernel
theorem dX2_readPipe_9 : decode cX2_readPipe 9 = .ok (.iconst 0, 1) := by decide +kernel
theorem dX2_readPipe_10 : decode cX2_readPipe 10 = .ok (.bipush 11, 2) := by decide +kernel
theorem dX2_readPipe_12 : decode cX2_readPipe 12 = .ok (.invokevirtual 157, 3) := by decide +kernel
theorem dX2_readPipe_15 : decode cX2_readPipe 15 = .ok (.istore_n 2, 1) := by decide +kernel
theorem dX2_readPipe_16 : decode cX2_readPipe 16 = .ok (.bipush 12, 2) := by decide +kernel
theorem dX2_readPipe_18 : decode cX2_readPipe 18 = .ok (.iload_n 2, 1) := by decide +kernel
theorem dX2_readPipe_19 : decode cX2_readPipe 19 = .ok (.imul, 1) := by decide +kernel
theorem dX2_readPipe_20 : decode cX2_readPipe 20 = .ok (.iload_n 1, 1) := by decide +kernel
theorem dX2_readPipe_21 : decode cX2_readPipe 21 = .ok (.iadd, 1) := by decide +kernel
theorem dX2_readPipe_22 : decode cX2_readPipe 22 = .ok (.istore_n 3, 1) := by decide +kernel
theorem dX2_readPipe_23 : decode cX2_readPipe 23 = .ok (.aload_n 0, 1) := by decide +kernel
theorem dX2_readPipe_24 : decode cX2_readPipe 24 = .ok (.getfield 35, 3) := by decide +kernel
theorem dX2_readPipe_27 : decode cX2_readPipe 27 = .ok (.getfield 102, 3) := by decide +kernel
theorem dX2_readPipe_30 : decode cX2_readPipe 30 = .ok (.iload_n 3, 1) := by decide +kernel
theorem dX2_readPipe_31 : decode cX2_readPipe 31 = .ok (.invokevirtual 204, 3) := by decide +kernel
theorem dX2_readPipe_34 : decode cX2_readPipe 34 = .ok (.iconst (-1), 1) := by decide +kernel
theorem dX2_readPipe_35 : decode cX2_readPipe 35 = .ok (.if_icmp .eq 12, 3) := by decide +kernel
theorem dX2_readPipe_38 : decode cX2_readPipe 38 = .ok (.aload_n 0, 1) := by decide +kernel
theorem dX2_readPipe_39 : decode cX2_readPipe 39 = .ok (.iconst 2, 1) := by decide +kernel
theorem dX2_readPipe_40 : decode cX2_readPipe 40 = .ok (.aload_n 0, 1) := by decide +kernel
theorem dX2_readPipe_41 : decode cX2_readPipe 41 = .ok (.getfield 22, 3) := by decide +kernel
theorem dX2_readPipe_44 : decode cX2_readPipe 44 = .ok (.invokevirtual 146, 3) := by decide +kernel
theorem dX2_readPipe_47 : decode cX2_readPipe 47 = .ok (.aload_n 0, 1) := by decide +kernel
theorem dX2_readPipe_48 : decode cX2_readPipe 48 = .ok (.ldc 208, 2) := by decide +kernel
theorem dX2_readPipe_50 : decode cX2_readPipe 50 = .ok (.invokevirtual 163, 3) := by decide +kernel
theorem dX2_readPipe_53 : decode cX2_readPipe 53 = .ok (.aload_n 0, 1) := by decide +kernel
theorem dX2_readPipe_54 : decode cX2_readPipe 54 = .ok (.sipush (-400), 3) := by decide +kernel
theorem dX2_readPipe_57 : decode cX2_readPipe 57 = .ok (.iconst 0, 1) := by decide +kernel
theorem dX2_readPipe_58 : decode cX2_readPipe 58 = .ok (.invokevirtual 157, 3) := by decide +kernel
theorem dX2_readPipe_61 : decode cX2_readPipe 61 = .ok (.istore 4, 2) := by decide +kernel
theorem dX2_readPipe_63 : decode cX2_readPipe 63 = .ok (.aload_n 0, 1) := by decide +kernel
theorem dX2_readPipe_64 : decode cX2_readPipe 64 = .ok (.ldc 161, 2) := by decide +kernel
theorem dX2_readPipe_66 : decode cX2_readPipe 66 = .ok (.invokevirtual 163, 3) := by decide +kernel
theorem dX2_readPipe_69 : decode cX2_readPipe 69 = .ok (.aload_n 0, 1) := by decide +kernel
theorem dX2_readPipe_70 : decode cX2_readPipe 70 = .ok (.getfield 35, 3) := by decide +kernel
theorem dX2_readPipe_73 : decode cX2_readPipe 73 = .ok (.getfield 102, 3) := by decide +kernel
theorem dX2_readPipe_76 : decode cX2_readPipe 76 = .ok (.iload_n 3, 1) := by decide +kernel
theorem dX2_readPipe_77 : decode cX2_readPipe 77 = .ok (.iload 4, 2) := by decide +kernel
theorem dX2_readPipe_79 : decode cX2_readPipe 79 = .ok (.aload_n 0, 1) := by decide +kernel
theorem dX2_readPipe_80 : decode cX2_readPipe 80 = .ok (.iconst 0, 1) := by decide +kernel
theorem dX2_readPipe_81 : decode cX2_readPipe 81 = .ok (.bipush 60, 2) := by decide +kernel
theorem dX2_readPipe_83 : decode cX2_readPipe 83 = .ok (.invokevirtual 157, 3) := by decide +kernel
theorem dX2_readPipe_86 : decode cX2_readPipe 86 = .ok (.invokevirtual 210, 3) := by decide +kernel
theorem dX2_readPipe_89 : decode cX2_readPipe 89 = .ok (.return_, 1) := by decide +kernel
theorem cw_X2_readPipe_163 : CwV mi_X2_readPipe mi_X2_needWord yX2_needWord RX2 163 1 := ⟨⟨w_685, w_687, w_5, w_103, w_688⟩, ⟨by decide, by decide⟩, by decide +kernel, by decide, by decide⟩
theorem cw_X2_readPipe_157 : CwV mi_X2_readPipe mi_X2_number yX2_number RX2 157 2 := ⟨⟨w_676, w_678, w_4, w_103, w_679⟩, ⟨by decide, by decide⟩, by decide +kernel, by decide, by decide⟩
theorem cw_X2_readPipe_210 : CwV mi_X2_readPipe mi_X3_add yX3_add RX3 210 3 := ⟨⟨w_727, w_728, w_729, w_98, w_730⟩, ⟨by decide, by decide⟩, by decide +kernel, by decide, by decide⟩
theorem cw_X2_readPipe_204 : CwV mi_X2_readPipe mi_X3_standingIn yX3_standingIn RX3 204 1 := ⟨⟨w_722, w_723, w_724, w_98, w_725⟩, ⟨by decide, by decide⟩, by decide +kernel, by decide, by decide⟩
theorem cw_X2_readPipe_146 : CwV mi_X2_readPipe mi_X2_fail yX2_fail RX2 146 2 := ⟨⟨w_667, w_669, w_2, w_103, w_670⟩, ⟨by decide, by decide⟩, by decide +kernel, by decide, by decide⟩
theorem j_X2_readPipe_B47 {l : Launch} {Γ : Am}   : ∀ (r0 : Nat) (v3 : Int32) (z : Hp), J l Γ mi_X2_readPipe cvV 0 0 47 [(0, .ref (mB Γ + r0)), (3, .int v3)] [] z (m_X2_readPipe_B47  r0 v3 z) := by
  intro r0 v3 z
  unfold m_X2_readPipe_B47
  refine j_aload_n (pc := 47) 0 dX2_readPipe_47 rfl rfl ?_
  refine j_ldcS (pc := 48) (w := 12) (tx := "at") dX2_readPipe_48 (by decide +kernel) ?_
  refine j_isC (fun h2 => ?_)
  refine j_callV_V (pc := 50) (as := [.ref (mT Γ 12)]) (mc2 := 0) (ms2 := 0) (ct_X2_needWord _ _ _) h2 rfl cw_X2_readPipe_163 dX2_readPipe_50 (Nat.le_of_ble_eq_true rfl) rfl (by decide) (by decide) (fun _ z1 => ?_)
  refine j_aload_n (pc := 53) 0 dX2_readPipe_53 rfl rfl ?_
  refine j_sipush (pc := 54) (v := (-400)) dX2_readPipe_54 (by decide) ?_
  refine j_iconst (pc := 57) (v := 0) dX2_readPipe_57 (by decide) ?_
  refine j_isC (fun h5 => ?_)
  refine j_callV_I (pc := 58) (as := [.int (-400), .int 0]) (mc2 := 0) (ms2 := 0) (ct_X2_number _ _ _ _) h5 rfl cw_X2_readPipe_157 dX2_readPipe_58 (Nat.le_of_ble_eq_true rfl) rfl (by decide) (by decide) (fun x4 z3 => ?_)
  refine j_istore (pc := 61) (lv2 := [(4, .int x4), (0, .ref (mB Γ + r0)), (3, .int v3)]) dX2_readPipe_61 (by decide) rfl ?_
  refine j_aload_n (pc := 63) 1 dX2_readPipe_63 rfl rfl ?_
  refine j_ldcS (pc := 64) (w := 1) (tx := "lead") dX2_readPipe_64 (by decide +kernel) ?_
  refine j_isC (fun h7 => ?_)
  refine j_callV_V (pc := 66) (as := [.ref (mT Γ 1)]) (mc2 := 0) (ms2 := 0) (ct_X2_needWord _ _ _) h7 rfl cw_X2_readPipe_163 dX2_readPipe_66 (Nat.le_of_ble_eq_true rfl) rfl (by decide) (by decide) (fun _ z6 => ?_)
  refine j_aload_n (pc := 69) 1 dX2_readPipe_69 rfl rfl ?_
  refine j_getR (pc := 70) ok_X2 (by decide) rfl w_413 dX2_readPipe_70 (fun a8 => ?_)
  refine j_getR (pc := 73) ok_X8 (by decide) rfl w_294 dX2_readPipe_73 (fun a9 => ?_)
  refine j_iload_n (pc := 76) 2 dX2_readPipe_76 rfl rfl ?_
  refine j_iload (pc := 77) 0 dX2_readPipe_77 rfl ?_
  refine j_aload_n (pc := 79) 1 dX2_readPipe_79 rfl rfl ?_
  refine j_iconst (pc := 80) (v := 0) dX2_readPipe_80 (by decide) ?_
  refine j_bipush (pc := 81) (v := 60) dX2_readPipe_81 (by decide) ?_
  refine j_isC (fun h12 => ?_)
  refine j_callV_I (pc := 83) (as := [.int 0, .int 60]) (mc2 := 0) (ms2 := 0) (ct_X2_number _ _ _ _) h12 rfl cw_X2_readPipe_157 dX2_readPipe_83 (Nat.le_of_ble_eq_true rfl) rfl (by decide) (by decide) (fun x11 z10 => ?_)
  refine j_isC (fun h14 => ?_)
  refine j_callV_V (pc := 86) (as := [.int v3, .int x4, .int x11]) (mc2 := 0) (ms2 := 0) (ct_X3_add _ _ _ _ _) h14 rfl cw_X2_readPipe_210 dX2_readPipe_86 (Nat.le_of_ble_eq_true rfl) rfl (by decide) (by decide) (fun _ z13 => ?_)
  exact j_return (pc := 89) dX2_readPipe_89 rfl
theorem ct_X2_readPipe {l : Launch} {Γ : Am} (r0 : Nat) (z : Hp) : Ct l Γ yX2_readPipe mi_X2_readPipe cvV [.ref (mB Γ + r0)] z (m_X2_readPipe r0 z) := by
  refine Ct.ofJ (by decide) ⟨rfl, rfl⟩ (Nat.le_of_ble_eq_true rfl) ?_
  unfold m_X2_readPipe
  show J l Γ mi_X2_readPipe cvV 0 0 0 [(0, .ref (mB Γ + r0))] [] z _
  refine j_aload_n (pc := 0) 0 dX2_readPipe_0 rfl rfl ?_
  refine j_iconst (pc := 1) (v := 0) dX2_readPipe_1 (by decide) ?_
  refine j_bipush (pc := 2) (v := 11) dX2_readPipe_2 (by decide) ?_
  refine j_isC (fun h17 => ?_)
  refine j_callV_I (pc := 4) (as := [.int 0, .int 11]) (mc2 := 0) (ms2 := 0) (ct_X2_number _ _ _ _) h17 rfl cw_X2_readPipe_157 dX2_readPipe_4 (Nat.le_of_ble_eq_true rfl) rfl (by decide) (by decide) (fun x16 z15 => ?_)
  refine j_istore_n (pc := 7) (lv2 := [(1, .int x16), (0, .ref (mB Γ + r0))]) dX2_readPipe_7 rfl (by decide) rfl ?_
  refine j_aload_n (pc := 8) 1 dX2_readPipe_8 rfl rfl ?_
  refine j_iconst (pc := 9) (v := 0) dX2_readPipe_9 (by decide) ?_
  refine j_bipush (pc := 10) (v := 11) dX2_readPipe_10 (by decide) ?_
  refine j_isC (fun h20 => ?_)
  refine j_callV_I (pc := 12) (as := [.int 0, .int 11]) (mc2 := 0) (ms2 := 0) (ct_X2_number _ _ _ _) h20 rfl cw_X2_readPipe_157 dX2_readPipe_12 (Nat.le_of_ble_eq_true rfl) rfl (by decide) (by decide) (fun x19 z18 => ?_)
  refine j_istore_n (pc := 15) (lv2 := [(2, .int x19), (1, .int x16), (0, .ref (mB Γ + r0))]) dX2_readPipe_15 rfl (by decide) rfl ?_
  refine j_bipush (pc := 16) (v := 12) dX2_readPipe_16 (by decide) ?_
  refine j_iload_n (pc := 18) 0 dX2_readPipe_18 rfl rfl ?_
  refine j_imul (pc := 19) dX2_readPipe_19 ?_
  refine j_iload_n (pc := 20) 1 dX2_readPipe_20 rfl rfl ?_
  refine j_iadd (pc := 21) dX2_readPipe_21 ?_
  refine j_istore_n (pc := 22) (lv2 := [(3, .int ((12 * x19) + x16)), (2, .int x19), (1, .int x16), (0, .ref (mB Γ + r0))]) dX2_readPipe_22 rfl (by decide) rfl ?_
  refine j_aload_n (pc := 23) 3 dX2_readPipe_23 rfl rfl ?_
  refine j_getR (pc := 24) ok_X2 (by decide) rfl w_413 dX2_readPipe_24 (fun a21 => ?_)
  refine j_getR (pc := 27) ok_X8 (by decide) rfl w_294 dX2_readPipe_27 (fun a22 => ?_)
  refine j_iload_n (pc := 30) 0 dX2_readPipe_30 rfl rfl ?_
  refine j_isC (fun h25 => ?_)
  refine j_callV_I (pc := 31) (as := [.int ((12 * x19) + x16)]) (mc2 := 0) (ms2 := 0) (ct_X3_standingIn _ _ _) h25 rfl cw_X2_readPipe_204 dX2_readPipe_31 (Nat.le_of_ble_eq_true rfl) rfl (by decide) (by decide) (fun x24 z23 => ?_)
  refine j_iconst (pc := 34) (v := (-1)) dX2_readPipe_34 (by decide) ?_
  refine j_icmp_eq (pc := 35) 47 dX2_readPipe_35 (by decide) ?_ ?_
  · exact J.sub [3, 0] rfl (j_X2_readPipe_B47 r0 ((12 * x19) + x16) z23)
  refine j_aload_n (pc := 38) 3 dX2_readPipe_38 rfl rfl ?_
  refine j_iconst (pc := 39) (v := 2) dX2_readPipe_39 (by decide) ?_
  refine j_aload_n (pc := 40) 3 dX2_readPipe_40 rfl rfl ?_
  refine j_getI (pc := 41) ok_X2 (by decide) rfl w_416 dX2_readPipe_41 (fun x26 => ?_)
  refine j_isC (fun h28 => ?_)
  refine j_callV_V (pc := 44) (as := [.int 2, .int x26]) (mc2 := 0) (ms2 := 0) (ct_X2_fail _ _ _ _) h28 rfl cw_X2_readPipe_146 dX2_readPipe_44 (Nat.le_of_ble_eq_true rfl) rfl (by decide) (by decide) (fun _ z27 => ?_)
  exact J.sub [3, 0] rfl (j_X2_readPipe_B47 r0 ((12 * x19) + x16) z27)
theorem dX2_readCold_0 : decode cX2_readCold 0 = .ok (.aload_n 0, 1) := by decide +kernel
theorem dX2_readCold_1 : decode cX2_readCold 1 = .ok (.iconst 1, 1) := by decide +kernel
theorem dX2_readCold_2 : decode cX2_readCold 2 = .ok (.putfield 19, 3) := by decide +kernel
theorem dX2_readCold_5 : decode cX2_readCold 5 = .ok (.aload_n 0, 1) := by decide +kernel
theorem dX2_readCold_6 : decode cX2_readCold 6 = .ok (.getfield 35, 3) := by decide +kernel
theorem dX2_readCold_9 : decode cX2_readCold 9 = .ok (.aload_n 0, 1) := by decide +kernel
theorem dX2_readCold_10 : decode cX2_readCold 10 = .ok (.iconst 0, 1) := by decide +kernel
theorem dX2_readCold_11 : decode cX2_readCold 11 = .ok (.ldc 214, 2) := by decide +kernel
theorem dX2_readCold_13 : decode cX2_readCold 13 = .ok (.invokevirtual 157, 3) := by decide +kernel
theorem dX2_readCold_16 : decode cX2_readCold 16 = .ok (.putfield 215, 3) := by decide +kernel
theorem dX2_readCold_19 : decode cX2_readCold 19 = .ok (.return_, 1) := by decide +kernel
theorem cw_X2_readCold_157 : CwV mi_X2_readCold mi_X2_number yX2_number RX2 157 2 := ⟨⟨w_676, w_678, w_4, w_103, w_679⟩, ⟨by decide, by decide⟩, by decide +kernel, by decide, by decide⟩
theorem ct_X2_readCold {l : Launch} {Γ : Am} (r0 : Nat) (z : Hp) : Ct l Γ yX2_readCold mi_X2_readCold cvV [.ref (mB Γ + r0)] z (m_X2_readCold r0 z) := by
  refine Ct.ofJ (by decide) ⟨rfl, rfl⟩ (Nat.le_of_ble_eq_true rfl) ?_
  unfold m_X2_readCold
  show J l Γ mi_X2_readCold cvV 0 0 0 [(0, .ref (mB Γ + r0))] [] z _
  refine j_aload_n (pc := 0) 0 dX2_readCold_0 rfl rfl ?_
  refine j_iconst (pc := 1) (v := 1) dX2_readCold_1 (by decide) ?_
  refine j_putI (pc := 2) ok_X2 (by decide) rfl w_415 (Or.inl rfl) rfl rfl dX2_readCold_2 (fun z1 => ?_)
  refine j_aload_n (pc := 5) 0 dX2_readCold_5 rfl rfl ?_
  refine j_getR (pc := 6) ok_X2 (by decide) rfl w_413 dX2_readCold_6 (fun a2 => ?_)
  refine j_aload_n (pc := 9) 0 dX2_readCold_9 rfl rfl ?_
  refine j_iconst (pc := 10) (v := 0) dX2_readCold_10 (by decide) ?_
  refine j_ldc (pc := 11) (v := 99999) dX2_readCold_11 w_736 ?_
  refine j_isC (fun h5 => ?_)
  refine j_callV_I (pc := 13) (as := [.int 0, .int 99999]) (mc2 := 0) (ms2 := 0) (ct_X2_number _ _ _ _) h5 rfl cw_X2_readCold_157 dX2_readCold_13 (Nat.le_of_ble_eq_true rfl) rfl (by decide) (by decide) (fun x4 z3 => ?_)
  refine j_putI (pc := 16) ok_X8 (by decide) rfl w_328 (Or.inl rfl) rfl rfl dX2_readCold_16 (fun z6 => ?_)
  exact j_return (pc := 19) dX2_readCold_19 rfl
theorem dX2_readHouse_0 : decode cX2_readHouse 0 = .ok (.aload_n 0, 1) := by decide +kernel
theorem dX2_readHouse_1 : decode cX2_readHouse 1 = .ok (.iconst 0, 1) := by decide +kernel
theorem dX2_readHouse_2 : decode cX2_readHouse 2 = .ok (.bipush 10, 2) := by decide +kernel
theorem dX2_readHouse_4 : decode cX2_readHouse 4 = .ok (.invokevirtual 157, 3) := by decide +kernel
theorem dX2_readHouse_7 : decode cX2_readHouse 7 = .ok (.istore_n 1, 1) := by decide +kernel
theorem dX2_readHouse_8 : decode cX2_readHouse 8 = .ok (.aload_n 0, 1) := by decide +kernel
theorem dX2_readHouse_9 : decode cX2_readHouse 9 = .ok (.ldc 217, 2) := by decide +kernel
theorem dX2_readHouse_11 : decode cX2_readHouse 11 = .ok (.invokevirtual 163, 3) := by decide +kernel
theorem dX2_readHouse_14 : decode cX2_readHouse 14 = .ok (.aload_n 0, 1) := by decide +kernel
theorem dX2_readHouse_15 : decode cX2_readHouse 15 = .ok (.getfield 35, 3) := by decide +kernel
theorem dX2_readHouse_18 : decode cX2_readHouse 18 = .ok (.getfield 121, 3) := by decide +kernel
theorem dX2_readHouse_21 : decode cX2_readHouse 21 = .ok (.iload_n 1, 1) := by decide +kernel
theorem dX2_readHouse_22 : decode cX2_readHouse 22 = .ok (.aload_n 0, 1) := by decide +kernel
theorem dX2_readHouse_23 : decode cX2_readHouse 23 = .ok (.iconst 0, 1) := by decide +kernel
theorem dX2_readHouse_24 : decode cX2_readHouse 24 = .ok (.sipush 999, 3) := by decide +kernel
theorem dX2_readHouse_27 : decode cX2_readHouse 27 = .ok (.invokevirtual 157, 3) := by decide +kernel
theorem dX2_readHouse_30 : decode cX2_readHouse 30 = .ok (.invokevirtual 219, 3) := by decide +kernel
theorem dX2_readHouse_33 : decode cX2_readHouse 33 = .ok (.return_, 1) := by decide +kernel
theorem cw_X2_readHouse_157 : CwV mi_X2_readHouse mi_X2_number yX2_number RX2 157 2 := ⟨⟨w_676, w_678, w_4, w_103, w_679⟩, ⟨by decide, by decide⟩, by decide +kernel, by decide, by decide⟩
theorem cw_X2_readHouse_163 : CwV mi_X2_readHouse mi_X2_needWord yX2_needWord RX2 163 1 := ⟨⟨w_685, w_687, w_5, w_103, w_688⟩, ⟨by decide, by decide⟩, by decide +kernel, by decide, by decide⟩
theorem cw_X2_readHouse_219 : CwV mi_X2_readHouse mi_X1_add yX1_add RX1 219 2 := ⟨⟨w_743, w_744, w_745, w_99, w_746⟩, ⟨by decide, by decide⟩, by decide +kernel, by decide, by decide⟩
theorem ct_X2_readHouse {l : Launch} {Γ : Am} (r0 : Nat) (z : Hp) : Ct l Γ yX2_readHouse mi_X2_readHouse cvV [.ref (mB Γ + r0)] z (m_X2_readHouse r0 z) := by
  refine Ct.ofJ (by decide) ⟨rfl, rfl⟩ (Nat.le_of_ble_eq_true rfl) ?_
  unfold m_X2_readHouse
  show J l Γ mi_X2_readHouse cvV 0 0 0 [(0, .ref (mB Γ + r0))] [] z _
  refine j_aload_n (pc := 0) 0 dX2_readHouse_0 rfl rfl ?_
  refine j_iconst (pc := 1) (v := 0) dX2_readHouse_1 (by decide) ?_
  refine j_bipush (pc := 2) (v := 10) dX2_readHouse_2 (by decide) ?_
  refine j_isC (fun h3 => ?_)
  refine j_callV_I (pc := 4) (as := [.int 0, .int 10]) (mc2 := 0) (ms2 := 0) (ct_X2_number _ _ _ _) h3 rfl cw_X2_readHouse_157 dX2_readHouse_4 (Nat.le_of_ble_eq_true rfl) rfl (by decide) (by decide) (fun x2 z1 => ?_)
  refine j_istore_n (pc := 7) (lv2 := [(1, .int x2), (0, .ref (mB Γ + r0))]) dX2_readHouse_7 rfl (by decide) rfl ?_
  refine j_aload_n (pc := 8) 1 dX2_readHouse_8 rfl rfl ?_
  refine j_ldcS (pc := 9) (w := 15) (tx := "limit") dX2_readHouse_9 (by decide +kernel) ?_
  refine j_isC (fun h5 => ?_)
  refine j_callV_V (pc := 11) (as := [.ref (mT Γ 15)]) (mc2 := 0) (ms2 := 0) (ct_X2_needWord _ _ _) h5 rfl cw_X2_readHouse_163 dX2_readHouse_11 (Nat.le_of_ble_eq_true rfl) rfl (by decide) (by decide) (fun _ z4 => ?_)
  refine j_aload_n (pc := 14) 1 dX2_readHouse_14 rfl rfl ?_
  refine j_getR (pc := 15) ok_X2 (by decide) rfl w_413 dX2_readHouse_15 (fun a6 => ?_)
  refine j_getR (pc := 18) ok_X8 (by decide) rfl w_298 dX2_readHouse_18 (fun a7 => ?_)
  refine j_iload_n (pc := 21) 0 dX2_readHouse_21 rfl rfl ?_
  refine j_aload_n (pc := 22) 1 dX2_readHouse_22 rfl rfl ?_
  refine j_iconst (pc := 23) (v := 0) dX2_readHouse_23 (by decide) ?_
  refine j_sipush (pc := 24) (v := 999) dX2_readHouse_24 (by decide) ?_
  refine j_isC (fun h10 => ?_)
  refine j_callV_I (pc := 27) (as := [.int 0, .int 999]) (mc2 := 0) (ms2 := 0) (ct_X2_number _ _ _ _) h10 rfl cw_X2_readHouse_157 dX2_readHouse_27 (Nat.le_of_ble_eq_true rfl) rfl (by decide) (by decide) (fun x9 z8 => ?_)
  refine j_isC (fun h12 => ?_)
  refine j_callV_V (pc := 30) (as := [.int x2, .int x9]) (mc2 := 0) (ms2 := 0) (ct_X1_add _ _ _ _) h12 rfl cw_X2_readHouse_219 dX2_readHouse_30 (Nat.le_of_ble_eq_true rfl) rfl (by decide) (by decide) (fun _ z11 => ?_)
  exact j_return (pc := 33) dX2_readHouse_33 rfl
theorem dX5_openRule_0 : decode cX5_openRule 0 = .ok (.aload_n 0, 1) := by decide +kernel
theorem dX5_openRule_1 : decode cX5_openRule 1 = .ok (.getfield 24, 3) := by decide +kernel
theorem dX5_openRule_4 : decode cX5_openRule 4 = .ok (.iconst 4, 1) := by decide +kernel
theorem dX5_openRule_5 : decode cX5_openRule 5 = .ok (.if_icmp .ge 13, 3) := by decide +kernel
theorem dX5_openRule_8 : decode cX5_openRule 8 = .ok (.aload_n 0, 1) := by decide +kernel
theorem dX5_openRule_9 : decode cX5_openRule 9 = .ok (.getfield 9, 3) := by decide +kernel
theorem dX5_openRule_12 : decode cX5_openRule 12 = .ok (.aload_n 0, 1) := by decide +kernel
theorem dX5_openRule_13 : decode cX5_openRule 13 = .ok (.getfield 24, 3) := by decide +kernel
theorem dX5_openRule_16 : decode cX5_openRule 16 = .ok (.iconst 0, 1) := by decide +kernel
theorem dX5_openRule_17 : decode cX5_openRule 17 = .ok (.iastore, 1) := by decide +kernel
theorem dX5_openRule_18 : decode cX5_openRule 18 = .ok (.return_, 1) := by decide +kernel
theorem ct_X5_openRule {l : Launch} {Γ : Am} (r0 : Nat) (z : Hp) : Ct l Γ yX5_openRule mi_X5_openRule cvV [.ref (mB Γ + r0)] z (m_X5_openRule r0 z) := by
  refine Ct.ofJ (by decide) ⟨rfl, rfl⟩ (Nat.le_of_ble_eq_true rfl) ?_
  unfold m_X5_openRule
  show J l Γ mi_X5_openRule cvV 0 0 0 [(0, .ref (mB Γ + r0))] [] z _
  refine j_aload_n (pc := 0) 0 dX5_openRule_0 rfl rfl ?_
  refine j_getI (pc := 1) ok_X5 (by decide) rfl w_256 dX5_openRule_1 (fun x1 => ?_)
  refine j_iconst (pc := 4) (v := 4) dX5_openRule_4 (by decide) ?_
  refine j_icmp_ge (pc := 5) 18 dX5_openRule_5 (by decide) ?_ ?_
  · exact j_return (pc := 18) dX5_openRule_18 rfl
  refine j_aload_n (pc := 8) 0 dX5_openRule_8 rfl rfl ?_
  refine j_getR (pc := 9) ok_X5 (by decide) rfl w_250 dX5_openRule_9 (fun a2 => ?_)
  refine j_aload_n (pc := 12) 0 dX5_openRule_12 rfl rfl ?_
  refine j_getI (pc := 13) ok_X5 (by decide) rfl w_256 dX5_openRule_13 (fun x3 => ?_)
  refine j_iconst (pc := 16) (v := 0) dX5_openRule_16 (by decide) ?_
  refine j_iastore (pc := 17) dX5_openRule_17 (fun z4 => ?_)
  exact j_return (pc := 18) dX5_openRule_18 rfl
theorem dX2_condWord_0 : decode cX2_condWord 0 = .ok (.aload_n 0, 1) := by decide +kernel
theorem dX2_condWord_1 : decode cX2_condWord 1 = .ok (.getfield 31, 3) := by decide +kernel
theorem dX2_condWord_4 : decode cX2_condWord 4 = .ok (.ldc 241, 2) := by decide +kernel
theorem dX2_condWord_6 : decode cX2_condWord 6 = .ok (.invokevirtual 66, 3) := by decide +kernel
theorem dX2_condWord_9 : decode cX2_condWord 9 = .ok (.ifCond .eq 5, 3) := by decide +kernel
theorem dX2_condWord_12 : decode cX2_condWord 12 = .ok (.iconst 0, 1) := by decide +kernel
theorem dX2_condWord_13 : decode cX2_condWord 13 = .ok (.ireturn, 1) := by decide +kernel
theorem dX2_condWord_14 : decode cX2_condWord 14 = .ok (.aload_n 0, 1) := by decide +kernel
theorem dX2_condWord_15 : decode cX2_condWord 15 = .ok (.getfield 31, 3) := by decide +kernel
theorem dX2_condWord_18 : decode cX2_condWord 18 = .ok (.ldc 243, 2) := by decide +kernel
theorem dX2_condWord_20 : decode cX2_condWord 20 = .ok (.invokevirtual 66, 3) := by decide +kernel
theorem dX2_condWord_23 : decode cX2_condWord 23 = .ok (.ifCond .eq 5, 3) := by decide +kernel
theorem dX2_condWord_26 : decode cX2_condWord 26 = .ok (.iconst 1, 1) := by decide +kernel
theorem dX2_condWord_27 : decode cX2_condWord 27 = .ok (.ireturn, 1) := by decide +kernel
theorem dX2_condWord_28 : decode cX2_condWord 28 = .ok (.aload_n 0, 1) := by decide +kernel
theorem dX2_condWord_29 : decode cX2_condWord 29 = .ok (.getfield 31, 3) := by decide +kernel
theorem dX2_condWord_32 : decode cX2_condWord 32 = .ok (.ldc 245, 2) := by decide +kernel
theorem dX2_condWord_34 : decode cX2_condWord 34 = .ok (.invokevirtual 66, 3) := by decide +kernel
theorem dX2_condWord_37 : decode cX2_condWord 37 = .ok (.ifCond .eq 5, 3) := by decide +kernel
theorem dX2_condWord_40 : decode cX2_condWord 40 = .ok (.iconst 2, 1) := by decide +kernel
theorem dX2_condWord_41 : decode cX2_condWord 41 = .ok (.ireturn, 1) := by decide +kernel
theorem dX2_condWord_42 : decode cX2_condWord 42 = .ok (.aload_n 0, 1) := by decide +kernel
theorem dX2_condWord_43 : decode cX2_condWord 43 = .ok (.getfield 31, 3) := by decide +kernel
theorem dX2_condWord_46 : decode cX2_condWord 46 = .ok (.ldc 247, 2) := by decide +kernel
theorem dX2_condWord_48 : decode cX2_condWord 48 = .ok (.invokevirtual 66, 3) := by decide +kernel
theorem dX2_condWord_51 : decode cX2_condWord 51 = .ok (.ifCond .eq 5, 3) := by decide +kernel
theorem dX2_condWord_54 : decode cX2_condWord 54 = .ok (.iconst 3, 1) := by decide +kernel
theorem dX2_condWord_55 : decode cX2_condWord 55 = .ok (.ireturn, 1) := by decide +kernel
theorem dX2_condWord_56 : decode cX2_condWord 56 = .ok (.aload_n 0, 1) := by decide +kernel
theorem dX2_condWord_57 : decode cX2_condWord 57 = .ok (.getfield 31, 3) := by decide +kernel
theorem dX2_condWord_60 : decode cX2_condWord 60 = .ok (.ldc 249, 2) := by decide +kernel
theorem dX2_condWord_62 : decode cX2_condWord 62 = .ok (.invokevirtual 66, 3) := by decide +kernel
theorem dX2_condWord_65 : decode cX2_condWord 65 = .ok (.ifCond .eq 7, 3) := by decide +kernel
theorem dX2_condWord_68 : decode cX2_condWord 68 = .ok (.iconst 4, 1) := by decide +kernel
theorem dX2_condWord_69 : decode cX2_condWord 69 = .ok (.goto 4, 3) := by decide +kernel
theorem dX2_condWord_72 : decode cX2_condWord 72 = .ok (.iconst (-1), 1) := by decide +kernel
theorem dX2_condWord_73 : decode cX2_condWord 73 = .ok (.ireturn, 1) := by decide +kernel
theorem cw_X2_condWord_66 : CwV mi_X2_condWord mi_X4_isWord yX4_isWord RX4 66 1 := ⟨⟨w_611, w_612, w_613, w_102, w_614⟩, ⟨by decide, by decide⟩, by decide +kernel, by decide, by decide⟩
theorem ct_X2_condWord {l : Launch} {Γ : Am} (r0 : Nat) (z : Hp) : Ct l Γ yX2_condWord mi_X2_condWord cvI [.ref (mB Γ + r0)] z (m_X2_condWord r0 z) := by
  refine Ct.ofJ (by decide) ⟨rfl, rfl⟩ (Nat.le_of_ble_eq_true rfl) ?_
  unfold m_X2_condWord
  show J l Γ mi_X2_condWord cvI 0 0 0 [(0, .ref (mB Γ + r0))] [] z _
  refine j_aload_n (pc := 0) 0 dX2_condWord_0 rfl rfl ?_
  refine j_getR (pc := 1) ok_X2 (by decide) rfl w_411 dX2_condWord_1 (fun a1 => ?_)
  refine j_ldcS (pc := 4) (w := 18) (tx := "shut") dX2_condWord_4 (by decide +kernel) ?_
  refine j_isC (fun h4 => ?_)
  refine j_callV_I (pc := 6) (as := [.ref (mT Γ 18)]) (mc2 := 0) (ms2 := 0) (ct_X4_isWord _ _ _) h4 rfl cw_X2_condWord_66 dX2_condWord_6 (Nat.le_of_ble_eq_true rfl) rfl (by decide) (by decide) (fun x3 z2 => ?_)
  refine j_if_eq (pc := 9) 14 dX2_condWord_9 (by decide) ?_ ?_
  · refine j_aload_n (pc := 14) 0 dX2_condWord_14 rfl rfl ?_
    refine j_getR (pc := 15) ok_X2 (by decide) rfl w_411 dX2_condWord_15 (fun a5 => ?_)
    refine j_ldcS (pc := 18) (w := 19) (tx := "thick") dX2_condWord_18 (by decide +kernel) ?_
    refine j_isC (fun h8 => ?_)
    refine j_callV_I (pc := 20) (as := [.ref (mT Γ 19)]) (mc2 := 0) (ms2 := 0) (ct_X4_isWord _ _ _) h8 rfl cw_X2_condWord_66 dX2_condWord_20 (Nat.le_of_ble_eq_true rfl) rfl (by decide) (by decide) (fun x7 z6 => ?_)
    refine j_if_eq (pc := 23) 28 dX2_condWord_23 (by decide) ?_ ?_
    · refine j_aload_n (pc := 28) 0 dX2_condWord_28 rfl rfl ?_
      refine j_getR (pc := 29) ok_X2 (by decide) rfl w_411 dX2_condWord_29 (fun a9 => ?_)
      refine j_ldcS (pc := 32) (w := 20) (tx := "gaps") dX2_condWord_32 (by decide +kernel) ?_
      refine j_isC (fun h12 => ?_)
      refine j_callV_I (pc := 34) (as := [.ref (mT Γ 20)]) (mc2 := 0) (ms2 := 0) (ct_X4_isWord _ _ _) h12 rfl cw_X2_condWord_66 dX2_condWord_34 (Nat.le_of_ble_eq_true rfl) rfl (by decide) (by decide) (fun x11 z10 => ?_)
      refine j_if_eq (pc := 37) 42 dX2_condWord_37 (by decide) ?_ ?_
      · refine j_aload_n (pc := 42) 0 dX2_condWord_42 rfl rfl ?_
        refine j_getR (pc := 43) ok_X2 (by decide) rfl w_411 dX2_condWord_43 (fun a13 => ?_)
        refine j_ldcS (pc := 46) (w := 21) (tx := "tick") dX2_condWord_46 (by decide +kernel) ?_
        refine j_isC (fun h16 => ?_)
        refine j_callV_I (pc := 48) (as := [.ref (mT Γ 21)]) (mc2 := 0) (ms2 := 0) (ct_X4_isWord _ _ _) h16 rfl cw_X2_condWord_66 dX2_condWord_48 (Nat.le_of_ble_eq_true rfl) rfl (by decide) (by decide) (fun x15 z14 => ?_)
        refine j_if_eq (pc := 51) 56 dX2_condWord_51 (by decide) ?_ ?_
        · refine j_aload_n (pc := 56) 0 dX2_condWord_56 rfl rfl ?_
          refine j_getR (pc := 57) ok_X2 (by decide) rfl w_411 dX2_condWord_57 (fun a17 => ?_)
          refine j_ldcS (pc := 60) (w := 22) (tx := "lift") dX2_condWord_60 (by decide +kernel) ?_
          refine j_isC (fun h20 => ?_)
          refine j_callV_I (pc := 62) (as := [.ref (mT Γ 22)]) (mc2 := 0) (ms2 := 0) (ct_X4_isWord _ _ _) h20 rfl cw_X2_condWord_66 dX2_condWord_62 (Nat.le_of_ble_eq_true rfl) rfl (by decide) (by decide) (fun x19 z18 => ?_)
          refine j_if_eq (pc := 65) 72 dX2_condWord_65 (by decide) ?_ ?_
          · refine j_iconst (pc := 72) (v := (-1)) dX2_condWord_72 (by decide) ?_
            exact j_ireturn (pc := 73) dX2_condWord_73 rfl rfl
          refine j_iconst (pc := 68) (v := 4) dX2_condWord_68 (by decide) ?_
          refine j_goto (pc := 69) 73 dX2_condWord_69 (by decide) ?_
          exact j_ireturn (pc := 73) dX2_condWord_73 rfl rfl
        refine j_iconst (pc := 54) (v := 3) dX2_condWord_54 (by decide) ?_
        exact j_ireturn (pc := 55) dX2_condWord_55 rfl rfl
      refine j_iconst (pc := 40) (v := 2) dX2_condWord_40 (by decide) ?_
      exact j_ireturn (pc := 41) dX2_condWord_41 rfl rfl
    refine j_iconst (pc := 26) (v := 1) dX2_condWord_26 (by decide) ?_
    exact j_ireturn (pc := 27) dX2_condWord_27 rfl rfl
  refine j_iconst (pc := 12) (v := 0) dX2_condWord_12 (by decide) ?_
  exact j_ireturn (pc := 13) dX2_condWord_13 rfl rfl
theorem dX2_comparison_0 : decode cX2_comparison 0 = .ok (.aload_n 0, 1) := by decide +kernel
theorem dX2_comparison_1 : decode cX2_comparison 1 = .ok (.getfield 31, 3) := by decide +kernel
theorem dX2_comparison_4 : decode cX2_comparison 4 = .ok (.getfield 251, 3) := by decide +kernel
theorem dX2_comparison_7 : decode cX2_comparison 7 = .ok (.istore_n 1, 1) := by decide +kernel
theorem dX2_comparison_8 : decode cX2_comparison 8 = .ok (.aload_n 0, 1) := by decide +kernel
theorem dX2_comparison_9 : decode cX2_comparison 9 = .ok (.getfield 31, 3) := by decide +kernel
theorem dX2_comparison_12 : decode cX2_comparison 12 = .ok (.bipush 60, 2) := by decide +kernel
theorem dX2_comparison_14 : decode cX2_comparison 14 = .ok (.invokevirtual 254, 3) := by decide +kernel
theorem dX2_comparison_17 : decode cX2_comparison 17 = .ok (.ifCond .ne 27, 3) := by decide +kernel
theorem dX2_comparison_20 : decode cX2_comparison 20 = .ok (.aload_n 0, 1) := by decide +kernel
theorem dX2_comparison_21 : decode cX2_comparison 21 = .ok (.getfield 31, 3) := by decide +kernel
theorem dX2_comparison_24 : decode cX2_comparison 24 = .ok (.bipush 62, 2) := by decide +kernel
theorem dX2_comparison_26 : decode cX2_comparison 26 = .ok (.invokevirtual 254, 3) := by decide +kernel
theorem dX2_comparison_29 : decode cX2_comparison 29 = .ok (.ifCond .ne 15, 3) := by decide +kernel
theorem dX2_comparison_32 : decode cX2_comparison 32 = .ok (.aload_n 0, 1) := by decide +kernel
theorem dX2_comparison_33 : decode cX2_comparison 33 = .ok (.iconst 1, 1) := by decide +kernel
theorem dX2_comparison_34 : decode cX2_comparison 34 = .ok (.aload_n 0, 1) := by decide +kernel
theorem dX2_comparison_35 : decode cX2_comparison 35 = .ok (.getfield 31, 3) := by decide +kernel
theorem dX2_comparison_38 : decode cX2_comparison 38 = .ok (.getfield 143, 3) := by decide +kernel
theorem dX2_comparison_41 : decode cX2_comparison 41 = .ok (.invokevirtual 146, 3) := by decide +kernel
theorem dX2_comparison_44 : decode cX2_comparison 44 = .ok (.aload_n 0, 1) := by decide +kernel
theorem dX2_comparison_45 : decode cX2_comparison 45 = .ok (.getfield 31, 3) := by decide +kernel
theorem dX2_comparison_48 : decode cX2_comparison 48 = .ok (.invokevirtual 154, 3) := by decide +kernel
theorem dX2_comparison_51 : decode cX2_comparison 51 = .ok (.iload_n 1, 1) := by decide +kernel
theorem dX2_comparison_52 : decode cX2_comparison 52 = .ok (.ireturn, 1) := by decide +kernel
theorem cw_X2_comparison_154 : CwV mi_X2_comparison mi_X4_advance yX4_advance RX4 154 0 := ⟨⟨w_671, w_596, w_597, w_102, w_598⟩, ⟨by decide, by decide⟩, by decide +kernel, by decide, by decide⟩
theorem cw_X2_comparison_254 : CwV mi_X2_comparison mi_X4_isSign yX4_isSign RX4 254 1 := ⟨⟨w_680, w_681, w_682, w_102, w_683⟩, ⟨by decide, by decide⟩, by decide +kernel, by decide, by decide⟩
theorem cw_X2_comparison_146 : CwV mi_X2_comparison mi_X2_fail yX2_fail RX2 146 2 := ⟨⟨w_667, w_669, w_2, w_103, w_670⟩, ⟨by decide, by decide⟩, by decide +kernel, by decide, by decide⟩
theorem j_X2_comparison_B44 {l : Launch} {Γ : Am}   : ∀ (r0 : Nat) (v1 : Int32) (z : Hp), J l Γ mi_X2_comparison cvI 0 0 44 [(0, .ref (mB Γ + r0)), (1, .int v1)] [] z (m_X2_comparison_B44  r0 v1 z) := by
  intro r0 v1 z
  unfold m_X2_comparison_B44
  refine j_aload_n (pc := 44) 0 dX2_comparison_44 rfl rfl ?_
  refine j_getR (pc := 45) ok_X2 (by decide) rfl w_411 dX2_comparison_45 (fun a1 => ?_)
  refine j_isC (fun h3 => ?_)
  refine j_callV_V (pc := 48) (as := []) (mc2 := 0) (ms2 := 0) (ct_X4_advance _ _) h3 rfl cw_X2_comparison_154 dX2_comparison_48 (Nat.le_of_ble_eq_true rfl) rfl (by decide) (by decide) (fun _ z2 => ?_)
  refine j_iload_n (pc := 51) 1 dX2_comparison_51 rfl rfl ?_
  exact j_ireturn (pc := 52) dX2_comparison_52 rfl rfl
theorem ct_X2_comparison {l : Launch} {Γ : Am} (r0 : Nat) (z : Hp) : Ct l Γ yX2_comparison mi_X2_comparison cvI [.ref (mB Γ + r0)] z (m_X2_comparison r0 z) := by
  refine Ct.ofJ (by decide) ⟨rfl, rfl⟩ (Nat.le_of_ble_eq_true rfl) ?_
  unfold m_X2_comparison
  show J l Γ mi_X2_comparison cvI 0 0 0 [(0, .ref (mB Γ + r0))] [] z _
  refine j_aload_n (pc := 0) 0 dX2_comparison_0 rfl rfl ?_
  refine j_getR (pc := 1) ok_X2 (by decide) rfl w_411 dX2_comparison_1 (fun a4 => ?_)
  refine j_getI (pc := 4) ok_X4 (by decide) rfl w_391 dX2_comparison_4 (fun x5 => ?_)
  refine j_istore_n (pc := 7) (lv2 := [(1, .int x5), (0, .ref (mB Γ + r0))]) dX2_comparison_7 rfl (by decide) rfl ?_
  refine j_aload_n (pc := 8) 1 dX2_comparison_8 rfl rfl ?_
  refine j_getR (pc := 9) ok_X2 (by decide) rfl w_411 dX2_comparison_9 (fun a6 => ?_)
  refine j_bipush (pc := 12) (v := 60) dX2_comparison_12 (by decide) ?_
  refine j_isC (fun h9 => ?_)
  refine j_callV_I (pc := 14) (as := [.int 60]) (mc2 := 0) (ms2 := 0) (ct_X4_isSign _ _ _) h9 rfl cw_X2_comparison_254 dX2_comparison_14 (Nat.le_of_ble_eq_true rfl) rfl (by decide) (by decide) (fun x8 z7 => ?_)
  refine j_if_ne (pc := 17) 44 dX2_comparison_17 (by decide) ?_ ?_
  · exact J.sub [1, 0] rfl (j_X2_comparison_B44 r0 x5 z7)
  refine j_aload_n (pc := 20) 1 dX2_comparison_20 rfl rfl ?_
  refine j_getR (pc := 21) ok_X2 (by decide) rfl w_411 dX2_comparison_21 (fun a10 => ?_)
  refine j_bipush (pc := 24) (v := 62) dX2_comparison_24 (by decide) ?_
  refine j_isC (fun h13 => ?_)
  refine j_callV_I (pc := 26) (as := [.int 62]) (mc2 := 0) (ms2 := 0) (ct_X4_isSign _ _ _) h13 rfl cw_X2_comparison_254 dX2_comparison_26 (Nat.le_of_ble_eq_true rfl) rfl (by decide) (by decide) (fun x12 z11 => ?_)
  refine j_if_ne (pc := 29) 44 dX2_comparison_29 (by decide) ?_ ?_
  · exact J.sub [1, 0] rfl (j_X2_comparison_B44 r0 x5 z11)
  refine j_aload_n (pc := 32) 1 dX2_comparison_32 rfl rfl ?_
  refine j_iconst (pc := 33) (v := 1) dX2_comparison_33 (by decide) ?_
  refine j_aload_n (pc := 34) 1 dX2_comparison_34 rfl rfl ?_
  refine j_getR (pc := 35) ok_X2 (by decide) rfl w_411 dX2_comparison_35 (fun a14 => ?_)
  refine j_getI (pc := 38) ok_X4 (by decide) rfl w_389 dX2_comparison_38 (fun x15 => ?_)
  refine j_isC (fun h17 => ?_)
  refine j_callV_V (pc := 41) (as := [.int 1, .int x15]) (mc2 := 0) (ms2 := 0) (ct_X2_fail _ _ _ _) h17 rfl cw_X2_comparison_146 dX2_comparison_41 (Nat.le_of_ble_eq_true rfl) rfl (by decide) (by decide) (fun _ z16 => ?_)
  exact J.sub [1, 0] rfl (j_X2_comparison_B44 r0 x5 z16)
theorem dX5_addCond_0 : decode cX5_addCond 0 = .ok (.aload_n 0, 1) := by decide +kernel
theorem dX5_addCond_1 : decode cX5_addCond 1 = .ok (.getfield 24, 3) := by decide +kernel
theorem dX5_addCond_4 : decode cX5_addCond 4 = .ok (.iconst 4, 1) := by decide +kernel
theorem dX5_addCond_5 : decode cX5_addCond 5 = .ok (.if_icmp .ge 16, 3) := by decide +kernel
theorem dX5_addCond_8 : decode cX5_addCond 8 = .ok (.aload_n 0, 1) := by decide +kernel
theorem dX5_addCond_9 : decode cX5_addCond 9 = .ok (.getfield 9, 3) := by decide +kernel
theorem dX5_addCond_12 : decode cX5_addCond 12 = .ok (.aload_n 0, 1) := by decide +kernel
theorem dX5_addCond_13 : decode cX5_addCond 13 = .ok (.getfield 24, 3) := by decide +kernel
theorem dX5_addCond_16 : decode cX5_addCond 16 = .ok (.iaload, 1) := by decide +kernel
theorem dX5_addCond_17 : decode cX5_addCond 17 = .ok (.iconst 3, 1) := by decide +kernel
theorem dX5_addCond_18 : decode cX5_addCond 18 = .ok (.if_icmp .lt 4, 3) := by decide +kernel
theorem dX5_addCond_21 : decode cX5_addCond 21 = .ok (.return_, 1) := by decide +kernel
theorem dX5_addCond_22 : decode cX5_addCond 22 = .ok (.iconst 3, 1) := by decide +kernel
theorem dX5_addCond_23 : decode cX5_addCond 23 = .ok (.aload_n 0, 1) := by decide +kernel
theorem dX5_addCond_24 : decode cX5_addCond 24 = .ok (.getfield 24, 3) := by decide +kernel
theorem dX5_addCond_27 : decode cX5_addCond 27 = .ok (.imul, 1) := by decide +kernel
theorem dX5_addCond_28 : decode cX5_addCond 28 = .ok (.aload_n 0, 1) := by decide +kernel
theorem dX5_addCond_29 : decode cX5_addCond 29 = .ok (.getfield 9, 3) := by decide +kernel
theorem dX5_addCond_32 : decode cX5_addCond 32 = .ok (.aload_n 0, 1) := by decide +kernel
theorem dX5_addCond_33 : decode cX5_addCond 33 = .ok (.getfield 24, 3) := by decide +kernel
theorem dX5_addCond_36 : decode cX5_addCond 36 = .ok (.iaload, 1) := by decide +kernel
theorem dX5_addCond_37 : decode cX5_addCond 37 = .ok (.iadd, 1) := by decide +kernel
theorem dX5_addCond_38 : decode cX5_addCond 38 = .ok (.istore 4, 2) := by decide +kernel
theorem dX5_addCond_40 : decode cX5_addCond 40 = .ok (.aload_n 0, 1) := by decide +kernel
theorem dX5_addCond_41 : decode cX5_addCond 41 = .ok (.getfield 15, 3) := by decide +kernel
theorem dX5_addCond_44 : decode cX5_addCond 44 = .ok (.iload 4, 2) := by decide +kernel
theorem dX5_addCond_46 : decode cX5_addCond 46 = .ok (.iload_n 1, 1) := by decide +kernel
theorem dX5_addCond_47 : decode cX5_addCond 47 = .ok (.iastore, 1) := by decide +kernel
theorem dX5_addCond_48 : decode cX5_addCond 48 = .ok (.aload_n 0, 1) := by decide +kernel
theorem dX5_addCond_49 : decode cX5_addCond 49 = .ok (.getfield 18, 3) := by decide +kernel
theorem dX5_addCond_52 : decode cX5_addCond 52 = .ok (.iload 4, 2) := by decide +kernel
theorem dX5_addCond_54 : decode cX5_addCond 54 = .ok (.iload_n 2, 1) := by decide +kernel
theorem dX5_addCond_55 : decode cX5_addCond 55 = .ok (.iastore, 1) := by decide +kernel
theorem dX5_addCond_56 : decode cX5_addCond 56 = .ok (.aload_n 0, 1) := by decide +kernel
theorem dX5_addCond_57 : decode cX5_addCond 57 = .ok (.getfield 21, 3) := by decide +kernel
theorem dX5_addCond_60 : decode cX5_addCond 60 = .ok (.iload 4, 2) := by decide +kernel
theorem dX5_addCond_62 : decode cX5_addCond 62 = .ok (.iload_n 3, 1) := by decide +kernel
theorem dX5_addCond_63 : decode cX5_addCond 63 = .ok (.iastore, 1) := by decide +kernel
theorem dX5_addCond_64 : decode cX5_addCond 64 = .ok (.aload_n 0, 1) := by decide +kernel
theorem dX5_addCond_65 : decode cX5_addCond 65 = .ok (.getfield 9, 3) := by decide +kernel
theorem dX5_addCond_68 : decode cX5_addCond 68 = .ok (.aload_n 0, 1) := by decide +kernel
theorem dX5_addCond_69 : decode cX5_addCond 69 = .ok (.getfield 24, 3) := by decide +kernel
theorem dX5_addCond_72 : decode cX5_addCond 72 = .ok (.dup2, 1) := by decide +kernel
theorem dX5_addCond_73 : decode cX5_addCond 73 = .ok (.iaload, 1) := by decide +kernel
theorem dX5_addCond_74 : decode cX5_addCond 74 = .ok (.iconst 1, 1) := by decide +kernel
theorem dX5_addCond_75 : decode cX5_addCond 75 = .ok (.iadd, 1) := by decide +kernel
theorem dX5_addCond_76 : decode cX5_addCond 76 = .ok (.iastore, 1) := by decide +kernel
theorem dX5_addCond_77 : decode cX5_addCond 77 = .ok (.return_, 1) := by decide +kernel
theorem ct_X5_addCond {l : Launch} {Γ : Am} (r0 : Nat) (v1 : Int32) (v2 : Int32) (v3 : Int32) (z : Hp) : Ct l Γ yX5_addCond mi_X5_addCond cvV [.ref (mB Γ + r0), .int v1, .int v2, .int v3] z (m_X5_addCond r0 v1 v2 v3 z) := by
  refine Ct.ofJ (by decide) ⟨rfl, rfl⟩ (Nat.le_of_ble_eq_true rfl) ?_
  unfold m_X5_addCond
  show J l Γ mi_X5_addCond cvV 0 0 0 [(0, .ref (mB Γ + r0)), (1, .int v1), (2, .int v2), (3, .int v3)] [] z _
  refine j_aload_n (pc := 0) 0 dX5_addCond_0 rfl rfl ?_
  refine j_getI (pc := 1) ok_X5 (by decide) rfl w_256 dX5_addCond_1 (fun x1 => ?_)
  refine j_iconst (pc := 4) (v := 4) dX5_addCond_4 (by decide) ?_
  refine j_icmp_ge (pc := 5) 21 dX5_addCond_5 (by decide) ?_ ?_
  · exact j_return (pc := 21) dX5_addCond_21 rfl
  refine j_aload_n (pc := 8) 0 dX5_addCond_8 rfl rfl ?_
  refine j_getR (pc := 9) ok_X5 (by decide) rfl w_250 dX5_addCond_9 (fun a2 => ?_)
  refine j_aload_n (pc := 12) 0 dX5_addCond_12 rfl rfl ?_
  refine j_getI (pc := 13) ok_X5 (by decide) rfl w_256 dX5_addCond_13 (fun x3 => ?_)
  refine j_iaload (pc := 16) dX5_addCond_16 (fun x4 => ?_)
  refine j_iconst (pc := 17) (v := 3) dX5_addCond_17 (by decide) ?_
  refine j_icmp_lt (pc := 18) 22 dX5_addCond_18 (by decide) ?_ ?_
  · refine j_iconst (pc := 22) (v := 3) dX5_addCond_22 (by decide) ?_
    refine j_aload_n (pc := 23) 0 dX5_addCond_23 rfl rfl ?_
    refine j_getI (pc := 24) ok_X5 (by decide) rfl w_256 dX5_addCond_24 (fun x5 => ?_)
    refine j_imul (pc := 27) dX5_addCond_27 ?_
    refine j_aload_n (pc := 28) 0 dX5_addCond_28 rfl rfl ?_
    refine j_getR (pc := 29) ok_X5 (by decide) rfl w_250 dX5_addCond_29 (fun a6 => ?_)
    refine j_aload_n (pc := 32) 0 dX5_addCond_32 rfl rfl ?_
    refine j_getI (pc := 33) ok_X5 (by decide) rfl w_256 dX5_addCond_33 (fun x7 => ?_)
    refine j_iaload (pc := 36) dX5_addCond_36 (fun x8 => ?_)
    refine j_iadd (pc := 37) dX5_addCond_37 ?_
    refine j_istore (pc := 38) (lv2 := [(4, .int ((3 * x5) + x8)), (0, .ref (mB Γ + r0)), (1, .int v1), (2, .int v2), (3, .int v3)]) dX5_addCond_38 (by decide) rfl ?_
    refine j_aload_n (pc := 40) 1 dX5_addCond_40 rfl rfl ?_
    refine j_getR (pc := 41) ok_X5 (by decide) rfl w_252 dX5_addCond_41 (fun a9 => ?_)
    refine j_iload (pc := 44) 0 dX5_addCond_44 rfl ?_
    refine j_iload_n (pc := 46) 2 dX5_addCond_46 rfl rfl ?_
    refine j_iastore (pc := 47) dX5_addCond_47 (fun z10 => ?_)
    refine j_aload_n (pc := 48) 1 dX5_addCond_48 rfl rfl ?_
    refine j_getR (pc := 49) ok_X5 (by decide) rfl w_254 dX5_addCond_49 (fun a11 => ?_)
    refine j_iload (pc := 52) 0 dX5_addCond_52 rfl ?_
    refine j_iload_n (pc := 54) 3 dX5_addCond_54 rfl rfl ?_
    refine j_iastore (pc := 55) dX5_addCond_55 (fun z12 => ?_)
    refine j_aload_n (pc := 56) 1 dX5_addCond_56 rfl rfl ?_
    refine j_getR (pc := 57) ok_X5 (by decide) rfl w_255 dX5_addCond_57 (fun a13 => ?_)
    refine j_iload (pc := 60) 0 dX5_addCond_60 rfl ?_
    refine j_iload_n (pc := 62) 4 dX5_addCond_62 rfl rfl ?_
    refine j_iastore (pc := 63) dX5_addCond_63 (fun z14 => ?_)
    refine j_aload_n (pc := 64) 1 dX5_addCond_64 rfl rfl ?_
    refine j_getR (pc := 65) ok_X5 (by decide) rfl w_250 dX5_addCond_65 (fun a15 => ?_)
    refine j_aload_n (pc := 68) 1 dX5_addCond_68 rfl rfl ?_
    refine j_getI (pc := 69) ok_X5 (by decide) rfl w_256 dX5_addCond_69 (fun x16 => ?_)
    refine j_dup2 (pc := 72) dX5_addCond_72 rfl rfl ?_
    refine j_iaload (pc := 73) dX5_addCond_73 (fun x17 => ?_)
    refine j_iconst (pc := 74) (v := 1) dX5_addCond_74 (by decide) ?_
    refine j_iadd (pc := 75) dX5_addCond_75 ?_
    refine j_iastore (pc := 76) dX5_addCond_76 (fun z18 => ?_)
    exact j_return (pc := 77) dX5_addCond_77 rfl
  exact j_return (pc := 21) dX5_addCond_21 rfl
theorem dX5_closeRule_0 : decode cX5_closeRule 0 = .ok (.aload_n 0, 1) := by decide +kernel
theorem dX5_closeRule_1 : decode cX5_closeRule 1 = .ok (.getfield 24, 3) := by decide +kernel
theorem dX5_closeRule_4 : decode cX5_closeRule 4 = .ok (.iconst 4, 1) := by decide +kernel
theorem dX5_closeRule_5 : decode cX5_closeRule 5 = .ok (.if_icmp .ge 13, 3) := by decide +kernel
theorem dX5_closeRule_8 : decode cX5_closeRule 8 = .ok (.aload_n 0, 1) := by decide +kernel
theorem dX5_closeRule_9 : decode cX5_closeRule 9 = .ok (.dup, 1) := by decide +kernel
theorem dX5_closeRule_10 : decode cX5_closeRule 10 = .ok (.getfield 24, 3) := by decide +kernel
theorem dX5_closeRule_13 : decode cX5_closeRule 13 = .ok (.iconst 1, 1) := by decide +kernel
theorem dX5_closeRule_14 : decode cX5_closeRule 14 = .ok (.iadd, 1) := by decide +kernel
theorem dX5_closeRule_15 : decode cX5_closeRule 15 = .ok (.putfield 24, 3) := by decide +kernel
theorem dX5_closeRule_18 : decode cX5_closeRule 18 = .ok (.return_, 1) := by decide +kernel
theorem ct_X5_closeRule {l : Launch} {Γ : Am} (r0 : Nat) (z : Hp) : Ct l Γ yX5_closeRule mi_X5_closeRule cvV [.ref (mB Γ + r0)] z (m_X5_closeRule r0 z) := by
  refine Ct.ofJ (by decide) ⟨rfl, rfl⟩ (Nat.le_of_ble_eq_true rfl) ?_
  unfold m_X5_closeRule
  show J l Γ mi_X5_closeRule cvV 0 0 0 [(0, .ref (mB Γ + r0))] [] z _
  refine j_aload_n (pc := 0) 0 dX5_closeRule_0 rfl rfl ?_
  refine j_getI (pc := 1) ok_X5 (by decide) rfl w_256 dX5_closeRule_1 (fun x1 => ?_)
  refine j_iconst (pc := 4) (v := 4) dX5_closeRule_4 (by decide) ?_
  refine j_icmp_ge (pc := 5) 18 dX5_closeRule_5 (by decide) ?_ ?_
  · exact j_return (pc := 18) dX5_closeRule_18 rfl
  refine j_aload_n (pc := 8) 0 dX5_closeRule_8 rfl rfl ?_
  refine j_dup (pc := 9) dX5_closeRule_9 rfl ?_
  refine j_getI (pc := 10) ok_X5 (by decide) rfl w_256 dX5_closeRule_10 (fun x2 => ?_)
  refine j_iconst (pc := 13) (v := 1) dX5_closeRule_13 (by decide) ?_
  refine j_iadd (pc := 14) dX5_closeRule_14 ?_
  refine j_putI (pc := 15) ok_X5 (by decide) rfl w_256 (Or.inl rfl) rfl rfl dX5_closeRule_15 (fun z3 => ?_)
  exact j_return (pc := 18) dX5_closeRule_18 rfl
theorem dX2_readRule_0 : decode cX2_readRule 0 = .ok (.aload_n 0, 1) := by decide +kernel
theorem dX2_readRule_1 : decode cX2_readRule 1 = .ok (.ldc 221, 2) := by decide +kernel
theorem dX2_readRule_3 : decode cX2_readRule 3 = .ok (.invokevirtual 163, 3) := by decide +kernel
theorem dX2_readRule_6 : decode cX2_readRule 6 = .ok (.aload_n 0, 1) := by decide +kernel
theorem dX2_readRule_7 : decode cX2_readRule 7 = .ok (.getfield 35, 3) := by decide +kernel
theorem dX2_readRule_10 : decode cX2_readRule 10 = .ok (.getfield 133, 3) := by decide +kernel
theorem dX2_readRule_13 : decode cX2_readRule 13 = .ok (.invokevirtual 223, 3) := by decide +kernel
theorem dX2_readRule_16 : decode cX2_readRule 16 = .ok (.iconst 0, 1) := by decide +kernel
theorem dX2_readRule_17 : decode cX2_readRule 17 = .ok (.istore_n 1, 1) := by decide +kernel
theorem dX2_readRule_18 : decode cX2_readRule 18 = .ok (.iload_n 1, 1) := by decide +kernel
theorem dX2_readRule_19 : decode cX2_readRule 19 = .ok (.iconst 3, 1) := by decide +kernel
theorem dX2_readRule_20 : decode cX2_readRule 20 = .ok (.if_icmp .gt 131, 3) := by decide +kernel
theorem dX2_readRule_23 : decode cX2_readRule 23 = .ok (.aload_n 0, 1) := by decide +kernel
theorem dX2_readRule_24 : decode cX2_readRule 24 = .ok (.invokevirtual 226, 3) := by decide +kernel
theorem dX2_readRule_27 : decode cX2_readRule 27 = .ok (.istore_n 2, 1) := by decide +kernel
theorem dX2_readRule_28 : decode cX2_readRule 28 = .ok (.iload_n 2, 1) := by decide +kernel
theorem dX2_readRule_29 : decode cX2_readRule 29 = .ok (.iconst (-1), 1) := by decide +kernel
theorem dX2_readRule_30 : decode cX2_readRule 30 = .ok (.if_icmp .ne 18, 3) := by decide +kernel
theorem dX2_readRule_33 : decode cX2_readRule 33 = .ok (.aload_n 0, 1) := by decide +kernel
theorem dX2_readRule_34 : decode cX2_readRule 34 = .ok (.iconst 1, 1) := by decide +kernel
theorem dX2_readRule_35 : decode cX2_readRule 35 = .ok (.aload_n 0, 1) := by decide +kernel
theorem dX2_readRule_36 : decode cX2_readRule 36 = .ok (.getfield 31, 3) := by decide +kernel
theorem dX2_readRule_39 : decode cX2_readRule 39 = .ok (.getfield 143, 3) := by decide +kernel
theorem dX2_readRule_42 : decode cX2_readRule 42 = .ok (.invokevirtual 146, 3) := by decide +kernel
theorem dX2_readRule_45 : decode cX2_readRule 45 = .ok (.goto 20, 3) := by decide +kernel
theorem dX2_readRule_48 : decode cX2_readRule 48 = .ok (.iload_n 1, 1) := by decide +kernel
theorem dX2_readRule_49 : decode cX2_readRule 49 = .ok (.iconst 3, 1) := by decide +kernel
theorem dX2_readRule_50 : decode cX2_readRule 50 = .ok (.if_icmp .ne 15, 3) := by decide +kernel
theorem dX2_readRule_53 : decode cX2_readRule 53 = .ok (.aload_n 0, 1) := by decide +kernel
theorem dX2_readRule_54 : decode cX2_readRule 54 = .ok (.iconst 3, 1) := by decide +kernel
theorem dX2_readRule_55 : decode cX2_readRule 55 = .ok (.aload_n 0, 1) := by decide +kernel
theorem dX2_readRule_56 : decode cX2_readRule 56 = .ok (.getfield 31, 3) := by decide +kernel
theorem dX2_readRule_59 : decode cX2_readRule 59 = .ok (.getfield 143, 3) := by decide +kernel
theorem dX2_readRule_62 : decode cX2_readRule 62 = .ok (.invokevirtual 146, 3) := by decide +kernel
theorem dX2_readRule_65 : decode cX2_readRule 65 = .ok (.aload_n 0, 1) := by decide +kernel
theorem dX2_readRule_66 : decode cX2_readRule 66 = .ok (.getfield 31, 3) := by decide +kernel
theorem dX2_readRule_69 : decode cX2_readRule 69 = .ok (.invokevirtual 154, 3) := by decide +kernel
theorem dX2_readRule_72 : decode cX2_readRule 72 = .ok (.iload_n 2, 1) := by decide +kernel
theorem dX2_readRule_73 : decode cX2_readRule 73 = .ok (.ifCond .ne 7, 3) := by decide +kernel
theorem dX2_readRule_76 : decode cX2_readRule 76 = .ok (.iconst 0, 1) := by decide +kernel
theorem dX2_readRule_77 : decode cX2_readRule 77 = .ok (.goto 7, 3) := by decide +kernel
theorem dX2_readRule_80 : decode cX2_readRule 80 = .ok (.aload_n 0, 1) := by decide +kernel
theorem dX2_readRule_81 : decode cX2_readRule 81 = .ok (.invokevirtual 230, 3) := by decide +kernel
theorem dX2_readRule_84 : decode cX2_readRule 84 = .ok (.istore_n 3, 1) := by decide +kernel
theorem dX2_readRule_85 : decode cX2_readRule 85 = .ok (.iload_n 2, 1) := by decide +kernel
theorem dX2_readRule_86 : decode cX2_readRule 86 = .ok (.ifCond .ne 7, 3) := by decide +kernel
theorem dX2_readRule_89 : decode cX2_readRule 89 = .ok (.iconst 0, 1) := by decide +kernel
theorem dX2_readRule_90 : decode cX2_readRule 90 = .ok (.goto 10, 3) := by decide +kernel
theorem dX2_readRule_93 : decode cX2_readRule 93 = .ok (.aload_n 0, 1) := by decide +kernel
theorem dX2_readRule_94 : decode cX2_readRule 94 = .ok (.iconst 0, 1) := by decide +kernel
theorem dX2_readRule_95 : decode cX2_readRule 95 = .ok (.ldc 214, 2) := by decide +kernel
theorem dX2_readRule_97 : decode cX2_readRule 97 = .ok (.invokevirtual 157, 3) := by decide +kernel
theorem dX2_readRule_100 : decode cX2_readRule 100 = .ok (.istore 4, 2) := by decide +kernel
theorem dX2_readRule_102 : decode cX2_readRule 102 = .ok (.aload_n 0, 1) := by decide +kernel
theorem dX2_readRule_103 : decode cX2_readRule 103 = .ok (.getfield 35, 3) := by decide +kernel
theorem dX2_readRule_106 : decode cX2_readRule 106 = .ok (.getfield 133, 3) := by decide +kernel
theorem dX2_readRule_109 : decode cX2_readRule 109 = .ok (.iload_n 2, 1) := by decide +kernel
theorem dX2_readRule_110 : decode cX2_readRule 110 = .ok (.iload_n 3, 1) := by decide +kernel
theorem dX2_readRule_111 : decode cX2_readRule 111 = .ok (.iload 4, 2) := by decide +kernel
theorem dX2_readRule_113 : decode cX2_readRule 113 = .ok (.invokevirtual 233, 3) := by decide +kernel
theorem dX2_readRule_116 : decode cX2_readRule 116 = .ok (.aload_n 0, 1) := by decide +kernel
theorem dX2_readRule_117 : decode cX2_readRule 117 = .ok (.getfield 25, 3) := by decide +kernel
theorem dX2_readRule_120 : decode cX2_readRule 120 = .ok (.ifCond .ne 31, 3) := by decide +kernel
theorem dX2_readRule_123 : decode cX2_readRule 123 = .ok (.aload_n 0, 1) := by decide +kernel
theorem dX2_readRule_124 : decode cX2_readRule 124 = .ok (.getfield 31, 3) := by decide +kernel
theorem dX2_readRule_127 : decode cX2_readRule 127 = .ok (.ldc 236, 2) := by decide +kernel
theorem dX2_readRule_129 : decode cX2_readRule 129 = .ok (.invokevirtual 66, 3) := by decide +kernel
theorem dX2_readRule_132 : decode cX2_readRule 132 = .ok (.ifCond .ne 6, 3) := by decide +kernel
theorem dX2_readRule_135 : decode cX2_readRule 135 = .ok (.goto 16, 3) := by decide +kernel
theorem dX2_readRule_138 : decode cX2_readRule 138 = .ok (.aload_n 0, 1) := by decide +kernel
theorem dX2_readRule_139 : decode cX2_readRule 139 = .ok (.getfield 31, 3) := by decide +kernel
theorem dX2_readRule_142 : decode cX2_readRule 142 = .ok (.invokevirtual 154, 3) := by decide +kernel
theorem dX2_readRule_145 : decode cX2_readRule 145 = .ok (.iinc 1 1, 3) := by decide +kernel
theorem dX2_readRule_148 : decode cX2_readRule 148 = .ok (.goto (-130), 3) := by decide +kernel
theorem dX2_readRule_151 : decode cX2_readRule 151 = .ok (.aload_n 0, 1) := by decide +kernel
theorem dX2_readRule_152 : decode cX2_readRule 152 = .ok (.getfield 35, 3) := by decide +kernel
theorem dX2_readRule_155 : decode cX2_readRule 155 = .ok (.getfield 133, 3) := by decide +kernel
theorem dX2_readRule_158 : decode cX2_readRule 158 = .ok (.invokevirtual 238, 3) := by decide +kernel
theorem dX2_readRule_161 : decode cX2_readRule 161 = .ok (.return_, 1) := by decide +kernel
theorem cw_X2_readRule_238 : CwV mi_X2_readRule mi_X5_closeRule yX5_closeRule RX5 238 0 := ⟨⟨w_775, w_776, w_777, w_100, w_778⟩, ⟨by decide, by decide⟩, by decide +kernel, by decide, by decide⟩
theorem cw_X2_readRule_233 : CwV mi_X2_readRule mi_X5_addCond yX5_addCond RX5 233 3 := ⟨⟨w_770, w_771, w_772, w_100, w_773⟩, ⟨by decide, by decide⟩, by decide +kernel, by decide, by decide⟩
theorem cw_X2_readRule_66 : CwV mi_X2_readRule mi_X4_isWord yX4_isWord RX4 66 1 := ⟨⟨w_611, w_612, w_613, w_102, w_614⟩, ⟨by decide, by decide⟩, by decide +kernel, by decide, by decide⟩
theorem cw_X2_readRule_154 : CwV mi_X2_readRule mi_X4_advance yX4_advance RX4 154 0 := ⟨⟨w_671, w_596, w_597, w_102, w_598⟩, ⟨by decide, by decide⟩, by decide +kernel, by decide, by decide⟩
theorem cw_X2_readRule_157 : CwV mi_X2_readRule mi_X2_number yX2_number RX2 157 2 := ⟨⟨w_676, w_678, w_4, w_103, w_679⟩, ⟨by decide, by decide⟩, by decide +kernel, by decide, by decide⟩
theorem cw_X2_readRule_230 : CwV mi_X2_readRule mi_X2_comparison yX2_comparison RX2 230 0 := ⟨⟨w_766, w_768, w_15, w_103, w_769⟩, ⟨by decide, by decide⟩, by decide +kernel, by decide, by decide⟩
theorem cw_X2_readRule_226 : CwV mi_X2_readRule mi_X2_condWord yX2_condWord RX2 226 0 := ⟨⟨w_757, w_759, w_14, w_103, w_760⟩, ⟨by decide, by decide⟩, by decide +kernel, by decide, by decide⟩
theorem cw_X2_readRule_146 : CwV mi_X2_readRule mi_X2_fail yX2_fail RX2 146 2 := ⟨⟨w_667, w_669, w_2, w_103, w_670⟩, ⟨by decide, by decide⟩, by decide +kernel, by decide, by decide⟩
theorem cw_X2_readRule_163 : CwV mi_X2_readRule mi_X2_needWord yX2_needWord RX2 163 1 := ⟨⟨w_685, w_687, w_5, w_103, w_688⟩, ⟨by decide, by decide⟩, by decide +kernel, by decide, by decide⟩
theorem cw_X2_readRule_223 : CwV mi_X2_readRule mi_X5_openRule yX5_openRule RX5 223 0 := ⟨⟨w_753, w_754, w_755, w_100, w_756⟩, ⟨by decide, by decide⟩, by decide +kernel, by decide, by decide⟩
theorem j_X2_readRule_B151 {l : Launch} {Γ : Am}   : ∀ (r0 : Nat) (z : Hp), J l Γ mi_X2_readRule cvV 0 0 151 [(0, .ref (mB Γ + r0))] [] z (m_X2_readRule_B151  r0 z) := by
  intro r0 z
  unfold m_X2_readRule_B151
  refine j_aload_n (pc := 151) 0 dX2_readRule_151 rfl rfl ?_
  refine j_getR (pc := 152) ok_X2 (by decide) rfl w_413 dX2_readRule_152 (fun a1 => ?_)
  refine j_getR (pc := 155) ok_X8 (by decide) rfl w_301 dX2_readRule_155 (fun a2 => ?_)
  refine j_isC (fun h4 => ?_)
  refine j_callV_V (pc := 158) (as := []) (mc2 := 0) (ms2 := 0) (ct_X5_closeRule _ _) h4 rfl cw_X2_readRule_238 dX2_readRule_158 (Nat.le_of_ble_eq_true rfl) rfl (by decide) (by decide) (fun _ z3 => ?_)
  exact j_return (pc := 161) dX2_readRule_161 rfl
theorem j_X2_readRule_B135 {l : Launch} {Γ : Am}   : ∀ (r0 : Nat) (z : Hp), J l Γ mi_X2_readRule cvV 0 0 135 [(0, .ref (mB Γ + r0))] [] z (m_X2_readRule_B135  r0 z) := by
  intro r0 z
  unfold m_X2_readRule_B135
  refine j_goto (pc := 135) 151 dX2_readRule_135 (by decide) ?_
  exact J.sub [0] rfl (j_X2_readRule_B151 r0 z)
theorem j_X2_readRule_B100 {l : Launch} {Γ : Am} {k18 : Nat → Int32 → Hp → Option (Unit × Hp)} {k135 : Nat → Hp → Option (Unit × Hp)} {k151 : Nat → Hp → Option (Unit × Hp)} (hL18 : ∀ (r0 : Nat) (v1 : Int32) (z : Hp), J l Γ mi_X2_readRule cvV 0 0 18 [(0, .ref (mB Γ + r0)), (1, .int v1)] [] z (k18 r0 v1 z)) (hL135 : ∀ (r0 : Nat) (z : Hp), J l Γ mi_X2_readRule cvV 0 0 135 [(0, .ref (mB Γ + r0))] [] z (k135 r0 z)) (hL151 : ∀ (r0 : Nat) (z : Hp), J l Γ mi_X2_readRule cvV 0 0 151 [(0, .ref (mB Γ + r0))] [] z (k151 r0 z)) : ∀ (r0 : Nat) (v1 : Int32) (v2 : Int32) (v3 : Int32) (t0 : Int32) (z : Hp), J l Γ mi_X2_readRule cvV 0 0 100 [(0, .ref (mB Γ + r0)), (1, .int v1), (2, .int v2), (3, .int v3)] [.int t0] z (m_X2_readRule_B100 k18 k135 k151 r0 v1 v2 v3 t0 z) := by
  intro r0 v1 v2 v3 t0 z
  unfold m_X2_readRule_B100
  refine j_istore (pc := 100) (lv2 := [(4, .int t0), (0, .ref (mB Γ + r0)), (1, .int v1), (2, .int v2), (3, .int v3)]) dX2_readRule_100 (by decide) rfl ?_
  refine j_aload_n (pc := 102) 1 dX2_readRule_102 rfl rfl ?_
  refine j_getR (pc := 103) ok_X2 (by decide) rfl w_413 dX2_readRule_103 (fun a5 => ?_)
  refine j_getR (pc := 106) ok_X8 (by decide) rfl w_301 dX2_readRule_106 (fun a6 => ?_)
  refine j_iload_n (pc := 109) 3 dX2_readRule_109 rfl rfl ?_
  refine j_iload_n (pc := 110) 4 dX2_readRule_110 rfl rfl ?_
  refine j_iload (pc := 111) 0 dX2_readRule_111 rfl ?_
  refine j_isC (fun h8 => ?_)
  refine j_callV_V (pc := 113) (as := [.int v2, .int v3, .int t0]) (mc2 := 0) (ms2 := 0) (ct_X5_addCond _ _ _ _ _) h8 rfl cw_X2_readRule_233 dX2_readRule_113 (Nat.le_of_ble_eq_true rfl) rfl (by decide) (by decide) (fun _ z7 => ?_)
  refine j_aload_n (pc := 116) 1 dX2_readRule_116 rfl rfl ?_
  refine j_getI (pc := 117) ok_X2 (by decide) rfl w_417 dX2_readRule_117 (fun x9 => ?_)
  refine j_if_ne (pc := 120) 151 dX2_readRule_120 (by decide) ?_ ?_
  · exact J.sub [1] rfl (hL151 r0 z7)
  refine j_aload_n (pc := 123) 1 dX2_readRule_123 rfl rfl ?_
  refine j_getR (pc := 124) ok_X2 (by decide) rfl w_411 dX2_readRule_124 (fun a10 => ?_)
  refine j_ldcS (pc := 127) (w := 23) (tx := "and") dX2_readRule_127 (by decide +kernel) ?_
  refine j_isC (fun h13 => ?_)
  refine j_callV_I (pc := 129) (as := [.ref (mT Γ 23)]) (mc2 := 0) (ms2 := 0) (ct_X4_isWord _ _ _) h13 rfl cw_X2_readRule_66 dX2_readRule_129 (Nat.le_of_ble_eq_true rfl) rfl (by decide) (by decide) (fun x12 z11 => ?_)
  refine j_if_ne (pc := 132) 138 dX2_readRule_132 (by decide) ?_ ?_
  · refine j_aload_n (pc := 138) 1 dX2_readRule_138 rfl rfl ?_
    refine j_getR (pc := 139) ok_X2 (by decide) rfl w_411 dX2_readRule_139 (fun a14 => ?_)
    refine j_isC (fun h16 => ?_)
    refine j_callV_V (pc := 142) (as := []) (mc2 := 0) (ms2 := 0) (ct_X4_advance _ _) h16 rfl cw_X2_readRule_154 dX2_readRule_142 (Nat.le_of_ble_eq_true rfl) rfl (by decide) (by decide) (fun _ z15 => ?_)
    refine j_iinc (pc := 145) (n0 := 2) (v0 := v1 + 1) (lv2 := [(1, .int (v1 + 1)), (4, .int t0), (0, .ref (mB Γ + r0)), (2, .int v2), (3, .int v3)]) dX2_readRule_145 rfl rfl (by decide) rfl ?_
    refine j_goto (pc := 148) 18 dX2_readRule_148 (by decide) ?_
    exact J.sub [2, 0] rfl (hL18 r0 (v1 + 1) z15)
  exact J.sub [1] rfl (hL135 r0 z11)
theorem j_X2_readRule_B84 {l : Launch} {Γ : Am} {k18 : Nat → Int32 → Hp → Option (Unit × Hp)} {k135 : Nat → Hp → Option (Unit × Hp)} {k151 : Nat → Hp → Option (Unit × Hp)} (hL18 : ∀ (r0 : Nat) (v1 : Int32) (z : Hp), J l Γ mi_X2_readRule cvV 0 0 18 [(0, .ref (mB Γ + r0)), (1, .int v1)] [] z (k18 r0 v1 z)) (hL135 : ∀ (r0 : Nat) (z : Hp), J l Γ mi_X2_readRule cvV 0 0 135 [(0, .ref (mB Γ + r0))] [] z (k135 r0 z)) (hL151 : ∀ (r0 : Nat) (z : Hp), J l Γ mi_X2_readRule cvV 0 0 151 [(0, .ref (mB Γ + r0))] [] z (k151 r0 z)) : ∀ (r0 : Nat) (v1 : Int32) (v2 : Int32) (t0 : Int32) (z : Hp), J l Γ mi_X2_readRule cvV 0 0 84 [(0, .ref (mB Γ + r0)), (1, .int v1), (2, .int v2)] [.int t0] z (m_X2_readRule_B84 k18 k135 k151 r0 v1 v2 t0 z) := by
  intro r0 v1 v2 t0 z
  unfold m_X2_readRule_B84
  refine j_istore_n (pc := 84) (lv2 := [(3, .int t0), (0, .ref (mB Γ + r0)), (1, .int v1), (2, .int v2)]) dX2_readRule_84 rfl (by decide) rfl ?_
  refine j_iload_n (pc := 85) 3 dX2_readRule_85 rfl rfl ?_
  refine j_if_ne (pc := 86) 93 dX2_readRule_86 (by decide) ?_ ?_
  · refine j_aload_n (pc := 93) 1 dX2_readRule_93 rfl rfl ?_
    refine j_iconst (pc := 94) (v := 0) dX2_readRule_94 (by decide) ?_
    refine j_ldc (pc := 95) (v := 99999) dX2_readRule_95 w_736 ?_
    refine j_isC (fun h19 => ?_)
    refine j_callV_I (pc := 97) (as := [.int 0, .int 99999]) (mc2 := 0) (ms2 := 0) (ct_X2_number _ _ _ _) h19 rfl cw_X2_readRule_157 dX2_readRule_97 (Nat.le_of_ble_eq_true rfl) rfl (by decide) (by decide) (fun x18 z17 => ?_)
    exact J.sub [1, 2, 3, 0] rfl ((j_X2_readRule_B100 hL18 hL135 hL151) r0 v1 v2 t0 x18 z17)
  refine j_iconst (pc := 89) (v := 0) dX2_readRule_89 (by decide) ?_
  refine j_goto (pc := 90) 100 dX2_readRule_90 (by decide) ?_
  exact J.sub [1, 2, 3, 0] rfl ((j_X2_readRule_B100 hL18 hL135 hL151) r0 v1 v2 t0 0 z)
theorem j_X2_readRule_B65 {l : Launch} {Γ : Am} {k18 : Nat → Int32 → Hp → Option (Unit × Hp)} {k135 : Nat → Hp → Option (Unit × Hp)} {k151 : Nat → Hp → Option (Unit × Hp)} (hL18 : ∀ (r0 : Nat) (v1 : Int32) (z : Hp), J l Γ mi_X2_readRule cvV 0 0 18 [(0, .ref (mB Γ + r0)), (1, .int v1)] [] z (k18 r0 v1 z)) (hL135 : ∀ (r0 : Nat) (z : Hp), J l Γ mi_X2_readRule cvV 0 0 135 [(0, .ref (mB Γ + r0))] [] z (k135 r0 z)) (hL151 : ∀ (r0 : Nat) (z : Hp), J l Γ mi_X2_readRule cvV 0 0 151 [(0, .ref (mB Γ + r0))] [] z (k151 r0 z)) : ∀ (r0 : Nat) (v1 : Int32) (v2 : Int32) (z : Hp), J l Γ mi_X2_readRule cvV 0 0 65 [(0, .ref (mB Γ + r0)), (1, .int v1), (2, .int v2)] [] z (m_X2_readRule_B65 k18 k135 k151 r0 v1 v2 z) := by
  intro r0 v1 v2 z
  unfold m_X2_readRule_B65
  refine j_aload_n (pc := 65) 0 dX2_readRule_65 rfl rfl ?_
  refine j_getR (pc := 66) ok_X2 (by decide) rfl w_411 dX2_readRule_66 (fun a20 => ?_)
  refine j_isC (fun h22 => ?_)
  refine j_callV_V (pc := 69) (as := []) (mc2 := 0) (ms2 := 0) (ct_X4_advance _ _) h22 rfl cw_X2_readRule_154 dX2_readRule_69 (Nat.le_of_ble_eq_true rfl) rfl (by decide) (by decide) (fun _ z21 => ?_)
  refine j_iload_n (pc := 72) 2 dX2_readRule_72 rfl rfl ?_
  refine j_if_ne (pc := 73) 80 dX2_readRule_73 (by decide) ?_ ?_
  · refine j_aload_n (pc := 80) 0 dX2_readRule_80 rfl rfl ?_
    refine j_isC (fun h25 => ?_)
    refine j_callV_I (pc := 81) (as := []) (mc2 := 0) (ms2 := 0) (ct_X2_comparison _ _) h25 rfl cw_X2_readRule_230 dX2_readRule_81 (Nat.le_of_ble_eq_true rfl) rfl (by decide) (by decide) (fun x24 z23 => ?_)
    exact J.sub [0, 1, 2] rfl ((j_X2_readRule_B84 hL18 hL135 hL151) r0 v1 v2 x24 z23)
  refine j_iconst (pc := 76) (v := 0) dX2_readRule_76 (by decide) ?_
  refine j_goto (pc := 77) 84 dX2_readRule_77 (by decide) ?_
  exact J.sub [0, 1, 2] rfl ((j_X2_readRule_B84 hL18 hL135 hL151) r0 v1 v2 0 z21)
theorem j_X2_readRule_L18 {l : Launch} {Γ : Am} {k135 : Nat → Hp → Option (Unit × Hp)} {k151 : Nat → Hp → Option (Unit × Hp)} (hL135 : ∀ (r0 : Nat) (z : Hp), J l Γ mi_X2_readRule cvV 0 0 135 [(0, .ref (mB Γ + r0))] [] z (k135 r0 z)) (hL151 : ∀ (r0 : Nat) (z : Hp), J l Γ mi_X2_readRule cvV 0 0 151 [(0, .ref (mB Γ + r0))] [] z (k151 r0 z)) : ∀ (f : Nat), ∀ (r0 : Nat) (v1 : Int32) (z : Hp), J l Γ mi_X2_readRule cvV 0 0 18 [(0, .ref (mB Γ + r0)), (1, .int v1)] [] z (m_X2_readRule_L18 k135 k151 f r0 v1 z) := by
  intro f
  induction f with
  | zero => intro r0 v1 z; exact J.none
  | succ f hL18 =>
    intro r0 v1 z
    rw [m_X2_readRule_L18]
    refine j_iload_n (pc := 18) 1 dX2_readRule_18 rfl rfl ?_
    refine j_iconst (pc := 19) (v := 3) dX2_readRule_19 (by decide) ?_
    refine j_icmp_gt (pc := 20) 151 dX2_readRule_20 (by decide) ?_ ?_
    · exact J.sub [0] rfl (hL151 r0 z)
    refine j_aload_n (pc := 23) 0 dX2_readRule_23 rfl rfl ?_
    refine j_isC (fun h28 => ?_)
    refine j_callV_I (pc := 24) (as := []) (mc2 := 0) (ms2 := 0) (ct_X2_condWord _ _) h28 rfl cw_X2_readRule_226 dX2_readRule_24 (Nat.le_of_ble_eq_true rfl) rfl (by decide) (by decide) (fun x27 z26 => ?_)
    refine j_istore_n (pc := 27) (lv2 := [(2, .int x27), (0, .ref (mB Γ + r0)), (1, .int v1)]) dX2_readRule_27 rfl (by decide) rfl ?_
    refine j_iload_n (pc := 28) 0 dX2_readRule_28 rfl rfl ?_
    refine j_iconst (pc := 29) (v := (-1)) dX2_readRule_29 (by decide) ?_
    refine j_icmp_ne (pc := 30) 48 dX2_readRule_30 (by decide) ?_ ?_
    · refine j_iload_n (pc := 48) 2 dX2_readRule_48 rfl rfl ?_
      refine j_iconst (pc := 49) (v := 3) dX2_readRule_49 (by decide) ?_
      refine j_icmp_ne (pc := 50) 65 dX2_readRule_50 (by decide) ?_ ?_
      · exact J.sub [1, 2, 0] rfl ((j_X2_readRule_B65 hL18 hL135 hL151) r0 v1 x27 z26)
      refine j_aload_n (pc := 53) 1 dX2_readRule_53 rfl rfl ?_
      refine j_iconst (pc := 54) (v := 3) dX2_readRule_54 (by decide) ?_
      refine j_aload_n (pc := 55) 1 dX2_readRule_55 rfl rfl ?_
      refine j_getR (pc := 56) ok_X2 (by decide) rfl w_411 dX2_readRule_56 (fun a29 => ?_)
      refine j_getI (pc := 59) ok_X4 (by decide) rfl w_389 dX2_readRule_59 (fun x30 => ?_)
      refine j_isC (fun h32 => ?_)
      refine j_callV_V (pc := 62) (as := [.int 3, .int x30]) (mc2 := 0) (ms2 := 0) (ct_X2_fail _ _ _ _) h32 rfl cw_X2_readRule_146 dX2_readRule_62 (Nat.le_of_ble_eq_true rfl) rfl (by decide) (by decide) (fun _ z31 => ?_)
      exact J.sub [1, 2, 0] rfl ((j_X2_readRule_B65 hL18 hL135 hL151) r0 v1 x27 z31)
    refine j_aload_n (pc := 33) 1 dX2_readRule_33 rfl rfl ?_
    refine j_iconst (pc := 34) (v := 1) dX2_readRule_34 (by decide) ?_
    refine j_aload_n (pc := 35) 1 dX2_readRule_35 rfl rfl ?_
    refine j_getR (pc := 36) ok_X2 (by decide) rfl w_411 dX2_readRule_36 (fun a33 => ?_)
    refine j_getI (pc := 39) ok_X4 (by decide) rfl w_389 dX2_readRule_39 (fun x34 => ?_)
    refine j_isC (fun h36 => ?_)
    refine j_callV_V (pc := 42) (as := [.int 1, .int x34]) (mc2 := 0) (ms2 := 0) (ct_X2_fail _ _ _ _) h36 rfl cw_X2_readRule_146 dX2_readRule_42 (Nat.le_of_ble_eq_true rfl) rfl (by decide) (by decide) (fun _ z35 => ?_)
    refine j_goto (pc := 45) 65 dX2_readRule_45 (by decide) ?_
    exact J.sub [1, 2, 0] rfl ((j_X2_readRule_B65 hL18 hL135 hL151) r0 v1 x27 z35)
theorem ct_X2_readRule {l : Launch} {Γ : Am} (r0 : Nat) (z : Hp) : Ct l Γ yX2_readRule mi_X2_readRule cvV [.ref (mB Γ + r0)] z (m_X2_readRule r0 z) := by
  refine Ct.ofJ (by decide) ⟨rfl, rfl⟩ (Nat.le_of_ble_eq_true rfl) ?_
  unfold m_X2_readRule
  show J l Γ mi_X2_readRule cvV 0 0 0 [(0, .ref (mB Γ + r0))] [] z _
  refine j_aload_n (pc := 0) 0 dX2_readRule_0 rfl rfl ?_
  refine j_ldcS (pc := 1) (w := 17) (tx := "if") dX2_readRule_1 (by decide +kernel) ?_
  refine j_isC (fun h38 => ?_)
  refine j_callV_V (pc := 3) (as := [.ref (mT Γ 17)]) (mc2 := 0) (ms2 := 0) (ct_X2_needWord _ _ _) h38 rfl cw_X2_readRule_163 dX2_readRule_3 (Nat.le_of_ble_eq_true rfl) rfl (by decide) (by decide) (fun _ z37 => ?_)
  refine j_aload_n (pc := 6) 0 dX2_readRule_6 rfl rfl ?_
  refine j_getR (pc := 7) ok_X2 (by decide) rfl w_413 dX2_readRule_7 (fun a39 => ?_)
  refine j_getR (pc := 10) ok_X8 (by decide) rfl w_301 dX2_readRule_10 (fun a40 => ?_)
  refine j_isC (fun h42 => ?_)
  refine j_callV_V (pc := 13) (as := []) (mc2 := 0) (ms2 := 0) (ct_X5_openRule _ _) h42 rfl cw_X2_readRule_223 dX2_readRule_13 (Nat.le_of_ble_eq_true rfl) rfl (by decide) (by decide) (fun _ z41 => ?_)
  refine j_iconst (pc := 16) (v := 0) dX2_readRule_16 (by decide) ?_
  refine j_istore_n (pc := 17) (lv2 := [(1, .int 0), (0, .ref (mB Γ + r0))]) dX2_readRule_17 rfl (by decide) rfl ?_
  exact J.sub [1, 0] rfl ((j_X2_readRule_L18 j_X2_readRule_B135 j_X2_readRule_B151 FU) r0 0 z41)
theorem dX2_needSign_0 : decode cX2_needSign 0 = .ok (.aload_n 0, 1) := by decide +kernel
theorem dX2_needSign_1 : decode cX2_needSign 1 = .ok (.getfield 31, 3) := by decide +kernel
theorem dX2_needSign_4 : decode cX2_needSign 4 = .ok (.iload_n 1, 1) := by decide +kernel
theorem dX2_needSign_5 : decode cX2_needSign 5 = .ok (.invokevirtual 254, 3) := by decide +kernel
theorem dX2_needSign_8 : decode cX2_needSign 8 = .ok (.ifCond .ne 15, 3) := by decide +kernel
theorem dX2_needSign_11 : decode cX2_needSign 11 = .ok (.aload_n 0, 1) := by decide +kernel
theorem dX2_needSign_12 : decode cX2_needSign 12 = .ok (.iconst 1, 1) := by decide +kernel
theorem dX2_needSign_13 : decode cX2_needSign 13 = .ok (.aload_n 0, 1) := by decide +kernel
theorem dX2_needSign_14 : decode cX2_needSign 14 = .ok (.getfield 31, 3) := by decide +kernel
theorem dX2_needSign_17 : decode cX2_needSign 17 = .ok (.getfield 143, 3) := by decide +kernel
theorem dX2_needSign_20 : decode cX2_needSign 20 = .ok (.invokevirtual 146, 3) := by decide +kernel
theorem dX2_needSign_23 : decode cX2_needSign 23 = .ok (.aload_n 0, 1) := by decide +kernel
theorem dX2_needSign_24 : decode cX2_needSign 24 = .ok (.getfield 31, 3) := by decide +kernel
theorem dX2_needSign_27 : decode cX2_needSign 27 = .ok (.invokevirtual 154, 3) := by decide +kernel
theorem dX2_needSign_30 : decode cX2_needSign 30 = .ok (.return_, 1) := by decide +kernel
theorem cw_X2_needSign_154 : CwV mi_X2_needSign mi_X4_advance yX4_advance RX4 154 0 := ⟨⟨w_671, w_596, w_597, w_102, w_598⟩, ⟨by decide, by decide⟩, by decide +kernel, by decide, by decide⟩
theorem cw_X2_needSign_254 : CwV mi_X2_needSign mi_X4_isSign yX4_isSign RX4 254 1 := ⟨⟨w_680, w_681, w_682, w_102, w_683⟩, ⟨by decide, by decide⟩, by decide +kernel, by decide, by decide⟩
theorem cw_X2_needSign_146 : CwV mi_X2_needSign mi_X2_fail yX2_fail RX2 146 2 := ⟨⟨w_667, w_669, w_2, w_103, w_670⟩, ⟨by decide, by decide⟩, by decide +kernel, by decide, by decide⟩
theorem j_X2_needSign_B23 {l : Launch} {Γ : Am}   : ∀ (r0 : Nat) (z : Hp), J l Γ mi_X2_needSign cvV 0 0 23 [(0, .ref (mB Γ + r0))] [] z (m_X2_needSign_B23  r0 z) := by
  intro r0 z
  unfold m_X2_needSign_B23
  refine j_aload_n (pc := 23) 0 dX2_needSign_23 rfl rfl ?_
  refine j_getR (pc := 24) ok_X2 (by decide) rfl w_411 dX2_needSign_24 (fun a1 => ?_)
  refine j_isC (fun h3 => ?_)
  refine j_callV_V (pc := 27) (as := []) (mc2 := 0) (ms2 := 0) (ct_X4_advance _ _) h3 rfl cw_X2_needSign_154 dX2_needSign_27 (Nat.le_of_ble_eq_true rfl) rfl (by decide) (by decide) (fun _ z2 => ?_)
  exact j_return (pc := 30) dX2_needSign_30 rfl
theorem ct_X2_needSign {l : Launch} {Γ : Am} (r0 : Nat) (v1 : Int32) (z : Hp) : Ct l Γ yX2_needSign mi_X2_needSign cvV [.ref (mB Γ + r0), .int v1] z (m_X2_needSign r0 v1 z) := by
  refine Ct.ofJ (by decide) ⟨rfl, rfl⟩ (Nat.le_of_ble_eq_true rfl) ?_
  unfold m_X2_needSign
  show J l Γ mi_X2_needSign cvV 0 0 0 [(0, .ref (mB Γ + r0)), (1, .int v1)] [] z _
  refine j_aload_n (pc := 0) 0 dX2_needSign_0 rfl rfl ?_
  refine j_getR (pc := 1) ok_X2 (by decide) rfl w_411 dX2_needSign_1 (fun a4 => ?_)
  refine j_iload_n (pc := 4) 1 dX2_needSign_4 rfl rfl ?_
  refine j_isC (fun h7 => ?_)
  refine j_callV_I (pc := 5) (as := [.int v1]) (mc2 := 0) (ms2 := 0) (ct_X4_isSign _ _ _) h7 rfl cw_X2_needSign_254 dX2_needSign_5 (Nat.le_of_ble_eq_true rfl) rfl (by decide) (by decide) (fun x6 z5 => ?_)
  refine j_if_ne (pc := 8) 23 dX2_needSign_8 (by decide) ?_ ?_
  · exact J.sub [0] rfl (j_X2_needSign_B23 r0 z5)
  refine j_aload_n (pc := 11) 0 dX2_needSign_11 rfl rfl ?_
  refine j_iconst (pc := 12) (v := 1) dX2_needSign_12 (by decide) ?_
  refine j_aload_n (pc := 13) 0 dX2_needSign_13 rfl rfl ?_
  refine j_getR (pc := 14) ok_X2 (by decide) rfl w_411 dX2_needSign_14 (fun a8 => ?_)
  refine j_getI (pc := 17) ok_X4 (by decide) rfl w_389 dX2_needSign_17 (fun x9 => ?_)
  refine j_isC (fun h11 => ?_)
  refine j_callV_V (pc := 20) (as := [.int 1, .int x9]) (mc2 := 0) (ms2 := 0) (ct_X2_fail _ _ _ _) h11 rfl cw_X2_needSign_146 dX2_needSign_20 (Nat.le_of_ble_eq_true rfl) rfl (by decide) (by decide) (fun _ z10 => ?_)
  exact J.sub [0] rfl (j_X2_needSign_B23 r0 z10)
theorem dX2_readLine_0 : decode cX2_readLine 0 = .ok (.aload_n 0, 1) := by decide +kernel
theorem dX2_readLine_1 : decode cX2_readLine 1 = .ok (.getfield 35, 3) := by decide +kernel
theorem dX2_readLine_4 : decode cX2_readLine 4 = .ok (.getfield 61, 3) := by decide +kernel
theorem dX2_readLine_7 : decode cX2_readLine 7 = .ok (.bipush 40, 2) := by decide +kernel
theorem dX2_readLine_9 : decode cX2_readLine 9 = .ok (.if_icmp .ge 7, 3) := by decide +kernel
theorem dX2_readLine_12 : decode cX2_readLine 12 = .ok (.iconst 1, 1) := by decide +kernel
theorem dX2_readLine_13 : decode cX2_readLine 13 = .ok (.goto 4, 3) := by decide +kernel
theorem dX2_readLine_16 : decode cX2_readLine 16 = .ok (.iconst 0, 1) := by decide +kernel
theorem dX2_readLine_17 : decode cX2_readLine 17 = .ok (.istore_n 1, 1) := by decide +kernel
theorem dX2_readLine_18 : decode cX2_readLine 18 = .ok (.aload_n 0, 1) := by decide +kernel
theorem dX2_readLine_19 : decode cX2_readLine 19 = .ok (.getfield 31, 3) := by decide +kernel
theorem dX2_readLine_22 : decode cX2_readLine 22 = .ok (.ldc 64, 2) := by decide +kernel
theorem dX2_readLine_24 : decode cX2_readLine 24 = .ok (.invokevirtual 66, 3) := by decide +kernel
theorem dX2_readLine_27 : decode cX2_readLine 27 = .ok (.ifCond .eq 15, 3) := by decide +kernel
theorem dX2_readLine_30 : decode cX2_readLine 30 = .ok (.aload_n 0, 1) := by decide +kernel
theorem dX2_readLine_31 : decode cX2_readLine 31 = .ok (.iload_n 1, 1) := by decide +kernel
theorem dX2_readLine_32 : decode cX2_readLine 32 = .ok (.invokevirtual 70, 3) := by decide +kernel
theorem dX2_readLine_35 : decode cX2_readLine 35 = .ok (.aload_n 0, 1) := by decide +kernel
theorem dX2_readLine_36 : decode cX2_readLine 36 = .ok (.invokevirtual 74, 3) := by decide +kernel
theorem dX2_readLine_39 : decode cX2_readLine 39 = .ok (.goto 323, 3) := by decide +kernel
theorem dX2_readLine_42 : decode cX2_readLine 42 = .ok (.aload_n 0, 1) := by decide +kernel
theorem dX2_readLine_43 : decode cX2_readLine 43 = .ok (.getfield 31, 3) := by decide +kernel
theorem dX2_readLine_46 : decode cX2_readLine 46 = .ok (.ldc 77, 2) := by decide +kernel
theorem dX2_readLine_48 : decode cX2_readLine 48 = .ok (.invokevirtual 66, 3) := by decide +kernel
theorem dX2_readLine_51 : decode cX2_readLine 51 = .ok (.ifCond .eq 15, 3) := by decide +kernel
theorem dX2_readLine_54 : decode cX2_readLine 54 = .ok (.aload_n 0, 1) := by decide +kernel
theorem dX2_readLine_55 : decode cX2_readLine 55 = .ok (.iload_n 1, 1) := by decide +kernel
theorem dX2_readLine_56 : decode cX2_readLine 56 = .ok (.invokevirtual 70, 3) := by decide +kernel
theorem dX2_readLine_59 : decode cX2_readLine 59 = .ok (.aload_n 0, 1) := by decide +kernel
theorem dX2_readLine_60 : decode cX2_readLine 60 = .ok (.invokevirtual 79, 3) := by decide +kernel
theorem dX2_readLine_63 : decode cX2_readLine 63 = .ok (.goto 299, 3) := by decide +kernel
theorem dX2_readLine_66 : decode cX2_readLine 66 = .ok (.aload_n 0, 1) := by decide +kernel
theorem dX2_readLine_67 : decode cX2_readLine 67 = .ok (.getfield 31, 3) := by decide +kernel
theorem dX2_readLine_70 : decode cX2_readLine 70 = .ok (.ldc 82, 2) := by decide +kernel
theorem dX2_readLine_72 : decode cX2_readLine 72 = .ok (.invokevirtual 66, 3) := by decide +kernel
theorem dX2_readLine_75 : decode cX2_readLine 75 = .ok (.ifCond .eq 15, 3) := by decide +kernel
theorem dX2_readLine_78 : decode cX2_readLine 78 = .ok (.aload_n 0, 1) := by decide +kernel
theorem dX2_readLine_79 : decode cX2_readLine 79 = .ok (.iload_n 1, 1) := by decide +kernel
theorem dX2_readLine_80 : decode cX2_readLine 80 = .ok (.invokevirtual 70, 3) := by decide +kernel
theorem dX2_readLine_83 : decode cX2_readLine 83 = .ok (.aload_n 0, 1) := by decide +kernel
theorem dX2_readLine_84 : decode cX2_readLine 84 = .ok (.invokevirtual 84, 3) := by decide +kernel
theorem dX2_readLine_87 : decode cX2_readLine 87 = .ok (.goto 275, 3) := by decide +kernel
theorem dX2_readLine_90 : decode cX2_readLine 90 = .ok (.aload_n 0, 1) := by decide +kernel
theorem dX2_readLine_91 : decode cX2_readLine 91 = .ok (.getfield 31, 3) := by decide +kernel
theorem dX2_readLine_94 : decode cX2_readLine 94 = .ok (.ldc 87, 2) := by decide +kernel
theorem dX2_readLine_96 : decode cX2_readLine 96 = .ok (.invokevirtual 66, 3) := by decide +kernel
theorem dX2_readLine_99 : decode cX2_readLine 99 = .ok (.ifCond .eq 30, 3) := by decide +kernel
theorem dX2_readLine_102 : decode cX2_readLine 102 = .ok (.aload_n 0, 1) := by decide +kernel
theorem dX2_readLine_103 : decode cX2_readLine 103 = .ok (.iload_n 1, 1) := by decide +kernel
theorem dX2_readLine_104 : decode cX2_readLine 104 = .ok (.ifCond .eq 14, 3) := by decide +kernel
theorem dX2_readLine_107 : decode cX2_readLine 107 = .ok (.aload_n 0, 1) := by decide +kernel
theorem dX2_readLine_108 : decode cX2_readLine 108 = .ok (.getfield 15, 3) := by decide +kernel
theorem dX2_readLine_111 : decode cX2_readLine 111 = .ok (.ifCond .ne 7, 3) := by decide +kernel
theorem dX2_readLine_114 : decode cX2_readLine 114 = .ok (.iconst 1, 1) := by decide +kernel
theorem dX2_readLine_115 : decode cX2_readLine 115 = .ok (.goto 4, 3) := by decide +kernel
theorem dX2_readLine_118 : decode cX2_readLine 118 = .ok (.iconst 0, 1) := by decide +kernel
theorem dX2_readLine_119 : decode cX2_readLine 119 = .ok (.invokevirtual 70, 3) := by decide +kernel
theorem dX2_readLine_122 : decode cX2_readLine 122 = .ok (.aload_n 0, 1) := by decide +kernel
theorem dX2_readLine_123 : decode cX2_readLine 123 = .ok (.invokevirtual 89, 3) := by decide +kernel
theorem dX2_readLine_126 : decode cX2_readLine 126 = .ok (.goto 236, 3) := by decide +kernel
theorem dX2_readLine_129 : decode cX2_readLine 129 = .ok (.aload_n 0, 1) := by decide +kernel
theorem dX2_readLine_130 : decode cX2_readLine 130 = .ok (.getfield 31, 3) := by decide +kernel
theorem dX2_readLine_133 : decode cX2_readLine 133 = .ok (.ldc 92, 2) := by decide +kernel
theorem dX2_readLine_135 : decode cX2_readLine 135 = .ok (.invokevirtual 66, 3) := by decide +kernel
theorem dX2_readLine_138 : decode cX2_readLine 138 = .ok (.ifCond .eq 33, 3) := by decide +kernel
theorem dX2_readLine_141 : decode cX2_readLine 141 = .ok (.aload_n 0, 1) := by decide +kernel
theorem dX2_readLine_142 : decode cX2_readLine 142 = .ok (.iload_n 1, 1) := by decide +kernel
theorem dX2_readLine_143 : decode cX2_readLine 143 = .ok (.ifCond .eq 17, 3) := by decide +kernel
theorem dX2_readLine_146 : decode cX2_readLine 146 = .ok (.aload_n 0, 1) := by decide +kernel
theorem dX2_readLine_147 : decode cX2_readLine 147 = .ok (.getfield 35, 3) := by decide +kernel
theorem dX2_readLine_150 : decode cX2_readLine 150 = .ok (.getfield 94, 3) := by decide +kernel
theorem dX2_readLine_153 : decode cX2_readLine 153 = .ok (.ifCond .ne 7, 3) := by decide +kernel
theorem dX2_readLine_156 : decode cX2_readLine 156 = .ok (.iconst 1, 1) := by decide +kernel
theorem dX2_readLine_157 : decode cX2_readLine 157 = .ok (.goto 4, 3) := by decide +kernel
theorem dX2_readLine_160 : decode cX2_readLine 160 = .ok (.iconst 0, 1) := by decide +kernel
theorem dX2_readLine_161 : decode cX2_readLine 161 = .ok (.invokevirtual 70, 3) := by decide +kernel
theorem dX2_readLine_164 : decode cX2_readLine 164 = .ok (.aload_n 0, 1) := by decide +kernel
theorem dX2_readLine_165 : decode cX2_readLine 165 = .ok (.invokevirtual 97, 3) := by decide +kernel
theorem dX2_readLine_168 : decode cX2_readLine 168 = .ok (.goto 194, 3) := by decide +kernel
theorem dX2_readLine_171 : decode cX2_readLine 171 = .ok (.aload_n 0, 1) := by decide +kernel
theorem dX2_readLine_172 : decode cX2_readLine 172 = .ok (.getfield 31, 3) := by decide +kernel
theorem dX2_readLine_175 : decode cX2_readLine 175 = .ok (.ldc 100, 2) := by decide +kernel
theorem dX2_readLine_177 : decode cX2_readLine 177 = .ok (.invokevirtual 66, 3) := by decide +kernel
theorem dX2_readLine_180 : decode cX2_readLine 180 = .ok (.ifCond .eq 38, 3) := by decide +kernel
theorem dX2_readLine_183 : decode cX2_readLine 183 = .ok (.aload_n 0, 1) := by decide +kernel
theorem dX2_readLine_184 : decode cX2_readLine 184 = .ok (.iload_n 1, 1) := by decide +kernel
theorem dX2_readLine_185 : decode cX2_readLine 185 = .ok (.ifCond .eq 22, 3) := by decide +kernel
theorem dX2_readLine_188 : decode cX2_readLine 188 = .ok (.aload_n 0, 1) := by decide +kernel
theorem dX2_readLine_189 : decode cX2_readLine 189 = .ok (.getfield 35, 3) := by decide +kernel
theorem dX2_readLine_192 : decode cX2_readLine 192 = .ok (.getfield 102, 3) := by decide +kernel
theorem dX2_readLine_195 : decode cX2_readLine 195 = .ok (.getfield 106, 3) := by decide +kernel
theorem dX2_readLine_198 : decode cX2_readLine 198 = .ok (.bipush 12, 2) := by decide +kernel
theorem dX2_readLine_200 : decode cX2_readLine 200 = .ok (.if_icmp .ge 7, 3) := by decide +kernel
theorem dX2_readLine_203 : decode cX2_readLine 203 = .ok (.iconst 1, 1) := by decide +kernel
theorem dX2_readLine_204 : decode cX2_readLine 204 = .ok (.goto 4, 3) := by decide +kernel
theorem dX2_readLine_207 : decode cX2_readLine 207 = .ok (.iconst 0, 1) := by decide +kernel
theorem dX2_readLine_208 : decode cX2_readLine 208 = .ok (.invokevirtual 70, 3) := by decide +kernel
theorem dX2_readLine_211 : decode cX2_readLine 211 = .ok (.aload_n 0, 1) := by decide +kernel
theorem dX2_readLine_212 : decode cX2_readLine 212 = .ok (.invokevirtual 111, 3) := by decide +kernel
theorem dX2_readLine_215 : decode cX2_readLine 215 = .ok (.goto 147, 3) := by decide +kernel
theorem dX2_readLine_218 : decode cX2_readLine 218 = .ok (.aload_n 0, 1) := by decide +kernel
theorem dX2_readLine_219 : decode cX2_readLine 219 = .ok (.getfield 31, 3) := by decide +kernel
theorem dX2_readLine_222 : decode cX2_readLine 222 = .ok (.ldc 114, 2) := by decide +kernel
theorem dX2_readLine_224 : decode cX2_readLine 224 = .ok (.invokevirtual 66, 3) := by decide +kernel
theorem dX2_readLine_227 : decode cX2_readLine 227 = .ok (.ifCond .eq 30, 3) := by decide +kernel
theorem dX2_readLine_230 : decode cX2_readLine 230 = .ok (.aload_n 0, 1) := by decide +kernel
theorem dX2_readLine_231 : decode cX2_readLine 231 = .ok (.iload_n 1, 1) := by decide +kernel
theorem dX2_readLine_232 : decode cX2_readLine 232 = .ok (.ifCond .eq 14, 3) := by decide +kernel
theorem dX2_readLine_235 : decode cX2_readLine 235 = .ok (.aload_n 0, 1) := by decide +kernel
theorem dX2_readLine_236 : decode cX2_readLine 236 = .ok (.getfield 19, 3) := by decide +kernel
theorem dX2_readLine_239 : decode cX2_readLine 239 = .ok (.ifCond .ne 7, 3) := by decide +kernel
theorem dX2_readLine_242 : decode cX2_readLine 242 = .ok (.iconst 1, 1) := by decide +kernel
theorem dX2_readLine_243 : decode cX2_readLine 243 = .ok (.goto 4, 3) := by decide +kernel
theorem dX2_readLine_246 : decode cX2_readLine 246 = .ok (.iconst 0, 1) := by decide +kernel
theorem dX2_readLine_247 : decode cX2_readLine 247 = .ok (.invokevirtual 70, 3) := by decide +kernel
theorem dX2_readLine_250 : decode cX2_readLine 250 = .ok (.aload_n 0, 1) := by decide +kernel
theorem dX2_readLine_251 : decode cX2_readLine 251 = .ok (.invokevirtual 116, 3) := by decide +kernel
theorem dX2_readLine_254 : decode cX2_readLine 254 = .ok (.goto 108, 3) := by decide +kernel
theorem dX2_readLine_257 : decode cX2_readLine 257 = .ok (.aload_n 0, 1) := by decide +kernel
theorem dX2_readLine_258 : decode cX2_readLine 258 = .ok (.getfield 31, 3) := by decide +kernel
theorem dX2_readLine_261 : decode cX2_readLine 261 = .ok (.ldc 119, 2) := by decide +kernel
theorem dX2_readLine_263 : decode cX2_readLine 263 = .ok (.invokevirtual 66, 3) := by decide +kernel
theorem dX2_readLine_266 : decode cX2_readLine 266 = .ok (.ifCond .eq 38, 3) := by decide +kernel
theorem dX2_readLine_269 : decode cX2_readLine 269 = .ok (.aload_n 0, 1) := by decide +kernel
theorem dX2_readLine_270 : decode cX2_readLine 270 = .ok (.iload_n 1, 1) := by decide +kernel
theorem dX2_readLine_271 : decode cX2_readLine 271 = .ok (.ifCond .eq 22, 3) := by decide +kernel
theorem dX2_readLine_274 : decode cX2_readLine 274 = .ok (.aload_n 0, 1) := by decide +kernel
theorem dX2_readLine_275 : decode cX2_readLine 275 = .ok (.getfield 35, 3) := by decide +kernel
theorem dX2_readLine_278 : decode cX2_readLine 278 = .ok (.getfield 121, 3) := by decide +kernel
theorem dX2_readLine_281 : decode cX2_readLine 281 = .ok (.getfield 125, 3) := by decide +kernel
theorem dX2_readLine_284 : decode cX2_readLine 284 = .ok (.bipush 6, 2) := by decide +kernel
theorem dX2_readLine_286 : decode cX2_readLine 286 = .ok (.if_icmp .ge 7, 3) := by decide +kernel
theorem dX2_readLine_289 : decode cX2_readLine 289 = .ok (.iconst 1, 1) := by decide +kernel
theorem dX2_readLine_290 : decode cX2_readLine 290 = .ok (.goto 4, 3) := by decide +kernel
theorem dX2_readLine_293 : decode cX2_readLine 293 = .ok (.iconst 0, 1) := by decide +kernel
theorem dX2_readLine_294 : decode cX2_readLine 294 = .ok (.invokevirtual 70, 3) := by decide +kernel
theorem dX2_readLine_297 : decode cX2_readLine 297 = .ok (.aload_n 0, 1) := by decide +kernel
theorem dX2_readLine_298 : decode cX2_readLine 298 = .ok (.invokevirtual 128, 3) := by decide +kernel
theorem dX2_readLine_301 : decode cX2_readLine 301 = .ok (.goto 61, 3) := by decide +kernel
theorem dX2_readLine_304 : decode cX2_readLine 304 = .ok (.aload_n 0, 1) := by decide +kernel
theorem dX2_readLine_305 : decode cX2_readLine 305 = .ok (.getfield 31, 3) := by decide +kernel
theorem dX2_readLine_308 : decode cX2_readLine 308 = .ok (.ldc 131, 2) := by decide +kernel
theorem dX2_readLine_310 : decode cX2_readLine 310 = .ok (.invokevirtual 66, 3) := by decide +kernel
theorem dX2_readLine_313 : decode cX2_readLine 313 = .ok (.ifCond .eq 37, 3) := by decide +kernel
theorem dX2_readLine_316 : decode cX2_readLine 316 = .ok (.aload_n 0, 1) := by decide +kernel
theorem dX2_readLine_317 : decode cX2_readLine 317 = .ok (.iload_n 1, 1) := by decide +kernel
theorem dX2_readLine_318 : decode cX2_readLine 318 = .ok (.ifCond .eq 21, 3) := by decide +kernel
theorem dX2_readLine_321 : decode cX2_readLine 321 = .ok (.aload_n 0, 1) := by decide +kernel
theorem dX2_readLine_322 : decode cX2_readLine 322 = .ok (.getfield 35, 3) := by decide +kernel
theorem dX2_readLine_325 : decode cX2_readLine 325 = .ok (.getfield 133, 3) := by decide +kernel
theorem dX2_readLine_328 : decode cX2_readLine 328 = .ok (.getfield 137, 3) := by decide +kernel
theorem dX2_readLine_331 : decode cX2_readLine 331 = .ok (.iconst 4, 1) := by decide +kernel
theorem dX2_readLine_332 : decode cX2_readLine 332 = .ok (.if_icmp .ge 7, 3) := by decide +kernel
theorem dX2_readLine_335 : decode cX2_readLine 335 = .ok (.iconst 1, 1) := by decide +kernel
theorem dX2_readLine_336 : decode cX2_readLine 336 = .ok (.goto 4, 3) := by decide +kernel
theorem dX2_readLine_339 : decode cX2_readLine 339 = .ok (.iconst 0, 1) := by decide +kernel
theorem dX2_readLine_340 : decode cX2_readLine 340 = .ok (.invokevirtual 70, 3) := by decide +kernel
theorem dX2_readLine_343 : decode cX2_readLine 343 = .ok (.aload_n 0, 1) := by decide +kernel
theorem dX2_readLine_344 : decode cX2_readLine 344 = .ok (.invokevirtual 140, 3) := by decide +kernel
theorem dX2_readLine_347 : decode cX2_readLine 347 = .ok (.goto 15, 3) := by decide +kernel
theorem dX2_readLine_350 : decode cX2_readLine 350 = .ok (.aload_n 0, 1) := by decide +kernel
theorem dX2_readLine_351 : decode cX2_readLine 351 = .ok (.iconst 1, 1) := by decide +kernel
theorem dX2_readLine_352 : decode cX2_readLine 352 = .ok (.aload_n 0, 1) := by decide +kernel
theorem dX2_readLine_353 : decode cX2_readLine 353 = .ok (.getfield 31, 3) := by decide +kernel
theorem dX2_readLine_356 : decode cX2_readLine 356 = .ok (.getfield 143, 3) := by decide +kernel
theorem dX2_readLine_359 : decode cX2_readLine 359 = .ok (.invokevirtual 146, 3) := by decide +kernel
theorem dX2_readLine_362 : decode cX2_readLine 362 = .ok (.aload_n 0, 1) := by decide +kernel
theorem dX2_readLine_363 : decode cX2_readLine 363 = .ok (.bipush 59, 2) := by decide +kernel
theorem dX2_readLine_365 : decode cX2_readLine 365 = .ok (.invokevirtual 150, 3) := by decide +kernel
theorem dX2_readLine_368 : decode cX2_readLine 368 = .ok (.aload_n 0, 1) := by decide +kernel
theorem dX2_readLine_369 : decode cX2_readLine 369 = .ok (.getfield 35, 3) := by decide +kernel
theorem dX2_readLine_372 : decode cX2_readLine 372 = .ok (.dup, 1) := by decide +kernel
theorem dX2_readLine_373 : decode cX2_readLine 373 = .ok (.getfield 61, 3) := by decide +kernel
theorem dX2_readLine_376 : decode cX2_readLine 376 = .ok (.iconst 1, 1) := by decide +kernel
theorem dX2_readLine_377 : decode cX2_readLine 377 = .ok (.iadd, 1) := by decide +kernel
theorem dX2_readLine_378 : decode cX2_readLine 378 = .ok (.putfield 61, 3) := by decide +kernel
theorem dX2_readLine_381 : decode cX2_readLine 381 = .ok (.return_, 1) := by decide +kernel
theorem cw_X2_readLine_150 : CwV mi_X2_readLine mi_X2_needSign yX2_needSign RX2 150 1 := ⟨⟨w_779, w_781, w_16, w_103, w_782⟩, ⟨by decide, by decide⟩, by decide +kernel, by decide, by decide⟩
theorem cw_X2_readLine_70 : CwV mi_X2_readLine mi_X2_openLine yX2_openLine RX2 70 1 := ⟨⟨w_663, w_665, w_1, w_103, w_666⟩, ⟨by decide, by decide⟩, by decide +kernel, by decide, by decide⟩
theorem cw_X2_readLine_140 : CwV mi_X2_readLine mi_X2_readRule yX2_readRule RX2 140 0 := ⟨⟨w_748, w_750, w_13, w_103, w_751⟩, ⟨by decide, by decide⟩, by decide +kernel, by decide, by decide⟩
theorem cw_X2_readLine_128 : CwV mi_X2_readLine mi_X2_readHouse yX2_readHouse RX2 128 0 := ⟨⟨w_738, w_740, w_12, w_103, w_741⟩, ⟨by decide, by decide⟩, by decide +kernel, by decide, by decide⟩
theorem cw_X2_readLine_116 : CwV mi_X2_readLine mi_X2_readCold yX2_readCold RX2 116 0 := ⟨⟨w_732, w_734, w_11, w_103, w_735⟩, ⟨by decide, by decide⟩, by decide +kernel, by decide, by decide⟩
theorem cw_X2_readLine_111 : CwV mi_X2_readLine mi_X2_readPipe yX2_readPipe RX2 111 0 := ⟨⟨w_718, w_720, w_10, w_103, w_721⟩, ⟨by decide, by decide⟩, by decide +kernel, by decide, by decide⟩
theorem cw_X2_readLine_97 : CwV mi_X2_readLine mi_X2_readShaft yX2_readShaft RX2 97 0 := ⟨⟨w_713, w_715, w_9, w_103, w_716⟩, ⟨by decide, by decide⟩, by decide +kernel, by decide, by decide⟩
theorem cw_X2_readLine_89 : CwV mi_X2_readLine mi_X2_readFar yX2_readFar RX2 89 0 := ⟨⟨w_708, w_710, w_8, w_103, w_711⟩, ⟨by decide, by decide⟩, by decide +kernel, by decide, by decide⟩
theorem cw_X2_readLine_66 : CwV mi_X2_readLine mi_X4_isWord yX4_isWord RX4 66 1 := ⟨⟨w_611, w_612, w_613, w_102, w_614⟩, ⟨by decide, by decide⟩, by decide +kernel, by decide, by decide⟩
theorem cw_X2_readLine_146 : CwV mi_X2_readLine mi_X2_fail yX2_fail RX2 146 2 := ⟨⟨w_667, w_669, w_2, w_103, w_670⟩, ⟨by decide, by decide⟩, by decide +kernel, by decide, by decide⟩
theorem cw_X2_readLine_84 : CwV mi_X2_readLine mi_X2_readStream yX2_readStream RX2 84 0 := ⟨⟨w_702, w_704, w_7, w_103, w_705⟩, ⟨by decide, by decide⟩, by decide +kernel, by decide, by decide⟩
theorem cw_X2_readLine_79 : CwV mi_X2_readLine mi_X2_readLay yX2_readLay RX2 79 0 := ⟨⟨w_693, w_695, w_6, w_103, w_696⟩, ⟨by decide, by decide⟩, by decide +kernel, by decide, by decide⟩
theorem cw_X2_readLine_74 : CwV mi_X2_readLine mi_X2_readGround yX2_readGround RX2 74 0 := ⟨⟨w_672, w_674, w_3, w_103, w_675⟩, ⟨by decide, by decide⟩, by decide +kernel, by decide, by decide⟩
theorem j_X2_readLine_B362 {l : Launch} {Γ : Am}   : ∀ (r0 : Nat) (z : Hp), J l Γ mi_X2_readLine cvV 0 0 362 [(0, .ref (mB Γ + r0))] [] z (m_X2_readLine_B362  r0 z) := by
  intro r0 z
  unfold m_X2_readLine_B362
  refine j_aload_n (pc := 362) 0 dX2_readLine_362 rfl rfl ?_
  refine j_bipush (pc := 363) (v := 59) dX2_readLine_363 (by decide) ?_
  refine j_isC (fun h2 => ?_)
  refine j_callV_V (pc := 365) (as := [.int 59]) (mc2 := 0) (ms2 := 0) (ct_X2_needSign _ _ _) h2 rfl cw_X2_readLine_150 dX2_readLine_365 (Nat.le_of_ble_eq_true rfl) rfl (by decide) (by decide) (fun _ z1 => ?_)
  refine j_aload_n (pc := 368) 0 dX2_readLine_368 rfl rfl ?_
  refine j_getR (pc := 369) ok_X2 (by decide) rfl w_413 dX2_readLine_369 (fun a3 => ?_)
  refine j_dup (pc := 372) dX2_readLine_372 rfl ?_
  refine j_getI (pc := 373) ok_X8 (by decide) rfl w_331 dX2_readLine_373 (fun x4 => ?_)
  refine j_iconst (pc := 376) (v := 1) dX2_readLine_376 (by decide) ?_
  refine j_iadd (pc := 377) dX2_readLine_377 ?_
  refine j_putI (pc := 378) ok_X8 (by decide) rfl w_331 (Or.inl rfl) rfl rfl dX2_readLine_378 (fun z5 => ?_)
  exact j_return (pc := 381) dX2_readLine_381 rfl
theorem j_X2_readLine_B340 {l : Launch} {Γ : Am}   : ∀ (r0 : Nat) (t0 : Int32) (b1 : Nat) (z : Hp), J l Γ mi_X2_readLine cvV 0 0 340 [(0, .ref (mB Γ + r0))] [.int t0, .ref (mB Γ + b1)] z (m_X2_readLine_B340  r0 t0 b1 z) := by
  intro r0 t0 b1 z
  unfold m_X2_readLine_B340
  refine j_isC (fun h7 => ?_)
  refine j_callV_V (pc := 340) (as := [.int t0]) (mc2 := 0) (ms2 := 0) (ct_X2_openLine _ _ _) h7 rfl cw_X2_readLine_70 dX2_readLine_340 (Nat.le_of_ble_eq_true rfl) rfl (by decide) (by decide) (fun _ z6 => ?_)
  refine j_aload_n (pc := 343) 0 dX2_readLine_343 rfl rfl ?_
  refine j_isC (fun h9 => ?_)
  refine j_callV_V (pc := 344) (as := []) (mc2 := 0) (ms2 := 0) (ct_X2_readRule _ _) h9 rfl cw_X2_readLine_140 dX2_readLine_344 (Nat.le_of_ble_eq_true rfl) rfl (by decide) (by decide) (fun _ z8 => ?_)
  refine j_goto (pc := 347) 362 dX2_readLine_347 (by decide) ?_
  exact J.sub [0] rfl (j_X2_readLine_B362 r0 z8)
theorem j_X2_readLine_B339 {l : Launch} {Γ : Am}   : ∀ (r0 : Nat) (b0 : Nat) (z : Hp), J l Γ mi_X2_readLine cvV 0 0 339 [(0, .ref (mB Γ + r0))] [.ref (mB Γ + b0)] z (m_X2_readLine_B339  r0 b0 z) := by
  intro r0 b0 z
  unfold m_X2_readLine_B339
  refine j_iconst (pc := 339) (v := 0) dX2_readLine_339 (by decide) ?_
  exact J.sub [0] rfl (j_X2_readLine_B340 r0 0 b0 z)
theorem j_X2_readLine_B294 {l : Launch} {Γ : Am}   : ∀ (r0 : Nat) (t0 : Int32) (b1 : Nat) (z : Hp), J l Γ mi_X2_readLine cvV 0 0 294 [(0, .ref (mB Γ + r0))] [.int t0, .ref (mB Γ + b1)] z (m_X2_readLine_B294  r0 t0 b1 z) := by
  intro r0 t0 b1 z
  unfold m_X2_readLine_B294
  refine j_isC (fun h11 => ?_)
  refine j_callV_V (pc := 294) (as := [.int t0]) (mc2 := 0) (ms2 := 0) (ct_X2_openLine _ _ _) h11 rfl cw_X2_readLine_70 dX2_readLine_294 (Nat.le_of_ble_eq_true rfl) rfl (by decide) (by decide) (fun _ z10 => ?_)
  refine j_aload_n (pc := 297) 0 dX2_readLine_297 rfl rfl ?_
  refine j_isC (fun h13 => ?_)
  refine j_callV_V (pc := 298) (as := []) (mc2 := 0) (ms2 := 0) (ct_X2_readHouse _ _) h13 rfl cw_X2_readLine_128 dX2_readLine_298 (Nat.le_of_ble_eq_true rfl) rfl (by decide) (by decide) (fun _ z12 => ?_)
  refine j_goto (pc := 301) 362 dX2_readLine_301 (by decide) ?_
  exact J.sub [0] rfl (j_X2_readLine_B362 r0 z12)
theorem j_X2_readLine_B293 {l : Launch} {Γ : Am}   : ∀ (r0 : Nat) (b0 : Nat) (z : Hp), J l Γ mi_X2_readLine cvV 0 0 293 [(0, .ref (mB Γ + r0))] [.ref (mB Γ + b0)] z (m_X2_readLine_B293  r0 b0 z) := by
  intro r0 b0 z
  unfold m_X2_readLine_B293
  refine j_iconst (pc := 293) (v := 0) dX2_readLine_293 (by decide) ?_
  exact J.sub [0] rfl (j_X2_readLine_B294 r0 0 b0 z)
theorem j_X2_readLine_B247 {l : Launch} {Γ : Am}   : ∀ (r0 : Nat) (t0 : Int32) (b1 : Nat) (z : Hp), J l Γ mi_X2_readLine cvV 0 0 247 [(0, .ref (mB Γ + r0))] [.int t0, .ref (mB Γ + b1)] z (m_X2_readLine_B247  r0 t0 b1 z) := by
  intro r0 t0 b1 z
  unfold m_X2_readLine_B247
  refine j_isC (fun h15 => ?_)
  refine j_callV_V (pc := 247) (as := [.int t0]) (mc2 := 0) (ms2 := 0) (ct_X2_openLine _ _ _) h15 rfl cw_X2_readLine_70 dX2_readLine_247 (Nat.le_of_ble_eq_true rfl) rfl (by decide) (by decide) (fun _ z14 => ?_)
  refine j_aload_n (pc := 250) 0 dX2_readLine_250 rfl rfl ?_
  refine j_isC (fun h17 => ?_)
  refine j_callV_V (pc := 251) (as := []) (mc2 := 0) (ms2 := 0) (ct_X2_readCold _ _) h17 rfl cw_X2_readLine_116 dX2_readLine_251 (Nat.le_of_ble_eq_true rfl) rfl (by decide) (by decide) (fun _ z16 => ?_)
  refine j_goto (pc := 254) 362 dX2_readLine_254 (by decide) ?_
  exact J.sub [0] rfl (j_X2_readLine_B362 r0 z16)
theorem j_X2_readLine_B246 {l : Launch} {Γ : Am}   : ∀ (r0 : Nat) (b0 : Nat) (z : Hp), J l Γ mi_X2_readLine cvV 0 0 246 [(0, .ref (mB Γ + r0))] [.ref (mB Γ + b0)] z (m_X2_readLine_B246  r0 b0 z) := by
  intro r0 b0 z
  unfold m_X2_readLine_B246
  refine j_iconst (pc := 246) (v := 0) dX2_readLine_246 (by decide) ?_
  exact J.sub [0] rfl (j_X2_readLine_B247 r0 0 b0 z)
theorem j_X2_readLine_B208 {l : Launch} {Γ : Am}   : ∀ (r0 : Nat) (t0 : Int32) (b1 : Nat) (z : Hp), J l Γ mi_X2_readLine cvV 0 0 208 [(0, .ref (mB Γ + r0))] [.int t0, .ref (mB Γ + b1)] z (m_X2_readLine_B208  r0 t0 b1 z) := by
  intro r0 t0 b1 z
  unfold m_X2_readLine_B208
  refine j_isC (fun h19 => ?_)
  refine j_callV_V (pc := 208) (as := [.int t0]) (mc2 := 0) (ms2 := 0) (ct_X2_openLine _ _ _) h19 rfl cw_X2_readLine_70 dX2_readLine_208 (Nat.le_of_ble_eq_true rfl) rfl (by decide) (by decide) (fun _ z18 => ?_)
  refine j_aload_n (pc := 211) 0 dX2_readLine_211 rfl rfl ?_
  refine j_isC (fun h21 => ?_)
  refine j_callV_V (pc := 212) (as := []) (mc2 := 0) (ms2 := 0) (ct_X2_readPipe _ _) h21 rfl cw_X2_readLine_111 dX2_readLine_212 (Nat.le_of_ble_eq_true rfl) rfl (by decide) (by decide) (fun _ z20 => ?_)
  refine j_goto (pc := 215) 362 dX2_readLine_215 (by decide) ?_
  exact J.sub [0] rfl (j_X2_readLine_B362 r0 z20)
theorem j_X2_readLine_B207 {l : Launch} {Γ : Am}   : ∀ (r0 : Nat) (b0 : Nat) (z : Hp), J l Γ mi_X2_readLine cvV 0 0 207 [(0, .ref (mB Γ + r0))] [.ref (mB Γ + b0)] z (m_X2_readLine_B207  r0 b0 z) := by
  intro r0 b0 z
  unfold m_X2_readLine_B207
  refine j_iconst (pc := 207) (v := 0) dX2_readLine_207 (by decide) ?_
  exact J.sub [0] rfl (j_X2_readLine_B208 r0 0 b0 z)
theorem j_X2_readLine_B161 {l : Launch} {Γ : Am}   : ∀ (r0 : Nat) (t0 : Int32) (b1 : Nat) (z : Hp), J l Γ mi_X2_readLine cvV 0 0 161 [(0, .ref (mB Γ + r0))] [.int t0, .ref (mB Γ + b1)] z (m_X2_readLine_B161  r0 t0 b1 z) := by
  intro r0 t0 b1 z
  unfold m_X2_readLine_B161
  refine j_isC (fun h23 => ?_)
  refine j_callV_V (pc := 161) (as := [.int t0]) (mc2 := 0) (ms2 := 0) (ct_X2_openLine _ _ _) h23 rfl cw_X2_readLine_70 dX2_readLine_161 (Nat.le_of_ble_eq_true rfl) rfl (by decide) (by decide) (fun _ z22 => ?_)
  refine j_aload_n (pc := 164) 0 dX2_readLine_164 rfl rfl ?_
  refine j_isC (fun h25 => ?_)
  refine j_callV_V (pc := 165) (as := []) (mc2 := 0) (ms2 := 0) (ct_X2_readShaft _ _) h25 rfl cw_X2_readLine_97 dX2_readLine_165 (Nat.le_of_ble_eq_true rfl) rfl (by decide) (by decide) (fun _ z24 => ?_)
  refine j_goto (pc := 168) 362 dX2_readLine_168 (by decide) ?_
  exact J.sub [0] rfl (j_X2_readLine_B362 r0 z24)
theorem j_X2_readLine_B160 {l : Launch} {Γ : Am}   : ∀ (r0 : Nat) (b0 : Nat) (z : Hp), J l Γ mi_X2_readLine cvV 0 0 160 [(0, .ref (mB Γ + r0))] [.ref (mB Γ + b0)] z (m_X2_readLine_B160  r0 b0 z) := by
  intro r0 b0 z
  unfold m_X2_readLine_B160
  refine j_iconst (pc := 160) (v := 0) dX2_readLine_160 (by decide) ?_
  exact J.sub [0] rfl (j_X2_readLine_B161 r0 0 b0 z)
theorem j_X2_readLine_B119 {l : Launch} {Γ : Am}   : ∀ (r0 : Nat) (t0 : Int32) (b1 : Nat) (z : Hp), J l Γ mi_X2_readLine cvV 0 0 119 [(0, .ref (mB Γ + r0))] [.int t0, .ref (mB Γ + b1)] z (m_X2_readLine_B119  r0 t0 b1 z) := by
  intro r0 t0 b1 z
  unfold m_X2_readLine_B119
  refine j_isC (fun h27 => ?_)
  refine j_callV_V (pc := 119) (as := [.int t0]) (mc2 := 0) (ms2 := 0) (ct_X2_openLine _ _ _) h27 rfl cw_X2_readLine_70 dX2_readLine_119 (Nat.le_of_ble_eq_true rfl) rfl (by decide) (by decide) (fun _ z26 => ?_)
  refine j_aload_n (pc := 122) 0 dX2_readLine_122 rfl rfl ?_
  refine j_isC (fun h29 => ?_)
  refine j_callV_V (pc := 123) (as := []) (mc2 := 0) (ms2 := 0) (ct_X2_readFar _ _) h29 rfl cw_X2_readLine_89 dX2_readLine_123 (Nat.le_of_ble_eq_true rfl) rfl (by decide) (by decide) (fun _ z28 => ?_)
  refine j_goto (pc := 126) 362 dX2_readLine_126 (by decide) ?_
  exact J.sub [0] rfl (j_X2_readLine_B362 r0 z28)
theorem j_X2_readLine_B118 {l : Launch} {Γ : Am}   : ∀ (r0 : Nat) (b0 : Nat) (z : Hp), J l Γ mi_X2_readLine cvV 0 0 118 [(0, .ref (mB Γ + r0))] [.ref (mB Γ + b0)] z (m_X2_readLine_B118  r0 b0 z) := by
  intro r0 b0 z
  unfold m_X2_readLine_B118
  refine j_iconst (pc := 118) (v := 0) dX2_readLine_118 (by decide) ?_
  exact J.sub [0] rfl (j_X2_readLine_B119 r0 0 b0 z)
theorem j_X2_readLine_B17 {l : Launch} {Γ : Am}   : ∀ (r0 : Nat) (t0 : Int32) (z : Hp), J l Γ mi_X2_readLine cvV 0 0 17 [(0, .ref (mB Γ + r0))] [.int t0] z (m_X2_readLine_B17  r0 t0 z) := by
  intro r0 t0 z
  unfold m_X2_readLine_B17
  refine j_istore_n (pc := 17) (lv2 := [(1, .int t0), (0, .ref (mB Γ + r0))]) dX2_readLine_17 rfl (by decide) rfl ?_
  refine j_aload_n (pc := 18) 1 dX2_readLine_18 rfl rfl ?_
  refine j_getR (pc := 19) ok_X2 (by decide) rfl w_411 dX2_readLine_19 (fun a30 => ?_)
  refine j_ldcS (pc := 22) (w := 0) (tx := "ground") dX2_readLine_22 (by decide +kernel) ?_
  refine j_isC (fun h33 => ?_)
  refine j_callV_I (pc := 24) (as := [.ref (mT Γ 0)]) (mc2 := 0) (ms2 := 0) (ct_X4_isWord _ _ _) h33 rfl cw_X2_readLine_66 dX2_readLine_24 (Nat.le_of_ble_eq_true rfl) rfl (by decide) (by decide) (fun x32 z31 => ?_)
  refine j_if_eq (pc := 27) 42 dX2_readLine_27 (by decide) ?_ ?_
  · refine j_aload_n (pc := 42) 1 dX2_readLine_42 rfl rfl ?_
    refine j_getR (pc := 43) ok_X2 (by decide) rfl w_411 dX2_readLine_43 (fun a34 => ?_)
    refine j_ldcS (pc := 46) (w := 5) (tx := "lay") dX2_readLine_46 (by decide +kernel) ?_
    refine j_isC (fun h37 => ?_)
    refine j_callV_I (pc := 48) (as := [.ref (mT Γ 5)]) (mc2 := 0) (ms2 := 0) (ct_X4_isWord _ _ _) h37 rfl cw_X2_readLine_66 dX2_readLine_48 (Nat.le_of_ble_eq_true rfl) rfl (by decide) (by decide) (fun x36 z35 => ?_)
    refine j_if_eq (pc := 51) 66 dX2_readLine_51 (by decide) ?_ ?_
    · refine j_aload_n (pc := 66) 1 dX2_readLine_66 rfl rfl ?_
      refine j_getR (pc := 67) ok_X2 (by decide) rfl w_411 dX2_readLine_67 (fun a38 => ?_)
      refine j_ldcS (pc := 70) (w := 7) (tx := "stream") dX2_readLine_70 (by decide +kernel) ?_
      refine j_isC (fun h41 => ?_)
      refine j_callV_I (pc := 72) (as := [.ref (mT Γ 7)]) (mc2 := 0) (ms2 := 0) (ct_X4_isWord _ _ _) h41 rfl cw_X2_readLine_66 dX2_readLine_72 (Nat.le_of_ble_eq_true rfl) rfl (by decide) (by decide) (fun x40 z39 => ?_)
      refine j_if_eq (pc := 75) 90 dX2_readLine_75 (by decide) ?_ ?_
      · refine j_aload_n (pc := 90) 1 dX2_readLine_90 rfl rfl ?_
        refine j_getR (pc := 91) ok_X2 (by decide) rfl w_411 dX2_readLine_91 (fun a42 => ?_)
        refine j_ldcS (pc := 94) (w := 9) (tx := "far") dX2_readLine_94 (by decide +kernel) ?_
        refine j_isC (fun h45 => ?_)
        refine j_callV_I (pc := 96) (as := [.ref (mT Γ 9)]) (mc2 := 0) (ms2 := 0) (ct_X4_isWord _ _ _) h45 rfl cw_X2_readLine_66 dX2_readLine_96 (Nat.le_of_ble_eq_true rfl) rfl (by decide) (by decide) (fun x44 z43 => ?_)
        refine j_if_eq (pc := 99) 129 dX2_readLine_99 (by decide) ?_ ?_
        · refine j_aload_n (pc := 129) 1 dX2_readLine_129 rfl rfl ?_
          refine j_getR (pc := 130) ok_X2 (by decide) rfl w_411 dX2_readLine_130 (fun a46 => ?_)
          refine j_ldcS (pc := 133) (w := 10) (tx := "shaft") dX2_readLine_133 (by decide +kernel) ?_
          refine j_isC (fun h49 => ?_)
          refine j_callV_I (pc := 135) (as := [.ref (mT Γ 10)]) (mc2 := 0) (ms2 := 0) (ct_X4_isWord _ _ _) h49 rfl cw_X2_readLine_66 dX2_readLine_135 (Nat.le_of_ble_eq_true rfl) rfl (by decide) (by decide) (fun x48 z47 => ?_)
          refine j_if_eq (pc := 138) 171 dX2_readLine_138 (by decide) ?_ ?_
          · refine j_aload_n (pc := 171) 1 dX2_readLine_171 rfl rfl ?_
            refine j_getR (pc := 172) ok_X2 (by decide) rfl w_411 dX2_readLine_172 (fun a50 => ?_)
            refine j_ldcS (pc := 175) (w := 11) (tx := "pipe") dX2_readLine_175 (by decide +kernel) ?_
            refine j_isC (fun h53 => ?_)
            refine j_callV_I (pc := 177) (as := [.ref (mT Γ 11)]) (mc2 := 0) (ms2 := 0) (ct_X4_isWord _ _ _) h53 rfl cw_X2_readLine_66 dX2_readLine_177 (Nat.le_of_ble_eq_true rfl) rfl (by decide) (by decide) (fun x52 z51 => ?_)
            refine j_if_eq (pc := 180) 218 dX2_readLine_180 (by decide) ?_ ?_
            · refine j_aload_n (pc := 218) 1 dX2_readLine_218 rfl rfl ?_
              refine j_getR (pc := 219) ok_X2 (by decide) rfl w_411 dX2_readLine_219 (fun a54 => ?_)
              refine j_ldcS (pc := 222) (w := 13) (tx := "cold") dX2_readLine_222 (by decide +kernel) ?_
              refine j_isC (fun h57 => ?_)
              refine j_callV_I (pc := 224) (as := [.ref (mT Γ 13)]) (mc2 := 0) (ms2 := 0) (ct_X4_isWord _ _ _) h57 rfl cw_X2_readLine_66 dX2_readLine_224 (Nat.le_of_ble_eq_true rfl) rfl (by decide) (by decide) (fun x56 z55 => ?_)
              refine j_if_eq (pc := 227) 257 dX2_readLine_227 (by decide) ?_ ?_
              · refine j_aload_n (pc := 257) 1 dX2_readLine_257 rfl rfl ?_
                refine j_getR (pc := 258) ok_X2 (by decide) rfl w_411 dX2_readLine_258 (fun a58 => ?_)
                refine j_ldcS (pc := 261) (w := 14) (tx := "house") dX2_readLine_261 (by decide +kernel) ?_
                refine j_isC (fun h61 => ?_)
                refine j_callV_I (pc := 263) (as := [.ref (mT Γ 14)]) (mc2 := 0) (ms2 := 0) (ct_X4_isWord _ _ _) h61 rfl cw_X2_readLine_66 dX2_readLine_263 (Nat.le_of_ble_eq_true rfl) rfl (by decide) (by decide) (fun x60 z59 => ?_)
                refine j_if_eq (pc := 266) 304 dX2_readLine_266 (by decide) ?_ ?_
                · refine j_aload_n (pc := 304) 1 dX2_readLine_304 rfl rfl ?_
                  refine j_getR (pc := 305) ok_X2 (by decide) rfl w_411 dX2_readLine_305 (fun a62 => ?_)
                  refine j_ldcS (pc := 308) (w := 16) (tx := "dig") dX2_readLine_308 (by decide +kernel) ?_
                  refine j_isC (fun h65 => ?_)
                  refine j_callV_I (pc := 310) (as := [.ref (mT Γ 16)]) (mc2 := 0) (ms2 := 0) (ct_X4_isWord _ _ _) h65 rfl cw_X2_readLine_66 dX2_readLine_310 (Nat.le_of_ble_eq_true rfl) rfl (by decide) (by decide) (fun x64 z63 => ?_)
                  refine j_if_eq (pc := 313) 350 dX2_readLine_313 (by decide) ?_ ?_
                  · refine j_aload_n (pc := 350) 1 dX2_readLine_350 rfl rfl ?_
                    refine j_iconst (pc := 351) (v := 1) dX2_readLine_351 (by decide) ?_
                    refine j_aload_n (pc := 352) 1 dX2_readLine_352 rfl rfl ?_
                    refine j_getR (pc := 353) ok_X2 (by decide) rfl w_411 dX2_readLine_353 (fun a66 => ?_)
                    refine j_getI (pc := 356) ok_X4 (by decide) rfl w_389 dX2_readLine_356 (fun x67 => ?_)
                    refine j_isC (fun h69 => ?_)
                    refine j_callV_V (pc := 359) (as := [.int 1, .int x67]) (mc2 := 0) (ms2 := 0) (ct_X2_fail _ _ _ _) h69 rfl cw_X2_readLine_146 dX2_readLine_359 (Nat.le_of_ble_eq_true rfl) rfl (by decide) (by decide) (fun _ z68 => ?_)
                    exact J.sub [1] rfl (j_X2_readLine_B362 r0 z68)
                  refine j_aload_n (pc := 316) 1 dX2_readLine_316 rfl rfl ?_
                  refine j_iload_n (pc := 317) 0 dX2_readLine_317 rfl rfl ?_
                  refine j_if_eq (pc := 318) 339 dX2_readLine_318 (by decide) ?_ ?_
                  · exact J.sub [1] rfl (j_X2_readLine_B339 r0 r0 z63)
                  refine j_aload_n (pc := 321) 1 dX2_readLine_321 rfl rfl ?_
                  refine j_getR (pc := 322) ok_X2 (by decide) rfl w_413 dX2_readLine_322 (fun a70 => ?_)
                  refine j_getR (pc := 325) ok_X8 (by decide) rfl w_301 dX2_readLine_325 (fun a71 => ?_)
                  refine j_getI (pc := 328) ok_X5 (by decide) rfl w_258 dX2_readLine_328 (fun x72 => ?_)
                  refine j_iconst (pc := 331) (v := 4) dX2_readLine_331 (by decide) ?_
                  refine j_icmp_ge (pc := 332) 339 dX2_readLine_332 (by decide) ?_ ?_
                  · exact J.sub [1] rfl (j_X2_readLine_B339 r0 r0 z63)
                  refine j_iconst (pc := 335) (v := 1) dX2_readLine_335 (by decide) ?_
                  refine j_goto (pc := 336) 340 dX2_readLine_336 (by decide) ?_
                  exact J.sub [1] rfl (j_X2_readLine_B340 r0 1 r0 z63)
                refine j_aload_n (pc := 269) 1 dX2_readLine_269 rfl rfl ?_
                refine j_iload_n (pc := 270) 0 dX2_readLine_270 rfl rfl ?_
                refine j_if_eq (pc := 271) 293 dX2_readLine_271 (by decide) ?_ ?_
                · exact J.sub [1] rfl (j_X2_readLine_B293 r0 r0 z59)
                refine j_aload_n (pc := 274) 1 dX2_readLine_274 rfl rfl ?_
                refine j_getR (pc := 275) ok_X2 (by decide) rfl w_413 dX2_readLine_275 (fun a73 => ?_)
                refine j_getR (pc := 278) ok_X8 (by decide) rfl w_298 dX2_readLine_278 (fun a74 => ?_)
                refine j_getI (pc := 281) ok_X1 (by decide) rfl w_233 dX2_readLine_281 (fun x75 => ?_)
                refine j_bipush (pc := 284) (v := 6) dX2_readLine_284 (by decide) ?_
                refine j_icmp_ge (pc := 286) 293 dX2_readLine_286 (by decide) ?_ ?_
                · exact J.sub [1] rfl (j_X2_readLine_B293 r0 r0 z59)
                refine j_iconst (pc := 289) (v := 1) dX2_readLine_289 (by decide) ?_
                refine j_goto (pc := 290) 294 dX2_readLine_290 (by decide) ?_
                exact J.sub [1] rfl (j_X2_readLine_B294 r0 1 r0 z59)
              refine j_aload_n (pc := 230) 1 dX2_readLine_230 rfl rfl ?_
              refine j_iload_n (pc := 231) 0 dX2_readLine_231 rfl rfl ?_
              refine j_if_eq (pc := 232) 246 dX2_readLine_232 (by decide) ?_ ?_
              · exact J.sub [1] rfl (j_X2_readLine_B246 r0 r0 z55)
              refine j_aload_n (pc := 235) 1 dX2_readLine_235 rfl rfl ?_
              refine j_getI (pc := 236) ok_X2 (by decide) rfl w_415 dX2_readLine_236 (fun x76 => ?_)
              refine j_if_ne (pc := 239) 246 dX2_readLine_239 (by decide) ?_ ?_
              · exact J.sub [1] rfl (j_X2_readLine_B246 r0 r0 z55)
              refine j_iconst (pc := 242) (v := 1) dX2_readLine_242 (by decide) ?_
              refine j_goto (pc := 243) 247 dX2_readLine_243 (by decide) ?_
              exact J.sub [1] rfl (j_X2_readLine_B247 r0 1 r0 z55)
            refine j_aload_n (pc := 183) 1 dX2_readLine_183 rfl rfl ?_
            refine j_iload_n (pc := 184) 0 dX2_readLine_184 rfl rfl ?_
            refine j_if_eq (pc := 185) 207 dX2_readLine_185 (by decide) ?_ ?_
            · exact J.sub [1] rfl (j_X2_readLine_B207 r0 r0 z51)
            refine j_aload_n (pc := 188) 1 dX2_readLine_188 rfl rfl ?_
            refine j_getR (pc := 189) ok_X2 (by decide) rfl w_413 dX2_readLine_189 (fun a77 => ?_)
            refine j_getR (pc := 192) ok_X8 (by decide) rfl w_294 dX2_readLine_192 (fun a78 => ?_)
            refine j_getI (pc := 195) ok_X3 (by decide) rfl w_201 dX2_readLine_195 (fun x79 => ?_)
            refine j_bipush (pc := 198) (v := 12) dX2_readLine_198 (by decide) ?_
            refine j_icmp_ge (pc := 200) 207 dX2_readLine_200 (by decide) ?_ ?_
            · exact J.sub [1] rfl (j_X2_readLine_B207 r0 r0 z51)
            refine j_iconst (pc := 203) (v := 1) dX2_readLine_203 (by decide) ?_
            refine j_goto (pc := 204) 208 dX2_readLine_204 (by decide) ?_
            exact J.sub [1] rfl (j_X2_readLine_B208 r0 1 r0 z51)
          refine j_aload_n (pc := 141) 1 dX2_readLine_141 rfl rfl ?_
          refine j_iload_n (pc := 142) 0 dX2_readLine_142 rfl rfl ?_
          refine j_if_eq (pc := 143) 160 dX2_readLine_143 (by decide) ?_ ?_
          · exact J.sub [1] rfl (j_X2_readLine_B160 r0 r0 z47)
          refine j_aload_n (pc := 146) 1 dX2_readLine_146 rfl rfl ?_
          refine j_getR (pc := 147) ok_X2 (by decide) rfl w_413 dX2_readLine_147 (fun a80 => ?_)
          refine j_getI (pc := 150) ok_X8 (by decide) rfl w_322 dX2_readLine_150 (fun x81 => ?_)
          refine j_if_ne (pc := 153) 160 dX2_readLine_153 (by decide) ?_ ?_
          · exact J.sub [1] rfl (j_X2_readLine_B160 r0 r0 z47)
          refine j_iconst (pc := 156) (v := 1) dX2_readLine_156 (by decide) ?_
          refine j_goto (pc := 157) 161 dX2_readLine_157 (by decide) ?_
          exact J.sub [1] rfl (j_X2_readLine_B161 r0 1 r0 z47)
        refine j_aload_n (pc := 102) 1 dX2_readLine_102 rfl rfl ?_
        refine j_iload_n (pc := 103) 0 dX2_readLine_103 rfl rfl ?_
        refine j_if_eq (pc := 104) 118 dX2_readLine_104 (by decide) ?_ ?_
        · exact J.sub [1] rfl (j_X2_readLine_B118 r0 r0 z43)
        refine j_aload_n (pc := 107) 1 dX2_readLine_107 rfl rfl ?_
        refine j_getI (pc := 108) ok_X2 (by decide) rfl w_414 dX2_readLine_108 (fun x82 => ?_)
        refine j_if_ne (pc := 111) 118 dX2_readLine_111 (by decide) ?_ ?_
        · exact J.sub [1] rfl (j_X2_readLine_B118 r0 r0 z43)
        refine j_iconst (pc := 114) (v := 1) dX2_readLine_114 (by decide) ?_
        refine j_goto (pc := 115) 119 dX2_readLine_115 (by decide) ?_
        exact J.sub [1] rfl (j_X2_readLine_B119 r0 1 r0 z43)
      refine j_aload_n (pc := 78) 1 dX2_readLine_78 rfl rfl ?_
      refine j_iload_n (pc := 79) 0 dX2_readLine_79 rfl rfl ?_
      refine j_isC (fun h84 => ?_)
      refine j_callV_V (pc := 80) (as := [.int t0]) (mc2 := 0) (ms2 := 0) (ct_X2_openLine _ _ _) h84 rfl cw_X2_readLine_70 dX2_readLine_80 (Nat.le_of_ble_eq_true rfl) rfl (by decide) (by decide) (fun _ z83 => ?_)
      refine j_aload_n (pc := 83) 1 dX2_readLine_83 rfl rfl ?_
      refine j_isC (fun h86 => ?_)
      refine j_callV_V (pc := 84) (as := []) (mc2 := 0) (ms2 := 0) (ct_X2_readStream _ _) h86 rfl cw_X2_readLine_84 dX2_readLine_84 (Nat.le_of_ble_eq_true rfl) rfl (by decide) (by decide) (fun _ z85 => ?_)
      refine j_goto (pc := 87) 362 dX2_readLine_87 (by decide) ?_
      exact J.sub [1] rfl (j_X2_readLine_B362 r0 z85)
    refine j_aload_n (pc := 54) 1 dX2_readLine_54 rfl rfl ?_
    refine j_iload_n (pc := 55) 0 dX2_readLine_55 rfl rfl ?_
    refine j_isC (fun h88 => ?_)
    refine j_callV_V (pc := 56) (as := [.int t0]) (mc2 := 0) (ms2 := 0) (ct_X2_openLine _ _ _) h88 rfl cw_X2_readLine_70 dX2_readLine_56 (Nat.le_of_ble_eq_true rfl) rfl (by decide) (by decide) (fun _ z87 => ?_)
    refine j_aload_n (pc := 59) 1 dX2_readLine_59 rfl rfl ?_
    refine j_isC (fun h90 => ?_)
    refine j_callV_V (pc := 60) (as := []) (mc2 := 0) (ms2 := 0) (ct_X2_readLay _ _) h90 rfl cw_X2_readLine_79 dX2_readLine_60 (Nat.le_of_ble_eq_true rfl) rfl (by decide) (by decide) (fun _ z89 => ?_)
    refine j_goto (pc := 63) 362 dX2_readLine_63 (by decide) ?_
    exact J.sub [1] rfl (j_X2_readLine_B362 r0 z89)
  refine j_aload_n (pc := 30) 1 dX2_readLine_30 rfl rfl ?_
  refine j_iload_n (pc := 31) 0 dX2_readLine_31 rfl rfl ?_
  refine j_isC (fun h92 => ?_)
  refine j_callV_V (pc := 32) (as := [.int t0]) (mc2 := 0) (ms2 := 0) (ct_X2_openLine _ _ _) h92 rfl cw_X2_readLine_70 dX2_readLine_32 (Nat.le_of_ble_eq_true rfl) rfl (by decide) (by decide) (fun _ z91 => ?_)
  refine j_aload_n (pc := 35) 1 dX2_readLine_35 rfl rfl ?_
  refine j_isC (fun h94 => ?_)
  refine j_callV_V (pc := 36) (as := []) (mc2 := 0) (ms2 := 0) (ct_X2_readGround _ _) h94 rfl cw_X2_readLine_74 dX2_readLine_36 (Nat.le_of_ble_eq_true rfl) rfl (by decide) (by decide) (fun _ z93 => ?_)
  refine j_goto (pc := 39) 362 dX2_readLine_39 (by decide) ?_
  exact J.sub [1] rfl (j_X2_readLine_B362 r0 z93)
theorem ct_X2_readLine {l : Launch} {Γ : Am} (r0 : Nat) (z : Hp) : Ct l Γ yX2_readLine mi_X2_readLine cvV [.ref (mB Γ + r0)] z (m_X2_readLine r0 z) := by
  refine Ct.ofJ (by decide) ⟨rfl, rfl⟩ (Nat.le_of_ble_eq_true rfl) ?_
  unfold m_X2_readLine
  show J l Γ mi_X2_readLine cvV 0 0 0 [(0, .ref (mB Γ + r0))] [] z _
  refine j_aload_n (pc := 0) 0 dX2_readLine_0 rfl rfl ?_
  refine j_getR (pc := 1) ok_X2 (by decide) rfl w_413 dX2_readLine_1 (fun a95 => ?_)
  refine j_getI (pc := 4) ok_X8 (by decide) rfl w_331 dX2_readLine_4 (fun x96 => ?_)
  refine j_bipush (pc := 7) (v := 40) dX2_readLine_7 (by decide) ?_
  refine j_icmp_ge (pc := 9) 16 dX2_readLine_9 (by decide) ?_ ?_
  · refine j_iconst (pc := 16) (v := 0) dX2_readLine_16 (by decide) ?_
    exact J.sub [0] rfl (j_X2_readLine_B17 r0 0 z)
  refine j_iconst (pc := 12) (v := 1) dX2_readLine_12 (by decide) ?_
  refine j_goto (pc := 13) 17 dX2_readLine_13 (by decide) ?_
  exact J.sub [0] rfl (j_X2_readLine_B17 r0 1 z)
theorem dX2_readText_0 : decode cX2_readText 0 = .ok (.aload_n 0, 1) := by decide +kernel
theorem dX2_readText_1 : decode cX2_readText 1 = .ok (.aload_n 1, 1) := by decide +kernel
theorem dX2_readText_2 : decode cX2_readText 2 = .ok (.putfield 35, 3) := by decide +kernel
theorem dX2_readText_5 : decode cX2_readText 5 = .ok (.aload_n 0, 1) := by decide +kernel
theorem dX2_readText_6 : decode cX2_readText 6 = .ok (.getfield 35, 3) := by decide +kernel
theorem dX2_readText_9 : decode cX2_readText 9 = .ok (.invokevirtual 39, 3) := by decide +kernel
theorem dX2_readText_12 : decode cX2_readText 12 = .ok (.aload_n 0, 1) := by decide +kernel
theorem dX2_readText_13 : decode cX2_readText 13 = .ok (.getfield 9, 3) := by decide +kernel
theorem dX2_readText_16 : decode cX2_readText 16 = .ok (.iconst 0, 1) := by decide +kernel
theorem dX2_readText_17 : decode cX2_readText 17 = .ok (.invokestatic 44, 3) := by decide +kernel
theorem dX2_readText_20 : decode cX2_readText 20 = .ok (.aload_n 0, 1) := by decide +kernel
theorem dX2_readText_21 : decode cX2_readText 21 = .ok (.iconst 0, 1) := by decide +kernel
theorem dX2_readText_22 : decode cX2_readText 22 = .ok (.putfield 15, 3) := by decide +kernel
theorem dX2_readText_25 : decode cX2_readText 25 = .ok (.aload_n 0, 1) := by decide +kernel
theorem dX2_readText_26 : decode cX2_readText 26 = .ok (.iconst 0, 1) := by decide +kernel
theorem dX2_readText_27 : decode cX2_readText 27 = .ok (.putfield 19, 3) := by decide +kernel
theorem dX2_readText_30 : decode cX2_readText 30 = .ok (.aload_n 0, 1) := by decide +kernel
theorem dX2_readText_31 : decode cX2_readText 31 = .ok (.iconst 0, 1) := by decide +kernel
theorem dX2_readText_32 : decode cX2_readText 32 = .ok (.putfield 25, 3) := by decide +kernel
theorem dX2_readText_35 : decode cX2_readText 35 = .ok (.aload_n 0, 1) := by decide +kernel
theorem dX2_readText_36 : decode cX2_readText 36 = .ok (.iconst (-1), 1) := by decide +kernel
theorem dX2_readText_37 : decode cX2_readText 37 = .ok (.putfield 28, 3) := by decide +kernel
theorem dX2_readText_40 : decode cX2_readText 40 = .ok (.aload_n 0, 1) := by decide +kernel
theorem dX2_readText_41 : decode cX2_readText 41 = .ok (.getfield 31, 3) := by decide +kernel
theorem dX2_readText_44 : decode cX2_readText 44 = .ok (.invokevirtual 50, 3) := by decide +kernel
theorem dX2_readText_47 : decode cX2_readText 47 = .ok (.iconst 0, 1) := by decide +kernel
theorem dX2_readText_48 : decode cX2_readText 48 = .ok (.istore_n 2, 1) := by decide +kernel
theorem dX2_readText_49 : decode cX2_readText 49 = .ok (.iload_n 2, 1) := by decide +kernel
theorem dX2_readText_50 : decode cX2_readText 50 = .ok (.bipush 40, 2) := by decide +kernel
theorem dX2_readText_52 : decode cX2_readText 52 = .ok (.if_icmp .gt 31, 3) := by decide +kernel
theorem dX2_readText_55 : decode cX2_readText 55 = .ok (.aload_n 0, 1) := by decide +kernel
theorem dX2_readText_56 : decode cX2_readText 56 = .ok (.getfield 25, 3) := by decide +kernel
theorem dX2_readText_59 : decode cX2_readText 59 = .ok (.ifCond .ne 13, 3) := by decide +kernel
theorem dX2_readText_62 : decode cX2_readText 62 = .ok (.aload_n 0, 1) := by decide +kernel
theorem dX2_readText_63 : decode cX2_readText 63 = .ok (.getfield 31, 3) := by decide +kernel
theorem dX2_readText_66 : decode cX2_readText 66 = .ok (.getfield 55, 3) := by decide +kernel
theorem dX2_readText_69 : decode cX2_readText 69 = .ok (.ifCond .ne 4, 3) := by decide +kernel
theorem dX2_readText_72 : decode cX2_readText 72 = .ok (.return_, 1) := by decide +kernel
theorem dX2_readText_73 : decode cX2_readText 73 = .ok (.aload_n 0, 1) := by decide +kernel
theorem dX2_readText_74 : decode cX2_readText 74 = .ok (.invokevirtual 58, 3) := by decide +kernel
theorem dX2_readText_77 : decode cX2_readText 77 = .ok (.iinc 2 1, 3) := by decide +kernel
theorem dX2_readText_80 : decode cX2_readText 80 = .ok (.goto (-31), 3) := by decide +kernel
theorem dX2_readText_83 : decode cX2_readText 83 = .ok (.return_, 1) := by decide +kernel
theorem cw_X2_readText_58 : CwV mi_X2_readText mi_X2_readLine yX2_readLine RX2 58 0 := ⟨⟨w_606, w_608, w_0, w_103, w_609⟩, ⟨by decide, by decide⟩, by decide +kernel, by decide, by decide⟩
theorem cw_X2_readText_39 : CwV mi_X2_readText mi_X8_forget yX8_forget RX8 39 0 := ⟨⟨w_589, w_516, w_517, w_96, w_518⟩, ⟨by decide, by decide⟩, by decide +kernel, by decide, by decide⟩
theorem cw_X2_readText_44 : CwS mi_X2_readText mi_J7_fill_53178 yJ7_fill_53178 44 2 := ⟨⟨w_590, w_500, w_107, w_501⟩, ⟨by decide, by decide⟩, by decide +kernel, by decide, by decide⟩
theorem cw_X2_readText_50 : CwV mi_X2_readText mi_X4_rewind yX4_rewind RX4 50 0 := ⟨⟨w_591, w_592, w_593, w_102, w_594⟩, ⟨by decide, by decide⟩, by decide +kernel, by decide, by decide⟩
theorem j_X2_readText_L49 {l : Launch} {Γ : Am}   : ∀ (f : Nat), ∀ (r0 : Nat) (v2 : Int32) (z : Hp), J l Γ mi_X2_readText cvV 0 0 49 [(0, .ref (mB Γ + r0)), (2, .int v2)] [] z (m_X2_readText_L49  f r0 v2 z) := by
  intro f
  induction f with
  | zero => intro r0 v2 z; exact J.none
  | succ f hL49 =>
    intro r0 v2 z
    rw [m_X2_readText_L49]
    refine j_iload_n (pc := 49) 1 dX2_readText_49 rfl rfl ?_
    refine j_bipush (pc := 50) (v := 40) dX2_readText_50 (by decide) ?_
    refine j_icmp_gt (pc := 52) 83 dX2_readText_52 (by decide) ?_ ?_
    · exact j_return (pc := 83) dX2_readText_83 rfl
    refine j_aload_n (pc := 55) 0 dX2_readText_55 rfl rfl ?_
    refine j_getI (pc := 56) ok_X2 (by decide) rfl w_417 dX2_readText_56 (fun x1 => ?_)
    refine j_if_ne (pc := 59) 72 dX2_readText_59 (by decide) ?_ ?_
    · exact j_return (pc := 72) dX2_readText_72 rfl
    refine j_aload_n (pc := 62) 0 dX2_readText_62 rfl rfl ?_
    refine j_getR (pc := 63) ok_X2 (by decide) rfl w_411 dX2_readText_63 (fun a2 => ?_)
    refine j_getI (pc := 66) ok_X4 (by decide) rfl w_387 dX2_readText_66 (fun x3 => ?_)
    refine j_if_ne (pc := 69) 73 dX2_readText_69 (by decide) ?_ ?_
    · refine j_aload_n (pc := 73) 0 dX2_readText_73 rfl rfl ?_
      refine j_isC (fun h5 => ?_)
      refine j_callV_V (pc := 74) (as := []) (mc2 := 0) (ms2 := 0) (ct_X2_readLine _ _) h5 rfl cw_X2_readText_58 dX2_readText_74 (Nat.le_of_ble_eq_true rfl) rfl (by decide) (by decide) (fun _ z4 => ?_)
      refine j_iinc (pc := 77) (n0 := 1) (v0 := v2 + 1) (lv2 := [(2, .int (v2 + 1)), (0, .ref (mB Γ + r0))]) dX2_readText_77 rfl rfl (by decide) rfl ?_
      refine j_goto (pc := 80) 49 dX2_readText_80 (by decide) ?_
      exact J.sub [1, 0] rfl (hL49 r0 (v2 + 1) z4)
    exact j_return (pc := 72) dX2_readText_72 rfl
theorem ct_X2_readText {l : Launch} {Γ : Am} (r0 : Nat) (r1 : Nat) (z : Hp) : Ct l Γ yX2_readText mi_X2_readText cvV [.ref (mB Γ + r0), .ref (mB Γ + r1)] z (m_X2_readText r0 r1 z) := by
  refine Ct.ofJ (by decide) ⟨rfl, rfl⟩ (Nat.le_of_ble_eq_true rfl) ?_
  unfold m_X2_readText
  show J l Γ mi_X2_readText cvV 0 0 0 [(0, .ref (mB Γ + r0)), (1, .ref (mB Γ + r1))] [] z _
  refine j_aload_n (pc := 0) 0 dX2_readText_0 rfl rfl ?_
  refine j_aload_n (pc := 1) 1 dX2_readText_1 rfl rfl ?_
  refine j_putR (pc := 2) ok_X2 (by decide) rfl w_413 (Or.inl rfl) rfl rfl dX2_readText_2 (fun z6 => ?_)
  refine j_aload_n (pc := 5) 0 dX2_readText_5 rfl rfl ?_
  refine j_getR (pc := 6) ok_X2 (by decide) rfl w_413 dX2_readText_6 (fun a7 => ?_)
  refine j_isC (fun h9 => ?_)
  refine j_callV_V (pc := 9) (as := []) (mc2 := 0) (ms2 := 0) (ct_X8_forget _ _) h9 rfl cw_X2_readText_39 dX2_readText_9 (Nat.le_of_ble_eq_true rfl) rfl (by decide) (by decide) (fun _ z8 => ?_)
  refine j_aload_n (pc := 12) 0 dX2_readText_12 rfl rfl ?_
  refine j_getR (pc := 13) ok_X2 (by decide) rfl w_412 dX2_readText_13 (fun a10 => ?_)
  refine j_iconst (pc := 16) (v := 0) dX2_readText_16 (by decide) ?_
  refine j_callS_V (pc := 17) (as := [.ref (mB Γ + a10), .int 0]) (mc2 := 0) (ms2 := 0) (ct_J7_fill_53178 _ _ _) cw_X2_readText_44 dX2_readText_17 (Nat.le_of_ble_eq_true rfl) rfl (by decide) (by decide) (fun _ z11 => ?_)
  refine j_aload_n (pc := 20) 0 dX2_readText_20 rfl rfl ?_
  refine j_iconst (pc := 21) (v := 0) dX2_readText_21 (by decide) ?_
  refine j_putI (pc := 22) ok_X2 (by decide) rfl w_414 (Or.inl rfl) rfl rfl dX2_readText_22 (fun z12 => ?_)
  refine j_aload_n (pc := 25) 0 dX2_readText_25 rfl rfl ?_
  refine j_iconst (pc := 26) (v := 0) dX2_readText_26 (by decide) ?_
  refine j_putI (pc := 27) ok_X2 (by decide) rfl w_415 (Or.inl rfl) rfl rfl dX2_readText_27 (fun z13 => ?_)
  refine j_aload_n (pc := 30) 0 dX2_readText_30 rfl rfl ?_
  refine j_iconst (pc := 31) (v := 0) dX2_readText_31 (by decide) ?_
  refine j_putI (pc := 32) ok_X2 (by decide) rfl w_417 (Or.inl rfl) rfl rfl dX2_readText_32 (fun z14 => ?_)
  refine j_aload_n (pc := 35) 0 dX2_readText_35 rfl rfl ?_
  refine j_iconst (pc := 36) (v := (-1)) dX2_readText_36 (by decide) ?_
  refine j_putI (pc := 37) ok_X2 (by decide) rfl w_419 (Or.inl rfl) rfl rfl dX2_readText_37 (fun z15 => ?_)
  refine j_aload_n (pc := 40) 0 dX2_readText_40 rfl rfl ?_
  refine j_getR (pc := 41) ok_X2 (by decide) rfl w_411 dX2_readText_41 (fun a16 => ?_)
  refine j_isC (fun h18 => ?_)
  refine j_callV_V (pc := 44) (as := []) (mc2 := 0) (ms2 := 0) (ct_X4_rewind _ _) h18 rfl cw_X2_readText_50 dX2_readText_44 (Nat.le_of_ble_eq_true rfl) rfl (by decide) (by decide) (fun _ z17 => ?_)
  refine j_iconst (pc := 47) (v := 0) dX2_readText_47 (by decide) ?_
  refine j_istore_n (pc := 48) (lv2 := [(2, .int 0), (0, .ref (mB Γ + r0)), (1, .ref (mB Γ + r1))]) dX2_readText_48 rfl (by decide) rfl ?_
  exact J.sub [1, 0] rfl ((j_X2_readText_L49 FU) r0 0 z17)
theorem dX3_init_0 : decode cX3_init 0 = .ok (.aload_n 0, 1) := by decide +kernel
theorem dX3_init_1 : decode cX3_init 1 = .ok (.invokespecial 3, 3) := by decide +kernel
theorem dX3_init_4 : decode cX3_init 4 = .ok (.aload_n 0, 1) := by decide +kernel
theorem dX3_init_5 : decode cX3_init 5 = .ok (.bipush 18, 2) := by decide +kernel
theorem dX3_init_7 : decode cX3_init 7 = .ok (.newarray .int, 2) := by decide +kernel
theorem dX3_init_9 : decode cX3_init 9 = .ok (.putfield 9, 3) := by decide +kernel
theorem dX3_init_12 : decode cX3_init 12 = .ok (.aload_n 0, 1) := by decide +kernel
theorem dX3_init_13 : decode cX3_init 13 = .ok (.bipush 18, 2) := by decide +kernel
theorem dX3_init_15 : decode cX3_init 15 = .ok (.newarray .int, 2) := by decide +kernel
theorem dX3_init_17 : decode cX3_init 17 = .ok (.putfield 15, 3) := by decide +kernel
theorem dX3_init_20 : decode cX3_init 20 = .ok (.aload_n 0, 1) := by decide +kernel
theorem dX3_init_21 : decode cX3_init 21 = .ok (.bipush 18, 2) := by decide +kernel
theorem dX3_init_23 : decode cX3_init 23 = .ok (.newarray .int, 2) := by decide +kernel
theorem dX3_init_25 : decode cX3_init 25 = .ok (.putfield 18, 3) := by decide +kernel
theorem dX3_init_28 : decode cX3_init 28 = .ok (.aload_n 0, 1) := by decide +kernel
theorem dX3_init_29 : decode cX3_init 29 = .ok (.bipush 18, 2) := by decide +kernel
theorem dX3_init_31 : decode cX3_init 31 = .ok (.newarray .int, 2) := by decide +kernel
theorem dX3_init_33 : decode cX3_init 33 = .ok (.putfield 21, 3) := by decide +kernel
theorem dX3_init_36 : decode cX3_init 36 = .ok (.aload_n 0, 1) := by decide +kernel
theorem dX3_init_37 : decode cX3_init 37 = .ok (.bipush 18, 2) := by decide +kernel
theorem dX3_init_39 : decode cX3_init 39 = .ok (.newarray .int, 2) := by decide +kernel
theorem dX3_init_41 : decode cX3_init 41 = .ok (.putfield 24, 3) := by decide +kernel
theorem dX3_init_44 : decode cX3_init 44 = .ok (.aload_n 0, 1) := by decide +kernel
theorem dX3_init_45 : decode cX3_init 45 = .ok (.bipush 18, 2) := by decide +kernel
theorem dX3_init_47 : decode cX3_init 47 = .ok (.newarray .int, 2) := by decide +kernel
theorem dX3_init_49 : decode cX3_init 49 = .ok (.putfield 27, 3) := by decide +kernel
theorem dX3_init_52 : decode cX3_init 52 = .ok (.aload_n 0, 1) := by decide +kernel
theorem dX3_init_53 : decode cX3_init 53 = .ok (.iconst 0, 1) := by decide +kernel
theorem dX3_init_54 : decode cX3_init 54 = .ok (.putfield 30, 3) := by decide +kernel
theorem dX3_init_57 : decode cX3_init 57 = .ok (.return_, 1) := by decide +kernel
theorem ct_X3_init {l : Launch} {Γ : Am} (r0 : Nat) (z : Hp) : Ct l Γ yX3_init mi_X3_init cvV [.ref (mB Γ + r0)] z (m_X3_init r0 z) := by
  refine Ct.ofJ (by decide) ⟨rfl, rfl⟩ (Nat.le_of_ble_eq_true rfl) ?_
  unfold m_X3_init
  show J l Γ mi_X3_init cvV 6 108 0 [(0, .ref (mB Γ + r0))] [] z _
  refine j_aload_n (pc := 0) 0 dX3_init_0 rfl rfl ?_
  refine j_objInit (pc := 1) w_183 w_122 w_123 dX3_init_1 (by decide) (by decide) ?_
  refine j_aload_n (pc := 4) 0 dX3_init_4 rfl rfl ?_
  refine j_bipush (pc := 5) (v := 18) dX3_init_5 (by decide) ?_
  refine j_newarr1 (pc := 7) (n0 := 18) (mc2 := 5) (ms2 := 90) w_177 dX3_init_7 (by decide) (by decide) (by decide) (by decide) (by decide) (fun a1 z2 => ?_)
  refine j_putR (pc := 9) ok_X3 (by decide) rfl w_184 (Or.inr ⟨rfl, rfl, rfl⟩) rfl rfl dX3_init_9 (fun z3 => ?_)
  refine j_aload_n (pc := 12) 0 dX3_init_12 rfl rfl ?_
  refine j_bipush (pc := 13) (v := 18) dX3_init_13 (by decide) ?_
  refine j_newarr1 (pc := 15) (n0 := 18) (mc2 := 4) (ms2 := 72) w_177 dX3_init_15 (by decide) (by decide) (by decide) (by decide) (by decide) (fun a4 z5 => ?_)
  refine j_putR (pc := 17) ok_X3 (by decide) rfl w_186 (Or.inr ⟨rfl, rfl, rfl⟩) rfl rfl dX3_init_17 (fun z6 => ?_)
  refine j_aload_n (pc := 20) 0 dX3_init_20 rfl rfl ?_
  refine j_bipush (pc := 21) (v := 18) dX3_init_21 (by decide) ?_
  refine j_newarr1 (pc := 23) (n0 := 18) (mc2 := 3) (ms2 := 54) w_177 dX3_init_23 (by decide) (by decide) (by decide) (by decide) (by decide) (fun a7 z8 => ?_)
  refine j_putR (pc := 25) ok_X3 (by decide) rfl w_189 (Or.inr ⟨rfl, rfl, rfl⟩) rfl rfl dX3_init_25 (fun z9 => ?_)
  refine j_aload_n (pc := 28) 0 dX3_init_28 rfl rfl ?_
  refine j_bipush (pc := 29) (v := 18) dX3_init_29 (by decide) ?_
  refine j_newarr1 (pc := 31) (n0 := 18) (mc2 := 2) (ms2 := 36) w_177 dX3_init_31 (by decide) (by decide) (by decide) (by decide) (by decide) (fun a10 z11 => ?_)
  refine j_putR (pc := 33) ok_X3 (by decide) rfl w_192 (Or.inr ⟨rfl, rfl, rfl⟩) rfl rfl dX3_init_33 (fun z12 => ?_)
  refine j_aload_n (pc := 36) 0 dX3_init_36 rfl rfl ?_
  refine j_bipush (pc := 37) (v := 18) dX3_init_37 (by decide) ?_
  refine j_newarr1 (pc := 39) (n0 := 18) (mc2 := 1) (ms2 := 18) w_177 dX3_init_39 (by decide) (by decide) (by decide) (by decide) (by decide) (fun a13 z14 => ?_)
  refine j_putR (pc := 41) ok_X3 (by decide) rfl w_195 (Or.inr ⟨rfl, rfl, rfl⟩) rfl rfl dX3_init_41 (fun z15 => ?_)
  refine j_aload_n (pc := 44) 0 dX3_init_44 rfl rfl ?_
  refine j_bipush (pc := 45) (v := 18) dX3_init_45 (by decide) ?_
  refine j_newarr1 (pc := 47) (n0 := 18) (mc2 := 0) (ms2 := 0) w_177 dX3_init_47 (by decide) (by decide) (by decide) (by decide) (by decide) (fun a16 z17 => ?_)
  refine j_putR (pc := 49) ok_X3 (by decide) rfl w_197 (Or.inr ⟨rfl, rfl, rfl⟩) rfl rfl dX3_init_49 (fun z18 => ?_)
  refine j_aload_n (pc := 52) 0 dX3_init_52 rfl rfl ?_
  refine j_iconst (pc := 53) (v := 0) dX3_init_53 (by decide) ?_
  refine j_putI (pc := 54) ok_X3 (by decide) rfl w_199 (Or.inl rfl) rfl rfl dX3_init_54 (fun z19 => ?_)
  exact j_return (pc := 57) dX3_init_57 rfl
