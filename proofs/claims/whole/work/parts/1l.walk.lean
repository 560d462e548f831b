theorem dX12_cell_0 : decode cX12_cell 0 = .ok (.iload_n 1, 1) := by decide +kernel
theorem dX12_cell_1 : decode cX12_cell 1 = .ok (.iload_n 2, 1) := by decide +kernel
theorem dX12_cell_2 : decode cX12_cell 2 = .ok (.invokestatic 116, 3) := by decide +kernel
theorem dX12_cell_5 : decode cX12_cell 5 = .ok (.ifCond .ne 7, 3) := by decide +kernel
theorem dX12_cell_8 : decode cX12_cell 8 = .ok (.ldc_w 342, 3) := by decide +kernel
theorem dX12_cell_11 : decode cX12_cell 11 = .ok (.ireturn, 1) := by decide +kernel
theorem dX12_cell_12 : decode cX12_cell 12 = .ok (.bipush 12, 2) := by decide +kernel
theorem dX12_cell_14 : decode cX12_cell 14 = .ok (.iload_n 2, 1) := by decide +kernel
theorem dX12_cell_15 : decode cX12_cell 15 = .ok (.imul, 1) := by decide +kernel
theorem dX12_cell_16 : decode cX12_cell 16 = .ok (.iload_n 1, 1) := by decide +kernel
theorem dX12_cell_17 : decode cX12_cell 17 = .ok (.iadd, 1) := by decide +kernel
theorem dX12_cell_18 : decode cX12_cell 18 = .ok (.istore 4, 2) := by decide +kernel
theorem dX12_cell_20 : decode cX12_cell 20 = .ok (.iload_n 3, 1) := by decide +kernel
theorem dX12_cell_21 : decode cX12_cell 21 = .ok (.tableswitch 124 0 5 #[39, 50, 62, 74, 102, 109], 39) := by decide +kernel
theorem dX12_cell_60 : decode cX12_cell 60 = .ok (.aload_n 0, 1) := by decide +kernel
theorem dX12_cell_61 : decode cX12_cell 61 = .ok (.getfield 13, 3) := by decide +kernel
theorem dX12_cell_64 : decode cX12_cell 64 = .ok (.bipush 48, 2) := by decide +kernel
theorem dX12_cell_66 : decode cX12_cell 66 = .ok (.iload 4, 2) := by decide +kernel
theorem dX12_cell_68 : decode cX12_cell 68 = .ok (.iadd, 1) := by decide +kernel
theorem dX12_cell_69 : decode cX12_cell 69 = .ok (.iaload, 1) := by decide +kernel
theorem dX12_cell_70 : decode cX12_cell 70 = .ok (.ireturn, 1) := by decide +kernel
theorem dX12_cell_71 : decode cX12_cell 71 = .ok (.aload_n 0, 1) := by decide +kernel
theorem dX12_cell_72 : decode cX12_cell 72 = .ok (.getfield 13, 3) := by decide +kernel
theorem dX12_cell_75 : decode cX12_cell 75 = .ok (.sipush 192, 3) := by decide +kernel
theorem dX12_cell_78 : decode cX12_cell 78 = .ok (.iload 4, 2) := by decide +kernel
theorem dX12_cell_80 : decode cX12_cell 80 = .ok (.iadd, 1) := by decide +kernel
theorem dX12_cell_81 : decode cX12_cell 81 = .ok (.iaload, 1) := by decide +kernel
theorem dX12_cell_82 : decode cX12_cell 82 = .ok (.ireturn, 1) := by decide +kernel
theorem dX12_cell_83 : decode cX12_cell 83 = .ok (.aload_n 0, 1) := by decide +kernel
theorem dX12_cell_84 : decode cX12_cell 84 = .ok (.getfield 13, 3) := by decide +kernel
theorem dX12_cell_87 : decode cX12_cell 87 = .ok (.sipush 336, 3) := by decide +kernel
theorem dX12_cell_90 : decode cX12_cell 90 = .ok (.iload 4, 2) := by decide +kernel
theorem dX12_cell_92 : decode cX12_cell 92 = .ok (.iadd, 1) := by decide +kernel
theorem dX12_cell_93 : decode cX12_cell 93 = .ok (.iaload, 1) := by decide +kernel
theorem dX12_cell_94 : decode cX12_cell 94 = .ok (.ireturn, 1) := by decide +kernel
theorem dX12_cell_95 : decode cX12_cell 95 = .ok (.aload_n 0, 1) := by decide +kernel
theorem dX12_cell_96 : decode cX12_cell 96 = .ok (.iload 4, 2) := by decide +kernel
theorem dX12_cell_98 : decode cX12_cell 98 = .ok (.invokevirtual 102, 3) := by decide +kernel
theorem dX12_cell_101 : decode cX12_cell 101 = .ok (.ifCond .eq 7, 3) := by decide +kernel
theorem dX12_cell_104 : decode cX12_cell 104 = .ok (.iconst 2, 1) := by decide +kernel
theorem dX12_cell_105 : decode cX12_cell 105 = .ok (.goto 17, 3) := by decide +kernel
theorem dX12_cell_108 : decode cX12_cell 108 = .ok (.aload_n 0, 1) := by decide +kernel
theorem dX12_cell_109 : decode cX12_cell 109 = .ok (.iload 4, 2) := by decide +kernel
theorem dX12_cell_111 : decode cX12_cell 111 = .ok (.invokevirtual 301, 3) := by decide +kernel
theorem dX12_cell_114 : decode cX12_cell 114 = .ok (.ifCond .eq 7, 3) := by decide +kernel
theorem dX12_cell_117 : decode cX12_cell 117 = .ok (.iconst 1, 1) := by decide +kernel
theorem dX12_cell_118 : decode cX12_cell 118 = .ok (.goto 4, 3) := by decide +kernel
theorem dX12_cell_121 : decode cX12_cell 121 = .ok (.iconst 0, 1) := by decide +kernel
theorem dX12_cell_122 : decode cX12_cell 122 = .ok (.ireturn, 1) := by decide +kernel
theorem dX12_cell_123 : decode cX12_cell 123 = .ok (.aload_n 0, 1) := by decide +kernel
theorem dX12_cell_124 : decode cX12_cell 124 = .ok (.iload 4, 2) := by decide +kernel
theorem dX12_cell_126 : decode cX12_cell 126 = .ok (.invokevirtual 343, 3) := by decide +kernel
theorem dX12_cell_129 : decode cX12_cell 129 = .ok (.ireturn, 1) := by decide +kernel
theorem dX12_cell_130 : decode cX12_cell 130 = .ok (.aload_n 0, 1) := by decide +kernel
theorem dX12_cell_131 : decode cX12_cell 131 = .ok (.iload 4, 2) := by decide +kernel
theorem dX12_cell_133 : decode cX12_cell 133 = .ok (.invokevirtual 346, 3) := by decide +kernel
theorem dX12_cell_136 : decode cX12_cell 136 = .ok (.ifCond .eq 7, 3) := by decide +kernel
theorem dX12_cell_139 : decode cX12_cell 139 = .ok (.iconst 1, 1) := by decide +kernel
theorem dX12_cell_140 : decode cX12_cell 140 = .ok (.goto 4, 3) := by decide +kernel
theorem dX12_cell_143 : decode cX12_cell 143 = .ok (.iconst 0, 1) := by decide +kernel
theorem dX12_cell_144 : decode cX12_cell 144 = .ok (.ireturn, 1) := by decide +kernel
theorem dX12_cell_145 : decode cX12_cell 145 = .ok (.ldc_w 342, 3) := by decide +kernel
theorem dX12_cell_148 : decode cX12_cell 148 = .ok (.ireturn, 1) := by decide +kernel
theorem cw_X12_cell_116 : CwS mi_X12_cell mi_X12_isPlace yX12_isPlace 116 2 := ⟨⟨w_1522, w_1523, w_108, w_1524⟩, ⟨by decide, by decide⟩, by decide +kernel, by decide, by decide⟩
theorem cw_X12_cell_102 : CwV mi_X12_cell mi_X12_isDug yX12_isDug RX12 102 1 := ⟨⟨w_1511, w_1513, w_65, w_108, w_1514⟩, ⟨by decide, by decide⟩, by decide +kernel, by decide, by decide⟩
theorem cw_X12_cell_301 : CwV mi_X12_cell mi_X12_isFrozen yX12_isFrozen RX12 301 1 := ⟨⟨w_1529, w_1531, w_68, w_108, w_1532⟩, ⟨by decide, by decide⟩, by decide +kernel, by decide, by decide⟩
theorem cw_X12_cell_343 : CwV mi_X12_cell mi_X12_pipeAt yX12_pipeAt RX12 343 1 := ⟨⟨w_1583, w_1585, w_79, w_108, w_1586⟩, ⟨by decide, by decide⟩, by decide +kernel, by decide, by decide⟩
theorem cw_X12_cell_346 : CwV mi_X12_cell mi_X12_isShaft yX12_isShaft RX12 346 1 := ⟨⟨w_1567, w_1569, w_77, w_108, w_1570⟩, ⟨by decide, by decide⟩, by decide +kernel, by decide, by decide⟩
theorem ct_X12_cell {l : Launch} {Γ : Am} (r0 : Nat) (v1 : Int32) (v2 : Int32) (v3 : Int32) (z : Hp) : Ct l Γ yX12_cell mi_X12_cell cvI [.ref (mB Γ + r0), .int v1, .int v2, .int v3] z (m_X12_cell r0 v1 v2 v3 z) := by
  refine Ct.ofJ (by decide) ⟨rfl, rfl⟩ (Nat.le_of_ble_eq_true rfl) ?_
  unfold m_X12_cell
  show J l Γ mi_X12_cell cvI 0 0 0 [(0, .ref (mB Γ + r0)), (1, .int v1), (2, .int v2), (3, .int v3)] [] z _
  refine j_iload_n (pc := 0) 1 dX12_cell_0 rfl rfl ?_
  refine j_iload_n (pc := 1) 2 dX12_cell_1 rfl rfl ?_
  refine j_callS_I (pc := 2) (as := [.int v1, .int v2]) (mc2 := 0) (ms2 := 0) (ct_X12_isPlace _ _ _) cw_X12_cell_116 dX12_cell_2 (Nat.le_of_ble_eq_true rfl) rfl (by decide) (by decide) (fun x2 z1 => ?_)
  refine j_if_ne (pc := 5) 12 dX12_cell_5 (by decide) ?_ ?_
  · refine j_bipush (pc := 12) (v := 12) dX12_cell_12 (by decide) ?_
    refine j_iload_n (pc := 14) 2 dX12_cell_14 rfl rfl ?_
    refine j_imul (pc := 15) dX12_cell_15 ?_
    refine j_iload_n (pc := 16) 1 dX12_cell_16 rfl rfl ?_
    refine j_iadd (pc := 17) dX12_cell_17 ?_
    refine j_istore (pc := 18) (lv2 := [(4, .int ((12 * v2) + v1)), (0, .ref (mB Γ + r0)), (1, .int v1), (2, .int v2), (3, .int v3)]) dX12_cell_18 (by decide) rfl ?_
    refine j_iload_n (pc := 20) 4 dX12_cell_20 rfl rfl ?_
    refine j_ite (fun h5 => ?_) (fun h5 => ?_)
    · refine j_case (pc := 21) 60 dX12_cell_21 h5 (by decide) rfl (by decide) ?_
      refine j_aload_n (pc := 60) 1 dX12_cell_60 rfl rfl ?_
      refine j_getR (pc := 61) ok_X12 (by decide) rfl w_1239 dX12_cell_61 (fun a3 => ?_)
      refine j_bipush (pc := 64) (v := 48) dX12_cell_64 (by decide) ?_
      refine j_iload (pc := 66) 0 dX12_cell_66 rfl ?_
      refine j_iadd (pc := 68) dX12_cell_68 ?_
      refine j_iaload (pc := 69) dX12_cell_69 (fun x4 => ?_)
      exact j_ireturn (pc := 70) dX12_cell_70 rfl rfl
    refine j_ite (fun h8 => ?_) (fun h8 => ?_)
    · refine j_case (pc := 21) 71 dX12_cell_21 h8 (by decide) rfl (by decide) ?_
      refine j_aload_n (pc := 71) 1 dX12_cell_71 rfl rfl ?_
      refine j_getR (pc := 72) ok_X12 (by decide) rfl w_1239 dX12_cell_72 (fun a6 => ?_)
      refine j_sipush (pc := 75) (v := 192) dX12_cell_75 (by decide) ?_
      refine j_iload (pc := 78) 0 dX12_cell_78 rfl ?_
      refine j_iadd (pc := 80) dX12_cell_80 ?_
      refine j_iaload (pc := 81) dX12_cell_81 (fun x7 => ?_)
      exact j_ireturn (pc := 82) dX12_cell_82 rfl rfl
    refine j_ite (fun h11 => ?_) (fun h11 => ?_)
    · refine j_case (pc := 21) 83 dX12_cell_21 h11 (by decide) rfl (by decide) ?_
      refine j_aload_n (pc := 83) 1 dX12_cell_83 rfl rfl ?_
      refine j_getR (pc := 84) ok_X12 (by decide) rfl w_1239 dX12_cell_84 (fun a9 => ?_)
      refine j_sipush (pc := 87) (v := 336) dX12_cell_87 (by decide) ?_
      refine j_iload (pc := 90) 0 dX12_cell_90 rfl ?_
      refine j_iadd (pc := 92) dX12_cell_92 ?_
      refine j_iaload (pc := 93) dX12_cell_93 (fun x10 => ?_)
      exact j_ireturn (pc := 94) dX12_cell_94 rfl rfl
    refine j_ite (fun h18 => ?_) (fun h18 => ?_)
    · refine j_case (pc := 21) 95 dX12_cell_21 h18 (by decide) rfl (by decide) ?_
      refine j_aload_n (pc := 95) 1 dX12_cell_95 rfl rfl ?_
      refine j_iload (pc := 96) 0 dX12_cell_96 rfl ?_
      refine j_isC (fun h14 => ?_)
      refine j_callV_I (pc := 98) (as := [.int ((12 * v2) + v1)]) (mc2 := 0) (ms2 := 0) (ct_X12_isDug _ _ _) h14 rfl cw_X12_cell_102 dX12_cell_98 (Nat.le_of_ble_eq_true rfl) rfl (by decide) (by decide) (fun x13 z12 => ?_)
      refine j_if_eq (pc := 101) 108 dX12_cell_101 (by decide) ?_ ?_
      · refine j_aload_n (pc := 108) 1 dX12_cell_108 rfl rfl ?_
        refine j_iload (pc := 109) 0 dX12_cell_109 rfl ?_
        refine j_isC (fun h17 => ?_)
        refine j_callV_I (pc := 111) (as := [.int ((12 * v2) + v1)]) (mc2 := 0) (ms2 := 0) (ct_X12_isFrozen _ _ _) h17 rfl cw_X12_cell_301 dX12_cell_111 (Nat.le_of_ble_eq_true rfl) rfl (by decide) (by decide) (fun x16 z15 => ?_)
        refine j_if_eq (pc := 114) 121 dX12_cell_114 (by decide) ?_ ?_
        · refine j_iconst (pc := 121) (v := 0) dX12_cell_121 (by decide) ?_
          exact j_ireturn (pc := 122) dX12_cell_122 rfl rfl
        refine j_iconst (pc := 117) (v := 1) dX12_cell_117 (by decide) ?_
        refine j_goto (pc := 118) 122 dX12_cell_118 (by decide) ?_
        exact j_ireturn (pc := 122) dX12_cell_122 rfl rfl
      refine j_iconst (pc := 104) (v := 2) dX12_cell_104 (by decide) ?_
      refine j_goto (pc := 105) 122 dX12_cell_105 (by decide) ?_
      exact j_ireturn (pc := 122) dX12_cell_122 rfl rfl
    refine j_ite (fun h22 => ?_) (fun h22 => ?_)
    · refine j_case (pc := 21) 123 dX12_cell_21 h22 (by decide) rfl (by decide) ?_
      refine j_aload_n (pc := 123) 1 dX12_cell_123 rfl rfl ?_
      refine j_iload (pc := 124) 0 dX12_cell_124 rfl ?_
      refine j_isC (fun h21 => ?_)
      refine j_callV_I (pc := 126) (as := [.int ((12 * v2) + v1)]) (mc2 := 0) (ms2 := 0) (ct_X12_pipeAt _ _ _) h21 rfl cw_X12_cell_343 dX12_cell_126 (Nat.le_of_ble_eq_true rfl) rfl (by decide) (by decide) (fun x20 z19 => ?_)
      exact j_ireturn (pc := 129) dX12_cell_129 rfl rfl
    refine j_ite (fun h26 => ?_) (fun h26 => ?_)
    · refine j_case (pc := 21) 130 dX12_cell_21 h26 (by decide) rfl (by decide) ?_
      refine j_aload_n (pc := 130) 1 dX12_cell_130 rfl rfl ?_
      refine j_iload (pc := 131) 0 dX12_cell_131 rfl ?_
      refine j_isC (fun h25 => ?_)
      refine j_callV_I (pc := 133) (as := [.int ((12 * v2) + v1)]) (mc2 := 0) (ms2 := 0) (ct_X12_isShaft _ _ _) h25 rfl cw_X12_cell_346 dX12_cell_133 (Nat.le_of_ble_eq_true rfl) rfl (by decide) (by decide) (fun x24 z23 => ?_)
      refine j_if_eq (pc := 136) 143 dX12_cell_136 (by decide) ?_ ?_
      · refine j_iconst (pc := 143) (v := 0) dX12_cell_143 (by decide) ?_
        exact j_ireturn (pc := 144) dX12_cell_144 rfl rfl
      refine j_iconst (pc := 139) (v := 1) dX12_cell_139 (by decide) ?_
      refine j_goto (pc := 140) 144 dX12_cell_140 (by decide) ?_
      exact j_ireturn (pc := 144) dX12_cell_144 rfl rfl
    refine j_dflt (pc := 21) 145 dX12_cell_21 (sw_out 6 (by decide) (fun k hk => ?_)) (by decide) ?_
    · match k, hk with
      | 0, _ => exact h5
      | 1, _ => exact h8
      | 2, _ => exact h11
      | 3, _ => exact h18
      | 4, _ => exact h22
      | 5, _ => exact h26
      | k + 6, hk => exact absurd hk (by omega)
    refine j_ldcw (pc := 145) (v := (-2000000000)) dX12_cell_145 w_1582 ?_
    exact j_ireturn (pc := 148) dX12_cell_148 rfl rfl
  refine j_ldcw (pc := 8) (v := (-2000000000)) dX12_cell_8 w_1582 ?_
  exact j_ireturn (pc := 11) dX12_cell_11 rfl rfl
theorem dX12_heat_0 : decode cX12_heat 0 = .ok (.iload_n 1, 1) := by decide +kernel
theorem dX12_heat_1 : decode cX12_heat 1 = .ok (.ifCond .ne 8, 3) := by decide +kernel
theorem dX12_heat_4 : decode cX12_heat 4 = .ok (.aload_n 0, 1) := by decide +kernel
theorem dX12_heat_5 : decode cX12_heat 5 = .ok (.invokevirtual 98, 3) := by decide +kernel
theorem dX12_heat_8 : decode cX12_heat 8 = .ok (.ireturn, 1) := by decide +kernel
theorem dX12_heat_9 : decode cX12_heat 9 = .ok (.iload_n 1, 1) := by decide +kernel
theorem dX12_heat_10 : decode cX12_heat 10 = .ok (.i2l, 1) := by decide +kernel
theorem dX12_heat_11 : decode cX12_heat 11 = .ok (.lconst 1, 1) := by decide +kernel
theorem dX12_heat_12 : decode cX12_heat 12 = .ok (.ldc2_w 349, 3) := by decide +kernel
theorem dX12_heat_15 : decode cX12_heat 15 = .ok (.invokestatic 110, 3) := by decide +kernel
theorem dX12_heat_18 : decode cX12_heat 18 = .ok (.ifCond .eq 17, 3) := by decide +kernel
theorem dX12_heat_21 : decode cX12_heat 21 = .ok (.aload_n 0, 1) := by decide +kernel
theorem dX12_heat_22 : decode cX12_heat 22 = .ok (.getfield 13, 3) := by decide +kernel
theorem dX12_heat_25 : decode cX12_heat 25 = .ok (.bipush 14, 2) := by decide +kernel
theorem dX12_heat_27 : decode cX12_heat 27 = .ok (.iload_n 1, 1) := by decide +kernel
theorem dX12_heat_28 : decode cX12_heat 28 = .ok (.iadd, 1) := by decide +kernel
theorem dX12_heat_29 : decode cX12_heat 29 = .ok (.iconst 1, 1) := by decide +kernel
theorem dX12_heat_30 : decode cX12_heat 30 = .ok (.isub, 1) := by decide +kernel
theorem dX12_heat_31 : decode cX12_heat 31 = .ok (.iaload, 1) := by decide +kernel
theorem dX12_heat_32 : decode cX12_heat 32 = .ok (.goto 6, 3) := by decide +kernel
theorem dX12_heat_35 : decode cX12_heat 35 = .ok (.ldc_w 342, 3) := by decide +kernel
theorem dX12_heat_38 : decode cX12_heat 38 = .ok (.ireturn, 1) := by decide +kernel
theorem cw_X12_heat_110 : CwS mi_X12_heat mi_X12_in yX12_in 110 3 := ⟨⟨w_1365, w_1366, w_108, w_1367⟩, ⟨by decide, by decide⟩, by decide +kernel, by decide, by decide⟩
theorem cw_X12_heat_98 : CwV mi_X12_heat mi_X12_heatNow yX12_heatNow RX12 98 0 := ⟨⟨w_1235, w_1237, w_43, w_108, w_1238⟩, ⟨by decide, by decide⟩, by decide +kernel, by decide, by decide⟩
theorem ct_X12_heat {l : Launch} {Γ : Am} (r0 : Nat) (v1 : Int32) (z : Hp) : Ct l Γ yX12_heat mi_X12_heat cvI [.ref (mB Γ + r0), .int v1] z (m_X12_heat r0 v1 z) := by
  refine Ct.ofJ (by decide) ⟨rfl, rfl⟩ (Nat.le_of_ble_eq_true rfl) ?_
  unfold m_X12_heat
  show J l Γ mi_X12_heat cvI 0 0 0 [(0, .ref (mB Γ + r0)), (1, .int v1)] [] z _
  refine j_iload_n (pc := 0) 1 dX12_heat_0 rfl rfl ?_
  refine j_if_ne (pc := 1) 9 dX12_heat_1 (by decide) ?_ ?_
  · refine j_iload_n (pc := 9) 1 dX12_heat_9 rfl rfl ?_
    refine j_i2l (pc := 10) dX12_heat_10 ?_
    refine j_lconst (pc := 11) (v := 1) dX12_heat_11 (by decide) ?_
    refine j_ldc2 (pc := 12) (v := 5) dX12_heat_12 w_1591 ?_
    refine j_callS_I (pc := 15) (as := [.long (Int32.toInt64 v1), .long 1, .long 5]) (mc2 := 0) (ms2 := 0) (ct_X12_in _ _ _ _) cw_X12_heat_110 dX12_heat_15 (Nat.le_of_ble_eq_true rfl) rfl (by decide) (by decide) (fun x2 z1 => ?_)
    refine j_if_eq (pc := 18) 35 dX12_heat_18 (by decide) ?_ ?_
    · refine j_ldcw (pc := 35) (v := (-2000000000)) dX12_heat_35 w_1582 ?_
      exact j_ireturn (pc := 38) dX12_heat_38 rfl rfl
    refine j_aload_n (pc := 21) 0 dX12_heat_21 rfl rfl ?_
    refine j_getR (pc := 22) ok_X12 (by decide) rfl w_1239 dX12_heat_22 (fun a3 => ?_)
    refine j_bipush (pc := 25) (v := 14) dX12_heat_25 (by decide) ?_
    refine j_iload_n (pc := 27) 1 dX12_heat_27 rfl rfl ?_
    refine j_iadd (pc := 28) dX12_heat_28 ?_
    refine j_iconst (pc := 29) (v := 1) dX12_heat_29 (by decide) ?_
    refine j_isub (pc := 30) dX12_heat_30 ?_
    refine j_iaload (pc := 31) dX12_heat_31 (fun x4 => ?_)
    refine j_goto (pc := 32) 38 dX12_heat_32 (by decide) ?_
    exact j_ireturn (pc := 38) dX12_heat_38 rfl rfl
  refine j_aload_n (pc := 4) 0 dX12_heat_4 rfl rfl ?_
  refine j_isC (fun h7 => ?_)
  refine j_callV_I (pc := 5) (as := []) (mc2 := 0) (ms2 := 0) (ct_X12_heatNow _ _) h7 rfl cw_X12_heat_98 dX12_heat_5 (Nat.le_of_ble_eq_true rfl) rfl (by decide) (by decide) (fun x6 z5 => ?_)
  exact j_ireturn (pc := 8) dX12_heat_8 rfl rfl
theorem dX12_isPipe_0 : decode cX12_isPipe 0 = .ok (.iload_n 1, 1) := by decide +kernel
theorem dX12_isPipe_1 : decode cX12_isPipe 1 = .ok (.i2l, 1) := by decide +kernel
theorem dX12_isPipe_2 : decode cX12_isPipe 2 = .ok (.lconst 0, 1) := by decide +kernel
theorem dX12_isPipe_3 : decode cX12_isPipe 3 = .ok (.aload_n 0, 1) := by decide +kernel
theorem dX12_isPipe_4 : decode cX12_isPipe 4 = .ok (.getfield 13, 3) := by decide +kernel
theorem dX12_isPipe_7 : decode cX12_isPipe 7 = .ok (.iconst 2, 1) := by decide +kernel
theorem dX12_isPipe_8 : decode cX12_isPipe 8 = .ok (.iaload, 1) := by decide +kernel
theorem dX12_isPipe_9 : decode cX12_isPipe 9 = .ok (.iconst 1, 1) := by decide +kernel
theorem dX12_isPipe_10 : decode cX12_isPipe 10 = .ok (.isub, 1) := by decide +kernel
theorem dX12_isPipe_11 : decode cX12_isPipe 11 = .ok (.i2l, 1) := by decide +kernel
theorem dX12_isPipe_12 : decode cX12_isPipe 12 = .ok (.invokestatic 110, 3) := by decide +kernel
theorem dX12_isPipe_15 : decode cX12_isPipe 15 = .ok (.ireturn, 1) := by decide +kernel
theorem cw_X12_isPipe_110 : CwS mi_X12_isPipe mi_X12_in yX12_in 110 3 := ⟨⟨w_1365, w_1366, w_108, w_1367⟩, ⟨by decide, by decide⟩, by decide +kernel, by decide, by decide⟩
theorem ct_X12_isPipe {l : Launch} {Γ : Am} (r0 : Nat) (v1 : Int32) (z : Hp) : Ct l Γ yX12_isPipe mi_X12_isPipe cvI [.ref (mB Γ + r0), .int v1] z (m_X12_isPipe r0 v1 z) := by
  refine Ct.ofJ (by decide) ⟨rfl, rfl⟩ (Nat.le_of_ble_eq_true rfl) ?_
  unfold m_X12_isPipe
  show J l Γ mi_X12_isPipe cvI 0 0 0 [(0, .ref (mB Γ + r0)), (1, .int v1)] [] z _
  refine j_iload_n (pc := 0) 1 dX12_isPipe_0 rfl rfl ?_
  refine j_i2l (pc := 1) dX12_isPipe_1 ?_
  refine j_lconst (pc := 2) (v := 0) dX12_isPipe_2 (by decide) ?_
  refine j_aload_n (pc := 3) 0 dX12_isPipe_3 rfl rfl ?_
  refine j_getR (pc := 4) ok_X12 (by decide) rfl w_1239 dX12_isPipe_4 (fun a1 => ?_)
  refine j_iconst (pc := 7) (v := 2) dX12_isPipe_7 (by decide) ?_
  refine j_iaload (pc := 8) dX12_isPipe_8 (fun x2 => ?_)
  refine j_iconst (pc := 9) (v := 1) dX12_isPipe_9 (by decide) ?_
  refine j_isub (pc := 10) dX12_isPipe_10 ?_
  refine j_i2l (pc := 11) dX12_isPipe_11 ?_
  refine j_callS_I (pc := 12) (as := [.long (Int32.toInt64 v1), .long 0, .long (Int32.toInt64 (x2 - 1))]) (mc2 := 0) (ms2 := 0) (ct_X12_in _ _ _ _) cw_X12_isPipe_110 dX12_isPipe_12 (Nat.le_of_ble_eq_true rfl) rfl (by decide) (by decide) (fun x4 z3 => ?_)
  exact j_zreturn (pc := 15) dX12_isPipe_15 rfl
theorem dX12_run_0 : decode cX12_run 0 = .ok (.aload_n 0, 1) := by decide +kernel
theorem dX12_run_1 : decode cX12_run 1 = .ok (.iload_n 1, 1) := by decide +kernel
theorem dX12_run_2 : decode cX12_run 2 = .ok (.invokevirtual 351, 3) := by decide +kernel
theorem dX12_run_5 : decode cX12_run 5 = .ok (.ifCond .ne 5, 3) := by decide +kernel
theorem dX12_run_8 : decode cX12_run 8 = .ok (.iconst 0, 1) := by decide +kernel
theorem dX12_run_9 : decode cX12_run 9 = .ok (.ireturn, 1) := by decide +kernel
theorem dX12_run_10 : decode cX12_run 10 = .ok (.sipush 624, 3) := by decide +kernel
theorem dX12_run_13 : decode cX12_run 13 = .ok (.bipush 6, 2) := by decide +kernel
theorem dX12_run_15 : decode cX12_run 15 = .ok (.iload_n 1, 1) := by decide +kernel
theorem dX12_run_16 : decode cX12_run 16 = .ok (.imul, 1) := by decide +kernel
theorem dX12_run_17 : decode cX12_run 17 = .ok (.iadd, 1) := by decide +kernel
theorem dX12_run_18 : decode cX12_run 18 = .ok (.iconst 3, 1) := by decide +kernel
theorem dX12_run_19 : decode cX12_run 19 = .ok (.iadd, 1) := by decide +kernel
theorem dX12_run_20 : decode cX12_run 20 = .ok (.istore_n 3, 1) := by decide +kernel
theorem dX12_run_21 : decode cX12_run 21 = .ok (.aload_n 0, 1) := by decide +kernel
theorem dX12_run_22 : decode cX12_run 22 = .ok (.getfield 13, 3) := by decide +kernel
theorem dX12_run_25 : decode cX12_run 25 = .ok (.iload_n 3, 1) := by decide +kernel
theorem dX12_run_26 : decode cX12_run 26 = .ok (.iaload, 1) := by decide +kernel
theorem dX12_run_27 : decode cX12_run 27 = .ok (.iconst 1, 1) := by decide +kernel
theorem dX12_run_28 : decode cX12_run 28 = .ok (.if_icmp .ne 7, 3) := by decide +kernel
theorem dX12_run_31 : decode cX12_run 31 = .ok (.iconst 1, 1) := by decide +kernel
theorem dX12_run_32 : decode cX12_run 32 = .ok (.goto 4, 3) := by decide +kernel
theorem dX12_run_35 : decode cX12_run 35 = .ok (.iconst 0, 1) := by decide +kernel
theorem dX12_run_36 : decode cX12_run 36 = .ok (.istore 4, 2) := by decide +kernel
theorem dX12_run_38 : decode cX12_run 38 = .ok (.aload_n 0, 1) := by decide +kernel
theorem dX12_run_39 : decode cX12_run 39 = .ok (.getfield 13, 3) := by decide +kernel
theorem dX12_run_42 : decode cX12_run 42 = .ok (.iload_n 3, 1) := by decide +kernel
theorem dX12_run_43 : decode cX12_run 43 = .ok (.iload_n 2, 1) := by decide +kernel
theorem dX12_run_44 : decode cX12_run 44 = .ok (.ifCond .eq 7, 3) := by decide +kernel
theorem dX12_run_47 : decode cX12_run 47 = .ok (.iconst 1, 1) := by decide +kernel
theorem dX12_run_48 : decode cX12_run 48 = .ok (.goto 4, 3) := by decide +kernel
theorem dX12_run_51 : decode cX12_run 51 = .ok (.iconst 0, 1) := by decide +kernel
theorem dX12_run_52 : decode cX12_run 52 = .ok (.iastore, 1) := by decide +kernel
theorem dX12_run_53 : decode cX12_run 53 = .ok (.iload 4, 2) := by decide +kernel
theorem dX12_run_55 : decode cX12_run 55 = .ok (.iload_n 2, 1) := by decide +kernel
theorem dX12_run_56 : decode cX12_run 56 = .ok (.if_icmp .eq 7, 3) := by decide +kernel
theorem dX12_run_59 : decode cX12_run 59 = .ok (.iconst 1, 1) := by decide +kernel
theorem dX12_run_60 : decode cX12_run 60 = .ok (.goto 4, 3) := by decide +kernel
theorem dX12_run_63 : decode cX12_run 63 = .ok (.iconst 0, 1) := by decide +kernel
theorem dX12_run_64 : decode cX12_run 64 = .ok (.ireturn, 1) := by decide +kernel
theorem cw_X12_run_351 : CwV mi_X12_run mi_X12_isPipe yX12_isPipe RX12 351 1 := ⟨⟨w_1596, w_1598, w_80, w_108, w_1599⟩, ⟨by decide, by decide⟩, by decide +kernel, by decide, by decide⟩
theorem j_X12_run_B52 {l : Launch} {Γ : Am}   : ∀ (v2 : Int32) (v4 : Int32) (t0 : Int32) (t1 : Int32) (b2 : Nat) (z : Hp), J l Γ mi_X12_run cvI 0 0 52 [(2, .int v2), (4, .int v4)] [.int t0, .int t1, .ref (mB Γ + b2)] z (m_X12_run_B52  v2 v4 t0 t1 b2 z) := by
  intro v2 v4 t0 t1 b2 z
  unfold m_X12_run_B52
  refine j_iastore (pc := 52) dX12_run_52 (fun z1 => ?_)
  refine j_iload (pc := 53) 1 dX12_run_53 rfl ?_
  refine j_iload_n (pc := 55) 0 dX12_run_55 rfl rfl ?_
  refine j_icmp_eq (pc := 56) 63 dX12_run_56 (by decide) ?_ ?_
  · refine j_iconst (pc := 63) (v := 0) dX12_run_63 (by decide) ?_
    exact j_ireturn (pc := 64) dX12_run_64 rfl rfl
  refine j_iconst (pc := 59) (v := 1) dX12_run_59 (by decide) ?_
  refine j_goto (pc := 60) 64 dX12_run_60 (by decide) ?_
  exact j_ireturn (pc := 64) dX12_run_64 rfl rfl
theorem j_X12_run_B36 {l : Launch} {Γ : Am}   : ∀ (r0 : Nat) (v2 : Int32) (v3 : Int32) (t0 : Int32) (z : Hp), J l Γ mi_X12_run cvI 0 0 36 [(0, .ref (mB Γ + r0)), (2, .int v2), (3, .int v3)] [.int t0] z (m_X12_run_B36  r0 v2 v3 t0 z) := by
  intro r0 v2 v3 t0 z
  unfold m_X12_run_B36
  refine j_istore (pc := 36) (lv2 := [(4, .int t0), (0, .ref (mB Γ + r0)), (2, .int v2), (3, .int v3)]) dX12_run_36 (by decide) rfl ?_
  refine j_aload_n (pc := 38) 1 dX12_run_38 rfl rfl ?_
  refine j_getR (pc := 39) ok_X12 (by decide) rfl w_1239 dX12_run_39 (fun a2 => ?_)
  refine j_iload_n (pc := 42) 3 dX12_run_42 rfl rfl ?_
  refine j_iload_n (pc := 43) 2 dX12_run_43 rfl rfl ?_
  refine j_if_eq (pc := 44) 51 dX12_run_44 (by decide) ?_ ?_
  · refine j_iconst (pc := 51) (v := 0) dX12_run_51 (by decide) ?_
    exact J.sub [2, 0] rfl (j_X12_run_B52 v2 t0 0 v3 a2 z)
  refine j_iconst (pc := 47) (v := 1) dX12_run_47 (by decide) ?_
  refine j_goto (pc := 48) 52 dX12_run_48 (by decide) ?_
  exact J.sub [2, 0] rfl (j_X12_run_B52 v2 t0 1 v3 a2 z)
theorem ct_X12_run {l : Launch} {Γ : Am} (r0 : Nat) (v1 : Int32) (v2 : Int32) (z : Hp) : Ct l Γ yX12_run mi_X12_run cvI [.ref (mB Γ + r0), .int v1, .int v2] z (m_X12_run r0 v1 v2 z) := by
  refine Ct.ofJ (by decide) ⟨rfl, rfl⟩ (Nat.le_of_ble_eq_true rfl) ?_
  unfold m_X12_run
  show J l Γ mi_X12_run cvI 0 0 0 [(0, .ref (mB Γ + r0)), (1, .int v1), (2, .int v2)] [] z _
  refine j_aload_n (pc := 0) 0 dX12_run_0 rfl rfl ?_
  refine j_iload_n (pc := 1) 1 dX12_run_1 rfl rfl ?_
  refine j_isC (fun h5 => ?_)
  refine j_callV_I (pc := 2) (as := [.int v1]) (mc2 := 0) (ms2 := 0) (ct_X12_isPipe _ _ _) h5 rfl cw_X12_run_351 dX12_run_2 (Nat.le_of_ble_eq_true rfl) rfl (by decide) (by decide) (fun x4 z3 => ?_)
  refine j_if_ne (pc := 5) 10 dX12_run_5 (by decide) ?_ ?_
  · refine j_sipush (pc := 10) (v := 624) dX12_run_10 (by decide) ?_
    refine j_bipush (pc := 13) (v := 6) dX12_run_13 (by decide) ?_
    refine j_iload_n (pc := 15) 1 dX12_run_15 rfl rfl ?_
    refine j_imul (pc := 16) dX12_run_16 ?_
    refine j_iadd (pc := 17) dX12_run_17 ?_
    refine j_iconst (pc := 18) (v := 3) dX12_run_18 (by decide) ?_
    refine j_iadd (pc := 19) dX12_run_19 ?_
    refine j_istore_n (pc := 20) (lv2 := [(3, .int ((624 + (6 * v1)) + 3)), (0, .ref (mB Γ + r0)), (1, .int v1), (2, .int v2)]) dX12_run_20 rfl (by decide) rfl ?_
    refine j_aload_n (pc := 21) 1 dX12_run_21 rfl rfl ?_
    refine j_getR (pc := 22) ok_X12 (by decide) rfl w_1239 dX12_run_22 (fun a6 => ?_)
    refine j_iload_n (pc := 25) 0 dX12_run_25 rfl rfl ?_
    refine j_iaload (pc := 26) dX12_run_26 (fun x7 => ?_)
    refine j_iconst (pc := 27) (v := 1) dX12_run_27 (by decide) ?_
    refine j_icmp_ne (pc := 28) 35 dX12_run_28 (by decide) ?_ ?_
    · refine j_iconst (pc := 35) (v := 0) dX12_run_35 (by decide) ?_
      exact J.sub [1, 3, 0] rfl (j_X12_run_B36 r0 v2 ((624 + (6 * v1)) + 3) 0 z3)
    refine j_iconst (pc := 31) (v := 1) dX12_run_31 (by decide) ?_
    refine j_goto (pc := 32) 36 dX12_run_32 (by decide) ?_
    exact J.sub [1, 3, 0] rfl (j_X12_run_B36 r0 v2 ((624 + (6 * v1)) + 3) 1 z3)
  refine j_iconst (pc := 8) (v := 0) dX12_run_8 (by decide) ?_
  exact j_ireturn (pc := 9) dX12_run_9 rfl rfl
theorem dX12_pipe_0 : decode cX12_pipe 0 = .ok (.aload_n 0, 1) := by decide +kernel
theorem dX12_pipe_1 : decode cX12_pipe 1 = .ok (.iload_n 1, 1) := by decide +kernel
theorem dX12_pipe_2 : decode cX12_pipe 2 = .ok (.invokevirtual 351, 3) := by decide +kernel
theorem dX12_pipe_5 : decode cX12_pipe 5 = .ok (.ifCond .eq 33, 3) := by decide +kernel
theorem dX12_pipe_8 : decode cX12_pipe 8 = .ok (.iload_n 2, 1) := by decide +kernel
theorem dX12_pipe_9 : decode cX12_pipe 9 = .ok (.i2l, 1) := by decide +kernel
theorem dX12_pipe_10 : decode cX12_pipe 10 = .ok (.lconst 0, 1) := by decide +kernel
theorem dX12_pipe_11 : decode cX12_pipe 11 = .ok (.ldc2_w 349, 3) := by decide +kernel
theorem dX12_pipe_14 : decode cX12_pipe 14 = .ok (.invokestatic 110, 3) := by decide +kernel
theorem dX12_pipe_17 : decode cX12_pipe 17 = .ok (.ifCond .eq 21, 3) := by decide +kernel
theorem dX12_pipe_20 : decode cX12_pipe 20 = .ok (.aload_n 0, 1) := by decide +kernel
theorem dX12_pipe_21 : decode cX12_pipe 21 = .ok (.getfield 13, 3) := by decide +kernel
theorem dX12_pipe_24 : decode cX12_pipe 24 = .ok (.sipush 624, 3) := by decide +kernel
theorem dX12_pipe_27 : decode cX12_pipe 27 = .ok (.bipush 6, 2) := by decide +kernel
theorem dX12_pipe_29 : decode cX12_pipe 29 = .ok (.iload_n 1, 1) := by decide +kernel
theorem dX12_pipe_30 : decode cX12_pipe 30 = .ok (.imul, 1) := by decide +kernel
theorem dX12_pipe_31 : decode cX12_pipe 31 = .ok (.iadd, 1) := by decide +kernel
theorem dX12_pipe_32 : decode cX12_pipe 32 = .ok (.iload_n 2, 1) := by decide +kernel
theorem dX12_pipe_33 : decode cX12_pipe 33 = .ok (.iadd, 1) := by decide +kernel
theorem dX12_pipe_34 : decode cX12_pipe 34 = .ok (.iaload, 1) := by decide +kernel
theorem dX12_pipe_35 : decode cX12_pipe 35 = .ok (.goto 6, 3) := by decide +kernel
theorem dX12_pipe_38 : decode cX12_pipe 38 = .ok (.ldc_w 342, 3) := by decide +kernel
theorem dX12_pipe_41 : decode cX12_pipe 41 = .ok (.ireturn, 1) := by decide +kernel
theorem cw_X12_pipe_351 : CwV mi_X12_pipe mi_X12_isPipe yX12_isPipe RX12 351 1 := ⟨⟨w_1596, w_1598, w_80, w_108, w_1599⟩, ⟨by decide, by decide⟩, by decide +kernel, by decide, by decide⟩
theorem cw_X12_pipe_110 : CwS mi_X12_pipe mi_X12_in yX12_in 110 3 := ⟨⟨w_1365, w_1366, w_108, w_1367⟩, ⟨by decide, by decide⟩, by decide +kernel, by decide, by decide⟩
theorem j_X12_pipe_B38 {l : Launch} {Γ : Am}   : ∀  (z : Hp), J l Γ mi_X12_pipe cvI 0 0 38 [] [] z (m_X12_pipe_B38   z) := by
  intro  z
  unfold m_X12_pipe_B38
  refine j_ldcw (pc := 38) (v := (-2000000000)) dX12_pipe_38 w_1582 ?_
  exact j_ireturn (pc := 41) dX12_pipe_41 rfl rfl
theorem ct_X12_pipe {l : Launch} {Γ : Am} (r0 : Nat) (v1 : Int32) (v2 : Int32) (z : Hp) : Ct l Γ yX12_pipe mi_X12_pipe cvI [.ref (mB Γ + r0), .int v1, .int v2] z (m_X12_pipe r0 v1 v2 z) := by
  refine Ct.ofJ (by decide) ⟨rfl, rfl⟩ (Nat.le_of_ble_eq_true rfl) ?_
  unfold m_X12_pipe
  show J l Γ mi_X12_pipe cvI 0 0 0 [(0, .ref (mB Γ + r0)), (1, .int v1), (2, .int v2)] [] z _
  refine j_aload_n (pc := 0) 0 dX12_pipe_0 rfl rfl ?_
  refine j_iload_n (pc := 1) 1 dX12_pipe_1 rfl rfl ?_
  refine j_isC (fun h3 => ?_)
  refine j_callV_I (pc := 2) (as := [.int v1]) (mc2 := 0) (ms2 := 0) (ct_X12_isPipe _ _ _) h3 rfl cw_X12_pipe_351 dX12_pipe_2 (Nat.le_of_ble_eq_true rfl) rfl (by decide) (by decide) (fun x2 z1 => ?_)
  refine j_if_eq (pc := 5) 38 dX12_pipe_5 (by decide) ?_ ?_
  · exact J.sub [] rfl (j_X12_pipe_B38 z1)
  refine j_iload_n (pc := 8) 2 dX12_pipe_8 rfl rfl ?_
  refine j_i2l (pc := 9) dX12_pipe_9 ?_
  refine j_lconst (pc := 10) (v := 0) dX12_pipe_10 (by decide) ?_
  refine j_ldc2 (pc := 11) (v := 5) dX12_pipe_11 w_1591 ?_
  refine j_callS_I (pc := 14) (as := [.long (Int32.toInt64 v2), .long 0, .long 5]) (mc2 := 0) (ms2 := 0) (ct_X12_in _ _ _ _) cw_X12_pipe_110 dX12_pipe_14 (Nat.le_of_ble_eq_true rfl) rfl (by decide) (by decide) (fun x5 z4 => ?_)
  refine j_if_eq (pc := 17) 38 dX12_pipe_17 (by decide) ?_ ?_
  · exact J.sub [] rfl (j_X12_pipe_B38 z4)
  refine j_aload_n (pc := 20) 0 dX12_pipe_20 rfl rfl ?_
  refine j_getR (pc := 21) ok_X12 (by decide) rfl w_1239 dX12_pipe_21 (fun a6 => ?_)
  refine j_sipush (pc := 24) (v := 624) dX12_pipe_24 (by decide) ?_
  refine j_bipush (pc := 27) (v := 6) dX12_pipe_27 (by decide) ?_
  refine j_iload_n (pc := 29) 1 dX12_pipe_29 rfl rfl ?_
  refine j_imul (pc := 30) dX12_pipe_30 ?_
  refine j_iadd (pc := 31) dX12_pipe_31 ?_
  refine j_iload_n (pc := 32) 2 dX12_pipe_32 rfl rfl ?_
  refine j_iadd (pc := 33) dX12_pipe_33 ?_
  refine j_iaload (pc := 34) dX12_pipe_34 (fun x7 => ?_)
  refine j_goto (pc := 35) 41 dX12_pipe_35 (by decide) ?_
  exact j_ireturn (pc := 41) dX12_pipe_41 rfl rfl
theorem dX12_cold_0 : decode cX12_cold 0 = .ok (.iload_n 1, 1) := by decide +kernel
theorem dX12_cold_1 : decode cX12_cold 1 = .ok (.i2l, 1) := by decide +kernel
theorem dX12_cold_2 : decode cX12_cold 2 = .ok (.lconst 0, 1) := by decide +kernel
theorem dX12_cold_3 : decode cX12_cold 3 = .ok (.ldc2_w 354, 3) := by decide +kernel
theorem dX12_cold_6 : decode cX12_cold 6 = .ok (.invokestatic 110, 3) := by decide +kernel
theorem dX12_cold_9 : decode cX12_cold 9 = .ok (.ifCond .ne 6, 3) := by decide +kernel
theorem dX12_cold_12 : decode cX12_cold 12 = .ok (.bipush (-2), 2) := by decide +kernel
theorem dX12_cold_14 : decode cX12_cold 14 = .ok (.ireturn, 1) := by decide +kernel
theorem dX12_cold_15 : decode cX12_cold 15 = .ok (.aload_n 0, 1) := by decide +kernel
theorem dX12_cold_16 : decode cX12_cold 16 = .ok (.getfield 13, 3) := by decide +kernel
theorem dX12_cold_19 : decode cX12_cold 19 = .ok (.bipush 6, 2) := by decide +kernel
theorem dX12_cold_21 : decode cX12_cold 21 = .ok (.iaload, 1) := by decide +kernel
theorem dX12_cold_22 : decode cX12_cold 22 = .ok (.istore_n 2, 1) := by decide +kernel
theorem dX12_cold_23 : decode cX12_cold 23 = .ok (.aload_n 0, 1) := by decide +kernel
theorem dX12_cold_24 : decode cX12_cold 24 = .ok (.getfield 13, 3) := by decide +kernel
theorem dX12_cold_27 : decode cX12_cold 27 = .ok (.bipush 6, 2) := by decide +kernel
theorem dX12_cold_29 : decode cX12_cold 29 = .ok (.iload_n 1, 1) := by decide +kernel
theorem dX12_cold_30 : decode cX12_cold 30 = .ok (.iastore, 1) := by decide +kernel
theorem dX12_cold_31 : decode cX12_cold 31 = .ok (.iload_n 2, 1) := by decide +kernel
theorem dX12_cold_32 : decode cX12_cold 32 = .ok (.ireturn, 1) := by decide +kernel
theorem cw_X12_cold_110 : CwS mi_X12_cold mi_X12_in yX12_in 110 3 := ⟨⟨w_1365, w_1366, w_108, w_1367⟩, ⟨by decide, by decide⟩, by decide +kernel, by decide, by decide⟩
theorem ct_X12_cold {l : Launch} {Γ : Am} (r0 : Nat) (v1 : Int32) (z : Hp) : Ct l Γ yX12_cold mi_X12_cold cvI [.ref (mB Γ + r0), .int v1] z (m_X12_cold r0 v1 z) := by
  refine Ct.ofJ (by decide) ⟨rfl, rfl⟩ (Nat.le_of_ble_eq_true rfl) ?_
  unfold m_X12_cold
  show J l Γ mi_X12_cold cvI 0 0 0 [(0, .ref (mB Γ + r0)), (1, .int v1)] [] z _
  refine j_iload_n (pc := 0) 1 dX12_cold_0 rfl rfl ?_
  refine j_i2l (pc := 1) dX12_cold_1 ?_
  refine j_lconst (pc := 2) (v := 0) dX12_cold_2 (by decide) ?_
  refine j_ldc2 (pc := 3) (v := 99999) dX12_cold_3 w_1608 ?_
  refine j_callS_I (pc := 6) (as := [.long (Int32.toInt64 v1), .long 0, .long 99999]) (mc2 := 0) (ms2 := 0) (ct_X12_in _ _ _ _) cw_X12_cold_110 dX12_cold_6 (Nat.le_of_ble_eq_true rfl) rfl (by decide) (by decide) (fun x2 z1 => ?_)
  refine j_if_ne (pc := 9) 15 dX12_cold_9 (by decide) ?_ ?_
  · refine j_aload_n (pc := 15) 0 dX12_cold_15 rfl rfl ?_
    refine j_getR (pc := 16) ok_X12 (by decide) rfl w_1239 dX12_cold_16 (fun a3 => ?_)
    refine j_bipush (pc := 19) (v := 6) dX12_cold_19 (by decide) ?_
    refine j_iaload (pc := 21) dX12_cold_21 (fun x4 => ?_)
    refine j_istore_n (pc := 22) (lv2 := [(2, .int x4), (0, .ref (mB Γ + r0)), (1, .int v1)]) dX12_cold_22 rfl (by decide) rfl ?_
    refine j_aload_n (pc := 23) 1 dX12_cold_23 rfl rfl ?_
    refine j_getR (pc := 24) ok_X12 (by decide) rfl w_1239 dX12_cold_24 (fun a5 => ?_)
    refine j_bipush (pc := 27) (v := 6) dX12_cold_27 (by decide) ?_
    refine j_iload_n (pc := 29) 2 dX12_cold_29 rfl rfl ?_
    refine j_iastore (pc := 30) dX12_cold_30 (fun z6 => ?_)
    refine j_iload_n (pc := 31) 0 dX12_cold_31 rfl rfl ?_
    exact j_ireturn (pc := 32) dX12_cold_32 rfl rfl
  refine j_bipush (pc := 12) (v := (-2)) dX12_cold_12 (by decide) ?_
  exact j_ireturn (pc := 14) dX12_cold_14 rfl rfl
theorem dX12_isOpen_0 : decode cX12_isOpen 0 = .ok (.aload_n 0, 1) := by decide +kernel
theorem dX12_isOpen_1 : decode cX12_isOpen 1 = .ok (.iload_n 1, 1) := by decide +kernel
theorem dX12_isOpen_2 : decode cX12_isOpen 2 = .ok (.invokevirtual 346, 3) := by decide +kernel
theorem dX12_isOpen_5 : decode cX12_isOpen 5 = .ok (.ifCond .ne 15, 3) := by decide +kernel
theorem dX12_isOpen_8 : decode cX12_isOpen 8 = .ok (.aload_n 0, 1) := by decide +kernel
theorem dX12_isOpen_9 : decode cX12_isOpen 9 = .ok (.iload_n 1, 1) := by decide +kernel
theorem dX12_isOpen_10 : decode cX12_isOpen 10 = .ok (.invokevirtual 301, 3) := by decide +kernel
theorem dX12_isOpen_13 : decode cX12_isOpen 13 = .ok (.ifCond .ne 7, 3) := by decide +kernel
theorem dX12_isOpen_16 : decode cX12_isOpen 16 = .ok (.iconst 1, 1) := by decide +kernel
theorem dX12_isOpen_17 : decode cX12_isOpen 17 = .ok (.goto 4, 3) := by decide +kernel
theorem dX12_isOpen_20 : decode cX12_isOpen 20 = .ok (.iconst 0, 1) := by decide +kernel
theorem dX12_isOpen_21 : decode cX12_isOpen 21 = .ok (.ireturn, 1) := by decide +kernel
theorem cw_X12_isOpen_346 : CwV mi_X12_isOpen mi_X12_isShaft yX12_isShaft RX12 346 1 := ⟨⟨w_1567, w_1569, w_77, w_108, w_1570⟩, ⟨by decide, by decide⟩, by decide +kernel, by decide, by decide⟩
theorem cw_X12_isOpen_301 : CwV mi_X12_isOpen mi_X12_isFrozen yX12_isFrozen RX12 301 1 := ⟨⟨w_1529, w_1531, w_68, w_108, w_1532⟩, ⟨by decide, by decide⟩, by decide +kernel, by decide, by decide⟩
theorem ct_X12_isOpen {l : Launch} {Γ : Am} (r0 : Nat) (v1 : Int32) (z : Hp) : Ct l Γ yX12_isOpen mi_X12_isOpen cvI [.ref (mB Γ + r0), .int v1] z (m_X12_isOpen r0 v1 z) := by
  refine Ct.ofJ (by decide) ⟨rfl, rfl⟩ (Nat.le_of_ble_eq_true rfl) ?_
  unfold m_X12_isOpen
  show J l Γ mi_X12_isOpen cvI 0 0 0 [(0, .ref (mB Γ + r0)), (1, .int v1)] [] z _
  refine j_aload_n (pc := 0) 0 dX12_isOpen_0 rfl rfl ?_
  refine j_iload_n (pc := 1) 1 dX12_isOpen_1 rfl rfl ?_
  refine j_isC (fun h3 => ?_)
  refine j_callV_I (pc := 2) (as := [.int v1]) (mc2 := 0) (ms2 := 0) (ct_X12_isShaft _ _ _) h3 rfl cw_X12_isOpen_346 dX12_isOpen_2 (Nat.le_of_ble_eq_true rfl) rfl (by decide) (by decide) (fun x2 z1 => ?_)
  refine j_if_ne (pc := 5) 20 dX12_isOpen_5 (by decide) ?_ ?_
  · refine j_iconst (pc := 20) (v := 0) dX12_isOpen_20 (by decide) ?_
    exact j_ireturn (pc := 21) dX12_isOpen_21 rfl rfl
  refine j_aload_n (pc := 8) 0 dX12_isOpen_8 rfl rfl ?_
  refine j_iload_n (pc := 9) 1 dX12_isOpen_9 rfl rfl ?_
  refine j_isC (fun h6 => ?_)
  refine j_callV_I (pc := 10) (as := [.int v1]) (mc2 := 0) (ms2 := 0) (ct_X12_isFrozen _ _ _) h6 rfl cw_X12_isOpen_301 dX12_isOpen_10 (Nat.le_of_ble_eq_true rfl) rfl (by decide) (by decide) (fun x5 z4 => ?_)
  refine j_if_ne (pc := 13) 20 dX12_isOpen_13 (by decide) ?_ ?_
  · refine j_iconst (pc := 20) (v := 0) dX12_isOpen_20 (by decide) ?_
    exact j_ireturn (pc := 21) dX12_isOpen_21 rfl rfl
  refine j_iconst (pc := 16) (v := 1) dX12_isOpen_16 (by decide) ?_
  refine j_goto (pc := 17) 21 dX12_isOpen_17 (by decide) ?_
  exact j_ireturn (pc := 21) dX12_isOpen_21 rfl rfl
theorem dX12_hasShaft_0 : decode cX12_hasShaft 0 = .ok (.aload_n 0, 1) := by decide +kernel
theorem dX12_hasShaft_1 : decode cX12_hasShaft 1 = .ok (.getfield 13, 3) := by decide +kernel
theorem dX12_hasShaft_4 : decode cX12_hasShaft 4 = .ok (.bipush 7, 2) := by decide +kernel
theorem dX12_hasShaft_6 : decode cX12_hasShaft 6 = .ok (.iaload, 1) := by decide +kernel
theorem dX12_hasShaft_7 : decode cX12_hasShaft 7 = .ok (.iconst 1, 1) := by decide +kernel
theorem dX12_hasShaft_8 : decode cX12_hasShaft 8 = .ok (.if_icmp .ne 7, 3) := by decide +kernel
theorem dX12_hasShaft_11 : decode cX12_hasShaft 11 = .ok (.iconst 1, 1) := by decide +kernel
theorem dX12_hasShaft_12 : decode cX12_hasShaft 12 = .ok (.goto 4, 3) := by decide +kernel
theorem dX12_hasShaft_15 : decode cX12_hasShaft 15 = .ok (.iconst 0, 1) := by decide +kernel
theorem dX12_hasShaft_16 : decode cX12_hasShaft 16 = .ok (.ireturn, 1) := by decide +kernel
theorem ct_X12_hasShaft {l : Launch} {Γ : Am} (r0 : Nat) (z : Hp) : Ct l Γ yX12_hasShaft mi_X12_hasShaft cvI [.ref (mB Γ + r0)] z (m_X12_hasShaft r0 z) := by
  refine Ct.ofJ (by decide) ⟨rfl, rfl⟩ (Nat.le_of_ble_eq_true rfl) ?_
  unfold m_X12_hasShaft
  show J l Γ mi_X12_hasShaft cvI 0 0 0 [(0, .ref (mB Γ + r0))] [] z _
  refine j_aload_n (pc := 0) 0 dX12_hasShaft_0 rfl rfl ?_
  refine j_getR (pc := 1) ok_X12 (by decide) rfl w_1239 dX12_hasShaft_1 (fun a1 => ?_)
  refine j_bipush (pc := 4) (v := 7) dX12_hasShaft_4 (by decide) ?_
  refine j_iaload (pc := 6) dX12_hasShaft_6 (fun x2 => ?_)
  refine j_iconst (pc := 7) (v := 1) dX12_hasShaft_7 (by decide) ?_
  refine j_icmp_ne (pc := 8) 15 dX12_hasShaft_8 (by decide) ?_ ?_
  · refine j_iconst (pc := 15) (v := 0) dX12_hasShaft_15 (by decide) ?_
    exact j_ireturn (pc := 16) dX12_hasShaft_16 rfl rfl
  refine j_iconst (pc := 11) (v := 1) dX12_hasShaft_11 (by decide) ?_
  refine j_goto (pc := 12) 16 dX12_hasShaft_12 (by decide) ?_
  exact j_ireturn (pc := 16) dX12_hasShaft_16 rfl rfl
theorem dX12_shut_0 : decode cX12_shut 0 = .ok (.aload_n 0, 1) := by decide +kernel
theorem dX12_shut_1 : decode cX12_shut 1 = .ok (.invokevirtual 365, 3) := by decide +kernel
theorem dX12_shut_4 : decode cX12_shut 4 = .ok (.ifCond .ne 8, 3) := by decide +kernel
theorem dX12_shut_7 : decode cX12_shut 7 = .ok (.bipush (-6), 2) := by decide +kernel
theorem dX12_shut_9 : decode cX12_shut 9 = .ok (.goto 15, 3) := by decide +kernel
theorem dX12_shut_12 : decode cX12_shut 12 = .ok (.aload_n 0, 1) := by decide +kernel
theorem dX12_shut_13 : decode cX12_shut 13 = .ok (.invokevirtual 334, 3) := by decide +kernel
theorem dX12_shut_16 : decode cX12_shut 16 = .ok (.ifCond .eq 7, 3) := by decide +kernel
theorem dX12_shut_19 : decode cX12_shut 19 = .ok (.iconst 1, 1) := by decide +kernel
theorem dX12_shut_20 : decode cX12_shut 20 = .ok (.goto 4, 3) := by decide +kernel
theorem dX12_shut_23 : decode cX12_shut 23 = .ok (.iconst 0, 1) := by decide +kernel
theorem dX12_shut_24 : decode cX12_shut 24 = .ok (.ireturn, 1) := by decide +kernel
theorem cw_X12_shut_365 : CwV mi_X12_shut mi_X12_hasShaft yX12_hasShaft RX12 365 0 := ⟨⟨w_1613, w_1615, w_81, w_108, w_1616⟩, ⟨by decide, by decide⟩, by decide +kernel, by decide, by decide⟩
theorem cw_X12_shut_334 : CwV mi_X12_shut mi_X12_isShut yX12_isShut RX12 334 0 := ⟨⟨w_1559, w_1561, w_75, w_108, w_1562⟩, ⟨by decide, by decide⟩, by decide +kernel, by decide, by decide⟩
theorem ct_X12_shut {l : Launch} {Γ : Am} (r0 : Nat) (z : Hp) : Ct l Γ yX12_shut mi_X12_shut cvI [.ref (mB Γ + r0)] z (m_X12_shut r0 z) := by
  refine Ct.ofJ (by decide) ⟨rfl, rfl⟩ (Nat.le_of_ble_eq_true rfl) ?_
  unfold m_X12_shut
  show J l Γ mi_X12_shut cvI 0 0 0 [(0, .ref (mB Γ + r0))] [] z _
  refine j_aload_n (pc := 0) 0 dX12_shut_0 rfl rfl ?_
  refine j_isC (fun h3 => ?_)
  refine j_callV_I (pc := 1) (as := []) (mc2 := 0) (ms2 := 0) (ct_X12_hasShaft _ _) h3 rfl cw_X12_shut_365 dX12_shut_1 (Nat.le_of_ble_eq_true rfl) rfl (by decide) (by decide) (fun x2 z1 => ?_)
  refine j_if_ne (pc := 4) 12 dX12_shut_4 (by decide) ?_ ?_
  · refine j_aload_n (pc := 12) 0 dX12_shut_12 rfl rfl ?_
    refine j_isC (fun h6 => ?_)
    refine j_callV_I (pc := 13) (as := []) (mc2 := 0) (ms2 := 0) (ct_X12_isShut _ _) h6 rfl cw_X12_shut_334 dX12_shut_13 (Nat.le_of_ble_eq_true rfl) rfl (by decide) (by decide) (fun x5 z4 => ?_)
    refine j_if_eq (pc := 16) 23 dX12_shut_16 (by decide) ?_ ?_
    · refine j_iconst (pc := 23) (v := 0) dX12_shut_23 (by decide) ?_
      exact j_ireturn (pc := 24) dX12_shut_24 rfl rfl
    refine j_iconst (pc := 19) (v := 1) dX12_shut_19 (by decide) ?_
    refine j_goto (pc := 20) 24 dX12_shut_20 (by decide) ?_
    exact j_ireturn (pc := 24) dX12_shut_24 rfl rfl
  refine j_bipush (pc := 7) (v := (-6)) dX12_shut_7 (by decide) ?_
  refine j_goto (pc := 9) 24 dX12_shut_9 (by decide) ?_
  exact j_ireturn (pc := 24) dX12_shut_24 rfl rfl
theorem dX12_way_0 : decode cX12_way 0 = .ok (.aload_n 0, 1) := by decide +kernel
theorem dX12_way_1 : decode cX12_way 1 = .ok (.invokevirtual 365, 3) := by decide +kernel
theorem dX12_way_4 : decode cX12_way 4 = .ok (.ifCond .eq 12, 3) := by decide +kernel
theorem dX12_way_7 : decode cX12_way 7 = .ok (.aload_n 0, 1) := by decide +kernel
theorem dX12_way_8 : decode cX12_way 8 = .ok (.iconst (-1), 1) := by decide +kernel
theorem dX12_way_9 : decode cX12_way 9 = .ok (.iconst 1, 1) := by decide +kernel
theorem dX12_way_10 : decode cX12_way 10 = .ok (.invokevirtual 362, 3) := by decide +kernel
theorem dX12_way_13 : decode cX12_way 13 = .ok (.goto 5, 3) := by decide +kernel
theorem dX12_way_16 : decode cX12_way 16 = .ok (.bipush (-6), 2) := by decide +kernel
theorem dX12_way_18 : decode cX12_way 18 = .ok (.ireturn, 1) := by decide +kernel
theorem cw_X12_way_365 : CwV mi_X12_way mi_X12_hasShaft yX12_hasShaft RX12 365 0 := ⟨⟨w_1613, w_1615, w_81, w_108, w_1616⟩, ⟨by decide, by decide⟩, by decide +kernel, by decide, by decide⟩
theorem cw_X12_way_362 : CwV mi_X12_way mi_X12_leastOut yX12_leastOut RX12 362 2 := ⟨⟨w_1563, w_1565, w_76, w_108, w_1566⟩, ⟨by decide, by decide⟩, by decide +kernel, by decide, by decide⟩
theorem ct_X12_way {l : Launch} {Γ : Am} (r0 : Nat) (z : Hp) : Ct l Γ yX12_way mi_X12_way cvI [.ref (mB Γ + r0)] z (m_X12_way r0 z) := by
  refine Ct.ofJ (by decide) ⟨rfl, rfl⟩ (Nat.le_of_ble_eq_true rfl) ?_
  unfold m_X12_way
  show J l Γ mi_X12_way cvI 0 0 0 [(0, .ref (mB Γ + r0))] [] z _
  refine j_aload_n (pc := 0) 0 dX12_way_0 rfl rfl ?_
  refine j_isC (fun h3 => ?_)
  refine j_callV_I (pc := 1) (as := []) (mc2 := 0) (ms2 := 0) (ct_X12_hasShaft _ _) h3 rfl cw_X12_way_365 dX12_way_1 (Nat.le_of_ble_eq_true rfl) rfl (by decide) (by decide) (fun x2 z1 => ?_)
  refine j_if_eq (pc := 4) 16 dX12_way_4 (by decide) ?_ ?_
  · refine j_bipush (pc := 16) (v := (-6)) dX12_way_16 (by decide) ?_
    exact j_ireturn (pc := 18) dX12_way_18 rfl rfl
  refine j_aload_n (pc := 7) 0 dX12_way_7 rfl rfl ?_
  refine j_iconst (pc := 8) (v := (-1)) dX12_way_8 (by decide) ?_
  refine j_iconst (pc := 9) (v := 1) dX12_way_9 (by decide) ?_
  refine j_isC (fun h6 => ?_)
  refine j_callV_I (pc := 10) (as := [.int (-1), .int 1]) (mc2 := 0) (ms2 := 0) (ct_X12_leastOut _ _ _ _) h6 rfl cw_X12_way_362 dX12_way_10 (Nat.le_of_ble_eq_true rfl) rfl (by decide) (by decide) (fun x5 z4 => ?_)
  refine j_goto (pc := 13) 18 dX12_way_13 (by decide) ?_
  exact j_ireturn (pc := 18) dX12_way_18 rfl rfl
theorem dX12_thick_0 : decode cX12_thick 0 = .ok (.aload_n 0, 1) := by decide +kernel
theorem dX12_thick_1 : decode cX12_thick 1 = .ok (.invokevirtual 365, 3) := by decide +kernel
theorem dX12_thick_4 : decode cX12_thick 4 = .ok (.ifCond .eq 12, 3) := by decide +kernel
theorem dX12_thick_7 : decode cX12_thick 7 = .ok (.aload_n 0, 1) := by decide +kernel
theorem dX12_thick_8 : decode cX12_thick 8 = .ok (.iconst 1, 1) := by decide +kernel
theorem dX12_thick_9 : decode cX12_thick 9 = .ok (.iconst 0, 1) := by decide +kernel
theorem dX12_thick_10 : decode cX12_thick 10 = .ok (.invokevirtual 362, 3) := by decide +kernel
theorem dX12_thick_13 : decode cX12_thick 13 = .ok (.goto 5, 3) := by decide +kernel
theorem dX12_thick_16 : decode cX12_thick 16 = .ok (.bipush (-6), 2) := by decide +kernel
theorem dX12_thick_18 : decode cX12_thick 18 = .ok (.ireturn, 1) := by decide +kernel
theorem cw_X12_thick_365 : CwV mi_X12_thick mi_X12_hasShaft yX12_hasShaft RX12 365 0 := ⟨⟨w_1613, w_1615, w_81, w_108, w_1616⟩, ⟨by decide, by decide⟩, by decide +kernel, by decide, by decide⟩
theorem cw_X12_thick_362 : CwV mi_X12_thick mi_X12_leastOut yX12_leastOut RX12 362 2 := ⟨⟨w_1563, w_1565, w_76, w_108, w_1566⟩, ⟨by decide, by decide⟩, by decide +kernel, by decide, by decide⟩
theorem ct_X12_thick {l : Launch} {Γ : Am} (r0 : Nat) (z : Hp) : Ct l Γ yX12_thick mi_X12_thick cvI [.ref (mB Γ + r0)] z (m_X12_thick r0 z) := by
  refine Ct.ofJ (by decide) ⟨rfl, rfl⟩ (Nat.le_of_ble_eq_true rfl) ?_
  unfold m_X12_thick
  show J l Γ mi_X12_thick cvI 0 0 0 [(0, .ref (mB Γ + r0))] [] z _
  refine j_aload_n (pc := 0) 0 dX12_thick_0 rfl rfl ?_
  refine j_isC (fun h3 => ?_)
  refine j_callV_I (pc := 1) (as := []) (mc2 := 0) (ms2 := 0) (ct_X12_hasShaft _ _) h3 rfl cw_X12_thick_365 dX12_thick_1 (Nat.le_of_ble_eq_true rfl) rfl (by decide) (by decide) (fun x2 z1 => ?_)
  refine j_if_eq (pc := 4) 16 dX12_thick_4 (by decide) ?_ ?_
  · refine j_bipush (pc := 16) (v := (-6)) dX12_thick_16 (by decide) ?_
    exact j_ireturn (pc := 18) dX12_thick_18 rfl rfl
  refine j_aload_n (pc := 7) 0 dX12_thick_7 rfl rfl ?_
  refine j_iconst (pc := 8) (v := 1) dX12_thick_8 (by decide) ?_
  refine j_iconst (pc := 9) (v := 0) dX12_thick_9 (by decide) ?_
  refine j_isC (fun h6 => ?_)
  refine j_callV_I (pc := 10) (as := [.int 1, .int 0]) (mc2 := 0) (ms2 := 0) (ct_X12_leastOut _ _ _ _) h6 rfl cw_X12_thick_362 dX12_thick_10 (Nat.le_of_ble_eq_true rfl) rfl (by decide) (by decide) (fun x5 z4 => ?_)
  refine j_goto (pc := 13) 18 dX12_thick_13 (by decide) ?_
  exact j_ireturn (pc := 18) dX12_thick_18 rfl rfl
theorem dX12_reach_0 : decode cX12_reach 0 = .ok (.aload_n 0, 1) := by decide +kernel
theorem dX12_reach_1 : decode cX12_reach 1 = .ok (.getfield 61, 3) := by decide +kernel
theorem dX12_reach_4 : decode cX12_reach 4 = .ok (.iload_n 1, 1) := by decide +kernel
theorem dX12_reach_5 : decode cX12_reach 5 = .ok (.iaload, 1) := by decide +kernel
theorem dX12_reach_6 : decode cX12_reach 6 = .ok (.iconst (-1), 1) := by decide +kernel
theorem dX12_reach_7 : decode cX12_reach 7 = .ok (.if_icmp .eq 4, 3) := by decide +kernel
theorem dX12_reach_10 : decode cX12_reach 10 = .ok (.return_, 1) := by decide +kernel
theorem dX12_reach_11 : decode cX12_reach 11 = .ok (.aload_n 0, 1) := by decide +kernel
theorem dX12_reach_12 : decode cX12_reach 12 = .ok (.getfield 61, 3) := by decide +kernel
theorem dX12_reach_15 : decode cX12_reach 15 = .ok (.iload_n 1, 1) := by decide +kernel
theorem dX12_reach_16 : decode cX12_reach 16 = .ok (.iload_n 2, 1) := by decide +kernel
theorem dX12_reach_17 : decode cX12_reach 17 = .ok (.iastore, 1) := by decide +kernel
theorem dX12_reach_18 : decode cX12_reach 18 = .ok (.aload_n 0, 1) := by decide +kernel
theorem dX12_reach_19 : decode cX12_reach 19 = .ok (.getfield 64, 3) := by decide +kernel
theorem dX12_reach_22 : decode cX12_reach 22 = .ok (.aload_n 0, 1) := by decide +kernel
theorem dX12_reach_23 : decode cX12_reach 23 = .ok (.getfield 368, 3) := by decide +kernel
theorem dX12_reach_26 : decode cX12_reach 26 = .ok (.iload_n 1, 1) := by decide +kernel
theorem dX12_reach_27 : decode cX12_reach 27 = .ok (.iastore, 1) := by decide +kernel
theorem dX12_reach_28 : decode cX12_reach 28 = .ok (.aload_n 0, 1) := by decide +kernel
theorem dX12_reach_29 : decode cX12_reach 29 = .ok (.dup, 1) := by decide +kernel
theorem dX12_reach_30 : decode cX12_reach 30 = .ok (.getfield 368, 3) := by decide +kernel
theorem dX12_reach_33 : decode cX12_reach 33 = .ok (.iconst 1, 1) := by decide +kernel
theorem dX12_reach_34 : decode cX12_reach 34 = .ok (.iadd, 1) := by decide +kernel
theorem dX12_reach_35 : decode cX12_reach 35 = .ok (.putfield 368, 3) := by decide +kernel
theorem dX12_reach_38 : decode cX12_reach 38 = .ok (.return_, 1) := by decide +kernel
theorem ct_X12_reach {l : Launch} {Γ : Am} (r0 : Nat) (v1 : Int32) (v2 : Int32) (z : Hp) : Ct l Γ yX12_reach mi_X12_reach cvV [.ref (mB Γ + r0), .int v1, .int v2] z (m_X12_reach r0 v1 v2 z) := by
  refine Ct.ofJ (by decide) ⟨rfl, rfl⟩ (Nat.le_of_ble_eq_true rfl) ?_
  unfold m_X12_reach
  show J l Γ mi_X12_reach cvV 0 0 0 [(0, .ref (mB Γ + r0)), (1, .int v1), (2, .int v2)] [] z _
  refine j_aload_n (pc := 0) 0 dX12_reach_0 rfl rfl ?_
  refine j_getR (pc := 1) ok_X12 (by decide) rfl w_1267 dX12_reach_1 (fun a1 => ?_)
  refine j_iload_n (pc := 4) 1 dX12_reach_4 rfl rfl ?_
  refine j_iaload (pc := 5) dX12_reach_5 (fun x2 => ?_)
  refine j_iconst (pc := 6) (v := (-1)) dX12_reach_6 (by decide) ?_
  refine j_icmp_eq (pc := 7) 11 dX12_reach_7 (by decide) ?_ ?_
  · refine j_aload_n (pc := 11) 0 dX12_reach_11 rfl rfl ?_
    refine j_getR (pc := 12) ok_X12 (by decide) rfl w_1267 dX12_reach_12 (fun a3 => ?_)
    refine j_iload_n (pc := 15) 1 dX12_reach_15 rfl rfl ?_
    refine j_iload_n (pc := 16) 2 dX12_reach_16 rfl rfl ?_
    refine j_iastore (pc := 17) dX12_reach_17 (fun z4 => ?_)
    refine j_aload_n (pc := 18) 0 dX12_reach_18 rfl rfl ?_
    refine j_getR (pc := 19) ok_X12 (by decide) rfl w_1268 dX12_reach_19 (fun a5 => ?_)
    refine j_aload_n (pc := 22) 0 dX12_reach_22 rfl rfl ?_
    refine j_getI (pc := 23) ok_X12 (by decide) rfl w_1269 dX12_reach_23 (fun x6 => ?_)
    refine j_iload_n (pc := 26) 1 dX12_reach_26 rfl rfl ?_
    refine j_iastore (pc := 27) dX12_reach_27 (fun z7 => ?_)
    refine j_aload_n (pc := 28) 0 dX12_reach_28 rfl rfl ?_
    refine j_dup (pc := 29) dX12_reach_29 rfl ?_
    refine j_getI (pc := 30) ok_X12 (by decide) rfl w_1269 dX12_reach_30 (fun x8 => ?_)
    refine j_iconst (pc := 33) (v := 1) dX12_reach_33 (by decide) ?_
    refine j_iadd (pc := 34) dX12_reach_34 ?_
    refine j_putI (pc := 35) ok_X12 (by decide) rfl w_1269 (Or.inl rfl) rfl rfl dX12_reach_35 (fun z9 => ?_)
    exact j_return (pc := 38) dX12_reach_38 rfl
  exact j_return (pc := 10) dX12_reach_10 rfl
theorem dX12_search_0 : decode cX12_search 0 = .ok (.iconst 0, 1) := by decide +kernel
theorem dX12_search_1 : decode cX12_search 1 = .ok (.istore_n 1, 1) := by decide +kernel
theorem dX12_search_2 : decode cX12_search 2 = .ok (.iload_n 1, 1) := by decide +kernel
theorem dX12_search_3 : decode cX12_search 3 = .ok (.sipush 288, 3) := by decide +kernel
theorem dX12_search_6 : decode cX12_search 6 = .ok (.if_icmp .ge 16, 3) := by decide +kernel
theorem dX12_search_9 : decode cX12_search 9 = .ok (.aload_n 0, 1) := by decide +kernel
theorem dX12_search_10 : decode cX12_search 10 = .ok (.getfield 61, 3) := by decide +kernel
theorem dX12_search_13 : decode cX12_search 13 = .ok (.iload_n 1, 1) := by decide +kernel
theorem dX12_search_14 : decode cX12_search 14 = .ok (.iconst (-1), 1) := by decide +kernel
theorem dX12_search_15 : decode cX12_search 15 = .ok (.iastore, 1) := by decide +kernel
theorem dX12_search_16 : decode cX12_search 16 = .ok (.iinc 1 1, 3) := by decide +kernel
theorem dX12_search_19 : decode cX12_search 19 = .ok (.goto (-17), 3) := by decide +kernel
theorem dX12_search_22 : decode cX12_search 22 = .ok (.aload_n 0, 1) := by decide +kernel
theorem dX12_search_23 : decode cX12_search 23 = .ok (.iconst 0, 1) := by decide +kernel
theorem dX12_search_24 : decode cX12_search 24 = .ok (.putfield 368, 3) := by decide +kernel
theorem dX12_search_27 : decode cX12_search 27 = .ok (.iconst 0, 1) := by decide +kernel
theorem dX12_search_28 : decode cX12_search 28 = .ok (.istore_n 1, 1) := by decide +kernel
theorem dX12_search_29 : decode cX12_search 29 = .ok (.iload_n 1, 1) := by decide +kernel
theorem dX12_search_30 : decode cX12_search 30 = .ok (.sipush 144, 3) := by decide +kernel
theorem dX12_search_33 : decode cX12_search 33 = .ok (.if_icmp .ge 35, 3) := by decide +kernel
theorem dX12_search_36 : decode cX12_search 36 = .ok (.aload_n 0, 1) := by decide +kernel
theorem dX12_search_37 : decode cX12_search 37 = .ok (.iload_n 1, 1) := by decide +kernel
theorem dX12_search_38 : decode cX12_search 38 = .ok (.invokevirtual 371, 3) := by decide +kernel
theorem dX12_search_41 : decode cX12_search 41 = .ok (.ifCond .eq 21, 3) := by decide +kernel
theorem dX12_search_44 : decode cX12_search 44 = .ok (.aload_n 0, 1) := by decide +kernel
theorem dX12_search_45 : decode cX12_search 45 = .ok (.iload_n 1, 1) := by decide +kernel
theorem dX12_search_46 : decode cX12_search 46 = .ok (.invokevirtual 356, 3) := by decide +kernel
theorem dX12_search_49 : decode cX12_search 49 = .ok (.ifCond .eq 13, 3) := by decide +kernel
theorem dX12_search_52 : decode cX12_search 52 = .ok (.aload_n 0, 1) := by decide +kernel
theorem dX12_search_53 : decode cX12_search 53 = .ok (.iconst 2, 1) := by decide +kernel
theorem dX12_search_54 : decode cX12_search 54 = .ok (.iload_n 1, 1) := by decide +kernel
theorem dX12_search_55 : decode cX12_search 55 = .ok (.imul, 1) := by decide +kernel
theorem dX12_search_56 : decode cX12_search 56 = .ok (.sipush 1000, 3) := by decide +kernel
theorem dX12_search_59 : decode cX12_search 59 = .ok (.invokevirtual 374, 3) := by decide +kernel
theorem dX12_search_62 : decode cX12_search 62 = .ok (.iinc 1 1, 3) := by decide +kernel
theorem dX12_search_65 : decode cX12_search 65 = .ok (.goto (-36), 3) := by decide +kernel
theorem dX12_search_68 : decode cX12_search 68 = .ok (.iconst 0, 1) := by decide +kernel
theorem dX12_search_69 : decode cX12_search 69 = .ok (.istore_n 1, 1) := by decide +kernel
theorem dX12_search_70 : decode cX12_search 70 = .ok (.iload_n 1, 1) := by decide +kernel
theorem dX12_search_71 : decode cX12_search 71 = .ok (.aload_n 0, 1) := by decide +kernel
theorem dX12_search_72 : decode cX12_search 72 = .ok (.getfield 368, 3) := by decide +kernel
theorem dX12_search_75 : decode cX12_search 75 = .ok (.if_icmp .ge 195, 3) := by decide +kernel
theorem dX12_search_78 : decode cX12_search 78 = .ok (.aload_n 0, 1) := by decide +kernel
theorem dX12_search_79 : decode cX12_search 79 = .ok (.getfield 64, 3) := by decide +kernel
theorem dX12_search_82 : decode cX12_search 82 = .ok (.iload_n 1, 1) := by decide +kernel
theorem dX12_search_83 : decode cX12_search 83 = .ok (.iaload, 1) := by decide +kernel
theorem dX12_search_84 : decode cX12_search 84 = .ok (.istore_n 2, 1) := by decide +kernel
theorem dX12_search_85 : decode cX12_search 85 = .ok (.iinc 1 1, 3) := by decide +kernel
theorem dX12_search_88 : decode cX12_search 88 = .ok (.iload_n 2, 1) := by decide +kernel
theorem dX12_search_89 : decode cX12_search 89 = .ok (.iconst 2, 1) := by decide +kernel
theorem dX12_search_90 : decode cX12_search 90 = .ok (.idiv, 1) := by decide +kernel
theorem dX12_search_91 : decode cX12_search 91 = .ok (.istore_n 3, 1) := by decide +kernel
theorem dX12_search_92 : decode cX12_search 92 = .ok (.iload_n 2, 1) := by decide +kernel
theorem dX12_search_93 : decode cX12_search 93 = .ok (.iconst 2, 1) := by decide +kernel
theorem dX12_search_94 : decode cX12_search 94 = .ok (.irem, 1) := by decide +kernel
theorem dX12_search_95 : decode cX12_search 95 = .ok (.iconst 1, 1) := by decide +kernel
theorem dX12_search_96 : decode cX12_search 96 = .ok (.if_icmp .ne 12, 3) := by decide +kernel
theorem dX12_search_99 : decode cX12_search 99 = .ok (.iload_n 3, 1) := by decide +kernel
theorem dX12_search_100 : decode cX12_search 100 = .ok (.invokestatic 359, 3) := by decide +kernel
theorem dX12_search_103 : decode cX12_search 103 = .ok (.ifCond .eq 5, 3) := by decide +kernel
theorem dX12_search_106 : decode cX12_search 106 = .ok (.iload_n 2, 1) := by decide +kernel
theorem dX12_search_107 : decode cX12_search 107 = .ok (.ireturn, 1) := by decide +kernel
theorem dX12_search_108 : decode cX12_search 108 = .ok (.iload_n 2, 1) := by decide +kernel
theorem dX12_search_109 : decode cX12_search 109 = .ok (.iconst 2, 1) := by decide +kernel
theorem dX12_search_110 : decode cX12_search 110 = .ok (.irem, 1) := by decide +kernel
theorem dX12_search_111 : decode cX12_search 111 = .ok (.iconst 1, 1) := by decide +kernel
theorem dX12_search_112 : decode cX12_search 112 = .ok (.if_icmp .ne 70, 3) := by decide +kernel
theorem dX12_search_115 : decode cX12_search 115 = .ok (.aload_n 0, 1) := by decide +kernel
theorem dX12_search_116 : decode cX12_search 116 = .ok (.getfield 55, 3) := by decide +kernel
theorem dX12_search_119 : decode cX12_search 119 = .ok (.iload_n 3, 1) := by decide +kernel
theorem dX12_search_120 : decode cX12_search 120 = .ok (.baload, 1) := by decide +kernel
theorem dX12_search_121 : decode cX12_search 121 = .ok (.ifCond .eq 11, 3) := by decide +kernel
theorem dX12_search_124 : decode cX12_search 124 = .ok (.aload_n 0, 1) := by decide +kernel
theorem dX12_search_125 : decode cX12_search 125 = .ok (.iconst 2, 1) := by decide +kernel
theorem dX12_search_126 : decode cX12_search 126 = .ok (.iload_n 3, 1) := by decide +kernel
theorem dX12_search_127 : decode cX12_search 127 = .ok (.imul, 1) := by decide +kernel
theorem dX12_search_128 : decode cX12_search 128 = .ok (.iload_n 2, 1) := by decide +kernel
theorem dX12_search_129 : decode cX12_search 129 = .ok (.invokevirtual 374, 3) := by decide +kernel
theorem dX12_search_132 : decode cX12_search 132 = .ok (.iconst 0, 1) := by decide +kernel
theorem dX12_search_133 : decode cX12_search 133 = .ok (.istore 4, 2) := by decide +kernel
theorem dX12_search_135 : decode cX12_search 135 = .ok (.iload 4, 2) := by decide +kernel
theorem dX12_search_137 : decode cX12_search 137 = .ok (.iconst 4, 1) := by decide +kernel
theorem dX12_search_138 : decode cX12_search 138 = .ok (.if_icmp .ge 41, 3) := by decide +kernel
theorem dX12_search_141 : decode cX12_search 141 = .ok (.iload_n 3, 1) := by decide +kernel
theorem dX12_search_142 : decode cX12_search 142 = .ok (.iload 4, 2) := by decide +kernel
theorem dX12_search_144 : decode cX12_search 144 = .ok (.invokestatic 304, 3) := by decide +kernel
theorem dX12_search_147 : decode cX12_search 147 = .ok (.istore 5, 2) := by decide +kernel
theorem dX12_search_149 : decode cX12_search 149 = .ok (.iload 5, 2) := by decide +kernel
theorem dX12_search_151 : decode cX12_search 151 = .ok (.iconst (-1), 1) := by decide +kernel
theorem dX12_search_152 : decode cX12_search 152 = .ok (.if_icmp .eq 21, 3) := by decide +kernel
theorem dX12_search_155 : decode cX12_search 155 = .ok (.aload_n 0, 1) := by decide +kernel
theorem dX12_search_156 : decode cX12_search 156 = .ok (.iload 5, 2) := by decide +kernel
theorem dX12_search_158 : decode cX12_search 158 = .ok (.invokevirtual 371, 3) := by decide +kernel
theorem dX12_search_161 : decode cX12_search 161 = .ok (.ifCond .eq 12, 3) := by decide +kernel
theorem dX12_search_164 : decode cX12_search 164 = .ok (.aload_n 0, 1) := by decide +kernel
theorem dX12_search_165 : decode cX12_search 165 = .ok (.iconst 2, 1) := by decide +kernel
theorem dX12_search_166 : decode cX12_search 166 = .ok (.iload 5, 2) := by decide +kernel
theorem dX12_search_168 : decode cX12_search 168 = .ok (.imul, 1) := by decide +kernel
theorem dX12_search_169 : decode cX12_search 169 = .ok (.iload_n 2, 1) := by decide +kernel
theorem dX12_search_170 : decode cX12_search 170 = .ok (.invokevirtual 374, 3) := by decide +kernel
theorem dX12_search_173 : decode cX12_search 173 = .ok (.iinc 4 1, 3) := by decide +kernel
theorem dX12_search_176 : decode cX12_search 176 = .ok (.goto (-41), 3) := by decide +kernel
theorem dX12_search_179 : decode cX12_search 179 = .ok (.goto 88, 3) := by decide +kernel
theorem dX12_search_182 : decode cX12_search 182 = .ok (.aload_n 0, 1) := by decide +kernel
theorem dX12_search_183 : decode cX12_search 183 = .ok (.getfield 55, 3) := by decide +kernel
theorem dX12_search_186 : decode cX12_search 186 = .ok (.iload_n 3, 1) := by decide +kernel
theorem dX12_search_187 : decode cX12_search 187 = .ok (.baload, 1) := by decide +kernel
theorem dX12_search_188 : decode cX12_search 188 = .ok (.ifCond .ne 13, 3) := by decide +kernel
theorem dX12_search_191 : decode cX12_search 191 = .ok (.aload_n 0, 1) := by decide +kernel
theorem dX12_search_192 : decode cX12_search 192 = .ok (.iconst 2, 1) := by decide +kernel
theorem dX12_search_193 : decode cX12_search 193 = .ok (.iload_n 3, 1) := by decide +kernel
theorem dX12_search_194 : decode cX12_search 194 = .ok (.imul, 1) := by decide +kernel
theorem dX12_search_195 : decode cX12_search 195 = .ok (.iconst 1, 1) := by decide +kernel
theorem dX12_search_196 : decode cX12_search 196 = .ok (.iadd, 1) := by decide +kernel
theorem dX12_search_197 : decode cX12_search 197 = .ok (.iload_n 2, 1) := by decide +kernel
theorem dX12_search_198 : decode cX12_search 198 = .ok (.invokevirtual 374, 3) := by decide +kernel
theorem dX12_search_201 : decode cX12_search 201 = .ok (.iconst 0, 1) := by decide +kernel
theorem dX12_search_202 : decode cX12_search 202 = .ok (.istore 4, 2) := by decide +kernel
theorem dX12_search_204 : decode cX12_search 204 = .ok (.iload 4, 2) := by decide +kernel
theorem dX12_search_206 : decode cX12_search 206 = .ok (.iconst 4, 1) := by decide +kernel
theorem dX12_search_207 : decode cX12_search 207 = .ok (.if_icmp .ge 60, 3) := by decide +kernel
theorem dX12_search_210 : decode cX12_search 210 = .ok (.iload_n 3, 1) := by decide +kernel
theorem dX12_search_211 : decode cX12_search 211 = .ok (.iload 4, 2) := by decide +kernel
theorem dX12_search_213 : decode cX12_search 213 = .ok (.invokestatic 304, 3) := by decide +kernel
theorem dX12_search_216 : decode cX12_search 216 = .ok (.istore 5, 2) := by decide +kernel
theorem dX12_search_218 : decode cX12_search 218 = .ok (.iload 5, 2) := by decide +kernel
theorem dX12_search_220 : decode cX12_search 220 = .ok (.iconst (-1), 1) := by decide +kernel
theorem dX12_search_221 : decode cX12_search 221 = .ok (.if_icmp .eq 40, 3) := by decide +kernel
theorem dX12_search_224 : decode cX12_search 224 = .ok (.aload_n 0, 1) := by decide +kernel
theorem dX12_search_225 : decode cX12_search 225 = .ok (.iload 5, 2) := by decide +kernel
theorem dX12_search_227 : decode cX12_search 227 = .ok (.invokevirtual 371, 3) := by decide +kernel
theorem dX12_search_230 : decode cX12_search 230 = .ok (.ifCond .eq 31, 3) := by decide +kernel
theorem dX12_search_233 : decode cX12_search 233 = .ok (.aload_n 0, 1) := by decide +kernel
theorem dX12_search_234 : decode cX12_search 234 = .ok (.getfield 58, 3) := by decide +kernel
theorem dX12_search_237 : decode cX12_search 237 = .ok (.iconst 4, 1) := by decide +kernel
theorem dX12_search_238 : decode cX12_search 238 = .ok (.iload 5, 2) := by decide +kernel
theorem dX12_search_240 : decode cX12_search 240 = .ok (.imul, 1) := by decide +kernel
theorem dX12_search_241 : decode cX12_search 241 = .ok (.iload 4, 2) := by decide +kernel
theorem dX12_search_243 : decode cX12_search 243 = .ok (.iconst 1, 1) := by decide +kernel
theorem dX12_search_244 : decode cX12_search 244 = .ok (.ixor, 1) := by decide +kernel
theorem dX12_search_245 : decode cX12_search 245 = .ok (.iadd, 1) := by decide +kernel
theorem dX12_search_246 : decode cX12_search 246 = .ok (.baload, 1) := by decide +kernel
theorem dX12_search_247 : decode cX12_search 247 = .ok (.ifCond .eq 14, 3) := by decide +kernel
theorem dX12_search_250 : decode cX12_search 250 = .ok (.aload_n 0, 1) := by decide +kernel
theorem dX12_search_251 : decode cX12_search 251 = .ok (.iconst 2, 1) := by decide +kernel
theorem dX12_search_252 : decode cX12_search 252 = .ok (.iload 5, 2) := by decide +kernel
theorem dX12_search_254 : decode cX12_search 254 = .ok (.imul, 1) := by decide +kernel
theorem dX12_search_255 : decode cX12_search 255 = .ok (.iconst 1, 1) := by decide +kernel
theorem dX12_search_256 : decode cX12_search 256 = .ok (.iadd, 1) := by decide +kernel
theorem dX12_search_257 : decode cX12_search 257 = .ok (.iload_n 2, 1) := by decide +kernel
theorem dX12_search_258 : decode cX12_search 258 = .ok (.invokevirtual 374, 3) := by decide +kernel
theorem dX12_search_261 : decode cX12_search 261 = .ok (.iinc 4 1, 3) := by decide +kernel
theorem dX12_search_264 : decode cX12_search 264 = .ok (.goto (-60), 3) := by decide +kernel
theorem dX12_search_267 : decode cX12_search 267 = .ok (.goto (-197), 3) := by decide +kernel
theorem dX12_search_270 : decode cX12_search 270 = .ok (.iconst (-1), 1) := by decide +kernel
theorem dX12_search_271 : decode cX12_search 271 = .ok (.ireturn, 1) := by decide +kernel
theorem cw_X12_search_304 : CwS mi_X12_search mi_X12_beside yX12_beside 304 2 := ⟨⟨w_1519, w_1520, w_108, w_1521⟩, ⟨by decide, by decide⟩, by decide +kernel, by decide, by decide⟩
theorem cw_X12_search_371 : CwV mi_X12_search mi_X12_isOpen yX12_isOpen RX12 371 1 := ⟨⟨w_1637, w_1639, w_84, w_108, w_1640⟩, ⟨by decide, by decide⟩, by decide +kernel, by decide, by decide⟩
theorem cw_X12_search_374 : CwV mi_X12_search mi_X12_reach yX12_reach RX12 374 2 := ⟨⟨w_1641, w_1643, w_85, w_108, w_1644⟩, ⟨by decide, by decide⟩, by decide +kernel, by decide, by decide⟩
theorem cw_X12_search_359 : CwS mi_X12_search mi_X12_isRim yX12_isRim 359 1 := ⟨⟨w_1575, w_1576, w_108, w_1577⟩, ⟨by decide, by decide⟩, by decide +kernel, by decide, by decide⟩
theorem cw_X12_search_356 : CwV mi_X12_search mi_X12_isBesideShaft yX12_isBesideShaft RX12 356 1 := ⟨⟨w_1571, w_1573, w_78, w_108, w_1574⟩, ⟨by decide, by decide⟩, by decide +kernel, by decide, by decide⟩
theorem j_X12_search_B267 {l : Launch} {Γ : Am} {k70 : Nat → Int32 → Hp → Option (Int32 × Hp)} (hL70 : ∀ (r0 : Nat) (v1 : Int32) (z : Hp), J l Γ mi_X12_search cvI 0 0 70 [(0, .ref (mB Γ + r0)), (1, .int v1)] [] z (k70 r0 v1 z)) : ∀ (r0 : Nat) (v1 : Int32) (z : Hp), J l Γ mi_X12_search cvI 0 0 267 [(0, .ref (mB Γ + r0)), (1, .int v1)] [] z (m_X12_search_B267 k70 r0 v1 z) := by
  intro r0 v1 z
  unfold m_X12_search_B267
  refine j_goto (pc := 267) 70 dX12_search_267 (by decide) ?_
  exact J.sub [0, 1] rfl (hL70 r0 v1 z)
theorem j_X12_search_B261 {l : Launch} {Γ : Am} {k204 : Nat → Int32 → Int32 → Int32 → Int32 → Hp → Option (Int32 × Hp)} (hL204 : ∀ (r0 : Nat) (v1 : Int32) (v2 : Int32) (v3 : Int32) (v4 : Int32) (z : Hp), J l Γ mi_X12_search cvI 0 0 204 [(0, .ref (mB Γ + r0)), (1, .int v1), (2, .int v2), (3, .int v3), (4, .int v4)] [] z (k204 r0 v1 v2 v3 v4 z)) : ∀ (r0 : Nat) (v1 : Int32) (v2 : Int32) (v3 : Int32) (v4 : Int32) (z : Hp), J l Γ mi_X12_search cvI 0 0 261 [(0, .ref (mB Γ + r0)), (1, .int v1), (2, .int v2), (3, .int v3), (4, .int v4)] [] z (m_X12_search_B261 k204 r0 v1 v2 v3 v4 z) := by
  intro r0 v1 v2 v3 v4 z
  unfold m_X12_search_B261
  refine j_iinc (pc := 261) (n0 := 4) (v0 := v4 + 1) (lv2 := [(4, .int (v4 + 1)), (0, .ref (mB Γ + r0)), (1, .int v1), (2, .int v2), (3, .int v3)]) dX12_search_261 rfl rfl (by decide) rfl ?_
  refine j_goto (pc := 264) 204 dX12_search_264 (by decide) ?_
  exact J.sub [1, 2, 3, 4, 0] rfl (hL204 r0 v1 v2 v3 (v4 + 1) z)
theorem j_X12_search_L204 {l : Launch} {Γ : Am} {k267 : Nat → Int32 → Hp → Option (Int32 × Hp)} (hL267 : ∀ (r0 : Nat) (v1 : Int32) (z : Hp), J l Γ mi_X12_search cvI 0 0 267 [(0, .ref (mB Γ + r0)), (1, .int v1)] [] z (k267 r0 v1 z)) : ∀ (f : Nat), ∀ (r0 : Nat) (v1 : Int32) (v2 : Int32) (v3 : Int32) (v4 : Int32) (z : Hp), J l Γ mi_X12_search cvI 0 0 204 [(0, .ref (mB Γ + r0)), (1, .int v1), (2, .int v2), (3, .int v3), (4, .int v4)] [] z (m_X12_search_L204 k267 f r0 v1 v2 v3 v4 z) := by
  intro f
  induction f with
  | zero => intro r0 v1 v2 v3 v4 z; exact J.none
  | succ f hL204 =>
    intro r0 v1 v2 v3 v4 z
    rw [m_X12_search_L204]
    refine j_iload (pc := 204) 4 dX12_search_204 rfl ?_
    refine j_iconst (pc := 206) (v := 4) dX12_search_206 (by decide) ?_
    refine j_icmp_ge (pc := 207) 267 dX12_search_207 (by decide) ?_ ?_
    · exact J.sub [0, 1] rfl (hL267 r0 v1 z)
    refine j_iload_n (pc := 210) 3 dX12_search_210 rfl rfl ?_
    refine j_iload (pc := 211) 4 dX12_search_211 rfl ?_
    refine j_callS_I (pc := 213) (as := [.int v3, .int v4]) (mc2 := 0) (ms2 := 0) (ct_X12_beside _ _ _) cw_X12_search_304 dX12_search_213 (Nat.le_of_ble_eq_true rfl) rfl (by decide) (by decide) (fun x2 z1 => ?_)
    refine j_istore (pc := 216) (lv2 := [(5, .int x2), (0, .ref (mB Γ + r0)), (1, .int v1), (2, .int v2), (3, .int v3), (4, .int v4)]) dX12_search_216 (by decide) rfl ?_
    refine j_iload (pc := 218) 0 dX12_search_218 rfl ?_
    refine j_iconst (pc := 220) (v := (-1)) dX12_search_220 (by decide) ?_
    refine j_icmp_eq (pc := 221) 261 dX12_search_221 (by decide) ?_ ?_
    · exact J.sub [1, 2, 3, 4, 5] rfl ((j_X12_search_B261 hL204) r0 v1 v2 v3 v4 z1)
    refine j_aload_n (pc := 224) 1 dX12_search_224 rfl rfl ?_
    refine j_iload (pc := 225) 0 dX12_search_225 rfl ?_
    refine j_isC (fun h5 => ?_)
    refine j_callV_I (pc := 227) (as := [.int x2]) (mc2 := 0) (ms2 := 0) (ct_X12_isOpen _ _ _) h5 rfl cw_X12_search_371 dX12_search_227 (Nat.le_of_ble_eq_true rfl) rfl (by decide) (by decide) (fun x4 z3 => ?_)
    refine j_if_eq (pc := 230) 261 dX12_search_230 (by decide) ?_ ?_
    · exact J.sub [1, 2, 3, 4, 5] rfl ((j_X12_search_B261 hL204) r0 v1 v2 v3 v4 z3)
    refine j_aload_n (pc := 233) 1 dX12_search_233 rfl rfl ?_
    refine j_getR (pc := 234) ok_X12 (by decide) rfl w_1266 dX12_search_234 (fun a6 => ?_)
    refine j_iconst (pc := 237) (v := 4) dX12_search_237 (by decide) ?_
    refine j_iload (pc := 238) 0 dX12_search_238 rfl ?_
    refine j_imul (pc := 240) dX12_search_240 ?_
    refine j_iload (pc := 241) 5 dX12_search_241 rfl ?_
    refine j_iconst (pc := 243) (v := 1) dX12_search_243 (by decide) ?_
    refine j_ixor (pc := 244) dX12_search_244 ?_
    refine j_iadd (pc := 245) dX12_search_245 ?_
    refine j_zaload (pc := 246) dX12_search_246 (fun x7 => ?_)
    refine j_if_eq (pc := 247) 261 dX12_search_247 (by decide) ?_ ?_
    · exact J.sub [1, 2, 3, 4, 5] rfl ((j_X12_search_B261 hL204) r0 v1 v2 v3 v4 z3)
    refine j_aload_n (pc := 250) 1 dX12_search_250 rfl rfl ?_
    refine j_iconst (pc := 251) (v := 2) dX12_search_251 (by decide) ?_
    refine j_iload (pc := 252) 0 dX12_search_252 rfl ?_
    refine j_imul (pc := 254) dX12_search_254 ?_
    refine j_iconst (pc := 255) (v := 1) dX12_search_255 (by decide) ?_
    refine j_iadd (pc := 256) dX12_search_256 ?_
    refine j_iload_n (pc := 257) 3 dX12_search_257 rfl rfl ?_
    refine j_isC (fun h9 => ?_)
    refine j_callV_V (pc := 258) (as := [.int ((2 * x2) + 1), .int v2]) (mc2 := 0) (ms2 := 0) (ct_X12_reach _ _ _ _) h9 rfl cw_X12_search_374 dX12_search_258 (Nat.le_of_ble_eq_true rfl) rfl (by decide) (by decide) (fun _ z8 => ?_)
    exact J.sub [1, 2, 3, 4, 5] rfl ((j_X12_search_B261 hL204) r0 v1 v2 v3 v4 z8)
theorem j_X12_search_B201 {l : Launch} {Γ : Am} {k70 : Nat → Int32 → Hp → Option (Int32 × Hp)} (hL70 : ∀ (r0 : Nat) (v1 : Int32) (z : Hp), J l Γ mi_X12_search cvI 0 0 70 [(0, .ref (mB Γ + r0)), (1, .int v1)] [] z (k70 r0 v1 z)) : ∀ (r0 : Nat) (v1 : Int32) (v2 : Int32) (v3 : Int32) (z : Hp), J l Γ mi_X12_search cvI 0 0 201 [(0, .ref (mB Γ + r0)), (1, .int v1), (2, .int v2), (3, .int v3)] [] z (m_X12_search_B201 k70 r0 v1 v2 v3 z) := by
  intro r0 v1 v2 v3 z
  unfold m_X12_search_B201
  refine j_iconst (pc := 201) (v := 0) dX12_search_201 (by decide) ?_
  refine j_istore (pc := 202) (lv2 := [(4, .int 0), (0, .ref (mB Γ + r0)), (1, .int v1), (2, .int v2), (3, .int v3)]) dX12_search_202 (by decide) rfl ?_
  exact J.sub [1, 2, 3, 4, 0] rfl ((j_X12_search_L204 (j_X12_search_B267 hL70) FU) r0 v1 v2 v3 0 z)
theorem j_X12_search_B179 {l : Launch} {Γ : Am} {k70 : Nat → Int32 → Hp → Option (Int32 × Hp)} (hL70 : ∀ (r0 : Nat) (v1 : Int32) (z : Hp), J l Γ mi_X12_search cvI 0 0 70 [(0, .ref (mB Γ + r0)), (1, .int v1)] [] z (k70 r0 v1 z)) : ∀ (r0 : Nat) (v1 : Int32) (z : Hp), J l Γ mi_X12_search cvI 0 0 179 [(0, .ref (mB Γ + r0)), (1, .int v1)] [] z (m_X12_search_B179 k70 r0 v1 z) := by
  intro r0 v1 z
  unfold m_X12_search_B179
  refine j_goto (pc := 179) 267 dX12_search_179 (by decide) ?_
  exact J.sub [0, 1] rfl ((j_X12_search_B267 hL70) r0 v1 z)
theorem j_X12_search_B173 {l : Launch} {Γ : Am} {k135 : Nat → Int32 → Int32 → Int32 → Int32 → Hp → Option (Int32 × Hp)} (hL135 : ∀ (r0 : Nat) (v1 : Int32) (v2 : Int32) (v3 : Int32) (v4 : Int32) (z : Hp), J l Γ mi_X12_search cvI 0 0 135 [(0, .ref (mB Γ + r0)), (1, .int v1), (2, .int v2), (3, .int v3), (4, .int v4)] [] z (k135 r0 v1 v2 v3 v4 z)) : ∀ (r0 : Nat) (v1 : Int32) (v2 : Int32) (v3 : Int32) (v4 : Int32) (z : Hp), J l Γ mi_X12_search cvI 0 0 173 [(0, .ref (mB Γ + r0)), (1, .int v1), (2, .int v2), (3, .int v3), (4, .int v4)] [] z (m_X12_search_B173 k135 r0 v1 v2 v3 v4 z) := by
  intro r0 v1 v2 v3 v4 z
  unfold m_X12_search_B173
  refine j_iinc (pc := 173) (n0 := 4) (v0 := v4 + 1) (lv2 := [(4, .int (v4 + 1)), (0, .ref (mB Γ + r0)), (1, .int v1), (2, .int v2), (3, .int v3)]) dX12_search_173 rfl rfl (by decide) rfl ?_
  refine j_goto (pc := 176) 135 dX12_search_176 (by decide) ?_
  exact J.sub [1, 2, 3, 4, 0] rfl (hL135 r0 v1 v2 v3 (v4 + 1) z)
theorem j_X12_search_L135 {l : Launch} {Γ : Am} {k179 : Nat → Int32 → Hp → Option (Int32 × Hp)} (hL179 : ∀ (r0 : Nat) (v1 : Int32) (z : Hp), J l Γ mi_X12_search cvI 0 0 179 [(0, .ref (mB Γ + r0)), (1, .int v1)] [] z (k179 r0 v1 z)) : ∀ (f : Nat), ∀ (r0 : Nat) (v1 : Int32) (v2 : Int32) (v3 : Int32) (v4 : Int32) (z : Hp), J l Γ mi_X12_search cvI 0 0 135 [(0, .ref (mB Γ + r0)), (1, .int v1), (2, .int v2), (3, .int v3), (4, .int v4)] [] z (m_X12_search_L135 k179 f r0 v1 v2 v3 v4 z) := by
  intro f
  induction f with
  | zero => intro r0 v1 v2 v3 v4 z; exact J.none
  | succ f hL135 =>
    intro r0 v1 v2 v3 v4 z
    rw [m_X12_search_L135]
    refine j_iload (pc := 135) 4 dX12_search_135 rfl ?_
    refine j_iconst (pc := 137) (v := 4) dX12_search_137 (by decide) ?_
    refine j_icmp_ge (pc := 138) 179 dX12_search_138 (by decide) ?_ ?_
    · exact J.sub [0, 1] rfl (hL179 r0 v1 z)
    refine j_iload_n (pc := 141) 3 dX12_search_141 rfl rfl ?_
    refine j_iload (pc := 142) 4 dX12_search_142 rfl ?_
    refine j_callS_I (pc := 144) (as := [.int v3, .int v4]) (mc2 := 0) (ms2 := 0) (ct_X12_beside _ _ _) cw_X12_search_304 dX12_search_144 (Nat.le_of_ble_eq_true rfl) rfl (by decide) (by decide) (fun x11 z10 => ?_)
    refine j_istore (pc := 147) (lv2 := [(5, .int x11), (0, .ref (mB Γ + r0)), (1, .int v1), (2, .int v2), (3, .int v3), (4, .int v4)]) dX12_search_147 (by decide) rfl ?_
    refine j_iload (pc := 149) 0 dX12_search_149 rfl ?_
    refine j_iconst (pc := 151) (v := (-1)) dX12_search_151 (by decide) ?_
    refine j_icmp_eq (pc := 152) 173 dX12_search_152 (by decide) ?_ ?_
    · exact J.sub [1, 2, 3, 4, 5] rfl ((j_X12_search_B173 hL135) r0 v1 v2 v3 v4 z10)
    refine j_aload_n (pc := 155) 1 dX12_search_155 rfl rfl ?_
    refine j_iload (pc := 156) 0 dX12_search_156 rfl ?_
    refine j_isC (fun h14 => ?_)
    refine j_callV_I (pc := 158) (as := [.int x11]) (mc2 := 0) (ms2 := 0) (ct_X12_isOpen _ _ _) h14 rfl cw_X12_search_371 dX12_search_158 (Nat.le_of_ble_eq_true rfl) rfl (by decide) (by decide) (fun x13 z12 => ?_)
    refine j_if_eq (pc := 161) 173 dX12_search_161 (by decide) ?_ ?_
    · exact J.sub [1, 2, 3, 4, 5] rfl ((j_X12_search_B173 hL135) r0 v1 v2 v3 v4 z12)
    refine j_aload_n (pc := 164) 1 dX12_search_164 rfl rfl ?_
    refine j_iconst (pc := 165) (v := 2) dX12_search_165 (by decide) ?_
    refine j_iload (pc := 166) 0 dX12_search_166 rfl ?_
    refine j_imul (pc := 168) dX12_search_168 ?_
    refine j_iload_n (pc := 169) 3 dX12_search_169 rfl rfl ?_
    refine j_isC (fun h16 => ?_)
    refine j_callV_V (pc := 170) (as := [.int (2 * x11), .int v2]) (mc2 := 0) (ms2 := 0) (ct_X12_reach _ _ _ _) h16 rfl cw_X12_search_374 dX12_search_170 (Nat.le_of_ble_eq_true rfl) rfl (by decide) (by decide) (fun _ z15 => ?_)
    exact J.sub [1, 2, 3, 4, 5] rfl ((j_X12_search_B173 hL135) r0 v1 v2 v3 v4 z15)
theorem j_X12_search_B132 {l : Launch} {Γ : Am} {k70 : Nat → Int32 → Hp → Option (Int32 × Hp)} (hL70 : ∀ (r0 : Nat) (v1 : Int32) (z : Hp), J l Γ mi_X12_search cvI 0 0 70 [(0, .ref (mB Γ + r0)), (1, .int v1)] [] z (k70 r0 v1 z)) : ∀ (r0 : Nat) (v1 : Int32) (v2 : Int32) (v3 : Int32) (z : Hp), J l Γ mi_X12_search cvI 0 0 132 [(0, .ref (mB Γ + r0)), (1, .int v1), (2, .int v2), (3, .int v3)] [] z (m_X12_search_B132 k70 r0 v1 v2 v3 z) := by
  intro r0 v1 v2 v3 z
  unfold m_X12_search_B132
  refine j_iconst (pc := 132) (v := 0) dX12_search_132 (by decide) ?_
  refine j_istore (pc := 133) (lv2 := [(4, .int 0), (0, .ref (mB Γ + r0)), (1, .int v1), (2, .int v2), (3, .int v3)]) dX12_search_133 (by decide) rfl ?_
  exact J.sub [1, 2, 3, 4, 0] rfl ((j_X12_search_L135 (j_X12_search_B179 hL70) FU) r0 v1 v2 v3 0 z)
theorem j_X12_search_B108 {l : Launch} {Γ : Am} {k70 : Nat → Int32 → Hp → Option (Int32 × Hp)} (hL70 : ∀ (r0 : Nat) (v1 : Int32) (z : Hp), J l Γ mi_X12_search cvI 0 0 70 [(0, .ref (mB Γ + r0)), (1, .int v1)] [] z (k70 r0 v1 z)) : ∀ (r0 : Nat) (v1 : Int32) (v2 : Int32) (v3 : Int32) (z : Hp), J l Γ mi_X12_search cvI 0 0 108 [(0, .ref (mB Γ + r0)), (1, .int v1), (2, .int v2), (3, .int v3)] [] z (m_X12_search_B108 k70 r0 v1 v2 v3 z) := by
  intro r0 v1 v2 v3 z
  unfold m_X12_search_B108
  refine j_iload_n (pc := 108) 2 dX12_search_108 rfl rfl ?_
  refine j_iconst (pc := 109) (v := 2) dX12_search_109 (by decide) ?_
  refine j_irem (pc := 110) dX12_search_110 (by decide) ?_
  refine j_iconst (pc := 111) (v := 1) dX12_search_111 (by decide) ?_
  refine j_icmp_ne (pc := 112) 182 dX12_search_112 (by decide) ?_ ?_
  · refine j_aload_n (pc := 182) 0 dX12_search_182 rfl rfl ?_
    refine j_getR (pc := 183) ok_X12 (by decide) rfl w_1265 dX12_search_183 (fun a17 => ?_)
    refine j_iload_n (pc := 186) 3 dX12_search_186 rfl rfl ?_
    refine j_zaload (pc := 187) dX12_search_187 (fun x18 => ?_)
    refine j_if_ne (pc := 188) 201 dX12_search_188 (by decide) ?_ ?_
    · exact J.sub [0, 1, 2, 3] rfl ((j_X12_search_B201 hL70) r0 v1 v2 v3 z)
    refine j_aload_n (pc := 191) 0 dX12_search_191 rfl rfl ?_
    refine j_iconst (pc := 192) (v := 2) dX12_search_192 (by decide) ?_
    refine j_iload_n (pc := 193) 3 dX12_search_193 rfl rfl ?_
    refine j_imul (pc := 194) dX12_search_194 ?_
    refine j_iconst (pc := 195) (v := 1) dX12_search_195 (by decide) ?_
    refine j_iadd (pc := 196) dX12_search_196 ?_
    refine j_iload_n (pc := 197) 2 dX12_search_197 rfl rfl ?_
    refine j_isC (fun h20 => ?_)
    refine j_callV_V (pc := 198) (as := [.int ((2 * v3) + 1), .int v2]) (mc2 := 0) (ms2 := 0) (ct_X12_reach _ _ _ _) h20 rfl cw_X12_search_374 dX12_search_198 (Nat.le_of_ble_eq_true rfl) rfl (by decide) (by decide) (fun _ z19 => ?_)
    exact J.sub [0, 1, 2, 3] rfl ((j_X12_search_B201 hL70) r0 v1 v2 v3 z19)
  refine j_aload_n (pc := 115) 0 dX12_search_115 rfl rfl ?_
  refine j_getR (pc := 116) ok_X12 (by decide) rfl w_1265 dX12_search_116 (fun a21 => ?_)
  refine j_iload_n (pc := 119) 3 dX12_search_119 rfl rfl ?_
  refine j_zaload (pc := 120) dX12_search_120 (fun x22 => ?_)
  refine j_if_eq (pc := 121) 132 dX12_search_121 (by decide) ?_ ?_
  · exact J.sub [0, 1, 2, 3] rfl ((j_X12_search_B132 hL70) r0 v1 v2 v3 z)
  refine j_aload_n (pc := 124) 0 dX12_search_124 rfl rfl ?_
  refine j_iconst (pc := 125) (v := 2) dX12_search_125 (by decide) ?_
  refine j_iload_n (pc := 126) 3 dX12_search_126 rfl rfl ?_
  refine j_imul (pc := 127) dX12_search_127 ?_
  refine j_iload_n (pc := 128) 2 dX12_search_128 rfl rfl ?_
  refine j_isC (fun h24 => ?_)
  refine j_callV_V (pc := 129) (as := [.int (2 * v3), .int v2]) (mc2 := 0) (ms2 := 0) (ct_X12_reach _ _ _ _) h24 rfl cw_X12_search_374 dX12_search_129 (Nat.le_of_ble_eq_true rfl) rfl (by decide) (by decide) (fun _ z23 => ?_)
  exact J.sub [0, 1, 2, 3] rfl ((j_X12_search_B132 hL70) r0 v1 v2 v3 z23)
theorem j_X12_search_L70 {l : Launch} {Γ : Am}   : ∀ (f : Nat), ∀ (r0 : Nat) (v1 : Int32) (z : Hp), J l Γ mi_X12_search cvI 0 0 70 [(0, .ref (mB Γ + r0)), (1, .int v1)] [] z (m_X12_search_L70  f r0 v1 z) := by
  intro f
  induction f with
  | zero => intro r0 v1 z; exact J.none
  | succ f hL70 =>
    intro r0 v1 z
    rw [m_X12_search_L70]
    refine j_iload_n (pc := 70) 1 dX12_search_70 rfl rfl ?_
    refine j_aload_n (pc := 71) 0 dX12_search_71 rfl rfl ?_
    refine j_getI (pc := 72) ok_X12 (by decide) rfl w_1269 dX12_search_72 (fun x25 => ?_)
    refine j_icmp_ge (pc := 75) 270 dX12_search_75 (by decide) ?_ ?_
    · refine j_iconst (pc := 270) (v := (-1)) dX12_search_270 (by decide) ?_
      exact j_ireturn (pc := 271) dX12_search_271 rfl rfl
    refine j_aload_n (pc := 78) 0 dX12_search_78 rfl rfl ?_
    refine j_getR (pc := 79) ok_X12 (by decide) rfl w_1268 dX12_search_79 (fun a26 => ?_)
    refine j_iload_n (pc := 82) 1 dX12_search_82 rfl rfl ?_
    refine j_iaload (pc := 83) dX12_search_83 (fun x27 => ?_)
    refine j_istore_n (pc := 84) (lv2 := [(2, .int x27), (0, .ref (mB Γ + r0)), (1, .int v1)]) dX12_search_84 rfl (by decide) rfl ?_
    refine j_iinc (pc := 85) (n0 := 2) (v0 := v1 + 1) (lv2 := [(1, .int (v1 + 1)), (2, .int x27), (0, .ref (mB Γ + r0))]) dX12_search_85 rfl rfl (by decide) rfl ?_
    refine j_iload_n (pc := 88) 1 dX12_search_88 rfl rfl ?_
    refine j_iconst (pc := 89) (v := 2) dX12_search_89 (by decide) ?_
    refine j_idiv (pc := 90) dX12_search_90 (by decide) ?_
    refine j_istore_n (pc := 91) (lv2 := [(3, .int (x27 / 2)), (1, .int (v1 + 1)), (2, .int x27), (0, .ref (mB Γ + r0))]) dX12_search_91 rfl (by decide) rfl ?_
    refine j_iload_n (pc := 92) 2 dX12_search_92 rfl rfl ?_
    refine j_iconst (pc := 93) (v := 2) dX12_search_93 (by decide) ?_
    refine j_irem (pc := 94) dX12_search_94 (by decide) ?_
    refine j_iconst (pc := 95) (v := 1) dX12_search_95 (by decide) ?_
    refine j_icmp_ne (pc := 96) 108 dX12_search_96 (by decide) ?_ ?_
    · exact J.sub [3, 1, 2, 0] rfl ((j_X12_search_B108 hL70) r0 (v1 + 1) x27 (x27 / 2) z)
    refine j_iload_n (pc := 99) 0 dX12_search_99 rfl rfl ?_
    refine j_callS_I (pc := 100) (as := [.int (x27 / 2)]) (mc2 := 0) (ms2 := 0) (ct_X12_isRim _ _) cw_X12_search_359 dX12_search_100 (Nat.le_of_ble_eq_true rfl) rfl (by decide) (by decide) (fun x29 z28 => ?_)
    refine j_if_eq (pc := 103) 108 dX12_search_103 (by decide) ?_ ?_
    · exact J.sub [3, 1, 2, 0] rfl ((j_X12_search_B108 hL70) r0 (v1 + 1) x27 (x27 / 2) z28)
    refine j_iload_n (pc := 106) 2 dX12_search_106 rfl rfl ?_
    exact j_ireturn (pc := 107) dX12_search_107 rfl rfl
theorem j_X12_search_B68 {l : Launch} {Γ : Am}   : ∀ (r0 : Nat) (z : Hp), J l Γ mi_X12_search cvI 0 0 68 [(0, .ref (mB Γ + r0))] [] z (m_X12_search_B68  r0 z) := by
  intro r0 z
  unfold m_X12_search_B68
  refine j_iconst (pc := 68) (v := 0) dX12_search_68 (by decide) ?_
  refine j_istore_n (pc := 69) (lv2 := [(1, .int 0), (0, .ref (mB Γ + r0))]) dX12_search_69 rfl (by decide) rfl ?_
  exact J.sub [1, 0] rfl ((j_X12_search_L70 FU) r0 0 z)
theorem j_X12_search_B62 {l : Launch} {Γ : Am} {k29 : Nat → Int32 → Hp → Option (Int32 × Hp)} (hL29 : ∀ (r0 : Nat) (v1 : Int32) (z : Hp), J l Γ mi_X12_search cvI 0 0 29 [(0, .ref (mB Γ + r0)), (1, .int v1)] [] z (k29 r0 v1 z)) : ∀ (r0 : Nat) (v1 : Int32) (z : Hp), J l Γ mi_X12_search cvI 0 0 62 [(0, .ref (mB Γ + r0)), (1, .int v1)] [] z (m_X12_search_B62 k29 r0 v1 z) := by
  intro r0 v1 z
  unfold m_X12_search_B62
  refine j_iinc (pc := 62) (n0 := 1) (v0 := v1 + 1) (lv2 := [(1, .int (v1 + 1)), (0, .ref (mB Γ + r0))]) dX12_search_62 rfl rfl (by decide) rfl ?_
  refine j_goto (pc := 65) 29 dX12_search_65 (by decide) ?_
  exact J.sub [1, 0] rfl (hL29 r0 (v1 + 1) z)
theorem j_X12_search_L29 {l : Launch} {Γ : Am} {k68 : Nat → Hp → Option (Int32 × Hp)} (hL68 : ∀ (r0 : Nat) (z : Hp), J l Γ mi_X12_search cvI 0 0 68 [(0, .ref (mB Γ + r0))] [] z (k68 r0 z)) : ∀ (f : Nat), ∀ (r0 : Nat) (v1 : Int32) (z : Hp), J l Γ mi_X12_search cvI 0 0 29 [(0, .ref (mB Γ + r0)), (1, .int v1)] [] z (m_X12_search_L29 k68 f r0 v1 z) := by
  intro f
  induction f with
  | zero => intro r0 v1 z; exact J.none
  | succ f hL29 =>
    intro r0 v1 z
    rw [m_X12_search_L29]
    refine j_iload_n (pc := 29) 1 dX12_search_29 rfl rfl ?_
    refine j_sipush (pc := 30) (v := 144) dX12_search_30 (by decide) ?_
    refine j_icmp_ge (pc := 33) 68 dX12_search_33 (by decide) ?_ ?_
    · exact J.sub [0] rfl (hL68 r0 z)
    refine j_aload_n (pc := 36) 0 dX12_search_36 rfl rfl ?_
    refine j_iload_n (pc := 37) 1 dX12_search_37 rfl rfl ?_
    refine j_isC (fun h32 => ?_)
    refine j_callV_I (pc := 38) (as := [.int v1]) (mc2 := 0) (ms2 := 0) (ct_X12_isOpen _ _ _) h32 rfl cw_X12_search_371 dX12_search_38 (Nat.le_of_ble_eq_true rfl) rfl (by decide) (by decide) (fun x31 z30 => ?_)
    refine j_if_eq (pc := 41) 62 dX12_search_41 (by decide) ?_ ?_
    · exact J.sub [0, 1] rfl ((j_X12_search_B62 hL29) r0 v1 z30)
    refine j_aload_n (pc := 44) 0 dX12_search_44 rfl rfl ?_
    refine j_iload_n (pc := 45) 1 dX12_search_45 rfl rfl ?_
    refine j_isC (fun h35 => ?_)
    refine j_callV_I (pc := 46) (as := [.int v1]) (mc2 := 0) (ms2 := 0) (ct_X12_isBesideShaft _ _ _) h35 rfl cw_X12_search_356 dX12_search_46 (Nat.le_of_ble_eq_true rfl) rfl (by decide) (by decide) (fun x34 z33 => ?_)
    refine j_if_eq (pc := 49) 62 dX12_search_49 (by decide) ?_ ?_
    · exact J.sub [0, 1] rfl ((j_X12_search_B62 hL29) r0 v1 z33)
    refine j_aload_n (pc := 52) 0 dX12_search_52 rfl rfl ?_
    refine j_iconst (pc := 53) (v := 2) dX12_search_53 (by decide) ?_
    refine j_iload_n (pc := 54) 1 dX12_search_54 rfl rfl ?_
    refine j_imul (pc := 55) dX12_search_55 ?_
    refine j_sipush (pc := 56) (v := 1000) dX12_search_56 (by decide) ?_
    refine j_isC (fun h37 => ?_)
    refine j_callV_V (pc := 59) (as := [.int (2 * v1), .int 1000]) (mc2 := 0) (ms2 := 0) (ct_X12_reach _ _ _ _) h37 rfl cw_X12_search_374 dX12_search_59 (Nat.le_of_ble_eq_true rfl) rfl (by decide) (by decide) (fun _ z36 => ?_)
    exact J.sub [0, 1] rfl ((j_X12_search_B62 hL29) r0 v1 z36)
theorem j_X12_search_B22 {l : Launch} {Γ : Am}   : ∀ (r0 : Nat) (z : Hp), J l Γ mi_X12_search cvI 0 0 22 [(0, .ref (mB Γ + r0))] [] z (m_X12_search_B22  r0 z) := by
  intro r0 z
  unfold m_X12_search_B22
  refine j_aload_n (pc := 22) 0 dX12_search_22 rfl rfl ?_
  refine j_iconst (pc := 23) (v := 0) dX12_search_23 (by decide) ?_
  refine j_putI (pc := 24) ok_X12 (by decide) rfl w_1269 (Or.inl rfl) rfl rfl dX12_search_24 (fun z38 => ?_)
  refine j_iconst (pc := 27) (v := 0) dX12_search_27 (by decide) ?_
  refine j_istore_n (pc := 28) (lv2 := [(1, .int 0), (0, .ref (mB Γ + r0))]) dX12_search_28 rfl (by decide) rfl ?_
  exact J.sub [1, 0] rfl ((j_X12_search_L29 j_X12_search_B68 FU) r0 0 z38)
theorem j_X12_search_L2 {l : Launch} {Γ : Am} {k22 : Nat → Hp → Option (Int32 × Hp)} (hL22 : ∀ (r0 : Nat) (z : Hp), J l Γ mi_X12_search cvI 0 0 22 [(0, .ref (mB Γ + r0))] [] z (k22 r0 z)) : ∀ (f : Nat), ∀ (r0 : Nat) (v1 : Int32) (z : Hp), J l Γ mi_X12_search cvI 0 0 2 [(0, .ref (mB Γ + r0)), (1, .int v1)] [] z (m_X12_search_L2 k22 f r0 v1 z) := by
  intro f
  induction f with
  | zero => intro r0 v1 z; exact J.none
  | succ f hL2 =>
    intro r0 v1 z
    rw [m_X12_search_L2]
    refine j_iload_n (pc := 2) 1 dX12_search_2 rfl rfl ?_
    refine j_sipush (pc := 3) (v := 288) dX12_search_3 (by decide) ?_
    refine j_icmp_ge (pc := 6) 22 dX12_search_6 (by decide) ?_ ?_
    · exact J.sub [0] rfl (hL22 r0 z)
    refine j_aload_n (pc := 9) 0 dX12_search_9 rfl rfl ?_
    refine j_getR (pc := 10) ok_X12 (by decide) rfl w_1267 dX12_search_10 (fun a39 => ?_)
    refine j_iload_n (pc := 13) 1 dX12_search_13 rfl rfl ?_
    refine j_iconst (pc := 14) (v := (-1)) dX12_search_14 (by decide) ?_
    refine j_iastore (pc := 15) dX12_search_15 (fun z40 => ?_)
    refine j_iinc (pc := 16) (n0 := 1) (v0 := v1 + 1) (lv2 := [(1, .int (v1 + 1)), (0, .ref (mB Γ + r0))]) dX12_search_16 rfl rfl (by decide) rfl ?_
    refine j_goto (pc := 19) 2 dX12_search_19 (by decide) ?_
    exact J.sub [1, 0] rfl (hL2 r0 (v1 + 1) z40)
theorem ct_X12_search {l : Launch} {Γ : Am} (r0 : Nat) (z : Hp) : Ct l Γ yX12_search mi_X12_search cvI [.ref (mB Γ + r0)] z (m_X12_search r0 z) := by
  refine Ct.ofJ (by decide) ⟨rfl, rfl⟩ (Nat.le_of_ble_eq_true rfl) ?_
  unfold m_X12_search
  show J l Γ mi_X12_search cvI 0 0 0 [(0, .ref (mB Γ + r0))] [] z _
  refine j_iconst (pc := 0) (v := 0) dX12_search_0 (by decide) ?_
  refine j_istore_n (pc := 1) (lv2 := [(1, .int 0), (0, .ref (mB Γ + r0))]) dX12_search_1 rfl (by decide) rfl ?_
  exact J.sub [1, 0] rfl ((j_X12_search_L2 j_X12_search_B22 FU) r0 0 z)
theorem dX12_wayTo_0 : decode cX12_wayTo 0 = .ok (.iconst 0, 1) := by decide +kernel
theorem dX12_wayTo_1 : decode cX12_wayTo 1 = .ok (.istore_n 2, 1) := by decide +kernel
theorem dX12_wayTo_2 : decode cX12_wayTo 2 = .ok (.iload_n 0, 1) := by decide +kernel
theorem dX12_wayTo_3 : decode cX12_wayTo 3 = .ok (.iload_n 2, 1) := by decide +kernel
theorem dX12_wayTo_4 : decode cX12_wayTo 4 = .ok (.invokestatic 304, 3) := by decide +kernel
theorem dX12_wayTo_7 : decode cX12_wayTo 7 = .ok (.iload_n 1, 1) := by decide +kernel
theorem dX12_wayTo_8 : decode cX12_wayTo 8 = .ok (.if_icmp .eq 9, 3) := by decide +kernel
theorem dX12_wayTo_11 : decode cX12_wayTo 11 = .ok (.iinc 2 1, 3) := by decide +kernel
theorem dX12_wayTo_14 : decode cX12_wayTo 14 = .ok (.goto (-12), 3) := by decide +kernel
theorem dX12_wayTo_17 : decode cX12_wayTo 17 = .ok (.iload_n 2, 1) := by decide +kernel
theorem dX12_wayTo_18 : decode cX12_wayTo 18 = .ok (.ireturn, 1) := by decide +kernel
theorem cw_X12_wayTo_304 : CwS mi_X12_wayTo mi_X12_beside yX12_beside 304 2 := ⟨⟨w_1519, w_1520, w_108, w_1521⟩, ⟨by decide, by decide⟩, by decide +kernel, by decide, by decide⟩
theorem j_X12_wayTo_L2 {l : Launch} {Γ : Am}   : ∀ (f : Nat), ∀ (v0 : Int32) (v1 : Int32) (v2 : Int32) (z : Hp), J l Γ mi_X12_wayTo cvI 0 0 2 [(0, .int v0), (1, .int v1), (2, .int v2)] [] z (m_X12_wayTo_L2  f v0 v1 v2 z) := by
  intro f
  induction f with
  | zero => intro v0 v1 v2 z; exact J.none
  | succ f hL2 =>
    intro v0 v1 v2 z
    rw [m_X12_wayTo_L2]
    refine j_iload_n (pc := 2) 0 dX12_wayTo_2 rfl rfl ?_
    refine j_iload_n (pc := 3) 2 dX12_wayTo_3 rfl rfl ?_
    refine j_callS_I (pc := 4) (as := [.int v0, .int v2]) (mc2 := 0) (ms2 := 0) (ct_X12_beside _ _ _) cw_X12_wayTo_304 dX12_wayTo_4 (Nat.le_of_ble_eq_true rfl) rfl (by decide) (by decide) (fun x2 z1 => ?_)
    refine j_iload_n (pc := 7) 1 dX12_wayTo_7 rfl rfl ?_
    refine j_icmp_eq (pc := 8) 17 dX12_wayTo_8 (by decide) ?_ ?_
    · refine j_iload_n (pc := 17) 2 dX12_wayTo_17 rfl rfl ?_
      exact j_ireturn (pc := 18) dX12_wayTo_18 rfl rfl
    refine j_iinc (pc := 11) (n0 := 2) (v0 := v2 + 1) (lv2 := [(2, .int (v2 + 1)), (0, .int v0), (1, .int v1)]) dX12_wayTo_11 rfl rfl (by decide) rfl ?_
    refine j_goto (pc := 14) 2 dX12_wayTo_14 (by decide) ?_
    exact J.sub [1, 2, 0] rfl (hL2 v0 v1 (v2 + 1) z1)
theorem ct_X12_wayTo {l : Launch} {Γ : Am} (v0 : Int32) (v1 : Int32) (z : Hp) : Ct l Γ yX12_wayTo mi_X12_wayTo cvI [.int v0, .int v1] z (m_X12_wayTo v0 v1 z) := by
  refine Ct.ofJ (by decide) ⟨rfl, rfl⟩ (Nat.le_of_ble_eq_true rfl) ?_
  unfold m_X12_wayTo
  show J l Γ mi_X12_wayTo cvI 0 0 0 [(0, .int v0), (1, .int v1)] [] z _
  refine j_iconst (pc := 0) (v := 0) dX12_wayTo_0 (by decide) ?_
  refine j_istore_n (pc := 1) (lv2 := [(2, .int 0), (0, .int v0), (1, .int v1)]) dX12_wayTo_1 rfl (by decide) rfl ?_
  exact J.sub [1, 2, 0] rfl ((j_X12_wayTo_L2 FU) v0 v1 0 z)
theorem dX12_goes_0 : decode cX12_goes 0 = .ok (.iload_n 1, 1) := by decide +kernel
theorem dX12_goes_1 : decode cX12_goes 1 = .ok (.istore_n 2, 1) := by decide +kernel
theorem dX12_goes_2 : decode cX12_goes 2 = .ok (.aload_n 0, 1) := by decide +kernel
theorem dX12_goes_3 : decode cX12_goes 3 = .ok (.getfield 61, 3) := by decide +kernel
theorem dX12_goes_6 : decode cX12_goes 6 = .ok (.iload_n 2, 1) := by decide +kernel
theorem dX12_goes_7 : decode cX12_goes 7 = .ok (.iaload, 1) := by decide +kernel
theorem dX12_goes_8 : decode cX12_goes 8 = .ok (.sipush 1000, 3) := by decide +kernel
theorem dX12_goes_11 : decode cX12_goes 11 = .ok (.if_icmp .eq 99, 3) := by decide +kernel
theorem dX12_goes_14 : decode cX12_goes 14 = .ok (.aload_n 0, 1) := by decide +kernel
theorem dX12_goes_15 : decode cX12_goes 15 = .ok (.getfield 61, 3) := by decide +kernel
theorem dX12_goes_18 : decode cX12_goes 18 = .ok (.iload_n 2, 1) := by decide +kernel
theorem dX12_goes_19 : decode cX12_goes 19 = .ok (.iaload, 1) := by decide +kernel
theorem dX12_goes_20 : decode cX12_goes 20 = .ok (.istore_n 3, 1) := by decide +kernel
theorem dX12_goes_21 : decode cX12_goes 21 = .ok (.iload_n 3, 1) := by decide +kernel
theorem dX12_goes_22 : decode cX12_goes 22 = .ok (.iconst 2, 1) := by decide +kernel
theorem dX12_goes_23 : decode cX12_goes 23 = .ok (.idiv, 1) := by decide +kernel
theorem dX12_goes_24 : decode cX12_goes 24 = .ok (.istore 4, 2) := by decide +kernel
theorem dX12_goes_26 : decode cX12_goes 26 = .ok (.iload_n 2, 1) := by decide +kernel
theorem dX12_goes_27 : decode cX12_goes 27 = .ok (.iconst 2, 1) := by decide +kernel
theorem dX12_goes_28 : decode cX12_goes 28 = .ok (.idiv, 1) := by decide +kernel
theorem dX12_goes_29 : decode cX12_goes 29 = .ok (.istore 5, 2) := by decide +kernel
theorem dX12_goes_31 : decode cX12_goes 31 = .ok (.iload 4, 2) := by decide +kernel
theorem dX12_goes_33 : decode cX12_goes 33 = .ok (.iload 5, 2) := by decide +kernel
theorem dX12_goes_35 : decode cX12_goes 35 = .ok (.if_icmp .ne 25, 3) := by decide +kernel
theorem dX12_goes_38 : decode cX12_goes 38 = .ok (.aload_n 0, 1) := by decide +kernel
theorem dX12_goes_39 : decode cX12_goes 39 = .ok (.getfield 55, 3) := by decide +kernel
theorem dX12_goes_42 : decode cX12_goes 42 = .ok (.iload 4, 2) := by decide +kernel
theorem dX12_goes_44 : decode cX12_goes 44 = .ok (.iload_n 2, 1) := by decide +kernel
theorem dX12_goes_45 : decode cX12_goes 45 = .ok (.iconst 2, 1) := by decide +kernel
theorem dX12_goes_46 : decode cX12_goes 46 = .ok (.irem, 1) := by decide +kernel
theorem dX12_goes_47 : decode cX12_goes 47 = .ok (.iconst 1, 1) := by decide +kernel
theorem dX12_goes_48 : decode cX12_goes 48 = .ok (.if_icmp .ne 7, 3) := by decide +kernel
theorem dX12_goes_51 : decode cX12_goes 51 = .ok (.iconst 1, 1) := by decide +kernel
theorem dX12_goes_52 : decode cX12_goes 52 = .ok (.goto 4, 3) := by decide +kernel
theorem dX12_goes_55 : decode cX12_goes 55 = .ok (.iconst 0, 1) := by decide +kernel
theorem dX12_goes_56 : decode cX12_goes 56 = .ok (.bastore, 1) := by decide +kernel
theorem dX12_goes_57 : decode cX12_goes 57 = .ok (.goto 48, 3) := by decide +kernel
theorem dX12_goes_60 : decode cX12_goes 60 = .ok (.iload_n 2, 1) := by decide +kernel
theorem dX12_goes_61 : decode cX12_goes 61 = .ok (.iconst 2, 1) := by decide +kernel
theorem dX12_goes_62 : decode cX12_goes 62 = .ok (.irem, 1) := by decide +kernel
theorem dX12_goes_63 : decode cX12_goes 63 = .ok (.ifCond .ne 24, 3) := by decide +kernel
theorem dX12_goes_66 : decode cX12_goes 66 = .ok (.aload_n 0, 1) := by decide +kernel
theorem dX12_goes_67 : decode cX12_goes 67 = .ok (.getfield 58, 3) := by decide +kernel
theorem dX12_goes_70 : decode cX12_goes 70 = .ok (.iconst 4, 1) := by decide +kernel
theorem dX12_goes_71 : decode cX12_goes 71 = .ok (.iload 4, 2) := by decide +kernel
theorem dX12_goes_73 : decode cX12_goes 73 = .ok (.imul, 1) := by decide +kernel
theorem dX12_goes_74 : decode cX12_goes 74 = .ok (.iload 4, 2) := by decide +kernel
theorem dX12_goes_76 : decode cX12_goes 76 = .ok (.iload 5, 2) := by decide +kernel
theorem dX12_goes_78 : decode cX12_goes 78 = .ok (.invokestatic 377, 3) := by decide +kernel
theorem dX12_goes_81 : decode cX12_goes 81 = .ok (.iadd, 1) := by decide +kernel
theorem dX12_goes_82 : decode cX12_goes 82 = .ok (.iconst 1, 1) := by decide +kernel
theorem dX12_goes_83 : decode cX12_goes 83 = .ok (.bastore, 1) := by decide +kernel
theorem dX12_goes_84 : decode cX12_goes 84 = .ok (.goto 21, 3) := by decide +kernel
theorem dX12_goes_87 : decode cX12_goes 87 = .ok (.aload_n 0, 1) := by decide +kernel
theorem dX12_goes_88 : decode cX12_goes 88 = .ok (.getfield 58, 3) := by decide +kernel
theorem dX12_goes_91 : decode cX12_goes 91 = .ok (.iconst 4, 1) := by decide +kernel
theorem dX12_goes_92 : decode cX12_goes 92 = .ok (.iload 5, 2) := by decide +kernel
theorem dX12_goes_94 : decode cX12_goes 94 = .ok (.imul, 1) := by decide +kernel
theorem dX12_goes_95 : decode cX12_goes 95 = .ok (.iload 5, 2) := by decide +kernel
theorem dX12_goes_97 : decode cX12_goes 97 = .ok (.iload 4, 2) := by decide +kernel
theorem dX12_goes_99 : decode cX12_goes 99 = .ok (.invokestatic 377, 3) := by decide +kernel
theorem dX12_goes_102 : decode cX12_goes 102 = .ok (.iadd, 1) := by decide +kernel
theorem dX12_goes_103 : decode cX12_goes 103 = .ok (.iconst 0, 1) := by decide +kernel
theorem dX12_goes_104 : decode cX12_goes 104 = .ok (.bastore, 1) := by decide +kernel
theorem dX12_goes_105 : decode cX12_goes 105 = .ok (.iload_n 3, 1) := by decide +kernel
theorem dX12_goes_106 : decode cX12_goes 106 = .ok (.istore_n 2, 1) := by decide +kernel
theorem dX12_goes_107 : decode cX12_goes 107 = .ok (.goto (-105), 3) := by decide +kernel
theorem dX12_goes_110 : decode cX12_goes 110 = .ok (.return_, 1) := by decide +kernel
theorem cw_X12_goes_377 : CwS mi_X12_goes mi_X12_wayTo yX12_wayTo 377 2 := ⟨⟨w_1649, w_1650, w_108, w_1651⟩, ⟨by decide, by decide⟩, by decide +kernel, by decide, by decide⟩
theorem j_X12_goes_B105 {l : Launch} {Γ : Am} {k2 : Nat → Int32 → Hp → Option (Unit × Hp)} (hL2 : ∀ (r0 : Nat) (v2 : Int32) (z : Hp), J l Γ mi_X12_goes cvV 0 0 2 [(0, .ref (mB Γ + r0)), (2, .int v2)] [] z (k2 r0 v2 z)) : ∀ (r0 : Nat) (v3 : Int32) (z : Hp), J l Γ mi_X12_goes cvV 0 0 105 [(0, .ref (mB Γ + r0)), (3, .int v3)] [] z (m_X12_goes_B105 k2 r0 v3 z) := by
  intro r0 v3 z
  unfold m_X12_goes_B105
  refine j_iload_n (pc := 105) 1 dX12_goes_105 rfl rfl ?_
  refine j_istore_n (pc := 106) (lv2 := [(2, .int v3), (0, .ref (mB Γ + r0)), (3, .int v3)]) dX12_goes_106 rfl (by decide) rfl ?_
  refine j_goto (pc := 107) 2 dX12_goes_107 (by decide) ?_
  exact J.sub [1, 0] rfl (hL2 r0 v3 z)
theorem j_X12_goes_B56 {l : Launch} {Γ : Am} {k2 : Nat → Int32 → Hp → Option (Unit × Hp)} (hL2 : ∀ (r0 : Nat) (v2 : Int32) (z : Hp), J l Γ mi_X12_goes cvV 0 0 2 [(0, .ref (mB Γ + r0)), (2, .int v2)] [] z (k2 r0 v2 z)) : ∀ (r0 : Nat) (v3 : Int32) (t0 : Int32) (t1 : Int32) (b2 : Nat) (z : Hp), J l Γ mi_X12_goes cvV 0 0 56 [(0, .ref (mB Γ + r0)), (3, .int v3)] [.int t0, .int t1, .ref (mB Γ + b2)] z (m_X12_goes_B56 k2 r0 v3 t0 t1 b2 z) := by
  intro r0 v3 t0 t1 b2 z
  unfold m_X12_goes_B56
  refine j_zastore (pc := 56) dX12_goes_56 (fun z1 => ?_)
  refine j_goto (pc := 57) 105 dX12_goes_57 (by decide) ?_
  exact J.sub [0, 1] rfl ((j_X12_goes_B105 hL2) r0 v3 z1)
theorem j_X12_goes_L2 {l : Launch} {Γ : Am}   : ∀ (f : Nat), ∀ (r0 : Nat) (v2 : Int32) (z : Hp), J l Γ mi_X12_goes cvV 0 0 2 [(0, .ref (mB Γ + r0)), (2, .int v2)] [] z (m_X12_goes_L2  f r0 v2 z) := by
  intro f
  induction f with
  | zero => intro r0 v2 z; exact J.none
  | succ f hL2 =>
    intro r0 v2 z
    rw [m_X12_goes_L2]
    refine j_aload_n (pc := 2) 0 dX12_goes_2 rfl rfl ?_
    refine j_getR (pc := 3) ok_X12 (by decide) rfl w_1267 dX12_goes_3 (fun a2 => ?_)
    refine j_iload_n (pc := 6) 1 dX12_goes_6 rfl rfl ?_
    refine j_iaload (pc := 7) dX12_goes_7 (fun x3 => ?_)
    refine j_sipush (pc := 8) (v := 1000) dX12_goes_8 (by decide) ?_
    refine j_icmp_eq (pc := 11) 110 dX12_goes_11 (by decide) ?_ ?_
    · exact j_return (pc := 110) dX12_goes_110 rfl
    refine j_aload_n (pc := 14) 0 dX12_goes_14 rfl rfl ?_
    refine j_getR (pc := 15) ok_X12 (by decide) rfl w_1267 dX12_goes_15 (fun a4 => ?_)
    refine j_iload_n (pc := 18) 1 dX12_goes_18 rfl rfl ?_
    refine j_iaload (pc := 19) dX12_goes_19 (fun x5 => ?_)
    refine j_istore_n (pc := 20) (lv2 := [(3, .int x5), (0, .ref (mB Γ + r0)), (2, .int v2)]) dX12_goes_20 rfl (by decide) rfl ?_
    refine j_iload_n (pc := 21) 0 dX12_goes_21 rfl rfl ?_
    refine j_iconst (pc := 22) (v := 2) dX12_goes_22 (by decide) ?_
    refine j_idiv (pc := 23) dX12_goes_23 (by decide) ?_
    refine j_istore (pc := 24) (lv2 := [(4, .int (x5 / 2)), (3, .int x5), (0, .ref (mB Γ + r0)), (2, .int v2)]) dX12_goes_24 (by decide) rfl ?_
    refine j_iload_n (pc := 26) 3 dX12_goes_26 rfl rfl ?_
    refine j_iconst (pc := 27) (v := 2) dX12_goes_27 (by decide) ?_
    refine j_idiv (pc := 28) dX12_goes_28 (by decide) ?_
    refine j_istore (pc := 29) (lv2 := [(5, .int (v2 / 2)), (4, .int (x5 / 2)), (3, .int x5), (0, .ref (mB Γ + r0)), (2, .int v2)]) dX12_goes_29 (by decide) rfl ?_
    refine j_iload (pc := 31) 1 dX12_goes_31 rfl ?_
    refine j_iload (pc := 33) 0 dX12_goes_33 rfl ?_
    refine j_icmp_ne (pc := 35) 60 dX12_goes_35 (by decide) ?_ ?_
    · refine j_iload_n (pc := 60) 4 dX12_goes_60 rfl rfl ?_
      refine j_iconst (pc := 61) (v := 2) dX12_goes_61 (by decide) ?_
      refine j_irem (pc := 62) dX12_goes_62 (by decide) ?_
      refine j_if_ne (pc := 63) 87 dX12_goes_63 (by decide) ?_ ?_
      · refine j_aload_n (pc := 87) 3 dX12_goes_87 rfl rfl ?_
        refine j_getR (pc := 88) ok_X12 (by decide) rfl w_1266 dX12_goes_88 (fun a6 => ?_)
        refine j_iconst (pc := 91) (v := 4) dX12_goes_91 (by decide) ?_
        refine j_iload (pc := 92) 0 dX12_goes_92 rfl ?_
        refine j_imul (pc := 94) dX12_goes_94 ?_
        refine j_iload (pc := 95) 0 dX12_goes_95 rfl ?_
        refine j_iload (pc := 97) 1 dX12_goes_97 rfl ?_
        refine j_callS_I (pc := 99) (as := [.int (v2 / 2), .int (x5 / 2)]) (mc2 := 0) (ms2 := 0) (ct_X12_wayTo _ _ _) cw_X12_goes_377 dX12_goes_99 (Nat.le_of_ble_eq_true rfl) rfl (by decide) (by decide) (fun x8 z7 => ?_)
        refine j_iadd (pc := 102) dX12_goes_102 ?_
        refine j_iconst (pc := 103) (v := 0) dX12_goes_103 (by decide) ?_
        refine j_zastore (pc := 104) dX12_goes_104 (fun z9 => ?_)
        exact J.sub [3, 2] rfl ((j_X12_goes_B105 hL2) r0 x5 z9)
      refine j_aload_n (pc := 66) 3 dX12_goes_66 rfl rfl ?_
      refine j_getR (pc := 67) ok_X12 (by decide) rfl w_1266 dX12_goes_67 (fun a10 => ?_)
      refine j_iconst (pc := 70) (v := 4) dX12_goes_70 (by decide) ?_
      refine j_iload (pc := 71) 1 dX12_goes_71 rfl ?_
      refine j_imul (pc := 73) dX12_goes_73 ?_
      refine j_iload (pc := 74) 1 dX12_goes_74 rfl ?_
      refine j_iload (pc := 76) 0 dX12_goes_76 rfl ?_
      refine j_callS_I (pc := 78) (as := [.int (x5 / 2), .int (v2 / 2)]) (mc2 := 0) (ms2 := 0) (ct_X12_wayTo _ _ _) cw_X12_goes_377 dX12_goes_78 (Nat.le_of_ble_eq_true rfl) rfl (by decide) (by decide) (fun x12 z11 => ?_)
      refine j_iadd (pc := 81) dX12_goes_81 ?_
      refine j_iconst (pc := 82) (v := 1) dX12_goes_82 (by decide) ?_
      refine j_zastore (pc := 83) dX12_goes_83 (fun z13 => ?_)
      refine j_goto (pc := 84) 105 dX12_goes_84 (by decide) ?_
      exact J.sub [3, 2] rfl ((j_X12_goes_B105 hL2) r0 x5 z13)
    refine j_aload_n (pc := 38) 3 dX12_goes_38 rfl rfl ?_
    refine j_getR (pc := 39) ok_X12 (by decide) rfl w_1265 dX12_goes_39 (fun a14 => ?_)
    refine j_iload (pc := 42) 1 dX12_goes_42 rfl ?_
    refine j_iload_n (pc := 44) 4 dX12_goes_44 rfl rfl ?_
    refine j_iconst (pc := 45) (v := 2) dX12_goes_45 (by decide) ?_
    refine j_irem (pc := 46) dX12_goes_46 (by decide) ?_
    refine j_iconst (pc := 47) (v := 1) dX12_goes_47 (by decide) ?_
    refine j_icmp_ne (pc := 48) 55 dX12_goes_48 (by decide) ?_ ?_
    · refine j_iconst (pc := 55) (v := 0) dX12_goes_55 (by decide) ?_
      exact J.sub [3, 2] rfl ((j_X12_goes_B56 hL2) r0 x5 0 (x5 / 2) a14 z)
    refine j_iconst (pc := 51) (v := 1) dX12_goes_51 (by decide) ?_
    refine j_goto (pc := 52) 56 dX12_goes_52 (by decide) ?_
    exact J.sub [3, 2] rfl ((j_X12_goes_B56 hL2) r0 x5 1 (x5 / 2) a14 z)
theorem ct_X12_goes {l : Launch} {Γ : Am} (r0 : Nat) (v1 : Int32) (z : Hp) : Ct l Γ yX12_goes mi_X12_goes cvV [.ref (mB Γ + r0), .int v1] z (m_X12_goes r0 v1 z) := by
  refine Ct.ofJ (by decide) ⟨rfl, rfl⟩ (Nat.le_of_ble_eq_true rfl) ?_
  unfold m_X12_goes
  show J l Γ mi_X12_goes cvV 0 0 0 [(0, .ref (mB Γ + r0)), (1, .int v1)] [] z _
  refine j_iload_n (pc := 0) 1 dX12_goes_0 rfl rfl ?_
  refine j_istore_n (pc := 1) (lv2 := [(2, .int v1), (0, .ref (mB Γ + r0)), (1, .int v1)]) dX12_goes_1 rfl (by decide) rfl ?_
  exact J.sub [1, 0] rfl ((j_X12_goes_L2 FU) r0 v1 z)
theorem dX12_findGaps_0 : decode cX12_findGaps 0 = .ok (.iconst 0, 1) := by decide +kernel
theorem dX12_findGaps_1 : decode cX12_findGaps 1 = .ok (.istore_n 1, 1) := by decide +kernel
theorem dX12_findGaps_2 : decode cX12_findGaps 2 = .ok (.iload_n 1, 1) := by decide +kernel
theorem dX12_findGaps_3 : decode cX12_findGaps 3 = .ok (.sipush 144, 3) := by decide +kernel
theorem dX12_findGaps_6 : decode cX12_findGaps 6 = .ok (.if_icmp .ge 40, 3) := by decide +kernel
theorem dX12_findGaps_9 : decode cX12_findGaps 9 = .ok (.aload_n 0, 1) := by decide +kernel
theorem dX12_findGaps_10 : decode cX12_findGaps 10 = .ok (.getfield 55, 3) := by decide +kernel
theorem dX12_findGaps_13 : decode cX12_findGaps 13 = .ok (.iload_n 1, 1) := by decide +kernel
theorem dX12_findGaps_14 : decode cX12_findGaps 14 = .ok (.iconst 0, 1) := by decide +kernel
theorem dX12_findGaps_15 : decode cX12_findGaps 15 = .ok (.bastore, 1) := by decide +kernel
theorem dX12_findGaps_16 : decode cX12_findGaps 16 = .ok (.iconst 0, 1) := by decide +kernel
theorem dX12_findGaps_17 : decode cX12_findGaps 17 = .ok (.istore_n 2, 1) := by decide +kernel
theorem dX12_findGaps_18 : decode cX12_findGaps 18 = .ok (.iload_n 2, 1) := by decide +kernel
theorem dX12_findGaps_19 : decode cX12_findGaps 19 = .ok (.iconst 4, 1) := by decide +kernel
theorem dX12_findGaps_20 : decode cX12_findGaps 20 = .ok (.if_icmp .ge 20, 3) := by decide +kernel
theorem dX12_findGaps_23 : decode cX12_findGaps 23 = .ok (.aload_n 0, 1) := by decide +kernel
theorem dX12_findGaps_24 : decode cX12_findGaps 24 = .ok (.getfield 58, 3) := by decide +kernel
theorem dX12_findGaps_27 : decode cX12_findGaps 27 = .ok (.iconst 4, 1) := by decide +kernel
theorem dX12_findGaps_28 : decode cX12_findGaps 28 = .ok (.iload_n 1, 1) := by decide +kernel
theorem dX12_findGaps_29 : decode cX12_findGaps 29 = .ok (.imul, 1) := by decide +kernel
theorem dX12_findGaps_30 : decode cX12_findGaps 30 = .ok (.iload_n 2, 1) := by decide +kernel
theorem dX12_findGaps_31 : decode cX12_findGaps 31 = .ok (.iadd, 1) := by decide +kernel
theorem dX12_findGaps_32 : decode cX12_findGaps 32 = .ok (.iconst 0, 1) := by decide +kernel
theorem dX12_findGaps_33 : decode cX12_findGaps 33 = .ok (.bastore, 1) := by decide +kernel
theorem dX12_findGaps_34 : decode cX12_findGaps 34 = .ok (.iinc 2 1, 3) := by decide +kernel
theorem dX12_findGaps_37 : decode cX12_findGaps 37 = .ok (.goto (-19), 3) := by decide +kernel
theorem dX12_findGaps_40 : decode cX12_findGaps 40 = .ok (.iinc 1 1, 3) := by decide +kernel
theorem dX12_findGaps_43 : decode cX12_findGaps 43 = .ok (.goto (-41), 3) := by decide +kernel
theorem dX12_findGaps_46 : decode cX12_findGaps 46 = .ok (.iconst 0, 1) := by decide +kernel
theorem dX12_findGaps_47 : decode cX12_findGaps 47 = .ok (.istore_n 1, 1) := by decide +kernel
theorem dX12_findGaps_48 : decode cX12_findGaps 48 = .ok (.aload_n 0, 1) := by decide +kernel
theorem dX12_findGaps_49 : decode cX12_findGaps 49 = .ok (.invokevirtual 380, 3) := by decide +kernel
theorem dX12_findGaps_52 : decode cX12_findGaps 52 = .ok (.istore_n 2, 1) := by decide +kernel
theorem dX12_findGaps_53 : decode cX12_findGaps 53 = .ok (.iload_n 2, 1) := by decide +kernel
theorem dX12_findGaps_54 : decode cX12_findGaps 54 = .ok (.iconst (-1), 1) := by decide +kernel
theorem dX12_findGaps_55 : decode cX12_findGaps 55 = .ok (.if_icmp .eq 19, 3) := by decide +kernel
theorem dX12_findGaps_58 : decode cX12_findGaps 58 = .ok (.aload_n 0, 1) := by decide +kernel
theorem dX12_findGaps_59 : decode cX12_findGaps 59 = .ok (.iload_n 2, 1) := by decide +kernel
theorem dX12_findGaps_60 : decode cX12_findGaps 60 = .ok (.invokevirtual 383, 3) := by decide +kernel
theorem dX12_findGaps_63 : decode cX12_findGaps 63 = .ok (.iinc 1 1, 3) := by decide +kernel
theorem dX12_findGaps_66 : decode cX12_findGaps 66 = .ok (.aload_n 0, 1) := by decide +kernel
theorem dX12_findGaps_67 : decode cX12_findGaps 67 = .ok (.invokevirtual 380, 3) := by decide +kernel
theorem dX12_findGaps_70 : decode cX12_findGaps 70 = .ok (.istore_n 2, 1) := by decide +kernel
theorem dX12_findGaps_71 : decode cX12_findGaps 71 = .ok (.goto (-18), 3) := by decide +kernel
theorem dX12_findGaps_74 : decode cX12_findGaps 74 = .ok (.iconst 0, 1) := by decide +kernel
theorem dX12_findGaps_75 : decode cX12_findGaps 75 = .ok (.istore_n 3, 1) := by decide +kernel
theorem dX12_findGaps_76 : decode cX12_findGaps 76 = .ok (.iload_n 3, 1) := by decide +kernel
theorem dX12_findGaps_77 : decode cX12_findGaps 77 = .ok (.sipush 144, 3) := by decide +kernel
theorem dX12_findGaps_80 : decode cX12_findGaps 80 = .ok (.if_icmp .ge 46, 3) := by decide +kernel
theorem dX12_findGaps_83 : decode cX12_findGaps 83 = .ok (.aload_n 0, 1) := by decide +kernel
theorem dX12_findGaps_84 : decode cX12_findGaps 84 = .ok (.getfield 67, 3) := by decide +kernel
theorem dX12_findGaps_87 : decode cX12_findGaps 87 = .ok (.iload_n 3, 1) := by decide +kernel
theorem dX12_findGaps_88 : decode cX12_findGaps 88 = .ok (.aload_n 0, 1) := by decide +kernel
theorem dX12_findGaps_89 : decode cX12_findGaps 89 = .ok (.getfield 61, 3) := by decide +kernel
theorem dX12_findGaps_92 : decode cX12_findGaps 92 = .ok (.iconst 2, 1) := by decide +kernel
theorem dX12_findGaps_93 : decode cX12_findGaps 93 = .ok (.iload_n 3, 1) := by decide +kernel
theorem dX12_findGaps_94 : decode cX12_findGaps 94 = .ok (.imul, 1) := by decide +kernel
theorem dX12_findGaps_95 : decode cX12_findGaps 95 = .ok (.iaload, 1) := by decide +kernel
theorem dX12_findGaps_96 : decode cX12_findGaps 96 = .ok (.iconst (-1), 1) := by decide +kernel
theorem dX12_findGaps_97 : decode cX12_findGaps 97 = .ok (.if_icmp .eq 21, 3) := by decide +kernel
theorem dX12_findGaps_100 : decode cX12_findGaps 100 = .ok (.aload_n 0, 1) := by decide +kernel
theorem dX12_findGaps_101 : decode cX12_findGaps 101 = .ok (.getfield 61, 3) := by decide +kernel
theorem dX12_findGaps_104 : decode cX12_findGaps 104 = .ok (.iconst 2, 1) := by decide +kernel
theorem dX12_findGaps_105 : decode cX12_findGaps 105 = .ok (.iload_n 3, 1) := by decide +kernel
theorem dX12_findGaps_106 : decode cX12_findGaps 106 = .ok (.imul, 1) := by decide +kernel
theorem dX12_findGaps_107 : decode cX12_findGaps 107 = .ok (.iconst 1, 1) := by decide +kernel
theorem dX12_findGaps_108 : decode cX12_findGaps 108 = .ok (.iadd, 1) := by decide +kernel
theorem dX12_findGaps_109 : decode cX12_findGaps 109 = .ok (.iaload, 1) := by decide +kernel
theorem dX12_findGaps_110 : decode cX12_findGaps 110 = .ok (.iconst (-1), 1) := by decide +kernel
theorem dX12_findGaps_111 : decode cX12_findGaps 111 = .ok (.if_icmp .ne 7, 3) := by decide +kernel
theorem dX12_findGaps_114 : decode cX12_findGaps 114 = .ok (.iconst 1, 1) := by decide +kernel
theorem dX12_findGaps_115 : decode cX12_findGaps 115 = .ok (.goto 4, 3) := by decide +kernel
theorem dX12_findGaps_118 : decode cX12_findGaps 118 = .ok (.iconst 0, 1) := by decide +kernel
theorem dX12_findGaps_119 : decode cX12_findGaps 119 = .ok (.bastore, 1) := by decide +kernel
theorem dX12_findGaps_120 : decode cX12_findGaps 120 = .ok (.iinc 3 1, 3) := by decide +kernel
theorem dX12_findGaps_123 : decode cX12_findGaps 123 = .ok (.goto (-47), 3) := by decide +kernel
theorem dX12_findGaps_126 : decode cX12_findGaps 126 = .ok (.iload_n 1, 1) := by decide +kernel
theorem dX12_findGaps_127 : decode cX12_findGaps 127 = .ok (.ireturn, 1) := by decide +kernel
theorem cw_X12_findGaps_383 : CwV mi_X12_findGaps mi_X12_goes yX12_goes RX12 383 1 := ⟨⟨w_1645, w_1647, w_86, w_108, w_1648⟩, ⟨by decide, by decide⟩, by decide +kernel, by decide, by decide⟩
theorem cw_X12_findGaps_380 : CwV mi_X12_findGaps mi_X12_search yX12_search RX12 380 0 := ⟨⟨w_1633, w_1635, w_83, w_108, w_1636⟩, ⟨by decide, by decide⟩, by decide +kernel, by decide, by decide⟩
theorem j_X12_findGaps_B119 {l : Launch} {Γ : Am} {k76 : Nat → Int32 → Int32 → Hp → Option (Int32 × Hp)} (hL76 : ∀ (r0 : Nat) (v1 : Int32) (v3 : Int32) (z : Hp), J l Γ mi_X12_findGaps cvI 0 0 76 [(0, .ref (mB Γ + r0)), (1, .int v1), (3, .int v3)] [] z (k76 r0 v1 v3 z)) : ∀ (r0 : Nat) (v1 : Int32) (v3 : Int32) (t0 : Int32) (t1 : Int32) (b2 : Nat) (z : Hp), J l Γ mi_X12_findGaps cvI 0 0 119 [(0, .ref (mB Γ + r0)), (1, .int v1), (3, .int v3)] [.int t0, .int t1, .ref (mB Γ + b2)] z (m_X12_findGaps_B119 k76 r0 v1 v3 t0 t1 b2 z) := by
  intro r0 v1 v3 t0 t1 b2 z
  unfold m_X12_findGaps_B119
  refine j_zastore (pc := 119) dX12_findGaps_119 (fun z1 => ?_)
  refine j_iinc (pc := 120) (n0 := 2) (v0 := v3 + 1) (lv2 := [(3, .int (v3 + 1)), (0, .ref (mB Γ + r0)), (1, .int v1)]) dX12_findGaps_120 rfl rfl (by decide) rfl ?_
  refine j_goto (pc := 123) 76 dX12_findGaps_123 (by decide) ?_
  exact J.sub [1, 2, 0] rfl (hL76 r0 v1 (v3 + 1) z1)
theorem j_X12_findGaps_B118 {l : Launch} {Γ : Am} {k76 : Nat → Int32 → Int32 → Hp → Option (Int32 × Hp)} (hL76 : ∀ (r0 : Nat) (v1 : Int32) (v3 : Int32) (z : Hp), J l Γ mi_X12_findGaps cvI 0 0 76 [(0, .ref (mB Γ + r0)), (1, .int v1), (3, .int v3)] [] z (k76 r0 v1 v3 z)) : ∀ (r0 : Nat) (v1 : Int32) (v3 : Int32) (t0 : Int32) (b1 : Nat) (z : Hp), J l Γ mi_X12_findGaps cvI 0 0 118 [(0, .ref (mB Γ + r0)), (1, .int v1), (3, .int v3)] [.int t0, .ref (mB Γ + b1)] z (m_X12_findGaps_B118 k76 r0 v1 v3 t0 b1 z) := by
  intro r0 v1 v3 t0 b1 z
  unfold m_X12_findGaps_B118
  refine j_iconst (pc := 118) (v := 0) dX12_findGaps_118 (by decide) ?_
  exact J.sub [0, 1, 2] rfl ((j_X12_findGaps_B119 hL76) r0 v1 v3 0 t0 b1 z)
theorem j_X12_findGaps_L76 {l : Launch} {Γ : Am}   : ∀ (f : Nat), ∀ (r0 : Nat) (v1 : Int32) (v3 : Int32) (z : Hp), J l Γ mi_X12_findGaps cvI 0 0 76 [(0, .ref (mB Γ + r0)), (1, .int v1), (3, .int v3)] [] z (m_X12_findGaps_L76  f r0 v1 v3 z) := by
  intro f
  induction f with
  | zero => intro r0 v1 v3 z; exact J.none
  | succ f hL76 =>
    intro r0 v1 v3 z
    rw [m_X12_findGaps_L76]
    refine j_iload_n (pc := 76) 2 dX12_findGaps_76 rfl rfl ?_
    refine j_sipush (pc := 77) (v := 144) dX12_findGaps_77 (by decide) ?_
    refine j_icmp_ge (pc := 80) 126 dX12_findGaps_80 (by decide) ?_ ?_
    · refine j_iload_n (pc := 126) 1 dX12_findGaps_126 rfl rfl ?_
      exact j_ireturn (pc := 127) dX12_findGaps_127 rfl rfl
    refine j_aload_n (pc := 83) 0 dX12_findGaps_83 rfl rfl ?_
    refine j_getR (pc := 84) ok_X12 (by decide) rfl w_1270 dX12_findGaps_84 (fun a2 => ?_)
    refine j_iload_n (pc := 87) 2 dX12_findGaps_87 rfl rfl ?_
    refine j_aload_n (pc := 88) 0 dX12_findGaps_88 rfl rfl ?_
    refine j_getR (pc := 89) ok_X12 (by decide) rfl w_1267 dX12_findGaps_89 (fun a3 => ?_)
    refine j_iconst (pc := 92) (v := 2) dX12_findGaps_92 (by decide) ?_
    refine j_iload_n (pc := 93) 2 dX12_findGaps_93 rfl rfl ?_
    refine j_imul (pc := 94) dX12_findGaps_94 ?_
    refine j_iaload (pc := 95) dX12_findGaps_95 (fun x4 => ?_)
    refine j_iconst (pc := 96) (v := (-1)) dX12_findGaps_96 (by decide) ?_
    refine j_icmp_eq (pc := 97) 118 dX12_findGaps_97 (by decide) ?_ ?_
    · exact J.sub [0, 1, 2] rfl ((j_X12_findGaps_B118 hL76) r0 v1 v3 v3 a2 z)
    refine j_aload_n (pc := 100) 0 dX12_findGaps_100 rfl rfl ?_
    refine j_getR (pc := 101) ok_X12 (by decide) rfl w_1267 dX12_findGaps_101 (fun a5 => ?_)
    refine j_iconst (pc := 104) (v := 2) dX12_findGaps_104 (by decide) ?_
    refine j_iload_n (pc := 105) 2 dX12_findGaps_105 rfl rfl ?_
    refine j_imul (pc := 106) dX12_findGaps_106 ?_
    refine j_iconst (pc := 107) (v := 1) dX12_findGaps_107 (by decide) ?_
    refine j_iadd (pc := 108) dX12_findGaps_108 ?_
    refine j_iaload (pc := 109) dX12_findGaps_109 (fun x6 => ?_)
    refine j_iconst (pc := 110) (v := (-1)) dX12_findGaps_110 (by decide) ?_
    refine j_icmp_ne (pc := 111) 118 dX12_findGaps_111 (by decide) ?_ ?_
    · exact J.sub [0, 1, 2] rfl ((j_X12_findGaps_B118 hL76) r0 v1 v3 v3 a2 z)
    refine j_iconst (pc := 114) (v := 1) dX12_findGaps_114 (by decide) ?_
    refine j_goto (pc := 115) 119 dX12_findGaps_115 (by decide) ?_
    exact J.sub [0, 1, 2] rfl ((j_X12_findGaps_B119 hL76) r0 v1 v3 1 v3 a2 z)
theorem j_X12_findGaps_B74 {l : Launch} {Γ : Am}   : ∀ (r0 : Nat) (v1 : Int32) (z : Hp), J l Γ mi_X12_findGaps cvI 0 0 74 [(0, .ref (mB Γ + r0)), (1, .int v1)] [] z (m_X12_findGaps_B74  r0 v1 z) := by
  intro r0 v1 z
  unfold m_X12_findGaps_B74
  refine j_iconst (pc := 74) (v := 0) dX12_findGaps_74 (by decide) ?_
  refine j_istore_n (pc := 75) (lv2 := [(3, .int 0), (0, .ref (mB Γ + r0)), (1, .int v1)]) dX12_findGaps_75 rfl (by decide) rfl ?_
  exact J.sub [1, 2, 0] rfl ((j_X12_findGaps_L76 FU) r0 v1 0 z)
theorem j_X12_findGaps_L53 {l : Launch} {Γ : Am} {k74 : Nat → Int32 → Hp → Option (Int32 × Hp)} (hL74 : ∀ (r0 : Nat) (v1 : Int32) (z : Hp), J l Γ mi_X12_findGaps cvI 0 0 74 [(0, .ref (mB Γ + r0)), (1, .int v1)] [] z (k74 r0 v1 z)) : ∀ (f : Nat), ∀ (r0 : Nat) (v1 : Int32) (v2 : Int32) (z : Hp), J l Γ mi_X12_findGaps cvI 0 0 53 [(0, .ref (mB Γ + r0)), (1, .int v1), (2, .int v2)] [] z (m_X12_findGaps_L53 k74 f r0 v1 v2 z) := by
  intro f
  induction f with
  | zero => intro r0 v1 v2 z; exact J.none
  | succ f hL53 =>
    intro r0 v1 v2 z
    rw [m_X12_findGaps_L53]
    refine j_iload_n (pc := 53) 2 dX12_findGaps_53 rfl rfl ?_
    refine j_iconst (pc := 54) (v := (-1)) dX12_findGaps_54 (by decide) ?_
    refine j_icmp_eq (pc := 55) 74 dX12_findGaps_55 (by decide) ?_ ?_
    · exact J.sub [0, 1] rfl (hL74 r0 v1 z)
    refine j_aload_n (pc := 58) 0 dX12_findGaps_58 rfl rfl ?_
    refine j_iload_n (pc := 59) 2 dX12_findGaps_59 rfl rfl ?_
    refine j_isC (fun h8 => ?_)
    refine j_callV_V (pc := 60) (as := [.int v2]) (mc2 := 0) (ms2 := 0) (ct_X12_goes _ _ _) h8 rfl cw_X12_findGaps_383 dX12_findGaps_60 (Nat.le_of_ble_eq_true rfl) rfl (by decide) (by decide) (fun _ z7 => ?_)
    refine j_iinc (pc := 63) (n0 := 1) (v0 := v1 + 1) (lv2 := [(1, .int (v1 + 1)), (0, .ref (mB Γ + r0)), (2, .int v2)]) dX12_findGaps_63 rfl rfl (by decide) rfl ?_
    refine j_aload_n (pc := 66) 1 dX12_findGaps_66 rfl rfl ?_
    refine j_isC (fun h11 => ?_)
    refine j_callV_I (pc := 67) (as := []) (mc2 := 0) (ms2 := 0) (ct_X12_search _ _) h11 rfl cw_X12_findGaps_380 dX12_findGaps_67 (Nat.le_of_ble_eq_true rfl) rfl (by decide) (by decide) (fun x10 z9 => ?_)
    refine j_istore_n (pc := 70) (lv2 := [(2, .int x10), (1, .int (v1 + 1)), (0, .ref (mB Γ + r0))]) dX12_findGaps_70 rfl (by decide) rfl ?_
    refine j_goto (pc := 71) 53 dX12_findGaps_71 (by decide) ?_
    exact J.sub [2, 1, 0] rfl (hL53 r0 (v1 + 1) x10 z9)
theorem j_X12_findGaps_B46 {l : Launch} {Γ : Am}   : ∀ (r0 : Nat) (z : Hp), J l Γ mi_X12_findGaps cvI 0 0 46 [(0, .ref (mB Γ + r0))] [] z (m_X12_findGaps_B46  r0 z) := by
  intro r0 z
  unfold m_X12_findGaps_B46
  refine j_iconst (pc := 46) (v := 0) dX12_findGaps_46 (by decide) ?_
  refine j_istore_n (pc := 47) (lv2 := [(1, .int 0), (0, .ref (mB Γ + r0))]) dX12_findGaps_47 rfl (by decide) rfl ?_
  refine j_aload_n (pc := 48) 1 dX12_findGaps_48 rfl rfl ?_
  refine j_isC (fun h14 => ?_)
  refine j_callV_I (pc := 49) (as := []) (mc2 := 0) (ms2 := 0) (ct_X12_search _ _) h14 rfl cw_X12_findGaps_380 dX12_findGaps_49 (Nat.le_of_ble_eq_true rfl) rfl (by decide) (by decide) (fun x13 z12 => ?_)
  refine j_istore_n (pc := 52) (lv2 := [(2, .int x13), (1, .int 0), (0, .ref (mB Γ + r0))]) dX12_findGaps_52 rfl (by decide) rfl ?_
  exact J.sub [2, 1, 0] rfl ((j_X12_findGaps_L53 j_X12_findGaps_B74 FU) r0 0 x13 z12)
theorem j_X12_findGaps_B40 {l : Launch} {Γ : Am} {k2 : Nat → Int32 → Hp → Option (Int32 × Hp)} (hL2 : ∀ (r0 : Nat) (v1 : Int32) (z : Hp), J l Γ mi_X12_findGaps cvI 0 0 2 [(0, .ref (mB Γ + r0)), (1, .int v1)] [] z (k2 r0 v1 z)) : ∀ (r0 : Nat) (v1 : Int32) (z : Hp), J l Γ mi_X12_findGaps cvI 0 0 40 [(0, .ref (mB Γ + r0)), (1, .int v1)] [] z (m_X12_findGaps_B40 k2 r0 v1 z) := by
  intro r0 v1 z
  unfold m_X12_findGaps_B40
  refine j_iinc (pc := 40) (n0 := 1) (v0 := v1 + 1) (lv2 := [(1, .int (v1 + 1)), (0, .ref (mB Γ + r0))]) dX12_findGaps_40 rfl rfl (by decide) rfl ?_
  refine j_goto (pc := 43) 2 dX12_findGaps_43 (by decide) ?_
  exact J.sub [1, 0] rfl (hL2 r0 (v1 + 1) z)
theorem j_X12_findGaps_L18 {l : Launch} {Γ : Am} {k40 : Nat → Int32 → Hp → Option (Int32 × Hp)} (hL40 : ∀ (r0 : Nat) (v1 : Int32) (z : Hp), J l Γ mi_X12_findGaps cvI 0 0 40 [(0, .ref (mB Γ + r0)), (1, .int v1)] [] z (k40 r0 v1 z)) : ∀ (f : Nat), ∀ (r0 : Nat) (v1 : Int32) (v2 : Int32) (z : Hp), J l Γ mi_X12_findGaps cvI 0 0 18 [(0, .ref (mB Γ + r0)), (1, .int v1), (2, .int v2)] [] z (m_X12_findGaps_L18 k40 f r0 v1 v2 z) := by
  intro f
  induction f with
  | zero => intro r0 v1 v2 z; exact J.none
  | succ f hL18 =>
    intro r0 v1 v2 z
    rw [m_X12_findGaps_L18]
    refine j_iload_n (pc := 18) 2 dX12_findGaps_18 rfl rfl ?_
    refine j_iconst (pc := 19) (v := 4) dX12_findGaps_19 (by decide) ?_
    refine j_icmp_ge (pc := 20) 40 dX12_findGaps_20 (by decide) ?_ ?_
    · exact J.sub [0, 1] rfl (hL40 r0 v1 z)
    refine j_aload_n (pc := 23) 0 dX12_findGaps_23 rfl rfl ?_
    refine j_getR (pc := 24) ok_X12 (by decide) rfl w_1266 dX12_findGaps_24 (fun a15 => ?_)
    refine j_iconst (pc := 27) (v := 4) dX12_findGaps_27 (by decide) ?_
    refine j_iload_n (pc := 28) 1 dX12_findGaps_28 rfl rfl ?_
    refine j_imul (pc := 29) dX12_findGaps_29 ?_
    refine j_iload_n (pc := 30) 2 dX12_findGaps_30 rfl rfl ?_
    refine j_iadd (pc := 31) dX12_findGaps_31 ?_
    refine j_iconst (pc := 32) (v := 0) dX12_findGaps_32 (by decide) ?_
    refine j_zastore (pc := 33) dX12_findGaps_33 (fun z16 => ?_)
    refine j_iinc (pc := 34) (n0 := 2) (v0 := v2 + 1) (lv2 := [(2, .int (v2 + 1)), (0, .ref (mB Γ + r0)), (1, .int v1)]) dX12_findGaps_34 rfl rfl (by decide) rfl ?_
    refine j_goto (pc := 37) 18 dX12_findGaps_37 (by decide) ?_
    exact J.sub [1, 2, 0] rfl (hL18 r0 v1 (v2 + 1) z16)
theorem j_X12_findGaps_L2 {l : Launch} {Γ : Am} {k46 : Nat → Hp → Option (Int32 × Hp)} (hL46 : ∀ (r0 : Nat) (z : Hp), J l Γ mi_X12_findGaps cvI 0 0 46 [(0, .ref (mB Γ + r0))] [] z (k46 r0 z)) : ∀ (f : Nat), ∀ (r0 : Nat) (v1 : Int32) (z : Hp), J l Γ mi_X12_findGaps cvI 0 0 2 [(0, .ref (mB Γ + r0)), (1, .int v1)] [] z (m_X12_findGaps_L2 k46 f r0 v1 z) := by
  intro f
  induction f with
  | zero => intro r0 v1 z; exact J.none
  | succ f hL2 =>
    intro r0 v1 z
    rw [m_X12_findGaps_L2]
    refine j_iload_n (pc := 2) 1 dX12_findGaps_2 rfl rfl ?_
    refine j_sipush (pc := 3) (v := 144) dX12_findGaps_3 (by decide) ?_
    refine j_icmp_ge (pc := 6) 46 dX12_findGaps_6 (by decide) ?_ ?_
    · exact J.sub [0] rfl (hL46 r0 z)
    refine j_aload_n (pc := 9) 0 dX12_findGaps_9 rfl rfl ?_
    refine j_getR (pc := 10) ok_X12 (by decide) rfl w_1265 dX12_findGaps_10 (fun a17 => ?_)
    refine j_iload_n (pc := 13) 1 dX12_findGaps_13 rfl rfl ?_
    refine j_iconst (pc := 14) (v := 0) dX12_findGaps_14 (by decide) ?_
    refine j_zastore (pc := 15) dX12_findGaps_15 (fun z18 => ?_)
    refine j_iconst (pc := 16) (v := 0) dX12_findGaps_16 (by decide) ?_
    refine j_istore_n (pc := 17) (lv2 := [(2, .int 0), (0, .ref (mB Γ + r0)), (1, .int v1)]) dX12_findGaps_17 rfl (by decide) rfl ?_
    exact J.sub [1, 2, 0] rfl ((j_X12_findGaps_L18 (j_X12_findGaps_B40 hL2) FU) r0 v1 0 z18)
theorem ct_X12_findGaps {l : Launch} {Γ : Am} (r0 : Nat) (z : Hp) : Ct l Γ yX12_findGaps mi_X12_findGaps cvI [.ref (mB Γ + r0)] z (m_X12_findGaps r0 z) := by
  refine Ct.ofJ (by decide) ⟨rfl, rfl⟩ (Nat.le_of_ble_eq_true rfl) ?_
  unfold m_X12_findGaps
  show J l Γ mi_X12_findGaps cvI 0 0 0 [(0, .ref (mB Γ + r0))] [] z _
  refine j_iconst (pc := 0) (v := 0) dX12_findGaps_0 (by decide) ?_
  refine j_istore_n (pc := 1) (lv2 := [(1, .int 0), (0, .ref (mB Γ + r0))]) dX12_findGaps_1 rfl (by decide) rfl ?_
  exact J.sub [1, 0] rfl ((j_X12_findGaps_L2 j_X12_findGaps_B46 FU) r0 0 z)
theorem dX12_gaps_0 : decode cX12_gaps 0 = .ok (.aload_n 0, 1) := by decide +kernel
theorem dX12_gaps_1 : decode cX12_gaps 1 = .ok (.invokevirtual 365, 3) := by decide +kernel
theorem dX12_gaps_4 : decode cX12_gaps 4 = .ok (.ifCond .ne 6, 3) := by decide +kernel
theorem dX12_gaps_7 : decode cX12_gaps 7 = .ok (.bipush (-6), 2) := by decide +kernel
theorem dX12_gaps_9 : decode cX12_gaps 9 = .ok (.ireturn, 1) := by decide +kernel
theorem dX12_gaps_10 : decode cX12_gaps 10 = .ok (.aload_n 0, 1) := by decide +kernel
theorem dX12_gaps_11 : decode cX12_gaps 11 = .ok (.invokevirtual 386, 3) := by decide +kernel
theorem dX12_gaps_14 : decode cX12_gaps 14 = .ok (.istore_n 1, 1) := by decide +kernel
theorem dX12_gaps_15 : decode cX12_gaps 15 = .ok (.aload_n 0, 1) := by decide +kernel
theorem dX12_gaps_16 : decode cX12_gaps 16 = .ok (.iconst 0, 1) := by decide +kernel
theorem dX12_gaps_17 : decode cX12_gaps 17 = .ok (.putfield 389, 3) := by decide +kernel
theorem dX12_gaps_20 : decode cX12_gaps 20 = .ok (.iconst 0, 1) := by decide +kernel
theorem dX12_gaps_21 : decode cX12_gaps 21 = .ok (.istore_n 2, 1) := by decide +kernel
theorem dX12_gaps_22 : decode cX12_gaps 22 = .ok (.iload_n 2, 1) := by decide +kernel
theorem dX12_gaps_23 : decode cX12_gaps 23 = .ok (.sipush 144, 3) := by decide +kernel
theorem dX12_gaps_26 : decode cX12_gaps 26 = .ok (.if_icmp .ge 41, 3) := by decide +kernel
theorem dX12_gaps_29 : decode cX12_gaps 29 = .ok (.aload_n 0, 1) := by decide +kernel
theorem dX12_gaps_30 : decode cX12_gaps 30 = .ok (.getfield 67, 3) := by decide +kernel
theorem dX12_gaps_33 : decode cX12_gaps 33 = .ok (.iload_n 2, 1) := by decide +kernel
theorem dX12_gaps_34 : decode cX12_gaps 34 = .ok (.baload, 1) := by decide +kernel
theorem dX12_gaps_35 : decode cX12_gaps 35 = .ok (.ifCond .ne 6, 3) := by decide +kernel
theorem dX12_gaps_38 : decode cX12_gaps 38 = .ok (.goto 23, 3) := by decide +kernel
theorem dX12_gaps_41 : decode cX12_gaps 41 = .ok (.aload_n 0, 1) := by decide +kernel
theorem dX12_gaps_42 : decode cX12_gaps 42 = .ok (.getfield 70, 3) := by decide +kernel
theorem dX12_gaps_45 : decode cX12_gaps 45 = .ok (.aload_n 0, 1) := by decide +kernel
theorem dX12_gaps_46 : decode cX12_gaps 46 = .ok (.getfield 389, 3) := by decide +kernel
theorem dX12_gaps_49 : decode cX12_gaps 49 = .ok (.iload_n 2, 1) := by decide +kernel
theorem dX12_gaps_50 : decode cX12_gaps 50 = .ok (.iastore, 1) := by decide +kernel
theorem dX12_gaps_51 : decode cX12_gaps 51 = .ok (.aload_n 0, 1) := by decide +kernel
theorem dX12_gaps_52 : decode cX12_gaps 52 = .ok (.dup, 1) := by decide +kernel
theorem dX12_gaps_53 : decode cX12_gaps 53 = .ok (.getfield 389, 3) := by decide +kernel
theorem dX12_gaps_56 : decode cX12_gaps 56 = .ok (.iconst 1, 1) := by decide +kernel
theorem dX12_gaps_57 : decode cX12_gaps 57 = .ok (.iadd, 1) := by decide +kernel
theorem dX12_gaps_58 : decode cX12_gaps 58 = .ok (.putfield 389, 3) := by decide +kernel
theorem dX12_gaps_61 : decode cX12_gaps 61 = .ok (.iinc 2 1, 3) := by decide +kernel
theorem dX12_gaps_64 : decode cX12_gaps 64 = .ok (.goto (-42), 3) := by decide +kernel
theorem dX12_gaps_67 : decode cX12_gaps 67 = .ok (.iload_n 1, 1) := by decide +kernel
theorem dX12_gaps_68 : decode cX12_gaps 68 = .ok (.ireturn, 1) := by decide +kernel
theorem cw_X12_gaps_365 : CwV mi_X12_gaps mi_X12_hasShaft yX12_hasShaft RX12 365 0 := ⟨⟨w_1613, w_1615, w_81, w_108, w_1616⟩, ⟨by decide, by decide⟩, by decide +kernel, by decide, by decide⟩
theorem cw_X12_gaps_386 : CwV mi_X12_gaps mi_X12_findGaps yX12_findGaps RX12 386 0 := ⟨⟨w_1629, w_1631, w_82, w_108, w_1632⟩, ⟨by decide, by decide⟩, by decide +kernel, by decide, by decide⟩
theorem j_X12_gaps_B61 {l : Launch} {Γ : Am} {k22 : Nat → Int32 → Int32 → Hp → Option (Int32 × Hp)} (hL22 : ∀ (r0 : Nat) (v1 : Int32) (v2 : Int32) (z : Hp), J l Γ mi_X12_gaps cvI 0 0 22 [(0, .ref (mB Γ + r0)), (1, .int v1), (2, .int v2)] [] z (k22 r0 v1 v2 z)) : ∀ (r0 : Nat) (v1 : Int32) (v2 : Int32) (z : Hp), J l Γ mi_X12_gaps cvI 0 0 61 [(0, .ref (mB Γ + r0)), (1, .int v1), (2, .int v2)] [] z (m_X12_gaps_B61 k22 r0 v1 v2 z) := by
  intro r0 v1 v2 z
  unfold m_X12_gaps_B61
  refine j_iinc (pc := 61) (n0 := 2) (v0 := v2 + 1) (lv2 := [(2, .int (v2 + 1)), (0, .ref (mB Γ + r0)), (1, .int v1)]) dX12_gaps_61 rfl rfl (by decide) rfl ?_
  refine j_goto (pc := 64) 22 dX12_gaps_64 (by decide) ?_
  exact J.sub [1, 2, 0] rfl (hL22 r0 v1 (v2 + 1) z)
theorem j_X12_gaps_L22 {l : Launch} {Γ : Am}   : ∀ (f : Nat), ∀ (r0 : Nat) (v1 : Int32) (v2 : Int32) (z : Hp), J l Γ mi_X12_gaps cvI 0 0 22 [(0, .ref (mB Γ + r0)), (1, .int v1), (2, .int v2)] [] z (m_X12_gaps_L22  f r0 v1 v2 z) := by
  intro f
  induction f with
  | zero => intro r0 v1 v2 z; exact J.none
  | succ f hL22 =>
    intro r0 v1 v2 z
    rw [m_X12_gaps_L22]
    refine j_iload_n (pc := 22) 2 dX12_gaps_22 rfl rfl ?_
    refine j_sipush (pc := 23) (v := 144) dX12_gaps_23 (by decide) ?_
    refine j_icmp_ge (pc := 26) 67 dX12_gaps_26 (by decide) ?_ ?_
    · refine j_iload_n (pc := 67) 1 dX12_gaps_67 rfl rfl ?_
      exact j_ireturn (pc := 68) dX12_gaps_68 rfl rfl
    refine j_aload_n (pc := 29) 0 dX12_gaps_29 rfl rfl ?_
    refine j_getR (pc := 30) ok_X12 (by decide) rfl w_1270 dX12_gaps_30 (fun a1 => ?_)
    refine j_iload_n (pc := 33) 2 dX12_gaps_33 rfl rfl ?_
    refine j_zaload (pc := 34) dX12_gaps_34 (fun x2 => ?_)
    refine j_if_ne (pc := 35) 41 dX12_gaps_35 (by decide) ?_ ?_
    · refine j_aload_n (pc := 41) 0 dX12_gaps_41 rfl rfl ?_
      refine j_getR (pc := 42) ok_X12 (by decide) rfl w_1271 dX12_gaps_42 (fun a3 => ?_)
      refine j_aload_n (pc := 45) 0 dX12_gaps_45 rfl rfl ?_
      refine j_getI (pc := 46) ok_X12 (by decide) rfl w_1272 dX12_gaps_46 (fun x4 => ?_)
      refine j_iload_n (pc := 49) 2 dX12_gaps_49 rfl rfl ?_
      refine j_iastore (pc := 50) dX12_gaps_50 (fun z5 => ?_)
      refine j_aload_n (pc := 51) 0 dX12_gaps_51 rfl rfl ?_
      refine j_dup (pc := 52) dX12_gaps_52 rfl ?_
      refine j_getI (pc := 53) ok_X12 (by decide) rfl w_1272 dX12_gaps_53 (fun x6 => ?_)
      refine j_iconst (pc := 56) (v := 1) dX12_gaps_56 (by decide) ?_
      refine j_iadd (pc := 57) dX12_gaps_57 ?_
      refine j_putI (pc := 58) ok_X12 (by decide) rfl w_1272 (Or.inl rfl) rfl rfl dX12_gaps_58 (fun z7 => ?_)
      exact J.sub [0, 1, 2] rfl ((j_X12_gaps_B61 hL22) r0 v1 v2 z7)
    refine j_goto (pc := 38) 61 dX12_gaps_38 (by decide) ?_
    exact J.sub [0, 1, 2] rfl ((j_X12_gaps_B61 hL22) r0 v1 v2 z)
theorem ct_X12_gaps {l : Launch} {Γ : Am} (r0 : Nat) (z : Hp) : Ct l Γ yX12_gaps mi_X12_gaps cvI [.ref (mB Γ + r0)] z (m_X12_gaps r0 z) := by
  refine Ct.ofJ (by decide) ⟨rfl, rfl⟩ (Nat.le_of_ble_eq_true rfl) ?_
  unfold m_X12_gaps
  show J l Γ mi_X12_gaps cvI 0 0 0 [(0, .ref (mB Γ + r0))] [] z _
  refine j_aload_n (pc := 0) 0 dX12_gaps_0 rfl rfl ?_
  refine j_isC (fun h10 => ?_)
  refine j_callV_I (pc := 1) (as := []) (mc2 := 0) (ms2 := 0) (ct_X12_hasShaft _ _) h10 rfl cw_X12_gaps_365 dX12_gaps_1 (Nat.le_of_ble_eq_true rfl) rfl (by decide) (by decide) (fun x9 z8 => ?_)
  refine j_if_ne (pc := 4) 10 dX12_gaps_4 (by decide) ?_ ?_
  · refine j_aload_n (pc := 10) 0 dX12_gaps_10 rfl rfl ?_
    refine j_isC (fun h13 => ?_)
    refine j_callV_I (pc := 11) (as := []) (mc2 := 0) (ms2 := 0) (ct_X12_findGaps _ _) h13 rfl cw_X12_gaps_386 dX12_gaps_11 (Nat.le_of_ble_eq_true rfl) rfl (by decide) (by decide) (fun x12 z11 => ?_)
    refine j_istore_n (pc := 14) (lv2 := [(1, .int x12), (0, .ref (mB Γ + r0))]) dX12_gaps_14 rfl (by decide) rfl ?_
    refine j_aload_n (pc := 15) 1 dX12_gaps_15 rfl rfl ?_
    refine j_iconst (pc := 16) (v := 0) dX12_gaps_16 (by decide) ?_
    refine j_putI (pc := 17) ok_X12 (by decide) rfl w_1272 (Or.inl rfl) rfl rfl dX12_gaps_17 (fun z14 => ?_)
    refine j_iconst (pc := 20) (v := 0) dX12_gaps_20 (by decide) ?_
    refine j_istore_n (pc := 21) (lv2 := [(2, .int 0), (1, .int x12), (0, .ref (mB Γ + r0))]) dX12_gaps_21 rfl (by decide) rfl ?_
    exact J.sub [2, 1, 0] rfl ((j_X12_gaps_L22 FU) r0 x12 0 z14)
  refine j_bipush (pc := 7) (v := (-6)) dX12_gaps_7 (by decide) ?_
  exact j_ireturn (pc := 9) dX12_gaps_9 rfl rfl
theorem dX12_gap_0 : decode cX12_gap 0 = .ok (.iload_n 1, 1) := by decide +kernel
theorem dX12_gap_1 : decode cX12_gap 1 = .ok (.i2l, 1) := by decide +kernel
theorem dX12_gap_2 : decode cX12_gap 2 = .ok (.lconst 0, 1) := by decide +kernel
theorem dX12_gap_3 : decode cX12_gap 3 = .ok (.aload_n 0, 1) := by decide +kernel
theorem dX12_gap_4 : decode cX12_gap 4 = .ok (.getfield 389, 3) := by decide +kernel
theorem dX12_gap_7 : decode cX12_gap 7 = .ok (.iconst 1, 1) := by decide +kernel
theorem dX12_gap_8 : decode cX12_gap 8 = .ok (.isub, 1) := by decide +kernel
theorem dX12_gap_9 : decode cX12_gap 9 = .ok (.i2l, 1) := by decide +kernel
theorem dX12_gap_10 : decode cX12_gap 10 = .ok (.invokestatic 110, 3) := by decide +kernel
theorem dX12_gap_13 : decode cX12_gap 13 = .ok (.ifCond .eq 12, 3) := by decide +kernel
theorem dX12_gap_16 : decode cX12_gap 16 = .ok (.aload_n 0, 1) := by decide +kernel
theorem dX12_gap_17 : decode cX12_gap 17 = .ok (.getfield 70, 3) := by decide +kernel
theorem dX12_gap_20 : decode cX12_gap 20 = .ok (.iload_n 1, 1) := by decide +kernel
theorem dX12_gap_21 : decode cX12_gap 21 = .ok (.iaload, 1) := by decide +kernel
theorem dX12_gap_22 : decode cX12_gap 22 = .ok (.goto 4, 3) := by decide +kernel
theorem dX12_gap_25 : decode cX12_gap 25 = .ok (.iconst (-1), 1) := by decide +kernel
theorem dX12_gap_26 : decode cX12_gap 26 = .ok (.ireturn, 1) := by decide +kernel
theorem cw_X12_gap_110 : CwS mi_X12_gap mi_X12_in yX12_in 110 3 := ⟨⟨w_1365, w_1366, w_108, w_1367⟩, ⟨by decide, by decide⟩, by decide +kernel, by decide, by decide⟩
theorem ct_X12_gap {l : Launch} {Γ : Am} (r0 : Nat) (v1 : Int32) (z : Hp) : Ct l Γ yX12_gap mi_X12_gap cvI [.ref (mB Γ + r0), .int v1] z (m_X12_gap r0 v1 z) := by
  refine Ct.ofJ (by decide) ⟨rfl, rfl⟩ (Nat.le_of_ble_eq_true rfl) ?_
  unfold m_X12_gap
  show J l Γ mi_X12_gap cvI 0 0 0 [(0, .ref (mB Γ + r0)), (1, .int v1)] [] z _
  refine j_iload_n (pc := 0) 1 dX12_gap_0 rfl rfl ?_
  refine j_i2l (pc := 1) dX12_gap_1 ?_
  refine j_lconst (pc := 2) (v := 0) dX12_gap_2 (by decide) ?_
  refine j_aload_n (pc := 3) 0 dX12_gap_3 rfl rfl ?_
  refine j_getI (pc := 4) ok_X12 (by decide) rfl w_1272 dX12_gap_4 (fun x1 => ?_)
  refine j_iconst (pc := 7) (v := 1) dX12_gap_7 (by decide) ?_
  refine j_isub (pc := 8) dX12_gap_8 ?_
  refine j_i2l (pc := 9) dX12_gap_9 ?_
  refine j_callS_I (pc := 10) (as := [.long (Int32.toInt64 v1), .long 0, .long (Int32.toInt64 (x1 - 1))]) (mc2 := 0) (ms2 := 0) (ct_X12_in _ _ _ _) cw_X12_gap_110 dX12_gap_10 (Nat.le_of_ble_eq_true rfl) rfl (by decide) (by decide) (fun x3 z2 => ?_)
  refine j_if_eq (pc := 13) 25 dX12_gap_13 (by decide) ?_ ?_
  · refine j_iconst (pc := 25) (v := (-1)) dX12_gap_25 (by decide) ?_
    exact j_ireturn (pc := 26) dX12_gap_26 rfl rfl
  refine j_aload_n (pc := 16) 0 dX12_gap_16 rfl rfl ?_
  refine j_getR (pc := 17) ok_X12 (by decide) rfl w_1271 dX12_gap_17 (fun a4 => ?_)
  refine j_iload_n (pc := 20) 1 dX12_gap_20 rfl rfl ?_
  refine j_iaload (pc := 21) dX12_gap_21 (fun x5 => ?_)
  refine j_goto (pc := 22) 26 dX12_gap_22 (by decide) ?_
  exact j_ireturn (pc := 26) dX12_gap_26 rfl rfl
theorem dX12_wordOf_0 : decode cX12_wordOf 0 = .ok (.iload_n 1, 1) := by decide +kernel
theorem dX12_wordOf_1 : decode cX12_wordOf 1 = .ok (.iconst 3, 1) := by decide +kernel
theorem dX12_wordOf_2 : decode cX12_wordOf 2 = .ok (.if_icmp .ne 10, 3) := by decide +kernel
theorem dX12_wordOf_5 : decode cX12_wordOf 5 = .ok (.aload_n 0, 1) := by decide +kernel
theorem dX12_wordOf_6 : decode cX12_wordOf 6 = .ok (.getfield 13, 3) := by decide +kernel
theorem dX12_wordOf_9 : decode cX12_wordOf 9 = .ok (.iconst 1, 1) := by decide +kernel
theorem dX12_wordOf_10 : decode cX12_wordOf 10 = .ok (.iaload, 1) := by decide +kernel
theorem dX12_wordOf_11 : decode cX12_wordOf 11 = .ok (.ireturn, 1) := by decide +kernel
theorem dX12_wordOf_12 : decode cX12_wordOf 12 = .ok (.iload_n 1, 1) := by decide +kernel
theorem dX12_wordOf_13 : decode cX12_wordOf 13 = .ok (.iconst 4, 1) := by decide +kernel
theorem dX12_wordOf_14 : decode cX12_wordOf 14 = .ok (.if_icmp .ne 31, 3) := by decide +kernel
theorem dX12_wordOf_17 : decode cX12_wordOf 17 = .ok (.iconst 0, 1) := by decide +kernel
theorem dX12_wordOf_18 : decode cX12_wordOf 18 = .ok (.istore_n 2, 1) := by decide +kernel
theorem dX12_wordOf_19 : decode cX12_wordOf 19 = .ok (.iconst 0, 1) := by decide +kernel
theorem dX12_wordOf_20 : decode cX12_wordOf 20 = .ok (.istore_n 3, 1) := by decide +kernel
theorem dX12_wordOf_21 : decode cX12_wordOf 21 = .ok (.iload_n 3, 1) := by decide +kernel
theorem dX12_wordOf_22 : decode cX12_wordOf 22 = .ok (.bipush 12, 2) := by decide +kernel
theorem dX12_wordOf_24 : decode cX12_wordOf 24 = .ok (.if_icmp .ge 19, 3) := by decide +kernel
theorem dX12_wordOf_27 : decode cX12_wordOf 27 = .ok (.iload_n 2, 1) := by decide +kernel
theorem dX12_wordOf_28 : decode cX12_wordOf 28 = .ok (.aload_n 0, 1) := by decide +kernel
theorem dX12_wordOf_29 : decode cX12_wordOf 29 = .ok (.iload_n 3, 1) := by decide +kernel
theorem dX12_wordOf_30 : decode cX12_wordOf 30 = .ok (.invokevirtual 325, 3) := by decide +kernel
theorem dX12_wordOf_33 : decode cX12_wordOf 33 = .ok (.invokestatic 310, 3) := by decide +kernel
theorem dX12_wordOf_36 : decode cX12_wordOf 36 = .ok (.istore_n 2, 1) := by decide +kernel
theorem dX12_wordOf_37 : decode cX12_wordOf 37 = .ok (.iinc 3 1, 3) := by decide +kernel
theorem dX12_wordOf_40 : decode cX12_wordOf 40 = .ok (.goto (-19), 3) := by decide +kernel
theorem dX12_wordOf_43 : decode cX12_wordOf 43 = .ok (.iload_n 2, 1) := by decide +kernel
theorem dX12_wordOf_44 : decode cX12_wordOf 44 = .ok (.ireturn, 1) := by decide +kernel
theorem dX12_wordOf_45 : decode cX12_wordOf 45 = .ok (.aload_n 0, 1) := by decide +kernel
theorem dX12_wordOf_46 : decode cX12_wordOf 46 = .ok (.invokevirtual 365, 3) := by decide +kernel
theorem dX12_wordOf_49 : decode cX12_wordOf 49 = .ok (.ifCond .ne 7, 3) := by decide +kernel
theorem dX12_wordOf_52 : decode cX12_wordOf 52 = .ok (.iconst 0, 1) := by decide +kernel
theorem dX12_wordOf_53 : decode cX12_wordOf 53 = .ok (.goto 21, 3) := by decide +kernel
theorem dX12_wordOf_56 : decode cX12_wordOf 56 = .ok (.iload_n 1, 1) := by decide +kernel
theorem dX12_wordOf_57 : decode cX12_wordOf 57 = .ok (.iconst 1, 1) := by decide +kernel
theorem dX12_wordOf_58 : decode cX12_wordOf 58 = .ok (.if_icmp .ne 12, 3) := by decide +kernel
theorem dX12_wordOf_61 : decode cX12_wordOf 61 = .ok (.aload_n 0, 1) := by decide +kernel
theorem dX12_wordOf_62 : decode cX12_wordOf 62 = .ok (.iconst 1, 1) := by decide +kernel
theorem dX12_wordOf_63 : decode cX12_wordOf 63 = .ok (.iconst 0, 1) := by decide +kernel
theorem dX12_wordOf_64 : decode cX12_wordOf 64 = .ok (.invokevirtual 362, 3) := by decide +kernel
theorem dX12_wordOf_67 : decode cX12_wordOf 67 = .ok (.goto 7, 3) := by decide +kernel
theorem dX12_wordOf_70 : decode cX12_wordOf 70 = .ok (.aload_n 0, 1) := by decide +kernel
theorem dX12_wordOf_71 : decode cX12_wordOf 71 = .ok (.invokevirtual 386, 3) := by decide +kernel
theorem dX12_wordOf_74 : decode cX12_wordOf 74 = .ok (.ireturn, 1) := by decide +kernel
theorem cw_X12_wordOf_325 : CwV mi_X12_wordOf mi_X12_liftOf yX12_liftOf RX12 325 1 := ⟨⟨w_1550, w_1552, w_73, w_108, w_1553⟩, ⟨by decide, by decide⟩, by decide +kernel, by decide, by decide⟩
theorem cw_X12_wordOf_310 : CwS mi_X12_wordOf mi_J9_max_7cf53 yJ9_max_7cf53 310 2 := ⟨⟨w_1549, w_834, w_109, w_835⟩, ⟨by decide, by decide⟩, by decide +kernel, by decide, by decide⟩
theorem cw_X12_wordOf_365 : CwV mi_X12_wordOf mi_X12_hasShaft yX12_hasShaft RX12 365 0 := ⟨⟨w_1613, w_1615, w_81, w_108, w_1616⟩, ⟨by decide, by decide⟩, by decide +kernel, by decide, by decide⟩
theorem cw_X12_wordOf_386 : CwV mi_X12_wordOf mi_X12_findGaps yX12_findGaps RX12 386 0 := ⟨⟨w_1629, w_1631, w_82, w_108, w_1632⟩, ⟨by decide, by decide⟩, by decide +kernel, by decide, by decide⟩
theorem cw_X12_wordOf_362 : CwV mi_X12_wordOf mi_X12_leastOut yX12_leastOut RX12 362 2 := ⟨⟨w_1563, w_1565, w_76, w_108, w_1566⟩, ⟨by decide, by decide⟩, by decide +kernel, by decide, by decide⟩
theorem j_X12_wordOf_L21 {l : Launch} {Γ : Am}   : ∀ (f : Nat), ∀ (r0 : Nat) (v2 : Int32) (v3 : Int32) (z : Hp), J l Γ mi_X12_wordOf cvI 0 0 21 [(0, .ref (mB Γ + r0)), (2, .int v2), (3, .int v3)] [] z (m_X12_wordOf_L21  f r0 v2 v3 z) := by
  intro f
  induction f with
  | zero => intro r0 v2 v3 z; exact J.none
  | succ f hL21 =>
    intro r0 v2 v3 z
    rw [m_X12_wordOf_L21]
    refine j_iload_n (pc := 21) 2 dX12_wordOf_21 rfl rfl ?_
    refine j_bipush (pc := 22) (v := 12) dX12_wordOf_22 (by decide) ?_
    refine j_icmp_ge (pc := 24) 43 dX12_wordOf_24 (by decide) ?_ ?_
    · refine j_iload_n (pc := 43) 1 dX12_wordOf_43 rfl rfl ?_
      exact j_ireturn (pc := 44) dX12_wordOf_44 rfl rfl
    refine j_iload_n (pc := 27) 1 dX12_wordOf_27 rfl rfl ?_
    refine j_aload_n (pc := 28) 0 dX12_wordOf_28 rfl rfl ?_
    refine j_iload_n (pc := 29) 2 dX12_wordOf_29 rfl rfl ?_
    refine j_isC (fun h3 => ?_)
    refine j_callV_I (pc := 30) (as := [.int v3]) (mc2 := 0) (ms2 := 0) (ct_X12_liftOf _ _ _) h3 rfl cw_X12_wordOf_325 dX12_wordOf_30 (Nat.le_of_ble_eq_true rfl) rfl (by decide) (by decide) (fun x2 z1 => ?_)
    refine j_callS_I (pc := 33) (as := [.int v2, .int x2]) (mc2 := 0) (ms2 := 0) (ct_J9_max_7cf53 _ _ _) cw_X12_wordOf_310 dX12_wordOf_33 (Nat.le_of_ble_eq_true rfl) rfl (by decide) (by decide) (fun x5 z4 => ?_)
    refine j_istore_n (pc := 36) (lv2 := [(2, .int x5), (0, .ref (mB Γ + r0)), (3, .int v3)]) dX12_wordOf_36 rfl (by decide) rfl ?_
    refine j_iinc (pc := 37) (n0 := 2) (v0 := v3 + 1) (lv2 := [(3, .int (v3 + 1)), (2, .int x5), (0, .ref (mB Γ + r0))]) dX12_wordOf_37 rfl rfl (by decide) rfl ?_
    refine j_goto (pc := 40) 21 dX12_wordOf_40 (by decide) ?_
    exact J.sub [2, 1, 0] rfl (hL21 r0 x5 (v3 + 1) z4)
theorem ct_X12_wordOf {l : Launch} {Γ : Am} (r0 : Nat) (v1 : Int32) (z : Hp) : Ct l Γ yX12_wordOf mi_X12_wordOf cvI [.ref (mB Γ + r0), .int v1] z (m_X12_wordOf r0 v1 z) := by
  refine Ct.ofJ (by decide) ⟨rfl, rfl⟩ (Nat.le_of_ble_eq_true rfl) ?_
  unfold m_X12_wordOf
  show J l Γ mi_X12_wordOf cvI 0 0 0 [(0, .ref (mB Γ + r0)), (1, .int v1)] [] z _
  refine j_iload_n (pc := 0) 1 dX12_wordOf_0 rfl rfl ?_
  refine j_iconst (pc := 1) (v := 3) dX12_wordOf_1 (by decide) ?_
  refine j_icmp_ne (pc := 2) 12 dX12_wordOf_2 (by decide) ?_ ?_
  · refine j_iload_n (pc := 12) 1 dX12_wordOf_12 rfl rfl ?_
    refine j_iconst (pc := 13) (v := 4) dX12_wordOf_13 (by decide) ?_
    refine j_icmp_ne (pc := 14) 45 dX12_wordOf_14 (by decide) ?_ ?_
    · refine j_aload_n (pc := 45) 0 dX12_wordOf_45 rfl rfl ?_
      refine j_isC (fun h8 => ?_)
      refine j_callV_I (pc := 46) (as := []) (mc2 := 0) (ms2 := 0) (ct_X12_hasShaft _ _) h8 rfl cw_X12_wordOf_365 dX12_wordOf_46 (Nat.le_of_ble_eq_true rfl) rfl (by decide) (by decide) (fun x7 z6 => ?_)
      refine j_if_ne (pc := 49) 56 dX12_wordOf_49 (by decide) ?_ ?_
      · refine j_iload_n (pc := 56) 1 dX12_wordOf_56 rfl rfl ?_
        refine j_iconst (pc := 57) (v := 1) dX12_wordOf_57 (by decide) ?_
        refine j_icmp_ne (pc := 58) 70 dX12_wordOf_58 (by decide) ?_ ?_
        · refine j_aload_n (pc := 70) 0 dX12_wordOf_70 rfl rfl ?_
          refine j_isC (fun h11 => ?_)
          refine j_callV_I (pc := 71) (as := []) (mc2 := 0) (ms2 := 0) (ct_X12_findGaps _ _) h11 rfl cw_X12_wordOf_386 dX12_wordOf_71 (Nat.le_of_ble_eq_true rfl) rfl (by decide) (by decide) (fun x10 z9 => ?_)
          exact j_ireturn (pc := 74) dX12_wordOf_74 rfl rfl
        refine j_aload_n (pc := 61) 0 dX12_wordOf_61 rfl rfl ?_
        refine j_iconst (pc := 62) (v := 1) dX12_wordOf_62 (by decide) ?_
        refine j_iconst (pc := 63) (v := 0) dX12_wordOf_63 (by decide) ?_
        refine j_isC (fun h14 => ?_)
        refine j_callV_I (pc := 64) (as := [.int 1, .int 0]) (mc2 := 0) (ms2 := 0) (ct_X12_leastOut _ _ _ _) h14 rfl cw_X12_wordOf_362 dX12_wordOf_64 (Nat.le_of_ble_eq_true rfl) rfl (by decide) (by decide) (fun x13 z12 => ?_)
        refine j_goto (pc := 67) 74 dX12_wordOf_67 (by decide) ?_
        exact j_ireturn (pc := 74) dX12_wordOf_74 rfl rfl
      refine j_iconst (pc := 52) (v := 0) dX12_wordOf_52 (by decide) ?_
      refine j_goto (pc := 53) 74 dX12_wordOf_53 (by decide) ?_
      exact j_ireturn (pc := 74) dX12_wordOf_74 rfl rfl
    refine j_iconst (pc := 17) (v := 0) dX12_wordOf_17 (by decide) ?_
    refine j_istore_n (pc := 18) (lv2 := [(2, .int 0), (0, .ref (mB Γ + r0)), (1, .int v1)]) dX12_wordOf_18 rfl (by decide) rfl ?_
    refine j_iconst (pc := 19) (v := 0) dX12_wordOf_19 (by decide) ?_
    refine j_istore_n (pc := 20) (lv2 := [(3, .int 0), (2, .int 0), (0, .ref (mB Γ + r0)), (1, .int v1)]) dX12_wordOf_20 rfl (by decide) rfl ?_
    exact J.sub [2, 1, 0] rfl ((j_X12_wordOf_L21 FU) r0 0 0 z)
  refine j_aload_n (pc := 5) 0 dX12_wordOf_5 rfl rfl ?_
  refine j_getR (pc := 6) ok_X12 (by decide) rfl w_1239 dX12_wordOf_6 (fun a15 => ?_)
  refine j_iconst (pc := 9) (v := 1) dX12_wordOf_9 (by decide) ?_
  refine j_iaload (pc := 10) dX12_wordOf_10 (fun x16 => ?_)
  exact j_ireturn (pc := 11) dX12_wordOf_11 rfl rfl
theorem dX12_condHolds_0 : decode cX12_condHolds 0 = .ok (.aload_n 0, 1) := by decide +kernel
theorem dX12_condHolds_1 : decode cX12_condHolds 1 = .ok (.getfield 13, 3) := by decide +kernel
theorem dX12_condHolds_4 : decode cX12_condHolds 4 = .ok (.iload_n 1, 1) := by decide +kernel
theorem dX12_condHolds_5 : decode cX12_condHolds 5 = .ok (.iaload, 1) := by decide +kernel
theorem dX12_condHolds_6 : decode cX12_condHolds 6 = .ok (.ifCond .ne 23, 3) := by decide +kernel
theorem dX12_condHolds_9 : decode cX12_condHolds 9 = .ok (.aload_n 0, 1) := by decide +kernel
theorem dX12_condHolds_10 : decode cX12_condHolds 10 = .ok (.invokevirtual 365, 3) := by decide +kernel
theorem dX12_condHolds_13 : decode cX12_condHolds 13 = .ok (.ifCond .eq 14, 3) := by decide +kernel
theorem dX12_condHolds_16 : decode cX12_condHolds 16 = .ok (.aload_n 0, 1) := by decide +kernel
theorem dX12_condHolds_17 : decode cX12_condHolds 17 = .ok (.invokevirtual 334, 3) := by decide +kernel
theorem dX12_condHolds_20 : decode cX12_condHolds 20 = .ok (.ifCond .eq 7, 3) := by decide +kernel
theorem dX12_condHolds_23 : decode cX12_condHolds 23 = .ok (.iconst 1, 1) := by decide +kernel
theorem dX12_condHolds_24 : decode cX12_condHolds 24 = .ok (.goto 4, 3) := by decide +kernel
theorem dX12_condHolds_27 : decode cX12_condHolds 27 = .ok (.iconst 0, 1) := by decide +kernel
theorem dX12_condHolds_28 : decode cX12_condHolds 28 = .ok (.ireturn, 1) := by decide +kernel
theorem dX12_condHolds_29 : decode cX12_condHolds 29 = .ok (.aload_n 0, 1) := by decide +kernel
theorem dX12_condHolds_30 : decode cX12_condHolds 30 = .ok (.aload_n 0, 1) := by decide +kernel
theorem dX12_condHolds_31 : decode cX12_condHolds 31 = .ok (.getfield 13, 3) := by decide +kernel
theorem dX12_condHolds_34 : decode cX12_condHolds 34 = .ok (.iload_n 1, 1) := by decide +kernel
theorem dX12_condHolds_35 : decode cX12_condHolds 35 = .ok (.iaload, 1) := by decide +kernel
theorem dX12_condHolds_36 : decode cX12_condHolds 36 = .ok (.invokevirtual 392, 3) := by decide +kernel
theorem dX12_condHolds_39 : decode cX12_condHolds 39 = .ok (.istore_n 2, 1) := by decide +kernel
theorem dX12_condHolds_40 : decode cX12_condHolds 40 = .ok (.aload_n 0, 1) := by decide +kernel
theorem dX12_condHolds_41 : decode cX12_condHolds 41 = .ok (.getfield 13, 3) := by decide +kernel
theorem dX12_condHolds_44 : decode cX12_condHolds 44 = .ok (.iload_n 1, 1) := by decide +kernel
theorem dX12_condHolds_45 : decode cX12_condHolds 45 = .ok (.iconst 1, 1) := by decide +kernel
theorem dX12_condHolds_46 : decode cX12_condHolds 46 = .ok (.iadd, 1) := by decide +kernel
theorem dX12_condHolds_47 : decode cX12_condHolds 47 = .ok (.iaload, 1) := by decide +kernel
theorem dX12_condHolds_48 : decode cX12_condHolds 48 = .ok (.bipush 60, 2) := by decide +kernel
theorem dX12_condHolds_50 : decode cX12_condHolds 50 = .ok (.if_icmp .ne 23, 3) := by decide +kernel
theorem dX12_condHolds_53 : decode cX12_condHolds 53 = .ok (.iload_n 2, 1) := by decide +kernel
theorem dX12_condHolds_54 : decode cX12_condHolds 54 = .ok (.aload_n 0, 1) := by decide +kernel
theorem dX12_condHolds_55 : decode cX12_condHolds 55 = .ok (.getfield 13, 3) := by decide +kernel
theorem dX12_condHolds_58 : decode cX12_condHolds 58 = .ok (.iload_n 1, 1) := by decide +kernel
theorem dX12_condHolds_59 : decode cX12_condHolds 59 = .ok (.iconst 2, 1) := by decide +kernel
theorem dX12_condHolds_60 : decode cX12_condHolds 60 = .ok (.iadd, 1) := by decide +kernel
theorem dX12_condHolds_61 : decode cX12_condHolds 61 = .ok (.iaload, 1) := by decide +kernel
theorem dX12_condHolds_62 : decode cX12_condHolds 62 = .ok (.if_icmp .ge 7, 3) := by decide +kernel
theorem dX12_condHolds_65 : decode cX12_condHolds 65 = .ok (.iconst 1, 1) := by decide +kernel
theorem dX12_condHolds_66 : decode cX12_condHolds 66 = .ok (.goto 24, 3) := by decide +kernel
theorem dX12_condHolds_69 : decode cX12_condHolds 69 = .ok (.iconst 0, 1) := by decide +kernel
theorem dX12_condHolds_70 : decode cX12_condHolds 70 = .ok (.goto 20, 3) := by decide +kernel
theorem dX12_condHolds_73 : decode cX12_condHolds 73 = .ok (.iload_n 2, 1) := by decide +kernel
theorem dX12_condHolds_74 : decode cX12_condHolds 74 = .ok (.aload_n 0, 1) := by decide +kernel
theorem dX12_condHolds_75 : decode cX12_condHolds 75 = .ok (.getfield 13, 3) := by decide +kernel
theorem dX12_condHolds_78 : decode cX12_condHolds 78 = .ok (.iload_n 1, 1) := by decide +kernel
theorem dX12_condHolds_79 : decode cX12_condHolds 79 = .ok (.iconst 2, 1) := by decide +kernel
theorem dX12_condHolds_80 : decode cX12_condHolds 80 = .ok (.iadd, 1) := by decide +kernel
theorem dX12_condHolds_81 : decode cX12_condHolds 81 = .ok (.iaload, 1) := by decide +kernel
theorem dX12_condHolds_82 : decode cX12_condHolds 82 = .ok (.if_icmp .le 7, 3) := by decide +kernel
theorem dX12_condHolds_85 : decode cX12_condHolds 85 = .ok (.iconst 1, 1) := by decide +kernel
theorem dX12_condHolds_86 : decode cX12_condHolds 86 = .ok (.goto 4, 3) := by decide +kernel
theorem dX12_condHolds_89 : decode cX12_condHolds 89 = .ok (.iconst 0, 1) := by decide +kernel
theorem dX12_condHolds_90 : decode cX12_condHolds 90 = .ok (.ireturn, 1) := by decide +kernel
theorem cw_X12_condHolds_392 : CwV mi_X12_condHolds mi_X12_wordOf yX12_wordOf RX12 392 1 := ⟨⟨w_1664, w_1666, w_88, w_108, w_1667⟩, ⟨by decide, by decide⟩, by decide +kernel, by decide, by decide⟩
theorem cw_X12_condHolds_365 : CwV mi_X12_condHolds mi_X12_hasShaft yX12_hasShaft RX12 365 0 := ⟨⟨w_1613, w_1615, w_81, w_108, w_1616⟩, ⟨by decide, by decide⟩, by decide +kernel, by decide, by decide⟩
theorem cw_X12_condHolds_334 : CwV mi_X12_condHolds mi_X12_isShut yX12_isShut RX12 334 0 := ⟨⟨w_1559, w_1561, w_75, w_108, w_1562⟩, ⟨by decide, by decide⟩, by decide +kernel, by decide, by decide⟩
theorem ct_X12_condHolds {l : Launch} {Γ : Am} (r0 : Nat) (v1 : Int32) (z : Hp) : Ct l Γ yX12_condHolds mi_X12_condHolds cvI [.ref (mB Γ + r0), .int v1] z (m_X12_condHolds r0 v1 z) := by
  refine Ct.ofJ (by decide) ⟨rfl, rfl⟩ (Nat.le_of_ble_eq_true rfl) ?_
  unfold m_X12_condHolds
  show J l Γ mi_X12_condHolds cvI 0 0 0 [(0, .ref (mB Γ + r0)), (1, .int v1)] [] z _
  refine j_aload_n (pc := 0) 0 dX12_condHolds_0 rfl rfl ?_
  refine j_getR (pc := 1) ok_X12 (by decide) rfl w_1239 dX12_condHolds_1 (fun a1 => ?_)
  refine j_iload_n (pc := 4) 1 dX12_condHolds_4 rfl rfl ?_
  refine j_iaload (pc := 5) dX12_condHolds_5 (fun x2 => ?_)
  refine j_if_ne (pc := 6) 29 dX12_condHolds_6 (by decide) ?_ ?_
  · refine j_aload_n (pc := 29) 0 dX12_condHolds_29 rfl rfl ?_
    refine j_aload_n (pc := 30) 0 dX12_condHolds_30 rfl rfl ?_
    refine j_getR (pc := 31) ok_X12 (by decide) rfl w_1239 dX12_condHolds_31 (fun a3 => ?_)
    refine j_iload_n (pc := 34) 1 dX12_condHolds_34 rfl rfl ?_
    refine j_iaload (pc := 35) dX12_condHolds_35 (fun x4 => ?_)
    refine j_isC (fun h7 => ?_)
    refine j_callV_I (pc := 36) (as := [.int x4]) (mc2 := 0) (ms2 := 0) (ct_X12_wordOf _ _ _) h7 rfl cw_X12_condHolds_392 dX12_condHolds_36 (Nat.le_of_ble_eq_true rfl) rfl (by decide) (by decide) (fun x6 z5 => ?_)
    refine j_istore_n (pc := 39) (lv2 := [(2, .int x6), (0, .ref (mB Γ + r0)), (1, .int v1)]) dX12_condHolds_39 rfl (by decide) rfl ?_
    refine j_aload_n (pc := 40) 1 dX12_condHolds_40 rfl rfl ?_
    refine j_getR (pc := 41) ok_X12 (by decide) rfl w_1239 dX12_condHolds_41 (fun a8 => ?_)
    refine j_iload_n (pc := 44) 2 dX12_condHolds_44 rfl rfl ?_
    refine j_iconst (pc := 45) (v := 1) dX12_condHolds_45 (by decide) ?_
    refine j_iadd (pc := 46) dX12_condHolds_46 ?_
    refine j_iaload (pc := 47) dX12_condHolds_47 (fun x9 => ?_)
    refine j_bipush (pc := 48) (v := 60) dX12_condHolds_48 (by decide) ?_
    refine j_icmp_ne (pc := 50) 73 dX12_condHolds_50 (by decide) ?_ ?_
    · refine j_iload_n (pc := 73) 0 dX12_condHolds_73 rfl rfl ?_
      refine j_aload_n (pc := 74) 1 dX12_condHolds_74 rfl rfl ?_
      refine j_getR (pc := 75) ok_X12 (by decide) rfl w_1239 dX12_condHolds_75 (fun a10 => ?_)
      refine j_iload_n (pc := 78) 2 dX12_condHolds_78 rfl rfl ?_
      refine j_iconst (pc := 79) (v := 2) dX12_condHolds_79 (by decide) ?_
      refine j_iadd (pc := 80) dX12_condHolds_80 ?_
      refine j_iaload (pc := 81) dX12_condHolds_81 (fun x11 => ?_)
      refine j_icmp_le (pc := 82) 89 dX12_condHolds_82 (by decide) ?_ ?_
      · refine j_iconst (pc := 89) (v := 0) dX12_condHolds_89 (by decide) ?_
        exact j_ireturn (pc := 90) dX12_condHolds_90 rfl rfl
      refine j_iconst (pc := 85) (v := 1) dX12_condHolds_85 (by decide) ?_
      refine j_goto (pc := 86) 90 dX12_condHolds_86 (by decide) ?_
      exact j_ireturn (pc := 90) dX12_condHolds_90 rfl rfl
    refine j_iload_n (pc := 53) 0 dX12_condHolds_53 rfl rfl ?_
    refine j_aload_n (pc := 54) 1 dX12_condHolds_54 rfl rfl ?_
    refine j_getR (pc := 55) ok_X12 (by decide) rfl w_1239 dX12_condHolds_55 (fun a12 => ?_)
    refine j_iload_n (pc := 58) 2 dX12_condHolds_58 rfl rfl ?_
    refine j_iconst (pc := 59) (v := 2) dX12_condHolds_59 (by decide) ?_
    refine j_iadd (pc := 60) dX12_condHolds_60 ?_
    refine j_iaload (pc := 61) dX12_condHolds_61 (fun x13 => ?_)
    refine j_icmp_ge (pc := 62) 69 dX12_condHolds_62 (by decide) ?_ ?_
    · refine j_iconst (pc := 69) (v := 0) dX12_condHolds_69 (by decide) ?_
      refine j_goto (pc := 70) 90 dX12_condHolds_70 (by decide) ?_
      exact j_ireturn (pc := 90) dX12_condHolds_90 rfl rfl
    refine j_iconst (pc := 65) (v := 1) dX12_condHolds_65 (by decide) ?_
    refine j_goto (pc := 66) 90 dX12_condHolds_66 (by decide) ?_
    exact j_ireturn (pc := 90) dX12_condHolds_90 rfl rfl
  refine j_aload_n (pc := 9) 0 dX12_condHolds_9 rfl rfl ?_
  refine j_isC (fun h16 => ?_)
  refine j_callV_I (pc := 10) (as := []) (mc2 := 0) (ms2 := 0) (ct_X12_hasShaft _ _) h16 rfl cw_X12_condHolds_365 dX12_condHolds_10 (Nat.le_of_ble_eq_true rfl) rfl (by decide) (by decide) (fun x15 z14 => ?_)
  refine j_if_eq (pc := 13) 27 dX12_condHolds_13 (by decide) ?_ ?_
  · refine j_iconst (pc := 27) (v := 0) dX12_condHolds_27 (by decide) ?_
    exact j_ireturn (pc := 28) dX12_condHolds_28 rfl rfl
  refine j_aload_n (pc := 16) 0 dX12_condHolds_16 rfl rfl ?_
  refine j_isC (fun h19 => ?_)
  refine j_callV_I (pc := 17) (as := []) (mc2 := 0) (ms2 := 0) (ct_X12_isShut _ _) h19 rfl cw_X12_condHolds_334 dX12_condHolds_17 (Nat.le_of_ble_eq_true rfl) rfl (by decide) (by decide) (fun x18 z17 => ?_)
  refine j_if_eq (pc := 20) 27 dX12_condHolds_20 (by decide) ?_ ?_
  · refine j_iconst (pc := 27) (v := 0) dX12_condHolds_27 (by decide) ?_
    exact j_ireturn (pc := 28) dX12_condHolds_28 rfl rfl
  refine j_iconst (pc := 23) (v := 1) dX12_condHolds_23 (by decide) ?_
  refine j_goto (pc := 24) 28 dX12_condHolds_24 (by decide) ?_
  exact j_ireturn (pc := 28) dX12_condHolds_28 rfl rfl
