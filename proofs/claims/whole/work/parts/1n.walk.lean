theorem dX12_cut_0 : decode cX12_cut 0 = .ok (.bipush 64, 2) := by decide +kernel
theorem dX12_cut_2 : decode cX12_cut 2 = .ok (.bipush 8, 2) := by decide +kernel
theorem dX12_cut_4 : decode cX12_cut 4 = .ok (.iload_n 2, 1) := by decide +kernel
theorem dX12_cut_5 : decode cX12_cut 5 = .ok (.ishl, 1) := by decide +kernel
theorem dX12_cut_6 : decode cX12_cut 6 = .ok (.isub, 1) := by decide +kernel
theorem dX12_cut_7 : decode cX12_cut 7 = .ok (.istore_n 3, 1) := by decide +kernel
theorem dX12_cut_8 : decode cX12_cut 8 = .ok (.lload_n 0, 1) := by decide +kernel
theorem dX12_cut_9 : decode cX12_cut 9 = .ok (.iload_n 3, 1) := by decide +kernel
theorem dX12_cut_10 : decode cX12_cut 10 = .ok (.lshl, 1) := by decide +kernel
theorem dX12_cut_11 : decode cX12_cut 11 = .ok (.iload_n 3, 1) := by decide +kernel
theorem dX12_cut_12 : decode cX12_cut 12 = .ok (.lshr, 1) := by decide +kernel
theorem dX12_cut_13 : decode cX12_cut 13 = .ok (.lreturn, 1) := by decide +kernel
theorem ct_X12_cut {l : Launch} {Γ : Am} (w0 : Int64) (v2 : Int32) (z : Hp) : Ct l Γ yX12_cut mi_X12_cut cvL [.long w0, .int v2] z (m_X12_cut w0 v2 z) := by
  refine Ct.ofJ (by decide) ⟨rfl, rfl⟩ (Nat.le_of_ble_eq_true rfl) ?_
  unfold m_X12_cut
  show J l Γ mi_X12_cut cvL 0 0 0 [(0, .long w0), (2, .int v2)] [] z _
  refine j_bipush (pc := 0) (v := 64) dX12_cut_0 (by decide) ?_
  refine j_bipush (pc := 2) (v := 8) dX12_cut_2 (by decide) ?_
  refine j_iload_n (pc := 4) 1 dX12_cut_4 rfl rfl ?_
  refine j_ishl (pc := 5) dX12_cut_5 ?_
  refine j_isub (pc := 6) dX12_cut_6 ?_
  refine j_istore_n (pc := 7) (lv2 := [(3, .int (64 - ((8 : Int32) <<< (v2 &&& 31)))), (0, .long w0), (2, .int v2)]) dX12_cut_7 rfl (by decide) rfl ?_
  refine j_lload_n (pc := 8) 1 dX12_cut_8 rfl rfl ?_
  refine j_iload_n (pc := 9) 0 dX12_cut_9 rfl rfl ?_
  refine j_lshl (pc := 10) dX12_cut_10 ?_
  refine j_iload_n (pc := 11) 0 dX12_cut_11 rfl rfl ?_
  refine j_lshr (pc := 12) dX12_cut_12 ?_
  exact j_lreturn (pc := 13) dX12_cut_13 rfl
theorem dX12_row_0 : decode cX12_row 0 = .ok (.iload_n 1, 1) := by decide +kernel
theorem dX12_row_1 : decode cX12_row 1 = .ok (.invokestatic 412, 3) := by decide +kernel
theorem dX12_row_4 : decode cX12_row 4 = .ok (.ifCond .eq 21, 3) := by decide +kernel
theorem dX12_row_7 : decode cX12_row 7 = .ok (.iload_n 2, 1) := by decide +kernel
theorem dX12_row_8 : decode cX12_row 8 = .ok (.i2l, 1) := by decide +kernel
theorem dX12_row_9 : decode cX12_row 9 = .ok (.lconst 0, 1) := by decide +kernel
theorem dX12_row_10 : decode cX12_row 10 = .ok (.ldc2_w 198, 3) := by decide +kernel
theorem dX12_row_13 : decode cX12_row 13 = .ok (.invokestatic 110, 3) := by decide +kernel
theorem dX12_row_16 : decode cX12_row 16 = .ok (.ifCond .eq 9, 3) := by decide +kernel
theorem dX12_row_19 : decode cX12_row 19 = .ok (.iload_n 3, 1) := by decide +kernel
theorem dX12_row_20 : decode cX12_row 20 = .ok (.bipush 60, 2) := by decide +kernel
theorem dX12_row_22 : decode cX12_row 22 = .ok (.if_icmp .le 6, 3) := by decide +kernel
theorem dX12_row_25 : decode cX12_row 25 = .ok (.bipush (-2), 2) := by decide +kernel
theorem dX12_row_27 : decode cX12_row 27 = .ok (.ireturn, 1) := by decide +kernel
theorem dX12_row_28 : decode cX12_row 28 = .ok (.iload_n 3, 1) := by decide +kernel
theorem dX12_row_29 : decode cX12_row 29 = .ok (.ifCond .ge 6, 3) := by decide +kernel
theorem dX12_row_32 : decode cX12_row 32 = .ok (.bipush (-3), 2) := by decide +kernel
theorem dX12_row_34 : decode cX12_row 34 = .ok (.ireturn, 1) := by decide +kernel
theorem dX12_row_35 : decode cX12_row 35 = .ok (.aload_n 0, 1) := by decide +kernel
theorem dX12_row_36 : decode cX12_row 36 = .ok (.getfield 73, 3) := by decide +kernel
theorem dX12_row_39 : decode cX12_row 39 = .ok (.iload_n 1, 1) := by decide +kernel
theorem dX12_row_40 : decode cX12_row 40 = .ok (.iload_n 3, 1) := by decide +kernel
theorem dX12_row_41 : decode cX12_row 41 = .ok (.iastore, 1) := by decide +kernel
theorem dX12_row_42 : decode cX12_row 42 = .ok (.aload_n 0, 1) := by decide +kernel
theorem dX12_row_43 : decode cX12_row 43 = .ok (.getfield 76, 3) := by decide +kernel
theorem dX12_row_46 : decode cX12_row 46 = .ok (.iload_n 1, 1) := by decide +kernel
theorem dX12_row_47 : decode cX12_row 47 = .ok (.iload_n 2, 1) := by decide +kernel
theorem dX12_row_48 : decode cX12_row 48 = .ok (.iastore, 1) := by decide +kernel
theorem dX12_row_49 : decode cX12_row 49 = .ok (.iconst 0, 1) := by decide +kernel
theorem dX12_row_50 : decode cX12_row 50 = .ok (.istore 4, 2) := by decide +kernel
theorem dX12_row_52 : decode cX12_row 52 = .ok (.iload 4, 2) := by decide +kernel
theorem dX12_row_54 : decode cX12_row 54 = .ok (.bipush 60, 2) := by decide +kernel
theorem dX12_row_56 : decode cX12_row 56 = .ok (.if_icmp .ge 22, 3) := by decide +kernel
theorem dX12_row_59 : decode cX12_row 59 = .ok (.aload_n 0, 1) := by decide +kernel
theorem dX12_row_60 : decode cX12_row 60 = .ok (.getfield 79, 3) := by decide +kernel
theorem dX12_row_63 : decode cX12_row 63 = .ok (.bipush 60, 2) := by decide +kernel
theorem dX12_row_65 : decode cX12_row 65 = .ok (.iload_n 1, 1) := by decide +kernel
theorem dX12_row_66 : decode cX12_row 66 = .ok (.imul, 1) := by decide +kernel
theorem dX12_row_67 : decode cX12_row 67 = .ok (.iload 4, 2) := by decide +kernel
theorem dX12_row_69 : decode cX12_row 69 = .ok (.iadd, 1) := by decide +kernel
theorem dX12_row_70 : decode cX12_row 70 = .ok (.lconst 0, 1) := by decide +kernel
theorem dX12_row_71 : decode cX12_row 71 = .ok (.lastore, 1) := by decide +kernel
theorem dX12_row_72 : decode cX12_row 72 = .ok (.iinc 4 1, 3) := by decide +kernel
theorem dX12_row_75 : decode cX12_row 75 = .ok (.goto (-23), 3) := by decide +kernel
theorem dX12_row_78 : decode cX12_row 78 = .ok (.iconst 0, 1) := by decide +kernel
theorem dX12_row_79 : decode cX12_row 79 = .ok (.ireturn, 1) := by decide +kernel
theorem cw_X12_row_412 : CwS mi_X12_row mi_X12_isSlot yX12_isSlot 412 1 := ⟨⟨w_1713, w_1714, w_108, w_1715⟩, ⟨by decide, by decide⟩, by decide +kernel, by decide, by decide⟩
theorem cw_X12_row_110 : CwS mi_X12_row mi_X12_in yX12_in 110 3 := ⟨⟨w_1365, w_1366, w_108, w_1367⟩, ⟨by decide, by decide⟩, by decide +kernel, by decide, by decide⟩
theorem j_X12_row_L52 {l : Launch} {Γ : Am}   : ∀ (f : Nat), ∀ (r0 : Nat) (v1 : Int32) (v4 : Int32) (z : Hp), J l Γ mi_X12_row cvI 0 0 52 [(0, .ref (mB Γ + r0)), (1, .int v1), (4, .int v4)] [] z (m_X12_row_L52  f r0 v1 v4 z) := by
  intro f
  induction f with
  | zero => intro r0 v1 v4 z; exact J.none
  | succ f hL52 =>
    intro r0 v1 v4 z
    rw [m_X12_row_L52]
    refine j_iload (pc := 52) 2 dX12_row_52 rfl ?_
    refine j_bipush (pc := 54) (v := 60) dX12_row_54 (by decide) ?_
    refine j_icmp_ge (pc := 56) 78 dX12_row_56 (by decide) ?_ ?_
    · refine j_iconst (pc := 78) (v := 0) dX12_row_78 (by decide) ?_
      exact j_ireturn (pc := 79) dX12_row_79 rfl rfl
    refine j_aload_n (pc := 59) 0 dX12_row_59 rfl rfl ?_
    refine j_getR (pc := 60) ok_X12 (by decide) rfl w_1276 dX12_row_60 (fun a1 => ?_)
    refine j_bipush (pc := 63) (v := 60) dX12_row_63 (by decide) ?_
    refine j_iload_n (pc := 65) 1 dX12_row_65 rfl rfl ?_
    refine j_imul (pc := 66) dX12_row_66 ?_
    refine j_iload (pc := 67) 2 dX12_row_67 rfl ?_
    refine j_iadd (pc := 69) dX12_row_69 ?_
    refine j_lconst (pc := 70) (v := 0) dX12_row_70 (by decide) ?_
    refine j_lastore (pc := 71) dX12_row_71 (fun z2 => ?_)
    refine j_iinc (pc := 72) (n0 := 2) (v0 := v4 + 1) (lv2 := [(4, .int (v4 + 1)), (0, .ref (mB Γ + r0)), (1, .int v1)]) dX12_row_72 rfl rfl (by decide) rfl ?_
    refine j_goto (pc := 75) 52 dX12_row_75 (by decide) ?_
    exact J.sub [1, 2, 0] rfl (hL52 r0 v1 (v4 + 1) z2)
theorem ct_X12_row {l : Launch} {Γ : Am} (r0 : Nat) (v1 : Int32) (v2 : Int32) (v3 : Int32) (z : Hp) : Ct l Γ yX12_row mi_X12_row cvI [.ref (mB Γ + r0), .int v1, .int v2, .int v3] z (m_X12_row r0 v1 v2 v3 z) := by
  refine Ct.ofJ (by decide) ⟨rfl, rfl⟩ (Nat.le_of_ble_eq_true rfl) ?_
  unfold m_X12_row
  show J l Γ mi_X12_row cvI 0 0 0 [(0, .ref (mB Γ + r0)), (1, .int v1), (2, .int v2), (3, .int v3)] [] z _
  refine j_iload_n (pc := 0) 1 dX12_row_0 rfl rfl ?_
  refine j_callS_I (pc := 1) (as := [.int v1]) (mc2 := 0) (ms2 := 0) (ct_X12_isSlot _ _) cw_X12_row_412 dX12_row_1 (Nat.le_of_ble_eq_true rfl) rfl (by decide) (by decide) (fun x4 z3 => ?_)
  refine j_if_eq (pc := 4) 25 dX12_row_4 (by decide) ?_ ?_
  · refine j_bipush (pc := 25) (v := (-2)) dX12_row_25 (by decide) ?_
    exact j_ireturn (pc := 27) dX12_row_27 rfl rfl
  refine j_iload_n (pc := 7) 2 dX12_row_7 rfl rfl ?_
  refine j_i2l (pc := 8) dX12_row_8 ?_
  refine j_lconst (pc := 9) (v := 0) dX12_row_9 (by decide) ?_
  refine j_ldc2 (pc := 10) (v := 3) dX12_row_10 w_1433 ?_
  refine j_callS_I (pc := 13) (as := [.long (Int32.toInt64 v2), .long 0, .long 3]) (mc2 := 0) (ms2 := 0) (ct_X12_in _ _ _ _) cw_X12_row_110 dX12_row_13 (Nat.le_of_ble_eq_true rfl) rfl (by decide) (by decide) (fun x6 z5 => ?_)
  refine j_if_eq (pc := 16) 25 dX12_row_16 (by decide) ?_ ?_
  · refine j_bipush (pc := 25) (v := (-2)) dX12_row_25 (by decide) ?_
    exact j_ireturn (pc := 27) dX12_row_27 rfl rfl
  refine j_iload_n (pc := 19) 3 dX12_row_19 rfl rfl ?_
  refine j_bipush (pc := 20) (v := 60) dX12_row_20 (by decide) ?_
  refine j_icmp_le (pc := 22) 28 dX12_row_22 (by decide) ?_ ?_
  · refine j_iload_n (pc := 28) 3 dX12_row_28 rfl rfl ?_
    refine j_if_ge (pc := 29) 35 dX12_row_29 (by decide) ?_ ?_
    · refine j_aload_n (pc := 35) 0 dX12_row_35 rfl rfl ?_
      refine j_getR (pc := 36) ok_X12 (by decide) rfl w_1274 dX12_row_36 (fun a7 => ?_)
      refine j_iload_n (pc := 39) 1 dX12_row_39 rfl rfl ?_
      refine j_iload_n (pc := 40) 3 dX12_row_40 rfl rfl ?_
      refine j_iastore (pc := 41) dX12_row_41 (fun z8 => ?_)
      refine j_aload_n (pc := 42) 0 dX12_row_42 rfl rfl ?_
      refine j_getR (pc := 43) ok_X12 (by decide) rfl w_1275 dX12_row_43 (fun a9 => ?_)
      refine j_iload_n (pc := 46) 1 dX12_row_46 rfl rfl ?_
      refine j_iload_n (pc := 47) 2 dX12_row_47 rfl rfl ?_
      refine j_iastore (pc := 48) dX12_row_48 (fun z10 => ?_)
      refine j_iconst (pc := 49) (v := 0) dX12_row_49 (by decide) ?_
      refine j_istore (pc := 50) (lv2 := [(4, .int 0), (0, .ref (mB Γ + r0)), (1, .int v1), (2, .int v2), (3, .int v3)]) dX12_row_50 (by decide) rfl ?_
      exact J.sub [1, 2, 0] rfl ((j_X12_row_L52 FU) r0 v1 0 z10)
    refine j_bipush (pc := 32) (v := (-3)) dX12_row_32 (by decide) ?_
    exact j_ireturn (pc := 34) dX12_row_34 rfl rfl
  refine j_bipush (pc := 25) (v := (-2)) dX12_row_25 (by decide) ?_
  exact j_ireturn (pc := 27) dX12_row_27 rfl rfl
theorem dX12_write_0 : decode cX12_write 0 = .ok (.iload_n 1, 1) := by decide +kernel
theorem dX12_write_1 : decode cX12_write 1 = .ok (.invokestatic 412, 3) := by decide +kernel
theorem dX12_write_4 : decode cX12_write 4 = .ok (.ifCond .ne 6, 3) := by decide +kernel
theorem dX12_write_7 : decode cX12_write 7 = .ok (.bipush (-2), 2) := by decide +kernel
theorem dX12_write_9 : decode cX12_write 9 = .ok (.ireturn, 1) := by decide +kernel
theorem dX12_write_10 : decode cX12_write 10 = .ok (.aload_n 0, 1) := by decide +kernel
theorem dX12_write_11 : decode cX12_write 11 = .ok (.getfield 73, 3) := by decide +kernel
theorem dX12_write_14 : decode cX12_write 14 = .ok (.iload_n 1, 1) := by decide +kernel
theorem dX12_write_15 : decode cX12_write 15 = .ok (.iaload, 1) := by decide +kernel
theorem dX12_write_16 : decode cX12_write 16 = .ok (.iconst (-1), 1) := by decide +kernel
theorem dX12_write_17 : decode cX12_write 17 = .ok (.if_icmp .ne 6, 3) := by decide +kernel
theorem dX12_write_20 : decode cX12_write 20 = .ok (.bipush (-6), 2) := by decide +kernel
theorem dX12_write_22 : decode cX12_write 22 = .ok (.ireturn, 1) := by decide +kernel
theorem dX12_write_23 : decode cX12_write 23 = .ok (.iload_n 2, 1) := by decide +kernel
theorem dX12_write_24 : decode cX12_write 24 = .ok (.i2l, 1) := by decide +kernel
theorem dX12_write_25 : decode cX12_write 25 = .ok (.lconst 0, 1) := by decide +kernel
theorem dX12_write_26 : decode cX12_write 26 = .ok (.aload_n 0, 1) := by decide +kernel
theorem dX12_write_27 : decode cX12_write 27 = .ok (.getfield 73, 3) := by decide +kernel
theorem dX12_write_30 : decode cX12_write 30 = .ok (.iload_n 1, 1) := by decide +kernel
theorem dX12_write_31 : decode cX12_write 31 = .ok (.iaload, 1) := by decide +kernel
theorem dX12_write_32 : decode cX12_write 32 = .ok (.iconst 1, 1) := by decide +kernel
theorem dX12_write_33 : decode cX12_write 33 = .ok (.isub, 1) := by decide +kernel
theorem dX12_write_34 : decode cX12_write 34 = .ok (.i2l, 1) := by decide +kernel
theorem dX12_write_35 : decode cX12_write 35 = .ok (.invokestatic 110, 3) := by decide +kernel
theorem dX12_write_38 : decode cX12_write 38 = .ok (.ifCond .ne 6, 3) := by decide +kernel
theorem dX12_write_41 : decode cX12_write 41 = .ok (.bipush (-7), 2) := by decide +kernel
theorem dX12_write_43 : decode cX12_write 43 = .ok (.ireturn, 1) := by decide +kernel
theorem dX12_write_44 : decode cX12_write 44 = .ok (.aload_n 0, 1) := by decide +kernel
theorem dX12_write_45 : decode cX12_write 45 = .ok (.getfield 79, 3) := by decide +kernel
theorem dX12_write_48 : decode cX12_write 48 = .ok (.bipush 60, 2) := by decide +kernel
theorem dX12_write_50 : decode cX12_write 50 = .ok (.iload_n 1, 1) := by decide +kernel
theorem dX12_write_51 : decode cX12_write 51 = .ok (.imul, 1) := by decide +kernel
theorem dX12_write_52 : decode cX12_write 52 = .ok (.iload_n 2, 1) := by decide +kernel
theorem dX12_write_53 : decode cX12_write 53 = .ok (.iadd, 1) := by decide +kernel
theorem dX12_write_54 : decode cX12_write 54 = .ok (.lload_n 3, 1) := by decide +kernel
theorem dX12_write_55 : decode cX12_write 55 = .ok (.aload_n 0, 1) := by decide +kernel
theorem dX12_write_56 : decode cX12_write 56 = .ok (.getfield 76, 3) := by decide +kernel
theorem dX12_write_59 : decode cX12_write 59 = .ok (.iload_n 1, 1) := by decide +kernel
theorem dX12_write_60 : decode cX12_write 60 = .ok (.iaload, 1) := by decide +kernel
theorem dX12_write_61 : decode cX12_write 61 = .ok (.invokestatic 441, 3) := by decide +kernel
theorem dX12_write_64 : decode cX12_write 64 = .ok (.lastore, 1) := by decide +kernel
theorem dX12_write_65 : decode cX12_write 65 = .ok (.iconst 0, 1) := by decide +kernel
theorem dX12_write_66 : decode cX12_write 66 = .ok (.ireturn, 1) := by decide +kernel
theorem cw_X12_write_412 : CwS mi_X12_write mi_X12_isSlot yX12_isSlot 412 1 := ⟨⟨w_1713, w_1714, w_108, w_1715⟩, ⟨by decide, by decide⟩, by decide +kernel, by decide, by decide⟩
theorem cw_X12_write_110 : CwS mi_X12_write mi_X12_in yX12_in 110 3 := ⟨⟨w_1365, w_1366, w_108, w_1367⟩, ⟨by decide, by decide⟩, by decide +kernel, by decide, by decide⟩
theorem cw_X12_write_441 : CwS mi_X12_write mi_X12_cut yX12_cut 441 2 := ⟨⟨w_1768, w_1769, w_108, w_1770⟩, ⟨by decide, by decide⟩, by decide +kernel, by decide, by decide⟩
theorem ct_X12_write {l : Launch} {Γ : Am} (r0 : Nat) (v1 : Int32) (v2 : Int32) (w3 : Int64) (z : Hp) : Ct l Γ yX12_write mi_X12_write cvI [.ref (mB Γ + r0), .int v1, .int v2, .long w3] z (m_X12_write r0 v1 v2 w3 z) := by
  refine Ct.ofJ (by decide) ⟨rfl, rfl⟩ (Nat.le_of_ble_eq_true rfl) ?_
  unfold m_X12_write
  show J l Γ mi_X12_write cvI 0 0 0 [(0, .ref (mB Γ + r0)), (1, .int v1), (2, .int v2), (3, .long w3)] [] z _
  refine j_iload_n (pc := 0) 1 dX12_write_0 rfl rfl ?_
  refine j_callS_I (pc := 1) (as := [.int v1]) (mc2 := 0) (ms2 := 0) (ct_X12_isSlot _ _) cw_X12_write_412 dX12_write_1 (Nat.le_of_ble_eq_true rfl) rfl (by decide) (by decide) (fun x2 z1 => ?_)
  refine j_if_ne (pc := 4) 10 dX12_write_4 (by decide) ?_ ?_
  · refine j_aload_n (pc := 10) 0 dX12_write_10 rfl rfl ?_
    refine j_getR (pc := 11) ok_X12 (by decide) rfl w_1274 dX12_write_11 (fun a3 => ?_)
    refine j_iload_n (pc := 14) 1 dX12_write_14 rfl rfl ?_
    refine j_iaload (pc := 15) dX12_write_15 (fun x4 => ?_)
    refine j_iconst (pc := 16) (v := (-1)) dX12_write_16 (by decide) ?_
    refine j_icmp_ne (pc := 17) 23 dX12_write_17 (by decide) ?_ ?_
    · refine j_iload_n (pc := 23) 2 dX12_write_23 rfl rfl ?_
      refine j_i2l (pc := 24) dX12_write_24 ?_
      refine j_lconst (pc := 25) (v := 0) dX12_write_25 (by decide) ?_
      refine j_aload_n (pc := 26) 0 dX12_write_26 rfl rfl ?_
      refine j_getR (pc := 27) ok_X12 (by decide) rfl w_1274 dX12_write_27 (fun a5 => ?_)
      refine j_iload_n (pc := 30) 1 dX12_write_30 rfl rfl ?_
      refine j_iaload (pc := 31) dX12_write_31 (fun x6 => ?_)
      refine j_iconst (pc := 32) (v := 1) dX12_write_32 (by decide) ?_
      refine j_isub (pc := 33) dX12_write_33 ?_
      refine j_i2l (pc := 34) dX12_write_34 ?_
      refine j_callS_I (pc := 35) (as := [.long (Int32.toInt64 v2), .long 0, .long (Int32.toInt64 (x6 - 1))]) (mc2 := 0) (ms2 := 0) (ct_X12_in _ _ _ _) cw_X12_write_110 dX12_write_35 (Nat.le_of_ble_eq_true rfl) rfl (by decide) (by decide) (fun x8 z7 => ?_)
      refine j_if_ne (pc := 38) 44 dX12_write_38 (by decide) ?_ ?_
      · refine j_aload_n (pc := 44) 0 dX12_write_44 rfl rfl ?_
        refine j_getR (pc := 45) ok_X12 (by decide) rfl w_1276 dX12_write_45 (fun a9 => ?_)
        refine j_bipush (pc := 48) (v := 60) dX12_write_48 (by decide) ?_
        refine j_iload_n (pc := 50) 1 dX12_write_50 rfl rfl ?_
        refine j_imul (pc := 51) dX12_write_51 ?_
        refine j_iload_n (pc := 52) 2 dX12_write_52 rfl rfl ?_
        refine j_iadd (pc := 53) dX12_write_53 ?_
        refine j_lload_n (pc := 54) 3 dX12_write_54 rfl rfl ?_
        refine j_aload_n (pc := 55) 0 dX12_write_55 rfl rfl ?_
        refine j_getR (pc := 56) ok_X12 (by decide) rfl w_1275 dX12_write_56 (fun a10 => ?_)
        refine j_iload_n (pc := 59) 1 dX12_write_59 rfl rfl ?_
        refine j_iaload (pc := 60) dX12_write_60 (fun x11 => ?_)
        refine j_callS_L (pc := 61) (as := [.long w3, .int x11]) (mc2 := 0) (ms2 := 0) (ct_X12_cut _ _ _) cw_X12_write_441 dX12_write_61 (Nat.le_of_ble_eq_true rfl) rfl (by decide) (by decide) (fun x13 z12 => ?_)
        refine j_lastore (pc := 64) dX12_write_64 (fun z14 => ?_)
        refine j_iconst (pc := 65) (v := 0) dX12_write_65 (by decide) ?_
        exact j_ireturn (pc := 66) dX12_write_66 rfl rfl
      refine j_bipush (pc := 41) (v := (-7)) dX12_write_41 (by decide) ?_
      exact j_ireturn (pc := 43) dX12_write_43 rfl rfl
    refine j_bipush (pc := 20) (v := (-6)) dX12_write_20 (by decide) ?_
    exact j_ireturn (pc := 22) dX12_write_22 rfl rfl
  refine j_bipush (pc := 7) (v := (-2)) dX12_write_7 (by decide) ?_
  exact j_ireturn (pc := 9) dX12_write_9 rfl rfl
theorem dX12_paste_0 : decode cX12_paste 0 = .ok (.iload_n 1, 1) := by decide +kernel
theorem dX12_paste_1 : decode cX12_paste 1 = .ok (.invokestatic 412, 3) := by decide +kernel
theorem dX12_paste_4 : decode cX12_paste 4 = .ok (.ifCond .eq 10, 3) := by decide +kernel
theorem dX12_paste_7 : decode cX12_paste 7 = .ok (.iload_n 3, 1) := by decide +kernel
theorem dX12_paste_8 : decode cX12_paste 8 = .ok (.invokestatic 412, 3) := by decide +kernel
theorem dX12_paste_11 : decode cX12_paste 11 = .ok (.ifCond .ne 6, 3) := by decide +kernel
theorem dX12_paste_14 : decode cX12_paste 14 = .ok (.bipush (-2), 2) := by decide +kernel
theorem dX12_paste_16 : decode cX12_paste 16 = .ok (.ireturn, 1) := by decide +kernel
theorem dX12_paste_17 : decode cX12_paste 17 = .ok (.aload_n 0, 1) := by decide +kernel
theorem dX12_paste_18 : decode cX12_paste 18 = .ok (.getfield 73, 3) := by decide +kernel
theorem dX12_paste_21 : decode cX12_paste 21 = .ok (.iload_n 1, 1) := by decide +kernel
theorem dX12_paste_22 : decode cX12_paste 22 = .ok (.iaload, 1) := by decide +kernel
theorem dX12_paste_23 : decode cX12_paste 23 = .ok (.iconst (-1), 1) := by decide +kernel
theorem dX12_paste_24 : decode cX12_paste 24 = .ok (.if_icmp .eq 13, 3) := by decide +kernel
theorem dX12_paste_27 : decode cX12_paste 27 = .ok (.aload_n 0, 1) := by decide +kernel
theorem dX12_paste_28 : decode cX12_paste 28 = .ok (.getfield 73, 3) := by decide +kernel
theorem dX12_paste_31 : decode cX12_paste 31 = .ok (.iload_n 3, 1) := by decide +kernel
theorem dX12_paste_32 : decode cX12_paste 32 = .ok (.iaload, 1) := by decide +kernel
theorem dX12_paste_33 : decode cX12_paste 33 = .ok (.iconst (-1), 1) := by decide +kernel
theorem dX12_paste_34 : decode cX12_paste 34 = .ok (.if_icmp .ne 6, 3) := by decide +kernel
theorem dX12_paste_37 : decode cX12_paste 37 = .ok (.bipush (-6), 2) := by decide +kernel
theorem dX12_paste_39 : decode cX12_paste 39 = .ok (.ireturn, 1) := by decide +kernel
theorem dX12_paste_40 : decode cX12_paste 40 = .ok (.aload_n 0, 1) := by decide +kernel
theorem dX12_paste_41 : decode cX12_paste 41 = .ok (.getfield 76, 3) := by decide +kernel
theorem dX12_paste_44 : decode cX12_paste 44 = .ok (.iload_n 1, 1) := by decide +kernel
theorem dX12_paste_45 : decode cX12_paste 45 = .ok (.iaload, 1) := by decide +kernel
theorem dX12_paste_46 : decode cX12_paste 46 = .ok (.aload_n 0, 1) := by decide +kernel
theorem dX12_paste_47 : decode cX12_paste 47 = .ok (.getfield 76, 3) := by decide +kernel
theorem dX12_paste_50 : decode cX12_paste 50 = .ok (.iload_n 3, 1) := by decide +kernel
theorem dX12_paste_51 : decode cX12_paste 51 = .ok (.iaload, 1) := by decide +kernel
theorem dX12_paste_52 : decode cX12_paste 52 = .ok (.if_icmp .eq 6, 3) := by decide +kernel
theorem dX12_paste_55 : decode cX12_paste 55 = .ok (.bipush (-8), 2) := by decide +kernel
theorem dX12_paste_57 : decode cX12_paste 57 = .ok (.ireturn, 1) := by decide +kernel
theorem dX12_paste_58 : decode cX12_paste 58 = .ok (.iload_n 2, 1) := by decide +kernel
theorem dX12_paste_59 : decode cX12_paste 59 = .ok (.ifCond .lt 48, 3) := by decide +kernel
theorem dX12_paste_62 : decode cX12_paste 62 = .ok (.iload 4, 2) := by decide +kernel
theorem dX12_paste_64 : decode cX12_paste 64 = .ok (.ifCond .lt 43, 3) := by decide +kernel
theorem dX12_paste_67 : decode cX12_paste 67 = .ok (.iload 5, 2) := by decide +kernel
theorem dX12_paste_69 : decode cX12_paste 69 = .ok (.ifCond .lt 38, 3) := by decide +kernel
theorem dX12_paste_72 : decode cX12_paste 72 = .ok (.iload_n 2, 1) := by decide +kernel
theorem dX12_paste_73 : decode cX12_paste 73 = .ok (.i2l, 1) := by decide +kernel
theorem dX12_paste_74 : decode cX12_paste 74 = .ok (.iload 5, 2) := by decide +kernel
theorem dX12_paste_76 : decode cX12_paste 76 = .ok (.i2l, 1) := by decide +kernel
theorem dX12_paste_77 : decode cX12_paste 77 = .ok (.ladd, 1) := by decide +kernel
theorem dX12_paste_78 : decode cX12_paste 78 = .ok (.aload_n 0, 1) := by decide +kernel
theorem dX12_paste_79 : decode cX12_paste 79 = .ok (.getfield 73, 3) := by decide +kernel
theorem dX12_paste_82 : decode cX12_paste 82 = .ok (.iload_n 1, 1) := by decide +kernel
theorem dX12_paste_83 : decode cX12_paste 83 = .ok (.iaload, 1) := by decide +kernel
theorem dX12_paste_84 : decode cX12_paste 84 = .ok (.i2l, 1) := by decide +kernel
theorem dX12_paste_85 : decode cX12_paste 85 = .ok (.lcmp, 1) := by decide +kernel
theorem dX12_paste_86 : decode cX12_paste 86 = .ok (.ifCond .gt 21, 3) := by decide +kernel
theorem dX12_paste_89 : decode cX12_paste 89 = .ok (.iload 4, 2) := by decide +kernel
theorem dX12_paste_91 : decode cX12_paste 91 = .ok (.i2l, 1) := by decide +kernel
theorem dX12_paste_92 : decode cX12_paste 92 = .ok (.iload 5, 2) := by decide +kernel
theorem dX12_paste_94 : decode cX12_paste 94 = .ok (.i2l, 1) := by decide +kernel
theorem dX12_paste_95 : decode cX12_paste 95 = .ok (.ladd, 1) := by decide +kernel
theorem dX12_paste_96 : decode cX12_paste 96 = .ok (.aload_n 0, 1) := by decide +kernel
theorem dX12_paste_97 : decode cX12_paste 97 = .ok (.getfield 73, 3) := by decide +kernel
theorem dX12_paste_100 : decode cX12_paste 100 = .ok (.iload_n 3, 1) := by decide +kernel
theorem dX12_paste_101 : decode cX12_paste 101 = .ok (.iaload, 1) := by decide +kernel
theorem dX12_paste_102 : decode cX12_paste 102 = .ok (.i2l, 1) := by decide +kernel
theorem dX12_paste_103 : decode cX12_paste 103 = .ok (.lcmp, 1) := by decide +kernel
theorem dX12_paste_104 : decode cX12_paste 104 = .ok (.ifCond .le 6, 3) := by decide +kernel
theorem dX12_paste_107 : decode cX12_paste 107 = .ok (.bipush (-7), 2) := by decide +kernel
theorem dX12_paste_109 : decode cX12_paste 109 = .ok (.ireturn, 1) := by decide +kernel
theorem dX12_paste_110 : decode cX12_paste 110 = .ok (.iconst 0, 1) := by decide +kernel
theorem dX12_paste_111 : decode cX12_paste 111 = .ok (.istore 6, 2) := by decide +kernel
theorem dX12_paste_113 : decode cX12_paste 113 = .ok (.iload 6, 2) := by decide +kernel
theorem dX12_paste_115 : decode cX12_paste 115 = .ok (.iload 5, 2) := by decide +kernel
theorem dX12_paste_117 : decode cX12_paste 117 = .ok (.if_icmp .ge 30, 3) := by decide +kernel
theorem dX12_paste_120 : decode cX12_paste 120 = .ok (.aload_n 0, 1) := by decide +kernel
theorem dX12_paste_121 : decode cX12_paste 121 = .ok (.getfield 83, 3) := by decide +kernel
theorem dX12_paste_124 : decode cX12_paste 124 = .ok (.iload 6, 2) := by decide +kernel
theorem dX12_paste_126 : decode cX12_paste 126 = .ok (.aload_n 0, 1) := by decide +kernel
theorem dX12_paste_127 : decode cX12_paste 127 = .ok (.getfield 79, 3) := by decide +kernel
theorem dX12_paste_130 : decode cX12_paste 130 = .ok (.bipush 60, 2) := by decide +kernel
theorem dX12_paste_132 : decode cX12_paste 132 = .ok (.iload_n 1, 1) := by decide +kernel
theorem dX12_paste_133 : decode cX12_paste 133 = .ok (.imul, 1) := by decide +kernel
theorem dX12_paste_134 : decode cX12_paste 134 = .ok (.iload_n 2, 1) := by decide +kernel
theorem dX12_paste_135 : decode cX12_paste 135 = .ok (.iadd, 1) := by decide +kernel
theorem dX12_paste_136 : decode cX12_paste 136 = .ok (.iload 6, 2) := by decide +kernel
theorem dX12_paste_138 : decode cX12_paste 138 = .ok (.iadd, 1) := by decide +kernel
theorem dX12_paste_139 : decode cX12_paste 139 = .ok (.laload, 1) := by decide +kernel
theorem dX12_paste_140 : decode cX12_paste 140 = .ok (.lastore, 1) := by decide +kernel
theorem dX12_paste_141 : decode cX12_paste 141 = .ok (.iinc 6 1, 3) := by decide +kernel
theorem dX12_paste_144 : decode cX12_paste 144 = .ok (.goto (-31), 3) := by decide +kernel
theorem dX12_paste_147 : decode cX12_paste 147 = .ok (.iconst 0, 1) := by decide +kernel
theorem dX12_paste_148 : decode cX12_paste 148 = .ok (.istore 6, 2) := by decide +kernel
theorem dX12_paste_150 : decode cX12_paste 150 = .ok (.iload 6, 2) := by decide +kernel
theorem dX12_paste_152 : decode cX12_paste 152 = .ok (.iload 5, 2) := by decide +kernel
theorem dX12_paste_154 : decode cX12_paste 154 = .ok (.if_icmp .ge 31, 3) := by decide +kernel
theorem dX12_paste_157 : decode cX12_paste 157 = .ok (.aload_n 0, 1) := by decide +kernel
theorem dX12_paste_158 : decode cX12_paste 158 = .ok (.getfield 79, 3) := by decide +kernel
theorem dX12_paste_161 : decode cX12_paste 161 = .ok (.bipush 60, 2) := by decide +kernel
theorem dX12_paste_163 : decode cX12_paste 163 = .ok (.iload_n 3, 1) := by decide +kernel
theorem dX12_paste_164 : decode cX12_paste 164 = .ok (.imul, 1) := by decide +kernel
theorem dX12_paste_165 : decode cX12_paste 165 = .ok (.iload 4, 2) := by decide +kernel
theorem dX12_paste_167 : decode cX12_paste 167 = .ok (.iadd, 1) := by decide +kernel
theorem dX12_paste_168 : decode cX12_paste 168 = .ok (.iload 6, 2) := by decide +kernel
theorem dX12_paste_170 : decode cX12_paste 170 = .ok (.iadd, 1) := by decide +kernel
theorem dX12_paste_171 : decode cX12_paste 171 = .ok (.aload_n 0, 1) := by decide +kernel
theorem dX12_paste_172 : decode cX12_paste 172 = .ok (.getfield 83, 3) := by decide +kernel
theorem dX12_paste_175 : decode cX12_paste 175 = .ok (.iload 6, 2) := by decide +kernel
theorem dX12_paste_177 : decode cX12_paste 177 = .ok (.laload, 1) := by decide +kernel
theorem dX12_paste_178 : decode cX12_paste 178 = .ok (.lastore, 1) := by decide +kernel
theorem dX12_paste_179 : decode cX12_paste 179 = .ok (.iinc 6 1, 3) := by decide +kernel
theorem dX12_paste_182 : decode cX12_paste 182 = .ok (.goto (-32), 3) := by decide +kernel
theorem dX12_paste_185 : decode cX12_paste 185 = .ok (.iconst 0, 1) := by decide +kernel
theorem dX12_paste_186 : decode cX12_paste 186 = .ok (.ireturn, 1) := by decide +kernel
theorem cw_X12_paste_412 : CwS mi_X12_paste mi_X12_isSlot yX12_isSlot 412 1 := ⟨⟨w_1713, w_1714, w_108, w_1715⟩, ⟨by decide, by decide⟩, by decide +kernel, by decide, by decide⟩
theorem j_X12_paste_L150 {l : Launch} {Γ : Am}   : ∀ (f : Nat), ∀ (r0 : Nat) (v3 : Int32) (v4 : Int32) (v5 : Int32) (v6 : Int32) (z : Hp), J l Γ mi_X12_paste cvI 0 0 150 [(0, .ref (mB Γ + r0)), (3, .int v3), (4, .int v4), (5, .int v5), (6, .int v6)] [] z (m_X12_paste_L150  f r0 v3 v4 v5 v6 z) := by
  intro f
  induction f with
  | zero => intro r0 v3 v4 v5 v6 z; exact J.none
  | succ f hL150 =>
    intro r0 v3 v4 v5 v6 z
    rw [m_X12_paste_L150]
    refine j_iload (pc := 150) 4 dX12_paste_150 rfl ?_
    refine j_iload (pc := 152) 3 dX12_paste_152 rfl ?_
    refine j_icmp_ge (pc := 154) 185 dX12_paste_154 (by decide) ?_ ?_
    · refine j_iconst (pc := 185) (v := 0) dX12_paste_185 (by decide) ?_
      exact j_ireturn (pc := 186) dX12_paste_186 rfl rfl
    refine j_aload_n (pc := 157) 0 dX12_paste_157 rfl rfl ?_
    refine j_getR (pc := 158) ok_X12 (by decide) rfl w_1276 dX12_paste_158 (fun a1 => ?_)
    refine j_bipush (pc := 161) (v := 60) dX12_paste_161 (by decide) ?_
    refine j_iload_n (pc := 163) 1 dX12_paste_163 rfl rfl ?_
    refine j_imul (pc := 164) dX12_paste_164 ?_
    refine j_iload (pc := 165) 2 dX12_paste_165 rfl ?_
    refine j_iadd (pc := 167) dX12_paste_167 ?_
    refine j_iload (pc := 168) 4 dX12_paste_168 rfl ?_
    refine j_iadd (pc := 170) dX12_paste_170 ?_
    refine j_aload_n (pc := 171) 0 dX12_paste_171 rfl rfl ?_
    refine j_getR (pc := 172) ok_X12 (by decide) rfl w_1277 dX12_paste_172 (fun a2 => ?_)
    refine j_iload (pc := 175) 4 dX12_paste_175 rfl ?_
    refine j_laload (pc := 177) dX12_paste_177 (fun x3 => ?_)
    refine j_lastore (pc := 178) dX12_paste_178 (fun z4 => ?_)
    refine j_iinc (pc := 179) (n0 := 4) (v0 := v6 + 1) (lv2 := [(6, .int (v6 + 1)), (0, .ref (mB Γ + r0)), (3, .int v3), (4, .int v4), (5, .int v5)]) dX12_paste_179 rfl rfl (by decide) rfl ?_
    refine j_goto (pc := 182) 150 dX12_paste_182 (by decide) ?_
    exact J.sub [1, 2, 3, 4, 0] rfl (hL150 r0 v3 v4 v5 (v6 + 1) z4)
theorem j_X12_paste_B147 {l : Launch} {Γ : Am}   : ∀ (r0 : Nat) (v3 : Int32) (v4 : Int32) (v5 : Int32) (z : Hp), J l Γ mi_X12_paste cvI 0 0 147 [(0, .ref (mB Γ + r0)), (3, .int v3), (4, .int v4), (5, .int v5)] [] z (m_X12_paste_B147  r0 v3 v4 v5 z) := by
  intro r0 v3 v4 v5 z
  unfold m_X12_paste_B147
  refine j_iconst (pc := 147) (v := 0) dX12_paste_147 (by decide) ?_
  refine j_istore (pc := 148) (lv2 := [(6, .int 0), (0, .ref (mB Γ + r0)), (3, .int v3), (4, .int v4), (5, .int v5)]) dX12_paste_148 (by decide) rfl ?_
  exact J.sub [1, 2, 3, 4, 0] rfl ((j_X12_paste_L150 FU) r0 v3 v4 v5 0 z)
theorem j_X12_paste_L113 {l : Launch} {Γ : Am} {k147 : Nat → Int32 → Int32 → Int32 → Hp → Option (Int32 × Hp)} (hL147 : ∀ (r0 : Nat) (v3 : Int32) (v4 : Int32) (v5 : Int32) (z : Hp), J l Γ mi_X12_paste cvI 0 0 147 [(0, .ref (mB Γ + r0)), (3, .int v3), (4, .int v4), (5, .int v5)] [] z (k147 r0 v3 v4 v5 z)) : ∀ (f : Nat), ∀ (r0 : Nat) (v1 : Int32) (v2 : Int32) (v3 : Int32) (v4 : Int32) (v5 : Int32) (v6 : Int32) (z : Hp), J l Γ mi_X12_paste cvI 0 0 113 [(0, .ref (mB Γ + r0)), (1, .int v1), (2, .int v2), (3, .int v3), (4, .int v4), (5, .int v5), (6, .int v6)] [] z (m_X12_paste_L113 k147 f r0 v1 v2 v3 v4 v5 v6 z) := by
  intro f
  induction f with
  | zero => intro r0 v1 v2 v3 v4 v5 v6 z; exact J.none
  | succ f hL113 =>
    intro r0 v1 v2 v3 v4 v5 v6 z
    rw [m_X12_paste_L113]
    refine j_iload (pc := 113) 6 dX12_paste_113 rfl ?_
    refine j_iload (pc := 115) 5 dX12_paste_115 rfl ?_
    refine j_icmp_ge (pc := 117) 147 dX12_paste_117 (by decide) ?_ ?_
    · exact J.sub [0, 3, 4, 5] rfl (hL147 r0 v3 v4 v5 z)
    refine j_aload_n (pc := 120) 0 dX12_paste_120 rfl rfl ?_
    refine j_getR (pc := 121) ok_X12 (by decide) rfl w_1277 dX12_paste_121 (fun a5 => ?_)
    refine j_iload (pc := 124) 6 dX12_paste_124 rfl ?_
    refine j_aload_n (pc := 126) 0 dX12_paste_126 rfl rfl ?_
    refine j_getR (pc := 127) ok_X12 (by decide) rfl w_1276 dX12_paste_127 (fun a6 => ?_)
    refine j_bipush (pc := 130) (v := 60) dX12_paste_130 (by decide) ?_
    refine j_iload_n (pc := 132) 1 dX12_paste_132 rfl rfl ?_
    refine j_imul (pc := 133) dX12_paste_133 ?_
    refine j_iload_n (pc := 134) 2 dX12_paste_134 rfl rfl ?_
    refine j_iadd (pc := 135) dX12_paste_135 ?_
    refine j_iload (pc := 136) 6 dX12_paste_136 rfl ?_
    refine j_iadd (pc := 138) dX12_paste_138 ?_
    refine j_laload (pc := 139) dX12_paste_139 (fun x7 => ?_)
    refine j_lastore (pc := 140) dX12_paste_140 (fun z8 => ?_)
    refine j_iinc (pc := 141) (n0 := 6) (v0 := v6 + 1) (lv2 := [(6, .int (v6 + 1)), (0, .ref (mB Γ + r0)), (1, .int v1), (2, .int v2), (3, .int v3), (4, .int v4), (5, .int v5)]) dX12_paste_141 rfl rfl (by decide) rfl ?_
    refine j_goto (pc := 144) 113 dX12_paste_144 (by decide) ?_
    exact J.sub [1, 2, 3, 4, 5, 6, 0] rfl (hL113 r0 v1 v2 v3 v4 v5 (v6 + 1) z8)
theorem ct_X12_paste {l : Launch} {Γ : Am} (r0 : Nat) (v1 : Int32) (v2 : Int32) (v3 : Int32) (v4 : Int32) (v5 : Int32) (z : Hp) : Ct l Γ yX12_paste mi_X12_paste cvI [.ref (mB Γ + r0), .int v1, .int v2, .int v3, .int v4, .int v5] z (m_X12_paste r0 v1 v2 v3 v4 v5 z) := by
  refine Ct.ofJ (by decide) ⟨rfl, rfl⟩ (Nat.le_of_ble_eq_true rfl) ?_
  unfold m_X12_paste
  show J l Γ mi_X12_paste cvI 0 0 0 [(0, .ref (mB Γ + r0)), (1, .int v1), (2, .int v2), (3, .int v3), (4, .int v4), (5, .int v5)] [] z _
  refine j_iload_n (pc := 0) 1 dX12_paste_0 rfl rfl ?_
  refine j_callS_I (pc := 1) (as := [.int v1]) (mc2 := 0) (ms2 := 0) (ct_X12_isSlot _ _) cw_X12_paste_412 dX12_paste_1 (Nat.le_of_ble_eq_true rfl) rfl (by decide) (by decide) (fun x10 z9 => ?_)
  refine j_if_eq (pc := 4) 14 dX12_paste_4 (by decide) ?_ ?_
  · refine j_bipush (pc := 14) (v := (-2)) dX12_paste_14 (by decide) ?_
    exact j_ireturn (pc := 16) dX12_paste_16 rfl rfl
  refine j_iload_n (pc := 7) 3 dX12_paste_7 rfl rfl ?_
  refine j_callS_I (pc := 8) (as := [.int v3]) (mc2 := 0) (ms2 := 0) (ct_X12_isSlot _ _) cw_X12_paste_412 dX12_paste_8 (Nat.le_of_ble_eq_true rfl) rfl (by decide) (by decide) (fun x12 z11 => ?_)
  refine j_if_ne (pc := 11) 17 dX12_paste_11 (by decide) ?_ ?_
  · refine j_aload_n (pc := 17) 0 dX12_paste_17 rfl rfl ?_
    refine j_getR (pc := 18) ok_X12 (by decide) rfl w_1274 dX12_paste_18 (fun a13 => ?_)
    refine j_iload_n (pc := 21) 1 dX12_paste_21 rfl rfl ?_
    refine j_iaload (pc := 22) dX12_paste_22 (fun x14 => ?_)
    refine j_iconst (pc := 23) (v := (-1)) dX12_paste_23 (by decide) ?_
    refine j_icmp_eq (pc := 24) 37 dX12_paste_24 (by decide) ?_ ?_
    · refine j_bipush (pc := 37) (v := (-6)) dX12_paste_37 (by decide) ?_
      exact j_ireturn (pc := 39) dX12_paste_39 rfl rfl
    refine j_aload_n (pc := 27) 0 dX12_paste_27 rfl rfl ?_
    refine j_getR (pc := 28) ok_X12 (by decide) rfl w_1274 dX12_paste_28 (fun a15 => ?_)
    refine j_iload_n (pc := 31) 3 dX12_paste_31 rfl rfl ?_
    refine j_iaload (pc := 32) dX12_paste_32 (fun x16 => ?_)
    refine j_iconst (pc := 33) (v := (-1)) dX12_paste_33 (by decide) ?_
    refine j_icmp_ne (pc := 34) 40 dX12_paste_34 (by decide) ?_ ?_
    · refine j_aload_n (pc := 40) 0 dX12_paste_40 rfl rfl ?_
      refine j_getR (pc := 41) ok_X12 (by decide) rfl w_1275 dX12_paste_41 (fun a17 => ?_)
      refine j_iload_n (pc := 44) 1 dX12_paste_44 rfl rfl ?_
      refine j_iaload (pc := 45) dX12_paste_45 (fun x18 => ?_)
      refine j_aload_n (pc := 46) 0 dX12_paste_46 rfl rfl ?_
      refine j_getR (pc := 47) ok_X12 (by decide) rfl w_1275 dX12_paste_47 (fun a19 => ?_)
      refine j_iload_n (pc := 50) 3 dX12_paste_50 rfl rfl ?_
      refine j_iaload (pc := 51) dX12_paste_51 (fun x20 => ?_)
      refine j_icmp_eq (pc := 52) 58 dX12_paste_52 (by decide) ?_ ?_
      · refine j_iload_n (pc := 58) 2 dX12_paste_58 rfl rfl ?_
        refine j_if_lt (pc := 59) 107 dX12_paste_59 (by decide) ?_ ?_
        · refine j_bipush (pc := 107) (v := (-7)) dX12_paste_107 (by decide) ?_
          exact j_ireturn (pc := 109) dX12_paste_109 rfl rfl
        refine j_iload (pc := 62) 4 dX12_paste_62 rfl ?_
        refine j_if_lt (pc := 64) 107 dX12_paste_64 (by decide) ?_ ?_
        · refine j_bipush (pc := 107) (v := (-7)) dX12_paste_107 (by decide) ?_
          exact j_ireturn (pc := 109) dX12_paste_109 rfl rfl
        refine j_iload (pc := 67) 5 dX12_paste_67 rfl ?_
        refine j_if_lt (pc := 69) 107 dX12_paste_69 (by decide) ?_ ?_
        · refine j_bipush (pc := 107) (v := (-7)) dX12_paste_107 (by decide) ?_
          exact j_ireturn (pc := 109) dX12_paste_109 rfl rfl
        refine j_iload_n (pc := 72) 2 dX12_paste_72 rfl rfl ?_
        refine j_i2l (pc := 73) dX12_paste_73 ?_
        refine j_iload (pc := 74) 5 dX12_paste_74 rfl ?_
        refine j_i2l (pc := 76) dX12_paste_76 ?_
        refine j_ladd (pc := 77) dX12_paste_77 ?_
        refine j_aload_n (pc := 78) 0 dX12_paste_78 rfl rfl ?_
        refine j_getR (pc := 79) ok_X12 (by decide) rfl w_1274 dX12_paste_79 (fun a21 => ?_)
        refine j_iload_n (pc := 82) 1 dX12_paste_82 rfl rfl ?_
        refine j_iaload (pc := 83) dX12_paste_83 (fun x22 => ?_)
        refine j_i2l (pc := 84) dX12_paste_84 ?_
        refine j_lcmp (pc := 85) dX12_paste_85 ?_
        refine j_if_gt (pc := 86) 107 dX12_paste_86 (by decide) ?_ ?_
        · refine j_bipush (pc := 107) (v := (-7)) dX12_paste_107 (by decide) ?_
          exact j_ireturn (pc := 109) dX12_paste_109 rfl rfl
        refine j_iload (pc := 89) 4 dX12_paste_89 rfl ?_
        refine j_i2l (pc := 91) dX12_paste_91 ?_
        refine j_iload (pc := 92) 5 dX12_paste_92 rfl ?_
        refine j_i2l (pc := 94) dX12_paste_94 ?_
        refine j_ladd (pc := 95) dX12_paste_95 ?_
        refine j_aload_n (pc := 96) 0 dX12_paste_96 rfl rfl ?_
        refine j_getR (pc := 97) ok_X12 (by decide) rfl w_1274 dX12_paste_97 (fun a23 => ?_)
        refine j_iload_n (pc := 100) 3 dX12_paste_100 rfl rfl ?_
        refine j_iaload (pc := 101) dX12_paste_101 (fun x24 => ?_)
        refine j_i2l (pc := 102) dX12_paste_102 ?_
        refine j_lcmp (pc := 103) dX12_paste_103 ?_
        refine j_if_le (pc := 104) 110 dX12_paste_104 (by decide) ?_ ?_
        · refine j_iconst (pc := 110) (v := 0) dX12_paste_110 (by decide) ?_
          refine j_istore (pc := 111) (lv2 := [(6, .int 0), (0, .ref (mB Γ + r0)), (1, .int v1), (2, .int v2), (3, .int v3), (4, .int v4), (5, .int v5)]) dX12_paste_111 (by decide) rfl ?_
          exact J.sub [1, 2, 3, 4, 5, 6, 0] rfl ((j_X12_paste_L113 j_X12_paste_B147 FU) r0 v1 v2 v3 v4 v5 0 z11)
        refine j_bipush (pc := 107) (v := (-7)) dX12_paste_107 (by decide) ?_
        exact j_ireturn (pc := 109) dX12_paste_109 rfl rfl
      refine j_bipush (pc := 55) (v := (-8)) dX12_paste_55 (by decide) ?_
      exact j_ireturn (pc := 57) dX12_paste_57 rfl rfl
    refine j_bipush (pc := 37) (v := (-6)) dX12_paste_37 (by decide) ?_
    exact j_ireturn (pc := 39) dX12_paste_39 rfl rfl
  refine j_bipush (pc := 14) (v := (-2)) dX12_paste_14 (by decide) ?_
  exact j_ireturn (pc := 16) dX12_paste_16 rfl rfl
