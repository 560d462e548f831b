theorem dX12_lies_0 : decode cX12_lies 0 = .ok (.iload_n 1, 1) := by decide +kernel
theorem dX12_lies_1 : decode cX12_lies 1 = .ok (.i2l, 1) := by decide +kernel
theorem dX12_lies_2 : decode cX12_lies 2 = .ok (.lconst 0, 1) := by decide +kernel
theorem dX12_lies_3 : decode cX12_lies 3 = .ok (.ldc2_w 439, 3) := by decide +kernel
theorem dX12_lies_6 : decode cX12_lies 6 = .ok (.invokestatic 110, 3) := by decide +kernel
theorem dX12_lies_9 : decode cX12_lies 9 = .ok (.ifCond .ne 6, 3) := by decide +kernel
theorem dX12_lies_12 : decode cX12_lies 12 = .ok (.bipush (-2), 2) := by decide +kernel
theorem dX12_lies_14 : decode cX12_lies 14 = .ok (.ireturn, 1) := by decide +kernel
theorem dX12_lies_15 : decode cX12_lies 15 = .ok (.iconst 0, 1) := by decide +kernel
theorem dX12_lies_16 : decode cX12_lies 16 = .ok (.istore_n 2, 1) := by decide +kernel
theorem dX12_lies_17 : decode cX12_lies 17 = .ok (.iconst 0, 1) := by decide +kernel
theorem dX12_lies_18 : decode cX12_lies 18 = .ok (.istore_n 3, 1) := by decide +kernel
theorem dX12_lies_19 : decode cX12_lies 19 = .ok (.iload_n 3, 1) := by decide +kernel
theorem dX12_lies_20 : decode cX12_lies 20 = .ok (.bipush 10, 2) := by decide +kernel
theorem dX12_lies_22 : decode cX12_lies 22 = .ok (.if_icmp .ge 77, 3) := by decide +kernel
theorem dX12_lies_25 : decode cX12_lies 25 = .ok (.aload_n 0, 1) := by decide +kernel
theorem dX12_lies_26 : decode cX12_lies 26 = .ok (.getfield 13, 3) := by decide +kernel
theorem dX12_lies_29 : decode cX12_lies 29 = .ok (.sipush 790, 3) := by decide +kernel
theorem dX12_lies_32 : decode cX12_lies 32 = .ok (.iconst 2, 1) := by decide +kernel
theorem dX12_lies_33 : decode cX12_lies 33 = .ok (.iload_n 3, 1) := by decide +kernel
theorem dX12_lies_34 : decode cX12_lies 34 = .ok (.imul, 1) := by decide +kernel
theorem dX12_lies_35 : decode cX12_lies 35 = .ok (.iadd, 1) := by decide +kernel
theorem dX12_lies_36 : decode cX12_lies 36 = .ok (.iaload, 1) := by decide +kernel
theorem dX12_lies_37 : decode cX12_lies 37 = .ok (.istore 4, 2) := by decide +kernel
theorem dX12_lies_39 : decode cX12_lies 39 = .ok (.iload 4, 2) := by decide +kernel
theorem dX12_lies_41 : decode cX12_lies 41 = .ok (.iconst (-1), 1) := by decide +kernel
theorem dX12_lies_42 : decode cX12_lies 42 = .ok (.if_icmp .eq 51, 3) := by decide +kernel
theorem dX12_lies_45 : decode cX12_lies 45 = .ok (.aload_n 0, 1) := by decide +kernel
theorem dX12_lies_46 : decode cX12_lies 46 = .ok (.iload 4, 2) := by decide +kernel
theorem dX12_lies_48 : decode cX12_lies 48 = .ok (.invokevirtual 102, 3) := by decide +kernel
theorem dX12_lies_51 : decode cX12_lies 51 = .ok (.ifCond .ne 36, 3) := by decide +kernel
theorem dX12_lies_54 : decode cX12_lies 54 = .ok (.aload_n 0, 1) := by decide +kernel
theorem dX12_lies_55 : decode cX12_lies 55 = .ok (.getfield 13, 3) := by decide +kernel
theorem dX12_lies_58 : decode cX12_lies 58 = .ok (.sipush 192, 3) := by decide +kernel
theorem dX12_lies_61 : decode cX12_lies 61 = .ok (.iload 4, 2) := by decide +kernel
theorem dX12_lies_63 : decode cX12_lies 63 = .ok (.iadd, 1) := by decide +kernel
theorem dX12_lies_64 : decode cX12_lies 64 = .ok (.iaload, 1) := by decide +kernel
theorem dX12_lies_65 : decode cX12_lies 65 = .ok (.aload_n 0, 1) := by decide +kernel
theorem dX12_lies_66 : decode cX12_lies 66 = .ok (.getfield 13, 3) := by decide +kernel
theorem dX12_lies_69 : decode cX12_lies 69 = .ok (.sipush 790, 3) := by decide +kernel
theorem dX12_lies_72 : decode cX12_lies 72 = .ok (.iconst 2, 1) := by decide +kernel
theorem dX12_lies_73 : decode cX12_lies 73 = .ok (.iload_n 3, 1) := by decide +kernel
theorem dX12_lies_74 : decode cX12_lies 74 = .ok (.imul, 1) := by decide +kernel
theorem dX12_lies_75 : decode cX12_lies 75 = .ok (.iadd, 1) := by decide +kernel
theorem dX12_lies_76 : decode cX12_lies 76 = .ok (.iconst 1, 1) := by decide +kernel
theorem dX12_lies_77 : decode cX12_lies 77 = .ok (.iadd, 1) := by decide +kernel
theorem dX12_lies_78 : decode cX12_lies 78 = .ok (.iaload, 1) := by decide +kernel
theorem dX12_lies_79 : decode cX12_lies 79 = .ok (.isub, 1) := by decide +kernel
theorem dX12_lies_80 : decode cX12_lies 80 = .ok (.invokestatic 328, 3) := by decide +kernel
theorem dX12_lies_83 : decode cX12_lies 83 = .ok (.iload_n 1, 1) := by decide +kernel
theorem dX12_lies_84 : decode cX12_lies 84 = .ok (.if_icmp .le 9, 3) := by decide +kernel
theorem dX12_lies_87 : decode cX12_lies 87 = .ok (.iload_n 2, 1) := by decide +kernel
theorem dX12_lies_88 : decode cX12_lies 88 = .ok (.iconst 1, 1) := by decide +kernel
theorem dX12_lies_89 : decode cX12_lies 89 = .ok (.iload_n 3, 1) := by decide +kernel
theorem dX12_lies_90 : decode cX12_lies 90 = .ok (.ishl, 1) := by decide +kernel
theorem dX12_lies_91 : decode cX12_lies 91 = .ok (.ior, 1) := by decide +kernel
theorem dX12_lies_92 : decode cX12_lies 92 = .ok (.istore_n 2, 1) := by decide +kernel
theorem dX12_lies_93 : decode cX12_lies 93 = .ok (.iinc 3 1, 3) := by decide +kernel
theorem dX12_lies_96 : decode cX12_lies 96 = .ok (.goto (-77), 3) := by decide +kernel
theorem dX12_lies_99 : decode cX12_lies 99 = .ok (.iload_n 2, 1) := by decide +kernel
theorem dX12_lies_100 : decode cX12_lies 100 = .ok (.ireturn, 1) := by decide +kernel
theorem cw_X12_lies_102 : CwV mi_X12_lies mi_X12_isDug yX12_isDug RX12 102 1 := ⟨⟨w_1511, w_1513, w_65, w_108, w_1514⟩, ⟨by decide, by decide⟩, by decide +kernel, by decide, by decide⟩
theorem cw_X12_lies_328 : CwS mi_X12_lies mi_J9_abs_0f7a4 yJ9_abs_0f7a4 328 1 := ⟨⟨w_1554, w_879, w_109, w_880⟩, ⟨by decide, by decide⟩, by decide +kernel, by decide, by decide⟩
theorem cw_X12_lies_110 : CwS mi_X12_lies mi_X12_in yX12_in 110 3 := ⟨⟨w_1365, w_1366, w_108, w_1367⟩, ⟨by decide, by decide⟩, by decide +kernel, by decide, by decide⟩
theorem j_X12_lies_B93 {l : Launch} {Γ : Am} {k19 : Nat → Int32 → Int32 → Int32 → Hp → Option (Int32 × Hp)} (hL19 : ∀ (r0 : Nat) (v1 : Int32) (v2 : Int32) (v3 : Int32) (z : Hp), J l Γ mi_X12_lies cvI 0 0 19 [(0, .ref (mB Γ + r0)), (1, .int v1), (2, .int v2), (3, .int v3)] [] z (k19 r0 v1 v2 v3 z)) : ∀ (r0 : Nat) (v1 : Int32) (v2 : Int32) (v3 : Int32) (z : Hp), J l Γ mi_X12_lies cvI 0 0 93 [(0, .ref (mB Γ + r0)), (1, .int v1), (2, .int v2), (3, .int v3)] [] z (m_X12_lies_B93 k19 r0 v1 v2 v3 z) := by
  intro r0 v1 v2 v3 z
  unfold m_X12_lies_B93
  refine j_iinc (pc := 93) (n0 := 3) (v0 := v3 + 1) (lv2 := [(3, .int (v3 + 1)), (0, .ref (mB Γ + r0)), (1, .int v1), (2, .int v2)]) dX12_lies_93 rfl rfl (by decide) rfl ?_
  refine j_goto (pc := 96) 19 dX12_lies_96 (by decide) ?_
  exact J.sub [1, 2, 3, 0] rfl (hL19 r0 v1 v2 (v3 + 1) z)
theorem j_X12_lies_B87 {l : Launch} {Γ : Am} {k19 : Nat → Int32 → Int32 → Int32 → Hp → Option (Int32 × Hp)} (hL19 : ∀ (r0 : Nat) (v1 : Int32) (v2 : Int32) (v3 : Int32) (z : Hp), J l Γ mi_X12_lies cvI 0 0 19 [(0, .ref (mB Γ + r0)), (1, .int v1), (2, .int v2), (3, .int v3)] [] z (k19 r0 v1 v2 v3 z)) : ∀ (r0 : Nat) (v1 : Int32) (v2 : Int32) (v3 : Int32) (z : Hp), J l Γ mi_X12_lies cvI 0 0 87 [(0, .ref (mB Γ + r0)), (1, .int v1), (2, .int v2), (3, .int v3)] [] z (m_X12_lies_B87 k19 r0 v1 v2 v3 z) := by
  intro r0 v1 v2 v3 z
  unfold m_X12_lies_B87
  refine j_iload_n (pc := 87) 2 dX12_lies_87 rfl rfl ?_
  refine j_iconst (pc := 88) (v := 1) dX12_lies_88 (by decide) ?_
  refine j_iload_n (pc := 89) 3 dX12_lies_89 rfl rfl ?_
  refine j_ishl (pc := 90) dX12_lies_90 ?_
  refine j_ior (pc := 91) dX12_lies_91 ?_
  refine j_istore_n (pc := 92) (lv2 := [(2, .int (v2 ||| ((1 : Int32) <<< (v3 &&& 31)))), (0, .ref (mB Γ + r0)), (1, .int v1), (3, .int v3)]) dX12_lies_92 rfl (by decide) rfl ?_
  exact J.sub [1, 2, 0, 3] rfl ((j_X12_lies_B93 hL19) r0 v1 (v2 ||| ((1 : Int32) <<< (v3 &&& 31))) v3 z)
theorem j_X12_lies_L19 {l : Launch} {Γ : Am}   : ∀ (f : Nat), ∀ (r0 : Nat) (v1 : Int32) (v2 : Int32) (v3 : Int32) (z : Hp), J l Γ mi_X12_lies cvI 0 0 19 [(0, .ref (mB Γ + r0)), (1, .int v1), (2, .int v2), (3, .int v3)] [] z (m_X12_lies_L19  f r0 v1 v2 v3 z) := by
  intro f
  induction f with
  | zero => intro r0 v1 v2 v3 z; exact J.none
  | succ f hL19 =>
    intro r0 v1 v2 v3 z
    rw [m_X12_lies_L19]
    refine j_iload_n (pc := 19) 3 dX12_lies_19 rfl rfl ?_
    refine j_bipush (pc := 20) (v := 10) dX12_lies_20 (by decide) ?_
    refine j_icmp_ge (pc := 22) 99 dX12_lies_22 (by decide) ?_ ?_
    · refine j_iload_n (pc := 99) 2 dX12_lies_99 rfl rfl ?_
      exact j_ireturn (pc := 100) dX12_lies_100 rfl rfl
    refine j_aload_n (pc := 25) 0 dX12_lies_25 rfl rfl ?_
    refine j_getR (pc := 26) ok_X12 (by decide) rfl w_1239 dX12_lies_26 (fun a1 => ?_)
    refine j_sipush (pc := 29) (v := 790) dX12_lies_29 (by decide) ?_
    refine j_iconst (pc := 32) (v := 2) dX12_lies_32 (by decide) ?_
    refine j_iload_n (pc := 33) 3 dX12_lies_33 rfl rfl ?_
    refine j_imul (pc := 34) dX12_lies_34 ?_
    refine j_iadd (pc := 35) dX12_lies_35 ?_
    refine j_iaload (pc := 36) dX12_lies_36 (fun x2 => ?_)
    refine j_istore (pc := 37) (lv2 := [(4, .int x2), (0, .ref (mB Γ + r0)), (1, .int v1), (2, .int v2), (3, .int v3)]) dX12_lies_37 (by decide) rfl ?_
    refine j_iload (pc := 39) 0 dX12_lies_39 rfl ?_
    refine j_iconst (pc := 41) (v := (-1)) dX12_lies_41 (by decide) ?_
    refine j_icmp_eq (pc := 42) 93 dX12_lies_42 (by decide) ?_ ?_
    · exact J.sub [1, 2, 3, 4] rfl ((j_X12_lies_B93 hL19) r0 v1 v2 v3 z)
    refine j_aload_n (pc := 45) 1 dX12_lies_45 rfl rfl ?_
    refine j_iload (pc := 46) 0 dX12_lies_46 rfl ?_
    refine j_isC (fun h5 => ?_)
    refine j_callV_I (pc := 48) (as := [.int x2]) (mc2 := 0) (ms2 := 0) (ct_X12_isDug _ _ _) h5 rfl cw_X12_lies_102 dX12_lies_48 (Nat.le_of_ble_eq_true rfl) rfl (by decide) (by decide) (fun x4 z3 => ?_)
    refine j_if_ne (pc := 51) 87 dX12_lies_51 (by decide) ?_ ?_
    · exact J.sub [1, 2, 3, 4] rfl ((j_X12_lies_B87 hL19) r0 v1 v2 v3 z3)
    refine j_aload_n (pc := 54) 1 dX12_lies_54 rfl rfl ?_
    refine j_getR (pc := 55) ok_X12 (by decide) rfl w_1239 dX12_lies_55 (fun a6 => ?_)
    refine j_sipush (pc := 58) (v := 192) dX12_lies_58 (by decide) ?_
    refine j_iload (pc := 61) 0 dX12_lies_61 rfl ?_
    refine j_iadd (pc := 63) dX12_lies_63 ?_
    refine j_iaload (pc := 64) dX12_lies_64 (fun x7 => ?_)
    refine j_aload_n (pc := 65) 1 dX12_lies_65 rfl rfl ?_
    refine j_getR (pc := 66) ok_X12 (by decide) rfl w_1239 dX12_lies_66 (fun a8 => ?_)
    refine j_sipush (pc := 69) (v := 790) dX12_lies_69 (by decide) ?_
    refine j_iconst (pc := 72) (v := 2) dX12_lies_72 (by decide) ?_
    refine j_iload_n (pc := 73) 4 dX12_lies_73 rfl rfl ?_
    refine j_imul (pc := 74) dX12_lies_74 ?_
    refine j_iadd (pc := 75) dX12_lies_75 ?_
    refine j_iconst (pc := 76) (v := 1) dX12_lies_76 (by decide) ?_
    refine j_iadd (pc := 77) dX12_lies_77 ?_
    refine j_iaload (pc := 78) dX12_lies_78 (fun x9 => ?_)
    refine j_isub (pc := 79) dX12_lies_79 ?_
    refine j_callS_I (pc := 80) (as := [.int (x7 - x9)]) (mc2 := 0) (ms2 := 0) (ct_J9_abs_0f7a4 _ _) cw_X12_lies_328 dX12_lies_80 (Nat.le_of_ble_eq_true rfl) rfl (by decide) (by decide) (fun x11 z10 => ?_)
    refine j_iload_n (pc := 83) 2 dX12_lies_83 rfl rfl ?_
    refine j_icmp_le (pc := 84) 93 dX12_lies_84 (by decide) ?_ ?_
    · exact J.sub [1, 2, 3, 4] rfl ((j_X12_lies_B93 hL19) r0 v1 v2 v3 z10)
    exact J.sub [1, 2, 3, 4] rfl ((j_X12_lies_B87 hL19) r0 v1 v2 v3 z10)
theorem ct_X12_lies {l : Launch} {Γ : Am} (r0 : Nat) (v1 : Int32) (z : Hp) : Ct l Γ yX12_lies mi_X12_lies cvI [.ref (mB Γ + r0), .int v1] z (m_X12_lies r0 v1 z) := by
  refine Ct.ofJ (by decide) ⟨rfl, rfl⟩ (Nat.le_of_ble_eq_true rfl) ?_
  unfold m_X12_lies
  show J l Γ mi_X12_lies cvI 0 0 0 [(0, .ref (mB Γ + r0)), (1, .int v1)] [] z _
  refine j_iload_n (pc := 0) 1 dX12_lies_0 rfl rfl ?_
  refine j_i2l (pc := 1) dX12_lies_1 ?_
  refine j_lconst (pc := 2) (v := 0) dX12_lies_2 (by decide) ?_
  refine j_ldc2 (pc := 3) (v := 99) dX12_lies_3 w_1747 ?_
  refine j_callS_I (pc := 6) (as := [.long (Int32.toInt64 v1), .long 0, .long 99]) (mc2 := 0) (ms2 := 0) (ct_X12_in _ _ _ _) cw_X12_lies_110 dX12_lies_6 (Nat.le_of_ble_eq_true rfl) rfl (by decide) (by decide) (fun x13 z12 => ?_)
  refine j_if_ne (pc := 9) 15 dX12_lies_9 (by decide) ?_ ?_
  · refine j_iconst (pc := 15) (v := 0) dX12_lies_15 (by decide) ?_
    refine j_istore_n (pc := 16) (lv2 := [(2, .int 0), (0, .ref (mB Γ + r0)), (1, .int v1)]) dX12_lies_16 rfl (by decide) rfl ?_
    refine j_iconst (pc := 17) (v := 0) dX12_lies_17 (by decide) ?_
    refine j_istore_n (pc := 18) (lv2 := [(3, .int 0), (2, .int 0), (0, .ref (mB Γ + r0)), (1, .int v1)]) dX12_lies_18 rfl (by decide) rfl ?_
    exact J.sub [2, 3, 1, 0] rfl ((j_X12_lies_L19 FU) r0 v1 0 0 z12)
  refine j_bipush (pc := 12) (v := (-2)) dX12_lies_12 (by decide) ?_
  exact j_ireturn (pc := 14) dX12_lies_14 rfl rfl
theorem dX12_most_0 : decode cX12_most 0 = .ok (.iload_n 1, 1) := by decide +kernel
theorem dX12_most_1 : decode cX12_most 1 = .ok (.i2l, 1) := by decide +kernel
theorem dX12_most_2 : decode cX12_most 2 = .ok (.lconst 0, 1) := by decide +kernel
theorem dX12_most_3 : decode cX12_most 3 = .ok (.lconst 1, 1) := by decide +kernel
theorem dX12_most_4 : decode cX12_most 4 = .ok (.invokestatic 110, 3) := by decide +kernel
theorem dX12_most_7 : decode cX12_most 7 = .ok (.ifCond .ne 5, 3) := by decide +kernel
theorem dX12_most_10 : decode cX12_most 10 = .ok (.iconst (-1), 1) := by decide +kernel
theorem dX12_most_11 : decode cX12_most 11 = .ok (.ireturn, 1) := by decide +kernel
theorem dX12_most_12 : decode cX12_most 12 = .ok (.iconst (-1), 1) := by decide +kernel
theorem dX12_most_13 : decode cX12_most 13 = .ok (.istore_n 2, 1) := by decide +kernel
theorem dX12_most_14 : decode cX12_most 14 = .ok (.iconst 0, 1) := by decide +kernel
theorem dX12_most_15 : decode cX12_most 15 = .ok (.istore_n 3, 1) := by decide +kernel
theorem dX12_most_16 : decode cX12_most 16 = .ok (.iload_n 3, 1) := by decide +kernel
theorem dX12_most_17 : decode cX12_most 17 = .ok (.sipush 144, 3) := by decide +kernel
theorem dX12_most_20 : decode cX12_most 20 = .ok (.if_icmp .ge 80, 3) := by decide +kernel
theorem dX12_most_23 : decode cX12_most 23 = .ok (.aload_n 0, 1) := by decide +kernel
theorem dX12_most_24 : decode cX12_most 24 = .ok (.iload_n 3, 1) := by decide +kernel
theorem dX12_most_25 : decode cX12_most 25 = .ok (.invokevirtual 102, 3) := by decide +kernel
theorem dX12_most_28 : decode cX12_most 28 = .ok (.ifCond .eq 6, 3) := by decide +kernel
theorem dX12_most_31 : decode cX12_most 31 = .ok (.goto 63, 3) := by decide +kernel
theorem dX12_most_34 : decode cX12_most 34 = .ok (.iload_n 2, 1) := by decide +kernel
theorem dX12_most_35 : decode cX12_most 35 = .ok (.iconst (-1), 1) := by decide +kernel
theorem dX12_most_36 : decode cX12_most 36 = .ok (.if_icmp .eq 56, 3) := by decide +kernel
theorem dX12_most_39 : decode cX12_most 39 = .ok (.iload_n 1, 1) := by decide +kernel
theorem dX12_most_40 : decode cX12_most 40 = .ok (.ifCond .ne 29, 3) := by decide +kernel
theorem dX12_most_43 : decode cX12_most 43 = .ok (.aload_n 0, 1) := by decide +kernel
theorem dX12_most_44 : decode cX12_most 44 = .ok (.getfield 13, 3) := by decide +kernel
theorem dX12_most_47 : decode cX12_most 47 = .ok (.sipush 192, 3) := by decide +kernel
theorem dX12_most_50 : decode cX12_most 50 = .ok (.iload_n 3, 1) := by decide +kernel
theorem dX12_most_51 : decode cX12_most 51 = .ok (.iadd, 1) := by decide +kernel
theorem dX12_most_52 : decode cX12_most 52 = .ok (.iaload, 1) := by decide +kernel
theorem dX12_most_53 : decode cX12_most 53 = .ok (.aload_n 0, 1) := by decide +kernel
theorem dX12_most_54 : decode cX12_most 54 = .ok (.getfield 13, 3) := by decide +kernel
theorem dX12_most_57 : decode cX12_most 57 = .ok (.sipush 192, 3) := by decide +kernel
theorem dX12_most_60 : decode cX12_most 60 = .ok (.iload_n 2, 1) := by decide +kernel
theorem dX12_most_61 : decode cX12_most 61 = .ok (.iadd, 1) := by decide +kernel
theorem dX12_most_62 : decode cX12_most 62 = .ok (.iaload, 1) := by decide +kernel
theorem dX12_most_63 : decode cX12_most 63 = .ok (.if_icmp .ge 31, 3) := by decide +kernel
theorem dX12_most_66 : decode cX12_most 66 = .ok (.goto 26, 3) := by decide +kernel
theorem dX12_most_69 : decode cX12_most 69 = .ok (.aload_n 0, 1) := by decide +kernel
theorem dX12_most_70 : decode cX12_most 70 = .ok (.getfield 13, 3) := by decide +kernel
theorem dX12_most_73 : decode cX12_most 73 = .ok (.sipush 192, 3) := by decide +kernel
theorem dX12_most_76 : decode cX12_most 76 = .ok (.iload_n 3, 1) := by decide +kernel
theorem dX12_most_77 : decode cX12_most 77 = .ok (.iadd, 1) := by decide +kernel
theorem dX12_most_78 : decode cX12_most 78 = .ok (.iaload, 1) := by decide +kernel
theorem dX12_most_79 : decode cX12_most 79 = .ok (.aload_n 0, 1) := by decide +kernel
theorem dX12_most_80 : decode cX12_most 80 = .ok (.getfield 13, 3) := by decide +kernel
theorem dX12_most_83 : decode cX12_most 83 = .ok (.sipush 192, 3) := by decide +kernel
theorem dX12_most_86 : decode cX12_most 86 = .ok (.iload_n 2, 1) := by decide +kernel
theorem dX12_most_87 : decode cX12_most 87 = .ok (.iadd, 1) := by decide +kernel
theorem dX12_most_88 : decode cX12_most 88 = .ok (.iaload, 1) := by decide +kernel
theorem dX12_most_89 : decode cX12_most 89 = .ok (.if_icmp .le 5, 3) := by decide +kernel
theorem dX12_most_92 : decode cX12_most 92 = .ok (.iload_n 3, 1) := by decide +kernel
theorem dX12_most_93 : decode cX12_most 93 = .ok (.istore_n 2, 1) := by decide +kernel
theorem dX12_most_94 : decode cX12_most 94 = .ok (.iinc 3 1, 3) := by decide +kernel
theorem dX12_most_97 : decode cX12_most 97 = .ok (.goto (-81), 3) := by decide +kernel
theorem dX12_most_100 : decode cX12_most 100 = .ok (.iload_n 2, 1) := by decide +kernel
theorem dX12_most_101 : decode cX12_most 101 = .ok (.ireturn, 1) := by decide +kernel
theorem cw_X12_most_102 : CwV mi_X12_most mi_X12_isDug yX12_isDug RX12 102 1 := ⟨⟨w_1511, w_1513, w_65, w_108, w_1514⟩, ⟨by decide, by decide⟩, by decide +kernel, by decide, by decide⟩
theorem cw_X12_most_110 : CwS mi_X12_most mi_X12_in yX12_in 110 3 := ⟨⟨w_1365, w_1366, w_108, w_1367⟩, ⟨by decide, by decide⟩, by decide +kernel, by decide, by decide⟩
theorem j_X12_most_B94 {l : Launch} {Γ : Am} {k16 : Nat → Int32 → Int32 → Int32 → Hp → Option (Int32 × Hp)} (hL16 : ∀ (r0 : Nat) (v1 : Int32) (v2 : Int32) (v3 : Int32) (z : Hp), J l Γ mi_X12_most cvI 0 0 16 [(0, .ref (mB Γ + r0)), (1, .int v1), (2, .int v2), (3, .int v3)] [] z (k16 r0 v1 v2 v3 z)) : ∀ (r0 : Nat) (v1 : Int32) (v2 : Int32) (v3 : Int32) (z : Hp), J l Γ mi_X12_most cvI 0 0 94 [(0, .ref (mB Γ + r0)), (1, .int v1), (2, .int v2), (3, .int v3)] [] z (m_X12_most_B94 k16 r0 v1 v2 v3 z) := by
  intro r0 v1 v2 v3 z
  unfold m_X12_most_B94
  refine j_iinc (pc := 94) (n0 := 3) (v0 := v3 + 1) (lv2 := [(3, .int (v3 + 1)), (0, .ref (mB Γ + r0)), (1, .int v1), (2, .int v2)]) dX12_most_94 rfl rfl (by decide) rfl ?_
  refine j_goto (pc := 97) 16 dX12_most_97 (by decide) ?_
  exact J.sub [1, 2, 3, 0] rfl (hL16 r0 v1 v2 (v3 + 1) z)
theorem j_X12_most_B92 {l : Launch} {Γ : Am} {k16 : Nat → Int32 → Int32 → Int32 → Hp → Option (Int32 × Hp)} (hL16 : ∀ (r0 : Nat) (v1 : Int32) (v2 : Int32) (v3 : Int32) (z : Hp), J l Γ mi_X12_most cvI 0 0 16 [(0, .ref (mB Γ + r0)), (1, .int v1), (2, .int v2), (3, .int v3)] [] z (k16 r0 v1 v2 v3 z)) : ∀ (r0 : Nat) (v1 : Int32) (v3 : Int32) (z : Hp), J l Γ mi_X12_most cvI 0 0 92 [(0, .ref (mB Γ + r0)), (1, .int v1), (3, .int v3)] [] z (m_X12_most_B92 k16 r0 v1 v3 z) := by
  intro r0 v1 v3 z
  unfold m_X12_most_B92
  refine j_iload_n (pc := 92) 2 dX12_most_92 rfl rfl ?_
  refine j_istore_n (pc := 93) (lv2 := [(2, .int v3), (0, .ref (mB Γ + r0)), (1, .int v1), (3, .int v3)]) dX12_most_93 rfl (by decide) rfl ?_
  exact J.sub [1, 2, 0, 3] rfl ((j_X12_most_B94 hL16) r0 v1 v3 v3 z)
theorem j_X12_most_L16 {l : Launch} {Γ : Am}   : ∀ (f : Nat), ∀ (r0 : Nat) (v1 : Int32) (v2 : Int32) (v3 : Int32) (z : Hp), J l Γ mi_X12_most cvI 0 0 16 [(0, .ref (mB Γ + r0)), (1, .int v1), (2, .int v2), (3, .int v3)] [] z (m_X12_most_L16  f r0 v1 v2 v3 z) := by
  intro f
  induction f with
  | zero => intro r0 v1 v2 v3 z; exact J.none
  | succ f hL16 =>
    intro r0 v1 v2 v3 z
    rw [m_X12_most_L16]
    refine j_iload_n (pc := 16) 3 dX12_most_16 rfl rfl ?_
    refine j_sipush (pc := 17) (v := 144) dX12_most_17 (by decide) ?_
    refine j_icmp_ge (pc := 20) 100 dX12_most_20 (by decide) ?_ ?_
    · refine j_iload_n (pc := 100) 2 dX12_most_100 rfl rfl ?_
      exact j_ireturn (pc := 101) dX12_most_101 rfl rfl
    refine j_aload_n (pc := 23) 0 dX12_most_23 rfl rfl ?_
    refine j_iload_n (pc := 24) 3 dX12_most_24 rfl rfl ?_
    refine j_isC (fun h3 => ?_)
    refine j_callV_I (pc := 25) (as := [.int v3]) (mc2 := 0) (ms2 := 0) (ct_X12_isDug _ _ _) h3 rfl cw_X12_most_102 dX12_most_25 (Nat.le_of_ble_eq_true rfl) rfl (by decide) (by decide) (fun x2 z1 => ?_)
    refine j_if_eq (pc := 28) 34 dX12_most_28 (by decide) ?_ ?_
    · refine j_iload_n (pc := 34) 2 dX12_most_34 rfl rfl ?_
      refine j_iconst (pc := 35) (v := (-1)) dX12_most_35 (by decide) ?_
      refine j_icmp_eq (pc := 36) 92 dX12_most_36 (by decide) ?_ ?_
      · exact J.sub [0, 1, 3] rfl ((j_X12_most_B92 hL16) r0 v1 v3 z1)
      refine j_iload_n (pc := 39) 1 dX12_most_39 rfl rfl ?_
      refine j_if_ne (pc := 40) 69 dX12_most_40 (by decide) ?_ ?_
      · refine j_aload_n (pc := 69) 0 dX12_most_69 rfl rfl ?_
        refine j_getR (pc := 70) ok_X12 (by decide) rfl w_1239 dX12_most_70 (fun a4 => ?_)
        refine j_sipush (pc := 73) (v := 192) dX12_most_73 (by decide) ?_
        refine j_iload_n (pc := 76) 3 dX12_most_76 rfl rfl ?_
        refine j_iadd (pc := 77) dX12_most_77 ?_
        refine j_iaload (pc := 78) dX12_most_78 (fun x5 => ?_)
        refine j_aload_n (pc := 79) 0 dX12_most_79 rfl rfl ?_
        refine j_getR (pc := 80) ok_X12 (by decide) rfl w_1239 dX12_most_80 (fun a6 => ?_)
        refine j_sipush (pc := 83) (v := 192) dX12_most_83 (by decide) ?_
        refine j_iload_n (pc := 86) 2 dX12_most_86 rfl rfl ?_
        refine j_iadd (pc := 87) dX12_most_87 ?_
        refine j_iaload (pc := 88) dX12_most_88 (fun x7 => ?_)
        refine j_icmp_le (pc := 89) 94 dX12_most_89 (by decide) ?_ ?_
        · exact J.sub [0, 1, 2, 3] rfl ((j_X12_most_B94 hL16) r0 v1 v2 v3 z1)
        exact J.sub [0, 1, 3] rfl ((j_X12_most_B92 hL16) r0 v1 v3 z1)
      refine j_aload_n (pc := 43) 0 dX12_most_43 rfl rfl ?_
      refine j_getR (pc := 44) ok_X12 (by decide) rfl w_1239 dX12_most_44 (fun a8 => ?_)
      refine j_sipush (pc := 47) (v := 192) dX12_most_47 (by decide) ?_
      refine j_iload_n (pc := 50) 3 dX12_most_50 rfl rfl ?_
      refine j_iadd (pc := 51) dX12_most_51 ?_
      refine j_iaload (pc := 52) dX12_most_52 (fun x9 => ?_)
      refine j_aload_n (pc := 53) 0 dX12_most_53 rfl rfl ?_
      refine j_getR (pc := 54) ok_X12 (by decide) rfl w_1239 dX12_most_54 (fun a10 => ?_)
      refine j_sipush (pc := 57) (v := 192) dX12_most_57 (by decide) ?_
      refine j_iload_n (pc := 60) 2 dX12_most_60 rfl rfl ?_
      refine j_iadd (pc := 61) dX12_most_61 ?_
      refine j_iaload (pc := 62) dX12_most_62 (fun x11 => ?_)
      refine j_icmp_ge (pc := 63) 94 dX12_most_63 (by decide) ?_ ?_
      · exact J.sub [0, 1, 2, 3] rfl ((j_X12_most_B94 hL16) r0 v1 v2 v3 z1)
      refine j_goto (pc := 66) 92 dX12_most_66 (by decide) ?_
      exact J.sub [0, 1, 3] rfl ((j_X12_most_B92 hL16) r0 v1 v3 z1)
    refine j_goto (pc := 31) 94 dX12_most_31 (by decide) ?_
    exact J.sub [0, 1, 2, 3] rfl ((j_X12_most_B94 hL16) r0 v1 v2 v3 z1)
theorem ct_X12_most {l : Launch} {Γ : Am} (r0 : Nat) (v1 : Int32) (z : Hp) : Ct l Γ yX12_most mi_X12_most cvI [.ref (mB Γ + r0), .int v1] z (m_X12_most r0 v1 z) := by
  refine Ct.ofJ (by decide) ⟨rfl, rfl⟩ (Nat.le_of_ble_eq_true rfl) ?_
  unfold m_X12_most
  show J l Γ mi_X12_most cvI 0 0 0 [(0, .ref (mB Γ + r0)), (1, .int v1)] [] z _
  refine j_iload_n (pc := 0) 1 dX12_most_0 rfl rfl ?_
  refine j_i2l (pc := 1) dX12_most_1 ?_
  refine j_lconst (pc := 2) (v := 0) dX12_most_2 (by decide) ?_
  refine j_lconst (pc := 3) (v := 1) dX12_most_3 (by decide) ?_
  refine j_callS_I (pc := 4) (as := [.long (Int32.toInt64 v1), .long 0, .long 1]) (mc2 := 0) (ms2 := 0) (ct_X12_in _ _ _ _) cw_X12_most_110 dX12_most_4 (Nat.le_of_ble_eq_true rfl) rfl (by decide) (by decide) (fun x13 z12 => ?_)
  refine j_if_ne (pc := 7) 12 dX12_most_7 (by decide) ?_ ?_
  · refine j_iconst (pc := 12) (v := (-1)) dX12_most_12 (by decide) ?_
    refine j_istore_n (pc := 13) (lv2 := [(2, .int (-1)), (0, .ref (mB Γ + r0)), (1, .int v1)]) dX12_most_13 rfl (by decide) rfl ?_
    refine j_iconst (pc := 14) (v := 0) dX12_most_14 (by decide) ?_
    refine j_istore_n (pc := 15) (lv2 := [(3, .int 0), (2, .int (-1)), (0, .ref (mB Γ + r0)), (1, .int v1)]) dX12_most_15 rfl (by decide) rfl ?_
    exact J.sub [2, 3, 1, 0] rfl ((j_X12_most_L16 FU) r0 v1 (-1) 0 z12)
  refine j_iconst (pc := 10) (v := (-1)) dX12_most_10 (by decide) ?_
  exact j_ireturn (pc := 11) dX12_most_11 rfl rfl
theorem dX12_frost_0 : decode cX12_frost 0 = .ok (.iload_n 1, 1) := by decide +kernel
theorem dX12_frost_1 : decode cX12_frost 1 = .ok (.i2l, 1) := by decide +kernel
theorem dX12_frost_2 : decode cX12_frost 2 = .ok (.lconst 0, 1) := by decide +kernel
theorem dX12_frost_3 : decode cX12_frost 3 = .ok (.ldc2_w 114, 3) := by decide +kernel
theorem dX12_frost_6 : decode cX12_frost 6 = .ok (.invokestatic 110, 3) := by decide +kernel
theorem dX12_frost_9 : decode cX12_frost 9 = .ok (.ifCond .ne 5, 3) := by decide +kernel
theorem dX12_frost_12 : decode cX12_frost 12 = .ok (.iconst (-1), 1) := by decide +kernel
theorem dX12_frost_13 : decode cX12_frost 13 = .ok (.ireturn, 1) := by decide +kernel
theorem dX12_frost_14 : decode cX12_frost 14 = .ok (.iconst 0, 1) := by decide +kernel
theorem dX12_frost_15 : decode cX12_frost 15 = .ok (.istore_n 2, 1) := by decide +kernel
theorem dX12_frost_16 : decode cX12_frost 16 = .ok (.iconst 0, 1) := by decide +kernel
theorem dX12_frost_17 : decode cX12_frost 17 = .ok (.istore_n 3, 1) := by decide +kernel
theorem dX12_frost_18 : decode cX12_frost 18 = .ok (.iload_n 3, 1) := by decide +kernel
theorem dX12_frost_19 : decode cX12_frost 19 = .ok (.bipush 12, 2) := by decide +kernel
theorem dX12_frost_21 : decode cX12_frost 21 = .ok (.if_icmp .ge 32, 3) := by decide +kernel
theorem dX12_frost_24 : decode cX12_frost 24 = .ok (.iload_n 2, 1) := by decide +kernel
theorem dX12_frost_25 : decode cX12_frost 25 = .ok (.aload_n 0, 1) := by decide +kernel
theorem dX12_frost_26 : decode cX12_frost 26 = .ok (.bipush 12, 2) := by decide +kernel
theorem dX12_frost_28 : decode cX12_frost 28 = .ok (.iload_n 1, 1) := by decide +kernel
theorem dX12_frost_29 : decode cX12_frost 29 = .ok (.imul, 1) := by decide +kernel
theorem dX12_frost_30 : decode cX12_frost 30 = .ok (.iload_n 3, 1) := by decide +kernel
theorem dX12_frost_31 : decode cX12_frost 31 = .ok (.iadd, 1) := by decide +kernel
theorem dX12_frost_32 : decode cX12_frost 32 = .ok (.invokevirtual 301, 3) := by decide +kernel
theorem dX12_frost_35 : decode cX12_frost 35 = .ok (.ifCond .eq 9, 3) := by decide +kernel
theorem dX12_frost_38 : decode cX12_frost 38 = .ok (.iconst 1, 1) := by decide +kernel
theorem dX12_frost_39 : decode cX12_frost 39 = .ok (.iload_n 3, 1) := by decide +kernel
theorem dX12_frost_40 : decode cX12_frost 40 = .ok (.ishl, 1) := by decide +kernel
theorem dX12_frost_41 : decode cX12_frost 41 = .ok (.goto 4, 3) := by decide +kernel
theorem dX12_frost_44 : decode cX12_frost 44 = .ok (.iconst 0, 1) := by decide +kernel
theorem dX12_frost_45 : decode cX12_frost 45 = .ok (.ior, 1) := by decide +kernel
theorem dX12_frost_46 : decode cX12_frost 46 = .ok (.istore_n 2, 1) := by decide +kernel
theorem dX12_frost_47 : decode cX12_frost 47 = .ok (.iinc 3 1, 3) := by decide +kernel
theorem dX12_frost_50 : decode cX12_frost 50 = .ok (.goto (-32), 3) := by decide +kernel
theorem dX12_frost_53 : decode cX12_frost 53 = .ok (.iload_n 2, 1) := by decide +kernel
theorem dX12_frost_54 : decode cX12_frost 54 = .ok (.ireturn, 1) := by decide +kernel
theorem cw_X12_frost_301 : CwV mi_X12_frost mi_X12_isFrozen yX12_isFrozen RX12 301 1 := ⟨⟨w_1529, w_1531, w_68, w_108, w_1532⟩, ⟨by decide, by decide⟩, by decide +kernel, by decide, by decide⟩
theorem cw_X12_frost_110 : CwS mi_X12_frost mi_X12_in yX12_in 110 3 := ⟨⟨w_1365, w_1366, w_108, w_1367⟩, ⟨by decide, by decide⟩, by decide +kernel, by decide, by decide⟩
theorem j_X12_frost_B45 {l : Launch} {Γ : Am} {k18 : Nat → Int32 → Int32 → Int32 → Hp → Option (Int32 × Hp)} (hL18 : ∀ (r0 : Nat) (v1 : Int32) (v2 : Int32) (v3 : Int32) (z : Hp), J l Γ mi_X12_frost cvI 0 0 18 [(0, .ref (mB Γ + r0)), (1, .int v1), (2, .int v2), (3, .int v3)] [] z (k18 r0 v1 v2 v3 z)) : ∀ (r0 : Nat) (v1 : Int32) (v3 : Int32) (t0 : Int32) (t1 : Int32) (z : Hp), J l Γ mi_X12_frost cvI 0 0 45 [(0, .ref (mB Γ + r0)), (1, .int v1), (3, .int v3)] [.int t0, .int t1] z (m_X12_frost_B45 k18 r0 v1 v3 t0 t1 z) := by
  intro r0 v1 v3 t0 t1 z
  unfold m_X12_frost_B45
  refine j_ior (pc := 45) dX12_frost_45 ?_
  refine j_istore_n (pc := 46) (lv2 := [(2, .int (t1 ||| t0)), (0, .ref (mB Γ + r0)), (1, .int v1), (3, .int v3)]) dX12_frost_46 rfl (by decide) rfl ?_
  refine j_iinc (pc := 47) (n0 := 3) (v0 := v3 + 1) (lv2 := [(3, .int (v3 + 1)), (2, .int (t1 ||| t0)), (0, .ref (mB Γ + r0)), (1, .int v1)]) dX12_frost_47 rfl rfl (by decide) rfl ?_
  refine j_goto (pc := 50) 18 dX12_frost_50 (by decide) ?_
  exact J.sub [2, 3, 1, 0] rfl (hL18 r0 v1 (t1 ||| t0) (v3 + 1) z)
theorem j_X12_frost_L18 {l : Launch} {Γ : Am}   : ∀ (f : Nat), ∀ (r0 : Nat) (v1 : Int32) (v2 : Int32) (v3 : Int32) (z : Hp), J l Γ mi_X12_frost cvI 0 0 18 [(0, .ref (mB Γ + r0)), (1, .int v1), (2, .int v2), (3, .int v3)] [] z (m_X12_frost_L18  f r0 v1 v2 v3 z) := by
  intro f
  induction f with
  | zero => intro r0 v1 v2 v3 z; exact J.none
  | succ f hL18 =>
    intro r0 v1 v2 v3 z
    rw [m_X12_frost_L18]
    refine j_iload_n (pc := 18) 3 dX12_frost_18 rfl rfl ?_
    refine j_bipush (pc := 19) (v := 12) dX12_frost_19 (by decide) ?_
    refine j_icmp_ge (pc := 21) 53 dX12_frost_21 (by decide) ?_ ?_
    · refine j_iload_n (pc := 53) 2 dX12_frost_53 rfl rfl ?_
      exact j_ireturn (pc := 54) dX12_frost_54 rfl rfl
    refine j_iload_n (pc := 24) 2 dX12_frost_24 rfl rfl ?_
    refine j_aload_n (pc := 25) 0 dX12_frost_25 rfl rfl ?_
    refine j_bipush (pc := 26) (v := 12) dX12_frost_26 (by decide) ?_
    refine j_iload_n (pc := 28) 1 dX12_frost_28 rfl rfl ?_
    refine j_imul (pc := 29) dX12_frost_29 ?_
    refine j_iload_n (pc := 30) 3 dX12_frost_30 rfl rfl ?_
    refine j_iadd (pc := 31) dX12_frost_31 ?_
    refine j_isC (fun h3 => ?_)
    refine j_callV_I (pc := 32) (as := [.int ((12 * v1) + v3)]) (mc2 := 0) (ms2 := 0) (ct_X12_isFrozen _ _ _) h3 rfl cw_X12_frost_301 dX12_frost_32 (Nat.le_of_ble_eq_true rfl) rfl (by decide) (by decide) (fun x2 z1 => ?_)
    refine j_if_eq (pc := 35) 44 dX12_frost_35 (by decide) ?_ ?_
    · refine j_iconst (pc := 44) (v := 0) dX12_frost_44 (by decide) ?_
      exact J.sub [0, 1, 3] rfl ((j_X12_frost_B45 hL18) r0 v1 v3 0 v2 z1)
    refine j_iconst (pc := 38) (v := 1) dX12_frost_38 (by decide) ?_
    refine j_iload_n (pc := 39) 3 dX12_frost_39 rfl rfl ?_
    refine j_ishl (pc := 40) dX12_frost_40 ?_
    refine j_goto (pc := 41) 45 dX12_frost_41 (by decide) ?_
    exact J.sub [0, 1, 3] rfl ((j_X12_frost_B45 hL18) r0 v1 v3 ((1 : Int32) <<< (v3 &&& 31)) v2 z1)
theorem ct_X12_frost {l : Launch} {Γ : Am} (r0 : Nat) (v1 : Int32) (z : Hp) : Ct l Γ yX12_frost mi_X12_frost cvI [.ref (mB Γ + r0), .int v1] z (m_X12_frost r0 v1 z) := by
  refine Ct.ofJ (by decide) ⟨rfl, rfl⟩ (Nat.le_of_ble_eq_true rfl) ?_
  unfold m_X12_frost
  show J l Γ mi_X12_frost cvI 0 0 0 [(0, .ref (mB Γ + r0)), (1, .int v1)] [] z _
  refine j_iload_n (pc := 0) 1 dX12_frost_0 rfl rfl ?_
  refine j_i2l (pc := 1) dX12_frost_1 ?_
  refine j_lconst (pc := 2) (v := 0) dX12_frost_2 (by decide) ?_
  refine j_ldc2 (pc := 3) (v := 11) dX12_frost_3 w_1471 ?_
  refine j_callS_I (pc := 6) (as := [.long (Int32.toInt64 v1), .long 0, .long 11]) (mc2 := 0) (ms2 := 0) (ct_X12_in _ _ _ _) cw_X12_frost_110 dX12_frost_6 (Nat.le_of_ble_eq_true rfl) rfl (by decide) (by decide) (fun x5 z4 => ?_)
  refine j_if_ne (pc := 9) 14 dX12_frost_9 (by decide) ?_ ?_
  · refine j_iconst (pc := 14) (v := 0) dX12_frost_14 (by decide) ?_
    refine j_istore_n (pc := 15) (lv2 := [(2, .int 0), (0, .ref (mB Γ + r0)), (1, .int v1)]) dX12_frost_15 rfl (by decide) rfl ?_
    refine j_iconst (pc := 16) (v := 0) dX12_frost_16 (by decide) ?_
    refine j_istore_n (pc := 17) (lv2 := [(3, .int 0), (2, .int 0), (0, .ref (mB Γ + r0)), (1, .int v1)]) dX12_frost_17 rfl (by decide) rfl ?_
    exact J.sub [2, 3, 1, 0] rfl ((j_X12_frost_L18 FU) r0 v1 0 0 z4)
  refine j_iconst (pc := 12) (v := (-1)) dX12_frost_12 (by decide) ?_
  exact j_ireturn (pc := 13) dX12_frost_13 rfl rfl
theorem dX12_count_0 : decode cX12_count 0 = .ok (.iconst 0, 1) := by decide +kernel
theorem dX12_count_1 : decode cX12_count 1 = .ok (.istore_n 2, 1) := by decide +kernel
theorem dX12_count_2 : decode cX12_count 2 = .ok (.iload_n 1, 1) := by decide +kernel
theorem dX12_count_3 : decode cX12_count 3 = .ok (.tableswitch 218 0 12 #[65, 72, 79, 86, 86, 135, 142, 147, 154, 162, 170, 203, 210], 65) := by decide +kernel
theorem dX12_count_68 : decode cX12_count 68 = .ok (.aload_n 0, 1) := by decide +kernel
theorem dX12_count_69 : decode cX12_count 69 = .ok (.getfield 13, 3) := by decide +kernel
theorem dX12_count_72 : decode cX12_count 72 = .ok (.iconst 0, 1) := by decide +kernel
theorem dX12_count_73 : decode cX12_count 73 = .ok (.iaload, 1) := by decide +kernel
theorem dX12_count_74 : decode cX12_count 74 = .ok (.ireturn, 1) := by decide +kernel
theorem dX12_count_75 : decode cX12_count 75 = .ok (.aload_n 0, 1) := by decide +kernel
theorem dX12_count_76 : decode cX12_count 76 = .ok (.getfield 13, 3) := by decide +kernel
theorem dX12_count_79 : decode cX12_count 79 = .ok (.iconst 1, 1) := by decide +kernel
theorem dX12_count_80 : decode cX12_count 80 = .ok (.iaload, 1) := by decide +kernel
theorem dX12_count_81 : decode cX12_count 81 = .ok (.ireturn, 1) := by decide +kernel
theorem dX12_count_82 : decode cX12_count 82 = .ok (.aload_n 0, 1) := by decide +kernel
theorem dX12_count_83 : decode cX12_count 83 = .ok (.getfield 13, 3) := by decide +kernel
theorem dX12_count_86 : decode cX12_count 86 = .ok (.iconst 2, 1) := by decide +kernel
theorem dX12_count_87 : decode cX12_count 87 = .ok (.iaload, 1) := by decide +kernel
theorem dX12_count_88 : decode cX12_count 88 = .ok (.ireturn, 1) := by decide +kernel
theorem dX12_count_89 : decode cX12_count 89 = .ok (.iconst 0, 1) := by decide +kernel
theorem dX12_count_90 : decode cX12_count 90 = .ok (.istore_n 3, 1) := by decide +kernel
theorem dX12_count_91 : decode cX12_count 91 = .ok (.iload_n 3, 1) := by decide +kernel
theorem dX12_count_92 : decode cX12_count 92 = .ok (.sipush 144, 3) := by decide +kernel
theorem dX12_count_95 : decode cX12_count 95 = .ok (.if_icmp .ge 41, 3) := by decide +kernel
theorem dX12_count_98 : decode cX12_count 98 = .ok (.iload_n 2, 1) := by decide +kernel
theorem dX12_count_99 : decode cX12_count 99 = .ok (.iload_n 1, 1) := by decide +kernel
theorem dX12_count_100 : decode cX12_count 100 = .ok (.iconst 3, 1) := by decide +kernel
theorem dX12_count_101 : decode cX12_count 101 = .ok (.if_icmp .ne 14, 3) := by decide +kernel
theorem dX12_count_104 : decode cX12_count 104 = .ok (.aload_n 0, 1) := by decide +kernel
theorem dX12_count_105 : decode cX12_count 105 = .ok (.iload_n 3, 1) := by decide +kernel
theorem dX12_count_106 : decode cX12_count 106 = .ok (.invokevirtual 301, 3) := by decide +kernel
theorem dX12_count_109 : decode cX12_count 109 = .ok (.ifCond .eq 18, 3) := by decide +kernel
theorem dX12_count_112 : decode cX12_count 112 = .ok (.goto 11, 3) := by decide +kernel
theorem dX12_count_115 : decode cX12_count 115 = .ok (.aload_n 0, 1) := by decide +kernel
theorem dX12_count_116 : decode cX12_count 116 = .ok (.iload_n 3, 1) := by decide +kernel
theorem dX12_count_117 : decode cX12_count 117 = .ok (.invokevirtual 102, 3) := by decide +kernel
theorem dX12_count_120 : decode cX12_count 120 = .ok (.ifCond .eq 7, 3) := by decide +kernel
theorem dX12_count_123 : decode cX12_count 123 = .ok (.iconst 1, 1) := by decide +kernel
theorem dX12_count_124 : decode cX12_count 124 = .ok (.goto 4, 3) := by decide +kernel
theorem dX12_count_127 : decode cX12_count 127 = .ok (.iconst 0, 1) := by decide +kernel
theorem dX12_count_128 : decode cX12_count 128 = .ok (.iadd, 1) := by decide +kernel
theorem dX12_count_129 : decode cX12_count 129 = .ok (.istore_n 2, 1) := by decide +kernel
theorem dX12_count_130 : decode cX12_count 130 = .ok (.iinc 3 1, 3) := by decide +kernel
theorem dX12_count_133 : decode cX12_count 133 = .ok (.goto (-42), 3) := by decide +kernel
theorem dX12_count_136 : decode cX12_count 136 = .ok (.iload_n 2, 1) := by decide +kernel
theorem dX12_count_137 : decode cX12_count 137 = .ok (.ireturn, 1) := by decide +kernel
theorem dX12_count_138 : decode cX12_count 138 = .ok (.aload_n 0, 1) := by decide +kernel
theorem dX12_count_139 : decode cX12_count 139 = .ok (.getfield 13, 3) := by decide +kernel
theorem dX12_count_142 : decode cX12_count 142 = .ok (.iconst 4, 1) := by decide +kernel
theorem dX12_count_143 : decode cX12_count 143 = .ok (.iaload, 1) := by decide +kernel
theorem dX12_count_144 : decode cX12_count 144 = .ok (.ireturn, 1) := by decide +kernel
theorem dX12_count_145 : decode cX12_count 145 = .ok (.aload_n 0, 1) := by decide +kernel
theorem dX12_count_146 : decode cX12_count 146 = .ok (.getfield 122, 3) := by decide +kernel
theorem dX12_count_149 : decode cX12_count 149 = .ok (.ireturn, 1) := by decide +kernel
theorem dX12_count_150 : decode cX12_count 150 = .ok (.aload_n 0, 1) := by decide +kernel
theorem dX12_count_151 : decode cX12_count 151 = .ok (.getfield 13, 3) := by decide +kernel
theorem dX12_count_154 : decode cX12_count 154 = .ok (.iconst 3, 1) := by decide +kernel
theorem dX12_count_155 : decode cX12_count 155 = .ok (.iaload, 1) := by decide +kernel
theorem dX12_count_156 : decode cX12_count 156 = .ok (.ireturn, 1) := by decide +kernel
theorem dX12_count_157 : decode cX12_count 157 = .ok (.aload_n 0, 1) := by decide +kernel
theorem dX12_count_158 : decode cX12_count 158 = .ok (.getfield 13, 3) := by decide +kernel
theorem dX12_count_161 : decode cX12_count 161 = .ok (.bipush 12, 2) := by decide +kernel
theorem dX12_count_163 : decode cX12_count 163 = .ok (.iaload, 1) := by decide +kernel
theorem dX12_count_164 : decode cX12_count 164 = .ok (.ireturn, 1) := by decide +kernel
theorem dX12_count_165 : decode cX12_count 165 = .ok (.aload_n 0, 1) := by decide +kernel
theorem dX12_count_166 : decode cX12_count 166 = .ok (.getfield 13, 3) := by decide +kernel
theorem dX12_count_169 : decode cX12_count 169 = .ok (.bipush 6, 2) := by decide +kernel
theorem dX12_count_171 : decode cX12_count 171 = .ok (.iaload, 1) := by decide +kernel
theorem dX12_count_172 : decode cX12_count 172 = .ok (.ireturn, 1) := by decide +kernel
theorem dX12_count_173 : decode cX12_count 173 = .ok (.iconst 0, 1) := by decide +kernel
theorem dX12_count_174 : decode cX12_count 174 = .ok (.istore_n 3, 1) := by decide +kernel
theorem dX12_count_175 : decode cX12_count 175 = .ok (.iload_n 3, 1) := by decide +kernel
theorem dX12_count_176 : decode cX12_count 176 = .ok (.iconst 4, 1) := by decide +kernel
theorem dX12_count_177 : decode cX12_count 177 = .ok (.if_icmp .ge 27, 3) := by decide +kernel
theorem dX12_count_180 : decode cX12_count 180 = .ok (.iload_n 2, 1) := by decide +kernel
theorem dX12_count_181 : decode cX12_count 181 = .ok (.aload_n 0, 1) := by decide +kernel
theorem dX12_count_182 : decode cX12_count 182 = .ok (.getfield 73, 3) := by decide +kernel
theorem dX12_count_185 : decode cX12_count 185 = .ok (.iload_n 3, 1) := by decide +kernel
theorem dX12_count_186 : decode cX12_count 186 = .ok (.iaload, 1) := by decide +kernel
theorem dX12_count_187 : decode cX12_count 187 = .ok (.iconst (-1), 1) := by decide +kernel
theorem dX12_count_188 : decode cX12_count 188 = .ok (.if_icmp .ne 7, 3) := by decide +kernel
theorem dX12_count_191 : decode cX12_count 191 = .ok (.iconst 0, 1) := by decide +kernel
theorem dX12_count_192 : decode cX12_count 192 = .ok (.goto 4, 3) := by decide +kernel
theorem dX12_count_195 : decode cX12_count 195 = .ok (.iconst 1, 1) := by decide +kernel
theorem dX12_count_196 : decode cX12_count 196 = .ok (.iadd, 1) := by decide +kernel
theorem dX12_count_197 : decode cX12_count 197 = .ok (.istore_n 2, 1) := by decide +kernel
theorem dX12_count_198 : decode cX12_count 198 = .ok (.iinc 3 1, 3) := by decide +kernel
theorem dX12_count_201 : decode cX12_count 201 = .ok (.goto (-26), 3) := by decide +kernel
theorem dX12_count_204 : decode cX12_count 204 = .ok (.iload_n 2, 1) := by decide +kernel
theorem dX12_count_205 : decode cX12_count 205 = .ok (.ireturn, 1) := by decide +kernel
theorem dX12_count_206 : decode cX12_count 206 = .ok (.aload_n 0, 1) := by decide +kernel
theorem dX12_count_207 : decode cX12_count 207 = .ok (.getfield 13, 3) := by decide +kernel
theorem dX12_count_210 : decode cX12_count 210 = .ok (.iconst 5, 1) := by decide +kernel
theorem dX12_count_211 : decode cX12_count 211 = .ok (.iaload, 1) := by decide +kernel
theorem dX12_count_212 : decode cX12_count 212 = .ok (.ireturn, 1) := by decide +kernel
theorem dX12_count_213 : decode cX12_count 213 = .ok (.aload_n 0, 1) := by decide +kernel
theorem dX12_count_214 : decode cX12_count 214 = .ok (.getfield 13, 3) := by decide +kernel
theorem dX12_count_217 : decode cX12_count 217 = .ok (.bipush 13, 2) := by decide +kernel
theorem dX12_count_219 : decode cX12_count 219 = .ok (.iaload, 1) := by decide +kernel
theorem dX12_count_220 : decode cX12_count 220 = .ok (.ireturn, 1) := by decide +kernel
theorem dX12_count_221 : decode cX12_count 221 = .ok (.iconst (-1), 1) := by decide +kernel
theorem dX12_count_222 : decode cX12_count 222 = .ok (.ireturn, 1) := by decide +kernel
theorem cw_X12_count_102 : CwV mi_X12_count mi_X12_isDug yX12_isDug RX12 102 1 := ⟨⟨w_1511, w_1513, w_65, w_108, w_1514⟩, ⟨by decide, by decide⟩, by decide +kernel, by decide, by decide⟩
theorem cw_X12_count_301 : CwV mi_X12_count mi_X12_isFrozen yX12_isFrozen RX12 301 1 := ⟨⟨w_1529, w_1531, w_68, w_108, w_1532⟩, ⟨by decide, by decide⟩, by decide +kernel, by decide, by decide⟩
theorem j_X12_count_B196 {l : Launch} {Γ : Am} {k175 : Nat → Int32 → Int32 → Hp → Option (Int32 × Hp)} (hL175 : ∀ (r0 : Nat) (v2 : Int32) (v3 : Int32) (z : Hp), J l Γ mi_X12_count cvI 0 0 175 [(0, .ref (mB Γ + r0)), (2, .int v2), (3, .int v3)] [] z (k175 r0 v2 v3 z)) : ∀ (r0 : Nat) (v3 : Int32) (t0 : Int32) (t1 : Int32) (z : Hp), J l Γ mi_X12_count cvI 0 0 196 [(0, .ref (mB Γ + r0)), (3, .int v3)] [.int t0, .int t1] z (m_X12_count_B196 k175 r0 v3 t0 t1 z) := by
  intro r0 v3 t0 t1 z
  unfold m_X12_count_B196
  refine j_iadd (pc := 196) dX12_count_196 ?_
  refine j_istore_n (pc := 197) (lv2 := [(2, .int (t1 + t0)), (0, .ref (mB Γ + r0)), (3, .int v3)]) dX12_count_197 rfl (by decide) rfl ?_
  refine j_iinc (pc := 198) (n0 := 2) (v0 := v3 + 1) (lv2 := [(3, .int (v3 + 1)), (2, .int (t1 + t0)), (0, .ref (mB Γ + r0))]) dX12_count_198 rfl rfl (by decide) rfl ?_
  refine j_goto (pc := 201) 175 dX12_count_201 (by decide) ?_
  exact J.sub [2, 1, 0] rfl (hL175 r0 (t1 + t0) (v3 + 1) z)
theorem j_X12_count_L175 {l : Launch} {Γ : Am}   : ∀ (f : Nat), ∀ (r0 : Nat) (v2 : Int32) (v3 : Int32) (z : Hp), J l Γ mi_X12_count cvI 0 0 175 [(0, .ref (mB Γ + r0)), (2, .int v2), (3, .int v3)] [] z (m_X12_count_L175  f r0 v2 v3 z) := by
  intro f
  induction f with
  | zero => intro r0 v2 v3 z; exact J.none
  | succ f hL175 =>
    intro r0 v2 v3 z
    rw [m_X12_count_L175]
    refine j_iload_n (pc := 175) 2 dX12_count_175 rfl rfl ?_
    refine j_iconst (pc := 176) (v := 4) dX12_count_176 (by decide) ?_
    refine j_icmp_ge (pc := 177) 204 dX12_count_177 (by decide) ?_ ?_
    · refine j_iload_n (pc := 204) 1 dX12_count_204 rfl rfl ?_
      exact j_ireturn (pc := 205) dX12_count_205 rfl rfl
    refine j_iload_n (pc := 180) 1 dX12_count_180 rfl rfl ?_
    refine j_aload_n (pc := 181) 0 dX12_count_181 rfl rfl ?_
    refine j_getR (pc := 182) ok_X12 (by decide) rfl w_1274 dX12_count_182 (fun a1 => ?_)
    refine j_iload_n (pc := 185) 2 dX12_count_185 rfl rfl ?_
    refine j_iaload (pc := 186) dX12_count_186 (fun x2 => ?_)
    refine j_iconst (pc := 187) (v := (-1)) dX12_count_187 (by decide) ?_
    refine j_icmp_ne (pc := 188) 195 dX12_count_188 (by decide) ?_ ?_
    · refine j_iconst (pc := 195) (v := 1) dX12_count_195 (by decide) ?_
      exact J.sub [0, 2] rfl ((j_X12_count_B196 hL175) r0 v3 1 v2 z)
    refine j_iconst (pc := 191) (v := 0) dX12_count_191 (by decide) ?_
    refine j_goto (pc := 192) 196 dX12_count_192 (by decide) ?_
    exact J.sub [0, 2] rfl ((j_X12_count_B196 hL175) r0 v3 0 v2 z)
theorem j_X12_count_B128 {l : Launch} {Γ : Am} {k91 : Nat → Int32 → Int32 → Int32 → Hp → Option (Int32 × Hp)} (hL91 : ∀ (r0 : Nat) (v1 : Int32) (v2 : Int32) (v3 : Int32) (z : Hp), J l Γ mi_X12_count cvI 0 0 91 [(0, .ref (mB Γ + r0)), (1, .int v1), (2, .int v2), (3, .int v3)] [] z (k91 r0 v1 v2 v3 z)) : ∀ (r0 : Nat) (v1 : Int32) (v3 : Int32) (t0 : Int32) (t1 : Int32) (z : Hp), J l Γ mi_X12_count cvI 0 0 128 [(0, .ref (mB Γ + r0)), (1, .int v1), (3, .int v3)] [.int t0, .int t1] z (m_X12_count_B128 k91 r0 v1 v3 t0 t1 z) := by
  intro r0 v1 v3 t0 t1 z
  unfold m_X12_count_B128
  refine j_iadd (pc := 128) dX12_count_128 ?_
  refine j_istore_n (pc := 129) (lv2 := [(2, .int (t1 + t0)), (0, .ref (mB Γ + r0)), (1, .int v1), (3, .int v3)]) dX12_count_129 rfl (by decide) rfl ?_
  refine j_iinc (pc := 130) (n0 := 3) (v0 := v3 + 1) (lv2 := [(3, .int (v3 + 1)), (2, .int (t1 + t0)), (0, .ref (mB Γ + r0)), (1, .int v1)]) dX12_count_130 rfl rfl (by decide) rfl ?_
  refine j_goto (pc := 133) 91 dX12_count_133 (by decide) ?_
  exact J.sub [2, 3, 1, 0] rfl (hL91 r0 v1 (t1 + t0) (v3 + 1) z)
theorem j_X12_count_B127 {l : Launch} {Γ : Am} {k91 : Nat → Int32 → Int32 → Int32 → Hp → Option (Int32 × Hp)} (hL91 : ∀ (r0 : Nat) (v1 : Int32) (v2 : Int32) (v3 : Int32) (z : Hp), J l Γ mi_X12_count cvI 0 0 91 [(0, .ref (mB Γ + r0)), (1, .int v1), (2, .int v2), (3, .int v3)] [] z (k91 r0 v1 v2 v3 z)) : ∀ (r0 : Nat) (v1 : Int32) (v3 : Int32) (t0 : Int32) (z : Hp), J l Γ mi_X12_count cvI 0 0 127 [(0, .ref (mB Γ + r0)), (1, .int v1), (3, .int v3)] [.int t0] z (m_X12_count_B127 k91 r0 v1 v3 t0 z) := by
  intro r0 v1 v3 t0 z
  unfold m_X12_count_B127
  refine j_iconst (pc := 127) (v := 0) dX12_count_127 (by decide) ?_
  exact J.sub [0, 1, 2] rfl ((j_X12_count_B128 hL91) r0 v1 v3 0 t0 z)
theorem j_X12_count_B123 {l : Launch} {Γ : Am} {k91 : Nat → Int32 → Int32 → Int32 → Hp → Option (Int32 × Hp)} (hL91 : ∀ (r0 : Nat) (v1 : Int32) (v2 : Int32) (v3 : Int32) (z : Hp), J l Γ mi_X12_count cvI 0 0 91 [(0, .ref (mB Γ + r0)), (1, .int v1), (2, .int v2), (3, .int v3)] [] z (k91 r0 v1 v2 v3 z)) : ∀ (r0 : Nat) (v1 : Int32) (v3 : Int32) (t0 : Int32) (z : Hp), J l Γ mi_X12_count cvI 0 0 123 [(0, .ref (mB Γ + r0)), (1, .int v1), (3, .int v3)] [.int t0] z (m_X12_count_B123 k91 r0 v1 v3 t0 z) := by
  intro r0 v1 v3 t0 z
  unfold m_X12_count_B123
  refine j_iconst (pc := 123) (v := 1) dX12_count_123 (by decide) ?_
  refine j_goto (pc := 124) 128 dX12_count_124 (by decide) ?_
  exact J.sub [0, 1, 2] rfl ((j_X12_count_B128 hL91) r0 v1 v3 1 t0 z)
theorem j_X12_count_L91 {l : Launch} {Γ : Am}   : ∀ (f : Nat), ∀ (r0 : Nat) (v1 : Int32) (v2 : Int32) (v3 : Int32) (z : Hp), J l Γ mi_X12_count cvI 0 0 91 [(0, .ref (mB Γ + r0)), (1, .int v1), (2, .int v2), (3, .int v3)] [] z (m_X12_count_L91  f r0 v1 v2 v3 z) := by
  intro f
  induction f with
  | zero => intro r0 v1 v2 v3 z; exact J.none
  | succ f hL91 =>
    intro r0 v1 v2 v3 z
    rw [m_X12_count_L91]
    refine j_iload_n (pc := 91) 3 dX12_count_91 rfl rfl ?_
    refine j_sipush (pc := 92) (v := 144) dX12_count_92 (by decide) ?_
    refine j_icmp_ge (pc := 95) 136 dX12_count_95 (by decide) ?_ ?_
    · refine j_iload_n (pc := 136) 2 dX12_count_136 rfl rfl ?_
      exact j_ireturn (pc := 137) dX12_count_137 rfl rfl
    refine j_iload_n (pc := 98) 2 dX12_count_98 rfl rfl ?_
    refine j_iload_n (pc := 99) 1 dX12_count_99 rfl rfl ?_
    refine j_iconst (pc := 100) (v := 3) dX12_count_100 (by decide) ?_
    refine j_icmp_ne (pc := 101) 115 dX12_count_101 (by decide) ?_ ?_
    · refine j_aload_n (pc := 115) 0 dX12_count_115 rfl rfl ?_
      refine j_iload_n (pc := 116) 3 dX12_count_116 rfl rfl ?_
      refine j_isC (fun h5 => ?_)
      refine j_callV_I (pc := 117) (as := [.int v3]) (mc2 := 0) (ms2 := 0) (ct_X12_isDug _ _ _) h5 rfl cw_X12_count_102 dX12_count_117 (Nat.le_of_ble_eq_true rfl) rfl (by decide) (by decide) (fun x4 z3 => ?_)
      refine j_if_eq (pc := 120) 127 dX12_count_120 (by decide) ?_ ?_
      · exact J.sub [0, 1, 3] rfl ((j_X12_count_B127 hL91) r0 v1 v3 v2 z3)
      exact J.sub [0, 1, 3] rfl ((j_X12_count_B123 hL91) r0 v1 v3 v2 z3)
    refine j_aload_n (pc := 104) 0 dX12_count_104 rfl rfl ?_
    refine j_iload_n (pc := 105) 3 dX12_count_105 rfl rfl ?_
    refine j_isC (fun h8 => ?_)
    refine j_callV_I (pc := 106) (as := [.int v3]) (mc2 := 0) (ms2 := 0) (ct_X12_isFrozen _ _ _) h8 rfl cw_X12_count_301 dX12_count_106 (Nat.le_of_ble_eq_true rfl) rfl (by decide) (by decide) (fun x7 z6 => ?_)
    refine j_if_eq (pc := 109) 127 dX12_count_109 (by decide) ?_ ?_
    · exact J.sub [0, 1, 3] rfl ((j_X12_count_B127 hL91) r0 v1 v3 v2 z6)
    refine j_goto (pc := 112) 123 dX12_count_112 (by decide) ?_
    exact J.sub [0, 1, 3] rfl ((j_X12_count_B123 hL91) r0 v1 v3 v2 z6)
theorem ct_X12_count {l : Launch} {Γ : Am} (r0 : Nat) (v1 : Int32) (z : Hp) : Ct l Γ yX12_count mi_X12_count cvI [.ref (mB Γ + r0), .int v1] z (m_X12_count r0 v1 z) := by
  refine Ct.ofJ (by decide) ⟨rfl, rfl⟩ (Nat.le_of_ble_eq_true rfl) ?_
  unfold m_X12_count
  show J l Γ mi_X12_count cvI 0 0 0 [(0, .ref (mB Γ + r0)), (1, .int v1)] [] z _
  refine j_iconst (pc := 0) (v := 0) dX12_count_0 (by decide) ?_
  refine j_istore_n (pc := 1) (lv2 := [(2, .int 0), (0, .ref (mB Γ + r0)), (1, .int v1)]) dX12_count_1 rfl (by decide) rfl ?_
  refine j_iload_n (pc := 2) 2 dX12_count_2 rfl rfl ?_
  refine j_ite (fun h11 => ?_) (fun h11 => ?_)
  · refine j_case (pc := 3) 68 dX12_count_3 h11 (by decide) rfl (by decide) ?_
    refine j_aload_n (pc := 68) 1 dX12_count_68 rfl rfl ?_
    refine j_getR (pc := 69) ok_X12 (by decide) rfl w_1239 dX12_count_69 (fun a9 => ?_)
    refine j_iconst (pc := 72) (v := 0) dX12_count_72 (by decide) ?_
    refine j_iaload (pc := 73) dX12_count_73 (fun x10 => ?_)
    exact j_ireturn (pc := 74) dX12_count_74 rfl rfl
  refine j_ite (fun h14 => ?_) (fun h14 => ?_)
  · refine j_case (pc := 3) 75 dX12_count_3 h14 (by decide) rfl (by decide) ?_
    refine j_aload_n (pc := 75) 1 dX12_count_75 rfl rfl ?_
    refine j_getR (pc := 76) ok_X12 (by decide) rfl w_1239 dX12_count_76 (fun a12 => ?_)
    refine j_iconst (pc := 79) (v := 1) dX12_count_79 (by decide) ?_
    refine j_iaload (pc := 80) dX12_count_80 (fun x13 => ?_)
    exact j_ireturn (pc := 81) dX12_count_81 rfl rfl
  refine j_ite (fun h17 => ?_) (fun h17 => ?_)
  · refine j_case (pc := 3) 82 dX12_count_3 h17 (by decide) rfl (by decide) ?_
    refine j_aload_n (pc := 82) 1 dX12_count_82 rfl rfl ?_
    refine j_getR (pc := 83) ok_X12 (by decide) rfl w_1239 dX12_count_83 (fun a15 => ?_)
    refine j_iconst (pc := 86) (v := 2) dX12_count_86 (by decide) ?_
    refine j_iaload (pc := 87) dX12_count_87 (fun x16 => ?_)
    exact j_ireturn (pc := 88) dX12_count_88 rfl rfl
  refine j_ite (fun h18 => ?_) (fun h18 => ?_)
  · refine j_case (pc := 3) 89 dX12_count_3 h18 (by decide) rfl (by decide) ?_
    refine j_iconst (pc := 89) (v := 0) dX12_count_89 (by decide) ?_
    refine j_istore_n (pc := 90) (lv2 := [(3, .int 0), (2, .int 0), (0, .ref (mB Γ + r0)), (1, .int v1)]) dX12_count_90 rfl (by decide) rfl ?_
    exact J.sub [2, 3, 1, 0] rfl ((j_X12_count_L91 FU) r0 v1 0 0 z)
  refine j_ite (fun h19 => ?_) (fun h19 => ?_)
  · refine j_case (pc := 3) 89 dX12_count_3 h19 (by decide) rfl (by decide) ?_
    refine j_iconst (pc := 89) (v := 0) dX12_count_89 (by decide) ?_
    refine j_istore_n (pc := 90) (lv2 := [(3, .int 0), (2, .int 0), (0, .ref (mB Γ + r0)), (1, .int v1)]) dX12_count_90 rfl (by decide) rfl ?_
    exact J.sub [2, 3, 1, 0] rfl ((j_X12_count_L91 FU) r0 v1 0 0 z)
  refine j_ite (fun h22 => ?_) (fun h22 => ?_)
  · refine j_case (pc := 3) 138 dX12_count_3 h22 (by decide) rfl (by decide) ?_
    refine j_aload_n (pc := 138) 1 dX12_count_138 rfl rfl ?_
    refine j_getR (pc := 139) ok_X12 (by decide) rfl w_1239 dX12_count_139 (fun a20 => ?_)
    refine j_iconst (pc := 142) (v := 4) dX12_count_142 (by decide) ?_
    refine j_iaload (pc := 143) dX12_count_143 (fun x21 => ?_)
    exact j_ireturn (pc := 144) dX12_count_144 rfl rfl
  refine j_ite (fun h24 => ?_) (fun h24 => ?_)
  · refine j_case (pc := 3) 145 dX12_count_3 h24 (by decide) rfl (by decide) ?_
    refine j_aload_n (pc := 145) 1 dX12_count_145 rfl rfl ?_
    refine j_getI (pc := 146) ok_X12 (by decide) rfl w_1244 dX12_count_146 (fun x23 => ?_)
    exact j_ireturn (pc := 149) dX12_count_149 rfl rfl
  refine j_ite (fun h27 => ?_) (fun h27 => ?_)
  · refine j_case (pc := 3) 150 dX12_count_3 h27 (by decide) rfl (by decide) ?_
    refine j_aload_n (pc := 150) 1 dX12_count_150 rfl rfl ?_
    refine j_getR (pc := 151) ok_X12 (by decide) rfl w_1239 dX12_count_151 (fun a25 => ?_)
    refine j_iconst (pc := 154) (v := 3) dX12_count_154 (by decide) ?_
    refine j_iaload (pc := 155) dX12_count_155 (fun x26 => ?_)
    exact j_ireturn (pc := 156) dX12_count_156 rfl rfl
  refine j_ite (fun h30 => ?_) (fun h30 => ?_)
  · refine j_case (pc := 3) 157 dX12_count_3 h30 (by decide) rfl (by decide) ?_
    refine j_aload_n (pc := 157) 1 dX12_count_157 rfl rfl ?_
    refine j_getR (pc := 158) ok_X12 (by decide) rfl w_1239 dX12_count_158 (fun a28 => ?_)
    refine j_bipush (pc := 161) (v := 12) dX12_count_161 (by decide) ?_
    refine j_iaload (pc := 163) dX12_count_163 (fun x29 => ?_)
    exact j_ireturn (pc := 164) dX12_count_164 rfl rfl
  refine j_ite (fun h33 => ?_) (fun h33 => ?_)
  · refine j_case (pc := 3) 165 dX12_count_3 h33 (by decide) rfl (by decide) ?_
    refine j_aload_n (pc := 165) 1 dX12_count_165 rfl rfl ?_
    refine j_getR (pc := 166) ok_X12 (by decide) rfl w_1239 dX12_count_166 (fun a31 => ?_)
    refine j_bipush (pc := 169) (v := 6) dX12_count_169 (by decide) ?_
    refine j_iaload (pc := 171) dX12_count_171 (fun x32 => ?_)
    exact j_ireturn (pc := 172) dX12_count_172 rfl rfl
  refine j_ite (fun h34 => ?_) (fun h34 => ?_)
  · refine j_case (pc := 3) 173 dX12_count_3 h34 (by decide) rfl (by decide) ?_
    refine j_iconst (pc := 173) (v := 0) dX12_count_173 (by decide) ?_
    refine j_istore_n (pc := 174) (lv2 := [(3, .int 0), (2, .int 0), (0, .ref (mB Γ + r0)), (1, .int v1)]) dX12_count_174 rfl (by decide) rfl ?_
    exact J.sub [2, 1, 0] rfl ((j_X12_count_L175 FU) r0 0 0 z)
  refine j_ite (fun h37 => ?_) (fun h37 => ?_)
  · refine j_case (pc := 3) 206 dX12_count_3 h37 (by decide) rfl (by decide) ?_
    refine j_aload_n (pc := 206) 1 dX12_count_206 rfl rfl ?_
    refine j_getR (pc := 207) ok_X12 (by decide) rfl w_1239 dX12_count_207 (fun a35 => ?_)
    refine j_iconst (pc := 210) (v := 5) dX12_count_210 (by decide) ?_
    refine j_iaload (pc := 211) dX12_count_211 (fun x36 => ?_)
    exact j_ireturn (pc := 212) dX12_count_212 rfl rfl
  refine j_ite (fun h40 => ?_) (fun h40 => ?_)
  · refine j_case (pc := 3) 213 dX12_count_3 h40 (by decide) rfl (by decide) ?_
    refine j_aload_n (pc := 213) 1 dX12_count_213 rfl rfl ?_
    refine j_getR (pc := 214) ok_X12 (by decide) rfl w_1239 dX12_count_214 (fun a38 => ?_)
    refine j_bipush (pc := 217) (v := 13) dX12_count_217 (by decide) ?_
    refine j_iaload (pc := 219) dX12_count_219 (fun x39 => ?_)
    exact j_ireturn (pc := 220) dX12_count_220 rfl rfl
  refine j_dflt (pc := 3) 221 dX12_count_3 (sw_out 13 (by decide) (fun k hk => ?_)) (by decide) ?_
  · match k, hk with
    | 0, _ => exact h11
    | 1, _ => exact h14
    | 2, _ => exact h17
    | 3, _ => exact h18
    | 4, _ => exact h19
    | 5, _ => exact h22
    | 6, _ => exact h24
    | 7, _ => exact h27
    | 8, _ => exact h30
    | 9, _ => exact h33
    | 10, _ => exact h34
    | 11, _ => exact h37
    | 12, _ => exact h40
    | k + 13, hk => exact absurd hk (by omega)
  refine j_iconst (pc := 221) (v := (-1)) dX12_count_221 (by decide) ?_
  exact j_ireturn (pc := 222) dX12_count_222 rfl rfl
theorem dX12_cut_0 : decode cX12_cut 0 = .ok (.bipush 64, 2) := by decide +kernel
theorem dX12_cut_2 : decode cX12_cut 2 = .ok (.bipush 8, 2) := by decide +kernel
theorem dX12_cut_4 : decode cX12_cut 4 = .ok (.iload_n 2, 1) := by decide +kernel
theorem dX12_cut_5 : decode cX12_cut 5 = .ok (.ishl, 1) := by decide +kernel
theorem dX12_cut_6 : decode cX12_cut 6 = .ok (.isub, 1) := by decide +kernel
theorem dX12_cut_7 : decode cX12_cut 7 = .ok (.istore_n 3, 1) := by decide +kernel
theorem dX12_cut_8 : decode cX12_cut 8 = .ok (.lload_n 0, 1) := by decide +kernel
theorem dX12_cut_9 : decode cX12_cut 9 = .ok (.iload_n 3, 1) := by decide +kernel
theorem dX12_cut_10 : decode cX12_cut 10 = .ok (.lshl, 1) := by decide +kernel
theorem dX12_cut_11 : decode cX12_cut 11 = .ok (.iload_n 3, 1) := by decide +kernel
theorem dX12_cut_12 : decode cX12_cut 12 = .ok (.lshr, 1) := by decide +kernel
theorem dX12_cut_13 : decode cX12_cut 13 = .ok (.lreturn, 1) := by decide +kernel
theorem ct_X12_cut {l : Launch} {Γ : Am} (w0 : Int64) (v2 : Int32) (z : Hp) : Ct l Γ yX12_cut mi_X12_cut cvL [.long w0, .int v2] z (m_X12_cut w0 v2 z) := by
  refine Ct.ofJ (by decide) ⟨rfl, rfl⟩ (Nat.le_of_ble_eq_true rfl) ?_
  unfold m_X12_cut
  show J l Γ mi_X12_cut cvL 0 0 0 [(0, .long w0), (2, .int v2)] [] z _
  refine j_bipush (pc := 0) (v := 64) dX12_cut_0 (by decide) ?_
  refine j_bipush (pc := 2) (v := 8) dX12_cut_2 (by decide) ?_
  refine j_iload_n (pc := 4) 1 dX12_cut_4 rfl rfl ?_
  refine j_ishl (pc := 5) dX12_cut_5 ?_
  refine j_isub (pc := 6) dX12_cut_6 ?_
  refine j_istore_n (pc := 7) (lv2 := [(3, .int (64 - ((8 : Int32) <<< (v2 &&& 31)))), (0, .long w0), (2, .int v2)]) dX12_cut_7 rfl (by decide) rfl ?_
  refine j_lload_n (pc := 8) 1 dX12_cut_8 rfl rfl ?_
  refine j_iload_n (pc := 9) 0 dX12_cut_9 rfl rfl ?_
  refine j_lshl (pc := 10) dX12_cut_10 ?_
  refine j_iload_n (pc := 11) 0 dX12_cut_11 rfl rfl ?_
  refine j_lshr (pc := 12) dX12_cut_12 ?_
  exact j_lreturn (pc := 13) dX12_cut_13 rfl
theorem dX12_row_0 : decode cX12_row 0 = .ok (.iload_n 1, 1) := by decide +kernel
theorem dX12_row_1 : decode cX12_row 1 = .ok (.invokestatic 412, 3) := by decide +kernel
theorem dX12_row_4 : decode cX12_row 4 = .ok (.ifCond .eq 21, 3) := by decide +kernel
theorem dX12_row_7 : decode cX12_row 7 = .ok (.iload_n 2, 1) := by decide +kernel
theorem dX12_row_8 : decode cX12_row 8 = .ok (.i2l, 1) := by decide +kernel
theorem dX12_row_9 : decode cX12_row 9 = .ok (.lconst 0, 1) := by decide +kernel
theorem dX12_row_10 : decode cX12_row 10 = .ok (.ldc2_w 198, 3) := by decide +kernel
theorem dX12_row_13 : decode cX12_row 13 = .ok (.invokestatic 110, 3) := by decide +kernel
theorem dX12_row_16 : decode cX12_row 16 = .ok (.ifCond .eq 9, 3) := by decide +kernel
theorem dX12_row_19 : decode cX12_row 19 = .ok (.iload_n 3, 1) := by decide +kernel
theorem dX12_row_20 : decode cX12_row 20 = .ok (.bipush 60, 2) := by decide +kernel
theorem dX12_row_22 : decode cX12_row 22 = .ok (.if_icmp .le 6, 3) := by decide +kernel
theorem dX12_row_25 : decode cX12_row 25 = .ok (.bipush (-2), 2) := by decide +kernel
theorem dX12_row_27 : decode cX12_row 27 = .ok (.ireturn, 1) := by decide +kernel
theorem dX12_row_28 : decode cX12_row 28 = .ok (.iload_n 3, 1) := by decide +kernel
theorem dX12_row_29 : decode cX12_row 29 = .ok (.ifCond .ge 6, 3) := by decide +kernel
theorem dX12_row_32 : decode cX12_row 32 = .ok (.bipush (-3), 2) := by decide +kernel
theorem dX12_row_34 : decode cX12_row 34 = .ok (.ireturn, 1) := by decide +kernel
theorem dX12_row_35 : decode cX12_row 35 = .ok (.aload_n 0, 1) := by decide +kernel
theorem dX12_row_36 : decode cX12_row 36 = .ok (.getfield 73, 3) := by decide +kernel
theorem dX12_row_39 : decode cX12_row 39 = .ok (.iload_n 1, 1) := by decide +kernel
theorem dX12_row_40 : decode cX12_row 40 = .ok (.iload_n 3, 1) := by decide +kernel
theorem dX12_row_41 : decode cX12_row 41 = .ok (.iastore, 1) := by decide +kernel
theorem dX12_row_42 : decode cX12_row 42 = .ok (.aload_n 0, 1) := by decide +kernel
theorem dX12_row_43 : decode cX12_row 43 = .ok (.getfield 76, 3) := by decide +kernel
theorem dX12_row_46 : decode cX12_row 46 = .ok (.iload_n 1, 1) := by decide +kernel
theorem dX12_row_47 : decode cX12_row 47 = .ok (.iload_n 2, 1) := by decide +kernel
theorem dX12_row_48 : decode cX12_row 48 = .ok (.iastore, 1) := by decide +kernel
theorem dX12_row_49 : decode cX12_row 49 = .ok (.iconst 0, 1) := by decide +kernel
theorem dX12_row_50 : decode cX12_row 50 = .ok (.istore 4, 2) := by decide +kernel
theorem dX12_row_52 : decode cX12_row 52 = .ok (.iload 4, 2) := by decide +kernel
theorem dX12_row_54 : decode cX12_row 54 = .ok (.bipush 60, 2) := by decide +kernel
theorem dX12_row_56 : decode cX12_row 56 = .ok (.if_icmp .ge 22, 3) := by decide +kernel
theorem dX12_row_59 : decode cX12_row 59 = .ok (.aload_n 0, 1) := by decide +kernel
theorem dX12_row_60 : decode cX12_row 60 = .ok (.getfield 79, 3) := by decide +kernel
theorem dX12_row_63 : decode cX12_row 63 = .ok (.bipush 60, 2) := by decide +kernel
theorem dX12_row_65 : decode cX12_row 65 = .ok (.iload_n 1, 1) := by decide +kernel
theorem dX12_row_66 : decode cX12_row 66 = .ok (.imul, 1) := by decide +kernel
theorem dX12_row_67 : decode cX12_row 67 = .ok (.iload 4, 2) := by decide +kernel
theorem dX12_row_69 : decode cX12_row 69 = .ok (.iadd, 1) := by decide +kernel
theorem dX12_row_70 : decode cX12_row 70 = .ok (.lconst 0, 1) := by decide +kernel
theorem dX12_row_71 : decode cX12_row 71 = .ok (.lastore, 1) := by decide +kernel
theorem dX12_row_72 : decode cX12_row 72 = .ok (.iinc 4 1, 3) := by decide +kernel
theorem dX12_row_75 : decode cX12_row 75 = .ok (.goto (-23), 3) := by decide +kernel
theorem dX12_row_78 : decode cX12_row 78 = .ok (.iconst 0, 1) := by decide +kernel
theorem dX12_row_79 : decode cX12_row 79 = .ok (.ireturn, 1) := by decide +kernel
theorem cw_X12_row_412 : CwS mi_X12_row mi_X12_isSlot yX12_isSlot 412 1 := ⟨⟨w_1713, w_1714, w_108, w_1715⟩, ⟨by decide, by decide⟩, by decide +kernel, by decide, by decide⟩
theorem cw_X12_row_110 : CwS mi_X12_row mi_X12_in yX12_in 110 3 := ⟨⟨w_1365, w_1366, w_108, w_1367⟩, ⟨by decide, by decide⟩, by decide +kernel, by decide, by decide⟩
theorem j_X12_row_L52 {l : Launch} {Γ : Am}   : ∀ (f : Nat), ∀ (r0 : Nat) (v1 : Int32) (v4 : Int32) (z : Hp), J l Γ mi_X12_row cvI 0 0 52 [(0, .ref (mB Γ + r0)), (1, .int v1), (4, .int v4)] [] z (m_X12_row_L52  f r0 v1 v4 z) := by
  intro f
  induction f with
  | zero => intro r0 v1 v4 z; exact J.none
  | succ f hL52 =>
    intro r0 v1 v4 z
    rw [m_X12_row_L52]
    refine j_iload (pc := 52) 2 dX12_row_52 rfl ?_
    refine j_bipush (pc := 54) (v := 60) dX12_row_54 (by decide) ?_
    refine j_icmp_ge (pc := 56) 78 dX12_row_56 (by decide) ?_ ?_
    · refine j_iconst (pc := 78) (v := 0) dX12_row_78 (by decide) ?_
      exact j_ireturn (pc := 79) dX12_row_79 rfl rfl
    refine j_aload_n (pc := 59) 0 dX12_row_59 rfl rfl ?_
    refine j_getR (pc := 60) ok_X12 (by decide) rfl w_1276 dX12_row_60 (fun a1 => ?_)
    refine j_bipush (pc := 63) (v := 60) dX12_row_63 (by decide) ?_
    refine j_iload_n (pc := 65) 1 dX12_row_65 rfl rfl ?_
    refine j_imul (pc := 66) dX12_row_66 ?_
    refine j_iload (pc := 67) 2 dX12_row_67 rfl ?_
    refine j_iadd (pc := 69) dX12_row_69 ?_
    refine j_lconst (pc := 70) (v := 0) dX12_row_70 (by decide) ?_
    refine j_lastore (pc := 71) dX12_row_71 (fun z2 => ?_)
    refine j_iinc (pc := 72) (n0 := 2) (v0 := v4 + 1) (lv2 := [(4, .int (v4 + 1)), (0, .ref (mB Γ + r0)), (1, .int v1)]) dX12_row_72 rfl rfl (by decide) rfl ?_
    refine j_goto (pc := 75) 52 dX12_row_75 (by decide) ?_
    exact J.sub [1, 2, 0] rfl (hL52 r0 v1 (v4 + 1) z2)
theorem ct_X12_row {l : Launch} {Γ : Am} (r0 : Nat) (v1 : Int32) (v2 : Int32) (v3 : Int32) (z : Hp) : Ct l Γ yX12_row mi_X12_row cvI [.ref (mB Γ + r0), .int v1, .int v2, .int v3] z (m_X12_row r0 v1 v2 v3 z) := by
  refine Ct.ofJ (by decide) ⟨rfl, rfl⟩ (Nat.le_of_ble_eq_true rfl) ?_
  unfold m_X12_row
  show J l Γ mi_X12_row cvI 0 0 0 [(0, .ref (mB Γ + r0)), (1, .int v1), (2, .int v2), (3, .int v3)] [] z _
  refine j_iload_n (pc := 0) 1 dX12_row_0 rfl rfl ?_
  refine j_callS_I (pc := 1) (as := [.int v1]) (mc2 := 0) (ms2 := 0) (ct_X12_isSlot _ _) cw_X12_row_412 dX12_row_1 (Nat.le_of_ble_eq_true rfl) rfl (by decide) (by decide) (fun x4 z3 => ?_)
  refine j_if_eq (pc := 4) 25 dX12_row_4 (by decide) ?_ ?_
  · refine j_bipush (pc := 25) (v := (-2)) dX12_row_25 (by decide) ?_
    exact j_ireturn (pc := 27) dX12_row_27 rfl rfl
  refine j_iload_n (pc := 7) 2 dX12_row_7 rfl rfl ?_
  refine j_i2l (pc := 8) dX12_row_8 ?_
  refine j_lconst (pc := 9) (v := 0) dX12_row_9 (by decide) ?_
  refine j_ldc2 (pc := 10) (v := 3) dX12_row_10 w_1433 ?_
  refine j_callS_I (pc := 13) (as := [.long (Int32.toInt64 v2), .long 0, .long 3]) (mc2 := 0) (ms2 := 0) (ct_X12_in _ _ _ _) cw_X12_row_110 dX12_row_13 (Nat.le_of_ble_eq_true rfl) rfl (by decide) (by decide) (fun x6 z5 => ?_)
  refine j_if_eq (pc := 16) 25 dX12_row_16 (by decide) ?_ ?_
  · refine j_bipush (pc := 25) (v := (-2)) dX12_row_25 (by decide) ?_
    exact j_ireturn (pc := 27) dX12_row_27 rfl rfl
  refine j_iload_n (pc := 19) 3 dX12_row_19 rfl rfl ?_
  refine j_bipush (pc := 20) (v := 60) dX12_row_20 (by decide) ?_
  refine j_icmp_le (pc := 22) 28 dX12_row_22 (by decide) ?_ ?_
  · refine j_iload_n (pc := 28) 3 dX12_row_28 rfl rfl ?_
    refine j_if_ge (pc := 29) 35 dX12_row_29 (by decide) ?_ ?_
    · refine j_aload_n (pc := 35) 0 dX12_row_35 rfl rfl ?_
      refine j_getR (pc := 36) ok_X12 (by decide) rfl w_1274 dX12_row_36 (fun a7 => ?_)
      refine j_iload_n (pc := 39) 1 dX12_row_39 rfl rfl ?_
      refine j_iload_n (pc := 40) 3 dX12_row_40 rfl rfl ?_
      refine j_iastore (pc := 41) dX12_row_41 (fun z8 => ?_)
      refine j_aload_n (pc := 42) 0 dX12_row_42 rfl rfl ?_
      refine j_getR (pc := 43) ok_X12 (by decide) rfl w_1275 dX12_row_43 (fun a9 => ?_)
      refine j_iload_n (pc := 46) 1 dX12_row_46 rfl rfl ?_
      refine j_iload_n (pc := 47) 2 dX12_row_47 rfl rfl ?_
      refine j_iastore (pc := 48) dX12_row_48 (fun z10 => ?_)
      refine j_iconst (pc := 49) (v := 0) dX12_row_49 (by decide) ?_
      refine j_istore (pc := 50) (lv2 := [(4, .int 0), (0, .ref (mB Γ + r0)), (1, .int v1), (2, .int v2), (3, .int v3)]) dX12_row_50 (by decide) rfl ?_
      exact J.sub [1, 2, 0] rfl ((j_X12_row_L52 FU) r0 v1 0 z10)
    refine j_bipush (pc := 32) (v := (-3)) dX12_row_32 (by decide) ?_
    exact j_ireturn (pc := 34) dX12_row_34 rfl rfl
  refine j_bipush (pc := 25) (v := (-2)) dX12_row_25 (by decide) ?_
  exact j_ireturn (pc := 27) dX12_row_27 rfl rfl
theorem dX12_write_0 : decode cX12_write 0 = .ok (.iload_n 1, 1) := by decide +kernel
theorem dX12_write_1 : decode cX12_write 1 = .ok (.invokestatic 412, 3) := by decide +kernel
theorem dX12_write_4 : decode cX12_write 4 = .ok (.ifCond .ne 6, 3) := by decide +kernel
theorem dX12_write_7 : decode cX12_write 7 = .ok (.bipush (-2), 2) := by decide +kernel
theorem dX12_write_9 : decode cX12_write 9 = .ok (.ireturn, 1) := by decide +kernel
theorem dX12_write_10 : decode cX12_write 10 = .ok (.aload_n 0, 1) := by decide +kernel
theorem dX12_write_11 : decode cX12_write 11 = .ok (.getfield 73, 3) := by decide +kernel
theorem dX12_write_14 : decode cX12_write 14 = .ok (.iload_n 1, 1) := by decide +kernel
theorem dX12_write_15 : decode cX12_write 15 = .ok (.iaload, 1) := by decide +kernel
theorem dX12_write_16 : decode cX12_write 16 = .ok (.iconst (-1), 1) := by decide +kernel
theorem dX12_write_17 : decode cX12_write 17 = .ok (.if_icmp .ne 6, 3) := by decide +kernel
theorem dX12_write_20 : decode cX12_write 20 = .ok (.bipush (-6), 2) := by decide +kernel
theorem dX12_write_22 : decode cX12_write 22 = .ok (.ireturn, 1) := by decide +kernel
theorem dX12_write_23 : decode cX12_write 23 = .ok (.iload_n 2, 1) := by decide +kernel
theorem dX12_write_24 : decode cX12_write 24 = .ok (.i2l, 1) := by decide +kernel
theorem dX12_write_25 : decode cX12_write 25 = .ok (.lconst 0, 1) := by decide +kernel
theorem dX12_write_26 : decode cX12_write 26 = .ok (.aload_n 0, 1) := by decide +kernel
theorem dX12_write_27 : decode cX12_write 27 = .ok (.getfield 73, 3) := by decide +kernel
theorem dX12_write_30 : decode cX12_write 30 = .ok (.iload_n 1, 1) := by decide +kernel
theorem dX12_write_31 : decode cX12_write 31 = .ok (.iaload, 1) := by decide +kernel
theorem dX12_write_32 : decode cX12_write 32 = .ok (.iconst 1, 1) := by decide +kernel
theorem dX12_write_33 : decode cX12_write 33 = .ok (.isub, 1) := by decide +kernel
theorem dX12_write_34 : decode cX12_write 34 = .ok (.i2l, 1) := by decide +kernel
theorem dX12_write_35 : decode cX12_write 35 = .ok (.invokestatic 110, 3) := by decide +kernel
theorem dX12_write_38 : decode cX12_write 38 = .ok (.ifCond .ne 6, 3) := by decide +kernel
theorem dX12_write_41 : decode cX12_write 41 = .ok (.bipush (-7), 2) := by decide +kernel
theorem dX12_write_43 : decode cX12_write 43 = .ok (.ireturn, 1) := by decide +kernel
theorem dX12_write_44 : decode cX12_write 44 = .ok (.aload_n 0, 1) := by decide +kernel
theorem dX12_write_45 : decode cX12_write 45 = .ok (.getfield 79, 3) := by decide +kernel
theorem dX12_write_48 : decode cX12_write 48 = .ok (.bipush 60, 2) := by decide +kernel
theorem dX12_write_50 : decode cX12_write 50 = .ok (.iload_n 1, 1) := by decide +kernel
theorem dX12_write_51 : decode cX12_write 51 = .ok (.imul, 1) := by decide +kernel
theorem dX12_write_52 : decode cX12_write 52 = .ok (.iload_n 2, 1) := by decide +kernel
theorem dX12_write_53 : decode cX12_write 53 = .ok (.iadd, 1) := by decide +kernel
theorem dX12_write_54 : decode cX12_write 54 = .ok (.lload_n 3, 1) := by decide +kernel
theorem dX12_write_55 : decode cX12_write 55 = .ok (.aload_n 0, 1) := by decide +kernel
theorem dX12_write_56 : decode cX12_write 56 = .ok (.getfield 76, 3) := by decide +kernel
theorem dX12_write_59 : decode cX12_write 59 = .ok (.iload_n 1, 1) := by decide +kernel
theorem dX12_write_60 : decode cX12_write 60 = .ok (.iaload, 1) := by decide +kernel
theorem dX12_write_61 : decode cX12_write 61 = .ok (.invokestatic 441, 3) := by decide +kernel
theorem dX12_write_64 : decode cX12_write 64 = .ok (.lastore, 1) := by decide +kernel
theorem dX12_write_65 : decode cX12_write 65 = .ok (.iconst 0, 1) := by decide +kernel
theorem dX12_write_66 : decode cX12_write 66 = .ok (.ireturn, 1) := by decide +kernel
theorem cw_X12_write_412 : CwS mi_X12_write mi_X12_isSlot yX12_isSlot 412 1 := ⟨⟨w_1713, w_1714, w_108, w_1715⟩, ⟨by decide, by decide⟩, by decide +kernel, by decide, by decide⟩
theorem cw_X12_write_110 : CwS mi_X12_write mi_X12_in yX12_in 110 3 := ⟨⟨w_1365, w_1366, w_108, w_1367⟩, ⟨by decide, by decide⟩, by decide +kernel, by decide, by decide⟩
theorem cw_X12_write_441 : CwS mi_X12_write mi_X12_cut yX12_cut 441 2 := ⟨⟨w_1768, w_1769, w_108, w_1770⟩, ⟨by decide, by decide⟩, by decide +kernel, by decide, by decide⟩
theorem ct_X12_write {l : Launch} {Γ : Am} (r0 : Nat) (v1 : Int32) (v2 : Int32) (w3 : Int64) (z : Hp) : Ct l Γ yX12_write mi_X12_write cvI [.ref (mB Γ + r0), .int v1, .int v2, .long w3] z (m_X12_write r0 v1 v2 w3 z) := by
  refine Ct.ofJ (by decide) ⟨rfl, rfl⟩ (Nat.le_of_ble_eq_true rfl) ?_
  unfold m_X12_write
  show J l Γ mi_X12_write cvI 0 0 0 [(0, .ref (mB Γ + r0)), (1, .int v1), (2, .int v2), (3, .long w3)] [] z _
  refine j_iload_n (pc := 0) 1 dX12_write_0 rfl rfl ?_
  refine j_callS_I (pc := 1) (as := [.int v1]) (mc2 := 0) (ms2 := 0) (ct_X12_isSlot _ _) cw_X12_write_412 dX12_write_1 (Nat.le_of_ble_eq_true rfl) rfl (by decide) (by decide) (fun x2 z1 => ?_)
  refine j_if_ne (pc := 4) 10 dX12_write_4 (by decide) ?_ ?_
  · refine j_aload_n (pc := 10) 0 dX12_write_10 rfl rfl ?_
    refine j_getR (pc := 11) ok_X12 (by decide) rfl w_1274 dX12_write_11 (fun a3 => ?_)
    refine j_iload_n (pc := 14) 1 dX12_write_14 rfl rfl ?_
    refine j_iaload (pc := 15) dX12_write_15 (fun x4 => ?_)
    refine j_iconst (pc := 16) (v := (-1)) dX12_write_16 (by decide) ?_
    refine j_icmp_ne (pc := 17) 23 dX12_write_17 (by decide) ?_ ?_
    · refine j_iload_n (pc := 23) 2 dX12_write_23 rfl rfl ?_
      refine j_i2l (pc := 24) dX12_write_24 ?_
      refine j_lconst (pc := 25) (v := 0) dX12_write_25 (by decide) ?_
      refine j_aload_n (pc := 26) 0 dX12_write_26 rfl rfl ?_
      refine j_getR (pc := 27) ok_X12 (by decide) rfl w_1274 dX12_write_27 (fun a5 => ?_)
      refine j_iload_n (pc := 30) 1 dX12_write_30 rfl rfl ?_
      refine j_iaload (pc := 31) dX12_write_31 (fun x6 => ?_)
      refine j_iconst (pc := 32) (v := 1) dX12_write_32 (by decide) ?_
      refine j_isub (pc := 33) dX12_write_33 ?_
      refine j_i2l (pc := 34) dX12_write_34 ?_
      refine j_callS_I (pc := 35) (as := [.long (Int32.toInt64 v2), .long 0, .long (Int32.toInt64 (x6 - 1))]) (mc2 := 0) (ms2 := 0) (ct_X12_in _ _ _ _) cw_X12_write_110 dX12_write_35 (Nat.le_of_ble_eq_true rfl) rfl (by decide) (by decide) (fun x8 z7 => ?_)
      refine j_if_ne (pc := 38) 44 dX12_write_38 (by decide) ?_ ?_
      · refine j_aload_n (pc := 44) 0 dX12_write_44 rfl rfl ?_
        refine j_getR (pc := 45) ok_X12 (by decide) rfl w_1276 dX12_write_45 (fun a9 => ?_)
        refine j_bipush (pc := 48) (v := 60) dX12_write_48 (by decide) ?_
        refine j_iload_n (pc := 50) 1 dX12_write_50 rfl rfl ?_
        refine j_imul (pc := 51) dX12_write_51 ?_
        refine j_iload_n (pc := 52) 2 dX12_write_52 rfl rfl ?_
        refine j_iadd (pc := 53) dX12_write_53 ?_
        refine j_lload_n (pc := 54) 3 dX12_write_54 rfl rfl ?_
        refine j_aload_n (pc := 55) 0 dX12_write_55 rfl rfl ?_
        refine j_getR (pc := 56) ok_X12 (by decide) rfl w_1275 dX12_write_56 (fun a10 => ?_)
        refine j_iload_n (pc := 59) 1 dX12_write_59 rfl rfl ?_
        refine j_iaload (pc := 60) dX12_write_60 (fun x11 => ?_)
        refine j_callS_L (pc := 61) (as := [.long w3, .int x11]) (mc2 := 0) (ms2 := 0) (ct_X12_cut _ _ _) cw_X12_write_441 dX12_write_61 (Nat.le_of_ble_eq_true rfl) rfl (by decide) (by decide) (fun x13 z12 => ?_)
        refine j_lastore (pc := 64) dX12_write_64 (fun z14 => ?_)
        refine j_iconst (pc := 65) (v := 0) dX12_write_65 (by decide) ?_
        exact j_ireturn (pc := 66) dX12_write_66 rfl rfl
      refine j_bipush (pc := 41) (v := (-7)) dX12_write_41 (by decide) ?_
      exact j_ireturn (pc := 43) dX12_write_43 rfl rfl
    refine j_bipush (pc := 20) (v := (-6)) dX12_write_20 (by decide) ?_
    exact j_ireturn (pc := 22) dX12_write_22 rfl rfl
  refine j_bipush (pc := 7) (v := (-2)) dX12_write_7 (by decide) ?_
  exact j_ireturn (pc := 9) dX12_write_9 rfl rfl
theorem dX12_paste_0 : decode cX12_paste 0 = .ok (.iload_n 1, 1) := by decide +kernel
theorem dX12_paste_1 : decode cX12_paste 1 = .ok (.invokestatic 412, 3) := by decide +kernel
theorem dX12_paste_4 : decode cX12_paste 4 = .ok (.ifCond .eq 10, 3) := by decide +kernel
theorem dX12_paste_7 : decode cX12_paste 7 = .ok (.iload_n 3, 1) := by decide +kernel
theorem dX12_paste_8 : decode cX12_paste 8 = .ok (.invokestatic 412, 3) := by decide +kernel
theorem dX12_paste_11 : decode cX12_paste 11 = .ok (.ifCond .ne 6, 3) := by decide +kernel
theorem dX12_paste_14 : decode cX12_paste 14 = .ok (.bipush (-2), 2) := by decide +kernel
theorem dX12_paste_16 : decode cX12_paste 16 = .ok (.ireturn, 1) := by decide +kernel
theorem dX12_paste_17 : decode cX12_paste 17 = .ok (.aload_n 0, 1) := by decide +kernel
theorem dX12_paste_18 : decode cX12_paste 18 = .ok (.getfield 73, 3) := by decide +kernel
theorem dX12_paste_21 : decode cX12_paste 21 = .ok (.iload_n 1, 1) := by decide +kernel
theorem dX12_paste_22 : decode cX12_paste 22 = .ok (.iaload, 1) := by decide +kernel
theorem dX12_paste_23 : decode cX12_paste 23 = .ok (.iconst (-1), 1) := by decide +kernel
theorem dX12_paste_24 : decode cX12_paste 24 = .ok (.if_icmp .eq 13, 3) := by decide +kernel
theorem dX12_paste_27 : decode cX12_paste 27 = .ok (.aload_n 0, 1) := by decide +kernel
theorem dX12_paste_28 : decode cX12_paste 28 = .ok (.getfield 73, 3) := by decide +kernel
theorem dX12_paste_31 : decode cX12_paste 31 = .ok (.iload_n 3, 1) := by decide +kernel
theorem dX12_paste_32 : decode cX12_paste 32 = .ok (.iaload, 1) := by decide +kernel
theorem dX12_paste_33 : decode cX12_paste 33 = .ok (.iconst (-1), 1) := by decide +kernel
theorem dX12_paste_34 : decode cX12_paste 34 = .ok (.if_icmp .ne 6, 3) := by decide +kernel
theorem dX12_paste_37 : decode cX12_paste 37 = .ok (.bipush (-6), 2) := by decide +kernel
theorem dX12_paste_39 : decode cX12_paste 39 = .ok (.ireturn, 1) := by decide +kernel
theorem dX12_paste_40 : decode cX12_paste 40 = .ok (.aload_n 0, 1) := by decide +kernel
theorem dX12_paste_41 : decode cX12_paste 41 = .ok (.getfield 76, 3) := by decide +kernel
theorem dX12_paste_44 : decode cX12_paste 44 = .ok (.iload_n 1, 1) := by decide +kernel
theorem dX12_paste_45 : decode cX12_paste 45 = .ok (.iaload, 1) := by decide +kernel
theorem dX12_paste_46 : decode cX12_paste 46 = .ok (.aload_n 0, 1) := by decide +kernel
theorem dX12_paste_47 : decode cX12_paste 47 = .ok (.getfield 76, 3) := by decide +kernel
theorem dX12_paste_50 : decode cX12_paste 50 = .ok (.iload_n 3, 1) := by decide +kernel
theorem dX12_paste_51 : decode cX12_paste 51 = .ok (.iaload, 1) := by decide +kernel
theorem dX12_paste_52 : decode cX12_paste 52 = .ok (.if_icmp .eq 6, 3) := by decide +kernel
theorem dX12_paste_55 : decode cX12_paste 55 = .ok (.bipush (-8), 2) := by decide +kernel
theorem dX12_paste_57 : decode cX12_paste 57 = .ok (.ireturn, 1) := by decide +kernel
theorem dX12_paste_58 : decode cX12_paste 58 = .ok (.iload_n 2, 1) := by decide +kernel
theorem dX12_paste_59 : decode cX12_paste 59 = .ok (.ifCond .lt 48, 3) := by decide +kernel
theorem dX12_paste_62 : decode cX12_paste 62 = .ok (.iload 4, 2) := by decide +kernel
theorem dX12_paste_64 : decode cX12_paste 64 = .ok (.ifCond .lt 43, 3) := by decide +kernel
theorem dX12_paste_67 : decode cX12_paste 67 = .ok (.iload 5, 2) := by decide +kernel
theorem dX12_paste_69 : decode cX12_paste 69 = .ok (.ifCond .lt 38, 3) := by decide +kernel
theorem dX12_paste_72 : decode cX12_paste 72 = .ok (.iload_n 2, 1) := by decide +kernel
theorem dX12_paste_73 : decode cX12_paste 73 = .ok (.i2l, 1) := by decide +kernel
theorem dX12_paste_74 : decode cX12_paste 74 = .ok (.iload 5, 2) := by decide +kernel
theorem dX12_paste_76 : decode cX12_paste 76 = .ok (.i2l, 1) := by decide +kernel
theorem dX12_paste_77 : decode cX12_paste 77 = .ok (.ladd, 1) := by decide +kernel
theorem dX12_paste_78 : decode cX12_paste 78 = .ok (.aload_n 0, 1) := by decide +kernel
theorem dX12_paste_79 : decode cX12_paste 79 = .ok (.getfield 73, 3) := by decide +kernel
theorem dX12_paste_82 : decode cX12_paste 82 = .ok (.iload_n 1, 1) := by decide +kernel
theorem dX12_paste_83 : decode cX12_paste 83 = .ok (.iaload, 1) := by decide +kernel
theorem dX12_paste_84 : decode cX12_paste 84 = .ok (.i2l, 1) := by decide +kernel
theorem dX12_paste_85 : decode cX12_paste 85 = .ok (.lcmp, 1) := by decide +kernel
theorem dX12_paste_86 : decode cX12_paste 86 = .ok (.ifCond .gt 21, 3) := by decide +kernel
theorem dX12_paste_89 : decode cX12_paste 89 = .ok (.iload 4, 2) := by decide +kernel
theorem dX12_paste_91 : decode cX12_paste 91 = .ok (.i2l, 1) := by decide +kernel
theorem dX12_paste_92 : decode cX12_paste 92 = .ok (.iload 5, 2) := by decide +kernel
theorem dX12_paste_94 : decode cX12_paste 94 = .ok (.i2l, 1) := by decide +kernel
theorem dX12_paste_95 : decode cX12_paste 95 = .ok (.ladd, 1) := by decide +kernel
theorem dX12_paste_96 : decode cX12_paste 96 = .ok (.aload_n 0, 1) := by decide +kernel
theorem dX12_paste_97 : decode cX12_paste 97 = .ok (.getfield 73, 3) := by decide +kernel
theorem dX12_paste_100 : decode cX12_paste 100 = .ok (.iload_n 3, 1) := by decide +kernel
theorem dX12_paste_101 : decode cX12_paste 101 = .ok (.iaload, 1) := by decide +kernel
theorem dX12_paste_102 : decode cX12_paste 102 = .ok (.i2l, 1) := by decide +kernel
theorem dX12_paste_103 : decode cX12_paste 103 = .ok (.lcmp, 1) := by decide +kernel
theorem dX12_paste_104 : decode cX12_paste 104 = .ok (.ifCond .le 6, 3) := by decide +kernel
theorem dX12_paste_107 : decode cX12_paste 107 = .ok (.bipush (-7), 2) := by decide +kernel
theorem dX12_paste_109 : decode cX12_paste 109 = .ok (.ireturn, 1) := by decide +kernel
theorem dX12_paste_110 : decode cX12_paste 110 = .ok (.iconst 0, 1) := by decide +kernel
theorem dX12_paste_111 : decode cX12_paste 111 = .ok (.istore 6, 2) := by decide +kernel
theorem dX12_paste_113 : decode cX12_paste 113 = .ok (.iload 6, 2) := by decide +kernel
theorem dX12_paste_115 : decode cX12_paste 115 = .ok (.iload 5, 2) := by decide +kernel
theorem dX12_paste_117 : decode cX12_paste 117 = .ok (.if_icmp .ge 30, 3) := by decide +kernel
theorem dX12_paste_120 : decode cX12_paste 120 = .ok (.aload_n 0, 1) := by decide +kernel
theorem dX12_paste_121 : decode cX12_paste 121 = .ok (.getfield 83, 3) := by decide +kernel
theorem dX12_paste_124 : decode cX12_paste 124 = .ok (.iload 6, 2) := by decide +kernel
theorem dX12_paste_126 : decode cX12_paste 126 = .ok (.aload_n 0, 1) := by decide +kernel
theorem dX12_paste_127 : decode cX12_paste 127 = .ok (.getfield 79, 3) := by decide +kernel
theorem dX12_paste_130 : decode cX12_paste 130 = .ok (.bipush 60, 2) := by decide +kernel
theorem dX12_paste_132 : decode cX12_paste 132 = .ok (.iload_n 1, 1) := by decide +kernel
theorem dX12_paste_133 : decode cX12_paste 133 = .ok (.imul, 1) := by decide +kernel
theorem dX12_paste_134 : decode cX12_paste 134 = .ok (.iload_n 2, 1) := by decide +kernel
theorem dX12_paste_135 : decode cX12_paste 135 = .ok (.iadd, 1) := by decide +kernel
theorem dX12_paste_136 : decode cX12_paste 136 = .ok (.iload 6, 2) := by decide +kernel
theorem dX12_paste_138 : decode cX12_paste 138 = .ok (.iadd, 1) := by decide +kernel
theorem dX12_paste_139 : decode cX12_paste 139 = .ok (.laload, 1) := by decide +kernel
theorem dX12_paste_140 : decode cX12_paste 140 = .ok (.lastore, 1) := by decide +kernel
theorem dX12_paste_141 : decode cX12_paste 141 = .ok (.iinc 6 1, 3) := by decide +kernel
theorem dX12_paste_144 : decode cX12_paste 144 = .ok (.goto (-31), 3) := by decide +kernel
theorem dX12_paste_147 : decode cX12_paste 147 = .ok (.iconst 0, 1) := by decide +kernel
theorem dX12_paste_148 : decode cX12_paste 148 = .ok (.istore 6, 2) := by decide +kernel
theorem dX12_paste_150 : decode cX12_paste 150 = .ok (.iload 6, 2) := by decide +kernel
theorem dX12_paste_152 : decode cX12_paste 152 = .ok (.iload 5, 2) := by decide +kernel
theorem dX12_paste_154 : decode cX12_paste 154 = .ok (.if_icmp .ge 31, 3) := by decide +kernel
theorem dX12_paste_157 : decode cX12_paste 157 = .ok (.aload_n 0, 1) := by decide +kernel
theorem dX12_paste_158 : decode cX12_paste 158 = .ok (.getfield 79, 3) := by decide +kernel
theorem dX12_paste_161 : decode cX12_paste 161 = .ok (.bipush 60, 2) := by decide +kernel
theorem dX12_paste_163 : decode cX12_paste 163 = .ok (.iload_n 3, 1) := by decide +kernel
theorem dX12_paste_164 : decode cX12_paste 164 = .ok (.imul, 1) := by decide +kernel
theorem dX12_paste_165 : decode cX12_paste 165 = .ok (.iload 4, 2) := by decide +kernel
theorem dX12_paste_167 : decode cX12_paste 167 = .ok (.iadd, 1) := by decide +kernel
theorem dX12_paste_168 : decode cX12_paste 168 = .ok (.iload 6, 2) := by decide +kernel
theorem dX12_paste_170 : decode cX12_paste 170 = .ok (.iadd, 1) := by decide +kernel
theorem dX12_paste_171 : decode cX12_paste 171 = .ok (.aload_n 0, 1) := by decide +kernel
theorem dX12_paste_172 : decode cX12_paste 172 = .ok (.getfield 83, 3) := by decide +kernel
theorem dX12_paste_175 : decode cX12_paste 175 = .ok (.iload 6, 2) := by decide +kernel
theorem dX12_paste_177 : decode cX12_paste 177 = .ok (.laload, 1) := by decide +kernel
theorem dX12_paste_178 : decode cX12_paste 178 = .ok (.lastore, 1) := by decide +kernel
theorem dX12_paste_179 : decode cX12_paste 179 = .ok (.iinc 6 1, 3) := by decide +kernel
theorem dX12_paste_182 : decode cX12_paste 182 = .ok (.goto (-32), 3) := by decide +kernel
theorem dX12_paste_185 : decode cX12_paste 185 = .ok (.iconst 0, 1) := by decide +kernel
theorem dX12_paste_186 : decode cX12_paste 186 = .ok (.ireturn, 1) := by decide +kernel
theorem cw_X12_paste_412 : CwS mi_X12_paste mi_X12_isSlot yX12_isSlot 412 1 := ⟨⟨w_1713, w_1714, w_108, w_1715⟩, ⟨by decide, by decide⟩, by decide +kernel, by decide, by decide⟩
theorem j_X12_paste_L150 {l : Launch} {Γ : Am}   : ∀ (f : Nat), ∀ (r0 : Nat) (v3 : Int32) (v4 : Int32) (v5 : Int32) (v6 : Int32) (z : Hp), J l Γ mi_X12_paste cvI 0 0 150 [(0, .ref (mB Γ + r0)), (3, .int v3), (4, .int v4), (5, .int v5), (6, .int v6)] [] z (m_X12_paste_L150  f r0 v3 v4 v5 v6 z) := by
  intro f
  induction f with
  | zero => intro r0 v3 v4 v5 v6 z; exact J.none
  | succ f hL150 =>
    intro r0 v3 v4 v5 v6 z
    rw [m_X12_paste_L150]
    refine j_iload (pc := 150) 4 dX12_paste_150 rfl ?_
    refine j_iload (pc := 152) 3 dX12_paste_152 rfl ?_
    refine j_icmp_ge (pc := 154) 185 dX12_paste_154 (by decide) ?_ ?_
    · refine j_iconst (pc := 185) (v := 0) dX12_paste_185 (by decide) ?_
      exact j_ireturn (pc := 186) dX12_paste_186 rfl rfl
    refine j_aload_n (pc := 157) 0 dX12_paste_157 rfl rfl ?_
    refine j_getR (pc := 158) ok_X12 (by decide) rfl w_1276 dX12_paste_158 (fun a1 => ?_)
    refine j_bipush (pc := 161) (v := 60) dX12_paste_161 (by decide) ?_
    refine j_iload_n (pc := 163) 1 dX12_paste_163 rfl rfl ?_
    refine j_imul (pc := 164) dX12_paste_164 ?_
    refine j_iload (pc := 165) 2 dX12_paste_165 rfl ?_
    refine j_iadd (pc := 167) dX12_paste_167 ?_
    refine j_iload (pc := 168) 4 dX12_paste_168 rfl ?_
    refine j_iadd (pc := 170) dX12_paste_170 ?_
    refine j_aload_n (pc := 171) 0 dX12_paste_171 rfl rfl ?_
    refine j_getR (pc := 172) ok_X12 (by decide) rfl w_1277 dX12_paste_172 (fun a2 => ?_)
    refine j_iload (pc := 175) 4 dX12_paste_175 rfl ?_
    refine j_laload (pc := 177) dX12_paste_177 (fun x3 => ?_)
    refine j_lastore (pc := 178) dX12_paste_178 (fun z4 => ?_)
    refine j_iinc (pc := 179) (n0 := 4) (v0 := v6 + 1) (lv2 := [(6, .int (v6 + 1)), (0, .ref (mB Γ + r0)), (3, .int v3), (4, .int v4), (5, .int v5)]) dX12_paste_179 rfl rfl (by decide) rfl ?_
    refine j_goto (pc := 182) 150 dX12_paste_182 (by decide) ?_
    exact J.sub [1, 2, 3, 4, 0] rfl (hL150 r0 v3 v4 v5 (v6 + 1) z4)
theorem j_X12_paste_B147 {l : Launch} {Γ : Am}   : ∀ (r0 : Nat) (v3 : Int32) (v4 : Int32) (v5 : Int32) (z : Hp), J l Γ mi_X12_paste cvI 0 0 147 [(0, .ref (mB Γ + r0)), (3, .int v3), (4, .int v4), (5, .int v5)] [] z (m_X12_paste_B147  r0 v3 v4 v5 z) := by
  intro r0 v3 v4 v5 z
  unfold m_X12_paste_B147
  refine j_iconst (pc := 147) (v := 0) dX12_paste_147 (by decide) ?_
  refine j_istore (pc := 148) (lv2 := [(6, .int 0), (0, .ref (mB Γ + r0)), (3, .int v3), (4, .int v4), (5, .int v5)]) dX12_paste_148 (by decide) rfl ?_
  exact J.sub [1, 2, 3, 4, 0] rfl ((j_X12_paste_L150 FU) r0 v3 v4 v5 0 z)
theorem j_X12_paste_L113 {l : Launch} {Γ : Am} {k147 : Nat → Int32 → Int32 → Int32 → Hp → Option (Int32 × Hp)} (hL147 : ∀ (r0 : Nat) (v3 : Int32) (v4 : Int32) (v5 : Int32) (z : Hp), J l Γ mi_X12_paste cvI 0 0 147 [(0, .ref (mB Γ + r0)), (3, .int v3), (4, .int v4), (5, .int v5)] [] z (k147 r0 v3 v4 v5 z)) : ∀ (f : Nat), ∀ (r0 : Nat) (v1 : Int32) (v2 : Int32) (v3 : Int32) (v4 : Int32) (v5 : Int32) (v6 : Int32) (z : Hp), J l Γ mi_X12_paste cvI 0 0 113 [(0, .ref (mB Γ + r0)), (1, .int v1), (2, .int v2), (3, .int v3), (4, .int v4), (5, .int v5), (6, .int v6)] [] z (m_X12_paste_L113 k147 f r0 v1 v2 v3 v4 v5 v6 z) := by
  intro f
  induction f with
  | zero => intro r0 v1 v2 v3 v4 v5 v6 z; exact J.none
  | succ f hL113 =>
    intro r0 v1 v2 v3 v4 v5 v6 z
    rw [m_X12_paste_L113]
    refine j_iload (pc := 113) 6 dX12_paste_113 rfl ?_
    refine j_iload (pc := 115) 5 dX12_paste_115 rfl ?_
    refine j_icmp_ge (pc := 117) 147 dX12_paste_117 (by decide) ?_ ?_
    · exact J.sub [0, 3, 4, 5] rfl (hL147 r0 v3 v4 v5 z)
    refine j_aload_n (pc := 120) 0 dX12_paste_120 rfl rfl ?_
    refine j_getR (pc := 121) ok_X12 (by decide) rfl w_1277 dX12_paste_121 (fun a5 => ?_)
    refine j_iload (pc := 124) 6 dX12_paste_124 rfl ?_
    refine j_aload_n (pc := 126) 0 dX12_paste_126 rfl rfl ?_
    refine j_getR (pc := 127) ok_X12 (by decide) rfl w_1276 dX12_paste_127 (fun a6 => ?_)
    refine j_bipush (pc := 130) (v := 60) dX12_paste_130 (by decide) ?_
    refine j_iload_n (pc := 132) 1 dX12_paste_132 rfl rfl ?_
    refine j_imul (pc := 133) dX12_paste_133 ?_
    refine j_iload_n (pc := 134) 2 dX12_paste_134 rfl rfl ?_
    refine j_iadd (pc := 135) dX12_paste_135 ?_
    refine j_iload (pc := 136) 6 dX12_paste_136 rfl ?_
    refine j_iadd (pc := 138) dX12_paste_138 ?_
    refine j_laload (pc := 139) dX12_paste_139 (fun x7 => ?_)
    refine j_lastore (pc := 140) dX12_paste_140 (fun z8 => ?_)
    refine j_iinc (pc := 141) (n0 := 6) (v0 := v6 + 1) (lv2 := [(6, .int (v6 + 1)), (0, .ref (mB Γ + r0)), (1, .int v1), (2, .int v2), (3, .int v3), (4, .int v4), (5, .int v5)]) dX12_paste_141 rfl rfl (by decide) rfl ?_
    refine j_goto (pc := 144) 113 dX12_paste_144 (by decide) ?_
    exact J.sub [1, 2, 3, 4, 5, 6, 0] rfl (hL113 r0 v1 v2 v3 v4 v5 (v6 + 1) z8)
theorem ct_X12_paste {l : Launch} {Γ : Am} (r0 : Nat) (v1 : Int32) (v2 : Int32) (v3 : Int32) (v4 : Int32) (v5 : Int32) (z : Hp) : Ct l Γ yX12_paste mi_X12_paste cvI [.ref (mB Γ + r0), .int v1, .int v2, .int v3, .int v4, .int v5] z (m_X12_paste r0 v1 v2 v3 v4 v5 z) := by
  refine Ct.ofJ (by decide) ⟨rfl, rfl⟩ (Nat.le_of_ble_eq_true rfl) ?_
  unfold m_X12_paste
  show J l Γ mi_X12_paste cvI 0 0 0 [(0, .ref (mB Γ + r0)), (1, .int v1), (2, .int v2), (3, .int v3), (4, .int v4), (5, .int v5)] [] z _
  refine j_iload_n (pc := 0) 1 dX12_paste_0 rfl rfl ?_
  refine j_callS_I (pc := 1) (as := [.int v1]) (mc2 := 0) (ms2 := 0) (ct_X12_isSlot _ _) cw_X12_paste_412 dX12_paste_1 (Nat.le_of_ble_eq_true rfl) rfl (by decide) (by decide) (fun x10 z9 => ?_)
  refine j_if_eq (pc := 4) 14 dX12_paste_4 (by decide) ?_ ?_
  · refine j_bipush (pc := 14) (v := (-2)) dX12_paste_14 (by decide) ?_
    exact j_ireturn (pc := 16) dX12_paste_16 rfl rfl
  refine j_iload_n (pc := 7) 3 dX12_paste_7 rfl rfl ?_
  refine j_callS_I (pc := 8) (as := [.int v3]) (mc2 := 0) (ms2 := 0) (ct_X12_isSlot _ _) cw_X12_paste_412 dX12_paste_8 (Nat.le_of_ble_eq_true rfl) rfl (by decide) (by decide) (fun x12 z11 => ?_)
  refine j_if_ne (pc := 11) 17 dX12_paste_11 (by decide) ?_ ?_
  · refine j_aload_n (pc := 17) 0 dX12_paste_17 rfl rfl ?_
    refine j_getR (pc := 18) ok_X12 (by decide) rfl w_1274 dX12_paste_18 (fun a13 => ?_)
    refine j_iload_n (pc := 21) 1 dX12_paste_21 rfl rfl ?_
    refine j_iaload (pc := 22) dX12_paste_22 (fun x14 => ?_)
    refine j_iconst (pc := 23) (v := (-1)) dX12_paste_23 (by decide) ?_
    refine j_icmp_eq (pc := 24) 37 dX12_paste_24 (by decide) ?_ ?_
    · refine j_bipush (pc := 37) (v := (-6)) dX12_paste_37 (by decide) ?_
      exact j_ireturn (pc := 39) dX12_paste_39 rfl rfl
    refine j_aload_n (pc := 27) 0 dX12_paste_27 rfl rfl ?_
    refine j_getR (pc := 28) ok_X12 (by decide) rfl w_1274 dX12_paste_28 (fun a15 => ?_)
    refine j_iload_n (pc := 31) 3 dX12_paste_31 rfl rfl ?_
    refine j_iaload (pc := 32) dX12_paste_32 (fun x16 => ?_)
    refine j_iconst (pc := 33) (v := (-1)) dX12_paste_33 (by decide) ?_
    refine j_icmp_ne (pc := 34) 40 dX12_paste_34 (by decide) ?_ ?_
    · refine j_aload_n (pc := 40) 0 dX12_paste_40 rfl rfl ?_
      refine j_getR (pc := 41) ok_X12 (by decide) rfl w_1275 dX12_paste_41 (fun a17 => ?_)
      refine j_iload_n (pc := 44) 1 dX12_paste_44 rfl rfl ?_
      refine j_iaload (pc := 45) dX12_paste_45 (fun x18 => ?_)
      refine j_aload_n (pc := 46) 0 dX12_paste_46 rfl rfl ?_
      refine j_getR (pc := 47) ok_X12 (by decide) rfl w_1275 dX12_paste_47 (fun a19 => ?_)
      refine j_iload_n (pc := 50) 3 dX12_paste_50 rfl rfl ?_
      refine j_iaload (pc := 51) dX12_paste_51 (fun x20 => ?_)
      refine j_icmp_eq (pc := 52) 58 dX12_paste_52 (by decide) ?_ ?_
      · refine j_iload_n (pc := 58) 2 dX12_paste_58 rfl rfl ?_
        refine j_if_lt (pc := 59) 107 dX12_paste_59 (by decide) ?_ ?_
        · refine j_bipush (pc := 107) (v := (-7)) dX12_paste_107 (by decide) ?_
          exact j_ireturn (pc := 109) dX12_paste_109 rfl rfl
        refine j_iload (pc := 62) 4 dX12_paste_62 rfl ?_
        refine j_if_lt (pc := 64) 107 dX12_paste_64 (by decide) ?_ ?_
        · refine j_bipush (pc := 107) (v := (-7)) dX12_paste_107 (by decide) ?_
          exact j_ireturn (pc := 109) dX12_paste_109 rfl rfl
        refine j_iload (pc := 67) 5 dX12_paste_67 rfl ?_
        refine j_if_lt (pc := 69) 107 dX12_paste_69 (by decide) ?_ ?_
        · refine j_bipush (pc := 107) (v := (-7)) dX12_paste_107 (by decide) ?_
          exact j_ireturn (pc := 109) dX12_paste_109 rfl rfl
        refine j_iload_n (pc := 72) 2 dX12_paste_72 rfl rfl ?_
        refine j_i2l (pc := 73) dX12_paste_73 ?_
        refine j_iload (pc := 74) 5 dX12_paste_74 rfl ?_
        refine j_i2l (pc := 76) dX12_paste_76 ?_
        refine j_ladd (pc := 77) dX12_paste_77 ?_
        refine j_aload_n (pc := 78) 0 dX12_paste_78 rfl rfl ?_
        refine j_getR (pc := 79) ok_X12 (by decide) rfl w_1274 dX12_paste_79 (fun a21 => ?_)
        refine j_iload_n (pc := 82) 1 dX12_paste_82 rfl rfl ?_
        refine j_iaload (pc := 83) dX12_paste_83 (fun x22 => ?_)
        refine j_i2l (pc := 84) dX12_paste_84 ?_
        refine j_lcmp (pc := 85) dX12_paste_85 ?_
        refine j_if_gt (pc := 86) 107 dX12_paste_86 (by decide) ?_ ?_
        · refine j_bipush (pc := 107) (v := (-7)) dX12_paste_107 (by decide) ?_
          exact j_ireturn (pc := 109) dX12_paste_109 rfl rfl
        refine j_iload (pc := 89) 4 dX12_paste_89 rfl ?_
        refine j_i2l (pc := 91) dX12_paste_91 ?_
        refine j_iload (pc := 92) 5 dX12_paste_92 rfl ?_
        refine j_i2l (pc := 94) dX12_paste_94 ?_
        refine j_ladd (pc := 95) dX12_paste_95 ?_
        refine j_aload_n (pc := 96) 0 dX12_paste_96 rfl rfl ?_
        refine j_getR (pc := 97) ok_X12 (by decide) rfl w_1274 dX12_paste_97 (fun a23 => ?_)
        refine j_iload_n (pc := 100) 3 dX12_paste_100 rfl rfl ?_
        refine j_iaload (pc := 101) dX12_paste_101 (fun x24 => ?_)
        refine j_i2l (pc := 102) dX12_paste_102 ?_
        refine j_lcmp (pc := 103) dX12_paste_103 ?_
        refine j_if_le (pc := 104) 110 dX12_paste_104 (by decide) ?_ ?_
        · refine j_iconst (pc := 110) (v := 0) dX12_paste_110 (by decide) ?_
          refine j_istore (pc := 111) (lv2 := [(6, .int 0), (0, .ref (mB Γ + r0)), (1, .int v1), (2, .int v2), (3, .int v3), (4, .int v4), (5, .int v5)]) dX12_paste_111 (by decide) rfl ?_
          exact J.sub [1, 2, 3, 4, 5, 6, 0] rfl ((j_X12_paste_L113 j_X12_paste_B147 FU) r0 v1 v2 v3 v4 v5 0 z11)
        refine j_bipush (pc := 107) (v := (-7)) dX12_paste_107 (by decide) ?_
        exact j_ireturn (pc := 109) dX12_paste_109 rfl rfl
      refine j_bipush (pc := 55) (v := (-8)) dX12_paste_55 (by decide) ?_
      exact j_ireturn (pc := 57) dX12_paste_57 rfl rfl
    refine j_bipush (pc := 37) (v := (-6)) dX12_paste_37 (by decide) ?_
    exact j_ireturn (pc := 39) dX12_paste_39 rfl rfl
  refine j_bipush (pc := 14) (v := (-2)) dX12_paste_14 (by decide) ?_
  exact j_ireturn (pc := 16) dX12_paste_16 rfl rfl
