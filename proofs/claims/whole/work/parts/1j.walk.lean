theorem dX12_wordHere_0 : decode cX12_wordHere 0 = .ok (.aload_n 0, 1) := by decide +kernel
theorem dX12_wordHere_1 : decode cX12_wordHere 1 = .ok (.ldc 239, 2) := by decide +kernel
theorem dX12_wordHere_3 : decode cX12_wordHere 3 = .ok (.invokevirtual 174, 3) := by decide +kernel
theorem dX12_wordHere_6 : decode cX12_wordHere 6 = .ok (.ifCond .eq 7, 3) := by decide +kernel
theorem dX12_wordHere_9 : decode cX12_wordHere 9 = .ok (.iconst 0, 1) := by decide +kernel
theorem dX12_wordHere_10 : decode cX12_wordHere 10 = .ok (.goto 56, 3) := by decide +kernel
theorem dX12_wordHere_13 : decode cX12_wordHere 13 = .ok (.aload_n 0, 1) := by decide +kernel
theorem dX12_wordHere_14 : decode cX12_wordHere 14 = .ok (.ldc 241, 2) := by decide +kernel
theorem dX12_wordHere_16 : decode cX12_wordHere 16 = .ok (.invokevirtual 174, 3) := by decide +kernel
theorem dX12_wordHere_19 : decode cX12_wordHere 19 = .ok (.ifCond .eq 7, 3) := by decide +kernel
theorem dX12_wordHere_22 : decode cX12_wordHere 22 = .ok (.iconst 1, 1) := by decide +kernel
theorem dX12_wordHere_23 : decode cX12_wordHere 23 = .ok (.goto 43, 3) := by decide +kernel
theorem dX12_wordHere_26 : decode cX12_wordHere 26 = .ok (.aload_n 0, 1) := by decide +kernel
theorem dX12_wordHere_27 : decode cX12_wordHere 27 = .ok (.ldc 243, 2) := by decide +kernel
theorem dX12_wordHere_29 : decode cX12_wordHere 29 = .ok (.invokevirtual 174, 3) := by decide +kernel
theorem dX12_wordHere_32 : decode cX12_wordHere 32 = .ok (.ifCond .eq 7, 3) := by decide +kernel
theorem dX12_wordHere_35 : decode cX12_wordHere 35 = .ok (.iconst 2, 1) := by decide +kernel
theorem dX12_wordHere_36 : decode cX12_wordHere 36 = .ok (.goto 30, 3) := by decide +kernel
theorem dX12_wordHere_39 : decode cX12_wordHere 39 = .ok (.aload_n 0, 1) := by decide +kernel
theorem dX12_wordHere_40 : decode cX12_wordHere 40 = .ok (.ldc 245, 2) := by decide +kernel
theorem dX12_wordHere_42 : decode cX12_wordHere 42 = .ok (.invokevirtual 174, 3) := by decide +kernel
theorem dX12_wordHere_45 : decode cX12_wordHere 45 = .ok (.ifCond .eq 7, 3) := by decide +kernel
theorem dX12_wordHere_48 : decode cX12_wordHere 48 = .ok (.iconst 3, 1) := by decide +kernel
theorem dX12_wordHere_49 : decode cX12_wordHere 49 = .ok (.goto 17, 3) := by decide +kernel
theorem dX12_wordHere_52 : decode cX12_wordHere 52 = .ok (.aload_n 0, 1) := by decide +kernel
theorem dX12_wordHere_53 : decode cX12_wordHere 53 = .ok (.ldc 247, 2) := by decide +kernel
theorem dX12_wordHere_55 : decode cX12_wordHere 55 = .ok (.invokevirtual 174, 3) := by decide +kernel
theorem dX12_wordHere_58 : decode cX12_wordHere 58 = .ok (.ifCond .eq 7, 3) := by decide +kernel
theorem dX12_wordHere_61 : decode cX12_wordHere 61 = .ok (.iconst 4, 1) := by decide +kernel
theorem dX12_wordHere_62 : decode cX12_wordHere 62 = .ok (.goto 4, 3) := by decide +kernel
theorem dX12_wordHere_65 : decode cX12_wordHere 65 = .ok (.iconst (-1), 1) := by decide +kernel
theorem dX12_wordHere_66 : decode cX12_wordHere 66 = .ok (.ireturn, 1) := by decide +kernel
theorem cw_X12_wordHere_174 : CwV mi_X12_wordHere mi_X12_is yX12_is RX12 174 1 := ⟨⟨w_1407, w_1409, w_48, w_108, w_1410⟩, ⟨by decide, by decide⟩, by decide +kernel, by decide, by decide⟩
theorem ct_X12_wordHere {l : Launch} {Γ : Am} (r0 : Nat) (z : Hp) : Ct l Γ yX12_wordHere mi_X12_wordHere cvI [.ref (mB Γ + r0)] z (m_X12_wordHere r0 z) := by
  refine Ct.ofJ (by decide) ⟨rfl, rfl⟩ (Nat.le_of_ble_eq_true rfl) ?_
  unfold m_X12_wordHere
  show J l Γ mi_X12_wordHere cvI 0 0 0 [(0, .ref (mB Γ + r0))] [] z _
  refine j_aload_n (pc := 0) 0 dX12_wordHere_0 rfl rfl ?_
  refine j_ldcS (pc := 1) (w := 41) (tx := "shut") dX12_wordHere_1 (by decide +kernel) ?_
  refine j_isC (fun h3 => ?_)
  refine j_callV_I (pc := 3) (as := [.ref (mT Γ 41)]) (mc2 := 0) (ms2 := 0) (ct_X12_is _ _ _) h3 rfl cw_X12_wordHere_174 dX12_wordHere_3 (Nat.le_of_ble_eq_true rfl) rfl (by decide) (by decide) (fun x2 z1 => ?_)
  refine j_if_eq (pc := 6) 13 dX12_wordHere_6 (by decide) ?_ ?_
  · refine j_aload_n (pc := 13) 0 dX12_wordHere_13 rfl rfl ?_
    refine j_ldcS (pc := 14) (w := 42) (tx := "thick") dX12_wordHere_14 (by decide +kernel) ?_
    refine j_isC (fun h6 => ?_)
    refine j_callV_I (pc := 16) (as := [.ref (mT Γ 42)]) (mc2 := 0) (ms2 := 0) (ct_X12_is _ _ _) h6 rfl cw_X12_wordHere_174 dX12_wordHere_16 (Nat.le_of_ble_eq_true rfl) rfl (by decide) (by decide) (fun x5 z4 => ?_)
    refine j_if_eq (pc := 19) 26 dX12_wordHere_19 (by decide) ?_ ?_
    · refine j_aload_n (pc := 26) 0 dX12_wordHere_26 rfl rfl ?_
      refine j_ldcS (pc := 27) (w := 43) (tx := "gaps") dX12_wordHere_27 (by decide +kernel) ?_
      refine j_isC (fun h9 => ?_)
      refine j_callV_I (pc := 29) (as := [.ref (mT Γ 43)]) (mc2 := 0) (ms2 := 0) (ct_X12_is _ _ _) h9 rfl cw_X12_wordHere_174 dX12_wordHere_29 (Nat.le_of_ble_eq_true rfl) rfl (by decide) (by decide) (fun x8 z7 => ?_)
      refine j_if_eq (pc := 32) 39 dX12_wordHere_32 (by decide) ?_ ?_
      · refine j_aload_n (pc := 39) 0 dX12_wordHere_39 rfl rfl ?_
        refine j_ldcS (pc := 40) (w := 44) (tx := "tick") dX12_wordHere_40 (by decide +kernel) ?_
        refine j_isC (fun h12 => ?_)
        refine j_callV_I (pc := 42) (as := [.ref (mT Γ 44)]) (mc2 := 0) (ms2 := 0) (ct_X12_is _ _ _) h12 rfl cw_X12_wordHere_174 dX12_wordHere_42 (Nat.le_of_ble_eq_true rfl) rfl (by decide) (by decide) (fun x11 z10 => ?_)
        refine j_if_eq (pc := 45) 52 dX12_wordHere_45 (by decide) ?_ ?_
        · refine j_aload_n (pc := 52) 0 dX12_wordHere_52 rfl rfl ?_
          refine j_ldcS (pc := 53) (w := 45) (tx := "lift") dX12_wordHere_53 (by decide +kernel) ?_
          refine j_isC (fun h15 => ?_)
          refine j_callV_I (pc := 55) (as := [.ref (mT Γ 45)]) (mc2 := 0) (ms2 := 0) (ct_X12_is _ _ _) h15 rfl cw_X12_wordHere_174 dX12_wordHere_55 (Nat.le_of_ble_eq_true rfl) rfl (by decide) (by decide) (fun x14 z13 => ?_)
          refine j_if_eq (pc := 58) 65 dX12_wordHere_58 (by decide) ?_ ?_
          · refine j_iconst (pc := 65) (v := (-1)) dX12_wordHere_65 (by decide) ?_
            exact j_ireturn (pc := 66) dX12_wordHere_66 rfl rfl
          refine j_iconst (pc := 61) (v := 4) dX12_wordHere_61 (by decide) ?_
          refine j_goto (pc := 62) 66 dX12_wordHere_62 (by decide) ?_
          exact j_ireturn (pc := 66) dX12_wordHere_66 rfl rfl
        refine j_iconst (pc := 48) (v := 3) dX12_wordHere_48 (by decide) ?_
        refine j_goto (pc := 49) 66 dX12_wordHere_49 (by decide) ?_
        exact j_ireturn (pc := 66) dX12_wordHere_66 rfl rfl
      refine j_iconst (pc := 35) (v := 2) dX12_wordHere_35 (by decide) ?_
      refine j_goto (pc := 36) 66 dX12_wordHere_36 (by decide) ?_
      exact j_ireturn (pc := 66) dX12_wordHere_66 rfl rfl
    refine j_iconst (pc := 22) (v := 1) dX12_wordHere_22 (by decide) ?_
    refine j_goto (pc := 23) 66 dX12_wordHere_23 (by decide) ?_
    exact j_ireturn (pc := 66) dX12_wordHere_66 rfl rfl
  refine j_iconst (pc := 9) (v := 0) dX12_wordHere_9 (by decide) ?_
  refine j_goto (pc := 10) 66 dX12_wordHere_10 (by decide) ?_
  exact j_ireturn (pc := 66) dX12_wordHere_66 rfl rfl
theorem dX12_readCond_0 : decode cX12_readCond 0 = .ok (.aload_n 0, 1) := by decide +kernel
theorem dX12_readCond_1 : decode cX12_readCond 1 = .ok (.invokevirtual 249, 3) := by decide +kernel
theorem dX12_readCond_4 : decode cX12_readCond 4 = .ok (.istore_n 2, 1) := by decide +kernel
theorem dX12_readCond_5 : decode cX12_readCond 5 = .ok (.iload_n 2, 1) := by decide +kernel
theorem dX12_readCond_6 : decode cX12_readCond 6 = .ok (.iconst (-1), 1) := by decide +kernel
theorem dX12_readCond_7 : decode cX12_readCond 7 = .ok (.if_icmp .ne 11, 3) := by decide +kernel
theorem dX12_readCond_10 : decode cX12_readCond 10 = .ok (.aload_n 0, 1) := by decide +kernel
theorem dX12_readCond_11 : decode cX12_readCond 11 = .ok (.iconst 1, 1) := by decide +kernel
theorem dX12_readCond_12 : decode cX12_readCond 12 = .ok (.invokevirtual 184, 3) := by decide +kernel
theorem dX12_readCond_15 : decode cX12_readCond 15 = .ok (.goto 18, 3) := by decide +kernel
theorem dX12_readCond_18 : decode cX12_readCond 18 = .ok (.aload_n 0, 1) := by decide +kernel
theorem dX12_readCond_19 : decode cX12_readCond 19 = .ok (.getfield 37, 3) := by decide +kernel
theorem dX12_readCond_22 : decode cX12_readCond 22 = .ok (.iload_n 1, 1) := by decide +kernel
theorem dX12_readCond_23 : decode cX12_readCond 23 = .ok (.iaload, 1) := by decide +kernel
theorem dX12_readCond_24 : decode cX12_readCond 24 = .ok (.iconst 3, 1) := by decide +kernel
theorem dX12_readCond_25 : decode cX12_readCond 25 = .ok (.if_icmp .ne 8, 3) := by decide +kernel
theorem dX12_readCond_28 : decode cX12_readCond 28 = .ok (.aload_n 0, 1) := by decide +kernel
theorem dX12_readCond_29 : decode cX12_readCond 29 = .ok (.iconst 3, 1) := by decide +kernel
theorem dX12_readCond_30 : decode cX12_readCond 30 = .ok (.invokevirtual 184, 3) := by decide +kernel
theorem dX12_readCond_33 : decode cX12_readCond 33 = .ok (.aload_n 0, 1) := by decide +kernel
theorem dX12_readCond_34 : decode cX12_readCond 34 = .ok (.invokevirtual 161, 3) := by decide +kernel
theorem dX12_readCond_37 : decode cX12_readCond 37 = .ok (.ifCond .ne 4, 3) := by decide +kernel
theorem dX12_readCond_40 : decode cX12_readCond 40 = .ok (.return_, 1) := by decide +kernel
theorem dX12_readCond_41 : decode cX12_readCond 41 = .ok (.aload_n 0, 1) := by decide +kernel
theorem dX12_readCond_42 : decode cX12_readCond 42 = .ok (.invokevirtual 178, 3) := by decide +kernel
theorem dX12_readCond_45 : decode cX12_readCond 45 = .ok (.iload_n 1, 1) := by decide +kernel
theorem dX12_readCond_46 : decode cX12_readCond 46 = .ok (.iconst 1, 1) := by decide +kernel
theorem dX12_readCond_47 : decode cX12_readCond 47 = .ok (.iadd, 1) := by decide +kernel
theorem dX12_readCond_48 : decode cX12_readCond 48 = .ok (.iconst 3, 1) := by decide +kernel
theorem dX12_readCond_49 : decode cX12_readCond 49 = .ok (.aload_n 0, 1) := by decide +kernel
theorem dX12_readCond_50 : decode cX12_readCond 50 = .ok (.getfield 37, 3) := by decide +kernel
theorem dX12_readCond_53 : decode cX12_readCond 53 = .ok (.iload_n 1, 1) := by decide +kernel
theorem dX12_readCond_54 : decode cX12_readCond 54 = .ok (.iaload, 1) := by decide +kernel
theorem dX12_readCond_55 : decode cX12_readCond 55 = .ok (.imul, 1) := by decide +kernel
theorem dX12_readCond_56 : decode cX12_readCond 56 = .ok (.iadd, 1) := by decide +kernel
theorem dX12_readCond_57 : decode cX12_readCond 57 = .ok (.istore_n 3, 1) := by decide +kernel
theorem dX12_readCond_58 : decode cX12_readCond 58 = .ok (.aload_n 0, 1) := by decide +kernel
theorem dX12_readCond_59 : decode cX12_readCond 59 = .ok (.getfield 37, 3) := by decide +kernel
theorem dX12_readCond_62 : decode cX12_readCond 62 = .ok (.iload_n 3, 1) := by decide +kernel
theorem dX12_readCond_63 : decode cX12_readCond 63 = .ok (.iload_n 2, 1) := by decide +kernel
theorem dX12_readCond_64 : decode cX12_readCond 64 = .ok (.iastore, 1) := by decide +kernel
theorem dX12_readCond_65 : decode cX12_readCond 65 = .ok (.iload_n 2, 1) := by decide +kernel
theorem dX12_readCond_66 : decode cX12_readCond 66 = .ok (.ifCond .le 65, 3) := by decide +kernel
theorem dX12_readCond_69 : decode cX12_readCond 69 = .ok (.aload_n 0, 1) := by decide +kernel
theorem dX12_readCond_70 : decode cX12_readCond 70 = .ok (.bipush 60, 2) := by decide +kernel
theorem dX12_readCond_72 : decode cX12_readCond 72 = .ok (.invokevirtual 195, 3) := by decide +kernel
theorem dX12_readCond_75 : decode cX12_readCond 75 = .ok (.ifCond .ne 17, 3) := by decide +kernel
theorem dX12_readCond_78 : decode cX12_readCond 78 = .ok (.aload_n 0, 1) := by decide +kernel
theorem dX12_readCond_79 : decode cX12_readCond 79 = .ok (.bipush 62, 2) := by decide +kernel
theorem dX12_readCond_81 : decode cX12_readCond 81 = .ok (.invokevirtual 195, 3) := by decide +kernel
theorem dX12_readCond_84 : decode cX12_readCond 84 = .ok (.ifCond .ne 8, 3) := by decide +kernel
theorem dX12_readCond_87 : decode cX12_readCond 87 = .ok (.aload_n 0, 1) := by decide +kernel
theorem dX12_readCond_88 : decode cX12_readCond 88 = .ok (.iconst 1, 1) := by decide +kernel
theorem dX12_readCond_89 : decode cX12_readCond 89 = .ok (.invokevirtual 184, 3) := by decide +kernel
theorem dX12_readCond_92 : decode cX12_readCond 92 = .ok (.aload_n 0, 1) := by decide +kernel
theorem dX12_readCond_93 : decode cX12_readCond 93 = .ok (.invokevirtual 161, 3) := by decide +kernel
theorem dX12_readCond_96 : decode cX12_readCond 96 = .ok (.ifCond .ne 4, 3) := by decide +kernel
theorem dX12_readCond_99 : decode cX12_readCond 99 = .ok (.return_, 1) := by decide +kernel
theorem dX12_readCond_100 : decode cX12_readCond 100 = .ok (.aload_n 0, 1) := by decide +kernel
theorem dX12_readCond_101 : decode cX12_readCond 101 = .ok (.getfield 37, 3) := by decide +kernel
theorem dX12_readCond_104 : decode cX12_readCond 104 = .ok (.iload_n 3, 1) := by decide +kernel
theorem dX12_readCond_105 : decode cX12_readCond 105 = .ok (.iconst 1, 1) := by decide +kernel
theorem dX12_readCond_106 : decode cX12_readCond 106 = .ok (.iadd, 1) := by decide +kernel
theorem dX12_readCond_107 : decode cX12_readCond 107 = .ok (.aload_n 0, 1) := by decide +kernel
theorem dX12_readCond_108 : decode cX12_readCond 108 = .ok (.getfield 149, 3) := by decide +kernel
theorem dX12_readCond_111 : decode cX12_readCond 111 = .ok (.iastore, 1) := by decide +kernel
theorem dX12_readCond_112 : decode cX12_readCond 112 = .ok (.aload_n 0, 1) := by decide +kernel
theorem dX12_readCond_113 : decode cX12_readCond 113 = .ok (.invokevirtual 178, 3) := by decide +kernel
theorem dX12_readCond_116 : decode cX12_readCond 116 = .ok (.aload_n 0, 1) := by decide +kernel
theorem dX12_readCond_117 : decode cX12_readCond 117 = .ok (.getfield 37, 3) := by decide +kernel
theorem dX12_readCond_120 : decode cX12_readCond 120 = .ok (.iload_n 3, 1) := by decide +kernel
theorem dX12_readCond_121 : decode cX12_readCond 121 = .ok (.iconst 2, 1) := by decide +kernel
theorem dX12_readCond_122 : decode cX12_readCond 122 = .ok (.iadd, 1) := by decide +kernel
theorem dX12_readCond_123 : decode cX12_readCond 123 = .ok (.aload_n 0, 1) := by decide +kernel
theorem dX12_readCond_124 : decode cX12_readCond 124 = .ok (.iconst 0, 1) := by decide +kernel
theorem dX12_readCond_125 : decode cX12_readCond 125 = .ok (.ldc 93, 2) := by decide +kernel
theorem dX12_readCond_127 : decode cX12_readCond 127 = .ok (.invokevirtual 192, 3) := by decide +kernel
theorem dX12_readCond_130 : decode cX12_readCond 130 = .ok (.iastore, 1) := by decide +kernel
theorem dX12_readCond_131 : decode cX12_readCond 131 = .ok (.aload_n 0, 1) := by decide +kernel
theorem dX12_readCond_132 : decode cX12_readCond 132 = .ok (.getfield 37, 3) := by decide +kernel
theorem dX12_readCond_135 : decode cX12_readCond 135 = .ok (.iload_n 1, 1) := by decide +kernel
theorem dX12_readCond_136 : decode cX12_readCond 136 = .ok (.dup2, 1) := by decide +kernel
theorem dX12_readCond_137 : decode cX12_readCond 137 = .ok (.iaload, 1) := by decide +kernel
theorem dX12_readCond_138 : decode cX12_readCond 138 = .ok (.iconst 1, 1) := by decide +kernel
theorem dX12_readCond_139 : decode cX12_readCond 139 = .ok (.iadd, 1) := by decide +kernel
theorem dX12_readCond_140 : decode cX12_readCond 140 = .ok (.iastore, 1) := by decide +kernel
theorem dX12_readCond_141 : decode cX12_readCond 141 = .ok (.return_, 1) := by decide +kernel
theorem cw_X12_readCond_161 : CwV mi_X12_readCond mi_X12_good yX12_good RX12 161 0 := ⟨⟨w_1398, w_1400, w_46, w_108, w_1401⟩, ⟨by decide, by decide⟩, by decide +kernel, by decide, by decide⟩
theorem cw_X12_readCond_178 : CwV mi_X12_readCond mi_X12_step yX12_step RX12 178 0 := ⟨⟨w_1384, w_1386, w_44, w_108, w_1387⟩, ⟨by decide, by decide⟩, by decide +kernel, by decide, by decide⟩
theorem cw_X12_readCond_192 : CwV mi_X12_readCond mi_X12_number yX12_number RX12 192 2 := ⟨⟨w_1434, w_1436, w_52, w_108, w_1437⟩, ⟨by decide, by decide⟩, by decide +kernel, by decide, by decide⟩
theorem cw_X12_readCond_195 : CwV mi_X12_readCond mi_X12_isSign yX12_isSign RX12 195 1 := ⟨⟨w_1454, w_1456, w_56, w_108, w_1457⟩, ⟨by decide, by decide⟩, by decide +kernel, by decide, by decide⟩
theorem cw_X12_readCond_184 : CwV mi_X12_readCond mi_X12_wrong yX12_wrong RX12 184 1 := ⟨⟨w_1421, w_1423, w_49, w_108, w_1424⟩, ⟨by decide, by decide⟩, by decide +kernel, by decide, by decide⟩
theorem cw_X12_readCond_249 : CwV mi_X12_readCond mi_X12_wordHere yX12_wordHere RX12 249 0 := ⟨⟨w_1487, w_1489, w_63, w_108, w_1490⟩, ⟨by decide, by decide⟩, by decide +kernel, by decide, by decide⟩
theorem j_X12_readCond_B131 {l : Launch} {Γ : Am}   : ∀ (r0 : Nat) (v1 : Int32) (z : Hp), J l Γ mi_X12_readCond cvV 0 0 131 [(0, .ref (mB Γ + r0)), (1, .int v1)] [] z (m_X12_readCond_B131  r0 v1 z) := by
  intro r0 v1 z
  unfold m_X12_readCond_B131
  refine j_aload_n (pc := 131) 0 dX12_readCond_131 rfl rfl ?_
  refine j_getR (pc := 132) ok_X12 (by decide) rfl w_1253 dX12_readCond_132 (fun a1 => ?_)
  refine j_iload_n (pc := 135) 1 dX12_readCond_135 rfl rfl ?_
  refine j_dup2 (pc := 136) dX12_readCond_136 rfl rfl ?_
  refine j_iaload (pc := 137) dX12_readCond_137 (fun x2 => ?_)
  refine j_iconst (pc := 138) (v := 1) dX12_readCond_138 (by decide) ?_
  refine j_iadd (pc := 139) dX12_readCond_139 ?_
  refine j_iastore (pc := 140) dX12_readCond_140 (fun z3 => ?_)
  exact j_return (pc := 141) dX12_readCond_141 rfl
theorem j_X12_readCond_B92 {l : Launch} {Γ : Am}   : ∀ (r0 : Nat) (v1 : Int32) (v3 : Int32) (z : Hp), J l Γ mi_X12_readCond cvV 0 0 92 [(0, .ref (mB Γ + r0)), (1, .int v1), (3, .int v3)] [] z (m_X12_readCond_B92  r0 v1 v3 z) := by
  intro r0 v1 v3 z
  unfold m_X12_readCond_B92
  refine j_aload_n (pc := 92) 0 dX12_readCond_92 rfl rfl ?_
  refine j_isC (fun h6 => ?_)
  refine j_callV_I (pc := 93) (as := []) (mc2 := 0) (ms2 := 0) (ct_X12_good _ _) h6 rfl cw_X12_readCond_161 dX12_readCond_93 (Nat.le_of_ble_eq_true rfl) rfl (by decide) (by decide) (fun x5 z4 => ?_)
  refine j_if_ne (pc := 96) 100 dX12_readCond_96 (by decide) ?_ ?_
  · refine j_aload_n (pc := 100) 0 dX12_readCond_100 rfl rfl ?_
    refine j_getR (pc := 101) ok_X12 (by decide) rfl w_1253 dX12_readCond_101 (fun a7 => ?_)
    refine j_iload_n (pc := 104) 2 dX12_readCond_104 rfl rfl ?_
    refine j_iconst (pc := 105) (v := 1) dX12_readCond_105 (by decide) ?_
    refine j_iadd (pc := 106) dX12_readCond_106 ?_
    refine j_aload_n (pc := 107) 0 dX12_readCond_107 rfl rfl ?_
    refine j_getI (pc := 108) ok_X12 (by decide) rfl w_1250 dX12_readCond_108 (fun x8 => ?_)
    refine j_iastore (pc := 111) dX12_readCond_111 (fun z9 => ?_)
    refine j_aload_n (pc := 112) 0 dX12_readCond_112 rfl rfl ?_
    refine j_isC (fun h11 => ?_)
    refine j_callV_V (pc := 113) (as := []) (mc2 := 0) (ms2 := 0) (ct_X12_step _ _) h11 rfl cw_X12_readCond_178 dX12_readCond_113 (Nat.le_of_ble_eq_true rfl) rfl (by decide) (by decide) (fun _ z10 => ?_)
    refine j_aload_n (pc := 116) 0 dX12_readCond_116 rfl rfl ?_
    refine j_getR (pc := 117) ok_X12 (by decide) rfl w_1253 dX12_readCond_117 (fun a12 => ?_)
    refine j_iload_n (pc := 120) 2 dX12_readCond_120 rfl rfl ?_
    refine j_iconst (pc := 121) (v := 2) dX12_readCond_121 (by decide) ?_
    refine j_iadd (pc := 122) dX12_readCond_122 ?_
    refine j_aload_n (pc := 123) 0 dX12_readCond_123 rfl rfl ?_
    refine j_iconst (pc := 124) (v := 0) dX12_readCond_124 (by decide) ?_
    refine j_ldc (pc := 125) (v := 99999) dX12_readCond_125 w_1227 ?_
    refine j_isC (fun h15 => ?_)
    refine j_callV_I (pc := 127) (as := [.int 0, .int 99999]) (mc2 := 0) (ms2 := 0) (ct_X12_number _ _ _ _) h15 rfl cw_X12_readCond_192 dX12_readCond_127 (Nat.le_of_ble_eq_true rfl) rfl (by decide) (by decide) (fun x14 z13 => ?_)
    refine j_iastore (pc := 130) dX12_readCond_130 (fun z16 => ?_)
    exact J.sub [0, 1] rfl (j_X12_readCond_B131 r0 v1 z16)
  exact j_return (pc := 99) dX12_readCond_99 rfl
theorem j_X12_readCond_B33 {l : Launch} {Γ : Am}   : ∀ (r0 : Nat) (v1 : Int32) (v2 : Int32) (z : Hp), J l Γ mi_X12_readCond cvV 0 0 33 [(0, .ref (mB Γ + r0)), (1, .int v1), (2, .int v2)] [] z (m_X12_readCond_B33  r0 v1 v2 z) := by
  intro r0 v1 v2 z
  unfold m_X12_readCond_B33
  refine j_aload_n (pc := 33) 0 dX12_readCond_33 rfl rfl ?_
  refine j_isC (fun h19 => ?_)
  refine j_callV_I (pc := 34) (as := []) (mc2 := 0) (ms2 := 0) (ct_X12_good _ _) h19 rfl cw_X12_readCond_161 dX12_readCond_34 (Nat.le_of_ble_eq_true rfl) rfl (by decide) (by decide) (fun x18 z17 => ?_)
  refine j_if_ne (pc := 37) 41 dX12_readCond_37 (by decide) ?_ ?_
  · refine j_aload_n (pc := 41) 0 dX12_readCond_41 rfl rfl ?_
    refine j_isC (fun h21 => ?_)
    refine j_callV_V (pc := 42) (as := []) (mc2 := 0) (ms2 := 0) (ct_X12_step _ _) h21 rfl cw_X12_readCond_178 dX12_readCond_42 (Nat.le_of_ble_eq_true rfl) rfl (by decide) (by decide) (fun _ z20 => ?_)
    refine j_iload_n (pc := 45) 1 dX12_readCond_45 rfl rfl ?_
    refine j_iconst (pc := 46) (v := 1) dX12_readCond_46 (by decide) ?_
    refine j_iadd (pc := 47) dX12_readCond_47 ?_
    refine j_iconst (pc := 48) (v := 3) dX12_readCond_48 (by decide) ?_
    refine j_aload_n (pc := 49) 0 dX12_readCond_49 rfl rfl ?_
    refine j_getR (pc := 50) ok_X12 (by decide) rfl w_1253 dX12_readCond_50 (fun a22 => ?_)
    refine j_iload_n (pc := 53) 1 dX12_readCond_53 rfl rfl ?_
    refine j_iaload (pc := 54) dX12_readCond_54 (fun x23 => ?_)
    refine j_imul (pc := 55) dX12_readCond_55 ?_
    refine j_iadd (pc := 56) dX12_readCond_56 ?_
    refine j_istore_n (pc := 57) (lv2 := [(3, .int ((v1 + 1) + (3 * x23))), (0, .ref (mB Γ + r0)), (1, .int v1), (2, .int v2)]) dX12_readCond_57 rfl (by decide) rfl ?_
    refine j_aload_n (pc := 58) 1 dX12_readCond_58 rfl rfl ?_
    refine j_getR (pc := 59) ok_X12 (by decide) rfl w_1253 dX12_readCond_59 (fun a24 => ?_)
    refine j_iload_n (pc := 62) 0 dX12_readCond_62 rfl rfl ?_
    refine j_iload_n (pc := 63) 3 dX12_readCond_63 rfl rfl ?_
    refine j_iastore (pc := 64) dX12_readCond_64 (fun z25 => ?_)
    refine j_iload_n (pc := 65) 3 dX12_readCond_65 rfl rfl ?_
    refine j_if_le (pc := 66) 131 dX12_readCond_66 (by decide) ?_ ?_
    · exact J.sub [1, 2] rfl (j_X12_readCond_B131 r0 v1 z25)
    refine j_aload_n (pc := 69) 1 dX12_readCond_69 rfl rfl ?_
    refine j_bipush (pc := 70) (v := 60) dX12_readCond_70 (by decide) ?_
    refine j_isC (fun h28 => ?_)
    refine j_callV_I (pc := 72) (as := [.int 60]) (mc2 := 0) (ms2 := 0) (ct_X12_isSign _ _ _) h28 rfl cw_X12_readCond_195 dX12_readCond_72 (Nat.le_of_ble_eq_true rfl) rfl (by decide) (by decide) (fun x27 z26 => ?_)
    refine j_if_ne (pc := 75) 92 dX12_readCond_75 (by decide) ?_ ?_
    · exact J.sub [1, 2, 0] rfl (j_X12_readCond_B92 r0 v1 ((v1 + 1) + (3 * x23)) z26)
    refine j_aload_n (pc := 78) 1 dX12_readCond_78 rfl rfl ?_
    refine j_bipush (pc := 79) (v := 62) dX12_readCond_79 (by decide) ?_
    refine j_isC (fun h31 => ?_)
    refine j_callV_I (pc := 81) (as := [.int 62]) (mc2 := 0) (ms2 := 0) (ct_X12_isSign _ _ _) h31 rfl cw_X12_readCond_195 dX12_readCond_81 (Nat.le_of_ble_eq_true rfl) rfl (by decide) (by decide) (fun x30 z29 => ?_)
    refine j_if_ne (pc := 84) 92 dX12_readCond_84 (by decide) ?_ ?_
    · exact J.sub [1, 2, 0] rfl (j_X12_readCond_B92 r0 v1 ((v1 + 1) + (3 * x23)) z29)
    refine j_aload_n (pc := 87) 1 dX12_readCond_87 rfl rfl ?_
    refine j_iconst (pc := 88) (v := 1) dX12_readCond_88 (by decide) ?_
    refine j_isC (fun h33 => ?_)
    refine j_callV_V (pc := 89) (as := [.int 1]) (mc2 := 0) (ms2 := 0) (ct_X12_wrong _ _ _) h33 rfl cw_X12_readCond_184 dX12_readCond_89 (Nat.le_of_ble_eq_true rfl) rfl (by decide) (by decide) (fun _ z32 => ?_)
    exact J.sub [1, 2, 0] rfl (j_X12_readCond_B92 r0 v1 ((v1 + 1) + (3 * x23)) z32)
  exact j_return (pc := 40) dX12_readCond_40 rfl
theorem ct_X12_readCond {l : Launch} {Γ : Am} (r0 : Nat) (v1 : Int32) (z : Hp) : Ct l Γ yX12_readCond mi_X12_readCond cvV [.ref (mB Γ + r0), .int v1] z (m_X12_readCond r0 v1 z) := by
  refine Ct.ofJ (by decide) ⟨rfl, rfl⟩ (Nat.le_of_ble_eq_true rfl) ?_
  unfold m_X12_readCond
  show J l Γ mi_X12_readCond cvV 0 0 0 [(0, .ref (mB Γ + r0)), (1, .int v1)] [] z _
  refine j_aload_n (pc := 0) 0 dX12_readCond_0 rfl rfl ?_
  refine j_isC (fun h36 => ?_)
  refine j_callV_I (pc := 1) (as := []) (mc2 := 0) (ms2 := 0) (ct_X12_wordHere _ _) h36 rfl cw_X12_readCond_249 dX12_readCond_1 (Nat.le_of_ble_eq_true rfl) rfl (by decide) (by decide) (fun x35 z34 => ?_)
  refine j_istore_n (pc := 4) (lv2 := [(2, .int x35), (0, .ref (mB Γ + r0)), (1, .int v1)]) dX12_readCond_4 rfl (by decide) rfl ?_
  refine j_iload_n (pc := 5) 0 dX12_readCond_5 rfl rfl ?_
  refine j_iconst (pc := 6) (v := (-1)) dX12_readCond_6 (by decide) ?_
  refine j_icmp_ne (pc := 7) 18 dX12_readCond_7 (by decide) ?_ ?_
  · refine j_aload_n (pc := 18) 1 dX12_readCond_18 rfl rfl ?_
    refine j_getR (pc := 19) ok_X12 (by decide) rfl w_1253 dX12_readCond_19 (fun a37 => ?_)
    refine j_iload_n (pc := 22) 2 dX12_readCond_22 rfl rfl ?_
    refine j_iaload (pc := 23) dX12_readCond_23 (fun x38 => ?_)
    refine j_iconst (pc := 24) (v := 3) dX12_readCond_24 (by decide) ?_
    refine j_icmp_ne (pc := 25) 33 dX12_readCond_25 (by decide) ?_ ?_
    · exact J.sub [1, 2, 0] rfl (j_X12_readCond_B33 r0 v1 x35 z34)
    refine j_aload_n (pc := 28) 1 dX12_readCond_28 rfl rfl ?_
    refine j_iconst (pc := 29) (v := 3) dX12_readCond_29 (by decide) ?_
    refine j_isC (fun h40 => ?_)
    refine j_callV_V (pc := 30) (as := [.int 3]) (mc2 := 0) (ms2 := 0) (ct_X12_wrong _ _ _) h40 rfl cw_X12_readCond_184 dX12_readCond_30 (Nat.le_of_ble_eq_true rfl) rfl (by decide) (by decide) (fun _ z39 => ?_)
    exact J.sub [1, 2, 0] rfl (j_X12_readCond_B33 r0 v1 x35 z39)
  refine j_aload_n (pc := 10) 1 dX12_readCond_10 rfl rfl ?_
  refine j_iconst (pc := 11) (v := 1) dX12_readCond_11 (by decide) ?_
  refine j_isC (fun h42 => ?_)
  refine j_callV_V (pc := 12) (as := [.int 1]) (mc2 := 0) (ms2 := 0) (ct_X12_wrong _ _ _) h42 rfl cw_X12_readCond_184 dX12_readCond_12 (Nat.le_of_ble_eq_true rfl) rfl (by decide) (by decide) (fun _ z41 => ?_)
  refine j_goto (pc := 15) 33 dX12_readCond_15 (by decide) ?_
  exact J.sub [1, 2, 0] rfl (j_X12_readCond_B33 r0 v1 x35 z41)
theorem dX12_readRule_0 : decode cX12_readRule 0 = .ok (.aload_n 0, 1) := by decide +kernel
theorem dX12_readRule_1 : decode cX12_readRule 1 = .ok (.ldc 252, 2) := by decide +kernel
theorem dX12_readRule_3 : decode cX12_readRule 3 = .ok (.invokevirtual 188, 3) := by decide +kernel
theorem dX12_readRule_6 : decode cX12_readRule 6 = .ok (.sipush 750, 3) := by decide +kernel
theorem dX12_readRule_9 : decode cX12_readRule 9 = .ok (.bipush 10, 2) := by decide +kernel
theorem dX12_readRule_11 : decode cX12_readRule 11 = .ok (.aload_n 0, 1) := by decide +kernel
theorem dX12_readRule_12 : decode cX12_readRule 12 = .ok (.getfield 37, 3) := by decide +kernel
theorem dX12_readRule_15 : decode cX12_readRule 15 = .ok (.iconst 4, 1) := by decide +kernel
theorem dX12_readRule_16 : decode cX12_readRule 16 = .ok (.iaload, 1) := by decide +kernel
theorem dX12_readRule_17 : decode cX12_readRule 17 = .ok (.imul, 1) := by decide +kernel
theorem dX12_readRule_18 : decode cX12_readRule 18 = .ok (.iadd, 1) := by decide +kernel
theorem dX12_readRule_19 : decode cX12_readRule 19 = .ok (.istore_n 1, 1) := by decide +kernel
theorem dX12_readRule_20 : decode cX12_readRule 20 = .ok (.iconst 1, 1) := by decide +kernel
theorem dX12_readRule_21 : decode cX12_readRule 21 = .ok (.istore_n 2, 1) := by decide +kernel
theorem dX12_readRule_22 : decode cX12_readRule 22 = .ok (.iload_n 2, 1) := by decide +kernel
theorem dX12_readRule_23 : decode cX12_readRule 23 = .ok (.ifCond .eq 26, 3) := by decide +kernel
theorem dX12_readRule_26 : decode cX12_readRule 26 = .ok (.aload_n 0, 1) := by decide +kernel
theorem dX12_readRule_27 : decode cX12_readRule 27 = .ok (.invokevirtual 161, 3) := by decide +kernel
theorem dX12_readRule_30 : decode cX12_readRule 30 = .ok (.ifCond .eq 19, 3) := by decide +kernel
theorem dX12_readRule_33 : decode cX12_readRule 33 = .ok (.aload_n 0, 1) := by decide +kernel
theorem dX12_readRule_34 : decode cX12_readRule 34 = .ok (.iload_n 1, 1) := by decide +kernel
theorem dX12_readRule_35 : decode cX12_readRule 35 = .ok (.invokevirtual 254, 3) := by decide +kernel
theorem dX12_readRule_38 : decode cX12_readRule 38 = .ok (.aload_n 0, 1) := by decide +kernel
theorem dX12_readRule_39 : decode cX12_readRule 39 = .ok (.ldc_w 257, 3) := by decide +kernel
theorem dX12_readRule_42 : decode cX12_readRule 42 = .ok (.invokevirtual 181, 3) := by decide +kernel
theorem dX12_readRule_45 : decode cX12_readRule 45 = .ok (.istore_n 2, 1) := by decide +kernel
theorem dX12_readRule_46 : decode cX12_readRule 46 = .ok (.goto (-24), 3) := by decide +kernel
theorem dX12_readRule_49 : decode cX12_readRule 49 = .ok (.aload_n 0, 1) := by decide +kernel
theorem dX12_readRule_50 : decode cX12_readRule 50 = .ok (.invokevirtual 161, 3) := by decide +kernel
theorem dX12_readRule_53 : decode cX12_readRule 53 = .ok (.ifCond .eq 13, 3) := by decide +kernel
theorem dX12_readRule_56 : decode cX12_readRule 56 = .ok (.aload_n 0, 1) := by decide +kernel
theorem dX12_readRule_57 : decode cX12_readRule 57 = .ok (.getfield 37, 3) := by decide +kernel
theorem dX12_readRule_60 : decode cX12_readRule 60 = .ok (.iconst 4, 1) := by decide +kernel
theorem dX12_readRule_61 : decode cX12_readRule 61 = .ok (.dup2, 1) := by decide +kernel
theorem dX12_readRule_62 : decode cX12_readRule 62 = .ok (.iaload, 1) := by decide +kernel
theorem dX12_readRule_63 : decode cX12_readRule 63 = .ok (.iconst 1, 1) := by decide +kernel
theorem dX12_readRule_64 : decode cX12_readRule 64 = .ok (.iadd, 1) := by decide +kernel
theorem dX12_readRule_65 : decode cX12_readRule 65 = .ok (.iastore, 1) := by decide +kernel
theorem dX12_readRule_66 : decode cX12_readRule 66 = .ok (.return_, 1) := by decide +kernel
theorem cw_X12_readRule_161 : CwV mi_X12_readRule mi_X12_good yX12_good RX12 161 0 := ⟨⟨w_1398, w_1400, w_46, w_108, w_1401⟩, ⟨by decide, by decide⟩, by decide +kernel, by decide, by decide⟩
theorem cw_X12_readRule_254 : CwV mi_X12_readRule mi_X12_readCond yX12_readCond RX12 254 1 := ⟨⟨w_1483, w_1485, w_62, w_108, w_1486⟩, ⟨by decide, by decide⟩, by decide +kernel, by decide, by decide⟩
theorem cw_X12_readRule_181 : CwV mi_X12_readRule mi_X12_takes yX12_takes RX12 181 1 := ⟨⟨w_1425, w_1427, w_50, w_108, w_1428⟩, ⟨by decide, by decide⟩, by decide +kernel, by decide, by decide⟩
theorem cw_X12_readRule_188 : CwV mi_X12_readRule mi_X12_needs yX12_needs RX12 188 1 := ⟨⟨w_1443, w_1445, w_54, w_108, w_1446⟩, ⟨by decide, by decide⟩, by decide +kernel, by decide, by decide⟩
theorem j_X12_readRule_B49 {l : Launch} {Γ : Am}   : ∀ (r0 : Nat) (z : Hp), J l Γ mi_X12_readRule cvV 0 0 49 [(0, .ref (mB Γ + r0))] [] z (m_X12_readRule_B49  r0 z) := by
  intro r0 z
  unfold m_X12_readRule_B49
  refine j_aload_n (pc := 49) 0 dX12_readRule_49 rfl rfl ?_
  refine j_isC (fun h3 => ?_)
  refine j_callV_I (pc := 50) (as := []) (mc2 := 0) (ms2 := 0) (ct_X12_good _ _) h3 rfl cw_X12_readRule_161 dX12_readRule_50 (Nat.le_of_ble_eq_true rfl) rfl (by decide) (by decide) (fun x2 z1 => ?_)
  refine j_if_eq (pc := 53) 66 dX12_readRule_53 (by decide) ?_ ?_
  · exact j_return (pc := 66) dX12_readRule_66 rfl
  refine j_aload_n (pc := 56) 0 dX12_readRule_56 rfl rfl ?_
  refine j_getR (pc := 57) ok_X12 (by decide) rfl w_1253 dX12_readRule_57 (fun a4 => ?_)
  refine j_iconst (pc := 60) (v := 4) dX12_readRule_60 (by decide) ?_
  refine j_dup2 (pc := 61) dX12_readRule_61 rfl rfl ?_
  refine j_iaload (pc := 62) dX12_readRule_62 (fun x5 => ?_)
  refine j_iconst (pc := 63) (v := 1) dX12_readRule_63 (by decide) ?_
  refine j_iadd (pc := 64) dX12_readRule_64 ?_
  refine j_iastore (pc := 65) dX12_readRule_65 (fun z6 => ?_)
  exact j_return (pc := 66) dX12_readRule_66 rfl
theorem j_X12_readRule_L22 {l : Launch} {Γ : Am} {k49 : Nat → Hp → Option (Unit × Hp)} (hL49 : ∀ (r0 : Nat) (z : Hp), J l Γ mi_X12_readRule cvV 0 0 49 [(0, .ref (mB Γ + r0))] [] z (k49 r0 z)) : ∀ (f : Nat), ∀ (r0 : Nat) (v1 : Int32) (v2 : Int32) (z : Hp), J l Γ mi_X12_readRule cvV 0 0 22 [(0, .ref (mB Γ + r0)), (1, .int v1), (2, .int v2)] [] z (m_X12_readRule_L22 k49 f r0 v1 v2 z) := by
  intro f
  induction f with
  | zero => intro r0 v1 v2 z; exact J.none
  | succ f hL22 =>
    intro r0 v1 v2 z
    rw [m_X12_readRule_L22]
    refine j_iload_n (pc := 22) 2 dX12_readRule_22 rfl rfl ?_
    refine j_if_eq (pc := 23) 49 dX12_readRule_23 (by decide) ?_ ?_
    · exact J.sub [0] rfl (hL49 r0 z)
    refine j_aload_n (pc := 26) 0 dX12_readRule_26 rfl rfl ?_
    refine j_isC (fun h9 => ?_)
    refine j_callV_I (pc := 27) (as := []) (mc2 := 0) (ms2 := 0) (ct_X12_good _ _) h9 rfl cw_X12_readRule_161 dX12_readRule_27 (Nat.le_of_ble_eq_true rfl) rfl (by decide) (by decide) (fun x8 z7 => ?_)
    refine j_if_eq (pc := 30) 49 dX12_readRule_30 (by decide) ?_ ?_
    · exact J.sub [0] rfl (hL49 r0 z7)
    refine j_aload_n (pc := 33) 0 dX12_readRule_33 rfl rfl ?_
    refine j_iload_n (pc := 34) 1 dX12_readRule_34 rfl rfl ?_
    refine j_isC (fun h11 => ?_)
    refine j_callV_V (pc := 35) (as := [.int v1]) (mc2 := 0) (ms2 := 0) (ct_X12_readCond _ _ _) h11 rfl cw_X12_readRule_254 dX12_readRule_35 (Nat.le_of_ble_eq_true rfl) rfl (by decide) (by decide) (fun _ z10 => ?_)
    refine j_aload_n (pc := 38) 0 dX12_readRule_38 rfl rfl ?_
    refine j_ldcwS (pc := 39) (w := 46) (tx := "and") dX12_readRule_39 (by decide +kernel) ?_
    refine j_isC (fun h14 => ?_)
    refine j_callV_I (pc := 42) (as := [.ref (mT Γ 46)]) (mc2 := 0) (ms2 := 0) (ct_X12_takes _ _ _) h14 rfl cw_X12_readRule_181 dX12_readRule_42 (Nat.le_of_ble_eq_true rfl) rfl (by decide) (by decide) (fun x13 z12 => ?_)
    refine j_istore_n (pc := 45) (lv2 := [(2, .int x13), (0, .ref (mB Γ + r0)), (1, .int v1)]) dX12_readRule_45 rfl (by decide) rfl ?_
    refine j_goto (pc := 46) 22 dX12_readRule_46 (by decide) ?_
    exact J.sub [1, 2, 0] rfl (hL22 r0 v1 x13 z12)
theorem ct_X12_readRule {l : Launch} {Γ : Am} (r0 : Nat) (z : Hp) : Ct l Γ yX12_readRule mi_X12_readRule cvV [.ref (mB Γ + r0)] z (m_X12_readRule r0 z) := by
  refine Ct.ofJ (by decide) ⟨rfl, rfl⟩ (Nat.le_of_ble_eq_true rfl) ?_
  unfold m_X12_readRule
  show J l Γ mi_X12_readRule cvV 0 0 0 [(0, .ref (mB Γ + r0))] [] z _
  refine j_aload_n (pc := 0) 0 dX12_readRule_0 rfl rfl ?_
  refine j_ldcS (pc := 1) (w := 40) (tx := "if") dX12_readRule_1 (by decide +kernel) ?_
  refine j_isC (fun h16 => ?_)
  refine j_callV_V (pc := 3) (as := [.ref (mT Γ 40)]) (mc2 := 0) (ms2 := 0) (ct_X12_needs _ _ _) h16 rfl cw_X12_readRule_188 dX12_readRule_3 (Nat.le_of_ble_eq_true rfl) rfl (by decide) (by decide) (fun _ z15 => ?_)
  refine j_sipush (pc := 6) (v := 750) dX12_readRule_6 (by decide) ?_
  refine j_bipush (pc := 9) (v := 10) dX12_readRule_9 (by decide) ?_
  refine j_aload_n (pc := 11) 0 dX12_readRule_11 rfl rfl ?_
  refine j_getR (pc := 12) ok_X12 (by decide) rfl w_1253 dX12_readRule_12 (fun a17 => ?_)
  refine j_iconst (pc := 15) (v := 4) dX12_readRule_15 (by decide) ?_
  refine j_iaload (pc := 16) dX12_readRule_16 (fun x18 => ?_)
  refine j_imul (pc := 17) dX12_readRule_17 ?_
  refine j_iadd (pc := 18) dX12_readRule_18 ?_
  refine j_istore_n (pc := 19) (lv2 := [(1, .int (750 + (10 * x18))), (0, .ref (mB Γ + r0))]) dX12_readRule_19 rfl (by decide) rfl ?_
  refine j_iconst (pc := 20) (v := 1) dX12_readRule_20 (by decide) ?_
  refine j_istore_n (pc := 21) (lv2 := [(2, .int 1), (1, .int (750 + (10 * x18))), (0, .ref (mB Γ + r0))]) dX12_readRule_21 rfl (by decide) rfl ?_
  exact J.sub [2, 1, 0] rfl ((j_X12_readRule_L22 j_X12_readRule_B49 FU) r0 (750 + (10 * x18)) 1 z15)
theorem dX12_readLine_0 : decode cX12_readLine 0 = .ok (.aload_n 0, 1) := by decide +kernel
theorem dX12_readLine_1 : decode cX12_readLine 1 = .ok (.ldc 234, 2) := by decide +kernel
theorem dX12_readLine_3 : decode cX12_readLine 3 = .ok (.invokevirtual 174, 3) := by decide +kernel
theorem dX12_readLine_6 : decode cX12_readLine 6 = .ok (.ifCond .ne 83, 3) := by decide +kernel
theorem dX12_readLine_9 : decode cX12_readLine 9 = .ok (.aload_n 0, 1) := by decide +kernel
theorem dX12_readLine_10 : decode cX12_readLine 10 = .ok (.ldc_w 259, 3) := by decide +kernel
theorem dX12_readLine_13 : decode cX12_readLine 13 = .ok (.invokevirtual 174, 3) := by decide +kernel
theorem dX12_readLine_16 : decode cX12_readLine 16 = .ok (.ifCond .ne 73, 3) := by decide +kernel
theorem dX12_readLine_19 : decode cX12_readLine 19 = .ok (.aload_n 0, 1) := by decide +kernel
theorem dX12_readLine_20 : decode cX12_readLine 20 = .ok (.ldc_w 261, 3) := by decide +kernel
theorem dX12_readLine_23 : decode cX12_readLine 23 = .ok (.invokevirtual 174, 3) := by decide +kernel
theorem dX12_readLine_26 : decode cX12_readLine 26 = .ok (.ifCond .ne 63, 3) := by decide +kernel
theorem dX12_readLine_29 : decode cX12_readLine 29 = .ok (.aload_n 0, 1) := by decide +kernel
theorem dX12_readLine_30 : decode cX12_readLine 30 = .ok (.ldc_w 263, 3) := by decide +kernel
theorem dX12_readLine_33 : decode cX12_readLine 33 = .ok (.invokevirtual 174, 3) := by decide +kernel
theorem dX12_readLine_36 : decode cX12_readLine 36 = .ok (.ifCond .ne 53, 3) := by decide +kernel
theorem dX12_readLine_39 : decode cX12_readLine 39 = .ok (.aload_n 0, 1) := by decide +kernel
theorem dX12_readLine_40 : decode cX12_readLine 40 = .ok (.ldc_w 264, 3) := by decide +kernel
theorem dX12_readLine_43 : decode cX12_readLine 43 = .ok (.invokevirtual 174, 3) := by decide +kernel
theorem dX12_readLine_46 : decode cX12_readLine 46 = .ok (.ifCond .ne 43, 3) := by decide +kernel
theorem dX12_readLine_49 : decode cX12_readLine 49 = .ok (.aload_n 0, 1) := by decide +kernel
theorem dX12_readLine_50 : decode cX12_readLine 50 = .ok (.ldc_w 266, 3) := by decide +kernel
theorem dX12_readLine_53 : decode cX12_readLine 53 = .ok (.invokevirtual 174, 3) := by decide +kernel
theorem dX12_readLine_56 : decode cX12_readLine 56 = .ok (.ifCond .ne 33, 3) := by decide +kernel
theorem dX12_readLine_59 : decode cX12_readLine 59 = .ok (.aload_n 0, 1) := by decide +kernel
theorem dX12_readLine_60 : decode cX12_readLine 60 = .ok (.ldc_w 268, 3) := by decide +kernel
theorem dX12_readLine_63 : decode cX12_readLine 63 = .ok (.invokevirtual 174, 3) := by decide +kernel
theorem dX12_readLine_66 : decode cX12_readLine 66 = .ok (.ifCond .ne 23, 3) := by decide +kernel
theorem dX12_readLine_69 : decode cX12_readLine 69 = .ok (.aload_n 0, 1) := by decide +kernel
theorem dX12_readLine_70 : decode cX12_readLine 70 = .ok (.ldc_w 270, 3) := by decide +kernel
theorem dX12_readLine_73 : decode cX12_readLine 73 = .ok (.invokevirtual 174, 3) := by decide +kernel
theorem dX12_readLine_76 : decode cX12_readLine 76 = .ok (.ifCond .ne 13, 3) := by decide +kernel
theorem dX12_readLine_79 : decode cX12_readLine 79 = .ok (.aload_n 0, 1) := by decide +kernel
theorem dX12_readLine_80 : decode cX12_readLine 80 = .ok (.ldc_w 272, 3) := by decide +kernel
theorem dX12_readLine_83 : decode cX12_readLine 83 = .ok (.invokevirtual 174, 3) := by decide +kernel
theorem dX12_readLine_86 : decode cX12_readLine 86 = .ok (.ifCond .eq 7, 3) := by decide +kernel
theorem dX12_readLine_89 : decode cX12_readLine 89 = .ok (.iconst 1, 1) := by decide +kernel
theorem dX12_readLine_90 : decode cX12_readLine 90 = .ok (.goto 4, 3) := by decide +kernel
theorem dX12_readLine_93 : decode cX12_readLine 93 = .ok (.iconst 0, 1) := by decide +kernel
theorem dX12_readLine_94 : decode cX12_readLine 94 = .ok (.istore_n 1, 1) := by decide +kernel
theorem dX12_readLine_95 : decode cX12_readLine 95 = .ok (.aload_n 0, 1) := by decide +kernel
theorem dX12_readLine_96 : decode cX12_readLine 96 = .ok (.getfield 37, 3) := by decide +kernel
theorem dX12_readLine_99 : decode cX12_readLine 99 = .ok (.iconst 0, 1) := by decide +kernel
theorem dX12_readLine_100 : decode cX12_readLine 100 = .ok (.iaload, 1) := by decide +kernel
theorem dX12_readLine_101 : decode cX12_readLine 101 = .ok (.bipush 40, 2) := by decide +kernel
theorem dX12_readLine_103 : decode cX12_readLine 103 = .ok (.if_icmp .eq 120, 3) := by decide +kernel
theorem dX12_readLine_106 : decode cX12_readLine 106 = .ok (.aload_n 0, 1) := by decide +kernel
theorem dX12_readLine_107 : decode cX12_readLine 107 = .ok (.ldc_w 266, 3) := by decide +kernel
theorem dX12_readLine_110 : decode cX12_readLine 110 = .ok (.invokevirtual 174, 3) := by decide +kernel
theorem dX12_readLine_113 : decode cX12_readLine 113 = .ok (.ifCond .eq 14, 3) := by decide +kernel
theorem dX12_readLine_116 : decode cX12_readLine 116 = .ok (.aload_n 0, 1) := by decide +kernel
theorem dX12_readLine_117 : decode cX12_readLine 117 = .ok (.getfield 37, 3) := by decide +kernel
theorem dX12_readLine_120 : decode cX12_readLine 120 = .ok (.iconst 2, 1) := by decide +kernel
theorem dX12_readLine_121 : decode cX12_readLine 121 = .ok (.iaload, 1) := by decide +kernel
theorem dX12_readLine_122 : decode cX12_readLine 122 = .ok (.bipush 12, 2) := by decide +kernel
theorem dX12_readLine_124 : decode cX12_readLine 124 = .ok (.if_icmp .eq 99, 3) := by decide +kernel
theorem dX12_readLine_127 : decode cX12_readLine 127 = .ok (.aload_n 0, 1) := by decide +kernel
theorem dX12_readLine_128 : decode cX12_readLine 128 = .ok (.ldc_w 270, 3) := by decide +kernel
theorem dX12_readLine_131 : decode cX12_readLine 131 = .ok (.invokevirtual 174, 3) := by decide +kernel
theorem dX12_readLine_134 : decode cX12_readLine 134 = .ok (.ifCond .eq 14, 3) := by decide +kernel
theorem dX12_readLine_137 : decode cX12_readLine 137 = .ok (.aload_n 0, 1) := by decide +kernel
theorem dX12_readLine_138 : decode cX12_readLine 138 = .ok (.getfield 37, 3) := by decide +kernel
theorem dX12_readLine_141 : decode cX12_readLine 141 = .ok (.iconst 3, 1) := by decide +kernel
theorem dX12_readLine_142 : decode cX12_readLine 142 = .ok (.iaload, 1) := by decide +kernel
theorem dX12_readLine_143 : decode cX12_readLine 143 = .ok (.bipush 6, 2) := by decide +kernel
theorem dX12_readLine_145 : decode cX12_readLine 145 = .ok (.if_icmp .eq 78, 3) := by decide +kernel
theorem dX12_readLine_148 : decode cX12_readLine 148 = .ok (.aload_n 0, 1) := by decide +kernel
theorem dX12_readLine_149 : decode cX12_readLine 149 = .ok (.ldc_w 272, 3) := by decide +kernel
theorem dX12_readLine_152 : decode cX12_readLine 152 = .ok (.invokevirtual 174, 3) := by decide +kernel
theorem dX12_readLine_155 : decode cX12_readLine 155 = .ok (.ifCond .eq 13, 3) := by decide +kernel
theorem dX12_readLine_158 : decode cX12_readLine 158 = .ok (.aload_n 0, 1) := by decide +kernel
theorem dX12_readLine_159 : decode cX12_readLine 159 = .ok (.getfield 37, 3) := by decide +kernel
theorem dX12_readLine_162 : decode cX12_readLine 162 = .ok (.iconst 4, 1) := by decide +kernel
theorem dX12_readLine_163 : decode cX12_readLine 163 = .ok (.iaload, 1) := by decide +kernel
theorem dX12_readLine_164 : decode cX12_readLine 164 = .ok (.iconst 4, 1) := by decide +kernel
theorem dX12_readLine_165 : decode cX12_readLine 165 = .ok (.if_icmp .eq 58, 3) := by decide +kernel
theorem dX12_readLine_168 : decode cX12_readLine 168 = .ok (.aload_n 0, 1) := by decide +kernel
theorem dX12_readLine_169 : decode cX12_readLine 169 = .ok (.ldc_w 263, 3) := by decide +kernel
theorem dX12_readLine_172 : decode cX12_readLine 172 = .ok (.invokevirtual 174, 3) := by decide +kernel
theorem dX12_readLine_175 : decode cX12_readLine 175 = .ok (.ifCond .eq 10, 3) := by decide +kernel
theorem dX12_readLine_178 : decode cX12_readLine 178 = .ok (.aload_n 0, 1) := by decide +kernel
theorem dX12_readLine_179 : decode cX12_readLine 179 = .ok (.getfield 274, 3) := by decide +kernel
theorem dX12_readLine_182 : decode cX12_readLine 182 = .ok (.ifCond .ne 41, 3) := by decide +kernel
theorem dX12_readLine_185 : decode cX12_readLine 185 = .ok (.aload_n 0, 1) := by decide +kernel
theorem dX12_readLine_186 : decode cX12_readLine 186 = .ok (.ldc_w 264, 3) := by decide +kernel
theorem dX12_readLine_189 : decode cX12_readLine 189 = .ok (.invokevirtual 174, 3) := by decide +kernel
theorem dX12_readLine_192 : decode cX12_readLine 192 = .ok (.ifCond .eq 14, 3) := by decide +kernel
theorem dX12_readLine_195 : decode cX12_readLine 195 = .ok (.aload_n 0, 1) := by decide +kernel
theorem dX12_readLine_196 : decode cX12_readLine 196 = .ok (.getfield 37, 3) := by decide +kernel
theorem dX12_readLine_199 : decode cX12_readLine 199 = .ok (.bipush 7, 2) := by decide +kernel
theorem dX12_readLine_201 : decode cX12_readLine 201 = .ok (.iaload, 1) := by decide +kernel
theorem dX12_readLine_202 : decode cX12_readLine 202 = .ok (.iconst 1, 1) := by decide +kernel
theorem dX12_readLine_203 : decode cX12_readLine 203 = .ok (.if_icmp .eq 20, 3) := by decide +kernel
theorem dX12_readLine_206 : decode cX12_readLine 206 = .ok (.aload_n 0, 1) := by decide +kernel
theorem dX12_readLine_207 : decode cX12_readLine 207 = .ok (.ldc_w 268, 3) := by decide +kernel
theorem dX12_readLine_210 : decode cX12_readLine 210 = .ok (.invokevirtual 174, 3) := by decide +kernel
theorem dX12_readLine_213 : decode cX12_readLine 213 = .ok (.ifCond .eq 14, 3) := by decide +kernel
theorem dX12_readLine_216 : decode cX12_readLine 216 = .ok (.aload_n 0, 1) := by decide +kernel
theorem dX12_readLine_217 : decode cX12_readLine 217 = .ok (.getfield 278, 3) := by decide +kernel
theorem dX12_readLine_220 : decode cX12_readLine 220 = .ok (.ifCond .eq 7, 3) := by decide +kernel
theorem dX12_readLine_223 : decode cX12_readLine 223 = .ok (.iconst 1, 1) := by decide +kernel
theorem dX12_readLine_224 : decode cX12_readLine 224 = .ok (.goto 4, 3) := by decide +kernel
theorem dX12_readLine_227 : decode cX12_readLine 227 = .ok (.iconst 0, 1) := by decide +kernel
theorem dX12_readLine_228 : decode cX12_readLine 228 = .ok (.istore_n 2, 1) := by decide +kernel
theorem dX12_readLine_229 : decode cX12_readLine 229 = .ok (.iload_n 1, 1) := by decide +kernel
theorem dX12_readLine_230 : decode cX12_readLine 230 = .ok (.ifCond .ne 11, 3) := by decide +kernel
theorem dX12_readLine_233 : decode cX12_readLine 233 = .ok (.aload_n 0, 1) := by decide +kernel
theorem dX12_readLine_234 : decode cX12_readLine 234 = .ok (.iconst 1, 1) := by decide +kernel
theorem dX12_readLine_235 : decode cX12_readLine 235 = .ok (.invokevirtual 184, 3) := by decide +kernel
theorem dX12_readLine_238 : decode cX12_readLine 238 = .ok (.goto 12, 3) := by decide +kernel
theorem dX12_readLine_241 : decode cX12_readLine 241 = .ok (.iload_n 2, 1) := by decide +kernel
theorem dX12_readLine_242 : decode cX12_readLine 242 = .ok (.ifCond .eq 8, 3) := by decide +kernel
theorem dX12_readLine_245 : decode cX12_readLine 245 = .ok (.aload_n 0, 1) := by decide +kernel
theorem dX12_readLine_246 : decode cX12_readLine 246 = .ok (.iconst 3, 1) := by decide +kernel
theorem dX12_readLine_247 : decode cX12_readLine 247 = .ok (.invokevirtual 184, 3) := by decide +kernel
theorem dX12_readLine_250 : decode cX12_readLine 250 = .ok (.aload_n 0, 1) := by decide +kernel
theorem dX12_readLine_251 : decode cX12_readLine 251 = .ok (.invokevirtual 161, 3) := by decide +kernel
theorem dX12_readLine_254 : decode cX12_readLine 254 = .ok (.ifCond .ne 4, 3) := by decide +kernel
theorem dX12_readLine_257 : decode cX12_readLine 257 = .ok (.return_, 1) := by decide +kernel
theorem dX12_readLine_258 : decode cX12_readLine 258 = .ok (.aload_n 0, 1) := by decide +kernel
theorem dX12_readLine_259 : decode cX12_readLine 259 = .ok (.getfield 37, 3) := by decide +kernel
theorem dX12_readLine_262 : decode cX12_readLine 262 = .ok (.iconst 0, 1) := by decide +kernel
theorem dX12_readLine_263 : decode cX12_readLine 263 = .ok (.dup2, 1) := by decide +kernel
theorem dX12_readLine_264 : decode cX12_readLine 264 = .ok (.iaload, 1) := by decide +kernel
theorem dX12_readLine_265 : decode cX12_readLine 265 = .ok (.iconst 1, 1) := by decide +kernel
theorem dX12_readLine_266 : decode cX12_readLine 266 = .ok (.iadd, 1) := by decide +kernel
theorem dX12_readLine_267 : decode cX12_readLine 267 = .ok (.iastore, 1) := by decide +kernel
theorem dX12_readLine_268 : decode cX12_readLine 268 = .ok (.aload_n 0, 1) := by decide +kernel
theorem dX12_readLine_269 : decode cX12_readLine 269 = .ok (.ldc 234, 2) := by decide +kernel
theorem dX12_readLine_271 : decode cX12_readLine 271 = .ok (.invokevirtual 181, 3) := by decide +kernel
theorem dX12_readLine_274 : decode cX12_readLine 274 = .ok (.ifCond .eq 10, 3) := by decide +kernel
theorem dX12_readLine_277 : decode cX12_readLine 277 = .ok (.aload_n 0, 1) := by decide +kernel
theorem dX12_readLine_278 : decode cX12_readLine 278 = .ok (.invokevirtual 281, 3) := by decide +kernel
theorem dX12_readLine_281 : decode cX12_readLine 281 = .ok (.goto 266, 3) := by decide +kernel
theorem dX12_readLine_284 : decode cX12_readLine 284 = .ok (.aload_n 0, 1) := by decide +kernel
theorem dX12_readLine_285 : decode cX12_readLine 285 = .ok (.ldc_w 259, 3) := by decide +kernel
theorem dX12_readLine_288 : decode cX12_readLine 288 = .ok (.invokevirtual 181, 3) := by decide +kernel
theorem dX12_readLine_291 : decode cX12_readLine 291 = .ok (.ifCond .eq 10, 3) := by decide +kernel
theorem dX12_readLine_294 : decode cX12_readLine 294 = .ok (.aload_n 0, 1) := by decide +kernel
theorem dX12_readLine_295 : decode cX12_readLine 295 = .ok (.invokevirtual 284, 3) := by decide +kernel
theorem dX12_readLine_298 : decode cX12_readLine 298 = .ok (.goto 249, 3) := by decide +kernel
theorem dX12_readLine_301 : decode cX12_readLine 301 = .ok (.aload_n 0, 1) := by decide +kernel
theorem dX12_readLine_302 : decode cX12_readLine 302 = .ok (.ldc_w 261, 3) := by decide +kernel
theorem dX12_readLine_305 : decode cX12_readLine 305 = .ok (.invokevirtual 181, 3) := by decide +kernel
theorem dX12_readLine_308 : decode cX12_readLine 308 = .ok (.ifCond .eq 10, 3) := by decide +kernel
theorem dX12_readLine_311 : decode cX12_readLine 311 = .ok (.aload_n 0, 1) := by decide +kernel
theorem dX12_readLine_312 : decode cX12_readLine 312 = .ok (.invokevirtual 287, 3) := by decide +kernel
theorem dX12_readLine_315 : decode cX12_readLine 315 = .ok (.goto 232, 3) := by decide +kernel
theorem dX12_readLine_318 : decode cX12_readLine 318 = .ok (.aload_n 0, 1) := by decide +kernel
theorem dX12_readLine_319 : decode cX12_readLine 319 = .ok (.ldc_w 266, 3) := by decide +kernel
theorem dX12_readLine_322 : decode cX12_readLine 322 = .ok (.invokevirtual 181, 3) := by decide +kernel
theorem dX12_readLine_325 : decode cX12_readLine 325 = .ok (.ifCond .eq 10, 3) := by decide +kernel
theorem dX12_readLine_328 : decode cX12_readLine 328 = .ok (.aload_n 0, 1) := by decide +kernel
theorem dX12_readLine_329 : decode cX12_readLine 329 = .ok (.invokevirtual 290, 3) := by decide +kernel
theorem dX12_readLine_332 : decode cX12_readLine 332 = .ok (.goto 215, 3) := by decide +kernel
theorem dX12_readLine_335 : decode cX12_readLine 335 = .ok (.aload_n 0, 1) := by decide +kernel
theorem dX12_readLine_336 : decode cX12_readLine 336 = .ok (.ldc_w 272, 3) := by decide +kernel
theorem dX12_readLine_339 : decode cX12_readLine 339 = .ok (.invokevirtual 181, 3) := by decide +kernel
theorem dX12_readLine_342 : decode cX12_readLine 342 = .ok (.ifCond .eq 10, 3) := by decide +kernel
theorem dX12_readLine_345 : decode cX12_readLine 345 = .ok (.aload_n 0, 1) := by decide +kernel
theorem dX12_readLine_346 : decode cX12_readLine 346 = .ok (.invokevirtual 293, 3) := by decide +kernel
theorem dX12_readLine_349 : decode cX12_readLine 349 = .ok (.goto 198, 3) := by decide +kernel
theorem dX12_readLine_352 : decode cX12_readLine 352 = .ok (.aload_n 0, 1) := by decide +kernel
theorem dX12_readLine_353 : decode cX12_readLine 353 = .ok (.ldc_w 263, 3) := by decide +kernel
theorem dX12_readLine_356 : decode cX12_readLine 356 = .ok (.invokevirtual 181, 3) := by decide +kernel
theorem dX12_readLine_359 : decode cX12_readLine 359 = .ok (.ifCond .eq 25, 3) := by decide +kernel
theorem dX12_readLine_362 : decode cX12_readLine 362 = .ok (.aload_n 0, 1) := by decide +kernel
theorem dX12_readLine_363 : decode cX12_readLine 363 = .ok (.iconst 1, 1) := by decide +kernel
theorem dX12_readLine_364 : decode cX12_readLine 364 = .ok (.putfield 274, 3) := by decide +kernel
theorem dX12_readLine_367 : decode cX12_readLine 367 = .ok (.aload_n 0, 1) := by decide +kernel
theorem dX12_readLine_368 : decode cX12_readLine 368 = .ok (.getfield 37, 3) := by decide +kernel
theorem dX12_readLine_371 : decode cX12_readLine 371 = .ok (.iconst 5, 1) := by decide +kernel
theorem dX12_readLine_372 : decode cX12_readLine 372 = .ok (.aload_n 0, 1) := by decide +kernel
theorem dX12_readLine_373 : decode cX12_readLine 373 = .ok (.iconst 1, 1) := by decide +kernel
theorem dX12_readLine_374 : decode cX12_readLine 374 = .ok (.sipush 300, 3) := by decide +kernel
theorem dX12_readLine_377 : decode cX12_readLine 377 = .ok (.invokevirtual 192, 3) := by decide +kernel
theorem dX12_readLine_380 : decode cX12_readLine 380 = .ok (.iastore, 1) := by decide +kernel
theorem dX12_readLine_381 : decode cX12_readLine 381 = .ok (.goto 166, 3) := by decide +kernel
theorem dX12_readLine_384 : decode cX12_readLine 384 = .ok (.aload_n 0, 1) := by decide +kernel
theorem dX12_readLine_385 : decode cX12_readLine 385 = .ok (.ldc_w 268, 3) := by decide +kernel
theorem dX12_readLine_388 : decode cX12_readLine 388 = .ok (.invokevirtual 181, 3) := by decide +kernel
theorem dX12_readLine_391 : decode cX12_readLine 391 = .ok (.ifCond .eq 25, 3) := by decide +kernel
theorem dX12_readLine_394 : decode cX12_readLine 394 = .ok (.aload_n 0, 1) := by decide +kernel
theorem dX12_readLine_395 : decode cX12_readLine 395 = .ok (.iconst 1, 1) := by decide +kernel
theorem dX12_readLine_396 : decode cX12_readLine 396 = .ok (.putfield 278, 3) := by decide +kernel
theorem dX12_readLine_399 : decode cX12_readLine 399 = .ok (.aload_n 0, 1) := by decide +kernel
theorem dX12_readLine_400 : decode cX12_readLine 400 = .ok (.getfield 37, 3) := by decide +kernel
theorem dX12_readLine_403 : decode cX12_readLine 403 = .ok (.bipush 6, 2) := by decide +kernel
theorem dX12_readLine_405 : decode cX12_readLine 405 = .ok (.aload_n 0, 1) := by decide +kernel
theorem dX12_readLine_406 : decode cX12_readLine 406 = .ok (.iconst 0, 1) := by decide +kernel
theorem dX12_readLine_407 : decode cX12_readLine 407 = .ok (.ldc 93, 2) := by decide +kernel
theorem dX12_readLine_409 : decode cX12_readLine 409 = .ok (.invokevirtual 192, 3) := by decide +kernel
theorem dX12_readLine_412 : decode cX12_readLine 412 = .ok (.iastore, 1) := by decide +kernel
theorem dX12_readLine_413 : decode cX12_readLine 413 = .ok (.goto 134, 3) := by decide +kernel
theorem dX12_readLine_416 : decode cX12_readLine 416 = .ok (.aload_n 0, 1) := by decide +kernel
theorem dX12_readLine_417 : decode cX12_readLine 417 = .ok (.ldc_w 264, 3) := by decide +kernel
theorem dX12_readLine_420 : decode cX12_readLine 420 = .ok (.invokevirtual 181, 3) := by decide +kernel
theorem dX12_readLine_423 : decode cX12_readLine 423 = .ok (.ifCond .eq 65, 3) := by decide +kernel
theorem dX12_readLine_426 : decode cX12_readLine 426 = .ok (.aload_n 0, 1) := by decide +kernel
theorem dX12_readLine_427 : decode cX12_readLine 427 = .ok (.iconst 1, 1) := by decide +kernel
theorem dX12_readLine_428 : decode cX12_readLine 428 = .ok (.bipush 10, 2) := by decide +kernel
theorem dX12_readLine_430 : decode cX12_readLine 430 = .ok (.invokevirtual 230, 3) := by decide +kernel
theorem dX12_readLine_433 : decode cX12_readLine 433 = .ok (.aload_n 0, 1) := by decide +kernel
theorem dX12_readLine_434 : decode cX12_readLine 434 = .ok (.getfield 37, 3) := by decide +kernel
theorem dX12_readLine_437 : decode cX12_readLine 437 = .ok (.bipush 7, 2) := by decide +kernel
theorem dX12_readLine_439 : decode cX12_readLine 439 = .ok (.iconst 1, 1) := by decide +kernel
theorem dX12_readLine_440 : decode cX12_readLine 440 = .ok (.iastore, 1) := by decide +kernel
theorem dX12_readLine_441 : decode cX12_readLine 441 = .ok (.aload_n 0, 1) := by decide +kernel
theorem dX12_readLine_442 : decode cX12_readLine 442 = .ok (.getfield 37, 3) := by decide +kernel
theorem dX12_readLine_445 : decode cX12_readLine 445 = .ok (.bipush 8, 2) := by decide +kernel
theorem dX12_readLine_447 : decode cX12_readLine 447 = .ok (.aload_n 0, 1) := by decide +kernel
theorem dX12_readLine_448 : decode cX12_readLine 448 = .ok (.getfield 216, 3) := by decide +kernel
theorem dX12_readLine_451 : decode cX12_readLine 451 = .ok (.iastore, 1) := by decide +kernel
theorem dX12_readLine_452 : decode cX12_readLine 452 = .ok (.aload_n 0, 1) := by decide +kernel
theorem dX12_readLine_453 : decode cX12_readLine 453 = .ok (.getfield 37, 3) := by decide +kernel
theorem dX12_readLine_456 : decode cX12_readLine 456 = .ok (.bipush 9, 2) := by decide +kernel
theorem dX12_readLine_458 : decode cX12_readLine 458 = .ok (.aload_n 0, 1) := by decide +kernel
theorem dX12_readLine_459 : decode cX12_readLine 459 = .ok (.getfield 219, 3) := by decide +kernel
theorem dX12_readLine_462 : decode cX12_readLine 462 = .ok (.iastore, 1) := by decide +kernel
theorem dX12_readLine_463 : decode cX12_readLine 463 = .ok (.aload_n 0, 1) := by decide +kernel
theorem dX12_readLine_464 : decode cX12_readLine 464 = .ok (.getfield 37, 3) := by decide +kernel
theorem dX12_readLine_467 : decode cX12_readLine 467 = .ok (.bipush 10, 2) := by decide +kernel
theorem dX12_readLine_469 : decode cX12_readLine 469 = .ok (.aload_n 0, 1) := by decide +kernel
theorem dX12_readLine_470 : decode cX12_readLine 470 = .ok (.getfield 224, 3) := by decide +kernel
theorem dX12_readLine_473 : decode cX12_readLine 473 = .ok (.iastore, 1) := by decide +kernel
theorem dX12_readLine_474 : decode cX12_readLine 474 = .ok (.aload_n 0, 1) := by decide +kernel
theorem dX12_readLine_475 : decode cX12_readLine 475 = .ok (.getfield 37, 3) := by decide +kernel
theorem dX12_readLine_478 : decode cX12_readLine 478 = .ok (.bipush 11, 2) := by decide +kernel
theorem dX12_readLine_480 : decode cX12_readLine 480 = .ok (.aload_n 0, 1) := by decide +kernel
theorem dX12_readLine_481 : decode cX12_readLine 481 = .ok (.getfield 227, 3) := by decide +kernel
theorem dX12_readLine_484 : decode cX12_readLine 484 = .ok (.iastore, 1) := by decide +kernel
theorem dX12_readLine_485 : decode cX12_readLine 485 = .ok (.goto 62, 3) := by decide +kernel
theorem dX12_readLine_488 : decode cX12_readLine 488 = .ok (.aload_n 0, 1) := by decide +kernel
theorem dX12_readLine_489 : decode cX12_readLine 489 = .ok (.invokevirtual 178, 3) := by decide +kernel
theorem dX12_readLine_492 : decode cX12_readLine 492 = .ok (.sipush 732, 3) := by decide +kernel
theorem dX12_readLine_495 : decode cX12_readLine 495 = .ok (.iconst 3, 1) := by decide +kernel
theorem dX12_readLine_496 : decode cX12_readLine 496 = .ok (.aload_n 0, 1) := by decide +kernel
theorem dX12_readLine_497 : decode cX12_readLine 497 = .ok (.getfield 37, 3) := by decide +kernel
theorem dX12_readLine_500 : decode cX12_readLine 500 = .ok (.iconst 3, 1) := by decide +kernel
theorem dX12_readLine_501 : decode cX12_readLine 501 = .ok (.iaload, 1) := by decide +kernel
theorem dX12_readLine_502 : decode cX12_readLine 502 = .ok (.imul, 1) := by decide +kernel
theorem dX12_readLine_503 : decode cX12_readLine 503 = .ok (.iadd, 1) := by decide +kernel
theorem dX12_readLine_504 : decode cX12_readLine 504 = .ok (.istore_n 3, 1) := by decide +kernel
theorem dX12_readLine_505 : decode cX12_readLine 505 = .ok (.aload_n 0, 1) := by decide +kernel
theorem dX12_readLine_506 : decode cX12_readLine 506 = .ok (.getfield 37, 3) := by decide +kernel
theorem dX12_readLine_509 : decode cX12_readLine 509 = .ok (.iload_n 3, 1) := by decide +kernel
theorem dX12_readLine_510 : decode cX12_readLine 510 = .ok (.aload_n 0, 1) := by decide +kernel
theorem dX12_readLine_511 : decode cX12_readLine 511 = .ok (.iconst 0, 1) := by decide +kernel
theorem dX12_readLine_512 : decode cX12_readLine 512 = .ok (.bipush 10, 2) := by decide +kernel
theorem dX12_readLine_514 : decode cX12_readLine 514 = .ok (.invokevirtual 192, 3) := by decide +kernel
theorem dX12_readLine_517 : decode cX12_readLine 517 = .ok (.iastore, 1) := by decide +kernel
theorem dX12_readLine_518 : decode cX12_readLine 518 = .ok (.aload_n 0, 1) := by decide +kernel
theorem dX12_readLine_519 : decode cX12_readLine 519 = .ok (.getfield 37, 3) := by decide +kernel
theorem dX12_readLine_522 : decode cX12_readLine 522 = .ok (.iload_n 3, 1) := by decide +kernel
theorem dX12_readLine_523 : decode cX12_readLine 523 = .ok (.iconst 1, 1) := by decide +kernel
theorem dX12_readLine_524 : decode cX12_readLine 524 = .ok (.iadd, 1) := by decide +kernel
theorem dX12_readLine_525 : decode cX12_readLine 525 = .ok (.aload_n 0, 1) := by decide +kernel
theorem dX12_readLine_526 : decode cX12_readLine 526 = .ok (.ldc_w 296, 3) := by decide +kernel
theorem dX12_readLine_529 : decode cX12_readLine 529 = .ok (.iconst 0, 1) := by decide +kernel
theorem dX12_readLine_530 : decode cX12_readLine 530 = .ok (.sipush 999, 3) := by decide +kernel
theorem dX12_readLine_533 : decode cX12_readLine 533 = .ok (.invokevirtual 202, 3) := by decide +kernel
theorem dX12_readLine_536 : decode cX12_readLine 536 = .ok (.iastore, 1) := by decide +kernel
theorem dX12_readLine_537 : decode cX12_readLine 537 = .ok (.aload_n 0, 1) := by decide +kernel
theorem dX12_readLine_538 : decode cX12_readLine 538 = .ok (.getfield 37, 3) := by decide +kernel
theorem dX12_readLine_541 : decode cX12_readLine 541 = .ok (.iconst 3, 1) := by decide +kernel
theorem dX12_readLine_542 : decode cX12_readLine 542 = .ok (.dup2, 1) := by decide +kernel
theorem dX12_readLine_543 : decode cX12_readLine 543 = .ok (.iaload, 1) := by decide +kernel
theorem dX12_readLine_544 : decode cX12_readLine 544 = .ok (.iconst 1, 1) := by decide +kernel
theorem dX12_readLine_545 : decode cX12_readLine 545 = .ok (.iadd, 1) := by decide +kernel
theorem dX12_readLine_546 : decode cX12_readLine 546 = .ok (.iastore, 1) := by decide +kernel
theorem dX12_readLine_547 : decode cX12_readLine 547 = .ok (.aload_n 0, 1) := by decide +kernel
theorem dX12_readLine_548 : decode cX12_readLine 548 = .ok (.bipush 59, 2) := by decide +kernel
theorem dX12_readLine_550 : decode cX12_readLine 550 = .ok (.invokevirtual 195, 3) := by decide +kernel
theorem dX12_readLine_553 : decode cX12_readLine 553 = .ok (.ifCond .ne 8, 3) := by decide +kernel
theorem dX12_readLine_556 : decode cX12_readLine 556 = .ok (.aload_n 0, 1) := by decide +kernel
theorem dX12_readLine_557 : decode cX12_readLine 557 = .ok (.iconst 1, 1) := by decide +kernel
theorem dX12_readLine_558 : decode cX12_readLine 558 = .ok (.invokevirtual 184, 3) := by decide +kernel
theorem dX12_readLine_561 : decode cX12_readLine 561 = .ok (.aload_n 0, 1) := by decide +kernel
theorem dX12_readLine_562 : decode cX12_readLine 562 = .ok (.invokevirtual 161, 3) := by decide +kernel
theorem dX12_readLine_565 : decode cX12_readLine 565 = .ok (.ifCond .eq 7, 3) := by decide +kernel
theorem dX12_readLine_568 : decode cX12_readLine 568 = .ok (.aload_n 0, 1) := by decide +kernel
theorem dX12_readLine_569 : decode cX12_readLine 569 = .ok (.invokevirtual 178, 3) := by decide +kernel
theorem dX12_readLine_572 : decode cX12_readLine 572 = .ok (.return_, 1) := by decide +kernel
theorem cw_X12_readLine_161 : CwV mi_X12_readLine mi_X12_good yX12_good RX12 161 0 := ⟨⟨w_1398, w_1400, w_46, w_108, w_1401⟩, ⟨by decide, by decide⟩, by decide +kernel, by decide, by decide⟩
theorem cw_X12_readLine_178 : CwV mi_X12_readLine mi_X12_step yX12_step RX12 178 0 := ⟨⟨w_1384, w_1386, w_44, w_108, w_1387⟩, ⟨by decide, by decide⟩, by decide +kernel, by decide, by decide⟩
theorem cw_X12_readLine_195 : CwV mi_X12_readLine mi_X12_isSign yX12_isSign RX12 195 1 := ⟨⟨w_1454, w_1456, w_56, w_108, w_1457⟩, ⟨by decide, by decide⟩, by decide +kernel, by decide, by decide⟩
theorem cw_X12_readLine_184 : CwV mi_X12_readLine mi_X12_wrong yX12_wrong RX12 184 1 := ⟨⟨w_1421, w_1423, w_49, w_108, w_1424⟩, ⟨by decide, by decide⟩, by decide +kernel, by decide, by decide⟩
theorem cw_X12_readLine_181 : CwV mi_X12_readLine mi_X12_takes yX12_takes RX12 181 1 := ⟨⟨w_1425, w_1427, w_50, w_108, w_1428⟩, ⟨by decide, by decide⟩, by decide +kernel, by decide, by decide⟩
theorem cw_X12_readLine_192 : CwV mi_X12_readLine mi_X12_number yX12_number RX12 192 2 := ⟨⟨w_1434, w_1436, w_52, w_108, w_1437⟩, ⟨by decide, by decide⟩, by decide +kernel, by decide, by decide⟩
theorem cw_X12_readLine_202 : CwV mi_X12_readLine mi_X12_told yX12_told RX12 202 3 := ⟨⟨w_1439, w_1441, w_53, w_108, w_1442⟩, ⟨by decide, by decide⟩, by decide +kernel, by decide, by decide⟩
theorem cw_X12_readLine_230 : CwV mi_X12_readLine mi_X12_readBox yX12_readBox RX12 230 2 := ⟨⟨w_1462, w_1464, w_58, w_108, w_1465⟩, ⟨by decide, by decide⟩, by decide +kernel, by decide, by decide⟩
theorem cw_X12_readLine_293 : CwV mi_X12_readLine mi_X12_readRule yX12_readRule RX12 293 0 := ⟨⟨w_1478, w_1480, w_61, w_108, w_1481⟩, ⟨by decide, by decide⟩, by decide +kernel, by decide, by decide⟩
theorem cw_X12_readLine_290 : CwV mi_X12_readLine mi_X12_readPipe yX12_readPipe RX12 290 0 := ⟨⟨w_1473, w_1475, w_60, w_108, w_1476⟩, ⟨by decide, by decide⟩, by decide +kernel, by decide, by decide⟩
theorem cw_X12_readLine_287 : CwV mi_X12_readLine mi_X12_readStream yX12_readStream RX12 287 0 := ⟨⟨w_1467, w_1469, w_59, w_108, w_1470⟩, ⟨by decide, by decide⟩, by decide +kernel, by decide, by decide⟩
theorem cw_X12_readLine_284 : CwV mi_X12_readLine mi_X12_readLay yX12_readLay RX12 284 0 := ⟨⟨w_1458, w_1460, w_57, w_108, w_1461⟩, ⟨by decide, by decide⟩, by decide +kernel, by decide, by decide⟩
theorem cw_X12_readLine_281 : CwV mi_X12_readLine mi_X12_readGround yX12_readGround RX12 281 0 := ⟨⟨w_1429, w_1431, w_51, w_108, w_1432⟩, ⟨by decide, by decide⟩, by decide +kernel, by decide, by decide⟩
theorem cw_X12_readLine_174 : CwV mi_X12_readLine mi_X12_is yX12_is RX12 174 1 := ⟨⟨w_1407, w_1409, w_48, w_108, w_1410⟩, ⟨by decide, by decide⟩, by decide +kernel, by decide, by decide⟩
theorem j_X12_readLine_B561 {l : Launch} {Γ : Am}   : ∀ (r0 : Nat) (z : Hp), J l Γ mi_X12_readLine cvV 0 0 561 [(0, .ref (mB Γ + r0))] [] z (m_X12_readLine_B561  r0 z) := by
  intro r0 z
  unfold m_X12_readLine_B561
  refine j_aload_n (pc := 561) 0 dX12_readLine_561 rfl rfl ?_
  refine j_isC (fun h3 => ?_)
  refine j_callV_I (pc := 562) (as := []) (mc2 := 0) (ms2 := 0) (ct_X12_good _ _) h3 rfl cw_X12_readLine_161 dX12_readLine_562 (Nat.le_of_ble_eq_true rfl) rfl (by decide) (by decide) (fun x2 z1 => ?_)
  refine j_if_eq (pc := 565) 572 dX12_readLine_565 (by decide) ?_ ?_
  · exact j_return (pc := 572) dX12_readLine_572 rfl
  refine j_aload_n (pc := 568) 0 dX12_readLine_568 rfl rfl ?_
  refine j_isC (fun h5 => ?_)
  refine j_callV_V (pc := 569) (as := []) (mc2 := 0) (ms2 := 0) (ct_X12_step _ _) h5 rfl cw_X12_readLine_178 dX12_readLine_569 (Nat.le_of_ble_eq_true rfl) rfl (by decide) (by decide) (fun _ z4 => ?_)
  exact j_return (pc := 572) dX12_readLine_572 rfl
theorem j_X12_readLine_B547 {l : Launch} {Γ : Am}   : ∀ (r0 : Nat) (z : Hp), J l Γ mi_X12_readLine cvV 0 0 547 [(0, .ref (mB Γ + r0))] [] z (m_X12_readLine_B547  r0 z) := by
  intro r0 z
  unfold m_X12_readLine_B547
  refine j_aload_n (pc := 547) 0 dX12_readLine_547 rfl rfl ?_
  refine j_bipush (pc := 548) (v := 59) dX12_readLine_548 (by decide) ?_
  refine j_isC (fun h8 => ?_)
  refine j_callV_I (pc := 550) (as := [.int 59]) (mc2 := 0) (ms2 := 0) (ct_X12_isSign _ _ _) h8 rfl cw_X12_readLine_195 dX12_readLine_550 (Nat.le_of_ble_eq_true rfl) rfl (by decide) (by decide) (fun x7 z6 => ?_)
  refine j_if_ne (pc := 553) 561 dX12_readLine_553 (by decide) ?_ ?_
  · exact J.sub [0] rfl (j_X12_readLine_B561 r0 z6)
  refine j_aload_n (pc := 556) 0 dX12_readLine_556 rfl rfl ?_
  refine j_iconst (pc := 557) (v := 1) dX12_readLine_557 (by decide) ?_
  refine j_isC (fun h10 => ?_)
  refine j_callV_V (pc := 558) (as := [.int 1]) (mc2 := 0) (ms2 := 0) (ct_X12_wrong _ _ _) h10 rfl cw_X12_readLine_184 dX12_readLine_558 (Nat.le_of_ble_eq_true rfl) rfl (by decide) (by decide) (fun _ z9 => ?_)
  exact J.sub [0] rfl (j_X12_readLine_B561 r0 z9)
theorem j_X12_readLine_B250 {l : Launch} {Γ : Am}   : ∀ (r0 : Nat) (z : Hp), J l Γ mi_X12_readLine cvV 0 0 250 [(0, .ref (mB Γ + r0))] [] z (m_X12_readLine_B250  r0 z) := by
  intro r0 z
  unfold m_X12_readLine_B250
  refine j_aload_n (pc := 250) 0 dX12_readLine_250 rfl rfl ?_
  refine j_isC (fun h13 => ?_)
  refine j_callV_I (pc := 251) (as := []) (mc2 := 0) (ms2 := 0) (ct_X12_good _ _) h13 rfl cw_X12_readLine_161 dX12_readLine_251 (Nat.le_of_ble_eq_true rfl) rfl (by decide) (by decide) (fun x12 z11 => ?_)
  refine j_if_ne (pc := 254) 258 dX12_readLine_254 (by decide) ?_ ?_
  · refine j_aload_n (pc := 258) 0 dX12_readLine_258 rfl rfl ?_
    refine j_getR (pc := 259) ok_X12 (by decide) rfl w_1253 dX12_readLine_259 (fun a14 => ?_)
    refine j_iconst (pc := 262) (v := 0) dX12_readLine_262 (by decide) ?_
    refine j_dup2 (pc := 263) dX12_readLine_263 rfl rfl ?_
    refine j_iaload (pc := 264) dX12_readLine_264 (fun x15 => ?_)
    refine j_iconst (pc := 265) (v := 1) dX12_readLine_265 (by decide) ?_
    refine j_iadd (pc := 266) dX12_readLine_266 ?_
    refine j_iastore (pc := 267) dX12_readLine_267 (fun z16 => ?_)
    refine j_aload_n (pc := 268) 0 dX12_readLine_268 rfl rfl ?_
    refine j_ldcS (pc := 269) (w := 24) (tx := "ground") dX12_readLine_269 (by decide +kernel) ?_
    refine j_isC (fun h19 => ?_)
    refine j_callV_I (pc := 271) (as := [.ref (mT Γ 24)]) (mc2 := 0) (ms2 := 0) (ct_X12_takes _ _ _) h19 rfl cw_X12_readLine_181 dX12_readLine_271 (Nat.le_of_ble_eq_true rfl) rfl (by decide) (by decide) (fun x18 z17 => ?_)
    refine j_if_eq (pc := 274) 284 dX12_readLine_274 (by decide) ?_ ?_
    · refine j_aload_n (pc := 284) 0 dX12_readLine_284 rfl rfl ?_
      refine j_ldcwS (pc := 285) (w := 25) (tx := "lay") dX12_readLine_285 (by decide +kernel) ?_
      refine j_isC (fun h22 => ?_)
      refine j_callV_I (pc := 288) (as := [.ref (mT Γ 25)]) (mc2 := 0) (ms2 := 0) (ct_X12_takes _ _ _) h22 rfl cw_X12_readLine_181 dX12_readLine_288 (Nat.le_of_ble_eq_true rfl) rfl (by decide) (by decide) (fun x21 z20 => ?_)
      refine j_if_eq (pc := 291) 301 dX12_readLine_291 (by decide) ?_ ?_
      · refine j_aload_n (pc := 301) 0 dX12_readLine_301 rfl rfl ?_
        refine j_ldcwS (pc := 302) (w := 26) (tx := "stream") dX12_readLine_302 (by decide +kernel) ?_
        refine j_isC (fun h25 => ?_)
        refine j_callV_I (pc := 305) (as := [.ref (mT Γ 26)]) (mc2 := 0) (ms2 := 0) (ct_X12_takes _ _ _) h25 rfl cw_X12_readLine_181 dX12_readLine_305 (Nat.le_of_ble_eq_true rfl) rfl (by decide) (by decide) (fun x24 z23 => ?_)
        refine j_if_eq (pc := 308) 318 dX12_readLine_308 (by decide) ?_ ?_
        · refine j_aload_n (pc := 318) 0 dX12_readLine_318 rfl rfl ?_
          refine j_ldcwS (pc := 319) (w := 29) (tx := "pipe") dX12_readLine_319 (by decide +kernel) ?_
          refine j_isC (fun h28 => ?_)
          refine j_callV_I (pc := 322) (as := [.ref (mT Γ 29)]) (mc2 := 0) (ms2 := 0) (ct_X12_takes _ _ _) h28 rfl cw_X12_readLine_181 dX12_readLine_322 (Nat.le_of_ble_eq_true rfl) rfl (by decide) (by decide) (fun x27 z26 => ?_)
          refine j_if_eq (pc := 325) 335 dX12_readLine_325 (by decide) ?_ ?_
          · refine j_aload_n (pc := 335) 0 dX12_readLine_335 rfl rfl ?_
            refine j_ldcwS (pc := 336) (w := 32) (tx := "dig") dX12_readLine_336 (by decide +kernel) ?_
            refine j_isC (fun h31 => ?_)
            refine j_callV_I (pc := 339) (as := [.ref (mT Γ 32)]) (mc2 := 0) (ms2 := 0) (ct_X12_takes _ _ _) h31 rfl cw_X12_readLine_181 dX12_readLine_339 (Nat.le_of_ble_eq_true rfl) rfl (by decide) (by decide) (fun x30 z29 => ?_)
            refine j_if_eq (pc := 342) 352 dX12_readLine_342 (by decide) ?_ ?_
            · refine j_aload_n (pc := 352) 0 dX12_readLine_352 rfl rfl ?_
              refine j_ldcwS (pc := 353) (w := 27) (tx := "far") dX12_readLine_353 (by decide +kernel) ?_
              refine j_isC (fun h34 => ?_)
              refine j_callV_I (pc := 356) (as := [.ref (mT Γ 27)]) (mc2 := 0) (ms2 := 0) (ct_X12_takes _ _ _) h34 rfl cw_X12_readLine_181 dX12_readLine_356 (Nat.le_of_ble_eq_true rfl) rfl (by decide) (by decide) (fun x33 z32 => ?_)
              refine j_if_eq (pc := 359) 384 dX12_readLine_359 (by decide) ?_ ?_
              · refine j_aload_n (pc := 384) 0 dX12_readLine_384 rfl rfl ?_
                refine j_ldcwS (pc := 385) (w := 30) (tx := "cold") dX12_readLine_385 (by decide +kernel) ?_
                refine j_isC (fun h37 => ?_)
                refine j_callV_I (pc := 388) (as := [.ref (mT Γ 30)]) (mc2 := 0) (ms2 := 0) (ct_X12_takes _ _ _) h37 rfl cw_X12_readLine_181 dX12_readLine_388 (Nat.le_of_ble_eq_true rfl) rfl (by decide) (by decide) (fun x36 z35 => ?_)
                refine j_if_eq (pc := 391) 416 dX12_readLine_391 (by decide) ?_ ?_
                · refine j_aload_n (pc := 416) 0 dX12_readLine_416 rfl rfl ?_
                  refine j_ldcwS (pc := 417) (w := 28) (tx := "shaft") dX12_readLine_417 (by decide +kernel) ?_
                  refine j_isC (fun h40 => ?_)
                  refine j_callV_I (pc := 420) (as := [.ref (mT Γ 28)]) (mc2 := 0) (ms2 := 0) (ct_X12_takes _ _ _) h40 rfl cw_X12_readLine_181 dX12_readLine_420 (Nat.le_of_ble_eq_true rfl) rfl (by decide) (by decide) (fun x39 z38 => ?_)
                  refine j_if_eq (pc := 423) 488 dX12_readLine_423 (by decide) ?_ ?_
                  · refine j_aload_n (pc := 488) 0 dX12_readLine_488 rfl rfl ?_
                    refine j_isC (fun h42 => ?_)
                    refine j_callV_V (pc := 489) (as := []) (mc2 := 0) (ms2 := 0) (ct_X12_step _ _) h42 rfl cw_X12_readLine_178 dX12_readLine_489 (Nat.le_of_ble_eq_true rfl) rfl (by decide) (by decide) (fun _ z41 => ?_)
                    refine j_sipush (pc := 492) (v := 732) dX12_readLine_492 (by decide) ?_
                    refine j_iconst (pc := 495) (v := 3) dX12_readLine_495 (by decide) ?_
                    refine j_aload_n (pc := 496) 0 dX12_readLine_496 rfl rfl ?_
                    refine j_getR (pc := 497) ok_X12 (by decide) rfl w_1253 dX12_readLine_497 (fun a43 => ?_)
                    refine j_iconst (pc := 500) (v := 3) dX12_readLine_500 (by decide) ?_
                    refine j_iaload (pc := 501) dX12_readLine_501 (fun x44 => ?_)
                    refine j_imul (pc := 502) dX12_readLine_502 ?_
                    refine j_iadd (pc := 503) dX12_readLine_503 ?_
                    refine j_istore_n (pc := 504) (lv2 := [(3, .int (732 + (3 * x44))), (0, .ref (mB Γ + r0))]) dX12_readLine_504 rfl (by decide) rfl ?_
                    refine j_aload_n (pc := 505) 1 dX12_readLine_505 rfl rfl ?_
                    refine j_getR (pc := 506) ok_X12 (by decide) rfl w_1253 dX12_readLine_506 (fun a45 => ?_)
                    refine j_iload_n (pc := 509) 0 dX12_readLine_509 rfl rfl ?_
                    refine j_aload_n (pc := 510) 1 dX12_readLine_510 rfl rfl ?_
                    refine j_iconst (pc := 511) (v := 0) dX12_readLine_511 (by decide) ?_
                    refine j_bipush (pc := 512) (v := 10) dX12_readLine_512 (by decide) ?_
                    refine j_isC (fun h48 => ?_)
                    refine j_callV_I (pc := 514) (as := [.int 0, .int 10]) (mc2 := 0) (ms2 := 0) (ct_X12_number _ _ _ _) h48 rfl cw_X12_readLine_192 dX12_readLine_514 (Nat.le_of_ble_eq_true rfl) rfl (by decide) (by decide) (fun x47 z46 => ?_)
                    refine j_iastore (pc := 517) dX12_readLine_517 (fun z49 => ?_)
                    refine j_aload_n (pc := 518) 1 dX12_readLine_518 rfl rfl ?_
                    refine j_getR (pc := 519) ok_X12 (by decide) rfl w_1253 dX12_readLine_519 (fun a50 => ?_)
                    refine j_iload_n (pc := 522) 0 dX12_readLine_522 rfl rfl ?_
                    refine j_iconst (pc := 523) (v := 1) dX12_readLine_523 (by decide) ?_
                    refine j_iadd (pc := 524) dX12_readLine_524 ?_
                    refine j_aload_n (pc := 525) 1 dX12_readLine_525 rfl rfl ?_
                    refine j_ldcwS (pc := 526) (w := 47) (tx := "limit") dX12_readLine_526 (by decide +kernel) ?_
                    refine j_iconst (pc := 529) (v := 0) dX12_readLine_529 (by decide) ?_
                    refine j_sipush (pc := 530) (v := 999) dX12_readLine_530 (by decide) ?_
                    refine j_isC (fun h53 => ?_)
                    refine j_callV_I (pc := 533) (as := [.ref (mT Γ 47), .int 0, .int 999]) (mc2 := 0) (ms2 := 0) (ct_X12_told _ _ _ _ _) h53 rfl cw_X12_readLine_202 dX12_readLine_533 (Nat.le_of_ble_eq_true rfl) rfl (by decide) (by decide) (fun x52 z51 => ?_)
                    refine j_iastore (pc := 536) dX12_readLine_536 (fun z54 => ?_)
                    refine j_aload_n (pc := 537) 1 dX12_readLine_537 rfl rfl ?_
                    refine j_getR (pc := 538) ok_X12 (by decide) rfl w_1253 dX12_readLine_538 (fun a55 => ?_)
                    refine j_iconst (pc := 541) (v := 3) dX12_readLine_541 (by decide) ?_
                    refine j_dup2 (pc := 542) dX12_readLine_542 rfl rfl ?_
                    refine j_iaload (pc := 543) dX12_readLine_543 (fun x56 => ?_)
                    refine j_iconst (pc := 544) (v := 1) dX12_readLine_544 (by decide) ?_
                    refine j_iadd (pc := 545) dX12_readLine_545 ?_
                    refine j_iastore (pc := 546) dX12_readLine_546 (fun z57 => ?_)
                    exact J.sub [1] rfl (j_X12_readLine_B547 r0 z57)
                  refine j_aload_n (pc := 426) 0 dX12_readLine_426 rfl rfl ?_
                  refine j_iconst (pc := 427) (v := 1) dX12_readLine_427 (by decide) ?_
                  refine j_bipush (pc := 428) (v := 10) dX12_readLine_428 (by decide) ?_
                  refine j_isC (fun h59 => ?_)
                  refine j_callV_V (pc := 430) (as := [.int 1, .int 10]) (mc2 := 0) (ms2 := 0) (ct_X12_readBox _ _ _ _) h59 rfl cw_X12_readLine_230 dX12_readLine_430 (Nat.le_of_ble_eq_true rfl) rfl (by decide) (by decide) (fun _ z58 => ?_)
                  refine j_aload_n (pc := 433) 0 dX12_readLine_433 rfl rfl ?_
                  refine j_getR (pc := 434) ok_X12 (by decide) rfl w_1253 dX12_readLine_434 (fun a60 => ?_)
                  refine j_bipush (pc := 437) (v := 7) dX12_readLine_437 (by decide) ?_
                  refine j_iconst (pc := 439) (v := 1) dX12_readLine_439 (by decide) ?_
                  refine j_iastore (pc := 440) dX12_readLine_440 (fun z61 => ?_)
                  refine j_aload_n (pc := 441) 0 dX12_readLine_441 rfl rfl ?_
                  refine j_getR (pc := 442) ok_X12 (by decide) rfl w_1253 dX12_readLine_442 (fun a62 => ?_)
                  refine j_bipush (pc := 445) (v := 8) dX12_readLine_445 (by decide) ?_
                  refine j_aload_n (pc := 447) 0 dX12_readLine_447 rfl rfl ?_
                  refine j_getI (pc := 448) ok_X12 (by decide) rfl w_1258 dX12_readLine_448 (fun x63 => ?_)
                  refine j_iastore (pc := 451) dX12_readLine_451 (fun z64 => ?_)
                  refine j_aload_n (pc := 452) 0 dX12_readLine_452 rfl rfl ?_
                  refine j_getR (pc := 453) ok_X12 (by decide) rfl w_1253 dX12_readLine_453 (fun a65 => ?_)
                  refine j_bipush (pc := 456) (v := 9) dX12_readLine_456 (by decide) ?_
                  refine j_aload_n (pc := 458) 0 dX12_readLine_458 rfl rfl ?_
                  refine j_getI (pc := 459) ok_X12 (by decide) rfl w_1259 dX12_readLine_459 (fun x66 => ?_)
                  refine j_iastore (pc := 462) dX12_readLine_462 (fun z67 => ?_)
                  refine j_aload_n (pc := 463) 0 dX12_readLine_463 rfl rfl ?_
                  refine j_getR (pc := 464) ok_X12 (by decide) rfl w_1253 dX12_readLine_464 (fun a68 => ?_)
                  refine j_bipush (pc := 467) (v := 10) dX12_readLine_467 (by decide) ?_
                  refine j_aload_n (pc := 469) 0 dX12_readLine_469 rfl rfl ?_
                  refine j_getI (pc := 470) ok_X12 (by decide) rfl w_1260 dX12_readLine_470 (fun x69 => ?_)
                  refine j_iastore (pc := 473) dX12_readLine_473 (fun z70 => ?_)
                  refine j_aload_n (pc := 474) 0 dX12_readLine_474 rfl rfl ?_
                  refine j_getR (pc := 475) ok_X12 (by decide) rfl w_1253 dX12_readLine_475 (fun a71 => ?_)
                  refine j_bipush (pc := 478) (v := 11) dX12_readLine_478 (by decide) ?_
                  refine j_aload_n (pc := 480) 0 dX12_readLine_480 rfl rfl ?_
                  refine j_getI (pc := 481) ok_X12 (by decide) rfl w_1261 dX12_readLine_481 (fun x72 => ?_)
                  refine j_iastore (pc := 484) dX12_readLine_484 (fun z73 => ?_)
                  refine j_goto (pc := 485) 547 dX12_readLine_485 (by decide) ?_
                  exact J.sub [0] rfl (j_X12_readLine_B547 r0 z73)
                refine j_aload_n (pc := 394) 0 dX12_readLine_394 rfl rfl ?_
                refine j_iconst (pc := 395) (v := 1) dX12_readLine_395 (by decide) ?_
                refine j_putI (pc := 396) ok_X12 (by decide) rfl w_1257 (Or.inl rfl) rfl rfl dX12_readLine_396 (fun z74 => ?_)
                refine j_aload_n (pc := 399) 0 dX12_readLine_399 rfl rfl ?_
                refine j_getR (pc := 400) ok_X12 (by decide) rfl w_1253 dX12_readLine_400 (fun a75 => ?_)
                refine j_bipush (pc := 403) (v := 6) dX12_readLine_403 (by decide) ?_
                refine j_aload_n (pc := 405) 0 dX12_readLine_405 rfl rfl ?_
                refine j_iconst (pc := 406) (v := 0) dX12_readLine_406 (by decide) ?_
                refine j_ldc (pc := 407) (v := 99999) dX12_readLine_407 w_1227 ?_
                refine j_isC (fun h78 => ?_)
                refine j_callV_I (pc := 409) (as := [.int 0, .int 99999]) (mc2 := 0) (ms2 := 0) (ct_X12_number _ _ _ _) h78 rfl cw_X12_readLine_192 dX12_readLine_409 (Nat.le_of_ble_eq_true rfl) rfl (by decide) (by decide) (fun x77 z76 => ?_)
                refine j_iastore (pc := 412) dX12_readLine_412 (fun z79 => ?_)
                refine j_goto (pc := 413) 547 dX12_readLine_413 (by decide) ?_
                exact J.sub [0] rfl (j_X12_readLine_B547 r0 z79)
              refine j_aload_n (pc := 362) 0 dX12_readLine_362 rfl rfl ?_
              refine j_iconst (pc := 363) (v := 1) dX12_readLine_363 (by decide) ?_
              refine j_putI (pc := 364) ok_X12 (by decide) rfl w_1256 (Or.inl rfl) rfl rfl dX12_readLine_364 (fun z80 => ?_)
              refine j_aload_n (pc := 367) 0 dX12_readLine_367 rfl rfl ?_
              refine j_getR (pc := 368) ok_X12 (by decide) rfl w_1253 dX12_readLine_368 (fun a81 => ?_)
              refine j_iconst (pc := 371) (v := 5) dX12_readLine_371 (by decide) ?_
              refine j_aload_n (pc := 372) 0 dX12_readLine_372 rfl rfl ?_
              refine j_iconst (pc := 373) (v := 1) dX12_readLine_373 (by decide) ?_
              refine j_sipush (pc := 374) (v := 300) dX12_readLine_374 (by decide) ?_
              refine j_isC (fun h84 => ?_)
              refine j_callV_I (pc := 377) (as := [.int 1, .int 300]) (mc2 := 0) (ms2 := 0) (ct_X12_number _ _ _ _) h84 rfl cw_X12_readLine_192 dX12_readLine_377 (Nat.le_of_ble_eq_true rfl) rfl (by decide) (by decide) (fun x83 z82 => ?_)
              refine j_iastore (pc := 380) dX12_readLine_380 (fun z85 => ?_)
              refine j_goto (pc := 381) 547 dX12_readLine_381 (by decide) ?_
              exact J.sub [0] rfl (j_X12_readLine_B547 r0 z85)
            refine j_aload_n (pc := 345) 0 dX12_readLine_345 rfl rfl ?_
            refine j_isC (fun h87 => ?_)
            refine j_callV_V (pc := 346) (as := []) (mc2 := 0) (ms2 := 0) (ct_X12_readRule _ _) h87 rfl cw_X12_readLine_293 dX12_readLine_346 (Nat.le_of_ble_eq_true rfl) rfl (by decide) (by decide) (fun _ z86 => ?_)
            refine j_goto (pc := 349) 547 dX12_readLine_349 (by decide) ?_
            exact J.sub [0] rfl (j_X12_readLine_B547 r0 z86)
          refine j_aload_n (pc := 328) 0 dX12_readLine_328 rfl rfl ?_
          refine j_isC (fun h89 => ?_)
          refine j_callV_V (pc := 329) (as := []) (mc2 := 0) (ms2 := 0) (ct_X12_readPipe _ _) h89 rfl cw_X12_readLine_290 dX12_readLine_329 (Nat.le_of_ble_eq_true rfl) rfl (by decide) (by decide) (fun _ z88 => ?_)
          refine j_goto (pc := 332) 547 dX12_readLine_332 (by decide) ?_
          exact J.sub [0] rfl (j_X12_readLine_B547 r0 z88)
        refine j_aload_n (pc := 311) 0 dX12_readLine_311 rfl rfl ?_
        refine j_isC (fun h91 => ?_)
        refine j_callV_V (pc := 312) (as := []) (mc2 := 0) (ms2 := 0) (ct_X12_readStream _ _) h91 rfl cw_X12_readLine_287 dX12_readLine_312 (Nat.le_of_ble_eq_true rfl) rfl (by decide) (by decide) (fun _ z90 => ?_)
        refine j_goto (pc := 315) 547 dX12_readLine_315 (by decide) ?_
        exact J.sub [0] rfl (j_X12_readLine_B547 r0 z90)
      refine j_aload_n (pc := 294) 0 dX12_readLine_294 rfl rfl ?_
      refine j_isC (fun h93 => ?_)
      refine j_callV_V (pc := 295) (as := []) (mc2 := 0) (ms2 := 0) (ct_X12_readLay _ _) h93 rfl cw_X12_readLine_284 dX12_readLine_295 (Nat.le_of_ble_eq_true rfl) rfl (by decide) (by decide) (fun _ z92 => ?_)
      refine j_goto (pc := 298) 547 dX12_readLine_298 (by decide) ?_
      exact J.sub [0] rfl (j_X12_readLine_B547 r0 z92)
    refine j_aload_n (pc := 277) 0 dX12_readLine_277 rfl rfl ?_
    refine j_isC (fun h95 => ?_)
    refine j_callV_V (pc := 278) (as := []) (mc2 := 0) (ms2 := 0) (ct_X12_readGround _ _) h95 rfl cw_X12_readLine_281 dX12_readLine_278 (Nat.le_of_ble_eq_true rfl) rfl (by decide) (by decide) (fun _ z94 => ?_)
    refine j_goto (pc := 281) 547 dX12_readLine_281 (by decide) ?_
    exact J.sub [0] rfl (j_X12_readLine_B547 r0 z94)
  exact j_return (pc := 257) dX12_readLine_257 rfl
theorem j_X12_readLine_B228 {l : Launch} {Γ : Am}   : ∀ (r0 : Nat) (v1 : Int32) (t0 : Int32) (z : Hp), J l Γ mi_X12_readLine cvV 0 0 228 [(0, .ref (mB Γ + r0)), (1, .int v1)] [.int t0] z (m_X12_readLine_B228  r0 v1 t0 z) := by
  intro r0 v1 t0 z
  unfold m_X12_readLine_B228
  refine j_istore_n (pc := 228) (lv2 := [(2, .int t0), (0, .ref (mB Γ + r0)), (1, .int v1)]) dX12_readLine_228 rfl (by decide) rfl ?_
  refine j_iload_n (pc := 229) 2 dX12_readLine_229 rfl rfl ?_
  refine j_if_ne (pc := 230) 241 dX12_readLine_230 (by decide) ?_ ?_
  · refine j_iload_n (pc := 241) 0 dX12_readLine_241 rfl rfl ?_
    refine j_if_eq (pc := 242) 250 dX12_readLine_242 (by decide) ?_ ?_
    · exact J.sub [1] rfl (j_X12_readLine_B250 r0 z)
    refine j_aload_n (pc := 245) 1 dX12_readLine_245 rfl rfl ?_
    refine j_iconst (pc := 246) (v := 3) dX12_readLine_246 (by decide) ?_
    refine j_isC (fun h97 => ?_)
    refine j_callV_V (pc := 247) (as := [.int 3]) (mc2 := 0) (ms2 := 0) (ct_X12_wrong _ _ _) h97 rfl cw_X12_readLine_184 dX12_readLine_247 (Nat.le_of_ble_eq_true rfl) rfl (by decide) (by decide) (fun _ z96 => ?_)
    exact J.sub [1] rfl (j_X12_readLine_B250 r0 z96)
  refine j_aload_n (pc := 233) 1 dX12_readLine_233 rfl rfl ?_
  refine j_iconst (pc := 234) (v := 1) dX12_readLine_234 (by decide) ?_
  refine j_isC (fun h99 => ?_)
  refine j_callV_V (pc := 235) (as := [.int 1]) (mc2 := 0) (ms2 := 0) (ct_X12_wrong _ _ _) h99 rfl cw_X12_readLine_184 dX12_readLine_235 (Nat.le_of_ble_eq_true rfl) rfl (by decide) (by decide) (fun _ z98 => ?_)
  refine j_goto (pc := 238) 250 dX12_readLine_238 (by decide) ?_
  exact J.sub [1] rfl (j_X12_readLine_B250 r0 z98)
theorem j_X12_readLine_B227 {l : Launch} {Γ : Am}   : ∀ (r0 : Nat) (v1 : Int32) (z : Hp), J l Γ mi_X12_readLine cvV 0 0 227 [(0, .ref (mB Γ + r0)), (1, .int v1)] [] z (m_X12_readLine_B227  r0 v1 z) := by
  intro r0 v1 z
  unfold m_X12_readLine_B227
  refine j_iconst (pc := 227) (v := 0) dX12_readLine_227 (by decide) ?_
  exact J.sub [0, 1] rfl (j_X12_readLine_B228 r0 v1 0 z)
theorem j_X12_readLine_B223 {l : Launch} {Γ : Am}   : ∀ (r0 : Nat) (v1 : Int32) (z : Hp), J l Γ mi_X12_readLine cvV 0 0 223 [(0, .ref (mB Γ + r0)), (1, .int v1)] [] z (m_X12_readLine_B223  r0 v1 z) := by
  intro r0 v1 z
  unfold m_X12_readLine_B223
  refine j_iconst (pc := 223) (v := 1) dX12_readLine_223 (by decide) ?_
  refine j_goto (pc := 224) 228 dX12_readLine_224 (by decide) ?_
  exact J.sub [0, 1] rfl (j_X12_readLine_B228 r0 v1 1 z)
theorem j_X12_readLine_B206 {l : Launch} {Γ : Am}   : ∀ (r0 : Nat) (v1 : Int32) (z : Hp), J l Γ mi_X12_readLine cvV 0 0 206 [(0, .ref (mB Γ + r0)), (1, .int v1)] [] z (m_X12_readLine_B206  r0 v1 z) := by
  intro r0 v1 z
  unfold m_X12_readLine_B206
  refine j_aload_n (pc := 206) 0 dX12_readLine_206 rfl rfl ?_
  refine j_ldcwS (pc := 207) (w := 30) (tx := "cold") dX12_readLine_207 (by decide +kernel) ?_
  refine j_isC (fun h102 => ?_)
  refine j_callV_I (pc := 210) (as := [.ref (mT Γ 30)]) (mc2 := 0) (ms2 := 0) (ct_X12_is _ _ _) h102 rfl cw_X12_readLine_174 dX12_readLine_210 (Nat.le_of_ble_eq_true rfl) rfl (by decide) (by decide) (fun x101 z100 => ?_)
  refine j_if_eq (pc := 213) 227 dX12_readLine_213 (by decide) ?_ ?_
  · exact J.sub [0, 1] rfl (j_X12_readLine_B227 r0 v1 z100)
  refine j_aload_n (pc := 216) 0 dX12_readLine_216 rfl rfl ?_
  refine j_getI (pc := 217) ok_X12 (by decide) rfl w_1257 dX12_readLine_217 (fun x103 => ?_)
  refine j_if_eq (pc := 220) 227 dX12_readLine_220 (by decide) ?_ ?_
  · exact J.sub [0, 1] rfl (j_X12_readLine_B227 r0 v1 z100)
  exact J.sub [0, 1] rfl (j_X12_readLine_B223 r0 v1 z100)
theorem j_X12_readLine_B185 {l : Launch} {Γ : Am}   : ∀ (r0 : Nat) (v1 : Int32) (z : Hp), J l Γ mi_X12_readLine cvV 0 0 185 [(0, .ref (mB Γ + r0)), (1, .int v1)] [] z (m_X12_readLine_B185  r0 v1 z) := by
  intro r0 v1 z
  unfold m_X12_readLine_B185
  refine j_aload_n (pc := 185) 0 dX12_readLine_185 rfl rfl ?_
  refine j_ldcwS (pc := 186) (w := 28) (tx := "shaft") dX12_readLine_186 (by decide +kernel) ?_
  refine j_isC (fun h106 => ?_)
  refine j_callV_I (pc := 189) (as := [.ref (mT Γ 28)]) (mc2 := 0) (ms2 := 0) (ct_X12_is _ _ _) h106 rfl cw_X12_readLine_174 dX12_readLine_189 (Nat.le_of_ble_eq_true rfl) rfl (by decide) (by decide) (fun x105 z104 => ?_)
  refine j_if_eq (pc := 192) 206 dX12_readLine_192 (by decide) ?_ ?_
  · exact J.sub [0, 1] rfl (j_X12_readLine_B206 r0 v1 z104)
  refine j_aload_n (pc := 195) 0 dX12_readLine_195 rfl rfl ?_
  refine j_getR (pc := 196) ok_X12 (by decide) rfl w_1253 dX12_readLine_196 (fun a107 => ?_)
  refine j_bipush (pc := 199) (v := 7) dX12_readLine_199 (by decide) ?_
  refine j_iaload (pc := 201) dX12_readLine_201 (fun x108 => ?_)
  refine j_iconst (pc := 202) (v := 1) dX12_readLine_202 (by decide) ?_
  refine j_icmp_eq (pc := 203) 223 dX12_readLine_203 (by decide) ?_ ?_
  · exact J.sub [0, 1] rfl (j_X12_readLine_B223 r0 v1 z104)
  exact J.sub [0, 1] rfl (j_X12_readLine_B206 r0 v1 z104)
theorem j_X12_readLine_B168 {l : Launch} {Γ : Am}   : ∀ (r0 : Nat) (v1 : Int32) (z : Hp), J l Γ mi_X12_readLine cvV 0 0 168 [(0, .ref (mB Γ + r0)), (1, .int v1)] [] z (m_X12_readLine_B168  r0 v1 z) := by
  intro r0 v1 z
  unfold m_X12_readLine_B168
  refine j_aload_n (pc := 168) 0 dX12_readLine_168 rfl rfl ?_
  refine j_ldcwS (pc := 169) (w := 27) (tx := "far") dX12_readLine_169 (by decide +kernel) ?_
  refine j_isC (fun h111 => ?_)
  refine j_callV_I (pc := 172) (as := [.ref (mT Γ 27)]) (mc2 := 0) (ms2 := 0) (ct_X12_is _ _ _) h111 rfl cw_X12_readLine_174 dX12_readLine_172 (Nat.le_of_ble_eq_true rfl) rfl (by decide) (by decide) (fun x110 z109 => ?_)
  refine j_if_eq (pc := 175) 185 dX12_readLine_175 (by decide) ?_ ?_
  · exact J.sub [0, 1] rfl (j_X12_readLine_B185 r0 v1 z109)
  refine j_aload_n (pc := 178) 0 dX12_readLine_178 rfl rfl ?_
  refine j_getI (pc := 179) ok_X12 (by decide) rfl w_1256 dX12_readLine_179 (fun x112 => ?_)
  refine j_if_ne (pc := 182) 223 dX12_readLine_182 (by decide) ?_ ?_
  · exact J.sub [0, 1] rfl (j_X12_readLine_B223 r0 v1 z109)
  exact J.sub [0, 1] rfl (j_X12_readLine_B185 r0 v1 z109)
theorem j_X12_readLine_B148 {l : Launch} {Γ : Am}   : ∀ (r0 : Nat) (v1 : Int32) (z : Hp), J l Γ mi_X12_readLine cvV 0 0 148 [(0, .ref (mB Γ + r0)), (1, .int v1)] [] z (m_X12_readLine_B148  r0 v1 z) := by
  intro r0 v1 z
  unfold m_X12_readLine_B148
  refine j_aload_n (pc := 148) 0 dX12_readLine_148 rfl rfl ?_
  refine j_ldcwS (pc := 149) (w := 32) (tx := "dig") dX12_readLine_149 (by decide +kernel) ?_
  refine j_isC (fun h115 => ?_)
  refine j_callV_I (pc := 152) (as := [.ref (mT Γ 32)]) (mc2 := 0) (ms2 := 0) (ct_X12_is _ _ _) h115 rfl cw_X12_readLine_174 dX12_readLine_152 (Nat.le_of_ble_eq_true rfl) rfl (by decide) (by decide) (fun x114 z113 => ?_)
  refine j_if_eq (pc := 155) 168 dX12_readLine_155 (by decide) ?_ ?_
  · exact J.sub [0, 1] rfl (j_X12_readLine_B168 r0 v1 z113)
  refine j_aload_n (pc := 158) 0 dX12_readLine_158 rfl rfl ?_
  refine j_getR (pc := 159) ok_X12 (by decide) rfl w_1253 dX12_readLine_159 (fun a116 => ?_)
  refine j_iconst (pc := 162) (v := 4) dX12_readLine_162 (by decide) ?_
  refine j_iaload (pc := 163) dX12_readLine_163 (fun x117 => ?_)
  refine j_iconst (pc := 164) (v := 4) dX12_readLine_164 (by decide) ?_
  refine j_icmp_eq (pc := 165) 223 dX12_readLine_165 (by decide) ?_ ?_
  · exact J.sub [0, 1] rfl (j_X12_readLine_B223 r0 v1 z113)
  exact J.sub [0, 1] rfl (j_X12_readLine_B168 r0 v1 z113)
theorem j_X12_readLine_B127 {l : Launch} {Γ : Am}   : ∀ (r0 : Nat) (v1 : Int32) (z : Hp), J l Γ mi_X12_readLine cvV 0 0 127 [(0, .ref (mB Γ + r0)), (1, .int v1)] [] z (m_X12_readLine_B127  r0 v1 z) := by
  intro r0 v1 z
  unfold m_X12_readLine_B127
  refine j_aload_n (pc := 127) 0 dX12_readLine_127 rfl rfl ?_
  refine j_ldcwS (pc := 128) (w := 31) (tx := "house") dX12_readLine_128 (by decide +kernel) ?_
  refine j_isC (fun h120 => ?_)
  refine j_callV_I (pc := 131) (as := [.ref (mT Γ 31)]) (mc2 := 0) (ms2 := 0) (ct_X12_is _ _ _) h120 rfl cw_X12_readLine_174 dX12_readLine_131 (Nat.le_of_ble_eq_true rfl) rfl (by decide) (by decide) (fun x119 z118 => ?_)
  refine j_if_eq (pc := 134) 148 dX12_readLine_134 (by decide) ?_ ?_
  · exact J.sub [0, 1] rfl (j_X12_readLine_B148 r0 v1 z118)
  refine j_aload_n (pc := 137) 0 dX12_readLine_137 rfl rfl ?_
  refine j_getR (pc := 138) ok_X12 (by decide) rfl w_1253 dX12_readLine_138 (fun a121 => ?_)
  refine j_iconst (pc := 141) (v := 3) dX12_readLine_141 (by decide) ?_
  refine j_iaload (pc := 142) dX12_readLine_142 (fun x122 => ?_)
  refine j_bipush (pc := 143) (v := 6) dX12_readLine_143 (by decide) ?_
  refine j_icmp_eq (pc := 145) 223 dX12_readLine_145 (by decide) ?_ ?_
  · exact J.sub [0, 1] rfl (j_X12_readLine_B223 r0 v1 z118)
  exact J.sub [0, 1] rfl (j_X12_readLine_B148 r0 v1 z118)
theorem j_X12_readLine_B94 {l : Launch} {Γ : Am}   : ∀ (r0 : Nat) (t0 : Int32) (z : Hp), J l Γ mi_X12_readLine cvV 0 0 94 [(0, .ref (mB Γ + r0))] [.int t0] z (m_X12_readLine_B94  r0 t0 z) := by
  intro r0 t0 z
  unfold m_X12_readLine_B94
  refine j_istore_n (pc := 94) (lv2 := [(1, .int t0), (0, .ref (mB Γ + r0))]) dX12_readLine_94 rfl (by decide) rfl ?_
  refine j_aload_n (pc := 95) 1 dX12_readLine_95 rfl rfl ?_
  refine j_getR (pc := 96) ok_X12 (by decide) rfl w_1253 dX12_readLine_96 (fun a123 => ?_)
  refine j_iconst (pc := 99) (v := 0) dX12_readLine_99 (by decide) ?_
  refine j_iaload (pc := 100) dX12_readLine_100 (fun x124 => ?_)
  refine j_bipush (pc := 101) (v := 40) dX12_readLine_101 (by decide) ?_
  refine j_icmp_eq (pc := 103) 223 dX12_readLine_103 (by decide) ?_ ?_
  · exact J.sub [1, 0] rfl (j_X12_readLine_B223 r0 t0 z)
  refine j_aload_n (pc := 106) 1 dX12_readLine_106 rfl rfl ?_
  refine j_ldcwS (pc := 107) (w := 29) (tx := "pipe") dX12_readLine_107 (by decide +kernel) ?_
  refine j_isC (fun h127 => ?_)
  refine j_callV_I (pc := 110) (as := [.ref (mT Γ 29)]) (mc2 := 0) (ms2 := 0) (ct_X12_is _ _ _) h127 rfl cw_X12_readLine_174 dX12_readLine_110 (Nat.le_of_ble_eq_true rfl) rfl (by decide) (by decide) (fun x126 z125 => ?_)
  refine j_if_eq (pc := 113) 127 dX12_readLine_113 (by decide) ?_ ?_
  · exact J.sub [1, 0] rfl (j_X12_readLine_B127 r0 t0 z125)
  refine j_aload_n (pc := 116) 1 dX12_readLine_116 rfl rfl ?_
  refine j_getR (pc := 117) ok_X12 (by decide) rfl w_1253 dX12_readLine_117 (fun a128 => ?_)
  refine j_iconst (pc := 120) (v := 2) dX12_readLine_120 (by decide) ?_
  refine j_iaload (pc := 121) dX12_readLine_121 (fun x129 => ?_)
  refine j_bipush (pc := 122) (v := 12) dX12_readLine_122 (by decide) ?_
  refine j_icmp_eq (pc := 124) 223 dX12_readLine_124 (by decide) ?_ ?_
  · exact J.sub [1, 0] rfl (j_X12_readLine_B223 r0 t0 z125)
  exact J.sub [1, 0] rfl (j_X12_readLine_B127 r0 t0 z125)
theorem j_X12_readLine_B89 {l : Launch} {Γ : Am}   : ∀ (r0 : Nat) (z : Hp), J l Γ mi_X12_readLine cvV 0 0 89 [(0, .ref (mB Γ + r0))] [] z (m_X12_readLine_B89  r0 z) := by
  intro r0 z
  unfold m_X12_readLine_B89
  refine j_iconst (pc := 89) (v := 1) dX12_readLine_89 (by decide) ?_
  refine j_goto (pc := 90) 94 dX12_readLine_90 (by decide) ?_
  exact J.sub [0] rfl (j_X12_readLine_B94 r0 1 z)
theorem ct_X12_readLine {l : Launch} {Γ : Am} (r0 : Nat) (z : Hp) : Ct l Γ yX12_readLine mi_X12_readLine cvV [.ref (mB Γ + r0)] z (m_X12_readLine r0 z) := by
  refine Ct.ofJ (by decide) ⟨rfl, rfl⟩ (Nat.le_of_ble_eq_true rfl) ?_
  unfold m_X12_readLine
  show J l Γ mi_X12_readLine cvV 0 0 0 [(0, .ref (mB Γ + r0))] [] z _
  refine j_aload_n (pc := 0) 0 dX12_readLine_0 rfl rfl ?_
  refine j_ldcS (pc := 1) (w := 24) (tx := "ground") dX12_readLine_1 (by decide +kernel) ?_
  refine j_isC (fun h132 => ?_)
  refine j_callV_I (pc := 3) (as := [.ref (mT Γ 24)]) (mc2 := 0) (ms2 := 0) (ct_X12_is _ _ _) h132 rfl cw_X12_readLine_174 dX12_readLine_3 (Nat.le_of_ble_eq_true rfl) rfl (by decide) (by decide) (fun x131 z130 => ?_)
  refine j_if_ne (pc := 6) 89 dX12_readLine_6 (by decide) ?_ ?_
  · exact J.sub [0] rfl (j_X12_readLine_B89 r0 z130)
  refine j_aload_n (pc := 9) 0 dX12_readLine_9 rfl rfl ?_
  refine j_ldcwS (pc := 10) (w := 25) (tx := "lay") dX12_readLine_10 (by decide +kernel) ?_
  refine j_isC (fun h135 => ?_)
  refine j_callV_I (pc := 13) (as := [.ref (mT Γ 25)]) (mc2 := 0) (ms2 := 0) (ct_X12_is _ _ _) h135 rfl cw_X12_readLine_174 dX12_readLine_13 (Nat.le_of_ble_eq_true rfl) rfl (by decide) (by decide) (fun x134 z133 => ?_)
  refine j_if_ne (pc := 16) 89 dX12_readLine_16 (by decide) ?_ ?_
  · exact J.sub [0] rfl (j_X12_readLine_B89 r0 z133)
  refine j_aload_n (pc := 19) 0 dX12_readLine_19 rfl rfl ?_
  refine j_ldcwS (pc := 20) (w := 26) (tx := "stream") dX12_readLine_20 (by decide +kernel) ?_
  refine j_isC (fun h138 => ?_)
  refine j_callV_I (pc := 23) (as := [.ref (mT Γ 26)]) (mc2 := 0) (ms2 := 0) (ct_X12_is _ _ _) h138 rfl cw_X12_readLine_174 dX12_readLine_23 (Nat.le_of_ble_eq_true rfl) rfl (by decide) (by decide) (fun x137 z136 => ?_)
  refine j_if_ne (pc := 26) 89 dX12_readLine_26 (by decide) ?_ ?_
  · exact J.sub [0] rfl (j_X12_readLine_B89 r0 z136)
  refine j_aload_n (pc := 29) 0 dX12_readLine_29 rfl rfl ?_
  refine j_ldcwS (pc := 30) (w := 27) (tx := "far") dX12_readLine_30 (by decide +kernel) ?_
  refine j_isC (fun h141 => ?_)
  refine j_callV_I (pc := 33) (as := [.ref (mT Γ 27)]) (mc2 := 0) (ms2 := 0) (ct_X12_is _ _ _) h141 rfl cw_X12_readLine_174 dX12_readLine_33 (Nat.le_of_ble_eq_true rfl) rfl (by decide) (by decide) (fun x140 z139 => ?_)
  refine j_if_ne (pc := 36) 89 dX12_readLine_36 (by decide) ?_ ?_
  · exact J.sub [0] rfl (j_X12_readLine_B89 r0 z139)
  refine j_aload_n (pc := 39) 0 dX12_readLine_39 rfl rfl ?_
  refine j_ldcwS (pc := 40) (w := 28) (tx := "shaft") dX12_readLine_40 (by decide +kernel) ?_
  refine j_isC (fun h144 => ?_)
  refine j_callV_I (pc := 43) (as := [.ref (mT Γ 28)]) (mc2 := 0) (ms2 := 0) (ct_X12_is _ _ _) h144 rfl cw_X12_readLine_174 dX12_readLine_43 (Nat.le_of_ble_eq_true rfl) rfl (by decide) (by decide) (fun x143 z142 => ?_)
  refine j_if_ne (pc := 46) 89 dX12_readLine_46 (by decide) ?_ ?_
  · exact J.sub [0] rfl (j_X12_readLine_B89 r0 z142)
  refine j_aload_n (pc := 49) 0 dX12_readLine_49 rfl rfl ?_
  refine j_ldcwS (pc := 50) (w := 29) (tx := "pipe") dX12_readLine_50 (by decide +kernel) ?_
  refine j_isC (fun h147 => ?_)
  refine j_callV_I (pc := 53) (as := [.ref (mT Γ 29)]) (mc2 := 0) (ms2 := 0) (ct_X12_is _ _ _) h147 rfl cw_X12_readLine_174 dX12_readLine_53 (Nat.le_of_ble_eq_true rfl) rfl (by decide) (by decide) (fun x146 z145 => ?_)
  refine j_if_ne (pc := 56) 89 dX12_readLine_56 (by decide) ?_ ?_
  · exact J.sub [0] rfl (j_X12_readLine_B89 r0 z145)
  refine j_aload_n (pc := 59) 0 dX12_readLine_59 rfl rfl ?_
  refine j_ldcwS (pc := 60) (w := 30) (tx := "cold") dX12_readLine_60 (by decide +kernel) ?_
  refine j_isC (fun h150 => ?_)
  refine j_callV_I (pc := 63) (as := [.ref (mT Γ 30)]) (mc2 := 0) (ms2 := 0) (ct_X12_is _ _ _) h150 rfl cw_X12_readLine_174 dX12_readLine_63 (Nat.le_of_ble_eq_true rfl) rfl (by decide) (by decide) (fun x149 z148 => ?_)
  refine j_if_ne (pc := 66) 89 dX12_readLine_66 (by decide) ?_ ?_
  · exact J.sub [0] rfl (j_X12_readLine_B89 r0 z148)
  refine j_aload_n (pc := 69) 0 dX12_readLine_69 rfl rfl ?_
  refine j_ldcwS (pc := 70) (w := 31) (tx := "house") dX12_readLine_70 (by decide +kernel) ?_
  refine j_isC (fun h153 => ?_)
  refine j_callV_I (pc := 73) (as := [.ref (mT Γ 31)]) (mc2 := 0) (ms2 := 0) (ct_X12_is _ _ _) h153 rfl cw_X12_readLine_174 dX12_readLine_73 (Nat.le_of_ble_eq_true rfl) rfl (by decide) (by decide) (fun x152 z151 => ?_)
  refine j_if_ne (pc := 76) 89 dX12_readLine_76 (by decide) ?_ ?_
  · exact J.sub [0] rfl (j_X12_readLine_B89 r0 z151)
  refine j_aload_n (pc := 79) 0 dX12_readLine_79 rfl rfl ?_
  refine j_ldcwS (pc := 80) (w := 32) (tx := "dig") dX12_readLine_80 (by decide +kernel) ?_
  refine j_isC (fun h156 => ?_)
  refine j_callV_I (pc := 83) (as := [.ref (mT Γ 32)]) (mc2 := 0) (ms2 := 0) (ct_X12_is _ _ _) h156 rfl cw_X12_readLine_174 dX12_readLine_83 (Nat.le_of_ble_eq_true rfl) rfl (by decide) (by decide) (fun x155 z154 => ?_)
  refine j_if_eq (pc := 86) 93 dX12_readLine_86 (by decide) ?_ ?_
  · refine j_iconst (pc := 93) (v := 0) dX12_readLine_93 (by decide) ?_
    exact J.sub [0] rfl (j_X12_readLine_B94 r0 0 z154)
  exact J.sub [0] rfl (j_X12_readLine_B89 r0 z154)
theorem dX12_text_0 : decode cX12_text 0 = .ok (.aload_n 0, 1) := by decide +kernel
theorem dX12_text_1 : decode cX12_text 1 = .ok (.aload_n 0, 1) := by decide +kernel
theorem dX12_text_2 : decode cX12_text 2 = .ok (.getfield 122, 3) := by decide +kernel
theorem dX12_text_5 : decode cX12_text 5 = .ok (.putfield 125, 3) := by decide +kernel
theorem dX12_text_8 : decode cX12_text 8 = .ok (.aload_n 0, 1) := by decide +kernel
theorem dX12_text_9 : decode cX12_text 9 = .ok (.iconst 0, 1) := by decide +kernel
theorem dX12_text_10 : decode cX12_text 10 = .ok (.putfield 122, 3) := by decide +kernel
theorem dX12_text_13 : decode cX12_text 13 = .ok (.aload_n 0, 1) := by decide +kernel
theorem dX12_text_14 : decode cX12_text 14 = .ok (.iconst 0, 1) := by decide +kernel
theorem dX12_text_15 : decode cX12_text 15 = .ok (.putfield 128, 3) := by decide +kernel
theorem dX12_text_18 : decode cX12_text 18 = .ok (.aload_n 0, 1) := by decide +kernel
theorem dX12_text_19 : decode cX12_text 19 = .ok (.iconst 0, 1) := by decide +kernel
theorem dX12_text_20 : decode cX12_text 20 = .ok (.putfield 158, 3) := by decide +kernel
theorem dX12_text_23 : decode cX12_text 23 = .ok (.aload_n 0, 1) := by decide +kernel
theorem dX12_text_24 : decode cX12_text 24 = .ok (.iconst (-1), 1) := by decide +kernel
theorem dX12_text_25 : decode cX12_text 25 = .ok (.putfield 34, 3) := by decide +kernel
theorem dX12_text_28 : decode cX12_text 28 = .ok (.aload_n 0, 1) := by decide +kernel
theorem dX12_text_29 : decode cX12_text 29 = .ok (.getfield 37, 3) := by decide +kernel
theorem dX12_text_32 : decode cX12_text 32 = .ok (.invokestatic 86, 3) := by decide +kernel
theorem dX12_text_35 : decode cX12_text 35 = .ok (.aload_n 0, 1) := by decide +kernel
theorem dX12_text_36 : decode cX12_text 36 = .ok (.iconst 0, 1) := by decide +kernel
theorem dX12_text_37 : decode cX12_text 37 = .ok (.putfield 274, 3) := by decide +kernel
theorem dX12_text_40 : decode cX12_text 40 = .ok (.aload_n 0, 1) := by decide +kernel
theorem dX12_text_41 : decode cX12_text 41 = .ok (.iconst 0, 1) := by decide +kernel
theorem dX12_text_42 : decode cX12_text 42 = .ok (.putfield 278, 3) := by decide +kernel
theorem dX12_text_45 : decode cX12_text 45 = .ok (.iconst 0, 1) := by decide +kernel
theorem dX12_text_46 : decode cX12_text 46 = .ok (.istore_n 1, 1) := by decide +kernel
theorem dX12_text_47 : decode cX12_text 47 = .ok (.iload_n 1, 1) := by decide +kernel
theorem dX12_text_48 : decode cX12_text 48 = .ok (.iconst 4, 1) := by decide +kernel
theorem dX12_text_49 : decode cX12_text 49 = .ok (.if_icmp .ge 16, 3) := by decide +kernel
theorem dX12_text_52 : decode cX12_text 52 = .ok (.aload_n 0, 1) := by decide +kernel
theorem dX12_text_53 : decode cX12_text 53 = .ok (.getfield 40, 3) := by decide +kernel
theorem dX12_text_56 : decode cX12_text 56 = .ok (.iload_n 1, 1) := by decide +kernel
theorem dX12_text_57 : decode cX12_text 57 = .ok (.iconst 0, 1) := by decide +kernel
theorem dX12_text_58 : decode cX12_text 58 = .ok (.bastore, 1) := by decide +kernel
theorem dX12_text_59 : decode cX12_text 59 = .ok (.iinc 1 1, 3) := by decide +kernel
theorem dX12_text_62 : decode cX12_text 62 = .ok (.goto (-15), 3) := by decide +kernel
theorem dX12_text_65 : decode cX12_text 65 = .ok (.iconst 0, 1) := by decide +kernel
theorem dX12_text_66 : decode cX12_text 66 = .ok (.istore_n 1, 1) := by decide +kernel
theorem dX12_text_67 : decode cX12_text 67 = .ok (.iload_n 1, 1) := by decide +kernel
theorem dX12_text_68 : decode cX12_text 68 = .ok (.bipush 12, 2) := by decide +kernel
theorem dX12_text_70 : decode cX12_text 70 = .ok (.if_icmp .ge 16, 3) := by decide +kernel
theorem dX12_text_73 : decode cX12_text 73 = .ok (.aload_n 0, 1) := by decide +kernel
theorem dX12_text_74 : decode cX12_text 74 = .ok (.getfield 43, 3) := by decide +kernel
theorem dX12_text_77 : decode cX12_text 77 = .ok (.iload_n 1, 1) := by decide +kernel
theorem dX12_text_78 : decode cX12_text 78 = .ok (.iconst 0, 1) := by decide +kernel
theorem dX12_text_79 : decode cX12_text 79 = .ok (.bastore, 1) := by decide +kernel
theorem dX12_text_80 : decode cX12_text 80 = .ok (.iinc 1 1, 3) := by decide +kernel
theorem dX12_text_83 : decode cX12_text 83 = .ok (.goto (-16), 3) := by decide +kernel
theorem dX12_text_86 : decode cX12_text 86 = .ok (.aload_n 0, 1) := by decide +kernel
theorem dX12_text_87 : decode cX12_text 87 = .ok (.invokevirtual 178, 3) := by decide +kernel
theorem dX12_text_90 : decode cX12_text 90 = .ok (.aload_n 0, 1) := by decide +kernel
theorem dX12_text_91 : decode cX12_text 91 = .ok (.invokevirtual 161, 3) := by decide +kernel
theorem dX12_text_94 : decode cX12_text 94 = .ok (.ifCond .eq 17, 3) := by decide +kernel
theorem dX12_text_97 : decode cX12_text 97 = .ok (.aload_n 0, 1) := by decide +kernel
theorem dX12_text_98 : decode cX12_text 98 = .ok (.getfield 138, 3) := by decide +kernel
theorem dX12_text_101 : decode cX12_text 101 = .ok (.ifCond .eq 10, 3) := by decide +kernel
theorem dX12_text_104 : decode cX12_text 104 = .ok (.aload_n 0, 1) := by decide +kernel
theorem dX12_text_105 : decode cX12_text 105 = .ok (.invokevirtual 298, 3) := by decide +kernel
theorem dX12_text_108 : decode cX12_text 108 = .ok (.goto (-18), 3) := by decide +kernel
theorem dX12_text_111 : decode cX12_text 111 = .ok (.aload_n 0, 1) := by decide +kernel
theorem dX12_text_112 : decode cX12_text 112 = .ok (.invokevirtual 161, 3) := by decide +kernel
theorem dX12_text_115 : decode cX12_text 115 = .ok (.ifCond .ne 6, 3) := by decide +kernel
theorem dX12_text_118 : decode cX12_text 118 = .ok (.bipush (-4), 2) := by decide +kernel
theorem dX12_text_120 : decode cX12_text 120 = .ok (.ireturn, 1) := by decide +kernel
theorem dX12_text_121 : decode cX12_text 121 = .ok (.iconst 0, 1) := by decide +kernel
theorem dX12_text_122 : decode cX12_text 122 = .ok (.istore_n 1, 1) := by decide +kernel
theorem dX12_text_123 : decode cX12_text 123 = .ok (.iload_n 1, 1) := by decide +kernel
theorem dX12_text_124 : decode cX12_text 124 = .ok (.sipush 810, 3) := by decide +kernel
theorem dX12_text_127 : decode cX12_text 127 = .ok (.if_icmp .ge 21, 3) := by decide +kernel
theorem dX12_text_130 : decode cX12_text 130 = .ok (.aload_n 0, 1) := by decide +kernel
theorem dX12_text_131 : decode cX12_text 131 = .ok (.getfield 13, 3) := by decide +kernel
theorem dX12_text_134 : decode cX12_text 134 = .ok (.iload_n 1, 1) := by decide +kernel
theorem dX12_text_135 : decode cX12_text 135 = .ok (.aload_n 0, 1) := by decide +kernel
theorem dX12_text_136 : decode cX12_text 136 = .ok (.getfield 37, 3) := by decide +kernel
theorem dX12_text_139 : decode cX12_text 139 = .ok (.iload_n 1, 1) := by decide +kernel
theorem dX12_text_140 : decode cX12_text 140 = .ok (.iaload, 1) := by decide +kernel
theorem dX12_text_141 : decode cX12_text 141 = .ok (.iastore, 1) := by decide +kernel
theorem dX12_text_142 : decode cX12_text 142 = .ok (.iinc 1 1, 3) := by decide +kernel
theorem dX12_text_145 : decode cX12_text 145 = .ok (.goto (-22), 3) := by decide +kernel
theorem dX12_text_148 : decode cX12_text 148 = .ok (.aload_n 0, 1) := by decide +kernel
theorem dX12_text_149 : decode cX12_text 149 = .ok (.invokevirtual 90, 3) := by decide +kernel
theorem dX12_text_152 : decode cX12_text 152 = .ok (.aload_n 0, 1) := by decide +kernel
theorem dX12_text_153 : decode cX12_text 153 = .ok (.getfield 13, 3) := by decide +kernel
theorem dX12_text_156 : decode cX12_text 156 = .ok (.iconst 0, 1) := by decide +kernel
theorem dX12_text_157 : decode cX12_text 157 = .ok (.iaload, 1) := by decide +kernel
theorem dX12_text_158 : decode cX12_text 158 = .ok (.ireturn, 1) := by decide +kernel
theorem cw_X12_text_90 : CwV mi_X12_text mi_X12_begins yX12_begins RX12 90 0 := ⟨⟨w_1231, w_1233, w_42, w_108, w_1234⟩, ⟨by decide, by decide⟩, by decide +kernel, by decide, by decide⟩
theorem cw_X12_text_161 : CwV mi_X12_text mi_X12_good yX12_good RX12 161 0 := ⟨⟨w_1398, w_1400, w_46, w_108, w_1401⟩, ⟨by decide, by decide⟩, by decide +kernel, by decide, by decide⟩
theorem cw_X12_text_298 : CwV mi_X12_text mi_X12_readLine yX12_readLine RX12 298 0 := ⟨⟨w_1402, w_1404, w_47, w_108, w_1405⟩, ⟨by decide, by decide⟩, by decide +kernel, by decide, by decide⟩
theorem cw_X12_text_178 : CwV mi_X12_text mi_X12_step yX12_step RX12 178 0 := ⟨⟨w_1384, w_1386, w_44, w_108, w_1387⟩, ⟨by decide, by decide⟩, by decide +kernel, by decide, by decide⟩
theorem cw_X12_text_86 : CwS mi_X12_text mi_X12_plain yX12_plain 86 1 := ⟨⟨w_1224, w_1225, w_108, w_1226⟩, ⟨by decide, by decide⟩, by decide +kernel, by decide, by decide⟩
theorem j_X12_text_B148 {l : Launch} {Γ : Am}   : ∀ (r0 : Nat) (z : Hp), J l Γ mi_X12_text cvI 0 0 148 [(0, .ref (mB Γ + r0))] [] z (m_X12_text_B148  r0 z) := by
  intro r0 z
  unfold m_X12_text_B148
  refine j_aload_n (pc := 148) 0 dX12_text_148 rfl rfl ?_
  refine j_isC (fun h2 => ?_)
  refine j_callV_V (pc := 149) (as := []) (mc2 := 0) (ms2 := 0) (ct_X12_begins _ _) h2 rfl cw_X12_text_90 dX12_text_149 (Nat.le_of_ble_eq_true rfl) rfl (by decide) (by decide) (fun _ z1 => ?_)
  refine j_aload_n (pc := 152) 0 dX12_text_152 rfl rfl ?_
  refine j_getR (pc := 153) ok_X12 (by decide) rfl w_1239 dX12_text_153 (fun a3 => ?_)
  refine j_iconst (pc := 156) (v := 0) dX12_text_156 (by decide) ?_
  refine j_iaload (pc := 157) dX12_text_157 (fun x4 => ?_)
  exact j_ireturn (pc := 158) dX12_text_158 rfl rfl
theorem j_X12_text_L123 {l : Launch} {Γ : Am} {k148 : Nat → Hp → Option (Int32 × Hp)} (hL148 : ∀ (r0 : Nat) (z : Hp), J l Γ mi_X12_text cvI 0 0 148 [(0, .ref (mB Γ + r0))] [] z (k148 r0 z)) : ∀ (f : Nat), ∀ (r0 : Nat) (v1 : Int32) (z : Hp), J l Γ mi_X12_text cvI 0 0 123 [(0, .ref (mB Γ + r0)), (1, .int v1)] [] z (m_X12_text_L123 k148 f r0 v1 z) := by
  intro f
  induction f with
  | zero => intro r0 v1 z; exact J.none
  | succ f hL123 =>
    intro r0 v1 z
    rw [m_X12_text_L123]
    refine j_iload_n (pc := 123) 1 dX12_text_123 rfl rfl ?_
    refine j_sipush (pc := 124) (v := 810) dX12_text_124 (by decide) ?_
    refine j_icmp_ge (pc := 127) 148 dX12_text_127 (by decide) ?_ ?_
    · exact J.sub [0] rfl (hL148 r0 z)
    refine j_aload_n (pc := 130) 0 dX12_text_130 rfl rfl ?_
    refine j_getR (pc := 131) ok_X12 (by decide) rfl w_1239 dX12_text_131 (fun a5 => ?_)
    refine j_iload_n (pc := 134) 1 dX12_text_134 rfl rfl ?_
    refine j_aload_n (pc := 135) 0 dX12_text_135 rfl rfl ?_
    refine j_getR (pc := 136) ok_X12 (by decide) rfl w_1253 dX12_text_136 (fun a6 => ?_)
    refine j_iload_n (pc := 139) 1 dX12_text_139 rfl rfl ?_
    refine j_iaload (pc := 140) dX12_text_140 (fun x7 => ?_)
    refine j_iastore (pc := 141) dX12_text_141 (fun z8 => ?_)
    refine j_iinc (pc := 142) (n0 := 1) (v0 := v1 + 1) (lv2 := [(1, .int (v1 + 1)), (0, .ref (mB Γ + r0))]) dX12_text_142 rfl rfl (by decide) rfl ?_
    refine j_goto (pc := 145) 123 dX12_text_145 (by decide) ?_
    exact J.sub [1, 0] rfl (hL123 r0 (v1 + 1) z8)
theorem j_X12_text_B111 {l : Launch} {Γ : Am}   : ∀ (r0 : Nat) (z : Hp), J l Γ mi_X12_text cvI 0 0 111 [(0, .ref (mB Γ + r0))] [] z (m_X12_text_B111  r0 z) := by
  intro r0 z
  unfold m_X12_text_B111
  refine j_aload_n (pc := 111) 0 dX12_text_111 rfl rfl ?_
  refine j_isC (fun h11 => ?_)
  refine j_callV_I (pc := 112) (as := []) (mc2 := 0) (ms2 := 0) (ct_X12_good _ _) h11 rfl cw_X12_text_161 dX12_text_112 (Nat.le_of_ble_eq_true rfl) rfl (by decide) (by decide) (fun x10 z9 => ?_)
  refine j_if_ne (pc := 115) 121 dX12_text_115 (by decide) ?_ ?_
  · refine j_iconst (pc := 121) (v := 0) dX12_text_121 (by decide) ?_
    refine j_istore_n (pc := 122) (lv2 := [(1, .int 0), (0, .ref (mB Γ + r0))]) dX12_text_122 rfl (by decide) rfl ?_
    exact J.sub [1, 0] rfl ((j_X12_text_L123 j_X12_text_B148 FU) r0 0 z9)
  refine j_bipush (pc := 118) (v := (-4)) dX12_text_118 (by decide) ?_
  exact j_ireturn (pc := 120) dX12_text_120 rfl rfl
theorem j_X12_text_L90 {l : Launch} {Γ : Am} {k111 : Nat → Hp → Option (Int32 × Hp)} (hL111 : ∀ (r0 : Nat) (z : Hp), J l Γ mi_X12_text cvI 0 0 111 [(0, .ref (mB Γ + r0))] [] z (k111 r0 z)) : ∀ (f : Nat), ∀ (r0 : Nat) (z : Hp), J l Γ mi_X12_text cvI 0 0 90 [(0, .ref (mB Γ + r0))] [] z (m_X12_text_L90 k111 f r0 z) := by
  intro f
  induction f with
  | zero => intro r0 z; exact J.none
  | succ f hL90 =>
    intro r0 z
    rw [m_X12_text_L90]
    refine j_aload_n (pc := 90) 0 dX12_text_90 rfl rfl ?_
    refine j_isC (fun h14 => ?_)
    refine j_callV_I (pc := 91) (as := []) (mc2 := 0) (ms2 := 0) (ct_X12_good _ _) h14 rfl cw_X12_text_161 dX12_text_91 (Nat.le_of_ble_eq_true rfl) rfl (by decide) (by decide) (fun x13 z12 => ?_)
    refine j_if_eq (pc := 94) 111 dX12_text_94 (by decide) ?_ ?_
    · exact J.sub [0] rfl (hL111 r0 z12)
    refine j_aload_n (pc := 97) 0 dX12_text_97 rfl rfl ?_
    refine j_getI (pc := 98) ok_X12 (by decide) rfl w_1249 dX12_text_98 (fun x15 => ?_)
    refine j_if_eq (pc := 101) 111 dX12_text_101 (by decide) ?_ ?_
    · exact J.sub [0] rfl (hL111 r0 z12)
    refine j_aload_n (pc := 104) 0 dX12_text_104 rfl rfl ?_
    refine j_isC (fun h17 => ?_)
    refine j_callV_V (pc := 105) (as := []) (mc2 := 0) (ms2 := 0) (ct_X12_readLine _ _) h17 rfl cw_X12_text_298 dX12_text_105 (Nat.le_of_ble_eq_true rfl) rfl (by decide) (by decide) (fun _ z16 => ?_)
    refine j_goto (pc := 108) 90 dX12_text_108 (by decide) ?_
    exact J.sub [0] rfl (hL90 r0 z16)
theorem j_X12_text_B86 {l : Launch} {Γ : Am}   : ∀ (r0 : Nat) (z : Hp), J l Γ mi_X12_text cvI 0 0 86 [(0, .ref (mB Γ + r0))] [] z (m_X12_text_B86  r0 z) := by
  intro r0 z
  unfold m_X12_text_B86
  refine j_aload_n (pc := 86) 0 dX12_text_86 rfl rfl ?_
  refine j_isC (fun h19 => ?_)
  refine j_callV_V (pc := 87) (as := []) (mc2 := 0) (ms2 := 0) (ct_X12_step _ _) h19 rfl cw_X12_text_178 dX12_text_87 (Nat.le_of_ble_eq_true rfl) rfl (by decide) (by decide) (fun _ z18 => ?_)
  exact J.sub [0] rfl ((j_X12_text_L90 j_X12_text_B111 FU) r0 z18)
theorem j_X12_text_L67 {l : Launch} {Γ : Am} {k86 : Nat → Hp → Option (Int32 × Hp)} (hL86 : ∀ (r0 : Nat) (z : Hp), J l Γ mi_X12_text cvI 0 0 86 [(0, .ref (mB Γ + r0))] [] z (k86 r0 z)) : ∀ (f : Nat), ∀ (r0 : Nat) (v1 : Int32) (z : Hp), J l Γ mi_X12_text cvI 0 0 67 [(0, .ref (mB Γ + r0)), (1, .int v1)] [] z (m_X12_text_L67 k86 f r0 v1 z) := by
  intro f
  induction f with
  | zero => intro r0 v1 z; exact J.none
  | succ f hL67 =>
    intro r0 v1 z
    rw [m_X12_text_L67]
    refine j_iload_n (pc := 67) 1 dX12_text_67 rfl rfl ?_
    refine j_bipush (pc := 68) (v := 12) dX12_text_68 (by decide) ?_
    refine j_icmp_ge (pc := 70) 86 dX12_text_70 (by decide) ?_ ?_
    · exact J.sub [0] rfl (hL86 r0 z)
    refine j_aload_n (pc := 73) 0 dX12_text_73 rfl rfl ?_
    refine j_getR (pc := 74) ok_X12 (by decide) rfl w_1255 dX12_text_74 (fun a20 => ?_)
    refine j_iload_n (pc := 77) 1 dX12_text_77 rfl rfl ?_
    refine j_iconst (pc := 78) (v := 0) dX12_text_78 (by decide) ?_
    refine j_zastore (pc := 79) dX12_text_79 (fun z21 => ?_)
    refine j_iinc (pc := 80) (n0 := 1) (v0 := v1 + 1) (lv2 := [(1, .int (v1 + 1)), (0, .ref (mB Γ + r0))]) dX12_text_80 rfl rfl (by decide) rfl ?_
    refine j_goto (pc := 83) 67 dX12_text_83 (by decide) ?_
    exact J.sub [1, 0] rfl (hL67 r0 (v1 + 1) z21)
theorem j_X12_text_B65 {l : Launch} {Γ : Am}   : ∀ (r0 : Nat) (z : Hp), J l Γ mi_X12_text cvI 0 0 65 [(0, .ref (mB Γ + r0))] [] z (m_X12_text_B65  r0 z) := by
  intro r0 z
  unfold m_X12_text_B65
  refine j_iconst (pc := 65) (v := 0) dX12_text_65 (by decide) ?_
  refine j_istore_n (pc := 66) (lv2 := [(1, .int 0), (0, .ref (mB Γ + r0))]) dX12_text_66 rfl (by decide) rfl ?_
  exact J.sub [1, 0] rfl ((j_X12_text_L67 j_X12_text_B86 FU) r0 0 z)
theorem j_X12_text_L47 {l : Launch} {Γ : Am} {k65 : Nat → Hp → Option (Int32 × Hp)} (hL65 : ∀ (r0 : Nat) (z : Hp), J l Γ mi_X12_text cvI 0 0 65 [(0, .ref (mB Γ + r0))] [] z (k65 r0 z)) : ∀ (f : Nat), ∀ (r0 : Nat) (v1 : Int32) (z : Hp), J l Γ mi_X12_text cvI 0 0 47 [(0, .ref (mB Γ + r0)), (1, .int v1)] [] z (m_X12_text_L47 k65 f r0 v1 z) := by
  intro f
  induction f with
  | zero => intro r0 v1 z; exact J.none
  | succ f hL47 =>
    intro r0 v1 z
    rw [m_X12_text_L47]
    refine j_iload_n (pc := 47) 1 dX12_text_47 rfl rfl ?_
    refine j_iconst (pc := 48) (v := 4) dX12_text_48 (by decide) ?_
    refine j_icmp_ge (pc := 49) 65 dX12_text_49 (by decide) ?_ ?_
    · exact J.sub [0] rfl (hL65 r0 z)
    refine j_aload_n (pc := 52) 0 dX12_text_52 rfl rfl ?_
    refine j_getR (pc := 53) ok_X12 (by decide) rfl w_1254 dX12_text_53 (fun a22 => ?_)
    refine j_iload_n (pc := 56) 1 dX12_text_56 rfl rfl ?_
    refine j_iconst (pc := 57) (v := 0) dX12_text_57 (by decide) ?_
    refine j_zastore (pc := 58) dX12_text_58 (fun z23 => ?_)
    refine j_iinc (pc := 59) (n0 := 1) (v0 := v1 + 1) (lv2 := [(1, .int (v1 + 1)), (0, .ref (mB Γ + r0))]) dX12_text_59 rfl rfl (by decide) rfl ?_
    refine j_goto (pc := 62) 47 dX12_text_62 (by decide) ?_
    exact J.sub [1, 0] rfl (hL47 r0 (v1 + 1) z23)
theorem ct_X12_text {l : Launch} {Γ : Am} (r0 : Nat) (z : Hp) : Ct l Γ yX12_text mi_X12_text cvI [.ref (mB Γ + r0)] z (m_X12_text r0 z) := by
  refine Ct.ofJ (by decide) ⟨rfl, rfl⟩ (Nat.le_of_ble_eq_true rfl) ?_
  unfold m_X12_text
  show J l Γ mi_X12_text cvI 0 0 0 [(0, .ref (mB Γ + r0))] [] z _
  refine j_aload_n (pc := 0) 0 dX12_text_0 rfl rfl ?_
  refine j_aload_n (pc := 1) 0 dX12_text_1 rfl rfl ?_
  refine j_getI (pc := 2) ok_X12 (by decide) rfl w_1244 dX12_text_2 (fun x24 => ?_)
  refine j_putI (pc := 5) ok_X12 (by decide) rfl w_1246 (Or.inl rfl) rfl rfl dX12_text_5 (fun z25 => ?_)
  refine j_aload_n (pc := 8) 0 dX12_text_8 rfl rfl ?_
  refine j_iconst (pc := 9) (v := 0) dX12_text_9 (by decide) ?_
  refine j_putI (pc := 10) ok_X12 (by decide) rfl w_1244 (Or.inl rfl) rfl rfl dX12_text_10 (fun z26 => ?_)
  refine j_aload_n (pc := 13) 0 dX12_text_13 rfl rfl ?_
  refine j_iconst (pc := 14) (v := 0) dX12_text_14 (by decide) ?_
  refine j_putI (pc := 15) ok_X12 (by decide) rfl w_1247 (Or.inl rfl) rfl rfl dX12_text_15 (fun z27 => ?_)
  refine j_aload_n (pc := 18) 0 dX12_text_18 rfl rfl ?_
  refine j_iconst (pc := 19) (v := 0) dX12_text_19 (by decide) ?_
  refine j_putI (pc := 20) ok_X12 (by decide) rfl w_1251 (Or.inl rfl) rfl rfl dX12_text_20 (fun z28 => ?_)
  refine j_aload_n (pc := 23) 0 dX12_text_23 rfl rfl ?_
  refine j_iconst (pc := 24) (v := (-1)) dX12_text_24 (by decide) ?_
  refine j_putI (pc := 25) ok_X12 (by decide) rfl w_1252 (Or.inl rfl) rfl rfl dX12_text_25 (fun z29 => ?_)
  refine j_aload_n (pc := 28) 0 dX12_text_28 rfl rfl ?_
  refine j_getR (pc := 29) ok_X12 (by decide) rfl w_1253 dX12_text_29 (fun a30 => ?_)
  refine j_callS_V (pc := 32) (as := [.ref (mB Γ + a30)]) (mc2 := 0) (ms2 := 0) (ct_X12_plain _ _) cw_X12_text_86 dX12_text_32 (Nat.le_of_ble_eq_true rfl) rfl (by decide) (by decide) (fun _ z31 => ?_)
  refine j_aload_n (pc := 35) 0 dX12_text_35 rfl rfl ?_
  refine j_iconst (pc := 36) (v := 0) dX12_text_36 (by decide) ?_
  refine j_putI (pc := 37) ok_X12 (by decide) rfl w_1256 (Or.inl rfl) rfl rfl dX12_text_37 (fun z32 => ?_)
  refine j_aload_n (pc := 40) 0 dX12_text_40 rfl rfl ?_
  refine j_iconst (pc := 41) (v := 0) dX12_text_41 (by decide) ?_
  refine j_putI (pc := 42) ok_X12 (by decide) rfl w_1257 (Or.inl rfl) rfl rfl dX12_text_42 (fun z33 => ?_)
  refine j_iconst (pc := 45) (v := 0) dX12_text_45 (by decide) ?_
  refine j_istore_n (pc := 46) (lv2 := [(1, .int 0), (0, .ref (mB Γ + r0))]) dX12_text_46 rfl (by decide) rfl ?_
  exact J.sub [1, 0] rfl ((j_X12_text_L47 j_X12_text_B65 FU) r0 0 z33)
theorem dX12_fault_0 : decode cX12_fault 0 = .ok (.iload_n 1, 1) := by decide +kernel
theorem dX12_fault_1 : decode cX12_fault 1 = .ok (.ifCond .ne 10, 3) := by decide +kernel
theorem dX12_fault_4 : decode cX12_fault 4 = .ok (.aload_n 0, 1) := by decide +kernel
theorem dX12_fault_5 : decode cX12_fault 5 = .ok (.getfield 158, 3) := by decide +kernel
theorem dX12_fault_8 : decode cX12_fault 8 = .ok (.goto 16, 3) := by decide +kernel
theorem dX12_fault_11 : decode cX12_fault 11 = .ok (.iload_n 1, 1) := by decide +kernel
theorem dX12_fault_12 : decode cX12_fault 12 = .ok (.iconst 1, 1) := by decide +kernel
theorem dX12_fault_13 : decode cX12_fault 13 = .ok (.if_icmp .ne 10, 3) := by decide +kernel
theorem dX12_fault_16 : decode cX12_fault 16 = .ok (.aload_n 0, 1) := by decide +kernel
theorem dX12_fault_17 : decode cX12_fault 17 = .ok (.getfield 34, 3) := by decide +kernel
theorem dX12_fault_20 : decode cX12_fault 20 = .ok (.goto 4, 3) := by decide +kernel
theorem dX12_fault_23 : decode cX12_fault 23 = .ok (.iconst (-1), 1) := by decide +kernel
theorem dX12_fault_24 : decode cX12_fault 24 = .ok (.ireturn, 1) := by decide +kernel
theorem ct_X12_fault {l : Launch} {Γ : Am} (r0 : Nat) (v1 : Int32) (z : Hp) : Ct l Γ yX12_fault mi_X12_fault cvI [.ref (mB Γ + r0), .int v1] z (m_X12_fault r0 v1 z) := by
  refine Ct.ofJ (by decide) ⟨rfl, rfl⟩ (Nat.le_of_ble_eq_true rfl) ?_
  unfold m_X12_fault
  show J l Γ mi_X12_fault cvI 0 0 0 [(0, .ref (mB Γ + r0)), (1, .int v1)] [] z _
  refine j_iload_n (pc := 0) 1 dX12_fault_0 rfl rfl ?_
  refine j_if_ne (pc := 1) 11 dX12_fault_1 (by decide) ?_ ?_
  · refine j_iload_n (pc := 11) 1 dX12_fault_11 rfl rfl ?_
    refine j_iconst (pc := 12) (v := 1) dX12_fault_12 (by decide) ?_
    refine j_icmp_ne (pc := 13) 23 dX12_fault_13 (by decide) ?_ ?_
    · refine j_iconst (pc := 23) (v := (-1)) dX12_fault_23 (by decide) ?_
      exact j_ireturn (pc := 24) dX12_fault_24 rfl rfl
    refine j_aload_n (pc := 16) 0 dX12_fault_16 rfl rfl ?_
    refine j_getI (pc := 17) ok_X12 (by decide) rfl w_1252 dX12_fault_17 (fun x1 => ?_)
    refine j_goto (pc := 20) 24 dX12_fault_20 (by decide) ?_
    exact j_ireturn (pc := 24) dX12_fault_24 rfl rfl
  refine j_aload_n (pc := 4) 0 dX12_fault_4 rfl rfl ?_
  refine j_getI (pc := 5) ok_X12 (by decide) rfl w_1251 dX12_fault_5 (fun x2 => ?_)
  refine j_goto (pc := 8) 24 dX12_fault_8 (by decide) ?_
  exact j_ireturn (pc := 24) dX12_fault_24 rfl rfl
theorem dX12_leadOf_0 : decode cX12_leadOf 0 = .ok (.aload_n 0, 1) := by decide +kernel
theorem dX12_leadOf_1 : decode cX12_leadOf 1 = .ok (.iload_n 1, 1) := by decide +kernel
theorem dX12_leadOf_2 : decode cX12_leadOf 2 = .ok (.aload_n 0, 1) := by decide +kernel
theorem dX12_leadOf_3 : decode cX12_leadOf 3 = .ok (.iload_n 1, 1) := by decide +kernel
theorem dX12_leadOf_4 : decode cX12_leadOf 4 = .ok (.invokevirtual 301, 3) := by decide +kernel
theorem dX12_leadOf_7 : decode cX12_leadOf 7 = .ok (.ifCond .eq 7, 3) := by decide +kernel
theorem dX12_leadOf_10 : decode cX12_leadOf 10 = .ok (.iconst 1, 1) := by decide +kernel
theorem dX12_leadOf_11 : decode cX12_leadOf 11 = .ok (.goto 4, 3) := by decide +kernel
theorem dX12_leadOf_14 : decode cX12_leadOf 14 = .ok (.iconst 0, 1) := by decide +kernel
theorem dX12_leadOf_15 : decode cX12_leadOf 15 = .ok (.invokevirtual 106, 3) := by decide +kernel
theorem dX12_leadOf_18 : decode cX12_leadOf 18 = .ok (.ireturn, 1) := by decide +kernel
theorem cw_X12_leadOf_106 : CwV mi_X12_leadOf mi_X12_groundOf yX12_groundOf RX12 106 2 := ⟨⟨w_1533, w_1535, w_69, w_108, w_1536⟩, ⟨by decide, by decide⟩, by decide +kernel, by decide, by decide⟩
theorem cw_X12_leadOf_301 : CwV mi_X12_leadOf mi_X12_isFrozen yX12_isFrozen RX12 301 1 := ⟨⟨w_1529, w_1531, w_68, w_108, w_1532⟩, ⟨by decide, by decide⟩, by decide +kernel, by decide, by decide⟩
theorem j_X12_leadOf_B15 {l : Launch} {Γ : Am}   : ∀ (t0 : Int32) (t1 : Int32) (b2 : Nat) (z : Hp), J l Γ mi_X12_leadOf cvI 0 0 15 [] [.int t0, .int t1, .ref (mB Γ + b2)] z (m_X12_leadOf_B15  t0 t1 b2 z) := by
  intro t0 t1 b2 z
  unfold m_X12_leadOf_B15
  refine j_isC (fun h3 => ?_)
  refine j_callV_I (pc := 15) (as := [.int t1, .int t0]) (mc2 := 0) (ms2 := 0) (ct_X12_groundOf _ _ _ _) h3 rfl cw_X12_leadOf_106 dX12_leadOf_15 (Nat.le_of_ble_eq_true rfl) rfl (by decide) (by decide) (fun x2 z1 => ?_)
  exact j_ireturn (pc := 18) dX12_leadOf_18 rfl rfl
theorem ct_X12_leadOf {l : Launch} {Γ : Am} (r0 : Nat) (v1 : Int32) (z : Hp) : Ct l Γ yX12_leadOf mi_X12_leadOf cvI [.ref (mB Γ + r0), .int v1] z (m_X12_leadOf r0 v1 z) := by
  refine Ct.ofJ (by decide) ⟨rfl, rfl⟩ (Nat.le_of_ble_eq_true rfl) ?_
  unfold m_X12_leadOf
  show J l Γ mi_X12_leadOf cvI 0 0 0 [(0, .ref (mB Γ + r0)), (1, .int v1)] [] z _
  refine j_aload_n (pc := 0) 0 dX12_leadOf_0 rfl rfl ?_
  refine j_iload_n (pc := 1) 1 dX12_leadOf_1 rfl rfl ?_
  refine j_aload_n (pc := 2) 0 dX12_leadOf_2 rfl rfl ?_
  refine j_iload_n (pc := 3) 1 dX12_leadOf_3 rfl rfl ?_
  refine j_isC (fun h6 => ?_)
  refine j_callV_I (pc := 4) (as := [.int v1]) (mc2 := 0) (ms2 := 0) (ct_X12_isFrozen _ _ _) h6 rfl cw_X12_leadOf_301 dX12_leadOf_4 (Nat.le_of_ble_eq_true rfl) rfl (by decide) (by decide) (fun x5 z4 => ?_)
  refine j_if_eq (pc := 7) 14 dX12_leadOf_7 (by decide) ?_ ?_
  · refine j_iconst (pc := 14) (v := 0) dX12_leadOf_14 (by decide) ?_
    exact J.sub [] rfl (j_X12_leadOf_B15 0 v1 r0 z4)
  refine j_iconst (pc := 10) (v := 1) dX12_leadOf_10 (by decide) ?_
  refine j_goto (pc := 11) 15 dX12_leadOf_11 (by decide) ?_
  exact J.sub [] rfl (j_X12_leadOf_B15 1 v1 r0 z4)
theorem dX12_comesBeside_0 : decode cX12_comesBeside 0 = .ok (.iconst 0, 1) := by decide +kernel
theorem dX12_comesBeside_1 : decode cX12_comesBeside 1 = .ok (.istore_n 2, 1) := by decide +kernel
theorem dX12_comesBeside_2 : decode cX12_comesBeside 2 = .ok (.iload_n 2, 1) := by decide +kernel
theorem dX12_comesBeside_3 : decode cX12_comesBeside 3 = .ok (.iconst 4, 1) := by decide +kernel
theorem dX12_comesBeside_4 : decode cX12_comesBeside 4 = .ok (.if_icmp .ge 129, 3) := by decide +kernel
theorem dX12_comesBeside_7 : decode cX12_comesBeside 7 = .ok (.iload_n 1, 1) := by decide +kernel
theorem dX12_comesBeside_8 : decode cX12_comesBeside 8 = .ok (.iload_n 2, 1) := by decide +kernel
theorem dX12_comesBeside_9 : decode cX12_comesBeside 9 = .ok (.invokestatic 304, 3) := by decide +kernel
theorem dX12_comesBeside_12 : decode cX12_comesBeside 12 = .ok (.istore_n 3, 1) := by decide +kernel
theorem dX12_comesBeside_13 : decode cX12_comesBeside 13 = .ok (.iload_n 3, 1) := by decide +kernel
theorem dX12_comesBeside_14 : decode cX12_comesBeside 14 = .ok (.iconst (-1), 1) := by decide +kernel
theorem dX12_comesBeside_15 : decode cX12_comesBeside 15 = .ok (.if_icmp .ne 57, 3) := by decide +kernel
theorem dX12_comesBeside_18 : decode cX12_comesBeside 18 = .ok (.aload_n 0, 1) := by decide +kernel
theorem dX12_comesBeside_19 : decode cX12_comesBeside 19 = .ok (.getfield 13, 3) := by decide +kernel
theorem dX12_comesBeside_22 : decode cX12_comesBeside 22 = .ok (.iconst 5, 1) := by decide +kernel
theorem dX12_comesBeside_23 : decode cX12_comesBeside 23 = .ok (.iaload, 1) := by decide +kernel
theorem dX12_comesBeside_24 : decode cX12_comesBeside 24 = .ok (.aload_n 0, 1) := by decide +kernel
theorem dX12_comesBeside_25 : decode cX12_comesBeside 25 = .ok (.getfield 13, 3) := by decide +kernel
theorem dX12_comesBeside_28 : decode cX12_comesBeside 28 = .ok (.sipush 192, 3) := by decide +kernel
theorem dX12_comesBeside_31 : decode cX12_comesBeside 31 = .ok (.iload_n 1, 1) := by decide +kernel
theorem dX12_comesBeside_32 : decode cX12_comesBeside 32 = .ok (.iadd, 1) := by decide +kernel
theorem dX12_comesBeside_33 : decode cX12_comesBeside 33 = .ok (.iaload, 1) := by decide +kernel
theorem dX12_comesBeside_34 : decode cX12_comesBeside 34 = .ok (.isub, 1) := by decide +kernel
theorem dX12_comesBeside_35 : decode cX12_comesBeside 35 = .ok (.aload_n 0, 1) := by decide +kernel
theorem dX12_comesBeside_36 : decode cX12_comesBeside 36 = .ok (.iload_n 1, 1) := by decide +kernel
theorem dX12_comesBeside_37 : decode cX12_comesBeside 37 = .ok (.invokevirtual 307, 3) := by decide +kernel
theorem dX12_comesBeside_40 : decode cX12_comesBeside 40 = .ok (.imul, 1) := by decide +kernel
theorem dX12_comesBeside_41 : decode cX12_comesBeside 41 = .ok (.bipush 100, 2) := by decide +kernel
theorem dX12_comesBeside_43 : decode cX12_comesBeside 43 = .ok (.idiv, 1) := by decide +kernel
theorem dX12_comesBeside_44 : decode cX12_comesBeside 44 = .ok (.istore 4, 2) := by decide +kernel
theorem dX12_comesBeside_46 : decode cX12_comesBeside 46 = .ok (.aload_n 0, 1) := by decide +kernel
theorem dX12_comesBeside_47 : decode cX12_comesBeside 47 = .ok (.getfield 46, 3) := by decide +kernel
theorem dX12_comesBeside_50 : decode cX12_comesBeside 50 = .ok (.iload_n 1, 1) := by decide +kernel
theorem dX12_comesBeside_51 : decode cX12_comesBeside 51 = .ok (.dup2, 1) := by decide +kernel
theorem dX12_comesBeside_52 : decode cX12_comesBeside 52 = .ok (.iaload, 1) := by decide +kernel
theorem dX12_comesBeside_53 : decode cX12_comesBeside 53 = .ok (.iload 4, 2) := by decide +kernel
theorem dX12_comesBeside_55 : decode cX12_comesBeside 55 = .ok (.iadd, 1) := by decide +kernel
theorem dX12_comesBeside_56 : decode cX12_comesBeside 56 = .ok (.iastore, 1) := by decide +kernel
theorem dX12_comesBeside_57 : decode cX12_comesBeside 57 = .ok (.aload_n 0, 1) := by decide +kernel
theorem dX12_comesBeside_58 : decode cX12_comesBeside 58 = .ok (.getfield 13, 3) := by decide +kernel
theorem dX12_comesBeside_61 : decode cX12_comesBeside 61 = .ok (.bipush 15, 2) := by decide +kernel
theorem dX12_comesBeside_63 : decode cX12_comesBeside 63 = .ok (.dup2, 1) := by decide +kernel
theorem dX12_comesBeside_64 : decode cX12_comesBeside 64 = .ok (.iaload, 1) := by decide +kernel
theorem dX12_comesBeside_65 : decode cX12_comesBeside 65 = .ok (.iload 4, 2) := by decide +kernel
theorem dX12_comesBeside_67 : decode cX12_comesBeside 67 = .ok (.iadd, 1) := by decide +kernel
theorem dX12_comesBeside_68 : decode cX12_comesBeside 68 = .ok (.iastore, 1) := by decide +kernel
theorem dX12_comesBeside_69 : decode cX12_comesBeside 69 = .ok (.goto 58, 3) := by decide +kernel
theorem dX12_comesBeside_72 : decode cX12_comesBeside 72 = .ok (.aload_n 0, 1) := by decide +kernel
theorem dX12_comesBeside_73 : decode cX12_comesBeside 73 = .ok (.iload_n 3, 1) := by decide +kernel
theorem dX12_comesBeside_74 : decode cX12_comesBeside 74 = .ok (.invokevirtual 102, 3) := by decide +kernel
theorem dX12_comesBeside_77 : decode cX12_comesBeside 77 = .ok (.ifCond .ne 50, 3) := by decide +kernel
theorem dX12_comesBeside_80 : decode cX12_comesBeside 80 = .ok (.aload_n 0, 1) := by decide +kernel
theorem dX12_comesBeside_81 : decode cX12_comesBeside 81 = .ok (.getfield 46, 3) := by decide +kernel
theorem dX12_comesBeside_84 : decode cX12_comesBeside 84 = .ok (.iload_n 1, 1) := by decide +kernel
theorem dX12_comesBeside_85 : decode cX12_comesBeside 85 = .ok (.dup2, 1) := by decide +kernel
theorem dX12_comesBeside_86 : decode cX12_comesBeside 86 = .ok (.iaload, 1) := by decide +kernel
theorem dX12_comesBeside_87 : decode cX12_comesBeside 87 = .ok (.aload_n 0, 1) := by decide +kernel
theorem dX12_comesBeside_88 : decode cX12_comesBeside 88 = .ok (.getfield 13, 3) := by decide +kernel
theorem dX12_comesBeside_91 : decode cX12_comesBeside 91 = .ok (.sipush 192, 3) := by decide +kernel
theorem dX12_comesBeside_94 : decode cX12_comesBeside 94 = .ok (.iload_n 3, 1) := by decide +kernel
theorem dX12_comesBeside_95 : decode cX12_comesBeside 95 = .ok (.iadd, 1) := by decide +kernel
theorem dX12_comesBeside_96 : decode cX12_comesBeside 96 = .ok (.iaload, 1) := by decide +kernel
theorem dX12_comesBeside_97 : decode cX12_comesBeside 97 = .ok (.aload_n 0, 1) := by decide +kernel
theorem dX12_comesBeside_98 : decode cX12_comesBeside 98 = .ok (.getfield 13, 3) := by decide +kernel
theorem dX12_comesBeside_101 : decode cX12_comesBeside 101 = .ok (.sipush 192, 3) := by decide +kernel
theorem dX12_comesBeside_104 : decode cX12_comesBeside 104 = .ok (.iload_n 1, 1) := by decide +kernel
theorem dX12_comesBeside_105 : decode cX12_comesBeside 105 = .ok (.iadd, 1) := by decide +kernel
theorem dX12_comesBeside_106 : decode cX12_comesBeside 106 = .ok (.iaload, 1) := by decide +kernel
theorem dX12_comesBeside_107 : decode cX12_comesBeside 107 = .ok (.isub, 1) := by decide +kernel
theorem dX12_comesBeside_108 : decode cX12_comesBeside 108 = .ok (.aload_n 0, 1) := by decide +kernel
theorem dX12_comesBeside_109 : decode cX12_comesBeside 109 = .ok (.iload_n 1, 1) := by decide +kernel
theorem dX12_comesBeside_110 : decode cX12_comesBeside 110 = .ok (.invokevirtual 307, 3) := by decide +kernel
theorem dX12_comesBeside_113 : decode cX12_comesBeside 113 = .ok (.aload_n 0, 1) := by decide +kernel
theorem dX12_comesBeside_114 : decode cX12_comesBeside 114 = .ok (.iload_n 3, 1) := by decide +kernel
theorem dX12_comesBeside_115 : decode cX12_comesBeside 115 = .ok (.invokevirtual 307, 3) := by decide +kernel
theorem dX12_comesBeside_118 : decode cX12_comesBeside 118 = .ok (.invokestatic 153, 3) := by decide +kernel
theorem dX12_comesBeside_121 : decode cX12_comesBeside 121 = .ok (.imul, 1) := by decide +kernel
theorem dX12_comesBeside_122 : decode cX12_comesBeside 122 = .ok (.bipush 100, 2) := by decide +kernel
theorem dX12_comesBeside_124 : decode cX12_comesBeside 124 = .ok (.idiv, 1) := by decide +kernel
theorem dX12_comesBeside_125 : decode cX12_comesBeside 125 = .ok (.iadd, 1) := by decide +kernel
theorem dX12_comesBeside_126 : decode cX12_comesBeside 126 = .ok (.iastore, 1) := by decide +kernel
theorem dX12_comesBeside_127 : decode cX12_comesBeside 127 = .ok (.iinc 2 1, 3) := by decide +kernel
theorem dX12_comesBeside_130 : decode cX12_comesBeside 130 = .ok (.goto (-128), 3) := by decide +kernel
theorem dX12_comesBeside_133 : decode cX12_comesBeside 133 = .ok (.return_, 1) := by decide +kernel
theorem cw_X12_comesBeside_304 : CwS mi_X12_comesBeside mi_X12_beside yX12_beside 304 2 := ⟨⟨w_1519, w_1520, w_108, w_1521⟩, ⟨by decide, by decide⟩, by decide +kernel, by decide, by decide⟩
theorem cw_X12_comesBeside_102 : CwV mi_X12_comesBeside mi_X12_isDug yX12_isDug RX12 102 1 := ⟨⟨w_1511, w_1513, w_65, w_108, w_1514⟩, ⟨by decide, by decide⟩, by decide +kernel, by decide, by decide⟩
theorem cw_X12_comesBeside_307 : CwV mi_X12_comesBeside mi_X12_leadOf yX12_leadOf RX12 307 1 := ⟨⟨w_1525, w_1527, w_67, w_108, w_1528⟩, ⟨by decide, by decide⟩, by decide +kernel, by decide, by decide⟩
theorem cw_X12_comesBeside_153 : CwS mi_X12_comesBeside mi_J9_min_7cf53 yJ9_min_7cf53 153 2 := ⟨⟨w_1397, w_604, w_109, w_605⟩, ⟨by decide, by decide⟩, by decide +kernel, by decide, by decide⟩
theorem j_X12_comesBeside_B127 {l : Launch} {Γ : Am} {k2 : Nat → Int32 → Int32 → Hp → Option (Unit × Hp)} (hL2 : ∀ (r0 : Nat) (v1 : Int32) (v2 : Int32) (z : Hp), J l Γ mi_X12_comesBeside cvV 0 0 2 [(0, .ref (mB Γ + r0)), (1, .int v1), (2, .int v2)] [] z (k2 r0 v1 v2 z)) : ∀ (r0 : Nat) (v1 : Int32) (v2 : Int32) (z : Hp), J l Γ mi_X12_comesBeside cvV 0 0 127 [(0, .ref (mB Γ + r0)), (1, .int v1), (2, .int v2)] [] z (m_X12_comesBeside_B127 k2 r0 v1 v2 z) := by
  intro r0 v1 v2 z
  unfold m_X12_comesBeside_B127
  refine j_iinc (pc := 127) (n0 := 2) (v0 := v2 + 1) (lv2 := [(2, .int (v2 + 1)), (0, .ref (mB Γ + r0)), (1, .int v1)]) dX12_comesBeside_127 rfl rfl (by decide) rfl ?_
  refine j_goto (pc := 130) 2 dX12_comesBeside_130 (by decide) ?_
  exact J.sub [1, 2, 0] rfl (hL2 r0 v1 (v2 + 1) z)
theorem j_X12_comesBeside_L2 {l : Launch} {Γ : Am}   : ∀ (f : Nat), ∀ (r0 : Nat) (v1 : Int32) (v2 : Int32) (z : Hp), J l Γ mi_X12_comesBeside cvV 0 0 2 [(0, .ref (mB Γ + r0)), (1, .int v1), (2, .int v2)] [] z (m_X12_comesBeside_L2  f r0 v1 v2 z) := by
  intro f
  induction f with
  | zero => intro r0 v1 v2 z; exact J.none
  | succ f hL2 =>
    intro r0 v1 v2 z
    rw [m_X12_comesBeside_L2]
    refine j_iload_n (pc := 2) 2 dX12_comesBeside_2 rfl rfl ?_
    refine j_iconst (pc := 3) (v := 4) dX12_comesBeside_3 (by decide) ?_
    refine j_icmp_ge (pc := 4) 133 dX12_comesBeside_4 (by decide) ?_ ?_
    · exact j_return (pc := 133) dX12_comesBeside_133 rfl
    refine j_iload_n (pc := 7) 1 dX12_comesBeside_7 rfl rfl ?_
    refine j_iload_n (pc := 8) 2 dX12_comesBeside_8 rfl rfl ?_
    refine j_callS_I (pc := 9) (as := [.int v1, .int v2]) (mc2 := 0) (ms2 := 0) (ct_X12_beside _ _ _) cw_X12_comesBeside_304 dX12_comesBeside_9 (Nat.le_of_ble_eq_true rfl) rfl (by decide) (by decide) (fun x2 z1 => ?_)
    refine j_istore_n (pc := 12) (lv2 := [(3, .int x2), (0, .ref (mB Γ + r0)), (1, .int v1), (2, .int v2)]) dX12_comesBeside_12 rfl (by decide) rfl ?_
    refine j_iload_n (pc := 13) 0 dX12_comesBeside_13 rfl rfl ?_
    refine j_iconst (pc := 14) (v := (-1)) dX12_comesBeside_14 (by decide) ?_
    refine j_icmp_ne (pc := 15) 72 dX12_comesBeside_15 (by decide) ?_ ?_
    · refine j_aload_n (pc := 72) 1 dX12_comesBeside_72 rfl rfl ?_
      refine j_iload_n (pc := 73) 0 dX12_comesBeside_73 rfl rfl ?_
      refine j_isC (fun h5 => ?_)
      refine j_callV_I (pc := 74) (as := [.int x2]) (mc2 := 0) (ms2 := 0) (ct_X12_isDug _ _ _) h5 rfl cw_X12_comesBeside_102 dX12_comesBeside_74 (Nat.le_of_ble_eq_true rfl) rfl (by decide) (by decide) (fun x4 z3 => ?_)
      refine j_if_ne (pc := 77) 127 dX12_comesBeside_77 (by decide) ?_ ?_
      · exact J.sub [1, 2, 3] rfl ((j_X12_comesBeside_B127 hL2) r0 v1 v2 z3)
      refine j_aload_n (pc := 80) 1 dX12_comesBeside_80 rfl rfl ?_
      refine j_getR (pc := 81) ok_X12 (by decide) rfl w_1262 dX12_comesBeside_81 (fun a6 => ?_)
      refine j_iload_n (pc := 84) 2 dX12_comesBeside_84 rfl rfl ?_
      refine j_dup2 (pc := 85) dX12_comesBeside_85 rfl rfl ?_
      refine j_iaload (pc := 86) dX12_comesBeside_86 (fun x7 => ?_)
      refine j_aload_n (pc := 87) 1 dX12_comesBeside_87 rfl rfl ?_
      refine j_getR (pc := 88) ok_X12 (by decide) rfl w_1239 dX12_comesBeside_88 (fun a8 => ?_)
      refine j_sipush (pc := 91) (v := 192) dX12_comesBeside_91 (by decide) ?_
      refine j_iload_n (pc := 94) 0 dX12_comesBeside_94 rfl rfl ?_
      refine j_iadd (pc := 95) dX12_comesBeside_95 ?_
      refine j_iaload (pc := 96) dX12_comesBeside_96 (fun x9 => ?_)
      refine j_aload_n (pc := 97) 1 dX12_comesBeside_97 rfl rfl ?_
      refine j_getR (pc := 98) ok_X12 (by decide) rfl w_1239 dX12_comesBeside_98 (fun a10 => ?_)
      refine j_sipush (pc := 101) (v := 192) dX12_comesBeside_101 (by decide) ?_
      refine j_iload_n (pc := 104) 2 dX12_comesBeside_104 rfl rfl ?_
      refine j_iadd (pc := 105) dX12_comesBeside_105 ?_
      refine j_iaload (pc := 106) dX12_comesBeside_106 (fun x11 => ?_)
      refine j_isub (pc := 107) dX12_comesBeside_107 ?_
      refine j_aload_n (pc := 108) 1 dX12_comesBeside_108 rfl rfl ?_
      refine j_iload_n (pc := 109) 2 dX12_comesBeside_109 rfl rfl ?_
      refine j_isC (fun h14 => ?_)
      refine j_callV_I (pc := 110) (as := [.int v1]) (mc2 := 0) (ms2 := 0) (ct_X12_leadOf _ _ _) h14 rfl cw_X12_comesBeside_307 dX12_comesBeside_110 (Nat.le_of_ble_eq_true rfl) rfl (by decide) (by decide) (fun x13 z12 => ?_)
      refine j_aload_n (pc := 113) 1 dX12_comesBeside_113 rfl rfl ?_
      refine j_iload_n (pc := 114) 0 dX12_comesBeside_114 rfl rfl ?_
      refine j_isC (fun h17 => ?_)
      refine j_callV_I (pc := 115) (as := [.int x2]) (mc2 := 0) (ms2 := 0) (ct_X12_leadOf _ _ _) h17 rfl cw_X12_comesBeside_307 dX12_comesBeside_115 (Nat.le_of_ble_eq_true rfl) rfl (by decide) (by decide) (fun x16 z15 => ?_)
      refine j_callS_I (pc := 118) (as := [.int x13, .int x16]) (mc2 := 0) (ms2 := 0) (ct_J9_min_7cf53 _ _ _) cw_X12_comesBeside_153 dX12_comesBeside_118 (Nat.le_of_ble_eq_true rfl) rfl (by decide) (by decide) (fun x19 z18 => ?_)
      refine j_imul (pc := 121) dX12_comesBeside_121 ?_
      refine j_bipush (pc := 122) (v := 100) dX12_comesBeside_122 (by decide) ?_
      refine j_idiv (pc := 124) dX12_comesBeside_124 (by decide) ?_
      refine j_iadd (pc := 125) dX12_comesBeside_125 ?_
      refine j_iastore (pc := 126) dX12_comesBeside_126 (fun z20 => ?_)
      exact J.sub [1, 2, 3] rfl ((j_X12_comesBeside_B127 hL2) r0 v1 v2 z20)
    refine j_aload_n (pc := 18) 1 dX12_comesBeside_18 rfl rfl ?_
    refine j_getR (pc := 19) ok_X12 (by decide) rfl w_1239 dX12_comesBeside_19 (fun a21 => ?_)
    refine j_iconst (pc := 22) (v := 5) dX12_comesBeside_22 (by decide) ?_
    refine j_iaload (pc := 23) dX12_comesBeside_23 (fun x22 => ?_)
    refine j_aload_n (pc := 24) 1 dX12_comesBeside_24 rfl rfl ?_
    refine j_getR (pc := 25) ok_X12 (by decide) rfl w_1239 dX12_comesBeside_25 (fun a23 => ?_)
    refine j_sipush (pc := 28) (v := 192) dX12_comesBeside_28 (by decide) ?_
    refine j_iload_n (pc := 31) 2 dX12_comesBeside_31 rfl rfl ?_
    refine j_iadd (pc := 32) dX12_comesBeside_32 ?_
    refine j_iaload (pc := 33) dX12_comesBeside_33 (fun x24 => ?_)
    refine j_isub (pc := 34) dX12_comesBeside_34 ?_
    refine j_aload_n (pc := 35) 1 dX12_comesBeside_35 rfl rfl ?_
    refine j_iload_n (pc := 36) 2 dX12_comesBeside_36 rfl rfl ?_
    refine j_isC (fun h27 => ?_)
    refine j_callV_I (pc := 37) (as := [.int v1]) (mc2 := 0) (ms2 := 0) (ct_X12_leadOf _ _ _) h27 rfl cw_X12_comesBeside_307 dX12_comesBeside_37 (Nat.le_of_ble_eq_true rfl) rfl (by decide) (by decide) (fun x26 z25 => ?_)
    refine j_imul (pc := 40) dX12_comesBeside_40 ?_
    refine j_bipush (pc := 41) (v := 100) dX12_comesBeside_41 (by decide) ?_
    refine j_idiv (pc := 43) dX12_comesBeside_43 (by decide) ?_
    refine j_istore (pc := 44) (lv2 := [(4, .int (((x22 - x24) * x26) / 100)), (3, .int x2), (0, .ref (mB Γ + r0)), (1, .int v1), (2, .int v2)]) dX12_comesBeside_44 (by decide) rfl ?_
    refine j_aload_n (pc := 46) 2 dX12_comesBeside_46 rfl rfl ?_
    refine j_getR (pc := 47) ok_X12 (by decide) rfl w_1262 dX12_comesBeside_47 (fun a28 => ?_)
    refine j_iload_n (pc := 50) 3 dX12_comesBeside_50 rfl rfl ?_
    refine j_dup2 (pc := 51) dX12_comesBeside_51 rfl rfl ?_
    refine j_iaload (pc := 52) dX12_comesBeside_52 (fun x29 => ?_)
    refine j_iload (pc := 53) 0 dX12_comesBeside_53 rfl ?_
    refine j_iadd (pc := 55) dX12_comesBeside_55 ?_
    refine j_iastore (pc := 56) dX12_comesBeside_56 (fun z30 => ?_)
    refine j_aload_n (pc := 57) 2 dX12_comesBeside_57 rfl rfl ?_
    refine j_getR (pc := 58) ok_X12 (by decide) rfl w_1239 dX12_comesBeside_58 (fun a31 => ?_)
    refine j_bipush (pc := 61) (v := 15) dX12_comesBeside_61 (by decide) ?_
    refine j_dup2 (pc := 63) dX12_comesBeside_63 rfl rfl ?_
    refine j_iaload (pc := 64) dX12_comesBeside_64 (fun x32 => ?_)
    refine j_iload (pc := 65) 0 dX12_comesBeside_65 rfl ?_
    refine j_iadd (pc := 67) dX12_comesBeside_67 ?_
    refine j_iastore (pc := 68) dX12_comesBeside_68 (fun z33 => ?_)
    refine j_goto (pc := 69) 127 dX12_comesBeside_69 (by decide) ?_
    exact J.sub [2, 3, 4] rfl ((j_X12_comesBeside_B127 hL2) r0 v1 v2 z33)
theorem ct_X12_comesBeside {l : Launch} {Γ : Am} (r0 : Nat) (v1 : Int32) (z : Hp) : Ct l Γ yX12_comesBeside mi_X12_comesBeside cvV [.ref (mB Γ + r0), .int v1] z (m_X12_comesBeside r0 v1 z) := by
  refine Ct.ofJ (by decide) ⟨rfl, rfl⟩ (Nat.le_of_ble_eq_true rfl) ?_
  unfold m_X12_comesBeside
  show J l Γ mi_X12_comesBeside cvV 0 0 0 [(0, .ref (mB Γ + r0)), (1, .int v1)] [] z _
  refine j_iconst (pc := 0) (v := 0) dX12_comesBeside_0 (by decide) ?_
  refine j_istore_n (pc := 1) (lv2 := [(2, .int 0), (0, .ref (mB Γ + r0)), (1, .int v1)]) dX12_comesBeside_1 rfl (by decide) rfl ?_
  exact J.sub [1, 2, 0] rfl ((j_X12_comesBeside_L2 FU) r0 v1 0 z)
theorem dX12_streams_0 : decode cX12_streams 0 = .ok (.aload_n 0, 1) := by decide +kernel
theorem dX12_streams_1 : decode cX12_streams 1 = .ok (.getfield 13, 3) := by decide +kernel
theorem dX12_streams_4 : decode cX12_streams 4 = .ok (.bipush 36, 2) := by decide +kernel
theorem dX12_streams_6 : decode cX12_streams 6 = .ok (.iload_n 1, 1) := by decide +kernel
theorem dX12_streams_7 : decode cX12_streams 7 = .ok (.bipush 12, 2) := by decide +kernel
theorem dX12_streams_9 : decode cX12_streams 9 = .ok (.idiv, 1) := by decide +kernel
theorem dX12_streams_10 : decode cX12_streams 10 = .ok (.iadd, 1) := by decide +kernel
theorem dX12_streams_11 : decode cX12_streams 11 = .ok (.iaload, 1) := by decide +kernel
theorem dX12_streams_12 : decode cX12_streams 12 = .ok (.istore_n 2, 1) := by decide +kernel
theorem dX12_streams_13 : decode cX12_streams 13 = .ok (.iload_n 2, 1) := by decide +kernel
theorem dX12_streams_14 : decode cX12_streams 14 = .ok (.ifCond .eq 11, 3) := by decide +kernel
theorem dX12_streams_17 : decode cX12_streams 17 = .ok (.aload_n 0, 1) := by decide +kernel
theorem dX12_streams_18 : decode cX12_streams 18 = .ok (.iload_n 1, 1) := by decide +kernel
theorem dX12_streams_19 : decode cX12_streams 19 = .ok (.invokevirtual 301, 3) := by decide +kernel
theorem dX12_streams_22 : decode cX12_streams 22 = .ok (.ifCond .eq 4, 3) := by decide +kernel
theorem dX12_streams_25 : decode cX12_streams 25 = .ok (.return_, 1) := by decide +kernel
theorem dX12_streams_26 : decode cX12_streams 26 = .ok (.iload_n 1, 1) := by decide +kernel
theorem dX12_streams_27 : decode cX12_streams 27 = .ok (.iconst 1, 1) := by decide +kernel
theorem dX12_streams_28 : decode cX12_streams 28 = .ok (.invokestatic 304, 3) := by decide +kernel
theorem dX12_streams_31 : decode cX12_streams 31 = .ok (.istore_n 3, 1) := by decide +kernel
theorem dX12_streams_32 : decode cX12_streams 32 = .ok (.iload_n 3, 1) := by decide +kernel
theorem dX12_streams_33 : decode cX12_streams 33 = .ok (.iconst (-1), 1) := by decide +kernel
theorem dX12_streams_34 : decode cX12_streams 34 = .ok (.if_icmp .eq 20, 3) := by decide +kernel
theorem dX12_streams_37 : decode cX12_streams 37 = .ok (.aload_n 0, 1) := by decide +kernel
theorem dX12_streams_38 : decode cX12_streams 38 = .ok (.iload_n 3, 1) := by decide +kernel
theorem dX12_streams_39 : decode cX12_streams 39 = .ok (.invokevirtual 301, 3) := by decide +kernel
theorem dX12_streams_42 : decode cX12_streams 42 = .ok (.ifCond .ne 11, 3) := by decide +kernel
theorem dX12_streams_45 : decode cX12_streams 45 = .ok (.aload_n 0, 1) := by decide +kernel
theorem dX12_streams_46 : decode cX12_streams 46 = .ok (.iload_n 3, 1) := by decide +kernel
theorem dX12_streams_47 : decode cX12_streams 47 = .ok (.invokevirtual 102, 3) := by decide +kernel
theorem dX12_streams_50 : decode cX12_streams 50 = .ok (.ifCond .eq 4, 3) := by decide +kernel
theorem dX12_streams_53 : decode cX12_streams 53 = .ok (.return_, 1) := by decide +kernel
theorem dX12_streams_54 : decode cX12_streams 54 = .ok (.iload_n 3, 1) := by decide +kernel
theorem dX12_streams_55 : decode cX12_streams 55 = .ok (.iconst (-1), 1) := by decide +kernel
theorem dX12_streams_56 : decode cX12_streams 56 = .ok (.if_icmp .ne 12, 3) := by decide +kernel
theorem dX12_streams_59 : decode cX12_streams 59 = .ok (.aload_n 0, 1) := by decide +kernel
theorem dX12_streams_60 : decode cX12_streams 60 = .ok (.getfield 13, 3) := by decide +kernel
theorem dX12_streams_63 : decode cX12_streams 63 = .ok (.iconst 5, 1) := by decide +kernel
theorem dX12_streams_64 : decode cX12_streams 64 = .ok (.iaload, 1) := by decide +kernel
theorem dX12_streams_65 : decode cX12_streams 65 = .ok (.goto 13, 3) := by decide +kernel
theorem dX12_streams_68 : decode cX12_streams 68 = .ok (.aload_n 0, 1) := by decide +kernel
theorem dX12_streams_69 : decode cX12_streams 69 = .ok (.getfield 13, 3) := by decide +kernel
theorem dX12_streams_72 : decode cX12_streams 72 = .ok (.sipush 192, 3) := by decide +kernel
theorem dX12_streams_75 : decode cX12_streams 75 = .ok (.iload_n 3, 1) := by decide +kernel
theorem dX12_streams_76 : decode cX12_streams 76 = .ok (.iadd, 1) := by decide +kernel
theorem dX12_streams_77 : decode cX12_streams 77 = .ok (.iaload, 1) := by decide +kernel
theorem dX12_streams_78 : decode cX12_streams 78 = .ok (.aload_n 0, 1) := by decide +kernel
theorem dX12_streams_79 : decode cX12_streams 79 = .ok (.getfield 13, 3) := by decide +kernel
theorem dX12_streams_82 : decode cX12_streams 82 = .ok (.sipush 192, 3) := by decide +kernel
theorem dX12_streams_85 : decode cX12_streams 85 = .ok (.iload_n 1, 1) := by decide +kernel
theorem dX12_streams_86 : decode cX12_streams 86 = .ok (.iadd, 1) := by decide +kernel
theorem dX12_streams_87 : decode cX12_streams 87 = .ok (.iaload, 1) := by decide +kernel
theorem dX12_streams_88 : decode cX12_streams 88 = .ok (.isub, 1) := by decide +kernel
theorem dX12_streams_89 : decode cX12_streams 89 = .ok (.iload_n 2, 1) := by decide +kernel
theorem dX12_streams_90 : decode cX12_streams 90 = .ok (.imul, 1) := by decide +kernel
theorem dX12_streams_91 : decode cX12_streams 91 = .ok (.bipush 100, 2) := by decide +kernel
theorem dX12_streams_93 : decode cX12_streams 93 = .ok (.idiv, 1) := by decide +kernel
theorem dX12_streams_94 : decode cX12_streams 94 = .ok (.istore 4, 2) := by decide +kernel
theorem dX12_streams_96 : decode cX12_streams 96 = .ok (.aload_n 0, 1) := by decide +kernel
theorem dX12_streams_97 : decode cX12_streams 97 = .ok (.getfield 46, 3) := by decide +kernel
theorem dX12_streams_100 : decode cX12_streams 100 = .ok (.iload_n 1, 1) := by decide +kernel
theorem dX12_streams_101 : decode cX12_streams 101 = .ok (.dup2, 1) := by decide +kernel
theorem dX12_streams_102 : decode cX12_streams 102 = .ok (.iaload, 1) := by decide +kernel
theorem dX12_streams_103 : decode cX12_streams 103 = .ok (.iload 4, 2) := by decide +kernel
theorem dX12_streams_105 : decode cX12_streams 105 = .ok (.iadd, 1) := by decide +kernel
theorem dX12_streams_106 : decode cX12_streams 106 = .ok (.iastore, 1) := by decide +kernel
theorem dX12_streams_107 : decode cX12_streams 107 = .ok (.aload_n 0, 1) := by decide +kernel
theorem dX12_streams_108 : decode cX12_streams 108 = .ok (.getfield 13, 3) := by decide +kernel
theorem dX12_streams_111 : decode cX12_streams 111 = .ok (.bipush 16, 2) := by decide +kernel
theorem dX12_streams_113 : decode cX12_streams 113 = .ok (.dup2, 1) := by decide +kernel
theorem dX12_streams_114 : decode cX12_streams 114 = .ok (.iaload, 1) := by decide +kernel
theorem dX12_streams_115 : decode cX12_streams 115 = .ok (.iload 4, 2) := by decide +kernel
theorem dX12_streams_117 : decode cX12_streams 117 = .ok (.iadd, 1) := by decide +kernel
theorem dX12_streams_118 : decode cX12_streams 118 = .ok (.iastore, 1) := by decide +kernel
theorem dX12_streams_119 : decode cX12_streams 119 = .ok (.return_, 1) := by decide +kernel
theorem cw_X12_streams_301 : CwV mi_X12_streams mi_X12_isFrozen yX12_isFrozen RX12 301 1 := ⟨⟨w_1529, w_1531, w_68, w_108, w_1532⟩, ⟨by decide, by decide⟩, by decide +kernel, by decide, by decide⟩
theorem cw_X12_streams_304 : CwS mi_X12_streams mi_X12_beside yX12_beside 304 2 := ⟨⟨w_1519, w_1520, w_108, w_1521⟩, ⟨by decide, by decide⟩, by decide +kernel, by decide, by decide⟩
theorem cw_X12_streams_102 : CwV mi_X12_streams mi_X12_isDug yX12_isDug RX12 102 1 := ⟨⟨w_1511, w_1513, w_65, w_108, w_1514⟩, ⟨by decide, by decide⟩, by decide +kernel, by decide, by decide⟩
theorem j_X12_streams_B78 {l : Launch} {Γ : Am}   : ∀ (r0 : Nat) (v1 : Int32) (v2 : Int32) (t0 : Int32) (z : Hp), J l Γ mi_X12_streams cvV 0 0 78 [(0, .ref (mB Γ + r0)), (1, .int v1), (2, .int v2)] [.int t0] z (m_X12_streams_B78  r0 v1 v2 t0 z) := by
  intro r0 v1 v2 t0 z
  unfold m_X12_streams_B78
  refine j_aload_n (pc := 78) 0 dX12_streams_78 rfl rfl ?_
  refine j_getR (pc := 79) ok_X12 (by decide) rfl w_1239 dX12_streams_79 (fun a1 => ?_)
  refine j_sipush (pc := 82) (v := 192) dX12_streams_82 (by decide) ?_
  refine j_iload_n (pc := 85) 1 dX12_streams_85 rfl rfl ?_
  refine j_iadd (pc := 86) dX12_streams_86 ?_
  refine j_iaload (pc := 87) dX12_streams_87 (fun x2 => ?_)
  refine j_isub (pc := 88) dX12_streams_88 ?_
  refine j_iload_n (pc := 89) 2 dX12_streams_89 rfl rfl ?_
  refine j_imul (pc := 90) dX12_streams_90 ?_
  refine j_bipush (pc := 91) (v := 100) dX12_streams_91 (by decide) ?_
  refine j_idiv (pc := 93) dX12_streams_93 (by decide) ?_
  refine j_istore (pc := 94) (lv2 := [(4, .int (((t0 - x2) * v2) / 100)), (0, .ref (mB Γ + r0)), (1, .int v1), (2, .int v2)]) dX12_streams_94 (by decide) rfl ?_
  refine j_aload_n (pc := 96) 1 dX12_streams_96 rfl rfl ?_
  refine j_getR (pc := 97) ok_X12 (by decide) rfl w_1262 dX12_streams_97 (fun a3 => ?_)
  refine j_iload_n (pc := 100) 2 dX12_streams_100 rfl rfl ?_
  refine j_dup2 (pc := 101) dX12_streams_101 rfl rfl ?_
  refine j_iaload (pc := 102) dX12_streams_102 (fun x4 => ?_)
  refine j_iload (pc := 103) 0 dX12_streams_103 rfl ?_
  refine j_iadd (pc := 105) dX12_streams_105 ?_
  refine j_iastore (pc := 106) dX12_streams_106 (fun z5 => ?_)
  refine j_aload_n (pc := 107) 1 dX12_streams_107 rfl rfl ?_
  refine j_getR (pc := 108) ok_X12 (by decide) rfl w_1239 dX12_streams_108 (fun a6 => ?_)
  refine j_bipush (pc := 111) (v := 16) dX12_streams_111 (by decide) ?_
  refine j_dup2 (pc := 113) dX12_streams_113 rfl rfl ?_
  refine j_iaload (pc := 114) dX12_streams_114 (fun x7 => ?_)
  refine j_iload (pc := 115) 0 dX12_streams_115 rfl ?_
  refine j_iadd (pc := 117) dX12_streams_117 ?_
  refine j_iastore (pc := 118) dX12_streams_118 (fun z8 => ?_)
  exact j_return (pc := 119) dX12_streams_119 rfl
theorem j_X12_streams_B54 {l : Launch} {Γ : Am}   : ∀ (r0 : Nat) (v1 : Int32) (v2 : Int32) (v3 : Int32) (z : Hp), J l Γ mi_X12_streams cvV 0 0 54 [(0, .ref (mB Γ + r0)), (1, .int v1), (2, .int v2), (3, .int v3)] [] z (m_X12_streams_B54  r0 v1 v2 v3 z) := by
  intro r0 v1 v2 v3 z
  unfold m_X12_streams_B54
  refine j_iload_n (pc := 54) 3 dX12_streams_54 rfl rfl ?_
  refine j_iconst (pc := 55) (v := (-1)) dX12_streams_55 (by decide) ?_
  refine j_icmp_ne (pc := 56) 68 dX12_streams_56 (by decide) ?_ ?_
  · refine j_aload_n (pc := 68) 0 dX12_streams_68 rfl rfl ?_
    refine j_getR (pc := 69) ok_X12 (by decide) rfl w_1239 dX12_streams_69 (fun a9 => ?_)
    refine j_sipush (pc := 72) (v := 192) dX12_streams_72 (by decide) ?_
    refine j_iload_n (pc := 75) 3 dX12_streams_75 rfl rfl ?_
    refine j_iadd (pc := 76) dX12_streams_76 ?_
    refine j_iaload (pc := 77) dX12_streams_77 (fun x10 => ?_)
    exact J.sub [0, 1, 2] rfl (j_X12_streams_B78 r0 v1 v2 x10 z)
  refine j_aload_n (pc := 59) 0 dX12_streams_59 rfl rfl ?_
  refine j_getR (pc := 60) ok_X12 (by decide) rfl w_1239 dX12_streams_60 (fun a11 => ?_)
  refine j_iconst (pc := 63) (v := 5) dX12_streams_63 (by decide) ?_
  refine j_iaload (pc := 64) dX12_streams_64 (fun x12 => ?_)
  refine j_goto (pc := 65) 78 dX12_streams_65 (by decide) ?_
  exact J.sub [0, 1, 2] rfl (j_X12_streams_B78 r0 v1 v2 x12 z)
theorem ct_X12_streams {l : Launch} {Γ : Am} (r0 : Nat) (v1 : Int32) (z : Hp) : Ct l Γ yX12_streams mi_X12_streams cvV [.ref (mB Γ + r0), .int v1] z (m_X12_streams r0 v1 z) := by
  refine Ct.ofJ (by decide) ⟨rfl, rfl⟩ (Nat.le_of_ble_eq_true rfl) ?_
  unfold m_X12_streams
  show J l Γ mi_X12_streams cvV 0 0 0 [(0, .ref (mB Γ + r0)), (1, .int v1)] [] z _
  refine j_aload_n (pc := 0) 0 dX12_streams_0 rfl rfl ?_
  refine j_getR (pc := 1) ok_X12 (by decide) rfl w_1239 dX12_streams_1 (fun a13 => ?_)
  refine j_bipush (pc := 4) (v := 36) dX12_streams_4 (by decide) ?_
  refine j_iload_n (pc := 6) 1 dX12_streams_6 rfl rfl ?_
  refine j_bipush (pc := 7) (v := 12) dX12_streams_7 (by decide) ?_
  refine j_idiv (pc := 9) dX12_streams_9 (by decide) ?_
  refine j_iadd (pc := 10) dX12_streams_10 ?_
  refine j_iaload (pc := 11) dX12_streams_11 (fun x14 => ?_)
  refine j_istore_n (pc := 12) (lv2 := [(2, .int x14), (0, .ref (mB Γ + r0)), (1, .int v1)]) dX12_streams_12 rfl (by decide) rfl ?_
  refine j_iload_n (pc := 13) 0 dX12_streams_13 rfl rfl ?_
  refine j_if_eq (pc := 14) 25 dX12_streams_14 (by decide) ?_ ?_
  · exact j_return (pc := 25) dX12_streams_25 rfl
  refine j_aload_n (pc := 17) 1 dX12_streams_17 rfl rfl ?_
  refine j_iload_n (pc := 18) 2 dX12_streams_18 rfl rfl ?_
  refine j_isC (fun h17 => ?_)
  refine j_callV_I (pc := 19) (as := [.int v1]) (mc2 := 0) (ms2 := 0) (ct_X12_isFrozen _ _ _) h17 rfl cw_X12_streams_301 dX12_streams_19 (Nat.le_of_ble_eq_true rfl) rfl (by decide) (by decide) (fun x16 z15 => ?_)
  refine j_if_eq (pc := 22) 26 dX12_streams_22 (by decide) ?_ ?_
  · refine j_iload_n (pc := 26) 2 dX12_streams_26 rfl rfl ?_
    refine j_iconst (pc := 27) (v := 1) dX12_streams_27 (by decide) ?_
    refine j_callS_I (pc := 28) (as := [.int v1, .int 1]) (mc2 := 0) (ms2 := 0) (ct_X12_beside _ _ _) cw_X12_streams_304 dX12_streams_28 (Nat.le_of_ble_eq_true rfl) rfl (by decide) (by decide) (fun x19 z18 => ?_)
    refine j_istore_n (pc := 31) (lv2 := [(3, .int x19), (2, .int x14), (0, .ref (mB Γ + r0)), (1, .int v1)]) dX12_streams_31 rfl (by decide) rfl ?_
    refine j_iload_n (pc := 32) 0 dX12_streams_32 rfl rfl ?_
    refine j_iconst (pc := 33) (v := (-1)) dX12_streams_33 (by decide) ?_
    refine j_icmp_eq (pc := 34) 54 dX12_streams_34 (by decide) ?_ ?_
    · exact J.sub [2, 3, 1, 0] rfl (j_X12_streams_B54 r0 v1 x14 x19 z18)
    refine j_aload_n (pc := 37) 2 dX12_streams_37 rfl rfl ?_
    refine j_iload_n (pc := 38) 0 dX12_streams_38 rfl rfl ?_
    refine j_isC (fun h22 => ?_)
    refine j_callV_I (pc := 39) (as := [.int x19]) (mc2 := 0) (ms2 := 0) (ct_X12_isFrozen _ _ _) h22 rfl cw_X12_streams_301 dX12_streams_39 (Nat.le_of_ble_eq_true rfl) rfl (by decide) (by decide) (fun x21 z20 => ?_)
    refine j_if_ne (pc := 42) 53 dX12_streams_42 (by decide) ?_ ?_
    · exact j_return (pc := 53) dX12_streams_53 rfl
    refine j_aload_n (pc := 45) 2 dX12_streams_45 rfl rfl ?_
    refine j_iload_n (pc := 46) 0 dX12_streams_46 rfl rfl ?_
    refine j_isC (fun h25 => ?_)
    refine j_callV_I (pc := 47) (as := [.int x19]) (mc2 := 0) (ms2 := 0) (ct_X12_isDug _ _ _) h25 rfl cw_X12_streams_102 dX12_streams_47 (Nat.le_of_ble_eq_true rfl) rfl (by decide) (by decide) (fun x24 z23 => ?_)
    refine j_if_eq (pc := 50) 54 dX12_streams_50 (by decide) ?_ ?_
    · exact J.sub [2, 3, 1, 0] rfl (j_X12_streams_B54 r0 v1 x14 x19 z23)
    exact j_return (pc := 53) dX12_streams_53 rfl
  exact j_return (pc := 25) dX12_streams_25 rfl
