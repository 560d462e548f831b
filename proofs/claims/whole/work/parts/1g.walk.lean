theorem dX11_gap_0 : decode cX11_gap 0 = .ok (.iload_n 1, 1) := by decide +kernel
theorem dX11_gap_1 : decode cX11_gap 1 = .ok (.ifCond .lt 27, 3) := by decide +kernel
theorem dX11_gap_4 : decode cX11_gap 4 = .ok (.iload_n 1, 1) := by decide +kernel
theorem dX11_gap_5 : decode cX11_gap 5 = .ok (.aload_n 0, 1) := by decide +kernel
theorem dX11_gap_6 : decode cX11_gap 6 = .ok (.getfield 64, 3) := by decide +kernel
theorem dX11_gap_9 : decode cX11_gap 9 = .ok (.if_icmp .ge 19, 3) := by decide +kernel
theorem dX11_gap_12 : decode cX11_gap 12 = .ok (.iload_n 1, 1) := by decide +kernel
theorem dX11_gap_13 : decode cX11_gap 13 = .ok (.sipush 144, 3) := by decide +kernel
theorem dX11_gap_16 : decode cX11_gap 16 = .ok (.if_icmp .ge 12, 3) := by decide +kernel
theorem dX11_gap_19 : decode cX11_gap 19 = .ok (.aload_n 0, 1) := by decide +kernel
theorem dX11_gap_20 : decode cX11_gap 20 = .ok (.getfield 60, 3) := by decide +kernel
theorem dX11_gap_23 : decode cX11_gap 23 = .ok (.iload_n 1, 1) := by decide +kernel
theorem dX11_gap_24 : decode cX11_gap 24 = .ok (.iaload, 1) := by decide +kernel
theorem dX11_gap_25 : decode cX11_gap 25 = .ok (.goto 4, 3) := by decide +kernel
theorem dX11_gap_28 : decode cX11_gap 28 = .ok (.iconst (-1), 1) := by decide +kernel
theorem dX11_gap_29 : decode cX11_gap 29 = .ok (.ireturn, 1) := by decide +kernel
theorem ct_X11_gap {l : Launch} {Γ : Am} (r0 : Nat) (v1 : Int32) (z : Hp) : Ct l Γ yX11_gap mi_X11_gap cvI [.ref (mB Γ + r0), .int v1] z (m_X11_gap r0 v1 z) := by
  refine Ct.ofJ (by decide) ⟨rfl, rfl⟩ (Nat.le_of_ble_eq_true rfl) ?_
  unfold m_X11_gap
  show J l Γ mi_X11_gap cvI 0 0 0 [(0, .ref (mB Γ + r0)), (1, .int v1)] [] z _
  refine j_iload_n (pc := 0) 1 dX11_gap_0 rfl rfl ?_
  refine j_if_lt (pc := 1) 28 dX11_gap_1 (by decide) ?_ ?_
  · refine j_iconst (pc := 28) (v := (-1)) dX11_gap_28 (by decide) ?_
    exact j_ireturn (pc := 29) dX11_gap_29 rfl rfl
  refine j_iload_n (pc := 4) 1 dX11_gap_4 rfl rfl ?_
  refine j_aload_n (pc := 5) 0 dX11_gap_5 rfl rfl ?_
  refine j_getI (pc := 6) ok_X11 (by decide) rfl w_538 dX11_gap_6 (fun x1 => ?_)
  refine j_icmp_ge (pc := 9) 28 dX11_gap_9 (by decide) ?_ ?_
  · refine j_iconst (pc := 28) (v := (-1)) dX11_gap_28 (by decide) ?_
    exact j_ireturn (pc := 29) dX11_gap_29 rfl rfl
  refine j_iload_n (pc := 12) 1 dX11_gap_12 rfl rfl ?_
  refine j_sipush (pc := 13) (v := 144) dX11_gap_13 (by decide) ?_
  refine j_icmp_ge (pc := 16) 28 dX11_gap_16 (by decide) ?_ ?_
  · refine j_iconst (pc := 28) (v := (-1)) dX11_gap_28 (by decide) ?_
    exact j_ireturn (pc := 29) dX11_gap_29 rfl rfl
  refine j_aload_n (pc := 19) 0 dX11_gap_19 rfl rfl ?_
  refine j_getR (pc := 20) ok_X11 (by decide) rfl w_537 dX11_gap_20 (fun a2 => ?_)
  refine j_iload_n (pc := 23) 1 dX11_gap_23 rfl rfl ?_
  refine j_iaload (pc := 24) dX11_gap_24 (fun x3 => ?_)
  refine j_goto (pc := 25) 29 dX11_gap_25 (by decide) ?_
  exact j_ireturn (pc := 29) dX11_gap_29 rfl rfl
theorem dX11_thick_0 : decode cX11_thick 0 = .ok (.aload_n 0, 1) := by decide +kernel
theorem dX11_thick_1 : decode cX11_thick 1 = .ok (.getfield 10, 3) := by decide +kernel
theorem dX11_thick_4 : decode cX11_thick 4 = .ok (.getfield 172, 3) := by decide +kernel
theorem dX11_thick_7 : decode cX11_thick 7 = .ok (.ifCond .ne 8, 3) := by decide +kernel
theorem dX11_thick_10 : decode cX11_thick 10 = .ok (.bipush (-6), 2) := by decide +kernel
theorem dX11_thick_12 : decode cX11_thick 12 = .ok (.goto 14, 3) := by decide +kernel
theorem dX11_thick_15 : decode cX11_thick 15 = .ok (.aload_n 0, 1) := by decide +kernel
theorem dX11_thick_16 : decode cX11_thick 16 = .ok (.getfield 49, 3) := by decide +kernel
theorem dX11_thick_19 : decode cX11_thick 19 = .ok (.aload_n 0, 1) := by decide +kernel
theorem dX11_thick_20 : decode cX11_thick 20 = .ok (.getfield 10, 3) := by decide +kernel
theorem dX11_thick_23 : decode cX11_thick 23 = .ok (.invokevirtual 190, 3) := by decide +kernel
theorem dX11_thick_26 : decode cX11_thick 26 = .ok (.ireturn, 1) := by decide +kernel
theorem cw_X11_thick_190 : CwV mi_X11_thick mi_X10_thinnestFrost yX10_thinnestFrost RX10 190 1 := ⟨⟨w_981, w_982, w_983, w_105, w_984⟩, ⟨by decide, by decide⟩, by decide +kernel, by decide, by decide⟩
theorem ct_X11_thick {l : Launch} {Γ : Am} (r0 : Nat) (z : Hp) : Ct l Γ yX11_thick mi_X11_thick cvI [.ref (mB Γ + r0)] z (m_X11_thick r0 z) := by
  refine Ct.ofJ (by decide) ⟨rfl, rfl⟩ (Nat.le_of_ble_eq_true rfl) ?_
  unfold m_X11_thick
  show J l Γ mi_X11_thick cvI 0 0 0 [(0, .ref (mB Γ + r0))] [] z _
  refine j_aload_n (pc := 0) 0 dX11_thick_0 rfl rfl ?_
  refine j_getR (pc := 1) ok_X11 (by decide) rfl w_529 dX11_thick_1 (fun a1 => ?_)
  refine j_getI (pc := 4) ok_X8 (by decide) rfl w_323 dX11_thick_4 (fun x2 => ?_)
  refine j_if_ne (pc := 7) 15 dX11_thick_7 (by decide) ?_ ?_
  · refine j_aload_n (pc := 15) 0 dX11_thick_15 rfl rfl ?_
    refine j_getR (pc := 16) ok_X11 (by decide) rfl w_535 dX11_thick_16 (fun a3 => ?_)
    refine j_aload_n (pc := 19) 0 dX11_thick_19 rfl rfl ?_
    refine j_getR (pc := 20) ok_X11 (by decide) rfl w_529 dX11_thick_20 (fun a4 => ?_)
    refine j_isC (fun h7 => ?_)
    refine j_callV_I (pc := 23) (as := [.ref (mB Γ + a4)]) (mc2 := 0) (ms2 := 0) (ct_X10_thinnestFrost _ _ _) h7 rfl cw_X11_thick_190 dX11_thick_23 (Nat.le_of_ble_eq_true rfl) rfl (by decide) (by decide) (fun x6 z5 => ?_)
    exact j_ireturn (pc := 26) dX11_thick_26 rfl rfl
  refine j_bipush (pc := 10) (v := (-6)) dX11_thick_10 (by decide) ?_
  refine j_goto (pc := 12) 26 dX11_thick_12 (by decide) ?_
  exact j_ireturn (pc := 26) dX11_thick_26 rfl rfl
theorem dX11_measure_0 : decode cX11_measure 0 = .ok (.aload_n 0, 1) := by decide +kernel
theorem dX11_measure_1 : decode cX11_measure 1 = .ok (.getfield 10, 3) := by decide +kernel
theorem dX11_measure_4 : decode cX11_measure 4 = .ok (.getfield 172, 3) := by decide +kernel
theorem dX11_measure_7 : decode cX11_measure 7 = .ok (.ifCond .le 7, 3) := by decide +kernel
theorem dX11_measure_10 : decode cX11_measure 10 = .ok (.iconst 1, 1) := by decide +kernel
theorem dX11_measure_11 : decode cX11_measure 11 = .ok (.goto 4, 3) := by decide +kernel
theorem dX11_measure_14 : decode cX11_measure 14 = .ok (.iconst 0, 1) := by decide +kernel
theorem dX11_measure_15 : decode cX11_measure 15 = .ok (.istore_n 2, 1) := by decide +kernel
theorem dX11_measure_16 : decode cX11_measure 16 = .ok (.iload_n 1, 1) := by decide +kernel
theorem dX11_measure_17 : decode cX11_measure 17 = .ok (.tableswitch 103 0 3 #[31, 55, 75, 95], 31) := by decide +kernel
theorem dX11_measure_48 : decode cX11_measure 48 = .ok (.iload_n 2, 1) := by decide +kernel
theorem dX11_measure_49 : decode cX11_measure 49 = .ok (.ifCond .eq 21, 3) := by decide +kernel
theorem dX11_measure_52 : decode cX11_measure 52 = .ok (.aload_n 0, 1) := by decide +kernel
theorem dX11_measure_53 : decode cX11_measure 53 = .ok (.getfield 49, 3) := by decide +kernel
theorem dX11_measure_56 : decode cX11_measure 56 = .ok (.aload_n 0, 1) := by decide +kernel
theorem dX11_measure_57 : decode cX11_measure 57 = .ok (.getfield 10, 3) := by decide +kernel
theorem dX11_measure_60 : decode cX11_measure 60 = .ok (.invokevirtual 175, 3) := by decide +kernel
theorem dX11_measure_63 : decode cX11_measure 63 = .ok (.ifCond .eq 7, 3) := by decide +kernel
theorem dX11_measure_66 : decode cX11_measure 66 = .ok (.iconst 1, 1) := by decide +kernel
theorem dX11_measure_67 : decode cX11_measure 67 = .ok (.goto 4, 3) := by decide +kernel
theorem dX11_measure_70 : decode cX11_measure 70 = .ok (.iconst 0, 1) := by decide +kernel
theorem dX11_measure_71 : decode cX11_measure 71 = .ok (.ireturn, 1) := by decide +kernel
theorem dX11_measure_72 : decode cX11_measure 72 = .ok (.iload_n 2, 1) := by decide +kernel
theorem dX11_measure_73 : decode cX11_measure 73 = .ok (.ifCond .eq 17, 3) := by decide +kernel
theorem dX11_measure_76 : decode cX11_measure 76 = .ok (.aload_n 0, 1) := by decide +kernel
theorem dX11_measure_77 : decode cX11_measure 77 = .ok (.getfield 49, 3) := by decide +kernel
theorem dX11_measure_80 : decode cX11_measure 80 = .ok (.aload_n 0, 1) := by decide +kernel
theorem dX11_measure_81 : decode cX11_measure 81 = .ok (.getfield 10, 3) := by decide +kernel
theorem dX11_measure_84 : decode cX11_measure 84 = .ok (.invokevirtual 190, 3) := by decide +kernel
theorem dX11_measure_87 : decode cX11_measure 87 = .ok (.goto 4, 3) := by decide +kernel
theorem dX11_measure_90 : decode cX11_measure 90 = .ok (.iconst 0, 1) := by decide +kernel
theorem dX11_measure_91 : decode cX11_measure 91 = .ok (.ireturn, 1) := by decide +kernel
theorem dX11_measure_92 : decode cX11_measure 92 = .ok (.iload_n 2, 1) := by decide +kernel
theorem dX11_measure_93 : decode cX11_measure 93 = .ok (.ifCond .eq 17, 3) := by decide +kernel
theorem dX11_measure_96 : decode cX11_measure 96 = .ok (.aload_n 0, 1) := by decide +kernel
theorem dX11_measure_97 : decode cX11_measure 97 = .ok (.getfield 49, 3) := by decide +kernel
theorem dX11_measure_100 : decode cX11_measure 100 = .ok (.aload_n 0, 1) := by decide +kernel
theorem dX11_measure_101 : decode cX11_measure 101 = .ok (.getfield 10, 3) := by decide +kernel
theorem dX11_measure_104 : decode cX11_measure 104 = .ok (.invokevirtual 183, 3) := by decide +kernel
theorem dX11_measure_107 : decode cX11_measure 107 = .ok (.goto 4, 3) := by decide +kernel
theorem dX11_measure_110 : decode cX11_measure 110 = .ok (.iconst 0, 1) := by decide +kernel
theorem dX11_measure_111 : decode cX11_measure 111 = .ok (.ireturn, 1) := by decide +kernel
theorem dX11_measure_112 : decode cX11_measure 112 = .ok (.aload_n 0, 1) := by decide +kernel
theorem dX11_measure_113 : decode cX11_measure 113 = .ok (.getfield 10, 3) := by decide +kernel
theorem dX11_measure_116 : decode cX11_measure 116 = .ok (.getfield 103, 3) := by decide +kernel
theorem dX11_measure_119 : decode cX11_measure 119 = .ok (.ireturn, 1) := by decide +kernel
theorem dX11_measure_120 : decode cX11_measure 120 = .ok (.aload_n 0, 1) := by decide +kernel
theorem dX11_measure_121 : decode cX11_measure 121 = .ok (.getfield 10, 3) := by decide +kernel
theorem dX11_measure_124 : decode cX11_measure 124 = .ok (.invokevirtual 322, 3) := by decide +kernel
theorem dX11_measure_127 : decode cX11_measure 127 = .ok (.ireturn, 1) := by decide +kernel
theorem cw_X11_measure_175 : CwV mi_X11_measure mi_X10_isShut yX10_isShut RX10 175 1 := ⟨⟨w_846, w_847, w_848, w_105, w_849⟩, ⟨by decide, by decide⟩, by decide +kernel, by decide, by decide⟩
theorem cw_X11_measure_190 : CwV mi_X11_measure mi_X10_thinnestFrost yX10_thinnestFrost RX10 190 1 := ⟨⟨w_981, w_982, w_983, w_105, w_984⟩, ⟨by decide, by decide⟩, by decide +kernel, by decide, by decide⟩
theorem cw_X11_measure_183 : CwV mi_X11_measure mi_X10_fewestGaps yX10_fewestGaps RX10 183 1 := ⟨⟨w_934, w_935, w_936, w_105, w_937⟩, ⟨by decide, by decide⟩, by decide +kernel, by decide, by decide⟩
theorem cw_X11_measure_322 : CwV mi_X11_measure mi_X8_greatestLift yX8_greatestLift RX8 322 0 := ⟨⟨w_1005, w_1006, w_1007, w_96, w_1008⟩, ⟨by decide, by decide⟩, by decide +kernel, by decide, by decide⟩
theorem j_X11_measure_B15 {l : Launch} {Γ : Am}   : ∀ (r0 : Nat) (v1 : Int32) (t0 : Int32) (z : Hp), J l Γ mi_X11_measure cvI 0 0 15 [(0, .ref (mB Γ + r0)), (1, .int v1)] [.int t0] z (m_X11_measure_B15  r0 v1 t0 z) := by
  intro r0 v1 t0 z
  unfold m_X11_measure_B15
  refine j_istore_n (pc := 15) (lv2 := [(2, .int t0), (0, .ref (mB Γ + r0)), (1, .int v1)]) dX11_measure_15 rfl (by decide) rfl ?_
  refine j_iload_n (pc := 16) 2 dX11_measure_16 rfl rfl ?_
  refine j_ite (fun h6 => ?_) (fun h6 => ?_)
  · refine j_case (pc := 17) 48 dX11_measure_17 h6 (by decide) rfl (by decide) ?_
    refine j_iload_n (pc := 48) 0 dX11_measure_48 rfl rfl ?_
    refine j_if_eq (pc := 49) 70 dX11_measure_49 (by decide) ?_ ?_
    · refine j_iconst (pc := 70) (v := 0) dX11_measure_70 (by decide) ?_
      exact j_ireturn (pc := 71) dX11_measure_71 rfl rfl
    refine j_aload_n (pc := 52) 1 dX11_measure_52 rfl rfl ?_
    refine j_getR (pc := 53) ok_X11 (by decide) rfl w_535 dX11_measure_53 (fun a1 => ?_)
    refine j_aload_n (pc := 56) 1 dX11_measure_56 rfl rfl ?_
    refine j_getR (pc := 57) ok_X11 (by decide) rfl w_529 dX11_measure_57 (fun a2 => ?_)
    refine j_isC (fun h5 => ?_)
    refine j_callV_I (pc := 60) (as := [.ref (mB Γ + a2)]) (mc2 := 0) (ms2 := 0) (ct_X10_isShut _ _ _) h5 rfl cw_X11_measure_175 dX11_measure_60 (Nat.le_of_ble_eq_true rfl) rfl (by decide) (by decide) (fun x4 z3 => ?_)
    refine j_if_eq (pc := 63) 70 dX11_measure_63 (by decide) ?_ ?_
    · refine j_iconst (pc := 70) (v := 0) dX11_measure_70 (by decide) ?_
      exact j_ireturn (pc := 71) dX11_measure_71 rfl rfl
    refine j_iconst (pc := 66) (v := 1) dX11_measure_66 (by decide) ?_
    refine j_goto (pc := 67) 71 dX11_measure_67 (by decide) ?_
    exact j_ireturn (pc := 71) dX11_measure_71 rfl rfl
  refine j_ite (fun h12 => ?_) (fun h12 => ?_)
  · refine j_case (pc := 17) 72 dX11_measure_17 h12 (by decide) rfl (by decide) ?_
    refine j_iload_n (pc := 72) 0 dX11_measure_72 rfl rfl ?_
    refine j_if_eq (pc := 73) 90 dX11_measure_73 (by decide) ?_ ?_
    · refine j_iconst (pc := 90) (v := 0) dX11_measure_90 (by decide) ?_
      exact j_ireturn (pc := 91) dX11_measure_91 rfl rfl
    refine j_aload_n (pc := 76) 1 dX11_measure_76 rfl rfl ?_
    refine j_getR (pc := 77) ok_X11 (by decide) rfl w_535 dX11_measure_77 (fun a7 => ?_)
    refine j_aload_n (pc := 80) 1 dX11_measure_80 rfl rfl ?_
    refine j_getR (pc := 81) ok_X11 (by decide) rfl w_529 dX11_measure_81 (fun a8 => ?_)
    refine j_isC (fun h11 => ?_)
    refine j_callV_I (pc := 84) (as := [.ref (mB Γ + a8)]) (mc2 := 0) (ms2 := 0) (ct_X10_thinnestFrost _ _ _) h11 rfl cw_X11_measure_190 dX11_measure_84 (Nat.le_of_ble_eq_true rfl) rfl (by decide) (by decide) (fun x10 z9 => ?_)
    refine j_goto (pc := 87) 91 dX11_measure_87 (by decide) ?_
    exact j_ireturn (pc := 91) dX11_measure_91 rfl rfl
  refine j_ite (fun h18 => ?_) (fun h18 => ?_)
  · refine j_case (pc := 17) 92 dX11_measure_17 h18 (by decide) rfl (by decide) ?_
    refine j_iload_n (pc := 92) 0 dX11_measure_92 rfl rfl ?_
    refine j_if_eq (pc := 93) 110 dX11_measure_93 (by decide) ?_ ?_
    · refine j_iconst (pc := 110) (v := 0) dX11_measure_110 (by decide) ?_
      exact j_ireturn (pc := 111) dX11_measure_111 rfl rfl
    refine j_aload_n (pc := 96) 1 dX11_measure_96 rfl rfl ?_
    refine j_getR (pc := 97) ok_X11 (by decide) rfl w_535 dX11_measure_97 (fun a13 => ?_)
    refine j_aload_n (pc := 100) 1 dX11_measure_100 rfl rfl ?_
    refine j_getR (pc := 101) ok_X11 (by decide) rfl w_529 dX11_measure_101 (fun a14 => ?_)
    refine j_isC (fun h17 => ?_)
    refine j_callV_I (pc := 104) (as := [.ref (mB Γ + a14)]) (mc2 := 0) (ms2 := 0) (ct_X10_fewestGaps _ _ _) h17 rfl cw_X11_measure_183 dX11_measure_104 (Nat.le_of_ble_eq_true rfl) rfl (by decide) (by decide) (fun x16 z15 => ?_)
    refine j_goto (pc := 107) 111 dX11_measure_107 (by decide) ?_
    exact j_ireturn (pc := 111) dX11_measure_111 rfl rfl
  refine j_ite (fun h21 => ?_) (fun h21 => ?_)
  · refine j_case (pc := 17) 112 dX11_measure_17 h21 (by decide) rfl (by decide) ?_
    refine j_aload_n (pc := 112) 1 dX11_measure_112 rfl rfl ?_
    refine j_getR (pc := 113) ok_X11 (by decide) rfl w_529 dX11_measure_113 (fun a19 => ?_)
    refine j_getI (pc := 116) ok_X8 (by decide) rfl w_335 dX11_measure_116 (fun x20 => ?_)
    exact j_ireturn (pc := 119) dX11_measure_119 rfl rfl
  refine j_dflt (pc := 17) 120 dX11_measure_17 (sw_out 4 (by decide) (fun k hk => ?_)) (by decide) ?_
  · match k, hk with
    | 0, _ => exact h6
    | 1, _ => exact h12
    | 2, _ => exact h18
    | 3, _ => exact h21
    | k + 4, hk => exact absurd hk (by omega)
  refine j_aload_n (pc := 120) 1 dX11_measure_120 rfl rfl ?_
  refine j_getR (pc := 121) ok_X11 (by decide) rfl w_529 dX11_measure_121 (fun a22 => ?_)
  refine j_isC (fun h25 => ?_)
  refine j_callV_I (pc := 124) (as := []) (mc2 := 0) (ms2 := 0) (ct_X8_greatestLift _ _) h25 rfl cw_X11_measure_322 dX11_measure_124 (Nat.le_of_ble_eq_true rfl) rfl (by decide) (by decide) (fun x24 z23 => ?_)
  exact j_ireturn (pc := 127) dX11_measure_127 rfl rfl
theorem ct_X11_measure {l : Launch} {Γ : Am} (r0 : Nat) (v1 : Int32) (z : Hp) : Ct l Γ yX11_measure mi_X11_measure cvI [.ref (mB Γ + r0), .int v1] z (m_X11_measure r0 v1 z) := by
  refine Ct.ofJ (by decide) ⟨rfl, rfl⟩ (Nat.le_of_ble_eq_true rfl) ?_
  unfold m_X11_measure
  show J l Γ mi_X11_measure cvI 0 0 0 [(0, .ref (mB Γ + r0)), (1, .int v1)] [] z _
  refine j_aload_n (pc := 0) 0 dX11_measure_0 rfl rfl ?_
  refine j_getR (pc := 1) ok_X11 (by decide) rfl w_529 dX11_measure_1 (fun a26 => ?_)
  refine j_getI (pc := 4) ok_X8 (by decide) rfl w_323 dX11_measure_4 (fun x27 => ?_)
  refine j_if_le (pc := 7) 14 dX11_measure_7 (by decide) ?_ ?_
  · refine j_iconst (pc := 14) (v := 0) dX11_measure_14 (by decide) ?_
    exact J.sub [0, 1] rfl (j_X11_measure_B15 r0 v1 0 z)
  refine j_iconst (pc := 10) (v := 1) dX11_measure_10 (by decide) ?_
  refine j_goto (pc := 11) 15 dX11_measure_11 (by decide) ?_
  exact J.sub [0, 1] rfl (j_X11_measure_B15 r0 v1 1 z)
theorem dX11_lackingConds_0 : decode cX11_lackingConds 0 = .ok (.iconst 0, 1) := by decide +kernel
theorem dX11_lackingConds_1 : decode cX11_lackingConds 1 = .ok (.istore_n 2, 1) := by decide +kernel
theorem dX11_lackingConds_2 : decode cX11_lackingConds 2 = .ok (.iconst 0, 1) := by decide +kernel
theorem dX11_lackingConds_3 : decode cX11_lackingConds 3 = .ok (.istore_n 3, 1) := by decide +kernel
theorem dX11_lackingConds_4 : decode cX11_lackingConds 4 = .ok (.iload_n 3, 1) := by decide +kernel
theorem dX11_lackingConds_5 : decode cX11_lackingConds 5 = .ok (.aload_n 0, 1) := by decide +kernel
theorem dX11_lackingConds_6 : decode cX11_lackingConds 6 = .ok (.getfield 10, 3) := by decide +kernel
theorem dX11_lackingConds_9 : decode cX11_lackingConds 9 = .ok (.getfield 196, 3) := by decide +kernel
theorem dX11_lackingConds_12 : decode cX11_lackingConds 12 = .ok (.getfield 310, 3) := by decide +kernel
theorem dX11_lackingConds_15 : decode cX11_lackingConds 15 = .ok (.iload_n 1, 1) := by decide +kernel
theorem dX11_lackingConds_16 : decode cX11_lackingConds 16 = .ok (.iaload, 1) := by decide +kernel
theorem dX11_lackingConds_17 : decode cX11_lackingConds 17 = .ok (.if_icmp .ge 85, 3) := by decide +kernel
theorem dX11_lackingConds_20 : decode cX11_lackingConds 20 = .ok (.iconst 3, 1) := by decide +kernel
theorem dX11_lackingConds_21 : decode cX11_lackingConds 21 = .ok (.iload_n 1, 1) := by decide +kernel
theorem dX11_lackingConds_22 : decode cX11_lackingConds 22 = .ok (.imul, 1) := by decide +kernel
theorem dX11_lackingConds_23 : decode cX11_lackingConds 23 = .ok (.iload_n 3, 1) := by decide +kernel
theorem dX11_lackingConds_24 : decode cX11_lackingConds 24 = .ok (.iadd, 1) := by decide +kernel
theorem dX11_lackingConds_25 : decode cX11_lackingConds 25 = .ok (.istore 4, 2) := by decide +kernel
theorem dX11_lackingConds_27 : decode cX11_lackingConds 27 = .ok (.aload_n 0, 1) := by decide +kernel
theorem dX11_lackingConds_28 : decode cX11_lackingConds 28 = .ok (.getfield 10, 3) := by decide +kernel
theorem dX11_lackingConds_31 : decode cX11_lackingConds 31 = .ok (.getfield 196, 3) := by decide +kernel
theorem dX11_lackingConds_34 : decode cX11_lackingConds 34 = .ok (.getfield 313, 3) := by decide +kernel
theorem dX11_lackingConds_37 : decode cX11_lackingConds 37 = .ok (.iload 4, 2) := by decide +kernel
theorem dX11_lackingConds_39 : decode cX11_lackingConds 39 = .ok (.iaload, 1) := by decide +kernel
theorem dX11_lackingConds_40 : decode cX11_lackingConds 40 = .ok (.istore 5, 2) := by decide +kernel
theorem dX11_lackingConds_42 : decode cX11_lackingConds 42 = .ok (.aload_n 0, 1) := by decide +kernel
theorem dX11_lackingConds_43 : decode cX11_lackingConds 43 = .ok (.iload 5, 2) := by decide +kernel
theorem dX11_lackingConds_45 : decode cX11_lackingConds 45 = .ok (.invokevirtual 316, 3) := by decide +kernel
theorem dX11_lackingConds_48 : decode cX11_lackingConds 48 = .ok (.istore 6, 2) := by decide +kernel
theorem dX11_lackingConds_50 : decode cX11_lackingConds 50 = .ok (.iload 5, 2) := by decide +kernel
theorem dX11_lackingConds_52 : decode cX11_lackingConds 52 = .ok (.ifCond .ne 17, 3) := by decide +kernel
theorem dX11_lackingConds_55 : decode cX11_lackingConds 55 = .ok (.iload 6, 2) := by decide +kernel
theorem dX11_lackingConds_57 : decode cX11_lackingConds 57 = .ok (.iconst 1, 1) := by decide +kernel
theorem dX11_lackingConds_58 : decode cX11_lackingConds 58 = .ok (.if_icmp .ne 7, 3) := by decide +kernel
theorem dX11_lackingConds_61 : decode cX11_lackingConds 61 = .ok (.iconst 1, 1) := by decide +kernel
theorem dX11_lackingConds_62 : decode cX11_lackingConds 62 = .ok (.goto 21, 3) := by decide +kernel
theorem dX11_lackingConds_65 : decode cX11_lackingConds 65 = .ok (.iconst 0, 1) := by decide +kernel
theorem dX11_lackingConds_66 : decode cX11_lackingConds 66 = .ok (.goto 17, 3) := by decide +kernel
theorem dX11_lackingConds_69 : decode cX11_lackingConds 69 = .ok (.aload_n 0, 1) := by decide +kernel
theorem dX11_lackingConds_70 : decode cX11_lackingConds 70 = .ok (.getfield 10, 3) := by decide +kernel
theorem dX11_lackingConds_73 : decode cX11_lackingConds 73 = .ok (.getfield 196, 3) := by decide +kernel
theorem dX11_lackingConds_76 : decode cX11_lackingConds 76 = .ok (.iload 4, 2) := by decide +kernel
theorem dX11_lackingConds_78 : decode cX11_lackingConds 78 = .ok (.iload 6, 2) := by decide +kernel
theorem dX11_lackingConds_80 : decode cX11_lackingConds 80 = .ok (.invokevirtual 319, 3) := by decide +kernel
theorem dX11_lackingConds_83 : decode cX11_lackingConds 83 = .ok (.istore 7, 2) := by decide +kernel
theorem dX11_lackingConds_85 : decode cX11_lackingConds 85 = .ok (.iload 7, 2) := by decide +kernel
theorem dX11_lackingConds_87 : decode cX11_lackingConds 87 = .ok (.ifCond .ne 9, 3) := by decide +kernel
theorem dX11_lackingConds_90 : decode cX11_lackingConds 90 = .ok (.iload_n 2, 1) := by decide +kernel
theorem dX11_lackingConds_91 : decode cX11_lackingConds 91 = .ok (.iconst 1, 1) := by decide +kernel
theorem dX11_lackingConds_92 : decode cX11_lackingConds 92 = .ok (.iload_n 3, 1) := by decide +kernel
theorem dX11_lackingConds_93 : decode cX11_lackingConds 93 = .ok (.ishl, 1) := by decide +kernel
theorem dX11_lackingConds_94 : decode cX11_lackingConds 94 = .ok (.ior, 1) := by decide +kernel
theorem dX11_lackingConds_95 : decode cX11_lackingConds 95 = .ok (.istore_n 2, 1) := by decide +kernel
theorem dX11_lackingConds_96 : decode cX11_lackingConds 96 = .ok (.iinc 3 1, 3) := by decide +kernel
theorem dX11_lackingConds_99 : decode cX11_lackingConds 99 = .ok (.goto (-95), 3) := by decide +kernel
theorem dX11_lackingConds_102 : decode cX11_lackingConds 102 = .ok (.iload_n 2, 1) := by decide +kernel
theorem dX11_lackingConds_103 : decode cX11_lackingConds 103 = .ok (.ireturn, 1) := by decide +kernel
theorem cw_X11_lackingConds_316 : CwV mi_X11_lackingConds mi_X11_measure yX11_measure RX11 316 1 := ⟨⟨w_1001, w_1003, w_37, w_95, w_1004⟩, ⟨by decide, by decide⟩, by decide +kernel, by decide, by decide⟩
theorem cw_X11_lackingConds_319 : CwV mi_X11_lackingConds mi_X5_compares yX5_compares RX5 319 2 := ⟨⟨w_1010, w_1011, w_1012, w_100, w_1013⟩, ⟨by decide, by decide⟩, by decide +kernel, by decide, by decide⟩
theorem j_X11_lackingConds_B96 {l : Launch} {Γ : Am} {k4 : Nat → Int32 → Int32 → Int32 → Hp → Option (Int32 × Hp)} (hL4 : ∀ (r0 : Nat) (v1 : Int32) (v2 : Int32) (v3 : Int32) (z : Hp), J l Γ mi_X11_lackingConds cvI 0 0 4 [(0, .ref (mB Γ + r0)), (1, .int v1), (2, .int v2), (3, .int v3)] [] z (k4 r0 v1 v2 v3 z)) : ∀ (r0 : Nat) (v1 : Int32) (v2 : Int32) (v3 : Int32) (z : Hp), J l Γ mi_X11_lackingConds cvI 0 0 96 [(0, .ref (mB Γ + r0)), (1, .int v1), (2, .int v2), (3, .int v3)] [] z (m_X11_lackingConds_B96 k4 r0 v1 v2 v3 z) := by
  intro r0 v1 v2 v3 z
  unfold m_X11_lackingConds_B96
  refine j_iinc (pc := 96) (n0 := 3) (v0 := v3 + 1) (lv2 := [(3, .int (v3 + 1)), (0, .ref (mB Γ + r0)), (1, .int v1), (2, .int v2)]) dX11_lackingConds_96 rfl rfl (by decide) rfl ?_
  refine j_goto (pc := 99) 4 dX11_lackingConds_99 (by decide) ?_
  exact J.sub [1, 2, 3, 0] rfl (hL4 r0 v1 v2 (v3 + 1) z)
theorem j_X11_lackingConds_B83 {l : Launch} {Γ : Am} {k4 : Nat → Int32 → Int32 → Int32 → Hp → Option (Int32 × Hp)} (hL4 : ∀ (r0 : Nat) (v1 : Int32) (v2 : Int32) (v3 : Int32) (z : Hp), J l Γ mi_X11_lackingConds cvI 0 0 4 [(0, .ref (mB Γ + r0)), (1, .int v1), (2, .int v2), (3, .int v3)] [] z (k4 r0 v1 v2 v3 z)) : ∀ (r0 : Nat) (v1 : Int32) (v2 : Int32) (v3 : Int32) (t0 : Int32) (z : Hp), J l Γ mi_X11_lackingConds cvI 0 0 83 [(0, .ref (mB Γ + r0)), (1, .int v1), (2, .int v2), (3, .int v3)] [.int t0] z (m_X11_lackingConds_B83 k4 r0 v1 v2 v3 t0 z) := by
  intro r0 v1 v2 v3 t0 z
  unfold m_X11_lackingConds_B83
  refine j_istore (pc := 83) (lv2 := [(7, .int t0), (0, .ref (mB Γ + r0)), (1, .int v1), (2, .int v2), (3, .int v3)]) dX11_lackingConds_83 (by decide) rfl ?_
  refine j_iload (pc := 85) 0 dX11_lackingConds_85 rfl ?_
  refine j_if_ne (pc := 87) 96 dX11_lackingConds_87 (by decide) ?_ ?_
  · exact J.sub [1, 2, 3, 4] rfl ((j_X11_lackingConds_B96 hL4) r0 v1 v2 v3 z)
  refine j_iload_n (pc := 90) 3 dX11_lackingConds_90 rfl rfl ?_
  refine j_iconst (pc := 91) (v := 1) dX11_lackingConds_91 (by decide) ?_
  refine j_iload_n (pc := 92) 4 dX11_lackingConds_92 rfl rfl ?_
  refine j_ishl (pc := 93) dX11_lackingConds_93 ?_
  refine j_ior (pc := 94) dX11_lackingConds_94 ?_
  refine j_istore_n (pc := 95) (lv2 := [(2, .int (v2 ||| ((1 : Int32) <<< (v3 &&& 31)))), (7, .int t0), (0, .ref (mB Γ + r0)), (1, .int v1), (3, .int v3)]) dX11_lackingConds_95 rfl (by decide) rfl ?_
  exact J.sub [2, 3, 0, 4] rfl ((j_X11_lackingConds_B96 hL4) r0 v1 (v2 ||| ((1 : Int32) <<< (v3 &&& 31))) v3 z)
theorem j_X11_lackingConds_L4 {l : Launch} {Γ : Am}   : ∀ (f : Nat), ∀ (r0 : Nat) (v1 : Int32) (v2 : Int32) (v3 : Int32) (z : Hp), J l Γ mi_X11_lackingConds cvI 0 0 4 [(0, .ref (mB Γ + r0)), (1, .int v1), (2, .int v2), (3, .int v3)] [] z (m_X11_lackingConds_L4  f r0 v1 v2 v3 z) := by
  intro f
  induction f with
  | zero => intro r0 v1 v2 v3 z; exact J.none
  | succ f hL4 =>
    intro r0 v1 v2 v3 z
    rw [m_X11_lackingConds_L4]
    refine j_iload_n (pc := 4) 3 dX11_lackingConds_4 rfl rfl ?_
    refine j_aload_n (pc := 5) 0 dX11_lackingConds_5 rfl rfl ?_
    refine j_getR (pc := 6) ok_X11 (by decide) rfl w_529 dX11_lackingConds_6 (fun a1 => ?_)
    refine j_getR (pc := 9) ok_X8 (by decide) rfl w_302 dX11_lackingConds_9 (fun a2 => ?_)
    refine j_getR (pc := 12) ok_X5 (by decide) rfl w_251 dX11_lackingConds_12 (fun a3 => ?_)
    refine j_iload_n (pc := 15) 1 dX11_lackingConds_15 rfl rfl ?_
    refine j_iaload (pc := 16) dX11_lackingConds_16 (fun x4 => ?_)
    refine j_icmp_ge (pc := 17) 102 dX11_lackingConds_17 (by decide) ?_ ?_
    · refine j_iload_n (pc := 102) 2 dX11_lackingConds_102 rfl rfl ?_
      exact j_ireturn (pc := 103) dX11_lackingConds_103 rfl rfl
    refine j_iconst (pc := 20) (v := 3) dX11_lackingConds_20 (by decide) ?_
    refine j_iload_n (pc := 21) 1 dX11_lackingConds_21 rfl rfl ?_
    refine j_imul (pc := 22) dX11_lackingConds_22 ?_
    refine j_iload_n (pc := 23) 3 dX11_lackingConds_23 rfl rfl ?_
    refine j_iadd (pc := 24) dX11_lackingConds_24 ?_
    refine j_istore (pc := 25) (lv2 := [(4, .int ((3 * v1) + v3)), (0, .ref (mB Γ + r0)), (1, .int v1), (2, .int v2), (3, .int v3)]) dX11_lackingConds_25 (by decide) rfl ?_
    refine j_aload_n (pc := 27) 1 dX11_lackingConds_27 rfl rfl ?_
    refine j_getR (pc := 28) ok_X11 (by decide) rfl w_529 dX11_lackingConds_28 (fun a5 => ?_)
    refine j_getR (pc := 31) ok_X8 (by decide) rfl w_302 dX11_lackingConds_31 (fun a6 => ?_)
    refine j_getR (pc := 34) ok_X5 (by decide) rfl w_253 dX11_lackingConds_34 (fun a7 => ?_)
    refine j_iload (pc := 37) 0 dX11_lackingConds_37 rfl ?_
    refine j_iaload (pc := 39) dX11_lackingConds_39 (fun x8 => ?_)
    refine j_istore (pc := 40) (lv2 := [(5, .int x8), (4, .int ((3 * v1) + v3)), (0, .ref (mB Γ + r0)), (1, .int v1), (2, .int v2), (3, .int v3)]) dX11_lackingConds_40 (by decide) rfl ?_
    refine j_aload_n (pc := 42) 2 dX11_lackingConds_42 rfl rfl ?_
    refine j_iload (pc := 43) 0 dX11_lackingConds_43 rfl ?_
    refine j_isC (fun h11 => ?_)
    refine j_callV_I (pc := 45) (as := [.int x8]) (mc2 := 0) (ms2 := 0) (ct_X11_measure _ _ _) h11 rfl cw_X11_lackingConds_316 dX11_lackingConds_45 (Nat.le_of_ble_eq_true rfl) rfl (by decide) (by decide) (fun x10 z9 => ?_)
    refine j_istore (pc := 48) (lv2 := [(6, .int x10), (5, .int x8), (4, .int ((3 * v1) + v3)), (0, .ref (mB Γ + r0)), (1, .int v1), (2, .int v2), (3, .int v3)]) dX11_lackingConds_48 (by decide) rfl ?_
    refine j_iload (pc := 50) 1 dX11_lackingConds_50 rfl ?_
    refine j_if_ne (pc := 52) 69 dX11_lackingConds_52 (by decide) ?_ ?_
    · refine j_aload_n (pc := 69) 3 dX11_lackingConds_69 rfl rfl ?_
      refine j_getR (pc := 70) ok_X11 (by decide) rfl w_529 dX11_lackingConds_70 (fun a12 => ?_)
      refine j_getR (pc := 73) ok_X8 (by decide) rfl w_302 dX11_lackingConds_73 (fun a13 => ?_)
      refine j_iload (pc := 76) 2 dX11_lackingConds_76 rfl ?_
      refine j_iload (pc := 78) 0 dX11_lackingConds_78 rfl ?_
      refine j_isC (fun h16 => ?_)
      refine j_callV_I (pc := 80) (as := [.int ((3 * v1) + v3), .int x10]) (mc2 := 0) (ms2 := 0) (ct_X5_compares _ _ _ _) h16 rfl cw_X11_lackingConds_319 dX11_lackingConds_80 (Nat.le_of_ble_eq_true rfl) rfl (by decide) (by decide) (fun x15 z14 => ?_)
      exact J.sub [3, 4, 5, 6] rfl ((j_X11_lackingConds_B83 hL4) r0 v1 v2 v3 x15 z14)
    refine j_iload (pc := 55) 0 dX11_lackingConds_55 rfl ?_
    refine j_iconst (pc := 57) (v := 1) dX11_lackingConds_57 (by decide) ?_
    refine j_icmp_ne (pc := 58) 65 dX11_lackingConds_58 (by decide) ?_ ?_
    · refine j_iconst (pc := 65) (v := 0) dX11_lackingConds_65 (by decide) ?_
      refine j_goto (pc := 66) 83 dX11_lackingConds_66 (by decide) ?_
      exact J.sub [3, 4, 5, 6] rfl ((j_X11_lackingConds_B83 hL4) r0 v1 v2 v3 0 z9)
    refine j_iconst (pc := 61) (v := 1) dX11_lackingConds_61 (by decide) ?_
    refine j_goto (pc := 62) 83 dX11_lackingConds_62 (by decide) ?_
    exact J.sub [3, 4, 5, 6] rfl ((j_X11_lackingConds_B83 hL4) r0 v1 v2 v3 1 z9)
theorem ct_X11_lackingConds {l : Launch} {Γ : Am} (r0 : Nat) (v1 : Int32) (z : Hp) : Ct l Γ yX11_lackingConds mi_X11_lackingConds cvI [.ref (mB Γ + r0), .int v1] z (m_X11_lackingConds r0 v1 z) := by
  refine Ct.ofJ (by decide) ⟨rfl, rfl⟩ (Nat.le_of_ble_eq_true rfl) ?_
  unfold m_X11_lackingConds
  show J l Γ mi_X11_lackingConds cvI 0 0 0 [(0, .ref (mB Γ + r0)), (1, .int v1)] [] z _
  refine j_iconst (pc := 0) (v := 0) dX11_lackingConds_0 (by decide) ?_
  refine j_istore_n (pc := 1) (lv2 := [(2, .int 0), (0, .ref (mB Γ + r0)), (1, .int v1)]) dX11_lackingConds_1 rfl (by decide) rfl ?_
  refine j_iconst (pc := 2) (v := 0) dX11_lackingConds_2 (by decide) ?_
  refine j_istore_n (pc := 3) (lv2 := [(3, .int 0), (2, .int 0), (0, .ref (mB Γ + r0)), (1, .int v1)]) dX11_lackingConds_3 rfl (by decide) rfl ?_
  exact J.sub [2, 3, 1, 0] rfl ((j_X11_lackingConds_L4 FU) r0 v1 0 0 z)
theorem dX11_dig_0 : decode cX11_dig 0 = .ok (.iload_n 1, 1) := by decide +kernel
theorem dX11_dig_1 : decode cX11_dig 1 = .ok (.iload_n 2, 1) := by decide +kernel
theorem dX11_dig_2 : decode cX11_dig 2 = .ok (.invokestatic 115, 3) := by decide +kernel
theorem dX11_dig_5 : decode cX11_dig 5 = .ok (.ifCond .ne 6, 3) := by decide +kernel
theorem dX11_dig_8 : decode cX11_dig 8 = .ok (.bipush (-2), 2) := by decide +kernel
theorem dX11_dig_10 : decode cX11_dig 10 = .ok (.ireturn, 1) := by decide +kernel
theorem dX11_dig_11 : decode cX11_dig 11 = .ok (.bipush 12, 2) := by decide +kernel
theorem dX11_dig_13 : decode cX11_dig 13 = .ok (.iload_n 2, 1) := by decide +kernel
theorem dX11_dig_14 : decode cX11_dig 14 = .ok (.imul, 1) := by decide +kernel
theorem dX11_dig_15 : decode cX11_dig 15 = .ok (.iload_n 1, 1) := by decide +kernel
theorem dX11_dig_16 : decode cX11_dig 16 = .ok (.iadd, 1) := by decide +kernel
theorem dX11_dig_17 : decode cX11_dig 17 = .ok (.istore_n 3, 1) := by decide +kernel
theorem dX11_dig_18 : decode cX11_dig 18 = .ok (.aload_n 0, 1) := by decide +kernel
theorem dX11_dig_19 : decode cX11_dig 19 = .ok (.getfield 10, 3) := by decide +kernel
theorem dX11_dig_22 : decode cX11_dig 22 = .ok (.getfield 148, 3) := by decide +kernel
theorem dX11_dig_25 : decode cX11_dig 25 = .ok (.iload_n 3, 1) := by decide +kernel
theorem dX11_dig_26 : decode cX11_dig 26 = .ok (.iaload, 1) := by decide +kernel
theorem dX11_dig_27 : decode cX11_dig 27 = .ok (.ifCond .eq 15, 3) := by decide +kernel
theorem dX11_dig_30 : decode cX11_dig 30 = .ok (.aload_n 0, 1) := by decide +kernel
theorem dX11_dig_31 : decode cX11_dig 31 = .ok (.getfield 10, 3) := by decide +kernel
theorem dX11_dig_34 : decode cX11_dig 34 = .ok (.getfield 193, 3) := by decide +kernel
theorem dX11_dig_37 : decode cX11_dig 37 = .ok (.iload_n 3, 1) := by decide +kernel
theorem dX11_dig_38 : decode cX11_dig 38 = .ok (.iaload, 1) := by decide +kernel
theorem dX11_dig_39 : decode cX11_dig 39 = .ok (.ifCond .eq 6, 3) := by decide +kernel
theorem dX11_dig_42 : decode cX11_dig 42 = .ok (.bipush (-2), 2) := by decide +kernel
theorem dX11_dig_44 : decode cX11_dig 44 = .ok (.ireturn, 1) := by decide +kernel
theorem dX11_dig_45 : decode cX11_dig 45 = .ok (.aload_n 0, 1) := by decide +kernel
theorem dX11_dig_46 : decode cX11_dig 46 = .ok (.getfield 10, 3) := by decide +kernel
theorem dX11_dig_49 : decode cX11_dig 49 = .ok (.getfield 196, 3) := by decide +kernel
theorem dX11_dig_52 : decode cX11_dig 52 = .ok (.getfield 200, 3) := by decide +kernel
theorem dX11_dig_55 : decode cX11_dig 55 = .ok (.ifCond .ne 7, 3) := by decide +kernel
theorem dX11_dig_58 : decode cX11_dig 58 = .ok (.iconst 1, 1) := by decide +kernel
theorem dX11_dig_59 : decode cX11_dig 59 = .ok (.goto 4, 3) := by decide +kernel
theorem dX11_dig_62 : decode cX11_dig 62 = .ok (.iconst 0, 1) := by decide +kernel
theorem dX11_dig_63 : decode cX11_dig 63 = .ok (.istore 4, 2) := by decide +kernel
theorem dX11_dig_65 : decode cX11_dig 65 = .ok (.iconst 0, 1) := by decide +kernel
theorem dX11_dig_66 : decode cX11_dig 66 = .ok (.istore 5, 2) := by decide +kernel
theorem dX11_dig_68 : decode cX11_dig 68 = .ok (.iload 5, 2) := by decide +kernel
theorem dX11_dig_70 : decode cX11_dig 70 = .ok (.aload_n 0, 1) := by decide +kernel
theorem dX11_dig_71 : decode cX11_dig 71 = .ok (.getfield 10, 3) := by decide +kernel
theorem dX11_dig_74 : decode cX11_dig 74 = .ok (.getfield 196, 3) := by decide +kernel
theorem dX11_dig_77 : decode cX11_dig 77 = .ok (.getfield 200, 3) := by decide +kernel
theorem dX11_dig_80 : decode cX11_dig 80 = .ok (.if_icmp .ge 30, 3) := by decide +kernel
theorem dX11_dig_83 : decode cX11_dig 83 = .ok (.iload 4, 2) := by decide +kernel
theorem dX11_dig_85 : decode cX11_dig 85 = .ok (.ifCond .ne 25, 3) := by decide +kernel
theorem dX11_dig_88 : decode cX11_dig 88 = .ok (.aload_n 0, 1) := by decide +kernel
theorem dX11_dig_89 : decode cX11_dig 89 = .ok (.iload 5, 2) := by decide +kernel
theorem dX11_dig_91 : decode cX11_dig 91 = .ok (.invokevirtual 203, 3) := by decide +kernel
theorem dX11_dig_94 : decode cX11_dig 94 = .ok (.ifCond .ne 7, 3) := by decide +kernel
theorem dX11_dig_97 : decode cX11_dig 97 = .ok (.iconst 1, 1) := by decide +kernel
theorem dX11_dig_98 : decode cX11_dig 98 = .ok (.goto 4, 3) := by decide +kernel
theorem dX11_dig_101 : decode cX11_dig 101 = .ok (.iconst 0, 1) := by decide +kernel
theorem dX11_dig_102 : decode cX11_dig 102 = .ok (.istore 4, 2) := by decide +kernel
theorem dX11_dig_104 : decode cX11_dig 104 = .ok (.iinc 5 1, 3) := by decide +kernel
theorem dX11_dig_107 : decode cX11_dig 107 = .ok (.goto (-39), 3) := by decide +kernel
theorem dX11_dig_110 : decode cX11_dig 110 = .ok (.iload 4, 2) := by decide +kernel
theorem dX11_dig_112 : decode cX11_dig 112 = .ok (.ifCond .ne 6, 3) := by decide +kernel
theorem dX11_dig_115 : decode cX11_dig 115 = .ok (.bipush (-5), 2) := by decide +kernel
theorem dX11_dig_117 : decode cX11_dig 117 = .ok (.ireturn, 1) := by decide +kernel
theorem dX11_dig_118 : decode cX11_dig 118 = .ok (.aload_n 0, 1) := by decide +kernel
theorem dX11_dig_119 : decode cX11_dig 119 = .ok (.getfield 10, 3) := by decide +kernel
theorem dX11_dig_122 : decode cX11_dig 122 = .ok (.getfield 206, 3) := by decide +kernel
theorem dX11_dig_125 : decode cX11_dig 125 = .ok (.ifCond .eq 6, 3) := by decide +kernel
theorem dX11_dig_128 : decode cX11_dig 128 = .ok (.bipush (-7), 2) := by decide +kernel
theorem dX11_dig_130 : decode cX11_dig 130 = .ok (.ireturn, 1) := by decide +kernel
theorem dX11_dig_131 : decode cX11_dig 131 = .ok (.aload_n 0, 1) := by decide +kernel
theorem dX11_dig_132 : decode cX11_dig 132 = .ok (.getfield 10, 3) := by decide +kernel
theorem dX11_dig_135 : decode cX11_dig 135 = .ok (.iload_n 3, 1) := by decide +kernel
theorem dX11_dig_136 : decode cX11_dig 136 = .ok (.invokevirtual 209, 3) := by decide +kernel
theorem dX11_dig_139 : decode cX11_dig 139 = .ok (.aload_n 0, 1) := by decide +kernel
theorem dX11_dig_140 : decode cX11_dig 140 = .ok (.getfield 10, 3) := by decide +kernel
theorem dX11_dig_143 : decode cX11_dig 143 = .ok (.getfield 172, 3) := by decide +kernel
theorem dX11_dig_146 : decode cX11_dig 146 = .ok (.aload_n 0, 1) := by decide +kernel
theorem dX11_dig_147 : decode cX11_dig 147 = .ok (.getfield 10, 3) := by decide +kernel
theorem dX11_dig_150 : decode cX11_dig 150 = .ok (.getfield 212, 3) := by decide +kernel
theorem dX11_dig_153 : decode cX11_dig 153 = .ok (.isub, 1) := by decide +kernel
theorem dX11_dig_154 : decode cX11_dig 154 = .ok (.ireturn, 1) := by decide +kernel
theorem cw_X11_dig_209 : CwV mi_X11_dig mi_X8_digOut yX8_digOut RX8 209 1 := ⟨⟨w_1014, w_1015, w_1016, w_96, w_1017⟩, ⟨by decide, by decide⟩, by decide +kernel, by decide, by decide⟩
theorem cw_X11_dig_203 : CwV mi_X11_dig mi_X11_lackingConds yX11_lackingConds RX11 203 1 := ⟨⟨w_997, w_999, w_36, w_95, w_1000⟩, ⟨by decide, by decide⟩, by decide +kernel, by decide, by decide⟩
theorem cw_X11_dig_115 : CwS mi_X11_dig mi_X11_isCell yX11_isCell 115 2 := ⟨⟨w_885, w_886, w_95, w_887⟩, ⟨by decide, by decide⟩, by decide +kernel, by decide, by decide⟩
theorem j_X11_dig_B110 {l : Launch} {Γ : Am}   : ∀ (r0 : Nat) (v3 : Int32) (v4 : Int32) (z : Hp), J l Γ mi_X11_dig cvI 0 0 110 [(0, .ref (mB Γ + r0)), (3, .int v3), (4, .int v4)] [] z (m_X11_dig_B110  r0 v3 v4 z) := by
  intro r0 v3 v4 z
  unfold m_X11_dig_B110
  refine j_iload (pc := 110) 2 dX11_dig_110 rfl ?_
  refine j_if_ne (pc := 112) 118 dX11_dig_112 (by decide) ?_ ?_
  · refine j_aload_n (pc := 118) 0 dX11_dig_118 rfl rfl ?_
    refine j_getR (pc := 119) ok_X11 (by decide) rfl w_529 dX11_dig_119 (fun a1 => ?_)
    refine j_getI (pc := 122) ok_X8 (by decide) rfl w_337 dX11_dig_122 (fun x2 => ?_)
    refine j_if_eq (pc := 125) 131 dX11_dig_125 (by decide) ?_ ?_
    · refine j_aload_n (pc := 131) 0 dX11_dig_131 rfl rfl ?_
      refine j_getR (pc := 132) ok_X11 (by decide) rfl w_529 dX11_dig_132 (fun a3 => ?_)
      refine j_iload_n (pc := 135) 1 dX11_dig_135 rfl rfl ?_
      refine j_isC (fun h5 => ?_)
      refine j_callV_V (pc := 136) (as := [.int v3]) (mc2 := 0) (ms2 := 0) (ct_X8_digOut _ _ _) h5 rfl cw_X11_dig_209 dX11_dig_136 (Nat.le_of_ble_eq_true rfl) rfl (by decide) (by decide) (fun _ z4 => ?_)
      refine j_aload_n (pc := 139) 0 dX11_dig_139 rfl rfl ?_
      refine j_getR (pc := 140) ok_X11 (by decide) rfl w_529 dX11_dig_140 (fun a6 => ?_)
      refine j_getI (pc := 143) ok_X8 (by decide) rfl w_323 dX11_dig_143 (fun x7 => ?_)
      refine j_aload_n (pc := 146) 0 dX11_dig_146 rfl rfl ?_
      refine j_getR (pc := 147) ok_X11 (by decide) rfl w_529 dX11_dig_147 (fun a8 => ?_)
      refine j_getI (pc := 150) ok_X8 (by decide) rfl w_325 dX11_dig_150 (fun x9 => ?_)
      refine j_isub (pc := 153) dX11_dig_153 ?_
      exact j_ireturn (pc := 154) dX11_dig_154 rfl rfl
    refine j_bipush (pc := 128) (v := (-7)) dX11_dig_128 (by decide) ?_
    exact j_ireturn (pc := 130) dX11_dig_130 rfl rfl
  refine j_bipush (pc := 115) (v := (-5)) dX11_dig_115 (by decide) ?_
  exact j_ireturn (pc := 117) dX11_dig_117 rfl rfl
theorem j_X11_dig_B102 {l : Launch} {Γ : Am} {k68 : Nat → Int32 → Int32 → Int32 → Hp → Option (Int32 × Hp)} (hL68 : ∀ (r0 : Nat) (v3 : Int32) (v4 : Int32) (v5 : Int32) (z : Hp), J l Γ mi_X11_dig cvI 0 0 68 [(0, .ref (mB Γ + r0)), (3, .int v3), (4, .int v4), (5, .int v5)] [] z (k68 r0 v3 v4 v5 z)) : ∀ (r0 : Nat) (v3 : Int32) (v5 : Int32) (t0 : Int32) (z : Hp), J l Γ mi_X11_dig cvI 0 0 102 [(0, .ref (mB Γ + r0)), (3, .int v3), (5, .int v5)] [.int t0] z (m_X11_dig_B102 k68 r0 v3 v5 t0 z) := by
  intro r0 v3 v5 t0 z
  unfold m_X11_dig_B102
  refine j_istore (pc := 102) (lv2 := [(4, .int t0), (0, .ref (mB Γ + r0)), (3, .int v3), (5, .int v5)]) dX11_dig_102 (by decide) rfl ?_
  refine j_iinc (pc := 104) (n0 := 3) (v0 := v5 + 1) (lv2 := [(5, .int (v5 + 1)), (4, .int t0), (0, .ref (mB Γ + r0)), (3, .int v3)]) dX11_dig_104 rfl rfl (by decide) rfl ?_
  refine j_goto (pc := 107) 68 dX11_dig_107 (by decide) ?_
  exact J.sub [2, 3, 1, 0] rfl (hL68 r0 v3 t0 (v5 + 1) z)
theorem j_X11_dig_L68 {l : Launch} {Γ : Am} {k110 : Nat → Int32 → Int32 → Hp → Option (Int32 × Hp)} (hL110 : ∀ (r0 : Nat) (v3 : Int32) (v4 : Int32) (z : Hp), J l Γ mi_X11_dig cvI 0 0 110 [(0, .ref (mB Γ + r0)), (3, .int v3), (4, .int v4)] [] z (k110 r0 v3 v4 z)) : ∀ (f : Nat), ∀ (r0 : Nat) (v3 : Int32) (v4 : Int32) (v5 : Int32) (z : Hp), J l Γ mi_X11_dig cvI 0 0 68 [(0, .ref (mB Γ + r0)), (3, .int v3), (4, .int v4), (5, .int v5)] [] z (m_X11_dig_L68 k110 f r0 v3 v4 v5 z) := by
  intro f
  induction f with
  | zero => intro r0 v3 v4 v5 z; exact J.none
  | succ f hL68 =>
    intro r0 v3 v4 v5 z
    rw [m_X11_dig_L68]
    refine j_iload (pc := 68) 3 dX11_dig_68 rfl ?_
    refine j_aload_n (pc := 70) 0 dX11_dig_70 rfl rfl ?_
    refine j_getR (pc := 71) ok_X11 (by decide) rfl w_529 dX11_dig_71 (fun a10 => ?_)
    refine j_getR (pc := 74) ok_X8 (by decide) rfl w_302 dX11_dig_74 (fun a11 => ?_)
    refine j_getI (pc := 77) ok_X5 (by decide) rfl w_259 dX11_dig_77 (fun x12 => ?_)
    refine j_icmp_ge (pc := 80) 110 dX11_dig_80 (by decide) ?_ ?_
    · exact J.sub [0, 1, 2] rfl (hL110 r0 v3 v4 z)
    refine j_iload (pc := 83) 2 dX11_dig_83 rfl ?_
    refine j_if_ne (pc := 85) 110 dX11_dig_85 (by decide) ?_ ?_
    · exact J.sub [0, 1, 2] rfl (hL110 r0 v3 v4 z)
    refine j_aload_n (pc := 88) 0 dX11_dig_88 rfl rfl ?_
    refine j_iload (pc := 89) 3 dX11_dig_89 rfl ?_
    refine j_isC (fun h15 => ?_)
    refine j_callV_I (pc := 91) (as := [.int v5]) (mc2 := 0) (ms2 := 0) (ct_X11_lackingConds _ _ _) h15 rfl cw_X11_dig_203 dX11_dig_91 (Nat.le_of_ble_eq_true rfl) rfl (by decide) (by decide) (fun x14 z13 => ?_)
    refine j_if_ne (pc := 94) 101 dX11_dig_94 (by decide) ?_ ?_
    · refine j_iconst (pc := 101) (v := 0) dX11_dig_101 (by decide) ?_
      exact J.sub [0, 1, 3] rfl ((j_X11_dig_B102 hL68) r0 v3 v5 0 z13)
    refine j_iconst (pc := 97) (v := 1) dX11_dig_97 (by decide) ?_
    refine j_goto (pc := 98) 102 dX11_dig_98 (by decide) ?_
    exact J.sub [0, 1, 3] rfl ((j_X11_dig_B102 hL68) r0 v3 v5 1 z13)
theorem j_X11_dig_B63 {l : Launch} {Γ : Am}   : ∀ (r0 : Nat) (v3 : Int32) (t0 : Int32) (z : Hp), J l Γ mi_X11_dig cvI 0 0 63 [(0, .ref (mB Γ + r0)), (3, .int v3)] [.int t0] z (m_X11_dig_B63  r0 v3 t0 z) := by
  intro r0 v3 t0 z
  unfold m_X11_dig_B63
  refine j_istore (pc := 63) (lv2 := [(4, .int t0), (0, .ref (mB Γ + r0)), (3, .int v3)]) dX11_dig_63 (by decide) rfl ?_
  refine j_iconst (pc := 65) (v := 0) dX11_dig_65 (by decide) ?_
  refine j_istore (pc := 66) (lv2 := [(5, .int 0), (4, .int t0), (0, .ref (mB Γ + r0)), (3, .int v3)]) dX11_dig_66 (by decide) rfl ?_
  exact J.sub [2, 3, 1, 0] rfl ((j_X11_dig_L68 j_X11_dig_B110 FU) r0 v3 t0 0 z)
theorem ct_X11_dig {l : Launch} {Γ : Am} (r0 : Nat) (v1 : Int32) (v2 : Int32) (z : Hp) : Ct l Γ yX11_dig mi_X11_dig cvI [.ref (mB Γ + r0), .int v1, .int v2] z (m_X11_dig r0 v1 v2 z) := by
  refine Ct.ofJ (by decide) ⟨rfl, rfl⟩ (Nat.le_of_ble_eq_true rfl) ?_
  unfold m_X11_dig
  show J l Γ mi_X11_dig cvI 0 0 0 [(0, .ref (mB Γ + r0)), (1, .int v1), (2, .int v2)] [] z _
  refine j_iload_n (pc := 0) 1 dX11_dig_0 rfl rfl ?_
  refine j_iload_n (pc := 1) 2 dX11_dig_1 rfl rfl ?_
  refine j_callS_I (pc := 2) (as := [.int v1, .int v2]) (mc2 := 0) (ms2 := 0) (ct_X11_isCell _ _ _) cw_X11_dig_115 dX11_dig_2 (Nat.le_of_ble_eq_true rfl) rfl (by decide) (by decide) (fun x17 z16 => ?_)
  refine j_if_ne (pc := 5) 11 dX11_dig_5 (by decide) ?_ ?_
  · refine j_bipush (pc := 11) (v := 12) dX11_dig_11 (by decide) ?_
    refine j_iload_n (pc := 13) 2 dX11_dig_13 rfl rfl ?_
    refine j_imul (pc := 14) dX11_dig_14 ?_
    refine j_iload_n (pc := 15) 1 dX11_dig_15 rfl rfl ?_
    refine j_iadd (pc := 16) dX11_dig_16 ?_
    refine j_istore_n (pc := 17) (lv2 := [(3, .int ((12 * v2) + v1)), (0, .ref (mB Γ + r0)), (1, .int v1), (2, .int v2)]) dX11_dig_17 rfl (by decide) rfl ?_
    refine j_aload_n (pc := 18) 1 dX11_dig_18 rfl rfl ?_
    refine j_getR (pc := 19) ok_X11 (by decide) rfl w_529 dX11_dig_19 (fun a18 => ?_)
    refine j_getR (pc := 22) ok_X8 (by decide) rfl w_315 dX11_dig_22 (fun a19 => ?_)
    refine j_iload_n (pc := 25) 0 dX11_dig_25 rfl rfl ?_
    refine j_iaload (pc := 26) dX11_dig_26 (fun x20 => ?_)
    refine j_if_eq (pc := 27) 42 dX11_dig_27 (by decide) ?_ ?_
    · refine j_bipush (pc := 42) (v := (-2)) dX11_dig_42 (by decide) ?_
      exact j_ireturn (pc := 44) dX11_dig_44 rfl rfl
    refine j_aload_n (pc := 30) 1 dX11_dig_30 rfl rfl ?_
    refine j_getR (pc := 31) ok_X11 (by decide) rfl w_529 dX11_dig_31 (fun a21 => ?_)
    refine j_getR (pc := 34) ok_X8 (by decide) rfl w_313 dX11_dig_34 (fun a22 => ?_)
    refine j_iload_n (pc := 37) 0 dX11_dig_37 rfl rfl ?_
    refine j_iaload (pc := 38) dX11_dig_38 (fun x23 => ?_)
    refine j_if_eq (pc := 39) 45 dX11_dig_39 (by decide) ?_ ?_
    · refine j_aload_n (pc := 45) 1 dX11_dig_45 rfl rfl ?_
      refine j_getR (pc := 46) ok_X11 (by decide) rfl w_529 dX11_dig_46 (fun a24 => ?_)
      refine j_getR (pc := 49) ok_X8 (by decide) rfl w_302 dX11_dig_49 (fun a25 => ?_)
      refine j_getI (pc := 52) ok_X5 (by decide) rfl w_259 dX11_dig_52 (fun x26 => ?_)
      refine j_if_ne (pc := 55) 62 dX11_dig_55 (by decide) ?_ ?_
      · refine j_iconst (pc := 62) (v := 0) dX11_dig_62 (by decide) ?_
        exact J.sub [1, 0] rfl (j_X11_dig_B63 r0 ((12 * v2) + v1) 0 z16)
      refine j_iconst (pc := 58) (v := 1) dX11_dig_58 (by decide) ?_
      refine j_goto (pc := 59) 63 dX11_dig_59 (by decide) ?_
      exact J.sub [1, 0] rfl (j_X11_dig_B63 r0 ((12 * v2) + v1) 1 z16)
    refine j_bipush (pc := 42) (v := (-2)) dX11_dig_42 (by decide) ?_
    exact j_ireturn (pc := 44) dX11_dig_44 rfl rfl
  refine j_bipush (pc := 8) (v := (-2)) dX11_dig_8 (by decide) ?_
  exact j_ireturn (pc := 10) dX11_dig_10 rfl rfl
theorem dX11_lacks_0 : decode cX11_lacks 0 = .ok (.iload_n 1, 1) := by decide +kernel
theorem dX11_lacks_1 : decode cX11_lacks 1 = .ok (.ifCond .lt 17, 3) := by decide +kernel
theorem dX11_lacks_4 : decode cX11_lacks 4 = .ok (.iload_n 1, 1) := by decide +kernel
theorem dX11_lacks_5 : decode cX11_lacks 5 = .ok (.aload_n 0, 1) := by decide +kernel
theorem dX11_lacks_6 : decode cX11_lacks 6 = .ok (.getfield 10, 3) := by decide +kernel
theorem dX11_lacks_9 : decode cX11_lacks 9 = .ok (.getfield 196, 3) := by decide +kernel
theorem dX11_lacks_12 : decode cX11_lacks 12 = .ok (.getfield 200, 3) := by decide +kernel
theorem dX11_lacks_15 : decode cX11_lacks 15 = .ok (.if_icmp .lt 5, 3) := by decide +kernel
theorem dX11_lacks_18 : decode cX11_lacks 18 = .ok (.iconst (-1), 1) := by decide +kernel
theorem dX11_lacks_19 : decode cX11_lacks 19 = .ok (.ireturn, 1) := by decide +kernel
theorem dX11_lacks_20 : decode cX11_lacks 20 = .ok (.aload_n 0, 1) := by decide +kernel
theorem dX11_lacks_21 : decode cX11_lacks 21 = .ok (.iload_n 1, 1) := by decide +kernel
theorem dX11_lacks_22 : decode cX11_lacks 22 = .ok (.invokevirtual 203, 3) := by decide +kernel
theorem dX11_lacks_25 : decode cX11_lacks 25 = .ok (.ireturn, 1) := by decide +kernel
theorem cw_X11_lacks_203 : CwV mi_X11_lacks mi_X11_lackingConds yX11_lackingConds RX11 203 1 := ⟨⟨w_997, w_999, w_36, w_95, w_1000⟩, ⟨by decide, by decide⟩, by decide +kernel, by decide, by decide⟩
theorem ct_X11_lacks {l : Launch} {Γ : Am} (r0 : Nat) (v1 : Int32) (z : Hp) : Ct l Γ yX11_lacks mi_X11_lacks cvI [.ref (mB Γ + r0), .int v1] z (m_X11_lacks r0 v1 z) := by
  refine Ct.ofJ (by decide) ⟨rfl, rfl⟩ (Nat.le_of_ble_eq_true rfl) ?_
  unfold m_X11_lacks
  show J l Γ mi_X11_lacks cvI 0 0 0 [(0, .ref (mB Γ + r0)), (1, .int v1)] [] z _
  refine j_iload_n (pc := 0) 1 dX11_lacks_0 rfl rfl ?_
  refine j_if_lt (pc := 1) 18 dX11_lacks_1 (by decide) ?_ ?_
  · refine j_iconst (pc := 18) (v := (-1)) dX11_lacks_18 (by decide) ?_
    exact j_ireturn (pc := 19) dX11_lacks_19 rfl rfl
  refine j_iload_n (pc := 4) 1 dX11_lacks_4 rfl rfl ?_
  refine j_aload_n (pc := 5) 0 dX11_lacks_5 rfl rfl ?_
  refine j_getR (pc := 6) ok_X11 (by decide) rfl w_529 dX11_lacks_6 (fun a1 => ?_)
  refine j_getR (pc := 9) ok_X8 (by decide) rfl w_302 dX11_lacks_9 (fun a2 => ?_)
  refine j_getI (pc := 12) ok_X5 (by decide) rfl w_259 dX11_lacks_12 (fun x3 => ?_)
  refine j_icmp_lt (pc := 15) 20 dX11_lacks_15 (by decide) ?_ ?_
  · refine j_aload_n (pc := 20) 0 dX11_lacks_20 rfl rfl ?_
    refine j_iload_n (pc := 21) 1 dX11_lacks_21 rfl rfl ?_
    refine j_isC (fun h6 => ?_)
    refine j_callV_I (pc := 22) (as := [.int v1]) (mc2 := 0) (ms2 := 0) (ct_X11_lackingConds _ _ _) h6 rfl cw_X11_lacks_203 dX11_lacks_22 (Nat.le_of_ble_eq_true rfl) rfl (by decide) (by decide) (fun x5 z4 => ?_)
    exact j_ireturn (pc := 25) dX11_lacks_25 rfl rfl
  refine j_iconst (pc := 18) (v := (-1)) dX11_lacks_18 (by decide) ?_
  exact j_ireturn (pc := 19) dX11_lacks_19 rfl rfl
theorem dX11_pump_0 : decode cX11_pump 0 = .ok (.aload_n 0, 1) := by decide +kernel
theorem dX11_pump_1 : decode cX11_pump 1 = .ok (.getfield 10, 3) := by decide +kernel
theorem dX11_pump_4 : decode cX11_pump 4 = .ok (.getfield 172, 3) := by decide +kernel
theorem dX11_pump_7 : decode cX11_pump 7 = .ok (.ifCond .ne 6, 3) := by decide +kernel
theorem dX11_pump_10 : decode cX11_pump 10 = .ok (.bipush (-6), 2) := by decide +kernel
theorem dX11_pump_12 : decode cX11_pump 12 = .ok (.ireturn, 1) := by decide +kernel
theorem dX11_pump_13 : decode cX11_pump 13 = .ok (.aload_n 0, 1) := by decide +kernel
theorem dX11_pump_14 : decode cX11_pump 14 = .ok (.getfield 10, 3) := by decide +kernel
theorem dX11_pump_17 : decode cX11_pump 17 = .ok (.getfield 206, 3) := by decide +kernel
theorem dX11_pump_20 : decode cX11_pump 20 = .ok (.ifCond .ne 6, 3) := by decide +kernel
theorem dX11_pump_23 : decode cX11_pump 23 = .ok (.bipush (-5), 2) := by decide +kernel
theorem dX11_pump_25 : decode cX11_pump 25 = .ok (.ireturn, 1) := by decide +kernel
theorem dX11_pump_26 : decode cX11_pump 26 = .ok (.aload_n 0, 1) := by decide +kernel
theorem dX11_pump_27 : decode cX11_pump 27 = .ok (.getfield 49, 3) := by decide +kernel
theorem dX11_pump_30 : decode cX11_pump 30 = .ok (.aload_n 0, 1) := by decide +kernel
theorem dX11_pump_31 : decode cX11_pump 31 = .ok (.getfield 10, 3) := by decide +kernel
theorem dX11_pump_34 : decode cX11_pump 34 = .ok (.invokevirtual 175, 3) := by decide +kernel
theorem dX11_pump_37 : decode cX11_pump 37 = .ok (.ifCond .ne 6, 3) := by decide +kernel
theorem dX11_pump_40 : decode cX11_pump 40 = .ok (.bipush (-8), 2) := by decide +kernel
theorem dX11_pump_42 : decode cX11_pump 42 = .ok (.ireturn, 1) := by decide +kernel
theorem dX11_pump_43 : decode cX11_pump 43 = .ok (.aload_n 0, 1) := by decide +kernel
theorem dX11_pump_44 : decode cX11_pump 44 = .ok (.getfield 10, 3) := by decide +kernel
theorem dX11_pump_47 : decode cX11_pump 47 = .ok (.iconst 0, 1) := by decide +kernel
theorem dX11_pump_48 : decode cX11_pump 48 = .ok (.putfield 206, 3) := by decide +kernel
theorem dX11_pump_51 : decode cX11_pump 51 = .ok (.iconst 0, 1) := by decide +kernel
theorem dX11_pump_52 : decode cX11_pump 52 = .ok (.ireturn, 1) := by decide +kernel
theorem cw_X11_pump_175 : CwV mi_X11_pump mi_X10_isShut yX10_isShut RX10 175 1 := ⟨⟨w_846, w_847, w_848, w_105, w_849⟩, ⟨by decide, by decide⟩, by decide +kernel, by decide, by decide⟩
theorem ct_X11_pump {l : Launch} {Γ : Am} (r0 : Nat) (z : Hp) : Ct l Γ yX11_pump mi_X11_pump cvI [.ref (mB Γ + r0)] z (m_X11_pump r0 z) := by
  refine Ct.ofJ (by decide) ⟨rfl, rfl⟩ (Nat.le_of_ble_eq_true rfl) ?_
  unfold m_X11_pump
  show J l Γ mi_X11_pump cvI 0 0 0 [(0, .ref (mB Γ + r0))] [] z _
  refine j_aload_n (pc := 0) 0 dX11_pump_0 rfl rfl ?_
  refine j_getR (pc := 1) ok_X11 (by decide) rfl w_529 dX11_pump_1 (fun a1 => ?_)
  refine j_getI (pc := 4) ok_X8 (by decide) rfl w_323 dX11_pump_4 (fun x2 => ?_)
  refine j_if_ne (pc := 7) 13 dX11_pump_7 (by decide) ?_ ?_
  · refine j_aload_n (pc := 13) 0 dX11_pump_13 rfl rfl ?_
    refine j_getR (pc := 14) ok_X11 (by decide) rfl w_529 dX11_pump_14 (fun a3 => ?_)
    refine j_getI (pc := 17) ok_X8 (by decide) rfl w_337 dX11_pump_17 (fun x4 => ?_)
    refine j_if_ne (pc := 20) 26 dX11_pump_20 (by decide) ?_ ?_
    · refine j_aload_n (pc := 26) 0 dX11_pump_26 rfl rfl ?_
      refine j_getR (pc := 27) ok_X11 (by decide) rfl w_535 dX11_pump_27 (fun a5 => ?_)
      refine j_aload_n (pc := 30) 0 dX11_pump_30 rfl rfl ?_
      refine j_getR (pc := 31) ok_X11 (by decide) rfl w_529 dX11_pump_31 (fun a6 => ?_)
      refine j_isC (fun h9 => ?_)
      refine j_callV_I (pc := 34) (as := [.ref (mB Γ + a6)]) (mc2 := 0) (ms2 := 0) (ct_X10_isShut _ _ _) h9 rfl cw_X11_pump_175 dX11_pump_34 (Nat.le_of_ble_eq_true rfl) rfl (by decide) (by decide) (fun x8 z7 => ?_)
      refine j_if_ne (pc := 37) 43 dX11_pump_37 (by decide) ?_ ?_
      · refine j_aload_n (pc := 43) 0 dX11_pump_43 rfl rfl ?_
        refine j_getR (pc := 44) ok_X11 (by decide) rfl w_529 dX11_pump_44 (fun a10 => ?_)
        refine j_iconst (pc := 47) (v := 0) dX11_pump_47 (by decide) ?_
        refine j_putI (pc := 48) ok_X8 (by decide) rfl w_337 (Or.inl rfl) rfl rfl dX11_pump_48 (fun z11 => ?_)
        refine j_iconst (pc := 51) (v := 0) dX11_pump_51 (by decide) ?_
        exact j_ireturn (pc := 52) dX11_pump_52 rfl rfl
      refine j_bipush (pc := 40) (v := (-8)) dX11_pump_40 (by decide) ?_
      exact j_ireturn (pc := 42) dX11_pump_42 rfl rfl
    refine j_bipush (pc := 23) (v := (-5)) dX11_pump_23 (by decide) ?_
    exact j_ireturn (pc := 25) dX11_pump_25 rfl rfl
  refine j_bipush (pc := 10) (v := (-6)) dX11_pump_10 (by decide) ?_
  exact j_ireturn (pc := 12) dX11_pump_12 rfl rfl
theorem dX11_lift_0 : decode cX11_lift 0 = .ok (.iload_n 1, 1) := by decide +kernel
theorem dX11_lift_1 : decode cX11_lift 1 = .ok (.ifCond .lt 20, 3) := by decide +kernel
theorem dX11_lift_4 : decode cX11_lift 4 = .ok (.iload_n 1, 1) := by decide +kernel
theorem dX11_lift_5 : decode cX11_lift 5 = .ok (.bipush 12, 2) := by decide +kernel
theorem dX11_lift_7 : decode cX11_lift 7 = .ok (.if_icmp .ge 14, 3) := by decide +kernel
theorem dX11_lift_10 : decode cX11_lift 10 = .ok (.aload_n 0, 1) := by decide +kernel
theorem dX11_lift_11 : decode cX11_lift 11 = .ok (.getfield 10, 3) := by decide +kernel
theorem dX11_lift_14 : decode cX11_lift 14 = .ok (.iload_n 1, 1) := by decide +kernel
theorem dX11_lift_15 : decode cX11_lift 15 = .ok (.invokevirtual 215, 3) := by decide +kernel
theorem dX11_lift_18 : decode cX11_lift 18 = .ok (.goto 5, 3) := by decide +kernel
theorem dX11_lift_21 : decode cX11_lift 21 = .ok (.ldc 119, 2) := by decide +kernel
theorem dX11_lift_23 : decode cX11_lift 23 = .ok (.ireturn, 1) := by decide +kernel
theorem cw_X11_lift_215 : CwV mi_X11_lift mi_X8_liftOfColumn yX8_liftOfColumn RX8 215 1 := ⟨⟨w_1030, w_875, w_876, w_96, w_877⟩, ⟨by decide, by decide⟩, by decide +kernel, by decide, by decide⟩
theorem ct_X11_lift {l : Launch} {Γ : Am} (r0 : Nat) (v1 : Int32) (z : Hp) : Ct l Γ yX11_lift mi_X11_lift cvI [.ref (mB Γ + r0), .int v1] z (m_X11_lift r0 v1 z) := by
  refine Ct.ofJ (by decide) ⟨rfl, rfl⟩ (Nat.le_of_ble_eq_true rfl) ?_
  unfold m_X11_lift
  show J l Γ mi_X11_lift cvI 0 0 0 [(0, .ref (mB Γ + r0)), (1, .int v1)] [] z _
  refine j_iload_n (pc := 0) 1 dX11_lift_0 rfl rfl ?_
  refine j_if_lt (pc := 1) 21 dX11_lift_1 (by decide) ?_ ?_
  · refine j_ldc (pc := 21) (v := (-2000000000)) dX11_lift_21 w_888 ?_
    exact j_ireturn (pc := 23) dX11_lift_23 rfl rfl
  refine j_iload_n (pc := 4) 1 dX11_lift_4 rfl rfl ?_
  refine j_bipush (pc := 5) (v := 12) dX11_lift_5 (by decide) ?_
  refine j_icmp_ge (pc := 7) 21 dX11_lift_7 (by decide) ?_ ?_
  · refine j_ldc (pc := 21) (v := (-2000000000)) dX11_lift_21 w_888 ?_
    exact j_ireturn (pc := 23) dX11_lift_23 rfl rfl
  refine j_aload_n (pc := 10) 0 dX11_lift_10 rfl rfl ?_
  refine j_getR (pc := 11) ok_X11 (by decide) rfl w_529 dX11_lift_11 (fun a1 => ?_)
  refine j_iload_n (pc := 14) 1 dX11_lift_14 rfl rfl ?_
  refine j_isC (fun h4 => ?_)
  refine j_callV_I (pc := 15) (as := [.int v1]) (mc2 := 0) (ms2 := 0) (ct_X8_liftOfColumn _ _ _) h4 rfl cw_X11_lift_215 dX11_lift_15 (Nat.le_of_ble_eq_true rfl) rfl (by decide) (by decide) (fun x3 z2 => ?_)
  refine j_goto (pc := 18) 23 dX11_lift_18 (by decide) ?_
  exact j_ireturn (pc := 23) dX11_lift_23 rfl rfl
theorem dX11_cracks_0 : decode cX11_cracks 0 = .ok (.aload_n 0, 1) := by decide +kernel
theorem dX11_cracks_1 : decode cX11_cracks 1 = .ok (.getfield 10, 3) := by decide +kernel
theorem dX11_cracks_4 : decode cX11_cracks 4 = .ok (.getfield 218, 3) := by decide +kernel
theorem dX11_cracks_7 : decode cX11_cracks 7 = .ok (.invokevirtual 222, 3) := by decide +kernel
theorem dX11_cracks_10 : decode cX11_cracks 10 = .ok (.ireturn, 1) := by decide +kernel
theorem cw_X11_cracks_222 : CwV mi_X11_cracks mi_X1_crackedBits yX1_crackedBits RX1 222 0 := ⟨⟨w_1035, w_1036, w_1037, w_99, w_1038⟩, ⟨by decide, by decide⟩, by decide +kernel, by decide, by decide⟩
theorem ct_X11_cracks {l : Launch} {Γ : Am} (r0 : Nat) (z : Hp) : Ct l Γ yX11_cracks mi_X11_cracks cvI [.ref (mB Γ + r0)] z (m_X11_cracks r0 z) := by
  refine Ct.ofJ (by decide) ⟨rfl, rfl⟩ (Nat.le_of_ble_eq_true rfl) ?_
  unfold m_X11_cracks
  show J l Γ mi_X11_cracks cvI 0 0 0 [(0, .ref (mB Γ + r0))] [] z _
  refine j_aload_n (pc := 0) 0 dX11_cracks_0 rfl rfl ?_
  refine j_getR (pc := 1) ok_X11 (by decide) rfl w_529 dX11_cracks_1 (fun a1 => ?_)
  refine j_getR (pc := 4) ok_X8 (by decide) rfl w_299 dX11_cracks_4 (fun a2 => ?_)
  refine j_isC (fun h5 => ?_)
  refine j_callV_I (pc := 7) (as := []) (mc2 := 0) (ms2 := 0) (ct_X1_crackedBits _ _) h5 rfl cw_X11_cracks_222 dX11_cracks_7 (Nat.le_of_ble_eq_true rfl) rfl (by decide) (by decide) (fun x4 z3 => ?_)
  exact j_ireturn (pc := 10) dX11_cracks_10 rfl rfl
theorem dX11_house_0 : decode cX11_house 0 = .ok (.aload_n 0, 1) := by decide +kernel
theorem dX11_house_1 : decode cX11_house 1 = .ok (.getfield 10, 3) := by decide +kernel
theorem dX11_house_4 : decode cX11_house 4 = .ok (.getfield 218, 3) := by decide +kernel
theorem dX11_house_7 : decode cX11_house 7 = .ok (.iload_n 1, 1) := by decide +kernel
theorem dX11_house_8 : decode cX11_house 8 = .ok (.iload_n 2, 1) := by decide +kernel
theorem dX11_house_9 : decode cX11_house 9 = .ok (.invokevirtual 227, 3) := by decide +kernel
theorem dX11_house_12 : decode cX11_house 12 = .ok (.ireturn, 1) := by decide +kernel
theorem cw_X11_house_227 : CwV mi_X11_house mi_X1_tell yX1_tell RX1 227 2 := ⟨⟨w_1043, w_1044, w_1045, w_99, w_1046⟩, ⟨by decide, by decide⟩, by decide +kernel, by decide, by decide⟩
theorem ct_X11_house {l : Launch} {Γ : Am} (r0 : Nat) (v1 : Int32) (v2 : Int32) (z : Hp) : Ct l Γ yX11_house mi_X11_house cvI [.ref (mB Γ + r0), .int v1, .int v2] z (m_X11_house r0 v1 v2 z) := by
  refine Ct.ofJ (by decide) ⟨rfl, rfl⟩ (Nat.le_of_ble_eq_true rfl) ?_
  unfold m_X11_house
  show J l Γ mi_X11_house cvI 0 0 0 [(0, .ref (mB Γ + r0)), (1, .int v1), (2, .int v2)] [] z _
  refine j_aload_n (pc := 0) 0 dX11_house_0 rfl rfl ?_
  refine j_getR (pc := 1) ok_X11 (by decide) rfl w_529 dX11_house_1 (fun a1 => ?_)
  refine j_getR (pc := 4) ok_X8 (by decide) rfl w_299 dX11_house_4 (fun a2 => ?_)
  refine j_iload_n (pc := 7) 1 dX11_house_7 rfl rfl ?_
  refine j_iload_n (pc := 8) 2 dX11_house_8 rfl rfl ?_
  refine j_isC (fun h5 => ?_)
  refine j_callV_I (pc := 9) (as := [.int v1, .int v2]) (mc2 := 0) (ms2 := 0) (ct_X1_tell _ _ _ _) h5 rfl cw_X11_house_227 dX11_house_9 (Nat.le_of_ble_eq_true rfl) rfl (by decide) (by decide) (fun x4 z3 => ?_)
  exact j_ireturn (pc := 12) dX11_house_12 rfl rfl
theorem dX11_firstTickWith_0 : decode cX11_firstTickWith 0 = .ok (.iconst 0, 1) := by decide +kernel
theorem dX11_firstTickWith_1 : decode cX11_firstTickWith 1 = .ok (.istore_n 3, 1) := by decide +kernel
theorem dX11_firstTickWith_2 : decode cX11_firstTickWith 2 = .ok (.iload_n 3, 1) := by decide +kernel
theorem dX11_firstTickWith_3 : decode cX11_firstTickWith 3 = .ok (.bipush 60, 2) := by decide +kernel
theorem dX11_firstTickWith_5 : decode cX11_firstTickWith 5 = .ok (.if_icmp .gt 46, 3) := by decide +kernel
theorem dX11_firstTickWith_8 : decode cX11_firstTickWith 8 = .ok (.iload_n 3, 1) := by decide +kernel
theorem dX11_firstTickWith_9 : decode cX11_firstTickWith 9 = .ok (.ifCond .le 14, 3) := by decide +kernel
theorem dX11_firstTickWith_12 : decode cX11_firstTickWith 12 = .ok (.aload_n 0, 1) := by decide +kernel
theorem dX11_firstTickWith_13 : decode cX11_firstTickWith 13 = .ok (.getfield 42, 3) := by decide +kernel
theorem dX11_firstTickWith_16 : decode cX11_firstTickWith 16 = .ok (.aload_n 0, 1) := by decide +kernel
theorem dX11_firstTickWith_17 : decode cX11_firstTickWith 17 = .ok (.getfield 16, 3) := by decide +kernel
theorem dX11_firstTickWith_20 : decode cX11_firstTickWith 20 = .ok (.invokevirtual 106, 3) := by decide +kernel
theorem dX11_firstTickWith_23 : decode cX11_firstTickWith 23 = .ok (.iload_n 3, 1) := by decide +kernel
theorem dX11_firstTickWith_24 : decode cX11_firstTickWith 24 = .ok (.iload_n 2, 1) := by decide +kernel
theorem dX11_firstTickWith_25 : decode cX11_firstTickWith 25 = .ok (.if_icmp .lt 20, 3) := by decide +kernel
theorem dX11_firstTickWith_28 : decode cX11_firstTickWith 28 = .ok (.aload_n 0, 1) := by decide +kernel
theorem dX11_firstTickWith_29 : decode cX11_firstTickWith 29 = .ok (.getfield 49, 3) := by decide +kernel
theorem dX11_firstTickWith_32 : decode cX11_firstTickWith 32 = .ok (.aload_n 0, 1) := by decide +kernel
theorem dX11_firstTickWith_33 : decode cX11_firstTickWith 33 = .ok (.getfield 16, 3) := by decide +kernel
theorem dX11_firstTickWith_36 : decode cX11_firstTickWith 36 = .ok (.invokevirtual 175, 3) := by decide +kernel
theorem dX11_firstTickWith_39 : decode cX11_firstTickWith 39 = .ok (.iload_n 1, 1) := by decide +kernel
theorem dX11_firstTickWith_40 : decode cX11_firstTickWith 40 = .ok (.if_icmp .ne 5, 3) := by decide +kernel
theorem dX11_firstTickWith_43 : decode cX11_firstTickWith 43 = .ok (.iload_n 3, 1) := by decide +kernel
theorem dX11_firstTickWith_44 : decode cX11_firstTickWith 44 = .ok (.ireturn, 1) := by decide +kernel
theorem dX11_firstTickWith_45 : decode cX11_firstTickWith 45 = .ok (.iinc 3 1, 3) := by decide +kernel
theorem dX11_firstTickWith_48 : decode cX11_firstTickWith 48 = .ok (.goto (-46), 3) := by decide +kernel
theorem dX11_firstTickWith_51 : decode cX11_firstTickWith 51 = .ok (.iconst (-1), 1) := by decide +kernel
theorem dX11_firstTickWith_52 : decode cX11_firstTickWith 52 = .ok (.ireturn, 1) := by decide +kernel
theorem cw_X11_firstTickWith_175 : CwV mi_X11_firstTickWith mi_X10_isShut yX10_isShut RX10 175 1 := ⟨⟨w_846, w_847, w_848, w_105, w_849⟩, ⟨by decide, by decide⟩, by decide +kernel, by decide, by decide⟩
theorem cw_X11_firstTickWith_106 : CwV mi_X11_firstTickWith mi_X9_pass yX9_pass RX9 106 1 := ⟨⟨w_792, w_793, w_794, w_104, w_795⟩, ⟨by decide, by decide⟩, by decide +kernel, by decide, by decide⟩
theorem j_X11_firstTickWith_B45 {l : Launch} {Γ : Am} {k2 : Nat → Int32 → Int32 → Int32 → Hp → Option (Int32 × Hp)} (hL2 : ∀ (r0 : Nat) (v1 : Int32) (v2 : Int32) (v3 : Int32) (z : Hp), J l Γ mi_X11_firstTickWith cvI 0 0 2 [(0, .ref (mB Γ + r0)), (1, .int v1), (2, .int v2), (3, .int v3)] [] z (k2 r0 v1 v2 v3 z)) : ∀ (r0 : Nat) (v1 : Int32) (v2 : Int32) (v3 : Int32) (z : Hp), J l Γ mi_X11_firstTickWith cvI 0 0 45 [(0, .ref (mB Γ + r0)), (1, .int v1), (2, .int v2), (3, .int v3)] [] z (m_X11_firstTickWith_B45 k2 r0 v1 v2 v3 z) := by
  intro r0 v1 v2 v3 z
  unfold m_X11_firstTickWith_B45
  refine j_iinc (pc := 45) (n0 := 3) (v0 := v3 + 1) (lv2 := [(3, .int (v3 + 1)), (0, .ref (mB Γ + r0)), (1, .int v1), (2, .int v2)]) dX11_firstTickWith_45 rfl rfl (by decide) rfl ?_
  refine j_goto (pc := 48) 2 dX11_firstTickWith_48 (by decide) ?_
  exact J.sub [1, 2, 3, 0] rfl (hL2 r0 v1 v2 (v3 + 1) z)
theorem j_X11_firstTickWith_B23 {l : Launch} {Γ : Am} {k2 : Nat → Int32 → Int32 → Int32 → Hp → Option (Int32 × Hp)} (hL2 : ∀ (r0 : Nat) (v1 : Int32) (v2 : Int32) (v3 : Int32) (z : Hp), J l Γ mi_X11_firstTickWith cvI 0 0 2 [(0, .ref (mB Γ + r0)), (1, .int v1), (2, .int v2), (3, .int v3)] [] z (k2 r0 v1 v2 v3 z)) : ∀ (r0 : Nat) (v1 : Int32) (v2 : Int32) (v3 : Int32) (z : Hp), J l Γ mi_X11_firstTickWith cvI 0 0 23 [(0, .ref (mB Γ + r0)), (1, .int v1), (2, .int v2), (3, .int v3)] [] z (m_X11_firstTickWith_B23 k2 r0 v1 v2 v3 z) := by
  intro r0 v1 v2 v3 z
  unfold m_X11_firstTickWith_B23
  refine j_iload_n (pc := 23) 3 dX11_firstTickWith_23 rfl rfl ?_
  refine j_iload_n (pc := 24) 2 dX11_firstTickWith_24 rfl rfl ?_
  refine j_icmp_lt (pc := 25) 45 dX11_firstTickWith_25 (by decide) ?_ ?_
  · exact J.sub [0, 1, 2, 3] rfl ((j_X11_firstTickWith_B45 hL2) r0 v1 v2 v3 z)
  refine j_aload_n (pc := 28) 0 dX11_firstTickWith_28 rfl rfl ?_
  refine j_getR (pc := 29) ok_X11 (by decide) rfl w_535 dX11_firstTickWith_29 (fun a1 => ?_)
  refine j_aload_n (pc := 32) 0 dX11_firstTickWith_32 rfl rfl ?_
  refine j_getR (pc := 33) ok_X11 (by decide) rfl w_530 dX11_firstTickWith_33 (fun a2 => ?_)
  refine j_isC (fun h5 => ?_)
  refine j_callV_I (pc := 36) (as := [.ref (mB Γ + a2)]) (mc2 := 0) (ms2 := 0) (ct_X10_isShut _ _ _) h5 rfl cw_X11_firstTickWith_175 dX11_firstTickWith_36 (Nat.le_of_ble_eq_true rfl) rfl (by decide) (by decide) (fun x4 z3 => ?_)
  refine j_iload_n (pc := 39) 1 dX11_firstTickWith_39 rfl rfl ?_
  refine j_icmp_ne (pc := 40) 45 dX11_firstTickWith_40 (by decide) ?_ ?_
  · exact J.sub [0, 1, 2, 3] rfl ((j_X11_firstTickWith_B45 hL2) r0 v1 v2 v3 z3)
  refine j_iload_n (pc := 43) 3 dX11_firstTickWith_43 rfl rfl ?_
  exact j_ireturn (pc := 44) dX11_firstTickWith_44 rfl rfl
theorem j_X11_firstTickWith_L2 {l : Launch} {Γ : Am}   : ∀ (f : Nat), ∀ (r0 : Nat) (v1 : Int32) (v2 : Int32) (v3 : Int32) (z : Hp), J l Γ mi_X11_firstTickWith cvI 0 0 2 [(0, .ref (mB Γ + r0)), (1, .int v1), (2, .int v2), (3, .int v3)] [] z (m_X11_firstTickWith_L2  f r0 v1 v2 v3 z) := by
  intro f
  induction f with
  | zero => intro r0 v1 v2 v3 z; exact J.none
  | succ f hL2 =>
    intro r0 v1 v2 v3 z
    rw [m_X11_firstTickWith_L2]
    refine j_iload_n (pc := 2) 3 dX11_firstTickWith_2 rfl rfl ?_
    refine j_bipush (pc := 3) (v := 60) dX11_firstTickWith_3 (by decide) ?_
    refine j_icmp_gt (pc := 5) 51 dX11_firstTickWith_5 (by decide) ?_ ?_
    · refine j_iconst (pc := 51) (v := (-1)) dX11_firstTickWith_51 (by decide) ?_
      exact j_ireturn (pc := 52) dX11_firstTickWith_52 rfl rfl
    refine j_iload_n (pc := 8) 3 dX11_firstTickWith_8 rfl rfl ?_
    refine j_if_le (pc := 9) 23 dX11_firstTickWith_9 (by decide) ?_ ?_
    · exact J.sub [0, 1, 2, 3] rfl ((j_X11_firstTickWith_B23 hL2) r0 v1 v2 v3 z)
    refine j_aload_n (pc := 12) 0 dX11_firstTickWith_12 rfl rfl ?_
    refine j_getR (pc := 13) ok_X11 (by decide) rfl w_534 dX11_firstTickWith_13 (fun a6 => ?_)
    refine j_aload_n (pc := 16) 0 dX11_firstTickWith_16 rfl rfl ?_
    refine j_getR (pc := 17) ok_X11 (by decide) rfl w_530 dX11_firstTickWith_17 (fun a7 => ?_)
    refine j_isC (fun h9 => ?_)
    refine j_callV_V (pc := 20) (as := [.ref (mB Γ + a7)]) (mc2 := 0) (ms2 := 0) (ct_X9_pass _ _ _) h9 rfl cw_X11_firstTickWith_106 dX11_firstTickWith_20 (Nat.le_of_ble_eq_true rfl) rfl (by decide) (by decide) (fun _ z8 => ?_)
    exact J.sub [0, 1, 2, 3] rfl ((j_X11_firstTickWith_B23 hL2) r0 v1 v2 v3 z8)
theorem ct_X11_firstTickWith {l : Launch} {Γ : Am} (r0 : Nat) (v1 : Int32) (v2 : Int32) (z : Hp) : Ct l Γ yX11_firstTickWith mi_X11_firstTickWith cvI [.ref (mB Γ + r0), .int v1, .int v2] z (m_X11_firstTickWith r0 v1 v2 z) := by
  refine Ct.ofJ (by decide) ⟨rfl, rfl⟩ (Nat.le_of_ble_eq_true rfl) ?_
  unfold m_X11_firstTickWith
  show J l Γ mi_X11_firstTickWith cvI 0 0 0 [(0, .ref (mB Γ + r0)), (1, .int v1), (2, .int v2)] [] z _
  refine j_iconst (pc := 0) (v := 0) dX11_firstTickWith_0 (by decide) ?_
  refine j_istore_n (pc := 1) (lv2 := [(3, .int 0), (0, .ref (mB Γ + r0)), (1, .int v1), (2, .int v2)]) dX11_firstTickWith_1 rfl (by decide) rfl ?_
  exact J.sub [1, 2, 3, 0] rfl ((j_X11_firstTickWith_L2 FU) r0 v1 v2 0 z)
theorem dX11_foretell_0 : decode cX11_foretell 0 = .ok (.aload_n 0, 1) := by decide +kernel
theorem dX11_foretell_1 : decode cX11_foretell 1 = .ok (.getfield 10, 3) := by decide +kernel
theorem dX11_foretell_4 : decode cX11_foretell 4 = .ok (.getfield 172, 3) := by decide +kernel
theorem dX11_foretell_7 : decode cX11_foretell 7 = .ok (.ifCond .ne 6, 3) := by decide +kernel
theorem dX11_foretell_10 : decode cX11_foretell 10 = .ok (.bipush (-6), 2) := by decide +kernel
theorem dX11_foretell_12 : decode cX11_foretell 12 = .ok (.ireturn, 1) := by decide +kernel
theorem dX11_foretell_13 : decode cX11_foretell 13 = .ok (.aload_n 0, 1) := by decide +kernel
theorem dX11_foretell_14 : decode cX11_foretell 14 = .ok (.getfield 16, 3) := by decide +kernel
theorem dX11_foretell_17 : decode cX11_foretell 17 = .ok (.aload_n 0, 1) := by decide +kernel
theorem dX11_foretell_18 : decode cX11_foretell 18 = .ok (.getfield 10, 3) := by decide +kernel
theorem dX11_foretell_21 : decode cX11_foretell 21 = .ok (.invokevirtual 228, 3) := by decide +kernel
theorem dX11_foretell_24 : decode cX11_foretell 24 = .ok (.aload_n 0, 1) := by decide +kernel
theorem dX11_foretell_25 : decode cX11_foretell 25 = .ok (.iconst 1, 1) := by decide +kernel
theorem dX11_foretell_26 : decode cX11_foretell 26 = .ok (.iconst 0, 1) := by decide +kernel
theorem dX11_foretell_27 : decode cX11_foretell 27 = .ok (.invokevirtual 231, 3) := by decide +kernel
theorem dX11_foretell_30 : decode cX11_foretell 30 = .ok (.ireturn, 1) := by decide +kernel
theorem cw_X11_foretell_228 : CwV mi_X11_foretell mi_X8_copyFrom yX8_copyFrom RX8 228 1 := ⟨⟨w_1052, w_1053, w_1054, w_96, w_1055⟩, ⟨by decide, by decide⟩, by decide +kernel, by decide, by decide⟩
theorem cw_X11_foretell_231 : CwV mi_X11_foretell mi_X11_firstTickWith yX11_firstTickWith RX11 231 2 := ⟨⟨w_1084, w_1086, w_38, w_95, w_1087⟩, ⟨by decide, by decide⟩, by decide +kernel, by decide, by decide⟩
theorem ct_X11_foretell {l : Launch} {Γ : Am} (r0 : Nat) (z : Hp) : Ct l Γ yX11_foretell mi_X11_foretell cvI [.ref (mB Γ + r0)] z (m_X11_foretell r0 z) := by
  refine Ct.ofJ (by decide) ⟨rfl, rfl⟩ (Nat.le_of_ble_eq_true rfl) ?_
  unfold m_X11_foretell
  show J l Γ mi_X11_foretell cvI 0 0 0 [(0, .ref (mB Γ + r0))] [] z _
  refine j_aload_n (pc := 0) 0 dX11_foretell_0 rfl rfl ?_
  refine j_getR (pc := 1) ok_X11 (by decide) rfl w_529 dX11_foretell_1 (fun a1 => ?_)
  refine j_getI (pc := 4) ok_X8 (by decide) rfl w_323 dX11_foretell_4 (fun x2 => ?_)
  refine j_if_ne (pc := 7) 13 dX11_foretell_7 (by decide) ?_ ?_
  · refine j_aload_n (pc := 13) 0 dX11_foretell_13 rfl rfl ?_
    refine j_getR (pc := 14) ok_X11 (by decide) rfl w_530 dX11_foretell_14 (fun a3 => ?_)
    refine j_aload_n (pc := 17) 0 dX11_foretell_17 rfl rfl ?_
    refine j_getR (pc := 18) ok_X11 (by decide) rfl w_529 dX11_foretell_18 (fun a4 => ?_)
    refine j_isC (fun h6 => ?_)
    refine j_callV_V (pc := 21) (as := [.ref (mB Γ + a4)]) (mc2 := 0) (ms2 := 0) (ct_X8_copyFrom _ _ _) h6 rfl cw_X11_foretell_228 dX11_foretell_21 (Nat.le_of_ble_eq_true rfl) rfl (by decide) (by decide) (fun _ z5 => ?_)
    refine j_aload_n (pc := 24) 0 dX11_foretell_24 rfl rfl ?_
    refine j_iconst (pc := 25) (v := 1) dX11_foretell_25 (by decide) ?_
    refine j_iconst (pc := 26) (v := 0) dX11_foretell_26 (by decide) ?_
    refine j_isC (fun h9 => ?_)
    refine j_callV_I (pc := 27) (as := [.int 1, .int 0]) (mc2 := 0) (ms2 := 0) (ct_X11_firstTickWith _ _ _ _) h9 rfl cw_X11_foretell_231 dX11_foretell_27 (Nat.le_of_ble_eq_true rfl) rfl (by decide) (by decide) (fun x8 z7 => ?_)
    exact j_ireturn (pc := 30) dX11_foretell_30 rfl rfl
  refine j_bipush (pc := 10) (v := (-6)) dX11_foretell_10 (by decide) ?_
  exact j_ireturn (pc := 12) dX11_foretell_12 rfl rfl
theorem dX11_off_0 : decode cX11_off 0 = .ok (.aload_n 0, 1) := by decide +kernel
theorem dX11_off_1 : decode cX11_off 1 = .ok (.getfield 10, 3) := by decide +kernel
theorem dX11_off_4 : decode cX11_off 4 = .ok (.getfield 172, 3) := by decide +kernel
theorem dX11_off_7 : decode cX11_off 7 = .ok (.ifCond .ne 6, 3) := by decide +kernel
theorem dX11_off_10 : decode cX11_off 10 = .ok (.bipush (-6), 2) := by decide +kernel
theorem dX11_off_12 : decode cX11_off 12 = .ok (.ireturn, 1) := by decide +kernel
theorem dX11_off_13 : decode cX11_off 13 = .ok (.aload_n 0, 1) := by decide +kernel
theorem dX11_off_14 : decode cX11_off 14 = .ok (.getfield 49, 3) := by decide +kernel
theorem dX11_off_17 : decode cX11_off 17 = .ok (.aload_n 0, 1) := by decide +kernel
theorem dX11_off_18 : decode cX11_off 18 = .ok (.getfield 10, 3) := by decide +kernel
theorem dX11_off_21 : decode cX11_off 21 = .ok (.invokevirtual 175, 3) := by decide +kernel
theorem dX11_off_24 : decode cX11_off 24 = .ok (.ifCond .ne 6, 3) := by decide +kernel
theorem dX11_off_27 : decode cX11_off 27 = .ok (.bipush (-5), 2) := by decide +kernel
theorem dX11_off_29 : decode cX11_off 29 = .ok (.ireturn, 1) := by decide +kernel
theorem dX11_off_30 : decode cX11_off 30 = .ok (.aload_n 0, 1) := by decide +kernel
theorem dX11_off_31 : decode cX11_off 31 = .ok (.getfield 16, 3) := by decide +kernel
theorem dX11_off_34 : decode cX11_off 34 = .ok (.aload_n 0, 1) := by decide +kernel
theorem dX11_off_35 : decode cX11_off 35 = .ok (.getfield 10, 3) := by decide +kernel
theorem dX11_off_38 : decode cX11_off 38 = .ok (.invokevirtual 228, 3) := by decide +kernel
theorem dX11_off_41 : decode cX11_off 41 = .ok (.aload_n 0, 1) := by decide +kernel
theorem dX11_off_42 : decode cX11_off 42 = .ok (.getfield 16, 3) := by decide +kernel
theorem dX11_off_45 : decode cX11_off 45 = .ok (.getfield 139, 3) := by decide +kernel
theorem dX11_off_48 : decode cX11_off 48 = .ok (.invokevirtual 235, 3) := by decide +kernel
theorem dX11_off_51 : decode cX11_off 51 = .ok (.aload_n 0, 1) := by decide +kernel
theorem dX11_off_52 : decode cX11_off 52 = .ok (.iconst 0, 1) := by decide +kernel
theorem dX11_off_53 : decode cX11_off 53 = .ok (.iconst 1, 1) := by decide +kernel
theorem dX11_off_54 : decode cX11_off 54 = .ok (.invokevirtual 231, 3) := by decide +kernel
theorem dX11_off_57 : decode cX11_off 57 = .ok (.ireturn, 1) := by decide +kernel
theorem cw_X11_off_175 : CwV mi_X11_off mi_X10_isShut yX10_isShut RX10 175 1 := ⟨⟨w_846, w_847, w_848, w_105, w_849⟩, ⟨by decide, by decide⟩, by decide +kernel, by decide, by decide⟩
theorem cw_X11_off_228 : CwV mi_X11_off mi_X8_copyFrom yX8_copyFrom RX8 228 1 := ⟨⟨w_1052, w_1053, w_1054, w_96, w_1055⟩, ⟨by decide, by decide⟩, by decide +kernel, by decide, by decide⟩
theorem cw_X11_off_235 : CwV mi_X11_off mi_X3_stopAll yX3_stopAll RX3 235 0 := ⟨⟨w_1092, w_1093, w_1094, w_98, w_1095⟩, ⟨by decide, by decide⟩, by decide +kernel, by decide, by decide⟩
theorem cw_X11_off_231 : CwV mi_X11_off mi_X11_firstTickWith yX11_firstTickWith RX11 231 2 := ⟨⟨w_1084, w_1086, w_38, w_95, w_1087⟩, ⟨by decide, by decide⟩, by decide +kernel, by decide, by decide⟩
theorem ct_X11_off {l : Launch} {Γ : Am} (r0 : Nat) (z : Hp) : Ct l Γ yX11_off mi_X11_off cvI [.ref (mB Γ + r0)] z (m_X11_off r0 z) := by
  refine Ct.ofJ (by decide) ⟨rfl, rfl⟩ (Nat.le_of_ble_eq_true rfl) ?_
  unfold m_X11_off
  show J l Γ mi_X11_off cvI 0 0 0 [(0, .ref (mB Γ + r0))] [] z _
  refine j_aload_n (pc := 0) 0 dX11_off_0 rfl rfl ?_
  refine j_getR (pc := 1) ok_X11 (by decide) rfl w_529 dX11_off_1 (fun a1 => ?_)
  refine j_getI (pc := 4) ok_X8 (by decide) rfl w_323 dX11_off_4 (fun x2 => ?_)
  refine j_if_ne (pc := 7) 13 dX11_off_7 (by decide) ?_ ?_
  · refine j_aload_n (pc := 13) 0 dX11_off_13 rfl rfl ?_
    refine j_getR (pc := 14) ok_X11 (by decide) rfl w_535 dX11_off_14 (fun a3 => ?_)
    refine j_aload_n (pc := 17) 0 dX11_off_17 rfl rfl ?_
    refine j_getR (pc := 18) ok_X11 (by decide) rfl w_529 dX11_off_18 (fun a4 => ?_)
    refine j_isC (fun h7 => ?_)
    refine j_callV_I (pc := 21) (as := [.ref (mB Γ + a4)]) (mc2 := 0) (ms2 := 0) (ct_X10_isShut _ _ _) h7 rfl cw_X11_off_175 dX11_off_21 (Nat.le_of_ble_eq_true rfl) rfl (by decide) (by decide) (fun x6 z5 => ?_)
    refine j_if_ne (pc := 24) 30 dX11_off_24 (by decide) ?_ ?_
    · refine j_aload_n (pc := 30) 0 dX11_off_30 rfl rfl ?_
      refine j_getR (pc := 31) ok_X11 (by decide) rfl w_530 dX11_off_31 (fun a8 => ?_)
      refine j_aload_n (pc := 34) 0 dX11_off_34 rfl rfl ?_
      refine j_getR (pc := 35) ok_X11 (by decide) rfl w_529 dX11_off_35 (fun a9 => ?_)
      refine j_isC (fun h11 => ?_)
      refine j_callV_V (pc := 38) (as := [.ref (mB Γ + a9)]) (mc2 := 0) (ms2 := 0) (ct_X8_copyFrom _ _ _) h11 rfl cw_X11_off_228 dX11_off_38 (Nat.le_of_ble_eq_true rfl) rfl (by decide) (by decide) (fun _ z10 => ?_)
      refine j_aload_n (pc := 41) 0 dX11_off_41 rfl rfl ?_
      refine j_getR (pc := 42) ok_X11 (by decide) rfl w_530 dX11_off_42 (fun a12 => ?_)
      refine j_getR (pc := 45) ok_X8 (by decide) rfl w_295 dX11_off_45 (fun a13 => ?_)
      refine j_isC (fun h15 => ?_)
      refine j_callV_V (pc := 48) (as := []) (mc2 := 0) (ms2 := 0) (ct_X3_stopAll _ _) h15 rfl cw_X11_off_235 dX11_off_48 (Nat.le_of_ble_eq_true rfl) rfl (by decide) (by decide) (fun _ z14 => ?_)
      refine j_aload_n (pc := 51) 0 dX11_off_51 rfl rfl ?_
      refine j_iconst (pc := 52) (v := 0) dX11_off_52 (by decide) ?_
      refine j_iconst (pc := 53) (v := 1) dX11_off_53 (by decide) ?_
      refine j_isC (fun h18 => ?_)
      refine j_callV_I (pc := 54) (as := [.int 0, .int 1]) (mc2 := 0) (ms2 := 0) (ct_X11_firstTickWith _ _ _ _) h18 rfl cw_X11_off_231 dX11_off_54 (Nat.le_of_ble_eq_true rfl) rfl (by decide) (by decide) (fun x17 z16 => ?_)
      exact j_ireturn (pc := 57) dX11_off_57 rfl rfl
    refine j_bipush (pc := 27) (v := (-5)) dX11_off_27 (by decide) ?_
    exact j_ireturn (pc := 29) dX11_off_29 rfl rfl
  refine j_bipush (pc := 10) (v := (-6)) dX11_off_10 (by decide) ?_
  exact j_ireturn (pc := 12) dX11_off_12 rfl rfl
theorem dX11_standForMore_0 : decode cX11_standForMore 0 = .ok (.aload_n 0, 1) := by decide +kernel
theorem dX11_standForMore_1 : decode cX11_standForMore 1 = .ok (.getfield 56, 3) := by decide +kernel
theorem dX11_standForMore_4 : decode cX11_standForMore 4 = .ok (.iload_n 1, 1) := by decide +kernel
theorem dX11_standForMore_5 : decode cX11_standForMore 5 = .ok (.invokevirtual 238, 3) := by decide +kernel
theorem dX11_standForMore_8 : decode cX11_standForMore 8 = .ok (.istore_n 2, 1) := by decide +kernel
theorem dX11_standForMore_9 : decode cX11_standForMore 9 = .ok (.iconst 0, 1) := by decide +kernel
theorem dX11_standForMore_10 : decode cX11_standForMore 10 = .ok (.istore_n 3, 1) := by decide +kernel
theorem dX11_standForMore_11 : decode cX11_standForMore 11 = .ok (.iload_n 3, 1) := by decide +kernel
theorem dX11_standForMore_12 : decode cX11_standForMore 12 = .ok (.iload_n 2, 1) := by decide +kernel
theorem dX11_standForMore_13 : decode cX11_standForMore 13 = .ok (.if_icmp .ge 111, 3) := by decide +kernel
theorem dX11_standForMore_16 : decode cX11_standForMore 16 = .ok (.aload_n 0, 1) := by decide +kernel
theorem dX11_standForMore_17 : decode cX11_standForMore 17 = .ok (.getfield 56, 3) := by decide +kernel
theorem dX11_standForMore_20 : decode cX11_standForMore 20 = .ok (.getfield 300, 3) := by decide +kernel
theorem dX11_standForMore_23 : decode cX11_standForMore 23 = .ok (.iload_n 1, 1) := by decide +kernel
theorem dX11_standForMore_24 : decode cX11_standForMore 24 = .ok (.aaload, 1) := by decide +kernel
theorem dX11_standForMore_25 : decode cX11_standForMore 25 = .ok (.iload_n 3, 1) := by decide +kernel
theorem dX11_standForMore_26 : decode cX11_standForMore 26 = .ok (.laload, 1) := by decide +kernel
theorem dX11_standForMore_27 : decode cX11_standForMore 27 = .ok (.lstore 4, 2) := by decide +kernel
theorem dX11_standForMore_29 : decode cX11_standForMore 29 = .ok (.lload 4, 2) := by decide +kernel
theorem dX11_standForMore_31 : decode cX11_standForMore 31 = .ok (.lconst 0, 1) := by decide +kernel
theorem dX11_standForMore_32 : decode cX11_standForMore 32 = .ok (.lcmp, 1) := by decide +kernel
theorem dX11_standForMore_33 : decode cX11_standForMore 33 = .ok (.ifCond .lt 12, 3) := by decide +kernel
theorem dX11_standForMore_36 : decode cX11_standForMore 36 = .ok (.lload 4, 2) := by decide +kernel
theorem dX11_standForMore_38 : decode cX11_standForMore 38 = .ok (.ldc2_w 325, 3) := by decide +kernel
theorem dX11_standForMore_41 : decode cX11_standForMore 41 = .ok (.lcmp, 1) := by decide +kernel
theorem dX11_standForMore_42 : decode cX11_standForMore 42 = .ok (.ifCond .lt 5, 3) := by decide +kernel
theorem dX11_standForMore_45 : decode cX11_standForMore 45 = .ok (.iconst 0, 1) := by decide +kernel
theorem dX11_standForMore_46 : decode cX11_standForMore 46 = .ok (.ireturn, 1) := by decide +kernel
theorem dX11_standForMore_47 : decode cX11_standForMore 47 = .ok (.lload 4, 2) := by decide +kernel
theorem dX11_standForMore_49 : decode cX11_standForMore 49 = .ok (.l2i, 1) := by decide +kernel
theorem dX11_standForMore_50 : decode cX11_standForMore 50 = .ok (.istore 6, 2) := by decide +kernel
theorem dX11_standForMore_52 : decode cX11_standForMore 52 = .ok (.aload_n 0, 1) := by decide +kernel
theorem dX11_standForMore_53 : decode cX11_standForMore 53 = .ok (.getfield 10, 3) := by decide +kernel
theorem dX11_standForMore_56 : decode cX11_standForMore 56 = .ok (.getfield 193, 3) := by decide +kernel
theorem dX11_standForMore_59 : decode cX11_standForMore 59 = .ok (.iload 6, 2) := by decide +kernel
theorem dX11_standForMore_61 : decode cX11_standForMore 61 = .ok (.iaload, 1) := by decide +kernel
theorem dX11_standForMore_62 : decode cX11_standForMore 62 = .ok (.ifCond .ne 19, 3) := by decide +kernel
theorem dX11_standForMore_65 : decode cX11_standForMore 65 = .ok (.aload_n 0, 1) := by decide +kernel
theorem dX11_standForMore_66 : decode cX11_standForMore 66 = .ok (.getfield 10, 3) := by decide +kernel
theorem dX11_standForMore_69 : decode cX11_standForMore 69 = .ok (.getfield 139, 3) := by decide +kernel
theorem dX11_standForMore_72 : decode cX11_standForMore 72 = .ok (.iload 6, 2) := by decide +kernel
theorem dX11_standForMore_74 : decode cX11_standForMore 74 = .ok (.invokevirtual 143, 3) := by decide +kernel
theorem dX11_standForMore_77 : decode cX11_standForMore 77 = .ok (.iconst (-1), 1) := by decide +kernel
theorem dX11_standForMore_78 : decode cX11_standForMore 78 = .ok (.if_icmp .eq 5, 3) := by decide +kernel
theorem dX11_standForMore_81 : decode cX11_standForMore 81 = .ok (.iconst 0, 1) := by decide +kernel
theorem dX11_standForMore_82 : decode cX11_standForMore 82 = .ok (.ireturn, 1) := by decide +kernel
theorem dX11_standForMore_83 : decode cX11_standForMore 83 = .ok (.iconst 0, 1) := by decide +kernel
theorem dX11_standForMore_84 : decode cX11_standForMore 84 = .ok (.istore 7, 2) := by decide +kernel
theorem dX11_standForMore_86 : decode cX11_standForMore 86 = .ok (.iload 7, 2) := by decide +kernel
theorem dX11_standForMore_88 : decode cX11_standForMore 88 = .ok (.iload_n 3, 1) := by decide +kernel
theorem dX11_standForMore_89 : decode cX11_standForMore 89 = .ok (.if_icmp .ge 29, 3) := by decide +kernel
theorem dX11_standForMore_92 : decode cX11_standForMore 92 = .ok (.aload_n 0, 1) := by decide +kernel
theorem dX11_standForMore_93 : decode cX11_standForMore 93 = .ok (.getfield 56, 3) := by decide +kernel
theorem dX11_standForMore_96 : decode cX11_standForMore 96 = .ok (.getfield 300, 3) := by decide +kernel
theorem dX11_standForMore_99 : decode cX11_standForMore 99 = .ok (.iload_n 1, 1) := by decide +kernel
theorem dX11_standForMore_100 : decode cX11_standForMore 100 = .ok (.aaload, 1) := by decide +kernel
theorem dX11_standForMore_101 : decode cX11_standForMore 101 = .ok (.iload 7, 2) := by decide +kernel
theorem dX11_standForMore_103 : decode cX11_standForMore 103 = .ok (.laload, 1) := by decide +kernel
theorem dX11_standForMore_104 : decode cX11_standForMore 104 = .ok (.lload 4, 2) := by decide +kernel
theorem dX11_standForMore_106 : decode cX11_standForMore 106 = .ok (.lcmp, 1) := by decide +kernel
theorem dX11_standForMore_107 : decode cX11_standForMore 107 = .ok (.ifCond .ne 5, 3) := by decide +kernel
theorem dX11_standForMore_110 : decode cX11_standForMore 110 = .ok (.iconst 0, 1) := by decide +kernel
theorem dX11_standForMore_111 : decode cX11_standForMore 111 = .ok (.ireturn, 1) := by decide +kernel
theorem dX11_standForMore_112 : decode cX11_standForMore 112 = .ok (.iinc 7 1, 3) := by decide +kernel
theorem dX11_standForMore_115 : decode cX11_standForMore 115 = .ok (.goto (-29), 3) := by decide +kernel
theorem dX11_standForMore_118 : decode cX11_standForMore 118 = .ok (.iinc 3 1, 3) := by decide +kernel
theorem dX11_standForMore_121 : decode cX11_standForMore 121 = .ok (.goto (-110), 3) := by decide +kernel
theorem dX11_standForMore_124 : decode cX11_standForMore 124 = .ok (.iconst 1, 1) := by decide +kernel
theorem dX11_standForMore_125 : decode cX11_standForMore 125 = .ok (.ireturn, 1) := by decide +kernel
theorem cw_X11_standForMore_143 : CwV mi_X11_standForMore mi_X3_standingIn yX3_standingIn RX3 143 1 := ⟨⟨w_894, w_723, w_724, w_98, w_725⟩, ⟨by decide, by decide⟩, by decide +kernel, by decide, by decide⟩
theorem cw_X11_standForMore_238 : CwV mi_X11_standForMore mi_X6_lengthOf yX6_lengthOf RX6 238 1 := ⟨⟨w_1101, w_1102, w_1103, w_106, w_1104⟩, ⟨by decide, by decide⟩, by decide +kernel, by decide, by decide⟩
theorem j_X11_standForMore_B118 {l : Launch} {Γ : Am} {k11 : Nat → Int32 → Int32 → Int32 → Hp → Option (Int32 × Hp)} (hL11 : ∀ (r0 : Nat) (v1 : Int32) (v2 : Int32) (v3 : Int32) (z : Hp), J l Γ mi_X11_standForMore cvI 0 0 11 [(0, .ref (mB Γ + r0)), (1, .int v1), (2, .int v2), (3, .int v3)] [] z (k11 r0 v1 v2 v3 z)) : ∀ (r0 : Nat) (v1 : Int32) (v2 : Int32) (v3 : Int32) (z : Hp), J l Γ mi_X11_standForMore cvI 0 0 118 [(0, .ref (mB Γ + r0)), (1, .int v1), (2, .int v2), (3, .int v3)] [] z (m_X11_standForMore_B118 k11 r0 v1 v2 v3 z) := by
  intro r0 v1 v2 v3 z
  unfold m_X11_standForMore_B118
  refine j_iinc (pc := 118) (n0 := 3) (v0 := v3 + 1) (lv2 := [(3, .int (v3 + 1)), (0, .ref (mB Γ + r0)), (1, .int v1), (2, .int v2)]) dX11_standForMore_118 rfl rfl (by decide) rfl ?_
  refine j_goto (pc := 121) 11 dX11_standForMore_121 (by decide) ?_
  exact J.sub [1, 2, 3, 0] rfl (hL11 r0 v1 v2 (v3 + 1) z)
theorem j_X11_standForMore_L86 {l : Launch} {Γ : Am} {k118 : Nat → Int32 → Int32 → Int32 → Hp → Option (Int32 × Hp)} (hL118 : ∀ (r0 : Nat) (v1 : Int32) (v2 : Int32) (v3 : Int32) (z : Hp), J l Γ mi_X11_standForMore cvI 0 0 118 [(0, .ref (mB Γ + r0)), (1, .int v1), (2, .int v2), (3, .int v3)] [] z (k118 r0 v1 v2 v3 z)) : ∀ (f : Nat), ∀ (r0 : Nat) (v1 : Int32) (v2 : Int32) (v3 : Int32) (w4 : Int64) (v7 : Int32) (z : Hp), J l Γ mi_X11_standForMore cvI 0 0 86 [(0, .ref (mB Γ + r0)), (1, .int v1), (2, .int v2), (3, .int v3), (4, .long w4), (7, .int v7)] [] z (m_X11_standForMore_L86 k118 f r0 v1 v2 v3 w4 v7 z) := by
  intro f
  induction f with
  | zero => intro r0 v1 v2 v3 w4 v7 z; exact J.none
  | succ f hL86 =>
    intro r0 v1 v2 v3 w4 v7 z
    rw [m_X11_standForMore_L86]
    refine j_iload (pc := 86) 5 dX11_standForMore_86 rfl ?_
    refine j_iload_n (pc := 88) 3 dX11_standForMore_88 rfl rfl ?_
    refine j_icmp_ge (pc := 89) 118 dX11_standForMore_89 (by decide) ?_ ?_
    · exact J.sub [0, 1, 2, 3] rfl (hL118 r0 v1 v2 v3 z)
    refine j_aload_n (pc := 92) 0 dX11_standForMore_92 rfl rfl ?_
    refine j_getR (pc := 93) ok_X11 (by decide) rfl w_536 dX11_standForMore_93 (fun a1 => ?_)
    refine j_getR (pc := 96) ok_X6 (by decide) rfl w_503 dX11_standForMore_96 (fun a2 => ?_)
    refine j_iload_n (pc := 99) 1 dX11_standForMore_99 rfl rfl ?_
    refine j_aaloadR6 (pc := 100) dX11_standForMore_100 (fun a3 => ?_)
    refine j_iload (pc := 101) 5 dX11_standForMore_101 rfl ?_
    refine j_laload (pc := 103) dX11_standForMore_103 (fun x4 => ?_)
    refine j_lload (pc := 104) 4 dX11_standForMore_104 rfl ?_
    refine j_lcmp (pc := 106) dX11_standForMore_106 ?_
    refine j_if_ne (pc := 107) 112 dX11_standForMore_107 (by decide) ?_ ?_
    · refine j_iinc (pc := 112) (n0 := 5) (v0 := v7 + 1) (lv2 := [(7, .int (v7 + 1)), (0, .ref (mB Γ + r0)), (1, .int v1), (2, .int v2), (3, .int v3), (4, .long w4)]) dX11_standForMore_112 rfl rfl (by decide) rfl ?_
      refine j_goto (pc := 115) 86 dX11_standForMore_115 (by decide) ?_
      exact J.sub [1, 2, 3, 4, 5, 0] rfl (hL86 r0 v1 v2 v3 w4 (v7 + 1) z)
    refine j_iconst (pc := 110) (v := 0) dX11_standForMore_110 (by decide) ?_
    exact j_ireturn (pc := 111) dX11_standForMore_111 rfl rfl
theorem j_X11_standForMore_L11 {l : Launch} {Γ : Am}   : ∀ (f : Nat), ∀ (r0 : Nat) (v1 : Int32) (v2 : Int32) (v3 : Int32) (z : Hp), J l Γ mi_X11_standForMore cvI 0 0 11 [(0, .ref (mB Γ + r0)), (1, .int v1), (2, .int v2), (3, .int v3)] [] z (m_X11_standForMore_L11  f r0 v1 v2 v3 z) := by
  intro f
  induction f with
  | zero => intro r0 v1 v2 v3 z; exact J.none
  | succ f hL11 =>
    intro r0 v1 v2 v3 z
    rw [m_X11_standForMore_L11]
    refine j_iload_n (pc := 11) 3 dX11_standForMore_11 rfl rfl ?_
    refine j_iload_n (pc := 12) 2 dX11_standForMore_12 rfl rfl ?_
    refine j_icmp_ge (pc := 13) 124 dX11_standForMore_13 (by decide) ?_ ?_
    · refine j_iconst (pc := 124) (v := 1) dX11_standForMore_124 (by decide) ?_
      exact j_ireturn (pc := 125) dX11_standForMore_125 rfl rfl
    refine j_aload_n (pc := 16) 0 dX11_standForMore_16 rfl rfl ?_
    refine j_getR (pc := 17) ok_X11 (by decide) rfl w_536 dX11_standForMore_17 (fun a5 => ?_)
    refine j_getR (pc := 20) ok_X6 (by decide) rfl w_503 dX11_standForMore_20 (fun a6 => ?_)
    refine j_iload_n (pc := 23) 1 dX11_standForMore_23 rfl rfl ?_
    refine j_aaloadR6 (pc := 24) dX11_standForMore_24 (fun a7 => ?_)
    refine j_iload_n (pc := 25) 3 dX11_standForMore_25 rfl rfl ?_
    refine j_laload (pc := 26) dX11_standForMore_26 (fun x8 => ?_)
    refine j_lstore (pc := 27) (lv2 := [(4, .long x8), (0, .ref (mB Γ + r0)), (1, .int v1), (2, .int v2), (3, .int v3)]) dX11_standForMore_27 (by decide) rfl ?_
    refine j_lload (pc := 29) 0 dX11_standForMore_29 rfl ?_
    refine j_lconst (pc := 31) (v := 0) dX11_standForMore_31 (by decide) ?_
    refine j_lcmp (pc := 32) dX11_standForMore_32 ?_
    refine j_if_lt (pc := 33) 45 dX11_standForMore_33 (by decide) ?_ ?_
    · refine j_iconst (pc := 45) (v := 0) dX11_standForMore_45 (by decide) ?_
      exact j_ireturn (pc := 46) dX11_standForMore_46 rfl rfl
    refine j_lload (pc := 36) 0 dX11_standForMore_36 rfl ?_
    refine j_ldc2 (pc := 38) (v := 144) dX11_standForMore_38 w_1113 ?_
    refine j_lcmp (pc := 41) dX11_standForMore_41 ?_
    refine j_if_lt (pc := 42) 47 dX11_standForMore_42 (by decide) ?_ ?_
    · refine j_lload (pc := 47) 0 dX11_standForMore_47 rfl ?_
      refine j_l2i (pc := 49) dX11_standForMore_49 ?_
      refine j_istore (pc := 50) (lv2 := [(6, .int (Int64.toInt32 x8)), (4, .long x8), (0, .ref (mB Γ + r0)), (1, .int v1), (2, .int v2), (3, .int v3)]) dX11_standForMore_50 (by decide) rfl ?_
      refine j_aload_n (pc := 52) 2 dX11_standForMore_52 rfl rfl ?_
      refine j_getR (pc := 53) ok_X11 (by decide) rfl w_529 dX11_standForMore_53 (fun a9 => ?_)
      refine j_getR (pc := 56) ok_X8 (by decide) rfl w_313 dX11_standForMore_56 (fun a10 => ?_)
      refine j_iload (pc := 59) 0 dX11_standForMore_59 rfl ?_
      refine j_iaload (pc := 61) dX11_standForMore_61 (fun x11 => ?_)
      refine j_if_ne (pc := 62) 81 dX11_standForMore_62 (by decide) ?_ ?_
      · refine j_iconst (pc := 81) (v := 0) dX11_standForMore_81 (by decide) ?_
        exact j_ireturn (pc := 82) dX11_standForMore_82 rfl rfl
      refine j_aload_n (pc := 65) 2 dX11_standForMore_65 rfl rfl ?_
      refine j_getR (pc := 66) ok_X11 (by decide) rfl w_529 dX11_standForMore_66 (fun a12 => ?_)
      refine j_getR (pc := 69) ok_X8 (by decide) rfl w_295 dX11_standForMore_69 (fun a13 => ?_)
      refine j_iload (pc := 72) 0 dX11_standForMore_72 rfl ?_
      refine j_isC (fun h16 => ?_)
      refine j_callV_I (pc := 74) (as := [.int (Int64.toInt32 x8)]) (mc2 := 0) (ms2 := 0) (ct_X3_standingIn _ _ _) h16 rfl cw_X11_standForMore_143 dX11_standForMore_74 (Nat.le_of_ble_eq_true rfl) rfl (by decide) (by decide) (fun x15 z14 => ?_)
      refine j_iconst (pc := 77) (v := (-1)) dX11_standForMore_77 (by decide) ?_
      refine j_icmp_eq (pc := 78) 83 dX11_standForMore_78 (by decide) ?_ ?_
      · refine j_iconst (pc := 83) (v := 0) dX11_standForMore_83 (by decide) ?_
        refine j_istore (pc := 84) (lv2 := [(7, .int 0), (6, .int (Int64.toInt32 x8)), (4, .long x8), (0, .ref (mB Γ + r0)), (1, .int v1), (2, .int v2), (3, .int v3)]) dX11_standForMore_84 (by decide) rfl ?_
        exact J.sub [3, 4, 5, 6, 2, 0] rfl ((j_X11_standForMore_L86 (j_X11_standForMore_B118 hL11) FU) r0 v1 v2 v3 x8 0 z14)
      refine j_iconst (pc := 81) (v := 0) dX11_standForMore_81 (by decide) ?_
      exact j_ireturn (pc := 82) dX11_standForMore_82 rfl rfl
    refine j_iconst (pc := 45) (v := 0) dX11_standForMore_45 (by decide) ?_
    exact j_ireturn (pc := 46) dX11_standForMore_46 rfl rfl
theorem ct_X11_standForMore {l : Launch} {Γ : Am} (r0 : Nat) (v1 : Int32) (z : Hp) : Ct l Γ yX11_standForMore mi_X11_standForMore cvI [.ref (mB Γ + r0), .int v1] z (m_X11_standForMore r0 v1 z) := by
  refine Ct.ofJ (by decide) ⟨rfl, rfl⟩ (Nat.le_of_ble_eq_true rfl) ?_
  unfold m_X11_standForMore
  show J l Γ mi_X11_standForMore cvI 0 0 0 [(0, .ref (mB Γ + r0)), (1, .int v1)] [] z _
  refine j_aload_n (pc := 0) 0 dX11_standForMore_0 rfl rfl ?_
  refine j_getR (pc := 1) ok_X11 (by decide) rfl w_536 dX11_standForMore_1 (fun a17 => ?_)
  refine j_iload_n (pc := 4) 1 dX11_standForMore_4 rfl rfl ?_
  refine j_isC (fun h20 => ?_)
  refine j_callV_I (pc := 5) (as := [.int v1]) (mc2 := 0) (ms2 := 0) (ct_X6_lengthOf _ _ _) h20 rfl cw_X11_standForMore_238 dX11_standForMore_5 (Nat.le_of_ble_eq_true rfl) rfl (by decide) (by decide) (fun x19 z18 => ?_)
  refine j_istore_n (pc := 8) (lv2 := [(2, .int x19), (0, .ref (mB Γ + r0)), (1, .int v1)]) dX11_standForMore_8 rfl (by decide) rfl ?_
  refine j_iconst (pc := 9) (v := 0) dX11_standForMore_9 (by decide) ?_
  refine j_istore_n (pc := 10) (lv2 := [(3, .int 0), (2, .int x19), (0, .ref (mB Γ + r0)), (1, .int v1)]) dX11_standForMore_10 rfl (by decide) rfl ?_
  exact J.sub [2, 3, 1, 0] rfl ((j_X11_standForMore_L11 FU) r0 v1 x19 0 z18)
theorem dX11_shutsWith_0 : decode cX11_shutsWith 0 = .ok (.aload_n 0, 1) := by decide +kernel
theorem dX11_shutsWith_1 : decode cX11_shutsWith 1 = .ok (.getfield 16, 3) := by decide +kernel
theorem dX11_shutsWith_4 : decode cX11_shutsWith 4 = .ok (.aload_n 0, 1) := by decide +kernel
theorem dX11_shutsWith_5 : decode cX11_shutsWith 5 = .ok (.getfield 10, 3) := by decide +kernel
theorem dX11_shutsWith_8 : decode cX11_shutsWith 8 = .ok (.invokevirtual 228, 3) := by decide +kernel
theorem dX11_shutsWith_11 : decode cX11_shutsWith 11 = .ok (.aload_n 0, 1) := by decide +kernel
theorem dX11_shutsWith_12 : decode cX11_shutsWith 12 = .ok (.getfield 56, 3) := by decide +kernel
theorem dX11_shutsWith_15 : decode cX11_shutsWith 15 = .ok (.iload_n 1, 1) := by decide +kernel
theorem dX11_shutsWith_16 : decode cX11_shutsWith 16 = .ok (.invokevirtual 238, 3) := by decide +kernel
theorem dX11_shutsWith_19 : decode cX11_shutsWith 19 = .ok (.istore 4, 2) := by decide +kernel
theorem dX11_shutsWith_21 : decode cX11_shutsWith 21 = .ok (.iconst 0, 1) := by decide +kernel
theorem dX11_shutsWith_22 : decode cX11_shutsWith 22 = .ok (.istore 5, 2) := by decide +kernel
theorem dX11_shutsWith_24 : decode cX11_shutsWith 24 = .ok (.iload 5, 2) := by decide +kernel
theorem dX11_shutsWith_26 : decode cX11_shutsWith 26 = .ok (.iload 4, 2) := by decide +kernel
theorem dX11_shutsWith_28 : decode cX11_shutsWith 28 = .ok (.if_icmp .ge 70, 3) := by decide +kernel
theorem dX11_shutsWith_31 : decode cX11_shutsWith 31 = .ok (.iload_n 2, 1) := by decide +kernel
theorem dX11_shutsWith_32 : decode cX11_shutsWith 32 = .ok (.iload 4, 2) := by decide +kernel
theorem dX11_shutsWith_34 : decode cX11_shutsWith 34 = .ok (.iconst 1, 1) := by decide +kernel
theorem dX11_shutsWith_35 : decode cX11_shutsWith 35 = .ok (.isub, 1) := by decide +kernel
theorem dX11_shutsWith_36 : decode cX11_shutsWith 36 = .ok (.iload 5, 2) := by decide +kernel
theorem dX11_shutsWith_38 : decode cX11_shutsWith 38 = .ok (.isub, 1) := by decide +kernel
theorem dX11_shutsWith_39 : decode cX11_shutsWith 39 = .ok (.ishr, 1) := by decide +kernel
theorem dX11_shutsWith_40 : decode cX11_shutsWith 40 = .ok (.iconst 1, 1) := by decide +kernel
theorem dX11_shutsWith_41 : decode cX11_shutsWith 41 = .ok (.iand, 1) := by decide +kernel
theorem dX11_shutsWith_42 : decode cX11_shutsWith 42 = .ok (.ifCond .eq 50, 3) := by decide +kernel
theorem dX11_shutsWith_45 : decode cX11_shutsWith 45 = .ok (.aload_n 0, 1) := by decide +kernel
theorem dX11_shutsWith_46 : decode cX11_shutsWith 46 = .ok (.getfield 16, 3) := by decide +kernel
theorem dX11_shutsWith_49 : decode cX11_shutsWith 49 = .ok (.getfield 139, 3) := by decide +kernel
theorem dX11_shutsWith_52 : decode cX11_shutsWith 52 = .ok (.aload_n 0, 1) := by decide +kernel
theorem dX11_shutsWith_53 : decode cX11_shutsWith 53 = .ok (.getfield 56, 3) := by decide +kernel
theorem dX11_shutsWith_56 : decode cX11_shutsWith 56 = .ok (.getfield 300, 3) := by decide +kernel
theorem dX11_shutsWith_59 : decode cX11_shutsWith 59 = .ok (.iload_n 1, 1) := by decide +kernel
theorem dX11_shutsWith_60 : decode cX11_shutsWith 60 = .ok (.aaload, 1) := by decide +kernel
theorem dX11_shutsWith_61 : decode cX11_shutsWith 61 = .ok (.iload 5, 2) := by decide +kernel
theorem dX11_shutsWith_63 : decode cX11_shutsWith 63 = .ok (.laload, 1) := by decide +kernel
theorem dX11_shutsWith_64 : decode cX11_shutsWith 64 = .ok (.l2i, 1) := by decide +kernel
theorem dX11_shutsWith_65 : decode cX11_shutsWith 65 = .ok (.aload_n 0, 1) := by decide +kernel
theorem dX11_shutsWith_66 : decode cX11_shutsWith 66 = .ok (.getfield 16, 3) := by decide +kernel
theorem dX11_shutsWith_69 : decode cX11_shutsWith 69 = .ok (.getfield 139, 3) := by decide +kernel
theorem dX11_shutsWith_72 : decode cX11_shutsWith 72 = .ok (.getfield 338, 3) := by decide +kernel
theorem dX11_shutsWith_75 : decode cX11_shutsWith 75 = .ok (.iconst 0, 1) := by decide +kernel
theorem dX11_shutsWith_76 : decode cX11_shutsWith 76 = .ok (.iaload, 1) := by decide +kernel
theorem dX11_shutsWith_77 : decode cX11_shutsWith 77 = .ok (.aload_n 0, 1) := by decide +kernel
theorem dX11_shutsWith_78 : decode cX11_shutsWith 78 = .ok (.getfield 16, 3) := by decide +kernel
theorem dX11_shutsWith_81 : decode cX11_shutsWith 81 = .ok (.getfield 139, 3) := by decide +kernel
theorem dX11_shutsWith_84 : decode cX11_shutsWith 84 = .ok (.getfield 341, 3) := by decide +kernel
theorem dX11_shutsWith_87 : decode cX11_shutsWith 87 = .ok (.iconst 0, 1) := by decide +kernel
theorem dX11_shutsWith_88 : decode cX11_shutsWith 88 = .ok (.iaload, 1) := by decide +kernel
theorem dX11_shutsWith_89 : decode cX11_shutsWith 89 = .ok (.invokevirtual 344, 3) := by decide +kernel
theorem dX11_shutsWith_92 : decode cX11_shutsWith 92 = .ok (.iinc 5 1, 3) := by decide +kernel
theorem dX11_shutsWith_95 : decode cX11_shutsWith 95 = .ok (.goto (-71), 3) := by decide +kernel
theorem dX11_shutsWith_98 : decode cX11_shutsWith 98 = .ok (.iconst 0, 1) := by decide +kernel
theorem dX11_shutsWith_99 : decode cX11_shutsWith 99 = .ok (.istore 5, 2) := by decide +kernel
theorem dX11_shutsWith_101 : decode cX11_shutsWith 101 = .ok (.iload 5, 2) := by decide +kernel
theorem dX11_shutsWith_103 : decode cX11_shutsWith 103 = .ok (.iload_n 3, 1) := by decide +kernel
theorem dX11_shutsWith_104 : decode cX11_shutsWith 104 = .ok (.if_icmp .ge 20, 3) := by decide +kernel
theorem dX11_shutsWith_107 : decode cX11_shutsWith 107 = .ok (.aload_n 0, 1) := by decide +kernel
theorem dX11_shutsWith_108 : decode cX11_shutsWith 108 = .ok (.getfield 42, 3) := by decide +kernel
theorem dX11_shutsWith_111 : decode cX11_shutsWith 111 = .ok (.aload_n 0, 1) := by decide +kernel
theorem dX11_shutsWith_112 : decode cX11_shutsWith 112 = .ok (.getfield 16, 3) := by decide +kernel
theorem dX11_shutsWith_115 : decode cX11_shutsWith 115 = .ok (.invokevirtual 106, 3) := by decide +kernel
theorem dX11_shutsWith_118 : decode cX11_shutsWith 118 = .ok (.iinc 5 1, 3) := by decide +kernel
theorem dX11_shutsWith_121 : decode cX11_shutsWith 121 = .ok (.goto (-20), 3) := by decide +kernel
theorem dX11_shutsWith_124 : decode cX11_shutsWith 124 = .ok (.aload_n 0, 1) := by decide +kernel
theorem dX11_shutsWith_125 : decode cX11_shutsWith 125 = .ok (.getfield 49, 3) := by decide +kernel
theorem dX11_shutsWith_128 : decode cX11_shutsWith 128 = .ok (.aload_n 0, 1) := by decide +kernel
theorem dX11_shutsWith_129 : decode cX11_shutsWith 129 = .ok (.getfield 16, 3) := by decide +kernel
theorem dX11_shutsWith_132 : decode cX11_shutsWith 132 = .ok (.invokevirtual 175, 3) := by decide +kernel
theorem dX11_shutsWith_135 : decode cX11_shutsWith 135 = .ok (.ireturn, 1) := by decide +kernel
theorem cw_X11_shutsWith_175 : CwV mi_X11_shutsWith mi_X10_isShut yX10_isShut RX10 175 1 := ⟨⟨w_846, w_847, w_848, w_105, w_849⟩, ⟨by decide, by decide⟩, by decide +kernel, by decide, by decide⟩
theorem cw_X11_shutsWith_106 : CwV mi_X11_shutsWith mi_X9_pass yX9_pass RX9 106 1 := ⟨⟨w_792, w_793, w_794, w_104, w_795⟩, ⟨by decide, by decide⟩, by decide +kernel, by decide, by decide⟩
theorem cw_X11_shutsWith_344 : CwV mi_X11_shutsWith mi_X3_add yX3_add RX3 344 3 := ⟨⟨w_1128, w_728, w_729, w_98, w_730⟩, ⟨by decide, by decide⟩, by decide +kernel, by decide, by decide⟩
theorem cw_X11_shutsWith_228 : CwV mi_X11_shutsWith mi_X8_copyFrom yX8_copyFrom RX8 228 1 := ⟨⟨w_1052, w_1053, w_1054, w_96, w_1055⟩, ⟨by decide, by decide⟩, by decide +kernel, by decide, by decide⟩
theorem cw_X11_shutsWith_238 : CwV mi_X11_shutsWith mi_X6_lengthOf yX6_lengthOf RX6 238 1 := ⟨⟨w_1101, w_1102, w_1103, w_106, w_1104⟩, ⟨by decide, by decide⟩, by decide +kernel, by decide, by decide⟩
theorem j_X11_shutsWith_B124 {l : Launch} {Γ : Am}   : ∀ (r0 : Nat) (z : Hp), J l Γ mi_X11_shutsWith cvI 0 0 124 [(0, .ref (mB Γ + r0))] [] z (m_X11_shutsWith_B124  r0 z) := by
  intro r0 z
  unfold m_X11_shutsWith_B124
  refine j_aload_n (pc := 124) 0 dX11_shutsWith_124 rfl rfl ?_
  refine j_getR (pc := 125) ok_X11 (by decide) rfl w_535 dX11_shutsWith_125 (fun a1 => ?_)
  refine j_aload_n (pc := 128) 0 dX11_shutsWith_128 rfl rfl ?_
  refine j_getR (pc := 129) ok_X11 (by decide) rfl w_530 dX11_shutsWith_129 (fun a2 => ?_)
  refine j_isC (fun h5 => ?_)
  refine j_callV_I (pc := 132) (as := [.ref (mB Γ + a2)]) (mc2 := 0) (ms2 := 0) (ct_X10_isShut _ _ _) h5 rfl cw_X11_shutsWith_175 dX11_shutsWith_132 (Nat.le_of_ble_eq_true rfl) rfl (by decide) (by decide) (fun x4 z3 => ?_)
  exact j_zreturn (pc := 135) dX11_shutsWith_135 rfl
theorem j_X11_shutsWith_L101 {l : Launch} {Γ : Am} {k124 : Nat → Hp → Option (Int32 × Hp)} (hL124 : ∀ (r0 : Nat) (z : Hp), J l Γ mi_X11_shutsWith cvI 0 0 124 [(0, .ref (mB Γ + r0))] [] z (k124 r0 z)) : ∀ (f : Nat), ∀ (r0 : Nat) (v3 : Int32) (v5 : Int32) (z : Hp), J l Γ mi_X11_shutsWith cvI 0 0 101 [(0, .ref (mB Γ + r0)), (3, .int v3), (5, .int v5)] [] z (m_X11_shutsWith_L101 k124 f r0 v3 v5 z) := by
  intro f
  induction f with
  | zero => intro r0 v3 v5 z; exact J.none
  | succ f hL101 =>
    intro r0 v3 v5 z
    rw [m_X11_shutsWith_L101]
    refine j_iload (pc := 101) 2 dX11_shutsWith_101 rfl ?_
    refine j_iload_n (pc := 103) 1 dX11_shutsWith_103 rfl rfl ?_
    refine j_icmp_ge (pc := 104) 124 dX11_shutsWith_104 (by decide) ?_ ?_
    · exact J.sub [0] rfl (hL124 r0 z)
    refine j_aload_n (pc := 107) 0 dX11_shutsWith_107 rfl rfl ?_
    refine j_getR (pc := 108) ok_X11 (by decide) rfl w_534 dX11_shutsWith_108 (fun a6 => ?_)
    refine j_aload_n (pc := 111) 0 dX11_shutsWith_111 rfl rfl ?_
    refine j_getR (pc := 112) ok_X11 (by decide) rfl w_530 dX11_shutsWith_112 (fun a7 => ?_)
    refine j_isC (fun h9 => ?_)
    refine j_callV_V (pc := 115) (as := [.ref (mB Γ + a7)]) (mc2 := 0) (ms2 := 0) (ct_X9_pass _ _ _) h9 rfl cw_X11_shutsWith_106 dX11_shutsWith_115 (Nat.le_of_ble_eq_true rfl) rfl (by decide) (by decide) (fun _ z8 => ?_)
    refine j_iinc (pc := 118) (n0 := 2) (v0 := v5 + 1) (lv2 := [(5, .int (v5 + 1)), (0, .ref (mB Γ + r0)), (3, .int v3)]) dX11_shutsWith_118 rfl rfl (by decide) rfl ?_
    refine j_goto (pc := 121) 101 dX11_shutsWith_121 (by decide) ?_
    exact J.sub [1, 2, 0] rfl (hL101 r0 v3 (v5 + 1) z8)
theorem j_X11_shutsWith_B98 {l : Launch} {Γ : Am}   : ∀ (r0 : Nat) (v3 : Int32) (z : Hp), J l Γ mi_X11_shutsWith cvI 0 0 98 [(0, .ref (mB Γ + r0)), (3, .int v3)] [] z (m_X11_shutsWith_B98  r0 v3 z) := by
  intro r0 v3 z
  unfold m_X11_shutsWith_B98
  refine j_iconst (pc := 98) (v := 0) dX11_shutsWith_98 (by decide) ?_
  refine j_istore (pc := 99) (lv2 := [(5, .int 0), (0, .ref (mB Γ + r0)), (3, .int v3)]) dX11_shutsWith_99 (by decide) rfl ?_
  exact J.sub [1, 2, 0] rfl ((j_X11_shutsWith_L101 j_X11_shutsWith_B124 FU) r0 v3 0 z)
theorem j_X11_shutsWith_B92 {l : Launch} {Γ : Am} {k24 : Nat → Int32 → Int32 → Int32 → Int32 → Int32 → Hp → Option (Int32 × Hp)} (hL24 : ∀ (r0 : Nat) (v1 : Int32) (v2 : Int32) (v3 : Int32) (v4 : Int32) (v5 : Int32) (z : Hp), J l Γ mi_X11_shutsWith cvI 0 0 24 [(0, .ref (mB Γ + r0)), (1, .int v1), (2, .int v2), (3, .int v3), (4, .int v4), (5, .int v5)] [] z (k24 r0 v1 v2 v3 v4 v5 z)) : ∀ (r0 : Nat) (v1 : Int32) (v2 : Int32) (v3 : Int32) (v4 : Int32) (v5 : Int32) (z : Hp), J l Γ mi_X11_shutsWith cvI 0 0 92 [(0, .ref (mB Γ + r0)), (1, .int v1), (2, .int v2), (3, .int v3), (4, .int v4), (5, .int v5)] [] z (m_X11_shutsWith_B92 k24 r0 v1 v2 v3 v4 v5 z) := by
  intro r0 v1 v2 v3 v4 v5 z
  unfold m_X11_shutsWith_B92
  refine j_iinc (pc := 92) (n0 := 5) (v0 := v5 + 1) (lv2 := [(5, .int (v5 + 1)), (0, .ref (mB Γ + r0)), (1, .int v1), (2, .int v2), (3, .int v3), (4, .int v4)]) dX11_shutsWith_92 rfl rfl (by decide) rfl ?_
  refine j_goto (pc := 95) 24 dX11_shutsWith_95 (by decide) ?_
  exact J.sub [1, 2, 3, 4, 5, 0] rfl (hL24 r0 v1 v2 v3 v4 (v5 + 1) z)
theorem j_X11_shutsWith_L24 {l : Launch} {Γ : Am} {k98 : Nat → Int32 → Hp → Option (Int32 × Hp)} (hL98 : ∀ (r0 : Nat) (v3 : Int32) (z : Hp), J l Γ mi_X11_shutsWith cvI 0 0 98 [(0, .ref (mB Γ + r0)), (3, .int v3)] [] z (k98 r0 v3 z)) : ∀ (f : Nat), ∀ (r0 : Nat) (v1 : Int32) (v2 : Int32) (v3 : Int32) (v4 : Int32) (v5 : Int32) (z : Hp), J l Γ mi_X11_shutsWith cvI 0 0 24 [(0, .ref (mB Γ + r0)), (1, .int v1), (2, .int v2), (3, .int v3), (4, .int v4), (5, .int v5)] [] z (m_X11_shutsWith_L24 k98 f r0 v1 v2 v3 v4 v5 z) := by
  intro f
  induction f with
  | zero => intro r0 v1 v2 v3 v4 v5 z; exact J.none
  | succ f hL24 =>
    intro r0 v1 v2 v3 v4 v5 z
    rw [m_X11_shutsWith_L24]
    refine j_iload (pc := 24) 5 dX11_shutsWith_24 rfl ?_
    refine j_iload (pc := 26) 4 dX11_shutsWith_26 rfl ?_
    refine j_icmp_ge (pc := 28) 98 dX11_shutsWith_28 (by decide) ?_ ?_
    · exact J.sub [0, 3] rfl (hL98 r0 v3 z)
    refine j_iload_n (pc := 31) 2 dX11_shutsWith_31 rfl rfl ?_
    refine j_iload (pc := 32) 4 dX11_shutsWith_32 rfl ?_
    refine j_iconst (pc := 34) (v := 1) dX11_shutsWith_34 (by decide) ?_
    refine j_isub (pc := 35) dX11_shutsWith_35 ?_
    refine j_iload (pc := 36) 5 dX11_shutsWith_36 rfl ?_
    refine j_isub (pc := 38) dX11_shutsWith_38 ?_
    refine j_ishr (pc := 39) dX11_shutsWith_39 ?_
    refine j_iconst (pc := 40) (v := 1) dX11_shutsWith_40 (by decide) ?_
    refine j_iand (pc := 41) dX11_shutsWith_41 ?_
    refine j_if_eq (pc := 42) 92 dX11_shutsWith_42 (by decide) ?_ ?_
    · exact J.sub [0, 1, 2, 3, 4, 5] rfl ((j_X11_shutsWith_B92 hL24) r0 v1 v2 v3 v4 v5 z)
    refine j_aload_n (pc := 45) 0 dX11_shutsWith_45 rfl rfl ?_
    refine j_getR (pc := 46) ok_X11 (by decide) rfl w_530 dX11_shutsWith_46 (fun a10 => ?_)
    refine j_getR (pc := 49) ok_X8 (by decide) rfl w_295 dX11_shutsWith_49 (fun a11 => ?_)
    refine j_aload_n (pc := 52) 0 dX11_shutsWith_52 rfl rfl ?_
    refine j_getR (pc := 53) ok_X11 (by decide) rfl w_536 dX11_shutsWith_53 (fun a12 => ?_)
    refine j_getR (pc := 56) ok_X6 (by decide) rfl w_503 dX11_shutsWith_56 (fun a13 => ?_)
    refine j_iload_n (pc := 59) 1 dX11_shutsWith_59 rfl rfl ?_
    refine j_aaloadR6 (pc := 60) dX11_shutsWith_60 (fun a14 => ?_)
    refine j_iload (pc := 61) 5 dX11_shutsWith_61 rfl ?_
    refine j_laload (pc := 63) dX11_shutsWith_63 (fun x15 => ?_)
    refine j_l2i (pc := 64) dX11_shutsWith_64 ?_
    refine j_aload_n (pc := 65) 0 dX11_shutsWith_65 rfl rfl ?_
    refine j_getR (pc := 66) ok_X11 (by decide) rfl w_530 dX11_shutsWith_66 (fun a16 => ?_)
    refine j_getR (pc := 69) ok_X8 (by decide) rfl w_295 dX11_shutsWith_69 (fun a17 => ?_)
    refine j_getR (pc := 72) ok_X3 (by decide) rfl w_188 dX11_shutsWith_72 (fun a18 => ?_)
    refine j_iconst (pc := 75) (v := 0) dX11_shutsWith_75 (by decide) ?_
    refine j_iaload (pc := 76) dX11_shutsWith_76 (fun x19 => ?_)
    refine j_aload_n (pc := 77) 0 dX11_shutsWith_77 rfl rfl ?_
    refine j_getR (pc := 78) ok_X11 (by decide) rfl w_530 dX11_shutsWith_78 (fun a20 => ?_)
    refine j_getR (pc := 81) ok_X8 (by decide) rfl w_295 dX11_shutsWith_81 (fun a21 => ?_)
    refine j_getR (pc := 84) ok_X3 (by decide) rfl w_191 dX11_shutsWith_84 (fun a22 => ?_)
    refine j_iconst (pc := 87) (v := 0) dX11_shutsWith_87 (by decide) ?_
    refine j_iaload (pc := 88) dX11_shutsWith_88 (fun x23 => ?_)
    refine j_isC (fun h25 => ?_)
    refine j_callV_V (pc := 89) (as := [.int (Int64.toInt32 x15), .int x19, .int x23]) (mc2 := 0) (ms2 := 0) (ct_X3_add _ _ _ _ _) h25 rfl cw_X11_shutsWith_344 dX11_shutsWith_89 (Nat.le_of_ble_eq_true rfl) rfl (by decide) (by decide) (fun _ z24 => ?_)
    exact J.sub [0, 1, 2, 3, 4, 5] rfl ((j_X11_shutsWith_B92 hL24) r0 v1 v2 v3 v4 v5 z24)
theorem ct_X11_shutsWith {l : Launch} {Γ : Am} (r0 : Nat) (v1 : Int32) (v2 : Int32) (v3 : Int32) (z : Hp) : Ct l Γ yX11_shutsWith mi_X11_shutsWith cvI [.ref (mB Γ + r0), .int v1, .int v2, .int v3] z (m_X11_shutsWith r0 v1 v2 v3 z) := by
  refine Ct.ofJ (by decide) ⟨rfl, rfl⟩ (Nat.le_of_ble_eq_true rfl) ?_
  unfold m_X11_shutsWith
  show J l Γ mi_X11_shutsWith cvI 0 0 0 [(0, .ref (mB Γ + r0)), (1, .int v1), (2, .int v2), (3, .int v3)] [] z _
  refine j_aload_n (pc := 0) 0 dX11_shutsWith_0 rfl rfl ?_
  refine j_getR (pc := 1) ok_X11 (by decide) rfl w_530 dX11_shutsWith_1 (fun a26 => ?_)
  refine j_aload_n (pc := 4) 0 dX11_shutsWith_4 rfl rfl ?_
  refine j_getR (pc := 5) ok_X11 (by decide) rfl w_529 dX11_shutsWith_5 (fun a27 => ?_)
  refine j_isC (fun h29 => ?_)
  refine j_callV_V (pc := 8) (as := [.ref (mB Γ + a27)]) (mc2 := 0) (ms2 := 0) (ct_X8_copyFrom _ _ _) h29 rfl cw_X11_shutsWith_228 dX11_shutsWith_8 (Nat.le_of_ble_eq_true rfl) rfl (by decide) (by decide) (fun _ z28 => ?_)
  refine j_aload_n (pc := 11) 0 dX11_shutsWith_11 rfl rfl ?_
  refine j_getR (pc := 12) ok_X11 (by decide) rfl w_536 dX11_shutsWith_12 (fun a30 => ?_)
  refine j_iload_n (pc := 15) 1 dX11_shutsWith_15 rfl rfl ?_
  refine j_isC (fun h33 => ?_)
  refine j_callV_I (pc := 16) (as := [.int v1]) (mc2 := 0) (ms2 := 0) (ct_X6_lengthOf _ _ _) h33 rfl cw_X11_shutsWith_238 dX11_shutsWith_16 (Nat.le_of_ble_eq_true rfl) rfl (by decide) (by decide) (fun x32 z31 => ?_)
  refine j_istore (pc := 19) (lv2 := [(4, .int x32), (0, .ref (mB Γ + r0)), (1, .int v1), (2, .int v2), (3, .int v3)]) dX11_shutsWith_19 (by decide) rfl ?_
  refine j_iconst (pc := 21) (v := 0) dX11_shutsWith_21 (by decide) ?_
  refine j_istore (pc := 22) (lv2 := [(5, .int 0), (4, .int x32), (0, .ref (mB Γ + r0)), (1, .int v1), (2, .int v2), (3, .int v3)]) dX11_shutsWith_22 (by decide) rfl ?_
  exact J.sub [2, 3, 4, 5, 1, 0] rfl ((j_X11_shutsWith_L24 j_X11_shutsWith_B98 FU) r0 v1 v2 v3 x32 0 z31)
theorem dX11_turned_0 : decode cX11_turned 0 = .ok (.iconst 0, 1) := by decide +kernel
theorem dX11_turned_1 : decode cX11_turned 1 = .ok (.istore_n 2, 1) := by decide +kernel
theorem dX11_turned_2 : decode cX11_turned 2 = .ok (.iconst 0, 1) := by decide +kernel
theorem dX11_turned_3 : decode cX11_turned 3 = .ok (.istore_n 3, 1) := by decide +kernel
theorem dX11_turned_4 : decode cX11_turned 4 = .ok (.iload_n 3, 1) := by decide +kernel
theorem dX11_turned_5 : decode cX11_turned 5 = .ok (.iload_n 1, 1) := by decide +kernel
theorem dX11_turned_6 : decode cX11_turned 6 = .ok (.if_icmp .ge 23, 3) := by decide +kernel
theorem dX11_turned_9 : decode cX11_turned 9 = .ok (.iload_n 2, 1) := by decide +kernel
theorem dX11_turned_10 : decode cX11_turned 10 = .ok (.iload_n 0, 1) := by decide +kernel
theorem dX11_turned_11 : decode cX11_turned 11 = .ok (.iload_n 1, 1) := by decide +kernel
theorem dX11_turned_12 : decode cX11_turned 12 = .ok (.iconst 1, 1) := by decide +kernel
theorem dX11_turned_13 : decode cX11_turned 13 = .ok (.isub, 1) := by decide +kernel
theorem dX11_turned_14 : decode cX11_turned 14 = .ok (.iload_n 3, 1) := by decide +kernel
theorem dX11_turned_15 : decode cX11_turned 15 = .ok (.isub, 1) := by decide +kernel
theorem dX11_turned_16 : decode cX11_turned 16 = .ok (.ishr, 1) := by decide +kernel
theorem dX11_turned_17 : decode cX11_turned 17 = .ok (.iconst 1, 1) := by decide +kernel
theorem dX11_turned_18 : decode cX11_turned 18 = .ok (.iand, 1) := by decide +kernel
theorem dX11_turned_19 : decode cX11_turned 19 = .ok (.iload_n 3, 1) := by decide +kernel
theorem dX11_turned_20 : decode cX11_turned 20 = .ok (.ishl, 1) := by decide +kernel
theorem dX11_turned_21 : decode cX11_turned 21 = .ok (.ior, 1) := by decide +kernel
theorem dX11_turned_22 : decode cX11_turned 22 = .ok (.istore_n 2, 1) := by decide +kernel
theorem dX11_turned_23 : decode cX11_turned 23 = .ok (.iinc 3 1, 3) := by decide +kernel
theorem dX11_turned_26 : decode cX11_turned 26 = .ok (.goto (-22), 3) := by decide +kernel
theorem dX11_turned_29 : decode cX11_turned 29 = .ok (.iload_n 2, 1) := by decide +kernel
theorem dX11_turned_30 : decode cX11_turned 30 = .ok (.ireturn, 1) := by decide +kernel
theorem j_X11_turned_L4 {l : Launch} {Γ : Am}   : ∀ (f : Nat), ∀ (v0 : Int32) (v1 : Int32) (v2 : Int32) (v3 : Int32) (z : Hp), J l Γ mi_X11_turned cvI 0 0 4 [(0, .int v0), (1, .int v1), (2, .int v2), (3, .int v3)] [] z (m_X11_turned_L4  f v0 v1 v2 v3 z) := by
  intro f
  induction f with
  | zero => intro v0 v1 v2 v3 z; exact J.none
  | succ f hL4 =>
    intro v0 v1 v2 v3 z
    rw [m_X11_turned_L4]
    refine j_iload_n (pc := 4) 3 dX11_turned_4 rfl rfl ?_
    refine j_iload_n (pc := 5) 1 dX11_turned_5 rfl rfl ?_
    refine j_icmp_ge (pc := 6) 29 dX11_turned_6 (by decide) ?_ ?_
    · refine j_iload_n (pc := 29) 2 dX11_turned_29 rfl rfl ?_
      exact j_ireturn (pc := 30) dX11_turned_30 rfl rfl
    refine j_iload_n (pc := 9) 2 dX11_turned_9 rfl rfl ?_
    refine j_iload_n (pc := 10) 0 dX11_turned_10 rfl rfl ?_
    refine j_iload_n (pc := 11) 1 dX11_turned_11 rfl rfl ?_
    refine j_iconst (pc := 12) (v := 1) dX11_turned_12 (by decide) ?_
    refine j_isub (pc := 13) dX11_turned_13 ?_
    refine j_iload_n (pc := 14) 3 dX11_turned_14 rfl rfl ?_
    refine j_isub (pc := 15) dX11_turned_15 ?_
    refine j_ishr (pc := 16) dX11_turned_16 ?_
    refine j_iconst (pc := 17) (v := 1) dX11_turned_17 (by decide) ?_
    refine j_iand (pc := 18) dX11_turned_18 ?_
    refine j_iload_n (pc := 19) 3 dX11_turned_19 rfl rfl ?_
    refine j_ishl (pc := 20) dX11_turned_20 ?_
    refine j_ior (pc := 21) dX11_turned_21 ?_
    refine j_istore_n (pc := 22) (lv2 := [(2, .int (v2 ||| (((v0 >>> (((v1 - 1) - v3) &&& 31)) &&& 1) <<< (v3 &&& 31)))), (0, .int v0), (1, .int v1), (3, .int v3)]) dX11_turned_22 rfl (by decide) rfl ?_
    refine j_iinc (pc := 23) (n0 := 3) (v0 := v3 + 1) (lv2 := [(3, .int (v3 + 1)), (2, .int (v2 ||| (((v0 >>> (((v1 - 1) - v3) &&& 31)) &&& 1) <<< (v3 &&& 31)))), (0, .int v0), (1, .int v1)]) dX11_turned_23 rfl rfl (by decide) rfl ?_
    refine j_goto (pc := 26) 4 dX11_turned_26 (by decide) ?_
    exact J.sub [2, 3, 1, 0] rfl (hL4 v0 v1 (v2 ||| (((v0 >>> (((v1 - 1) - v3) &&& 31)) &&& 1) <<< (v3 &&& 31))) (v3 + 1) z)
theorem ct_X11_turned {l : Launch} {Γ : Am} (v0 : Int32) (v1 : Int32) (z : Hp) : Ct l Γ yX11_turned mi_X11_turned cvI [.int v0, .int v1] z (m_X11_turned v0 v1 z) := by
  refine Ct.ofJ (by decide) ⟨rfl, rfl⟩ (Nat.le_of_ble_eq_true rfl) ?_
  unfold m_X11_turned
  show J l Γ mi_X11_turned cvI 0 0 0 [(0, .int v0), (1, .int v1)] [] z _
  refine j_iconst (pc := 0) (v := 0) dX11_turned_0 (by decide) ?_
  refine j_istore_n (pc := 1) (lv2 := [(2, .int 0), (0, .int v0), (1, .int v1)]) dX11_turned_1 rfl (by decide) rfl ?_
  refine j_iconst (pc := 2) (v := 0) dX11_turned_2 (by decide) ?_
  refine j_istore_n (pc := 3) (lv2 := [(3, .int 0), (2, .int 0), (0, .int v0), (1, .int v1)]) dX11_turned_3 rfl (by decide) rfl ?_
  exact J.sub [2, 3, 1, 0] rfl ((j_X11_turned_L4 FU) v0 v1 0 0 z)
theorem dX11_fewestMore_0 : decode cX11_fewestMore 0 = .ok (.aload_n 0, 1) := by decide +kernel
theorem dX11_fewestMore_1 : decode cX11_fewestMore 1 = .ok (.getfield 56, 3) := by decide +kernel
theorem dX11_fewestMore_4 : decode cX11_fewestMore 4 = .ok (.iload_n 1, 1) := by decide +kernel
theorem dX11_fewestMore_5 : decode cX11_fewestMore 5 = .ok (.invokevirtual 238, 3) := by decide +kernel
theorem dX11_fewestMore_8 : decode cX11_fewestMore 8 = .ok (.istore_n 3, 1) := by decide +kernel
theorem dX11_fewestMore_9 : decode cX11_fewestMore 9 = .ok (.iconst 0, 1) := by decide +kernel
theorem dX11_fewestMore_10 : decode cX11_fewestMore 10 = .ok (.istore 4, 2) := by decide +kernel
theorem dX11_fewestMore_12 : decode cX11_fewestMore 12 = .ok (.iload 4, 2) := by decide +kernel
theorem dX11_fewestMore_14 : decode cX11_fewestMore 14 = .ok (.iload_n 3, 1) := by decide +kernel
theorem dX11_fewestMore_15 : decode cX11_fewestMore 15 = .ok (.if_icmp .gt 61, 3) := by decide +kernel
theorem dX11_fewestMore_18 : decode cX11_fewestMore 18 = .ok (.iconst 1, 1) := by decide +kernel
theorem dX11_fewestMore_19 : decode cX11_fewestMore 19 = .ok (.iload_n 3, 1) := by decide +kernel
theorem dX11_fewestMore_20 : decode cX11_fewestMore 20 = .ok (.ishl, 1) := by decide +kernel
theorem dX11_fewestMore_21 : decode cX11_fewestMore 21 = .ok (.iconst 1, 1) := by decide +kernel
theorem dX11_fewestMore_22 : decode cX11_fewestMore 22 = .ok (.isub, 1) := by decide +kernel
theorem dX11_fewestMore_23 : decode cX11_fewestMore 23 = .ok (.istore 5, 2) := by decide +kernel
theorem dX11_fewestMore_25 : decode cX11_fewestMore 25 = .ok (.iload 5, 2) := by decide +kernel
theorem dX11_fewestMore_27 : decode cX11_fewestMore 27 = .ok (.ifCond .lt 43, 3) := by decide +kernel
theorem dX11_fewestMore_30 : decode cX11_fewestMore 30 = .ok (.iload 5, 2) := by decide +kernel
theorem dX11_fewestMore_32 : decode cX11_fewestMore 32 = .ok (.invokestatic 327, 3) := by decide +kernel
theorem dX11_fewestMore_35 : decode cX11_fewestMore 35 = .ok (.iload 4, 2) := by decide +kernel
theorem dX11_fewestMore_37 : decode cX11_fewestMore 37 = .ok (.if_icmp .ne 27, 3) := by decide +kernel
theorem dX11_fewestMore_40 : decode cX11_fewestMore 40 = .ok (.aload_n 0, 1) := by decide +kernel
theorem dX11_fewestMore_41 : decode cX11_fewestMore 41 = .ok (.iload_n 1, 1) := by decide +kernel
theorem dX11_fewestMore_42 : decode cX11_fewestMore 42 = .ok (.iload 5, 2) := by decide +kernel
theorem dX11_fewestMore_44 : decode cX11_fewestMore 44 = .ok (.iload_n 2, 1) := by decide +kernel
theorem dX11_fewestMore_45 : decode cX11_fewestMore 45 = .ok (.invokevirtual 332, 3) := by decide +kernel
theorem dX11_fewestMore_48 : decode cX11_fewestMore 48 = .ok (.ifCond .eq 16, 3) := by decide +kernel
theorem dX11_fewestMore_51 : decode cX11_fewestMore 51 = .ok (.aload_n 0, 1) := by decide +kernel
theorem dX11_fewestMore_52 : decode cX11_fewestMore 52 = .ok (.iload 5, 2) := by decide +kernel
theorem dX11_fewestMore_54 : decode cX11_fewestMore 54 = .ok (.iload_n 3, 1) := by decide +kernel
theorem dX11_fewestMore_55 : decode cX11_fewestMore 55 = .ok (.invokestatic 335, 3) := by decide +kernel
theorem dX11_fewestMore_58 : decode cX11_fewestMore 58 = .ok (.putfield 68, 3) := by decide +kernel
theorem dX11_fewestMore_61 : decode cX11_fewestMore 61 = .ok (.iload 4, 2) := by decide +kernel
theorem dX11_fewestMore_63 : decode cX11_fewestMore 63 = .ok (.ireturn, 1) := by decide +kernel
theorem dX11_fewestMore_64 : decode cX11_fewestMore 64 = .ok (.iinc 5 (-1), 3) := by decide +kernel
theorem dX11_fewestMore_67 : decode cX11_fewestMore 67 = .ok (.goto (-42), 3) := by decide +kernel
theorem dX11_fewestMore_70 : decode cX11_fewestMore 70 = .ok (.iinc 4 1, 3) := by decide +kernel
theorem dX11_fewestMore_73 : decode cX11_fewestMore 73 = .ok (.goto (-61), 3) := by decide +kernel
theorem dX11_fewestMore_76 : decode cX11_fewestMore 76 = .ok (.iconst (-1), 1) := by decide +kernel
theorem dX11_fewestMore_77 : decode cX11_fewestMore 77 = .ok (.ireturn, 1) := by decide +kernel
theorem cw_X11_fewestMore_335 : CwS mi_X11_fewestMore mi_X11_turned yX11_turned 335 2 := ⟨⟨w_1129, w_1130, w_95, w_1131⟩, ⟨by decide, by decide⟩, by decide +kernel, by decide, by decide⟩
theorem cw_X11_fewestMore_327 : CwS mi_X11_fewestMore mi_J6_bitCount_0f7a4 yJ6_bitCount_0f7a4 327 1 := ⟨⟨w_1118, w_1119, w_115, w_1120⟩, ⟨by decide, by decide⟩, by decide +kernel, by decide, by decide⟩
theorem cw_X11_fewestMore_332 : CwV mi_X11_fewestMore mi_X11_shutsWith yX11_shutsWith RX11 332 3 := ⟨⟨w_1124, w_1126, w_41, w_95, w_1127⟩, ⟨by decide, by decide⟩, by decide +kernel, by decide, by decide⟩
theorem cw_X11_fewestMore_238 : CwV mi_X11_fewestMore mi_X6_lengthOf yX6_lengthOf RX6 238 1 := ⟨⟨w_1101, w_1102, w_1103, w_106, w_1104⟩, ⟨by decide, by decide⟩, by decide +kernel, by decide, by decide⟩
theorem j_X11_fewestMore_B51 {l : Launch} {Γ : Am}   : ∀ (r0 : Nat) (v3 : Int32) (v4 : Int32) (v5 : Int32) (z : Hp), J l Γ mi_X11_fewestMore cvI 0 0 51 [(0, .ref (mB Γ + r0)), (3, .int v3), (4, .int v4), (5, .int v5)] [] z (m_X11_fewestMore_B51  r0 v3 v4 v5 z) := by
  intro r0 v3 v4 v5 z
  unfold m_X11_fewestMore_B51
  refine j_aload_n (pc := 51) 0 dX11_fewestMore_51 rfl rfl ?_
  refine j_iload (pc := 52) 3 dX11_fewestMore_52 rfl ?_
  refine j_iload_n (pc := 54) 1 dX11_fewestMore_54 rfl rfl ?_
  refine j_callS_I (pc := 55) (as := [.int v5, .int v3]) (mc2 := 0) (ms2 := 0) (ct_X11_turned _ _ _) cw_X11_fewestMore_335 dX11_fewestMore_55 (Nat.le_of_ble_eq_true rfl) rfl (by decide) (by decide) (fun x2 z1 => ?_)
  refine j_putI (pc := 58) ok_X11 (by decide) rfl w_539 (Or.inl rfl) rfl rfl dX11_fewestMore_58 (fun z3 => ?_)
  refine j_iload (pc := 61) 2 dX11_fewestMore_61 rfl ?_
  exact j_ireturn (pc := 63) dX11_fewestMore_63 rfl rfl
theorem j_X11_fewestMore_B70 {l : Launch} {Γ : Am} {k12 : Nat → Int32 → Int32 → Int32 → Int32 → Hp → Option (Int32 × Hp)} (hL12 : ∀ (r0 : Nat) (v1 : Int32) (v2 : Int32) (v3 : Int32) (v4 : Int32) (z : Hp), J l Γ mi_X11_fewestMore cvI 0 0 12 [(0, .ref (mB Γ + r0)), (1, .int v1), (2, .int v2), (3, .int v3), (4, .int v4)] [] z (k12 r0 v1 v2 v3 v4 z)) : ∀ (r0 : Nat) (v1 : Int32) (v2 : Int32) (v3 : Int32) (v4 : Int32) (z : Hp), J l Γ mi_X11_fewestMore cvI 0 0 70 [(0, .ref (mB Γ + r0)), (1, .int v1), (2, .int v2), (3, .int v3), (4, .int v4)] [] z (m_X11_fewestMore_B70 k12 r0 v1 v2 v3 v4 z) := by
  intro r0 v1 v2 v3 v4 z
  unfold m_X11_fewestMore_B70
  refine j_iinc (pc := 70) (n0 := 4) (v0 := v4 + 1) (lv2 := [(4, .int (v4 + 1)), (0, .ref (mB Γ + r0)), (1, .int v1), (2, .int v2), (3, .int v3)]) dX11_fewestMore_70 rfl rfl (by decide) rfl ?_
  refine j_goto (pc := 73) 12 dX11_fewestMore_73 (by decide) ?_
  exact J.sub [1, 2, 3, 4, 0] rfl (hL12 r0 v1 v2 v3 (v4 + 1) z)
theorem j_X11_fewestMore_B64 {l : Launch} {Γ : Am} {k25 : Nat → Int32 → Int32 → Int32 → Int32 → Int32 → Hp → Option (Int32 × Hp)} (hL25 : ∀ (r0 : Nat) (v1 : Int32) (v2 : Int32) (v3 : Int32) (v4 : Int32) (v5 : Int32) (z : Hp), J l Γ mi_X11_fewestMore cvI 0 0 25 [(0, .ref (mB Γ + r0)), (1, .int v1), (2, .int v2), (3, .int v3), (4, .int v4), (5, .int v5)] [] z (k25 r0 v1 v2 v3 v4 v5 z)) : ∀ (r0 : Nat) (v1 : Int32) (v2 : Int32) (v3 : Int32) (v4 : Int32) (v5 : Int32) (z : Hp), J l Γ mi_X11_fewestMore cvI 0 0 64 [(0, .ref (mB Γ + r0)), (1, .int v1), (2, .int v2), (3, .int v3), (4, .int v4), (5, .int v5)] [] z (m_X11_fewestMore_B64 k25 r0 v1 v2 v3 v4 v5 z) := by
  intro r0 v1 v2 v3 v4 v5 z
  unfold m_X11_fewestMore_B64
  refine j_iinc (pc := 64) (n0 := 5) (v0 := v5 + (-1)) (lv2 := [(5, .int (v5 + (-1))), (0, .ref (mB Γ + r0)), (1, .int v1), (2, .int v2), (3, .int v3), (4, .int v4)]) dX11_fewestMore_64 rfl rfl (by decide) rfl ?_
  refine j_goto (pc := 67) 25 dX11_fewestMore_67 (by decide) ?_
  exact J.sub [1, 2, 3, 4, 5, 0] rfl (hL25 r0 v1 v2 v3 v4 (v5 + (-1)) z)
theorem j_X11_fewestMore_L25 {l : Launch} {Γ : Am} {k51 : Nat → Int32 → Int32 → Int32 → Hp → Option (Int32 × Hp)} {k70 : Nat → Int32 → Int32 → Int32 → Int32 → Hp → Option (Int32 × Hp)} (hL51 : ∀ (r0 : Nat) (v3 : Int32) (v4 : Int32) (v5 : Int32) (z : Hp), J l Γ mi_X11_fewestMore cvI 0 0 51 [(0, .ref (mB Γ + r0)), (3, .int v3), (4, .int v4), (5, .int v5)] [] z (k51 r0 v3 v4 v5 z)) (hL70 : ∀ (r0 : Nat) (v1 : Int32) (v2 : Int32) (v3 : Int32) (v4 : Int32) (z : Hp), J l Γ mi_X11_fewestMore cvI 0 0 70 [(0, .ref (mB Γ + r0)), (1, .int v1), (2, .int v2), (3, .int v3), (4, .int v4)] [] z (k70 r0 v1 v2 v3 v4 z)) : ∀ (f : Nat), ∀ (r0 : Nat) (v1 : Int32) (v2 : Int32) (v3 : Int32) (v4 : Int32) (v5 : Int32) (z : Hp), J l Γ mi_X11_fewestMore cvI 0 0 25 [(0, .ref (mB Γ + r0)), (1, .int v1), (2, .int v2), (3, .int v3), (4, .int v4), (5, .int v5)] [] z (m_X11_fewestMore_L25 k51 k70 f r0 v1 v2 v3 v4 v5 z) := by
  intro f
  induction f with
  | zero => intro r0 v1 v2 v3 v4 v5 z; exact J.none
  | succ f hL25 =>
    intro r0 v1 v2 v3 v4 v5 z
    rw [m_X11_fewestMore_L25]
    refine j_iload (pc := 25) 5 dX11_fewestMore_25 rfl ?_
    refine j_if_lt (pc := 27) 70 dX11_fewestMore_27 (by decide) ?_ ?_
    · exact J.sub [0, 1, 2, 3, 4] rfl (hL70 r0 v1 v2 v3 v4 z)
    refine j_iload (pc := 30) 5 dX11_fewestMore_30 rfl ?_
    refine j_callS_I (pc := 32) (as := [.int v5]) (mc2 := 0) (ms2 := 0) (ct_J6_bitCount_0f7a4 _ _) cw_X11_fewestMore_327 dX11_fewestMore_32 (Nat.le_of_ble_eq_true rfl) rfl (by decide) (by decide) (fun x5 z4 => ?_)
    refine j_iload (pc := 35) 4 dX11_fewestMore_35 rfl ?_
    refine j_icmp_ne (pc := 37) 64 dX11_fewestMore_37 (by decide) ?_ ?_
    · exact J.sub [0, 1, 2, 3, 4, 5] rfl ((j_X11_fewestMore_B64 hL25) r0 v1 v2 v3 v4 v5 z4)
    refine j_aload_n (pc := 40) 0 dX11_fewestMore_40 rfl rfl ?_
    refine j_iload_n (pc := 41) 1 dX11_fewestMore_41 rfl rfl ?_
    refine j_iload (pc := 42) 5 dX11_fewestMore_42 rfl ?_
    refine j_iload_n (pc := 44) 2 dX11_fewestMore_44 rfl rfl ?_
    refine j_isC (fun h8 => ?_)
    refine j_callV_I (pc := 45) (as := [.int v1, .int v5, .int v2]) (mc2 := 0) (ms2 := 0) (ct_X11_shutsWith _ _ _ _ _) h8 rfl cw_X11_fewestMore_332 dX11_fewestMore_45 (Nat.le_of_ble_eq_true rfl) rfl (by decide) (by decide) (fun x7 z6 => ?_)
    refine j_if_eq (pc := 48) 64 dX11_fewestMore_48 (by decide) ?_ ?_
    · exact J.sub [0, 1, 2, 3, 4, 5] rfl ((j_X11_fewestMore_B64 hL25) r0 v1 v2 v3 v4 v5 z6)
    exact J.sub [0, 3, 4, 5] rfl (hL51 r0 v3 v4 v5 z6)
theorem j_X11_fewestMore_L12 {l : Launch} {Γ : Am} {k51 : Nat → Int32 → Int32 → Int32 → Hp → Option (Int32 × Hp)} (hL51 : ∀ (r0 : Nat) (v3 : Int32) (v4 : Int32) (v5 : Int32) (z : Hp), J l Γ mi_X11_fewestMore cvI 0 0 51 [(0, .ref (mB Γ + r0)), (3, .int v3), (4, .int v4), (5, .int v5)] [] z (k51 r0 v3 v4 v5 z)) : ∀ (f : Nat), ∀ (r0 : Nat) (v1 : Int32) (v2 : Int32) (v3 : Int32) (v4 : Int32) (z : Hp), J l Γ mi_X11_fewestMore cvI 0 0 12 [(0, .ref (mB Γ + r0)), (1, .int v1), (2, .int v2), (3, .int v3), (4, .int v4)] [] z (m_X11_fewestMore_L12 k51 f r0 v1 v2 v3 v4 z) := by
  intro f
  induction f with
  | zero => intro r0 v1 v2 v3 v4 z; exact J.none
  | succ f hL12 =>
    intro r0 v1 v2 v3 v4 z
    rw [m_X11_fewestMore_L12]
    refine j_iload (pc := 12) 4 dX11_fewestMore_12 rfl ?_
    refine j_iload_n (pc := 14) 3 dX11_fewestMore_14 rfl rfl ?_
    refine j_icmp_gt (pc := 15) 76 dX11_fewestMore_15 (by decide) ?_ ?_
    · refine j_iconst (pc := 76) (v := (-1)) dX11_fewestMore_76 (by decide) ?_
      exact j_ireturn (pc := 77) dX11_fewestMore_77 rfl rfl
    refine j_iconst (pc := 18) (v := 1) dX11_fewestMore_18 (by decide) ?_
    refine j_iload_n (pc := 19) 3 dX11_fewestMore_19 rfl rfl ?_
    refine j_ishl (pc := 20) dX11_fewestMore_20 ?_
    refine j_iconst (pc := 21) (v := 1) dX11_fewestMore_21 (by decide) ?_
    refine j_isub (pc := 22) dX11_fewestMore_22 ?_
    refine j_istore (pc := 23) (lv2 := [(5, .int (((1 : Int32) <<< (v3 &&& 31)) - 1)), (0, .ref (mB Γ + r0)), (1, .int v1), (2, .int v2), (3, .int v3), (4, .int v4)]) dX11_fewestMore_23 (by decide) rfl ?_
    exact J.sub [1, 2, 3, 4, 5, 0] rfl ((j_X11_fewestMore_L25 hL51 (j_X11_fewestMore_B70 hL12) FU) r0 v1 v2 v3 v4 (((1 : Int32) <<< (v3 &&& 31)) - 1) z)
theorem ct_X11_fewestMore {l : Launch} {Γ : Am} (r0 : Nat) (v1 : Int32) (v2 : Int32) (z : Hp) : Ct l Γ yX11_fewestMore mi_X11_fewestMore cvI [.ref (mB Γ + r0), .int v1, .int v2] z (m_X11_fewestMore r0 v1 v2 z) := by
  refine Ct.ofJ (by decide) ⟨rfl, rfl⟩ (Nat.le_of_ble_eq_true rfl) ?_
  unfold m_X11_fewestMore
  show J l Γ mi_X11_fewestMore cvI 0 0 0 [(0, .ref (mB Γ + r0)), (1, .int v1), (2, .int v2)] [] z _
  refine j_aload_n (pc := 0) 0 dX11_fewestMore_0 rfl rfl ?_
  refine j_getR (pc := 1) ok_X11 (by decide) rfl w_536 dX11_fewestMore_1 (fun a9 => ?_)
  refine j_iload_n (pc := 4) 1 dX11_fewestMore_4 rfl rfl ?_
  refine j_isC (fun h12 => ?_)
  refine j_callV_I (pc := 5) (as := [.int v1]) (mc2 := 0) (ms2 := 0) (ct_X6_lengthOf _ _ _) h12 rfl cw_X11_fewestMore_238 dX11_fewestMore_5 (Nat.le_of_ble_eq_true rfl) rfl (by decide) (by decide) (fun x11 z10 => ?_)
  refine j_istore_n (pc := 8) (lv2 := [(3, .int x11), (0, .ref (mB Γ + r0)), (1, .int v1), (2, .int v2)]) dX11_fewestMore_8 rfl (by decide) rfl ?_
  refine j_iconst (pc := 9) (v := 0) dX11_fewestMore_9 (by decide) ?_
  refine j_istore (pc := 10) (lv2 := [(4, .int 0), (3, .int x11), (0, .ref (mB Γ + r0)), (1, .int v1), (2, .int v2)]) dX11_fewestMore_10 (by decide) rfl ?_
  exact J.sub [2, 3, 4, 1, 0] rfl ((j_X11_fewestMore_L12 j_X11_fewestMore_B51 FU) r0 v1 v2 x11 0 z10)
theorem dX11_more_0 : decode cX11_more 0 = .ok (.iload_n 1, 1) := by decide +kernel
theorem dX11_more_1 : decode cX11_more 1 = .ok (.ifCond .lt 12, 3) := by decide +kernel
theorem dX11_more_4 : decode cX11_more 4 = .ok (.iload_n 1, 1) := by decide +kernel
theorem dX11_more_5 : decode cX11_more 5 = .ok (.iconst 4, 1) := by decide +kernel
theorem dX11_more_6 : decode cX11_more 6 = .ok (.if_icmp .ge 7, 3) := by decide +kernel
theorem dX11_more_9 : decode cX11_more 9 = .ok (.iconst 1, 1) := by decide +kernel
theorem dX11_more_10 : decode cX11_more 10 = .ok (.goto 4, 3) := by decide +kernel
theorem dX11_more_13 : decode cX11_more 13 = .ok (.iconst 0, 1) := by decide +kernel
theorem dX11_more_14 : decode cX11_more 14 = .ok (.istore_n 3, 1) := by decide +kernel
theorem dX11_more_15 : decode cX11_more 15 = .ok (.iload_n 3, 1) := by decide +kernel
theorem dX11_more_16 : decode cX11_more 16 = .ok (.ifCond .eq 27, 3) := by decide +kernel
theorem dX11_more_19 : decode cX11_more 19 = .ok (.iload_n 2, 1) := by decide +kernel
theorem dX11_more_20 : decode cX11_more 20 = .ok (.iconst 1, 1) := by decide +kernel
theorem dX11_more_21 : decode cX11_more 21 = .ok (.if_icmp .lt 22, 3) := by decide +kernel
theorem dX11_more_24 : decode cX11_more 24 = .ok (.iload_n 2, 1) := by decide +kernel
theorem dX11_more_25 : decode cX11_more 25 = .ok (.bipush 30, 2) := by decide +kernel
theorem dX11_more_27 : decode cX11_more 27 = .ok (.if_icmp .gt 16, 3) := by decide +kernel
theorem dX11_more_30 : decode cX11_more 30 = .ok (.aload_n 0, 1) := by decide +kernel
theorem dX11_more_31 : decode cX11_more 31 = .ok (.getfield 56, 3) := by decide +kernel
theorem dX11_more_34 : decode cX11_more 34 = .ok (.iload_n 1, 1) := by decide +kernel
theorem dX11_more_35 : decode cX11_more 35 = .ok (.invokevirtual 238, 3) := by decide +kernel
theorem dX11_more_38 : decode cX11_more 38 = .ok (.bipush 6, 2) := by decide +kernel
theorem dX11_more_40 : decode cX11_more 40 = .ok (.if_icmp .le 6, 3) := by decide +kernel
theorem dX11_more_43 : decode cX11_more 43 = .ok (.bipush (-2), 2) := by decide +kernel
theorem dX11_more_45 : decode cX11_more 45 = .ok (.ireturn, 1) := by decide +kernel
theorem dX11_more_46 : decode cX11_more 46 = .ok (.aload_n 0, 1) := by decide +kernel
theorem dX11_more_47 : decode cX11_more 47 = .ok (.getfield 56, 3) := by decide +kernel
theorem dX11_more_50 : decode cX11_more 50 = .ok (.iload_n 1, 1) := by decide +kernel
theorem dX11_more_51 : decode cX11_more 51 = .ok (.invokevirtual 241, 3) := by decide +kernel
theorem dX11_more_54 : decode cX11_more 54 = .ok (.ifCond .eq 26, 3) := by decide +kernel
theorem dX11_more_57 : decode cX11_more 57 = .ok (.aload_n 0, 1) := by decide +kernel
theorem dX11_more_58 : decode cX11_more 58 = .ok (.getfield 10, 3) := by decide +kernel
theorem dX11_more_61 : decode cX11_more 61 = .ok (.getfield 172, 3) := by decide +kernel
theorem dX11_more_64 : decode cX11_more 64 = .ok (.ifCond .eq 16, 3) := by decide +kernel
theorem dX11_more_67 : decode cX11_more 67 = .ok (.aload_n 0, 1) := by decide +kernel
theorem dX11_more_68 : decode cX11_more 68 = .ok (.getfield 10, 3) := by decide +kernel
theorem dX11_more_71 : decode cX11_more 71 = .ok (.getfield 139, 3) := by decide +kernel
theorem dX11_more_74 : decode cX11_more 74 = .ok (.getfield 158, 3) := by decide +kernel
theorem dX11_more_77 : decode cX11_more 77 = .ok (.ifCond .ne 6, 3) := by decide +kernel
theorem dX11_more_80 : decode cX11_more 80 = .ok (.bipush (-6), 2) := by decide +kernel
theorem dX11_more_82 : decode cX11_more 82 = .ok (.ireturn, 1) := by decide +kernel
theorem dX11_more_83 : decode cX11_more 83 = .ok (.aload_n 0, 1) := by decide +kernel
theorem dX11_more_84 : decode cX11_more 84 = .ok (.iload_n 1, 1) := by decide +kernel
theorem dX11_more_85 : decode cX11_more 85 = .ok (.invokevirtual 245, 3) := by decide +kernel
theorem dX11_more_88 : decode cX11_more 88 = .ok (.ifCond .ne 6, 3) := by decide +kernel
theorem dX11_more_91 : decode cX11_more 91 = .ok (.bipush (-7), 2) := by decide +kernel
theorem dX11_more_93 : decode cX11_more 93 = .ok (.ireturn, 1) := by decide +kernel
theorem dX11_more_94 : decode cX11_more 94 = .ok (.aload_n 0, 1) := by decide +kernel
theorem dX11_more_95 : decode cX11_more 95 = .ok (.iload_n 1, 1) := by decide +kernel
theorem dX11_more_96 : decode cX11_more 96 = .ok (.iload_n 2, 1) := by decide +kernel
theorem dX11_more_97 : decode cX11_more 97 = .ok (.invokevirtual 248, 3) := by decide +kernel
theorem dX11_more_100 : decode cX11_more 100 = .ok (.ireturn, 1) := by decide +kernel
theorem cw_X11_more_238 : CwV mi_X11_more mi_X6_lengthOf yX6_lengthOf RX6 238 1 := ⟨⟨w_1101, w_1102, w_1103, w_106, w_1104⟩, ⟨by decide, by decide⟩, by decide +kernel, by decide, by decide⟩
theorem cw_X11_more_241 : CwV mi_X11_more mi_X6_hasRow yX6_hasRow RX6 241 1 := ⟨⟨w_1105, w_1106, w_1107, w_106, w_1108⟩, ⟨by decide, by decide⟩, by decide +kernel, by decide, by decide⟩
theorem cw_X11_more_245 : CwV mi_X11_more mi_X11_standForMore yX11_standForMore RX11 245 1 := ⟨⟨w_1109, w_1111, w_39, w_95, w_1112⟩, ⟨by decide, by decide⟩, by decide +kernel, by decide, by decide⟩
theorem cw_X11_more_248 : CwV mi_X11_more mi_X11_fewestMore yX11_fewestMore RX11 248 2 := ⟨⟨w_1114, w_1116, w_40, w_95, w_1117⟩, ⟨by decide, by decide⟩, by decide +kernel, by decide, by decide⟩
theorem j_X11_more_B14 {l : Launch} {Γ : Am}   : ∀ (r0 : Nat) (v1 : Int32) (v2 : Int32) (t0 : Int32) (z : Hp), J l Γ mi_X11_more cvI 0 0 14 [(0, .ref (mB Γ + r0)), (1, .int v1), (2, .int v2)] [.int t0] z (m_X11_more_B14  r0 v1 v2 t0 z) := by
  intro r0 v1 v2 t0 z
  unfold m_X11_more_B14
  refine j_istore_n (pc := 14) (lv2 := [(3, .int t0), (0, .ref (mB Γ + r0)), (1, .int v1), (2, .int v2)]) dX11_more_14 rfl (by decide) rfl ?_
  refine j_iload_n (pc := 15) 0 dX11_more_15 rfl rfl ?_
  refine j_if_eq (pc := 16) 43 dX11_more_16 (by decide) ?_ ?_
  · refine j_bipush (pc := 43) (v := (-2)) dX11_more_43 (by decide) ?_
    exact j_ireturn (pc := 45) dX11_more_45 rfl rfl
  refine j_iload_n (pc := 19) 3 dX11_more_19 rfl rfl ?_
  refine j_iconst (pc := 20) (v := 1) dX11_more_20 (by decide) ?_
  refine j_icmp_lt (pc := 21) 43 dX11_more_21 (by decide) ?_ ?_
  · refine j_bipush (pc := 43) (v := (-2)) dX11_more_43 (by decide) ?_
    exact j_ireturn (pc := 45) dX11_more_45 rfl rfl
  refine j_iload_n (pc := 24) 3 dX11_more_24 rfl rfl ?_
  refine j_bipush (pc := 25) (v := 30) dX11_more_25 (by decide) ?_
  refine j_icmp_gt (pc := 27) 43 dX11_more_27 (by decide) ?_ ?_
  · refine j_bipush (pc := 43) (v := (-2)) dX11_more_43 (by decide) ?_
    exact j_ireturn (pc := 45) dX11_more_45 rfl rfl
  refine j_aload_n (pc := 30) 1 dX11_more_30 rfl rfl ?_
  refine j_getR (pc := 31) ok_X11 (by decide) rfl w_536 dX11_more_31 (fun a1 => ?_)
  refine j_iload_n (pc := 34) 2 dX11_more_34 rfl rfl ?_
  refine j_isC (fun h4 => ?_)
  refine j_callV_I (pc := 35) (as := [.int v1]) (mc2 := 0) (ms2 := 0) (ct_X6_lengthOf _ _ _) h4 rfl cw_X11_more_238 dX11_more_35 (Nat.le_of_ble_eq_true rfl) rfl (by decide) (by decide) (fun x3 z2 => ?_)
  refine j_bipush (pc := 38) (v := 6) dX11_more_38 (by decide) ?_
  refine j_icmp_le (pc := 40) 46 dX11_more_40 (by decide) ?_ ?_
  · refine j_aload_n (pc := 46) 1 dX11_more_46 rfl rfl ?_
    refine j_getR (pc := 47) ok_X11 (by decide) rfl w_536 dX11_more_47 (fun a5 => ?_)
    refine j_iload_n (pc := 50) 2 dX11_more_50 rfl rfl ?_
    refine j_isC (fun h8 => ?_)
    refine j_callV_I (pc := 51) (as := [.int v1]) (mc2 := 0) (ms2 := 0) (ct_X6_hasRow _ _ _) h8 rfl cw_X11_more_241 dX11_more_51 (Nat.le_of_ble_eq_true rfl) rfl (by decide) (by decide) (fun x7 z6 => ?_)
    refine j_if_eq (pc := 54) 80 dX11_more_54 (by decide) ?_ ?_
    · refine j_bipush (pc := 80) (v := (-6)) dX11_more_80 (by decide) ?_
      exact j_ireturn (pc := 82) dX11_more_82 rfl rfl
    refine j_aload_n (pc := 57) 1 dX11_more_57 rfl rfl ?_
    refine j_getR (pc := 58) ok_X11 (by decide) rfl w_529 dX11_more_58 (fun a9 => ?_)
    refine j_getI (pc := 61) ok_X8 (by decide) rfl w_323 dX11_more_61 (fun x10 => ?_)
    refine j_if_eq (pc := 64) 80 dX11_more_64 (by decide) ?_ ?_
    · refine j_bipush (pc := 80) (v := (-6)) dX11_more_80 (by decide) ?_
      exact j_ireturn (pc := 82) dX11_more_82 rfl rfl
    refine j_aload_n (pc := 67) 1 dX11_more_67 rfl rfl ?_
    refine j_getR (pc := 68) ok_X11 (by decide) rfl w_529 dX11_more_68 (fun a11 => ?_)
    refine j_getR (pc := 71) ok_X8 (by decide) rfl w_295 dX11_more_71 (fun a12 => ?_)
    refine j_getI (pc := 74) ok_X3 (by decide) rfl w_203 dX11_more_74 (fun x13 => ?_)
    refine j_if_ne (pc := 77) 83 dX11_more_77 (by decide) ?_ ?_
    · refine j_aload_n (pc := 83) 1 dX11_more_83 rfl rfl ?_
      refine j_iload_n (pc := 84) 2 dX11_more_84 rfl rfl ?_
      refine j_isC (fun h16 => ?_)
      refine j_callV_I (pc := 85) (as := [.int v1]) (mc2 := 0) (ms2 := 0) (ct_X11_standForMore _ _ _) h16 rfl cw_X11_more_245 dX11_more_85 (Nat.le_of_ble_eq_true rfl) rfl (by decide) (by decide) (fun x15 z14 => ?_)
      refine j_if_ne (pc := 88) 94 dX11_more_88 (by decide) ?_ ?_
      · refine j_aload_n (pc := 94) 1 dX11_more_94 rfl rfl ?_
        refine j_iload_n (pc := 95) 2 dX11_more_95 rfl rfl ?_
        refine j_iload_n (pc := 96) 3 dX11_more_96 rfl rfl ?_
        refine j_isC (fun h19 => ?_)
        refine j_callV_I (pc := 97) (as := [.int v1, .int v2]) (mc2 := 0) (ms2 := 0) (ct_X11_fewestMore _ _ _ _) h19 rfl cw_X11_more_248 dX11_more_97 (Nat.le_of_ble_eq_true rfl) rfl (by decide) (by decide) (fun x18 z17 => ?_)
        exact j_ireturn (pc := 100) dX11_more_100 rfl rfl
      refine j_bipush (pc := 91) (v := (-7)) dX11_more_91 (by decide) ?_
      exact j_ireturn (pc := 93) dX11_more_93 rfl rfl
    refine j_bipush (pc := 80) (v := (-6)) dX11_more_80 (by decide) ?_
    exact j_ireturn (pc := 82) dX11_more_82 rfl rfl
  refine j_bipush (pc := 43) (v := (-2)) dX11_more_43 (by decide) ?_
  exact j_ireturn (pc := 45) dX11_more_45 rfl rfl
theorem j_X11_more_B13 {l : Launch} {Γ : Am}   : ∀ (r0 : Nat) (v1 : Int32) (v2 : Int32) (z : Hp), J l Γ mi_X11_more cvI 0 0 13 [(0, .ref (mB Γ + r0)), (1, .int v1), (2, .int v2)] [] z (m_X11_more_B13  r0 v1 v2 z) := by
  intro r0 v1 v2 z
  unfold m_X11_more_B13
  refine j_iconst (pc := 13) (v := 0) dX11_more_13 (by decide) ?_
  exact J.sub [0, 1, 2] rfl (j_X11_more_B14 r0 v1 v2 0 z)
theorem ct_X11_more {l : Launch} {Γ : Am} (r0 : Nat) (v1 : Int32) (v2 : Int32) (z : Hp) : Ct l Γ yX11_more mi_X11_more cvI [.ref (mB Γ + r0), .int v1, .int v2] z (m_X11_more r0 v1 v2 z) := by
  refine Ct.ofJ (by decide) ⟨rfl, rfl⟩ (Nat.le_of_ble_eq_true rfl) ?_
  unfold m_X11_more
  show J l Γ mi_X11_more cvI 0 0 0 [(0, .ref (mB Γ + r0)), (1, .int v1), (2, .int v2)] [] z _
  refine j_iload_n (pc := 0) 1 dX11_more_0 rfl rfl ?_
  refine j_if_lt (pc := 1) 13 dX11_more_1 (by decide) ?_ ?_
  · exact J.sub [0, 1, 2] rfl (j_X11_more_B13 r0 v1 v2 z)
  refine j_iload_n (pc := 4) 1 dX11_more_4 rfl rfl ?_
  refine j_iconst (pc := 5) (v := 4) dX11_more_5 (by decide) ?_
  refine j_icmp_ge (pc := 6) 13 dX11_more_6 (by decide) ?_ ?_
  · exact J.sub [0, 1, 2] rfl (j_X11_more_B13 r0 v1 v2 z)
  refine j_iconst (pc := 9) (v := 1) dX11_more_9 (by decide) ?_
  refine j_goto (pc := 10) 14 dX11_more_10 (by decide) ?_
  exact J.sub [0, 1, 2] rfl (j_X11_more_B14 r0 v1 v2 1 z)
theorem dX11_chosen_0 : decode cX11_chosen 0 = .ok (.aload_n 0, 1) := by decide +kernel
theorem dX11_chosen_1 : decode cX11_chosen 1 = .ok (.getfield 68, 3) := by decide +kernel
theorem dX11_chosen_4 : decode cX11_chosen 4 = .ok (.ireturn, 1) := by decide +kernel
theorem ct_X11_chosen {l : Launch} {Γ : Am} (r0 : Nat) (z : Hp) : Ct l Γ yX11_chosen mi_X11_chosen cvI [.ref (mB Γ + r0)] z (m_X11_chosen r0 z) := by
  refine Ct.ofJ (by decide) ⟨rfl, rfl⟩ (Nat.le_of_ble_eq_true rfl) ?_
  unfold m_X11_chosen
  show J l Γ mi_X11_chosen cvI 0 0 0 [(0, .ref (mB Γ + r0))] [] z _
  refine j_aload_n (pc := 0) 0 dX11_chosen_0 rfl rfl ?_
  refine j_getI (pc := 1) ok_X11 (by decide) rfl w_539 dX11_chosen_1 (fun x1 => ?_)
  exact j_ireturn (pc := 4) dX11_chosen_4 rfl rfl
theorem dX11_gauge_0 : decode cX11_gauge 0 = .ok (.iload_n 1, 1) := by decide +kernel
theorem dX11_gauge_1 : decode cX11_gauge 1 = .ok (.ifCond .lt 21, 3) := by decide +kernel
theorem dX11_gauge_4 : decode cX11_gauge 4 = .ok (.iload_n 1, 1) := by decide +kernel
theorem dX11_gauge_5 : decode cX11_gauge 5 = .ok (.bipush 10, 2) := by decide +kernel
theorem dX11_gauge_7 : decode cX11_gauge 7 = .ok (.if_icmp .ge 15, 3) := by decide +kernel
theorem dX11_gauge_10 : decode cX11_gauge 10 = .ok (.iload_n 2, 1) := by decide +kernel
theorem dX11_gauge_11 : decode cX11_gauge 11 = .ok (.iload_n 3, 1) := by decide +kernel
theorem dX11_gauge_12 : decode cX11_gauge 12 = .ok (.invokestatic 115, 3) := by decide +kernel
theorem dX11_gauge_15 : decode cX11_gauge 15 = .ok (.ifCond .eq 7, 3) := by decide +kernel
theorem dX11_gauge_18 : decode cX11_gauge 18 = .ok (.iconst 1, 1) := by decide +kernel
theorem dX11_gauge_19 : decode cX11_gauge 19 = .ok (.goto 4, 3) := by decide +kernel
theorem dX11_gauge_22 : decode cX11_gauge 22 = .ok (.iconst 0, 1) := by decide +kernel
theorem dX11_gauge_23 : decode cX11_gauge 23 = .ok (.istore 5, 2) := by decide +kernel
theorem dX11_gauge_25 : decode cX11_gauge 25 = .ok (.iload 5, 2) := by decide +kernel
theorem dX11_gauge_27 : decode cX11_gauge 27 = .ok (.ifCond .eq 19, 3) := by decide +kernel
theorem dX11_gauge_30 : decode cX11_gauge 30 = .ok (.iload 4, 2) := by decide +kernel
theorem dX11_gauge_32 : decode cX11_gauge 32 = .ok (.sipush (-500), 3) := by decide +kernel
theorem dX11_gauge_35 : decode cX11_gauge 35 = .ok (.if_icmp .lt 11, 3) := by decide +kernel
theorem dX11_gauge_38 : decode cX11_gauge 38 = .ok (.iload 4, 2) := by decide +kernel
theorem dX11_gauge_40 : decode cX11_gauge 40 = .ok (.sipush 500, 3) := by decide +kernel
theorem dX11_gauge_43 : decode cX11_gauge 43 = .ok (.if_icmp .le 6, 3) := by decide +kernel
theorem dX11_gauge_46 : decode cX11_gauge 46 = .ok (.bipush (-2), 2) := by decide +kernel
theorem dX11_gauge_48 : decode cX11_gauge 48 = .ok (.ireturn, 1) := by decide +kernel
theorem dX11_gauge_49 : decode cX11_gauge 49 = .ok (.aload_n 0, 1) := by decide +kernel
theorem dX11_gauge_50 : decode cX11_gauge 50 = .ok (.getfield 10, 3) := by decide +kernel
theorem dX11_gauge_53 : decode cX11_gauge 53 = .ok (.getfield 251, 3) := by decide +kernel
theorem dX11_gauge_56 : decode cX11_gauge 56 = .ok (.getfield 255, 3) := by decide +kernel
theorem dX11_gauge_59 : decode cX11_gauge 59 = .ok (.iload_n 1, 1) := by decide +kernel
theorem dX11_gauge_60 : decode cX11_gauge 60 = .ok (.bipush 12, 2) := by decide +kernel
theorem dX11_gauge_62 : decode cX11_gauge 62 = .ok (.iload_n 3, 1) := by decide +kernel
theorem dX11_gauge_63 : decode cX11_gauge 63 = .ok (.imul, 1) := by decide +kernel
theorem dX11_gauge_64 : decode cX11_gauge 64 = .ok (.iload_n 2, 1) := by decide +kernel
theorem dX11_gauge_65 : decode cX11_gauge 65 = .ok (.iadd, 1) := by decide +kernel
theorem dX11_gauge_66 : decode cX11_gauge 66 = .ok (.iastore, 1) := by decide +kernel
theorem dX11_gauge_67 : decode cX11_gauge 67 = .ok (.aload_n 0, 1) := by decide +kernel
theorem dX11_gauge_68 : decode cX11_gauge 68 = .ok (.getfield 10, 3) := by decide +kernel
theorem dX11_gauge_71 : decode cX11_gauge 71 = .ok (.getfield 251, 3) := by decide +kernel
theorem dX11_gauge_74 : decode cX11_gauge 74 = .ok (.getfield 260, 3) := by decide +kernel
theorem dX11_gauge_77 : decode cX11_gauge 77 = .ok (.iload_n 1, 1) := by decide +kernel
theorem dX11_gauge_78 : decode cX11_gauge 78 = .ok (.iload 4, 2) := by decide +kernel
theorem dX11_gauge_80 : decode cX11_gauge 80 = .ok (.iastore, 1) := by decide +kernel
theorem dX11_gauge_81 : decode cX11_gauge 81 = .ok (.iconst 0, 1) := by decide +kernel
theorem dX11_gauge_82 : decode cX11_gauge 82 = .ok (.ireturn, 1) := by decide +kernel
theorem cw_X11_gauge_115 : CwS mi_X11_gauge mi_X11_isCell yX11_isCell 115 2 := ⟨⟨w_885, w_886, w_95, w_887⟩, ⟨by decide, by decide⟩, by decide +kernel, by decide, by decide⟩
theorem j_X11_gauge_B23 {l : Launch} {Γ : Am}   : ∀ (r0 : Nat) (v1 : Int32) (v2 : Int32) (v3 : Int32) (v4 : Int32) (t0 : Int32) (z : Hp), J l Γ mi_X11_gauge cvI 0 0 23 [(0, .ref (mB Γ + r0)), (1, .int v1), (2, .int v2), (3, .int v3), (4, .int v4)] [.int t0] z (m_X11_gauge_B23  r0 v1 v2 v3 v4 t0 z) := by
  intro r0 v1 v2 v3 v4 t0 z
  unfold m_X11_gauge_B23
  refine j_istore (pc := 23) (lv2 := [(5, .int t0), (0, .ref (mB Γ + r0)), (1, .int v1), (2, .int v2), (3, .int v3), (4, .int v4)]) dX11_gauge_23 (by decide) rfl ?_
  refine j_iload (pc := 25) 0 dX11_gauge_25 rfl ?_
  refine j_if_eq (pc := 27) 46 dX11_gauge_27 (by decide) ?_ ?_
  · refine j_bipush (pc := 46) (v := (-2)) dX11_gauge_46 (by decide) ?_
    exact j_ireturn (pc := 48) dX11_gauge_48 rfl rfl
  refine j_iload (pc := 30) 5 dX11_gauge_30 rfl ?_
  refine j_sipush (pc := 32) (v := (-500)) dX11_gauge_32 (by decide) ?_
  refine j_icmp_lt (pc := 35) 46 dX11_gauge_35 (by decide) ?_ ?_
  · refine j_bipush (pc := 46) (v := (-2)) dX11_gauge_46 (by decide) ?_
    exact j_ireturn (pc := 48) dX11_gauge_48 rfl rfl
  refine j_iload (pc := 38) 5 dX11_gauge_38 rfl ?_
  refine j_sipush (pc := 40) (v := 500) dX11_gauge_40 (by decide) ?_
  refine j_icmp_le (pc := 43) 49 dX11_gauge_43 (by decide) ?_ ?_
  · refine j_aload_n (pc := 49) 1 dX11_gauge_49 rfl rfl ?_
    refine j_getR (pc := 50) ok_X11 (by decide) rfl w_529 dX11_gauge_50 (fun a1 => ?_)
    refine j_getR (pc := 53) ok_X8 (by decide) rfl w_304 dX11_gauge_53 (fun a2 => ?_)
    refine j_getR (pc := 56) ok_X0 (by decide) rfl w_279 dX11_gauge_56 (fun a3 => ?_)
    refine j_iload_n (pc := 59) 2 dX11_gauge_59 rfl rfl ?_
    refine j_bipush (pc := 60) (v := 12) dX11_gauge_60 (by decide) ?_
    refine j_iload_n (pc := 62) 4 dX11_gauge_62 rfl rfl ?_
    refine j_imul (pc := 63) dX11_gauge_63 ?_
    refine j_iload_n (pc := 64) 3 dX11_gauge_64 rfl rfl ?_
    refine j_iadd (pc := 65) dX11_gauge_65 ?_
    refine j_iastore (pc := 66) dX11_gauge_66 (fun z4 => ?_)
    refine j_aload_n (pc := 67) 1 dX11_gauge_67 rfl rfl ?_
    refine j_getR (pc := 68) ok_X11 (by decide) rfl w_529 dX11_gauge_68 (fun a5 => ?_)
    refine j_getR (pc := 71) ok_X8 (by decide) rfl w_304 dX11_gauge_71 (fun a6 => ?_)
    refine j_getR (pc := 74) ok_X0 (by decide) rfl w_282 dX11_gauge_74 (fun a7 => ?_)
    refine j_iload_n (pc := 77) 2 dX11_gauge_77 rfl rfl ?_
    refine j_iload (pc := 78) 5 dX11_gauge_78 rfl ?_
    refine j_iastore (pc := 80) dX11_gauge_80 (fun z8 => ?_)
    refine j_iconst (pc := 81) (v := 0) dX11_gauge_81 (by decide) ?_
    exact j_ireturn (pc := 82) dX11_gauge_82 rfl rfl
  refine j_bipush (pc := 46) (v := (-2)) dX11_gauge_46 (by decide) ?_
  exact j_ireturn (pc := 48) dX11_gauge_48 rfl rfl
theorem j_X11_gauge_B22 {l : Launch} {Γ : Am}   : ∀ (r0 : Nat) (v1 : Int32) (v2 : Int32) (v3 : Int32) (v4 : Int32) (z : Hp), J l Γ mi_X11_gauge cvI 0 0 22 [(0, .ref (mB Γ + r0)), (1, .int v1), (2, .int v2), (3, .int v3), (4, .int v4)] [] z (m_X11_gauge_B22  r0 v1 v2 v3 v4 z) := by
  intro r0 v1 v2 v3 v4 z
  unfold m_X11_gauge_B22
  refine j_iconst (pc := 22) (v := 0) dX11_gauge_22 (by decide) ?_
  exact J.sub [0, 1, 2, 3, 4] rfl (j_X11_gauge_B23 r0 v1 v2 v3 v4 0 z)
theorem ct_X11_gauge {l : Launch} {Γ : Am} (r0 : Nat) (v1 : Int32) (v2 : Int32) (v3 : Int32) (v4 : Int32) (z : Hp) : Ct l Γ yX11_gauge mi_X11_gauge cvI [.ref (mB Γ + r0), .int v1, .int v2, .int v3, .int v4] z (m_X11_gauge r0 v1 v2 v3 v4 z) := by
  refine Ct.ofJ (by decide) ⟨rfl, rfl⟩ (Nat.le_of_ble_eq_true rfl) ?_
  unfold m_X11_gauge
  show J l Γ mi_X11_gauge cvI 0 0 0 [(0, .ref (mB Γ + r0)), (1, .int v1), (2, .int v2), (3, .int v3), (4, .int v4)] [] z _
  refine j_iload_n (pc := 0) 1 dX11_gauge_0 rfl rfl ?_
  refine j_if_lt (pc := 1) 22 dX11_gauge_1 (by decide) ?_ ?_
  · exact J.sub [0, 1, 2, 3, 4] rfl (j_X11_gauge_B22 r0 v1 v2 v3 v4 z)
  refine j_iload_n (pc := 4) 1 dX11_gauge_4 rfl rfl ?_
  refine j_bipush (pc := 5) (v := 10) dX11_gauge_5 (by decide) ?_
  refine j_icmp_ge (pc := 7) 22 dX11_gauge_7 (by decide) ?_ ?_
  · exact J.sub [0, 1, 2, 3, 4] rfl (j_X11_gauge_B22 r0 v1 v2 v3 v4 z)
  refine j_iload_n (pc := 10) 2 dX11_gauge_10 rfl rfl ?_
  refine j_iload_n (pc := 11) 3 dX11_gauge_11 rfl rfl ?_
  refine j_callS_I (pc := 12) (as := [.int v2, .int v3]) (mc2 := 0) (ms2 := 0) (ct_X11_isCell _ _ _) cw_X11_gauge_115 dX11_gauge_12 (Nat.le_of_ble_eq_true rfl) rfl (by decide) (by decide) (fun x10 z9 => ?_)
  refine j_if_eq (pc := 15) 22 dX11_gauge_15 (by decide) ?_ ?_
  · exact J.sub [0, 1, 2, 3, 4] rfl (j_X11_gauge_B22 r0 v1 v2 v3 v4 z9)
  refine j_iconst (pc := 18) (v := 1) dX11_gauge_18 (by decide) ?_
  refine j_goto (pc := 19) 23 dX11_gauge_19 (by decide) ?_
  exact J.sub [0, 1, 2, 3, 4] rfl (j_X11_gauge_B23 r0 v1 v2 v3 v4 1 z9)
theorem dX11_lies_0 : decode cX11_lies 0 = .ok (.iload_n 1, 1) := by decide +kernel
theorem dX11_lies_1 : decode cX11_lies 1 = .ok (.ifCond .lt 9, 3) := by decide +kernel
theorem dX11_lies_4 : decode cX11_lies 4 = .ok (.iload_n 1, 1) := by decide +kernel
theorem dX11_lies_5 : decode cX11_lies 5 = .ok (.bipush 99, 2) := by decide +kernel
theorem dX11_lies_7 : decode cX11_lies 7 = .ok (.if_icmp .le 8, 3) := by decide +kernel
theorem dX11_lies_10 : decode cX11_lies 10 = .ok (.bipush (-2), 2) := by decide +kernel
theorem dX11_lies_12 : decode cX11_lies 12 = .ok (.goto 11, 3) := by decide +kernel
theorem dX11_lies_15 : decode cX11_lies 15 = .ok (.aload_n 0, 1) := by decide +kernel
theorem dX11_lies_16 : decode cX11_lies 16 = .ok (.getfield 10, 3) := by decide +kernel
theorem dX11_lies_19 : decode cX11_lies 19 = .ok (.iload_n 1, 1) := by decide +kernel
theorem dX11_lies_20 : decode cX11_lies 20 = .ok (.invokevirtual 263, 3) := by decide +kernel
theorem dX11_lies_23 : decode cX11_lies 23 = .ok (.ireturn, 1) := by decide +kernel
theorem cw_X11_lies_263 : CwV mi_X11_lies mi_X8_beliedGauges yX8_beliedGauges RX8 263 1 := ⟨⟨w_1144, w_1145, w_1146, w_96, w_1147⟩, ⟨by decide, by decide⟩, by decide +kernel, by decide, by decide⟩
theorem j_X11_lies_B10 {l : Launch} {Γ : Am}   : ∀  (z : Hp), J l Γ mi_X11_lies cvI 0 0 10 [] [] z (m_X11_lies_B10   z) := by
  intro  z
  unfold m_X11_lies_B10
  refine j_bipush (pc := 10) (v := (-2)) dX11_lies_10 (by decide) ?_
  refine j_goto (pc := 12) 23 dX11_lies_12 (by decide) ?_
  exact j_ireturn (pc := 23) dX11_lies_23 rfl rfl
theorem ct_X11_lies {l : Launch} {Γ : Am} (r0 : Nat) (v1 : Int32) (z : Hp) : Ct l Γ yX11_lies mi_X11_lies cvI [.ref (mB Γ + r0), .int v1] z (m_X11_lies r0 v1 z) := by
  refine Ct.ofJ (by decide) ⟨rfl, rfl⟩ (Nat.le_of_ble_eq_true rfl) ?_
  unfold m_X11_lies
  show J l Γ mi_X11_lies cvI 0 0 0 [(0, .ref (mB Γ + r0)), (1, .int v1)] [] z _
  refine j_iload_n (pc := 0) 1 dX11_lies_0 rfl rfl ?_
  refine j_if_lt (pc := 1) 10 dX11_lies_1 (by decide) ?_ ?_
  · exact J.sub [] rfl (j_X11_lies_B10 z)
  refine j_iload_n (pc := 4) 1 dX11_lies_4 rfl rfl ?_
  refine j_bipush (pc := 5) (v := 99) dX11_lies_5 (by decide) ?_
  refine j_icmp_le (pc := 7) 15 dX11_lies_7 (by decide) ?_ ?_
  · refine j_aload_n (pc := 15) 0 dX11_lies_15 rfl rfl ?_
    refine j_getR (pc := 16) ok_X11 (by decide) rfl w_529 dX11_lies_16 (fun a1 => ?_)
    refine j_iload_n (pc := 19) 1 dX11_lies_19 rfl rfl ?_
    refine j_isC (fun h4 => ?_)
    refine j_callV_I (pc := 20) (as := [.int v1]) (mc2 := 0) (ms2 := 0) (ct_X8_beliedGauges _ _ _) h4 rfl cw_X11_lies_263 dX11_lies_20 (Nat.le_of_ble_eq_true rfl) rfl (by decide) (by decide) (fun x3 z2 => ?_)
    exact j_ireturn (pc := 23) dX11_lies_23 rfl rfl
  exact J.sub [] rfl (j_X11_lies_B10 z)
theorem dX11_most_0 : decode cX11_most 0 = .ok (.iload_n 1, 1) := by decide +kernel
theorem dX11_most_1 : decode cX11_most 1 = .ok (.ifCond .eq 10, 3) := by decide +kernel
theorem dX11_most_4 : decode cX11_most 4 = .ok (.iload_n 1, 1) := by decide +kernel
theorem dX11_most_5 : decode cX11_most 5 = .ok (.iconst 1, 1) := by decide +kernel
theorem dX11_most_6 : decode cX11_most 6 = .ok (.if_icmp .eq 5, 3) := by decide +kernel
theorem dX11_most_9 : decode cX11_most 9 = .ok (.iconst (-1), 1) := by decide +kernel
theorem dX11_most_10 : decode cX11_most 10 = .ok (.ireturn, 1) := by decide +kernel
theorem dX11_most_11 : decode cX11_most 11 = .ok (.aload_n 0, 1) := by decide +kernel
theorem dX11_most_12 : decode cX11_most 12 = .ok (.getfield 10, 3) := by decide +kernel
theorem dX11_most_15 : decode cX11_most 15 = .ok (.iload_n 1, 1) := by decide +kernel
theorem dX11_most_16 : decode cX11_most 16 = .ok (.ifCond .ne 7, 3) := by decide +kernel
theorem dX11_most_19 : decode cX11_most 19 = .ok (.iconst (-1), 1) := by decide +kernel
theorem dX11_most_20 : decode cX11_most 20 = .ok (.goto 4, 3) := by decide +kernel
theorem dX11_most_23 : decode cX11_most 23 = .ok (.iconst 1, 1) := by decide +kernel
theorem dX11_most_24 : decode cX11_most 24 = .ok (.invokevirtual 266, 3) := by decide +kernel
theorem dX11_most_27 : decode cX11_most 27 = .ok (.ireturn, 1) := by decide +kernel
theorem cw_X11_most_266 : CwV mi_X11_most mi_X8_outermost yX8_outermost RX8 266 1 := ⟨⟨w_1152, w_1153, w_1154, w_96, w_1155⟩, ⟨by decide, by decide⟩, by decide +kernel, by decide, by decide⟩
theorem j_X11_most_B24 {l : Launch} {Γ : Am}   : ∀ (t0 : Int32) (b1 : Nat) (z : Hp), J l Γ mi_X11_most cvI 0 0 24 [] [.int t0, .ref (mB Γ + b1)] z (m_X11_most_B24  t0 b1 z) := by
  intro t0 b1 z
  unfold m_X11_most_B24
  refine j_isC (fun h3 => ?_)
  refine j_callV_I (pc := 24) (as := [.int t0]) (mc2 := 0) (ms2 := 0) (ct_X8_outermost _ _ _) h3 rfl cw_X11_most_266 dX11_most_24 (Nat.le_of_ble_eq_true rfl) rfl (by decide) (by decide) (fun x2 z1 => ?_)
  exact j_ireturn (pc := 27) dX11_most_27 rfl rfl
theorem j_X11_most_B11 {l : Launch} {Γ : Am}   : ∀ (r0 : Nat) (v1 : Int32) (z : Hp), J l Γ mi_X11_most cvI 0 0 11 [(0, .ref (mB Γ + r0)), (1, .int v1)] [] z (m_X11_most_B11  r0 v1 z) := by
  intro r0 v1 z
  unfold m_X11_most_B11
  refine j_aload_n (pc := 11) 0 dX11_most_11 rfl rfl ?_
  refine j_getR (pc := 12) ok_X11 (by decide) rfl w_529 dX11_most_12 (fun a4 => ?_)
  refine j_iload_n (pc := 15) 1 dX11_most_15 rfl rfl ?_
  refine j_if_ne (pc := 16) 23 dX11_most_16 (by decide) ?_ ?_
  · refine j_iconst (pc := 23) (v := 1) dX11_most_23 (by decide) ?_
    exact J.sub [] rfl (j_X11_most_B24 1 a4 z)
  refine j_iconst (pc := 19) (v := (-1)) dX11_most_19 (by decide) ?_
  refine j_goto (pc := 20) 24 dX11_most_20 (by decide) ?_
  exact J.sub [] rfl (j_X11_most_B24 (-1) a4 z)
theorem ct_X11_most {l : Launch} {Γ : Am} (r0 : Nat) (v1 : Int32) (z : Hp) : Ct l Γ yX11_most mi_X11_most cvI [.ref (mB Γ + r0), .int v1] z (m_X11_most r0 v1 z) := by
  refine Ct.ofJ (by decide) ⟨rfl, rfl⟩ (Nat.le_of_ble_eq_true rfl) ?_
  unfold m_X11_most
  show J l Γ mi_X11_most cvI 0 0 0 [(0, .ref (mB Γ + r0)), (1, .int v1)] [] z _
  refine j_iload_n (pc := 0) 1 dX11_most_0 rfl rfl ?_
  refine j_if_eq (pc := 1) 11 dX11_most_1 (by decide) ?_ ?_
  · exact J.sub [0, 1] rfl (j_X11_most_B11 r0 v1 z)
  refine j_iload_n (pc := 4) 1 dX11_most_4 rfl rfl ?_
  refine j_iconst (pc := 5) (v := 1) dX11_most_5 (by decide) ?_
  refine j_icmp_eq (pc := 6) 11 dX11_most_6 (by decide) ?_ ?_
  · exact J.sub [0, 1] rfl (j_X11_most_B11 r0 v1 z)
  refine j_iconst (pc := 9) (v := (-1)) dX11_most_9 (by decide) ?_
  exact j_ireturn (pc := 10) dX11_most_10 rfl rfl
theorem dX11_frost_0 : decode cX11_frost 0 = .ok (.iload_n 1, 1) := by decide +kernel
theorem dX11_frost_1 : decode cX11_frost 1 = .ok (.ifCond .lt 20, 3) := by decide +kernel
theorem dX11_frost_4 : decode cX11_frost 4 = .ok (.iload_n 1, 1) := by decide +kernel
theorem dX11_frost_5 : decode cX11_frost 5 = .ok (.bipush 12, 2) := by decide +kernel
theorem dX11_frost_7 : decode cX11_frost 7 = .ok (.if_icmp .ge 14, 3) := by decide +kernel
theorem dX11_frost_10 : decode cX11_frost 10 = .ok (.aload_n 0, 1) := by decide +kernel
theorem dX11_frost_11 : decode cX11_frost 11 = .ok (.getfield 10, 3) := by decide +kernel
theorem dX11_frost_14 : decode cX11_frost 14 = .ok (.iload_n 1, 1) := by decide +kernel
theorem dX11_frost_15 : decode cX11_frost 15 = .ok (.invokevirtual 269, 3) := by decide +kernel
theorem dX11_frost_18 : decode cX11_frost 18 = .ok (.goto 4, 3) := by decide +kernel
theorem dX11_frost_21 : decode cX11_frost 21 = .ok (.iconst (-1), 1) := by decide +kernel
theorem dX11_frost_22 : decode cX11_frost 22 = .ok (.ireturn, 1) := by decide +kernel
theorem cw_X11_frost_269 : CwV mi_X11_frost mi_X8_frozenBits yX8_frozenBits RX8 269 1 := ⟨⟨w_1160, w_1161, w_1162, w_96, w_1163⟩, ⟨by decide, by decide⟩, by decide +kernel, by decide, by decide⟩
theorem ct_X11_frost {l : Launch} {Γ : Am} (r0 : Nat) (v1 : Int32) (z : Hp) : Ct l Γ yX11_frost mi_X11_frost cvI [.ref (mB Γ + r0), .int v1] z (m_X11_frost r0 v1 z) := by
  refine Ct.ofJ (by decide) ⟨rfl, rfl⟩ (Nat.le_of_ble_eq_true rfl) ?_
  unfold m_X11_frost
  show J l Γ mi_X11_frost cvI 0 0 0 [(0, .ref (mB Γ + r0)), (1, .int v1)] [] z _
  refine j_iload_n (pc := 0) 1 dX11_frost_0 rfl rfl ?_
  refine j_if_lt (pc := 1) 21 dX11_frost_1 (by decide) ?_ ?_
  · refine j_iconst (pc := 21) (v := (-1)) dX11_frost_21 (by decide) ?_
    exact j_ireturn (pc := 22) dX11_frost_22 rfl rfl
  refine j_iload_n (pc := 4) 1 dX11_frost_4 rfl rfl ?_
  refine j_bipush (pc := 5) (v := 12) dX11_frost_5 (by decide) ?_
  refine j_icmp_ge (pc := 7) 21 dX11_frost_7 (by decide) ?_ ?_
  · refine j_iconst (pc := 21) (v := (-1)) dX11_frost_21 (by decide) ?_
    exact j_ireturn (pc := 22) dX11_frost_22 rfl rfl
  refine j_aload_n (pc := 10) 0 dX11_frost_10 rfl rfl ?_
  refine j_getR (pc := 11) ok_X11 (by decide) rfl w_529 dX11_frost_11 (fun a1 => ?_)
  refine j_iload_n (pc := 14) 1 dX11_frost_14 rfl rfl ?_
  refine j_isC (fun h4 => ?_)
  refine j_callV_I (pc := 15) (as := [.int v1]) (mc2 := 0) (ms2 := 0) (ct_X8_frozenBits _ _ _) h4 rfl cw_X11_frost_269 dX11_frost_15 (Nat.le_of_ble_eq_true rfl) rfl (by decide) (by decide) (fun x3 z2 => ?_)
  refine j_goto (pc := 18) 22 dX11_frost_18 (by decide) ?_
  exact j_ireturn (pc := 22) dX11_frost_22 rfl rfl
theorem dX11_count_0 : decode cX11_count 0 = .ok (.iload_n 1, 1) := by decide +kernel
theorem dX11_count_1 : decode cX11_count 1 = .ok (.tableswitch 183 0 12 #[67, 75, 83, 94, 102, 110, 121, 129, 140, 148, 156, 164, 175], 67) := by decide +kernel
theorem dX11_count_68 : decode cX11_count 68 = .ok (.aload_n 0, 1) := by decide +kernel
theorem dX11_count_69 : decode cX11_count 69 = .ok (.getfield 10, 3) := by decide +kernel
theorem dX11_count_72 : decode cX11_count 72 = .ok (.getfield 100, 3) := by decide +kernel
theorem dX11_count_75 : decode cX11_count 75 = .ok (.ireturn, 1) := by decide +kernel
theorem dX11_count_76 : decode cX11_count 76 = .ok (.aload_n 0, 1) := by decide +kernel
theorem dX11_count_77 : decode cX11_count 77 = .ok (.getfield 10, 3) := by decide +kernel
theorem dX11_count_80 : decode cX11_count 80 = .ok (.getfield 103, 3) := by decide +kernel
theorem dX11_count_83 : decode cX11_count 83 = .ok (.ireturn, 1) := by decide +kernel
theorem dX11_count_84 : decode cX11_count 84 = .ok (.aload_n 0, 1) := by decide +kernel
theorem dX11_count_85 : decode cX11_count 85 = .ok (.getfield 10, 3) := by decide +kernel
theorem dX11_count_88 : decode cX11_count 88 = .ok (.getfield 139, 3) := by decide +kernel
theorem dX11_count_91 : decode cX11_count 91 = .ok (.getfield 158, 3) := by decide +kernel
theorem dX11_count_94 : decode cX11_count 94 = .ok (.ireturn, 1) := by decide +kernel
theorem dX11_count_95 : decode cX11_count 95 = .ok (.aload_n 0, 1) := by decide +kernel
theorem dX11_count_96 : decode cX11_count 96 = .ok (.getfield 10, 3) := by decide +kernel
theorem dX11_count_99 : decode cX11_count 99 = .ok (.invokevirtual 272, 3) := by decide +kernel
theorem dX11_count_102 : decode cX11_count 102 = .ok (.ireturn, 1) := by decide +kernel
theorem dX11_count_103 : decode cX11_count 103 = .ok (.aload_n 0, 1) := by decide +kernel
theorem dX11_count_104 : decode cX11_count 104 = .ok (.getfield 10, 3) := by decide +kernel
theorem dX11_count_107 : decode cX11_count 107 = .ok (.getfield 212, 3) := by decide +kernel
theorem dX11_count_110 : decode cX11_count 110 = .ok (.ireturn, 1) := by decide +kernel
theorem dX11_count_111 : decode cX11_count 111 = .ok (.aload_n 0, 1) := by decide +kernel
theorem dX11_count_112 : decode cX11_count 112 = .ok (.getfield 10, 3) := by decide +kernel
theorem dX11_count_115 : decode cX11_count 115 = .ok (.getfield 196, 3) := by decide +kernel
theorem dX11_count_118 : decode cX11_count 118 = .ok (.getfield 200, 3) := by decide +kernel
theorem dX11_count_121 : decode cX11_count 121 = .ok (.ireturn, 1) := by decide +kernel
theorem dX11_count_122 : decode cX11_count 122 = .ok (.aload_n 0, 1) := by decide +kernel
theorem dX11_count_123 : decode cX11_count 123 = .ok (.getfield 26, 3) := by decide +kernel
theorem dX11_count_126 : decode cX11_count 126 = .ok (.getfield 83, 3) := by decide +kernel
theorem dX11_count_129 : decode cX11_count 129 = .ok (.ireturn, 1) := by decide +kernel
theorem dX11_count_130 : decode cX11_count 130 = .ok (.aload_n 0, 1) := by decide +kernel
theorem dX11_count_131 : decode cX11_count 131 = .ok (.getfield 10, 3) := by decide +kernel
theorem dX11_count_134 : decode cX11_count 134 = .ok (.getfield 218, 3) := by decide +kernel
theorem dX11_count_137 : decode cX11_count 137 = .ok (.getfield 275, 3) := by decide +kernel
theorem dX11_count_140 : decode cX11_count 140 = .ok (.ireturn, 1) := by decide +kernel
theorem dX11_count_141 : decode cX11_count 141 = .ok (.aload_n 0, 1) := by decide +kernel
theorem dX11_count_142 : decode cX11_count 142 = .ok (.getfield 10, 3) := by decide +kernel
theorem dX11_count_145 : decode cX11_count 145 = .ok (.getfield 206, 3) := by decide +kernel
theorem dX11_count_148 : decode cX11_count 148 = .ok (.ireturn, 1) := by decide +kernel
theorem dX11_count_149 : decode cX11_count 149 = .ok (.aload_n 0, 1) := by decide +kernel
theorem dX11_count_150 : decode cX11_count 150 = .ok (.getfield 10, 3) := by decide +kernel
theorem dX11_count_153 : decode cX11_count 153 = .ok (.getfield 169, 3) := by decide +kernel
theorem dX11_count_156 : decode cX11_count 156 = .ok (.ireturn, 1) := by decide +kernel
theorem dX11_count_157 : decode cX11_count 157 = .ok (.aload_n 0, 1) := by decide +kernel
theorem dX11_count_158 : decode cX11_count 158 = .ok (.getfield 56, 3) := by decide +kernel
theorem dX11_count_161 : decode cX11_count 161 = .ok (.invokevirtual 276, 3) := by decide +kernel
theorem dX11_count_164 : decode cX11_count 164 = .ok (.ireturn, 1) := by decide +kernel
theorem dX11_count_165 : decode cX11_count 165 = .ok (.aload_n 0, 1) := by decide +kernel
theorem dX11_count_166 : decode cX11_count 166 = .ok (.getfield 10, 3) := by decide +kernel
theorem dX11_count_169 : decode cX11_count 169 = .ok (.getfield 120, 3) := by decide +kernel
theorem dX11_count_172 : decode cX11_count 172 = .ok (.getfield 279, 3) := by decide +kernel
theorem dX11_count_175 : decode cX11_count 175 = .ok (.ireturn, 1) := by decide +kernel
theorem dX11_count_176 : decode cX11_count 176 = .ok (.aload_n 0, 1) := by decide +kernel
theorem dX11_count_177 : decode cX11_count 177 = .ok (.getfield 10, 3) := by decide +kernel
theorem dX11_count_180 : decode cX11_count 180 = .ok (.getfield 282, 3) := by decide +kernel
theorem dX11_count_183 : decode cX11_count 183 = .ok (.ireturn, 1) := by decide +kernel
theorem dX11_count_184 : decode cX11_count 184 = .ok (.iconst (-1), 1) := by decide +kernel
theorem dX11_count_185 : decode cX11_count 185 = .ok (.ireturn, 1) := by decide +kernel
theorem cw_X11_count_272 : CwV mi_X11_count mi_X8_frozenCells yX8_frozenCells RX8 272 0 := ⟨⟨w_1168, w_1169, w_1170, w_96, w_1171⟩, ⟨by decide, by decide⟩, by decide +kernel, by decide, by decide⟩
theorem cw_X11_count_276 : CwV mi_X11_count mi_X6_rows yX6_rows RX6 276 0 := ⟨⟨w_1174, w_1175, w_1176, w_106, w_1177⟩, ⟨by decide, by decide⟩, by decide +kernel, by decide, by decide⟩
theorem ct_X11_count {l : Launch} {Γ : Am} (r0 : Nat) (v1 : Int32) (z : Hp) : Ct l Γ yX11_count mi_X11_count cvI [.ref (mB Γ + r0), .int v1] z (m_X11_count r0 v1 z) := by
  refine Ct.ofJ (by decide) ⟨rfl, rfl⟩ (Nat.le_of_ble_eq_true rfl) ?_
  unfold m_X11_count
  show J l Γ mi_X11_count cvI 0 0 0 [(0, .ref (mB Γ + r0)), (1, .int v1)] [] z _
  refine j_iload_n (pc := 0) 1 dX11_count_0 rfl rfl ?_
  refine j_ite (fun h3 => ?_) (fun h3 => ?_)
  · refine j_case (pc := 1) 68 dX11_count_1 h3 (by decide) rfl (by decide) ?_
    refine j_aload_n (pc := 68) 0 dX11_count_68 rfl rfl ?_
    refine j_getR (pc := 69) ok_X11 (by decide) rfl w_529 dX11_count_69 (fun a1 => ?_)
    refine j_getI (pc := 72) ok_X8 (by decide) rfl w_332 dX11_count_72 (fun x2 => ?_)
    exact j_ireturn (pc := 75) dX11_count_75 rfl rfl
  refine j_ite (fun h6 => ?_) (fun h6 => ?_)
  · refine j_case (pc := 1) 76 dX11_count_1 h6 (by decide) rfl (by decide) ?_
    refine j_aload_n (pc := 76) 0 dX11_count_76 rfl rfl ?_
    refine j_getR (pc := 77) ok_X11 (by decide) rfl w_529 dX11_count_77 (fun a4 => ?_)
    refine j_getI (pc := 80) ok_X8 (by decide) rfl w_335 dX11_count_80 (fun x5 => ?_)
    exact j_ireturn (pc := 83) dX11_count_83 rfl rfl
  refine j_ite (fun h10 => ?_) (fun h10 => ?_)
  · refine j_case (pc := 1) 84 dX11_count_1 h10 (by decide) rfl (by decide) ?_
    refine j_aload_n (pc := 84) 0 dX11_count_84 rfl rfl ?_
    refine j_getR (pc := 85) ok_X11 (by decide) rfl w_529 dX11_count_85 (fun a7 => ?_)
    refine j_getR (pc := 88) ok_X8 (by decide) rfl w_295 dX11_count_88 (fun a8 => ?_)
    refine j_getI (pc := 91) ok_X3 (by decide) rfl w_203 dX11_count_91 (fun x9 => ?_)
    exact j_ireturn (pc := 94) dX11_count_94 rfl rfl
  refine j_ite (fun h15 => ?_) (fun h15 => ?_)
  · refine j_case (pc := 1) 95 dX11_count_1 h15 (by decide) rfl (by decide) ?_
    refine j_aload_n (pc := 95) 0 dX11_count_95 rfl rfl ?_
    refine j_getR (pc := 96) ok_X11 (by decide) rfl w_529 dX11_count_96 (fun a11 => ?_)
    refine j_isC (fun h14 => ?_)
    refine j_callV_I (pc := 99) (as := []) (mc2 := 0) (ms2 := 0) (ct_X8_frozenCells _ _) h14 rfl cw_X11_count_272 dX11_count_99 (Nat.le_of_ble_eq_true rfl) rfl (by decide) (by decide) (fun x13 z12 => ?_)
    exact j_ireturn (pc := 102) dX11_count_102 rfl rfl
  refine j_ite (fun h18 => ?_) (fun h18 => ?_)
  · refine j_case (pc := 1) 103 dX11_count_1 h18 (by decide) rfl (by decide) ?_
    refine j_aload_n (pc := 103) 0 dX11_count_103 rfl rfl ?_
    refine j_getR (pc := 104) ok_X11 (by decide) rfl w_529 dX11_count_104 (fun a16 => ?_)
    refine j_getI (pc := 107) ok_X8 (by decide) rfl w_325 dX11_count_107 (fun x17 => ?_)
    exact j_ireturn (pc := 110) dX11_count_110 rfl rfl
  refine j_ite (fun h22 => ?_) (fun h22 => ?_)
  · refine j_case (pc := 1) 111 dX11_count_1 h22 (by decide) rfl (by decide) ?_
    refine j_aload_n (pc := 111) 0 dX11_count_111 rfl rfl ?_
    refine j_getR (pc := 112) ok_X11 (by decide) rfl w_529 dX11_count_112 (fun a19 => ?_)
    refine j_getR (pc := 115) ok_X8 (by decide) rfl w_302 dX11_count_115 (fun a20 => ?_)
    refine j_getI (pc := 118) ok_X5 (by decide) rfl w_259 dX11_count_118 (fun x21 => ?_)
    exact j_ireturn (pc := 121) dX11_count_121 rfl rfl
  refine j_ite (fun h25 => ?_) (fun h25 => ?_)
  · refine j_case (pc := 1) 122 dX11_count_1 h25 (by decide) rfl (by decide) ?_
    refine j_aload_n (pc := 122) 0 dX11_count_122 rfl rfl ?_
    refine j_getR (pc := 123) ok_X11 (by decide) rfl w_532 dX11_count_123 (fun a23 => ?_)
    refine j_getI (pc := 126) ok_X4 (by decide) rfl w_384 dX11_count_126 (fun x24 => ?_)
    exact j_ireturn (pc := 129) dX11_count_129 rfl rfl
  refine j_ite (fun h29 => ?_) (fun h29 => ?_)
  · refine j_case (pc := 1) 130 dX11_count_1 h29 (by decide) rfl (by decide) ?_
    refine j_aload_n (pc := 130) 0 dX11_count_130 rfl rfl ?_
    refine j_getR (pc := 131) ok_X11 (by decide) rfl w_529 dX11_count_131 (fun a26 => ?_)
    refine j_getR (pc := 134) ok_X8 (by decide) rfl w_299 dX11_count_134 (fun a27 => ?_)
    refine j_getI (pc := 137) ok_X1 (by decide) rfl w_234 dX11_count_137 (fun x28 => ?_)
    exact j_ireturn (pc := 140) dX11_count_140 rfl rfl
  refine j_ite (fun h32 => ?_) (fun h32 => ?_)
  · refine j_case (pc := 1) 141 dX11_count_1 h32 (by decide) rfl (by decide) ?_
    refine j_aload_n (pc := 141) 0 dX11_count_141 rfl rfl ?_
    refine j_getR (pc := 142) ok_X11 (by decide) rfl w_529 dX11_count_142 (fun a30 => ?_)
    refine j_getI (pc := 145) ok_X8 (by decide) rfl w_337 dX11_count_145 (fun x31 => ?_)
    exact j_ireturn (pc := 148) dX11_count_148 rfl rfl
  refine j_ite (fun h35 => ?_) (fun h35 => ?_)
  · refine j_case (pc := 1) 149 dX11_count_1 h35 (by decide) rfl (by decide) ?_
    refine j_aload_n (pc := 149) 0 dX11_count_149 rfl rfl ?_
    refine j_getR (pc := 150) ok_X11 (by decide) rfl w_529 dX11_count_150 (fun a33 => ?_)
    refine j_getI (pc := 153) ok_X8 (by decide) rfl w_329 dX11_count_153 (fun x34 => ?_)
    exact j_ireturn (pc := 156) dX11_count_156 rfl rfl
  refine j_ite (fun h40 => ?_) (fun h40 => ?_)
  · refine j_case (pc := 1) 157 dX11_count_1 h40 (by decide) rfl (by decide) ?_
    refine j_aload_n (pc := 157) 0 dX11_count_157 rfl rfl ?_
    refine j_getR (pc := 158) ok_X11 (by decide) rfl w_536 dX11_count_158 (fun a36 => ?_)
    refine j_isC (fun h39 => ?_)
    refine j_callV_I (pc := 161) (as := []) (mc2 := 0) (ms2 := 0) (ct_X6_rows _ _) h39 rfl cw_X11_count_276 dX11_count_161 (Nat.le_of_ble_eq_true rfl) rfl (by decide) (by decide) (fun x38 z37 => ?_)
    exact j_ireturn (pc := 164) dX11_count_164 rfl rfl
  refine j_ite (fun h44 => ?_) (fun h44 => ?_)
  · refine j_case (pc := 1) 165 dX11_count_1 h44 (by decide) rfl (by decide) ?_
    refine j_aload_n (pc := 165) 0 dX11_count_165 rfl rfl ?_
    refine j_getR (pc := 166) ok_X11 (by decide) rfl w_529 dX11_count_166 (fun a41 => ?_)
    refine j_getR (pc := 169) ok_X8 (by decide) rfl w_292 dX11_count_169 (fun a42 => ?_)
    refine j_getI (pc := 172) ok_X7 (by decide) rfl w_161 dX11_count_172 (fun x43 => ?_)
    exact j_ireturn (pc := 175) dX11_count_175 rfl rfl
  refine j_ite (fun h47 => ?_) (fun h47 => ?_)
  · refine j_case (pc := 1) 176 dX11_count_1 h47 (by decide) rfl (by decide) ?_
    refine j_aload_n (pc := 176) 0 dX11_count_176 rfl rfl ?_
    refine j_getR (pc := 177) ok_X11 (by decide) rfl w_529 dX11_count_177 (fun a45 => ?_)
    refine j_getI (pc := 180) ok_X8 (by decide) rfl w_339 dX11_count_180 (fun x46 => ?_)
    exact j_ireturn (pc := 183) dX11_count_183 rfl rfl
  refine j_dflt (pc := 1) 184 dX11_count_1 (sw_out 13 (by decide) (fun k hk => ?_)) (by decide) ?_
  · match k, hk with
    | 0, _ => exact h3
    | 1, _ => exact h6
    | 2, _ => exact h10
    | 3, _ => exact h15
    | 4, _ => exact h18
    | 5, _ => exact h22
    | 6, _ => exact h25
    | 7, _ => exact h29
    | 8, _ => exact h32
    | 9, _ => exact h35
    | 10, _ => exact h40
    | 11, _ => exact h44
    | 12, _ => exact h47
    | k + 13, hk => exact absurd hk (by omega)
  refine j_iconst (pc := 184) (v := (-1)) dX11_count_184 (by decide) ?_
  exact j_ireturn (pc := 185) dX11_count_185 rfl rfl
