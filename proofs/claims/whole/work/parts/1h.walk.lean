theorem dX11_keep_0 : decode cX11_keep 0 = .ok (.iload_n 1, 1) := by decide +kernel
theorem dX11_keep_1 : decode cX11_keep 1 = .ok (.ifCond .lt 8, 3) := by decide +kernel
theorem dX11_keep_4 : decode cX11_keep 4 = .ok (.iload_n 1, 1) := by decide +kernel
theorem dX11_keep_5 : decode cX11_keep 5 = .ok (.iconst 3, 1) := by decide +kernel
theorem dX11_keep_6 : decode cX11_keep 6 = .ok (.if_icmp .lt 6, 3) := by decide +kernel
theorem dX11_keep_9 : decode cX11_keep 9 = .ok (.bipush (-2), 2) := by decide +kernel
theorem dX11_keep_11 : decode cX11_keep 11 = .ok (.ireturn, 1) := by decide +kernel
theorem dX11_keep_12 : decode cX11_keep 12 = .ok (.aload_n 0, 1) := by decide +kernel
theorem dX11_keep_13 : decode cX11_keep 13 = .ok (.getfield 19, 3) := by decide +kernel
theorem dX11_keep_16 : decode cX11_keep 16 = .ok (.iload_n 1, 1) := by decide +kernel
theorem dX11_keep_17 : decode cX11_keep 17 = .ok (.aaload, 1) := by decide +kernel
theorem dX11_keep_18 : decode cX11_keep 18 = .ok (.ifnonnull 16, 3) := by decide +kernel
theorem dX11_keep_21 : decode cX11_keep 21 = .ok (.aload_n 0, 1) := by decide +kernel
theorem dX11_keep_22 : decode cX11_keep 22 = .ok (.getfield 19, 3) := by decide +kernel
theorem dX11_keep_25 : decode cX11_keep 25 = .ok (.iload_n 1, 1) := by decide +kernel
theorem dX11_keep_26 : decode cX11_keep 26 = .ok (.new 7, 3) := by decide +kernel
theorem dX11_keep_29 : decode cX11_keep 29 = .ok (.dup, 1) := by decide +kernel
theorem dX11_keep_30 : decode cX11_keep 30 = .ok (.invokespecial 9, 3) := by decide +kernel
theorem dX11_keep_33 : decode cX11_keep 33 = .ok (.aastore, 1) := by decide +kernel
theorem dX11_keep_34 : decode cX11_keep 34 = .ok (.aload_n 0, 1) := by decide +kernel
theorem dX11_keep_35 : decode cX11_keep 35 = .ok (.getfield 19, 3) := by decide +kernel
theorem dX11_keep_38 : decode cX11_keep 38 = .ok (.iload_n 1, 1) := by decide +kernel
theorem dX11_keep_39 : decode cX11_keep 39 = .ok (.aaload, 1) := by decide +kernel
theorem dX11_keep_40 : decode cX11_keep 40 = .ok (.aload_n 0, 1) := by decide +kernel
theorem dX11_keep_41 : decode cX11_keep 41 = .ok (.getfield 10, 3) := by decide +kernel
theorem dX11_keep_44 : decode cX11_keep 44 = .ok (.invokevirtual 228, 3) := by decide +kernel
theorem dX11_keep_47 : decode cX11_keep 47 = .ok (.iconst 0, 1) := by decide +kernel
theorem dX11_keep_48 : decode cX11_keep 48 = .ok (.ireturn, 1) := by decide +kernel
theorem cw_X11_keep_228 : CwV mi_X11_keep mi_X8_copyFrom yX8_copyFrom RX8 228 1 := ⟨⟨w_1052, w_1053, w_1054, w_96, w_1055⟩, ⟨by decide, by decide⟩, by decide +kernel, by decide, by decide⟩
theorem cw_X11_keep_9 : CwIN mi_X11_keep mi_X8_init yX8_init 9 0 "FrostRing" := ⟨⟨by decide +kernel, w_127, w_96, w_128, rfl, rfl⟩, ⟨by decide, by decide⟩, by decide +kernel, by decide, by decide⟩
theorem j_X11_keep_B34 {l : Launch} {Γ : Am}   : ∀ (r0 : Nat) (v1 : Int32) (z : Hp), J l Γ mi_X11_keep cvI 0 0 34 [(0, .ref (mB Γ + r0)), (1, .int v1)] [] z (m_X11_keep_B34  r0 v1 z) := by
  intro r0 v1 z
  unfold m_X11_keep_B34
  refine j_aload_n (pc := 34) 0 dX11_keep_34 rfl rfl ?_
  refine j_getR (pc := 35) ok_X11 (by decide) rfl w_531 dX11_keep_35 (fun a1 => ?_)
  refine j_iload_n (pc := 38) 1 dX11_keep_38 rfl rfl ?_
  refine j_aaloadR5 (pc := 39) dX11_keep_39 (fun a2 => ?_)
  refine j_aload_n (pc := 40) 0 dX11_keep_40 rfl rfl ?_
  refine j_getR (pc := 41) ok_X11 (by decide) rfl w_529 dX11_keep_41 (fun a3 => ?_)
  refine j_isC (fun h5 => ?_)
  refine j_callV_V (pc := 44) (as := [.ref (mB Γ + a3)]) (mc2 := 0) (ms2 := 0) (ct_X8_copyFrom _ _ _) h5 rfl cw_X11_keep_228 dX11_keep_44 (Nat.le_of_ble_eq_true rfl) rfl (by decide) (by decide) (fun _ z4 => ?_)
  refine j_iconst (pc := 47) (v := 0) dX11_keep_47 (by decide) ?_
  exact j_ireturn (pc := 48) dX11_keep_48 rfl rfl
theorem ct_X11_keep {l : Launch} {Γ : Am} (r0 : Nat) (v1 : Int32) (z : Hp) : Ct l Γ yX11_keep mi_X11_keep cvI [.ref (mB Γ + r0), .int v1] z (m_X11_keep r0 v1 z) := by
  refine Ct.ofJ (by decide) ⟨rfl, rfl⟩ (Nat.le_of_ble_eq_true rfl) ?_
  unfold m_X11_keep
  show J l Γ mi_X11_keep cvI 32 982 0 [(0, .ref (mB Γ + r0)), (1, .int v1)] [] z _
  refine j_iload_n (pc := 0) 1 dX11_keep_0 rfl rfl ?_
  refine j_if_lt (pc := 1) 9 dX11_keep_1 (by decide) ?_ ?_
  · refine j_bipush (pc := 9) (v := (-2)) dX11_keep_9 (by decide) ?_
    exact j_ireturn (pc := 11) dX11_keep_11 rfl rfl
  refine j_iload_n (pc := 4) 1 dX11_keep_4 rfl rfl ?_
  refine j_iconst (pc := 5) (v := 3) dX11_keep_5 (by decide) ?_
  refine j_icmp_lt (pc := 6) 12 dX11_keep_6 (by decide) ?_ ?_
  · refine j_aload_n (pc := 12) 0 dX11_keep_12 rfl rfl ?_
    refine j_getR (pc := 13) ok_X11 (by decide) rfl w_531 dX11_keep_13 (fun a6 => ?_)
    refine j_iload_n (pc := 16) 1 dX11_keep_16 rfl rfl ?_
    refine j_aaload5 (pc := 17) dX11_keep_17 (fun o7 => ?_)
    refine j_ifnonnull (pc := 18) 34 dX11_keep_18 (by decide) (fun _ _ => ?_) (fun _ => ?_)
    · exact J.fewer (by decide) (by decide) (J.sub [0, 1] rfl (j_X11_keep_B34 r0 v1 z))
    refine j_aload_n (pc := 21) 0 dX11_keep_21 rfl rfl ?_
    refine j_getR (pc := 22) ok_X11 (by decide) rfl w_531 dX11_keep_22 (fun a9 => ?_)
    refine j_iload_n (pc := 25) 1 dX11_keep_25 rfl rfl ?_
    refine j_new (pc := 26) (mc2 := 31) (ms2 := 965) ok_X8 df_X8 ⟨w_124, w_125, w_96⟩ dX11_keep_26 (by decide) (by decide) (fun a10 z11 => ?_)
    refine j_dup (pc := 29) dX11_keep_29 rfl ?_
    refine j_callIN_V (pc := 30) (as := []) (mc2 := 0) (ms2 := 0) (ct_X8_init _ _) cw_X11_keep_9 dX11_keep_30 (Nat.le_of_ble_eq_true rfl) rfl (by decide) (by decide) (fun _ z12 => ?_)
    refine j_aastore (pc := 33) dX11_keep_33 (fun z13 => ?_)
    exact J.sub [0, 1] rfl (j_X11_keep_B34 r0 v1 z13)
  refine j_bipush (pc := 9) (v := (-2)) dX11_keep_9 (by decide) ?_
  exact j_ireturn (pc := 11) dX11_keep_11 rfl rfl
theorem dX11_back_0 : decode cX11_back 0 = .ok (.iload_n 1, 1) := by decide +kernel
theorem dX11_back_1 : decode cX11_back 1 = .ok (.ifCond .lt 8, 3) := by decide +kernel
theorem dX11_back_4 : decode cX11_back 4 = .ok (.iload_n 1, 1) := by decide +kernel
theorem dX11_back_5 : decode cX11_back 5 = .ok (.iconst 3, 1) := by decide +kernel
theorem dX11_back_6 : decode cX11_back 6 = .ok (.if_icmp .lt 6, 3) := by decide +kernel
theorem dX11_back_9 : decode cX11_back 9 = .ok (.bipush (-2), 2) := by decide +kernel
theorem dX11_back_11 : decode cX11_back 11 = .ok (.ireturn, 1) := by decide +kernel
theorem dX11_back_12 : decode cX11_back 12 = .ok (.aload_n 0, 1) := by decide +kernel
theorem dX11_back_13 : decode cX11_back 13 = .ok (.getfield 19, 3) := by decide +kernel
theorem dX11_back_16 : decode cX11_back 16 = .ok (.iload_n 1, 1) := by decide +kernel
theorem dX11_back_17 : decode cX11_back 17 = .ok (.aaload, 1) := by decide +kernel
theorem dX11_back_18 : decode cX11_back 18 = .ok (.ifnonnull 6, 3) := by decide +kernel
theorem dX11_back_21 : decode cX11_back 21 = .ok (.bipush (-6), 2) := by decide +kernel
theorem dX11_back_23 : decode cX11_back 23 = .ok (.ireturn, 1) := by decide +kernel
theorem dX11_back_24 : decode cX11_back 24 = .ok (.aload_n 0, 1) := by decide +kernel
theorem dX11_back_25 : decode cX11_back 25 = .ok (.getfield 10, 3) := by decide +kernel
theorem dX11_back_28 : decode cX11_back 28 = .ok (.aload_n 0, 1) := by decide +kernel
theorem dX11_back_29 : decode cX11_back 29 = .ok (.getfield 19, 3) := by decide +kernel
theorem dX11_back_32 : decode cX11_back 32 = .ok (.iload_n 1, 1) := by decide +kernel
theorem dX11_back_33 : decode cX11_back 33 = .ok (.aaload, 1) := by decide +kernel
theorem dX11_back_34 : decode cX11_back 34 = .ok (.invokevirtual 228, 3) := by decide +kernel
theorem dX11_back_37 : decode cX11_back 37 = .ok (.iconst 0, 1) := by decide +kernel
theorem dX11_back_38 : decode cX11_back 38 = .ok (.ireturn, 1) := by decide +kernel
theorem cw_X11_back_228 : CwV mi_X11_back mi_X8_copyFrom yX8_copyFrom RX8 228 1 := ⟨⟨w_1052, w_1053, w_1054, w_96, w_1055⟩, ⟨by decide, by decide⟩, by decide +kernel, by decide, by decide⟩
theorem ct_X11_back {l : Launch} {Γ : Am} (r0 : Nat) (v1 : Int32) (z : Hp) : Ct l Γ yX11_back mi_X11_back cvI [.ref (mB Γ + r0), .int v1] z (m_X11_back r0 v1 z) := by
  refine Ct.ofJ (by decide) ⟨rfl, rfl⟩ (Nat.le_of_ble_eq_true rfl) ?_
  unfold m_X11_back
  show J l Γ mi_X11_back cvI 0 0 0 [(0, .ref (mB Γ + r0)), (1, .int v1)] [] z _
  refine j_iload_n (pc := 0) 1 dX11_back_0 rfl rfl ?_
  refine j_if_lt (pc := 1) 9 dX11_back_1 (by decide) ?_ ?_
  · refine j_bipush (pc := 9) (v := (-2)) dX11_back_9 (by decide) ?_
    exact j_ireturn (pc := 11) dX11_back_11 rfl rfl
  refine j_iload_n (pc := 4) 1 dX11_back_4 rfl rfl ?_
  refine j_iconst (pc := 5) (v := 3) dX11_back_5 (by decide) ?_
  refine j_icmp_lt (pc := 6) 12 dX11_back_6 (by decide) ?_ ?_
  · refine j_aload_n (pc := 12) 0 dX11_back_12 rfl rfl ?_
    refine j_getR (pc := 13) ok_X11 (by decide) rfl w_531 dX11_back_13 (fun a1 => ?_)
    refine j_iload_n (pc := 16) 1 dX11_back_16 rfl rfl ?_
    refine j_aaload5 (pc := 17) dX11_back_17 (fun o2 => ?_)
    refine j_ifnonnull (pc := 18) 24 dX11_back_18 (by decide) (fun _ _ => ?_) (fun _ => ?_)
    · refine j_aload_n (pc := 24) 0 dX11_back_24 rfl rfl ?_
      refine j_getR (pc := 25) ok_X11 (by decide) rfl w_529 dX11_back_25 (fun a4 => ?_)
      refine j_aload_n (pc := 28) 0 dX11_back_28 rfl rfl ?_
      refine j_getR (pc := 29) ok_X11 (by decide) rfl w_531 dX11_back_29 (fun a5 => ?_)
      refine j_iload_n (pc := 32) 1 dX11_back_32 rfl rfl ?_
      refine j_aaloadR5 (pc := 33) dX11_back_33 (fun a6 => ?_)
      refine j_isC (fun h8 => ?_)
      refine j_callV_V (pc := 34) (as := [.ref (mB Γ + a6)]) (mc2 := 0) (ms2 := 0) (ct_X8_copyFrom _ _ _) h8 rfl cw_X11_back_228 dX11_back_34 (Nat.le_of_ble_eq_true rfl) rfl (by decide) (by decide) (fun _ z7 => ?_)
      refine j_iconst (pc := 37) (v := 0) dX11_back_37 (by decide) ?_
      exact j_ireturn (pc := 38) dX11_back_38 rfl rfl
    refine j_bipush (pc := 21) (v := (-6)) dX11_back_21 (by decide) ?_
    exact j_ireturn (pc := 23) dX11_back_23 rfl rfl
  refine j_bipush (pc := 9) (v := (-2)) dX11_back_9 (by decide) ?_
  exact j_ireturn (pc := 11) dX11_back_11 rfl rfl
theorem dX11_row_0 : decode cX11_row 0 = .ok (.iload_n 1, 1) := by decide +kernel
theorem dX11_row_1 : decode cX11_row 1 = .ok (.ifCond .lt 23, 3) := by decide +kernel
theorem dX11_row_4 : decode cX11_row 4 = .ok (.iload_n 1, 1) := by decide +kernel
theorem dX11_row_5 : decode cX11_row 5 = .ok (.iconst 4, 1) := by decide +kernel
theorem dX11_row_6 : decode cX11_row 6 = .ok (.if_icmp .ge 18, 3) := by decide +kernel
theorem dX11_row_9 : decode cX11_row 9 = .ok (.iload_n 2, 1) := by decide +kernel
theorem dX11_row_10 : decode cX11_row 10 = .ok (.ifCond .lt 14, 3) := by decide +kernel
theorem dX11_row_13 : decode cX11_row 13 = .ok (.iload_n 2, 1) := by decide +kernel
theorem dX11_row_14 : decode cX11_row 14 = .ok (.iconst 4, 1) := by decide +kernel
theorem dX11_row_15 : decode cX11_row 15 = .ok (.if_icmp .ge 9, 3) := by decide +kernel
theorem dX11_row_18 : decode cX11_row 18 = .ok (.iload_n 3, 1) := by decide +kernel
theorem dX11_row_19 : decode cX11_row 19 = .ok (.bipush 60, 2) := by decide +kernel
theorem dX11_row_21 : decode cX11_row 21 = .ok (.if_icmp .le 6, 3) := by decide +kernel
theorem dX11_row_24 : decode cX11_row 24 = .ok (.bipush (-2), 2) := by decide +kernel
theorem dX11_row_26 : decode cX11_row 26 = .ok (.ireturn, 1) := by decide +kernel
theorem dX11_row_27 : decode cX11_row 27 = .ok (.iload_n 3, 1) := by decide +kernel
theorem dX11_row_28 : decode cX11_row 28 = .ok (.ifCond .ge 6, 3) := by decide +kernel
theorem dX11_row_31 : decode cX11_row 31 = .ok (.bipush (-3), 2) := by decide +kernel
theorem dX11_row_33 : decode cX11_row 33 = .ok (.ireturn, 1) := by decide +kernel
theorem dX11_row_34 : decode cX11_row 34 = .ok (.aload_n 0, 1) := by decide +kernel
theorem dX11_row_35 : decode cX11_row 35 = .ok (.getfield 56, 3) := by decide +kernel
theorem dX11_row_38 : decode cX11_row 38 = .ok (.iload_n 1, 1) := by decide +kernel
theorem dX11_row_39 : decode cX11_row 39 = .ok (.iload_n 2, 1) := by decide +kernel
theorem dX11_row_40 : decode cX11_row 40 = .ok (.iload_n 3, 1) := by decide +kernel
theorem dX11_row_41 : decode cX11_row 41 = .ok (.invokevirtual 285, 3) := by decide +kernel
theorem dX11_row_44 : decode cX11_row 44 = .ok (.iconst 0, 1) := by decide +kernel
theorem dX11_row_45 : decode cX11_row 45 = .ok (.ireturn, 1) := by decide +kernel
theorem cw_X11_row_285 : CwV mi_X11_row mi_X6_lay yX6_lay RX6 285 3 := ⟨⟨w_1191, w_1192, w_1193, w_106, w_1194⟩, ⟨by decide, by decide⟩, by decide +kernel, by decide, by decide⟩
theorem ct_X11_row {l : Launch} {Γ : Am} (r0 : Nat) (v1 : Int32) (v2 : Int32) (v3 : Int32) (z : Hp) : Ct l Γ yX11_row mi_X11_row cvI [.ref (mB Γ + r0), .int v1, .int v2, .int v3] z (m_X11_row r0 v1 v2 v3 z) := by
  refine Ct.ofJ (by decide) ⟨rfl, rfl⟩ (Nat.le_of_ble_eq_true rfl) ?_
  unfold m_X11_row
  show J l Γ mi_X11_row cvI 0 0 0 [(0, .ref (mB Γ + r0)), (1, .int v1), (2, .int v2), (3, .int v3)] [] z _
  refine j_iload_n (pc := 0) 1 dX11_row_0 rfl rfl ?_
  refine j_if_lt (pc := 1) 24 dX11_row_1 (by decide) ?_ ?_
  · refine j_bipush (pc := 24) (v := (-2)) dX11_row_24 (by decide) ?_
    exact j_ireturn (pc := 26) dX11_row_26 rfl rfl
  refine j_iload_n (pc := 4) 1 dX11_row_4 rfl rfl ?_
  refine j_iconst (pc := 5) (v := 4) dX11_row_5 (by decide) ?_
  refine j_icmp_ge (pc := 6) 24 dX11_row_6 (by decide) ?_ ?_
  · refine j_bipush (pc := 24) (v := (-2)) dX11_row_24 (by decide) ?_
    exact j_ireturn (pc := 26) dX11_row_26 rfl rfl
  refine j_iload_n (pc := 9) 2 dX11_row_9 rfl rfl ?_
  refine j_if_lt (pc := 10) 24 dX11_row_10 (by decide) ?_ ?_
  · refine j_bipush (pc := 24) (v := (-2)) dX11_row_24 (by decide) ?_
    exact j_ireturn (pc := 26) dX11_row_26 rfl rfl
  refine j_iload_n (pc := 13) 2 dX11_row_13 rfl rfl ?_
  refine j_iconst (pc := 14) (v := 4) dX11_row_14 (by decide) ?_
  refine j_icmp_ge (pc := 15) 24 dX11_row_15 (by decide) ?_ ?_
  · refine j_bipush (pc := 24) (v := (-2)) dX11_row_24 (by decide) ?_
    exact j_ireturn (pc := 26) dX11_row_26 rfl rfl
  refine j_iload_n (pc := 18) 3 dX11_row_18 rfl rfl ?_
  refine j_bipush (pc := 19) (v := 60) dX11_row_19 (by decide) ?_
  refine j_icmp_le (pc := 21) 27 dX11_row_21 (by decide) ?_ ?_
  · refine j_iload_n (pc := 27) 3 dX11_row_27 rfl rfl ?_
    refine j_if_ge (pc := 28) 34 dX11_row_28 (by decide) ?_ ?_
    · refine j_aload_n (pc := 34) 0 dX11_row_34 rfl rfl ?_
      refine j_getR (pc := 35) ok_X11 (by decide) rfl w_536 dX11_row_35 (fun a1 => ?_)
      refine j_iload_n (pc := 38) 1 dX11_row_38 rfl rfl ?_
      refine j_iload_n (pc := 39) 2 dX11_row_39 rfl rfl ?_
      refine j_iload_n (pc := 40) 3 dX11_row_40 rfl rfl ?_
      refine j_isC (fun h3 => ?_)
      refine j_callV_V (pc := 41) (as := [.int v1, .int v2, .int v3]) (mc2 := 0) (ms2 := 0) (ct_X6_lay _ _ _ _ _) h3 rfl cw_X11_row_285 dX11_row_41 (Nat.le_of_ble_eq_true rfl) rfl (by decide) (by decide) (fun _ z2 => ?_)
      refine j_iconst (pc := 44) (v := 0) dX11_row_44 (by decide) ?_
      exact j_ireturn (pc := 45) dX11_row_45 rfl rfl
    refine j_bipush (pc := 31) (v := (-3)) dX11_row_31 (by decide) ?_
    exact j_ireturn (pc := 33) dX11_row_33 rfl rfl
  refine j_bipush (pc := 24) (v := (-2)) dX11_row_24 (by decide) ?_
  exact j_ireturn (pc := 26) dX11_row_26 rfl rfl
theorem dX11_write_0 : decode cX11_write 0 = .ok (.iload_n 1, 1) := by decide +kernel
theorem dX11_write_1 : decode cX11_write 1 = .ok (.ifCond .lt 8, 3) := by decide +kernel
theorem dX11_write_4 : decode cX11_write 4 = .ok (.iload_n 1, 1) := by decide +kernel
theorem dX11_write_5 : decode cX11_write 5 = .ok (.iconst 4, 1) := by decide +kernel
theorem dX11_write_6 : decode cX11_write 6 = .ok (.if_icmp .lt 6, 3) := by decide +kernel
theorem dX11_write_9 : decode cX11_write 9 = .ok (.bipush (-2), 2) := by decide +kernel
theorem dX11_write_11 : decode cX11_write 11 = .ok (.ireturn, 1) := by decide +kernel
theorem dX11_write_12 : decode cX11_write 12 = .ok (.aload_n 0, 1) := by decide +kernel
theorem dX11_write_13 : decode cX11_write 13 = .ok (.getfield 56, 3) := by decide +kernel
theorem dX11_write_16 : decode cX11_write 16 = .ok (.iload_n 1, 1) := by decide +kernel
theorem dX11_write_17 : decode cX11_write 17 = .ok (.invokevirtual 241, 3) := by decide +kernel
theorem dX11_write_20 : decode cX11_write 20 = .ok (.ifCond .ne 6, 3) := by decide +kernel
theorem dX11_write_23 : decode cX11_write 23 = .ok (.bipush (-6), 2) := by decide +kernel
theorem dX11_write_25 : decode cX11_write 25 = .ok (.ireturn, 1) := by decide +kernel
theorem dX11_write_26 : decode cX11_write 26 = .ok (.iload_n 2, 1) := by decide +kernel
theorem dX11_write_27 : decode cX11_write 27 = .ok (.ifCond .lt 15, 3) := by decide +kernel
theorem dX11_write_30 : decode cX11_write 30 = .ok (.iload_n 2, 1) := by decide +kernel
theorem dX11_write_31 : decode cX11_write 31 = .ok (.aload_n 0, 1) := by decide +kernel
theorem dX11_write_32 : decode cX11_write 32 = .ok (.getfield 56, 3) := by decide +kernel
theorem dX11_write_35 : decode cX11_write 35 = .ok (.iload_n 1, 1) := by decide +kernel
theorem dX11_write_36 : decode cX11_write 36 = .ok (.invokevirtual 238, 3) := by decide +kernel
theorem dX11_write_39 : decode cX11_write 39 = .ok (.if_icmp .lt 6, 3) := by decide +kernel
theorem dX11_write_42 : decode cX11_write 42 = .ok (.bipush (-7), 2) := by decide +kernel
theorem dX11_write_44 : decode cX11_write 44 = .ok (.ireturn, 1) := by decide +kernel
theorem dX11_write_45 : decode cX11_write 45 = .ok (.aload_n 0, 1) := by decide +kernel
theorem dX11_write_46 : decode cX11_write 46 = .ok (.getfield 56, 3) := by decide +kernel
theorem dX11_write_49 : decode cX11_write 49 = .ok (.iload_n 1, 1) := by decide +kernel
theorem dX11_write_50 : decode cX11_write 50 = .ok (.iload_n 2, 1) := by decide +kernel
theorem dX11_write_51 : decode cX11_write 51 = .ok (.lload_n 3, 1) := by decide +kernel
theorem dX11_write_52 : decode cX11_write 52 = .ok (.invokevirtual 289, 3) := by decide +kernel
theorem dX11_write_55 : decode cX11_write 55 = .ok (.iconst 0, 1) := by decide +kernel
theorem dX11_write_56 : decode cX11_write 56 = .ok (.ireturn, 1) := by decide +kernel
theorem cw_X11_write_241 : CwV mi_X11_write mi_X6_hasRow yX6_hasRow RX6 241 1 := ⟨⟨w_1105, w_1106, w_1107, w_106, w_1108⟩, ⟨by decide, by decide⟩, by decide +kernel, by decide, by decide⟩
theorem cw_X11_write_238 : CwV mi_X11_write mi_X6_lengthOf yX6_lengthOf RX6 238 1 := ⟨⟨w_1101, w_1102, w_1103, w_106, w_1104⟩, ⟨by decide, by decide⟩, by decide +kernel, by decide, by decide⟩
theorem cw_X11_write_289 : CwV mi_X11_write mi_X6_put yX6_put RX6 289 3 := ⟨⟨w_1202, w_1203, w_1204, w_106, w_1205⟩, ⟨by decide, by decide⟩, by decide +kernel, by decide, by decide⟩
theorem ct_X11_write {l : Launch} {Γ : Am} (r0 : Nat) (v1 : Int32) (v2 : Int32) (w3 : Int64) (z : Hp) : Ct l Γ yX11_write mi_X11_write cvI [.ref (mB Γ + r0), .int v1, .int v2, .long w3] z (m_X11_write r0 v1 v2 w3 z) := by
  refine Ct.ofJ (by decide) ⟨rfl, rfl⟩ (Nat.le_of_ble_eq_true rfl) ?_
  unfold m_X11_write
  show J l Γ mi_X11_write cvI 0 0 0 [(0, .ref (mB Γ + r0)), (1, .int v1), (2, .int v2), (3, .long w3)] [] z _
  refine j_iload_n (pc := 0) 1 dX11_write_0 rfl rfl ?_
  refine j_if_lt (pc := 1) 9 dX11_write_1 (by decide) ?_ ?_
  · refine j_bipush (pc := 9) (v := (-2)) dX11_write_9 (by decide) ?_
    exact j_ireturn (pc := 11) dX11_write_11 rfl rfl
  refine j_iload_n (pc := 4) 1 dX11_write_4 rfl rfl ?_
  refine j_iconst (pc := 5) (v := 4) dX11_write_5 (by decide) ?_
  refine j_icmp_lt (pc := 6) 12 dX11_write_6 (by decide) ?_ ?_
  · refine j_aload_n (pc := 12) 0 dX11_write_12 rfl rfl ?_
    refine j_getR (pc := 13) ok_X11 (by decide) rfl w_536 dX11_write_13 (fun a1 => ?_)
    refine j_iload_n (pc := 16) 1 dX11_write_16 rfl rfl ?_
    refine j_isC (fun h4 => ?_)
    refine j_callV_I (pc := 17) (as := [.int v1]) (mc2 := 0) (ms2 := 0) (ct_X6_hasRow _ _ _) h4 rfl cw_X11_write_241 dX11_write_17 (Nat.le_of_ble_eq_true rfl) rfl (by decide) (by decide) (fun x3 z2 => ?_)
    refine j_if_ne (pc := 20) 26 dX11_write_20 (by decide) ?_ ?_
    · refine j_iload_n (pc := 26) 2 dX11_write_26 rfl rfl ?_
      refine j_if_lt (pc := 27) 42 dX11_write_27 (by decide) ?_ ?_
      · refine j_bipush (pc := 42) (v := (-7)) dX11_write_42 (by decide) ?_
        exact j_ireturn (pc := 44) dX11_write_44 rfl rfl
      refine j_iload_n (pc := 30) 2 dX11_write_30 rfl rfl ?_
      refine j_aload_n (pc := 31) 0 dX11_write_31 rfl rfl ?_
      refine j_getR (pc := 32) ok_X11 (by decide) rfl w_536 dX11_write_32 (fun a5 => ?_)
      refine j_iload_n (pc := 35) 1 dX11_write_35 rfl rfl ?_
      refine j_isC (fun h8 => ?_)
      refine j_callV_I (pc := 36) (as := [.int v1]) (mc2 := 0) (ms2 := 0) (ct_X6_lengthOf _ _ _) h8 rfl cw_X11_write_238 dX11_write_36 (Nat.le_of_ble_eq_true rfl) rfl (by decide) (by decide) (fun x7 z6 => ?_)
      refine j_icmp_lt (pc := 39) 45 dX11_write_39 (by decide) ?_ ?_
      · refine j_aload_n (pc := 45) 0 dX11_write_45 rfl rfl ?_
        refine j_getR (pc := 46) ok_X11 (by decide) rfl w_536 dX11_write_46 (fun a9 => ?_)
        refine j_iload_n (pc := 49) 1 dX11_write_49 rfl rfl ?_
        refine j_iload_n (pc := 50) 2 dX11_write_50 rfl rfl ?_
        refine j_lload_n (pc := 51) 3 dX11_write_51 rfl rfl ?_
        refine j_isC (fun h11 => ?_)
        refine j_callV_V (pc := 52) (as := [.int v1, .int v2, .long w3]) (mc2 := 0) (ms2 := 0) (ct_X6_put _ _ _ _ _) h11 rfl cw_X11_write_289 dX11_write_52 (Nat.le_of_ble_eq_true rfl) rfl (by decide) (by decide) (fun _ z10 => ?_)
        refine j_iconst (pc := 55) (v := 0) dX11_write_55 (by decide) ?_
        exact j_ireturn (pc := 56) dX11_write_56 rfl rfl
      refine j_bipush (pc := 42) (v := (-7)) dX11_write_42 (by decide) ?_
      exact j_ireturn (pc := 44) dX11_write_44 rfl rfl
    refine j_bipush (pc := 23) (v := (-6)) dX11_write_23 (by decide) ?_
    exact j_ireturn (pc := 25) dX11_write_25 rfl rfl
  refine j_bipush (pc := 9) (v := (-2)) dX11_write_9 (by decide) ?_
  exact j_ireturn (pc := 11) dX11_write_11 rfl rfl
theorem dX11_paste_0 : decode cX11_paste 0 = .ok (.iload_n 1, 1) := by decide +kernel
theorem dX11_paste_1 : decode cX11_paste 1 = .ok (.ifCond .lt 17, 3) := by decide +kernel
theorem dX11_paste_4 : decode cX11_paste 4 = .ok (.iload_n 1, 1) := by decide +kernel
theorem dX11_paste_5 : decode cX11_paste 5 = .ok (.iconst 4, 1) := by decide +kernel
theorem dX11_paste_6 : decode cX11_paste 6 = .ok (.if_icmp .ge 12, 3) := by decide +kernel
theorem dX11_paste_9 : decode cX11_paste 9 = .ok (.iload_n 3, 1) := by decide +kernel
theorem dX11_paste_10 : decode cX11_paste 10 = .ok (.ifCond .lt 8, 3) := by decide +kernel
theorem dX11_paste_13 : decode cX11_paste 13 = .ok (.iload_n 3, 1) := by decide +kernel
theorem dX11_paste_14 : decode cX11_paste 14 = .ok (.iconst 4, 1) := by decide +kernel
theorem dX11_paste_15 : decode cX11_paste 15 = .ok (.if_icmp .lt 6, 3) := by decide +kernel
theorem dX11_paste_18 : decode cX11_paste 18 = .ok (.bipush (-2), 2) := by decide +kernel
theorem dX11_paste_20 : decode cX11_paste 20 = .ok (.ireturn, 1) := by decide +kernel
theorem dX11_paste_21 : decode cX11_paste 21 = .ok (.aload_n 0, 1) := by decide +kernel
theorem dX11_paste_22 : decode cX11_paste 22 = .ok (.getfield 56, 3) := by decide +kernel
theorem dX11_paste_25 : decode cX11_paste 25 = .ok (.iload_n 1, 1) := by decide +kernel
theorem dX11_paste_26 : decode cX11_paste 26 = .ok (.invokevirtual 241, 3) := by decide +kernel
theorem dX11_paste_29 : decode cX11_paste 29 = .ok (.ifCond .eq 14, 3) := by decide +kernel
theorem dX11_paste_32 : decode cX11_paste 32 = .ok (.aload_n 0, 1) := by decide +kernel
theorem dX11_paste_33 : decode cX11_paste 33 = .ok (.getfield 56, 3) := by decide +kernel
theorem dX11_paste_36 : decode cX11_paste 36 = .ok (.iload_n 3, 1) := by decide +kernel
theorem dX11_paste_37 : decode cX11_paste 37 = .ok (.invokevirtual 241, 3) := by decide +kernel
theorem dX11_paste_40 : decode cX11_paste 40 = .ok (.ifCond .ne 6, 3) := by decide +kernel
theorem dX11_paste_43 : decode cX11_paste 43 = .ok (.bipush (-6), 2) := by decide +kernel
theorem dX11_paste_45 : decode cX11_paste 45 = .ok (.ireturn, 1) := by decide +kernel
theorem dX11_paste_46 : decode cX11_paste 46 = .ok (.aload_n 0, 1) := by decide +kernel
theorem dX11_paste_47 : decode cX11_paste 47 = .ok (.getfield 56, 3) := by decide +kernel
theorem dX11_paste_50 : decode cX11_paste 50 = .ok (.getfield 293, 3) := by decide +kernel
theorem dX11_paste_53 : decode cX11_paste 53 = .ok (.iload_n 1, 1) := by decide +kernel
theorem dX11_paste_54 : decode cX11_paste 54 = .ok (.iaload, 1) := by decide +kernel
theorem dX11_paste_55 : decode cX11_paste 55 = .ok (.aload_n 0, 1) := by decide +kernel
theorem dX11_paste_56 : decode cX11_paste 56 = .ok (.getfield 56, 3) := by decide +kernel
theorem dX11_paste_59 : decode cX11_paste 59 = .ok (.getfield 293, 3) := by decide +kernel
theorem dX11_paste_62 : decode cX11_paste 62 = .ok (.iload_n 3, 1) := by decide +kernel
theorem dX11_paste_63 : decode cX11_paste 63 = .ok (.iaload, 1) := by decide +kernel
theorem dX11_paste_64 : decode cX11_paste 64 = .ok (.if_icmp .eq 6, 3) := by decide +kernel
theorem dX11_paste_67 : decode cX11_paste 67 = .ok (.bipush (-8), 2) := by decide +kernel
theorem dX11_paste_69 : decode cX11_paste 69 = .ok (.ireturn, 1) := by decide +kernel
theorem dX11_paste_70 : decode cX11_paste 70 = .ok (.aload_n 0, 1) := by decide +kernel
theorem dX11_paste_71 : decode cX11_paste 71 = .ok (.getfield 56, 3) := by decide +kernel
theorem dX11_paste_74 : decode cX11_paste 74 = .ok (.iload_n 1, 1) := by decide +kernel
theorem dX11_paste_75 : decode cX11_paste 75 = .ok (.iload_n 2, 1) := by decide +kernel
theorem dX11_paste_76 : decode cX11_paste 76 = .ok (.iload 5, 2) := by decide +kernel
theorem dX11_paste_78 : decode cX11_paste 78 = .ok (.invokevirtual 296, 3) := by decide +kernel
theorem dX11_paste_81 : decode cX11_paste 81 = .ok (.ifCond .eq 18, 3) := by decide +kernel
theorem dX11_paste_84 : decode cX11_paste 84 = .ok (.aload_n 0, 1) := by decide +kernel
theorem dX11_paste_85 : decode cX11_paste 85 = .ok (.getfield 56, 3) := by decide +kernel
theorem dX11_paste_88 : decode cX11_paste 88 = .ok (.iload_n 3, 1) := by decide +kernel
theorem dX11_paste_89 : decode cX11_paste 89 = .ok (.iload 4, 2) := by decide +kernel
theorem dX11_paste_91 : decode cX11_paste 91 = .ok (.iload 5, 2) := by decide +kernel
theorem dX11_paste_93 : decode cX11_paste 93 = .ok (.invokevirtual 296, 3) := by decide +kernel
theorem dX11_paste_96 : decode cX11_paste 96 = .ok (.ifCond .ne 6, 3) := by decide +kernel
theorem dX11_paste_99 : decode cX11_paste 99 = .ok (.bipush (-7), 2) := by decide +kernel
theorem dX11_paste_101 : decode cX11_paste 101 = .ok (.ireturn, 1) := by decide +kernel
theorem dX11_paste_102 : decode cX11_paste 102 = .ok (.aload_n 0, 1) := by decide +kernel
theorem dX11_paste_103 : decode cX11_paste 103 = .ok (.getfield 56, 3) := by decide +kernel
theorem dX11_paste_106 : decode cX11_paste 106 = .ok (.getfield 300, 3) := by decide +kernel
theorem dX11_paste_109 : decode cX11_paste 109 = .ok (.iload_n 1, 1) := by decide +kernel
theorem dX11_paste_110 : decode cX11_paste 110 = .ok (.aaload, 1) := by decide +kernel
theorem dX11_paste_111 : decode cX11_paste 111 = .ok (.iload_n 2, 1) := by decide +kernel
theorem dX11_paste_112 : decode cX11_paste 112 = .ok (.aload_n 0, 1) := by decide +kernel
theorem dX11_paste_113 : decode cX11_paste 113 = .ok (.getfield 56, 3) := by decide +kernel
theorem dX11_paste_116 : decode cX11_paste 116 = .ok (.getfield 300, 3) := by decide +kernel
theorem dX11_paste_119 : decode cX11_paste 119 = .ok (.iload_n 3, 1) := by decide +kernel
theorem dX11_paste_120 : decode cX11_paste 120 = .ok (.aaload, 1) := by decide +kernel
theorem dX11_paste_121 : decode cX11_paste 121 = .ok (.iload 4, 2) := by decide +kernel
theorem dX11_paste_123 : decode cX11_paste 123 = .ok (.iload 5, 2) := by decide +kernel
theorem dX11_paste_125 : decode cX11_paste 125 = .ok (.invokestatic 304, 3) := by decide +kernel
theorem dX11_paste_128 : decode cX11_paste 128 = .ok (.iconst 0, 1) := by decide +kernel
theorem dX11_paste_129 : decode cX11_paste 129 = .ok (.ireturn, 1) := by decide +kernel
theorem cw_X11_paste_241 : CwV mi_X11_paste mi_X6_hasRow yX6_hasRow RX6 241 1 := ⟨⟨w_1105, w_1106, w_1107, w_106, w_1108⟩, ⟨by decide, by decide⟩, by decide +kernel, by decide, by decide⟩
theorem cw_X11_paste_296 : CwV mi_X11_paste mi_X6_spans yX6_spans RX6 296 3 := ⟨⟨w_1213, w_1214, w_1215, w_106, w_1216⟩, ⟨by decide, by decide⟩, by decide +kernel, by decide, by decide⟩
theorem ct_X11_paste {l : Launch} {Γ : Am} (r0 : Nat) (v1 : Int32) (v2 : Int32) (v3 : Int32) (v4 : Int32) (v5 : Int32) (z : Hp) : Ct l Γ yX11_paste mi_X11_paste cvI [.ref (mB Γ + r0), .int v1, .int v2, .int v3, .int v4, .int v5] z (m_X11_paste r0 v1 v2 v3 v4 v5 z) := by
  refine Ct.ofJ (by decide) ⟨rfl, rfl⟩ (Nat.le_of_ble_eq_true rfl) ?_
  unfold m_X11_paste
  show J l Γ mi_X11_paste cvI 0 0 0 [(0, .ref (mB Γ + r0)), (1, .int v1), (2, .int v2), (3, .int v3), (4, .int v4), (5, .int v5)] [] z _
  refine j_iload_n (pc := 0) 1 dX11_paste_0 rfl rfl ?_
  refine j_if_lt (pc := 1) 18 dX11_paste_1 (by decide) ?_ ?_
  · refine j_bipush (pc := 18) (v := (-2)) dX11_paste_18 (by decide) ?_
    exact j_ireturn (pc := 20) dX11_paste_20 rfl rfl
  refine j_iload_n (pc := 4) 1 dX11_paste_4 rfl rfl ?_
  refine j_iconst (pc := 5) (v := 4) dX11_paste_5 (by decide) ?_
  refine j_icmp_ge (pc := 6) 18 dX11_paste_6 (by decide) ?_ ?_
  · refine j_bipush (pc := 18) (v := (-2)) dX11_paste_18 (by decide) ?_
    exact j_ireturn (pc := 20) dX11_paste_20 rfl rfl
  refine j_iload_n (pc := 9) 3 dX11_paste_9 rfl rfl ?_
  refine j_if_lt (pc := 10) 18 dX11_paste_10 (by decide) ?_ ?_
  · refine j_bipush (pc := 18) (v := (-2)) dX11_paste_18 (by decide) ?_
    exact j_ireturn (pc := 20) dX11_paste_20 rfl rfl
  refine j_iload_n (pc := 13) 3 dX11_paste_13 rfl rfl ?_
  refine j_iconst (pc := 14) (v := 4) dX11_paste_14 (by decide) ?_
  refine j_icmp_lt (pc := 15) 21 dX11_paste_15 (by decide) ?_ ?_
  · refine j_aload_n (pc := 21) 0 dX11_paste_21 rfl rfl ?_
    refine j_getR (pc := 22) ok_X11 (by decide) rfl w_536 dX11_paste_22 (fun a1 => ?_)
    refine j_iload_n (pc := 25) 1 dX11_paste_25 rfl rfl ?_
    refine j_isC (fun h4 => ?_)
    refine j_callV_I (pc := 26) (as := [.int v1]) (mc2 := 0) (ms2 := 0) (ct_X6_hasRow _ _ _) h4 rfl cw_X11_paste_241 dX11_paste_26 (Nat.le_of_ble_eq_true rfl) rfl (by decide) (by decide) (fun x3 z2 => ?_)
    refine j_if_eq (pc := 29) 43 dX11_paste_29 (by decide) ?_ ?_
    · refine j_bipush (pc := 43) (v := (-6)) dX11_paste_43 (by decide) ?_
      exact j_ireturn (pc := 45) dX11_paste_45 rfl rfl
    refine j_aload_n (pc := 32) 0 dX11_paste_32 rfl rfl ?_
    refine j_getR (pc := 33) ok_X11 (by decide) rfl w_536 dX11_paste_33 (fun a5 => ?_)
    refine j_iload_n (pc := 36) 3 dX11_paste_36 rfl rfl ?_
    refine j_isC (fun h8 => ?_)
    refine j_callV_I (pc := 37) (as := [.int v3]) (mc2 := 0) (ms2 := 0) (ct_X6_hasRow _ _ _) h8 rfl cw_X11_paste_241 dX11_paste_37 (Nat.le_of_ble_eq_true rfl) rfl (by decide) (by decide) (fun x7 z6 => ?_)
    refine j_if_ne (pc := 40) 46 dX11_paste_40 (by decide) ?_ ?_
    · refine j_aload_n (pc := 46) 0 dX11_paste_46 rfl rfl ?_
      refine j_getR (pc := 47) ok_X11 (by decide) rfl w_536 dX11_paste_47 (fun a9 => ?_)
      refine j_getR (pc := 50) ok_X6 (by decide) rfl w_505 dX11_paste_50 (fun a10 => ?_)
      refine j_iload_n (pc := 53) 1 dX11_paste_53 rfl rfl ?_
      refine j_iaload (pc := 54) dX11_paste_54 (fun x11 => ?_)
      refine j_aload_n (pc := 55) 0 dX11_paste_55 rfl rfl ?_
      refine j_getR (pc := 56) ok_X11 (by decide) rfl w_536 dX11_paste_56 (fun a12 => ?_)
      refine j_getR (pc := 59) ok_X6 (by decide) rfl w_505 dX11_paste_59 (fun a13 => ?_)
      refine j_iload_n (pc := 62) 3 dX11_paste_62 rfl rfl ?_
      refine j_iaload (pc := 63) dX11_paste_63 (fun x14 => ?_)
      refine j_icmp_eq (pc := 64) 70 dX11_paste_64 (by decide) ?_ ?_
      · refine j_aload_n (pc := 70) 0 dX11_paste_70 rfl rfl ?_
        refine j_getR (pc := 71) ok_X11 (by decide) rfl w_536 dX11_paste_71 (fun a15 => ?_)
        refine j_iload_n (pc := 74) 1 dX11_paste_74 rfl rfl ?_
        refine j_iload_n (pc := 75) 2 dX11_paste_75 rfl rfl ?_
        refine j_iload (pc := 76) 5 dX11_paste_76 rfl ?_
        refine j_isC (fun h18 => ?_)
        refine j_callV_I (pc := 78) (as := [.int v1, .int v2, .int v5]) (mc2 := 0) (ms2 := 0) (ct_X6_spans _ _ _ _ _) h18 rfl cw_X11_paste_296 dX11_paste_78 (Nat.le_of_ble_eq_true rfl) rfl (by decide) (by decide) (fun x17 z16 => ?_)
        refine j_if_eq (pc := 81) 99 dX11_paste_81 (by decide) ?_ ?_
        · refine j_bipush (pc := 99) (v := (-7)) dX11_paste_99 (by decide) ?_
          exact j_ireturn (pc := 101) dX11_paste_101 rfl rfl
        refine j_aload_n (pc := 84) 0 dX11_paste_84 rfl rfl ?_
        refine j_getR (pc := 85) ok_X11 (by decide) rfl w_536 dX11_paste_85 (fun a19 => ?_)
        refine j_iload_n (pc := 88) 3 dX11_paste_88 rfl rfl ?_
        refine j_iload (pc := 89) 4 dX11_paste_89 rfl ?_
        refine j_iload (pc := 91) 5 dX11_paste_91 rfl ?_
        refine j_isC (fun h22 => ?_)
        refine j_callV_I (pc := 93) (as := [.int v3, .int v4, .int v5]) (mc2 := 0) (ms2 := 0) (ct_X6_spans _ _ _ _ _) h22 rfl cw_X11_paste_296 dX11_paste_93 (Nat.le_of_ble_eq_true rfl) rfl (by decide) (by decide) (fun x21 z20 => ?_)
        refine j_if_ne (pc := 96) 102 dX11_paste_96 (by decide) ?_ ?_
        · refine j_aload_n (pc := 102) 0 dX11_paste_102 rfl rfl ?_
          refine j_getR (pc := 103) ok_X11 (by decide) rfl w_536 dX11_paste_103 (fun a23 => ?_)
          refine j_getR (pc := 106) ok_X6 (by decide) rfl w_503 dX11_paste_106 (fun a24 => ?_)
          refine j_iload_n (pc := 109) 1 dX11_paste_109 rfl rfl ?_
          refine j_aaloadR6 (pc := 110) dX11_paste_110 (fun a25 => ?_)
          refine j_iload_n (pc := 111) 2 dX11_paste_111 rfl rfl ?_
          refine j_aload_n (pc := 112) 0 dX11_paste_112 rfl rfl ?_
          refine j_getR (pc := 113) ok_X11 (by decide) rfl w_536 dX11_paste_113 (fun a26 => ?_)
          refine j_getR (pc := 116) ok_X6 (by decide) rfl w_503 dX11_paste_116 (fun a27 => ?_)
          refine j_iload_n (pc := 119) 3 dX11_paste_119 rfl rfl ?_
          refine j_aaloadR6 (pc := 120) dX11_paste_120 (fun a28 => ?_)
          refine j_iload (pc := 121) 4 dX11_paste_121 rfl ?_
          refine j_iload (pc := 123) 5 dX11_paste_123 rfl ?_
          refine j_arraycopy4 (pc := 125) ⟨w_1217, w_1062, w_1061, w_114⟩ (by decide) (by decide) dX11_paste_125 (fun z29 => ?_)
          refine j_iconst (pc := 128) (v := 0) dX11_paste_128 (by decide) ?_
          exact j_ireturn (pc := 129) dX11_paste_129 rfl rfl
        refine j_bipush (pc := 99) (v := (-7)) dX11_paste_99 (by decide) ?_
        exact j_ireturn (pc := 101) dX11_paste_101 rfl rfl
      refine j_bipush (pc := 67) (v := (-8)) dX11_paste_67 (by decide) ?_
      exact j_ireturn (pc := 69) dX11_paste_69 rfl rfl
    refine j_bipush (pc := 43) (v := (-6)) dX11_paste_43 (by decide) ?_
    exact j_ireturn (pc := 45) dX11_paste_45 rfl rfl
  refine j_bipush (pc := 18) (v := (-2)) dX11_paste_18 (by decide) ?_
  exact j_ireturn (pc := 20) dX11_paste_20 rfl rfl
theorem dX12_in_0 : decode cX12_in 0 = .ok (.lload_n 0, 1) := by decide +kernel
theorem dX12_in_1 : decode cX12_in 1 = .ok (.lload_n 2, 1) := by decide +kernel
theorem dX12_in_2 : decode cX12_in 2 = .ok (.lcmp, 1) := by decide +kernel
theorem dX12_in_3 : decode cX12_in 3 = .ok (.ifCond .lt 14, 3) := by decide +kernel
theorem dX12_in_6 : decode cX12_in 6 = .ok (.lload_n 0, 1) := by decide +kernel
theorem dX12_in_7 : decode cX12_in 7 = .ok (.lload 4, 2) := by decide +kernel
theorem dX12_in_9 : decode cX12_in 9 = .ok (.lcmp, 1) := by decide +kernel
theorem dX12_in_10 : decode cX12_in 10 = .ok (.ifCond .gt 7, 3) := by decide +kernel
theorem dX12_in_13 : decode cX12_in 13 = .ok (.iconst 1, 1) := by decide +kernel
theorem dX12_in_14 : decode cX12_in 14 = .ok (.goto 4, 3) := by decide +kernel
theorem dX12_in_17 : decode cX12_in 17 = .ok (.iconst 0, 1) := by decide +kernel
theorem dX12_in_18 : decode cX12_in 18 = .ok (.ireturn, 1) := by decide +kernel
theorem ct_X12_in {l : Launch} {Γ : Am} (w0 : Int64) (w2 : Int64) (w4 : Int64) (z : Hp) : Ct l Γ yX12_in mi_X12_in cvI [.long w0, .long w2, .long w4] z (m_X12_in w0 w2 w4 z) := by
  refine Ct.ofJ (by decide) ⟨rfl, rfl⟩ (Nat.le_of_ble_eq_true rfl) ?_
  unfold m_X12_in
  show J l Γ mi_X12_in cvI 0 0 0 [(0, .long w0), (2, .long w2), (4, .long w4)] [] z _
  refine j_lload_n (pc := 0) 0 dX12_in_0 rfl rfl ?_
  refine j_lload_n (pc := 1) 1 dX12_in_1 rfl rfl ?_
  refine j_lcmp (pc := 2) dX12_in_2 ?_
  refine j_if_lt (pc := 3) 17 dX12_in_3 (by decide) ?_ ?_
  · refine j_iconst (pc := 17) (v := 0) dX12_in_17 (by decide) ?_
    exact j_ireturn (pc := 18) dX12_in_18 rfl rfl
  refine j_lload_n (pc := 6) 0 dX12_in_6 rfl rfl ?_
  refine j_lload (pc := 7) 2 dX12_in_7 rfl ?_
  refine j_lcmp (pc := 9) dX12_in_9 ?_
  refine j_if_gt (pc := 10) 17 dX12_in_10 (by decide) ?_ ?_
  · refine j_iconst (pc := 17) (v := 0) dX12_in_17 (by decide) ?_
    exact j_ireturn (pc := 18) dX12_in_18 rfl rfl
  refine j_iconst (pc := 13) (v := 1) dX12_in_13 (by decide) ?_
  refine j_goto (pc := 14) 18 dX12_in_14 (by decide) ?_
  exact j_ireturn (pc := 18) dX12_in_18 rfl rfl
theorem dX12_groundAtFirst_0 : decode cX12_groundAtFirst 0 = .ok (.aload_n 0, 1) := by decide +kernel
theorem dX12_groundAtFirst_1 : decode cX12_groundAtFirst 1 = .ok (.iload_n 1, 1) := by decide +kernel
theorem dX12_groundAtFirst_2 : decode cX12_groundAtFirst 2 = .ok (.bipush 10, 2) := by decide +kernel
theorem dX12_groundAtFirst_4 : decode cX12_groundAtFirst 4 = .ok (.iastore, 1) := by decide +kernel
theorem dX12_groundAtFirst_5 : decode cX12_groundAtFirst 5 = .ok (.aload_n 0, 1) := by decide +kernel
theorem dX12_groundAtFirst_6 : decode cX12_groundAtFirst 6 = .ok (.iload_n 1, 1) := by decide +kernel
theorem dX12_groundAtFirst_7 : decode cX12_groundAtFirst 7 = .ok (.iconst 1, 1) := by decide +kernel
theorem dX12_groundAtFirst_8 : decode cX12_groundAtFirst 8 = .ok (.iadd, 1) := by decide +kernel
theorem dX12_groundAtFirst_9 : decode cX12_groundAtFirst 9 = .ok (.bipush 15, 2) := by decide +kernel
theorem dX12_groundAtFirst_11 : decode cX12_groundAtFirst 11 = .ok (.iastore, 1) := by decide +kernel
theorem dX12_groundAtFirst_12 : decode cX12_groundAtFirst 12 = .ok (.aload_n 0, 1) := by decide +kernel
theorem dX12_groundAtFirst_13 : decode cX12_groundAtFirst 13 = .ok (.iload_n 1, 1) := by decide +kernel
theorem dX12_groundAtFirst_14 : decode cX12_groundAtFirst 14 = .ok (.iconst 2, 1) := by decide +kernel
theorem dX12_groundAtFirst_15 : decode cX12_groundAtFirst 15 = .ok (.iadd, 1) := by decide +kernel
theorem dX12_groundAtFirst_16 : decode cX12_groundAtFirst 16 = .ok (.bipush 100, 2) := by decide +kernel
theorem dX12_groundAtFirst_18 : decode cX12_groundAtFirst 18 = .ok (.iastore, 1) := by decide +kernel
theorem dX12_groundAtFirst_19 : decode cX12_groundAtFirst 19 = .ok (.aload_n 0, 1) := by decide +kernel
theorem dX12_groundAtFirst_20 : decode cX12_groundAtFirst 20 = .ok (.iload_n 1, 1) := by decide +kernel
theorem dX12_groundAtFirst_21 : decode cX12_groundAtFirst 21 = .ok (.iconst 3, 1) := by decide +kernel
theorem dX12_groundAtFirst_22 : decode cX12_groundAtFirst 22 = .ok (.iadd, 1) := by decide +kernel
theorem dX12_groundAtFirst_23 : decode cX12_groundAtFirst 23 = .ok (.iconst 0, 1) := by decide +kernel
theorem dX12_groundAtFirst_24 : decode cX12_groundAtFirst 24 = .ok (.iastore, 1) := by decide +kernel
theorem dX12_groundAtFirst_25 : decode cX12_groundAtFirst 25 = .ok (.return_, 1) := by decide +kernel
theorem ct_X12_groundAtFirst {l : Launch} {Γ : Am} (r0 : Nat) (v1 : Int32) (z : Hp) : Ct l Γ yX12_groundAtFirst mi_X12_groundAtFirst cvV [.ref (mB Γ + r0), .int v1] z (m_X12_groundAtFirst r0 v1 z) := by
  refine Ct.ofJ (by decide) ⟨rfl, rfl⟩ (Nat.le_of_ble_eq_true rfl) ?_
  unfold m_X12_groundAtFirst
  show J l Γ mi_X12_groundAtFirst cvV 0 0 0 [(0, .ref (mB Γ + r0)), (1, .int v1)] [] z _
  refine j_aload_n (pc := 0) 0 dX12_groundAtFirst_0 rfl rfl ?_
  refine j_iload_n (pc := 1) 1 dX12_groundAtFirst_1 rfl rfl ?_
  refine j_bipush (pc := 2) (v := 10) dX12_groundAtFirst_2 (by decide) ?_
  refine j_iastore (pc := 4) dX12_groundAtFirst_4 (fun z1 => ?_)
  refine j_aload_n (pc := 5) 0 dX12_groundAtFirst_5 rfl rfl ?_
  refine j_iload_n (pc := 6) 1 dX12_groundAtFirst_6 rfl rfl ?_
  refine j_iconst (pc := 7) (v := 1) dX12_groundAtFirst_7 (by decide) ?_
  refine j_iadd (pc := 8) dX12_groundAtFirst_8 ?_
  refine j_bipush (pc := 9) (v := 15) dX12_groundAtFirst_9 (by decide) ?_
  refine j_iastore (pc := 11) dX12_groundAtFirst_11 (fun z2 => ?_)
  refine j_aload_n (pc := 12) 0 dX12_groundAtFirst_12 rfl rfl ?_
  refine j_iload_n (pc := 13) 1 dX12_groundAtFirst_13 rfl rfl ?_
  refine j_iconst (pc := 14) (v := 2) dX12_groundAtFirst_14 (by decide) ?_
  refine j_iadd (pc := 15) dX12_groundAtFirst_15 ?_
  refine j_bipush (pc := 16) (v := 100) dX12_groundAtFirst_16 (by decide) ?_
  refine j_iastore (pc := 18) dX12_groundAtFirst_18 (fun z3 => ?_)
  refine j_aload_n (pc := 19) 0 dX12_groundAtFirst_19 rfl rfl ?_
  refine j_iload_n (pc := 20) 1 dX12_groundAtFirst_20 rfl rfl ?_
  refine j_iconst (pc := 21) (v := 3) dX12_groundAtFirst_21 (by decide) ?_
  refine j_iadd (pc := 22) dX12_groundAtFirst_22 ?_
  refine j_iconst (pc := 23) (v := 0) dX12_groundAtFirst_23 (by decide) ?_
  refine j_iastore (pc := 24) dX12_groundAtFirst_24 (fun z4 => ?_)
  exact j_return (pc := 25) dX12_groundAtFirst_25 rfl
theorem dX12_plain_0 : decode cX12_plain 0 = .ok (.iconst 0, 1) := by decide +kernel
theorem dX12_plain_1 : decode cX12_plain 1 = .ok (.istore_n 1, 1) := by decide +kernel
theorem dX12_plain_2 : decode cX12_plain 2 = .ok (.iload_n 1, 1) := by decide +kernel
theorem dX12_plain_3 : decode cX12_plain 3 = .ok (.sipush 810, 3) := by decide +kernel
theorem dX12_plain_6 : decode cX12_plain 6 = .ok (.if_icmp .ge 13, 3) := by decide +kernel
theorem dX12_plain_9 : decode cX12_plain 9 = .ok (.aload_n 0, 1) := by decide +kernel
theorem dX12_plain_10 : decode cX12_plain 10 = .ok (.iload_n 1, 1) := by decide +kernel
theorem dX12_plain_11 : decode cX12_plain 11 = .ok (.iconst 0, 1) := by decide +kernel
theorem dX12_plain_12 : decode cX12_plain 12 = .ok (.iastore, 1) := by decide +kernel
theorem dX12_plain_13 : decode cX12_plain 13 = .ok (.iinc 1 1, 3) := by decide +kernel
theorem dX12_plain_16 : decode cX12_plain 16 = .ok (.goto (-14), 3) := by decide +kernel
theorem dX12_plain_19 : decode cX12_plain 19 = .ok (.aload_n 0, 1) := by decide +kernel
theorem dX12_plain_20 : decode cX12_plain 20 = .ok (.iconst 5, 1) := by decide +kernel
theorem dX12_plain_21 : decode cX12_plain 21 = .ok (.bipush 100, 2) := by decide +kernel
theorem dX12_plain_23 : decode cX12_plain 23 = .ok (.iastore, 1) := by decide +kernel
theorem dX12_plain_24 : decode cX12_plain 24 = .ok (.aload_n 0, 1) := by decide +kernel
theorem dX12_plain_25 : decode cX12_plain 25 = .ok (.bipush 6, 2) := by decide +kernel
theorem dX12_plain_27 : decode cX12_plain 27 = .ok (.ldc 93, 2) := by decide +kernel
theorem dX12_plain_29 : decode cX12_plain 29 = .ok (.iastore, 1) := by decide +kernel
theorem dX12_plain_30 : decode cX12_plain 30 = .ok (.iconst 0, 1) := by decide +kernel
theorem dX12_plain_31 : decode cX12_plain 31 = .ok (.istore_n 1, 1) := by decide +kernel
theorem dX12_plain_32 : decode cX12_plain 32 = .ok (.iload_n 1, 1) := by decide +kernel
theorem dX12_plain_33 : decode cX12_plain 33 = .ok (.iconst 4, 1) := by decide +kernel
theorem dX12_plain_34 : decode cX12_plain 34 = .ok (.if_icmp .ge 19, 3) := by decide +kernel
theorem dX12_plain_37 : decode cX12_plain 37 = .ok (.aload_n 0, 1) := by decide +kernel
theorem dX12_plain_38 : decode cX12_plain 38 = .ok (.bipush 20, 2) := by decide +kernel
theorem dX12_plain_40 : decode cX12_plain 40 = .ok (.iconst 4, 1) := by decide +kernel
theorem dX12_plain_41 : decode cX12_plain 41 = .ok (.iload_n 1, 1) := by decide +kernel
theorem dX12_plain_42 : decode cX12_plain 42 = .ok (.imul, 1) := by decide +kernel
theorem dX12_plain_43 : decode cX12_plain 43 = .ok (.iadd, 1) := by decide +kernel
theorem dX12_plain_44 : decode cX12_plain 44 = .ok (.invokestatic 94, 3) := by decide +kernel
theorem dX12_plain_47 : decode cX12_plain 47 = .ok (.iinc 1 1, 3) := by decide +kernel
theorem dX12_plain_50 : decode cX12_plain 50 = .ok (.goto (-18), 3) := by decide +kernel
theorem dX12_plain_53 : decode cX12_plain 53 = .ok (.return_, 1) := by decide +kernel
theorem cw_X12_plain_94 : CwS mi_X12_plain mi_X12_groundAtFirst yX12_groundAtFirst 94 2 := ⟨⟨w_1228, w_1229, w_108, w_1230⟩, ⟨by decide, by decide⟩, by decide +kernel, by decide, by decide⟩
theorem j_X12_plain_L32 {l : Launch} {Γ : Am}   : ∀ (f : Nat), ∀ (r0 : Nat) (v1 : Int32) (z : Hp), J l Γ mi_X12_plain cvV 0 0 32 [(0, .ref (mB Γ + r0)), (1, .int v1)] [] z (m_X12_plain_L32  f r0 v1 z) := by
  intro f
  induction f with
  | zero => intro r0 v1 z; exact J.none
  | succ f hL32 =>
    intro r0 v1 z
    rw [m_X12_plain_L32]
    refine j_iload_n (pc := 32) 1 dX12_plain_32 rfl rfl ?_
    refine j_iconst (pc := 33) (v := 4) dX12_plain_33 (by decide) ?_
    refine j_icmp_ge (pc := 34) 53 dX12_plain_34 (by decide) ?_ ?_
    · exact j_return (pc := 53) dX12_plain_53 rfl
    refine j_aload_n (pc := 37) 0 dX12_plain_37 rfl rfl ?_
    refine j_bipush (pc := 38) (v := 20) dX12_plain_38 (by decide) ?_
    refine j_iconst (pc := 40) (v := 4) dX12_plain_40 (by decide) ?_
    refine j_iload_n (pc := 41) 1 dX12_plain_41 rfl rfl ?_
    refine j_imul (pc := 42) dX12_plain_42 ?_
    refine j_iadd (pc := 43) dX12_plain_43 ?_
    refine j_callS_V (pc := 44) (as := [.ref (mB Γ + r0), .int (20 + (4 * v1))]) (mc2 := 0) (ms2 := 0) (ct_X12_groundAtFirst _ _ _) cw_X12_plain_94 dX12_plain_44 (Nat.le_of_ble_eq_true rfl) rfl (by decide) (by decide) (fun _ z1 => ?_)
    refine j_iinc (pc := 47) (n0 := 1) (v0 := v1 + 1) (lv2 := [(1, .int (v1 + 1)), (0, .ref (mB Γ + r0))]) dX12_plain_47 rfl rfl (by decide) rfl ?_
    refine j_goto (pc := 50) 32 dX12_plain_50 (by decide) ?_
    exact J.sub [1, 0] rfl (hL32 r0 (v1 + 1) z1)
theorem j_X12_plain_B19 {l : Launch} {Γ : Am}   : ∀ (r0 : Nat) (z : Hp), J l Γ mi_X12_plain cvV 0 0 19 [(0, .ref (mB Γ + r0))] [] z (m_X12_plain_B19  r0 z) := by
  intro r0 z
  unfold m_X12_plain_B19
  refine j_aload_n (pc := 19) 0 dX12_plain_19 rfl rfl ?_
  refine j_iconst (pc := 20) (v := 5) dX12_plain_20 (by decide) ?_
  refine j_bipush (pc := 21) (v := 100) dX12_plain_21 (by decide) ?_
  refine j_iastore (pc := 23) dX12_plain_23 (fun z2 => ?_)
  refine j_aload_n (pc := 24) 0 dX12_plain_24 rfl rfl ?_
  refine j_bipush (pc := 25) (v := 6) dX12_plain_25 (by decide) ?_
  refine j_ldc (pc := 27) (v := 99999) dX12_plain_27 w_1227 ?_
  refine j_iastore (pc := 29) dX12_plain_29 (fun z3 => ?_)
  refine j_iconst (pc := 30) (v := 0) dX12_plain_30 (by decide) ?_
  refine j_istore_n (pc := 31) (lv2 := [(1, .int 0), (0, .ref (mB Γ + r0))]) dX12_plain_31 rfl (by decide) rfl ?_
  exact J.sub [1, 0] rfl ((j_X12_plain_L32 FU) r0 0 z3)
theorem j_X12_plain_L2 {l : Launch} {Γ : Am} {k19 : Nat → Hp → Option (Unit × Hp)} (hL19 : ∀ (r0 : Nat) (z : Hp), J l Γ mi_X12_plain cvV 0 0 19 [(0, .ref (mB Γ + r0))] [] z (k19 r0 z)) : ∀ (f : Nat), ∀ (r0 : Nat) (v1 : Int32) (z : Hp), J l Γ mi_X12_plain cvV 0 0 2 [(0, .ref (mB Γ + r0)), (1, .int v1)] [] z (m_X12_plain_L2 k19 f r0 v1 z) := by
  intro f
  induction f with
  | zero => intro r0 v1 z; exact J.none
  | succ f hL2 =>
    intro r0 v1 z
    rw [m_X12_plain_L2]
    refine j_iload_n (pc := 2) 1 dX12_plain_2 rfl rfl ?_
    refine j_sipush (pc := 3) (v := 810) dX12_plain_3 (by decide) ?_
    refine j_icmp_ge (pc := 6) 19 dX12_plain_6 (by decide) ?_ ?_
    · exact J.sub [0] rfl (hL19 r0 z)
    refine j_aload_n (pc := 9) 0 dX12_plain_9 rfl rfl ?_
    refine j_iload_n (pc := 10) 1 dX12_plain_10 rfl rfl ?_
    refine j_iconst (pc := 11) (v := 0) dX12_plain_11 (by decide) ?_
    refine j_iastore (pc := 12) dX12_plain_12 (fun z4 => ?_)
    refine j_iinc (pc := 13) (n0 := 1) (v0 := v1 + 1) (lv2 := [(1, .int (v1 + 1)), (0, .ref (mB Γ + r0))]) dX12_plain_13 rfl rfl (by decide) rfl ?_
    refine j_goto (pc := 16) 2 dX12_plain_16 (by decide) ?_
    exact J.sub [1, 0] rfl (hL2 r0 (v1 + 1) z4)
theorem ct_X12_plain {l : Launch} {Γ : Am} (r0 : Nat) (z : Hp) : Ct l Γ yX12_plain mi_X12_plain cvV [.ref (mB Γ + r0)] z (m_X12_plain r0 z) := by
  refine Ct.ofJ (by decide) ⟨rfl, rfl⟩ (Nat.le_of_ble_eq_true rfl) ?_
  unfold m_X12_plain
  show J l Γ mi_X12_plain cvV 0 0 0 [(0, .ref (mB Γ + r0))] [] z _
  refine j_iconst (pc := 0) (v := 0) dX12_plain_0 (by decide) ?_
  refine j_istore_n (pc := 1) (lv2 := [(1, .int 0), (0, .ref (mB Γ + r0))]) dX12_plain_1 rfl (by decide) rfl ?_
  exact J.sub [1, 0] rfl ((j_X12_plain_L2 j_X12_plain_B19 FU) r0 0 z)
theorem dX12_heatNow_0 : decode cX12_heatNow 0 = .ok (.iconst 0, 1) := by decide +kernel
theorem dX12_heatNow_1 : decode cX12_heatNow 1 = .ok (.istore_n 1, 1) := by decide +kernel
theorem dX12_heatNow_2 : decode cX12_heatNow 2 = .ok (.iconst 0, 1) := by decide +kernel
theorem dX12_heatNow_3 : decode cX12_heatNow 3 = .ok (.istore_n 2, 1) := by decide +kernel
theorem dX12_heatNow_4 : decode cX12_heatNow 4 = .ok (.iload_n 2, 1) := by decide +kernel
theorem dX12_heatNow_5 : decode cX12_heatNow 5 = .ok (.sipush 144, 3) := by decide +kernel
theorem dX12_heatNow_8 : decode cX12_heatNow 8 = .ok (.if_icmp .ge 51, 3) := by decide +kernel
theorem dX12_heatNow_11 : decode cX12_heatNow 11 = .ok (.iload_n 1, 1) := by decide +kernel
theorem dX12_heatNow_12 : decode cX12_heatNow 12 = .ok (.aload_n 0, 1) := by decide +kernel
theorem dX12_heatNow_13 : decode cX12_heatNow 13 = .ok (.getfield 13, 3) := by decide +kernel
theorem dX12_heatNow_16 : decode cX12_heatNow 16 = .ok (.sipush 480, 3) := by decide +kernel
theorem dX12_heatNow_19 : decode cX12_heatNow 19 = .ok (.iload_n 2, 1) := by decide +kernel
theorem dX12_heatNow_20 : decode cX12_heatNow 20 = .ok (.iadd, 1) := by decide +kernel
theorem dX12_heatNow_21 : decode cX12_heatNow 21 = .ok (.iaload, 1) := by decide +kernel
theorem dX12_heatNow_22 : decode cX12_heatNow 22 = .ok (.iconst 1, 1) := by decide +kernel
theorem dX12_heatNow_23 : decode cX12_heatNow 23 = .ok (.if_icmp .ne 7, 3) := by decide +kernel
theorem dX12_heatNow_26 : decode cX12_heatNow 26 = .ok (.iconst 0, 1) := by decide +kernel
theorem dX12_heatNow_27 : decode cX12_heatNow 27 = .ok (.goto 24, 3) := by decide +kernel
theorem dX12_heatNow_30 : decode cX12_heatNow 30 = .ok (.aload_n 0, 1) := by decide +kernel
theorem dX12_heatNow_31 : decode cX12_heatNow 31 = .ok (.getfield 13, 3) := by decide +kernel
theorem dX12_heatNow_34 : decode cX12_heatNow 34 = .ok (.sipush 192, 3) := by decide +kernel
theorem dX12_heatNow_37 : decode cX12_heatNow 37 = .ok (.iload_n 2, 1) := by decide +kernel
theorem dX12_heatNow_38 : decode cX12_heatNow 38 = .ok (.iadd, 1) := by decide +kernel
theorem dX12_heatNow_39 : decode cX12_heatNow 39 = .ok (.iaload, 1) := by decide +kernel
theorem dX12_heatNow_40 : decode cX12_heatNow 40 = .ok (.aload_n 0, 1) := by decide +kernel
theorem dX12_heatNow_41 : decode cX12_heatNow 41 = .ok (.getfield 13, 3) := by decide +kernel
theorem dX12_heatNow_44 : decode cX12_heatNow 44 = .ok (.sipush 336, 3) := by decide +kernel
theorem dX12_heatNow_47 : decode cX12_heatNow 47 = .ok (.iload_n 2, 1) := by decide +kernel
theorem dX12_heatNow_48 : decode cX12_heatNow 48 = .ok (.iadd, 1) := by decide +kernel
theorem dX12_heatNow_49 : decode cX12_heatNow 49 = .ok (.iaload, 1) := by decide +kernel
theorem dX12_heatNow_50 : decode cX12_heatNow 50 = .ok (.isub, 1) := by decide +kernel
theorem dX12_heatNow_51 : decode cX12_heatNow 51 = .ok (.iadd, 1) := by decide +kernel
theorem dX12_heatNow_52 : decode cX12_heatNow 52 = .ok (.istore_n 1, 1) := by decide +kernel
theorem dX12_heatNow_53 : decode cX12_heatNow 53 = .ok (.iinc 2 1, 3) := by decide +kernel
theorem dX12_heatNow_56 : decode cX12_heatNow 56 = .ok (.goto (-52), 3) := by decide +kernel
theorem dX12_heatNow_59 : decode cX12_heatNow 59 = .ok (.iload_n 1, 1) := by decide +kernel
theorem dX12_heatNow_60 : decode cX12_heatNow 60 = .ok (.ireturn, 1) := by decide +kernel
theorem j_X12_heatNow_B51 {l : Launch} {Γ : Am} {k4 : Nat → Int32 → Int32 → Hp → Option (Int32 × Hp)} (hL4 : ∀ (r0 : Nat) (v1 : Int32) (v2 : Int32) (z : Hp), J l Γ mi_X12_heatNow cvI 0 0 4 [(0, .ref (mB Γ + r0)), (1, .int v1), (2, .int v2)] [] z (k4 r0 v1 v2 z)) : ∀ (r0 : Nat) (v2 : Int32) (t0 : Int32) (t1 : Int32) (z : Hp), J l Γ mi_X12_heatNow cvI 0 0 51 [(0, .ref (mB Γ + r0)), (2, .int v2)] [.int t0, .int t1] z (m_X12_heatNow_B51 k4 r0 v2 t0 t1 z) := by
  intro r0 v2 t0 t1 z
  unfold m_X12_heatNow_B51
  refine j_iadd (pc := 51) dX12_heatNow_51 ?_
  refine j_istore_n (pc := 52) (lv2 := [(1, .int (t1 + t0)), (0, .ref (mB Γ + r0)), (2, .int v2)]) dX12_heatNow_52 rfl (by decide) rfl ?_
  refine j_iinc (pc := 53) (n0 := 2) (v0 := v2 + 1) (lv2 := [(2, .int (v2 + 1)), (1, .int (t1 + t0)), (0, .ref (mB Γ + r0))]) dX12_heatNow_53 rfl rfl (by decide) rfl ?_
  refine j_goto (pc := 56) 4 dX12_heatNow_56 (by decide) ?_
  exact J.sub [2, 1, 0] rfl (hL4 r0 (t1 + t0) (v2 + 1) z)
theorem j_X12_heatNow_L4 {l : Launch} {Γ : Am}   : ∀ (f : Nat), ∀ (r0 : Nat) (v1 : Int32) (v2 : Int32) (z : Hp), J l Γ mi_X12_heatNow cvI 0 0 4 [(0, .ref (mB Γ + r0)), (1, .int v1), (2, .int v2)] [] z (m_X12_heatNow_L4  f r0 v1 v2 z) := by
  intro f
  induction f with
  | zero => intro r0 v1 v2 z; exact J.none
  | succ f hL4 =>
    intro r0 v1 v2 z
    rw [m_X12_heatNow_L4]
    refine j_iload_n (pc := 4) 2 dX12_heatNow_4 rfl rfl ?_
    refine j_sipush (pc := 5) (v := 144) dX12_heatNow_5 (by decide) ?_
    refine j_icmp_ge (pc := 8) 59 dX12_heatNow_8 (by decide) ?_ ?_
    · refine j_iload_n (pc := 59) 1 dX12_heatNow_59 rfl rfl ?_
      exact j_ireturn (pc := 60) dX12_heatNow_60 rfl rfl
    refine j_iload_n (pc := 11) 1 dX12_heatNow_11 rfl rfl ?_
    refine j_aload_n (pc := 12) 0 dX12_heatNow_12 rfl rfl ?_
    refine j_getR (pc := 13) ok_X12 (by decide) rfl w_1239 dX12_heatNow_13 (fun a1 => ?_)
    refine j_sipush (pc := 16) (v := 480) dX12_heatNow_16 (by decide) ?_
    refine j_iload_n (pc := 19) 2 dX12_heatNow_19 rfl rfl ?_
    refine j_iadd (pc := 20) dX12_heatNow_20 ?_
    refine j_iaload (pc := 21) dX12_heatNow_21 (fun x2 => ?_)
    refine j_iconst (pc := 22) (v := 1) dX12_heatNow_22 (by decide) ?_
    refine j_icmp_ne (pc := 23) 30 dX12_heatNow_23 (by decide) ?_ ?_
    · refine j_aload_n (pc := 30) 0 dX12_heatNow_30 rfl rfl ?_
      refine j_getR (pc := 31) ok_X12 (by decide) rfl w_1239 dX12_heatNow_31 (fun a3 => ?_)
      refine j_sipush (pc := 34) (v := 192) dX12_heatNow_34 (by decide) ?_
      refine j_iload_n (pc := 37) 2 dX12_heatNow_37 rfl rfl ?_
      refine j_iadd (pc := 38) dX12_heatNow_38 ?_
      refine j_iaload (pc := 39) dX12_heatNow_39 (fun x4 => ?_)
      refine j_aload_n (pc := 40) 0 dX12_heatNow_40 rfl rfl ?_
      refine j_getR (pc := 41) ok_X12 (by decide) rfl w_1239 dX12_heatNow_41 (fun a5 => ?_)
      refine j_sipush (pc := 44) (v := 336) dX12_heatNow_44 (by decide) ?_
      refine j_iload_n (pc := 47) 2 dX12_heatNow_47 rfl rfl ?_
      refine j_iadd (pc := 48) dX12_heatNow_48 ?_
      refine j_iaload (pc := 49) dX12_heatNow_49 (fun x6 => ?_)
      refine j_isub (pc := 50) dX12_heatNow_50 ?_
      exact J.sub [0, 2] rfl ((j_X12_heatNow_B51 hL4) r0 v2 (x4 - x6) v1 z)
    refine j_iconst (pc := 26) (v := 0) dX12_heatNow_26 (by decide) ?_
    refine j_goto (pc := 27) 51 dX12_heatNow_27 (by decide) ?_
    exact J.sub [0, 2] rfl ((j_X12_heatNow_B51 hL4) r0 v2 0 v1 z)
theorem ct_X12_heatNow {l : Launch} {Γ : Am} (r0 : Nat) (z : Hp) : Ct l Γ yX12_heatNow mi_X12_heatNow cvI [.ref (mB Γ + r0)] z (m_X12_heatNow r0 z) := by
  refine Ct.ofJ (by decide) ⟨rfl, rfl⟩ (Nat.le_of_ble_eq_true rfl) ?_
  unfold m_X12_heatNow
  show J l Γ mi_X12_heatNow cvI 0 0 0 [(0, .ref (mB Γ + r0))] [] z _
  refine j_iconst (pc := 0) (v := 0) dX12_heatNow_0 (by decide) ?_
  refine j_istore_n (pc := 1) (lv2 := [(1, .int 0), (0, .ref (mB Γ + r0))]) dX12_heatNow_1 rfl (by decide) rfl ?_
  refine j_iconst (pc := 2) (v := 0) dX12_heatNow_2 (by decide) ?_
  refine j_istore_n (pc := 3) (lv2 := [(2, .int 0), (1, .int 0), (0, .ref (mB Γ + r0))]) dX12_heatNow_3 rfl (by decide) rfl ?_
  exact J.sub [2, 1, 0] rfl ((j_X12_heatNow_L4 FU) r0 0 0 z)
theorem dX12_begins_0 : decode cX12_begins 0 = .ok (.iconst 0, 1) := by decide +kernel
theorem dX12_begins_1 : decode cX12_begins 1 = .ok (.istore_n 1, 1) := by decide +kernel
theorem dX12_begins_2 : decode cX12_begins 2 = .ok (.iload_n 1, 1) := by decide +kernel
theorem dX12_begins_3 : decode cX12_begins 3 = .ok (.sipush 144, 3) := by decide +kernel
theorem dX12_begins_6 : decode cX12_begins 6 = .ok (.if_icmp .ge 47, 3) := by decide +kernel
theorem dX12_begins_9 : decode cX12_begins 9 = .ok (.aload_n 0, 1) := by decide +kernel
theorem dX12_begins_10 : decode cX12_begins 10 = .ok (.getfield 13, 3) := by decide +kernel
theorem dX12_begins_13 : decode cX12_begins 13 = .ok (.sipush 192, 3) := by decide +kernel
theorem dX12_begins_16 : decode cX12_begins 16 = .ok (.iload_n 1, 1) := by decide +kernel
theorem dX12_begins_17 : decode cX12_begins 17 = .ok (.iadd, 1) := by decide +kernel
theorem dX12_begins_18 : decode cX12_begins 18 = .ok (.aload_n 0, 1) := by decide +kernel
theorem dX12_begins_19 : decode cX12_begins 19 = .ok (.getfield 13, 3) := by decide +kernel
theorem dX12_begins_22 : decode cX12_begins 22 = .ok (.iconst 5, 1) := by decide +kernel
theorem dX12_begins_23 : decode cX12_begins 23 = .ok (.iaload, 1) := by decide +kernel
theorem dX12_begins_24 : decode cX12_begins 24 = .ok (.iastore, 1) := by decide +kernel
theorem dX12_begins_25 : decode cX12_begins 25 = .ok (.aload_n 0, 1) := by decide +kernel
theorem dX12_begins_26 : decode cX12_begins 26 = .ok (.getfield 13, 3) := by decide +kernel
theorem dX12_begins_29 : decode cX12_begins 29 = .ok (.sipush 336, 3) := by decide +kernel
theorem dX12_begins_32 : decode cX12_begins 32 = .ok (.iload_n 1, 1) := by decide +kernel
theorem dX12_begins_33 : decode cX12_begins 33 = .ok (.iadd, 1) := by decide +kernel
theorem dX12_begins_34 : decode cX12_begins 34 = .ok (.iconst 0, 1) := by decide +kernel
theorem dX12_begins_35 : decode cX12_begins 35 = .ok (.iastore, 1) := by decide +kernel
theorem dX12_begins_36 : decode cX12_begins 36 = .ok (.aload_n 0, 1) := by decide +kernel
theorem dX12_begins_37 : decode cX12_begins 37 = .ok (.getfield 13, 3) := by decide +kernel
theorem dX12_begins_40 : decode cX12_begins 40 = .ok (.sipush 480, 3) := by decide +kernel
theorem dX12_begins_43 : decode cX12_begins 43 = .ok (.iload_n 1, 1) := by decide +kernel
theorem dX12_begins_44 : decode cX12_begins 44 = .ok (.iadd, 1) := by decide +kernel
theorem dX12_begins_45 : decode cX12_begins 45 = .ok (.iconst 0, 1) := by decide +kernel
theorem dX12_begins_46 : decode cX12_begins 46 = .ok (.iastore, 1) := by decide +kernel
theorem dX12_begins_47 : decode cX12_begins 47 = .ok (.iinc 1 1, 3) := by decide +kernel
theorem dX12_begins_50 : decode cX12_begins 50 = .ok (.goto (-48), 3) := by decide +kernel
theorem dX12_begins_53 : decode cX12_begins 53 = .ok (.iconst 0, 1) := by decide +kernel
theorem dX12_begins_54 : decode cX12_begins 54 = .ok (.istore_n 1, 1) := by decide +kernel
theorem dX12_begins_55 : decode cX12_begins 55 = .ok (.iload_n 1, 1) := by decide +kernel
theorem dX12_begins_56 : decode cX12_begins 56 = .ok (.bipush 10, 2) := by decide +kernel
theorem dX12_begins_58 : decode cX12_begins 58 = .ok (.if_icmp .ge 22, 3) := by decide +kernel
theorem dX12_begins_61 : decode cX12_begins 61 = .ok (.aload_n 0, 1) := by decide +kernel
theorem dX12_begins_62 : decode cX12_begins 62 = .ok (.getfield 13, 3) := by decide +kernel
theorem dX12_begins_65 : decode cX12_begins 65 = .ok (.sipush 790, 3) := by decide +kernel
theorem dX12_begins_68 : decode cX12_begins 68 = .ok (.iconst 2, 1) := by decide +kernel
theorem dX12_begins_69 : decode cX12_begins 69 = .ok (.iload_n 1, 1) := by decide +kernel
theorem dX12_begins_70 : decode cX12_begins 70 = .ok (.imul, 1) := by decide +kernel
theorem dX12_begins_71 : decode cX12_begins 71 = .ok (.iadd, 1) := by decide +kernel
theorem dX12_begins_72 : decode cX12_begins 72 = .ok (.iconst (-1), 1) := by decide +kernel
theorem dX12_begins_73 : decode cX12_begins 73 = .ok (.iastore, 1) := by decide +kernel
theorem dX12_begins_74 : decode cX12_begins 74 = .ok (.iinc 1 1, 3) := by decide +kernel
theorem dX12_begins_77 : decode cX12_begins 77 = .ok (.goto (-22), 3) := by decide +kernel
theorem dX12_begins_80 : decode cX12_begins 80 = .ok (.iconst 0, 1) := by decide +kernel
theorem dX12_begins_81 : decode cX12_begins 81 = .ok (.istore_n 1, 1) := by decide +kernel
theorem dX12_begins_82 : decode cX12_begins 82 = .ok (.iload_n 1, 1) := by decide +kernel
theorem dX12_begins_83 : decode cX12_begins 83 = .ok (.bipush 6, 2) := by decide +kernel
theorem dX12_begins_85 : decode cX12_begins 85 = .ok (.if_icmp .ge 24, 3) := by decide +kernel
theorem dX12_begins_88 : decode cX12_begins 88 = .ok (.aload_n 0, 1) := by decide +kernel
theorem dX12_begins_89 : decode cX12_begins 89 = .ok (.getfield 13, 3) := by decide +kernel
theorem dX12_begins_92 : decode cX12_begins 92 = .ok (.sipush 732, 3) := by decide +kernel
theorem dX12_begins_95 : decode cX12_begins 95 = .ok (.iconst 3, 1) := by decide +kernel
theorem dX12_begins_96 : decode cX12_begins 96 = .ok (.iload_n 1, 1) := by decide +kernel
theorem dX12_begins_97 : decode cX12_begins 97 = .ok (.imul, 1) := by decide +kernel
theorem dX12_begins_98 : decode cX12_begins 98 = .ok (.iadd, 1) := by decide +kernel
theorem dX12_begins_99 : decode cX12_begins 99 = .ok (.iconst 2, 1) := by decide +kernel
theorem dX12_begins_100 : decode cX12_begins 100 = .ok (.iadd, 1) := by decide +kernel
theorem dX12_begins_101 : decode cX12_begins 101 = .ok (.iconst (-1), 1) := by decide +kernel
theorem dX12_begins_102 : decode cX12_begins 102 = .ok (.iastore, 1) := by decide +kernel
theorem dX12_begins_103 : decode cX12_begins 103 = .ok (.iinc 1 1, 3) := by decide +kernel
theorem dX12_begins_106 : decode cX12_begins 106 = .ok (.goto (-24), 3) := by decide +kernel
theorem dX12_begins_109 : decode cX12_begins 109 = .ok (.aload_n 0, 1) := by decide +kernel
theorem dX12_begins_110 : decode cX12_begins 110 = .ok (.getfield 13, 3) := by decide +kernel
theorem dX12_begins_113 : decode cX12_begins 113 = .ok (.bipush 18, 2) := by decide +kernel
theorem dX12_begins_115 : decode cX12_begins 115 = .ok (.aload_n 0, 1) := by decide +kernel
theorem dX12_begins_116 : decode cX12_begins 116 = .ok (.invokevirtual 98, 3) := by decide +kernel
theorem dX12_begins_119 : decode cX12_begins 119 = .ok (.iastore, 1) := by decide +kernel
theorem dX12_begins_120 : decode cX12_begins 120 = .ok (.return_, 1) := by decide +kernel
theorem cw_X12_begins_98 : CwV mi_X12_begins mi_X12_heatNow yX12_heatNow RX12 98 0 := ⟨⟨w_1235, w_1237, w_43, w_108, w_1238⟩, ⟨by decide, by decide⟩, by decide +kernel, by decide, by decide⟩
theorem j_X12_begins_B109 {l : Launch} {Γ : Am}   : ∀ (r0 : Nat) (z : Hp), J l Γ mi_X12_begins cvV 0 0 109 [(0, .ref (mB Γ + r0))] [] z (m_X12_begins_B109  r0 z) := by
  intro r0 z
  unfold m_X12_begins_B109
  refine j_aload_n (pc := 109) 0 dX12_begins_109 rfl rfl ?_
  refine j_getR (pc := 110) ok_X12 (by decide) rfl w_1239 dX12_begins_110 (fun a1 => ?_)
  refine j_bipush (pc := 113) (v := 18) dX12_begins_113 (by decide) ?_
  refine j_aload_n (pc := 115) 0 dX12_begins_115 rfl rfl ?_
  refine j_isC (fun h4 => ?_)
  refine j_callV_I (pc := 116) (as := []) (mc2 := 0) (ms2 := 0) (ct_X12_heatNow _ _) h4 rfl cw_X12_begins_98 dX12_begins_116 (Nat.le_of_ble_eq_true rfl) rfl (by decide) (by decide) (fun x3 z2 => ?_)
  refine j_iastore (pc := 119) dX12_begins_119 (fun z5 => ?_)
  exact j_return (pc := 120) dX12_begins_120 rfl
theorem j_X12_begins_L82 {l : Launch} {Γ : Am} {k109 : Nat → Hp → Option (Unit × Hp)} (hL109 : ∀ (r0 : Nat) (z : Hp), J l Γ mi_X12_begins cvV 0 0 109 [(0, .ref (mB Γ + r0))] [] z (k109 r0 z)) : ∀ (f : Nat), ∀ (r0 : Nat) (v1 : Int32) (z : Hp), J l Γ mi_X12_begins cvV 0 0 82 [(0, .ref (mB Γ + r0)), (1, .int v1)] [] z (m_X12_begins_L82 k109 f r0 v1 z) := by
  intro f
  induction f with
  | zero => intro r0 v1 z; exact J.none
  | succ f hL82 =>
    intro r0 v1 z
    rw [m_X12_begins_L82]
    refine j_iload_n (pc := 82) 1 dX12_begins_82 rfl rfl ?_
    refine j_bipush (pc := 83) (v := 6) dX12_begins_83 (by decide) ?_
    refine j_icmp_ge (pc := 85) 109 dX12_begins_85 (by decide) ?_ ?_
    · exact J.sub [0] rfl (hL109 r0 z)
    refine j_aload_n (pc := 88) 0 dX12_begins_88 rfl rfl ?_
    refine j_getR (pc := 89) ok_X12 (by decide) rfl w_1239 dX12_begins_89 (fun a6 => ?_)
    refine j_sipush (pc := 92) (v := 732) dX12_begins_92 (by decide) ?_
    refine j_iconst (pc := 95) (v := 3) dX12_begins_95 (by decide) ?_
    refine j_iload_n (pc := 96) 1 dX12_begins_96 rfl rfl ?_
    refine j_imul (pc := 97) dX12_begins_97 ?_
    refine j_iadd (pc := 98) dX12_begins_98 ?_
    refine j_iconst (pc := 99) (v := 2) dX12_begins_99 (by decide) ?_
    refine j_iadd (pc := 100) dX12_begins_100 ?_
    refine j_iconst (pc := 101) (v := (-1)) dX12_begins_101 (by decide) ?_
    refine j_iastore (pc := 102) dX12_begins_102 (fun z7 => ?_)
    refine j_iinc (pc := 103) (n0 := 1) (v0 := v1 + 1) (lv2 := [(1, .int (v1 + 1)), (0, .ref (mB Γ + r0))]) dX12_begins_103 rfl rfl (by decide) rfl ?_
    refine j_goto (pc := 106) 82 dX12_begins_106 (by decide) ?_
    exact J.sub [1, 0] rfl (hL82 r0 (v1 + 1) z7)
theorem j_X12_begins_B80 {l : Launch} {Γ : Am}   : ∀ (r0 : Nat) (z : Hp), J l Γ mi_X12_begins cvV 0 0 80 [(0, .ref (mB Γ + r0))] [] z (m_X12_begins_B80  r0 z) := by
  intro r0 z
  unfold m_X12_begins_B80
  refine j_iconst (pc := 80) (v := 0) dX12_begins_80 (by decide) ?_
  refine j_istore_n (pc := 81) (lv2 := [(1, .int 0), (0, .ref (mB Γ + r0))]) dX12_begins_81 rfl (by decide) rfl ?_
  exact J.sub [1, 0] rfl ((j_X12_begins_L82 j_X12_begins_B109 FU) r0 0 z)
theorem j_X12_begins_L55 {l : Launch} {Γ : Am} {k80 : Nat → Hp → Option (Unit × Hp)} (hL80 : ∀ (r0 : Nat) (z : Hp), J l Γ mi_X12_begins cvV 0 0 80 [(0, .ref (mB Γ + r0))] [] z (k80 r0 z)) : ∀ (f : Nat), ∀ (r0 : Nat) (v1 : Int32) (z : Hp), J l Γ mi_X12_begins cvV 0 0 55 [(0, .ref (mB Γ + r0)), (1, .int v1)] [] z (m_X12_begins_L55 k80 f r0 v1 z) := by
  intro f
  induction f with
  | zero => intro r0 v1 z; exact J.none
  | succ f hL55 =>
    intro r0 v1 z
    rw [m_X12_begins_L55]
    refine j_iload_n (pc := 55) 1 dX12_begins_55 rfl rfl ?_
    refine j_bipush (pc := 56) (v := 10) dX12_begins_56 (by decide) ?_
    refine j_icmp_ge (pc := 58) 80 dX12_begins_58 (by decide) ?_ ?_
    · exact J.sub [0] rfl (hL80 r0 z)
    refine j_aload_n (pc := 61) 0 dX12_begins_61 rfl rfl ?_
    refine j_getR (pc := 62) ok_X12 (by decide) rfl w_1239 dX12_begins_62 (fun a8 => ?_)
    refine j_sipush (pc := 65) (v := 790) dX12_begins_65 (by decide) ?_
    refine j_iconst (pc := 68) (v := 2) dX12_begins_68 (by decide) ?_
    refine j_iload_n (pc := 69) 1 dX12_begins_69 rfl rfl ?_
    refine j_imul (pc := 70) dX12_begins_70 ?_
    refine j_iadd (pc := 71) dX12_begins_71 ?_
    refine j_iconst (pc := 72) (v := (-1)) dX12_begins_72 (by decide) ?_
    refine j_iastore (pc := 73) dX12_begins_73 (fun z9 => ?_)
    refine j_iinc (pc := 74) (n0 := 1) (v0 := v1 + 1) (lv2 := [(1, .int (v1 + 1)), (0, .ref (mB Γ + r0))]) dX12_begins_74 rfl rfl (by decide) rfl ?_
    refine j_goto (pc := 77) 55 dX12_begins_77 (by decide) ?_
    exact J.sub [1, 0] rfl (hL55 r0 (v1 + 1) z9)
theorem j_X12_begins_B53 {l : Launch} {Γ : Am}   : ∀ (r0 : Nat) (z : Hp), J l Γ mi_X12_begins cvV 0 0 53 [(0, .ref (mB Γ + r0))] [] z (m_X12_begins_B53  r0 z) := by
  intro r0 z
  unfold m_X12_begins_B53
  refine j_iconst (pc := 53) (v := 0) dX12_begins_53 (by decide) ?_
  refine j_istore_n (pc := 54) (lv2 := [(1, .int 0), (0, .ref (mB Γ + r0))]) dX12_begins_54 rfl (by decide) rfl ?_
  exact J.sub [1, 0] rfl ((j_X12_begins_L55 j_X12_begins_B80 FU) r0 0 z)
theorem j_X12_begins_L2 {l : Launch} {Γ : Am} {k53 : Nat → Hp → Option (Unit × Hp)} (hL53 : ∀ (r0 : Nat) (z : Hp), J l Γ mi_X12_begins cvV 0 0 53 [(0, .ref (mB Γ + r0))] [] z (k53 r0 z)) : ∀ (f : Nat), ∀ (r0 : Nat) (v1 : Int32) (z : Hp), J l Γ mi_X12_begins cvV 0 0 2 [(0, .ref (mB Γ + r0)), (1, .int v1)] [] z (m_X12_begins_L2 k53 f r0 v1 z) := by
  intro f
  induction f with
  | zero => intro r0 v1 z; exact J.none
  | succ f hL2 =>
    intro r0 v1 z
    rw [m_X12_begins_L2]
    refine j_iload_n (pc := 2) 1 dX12_begins_2 rfl rfl ?_
    refine j_sipush (pc := 3) (v := 144) dX12_begins_3 (by decide) ?_
    refine j_icmp_ge (pc := 6) 53 dX12_begins_6 (by decide) ?_ ?_
    · exact J.sub [0] rfl (hL53 r0 z)
    refine j_aload_n (pc := 9) 0 dX12_begins_9 rfl rfl ?_
    refine j_getR (pc := 10) ok_X12 (by decide) rfl w_1239 dX12_begins_10 (fun a10 => ?_)
    refine j_sipush (pc := 13) (v := 192) dX12_begins_13 (by decide) ?_
    refine j_iload_n (pc := 16) 1 dX12_begins_16 rfl rfl ?_
    refine j_iadd (pc := 17) dX12_begins_17 ?_
    refine j_aload_n (pc := 18) 0 dX12_begins_18 rfl rfl ?_
    refine j_getR (pc := 19) ok_X12 (by decide) rfl w_1239 dX12_begins_19 (fun a11 => ?_)
    refine j_iconst (pc := 22) (v := 5) dX12_begins_22 (by decide) ?_
    refine j_iaload (pc := 23) dX12_begins_23 (fun x12 => ?_)
    refine j_iastore (pc := 24) dX12_begins_24 (fun z13 => ?_)
    refine j_aload_n (pc := 25) 0 dX12_begins_25 rfl rfl ?_
    refine j_getR (pc := 26) ok_X12 (by decide) rfl w_1239 dX12_begins_26 (fun a14 => ?_)
    refine j_sipush (pc := 29) (v := 336) dX12_begins_29 (by decide) ?_
    refine j_iload_n (pc := 32) 1 dX12_begins_32 rfl rfl ?_
    refine j_iadd (pc := 33) dX12_begins_33 ?_
    refine j_iconst (pc := 34) (v := 0) dX12_begins_34 (by decide) ?_
    refine j_iastore (pc := 35) dX12_begins_35 (fun z15 => ?_)
    refine j_aload_n (pc := 36) 0 dX12_begins_36 rfl rfl ?_
    refine j_getR (pc := 37) ok_X12 (by decide) rfl w_1239 dX12_begins_37 (fun a16 => ?_)
    refine j_sipush (pc := 40) (v := 480) dX12_begins_40 (by decide) ?_
    refine j_iload_n (pc := 43) 1 dX12_begins_43 rfl rfl ?_
    refine j_iadd (pc := 44) dX12_begins_44 ?_
    refine j_iconst (pc := 45) (v := 0) dX12_begins_45 (by decide) ?_
    refine j_iastore (pc := 46) dX12_begins_46 (fun z17 => ?_)
    refine j_iinc (pc := 47) (n0 := 1) (v0 := v1 + 1) (lv2 := [(1, .int (v1 + 1)), (0, .ref (mB Γ + r0))]) dX12_begins_47 rfl rfl (by decide) rfl ?_
    refine j_goto (pc := 50) 2 dX12_begins_50 (by decide) ?_
    exact J.sub [1, 0] rfl (hL2 r0 (v1 + 1) z17)
theorem ct_X12_begins {l : Launch} {Γ : Am} (r0 : Nat) (z : Hp) : Ct l Γ yX12_begins mi_X12_begins cvV [.ref (mB Γ + r0)] z (m_X12_begins r0 z) := by
  refine Ct.ofJ (by decide) ⟨rfl, rfl⟩ (Nat.le_of_ble_eq_true rfl) ?_
  unfold m_X12_begins
  show J l Γ mi_X12_begins cvV 0 0 0 [(0, .ref (mB Γ + r0))] [] z _
  refine j_iconst (pc := 0) (v := 0) dX12_begins_0 (by decide) ?_
  refine j_istore_n (pc := 1) (lv2 := [(1, .int 0), (0, .ref (mB Γ + r0))]) dX12_begins_1 rfl (by decide) rfl ?_
  exact J.sub [1, 0] rfl ((j_X12_begins_L2 j_X12_begins_B53 FU) r0 0 z)
theorem dX12_init_0 : decode cX12_init 0 = .ok (.aload_n 0, 1) := by decide +kernel
theorem dX12_init_1 : decode cX12_init 1 = .ok (.invokespecial 7, 3) := by decide +kernel
theorem dX12_init_4 : decode cX12_init 4 = .ok (.aload_n 0, 1) := by decide +kernel
theorem dX12_init_5 : decode cX12_init 5 = .ok (.sipush 810, 3) := by decide +kernel
theorem dX12_init_8 : decode cX12_init 8 = .ok (.newarray .int, 2) := by decide +kernel
theorem dX12_init_10 : decode cX12_init 10 = .ok (.putfield 13, 3) := by decide +kernel
theorem dX12_init_13 : decode cX12_init 13 = .ok (.aload_n 0, 1) := by decide +kernel
theorem dX12_init_14 : decode cX12_init 14 = .ok (.sipush 810, 3) := by decide +kernel
theorem dX12_init_17 : decode cX12_init 17 = .ok (.newarray .int, 2) := by decide +kernel
theorem dX12_init_19 : decode cX12_init 19 = .ok (.putfield 17, 3) := by decide +kernel
theorem dX12_init_22 : decode cX12_init 22 = .ok (.aload_n 0, 1) := by decide +kernel
theorem dX12_init_23 : decode cX12_init 23 = .ok (.sipush 2430, 3) := by decide +kernel
theorem dX12_init_26 : decode cX12_init 26 = .ok (.newarray .int, 2) := by decide +kernel
theorem dX12_init_28 : decode cX12_init 28 = .ok (.putfield 20, 3) := by decide +kernel
theorem dX12_init_31 : decode cX12_init 31 = .ok (.aload_n 0, 1) := by decide +kernel
theorem dX12_init_32 : decode cX12_init 32 = .ok (.iconst 3, 1) := by decide +kernel
theorem dX12_init_33 : decode cX12_init 33 = .ok (.newarray .boolean, 2) := by decide +kernel
theorem dX12_init_35 : decode cX12_init 35 = .ok (.putfield 23, 3) := by decide +kernel
theorem dX12_init_38 : decode cX12_init 38 = .ok (.aload_n 0, 1) := by decide +kernel
theorem dX12_init_39 : decode cX12_init 39 = .ok (.sipush 700, 3) := by decide +kernel
theorem dX12_init_42 : decode cX12_init 42 = .ok (.newarray .byte, 2) := by decide +kernel
theorem dX12_init_44 : decode cX12_init 44 = .ok (.putfield 27, 3) := by decide +kernel
theorem dX12_init_47 : decode cX12_init 47 = .ok (.aload_n 0, 1) := by decide +kernel
theorem dX12_init_48 : decode cX12_init 48 = .ok (.iconst 5, 1) := by decide +kernel
theorem dX12_init_49 : decode cX12_init 49 = .ok (.newarray .int, 2) := by decide +kernel
theorem dX12_init_51 : decode cX12_init 51 = .ok (.putfield 31, 3) := by decide +kernel
theorem dX12_init_54 : decode cX12_init 54 = .ok (.aload_n 0, 1) := by decide +kernel
theorem dX12_init_55 : decode cX12_init 55 = .ok (.iconst (-1), 1) := by decide +kernel
theorem dX12_init_56 : decode cX12_init 56 = .ok (.putfield 34, 3) := by decide +kernel
theorem dX12_init_59 : decode cX12_init 59 = .ok (.aload_n 0, 1) := by decide +kernel
theorem dX12_init_60 : decode cX12_init 60 = .ok (.sipush 810, 3) := by decide +kernel
theorem dX12_init_63 : decode cX12_init 63 = .ok (.newarray .int, 2) := by decide +kernel
theorem dX12_init_65 : decode cX12_init 65 = .ok (.putfield 37, 3) := by decide +kernel
theorem dX12_init_68 : decode cX12_init 68 = .ok (.aload_n 0, 1) := by decide +kernel
theorem dX12_init_69 : decode cX12_init 69 = .ok (.iconst 4, 1) := by decide +kernel
theorem dX12_init_70 : decode cX12_init 70 = .ok (.newarray .boolean, 2) := by decide +kernel
theorem dX12_init_72 : decode cX12_init 72 = .ok (.putfield 40, 3) := by decide +kernel
theorem dX12_init_75 : decode cX12_init 75 = .ok (.aload_n 0, 1) := by decide +kernel
theorem dX12_init_76 : decode cX12_init 76 = .ok (.bipush 12, 2) := by decide +kernel
theorem dX12_init_78 : decode cX12_init 78 = .ok (.newarray .boolean, 2) := by decide +kernel
theorem dX12_init_80 : decode cX12_init 80 = .ok (.putfield 43, 3) := by decide +kernel
theorem dX12_init_83 : decode cX12_init 83 = .ok (.aload_n 0, 1) := by decide +kernel
theorem dX12_init_84 : decode cX12_init 84 = .ok (.sipush 144, 3) := by decide +kernel
theorem dX12_init_87 : decode cX12_init 87 = .ok (.newarray .int, 2) := by decide +kernel
theorem dX12_init_89 : decode cX12_init 89 = .ok (.putfield 46, 3) := by decide +kernel
theorem dX12_init_92 : decode cX12_init 92 = .ok (.aload_n 0, 1) := by decide +kernel
theorem dX12_init_93 : decode cX12_init 93 = .ok (.bipush 18, 2) := by decide +kernel
theorem dX12_init_95 : decode cX12_init 95 = .ok (.newarray .int, 2) := by decide +kernel
theorem dX12_init_97 : decode cX12_init 97 = .ok (.putfield 49, 3) := by decide +kernel
theorem dX12_init_100 : decode cX12_init 100 = .ok (.aload_n 0, 1) := by decide +kernel
theorem dX12_init_101 : decode cX12_init 101 = .ok (.sipush 144, 3) := by decide +kernel
theorem dX12_init_104 : decode cX12_init 104 = .ok (.newarray .int, 2) := by decide +kernel
theorem dX12_init_106 : decode cX12_init 106 = .ok (.putfield 52, 3) := by decide +kernel
theorem dX12_init_109 : decode cX12_init 109 = .ok (.aload_n 0, 1) := by decide +kernel
theorem dX12_init_110 : decode cX12_init 110 = .ok (.sipush 144, 3) := by decide +kernel
theorem dX12_init_113 : decode cX12_init 113 = .ok (.newarray .boolean, 2) := by decide +kernel
theorem dX12_init_115 : decode cX12_init 115 = .ok (.putfield 55, 3) := by decide +kernel
theorem dX12_init_118 : decode cX12_init 118 = .ok (.aload_n 0, 1) := by decide +kernel
theorem dX12_init_119 : decode cX12_init 119 = .ok (.sipush 576, 3) := by decide +kernel
theorem dX12_init_122 : decode cX12_init 122 = .ok (.newarray .boolean, 2) := by decide +kernel
theorem dX12_init_124 : decode cX12_init 124 = .ok (.putfield 58, 3) := by decide +kernel
theorem dX12_init_127 : decode cX12_init 127 = .ok (.aload_n 0, 1) := by decide +kernel
theorem dX12_init_128 : decode cX12_init 128 = .ok (.sipush 288, 3) := by decide +kernel
theorem dX12_init_131 : decode cX12_init 131 = .ok (.newarray .int, 2) := by decide +kernel
theorem dX12_init_133 : decode cX12_init 133 = .ok (.putfield 61, 3) := by decide +kernel
theorem dX12_init_136 : decode cX12_init 136 = .ok (.aload_n 0, 1) := by decide +kernel
theorem dX12_init_137 : decode cX12_init 137 = .ok (.sipush 288, 3) := by decide +kernel
theorem dX12_init_140 : decode cX12_init 140 = .ok (.newarray .int, 2) := by decide +kernel
theorem dX12_init_142 : decode cX12_init 142 = .ok (.putfield 64, 3) := by decide +kernel
theorem dX12_init_145 : decode cX12_init 145 = .ok (.aload_n 0, 1) := by decide +kernel
theorem dX12_init_146 : decode cX12_init 146 = .ok (.sipush 144, 3) := by decide +kernel
theorem dX12_init_149 : decode cX12_init 149 = .ok (.newarray .boolean, 2) := by decide +kernel
theorem dX12_init_151 : decode cX12_init 151 = .ok (.putfield 67, 3) := by decide +kernel
theorem dX12_init_154 : decode cX12_init 154 = .ok (.aload_n 0, 1) := by decide +kernel
theorem dX12_init_155 : decode cX12_init 155 = .ok (.sipush 144, 3) := by decide +kernel
theorem dX12_init_158 : decode cX12_init 158 = .ok (.newarray .int, 2) := by decide +kernel
theorem dX12_init_160 : decode cX12_init 160 = .ok (.putfield 70, 3) := by decide +kernel
theorem dX12_init_163 : decode cX12_init 163 = .ok (.aload_n 0, 1) := by decide +kernel
theorem dX12_init_164 : decode cX12_init 164 = .ok (.iconst 4, 1) := by decide +kernel
theorem dX12_init_165 : decode cX12_init 165 = .ok (.newarray .int, 2) := by decide +kernel
theorem dX12_init_167 : decode cX12_init 167 = .ok (.dup, 1) := by decide +kernel
theorem dX12_init_168 : decode cX12_init 168 = .ok (.iconst 0, 1) := by decide +kernel
theorem dX12_init_169 : decode cX12_init 169 = .ok (.iconst (-1), 1) := by decide +kernel
theorem dX12_init_170 : decode cX12_init 170 = .ok (.iastore, 1) := by decide +kernel
theorem dX12_init_171 : decode cX12_init 171 = .ok (.dup, 1) := by decide +kernel
theorem dX12_init_172 : decode cX12_init 172 = .ok (.iconst 1, 1) := by decide +kernel
theorem dX12_init_173 : decode cX12_init 173 = .ok (.iconst (-1), 1) := by decide +kernel
theorem dX12_init_174 : decode cX12_init 174 = .ok (.iastore, 1) := by decide +kernel
theorem dX12_init_175 : decode cX12_init 175 = .ok (.dup, 1) := by decide +kernel
theorem dX12_init_176 : decode cX12_init 176 = .ok (.iconst 2, 1) := by decide +kernel
theorem dX12_init_177 : decode cX12_init 177 = .ok (.iconst (-1), 1) := by decide +kernel
theorem dX12_init_178 : decode cX12_init 178 = .ok (.iastore, 1) := by decide +kernel
theorem dX12_init_179 : decode cX12_init 179 = .ok (.dup, 1) := by decide +kernel
theorem dX12_init_180 : decode cX12_init 180 = .ok (.iconst 3, 1) := by decide +kernel
theorem dX12_init_181 : decode cX12_init 181 = .ok (.iconst (-1), 1) := by decide +kernel
theorem dX12_init_182 : decode cX12_init 182 = .ok (.iastore, 1) := by decide +kernel
theorem dX12_init_183 : decode cX12_init 183 = .ok (.putfield 73, 3) := by decide +kernel
theorem dX12_init_186 : decode cX12_init 186 = .ok (.aload_n 0, 1) := by decide +kernel
theorem dX12_init_187 : decode cX12_init 187 = .ok (.iconst 4, 1) := by decide +kernel
theorem dX12_init_188 : decode cX12_init 188 = .ok (.newarray .int, 2) := by decide +kernel
theorem dX12_init_190 : decode cX12_init 190 = .ok (.putfield 76, 3) := by decide +kernel
theorem dX12_init_193 : decode cX12_init 193 = .ok (.aload_n 0, 1) := by decide +kernel
theorem dX12_init_194 : decode cX12_init 194 = .ok (.sipush 240, 3) := by decide +kernel
theorem dX12_init_197 : decode cX12_init 197 = .ok (.newarray .long, 2) := by decide +kernel
theorem dX12_init_199 : decode cX12_init 199 = .ok (.putfield 79, 3) := by decide +kernel
theorem dX12_init_202 : decode cX12_init 202 = .ok (.aload_n 0, 1) := by decide +kernel
theorem dX12_init_203 : decode cX12_init 203 = .ok (.bipush 60, 2) := by decide +kernel
theorem dX12_init_205 : decode cX12_init 205 = .ok (.newarray .long, 2) := by decide +kernel
theorem dX12_init_207 : decode cX12_init 207 = .ok (.putfield 83, 3) := by decide +kernel
theorem dX12_init_210 : decode cX12_init 210 = .ok (.aload_n 0, 1) := by decide +kernel
theorem dX12_init_211 : decode cX12_init 211 = .ok (.getfield 13, 3) := by decide +kernel
theorem dX12_init_214 : decode cX12_init 214 = .ok (.invokestatic 86, 3) := by decide +kernel
theorem dX12_init_217 : decode cX12_init 217 = .ok (.aload_n 0, 1) := by decide +kernel
theorem dX12_init_218 : decode cX12_init 218 = .ok (.invokevirtual 90, 3) := by decide +kernel
theorem dX12_init_221 : decode cX12_init 221 = .ok (.return_, 1) := by decide +kernel
theorem cw_X12_init_86 : CwS mi_X12_init mi_X12_plain yX12_plain 86 1 := ⟨⟨w_1224, w_1225, w_108, w_1226⟩, ⟨by decide, by decide⟩, by decide +kernel, by decide, by decide⟩
theorem cw_X12_init_90 : CwV mi_X12_init mi_X12_begins yX12_begins RX12 90 0 := ⟨⟨w_1231, w_1233, w_42, w_108, w_1234⟩, ⟨by decide, by decide⟩, by decide +kernel, by decide, by decide⟩
theorem ct_X12_init {l : Launch} {Γ : Am} (r0 : Nat) (z : Hp) : Ct l Γ yX12_init mi_X12_init cvV [.ref (mB Γ + r0)] z (m_X12_init r0 z) := by
  refine Ct.ofJ (by decide) ⟨rfl, rfl⟩ (Nat.le_of_ble_eq_true rfl) ?_
  unfold m_X12_init
  show J l Γ mi_X12_init cvV 22 7782 0 [(0, .ref (mB Γ + r0))] [] z _
  refine j_aload_n (pc := 0) 0 dX12_init_0 rfl rfl ?_
  refine j_objInit (pc := 1) w_1223 w_122 w_123 dX12_init_1 (by decide) (by decide) ?_
  refine j_aload_n (pc := 4) 0 dX12_init_4 rfl rfl ?_
  refine j_sipush (pc := 5) (v := 810) dX12_init_5 (by decide) ?_
  refine j_newarr1 (pc := 8) (n0 := 810) (mc2 := 21) (ms2 := 6972) w_177 dX12_init_8 (by decide) (by decide) (by decide) (by decide) (by decide) (fun a1 z2 => ?_)
  refine j_putR (pc := 10) ok_X12 (by decide) rfl w_1239 (Or.inr ⟨rfl, rfl, rfl⟩) rfl rfl dX12_init_10 (fun z3 => ?_)
  refine j_aload_n (pc := 13) 0 dX12_init_13 rfl rfl ?_
  refine j_sipush (pc := 14) (v := 810) dX12_init_14 (by decide) ?_
  refine j_newarr1 (pc := 17) (n0 := 810) (mc2 := 20) (ms2 := 6162) w_177 dX12_init_17 (by decide) (by decide) (by decide) (by decide) (by decide) (fun a4 z5 => ?_)
  refine j_putR (pc := 19) ok_X12 (by decide) rfl w_1240 (Or.inr ⟨rfl, rfl, rfl⟩) rfl rfl dX12_init_19 (fun z6 => ?_)
  refine j_aload_n (pc := 22) 0 dX12_init_22 rfl rfl ?_
  refine j_sipush (pc := 23) (v := 2430) dX12_init_23 (by decide) ?_
  refine j_newarr1 (pc := 26) (n0 := 2430) (mc2 := 19) (ms2 := 3732) w_177 dX12_init_26 (by decide) (by decide) (by decide) (by decide) (by decide) (fun a7 z8 => ?_)
  refine j_putR (pc := 28) ok_X12 (by decide) rfl w_1241 (Or.inr ⟨rfl, rfl, rfl⟩) rfl rfl dX12_init_28 (fun z9 => ?_)
  refine j_aload_n (pc := 31) 0 dX12_init_31 rfl rfl ?_
  refine j_iconst (pc := 32) (v := 3) dX12_init_32 (by decide) ?_
  refine j_newarr2 (pc := 33) (n0 := 3) (mc2 := 18) (ms2 := 3729) w_1359 dX12_init_33 (by decide) (by decide) (by decide) (by decide) (by decide) (fun a10 z11 => ?_)
  refine j_putR (pc := 35) ok_X12 (by decide) rfl w_1242 (Or.inr ⟨rfl, rfl, rfl⟩) rfl rfl dX12_init_35 (fun z12 => ?_)
  refine j_aload_n (pc := 38) 0 dX12_init_38 rfl rfl ?_
  refine j_sipush (pc := 39) (v := 700) dX12_init_39 (by decide) ?_
  refine j_newarr3 (pc := 42) (n0 := 700) (mc2 := 17) (ms2 := 3029) w_783 dX12_init_42 (by decide) (by decide) (by decide) (by decide) (by decide) (fun a13 z14 => ?_)
  refine j_putR (pc := 44) ok_X12 (by decide) rfl w_1243 (Or.inr ⟨rfl, rfl, rfl⟩) rfl rfl dX12_init_44 (fun z15 => ?_)
  refine j_aload_n (pc := 47) 0 dX12_init_47 rfl rfl ?_
  refine j_iconst (pc := 48) (v := 5) dX12_init_48 (by decide) ?_
  refine j_newarr1 (pc := 49) (n0 := 5) (mc2 := 16) (ms2 := 3024) w_177 dX12_init_49 (by decide) (by decide) (by decide) (by decide) (by decide) (fun a16 z17 => ?_)
  refine j_putR (pc := 51) ok_X12 (by decide) rfl w_1245 (Or.inr ⟨rfl, rfl, rfl⟩) rfl rfl dX12_init_51 (fun z18 => ?_)
  refine j_aload_n (pc := 54) 0 dX12_init_54 rfl rfl ?_
  refine j_iconst (pc := 55) (v := (-1)) dX12_init_55 (by decide) ?_
  refine j_putI (pc := 56) ok_X12 (by decide) rfl w_1252 (Or.inl rfl) rfl rfl dX12_init_56 (fun z19 => ?_)
  refine j_aload_n (pc := 59) 0 dX12_init_59 rfl rfl ?_
  refine j_sipush (pc := 60) (v := 810) dX12_init_60 (by decide) ?_
  refine j_newarr1 (pc := 63) (n0 := 810) (mc2 := 15) (ms2 := 2214) w_177 dX12_init_63 (by decide) (by decide) (by decide) (by decide) (by decide) (fun a20 z21 => ?_)
  refine j_putR (pc := 65) ok_X12 (by decide) rfl w_1253 (Or.inr ⟨rfl, rfl, rfl⟩) rfl rfl dX12_init_65 (fun z22 => ?_)
  refine j_aload_n (pc := 68) 0 dX12_init_68 rfl rfl ?_
  refine j_iconst (pc := 69) (v := 4) dX12_init_69 (by decide) ?_
  refine j_newarr2 (pc := 70) (n0 := 4) (mc2 := 14) (ms2 := 2210) w_1359 dX12_init_70 (by decide) (by decide) (by decide) (by decide) (by decide) (fun a23 z24 => ?_)
  refine j_putR (pc := 72) ok_X12 (by decide) rfl w_1254 (Or.inr ⟨rfl, rfl, rfl⟩) rfl rfl dX12_init_72 (fun z25 => ?_)
  refine j_aload_n (pc := 75) 0 dX12_init_75 rfl rfl ?_
  refine j_bipush (pc := 76) (v := 12) dX12_init_76 (by decide) ?_
  refine j_newarr2 (pc := 78) (n0 := 12) (mc2 := 13) (ms2 := 2198) w_1359 dX12_init_78 (by decide) (by decide) (by decide) (by decide) (by decide) (fun a26 z27 => ?_)
  refine j_putR (pc := 80) ok_X12 (by decide) rfl w_1255 (Or.inr ⟨rfl, rfl, rfl⟩) rfl rfl dX12_init_80 (fun z28 => ?_)
  refine j_aload_n (pc := 83) 0 dX12_init_83 rfl rfl ?_
  refine j_sipush (pc := 84) (v := 144) dX12_init_84 (by decide) ?_
  refine j_newarr1 (pc := 87) (n0 := 144) (mc2 := 12) (ms2 := 2054) w_177 dX12_init_87 (by decide) (by decide) (by decide) (by decide) (by decide) (fun a29 z30 => ?_)
  refine j_putR (pc := 89) ok_X12 (by decide) rfl w_1262 (Or.inr ⟨rfl, rfl, rfl⟩) rfl rfl dX12_init_89 (fun z31 => ?_)
  refine j_aload_n (pc := 92) 0 dX12_init_92 rfl rfl ?_
  refine j_bipush (pc := 93) (v := 18) dX12_init_93 (by decide) ?_
  refine j_newarr1 (pc := 95) (n0 := 18) (mc2 := 11) (ms2 := 2036) w_177 dX12_init_95 (by decide) (by decide) (by decide) (by decide) (by decide) (fun a32 z33 => ?_)
  refine j_putR (pc := 97) ok_X12 (by decide) rfl w_1263 (Or.inr ⟨rfl, rfl, rfl⟩) rfl rfl dX12_init_97 (fun z34 => ?_)
  refine j_aload_n (pc := 100) 0 dX12_init_100 rfl rfl ?_
  refine j_sipush (pc := 101) (v := 144) dX12_init_101 (by decide) ?_
  refine j_newarr1 (pc := 104) (n0 := 144) (mc2 := 10) (ms2 := 1892) w_177 dX12_init_104 (by decide) (by decide) (by decide) (by decide) (by decide) (fun a35 z36 => ?_)
  refine j_putR (pc := 106) ok_X12 (by decide) rfl w_1264 (Or.inr ⟨rfl, rfl, rfl⟩) rfl rfl dX12_init_106 (fun z37 => ?_)
  refine j_aload_n (pc := 109) 0 dX12_init_109 rfl rfl ?_
  refine j_sipush (pc := 110) (v := 144) dX12_init_110 (by decide) ?_
  refine j_newarr2 (pc := 113) (n0 := 144) (mc2 := 9) (ms2 := 1748) w_1359 dX12_init_113 (by decide) (by decide) (by decide) (by decide) (by decide) (fun a38 z39 => ?_)
  refine j_putR (pc := 115) ok_X12 (by decide) rfl w_1265 (Or.inr ⟨rfl, rfl, rfl⟩) rfl rfl dX12_init_115 (fun z40 => ?_)
  refine j_aload_n (pc := 118) 0 dX12_init_118 rfl rfl ?_
  refine j_sipush (pc := 119) (v := 576) dX12_init_119 (by decide) ?_
  refine j_newarr2 (pc := 122) (n0 := 576) (mc2 := 8) (ms2 := 1172) w_1359 dX12_init_122 (by decide) (by decide) (by decide) (by decide) (by decide) (fun a41 z42 => ?_)
  refine j_putR (pc := 124) ok_X12 (by decide) rfl w_1266 (Or.inr ⟨rfl, rfl, rfl⟩) rfl rfl dX12_init_124 (fun z43 => ?_)
  refine j_aload_n (pc := 127) 0 dX12_init_127 rfl rfl ?_
  refine j_sipush (pc := 128) (v := 288) dX12_init_128 (by decide) ?_
  refine j_newarr1 (pc := 131) (n0 := 288) (mc2 := 7) (ms2 := 884) w_177 dX12_init_131 (by decide) (by decide) (by decide) (by decide) (by decide) (fun a44 z45 => ?_)
  refine j_putR (pc := 133) ok_X12 (by decide) rfl w_1267 (Or.inr ⟨rfl, rfl, rfl⟩) rfl rfl dX12_init_133 (fun z46 => ?_)
  refine j_aload_n (pc := 136) 0 dX12_init_136 rfl rfl ?_
  refine j_sipush (pc := 137) (v := 288) dX12_init_137 (by decide) ?_
  refine j_newarr1 (pc := 140) (n0 := 288) (mc2 := 6) (ms2 := 596) w_177 dX12_init_140 (by decide) (by decide) (by decide) (by decide) (by decide) (fun a47 z48 => ?_)
  refine j_putR (pc := 142) ok_X12 (by decide) rfl w_1268 (Or.inr ⟨rfl, rfl, rfl⟩) rfl rfl dX12_init_142 (fun z49 => ?_)
  refine j_aload_n (pc := 145) 0 dX12_init_145 rfl rfl ?_
  refine j_sipush (pc := 146) (v := 144) dX12_init_146 (by decide) ?_
  refine j_newarr2 (pc := 149) (n0 := 144) (mc2 := 5) (ms2 := 452) w_1359 dX12_init_149 (by decide) (by decide) (by decide) (by decide) (by decide) (fun a50 z51 => ?_)
  refine j_putR (pc := 151) ok_X12 (by decide) rfl w_1270 (Or.inr ⟨rfl, rfl, rfl⟩) rfl rfl dX12_init_151 (fun z52 => ?_)
  refine j_aload_n (pc := 154) 0 dX12_init_154 rfl rfl ?_
  refine j_sipush (pc := 155) (v := 144) dX12_init_155 (by decide) ?_
  refine j_newarr1 (pc := 158) (n0 := 144) (mc2 := 4) (ms2 := 308) w_177 dX12_init_158 (by decide) (by decide) (by decide) (by decide) (by decide) (fun a53 z54 => ?_)
  refine j_putR (pc := 160) ok_X12 (by decide) rfl w_1271 (Or.inr ⟨rfl, rfl, rfl⟩) rfl rfl dX12_init_160 (fun z55 => ?_)
  refine j_aload_n (pc := 163) 0 dX12_init_163 rfl rfl ?_
  refine j_iconst (pc := 164) (v := 4) dX12_init_164 (by decide) ?_
  refine j_newarr1 (pc := 165) (n0 := 4) (mc2 := 3) (ms2 := 304) w_177 dX12_init_165 (by decide) (by decide) (by decide) (by decide) (by decide) (fun a56 z57 => ?_)
  refine j_dup (pc := 167) dX12_init_167 rfl ?_
  refine j_iconst (pc := 168) (v := 0) dX12_init_168 (by decide) ?_
  refine j_iconst (pc := 169) (v := (-1)) dX12_init_169 (by decide) ?_
  refine j_iastore (pc := 170) dX12_init_170 (fun z58 => ?_)
  refine j_dup (pc := 171) dX12_init_171 rfl ?_
  refine j_iconst (pc := 172) (v := 1) dX12_init_172 (by decide) ?_
  refine j_iconst (pc := 173) (v := (-1)) dX12_init_173 (by decide) ?_
  refine j_iastore (pc := 174) dX12_init_174 (fun z59 => ?_)
  refine j_dup (pc := 175) dX12_init_175 rfl ?_
  refine j_iconst (pc := 176) (v := 2) dX12_init_176 (by decide) ?_
  refine j_iconst (pc := 177) (v := (-1)) dX12_init_177 (by decide) ?_
  refine j_iastore (pc := 178) dX12_init_178 (fun z60 => ?_)
  refine j_dup (pc := 179) dX12_init_179 rfl ?_
  refine j_iconst (pc := 180) (v := 3) dX12_init_180 (by decide) ?_
  refine j_iconst (pc := 181) (v := (-1)) dX12_init_181 (by decide) ?_
  refine j_iastore (pc := 182) dX12_init_182 (fun z61 => ?_)
  refine j_putR (pc := 183) ok_X12 (by decide) rfl w_1274 (Or.inr ⟨rfl, rfl, rfl⟩) rfl rfl dX12_init_183 (fun z62 => ?_)
  refine j_aload_n (pc := 186) 0 dX12_init_186 rfl rfl ?_
  refine j_iconst (pc := 187) (v := 4) dX12_init_187 (by decide) ?_
  refine j_newarr1 (pc := 188) (n0 := 4) (mc2 := 2) (ms2 := 300) w_177 dX12_init_188 (by decide) (by decide) (by decide) (by decide) (by decide) (fun a63 z64 => ?_)
  refine j_putR (pc := 190) ok_X12 (by decide) rfl w_1275 (Or.inr ⟨rfl, rfl, rfl⟩) rfl rfl dX12_init_190 (fun z65 => ?_)
  refine j_aload_n (pc := 193) 0 dX12_init_193 rfl rfl ?_
  refine j_sipush (pc := 194) (v := 240) dX12_init_194 (by decide) ?_
  refine j_newarr4 (pc := 197) (n0 := 240) (mc2 := 1) (ms2 := 60) w_514 dX12_init_197 (by decide) (by decide) (by decide) (by decide) (by decide) (fun a66 z67 => ?_)
  refine j_putR (pc := 199) ok_X12 (by decide) rfl w_1276 (Or.inr ⟨rfl, rfl, rfl⟩) rfl rfl dX12_init_199 (fun z68 => ?_)
  refine j_aload_n (pc := 202) 0 dX12_init_202 rfl rfl ?_
  refine j_bipush (pc := 203) (v := 60) dX12_init_203 (by decide) ?_
  refine j_newarr4 (pc := 205) (n0 := 60) (mc2 := 0) (ms2 := 0) w_514 dX12_init_205 (by decide) (by decide) (by decide) (by decide) (by decide) (fun a69 z70 => ?_)
  refine j_putR (pc := 207) ok_X12 (by decide) rfl w_1277 (Or.inr ⟨rfl, rfl, rfl⟩) rfl rfl dX12_init_207 (fun z71 => ?_)
  refine j_aload_n (pc := 210) 0 dX12_init_210 rfl rfl ?_
  refine j_getR (pc := 211) ok_X12 (by decide) rfl w_1239 dX12_init_211 (fun a72 => ?_)
  refine j_callS_V (pc := 214) (as := [.ref (mB Γ + a72)]) (mc2 := 0) (ms2 := 0) (ct_X12_plain _ _) cw_X12_init_86 dX12_init_214 (Nat.le_of_ble_eq_true rfl) rfl (by decide) (by decide) (fun _ z73 => ?_)
  refine j_aload_n (pc := 217) 0 dX12_init_217 rfl rfl ?_
  refine j_isC (fun h75 => ?_)
  refine j_callV_V (pc := 218) (as := []) (mc2 := 0) (ms2 := 0) (ct_X12_begins _ _) h75 rfl cw_X12_init_90 dX12_init_218 (Nat.le_of_ble_eq_true rfl) rfl (by decide) (by decide) (fun _ z74 => ?_)
  exact j_return (pc := 221) dX12_init_221 rfl
theorem dX12_groundOf_0 : decode cX12_groundOf 0 = .ok (.aload_n 0, 1) := by decide +kernel
theorem dX12_groundOf_1 : decode cX12_groundOf 1 = .ok (.getfield 13, 3) := by decide +kernel
theorem dX12_groundOf_4 : decode cX12_groundOf 4 = .ok (.bipush 20, 2) := by decide +kernel
theorem dX12_groundOf_6 : decode cX12_groundOf 6 = .ok (.iconst 4, 1) := by decide +kernel
theorem dX12_groundOf_7 : decode cX12_groundOf 7 = .ok (.aload_n 0, 1) := by decide +kernel
theorem dX12_groundOf_8 : decode cX12_groundOf 8 = .ok (.getfield 13, 3) := by decide +kernel
theorem dX12_groundOf_11 : decode cX12_groundOf 11 = .ok (.bipush 48, 2) := by decide +kernel
theorem dX12_groundOf_13 : decode cX12_groundOf 13 = .ok (.iload_n 1, 1) := by decide +kernel
theorem dX12_groundOf_14 : decode cX12_groundOf 14 = .ok (.iadd, 1) := by decide +kernel
theorem dX12_groundOf_15 : decode cX12_groundOf 15 = .ok (.iaload, 1) := by decide +kernel
theorem dX12_groundOf_16 : decode cX12_groundOf 16 = .ok (.imul, 1) := by decide +kernel
theorem dX12_groundOf_17 : decode cX12_groundOf 17 = .ok (.iadd, 1) := by decide +kernel
theorem dX12_groundOf_18 : decode cX12_groundOf 18 = .ok (.iload_n 2, 1) := by decide +kernel
theorem dX12_groundOf_19 : decode cX12_groundOf 19 = .ok (.iadd, 1) := by decide +kernel
theorem dX12_groundOf_20 : decode cX12_groundOf 20 = .ok (.iaload, 1) := by decide +kernel
theorem dX12_groundOf_21 : decode cX12_groundOf 21 = .ok (.ireturn, 1) := by decide +kernel
theorem ct_X12_groundOf {l : Launch} {Γ : Am} (r0 : Nat) (v1 : Int32) (v2 : Int32) (z : Hp) : Ct l Γ yX12_groundOf mi_X12_groundOf cvI [.ref (mB Γ + r0), .int v1, .int v2] z (m_X12_groundOf r0 v1 v2 z) := by
  refine Ct.ofJ (by decide) ⟨rfl, rfl⟩ (Nat.le_of_ble_eq_true rfl) ?_
  unfold m_X12_groundOf
  show J l Γ mi_X12_groundOf cvI 0 0 0 [(0, .ref (mB Γ + r0)), (1, .int v1), (2, .int v2)] [] z _
  refine j_aload_n (pc := 0) 0 dX12_groundOf_0 rfl rfl ?_
  refine j_getR (pc := 1) ok_X12 (by decide) rfl w_1239 dX12_groundOf_1 (fun a1 => ?_)
  refine j_bipush (pc := 4) (v := 20) dX12_groundOf_4 (by decide) ?_
  refine j_iconst (pc := 6) (v := 4) dX12_groundOf_6 (by decide) ?_
  refine j_aload_n (pc := 7) 0 dX12_groundOf_7 rfl rfl ?_
  refine j_getR (pc := 8) ok_X12 (by decide) rfl w_1239 dX12_groundOf_8 (fun a2 => ?_)
  refine j_bipush (pc := 11) (v := 48) dX12_groundOf_11 (by decide) ?_
  refine j_iload_n (pc := 13) 1 dX12_groundOf_13 rfl rfl ?_
  refine j_iadd (pc := 14) dX12_groundOf_14 ?_
  refine j_iaload (pc := 15) dX12_groundOf_15 (fun x3 => ?_)
  refine j_imul (pc := 16) dX12_groundOf_16 ?_
  refine j_iadd (pc := 17) dX12_groundOf_17 ?_
  refine j_iload_n (pc := 18) 2 dX12_groundOf_18 rfl rfl ?_
  refine j_iadd (pc := 19) dX12_groundOf_19 ?_
  refine j_iaload (pc := 20) dX12_groundOf_20 (fun x4 => ?_)
  exact j_ireturn (pc := 21) dX12_groundOf_21 rfl rfl
theorem dX12_isDug_0 : decode cX12_isDug 0 = .ok (.aload_n 0, 1) := by decide +kernel
theorem dX12_isDug_1 : decode cX12_isDug 1 = .ok (.getfield 13, 3) := by decide +kernel
theorem dX12_isDug_4 : decode cX12_isDug 4 = .ok (.sipush 480, 3) := by decide +kernel
theorem dX12_isDug_7 : decode cX12_isDug 7 = .ok (.iload_n 1, 1) := by decide +kernel
theorem dX12_isDug_8 : decode cX12_isDug 8 = .ok (.iadd, 1) := by decide +kernel
theorem dX12_isDug_9 : decode cX12_isDug 9 = .ok (.iaload, 1) := by decide +kernel
theorem dX12_isDug_10 : decode cX12_isDug 10 = .ok (.iconst 1, 1) := by decide +kernel
theorem dX12_isDug_11 : decode cX12_isDug 11 = .ok (.if_icmp .ne 7, 3) := by decide +kernel
theorem dX12_isDug_14 : decode cX12_isDug 14 = .ok (.iconst 1, 1) := by decide +kernel
theorem dX12_isDug_15 : decode cX12_isDug 15 = .ok (.goto 4, 3) := by decide +kernel
theorem dX12_isDug_18 : decode cX12_isDug 18 = .ok (.iconst 0, 1) := by decide +kernel
theorem dX12_isDug_19 : decode cX12_isDug 19 = .ok (.ireturn, 1) := by decide +kernel
theorem ct_X12_isDug {l : Launch} {Γ : Am} (r0 : Nat) (v1 : Int32) (z : Hp) : Ct l Γ yX12_isDug mi_X12_isDug cvI [.ref (mB Γ + r0), .int v1] z (m_X12_isDug r0 v1 z) := by
  refine Ct.ofJ (by decide) ⟨rfl, rfl⟩ (Nat.le_of_ble_eq_true rfl) ?_
  unfold m_X12_isDug
  show J l Γ mi_X12_isDug cvI 0 0 0 [(0, .ref (mB Γ + r0)), (1, .int v1)] [] z _
  refine j_aload_n (pc := 0) 0 dX12_isDug_0 rfl rfl ?_
  refine j_getR (pc := 1) ok_X12 (by decide) rfl w_1239 dX12_isDug_1 (fun a1 => ?_)
  refine j_sipush (pc := 4) (v := 480) dX12_isDug_4 (by decide) ?_
  refine j_iload_n (pc := 7) 1 dX12_isDug_7 rfl rfl ?_
  refine j_iadd (pc := 8) dX12_isDug_8 ?_
  refine j_iaload (pc := 9) dX12_isDug_9 (fun x2 => ?_)
  refine j_iconst (pc := 10) (v := 1) dX12_isDug_10 (by decide) ?_
  refine j_icmp_ne (pc := 11) 18 dX12_isDug_11 (by decide) ?_ ?_
  · refine j_iconst (pc := 18) (v := 0) dX12_isDug_18 (by decide) ?_
    exact j_ireturn (pc := 19) dX12_isDug_19 rfl rfl
  refine j_iconst (pc := 14) (v := 1) dX12_isDug_14 (by decide) ?_
  refine j_goto (pc := 15) 19 dX12_isDug_15 (by decide) ?_
  exact j_ireturn (pc := 19) dX12_isDug_19 rfl rfl
theorem dX12_isFrozen_0 : decode cX12_isFrozen 0 = .ok (.aload_n 0, 1) := by decide +kernel
theorem dX12_isFrozen_1 : decode cX12_isFrozen 1 = .ok (.iload_n 1, 1) := by decide +kernel
theorem dX12_isFrozen_2 : decode cX12_isFrozen 2 = .ok (.invokevirtual 102, 3) := by decide +kernel
theorem dX12_isFrozen_5 : decode cX12_isFrozen 5 = .ok (.ifCond .ne 26, 3) := by decide +kernel
theorem dX12_isFrozen_8 : decode cX12_isFrozen 8 = .ok (.aload_n 0, 1) := by decide +kernel
theorem dX12_isFrozen_9 : decode cX12_isFrozen 9 = .ok (.getfield 13, 3) := by decide +kernel
theorem dX12_isFrozen_12 : decode cX12_isFrozen 12 = .ok (.sipush 336, 3) := by decide +kernel
theorem dX12_isFrozen_15 : decode cX12_isFrozen 15 = .ok (.iload_n 1, 1) := by decide +kernel
theorem dX12_isFrozen_16 : decode cX12_isFrozen 16 = .ok (.iadd, 1) := by decide +kernel
theorem dX12_isFrozen_17 : decode cX12_isFrozen 17 = .ok (.iaload, 1) := by decide +kernel
theorem dX12_isFrozen_18 : decode cX12_isFrozen 18 = .ok (.aload_n 0, 1) := by decide +kernel
theorem dX12_isFrozen_19 : decode cX12_isFrozen 19 = .ok (.iload_n 1, 1) := by decide +kernel
theorem dX12_isFrozen_20 : decode cX12_isFrozen 20 = .ok (.iconst 2, 1) := by decide +kernel
theorem dX12_isFrozen_21 : decode cX12_isFrozen 21 = .ok (.invokevirtual 106, 3) := by decide +kernel
theorem dX12_isFrozen_24 : decode cX12_isFrozen 24 = .ok (.if_icmp .ne 7, 3) := by decide +kernel
theorem dX12_isFrozen_27 : decode cX12_isFrozen 27 = .ok (.iconst 1, 1) := by decide +kernel
theorem dX12_isFrozen_28 : decode cX12_isFrozen 28 = .ok (.goto 4, 3) := by decide +kernel
theorem dX12_isFrozen_31 : decode cX12_isFrozen 31 = .ok (.iconst 0, 1) := by decide +kernel
theorem dX12_isFrozen_32 : decode cX12_isFrozen 32 = .ok (.ireturn, 1) := by decide +kernel
theorem cw_X12_isFrozen_102 : CwV mi_X12_isFrozen mi_X12_isDug yX12_isDug RX12 102 1 := ⟨⟨w_1511, w_1513, w_65, w_108, w_1514⟩, ⟨by decide, by decide⟩, by decide +kernel, by decide, by decide⟩
theorem cw_X12_isFrozen_106 : CwV mi_X12_isFrozen mi_X12_groundOf yX12_groundOf RX12 106 2 := ⟨⟨w_1533, w_1535, w_69, w_108, w_1536⟩, ⟨by decide, by decide⟩, by decide +kernel, by decide, by decide⟩
theorem ct_X12_isFrozen {l : Launch} {Γ : Am} (r0 : Nat) (v1 : Int32) (z : Hp) : Ct l Γ yX12_isFrozen mi_X12_isFrozen cvI [.ref (mB Γ + r0), .int v1] z (m_X12_isFrozen r0 v1 z) := by
  refine Ct.ofJ (by decide) ⟨rfl, rfl⟩ (Nat.le_of_ble_eq_true rfl) ?_
  unfold m_X12_isFrozen
  show J l Γ mi_X12_isFrozen cvI 0 0 0 [(0, .ref (mB Γ + r0)), (1, .int v1)] [] z _
  refine j_aload_n (pc := 0) 0 dX12_isFrozen_0 rfl rfl ?_
  refine j_iload_n (pc := 1) 1 dX12_isFrozen_1 rfl rfl ?_
  refine j_isC (fun h3 => ?_)
  refine j_callV_I (pc := 2) (as := [.int v1]) (mc2 := 0) (ms2 := 0) (ct_X12_isDug _ _ _) h3 rfl cw_X12_isFrozen_102 dX12_isFrozen_2 (Nat.le_of_ble_eq_true rfl) rfl (by decide) (by decide) (fun x2 z1 => ?_)
  refine j_if_ne (pc := 5) 31 dX12_isFrozen_5 (by decide) ?_ ?_
  · refine j_iconst (pc := 31) (v := 0) dX12_isFrozen_31 (by decide) ?_
    exact j_ireturn (pc := 32) dX12_isFrozen_32 rfl rfl
  refine j_aload_n (pc := 8) 0 dX12_isFrozen_8 rfl rfl ?_
  refine j_getR (pc := 9) ok_X12 (by decide) rfl w_1239 dX12_isFrozen_9 (fun a4 => ?_)
  refine j_sipush (pc := 12) (v := 336) dX12_isFrozen_12 (by decide) ?_
  refine j_iload_n (pc := 15) 1 dX12_isFrozen_15 rfl rfl ?_
  refine j_iadd (pc := 16) dX12_isFrozen_16 ?_
  refine j_iaload (pc := 17) dX12_isFrozen_17 (fun x5 => ?_)
  refine j_aload_n (pc := 18) 0 dX12_isFrozen_18 rfl rfl ?_
  refine j_iload_n (pc := 19) 1 dX12_isFrozen_19 rfl rfl ?_
  refine j_iconst (pc := 20) (v := 2) dX12_isFrozen_20 (by decide) ?_
  refine j_isC (fun h8 => ?_)
  refine j_callV_I (pc := 21) (as := [.int v1, .int 2]) (mc2 := 0) (ms2 := 0) (ct_X12_groundOf _ _ _ _) h8 rfl cw_X12_isFrozen_106 dX12_isFrozen_21 (Nat.le_of_ble_eq_true rfl) rfl (by decide) (by decide) (fun x7 z6 => ?_)
  refine j_icmp_ne (pc := 24) 31 dX12_isFrozen_24 (by decide) ?_ ?_
  · refine j_iconst (pc := 31) (v := 0) dX12_isFrozen_31 (by decide) ?_
    exact j_ireturn (pc := 32) dX12_isFrozen_32 rfl rfl
  refine j_iconst (pc := 27) (v := 1) dX12_isFrozen_27 (by decide) ?_
  refine j_goto (pc := 28) 32 dX12_isFrozen_28 (by decide) ?_
  exact j_ireturn (pc := 32) dX12_isFrozen_32 rfl rfl
theorem dX12_isShaft_0 : decode cX12_isShaft 0 = .ok (.aload_n 0, 1) := by decide +kernel
theorem dX12_isShaft_1 : decode cX12_isShaft 1 = .ok (.getfield 13, 3) := by decide +kernel
theorem dX12_isShaft_4 : decode cX12_isShaft 4 = .ok (.bipush 7, 2) := by decide +kernel
theorem dX12_isShaft_6 : decode cX12_isShaft 6 = .ok (.iaload, 1) := by decide +kernel
theorem dX12_isShaft_7 : decode cX12_isShaft 7 = .ok (.iconst 1, 1) := by decide +kernel
theorem dX12_isShaft_8 : decode cX12_isShaft 8 = .ok (.if_icmp .ne 61, 3) := by decide +kernel
theorem dX12_isShaft_11 : decode cX12_isShaft 11 = .ok (.iload_n 1, 1) := by decide +kernel
theorem dX12_isShaft_12 : decode cX12_isShaft 12 = .ok (.bipush 12, 2) := by decide +kernel
theorem dX12_isShaft_14 : decode cX12_isShaft 14 = .ok (.irem, 1) := by decide +kernel
theorem dX12_isShaft_15 : decode cX12_isShaft 15 = .ok (.i2l, 1) := by decide +kernel
theorem dX12_isShaft_16 : decode cX12_isShaft 16 = .ok (.aload_n 0, 1) := by decide +kernel
theorem dX12_isShaft_17 : decode cX12_isShaft 17 = .ok (.getfield 13, 3) := by decide +kernel
theorem dX12_isShaft_20 : decode cX12_isShaft 20 = .ok (.bipush 8, 2) := by decide +kernel
theorem dX12_isShaft_22 : decode cX12_isShaft 22 = .ok (.iaload, 1) := by decide +kernel
theorem dX12_isShaft_23 : decode cX12_isShaft 23 = .ok (.i2l, 1) := by decide +kernel
theorem dX12_isShaft_24 : decode cX12_isShaft 24 = .ok (.aload_n 0, 1) := by decide +kernel
theorem dX12_isShaft_25 : decode cX12_isShaft 25 = .ok (.getfield 13, 3) := by decide +kernel
theorem dX12_isShaft_28 : decode cX12_isShaft 28 = .ok (.bipush 10, 2) := by decide +kernel
theorem dX12_isShaft_30 : decode cX12_isShaft 30 = .ok (.iaload, 1) := by decide +kernel
theorem dX12_isShaft_31 : decode cX12_isShaft 31 = .ok (.i2l, 1) := by decide +kernel
theorem dX12_isShaft_32 : decode cX12_isShaft 32 = .ok (.invokestatic 110, 3) := by decide +kernel
theorem dX12_isShaft_35 : decode cX12_isShaft 35 = .ok (.ifCond .eq 34, 3) := by decide +kernel
theorem dX12_isShaft_38 : decode cX12_isShaft 38 = .ok (.iload_n 1, 1) := by decide +kernel
theorem dX12_isShaft_39 : decode cX12_isShaft 39 = .ok (.bipush 12, 2) := by decide +kernel
theorem dX12_isShaft_41 : decode cX12_isShaft 41 = .ok (.idiv, 1) := by decide +kernel
theorem dX12_isShaft_42 : decode cX12_isShaft 42 = .ok (.i2l, 1) := by decide +kernel
theorem dX12_isShaft_43 : decode cX12_isShaft 43 = .ok (.aload_n 0, 1) := by decide +kernel
theorem dX12_isShaft_44 : decode cX12_isShaft 44 = .ok (.getfield 13, 3) := by decide +kernel
theorem dX12_isShaft_47 : decode cX12_isShaft 47 = .ok (.bipush 9, 2) := by decide +kernel
theorem dX12_isShaft_49 : decode cX12_isShaft 49 = .ok (.iaload, 1) := by decide +kernel
theorem dX12_isShaft_50 : decode cX12_isShaft 50 = .ok (.i2l, 1) := by decide +kernel
theorem dX12_isShaft_51 : decode cX12_isShaft 51 = .ok (.aload_n 0, 1) := by decide +kernel
theorem dX12_isShaft_52 : decode cX12_isShaft 52 = .ok (.getfield 13, 3) := by decide +kernel
theorem dX12_isShaft_55 : decode cX12_isShaft 55 = .ok (.bipush 11, 2) := by decide +kernel
theorem dX12_isShaft_57 : decode cX12_isShaft 57 = .ok (.iaload, 1) := by decide +kernel
theorem dX12_isShaft_58 : decode cX12_isShaft 58 = .ok (.i2l, 1) := by decide +kernel
theorem dX12_isShaft_59 : decode cX12_isShaft 59 = .ok (.invokestatic 110, 3) := by decide +kernel
theorem dX12_isShaft_62 : decode cX12_isShaft 62 = .ok (.ifCond .eq 7, 3) := by decide +kernel
theorem dX12_isShaft_65 : decode cX12_isShaft 65 = .ok (.iconst 1, 1) := by decide +kernel
theorem dX12_isShaft_66 : decode cX12_isShaft 66 = .ok (.goto 4, 3) := by decide +kernel
theorem dX12_isShaft_69 : decode cX12_isShaft 69 = .ok (.iconst 0, 1) := by decide +kernel
theorem dX12_isShaft_70 : decode cX12_isShaft 70 = .ok (.ireturn, 1) := by decide +kernel
theorem cw_X12_isShaft_110 : CwS mi_X12_isShaft mi_X12_in yX12_in 110 3 := ⟨⟨w_1365, w_1366, w_108, w_1367⟩, ⟨by decide, by decide⟩, by decide +kernel, by decide, by decide⟩
theorem ct_X12_isShaft {l : Launch} {Γ : Am} (r0 : Nat) (v1 : Int32) (z : Hp) : Ct l Γ yX12_isShaft mi_X12_isShaft cvI [.ref (mB Γ + r0), .int v1] z (m_X12_isShaft r0 v1 z) := by
  refine Ct.ofJ (by decide) ⟨rfl, rfl⟩ (Nat.le_of_ble_eq_true rfl) ?_
  unfold m_X12_isShaft
  show J l Γ mi_X12_isShaft cvI 0 0 0 [(0, .ref (mB Γ + r0)), (1, .int v1)] [] z _
  refine j_aload_n (pc := 0) 0 dX12_isShaft_0 rfl rfl ?_
  refine j_getR (pc := 1) ok_X12 (by decide) rfl w_1239 dX12_isShaft_1 (fun a1 => ?_)
  refine j_bipush (pc := 4) (v := 7) dX12_isShaft_4 (by decide) ?_
  refine j_iaload (pc := 6) dX12_isShaft_6 (fun x2 => ?_)
  refine j_iconst (pc := 7) (v := 1) dX12_isShaft_7 (by decide) ?_
  refine j_icmp_ne (pc := 8) 69 dX12_isShaft_8 (by decide) ?_ ?_
  · refine j_iconst (pc := 69) (v := 0) dX12_isShaft_69 (by decide) ?_
    exact j_ireturn (pc := 70) dX12_isShaft_70 rfl rfl
  refine j_iload_n (pc := 11) 1 dX12_isShaft_11 rfl rfl ?_
  refine j_bipush (pc := 12) (v := 12) dX12_isShaft_12 (by decide) ?_
  refine j_irem (pc := 14) dX12_isShaft_14 (by decide) ?_
  refine j_i2l (pc := 15) dX12_isShaft_15 ?_
  refine j_aload_n (pc := 16) 0 dX12_isShaft_16 rfl rfl ?_
  refine j_getR (pc := 17) ok_X12 (by decide) rfl w_1239 dX12_isShaft_17 (fun a3 => ?_)
  refine j_bipush (pc := 20) (v := 8) dX12_isShaft_20 (by decide) ?_
  refine j_iaload (pc := 22) dX12_isShaft_22 (fun x4 => ?_)
  refine j_i2l (pc := 23) dX12_isShaft_23 ?_
  refine j_aload_n (pc := 24) 0 dX12_isShaft_24 rfl rfl ?_
  refine j_getR (pc := 25) ok_X12 (by decide) rfl w_1239 dX12_isShaft_25 (fun a5 => ?_)
  refine j_bipush (pc := 28) (v := 10) dX12_isShaft_28 (by decide) ?_
  refine j_iaload (pc := 30) dX12_isShaft_30 (fun x6 => ?_)
  refine j_i2l (pc := 31) dX12_isShaft_31 ?_
  refine j_callS_I (pc := 32) (as := [.long (Int32.toInt64 (v1 - v1 / 12 * 12)), .long (Int32.toInt64 x4), .long (Int32.toInt64 x6)]) (mc2 := 0) (ms2 := 0) (ct_X12_in _ _ _ _) cw_X12_isShaft_110 dX12_isShaft_32 (Nat.le_of_ble_eq_true rfl) rfl (by decide) (by decide) (fun x8 z7 => ?_)
  refine j_if_eq (pc := 35) 69 dX12_isShaft_35 (by decide) ?_ ?_
  · refine j_iconst (pc := 69) (v := 0) dX12_isShaft_69 (by decide) ?_
    exact j_ireturn (pc := 70) dX12_isShaft_70 rfl rfl
  refine j_iload_n (pc := 38) 1 dX12_isShaft_38 rfl rfl ?_
  refine j_bipush (pc := 39) (v := 12) dX12_isShaft_39 (by decide) ?_
  refine j_idiv (pc := 41) dX12_isShaft_41 (by decide) ?_
  refine j_i2l (pc := 42) dX12_isShaft_42 ?_
  refine j_aload_n (pc := 43) 0 dX12_isShaft_43 rfl rfl ?_
  refine j_getR (pc := 44) ok_X12 (by decide) rfl w_1239 dX12_isShaft_44 (fun a9 => ?_)
  refine j_bipush (pc := 47) (v := 9) dX12_isShaft_47 (by decide) ?_
  refine j_iaload (pc := 49) dX12_isShaft_49 (fun x10 => ?_)
  refine j_i2l (pc := 50) dX12_isShaft_50 ?_
  refine j_aload_n (pc := 51) 0 dX12_isShaft_51 rfl rfl ?_
  refine j_getR (pc := 52) ok_X12 (by decide) rfl w_1239 dX12_isShaft_52 (fun a11 => ?_)
  refine j_bipush (pc := 55) (v := 11) dX12_isShaft_55 (by decide) ?_
  refine j_iaload (pc := 57) dX12_isShaft_57 (fun x12 => ?_)
  refine j_i2l (pc := 58) dX12_isShaft_58 ?_
  refine j_callS_I (pc := 59) (as := [.long (Int32.toInt64 (v1 / 12)), .long (Int32.toInt64 x10), .long (Int32.toInt64 x12)]) (mc2 := 0) (ms2 := 0) (ct_X12_in _ _ _ _) cw_X12_isShaft_110 dX12_isShaft_59 (Nat.le_of_ble_eq_true rfl) rfl (by decide) (by decide) (fun x14 z13 => ?_)
  refine j_if_eq (pc := 62) 69 dX12_isShaft_62 (by decide) ?_ ?_
  · refine j_iconst (pc := 69) (v := 0) dX12_isShaft_69 (by decide) ?_
    exact j_ireturn (pc := 70) dX12_isShaft_70 rfl rfl
  refine j_iconst (pc := 65) (v := 1) dX12_isShaft_65 (by decide) ?_
  refine j_goto (pc := 66) 70 dX12_isShaft_66 (by decide) ?_
  exact j_ireturn (pc := 70) dX12_isShaft_70 rfl rfl
theorem dX12_isPlace_0 : decode cX12_isPlace 0 = .ok (.iload_n 0, 1) := by decide +kernel
theorem dX12_isPlace_1 : decode cX12_isPlace 1 = .ok (.i2l, 1) := by decide +kernel
theorem dX12_isPlace_2 : decode cX12_isPlace 2 = .ok (.lconst 0, 1) := by decide +kernel
theorem dX12_isPlace_3 : decode cX12_isPlace 3 = .ok (.ldc2_w 114, 3) := by decide +kernel
theorem dX12_isPlace_6 : decode cX12_isPlace 6 = .ok (.invokestatic 110, 3) := by decide +kernel
theorem dX12_isPlace_9 : decode cX12_isPlace 9 = .ok (.ifCond .eq 19, 3) := by decide +kernel
theorem dX12_isPlace_12 : decode cX12_isPlace 12 = .ok (.iload_n 1, 1) := by decide +kernel
theorem dX12_isPlace_13 : decode cX12_isPlace 13 = .ok (.i2l, 1) := by decide +kernel
theorem dX12_isPlace_14 : decode cX12_isPlace 14 = .ok (.lconst 0, 1) := by decide +kernel
theorem dX12_isPlace_15 : decode cX12_isPlace 15 = .ok (.ldc2_w 114, 3) := by decide +kernel
theorem dX12_isPlace_18 : decode cX12_isPlace 18 = .ok (.invokestatic 110, 3) := by decide +kernel
theorem dX12_isPlace_21 : decode cX12_isPlace 21 = .ok (.ifCond .eq 7, 3) := by decide +kernel
theorem dX12_isPlace_24 : decode cX12_isPlace 24 = .ok (.iconst 1, 1) := by decide +kernel
theorem dX12_isPlace_25 : decode cX12_isPlace 25 = .ok (.goto 4, 3) := by decide +kernel
theorem dX12_isPlace_28 : decode cX12_isPlace 28 = .ok (.iconst 0, 1) := by decide +kernel
theorem dX12_isPlace_29 : decode cX12_isPlace 29 = .ok (.ireturn, 1) := by decide +kernel
theorem cw_X12_isPlace_110 : CwS mi_X12_isPlace mi_X12_in yX12_in 110 3 := ⟨⟨w_1365, w_1366, w_108, w_1367⟩, ⟨by decide, by decide⟩, by decide +kernel, by decide, by decide⟩
theorem ct_X12_isPlace {l : Launch} {Γ : Am} (v0 : Int32) (v1 : Int32) (z : Hp) : Ct l Γ yX12_isPlace mi_X12_isPlace cvI [.int v0, .int v1] z (m_X12_isPlace v0 v1 z) := by
  refine Ct.ofJ (by decide) ⟨rfl, rfl⟩ (Nat.le_of_ble_eq_true rfl) ?_
  unfold m_X12_isPlace
  show J l Γ mi_X12_isPlace cvI 0 0 0 [(0, .int v0), (1, .int v1)] [] z _
  refine j_iload_n (pc := 0) 0 dX12_isPlace_0 rfl rfl ?_
  refine j_i2l (pc := 1) dX12_isPlace_1 ?_
  refine j_lconst (pc := 2) (v := 0) dX12_isPlace_2 (by decide) ?_
  refine j_ldc2 (pc := 3) (v := 11) dX12_isPlace_3 w_1471 ?_
  refine j_callS_I (pc := 6) (as := [.long (Int32.toInt64 v0), .long 0, .long 11]) (mc2 := 0) (ms2 := 0) (ct_X12_in _ _ _ _) cw_X12_isPlace_110 dX12_isPlace_6 (Nat.le_of_ble_eq_true rfl) rfl (by decide) (by decide) (fun x2 z1 => ?_)
  refine j_if_eq (pc := 9) 28 dX12_isPlace_9 (by decide) ?_ ?_
  · refine j_iconst (pc := 28) (v := 0) dX12_isPlace_28 (by decide) ?_
    exact j_ireturn (pc := 29) dX12_isPlace_29 rfl rfl
  refine j_iload_n (pc := 12) 1 dX12_isPlace_12 rfl rfl ?_
  refine j_i2l (pc := 13) dX12_isPlace_13 ?_
  refine j_lconst (pc := 14) (v := 0) dX12_isPlace_14 (by decide) ?_
  refine j_ldc2 (pc := 15) (v := 11) dX12_isPlace_15 w_1471 ?_
  refine j_callS_I (pc := 18) (as := [.long (Int32.toInt64 v1), .long 0, .long 11]) (mc2 := 0) (ms2 := 0) (ct_X12_in _ _ _ _) cw_X12_isPlace_110 dX12_isPlace_18 (Nat.le_of_ble_eq_true rfl) rfl (by decide) (by decide) (fun x4 z3 => ?_)
  refine j_if_eq (pc := 21) 28 dX12_isPlace_21 (by decide) ?_ ?_
  · refine j_iconst (pc := 28) (v := 0) dX12_isPlace_28 (by decide) ?_
    exact j_ireturn (pc := 29) dX12_isPlace_29 rfl rfl
  refine j_iconst (pc := 24) (v := 1) dX12_isPlace_24 (by decide) ?_
  refine j_goto (pc := 25) 29 dX12_isPlace_25 (by decide) ?_
  exact j_ireturn (pc := 29) dX12_isPlace_29 rfl rfl
theorem dX12_beside_0 : decode cX12_beside 0 = .ok (.iload_n 0, 1) := by decide +kernel
theorem dX12_beside_1 : decode cX12_beside 1 = .ok (.bipush 12, 2) := by decide +kernel
theorem dX12_beside_3 : decode cX12_beside 3 = .ok (.irem, 1) := by decide +kernel
theorem dX12_beside_4 : decode cX12_beside 4 = .ok (.iload_n 1, 1) := by decide +kernel
theorem dX12_beside_5 : decode cX12_beside 5 = .ok (.ifCond .ne 7, 3) := by decide +kernel
theorem dX12_beside_8 : decode cX12_beside 8 = .ok (.iconst 1, 1) := by decide +kernel
theorem dX12_beside_9 : decode cX12_beside 9 = .ok (.goto 13, 3) := by decide +kernel
theorem dX12_beside_12 : decode cX12_beside 12 = .ok (.iload_n 1, 1) := by decide +kernel
theorem dX12_beside_13 : decode cX12_beside 13 = .ok (.iconst 1, 1) := by decide +kernel
theorem dX12_beside_14 : decode cX12_beside 14 = .ok (.if_icmp .ne 7, 3) := by decide +kernel
theorem dX12_beside_17 : decode cX12_beside 17 = .ok (.iconst (-1), 1) := by decide +kernel
theorem dX12_beside_18 : decode cX12_beside 18 = .ok (.goto 4, 3) := by decide +kernel
theorem dX12_beside_21 : decode cX12_beside 21 = .ok (.iconst 0, 1) := by decide +kernel
theorem dX12_beside_22 : decode cX12_beside 22 = .ok (.iadd, 1) := by decide +kernel
theorem dX12_beside_23 : decode cX12_beside 23 = .ok (.istore_n 2, 1) := by decide +kernel
theorem dX12_beside_24 : decode cX12_beside 24 = .ok (.iload_n 0, 1) := by decide +kernel
theorem dX12_beside_25 : decode cX12_beside 25 = .ok (.bipush 12, 2) := by decide +kernel
theorem dX12_beside_27 : decode cX12_beside 27 = .ok (.idiv, 1) := by decide +kernel
theorem dX12_beside_28 : decode cX12_beside 28 = .ok (.iload_n 1, 1) := by decide +kernel
theorem dX12_beside_29 : decode cX12_beside 29 = .ok (.iconst 2, 1) := by decide +kernel
theorem dX12_beside_30 : decode cX12_beside 30 = .ok (.if_icmp .ne 7, 3) := by decide +kernel
theorem dX12_beside_33 : decode cX12_beside 33 = .ok (.iconst 1, 1) := by decide +kernel
theorem dX12_beside_34 : decode cX12_beside 34 = .ok (.goto 13, 3) := by decide +kernel
theorem dX12_beside_37 : decode cX12_beside 37 = .ok (.iload_n 1, 1) := by decide +kernel
theorem dX12_beside_38 : decode cX12_beside 38 = .ok (.iconst 3, 1) := by decide +kernel
theorem dX12_beside_39 : decode cX12_beside 39 = .ok (.if_icmp .ne 7, 3) := by decide +kernel
theorem dX12_beside_42 : decode cX12_beside 42 = .ok (.iconst (-1), 1) := by decide +kernel
theorem dX12_beside_43 : decode cX12_beside 43 = .ok (.goto 4, 3) := by decide +kernel
theorem dX12_beside_46 : decode cX12_beside 46 = .ok (.iconst 0, 1) := by decide +kernel
theorem dX12_beside_47 : decode cX12_beside 47 = .ok (.iadd, 1) := by decide +kernel
theorem dX12_beside_48 : decode cX12_beside 48 = .ok (.istore_n 3, 1) := by decide +kernel
theorem dX12_beside_49 : decode cX12_beside 49 = .ok (.iload_n 2, 1) := by decide +kernel
theorem dX12_beside_50 : decode cX12_beside 50 = .ok (.iload_n 3, 1) := by decide +kernel
theorem dX12_beside_51 : decode cX12_beside 51 = .ok (.invokestatic 116, 3) := by decide +kernel
theorem dX12_beside_54 : decode cX12_beside 54 = .ok (.ifCond .eq 12, 3) := by decide +kernel
theorem dX12_beside_57 : decode cX12_beside 57 = .ok (.bipush 12, 2) := by decide +kernel
theorem dX12_beside_59 : decode cX12_beside 59 = .ok (.iload_n 3, 1) := by decide +kernel
theorem dX12_beside_60 : decode cX12_beside 60 = .ok (.imul, 1) := by decide +kernel
theorem dX12_beside_61 : decode cX12_beside 61 = .ok (.iload_n 2, 1) := by decide +kernel
theorem dX12_beside_62 : decode cX12_beside 62 = .ok (.iadd, 1) := by decide +kernel
theorem dX12_beside_63 : decode cX12_beside 63 = .ok (.goto 4, 3) := by decide +kernel
theorem dX12_beside_66 : decode cX12_beside 66 = .ok (.iconst (-1), 1) := by decide +kernel
theorem dX12_beside_67 : decode cX12_beside 67 = .ok (.ireturn, 1) := by decide +kernel
theorem cw_X12_beside_116 : CwS mi_X12_beside mi_X12_isPlace yX12_isPlace 116 2 := ⟨⟨w_1522, w_1523, w_108, w_1524⟩, ⟨by decide, by decide⟩, by decide +kernel, by decide, by decide⟩
theorem j_X12_beside_B47 {l : Launch} {Γ : Am}   : ∀ (v2 : Int32) (t0 : Int32) (t1 : Int32) (z : Hp), J l Γ mi_X12_beside cvI 0 0 47 [(2, .int v2)] [.int t0, .int t1] z (m_X12_beside_B47  v2 t0 t1 z) := by
  intro v2 t0 t1 z
  unfold m_X12_beside_B47
  refine j_iadd (pc := 47) dX12_beside_47 ?_
  refine j_istore_n (pc := 48) (lv2 := [(3, .int (t1 + t0)), (2, .int v2)]) dX12_beside_48 rfl (by decide) rfl ?_
  refine j_iload_n (pc := 49) 1 dX12_beside_49 rfl rfl ?_
  refine j_iload_n (pc := 50) 0 dX12_beside_50 rfl rfl ?_
  refine j_callS_I (pc := 51) (as := [.int v2, .int (t1 + t0)]) (mc2 := 0) (ms2 := 0) (ct_X12_isPlace _ _ _) cw_X12_beside_116 dX12_beside_51 (Nat.le_of_ble_eq_true rfl) rfl (by decide) (by decide) (fun x2 z1 => ?_)
  refine j_if_eq (pc := 54) 66 dX12_beside_54 (by decide) ?_ ?_
  · refine j_iconst (pc := 66) (v := (-1)) dX12_beside_66 (by decide) ?_
    exact j_ireturn (pc := 67) dX12_beside_67 rfl rfl
  refine j_bipush (pc := 57) (v := 12) dX12_beside_57 (by decide) ?_
  refine j_iload_n (pc := 59) 0 dX12_beside_59 rfl rfl ?_
  refine j_imul (pc := 60) dX12_beside_60 ?_
  refine j_iload_n (pc := 61) 1 dX12_beside_61 rfl rfl ?_
  refine j_iadd (pc := 62) dX12_beside_62 ?_
  refine j_goto (pc := 63) 67 dX12_beside_63 (by decide) ?_
  exact j_ireturn (pc := 67) dX12_beside_67 rfl rfl
theorem j_X12_beside_B22 {l : Launch} {Γ : Am}   : ∀ (v0 : Int32) (v1 : Int32) (t0 : Int32) (t1 : Int32) (z : Hp), J l Γ mi_X12_beside cvI 0 0 22 [(0, .int v0), (1, .int v1)] [.int t0, .int t1] z (m_X12_beside_B22  v0 v1 t0 t1 z) := by
  intro v0 v1 t0 t1 z
  unfold m_X12_beside_B22
  refine j_iadd (pc := 22) dX12_beside_22 ?_
  refine j_istore_n (pc := 23) (lv2 := [(2, .int (t1 + t0)), (0, .int v0), (1, .int v1)]) dX12_beside_23 rfl (by decide) rfl ?_
  refine j_iload_n (pc := 24) 1 dX12_beside_24 rfl rfl ?_
  refine j_bipush (pc := 25) (v := 12) dX12_beside_25 (by decide) ?_
  refine j_idiv (pc := 27) dX12_beside_27 (by decide) ?_
  refine j_iload_n (pc := 28) 2 dX12_beside_28 rfl rfl ?_
  refine j_iconst (pc := 29) (v := 2) dX12_beside_29 (by decide) ?_
  refine j_icmp_ne (pc := 30) 37 dX12_beside_30 (by decide) ?_ ?_
  · refine j_iload_n (pc := 37) 2 dX12_beside_37 rfl rfl ?_
    refine j_iconst (pc := 38) (v := 3) dX12_beside_38 (by decide) ?_
    refine j_icmp_ne (pc := 39) 46 dX12_beside_39 (by decide) ?_ ?_
    · refine j_iconst (pc := 46) (v := 0) dX12_beside_46 (by decide) ?_
      exact J.sub [0] rfl (j_X12_beside_B47 (t1 + t0) 0 (v0 / 12) z)
    refine j_iconst (pc := 42) (v := (-1)) dX12_beside_42 (by decide) ?_
    refine j_goto (pc := 43) 47 dX12_beside_43 (by decide) ?_
    exact J.sub [0] rfl (j_X12_beside_B47 (t1 + t0) (-1) (v0 / 12) z)
  refine j_iconst (pc := 33) (v := 1) dX12_beside_33 (by decide) ?_
  refine j_goto (pc := 34) 47 dX12_beside_34 (by decide) ?_
  exact J.sub [0] rfl (j_X12_beside_B47 (t1 + t0) 1 (v0 / 12) z)
theorem ct_X12_beside {l : Launch} {Γ : Am} (v0 : Int32) (v1 : Int32) (z : Hp) : Ct l Γ yX12_beside mi_X12_beside cvI [.int v0, .int v1] z (m_X12_beside v0 v1 z) := by
  refine Ct.ofJ (by decide) ⟨rfl, rfl⟩ (Nat.le_of_ble_eq_true rfl) ?_
  unfold m_X12_beside
  show J l Γ mi_X12_beside cvI 0 0 0 [(0, .int v0), (1, .int v1)] [] z _
  refine j_iload_n (pc := 0) 0 dX12_beside_0 rfl rfl ?_
  refine j_bipush (pc := 1) (v := 12) dX12_beside_1 (by decide) ?_
  refine j_irem (pc := 3) dX12_beside_3 (by decide) ?_
  refine j_iload_n (pc := 4) 1 dX12_beside_4 rfl rfl ?_
  refine j_if_ne (pc := 5) 12 dX12_beside_5 (by decide) ?_ ?_
  · refine j_iload_n (pc := 12) 1 dX12_beside_12 rfl rfl ?_
    refine j_iconst (pc := 13) (v := 1) dX12_beside_13 (by decide) ?_
    refine j_icmp_ne (pc := 14) 21 dX12_beside_14 (by decide) ?_ ?_
    · refine j_iconst (pc := 21) (v := 0) dX12_beside_21 (by decide) ?_
      exact J.sub [0, 1] rfl (j_X12_beside_B22 v0 v1 0 (v0 - v0 / 12 * 12) z)
    refine j_iconst (pc := 17) (v := (-1)) dX12_beside_17 (by decide) ?_
    refine j_goto (pc := 18) 22 dX12_beside_18 (by decide) ?_
    exact J.sub [0, 1] rfl (j_X12_beside_B22 v0 v1 (-1) (v0 - v0 / 12 * 12) z)
  refine j_iconst (pc := 8) (v := 1) dX12_beside_8 (by decide) ?_
  refine j_goto (pc := 9) 22 dX12_beside_9 (by decide) ?_
  exact J.sub [0, 1] rfl (j_X12_beside_B22 v0 v1 1 (v0 - v0 / 12 * 12) z)
theorem dX12_pipeAt_0 : decode cX12_pipeAt 0 = .ok (.iconst 0, 1) := by decide +kernel
theorem dX12_pipeAt_1 : decode cX12_pipeAt 1 = .ok (.istore_n 2, 1) := by decide +kernel
theorem dX12_pipeAt_2 : decode cX12_pipeAt 2 = .ok (.iload_n 2, 1) := by decide +kernel
theorem dX12_pipeAt_3 : decode cX12_pipeAt 3 = .ok (.aload_n 0, 1) := by decide +kernel
theorem dX12_pipeAt_4 : decode cX12_pipeAt 4 = .ok (.getfield 13, 3) := by decide +kernel
theorem dX12_pipeAt_7 : decode cX12_pipeAt 7 = .ok (.iconst 2, 1) := by decide +kernel
theorem dX12_pipeAt_8 : decode cX12_pipeAt 8 = .ok (.iaload, 1) := by decide +kernel
theorem dX12_pipeAt_9 : decode cX12_pipeAt 9 = .ok (.if_icmp .ge 28, 3) := by decide +kernel
theorem dX12_pipeAt_12 : decode cX12_pipeAt 12 = .ok (.aload_n 0, 1) := by decide +kernel
theorem dX12_pipeAt_13 : decode cX12_pipeAt 13 = .ok (.getfield 13, 3) := by decide +kernel
theorem dX12_pipeAt_16 : decode cX12_pipeAt 16 = .ok (.sipush 624, 3) := by decide +kernel
theorem dX12_pipeAt_19 : decode cX12_pipeAt 19 = .ok (.bipush 6, 2) := by decide +kernel
theorem dX12_pipeAt_21 : decode cX12_pipeAt 21 = .ok (.iload_n 2, 1) := by decide +kernel
theorem dX12_pipeAt_22 : decode cX12_pipeAt 22 = .ok (.imul, 1) := by decide +kernel
theorem dX12_pipeAt_23 : decode cX12_pipeAt 23 = .ok (.iadd, 1) := by decide +kernel
theorem dX12_pipeAt_24 : decode cX12_pipeAt 24 = .ok (.iaload, 1) := by decide +kernel
theorem dX12_pipeAt_25 : decode cX12_pipeAt 25 = .ok (.iload_n 1, 1) := by decide +kernel
theorem dX12_pipeAt_26 : decode cX12_pipeAt 26 = .ok (.if_icmp .ne 5, 3) := by decide +kernel
theorem dX12_pipeAt_29 : decode cX12_pipeAt 29 = .ok (.iload_n 2, 1) := by decide +kernel
theorem dX12_pipeAt_30 : decode cX12_pipeAt 30 = .ok (.ireturn, 1) := by decide +kernel
theorem dX12_pipeAt_31 : decode cX12_pipeAt 31 = .ok (.iinc 2 1, 3) := by decide +kernel
theorem dX12_pipeAt_34 : decode cX12_pipeAt 34 = .ok (.goto (-32), 3) := by decide +kernel
theorem dX12_pipeAt_37 : decode cX12_pipeAt 37 = .ok (.iconst (-1), 1) := by decide +kernel
theorem dX12_pipeAt_38 : decode cX12_pipeAt 38 = .ok (.ireturn, 1) := by decide +kernel
theorem j_X12_pipeAt_L2 {l : Launch} {Γ : Am}   : ∀ (f : Nat), ∀ (r0 : Nat) (v1 : Int32) (v2 : Int32) (z : Hp), J l Γ mi_X12_pipeAt cvI 0 0 2 [(0, .ref (mB Γ + r0)), (1, .int v1), (2, .int v2)] [] z (m_X12_pipeAt_L2  f r0 v1 v2 z) := by
  intro f
  induction f with
  | zero => intro r0 v1 v2 z; exact J.none
  | succ f hL2 =>
    intro r0 v1 v2 z
    rw [m_X12_pipeAt_L2]
    refine j_iload_n (pc := 2) 2 dX12_pipeAt_2 rfl rfl ?_
    refine j_aload_n (pc := 3) 0 dX12_pipeAt_3 rfl rfl ?_
    refine j_getR (pc := 4) ok_X12 (by decide) rfl w_1239 dX12_pipeAt_4 (fun a1 => ?_)
    refine j_iconst (pc := 7) (v := 2) dX12_pipeAt_7 (by decide) ?_
    refine j_iaload (pc := 8) dX12_pipeAt_8 (fun x2 => ?_)
    refine j_icmp_ge (pc := 9) 37 dX12_pipeAt_9 (by decide) ?_ ?_
    · refine j_iconst (pc := 37) (v := (-1)) dX12_pipeAt_37 (by decide) ?_
      exact j_ireturn (pc := 38) dX12_pipeAt_38 rfl rfl
    refine j_aload_n (pc := 12) 0 dX12_pipeAt_12 rfl rfl ?_
    refine j_getR (pc := 13) ok_X12 (by decide) rfl w_1239 dX12_pipeAt_13 (fun a3 => ?_)
    refine j_sipush (pc := 16) (v := 624) dX12_pipeAt_16 (by decide) ?_
    refine j_bipush (pc := 19) (v := 6) dX12_pipeAt_19 (by decide) ?_
    refine j_iload_n (pc := 21) 2 dX12_pipeAt_21 rfl rfl ?_
    refine j_imul (pc := 22) dX12_pipeAt_22 ?_
    refine j_iadd (pc := 23) dX12_pipeAt_23 ?_
    refine j_iaload (pc := 24) dX12_pipeAt_24 (fun x4 => ?_)
    refine j_iload_n (pc := 25) 1 dX12_pipeAt_25 rfl rfl ?_
    refine j_icmp_ne (pc := 26) 31 dX12_pipeAt_26 (by decide) ?_ ?_
    · refine j_iinc (pc := 31) (n0 := 2) (v0 := v2 + 1) (lv2 := [(2, .int (v2 + 1)), (0, .ref (mB Γ + r0)), (1, .int v1)]) dX12_pipeAt_31 rfl rfl (by decide) rfl ?_
      refine j_goto (pc := 34) 2 dX12_pipeAt_34 (by decide) ?_
      exact J.sub [1, 2, 0] rfl (hL2 r0 v1 (v2 + 1) z)
    refine j_iload_n (pc := 29) 2 dX12_pipeAt_29 rfl rfl ?_
    exact j_ireturn (pc := 30) dX12_pipeAt_30 rfl rfl
theorem ct_X12_pipeAt {l : Launch} {Γ : Am} (r0 : Nat) (v1 : Int32) (z : Hp) : Ct l Γ yX12_pipeAt mi_X12_pipeAt cvI [.ref (mB Γ + r0), .int v1] z (m_X12_pipeAt r0 v1 z) := by
  refine Ct.ofJ (by decide) ⟨rfl, rfl⟩ (Nat.le_of_ble_eq_true rfl) ?_
  unfold m_X12_pipeAt
  show J l Γ mi_X12_pipeAt cvI 0 0 0 [(0, .ref (mB Γ + r0)), (1, .int v1)] [] z _
  refine j_iconst (pc := 0) (v := 0) dX12_pipeAt_0 (by decide) ?_
  refine j_istore_n (pc := 1) (lv2 := [(2, .int 0), (0, .ref (mB Γ + r0)), (1, .int v1)]) dX12_pipeAt_1 rfl (by decide) rfl ?_
  exact J.sub [1, 2, 0] rfl ((j_X12_pipeAt_L2 FU) r0 v1 0 z)
theorem dX12_keep_0 : decode cX12_keep 0 = .ok (.iload_n 1, 1) := by decide +kernel
theorem dX12_keep_1 : decode cX12_keep 1 = .ok (.i2l, 1) := by decide +kernel
theorem dX12_keep_2 : decode cX12_keep 2 = .ok (.lconst 0, 1) := by decide +kernel
theorem dX12_keep_3 : decode cX12_keep 3 = .ok (.ldc2_w 120, 3) := by decide +kernel
theorem dX12_keep_6 : decode cX12_keep 6 = .ok (.invokestatic 110, 3) := by decide +kernel
theorem dX12_keep_9 : decode cX12_keep 9 = .ok (.ifCond .ne 6, 3) := by decide +kernel
theorem dX12_keep_12 : decode cX12_keep 12 = .ok (.bipush (-2), 2) := by decide +kernel
theorem dX12_keep_14 : decode cX12_keep 14 = .ok (.ireturn, 1) := by decide +kernel
theorem dX12_keep_15 : decode cX12_keep 15 = .ok (.iconst 0, 1) := by decide +kernel
theorem dX12_keep_16 : decode cX12_keep 16 = .ok (.istore_n 2, 1) := by decide +kernel
theorem dX12_keep_17 : decode cX12_keep 17 = .ok (.iload_n 2, 1) := by decide +kernel
theorem dX12_keep_18 : decode cX12_keep 18 = .ok (.sipush 810, 3) := by decide +kernel
theorem dX12_keep_21 : decode cX12_keep 21 = .ok (.if_icmp .ge 27, 3) := by decide +kernel
theorem dX12_keep_24 : decode cX12_keep 24 = .ok (.aload_n 0, 1) := by decide +kernel
theorem dX12_keep_25 : decode cX12_keep 25 = .ok (.getfield 20, 3) := by decide +kernel
theorem dX12_keep_28 : decode cX12_keep 28 = .ok (.sipush 810, 3) := by decide +kernel
theorem dX12_keep_31 : decode cX12_keep 31 = .ok (.iload_n 1, 1) := by decide +kernel
theorem dX12_keep_32 : decode cX12_keep 32 = .ok (.imul, 1) := by decide +kernel
theorem dX12_keep_33 : decode cX12_keep 33 = .ok (.iload_n 2, 1) := by decide +kernel
theorem dX12_keep_34 : decode cX12_keep 34 = .ok (.iadd, 1) := by decide +kernel
theorem dX12_keep_35 : decode cX12_keep 35 = .ok (.aload_n 0, 1) := by decide +kernel
theorem dX12_keep_36 : decode cX12_keep 36 = .ok (.getfield 13, 3) := by decide +kernel
theorem dX12_keep_39 : decode cX12_keep 39 = .ok (.iload_n 2, 1) := by decide +kernel
theorem dX12_keep_40 : decode cX12_keep 40 = .ok (.iaload, 1) := by decide +kernel
theorem dX12_keep_41 : decode cX12_keep 41 = .ok (.iastore, 1) := by decide +kernel
theorem dX12_keep_42 : decode cX12_keep 42 = .ok (.iinc 2 1, 3) := by decide +kernel
theorem dX12_keep_45 : decode cX12_keep 45 = .ok (.goto (-28), 3) := by decide +kernel
theorem dX12_keep_48 : decode cX12_keep 48 = .ok (.aload_n 0, 1) := by decide +kernel
theorem dX12_keep_49 : decode cX12_keep 49 = .ok (.getfield 23, 3) := by decide +kernel
theorem dX12_keep_52 : decode cX12_keep 52 = .ok (.iload_n 1, 1) := by decide +kernel
theorem dX12_keep_53 : decode cX12_keep 53 = .ok (.iconst 1, 1) := by decide +kernel
theorem dX12_keep_54 : decode cX12_keep 54 = .ok (.bastore, 1) := by decide +kernel
theorem dX12_keep_55 : decode cX12_keep 55 = .ok (.iconst 0, 1) := by decide +kernel
theorem dX12_keep_56 : decode cX12_keep 56 = .ok (.ireturn, 1) := by decide +kernel
theorem cw_X12_keep_110 : CwS mi_X12_keep mi_X12_in yX12_in 110 3 := ⟨⟨w_1365, w_1366, w_108, w_1367⟩, ⟨by decide, by decide⟩, by decide +kernel, by decide, by decide⟩
theorem j_X12_keep_B48 {l : Launch} {Γ : Am}   : ∀ (r0 : Nat) (v1 : Int32) (z : Hp), J l Γ mi_X12_keep cvI 0 0 48 [(0, .ref (mB Γ + r0)), (1, .int v1)] [] z (m_X12_keep_B48  r0 v1 z) := by
  intro r0 v1 z
  unfold m_X12_keep_B48
  refine j_aload_n (pc := 48) 0 dX12_keep_48 rfl rfl ?_
  refine j_getR (pc := 49) ok_X12 (by decide) rfl w_1242 dX12_keep_49 (fun a1 => ?_)
  refine j_iload_n (pc := 52) 1 dX12_keep_52 rfl rfl ?_
  refine j_iconst (pc := 53) (v := 1) dX12_keep_53 (by decide) ?_
  refine j_zastore (pc := 54) dX12_keep_54 (fun z2 => ?_)
  refine j_iconst (pc := 55) (v := 0) dX12_keep_55 (by decide) ?_
  exact j_ireturn (pc := 56) dX12_keep_56 rfl rfl
theorem j_X12_keep_L17 {l : Launch} {Γ : Am} {k48 : Nat → Int32 → Hp → Option (Int32 × Hp)} (hL48 : ∀ (r0 : Nat) (v1 : Int32) (z : Hp), J l Γ mi_X12_keep cvI 0 0 48 [(0, .ref (mB Γ + r0)), (1, .int v1)] [] z (k48 r0 v1 z)) : ∀ (f : Nat), ∀ (r0 : Nat) (v1 : Int32) (v2 : Int32) (z : Hp), J l Γ mi_X12_keep cvI 0 0 17 [(0, .ref (mB Γ + r0)), (1, .int v1), (2, .int v2)] [] z (m_X12_keep_L17 k48 f r0 v1 v2 z) := by
  intro f
  induction f with
  | zero => intro r0 v1 v2 z; exact J.none
  | succ f hL17 =>
    intro r0 v1 v2 z
    rw [m_X12_keep_L17]
    refine j_iload_n (pc := 17) 2 dX12_keep_17 rfl rfl ?_
    refine j_sipush (pc := 18) (v := 810) dX12_keep_18 (by decide) ?_
    refine j_icmp_ge (pc := 21) 48 dX12_keep_21 (by decide) ?_ ?_
    · exact J.sub [0, 1] rfl (hL48 r0 v1 z)
    refine j_aload_n (pc := 24) 0 dX12_keep_24 rfl rfl ?_
    refine j_getR (pc := 25) ok_X12 (by decide) rfl w_1241 dX12_keep_25 (fun a3 => ?_)
    refine j_sipush (pc := 28) (v := 810) dX12_keep_28 (by decide) ?_
    refine j_iload_n (pc := 31) 1 dX12_keep_31 rfl rfl ?_
    refine j_imul (pc := 32) dX12_keep_32 ?_
    refine j_iload_n (pc := 33) 2 dX12_keep_33 rfl rfl ?_
    refine j_iadd (pc := 34) dX12_keep_34 ?_
    refine j_aload_n (pc := 35) 0 dX12_keep_35 rfl rfl ?_
    refine j_getR (pc := 36) ok_X12 (by decide) rfl w_1239 dX12_keep_36 (fun a4 => ?_)
    refine j_iload_n (pc := 39) 2 dX12_keep_39 rfl rfl ?_
    refine j_iaload (pc := 40) dX12_keep_40 (fun x5 => ?_)
    refine j_iastore (pc := 41) dX12_keep_41 (fun z6 => ?_)
    refine j_iinc (pc := 42) (n0 := 2) (v0 := v2 + 1) (lv2 := [(2, .int (v2 + 1)), (0, .ref (mB Γ + r0)), (1, .int v1)]) dX12_keep_42 rfl rfl (by decide) rfl ?_
    refine j_goto (pc := 45) 17 dX12_keep_45 (by decide) ?_
    exact J.sub [1, 2, 0] rfl (hL17 r0 v1 (v2 + 1) z6)
theorem ct_X12_keep {l : Launch} {Γ : Am} (r0 : Nat) (v1 : Int32) (z : Hp) : Ct l Γ yX12_keep mi_X12_keep cvI [.ref (mB Γ + r0), .int v1] z (m_X12_keep r0 v1 z) := by
  refine Ct.ofJ (by decide) ⟨rfl, rfl⟩ (Nat.le_of_ble_eq_true rfl) ?_
  unfold m_X12_keep
  show J l Γ mi_X12_keep cvI 0 0 0 [(0, .ref (mB Γ + r0)), (1, .int v1)] [] z _
  refine j_iload_n (pc := 0) 1 dX12_keep_0 rfl rfl ?_
  refine j_i2l (pc := 1) dX12_keep_1 ?_
  refine j_lconst (pc := 2) (v := 0) dX12_keep_2 (by decide) ?_
  refine j_ldc2 (pc := 3) (v := 2) dX12_keep_3 w_1364 ?_
  refine j_callS_I (pc := 6) (as := [.long (Int32.toInt64 v1), .long 0, .long 2]) (mc2 := 0) (ms2 := 0) (ct_X12_in _ _ _ _) cw_X12_keep_110 dX12_keep_6 (Nat.le_of_ble_eq_true rfl) rfl (by decide) (by decide) (fun x8 z7 => ?_)
  refine j_if_ne (pc := 9) 15 dX12_keep_9 (by decide) ?_ ?_
  · refine j_iconst (pc := 15) (v := 0) dX12_keep_15 (by decide) ?_
    refine j_istore_n (pc := 16) (lv2 := [(2, .int 0), (0, .ref (mB Γ + r0)), (1, .int v1)]) dX12_keep_16 rfl (by decide) rfl ?_
    exact J.sub [1, 2, 0] rfl ((j_X12_keep_L17 j_X12_keep_B48 FU) r0 v1 0 z7)
  refine j_bipush (pc := 12) (v := (-2)) dX12_keep_12 (by decide) ?_
  exact j_ireturn (pc := 14) dX12_keep_14 rfl rfl
theorem dX12_back_0 : decode cX12_back 0 = .ok (.iload_n 1, 1) := by decide +kernel
theorem dX12_back_1 : decode cX12_back 1 = .ok (.i2l, 1) := by decide +kernel
theorem dX12_back_2 : decode cX12_back 2 = .ok (.lconst 0, 1) := by decide +kernel
theorem dX12_back_3 : decode cX12_back 3 = .ok (.ldc2_w 120, 3) := by decide +kernel
theorem dX12_back_6 : decode cX12_back 6 = .ok (.invokestatic 110, 3) := by decide +kernel
theorem dX12_back_9 : decode cX12_back 9 = .ok (.ifCond .ne 6, 3) := by decide +kernel
theorem dX12_back_12 : decode cX12_back 12 = .ok (.bipush (-2), 2) := by decide +kernel
theorem dX12_back_14 : decode cX12_back 14 = .ok (.ireturn, 1) := by decide +kernel
theorem dX12_back_15 : decode cX12_back 15 = .ok (.aload_n 0, 1) := by decide +kernel
theorem dX12_back_16 : decode cX12_back 16 = .ok (.getfield 23, 3) := by decide +kernel
theorem dX12_back_19 : decode cX12_back 19 = .ok (.iload_n 1, 1) := by decide +kernel
theorem dX12_back_20 : decode cX12_back 20 = .ok (.baload, 1) := by decide +kernel
theorem dX12_back_21 : decode cX12_back 21 = .ok (.ifCond .ne 6, 3) := by decide +kernel
theorem dX12_back_24 : decode cX12_back 24 = .ok (.bipush (-6), 2) := by decide +kernel
theorem dX12_back_26 : decode cX12_back 26 = .ok (.ireturn, 1) := by decide +kernel
theorem dX12_back_27 : decode cX12_back 27 = .ok (.iconst 0, 1) := by decide +kernel
theorem dX12_back_28 : decode cX12_back 28 = .ok (.istore_n 2, 1) := by decide +kernel
theorem dX12_back_29 : decode cX12_back 29 = .ok (.iload_n 2, 1) := by decide +kernel
theorem dX12_back_30 : decode cX12_back 30 = .ok (.sipush 810, 3) := by decide +kernel
theorem dX12_back_33 : decode cX12_back 33 = .ok (.if_icmp .ge 27, 3) := by decide +kernel
theorem dX12_back_36 : decode cX12_back 36 = .ok (.aload_n 0, 1) := by decide +kernel
theorem dX12_back_37 : decode cX12_back 37 = .ok (.getfield 13, 3) := by decide +kernel
theorem dX12_back_40 : decode cX12_back 40 = .ok (.iload_n 2, 1) := by decide +kernel
theorem dX12_back_41 : decode cX12_back 41 = .ok (.aload_n 0, 1) := by decide +kernel
theorem dX12_back_42 : decode cX12_back 42 = .ok (.getfield 20, 3) := by decide +kernel
theorem dX12_back_45 : decode cX12_back 45 = .ok (.sipush 810, 3) := by decide +kernel
theorem dX12_back_48 : decode cX12_back 48 = .ok (.iload_n 1, 1) := by decide +kernel
theorem dX12_back_49 : decode cX12_back 49 = .ok (.imul, 1) := by decide +kernel
theorem dX12_back_50 : decode cX12_back 50 = .ok (.iload_n 2, 1) := by decide +kernel
theorem dX12_back_51 : decode cX12_back 51 = .ok (.iadd, 1) := by decide +kernel
theorem dX12_back_52 : decode cX12_back 52 = .ok (.iaload, 1) := by decide +kernel
theorem dX12_back_53 : decode cX12_back 53 = .ok (.iastore, 1) := by decide +kernel
theorem dX12_back_54 : decode cX12_back 54 = .ok (.iinc 2 1, 3) := by decide +kernel
theorem dX12_back_57 : decode cX12_back 57 = .ok (.goto (-28), 3) := by decide +kernel
theorem dX12_back_60 : decode cX12_back 60 = .ok (.iconst 0, 1) := by decide +kernel
theorem dX12_back_61 : decode cX12_back 61 = .ok (.ireturn, 1) := by decide +kernel
theorem cw_X12_back_110 : CwS mi_X12_back mi_X12_in yX12_in 110 3 := ⟨⟨w_1365, w_1366, w_108, w_1367⟩, ⟨by decide, by decide⟩, by decide +kernel, by decide, by decide⟩
theorem j_X12_back_L29 {l : Launch} {Γ : Am}   : ∀ (f : Nat), ∀ (r0 : Nat) (v1 : Int32) (v2 : Int32) (z : Hp), J l Γ mi_X12_back cvI 0 0 29 [(0, .ref (mB Γ + r0)), (1, .int v1), (2, .int v2)] [] z (m_X12_back_L29  f r0 v1 v2 z) := by
  intro f
  induction f with
  | zero => intro r0 v1 v2 z; exact J.none
  | succ f hL29 =>
    intro r0 v1 v2 z
    rw [m_X12_back_L29]
    refine j_iload_n (pc := 29) 2 dX12_back_29 rfl rfl ?_
    refine j_sipush (pc := 30) (v := 810) dX12_back_30 (by decide) ?_
    refine j_icmp_ge (pc := 33) 60 dX12_back_33 (by decide) ?_ ?_
    · refine j_iconst (pc := 60) (v := 0) dX12_back_60 (by decide) ?_
      exact j_ireturn (pc := 61) dX12_back_61 rfl rfl
    refine j_aload_n (pc := 36) 0 dX12_back_36 rfl rfl ?_
    refine j_getR (pc := 37) ok_X12 (by decide) rfl w_1239 dX12_back_37 (fun a1 => ?_)
    refine j_iload_n (pc := 40) 2 dX12_back_40 rfl rfl ?_
    refine j_aload_n (pc := 41) 0 dX12_back_41 rfl rfl ?_
    refine j_getR (pc := 42) ok_X12 (by decide) rfl w_1241 dX12_back_42 (fun a2 => ?_)
    refine j_sipush (pc := 45) (v := 810) dX12_back_45 (by decide) ?_
    refine j_iload_n (pc := 48) 1 dX12_back_48 rfl rfl ?_
    refine j_imul (pc := 49) dX12_back_49 ?_
    refine j_iload_n (pc := 50) 2 dX12_back_50 rfl rfl ?_
    refine j_iadd (pc := 51) dX12_back_51 ?_
    refine j_iaload (pc := 52) dX12_back_52 (fun x3 => ?_)
    refine j_iastore (pc := 53) dX12_back_53 (fun z4 => ?_)
    refine j_iinc (pc := 54) (n0 := 2) (v0 := v2 + 1) (lv2 := [(2, .int (v2 + 1)), (0, .ref (mB Γ + r0)), (1, .int v1)]) dX12_back_54 rfl rfl (by decide) rfl ?_
    refine j_goto (pc := 57) 29 dX12_back_57 (by decide) ?_
    exact J.sub [1, 2, 0] rfl (hL29 r0 v1 (v2 + 1) z4)
theorem ct_X12_back {l : Launch} {Γ : Am} (r0 : Nat) (v1 : Int32) (z : Hp) : Ct l Γ yX12_back mi_X12_back cvI [.ref (mB Γ + r0), .int v1] z (m_X12_back r0 v1 z) := by
  refine Ct.ofJ (by decide) ⟨rfl, rfl⟩ (Nat.le_of_ble_eq_true rfl) ?_
  unfold m_X12_back
  show J l Γ mi_X12_back cvI 0 0 0 [(0, .ref (mB Γ + r0)), (1, .int v1)] [] z _
  refine j_iload_n (pc := 0) 1 dX12_back_0 rfl rfl ?_
  refine j_i2l (pc := 1) dX12_back_1 ?_
  refine j_lconst (pc := 2) (v := 0) dX12_back_2 (by decide) ?_
  refine j_ldc2 (pc := 3) (v := 2) dX12_back_3 w_1364 ?_
  refine j_callS_I (pc := 6) (as := [.long (Int32.toInt64 v1), .long 0, .long 2]) (mc2 := 0) (ms2 := 0) (ct_X12_in _ _ _ _) cw_X12_back_110 dX12_back_6 (Nat.le_of_ble_eq_true rfl) rfl (by decide) (by decide) (fun x6 z5 => ?_)
  refine j_if_ne (pc := 9) 15 dX12_back_9 (by decide) ?_ ?_
  · refine j_aload_n (pc := 15) 0 dX12_back_15 rfl rfl ?_
    refine j_getR (pc := 16) ok_X12 (by decide) rfl w_1242 dX12_back_16 (fun a7 => ?_)
    refine j_iload_n (pc := 19) 1 dX12_back_19 rfl rfl ?_
    refine j_zaload (pc := 20) dX12_back_20 (fun x8 => ?_)
    refine j_if_ne (pc := 21) 27 dX12_back_21 (by decide) ?_ ?_
    · refine j_iconst (pc := 27) (v := 0) dX12_back_27 (by decide) ?_
      refine j_istore_n (pc := 28) (lv2 := [(2, .int 0), (0, .ref (mB Γ + r0)), (1, .int v1)]) dX12_back_28 rfl (by decide) rfl ?_
      exact J.sub [1, 2, 0] rfl ((j_X12_back_L29 FU) r0 v1 0 z5)
    refine j_bipush (pc := 24) (v := (-6)) dX12_back_24 (by decide) ?_
    exact j_ireturn (pc := 26) dX12_back_26 rfl rfl
  refine j_bipush (pc := 12) (v := (-2)) dX12_back_12 (by decide) ?_
  exact j_ireturn (pc := 14) dX12_back_14 rfl rfl
