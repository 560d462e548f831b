theorem dX10_goOnFromOutside_0 : decode cX10_goOnFromOutside 0 = .ok (.aload_n 0, 1) := by decide +kernel
theorem dX10_goOnFromOutside_1 : decode cX10_goOnFromOutside 1 = .ok (.getfield 37, 3) := by decide +kernel
theorem dX10_goOnFromOutside_4 : decode cX10_goOnFromOutside 4 = .ok (.iload_n 1, 1) := by decide +kernel
theorem dX10_goOnFromOutside_5 : decode cX10_goOnFromOutside 5 = .ok (.iaload, 1) := by decide +kernel
theorem dX10_goOnFromOutside_6 : decode cX10_goOnFromOutside 6 = .ok (.ifCond .eq 13, 3) := by decide +kernel
theorem dX10_goOnFromOutside_9 : decode cX10_goOnFromOutside 9 = .ok (.aload_n 0, 1) := by decide +kernel
theorem dX10_goOnFromOutside_10 : decode cX10_goOnFromOutside 10 = .ok (.iload_n 1, 1) := by decide +kernel
theorem dX10_goOnFromOutside_11 : decode cX10_goOnFromOutside 11 = .ok (.sipush 144, 3) := by decide +kernel
theorem dX10_goOnFromOutside_14 : decode cX10_goOnFromOutside 14 = .ok (.iload_n 1, 1) := by decide +kernel
theorem dX10_goOnFromOutside_15 : decode cX10_goOnFromOutside 15 = .ok (.iadd, 1) := by decide +kernel
theorem dX10_goOnFromOutside_16 : decode cX10_goOnFromOutside 16 = .ok (.invokevirtual 84, 3) := by decide +kernel
theorem dX10_goOnFromOutside_19 : decode cX10_goOnFromOutside 19 = .ok (.iconst 0, 1) := by decide +kernel
theorem dX10_goOnFromOutside_20 : decode cX10_goOnFromOutside 20 = .ok (.istore_n 2, 1) := by decide +kernel
theorem dX10_goOnFromOutside_21 : decode cX10_goOnFromOutside 21 = .ok (.iload_n 2, 1) := by decide +kernel
theorem dX10_goOnFromOutside_22 : decode cX10_goOnFromOutside 22 = .ok (.iconst 4, 1) := by decide +kernel
theorem dX10_goOnFromOutside_23 : decode cX10_goOnFromOutside 23 = .ok (.if_icmp .ge 39, 3) := by decide +kernel
theorem dX10_goOnFromOutside_26 : decode cX10_goOnFromOutside 26 = .ok (.iload_n 1, 1) := by decide +kernel
theorem dX10_goOnFromOutside_27 : decode cX10_goOnFromOutside 27 = .ok (.iload_n 2, 1) := by decide +kernel
theorem dX10_goOnFromOutside_28 : decode cX10_goOnFromOutside 28 = .ok (.invokestatic 65, 3) := by decide +kernel
theorem dX10_goOnFromOutside_31 : decode cX10_goOnFromOutside 31 = .ok (.istore_n 3, 1) := by decide +kernel
theorem dX10_goOnFromOutside_32 : decode cX10_goOnFromOutside 32 = .ok (.iload_n 3, 1) := by decide +kernel
theorem dX10_goOnFromOutside_33 : decode cX10_goOnFromOutside 33 = .ok (.iconst (-1), 1) := by decide +kernel
theorem dX10_goOnFromOutside_34 : decode cX10_goOnFromOutside 34 = .ok (.if_icmp .eq 22, 3) := by decide +kernel
theorem dX10_goOnFromOutside_37 : decode cX10_goOnFromOutside 37 = .ok (.aload_n 0, 1) := by decide +kernel
theorem dX10_goOnFromOutside_38 : decode cX10_goOnFromOutside 38 = .ok (.getfield 9, 3) := by decide +kernel
theorem dX10_goOnFromOutside_41 : decode cX10_goOnFromOutside 41 = .ok (.iload_n 3, 1) := by decide +kernel
theorem dX10_goOnFromOutside_42 : decode cX10_goOnFromOutside 42 = .ok (.iaload, 1) := by decide +kernel
theorem dX10_goOnFromOutside_43 : decode cX10_goOnFromOutside 43 = .ok (.ifCond .ne 13, 3) := by decide +kernel
theorem dX10_goOnFromOutside_46 : decode cX10_goOnFromOutside 46 = .ok (.aload_n 0, 1) := by decide +kernel
theorem dX10_goOnFromOutside_47 : decode cX10_goOnFromOutside 47 = .ok (.iload_n 3, 1) := by decide +kernel
theorem dX10_goOnFromOutside_48 : decode cX10_goOnFromOutside 48 = .ok (.sipush 144, 3) := by decide +kernel
theorem dX10_goOnFromOutside_51 : decode cX10_goOnFromOutside 51 = .ok (.iload_n 1, 1) := by decide +kernel
theorem dX10_goOnFromOutside_52 : decode cX10_goOnFromOutside 52 = .ok (.iadd, 1) := by decide +kernel
theorem dX10_goOnFromOutside_53 : decode cX10_goOnFromOutside 53 = .ok (.invokevirtual 84, 3) := by decide +kernel
theorem dX10_goOnFromOutside_56 : decode cX10_goOnFromOutside 56 = .ok (.iinc 2 1, 3) := by decide +kernel
theorem dX10_goOnFromOutside_59 : decode cX10_goOnFromOutside 59 = .ok (.goto (-38), 3) := by decide +kernel
theorem dX10_goOnFromOutside_62 : decode cX10_goOnFromOutside 62 = .ok (.return_, 1) := by decide +kernel
theorem cw_X10_goOnFromOutside_65 : CwSN mi_X10_goOnFromOutside mi_X11_beside yX11_beside 65 2 "FrostRing" := ⟨⟨by decide +kernel, w_860, w_95, w_861⟩, ⟨by decide, by decide⟩, by decide +kernel, by decide, by decide⟩
theorem cw_X10_goOnFromOutside_84 : CwV mi_X10_goOnFromOutside mi_X10_come yX10_come RX10 84 2 := ⟨⟨w_942, w_944, w_28, w_105, w_945⟩, ⟨by decide, by decide⟩, by decide +kernel, by decide, by decide⟩
theorem j_X10_goOnFromOutside_B56 {l : Launch} {Γ : Am} {k21 : Nat → Int32 → Int32 → Hp → Option (Unit × Hp)} (hL21 : ∀ (r0 : Nat) (v1 : Int32) (v2 : Int32) (z : Hp), J l Γ mi_X10_goOnFromOutside cvV 0 0 21 [(0, .ref (mB Γ + r0)), (1, .int v1), (2, .int v2)] [] z (k21 r0 v1 v2 z)) : ∀ (r0 : Nat) (v1 : Int32) (v2 : Int32) (z : Hp), J l Γ mi_X10_goOnFromOutside cvV 0 0 56 [(0, .ref (mB Γ + r0)), (1, .int v1), (2, .int v2)] [] z (m_X10_goOnFromOutside_B56 k21 r0 v1 v2 z) := by
  intro r0 v1 v2 z
  unfold m_X10_goOnFromOutside_B56
  refine j_iinc (pc := 56) (n0 := 2) (v0 := v2 + 1) (lv2 := [(2, .int (v2 + 1)), (0, .ref (mB Γ + r0)), (1, .int v1)]) dX10_goOnFromOutside_56 rfl rfl (by decide) rfl ?_
  refine j_goto (pc := 59) 21 dX10_goOnFromOutside_59 (by decide) ?_
  exact J.sub [1, 2, 0] rfl (hL21 r0 v1 (v2 + 1) z)
theorem j_X10_goOnFromOutside_L21 {l : Launch} {Γ : Am}   : ∀ (f : Nat), ∀ (r0 : Nat) (v1 : Int32) (v2 : Int32) (z : Hp), J l Γ mi_X10_goOnFromOutside cvV 0 0 21 [(0, .ref (mB Γ + r0)), (1, .int v1), (2, .int v2)] [] z (m_X10_goOnFromOutside_L21  f r0 v1 v2 z) := by
  intro f
  induction f with
  | zero => intro r0 v1 v2 z; exact J.none
  | succ f hL21 =>
    intro r0 v1 v2 z
    rw [m_X10_goOnFromOutside_L21]
    refine j_iload_n (pc := 21) 2 dX10_goOnFromOutside_21 rfl rfl ?_
    refine j_iconst (pc := 22) (v := 4) dX10_goOnFromOutside_22 (by decide) ?_
    refine j_icmp_ge (pc := 23) 62 dX10_goOnFromOutside_23 (by decide) ?_ ?_
    · exact j_return (pc := 62) dX10_goOnFromOutside_62 rfl
    refine j_iload_n (pc := 26) 1 dX10_goOnFromOutside_26 rfl rfl ?_
    refine j_iload_n (pc := 27) 2 dX10_goOnFromOutside_27 rfl rfl ?_
    refine j_callSN_I (pc := 28) (as := [.int v1, .int v2]) (mc2 := 0) (ms2 := 0) (ct_X11_beside _ _ _) cw_X10_goOnFromOutside_65 dX10_goOnFromOutside_28 (Nat.le_of_ble_eq_true rfl) rfl (by decide) (by decide) (fun x2 z1 => ?_)
    refine j_istore_n (pc := 31) (lv2 := [(3, .int x2), (0, .ref (mB Γ + r0)), (1, .int v1), (2, .int v2)]) dX10_goOnFromOutside_31 rfl (by decide) rfl ?_
    refine j_iload_n (pc := 32) 0 dX10_goOnFromOutside_32 rfl rfl ?_
    refine j_iconst (pc := 33) (v := (-1)) dX10_goOnFromOutside_33 (by decide) ?_
    refine j_icmp_eq (pc := 34) 56 dX10_goOnFromOutside_34 (by decide) ?_ ?_
    · exact J.sub [1, 2, 3] rfl ((j_X10_goOnFromOutside_B56 hL21) r0 v1 v2 z1)
    refine j_aload_n (pc := 37) 1 dX10_goOnFromOutside_37 rfl rfl ?_
    refine j_getR (pc := 38) ok_X10 (by decide) rfl w_460 dX10_goOnFromOutside_38 (fun a3 => ?_)
    refine j_iload_n (pc := 41) 0 dX10_goOnFromOutside_41 rfl rfl ?_
    refine j_iaload (pc := 42) dX10_goOnFromOutside_42 (fun x4 => ?_)
    refine j_if_ne (pc := 43) 56 dX10_goOnFromOutside_43 (by decide) ?_ ?_
    · exact J.sub [1, 2, 3] rfl ((j_X10_goOnFromOutside_B56 hL21) r0 v1 v2 z1)
    refine j_aload_n (pc := 46) 1 dX10_goOnFromOutside_46 rfl rfl ?_
    refine j_iload_n (pc := 47) 0 dX10_goOnFromOutside_47 rfl rfl ?_
    refine j_sipush (pc := 48) (v := 144) dX10_goOnFromOutside_48 (by decide) ?_
    refine j_iload_n (pc := 51) 2 dX10_goOnFromOutside_51 rfl rfl ?_
    refine j_iadd (pc := 52) dX10_goOnFromOutside_52 ?_
    refine j_isC (fun h6 => ?_)
    refine j_callV_V (pc := 53) (as := [.int x2, .int (144 + v1)]) (mc2 := 0) (ms2 := 0) (ct_X10_come _ _ _ _) h6 rfl cw_X10_goOnFromOutside_84 dX10_goOnFromOutside_53 (Nat.le_of_ble_eq_true rfl) rfl (by decide) (by decide) (fun _ z5 => ?_)
    exact J.sub [1, 2, 3] rfl ((j_X10_goOnFromOutside_B56 hL21) r0 v1 v2 z5)
theorem j_X10_goOnFromOutside_B19 {l : Launch} {Γ : Am}   : ∀ (r0 : Nat) (v1 : Int32) (z : Hp), J l Γ mi_X10_goOnFromOutside cvV 0 0 19 [(0, .ref (mB Γ + r0)), (1, .int v1)] [] z (m_X10_goOnFromOutside_B19  r0 v1 z) := by
  intro r0 v1 z
  unfold m_X10_goOnFromOutside_B19
  refine j_iconst (pc := 19) (v := 0) dX10_goOnFromOutside_19 (by decide) ?_
  refine j_istore_n (pc := 20) (lv2 := [(2, .int 0), (0, .ref (mB Γ + r0)), (1, .int v1)]) dX10_goOnFromOutside_20 rfl (by decide) rfl ?_
  exact J.sub [1, 2, 0] rfl ((j_X10_goOnFromOutside_L21 FU) r0 v1 0 z)
theorem ct_X10_goOnFromOutside {l : Launch} {Γ : Am} (r0 : Nat) (v1 : Int32) (z : Hp) : Ct l Γ yX10_goOnFromOutside mi_X10_goOnFromOutside cvV [.ref (mB Γ + r0), .int v1] z (m_X10_goOnFromOutside r0 v1 z) := by
  refine Ct.ofJ (by decide) ⟨rfl, rfl⟩ (Nat.le_of_ble_eq_true rfl) ?_
  unfold m_X10_goOnFromOutside
  show J l Γ mi_X10_goOnFromOutside cvV 0 0 0 [(0, .ref (mB Γ + r0)), (1, .int v1)] [] z _
  refine j_aload_n (pc := 0) 0 dX10_goOnFromOutside_0 rfl rfl ?_
  refine j_getR (pc := 1) ok_X10 (by decide) rfl w_468 dX10_goOnFromOutside_1 (fun a7 => ?_)
  refine j_iload_n (pc := 4) 1 dX10_goOnFromOutside_4 rfl rfl ?_
  refine j_iaload (pc := 5) dX10_goOnFromOutside_5 (fun x8 => ?_)
  refine j_if_eq (pc := 6) 19 dX10_goOnFromOutside_6 (by decide) ?_ ?_
  · exact J.sub [0, 1] rfl (j_X10_goOnFromOutside_B19 r0 v1 z)
  refine j_aload_n (pc := 9) 0 dX10_goOnFromOutside_9 rfl rfl ?_
  refine j_iload_n (pc := 10) 1 dX10_goOnFromOutside_10 rfl rfl ?_
  refine j_sipush (pc := 11) (v := 144) dX10_goOnFromOutside_11 (by decide) ?_
  refine j_iload_n (pc := 14) 1 dX10_goOnFromOutside_14 rfl rfl ?_
  refine j_iadd (pc := 15) dX10_goOnFromOutside_15 ?_
  refine j_isC (fun h10 => ?_)
  refine j_callV_V (pc := 16) (as := [.int v1, .int (144 + v1)]) (mc2 := 0) (ms2 := 0) (ct_X10_come _ _ _ _) h10 rfl cw_X10_goOnFromOutside_84 dX10_goOnFromOutside_16 (Nat.le_of_ble_eq_true rfl) rfl (by decide) (by decide) (fun _ z9 => ?_)
  exact J.sub [0, 1] rfl (j_X10_goOnFromOutside_B19 r0 v1 z9)
theorem dX10_searchPath_0 : decode cX10_searchPath 0 = .ok (.aload_n 0, 1) := by decide +kernel
theorem dX10_searchPath_1 : decode cX10_searchPath 1 = .ok (.getfield 34, 3) := by decide +kernel
theorem dX10_searchPath_4 : decode cX10_searchPath 4 = .ok (.iconst (-1), 1) := by decide +kernel
theorem dX10_searchPath_5 : decode cX10_searchPath 5 = .ok (.invokestatic 51, 3) := by decide +kernel
theorem dX10_searchPath_8 : decode cX10_searchPath 8 = .ok (.aload_n 0, 1) := by decide +kernel
theorem dX10_searchPath_9 : decode cX10_searchPath 9 = .ok (.iconst 0, 1) := by decide +kernel
theorem dX10_searchPath_10 : decode cX10_searchPath 10 = .ok (.putfield 27, 3) := by decide +kernel
theorem dX10_searchPath_13 : decode cX10_searchPath 13 = .ok (.iconst 0, 1) := by decide +kernel
theorem dX10_searchPath_14 : decode cX10_searchPath 14 = .ok (.istore_n 1, 1) := by decide +kernel
theorem dX10_searchPath_15 : decode cX10_searchPath 15 = .ok (.iload_n 1, 1) := by decide +kernel
theorem dX10_searchPath_16 : decode cX10_searchPath 16 = .ok (.sipush 144, 3) := by decide +kernel
theorem dX10_searchPath_19 : decode cX10_searchPath 19 = .ok (.if_icmp .ge 34, 3) := by decide +kernel
theorem dX10_searchPath_22 : decode cX10_searchPath 22 = .ok (.aload_n 0, 1) := by decide +kernel
theorem dX10_searchPath_23 : decode cX10_searchPath 23 = .ok (.getfield 15, 3) := by decide +kernel
theorem dX10_searchPath_26 : decode cX10_searchPath 26 = .ok (.iload_n 1, 1) := by decide +kernel
theorem dX10_searchPath_27 : decode cX10_searchPath 27 = .ok (.iaload, 1) := by decide +kernel
theorem dX10_searchPath_28 : decode cX10_searchPath 28 = .ok (.ifCond .eq 19, 3) := by decide +kernel
theorem dX10_searchPath_31 : decode cX10_searchPath 31 = .ok (.aload_n 0, 1) := by decide +kernel
theorem dX10_searchPath_32 : decode cX10_searchPath 32 = .ok (.getfield 9, 3) := by decide +kernel
theorem dX10_searchPath_35 : decode cX10_searchPath 35 = .ok (.iload_n 1, 1) := by decide +kernel
theorem dX10_searchPath_36 : decode cX10_searchPath 36 = .ok (.iaload, 1) := by decide +kernel
theorem dX10_searchPath_37 : decode cX10_searchPath 37 = .ok (.ifCond .ne 10, 3) := by decide +kernel
theorem dX10_searchPath_40 : decode cX10_searchPath 40 = .ok (.aload_n 0, 1) := by decide +kernel
theorem dX10_searchPath_41 : decode cX10_searchPath 41 = .ok (.iload_n 1, 1) := by decide +kernel
theorem dX10_searchPath_42 : decode cX10_searchPath 42 = .ok (.bipush (-2), 2) := by decide +kernel
theorem dX10_searchPath_44 : decode cX10_searchPath 44 = .ok (.invokevirtual 84, 3) := by decide +kernel
theorem dX10_searchPath_47 : decode cX10_searchPath 47 = .ok (.iinc 1 1, 3) := by decide +kernel
theorem dX10_searchPath_50 : decode cX10_searchPath 50 = .ok (.goto (-35), 3) := by decide +kernel
theorem dX10_searchPath_53 : decode cX10_searchPath 53 = .ok (.iconst 0, 1) := by decide +kernel
theorem dX10_searchPath_54 : decode cX10_searchPath 54 = .ok (.istore_n 1, 1) := by decide +kernel
theorem dX10_searchPath_55 : decode cX10_searchPath 55 = .ok (.iload_n 1, 1) := by decide +kernel
theorem dX10_searchPath_56 : decode cX10_searchPath 56 = .ok (.aload_n 0, 1) := by decide +kernel
theorem dX10_searchPath_57 : decode cX10_searchPath 57 = .ok (.getfield 27, 3) := by decide +kernel
theorem dX10_searchPath_60 : decode cX10_searchPath 60 = .ok (.if_icmp .ge 60, 3) := by decide +kernel
theorem dX10_searchPath_63 : decode cX10_searchPath 63 = .ok (.iload_n 1, 1) := by decide +kernel
theorem dX10_searchPath_64 : decode cX10_searchPath 64 = .ok (.sipush 288, 3) := by decide +kernel
theorem dX10_searchPath_67 : decode cX10_searchPath 67 = .ok (.if_icmp .ge 53, 3) := by decide +kernel
theorem dX10_searchPath_70 : decode cX10_searchPath 70 = .ok (.aload_n 0, 1) := by decide +kernel
theorem dX10_searchPath_71 : decode cX10_searchPath 71 = .ok (.getfield 21, 3) := by decide +kernel
theorem dX10_searchPath_74 : decode cX10_searchPath 74 = .ok (.iload_n 1, 1) := by decide +kernel
theorem dX10_searchPath_75 : decode cX10_searchPath 75 = .ok (.iaload, 1) := by decide +kernel
theorem dX10_searchPath_76 : decode cX10_searchPath 76 = .ok (.istore_n 2, 1) := by decide +kernel
theorem dX10_searchPath_77 : decode cX10_searchPath 77 = .ok (.iload_n 2, 1) := by decide +kernel
theorem dX10_searchPath_78 : decode cX10_searchPath 78 = .ok (.sipush 144, 3) := by decide +kernel
theorem dX10_searchPath_81 : decode cX10_searchPath 81 = .ok (.if_icmp .ge 11, 3) := by decide +kernel
theorem dX10_searchPath_84 : decode cX10_searchPath 84 = .ok (.aload_n 0, 1) := by decide +kernel
theorem dX10_searchPath_85 : decode cX10_searchPath 85 = .ok (.iload_n 2, 1) := by decide +kernel
theorem dX10_searchPath_86 : decode cX10_searchPath 86 = .ok (.invokevirtual 87, 3) := by decide +kernel
theorem dX10_searchPath_89 : decode cX10_searchPath 89 = .ok (.goto 25, 3) := by decide +kernel
theorem dX10_searchPath_92 : decode cX10_searchPath 92 = .ok (.iload_n 2, 1) := by decide +kernel
theorem dX10_searchPath_93 : decode cX10_searchPath 93 = .ok (.sipush 144, 3) := by decide +kernel
theorem dX10_searchPath_96 : decode cX10_searchPath 96 = .ok (.isub, 1) := by decide +kernel
theorem dX10_searchPath_97 : decode cX10_searchPath 97 = .ok (.invokestatic 61, 3) := by decide +kernel
theorem dX10_searchPath_100 : decode cX10_searchPath 100 = .ok (.ifCond .eq 5, 3) := by decide +kernel
theorem dX10_searchPath_103 : decode cX10_searchPath 103 = .ok (.iload_n 2, 1) := by decide +kernel
theorem dX10_searchPath_104 : decode cX10_searchPath 104 = .ok (.ireturn, 1) := by decide +kernel
theorem dX10_searchPath_105 : decode cX10_searchPath 105 = .ok (.aload_n 0, 1) := by decide +kernel
theorem dX10_searchPath_106 : decode cX10_searchPath 106 = .ok (.iload_n 2, 1) := by decide +kernel
theorem dX10_searchPath_107 : decode cX10_searchPath 107 = .ok (.sipush 144, 3) := by decide +kernel
theorem dX10_searchPath_110 : decode cX10_searchPath 110 = .ok (.isub, 1) := by decide +kernel
theorem dX10_searchPath_111 : decode cX10_searchPath 111 = .ok (.invokevirtual 90, 3) := by decide +kernel
theorem dX10_searchPath_114 : decode cX10_searchPath 114 = .ok (.iinc 1 1, 3) := by decide +kernel
theorem dX10_searchPath_117 : decode cX10_searchPath 117 = .ok (.goto (-62), 3) := by decide +kernel
theorem dX10_searchPath_120 : decode cX10_searchPath 120 = .ok (.iconst (-1), 1) := by decide +kernel
theorem dX10_searchPath_121 : decode cX10_searchPath 121 = .ok (.ireturn, 1) := by decide +kernel
theorem cw_X10_searchPath_61 : CwSN mi_X10_searchPath mi_X11_isAtRim yX11_isAtRim 61 1 "FrostRing" := ⟨⟨by decide +kernel, w_868, w_95, w_869⟩, ⟨by decide, by decide⟩, by decide +kernel, by decide, by decide⟩
theorem cw_X10_searchPath_90 : CwV mi_X10_searchPath mi_X10_goOnFromOutside yX10_goOnFromOutside RX10 90 1 := ⟨⟨w_950, w_952, w_30, w_105, w_953⟩, ⟨by decide, by decide⟩, by decide +kernel, by decide, by decide⟩
theorem cw_X10_searchPath_87 : CwV mi_X10_searchPath mi_X10_goOnFromInside yX10_goOnFromInside RX10 87 1 := ⟨⟨w_946, w_948, w_29, w_105, w_949⟩, ⟨by decide, by decide⟩, by decide +kernel, by decide, by decide⟩
theorem cw_X10_searchPath_84 : CwV mi_X10_searchPath mi_X10_come yX10_come RX10 84 2 := ⟨⟨w_942, w_944, w_28, w_105, w_945⟩, ⟨by decide, by decide⟩, by decide +kernel, by decide, by decide⟩
theorem cw_X10_searchPath_51 : CwS mi_X10_searchPath mi_J7_fill_53178 yJ7_fill_53178 51 2 := ⟨⟨w_862, w_500, w_107, w_501⟩, ⟨by decide, by decide⟩, by decide +kernel, by decide, by decide⟩
theorem j_X10_searchPath_B114 {l : Launch} {Γ : Am} {k55 : Nat → Int32 → Hp → Option (Int32 × Hp)} (hL55 : ∀ (r0 : Nat) (v1 : Int32) (z : Hp), J l Γ mi_X10_searchPath cvI 0 0 55 [(0, .ref (mB Γ + r0)), (1, .int v1)] [] z (k55 r0 v1 z)) : ∀ (r0 : Nat) (v1 : Int32) (z : Hp), J l Γ mi_X10_searchPath cvI 0 0 114 [(0, .ref (mB Γ + r0)), (1, .int v1)] [] z (m_X10_searchPath_B114 k55 r0 v1 z) := by
  intro r0 v1 z
  unfold m_X10_searchPath_B114
  refine j_iinc (pc := 114) (n0 := 1) (v0 := v1 + 1) (lv2 := [(1, .int (v1 + 1)), (0, .ref (mB Γ + r0))]) dX10_searchPath_114 rfl rfl (by decide) rfl ?_
  refine j_goto (pc := 117) 55 dX10_searchPath_117 (by decide) ?_
  exact J.sub [1, 0] rfl (hL55 r0 (v1 + 1) z)
theorem j_X10_searchPath_L55 {l : Launch} {Γ : Am}   : ∀ (f : Nat), ∀ (r0 : Nat) (v1 : Int32) (z : Hp), J l Γ mi_X10_searchPath cvI 0 0 55 [(0, .ref (mB Γ + r0)), (1, .int v1)] [] z (m_X10_searchPath_L55  f r0 v1 z) := by
  intro f
  induction f with
  | zero => intro r0 v1 z; exact J.none
  | succ f hL55 =>
    intro r0 v1 z
    rw [m_X10_searchPath_L55]
    refine j_iload_n (pc := 55) 1 dX10_searchPath_55 rfl rfl ?_
    refine j_aload_n (pc := 56) 0 dX10_searchPath_56 rfl rfl ?_
    refine j_getI (pc := 57) ok_X10 (by decide) rfl w_465 dX10_searchPath_57 (fun x1 => ?_)
    refine j_icmp_ge (pc := 60) 120 dX10_searchPath_60 (by decide) ?_ ?_
    · refine j_iconst (pc := 120) (v := (-1)) dX10_searchPath_120 (by decide) ?_
      exact j_ireturn (pc := 121) dX10_searchPath_121 rfl rfl
    refine j_iload_n (pc := 63) 1 dX10_searchPath_63 rfl rfl ?_
    refine j_sipush (pc := 64) (v := 288) dX10_searchPath_64 (by decide) ?_
    refine j_icmp_ge (pc := 67) 120 dX10_searchPath_67 (by decide) ?_ ?_
    · refine j_iconst (pc := 120) (v := (-1)) dX10_searchPath_120 (by decide) ?_
      exact j_ireturn (pc := 121) dX10_searchPath_121 rfl rfl
    refine j_aload_n (pc := 70) 0 dX10_searchPath_70 rfl rfl ?_
    refine j_getR (pc := 71) ok_X10 (by decide) rfl w_463 dX10_searchPath_71 (fun a2 => ?_)
    refine j_iload_n (pc := 74) 1 dX10_searchPath_74 rfl rfl ?_
    refine j_iaload (pc := 75) dX10_searchPath_75 (fun x3 => ?_)
    refine j_istore_n (pc := 76) (lv2 := [(2, .int x3), (0, .ref (mB Γ + r0)), (1, .int v1)]) dX10_searchPath_76 rfl (by decide) rfl ?_
    refine j_iload_n (pc := 77) 0 dX10_searchPath_77 rfl rfl ?_
    refine j_sipush (pc := 78) (v := 144) dX10_searchPath_78 (by decide) ?_
    refine j_icmp_ge (pc := 81) 92 dX10_searchPath_81 (by decide) ?_ ?_
    · refine j_iload_n (pc := 92) 0 dX10_searchPath_92 rfl rfl ?_
      refine j_sipush (pc := 93) (v := 144) dX10_searchPath_93 (by decide) ?_
      refine j_isub (pc := 96) dX10_searchPath_96 ?_
      refine j_callSN_I (pc := 97) (as := [.int (x3 - 144)]) (mc2 := 0) (ms2 := 0) (ct_X11_isAtRim _ _) cw_X10_searchPath_61 dX10_searchPath_97 (Nat.le_of_ble_eq_true rfl) rfl (by decide) (by decide) (fun x5 z4 => ?_)
      refine j_if_eq (pc := 100) 105 dX10_searchPath_100 (by decide) ?_ ?_
      · refine j_aload_n (pc := 105) 1 dX10_searchPath_105 rfl rfl ?_
        refine j_iload_n (pc := 106) 0 dX10_searchPath_106 rfl rfl ?_
        refine j_sipush (pc := 107) (v := 144) dX10_searchPath_107 (by decide) ?_
        refine j_isub (pc := 110) dX10_searchPath_110 ?_
        refine j_isC (fun h7 => ?_)
        refine j_callV_V (pc := 111) (as := [.int (x3 - 144)]) (mc2 := 0) (ms2 := 0) (ct_X10_goOnFromOutside _ _ _) h7 rfl cw_X10_searchPath_90 dX10_searchPath_111 (Nat.le_of_ble_eq_true rfl) rfl (by decide) (by decide) (fun _ z6 => ?_)
        exact J.sub [1, 2] rfl ((j_X10_searchPath_B114 hL55) r0 v1 z6)
      refine j_iload_n (pc := 103) 0 dX10_searchPath_103 rfl rfl ?_
      exact j_ireturn (pc := 104) dX10_searchPath_104 rfl rfl
    refine j_aload_n (pc := 84) 1 dX10_searchPath_84 rfl rfl ?_
    refine j_iload_n (pc := 85) 0 dX10_searchPath_85 rfl rfl ?_
    refine j_isC (fun h9 => ?_)
    refine j_callV_V (pc := 86) (as := [.int x3]) (mc2 := 0) (ms2 := 0) (ct_X10_goOnFromInside _ _ _) h9 rfl cw_X10_searchPath_87 dX10_searchPath_86 (Nat.le_of_ble_eq_true rfl) rfl (by decide) (by decide) (fun _ z8 => ?_)
    refine j_goto (pc := 89) 114 dX10_searchPath_89 (by decide) ?_
    exact J.sub [1, 2] rfl ((j_X10_searchPath_B114 hL55) r0 v1 z8)
theorem j_X10_searchPath_B53 {l : Launch} {Γ : Am}   : ∀ (r0 : Nat) (z : Hp), J l Γ mi_X10_searchPath cvI 0 0 53 [(0, .ref (mB Γ + r0))] [] z (m_X10_searchPath_B53  r0 z) := by
  intro r0 z
  unfold m_X10_searchPath_B53
  refine j_iconst (pc := 53) (v := 0) dX10_searchPath_53 (by decide) ?_
  refine j_istore_n (pc := 54) (lv2 := [(1, .int 0), (0, .ref (mB Γ + r0))]) dX10_searchPath_54 rfl (by decide) rfl ?_
  exact J.sub [1, 0] rfl ((j_X10_searchPath_L55 FU) r0 0 z)
theorem j_X10_searchPath_B47 {l : Launch} {Γ : Am} {k15 : Nat → Int32 → Hp → Option (Int32 × Hp)} (hL15 : ∀ (r0 : Nat) (v1 : Int32) (z : Hp), J l Γ mi_X10_searchPath cvI 0 0 15 [(0, .ref (mB Γ + r0)), (1, .int v1)] [] z (k15 r0 v1 z)) : ∀ (r0 : Nat) (v1 : Int32) (z : Hp), J l Γ mi_X10_searchPath cvI 0 0 47 [(0, .ref (mB Γ + r0)), (1, .int v1)] [] z (m_X10_searchPath_B47 k15 r0 v1 z) := by
  intro r0 v1 z
  unfold m_X10_searchPath_B47
  refine j_iinc (pc := 47) (n0 := 1) (v0 := v1 + 1) (lv2 := [(1, .int (v1 + 1)), (0, .ref (mB Γ + r0))]) dX10_searchPath_47 rfl rfl (by decide) rfl ?_
  refine j_goto (pc := 50) 15 dX10_searchPath_50 (by decide) ?_
  exact J.sub [1, 0] rfl (hL15 r0 (v1 + 1) z)
theorem j_X10_searchPath_L15 {l : Launch} {Γ : Am} {k53 : Nat → Hp → Option (Int32 × Hp)} (hL53 : ∀ (r0 : Nat) (z : Hp), J l Γ mi_X10_searchPath cvI 0 0 53 [(0, .ref (mB Γ + r0))] [] z (k53 r0 z)) : ∀ (f : Nat), ∀ (r0 : Nat) (v1 : Int32) (z : Hp), J l Γ mi_X10_searchPath cvI 0 0 15 [(0, .ref (mB Γ + r0)), (1, .int v1)] [] z (m_X10_searchPath_L15 k53 f r0 v1 z) := by
  intro f
  induction f with
  | zero => intro r0 v1 z; exact J.none
  | succ f hL15 =>
    intro r0 v1 z
    rw [m_X10_searchPath_L15]
    refine j_iload_n (pc := 15) 1 dX10_searchPath_15 rfl rfl ?_
    refine j_sipush (pc := 16) (v := 144) dX10_searchPath_16 (by decide) ?_
    refine j_icmp_ge (pc := 19) 53 dX10_searchPath_19 (by decide) ?_ ?_
    · exact J.sub [0] rfl (hL53 r0 z)
    refine j_aload_n (pc := 22) 0 dX10_searchPath_22 rfl rfl ?_
    refine j_getR (pc := 23) ok_X10 (by decide) rfl w_461 dX10_searchPath_23 (fun a10 => ?_)
    refine j_iload_n (pc := 26) 1 dX10_searchPath_26 rfl rfl ?_
    refine j_iaload (pc := 27) dX10_searchPath_27 (fun x11 => ?_)
    refine j_if_eq (pc := 28) 47 dX10_searchPath_28 (by decide) ?_ ?_
    · exact J.sub [0, 1] rfl ((j_X10_searchPath_B47 hL15) r0 v1 z)
    refine j_aload_n (pc := 31) 0 dX10_searchPath_31 rfl rfl ?_
    refine j_getR (pc := 32) ok_X10 (by decide) rfl w_460 dX10_searchPath_32 (fun a12 => ?_)
    refine j_iload_n (pc := 35) 1 dX10_searchPath_35 rfl rfl ?_
    refine j_iaload (pc := 36) dX10_searchPath_36 (fun x13 => ?_)
    refine j_if_ne (pc := 37) 47 dX10_searchPath_37 (by decide) ?_ ?_
    · exact J.sub [0, 1] rfl ((j_X10_searchPath_B47 hL15) r0 v1 z)
    refine j_aload_n (pc := 40) 0 dX10_searchPath_40 rfl rfl ?_
    refine j_iload_n (pc := 41) 1 dX10_searchPath_41 rfl rfl ?_
    refine j_bipush (pc := 42) (v := (-2)) dX10_searchPath_42 (by decide) ?_
    refine j_isC (fun h15 => ?_)
    refine j_callV_V (pc := 44) (as := [.int v1, .int (-2)]) (mc2 := 0) (ms2 := 0) (ct_X10_come _ _ _ _) h15 rfl cw_X10_searchPath_84 dX10_searchPath_44 (Nat.le_of_ble_eq_true rfl) rfl (by decide) (by decide) (fun _ z14 => ?_)
    exact J.sub [0, 1] rfl ((j_X10_searchPath_B47 hL15) r0 v1 z14)
theorem ct_X10_searchPath {l : Launch} {Γ : Am} (r0 : Nat) (z : Hp) : Ct l Γ yX10_searchPath mi_X10_searchPath cvI [.ref (mB Γ + r0)] z (m_X10_searchPath r0 z) := by
  refine Ct.ofJ (by decide) ⟨rfl, rfl⟩ (Nat.le_of_ble_eq_true rfl) ?_
  unfold m_X10_searchPath
  show J l Γ mi_X10_searchPath cvI 0 0 0 [(0, .ref (mB Γ + r0))] [] z _
  refine j_aload_n (pc := 0) 0 dX10_searchPath_0 rfl rfl ?_
  refine j_getR (pc := 1) ok_X10 (by decide) rfl w_467 dX10_searchPath_1 (fun a16 => ?_)
  refine j_iconst (pc := 4) (v := (-1)) dX10_searchPath_4 (by decide) ?_
  refine j_callS_V (pc := 5) (as := [.ref (mB Γ + a16), .int (-1)]) (mc2 := 0) (ms2 := 0) (ct_J7_fill_53178 _ _ _) cw_X10_searchPath_51 dX10_searchPath_5 (Nat.le_of_ble_eq_true rfl) rfl (by decide) (by decide) (fun _ z17 => ?_)
  refine j_aload_n (pc := 8) 0 dX10_searchPath_8 rfl rfl ?_
  refine j_iconst (pc := 9) (v := 0) dX10_searchPath_9 (by decide) ?_
  refine j_putI (pc := 10) ok_X10 (by decide) rfl w_465 (Or.inl rfl) rfl rfl dX10_searchPath_10 (fun z18 => ?_)
  refine j_iconst (pc := 13) (v := 0) dX10_searchPath_13 (by decide) ?_
  refine j_istore_n (pc := 14) (lv2 := [(1, .int 0), (0, .ref (mB Γ + r0))]) dX10_searchPath_14 rfl (by decide) rfl ?_
  exact J.sub [1, 0] rfl ((j_X10_searchPath_L15 j_X10_searchPath_B53 FU) r0 0 z18)
theorem dX10_sideTo_0 : decode cX10_sideTo 0 = .ok (.iload_n 1, 1) := by decide +kernel
theorem dX10_sideTo_1 : decode cX10_sideTo 1 = .ok (.iload_n 0, 1) := by decide +kernel
theorem dX10_sideTo_2 : decode cX10_sideTo 2 = .ok (.iconst 1, 1) := by decide +kernel
theorem dX10_sideTo_3 : decode cX10_sideTo 3 = .ok (.iadd, 1) := by decide +kernel
theorem dX10_sideTo_4 : decode cX10_sideTo 4 = .ok (.if_icmp .ne 5, 3) := by decide +kernel
theorem dX10_sideTo_7 : decode cX10_sideTo 7 = .ok (.iconst 0, 1) := by decide +kernel
theorem dX10_sideTo_8 : decode cX10_sideTo 8 = .ok (.ireturn, 1) := by decide +kernel
theorem dX10_sideTo_9 : decode cX10_sideTo 9 = .ok (.iload_n 1, 1) := by decide +kernel
theorem dX10_sideTo_10 : decode cX10_sideTo 10 = .ok (.iload_n 0, 1) := by decide +kernel
theorem dX10_sideTo_11 : decode cX10_sideTo 11 = .ok (.iconst 1, 1) := by decide +kernel
theorem dX10_sideTo_12 : decode cX10_sideTo 12 = .ok (.isub, 1) := by decide +kernel
theorem dX10_sideTo_13 : decode cX10_sideTo 13 = .ok (.if_icmp .ne 5, 3) := by decide +kernel
theorem dX10_sideTo_16 : decode cX10_sideTo 16 = .ok (.iconst 1, 1) := by decide +kernel
theorem dX10_sideTo_17 : decode cX10_sideTo 17 = .ok (.ireturn, 1) := by decide +kernel
theorem dX10_sideTo_18 : decode cX10_sideTo 18 = .ok (.iload_n 1, 1) := by decide +kernel
theorem dX10_sideTo_19 : decode cX10_sideTo 19 = .ok (.iload_n 0, 1) := by decide +kernel
theorem dX10_sideTo_20 : decode cX10_sideTo 20 = .ok (.if_icmp .ge 7, 3) := by decide +kernel
theorem dX10_sideTo_23 : decode cX10_sideTo 23 = .ok (.iconst 2, 1) := by decide +kernel
theorem dX10_sideTo_24 : decode cX10_sideTo 24 = .ok (.goto 4, 3) := by decide +kernel
theorem dX10_sideTo_27 : decode cX10_sideTo 27 = .ok (.iconst 3, 1) := by decide +kernel
theorem dX10_sideTo_28 : decode cX10_sideTo 28 = .ok (.ireturn, 1) := by decide +kernel
theorem ct_X10_sideTo {l : Launch} {Γ : Am} (v0 : Int32) (v1 : Int32) (z : Hp) : Ct l Γ yX10_sideTo mi_X10_sideTo cvI [.int v0, .int v1] z (m_X10_sideTo v0 v1 z) := by
  refine Ct.ofJ (by decide) ⟨rfl, rfl⟩ (Nat.le_of_ble_eq_true rfl) ?_
  unfold m_X10_sideTo
  show J l Γ mi_X10_sideTo cvI 0 0 0 [(0, .int v0), (1, .int v1)] [] z _
  refine j_iload_n (pc := 0) 1 dX10_sideTo_0 rfl rfl ?_
  refine j_iload_n (pc := 1) 0 dX10_sideTo_1 rfl rfl ?_
  refine j_iconst (pc := 2) (v := 1) dX10_sideTo_2 (by decide) ?_
  refine j_iadd (pc := 3) dX10_sideTo_3 ?_
  refine j_icmp_ne (pc := 4) 9 dX10_sideTo_4 (by decide) ?_ ?_
  · refine j_iload_n (pc := 9) 1 dX10_sideTo_9 rfl rfl ?_
    refine j_iload_n (pc := 10) 0 dX10_sideTo_10 rfl rfl ?_
    refine j_iconst (pc := 11) (v := 1) dX10_sideTo_11 (by decide) ?_
    refine j_isub (pc := 12) dX10_sideTo_12 ?_
    refine j_icmp_ne (pc := 13) 18 dX10_sideTo_13 (by decide) ?_ ?_
    · refine j_iload_n (pc := 18) 1 dX10_sideTo_18 rfl rfl ?_
      refine j_iload_n (pc := 19) 0 dX10_sideTo_19 rfl rfl ?_
      refine j_icmp_ge (pc := 20) 27 dX10_sideTo_20 (by decide) ?_ ?_
      · refine j_iconst (pc := 27) (v := 3) dX10_sideTo_27 (by decide) ?_
        exact j_ireturn (pc := 28) dX10_sideTo_28 rfl rfl
      refine j_iconst (pc := 23) (v := 2) dX10_sideTo_23 (by decide) ?_
      refine j_goto (pc := 24) 28 dX10_sideTo_24 (by decide) ?_
      exact j_ireturn (pc := 28) dX10_sideTo_28 rfl rfl
    refine j_iconst (pc := 16) (v := 1) dX10_sideTo_16 (by decide) ?_
    exact j_ireturn (pc := 17) dX10_sideTo_17 rfl rfl
  refine j_iconst (pc := 7) (v := 0) dX10_sideTo_7 (by decide) ?_
  exact j_ireturn (pc := 8) dX10_sideTo_8 rfl rfl
theorem dX10_goBackOrThrough_0 : decode cX10_goBackOrThrough 0 = .ok (.iload_n 1, 1) := by decide +kernel
theorem dX10_goBackOrThrough_1 : decode cX10_goBackOrThrough 1 = .ok (.iload_n 2, 1) := by decide +kernel
theorem dX10_goBackOrThrough_2 : decode cX10_goBackOrThrough 2 = .ok (.if_icmp .ne 13, 3) := by decide +kernel
theorem dX10_goBackOrThrough_5 : decode cX10_goBackOrThrough 5 = .ok (.aload_n 0, 1) := by decide +kernel
theorem dX10_goBackOrThrough_6 : decode cX10_goBackOrThrough 6 = .ok (.getfield 37, 3) := by decide +kernel
theorem dX10_goBackOrThrough_9 : decode cX10_goBackOrThrough 9 = .ok (.iload_n 1, 1) := by decide +kernel
theorem dX10_goBackOrThrough_10 : decode cX10_goBackOrThrough 10 = .ok (.iconst 1, 1) := by decide +kernel
theorem dX10_goBackOrThrough_11 : decode cX10_goBackOrThrough 11 = .ok (.iastore, 1) := by decide +kernel
theorem dX10_goBackOrThrough_12 : decode cX10_goBackOrThrough 12 = .ok (.goto 18, 3) := by decide +kernel
theorem dX10_goBackOrThrough_15 : decode cX10_goBackOrThrough 15 = .ok (.aload_n 0, 1) := by decide +kernel
theorem dX10_goBackOrThrough_16 : decode cX10_goBackOrThrough 16 = .ok (.getfield 40, 3) := by decide +kernel
theorem dX10_goBackOrThrough_19 : decode cX10_goBackOrThrough 19 = .ok (.iconst 4, 1) := by decide +kernel
theorem dX10_goBackOrThrough_20 : decode cX10_goBackOrThrough 20 = .ok (.iload_n 2, 1) := by decide +kernel
theorem dX10_goBackOrThrough_21 : decode cX10_goBackOrThrough 21 = .ok (.imul, 1) := by decide +kernel
theorem dX10_goBackOrThrough_22 : decode cX10_goBackOrThrough 22 = .ok (.iload_n 2, 1) := by decide +kernel
theorem dX10_goBackOrThrough_23 : decode cX10_goBackOrThrough 23 = .ok (.iload_n 1, 1) := by decide +kernel
theorem dX10_goBackOrThrough_24 : decode cX10_goBackOrThrough 24 = .ok (.invokestatic 99, 3) := by decide +kernel
theorem dX10_goBackOrThrough_27 : decode cX10_goBackOrThrough 27 = .ok (.iadd, 1) := by decide +kernel
theorem dX10_goBackOrThrough_28 : decode cX10_goBackOrThrough 28 = .ok (.iconst 0, 1) := by decide +kernel
theorem dX10_goBackOrThrough_29 : decode cX10_goBackOrThrough 29 = .ok (.iastore, 1) := by decide +kernel
theorem dX10_goBackOrThrough_30 : decode cX10_goBackOrThrough 30 = .ok (.return_, 1) := by decide +kernel
theorem cw_X10_goBackOrThrough_99 : CwS mi_X10_goBackOrThrough mi_X10_sideTo yX10_sideTo 99 2 := ⟨⟨w_962, w_963, w_105, w_964⟩, ⟨by decide, by decide⟩, by decide +kernel, by decide, by decide⟩
theorem ct_X10_goBackOrThrough {l : Launch} {Γ : Am} (r0 : Nat) (v1 : Int32) (v2 : Int32) (z : Hp) : Ct l Γ yX10_goBackOrThrough mi_X10_goBackOrThrough cvV [.ref (mB Γ + r0), .int v1, .int v2] z (m_X10_goBackOrThrough r0 v1 v2 z) := by
  refine Ct.ofJ (by decide) ⟨rfl, rfl⟩ (Nat.le_of_ble_eq_true rfl) ?_
  unfold m_X10_goBackOrThrough
  show J l Γ mi_X10_goBackOrThrough cvV 0 0 0 [(0, .ref (mB Γ + r0)), (1, .int v1), (2, .int v2)] [] z _
  refine j_iload_n (pc := 0) 1 dX10_goBackOrThrough_0 rfl rfl ?_
  refine j_iload_n (pc := 1) 2 dX10_goBackOrThrough_1 rfl rfl ?_
  refine j_icmp_ne (pc := 2) 15 dX10_goBackOrThrough_2 (by decide) ?_ ?_
  · refine j_aload_n (pc := 15) 0 dX10_goBackOrThrough_15 rfl rfl ?_
    refine j_getR (pc := 16) ok_X10 (by decide) rfl w_469 dX10_goBackOrThrough_16 (fun a1 => ?_)
    refine j_iconst (pc := 19) (v := 4) dX10_goBackOrThrough_19 (by decide) ?_
    refine j_iload_n (pc := 20) 2 dX10_goBackOrThrough_20 rfl rfl ?_
    refine j_imul (pc := 21) dX10_goBackOrThrough_21 ?_
    refine j_iload_n (pc := 22) 2 dX10_goBackOrThrough_22 rfl rfl ?_
    refine j_iload_n (pc := 23) 1 dX10_goBackOrThrough_23 rfl rfl ?_
    refine j_callS_I (pc := 24) (as := [.int v2, .int v1]) (mc2 := 0) (ms2 := 0) (ct_X10_sideTo _ _ _) cw_X10_goBackOrThrough_99 dX10_goBackOrThrough_24 (Nat.le_of_ble_eq_true rfl) rfl (by decide) (by decide) (fun x3 z2 => ?_)
    refine j_iadd (pc := 27) dX10_goBackOrThrough_27 ?_
    refine j_iconst (pc := 28) (v := 0) dX10_goBackOrThrough_28 (by decide) ?_
    refine j_iastore (pc := 29) dX10_goBackOrThrough_29 (fun z4 => ?_)
    exact j_return (pc := 30) dX10_goBackOrThrough_30 rfl
  refine j_aload_n (pc := 5) 0 dX10_goBackOrThrough_5 rfl rfl ?_
  refine j_getR (pc := 6) ok_X10 (by decide) rfl w_468 dX10_goBackOrThrough_6 (fun a5 => ?_)
  refine j_iload_n (pc := 9) 1 dX10_goBackOrThrough_9 rfl rfl ?_
  refine j_iconst (pc := 10) (v := 1) dX10_goBackOrThrough_10 (by decide) ?_
  refine j_iastore (pc := 11) dX10_goBackOrThrough_11 (fun z6 => ?_)
  refine j_goto (pc := 12) 30 dX10_goBackOrThrough_12 (by decide) ?_
  exact j_return (pc := 30) dX10_goBackOrThrough_30 rfl
theorem dX10_goOutOrBack_0 : decode cX10_goOutOrBack 0 = .ok (.iload_n 2, 1) := by decide +kernel
theorem dX10_goOutOrBack_1 : decode cX10_goOutOrBack 1 = .ok (.iload_n 1, 1) := by decide +kernel
theorem dX10_goOutOrBack_2 : decode cX10_goOutOrBack 2 = .ok (.if_icmp .ne 13, 3) := by decide +kernel
theorem dX10_goOutOrBack_5 : decode cX10_goOutOrBack 5 = .ok (.aload_n 0, 1) := by decide +kernel
theorem dX10_goOutOrBack_6 : decode cX10_goOutOrBack 6 = .ok (.getfield 37, 3) := by decide +kernel
theorem dX10_goOutOrBack_9 : decode cX10_goOutOrBack 9 = .ok (.iload_n 2, 1) := by decide +kernel
theorem dX10_goOutOrBack_10 : decode cX10_goOutOrBack 10 = .ok (.iconst 0, 1) := by decide +kernel
theorem dX10_goOutOrBack_11 : decode cX10_goOutOrBack 11 = .ok (.iastore, 1) := by decide +kernel
theorem dX10_goOutOrBack_12 : decode cX10_goOutOrBack 12 = .ok (.goto 18, 3) := by decide +kernel
theorem dX10_goOutOrBack_15 : decode cX10_goOutOrBack 15 = .ok (.aload_n 0, 1) := by decide +kernel
theorem dX10_goOutOrBack_16 : decode cX10_goOutOrBack 16 = .ok (.getfield 40, 3) := by decide +kernel
theorem dX10_goOutOrBack_19 : decode cX10_goOutOrBack 19 = .ok (.iconst 4, 1) := by decide +kernel
theorem dX10_goOutOrBack_20 : decode cX10_goOutOrBack 20 = .ok (.iload_n 1, 1) := by decide +kernel
theorem dX10_goOutOrBack_21 : decode cX10_goOutOrBack 21 = .ok (.imul, 1) := by decide +kernel
theorem dX10_goOutOrBack_22 : decode cX10_goOutOrBack 22 = .ok (.iload_n 1, 1) := by decide +kernel
theorem dX10_goOutOrBack_23 : decode cX10_goOutOrBack 23 = .ok (.iload_n 2, 1) := by decide +kernel
theorem dX10_goOutOrBack_24 : decode cX10_goOutOrBack 24 = .ok (.invokestatic 99, 3) := by decide +kernel
theorem dX10_goOutOrBack_27 : decode cX10_goOutOrBack 27 = .ok (.iadd, 1) := by decide +kernel
theorem dX10_goOutOrBack_28 : decode cX10_goOutOrBack 28 = .ok (.iconst 1, 1) := by decide +kernel
theorem dX10_goOutOrBack_29 : decode cX10_goOutOrBack 29 = .ok (.iastore, 1) := by decide +kernel
theorem dX10_goOutOrBack_30 : decode cX10_goOutOrBack 30 = .ok (.return_, 1) := by decide +kernel
theorem cw_X10_goOutOrBack_99 : CwS mi_X10_goOutOrBack mi_X10_sideTo yX10_sideTo 99 2 := ⟨⟨w_962, w_963, w_105, w_964⟩, ⟨by decide, by decide⟩, by decide +kernel, by decide, by decide⟩
theorem ct_X10_goOutOrBack {l : Launch} {Γ : Am} (r0 : Nat) (v1 : Int32) (v2 : Int32) (z : Hp) : Ct l Γ yX10_goOutOrBack mi_X10_goOutOrBack cvV [.ref (mB Γ + r0), .int v1, .int v2] z (m_X10_goOutOrBack r0 v1 v2 z) := by
  refine Ct.ofJ (by decide) ⟨rfl, rfl⟩ (Nat.le_of_ble_eq_true rfl) ?_
  unfold m_X10_goOutOrBack
  show J l Γ mi_X10_goOutOrBack cvV 0 0 0 [(0, .ref (mB Γ + r0)), (1, .int v1), (2, .int v2)] [] z _
  refine j_iload_n (pc := 0) 2 dX10_goOutOrBack_0 rfl rfl ?_
  refine j_iload_n (pc := 1) 1 dX10_goOutOrBack_1 rfl rfl ?_
  refine j_icmp_ne (pc := 2) 15 dX10_goOutOrBack_2 (by decide) ?_ ?_
  · refine j_aload_n (pc := 15) 0 dX10_goOutOrBack_15 rfl rfl ?_
    refine j_getR (pc := 16) ok_X10 (by decide) rfl w_469 dX10_goOutOrBack_16 (fun a1 => ?_)
    refine j_iconst (pc := 19) (v := 4) dX10_goOutOrBack_19 (by decide) ?_
    refine j_iload_n (pc := 20) 1 dX10_goOutOrBack_20 rfl rfl ?_
    refine j_imul (pc := 21) dX10_goOutOrBack_21 ?_
    refine j_iload_n (pc := 22) 1 dX10_goOutOrBack_22 rfl rfl ?_
    refine j_iload_n (pc := 23) 2 dX10_goOutOrBack_23 rfl rfl ?_
    refine j_callS_I (pc := 24) (as := [.int v1, .int v2]) (mc2 := 0) (ms2 := 0) (ct_X10_sideTo _ _ _) cw_X10_goOutOrBack_99 dX10_goOutOrBack_24 (Nat.le_of_ble_eq_true rfl) rfl (by decide) (by decide) (fun x3 z2 => ?_)
    refine j_iadd (pc := 27) dX10_goOutOrBack_27 ?_
    refine j_iconst (pc := 28) (v := 1) dX10_goOutOrBack_28 (by decide) ?_
    refine j_iastore (pc := 29) dX10_goOutOrBack_29 (fun z4 => ?_)
    exact j_return (pc := 30) dX10_goOutOrBack_30 rfl
  refine j_aload_n (pc := 5) 0 dX10_goOutOrBack_5 rfl rfl ?_
  refine j_getR (pc := 6) ok_X10 (by decide) rfl w_468 dX10_goOutOrBack_6 (fun a5 => ?_)
  refine j_iload_n (pc := 9) 2 dX10_goOutOrBack_9 rfl rfl ?_
  refine j_iconst (pc := 10) (v := 0) dX10_goOutOrBack_10 (by decide) ?_
  refine j_iastore (pc := 11) dX10_goOutOrBack_11 (fun z6 => ?_)
  refine j_goto (pc := 12) 30 dX10_goOutOrBack_12 (by decide) ?_
  exact j_return (pc := 30) dX10_goOutOrBack_30 rfl
theorem dX10_layPath_0 : decode cX10_layPath 0 = .ok (.iload_n 1, 1) := by decide +kernel
theorem dX10_layPath_1 : decode cX10_layPath 1 = .ok (.istore_n 2, 1) := by decide +kernel
theorem dX10_layPath_2 : decode cX10_layPath 2 = .ok (.iconst 0, 1) := by decide +kernel
theorem dX10_layPath_3 : decode cX10_layPath 3 = .ok (.istore_n 3, 1) := by decide +kernel
theorem dX10_layPath_4 : decode cX10_layPath 4 = .ok (.iload_n 3, 1) := by decide +kernel
theorem dX10_layPath_5 : decode cX10_layPath 5 = .ok (.sipush 288, 3) := by decide +kernel
theorem dX10_layPath_8 : decode cX10_layPath 8 = .ok (.if_icmp .ge 81, 3) := by decide +kernel
theorem dX10_layPath_11 : decode cX10_layPath 11 = .ok (.aload_n 0, 1) := by decide +kernel
theorem dX10_layPath_12 : decode cX10_layPath 12 = .ok (.getfield 34, 3) := by decide +kernel
theorem dX10_layPath_15 : decode cX10_layPath 15 = .ok (.iload_n 2, 1) := by decide +kernel
theorem dX10_layPath_16 : decode cX10_layPath 16 = .ok (.iaload, 1) := by decide +kernel
theorem dX10_layPath_17 : decode cX10_layPath 17 = .ok (.istore 4, 2) := by decide +kernel
theorem dX10_layPath_19 : decode cX10_layPath 19 = .ok (.iload 4, 2) := by decide +kernel
theorem dX10_layPath_21 : decode cX10_layPath 21 = .ok (.ifCond .ge 4, 3) := by decide +kernel
theorem dX10_layPath_24 : decode cX10_layPath 24 = .ok (.return_, 1) := by decide +kernel
theorem dX10_layPath_25 : decode cX10_layPath 25 = .ok (.iload 4, 2) := by decide +kernel
theorem dX10_layPath_27 : decode cX10_layPath 27 = .ok (.sipush 144, 3) := by decide +kernel
theorem dX10_layPath_30 : decode cX10_layPath 30 = .ok (.if_icmp .ge 24, 3) := by decide +kernel
theorem dX10_layPath_33 : decode cX10_layPath 33 = .ok (.iload_n 2, 1) := by decide +kernel
theorem dX10_layPath_34 : decode cX10_layPath 34 = .ok (.sipush 144, 3) := by decide +kernel
theorem dX10_layPath_37 : decode cX10_layPath 37 = .ok (.if_icmp .lt 17, 3) := by decide +kernel
theorem dX10_layPath_40 : decode cX10_layPath 40 = .ok (.aload_n 0, 1) := by decide +kernel
theorem dX10_layPath_41 : decode cX10_layPath 41 = .ok (.iload 4, 2) := by decide +kernel
theorem dX10_layPath_43 : decode cX10_layPath 43 = .ok (.iload_n 2, 1) := by decide +kernel
theorem dX10_layPath_44 : decode cX10_layPath 44 = .ok (.sipush 144, 3) := by decide +kernel
theorem dX10_layPath_47 : decode cX10_layPath 47 = .ok (.isub, 1) := by decide +kernel
theorem dX10_layPath_48 : decode cX10_layPath 48 = .ok (.invokevirtual 93, 3) := by decide +kernel
theorem dX10_layPath_51 : decode cX10_layPath 51 = .ok (.goto 29, 3) := by decide +kernel
theorem dX10_layPath_54 : decode cX10_layPath 54 = .ok (.iload 4, 2) := by decide +kernel
theorem dX10_layPath_56 : decode cX10_layPath 56 = .ok (.sipush 144, 3) := by decide +kernel
theorem dX10_layPath_59 : decode cX10_layPath 59 = .ok (.if_icmp .lt 21, 3) := by decide +kernel
theorem dX10_layPath_62 : decode cX10_layPath 62 = .ok (.iload_n 2, 1) := by decide +kernel
theorem dX10_layPath_63 : decode cX10_layPath 63 = .ok (.sipush 144, 3) := by decide +kernel
theorem dX10_layPath_66 : decode cX10_layPath 66 = .ok (.if_icmp .ge 14, 3) := by decide +kernel
theorem dX10_layPath_69 : decode cX10_layPath 69 = .ok (.aload_n 0, 1) := by decide +kernel
theorem dX10_layPath_70 : decode cX10_layPath 70 = .ok (.iload 4, 2) := by decide +kernel
theorem dX10_layPath_72 : decode cX10_layPath 72 = .ok (.sipush 144, 3) := by decide +kernel
theorem dX10_layPath_75 : decode cX10_layPath 75 = .ok (.isub, 1) := by decide +kernel
theorem dX10_layPath_76 : decode cX10_layPath 76 = .ok (.iload_n 2, 1) := by decide +kernel
theorem dX10_layPath_77 : decode cX10_layPath 77 = .ok (.invokevirtual 96, 3) := by decide +kernel
theorem dX10_layPath_80 : decode cX10_layPath 80 = .ok (.iload 4, 2) := by decide +kernel
theorem dX10_layPath_82 : decode cX10_layPath 82 = .ok (.istore_n 2, 1) := by decide +kernel
theorem dX10_layPath_83 : decode cX10_layPath 83 = .ok (.iinc 3 1, 3) := by decide +kernel
theorem dX10_layPath_86 : decode cX10_layPath 86 = .ok (.goto (-82), 3) := by decide +kernel
theorem dX10_layPath_89 : decode cX10_layPath 89 = .ok (.return_, 1) := by decide +kernel
theorem cw_X10_layPath_96 : CwV mi_X10_layPath mi_X10_goOutOrBack yX10_goOutOrBack RX10 96 2 := ⟨⟨w_965, w_967, w_33, w_105, w_968⟩, ⟨by decide, by decide⟩, by decide +kernel, by decide, by decide⟩
theorem cw_X10_layPath_93 : CwV mi_X10_layPath mi_X10_goBackOrThrough yX10_goBackOrThrough RX10 93 2 := ⟨⟨w_958, w_960, w_32, w_105, w_961⟩, ⟨by decide, by decide⟩, by decide +kernel, by decide, by decide⟩
theorem j_X10_layPath_B80 {l : Launch} {Γ : Am} {k4 : Nat → Int32 → Int32 → Hp → Option (Unit × Hp)} (hL4 : ∀ (r0 : Nat) (v2 : Int32) (v3 : Int32) (z : Hp), J l Γ mi_X10_layPath cvV 0 0 4 [(0, .ref (mB Γ + r0)), (2, .int v2), (3, .int v3)] [] z (k4 r0 v2 v3 z)) : ∀ (r0 : Nat) (v3 : Int32) (v4 : Int32) (z : Hp), J l Γ mi_X10_layPath cvV 0 0 80 [(0, .ref (mB Γ + r0)), (3, .int v3), (4, .int v4)] [] z (m_X10_layPath_B80 k4 r0 v3 v4 z) := by
  intro r0 v3 v4 z
  unfold m_X10_layPath_B80
  refine j_iload (pc := 80) 2 dX10_layPath_80 rfl ?_
  refine j_istore_n (pc := 82) (lv2 := [(2, .int v4), (0, .ref (mB Γ + r0)), (3, .int v3), (4, .int v4)]) dX10_layPath_82 rfl (by decide) rfl ?_
  refine j_iinc (pc := 83) (n0 := 2) (v0 := v3 + 1) (lv2 := [(3, .int (v3 + 1)), (2, .int v4), (0, .ref (mB Γ + r0)), (4, .int v4)]) dX10_layPath_83 rfl rfl (by decide) rfl ?_
  refine j_goto (pc := 86) 4 dX10_layPath_86 (by decide) ?_
  exact J.sub [2, 1, 0] rfl (hL4 r0 v4 (v3 + 1) z)
theorem j_X10_layPath_B54 {l : Launch} {Γ : Am} {k4 : Nat → Int32 → Int32 → Hp → Option (Unit × Hp)} (hL4 : ∀ (r0 : Nat) (v2 : Int32) (v3 : Int32) (z : Hp), J l Γ mi_X10_layPath cvV 0 0 4 [(0, .ref (mB Γ + r0)), (2, .int v2), (3, .int v3)] [] z (k4 r0 v2 v3 z)) : ∀ (r0 : Nat) (v2 : Int32) (v3 : Int32) (v4 : Int32) (z : Hp), J l Γ mi_X10_layPath cvV 0 0 54 [(0, .ref (mB Γ + r0)), (2, .int v2), (3, .int v3), (4, .int v4)] [] z (m_X10_layPath_B54 k4 r0 v2 v3 v4 z) := by
  intro r0 v2 v3 v4 z
  unfold m_X10_layPath_B54
  refine j_iload (pc := 54) 3 dX10_layPath_54 rfl ?_
  refine j_sipush (pc := 56) (v := 144) dX10_layPath_56 (by decide) ?_
  refine j_icmp_lt (pc := 59) 80 dX10_layPath_59 (by decide) ?_ ?_
  · exact J.sub [0, 2, 3] rfl ((j_X10_layPath_B80 hL4) r0 v3 v4 z)
  refine j_iload_n (pc := 62) 1 dX10_layPath_62 rfl rfl ?_
  refine j_sipush (pc := 63) (v := 144) dX10_layPath_63 (by decide) ?_
  refine j_icmp_ge (pc := 66) 80 dX10_layPath_66 (by decide) ?_ ?_
  · exact J.sub [0, 2, 3] rfl ((j_X10_layPath_B80 hL4) r0 v3 v4 z)
  refine j_aload_n (pc := 69) 0 dX10_layPath_69 rfl rfl ?_
  refine j_iload (pc := 70) 3 dX10_layPath_70 rfl ?_
  refine j_sipush (pc := 72) (v := 144) dX10_layPath_72 (by decide) ?_
  refine j_isub (pc := 75) dX10_layPath_75 ?_
  refine j_iload_n (pc := 76) 1 dX10_layPath_76 rfl rfl ?_
  refine j_isC (fun h2 => ?_)
  refine j_callV_V (pc := 77) (as := [.int (v4 - 144), .int v2]) (mc2 := 0) (ms2 := 0) (ct_X10_goOutOrBack _ _ _ _) h2 rfl cw_X10_layPath_96 dX10_layPath_77 (Nat.le_of_ble_eq_true rfl) rfl (by decide) (by decide) (fun _ z1 => ?_)
  exact J.sub [0, 2, 3] rfl ((j_X10_layPath_B80 hL4) r0 v3 v4 z1)
theorem j_X10_layPath_L4 {l : Launch} {Γ : Am}   : ∀ (f : Nat), ∀ (r0 : Nat) (v2 : Int32) (v3 : Int32) (z : Hp), J l Γ mi_X10_layPath cvV 0 0 4 [(0, .ref (mB Γ + r0)), (2, .int v2), (3, .int v3)] [] z (m_X10_layPath_L4  f r0 v2 v3 z) := by
  intro f
  induction f with
  | zero => intro r0 v2 v3 z; exact J.none
  | succ f hL4 =>
    intro r0 v2 v3 z
    rw [m_X10_layPath_L4]
    refine j_iload_n (pc := 4) 2 dX10_layPath_4 rfl rfl ?_
    refine j_sipush (pc := 5) (v := 288) dX10_layPath_5 (by decide) ?_
    refine j_icmp_ge (pc := 8) 89 dX10_layPath_8 (by decide) ?_ ?_
    · exact j_return (pc := 89) dX10_layPath_89 rfl
    refine j_aload_n (pc := 11) 0 dX10_layPath_11 rfl rfl ?_
    refine j_getR (pc := 12) ok_X10 (by decide) rfl w_467 dX10_layPath_12 (fun a3 => ?_)
    refine j_iload_n (pc := 15) 1 dX10_layPath_15 rfl rfl ?_
    refine j_iaload (pc := 16) dX10_layPath_16 (fun x4 => ?_)
    refine j_istore (pc := 17) (lv2 := [(4, .int x4), (0, .ref (mB Γ + r0)), (2, .int v2), (3, .int v3)]) dX10_layPath_17 (by decide) rfl ?_
    refine j_iload (pc := 19) 0 dX10_layPath_19 rfl ?_
    refine j_if_ge (pc := 21) 25 dX10_layPath_21 (by decide) ?_ ?_
    · refine j_iload (pc := 25) 0 dX10_layPath_25 rfl ?_
      refine j_sipush (pc := 27) (v := 144) dX10_layPath_27 (by decide) ?_
      refine j_icmp_ge (pc := 30) 54 dX10_layPath_30 (by decide) ?_ ?_
      · exact J.sub [1, 2, 3, 0] rfl ((j_X10_layPath_B54 hL4) r0 v2 v3 x4 z)
      refine j_iload_n (pc := 33) 2 dX10_layPath_33 rfl rfl ?_
      refine j_sipush (pc := 34) (v := 144) dX10_layPath_34 (by decide) ?_
      refine j_icmp_lt (pc := 37) 54 dX10_layPath_37 (by decide) ?_ ?_
      · exact J.sub [1, 2, 3, 0] rfl ((j_X10_layPath_B54 hL4) r0 v2 v3 x4 z)
      refine j_aload_n (pc := 40) 1 dX10_layPath_40 rfl rfl ?_
      refine j_iload (pc := 41) 0 dX10_layPath_41 rfl ?_
      refine j_iload_n (pc := 43) 2 dX10_layPath_43 rfl rfl ?_
      refine j_sipush (pc := 44) (v := 144) dX10_layPath_44 (by decide) ?_
      refine j_isub (pc := 47) dX10_layPath_47 ?_
      refine j_isC (fun h6 => ?_)
      refine j_callV_V (pc := 48) (as := [.int x4, .int (v2 - 144)]) (mc2 := 0) (ms2 := 0) (ct_X10_goBackOrThrough _ _ _ _) h6 rfl cw_X10_layPath_93 dX10_layPath_48 (Nat.le_of_ble_eq_true rfl) rfl (by decide) (by decide) (fun _ z5 => ?_)
      refine j_goto (pc := 51) 80 dX10_layPath_51 (by decide) ?_
      exact J.sub [1, 3, 0] rfl ((j_X10_layPath_B80 hL4) r0 v3 x4 z5)
    exact j_return (pc := 24) dX10_layPath_24 rfl
theorem ct_X10_layPath {l : Launch} {Γ : Am} (r0 : Nat) (v1 : Int32) (z : Hp) : Ct l Γ yX10_layPath mi_X10_layPath cvV [.ref (mB Γ + r0), .int v1] z (m_X10_layPath r0 v1 z) := by
  refine Ct.ofJ (by decide) ⟨rfl, rfl⟩ (Nat.le_of_ble_eq_true rfl) ?_
  unfold m_X10_layPath
  show J l Γ mi_X10_layPath cvV 0 0 0 [(0, .ref (mB Γ + r0)), (1, .int v1)] [] z _
  refine j_iload_n (pc := 0) 1 dX10_layPath_0 rfl rfl ?_
  refine j_istore_n (pc := 1) (lv2 := [(2, .int v1), (0, .ref (mB Γ + r0)), (1, .int v1)]) dX10_layPath_1 rfl (by decide) rfl ?_
  refine j_iconst (pc := 2) (v := 0) dX10_layPath_2 (by decide) ?_
  refine j_istore_n (pc := 3) (lv2 := [(3, .int 0), (2, .int v1), (0, .ref (mB Γ + r0)), (1, .int v1)]) dX10_layPath_3 rfl (by decide) rfl ?_
  exact J.sub [2, 1, 0] rfl ((j_X10_layPath_L4 FU) r0 v1 0 z)
theorem dX10_fewestGaps_0 : decode cX10_fewestGaps 0 = .ok (.aload_n 0, 1) := by decide +kernel
theorem dX10_fewestGaps_1 : decode cX10_fewestGaps 1 = .ok (.aload_n 1, 1) := by decide +kernel
theorem dX10_fewestGaps_2 : decode cX10_fewestGaps 2 = .ok (.invokevirtual 47, 3) := by decide +kernel
theorem dX10_fewestGaps_5 : decode cX10_fewestGaps 5 = .ok (.aload_n 0, 1) := by decide +kernel
theorem dX10_fewestGaps_6 : decode cX10_fewestGaps 6 = .ok (.getfield 37, 3) := by decide +kernel
theorem dX10_fewestGaps_9 : decode cX10_fewestGaps 9 = .ok (.iconst 0, 1) := by decide +kernel
theorem dX10_fewestGaps_10 : decode cX10_fewestGaps 10 = .ok (.invokestatic 51, 3) := by decide +kernel
theorem dX10_fewestGaps_13 : decode cX10_fewestGaps 13 = .ok (.aload_n 0, 1) := by decide +kernel
theorem dX10_fewestGaps_14 : decode cX10_fewestGaps 14 = .ok (.getfield 40, 3) := by decide +kernel
theorem dX10_fewestGaps_17 : decode cX10_fewestGaps 17 = .ok (.iconst 0, 1) := by decide +kernel
theorem dX10_fewestGaps_18 : decode cX10_fewestGaps 18 = .ok (.invokestatic 51, 3) := by decide +kernel
theorem dX10_fewestGaps_21 : decode cX10_fewestGaps 21 = .ok (.iconst 0, 1) := by decide +kernel
theorem dX10_fewestGaps_22 : decode cX10_fewestGaps 22 = .ok (.istore_n 2, 1) := by decide +kernel
theorem dX10_fewestGaps_23 : decode cX10_fewestGaps 23 = .ok (.iconst 0, 1) := by decide +kernel
theorem dX10_fewestGaps_24 : decode cX10_fewestGaps 24 = .ok (.istore_n 3, 1) := by decide +kernel
theorem dX10_fewestGaps_25 : decode cX10_fewestGaps 25 = .ok (.iload_n 3, 1) := by decide +kernel
theorem dX10_fewestGaps_26 : decode cX10_fewestGaps 26 = .ok (.sipush 144, 3) := by decide +kernel
theorem dX10_fewestGaps_29 : decode cX10_fewestGaps 29 = .ok (.if_icmp .ge 33, 3) := by decide +kernel
theorem dX10_fewestGaps_32 : decode cX10_fewestGaps 32 = .ok (.aload_n 0, 1) := by decide +kernel
theorem dX10_fewestGaps_33 : decode cX10_fewestGaps 33 = .ok (.invokevirtual 77, 3) := by decide +kernel
theorem dX10_fewestGaps_36 : decode cX10_fewestGaps 36 = .ok (.istore 4, 2) := by decide +kernel
theorem dX10_fewestGaps_38 : decode cX10_fewestGaps 38 = .ok (.iload 4, 2) := by decide +kernel
theorem dX10_fewestGaps_40 : decode cX10_fewestGaps 40 = .ok (.iconst (-1), 1) := by decide +kernel
theorem dX10_fewestGaps_41 : decode cX10_fewestGaps 41 = .ok (.if_icmp .ne 6, 3) := by decide +kernel
theorem dX10_fewestGaps_44 : decode cX10_fewestGaps 44 = .ok (.goto 18, 3) := by decide +kernel
theorem dX10_fewestGaps_47 : decode cX10_fewestGaps 47 = .ok (.aload_n 0, 1) := by decide +kernel
theorem dX10_fewestGaps_48 : decode cX10_fewestGaps 48 = .ok (.iload 4, 2) := by decide +kernel
theorem dX10_fewestGaps_50 : decode cX10_fewestGaps 50 = .ok (.invokevirtual 81, 3) := by decide +kernel
theorem dX10_fewestGaps_53 : decode cX10_fewestGaps 53 = .ok (.iinc 2 1, 3) := by decide +kernel
theorem dX10_fewestGaps_56 : decode cX10_fewestGaps 56 = .ok (.iinc 3 1, 3) := by decide +kernel
theorem dX10_fewestGaps_59 : decode cX10_fewestGaps 59 = .ok (.goto (-34), 3) := by decide +kernel
theorem dX10_fewestGaps_62 : decode cX10_fewestGaps 62 = .ok (.iload_n 2, 1) := by decide +kernel
theorem dX10_fewestGaps_63 : decode cX10_fewestGaps 63 = .ok (.ireturn, 1) := by decide +kernel
theorem cw_X10_fewestGaps_77 : CwV mi_X10_fewestGaps mi_X10_searchPath yX10_searchPath RX10 77 0 := ⟨⟨w_938, w_940, w_27, w_105, w_941⟩, ⟨by decide, by decide⟩, by decide +kernel, by decide, by decide⟩
theorem cw_X10_fewestGaps_81 : CwV mi_X10_fewestGaps mi_X10_layPath yX10_layPath RX10 81 1 := ⟨⟨w_954, w_956, w_31, w_105, w_957⟩, ⟨by decide, by decide⟩, by decide +kernel, by decide, by decide⟩
theorem cw_X10_fewestGaps_47 : CwV mi_X10_fewestGaps mi_X10_look yX10_look RX10 47 1 := ⟨⟨w_854, w_856, w_25, w_105, w_857⟩, ⟨by decide, by decide⟩, by decide +kernel, by decide, by decide⟩
theorem cw_X10_fewestGaps_51 : CwS mi_X10_fewestGaps mi_J7_fill_53178 yJ7_fill_53178 51 2 := ⟨⟨w_862, w_500, w_107, w_501⟩, ⟨by decide, by decide⟩, by decide +kernel, by decide, by decide⟩
theorem j_X10_fewestGaps_B44 {l : Launch} {Γ : Am}   : ∀ (v2 : Int32) (z : Hp), J l Γ mi_X10_fewestGaps cvI 0 0 44 [(2, .int v2)] [] z (m_X10_fewestGaps_B44  v2 z) := by
  intro v2 z
  unfold m_X10_fewestGaps_B44
  refine j_goto (pc := 44) 62 dX10_fewestGaps_44 (by decide) ?_
  refine j_iload_n (pc := 62) 0 dX10_fewestGaps_62 rfl rfl ?_
  exact j_ireturn (pc := 63) dX10_fewestGaps_63 rfl rfl
theorem j_X10_fewestGaps_L25 {l : Launch} {Γ : Am} {k44 : Int32 → Hp → Option (Int32 × Hp)} (hL44 : ∀ (v2 : Int32) (z : Hp), J l Γ mi_X10_fewestGaps cvI 0 0 44 [(2, .int v2)] [] z (k44 v2 z)) : ∀ (f : Nat), ∀ (r0 : Nat) (v2 : Int32) (v3 : Int32) (z : Hp), J l Γ mi_X10_fewestGaps cvI 0 0 25 [(0, .ref (mB Γ + r0)), (2, .int v2), (3, .int v3)] [] z (m_X10_fewestGaps_L25 k44 f r0 v2 v3 z) := by
  intro f
  induction f with
  | zero => intro r0 v2 v3 z; exact J.none
  | succ f hL25 =>
    intro r0 v2 v3 z
    rw [m_X10_fewestGaps_L25]
    refine j_iload_n (pc := 25) 2 dX10_fewestGaps_25 rfl rfl ?_
    refine j_sipush (pc := 26) (v := 144) dX10_fewestGaps_26 (by decide) ?_
    refine j_icmp_ge (pc := 29) 62 dX10_fewestGaps_29 (by decide) ?_ ?_
    · refine j_iload_n (pc := 62) 1 dX10_fewestGaps_62 rfl rfl ?_
      exact j_ireturn (pc := 63) dX10_fewestGaps_63 rfl rfl
    refine j_aload_n (pc := 32) 0 dX10_fewestGaps_32 rfl rfl ?_
    refine j_isC (fun h3 => ?_)
    refine j_callV_I (pc := 33) (as := []) (mc2 := 0) (ms2 := 0) (ct_X10_searchPath _ _) h3 rfl cw_X10_fewestGaps_77 dX10_fewestGaps_33 (Nat.le_of_ble_eq_true rfl) rfl (by decide) (by decide) (fun x2 z1 => ?_)
    refine j_istore (pc := 36) (lv2 := [(4, .int x2), (0, .ref (mB Γ + r0)), (2, .int v2), (3, .int v3)]) dX10_fewestGaps_36 (by decide) rfl ?_
    refine j_iload (pc := 38) 0 dX10_fewestGaps_38 rfl ?_
    refine j_iconst (pc := 40) (v := (-1)) dX10_fewestGaps_40 (by decide) ?_
    refine j_icmp_ne (pc := 41) 47 dX10_fewestGaps_41 (by decide) ?_ ?_
    · refine j_aload_n (pc := 47) 1 dX10_fewestGaps_47 rfl rfl ?_
      refine j_iload (pc := 48) 0 dX10_fewestGaps_48 rfl ?_
      refine j_isC (fun h5 => ?_)
      refine j_callV_V (pc := 50) (as := [.int x2]) (mc2 := 0) (ms2 := 0) (ct_X10_layPath _ _ _) h5 rfl cw_X10_fewestGaps_81 dX10_fewestGaps_50 (Nat.le_of_ble_eq_true rfl) rfl (by decide) (by decide) (fun _ z4 => ?_)
      refine j_iinc (pc := 53) (n0 := 2) (v0 := v2 + 1) (lv2 := [(2, .int (v2 + 1)), (4, .int x2), (0, .ref (mB Γ + r0)), (3, .int v3)]) dX10_fewestGaps_53 rfl rfl (by decide) rfl ?_
      refine j_iinc (pc := 56) (n0 := 3) (v0 := v3 + 1) (lv2 := [(3, .int (v3 + 1)), (2, .int (v2 + 1)), (4, .int x2), (0, .ref (mB Γ + r0))]) dX10_fewestGaps_56 rfl rfl (by decide) rfl ?_
      refine j_goto (pc := 59) 25 dX10_fewestGaps_59 (by decide) ?_
      exact J.sub [3, 1, 0] rfl (hL25 r0 (v2 + 1) (v3 + 1) z4)
    exact J.sub [2] rfl (hL44 v2 z1)
theorem ct_X10_fewestGaps {l : Launch} {Γ : Am} (r0 : Nat) (r1 : Nat) (z : Hp) : Ct l Γ yX10_fewestGaps mi_X10_fewestGaps cvI [.ref (mB Γ + r0), .ref (mB Γ + r1)] z (m_X10_fewestGaps r0 r1 z) := by
  refine Ct.ofJ (by decide) ⟨rfl, rfl⟩ (Nat.le_of_ble_eq_true rfl) ?_
  unfold m_X10_fewestGaps
  show J l Γ mi_X10_fewestGaps cvI 0 0 0 [(0, .ref (mB Γ + r0)), (1, .ref (mB Γ + r1))] [] z _
  refine j_aload_n (pc := 0) 0 dX10_fewestGaps_0 rfl rfl ?_
  refine j_aload_n (pc := 1) 1 dX10_fewestGaps_1 rfl rfl ?_
  refine j_isC (fun h7 => ?_)
  refine j_callV_V (pc := 2) (as := [.ref (mB Γ + r1)]) (mc2 := 0) (ms2 := 0) (ct_X10_look _ _ _) h7 rfl cw_X10_fewestGaps_47 dX10_fewestGaps_2 (Nat.le_of_ble_eq_true rfl) rfl (by decide) (by decide) (fun _ z6 => ?_)
  refine j_aload_n (pc := 5) 0 dX10_fewestGaps_5 rfl rfl ?_
  refine j_getR (pc := 6) ok_X10 (by decide) rfl w_468 dX10_fewestGaps_6 (fun a8 => ?_)
  refine j_iconst (pc := 9) (v := 0) dX10_fewestGaps_9 (by decide) ?_
  refine j_callS_V (pc := 10) (as := [.ref (mB Γ + a8), .int 0]) (mc2 := 0) (ms2 := 0) (ct_J7_fill_53178 _ _ _) cw_X10_fewestGaps_51 dX10_fewestGaps_10 (Nat.le_of_ble_eq_true rfl) rfl (by decide) (by decide) (fun _ z9 => ?_)
  refine j_aload_n (pc := 13) 0 dX10_fewestGaps_13 rfl rfl ?_
  refine j_getR (pc := 14) ok_X10 (by decide) rfl w_469 dX10_fewestGaps_14 (fun a10 => ?_)
  refine j_iconst (pc := 17) (v := 0) dX10_fewestGaps_17 (by decide) ?_
  refine j_callS_V (pc := 18) (as := [.ref (mB Γ + a10), .int 0]) (mc2 := 0) (ms2 := 0) (ct_J7_fill_53178 _ _ _) cw_X10_fewestGaps_51 dX10_fewestGaps_18 (Nat.le_of_ble_eq_true rfl) rfl (by decide) (by decide) (fun _ z11 => ?_)
  refine j_iconst (pc := 21) (v := 0) dX10_fewestGaps_21 (by decide) ?_
  refine j_istore_n (pc := 22) (lv2 := [(2, .int 0), (0, .ref (mB Γ + r0)), (1, .ref (mB Γ + r1))]) dX10_fewestGaps_22 rfl (by decide) rfl ?_
  refine j_iconst (pc := 23) (v := 0) dX10_fewestGaps_23 (by decide) ?_
  refine j_istore_n (pc := 24) (lv2 := [(3, .int 0), (2, .int 0), (0, .ref (mB Γ + r0)), (1, .ref (mB Γ + r1))]) dX10_fewestGaps_24 rfl (by decide) rfl ?_
  exact J.sub [2, 1, 0] rfl ((j_X10_fewestGaps_L25 j_X10_fewestGaps_B44 FU) r0 0 0 z11)
theorem dX10_listGaps_0 : decode cX10_listGaps 0 = .ok (.iconst 0, 1) := by decide +kernel
theorem dX10_listGaps_1 : decode cX10_listGaps 1 = .ok (.istore_n 2, 1) := by decide +kernel
theorem dX10_listGaps_2 : decode cX10_listGaps 2 = .ok (.iconst 0, 1) := by decide +kernel
theorem dX10_listGaps_3 : decode cX10_listGaps 3 = .ok (.istore_n 3, 1) := by decide +kernel
theorem dX10_listGaps_4 : decode cX10_listGaps 4 = .ok (.iload_n 3, 1) := by decide +kernel
theorem dX10_listGaps_5 : decode cX10_listGaps 5 = .ok (.sipush 144, 3) := by decide +kernel
theorem dX10_listGaps_8 : decode cX10_listGaps 8 = .ok (.if_icmp .ge 46, 3) := by decide +kernel
theorem dX10_listGaps_11 : decode cX10_listGaps 11 = .ok (.aload_n 0, 1) := by decide +kernel
theorem dX10_listGaps_12 : decode cX10_listGaps 12 = .ok (.getfield 34, 3) := by decide +kernel
theorem dX10_listGaps_15 : decode cX10_listGaps 15 = .ok (.iload_n 3, 1) := by decide +kernel
theorem dX10_listGaps_16 : decode cX10_listGaps 16 = .ok (.iaload, 1) := by decide +kernel
theorem dX10_listGaps_17 : decode cX10_listGaps 17 = .ok (.iconst (-1), 1) := by decide +kernel
theorem dX10_listGaps_18 : decode cX10_listGaps 18 = .ok (.if_icmp .eq 30, 3) := by decide +kernel
theorem dX10_listGaps_21 : decode cX10_listGaps 21 = .ok (.aload_n 0, 1) := by decide +kernel
theorem dX10_listGaps_22 : decode cX10_listGaps 22 = .ok (.getfield 34, 3) := by decide +kernel
theorem dX10_listGaps_25 : decode cX10_listGaps 25 = .ok (.sipush 144, 3) := by decide +kernel
theorem dX10_listGaps_28 : decode cX10_listGaps 28 = .ok (.iload_n 3, 1) := by decide +kernel
theorem dX10_listGaps_29 : decode cX10_listGaps 29 = .ok (.iadd, 1) := by decide +kernel
theorem dX10_listGaps_30 : decode cX10_listGaps 30 = .ok (.iaload, 1) := by decide +kernel
theorem dX10_listGaps_31 : decode cX10_listGaps 31 = .ok (.iconst (-1), 1) := by decide +kernel
theorem dX10_listGaps_32 : decode cX10_listGaps 32 = .ok (.if_icmp .ne 16, 3) := by decide +kernel
theorem dX10_listGaps_35 : decode cX10_listGaps 35 = .ok (.iload_n 2, 1) := by decide +kernel
theorem dX10_listGaps_36 : decode cX10_listGaps 36 = .ok (.aload_n 1, 1) := by decide +kernel
theorem dX10_listGaps_37 : decode cX10_listGaps 37 = .ok (.arraylength, 1) := by decide +kernel
theorem dX10_listGaps_38 : decode cX10_listGaps 38 = .ok (.if_icmp .ge 10, 3) := by decide +kernel
theorem dX10_listGaps_41 : decode cX10_listGaps 41 = .ok (.aload_n 1, 1) := by decide +kernel
theorem dX10_listGaps_42 : decode cX10_listGaps 42 = .ok (.iload_n 2, 1) := by decide +kernel
theorem dX10_listGaps_43 : decode cX10_listGaps 43 = .ok (.iload_n 3, 1) := by decide +kernel
theorem dX10_listGaps_44 : decode cX10_listGaps 44 = .ok (.iastore, 1) := by decide +kernel
theorem dX10_listGaps_45 : decode cX10_listGaps 45 = .ok (.iinc 2 1, 3) := by decide +kernel
theorem dX10_listGaps_48 : decode cX10_listGaps 48 = .ok (.iinc 3 1, 3) := by decide +kernel
theorem dX10_listGaps_51 : decode cX10_listGaps 51 = .ok (.goto (-47), 3) := by decide +kernel
theorem dX10_listGaps_54 : decode cX10_listGaps 54 = .ok (.return_, 1) := by decide +kernel
theorem j_X10_listGaps_B48 {l : Launch} {Γ : Am} {k4 : Nat → Nat → Int32 → Int32 → Hp → Option (Unit × Hp)} (hL4 : ∀ (r0 : Nat) (r1 : Nat) (v2 : Int32) (v3 : Int32) (z : Hp), J l Γ mi_X10_listGaps cvV 0 0 4 [(0, .ref (mB Γ + r0)), (1, .ref (mB Γ + r1)), (2, .int v2), (3, .int v3)] [] z (k4 r0 r1 v2 v3 z)) : ∀ (r0 : Nat) (r1 : Nat) (v2 : Int32) (v3 : Int32) (z : Hp), J l Γ mi_X10_listGaps cvV 0 0 48 [(0, .ref (mB Γ + r0)), (1, .ref (mB Γ + r1)), (2, .int v2), (3, .int v3)] [] z (m_X10_listGaps_B48 k4 r0 r1 v2 v3 z) := by
  intro r0 r1 v2 v3 z
  unfold m_X10_listGaps_B48
  refine j_iinc (pc := 48) (n0 := 3) (v0 := v3 + 1) (lv2 := [(3, .int (v3 + 1)), (0, .ref (mB Γ + r0)), (1, .ref (mB Γ + r1)), (2, .int v2)]) dX10_listGaps_48 rfl rfl (by decide) rfl ?_
  refine j_goto (pc := 51) 4 dX10_listGaps_51 (by decide) ?_
  exact J.sub [1, 2, 3, 0] rfl (hL4 r0 r1 v2 (v3 + 1) z)
theorem j_X10_listGaps_L4 {l : Launch} {Γ : Am}   : ∀ (f : Nat), ∀ (r0 : Nat) (r1 : Nat) (v2 : Int32) (v3 : Int32) (z : Hp), J l Γ mi_X10_listGaps cvV 0 0 4 [(0, .ref (mB Γ + r0)), (1, .ref (mB Γ + r1)), (2, .int v2), (3, .int v3)] [] z (m_X10_listGaps_L4  f r0 r1 v2 v3 z) := by
  intro f
  induction f with
  | zero => intro r0 r1 v2 v3 z; exact J.none
  | succ f hL4 =>
    intro r0 r1 v2 v3 z
    rw [m_X10_listGaps_L4]
    refine j_iload_n (pc := 4) 3 dX10_listGaps_4 rfl rfl ?_
    refine j_sipush (pc := 5) (v := 144) dX10_listGaps_5 (by decide) ?_
    refine j_icmp_ge (pc := 8) 54 dX10_listGaps_8 (by decide) ?_ ?_
    · exact j_return (pc := 54) dX10_listGaps_54 rfl
    refine j_aload_n (pc := 11) 0 dX10_listGaps_11 rfl rfl ?_
    refine j_getR (pc := 12) ok_X10 (by decide) rfl w_467 dX10_listGaps_12 (fun a1 => ?_)
    refine j_iload_n (pc := 15) 3 dX10_listGaps_15 rfl rfl ?_
    refine j_iaload (pc := 16) dX10_listGaps_16 (fun x2 => ?_)
    refine j_iconst (pc := 17) (v := (-1)) dX10_listGaps_17 (by decide) ?_
    refine j_icmp_eq (pc := 18) 48 dX10_listGaps_18 (by decide) ?_ ?_
    · exact J.sub [0, 1, 2, 3] rfl ((j_X10_listGaps_B48 hL4) r0 r1 v2 v3 z)
    refine j_aload_n (pc := 21) 0 dX10_listGaps_21 rfl rfl ?_
    refine j_getR (pc := 22) ok_X10 (by decide) rfl w_467 dX10_listGaps_22 (fun a3 => ?_)
    refine j_sipush (pc := 25) (v := 144) dX10_listGaps_25 (by decide) ?_
    refine j_iload_n (pc := 28) 3 dX10_listGaps_28 rfl rfl ?_
    refine j_iadd (pc := 29) dX10_listGaps_29 ?_
    refine j_iaload (pc := 30) dX10_listGaps_30 (fun x4 => ?_)
    refine j_iconst (pc := 31) (v := (-1)) dX10_listGaps_31 (by decide) ?_
    refine j_icmp_ne (pc := 32) 48 dX10_listGaps_32 (by decide) ?_ ?_
    · exact J.sub [0, 1, 2, 3] rfl ((j_X10_listGaps_B48 hL4) r0 r1 v2 v3 z)
    refine j_iload_n (pc := 35) 2 dX10_listGaps_35 rfl rfl ?_
    refine j_aload_n (pc := 36) 1 dX10_listGaps_36 rfl rfl ?_
    refine j_alen1 (pc := 37) dX10_listGaps_37 (fun x5 => ?_)
    refine j_icmp_ge (pc := 38) 48 dX10_listGaps_38 (by decide) ?_ ?_
    · exact J.sub [0, 1, 2, 3] rfl ((j_X10_listGaps_B48 hL4) r0 r1 v2 v3 z)
    refine j_aload_n (pc := 41) 1 dX10_listGaps_41 rfl rfl ?_
    refine j_iload_n (pc := 42) 2 dX10_listGaps_42 rfl rfl ?_
    refine j_iload_n (pc := 43) 3 dX10_listGaps_43 rfl rfl ?_
    refine j_iastore (pc := 44) dX10_listGaps_44 (fun z6 => ?_)
    refine j_iinc (pc := 45) (n0 := 2) (v0 := v2 + 1) (lv2 := [(2, .int (v2 + 1)), (0, .ref (mB Γ + r0)), (1, .ref (mB Γ + r1)), (3, .int v3)]) dX10_listGaps_45 rfl rfl (by decide) rfl ?_
    exact J.sub [1, 2, 0, 3] rfl ((j_X10_listGaps_B48 hL4) r0 r1 (v2 + 1) v3 z6)
theorem ct_X10_listGaps {l : Launch} {Γ : Am} (r0 : Nat) (r1 : Nat) (z : Hp) : Ct l Γ yX10_listGaps mi_X10_listGaps cvV [.ref (mB Γ + r0), .ref (mB Γ + r1)] z (m_X10_listGaps r0 r1 z) := by
  refine Ct.ofJ (by decide) ⟨rfl, rfl⟩ (Nat.le_of_ble_eq_true rfl) ?_
  unfold m_X10_listGaps
  show J l Γ mi_X10_listGaps cvV 0 0 0 [(0, .ref (mB Γ + r0)), (1, .ref (mB Γ + r1))] [] z _
  refine j_iconst (pc := 0) (v := 0) dX10_listGaps_0 (by decide) ?_
  refine j_istore_n (pc := 1) (lv2 := [(2, .int 0), (0, .ref (mB Γ + r0)), (1, .ref (mB Γ + r1))]) dX10_listGaps_1 rfl (by decide) rfl ?_
  refine j_iconst (pc := 2) (v := 0) dX10_listGaps_2 (by decide) ?_
  refine j_istore_n (pc := 3) (lv2 := [(3, .int 0), (2, .int 0), (0, .ref (mB Γ + r0)), (1, .ref (mB Γ + r1))]) dX10_listGaps_3 rfl (by decide) rfl ?_
  exact J.sub [2, 3, 1, 0] rfl ((j_X10_listGaps_L4 FU) r0 r1 0 0 z)
theorem dX11_init_0 : decode cX11_init 0 = .ok (.aload_n 0, 1) := by decide +kernel
theorem dX11_init_1 : decode cX11_init 1 = .ok (.invokespecial 1, 3) := by decide +kernel
theorem dX11_init_4 : decode cX11_init 4 = .ok (.aload_n 0, 1) := by decide +kernel
theorem dX11_init_5 : decode cX11_init 5 = .ok (.new 7, 3) := by decide +kernel
theorem dX11_init_8 : decode cX11_init 8 = .ok (.dup, 1) := by decide +kernel
theorem dX11_init_9 : decode cX11_init 9 = .ok (.invokespecial 9, 3) := by decide +kernel
theorem dX11_init_12 : decode cX11_init 12 = .ok (.putfield 10, 3) := by decide +kernel
theorem dX11_init_15 : decode cX11_init 15 = .ok (.aload_n 0, 1) := by decide +kernel
theorem dX11_init_16 : decode cX11_init 16 = .ok (.new 7, 3) := by decide +kernel
theorem dX11_init_19 : decode cX11_init 19 = .ok (.dup, 1) := by decide +kernel
theorem dX11_init_20 : decode cX11_init 20 = .ok (.invokespecial 9, 3) := by decide +kernel
theorem dX11_init_23 : decode cX11_init 23 = .ok (.putfield 16, 3) := by decide +kernel
theorem dX11_init_26 : decode cX11_init 26 = .ok (.aload_n 0, 1) := by decide +kernel
theorem dX11_init_27 : decode cX11_init 27 = .ok (.iconst 3, 1) := by decide +kernel
theorem dX11_init_28 : decode cX11_init 28 = .ok (.anewarray 7, 3) := by decide +kernel
theorem dX11_init_31 : decode cX11_init 31 = .ok (.putfield 19, 3) := by decide +kernel
theorem dX11_init_34 : decode cX11_init 34 = .ok (.aload_n 0, 1) := by decide +kernel
theorem dX11_init_35 : decode cX11_init 35 = .ok (.new 23, 3) := by decide +kernel
theorem dX11_init_38 : decode cX11_init 38 = .ok (.dup, 1) := by decide +kernel
theorem dX11_init_39 : decode cX11_init 39 = .ok (.invokespecial 25, 3) := by decide +kernel
theorem dX11_init_42 : decode cX11_init 42 = .ok (.putfield 26, 3) := by decide +kernel
theorem dX11_init_45 : decode cX11_init 45 = .ok (.aload_n 0, 1) := by decide +kernel
theorem dX11_init_46 : decode cX11_init 46 = .ok (.new 30, 3) := by decide +kernel
theorem dX11_init_49 : decode cX11_init 49 = .ok (.dup, 1) := by decide +kernel
theorem dX11_init_50 : decode cX11_init 50 = .ok (.aload_n 0, 1) := by decide +kernel
theorem dX11_init_51 : decode cX11_init 51 = .ok (.getfield 26, 3) := by decide +kernel
theorem dX11_init_54 : decode cX11_init 54 = .ok (.aload_n 0, 1) := by decide +kernel
theorem dX11_init_55 : decode cX11_init 55 = .ok (.getfield 16, 3) := by decide +kernel
theorem dX11_init_58 : decode cX11_init 58 = .ok (.invokespecial 32, 3) := by decide +kernel
theorem dX11_init_61 : decode cX11_init 61 = .ok (.putfield 35, 3) := by decide +kernel
theorem dX11_init_64 : decode cX11_init 64 = .ok (.aload_n 0, 1) := by decide +kernel
theorem dX11_init_65 : decode cX11_init 65 = .ok (.new 39, 3) := by decide +kernel
theorem dX11_init_68 : decode cX11_init 68 = .ok (.dup, 1) := by decide +kernel
theorem dX11_init_69 : decode cX11_init 69 = .ok (.invokespecial 41, 3) := by decide +kernel
theorem dX11_init_72 : decode cX11_init 72 = .ok (.putfield 42, 3) := by decide +kernel
theorem dX11_init_75 : decode cX11_init 75 = .ok (.aload_n 0, 1) := by decide +kernel
theorem dX11_init_76 : decode cX11_init 76 = .ok (.new 46, 3) := by decide +kernel
theorem dX11_init_79 : decode cX11_init 79 = .ok (.dup, 1) := by decide +kernel
theorem dX11_init_80 : decode cX11_init 80 = .ok (.invokespecial 48, 3) := by decide +kernel
theorem dX11_init_83 : decode cX11_init 83 = .ok (.putfield 49, 3) := by decide +kernel
theorem dX11_init_86 : decode cX11_init 86 = .ok (.aload_n 0, 1) := by decide +kernel
theorem dX11_init_87 : decode cX11_init 87 = .ok (.new 53, 3) := by decide +kernel
theorem dX11_init_90 : decode cX11_init 90 = .ok (.dup, 1) := by decide +kernel
theorem dX11_init_91 : decode cX11_init 91 = .ok (.invokespecial 55, 3) := by decide +kernel
theorem dX11_init_94 : decode cX11_init 94 = .ok (.putfield 56, 3) := by decide +kernel
theorem dX11_init_97 : decode cX11_init 97 = .ok (.aload_n 0, 1) := by decide +kernel
theorem dX11_init_98 : decode cX11_init 98 = .ok (.sipush 144, 3) := by decide +kernel
theorem dX11_init_101 : decode cX11_init 101 = .ok (.newarray .int, 2) := by decide +kernel
theorem dX11_init_103 : decode cX11_init 103 = .ok (.putfield 60, 3) := by decide +kernel
theorem dX11_init_106 : decode cX11_init 106 = .ok (.aload_n 0, 1) := by decide +kernel
theorem dX11_init_107 : decode cX11_init 107 = .ok (.iconst 0, 1) := by decide +kernel
theorem dX11_init_108 : decode cX11_init 108 = .ok (.putfield 64, 3) := by decide +kernel
theorem dX11_init_111 : decode cX11_init 111 = .ok (.aload_n 0, 1) := by decide +kernel
theorem dX11_init_112 : decode cX11_init 112 = .ok (.iconst 0, 1) := by decide +kernel
theorem dX11_init_113 : decode cX11_init 113 = .ok (.putfield 68, 3) := by decide +kernel
theorem dX11_init_116 : decode cX11_init 116 = .ok (.aload_n 0, 1) := by decide +kernel
theorem dX11_init_117 : decode cX11_init 117 = .ok (.iconst 0, 1) := by decide +kernel
theorem dX11_init_118 : decode cX11_init 118 = .ok (.putfield 71, 3) := by decide +kernel
theorem dX11_init_121 : decode cX11_init 121 = .ok (.aload_n 0, 1) := by decide +kernel
theorem dX11_init_122 : decode cX11_init 122 = .ok (.iconst (-1), 1) := by decide +kernel
theorem dX11_init_123 : decode cX11_init 123 = .ok (.putfield 74, 3) := by decide +kernel
theorem dX11_init_126 : decode cX11_init 126 = .ok (.aload_n 0, 1) := by decide +kernel
theorem dX11_init_127 : decode cX11_init 127 = .ok (.getfield 10, 3) := by decide +kernel
theorem dX11_init_130 : decode cX11_init 130 = .ok (.invokevirtual 77, 3) := by decide +kernel
theorem dX11_init_133 : decode cX11_init 133 = .ok (.aload_n 0, 1) := by decide +kernel
theorem dX11_init_134 : decode cX11_init 134 = .ok (.getfield 10, 3) := by decide +kernel
theorem dX11_init_137 : decode cX11_init 137 = .ok (.invokevirtual 80, 3) := by decide +kernel
theorem dX11_init_140 : decode cX11_init 140 = .ok (.return_, 1) := by decide +kernel
theorem cw_X11_init_9 : CwIN mi_X11_init mi_X8_init yX8_init 9 0 "FrostRing" := ⟨⟨by decide +kernel, w_127, w_96, w_128, rfl, rfl⟩, ⟨by decide, by decide⟩, by decide +kernel, by decide, by decide⟩
theorem cw_X11_init_25 : CwIN mi_X11_init mi_X4_init yX4_init 25 0 "FrostRing" := ⟨⟨by decide +kernel, w_379, w_102, w_380, rfl, rfl⟩, ⟨by decide, by decide⟩, by decide +kernel, by decide, by decide⟩
theorem cw_X11_init_32 : CwI mi_X11_init mi_X2_init yX2_init 32 2 := ⟨⟨w_407, w_408, w_103, w_409, rfl, rfl⟩, ⟨by decide, by decide⟩, by decide +kernel, by decide, by decide⟩
theorem cw_X11_init_41 : CwIN mi_X11_init mi_X9_init yX9_init 41 0 "FrostRing" := ⟨⟨by decide +kernel, w_441, w_104, w_442, rfl, rfl⟩, ⟨by decide, by decide⟩, by decide +kernel, by decide, by decide⟩
theorem cw_X11_init_48 : CwIN mi_X11_init mi_X10_init yX10_init 48 0 "FrostRing" := ⟨⟨by decide +kernel, w_457, w_105, w_458, rfl, rfl⟩, ⟨by decide, by decide⟩, by decide +kernel, by decide, by decide⟩
theorem cw_X11_init_55 : CwI mi_X11_init mi_X6_init yX6_init 55 0 := ⟨⟨w_493, w_494, w_106, w_495, rfl, rfl⟩, ⟨by decide, by decide⟩, by decide +kernel, by decide, by decide⟩
theorem cw_X11_init_77 : CwV mi_X11_init mi_X8_forget yX8_forget RX8 77 0 := ⟨⟨w_515, w_516, w_517, w_96, w_518⟩, ⟨by decide, by decide⟩, by decide +kernel, by decide, by decide⟩
theorem cw_X11_init_80 : CwV mi_X11_init mi_X8_begin yX8_begin RX8 80 0 := ⟨⟨w_525, w_526, w_527, w_96, w_528⟩, ⟨by decide, by decide⟩, by decide +kernel, by decide, by decide⟩
theorem ct_X11_init {l : Launch} {Γ : Am} (r0 : Nat) (z : Hp) : Ct l Γ yX11_init mi_X11_init cvV [.ref (mB Γ + r0)] z (m_X11_init r0 z) := by
  refine Ct.ofJ (by decide) ⟨rfl, rfl⟩ (Nat.le_of_ble_eq_true rfl) ?_
  unfold m_X11_init
  show J l Γ mi_X11_init cvV 91 5419 0 [(0, .ref (mB Γ + r0))] [] z _
  refine j_aload_n (pc := 0) 0 dX11_init_0 rfl rfl ?_
  refine j_objInit (pc := 1) w_121 w_122 w_123 dX11_init_1 (by decide) (by decide) ?_
  refine j_aload_n (pc := 4) 0 dX11_init_4 rfl rfl ?_
  refine j_new (pc := 5) (mc2 := 90) (ms2 := 5402) ok_X8 df_X8 ⟨w_124, w_125, w_96⟩ dX11_init_5 (by decide) (by decide) (fun a1 z2 => ?_)
  refine j_dup (pc := 8) dX11_init_8 rfl ?_
  refine j_callIN_V (pc := 9) (as := []) (mc2 := 59) (ms2 := 4437) (ct_X8_init _ _) cw_X11_init_9 dX11_init_9 (Nat.le_of_ble_eq_true rfl) rfl (by decide) (by decide) (fun _ z3 => ?_)
  refine j_putR (pc := 12) ok_X11 (by decide) rfl w_529 (Or.inl rfl) rfl rfl dX11_init_12 (fun z4 => ?_)
  refine j_aload_n (pc := 15) 0 dX11_init_15 rfl rfl ?_
  refine j_new (pc := 16) (mc2 := 58) (ms2 := 4420) ok_X8 df_X8 ⟨w_124, w_125, w_96⟩ dX11_init_16 (by decide) (by decide) (fun a5 z6 => ?_)
  refine j_dup (pc := 19) dX11_init_19 rfl ?_
  refine j_callIN_V (pc := 20) (as := []) (mc2 := 27) (ms2 := 3455) (ct_X8_init _ _) cw_X11_init_9 dX11_init_20 (Nat.le_of_ble_eq_true rfl) rfl (by decide) (by decide) (fun _ z7 => ?_)
  refine j_putR (pc := 23) ok_X11 (by decide) rfl w_530 (Or.inl rfl) rfl rfl dX11_init_23 (fun z8 => ?_)
  refine j_aload_n (pc := 26) 0 dX11_init_26 rfl rfl ?_
  refine j_iconst (pc := 27) (v := 3) dX11_init_27 (by decide) ?_
  refine j_anewarr (pc := 28) (n0 := 3) (mc2 := 26) (ms2 := 3452) w_124 dX11_init_28 (by decide) (by decide) (by decide) (by decide) (by decide) (fun a9 z10 => ?_)
  refine j_putR (pc := 31) ok_X11 (by decide) rfl w_531 (Or.inr ⟨rfl, rfl, rfl⟩) rfl rfl dX11_init_31 (fun z11 => ?_)
  refine j_aload_n (pc := 34) 0 dX11_init_34 rfl rfl ?_
  refine j_new (pc := 35) (mc2 := 25) (ms2 := 3446) ok_X4 df_X4 ⟨w_376, w_377, w_102⟩ dX11_init_35 (by decide) (by decide) (fun a12 z13 => ?_)
  refine j_dup (pc := 38) dX11_init_38 rfl ?_
  refine j_callIN_V (pc := 39) (as := []) (mc2 := 24) (ms2 := 2746) (ct_X4_init _ _) cw_X11_init_25 dX11_init_39 (Nat.le_of_ble_eq_true rfl) rfl (by decide) (by decide) (fun _ z14 => ?_)
  refine j_putR (pc := 42) ok_X11 (by decide) rfl w_532 (Or.inr ⟨rfl, rfl, rfl⟩) rfl rfl dX11_init_42 (fun z15 => ?_)
  refine j_aload_n (pc := 45) 0 dX11_init_45 rfl rfl ?_
  refine j_new (pc := 46) (mc2 := 23) (ms2 := 2738) ok_X2 df_X2 ⟨w_405, w_406, w_103⟩ dX11_init_46 (by decide) (by decide) (fun a16 z17 => ?_)
  refine j_dup (pc := 49) dX11_init_49 rfl ?_
  refine j_aload_n (pc := 50) 0 dX11_init_50 rfl rfl ?_
  refine j_getR (pc := 51) ok_X11 (by decide) rfl w_532 dX11_init_51 (fun a18 => ?_)
  refine j_aload_n (pc := 54) 0 dX11_init_54 rfl rfl ?_
  refine j_getR (pc := 55) ok_X11 (by decide) rfl w_530 dX11_init_55 (fun a19 => ?_)
  refine j_callI_V (pc := 58) (as := [.ref (mB Γ + a18), .ref (mB Γ + a19)]) (mc2 := 22) (ms2 := 2734) (ct_X2_init _ _ _ _) cw_X11_init_32 dX11_init_58 (Nat.le_of_ble_eq_true rfl) rfl (by decide) (by decide) (fun _ z20 => ?_)
  refine j_putR (pc := 61) ok_X11 (by decide) rfl w_533 (Or.inr ⟨rfl, rfl, rfl⟩) rfl rfl dX11_init_61 (fun z21 => ?_)
  refine j_aload_n (pc := 64) 0 dX11_init_64 rfl rfl ?_
  refine j_new (pc := 65) (mc2 := 21) (ms2 := 2731) ok_X9 df_X9 ⟨w_438, w_439, w_104⟩ dX11_init_65 (by decide) (by decide) (fun a22 z23 => ?_)
  refine j_dup (pc := 68) dX11_init_68 rfl ?_
  refine j_callIN_V (pc := 69) (as := []) (mc2 := 18) (ms2 := 2425) (ct_X9_init _ _) cw_X11_init_41 dX11_init_69 (Nat.le_of_ble_eq_true rfl) rfl (by decide) (by decide) (fun _ z24 => ?_)
  refine j_putR (pc := 72) ok_X11 (by decide) rfl w_534 (Or.inr ⟨rfl, rfl, rfl⟩) rfl rfl dX11_init_72 (fun z25 => ?_)
  refine j_aload_n (pc := 75) 0 dX11_init_75 rfl rfl ?_
  refine j_new (pc := 76) (mc2 := 17) (ms2 := 2415) ok_X10 df_X10 ⟨w_454, w_455, w_105⟩ dX11_init_76 (by decide) (by decide) (fun a26 z27 => ?_)
  refine j_dup (pc := 79) dX11_init_79 rfl ?_
  refine j_callIN_V (pc := 80) (as := []) (mc2 := 9) (ms2 := 399) (ct_X10_init _ _) cw_X11_init_48 dX11_init_80 (Nat.le_of_ble_eq_true rfl) rfl (by decide) (by decide) (fun _ z28 => ?_)
  refine j_putR (pc := 83) ok_X11 (by decide) rfl w_535 (Or.inr ⟨rfl, rfl, rfl⟩) rfl rfl dX11_init_83 (fun z29 => ?_)
  refine j_aload_n (pc := 86) 0 dX11_init_86 rfl rfl ?_
  refine j_new (pc := 87) (mc2 := 8) (ms2 := 396) ok_X6 df_X6 ⟨w_491, w_492, w_106⟩ dX11_init_87 (by decide) (by decide) (fun a30 z31 => ?_)
  refine j_dup (pc := 90) dX11_init_90 rfl ?_
  refine j_callI_V (pc := 91) (as := []) (mc2 := 1) (ms2 := 144) (ct_X6_init _ _) cw_X11_init_55 dX11_init_91 (Nat.le_of_ble_eq_true rfl) rfl (by decide) (by decide) (fun _ z32 => ?_)
  refine j_putR (pc := 94) ok_X11 (by decide) rfl w_536 (Or.inr ⟨rfl, rfl, rfl⟩) rfl rfl dX11_init_94 (fun z33 => ?_)
  refine j_aload_n (pc := 97) 0 dX11_init_97 rfl rfl ?_
  refine j_sipush (pc := 98) (v := 144) dX11_init_98 (by decide) ?_
  refine j_newarr1 (pc := 101) (n0 := 144) (mc2 := 0) (ms2 := 0) w_177 dX11_init_101 (by decide) (by decide) (by decide) (by decide) (by decide) (fun a34 z35 => ?_)
  refine j_putR (pc := 103) ok_X11 (by decide) rfl w_537 (Or.inr ⟨rfl, rfl, rfl⟩) rfl rfl dX11_init_103 (fun z36 => ?_)
  refine j_aload_n (pc := 106) 0 dX11_init_106 rfl rfl ?_
  refine j_iconst (pc := 107) (v := 0) dX11_init_107 (by decide) ?_
  refine j_putI (pc := 108) ok_X11 (by decide) rfl w_538 (Or.inl rfl) rfl rfl dX11_init_108 (fun z37 => ?_)
  refine j_aload_n (pc := 111) 0 dX11_init_111 rfl rfl ?_
  refine j_iconst (pc := 112) (v := 0) dX11_init_112 (by decide) ?_
  refine j_putI (pc := 113) ok_X11 (by decide) rfl w_539 (Or.inl rfl) rfl rfl dX11_init_113 (fun z38 => ?_)
  refine j_aload_n (pc := 116) 0 dX11_init_116 rfl rfl ?_
  refine j_iconst (pc := 117) (v := 0) dX11_init_117 (by decide) ?_
  refine j_putI (pc := 118) ok_X11 (by decide) rfl w_540 (Or.inl rfl) rfl rfl dX11_init_118 (fun z39 => ?_)
  refine j_aload_n (pc := 121) 0 dX11_init_121 rfl rfl ?_
  refine j_iconst (pc := 122) (v := (-1)) dX11_init_122 (by decide) ?_
  refine j_putI (pc := 123) ok_X11 (by decide) rfl w_541 (Or.inl rfl) rfl rfl dX11_init_123 (fun z40 => ?_)
  refine j_aload_n (pc := 126) 0 dX11_init_126 rfl rfl ?_
  refine j_getR (pc := 127) ok_X11 (by decide) rfl w_529 dX11_init_127 (fun a41 => ?_)
  refine j_isC (fun h43 => ?_)
  refine j_callV_V (pc := 130) (as := []) (mc2 := 0) (ms2 := 0) (ct_X8_forget _ _) h43 rfl cw_X11_init_77 dX11_init_130 (Nat.le_of_ble_eq_true rfl) rfl (by decide) (by decide) (fun _ z42 => ?_)
  refine j_aload_n (pc := 133) 0 dX11_init_133 rfl rfl ?_
  refine j_getR (pc := 134) ok_X11 (by decide) rfl w_529 dX11_init_134 (fun a44 => ?_)
  refine j_isC (fun h46 => ?_)
  refine j_callV_V (pc := 137) (as := []) (mc2 := 0) (ms2 := 0) (ct_X8_begin _ _) h46 rfl cw_X11_init_80 dX11_init_137 (Nat.le_of_ble_eq_true rfl) rfl (by decide) (by decide) (fun _ z45 => ?_)
  exact j_return (pc := 140) dX11_init_140 rfl
theorem dX11_feed_0 : decode cX11_feed 0 = .ok (.aload_n 0, 1) := by decide +kernel
theorem dX11_feed_1 : decode cX11_feed 1 = .ok (.getfield 26, 3) := by decide +kernel
theorem dX11_feed_4 : decode cX11_feed 4 = .ok (.getfield 83, 3) := by decide +kernel
theorem dX11_feed_7 : decode cX11_feed 7 = .ok (.bipush 20, 2) := by decide +kernel
theorem dX11_feed_9 : decode cX11_feed 9 = .ok (.iadd, 1) := by decide +kernel
theorem dX11_feed_10 : decode cX11_feed 10 = .ok (.sipush 700, 3) := by decide +kernel
theorem dX11_feed_13 : decode cX11_feed 13 = .ok (.if_icmp .le 5, 3) := by decide +kernel
theorem dX11_feed_16 : decode cX11_feed 16 = .ok (.iconst (-1), 1) := by decide +kernel
theorem dX11_feed_17 : decode cX11_feed 17 = .ok (.ireturn, 1) := by decide +kernel
theorem dX11_feed_18 : decode cX11_feed 18 = .ok (.aload_n 0, 1) := by decide +kernel
theorem dX11_feed_19 : decode cX11_feed 19 = .ok (.getfield 26, 3) := by decide +kernel
theorem dX11_feed_22 : decode cX11_feed 22 = .ok (.iload_n 1, 1) := by decide +kernel
theorem dX11_feed_23 : decode cX11_feed 23 = .ok (.invokevirtual 86, 3) := by decide +kernel
theorem dX11_feed_26 : decode cX11_feed 26 = .ok (.aload_n 0, 1) := by decide +kernel
theorem dX11_feed_27 : decode cX11_feed 27 = .ok (.getfield 26, 3) := by decide +kernel
theorem dX11_feed_30 : decode cX11_feed 30 = .ok (.iload_n 2, 1) := by decide +kernel
theorem dX11_feed_31 : decode cX11_feed 31 = .ok (.invokevirtual 86, 3) := by decide +kernel
theorem dX11_feed_34 : decode cX11_feed 34 = .ok (.aload_n 0, 1) := by decide +kernel
theorem dX11_feed_35 : decode cX11_feed 35 = .ok (.getfield 26, 3) := by decide +kernel
theorem dX11_feed_38 : decode cX11_feed 38 = .ok (.iload_n 3, 1) := by decide +kernel
theorem dX11_feed_39 : decode cX11_feed 39 = .ok (.invokevirtual 86, 3) := by decide +kernel
theorem dX11_feed_42 : decode cX11_feed 42 = .ok (.aload_n 0, 1) := by decide +kernel
theorem dX11_feed_43 : decode cX11_feed 43 = .ok (.getfield 26, 3) := by decide +kernel
theorem dX11_feed_46 : decode cX11_feed 46 = .ok (.iload 4, 2) := by decide +kernel
theorem dX11_feed_48 : decode cX11_feed 48 = .ok (.invokevirtual 86, 3) := by decide +kernel
theorem dX11_feed_51 : decode cX11_feed 51 = .ok (.aload_n 0, 1) := by decide +kernel
theorem dX11_feed_52 : decode cX11_feed 52 = .ok (.getfield 26, 3) := by decide +kernel
theorem dX11_feed_55 : decode cX11_feed 55 = .ok (.iload 5, 2) := by decide +kernel
theorem dX11_feed_57 : decode cX11_feed 57 = .ok (.invokevirtual 86, 3) := by decide +kernel
theorem dX11_feed_60 : decode cX11_feed 60 = .ok (.aload_n 0, 1) := by decide +kernel
theorem dX11_feed_61 : decode cX11_feed 61 = .ok (.getfield 26, 3) := by decide +kernel
theorem dX11_feed_64 : decode cX11_feed 64 = .ok (.getfield 83, 3) := by decide +kernel
theorem dX11_feed_67 : decode cX11_feed 67 = .ok (.ireturn, 1) := by decide +kernel
theorem cw_X11_feed_86 : CwV mi_X11_feed mi_X4_append yX4_append RX4 86 1 := ⟨⟨w_573, w_574, w_575, w_102, w_576⟩, ⟨by decide, by decide⟩, by decide +kernel, by decide, by decide⟩
theorem ct_X11_feed {l : Launch} {Γ : Am} (r0 : Nat) (v1 : Int32) (v2 : Int32) (v3 : Int32) (v4 : Int32) (v5 : Int32) (z : Hp) : Ct l Γ yX11_feed mi_X11_feed cvI [.ref (mB Γ + r0), .int v1, .int v2, .int v3, .int v4, .int v5] z (m_X11_feed r0 v1 v2 v3 v4 v5 z) := by
  refine Ct.ofJ (by decide) ⟨rfl, rfl⟩ (Nat.le_of_ble_eq_true rfl) ?_
  unfold m_X11_feed
  show J l Γ mi_X11_feed cvI 0 0 0 [(0, .ref (mB Γ + r0)), (1, .int v1), (2, .int v2), (3, .int v3), (4, .int v4), (5, .int v5)] [] z _
  refine j_aload_n (pc := 0) 0 dX11_feed_0 rfl rfl ?_
  refine j_getR (pc := 1) ok_X11 (by decide) rfl w_532 dX11_feed_1 (fun a1 => ?_)
  refine j_getI (pc := 4) ok_X4 (by decide) rfl w_384 dX11_feed_4 (fun x2 => ?_)
  refine j_bipush (pc := 7) (v := 20) dX11_feed_7 (by decide) ?_
  refine j_iadd (pc := 9) dX11_feed_9 ?_
  refine j_sipush (pc := 10) (v := 700) dX11_feed_10 (by decide) ?_
  refine j_icmp_le (pc := 13) 18 dX11_feed_13 (by decide) ?_ ?_
  · refine j_aload_n (pc := 18) 0 dX11_feed_18 rfl rfl ?_
    refine j_getR (pc := 19) ok_X11 (by decide) rfl w_532 dX11_feed_19 (fun a3 => ?_)
    refine j_iload_n (pc := 22) 1 dX11_feed_22 rfl rfl ?_
    refine j_isC (fun h5 => ?_)
    refine j_callV_V (pc := 23) (as := [.int v1]) (mc2 := 0) (ms2 := 0) (ct_X4_append _ _ _) h5 rfl cw_X11_feed_86 dX11_feed_23 (Nat.le_of_ble_eq_true rfl) rfl (by decide) (by decide) (fun _ z4 => ?_)
    refine j_aload_n (pc := 26) 0 dX11_feed_26 rfl rfl ?_
    refine j_getR (pc := 27) ok_X11 (by decide) rfl w_532 dX11_feed_27 (fun a6 => ?_)
    refine j_iload_n (pc := 30) 2 dX11_feed_30 rfl rfl ?_
    refine j_isC (fun h8 => ?_)
    refine j_callV_V (pc := 31) (as := [.int v2]) (mc2 := 0) (ms2 := 0) (ct_X4_append _ _ _) h8 rfl cw_X11_feed_86 dX11_feed_31 (Nat.le_of_ble_eq_true rfl) rfl (by decide) (by decide) (fun _ z7 => ?_)
    refine j_aload_n (pc := 34) 0 dX11_feed_34 rfl rfl ?_
    refine j_getR (pc := 35) ok_X11 (by decide) rfl w_532 dX11_feed_35 (fun a9 => ?_)
    refine j_iload_n (pc := 38) 3 dX11_feed_38 rfl rfl ?_
    refine j_isC (fun h11 => ?_)
    refine j_callV_V (pc := 39) (as := [.int v3]) (mc2 := 0) (ms2 := 0) (ct_X4_append _ _ _) h11 rfl cw_X11_feed_86 dX11_feed_39 (Nat.le_of_ble_eq_true rfl) rfl (by decide) (by decide) (fun _ z10 => ?_)
    refine j_aload_n (pc := 42) 0 dX11_feed_42 rfl rfl ?_
    refine j_getR (pc := 43) ok_X11 (by decide) rfl w_532 dX11_feed_43 (fun a12 => ?_)
    refine j_iload (pc := 46) 4 dX11_feed_46 rfl ?_
    refine j_isC (fun h14 => ?_)
    refine j_callV_V (pc := 48) (as := [.int v4]) (mc2 := 0) (ms2 := 0) (ct_X4_append _ _ _) h14 rfl cw_X11_feed_86 dX11_feed_48 (Nat.le_of_ble_eq_true rfl) rfl (by decide) (by decide) (fun _ z13 => ?_)
    refine j_aload_n (pc := 51) 0 dX11_feed_51 rfl rfl ?_
    refine j_getR (pc := 52) ok_X11 (by decide) rfl w_532 dX11_feed_52 (fun a15 => ?_)
    refine j_iload (pc := 55) 5 dX11_feed_55 rfl ?_
    refine j_isC (fun h17 => ?_)
    refine j_callV_V (pc := 57) (as := [.int v5]) (mc2 := 0) (ms2 := 0) (ct_X4_append _ _ _) h17 rfl cw_X11_feed_86 dX11_feed_57 (Nat.le_of_ble_eq_true rfl) rfl (by decide) (by decide) (fun _ z16 => ?_)
    refine j_aload_n (pc := 60) 0 dX11_feed_60 rfl rfl ?_
    refine j_getR (pc := 61) ok_X11 (by decide) rfl w_532 dX11_feed_61 (fun a18 => ?_)
    refine j_getI (pc := 64) ok_X4 (by decide) rfl w_384 dX11_feed_64 (fun x19 => ?_)
    exact j_ireturn (pc := 67) dX11_feed_67 rfl rfl
  refine j_iconst (pc := 16) (v := (-1)) dX11_feed_16 (by decide) ?_
  exact j_ireturn (pc := 17) dX11_feed_17 rfl rfl
theorem dX11_end_0 : decode cX11_end 0 = .ok (.iload_n 1, 1) := by decide +kernel
theorem dX11_end_1 : decode cX11_end 1 = .ok (.ifCond .lt 14, 3) := by decide +kernel
theorem dX11_end_4 : decode cX11_end 4 = .ok (.iload_n 1, 1) := by decide +kernel
theorem dX11_end_5 : decode cX11_end 5 = .ok (.aload_n 0, 1) := by decide +kernel
theorem dX11_end_6 : decode cX11_end 6 = .ok (.getfield 26, 3) := by decide +kernel
theorem dX11_end_9 : decode cX11_end 9 = .ok (.getfield 83, 3) := by decide +kernel
theorem dX11_end_12 : decode cX11_end 12 = .ok (.if_icmp .le 5, 3) := by decide +kernel
theorem dX11_end_15 : decode cX11_end 15 = .ok (.iconst (-1), 1) := by decide +kernel
theorem dX11_end_16 : decode cX11_end 16 = .ok (.ireturn, 1) := by decide +kernel
theorem dX11_end_17 : decode cX11_end 17 = .ok (.aload_n 0, 1) := by decide +kernel
theorem dX11_end_18 : decode cX11_end 18 = .ok (.getfield 26, 3) := by decide +kernel
theorem dX11_end_21 : decode cX11_end 21 = .ok (.iload_n 1, 1) := by decide +kernel
theorem dX11_end_22 : decode cX11_end 22 = .ok (.putfield 83, 3) := by decide +kernel
theorem dX11_end_25 : decode cX11_end 25 = .ok (.iload_n 1, 1) := by decide +kernel
theorem dX11_end_26 : decode cX11_end 26 = .ok (.ireturn, 1) := by decide +kernel
theorem ct_X11_end {l : Launch} {Γ : Am} (r0 : Nat) (v1 : Int32) (z : Hp) : Ct l Γ yX11_end mi_X11_end cvI [.ref (mB Γ + r0), .int v1] z (m_X11_end r0 v1 z) := by
  refine Ct.ofJ (by decide) ⟨rfl, rfl⟩ (Nat.le_of_ble_eq_true rfl) ?_
  unfold m_X11_end
  show J l Γ mi_X11_end cvI 0 0 0 [(0, .ref (mB Γ + r0)), (1, .int v1)] [] z _
  refine j_iload_n (pc := 0) 1 dX11_end_0 rfl rfl ?_
  refine j_if_lt (pc := 1) 15 dX11_end_1 (by decide) ?_ ?_
  · refine j_iconst (pc := 15) (v := (-1)) dX11_end_15 (by decide) ?_
    exact j_ireturn (pc := 16) dX11_end_16 rfl rfl
  refine j_iload_n (pc := 4) 1 dX11_end_4 rfl rfl ?_
  refine j_aload_n (pc := 5) 0 dX11_end_5 rfl rfl ?_
  refine j_getR (pc := 6) ok_X11 (by decide) rfl w_532 dX11_end_6 (fun a1 => ?_)
  refine j_getI (pc := 9) ok_X4 (by decide) rfl w_384 dX11_end_9 (fun x2 => ?_)
  refine j_icmp_le (pc := 12) 17 dX11_end_12 (by decide) ?_ ?_
  · refine j_aload_n (pc := 17) 0 dX11_end_17 rfl rfl ?_
    refine j_getR (pc := 18) ok_X11 (by decide) rfl w_532 dX11_end_18 (fun a3 => ?_)
    refine j_iload_n (pc := 21) 1 dX11_end_21 rfl rfl ?_
    refine j_putI (pc := 22) ok_X4 (by decide) rfl w_384 (Or.inl rfl) rfl rfl dX11_end_22 (fun z4 => ?_)
    refine j_iload_n (pc := 25) 1 dX11_end_25 rfl rfl ?_
    exact j_ireturn (pc := 26) dX11_end_26 rfl rfl
  refine j_iconst (pc := 15) (v := (-1)) dX11_end_15 (by decide) ?_
  exact j_ireturn (pc := 16) dX11_end_16 rfl rfl
theorem dX11_text_0 : decode cX11_text 0 = .ok (.aload_n 0, 1) := by decide +kernel
theorem dX11_text_1 : decode cX11_text 1 = .ok (.getfield 35, 3) := by decide +kernel
theorem dX11_text_4 : decode cX11_text 4 = .ok (.aload_n 0, 1) := by decide +kernel
theorem dX11_text_5 : decode cX11_text 5 = .ok (.getfield 16, 3) := by decide +kernel
theorem dX11_text_8 : decode cX11_text 8 = .ok (.invokevirtual 90, 3) := by decide +kernel
theorem dX11_text_11 : decode cX11_text 11 = .ok (.aload_n 0, 1) := by decide +kernel
theorem dX11_text_12 : decode cX11_text 12 = .ok (.getfield 26, 3) := by decide +kernel
theorem dX11_text_15 : decode cX11_text 15 = .ok (.iconst 0, 1) := by decide +kernel
theorem dX11_text_16 : decode cX11_text 16 = .ok (.putfield 83, 3) := by decide +kernel
theorem dX11_text_19 : decode cX11_text 19 = .ok (.aload_n 0, 1) := by decide +kernel
theorem dX11_text_20 : decode cX11_text 20 = .ok (.aload_n 0, 1) := by decide +kernel
theorem dX11_text_21 : decode cX11_text 21 = .ok (.getfield 35, 3) := by decide +kernel
theorem dX11_text_24 : decode cX11_text 24 = .ok (.getfield 94, 3) := by decide +kernel
theorem dX11_text_27 : decode cX11_text 27 = .ok (.putfield 71, 3) := by decide +kernel
theorem dX11_text_30 : decode cX11_text 30 = .ok (.aload_n 0, 1) := by decide +kernel
theorem dX11_text_31 : decode cX11_text 31 = .ok (.aload_n 0, 1) := by decide +kernel
theorem dX11_text_32 : decode cX11_text 32 = .ok (.getfield 35, 3) := by decide +kernel
theorem dX11_text_35 : decode cX11_text 35 = .ok (.getfield 97, 3) := by decide +kernel
theorem dX11_text_38 : decode cX11_text 38 = .ok (.putfield 74, 3) := by decide +kernel
theorem dX11_text_41 : decode cX11_text 41 = .ok (.aload_n 0, 1) := by decide +kernel
theorem dX11_text_42 : decode cX11_text 42 = .ok (.getfield 71, 3) := by decide +kernel
theorem dX11_text_45 : decode cX11_text 45 = .ok (.ifCond .eq 6, 3) := by decide +kernel
theorem dX11_text_48 : decode cX11_text 48 = .ok (.bipush (-4), 2) := by decide +kernel
theorem dX11_text_50 : decode cX11_text 50 = .ok (.ireturn, 1) := by decide +kernel
theorem dX11_text_51 : decode cX11_text 51 = .ok (.aload_n 0, 1) := by decide +kernel
theorem dX11_text_52 : decode cX11_text 52 = .ok (.getfield 16, 3) := by decide +kernel
theorem dX11_text_55 : decode cX11_text 55 = .ok (.invokevirtual 80, 3) := by decide +kernel
theorem dX11_text_58 : decode cX11_text 58 = .ok (.aload_n 0, 1) := by decide +kernel
theorem dX11_text_59 : decode cX11_text 59 = .ok (.getfield 10, 3) := by decide +kernel
theorem dX11_text_62 : decode cX11_text 62 = .ok (.astore_n 1, 1) := by decide +kernel
theorem dX11_text_63 : decode cX11_text 63 = .ok (.aload_n 0, 1) := by decide +kernel
theorem dX11_text_64 : decode cX11_text 64 = .ok (.aload_n 0, 1) := by decide +kernel
theorem dX11_text_65 : decode cX11_text 65 = .ok (.getfield 16, 3) := by decide +kernel
theorem dX11_text_68 : decode cX11_text 68 = .ok (.putfield 10, 3) := by decide +kernel
theorem dX11_text_71 : decode cX11_text 71 = .ok (.aload_n 0, 1) := by decide +kernel
theorem dX11_text_72 : decode cX11_text 72 = .ok (.aload_n 1, 1) := by decide +kernel
theorem dX11_text_73 : decode cX11_text 73 = .ok (.putfield 16, 3) := by decide +kernel
theorem dX11_text_76 : decode cX11_text 76 = .ok (.aload_n 0, 1) := by decide +kernel
theorem dX11_text_77 : decode cX11_text 77 = .ok (.getfield 10, 3) := by decide +kernel
theorem dX11_text_80 : decode cX11_text 80 = .ok (.getfield 100, 3) := by decide +kernel
theorem dX11_text_83 : decode cX11_text 83 = .ok (.ireturn, 1) := by decide +kernel
theorem cw_X11_text_90 : CwV mi_X11_text mi_X2_readText yX2_readText RX2 90 1 := ⟨⟨w_585, w_586, w_587, w_103, w_588⟩, ⟨by decide, by decide⟩, by decide +kernel, by decide, by decide⟩
theorem cw_X11_text_80 : CwV mi_X11_text mi_X8_begin yX8_begin RX8 80 0 := ⟨⟨w_525, w_526, w_527, w_96, w_528⟩, ⟨by decide, by decide⟩, by decide +kernel, by decide, by decide⟩
theorem ct_X11_text {l : Launch} {Γ : Am} (r0 : Nat) (z : Hp) : Ct l Γ yX11_text mi_X11_text cvI [.ref (mB Γ + r0)] z (m_X11_text r0 z) := by
  refine Ct.ofJ (by decide) ⟨rfl, rfl⟩ (Nat.le_of_ble_eq_true rfl) ?_
  unfold m_X11_text
  show J l Γ mi_X11_text cvI 0 0 0 [(0, .ref (mB Γ + r0))] [] z _
  refine j_aload_n (pc := 0) 0 dX11_text_0 rfl rfl ?_
  refine j_getR (pc := 1) ok_X11 (by decide) rfl w_533 dX11_text_1 (fun a1 => ?_)
  refine j_aload_n (pc := 4) 0 dX11_text_4 rfl rfl ?_
  refine j_getR (pc := 5) ok_X11 (by decide) rfl w_530 dX11_text_5 (fun a2 => ?_)
  refine j_isC (fun h4 => ?_)
  refine j_callV_V (pc := 8) (as := [.ref (mB Γ + a2)]) (mc2 := 0) (ms2 := 0) (ct_X2_readText _ _ _) h4 rfl cw_X11_text_90 dX11_text_8 (Nat.le_of_ble_eq_true rfl) rfl (by decide) (by decide) (fun _ z3 => ?_)
  refine j_aload_n (pc := 11) 0 dX11_text_11 rfl rfl ?_
  refine j_getR (pc := 12) ok_X11 (by decide) rfl w_532 dX11_text_12 (fun a5 => ?_)
  refine j_iconst (pc := 15) (v := 0) dX11_text_15 (by decide) ?_
  refine j_putI (pc := 16) ok_X4 (by decide) rfl w_384 (Or.inl rfl) rfl rfl dX11_text_16 (fun z6 => ?_)
  refine j_aload_n (pc := 19) 0 dX11_text_19 rfl rfl ?_
  refine j_aload_n (pc := 20) 0 dX11_text_20 rfl rfl ?_
  refine j_getR (pc := 21) ok_X11 (by decide) rfl w_533 dX11_text_21 (fun a7 => ?_)
  refine j_getI (pc := 24) ok_X2 (by decide) rfl w_418 dX11_text_24 (fun x8 => ?_)
  refine j_putI (pc := 27) ok_X11 (by decide) rfl w_540 (Or.inl rfl) rfl rfl dX11_text_27 (fun z9 => ?_)
  refine j_aload_n (pc := 30) 0 dX11_text_30 rfl rfl ?_
  refine j_aload_n (pc := 31) 0 dX11_text_31 rfl rfl ?_
  refine j_getR (pc := 32) ok_X11 (by decide) rfl w_533 dX11_text_32 (fun a10 => ?_)
  refine j_getI (pc := 35) ok_X2 (by decide) rfl w_420 dX11_text_35 (fun x11 => ?_)
  refine j_putI (pc := 38) ok_X11 (by decide) rfl w_541 (Or.inl rfl) rfl rfl dX11_text_38 (fun z12 => ?_)
  refine j_aload_n (pc := 41) 0 dX11_text_41 rfl rfl ?_
  refine j_getI (pc := 42) ok_X11 (by decide) rfl w_540 dX11_text_42 (fun x13 => ?_)
  refine j_if_eq (pc := 45) 51 dX11_text_45 (by decide) ?_ ?_
  · refine j_aload_n (pc := 51) 0 dX11_text_51 rfl rfl ?_
    refine j_getR (pc := 52) ok_X11 (by decide) rfl w_530 dX11_text_52 (fun a14 => ?_)
    refine j_isC (fun h16 => ?_)
    refine j_callV_V (pc := 55) (as := []) (mc2 := 0) (ms2 := 0) (ct_X8_begin _ _) h16 rfl cw_X11_text_80 dX11_text_55 (Nat.le_of_ble_eq_true rfl) rfl (by decide) (by decide) (fun _ z15 => ?_)
    refine j_aload_n (pc := 58) 0 dX11_text_58 rfl rfl ?_
    refine j_getR (pc := 59) ok_X11 (by decide) rfl w_529 dX11_text_59 (fun a17 => ?_)
    refine j_astore_n (pc := 62) (lv2 := [(1, .ref (mB Γ + a17)), (0, .ref (mB Γ + r0))]) dX11_text_62 rfl (by decide) rfl ?_
    refine j_aload_n (pc := 63) 1 dX11_text_63 rfl rfl ?_
    refine j_aload_n (pc := 64) 1 dX11_text_64 rfl rfl ?_
    refine j_getR (pc := 65) ok_X11 (by decide) rfl w_530 dX11_text_65 (fun a18 => ?_)
    refine j_putR (pc := 68) ok_X11 (by decide) rfl w_529 (Or.inl rfl) rfl rfl dX11_text_68 (fun z19 => ?_)
    refine j_aload_n (pc := 71) 1 dX11_text_71 rfl rfl ?_
    refine j_aload_n (pc := 72) 0 dX11_text_72 rfl rfl ?_
    refine j_putR (pc := 73) ok_X11 (by decide) rfl w_530 (Or.inl rfl) rfl rfl dX11_text_73 (fun z20 => ?_)
    refine j_aload_n (pc := 76) 1 dX11_text_76 rfl rfl ?_
    refine j_getR (pc := 77) ok_X11 (by decide) rfl w_529 dX11_text_77 (fun a21 => ?_)
    refine j_getI (pc := 80) ok_X8 (by decide) rfl w_332 dX11_text_80 (fun x22 => ?_)
    exact j_ireturn (pc := 83) dX11_text_83 rfl rfl
  refine j_bipush (pc := 48) (v := (-4)) dX11_text_48 (by decide) ?_
  exact j_ireturn (pc := 50) dX11_text_50 rfl rfl
theorem dX11_fault_0 : decode cX11_fault 0 = .ok (.iload_n 1, 1) := by decide +kernel
theorem dX11_fault_1 : decode cX11_fault 1 = .ok (.ifCond .ne 8, 3) := by decide +kernel
theorem dX11_fault_4 : decode cX11_fault 4 = .ok (.aload_n 0, 1) := by decide +kernel
theorem dX11_fault_5 : decode cX11_fault 5 = .ok (.getfield 71, 3) := by decide +kernel
theorem dX11_fault_8 : decode cX11_fault 8 = .ok (.ireturn, 1) := by decide +kernel
theorem dX11_fault_9 : decode cX11_fault 9 = .ok (.iload_n 1, 1) := by decide +kernel
theorem dX11_fault_10 : decode cX11_fault 10 = .ok (.iconst 1, 1) := by decide +kernel
theorem dX11_fault_11 : decode cX11_fault 11 = .ok (.if_icmp .ne 10, 3) := by decide +kernel
theorem dX11_fault_14 : decode cX11_fault 14 = .ok (.aload_n 0, 1) := by decide +kernel
theorem dX11_fault_15 : decode cX11_fault 15 = .ok (.getfield 74, 3) := by decide +kernel
theorem dX11_fault_18 : decode cX11_fault 18 = .ok (.goto 4, 3) := by decide +kernel
theorem dX11_fault_21 : decode cX11_fault 21 = .ok (.iconst (-1), 1) := by decide +kernel
theorem dX11_fault_22 : decode cX11_fault 22 = .ok (.ireturn, 1) := by decide +kernel
theorem ct_X11_fault {l : Launch} {Γ : Am} (r0 : Nat) (v1 : Int32) (z : Hp) : Ct l Γ yX11_fault mi_X11_fault cvI [.ref (mB Γ + r0), .int v1] z (m_X11_fault r0 v1 z) := by
  refine Ct.ofJ (by decide) ⟨rfl, rfl⟩ (Nat.le_of_ble_eq_true rfl) ?_
  unfold m_X11_fault
  show J l Γ mi_X11_fault cvI 0 0 0 [(0, .ref (mB Γ + r0)), (1, .int v1)] [] z _
  refine j_iload_n (pc := 0) 1 dX11_fault_0 rfl rfl ?_
  refine j_if_ne (pc := 1) 9 dX11_fault_1 (by decide) ?_ ?_
  · refine j_iload_n (pc := 9) 1 dX11_fault_9 rfl rfl ?_
    refine j_iconst (pc := 10) (v := 1) dX11_fault_10 (by decide) ?_
    refine j_icmp_ne (pc := 11) 21 dX11_fault_11 (by decide) ?_ ?_
    · refine j_iconst (pc := 21) (v := (-1)) dX11_fault_21 (by decide) ?_
      exact j_ireturn (pc := 22) dX11_fault_22 rfl rfl
    refine j_aload_n (pc := 14) 0 dX11_fault_14 rfl rfl ?_
    refine j_getI (pc := 15) ok_X11 (by decide) rfl w_541 dX11_fault_15 (fun x1 => ?_)
    refine j_goto (pc := 18) 22 dX11_fault_18 (by decide) ?_
    exact j_ireturn (pc := 22) dX11_fault_22 rfl rfl
  refine j_aload_n (pc := 4) 0 dX11_fault_4 rfl rfl ?_
  refine j_getI (pc := 5) ok_X11 (by decide) rfl w_540 dX11_fault_5 (fun x2 => ?_)
  exact j_ireturn (pc := 8) dX11_fault_8 rfl rfl
theorem dX11_floodIfOpen_0 : decode cX11_floodIfOpen 0 = .ok (.aload_n 0, 1) := by decide +kernel
theorem dX11_floodIfOpen_1 : decode cX11_floodIfOpen 1 = .ok (.getfield 10, 3) := by decide +kernel
theorem dX11_floodIfOpen_4 : decode cX11_floodIfOpen 4 = .ok (.getfield 206, 3) := by decide +kernel
theorem dX11_floodIfOpen_7 : decode cX11_floodIfOpen 7 = .ok (.ifCond .ne 48, 3) := by decide +kernel
theorem dX11_floodIfOpen_10 : decode cX11_floodIfOpen 10 = .ok (.aload_n 0, 1) := by decide +kernel
theorem dX11_floodIfOpen_11 : decode cX11_floodIfOpen 11 = .ok (.getfield 10, 3) := by decide +kernel
theorem dX11_floodIfOpen_14 : decode cX11_floodIfOpen 14 = .ok (.getfield 212, 3) := by decide +kernel
theorem dX11_floodIfOpen_17 : decode cX11_floodIfOpen 17 = .ok (.ifCond .le 38, 3) := by decide +kernel
theorem dX11_floodIfOpen_20 : decode cX11_floodIfOpen 20 = .ok (.aload_n 0, 1) := by decide +kernel
theorem dX11_floodIfOpen_21 : decode cX11_floodIfOpen 21 = .ok (.getfield 49, 3) := by decide +kernel
theorem dX11_floodIfOpen_24 : decode cX11_floodIfOpen 24 = .ok (.aload_n 0, 1) := by decide +kernel
theorem dX11_floodIfOpen_25 : decode cX11_floodIfOpen 25 = .ok (.getfield 10, 3) := by decide +kernel
theorem dX11_floodIfOpen_28 : decode cX11_floodIfOpen 28 = .ok (.invokevirtual 175, 3) := by decide +kernel
theorem dX11_floodIfOpen_31 : decode cX11_floodIfOpen 31 = .ok (.ifCond .ne 24, 3) := by decide +kernel
theorem dX11_floodIfOpen_34 : decode cX11_floodIfOpen 34 = .ok (.aload_n 0, 1) := by decide +kernel
theorem dX11_floodIfOpen_35 : decode cX11_floodIfOpen 35 = .ok (.getfield 10, 3) := by decide +kernel
theorem dX11_floodIfOpen_38 : decode cX11_floodIfOpen 38 = .ok (.iconst 1, 1) := by decide +kernel
theorem dX11_floodIfOpen_39 : decode cX11_floodIfOpen 39 = .ok (.putfield 206, 3) := by decide +kernel
theorem dX11_floodIfOpen_42 : decode cX11_floodIfOpen 42 = .ok (.aload_n 0, 1) := by decide +kernel
theorem dX11_floodIfOpen_43 : decode cX11_floodIfOpen 43 = .ok (.getfield 10, 3) := by decide +kernel
theorem dX11_floodIfOpen_46 : decode cX11_floodIfOpen 46 = .ok (.dup, 1) := by decide +kernel
theorem dX11_floodIfOpen_47 : decode cX11_floodIfOpen 47 = .ok (.getfield 282, 3) := by decide +kernel
theorem dX11_floodIfOpen_50 : decode cX11_floodIfOpen 50 = .ok (.iconst 1, 1) := by decide +kernel
theorem dX11_floodIfOpen_51 : decode cX11_floodIfOpen 51 = .ok (.iadd, 1) := by decide +kernel
theorem dX11_floodIfOpen_52 : decode cX11_floodIfOpen 52 = .ok (.putfield 282, 3) := by decide +kernel
theorem dX11_floodIfOpen_55 : decode cX11_floodIfOpen 55 = .ok (.return_, 1) := by decide +kernel
theorem cw_X11_floodIfOpen_175 : CwV mi_X11_floodIfOpen mi_X10_isShut yX10_isShut RX10 175 1 := ⟨⟨w_846, w_847, w_848, w_105, w_849⟩, ⟨by decide, by decide⟩, by decide +kernel, by decide, by decide⟩
theorem ct_X11_floodIfOpen {l : Launch} {Γ : Am} (r0 : Nat) (z : Hp) : Ct l Γ yX11_floodIfOpen mi_X11_floodIfOpen cvV [.ref (mB Γ + r0)] z (m_X11_floodIfOpen r0 z) := by
  refine Ct.ofJ (by decide) ⟨rfl, rfl⟩ (Nat.le_of_ble_eq_true rfl) ?_
  unfold m_X11_floodIfOpen
  show J l Γ mi_X11_floodIfOpen cvV 0 0 0 [(0, .ref (mB Γ + r0))] [] z _
  refine j_aload_n (pc := 0) 0 dX11_floodIfOpen_0 rfl rfl ?_
  refine j_getR (pc := 1) ok_X11 (by decide) rfl w_529 dX11_floodIfOpen_1 (fun a1 => ?_)
  refine j_getI (pc := 4) ok_X8 (by decide) rfl w_337 dX11_floodIfOpen_4 (fun x2 => ?_)
  refine j_if_ne (pc := 7) 55 dX11_floodIfOpen_7 (by decide) ?_ ?_
  · exact j_return (pc := 55) dX11_floodIfOpen_55 rfl
  refine j_aload_n (pc := 10) 0 dX11_floodIfOpen_10 rfl rfl ?_
  refine j_getR (pc := 11) ok_X11 (by decide) rfl w_529 dX11_floodIfOpen_11 (fun a3 => ?_)
  refine j_getI (pc := 14) ok_X8 (by decide) rfl w_325 dX11_floodIfOpen_14 (fun x4 => ?_)
  refine j_if_le (pc := 17) 55 dX11_floodIfOpen_17 (by decide) ?_ ?_
  · exact j_return (pc := 55) dX11_floodIfOpen_55 rfl
  refine j_aload_n (pc := 20) 0 dX11_floodIfOpen_20 rfl rfl ?_
  refine j_getR (pc := 21) ok_X11 (by decide) rfl w_535 dX11_floodIfOpen_21 (fun a5 => ?_)
  refine j_aload_n (pc := 24) 0 dX11_floodIfOpen_24 rfl rfl ?_
  refine j_getR (pc := 25) ok_X11 (by decide) rfl w_529 dX11_floodIfOpen_25 (fun a6 => ?_)
  refine j_isC (fun h9 => ?_)
  refine j_callV_I (pc := 28) (as := [.ref (mB Γ + a6)]) (mc2 := 0) (ms2 := 0) (ct_X10_isShut _ _ _) h9 rfl cw_X11_floodIfOpen_175 dX11_floodIfOpen_28 (Nat.le_of_ble_eq_true rfl) rfl (by decide) (by decide) (fun x8 z7 => ?_)
  refine j_if_ne (pc := 31) 55 dX11_floodIfOpen_31 (by decide) ?_ ?_
  · exact j_return (pc := 55) dX11_floodIfOpen_55 rfl
  refine j_aload_n (pc := 34) 0 dX11_floodIfOpen_34 rfl rfl ?_
  refine j_getR (pc := 35) ok_X11 (by decide) rfl w_529 dX11_floodIfOpen_35 (fun a10 => ?_)
  refine j_iconst (pc := 38) (v := 1) dX11_floodIfOpen_38 (by decide) ?_
  refine j_putI (pc := 39) ok_X8 (by decide) rfl w_337 (Or.inl rfl) rfl rfl dX11_floodIfOpen_39 (fun z11 => ?_)
  refine j_aload_n (pc := 42) 0 dX11_floodIfOpen_42 rfl rfl ?_
  refine j_getR (pc := 43) ok_X11 (by decide) rfl w_529 dX11_floodIfOpen_43 (fun a12 => ?_)
  refine j_dup (pc := 46) dX11_floodIfOpen_46 rfl ?_
  refine j_getI (pc := 47) ok_X8 (by decide) rfl w_339 dX11_floodIfOpen_47 (fun x13 => ?_)
  refine j_iconst (pc := 50) (v := 1) dX11_floodIfOpen_50 (by decide) ?_
  refine j_iadd (pc := 51) dX11_floodIfOpen_51 ?_
  refine j_putI (pc := 52) ok_X8 (by decide) rfl w_339 (Or.inl rfl) rfl rfl dX11_floodIfOpen_52 (fun z14 => ?_)
  exact j_return (pc := 55) dX11_floodIfOpen_55 rfl
theorem dX11_tick_0 : decode cX11_tick 0 = .ok (.iload_n 1, 1) := by decide +kernel
theorem dX11_tick_1 : decode cX11_tick 1 = .ok (.iconst 1, 1) := by decide +kernel
theorem dX11_tick_2 : decode cX11_tick 2 = .ok (.if_icmp .lt 9, 3) := by decide +kernel
theorem dX11_tick_5 : decode cX11_tick 5 = .ok (.iload_n 1, 1) := by decide +kernel
theorem dX11_tick_6 : decode cX11_tick 6 = .ok (.bipush 40, 2) := by decide +kernel
theorem dX11_tick_8 : decode cX11_tick 8 = .ok (.if_icmp .le 6, 3) := by decide +kernel
theorem dX11_tick_11 : decode cX11_tick 11 = .ok (.bipush (-2), 2) := by decide +kernel
theorem dX11_tick_13 : decode cX11_tick 13 = .ok (.ireturn, 1) := by decide +kernel
theorem dX11_tick_14 : decode cX11_tick 14 = .ok (.aload_n 0, 1) := by decide +kernel
theorem dX11_tick_15 : decode cX11_tick 15 = .ok (.getfield 10, 3) := by decide +kernel
theorem dX11_tick_18 : decode cX11_tick 18 = .ok (.getfield 103, 3) := by decide +kernel
theorem dX11_tick_21 : decode cX11_tick 21 = .ok (.iload_n 1, 1) := by decide +kernel
theorem dX11_tick_22 : decode cX11_tick 22 = .ok (.iadd, 1) := by decide +kernel
theorem dX11_tick_23 : decode cX11_tick 23 = .ok (.sipush 2000, 3) := by decide +kernel
theorem dX11_tick_26 : decode cX11_tick 26 = .ok (.if_icmp .le 6, 3) := by decide +kernel
theorem dX11_tick_29 : decode cX11_tick 29 = .ok (.bipush (-3), 2) := by decide +kernel
theorem dX11_tick_31 : decode cX11_tick 31 = .ok (.ireturn, 1) := by decide +kernel
theorem dX11_tick_32 : decode cX11_tick 32 = .ok (.iconst 0, 1) := by decide +kernel
theorem dX11_tick_33 : decode cX11_tick 33 = .ok (.istore_n 2, 1) := by decide +kernel
theorem dX11_tick_34 : decode cX11_tick 34 = .ok (.iload_n 2, 1) := by decide +kernel
theorem dX11_tick_35 : decode cX11_tick 35 = .ok (.iload_n 1, 1) := by decide +kernel
theorem dX11_tick_36 : decode cX11_tick 36 = .ok (.if_icmp .ge 31, 3) := by decide +kernel
theorem dX11_tick_39 : decode cX11_tick 39 = .ok (.aload_n 0, 1) := by decide +kernel
theorem dX11_tick_40 : decode cX11_tick 40 = .ok (.getfield 42, 3) := by decide +kernel
theorem dX11_tick_43 : decode cX11_tick 43 = .ok (.aload_n 0, 1) := by decide +kernel
theorem dX11_tick_44 : decode cX11_tick 44 = .ok (.getfield 10, 3) := by decide +kernel
theorem dX11_tick_47 : decode cX11_tick 47 = .ok (.invokevirtual 106, 3) := by decide +kernel
theorem dX11_tick_50 : decode cX11_tick 50 = .ok (.aload_n 0, 1) := by decide +kernel
theorem dX11_tick_51 : decode cX11_tick 51 = .ok (.invokevirtual 109, 3) := by decide +kernel
theorem dX11_tick_54 : decode cX11_tick 54 = .ok (.aload_n 0, 1) := by decide +kernel
theorem dX11_tick_55 : decode cX11_tick 55 = .ok (.getfield 10, 3) := by decide +kernel
theorem dX11_tick_58 : decode cX11_tick 58 = .ok (.invokevirtual 112, 3) := by decide +kernel
theorem dX11_tick_61 : decode cX11_tick 61 = .ok (.iinc 2 1, 3) := by decide +kernel
theorem dX11_tick_64 : decode cX11_tick 64 = .ok (.goto (-30), 3) := by decide +kernel
theorem dX11_tick_67 : decode cX11_tick 67 = .ok (.aload_n 0, 1) := by decide +kernel
theorem dX11_tick_68 : decode cX11_tick 68 = .ok (.getfield 10, 3) := by decide +kernel
theorem dX11_tick_71 : decode cX11_tick 71 = .ok (.getfield 103, 3) := by decide +kernel
theorem dX11_tick_74 : decode cX11_tick 74 = .ok (.ireturn, 1) := by decide +kernel
theorem cw_X11_tick_106 : CwV mi_X11_tick mi_X9_pass yX9_pass RX9 106 1 := ⟨⟨w_792, w_793, w_794, w_104, w_795⟩, ⟨by decide, by decide⟩, by decide +kernel, by decide, by decide⟩
theorem cw_X11_tick_109 : CwV mi_X11_tick mi_X11_floodIfOpen yX11_floodIfOpen RX11 109 0 := ⟨⟨w_842, w_844, w_24, w_95, w_845⟩, ⟨by decide, by decide⟩, by decide +kernel, by decide, by decide⟩
theorem cw_X11_tick_112 : CwV mi_X11_tick mi_X8_crackHouses yX8_crackHouses RX8 112 0 := ⟨⟨w_870, w_871, w_872, w_96, w_873⟩, ⟨by decide, by decide⟩, by decide +kernel, by decide, by decide⟩
theorem j_X11_tick_B67 {l : Launch} {Γ : Am}   : ∀ (r0 : Nat) (z : Hp), J l Γ mi_X11_tick cvI 0 0 67 [(0, .ref (mB Γ + r0))] [] z (m_X11_tick_B67  r0 z) := by
  intro r0 z
  unfold m_X11_tick_B67
  refine j_aload_n (pc := 67) 0 dX11_tick_67 rfl rfl ?_
  refine j_getR (pc := 68) ok_X11 (by decide) rfl w_529 dX11_tick_68 (fun a1 => ?_)
  refine j_getI (pc := 71) ok_X8 (by decide) rfl w_335 dX11_tick_71 (fun x2 => ?_)
  exact j_ireturn (pc := 74) dX11_tick_74 rfl rfl
theorem j_X11_tick_L34 {l : Launch} {Γ : Am} {k67 : Nat → Hp → Option (Int32 × Hp)} (hL67 : ∀ (r0 : Nat) (z : Hp), J l Γ mi_X11_tick cvI 0 0 67 [(0, .ref (mB Γ + r0))] [] z (k67 r0 z)) : ∀ (f : Nat), ∀ (r0 : Nat) (v1 : Int32) (v2 : Int32) (z : Hp), J l Γ mi_X11_tick cvI 0 0 34 [(0, .ref (mB Γ + r0)), (1, .int v1), (2, .int v2)] [] z (m_X11_tick_L34 k67 f r0 v1 v2 z) := by
  intro f
  induction f with
  | zero => intro r0 v1 v2 z; exact J.none
  | succ f hL34 =>
    intro r0 v1 v2 z
    rw [m_X11_tick_L34]
    refine j_iload_n (pc := 34) 2 dX11_tick_34 rfl rfl ?_
    refine j_iload_n (pc := 35) 1 dX11_tick_35 rfl rfl ?_
    refine j_icmp_ge (pc := 36) 67 dX11_tick_36 (by decide) ?_ ?_
    · exact J.sub [0] rfl (hL67 r0 z)
    refine j_aload_n (pc := 39) 0 dX11_tick_39 rfl rfl ?_
    refine j_getR (pc := 40) ok_X11 (by decide) rfl w_534 dX11_tick_40 (fun a3 => ?_)
    refine j_aload_n (pc := 43) 0 dX11_tick_43 rfl rfl ?_
    refine j_getR (pc := 44) ok_X11 (by decide) rfl w_529 dX11_tick_44 (fun a4 => ?_)
    refine j_isC (fun h6 => ?_)
    refine j_callV_V (pc := 47) (as := [.ref (mB Γ + a4)]) (mc2 := 0) (ms2 := 0) (ct_X9_pass _ _ _) h6 rfl cw_X11_tick_106 dX11_tick_47 (Nat.le_of_ble_eq_true rfl) rfl (by decide) (by decide) (fun _ z5 => ?_)
    refine j_aload_n (pc := 50) 0 dX11_tick_50 rfl rfl ?_
    refine j_isC (fun h8 => ?_)
    refine j_callV_V (pc := 51) (as := []) (mc2 := 0) (ms2 := 0) (ct_X11_floodIfOpen _ _) h8 rfl cw_X11_tick_109 dX11_tick_51 (Nat.le_of_ble_eq_true rfl) rfl (by decide) (by decide) (fun _ z7 => ?_)
    refine j_aload_n (pc := 54) 0 dX11_tick_54 rfl rfl ?_
    refine j_getR (pc := 55) ok_X11 (by decide) rfl w_529 dX11_tick_55 (fun a9 => ?_)
    refine j_isC (fun h11 => ?_)
    refine j_callV_V (pc := 58) (as := []) (mc2 := 0) (ms2 := 0) (ct_X8_crackHouses _ _) h11 rfl cw_X11_tick_112 dX11_tick_58 (Nat.le_of_ble_eq_true rfl) rfl (by decide) (by decide) (fun _ z10 => ?_)
    refine j_iinc (pc := 61) (n0 := 2) (v0 := v2 + 1) (lv2 := [(2, .int (v2 + 1)), (0, .ref (mB Γ + r0)), (1, .int v1)]) dX11_tick_61 rfl rfl (by decide) rfl ?_
    refine j_goto (pc := 64) 34 dX11_tick_64 (by decide) ?_
    exact J.sub [1, 2, 0] rfl (hL34 r0 v1 (v2 + 1) z10)
theorem ct_X11_tick {l : Launch} {Γ : Am} (r0 : Nat) (v1 : Int32) (z : Hp) : Ct l Γ yX11_tick mi_X11_tick cvI [.ref (mB Γ + r0), .int v1] z (m_X11_tick r0 v1 z) := by
  refine Ct.ofJ (by decide) ⟨rfl, rfl⟩ (Nat.le_of_ble_eq_true rfl) ?_
  unfold m_X11_tick
  show J l Γ mi_X11_tick cvI 0 0 0 [(0, .ref (mB Γ + r0)), (1, .int v1)] [] z _
  refine j_iload_n (pc := 0) 1 dX11_tick_0 rfl rfl ?_
  refine j_iconst (pc := 1) (v := 1) dX11_tick_1 (by decide) ?_
  refine j_icmp_lt (pc := 2) 11 dX11_tick_2 (by decide) ?_ ?_
  · refine j_bipush (pc := 11) (v := (-2)) dX11_tick_11 (by decide) ?_
    exact j_ireturn (pc := 13) dX11_tick_13 rfl rfl
  refine j_iload_n (pc := 5) 1 dX11_tick_5 rfl rfl ?_
  refine j_bipush (pc := 6) (v := 40) dX11_tick_6 (by decide) ?_
  refine j_icmp_le (pc := 8) 14 dX11_tick_8 (by decide) ?_ ?_
  · refine j_aload_n (pc := 14) 0 dX11_tick_14 rfl rfl ?_
    refine j_getR (pc := 15) ok_X11 (by decide) rfl w_529 dX11_tick_15 (fun a12 => ?_)
    refine j_getI (pc := 18) ok_X8 (by decide) rfl w_335 dX11_tick_18 (fun x13 => ?_)
    refine j_iload_n (pc := 21) 1 dX11_tick_21 rfl rfl ?_
    refine j_iadd (pc := 22) dX11_tick_22 ?_
    refine j_sipush (pc := 23) (v := 2000) dX11_tick_23 (by decide) ?_
    refine j_icmp_le (pc := 26) 32 dX11_tick_26 (by decide) ?_ ?_
    · refine j_iconst (pc := 32) (v := 0) dX11_tick_32 (by decide) ?_
      refine j_istore_n (pc := 33) (lv2 := [(2, .int 0), (0, .ref (mB Γ + r0)), (1, .int v1)]) dX11_tick_33 rfl (by decide) rfl ?_
      exact J.sub [1, 2, 0] rfl ((j_X11_tick_L34 j_X11_tick_B67 FU) r0 v1 0 z)
    refine j_bipush (pc := 29) (v := (-3)) dX11_tick_29 (by decide) ?_
    exact j_ireturn (pc := 31) dX11_tick_31 rfl rfl
  refine j_bipush (pc := 11) (v := (-2)) dX11_tick_11 (by decide) ?_
  exact j_ireturn (pc := 13) dX11_tick_13 rfl rfl
theorem dX11_isCell_0 : decode cX11_isCell 0 = .ok (.iload_n 0, 1) := by decide +kernel
theorem dX11_isCell_1 : decode cX11_isCell 1 = .ok (.ifCond .lt 23, 3) := by decide +kernel
theorem dX11_isCell_4 : decode cX11_isCell 4 = .ok (.iload_n 0, 1) := by decide +kernel
theorem dX11_isCell_5 : decode cX11_isCell 5 = .ok (.bipush 12, 2) := by decide +kernel
theorem dX11_isCell_7 : decode cX11_isCell 7 = .ok (.if_icmp .ge 17, 3) := by decide +kernel
theorem dX11_isCell_10 : decode cX11_isCell 10 = .ok (.iload_n 1, 1) := by decide +kernel
theorem dX11_isCell_11 : decode cX11_isCell 11 = .ok (.ifCond .lt 13, 3) := by decide +kernel
theorem dX11_isCell_14 : decode cX11_isCell 14 = .ok (.iload_n 1, 1) := by decide +kernel
theorem dX11_isCell_15 : decode cX11_isCell 15 = .ok (.bipush 12, 2) := by decide +kernel
theorem dX11_isCell_17 : decode cX11_isCell 17 = .ok (.if_icmp .ge 7, 3) := by decide +kernel
theorem dX11_isCell_20 : decode cX11_isCell 20 = .ok (.iconst 1, 1) := by decide +kernel
theorem dX11_isCell_21 : decode cX11_isCell 21 = .ok (.goto 4, 3) := by decide +kernel
theorem dX11_isCell_24 : decode cX11_isCell 24 = .ok (.iconst 0, 1) := by decide +kernel
theorem dX11_isCell_25 : decode cX11_isCell 25 = .ok (.ireturn, 1) := by decide +kernel
theorem ct_X11_isCell {l : Launch} {Γ : Am} (v0 : Int32) (v1 : Int32) (z : Hp) : Ct l Γ yX11_isCell mi_X11_isCell cvI [.int v0, .int v1] z (m_X11_isCell v0 v1 z) := by
  refine Ct.ofJ (by decide) ⟨rfl, rfl⟩ (Nat.le_of_ble_eq_true rfl) ?_
  unfold m_X11_isCell
  show J l Γ mi_X11_isCell cvI 0 0 0 [(0, .int v0), (1, .int v1)] [] z _
  refine j_iload_n (pc := 0) 0 dX11_isCell_0 rfl rfl ?_
  refine j_if_lt (pc := 1) 24 dX11_isCell_1 (by decide) ?_ ?_
  · refine j_iconst (pc := 24) (v := 0) dX11_isCell_24 (by decide) ?_
    exact j_ireturn (pc := 25) dX11_isCell_25 rfl rfl
  refine j_iload_n (pc := 4) 0 dX11_isCell_4 rfl rfl ?_
  refine j_bipush (pc := 5) (v := 12) dX11_isCell_5 (by decide) ?_
  refine j_icmp_ge (pc := 7) 24 dX11_isCell_7 (by decide) ?_ ?_
  · refine j_iconst (pc := 24) (v := 0) dX11_isCell_24 (by decide) ?_
    exact j_ireturn (pc := 25) dX11_isCell_25 rfl rfl
  refine j_iload_n (pc := 10) 1 dX11_isCell_10 rfl rfl ?_
  refine j_if_lt (pc := 11) 24 dX11_isCell_11 (by decide) ?_ ?_
  · refine j_iconst (pc := 24) (v := 0) dX11_isCell_24 (by decide) ?_
    exact j_ireturn (pc := 25) dX11_isCell_25 rfl rfl
  refine j_iload_n (pc := 14) 1 dX11_isCell_14 rfl rfl ?_
  refine j_bipush (pc := 15) (v := 12) dX11_isCell_15 (by decide) ?_
  refine j_icmp_ge (pc := 17) 24 dX11_isCell_17 (by decide) ?_ ?_
  · refine j_iconst (pc := 24) (v := 0) dX11_isCell_24 (by decide) ?_
    exact j_ireturn (pc := 25) dX11_isCell_25 rfl rfl
  refine j_iconst (pc := 20) (v := 1) dX11_isCell_20 (by decide) ?_
  refine j_goto (pc := 21) 25 dX11_isCell_21 (by decide) ?_
  exact j_ireturn (pc := 25) dX11_isCell_25 rfl rfl
theorem dX11_cell_0 : decode cX11_cell 0 = .ok (.iload_n 1, 1) := by decide +kernel
theorem dX11_cell_1 : decode cX11_cell 1 = .ok (.iload_n 2, 1) := by decide +kernel
theorem dX11_cell_2 : decode cX11_cell 2 = .ok (.invokestatic 115, 3) := by decide +kernel
theorem dX11_cell_5 : decode cX11_cell 5 = .ok (.ifCond .ne 6, 3) := by decide +kernel
theorem dX11_cell_8 : decode cX11_cell 8 = .ok (.ldc 119, 2) := by decide +kernel
theorem dX11_cell_10 : decode cX11_cell 10 = .ok (.ireturn, 1) := by decide +kernel
theorem dX11_cell_11 : decode cX11_cell 11 = .ok (.bipush 12, 2) := by decide +kernel
theorem dX11_cell_13 : decode cX11_cell 13 = .ok (.iload_n 2, 1) := by decide +kernel
theorem dX11_cell_14 : decode cX11_cell 14 = .ok (.imul, 1) := by decide +kernel
theorem dX11_cell_15 : decode cX11_cell 15 = .ok (.iload_n 1, 1) := by decide +kernel
theorem dX11_cell_16 : decode cX11_cell 16 = .ok (.iadd, 1) := by decide +kernel
theorem dX11_cell_17 : decode cX11_cell 17 = .ok (.istore 4, 2) := by decide +kernel
theorem dX11_cell_19 : decode cX11_cell 19 = .ok (.iload_n 3, 1) := by decide +kernel
theorem dX11_cell_20 : decode cX11_cell 20 = .ok (.tableswitch 110 0 5 #[40, 54, 65, 76, 86, 99], 40) := by decide +kernel
theorem dX11_cell_60 : decode cX11_cell 60 = .ok (.aload_n 0, 1) := by decide +kernel
theorem dX11_cell_61 : decode cX11_cell 61 = .ok (.getfield 10, 3) := by decide +kernel
theorem dX11_cell_64 : decode cX11_cell 64 = .ok (.getfield 120, 3) := by decide +kernel
theorem dX11_cell_67 : decode cX11_cell 67 = .ok (.getfield 124, 3) := by decide +kernel
theorem dX11_cell_70 : decode cX11_cell 70 = .ok (.iload 4, 2) := by decide +kernel
theorem dX11_cell_72 : decode cX11_cell 72 = .ok (.iaload, 1) := by decide +kernel
theorem dX11_cell_73 : decode cX11_cell 73 = .ok (.ireturn, 1) := by decide +kernel
theorem dX11_cell_74 : decode cX11_cell 74 = .ok (.aload_n 0, 1) := by decide +kernel
theorem dX11_cell_75 : decode cX11_cell 75 = .ok (.getfield 10, 3) := by decide +kernel
theorem dX11_cell_78 : decode cX11_cell 78 = .ok (.getfield 129, 3) := by decide +kernel
theorem dX11_cell_81 : decode cX11_cell 81 = .ok (.iload 4, 2) := by decide +kernel
theorem dX11_cell_83 : decode cX11_cell 83 = .ok (.iaload, 1) := by decide +kernel
theorem dX11_cell_84 : decode cX11_cell 84 = .ok (.ireturn, 1) := by decide +kernel
theorem dX11_cell_85 : decode cX11_cell 85 = .ok (.aload_n 0, 1) := by decide +kernel
theorem dX11_cell_86 : decode cX11_cell 86 = .ok (.getfield 10, 3) := by decide +kernel
theorem dX11_cell_89 : decode cX11_cell 89 = .ok (.getfield 132, 3) := by decide +kernel
theorem dX11_cell_92 : decode cX11_cell 92 = .ok (.iload 4, 2) := by decide +kernel
theorem dX11_cell_94 : decode cX11_cell 94 = .ok (.iaload, 1) := by decide +kernel
theorem dX11_cell_95 : decode cX11_cell 95 = .ok (.ireturn, 1) := by decide +kernel
theorem dX11_cell_96 : decode cX11_cell 96 = .ok (.aload_n 0, 1) := by decide +kernel
theorem dX11_cell_97 : decode cX11_cell 97 = .ok (.getfield 10, 3) := by decide +kernel
theorem dX11_cell_100 : decode cX11_cell 100 = .ok (.iload 4, 2) := by decide +kernel
theorem dX11_cell_102 : decode cX11_cell 102 = .ok (.invokevirtual 135, 3) := by decide +kernel
theorem dX11_cell_105 : decode cX11_cell 105 = .ok (.ireturn, 1) := by decide +kernel
theorem dX11_cell_106 : decode cX11_cell 106 = .ok (.aload_n 0, 1) := by decide +kernel
theorem dX11_cell_107 : decode cX11_cell 107 = .ok (.getfield 10, 3) := by decide +kernel
theorem dX11_cell_110 : decode cX11_cell 110 = .ok (.getfield 139, 3) := by decide +kernel
theorem dX11_cell_113 : decode cX11_cell 113 = .ok (.iload 4, 2) := by decide +kernel
theorem dX11_cell_115 : decode cX11_cell 115 = .ok (.invokevirtual 143, 3) := by decide +kernel
theorem dX11_cell_118 : decode cX11_cell 118 = .ok (.ireturn, 1) := by decide +kernel
theorem dX11_cell_119 : decode cX11_cell 119 = .ok (.aload_n 0, 1) := by decide +kernel
theorem dX11_cell_120 : decode cX11_cell 120 = .ok (.getfield 10, 3) := by decide +kernel
theorem dX11_cell_123 : decode cX11_cell 123 = .ok (.getfield 148, 3) := by decide +kernel
theorem dX11_cell_126 : decode cX11_cell 126 = .ok (.iload 4, 2) := by decide +kernel
theorem dX11_cell_128 : decode cX11_cell 128 = .ok (.iaload, 1) := by decide +kernel
theorem dX11_cell_129 : decode cX11_cell 129 = .ok (.ireturn, 1) := by decide +kernel
theorem dX11_cell_130 : decode cX11_cell 130 = .ok (.ldc 119, 2) := by decide +kernel
theorem dX11_cell_132 : decode cX11_cell 132 = .ok (.ireturn, 1) := by decide +kernel
theorem cw_X11_cell_115 : CwS mi_X11_cell mi_X11_isCell yX11_isCell 115 2 := ⟨⟨w_885, w_886, w_95, w_887⟩, ⟨by decide, by decide⟩, by decide +kernel, by decide, by decide⟩
theorem cw_X11_cell_135 : CwV mi_X11_cell mi_X8_condition yX8_condition RX8 135 1 := ⟨⟨w_889, w_890, w_891, w_96, w_892⟩, ⟨by decide, by decide⟩, by decide +kernel, by decide, by decide⟩
theorem cw_X11_cell_143 : CwV mi_X11_cell mi_X3_standingIn yX3_standingIn RX3 143 1 := ⟨⟨w_894, w_723, w_724, w_98, w_725⟩, ⟨by decide, by decide⟩, by decide +kernel, by decide, by decide⟩
theorem ct_X11_cell {l : Launch} {Γ : Am} (r0 : Nat) (v1 : Int32) (v2 : Int32) (v3 : Int32) (z : Hp) : Ct l Γ yX11_cell mi_X11_cell cvI [.ref (mB Γ + r0), .int v1, .int v2, .int v3] z (m_X11_cell r0 v1 v2 v3 z) := by
  refine Ct.ofJ (by decide) ⟨rfl, rfl⟩ (Nat.le_of_ble_eq_true rfl) ?_
  unfold m_X11_cell
  show J l Γ mi_X11_cell cvI 0 0 0 [(0, .ref (mB Γ + r0)), (1, .int v1), (2, .int v2), (3, .int v3)] [] z _
  refine j_iload_n (pc := 0) 1 dX11_cell_0 rfl rfl ?_
  refine j_iload_n (pc := 1) 2 dX11_cell_1 rfl rfl ?_
  refine j_callS_I (pc := 2) (as := [.int v1, .int v2]) (mc2 := 0) (ms2 := 0) (ct_X11_isCell _ _ _) cw_X11_cell_115 dX11_cell_2 (Nat.le_of_ble_eq_true rfl) rfl (by decide) (by decide) (fun x2 z1 => ?_)
  refine j_if_ne (pc := 5) 11 dX11_cell_5 (by decide) ?_ ?_
  · refine j_bipush (pc := 11) (v := 12) dX11_cell_11 (by decide) ?_
    refine j_iload_n (pc := 13) 2 dX11_cell_13 rfl rfl ?_
    refine j_imul (pc := 14) dX11_cell_14 ?_
    refine j_iload_n (pc := 15) 1 dX11_cell_15 rfl rfl ?_
    refine j_iadd (pc := 16) dX11_cell_16 ?_
    refine j_istore (pc := 17) (lv2 := [(4, .int ((12 * v2) + v1)), (0, .ref (mB Γ + r0)), (1, .int v1), (2, .int v2), (3, .int v3)]) dX11_cell_17 (by decide) rfl ?_
    refine j_iload_n (pc := 19) 4 dX11_cell_19 rfl rfl ?_
    refine j_ite (fun h7 => ?_) (fun h7 => ?_)
    · refine j_case (pc := 20) 60 dX11_cell_20 h7 (by decide) rfl (by decide) ?_
      refine j_aload_n (pc := 60) 1 dX11_cell_60 rfl rfl ?_
      refine j_getR (pc := 61) ok_X11 (by decide) rfl w_529 dX11_cell_61 (fun a3 => ?_)
      refine j_getR (pc := 64) ok_X8 (by decide) rfl w_292 dX11_cell_64 (fun a4 => ?_)
      refine j_getR (pc := 67) ok_X7 (by decide) rfl w_153 dX11_cell_67 (fun a5 => ?_)
      refine j_iload (pc := 70) 0 dX11_cell_70 rfl ?_
      refine j_iaload (pc := 72) dX11_cell_72 (fun x6 => ?_)
      exact j_ireturn (pc := 73) dX11_cell_73 rfl rfl
    refine j_ite (fun h11 => ?_) (fun h11 => ?_)
    · refine j_case (pc := 20) 74 dX11_cell_20 h11 (by decide) rfl (by decide) ?_
      refine j_aload_n (pc := 74) 1 dX11_cell_74 rfl rfl ?_
      refine j_getR (pc := 75) ok_X11 (by decide) rfl w_529 dX11_cell_75 (fun a8 => ?_)
      refine j_getR (pc := 78) ok_X8 (by decide) rfl w_307 dX11_cell_78 (fun a9 => ?_)
      refine j_iload (pc := 81) 0 dX11_cell_81 rfl ?_
      refine j_iaload (pc := 83) dX11_cell_83 (fun x10 => ?_)
      exact j_ireturn (pc := 84) dX11_cell_84 rfl rfl
    refine j_ite (fun h15 => ?_) (fun h15 => ?_)
    · refine j_case (pc := 20) 85 dX11_cell_20 h15 (by decide) rfl (by decide) ?_
      refine j_aload_n (pc := 85) 1 dX11_cell_85 rfl rfl ?_
      refine j_getR (pc := 86) ok_X11 (by decide) rfl w_529 dX11_cell_86 (fun a12 => ?_)
      refine j_getR (pc := 89) ok_X8 (by decide) rfl w_309 dX11_cell_89 (fun a13 => ?_)
      refine j_iload (pc := 92) 0 dX11_cell_92 rfl ?_
      refine j_iaload (pc := 94) dX11_cell_94 (fun x14 => ?_)
      exact j_ireturn (pc := 95) dX11_cell_95 rfl rfl
    refine j_ite (fun h20 => ?_) (fun h20 => ?_)
    · refine j_case (pc := 20) 96 dX11_cell_20 h20 (by decide) rfl (by decide) ?_
      refine j_aload_n (pc := 96) 1 dX11_cell_96 rfl rfl ?_
      refine j_getR (pc := 97) ok_X11 (by decide) rfl w_529 dX11_cell_97 (fun a16 => ?_)
      refine j_iload (pc := 100) 0 dX11_cell_100 rfl ?_
      refine j_isC (fun h19 => ?_)
      refine j_callV_I (pc := 102) (as := [.int ((12 * v2) + v1)]) (mc2 := 0) (ms2 := 0) (ct_X8_condition _ _ _) h19 rfl cw_X11_cell_135 dX11_cell_102 (Nat.le_of_ble_eq_true rfl) rfl (by decide) (by decide) (fun x18 z17 => ?_)
      exact j_ireturn (pc := 105) dX11_cell_105 rfl rfl
    refine j_ite (fun h26 => ?_) (fun h26 => ?_)
    · refine j_case (pc := 20) 106 dX11_cell_20 h26 (by decide) rfl (by decide) ?_
      refine j_aload_n (pc := 106) 1 dX11_cell_106 rfl rfl ?_
      refine j_getR (pc := 107) ok_X11 (by decide) rfl w_529 dX11_cell_107 (fun a21 => ?_)
      refine j_getR (pc := 110) ok_X8 (by decide) rfl w_295 dX11_cell_110 (fun a22 => ?_)
      refine j_iload (pc := 113) 0 dX11_cell_113 rfl ?_
      refine j_isC (fun h25 => ?_)
      refine j_callV_I (pc := 115) (as := [.int ((12 * v2) + v1)]) (mc2 := 0) (ms2 := 0) (ct_X3_standingIn _ _ _) h25 rfl cw_X11_cell_143 dX11_cell_115 (Nat.le_of_ble_eq_true rfl) rfl (by decide) (by decide) (fun x24 z23 => ?_)
      exact j_ireturn (pc := 118) dX11_cell_118 rfl rfl
    refine j_ite (fun h30 => ?_) (fun h30 => ?_)
    · refine j_case (pc := 20) 119 dX11_cell_20 h30 (by decide) rfl (by decide) ?_
      refine j_aload_n (pc := 119) 1 dX11_cell_119 rfl rfl ?_
      refine j_getR (pc := 120) ok_X11 (by decide) rfl w_529 dX11_cell_120 (fun a27 => ?_)
      refine j_getR (pc := 123) ok_X8 (by decide) rfl w_315 dX11_cell_123 (fun a28 => ?_)
      refine j_iload (pc := 126) 0 dX11_cell_126 rfl ?_
      refine j_iaload (pc := 128) dX11_cell_128 (fun x29 => ?_)
      exact j_ireturn (pc := 129) dX11_cell_129 rfl rfl
    refine j_dflt (pc := 20) 130 dX11_cell_20 (sw_out 6 (by decide) (fun k hk => ?_)) (by decide) ?_
    · match k, hk with
      | 0, _ => exact h7
      | 1, _ => exact h11
      | 2, _ => exact h15
      | 3, _ => exact h20
      | 4, _ => exact h26
      | 5, _ => exact h30
      | k + 6, hk => exact absurd hk (by omega)
    refine j_ldc (pc := 130) (v := (-2000000000)) dX11_cell_130 w_888 ?_
    exact j_ireturn (pc := 132) dX11_cell_132 rfl rfl
  refine j_ldc (pc := 8) (v := (-2000000000)) dX11_cell_8 w_888 ?_
  exact j_ireturn (pc := 10) dX11_cell_10 rfl rfl
theorem dX11_heat_0 : decode cX11_heat 0 = .ok (.iload_n 1, 1) := by decide +kernel
theorem dX11_heat_1 : decode cX11_heat 1 = .ok (.ifCond .ne 11, 3) := by decide +kernel
theorem dX11_heat_4 : decode cX11_heat 4 = .ok (.aload_n 0, 1) := by decide +kernel
theorem dX11_heat_5 : decode cX11_heat 5 = .ok (.getfield 10, 3) := by decide +kernel
theorem dX11_heat_8 : decode cX11_heat 8 = .ok (.invokevirtual 151, 3) := by decide +kernel
theorem dX11_heat_11 : decode cX11_heat 11 = .ok (.ireturn, 1) := by decide +kernel
theorem dX11_heat_12 : decode cX11_heat 12 = .ok (.iload_n 1, 1) := by decide +kernel
theorem dX11_heat_13 : decode cX11_heat 13 = .ok (.ifCond .le 21, 3) := by decide +kernel
theorem dX11_heat_16 : decode cX11_heat 16 = .ok (.iload_n 1, 1) := by decide +kernel
theorem dX11_heat_17 : decode cX11_heat 17 = .ok (.bipush 6, 2) := by decide +kernel
theorem dX11_heat_19 : decode cX11_heat 19 = .ok (.if_icmp .ge 15, 3) := by decide +kernel
theorem dX11_heat_22 : decode cX11_heat 22 = .ok (.aload_n 0, 1) := by decide +kernel
theorem dX11_heat_23 : decode cX11_heat 23 = .ok (.getfield 10, 3) := by decide +kernel
theorem dX11_heat_26 : decode cX11_heat 26 = .ok (.getfield 155, 3) := by decide +kernel
theorem dX11_heat_29 : decode cX11_heat 29 = .ok (.iload_n 1, 1) := by decide +kernel
theorem dX11_heat_30 : decode cX11_heat 30 = .ok (.iaload, 1) := by decide +kernel
theorem dX11_heat_31 : decode cX11_heat 31 = .ok (.goto 5, 3) := by decide +kernel
theorem dX11_heat_34 : decode cX11_heat 34 = .ok (.ldc 119, 2) := by decide +kernel
theorem dX11_heat_36 : decode cX11_heat 36 = .ok (.ireturn, 1) := by decide +kernel
theorem cw_X11_heat_151 : CwV mi_X11_heat mi_X8_heatOfAll yX8_heatOfAll RX8 151 0 := ⟨⟨w_899, w_900, w_901, w_96, w_902⟩, ⟨by decide, by decide⟩, by decide +kernel, by decide, by decide⟩
theorem ct_X11_heat {l : Launch} {Γ : Am} (r0 : Nat) (v1 : Int32) (z : Hp) : Ct l Γ yX11_heat mi_X11_heat cvI [.ref (mB Γ + r0), .int v1] z (m_X11_heat r0 v1 z) := by
  refine Ct.ofJ (by decide) ⟨rfl, rfl⟩ (Nat.le_of_ble_eq_true rfl) ?_
  unfold m_X11_heat
  show J l Γ mi_X11_heat cvI 0 0 0 [(0, .ref (mB Γ + r0)), (1, .int v1)] [] z _
  refine j_iload_n (pc := 0) 1 dX11_heat_0 rfl rfl ?_
  refine j_if_ne (pc := 1) 12 dX11_heat_1 (by decide) ?_ ?_
  · refine j_iload_n (pc := 12) 1 dX11_heat_12 rfl rfl ?_
    refine j_if_le (pc := 13) 34 dX11_heat_13 (by decide) ?_ ?_
    · refine j_ldc (pc := 34) (v := (-2000000000)) dX11_heat_34 w_888 ?_
      exact j_ireturn (pc := 36) dX11_heat_36 rfl rfl
    refine j_iload_n (pc := 16) 1 dX11_heat_16 rfl rfl ?_
    refine j_bipush (pc := 17) (v := 6) dX11_heat_17 (by decide) ?_
    refine j_icmp_ge (pc := 19) 34 dX11_heat_19 (by decide) ?_ ?_
    · refine j_ldc (pc := 34) (v := (-2000000000)) dX11_heat_34 w_888 ?_
      exact j_ireturn (pc := 36) dX11_heat_36 rfl rfl
    refine j_aload_n (pc := 22) 0 dX11_heat_22 rfl rfl ?_
    refine j_getR (pc := 23) ok_X11 (by decide) rfl w_529 dX11_heat_23 (fun a1 => ?_)
    refine j_getR (pc := 26) ok_X8 (by decide) rfl w_320 dX11_heat_26 (fun a2 => ?_)
    refine j_iload_n (pc := 29) 1 dX11_heat_29 rfl rfl ?_
    refine j_iaload (pc := 30) dX11_heat_30 (fun x3 => ?_)
    refine j_goto (pc := 31) 36 dX11_heat_31 (by decide) ?_
    exact j_ireturn (pc := 36) dX11_heat_36 rfl rfl
  refine j_aload_n (pc := 4) 0 dX11_heat_4 rfl rfl ?_
  refine j_getR (pc := 5) ok_X11 (by decide) rfl w_529 dX11_heat_5 (fun a4 => ?_)
  refine j_isC (fun h7 => ?_)
  refine j_callV_I (pc := 8) (as := []) (mc2 := 0) (ms2 := 0) (ct_X8_heatOfAll _ _) h7 rfl cw_X11_heat_151 dX11_heat_8 (Nat.le_of_ble_eq_true rfl) rfl (by decide) (by decide) (fun x6 z5 => ?_)
  exact j_ireturn (pc := 11) dX11_heat_11 rfl rfl
theorem dX11_run_0 : decode cX11_run 0 = .ok (.iload_n 1, 1) := by decide +kernel
theorem dX11_run_1 : decode cX11_run 1 = .ok (.ifCond .lt 17, 3) := by decide +kernel
theorem dX11_run_4 : decode cX11_run 4 = .ok (.iload_n 1, 1) := by decide +kernel
theorem dX11_run_5 : decode cX11_run 5 = .ok (.aload_n 0, 1) := by decide +kernel
theorem dX11_run_6 : decode cX11_run 6 = .ok (.getfield 10, 3) := by decide +kernel
theorem dX11_run_9 : decode cX11_run 9 = .ok (.getfield 139, 3) := by decide +kernel
theorem dX11_run_12 : decode cX11_run 12 = .ok (.getfield 158, 3) := by decide +kernel
theorem dX11_run_15 : decode cX11_run 15 = .ok (.if_icmp .lt 5, 3) := by decide +kernel
theorem dX11_run_18 : decode cX11_run 18 = .ok (.iconst 0, 1) := by decide +kernel
theorem dX11_run_19 : decode cX11_run 19 = .ok (.ireturn, 1) := by decide +kernel
theorem dX11_run_20 : decode cX11_run 20 = .ok (.iload_n 2, 1) := by decide +kernel
theorem dX11_run_21 : decode cX11_run 21 = .ok (.ifCond .eq 7, 3) := by decide +kernel
theorem dX11_run_24 : decode cX11_run 24 = .ok (.iconst 1, 1) := by decide +kernel
theorem dX11_run_25 : decode cX11_run 25 = .ok (.goto 4, 3) := by decide +kernel
theorem dX11_run_28 : decode cX11_run 28 = .ok (.iconst 0, 1) := by decide +kernel
theorem dX11_run_29 : decode cX11_run 29 = .ok (.istore_n 3, 1) := by decide +kernel
theorem dX11_run_30 : decode cX11_run 30 = .ok (.aload_n 0, 1) := by decide +kernel
theorem dX11_run_31 : decode cX11_run 31 = .ok (.getfield 10, 3) := by decide +kernel
theorem dX11_run_34 : decode cX11_run 34 = .ok (.getfield 139, 3) := by decide +kernel
theorem dX11_run_37 : decode cX11_run 37 = .ok (.getfield 161, 3) := by decide +kernel
theorem dX11_run_40 : decode cX11_run 40 = .ok (.iload_n 1, 1) := by decide +kernel
theorem dX11_run_41 : decode cX11_run 41 = .ok (.iaload, 1) := by decide +kernel
theorem dX11_run_42 : decode cX11_run 42 = .ok (.iload_n 3, 1) := by decide +kernel
theorem dX11_run_43 : decode cX11_run 43 = .ok (.if_icmp .eq 7, 3) := by decide +kernel
theorem dX11_run_46 : decode cX11_run 46 = .ok (.iconst 1, 1) := by decide +kernel
theorem dX11_run_47 : decode cX11_run 47 = .ok (.goto 4, 3) := by decide +kernel
theorem dX11_run_50 : decode cX11_run 50 = .ok (.iconst 0, 1) := by decide +kernel
theorem dX11_run_51 : decode cX11_run 51 = .ok (.istore 4, 2) := by decide +kernel
theorem dX11_run_53 : decode cX11_run 53 = .ok (.aload_n 0, 1) := by decide +kernel
theorem dX11_run_54 : decode cX11_run 54 = .ok (.getfield 10, 3) := by decide +kernel
theorem dX11_run_57 : decode cX11_run 57 = .ok (.getfield 139, 3) := by decide +kernel
theorem dX11_run_60 : decode cX11_run 60 = .ok (.getfield 161, 3) := by decide +kernel
theorem dX11_run_63 : decode cX11_run 63 = .ok (.iload_n 1, 1) := by decide +kernel
theorem dX11_run_64 : decode cX11_run 64 = .ok (.iload_n 3, 1) := by decide +kernel
theorem dX11_run_65 : decode cX11_run 65 = .ok (.iastore, 1) := by decide +kernel
theorem dX11_run_66 : decode cX11_run 66 = .ok (.iload 4, 2) := by decide +kernel
theorem dX11_run_68 : decode cX11_run 68 = .ok (.ireturn, 1) := by decide +kernel
theorem j_X11_run_B51 {l : Launch} {Γ : Am}   : ∀ (r0 : Nat) (v1 : Int32) (v3 : Int32) (t0 : Int32) (z : Hp), J l Γ mi_X11_run cvI 0 0 51 [(0, .ref (mB Γ + r0)), (1, .int v1), (3, .int v3)] [.int t0] z (m_X11_run_B51  r0 v1 v3 t0 z) := by
  intro r0 v1 v3 t0 z
  unfold m_X11_run_B51
  refine j_istore (pc := 51) (lv2 := [(4, .int t0), (0, .ref (mB Γ + r0)), (1, .int v1), (3, .int v3)]) dX11_run_51 (by decide) rfl ?_
  refine j_aload_n (pc := 53) 1 dX11_run_53 rfl rfl ?_
  refine j_getR (pc := 54) ok_X11 (by decide) rfl w_529 dX11_run_54 (fun a1 => ?_)
  refine j_getR (pc := 57) ok_X8 (by decide) rfl w_295 dX11_run_57 (fun a2 => ?_)
  refine j_getR (pc := 60) ok_X3 (by decide) rfl w_193 dX11_run_60 (fun a3 => ?_)
  refine j_iload_n (pc := 63) 2 dX11_run_63 rfl rfl ?_
  refine j_iload_n (pc := 64) 3 dX11_run_64 rfl rfl ?_
  refine j_iastore (pc := 65) dX11_run_65 (fun z4 => ?_)
  refine j_iload (pc := 66) 0 dX11_run_66 rfl ?_
  exact j_zreturn (pc := 68) dX11_run_68 rfl
theorem j_X11_run_B29 {l : Launch} {Γ : Am}   : ∀ (r0 : Nat) (v1 : Int32) (t0 : Int32) (z : Hp), J l Γ mi_X11_run cvI 0 0 29 [(0, .ref (mB Γ + r0)), (1, .int v1)] [.int t0] z (m_X11_run_B29  r0 v1 t0 z) := by
  intro r0 v1 t0 z
  unfold m_X11_run_B29
  refine j_istore_n (pc := 29) (lv2 := [(3, .int t0), (0, .ref (mB Γ + r0)), (1, .int v1)]) dX11_run_29 rfl (by decide) rfl ?_
  refine j_aload_n (pc := 30) 1 dX11_run_30 rfl rfl ?_
  refine j_getR (pc := 31) ok_X11 (by decide) rfl w_529 dX11_run_31 (fun a5 => ?_)
  refine j_getR (pc := 34) ok_X8 (by decide) rfl w_295 dX11_run_34 (fun a6 => ?_)
  refine j_getR (pc := 37) ok_X3 (by decide) rfl w_193 dX11_run_37 (fun a7 => ?_)
  refine j_iload_n (pc := 40) 2 dX11_run_40 rfl rfl ?_
  refine j_iaload (pc := 41) dX11_run_41 (fun x8 => ?_)
  refine j_iload_n (pc := 42) 0 dX11_run_42 rfl rfl ?_
  refine j_icmp_eq (pc := 43) 50 dX11_run_43 (by decide) ?_ ?_
  · refine j_iconst (pc := 50) (v := 0) dX11_run_50 (by decide) ?_
    exact J.sub [1, 2, 0] rfl (j_X11_run_B51 r0 v1 t0 0 z)
  refine j_iconst (pc := 46) (v := 1) dX11_run_46 (by decide) ?_
  refine j_goto (pc := 47) 51 dX11_run_47 (by decide) ?_
  exact J.sub [1, 2, 0] rfl (j_X11_run_B51 r0 v1 t0 1 z)
theorem ct_X11_run {l : Launch} {Γ : Am} (r0 : Nat) (v1 : Int32) (v2 : Int32) (z : Hp) : Ct l Γ yX11_run mi_X11_run cvI [.ref (mB Γ + r0), .int v1, .int v2] z (m_X11_run r0 v1 v2 z) := by
  refine Ct.ofJ (by decide) ⟨rfl, rfl⟩ (Nat.le_of_ble_eq_true rfl) ?_
  unfold m_X11_run
  show J l Γ mi_X11_run cvI 0 0 0 [(0, .ref (mB Γ + r0)), (1, .int v1), (2, .int v2)] [] z _
  refine j_iload_n (pc := 0) 1 dX11_run_0 rfl rfl ?_
  refine j_if_lt (pc := 1) 18 dX11_run_1 (by decide) ?_ ?_
  · refine j_iconst (pc := 18) (v := 0) dX11_run_18 (by decide) ?_
    exact j_ireturn (pc := 19) dX11_run_19 rfl rfl
  refine j_iload_n (pc := 4) 1 dX11_run_4 rfl rfl ?_
  refine j_aload_n (pc := 5) 0 dX11_run_5 rfl rfl ?_
  refine j_getR (pc := 6) ok_X11 (by decide) rfl w_529 dX11_run_6 (fun a9 => ?_)
  refine j_getR (pc := 9) ok_X8 (by decide) rfl w_295 dX11_run_9 (fun a10 => ?_)
  refine j_getI (pc := 12) ok_X3 (by decide) rfl w_203 dX11_run_12 (fun x11 => ?_)
  refine j_icmp_lt (pc := 15) 20 dX11_run_15 (by decide) ?_ ?_
  · refine j_iload_n (pc := 20) 2 dX11_run_20 rfl rfl ?_
    refine j_if_eq (pc := 21) 28 dX11_run_21 (by decide) ?_ ?_
    · refine j_iconst (pc := 28) (v := 0) dX11_run_28 (by decide) ?_
      exact J.sub [0, 1] rfl (j_X11_run_B29 r0 v1 0 z)
    refine j_iconst (pc := 24) (v := 1) dX11_run_24 (by decide) ?_
    refine j_goto (pc := 25) 29 dX11_run_25 (by decide) ?_
    exact J.sub [0, 1] rfl (j_X11_run_B29 r0 v1 1 z)
  refine j_iconst (pc := 18) (v := 0) dX11_run_18 (by decide) ?_
  exact j_ireturn (pc := 19) dX11_run_19 rfl rfl
theorem dX11_pipe_0 : decode cX11_pipe 0 = .ok (.aload_n 0, 1) := by decide +kernel
theorem dX11_pipe_1 : decode cX11_pipe 1 = .ok (.getfield 10, 3) := by decide +kernel
theorem dX11_pipe_4 : decode cX11_pipe 4 = .ok (.getfield 139, 3) := by decide +kernel
theorem dX11_pipe_7 : decode cX11_pipe 7 = .ok (.iload_n 1, 1) := by decide +kernel
theorem dX11_pipe_8 : decode cX11_pipe 8 = .ok (.iload_n 2, 1) := by decide +kernel
theorem dX11_pipe_9 : decode cX11_pipe 9 = .ok (.invokevirtual 164, 3) := by decide +kernel
theorem dX11_pipe_12 : decode cX11_pipe 12 = .ok (.ireturn, 1) := by decide +kernel
theorem cw_X11_pipe_164 : CwV mi_X11_pipe mi_X3_tell yX3_tell RX3 164 2 := ⟨⟨w_911, w_912, w_913, w_98, w_914⟩, ⟨by decide, by decide⟩, by decide +kernel, by decide, by decide⟩
theorem ct_X11_pipe {l : Launch} {Γ : Am} (r0 : Nat) (v1 : Int32) (v2 : Int32) (z : Hp) : Ct l Γ yX11_pipe mi_X11_pipe cvI [.ref (mB Γ + r0), .int v1, .int v2] z (m_X11_pipe r0 v1 v2 z) := by
  refine Ct.ofJ (by decide) ⟨rfl, rfl⟩ (Nat.le_of_ble_eq_true rfl) ?_
  unfold m_X11_pipe
  show J l Γ mi_X11_pipe cvI 0 0 0 [(0, .ref (mB Γ + r0)), (1, .int v1), (2, .int v2)] [] z _
  refine j_aload_n (pc := 0) 0 dX11_pipe_0 rfl rfl ?_
  refine j_getR (pc := 1) ok_X11 (by decide) rfl w_529 dX11_pipe_1 (fun a1 => ?_)
  refine j_getR (pc := 4) ok_X8 (by decide) rfl w_295 dX11_pipe_4 (fun a2 => ?_)
  refine j_iload_n (pc := 7) 1 dX11_pipe_7 rfl rfl ?_
  refine j_iload_n (pc := 8) 2 dX11_pipe_8 rfl rfl ?_
  refine j_isC (fun h5 => ?_)
  refine j_callV_I (pc := 9) (as := [.int v1, .int v2]) (mc2 := 0) (ms2 := 0) (ct_X3_tell _ _ _ _) h5 rfl cw_X11_pipe_164 dX11_pipe_9 (Nat.le_of_ble_eq_true rfl) rfl (by decide) (by decide) (fun x4 z3 => ?_)
  exact j_ireturn (pc := 12) dX11_pipe_12 rfl rfl
theorem dX11_cold_0 : decode cX11_cold 0 = .ok (.iload_n 1, 1) := by decide +kernel
theorem dX11_cold_1 : decode cX11_cold 1 = .ok (.ifCond .lt 9, 3) := by decide +kernel
theorem dX11_cold_4 : decode cX11_cold 4 = .ok (.iload_n 1, 1) := by decide +kernel
theorem dX11_cold_5 : decode cX11_cold 5 = .ok (.ldc 168, 2) := by decide +kernel
theorem dX11_cold_7 : decode cX11_cold 7 = .ok (.if_icmp .le 6, 3) := by decide +kernel
theorem dX11_cold_10 : decode cX11_cold 10 = .ok (.bipush (-2), 2) := by decide +kernel
theorem dX11_cold_12 : decode cX11_cold 12 = .ok (.ireturn, 1) := by decide +kernel
theorem dX11_cold_13 : decode cX11_cold 13 = .ok (.aload_n 0, 1) := by decide +kernel
theorem dX11_cold_14 : decode cX11_cold 14 = .ok (.getfield 10, 3) := by decide +kernel
theorem dX11_cold_17 : decode cX11_cold 17 = .ok (.getfield 169, 3) := by decide +kernel
theorem dX11_cold_20 : decode cX11_cold 20 = .ok (.istore_n 2, 1) := by decide +kernel
theorem dX11_cold_21 : decode cX11_cold 21 = .ok (.aload_n 0, 1) := by decide +kernel
theorem dX11_cold_22 : decode cX11_cold 22 = .ok (.getfield 10, 3) := by decide +kernel
theorem dX11_cold_25 : decode cX11_cold 25 = .ok (.iload_n 1, 1) := by decide +kernel
theorem dX11_cold_26 : decode cX11_cold 26 = .ok (.putfield 169, 3) := by decide +kernel
theorem dX11_cold_29 : decode cX11_cold 29 = .ok (.iload_n 2, 1) := by decide +kernel
theorem dX11_cold_30 : decode cX11_cold 30 = .ok (.ireturn, 1) := by decide +kernel
theorem ct_X11_cold {l : Launch} {Γ : Am} (r0 : Nat) (v1 : Int32) (z : Hp) : Ct l Γ yX11_cold mi_X11_cold cvI [.ref (mB Γ + r0), .int v1] z (m_X11_cold r0 v1 z) := by
  refine Ct.ofJ (by decide) ⟨rfl, rfl⟩ (Nat.le_of_ble_eq_true rfl) ?_
  unfold m_X11_cold
  show J l Γ mi_X11_cold cvI 0 0 0 [(0, .ref (mB Γ + r0)), (1, .int v1)] [] z _
  refine j_iload_n (pc := 0) 1 dX11_cold_0 rfl rfl ?_
  refine j_if_lt (pc := 1) 10 dX11_cold_1 (by decide) ?_ ?_
  · refine j_bipush (pc := 10) (v := (-2)) dX11_cold_10 (by decide) ?_
    exact j_ireturn (pc := 12) dX11_cold_12 rfl rfl
  refine j_iload_n (pc := 4) 1 dX11_cold_4 rfl rfl ?_
  refine j_ldc (pc := 5) (v := 99999) dX11_cold_5 w_920 ?_
  refine j_icmp_le (pc := 7) 13 dX11_cold_7 (by decide) ?_ ?_
  · refine j_aload_n (pc := 13) 0 dX11_cold_13 rfl rfl ?_
    refine j_getR (pc := 14) ok_X11 (by decide) rfl w_529 dX11_cold_14 (fun a1 => ?_)
    refine j_getI (pc := 17) ok_X8 (by decide) rfl w_329 dX11_cold_17 (fun x2 => ?_)
    refine j_istore_n (pc := 20) (lv2 := [(2, .int x2), (0, .ref (mB Γ + r0)), (1, .int v1)]) dX11_cold_20 rfl (by decide) rfl ?_
    refine j_aload_n (pc := 21) 1 dX11_cold_21 rfl rfl ?_
    refine j_getR (pc := 22) ok_X11 (by decide) rfl w_529 dX11_cold_22 (fun a3 => ?_)
    refine j_iload_n (pc := 25) 2 dX11_cold_25 rfl rfl ?_
    refine j_putI (pc := 26) ok_X8 (by decide) rfl w_329 (Or.inl rfl) rfl rfl dX11_cold_26 (fun z4 => ?_)
    refine j_iload_n (pc := 29) 0 dX11_cold_29 rfl rfl ?_
    exact j_ireturn (pc := 30) dX11_cold_30 rfl rfl
  refine j_bipush (pc := 10) (v := (-2)) dX11_cold_10 (by decide) ?_
  exact j_ireturn (pc := 12) dX11_cold_12 rfl rfl
theorem dX11_shut_0 : decode cX11_shut 0 = .ok (.aload_n 0, 1) := by decide +kernel
theorem dX11_shut_1 : decode cX11_shut 1 = .ok (.getfield 10, 3) := by decide +kernel
theorem dX11_shut_4 : decode cX11_shut 4 = .ok (.getfield 172, 3) := by decide +kernel
theorem dX11_shut_7 : decode cX11_shut 7 = .ok (.ifCond .ne 6, 3) := by decide +kernel
theorem dX11_shut_10 : decode cX11_shut 10 = .ok (.bipush (-6), 2) := by decide +kernel
theorem dX11_shut_12 : decode cX11_shut 12 = .ok (.ireturn, 1) := by decide +kernel
theorem dX11_shut_13 : decode cX11_shut 13 = .ok (.aload_n 0, 1) := by decide +kernel
theorem dX11_shut_14 : decode cX11_shut 14 = .ok (.getfield 49, 3) := by decide +kernel
theorem dX11_shut_17 : decode cX11_shut 17 = .ok (.aload_n 0, 1) := by decide +kernel
theorem dX11_shut_18 : decode cX11_shut 18 = .ok (.getfield 10, 3) := by decide +kernel
theorem dX11_shut_21 : decode cX11_shut 21 = .ok (.invokevirtual 175, 3) := by decide +kernel
theorem dX11_shut_24 : decode cX11_shut 24 = .ok (.ifCond .eq 7, 3) := by decide +kernel
theorem dX11_shut_27 : decode cX11_shut 27 = .ok (.iconst 1, 1) := by decide +kernel
theorem dX11_shut_28 : decode cX11_shut 28 = .ok (.goto 4, 3) := by decide +kernel
theorem dX11_shut_31 : decode cX11_shut 31 = .ok (.iconst 0, 1) := by decide +kernel
theorem dX11_shut_32 : decode cX11_shut 32 = .ok (.ireturn, 1) := by decide +kernel
theorem cw_X11_shut_175 : CwV mi_X11_shut mi_X10_isShut yX10_isShut RX10 175 1 := ⟨⟨w_846, w_847, w_848, w_105, w_849⟩, ⟨by decide, by decide⟩, by decide +kernel, by decide, by decide⟩
theorem ct_X11_shut {l : Launch} {Γ : Am} (r0 : Nat) (z : Hp) : Ct l Γ yX11_shut mi_X11_shut cvI [.ref (mB Γ + r0)] z (m_X11_shut r0 z) := by
  refine Ct.ofJ (by decide) ⟨rfl, rfl⟩ (Nat.le_of_ble_eq_true rfl) ?_
  unfold m_X11_shut
  show J l Γ mi_X11_shut cvI 0 0 0 [(0, .ref (mB Γ + r0))] [] z _
  refine j_aload_n (pc := 0) 0 dX11_shut_0 rfl rfl ?_
  refine j_getR (pc := 1) ok_X11 (by decide) rfl w_529 dX11_shut_1 (fun a1 => ?_)
  refine j_getI (pc := 4) ok_X8 (by decide) rfl w_323 dX11_shut_4 (fun x2 => ?_)
  refine j_if_ne (pc := 7) 13 dX11_shut_7 (by decide) ?_ ?_
  · refine j_aload_n (pc := 13) 0 dX11_shut_13 rfl rfl ?_
    refine j_getR (pc := 14) ok_X11 (by decide) rfl w_535 dX11_shut_14 (fun a3 => ?_)
    refine j_aload_n (pc := 17) 0 dX11_shut_17 rfl rfl ?_
    refine j_getR (pc := 18) ok_X11 (by decide) rfl w_529 dX11_shut_18 (fun a4 => ?_)
    refine j_isC (fun h7 => ?_)
    refine j_callV_I (pc := 21) (as := [.ref (mB Γ + a4)]) (mc2 := 0) (ms2 := 0) (ct_X10_isShut _ _ _) h7 rfl cw_X11_shut_175 dX11_shut_21 (Nat.le_of_ble_eq_true rfl) rfl (by decide) (by decide) (fun x6 z5 => ?_)
    refine j_if_eq (pc := 24) 31 dX11_shut_24 (by decide) ?_ ?_
    · refine j_iconst (pc := 31) (v := 0) dX11_shut_31 (by decide) ?_
      exact j_ireturn (pc := 32) dX11_shut_32 rfl rfl
    refine j_iconst (pc := 27) (v := 1) dX11_shut_27 (by decide) ?_
    refine j_goto (pc := 28) 32 dX11_shut_28 (by decide) ?_
    exact j_ireturn (pc := 32) dX11_shut_32 rfl rfl
  refine j_bipush (pc := 10) (v := (-6)) dX11_shut_10 (by decide) ?_
  exact j_ireturn (pc := 12) dX11_shut_12 rfl rfl
theorem dX11_way_0 : decode cX11_way 0 = .ok (.aload_n 0, 1) := by decide +kernel
theorem dX11_way_1 : decode cX11_way 1 = .ok (.getfield 10, 3) := by decide +kernel
theorem dX11_way_4 : decode cX11_way 4 = .ok (.getfield 172, 3) := by decide +kernel
theorem dX11_way_7 : decode cX11_way 7 = .ok (.ifCond .ne 8, 3) := by decide +kernel
theorem dX11_way_10 : decode cX11_way 10 = .ok (.bipush (-6), 2) := by decide +kernel
theorem dX11_way_12 : decode cX11_way 12 = .ok (.goto 14, 3) := by decide +kernel
theorem dX11_way_15 : decode cX11_way 15 = .ok (.aload_n 0, 1) := by decide +kernel
theorem dX11_way_16 : decode cX11_way 16 = .ok (.getfield 49, 3) := by decide +kernel
theorem dX11_way_19 : decode cX11_way 19 = .ok (.aload_n 0, 1) := by decide +kernel
theorem dX11_way_20 : decode cX11_way 20 = .ok (.getfield 10, 3) := by decide +kernel
theorem dX11_way_23 : decode cX11_way 23 = .ok (.invokevirtual 179, 3) := by decide +kernel
theorem dX11_way_26 : decode cX11_way 26 = .ok (.ireturn, 1) := by decide +kernel
theorem cw_X11_way_179 : CwV mi_X11_way mi_X10_shortestWay yX10_shortestWay RX10 179 1 := ⟨⟨w_929, w_851, w_852, w_105, w_853⟩, ⟨by decide, by decide⟩, by decide +kernel, by decide, by decide⟩
theorem ct_X11_way {l : Launch} {Γ : Am} (r0 : Nat) (z : Hp) : Ct l Γ yX11_way mi_X11_way cvI [.ref (mB Γ + r0)] z (m_X11_way r0 z) := by
  refine Ct.ofJ (by decide) ⟨rfl, rfl⟩ (Nat.le_of_ble_eq_true rfl) ?_
  unfold m_X11_way
  show J l Γ mi_X11_way cvI 0 0 0 [(0, .ref (mB Γ + r0))] [] z _
  refine j_aload_n (pc := 0) 0 dX11_way_0 rfl rfl ?_
  refine j_getR (pc := 1) ok_X11 (by decide) rfl w_529 dX11_way_1 (fun a1 => ?_)
  refine j_getI (pc := 4) ok_X8 (by decide) rfl w_323 dX11_way_4 (fun x2 => ?_)
  refine j_if_ne (pc := 7) 15 dX11_way_7 (by decide) ?_ ?_
  · refine j_aload_n (pc := 15) 0 dX11_way_15 rfl rfl ?_
    refine j_getR (pc := 16) ok_X11 (by decide) rfl w_535 dX11_way_16 (fun a3 => ?_)
    refine j_aload_n (pc := 19) 0 dX11_way_19 rfl rfl ?_
    refine j_getR (pc := 20) ok_X11 (by decide) rfl w_529 dX11_way_20 (fun a4 => ?_)
    refine j_isC (fun h7 => ?_)
    refine j_callV_I (pc := 23) (as := [.ref (mB Γ + a4)]) (mc2 := 0) (ms2 := 0) (ct_X10_shortestWay _ _ _) h7 rfl cw_X11_way_179 dX11_way_23 (Nat.le_of_ble_eq_true rfl) rfl (by decide) (by decide) (fun x6 z5 => ?_)
    exact j_ireturn (pc := 26) dX11_way_26 rfl rfl
  refine j_bipush (pc := 10) (v := (-6)) dX11_way_10 (by decide) ?_
  refine j_goto (pc := 12) 26 dX11_way_12 (by decide) ?_
  exact j_ireturn (pc := 26) dX11_way_26 rfl rfl
theorem dX11_gaps_0 : decode cX11_gaps 0 = .ok (.aload_n 0, 1) := by decide +kernel
theorem dX11_gaps_1 : decode cX11_gaps 1 = .ok (.getfield 10, 3) := by decide +kernel
theorem dX11_gaps_4 : decode cX11_gaps 4 = .ok (.getfield 172, 3) := by decide +kernel
theorem dX11_gaps_7 : decode cX11_gaps 7 = .ok (.ifCond .ne 6, 3) := by decide +kernel
theorem dX11_gaps_10 : decode cX11_gaps 10 = .ok (.bipush (-6), 2) := by decide +kernel
theorem dX11_gaps_12 : decode cX11_gaps 12 = .ok (.ireturn, 1) := by decide +kernel
theorem dX11_gaps_13 : decode cX11_gaps 13 = .ok (.aload_n 0, 1) := by decide +kernel
theorem dX11_gaps_14 : decode cX11_gaps 14 = .ok (.aload_n 0, 1) := by decide +kernel
theorem dX11_gaps_15 : decode cX11_gaps 15 = .ok (.getfield 49, 3) := by decide +kernel
theorem dX11_gaps_18 : decode cX11_gaps 18 = .ok (.aload_n 0, 1) := by decide +kernel
theorem dX11_gaps_19 : decode cX11_gaps 19 = .ok (.getfield 10, 3) := by decide +kernel
theorem dX11_gaps_22 : decode cX11_gaps 22 = .ok (.invokevirtual 183, 3) := by decide +kernel
theorem dX11_gaps_25 : decode cX11_gaps 25 = .ok (.putfield 64, 3) := by decide +kernel
theorem dX11_gaps_28 : decode cX11_gaps 28 = .ok (.aload_n 0, 1) := by decide +kernel
theorem dX11_gaps_29 : decode cX11_gaps 29 = .ok (.getfield 49, 3) := by decide +kernel
theorem dX11_gaps_32 : decode cX11_gaps 32 = .ok (.aload_n 0, 1) := by decide +kernel
theorem dX11_gaps_33 : decode cX11_gaps 33 = .ok (.getfield 60, 3) := by decide +kernel
theorem dX11_gaps_36 : decode cX11_gaps 36 = .ok (.invokevirtual 186, 3) := by decide +kernel
theorem dX11_gaps_39 : decode cX11_gaps 39 = .ok (.aload_n 0, 1) := by decide +kernel
theorem dX11_gaps_40 : decode cX11_gaps 40 = .ok (.getfield 64, 3) := by decide +kernel
theorem dX11_gaps_43 : decode cX11_gaps 43 = .ok (.ireturn, 1) := by decide +kernel
theorem cw_X11_gaps_183 : CwV mi_X11_gaps mi_X10_fewestGaps yX10_fewestGaps RX10 183 1 := ⟨⟨w_934, w_935, w_936, w_105, w_937⟩, ⟨by decide, by decide⟩, by decide +kernel, by decide, by decide⟩
theorem cw_X11_gaps_186 : CwV mi_X11_gaps mi_X10_listGaps yX10_listGaps RX10 186 1 := ⟨⟨w_969, w_970, w_971, w_105, w_972⟩, ⟨by decide, by decide⟩, by decide +kernel, by decide, by decide⟩
theorem ct_X11_gaps {l : Launch} {Γ : Am} (r0 : Nat) (z : Hp) : Ct l Γ yX11_gaps mi_X11_gaps cvI [.ref (mB Γ + r0)] z (m_X11_gaps r0 z) := by
  refine Ct.ofJ (by decide) ⟨rfl, rfl⟩ (Nat.le_of_ble_eq_true rfl) ?_
  unfold m_X11_gaps
  show J l Γ mi_X11_gaps cvI 0 0 0 [(0, .ref (mB Γ + r0))] [] z _
  refine j_aload_n (pc := 0) 0 dX11_gaps_0 rfl rfl ?_
  refine j_getR (pc := 1) ok_X11 (by decide) rfl w_529 dX11_gaps_1 (fun a1 => ?_)
  refine j_getI (pc := 4) ok_X8 (by decide) rfl w_323 dX11_gaps_4 (fun x2 => ?_)
  refine j_if_ne (pc := 7) 13 dX11_gaps_7 (by decide) ?_ ?_
  · refine j_aload_n (pc := 13) 0 dX11_gaps_13 rfl rfl ?_
    refine j_aload_n (pc := 14) 0 dX11_gaps_14 rfl rfl ?_
    refine j_getR (pc := 15) ok_X11 (by decide) rfl w_535 dX11_gaps_15 (fun a3 => ?_)
    refine j_aload_n (pc := 18) 0 dX11_gaps_18 rfl rfl ?_
    refine j_getR (pc := 19) ok_X11 (by decide) rfl w_529 dX11_gaps_19 (fun a4 => ?_)
    refine j_isC (fun h7 => ?_)
    refine j_callV_I (pc := 22) (as := [.ref (mB Γ + a4)]) (mc2 := 0) (ms2 := 0) (ct_X10_fewestGaps _ _ _) h7 rfl cw_X11_gaps_183 dX11_gaps_22 (Nat.le_of_ble_eq_true rfl) rfl (by decide) (by decide) (fun x6 z5 => ?_)
    refine j_putI (pc := 25) ok_X11 (by decide) rfl w_538 (Or.inl rfl) rfl rfl dX11_gaps_25 (fun z8 => ?_)
    refine j_aload_n (pc := 28) 0 dX11_gaps_28 rfl rfl ?_
    refine j_getR (pc := 29) ok_X11 (by decide) rfl w_535 dX11_gaps_29 (fun a9 => ?_)
    refine j_aload_n (pc := 32) 0 dX11_gaps_32 rfl rfl ?_
    refine j_getR (pc := 33) ok_X11 (by decide) rfl w_537 dX11_gaps_33 (fun a10 => ?_)
    refine j_isC (fun h12 => ?_)
    refine j_callV_V (pc := 36) (as := [.ref (mB Γ + a10)]) (mc2 := 0) (ms2 := 0) (ct_X10_listGaps _ _ _) h12 rfl cw_X11_gaps_186 dX11_gaps_36 (Nat.le_of_ble_eq_true rfl) rfl (by decide) (by decide) (fun _ z11 => ?_)
    refine j_aload_n (pc := 39) 0 dX11_gaps_39 rfl rfl ?_
    refine j_getI (pc := 40) ok_X11 (by decide) rfl w_538 dX11_gaps_40 (fun x13 => ?_)
    exact j_ireturn (pc := 43) dX11_gaps_43 rfl rfl
  refine j_bipush (pc := 10) (v := (-6)) dX11_gaps_10 (by decide) ?_
  exact j_ireturn (pc := 12) dX11_gaps_12 rfl rfl
