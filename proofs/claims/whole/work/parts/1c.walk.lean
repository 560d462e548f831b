theorem dX3_stopAll_0 : decode cX3_stopAll 0 = .ok (.aload_n 0, 1) := by decide +kernel
theorem dX3_stopAll_1 : decode cX3_stopAll 1 = .ok (.getfield 21, 3) := by decide +kernel
theorem dX3_stopAll_4 : decode cX3_stopAll 4 = .ok (.iconst 0, 1) := by decide +kernel
theorem dX3_stopAll_5 : decode cX3_stopAll 5 = .ok (.invokestatic 34, 3) := by decide +kernel
theorem dX3_stopAll_8 : decode cX3_stopAll 8 = .ok (.return_, 1) := by decide +kernel
theorem cw_X3_stopAll_34 : CwS mi_X3_stopAll mi_J7_fill_53178 yJ7_fill_53178 34 2 := ⟨⟨w_1096, w_500, w_107, w_501⟩, ⟨by decide, by decide⟩, by decide +kernel, by decide, by decide⟩
theorem ct_X3_stopAll {l : Launch} {Γ : Am} (r0 : Nat) (z : Hp) : Ct l Γ yX3_stopAll mi_X3_stopAll cvV [.ref (mB Γ + r0)] z (m_X3_stopAll r0 z) := by
  refine Ct.ofJ (by decide) ⟨rfl, rfl⟩ (Nat.le_of_ble_eq_true rfl) ?_
  unfold m_X3_stopAll
  show J l Γ mi_X3_stopAll cvV 0 0 0 [(0, .ref (mB Γ + r0))] [] z _
  refine j_aload_n (pc := 0) 0 dX3_stopAll_0 rfl rfl ?_
  refine j_getR (pc := 1) ok_X3 (by decide) rfl w_192 dX3_stopAll_1 (fun a1 => ?_)
  refine j_iconst (pc := 4) (v := 0) dX3_stopAll_4 (by decide) ?_
  refine j_callS_V (pc := 5) (as := [.ref (mB Γ + a1), .int 0]) (mc2 := 0) (ms2 := 0) (ct_J7_fill_53178 _ _ _) cw_X3_stopAll_34 dX3_stopAll_5 (Nat.le_of_ble_eq_true rfl) rfl (by decide) (by decide) (fun _ z2 => ?_)
  exact j_return (pc := 8) dX3_stopAll_8 rfl
theorem dX3_tell_0 : decode cX3_tell 0 = .ok (.iload_n 1, 1) := by decide +kernel
theorem dX3_tell_1 : decode cX3_tell 1 = .ok (.ifCond .lt 11, 3) := by decide +kernel
theorem dX3_tell_4 : decode cX3_tell 4 = .ok (.iload_n 1, 1) := by decide +kernel
theorem dX3_tell_5 : decode cX3_tell 5 = .ok (.aload_n 0, 1) := by decide +kernel
theorem dX3_tell_6 : decode cX3_tell 6 = .ok (.getfield 30, 3) := by decide +kernel
theorem dX3_tell_9 : decode cX3_tell 9 = .ok (.if_icmp .lt 6, 3) := by decide +kernel
theorem dX3_tell_12 : decode cX3_tell 12 = .ok (.ldc 40, 2) := by decide +kernel
theorem dX3_tell_14 : decode cX3_tell 14 = .ok (.ireturn, 1) := by decide +kernel
theorem dX3_tell_15 : decode cX3_tell 15 = .ok (.iload_n 2, 1) := by decide +kernel
theorem dX3_tell_16 : decode cX3_tell 16 = .ok (.tableswitch 82 0 5 #[40, 47, 54, 61, 68, 75], 40) := by decide +kernel
theorem dX3_tell_56 : decode cX3_tell 56 = .ok (.aload_n 0, 1) := by decide +kernel
theorem dX3_tell_57 : decode cX3_tell 57 = .ok (.getfield 9, 3) := by decide +kernel
theorem dX3_tell_60 : decode cX3_tell 60 = .ok (.iload_n 1, 1) := by decide +kernel
theorem dX3_tell_61 : decode cX3_tell 61 = .ok (.iaload, 1) := by decide +kernel
theorem dX3_tell_62 : decode cX3_tell 62 = .ok (.ireturn, 1) := by decide +kernel
theorem dX3_tell_63 : decode cX3_tell 63 = .ok (.aload_n 0, 1) := by decide +kernel
theorem dX3_tell_64 : decode cX3_tell 64 = .ok (.getfield 15, 3) := by decide +kernel
theorem dX3_tell_67 : decode cX3_tell 67 = .ok (.iload_n 1, 1) := by decide +kernel
theorem dX3_tell_68 : decode cX3_tell 68 = .ok (.iaload, 1) := by decide +kernel
theorem dX3_tell_69 : decode cX3_tell 69 = .ok (.ireturn, 1) := by decide +kernel
theorem dX3_tell_70 : decode cX3_tell 70 = .ok (.aload_n 0, 1) := by decide +kernel
theorem dX3_tell_71 : decode cX3_tell 71 = .ok (.getfield 18, 3) := by decide +kernel
theorem dX3_tell_74 : decode cX3_tell 74 = .ok (.iload_n 1, 1) := by decide +kernel
theorem dX3_tell_75 : decode cX3_tell 75 = .ok (.iaload, 1) := by decide +kernel
theorem dX3_tell_76 : decode cX3_tell 76 = .ok (.ireturn, 1) := by decide +kernel
theorem dX3_tell_77 : decode cX3_tell 77 = .ok (.aload_n 0, 1) := by decide +kernel
theorem dX3_tell_78 : decode cX3_tell 78 = .ok (.getfield 21, 3) := by decide +kernel
theorem dX3_tell_81 : decode cX3_tell 81 = .ok (.iload_n 1, 1) := by decide +kernel
theorem dX3_tell_82 : decode cX3_tell 82 = .ok (.iaload, 1) := by decide +kernel
theorem dX3_tell_83 : decode cX3_tell 83 = .ok (.ireturn, 1) := by decide +kernel
theorem dX3_tell_84 : decode cX3_tell 84 = .ok (.aload_n 0, 1) := by decide +kernel
theorem dX3_tell_85 : decode cX3_tell 85 = .ok (.getfield 24, 3) := by decide +kernel
theorem dX3_tell_88 : decode cX3_tell 88 = .ok (.iload_n 1, 1) := by decide +kernel
theorem dX3_tell_89 : decode cX3_tell 89 = .ok (.iaload, 1) := by decide +kernel
theorem dX3_tell_90 : decode cX3_tell 90 = .ok (.ireturn, 1) := by decide +kernel
theorem dX3_tell_91 : decode cX3_tell 91 = .ok (.aload_n 0, 1) := by decide +kernel
theorem dX3_tell_92 : decode cX3_tell 92 = .ok (.getfield 27, 3) := by decide +kernel
theorem dX3_tell_95 : decode cX3_tell 95 = .ok (.iload_n 1, 1) := by decide +kernel
theorem dX3_tell_96 : decode cX3_tell 96 = .ok (.iaload, 1) := by decide +kernel
theorem dX3_tell_97 : decode cX3_tell 97 = .ok (.ireturn, 1) := by decide +kernel
theorem dX3_tell_98 : decode cX3_tell 98 = .ok (.ldc 40, 2) := by decide +kernel
theorem dX3_tell_100 : decode cX3_tell 100 = .ok (.ireturn, 1) := by decide +kernel
theorem ct_X3_tell {l : Launch} {Γ : Am} (r0 : Nat) (v1 : Int32) (v2 : Int32) (z : Hp) : Ct l Γ yX3_tell mi_X3_tell cvI [.ref (mB Γ + r0), .int v1, .int v2] z (m_X3_tell r0 v1 v2 z) := by
  refine Ct.ofJ (by decide) ⟨rfl, rfl⟩ (Nat.le_of_ble_eq_true rfl) ?_
  unfold m_X3_tell
  show J l Γ mi_X3_tell cvI 0 0 0 [(0, .ref (mB Γ + r0)), (1, .int v1), (2, .int v2)] [] z _
  refine j_iload_n (pc := 0) 1 dX3_tell_0 rfl rfl ?_
  refine j_if_lt (pc := 1) 12 dX3_tell_1 (by decide) ?_ ?_
  · refine j_ldc (pc := 12) (v := (-2000000000)) dX3_tell_12 w_915 ?_
    exact j_ireturn (pc := 14) dX3_tell_14 rfl rfl
  refine j_iload_n (pc := 4) 1 dX3_tell_4 rfl rfl ?_
  refine j_aload_n (pc := 5) 0 dX3_tell_5 rfl rfl ?_
  refine j_getI (pc := 6) ok_X3 (by decide) rfl w_199 dX3_tell_6 (fun x1 => ?_)
  refine j_icmp_lt (pc := 9) 15 dX3_tell_9 (by decide) ?_ ?_
  · refine j_iload_n (pc := 15) 2 dX3_tell_15 rfl rfl ?_
    refine j_ite (fun h4 => ?_) (fun h4 => ?_)
    · refine j_case (pc := 16) 56 dX3_tell_16 h4 (by decide) rfl (by decide) ?_
      refine j_aload_n (pc := 56) 0 dX3_tell_56 rfl rfl ?_
      refine j_getR (pc := 57) ok_X3 (by decide) rfl w_184 dX3_tell_57 (fun a2 => ?_)
      refine j_iload_n (pc := 60) 1 dX3_tell_60 rfl rfl ?_
      refine j_iaload (pc := 61) dX3_tell_61 (fun x3 => ?_)
      exact j_ireturn (pc := 62) dX3_tell_62 rfl rfl
    refine j_ite (fun h7 => ?_) (fun h7 => ?_)
    · refine j_case (pc := 16) 63 dX3_tell_16 h7 (by decide) rfl (by decide) ?_
      refine j_aload_n (pc := 63) 0 dX3_tell_63 rfl rfl ?_
      refine j_getR (pc := 64) ok_X3 (by decide) rfl w_186 dX3_tell_64 (fun a5 => ?_)
      refine j_iload_n (pc := 67) 1 dX3_tell_67 rfl rfl ?_
      refine j_iaload (pc := 68) dX3_tell_68 (fun x6 => ?_)
      exact j_ireturn (pc := 69) dX3_tell_69 rfl rfl
    refine j_ite (fun h10 => ?_) (fun h10 => ?_)
    · refine j_case (pc := 16) 70 dX3_tell_16 h10 (by decide) rfl (by decide) ?_
      refine j_aload_n (pc := 70) 0 dX3_tell_70 rfl rfl ?_
      refine j_getR (pc := 71) ok_X3 (by decide) rfl w_189 dX3_tell_71 (fun a8 => ?_)
      refine j_iload_n (pc := 74) 1 dX3_tell_74 rfl rfl ?_
      refine j_iaload (pc := 75) dX3_tell_75 (fun x9 => ?_)
      exact j_ireturn (pc := 76) dX3_tell_76 rfl rfl
    refine j_ite (fun h13 => ?_) (fun h13 => ?_)
    · refine j_case (pc := 16) 77 dX3_tell_16 h13 (by decide) rfl (by decide) ?_
      refine j_aload_n (pc := 77) 0 dX3_tell_77 rfl rfl ?_
      refine j_getR (pc := 78) ok_X3 (by decide) rfl w_192 dX3_tell_78 (fun a11 => ?_)
      refine j_iload_n (pc := 81) 1 dX3_tell_81 rfl rfl ?_
      refine j_iaload (pc := 82) dX3_tell_82 (fun x12 => ?_)
      exact j_ireturn (pc := 83) dX3_tell_83 rfl rfl
    refine j_ite (fun h16 => ?_) (fun h16 => ?_)
    · refine j_case (pc := 16) 84 dX3_tell_16 h16 (by decide) rfl (by decide) ?_
      refine j_aload_n (pc := 84) 0 dX3_tell_84 rfl rfl ?_
      refine j_getR (pc := 85) ok_X3 (by decide) rfl w_195 dX3_tell_85 (fun a14 => ?_)
      refine j_iload_n (pc := 88) 1 dX3_tell_88 rfl rfl ?_
      refine j_iaload (pc := 89) dX3_tell_89 (fun x15 => ?_)
      exact j_ireturn (pc := 90) dX3_tell_90 rfl rfl
    refine j_ite (fun h19 => ?_) (fun h19 => ?_)
    · refine j_case (pc := 16) 91 dX3_tell_16 h19 (by decide) rfl (by decide) ?_
      refine j_aload_n (pc := 91) 0 dX3_tell_91 rfl rfl ?_
      refine j_getR (pc := 92) ok_X3 (by decide) rfl w_197 dX3_tell_92 (fun a17 => ?_)
      refine j_iload_n (pc := 95) 1 dX3_tell_95 rfl rfl ?_
      refine j_iaload (pc := 96) dX3_tell_96 (fun x18 => ?_)
      exact j_ireturn (pc := 97) dX3_tell_97 rfl rfl
    refine j_dflt (pc := 16) 98 dX3_tell_16 (sw_out 6 (by decide) (fun k hk => ?_)) (by decide) ?_
    · match k, hk with
      | 0, _ => exact h4
      | 1, _ => exact h7
      | 2, _ => exact h10
      | 3, _ => exact h13
      | 4, _ => exact h16
      | 5, _ => exact h19
      | k + 6, hk => exact absurd hk (by omega)
    refine j_ldc (pc := 98) (v := (-2000000000)) dX3_tell_98 w_915 ?_
    exact j_ireturn (pc := 100) dX3_tell_100 rfl rfl
  refine j_ldc (pc := 12) (v := (-2000000000)) dX3_tell_12 w_915 ?_
  exact j_ireturn (pc := 14) dX3_tell_14 rfl rfl
theorem dX3_copyFrom_0 : decode cX3_copyFrom 0 = .ok (.aload_n 1, 1) := by decide +kernel
theorem dX3_copyFrom_1 : decode cX3_copyFrom 1 = .ok (.getfield 9, 3) := by decide +kernel
theorem dX3_copyFrom_4 : decode cX3_copyFrom 4 = .ok (.iconst 0, 1) := by decide +kernel
theorem dX3_copyFrom_5 : decode cX3_copyFrom 5 = .ok (.aload_n 0, 1) := by decide +kernel
theorem dX3_copyFrom_6 : decode cX3_copyFrom 6 = .ok (.getfield 9, 3) := by decide +kernel
theorem dX3_copyFrom_9 : decode cX3_copyFrom 9 = .ok (.iconst 0, 1) := by decide +kernel
theorem dX3_copyFrom_10 : decode cX3_copyFrom 10 = .ok (.bipush 18, 2) := by decide +kernel
theorem dX3_copyFrom_12 : decode cX3_copyFrom 12 = .ok (.invokestatic 41, 3) := by decide +kernel
theorem dX3_copyFrom_15 : decode cX3_copyFrom 15 = .ok (.aload_n 1, 1) := by decide +kernel
theorem dX3_copyFrom_16 : decode cX3_copyFrom 16 = .ok (.getfield 15, 3) := by decide +kernel
theorem dX3_copyFrom_19 : decode cX3_copyFrom 19 = .ok (.iconst 0, 1) := by decide +kernel
theorem dX3_copyFrom_20 : decode cX3_copyFrom 20 = .ok (.aload_n 0, 1) := by decide +kernel
theorem dX3_copyFrom_21 : decode cX3_copyFrom 21 = .ok (.getfield 15, 3) := by decide +kernel
theorem dX3_copyFrom_24 : decode cX3_copyFrom 24 = .ok (.iconst 0, 1) := by decide +kernel
theorem dX3_copyFrom_25 : decode cX3_copyFrom 25 = .ok (.bipush 18, 2) := by decide +kernel
theorem dX3_copyFrom_27 : decode cX3_copyFrom 27 = .ok (.invokestatic 41, 3) := by decide +kernel
theorem dX3_copyFrom_30 : decode cX3_copyFrom 30 = .ok (.aload_n 1, 1) := by decide +kernel
theorem dX3_copyFrom_31 : decode cX3_copyFrom 31 = .ok (.getfield 18, 3) := by decide +kernel
theorem dX3_copyFrom_34 : decode cX3_copyFrom 34 = .ok (.iconst 0, 1) := by decide +kernel
theorem dX3_copyFrom_35 : decode cX3_copyFrom 35 = .ok (.aload_n 0, 1) := by decide +kernel
theorem dX3_copyFrom_36 : decode cX3_copyFrom 36 = .ok (.getfield 18, 3) := by decide +kernel
theorem dX3_copyFrom_39 : decode cX3_copyFrom 39 = .ok (.iconst 0, 1) := by decide +kernel
theorem dX3_copyFrom_40 : decode cX3_copyFrom 40 = .ok (.bipush 18, 2) := by decide +kernel
theorem dX3_copyFrom_42 : decode cX3_copyFrom 42 = .ok (.invokestatic 41, 3) := by decide +kernel
theorem dX3_copyFrom_45 : decode cX3_copyFrom 45 = .ok (.aload_n 1, 1) := by decide +kernel
theorem dX3_copyFrom_46 : decode cX3_copyFrom 46 = .ok (.getfield 21, 3) := by decide +kernel
theorem dX3_copyFrom_49 : decode cX3_copyFrom 49 = .ok (.iconst 0, 1) := by decide +kernel
theorem dX3_copyFrom_50 : decode cX3_copyFrom 50 = .ok (.aload_n 0, 1) := by decide +kernel
theorem dX3_copyFrom_51 : decode cX3_copyFrom 51 = .ok (.getfield 21, 3) := by decide +kernel
theorem dX3_copyFrom_54 : decode cX3_copyFrom 54 = .ok (.iconst 0, 1) := by decide +kernel
theorem dX3_copyFrom_55 : decode cX3_copyFrom 55 = .ok (.bipush 18, 2) := by decide +kernel
theorem dX3_copyFrom_57 : decode cX3_copyFrom 57 = .ok (.invokestatic 41, 3) := by decide +kernel
theorem dX3_copyFrom_60 : decode cX3_copyFrom 60 = .ok (.aload_n 1, 1) := by decide +kernel
theorem dX3_copyFrom_61 : decode cX3_copyFrom 61 = .ok (.getfield 24, 3) := by decide +kernel
theorem dX3_copyFrom_64 : decode cX3_copyFrom 64 = .ok (.iconst 0, 1) := by decide +kernel
theorem dX3_copyFrom_65 : decode cX3_copyFrom 65 = .ok (.aload_n 0, 1) := by decide +kernel
theorem dX3_copyFrom_66 : decode cX3_copyFrom 66 = .ok (.getfield 24, 3) := by decide +kernel
theorem dX3_copyFrom_69 : decode cX3_copyFrom 69 = .ok (.iconst 0, 1) := by decide +kernel
theorem dX3_copyFrom_70 : decode cX3_copyFrom 70 = .ok (.bipush 18, 2) := by decide +kernel
theorem dX3_copyFrom_72 : decode cX3_copyFrom 72 = .ok (.invokestatic 41, 3) := by decide +kernel
theorem dX3_copyFrom_75 : decode cX3_copyFrom 75 = .ok (.aload_n 1, 1) := by decide +kernel
theorem dX3_copyFrom_76 : decode cX3_copyFrom 76 = .ok (.getfield 27, 3) := by decide +kernel
theorem dX3_copyFrom_79 : decode cX3_copyFrom 79 = .ok (.iconst 0, 1) := by decide +kernel
theorem dX3_copyFrom_80 : decode cX3_copyFrom 80 = .ok (.aload_n 0, 1) := by decide +kernel
theorem dX3_copyFrom_81 : decode cX3_copyFrom 81 = .ok (.getfield 27, 3) := by decide +kernel
theorem dX3_copyFrom_84 : decode cX3_copyFrom 84 = .ok (.iconst 0, 1) := by decide +kernel
theorem dX3_copyFrom_85 : decode cX3_copyFrom 85 = .ok (.bipush 18, 2) := by decide +kernel
theorem dX3_copyFrom_87 : decode cX3_copyFrom 87 = .ok (.invokestatic 41, 3) := by decide +kernel
theorem dX3_copyFrom_90 : decode cX3_copyFrom 90 = .ok (.aload_n 0, 1) := by decide +kernel
theorem dX3_copyFrom_91 : decode cX3_copyFrom 91 = .ok (.aload_n 1, 1) := by decide +kernel
theorem dX3_copyFrom_92 : decode cX3_copyFrom 92 = .ok (.getfield 30, 3) := by decide +kernel
theorem dX3_copyFrom_95 : decode cX3_copyFrom 95 = .ok (.putfield 30, 3) := by decide +kernel
theorem dX3_copyFrom_98 : decode cX3_copyFrom 98 = .ok (.return_, 1) := by decide +kernel
theorem ct_X3_copyFrom {l : Launch} {Γ : Am} (r0 : Nat) (r1 : Nat) (z : Hp) : Ct l Γ yX3_copyFrom mi_X3_copyFrom cvV [.ref (mB Γ + r0), .ref (mB Γ + r1)] z (m_X3_copyFrom r0 r1 z) := by
  refine Ct.ofJ (by decide) ⟨rfl, rfl⟩ (Nat.le_of_ble_eq_true rfl) ?_
  unfold m_X3_copyFrom
  show J l Γ mi_X3_copyFrom cvV 0 0 0 [(0, .ref (mB Γ + r0)), (1, .ref (mB Γ + r1))] [] z _
  refine j_aload_n (pc := 0) 1 dX3_copyFrom_0 rfl rfl ?_
  refine j_getR (pc := 1) ok_X3 (by decide) rfl w_184 dX3_copyFrom_1 (fun a1 => ?_)
  refine j_iconst (pc := 4) (v := 0) dX3_copyFrom_4 (by decide) ?_
  refine j_aload_n (pc := 5) 0 dX3_copyFrom_5 rfl rfl ?_
  refine j_getR (pc := 6) ok_X3 (by decide) rfl w_184 dX3_copyFrom_6 (fun a2 => ?_)
  refine j_iconst (pc := 9) (v := 0) dX3_copyFrom_9 (by decide) ?_
  refine j_bipush (pc := 10) (v := 18) dX3_copyFrom_10 (by decide) ?_
  refine j_arraycopy1 (pc := 12) ⟨w_1067, w_1062, w_1061, w_114⟩ (by decide) (by decide) dX3_copyFrom_12 (fun z3 => ?_)
  refine j_aload_n (pc := 15) 1 dX3_copyFrom_15 rfl rfl ?_
  refine j_getR (pc := 16) ok_X3 (by decide) rfl w_186 dX3_copyFrom_16 (fun a4 => ?_)
  refine j_iconst (pc := 19) (v := 0) dX3_copyFrom_19 (by decide) ?_
  refine j_aload_n (pc := 20) 0 dX3_copyFrom_20 rfl rfl ?_
  refine j_getR (pc := 21) ok_X3 (by decide) rfl w_186 dX3_copyFrom_21 (fun a5 => ?_)
  refine j_iconst (pc := 24) (v := 0) dX3_copyFrom_24 (by decide) ?_
  refine j_bipush (pc := 25) (v := 18) dX3_copyFrom_25 (by decide) ?_
  refine j_arraycopy1 (pc := 27) ⟨w_1067, w_1062, w_1061, w_114⟩ (by decide) (by decide) dX3_copyFrom_27 (fun z6 => ?_)
  refine j_aload_n (pc := 30) 1 dX3_copyFrom_30 rfl rfl ?_
  refine j_getR (pc := 31) ok_X3 (by decide) rfl w_189 dX3_copyFrom_31 (fun a7 => ?_)
  refine j_iconst (pc := 34) (v := 0) dX3_copyFrom_34 (by decide) ?_
  refine j_aload_n (pc := 35) 0 dX3_copyFrom_35 rfl rfl ?_
  refine j_getR (pc := 36) ok_X3 (by decide) rfl w_189 dX3_copyFrom_36 (fun a8 => ?_)
  refine j_iconst (pc := 39) (v := 0) dX3_copyFrom_39 (by decide) ?_
  refine j_bipush (pc := 40) (v := 18) dX3_copyFrom_40 (by decide) ?_
  refine j_arraycopy1 (pc := 42) ⟨w_1067, w_1062, w_1061, w_114⟩ (by decide) (by decide) dX3_copyFrom_42 (fun z9 => ?_)
  refine j_aload_n (pc := 45) 1 dX3_copyFrom_45 rfl rfl ?_
  refine j_getR (pc := 46) ok_X3 (by decide) rfl w_192 dX3_copyFrom_46 (fun a10 => ?_)
  refine j_iconst (pc := 49) (v := 0) dX3_copyFrom_49 (by decide) ?_
  refine j_aload_n (pc := 50) 0 dX3_copyFrom_50 rfl rfl ?_
  refine j_getR (pc := 51) ok_X3 (by decide) rfl w_192 dX3_copyFrom_51 (fun a11 => ?_)
  refine j_iconst (pc := 54) (v := 0) dX3_copyFrom_54 (by decide) ?_
  refine j_bipush (pc := 55) (v := 18) dX3_copyFrom_55 (by decide) ?_
  refine j_arraycopy1 (pc := 57) ⟨w_1067, w_1062, w_1061, w_114⟩ (by decide) (by decide) dX3_copyFrom_57 (fun z12 => ?_)
  refine j_aload_n (pc := 60) 1 dX3_copyFrom_60 rfl rfl ?_
  refine j_getR (pc := 61) ok_X3 (by decide) rfl w_195 dX3_copyFrom_61 (fun a13 => ?_)
  refine j_iconst (pc := 64) (v := 0) dX3_copyFrom_64 (by decide) ?_
  refine j_aload_n (pc := 65) 0 dX3_copyFrom_65 rfl rfl ?_
  refine j_getR (pc := 66) ok_X3 (by decide) rfl w_195 dX3_copyFrom_66 (fun a14 => ?_)
  refine j_iconst (pc := 69) (v := 0) dX3_copyFrom_69 (by decide) ?_
  refine j_bipush (pc := 70) (v := 18) dX3_copyFrom_70 (by decide) ?_
  refine j_arraycopy1 (pc := 72) ⟨w_1067, w_1062, w_1061, w_114⟩ (by decide) (by decide) dX3_copyFrom_72 (fun z15 => ?_)
  refine j_aload_n (pc := 75) 1 dX3_copyFrom_75 rfl rfl ?_
  refine j_getR (pc := 76) ok_X3 (by decide) rfl w_197 dX3_copyFrom_76 (fun a16 => ?_)
  refine j_iconst (pc := 79) (v := 0) dX3_copyFrom_79 (by decide) ?_
  refine j_aload_n (pc := 80) 0 dX3_copyFrom_80 rfl rfl ?_
  refine j_getR (pc := 81) ok_X3 (by decide) rfl w_197 dX3_copyFrom_81 (fun a17 => ?_)
  refine j_iconst (pc := 84) (v := 0) dX3_copyFrom_84 (by decide) ?_
  refine j_bipush (pc := 85) (v := 18) dX3_copyFrom_85 (by decide) ?_
  refine j_arraycopy1 (pc := 87) ⟨w_1067, w_1062, w_1061, w_114⟩ (by decide) (by decide) dX3_copyFrom_87 (fun z18 => ?_)
  refine j_aload_n (pc := 90) 0 dX3_copyFrom_90 rfl rfl ?_
  refine j_aload_n (pc := 91) 1 dX3_copyFrom_91 rfl rfl ?_
  refine j_getI (pc := 92) ok_X3 (by decide) rfl w_199 dX3_copyFrom_92 (fun x19 => ?_)
  refine j_putI (pc := 95) ok_X3 (by decide) rfl w_199 (Or.inl rfl) rfl rfl dX3_copyFrom_95 (fun z20 => ?_)
  exact j_return (pc := 98) dX3_copyFrom_98 rfl
theorem dX4_init_0 : decode cX4_init 0 = .ok (.aload_n 0, 1) := by decide +kernel
theorem dX4_init_1 : decode cX4_init 1 = .ok (.invokespecial 3, 3) := by decide +kernel
theorem dX4_init_4 : decode cX4_init 4 = .ok (.aload_n 0, 1) := by decide +kernel
theorem dX4_init_5 : decode cX4_init 5 = .ok (.sipush 700, 3) := by decide +kernel
theorem dX4_init_8 : decode cX4_init 8 = .ok (.newarray .int, 2) := by decide +kernel
theorem dX4_init_10 : decode cX4_init 10 = .ok (.putfield 9, 3) := by decide +kernel
theorem dX4_init_13 : decode cX4_init 13 = .ok (.aload_n 0, 1) := by decide +kernel
theorem dX4_init_14 : decode cX4_init 14 = .ok (.iconst 0, 1) := by decide +kernel
theorem dX4_init_15 : decode cX4_init 15 = .ok (.putfield 15, 3) := by decide +kernel
theorem dX4_init_18 : decode cX4_init 18 = .ok (.aload_n 0, 1) := by decide +kernel
theorem dX4_init_19 : decode cX4_init 19 = .ok (.iconst 0, 1) := by decide +kernel
theorem dX4_init_20 : decode cX4_init 20 = .ok (.putfield 19, 3) := by decide +kernel
theorem dX4_init_23 : decode cX4_init 23 = .ok (.aload_n 0, 1) := by decide +kernel
theorem dX4_init_24 : decode cX4_init 24 = .ok (.iconst 0, 1) := by decide +kernel
theorem dX4_init_25 : decode cX4_init 25 = .ok (.putfield 22, 3) := by decide +kernel
theorem dX4_init_28 : decode cX4_init 28 = .ok (.aload_n 0, 1) := by decide +kernel
theorem dX4_init_29 : decode cX4_init 29 = .ok (.iconst 0, 1) := by decide +kernel
theorem dX4_init_30 : decode cX4_init 30 = .ok (.putfield 25, 3) := by decide +kernel
theorem dX4_init_33 : decode cX4_init 33 = .ok (.aload_n 0, 1) := by decide +kernel
theorem dX4_init_34 : decode cX4_init 34 = .ok (.iconst 0, 1) := by decide +kernel
theorem dX4_init_35 : decode cX4_init 35 = .ok (.putfield 28, 3) := by decide +kernel
theorem dX4_init_38 : decode cX4_init 38 = .ok (.return_, 1) := by decide +kernel
theorem ct_X4_init {l : Launch} {Γ : Am} (r0 : Nat) (z : Hp) : Ct l Γ yX4_init mi_X4_init cvV [.ref (mB Γ + r0)] z (m_X4_init r0 z) := by
  refine Ct.ofJ (by decide) ⟨rfl, rfl⟩ (Nat.le_of_ble_eq_true rfl) ?_
  unfold m_X4_init
  show J l Γ mi_X4_init cvV 1 700 0 [(0, .ref (mB Γ + r0))] [] z _
  refine j_aload_n (pc := 0) 0 dX4_init_0 rfl rfl ?_
  refine j_objInit (pc := 1) w_381 w_122 w_123 dX4_init_1 (by decide) (by decide) ?_
  refine j_aload_n (pc := 4) 0 dX4_init_4 rfl rfl ?_
  refine j_sipush (pc := 5) (v := 700) dX4_init_5 (by decide) ?_
  refine j_newarr1 (pc := 8) (n0 := 700) (mc2 := 0) (ms2 := 0) w_177 dX4_init_8 (by decide) (by decide) (by decide) (by decide) (by decide) (fun a1 z2 => ?_)
  refine j_putR (pc := 10) ok_X4 (by decide) rfl w_382 (Or.inr ⟨rfl, rfl, rfl⟩) rfl rfl dX4_init_10 (fun z3 => ?_)
  refine j_aload_n (pc := 13) 0 dX4_init_13 rfl rfl ?_
  refine j_iconst (pc := 14) (v := 0) dX4_init_14 (by decide) ?_
  refine j_putI (pc := 15) ok_X4 (by decide) rfl w_383 (Or.inl rfl) rfl rfl dX4_init_15 (fun z4 => ?_)
  refine j_aload_n (pc := 18) 0 dX4_init_18 rfl rfl ?_
  refine j_iconst (pc := 19) (v := 0) dX4_init_19 (by decide) ?_
  refine j_putI (pc := 20) ok_X4 (by decide) rfl w_385 (Or.inl rfl) rfl rfl dX4_init_20 (fun z5 => ?_)
  refine j_aload_n (pc := 23) 0 dX4_init_23 rfl rfl ?_
  refine j_iconst (pc := 24) (v := 0) dX4_init_24 (by decide) ?_
  refine j_putI (pc := 25) ok_X4 (by decide) rfl w_386 (Or.inl rfl) rfl rfl dX4_init_25 (fun z6 => ?_)
  refine j_aload_n (pc := 28) 0 dX4_init_28 rfl rfl ?_
  refine j_iconst (pc := 29) (v := 0) dX4_init_29 (by decide) ?_
  refine j_putI (pc := 30) ok_X4 (by decide) rfl w_388 (Or.inl rfl) rfl rfl dX4_init_30 (fun z7 => ?_)
  refine j_aload_n (pc := 33) 0 dX4_init_33 rfl rfl ?_
  refine j_iconst (pc := 34) (v := 0) dX4_init_34 (by decide) ?_
  refine j_putI (pc := 35) ok_X4 (by decide) rfl w_390 (Or.inl rfl) rfl rfl dX4_init_35 (fun z8 => ?_)
  exact j_return (pc := 38) dX4_init_38 rfl
theorem dX4_append_0 : decode cX4_append 0 = .ok (.bipush 24, 2) := by decide +kernel
theorem dX4_append_2 : decode cX4_append 2 = .ok (.istore_n 2, 1) := by decide +kernel
theorem dX4_append_3 : decode cX4_append 3 = .ok (.iload_n 2, 1) := by decide +kernel
theorem dX4_append_4 : decode cX4_append 4 = .ok (.ifCond .lt 45, 3) := by decide +kernel
theorem dX4_append_7 : decode cX4_append 7 = .ok (.aload_n 0, 1) := by decide +kernel
theorem dX4_append_8 : decode cX4_append 8 = .ok (.getfield 15, 3) := by decide +kernel
theorem dX4_append_11 : decode cX4_append 11 = .ok (.sipush 700, 3) := by decide +kernel
theorem dX4_append_14 : decode cX4_append 14 = .ok (.if_icmp .ge 29, 3) := by decide +kernel
theorem dX4_append_17 : decode cX4_append 17 = .ok (.aload_n 0, 1) := by decide +kernel
theorem dX4_append_18 : decode cX4_append 18 = .ok (.getfield 9, 3) := by decide +kernel
theorem dX4_append_21 : decode cX4_append 21 = .ok (.aload_n 0, 1) := by decide +kernel
theorem dX4_append_22 : decode cX4_append 22 = .ok (.getfield 15, 3) := by decide +kernel
theorem dX4_append_25 : decode cX4_append 25 = .ok (.iload_n 1, 1) := by decide +kernel
theorem dX4_append_26 : decode cX4_append 26 = .ok (.iload_n 2, 1) := by decide +kernel
theorem dX4_append_27 : decode cX4_append 27 = .ok (.iushr, 1) := by decide +kernel
theorem dX4_append_28 : decode cX4_append 28 = .ok (.sipush 255, 3) := by decide +kernel
theorem dX4_append_31 : decode cX4_append 31 = .ok (.iand, 1) := by decide +kernel
theorem dX4_append_32 : decode cX4_append 32 = .ok (.iastore, 1) := by decide +kernel
theorem dX4_append_33 : decode cX4_append 33 = .ok (.aload_n 0, 1) := by decide +kernel
theorem dX4_append_34 : decode cX4_append 34 = .ok (.dup, 1) := by decide +kernel
theorem dX4_append_35 : decode cX4_append 35 = .ok (.getfield 15, 3) := by decide +kernel
theorem dX4_append_38 : decode cX4_append 38 = .ok (.iconst 1, 1) := by decide +kernel
theorem dX4_append_39 : decode cX4_append 39 = .ok (.iadd, 1) := by decide +kernel
theorem dX4_append_40 : decode cX4_append 40 = .ok (.putfield 15, 3) := by decide +kernel
theorem dX4_append_43 : decode cX4_append 43 = .ok (.iinc 2 (-8), 3) := by decide +kernel
theorem dX4_append_46 : decode cX4_append 46 = .ok (.goto (-43), 3) := by decide +kernel
theorem dX4_append_49 : decode cX4_append 49 = .ok (.return_, 1) := by decide +kernel
theorem j_X4_append_B43 {l : Launch} {Γ : Am} {k3 : Nat → Int32 → Int32 → Hp → Option (Unit × Hp)} (hL3 : ∀ (r0 : Nat) (v1 : Int32) (v2 : Int32) (z : Hp), J l Γ mi_X4_append cvV 0 0 3 [(0, .ref (mB Γ + r0)), (1, .int v1), (2, .int v2)] [] z (k3 r0 v1 v2 z)) : ∀ (r0 : Nat) (v1 : Int32) (v2 : Int32) (z : Hp), J l Γ mi_X4_append cvV 0 0 43 [(0, .ref (mB Γ + r0)), (1, .int v1), (2, .int v2)] [] z (m_X4_append_B43 k3 r0 v1 v2 z) := by
  intro r0 v1 v2 z
  unfold m_X4_append_B43
  refine j_iinc (pc := 43) (n0 := 2) (v0 := v2 + (-8)) (lv2 := [(2, .int (v2 + (-8))), (0, .ref (mB Γ + r0)), (1, .int v1)]) dX4_append_43 rfl rfl (by decide) rfl ?_
  refine j_goto (pc := 46) 3 dX4_append_46 (by decide) ?_
  exact J.sub [1, 2, 0] rfl (hL3 r0 v1 (v2 + (-8)) z)
theorem j_X4_append_L3 {l : Launch} {Γ : Am}   : ∀ (f : Nat), ∀ (r0 : Nat) (v1 : Int32) (v2 : Int32) (z : Hp), J l Γ mi_X4_append cvV 0 0 3 [(0, .ref (mB Γ + r0)), (1, .int v1), (2, .int v2)] [] z (m_X4_append_L3  f r0 v1 v2 z) := by
  intro f
  induction f with
  | zero => intro r0 v1 v2 z; exact J.none
  | succ f hL3 =>
    intro r0 v1 v2 z
    rw [m_X4_append_L3]
    refine j_iload_n (pc := 3) 2 dX4_append_3 rfl rfl ?_
    refine j_if_lt (pc := 4) 49 dX4_append_4 (by decide) ?_ ?_
    · exact j_return (pc := 49) dX4_append_49 rfl
    refine j_aload_n (pc := 7) 0 dX4_append_7 rfl rfl ?_
    refine j_getI (pc := 8) ok_X4 (by decide) rfl w_383 dX4_append_8 (fun x1 => ?_)
    refine j_sipush (pc := 11) (v := 700) dX4_append_11 (by decide) ?_
    refine j_icmp_ge (pc := 14) 43 dX4_append_14 (by decide) ?_ ?_
    · exact J.sub [0, 1, 2] rfl ((j_X4_append_B43 hL3) r0 v1 v2 z)
    refine j_aload_n (pc := 17) 0 dX4_append_17 rfl rfl ?_
    refine j_getR (pc := 18) ok_X4 (by decide) rfl w_382 dX4_append_18 (fun a2 => ?_)
    refine j_aload_n (pc := 21) 0 dX4_append_21 rfl rfl ?_
    refine j_getI (pc := 22) ok_X4 (by decide) rfl w_383 dX4_append_22 (fun x3 => ?_)
    refine j_iload_n (pc := 25) 1 dX4_append_25 rfl rfl ?_
    refine j_iload_n (pc := 26) 2 dX4_append_26 rfl rfl ?_
    refine j_iushr (pc := 27) dX4_append_27 ?_
    refine j_sipush (pc := 28) (v := 255) dX4_append_28 (by decide) ?_
    refine j_iand (pc := 31) dX4_append_31 ?_
    refine j_iastore (pc := 32) dX4_append_32 (fun z4 => ?_)
    refine j_aload_n (pc := 33) 0 dX4_append_33 rfl rfl ?_
    refine j_dup (pc := 34) dX4_append_34 rfl ?_
    refine j_getI (pc := 35) ok_X4 (by decide) rfl w_383 dX4_append_35 (fun x5 => ?_)
    refine j_iconst (pc := 38) (v := 1) dX4_append_38 (by decide) ?_
    refine j_iadd (pc := 39) dX4_append_39 ?_
    refine j_putI (pc := 40) ok_X4 (by decide) rfl w_383 (Or.inl rfl) rfl rfl dX4_append_40 (fun z6 => ?_)
    exact J.sub [0, 1, 2] rfl ((j_X4_append_B43 hL3) r0 v1 v2 z6)
theorem ct_X4_append {l : Launch} {Γ : Am} (r0 : Nat) (v1 : Int32) (z : Hp) : Ct l Γ yX4_append mi_X4_append cvV [.ref (mB Γ + r0), .int v1] z (m_X4_append r0 v1 z) := by
  refine Ct.ofJ (by decide) ⟨rfl, rfl⟩ (Nat.le_of_ble_eq_true rfl) ?_
  unfold m_X4_append
  show J l Γ mi_X4_append cvV 0 0 0 [(0, .ref (mB Γ + r0)), (1, .int v1)] [] z _
  refine j_bipush (pc := 0) (v := 24) dX4_append_0 (by decide) ?_
  refine j_istore_n (pc := 2) (lv2 := [(2, .int 24), (0, .ref (mB Γ + r0)), (1, .int v1)]) dX4_append_2 rfl (by decide) rfl ?_
  exact J.sub [1, 2, 0] rfl ((j_X4_append_L3 FU) r0 v1 24 z)
theorem dX5_init_0 : decode cX5_init 0 = .ok (.aload_n 0, 1) := by decide +kernel
theorem dX5_init_1 : decode cX5_init 1 = .ok (.invokespecial 3, 3) := by decide +kernel
theorem dX5_init_4 : decode cX5_init 4 = .ok (.aload_n 0, 1) := by decide +kernel
theorem dX5_init_5 : decode cX5_init 5 = .ok (.iconst 4, 1) := by decide +kernel
theorem dX5_init_6 : decode cX5_init 6 = .ok (.newarray .int, 2) := by decide +kernel
theorem dX5_init_8 : decode cX5_init 8 = .ok (.putfield 9, 3) := by decide +kernel
theorem dX5_init_11 : decode cX5_init 11 = .ok (.aload_n 0, 1) := by decide +kernel
theorem dX5_init_12 : decode cX5_init 12 = .ok (.bipush 12, 2) := by decide +kernel
theorem dX5_init_14 : decode cX5_init 14 = .ok (.newarray .int, 2) := by decide +kernel
theorem dX5_init_16 : decode cX5_init 16 = .ok (.putfield 15, 3) := by decide +kernel
theorem dX5_init_19 : decode cX5_init 19 = .ok (.aload_n 0, 1) := by decide +kernel
theorem dX5_init_20 : decode cX5_init 20 = .ok (.bipush 12, 2) := by decide +kernel
theorem dX5_init_22 : decode cX5_init 22 = .ok (.newarray .int, 2) := by decide +kernel
theorem dX5_init_24 : decode cX5_init 24 = .ok (.putfield 18, 3) := by decide +kernel
theorem dX5_init_27 : decode cX5_init 27 = .ok (.aload_n 0, 1) := by decide +kernel
theorem dX5_init_28 : decode cX5_init 28 = .ok (.bipush 12, 2) := by decide +kernel
theorem dX5_init_30 : decode cX5_init 30 = .ok (.newarray .int, 2) := by decide +kernel
theorem dX5_init_32 : decode cX5_init 32 = .ok (.putfield 21, 3) := by decide +kernel
theorem dX5_init_35 : decode cX5_init 35 = .ok (.aload_n 0, 1) := by decide +kernel
theorem dX5_init_36 : decode cX5_init 36 = .ok (.iconst 0, 1) := by decide +kernel
theorem dX5_init_37 : decode cX5_init 37 = .ok (.putfield 24, 3) := by decide +kernel
theorem dX5_init_40 : decode cX5_init 40 = .ok (.return_, 1) := by decide +kernel
theorem ct_X5_init {l : Launch} {Γ : Am} (r0 : Nat) (z : Hp) : Ct l Γ yX5_init mi_X5_init cvV [.ref (mB Γ + r0)] z (m_X5_init r0 z) := by
  refine Ct.ofJ (by decide) ⟨rfl, rfl⟩ (Nat.le_of_ble_eq_true rfl) ?_
  unfold m_X5_init
  show J l Γ mi_X5_init cvV 4 40 0 [(0, .ref (mB Γ + r0))] [] z _
  refine j_aload_n (pc := 0) 0 dX5_init_0 rfl rfl ?_
  refine j_objInit (pc := 1) w_249 w_122 w_123 dX5_init_1 (by decide) (by decide) ?_
  refine j_aload_n (pc := 4) 0 dX5_init_4 rfl rfl ?_
  refine j_iconst (pc := 5) (v := 4) dX5_init_5 (by decide) ?_
  refine j_newarr1 (pc := 6) (n0 := 4) (mc2 := 3) (ms2 := 36) w_177 dX5_init_6 (by decide) (by decide) (by decide) (by decide) (by decide) (fun a1 z2 => ?_)
  refine j_putR (pc := 8) ok_X5 (by decide) rfl w_250 (Or.inr ⟨rfl, rfl, rfl⟩) rfl rfl dX5_init_8 (fun z3 => ?_)
  refine j_aload_n (pc := 11) 0 dX5_init_11 rfl rfl ?_
  refine j_bipush (pc := 12) (v := 12) dX5_init_12 (by decide) ?_
  refine j_newarr1 (pc := 14) (n0 := 12) (mc2 := 2) (ms2 := 24) w_177 dX5_init_14 (by decide) (by decide) (by decide) (by decide) (by decide) (fun a4 z5 => ?_)
  refine j_putR (pc := 16) ok_X5 (by decide) rfl w_252 (Or.inr ⟨rfl, rfl, rfl⟩) rfl rfl dX5_init_16 (fun z6 => ?_)
  refine j_aload_n (pc := 19) 0 dX5_init_19 rfl rfl ?_
  refine j_bipush (pc := 20) (v := 12) dX5_init_20 (by decide) ?_
  refine j_newarr1 (pc := 22) (n0 := 12) (mc2 := 1) (ms2 := 12) w_177 dX5_init_22 (by decide) (by decide) (by decide) (by decide) (by decide) (fun a7 z8 => ?_)
  refine j_putR (pc := 24) ok_X5 (by decide) rfl w_254 (Or.inr ⟨rfl, rfl, rfl⟩) rfl rfl dX5_init_24 (fun z9 => ?_)
  refine j_aload_n (pc := 27) 0 dX5_init_27 rfl rfl ?_
  refine j_bipush (pc := 28) (v := 12) dX5_init_28 (by decide) ?_
  refine j_newarr1 (pc := 30) (n0 := 12) (mc2 := 0) (ms2 := 0) w_177 dX5_init_30 (by decide) (by decide) (by decide) (by decide) (by decide) (fun a10 z11 => ?_)
  refine j_putR (pc := 32) ok_X5 (by decide) rfl w_255 (Or.inr ⟨rfl, rfl, rfl⟩) rfl rfl dX5_init_32 (fun z12 => ?_)
  refine j_aload_n (pc := 35) 0 dX5_init_35 rfl rfl ?_
  refine j_iconst (pc := 36) (v := 0) dX5_init_36 (by decide) ?_
  refine j_putI (pc := 37) ok_X5 (by decide) rfl w_256 (Or.inl rfl) rfl rfl dX5_init_37 (fun z13 => ?_)
  exact j_return (pc := 40) dX5_init_40 rfl
theorem dX5_compares_0 : decode cX5_compares 0 = .ok (.aload_n 0, 1) := by decide +kernel
theorem dX5_compares_1 : decode cX5_compares 1 = .ok (.getfield 18, 3) := by decide +kernel
theorem dX5_compares_4 : decode cX5_compares 4 = .ok (.iload_n 1, 1) := by decide +kernel
theorem dX5_compares_5 : decode cX5_compares 5 = .ok (.iaload, 1) := by decide +kernel
theorem dX5_compares_6 : decode cX5_compares 6 = .ok (.bipush 60, 2) := by decide +kernel
theorem dX5_compares_8 : decode cX5_compares 8 = .ok (.if_icmp .ne 21, 3) := by decide +kernel
theorem dX5_compares_11 : decode cX5_compares 11 = .ok (.iload_n 2, 1) := by decide +kernel
theorem dX5_compares_12 : decode cX5_compares 12 = .ok (.aload_n 0, 1) := by decide +kernel
theorem dX5_compares_13 : decode cX5_compares 13 = .ok (.getfield 21, 3) := by decide +kernel
theorem dX5_compares_16 : decode cX5_compares 16 = .ok (.iload_n 1, 1) := by decide +kernel
theorem dX5_compares_17 : decode cX5_compares 17 = .ok (.iaload, 1) := by decide +kernel
theorem dX5_compares_18 : decode cX5_compares 18 = .ok (.if_icmp .ge 7, 3) := by decide +kernel
theorem dX5_compares_21 : decode cX5_compares 21 = .ok (.iconst 1, 1) := by decide +kernel
theorem dX5_compares_22 : decode cX5_compares 22 = .ok (.goto 22, 3) := by decide +kernel
theorem dX5_compares_25 : decode cX5_compares 25 = .ok (.iconst 0, 1) := by decide +kernel
theorem dX5_compares_26 : decode cX5_compares 26 = .ok (.goto 18, 3) := by decide +kernel
theorem dX5_compares_29 : decode cX5_compares 29 = .ok (.iload_n 2, 1) := by decide +kernel
theorem dX5_compares_30 : decode cX5_compares 30 = .ok (.aload_n 0, 1) := by decide +kernel
theorem dX5_compares_31 : decode cX5_compares 31 = .ok (.getfield 21, 3) := by decide +kernel
theorem dX5_compares_34 : decode cX5_compares 34 = .ok (.iload_n 1, 1) := by decide +kernel
theorem dX5_compares_35 : decode cX5_compares 35 = .ok (.iaload, 1) := by decide +kernel
theorem dX5_compares_36 : decode cX5_compares 36 = .ok (.if_icmp .le 7, 3) := by decide +kernel
theorem dX5_compares_39 : decode cX5_compares 39 = .ok (.iconst 1, 1) := by decide +kernel
theorem dX5_compares_40 : decode cX5_compares 40 = .ok (.goto 4, 3) := by decide +kernel
theorem dX5_compares_43 : decode cX5_compares 43 = .ok (.iconst 0, 1) := by decide +kernel
theorem dX5_compares_44 : decode cX5_compares 44 = .ok (.ireturn, 1) := by decide +kernel
theorem ct_X5_compares {l : Launch} {Γ : Am} (r0 : Nat) (v1 : Int32) (v2 : Int32) (z : Hp) : Ct l Γ yX5_compares mi_X5_compares cvI [.ref (mB Γ + r0), .int v1, .int v2] z (m_X5_compares r0 v1 v2 z) := by
  refine Ct.ofJ (by decide) ⟨rfl, rfl⟩ (Nat.le_of_ble_eq_true rfl) ?_
  unfold m_X5_compares
  show J l Γ mi_X5_compares cvI 0 0 0 [(0, .ref (mB Γ + r0)), (1, .int v1), (2, .int v2)] [] z _
  refine j_aload_n (pc := 0) 0 dX5_compares_0 rfl rfl ?_
  refine j_getR (pc := 1) ok_X5 (by decide) rfl w_254 dX5_compares_1 (fun a1 => ?_)
  refine j_iload_n (pc := 4) 1 dX5_compares_4 rfl rfl ?_
  refine j_iaload (pc := 5) dX5_compares_5 (fun x2 => ?_)
  refine j_bipush (pc := 6) (v := 60) dX5_compares_6 (by decide) ?_
  refine j_icmp_ne (pc := 8) 29 dX5_compares_8 (by decide) ?_ ?_
  · refine j_iload_n (pc := 29) 2 dX5_compares_29 rfl rfl ?_
    refine j_aload_n (pc := 30) 0 dX5_compares_30 rfl rfl ?_
    refine j_getR (pc := 31) ok_X5 (by decide) rfl w_255 dX5_compares_31 (fun a3 => ?_)
    refine j_iload_n (pc := 34) 1 dX5_compares_34 rfl rfl ?_
    refine j_iaload (pc := 35) dX5_compares_35 (fun x4 => ?_)
    refine j_icmp_le (pc := 36) 43 dX5_compares_36 (by decide) ?_ ?_
    · refine j_iconst (pc := 43) (v := 0) dX5_compares_43 (by decide) ?_
      exact j_ireturn (pc := 44) dX5_compares_44 rfl rfl
    refine j_iconst (pc := 39) (v := 1) dX5_compares_39 (by decide) ?_
    refine j_goto (pc := 40) 44 dX5_compares_40 (by decide) ?_
    exact j_ireturn (pc := 44) dX5_compares_44 rfl rfl
  refine j_iload_n (pc := 11) 2 dX5_compares_11 rfl rfl ?_
  refine j_aload_n (pc := 12) 0 dX5_compares_12 rfl rfl ?_
  refine j_getR (pc := 13) ok_X5 (by decide) rfl w_255 dX5_compares_13 (fun a5 => ?_)
  refine j_iload_n (pc := 16) 1 dX5_compares_16 rfl rfl ?_
  refine j_iaload (pc := 17) dX5_compares_17 (fun x6 => ?_)
  refine j_icmp_ge (pc := 18) 25 dX5_compares_18 (by decide) ?_ ?_
  · refine j_iconst (pc := 25) (v := 0) dX5_compares_25 (by decide) ?_
    refine j_goto (pc := 26) 44 dX5_compares_26 (by decide) ?_
    exact j_ireturn (pc := 44) dX5_compares_44 rfl rfl
  refine j_iconst (pc := 21) (v := 1) dX5_compares_21 (by decide) ?_
  refine j_goto (pc := 22) 44 dX5_compares_22 (by decide) ?_
  exact j_ireturn (pc := 44) dX5_compares_44 rfl rfl
theorem dX5_copyFrom_0 : decode cX5_copyFrom 0 = .ok (.aload_n 1, 1) := by decide +kernel
theorem dX5_copyFrom_1 : decode cX5_copyFrom 1 = .ok (.getfield 9, 3) := by decide +kernel
theorem dX5_copyFrom_4 : decode cX5_copyFrom 4 = .ok (.iconst 0, 1) := by decide +kernel
theorem dX5_copyFrom_5 : decode cX5_copyFrom 5 = .ok (.aload_n 0, 1) := by decide +kernel
theorem dX5_copyFrom_6 : decode cX5_copyFrom 6 = .ok (.getfield 9, 3) := by decide +kernel
theorem dX5_copyFrom_9 : decode cX5_copyFrom 9 = .ok (.iconst 0, 1) := by decide +kernel
theorem dX5_copyFrom_10 : decode cX5_copyFrom 10 = .ok (.iconst 4, 1) := by decide +kernel
theorem dX5_copyFrom_11 : decode cX5_copyFrom 11 = .ok (.invokestatic 28, 3) := by decide +kernel
theorem dX5_copyFrom_14 : decode cX5_copyFrom 14 = .ok (.aload_n 1, 1) := by decide +kernel
theorem dX5_copyFrom_15 : decode cX5_copyFrom 15 = .ok (.getfield 15, 3) := by decide +kernel
theorem dX5_copyFrom_18 : decode cX5_copyFrom 18 = .ok (.iconst 0, 1) := by decide +kernel
theorem dX5_copyFrom_19 : decode cX5_copyFrom 19 = .ok (.aload_n 0, 1) := by decide +kernel
theorem dX5_copyFrom_20 : decode cX5_copyFrom 20 = .ok (.getfield 15, 3) := by decide +kernel
theorem dX5_copyFrom_23 : decode cX5_copyFrom 23 = .ok (.iconst 0, 1) := by decide +kernel
theorem dX5_copyFrom_24 : decode cX5_copyFrom 24 = .ok (.bipush 12, 2) := by decide +kernel
theorem dX5_copyFrom_26 : decode cX5_copyFrom 26 = .ok (.invokestatic 28, 3) := by decide +kernel
theorem dX5_copyFrom_29 : decode cX5_copyFrom 29 = .ok (.aload_n 1, 1) := by decide +kernel
theorem dX5_copyFrom_30 : decode cX5_copyFrom 30 = .ok (.getfield 18, 3) := by decide +kernel
theorem dX5_copyFrom_33 : decode cX5_copyFrom 33 = .ok (.iconst 0, 1) := by decide +kernel
theorem dX5_copyFrom_34 : decode cX5_copyFrom 34 = .ok (.aload_n 0, 1) := by decide +kernel
theorem dX5_copyFrom_35 : decode cX5_copyFrom 35 = .ok (.getfield 18, 3) := by decide +kernel
theorem dX5_copyFrom_38 : decode cX5_copyFrom 38 = .ok (.iconst 0, 1) := by decide +kernel
theorem dX5_copyFrom_39 : decode cX5_copyFrom 39 = .ok (.bipush 12, 2) := by decide +kernel
theorem dX5_copyFrom_41 : decode cX5_copyFrom 41 = .ok (.invokestatic 28, 3) := by decide +kernel
theorem dX5_copyFrom_44 : decode cX5_copyFrom 44 = .ok (.aload_n 1, 1) := by decide +kernel
theorem dX5_copyFrom_45 : decode cX5_copyFrom 45 = .ok (.getfield 21, 3) := by decide +kernel
theorem dX5_copyFrom_48 : decode cX5_copyFrom 48 = .ok (.iconst 0, 1) := by decide +kernel
theorem dX5_copyFrom_49 : decode cX5_copyFrom 49 = .ok (.aload_n 0, 1) := by decide +kernel
theorem dX5_copyFrom_50 : decode cX5_copyFrom 50 = .ok (.getfield 21, 3) := by decide +kernel
theorem dX5_copyFrom_53 : decode cX5_copyFrom 53 = .ok (.iconst 0, 1) := by decide +kernel
theorem dX5_copyFrom_54 : decode cX5_copyFrom 54 = .ok (.bipush 12, 2) := by decide +kernel
theorem dX5_copyFrom_56 : decode cX5_copyFrom 56 = .ok (.invokestatic 28, 3) := by decide +kernel
theorem dX5_copyFrom_59 : decode cX5_copyFrom 59 = .ok (.aload_n 0, 1) := by decide +kernel
theorem dX5_copyFrom_60 : decode cX5_copyFrom 60 = .ok (.aload_n 1, 1) := by decide +kernel
theorem dX5_copyFrom_61 : decode cX5_copyFrom 61 = .ok (.getfield 24, 3) := by decide +kernel
theorem dX5_copyFrom_64 : decode cX5_copyFrom 64 = .ok (.putfield 24, 3) := by decide +kernel
theorem dX5_copyFrom_67 : decode cX5_copyFrom 67 = .ok (.return_, 1) := by decide +kernel
theorem ct_X5_copyFrom {l : Launch} {Γ : Am} (r0 : Nat) (r1 : Nat) (z : Hp) : Ct l Γ yX5_copyFrom mi_X5_copyFrom cvV [.ref (mB Γ + r0), .ref (mB Γ + r1)] z (m_X5_copyFrom r0 r1 z) := by
  refine Ct.ofJ (by decide) ⟨rfl, rfl⟩ (Nat.le_of_ble_eq_true rfl) ?_
  unfold m_X5_copyFrom
  show J l Γ mi_X5_copyFrom cvV 0 0 0 [(0, .ref (mB Γ + r0)), (1, .ref (mB Γ + r1))] [] z _
  refine j_aload_n (pc := 0) 1 dX5_copyFrom_0 rfl rfl ?_
  refine j_getR (pc := 1) ok_X5 (by decide) rfl w_250 dX5_copyFrom_1 (fun a1 => ?_)
  refine j_iconst (pc := 4) (v := 0) dX5_copyFrom_4 (by decide) ?_
  refine j_aload_n (pc := 5) 0 dX5_copyFrom_5 rfl rfl ?_
  refine j_getR (pc := 6) ok_X5 (by decide) rfl w_250 dX5_copyFrom_6 (fun a2 => ?_)
  refine j_iconst (pc := 9) (v := 0) dX5_copyFrom_9 (by decide) ?_
  refine j_iconst (pc := 10) (v := 4) dX5_copyFrom_10 (by decide) ?_
  refine j_arraycopy1 (pc := 11) ⟨w_1077, w_1062, w_1061, w_114⟩ (by decide) (by decide) dX5_copyFrom_11 (fun z3 => ?_)
  refine j_aload_n (pc := 14) 1 dX5_copyFrom_14 rfl rfl ?_
  refine j_getR (pc := 15) ok_X5 (by decide) rfl w_252 dX5_copyFrom_15 (fun a4 => ?_)
  refine j_iconst (pc := 18) (v := 0) dX5_copyFrom_18 (by decide) ?_
  refine j_aload_n (pc := 19) 0 dX5_copyFrom_19 rfl rfl ?_
  refine j_getR (pc := 20) ok_X5 (by decide) rfl w_252 dX5_copyFrom_20 (fun a5 => ?_)
  refine j_iconst (pc := 23) (v := 0) dX5_copyFrom_23 (by decide) ?_
  refine j_bipush (pc := 24) (v := 12) dX5_copyFrom_24 (by decide) ?_
  refine j_arraycopy1 (pc := 26) ⟨w_1077, w_1062, w_1061, w_114⟩ (by decide) (by decide) dX5_copyFrom_26 (fun z6 => ?_)
  refine j_aload_n (pc := 29) 1 dX5_copyFrom_29 rfl rfl ?_
  refine j_getR (pc := 30) ok_X5 (by decide) rfl w_254 dX5_copyFrom_30 (fun a7 => ?_)
  refine j_iconst (pc := 33) (v := 0) dX5_copyFrom_33 (by decide) ?_
  refine j_aload_n (pc := 34) 0 dX5_copyFrom_34 rfl rfl ?_
  refine j_getR (pc := 35) ok_X5 (by decide) rfl w_254 dX5_copyFrom_35 (fun a8 => ?_)
  refine j_iconst (pc := 38) (v := 0) dX5_copyFrom_38 (by decide) ?_
  refine j_bipush (pc := 39) (v := 12) dX5_copyFrom_39 (by decide) ?_
  refine j_arraycopy1 (pc := 41) ⟨w_1077, w_1062, w_1061, w_114⟩ (by decide) (by decide) dX5_copyFrom_41 (fun z9 => ?_)
  refine j_aload_n (pc := 44) 1 dX5_copyFrom_44 rfl rfl ?_
  refine j_getR (pc := 45) ok_X5 (by decide) rfl w_255 dX5_copyFrom_45 (fun a10 => ?_)
  refine j_iconst (pc := 48) (v := 0) dX5_copyFrom_48 (by decide) ?_
  refine j_aload_n (pc := 49) 0 dX5_copyFrom_49 rfl rfl ?_
  refine j_getR (pc := 50) ok_X5 (by decide) rfl w_255 dX5_copyFrom_50 (fun a11 => ?_)
  refine j_iconst (pc := 53) (v := 0) dX5_copyFrom_53 (by decide) ?_
  refine j_bipush (pc := 54) (v := 12) dX5_copyFrom_54 (by decide) ?_
  refine j_arraycopy1 (pc := 56) ⟨w_1077, w_1062, w_1061, w_114⟩ (by decide) (by decide) dX5_copyFrom_56 (fun z12 => ?_)
  refine j_aload_n (pc := 59) 0 dX5_copyFrom_59 rfl rfl ?_
  refine j_aload_n (pc := 60) 1 dX5_copyFrom_60 rfl rfl ?_
  refine j_getI (pc := 61) ok_X5 (by decide) rfl w_256 dX5_copyFrom_61 (fun x13 => ?_)
  refine j_putI (pc := 64) ok_X5 (by decide) rfl w_256 (Or.inl rfl) rfl rfl dX5_copyFrom_64 (fun z14 => ?_)
  exact j_return (pc := 67) dX5_copyFrom_67 rfl
theorem dX6_init_0 : decode cX6_init 0 = .ok (.aload_n 0, 1) := by decide +kernel
theorem dX6_init_1 : decode cX6_init 1 = .ok (.invokespecial 3, 3) := by decide +kernel
theorem dX6_init_4 : decode cX6_init 4 = .ok (.aload_n 0, 1) := by decide +kernel
theorem dX6_init_5 : decode cX6_init 5 = .ok (.iconst 4, 1) := by decide +kernel
theorem dX6_init_6 : decode cX6_init 6 = .ok (.bipush 60, 2) := by decide +kernel
theorem dX6_init_8 : decode cX6_init 8 = .ok (.multianewarray 9 2, 4) := by decide +kernel
theorem dX6_init_12 : decode cX6_init 12 = .ok (.putfield 11, 3) := by decide +kernel
theorem dX6_init_15 : decode cX6_init 15 = .ok (.aload_n 0, 1) := by decide +kernel
theorem dX6_init_16 : decode cX6_init 16 = .ok (.iconst 4, 1) := by decide +kernel
theorem dX6_init_17 : decode cX6_init 17 = .ok (.newarray .int, 2) := by decide +kernel
theorem dX6_init_19 : decode cX6_init 19 = .ok (.putfield 16, 3) := by decide +kernel
theorem dX6_init_22 : decode cX6_init 22 = .ok (.aload_n 0, 1) := by decide +kernel
theorem dX6_init_23 : decode cX6_init 23 = .ok (.iconst 4, 1) := by decide +kernel
theorem dX6_init_24 : decode cX6_init 24 = .ok (.newarray .int, 2) := by decide +kernel
theorem dX6_init_26 : decode cX6_init 26 = .ok (.putfield 20, 3) := by decide +kernel
theorem dX6_init_29 : decode cX6_init 29 = .ok (.aload_n 0, 1) := by decide +kernel
theorem dX6_init_30 : decode cX6_init 30 = .ok (.getfield 20, 3) := by decide +kernel
theorem dX6_init_33 : decode cX6_init 33 = .ok (.iconst (-1), 1) := by decide +kernel
theorem dX6_init_34 : decode cX6_init 34 = .ok (.invokestatic 23, 3) := by decide +kernel
theorem dX6_init_37 : decode cX6_init 37 = .ok (.return_, 1) := by decide +kernel
theorem cw_X6_init_23 : CwS mi_X6_init mi_J7_fill_53178 yJ7_fill_53178 23 2 := ⟨⟨w_499, w_500, w_107, w_501⟩, ⟨by decide, by decide⟩, by decide +kernel, by decide, by decide⟩
theorem ct_X6_init {l : Launch} {Γ : Am} (r0 : Nat) (z : Hp) : Ct l Γ yX6_init mi_X6_init cvV [.ref (mB Γ + r0)] z (m_X6_init r0 z) := by
  refine Ct.ofJ (by decide) ⟨rfl, rfl⟩ (Nat.le_of_ble_eq_true rfl) ?_
  unfold m_X6_init
  show J l Γ mi_X6_init cvV 7 252 0 [(0, .ref (mB Γ + r0))] [] z _
  refine j_aload_n (pc := 0) 0 dX6_init_0 rfl rfl ?_
  refine j_objInit (pc := 1) w_496 w_122 w_123 dX6_init_1 (by decide) (by decide) ?_
  refine j_aload_n (pc := 4) 0 dX6_init_4 rfl rfl ?_
  refine j_iconst (pc := 5) (v := 4) dX6_init_5 (by decide) ?_
  refine j_bipush (pc := 6) (v := 60) dX6_init_6 (by decide) ?_
  refine j_multi (pc := 8) (n0 := 4) (k0 := 60) (mc2 := 2) (ms2 := 8) w_497 w_514 dX6_init_8 (by decide) (by decide) (by decide) (by decide) (by decide) (by decide) (by decide) (fun a1 z2 => ?_)
  refine j_putR (pc := 12) ok_X6 (by decide) rfl w_502 (Or.inr ⟨rfl, rfl, rfl⟩) rfl rfl dX6_init_12 (fun z3 => ?_)
  refine j_aload_n (pc := 15) 0 dX6_init_15 rfl rfl ?_
  refine j_iconst (pc := 16) (v := 4) dX6_init_16 (by decide) ?_
  refine j_newarr1 (pc := 17) (n0 := 4) (mc2 := 1) (ms2 := 4) w_177 dX6_init_17 (by decide) (by decide) (by decide) (by decide) (by decide) (fun a4 z5 => ?_)
  refine j_putR (pc := 19) ok_X6 (by decide) rfl w_504 (Or.inr ⟨rfl, rfl, rfl⟩) rfl rfl dX6_init_19 (fun z6 => ?_)
  refine j_aload_n (pc := 22) 0 dX6_init_22 rfl rfl ?_
  refine j_iconst (pc := 23) (v := 4) dX6_init_23 (by decide) ?_
  refine j_newarr1 (pc := 24) (n0 := 4) (mc2 := 0) (ms2 := 0) w_177 dX6_init_24 (by decide) (by decide) (by decide) (by decide) (by decide) (fun a7 z8 => ?_)
  refine j_putR (pc := 26) ok_X6 (by decide) rfl w_506 (Or.inr ⟨rfl, rfl, rfl⟩) rfl rfl dX6_init_26 (fun z9 => ?_)
  refine j_aload_n (pc := 29) 0 dX6_init_29 rfl rfl ?_
  refine j_getR (pc := 30) ok_X6 (by decide) rfl w_506 dX6_init_30 (fun a10 => ?_)
  refine j_iconst (pc := 33) (v := (-1)) dX6_init_33 (by decide) ?_
  refine j_callS_V (pc := 34) (as := [.ref (mB Γ + a10), .int (-1)]) (mc2 := 0) (ms2 := 0) (ct_J7_fill_53178 _ _ _) cw_X6_init_23 dX6_init_34 (Nat.le_of_ble_eq_true rfl) rfl (by decide) (by decide) (fun _ z11 => ?_)
  exact j_return (pc := 37) dX6_init_37 rfl
theorem dX6_hasRow_0 : decode cX6_hasRow 0 = .ok (.aload_n 0, 1) := by decide +kernel
theorem dX6_hasRow_1 : decode cX6_hasRow 1 = .ok (.getfield 20, 3) := by decide +kernel
theorem dX6_hasRow_4 : decode cX6_hasRow 4 = .ok (.iload_n 1, 1) := by decide +kernel
theorem dX6_hasRow_5 : decode cX6_hasRow 5 = .ok (.iaload, 1) := by decide +kernel
theorem dX6_hasRow_6 : decode cX6_hasRow 6 = .ok (.iconst (-1), 1) := by decide +kernel
theorem dX6_hasRow_7 : decode cX6_hasRow 7 = .ok (.if_icmp .eq 7, 3) := by decide +kernel
theorem dX6_hasRow_10 : decode cX6_hasRow 10 = .ok (.iconst 1, 1) := by decide +kernel
theorem dX6_hasRow_11 : decode cX6_hasRow 11 = .ok (.goto 4, 3) := by decide +kernel
theorem dX6_hasRow_14 : decode cX6_hasRow 14 = .ok (.iconst 0, 1) := by decide +kernel
theorem dX6_hasRow_15 : decode cX6_hasRow 15 = .ok (.ireturn, 1) := by decide +kernel
theorem ct_X6_hasRow {l : Launch} {Γ : Am} (r0 : Nat) (v1 : Int32) (z : Hp) : Ct l Γ yX6_hasRow mi_X6_hasRow cvI [.ref (mB Γ + r0), .int v1] z (m_X6_hasRow r0 v1 z) := by
  refine Ct.ofJ (by decide) ⟨rfl, rfl⟩ (Nat.le_of_ble_eq_true rfl) ?_
  unfold m_X6_hasRow
  show J l Γ mi_X6_hasRow cvI 0 0 0 [(0, .ref (mB Γ + r0)), (1, .int v1)] [] z _
  refine j_aload_n (pc := 0) 0 dX6_hasRow_0 rfl rfl ?_
  refine j_getR (pc := 1) ok_X6 (by decide) rfl w_506 dX6_hasRow_1 (fun a1 => ?_)
  refine j_iload_n (pc := 4) 1 dX6_hasRow_4 rfl rfl ?_
  refine j_iaload (pc := 5) dX6_hasRow_5 (fun x2 => ?_)
  refine j_iconst (pc := 6) (v := (-1)) dX6_hasRow_6 (by decide) ?_
  refine j_icmp_eq (pc := 7) 14 dX6_hasRow_7 (by decide) ?_ ?_
  · refine j_iconst (pc := 14) (v := 0) dX6_hasRow_14 (by decide) ?_
    exact j_ireturn (pc := 15) dX6_hasRow_15 rfl rfl
  refine j_iconst (pc := 10) (v := 1) dX6_hasRow_10 (by decide) ?_
  refine j_goto (pc := 11) 15 dX6_hasRow_11 (by decide) ?_
  exact j_ireturn (pc := 15) dX6_hasRow_15 rfl rfl
theorem dX6_lengthOf_0 : decode cX6_lengthOf 0 = .ok (.aload_n 0, 1) := by decide +kernel
theorem dX6_lengthOf_1 : decode cX6_lengthOf 1 = .ok (.getfield 20, 3) := by decide +kernel
theorem dX6_lengthOf_4 : decode cX6_lengthOf 4 = .ok (.iload_n 1, 1) := by decide +kernel
theorem dX6_lengthOf_5 : decode cX6_lengthOf 5 = .ok (.iaload, 1) := by decide +kernel
theorem dX6_lengthOf_6 : decode cX6_lengthOf 6 = .ok (.ireturn, 1) := by decide +kernel
theorem ct_X6_lengthOf {l : Launch} {Γ : Am} (r0 : Nat) (v1 : Int32) (z : Hp) : Ct l Γ yX6_lengthOf mi_X6_lengthOf cvI [.ref (mB Γ + r0), .int v1] z (m_X6_lengthOf r0 v1 z) := by
  refine Ct.ofJ (by decide) ⟨rfl, rfl⟩ (Nat.le_of_ble_eq_true rfl) ?_
  unfold m_X6_lengthOf
  show J l Γ mi_X6_lengthOf cvI 0 0 0 [(0, .ref (mB Γ + r0)), (1, .int v1)] [] z _
  refine j_aload_n (pc := 0) 0 dX6_lengthOf_0 rfl rfl ?_
  refine j_getR (pc := 1) ok_X6 (by decide) rfl w_506 dX6_lengthOf_1 (fun a1 => ?_)
  refine j_iload_n (pc := 4) 1 dX6_lengthOf_4 rfl rfl ?_
  refine j_iaload (pc := 5) dX6_lengthOf_5 (fun x2 => ?_)
  exact j_ireturn (pc := 6) dX6_lengthOf_6 rfl rfl
theorem dX6_rows_0 : decode cX6_rows 0 = .ok (.iconst 0, 1) := by decide +kernel
theorem dX6_rows_1 : decode cX6_rows 1 = .ok (.istore_n 1, 1) := by decide +kernel
theorem dX6_rows_2 : decode cX6_rows 2 = .ok (.iconst 0, 1) := by decide +kernel
theorem dX6_rows_3 : decode cX6_rows 3 = .ok (.istore_n 2, 1) := by decide +kernel
theorem dX6_rows_4 : decode cX6_rows 4 = .ok (.iload_n 2, 1) := by decide +kernel
theorem dX6_rows_5 : decode cX6_rows 5 = .ok (.iconst 4, 1) := by decide +kernel
theorem dX6_rows_6 : decode cX6_rows 6 = .ok (.if_icmp .ge 25, 3) := by decide +kernel
theorem dX6_rows_9 : decode cX6_rows 9 = .ok (.iload_n 1, 1) := by decide +kernel
theorem dX6_rows_10 : decode cX6_rows 10 = .ok (.aload_n 0, 1) := by decide +kernel
theorem dX6_rows_11 : decode cX6_rows 11 = .ok (.iload_n 2, 1) := by decide +kernel
theorem dX6_rows_12 : decode cX6_rows 12 = .ok (.invokevirtual 29, 3) := by decide +kernel
theorem dX6_rows_15 : decode cX6_rows 15 = .ok (.ifCond .eq 7, 3) := by decide +kernel
theorem dX6_rows_18 : decode cX6_rows 18 = .ok (.iconst 1, 1) := by decide +kernel
theorem dX6_rows_19 : decode cX6_rows 19 = .ok (.goto 4, 3) := by decide +kernel
theorem dX6_rows_22 : decode cX6_rows 22 = .ok (.iconst 0, 1) := by decide +kernel
theorem dX6_rows_23 : decode cX6_rows 23 = .ok (.iadd, 1) := by decide +kernel
theorem dX6_rows_24 : decode cX6_rows 24 = .ok (.istore_n 1, 1) := by decide +kernel
theorem dX6_rows_25 : decode cX6_rows 25 = .ok (.iinc 2 1, 3) := by decide +kernel
theorem dX6_rows_28 : decode cX6_rows 28 = .ok (.goto (-24), 3) := by decide +kernel
theorem dX6_rows_31 : decode cX6_rows 31 = .ok (.iload_n 1, 1) := by decide +kernel
theorem dX6_rows_32 : decode cX6_rows 32 = .ok (.ireturn, 1) := by decide +kernel
theorem cw_X6_rows_29 : CwV mi_X6_rows mi_X6_hasRow yX6_hasRow RX6 29 1 := ⟨⟨w_1178, w_1106, w_1107, w_106, w_1108⟩, ⟨by decide, by decide⟩, by decide +kernel, by decide, by decide⟩
theorem j_X6_rows_B23 {l : Launch} {Γ : Am} {k4 : Nat → Int32 → Int32 → Hp → Option (Int32 × Hp)} (hL4 : ∀ (r0 : Nat) (v1 : Int32) (v2 : Int32) (z : Hp), J l Γ mi_X6_rows cvI 0 0 4 [(0, .ref (mB Γ + r0)), (1, .int v1), (2, .int v2)] [] z (k4 r0 v1 v2 z)) : ∀ (r0 : Nat) (v2 : Int32) (t0 : Int32) (t1 : Int32) (z : Hp), J l Γ mi_X6_rows cvI 0 0 23 [(0, .ref (mB Γ + r0)), (2, .int v2)] [.int t0, .int t1] z (m_X6_rows_B23 k4 r0 v2 t0 t1 z) := by
  intro r0 v2 t0 t1 z
  unfold m_X6_rows_B23
  refine j_iadd (pc := 23) dX6_rows_23 ?_
  refine j_istore_n (pc := 24) (lv2 := [(1, .int (t1 + t0)), (0, .ref (mB Γ + r0)), (2, .int v2)]) dX6_rows_24 rfl (by decide) rfl ?_
  refine j_iinc (pc := 25) (n0 := 2) (v0 := v2 + 1) (lv2 := [(2, .int (v2 + 1)), (1, .int (t1 + t0)), (0, .ref (mB Γ + r0))]) dX6_rows_25 rfl rfl (by decide) rfl ?_
  refine j_goto (pc := 28) 4 dX6_rows_28 (by decide) ?_
  exact J.sub [2, 1, 0] rfl (hL4 r0 (t1 + t0) (v2 + 1) z)
theorem j_X6_rows_L4 {l : Launch} {Γ : Am}   : ∀ (f : Nat), ∀ (r0 : Nat) (v1 : Int32) (v2 : Int32) (z : Hp), J l Γ mi_X6_rows cvI 0 0 4 [(0, .ref (mB Γ + r0)), (1, .int v1), (2, .int v2)] [] z (m_X6_rows_L4  f r0 v1 v2 z) := by
  intro f
  induction f with
  | zero => intro r0 v1 v2 z; exact J.none
  | succ f hL4 =>
    intro r0 v1 v2 z
    rw [m_X6_rows_L4]
    refine j_iload_n (pc := 4) 2 dX6_rows_4 rfl rfl ?_
    refine j_iconst (pc := 5) (v := 4) dX6_rows_5 (by decide) ?_
    refine j_icmp_ge (pc := 6) 31 dX6_rows_6 (by decide) ?_ ?_
    · refine j_iload_n (pc := 31) 1 dX6_rows_31 rfl rfl ?_
      exact j_ireturn (pc := 32) dX6_rows_32 rfl rfl
    refine j_iload_n (pc := 9) 1 dX6_rows_9 rfl rfl ?_
    refine j_aload_n (pc := 10) 0 dX6_rows_10 rfl rfl ?_
    refine j_iload_n (pc := 11) 2 dX6_rows_11 rfl rfl ?_
    refine j_isC (fun h3 => ?_)
    refine j_callV_I (pc := 12) (as := [.int v2]) (mc2 := 0) (ms2 := 0) (ct_X6_hasRow _ _ _) h3 rfl cw_X6_rows_29 dX6_rows_12 (Nat.le_of_ble_eq_true rfl) rfl (by decide) (by decide) (fun x2 z1 => ?_)
    refine j_if_eq (pc := 15) 22 dX6_rows_15 (by decide) ?_ ?_
    · refine j_iconst (pc := 22) (v := 0) dX6_rows_22 (by decide) ?_
      exact J.sub [0, 2] rfl ((j_X6_rows_B23 hL4) r0 v2 0 v1 z1)
    refine j_iconst (pc := 18) (v := 1) dX6_rows_18 (by decide) ?_
    refine j_goto (pc := 19) 23 dX6_rows_19 (by decide) ?_
    exact J.sub [0, 2] rfl ((j_X6_rows_B23 hL4) r0 v2 1 v1 z1)
theorem ct_X6_rows {l : Launch} {Γ : Am} (r0 : Nat) (z : Hp) : Ct l Γ yX6_rows mi_X6_rows cvI [.ref (mB Γ + r0)] z (m_X6_rows r0 z) := by
  refine Ct.ofJ (by decide) ⟨rfl, rfl⟩ (Nat.le_of_ble_eq_true rfl) ?_
  unfold m_X6_rows
  show J l Γ mi_X6_rows cvI 0 0 0 [(0, .ref (mB Γ + r0))] [] z _
  refine j_iconst (pc := 0) (v := 0) dX6_rows_0 (by decide) ?_
  refine j_istore_n (pc := 1) (lv2 := [(1, .int 0), (0, .ref (mB Γ + r0))]) dX6_rows_1 rfl (by decide) rfl ?_
  refine j_iconst (pc := 2) (v := 0) dX6_rows_2 (by decide) ?_
  refine j_istore_n (pc := 3) (lv2 := [(2, .int 0), (1, .int 0), (0, .ref (mB Γ + r0))]) dX6_rows_3 rfl (by decide) rfl ?_
  exact J.sub [2, 1, 0] rfl ((j_X6_rows_L4 FU) r0 0 0 z)
theorem dJ7_fill_d0a16_0 : decode cJ7_fill_d0a16 0 = .ok (.iconst 0, 1) := by decide +kernel
theorem dJ7_fill_d0a16_1 : decode cJ7_fill_d0a16 1 = .ok (.istore_n 3, 1) := by decide +kernel
theorem dJ7_fill_d0a16_2 : decode cJ7_fill_d0a16 2 = .ok (.aload_n 0, 1) := by decide +kernel
theorem dJ7_fill_d0a16_3 : decode cJ7_fill_d0a16 3 = .ok (.arraylength, 1) := by decide +kernel
theorem dJ7_fill_d0a16_4 : decode cJ7_fill_d0a16 4 = .ok (.istore 4, 2) := by decide +kernel
theorem dJ7_fill_d0a16_6 : decode cJ7_fill_d0a16 6 = .ok (.iload_n 3, 1) := by decide +kernel
theorem dJ7_fill_d0a16_7 : decode cJ7_fill_d0a16 7 = .ok (.iload 4, 2) := by decide +kernel
theorem dJ7_fill_d0a16_9 : decode cJ7_fill_d0a16 9 = .ok (.if_icmp .ge 13, 3) := by decide +kernel
theorem dJ7_fill_d0a16_12 : decode cJ7_fill_d0a16 12 = .ok (.aload_n 0, 1) := by decide +kernel
theorem dJ7_fill_d0a16_13 : decode cJ7_fill_d0a16 13 = .ok (.iload_n 3, 1) := by decide +kernel
theorem dJ7_fill_d0a16_14 : decode cJ7_fill_d0a16 14 = .ok (.lload_n 1, 1) := by decide +kernel
theorem dJ7_fill_d0a16_15 : decode cJ7_fill_d0a16 15 = .ok (.lastore, 1) := by decide +kernel
theorem dJ7_fill_d0a16_16 : decode cJ7_fill_d0a16 16 = .ok (.iinc 3 1, 3) := by decide +kernel
theorem dJ7_fill_d0a16_19 : decode cJ7_fill_d0a16 19 = .ok (.goto (-13), 3) := by decide +kernel
theorem dJ7_fill_d0a16_22 : decode cJ7_fill_d0a16 22 = .ok (.return_, 1) := by decide +kernel
theorem j_J7_fill_d0a16_L6 {l : Launch} {Γ : Am}   : ∀ (f : Nat), ∀ (r0 : Nat) (w1 : Int64) (v3 : Int32) (v4 : Int32) (z : Hp), J l Γ mi_J7_fill_d0a16 cvV 0 0 6 [(0, .ref (mB Γ + r0)), (1, .long w1), (3, .int v3), (4, .int v4)] [] z (m_J7_fill_d0a16_L6  f r0 w1 v3 v4 z) := by
  intro f
  induction f with
  | zero => intro r0 w1 v3 v4 z; exact J.none
  | succ f hL6 =>
    intro r0 w1 v3 v4 z
    rw [m_J7_fill_d0a16_L6]
    refine j_iload_n (pc := 6) 2 dJ7_fill_d0a16_6 rfl rfl ?_
    refine j_iload (pc := 7) 3 dJ7_fill_d0a16_7 rfl ?_
    refine j_icmp_ge (pc := 9) 22 dJ7_fill_d0a16_9 (by decide) ?_ ?_
    · exact j_return (pc := 22) dJ7_fill_d0a16_22 rfl
    refine j_aload_n (pc := 12) 0 dJ7_fill_d0a16_12 rfl rfl ?_
    refine j_iload_n (pc := 13) 2 dJ7_fill_d0a16_13 rfl rfl ?_
    refine j_lload_n (pc := 14) 1 dJ7_fill_d0a16_14 rfl rfl ?_
    refine j_lastore (pc := 15) dJ7_fill_d0a16_15 (fun z1 => ?_)
    refine j_iinc (pc := 16) (n0 := 2) (v0 := v3 + 1) (lv2 := [(3, .int (v3 + 1)), (0, .ref (mB Γ + r0)), (1, .long w1), (4, .int v4)]) dJ7_fill_d0a16_16 rfl rfl (by decide) rfl ?_
    refine j_goto (pc := 19) 6 dJ7_fill_d0a16_19 (by decide) ?_
    exact J.sub [1, 2, 0, 3] rfl (hL6 r0 w1 (v3 + 1) v4 z1)
theorem ct_J7_fill_d0a16 {l : Launch} {Γ : Am} (r0 : Nat) (w1 : Int64) (z : Hp) : Ct l Γ yJ7_fill_d0a16 mi_J7_fill_d0a16 cvV [.ref (mB Γ + r0), .long w1] z (m_J7_fill_d0a16 r0 w1 z) := by
  refine Ct.ofJ (by decide +kernel) ⟨rfl, rfl⟩ (Nat.le_of_ble_eq_true rfl) ?_
  unfold m_J7_fill_d0a16
  show J l Γ mi_J7_fill_d0a16 cvV 0 0 0 [(0, .ref (mB Γ + r0)), (1, .long w1)] [] z _
  refine j_iconst (pc := 0) (v := 0) dJ7_fill_d0a16_0 (by decide) ?_
  refine j_istore_n (pc := 1) (lv2 := [(3, .int 0), (0, .ref (mB Γ + r0)), (1, .long w1)]) dJ7_fill_d0a16_1 rfl (by decide) rfl ?_
  refine j_aload_n (pc := 2) 1 dJ7_fill_d0a16_2 rfl rfl ?_
  refine j_alen4 (pc := 3) dJ7_fill_d0a16_3 (fun x2 => ?_)
  refine j_istore (pc := 4) (lv2 := [(4, .int x2), (3, .int 0), (0, .ref (mB Γ + r0)), (1, .long w1)]) dJ7_fill_d0a16_4 (by decide) rfl ?_
  exact J.sub [2, 3, 1, 0] rfl ((j_J7_fill_d0a16_L6 FU) r0 w1 0 x2 z)
theorem dX6_lay_0 : decode cX6_lay 0 = .ok (.aload_n 0, 1) := by decide +kernel
theorem dX6_lay_1 : decode cX6_lay 1 = .ok (.getfield 16, 3) := by decide +kernel
theorem dX6_lay_4 : decode cX6_lay 4 = .ok (.iload_n 1, 1) := by decide +kernel
theorem dX6_lay_5 : decode cX6_lay 5 = .ok (.iload_n 2, 1) := by decide +kernel
theorem dX6_lay_6 : decode cX6_lay 6 = .ok (.iastore, 1) := by decide +kernel
theorem dX6_lay_7 : decode cX6_lay 7 = .ok (.aload_n 0, 1) := by decide +kernel
theorem dX6_lay_8 : decode cX6_lay 8 = .ok (.getfield 20, 3) := by decide +kernel
theorem dX6_lay_11 : decode cX6_lay 11 = .ok (.iload_n 1, 1) := by decide +kernel
theorem dX6_lay_12 : decode cX6_lay 12 = .ok (.iload_n 3, 1) := by decide +kernel
theorem dX6_lay_13 : decode cX6_lay 13 = .ok (.iastore, 1) := by decide +kernel
theorem dX6_lay_14 : decode cX6_lay 14 = .ok (.aload_n 0, 1) := by decide +kernel
theorem dX6_lay_15 : decode cX6_lay 15 = .ok (.getfield 11, 3) := by decide +kernel
theorem dX6_lay_18 : decode cX6_lay 18 = .ok (.iload_n 1, 1) := by decide +kernel
theorem dX6_lay_19 : decode cX6_lay 19 = .ok (.aaload, 1) := by decide +kernel
theorem dX6_lay_20 : decode cX6_lay 20 = .ok (.lconst 0, 1) := by decide +kernel
theorem dX6_lay_21 : decode cX6_lay 21 = .ok (.invokestatic 33, 3) := by decide +kernel
theorem dX6_lay_24 : decode cX6_lay 24 = .ok (.return_, 1) := by decide +kernel
theorem cw_X6_lay_33 : CwS mi_X6_lay mi_J7_fill_d0a16 yJ7_fill_d0a16 33 2 := ⟨⟨w_1195, w_1196, w_107, w_1197⟩, ⟨by decide, by decide⟩, by decide +kernel, by decide, by decide⟩
theorem ct_X6_lay {l : Launch} {Γ : Am} (r0 : Nat) (v1 : Int32) (v2 : Int32) (v3 : Int32) (z : Hp) : Ct l Γ yX6_lay mi_X6_lay cvV [.ref (mB Γ + r0), .int v1, .int v2, .int v3] z (m_X6_lay r0 v1 v2 v3 z) := by
  refine Ct.ofJ (by decide) ⟨rfl, rfl⟩ (Nat.le_of_ble_eq_true rfl) ?_
  unfold m_X6_lay
  show J l Γ mi_X6_lay cvV 0 0 0 [(0, .ref (mB Γ + r0)), (1, .int v1), (2, .int v2), (3, .int v3)] [] z _
  refine j_aload_n (pc := 0) 0 dX6_lay_0 rfl rfl ?_
  refine j_getR (pc := 1) ok_X6 (by decide) rfl w_504 dX6_lay_1 (fun a1 => ?_)
  refine j_iload_n (pc := 4) 1 dX6_lay_4 rfl rfl ?_
  refine j_iload_n (pc := 5) 2 dX6_lay_5 rfl rfl ?_
  refine j_iastore (pc := 6) dX6_lay_6 (fun z2 => ?_)
  refine j_aload_n (pc := 7) 0 dX6_lay_7 rfl rfl ?_
  refine j_getR (pc := 8) ok_X6 (by decide) rfl w_506 dX6_lay_8 (fun a3 => ?_)
  refine j_iload_n (pc := 11) 1 dX6_lay_11 rfl rfl ?_
  refine j_iload_n (pc := 12) 3 dX6_lay_12 rfl rfl ?_
  refine j_iastore (pc := 13) dX6_lay_13 (fun z4 => ?_)
  refine j_aload_n (pc := 14) 0 dX6_lay_14 rfl rfl ?_
  refine j_getR (pc := 15) ok_X6 (by decide) rfl w_502 dX6_lay_15 (fun a5 => ?_)
  refine j_iload_n (pc := 18) 1 dX6_lay_18 rfl rfl ?_
  refine j_aaloadR6 (pc := 19) dX6_lay_19 (fun a6 => ?_)
  refine j_lconst (pc := 20) (v := 0) dX6_lay_20 (by decide) ?_
  refine j_callS_V (pc := 21) (as := [.ref (mB Γ + a6), .long 0]) (mc2 := 0) (ms2 := 0) (ct_J7_fill_d0a16 _ _ _) cw_X6_lay_33 dX6_lay_21 (Nat.le_of_ble_eq_true rfl) rfl (by decide) (by decide) (fun _ z7 => ?_)
  exact j_return (pc := 24) dX6_lay_24 rfl
theorem dX6_cut_0 : decode cX6_cut 0 = .ok (.iload_n 2, 1) := by decide +kernel
theorem dX6_cut_1 : decode cX6_cut 1 = .ok (.tableswitch 41 0 2 #[27, 32, 37], 27) := by decide +kernel
theorem dX6_cut_28 : decode cX6_cut 28 = .ok (.lload_n 0, 1) := by decide +kernel
theorem dX6_cut_29 : decode cX6_cut 29 = .ok (.l2i, 1) := by decide +kernel
theorem dX6_cut_30 : decode cX6_cut 30 = .ok (.i2b, 1) := by decide +kernel
theorem dX6_cut_31 : decode cX6_cut 31 = .ok (.i2l, 1) := by decide +kernel
theorem dX6_cut_32 : decode cX6_cut 32 = .ok (.lreturn, 1) := by decide +kernel
theorem dX6_cut_33 : decode cX6_cut 33 = .ok (.lload_n 0, 1) := by decide +kernel
theorem dX6_cut_34 : decode cX6_cut 34 = .ok (.l2i, 1) := by decide +kernel
theorem dX6_cut_35 : decode cX6_cut 35 = .ok (.i2s, 1) := by decide +kernel
theorem dX6_cut_36 : decode cX6_cut 36 = .ok (.i2l, 1) := by decide +kernel
theorem dX6_cut_37 : decode cX6_cut 37 = .ok (.lreturn, 1) := by decide +kernel
theorem dX6_cut_38 : decode cX6_cut 38 = .ok (.lload_n 0, 1) := by decide +kernel
theorem dX6_cut_39 : decode cX6_cut 39 = .ok (.l2i, 1) := by decide +kernel
theorem dX6_cut_40 : decode cX6_cut 40 = .ok (.i2l, 1) := by decide +kernel
theorem dX6_cut_41 : decode cX6_cut 41 = .ok (.lreturn, 1) := by decide +kernel
theorem dX6_cut_42 : decode cX6_cut 42 = .ok (.lload_n 0, 1) := by decide +kernel
theorem dX6_cut_43 : decode cX6_cut 43 = .ok (.lreturn, 1) := by decide +kernel
theorem ct_X6_cut {l : Launch} {Γ : Am} (w0 : Int64) (v2 : Int32) (z : Hp) : Ct l Γ yX6_cut mi_X6_cut cvL [.long w0, .int v2] z (m_X6_cut w0 v2 z) := by
  refine Ct.ofJ (by decide) ⟨rfl, rfl⟩ (Nat.le_of_ble_eq_true rfl) ?_
  unfold m_X6_cut
  show J l Γ mi_X6_cut cvL 0 0 0 [(0, .long w0), (2, .int v2)] [] z _
  refine j_iload_n (pc := 0) 1 dX6_cut_0 rfl rfl ?_
  refine j_ite (fun h1 => ?_) (fun h1 => ?_)
  · refine j_case (pc := 1) 28 dX6_cut_1 h1 (by decide) rfl (by decide) ?_
    refine j_lload_n (pc := 28) 0 dX6_cut_28 rfl rfl ?_
    refine j_l2i (pc := 29) dX6_cut_29 ?_
    refine j_i2b (pc := 30) dX6_cut_30 ?_
    refine j_i2l (pc := 31) dX6_cut_31 ?_
    exact j_lreturn (pc := 32) dX6_cut_32 rfl
  refine j_ite (fun h2 => ?_) (fun h2 => ?_)
  · refine j_case (pc := 1) 33 dX6_cut_1 h2 (by decide) rfl (by decide) ?_
    refine j_lload_n (pc := 33) 0 dX6_cut_33 rfl rfl ?_
    refine j_l2i (pc := 34) dX6_cut_34 ?_
    refine j_i2s (pc := 35) dX6_cut_35 ?_
    refine j_i2l (pc := 36) dX6_cut_36 ?_
    exact j_lreturn (pc := 37) dX6_cut_37 rfl
  refine j_ite (fun h3 => ?_) (fun h3 => ?_)
  · refine j_case (pc := 1) 38 dX6_cut_1 h3 (by decide) rfl (by decide) ?_
    refine j_lload_n (pc := 38) 0 dX6_cut_38 rfl rfl ?_
    refine j_l2i (pc := 39) dX6_cut_39 ?_
    refine j_i2l (pc := 40) dX6_cut_40 ?_
    exact j_lreturn (pc := 41) dX6_cut_41 rfl
  refine j_dflt (pc := 1) 42 dX6_cut_1 (sw_out 3 (by decide) (fun k hk => ?_)) (by decide) ?_
  · match k, hk with
    | 0, _ => exact h1
    | 1, _ => exact h2
    | 2, _ => exact h3
    | k + 3, hk => exact absurd hk (by omega)
  refine j_lload_n (pc := 42) 0 dX6_cut_42 rfl rfl ?_
  exact j_lreturn (pc := 43) dX6_cut_43 rfl
theorem dX6_put_0 : decode cX6_put 0 = .ok (.aload_n 0, 1) := by decide +kernel
theorem dX6_put_1 : decode cX6_put 1 = .ok (.getfield 11, 3) := by decide +kernel
theorem dX6_put_4 : decode cX6_put 4 = .ok (.iload_n 1, 1) := by decide +kernel
theorem dX6_put_5 : decode cX6_put 5 = .ok (.aaload, 1) := by decide +kernel
theorem dX6_put_6 : decode cX6_put 6 = .ok (.iload_n 2, 1) := by decide +kernel
theorem dX6_put_7 : decode cX6_put 7 = .ok (.lload_n 3, 1) := by decide +kernel
theorem dX6_put_8 : decode cX6_put 8 = .ok (.aload_n 0, 1) := by decide +kernel
theorem dX6_put_9 : decode cX6_put 9 = .ok (.getfield 16, 3) := by decide +kernel
theorem dX6_put_12 : decode cX6_put 12 = .ok (.iload_n 1, 1) := by decide +kernel
theorem dX6_put_13 : decode cX6_put 13 = .ok (.iaload, 1) := by decide +kernel
theorem dX6_put_14 : decode cX6_put 14 = .ok (.invokestatic 36, 3) := by decide +kernel
theorem dX6_put_17 : decode cX6_put 17 = .ok (.lastore, 1) := by decide +kernel
theorem dX6_put_18 : decode cX6_put 18 = .ok (.return_, 1) := by decide +kernel
theorem cw_X6_put_36 : CwS mi_X6_put mi_X6_cut yX6_cut 36 2 := ⟨⟨w_1206, w_1207, w_106, w_1208⟩, ⟨by decide, by decide⟩, by decide +kernel, by decide, by decide⟩
theorem ct_X6_put {l : Launch} {Γ : Am} (r0 : Nat) (v1 : Int32) (v2 : Int32) (w3 : Int64) (z : Hp) : Ct l Γ yX6_put mi_X6_put cvV [.ref (mB Γ + r0), .int v1, .int v2, .long w3] z (m_X6_put r0 v1 v2 w3 z) := by
  refine Ct.ofJ (by decide) ⟨rfl, rfl⟩ (Nat.le_of_ble_eq_true rfl) ?_
  unfold m_X6_put
  show J l Γ mi_X6_put cvV 0 0 0 [(0, .ref (mB Γ + r0)), (1, .int v1), (2, .int v2), (3, .long w3)] [] z _
  refine j_aload_n (pc := 0) 0 dX6_put_0 rfl rfl ?_
  refine j_getR (pc := 1) ok_X6 (by decide) rfl w_502 dX6_put_1 (fun a1 => ?_)
  refine j_iload_n (pc := 4) 1 dX6_put_4 rfl rfl ?_
  refine j_aaloadR6 (pc := 5) dX6_put_5 (fun a2 => ?_)
  refine j_iload_n (pc := 6) 2 dX6_put_6 rfl rfl ?_
  refine j_lload_n (pc := 7) 3 dX6_put_7 rfl rfl ?_
  refine j_aload_n (pc := 8) 0 dX6_put_8 rfl rfl ?_
  refine j_getR (pc := 9) ok_X6 (by decide) rfl w_504 dX6_put_9 (fun a3 => ?_)
  refine j_iload_n (pc := 12) 1 dX6_put_12 rfl rfl ?_
  refine j_iaload (pc := 13) dX6_put_13 (fun x4 => ?_)
  refine j_callS_L (pc := 14) (as := [.long w3, .int x4]) (mc2 := 0) (ms2 := 0) (ct_X6_cut _ _ _) cw_X6_put_36 dX6_put_14 (Nat.le_of_ble_eq_true rfl) rfl (by decide) (by decide) (fun x6 z5 => ?_)
  refine j_lastore (pc := 17) dX6_put_17 (fun z7 => ?_)
  exact j_return (pc := 18) dX6_put_18 rfl
theorem dX6_spans_0 : decode cX6_spans 0 = .ok (.iload_n 2, 1) := by decide +kernel
theorem dX6_spans_1 : decode cX6_spans 1 = .ok (.ifCond .lt 27, 3) := by decide +kernel
theorem dX6_spans_4 : decode cX6_spans 4 = .ok (.iload_n 3, 1) := by decide +kernel
theorem dX6_spans_5 : decode cX6_spans 5 = .ok (.ifCond .lt 23, 3) := by decide +kernel
theorem dX6_spans_8 : decode cX6_spans 8 = .ok (.iload_n 2, 1) := by decide +kernel
theorem dX6_spans_9 : decode cX6_spans 9 = .ok (.i2l, 1) := by decide +kernel
theorem dX6_spans_10 : decode cX6_spans 10 = .ok (.iload_n 3, 1) := by decide +kernel
theorem dX6_spans_11 : decode cX6_spans 11 = .ok (.i2l, 1) := by decide +kernel
theorem dX6_spans_12 : decode cX6_spans 12 = .ok (.ladd, 1) := by decide +kernel
theorem dX6_spans_13 : decode cX6_spans 13 = .ok (.aload_n 0, 1) := by decide +kernel
theorem dX6_spans_14 : decode cX6_spans 14 = .ok (.getfield 20, 3) := by decide +kernel
theorem dX6_spans_17 : decode cX6_spans 17 = .ok (.iload_n 1, 1) := by decide +kernel
theorem dX6_spans_18 : decode cX6_spans 18 = .ok (.iaload, 1) := by decide +kernel
theorem dX6_spans_19 : decode cX6_spans 19 = .ok (.i2l, 1) := by decide +kernel
theorem dX6_spans_20 : decode cX6_spans 20 = .ok (.lcmp, 1) := by decide +kernel
theorem dX6_spans_21 : decode cX6_spans 21 = .ok (.ifCond .gt 7, 3) := by decide +kernel
theorem dX6_spans_24 : decode cX6_spans 24 = .ok (.iconst 1, 1) := by decide +kernel
theorem dX6_spans_25 : decode cX6_spans 25 = .ok (.goto 4, 3) := by decide +kernel
theorem dX6_spans_28 : decode cX6_spans 28 = .ok (.iconst 0, 1) := by decide +kernel
theorem dX6_spans_29 : decode cX6_spans 29 = .ok (.ireturn, 1) := by decide +kernel
theorem ct_X6_spans {l : Launch} {Γ : Am} (r0 : Nat) (v1 : Int32) (v2 : Int32) (v3 : Int32) (z : Hp) : Ct l Γ yX6_spans mi_X6_spans cvI [.ref (mB Γ + r0), .int v1, .int v2, .int v3] z (m_X6_spans r0 v1 v2 v3 z) := by
  refine Ct.ofJ (by decide) ⟨rfl, rfl⟩ (Nat.le_of_ble_eq_true rfl) ?_
  unfold m_X6_spans
  show J l Γ mi_X6_spans cvI 0 0 0 [(0, .ref (mB Γ + r0)), (1, .int v1), (2, .int v2), (3, .int v3)] [] z _
  refine j_iload_n (pc := 0) 2 dX6_spans_0 rfl rfl ?_
  refine j_if_lt (pc := 1) 28 dX6_spans_1 (by decide) ?_ ?_
  · refine j_iconst (pc := 28) (v := 0) dX6_spans_28 (by decide) ?_
    exact j_ireturn (pc := 29) dX6_spans_29 rfl rfl
  refine j_iload_n (pc := 4) 3 dX6_spans_4 rfl rfl ?_
  refine j_if_lt (pc := 5) 28 dX6_spans_5 (by decide) ?_ ?_
  · refine j_iconst (pc := 28) (v := 0) dX6_spans_28 (by decide) ?_
    exact j_ireturn (pc := 29) dX6_spans_29 rfl rfl
  refine j_iload_n (pc := 8) 2 dX6_spans_8 rfl rfl ?_
  refine j_i2l (pc := 9) dX6_spans_9 ?_
  refine j_iload_n (pc := 10) 3 dX6_spans_10 rfl rfl ?_
  refine j_i2l (pc := 11) dX6_spans_11 ?_
  refine j_ladd (pc := 12) dX6_spans_12 ?_
  refine j_aload_n (pc := 13) 0 dX6_spans_13 rfl rfl ?_
  refine j_getR (pc := 14) ok_X6 (by decide) rfl w_506 dX6_spans_14 (fun a1 => ?_)
  refine j_iload_n (pc := 17) 1 dX6_spans_17 rfl rfl ?_
  refine j_iaload (pc := 18) dX6_spans_18 (fun x2 => ?_)
  refine j_i2l (pc := 19) dX6_spans_19 ?_
  refine j_lcmp (pc := 20) dX6_spans_20 ?_
  refine j_if_gt (pc := 21) 28 dX6_spans_21 (by decide) ?_ ?_
  · refine j_iconst (pc := 28) (v := 0) dX6_spans_28 (by decide) ?_
    exact j_ireturn (pc := 29) dX6_spans_29 rfl rfl
  refine j_iconst (pc := 24) (v := 1) dX6_spans_24 (by decide) ?_
  refine j_goto (pc := 25) 29 dX6_spans_25 (by decide) ?_
  exact j_ireturn (pc := 29) dX6_spans_29 rfl rfl
theorem dX7_init_0 : decode cX7_init 0 = .ok (.aload_n 0, 1) := by decide +kernel
theorem dX7_init_1 : decode cX7_init 1 = .ok (.invokespecial 3, 3) := by decide +kernel
theorem dX7_init_4 : decode cX7_init 4 = .ok (.aload_n 0, 1) := by decide +kernel
theorem dX7_init_5 : decode cX7_init 5 = .ok (.iconst 4, 1) := by decide +kernel
theorem dX7_init_6 : decode cX7_init 6 = .ok (.newarray .int, 2) := by decide +kernel
theorem dX7_init_8 : decode cX7_init 8 = .ok (.putfield 9, 3) := by decide +kernel
theorem dX7_init_11 : decode cX7_init 11 = .ok (.aload_n 0, 1) := by decide +kernel
theorem dX7_init_12 : decode cX7_init 12 = .ok (.iconst 4, 1) := by decide +kernel
theorem dX7_init_13 : decode cX7_init 13 = .ok (.newarray .int, 2) := by decide +kernel
theorem dX7_init_15 : decode cX7_init 15 = .ok (.putfield 15, 3) := by decide +kernel
theorem dX7_init_18 : decode cX7_init 18 = .ok (.aload_n 0, 1) := by decide +kernel
theorem dX7_init_19 : decode cX7_init 19 = .ok (.iconst 4, 1) := by decide +kernel
theorem dX7_init_20 : decode cX7_init 20 = .ok (.newarray .int, 2) := by decide +kernel
theorem dX7_init_22 : decode cX7_init 22 = .ok (.putfield 18, 3) := by decide +kernel
theorem dX7_init_25 : decode cX7_init 25 = .ok (.aload_n 0, 1) := by decide +kernel
theorem dX7_init_26 : decode cX7_init 26 = .ok (.iconst 4, 1) := by decide +kernel
theorem dX7_init_27 : decode cX7_init 27 = .ok (.newarray .int, 2) := by decide +kernel
theorem dX7_init_29 : decode cX7_init 29 = .ok (.putfield 21, 3) := by decide +kernel
theorem dX7_init_32 : decode cX7_init 32 = .ok (.aload_n 0, 1) := by decide +kernel
theorem dX7_init_33 : decode cX7_init 33 = .ok (.sipush 144, 3) := by decide +kernel
theorem dX7_init_36 : decode cX7_init 36 = .ok (.newarray .int, 2) := by decide +kernel
theorem dX7_init_38 : decode cX7_init 38 = .ok (.putfield 24, 3) := by decide +kernel
theorem dX7_init_41 : decode cX7_init 41 = .ok (.aload_n 0, 1) := by decide +kernel
theorem dX7_init_42 : decode cX7_init 42 = .ok (.bipush 12, 2) := by decide +kernel
theorem dX7_init_44 : decode cX7_init 44 = .ok (.newarray .int, 2) := by decide +kernel
theorem dX7_init_46 : decode cX7_init 46 = .ok (.putfield 27, 3) := by decide +kernel
theorem dX7_init_49 : decode cX7_init 49 = .ok (.aload_n 0, 1) := by decide +kernel
theorem dX7_init_50 : decode cX7_init 50 = .ok (.bipush 100, 2) := by decide +kernel
theorem dX7_init_52 : decode cX7_init 52 = .ok (.putfield 30, 3) := by decide +kernel
theorem dX7_init_55 : decode cX7_init 55 = .ok (.return_, 1) := by decide +kernel
theorem ct_X7_init {l : Launch} {Γ : Am} (r0 : Nat) (z : Hp) : Ct l Γ yX7_init mi_X7_init cvV [.ref (mB Γ + r0)] z (m_X7_init r0 z) := by
  refine Ct.ofJ (by decide) ⟨rfl, rfl⟩ (Nat.le_of_ble_eq_true rfl) ?_
  unfold m_X7_init
  show J l Γ mi_X7_init cvV 6 172 0 [(0, .ref (mB Γ + r0))] [] z _
  refine j_aload_n (pc := 0) 0 dX7_init_0 rfl rfl ?_
  refine j_objInit (pc := 1) w_135 w_122 w_123 dX7_init_1 (by decide) (by decide) ?_
  refine j_aload_n (pc := 4) 0 dX7_init_4 rfl rfl ?_
  refine j_iconst (pc := 5) (v := 4) dX7_init_5 (by decide) ?_
  refine j_newarr1 (pc := 6) (n0 := 4) (mc2 := 5) (ms2 := 168) w_177 dX7_init_6 (by decide) (by decide) (by decide) (by decide) (by decide) (fun a1 z2 => ?_)
  refine j_putR (pc := 8) ok_X7 (by decide) rfl w_136 (Or.inr ⟨rfl, rfl, rfl⟩) rfl rfl dX7_init_8 (fun z3 => ?_)
  refine j_aload_n (pc := 11) 0 dX7_init_11 rfl rfl ?_
  refine j_iconst (pc := 12) (v := 4) dX7_init_12 (by decide) ?_
  refine j_newarr1 (pc := 13) (n0 := 4) (mc2 := 4) (ms2 := 164) w_177 dX7_init_13 (by decide) (by decide) (by decide) (by decide) (by decide) (fun a4 z5 => ?_)
  refine j_putR (pc := 15) ok_X7 (by decide) rfl w_139 (Or.inr ⟨rfl, rfl, rfl⟩) rfl rfl dX7_init_15 (fun z6 => ?_)
  refine j_aload_n (pc := 18) 0 dX7_init_18 rfl rfl ?_
  refine j_iconst (pc := 19) (v := 4) dX7_init_19 (by decide) ?_
  refine j_newarr1 (pc := 20) (n0 := 4) (mc2 := 3) (ms2 := 160) w_177 dX7_init_20 (by decide) (by decide) (by decide) (by decide) (by decide) (fun a7 z8 => ?_)
  refine j_putR (pc := 22) ok_X7 (by decide) rfl w_142 (Or.inr ⟨rfl, rfl, rfl⟩) rfl rfl dX7_init_22 (fun z9 => ?_)
  refine j_aload_n (pc := 25) 0 dX7_init_25 rfl rfl ?_
  refine j_iconst (pc := 26) (v := 4) dX7_init_26 (by decide) ?_
  refine j_newarr1 (pc := 27) (n0 := 4) (mc2 := 2) (ms2 := 156) w_177 dX7_init_27 (by decide) (by decide) (by decide) (by decide) (by decide) (fun a10 z11 => ?_)
  refine j_putR (pc := 29) ok_X7 (by decide) rfl w_146 (Or.inr ⟨rfl, rfl, rfl⟩) rfl rfl dX7_init_29 (fun z12 => ?_)
  refine j_aload_n (pc := 32) 0 dX7_init_32 rfl rfl ?_
  refine j_sipush (pc := 33) (v := 144) dX7_init_33 (by decide) ?_
  refine j_newarr1 (pc := 36) (n0 := 144) (mc2 := 1) (ms2 := 12) w_177 dX7_init_36 (by decide) (by decide) (by decide) (by decide) (by decide) (fun a13 z14 => ?_)
  refine j_putR (pc := 38) ok_X7 (by decide) rfl w_149 (Or.inr ⟨rfl, rfl, rfl⟩) rfl rfl dX7_init_38 (fun z15 => ?_)
  refine j_aload_n (pc := 41) 0 dX7_init_41 rfl rfl ?_
  refine j_bipush (pc := 42) (v := 12) dX7_init_42 (by decide) ?_
  refine j_newarr1 (pc := 44) (n0 := 12) (mc2 := 0) (ms2 := 0) w_177 dX7_init_44 (by decide) (by decide) (by decide) (by decide) (by decide) (fun a16 z17 => ?_)
  refine j_putR (pc := 46) ok_X7 (by decide) rfl w_154 (Or.inr ⟨rfl, rfl, rfl⟩) rfl rfl dX7_init_46 (fun z18 => ?_)
  refine j_aload_n (pc := 49) 0 dX7_init_49 rfl rfl ?_
  refine j_bipush (pc := 50) (v := 100) dX7_init_50 (by decide) ?_
  refine j_putI (pc := 52) ok_X7 (by decide) rfl w_157 (Or.inl rfl) rfl rfl dX7_init_52 (fun z19 => ?_)
  exact j_return (pc := 55) dX7_init_55 rfl
theorem dX7_copyFrom_0 : decode cX7_copyFrom 0 = .ok (.aload_n 1, 1) := by decide +kernel
theorem dX7_copyFrom_1 : decode cX7_copyFrom 1 = .ok (.getfield 9, 3) := by decide +kernel
theorem dX7_copyFrom_4 : decode cX7_copyFrom 4 = .ok (.iconst 0, 1) := by decide +kernel
theorem dX7_copyFrom_5 : decode cX7_copyFrom 5 = .ok (.aload_n 0, 1) := by decide +kernel
theorem dX7_copyFrom_6 : decode cX7_copyFrom 6 = .ok (.getfield 9, 3) := by decide +kernel
theorem dX7_copyFrom_9 : decode cX7_copyFrom 9 = .ok (.iconst 0, 1) := by decide +kernel
theorem dX7_copyFrom_10 : decode cX7_copyFrom 10 = .ok (.iconst 4, 1) := by decide +kernel
theorem dX7_copyFrom_11 : decode cX7_copyFrom 11 = .ok (.invokestatic 40, 3) := by decide +kernel
theorem dX7_copyFrom_14 : decode cX7_copyFrom 14 = .ok (.aload_n 1, 1) := by decide +kernel
theorem dX7_copyFrom_15 : decode cX7_copyFrom 15 = .ok (.getfield 15, 3) := by decide +kernel
theorem dX7_copyFrom_18 : decode cX7_copyFrom 18 = .ok (.iconst 0, 1) := by decide +kernel
theorem dX7_copyFrom_19 : decode cX7_copyFrom 19 = .ok (.aload_n 0, 1) := by decide +kernel
theorem dX7_copyFrom_20 : decode cX7_copyFrom 20 = .ok (.getfield 15, 3) := by decide +kernel
theorem dX7_copyFrom_23 : decode cX7_copyFrom 23 = .ok (.iconst 0, 1) := by decide +kernel
theorem dX7_copyFrom_24 : decode cX7_copyFrom 24 = .ok (.iconst 4, 1) := by decide +kernel
theorem dX7_copyFrom_25 : decode cX7_copyFrom 25 = .ok (.invokestatic 40, 3) := by decide +kernel
theorem dX7_copyFrom_28 : decode cX7_copyFrom 28 = .ok (.aload_n 1, 1) := by decide +kernel
theorem dX7_copyFrom_29 : decode cX7_copyFrom 29 = .ok (.getfield 18, 3) := by decide +kernel
theorem dX7_copyFrom_32 : decode cX7_copyFrom 32 = .ok (.iconst 0, 1) := by decide +kernel
theorem dX7_copyFrom_33 : decode cX7_copyFrom 33 = .ok (.aload_n 0, 1) := by decide +kernel
theorem dX7_copyFrom_34 : decode cX7_copyFrom 34 = .ok (.getfield 18, 3) := by decide +kernel
theorem dX7_copyFrom_37 : decode cX7_copyFrom 37 = .ok (.iconst 0, 1) := by decide +kernel
theorem dX7_copyFrom_38 : decode cX7_copyFrom 38 = .ok (.iconst 4, 1) := by decide +kernel
theorem dX7_copyFrom_39 : decode cX7_copyFrom 39 = .ok (.invokestatic 40, 3) := by decide +kernel
theorem dX7_copyFrom_42 : decode cX7_copyFrom 42 = .ok (.aload_n 1, 1) := by decide +kernel
theorem dX7_copyFrom_43 : decode cX7_copyFrom 43 = .ok (.getfield 21, 3) := by decide +kernel
theorem dX7_copyFrom_46 : decode cX7_copyFrom 46 = .ok (.iconst 0, 1) := by decide +kernel
theorem dX7_copyFrom_47 : decode cX7_copyFrom 47 = .ok (.aload_n 0, 1) := by decide +kernel
theorem dX7_copyFrom_48 : decode cX7_copyFrom 48 = .ok (.getfield 21, 3) := by decide +kernel
theorem dX7_copyFrom_51 : decode cX7_copyFrom 51 = .ok (.iconst 0, 1) := by decide +kernel
theorem dX7_copyFrom_52 : decode cX7_copyFrom 52 = .ok (.iconst 4, 1) := by decide +kernel
theorem dX7_copyFrom_53 : decode cX7_copyFrom 53 = .ok (.invokestatic 40, 3) := by decide +kernel
theorem dX7_copyFrom_56 : decode cX7_copyFrom 56 = .ok (.aload_n 1, 1) := by decide +kernel
theorem dX7_copyFrom_57 : decode cX7_copyFrom 57 = .ok (.getfield 24, 3) := by decide +kernel
theorem dX7_copyFrom_60 : decode cX7_copyFrom 60 = .ok (.iconst 0, 1) := by decide +kernel
theorem dX7_copyFrom_61 : decode cX7_copyFrom 61 = .ok (.aload_n 0, 1) := by decide +kernel
theorem dX7_copyFrom_62 : decode cX7_copyFrom 62 = .ok (.getfield 24, 3) := by decide +kernel
theorem dX7_copyFrom_65 : decode cX7_copyFrom 65 = .ok (.iconst 0, 1) := by decide +kernel
theorem dX7_copyFrom_66 : decode cX7_copyFrom 66 = .ok (.sipush 144, 3) := by decide +kernel
theorem dX7_copyFrom_69 : decode cX7_copyFrom 69 = .ok (.invokestatic 40, 3) := by decide +kernel
theorem dX7_copyFrom_72 : decode cX7_copyFrom 72 = .ok (.aload_n 1, 1) := by decide +kernel
theorem dX7_copyFrom_73 : decode cX7_copyFrom 73 = .ok (.getfield 27, 3) := by decide +kernel
theorem dX7_copyFrom_76 : decode cX7_copyFrom 76 = .ok (.iconst 0, 1) := by decide +kernel
theorem dX7_copyFrom_77 : decode cX7_copyFrom 77 = .ok (.aload_n 0, 1) := by decide +kernel
theorem dX7_copyFrom_78 : decode cX7_copyFrom 78 = .ok (.getfield 27, 3) := by decide +kernel
theorem dX7_copyFrom_81 : decode cX7_copyFrom 81 = .ok (.iconst 0, 1) := by decide +kernel
theorem dX7_copyFrom_82 : decode cX7_copyFrom 82 = .ok (.bipush 12, 2) := by decide +kernel
theorem dX7_copyFrom_84 : decode cX7_copyFrom 84 = .ok (.invokestatic 40, 3) := by decide +kernel
theorem dX7_copyFrom_87 : decode cX7_copyFrom 87 = .ok (.aload_n 0, 1) := by decide +kernel
theorem dX7_copyFrom_88 : decode cX7_copyFrom 88 = .ok (.aload_n 1, 1) := by decide +kernel
theorem dX7_copyFrom_89 : decode cX7_copyFrom 89 = .ok (.getfield 30, 3) := by decide +kernel
theorem dX7_copyFrom_92 : decode cX7_copyFrom 92 = .ok (.putfield 30, 3) := by decide +kernel
theorem dX7_copyFrom_95 : decode cX7_copyFrom 95 = .ok (.return_, 1) := by decide +kernel
theorem ct_X7_copyFrom {l : Launch} {Γ : Am} (r0 : Nat) (r1 : Nat) (z : Hp) : Ct l Γ yX7_copyFrom mi_X7_copyFrom cvV [.ref (mB Γ + r0), .ref (mB Γ + r1)] z (m_X7_copyFrom r0 r1 z) := by
  refine Ct.ofJ (by decide) ⟨rfl, rfl⟩ (Nat.le_of_ble_eq_true rfl) ?_
  unfold m_X7_copyFrom
  show J l Γ mi_X7_copyFrom cvV 0 0 0 [(0, .ref (mB Γ + r0)), (1, .ref (mB Γ + r1))] [] z _
  refine j_aload_n (pc := 0) 1 dX7_copyFrom_0 rfl rfl ?_
  refine j_getR (pc := 1) ok_X7 (by decide) rfl w_136 dX7_copyFrom_1 (fun a1 => ?_)
  refine j_iconst (pc := 4) (v := 0) dX7_copyFrom_4 (by decide) ?_
  refine j_aload_n (pc := 5) 0 dX7_copyFrom_5 rfl rfl ?_
  refine j_getR (pc := 6) ok_X7 (by decide) rfl w_136 dX7_copyFrom_6 (fun a2 => ?_)
  refine j_iconst (pc := 9) (v := 0) dX7_copyFrom_9 (by decide) ?_
  refine j_iconst (pc := 10) (v := 4) dX7_copyFrom_10 (by decide) ?_
  refine j_arraycopy1 (pc := 11) ⟨w_1060, w_1062, w_1061, w_114⟩ (by decide) (by decide) dX7_copyFrom_11 (fun z3 => ?_)
  refine j_aload_n (pc := 14) 1 dX7_copyFrom_14 rfl rfl ?_
  refine j_getR (pc := 15) ok_X7 (by decide) rfl w_139 dX7_copyFrom_15 (fun a4 => ?_)
  refine j_iconst (pc := 18) (v := 0) dX7_copyFrom_18 (by decide) ?_
  refine j_aload_n (pc := 19) 0 dX7_copyFrom_19 rfl rfl ?_
  refine j_getR (pc := 20) ok_X7 (by decide) rfl w_139 dX7_copyFrom_20 (fun a5 => ?_)
  refine j_iconst (pc := 23) (v := 0) dX7_copyFrom_23 (by decide) ?_
  refine j_iconst (pc := 24) (v := 4) dX7_copyFrom_24 (by decide) ?_
  refine j_arraycopy1 (pc := 25) ⟨w_1060, w_1062, w_1061, w_114⟩ (by decide) (by decide) dX7_copyFrom_25 (fun z6 => ?_)
  refine j_aload_n (pc := 28) 1 dX7_copyFrom_28 rfl rfl ?_
  refine j_getR (pc := 29) ok_X7 (by decide) rfl w_142 dX7_copyFrom_29 (fun a7 => ?_)
  refine j_iconst (pc := 32) (v := 0) dX7_copyFrom_32 (by decide) ?_
  refine j_aload_n (pc := 33) 0 dX7_copyFrom_33 rfl rfl ?_
  refine j_getR (pc := 34) ok_X7 (by decide) rfl w_142 dX7_copyFrom_34 (fun a8 => ?_)
  refine j_iconst (pc := 37) (v := 0) dX7_copyFrom_37 (by decide) ?_
  refine j_iconst (pc := 38) (v := 4) dX7_copyFrom_38 (by decide) ?_
  refine j_arraycopy1 (pc := 39) ⟨w_1060, w_1062, w_1061, w_114⟩ (by decide) (by decide) dX7_copyFrom_39 (fun z9 => ?_)
  refine j_aload_n (pc := 42) 1 dX7_copyFrom_42 rfl rfl ?_
  refine j_getR (pc := 43) ok_X7 (by decide) rfl w_146 dX7_copyFrom_43 (fun a10 => ?_)
  refine j_iconst (pc := 46) (v := 0) dX7_copyFrom_46 (by decide) ?_
  refine j_aload_n (pc := 47) 0 dX7_copyFrom_47 rfl rfl ?_
  refine j_getR (pc := 48) ok_X7 (by decide) rfl w_146 dX7_copyFrom_48 (fun a11 => ?_)
  refine j_iconst (pc := 51) (v := 0) dX7_copyFrom_51 (by decide) ?_
  refine j_iconst (pc := 52) (v := 4) dX7_copyFrom_52 (by decide) ?_
  refine j_arraycopy1 (pc := 53) ⟨w_1060, w_1062, w_1061, w_114⟩ (by decide) (by decide) dX7_copyFrom_53 (fun z12 => ?_)
  refine j_aload_n (pc := 56) 1 dX7_copyFrom_56 rfl rfl ?_
  refine j_getR (pc := 57) ok_X7 (by decide) rfl w_149 dX7_copyFrom_57 (fun a13 => ?_)
  refine j_iconst (pc := 60) (v := 0) dX7_copyFrom_60 (by decide) ?_
  refine j_aload_n (pc := 61) 0 dX7_copyFrom_61 rfl rfl ?_
  refine j_getR (pc := 62) ok_X7 (by decide) rfl w_149 dX7_copyFrom_62 (fun a14 => ?_)
  refine j_iconst (pc := 65) (v := 0) dX7_copyFrom_65 (by decide) ?_
  refine j_sipush (pc := 66) (v := 144) dX7_copyFrom_66 (by decide) ?_
  refine j_arraycopy1 (pc := 69) ⟨w_1060, w_1062, w_1061, w_114⟩ (by decide) (by decide) dX7_copyFrom_69 (fun z15 => ?_)
  refine j_aload_n (pc := 72) 1 dX7_copyFrom_72 rfl rfl ?_
  refine j_getR (pc := 73) ok_X7 (by decide) rfl w_154 dX7_copyFrom_73 (fun a16 => ?_)
  refine j_iconst (pc := 76) (v := 0) dX7_copyFrom_76 (by decide) ?_
  refine j_aload_n (pc := 77) 0 dX7_copyFrom_77 rfl rfl ?_
  refine j_getR (pc := 78) ok_X7 (by decide) rfl w_154 dX7_copyFrom_78 (fun a17 => ?_)
  refine j_iconst (pc := 81) (v := 0) dX7_copyFrom_81 (by decide) ?_
  refine j_bipush (pc := 82) (v := 12) dX7_copyFrom_82 (by decide) ?_
  refine j_arraycopy1 (pc := 84) ⟨w_1060, w_1062, w_1061, w_114⟩ (by decide) (by decide) dX7_copyFrom_84 (fun z18 => ?_)
  refine j_aload_n (pc := 87) 0 dX7_copyFrom_87 rfl rfl ?_
  refine j_aload_n (pc := 88) 1 dX7_copyFrom_88 rfl rfl ?_
  refine j_getI (pc := 89) ok_X7 (by decide) rfl w_157 dX7_copyFrom_89 (fun x19 => ?_)
  refine j_putI (pc := 92) ok_X7 (by decide) rfl w_157 (Or.inl rfl) rfl rfl dX7_copyFrom_92 (fun z20 => ?_)
  exact j_return (pc := 95) dX7_copyFrom_95 rfl
theorem dX8_init_0 : decode cX8_init 0 = .ok (.aload_n 0, 1) := by decide +kernel
theorem dX8_init_1 : decode cX8_init 1 = .ok (.invokespecial 3, 3) := by decide +kernel
theorem dX8_init_4 : decode cX8_init 4 = .ok (.aload_n 0, 1) := by decide +kernel
theorem dX8_init_5 : decode cX8_init 5 = .ok (.new 9, 3) := by decide +kernel
theorem dX8_init_8 : decode cX8_init 8 = .ok (.dup, 1) := by decide +kernel
theorem dX8_init_9 : decode cX8_init 9 = .ok (.invokespecial 11, 3) := by decide +kernel
theorem dX8_init_12 : decode cX8_init 12 = .ok (.putfield 12, 3) := by decide +kernel
theorem dX8_init_15 : decode cX8_init 15 = .ok (.aload_n 0, 1) := by decide +kernel
theorem dX8_init_16 : decode cX8_init 16 = .ok (.new 18, 3) := by decide +kernel
theorem dX8_init_19 : decode cX8_init 19 = .ok (.dup, 1) := by decide +kernel
theorem dX8_init_20 : decode cX8_init 20 = .ok (.invokespecial 20, 3) := by decide +kernel
theorem dX8_init_23 : decode cX8_init 23 = .ok (.putfield 21, 3) := by decide +kernel
theorem dX8_init_26 : decode cX8_init 26 = .ok (.aload_n 0, 1) := by decide +kernel
theorem dX8_init_27 : decode cX8_init 27 = .ok (.new 25, 3) := by decide +kernel
theorem dX8_init_30 : decode cX8_init 30 = .ok (.dup, 1) := by decide +kernel
theorem dX8_init_31 : decode cX8_init 31 = .ok (.invokespecial 27, 3) := by decide +kernel
theorem dX8_init_34 : decode cX8_init 34 = .ok (.putfield 28, 3) := by decide +kernel
theorem dX8_init_37 : decode cX8_init 37 = .ok (.aload_n 0, 1) := by decide +kernel
theorem dX8_init_38 : decode cX8_init 38 = .ok (.new 32, 3) := by decide +kernel
theorem dX8_init_41 : decode cX8_init 41 = .ok (.dup, 1) := by decide +kernel
theorem dX8_init_42 : decode cX8_init 42 = .ok (.invokespecial 34, 3) := by decide +kernel
theorem dX8_init_45 : decode cX8_init 45 = .ok (.putfield 35, 3) := by decide +kernel
theorem dX8_init_48 : decode cX8_init 48 = .ok (.aload_n 0, 1) := by decide +kernel
theorem dX8_init_49 : decode cX8_init 49 = .ok (.new 39, 3) := by decide +kernel
theorem dX8_init_52 : decode cX8_init 52 = .ok (.dup, 1) := by decide +kernel
theorem dX8_init_53 : decode cX8_init 53 = .ok (.invokespecial 41, 3) := by decide +kernel
theorem dX8_init_56 : decode cX8_init 56 = .ok (.putfield 42, 3) := by decide +kernel
theorem dX8_init_59 : decode cX8_init 59 = .ok (.aload_n 0, 1) := by decide +kernel
theorem dX8_init_60 : decode cX8_init 60 = .ok (.sipush 144, 3) := by decide +kernel
theorem dX8_init_63 : decode cX8_init 63 = .ok (.newarray .int, 2) := by decide +kernel
theorem dX8_init_65 : decode cX8_init 65 = .ok (.putfield 46, 3) := by decide +kernel
theorem dX8_init_68 : decode cX8_init 68 = .ok (.aload_n 0, 1) := by decide +kernel
theorem dX8_init_69 : decode cX8_init 69 = .ok (.sipush 144, 3) := by decide +kernel
theorem dX8_init_72 : decode cX8_init 72 = .ok (.newarray .int, 2) := by decide +kernel
theorem dX8_init_74 : decode cX8_init 74 = .ok (.putfield 50, 3) := by decide +kernel
theorem dX8_init_77 : decode cX8_init 77 = .ok (.aload_n 0, 1) := by decide +kernel
theorem dX8_init_78 : decode cX8_init 78 = .ok (.sipush 144, 3) := by decide +kernel
theorem dX8_init_81 : decode cX8_init 81 = .ok (.newarray .int, 2) := by decide +kernel
theorem dX8_init_83 : decode cX8_init 83 = .ok (.putfield 53, 3) := by decide +kernel
theorem dX8_init_86 : decode cX8_init 86 = .ok (.aload_n 0, 1) := by decide +kernel
theorem dX8_init_87 : decode cX8_init 87 = .ok (.sipush 144, 3) := by decide +kernel
theorem dX8_init_90 : decode cX8_init 90 = .ok (.newarray .int, 2) := by decide +kernel
theorem dX8_init_92 : decode cX8_init 92 = .ok (.putfield 56, 3) := by decide +kernel
theorem dX8_init_95 : decode cX8_init 95 = .ok (.aload_n 0, 1) := by decide +kernel
theorem dX8_init_96 : decode cX8_init 96 = .ok (.bipush 6, 2) := by decide +kernel
theorem dX8_init_98 : decode cX8_init 98 = .ok (.newarray .int, 2) := by decide +kernel
theorem dX8_init_100 : decode cX8_init 100 = .ok (.putfield 59, 3) := by decide +kernel
theorem dX8_init_103 : decode cX8_init 103 = .ok (.aload_n 0, 1) := by decide +kernel
theorem dX8_init_104 : decode cX8_init 104 = .ok (.iconst 0, 1) := by decide +kernel
theorem dX8_init_105 : decode cX8_init 105 = .ok (.putfield 62, 3) := by decide +kernel
theorem dX8_init_108 : decode cX8_init 108 = .ok (.aload_n 0, 1) := by decide +kernel
theorem dX8_init_109 : decode cX8_init 109 = .ok (.iconst 0, 1) := by decide +kernel
theorem dX8_init_110 : decode cX8_init 110 = .ok (.putfield 66, 3) := by decide +kernel
theorem dX8_init_113 : decode cX8_init 113 = .ok (.aload_n 0, 1) := by decide +kernel
theorem dX8_init_114 : decode cX8_init 114 = .ok (.ldc 69, 2) := by decide +kernel
theorem dX8_init_116 : decode cX8_init 116 = .ok (.putfield 70, 3) := by decide +kernel
theorem dX8_init_119 : decode cX8_init 119 = .ok (.aload_n 0, 1) := by decide +kernel
theorem dX8_init_120 : decode cX8_init 120 = .ok (.iconst 0, 1) := by decide +kernel
theorem dX8_init_121 : decode cX8_init 121 = .ok (.putfield 73, 3) := by decide +kernel
theorem dX8_init_124 : decode cX8_init 124 = .ok (.aload_n 0, 1) := by decide +kernel
theorem dX8_init_125 : decode cX8_init 125 = .ok (.iconst 0, 1) := by decide +kernel
theorem dX8_init_126 : decode cX8_init 126 = .ok (.putfield 76, 3) := by decide +kernel
theorem dX8_init_129 : decode cX8_init 129 = .ok (.aload_n 0, 1) := by decide +kernel
theorem dX8_init_130 : decode cX8_init 130 = .ok (.iconst 0, 1) := by decide +kernel
theorem dX8_init_131 : decode cX8_init 131 = .ok (.putfield 79, 3) := by decide +kernel
theorem dX8_init_134 : decode cX8_init 134 = .ok (.aload_n 0, 1) := by decide +kernel
theorem dX8_init_135 : decode cX8_init 135 = .ok (.iconst 0, 1) := by decide +kernel
theorem dX8_init_136 : decode cX8_init 136 = .ok (.putfield 82, 3) := by decide +kernel
theorem dX8_init_139 : decode cX8_init 139 = .ok (.return_, 1) := by decide +kernel
theorem cw_X8_init_11 : CwIN mi_X8_init mi_X7_init yX7_init 11 0 "FrostRing" := ⟨⟨by decide +kernel, w_133, w_97, w_134, rfl, rfl⟩, ⟨by decide, by decide⟩, by decide +kernel, by decide, by decide⟩
theorem cw_X8_init_20 : CwIN mi_X8_init mi_X3_init yX3_init 20 0 "FrostRing" := ⟨⟨by decide +kernel, w_181, w_98, w_182, rfl, rfl⟩, ⟨by decide, by decide⟩, by decide +kernel, by decide, by decide⟩
theorem cw_X8_init_27 : CwIN mi_X8_init mi_X1_init yX1_init 27 0 "FrostRing" := ⟨⟨by decide +kernel, w_222, w_99, w_223, rfl, rfl⟩, ⟨by decide, by decide⟩, by decide +kernel, by decide, by decide⟩
theorem cw_X8_init_34 : CwIN mi_X8_init mi_X5_init yX5_init 34 0 "FrostRing" := ⟨⟨by decide +kernel, w_247, w_100, w_248, rfl, rfl⟩, ⟨by decide, by decide⟩, by decide +kernel, by decide, by decide⟩
theorem cw_X8_init_41 : CwIN mi_X8_init mi_X0_init yX0_init 41 0 "FrostRing" := ⟨⟨by decide +kernel, w_274, w_101, w_275, rfl, rfl⟩, ⟨by decide, by decide⟩, by decide +kernel, by decide, by decide⟩
theorem ct_X8_init {l : Launch} {Γ : Am} (r0 : Nat) (z : Hp) : Ct l Γ yX8_init mi_X8_init cvV [.ref (mB Γ + r0)] z (m_X8_init r0 z) := by
  refine Ct.ofJ (by decide) ⟨rfl, rfl⟩ (Nat.le_of_ble_eq_true rfl) ?_
  unfold m_X8_init
  show J l Γ mi_X8_init cvV 31 965 0 [(0, .ref (mB Γ + r0))] [] z _
  refine j_aload_n (pc := 0) 0 dX8_init_0 rfl rfl ?_
  refine j_objInit (pc := 1) w_129 w_122 w_123 dX8_init_1 (by decide) (by decide) ?_
  refine j_aload_n (pc := 4) 0 dX8_init_4 rfl rfl ?_
  refine j_new (pc := 5) (mc2 := 30) (ms2 := 958) ok_X7 df_X7 ⟨w_130, w_131, w_97⟩ dX8_init_5 (by decide) (by decide) (fun a1 z2 => ?_)
  refine j_dup (pc := 8) dX8_init_8 rfl ?_
  refine j_callIN_V (pc := 9) (as := []) (mc2 := 24) (ms2 := 786) (ct_X7_init _ _) cw_X8_init_11 dX8_init_9 (Nat.le_of_ble_eq_true rfl) rfl (by decide) (by decide) (fun _ z3 => ?_)
  refine j_putR (pc := 12) ok_X8 (by decide) rfl w_289 (Or.inr ⟨rfl, rfl, rfl⟩) rfl rfl dX8_init_12 (fun z4 => ?_)
  refine j_aload_n (pc := 15) 0 dX8_init_15 rfl rfl ?_
  refine j_new (pc := 16) (mc2 := 23) (ms2 := 779) ok_X3 df_X3 ⟨w_178, w_179, w_98⟩ dX8_init_16 (by decide) (by decide) (fun a5 z6 => ?_)
  refine j_dup (pc := 19) dX8_init_19 rfl ?_
  refine j_callIN_V (pc := 20) (as := []) (mc2 := 17) (ms2 := 671) (ct_X3_init _ _) cw_X8_init_20 dX8_init_20 (Nat.le_of_ble_eq_true rfl) rfl (by decide) (by decide) (fun _ z7 => ?_)
  refine j_putR (pc := 23) ok_X8 (by decide) rfl w_293 (Or.inr ⟨rfl, rfl, rfl⟩) rfl rfl dX8_init_23 (fun z8 => ?_)
  refine j_aload_n (pc := 26) 0 dX8_init_26 rfl rfl ?_
  refine j_new (pc := 27) (mc2 := 16) (ms2 := 667) ok_X1 df_X1 ⟨w_219, w_220, w_99⟩ dX8_init_27 (by decide) (by decide) (fun a9 z10 => ?_)
  refine j_dup (pc := 30) dX8_init_30 rfl ?_
  refine j_callIN_V (pc := 31) (as := []) (mc2 := 13) (ms2 := 649) (ct_X1_init _ _) cw_X8_init_27 dX8_init_31 (Nat.le_of_ble_eq_true rfl) rfl (by decide) (by decide) (fun _ z11 => ?_)
  refine j_putR (pc := 34) ok_X8 (by decide) rfl w_297 (Or.inr ⟨rfl, rfl, rfl⟩) rfl rfl dX8_init_34 (fun z12 => ?_)
  refine j_aload_n (pc := 37) 0 dX8_init_37 rfl rfl ?_
  refine j_new (pc := 38) (mc2 := 12) (ms2 := 644) ok_X5 df_X5 ⟨w_244, w_245, w_100⟩ dX8_init_38 (by decide) (by decide) (fun a13 z14 => ?_)
  refine j_dup (pc := 41) dX8_init_41 rfl ?_
  refine j_callIN_V (pc := 42) (as := []) (mc2 := 8) (ms2 := 604) (ct_X5_init _ _) cw_X8_init_34 dX8_init_42 (Nat.le_of_ble_eq_true rfl) rfl (by decide) (by decide) (fun _ z15 => ?_)
  refine j_putR (pc := 45) ok_X8 (by decide) rfl w_300 (Or.inr ⟨rfl, rfl, rfl⟩) rfl rfl dX8_init_45 (fun z16 => ?_)
  refine j_aload_n (pc := 48) 0 dX8_init_48 rfl rfl ?_
  refine j_new (pc := 49) (mc2 := 7) (ms2 := 602) ok_X0 df_X0 ⟨w_271, w_272, w_101⟩ dX8_init_49 (by decide) (by decide) (fun a17 z18 => ?_)
  refine j_dup (pc := 52) dX8_init_52 rfl ?_
  refine j_callIN_V (pc := 53) (as := []) (mc2 := 5) (ms2 := 582) (ct_X0_init _ _) cw_X8_init_41 dX8_init_53 (Nat.le_of_ble_eq_true rfl) rfl (by decide) (by decide) (fun _ z19 => ?_)
  refine j_putR (pc := 56) ok_X8 (by decide) rfl w_303 (Or.inr ⟨rfl, rfl, rfl⟩) rfl rfl dX8_init_56 (fun z20 => ?_)
  refine j_aload_n (pc := 59) 0 dX8_init_59 rfl rfl ?_
  refine j_sipush (pc := 60) (v := 144) dX8_init_60 (by decide) ?_
  refine j_newarr1 (pc := 63) (n0 := 144) (mc2 := 4) (ms2 := 438) w_177 dX8_init_63 (by decide) (by decide) (by decide) (by decide) (by decide) (fun a21 z22 => ?_)
  refine j_putR (pc := 65) ok_X8 (by decide) rfl w_305 (Or.inr ⟨rfl, rfl, rfl⟩) rfl rfl dX8_init_65 (fun z23 => ?_)
  refine j_aload_n (pc := 68) 0 dX8_init_68 rfl rfl ?_
  refine j_sipush (pc := 69) (v := 144) dX8_init_69 (by decide) ?_
  refine j_newarr1 (pc := 72) (n0 := 144) (mc2 := 3) (ms2 := 294) w_177 dX8_init_72 (by decide) (by decide) (by decide) (by decide) (by decide) (fun a24 z25 => ?_)
  refine j_putR (pc := 74) ok_X8 (by decide) rfl w_308 (Or.inr ⟨rfl, rfl, rfl⟩) rfl rfl dX8_init_74 (fun z26 => ?_)
  refine j_aload_n (pc := 77) 0 dX8_init_77 rfl rfl ?_
  refine j_sipush (pc := 78) (v := 144) dX8_init_78 (by decide) ?_
  refine j_newarr1 (pc := 81) (n0 := 144) (mc2 := 2) (ms2 := 150) w_177 dX8_init_81 (by decide) (by decide) (by decide) (by decide) (by decide) (fun a27 z28 => ?_)
  refine j_putR (pc := 83) ok_X8 (by decide) rfl w_311 (Or.inr ⟨rfl, rfl, rfl⟩) rfl rfl dX8_init_83 (fun z29 => ?_)
  refine j_aload_n (pc := 86) 0 dX8_init_86 rfl rfl ?_
  refine j_sipush (pc := 87) (v := 144) dX8_init_87 (by decide) ?_
  refine j_newarr1 (pc := 90) (n0 := 144) (mc2 := 1) (ms2 := 6) w_177 dX8_init_90 (by decide) (by decide) (by decide) (by decide) (by decide) (fun a30 z31 => ?_)
  refine j_putR (pc := 92) ok_X8 (by decide) rfl w_314 (Or.inr ⟨rfl, rfl, rfl⟩) rfl rfl dX8_init_92 (fun z32 => ?_)
  refine j_aload_n (pc := 95) 0 dX8_init_95 rfl rfl ?_
  refine j_bipush (pc := 96) (v := 6) dX8_init_96 (by decide) ?_
  refine j_newarr1 (pc := 98) (n0 := 6) (mc2 := 0) (ms2 := 0) w_177 dX8_init_98 (by decide) (by decide) (by decide) (by decide) (by decide) (fun a33 z34 => ?_)
  refine j_putR (pc := 100) ok_X8 (by decide) rfl w_318 (Or.inr ⟨rfl, rfl, rfl⟩) rfl rfl dX8_init_100 (fun z35 => ?_)
  refine j_aload_n (pc := 103) 0 dX8_init_103 rfl rfl ?_
  refine j_iconst (pc := 104) (v := 0) dX8_init_104 (by decide) ?_
  refine j_putI (pc := 105) ok_X8 (by decide) rfl w_321 (Or.inl rfl) rfl rfl dX8_init_105 (fun z36 => ?_)
  refine j_aload_n (pc := 108) 0 dX8_init_108 rfl rfl ?_
  refine j_iconst (pc := 109) (v := 0) dX8_init_109 (by decide) ?_
  refine j_putI (pc := 110) ok_X8 (by decide) rfl w_324 (Or.inl rfl) rfl rfl dX8_init_110 (fun z37 => ?_)
  refine j_aload_n (pc := 113) 0 dX8_init_113 rfl rfl ?_
  refine j_ldc (pc := 114) (v := 99999) dX8_init_114 w_288 ?_
  refine j_putI (pc := 116) ok_X8 (by decide) rfl w_326 (Or.inl rfl) rfl rfl dX8_init_116 (fun z38 => ?_)
  refine j_aload_n (pc := 119) 0 dX8_init_119 rfl rfl ?_
  refine j_iconst (pc := 120) (v := 0) dX8_init_120 (by decide) ?_
  refine j_putI (pc := 121) ok_X8 (by decide) rfl w_330 (Or.inl rfl) rfl rfl dX8_init_121 (fun z39 => ?_)
  refine j_aload_n (pc := 124) 0 dX8_init_124 rfl rfl ?_
  refine j_iconst (pc := 125) (v := 0) dX8_init_125 (by decide) ?_
  refine j_putI (pc := 126) ok_X8 (by decide) rfl w_333 (Or.inl rfl) rfl rfl dX8_init_126 (fun z40 => ?_)
  refine j_aload_n (pc := 129) 0 dX8_init_129 rfl rfl ?_
  refine j_iconst (pc := 130) (v := 0) dX8_init_130 (by decide) ?_
  refine j_putI (pc := 131) ok_X8 (by decide) rfl w_336 (Or.inl rfl) rfl rfl dX8_init_131 (fun z41 => ?_)
  refine j_aload_n (pc := 134) 0 dX8_init_134 rfl rfl ?_
  refine j_iconst (pc := 135) (v := 0) dX8_init_135 (by decide) ?_
  refine j_putI (pc := 136) ok_X8 (by decide) rfl w_338 (Or.inl rfl) rfl rfl dX8_init_136 (fun z42 => ?_)
  exact j_return (pc := 139) dX8_init_139 rfl
theorem dX8_begin_0 : decode cX8_begin 0 = .ok (.aload_n 0, 1) := by decide +kernel
theorem dX8_begin_1 : decode cX8_begin 1 = .ok (.getfield 46, 3) := by decide +kernel
theorem dX8_begin_4 : decode cX8_begin 4 = .ok (.aload_n 0, 1) := by decide +kernel
theorem dX8_begin_5 : decode cX8_begin 5 = .ok (.getfield 12, 3) := by decide +kernel
theorem dX8_begin_8 : decode cX8_begin 8 = .ok (.getfield 99, 3) := by decide +kernel
theorem dX8_begin_11 : decode cX8_begin 11 = .ok (.invokestatic 93, 3) := by decide +kernel
theorem dX8_begin_14 : decode cX8_begin 14 = .ok (.aload_n 0, 1) := by decide +kernel
theorem dX8_begin_15 : decode cX8_begin 15 = .ok (.getfield 50, 3) := by decide +kernel
theorem dX8_begin_18 : decode cX8_begin 18 = .ok (.iconst 0, 1) := by decide +kernel
theorem dX8_begin_19 : decode cX8_begin 19 = .ok (.invokestatic 93, 3) := by decide +kernel
theorem dX8_begin_22 : decode cX8_begin 22 = .ok (.aload_n 0, 1) := by decide +kernel
theorem dX8_begin_23 : decode cX8_begin 23 = .ok (.getfield 53, 3) := by decide +kernel
theorem dX8_begin_26 : decode cX8_begin 26 = .ok (.iconst 0, 1) := by decide +kernel
theorem dX8_begin_27 : decode cX8_begin 27 = .ok (.invokestatic 93, 3) := by decide +kernel
theorem dX8_begin_30 : decode cX8_begin 30 = .ok (.aload_n 0, 1) := by decide +kernel
theorem dX8_begin_31 : decode cX8_begin 31 = .ok (.getfield 59, 3) := by decide +kernel
theorem dX8_begin_34 : decode cX8_begin 34 = .ok (.iconst 0, 1) := by decide +kernel
theorem dX8_begin_35 : decode cX8_begin 35 = .ok (.invokestatic 93, 3) := by decide +kernel
theorem dX8_begin_38 : decode cX8_begin 38 = .ok (.aload_n 0, 1) := by decide +kernel
theorem dX8_begin_39 : decode cX8_begin 39 = .ok (.getfield 42, 3) := by decide +kernel
theorem dX8_begin_42 : decode cX8_begin 42 = .ok (.getfield 102, 3) := by decide +kernel
theorem dX8_begin_45 : decode cX8_begin 45 = .ok (.iconst (-1), 1) := by decide +kernel
theorem dX8_begin_46 : decode cX8_begin 46 = .ok (.invokestatic 93, 3) := by decide +kernel
theorem dX8_begin_49 : decode cX8_begin 49 = .ok (.aload_n 0, 1) := by decide +kernel
theorem dX8_begin_50 : decode cX8_begin 50 = .ok (.getfield 59, 3) := by decide +kernel
theorem dX8_begin_53 : decode cX8_begin 53 = .ok (.iconst 5, 1) := by decide +kernel
theorem dX8_begin_54 : decode cX8_begin 54 = .ok (.sipush 144, 3) := by decide +kernel
theorem dX8_begin_57 : decode cX8_begin 57 = .ok (.aload_n 0, 1) := by decide +kernel
theorem dX8_begin_58 : decode cX8_begin 58 = .ok (.getfield 12, 3) := by decide +kernel
theorem dX8_begin_61 : decode cX8_begin 61 = .ok (.getfield 99, 3) := by decide +kernel
theorem dX8_begin_64 : decode cX8_begin 64 = .ok (.imul, 1) := by decide +kernel
theorem dX8_begin_65 : decode cX8_begin 65 = .ok (.iastore, 1) := by decide +kernel
theorem dX8_begin_66 : decode cX8_begin 66 = .ok (.aload_n 0, 1) := by decide +kernel
theorem dX8_begin_67 : decode cX8_begin 67 = .ok (.iconst 0, 1) := by decide +kernel
theorem dX8_begin_68 : decode cX8_begin 68 = .ok (.putfield 66, 3) := by decide +kernel
theorem dX8_begin_71 : decode cX8_begin 71 = .ok (.aload_n 0, 1) := by decide +kernel
theorem dX8_begin_72 : decode cX8_begin 72 = .ok (.iconst 0, 1) := by decide +kernel
theorem dX8_begin_73 : decode cX8_begin 73 = .ok (.putfield 76, 3) := by decide +kernel
theorem dX8_begin_76 : decode cX8_begin 76 = .ok (.aload_n 0, 1) := by decide +kernel
theorem dX8_begin_77 : decode cX8_begin 77 = .ok (.iconst 0, 1) := by decide +kernel
theorem dX8_begin_78 : decode cX8_begin 78 = .ok (.putfield 79, 3) := by decide +kernel
theorem dX8_begin_81 : decode cX8_begin 81 = .ok (.aload_n 0, 1) := by decide +kernel
theorem dX8_begin_82 : decode cX8_begin 82 = .ok (.iconst 0, 1) := by decide +kernel
theorem dX8_begin_83 : decode cX8_begin 83 = .ok (.putfield 82, 3) := by decide +kernel
theorem dX8_begin_86 : decode cX8_begin 86 = .ok (.return_, 1) := by decide +kernel
theorem cw_X8_begin_93 : CwS mi_X8_begin mi_J7_fill_53178 yJ7_fill_53178 93 2 := ⟨⟨w_524, w_500, w_107, w_501⟩, ⟨by decide, by decide⟩, by decide +kernel, by decide, by decide⟩
theorem ct_X8_begin {l : Launch} {Γ : Am} (r0 : Nat) (z : Hp) : Ct l Γ yX8_begin mi_X8_begin cvV [.ref (mB Γ + r0)] z (m_X8_begin r0 z) := by
  refine Ct.ofJ (by decide) ⟨rfl, rfl⟩ (Nat.le_of_ble_eq_true rfl) ?_
  unfold m_X8_begin
  show J l Γ mi_X8_begin cvV 0 0 0 [(0, .ref (mB Γ + r0))] [] z _
  refine j_aload_n (pc := 0) 0 dX8_begin_0 rfl rfl ?_
  refine j_getR (pc := 1) ok_X8 (by decide) rfl w_305 dX8_begin_1 (fun a1 => ?_)
  refine j_aload_n (pc := 4) 0 dX8_begin_4 rfl rfl ?_
  refine j_getR (pc := 5) ok_X8 (by decide) rfl w_289 dX8_begin_5 (fun a2 => ?_)
  refine j_getI (pc := 8) ok_X7 (by decide) rfl w_158 dX8_begin_8 (fun x3 => ?_)
  refine j_callS_V (pc := 11) (as := [.ref (mB Γ + a1), .int x3]) (mc2 := 0) (ms2 := 0) (ct_J7_fill_53178 _ _ _) cw_X8_begin_93 dX8_begin_11 (Nat.le_of_ble_eq_true rfl) rfl (by decide) (by decide) (fun _ z4 => ?_)
  refine j_aload_n (pc := 14) 0 dX8_begin_14 rfl rfl ?_
  refine j_getR (pc := 15) ok_X8 (by decide) rfl w_308 dX8_begin_15 (fun a5 => ?_)
  refine j_iconst (pc := 18) (v := 0) dX8_begin_18 (by decide) ?_
  refine j_callS_V (pc := 19) (as := [.ref (mB Γ + a5), .int 0]) (mc2 := 0) (ms2 := 0) (ct_J7_fill_53178 _ _ _) cw_X8_begin_93 dX8_begin_19 (Nat.le_of_ble_eq_true rfl) rfl (by decide) (by decide) (fun _ z6 => ?_)
  refine j_aload_n (pc := 22) 0 dX8_begin_22 rfl rfl ?_
  refine j_getR (pc := 23) ok_X8 (by decide) rfl w_311 dX8_begin_23 (fun a7 => ?_)
  refine j_iconst (pc := 26) (v := 0) dX8_begin_26 (by decide) ?_
  refine j_callS_V (pc := 27) (as := [.ref (mB Γ + a7), .int 0]) (mc2 := 0) (ms2 := 0) (ct_J7_fill_53178 _ _ _) cw_X8_begin_93 dX8_begin_27 (Nat.le_of_ble_eq_true rfl) rfl (by decide) (by decide) (fun _ z8 => ?_)
  refine j_aload_n (pc := 30) 0 dX8_begin_30 rfl rfl ?_
  refine j_getR (pc := 31) ok_X8 (by decide) rfl w_318 dX8_begin_31 (fun a9 => ?_)
  refine j_iconst (pc := 34) (v := 0) dX8_begin_34 (by decide) ?_
  refine j_callS_V (pc := 35) (as := [.ref (mB Γ + a9), .int 0]) (mc2 := 0) (ms2 := 0) (ct_J7_fill_53178 _ _ _) cw_X8_begin_93 dX8_begin_35 (Nat.le_of_ble_eq_true rfl) rfl (by decide) (by decide) (fun _ z10 => ?_)
  refine j_aload_n (pc := 38) 0 dX8_begin_38 rfl rfl ?_
  refine j_getR (pc := 39) ok_X8 (by decide) rfl w_303 dX8_begin_39 (fun a11 => ?_)
  refine j_getR (pc := 42) ok_X0 (by decide) rfl w_278 dX8_begin_42 (fun a12 => ?_)
  refine j_iconst (pc := 45) (v := (-1)) dX8_begin_45 (by decide) ?_
  refine j_callS_V (pc := 46) (as := [.ref (mB Γ + a12), .int (-1)]) (mc2 := 0) (ms2 := 0) (ct_J7_fill_53178 _ _ _) cw_X8_begin_93 dX8_begin_46 (Nat.le_of_ble_eq_true rfl) rfl (by decide) (by decide) (fun _ z13 => ?_)
  refine j_aload_n (pc := 49) 0 dX8_begin_49 rfl rfl ?_
  refine j_getR (pc := 50) ok_X8 (by decide) rfl w_318 dX8_begin_50 (fun a14 => ?_)
  refine j_iconst (pc := 53) (v := 5) dX8_begin_53 (by decide) ?_
  refine j_sipush (pc := 54) (v := 144) dX8_begin_54 (by decide) ?_
  refine j_aload_n (pc := 57) 0 dX8_begin_57 rfl rfl ?_
  refine j_getR (pc := 58) ok_X8 (by decide) rfl w_289 dX8_begin_58 (fun a15 => ?_)
  refine j_getI (pc := 61) ok_X7 (by decide) rfl w_158 dX8_begin_61 (fun x16 => ?_)
  refine j_imul (pc := 64) dX8_begin_64 ?_
  refine j_iastore (pc := 65) dX8_begin_65 (fun z17 => ?_)
  refine j_aload_n (pc := 66) 0 dX8_begin_66 rfl rfl ?_
  refine j_iconst (pc := 67) (v := 0) dX8_begin_67 (by decide) ?_
  refine j_putI (pc := 68) ok_X8 (by decide) rfl w_324 (Or.inl rfl) rfl rfl dX8_begin_68 (fun z18 => ?_)
  refine j_aload_n (pc := 71) 0 dX8_begin_71 rfl rfl ?_
  refine j_iconst (pc := 72) (v := 0) dX8_begin_72 (by decide) ?_
  refine j_putI (pc := 73) ok_X8 (by decide) rfl w_333 (Or.inl rfl) rfl rfl dX8_begin_73 (fun z19 => ?_)
  refine j_aload_n (pc := 76) 0 dX8_begin_76 rfl rfl ?_
  refine j_iconst (pc := 77) (v := 0) dX8_begin_77 (by decide) ?_
  refine j_putI (pc := 78) ok_X8 (by decide) rfl w_336 (Or.inl rfl) rfl rfl dX8_begin_78 (fun z20 => ?_)
  refine j_aload_n (pc := 81) 0 dX8_begin_81 rfl rfl ?_
  refine j_iconst (pc := 82) (v := 0) dX8_begin_82 (by decide) ?_
  refine j_putI (pc := 83) ok_X8 (by decide) rfl w_338 (Or.inl rfl) rfl rfl dX8_begin_83 (fun z21 => ?_)
  exact j_return (pc := 86) dX8_begin_86 rfl
theorem dX8_copyFrom_0 : decode cX8_copyFrom 0 = .ok (.aload_n 0, 1) := by decide +kernel
theorem dX8_copyFrom_1 : decode cX8_copyFrom 1 = .ok (.getfield 12, 3) := by decide +kernel
theorem dX8_copyFrom_4 : decode cX8_copyFrom 4 = .ok (.aload_n 1, 1) := by decide +kernel
theorem dX8_copyFrom_5 : decode cX8_copyFrom 5 = .ok (.getfield 12, 3) := by decide +kernel
theorem dX8_copyFrom_8 : decode cX8_copyFrom 8 = .ok (.invokevirtual 105, 3) := by decide +kernel
theorem dX8_copyFrom_11 : decode cX8_copyFrom 11 = .ok (.aload_n 0, 1) := by decide +kernel
theorem dX8_copyFrom_12 : decode cX8_copyFrom 12 = .ok (.getfield 21, 3) := by decide +kernel
theorem dX8_copyFrom_15 : decode cX8_copyFrom 15 = .ok (.aload_n 1, 1) := by decide +kernel
theorem dX8_copyFrom_16 : decode cX8_copyFrom 16 = .ok (.getfield 21, 3) := by decide +kernel
theorem dX8_copyFrom_19 : decode cX8_copyFrom 19 = .ok (.invokevirtual 109, 3) := by decide +kernel
theorem dX8_copyFrom_22 : decode cX8_copyFrom 22 = .ok (.aload_n 0, 1) := by decide +kernel
theorem dX8_copyFrom_23 : decode cX8_copyFrom 23 = .ok (.getfield 28, 3) := by decide +kernel
theorem dX8_copyFrom_26 : decode cX8_copyFrom 26 = .ok (.aload_n 1, 1) := by decide +kernel
theorem dX8_copyFrom_27 : decode cX8_copyFrom 27 = .ok (.getfield 28, 3) := by decide +kernel
theorem dX8_copyFrom_30 : decode cX8_copyFrom 30 = .ok (.invokevirtual 112, 3) := by decide +kernel
theorem dX8_copyFrom_33 : decode cX8_copyFrom 33 = .ok (.aload_n 0, 1) := by decide +kernel
theorem dX8_copyFrom_34 : decode cX8_copyFrom 34 = .ok (.getfield 35, 3) := by decide +kernel
theorem dX8_copyFrom_37 : decode cX8_copyFrom 37 = .ok (.aload_n 1, 1) := by decide +kernel
theorem dX8_copyFrom_38 : decode cX8_copyFrom 38 = .ok (.getfield 35, 3) := by decide +kernel
theorem dX8_copyFrom_41 : decode cX8_copyFrom 41 = .ok (.invokevirtual 115, 3) := by decide +kernel
theorem dX8_copyFrom_44 : decode cX8_copyFrom 44 = .ok (.aload_n 0, 1) := by decide +kernel
theorem dX8_copyFrom_45 : decode cX8_copyFrom 45 = .ok (.getfield 42, 3) := by decide +kernel
theorem dX8_copyFrom_48 : decode cX8_copyFrom 48 = .ok (.aload_n 1, 1) := by decide +kernel
theorem dX8_copyFrom_49 : decode cX8_copyFrom 49 = .ok (.getfield 42, 3) := by decide +kernel
theorem dX8_copyFrom_52 : decode cX8_copyFrom 52 = .ok (.invokevirtual 118, 3) := by decide +kernel
theorem dX8_copyFrom_55 : decode cX8_copyFrom 55 = .ok (.aload_n 1, 1) := by decide +kernel
theorem dX8_copyFrom_56 : decode cX8_copyFrom 56 = .ok (.getfield 46, 3) := by decide +kernel
theorem dX8_copyFrom_59 : decode cX8_copyFrom 59 = .ok (.iconst 0, 1) := by decide +kernel
theorem dX8_copyFrom_60 : decode cX8_copyFrom 60 = .ok (.aload_n 0, 1) := by decide +kernel
theorem dX8_copyFrom_61 : decode cX8_copyFrom 61 = .ok (.getfield 46, 3) := by decide +kernel
theorem dX8_copyFrom_64 : decode cX8_copyFrom 64 = .ok (.iconst 0, 1) := by decide +kernel
theorem dX8_copyFrom_65 : decode cX8_copyFrom 65 = .ok (.sipush 144, 3) := by decide +kernel
theorem dX8_copyFrom_68 : decode cX8_copyFrom 68 = .ok (.invokestatic 121, 3) := by decide +kernel
theorem dX8_copyFrom_71 : decode cX8_copyFrom 71 = .ok (.aload_n 1, 1) := by decide +kernel
theorem dX8_copyFrom_72 : decode cX8_copyFrom 72 = .ok (.getfield 50, 3) := by decide +kernel
theorem dX8_copyFrom_75 : decode cX8_copyFrom 75 = .ok (.iconst 0, 1) := by decide +kernel
theorem dX8_copyFrom_76 : decode cX8_copyFrom 76 = .ok (.aload_n 0, 1) := by decide +kernel
theorem dX8_copyFrom_77 : decode cX8_copyFrom 77 = .ok (.getfield 50, 3) := by decide +kernel
theorem dX8_copyFrom_80 : decode cX8_copyFrom 80 = .ok (.iconst 0, 1) := by decide +kernel
theorem dX8_copyFrom_81 : decode cX8_copyFrom 81 = .ok (.sipush 144, 3) := by decide +kernel
theorem dX8_copyFrom_84 : decode cX8_copyFrom 84 = .ok (.invokestatic 121, 3) := by decide +kernel
theorem dX8_copyFrom_87 : decode cX8_copyFrom 87 = .ok (.aload_n 1, 1) := by decide +kernel
theorem dX8_copyFrom_88 : decode cX8_copyFrom 88 = .ok (.getfield 53, 3) := by decide +kernel
theorem dX8_copyFrom_91 : decode cX8_copyFrom 91 = .ok (.iconst 0, 1) := by decide +kernel
theorem dX8_copyFrom_92 : decode cX8_copyFrom 92 = .ok (.aload_n 0, 1) := by decide +kernel
theorem dX8_copyFrom_93 : decode cX8_copyFrom 93 = .ok (.getfield 53, 3) := by decide +kernel
theorem dX8_copyFrom_96 : decode cX8_copyFrom 96 = .ok (.iconst 0, 1) := by decide +kernel
theorem dX8_copyFrom_97 : decode cX8_copyFrom 97 = .ok (.sipush 144, 3) := by decide +kernel
theorem dX8_copyFrom_100 : decode cX8_copyFrom 100 = .ok (.invokestatic 121, 3) := by decide +kernel
theorem dX8_copyFrom_103 : decode cX8_copyFrom 103 = .ok (.aload_n 1, 1) := by decide +kernel
theorem dX8_copyFrom_104 : decode cX8_copyFrom 104 = .ok (.getfield 56, 3) := by decide +kernel
theorem dX8_copyFrom_107 : decode cX8_copyFrom 107 = .ok (.iconst 0, 1) := by decide +kernel
theorem dX8_copyFrom_108 : decode cX8_copyFrom 108 = .ok (.aload_n 0, 1) := by decide +kernel
theorem dX8_copyFrom_109 : decode cX8_copyFrom 109 = .ok (.getfield 56, 3) := by decide +kernel
theorem dX8_copyFrom_112 : decode cX8_copyFrom 112 = .ok (.iconst 0, 1) := by decide +kernel
theorem dX8_copyFrom_113 : decode cX8_copyFrom 113 = .ok (.sipush 144, 3) := by decide +kernel
theorem dX8_copyFrom_116 : decode cX8_copyFrom 116 = .ok (.invokestatic 121, 3) := by decide +kernel
theorem dX8_copyFrom_119 : decode cX8_copyFrom 119 = .ok (.aload_n 1, 1) := by decide +kernel
theorem dX8_copyFrom_120 : decode cX8_copyFrom 120 = .ok (.getfield 59, 3) := by decide +kernel
theorem dX8_copyFrom_123 : decode cX8_copyFrom 123 = .ok (.iconst 0, 1) := by decide +kernel
theorem dX8_copyFrom_124 : decode cX8_copyFrom 124 = .ok (.aload_n 0, 1) := by decide +kernel
theorem dX8_copyFrom_125 : decode cX8_copyFrom 125 = .ok (.getfield 59, 3) := by decide +kernel
theorem dX8_copyFrom_128 : decode cX8_copyFrom 128 = .ok (.iconst 0, 1) := by decide +kernel
theorem dX8_copyFrom_129 : decode cX8_copyFrom 129 = .ok (.bipush 6, 2) := by decide +kernel
theorem dX8_copyFrom_131 : decode cX8_copyFrom 131 = .ok (.invokestatic 121, 3) := by decide +kernel
theorem dX8_copyFrom_134 : decode cX8_copyFrom 134 = .ok (.aload_n 0, 1) := by decide +kernel
theorem dX8_copyFrom_135 : decode cX8_copyFrom 135 = .ok (.aload_n 1, 1) := by decide +kernel
theorem dX8_copyFrom_136 : decode cX8_copyFrom 136 = .ok (.getfield 62, 3) := by decide +kernel
theorem dX8_copyFrom_139 : decode cX8_copyFrom 139 = .ok (.putfield 62, 3) := by decide +kernel
theorem dX8_copyFrom_142 : decode cX8_copyFrom 142 = .ok (.aload_n 0, 1) := by decide +kernel
theorem dX8_copyFrom_143 : decode cX8_copyFrom 143 = .ok (.aload_n 1, 1) := by decide +kernel
theorem dX8_copyFrom_144 : decode cX8_copyFrom 144 = .ok (.getfield 66, 3) := by decide +kernel
theorem dX8_copyFrom_147 : decode cX8_copyFrom 147 = .ok (.putfield 66, 3) := by decide +kernel
theorem dX8_copyFrom_150 : decode cX8_copyFrom 150 = .ok (.aload_n 0, 1) := by decide +kernel
theorem dX8_copyFrom_151 : decode cX8_copyFrom 151 = .ok (.aload_n 1, 1) := by decide +kernel
theorem dX8_copyFrom_152 : decode cX8_copyFrom 152 = .ok (.getfield 70, 3) := by decide +kernel
theorem dX8_copyFrom_155 : decode cX8_copyFrom 155 = .ok (.putfield 70, 3) := by decide +kernel
theorem dX8_copyFrom_158 : decode cX8_copyFrom 158 = .ok (.aload_n 0, 1) := by decide +kernel
theorem dX8_copyFrom_159 : decode cX8_copyFrom 159 = .ok (.aload_n 1, 1) := by decide +kernel
theorem dX8_copyFrom_160 : decode cX8_copyFrom 160 = .ok (.getfield 73, 3) := by decide +kernel
theorem dX8_copyFrom_163 : decode cX8_copyFrom 163 = .ok (.putfield 73, 3) := by decide +kernel
theorem dX8_copyFrom_166 : decode cX8_copyFrom 166 = .ok (.aload_n 0, 1) := by decide +kernel
theorem dX8_copyFrom_167 : decode cX8_copyFrom 167 = .ok (.aload_n 1, 1) := by decide +kernel
theorem dX8_copyFrom_168 : decode cX8_copyFrom 168 = .ok (.getfield 76, 3) := by decide +kernel
theorem dX8_copyFrom_171 : decode cX8_copyFrom 171 = .ok (.putfield 76, 3) := by decide +kernel
theorem dX8_copyFrom_174 : decode cX8_copyFrom 174 = .ok (.aload_n 0, 1) := by decide +kernel
theorem dX8_copyFrom_175 : decode cX8_copyFrom 175 = .ok (.aload_n 1, 1) := by decide +kernel
theorem dX8_copyFrom_176 : decode cX8_copyFrom 176 = .ok (.getfield 79, 3) := by decide +kernel
theorem dX8_copyFrom_179 : decode cX8_copyFrom 179 = .ok (.putfield 79, 3) := by decide +kernel
theorem dX8_copyFrom_182 : decode cX8_copyFrom 182 = .ok (.aload_n 0, 1) := by decide +kernel
theorem dX8_copyFrom_183 : decode cX8_copyFrom 183 = .ok (.aload_n 1, 1) := by decide +kernel
theorem dX8_copyFrom_184 : decode cX8_copyFrom 184 = .ok (.getfield 82, 3) := by decide +kernel
theorem dX8_copyFrom_187 : decode cX8_copyFrom 187 = .ok (.putfield 82, 3) := by decide +kernel
theorem dX8_copyFrom_190 : decode cX8_copyFrom 190 = .ok (.return_, 1) := by decide +kernel
theorem cw_X8_copyFrom_105 : CwV mi_X8_copyFrom mi_X7_copyFrom yX7_copyFrom RX7 105 1 := ⟨⟨w_1056, w_1057, w_1058, w_97, w_1059⟩, ⟨by decide, by decide⟩, by decide +kernel, by decide, by decide⟩
theorem cw_X8_copyFrom_109 : CwV mi_X8_copyFrom mi_X3_copyFrom yX3_copyFrom RX3 109 1 := ⟨⟨w_1063, w_1064, w_1065, w_98, w_1066⟩, ⟨by decide, by decide⟩, by decide +kernel, by decide, by decide⟩
theorem cw_X8_copyFrom_112 : CwV mi_X8_copyFrom mi_X1_copyFrom yX1_copyFrom RX1 112 1 := ⟨⟨w_1068, w_1069, w_1070, w_99, w_1071⟩, ⟨by decide, by decide⟩, by decide +kernel, by decide, by decide⟩
theorem cw_X8_copyFrom_115 : CwV mi_X8_copyFrom mi_X5_copyFrom yX5_copyFrom RX5 115 1 := ⟨⟨w_1073, w_1074, w_1075, w_100, w_1076⟩, ⟨by decide, by decide⟩, by decide +kernel, by decide, by decide⟩
theorem cw_X8_copyFrom_118 : CwV mi_X8_copyFrom mi_X0_copyFrom yX0_copyFrom RX0 118 1 := ⟨⟨w_1078, w_1079, w_1080, w_101, w_1081⟩, ⟨by decide, by decide⟩, by decide +kernel, by decide, by decide⟩
theorem ct_X8_copyFrom {l : Launch} {Γ : Am} (r0 : Nat) (r1 : Nat) (z : Hp) : Ct l Γ yX8_copyFrom mi_X8_copyFrom cvV [.ref (mB Γ + r0), .ref (mB Γ + r1)] z (m_X8_copyFrom r0 r1 z) := by
  refine Ct.ofJ (by decide) ⟨rfl, rfl⟩ (Nat.le_of_ble_eq_true rfl) ?_
  unfold m_X8_copyFrom
  show J l Γ mi_X8_copyFrom cvV 0 0 0 [(0, .ref (mB Γ + r0)), (1, .ref (mB Γ + r1))] [] z _
  refine j_aload_n (pc := 0) 0 dX8_copyFrom_0 rfl rfl ?_
  refine j_getR (pc := 1) ok_X8 (by decide) rfl w_289 dX8_copyFrom_1 (fun a1 => ?_)
  refine j_aload_n (pc := 4) 1 dX8_copyFrom_4 rfl rfl ?_
  refine j_getR (pc := 5) ok_X8 (by decide) rfl w_289 dX8_copyFrom_5 (fun a2 => ?_)
  refine j_isC (fun h4 => ?_)
  refine j_callV_V (pc := 8) (as := [.ref (mB Γ + a2)]) (mc2 := 0) (ms2 := 0) (ct_X7_copyFrom _ _ _) h4 rfl cw_X8_copyFrom_105 dX8_copyFrom_8 (Nat.le_of_ble_eq_true rfl) rfl (by decide) (by decide) (fun _ z3 => ?_)
  refine j_aload_n (pc := 11) 0 dX8_copyFrom_11 rfl rfl ?_
  refine j_getR (pc := 12) ok_X8 (by decide) rfl w_293 dX8_copyFrom_12 (fun a5 => ?_)
  refine j_aload_n (pc := 15) 1 dX8_copyFrom_15 rfl rfl ?_
  refine j_getR (pc := 16) ok_X8 (by decide) rfl w_293 dX8_copyFrom_16 (fun a6 => ?_)
  refine j_isC (fun h8 => ?_)
  refine j_callV_V (pc := 19) (as := [.ref (mB Γ + a6)]) (mc2 := 0) (ms2 := 0) (ct_X3_copyFrom _ _ _) h8 rfl cw_X8_copyFrom_109 dX8_copyFrom_19 (Nat.le_of_ble_eq_true rfl) rfl (by decide) (by decide) (fun _ z7 => ?_)
  refine j_aload_n (pc := 22) 0 dX8_copyFrom_22 rfl rfl ?_
  refine j_getR (pc := 23) ok_X8 (by decide) rfl w_297 dX8_copyFrom_23 (fun a9 => ?_)
  refine j_aload_n (pc := 26) 1 dX8_copyFrom_26 rfl rfl ?_
  refine j_getR (pc := 27) ok_X8 (by decide) rfl w_297 dX8_copyFrom_27 (fun a10 => ?_)
  refine j_isC (fun h12 => ?_)
  refine j_callV_V (pc := 30) (as := [.ref (mB Γ + a10)]) (mc2 := 0) (ms2 := 0) (ct_X1_copyFrom _ _ _) h12 rfl cw_X8_copyFrom_112 dX8_copyFrom_30 (Nat.le_of_ble_eq_true rfl) rfl (by decide) (by decide) (fun _ z11 => ?_)
  refine j_aload_n (pc := 33) 0 dX8_copyFrom_33 rfl rfl ?_
  refine j_getR (pc := 34) ok_X8 (by decide) rfl w_300 dX8_copyFrom_34 (fun a13 => ?_)
  refine j_aload_n (pc := 37) 1 dX8_copyFrom_37 rfl rfl ?_
  refine j_getR (pc := 38) ok_X8 (by decide) rfl w_300 dX8_copyFrom_38 (fun a14 => ?_)
  refine j_isC (fun h16 => ?_)
  refine j_callV_V (pc := 41) (as := [.ref (mB Γ + a14)]) (mc2 := 0) (ms2 := 0) (ct_X5_copyFrom _ _ _) h16 rfl cw_X8_copyFrom_115 dX8_copyFrom_41 (Nat.le_of_ble_eq_true rfl) rfl (by decide) (by decide) (fun _ z15 => ?_)
  refine j_aload_n (pc := 44) 0 dX8_copyFrom_44 rfl rfl ?_
  refine j_getR (pc := 45) ok_X8 (by decide) rfl w_303 dX8_copyFrom_45 (fun a17 => ?_)
  refine j_aload_n (pc := 48) 1 dX8_copyFrom_48 rfl rfl ?_
  refine j_getR (pc := 49) ok_X8 (by decide) rfl w_303 dX8_copyFrom_49 (fun a18 => ?_)
  refine j_isC (fun h20 => ?_)
  refine j_callV_V (pc := 52) (as := [.ref (mB Γ + a18)]) (mc2 := 0) (ms2 := 0) (ct_X0_copyFrom _ _ _) h20 rfl cw_X8_copyFrom_118 dX8_copyFrom_52 (Nat.le_of_ble_eq_true rfl) rfl (by decide) (by decide) (fun _ z19 => ?_)
  refine j_aload_n (pc := 55) 1 dX8_copyFrom_55 rfl rfl ?_
  refine j_getR (pc := 56) ok_X8 (by decide) rfl w_305 dX8_copyFrom_56 (fun a21 => ?_)
  refine j_iconst (pc := 59) (v := 0) dX8_copyFrom_59 (by decide) ?_
  refine j_aload_n (pc := 60) 0 dX8_copyFrom_60 rfl rfl ?_
  refine j_getR (pc := 61) ok_X8 (by decide) rfl w_305 dX8_copyFrom_61 (fun a22 => ?_)
  refine j_iconst (pc := 64) (v := 0) dX8_copyFrom_64 (by decide) ?_
  refine j_sipush (pc := 65) (v := 144) dX8_copyFrom_65 (by decide) ?_
  refine j_arraycopy1 (pc := 68) ⟨w_1083, w_1062, w_1061, w_114⟩ (by decide) (by decide) dX8_copyFrom_68 (fun z23 => ?_)
  refine j_aload_n (pc := 71) 1 dX8_copyFrom_71 rfl rfl ?_
  refine j_getR (pc := 72) ok_X8 (by decide) rfl w_308 dX8_copyFrom_72 (fun a24 => ?_)
  refine j_iconst (pc := 75) (v := 0) dX8_copyFrom_75 (by decide) ?_
  refine j_aload_n (pc := 76) 0 dX8_copyFrom_76 rfl rfl ?_
  refine j_getR (pc := 77) ok_X8 (by decide) rfl w_308 dX8_copyFrom_77 (fun a25 => ?_)
  refine j_iconst (pc := 80) (v := 0) dX8_copyFrom_80 (by decide) ?_
  refine j_sipush (pc := 81) (v := 144) dX8_copyFrom_81 (by decide) ?_
  refine j_arraycopy1 (pc := 84) ⟨w_1083, w_1062, w_1061, w_114⟩ (by decide) (by decide) dX8_copyFrom_84 (fun z26 => ?_)
  refine j_aload_n (pc := 87) 1 dX8_copyFrom_87 rfl rfl ?_
  refine j_getR (pc := 88) ok_X8 (by decide) rfl w_311 dX8_copyFrom_88 (fun a27 => ?_)
  refine j_iconst (pc := 91) (v := 0) dX8_copyFrom_91 (by decide) ?_
  refine j_aload_n (pc := 92) 0 dX8_copyFrom_92 rfl rfl ?_
  refine j_getR (pc := 93) ok_X8 (by decide) rfl w_311 dX8_copyFrom_93 (fun a28 => ?_)
  refine j_iconst (pc := 96) (v := 0) dX8_copyFrom_96 (by decide) ?_
  refine j_sipush (pc := 97) (v := 144) dX8_copyFrom_97 (by decide) ?_
  refine j_arraycopy1 (pc := 100) ⟨w_1083, w_1062, w_1061, w_114⟩ (by decide) (by decide) dX8_copyFrom_100 (fun z29 => ?_)
  refine j_aload_n (pc := 103) 1 dX8_copyFrom_103 rfl rfl ?_
  refine j_getR (pc := 104) ok_X8 (by decide) rfl w_314 dX8_copyFrom_104 (fun a30 => ?_)
  refine j_iconst (pc := 107) (v := 0) dX8_copyFrom_107 (by decide) ?_
  refine j_aload_n (pc := 108) 0 dX8_copyFrom_108 rfl rfl ?_
  refine j_getR (pc := 109) ok_X8 (by decide) rfl w_314 dX8_copyFrom_109 (fun a31 => ?_)
  refine j_iconst (pc := 112) (v := 0) dX8_copyFrom_112 (by decide) ?_
  refine j_sipush (pc := 113) (v := 144) dX8_copyFrom_113 (by decide) ?_
  refine j_arraycopy1 (pc := 116) ⟨w_1083, w_1062, w_1061, w_114⟩ (by decide) (by decide) dX8_copyFrom_116 (fun z32 => ?_)
  refine j_aload_n (pc := 119) 1 dX8_copyFrom_119 rfl rfl ?_
  refine j_getR (pc := 120) ok_X8 (by decide) rfl w_318 dX8_copyFrom_120 (fun a33 => ?_)
  refine j_iconst (pc := 123) (v := 0) dX8_copyFrom_123 (by decide) ?_
  refine j_aload_n (pc := 124) 0 dX8_copyFrom_124 rfl rfl ?_
  refine j_getR (pc := 125) ok_X8 (by decide) rfl w_318 dX8_copyFrom_125 (fun a34 => ?_)
  refine j_iconst (pc := 128) (v := 0) dX8_copyFrom_128 (by decide) ?_
  refine j_bipush (pc := 129) (v := 6) dX8_copyFrom_129 (by decide) ?_
  refine j_arraycopy1 (pc := 131) ⟨w_1083, w_1062, w_1061, w_114⟩ (by decide) (by decide) dX8_copyFrom_131 (fun z35 => ?_)
  refine j_aload_n (pc := 134) 0 dX8_copyFrom_134 rfl rfl ?_
  refine j_aload_n (pc := 135) 1 dX8_copyFrom_135 rfl rfl ?_
  refine j_getI (pc := 136) ok_X8 (by decide) rfl w_321 dX8_copyFrom_136 (fun x36 => ?_)
  refine j_putI (pc := 139) ok_X8 (by decide) rfl w_321 (Or.inl rfl) rfl rfl dX8_copyFrom_139 (fun z37 => ?_)
  refine j_aload_n (pc := 142) 0 dX8_copyFrom_142 rfl rfl ?_
  refine j_aload_n (pc := 143) 1 dX8_copyFrom_143 rfl rfl ?_
  refine j_getI (pc := 144) ok_X8 (by decide) rfl w_324 dX8_copyFrom_144 (fun x38 => ?_)
  refine j_putI (pc := 147) ok_X8 (by decide) rfl w_324 (Or.inl rfl) rfl rfl dX8_copyFrom_147 (fun z39 => ?_)
  refine j_aload_n (pc := 150) 0 dX8_copyFrom_150 rfl rfl ?_
  refine j_aload_n (pc := 151) 1 dX8_copyFrom_151 rfl rfl ?_
  refine j_getI (pc := 152) ok_X8 (by decide) rfl w_326 dX8_copyFrom_152 (fun x40 => ?_)
  refine j_putI (pc := 155) ok_X8 (by decide) rfl w_326 (Or.inl rfl) rfl rfl dX8_copyFrom_155 (fun z41 => ?_)
  refine j_aload_n (pc := 158) 0 dX8_copyFrom_158 rfl rfl ?_
  refine j_aload_n (pc := 159) 1 dX8_copyFrom_159 rfl rfl ?_
  refine j_getI (pc := 160) ok_X8 (by decide) rfl w_330 dX8_copyFrom_160 (fun x42 => ?_)
  refine j_putI (pc := 163) ok_X8 (by decide) rfl w_330 (Or.inl rfl) rfl rfl dX8_copyFrom_163 (fun z43 => ?_)
  refine j_aload_n (pc := 166) 0 dX8_copyFrom_166 rfl rfl ?_
  refine j_aload_n (pc := 167) 1 dX8_copyFrom_167 rfl rfl ?_
  refine j_getI (pc := 168) ok_X8 (by decide) rfl w_333 dX8_copyFrom_168 (fun x44 => ?_)
  refine j_putI (pc := 171) ok_X8 (by decide) rfl w_333 (Or.inl rfl) rfl rfl dX8_copyFrom_171 (fun z45 => ?_)
  refine j_aload_n (pc := 174) 0 dX8_copyFrom_174 rfl rfl ?_
  refine j_aload_n (pc := 175) 1 dX8_copyFrom_175 rfl rfl ?_
  refine j_getI (pc := 176) ok_X8 (by decide) rfl w_336 dX8_copyFrom_176 (fun x46 => ?_)
  refine j_putI (pc := 179) ok_X8 (by decide) rfl w_336 (Or.inl rfl) rfl rfl dX8_copyFrom_179 (fun z47 => ?_)
  refine j_aload_n (pc := 182) 0 dX8_copyFrom_182 rfl rfl ?_
  refine j_aload_n (pc := 183) 1 dX8_copyFrom_183 rfl rfl ?_
  refine j_getI (pc := 184) ok_X8 (by decide) rfl w_338 dX8_copyFrom_184 (fun x48 => ?_)
  refine j_putI (pc := 187) ok_X8 (by decide) rfl w_338 (Or.inl rfl) rfl rfl dX8_copyFrom_187 (fun z49 => ?_)
  exact j_return (pc := 190) dX8_copyFrom_190 rfl
theorem dX8_isFrozen_0 : decode cX8_isFrozen 0 = .ok (.aload_n 0, 1) := by decide +kernel
theorem dX8_isFrozen_1 : decode cX8_isFrozen 1 = .ok (.getfield 53, 3) := by decide +kernel
theorem dX8_isFrozen_4 : decode cX8_isFrozen 4 = .ok (.iload_n 1, 1) := by decide +kernel
theorem dX8_isFrozen_5 : decode cX8_isFrozen 5 = .ok (.iaload, 1) := by decide +kernel
theorem dX8_isFrozen_6 : decode cX8_isFrozen 6 = .ok (.ifCond .ne 33, 3) := by decide +kernel
theorem dX8_isFrozen_9 : decode cX8_isFrozen 9 = .ok (.aload_n 0, 1) := by decide +kernel
theorem dX8_isFrozen_10 : decode cX8_isFrozen 10 = .ok (.getfield 50, 3) := by decide +kernel
theorem dX8_isFrozen_13 : decode cX8_isFrozen 13 = .ok (.iload_n 1, 1) := by decide +kernel
theorem dX8_isFrozen_14 : decode cX8_isFrozen 14 = .ok (.iaload, 1) := by decide +kernel
theorem dX8_isFrozen_15 : decode cX8_isFrozen 15 = .ok (.aload_n 0, 1) := by decide +kernel
theorem dX8_isFrozen_16 : decode cX8_isFrozen 16 = .ok (.getfield 12, 3) := by decide +kernel
theorem dX8_isFrozen_19 : decode cX8_isFrozen 19 = .ok (.getfield 127, 3) := by decide +kernel
theorem dX8_isFrozen_22 : decode cX8_isFrozen 22 = .ok (.aload_n 0, 1) := by decide +kernel
theorem dX8_isFrozen_23 : decode cX8_isFrozen 23 = .ok (.getfield 12, 3) := by decide +kernel
theorem dX8_isFrozen_26 : decode cX8_isFrozen 26 = .ok (.getfield 130, 3) := by decide +kernel
theorem dX8_isFrozen_29 : decode cX8_isFrozen 29 = .ok (.iload_n 1, 1) := by decide +kernel
theorem dX8_isFrozen_30 : decode cX8_isFrozen 30 = .ok (.iaload, 1) := by decide +kernel
theorem dX8_isFrozen_31 : decode cX8_isFrozen 31 = .ok (.iaload, 1) := by decide +kernel
theorem dX8_isFrozen_32 : decode cX8_isFrozen 32 = .ok (.if_icmp .ne 7, 3) := by decide +kernel
theorem dX8_isFrozen_35 : decode cX8_isFrozen 35 = .ok (.iconst 1, 1) := by decide +kernel
theorem dX8_isFrozen_36 : decode cX8_isFrozen 36 = .ok (.goto 4, 3) := by decide +kernel
theorem dX8_isFrozen_39 : decode cX8_isFrozen 39 = .ok (.iconst 0, 1) := by decide +kernel
theorem dX8_isFrozen_40 : decode cX8_isFrozen 40 = .ok (.ireturn, 1) := by decide +kernel
theorem ct_X8_isFrozen {l : Launch} {Γ : Am} (r0 : Nat) (v1 : Int32) (z : Hp) : Ct l Γ yX8_isFrozen mi_X8_isFrozen cvI [.ref (mB Γ + r0), .int v1] z (m_X8_isFrozen r0 v1 z) := by
  refine Ct.ofJ (by decide) ⟨rfl, rfl⟩ (Nat.le_of_ble_eq_true rfl) ?_
  unfold m_X8_isFrozen
  show J l Γ mi_X8_isFrozen cvI 0 0 0 [(0, .ref (mB Γ + r0)), (1, .int v1)] [] z _
  refine j_aload_n (pc := 0) 0 dX8_isFrozen_0 rfl rfl ?_
  refine j_getR (pc := 1) ok_X8 (by decide) rfl w_311 dX8_isFrozen_1 (fun a1 => ?_)
  refine j_iload_n (pc := 4) 1 dX8_isFrozen_4 rfl rfl ?_
  refine j_iaload (pc := 5) dX8_isFrozen_5 (fun x2 => ?_)
  refine j_if_ne (pc := 6) 39 dX8_isFrozen_6 (by decide) ?_ ?_
  · refine j_iconst (pc := 39) (v := 0) dX8_isFrozen_39 (by decide) ?_
    exact j_ireturn (pc := 40) dX8_isFrozen_40 rfl rfl
  refine j_aload_n (pc := 9) 0 dX8_isFrozen_9 rfl rfl ?_
  refine j_getR (pc := 10) ok_X8 (by decide) rfl w_308 dX8_isFrozen_10 (fun a3 => ?_)
  refine j_iload_n (pc := 13) 1 dX8_isFrozen_13 rfl rfl ?_
  refine j_iaload (pc := 14) dX8_isFrozen_14 (fun x4 => ?_)
  refine j_aload_n (pc := 15) 0 dX8_isFrozen_15 rfl rfl ?_
  refine j_getR (pc := 16) ok_X8 (by decide) rfl w_289 dX8_isFrozen_16 (fun a5 => ?_)
  refine j_getR (pc := 19) ok_X7 (by decide) rfl w_143 dX8_isFrozen_19 (fun a6 => ?_)
  refine j_aload_n (pc := 22) 0 dX8_isFrozen_22 rfl rfl ?_
  refine j_getR (pc := 23) ok_X8 (by decide) rfl w_289 dX8_isFrozen_23 (fun a7 => ?_)
  refine j_getR (pc := 26) ok_X7 (by decide) rfl w_151 dX8_isFrozen_26 (fun a8 => ?_)
  refine j_iload_n (pc := 29) 1 dX8_isFrozen_29 rfl rfl ?_
  refine j_iaload (pc := 30) dX8_isFrozen_30 (fun x9 => ?_)
  refine j_iaload (pc := 31) dX8_isFrozen_31 (fun x10 => ?_)
  refine j_icmp_ne (pc := 32) 39 dX8_isFrozen_32 (by decide) ?_ ?_
  · refine j_iconst (pc := 39) (v := 0) dX8_isFrozen_39 (by decide) ?_
    exact j_ireturn (pc := 40) dX8_isFrozen_40 rfl rfl
  refine j_iconst (pc := 35) (v := 1) dX8_isFrozen_35 (by decide) ?_
  refine j_goto (pc := 36) 40 dX8_isFrozen_36 (by decide) ?_
  exact j_ireturn (pc := 40) dX8_isFrozen_40 rfl rfl
theorem dX8_condition_0 : decode cX8_condition 0 = .ok (.aload_n 0, 1) := by decide +kernel
theorem dX8_condition_1 : decode cX8_condition 1 = .ok (.getfield 53, 3) := by decide +kernel
theorem dX8_condition_4 : decode cX8_condition 4 = .ok (.iload_n 1, 1) := by decide +kernel
theorem dX8_condition_5 : decode cX8_condition 5 = .ok (.iaload, 1) := by decide +kernel
theorem dX8_condition_6 : decode cX8_condition 6 = .ok (.ifCond .eq 5, 3) := by decide +kernel
theorem dX8_condition_9 : decode cX8_condition 9 = .ok (.iconst 2, 1) := by decide +kernel
theorem dX8_condition_10 : decode cX8_condition 10 = .ok (.ireturn, 1) := by decide +kernel
theorem dX8_condition_11 : decode cX8_condition 11 = .ok (.aload_n 0, 1) := by decide +kernel
theorem dX8_condition_12 : decode cX8_condition 12 = .ok (.iload_n 1, 1) := by decide +kernel
theorem dX8_condition_13 : decode cX8_condition 13 = .ok (.invokevirtual 133, 3) := by decide +kernel
theorem dX8_condition_16 : decode cX8_condition 16 = .ok (.ifCond .eq 7, 3) := by decide +kernel
theorem dX8_condition_19 : decode cX8_condition 19 = .ok (.iconst 1, 1) := by decide +kernel
theorem dX8_condition_20 : decode cX8_condition 20 = .ok (.goto 4, 3) := by decide +kernel
theorem dX8_condition_23 : decode cX8_condition 23 = .ok (.iconst 0, 1) := by decide +kernel
theorem dX8_condition_24 : decode cX8_condition 24 = .ok (.ireturn, 1) := by decide +kernel
theorem cw_X8_condition_133 : CwV mi_X8_condition mi_X8_isFrozen yX8_isFrozen RX8 133 1 := ⟨⟨w_893, w_801, w_802, w_96, w_803⟩, ⟨by decide, by decide⟩, by decide +kernel, by decide, by decide⟩
theorem ct_X8_condition {l : Launch} {Γ : Am} (r0 : Nat) (v1 : Int32) (z : Hp) : Ct l Γ yX8_condition mi_X8_condition cvI [.ref (mB Γ + r0), .int v1] z (m_X8_condition r0 v1 z) := by
  refine Ct.ofJ (by decide) ⟨rfl, rfl⟩ (Nat.le_of_ble_eq_true rfl) ?_
  unfold m_X8_condition
  show J l Γ mi_X8_condition cvI 0 0 0 [(0, .ref (mB Γ + r0)), (1, .int v1)] [] z _
  refine j_aload_n (pc := 0) 0 dX8_condition_0 rfl rfl ?_
  refine j_getR (pc := 1) ok_X8 (by decide) rfl w_311 dX8_condition_1 (fun a1 => ?_)
  refine j_iload_n (pc := 4) 1 dX8_condition_4 rfl rfl ?_
  refine j_iaload (pc := 5) dX8_condition_5 (fun x2 => ?_)
  refine j_if_eq (pc := 6) 11 dX8_condition_6 (by decide) ?_ ?_
  · refine j_aload_n (pc := 11) 0 dX8_condition_11 rfl rfl ?_
    refine j_iload_n (pc := 12) 1 dX8_condition_12 rfl rfl ?_
    refine j_isC (fun h5 => ?_)
    refine j_callV_I (pc := 13) (as := [.int v1]) (mc2 := 0) (ms2 := 0) (ct_X8_isFrozen _ _ _) h5 rfl cw_X8_condition_133 dX8_condition_13 (Nat.le_of_ble_eq_true rfl) rfl (by decide) (by decide) (fun x4 z3 => ?_)
    refine j_if_eq (pc := 16) 23 dX8_condition_16 (by decide) ?_ ?_
    · refine j_iconst (pc := 23) (v := 0) dX8_condition_23 (by decide) ?_
      exact j_ireturn (pc := 24) dX8_condition_24 rfl rfl
    refine j_iconst (pc := 19) (v := 1) dX8_condition_19 (by decide) ?_
    refine j_goto (pc := 20) 24 dX8_condition_20 (by decide) ?_
    exact j_ireturn (pc := 24) dX8_condition_24 rfl rfl
  refine j_iconst (pc := 9) (v := 2) dX8_condition_9 (by decide) ?_
  exact j_ireturn (pc := 10) dX8_condition_10 rfl rfl
