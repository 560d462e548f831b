theorem dX9_cool_0 : decode cX9_cool 0 = .ok (.aload_n 0, 1) := by decide +kernel
theorem dX9_cool_1 : decode cX9_cool 1 = .ok (.getfield 37, 3) := by decide +kernel
theorem dX9_cool_4 : decode cX9_cool 4 = .ok (.getfield 66, 3) := by decide +kernel
theorem dX9_cool_7 : decode cX9_cool 7 = .ok (.iload_n 1, 1) := by decide +kernel
theorem dX9_cool_8 : decode cX9_cool 8 = .ok (.iaload, 1) := by decide +kernel
theorem dX9_cool_9 : decode cX9_cool 9 = .ok (.istore_n 3, 1) := by decide +kernel
theorem dX9_cool_10 : decode cX9_cool 10 = .ok (.iload_n 2, 1) := by decide +kernel
theorem dX9_cool_11 : decode cX9_cool 11 = .ok (.iconst 0, 1) := by decide +kernel
theorem dX9_cool_12 : decode cX9_cool 12 = .ok (.aload_n 0, 1) := by decide +kernel
theorem dX9_cool_13 : decode cX9_cool 13 = .ok (.getfield 83, 3) := by decide +kernel
theorem dX9_cool_16 : decode cX9_cool 16 = .ok (.iload_n 1, 1) := by decide +kernel
theorem dX9_cool_17 : decode cX9_cool 17 = .ok (.iaload, 1) := by decide +kernel
theorem dX9_cool_18 : decode cX9_cool 18 = .ok (.aload_n 0, 1) := by decide +kernel
theorem dX9_cool_19 : decode cX9_cool 19 = .ok (.getfield 37, 3) := by decide +kernel
theorem dX9_cool_22 : decode cX9_cool 22 = .ok (.getfield 136, 3) := by decide +kernel
theorem dX9_cool_25 : decode cX9_cool 25 = .ok (.iload_n 3, 1) := by decide +kernel
theorem dX9_cool_26 : decode cX9_cool 26 = .ok (.iaload, 1) := by decide +kernel
theorem dX9_cool_27 : decode cX9_cool 27 = .ok (.isub, 1) := by decide +kernel
theorem dX9_cool_28 : decode cX9_cool 28 = .ok (.invokestatic 132, 3) := by decide +kernel
theorem dX9_cool_31 : decode cX9_cool 31 = .ok (.invokestatic 86, 3) := by decide +kernel
theorem dX9_cool_34 : decode cX9_cool 34 = .ok (.istore 4, 2) := by decide +kernel
theorem dX9_cool_36 : decode cX9_cool 36 = .ok (.iload_n 2, 1) := by decide +kernel
theorem dX9_cool_37 : decode cX9_cool 37 = .ok (.iload 4, 2) := by decide +kernel
theorem dX9_cool_39 : decode cX9_cool 39 = .ok (.isub, 1) := by decide +kernel
theorem dX9_cool_40 : decode cX9_cool 40 = .ok (.aload_n 0, 1) := by decide +kernel
theorem dX9_cool_41 : decode cX9_cool 41 = .ok (.getfield 37, 3) := by decide +kernel
theorem dX9_cool_44 : decode cX9_cool 44 = .ok (.getfield 139, 3) := by decide +kernel
theorem dX9_cool_47 : decode cX9_cool 47 = .ok (.iload_n 3, 1) := by decide +kernel
theorem dX9_cool_48 : decode cX9_cool 48 = .ok (.iaload, 1) := by decide +kernel
theorem dX9_cool_49 : decode cX9_cool 49 = .ok (.aload_n 0, 1) := by decide +kernel
theorem dX9_cool_50 : decode cX9_cool 50 = .ok (.getfield 142, 3) := by decide +kernel
theorem dX9_cool_53 : decode cX9_cool 53 = .ok (.iload_n 1, 1) := by decide +kernel
theorem dX9_cool_54 : decode cX9_cool 54 = .ok (.iaload, 1) := by decide +kernel
theorem dX9_cool_55 : decode cX9_cool 55 = .ok (.isub, 1) := by decide +kernel
theorem dX9_cool_56 : decode cX9_cool 56 = .ok (.invokestatic 86, 3) := by decide +kernel
theorem dX9_cool_59 : decode cX9_cool 59 = .ok (.istore 5, 2) := by decide +kernel
theorem dX9_cool_61 : decode cX9_cool 61 = .ok (.aload_n 0, 1) := by decide +kernel
theorem dX9_cool_62 : decode cX9_cool 62 = .ok (.getfield 142, 3) := by decide +kernel
theorem dX9_cool_65 : decode cX9_cool 65 = .ok (.iload_n 1, 1) := by decide +kernel
theorem dX9_cool_66 : decode cX9_cool 66 = .ok (.dup2, 1) := by decide +kernel
theorem dX9_cool_67 : decode cX9_cool 67 = .ok (.iaload, 1) := by decide +kernel
theorem dX9_cool_68 : decode cX9_cool 68 = .ok (.iload 5, 2) := by decide +kernel
theorem dX9_cool_70 : decode cX9_cool 70 = .ok (.iadd, 1) := by decide +kernel
theorem dX9_cool_71 : decode cX9_cool 71 = .ok (.iastore, 1) := by decide +kernel
theorem dX9_cool_72 : decode cX9_cool 72 = .ok (.aload_n 0, 1) := by decide +kernel
theorem dX9_cool_73 : decode cX9_cool 73 = .ok (.getfield 83, 3) := by decide +kernel
theorem dX9_cool_76 : decode cX9_cool 76 = .ok (.iload_n 1, 1) := by decide +kernel
theorem dX9_cool_77 : decode cX9_cool 77 = .ok (.dup2, 1) := by decide +kernel
theorem dX9_cool_78 : decode cX9_cool 78 = .ok (.iaload, 1) := by decide +kernel
theorem dX9_cool_79 : decode cX9_cool 79 = .ok (.iload_n 2, 1) := by decide +kernel
theorem dX9_cool_80 : decode cX9_cool 80 = .ok (.iload 5, 2) := by decide +kernel
theorem dX9_cool_82 : decode cX9_cool 82 = .ok (.isub, 1) := by decide +kernel
theorem dX9_cool_83 : decode cX9_cool 83 = .ok (.isub, 1) := by decide +kernel
theorem dX9_cool_84 : decode cX9_cool 84 = .ok (.iastore, 1) := by decide +kernel
theorem dX9_cool_85 : decode cX9_cool 85 = .ok (.return_, 1) := by decide +kernel
theorem cw_X9_cool_132 : CwS mi_X9_cool mi_J9_max_7cf53 yJ9_max_7cf53 132 2 := ⟨⟨w_833, w_834, w_109, w_835⟩, ⟨by decide, by decide⟩, by decide +kernel, by decide, by decide⟩
theorem cw_X9_cool_86 : CwS mi_X9_cool mi_J9_min_7cf53 yJ9_min_7cf53 86 2 := ⟨⟨w_813, w_604, w_109, w_605⟩, ⟨by decide, by decide⟩, by decide +kernel, by decide, by decide⟩
theorem ct_X9_cool {l : Launch} {Γ : Am} (r0 : Nat) (v1 : Int32) (v2 : Int32) (z : Hp) : Ct l Γ yX9_cool mi_X9_cool cvV [.ref (mB Γ + r0), .int v1, .int v2] z (m_X9_cool r0 v1 v2 z) := by
  refine Ct.ofJ (by decide) ⟨rfl, rfl⟩ (Nat.le_of_ble_eq_true rfl) ?_
  unfold m_X9_cool
  show J l Γ mi_X9_cool cvV 0 0 0 [(0, .ref (mB Γ + r0)), (1, .int v1), (2, .int v2)] [] z _
  refine j_aload_n (pc := 0) 0 dX9_cool_0 rfl rfl ?_
  refine j_getR (pc := 1) ok_X8 (by decide) rfl w_290 dX9_cool_1 (fun a1 => ?_)
  refine j_getR (pc := 4) ok_X7 (by decide) rfl w_150 dX9_cool_4 (fun a2 => ?_)
  refine j_iload_n (pc := 7) 1 dX9_cool_7 rfl rfl ?_
  refine j_iaload (pc := 8) dX9_cool_8 (fun x3 => ?_)
  refine j_istore_n (pc := 9) (lv2 := [(3, .int x3), (0, .ref (mB Γ + r0)), (1, .int v1), (2, .int v2)]) dX9_cool_9 rfl (by decide) rfl ?_
  refine j_iload_n (pc := 10) 3 dX9_cool_10 rfl rfl ?_
  refine j_iconst (pc := 11) (v := 0) dX9_cool_11 (by decide) ?_
  refine j_aload_n (pc := 12) 1 dX9_cool_12 rfl rfl ?_
  refine j_getR (pc := 13) ok_X8 (by decide) rfl w_306 dX9_cool_13 (fun a4 => ?_)
  refine j_iload_n (pc := 16) 2 dX9_cool_16 rfl rfl ?_
  refine j_iaload (pc := 17) dX9_cool_17 (fun x5 => ?_)
  refine j_aload_n (pc := 18) 1 dX9_cool_18 rfl rfl ?_
  refine j_getR (pc := 19) ok_X8 (by decide) rfl w_290 dX9_cool_19 (fun a6 => ?_)
  refine j_getR (pc := 22) ok_X7 (by decide) rfl w_148 dX9_cool_22 (fun a7 => ?_)
  refine j_iload_n (pc := 25) 0 dX9_cool_25 rfl rfl ?_
  refine j_iaload (pc := 26) dX9_cool_26 (fun x8 => ?_)
  refine j_isub (pc := 27) dX9_cool_27 ?_
  refine j_callS_I (pc := 28) (as := [.int 0, .int (x5 - x8)]) (mc2 := 0) (ms2 := 0) (ct_J9_max_7cf53 _ _ _) cw_X9_cool_132 dX9_cool_28 (Nat.le_of_ble_eq_true rfl) rfl (by decide) (by decide) (fun x10 z9 => ?_)
  refine j_callS_I (pc := 31) (as := [.int v2, .int x10]) (mc2 := 0) (ms2 := 0) (ct_J9_min_7cf53 _ _ _) cw_X9_cool_86 dX9_cool_31 (Nat.le_of_ble_eq_true rfl) rfl (by decide) (by decide) (fun x12 z11 => ?_)
  refine j_istore (pc := 34) (lv2 := [(4, .int x12), (3, .int x3), (0, .ref (mB Γ + r0)), (1, .int v1), (2, .int v2)]) dX9_cool_34 (by decide) rfl ?_
  refine j_iload_n (pc := 36) 4 dX9_cool_36 rfl rfl ?_
  refine j_iload (pc := 37) 0 dX9_cool_37 rfl ?_
  refine j_isub (pc := 39) dX9_cool_39 ?_
  refine j_aload_n (pc := 40) 2 dX9_cool_40 rfl rfl ?_
  refine j_getR (pc := 41) ok_X8 (by decide) rfl w_290 dX9_cool_41 (fun a13 => ?_)
  refine j_getR (pc := 44) ok_X7 (by decide) rfl w_145 dX9_cool_44 (fun a14 => ?_)
  refine j_iload_n (pc := 47) 1 dX9_cool_47 rfl rfl ?_
  refine j_iaload (pc := 48) dX9_cool_48 (fun x15 => ?_)
  refine j_aload_n (pc := 49) 2 dX9_cool_49 rfl rfl ?_
  refine j_getR (pc := 50) ok_X8 (by decide) rfl w_310 dX9_cool_50 (fun a16 => ?_)
  refine j_iload_n (pc := 53) 3 dX9_cool_53 rfl rfl ?_
  refine j_iaload (pc := 54) dX9_cool_54 (fun x17 => ?_)
  refine j_isub (pc := 55) dX9_cool_55 ?_
  refine j_callS_I (pc := 56) (as := [.int (v2 - x12), .int (x15 - x17)]) (mc2 := 0) (ms2 := 0) (ct_J9_min_7cf53 _ _ _) cw_X9_cool_86 dX9_cool_56 (Nat.le_of_ble_eq_true rfl) rfl (by decide) (by decide) (fun x19 z18 => ?_)
  refine j_istore (pc := 59) (lv2 := [(5, .int x19), (4, .int x12), (3, .int x3), (0, .ref (mB Γ + r0)), (1, .int v1), (2, .int v2)]) dX9_cool_59 (by decide) rfl ?_
  refine j_aload_n (pc := 61) 3 dX9_cool_61 rfl rfl ?_
  refine j_getR (pc := 62) ok_X8 (by decide) rfl w_310 dX9_cool_62 (fun a20 => ?_)
  refine j_iload_n (pc := 65) 4 dX9_cool_65 rfl rfl ?_
  refine j_dup2 (pc := 66) dX9_cool_66 rfl rfl ?_
  refine j_iaload (pc := 67) dX9_cool_67 (fun x21 => ?_)
  refine j_iload (pc := 68) 0 dX9_cool_68 rfl ?_
  refine j_iadd (pc := 70) dX9_cool_70 ?_
  refine j_iastore (pc := 71) dX9_cool_71 (fun z22 => ?_)
  refine j_aload_n (pc := 72) 3 dX9_cool_72 rfl rfl ?_
  refine j_getR (pc := 73) ok_X8 (by decide) rfl w_306 dX9_cool_73 (fun a23 => ?_)
  refine j_iload_n (pc := 76) 4 dX9_cool_76 rfl rfl ?_
  refine j_dup2 (pc := 77) dX9_cool_77 rfl rfl ?_
  refine j_iaload (pc := 78) dX9_cool_78 (fun x24 => ?_)
  refine j_iload_n (pc := 79) 5 dX9_cool_79 rfl rfl ?_
  refine j_iload (pc := 80) 0 dX9_cool_80 rfl ?_
  refine j_isub (pc := 82) dX9_cool_82 ?_
  refine j_isub (pc := 83) dX9_cool_83 ?_
  refine j_iastore (pc := 84) dX9_cool_84 (fun z25 => ?_)
  exact j_return (pc := 85) dX9_cool_85 rfl
theorem dX9_warmUp_0 : decode cX9_warmUp 0 = .ok (.aload_n 0, 1) := by decide +kernel
theorem dX9_warmUp_1 : decode cX9_warmUp 1 = .ok (.getfield 37, 3) := by decide +kernel
theorem dX9_warmUp_4 : decode cX9_warmUp 4 = .ok (.getfield 66, 3) := by decide +kernel
theorem dX9_warmUp_7 : decode cX9_warmUp 7 = .ok (.iload_n 1, 1) := by decide +kernel
theorem dX9_warmUp_8 : decode cX9_warmUp 8 = .ok (.iaload, 1) := by decide +kernel
theorem dX9_warmUp_9 : decode cX9_warmUp 9 = .ok (.istore_n 3, 1) := by decide +kernel
theorem dX9_warmUp_10 : decode cX9_warmUp 10 = .ok (.iload_n 2, 1) := by decide +kernel
theorem dX9_warmUp_11 : decode cX9_warmUp 11 = .ok (.iconst 0, 1) := by decide +kernel
theorem dX9_warmUp_12 : decode cX9_warmUp 12 = .ok (.aload_n 0, 1) := by decide +kernel
theorem dX9_warmUp_13 : decode cX9_warmUp 13 = .ok (.getfield 37, 3) := by decide +kernel
theorem dX9_warmUp_16 : decode cX9_warmUp 16 = .ok (.getfield 136, 3) := by decide +kernel
theorem dX9_warmUp_19 : decode cX9_warmUp 19 = .ok (.iload_n 3, 1) := by decide +kernel
theorem dX9_warmUp_20 : decode cX9_warmUp 20 = .ok (.iaload, 1) := by decide +kernel
theorem dX9_warmUp_21 : decode cX9_warmUp 21 = .ok (.aload_n 0, 1) := by decide +kernel
theorem dX9_warmUp_22 : decode cX9_warmUp 22 = .ok (.getfield 83, 3) := by decide +kernel
theorem dX9_warmUp_25 : decode cX9_warmUp 25 = .ok (.iload_n 1, 1) := by decide +kernel
theorem dX9_warmUp_26 : decode cX9_warmUp 26 = .ok (.iaload, 1) := by decide +kernel
theorem dX9_warmUp_27 : decode cX9_warmUp 27 = .ok (.isub, 1) := by decide +kernel
theorem dX9_warmUp_28 : decode cX9_warmUp 28 = .ok (.invokestatic 132, 3) := by decide +kernel
theorem dX9_warmUp_31 : decode cX9_warmUp 31 = .ok (.invokestatic 86, 3) := by decide +kernel
theorem dX9_warmUp_34 : decode cX9_warmUp 34 = .ok (.istore 4, 2) := by decide +kernel
theorem dX9_warmUp_36 : decode cX9_warmUp 36 = .ok (.iload_n 2, 1) := by decide +kernel
theorem dX9_warmUp_37 : decode cX9_warmUp 37 = .ok (.iload 4, 2) := by decide +kernel
theorem dX9_warmUp_39 : decode cX9_warmUp 39 = .ok (.isub, 1) := by decide +kernel
theorem dX9_warmUp_40 : decode cX9_warmUp 40 = .ok (.aload_n 0, 1) := by decide +kernel
theorem dX9_warmUp_41 : decode cX9_warmUp 41 = .ok (.getfield 142, 3) := by decide +kernel
theorem dX9_warmUp_44 : decode cX9_warmUp 44 = .ok (.iload_n 1, 1) := by decide +kernel
theorem dX9_warmUp_45 : decode cX9_warmUp 45 = .ok (.iaload, 1) := by decide +kernel
theorem dX9_warmUp_46 : decode cX9_warmUp 46 = .ok (.invokestatic 86, 3) := by decide +kernel
theorem dX9_warmUp_49 : decode cX9_warmUp 49 = .ok (.istore 5, 2) := by decide +kernel
theorem dX9_warmUp_51 : decode cX9_warmUp 51 = .ok (.aload_n 0, 1) := by decide +kernel
theorem dX9_warmUp_52 : decode cX9_warmUp 52 = .ok (.getfield 142, 3) := by decide +kernel
theorem dX9_warmUp_55 : decode cX9_warmUp 55 = .ok (.iload_n 1, 1) := by decide +kernel
theorem dX9_warmUp_56 : decode cX9_warmUp 56 = .ok (.dup2, 1) := by decide +kernel
theorem dX9_warmUp_57 : decode cX9_warmUp 57 = .ok (.iaload, 1) := by decide +kernel
theorem dX9_warmUp_58 : decode cX9_warmUp 58 = .ok (.iload 5, 2) := by decide +kernel
theorem dX9_warmUp_60 : decode cX9_warmUp 60 = .ok (.isub, 1) := by decide +kernel
theorem dX9_warmUp_61 : decode cX9_warmUp 61 = .ok (.iastore, 1) := by decide +kernel
theorem dX9_warmUp_62 : decode cX9_warmUp 62 = .ok (.aload_n 0, 1) := by decide +kernel
theorem dX9_warmUp_63 : decode cX9_warmUp 63 = .ok (.getfield 83, 3) := by decide +kernel
theorem dX9_warmUp_66 : decode cX9_warmUp 66 = .ok (.iload_n 1, 1) := by decide +kernel
theorem dX9_warmUp_67 : decode cX9_warmUp 67 = .ok (.dup2, 1) := by decide +kernel
theorem dX9_warmUp_68 : decode cX9_warmUp 68 = .ok (.iaload, 1) := by decide +kernel
theorem dX9_warmUp_69 : decode cX9_warmUp 69 = .ok (.iload_n 2, 1) := by decide +kernel
theorem dX9_warmUp_70 : decode cX9_warmUp 70 = .ok (.iload 5, 2) := by decide +kernel
theorem dX9_warmUp_72 : decode cX9_warmUp 72 = .ok (.isub, 1) := by decide +kernel
theorem dX9_warmUp_73 : decode cX9_warmUp 73 = .ok (.iadd, 1) := by decide +kernel
theorem dX9_warmUp_74 : decode cX9_warmUp 74 = .ok (.iastore, 1) := by decide +kernel
theorem dX9_warmUp_75 : decode cX9_warmUp 75 = .ok (.return_, 1) := by decide +kernel
theorem cw_X9_warmUp_132 : CwS mi_X9_warmUp mi_J9_max_7cf53 yJ9_max_7cf53 132 2 := ⟨⟨w_833, w_834, w_109, w_835⟩, ⟨by decide, by decide⟩, by decide +kernel, by decide, by decide⟩
theorem cw_X9_warmUp_86 : CwS mi_X9_warmUp mi_J9_min_7cf53 yJ9_min_7cf53 86 2 := ⟨⟨w_813, w_604, w_109, w_605⟩, ⟨by decide, by decide⟩, by decide +kernel, by decide, by decide⟩
theorem ct_X9_warmUp {l : Launch} {Γ : Am} (r0 : Nat) (v1 : Int32) (v2 : Int32) (z : Hp) : Ct l Γ yX9_warmUp mi_X9_warmUp cvV [.ref (mB Γ + r0), .int v1, .int v2] z (m_X9_warmUp r0 v1 v2 z) := by
  refine Ct.ofJ (by decide) ⟨rfl, rfl⟩ (Nat.le_of_ble_eq_true rfl) ?_
  unfold m_X9_warmUp
  show J l Γ mi_X9_warmUp cvV 0 0 0 [(0, .ref (mB Γ + r0)), (1, .int v1), (2, .int v2)] [] z _
  refine j_aload_n (pc := 0) 0 dX9_warmUp_0 rfl rfl ?_
  refine j_getR (pc := 1) ok_X8 (by decide) rfl w_290 dX9_warmUp_1 (fun a1 => ?_)
  refine j_getR (pc := 4) ok_X7 (by decide) rfl w_150 dX9_warmUp_4 (fun a2 => ?_)
  refine j_iload_n (pc := 7) 1 dX9_warmUp_7 rfl rfl ?_
  refine j_iaload (pc := 8) dX9_warmUp_8 (fun x3 => ?_)
  refine j_istore_n (pc := 9) (lv2 := [(3, .int x3), (0, .ref (mB Γ + r0)), (1, .int v1), (2, .int v2)]) dX9_warmUp_9 rfl (by decide) rfl ?_
  refine j_iload_n (pc := 10) 3 dX9_warmUp_10 rfl rfl ?_
  refine j_iconst (pc := 11) (v := 0) dX9_warmUp_11 (by decide) ?_
  refine j_aload_n (pc := 12) 1 dX9_warmUp_12 rfl rfl ?_
  refine j_getR (pc := 13) ok_X8 (by decide) rfl w_290 dX9_warmUp_13 (fun a4 => ?_)
  refine j_getR (pc := 16) ok_X7 (by decide) rfl w_148 dX9_warmUp_16 (fun a5 => ?_)
  refine j_iload_n (pc := 19) 0 dX9_warmUp_19 rfl rfl ?_
  refine j_iaload (pc := 20) dX9_warmUp_20 (fun x6 => ?_)
  refine j_aload_n (pc := 21) 1 dX9_warmUp_21 rfl rfl ?_
  refine j_getR (pc := 22) ok_X8 (by decide) rfl w_306 dX9_warmUp_22 (fun a7 => ?_)
  refine j_iload_n (pc := 25) 2 dX9_warmUp_25 rfl rfl ?_
  refine j_iaload (pc := 26) dX9_warmUp_26 (fun x8 => ?_)
  refine j_isub (pc := 27) dX9_warmUp_27 ?_
  refine j_callS_I (pc := 28) (as := [.int 0, .int (x6 - x8)]) (mc2 := 0) (ms2 := 0) (ct_J9_max_7cf53 _ _ _) cw_X9_warmUp_132 dX9_warmUp_28 (Nat.le_of_ble_eq_true rfl) rfl (by decide) (by decide) (fun x10 z9 => ?_)
  refine j_callS_I (pc := 31) (as := [.int v2, .int x10]) (mc2 := 0) (ms2 := 0) (ct_J9_min_7cf53 _ _ _) cw_X9_warmUp_86 dX9_warmUp_31 (Nat.le_of_ble_eq_true rfl) rfl (by decide) (by decide) (fun x12 z11 => ?_)
  refine j_istore (pc := 34) (lv2 := [(4, .int x12), (3, .int x3), (0, .ref (mB Γ + r0)), (1, .int v1), (2, .int v2)]) dX9_warmUp_34 (by decide) rfl ?_
  refine j_iload_n (pc := 36) 4 dX9_warmUp_36 rfl rfl ?_
  refine j_iload (pc := 37) 0 dX9_warmUp_37 rfl ?_
  refine j_isub (pc := 39) dX9_warmUp_39 ?_
  refine j_aload_n (pc := 40) 2 dX9_warmUp_40 rfl rfl ?_
  refine j_getR (pc := 41) ok_X8 (by decide) rfl w_310 dX9_warmUp_41 (fun a13 => ?_)
  refine j_iload_n (pc := 44) 3 dX9_warmUp_44 rfl rfl ?_
  refine j_iaload (pc := 45) dX9_warmUp_45 (fun x14 => ?_)
  refine j_callS_I (pc := 46) (as := [.int (v2 - x12), .int x14]) (mc2 := 0) (ms2 := 0) (ct_J9_min_7cf53 _ _ _) cw_X9_warmUp_86 dX9_warmUp_46 (Nat.le_of_ble_eq_true rfl) rfl (by decide) (by decide) (fun x16 z15 => ?_)
  refine j_istore (pc := 49) (lv2 := [(5, .int x16), (4, .int x12), (3, .int x3), (0, .ref (mB Γ + r0)), (1, .int v1), (2, .int v2)]) dX9_warmUp_49 (by decide) rfl ?_
  refine j_aload_n (pc := 51) 3 dX9_warmUp_51 rfl rfl ?_
  refine j_getR (pc := 52) ok_X8 (by decide) rfl w_310 dX9_warmUp_52 (fun a17 => ?_)
  refine j_iload_n (pc := 55) 4 dX9_warmUp_55 rfl rfl ?_
  refine j_dup2 (pc := 56) dX9_warmUp_56 rfl rfl ?_
  refine j_iaload (pc := 57) dX9_warmUp_57 (fun x18 => ?_)
  refine j_iload (pc := 58) 0 dX9_warmUp_58 rfl ?_
  refine j_isub (pc := 60) dX9_warmUp_60 ?_
  refine j_iastore (pc := 61) dX9_warmUp_61 (fun z19 => ?_)
  refine j_aload_n (pc := 62) 3 dX9_warmUp_62 rfl rfl ?_
  refine j_getR (pc := 63) ok_X8 (by decide) rfl w_306 dX9_warmUp_63 (fun a20 => ?_)
  refine j_iload_n (pc := 66) 4 dX9_warmUp_66 rfl rfl ?_
  refine j_dup2 (pc := 67) dX9_warmUp_67 rfl rfl ?_
  refine j_iaload (pc := 68) dX9_warmUp_68 (fun x21 => ?_)
  refine j_iload_n (pc := 69) 5 dX9_warmUp_69 rfl rfl ?_
  refine j_iload (pc := 70) 0 dX9_warmUp_70 rfl ?_
  refine j_isub (pc := 72) dX9_warmUp_72 ?_
  refine j_iadd (pc := 73) dX9_warmUp_73 ?_
  refine j_iastore (pc := 74) dX9_warmUp_74 (fun z22 => ?_)
  exact j_return (pc := 75) dX9_warmUp_75 rfl
theorem dX9_pass_0 : decode cX9_pass 0 = .ok (.aload_n 0, 1) := by decide +kernel
theorem dX9_pass_1 : decode cX9_pass 1 = .ok (.aload_n 1, 1) := by decide +kernel
theorem dX9_pass_2 : decode cX9_pass 2 = .ok (.invokevirtual 21, 3) := by decide +kernel
theorem dX9_pass_5 : decode cX9_pass 5 = .ok (.aload_n 0, 1) := by decide +kernel
theorem dX9_pass_6 : decode cX9_pass 6 = .ok (.getfield 15, 3) := by decide +kernel
theorem dX9_pass_9 : decode cX9_pass 9 = .ok (.iconst 0, 1) := by decide +kernel
theorem dX9_pass_10 : decode cX9_pass 10 = .ok (.invokestatic 25, 3) := by decide +kernel
theorem dX9_pass_13 : decode cX9_pass 13 = .ok (.aload_n 0, 1) := by decide +kernel
theorem dX9_pass_14 : decode cX9_pass 14 = .ok (.aload_n 1, 1) := by decide +kernel
theorem dX9_pass_15 : decode cX9_pass 15 = .ok (.invokevirtual 31, 3) := by decide +kernel
theorem dX9_pass_18 : decode cX9_pass 18 = .ok (.aload_n 0, 1) := by decide +kernel
theorem dX9_pass_19 : decode cX9_pass 19 = .ok (.aload_n 1, 1) := by decide +kernel
theorem dX9_pass_20 : decode cX9_pass 20 = .ok (.invokevirtual 34, 3) := by decide +kernel
theorem dX9_pass_23 : decode cX9_pass 23 = .ok (.iconst 0, 1) := by decide +kernel
theorem dX9_pass_24 : decode cX9_pass 24 = .ok (.istore_n 2, 1) := by decide +kernel
theorem dX9_pass_25 : decode cX9_pass 25 = .ok (.iload_n 2, 1) := by decide +kernel
theorem dX9_pass_26 : decode cX9_pass 26 = .ok (.bipush 12, 2) := by decide +kernel
theorem dX9_pass_28 : decode cX9_pass 28 = .ok (.if_icmp .ge 27, 3) := by decide +kernel
theorem dX9_pass_31 : decode cX9_pass 31 = .ok (.aload_n 1, 1) := by decide +kernel
theorem dX9_pass_32 : decode cX9_pass 32 = .ok (.getfield 37, 3) := by decide +kernel
theorem dX9_pass_35 : decode cX9_pass 35 = .ok (.getfield 43, 3) := by decide +kernel
theorem dX9_pass_38 : decode cX9_pass 38 = .ok (.iload_n 2, 1) := by decide +kernel
theorem dX9_pass_39 : decode cX9_pass 39 = .ok (.iaload, 1) := by decide +kernel
theorem dX9_pass_40 : decode cX9_pass 40 = .ok (.ifCond .le 9, 3) := by decide +kernel
theorem dX9_pass_43 : decode cX9_pass 43 = .ok (.aload_n 0, 1) := by decide +kernel
theorem dX9_pass_44 : decode cX9_pass 44 = .ok (.aload_n 1, 1) := by decide +kernel
theorem dX9_pass_45 : decode cX9_pass 45 = .ok (.iload_n 2, 1) := by decide +kernel
theorem dX9_pass_46 : decode cX9_pass 46 = .ok (.invokevirtual 48, 3) := by decide +kernel
theorem dX9_pass_49 : decode cX9_pass 49 = .ok (.iinc 2 1, 3) := by decide +kernel
theorem dX9_pass_52 : decode cX9_pass 52 = .ok (.goto (-27), 3) := by decide +kernel
theorem dX9_pass_55 : decode cX9_pass 55 = .ok (.aload_n 0, 1) := by decide +kernel
theorem dX9_pass_56 : decode cX9_pass 56 = .ok (.aload_n 1, 1) := by decide +kernel
theorem dX9_pass_57 : decode cX9_pass 57 = .ok (.invokevirtual 52, 3) := by decide +kernel
theorem dX9_pass_60 : decode cX9_pass 60 = .ok (.iconst 0, 1) := by decide +kernel
theorem dX9_pass_61 : decode cX9_pass 61 = .ok (.istore_n 2, 1) := by decide +kernel
theorem dX9_pass_62 : decode cX9_pass 62 = .ok (.iload_n 2, 1) := by decide +kernel
theorem dX9_pass_63 : decode cX9_pass 63 = .ok (.sipush 144, 3) := by decide +kernel
theorem dX9_pass_66 : decode cX9_pass 66 = .ok (.if_icmp .ge 53, 3) := by decide +kernel
theorem dX9_pass_69 : decode cX9_pass 69 = .ok (.aload_n 0, 1) := by decide +kernel
theorem dX9_pass_70 : decode cX9_pass 70 = .ok (.getfield 15, 3) := by decide +kernel
theorem dX9_pass_73 : decode cX9_pass 73 = .ok (.iload_n 2, 1) := by decide +kernel
theorem dX9_pass_74 : decode cX9_pass 74 = .ok (.iaload, 1) := by decide +kernel
theorem dX9_pass_75 : decode cX9_pass 75 = .ok (.ifCond .ge 18, 3) := by decide +kernel
theorem dX9_pass_78 : decode cX9_pass 78 = .ok (.aload_n 1, 1) := by decide +kernel
theorem dX9_pass_79 : decode cX9_pass 79 = .ok (.iload_n 2, 1) := by decide +kernel
theorem dX9_pass_80 : decode cX9_pass 80 = .ok (.aload_n 0, 1) := by decide +kernel
theorem dX9_pass_81 : decode cX9_pass 81 = .ok (.getfield 15, 3) := by decide +kernel
theorem dX9_pass_84 : decode cX9_pass 84 = .ok (.iload_n 2, 1) := by decide +kernel
theorem dX9_pass_85 : decode cX9_pass 85 = .ok (.iaload, 1) := by decide +kernel
theorem dX9_pass_86 : decode cX9_pass 86 = .ok (.ineg, 1) := by decide +kernel
theorem dX9_pass_87 : decode cX9_pass 87 = .ok (.invokestatic 55, 3) := by decide +kernel
theorem dX9_pass_90 : decode cX9_pass 90 = .ok (.goto 23, 3) := by decide +kernel
theorem dX9_pass_93 : decode cX9_pass 93 = .ok (.aload_n 0, 1) := by decide +kernel
theorem dX9_pass_94 : decode cX9_pass 94 = .ok (.getfield 15, 3) := by decide +kernel
theorem dX9_pass_97 : decode cX9_pass 97 = .ok (.iload_n 2, 1) := by decide +kernel
theorem dX9_pass_98 : decode cX9_pass 98 = .ok (.iaload, 1) := by decide +kernel
theorem dX9_pass_99 : decode cX9_pass 99 = .ok (.ifCond .le 14, 3) := by decide +kernel
theorem dX9_pass_102 : decode cX9_pass 102 = .ok (.aload_n 1, 1) := by decide +kernel
theorem dX9_pass_103 : decode cX9_pass 103 = .ok (.iload_n 2, 1) := by decide +kernel
theorem dX9_pass_104 : decode cX9_pass 104 = .ok (.aload_n 0, 1) := by decide +kernel
theorem dX9_pass_105 : decode cX9_pass 105 = .ok (.getfield 15, 3) := by decide +kernel
theorem dX9_pass_108 : decode cX9_pass 108 = .ok (.iload_n 2, 1) := by decide +kernel
theorem dX9_pass_109 : decode cX9_pass 109 = .ok (.iaload, 1) := by decide +kernel
theorem dX9_pass_110 : decode cX9_pass 110 = .ok (.invokestatic 59, 3) := by decide +kernel
theorem dX9_pass_113 : decode cX9_pass 113 = .ok (.iinc 2 1, 3) := by decide +kernel
theorem dX9_pass_116 : decode cX9_pass 116 = .ok (.goto (-54), 3) := by decide +kernel
theorem dX9_pass_119 : decode cX9_pass 119 = .ok (.aload_n 1, 1) := by decide +kernel
theorem dX9_pass_120 : decode cX9_pass 120 = .ok (.dup, 1) := by decide +kernel
theorem dX9_pass_121 : decode cX9_pass 121 = .ok (.getfield 62, 3) := by decide +kernel
theorem dX9_pass_124 : decode cX9_pass 124 = .ok (.iconst 1, 1) := by decide +kernel
theorem dX9_pass_125 : decode cX9_pass 125 = .ok (.iadd, 1) := by decide +kernel
theorem dX9_pass_126 : decode cX9_pass 126 = .ok (.putfield 62, 3) := by decide +kernel
theorem dX9_pass_129 : decode cX9_pass 129 = .ok (.return_, 1) := by decide +kernel
theorem cw_X9_pass_59 : CwS mi_X9_pass mi_X9_warmUp yX9_warmUp 59 3 := ⟨⟨w_839, w_840, w_104, w_841⟩, ⟨by decide, by decide⟩, by decide +kernel, by decide, by decide⟩
theorem cw_X9_pass_55 : CwS mi_X9_pass mi_X9_cool yX9_cool 55 3 := ⟨⟨w_836, w_837, w_104, w_838⟩, ⟨by decide, by decide⟩, by decide +kernel, by decide, by decide⟩
theorem cw_X9_pass_52 : CwV mi_X9_pass mi_X9_takeByPipes yX9_takeByPipes RX9 52 1 := ⟨⟨w_826, w_828, w_23, w_104, w_829⟩, ⟨by decide, by decide⟩, by decide +kernel, by decide, by decide⟩
theorem cw_X9_pass_48 : CwV mi_X9_pass mi_X9_stream yX9_stream RX9 48 2 := ⟨⟨w_822, w_824, w_22, w_104, w_825⟩, ⟨by decide, by decide⟩, by decide +kernel, by decide, by decide⟩
theorem cw_X9_pass_21 : CwV mi_X9_pass mi_X9_lookUpLeads yX9_lookUpLeads RX9 21 1 := ⟨⟨w_796, w_798, w_17, w_104, w_799⟩, ⟨by decide, by decide⟩, by decide +kernel, by decide, by decide⟩
theorem cw_X9_pass_25 : CwS mi_X9_pass mi_J7_fill_53178 yJ7_fill_53178 25 2 := ⟨⟨w_804, w_500, w_107, w_501⟩, ⟨by decide, by decide⟩, by decide +kernel, by decide, by decide⟩
theorem cw_X9_pass_31 : CwV mi_X9_pass mi_X9_leadBetweenCells yX9_leadBetweenCells RX9 31 1 := ⟨⟨w_805, w_807, w_18, w_104, w_808⟩, ⟨by decide, by decide⟩, by decide +kernel, by decide, by decide⟩
theorem cw_X9_pass_34 : CwV mi_X9_pass mi_X9_leadOverRim yX9_leadOverRim RX9 34 1 := ⟨⟨w_814, w_816, w_20, w_104, w_817⟩, ⟨by decide, by decide⟩, by decide +kernel, by decide, by decide⟩
theorem j_X9_pass_B119 {l : Launch} {Γ : Am}   : ∀ (r1 : Nat) (z : Hp), J l Γ mi_X9_pass cvV 0 0 119 [(1, .ref (mB Γ + r1))] [] z (m_X9_pass_B119  r1 z) := by
  intro r1 z
  unfold m_X9_pass_B119
  refine j_aload_n (pc := 119) 0 dX9_pass_119 rfl rfl ?_
  refine j_dup (pc := 120) dX9_pass_120 rfl ?_
  refine j_getI (pc := 121) ok_X8 (by decide) rfl w_334 dX9_pass_121 (fun x1 => ?_)
  refine j_iconst (pc := 124) (v := 1) dX9_pass_124 (by decide) ?_
  refine j_iadd (pc := 125) dX9_pass_125 ?_
  refine j_putI (pc := 126) ok_X8 (by decide) rfl w_334 (Or.inl rfl) rfl rfl dX9_pass_126 (fun z2 => ?_)
  exact j_return (pc := 129) dX9_pass_129 rfl
theorem j_X9_pass_B113 {l : Launch} {Γ : Am} {k62 : Nat → Nat → Int32 → Hp → Option (Unit × Hp)} (hL62 : ∀ (r0 : Nat) (r1 : Nat) (v2 : Int32) (z : Hp), J l Γ mi_X9_pass cvV 0 0 62 [(0, .ref (mB Γ + r0)), (1, .ref (mB Γ + r1)), (2, .int v2)] [] z (k62 r0 r1 v2 z)) : ∀ (r0 : Nat) (r1 : Nat) (v2 : Int32) (z : Hp), J l Γ mi_X9_pass cvV 0 0 113 [(0, .ref (mB Γ + r0)), (1, .ref (mB Γ + r1)), (2, .int v2)] [] z (m_X9_pass_B113 k62 r0 r1 v2 z) := by
  intro r0 r1 v2 z
  unfold m_X9_pass_B113
  refine j_iinc (pc := 113) (n0 := 2) (v0 := v2 + 1) (lv2 := [(2, .int (v2 + 1)), (0, .ref (mB Γ + r0)), (1, .ref (mB Γ + r1))]) dX9_pass_113 rfl rfl (by decide) rfl ?_
  refine j_goto (pc := 116) 62 dX9_pass_116 (by decide) ?_
  exact J.sub [1, 2, 0] rfl (hL62 r0 r1 (v2 + 1) z)
theorem j_X9_pass_L62 {l : Launch} {Γ : Am} {k119 : Nat → Hp → Option (Unit × Hp)} (hL119 : ∀ (r1 : Nat) (z : Hp), J l Γ mi_X9_pass cvV 0 0 119 [(1, .ref (mB Γ + r1))] [] z (k119 r1 z)) : ∀ (f : Nat), ∀ (r0 : Nat) (r1 : Nat) (v2 : Int32) (z : Hp), J l Γ mi_X9_pass cvV 0 0 62 [(0, .ref (mB Γ + r0)), (1, .ref (mB Γ + r1)), (2, .int v2)] [] z (m_X9_pass_L62 k119 f r0 r1 v2 z) := by
  intro f
  induction f with
  | zero => intro r0 r1 v2 z; exact J.none
  | succ f hL62 =>
    intro r0 r1 v2 z
    rw [m_X9_pass_L62]
    refine j_iload_n (pc := 62) 2 dX9_pass_62 rfl rfl ?_
    refine j_sipush (pc := 63) (v := 144) dX9_pass_63 (by decide) ?_
    refine j_icmp_ge (pc := 66) 119 dX9_pass_66 (by decide) ?_ ?_
    · exact J.sub [1] rfl (hL119 r1 z)
    refine j_aload_n (pc := 69) 0 dX9_pass_69 rfl rfl ?_
    refine j_getR (pc := 70) ok_X9 (by decide) rfl w_445 dX9_pass_70 (fun a3 => ?_)
    refine j_iload_n (pc := 73) 2 dX9_pass_73 rfl rfl ?_
    refine j_iaload (pc := 74) dX9_pass_74 (fun x4 => ?_)
    refine j_if_ge (pc := 75) 93 dX9_pass_75 (by decide) ?_ ?_
    · refine j_aload_n (pc := 93) 0 dX9_pass_93 rfl rfl ?_
      refine j_getR (pc := 94) ok_X9 (by decide) rfl w_445 dX9_pass_94 (fun a5 => ?_)
      refine j_iload_n (pc := 97) 2 dX9_pass_97 rfl rfl ?_
      refine j_iaload (pc := 98) dX9_pass_98 (fun x6 => ?_)
      refine j_if_le (pc := 99) 113 dX9_pass_99 (by decide) ?_ ?_
      · exact J.sub [0, 1, 2] rfl ((j_X9_pass_B113 hL62) r0 r1 v2 z)
      refine j_aload_n (pc := 102) 1 dX9_pass_102 rfl rfl ?_
      refine j_iload_n (pc := 103) 2 dX9_pass_103 rfl rfl ?_
      refine j_aload_n (pc := 104) 0 dX9_pass_104 rfl rfl ?_
      refine j_getR (pc := 105) ok_X9 (by decide) rfl w_445 dX9_pass_105 (fun a7 => ?_)
      refine j_iload_n (pc := 108) 2 dX9_pass_108 rfl rfl ?_
      refine j_iaload (pc := 109) dX9_pass_109 (fun x8 => ?_)
      refine j_callS_V (pc := 110) (as := [.ref (mB Γ + r1), .int v2, .int x8]) (mc2 := 0) (ms2 := 0) (ct_X9_warmUp _ _ _ _) cw_X9_pass_59 dX9_pass_110 (Nat.le_of_ble_eq_true rfl) rfl (by decide) (by decide) (fun _ z9 => ?_)
      exact J.sub [0, 1, 2] rfl ((j_X9_pass_B113 hL62) r0 r1 v2 z9)
    refine j_aload_n (pc := 78) 1 dX9_pass_78 rfl rfl ?_
    refine j_iload_n (pc := 79) 2 dX9_pass_79 rfl rfl ?_
    refine j_aload_n (pc := 80) 0 dX9_pass_80 rfl rfl ?_
    refine j_getR (pc := 81) ok_X9 (by decide) rfl w_445 dX9_pass_81 (fun a10 => ?_)
    refine j_iload_n (pc := 84) 2 dX9_pass_84 rfl rfl ?_
    refine j_iaload (pc := 85) dX9_pass_85 (fun x11 => ?_)
    refine j_ineg (pc := 86) dX9_pass_86 ?_
    refine j_callS_V (pc := 87) (as := [.ref (mB Γ + r1), .int v2, .int (-x11)]) (mc2 := 0) (ms2 := 0) (ct_X9_cool _ _ _ _) cw_X9_pass_55 dX9_pass_87 (Nat.le_of_ble_eq_true rfl) rfl (by decide) (by decide) (fun _ z12 => ?_)
    refine j_goto (pc := 90) 113 dX9_pass_90 (by decide) ?_
    exact J.sub [0, 1, 2] rfl ((j_X9_pass_B113 hL62) r0 r1 v2 z12)
theorem j_X9_pass_B55 {l : Launch} {Γ : Am}   : ∀ (r0 : Nat) (r1 : Nat) (z : Hp), J l Γ mi_X9_pass cvV 0 0 55 [(0, .ref (mB Γ + r0)), (1, .ref (mB Γ + r1))] [] z (m_X9_pass_B55  r0 r1 z) := by
  intro r0 r1 z
  unfold m_X9_pass_B55
  refine j_aload_n (pc := 55) 0 dX9_pass_55 rfl rfl ?_
  refine j_aload_n (pc := 56) 1 dX9_pass_56 rfl rfl ?_
  refine j_isC (fun h14 => ?_)
  refine j_callV_V (pc := 57) (as := [.ref (mB Γ + r1)]) (mc2 := 0) (ms2 := 0) (ct_X9_takeByPipes _ _ _) h14 rfl cw_X9_pass_52 dX9_pass_57 (Nat.le_of_ble_eq_true rfl) rfl (by decide) (by decide) (fun _ z13 => ?_)
  refine j_iconst (pc := 60) (v := 0) dX9_pass_60 (by decide) ?_
  refine j_istore_n (pc := 61) (lv2 := [(2, .int 0), (0, .ref (mB Γ + r0)), (1, .ref (mB Γ + r1))]) dX9_pass_61 rfl (by decide) rfl ?_
  exact J.sub [1, 2, 0] rfl ((j_X9_pass_L62 j_X9_pass_B119 FU) r0 r1 0 z13)
theorem j_X9_pass_B49 {l : Launch} {Γ : Am} {k25 : Nat → Nat → Int32 → Hp → Option (Unit × Hp)} (hL25 : ∀ (r0 : Nat) (r1 : Nat) (v2 : Int32) (z : Hp), J l Γ mi_X9_pass cvV 0 0 25 [(0, .ref (mB Γ + r0)), (1, .ref (mB Γ + r1)), (2, .int v2)] [] z (k25 r0 r1 v2 z)) : ∀ (r0 : Nat) (r1 : Nat) (v2 : Int32) (z : Hp), J l Γ mi_X9_pass cvV 0 0 49 [(0, .ref (mB Γ + r0)), (1, .ref (mB Γ + r1)), (2, .int v2)] [] z (m_X9_pass_B49 k25 r0 r1 v2 z) := by
  intro r0 r1 v2 z
  unfold m_X9_pass_B49
  refine j_iinc (pc := 49) (n0 := 2) (v0 := v2 + 1) (lv2 := [(2, .int (v2 + 1)), (0, .ref (mB Γ + r0)), (1, .ref (mB Γ + r1))]) dX9_pass_49 rfl rfl (by decide) rfl ?_
  refine j_goto (pc := 52) 25 dX9_pass_52 (by decide) ?_
  exact J.sub [1, 2, 0] rfl (hL25 r0 r1 (v2 + 1) z)
theorem j_X9_pass_L25 {l : Launch} {Γ : Am} {k55 : Nat → Nat → Hp → Option (Unit × Hp)} (hL55 : ∀ (r0 : Nat) (r1 : Nat) (z : Hp), J l Γ mi_X9_pass cvV 0 0 55 [(0, .ref (mB Γ + r0)), (1, .ref (mB Γ + r1))] [] z (k55 r0 r1 z)) : ∀ (f : Nat), ∀ (r0 : Nat) (r1 : Nat) (v2 : Int32) (z : Hp), J l Γ mi_X9_pass cvV 0 0 25 [(0, .ref (mB Γ + r0)), (1, .ref (mB Γ + r1)), (2, .int v2)] [] z (m_X9_pass_L25 k55 f r0 r1 v2 z) := by
  intro f
  induction f with
  | zero => intro r0 r1 v2 z; exact J.none
  | succ f hL25 =>
    intro r0 r1 v2 z
    rw [m_X9_pass_L25]
    refine j_iload_n (pc := 25) 2 dX9_pass_25 rfl rfl ?_
    refine j_bipush (pc := 26) (v := 12) dX9_pass_26 (by decide) ?_
    refine j_icmp_ge (pc := 28) 55 dX9_pass_28 (by decide) ?_ ?_
    · exact J.sub [0, 1] rfl (hL55 r0 r1 z)
    refine j_aload_n (pc := 31) 1 dX9_pass_31 rfl rfl ?_
    refine j_getR (pc := 32) ok_X8 (by decide) rfl w_290 dX9_pass_32 (fun a15 => ?_)
    refine j_getR (pc := 35) ok_X7 (by decide) rfl w_155 dX9_pass_35 (fun a16 => ?_)
    refine j_iload_n (pc := 38) 2 dX9_pass_38 rfl rfl ?_
    refine j_iaload (pc := 39) dX9_pass_39 (fun x17 => ?_)
    refine j_if_le (pc := 40) 49 dX9_pass_40 (by decide) ?_ ?_
    · exact J.sub [0, 1, 2] rfl ((j_X9_pass_B49 hL25) r0 r1 v2 z)
    refine j_aload_n (pc := 43) 0 dX9_pass_43 rfl rfl ?_
    refine j_aload_n (pc := 44) 1 dX9_pass_44 rfl rfl ?_
    refine j_iload_n (pc := 45) 2 dX9_pass_45 rfl rfl ?_
    refine j_isC (fun h19 => ?_)
    refine j_callV_V (pc := 46) (as := [.ref (mB Γ + r1), .int v2]) (mc2 := 0) (ms2 := 0) (ct_X9_stream _ _ _ _) h19 rfl cw_X9_pass_48 dX9_pass_46 (Nat.le_of_ble_eq_true rfl) rfl (by decide) (by decide) (fun _ z18 => ?_)
    exact J.sub [0, 1, 2] rfl ((j_X9_pass_B49 hL25) r0 r1 v2 z18)
theorem ct_X9_pass {l : Launch} {Γ : Am} (r0 : Nat) (r1 : Nat) (z : Hp) : Ct l Γ yX9_pass mi_X9_pass cvV [.ref (mB Γ + r0), .ref (mB Γ + r1)] z (m_X9_pass r0 r1 z) := by
  refine Ct.ofJ (by decide) ⟨rfl, rfl⟩ (Nat.le_of_ble_eq_true rfl) ?_
  unfold m_X9_pass
  show J l Γ mi_X9_pass cvV 0 0 0 [(0, .ref (mB Γ + r0)), (1, .ref (mB Γ + r1))] [] z _
  refine j_aload_n (pc := 0) 0 dX9_pass_0 rfl rfl ?_
  refine j_aload_n (pc := 1) 1 dX9_pass_1 rfl rfl ?_
  refine j_isC (fun h21 => ?_)
  refine j_callV_V (pc := 2) (as := [.ref (mB Γ + r1)]) (mc2 := 0) (ms2 := 0) (ct_X9_lookUpLeads _ _ _) h21 rfl cw_X9_pass_21 dX9_pass_2 (Nat.le_of_ble_eq_true rfl) rfl (by decide) (by decide) (fun _ z20 => ?_)
  refine j_aload_n (pc := 5) 0 dX9_pass_5 rfl rfl ?_
  refine j_getR (pc := 6) ok_X9 (by decide) rfl w_445 dX9_pass_6 (fun a22 => ?_)
  refine j_iconst (pc := 9) (v := 0) dX9_pass_9 (by decide) ?_
  refine j_callS_V (pc := 10) (as := [.ref (mB Γ + a22), .int 0]) (mc2 := 0) (ms2 := 0) (ct_J7_fill_53178 _ _ _) cw_X9_pass_25 dX9_pass_10 (Nat.le_of_ble_eq_true rfl) rfl (by decide) (by decide) (fun _ z23 => ?_)
  refine j_aload_n (pc := 13) 0 dX9_pass_13 rfl rfl ?_
  refine j_aload_n (pc := 14) 1 dX9_pass_14 rfl rfl ?_
  refine j_isC (fun h25 => ?_)
  refine j_callV_V (pc := 15) (as := [.ref (mB Γ + r1)]) (mc2 := 0) (ms2 := 0) (ct_X9_leadBetweenCells _ _ _) h25 rfl cw_X9_pass_31 dX9_pass_15 (Nat.le_of_ble_eq_true rfl) rfl (by decide) (by decide) (fun _ z24 => ?_)
  refine j_aload_n (pc := 18) 0 dX9_pass_18 rfl rfl ?_
  refine j_aload_n (pc := 19) 1 dX9_pass_19 rfl rfl ?_
  refine j_isC (fun h27 => ?_)
  refine j_callV_V (pc := 20) (as := [.ref (mB Γ + r1)]) (mc2 := 0) (ms2 := 0) (ct_X9_leadOverRim _ _ _) h27 rfl cw_X9_pass_34 dX9_pass_20 (Nat.le_of_ble_eq_true rfl) rfl (by decide) (by decide) (fun _ z26 => ?_)
  refine j_iconst (pc := 23) (v := 0) dX9_pass_23 (by decide) ?_
  refine j_istore_n (pc := 24) (lv2 := [(2, .int 0), (0, .ref (mB Γ + r0)), (1, .ref (mB Γ + r1))]) dX9_pass_24 rfl (by decide) rfl ?_
  exact J.sub [1, 2, 0] rfl ((j_X9_pass_L25 j_X9_pass_B55 FU) r0 r1 0 z26)
theorem dX10_init_0 : decode cX10_init 0 = .ok (.aload_n 0, 1) := by decide +kernel
theorem dX10_init_1 : decode cX10_init 1 = .ok (.invokespecial 3, 3) := by decide +kernel
theorem dX10_init_4 : decode cX10_init 4 = .ok (.aload_n 0, 1) := by decide +kernel
theorem dX10_init_5 : decode cX10_init 5 = .ok (.sipush 144, 3) := by decide +kernel
theorem dX10_init_8 : decode cX10_init 8 = .ok (.newarray .int, 2) := by decide +kernel
theorem dX10_init_10 : decode cX10_init 10 = .ok (.putfield 9, 3) := by decide +kernel
theorem dX10_init_13 : decode cX10_init 13 = .ok (.aload_n 0, 1) := by decide +kernel
theorem dX10_init_14 : decode cX10_init 14 = .ok (.sipush 144, 3) := by decide +kernel
theorem dX10_init_17 : decode cX10_init 17 = .ok (.newarray .int, 2) := by decide +kernel
theorem dX10_init_19 : decode cX10_init 19 = .ok (.putfield 15, 3) := by decide +kernel
theorem dX10_init_22 : decode cX10_init 22 = .ok (.aload_n 0, 1) := by decide +kernel
theorem dX10_init_23 : decode cX10_init 23 = .ok (.sipush 144, 3) := by decide +kernel
theorem dX10_init_26 : decode cX10_init 26 = .ok (.newarray .int, 2) := by decide +kernel
theorem dX10_init_28 : decode cX10_init 28 = .ok (.putfield 18, 3) := by decide +kernel
theorem dX10_init_31 : decode cX10_init 31 = .ok (.aload_n 0, 1) := by decide +kernel
theorem dX10_init_32 : decode cX10_init 32 = .ok (.sipush 288, 3) := by decide +kernel
theorem dX10_init_35 : decode cX10_init 35 = .ok (.newarray .int, 2) := by decide +kernel
theorem dX10_init_37 : decode cX10_init 37 = .ok (.putfield 21, 3) := by decide +kernel
theorem dX10_init_40 : decode cX10_init 40 = .ok (.aload_n 0, 1) := by decide +kernel
theorem dX10_init_41 : decode cX10_init 41 = .ok (.sipush 288, 3) := by decide +kernel
theorem dX10_init_44 : decode cX10_init 44 = .ok (.newarray .int, 2) := by decide +kernel
theorem dX10_init_46 : decode cX10_init 46 = .ok (.putfield 24, 3) := by decide +kernel
theorem dX10_init_49 : decode cX10_init 49 = .ok (.aload_n 0, 1) := by decide +kernel
theorem dX10_init_50 : decode cX10_init 50 = .ok (.iconst 0, 1) := by decide +kernel
theorem dX10_init_51 : decode cX10_init 51 = .ok (.putfield 27, 3) := by decide +kernel
theorem dX10_init_54 : decode cX10_init 54 = .ok (.aload_n 0, 1) := by decide +kernel
theorem dX10_init_55 : decode cX10_init 55 = .ok (.iconst 0, 1) := by decide +kernel
theorem dX10_init_56 : decode cX10_init 56 = .ok (.putfield 31, 3) := by decide +kernel
theorem dX10_init_59 : decode cX10_init 59 = .ok (.aload_n 0, 1) := by decide +kernel
theorem dX10_init_60 : decode cX10_init 60 = .ok (.sipush 288, 3) := by decide +kernel
theorem dX10_init_63 : decode cX10_init 63 = .ok (.newarray .int, 2) := by decide +kernel
theorem dX10_init_65 : decode cX10_init 65 = .ok (.putfield 34, 3) := by decide +kernel
theorem dX10_init_68 : decode cX10_init 68 = .ok (.aload_n 0, 1) := by decide +kernel
theorem dX10_init_69 : decode cX10_init 69 = .ok (.sipush 144, 3) := by decide +kernel
theorem dX10_init_72 : decode cX10_init 72 = .ok (.newarray .int, 2) := by decide +kernel
theorem dX10_init_74 : decode cX10_init 74 = .ok (.putfield 37, 3) := by decide +kernel
theorem dX10_init_77 : decode cX10_init 77 = .ok (.aload_n 0, 1) := by decide +kernel
theorem dX10_init_78 : decode cX10_init 78 = .ok (.sipush 576, 3) := by decide +kernel
theorem dX10_init_81 : decode cX10_init 81 = .ok (.newarray .int, 2) := by decide +kernel
theorem dX10_init_83 : decode cX10_init 83 = .ok (.putfield 40, 3) := by decide +kernel
theorem dX10_init_86 : decode cX10_init 86 = .ok (.return_, 1) := by decide +kernel
theorem ct_X10_init {l : Launch} {Γ : Am} (r0 : Nat) (z : Hp) : Ct l Γ yX10_init mi_X10_init cvV [.ref (mB Γ + r0)] z (m_X10_init r0 z) := by
  refine Ct.ofJ (by decide) ⟨rfl, rfl⟩ (Nat.le_of_ble_eq_true rfl) ?_
  unfold m_X10_init
  show J l Γ mi_X10_init cvV 8 2016 0 [(0, .ref (mB Γ + r0))] [] z _
  refine j_aload_n (pc := 0) 0 dX10_init_0 rfl rfl ?_
  refine j_objInit (pc := 1) w_459 w_122 w_123 dX10_init_1 (by decide) (by decide) ?_
  refine j_aload_n (pc := 4) 0 dX10_init_4 rfl rfl ?_
  refine j_sipush (pc := 5) (v := 144) dX10_init_5 (by decide) ?_
  refine j_newarr1 (pc := 8) (n0 := 144) (mc2 := 7) (ms2 := 1872) w_177 dX10_init_8 (by decide) (by decide) (by decide) (by decide) (by decide) (fun a1 z2 => ?_)
  refine j_putR (pc := 10) ok_X10 (by decide) rfl w_460 (Or.inr ⟨rfl, rfl, rfl⟩) rfl rfl dX10_init_10 (fun z3 => ?_)
  refine j_aload_n (pc := 13) 0 dX10_init_13 rfl rfl ?_
  refine j_sipush (pc := 14) (v := 144) dX10_init_14 (by decide) ?_
  refine j_newarr1 (pc := 17) (n0 := 144) (mc2 := 6) (ms2 := 1728) w_177 dX10_init_17 (by decide) (by decide) (by decide) (by decide) (by decide) (fun a4 z5 => ?_)
  refine j_putR (pc := 19) ok_X10 (by decide) rfl w_461 (Or.inr ⟨rfl, rfl, rfl⟩) rfl rfl dX10_init_19 (fun z6 => ?_)
  refine j_aload_n (pc := 22) 0 dX10_init_22 rfl rfl ?_
  refine j_sipush (pc := 23) (v := 144) dX10_init_23 (by decide) ?_
  refine j_newarr1 (pc := 26) (n0 := 144) (mc2 := 5) (ms2 := 1584) w_177 dX10_init_26 (by decide) (by decide) (by decide) (by decide) (by decide) (fun a7 z8 => ?_)
  refine j_putR (pc := 28) ok_X10 (by decide) rfl w_462 (Or.inr ⟨rfl, rfl, rfl⟩) rfl rfl dX10_init_28 (fun z9 => ?_)
  refine j_aload_n (pc := 31) 0 dX10_init_31 rfl rfl ?_
  refine j_sipush (pc := 32) (v := 288) dX10_init_32 (by decide) ?_
  refine j_newarr1 (pc := 35) (n0 := 288) (mc2 := 4) (ms2 := 1296) w_177 dX10_init_35 (by decide) (by decide) (by decide) (by decide) (by decide) (fun a10 z11 => ?_)
  refine j_putR (pc := 37) ok_X10 (by decide) rfl w_463 (Or.inl rfl) rfl rfl dX10_init_37 (fun z12 => ?_)
  refine j_aload_n (pc := 40) 0 dX10_init_40 rfl rfl ?_
  refine j_sipush (pc := 41) (v := 288) dX10_init_41 (by decide) ?_
  refine j_newarr1 (pc := 44) (n0 := 288) (mc2 := 3) (ms2 := 1008) w_177 dX10_init_44 (by decide) (by decide) (by decide) (by decide) (by decide) (fun a13 z14 => ?_)
  refine j_putR (pc := 46) ok_X10 (by decide) rfl w_464 (Or.inl rfl) rfl rfl dX10_init_46 (fun z15 => ?_)
  refine j_aload_n (pc := 49) 0 dX10_init_49 rfl rfl ?_
  refine j_iconst (pc := 50) (v := 0) dX10_init_50 (by decide) ?_
  refine j_putI (pc := 51) ok_X10 (by decide) rfl w_465 (Or.inl rfl) rfl rfl dX10_init_51 (fun z16 => ?_)
  refine j_aload_n (pc := 54) 0 dX10_init_54 rfl rfl ?_
  refine j_iconst (pc := 55) (v := 0) dX10_init_55 (by decide) ?_
  refine j_putI (pc := 56) ok_X10 (by decide) rfl w_466 (Or.inl rfl) rfl rfl dX10_init_56 (fun z17 => ?_)
  refine j_aload_n (pc := 59) 0 dX10_init_59 rfl rfl ?_
  refine j_sipush (pc := 60) (v := 288) dX10_init_60 (by decide) ?_
  refine j_newarr1 (pc := 63) (n0 := 288) (mc2 := 2) (ms2 := 720) w_177 dX10_init_63 (by decide) (by decide) (by decide) (by decide) (by decide) (fun a18 z19 => ?_)
  refine j_putR (pc := 65) ok_X10 (by decide) rfl w_467 (Or.inr ⟨rfl, rfl, rfl⟩) rfl rfl dX10_init_65 (fun z20 => ?_)
  refine j_aload_n (pc := 68) 0 dX10_init_68 rfl rfl ?_
  refine j_sipush (pc := 69) (v := 144) dX10_init_69 (by decide) ?_
  refine j_newarr1 (pc := 72) (n0 := 144) (mc2 := 1) (ms2 := 576) w_177 dX10_init_72 (by decide) (by decide) (by decide) (by decide) (by decide) (fun a21 z22 => ?_)
  refine j_putR (pc := 74) ok_X10 (by decide) rfl w_468 (Or.inr ⟨rfl, rfl, rfl⟩) rfl rfl dX10_init_74 (fun z23 => ?_)
  refine j_aload_n (pc := 77) 0 dX10_init_77 rfl rfl ?_
  refine j_sipush (pc := 78) (v := 576) dX10_init_78 (by decide) ?_
  refine j_newarr1 (pc := 81) (n0 := 576) (mc2 := 0) (ms2 := 0) w_177 dX10_init_81 (by decide) (by decide) (by decide) (by decide) (by decide) (fun a24 z25 => ?_)
  refine j_putR (pc := 83) ok_X10 (by decide) rfl w_469 (Or.inr ⟨rfl, rfl, rfl⟩) rfl rfl dX10_init_83 (fun z26 => ?_)
  exact j_return (pc := 86) dX10_init_86 rfl
theorem dX11_beside_0 : decode cX11_beside 0 = .ok (.iload_n 1, 1) := by decide +kernel
theorem dX11_beside_1 : decode cX11_beside 1 = .ok (.ifCond .ne 20, 3) := by decide +kernel
theorem dX11_beside_4 : decode cX11_beside 4 = .ok (.iload_n 0, 1) := by decide +kernel
theorem dX11_beside_5 : decode cX11_beside 5 = .ok (.bipush 12, 2) := by decide +kernel
theorem dX11_beside_7 : decode cX11_beside 7 = .ok (.irem, 1) := by decide +kernel
theorem dX11_beside_8 : decode cX11_beside 8 = .ok (.bipush 11, 2) := by decide +kernel
theorem dX11_beside_10 : decode cX11_beside 10 = .ok (.if_icmp .ge 9, 3) := by decide +kernel
theorem dX11_beside_13 : decode cX11_beside 13 = .ok (.iload_n 0, 1) := by decide +kernel
theorem dX11_beside_14 : decode cX11_beside 14 = .ok (.iconst 1, 1) := by decide +kernel
theorem dX11_beside_15 : decode cX11_beside 15 = .ok (.iadd, 1) := by decide +kernel
theorem dX11_beside_16 : decode cX11_beside 16 = .ok (.goto 4, 3) := by decide +kernel
theorem dX11_beside_19 : decode cX11_beside 19 = .ok (.iconst (-1), 1) := by decide +kernel
theorem dX11_beside_20 : decode cX11_beside 20 = .ok (.ireturn, 1) := by decide +kernel
theorem dX11_beside_21 : decode cX11_beside 21 = .ok (.iload_n 1, 1) := by decide +kernel
theorem dX11_beside_22 : decode cX11_beside 22 = .ok (.iconst 1, 1) := by decide +kernel
theorem dX11_beside_23 : decode cX11_beside 23 = .ok (.if_icmp .ne 18, 3) := by decide +kernel
theorem dX11_beside_26 : decode cX11_beside 26 = .ok (.iload_n 0, 1) := by decide +kernel
theorem dX11_beside_27 : decode cX11_beside 27 = .ok (.bipush 12, 2) := by decide +kernel
theorem dX11_beside_29 : decode cX11_beside 29 = .ok (.irem, 1) := by decide +kernel
theorem dX11_beside_30 : decode cX11_beside 30 = .ok (.ifCond .le 9, 3) := by decide +kernel
theorem dX11_beside_33 : decode cX11_beside 33 = .ok (.iload_n 0, 1) := by decide +kernel
theorem dX11_beside_34 : decode cX11_beside 34 = .ok (.iconst 1, 1) := by decide +kernel
theorem dX11_beside_35 : decode cX11_beside 35 = .ok (.isub, 1) := by decide +kernel
theorem dX11_beside_36 : decode cX11_beside 36 = .ok (.goto 4, 3) := by decide +kernel
theorem dX11_beside_39 : decode cX11_beside 39 = .ok (.iconst (-1), 1) := by decide +kernel
theorem dX11_beside_40 : decode cX11_beside 40 = .ok (.ireturn, 1) := by decide +kernel
theorem dX11_beside_41 : decode cX11_beside 41 = .ok (.iload_n 1, 1) := by decide +kernel
theorem dX11_beside_42 : decode cX11_beside 42 = .ok (.iconst 2, 1) := by decide +kernel
theorem dX11_beside_43 : decode cX11_beside 43 = .ok (.if_icmp .ne 18, 3) := by decide +kernel
theorem dX11_beside_46 : decode cX11_beside 46 = .ok (.iload_n 0, 1) := by decide +kernel
theorem dX11_beside_47 : decode cX11_beside 47 = .ok (.bipush 12, 2) := by decide +kernel
theorem dX11_beside_49 : decode cX11_beside 49 = .ok (.if_icmp .lt 10, 3) := by decide +kernel
theorem dX11_beside_52 : decode cX11_beside 52 = .ok (.iload_n 0, 1) := by decide +kernel
theorem dX11_beside_53 : decode cX11_beside 53 = .ok (.bipush 12, 2) := by decide +kernel
theorem dX11_beside_55 : decode cX11_beside 55 = .ok (.isub, 1) := by decide +kernel
theorem dX11_beside_56 : decode cX11_beside 56 = .ok (.goto 4, 3) := by decide +kernel
theorem dX11_beside_59 : decode cX11_beside 59 = .ok (.iconst (-1), 1) := by decide +kernel
theorem dX11_beside_60 : decode cX11_beside 60 = .ok (.ireturn, 1) := by decide +kernel
theorem dX11_beside_61 : decode cX11_beside 61 = .ok (.iload_n 0, 1) := by decide +kernel
theorem dX11_beside_62 : decode cX11_beside 62 = .ok (.sipush 132, 3) := by decide +kernel
theorem dX11_beside_65 : decode cX11_beside 65 = .ok (.if_icmp .ge 10, 3) := by decide +kernel
theorem dX11_beside_68 : decode cX11_beside 68 = .ok (.iload_n 0, 1) := by decide +kernel
theorem dX11_beside_69 : decode cX11_beside 69 = .ok (.bipush 12, 2) := by decide +kernel
theorem dX11_beside_71 : decode cX11_beside 71 = .ok (.iadd, 1) := by decide +kernel
theorem dX11_beside_72 : decode cX11_beside 72 = .ok (.goto 4, 3) := by decide +kernel
theorem dX11_beside_75 : decode cX11_beside 75 = .ok (.iconst (-1), 1) := by decide +kernel
theorem dX11_beside_76 : decode cX11_beside 76 = .ok (.ireturn, 1) := by decide +kernel
theorem ct_X11_beside {l : Launch} {Γ : Am} (v0 : Int32) (v1 : Int32) (z : Hp) : Ct l Γ yX11_beside mi_X11_beside cvI [.int v0, .int v1] z (m_X11_beside v0 v1 z) := by
  refine Ct.ofJ (by decide) ⟨rfl, rfl⟩ (Nat.le_of_ble_eq_true rfl) ?_
  unfold m_X11_beside
  show J l Γ mi_X11_beside cvI 0 0 0 [(0, .int v0), (1, .int v1)] [] z _
  refine j_iload_n (pc := 0) 1 dX11_beside_0 rfl rfl ?_
  refine j_if_ne (pc := 1) 21 dX11_beside_1 (by decide) ?_ ?_
  · refine j_iload_n (pc := 21) 1 dX11_beside_21 rfl rfl ?_
    refine j_iconst (pc := 22) (v := 1) dX11_beside_22 (by decide) ?_
    refine j_icmp_ne (pc := 23) 41 dX11_beside_23 (by decide) ?_ ?_
    · refine j_iload_n (pc := 41) 1 dX11_beside_41 rfl rfl ?_
      refine j_iconst (pc := 42) (v := 2) dX11_beside_42 (by decide) ?_
      refine j_icmp_ne (pc := 43) 61 dX11_beside_43 (by decide) ?_ ?_
      · refine j_iload_n (pc := 61) 0 dX11_beside_61 rfl rfl ?_
        refine j_sipush (pc := 62) (v := 132) dX11_beside_62 (by decide) ?_
        refine j_icmp_ge (pc := 65) 75 dX11_beside_65 (by decide) ?_ ?_
        · refine j_iconst (pc := 75) (v := (-1)) dX11_beside_75 (by decide) ?_
          exact j_ireturn (pc := 76) dX11_beside_76 rfl rfl
        refine j_iload_n (pc := 68) 0 dX11_beside_68 rfl rfl ?_
        refine j_bipush (pc := 69) (v := 12) dX11_beside_69 (by decide) ?_
        refine j_iadd (pc := 71) dX11_beside_71 ?_
        refine j_goto (pc := 72) 76 dX11_beside_72 (by decide) ?_
        exact j_ireturn (pc := 76) dX11_beside_76 rfl rfl
      refine j_iload_n (pc := 46) 0 dX11_beside_46 rfl rfl ?_
      refine j_bipush (pc := 47) (v := 12) dX11_beside_47 (by decide) ?_
      refine j_icmp_lt (pc := 49) 59 dX11_beside_49 (by decide) ?_ ?_
      · refine j_iconst (pc := 59) (v := (-1)) dX11_beside_59 (by decide) ?_
        exact j_ireturn (pc := 60) dX11_beside_60 rfl rfl
      refine j_iload_n (pc := 52) 0 dX11_beside_52 rfl rfl ?_
      refine j_bipush (pc := 53) (v := 12) dX11_beside_53 (by decide) ?_
      refine j_isub (pc := 55) dX11_beside_55 ?_
      refine j_goto (pc := 56) 60 dX11_beside_56 (by decide) ?_
      exact j_ireturn (pc := 60) dX11_beside_60 rfl rfl
    refine j_iload_n (pc := 26) 0 dX11_beside_26 rfl rfl ?_
    refine j_bipush (pc := 27) (v := 12) dX11_beside_27 (by decide) ?_
    refine j_irem (pc := 29) dX11_beside_29 (by decide) ?_
    refine j_if_le (pc := 30) 39 dX11_beside_30 (by decide) ?_ ?_
    · refine j_iconst (pc := 39) (v := (-1)) dX11_beside_39 (by decide) ?_
      exact j_ireturn (pc := 40) dX11_beside_40 rfl rfl
    refine j_iload_n (pc := 33) 0 dX11_beside_33 rfl rfl ?_
    refine j_iconst (pc := 34) (v := 1) dX11_beside_34 (by decide) ?_
    refine j_isub (pc := 35) dX11_beside_35 ?_
    refine j_goto (pc := 36) 40 dX11_beside_36 (by decide) ?_
    exact j_ireturn (pc := 40) dX11_beside_40 rfl rfl
  refine j_iload_n (pc := 4) 0 dX11_beside_4 rfl rfl ?_
  refine j_bipush (pc := 5) (v := 12) dX11_beside_5 (by decide) ?_
  refine j_irem (pc := 7) dX11_beside_7 (by decide) ?_
  refine j_bipush (pc := 8) (v := 11) dX11_beside_8 (by decide) ?_
  refine j_icmp_ge (pc := 10) 19 dX11_beside_10 (by decide) ?_ ?_
  · refine j_iconst (pc := 19) (v := (-1)) dX11_beside_19 (by decide) ?_
    exact j_ireturn (pc := 20) dX11_beside_20 rfl rfl
  refine j_iload_n (pc := 13) 0 dX11_beside_13 rfl rfl ?_
  refine j_iconst (pc := 14) (v := 1) dX11_beside_14 (by decide) ?_
  refine j_iadd (pc := 15) dX11_beside_15 ?_
  refine j_goto (pc := 16) 20 dX11_beside_16 (by decide) ?_
  exact j_ireturn (pc := 20) dX11_beside_20 rfl rfl
theorem dX10_look_0 : decode cX10_look 0 = .ok (.iconst 0, 1) := by decide +kernel
theorem dX10_look_1 : decode cX10_look 1 = .ok (.istore_n 2, 1) := by decide +kernel
theorem dX10_look_2 : decode cX10_look 2 = .ok (.iload_n 2, 1) := by decide +kernel
theorem dX10_look_3 : decode cX10_look 3 = .ok (.sipush 144, 3) := by decide +kernel
theorem dX10_look_6 : decode cX10_look 6 = .ok (.if_icmp .ge 54, 3) := by decide +kernel
theorem dX10_look_9 : decode cX10_look 9 = .ok (.aload_n 1, 1) := by decide +kernel
theorem dX10_look_10 : decode cX10_look 10 = .ok (.getfield 102, 3) := by decide +kernel
theorem dX10_look_13 : decode cX10_look 13 = .ok (.iload_n 2, 1) := by decide +kernel
theorem dX10_look_14 : decode cX10_look 14 = .ok (.iaload, 1) := by decide +kernel
theorem dX10_look_15 : decode cX10_look 15 = .ok (.ifCond .eq 13, 3) := by decide +kernel
theorem dX10_look_18 : decode cX10_look 18 = .ok (.aload_n 0, 1) := by decide +kernel
theorem dX10_look_19 : decode cX10_look 19 = .ok (.getfield 9, 3) := by decide +kernel
theorem dX10_look_22 : decode cX10_look 22 = .ok (.iload_n 2, 1) := by decide +kernel
theorem dX10_look_23 : decode cX10_look 23 = .ok (.iconst 2, 1) := by decide +kernel
theorem dX10_look_24 : decode cX10_look 24 = .ok (.iastore, 1) := by decide +kernel
theorem dX10_look_25 : decode cX10_look 25 = .ok (.goto 22, 3) := by decide +kernel
theorem dX10_look_28 : decode cX10_look 28 = .ok (.aload_n 0, 1) := by decide +kernel
theorem dX10_look_29 : decode cX10_look 29 = .ok (.getfield 9, 3) := by decide +kernel
theorem dX10_look_32 : decode cX10_look 32 = .ok (.iload_n 2, 1) := by decide +kernel
theorem dX10_look_33 : decode cX10_look 33 = .ok (.aload_n 1, 1) := by decide +kernel
theorem dX10_look_34 : decode cX10_look 34 = .ok (.iload_n 2, 1) := by decide +kernel
theorem dX10_look_35 : decode cX10_look 35 = .ok (.invokevirtual 107, 3) := by decide +kernel
theorem dX10_look_38 : decode cX10_look 38 = .ok (.ifCond .eq 7, 3) := by decide +kernel
theorem dX10_look_41 : decode cX10_look 41 = .ok (.iconst 1, 1) := by decide +kernel
theorem dX10_look_42 : decode cX10_look 42 = .ok (.goto 4, 3) := by decide +kernel
theorem dX10_look_45 : decode cX10_look 45 = .ok (.iconst 0, 1) := by decide +kernel
theorem dX10_look_46 : decode cX10_look 46 = .ok (.iastore, 1) := by decide +kernel
theorem dX10_look_47 : decode cX10_look 47 = .ok (.aload_n 0, 1) := by decide +kernel
theorem dX10_look_48 : decode cX10_look 48 = .ok (.getfield 15, 3) := by decide +kernel
theorem dX10_look_51 : decode cX10_look 51 = .ok (.iload_n 2, 1) := by decide +kernel
theorem dX10_look_52 : decode cX10_look 52 = .ok (.iconst 0, 1) := by decide +kernel
theorem dX10_look_53 : decode cX10_look 53 = .ok (.iastore, 1) := by decide +kernel
theorem dX10_look_54 : decode cX10_look 54 = .ok (.iinc 2 1, 3) := by decide +kernel
theorem dX10_look_57 : decode cX10_look 57 = .ok (.goto (-55), 3) := by decide +kernel
theorem dX10_look_60 : decode cX10_look 60 = .ok (.iconst 0, 1) := by decide +kernel
theorem dX10_look_61 : decode cX10_look 61 = .ok (.istore_n 2, 1) := by decide +kernel
theorem dX10_look_62 : decode cX10_look 62 = .ok (.iload_n 2, 1) := by decide +kernel
theorem dX10_look_63 : decode cX10_look 63 = .ok (.sipush 144, 3) := by decide +kernel
theorem dX10_look_66 : decode cX10_look 66 = .ok (.if_icmp .ge 63, 3) := by decide +kernel
theorem dX10_look_69 : decode cX10_look 69 = .ok (.iconst 0, 1) := by decide +kernel
theorem dX10_look_70 : decode cX10_look 70 = .ok (.istore_n 3, 1) := by decide +kernel
theorem dX10_look_71 : decode cX10_look 71 = .ok (.iload_n 3, 1) := by decide +kernel
theorem dX10_look_72 : decode cX10_look 72 = .ok (.iconst 4, 1) := by decide +kernel
theorem dX10_look_73 : decode cX10_look 73 = .ok (.if_icmp .ge 50, 3) := by decide +kernel
theorem dX10_look_76 : decode cX10_look 76 = .ok (.aload_n 0, 1) := by decide +kernel
theorem dX10_look_77 : decode cX10_look 77 = .ok (.getfield 9, 3) := by decide +kernel
theorem dX10_look_80 : decode cX10_look 80 = .ok (.iload_n 2, 1) := by decide +kernel
theorem dX10_look_81 : decode cX10_look 81 = .ok (.iaload, 1) := by decide +kernel
theorem dX10_look_82 : decode cX10_look 82 = .ok (.iconst 2, 1) := by decide +kernel
theorem dX10_look_83 : decode cX10_look 83 = .ok (.if_icmp .ne 40, 3) := by decide +kernel
theorem dX10_look_86 : decode cX10_look 86 = .ok (.iload_n 2, 1) := by decide +kernel
theorem dX10_look_87 : decode cX10_look 87 = .ok (.iload_n 3, 1) := by decide +kernel
theorem dX10_look_88 : decode cX10_look 88 = .ok (.invokestatic 65, 3) := by decide +kernel
theorem dX10_look_91 : decode cX10_look 91 = .ok (.istore 4, 2) := by decide +kernel
theorem dX10_look_93 : decode cX10_look 93 = .ok (.iload 4, 2) := by decide +kernel
theorem dX10_look_95 : decode cX10_look 95 = .ok (.iconst (-1), 1) := by decide +kernel
theorem dX10_look_96 : decode cX10_look 96 = .ok (.if_icmp .eq 21, 3) := by decide +kernel
theorem dX10_look_99 : decode cX10_look 99 = .ok (.aload_n 1, 1) := by decide +kernel
theorem dX10_look_100 : decode cX10_look 100 = .ok (.getfield 102, 3) := by decide +kernel
theorem dX10_look_103 : decode cX10_look 103 = .ok (.iload 4, 2) := by decide +kernel
theorem dX10_look_105 : decode cX10_look 105 = .ok (.iaload, 1) := by decide +kernel
theorem dX10_look_106 : decode cX10_look 106 = .ok (.ifCond .ne 11, 3) := by decide +kernel
theorem dX10_look_109 : decode cX10_look 109 = .ok (.aload_n 0, 1) := by decide +kernel
theorem dX10_look_110 : decode cX10_look 110 = .ok (.getfield 15, 3) := by decide +kernel
theorem dX10_look_113 : decode cX10_look 113 = .ok (.iload 4, 2) := by decide +kernel
theorem dX10_look_115 : decode cX10_look 115 = .ok (.iconst 1, 1) := by decide +kernel
theorem dX10_look_116 : decode cX10_look 116 = .ok (.iastore, 1) := by decide +kernel
theorem dX10_look_117 : decode cX10_look 117 = .ok (.iinc 3 1, 3) := by decide +kernel
theorem dX10_look_120 : decode cX10_look 120 = .ok (.goto (-49), 3) := by decide +kernel
theorem dX10_look_123 : decode cX10_look 123 = .ok (.iinc 2 1, 3) := by decide +kernel
theorem dX10_look_126 : decode cX10_look 126 = .ok (.goto (-64), 3) := by decide +kernel
theorem dX10_look_129 : decode cX10_look 129 = .ok (.return_, 1) := by decide +kernel
theorem cw_X10_look_65 : CwSN mi_X10_look mi_X11_beside yX11_beside 65 2 "FrostRing" := ⟨⟨by decide +kernel, w_860, w_95, w_861⟩, ⟨by decide, by decide⟩, by decide +kernel, by decide, by decide⟩
theorem cw_X10_look_107 : CwV mi_X10_look mi_X8_isFrozen yX8_isFrozen RX8 107 1 := ⟨⟨w_858, w_801, w_802, w_96, w_803⟩, ⟨by decide, by decide⟩, by decide +kernel, by decide, by decide⟩
theorem j_X10_look_B123 {l : Launch} {Γ : Am} {k62 : Nat → Nat → Int32 → Hp → Option (Unit × Hp)} (hL62 : ∀ (r0 : Nat) (r1 : Nat) (v2 : Int32) (z : Hp), J l Γ mi_X10_look cvV 0 0 62 [(0, .ref (mB Γ + r0)), (1, .ref (mB Γ + r1)), (2, .int v2)] [] z (k62 r0 r1 v2 z)) : ∀ (r0 : Nat) (r1 : Nat) (v2 : Int32) (z : Hp), J l Γ mi_X10_look cvV 0 0 123 [(0, .ref (mB Γ + r0)), (1, .ref (mB Γ + r1)), (2, .int v2)] [] z (m_X10_look_B123 k62 r0 r1 v2 z) := by
  intro r0 r1 v2 z
  unfold m_X10_look_B123
  refine j_iinc (pc := 123) (n0 := 2) (v0 := v2 + 1) (lv2 := [(2, .int (v2 + 1)), (0, .ref (mB Γ + r0)), (1, .ref (mB Γ + r1))]) dX10_look_123 rfl rfl (by decide) rfl ?_
  refine j_goto (pc := 126) 62 dX10_look_126 (by decide) ?_
  exact J.sub [1, 2, 0] rfl (hL62 r0 r1 (v2 + 1) z)
theorem j_X10_look_B117 {l : Launch} {Γ : Am} {k71 : Nat → Nat → Int32 → Int32 → Hp → Option (Unit × Hp)} (hL71 : ∀ (r0 : Nat) (r1 : Nat) (v2 : Int32) (v3 : Int32) (z : Hp), J l Γ mi_X10_look cvV 0 0 71 [(0, .ref (mB Γ + r0)), (1, .ref (mB Γ + r1)), (2, .int v2), (3, .int v3)] [] z (k71 r0 r1 v2 v3 z)) : ∀ (r0 : Nat) (r1 : Nat) (v2 : Int32) (v3 : Int32) (z : Hp), J l Γ mi_X10_look cvV 0 0 117 [(0, .ref (mB Γ + r0)), (1, .ref (mB Γ + r1)), (2, .int v2), (3, .int v3)] [] z (m_X10_look_B117 k71 r0 r1 v2 v3 z) := by
  intro r0 r1 v2 v3 z
  unfold m_X10_look_B117
  refine j_iinc (pc := 117) (n0 := 3) (v0 := v3 + 1) (lv2 := [(3, .int (v3 + 1)), (0, .ref (mB Γ + r0)), (1, .ref (mB Γ + r1)), (2, .int v2)]) dX10_look_117 rfl rfl (by decide) rfl ?_
  refine j_goto (pc := 120) 71 dX10_look_120 (by decide) ?_
  exact J.sub [1, 2, 3, 0] rfl (hL71 r0 r1 v2 (v3 + 1) z)
theorem j_X10_look_L71 {l : Launch} {Γ : Am} {k123 : Nat → Nat → Int32 → Hp → Option (Unit × Hp)} (hL123 : ∀ (r0 : Nat) (r1 : Nat) (v2 : Int32) (z : Hp), J l Γ mi_X10_look cvV 0 0 123 [(0, .ref (mB Γ + r0)), (1, .ref (mB Γ + r1)), (2, .int v2)] [] z (k123 r0 r1 v2 z)) : ∀ (f : Nat), ∀ (r0 : Nat) (r1 : Nat) (v2 : Int32) (v3 : Int32) (z : Hp), J l Γ mi_X10_look cvV 0 0 71 [(0, .ref (mB Γ + r0)), (1, .ref (mB Γ + r1)), (2, .int v2), (3, .int v3)] [] z (m_X10_look_L71 k123 f r0 r1 v2 v3 z) := by
  intro f
  induction f with
  | zero => intro r0 r1 v2 v3 z; exact J.none
  | succ f hL71 =>
    intro r0 r1 v2 v3 z
    rw [m_X10_look_L71]
    refine j_iload_n (pc := 71) 3 dX10_look_71 rfl rfl ?_
    refine j_iconst (pc := 72) (v := 4) dX10_look_72 (by decide) ?_
    refine j_icmp_ge (pc := 73) 123 dX10_look_73 (by decide) ?_ ?_
    · exact J.sub [0, 1, 2] rfl (hL123 r0 r1 v2 z)
    refine j_aload_n (pc := 76) 0 dX10_look_76 rfl rfl ?_
    refine j_getR (pc := 77) ok_X10 (by decide) rfl w_460 dX10_look_77 (fun a1 => ?_)
    refine j_iload_n (pc := 80) 2 dX10_look_80 rfl rfl ?_
    refine j_iaload (pc := 81) dX10_look_81 (fun x2 => ?_)
    refine j_iconst (pc := 82) (v := 2) dX10_look_82 (by decide) ?_
    refine j_icmp_ne (pc := 83) 123 dX10_look_83 (by decide) ?_ ?_
    · exact J.sub [0, 1, 2] rfl (hL123 r0 r1 v2 z)
    refine j_iload_n (pc := 86) 2 dX10_look_86 rfl rfl ?_
    refine j_iload_n (pc := 87) 3 dX10_look_87 rfl rfl ?_
    refine j_callSN_I (pc := 88) (as := [.int v2, .int v3]) (mc2 := 0) (ms2 := 0) (ct_X11_beside _ _ _) cw_X10_look_65 dX10_look_88 (Nat.le_of_ble_eq_true rfl) rfl (by decide) (by decide) (fun x4 z3 => ?_)
    refine j_istore (pc := 91) (lv2 := [(4, .int x4), (0, .ref (mB Γ + r0)), (1, .ref (mB Γ + r1)), (2, .int v2), (3, .int v3)]) dX10_look_91 (by decide) rfl ?_
    refine j_iload (pc := 93) 0 dX10_look_93 rfl ?_
    refine j_iconst (pc := 95) (v := (-1)) dX10_look_95 (by decide) ?_
    refine j_icmp_eq (pc := 96) 117 dX10_look_96 (by decide) ?_ ?_
    · exact J.sub [1, 2, 3, 4] rfl ((j_X10_look_B117 hL71) r0 r1 v2 v3 z3)
    refine j_aload_n (pc := 99) 2 dX10_look_99 rfl rfl ?_
    refine j_getR (pc := 100) ok_X8 (by decide) rfl w_317 dX10_look_100 (fun a5 => ?_)
    refine j_iload (pc := 103) 0 dX10_look_103 rfl ?_
    refine j_iaload (pc := 105) dX10_look_105 (fun x6 => ?_)
    refine j_if_ne (pc := 106) 117 dX10_look_106 (by decide) ?_ ?_
    · exact J.sub [1, 2, 3, 4] rfl ((j_X10_look_B117 hL71) r0 r1 v2 v3 z3)
    refine j_aload_n (pc := 109) 1 dX10_look_109 rfl rfl ?_
    refine j_getR (pc := 110) ok_X10 (by decide) rfl w_461 dX10_look_110 (fun a7 => ?_)
    refine j_iload (pc := 113) 0 dX10_look_113 rfl ?_
    refine j_iconst (pc := 115) (v := 1) dX10_look_115 (by decide) ?_
    refine j_iastore (pc := 116) dX10_look_116 (fun z8 => ?_)
    exact J.sub [1, 2, 3, 4] rfl ((j_X10_look_B117 hL71) r0 r1 v2 v3 z8)
theorem j_X10_look_L62 {l : Launch} {Γ : Am}   : ∀ (f : Nat), ∀ (r0 : Nat) (r1 : Nat) (v2 : Int32) (z : Hp), J l Γ mi_X10_look cvV 0 0 62 [(0, .ref (mB Γ + r0)), (1, .ref (mB Γ + r1)), (2, .int v2)] [] z (m_X10_look_L62  f r0 r1 v2 z) := by
  intro f
  induction f with
  | zero => intro r0 r1 v2 z; exact J.none
  | succ f hL62 =>
    intro r0 r1 v2 z
    rw [m_X10_look_L62]
    refine j_iload_n (pc := 62) 2 dX10_look_62 rfl rfl ?_
    refine j_sipush (pc := 63) (v := 144) dX10_look_63 (by decide) ?_
    refine j_icmp_ge (pc := 66) 129 dX10_look_66 (by decide) ?_ ?_
    · exact j_return (pc := 129) dX10_look_129 rfl
    refine j_iconst (pc := 69) (v := 0) dX10_look_69 (by decide) ?_
    refine j_istore_n (pc := 70) (lv2 := [(3, .int 0), (0, .ref (mB Γ + r0)), (1, .ref (mB Γ + r1)), (2, .int v2)]) dX10_look_70 rfl (by decide) rfl ?_
    exact J.sub [1, 2, 3, 0] rfl ((j_X10_look_L71 (j_X10_look_B123 hL62) FU) r0 r1 v2 0 z)
theorem j_X10_look_B60 {l : Launch} {Γ : Am}   : ∀ (r0 : Nat) (r1 : Nat) (z : Hp), J l Γ mi_X10_look cvV 0 0 60 [(0, .ref (mB Γ + r0)), (1, .ref (mB Γ + r1))] [] z (m_X10_look_B60  r0 r1 z) := by
  intro r0 r1 z
  unfold m_X10_look_B60
  refine j_iconst (pc := 60) (v := 0) dX10_look_60 (by decide) ?_
  refine j_istore_n (pc := 61) (lv2 := [(2, .int 0), (0, .ref (mB Γ + r0)), (1, .ref (mB Γ + r1))]) dX10_look_61 rfl (by decide) rfl ?_
  exact J.sub [1, 2, 0] rfl ((j_X10_look_L62 FU) r0 r1 0 z)
theorem j_X10_look_B47 {l : Launch} {Γ : Am} {k2 : Nat → Nat → Int32 → Hp → Option (Unit × Hp)} (hL2 : ∀ (r0 : Nat) (r1 : Nat) (v2 : Int32) (z : Hp), J l Γ mi_X10_look cvV 0 0 2 [(0, .ref (mB Γ + r0)), (1, .ref (mB Γ + r1)), (2, .int v2)] [] z (k2 r0 r1 v2 z)) : ∀ (r0 : Nat) (r1 : Nat) (v2 : Int32) (z : Hp), J l Γ mi_X10_look cvV 0 0 47 [(0, .ref (mB Γ + r0)), (1, .ref (mB Γ + r1)), (2, .int v2)] [] z (m_X10_look_B47 k2 r0 r1 v2 z) := by
  intro r0 r1 v2 z
  unfold m_X10_look_B47
  refine j_aload_n (pc := 47) 0 dX10_look_47 rfl rfl ?_
  refine j_getR (pc := 48) ok_X10 (by decide) rfl w_461 dX10_look_48 (fun a9 => ?_)
  refine j_iload_n (pc := 51) 2 dX10_look_51 rfl rfl ?_
  refine j_iconst (pc := 52) (v := 0) dX10_look_52 (by decide) ?_
  refine j_iastore (pc := 53) dX10_look_53 (fun z10 => ?_)
  refine j_iinc (pc := 54) (n0 := 2) (v0 := v2 + 1) (lv2 := [(2, .int (v2 + 1)), (0, .ref (mB Γ + r0)), (1, .ref (mB Γ + r1))]) dX10_look_54 rfl rfl (by decide) rfl ?_
  refine j_goto (pc := 57) 2 dX10_look_57 (by decide) ?_
  exact J.sub [1, 2, 0] rfl (hL2 r0 r1 (v2 + 1) z10)
theorem j_X10_look_B46 {l : Launch} {Γ : Am} {k2 : Nat → Nat → Int32 → Hp → Option (Unit × Hp)} (hL2 : ∀ (r0 : Nat) (r1 : Nat) (v2 : Int32) (z : Hp), J l Γ mi_X10_look cvV 0 0 2 [(0, .ref (mB Γ + r0)), (1, .ref (mB Γ + r1)), (2, .int v2)] [] z (k2 r0 r1 v2 z)) : ∀ (r0 : Nat) (r1 : Nat) (v2 : Int32) (t0 : Int32) (t1 : Int32) (b2 : Nat) (z : Hp), J l Γ mi_X10_look cvV 0 0 46 [(0, .ref (mB Γ + r0)), (1, .ref (mB Γ + r1)), (2, .int v2)] [.int t0, .int t1, .ref (mB Γ + b2)] z (m_X10_look_B46 k2 r0 r1 v2 t0 t1 b2 z) := by
  intro r0 r1 v2 t0 t1 b2 z
  unfold m_X10_look_B46
  refine j_iastore (pc := 46) dX10_look_46 (fun z11 => ?_)
  exact J.sub [0, 1, 2] rfl ((j_X10_look_B47 hL2) r0 r1 v2 z11)
theorem j_X10_look_L2 {l : Launch} {Γ : Am} {k60 : Nat → Nat → Hp → Option (Unit × Hp)} (hL60 : ∀ (r0 : Nat) (r1 : Nat) (z : Hp), J l Γ mi_X10_look cvV 0 0 60 [(0, .ref (mB Γ + r0)), (1, .ref (mB Γ + r1))] [] z (k60 r0 r1 z)) : ∀ (f : Nat), ∀ (r0 : Nat) (r1 : Nat) (v2 : Int32) (z : Hp), J l Γ mi_X10_look cvV 0 0 2 [(0, .ref (mB Γ + r0)), (1, .ref (mB Γ + r1)), (2, .int v2)] [] z (m_X10_look_L2 k60 f r0 r1 v2 z) := by
  intro f
  induction f with
  | zero => intro r0 r1 v2 z; exact J.none
  | succ f hL2 =>
    intro r0 r1 v2 z
    rw [m_X10_look_L2]
    refine j_iload_n (pc := 2) 2 dX10_look_2 rfl rfl ?_
    refine j_sipush (pc := 3) (v := 144) dX10_look_3 (by decide) ?_
    refine j_icmp_ge (pc := 6) 60 dX10_look_6 (by decide) ?_ ?_
    · exact J.sub [0, 1] rfl (hL60 r0 r1 z)
    refine j_aload_n (pc := 9) 1 dX10_look_9 rfl rfl ?_
    refine j_getR (pc := 10) ok_X8 (by decide) rfl w_317 dX10_look_10 (fun a12 => ?_)
    refine j_iload_n (pc := 13) 2 dX10_look_13 rfl rfl ?_
    refine j_iaload (pc := 14) dX10_look_14 (fun x13 => ?_)
    refine j_if_eq (pc := 15) 28 dX10_look_15 (by decide) ?_ ?_
    · refine j_aload_n (pc := 28) 0 dX10_look_28 rfl rfl ?_
      refine j_getR (pc := 29) ok_X10 (by decide) rfl w_460 dX10_look_29 (fun a14 => ?_)
      refine j_iload_n (pc := 32) 2 dX10_look_32 rfl rfl ?_
      refine j_aload_n (pc := 33) 1 dX10_look_33 rfl rfl ?_
      refine j_iload_n (pc := 34) 2 dX10_look_34 rfl rfl ?_
      refine j_isC (fun h17 => ?_)
      refine j_callV_I (pc := 35) (as := [.int v2]) (mc2 := 0) (ms2 := 0) (ct_X8_isFrozen _ _ _) h17 rfl cw_X10_look_107 dX10_look_35 (Nat.le_of_ble_eq_true rfl) rfl (by decide) (by decide) (fun x16 z15 => ?_)
      refine j_if_eq (pc := 38) 45 dX10_look_38 (by decide) ?_ ?_
      · refine j_iconst (pc := 45) (v := 0) dX10_look_45 (by decide) ?_
        exact J.sub [0, 1, 2] rfl ((j_X10_look_B46 hL2) r0 r1 v2 0 v2 a14 z15)
      refine j_iconst (pc := 41) (v := 1) dX10_look_41 (by decide) ?_
      refine j_goto (pc := 42) 46 dX10_look_42 (by decide) ?_
      exact J.sub [0, 1, 2] rfl ((j_X10_look_B46 hL2) r0 r1 v2 1 v2 a14 z15)
    refine j_aload_n (pc := 18) 0 dX10_look_18 rfl rfl ?_
    refine j_getR (pc := 19) ok_X10 (by decide) rfl w_460 dX10_look_19 (fun a18 => ?_)
    refine j_iload_n (pc := 22) 2 dX10_look_22 rfl rfl ?_
    refine j_iconst (pc := 23) (v := 2) dX10_look_23 (by decide) ?_
    refine j_iastore (pc := 24) dX10_look_24 (fun z19 => ?_)
    refine j_goto (pc := 25) 47 dX10_look_25 (by decide) ?_
    exact J.sub [0, 1, 2] rfl ((j_X10_look_B47 hL2) r0 r1 v2 z19)
theorem ct_X10_look {l : Launch} {Γ : Am} (r0 : Nat) (r1 : Nat) (z : Hp) : Ct l Γ yX10_look mi_X10_look cvV [.ref (mB Γ + r0), .ref (mB Γ + r1)] z (m_X10_look r0 r1 z) := by
  refine Ct.ofJ (by decide) ⟨rfl, rfl⟩ (Nat.le_of_ble_eq_true rfl) ?_
  unfold m_X10_look
  show J l Γ mi_X10_look cvV 0 0 0 [(0, .ref (mB Γ + r0)), (1, .ref (mB Γ + r1))] [] z _
  refine j_iconst (pc := 0) (v := 0) dX10_look_0 (by decide) ?_
  refine j_istore_n (pc := 1) (lv2 := [(2, .int 0), (0, .ref (mB Γ + r0)), (1, .ref (mB Γ + r1))]) dX10_look_1 rfl (by decide) rfl ?_
  exact J.sub [1, 2, 0] rfl ((j_X10_look_L2 j_X10_look_B60 FU) r0 r1 0 z)
theorem dX10_step_0 : decode cX10_step 0 = .ok (.aload_n 0, 1) := by decide +kernel
theorem dX10_step_1 : decode cX10_step 1 = .ok (.getfield 27, 3) := by decide +kernel
theorem dX10_step_4 : decode cX10_step 4 = .ok (.sipush 288, 3) := by decide +kernel
theorem dX10_step_7 : decode cX10_step 7 = .ok (.if_icmp .ge 30, 3) := by decide +kernel
theorem dX10_step_10 : decode cX10_step 10 = .ok (.aload_n 0, 1) := by decide +kernel
theorem dX10_step_11 : decode cX10_step 11 = .ok (.getfield 18, 3) := by decide +kernel
theorem dX10_step_14 : decode cX10_step 14 = .ok (.iload_n 1, 1) := by decide +kernel
theorem dX10_step_15 : decode cX10_step 15 = .ok (.iload_n 2, 1) := by decide +kernel
theorem dX10_step_16 : decode cX10_step 16 = .ok (.iastore, 1) := by decide +kernel
theorem dX10_step_17 : decode cX10_step 17 = .ok (.aload_n 0, 1) := by decide +kernel
theorem dX10_step_18 : decode cX10_step 18 = .ok (.getfield 21, 3) := by decide +kernel
theorem dX10_step_21 : decode cX10_step 21 = .ok (.aload_n 0, 1) := by decide +kernel
theorem dX10_step_22 : decode cX10_step 22 = .ok (.getfield 27, 3) := by decide +kernel
theorem dX10_step_25 : decode cX10_step 25 = .ok (.iload_n 1, 1) := by decide +kernel
theorem dX10_step_26 : decode cX10_step 26 = .ok (.iastore, 1) := by decide +kernel
theorem dX10_step_27 : decode cX10_step 27 = .ok (.aload_n 0, 1) := by decide +kernel
theorem dX10_step_28 : decode cX10_step 28 = .ok (.dup, 1) := by decide +kernel
theorem dX10_step_29 : decode cX10_step 29 = .ok (.getfield 27, 3) := by decide +kernel
theorem dX10_step_32 : decode cX10_step 32 = .ok (.iconst 1, 1) := by decide +kernel
theorem dX10_step_33 : decode cX10_step 33 = .ok (.iadd, 1) := by decide +kernel
theorem dX10_step_34 : decode cX10_step 34 = .ok (.putfield 27, 3) := by decide +kernel
theorem dX10_step_37 : decode cX10_step 37 = .ok (.return_, 1) := by decide +kernel
theorem ct_X10_step {l : Launch} {Γ : Am} (r0 : Nat) (v1 : Int32) (v2 : Int32) (z : Hp) : Ct l Γ yX10_step mi_X10_step cvV [.ref (mB Γ + r0), .int v1, .int v2] z (m_X10_step r0 v1 v2 z) := by
  refine Ct.ofJ (by decide) ⟨rfl, rfl⟩ (Nat.le_of_ble_eq_true rfl) ?_
  unfold m_X10_step
  show J l Γ mi_X10_step cvV 0 0 0 [(0, .ref (mB Γ + r0)), (1, .int v1), (2, .int v2)] [] z _
  refine j_aload_n (pc := 0) 0 dX10_step_0 rfl rfl ?_
  refine j_getI (pc := 1) ok_X10 (by decide) rfl w_465 dX10_step_1 (fun x1 => ?_)
  refine j_sipush (pc := 4) (v := 288) dX10_step_4 (by decide) ?_
  refine j_icmp_ge (pc := 7) 37 dX10_step_7 (by decide) ?_ ?_
  · exact j_return (pc := 37) dX10_step_37 rfl
  refine j_aload_n (pc := 10) 0 dX10_step_10 rfl rfl ?_
  refine j_getR (pc := 11) ok_X10 (by decide) rfl w_462 dX10_step_11 (fun a2 => ?_)
  refine j_iload_n (pc := 14) 1 dX10_step_14 rfl rfl ?_
  refine j_iload_n (pc := 15) 2 dX10_step_15 rfl rfl ?_
  refine j_iastore (pc := 16) dX10_step_16 (fun z3 => ?_)
  refine j_aload_n (pc := 17) 0 dX10_step_17 rfl rfl ?_
  refine j_getR (pc := 18) ok_X10 (by decide) rfl w_463 dX10_step_18 (fun a4 => ?_)
  refine j_aload_n (pc := 21) 0 dX10_step_21 rfl rfl ?_
  refine j_getI (pc := 22) ok_X10 (by decide) rfl w_465 dX10_step_22 (fun x5 => ?_)
  refine j_iload_n (pc := 25) 1 dX10_step_25 rfl rfl ?_
  refine j_iastore (pc := 26) dX10_step_26 (fun z6 => ?_)
  refine j_aload_n (pc := 27) 0 dX10_step_27 rfl rfl ?_
  refine j_dup (pc := 28) dX10_step_28 rfl ?_
  refine j_getI (pc := 29) ok_X10 (by decide) rfl w_465 dX10_step_29 (fun x7 => ?_)
  refine j_iconst (pc := 32) (v := 1) dX10_step_32 (by decide) ?_
  refine j_iadd (pc := 33) dX10_step_33 ?_
  refine j_putI (pc := 34) ok_X10 (by decide) rfl w_465 (Or.inl rfl) rfl rfl dX10_step_34 (fun z8 => ?_)
  exact j_return (pc := 37) dX10_step_37 rfl
theorem dX11_isAtRim_0 : decode cX11_isAtRim 0 = .ok (.iload_n 0, 1) := by decide +kernel
theorem dX11_isAtRim_1 : decode cX11_isAtRim 1 = .ok (.bipush 12, 2) := by decide +kernel
theorem dX11_isAtRim_3 : decode cX11_isAtRim 3 = .ok (.irem, 1) := by decide +kernel
theorem dX11_isAtRim_4 : decode cX11_isAtRim 4 = .ok (.istore_n 1, 1) := by decide +kernel
theorem dX11_isAtRim_5 : decode cX11_isAtRim 5 = .ok (.iload_n 0, 1) := by decide +kernel
theorem dX11_isAtRim_6 : decode cX11_isAtRim 6 = .ok (.bipush 12, 2) := by decide +kernel
theorem dX11_isAtRim_8 : decode cX11_isAtRim 8 = .ok (.idiv, 1) := by decide +kernel
theorem dX11_isAtRim_9 : decode cX11_isAtRim 9 = .ok (.istore_n 2, 1) := by decide +kernel
theorem dX11_isAtRim_10 : decode cX11_isAtRim 10 = .ok (.iload_n 1, 1) := by decide +kernel
theorem dX11_isAtRim_11 : decode cX11_isAtRim 11 = .ok (.ifCond .eq 19, 3) := by decide +kernel
theorem dX11_isAtRim_14 : decode cX11_isAtRim 14 = .ok (.iload_n 1, 1) := by decide +kernel
theorem dX11_isAtRim_15 : decode cX11_isAtRim 15 = .ok (.bipush 11, 2) := by decide +kernel
theorem dX11_isAtRim_17 : decode cX11_isAtRim 17 = .ok (.if_icmp .eq 13, 3) := by decide +kernel
theorem dX11_isAtRim_20 : decode cX11_isAtRim 20 = .ok (.iload_n 2, 1) := by decide +kernel
theorem dX11_isAtRim_21 : decode cX11_isAtRim 21 = .ok (.ifCond .eq 9, 3) := by decide +kernel
theorem dX11_isAtRim_24 : decode cX11_isAtRim 24 = .ok (.iload_n 2, 1) := by decide +kernel
theorem dX11_isAtRim_25 : decode cX11_isAtRim 25 = .ok (.bipush 11, 2) := by decide +kernel
theorem dX11_isAtRim_27 : decode cX11_isAtRim 27 = .ok (.if_icmp .ne 7, 3) := by decide +kernel
theorem dX11_isAtRim_30 : decode cX11_isAtRim 30 = .ok (.iconst 1, 1) := by decide +kernel
theorem dX11_isAtRim_31 : decode cX11_isAtRim 31 = .ok (.goto 4, 3) := by decide +kernel
theorem dX11_isAtRim_34 : decode cX11_isAtRim 34 = .ok (.iconst 0, 1) := by decide +kernel
theorem dX11_isAtRim_35 : decode cX11_isAtRim 35 = .ok (.ireturn, 1) := by decide +kernel
theorem j_X11_isAtRim_B30 {l : Launch} {Γ : Am}   : ∀  (z : Hp), J l Γ mi_X11_isAtRim cvI 0 0 30 [] [] z (m_X11_isAtRim_B30   z) := by
  intro  z
  unfold m_X11_isAtRim_B30
  refine j_iconst (pc := 30) (v := 1) dX11_isAtRim_30 (by decide) ?_
  refine j_goto (pc := 31) 35 dX11_isAtRim_31 (by decide) ?_
  exact j_ireturn (pc := 35) dX11_isAtRim_35 rfl rfl
theorem ct_X11_isAtRim {l : Launch} {Γ : Am} (v0 : Int32) (z : Hp) : Ct l Γ yX11_isAtRim mi_X11_isAtRim cvI [.int v0] z (m_X11_isAtRim v0 z) := by
  refine Ct.ofJ (by decide) ⟨rfl, rfl⟩ (Nat.le_of_ble_eq_true rfl) ?_
  unfold m_X11_isAtRim
  show J l Γ mi_X11_isAtRim cvI 0 0 0 [(0, .int v0)] [] z _
  refine j_iload_n (pc := 0) 0 dX11_isAtRim_0 rfl rfl ?_
  refine j_bipush (pc := 1) (v := 12) dX11_isAtRim_1 (by decide) ?_
  refine j_irem (pc := 3) dX11_isAtRim_3 (by decide) ?_
  refine j_istore_n (pc := 4) (lv2 := [(1, .int (v0 - v0 / 12 * 12)), (0, .int v0)]) dX11_isAtRim_4 rfl (by decide) rfl ?_
  refine j_iload_n (pc := 5) 1 dX11_isAtRim_5 rfl rfl ?_
  refine j_bipush (pc := 6) (v := 12) dX11_isAtRim_6 (by decide) ?_
  refine j_idiv (pc := 8) dX11_isAtRim_8 (by decide) ?_
  refine j_istore_n (pc := 9) (lv2 := [(2, .int (v0 / 12)), (1, .int (v0 - v0 / 12 * 12)), (0, .int v0)]) dX11_isAtRim_9 rfl (by decide) rfl ?_
  refine j_iload_n (pc := 10) 1 dX11_isAtRim_10 rfl rfl ?_
  refine j_if_eq (pc := 11) 30 dX11_isAtRim_11 (by decide) ?_ ?_
  · exact J.sub [] rfl (j_X11_isAtRim_B30 z)
  refine j_iload_n (pc := 14) 1 dX11_isAtRim_14 rfl rfl ?_
  refine j_bipush (pc := 15) (v := 11) dX11_isAtRim_15 (by decide) ?_
  refine j_icmp_eq (pc := 17) 30 dX11_isAtRim_17 (by decide) ?_ ?_
  · exact J.sub [] rfl (j_X11_isAtRim_B30 z)
  refine j_iload_n (pc := 20) 0 dX11_isAtRim_20 rfl rfl ?_
  refine j_if_eq (pc := 21) 30 dX11_isAtRim_21 (by decide) ?_ ?_
  · exact J.sub [] rfl (j_X11_isAtRim_B30 z)
  refine j_iload_n (pc := 24) 0 dX11_isAtRim_24 rfl rfl ?_
  refine j_bipush (pc := 25) (v := 11) dX11_isAtRim_25 (by decide) ?_
  refine j_icmp_ne (pc := 27) 34 dX11_isAtRim_27 (by decide) ?_ ?_
  · refine j_iconst (pc := 34) (v := 0) dX11_isAtRim_34 (by decide) ?_
    exact j_ireturn (pc := 35) dX11_isAtRim_35 rfl rfl
  exact J.sub [] rfl (j_X11_isAtRim_B30 z)
theorem dX10_shortestWay_0 : decode cX10_shortestWay 0 = .ok (.aload_n 0, 1) := by decide +kernel
theorem dX10_shortestWay_1 : decode cX10_shortestWay 1 = .ok (.aload_n 1, 1) := by decide +kernel
theorem dX10_shortestWay_2 : decode cX10_shortestWay 2 = .ok (.invokevirtual 47, 3) := by decide +kernel
theorem dX10_shortestWay_5 : decode cX10_shortestWay 5 = .ok (.aload_n 0, 1) := by decide +kernel
theorem dX10_shortestWay_6 : decode cX10_shortestWay 6 = .ok (.getfield 18, 3) := by decide +kernel
theorem dX10_shortestWay_9 : decode cX10_shortestWay 9 = .ok (.iconst 0, 1) := by decide +kernel
theorem dX10_shortestWay_10 : decode cX10_shortestWay 10 = .ok (.invokestatic 51, 3) := by decide +kernel
theorem dX10_shortestWay_13 : decode cX10_shortestWay 13 = .ok (.aload_n 0, 1) := by decide +kernel
theorem dX10_shortestWay_14 : decode cX10_shortestWay 14 = .ok (.iconst 0, 1) := by decide +kernel
theorem dX10_shortestWay_15 : decode cX10_shortestWay 15 = .ok (.putfield 27, 3) := by decide +kernel
theorem dX10_shortestWay_18 : decode cX10_shortestWay 18 = .ok (.iconst 0, 1) := by decide +kernel
theorem dX10_shortestWay_19 : decode cX10_shortestWay 19 = .ok (.istore_n 2, 1) := by decide +kernel
theorem dX10_shortestWay_20 : decode cX10_shortestWay 20 = .ok (.iload_n 2, 1) := by decide +kernel
theorem dX10_shortestWay_21 : decode cX10_shortestWay 21 = .ok (.sipush 144, 3) := by decide +kernel
theorem dX10_shortestWay_24 : decode cX10_shortestWay 24 = .ok (.if_icmp .ge 33, 3) := by decide +kernel
theorem dX10_shortestWay_27 : decode cX10_shortestWay 27 = .ok (.aload_n 0, 1) := by decide +kernel
theorem dX10_shortestWay_28 : decode cX10_shortestWay 28 = .ok (.getfield 15, 3) := by decide +kernel
theorem dX10_shortestWay_31 : decode cX10_shortestWay 31 = .ok (.iload_n 2, 1) := by decide +kernel
theorem dX10_shortestWay_32 : decode cX10_shortestWay 32 = .ok (.iaload, 1) := by decide +kernel
theorem dX10_shortestWay_33 : decode cX10_shortestWay 33 = .ok (.ifCond .eq 18, 3) := by decide +kernel
theorem dX10_shortestWay_36 : decode cX10_shortestWay 36 = .ok (.aload_n 0, 1) := by decide +kernel
theorem dX10_shortestWay_37 : decode cX10_shortestWay 37 = .ok (.getfield 9, 3) := by decide +kernel
theorem dX10_shortestWay_40 : decode cX10_shortestWay 40 = .ok (.iload_n 2, 1) := by decide +kernel
theorem dX10_shortestWay_41 : decode cX10_shortestWay 41 = .ok (.iaload, 1) := by decide +kernel
theorem dX10_shortestWay_42 : decode cX10_shortestWay 42 = .ok (.ifCond .ne 9, 3) := by decide +kernel
theorem dX10_shortestWay_45 : decode cX10_shortestWay 45 = .ok (.aload_n 0, 1) := by decide +kernel
theorem dX10_shortestWay_46 : decode cX10_shortestWay 46 = .ok (.iload_n 2, 1) := by decide +kernel
theorem dX10_shortestWay_47 : decode cX10_shortestWay 47 = .ok (.iconst 1, 1) := by decide +kernel
theorem dX10_shortestWay_48 : decode cX10_shortestWay 48 = .ok (.invokevirtual 57, 3) := by decide +kernel
theorem dX10_shortestWay_51 : decode cX10_shortestWay 51 = .ok (.iinc 2 1, 3) := by decide +kernel
theorem dX10_shortestWay_54 : decode cX10_shortestWay 54 = .ok (.goto (-34), 3) := by decide +kernel
theorem dX10_shortestWay_57 : decode cX10_shortestWay 57 = .ok (.iconst 0, 1) := by decide +kernel
theorem dX10_shortestWay_58 : decode cX10_shortestWay 58 = .ok (.istore_n 2, 1) := by decide +kernel
theorem dX10_shortestWay_59 : decode cX10_shortestWay 59 = .ok (.iload_n 2, 1) := by decide +kernel
theorem dX10_shortestWay_60 : decode cX10_shortestWay 60 = .ok (.aload_n 0, 1) := by decide +kernel
theorem dX10_shortestWay_61 : decode cX10_shortestWay 61 = .ok (.getfield 27, 3) := by decide +kernel
theorem dX10_shortestWay_64 : decode cX10_shortestWay 64 = .ok (.if_icmp .ge 100, 3) := by decide +kernel
theorem dX10_shortestWay_67 : decode cX10_shortestWay 67 = .ok (.iload_n 2, 1) := by decide +kernel
theorem dX10_shortestWay_68 : decode cX10_shortestWay 68 = .ok (.sipush 288, 3) := by decide +kernel
theorem dX10_shortestWay_71 : decode cX10_shortestWay 71 = .ok (.if_icmp .ge 93, 3) := by decide +kernel
theorem dX10_shortestWay_74 : decode cX10_shortestWay 74 = .ok (.aload_n 0, 1) := by decide +kernel
theorem dX10_shortestWay_75 : decode cX10_shortestWay 75 = .ok (.getfield 21, 3) := by decide +kernel
theorem dX10_shortestWay_78 : decode cX10_shortestWay 78 = .ok (.iload_n 2, 1) := by decide +kernel
theorem dX10_shortestWay_79 : decode cX10_shortestWay 79 = .ok (.iaload, 1) := by decide +kernel
theorem dX10_shortestWay_80 : decode cX10_shortestWay 80 = .ok (.istore_n 3, 1) := by decide +kernel
theorem dX10_shortestWay_81 : decode cX10_shortestWay 81 = .ok (.iload_n 3, 1) := by decide +kernel
theorem dX10_shortestWay_82 : decode cX10_shortestWay 82 = .ok (.invokestatic 61, 3) := by decide +kernel
theorem dX10_shortestWay_85 : decode cX10_shortestWay 85 = .ok (.ifCond .eq 10, 3) := by decide +kernel
theorem dX10_shortestWay_88 : decode cX10_shortestWay 88 = .ok (.aload_n 0, 1) := by decide +kernel
theorem dX10_shortestWay_89 : decode cX10_shortestWay 89 = .ok (.getfield 18, 3) := by decide +kernel
theorem dX10_shortestWay_92 : decode cX10_shortestWay 92 = .ok (.iload_n 3, 1) := by decide +kernel
theorem dX10_shortestWay_93 : decode cX10_shortestWay 93 = .ok (.iaload, 1) := by decide +kernel
theorem dX10_shortestWay_94 : decode cX10_shortestWay 94 = .ok (.ireturn, 1) := by decide +kernel
theorem dX10_shortestWay_95 : decode cX10_shortestWay 95 = .ok (.iconst 0, 1) := by decide +kernel
theorem dX10_shortestWay_96 : decode cX10_shortestWay 96 = .ok (.istore 4, 2) := by decide +kernel
theorem dX10_shortestWay_98 : decode cX10_shortestWay 98 = .ok (.iload 4, 2) := by decide +kernel
theorem dX10_shortestWay_100 : decode cX10_shortestWay 100 = .ok (.iconst 4, 1) := by decide +kernel
theorem dX10_shortestWay_101 : decode cX10_shortestWay 101 = .ok (.if_icmp .ge 57, 3) := by decide +kernel
theorem dX10_shortestWay_104 : decode cX10_shortestWay 104 = .ok (.iload_n 3, 1) := by decide +kernel
theorem dX10_shortestWay_105 : decode cX10_shortestWay 105 = .ok (.iload 4, 2) := by decide +kernel
theorem dX10_shortestWay_107 : decode cX10_shortestWay 107 = .ok (.invokestatic 65, 3) := by decide +kernel
theorem dX10_shortestWay_110 : decode cX10_shortestWay 110 = .ok (.istore 5, 2) := by decide +kernel
theorem dX10_shortestWay_112 : decode cX10_shortestWay 112 = .ok (.iload 5, 2) := by decide +kernel
theorem dX10_shortestWay_114 : decode cX10_shortestWay 114 = .ok (.iconst (-1), 1) := by decide +kernel
theorem dX10_shortestWay_115 : decode cX10_shortestWay 115 = .ok (.if_icmp .eq 37, 3) := by decide +kernel
theorem dX10_shortestWay_118 : decode cX10_shortestWay 118 = .ok (.aload_n 0, 1) := by decide +kernel
theorem dX10_shortestWay_119 : decode cX10_shortestWay 119 = .ok (.getfield 9, 3) := by decide +kernel
theorem dX10_shortestWay_122 : decode cX10_shortestWay 122 = .ok (.iload 5, 2) := by decide +kernel
theorem dX10_shortestWay_124 : decode cX10_shortestWay 124 = .ok (.iaload, 1) := by decide +kernel
theorem dX10_shortestWay_125 : decode cX10_shortestWay 125 = .ok (.ifCond .ne 27, 3) := by decide +kernel
theorem dX10_shortestWay_128 : decode cX10_shortestWay 128 = .ok (.aload_n 0, 1) := by decide +kernel
theorem dX10_shortestWay_129 : decode cX10_shortestWay 129 = .ok (.getfield 18, 3) := by decide +kernel
theorem dX10_shortestWay_132 : decode cX10_shortestWay 132 = .ok (.iload 5, 2) := by decide +kernel
theorem dX10_shortestWay_134 : decode cX10_shortestWay 134 = .ok (.iaload, 1) := by decide +kernel
theorem dX10_shortestWay_135 : decode cX10_shortestWay 135 = .ok (.ifCond .ne 17, 3) := by decide +kernel
theorem dX10_shortestWay_138 : decode cX10_shortestWay 138 = .ok (.aload_n 0, 1) := by decide +kernel
theorem dX10_shortestWay_139 : decode cX10_shortestWay 139 = .ok (.iload 5, 2) := by decide +kernel
theorem dX10_shortestWay_141 : decode cX10_shortestWay 141 = .ok (.aload_n 0, 1) := by decide +kernel
theorem dX10_shortestWay_142 : decode cX10_shortestWay 142 = .ok (.getfield 18, 3) := by decide +kernel
theorem dX10_shortestWay_145 : decode cX10_shortestWay 145 = .ok (.iload_n 3, 1) := by decide +kernel
theorem dX10_shortestWay_146 : decode cX10_shortestWay 146 = .ok (.iaload, 1) := by decide +kernel
theorem dX10_shortestWay_147 : decode cX10_shortestWay 147 = .ok (.iconst 1, 1) := by decide +kernel
theorem dX10_shortestWay_148 : decode cX10_shortestWay 148 = .ok (.iadd, 1) := by decide +kernel
theorem dX10_shortestWay_149 : decode cX10_shortestWay 149 = .ok (.invokevirtual 57, 3) := by decide +kernel
theorem dX10_shortestWay_152 : decode cX10_shortestWay 152 = .ok (.iinc 4 1, 3) := by decide +kernel
theorem dX10_shortestWay_155 : decode cX10_shortestWay 155 = .ok (.goto (-57), 3) := by decide +kernel
theorem dX10_shortestWay_158 : decode cX10_shortestWay 158 = .ok (.iinc 2 1, 3) := by decide +kernel
theorem dX10_shortestWay_161 : decode cX10_shortestWay 161 = .ok (.goto (-102), 3) := by decide +kernel
theorem dX10_shortestWay_164 : decode cX10_shortestWay 164 = .ok (.iconst (-1), 1) := by decide +kernel
theorem dX10_shortestWay_165 : decode cX10_shortestWay 165 = .ok (.ireturn, 1) := by decide +kernel
theorem cw_X10_shortestWay_65 : CwSN mi_X10_shortestWay mi_X11_beside yX11_beside 65 2 "FrostRing" := ⟨⟨by decide +kernel, w_860, w_95, w_861⟩, ⟨by decide, by decide⟩, by decide +kernel, by decide, by decide⟩
theorem cw_X10_shortestWay_57 : CwV mi_X10_shortestWay mi_X10_step yX10_step RX10 57 2 := ⟨⟨w_863, w_865, w_26, w_105, w_866⟩, ⟨by decide, by decide⟩, by decide +kernel, by decide, by decide⟩
theorem cw_X10_shortestWay_61 : CwSN mi_X10_shortestWay mi_X11_isAtRim yX11_isAtRim 61 1 "FrostRing" := ⟨⟨by decide +kernel, w_868, w_95, w_869⟩, ⟨by decide, by decide⟩, by decide +kernel, by decide, by decide⟩
theorem cw_X10_shortestWay_47 : CwV mi_X10_shortestWay mi_X10_look yX10_look RX10 47 1 := ⟨⟨w_854, w_856, w_25, w_105, w_857⟩, ⟨by decide, by decide⟩, by decide +kernel, by decide, by decide⟩
theorem cw_X10_shortestWay_51 : CwS mi_X10_shortestWay mi_J7_fill_53178 yJ7_fill_53178 51 2 := ⟨⟨w_862, w_500, w_107, w_501⟩, ⟨by decide, by decide⟩, by decide +kernel, by decide, by decide⟩
theorem j_X10_shortestWay_B88 {l : Launch} {Γ : Am}   : ∀ (r0 : Nat) (v3 : Int32) (z : Hp), J l Γ mi_X10_shortestWay cvI 0 0 88 [(0, .ref (mB Γ + r0)), (3, .int v3)] [] z (m_X10_shortestWay_B88  r0 v3 z) := by
  intro r0 v3 z
  unfold m_X10_shortestWay_B88
  refine j_aload_n (pc := 88) 0 dX10_shortestWay_88 rfl rfl ?_
  refine j_getR (pc := 89) ok_X10 (by decide) rfl w_462 dX10_shortestWay_89 (fun a1 => ?_)
  refine j_iload_n (pc := 92) 1 dX10_shortestWay_92 rfl rfl ?_
  refine j_iaload (pc := 93) dX10_shortestWay_93 (fun x2 => ?_)
  exact j_ireturn (pc := 94) dX10_shortestWay_94 rfl rfl
theorem j_X10_shortestWay_B158 {l : Launch} {Γ : Am} {k59 : Nat → Int32 → Hp → Option (Int32 × Hp)} (hL59 : ∀ (r0 : Nat) (v2 : Int32) (z : Hp), J l Γ mi_X10_shortestWay cvI 0 0 59 [(0, .ref (mB Γ + r0)), (2, .int v2)] [] z (k59 r0 v2 z)) : ∀ (r0 : Nat) (v2 : Int32) (z : Hp), J l Γ mi_X10_shortestWay cvI 0 0 158 [(0, .ref (mB Γ + r0)), (2, .int v2)] [] z (m_X10_shortestWay_B158 k59 r0 v2 z) := by
  intro r0 v2 z
  unfold m_X10_shortestWay_B158
  refine j_iinc (pc := 158) (n0 := 1) (v0 := v2 + 1) (lv2 := [(2, .int (v2 + 1)), (0, .ref (mB Γ + r0))]) dX10_shortestWay_158 rfl rfl (by decide) rfl ?_
  refine j_goto (pc := 161) 59 dX10_shortestWay_161 (by decide) ?_
  exact J.sub [1, 0] rfl (hL59 r0 (v2 + 1) z)
theorem j_X10_shortestWay_B152 {l : Launch} {Γ : Am} {k98 : Nat → Int32 → Int32 → Int32 → Hp → Option (Int32 × Hp)} (hL98 : ∀ (r0 : Nat) (v2 : Int32) (v3 : Int32) (v4 : Int32) (z : Hp), J l Γ mi_X10_shortestWay cvI 0 0 98 [(0, .ref (mB Γ + r0)), (2, .int v2), (3, .int v3), (4, .int v4)] [] z (k98 r0 v2 v3 v4 z)) : ∀ (r0 : Nat) (v2 : Int32) (v3 : Int32) (v4 : Int32) (z : Hp), J l Γ mi_X10_shortestWay cvI 0 0 152 [(0, .ref (mB Γ + r0)), (2, .int v2), (3, .int v3), (4, .int v4)] [] z (m_X10_shortestWay_B152 k98 r0 v2 v3 v4 z) := by
  intro r0 v2 v3 v4 z
  unfold m_X10_shortestWay_B152
  refine j_iinc (pc := 152) (n0 := 3) (v0 := v4 + 1) (lv2 := [(4, .int (v4 + 1)), (0, .ref (mB Γ + r0)), (2, .int v2), (3, .int v3)]) dX10_shortestWay_152 rfl rfl (by decide) rfl ?_
  refine j_goto (pc := 155) 98 dX10_shortestWay_155 (by decide) ?_
  exact J.sub [1, 2, 3, 0] rfl (hL98 r0 v2 v3 (v4 + 1) z)
theorem j_X10_shortestWay_L98 {l : Launch} {Γ : Am} {k158 : Nat → Int32 → Hp → Option (Int32 × Hp)} (hL158 : ∀ (r0 : Nat) (v2 : Int32) (z : Hp), J l Γ mi_X10_shortestWay cvI 0 0 158 [(0, .ref (mB Γ + r0)), (2, .int v2)] [] z (k158 r0 v2 z)) : ∀ (f : Nat), ∀ (r0 : Nat) (v2 : Int32) (v3 : Int32) (v4 : Int32) (z : Hp), J l Γ mi_X10_shortestWay cvI 0 0 98 [(0, .ref (mB Γ + r0)), (2, .int v2), (3, .int v3), (4, .int v4)] [] z (m_X10_shortestWay_L98 k158 f r0 v2 v3 v4 z) := by
  intro f
  induction f with
  | zero => intro r0 v2 v3 v4 z; exact J.none
  | succ f hL98 =>
    intro r0 v2 v3 v4 z
    rw [m_X10_shortestWay_L98]
    refine j_iload (pc := 98) 3 dX10_shortestWay_98 rfl ?_
    refine j_iconst (pc := 100) (v := 4) dX10_shortestWay_100 (by decide) ?_
    refine j_icmp_ge (pc := 101) 158 dX10_shortestWay_101 (by decide) ?_ ?_
    · exact J.sub [0, 1] rfl (hL158 r0 v2 z)
    refine j_iload_n (pc := 104) 2 dX10_shortestWay_104 rfl rfl ?_
    refine j_iload (pc := 105) 3 dX10_shortestWay_105 rfl ?_
    refine j_callSN_I (pc := 107) (as := [.int v3, .int v4]) (mc2 := 0) (ms2 := 0) (ct_X11_beside _ _ _) cw_X10_shortestWay_65 dX10_shortestWay_107 (Nat.le_of_ble_eq_true rfl) rfl (by decide) (by decide) (fun x4 z3 => ?_)
    refine j_istore (pc := 110) (lv2 := [(5, .int x4), (0, .ref (mB Γ + r0)), (2, .int v2), (3, .int v3), (4, .int v4)]) dX10_shortestWay_110 (by decide) rfl ?_
    refine j_iload (pc := 112) 0 dX10_shortestWay_112 rfl ?_
    refine j_iconst (pc := 114) (v := (-1)) dX10_shortestWay_114 (by decide) ?_
    refine j_icmp_eq (pc := 115) 152 dX10_shortestWay_115 (by decide) ?_ ?_
    · exact J.sub [1, 2, 3, 4] rfl ((j_X10_shortestWay_B152 hL98) r0 v2 v3 v4 z3)
    refine j_aload_n (pc := 118) 1 dX10_shortestWay_118 rfl rfl ?_
    refine j_getR (pc := 119) ok_X10 (by decide) rfl w_460 dX10_shortestWay_119 (fun a5 => ?_)
    refine j_iload (pc := 122) 0 dX10_shortestWay_122 rfl ?_
    refine j_iaload (pc := 124) dX10_shortestWay_124 (fun x6 => ?_)
    refine j_if_ne (pc := 125) 152 dX10_shortestWay_125 (by decide) ?_ ?_
    · exact J.sub [1, 2, 3, 4] rfl ((j_X10_shortestWay_B152 hL98) r0 v2 v3 v4 z3)
    refine j_aload_n (pc := 128) 1 dX10_shortestWay_128 rfl rfl ?_
    refine j_getR (pc := 129) ok_X10 (by decide) rfl w_462 dX10_shortestWay_129 (fun a7 => ?_)
    refine j_iload (pc := 132) 0 dX10_shortestWay_132 rfl ?_
    refine j_iaload (pc := 134) dX10_shortestWay_134 (fun x8 => ?_)
    refine j_if_ne (pc := 135) 152 dX10_shortestWay_135 (by decide) ?_ ?_
    · exact J.sub [1, 2, 3, 4] rfl ((j_X10_shortestWay_B152 hL98) r0 v2 v3 v4 z3)
    refine j_aload_n (pc := 138) 1 dX10_shortestWay_138 rfl rfl ?_
    refine j_iload (pc := 139) 0 dX10_shortestWay_139 rfl ?_
    refine j_aload_n (pc := 141) 1 dX10_shortestWay_141 rfl rfl ?_
    refine j_getR (pc := 142) ok_X10 (by decide) rfl w_462 dX10_shortestWay_142 (fun a9 => ?_)
    refine j_iload_n (pc := 145) 3 dX10_shortestWay_145 rfl rfl ?_
    refine j_iaload (pc := 146) dX10_shortestWay_146 (fun x10 => ?_)
    refine j_iconst (pc := 147) (v := 1) dX10_shortestWay_147 (by decide) ?_
    refine j_iadd (pc := 148) dX10_shortestWay_148 ?_
    refine j_isC (fun h12 => ?_)
    refine j_callV_V (pc := 149) (as := [.int x4, .int (x10 + 1)]) (mc2 := 0) (ms2 := 0) (ct_X10_step _ _ _ _) h12 rfl cw_X10_shortestWay_57 dX10_shortestWay_149 (Nat.le_of_ble_eq_true rfl) rfl (by decide) (by decide) (fun _ z11 => ?_)
    exact J.sub [1, 2, 3, 4] rfl ((j_X10_shortestWay_B152 hL98) r0 v2 v3 v4 z11)
theorem j_X10_shortestWay_L59 {l : Launch} {Γ : Am} {k88 : Nat → Int32 → Hp → Option (Int32 × Hp)} (hL88 : ∀ (r0 : Nat) (v3 : Int32) (z : Hp), J l Γ mi_X10_shortestWay cvI 0 0 88 [(0, .ref (mB Γ + r0)), (3, .int v3)] [] z (k88 r0 v3 z)) : ∀ (f : Nat), ∀ (r0 : Nat) (v2 : Int32) (z : Hp), J l Γ mi_X10_shortestWay cvI 0 0 59 [(0, .ref (mB Γ + r0)), (2, .int v2)] [] z (m_X10_shortestWay_L59 k88 f r0 v2 z) := by
  intro f
  induction f with
  | zero => intro r0 v2 z; exact J.none
  | succ f hL59 =>
    intro r0 v2 z
    rw [m_X10_shortestWay_L59]
    refine j_iload_n (pc := 59) 1 dX10_shortestWay_59 rfl rfl ?_
    refine j_aload_n (pc := 60) 0 dX10_shortestWay_60 rfl rfl ?_
    refine j_getI (pc := 61) ok_X10 (by decide) rfl w_465 dX10_shortestWay_61 (fun x13 => ?_)
    refine j_icmp_ge (pc := 64) 164 dX10_shortestWay_64 (by decide) ?_ ?_
    · refine j_iconst (pc := 164) (v := (-1)) dX10_shortestWay_164 (by decide) ?_
      exact j_ireturn (pc := 165) dX10_shortestWay_165 rfl rfl
    refine j_iload_n (pc := 67) 1 dX10_shortestWay_67 rfl rfl ?_
    refine j_sipush (pc := 68) (v := 288) dX10_shortestWay_68 (by decide) ?_
    refine j_icmp_ge (pc := 71) 164 dX10_shortestWay_71 (by decide) ?_ ?_
    · refine j_iconst (pc := 164) (v := (-1)) dX10_shortestWay_164 (by decide) ?_
      exact j_ireturn (pc := 165) dX10_shortestWay_165 rfl rfl
    refine j_aload_n (pc := 74) 0 dX10_shortestWay_74 rfl rfl ?_
    refine j_getR (pc := 75) ok_X10 (by decide) rfl w_463 dX10_shortestWay_75 (fun a14 => ?_)
    refine j_iload_n (pc := 78) 1 dX10_shortestWay_78 rfl rfl ?_
    refine j_iaload (pc := 79) dX10_shortestWay_79 (fun x15 => ?_)
    refine j_istore_n (pc := 80) (lv2 := [(3, .int x15), (0, .ref (mB Γ + r0)), (2, .int v2)]) dX10_shortestWay_80 rfl (by decide) rfl ?_
    refine j_iload_n (pc := 81) 0 dX10_shortestWay_81 rfl rfl ?_
    refine j_callSN_I (pc := 82) (as := [.int x15]) (mc2 := 0) (ms2 := 0) (ct_X11_isAtRim _ _) cw_X10_shortestWay_61 dX10_shortestWay_82 (Nat.le_of_ble_eq_true rfl) rfl (by decide) (by decide) (fun x17 z16 => ?_)
    refine j_if_eq (pc := 85) 95 dX10_shortestWay_85 (by decide) ?_ ?_
    · refine j_iconst (pc := 95) (v := 0) dX10_shortestWay_95 (by decide) ?_
      refine j_istore (pc := 96) (lv2 := [(4, .int 0), (3, .int x15), (0, .ref (mB Γ + r0)), (2, .int v2)]) dX10_shortestWay_96 (by decide) rfl ?_
      exact J.sub [2, 3, 1, 0] rfl ((j_X10_shortestWay_L98 (j_X10_shortestWay_B158 hL59) FU) r0 v2 x15 0 z16)
    exact J.sub [1, 0] rfl (hL88 r0 x15 z16)
theorem j_X10_shortestWay_B57 {l : Launch} {Γ : Am}   : ∀ (r0 : Nat) (z : Hp), J l Γ mi_X10_shortestWay cvI 0 0 57 [(0, .ref (mB Γ + r0))] [] z (m_X10_shortestWay_B57  r0 z) := by
  intro r0 z
  unfold m_X10_shortestWay_B57
  refine j_iconst (pc := 57) (v := 0) dX10_shortestWay_57 (by decide) ?_
  refine j_istore_n (pc := 58) (lv2 := [(2, .int 0), (0, .ref (mB Γ + r0))]) dX10_shortestWay_58 rfl (by decide) rfl ?_
  exact J.sub [1, 0] rfl ((j_X10_shortestWay_L59 j_X10_shortestWay_B88 FU) r0 0 z)
theorem j_X10_shortestWay_B51 {l : Launch} {Γ : Am} {k20 : Nat → Int32 → Hp → Option (Int32 × Hp)} (hL20 : ∀ (r0 : Nat) (v2 : Int32) (z : Hp), J l Γ mi_X10_shortestWay cvI 0 0 20 [(0, .ref (mB Γ + r0)), (2, .int v2)] [] z (k20 r0 v2 z)) : ∀ (r0 : Nat) (v2 : Int32) (z : Hp), J l Γ mi_X10_shortestWay cvI 0 0 51 [(0, .ref (mB Γ + r0)), (2, .int v2)] [] z (m_X10_shortestWay_B51 k20 r0 v2 z) := by
  intro r0 v2 z
  unfold m_X10_shortestWay_B51
  refine j_iinc (pc := 51) (n0 := 1) (v0 := v2 + 1) (lv2 := [(2, .int (v2 + 1)), (0, .ref (mB Γ + r0))]) dX10_shortestWay_51 rfl rfl (by decide) rfl ?_
  refine j_goto (pc := 54) 20 dX10_shortestWay_54 (by decide) ?_
  exact J.sub [1, 0] rfl (hL20 r0 (v2 + 1) z)
theorem j_X10_shortestWay_L20 {l : Launch} {Γ : Am} {k57 : Nat → Hp → Option (Int32 × Hp)} (hL57 : ∀ (r0 : Nat) (z : Hp), J l Γ mi_X10_shortestWay cvI 0 0 57 [(0, .ref (mB Γ + r0))] [] z (k57 r0 z)) : ∀ (f : Nat), ∀ (r0 : Nat) (v2 : Int32) (z : Hp), J l Γ mi_X10_shortestWay cvI 0 0 20 [(0, .ref (mB Γ + r0)), (2, .int v2)] [] z (m_X10_shortestWay_L20 k57 f r0 v2 z) := by
  intro f
  induction f with
  | zero => intro r0 v2 z; exact J.none
  | succ f hL20 =>
    intro r0 v2 z
    rw [m_X10_shortestWay_L20]
    refine j_iload_n (pc := 20) 1 dX10_shortestWay_20 rfl rfl ?_
    refine j_sipush (pc := 21) (v := 144) dX10_shortestWay_21 (by decide) ?_
    refine j_icmp_ge (pc := 24) 57 dX10_shortestWay_24 (by decide) ?_ ?_
    · exact J.sub [0] rfl (hL57 r0 z)
    refine j_aload_n (pc := 27) 0 dX10_shortestWay_27 rfl rfl ?_
    refine j_getR (pc := 28) ok_X10 (by decide) rfl w_461 dX10_shortestWay_28 (fun a18 => ?_)
    refine j_iload_n (pc := 31) 1 dX10_shortestWay_31 rfl rfl ?_
    refine j_iaload (pc := 32) dX10_shortestWay_32 (fun x19 => ?_)
    refine j_if_eq (pc := 33) 51 dX10_shortestWay_33 (by decide) ?_ ?_
    · exact J.sub [0, 1] rfl ((j_X10_shortestWay_B51 hL20) r0 v2 z)
    refine j_aload_n (pc := 36) 0 dX10_shortestWay_36 rfl rfl ?_
    refine j_getR (pc := 37) ok_X10 (by decide) rfl w_460 dX10_shortestWay_37 (fun a20 => ?_)
    refine j_iload_n (pc := 40) 1 dX10_shortestWay_40 rfl rfl ?_
    refine j_iaload (pc := 41) dX10_shortestWay_41 (fun x21 => ?_)
    refine j_if_ne (pc := 42) 51 dX10_shortestWay_42 (by decide) ?_ ?_
    · exact J.sub [0, 1] rfl ((j_X10_shortestWay_B51 hL20) r0 v2 z)
    refine j_aload_n (pc := 45) 0 dX10_shortestWay_45 rfl rfl ?_
    refine j_iload_n (pc := 46) 1 dX10_shortestWay_46 rfl rfl ?_
    refine j_iconst (pc := 47) (v := 1) dX10_shortestWay_47 (by decide) ?_
    refine j_isC (fun h23 => ?_)
    refine j_callV_V (pc := 48) (as := [.int v2, .int 1]) (mc2 := 0) (ms2 := 0) (ct_X10_step _ _ _ _) h23 rfl cw_X10_shortestWay_57 dX10_shortestWay_48 (Nat.le_of_ble_eq_true rfl) rfl (by decide) (by decide) (fun _ z22 => ?_)
    exact J.sub [0, 1] rfl ((j_X10_shortestWay_B51 hL20) r0 v2 z22)
theorem ct_X10_shortestWay {l : Launch} {Γ : Am} (r0 : Nat) (r1 : Nat) (z : Hp) : Ct l Γ yX10_shortestWay mi_X10_shortestWay cvI [.ref (mB Γ + r0), .ref (mB Γ + r1)] z (m_X10_shortestWay r0 r1 z) := by
  refine Ct.ofJ (by decide) ⟨rfl, rfl⟩ (Nat.le_of_ble_eq_true rfl) ?_
  unfold m_X10_shortestWay
  show J l Γ mi_X10_shortestWay cvI 0 0 0 [(0, .ref (mB Γ + r0)), (1, .ref (mB Γ + r1))] [] z _
  refine j_aload_n (pc := 0) 0 dX10_shortestWay_0 rfl rfl ?_
  refine j_aload_n (pc := 1) 1 dX10_shortestWay_1 rfl rfl ?_
  refine j_isC (fun h25 => ?_)
  refine j_callV_V (pc := 2) (as := [.ref (mB Γ + r1)]) (mc2 := 0) (ms2 := 0) (ct_X10_look _ _ _) h25 rfl cw_X10_shortestWay_47 dX10_shortestWay_2 (Nat.le_of_ble_eq_true rfl) rfl (by decide) (by decide) (fun _ z24 => ?_)
  refine j_aload_n (pc := 5) 0 dX10_shortestWay_5 rfl rfl ?_
  refine j_getR (pc := 6) ok_X10 (by decide) rfl w_462 dX10_shortestWay_6 (fun a26 => ?_)
  refine j_iconst (pc := 9) (v := 0) dX10_shortestWay_9 (by decide) ?_
  refine j_callS_V (pc := 10) (as := [.ref (mB Γ + a26), .int 0]) (mc2 := 0) (ms2 := 0) (ct_J7_fill_53178 _ _ _) cw_X10_shortestWay_51 dX10_shortestWay_10 (Nat.le_of_ble_eq_true rfl) rfl (by decide) (by decide) (fun _ z27 => ?_)
  refine j_aload_n (pc := 13) 0 dX10_shortestWay_13 rfl rfl ?_
  refine j_iconst (pc := 14) (v := 0) dX10_shortestWay_14 (by decide) ?_
  refine j_putI (pc := 15) ok_X10 (by decide) rfl w_465 (Or.inl rfl) rfl rfl dX10_shortestWay_15 (fun z28 => ?_)
  refine j_iconst (pc := 18) (v := 0) dX10_shortestWay_18 (by decide) ?_
  refine j_istore_n (pc := 19) (lv2 := [(2, .int 0), (0, .ref (mB Γ + r0)), (1, .ref (mB Γ + r1))]) dX10_shortestWay_19 rfl (by decide) rfl ?_
  exact J.sub [1, 0] rfl ((j_X10_shortestWay_L20 j_X10_shortestWay_B57 FU) r0 0 z28)
theorem dX10_isShut_0 : decode cX10_isShut 0 = .ok (.aload_n 0, 1) := by decide +kernel
theorem dX10_isShut_1 : decode cX10_isShut 1 = .ok (.aload_n 1, 1) := by decide +kernel
theorem dX10_isShut_2 : decode cX10_isShut 2 = .ok (.invokevirtual 43, 3) := by decide +kernel
theorem dX10_isShut_5 : decode cX10_isShut 5 = .ok (.iconst (-1), 1) := by decide +kernel
theorem dX10_isShut_6 : decode cX10_isShut 6 = .ok (.if_icmp .ne 7, 3) := by decide +kernel
theorem dX10_isShut_9 : decode cX10_isShut 9 = .ok (.iconst 1, 1) := by decide +kernel
theorem dX10_isShut_10 : decode cX10_isShut 10 = .ok (.goto 4, 3) := by decide +kernel
theorem dX10_isShut_13 : decode cX10_isShut 13 = .ok (.iconst 0, 1) := by decide +kernel
theorem dX10_isShut_14 : decode cX10_isShut 14 = .ok (.ireturn, 1) := by decide +kernel
theorem cw_X10_isShut_43 : CwV mi_X10_isShut mi_X10_shortestWay yX10_shortestWay RX10 43 1 := ⟨⟨w_850, w_851, w_852, w_105, w_853⟩, ⟨by decide, by decide⟩, by decide +kernel, by decide, by decide⟩
theorem ct_X10_isShut {l : Launch} {Γ : Am} (r0 : Nat) (r1 : Nat) (z : Hp) : Ct l Γ yX10_isShut mi_X10_isShut cvI [.ref (mB Γ + r0), .ref (mB Γ + r1)] z (m_X10_isShut r0 r1 z) := by
  refine Ct.ofJ (by decide) ⟨rfl, rfl⟩ (Nat.le_of_ble_eq_true rfl) ?_
  unfold m_X10_isShut
  show J l Γ mi_X10_isShut cvI 0 0 0 [(0, .ref (mB Γ + r0)), (1, .ref (mB Γ + r1))] [] z _
  refine j_aload_n (pc := 0) 0 dX10_isShut_0 rfl rfl ?_
  refine j_aload_n (pc := 1) 1 dX10_isShut_1 rfl rfl ?_
  refine j_isC (fun h3 => ?_)
  refine j_callV_I (pc := 2) (as := [.ref (mB Γ + r1)]) (mc2 := 0) (ms2 := 0) (ct_X10_shortestWay _ _ _) h3 rfl cw_X10_isShut_43 dX10_isShut_2 (Nat.le_of_ble_eq_true rfl) rfl (by decide) (by decide) (fun x2 z1 => ?_)
  refine j_iconst (pc := 5) (v := (-1)) dX10_isShut_5 (by decide) ?_
  refine j_icmp_ne (pc := 6) 13 dX10_isShut_6 (by decide) ?_ ?_
  · refine j_iconst (pc := 13) (v := 0) dX10_isShut_13 (by decide) ?_
    exact j_ireturn (pc := 14) dX10_isShut_14 rfl rfl
  refine j_iconst (pc := 9) (v := 1) dX10_isShut_9 (by decide) ?_
  refine j_goto (pc := 10) 14 dX10_isShut_10 (by decide) ?_
  exact j_ireturn (pc := 14) dX10_isShut_14 rfl rfl
theorem dX10_reach_0 : decode cX10_reach 0 = .ok (.aload_n 0, 1) := by decide +kernel
theorem dX10_reach_1 : decode cX10_reach 1 = .ok (.getfield 18, 3) := by decide +kernel
theorem dX10_reach_4 : decode cX10_reach 4 = .ok (.iload_n 1, 1) := by decide +kernel
theorem dX10_reach_5 : decode cX10_reach 5 = .ok (.iaload, 1) := by decide +kernel
theorem dX10_reach_6 : decode cX10_reach 6 = .ok (.ifCond .ne 13, 3) := by decide +kernel
theorem dX10_reach_9 : decode cX10_reach 9 = .ok (.aload_n 0, 1) := by decide +kernel
theorem dX10_reach_10 : decode cX10_reach 10 = .ok (.getfield 9, 3) := by decide +kernel
theorem dX10_reach_13 : decode cX10_reach 13 = .ok (.iload_n 1, 1) := by decide +kernel
theorem dX10_reach_14 : decode cX10_reach 14 = .ok (.iaload, 1) := by decide +kernel
theorem dX10_reach_15 : decode cX10_reach 15 = .ok (.iconst 2, 1) := by decide +kernel
theorem dX10_reach_16 : decode cX10_reach 16 = .ok (.if_icmp .ne 4, 3) := by decide +kernel
theorem dX10_reach_19 : decode cX10_reach 19 = .ok (.return_, 1) := by decide +kernel
theorem dX10_reach_20 : decode cX10_reach 20 = .ok (.aload_n 0, 1) := by decide +kernel
theorem dX10_reach_21 : decode cX10_reach 21 = .ok (.getfield 18, 3) := by decide +kernel
theorem dX10_reach_24 : decode cX10_reach 24 = .ok (.iload_n 1, 1) := by decide +kernel
theorem dX10_reach_25 : decode cX10_reach 25 = .ok (.iconst 1, 1) := by decide +kernel
theorem dX10_reach_26 : decode cX10_reach 26 = .ok (.iastore, 1) := by decide +kernel
theorem dX10_reach_27 : decode cX10_reach 27 = .ok (.aload_n 0, 1) := by decide +kernel
theorem dX10_reach_28 : decode cX10_reach 28 = .ok (.getfield 9, 3) := by decide +kernel
theorem dX10_reach_31 : decode cX10_reach 31 = .ok (.iload_n 1, 1) := by decide +kernel
theorem dX10_reach_32 : decode cX10_reach 32 = .ok (.iaload, 1) := by decide +kernel
theorem dX10_reach_33 : decode cX10_reach 33 = .ok (.ifCond .ne 36, 3) := by decide +kernel
theorem dX10_reach_36 : decode cX10_reach 36 = .ok (.aload_n 0, 1) := by decide +kernel
theorem dX10_reach_37 : decode cX10_reach 37 = .ok (.getfield 27, 3) := by decide +kernel
theorem dX10_reach_40 : decode cX10_reach 40 = .ok (.sipush 288, 3) := by decide +kernel
theorem dX10_reach_43 : decode cX10_reach 43 = .ok (.if_icmp .ge 26, 3) := by decide +kernel
theorem dX10_reach_46 : decode cX10_reach 46 = .ok (.aload_n 0, 1) := by decide +kernel
theorem dX10_reach_47 : decode cX10_reach 47 = .ok (.getfield 21, 3) := by decide +kernel
theorem dX10_reach_50 : decode cX10_reach 50 = .ok (.aload_n 0, 1) := by decide +kernel
theorem dX10_reach_51 : decode cX10_reach 51 = .ok (.getfield 27, 3) := by decide +kernel
theorem dX10_reach_54 : decode cX10_reach 54 = .ok (.iload_n 1, 1) := by decide +kernel
theorem dX10_reach_55 : decode cX10_reach 55 = .ok (.iastore, 1) := by decide +kernel
theorem dX10_reach_56 : decode cX10_reach 56 = .ok (.aload_n 0, 1) := by decide +kernel
theorem dX10_reach_57 : decode cX10_reach 57 = .ok (.dup, 1) := by decide +kernel
theorem dX10_reach_58 : decode cX10_reach 58 = .ok (.getfield 27, 3) := by decide +kernel
theorem dX10_reach_61 : decode cX10_reach 61 = .ok (.iconst 1, 1) := by decide +kernel
theorem dX10_reach_62 : decode cX10_reach 62 = .ok (.iadd, 1) := by decide +kernel
theorem dX10_reach_63 : decode cX10_reach 63 = .ok (.putfield 27, 3) := by decide +kernel
theorem dX10_reach_66 : decode cX10_reach 66 = .ok (.goto 33, 3) := by decide +kernel
theorem dX10_reach_69 : decode cX10_reach 69 = .ok (.aload_n 0, 1) := by decide +kernel
theorem dX10_reach_70 : decode cX10_reach 70 = .ok (.getfield 31, 3) := by decide +kernel
theorem dX10_reach_73 : decode cX10_reach 73 = .ok (.sipush 288, 3) := by decide +kernel
theorem dX10_reach_76 : decode cX10_reach 76 = .ok (.if_icmp .ge 23, 3) := by decide +kernel
theorem dX10_reach_79 : decode cX10_reach 79 = .ok (.aload_n 0, 1) := by decide +kernel
theorem dX10_reach_80 : decode cX10_reach 80 = .ok (.getfield 24, 3) := by decide +kernel
theorem dX10_reach_83 : decode cX10_reach 83 = .ok (.aload_n 0, 1) := by decide +kernel
theorem dX10_reach_84 : decode cX10_reach 84 = .ok (.getfield 31, 3) := by decide +kernel
theorem dX10_reach_87 : decode cX10_reach 87 = .ok (.iload_n 1, 1) := by decide +kernel
theorem dX10_reach_88 : decode cX10_reach 88 = .ok (.iastore, 1) := by decide +kernel
theorem dX10_reach_89 : decode cX10_reach 89 = .ok (.aload_n 0, 1) := by decide +kernel
theorem dX10_reach_90 : decode cX10_reach 90 = .ok (.dup, 1) := by decide +kernel
theorem dX10_reach_91 : decode cX10_reach 91 = .ok (.getfield 31, 3) := by decide +kernel
theorem dX10_reach_94 : decode cX10_reach 94 = .ok (.iconst 1, 1) := by decide +kernel
theorem dX10_reach_95 : decode cX10_reach 95 = .ok (.iadd, 1) := by decide +kernel
theorem dX10_reach_96 : decode cX10_reach 96 = .ok (.putfield 31, 3) := by decide +kernel
theorem dX10_reach_99 : decode cX10_reach 99 = .ok (.return_, 1) := by decide +kernel
theorem j_X10_reach_B69 {l : Launch} {Γ : Am}   : ∀ (r0 : Nat) (v1 : Int32) (z : Hp), J l Γ mi_X10_reach cvV 0 0 69 [(0, .ref (mB Γ + r0)), (1, .int v1)] [] z (m_X10_reach_B69  r0 v1 z) := by
  intro r0 v1 z
  unfold m_X10_reach_B69
  refine j_aload_n (pc := 69) 0 dX10_reach_69 rfl rfl ?_
  refine j_getI (pc := 70) ok_X10 (by decide) rfl w_466 dX10_reach_70 (fun x1 => ?_)
  refine j_sipush (pc := 73) (v := 288) dX10_reach_73 (by decide) ?_
  refine j_icmp_ge (pc := 76) 99 dX10_reach_76 (by decide) ?_ ?_
  · exact j_return (pc := 99) dX10_reach_99 rfl
  refine j_aload_n (pc := 79) 0 dX10_reach_79 rfl rfl ?_
  refine j_getR (pc := 80) ok_X10 (by decide) rfl w_464 dX10_reach_80 (fun a2 => ?_)
  refine j_aload_n (pc := 83) 0 dX10_reach_83 rfl rfl ?_
  refine j_getI (pc := 84) ok_X10 (by decide) rfl w_466 dX10_reach_84 (fun x3 => ?_)
  refine j_iload_n (pc := 87) 1 dX10_reach_87 rfl rfl ?_
  refine j_iastore (pc := 88) dX10_reach_88 (fun z4 => ?_)
  refine j_aload_n (pc := 89) 0 dX10_reach_89 rfl rfl ?_
  refine j_dup (pc := 90) dX10_reach_90 rfl ?_
  refine j_getI (pc := 91) ok_X10 (by decide) rfl w_466 dX10_reach_91 (fun x5 => ?_)
  refine j_iconst (pc := 94) (v := 1) dX10_reach_94 (by decide) ?_
  refine j_iadd (pc := 95) dX10_reach_95 ?_
  refine j_putI (pc := 96) ok_X10 (by decide) rfl w_466 (Or.inl rfl) rfl rfl dX10_reach_96 (fun z6 => ?_)
  exact j_return (pc := 99) dX10_reach_99 rfl
theorem ct_X10_reach {l : Launch} {Γ : Am} (r0 : Nat) (v1 : Int32) (z : Hp) : Ct l Γ yX10_reach mi_X10_reach cvV [.ref (mB Γ + r0), .int v1] z (m_X10_reach r0 v1 z) := by
  refine Ct.ofJ (by decide) ⟨rfl, rfl⟩ (Nat.le_of_ble_eq_true rfl) ?_
  unfold m_X10_reach
  show J l Γ mi_X10_reach cvV 0 0 0 [(0, .ref (mB Γ + r0)), (1, .int v1)] [] z _
  refine j_aload_n (pc := 0) 0 dX10_reach_0 rfl rfl ?_
  refine j_getR (pc := 1) ok_X10 (by decide) rfl w_462 dX10_reach_1 (fun a7 => ?_)
  refine j_iload_n (pc := 4) 1 dX10_reach_4 rfl rfl ?_
  refine j_iaload (pc := 5) dX10_reach_5 (fun x8 => ?_)
  refine j_if_ne (pc := 6) 19 dX10_reach_6 (by decide) ?_ ?_
  · exact j_return (pc := 19) dX10_reach_19 rfl
  refine j_aload_n (pc := 9) 0 dX10_reach_9 rfl rfl ?_
  refine j_getR (pc := 10) ok_X10 (by decide) rfl w_460 dX10_reach_10 (fun a9 => ?_)
  refine j_iload_n (pc := 13) 1 dX10_reach_13 rfl rfl ?_
  refine j_iaload (pc := 14) dX10_reach_14 (fun x10 => ?_)
  refine j_iconst (pc := 15) (v := 2) dX10_reach_15 (by decide) ?_
  refine j_icmp_ne (pc := 16) 20 dX10_reach_16 (by decide) ?_ ?_
  · refine j_aload_n (pc := 20) 0 dX10_reach_20 rfl rfl ?_
    refine j_getR (pc := 21) ok_X10 (by decide) rfl w_462 dX10_reach_21 (fun a11 => ?_)
    refine j_iload_n (pc := 24) 1 dX10_reach_24 rfl rfl ?_
    refine j_iconst (pc := 25) (v := 1) dX10_reach_25 (by decide) ?_
    refine j_iastore (pc := 26) dX10_reach_26 (fun z12 => ?_)
    refine j_aload_n (pc := 27) 0 dX10_reach_27 rfl rfl ?_
    refine j_getR (pc := 28) ok_X10 (by decide) rfl w_460 dX10_reach_28 (fun a13 => ?_)
    refine j_iload_n (pc := 31) 1 dX10_reach_31 rfl rfl ?_
    refine j_iaload (pc := 32) dX10_reach_32 (fun x14 => ?_)
    refine j_if_ne (pc := 33) 69 dX10_reach_33 (by decide) ?_ ?_
    · exact J.sub [0, 1] rfl (j_X10_reach_B69 r0 v1 z12)
    refine j_aload_n (pc := 36) 0 dX10_reach_36 rfl rfl ?_
    refine j_getI (pc := 37) ok_X10 (by decide) rfl w_465 dX10_reach_37 (fun x15 => ?_)
    refine j_sipush (pc := 40) (v := 288) dX10_reach_40 (by decide) ?_
    refine j_icmp_ge (pc := 43) 69 dX10_reach_43 (by decide) ?_ ?_
    · exact J.sub [0, 1] rfl (j_X10_reach_B69 r0 v1 z12)
    refine j_aload_n (pc := 46) 0 dX10_reach_46 rfl rfl ?_
    refine j_getR (pc := 47) ok_X10 (by decide) rfl w_463 dX10_reach_47 (fun a16 => ?_)
    refine j_aload_n (pc := 50) 0 dX10_reach_50 rfl rfl ?_
    refine j_getI (pc := 51) ok_X10 (by decide) rfl w_465 dX10_reach_51 (fun x17 => ?_)
    refine j_iload_n (pc := 54) 1 dX10_reach_54 rfl rfl ?_
    refine j_iastore (pc := 55) dX10_reach_55 (fun z18 => ?_)
    refine j_aload_n (pc := 56) 0 dX10_reach_56 rfl rfl ?_
    refine j_dup (pc := 57) dX10_reach_57 rfl ?_
    refine j_getI (pc := 58) ok_X10 (by decide) rfl w_465 dX10_reach_58 (fun x19 => ?_)
    refine j_iconst (pc := 61) (v := 1) dX10_reach_61 (by decide) ?_
    refine j_iadd (pc := 62) dX10_reach_62 ?_
    refine j_putI (pc := 63) ok_X10 (by decide) rfl w_465 (Or.inl rfl) rfl rfl dX10_reach_63 (fun z20 => ?_)
    refine j_goto (pc := 66) 99 dX10_reach_66 (by decide) ?_
    exact j_return (pc := 99) dX10_reach_99 rfl
  exact j_return (pc := 19) dX10_reach_19 rfl
theorem dX10_reachesRim_0 : decode cX10_reachesRim 0 = .ok (.iconst 0, 1) := by decide +kernel
theorem dX10_reachesRim_1 : decode cX10_reachesRim 1 = .ok (.istore_n 1, 1) := by decide +kernel
theorem dX10_reachesRim_2 : decode cX10_reachesRim 2 = .ok (.iload_n 1, 1) := by decide +kernel
theorem dX10_reachesRim_3 : decode cX10_reachesRim 3 = .ok (.aload_n 0, 1) := by decide +kernel
theorem dX10_reachesRim_4 : decode cX10_reachesRim 4 = .ok (.getfield 27, 3) := by decide +kernel
theorem dX10_reachesRim_7 : decode cX10_reachesRim 7 = .ok (.if_icmp .ge 64, 3) := by decide +kernel
theorem dX10_reachesRim_10 : decode cX10_reachesRim 10 = .ok (.iload_n 1, 1) := by decide +kernel
theorem dX10_reachesRim_11 : decode cX10_reachesRim 11 = .ok (.sipush 288, 3) := by decide +kernel
theorem dX10_reachesRim_14 : decode cX10_reachesRim 14 = .ok (.if_icmp .ge 57, 3) := by decide +kernel
theorem dX10_reachesRim_17 : decode cX10_reachesRim 17 = .ok (.aload_n 0, 1) := by decide +kernel
theorem dX10_reachesRim_18 : decode cX10_reachesRim 18 = .ok (.getfield 21, 3) := by decide +kernel
theorem dX10_reachesRim_21 : decode cX10_reachesRim 21 = .ok (.iload_n 1, 1) := by decide +kernel
theorem dX10_reachesRim_22 : decode cX10_reachesRim 22 = .ok (.iaload, 1) := by decide +kernel
theorem dX10_reachesRim_23 : decode cX10_reachesRim 23 = .ok (.istore_n 2, 1) := by decide +kernel
theorem dX10_reachesRim_24 : decode cX10_reachesRim 24 = .ok (.iload_n 2, 1) := by decide +kernel
theorem dX10_reachesRim_25 : decode cX10_reachesRim 25 = .ok (.invokestatic 61, 3) := by decide +kernel
theorem dX10_reachesRim_28 : decode cX10_reachesRim 28 = .ok (.ifCond .eq 5, 3) := by decide +kernel
theorem dX10_reachesRim_31 : decode cX10_reachesRim 31 = .ok (.iconst 1, 1) := by decide +kernel
theorem dX10_reachesRim_32 : decode cX10_reachesRim 32 = .ok (.ireturn, 1) := by decide +kernel
theorem dX10_reachesRim_33 : decode cX10_reachesRim 33 = .ok (.iconst 0, 1) := by decide +kernel
theorem dX10_reachesRim_34 : decode cX10_reachesRim 34 = .ok (.istore_n 3, 1) := by decide +kernel
theorem dX10_reachesRim_35 : decode cX10_reachesRim 35 = .ok (.iload_n 3, 1) := by decide +kernel
theorem dX10_reachesRim_36 : decode cX10_reachesRim 36 = .ok (.iconst 4, 1) := by decide +kernel
theorem dX10_reachesRim_37 : decode cX10_reachesRim 37 = .ok (.if_icmp .ge 28, 3) := by decide +kernel
theorem dX10_reachesRim_40 : decode cX10_reachesRim 40 = .ok (.iload_n 2, 1) := by decide +kernel
theorem dX10_reachesRim_41 : decode cX10_reachesRim 41 = .ok (.iload_n 3, 1) := by decide +kernel
theorem dX10_reachesRim_42 : decode cX10_reachesRim 42 = .ok (.invokestatic 65, 3) := by decide +kernel
theorem dX10_reachesRim_45 : decode cX10_reachesRim 45 = .ok (.istore 4, 2) := by decide +kernel
theorem dX10_reachesRim_47 : decode cX10_reachesRim 47 = .ok (.iload 4, 2) := by decide +kernel
theorem dX10_reachesRim_49 : decode cX10_reachesRim 49 = .ok (.iconst (-1), 1) := by decide +kernel
theorem dX10_reachesRim_50 : decode cX10_reachesRim 50 = .ok (.if_icmp .eq 9, 3) := by decide +kernel
theorem dX10_reachesRim_53 : decode cX10_reachesRim 53 = .ok (.aload_n 0, 1) := by decide +kernel
theorem dX10_reachesRim_54 : decode cX10_reachesRim 54 = .ok (.iload 4, 2) := by decide +kernel
theorem dX10_reachesRim_56 : decode cX10_reachesRim 56 = .ok (.invokevirtual 69, 3) := by decide +kernel
theorem dX10_reachesRim_59 : decode cX10_reachesRim 59 = .ok (.iinc 3 1, 3) := by decide +kernel
theorem dX10_reachesRim_62 : decode cX10_reachesRim 62 = .ok (.goto (-27), 3) := by decide +kernel
theorem dX10_reachesRim_65 : decode cX10_reachesRim 65 = .ok (.iinc 1 1, 3) := by decide +kernel
theorem dX10_reachesRim_68 : decode cX10_reachesRim 68 = .ok (.goto (-66), 3) := by decide +kernel
theorem dX10_reachesRim_71 : decode cX10_reachesRim 71 = .ok (.iconst 0, 1) := by decide +kernel
theorem dX10_reachesRim_72 : decode cX10_reachesRim 72 = .ok (.ireturn, 1) := by decide +kernel
theorem cw_X10_reachesRim_65 : CwSN mi_X10_reachesRim mi_X11_beside yX11_beside 65 2 "FrostRing" := ⟨⟨by decide +kernel, w_860, w_95, w_861⟩, ⟨by decide, by decide⟩, by decide +kernel, by decide, by decide⟩
theorem cw_X10_reachesRim_69 : CwV mi_X10_reachesRim mi_X10_reach yX10_reach RX10 69 1 := ⟨⟨w_985, w_987, w_34, w_105, w_988⟩, ⟨by decide, by decide⟩, by decide +kernel, by decide, by decide⟩
theorem cw_X10_reachesRim_61 : CwSN mi_X10_reachesRim mi_X11_isAtRim yX11_isAtRim 61 1 "FrostRing" := ⟨⟨by decide +kernel, w_868, w_95, w_869⟩, ⟨by decide, by decide⟩, by decide +kernel, by decide, by decide⟩
theorem j_X10_reachesRim_B65 {l : Launch} {Γ : Am} {k2 : Nat → Int32 → Hp → Option (Int32 × Hp)} (hL2 : ∀ (r0 : Nat) (v1 : Int32) (z : Hp), J l Γ mi_X10_reachesRim cvI 0 0 2 [(0, .ref (mB Γ + r0)), (1, .int v1)] [] z (k2 r0 v1 z)) : ∀ (r0 : Nat) (v1 : Int32) (z : Hp), J l Γ mi_X10_reachesRim cvI 0 0 65 [(0, .ref (mB Γ + r0)), (1, .int v1)] [] z (m_X10_reachesRim_B65 k2 r0 v1 z) := by
  intro r0 v1 z
  unfold m_X10_reachesRim_B65
  refine j_iinc (pc := 65) (n0 := 1) (v0 := v1 + 1) (lv2 := [(1, .int (v1 + 1)), (0, .ref (mB Γ + r0))]) dX10_reachesRim_65 rfl rfl (by decide) rfl ?_
  refine j_goto (pc := 68) 2 dX10_reachesRim_68 (by decide) ?_
  exact J.sub [1, 0] rfl (hL2 r0 (v1 + 1) z)
theorem j_X10_reachesRim_B59 {l : Launch} {Γ : Am} {k35 : Nat → Int32 → Int32 → Int32 → Hp → Option (Int32 × Hp)} (hL35 : ∀ (r0 : Nat) (v1 : Int32) (v2 : Int32) (v3 : Int32) (z : Hp), J l Γ mi_X10_reachesRim cvI 0 0 35 [(0, .ref (mB Γ + r0)), (1, .int v1), (2, .int v2), (3, .int v3)] [] z (k35 r0 v1 v2 v3 z)) : ∀ (r0 : Nat) (v1 : Int32) (v2 : Int32) (v3 : Int32) (z : Hp), J l Γ mi_X10_reachesRim cvI 0 0 59 [(0, .ref (mB Γ + r0)), (1, .int v1), (2, .int v2), (3, .int v3)] [] z (m_X10_reachesRim_B59 k35 r0 v1 v2 v3 z) := by
  intro r0 v1 v2 v3 z
  unfold m_X10_reachesRim_B59
  refine j_iinc (pc := 59) (n0 := 3) (v0 := v3 + 1) (lv2 := [(3, .int (v3 + 1)), (0, .ref (mB Γ + r0)), (1, .int v1), (2, .int v2)]) dX10_reachesRim_59 rfl rfl (by decide) rfl ?_
  refine j_goto (pc := 62) 35 dX10_reachesRim_62 (by decide) ?_
  exact J.sub [1, 2, 3, 0] rfl (hL35 r0 v1 v2 (v3 + 1) z)
theorem j_X10_reachesRim_L35 {l : Launch} {Γ : Am} {k65 : Nat → Int32 → Hp → Option (Int32 × Hp)} (hL65 : ∀ (r0 : Nat) (v1 : Int32) (z : Hp), J l Γ mi_X10_reachesRim cvI 0 0 65 [(0, .ref (mB Γ + r0)), (1, .int v1)] [] z (k65 r0 v1 z)) : ∀ (f : Nat), ∀ (r0 : Nat) (v1 : Int32) (v2 : Int32) (v3 : Int32) (z : Hp), J l Γ mi_X10_reachesRim cvI 0 0 35 [(0, .ref (mB Γ + r0)), (1, .int v1), (2, .int v2), (3, .int v3)] [] z (m_X10_reachesRim_L35 k65 f r0 v1 v2 v3 z) := by
  intro f
  induction f with
  | zero => intro r0 v1 v2 v3 z; exact J.none
  | succ f hL35 =>
    intro r0 v1 v2 v3 z
    rw [m_X10_reachesRim_L35]
    refine j_iload_n (pc := 35) 3 dX10_reachesRim_35 rfl rfl ?_
    refine j_iconst (pc := 36) (v := 4) dX10_reachesRim_36 (by decide) ?_
    refine j_icmp_ge (pc := 37) 65 dX10_reachesRim_37 (by decide) ?_ ?_
    · exact J.sub [0, 1] rfl (hL65 r0 v1 z)
    refine j_iload_n (pc := 40) 2 dX10_reachesRim_40 rfl rfl ?_
    refine j_iload_n (pc := 41) 3 dX10_reachesRim_41 rfl rfl ?_
    refine j_callSN_I (pc := 42) (as := [.int v2, .int v3]) (mc2 := 0) (ms2 := 0) (ct_X11_beside _ _ _) cw_X10_reachesRim_65 dX10_reachesRim_42 (Nat.le_of_ble_eq_true rfl) rfl (by decide) (by decide) (fun x2 z1 => ?_)
    refine j_istore (pc := 45) (lv2 := [(4, .int x2), (0, .ref (mB Γ + r0)), (1, .int v1), (2, .int v2), (3, .int v3)]) dX10_reachesRim_45 (by decide) rfl ?_
    refine j_iload (pc := 47) 0 dX10_reachesRim_47 rfl ?_
    refine j_iconst (pc := 49) (v := (-1)) dX10_reachesRim_49 (by decide) ?_
    refine j_icmp_eq (pc := 50) 59 dX10_reachesRim_50 (by decide) ?_ ?_
    · exact J.sub [1, 2, 3, 4] rfl ((j_X10_reachesRim_B59 hL35) r0 v1 v2 v3 z1)
    refine j_aload_n (pc := 53) 1 dX10_reachesRim_53 rfl rfl ?_
    refine j_iload (pc := 54) 0 dX10_reachesRim_54 rfl ?_
    refine j_isC (fun h4 => ?_)
    refine j_callV_V (pc := 56) (as := [.int x2]) (mc2 := 0) (ms2 := 0) (ct_X10_reach _ _ _) h4 rfl cw_X10_reachesRim_69 dX10_reachesRim_56 (Nat.le_of_ble_eq_true rfl) rfl (by decide) (by decide) (fun _ z3 => ?_)
    exact J.sub [1, 2, 3, 4] rfl ((j_X10_reachesRim_B59 hL35) r0 v1 v2 v3 z3)
theorem j_X10_reachesRim_L2 {l : Launch} {Γ : Am}   : ∀ (f : Nat), ∀ (r0 : Nat) (v1 : Int32) (z : Hp), J l Γ mi_X10_reachesRim cvI 0 0 2 [(0, .ref (mB Γ + r0)), (1, .int v1)] [] z (m_X10_reachesRim_L2  f r0 v1 z) := by
  intro f
  induction f with
  | zero => intro r0 v1 z; exact J.none
  | succ f hL2 =>
    intro r0 v1 z
    rw [m_X10_reachesRim_L2]
    refine j_iload_n (pc := 2) 1 dX10_reachesRim_2 rfl rfl ?_
    refine j_aload_n (pc := 3) 0 dX10_reachesRim_3 rfl rfl ?_
    refine j_getI (pc := 4) ok_X10 (by decide) rfl w_465 dX10_reachesRim_4 (fun x5 => ?_)
    refine j_icmp_ge (pc := 7) 71 dX10_reachesRim_7 (by decide) ?_ ?_
    · refine j_iconst (pc := 71) (v := 0) dX10_reachesRim_71 (by decide) ?_
      exact j_ireturn (pc := 72) dX10_reachesRim_72 rfl rfl
    refine j_iload_n (pc := 10) 1 dX10_reachesRim_10 rfl rfl ?_
    refine j_sipush (pc := 11) (v := 288) dX10_reachesRim_11 (by decide) ?_
    refine j_icmp_ge (pc := 14) 71 dX10_reachesRim_14 (by decide) ?_ ?_
    · refine j_iconst (pc := 71) (v := 0) dX10_reachesRim_71 (by decide) ?_
      exact j_ireturn (pc := 72) dX10_reachesRim_72 rfl rfl
    refine j_aload_n (pc := 17) 0 dX10_reachesRim_17 rfl rfl ?_
    refine j_getR (pc := 18) ok_X10 (by decide) rfl w_463 dX10_reachesRim_18 (fun a6 => ?_)
    refine j_iload_n (pc := 21) 1 dX10_reachesRim_21 rfl rfl ?_
    refine j_iaload (pc := 22) dX10_reachesRim_22 (fun x7 => ?_)
    refine j_istore_n (pc := 23) (lv2 := [(2, .int x7), (0, .ref (mB Γ + r0)), (1, .int v1)]) dX10_reachesRim_23 rfl (by decide) rfl ?_
    refine j_iload_n (pc := 24) 0 dX10_reachesRim_24 rfl rfl ?_
    refine j_callSN_I (pc := 25) (as := [.int x7]) (mc2 := 0) (ms2 := 0) (ct_X11_isAtRim _ _) cw_X10_reachesRim_61 dX10_reachesRim_25 (Nat.le_of_ble_eq_true rfl) rfl (by decide) (by decide) (fun x9 z8 => ?_)
    refine j_if_eq (pc := 28) 33 dX10_reachesRim_28 (by decide) ?_ ?_
    · refine j_iconst (pc := 33) (v := 0) dX10_reachesRim_33 (by decide) ?_
      refine j_istore_n (pc := 34) (lv2 := [(3, .int 0), (2, .int x7), (0, .ref (mB Γ + r0)), (1, .int v1)]) dX10_reachesRim_34 rfl (by decide) rfl ?_
      exact J.sub [2, 3, 1, 0] rfl ((j_X10_reachesRim_L35 (j_X10_reachesRim_B65 hL2) FU) r0 v1 x7 0 z8)
    refine j_iconst (pc := 31) (v := 1) dX10_reachesRim_31 (by decide) ?_
    exact j_ireturn (pc := 32) dX10_reachesRim_32 rfl rfl
theorem ct_X10_reachesRim {l : Launch} {Γ : Am} (r0 : Nat) (z : Hp) : Ct l Γ yX10_reachesRim mi_X10_reachesRim cvI [.ref (mB Γ + r0)] z (m_X10_reachesRim r0 z) := by
  refine Ct.ofJ (by decide) ⟨rfl, rfl⟩ (Nat.le_of_ble_eq_true rfl) ?_
  unfold m_X10_reachesRim
  show J l Γ mi_X10_reachesRim cvI 0 0 0 [(0, .ref (mB Γ + r0))] [] z _
  refine j_iconst (pc := 0) (v := 0) dX10_reachesRim_0 (by decide) ?_
  refine j_istore_n (pc := 1) (lv2 := [(1, .int 0), (0, .ref (mB Γ + r0))]) dX10_reachesRim_1 rfl (by decide) rfl ?_
  exact J.sub [1, 0] rfl ((j_X10_reachesRim_L2 FU) r0 0 z)
theorem dX10_thinnestFrost_0 : decode cX10_thinnestFrost 0 = .ok (.aload_n 0, 1) := by decide +kernel
theorem dX10_thinnestFrost_1 : decode cX10_thinnestFrost 1 = .ok (.aload_n 1, 1) := by decide +kernel
theorem dX10_thinnestFrost_2 : decode cX10_thinnestFrost 2 = .ok (.invokevirtual 47, 3) := by decide +kernel
theorem dX10_thinnestFrost_5 : decode cX10_thinnestFrost 5 = .ok (.aload_n 0, 1) := by decide +kernel
theorem dX10_thinnestFrost_6 : decode cX10_thinnestFrost 6 = .ok (.getfield 18, 3) := by decide +kernel
theorem dX10_thinnestFrost_9 : decode cX10_thinnestFrost 9 = .ok (.iconst 0, 1) := by decide +kernel
theorem dX10_thinnestFrost_10 : decode cX10_thinnestFrost 10 = .ok (.invokestatic 51, 3) := by decide +kernel
theorem dX10_thinnestFrost_13 : decode cX10_thinnestFrost 13 = .ok (.aload_n 0, 1) := by decide +kernel
theorem dX10_thinnestFrost_14 : decode cX10_thinnestFrost 14 = .ok (.iconst 0, 1) := by decide +kernel
theorem dX10_thinnestFrost_15 : decode cX10_thinnestFrost 15 = .ok (.putfield 27, 3) := by decide +kernel
theorem dX10_thinnestFrost_18 : decode cX10_thinnestFrost 18 = .ok (.aload_n 0, 1) := by decide +kernel
theorem dX10_thinnestFrost_19 : decode cX10_thinnestFrost 19 = .ok (.iconst 0, 1) := by decide +kernel
theorem dX10_thinnestFrost_20 : decode cX10_thinnestFrost 20 = .ok (.putfield 31, 3) := by decide +kernel
theorem dX10_thinnestFrost_23 : decode cX10_thinnestFrost 23 = .ok (.iconst 0, 1) := by decide +kernel
theorem dX10_thinnestFrost_24 : decode cX10_thinnestFrost 24 = .ok (.istore_n 2, 1) := by decide +kernel
theorem dX10_thinnestFrost_25 : decode cX10_thinnestFrost 25 = .ok (.iload_n 2, 1) := by decide +kernel
theorem dX10_thinnestFrost_26 : decode cX10_thinnestFrost 26 = .ok (.sipush 144, 3) := by decide +kernel
theorem dX10_thinnestFrost_29 : decode cX10_thinnestFrost 29 = .ok (.if_icmp .ge 23, 3) := by decide +kernel
theorem dX10_thinnestFrost_32 : decode cX10_thinnestFrost 32 = .ok (.aload_n 0, 1) := by decide +kernel
theorem dX10_thinnestFrost_33 : decode cX10_thinnestFrost 33 = .ok (.getfield 15, 3) := by decide +kernel
theorem dX10_thinnestFrost_36 : decode cX10_thinnestFrost 36 = .ok (.iload_n 2, 1) := by decide +kernel
theorem dX10_thinnestFrost_37 : decode cX10_thinnestFrost 37 = .ok (.iaload, 1) := by decide +kernel
theorem dX10_thinnestFrost_38 : decode cX10_thinnestFrost 38 = .ok (.ifCond .eq 8, 3) := by decide +kernel
theorem dX10_thinnestFrost_41 : decode cX10_thinnestFrost 41 = .ok (.aload_n 0, 1) := by decide +kernel
theorem dX10_thinnestFrost_42 : decode cX10_thinnestFrost 42 = .ok (.iload_n 2, 1) := by decide +kernel
theorem dX10_thinnestFrost_43 : decode cX10_thinnestFrost 43 = .ok (.invokevirtual 69, 3) := by decide +kernel
theorem dX10_thinnestFrost_46 : decode cX10_thinnestFrost 46 = .ok (.iinc 2 1, 3) := by decide +kernel
theorem dX10_thinnestFrost_49 : decode cX10_thinnestFrost 49 = .ok (.goto (-24), 3) := by decide +kernel
theorem dX10_thinnestFrost_52 : decode cX10_thinnestFrost 52 = .ok (.iconst 0, 1) := by decide +kernel
theorem dX10_thinnestFrost_53 : decode cX10_thinnestFrost 53 = .ok (.istore_n 2, 1) := by decide +kernel
theorem dX10_thinnestFrost_54 : decode cX10_thinnestFrost 54 = .ok (.iload_n 2, 1) := by decide +kernel
theorem dX10_thinnestFrost_55 : decode cX10_thinnestFrost 55 = .ok (.sipush 144, 3) := by decide +kernel
theorem dX10_thinnestFrost_58 : decode cX10_thinnestFrost 58 = .ok (.if_icmp .gt 49, 3) := by decide +kernel
theorem dX10_thinnestFrost_61 : decode cX10_thinnestFrost 61 = .ok (.aload_n 0, 1) := by decide +kernel
theorem dX10_thinnestFrost_62 : decode cX10_thinnestFrost 62 = .ok (.invokevirtual 73, 3) := by decide +kernel
theorem dX10_thinnestFrost_65 : decode cX10_thinnestFrost 65 = .ok (.ifCond .eq 5, 3) := by decide +kernel
theorem dX10_thinnestFrost_68 : decode cX10_thinnestFrost 68 = .ok (.iload_n 2, 1) := by decide +kernel
theorem dX10_thinnestFrost_69 : decode cX10_thinnestFrost 69 = .ok (.ireturn, 1) := by decide +kernel
theorem dX10_thinnestFrost_70 : decode cX10_thinnestFrost 70 = .ok (.aload_n 0, 1) := by decide +kernel
theorem dX10_thinnestFrost_71 : decode cX10_thinnestFrost 71 = .ok (.getfield 21, 3) := by decide +kernel
theorem dX10_thinnestFrost_74 : decode cX10_thinnestFrost 74 = .ok (.astore_n 3, 1) := by decide +kernel
theorem dX10_thinnestFrost_75 : decode cX10_thinnestFrost 75 = .ok (.aload_n 0, 1) := by decide +kernel
theorem dX10_thinnestFrost_76 : decode cX10_thinnestFrost 76 = .ok (.aload_n 0, 1) := by decide +kernel
theorem dX10_thinnestFrost_77 : decode cX10_thinnestFrost 77 = .ok (.getfield 24, 3) := by decide +kernel
theorem dX10_thinnestFrost_80 : decode cX10_thinnestFrost 80 = .ok (.putfield 21, 3) := by decide +kernel
theorem dX10_thinnestFrost_83 : decode cX10_thinnestFrost 83 = .ok (.aload_n 0, 1) := by decide +kernel
theorem dX10_thinnestFrost_84 : decode cX10_thinnestFrost 84 = .ok (.aload_n 3, 1) := by decide +kernel
theorem dX10_thinnestFrost_85 : decode cX10_thinnestFrost 85 = .ok (.putfield 24, 3) := by decide +kernel
theorem dX10_thinnestFrost_88 : decode cX10_thinnestFrost 88 = .ok (.aload_n 0, 1) := by decide +kernel
theorem dX10_thinnestFrost_89 : decode cX10_thinnestFrost 89 = .ok (.aload_n 0, 1) := by decide +kernel
theorem dX10_thinnestFrost_90 : decode cX10_thinnestFrost 90 = .ok (.getfield 31, 3) := by decide +kernel
theorem dX10_thinnestFrost_93 : decode cX10_thinnestFrost 93 = .ok (.putfield 27, 3) := by decide +kernel
theorem dX10_thinnestFrost_96 : decode cX10_thinnestFrost 96 = .ok (.aload_n 0, 1) := by decide +kernel
theorem dX10_thinnestFrost_97 : decode cX10_thinnestFrost 97 = .ok (.iconst 0, 1) := by decide +kernel
theorem dX10_thinnestFrost_98 : decode cX10_thinnestFrost 98 = .ok (.putfield 31, 3) := by decide +kernel
theorem dX10_thinnestFrost_101 : decode cX10_thinnestFrost 101 = .ok (.iinc 2 1, 3) := by decide +kernel
theorem dX10_thinnestFrost_104 : decode cX10_thinnestFrost 104 = .ok (.goto (-50), 3) := by decide +kernel
theorem dX10_thinnestFrost_107 : decode cX10_thinnestFrost 107 = .ok (.iconst 0, 1) := by decide +kernel
theorem dX10_thinnestFrost_108 : decode cX10_thinnestFrost 108 = .ok (.ireturn, 1) := by decide +kernel
theorem cw_X10_thinnestFrost_73 : CwV mi_X10_thinnestFrost mi_X10_reachesRim yX10_reachesRim RX10 73 0 := ⟨⟨w_989, w_991, w_35, w_105, w_992⟩, ⟨by decide, by decide⟩, by decide +kernel, by decide, by decide⟩
theorem cw_X10_thinnestFrost_69 : CwV mi_X10_thinnestFrost mi_X10_reach yX10_reach RX10 69 1 := ⟨⟨w_985, w_987, w_34, w_105, w_988⟩, ⟨by decide, by decide⟩, by decide +kernel, by decide, by decide⟩
theorem cw_X10_thinnestFrost_47 : CwV mi_X10_thinnestFrost mi_X10_look yX10_look RX10 47 1 := ⟨⟨w_854, w_856, w_25, w_105, w_857⟩, ⟨by decide, by decide⟩, by decide +kernel, by decide, by decide⟩
theorem cw_X10_thinnestFrost_51 : CwS mi_X10_thinnestFrost mi_J7_fill_53178 yJ7_fill_53178 51 2 := ⟨⟨w_862, w_500, w_107, w_501⟩, ⟨by decide, by decide⟩, by decide +kernel, by decide, by decide⟩
theorem j_X10_thinnestFrost_L54 {l : Launch} {Γ : Am}   : ∀ (f : Nat), ∀ (r0 : Nat) (v2 : Int32) (z : Hp), J l Γ mi_X10_thinnestFrost cvI 0 0 54 [(0, .ref (mB Γ + r0)), (2, .int v2)] [] z (m_X10_thinnestFrost_L54  f r0 v2 z) := by
  intro f
  induction f with
  | zero => intro r0 v2 z; exact J.none
  | succ f hL54 =>
    intro r0 v2 z
    rw [m_X10_thinnestFrost_L54]
    refine j_iload_n (pc := 54) 1 dX10_thinnestFrost_54 rfl rfl ?_
    refine j_sipush (pc := 55) (v := 144) dX10_thinnestFrost_55 (by decide) ?_
    refine j_icmp_gt (pc := 58) 107 dX10_thinnestFrost_58 (by decide) ?_ ?_
    · refine j_iconst (pc := 107) (v := 0) dX10_thinnestFrost_107 (by decide) ?_
      exact j_ireturn (pc := 108) dX10_thinnestFrost_108 rfl rfl
    refine j_aload_n (pc := 61) 0 dX10_thinnestFrost_61 rfl rfl ?_
    refine j_isC (fun h3 => ?_)
    refine j_callV_I (pc := 62) (as := []) (mc2 := 0) (ms2 := 0) (ct_X10_reachesRim _ _) h3 rfl cw_X10_thinnestFrost_73 dX10_thinnestFrost_62 (Nat.le_of_ble_eq_true rfl) rfl (by decide) (by decide) (fun x2 z1 => ?_)
    refine j_if_eq (pc := 65) 70 dX10_thinnestFrost_65 (by decide) ?_ ?_
    · refine j_aload_n (pc := 70) 0 dX10_thinnestFrost_70 rfl rfl ?_
      refine j_getR (pc := 71) ok_X10 (by decide) rfl w_463 dX10_thinnestFrost_71 (fun a4 => ?_)
      refine j_astore_n (pc := 74) (lv2 := [(3, .ref (mB Γ + a4)), (0, .ref (mB Γ + r0)), (2, .int v2)]) dX10_thinnestFrost_74 rfl (by decide) rfl ?_
      refine j_aload_n (pc := 75) 1 dX10_thinnestFrost_75 rfl rfl ?_
      refine j_aload_n (pc := 76) 1 dX10_thinnestFrost_76 rfl rfl ?_
      refine j_getR (pc := 77) ok_X10 (by decide) rfl w_464 dX10_thinnestFrost_77 (fun a5 => ?_)
      refine j_putR (pc := 80) ok_X10 (by decide) rfl w_463 (Or.inl rfl) rfl rfl dX10_thinnestFrost_80 (fun z6 => ?_)
      refine j_aload_n (pc := 83) 1 dX10_thinnestFrost_83 rfl rfl ?_
      refine j_aload_n (pc := 84) 0 dX10_thinnestFrost_84 rfl rfl ?_
      refine j_putR (pc := 85) ok_X10 (by decide) rfl w_464 (Or.inl rfl) rfl rfl dX10_thinnestFrost_85 (fun z7 => ?_)
      refine j_aload_n (pc := 88) 1 dX10_thinnestFrost_88 rfl rfl ?_
      refine j_aload_n (pc := 89) 1 dX10_thinnestFrost_89 rfl rfl ?_
      refine j_getI (pc := 90) ok_X10 (by decide) rfl w_466 dX10_thinnestFrost_90 (fun x8 => ?_)
      refine j_putI (pc := 93) ok_X10 (by decide) rfl w_465 (Or.inl rfl) rfl rfl dX10_thinnestFrost_93 (fun z9 => ?_)
      refine j_aload_n (pc := 96) 1 dX10_thinnestFrost_96 rfl rfl ?_
      refine j_iconst (pc := 97) (v := 0) dX10_thinnestFrost_97 (by decide) ?_
      refine j_putI (pc := 98) ok_X10 (by decide) rfl w_466 (Or.inl rfl) rfl rfl dX10_thinnestFrost_98 (fun z10 => ?_)
      refine j_iinc (pc := 101) (n0 := 2) (v0 := v2 + 1) (lv2 := [(2, .int (v2 + 1)), (3, .ref (mB Γ + a4)), (0, .ref (mB Γ + r0))]) dX10_thinnestFrost_101 rfl rfl (by decide) rfl ?_
      refine j_goto (pc := 104) 54 dX10_thinnestFrost_104 (by decide) ?_
      exact J.sub [2, 0] rfl (hL54 r0 (v2 + 1) z10)
    refine j_iload_n (pc := 68) 1 dX10_thinnestFrost_68 rfl rfl ?_
    exact j_ireturn (pc := 69) dX10_thinnestFrost_69 rfl rfl
theorem j_X10_thinnestFrost_B52 {l : Launch} {Γ : Am}   : ∀ (r0 : Nat) (z : Hp), J l Γ mi_X10_thinnestFrost cvI 0 0 52 [(0, .ref (mB Γ + r0))] [] z (m_X10_thinnestFrost_B52  r0 z) := by
  intro r0 z
  unfold m_X10_thinnestFrost_B52
  refine j_iconst (pc := 52) (v := 0) dX10_thinnestFrost_52 (by decide) ?_
  refine j_istore_n (pc := 53) (lv2 := [(2, .int 0), (0, .ref (mB Γ + r0))]) dX10_thinnestFrost_53 rfl (by decide) rfl ?_
  exact J.sub [1, 0] rfl ((j_X10_thinnestFrost_L54 FU) r0 0 z)
theorem j_X10_thinnestFrost_B46 {l : Launch} {Γ : Am} {k25 : Nat → Int32 → Hp → Option (Int32 × Hp)} (hL25 : ∀ (r0 : Nat) (v2 : Int32) (z : Hp), J l Γ mi_X10_thinnestFrost cvI 0 0 25 [(0, .ref (mB Γ + r0)), (2, .int v2)] [] z (k25 r0 v2 z)) : ∀ (r0 : Nat) (v2 : Int32) (z : Hp), J l Γ mi_X10_thinnestFrost cvI 0 0 46 [(0, .ref (mB Γ + r0)), (2, .int v2)] [] z (m_X10_thinnestFrost_B46 k25 r0 v2 z) := by
  intro r0 v2 z
  unfold m_X10_thinnestFrost_B46
  refine j_iinc (pc := 46) (n0 := 1) (v0 := v2 + 1) (lv2 := [(2, .int (v2 + 1)), (0, .ref (mB Γ + r0))]) dX10_thinnestFrost_46 rfl rfl (by decide) rfl ?_
  refine j_goto (pc := 49) 25 dX10_thinnestFrost_49 (by decide) ?_
  exact J.sub [1, 0] rfl (hL25 r0 (v2 + 1) z)
theorem j_X10_thinnestFrost_L25 {l : Launch} {Γ : Am} {k52 : Nat → Hp → Option (Int32 × Hp)} (hL52 : ∀ (r0 : Nat) (z : Hp), J l Γ mi_X10_thinnestFrost cvI 0 0 52 [(0, .ref (mB Γ + r0))] [] z (k52 r0 z)) : ∀ (f : Nat), ∀ (r0 : Nat) (v2 : Int32) (z : Hp), J l Γ mi_X10_thinnestFrost cvI 0 0 25 [(0, .ref (mB Γ + r0)), (2, .int v2)] [] z (m_X10_thinnestFrost_L25 k52 f r0 v2 z) := by
  intro f
  induction f with
  | zero => intro r0 v2 z; exact J.none
  | succ f hL25 =>
    intro r0 v2 z
    rw [m_X10_thinnestFrost_L25]
    refine j_iload_n (pc := 25) 1 dX10_thinnestFrost_25 rfl rfl ?_
    refine j_sipush (pc := 26) (v := 144) dX10_thinnestFrost_26 (by decide) ?_
    refine j_icmp_ge (pc := 29) 52 dX10_thinnestFrost_29 (by decide) ?_ ?_
    · exact J.sub [0] rfl (hL52 r0 z)
    refine j_aload_n (pc := 32) 0 dX10_thinnestFrost_32 rfl rfl ?_
    refine j_getR (pc := 33) ok_X10 (by decide) rfl w_461 dX10_thinnestFrost_33 (fun a11 => ?_)
    refine j_iload_n (pc := 36) 1 dX10_thinnestFrost_36 rfl rfl ?_
    refine j_iaload (pc := 37) dX10_thinnestFrost_37 (fun x12 => ?_)
    refine j_if_eq (pc := 38) 46 dX10_thinnestFrost_38 (by decide) ?_ ?_
    · exact J.sub [0, 1] rfl ((j_X10_thinnestFrost_B46 hL25) r0 v2 z)
    refine j_aload_n (pc := 41) 0 dX10_thinnestFrost_41 rfl rfl ?_
    refine j_iload_n (pc := 42) 1 dX10_thinnestFrost_42 rfl rfl ?_
    refine j_isC (fun h14 => ?_)
    refine j_callV_V (pc := 43) (as := [.int v2]) (mc2 := 0) (ms2 := 0) (ct_X10_reach _ _ _) h14 rfl cw_X10_thinnestFrost_69 dX10_thinnestFrost_43 (Nat.le_of_ble_eq_true rfl) rfl (by decide) (by decide) (fun _ z13 => ?_)
    exact J.sub [0, 1] rfl ((j_X10_thinnestFrost_B46 hL25) r0 v2 z13)
theorem ct_X10_thinnestFrost {l : Launch} {Γ : Am} (r0 : Nat) (r1 : Nat) (z : Hp) : Ct l Γ yX10_thinnestFrost mi_X10_thinnestFrost cvI [.ref (mB Γ + r0), .ref (mB Γ + r1)] z (m_X10_thinnestFrost r0 r1 z) := by
  refine Ct.ofJ (by decide) ⟨rfl, rfl⟩ (Nat.le_of_ble_eq_true rfl) ?_
  unfold m_X10_thinnestFrost
  show J l Γ mi_X10_thinnestFrost cvI 0 0 0 [(0, .ref (mB Γ + r0)), (1, .ref (mB Γ + r1))] [] z _
  refine j_aload_n (pc := 0) 0 dX10_thinnestFrost_0 rfl rfl ?_
  refine j_aload_n (pc := 1) 1 dX10_thinnestFrost_1 rfl rfl ?_
  refine j_isC (fun h16 => ?_)
  refine j_callV_V (pc := 2) (as := [.ref (mB Γ + r1)]) (mc2 := 0) (ms2 := 0) (ct_X10_look _ _ _) h16 rfl cw_X10_thinnestFrost_47 dX10_thinnestFrost_2 (Nat.le_of_ble_eq_true rfl) rfl (by decide) (by decide) (fun _ z15 => ?_)
  refine j_aload_n (pc := 5) 0 dX10_thinnestFrost_5 rfl rfl ?_
  refine j_getR (pc := 6) ok_X10 (by decide) rfl w_462 dX10_thinnestFrost_6 (fun a17 => ?_)
  refine j_iconst (pc := 9) (v := 0) dX10_thinnestFrost_9 (by decide) ?_
  refine j_callS_V (pc := 10) (as := [.ref (mB Γ + a17), .int 0]) (mc2 := 0) (ms2 := 0) (ct_J7_fill_53178 _ _ _) cw_X10_thinnestFrost_51 dX10_thinnestFrost_10 (Nat.le_of_ble_eq_true rfl) rfl (by decide) (by decide) (fun _ z18 => ?_)
  refine j_aload_n (pc := 13) 0 dX10_thinnestFrost_13 rfl rfl ?_
  refine j_iconst (pc := 14) (v := 0) dX10_thinnestFrost_14 (by decide) ?_
  refine j_putI (pc := 15) ok_X10 (by decide) rfl w_465 (Or.inl rfl) rfl rfl dX10_thinnestFrost_15 (fun z19 => ?_)
  refine j_aload_n (pc := 18) 0 dX10_thinnestFrost_18 rfl rfl ?_
  refine j_iconst (pc := 19) (v := 0) dX10_thinnestFrost_19 (by decide) ?_
  refine j_putI (pc := 20) ok_X10 (by decide) rfl w_466 (Or.inl rfl) rfl rfl dX10_thinnestFrost_20 (fun z20 => ?_)
  refine j_iconst (pc := 23) (v := 0) dX10_thinnestFrost_23 (by decide) ?_
  refine j_istore_n (pc := 24) (lv2 := [(2, .int 0), (0, .ref (mB Γ + r0)), (1, .ref (mB Γ + r1))]) dX10_thinnestFrost_24 rfl (by decide) rfl ?_
  exact J.sub [1, 0] rfl ((j_X10_thinnestFrost_L25 j_X10_thinnestFrost_B52 FU) r0 0 z20)
theorem dX10_come_0 : decode cX10_come 0 = .ok (.aload_n 0, 1) := by decide +kernel
theorem dX10_come_1 : decode cX10_come 1 = .ok (.getfield 34, 3) := by decide +kernel
theorem dX10_come_4 : decode cX10_come 4 = .ok (.iload_n 1, 1) := by decide +kernel
theorem dX10_come_5 : decode cX10_come 5 = .ok (.iaload, 1) := by decide +kernel
theorem dX10_come_6 : decode cX10_come 6 = .ok (.iconst (-1), 1) := by decide +kernel
theorem dX10_come_7 : decode cX10_come 7 = .ok (.if_icmp .ne 40, 3) := by decide +kernel
theorem dX10_come_10 : decode cX10_come 10 = .ok (.aload_n 0, 1) := by decide +kernel
theorem dX10_come_11 : decode cX10_come 11 = .ok (.getfield 27, 3) := by decide +kernel
theorem dX10_come_14 : decode cX10_come 14 = .ok (.sipush 288, 3) := by decide +kernel
theorem dX10_come_17 : decode cX10_come 17 = .ok (.if_icmp .ge 30, 3) := by decide +kernel
theorem dX10_come_20 : decode cX10_come 20 = .ok (.aload_n 0, 1) := by decide +kernel
theorem dX10_come_21 : decode cX10_come 21 = .ok (.getfield 34, 3) := by decide +kernel
theorem dX10_come_24 : decode cX10_come 24 = .ok (.iload_n 1, 1) := by decide +kernel
theorem dX10_come_25 : decode cX10_come 25 = .ok (.iload_n 2, 1) := by decide +kernel
theorem dX10_come_26 : decode cX10_come 26 = .ok (.iastore, 1) := by decide +kernel
theorem dX10_come_27 : decode cX10_come 27 = .ok (.aload_n 0, 1) := by decide +kernel
theorem dX10_come_28 : decode cX10_come 28 = .ok (.getfield 21, 3) := by decide +kernel
theorem dX10_come_31 : decode cX10_come 31 = .ok (.aload_n 0, 1) := by decide +kernel
theorem dX10_come_32 : decode cX10_come 32 = .ok (.getfield 27, 3) := by decide +kernel
theorem dX10_come_35 : decode cX10_come 35 = .ok (.iload_n 1, 1) := by decide +kernel
theorem dX10_come_36 : decode cX10_come 36 = .ok (.iastore, 1) := by decide +kernel
theorem dX10_come_37 : decode cX10_come 37 = .ok (.aload_n 0, 1) := by decide +kernel
theorem dX10_come_38 : decode cX10_come 38 = .ok (.dup, 1) := by decide +kernel
theorem dX10_come_39 : decode cX10_come 39 = .ok (.getfield 27, 3) := by decide +kernel
theorem dX10_come_42 : decode cX10_come 42 = .ok (.iconst 1, 1) := by decide +kernel
theorem dX10_come_43 : decode cX10_come 43 = .ok (.iadd, 1) := by decide +kernel
theorem dX10_come_44 : decode cX10_come 44 = .ok (.putfield 27, 3) := by decide +kernel
theorem dX10_come_47 : decode cX10_come 47 = .ok (.return_, 1) := by decide +kernel
theorem ct_X10_come {l : Launch} {Γ : Am} (r0 : Nat) (v1 : Int32) (v2 : Int32) (z : Hp) : Ct l Γ yX10_come mi_X10_come cvV [.ref (mB Γ + r0), .int v1, .int v2] z (m_X10_come r0 v1 v2 z) := by
  refine Ct.ofJ (by decide) ⟨rfl, rfl⟩ (Nat.le_of_ble_eq_true rfl) ?_
  unfold m_X10_come
  show J l Γ mi_X10_come cvV 0 0 0 [(0, .ref (mB Γ + r0)), (1, .int v1), (2, .int v2)] [] z _
  refine j_aload_n (pc := 0) 0 dX10_come_0 rfl rfl ?_
  refine j_getR (pc := 1) ok_X10 (by decide) rfl w_467 dX10_come_1 (fun a1 => ?_)
  refine j_iload_n (pc := 4) 1 dX10_come_4 rfl rfl ?_
  refine j_iaload (pc := 5) dX10_come_5 (fun x2 => ?_)
  refine j_iconst (pc := 6) (v := (-1)) dX10_come_6 (by decide) ?_
  refine j_icmp_ne (pc := 7) 47 dX10_come_7 (by decide) ?_ ?_
  · exact j_return (pc := 47) dX10_come_47 rfl
  refine j_aload_n (pc := 10) 0 dX10_come_10 rfl rfl ?_
  refine j_getI (pc := 11) ok_X10 (by decide) rfl w_465 dX10_come_11 (fun x3 => ?_)
  refine j_sipush (pc := 14) (v := 288) dX10_come_14 (by decide) ?_
  refine j_icmp_ge (pc := 17) 47 dX10_come_17 (by decide) ?_ ?_
  · exact j_return (pc := 47) dX10_come_47 rfl
  refine j_aload_n (pc := 20) 0 dX10_come_20 rfl rfl ?_
  refine j_getR (pc := 21) ok_X10 (by decide) rfl w_467 dX10_come_21 (fun a4 => ?_)
  refine j_iload_n (pc := 24) 1 dX10_come_24 rfl rfl ?_
  refine j_iload_n (pc := 25) 2 dX10_come_25 rfl rfl ?_
  refine j_iastore (pc := 26) dX10_come_26 (fun z5 => ?_)
  refine j_aload_n (pc := 27) 0 dX10_come_27 rfl rfl ?_
  refine j_getR (pc := 28) ok_X10 (by decide) rfl w_463 dX10_come_28 (fun a6 => ?_)
  refine j_aload_n (pc := 31) 0 dX10_come_31 rfl rfl ?_
  refine j_getI (pc := 32) ok_X10 (by decide) rfl w_465 dX10_come_32 (fun x7 => ?_)
  refine j_iload_n (pc := 35) 1 dX10_come_35 rfl rfl ?_
  refine j_iastore (pc := 36) dX10_come_36 (fun z8 => ?_)
  refine j_aload_n (pc := 37) 0 dX10_come_37 rfl rfl ?_
  refine j_dup (pc := 38) dX10_come_38 rfl ?_
  refine j_getI (pc := 39) ok_X10 (by decide) rfl w_465 dX10_come_39 (fun x9 => ?_)
  refine j_iconst (pc := 42) (v := 1) dX10_come_42 (by decide) ?_
  refine j_iadd (pc := 43) dX10_come_43 ?_
  refine j_putI (pc := 44) ok_X10 (by decide) rfl w_465 (Or.inl rfl) rfl rfl dX10_come_44 (fun z10 => ?_)
  exact j_return (pc := 47) dX10_come_47 rfl
theorem dX10_goOnFromInside_0 : decode cX10_goOnFromInside 0 = .ok (.aload_n 0, 1) := by decide +kernel
theorem dX10_goOnFromInside_1 : decode cX10_goOnFromInside 1 = .ok (.getfield 37, 3) := by decide +kernel
theorem dX10_goOnFromInside_4 : decode cX10_goOnFromInside 4 = .ok (.iload_n 1, 1) := by decide +kernel
theorem dX10_goOnFromInside_5 : decode cX10_goOnFromInside 5 = .ok (.iaload, 1) := by decide +kernel
theorem dX10_goOnFromInside_6 : decode cX10_goOnFromInside 6 = .ok (.ifCond .ne 13, 3) := by decide +kernel
theorem dX10_goOnFromInside_9 : decode cX10_goOnFromInside 9 = .ok (.aload_n 0, 1) := by decide +kernel
theorem dX10_goOnFromInside_10 : decode cX10_goOnFromInside 10 = .ok (.sipush 144, 3) := by decide +kernel
theorem dX10_goOnFromInside_13 : decode cX10_goOnFromInside 13 = .ok (.iload_n 1, 1) := by decide +kernel
theorem dX10_goOnFromInside_14 : decode cX10_goOnFromInside 14 = .ok (.iadd, 1) := by decide +kernel
theorem dX10_goOnFromInside_15 : decode cX10_goOnFromInside 15 = .ok (.iload_n 1, 1) := by decide +kernel
theorem dX10_goOnFromInside_16 : decode cX10_goOnFromInside 16 = .ok (.invokevirtual 84, 3) := by decide +kernel
theorem dX10_goOnFromInside_19 : decode cX10_goOnFromInside 19 = .ok (.iconst 0, 1) := by decide +kernel
theorem dX10_goOnFromInside_20 : decode cX10_goOnFromInside 20 = .ok (.istore_n 2, 1) := by decide +kernel
theorem dX10_goOnFromInside_21 : decode cX10_goOnFromInside 21 = .ok (.iload_n 2, 1) := by decide +kernel
theorem dX10_goOnFromInside_22 : decode cX10_goOnFromInside 22 = .ok (.iconst 4, 1) := by decide +kernel
theorem dX10_goOnFromInside_23 : decode cX10_goOnFromInside 23 = .ok (.if_icmp .ge 45, 3) := by decide +kernel
theorem dX10_goOnFromInside_26 : decode cX10_goOnFromInside 26 = .ok (.iload_n 1, 1) := by decide +kernel
theorem dX10_goOnFromInside_27 : decode cX10_goOnFromInside 27 = .ok (.iload_n 2, 1) := by decide +kernel
theorem dX10_goOnFromInside_28 : decode cX10_goOnFromInside 28 = .ok (.invokestatic 65, 3) := by decide +kernel
theorem dX10_goOnFromInside_31 : decode cX10_goOnFromInside 31 = .ok (.istore_n 3, 1) := by decide +kernel
theorem dX10_goOnFromInside_32 : decode cX10_goOnFromInside 32 = .ok (.iload_n 3, 1) := by decide +kernel
theorem dX10_goOnFromInside_33 : decode cX10_goOnFromInside 33 = .ok (.iconst (-1), 1) := by decide +kernel
theorem dX10_goOnFromInside_34 : decode cX10_goOnFromInside 34 = .ok (.if_icmp .eq 28, 3) := by decide +kernel
theorem dX10_goOnFromInside_37 : decode cX10_goOnFromInside 37 = .ok (.aload_n 0, 1) := by decide +kernel
theorem dX10_goOnFromInside_38 : decode cX10_goOnFromInside 38 = .ok (.getfield 40, 3) := by decide +kernel
theorem dX10_goOnFromInside_41 : decode cX10_goOnFromInside 41 = .ok (.iconst 4, 1) := by decide +kernel
theorem dX10_goOnFromInside_42 : decode cX10_goOnFromInside 42 = .ok (.iload_n 3, 1) := by decide +kernel
theorem dX10_goOnFromInside_43 : decode cX10_goOnFromInside 43 = .ok (.imul, 1) := by decide +kernel
theorem dX10_goOnFromInside_44 : decode cX10_goOnFromInside 44 = .ok (.iload_n 2, 1) := by decide +kernel
theorem dX10_goOnFromInside_45 : decode cX10_goOnFromInside 45 = .ok (.iconst 1, 1) := by decide +kernel
theorem dX10_goOnFromInside_46 : decode cX10_goOnFromInside 46 = .ok (.ixor, 1) := by decide +kernel
theorem dX10_goOnFromInside_47 : decode cX10_goOnFromInside 47 = .ok (.iadd, 1) := by decide +kernel
theorem dX10_goOnFromInside_48 : decode cX10_goOnFromInside 48 = .ok (.iaload, 1) := by decide +kernel
theorem dX10_goOnFromInside_49 : decode cX10_goOnFromInside 49 = .ok (.ifCond .eq 13, 3) := by decide +kernel
theorem dX10_goOnFromInside_52 : decode cX10_goOnFromInside 52 = .ok (.aload_n 0, 1) := by decide +kernel
theorem dX10_goOnFromInside_53 : decode cX10_goOnFromInside 53 = .ok (.sipush 144, 3) := by decide +kernel
theorem dX10_goOnFromInside_56 : decode cX10_goOnFromInside 56 = .ok (.iload_n 3, 1) := by decide +kernel
theorem dX10_goOnFromInside_57 : decode cX10_goOnFromInside 57 = .ok (.iadd, 1) := by decide +kernel
theorem dX10_goOnFromInside_58 : decode cX10_goOnFromInside 58 = .ok (.iload_n 1, 1) := by decide +kernel
theorem dX10_goOnFromInside_59 : decode cX10_goOnFromInside 59 = .ok (.invokevirtual 84, 3) := by decide +kernel
theorem dX10_goOnFromInside_62 : decode cX10_goOnFromInside 62 = .ok (.iinc 2 1, 3) := by decide +kernel
theorem dX10_goOnFromInside_65 : decode cX10_goOnFromInside 65 = .ok (.goto (-44), 3) := by decide +kernel
theorem dX10_goOnFromInside_68 : decode cX10_goOnFromInside 68 = .ok (.return_, 1) := by decide +kernel
theorem cw_X10_goOnFromInside_65 : CwSN mi_X10_goOnFromInside mi_X11_beside yX11_beside 65 2 "FrostRing" := ⟨⟨by decide +kernel, w_860, w_95, w_861⟩, ⟨by decide, by decide⟩, by decide +kernel, by decide, by decide⟩
theorem cw_X10_goOnFromInside_84 : CwV mi_X10_goOnFromInside mi_X10_come yX10_come RX10 84 2 := ⟨⟨w_942, w_944, w_28, w_105, w_945⟩, ⟨by decide, by decide⟩, by decide +kernel, by decide, by decide⟩
theorem j_X10_goOnFromInside_B62 {l : Launch} {Γ : Am} {k21 : Nat → Int32 → Int32 → Hp → Option (Unit × Hp)} (hL21 : ∀ (r0 : Nat) (v1 : Int32) (v2 : Int32) (z : Hp), J l Γ mi_X10_goOnFromInside cvV 0 0 21 [(0, .ref (mB Γ + r0)), (1, .int v1), (2, .int v2)] [] z (k21 r0 v1 v2 z)) : ∀ (r0 : Nat) (v1 : Int32) (v2 : Int32) (z : Hp), J l Γ mi_X10_goOnFromInside cvV 0 0 62 [(0, .ref (mB Γ + r0)), (1, .int v1), (2, .int v2)] [] z (m_X10_goOnFromInside_B62 k21 r0 v1 v2 z) := by
  intro r0 v1 v2 z
  unfold m_X10_goOnFromInside_B62
  refine j_iinc (pc := 62) (n0 := 2) (v0 := v2 + 1) (lv2 := [(2, .int (v2 + 1)), (0, .ref (mB Γ + r0)), (1, .int v1)]) dX10_goOnFromInside_62 rfl rfl (by decide) rfl ?_
  refine j_goto (pc := 65) 21 dX10_goOnFromInside_65 (by decide) ?_
  exact J.sub [1, 2, 0] rfl (hL21 r0 v1 (v2 + 1) z)
theorem j_X10_goOnFromInside_L21 {l : Launch} {Γ : Am}   : ∀ (f : Nat), ∀ (r0 : Nat) (v1 : Int32) (v2 : Int32) (z : Hp), J l Γ mi_X10_goOnFromInside cvV 0 0 21 [(0, .ref (mB Γ + r0)), (1, .int v1), (2, .int v2)] [] z (m_X10_goOnFromInside_L21  f r0 v1 v2 z) := by
  intro f
  induction f with
  | zero => intro r0 v1 v2 z; exact J.none
  | succ f hL21 =>
    intro r0 v1 v2 z
    rw [m_X10_goOnFromInside_L21]
    refine j_iload_n (pc := 21) 2 dX10_goOnFromInside_21 rfl rfl ?_
    refine j_iconst (pc := 22) (v := 4) dX10_goOnFromInside_22 (by decide) ?_
    refine j_icmp_ge (pc := 23) 68 dX10_goOnFromInside_23 (by decide) ?_ ?_
    · exact j_return (pc := 68) dX10_goOnFromInside_68 rfl
    refine j_iload_n (pc := 26) 1 dX10_goOnFromInside_26 rfl rfl ?_
    refine j_iload_n (pc := 27) 2 dX10_goOnFromInside_27 rfl rfl ?_
    refine j_callSN_I (pc := 28) (as := [.int v1, .int v2]) (mc2 := 0) (ms2 := 0) (ct_X11_beside _ _ _) cw_X10_goOnFromInside_65 dX10_goOnFromInside_28 (Nat.le_of_ble_eq_true rfl) rfl (by decide) (by decide) (fun x2 z1 => ?_)
    refine j_istore_n (pc := 31) (lv2 := [(3, .int x2), (0, .ref (mB Γ + r0)), (1, .int v1), (2, .int v2)]) dX10_goOnFromInside_31 rfl (by decide) rfl ?_
    refine j_iload_n (pc := 32) 0 dX10_goOnFromInside_32 rfl rfl ?_
    refine j_iconst (pc := 33) (v := (-1)) dX10_goOnFromInside_33 (by decide) ?_
    refine j_icmp_eq (pc := 34) 62 dX10_goOnFromInside_34 (by decide) ?_ ?_
    · exact J.sub [1, 2, 3] rfl ((j_X10_goOnFromInside_B62 hL21) r0 v1 v2 z1)
    refine j_aload_n (pc := 37) 1 dX10_goOnFromInside_37 rfl rfl ?_
    refine j_getR (pc := 38) ok_X10 (by decide) rfl w_469 dX10_goOnFromInside_38 (fun a3 => ?_)
    refine j_iconst (pc := 41) (v := 4) dX10_goOnFromInside_41 (by decide) ?_
    refine j_iload_n (pc := 42) 0 dX10_goOnFromInside_42 rfl rfl ?_
    refine j_imul (pc := 43) dX10_goOnFromInside_43 ?_
    refine j_iload_n (pc := 44) 3 dX10_goOnFromInside_44 rfl rfl ?_
    refine j_iconst (pc := 45) (v := 1) dX10_goOnFromInside_45 (by decide) ?_
    refine j_ixor (pc := 46) dX10_goOnFromInside_46 ?_
    refine j_iadd (pc := 47) dX10_goOnFromInside_47 ?_
    refine j_iaload (pc := 48) dX10_goOnFromInside_48 (fun x4 => ?_)
    refine j_if_eq (pc := 49) 62 dX10_goOnFromInside_49 (by decide) ?_ ?_
    · exact J.sub [1, 2, 3] rfl ((j_X10_goOnFromInside_B62 hL21) r0 v1 v2 z1)
    refine j_aload_n (pc := 52) 1 dX10_goOnFromInside_52 rfl rfl ?_
    refine j_sipush (pc := 53) (v := 144) dX10_goOnFromInside_53 (by decide) ?_
    refine j_iload_n (pc := 56) 0 dX10_goOnFromInside_56 rfl rfl ?_
    refine j_iadd (pc := 57) dX10_goOnFromInside_57 ?_
    refine j_iload_n (pc := 58) 2 dX10_goOnFromInside_58 rfl rfl ?_
    refine j_isC (fun h6 => ?_)
    refine j_callV_V (pc := 59) (as := [.int (144 + x2), .int v1]) (mc2 := 0) (ms2 := 0) (ct_X10_come _ _ _ _) h6 rfl cw_X10_goOnFromInside_84 dX10_goOnFromInside_59 (Nat.le_of_ble_eq_true rfl) rfl (by decide) (by decide) (fun _ z5 => ?_)
    exact J.sub [1, 2, 3] rfl ((j_X10_goOnFromInside_B62 hL21) r0 v1 v2 z5)
theorem j_X10_goOnFromInside_B19 {l : Launch} {Γ : Am}   : ∀ (r0 : Nat) (v1 : Int32) (z : Hp), J l Γ mi_X10_goOnFromInside cvV 0 0 19 [(0, .ref (mB Γ + r0)), (1, .int v1)] [] z (m_X10_goOnFromInside_B19  r0 v1 z) := by
  intro r0 v1 z
  unfold m_X10_goOnFromInside_B19
  refine j_iconst (pc := 19) (v := 0) dX10_goOnFromInside_19 (by decide) ?_
  refine j_istore_n (pc := 20) (lv2 := [(2, .int 0), (0, .ref (mB Γ + r0)), (1, .int v1)]) dX10_goOnFromInside_20 rfl (by decide) rfl ?_
  exact J.sub [1, 2, 0] rfl ((j_X10_goOnFromInside_L21 FU) r0 v1 0 z)
theorem ct_X10_goOnFromInside {l : Launch} {Γ : Am} (r0 : Nat) (v1 : Int32) (z : Hp) : Ct l Γ yX10_goOnFromInside mi_X10_goOnFromInside cvV [.ref (mB Γ + r0), .int v1] z (m_X10_goOnFromInside r0 v1 z) := by
  refine Ct.ofJ (by decide) ⟨rfl, rfl⟩ (Nat.le_of_ble_eq_true rfl) ?_
  unfold m_X10_goOnFromInside
  show J l Γ mi_X10_goOnFromInside cvV 0 0 0 [(0, .ref (mB Γ + r0)), (1, .int v1)] [] z _
  refine j_aload_n (pc := 0) 0 dX10_goOnFromInside_0 rfl rfl ?_
  refine j_getR (pc := 1) ok_X10 (by decide) rfl w_468 dX10_goOnFromInside_1 (fun a7 => ?_)
  refine j_iload_n (pc := 4) 1 dX10_goOnFromInside_4 rfl rfl ?_
  refine j_iaload (pc := 5) dX10_goOnFromInside_5 (fun x8 => ?_)
  refine j_if_ne (pc := 6) 19 dX10_goOnFromInside_6 (by decide) ?_ ?_
  · exact J.sub [0, 1] rfl (j_X10_goOnFromInside_B19 r0 v1 z)
  refine j_aload_n (pc := 9) 0 dX10_goOnFromInside_9 rfl rfl ?_
  refine j_sipush (pc := 10) (v := 144) dX10_goOnFromInside_10 (by decide) ?_
  refine j_iload_n (pc := 13) 1 dX10_goOnFromInside_13 rfl rfl ?_
  refine j_iadd (pc := 14) dX10_goOnFromInside_14 ?_
  refine j_iload_n (pc := 15) 1 dX10_goOnFromInside_15 rfl rfl ?_
  refine j_isC (fun h10 => ?_)
  refine j_callV_V (pc := 16) (as := [.int (144 + v1), .int v1]) (mc2 := 0) (ms2 := 0) (ct_X10_come _ _ _ _) h10 rfl cw_X10_goOnFromInside_84 dX10_goOnFromInside_16 (Nat.le_of_ble_eq_true rfl) rfl (by decide) (by decide) (fun _ z9 => ?_)
  exact J.sub [0, 1] rfl (j_X10_goOnFromInside_B19 r0 v1 z9)
