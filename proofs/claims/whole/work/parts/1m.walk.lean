theorem dX12_lacks_0 : decode cX12_lacks 0 = .ok (.iload_n 1, 1) := by decide +kernel
theorem dX12_lacks_1 : decode cX12_lacks 1 = .ok (.i2l, 1) := by decide +kernel
theorem dX12_lacks_2 : decode cX12_lacks 2 = .ok (.lconst 0, 1) := by decide +kernel
theorem dX12_lacks_3 : decode cX12_lacks 3 = .ok (.aload_n 0, 1) := by decide +kernel
theorem dX12_lacks_4 : decode cX12_lacks 4 = .ok (.getfield 13, 3) := by decide +kernel
theorem dX12_lacks_7 : decode cX12_lacks 7 = .ok (.iconst 4, 1) := by decide +kernel
theorem dX12_lacks_8 : decode cX12_lacks 8 = .ok (.iaload, 1) := by decide +kernel
theorem dX12_lacks_9 : decode cX12_lacks 9 = .ok (.iconst 1, 1) := by decide +kernel
theorem dX12_lacks_10 : decode cX12_lacks 10 = .ok (.isub, 1) := by decide +kernel
theorem dX12_lacks_11 : decode cX12_lacks 11 = .ok (.i2l, 1) := by decide +kernel
theorem dX12_lacks_12 : decode cX12_lacks 12 = .ok (.invokestatic 110, 3) := by decide +kernel
theorem dX12_lacks_15 : decode cX12_lacks 15 = .ok (.ifCond .ne 5, 3) := by decide +kernel
theorem dX12_lacks_18 : decode cX12_lacks 18 = .ok (.iconst (-1), 1) := by decide +kernel
theorem dX12_lacks_19 : decode cX12_lacks 19 = .ok (.ireturn, 1) := by decide +kernel
theorem dX12_lacks_20 : decode cX12_lacks 20 = .ok (.sipush 750, 3) := by decide +kernel
theorem dX12_lacks_23 : decode cX12_lacks 23 = .ok (.bipush 10, 2) := by decide +kernel
theorem dX12_lacks_25 : decode cX12_lacks 25 = .ok (.iload_n 1, 1) := by decide +kernel
theorem dX12_lacks_26 : decode cX12_lacks 26 = .ok (.imul, 1) := by decide +kernel
theorem dX12_lacks_27 : decode cX12_lacks 27 = .ok (.iadd, 1) := by decide +kernel
theorem dX12_lacks_28 : decode cX12_lacks 28 = .ok (.istore_n 2, 1) := by decide +kernel
theorem dX12_lacks_29 : decode cX12_lacks 29 = .ok (.iconst 0, 1) := by decide +kernel
theorem dX12_lacks_30 : decode cX12_lacks 30 = .ok (.istore_n 3, 1) := by decide +kernel
theorem dX12_lacks_31 : decode cX12_lacks 31 = .ok (.iconst 0, 1) := by decide +kernel
theorem dX12_lacks_32 : decode cX12_lacks 32 = .ok (.istore 4, 2) := by decide +kernel
theorem dX12_lacks_34 : decode cX12_lacks 34 = .ok (.iload 4, 2) := by decide +kernel
theorem dX12_lacks_36 : decode cX12_lacks 36 = .ok (.aload_n 0, 1) := by decide +kernel
theorem dX12_lacks_37 : decode cX12_lacks 37 = .ok (.getfield 13, 3) := by decide +kernel
theorem dX12_lacks_40 : decode cX12_lacks 40 = .ok (.iload_n 2, 1) := by decide +kernel
theorem dX12_lacks_41 : decode cX12_lacks 41 = .ok (.iaload, 1) := by decide +kernel
theorem dX12_lacks_42 : decode cX12_lacks 42 = .ok (.if_icmp .ge 35, 3) := by decide +kernel
theorem dX12_lacks_45 : decode cX12_lacks 45 = .ok (.iload_n 3, 1) := by decide +kernel
theorem dX12_lacks_46 : decode cX12_lacks 46 = .ok (.aload_n 0, 1) := by decide +kernel
theorem dX12_lacks_47 : decode cX12_lacks 47 = .ok (.iload_n 2, 1) := by decide +kernel
theorem dX12_lacks_48 : decode cX12_lacks 48 = .ok (.iconst 1, 1) := by decide +kernel
theorem dX12_lacks_49 : decode cX12_lacks 49 = .ok (.iadd, 1) := by decide +kernel
theorem dX12_lacks_50 : decode cX12_lacks 50 = .ok (.iconst 3, 1) := by decide +kernel
theorem dX12_lacks_51 : decode cX12_lacks 51 = .ok (.iload 4, 2) := by decide +kernel
theorem dX12_lacks_53 : decode cX12_lacks 53 = .ok (.imul, 1) := by decide +kernel
theorem dX12_lacks_54 : decode cX12_lacks 54 = .ok (.iadd, 1) := by decide +kernel
theorem dX12_lacks_55 : decode cX12_lacks 55 = .ok (.invokevirtual 395, 3) := by decide +kernel
theorem dX12_lacks_58 : decode cX12_lacks 58 = .ok (.ifCond .eq 7, 3) := by decide +kernel
theorem dX12_lacks_61 : decode cX12_lacks 61 = .ok (.iconst 0, 1) := by decide +kernel
theorem dX12_lacks_62 : decode cX12_lacks 62 = .ok (.goto 7, 3) := by decide +kernel
theorem dX12_lacks_65 : decode cX12_lacks 65 = .ok (.iconst 1, 1) := by decide +kernel
theorem dX12_lacks_66 : decode cX12_lacks 66 = .ok (.iload 4, 2) := by decide +kernel
theorem dX12_lacks_68 : decode cX12_lacks 68 = .ok (.ishl, 1) := by decide +kernel
theorem dX12_lacks_69 : decode cX12_lacks 69 = .ok (.ior, 1) := by decide +kernel
theorem dX12_lacks_70 : decode cX12_lacks 70 = .ok (.istore_n 3, 1) := by decide +kernel
theorem dX12_lacks_71 : decode cX12_lacks 71 = .ok (.iinc 4 1, 3) := by decide +kernel
theorem dX12_lacks_74 : decode cX12_lacks 74 = .ok (.goto (-40), 3) := by decide +kernel
theorem dX12_lacks_77 : decode cX12_lacks 77 = .ok (.iload_n 3, 1) := by decide +kernel
theorem dX12_lacks_78 : decode cX12_lacks 78 = .ok (.ireturn, 1) := by decide +kernel
theorem cw_X12_lacks_395 : CwV mi_X12_lacks mi_X12_condHolds yX12_condHolds RX12 395 1 := ⟨⟨w_1660, w_1662, w_87, w_108, w_1663⟩, ⟨by decide, by decide⟩, by decide +kernel, by decide, by decide⟩
theorem cw_X12_lacks_110 : CwS mi_X12_lacks mi_X12_in yX12_in 110 3 := ⟨⟨w_1365, w_1366, w_108, w_1367⟩, ⟨by decide, by decide⟩, by decide +kernel, by decide, by decide⟩
theorem j_X12_lacks_B69 {l : Launch} {Γ : Am} {k34 : Nat → Int32 → Int32 → Int32 → Hp → Option (Int32 × Hp)} (hL34 : ∀ (r0 : Nat) (v2 : Int32) (v3 : Int32) (v4 : Int32) (z : Hp), J l Γ mi_X12_lacks cvI 0 0 34 [(0, .ref (mB Γ + r0)), (2, .int v2), (3, .int v3), (4, .int v4)] [] z (k34 r0 v2 v3 v4 z)) : ∀ (r0 : Nat) (v2 : Int32) (v4 : Int32) (t0 : Int32) (t1 : Int32) (z : Hp), J l Γ mi_X12_lacks cvI 0 0 69 [(0, .ref (mB Γ + r0)), (2, .int v2), (4, .int v4)] [.int t0, .int t1] z (m_X12_lacks_B69 k34 r0 v2 v4 t0 t1 z) := by
  intro r0 v2 v4 t0 t1 z
  unfold m_X12_lacks_B69
  refine j_ior (pc := 69) dX12_lacks_69 ?_
  refine j_istore_n (pc := 70) (lv2 := [(3, .int (t1 ||| t0)), (0, .ref (mB Γ + r0)), (2, .int v2), (4, .int v4)]) dX12_lacks_70 rfl (by decide) rfl ?_
  refine j_iinc (pc := 71) (n0 := 3) (v0 := v4 + 1) (lv2 := [(4, .int (v4 + 1)), (3, .int (t1 ||| t0)), (0, .ref (mB Γ + r0)), (2, .int v2)]) dX12_lacks_71 rfl rfl (by decide) rfl ?_
  refine j_goto (pc := 74) 34 dX12_lacks_74 (by decide) ?_
  exact J.sub [2, 3, 1, 0] rfl (hL34 r0 v2 (t1 ||| t0) (v4 + 1) z)
theorem j_X12_lacks_L34 {l : Launch} {Γ : Am}   : ∀ (f : Nat), ∀ (r0 : Nat) (v2 : Int32) (v3 : Int32) (v4 : Int32) (z : Hp), J l Γ mi_X12_lacks cvI 0 0 34 [(0, .ref (mB Γ + r0)), (2, .int v2), (3, .int v3), (4, .int v4)] [] z (m_X12_lacks_L34  f r0 v2 v3 v4 z) := by
  intro f
  induction f with
  | zero => intro r0 v2 v3 v4 z; exact J.none
  | succ f hL34 =>
    intro r0 v2 v3 v4 z
    rw [m_X12_lacks_L34]
    refine j_iload (pc := 34) 3 dX12_lacks_34 rfl ?_
    refine j_aload_n (pc := 36) 0 dX12_lacks_36 rfl rfl ?_
    refine j_getR (pc := 37) ok_X12 (by decide) rfl w_1239 dX12_lacks_37 (fun a1 => ?_)
    refine j_iload_n (pc := 40) 1 dX12_lacks_40 rfl rfl ?_
    refine j_iaload (pc := 41) dX12_lacks_41 (fun x2 => ?_)
    refine j_icmp_ge (pc := 42) 77 dX12_lacks_42 (by decide) ?_ ?_
    · refine j_iload_n (pc := 77) 2 dX12_lacks_77 rfl rfl ?_
      exact j_ireturn (pc := 78) dX12_lacks_78 rfl rfl
    refine j_iload_n (pc := 45) 2 dX12_lacks_45 rfl rfl ?_
    refine j_aload_n (pc := 46) 0 dX12_lacks_46 rfl rfl ?_
    refine j_iload_n (pc := 47) 1 dX12_lacks_47 rfl rfl ?_
    refine j_iconst (pc := 48) (v := 1) dX12_lacks_48 (by decide) ?_
    refine j_iadd (pc := 49) dX12_lacks_49 ?_
    refine j_iconst (pc := 50) (v := 3) dX12_lacks_50 (by decide) ?_
    refine j_iload (pc := 51) 3 dX12_lacks_51 rfl ?_
    refine j_imul (pc := 53) dX12_lacks_53 ?_
    refine j_iadd (pc := 54) dX12_lacks_54 ?_
    refine j_isC (fun h5 => ?_)
    refine j_callV_I (pc := 55) (as := [.int ((v2 + 1) + (3 * v4))]) (mc2 := 0) (ms2 := 0) (ct_X12_condHolds _ _ _) h5 rfl cw_X12_lacks_395 dX12_lacks_55 (Nat.le_of_ble_eq_true rfl) rfl (by decide) (by decide) (fun x4 z3 => ?_)
    refine j_if_eq (pc := 58) 65 dX12_lacks_58 (by decide) ?_ ?_
    · refine j_iconst (pc := 65) (v := 1) dX12_lacks_65 (by decide) ?_
      refine j_iload (pc := 66) 3 dX12_lacks_66 rfl ?_
      refine j_ishl (pc := 68) dX12_lacks_68 ?_
      exact J.sub [0, 1, 3] rfl ((j_X12_lacks_B69 hL34) r0 v2 v4 ((1 : Int32) <<< (v4 &&& 31)) v3 z3)
    refine j_iconst (pc := 61) (v := 0) dX12_lacks_61 (by decide) ?_
    refine j_goto (pc := 62) 69 dX12_lacks_62 (by decide) ?_
    exact J.sub [0, 1, 3] rfl ((j_X12_lacks_B69 hL34) r0 v2 v4 0 v3 z3)
theorem ct_X12_lacks {l : Launch} {Γ : Am} (r0 : Nat) (v1 : Int32) (z : Hp) : Ct l Γ yX12_lacks mi_X12_lacks cvI [.ref (mB Γ + r0), .int v1] z (m_X12_lacks r0 v1 z) := by
  refine Ct.ofJ (by decide) ⟨rfl, rfl⟩ (Nat.le_of_ble_eq_true rfl) ?_
  unfold m_X12_lacks
  show J l Γ mi_X12_lacks cvI 0 0 0 [(0, .ref (mB Γ + r0)), (1, .int v1)] [] z _
  refine j_iload_n (pc := 0) 1 dX12_lacks_0 rfl rfl ?_
  refine j_i2l (pc := 1) dX12_lacks_1 ?_
  refine j_lconst (pc := 2) (v := 0) dX12_lacks_2 (by decide) ?_
  refine j_aload_n (pc := 3) 0 dX12_lacks_3 rfl rfl ?_
  refine j_getR (pc := 4) ok_X12 (by decide) rfl w_1239 dX12_lacks_4 (fun a6 => ?_)
  refine j_iconst (pc := 7) (v := 4) dX12_lacks_7 (by decide) ?_
  refine j_iaload (pc := 8) dX12_lacks_8 (fun x7 => ?_)
  refine j_iconst (pc := 9) (v := 1) dX12_lacks_9 (by decide) ?_
  refine j_isub (pc := 10) dX12_lacks_10 ?_
  refine j_i2l (pc := 11) dX12_lacks_11 ?_
  refine j_callS_I (pc := 12) (as := [.long (Int32.toInt64 v1), .long 0, .long (Int32.toInt64 (x7 - 1))]) (mc2 := 0) (ms2 := 0) (ct_X12_in _ _ _ _) cw_X12_lacks_110 dX12_lacks_12 (Nat.le_of_ble_eq_true rfl) rfl (by decide) (by decide) (fun x9 z8 => ?_)
  refine j_if_ne (pc := 15) 20 dX12_lacks_15 (by decide) ?_ ?_
  · refine j_sipush (pc := 20) (v := 750) dX12_lacks_20 (by decide) ?_
    refine j_bipush (pc := 23) (v := 10) dX12_lacks_23 (by decide) ?_
    refine j_iload_n (pc := 25) 1 dX12_lacks_25 rfl rfl ?_
    refine j_imul (pc := 26) dX12_lacks_26 ?_
    refine j_iadd (pc := 27) dX12_lacks_27 ?_
    refine j_istore_n (pc := 28) (lv2 := [(2, .int (750 + (10 * v1))), (0, .ref (mB Γ + r0)), (1, .int v1)]) dX12_lacks_28 rfl (by decide) rfl ?_
    refine j_iconst (pc := 29) (v := 0) dX12_lacks_29 (by decide) ?_
    refine j_istore_n (pc := 30) (lv2 := [(3, .int 0), (2, .int (750 + (10 * v1))), (0, .ref (mB Γ + r0)), (1, .int v1)]) dX12_lacks_30 rfl (by decide) rfl ?_
    refine j_iconst (pc := 31) (v := 0) dX12_lacks_31 (by decide) ?_
    refine j_istore (pc := 32) (lv2 := [(4, .int 0), (3, .int 0), (2, .int (750 + (10 * v1))), (0, .ref (mB Γ + r0)), (1, .int v1)]) dX12_lacks_32 (by decide) rfl ?_
    exact J.sub [3, 2, 1, 0] rfl ((j_X12_lacks_L34 FU) r0 (750 + (10 * v1)) 0 0 z8)
  refine j_iconst (pc := 18) (v := (-1)) dX12_lacks_18 (by decide) ?_
  exact j_ireturn (pc := 19) dX12_lacks_19 rfl rfl
theorem dX12_mayDig_0 : decode cX12_mayDig 0 = .ok (.aload_n 0, 1) := by decide +kernel
theorem dX12_mayDig_1 : decode cX12_mayDig 1 = .ok (.getfield 13, 3) := by decide +kernel
theorem dX12_mayDig_4 : decode cX12_mayDig 4 = .ok (.iconst 4, 1) := by decide +kernel
theorem dX12_mayDig_5 : decode cX12_mayDig 5 = .ok (.iaload, 1) := by decide +kernel
theorem dX12_mayDig_6 : decode cX12_mayDig 6 = .ok (.ifCond .ne 7, 3) := by decide +kernel
theorem dX12_mayDig_9 : decode cX12_mayDig 9 = .ok (.iconst 1, 1) := by decide +kernel
theorem dX12_mayDig_10 : decode cX12_mayDig 10 = .ok (.goto 4, 3) := by decide +kernel
theorem dX12_mayDig_13 : decode cX12_mayDig 13 = .ok (.iconst 0, 1) := by decide +kernel
theorem dX12_mayDig_14 : decode cX12_mayDig 14 = .ok (.istore_n 1, 1) := by decide +kernel
theorem dX12_mayDig_15 : decode cX12_mayDig 15 = .ok (.iconst 0, 1) := by decide +kernel
theorem dX12_mayDig_16 : decode cX12_mayDig 16 = .ok (.istore_n 2, 1) := by decide +kernel
theorem dX12_mayDig_17 : decode cX12_mayDig 17 = .ok (.iload_n 2, 1) := by decide +kernel
theorem dX12_mayDig_18 : decode cX12_mayDig 18 = .ok (.aload_n 0, 1) := by decide +kernel
theorem dX12_mayDig_19 : decode cX12_mayDig 19 = .ok (.getfield 13, 3) := by decide +kernel
theorem dX12_mayDig_22 : decode cX12_mayDig 22 = .ok (.iconst 4, 1) := by decide +kernel
theorem dX12_mayDig_23 : decode cX12_mayDig 23 = .ok (.iaload, 1) := by decide +kernel
theorem dX12_mayDig_24 : decode cX12_mayDig 24 = .ok (.if_icmp .ge 27, 3) := by decide +kernel
theorem dX12_mayDig_27 : decode cX12_mayDig 27 = .ok (.iload_n 1, 1) := by decide +kernel
theorem dX12_mayDig_28 : decode cX12_mayDig 28 = .ok (.ifCond .ne 11, 3) := by decide +kernel
theorem dX12_mayDig_31 : decode cX12_mayDig 31 = .ok (.aload_n 0, 1) := by decide +kernel
theorem dX12_mayDig_32 : decode cX12_mayDig 32 = .ok (.iload_n 2, 1) := by decide +kernel
theorem dX12_mayDig_33 : decode cX12_mayDig 33 = .ok (.invokevirtual 398, 3) := by decide +kernel
theorem dX12_mayDig_36 : decode cX12_mayDig 36 = .ok (.ifCond .ne 7, 3) := by decide +kernel
theorem dX12_mayDig_39 : decode cX12_mayDig 39 = .ok (.iconst 1, 1) := by decide +kernel
theorem dX12_mayDig_40 : decode cX12_mayDig 40 = .ok (.goto 4, 3) := by decide +kernel
theorem dX12_mayDig_43 : decode cX12_mayDig 43 = .ok (.iconst 0, 1) := by decide +kernel
theorem dX12_mayDig_44 : decode cX12_mayDig 44 = .ok (.istore_n 1, 1) := by decide +kernel
theorem dX12_mayDig_45 : decode cX12_mayDig 45 = .ok (.iinc 2 1, 3) := by decide +kernel
theorem dX12_mayDig_48 : decode cX12_mayDig 48 = .ok (.goto (-31), 3) := by decide +kernel
theorem dX12_mayDig_51 : decode cX12_mayDig 51 = .ok (.iload_n 1, 1) := by decide +kernel
theorem dX12_mayDig_52 : decode cX12_mayDig 52 = .ok (.ireturn, 1) := by decide +kernel
theorem cw_X12_mayDig_398 : CwV mi_X12_mayDig mi_X12_lacks yX12_lacks RX12 398 1 := ⟨⟨w_1676, w_1657, w_1658, w_108, w_1659⟩, ⟨by decide, by decide⟩, by decide +kernel, by decide, by decide⟩
theorem j_X12_mayDig_B44 {l : Launch} {Γ : Am} {k17 : Nat → Int32 → Int32 → Hp → Option (Int32 × Hp)} (hL17 : ∀ (r0 : Nat) (v1 : Int32) (v2 : Int32) (z : Hp), J l Γ mi_X12_mayDig cvI 0 0 17 [(0, .ref (mB Γ + r0)), (1, .int v1), (2, .int v2)] [] z (k17 r0 v1 v2 z)) : ∀ (r0 : Nat) (v2 : Int32) (t0 : Int32) (z : Hp), J l Γ mi_X12_mayDig cvI 0 0 44 [(0, .ref (mB Γ + r0)), (2, .int v2)] [.int t0] z (m_X12_mayDig_B44 k17 r0 v2 t0 z) := by
  intro r0 v2 t0 z
  unfold m_X12_mayDig_B44
  refine j_istore_n (pc := 44) (lv2 := [(1, .int t0), (0, .ref (mB Γ + r0)), (2, .int v2)]) dX12_mayDig_44 rfl (by decide) rfl ?_
  refine j_iinc (pc := 45) (n0 := 2) (v0 := v2 + 1) (lv2 := [(2, .int (v2 + 1)), (1, .int t0), (0, .ref (mB Γ + r0))]) dX12_mayDig_45 rfl rfl (by decide) rfl ?_
  refine j_goto (pc := 48) 17 dX12_mayDig_48 (by decide) ?_
  exact J.sub [2, 1, 0] rfl (hL17 r0 t0 (v2 + 1) z)
theorem j_X12_mayDig_B39 {l : Launch} {Γ : Am} {k17 : Nat → Int32 → Int32 → Hp → Option (Int32 × Hp)} (hL17 : ∀ (r0 : Nat) (v1 : Int32) (v2 : Int32) (z : Hp), J l Γ mi_X12_mayDig cvI 0 0 17 [(0, .ref (mB Γ + r0)), (1, .int v1), (2, .int v2)] [] z (k17 r0 v1 v2 z)) : ∀ (r0 : Nat) (v2 : Int32) (z : Hp), J l Γ mi_X12_mayDig cvI 0 0 39 [(0, .ref (mB Γ + r0)), (2, .int v2)] [] z (m_X12_mayDig_B39 k17 r0 v2 z) := by
  intro r0 v2 z
  unfold m_X12_mayDig_B39
  refine j_iconst (pc := 39) (v := 1) dX12_mayDig_39 (by decide) ?_
  refine j_goto (pc := 40) 44 dX12_mayDig_40 (by decide) ?_
  exact J.sub [0, 1] rfl ((j_X12_mayDig_B44 hL17) r0 v2 1 z)
theorem j_X12_mayDig_L17 {l : Launch} {Γ : Am}   : ∀ (f : Nat), ∀ (r0 : Nat) (v1 : Int32) (v2 : Int32) (z : Hp), J l Γ mi_X12_mayDig cvI 0 0 17 [(0, .ref (mB Γ + r0)), (1, .int v1), (2, .int v2)] [] z (m_X12_mayDig_L17  f r0 v1 v2 z) := by
  intro f
  induction f with
  | zero => intro r0 v1 v2 z; exact J.none
  | succ f hL17 =>
    intro r0 v1 v2 z
    rw [m_X12_mayDig_L17]
    refine j_iload_n (pc := 17) 2 dX12_mayDig_17 rfl rfl ?_
    refine j_aload_n (pc := 18) 0 dX12_mayDig_18 rfl rfl ?_
    refine j_getR (pc := 19) ok_X12 (by decide) rfl w_1239 dX12_mayDig_19 (fun a1 => ?_)
    refine j_iconst (pc := 22) (v := 4) dX12_mayDig_22 (by decide) ?_
    refine j_iaload (pc := 23) dX12_mayDig_23 (fun x2 => ?_)
    refine j_icmp_ge (pc := 24) 51 dX12_mayDig_24 (by decide) ?_ ?_
    · refine j_iload_n (pc := 51) 1 dX12_mayDig_51 rfl rfl ?_
      exact j_zreturn (pc := 52) dX12_mayDig_52 rfl
    refine j_iload_n (pc := 27) 1 dX12_mayDig_27 rfl rfl ?_
    refine j_if_ne (pc := 28) 39 dX12_mayDig_28 (by decide) ?_ ?_
    · exact J.sub [0, 2] rfl ((j_X12_mayDig_B39 hL17) r0 v2 z)
    refine j_aload_n (pc := 31) 0 dX12_mayDig_31 rfl rfl ?_
    refine j_iload_n (pc := 32) 2 dX12_mayDig_32 rfl rfl ?_
    refine j_isC (fun h5 => ?_)
    refine j_callV_I (pc := 33) (as := [.int v2]) (mc2 := 0) (ms2 := 0) (ct_X12_lacks _ _ _) h5 rfl cw_X12_mayDig_398 dX12_mayDig_33 (Nat.le_of_ble_eq_true rfl) rfl (by decide) (by decide) (fun x4 z3 => ?_)
    refine j_if_ne (pc := 36) 43 dX12_mayDig_36 (by decide) ?_ ?_
    · refine j_iconst (pc := 43) (v := 0) dX12_mayDig_43 (by decide) ?_
      exact J.sub [0, 2] rfl ((j_X12_mayDig_B44 hL17) r0 v2 0 z3)
    exact J.sub [0, 2] rfl ((j_X12_mayDig_B39 hL17) r0 v2 z3)
theorem j_X12_mayDig_B14 {l : Launch} {Γ : Am}   : ∀ (r0 : Nat) (t0 : Int32) (z : Hp), J l Γ mi_X12_mayDig cvI 0 0 14 [(0, .ref (mB Γ + r0))] [.int t0] z (m_X12_mayDig_B14  r0 t0 z) := by
  intro r0 t0 z
  unfold m_X12_mayDig_B14
  refine j_istore_n (pc := 14) (lv2 := [(1, .int t0), (0, .ref (mB Γ + r0))]) dX12_mayDig_14 rfl (by decide) rfl ?_
  refine j_iconst (pc := 15) (v := 0) dX12_mayDig_15 (by decide) ?_
  refine j_istore_n (pc := 16) (lv2 := [(2, .int 0), (1, .int t0), (0, .ref (mB Γ + r0))]) dX12_mayDig_16 rfl (by decide) rfl ?_
  exact J.sub [2, 1, 0] rfl ((j_X12_mayDig_L17 FU) r0 t0 0 z)
theorem ct_X12_mayDig {l : Launch} {Γ : Am} (r0 : Nat) (z : Hp) : Ct l Γ yX12_mayDig mi_X12_mayDig cvI [.ref (mB Γ + r0)] z (m_X12_mayDig r0 z) := by
  refine Ct.ofJ (by decide) ⟨rfl, rfl⟩ (Nat.le_of_ble_eq_true rfl) ?_
  unfold m_X12_mayDig
  show J l Γ mi_X12_mayDig cvI 0 0 0 [(0, .ref (mB Γ + r0))] [] z _
  refine j_aload_n (pc := 0) 0 dX12_mayDig_0 rfl rfl ?_
  refine j_getR (pc := 1) ok_X12 (by decide) rfl w_1239 dX12_mayDig_1 (fun a6 => ?_)
  refine j_iconst (pc := 4) (v := 4) dX12_mayDig_4 (by decide) ?_
  refine j_iaload (pc := 5) dX12_mayDig_5 (fun x7 => ?_)
  refine j_if_ne (pc := 6) 13 dX12_mayDig_6 (by decide) ?_ ?_
  · refine j_iconst (pc := 13) (v := 0) dX12_mayDig_13 (by decide) ?_
    exact J.sub [0] rfl (j_X12_mayDig_B14 r0 0 z)
  refine j_iconst (pc := 9) (v := 1) dX12_mayDig_9 (by decide) ?_
  refine j_goto (pc := 10) 14 dX12_mayDig_10 (by decide) ?_
  exact J.sub [0] rfl (j_X12_mayDig_B14 r0 1 z)
theorem dX12_dig_0 : decode cX12_dig 0 = .ok (.iload_n 1, 1) := by decide +kernel
theorem dX12_dig_1 : decode cX12_dig 1 = .ok (.iload_n 2, 1) := by decide +kernel
theorem dX12_dig_2 : decode cX12_dig 2 = .ok (.invokestatic 116, 3) := by decide +kernel
theorem dX12_dig_5 : decode cX12_dig 5 = .ok (.ifCond .eq 29, 3) := by decide +kernel
theorem dX12_dig_8 : decode cX12_dig 8 = .ok (.aload_n 0, 1) := by decide +kernel
theorem dX12_dig_9 : decode cX12_dig 9 = .ok (.bipush 12, 2) := by decide +kernel
theorem dX12_dig_11 : decode cX12_dig 11 = .ok (.iload_n 2, 1) := by decide +kernel
theorem dX12_dig_12 : decode cX12_dig 12 = .ok (.imul, 1) := by decide +kernel
theorem dX12_dig_13 : decode cX12_dig 13 = .ok (.iload_n 1, 1) := by decide +kernel
theorem dX12_dig_14 : decode cX12_dig 14 = .ok (.iadd, 1) := by decide +kernel
theorem dX12_dig_15 : decode cX12_dig 15 = .ok (.invokevirtual 346, 3) := by decide +kernel
theorem dX12_dig_18 : decode cX12_dig 18 = .ok (.ifCond .eq 16, 3) := by decide +kernel
theorem dX12_dig_21 : decode cX12_dig 21 = .ok (.aload_n 0, 1) := by decide +kernel
theorem dX12_dig_22 : decode cX12_dig 22 = .ok (.bipush 12, 2) := by decide +kernel
theorem dX12_dig_24 : decode cX12_dig 24 = .ok (.iload_n 2, 1) := by decide +kernel
theorem dX12_dig_25 : decode cX12_dig 25 = .ok (.imul, 1) := by decide +kernel
theorem dX12_dig_26 : decode cX12_dig 26 = .ok (.iload_n 1, 1) := by decide +kernel
theorem dX12_dig_27 : decode cX12_dig 27 = .ok (.iadd, 1) := by decide +kernel
theorem dX12_dig_28 : decode cX12_dig 28 = .ok (.invokevirtual 102, 3) := by decide +kernel
theorem dX12_dig_31 : decode cX12_dig 31 = .ok (.ifCond .eq 6, 3) := by decide +kernel
theorem dX12_dig_34 : decode cX12_dig 34 = .ok (.bipush (-2), 2) := by decide +kernel
theorem dX12_dig_36 : decode cX12_dig 36 = .ok (.ireturn, 1) := by decide +kernel
theorem dX12_dig_37 : decode cX12_dig 37 = .ok (.aload_n 0, 1) := by decide +kernel
theorem dX12_dig_38 : decode cX12_dig 38 = .ok (.invokevirtual 401, 3) := by decide +kernel
theorem dX12_dig_41 : decode cX12_dig 41 = .ok (.ifCond .ne 6, 3) := by decide +kernel
theorem dX12_dig_44 : decode cX12_dig 44 = .ok (.bipush (-5), 2) := by decide +kernel
theorem dX12_dig_46 : decode cX12_dig 46 = .ok (.ireturn, 1) := by decide +kernel
theorem dX12_dig_47 : decode cX12_dig 47 = .ok (.aload_n 0, 1) := by decide +kernel
theorem dX12_dig_48 : decode cX12_dig 48 = .ok (.getfield 13, 3) := by decide +kernel
theorem dX12_dig_51 : decode cX12_dig 51 = .ok (.bipush 12, 2) := by decide +kernel
theorem dX12_dig_53 : decode cX12_dig 53 = .ok (.iaload, 1) := by decide +kernel
theorem dX12_dig_54 : decode cX12_dig 54 = .ok (.iconst 1, 1) := by decide +kernel
theorem dX12_dig_55 : decode cX12_dig 55 = .ok (.if_icmp .ne 6, 3) := by decide +kernel
theorem dX12_dig_58 : decode cX12_dig 58 = .ok (.bipush (-7), 2) := by decide +kernel
theorem dX12_dig_60 : decode cX12_dig 60 = .ok (.ireturn, 1) := by decide +kernel
theorem dX12_dig_61 : decode cX12_dig 61 = .ok (.bipush 12, 2) := by decide +kernel
theorem dX12_dig_63 : decode cX12_dig 63 = .ok (.iload_n 2, 1) := by decide +kernel
theorem dX12_dig_64 : decode cX12_dig 64 = .ok (.imul, 1) := by decide +kernel
theorem dX12_dig_65 : decode cX12_dig 65 = .ok (.iload_n 1, 1) := by decide +kernel
theorem dX12_dig_66 : decode cX12_dig 66 = .ok (.iadd, 1) := by decide +kernel
theorem dX12_dig_67 : decode cX12_dig 67 = .ok (.istore_n 3, 1) := by decide +kernel
theorem dX12_dig_68 : decode cX12_dig 68 = .ok (.aload_n 0, 1) := by decide +kernel
theorem dX12_dig_69 : decode cX12_dig 69 = .ok (.getfield 13, 3) := by decide +kernel
theorem dX12_dig_72 : decode cX12_dig 72 = .ok (.bipush 17, 2) := by decide +kernel
theorem dX12_dig_74 : decode cX12_dig 74 = .ok (.dup2, 1) := by decide +kernel
theorem dX12_dig_75 : decode cX12_dig 75 = .ok (.iaload, 1) := by decide +kernel
theorem dX12_dig_76 : decode cX12_dig 76 = .ok (.aload_n 0, 1) := by decide +kernel
theorem dX12_dig_77 : decode cX12_dig 77 = .ok (.getfield 13, 3) := by decide +kernel
theorem dX12_dig_80 : decode cX12_dig 80 = .ok (.sipush 192, 3) := by decide +kernel
theorem dX12_dig_83 : decode cX12_dig 83 = .ok (.iload_n 3, 1) := by decide +kernel
theorem dX12_dig_84 : decode cX12_dig 84 = .ok (.iadd, 1) := by decide +kernel
theorem dX12_dig_85 : decode cX12_dig 85 = .ok (.iaload, 1) := by decide +kernel
theorem dX12_dig_86 : decode cX12_dig 86 = .ok (.aload_n 0, 1) := by decide +kernel
theorem dX12_dig_87 : decode cX12_dig 87 = .ok (.getfield 13, 3) := by decide +kernel
theorem dX12_dig_90 : decode cX12_dig 90 = .ok (.sipush 336, 3) := by decide +kernel
theorem dX12_dig_93 : decode cX12_dig 93 = .ok (.iload_n 3, 1) := by decide +kernel
theorem dX12_dig_94 : decode cX12_dig 94 = .ok (.iadd, 1) := by decide +kernel
theorem dX12_dig_95 : decode cX12_dig 95 = .ok (.iaload, 1) := by decide +kernel
theorem dX12_dig_96 : decode cX12_dig 96 = .ok (.isub, 1) := by decide +kernel
theorem dX12_dig_97 : decode cX12_dig 97 = .ok (.iadd, 1) := by decide +kernel
theorem dX12_dig_98 : decode cX12_dig 98 = .ok (.iastore, 1) := by decide +kernel
theorem dX12_dig_99 : decode cX12_dig 99 = .ok (.aload_n 0, 1) := by decide +kernel
theorem dX12_dig_100 : decode cX12_dig 100 = .ok (.getfield 13, 3) := by decide +kernel
theorem dX12_dig_103 : decode cX12_dig 103 = .ok (.sipush 480, 3) := by decide +kernel
theorem dX12_dig_106 : decode cX12_dig 106 = .ok (.iload_n 3, 1) := by decide +kernel
theorem dX12_dig_107 : decode cX12_dig 107 = .ok (.iadd, 1) := by decide +kernel
theorem dX12_dig_108 : decode cX12_dig 108 = .ok (.iconst 1, 1) := by decide +kernel
theorem dX12_dig_109 : decode cX12_dig 109 = .ok (.iastore, 1) := by decide +kernel
theorem dX12_dig_110 : decode cX12_dig 110 = .ok (.iconst 0, 1) := by decide +kernel
theorem dX12_dig_111 : decode cX12_dig 111 = .ok (.istore 4, 2) := by decide +kernel
theorem dX12_dig_113 : decode cX12_dig 113 = .ok (.iconst 0, 1) := by decide +kernel
theorem dX12_dig_114 : decode cX12_dig 114 = .ok (.istore 5, 2) := by decide +kernel
theorem dX12_dig_116 : decode cX12_dig 116 = .ok (.iload 5, 2) := by decide +kernel
theorem dX12_dig_118 : decode cX12_dig 118 = .ok (.sipush 144, 3) := by decide +kernel
theorem dX12_dig_121 : decode cX12_dig 121 = .ok (.if_icmp .ge 37, 3) := by decide +kernel
theorem dX12_dig_124 : decode cX12_dig 124 = .ok (.iload 4, 2) := by decide +kernel
theorem dX12_dig_126 : decode cX12_dig 126 = .ok (.aload_n 0, 1) := by decide +kernel
theorem dX12_dig_127 : decode cX12_dig 127 = .ok (.iload 5, 2) := by decide +kernel
theorem dX12_dig_129 : decode cX12_dig 129 = .ok (.invokevirtual 346, 3) := by decide +kernel
theorem dX12_dig_132 : decode cX12_dig 132 = .ok (.ifCond .eq 16, 3) := by decide +kernel
theorem dX12_dig_135 : decode cX12_dig 135 = .ok (.aload_n 0, 1) := by decide +kernel
theorem dX12_dig_136 : decode cX12_dig 136 = .ok (.iload 5, 2) := by decide +kernel
theorem dX12_dig_138 : decode cX12_dig 138 = .ok (.invokevirtual 102, 3) := by decide +kernel
theorem dX12_dig_141 : decode cX12_dig 141 = .ok (.ifCond .ne 7, 3) := by decide +kernel
theorem dX12_dig_144 : decode cX12_dig 144 = .ok (.iconst 1, 1) := by decide +kernel
theorem dX12_dig_145 : decode cX12_dig 145 = .ok (.goto 4, 3) := by decide +kernel
theorem dX12_dig_148 : decode cX12_dig 148 = .ok (.iconst 0, 1) := by decide +kernel
theorem dX12_dig_149 : decode cX12_dig 149 = .ok (.iadd, 1) := by decide +kernel
theorem dX12_dig_150 : decode cX12_dig 150 = .ok (.istore 4, 2) := by decide +kernel
theorem dX12_dig_152 : decode cX12_dig 152 = .ok (.iinc 5 1, 3) := by decide +kernel
theorem dX12_dig_155 : decode cX12_dig 155 = .ok (.goto (-39), 3) := by decide +kernel
theorem dX12_dig_158 : decode cX12_dig 158 = .ok (.iload 4, 2) := by decide +kernel
theorem dX12_dig_160 : decode cX12_dig 160 = .ok (.ireturn, 1) := by decide +kernel
theorem cw_X12_dig_346 : CwV mi_X12_dig mi_X12_isShaft yX12_isShaft RX12 346 1 := ⟨⟨w_1567, w_1569, w_77, w_108, w_1570⟩, ⟨by decide, by decide⟩, by decide +kernel, by decide, by decide⟩
theorem cw_X12_dig_102 : CwV mi_X12_dig mi_X12_isDug yX12_isDug RX12 102 1 := ⟨⟨w_1511, w_1513, w_65, w_108, w_1514⟩, ⟨by decide, by decide⟩, by decide +kernel, by decide, by decide⟩
theorem cw_X12_dig_116 : CwS mi_X12_dig mi_X12_isPlace yX12_isPlace 116 2 := ⟨⟨w_1522, w_1523, w_108, w_1524⟩, ⟨by decide, by decide⟩, by decide +kernel, by decide, by decide⟩
theorem cw_X12_dig_401 : CwV mi_X12_dig mi_X12_mayDig yX12_mayDig RX12 401 0 := ⟨⟨w_1672, w_1674, w_89, w_108, w_1675⟩, ⟨by decide, by decide⟩, by decide +kernel, by decide, by decide⟩
theorem j_X12_dig_B149 {l : Launch} {Γ : Am} {k116 : Nat → Int32 → Int32 → Hp → Option (Int32 × Hp)} (hL116 : ∀ (r0 : Nat) (v4 : Int32) (v5 : Int32) (z : Hp), J l Γ mi_X12_dig cvI 0 0 116 [(0, .ref (mB Γ + r0)), (4, .int v4), (5, .int v5)] [] z (k116 r0 v4 v5 z)) : ∀ (r0 : Nat) (v5 : Int32) (t0 : Int32) (t1 : Int32) (z : Hp), J l Γ mi_X12_dig cvI 0 0 149 [(0, .ref (mB Γ + r0)), (5, .int v5)] [.int t0, .int t1] z (m_X12_dig_B149 k116 r0 v5 t0 t1 z) := by
  intro r0 v5 t0 t1 z
  unfold m_X12_dig_B149
  refine j_iadd (pc := 149) dX12_dig_149 ?_
  refine j_istore (pc := 150) (lv2 := [(4, .int (t1 + t0)), (0, .ref (mB Γ + r0)), (5, .int v5)]) dX12_dig_150 (by decide) rfl ?_
  refine j_iinc (pc := 152) (n0 := 2) (v0 := v5 + 1) (lv2 := [(5, .int (v5 + 1)), (4, .int (t1 + t0)), (0, .ref (mB Γ + r0))]) dX12_dig_152 rfl rfl (by decide) rfl ?_
  refine j_goto (pc := 155) 116 dX12_dig_155 (by decide) ?_
  exact J.sub [2, 1, 0] rfl (hL116 r0 (t1 + t0) (v5 + 1) z)
theorem j_X12_dig_B148 {l : Launch} {Γ : Am} {k116 : Nat → Int32 → Int32 → Hp → Option (Int32 × Hp)} (hL116 : ∀ (r0 : Nat) (v4 : Int32) (v5 : Int32) (z : Hp), J l Γ mi_X12_dig cvI 0 0 116 [(0, .ref (mB Γ + r0)), (4, .int v4), (5, .int v5)] [] z (k116 r0 v4 v5 z)) : ∀ (r0 : Nat) (v5 : Int32) (t0 : Int32) (z : Hp), J l Γ mi_X12_dig cvI 0 0 148 [(0, .ref (mB Γ + r0)), (5, .int v5)] [.int t0] z (m_X12_dig_B148 k116 r0 v5 t0 z) := by
  intro r0 v5 t0 z
  unfold m_X12_dig_B148
  refine j_iconst (pc := 148) (v := 0) dX12_dig_148 (by decide) ?_
  exact J.sub [0, 1] rfl ((j_X12_dig_B149 hL116) r0 v5 0 t0 z)
theorem j_X12_dig_L116 {l : Launch} {Γ : Am}   : ∀ (f : Nat), ∀ (r0 : Nat) (v4 : Int32) (v5 : Int32) (z : Hp), J l Γ mi_X12_dig cvI 0 0 116 [(0, .ref (mB Γ + r0)), (4, .int v4), (5, .int v5)] [] z (m_X12_dig_L116  f r0 v4 v5 z) := by
  intro f
  induction f with
  | zero => intro r0 v4 v5 z; exact J.none
  | succ f hL116 =>
    intro r0 v4 v5 z
    rw [m_X12_dig_L116]
    refine j_iload (pc := 116) 2 dX12_dig_116 rfl ?_
    refine j_sipush (pc := 118) (v := 144) dX12_dig_118 (by decide) ?_
    refine j_icmp_ge (pc := 121) 158 dX12_dig_121 (by decide) ?_ ?_
    · refine j_iload (pc := 158) 1 dX12_dig_158 rfl ?_
      exact j_ireturn (pc := 160) dX12_dig_160 rfl rfl
    refine j_iload (pc := 124) 1 dX12_dig_124 rfl ?_
    refine j_aload_n (pc := 126) 0 dX12_dig_126 rfl rfl ?_
    refine j_iload (pc := 127) 2 dX12_dig_127 rfl ?_
    refine j_isC (fun h3 => ?_)
    refine j_callV_I (pc := 129) (as := [.int v5]) (mc2 := 0) (ms2 := 0) (ct_X12_isShaft _ _ _) h3 rfl cw_X12_dig_346 dX12_dig_129 (Nat.le_of_ble_eq_true rfl) rfl (by decide) (by decide) (fun x2 z1 => ?_)
    refine j_if_eq (pc := 132) 148 dX12_dig_132 (by decide) ?_ ?_
    · exact J.sub [0, 2] rfl ((j_X12_dig_B148 hL116) r0 v5 v4 z1)
    refine j_aload_n (pc := 135) 0 dX12_dig_135 rfl rfl ?_
    refine j_iload (pc := 136) 2 dX12_dig_136 rfl ?_
    refine j_isC (fun h6 => ?_)
    refine j_callV_I (pc := 138) (as := [.int v5]) (mc2 := 0) (ms2 := 0) (ct_X12_isDug _ _ _) h6 rfl cw_X12_dig_102 dX12_dig_138 (Nat.le_of_ble_eq_true rfl) rfl (by decide) (by decide) (fun x5 z4 => ?_)
    refine j_if_ne (pc := 141) 148 dX12_dig_141 (by decide) ?_ ?_
    · exact J.sub [0, 2] rfl ((j_X12_dig_B148 hL116) r0 v5 v4 z4)
    refine j_iconst (pc := 144) (v := 1) dX12_dig_144 (by decide) ?_
    refine j_goto (pc := 145) 149 dX12_dig_145 (by decide) ?_
    exact J.sub [0, 2] rfl ((j_X12_dig_B149 hL116) r0 v5 1 v4 z4)
theorem ct_X12_dig {l : Launch} {Γ : Am} (r0 : Nat) (v1 : Int32) (v2 : Int32) (z : Hp) : Ct l Γ yX12_dig mi_X12_dig cvI [.ref (mB Γ + r0), .int v1, .int v2] z (m_X12_dig r0 v1 v2 z) := by
  refine Ct.ofJ (by decide) ⟨rfl, rfl⟩ (Nat.le_of_ble_eq_true rfl) ?_
  unfold m_X12_dig
  show J l Γ mi_X12_dig cvI 0 0 0 [(0, .ref (mB Γ + r0)), (1, .int v1), (2, .int v2)] [] z _
  refine j_iload_n (pc := 0) 1 dX12_dig_0 rfl rfl ?_
  refine j_iload_n (pc := 1) 2 dX12_dig_1 rfl rfl ?_
  refine j_callS_I (pc := 2) (as := [.int v1, .int v2]) (mc2 := 0) (ms2 := 0) (ct_X12_isPlace _ _ _) cw_X12_dig_116 dX12_dig_2 (Nat.le_of_ble_eq_true rfl) rfl (by decide) (by decide) (fun x8 z7 => ?_)
  refine j_if_eq (pc := 5) 34 dX12_dig_5 (by decide) ?_ ?_
  · refine j_bipush (pc := 34) (v := (-2)) dX12_dig_34 (by decide) ?_
    exact j_ireturn (pc := 36) dX12_dig_36 rfl rfl
  refine j_aload_n (pc := 8) 0 dX12_dig_8 rfl rfl ?_
  refine j_bipush (pc := 9) (v := 12) dX12_dig_9 (by decide) ?_
  refine j_iload_n (pc := 11) 2 dX12_dig_11 rfl rfl ?_
  refine j_imul (pc := 12) dX12_dig_12 ?_
  refine j_iload_n (pc := 13) 1 dX12_dig_13 rfl rfl ?_
  refine j_iadd (pc := 14) dX12_dig_14 ?_
  refine j_isC (fun h11 => ?_)
  refine j_callV_I (pc := 15) (as := [.int ((12 * v2) + v1)]) (mc2 := 0) (ms2 := 0) (ct_X12_isShaft _ _ _) h11 rfl cw_X12_dig_346 dX12_dig_15 (Nat.le_of_ble_eq_true rfl) rfl (by decide) (by decide) (fun x10 z9 => ?_)
  refine j_if_eq (pc := 18) 34 dX12_dig_18 (by decide) ?_ ?_
  · refine j_bipush (pc := 34) (v := (-2)) dX12_dig_34 (by decide) ?_
    exact j_ireturn (pc := 36) dX12_dig_36 rfl rfl
  refine j_aload_n (pc := 21) 0 dX12_dig_21 rfl rfl ?_
  refine j_bipush (pc := 22) (v := 12) dX12_dig_22 (by decide) ?_
  refine j_iload_n (pc := 24) 2 dX12_dig_24 rfl rfl ?_
  refine j_imul (pc := 25) dX12_dig_25 ?_
  refine j_iload_n (pc := 26) 1 dX12_dig_26 rfl rfl ?_
  refine j_iadd (pc := 27) dX12_dig_27 ?_
  refine j_isC (fun h14 => ?_)
  refine j_callV_I (pc := 28) (as := [.int ((12 * v2) + v1)]) (mc2 := 0) (ms2 := 0) (ct_X12_isDug _ _ _) h14 rfl cw_X12_dig_102 dX12_dig_28 (Nat.le_of_ble_eq_true rfl) rfl (by decide) (by decide) (fun x13 z12 => ?_)
  refine j_if_eq (pc := 31) 37 dX12_dig_31 (by decide) ?_ ?_
  · refine j_aload_n (pc := 37) 0 dX12_dig_37 rfl rfl ?_
    refine j_isC (fun h17 => ?_)
    refine j_callV_I (pc := 38) (as := []) (mc2 := 0) (ms2 := 0) (ct_X12_mayDig _ _) h17 rfl cw_X12_dig_401 dX12_dig_38 (Nat.le_of_ble_eq_true rfl) rfl (by decide) (by decide) (fun x16 z15 => ?_)
    refine j_if_ne (pc := 41) 47 dX12_dig_41 (by decide) ?_ ?_
    · refine j_aload_n (pc := 47) 0 dX12_dig_47 rfl rfl ?_
      refine j_getR (pc := 48) ok_X12 (by decide) rfl w_1239 dX12_dig_48 (fun a18 => ?_)
      refine j_bipush (pc := 51) (v := 12) dX12_dig_51 (by decide) ?_
      refine j_iaload (pc := 53) dX12_dig_53 (fun x19 => ?_)
      refine j_iconst (pc := 54) (v := 1) dX12_dig_54 (by decide) ?_
      refine j_icmp_ne (pc := 55) 61 dX12_dig_55 (by decide) ?_ ?_
      · refine j_bipush (pc := 61) (v := 12) dX12_dig_61 (by decide) ?_
        refine j_iload_n (pc := 63) 2 dX12_dig_63 rfl rfl ?_
        refine j_imul (pc := 64) dX12_dig_64 ?_
        refine j_iload_n (pc := 65) 1 dX12_dig_65 rfl rfl ?_
        refine j_iadd (pc := 66) dX12_dig_66 ?_
        refine j_istore_n (pc := 67) (lv2 := [(3, .int ((12 * v2) + v1)), (0, .ref (mB Γ + r0)), (1, .int v1), (2, .int v2)]) dX12_dig_67 rfl (by decide) rfl ?_
        refine j_aload_n (pc := 68) 1 dX12_dig_68 rfl rfl ?_
        refine j_getR (pc := 69) ok_X12 (by decide) rfl w_1239 dX12_dig_69 (fun a20 => ?_)
        refine j_bipush (pc := 72) (v := 17) dX12_dig_72 (by decide) ?_
        refine j_dup2 (pc := 74) dX12_dig_74 rfl rfl ?_
        refine j_iaload (pc := 75) dX12_dig_75 (fun x21 => ?_)
        refine j_aload_n (pc := 76) 1 dX12_dig_76 rfl rfl ?_
        refine j_getR (pc := 77) ok_X12 (by decide) rfl w_1239 dX12_dig_77 (fun a22 => ?_)
        refine j_sipush (pc := 80) (v := 192) dX12_dig_80 (by decide) ?_
        refine j_iload_n (pc := 83) 0 dX12_dig_83 rfl rfl ?_
        refine j_iadd (pc := 84) dX12_dig_84 ?_
        refine j_iaload (pc := 85) dX12_dig_85 (fun x23 => ?_)
        refine j_aload_n (pc := 86) 1 dX12_dig_86 rfl rfl ?_
        refine j_getR (pc := 87) ok_X12 (by decide) rfl w_1239 dX12_dig_87 (fun a24 => ?_)
        refine j_sipush (pc := 90) (v := 336) dX12_dig_90 (by decide) ?_
        refine j_iload_n (pc := 93) 0 dX12_dig_93 rfl rfl ?_
        refine j_iadd (pc := 94) dX12_dig_94 ?_
        refine j_iaload (pc := 95) dX12_dig_95 (fun x25 => ?_)
        refine j_isub (pc := 96) dX12_dig_96 ?_
        refine j_iadd (pc := 97) dX12_dig_97 ?_
        refine j_iastore (pc := 98) dX12_dig_98 (fun z26 => ?_)
        refine j_aload_n (pc := 99) 1 dX12_dig_99 rfl rfl ?_
        refine j_getR (pc := 100) ok_X12 (by decide) rfl w_1239 dX12_dig_100 (fun a27 => ?_)
        refine j_sipush (pc := 103) (v := 480) dX12_dig_103 (by decide) ?_
        refine j_iload_n (pc := 106) 0 dX12_dig_106 rfl rfl ?_
        refine j_iadd (pc := 107) dX12_dig_107 ?_
        refine j_iconst (pc := 108) (v := 1) dX12_dig_108 (by decide) ?_
        refine j_iastore (pc := 109) dX12_dig_109 (fun z28 => ?_)
        refine j_iconst (pc := 110) (v := 0) dX12_dig_110 (by decide) ?_
        refine j_istore (pc := 111) (lv2 := [(4, .int 0), (3, .int ((12 * v2) + v1)), (0, .ref (mB Γ + r0)), (1, .int v1), (2, .int v2)]) dX12_dig_111 (by decide) rfl ?_
        refine j_iconst (pc := 113) (v := 0) dX12_dig_113 (by decide) ?_
        refine j_istore (pc := 114) (lv2 := [(5, .int 0), (4, .int 0), (3, .int ((12 * v2) + v1)), (0, .ref (mB Γ + r0)), (1, .int v1), (2, .int v2)]) dX12_dig_114 (by decide) rfl ?_
        exact J.sub [3, 1, 0] rfl ((j_X12_dig_L116 FU) r0 0 0 z28)
      refine j_bipush (pc := 58) (v := (-7)) dX12_dig_58 (by decide) ?_
      exact j_ireturn (pc := 60) dX12_dig_60 rfl rfl
    refine j_bipush (pc := 44) (v := (-5)) dX12_dig_44 (by decide) ?_
    exact j_ireturn (pc := 46) dX12_dig_46 rfl rfl
  refine j_bipush (pc := 34) (v := (-2)) dX12_dig_34 (by decide) ?_
  exact j_ireturn (pc := 36) dX12_dig_36 rfl rfl
theorem dX12_pump_0 : decode cX12_pump 0 = .ok (.aload_n 0, 1) := by decide +kernel
theorem dX12_pump_1 : decode cX12_pump 1 = .ok (.invokevirtual 365, 3) := by decide +kernel
theorem dX12_pump_4 : decode cX12_pump 4 = .ok (.ifCond .ne 6, 3) := by decide +kernel
theorem dX12_pump_7 : decode cX12_pump 7 = .ok (.bipush (-6), 2) := by decide +kernel
theorem dX12_pump_9 : decode cX12_pump 9 = .ok (.ireturn, 1) := by decide +kernel
theorem dX12_pump_10 : decode cX12_pump 10 = .ok (.aload_n 0, 1) := by decide +kernel
theorem dX12_pump_11 : decode cX12_pump 11 = .ok (.getfield 13, 3) := by decide +kernel
theorem dX12_pump_14 : decode cX12_pump 14 = .ok (.bipush 12, 2) := by decide +kernel
theorem dX12_pump_16 : decode cX12_pump 16 = .ok (.iaload, 1) := by decide +kernel
theorem dX12_pump_17 : decode cX12_pump 17 = .ok (.ifCond .ne 6, 3) := by decide +kernel
theorem dX12_pump_20 : decode cX12_pump 20 = .ok (.bipush (-5), 2) := by decide +kernel
theorem dX12_pump_22 : decode cX12_pump 22 = .ok (.ireturn, 1) := by decide +kernel
theorem dX12_pump_23 : decode cX12_pump 23 = .ok (.aload_n 0, 1) := by decide +kernel
theorem dX12_pump_24 : decode cX12_pump 24 = .ok (.invokevirtual 334, 3) := by decide +kernel
theorem dX12_pump_27 : decode cX12_pump 27 = .ok (.ifCond .ne 6, 3) := by decide +kernel
theorem dX12_pump_30 : decode cX12_pump 30 = .ok (.bipush (-8), 2) := by decide +kernel
theorem dX12_pump_32 : decode cX12_pump 32 = .ok (.ireturn, 1) := by decide +kernel
theorem dX12_pump_33 : decode cX12_pump 33 = .ok (.aload_n 0, 1) := by decide +kernel
theorem dX12_pump_34 : decode cX12_pump 34 = .ok (.getfield 13, 3) := by decide +kernel
theorem dX12_pump_37 : decode cX12_pump 37 = .ok (.bipush 12, 2) := by decide +kernel
theorem dX12_pump_39 : decode cX12_pump 39 = .ok (.iconst 0, 1) := by decide +kernel
theorem dX12_pump_40 : decode cX12_pump 40 = .ok (.iastore, 1) := by decide +kernel
theorem dX12_pump_41 : decode cX12_pump 41 = .ok (.iconst 0, 1) := by decide +kernel
theorem dX12_pump_42 : decode cX12_pump 42 = .ok (.ireturn, 1) := by decide +kernel
theorem cw_X12_pump_365 : CwV mi_X12_pump mi_X12_hasShaft yX12_hasShaft RX12 365 0 := ⟨⟨w_1613, w_1615, w_81, w_108, w_1616⟩, ⟨by decide, by decide⟩, by decide +kernel, by decide, by decide⟩
theorem cw_X12_pump_334 : CwV mi_X12_pump mi_X12_isShut yX12_isShut RX12 334 0 := ⟨⟨w_1559, w_1561, w_75, w_108, w_1562⟩, ⟨by decide, by decide⟩, by decide +kernel, by decide, by decide⟩
theorem ct_X12_pump {l : Launch} {Γ : Am} (r0 : Nat) (z : Hp) : Ct l Γ yX12_pump mi_X12_pump cvI [.ref (mB Γ + r0)] z (m_X12_pump r0 z) := by
  refine Ct.ofJ (by decide) ⟨rfl, rfl⟩ (Nat.le_of_ble_eq_true rfl) ?_
  unfold m_X12_pump
  show J l Γ mi_X12_pump cvI 0 0 0 [(0, .ref (mB Γ + r0))] [] z _
  refine j_aload_n (pc := 0) 0 dX12_pump_0 rfl rfl ?_
  refine j_isC (fun h3 => ?_)
  refine j_callV_I (pc := 1) (as := []) (mc2 := 0) (ms2 := 0) (ct_X12_hasShaft _ _) h3 rfl cw_X12_pump_365 dX12_pump_1 (Nat.le_of_ble_eq_true rfl) rfl (by decide) (by decide) (fun x2 z1 => ?_)
  refine j_if_ne (pc := 4) 10 dX12_pump_4 (by decide) ?_ ?_
  · refine j_aload_n (pc := 10) 0 dX12_pump_10 rfl rfl ?_
    refine j_getR (pc := 11) ok_X12 (by decide) rfl w_1239 dX12_pump_11 (fun a4 => ?_)
    refine j_bipush (pc := 14) (v := 12) dX12_pump_14 (by decide) ?_
    refine j_iaload (pc := 16) dX12_pump_16 (fun x5 => ?_)
    refine j_if_ne (pc := 17) 23 dX12_pump_17 (by decide) ?_ ?_
    · refine j_aload_n (pc := 23) 0 dX12_pump_23 rfl rfl ?_
      refine j_isC (fun h8 => ?_)
      refine j_callV_I (pc := 24) (as := []) (mc2 := 0) (ms2 := 0) (ct_X12_isShut _ _) h8 rfl cw_X12_pump_334 dX12_pump_24 (Nat.le_of_ble_eq_true rfl) rfl (by decide) (by decide) (fun x7 z6 => ?_)
      refine j_if_ne (pc := 27) 33 dX12_pump_27 (by decide) ?_ ?_
      · refine j_aload_n (pc := 33) 0 dX12_pump_33 rfl rfl ?_
        refine j_getR (pc := 34) ok_X12 (by decide) rfl w_1239 dX12_pump_34 (fun a9 => ?_)
        refine j_bipush (pc := 37) (v := 12) dX12_pump_37 (by decide) ?_
        refine j_iconst (pc := 39) (v := 0) dX12_pump_39 (by decide) ?_
        refine j_iastore (pc := 40) dX12_pump_40 (fun z10 => ?_)
        refine j_iconst (pc := 41) (v := 0) dX12_pump_41 (by decide) ?_
        exact j_ireturn (pc := 42) dX12_pump_42 rfl rfl
      refine j_bipush (pc := 30) (v := (-8)) dX12_pump_30 (by decide) ?_
      exact j_ireturn (pc := 32) dX12_pump_32 rfl rfl
    refine j_bipush (pc := 20) (v := (-5)) dX12_pump_20 (by decide) ?_
    exact j_ireturn (pc := 22) dX12_pump_22 rfl rfl
  refine j_bipush (pc := 7) (v := (-6)) dX12_pump_7 (by decide) ?_
  exact j_ireturn (pc := 9) dX12_pump_9 rfl rfl
theorem dX12_lift_0 : decode cX12_lift 0 = .ok (.iload_n 1, 1) := by decide +kernel
theorem dX12_lift_1 : decode cX12_lift 1 = .ok (.i2l, 1) := by decide +kernel
theorem dX12_lift_2 : decode cX12_lift 2 = .ok (.lconst 0, 1) := by decide +kernel
theorem dX12_lift_3 : decode cX12_lift 3 = .ok (.ldc2_w 114, 3) := by decide +kernel
theorem dX12_lift_6 : decode cX12_lift 6 = .ok (.invokestatic 110, 3) := by decide +kernel
theorem dX12_lift_9 : decode cX12_lift 9 = .ok (.ifCond .eq 11, 3) := by decide +kernel
theorem dX12_lift_12 : decode cX12_lift 12 = .ok (.aload_n 0, 1) := by decide +kernel
theorem dX12_lift_13 : decode cX12_lift 13 = .ok (.iload_n 1, 1) := by decide +kernel
theorem dX12_lift_14 : decode cX12_lift 14 = .ok (.invokevirtual 325, 3) := by decide +kernel
theorem dX12_lift_17 : decode cX12_lift 17 = .ok (.goto 6, 3) := by decide +kernel
theorem dX12_lift_20 : decode cX12_lift 20 = .ok (.ldc_w 342, 3) := by decide +kernel
theorem dX12_lift_23 : decode cX12_lift 23 = .ok (.ireturn, 1) := by decide +kernel
theorem cw_X12_lift_110 : CwS mi_X12_lift mi_X12_in yX12_in 110 3 := ⟨⟨w_1365, w_1366, w_108, w_1367⟩, ⟨by decide, by decide⟩, by decide +kernel, by decide, by decide⟩
theorem cw_X12_lift_325 : CwV mi_X12_lift mi_X12_liftOf yX12_liftOf RX12 325 1 := ⟨⟨w_1550, w_1552, w_73, w_108, w_1553⟩, ⟨by decide, by decide⟩, by decide +kernel, by decide, by decide⟩
theorem ct_X12_lift {l : Launch} {Γ : Am} (r0 : Nat) (v1 : Int32) (z : Hp) : Ct l Γ yX12_lift mi_X12_lift cvI [.ref (mB Γ + r0), .int v1] z (m_X12_lift r0 v1 z) := by
  refine Ct.ofJ (by decide) ⟨rfl, rfl⟩ (Nat.le_of_ble_eq_true rfl) ?_
  unfold m_X12_lift
  show J l Γ mi_X12_lift cvI 0 0 0 [(0, .ref (mB Γ + r0)), (1, .int v1)] [] z _
  refine j_iload_n (pc := 0) 1 dX12_lift_0 rfl rfl ?_
  refine j_i2l (pc := 1) dX12_lift_1 ?_
  refine j_lconst (pc := 2) (v := 0) dX12_lift_2 (by decide) ?_
  refine j_ldc2 (pc := 3) (v := 11) dX12_lift_3 w_1471 ?_
  refine j_callS_I (pc := 6) (as := [.long (Int32.toInt64 v1), .long 0, .long 11]) (mc2 := 0) (ms2 := 0) (ct_X12_in _ _ _ _) cw_X12_lift_110 dX12_lift_6 (Nat.le_of_ble_eq_true rfl) rfl (by decide) (by decide) (fun x2 z1 => ?_)
  refine j_if_eq (pc := 9) 20 dX12_lift_9 (by decide) ?_ ?_
  · refine j_ldcw (pc := 20) (v := (-2000000000)) dX12_lift_20 w_1582 ?_
    exact j_ireturn (pc := 23) dX12_lift_23 rfl rfl
  refine j_aload_n (pc := 12) 0 dX12_lift_12 rfl rfl ?_
  refine j_iload_n (pc := 13) 1 dX12_lift_13 rfl rfl ?_
  refine j_isC (fun h5 => ?_)
  refine j_callV_I (pc := 14) (as := [.int v1]) (mc2 := 0) (ms2 := 0) (ct_X12_liftOf _ _ _) h5 rfl cw_X12_lift_325 dX12_lift_14 (Nat.le_of_ble_eq_true rfl) rfl (by decide) (by decide) (fun x4 z3 => ?_)
  refine j_goto (pc := 17) 23 dX12_lift_17 (by decide) ?_
  exact j_ireturn (pc := 23) dX12_lift_23 rfl rfl
theorem dX12_cracks_0 : decode cX12_cracks 0 = .ok (.iconst 0, 1) := by decide +kernel
theorem dX12_cracks_1 : decode cX12_cracks 1 = .ok (.istore_n 1, 1) := by decide +kernel
theorem dX12_cracks_2 : decode cX12_cracks 2 = .ok (.iconst 0, 1) := by decide +kernel
theorem dX12_cracks_3 : decode cX12_cracks 3 = .ok (.istore_n 2, 1) := by decide +kernel
theorem dX12_cracks_4 : decode cX12_cracks 4 = .ok (.iload_n 2, 1) := by decide +kernel
theorem dX12_cracks_5 : decode cX12_cracks 5 = .ok (.aload_n 0, 1) := by decide +kernel
theorem dX12_cracks_6 : decode cX12_cracks 6 = .ok (.getfield 13, 3) := by decide +kernel
theorem dX12_cracks_9 : decode cX12_cracks 9 = .ok (.iconst 3, 1) := by decide +kernel
theorem dX12_cracks_10 : decode cX12_cracks 10 = .ok (.iaload, 1) := by decide +kernel
theorem dX12_cracks_11 : decode cX12_cracks 11 = .ok (.if_icmp .ge 37, 3) := by decide +kernel
theorem dX12_cracks_14 : decode cX12_cracks 14 = .ok (.iload_n 1, 1) := by decide +kernel
theorem dX12_cracks_15 : decode cX12_cracks 15 = .ok (.aload_n 0, 1) := by decide +kernel
theorem dX12_cracks_16 : decode cX12_cracks 16 = .ok (.getfield 13, 3) := by decide +kernel
theorem dX12_cracks_19 : decode cX12_cracks 19 = .ok (.sipush 732, 3) := by decide +kernel
theorem dX12_cracks_22 : decode cX12_cracks 22 = .ok (.iconst 3, 1) := by decide +kernel
theorem dX12_cracks_23 : decode cX12_cracks 23 = .ok (.iload_n 2, 1) := by decide +kernel
theorem dX12_cracks_24 : decode cX12_cracks 24 = .ok (.imul, 1) := by decide +kernel
theorem dX12_cracks_25 : decode cX12_cracks 25 = .ok (.iadd, 1) := by decide +kernel
theorem dX12_cracks_26 : decode cX12_cracks 26 = .ok (.iconst 2, 1) := by decide +kernel
theorem dX12_cracks_27 : decode cX12_cracks 27 = .ok (.iadd, 1) := by decide +kernel
theorem dX12_cracks_28 : decode cX12_cracks 28 = .ok (.iaload, 1) := by decide +kernel
theorem dX12_cracks_29 : decode cX12_cracks 29 = .ok (.iconst (-1), 1) := by decide +kernel
theorem dX12_cracks_30 : decode cX12_cracks 30 = .ok (.if_icmp .ne 7, 3) := by decide +kernel
theorem dX12_cracks_33 : decode cX12_cracks 33 = .ok (.iconst 0, 1) := by decide +kernel
theorem dX12_cracks_34 : decode cX12_cracks 34 = .ok (.goto 6, 3) := by decide +kernel
theorem dX12_cracks_37 : decode cX12_cracks 37 = .ok (.iconst 1, 1) := by decide +kernel
theorem dX12_cracks_38 : decode cX12_cracks 38 = .ok (.iload_n 2, 1) := by decide +kernel
theorem dX12_cracks_39 : decode cX12_cracks 39 = .ok (.ishl, 1) := by decide +kernel
theorem dX12_cracks_40 : decode cX12_cracks 40 = .ok (.ior, 1) := by decide +kernel
theorem dX12_cracks_41 : decode cX12_cracks 41 = .ok (.istore_n 1, 1) := by decide +kernel
theorem dX12_cracks_42 : decode cX12_cracks 42 = .ok (.iinc 2 1, 3) := by decide +kernel
theorem dX12_cracks_45 : decode cX12_cracks 45 = .ok (.goto (-41), 3) := by decide +kernel
theorem dX12_cracks_48 : decode cX12_cracks 48 = .ok (.iload_n 1, 1) := by decide +kernel
theorem dX12_cracks_49 : decode cX12_cracks 49 = .ok (.ireturn, 1) := by decide +kernel
theorem j_X12_cracks_B40 {l : Launch} {Γ : Am} {k4 : Nat → Int32 → Int32 → Hp → Option (Int32 × Hp)} (hL4 : ∀ (r0 : Nat) (v1 : Int32) (v2 : Int32) (z : Hp), J l Γ mi_X12_cracks cvI 0 0 4 [(0, .ref (mB Γ + r0)), (1, .int v1), (2, .int v2)] [] z (k4 r0 v1 v2 z)) : ∀ (r0 : Nat) (v2 : Int32) (t0 : Int32) (t1 : Int32) (z : Hp), J l Γ mi_X12_cracks cvI 0 0 40 [(0, .ref (mB Γ + r0)), (2, .int v2)] [.int t0, .int t1] z (m_X12_cracks_B40 k4 r0 v2 t0 t1 z) := by
  intro r0 v2 t0 t1 z
  unfold m_X12_cracks_B40
  refine j_ior (pc := 40) dX12_cracks_40 ?_
  refine j_istore_n (pc := 41) (lv2 := [(1, .int (t1 ||| t0)), (0, .ref (mB Γ + r0)), (2, .int v2)]) dX12_cracks_41 rfl (by decide) rfl ?_
  refine j_iinc (pc := 42) (n0 := 2) (v0 := v2 + 1) (lv2 := [(2, .int (v2 + 1)), (1, .int (t1 ||| t0)), (0, .ref (mB Γ + r0))]) dX12_cracks_42 rfl rfl (by decide) rfl ?_
  refine j_goto (pc := 45) 4 dX12_cracks_45 (by decide) ?_
  exact J.sub [2, 1, 0] rfl (hL4 r0 (t1 ||| t0) (v2 + 1) z)
theorem j_X12_cracks_L4 {l : Launch} {Γ : Am}   : ∀ (f : Nat), ∀ (r0 : Nat) (v1 : Int32) (v2 : Int32) (z : Hp), J l Γ mi_X12_cracks cvI 0 0 4 [(0, .ref (mB Γ + r0)), (1, .int v1), (2, .int v2)] [] z (m_X12_cracks_L4  f r0 v1 v2 z) := by
  intro f
  induction f with
  | zero => intro r0 v1 v2 z; exact J.none
  | succ f hL4 =>
    intro r0 v1 v2 z
    rw [m_X12_cracks_L4]
    refine j_iload_n (pc := 4) 2 dX12_cracks_4 rfl rfl ?_
    refine j_aload_n (pc := 5) 0 dX12_cracks_5 rfl rfl ?_
    refine j_getR (pc := 6) ok_X12 (by decide) rfl w_1239 dX12_cracks_6 (fun a1 => ?_)
    refine j_iconst (pc := 9) (v := 3) dX12_cracks_9 (by decide) ?_
    refine j_iaload (pc := 10) dX12_cracks_10 (fun x2 => ?_)
    refine j_icmp_ge (pc := 11) 48 dX12_cracks_11 (by decide) ?_ ?_
    · refine j_iload_n (pc := 48) 1 dX12_cracks_48 rfl rfl ?_
      exact j_ireturn (pc := 49) dX12_cracks_49 rfl rfl
    refine j_iload_n (pc := 14) 1 dX12_cracks_14 rfl rfl ?_
    refine j_aload_n (pc := 15) 0 dX12_cracks_15 rfl rfl ?_
    refine j_getR (pc := 16) ok_X12 (by decide) rfl w_1239 dX12_cracks_16 (fun a3 => ?_)
    refine j_sipush (pc := 19) (v := 732) dX12_cracks_19 (by decide) ?_
    refine j_iconst (pc := 22) (v := 3) dX12_cracks_22 (by decide) ?_
    refine j_iload_n (pc := 23) 2 dX12_cracks_23 rfl rfl ?_
    refine j_imul (pc := 24) dX12_cracks_24 ?_
    refine j_iadd (pc := 25) dX12_cracks_25 ?_
    refine j_iconst (pc := 26) (v := 2) dX12_cracks_26 (by decide) ?_
    refine j_iadd (pc := 27) dX12_cracks_27 ?_
    refine j_iaload (pc := 28) dX12_cracks_28 (fun x4 => ?_)
    refine j_iconst (pc := 29) (v := (-1)) dX12_cracks_29 (by decide) ?_
    refine j_icmp_ne (pc := 30) 37 dX12_cracks_30 (by decide) ?_ ?_
    · refine j_iconst (pc := 37) (v := 1) dX12_cracks_37 (by decide) ?_
      refine j_iload_n (pc := 38) 2 dX12_cracks_38 rfl rfl ?_
      refine j_ishl (pc := 39) dX12_cracks_39 ?_
      exact J.sub [0, 2] rfl ((j_X12_cracks_B40 hL4) r0 v2 ((1 : Int32) <<< (v2 &&& 31)) v1 z)
    refine j_iconst (pc := 33) (v := 0) dX12_cracks_33 (by decide) ?_
    refine j_goto (pc := 34) 40 dX12_cracks_34 (by decide) ?_
    exact J.sub [0, 2] rfl ((j_X12_cracks_B40 hL4) r0 v2 0 v1 z)
theorem ct_X12_cracks {l : Launch} {Γ : Am} (r0 : Nat) (z : Hp) : Ct l Γ yX12_cracks mi_X12_cracks cvI [.ref (mB Γ + r0)] z (m_X12_cracks r0 z) := by
  refine Ct.ofJ (by decide) ⟨rfl, rfl⟩ (Nat.le_of_ble_eq_true rfl) ?_
  unfold m_X12_cracks
  show J l Γ mi_X12_cracks cvI 0 0 0 [(0, .ref (mB Γ + r0))] [] z _
  refine j_iconst (pc := 0) (v := 0) dX12_cracks_0 (by decide) ?_
  refine j_istore_n (pc := 1) (lv2 := [(1, .int 0), (0, .ref (mB Γ + r0))]) dX12_cracks_1 rfl (by decide) rfl ?_
  refine j_iconst (pc := 2) (v := 0) dX12_cracks_2 (by decide) ?_
  refine j_istore_n (pc := 3) (lv2 := [(2, .int 0), (1, .int 0), (0, .ref (mB Γ + r0))]) dX12_cracks_3 rfl (by decide) rfl ?_
  exact J.sub [2, 1, 0] rfl ((j_X12_cracks_L4 FU) r0 0 0 z)
theorem dX12_house_0 : decode cX12_house 0 = .ok (.iload_n 1, 1) := by decide +kernel
theorem dX12_house_1 : decode cX12_house 1 = .ok (.i2l, 1) := by decide +kernel
theorem dX12_house_2 : decode cX12_house 2 = .ok (.lconst 0, 1) := by decide +kernel
theorem dX12_house_3 : decode cX12_house 3 = .ok (.aload_n 0, 1) := by decide +kernel
theorem dX12_house_4 : decode cX12_house 4 = .ok (.getfield 13, 3) := by decide +kernel
theorem dX12_house_7 : decode cX12_house 7 = .ok (.iconst 3, 1) := by decide +kernel
theorem dX12_house_8 : decode cX12_house 8 = .ok (.iaload, 1) := by decide +kernel
theorem dX12_house_9 : decode cX12_house 9 = .ok (.iconst 1, 1) := by decide +kernel
theorem dX12_house_10 : decode cX12_house 10 = .ok (.isub, 1) := by decide +kernel
theorem dX12_house_11 : decode cX12_house 11 = .ok (.i2l, 1) := by decide +kernel
theorem dX12_house_12 : decode cX12_house 12 = .ok (.invokestatic 110, 3) := by decide +kernel
theorem dX12_house_15 : decode cX12_house 15 = .ok (.ifCond .eq 32, 3) := by decide +kernel
theorem dX12_house_18 : decode cX12_house 18 = .ok (.iload_n 2, 1) := by decide +kernel
theorem dX12_house_19 : decode cX12_house 19 = .ok (.i2l, 1) := by decide +kernel
theorem dX12_house_20 : decode cX12_house 20 = .ok (.lconst 0, 1) := by decide +kernel
theorem dX12_house_21 : decode cX12_house 21 = .ok (.ldc2_w 120, 3) := by decide +kernel
theorem dX12_house_24 : decode cX12_house 24 = .ok (.invokestatic 110, 3) := by decide +kernel
theorem dX12_house_27 : decode cX12_house 27 = .ok (.ifCond .eq 20, 3) := by decide +kernel
theorem dX12_house_30 : decode cX12_house 30 = .ok (.aload_n 0, 1) := by decide +kernel
theorem dX12_house_31 : decode cX12_house 31 = .ok (.getfield 13, 3) := by decide +kernel
theorem dX12_house_34 : decode cX12_house 34 = .ok (.sipush 732, 3) := by decide +kernel
theorem dX12_house_37 : decode cX12_house 37 = .ok (.iconst 3, 1) := by decide +kernel
theorem dX12_house_38 : decode cX12_house 38 = .ok (.iload_n 1, 1) := by decide +kernel
theorem dX12_house_39 : decode cX12_house 39 = .ok (.imul, 1) := by decide +kernel
theorem dX12_house_40 : decode cX12_house 40 = .ok (.iadd, 1) := by decide +kernel
theorem dX12_house_41 : decode cX12_house 41 = .ok (.iload_n 2, 1) := by decide +kernel
theorem dX12_house_42 : decode cX12_house 42 = .ok (.iadd, 1) := by decide +kernel
theorem dX12_house_43 : decode cX12_house 43 = .ok (.iaload, 1) := by decide +kernel
theorem dX12_house_44 : decode cX12_house 44 = .ok (.goto 6, 3) := by decide +kernel
theorem dX12_house_47 : decode cX12_house 47 = .ok (.ldc_w 342, 3) := by decide +kernel
theorem dX12_house_50 : decode cX12_house 50 = .ok (.ireturn, 1) := by decide +kernel
theorem cw_X12_house_110 : CwS mi_X12_house mi_X12_in yX12_in 110 3 := ⟨⟨w_1365, w_1366, w_108, w_1367⟩, ⟨by decide, by decide⟩, by decide +kernel, by decide, by decide⟩
theorem j_X12_house_B47 {l : Launch} {Γ : Am}   : ∀  (z : Hp), J l Γ mi_X12_house cvI 0 0 47 [] [] z (m_X12_house_B47   z) := by
  intro  z
  unfold m_X12_house_B47
  refine j_ldcw (pc := 47) (v := (-2000000000)) dX12_house_47 w_1582 ?_
  exact j_ireturn (pc := 50) dX12_house_50 rfl rfl
theorem ct_X12_house {l : Launch} {Γ : Am} (r0 : Nat) (v1 : Int32) (v2 : Int32) (z : Hp) : Ct l Γ yX12_house mi_X12_house cvI [.ref (mB Γ + r0), .int v1, .int v2] z (m_X12_house r0 v1 v2 z) := by
  refine Ct.ofJ (by decide) ⟨rfl, rfl⟩ (Nat.le_of_ble_eq_true rfl) ?_
  unfold m_X12_house
  show J l Γ mi_X12_house cvI 0 0 0 [(0, .ref (mB Γ + r0)), (1, .int v1), (2, .int v2)] [] z _
  refine j_iload_n (pc := 0) 1 dX12_house_0 rfl rfl ?_
  refine j_i2l (pc := 1) dX12_house_1 ?_
  refine j_lconst (pc := 2) (v := 0) dX12_house_2 (by decide) ?_
  refine j_aload_n (pc := 3) 0 dX12_house_3 rfl rfl ?_
  refine j_getR (pc := 4) ok_X12 (by decide) rfl w_1239 dX12_house_4 (fun a1 => ?_)
  refine j_iconst (pc := 7) (v := 3) dX12_house_7 (by decide) ?_
  refine j_iaload (pc := 8) dX12_house_8 (fun x2 => ?_)
  refine j_iconst (pc := 9) (v := 1) dX12_house_9 (by decide) ?_
  refine j_isub (pc := 10) dX12_house_10 ?_
  refine j_i2l (pc := 11) dX12_house_11 ?_
  refine j_callS_I (pc := 12) (as := [.long (Int32.toInt64 v1), .long 0, .long (Int32.toInt64 (x2 - 1))]) (mc2 := 0) (ms2 := 0) (ct_X12_in _ _ _ _) cw_X12_house_110 dX12_house_12 (Nat.le_of_ble_eq_true rfl) rfl (by decide) (by decide) (fun x4 z3 => ?_)
  refine j_if_eq (pc := 15) 47 dX12_house_15 (by decide) ?_ ?_
  · exact J.sub [] rfl (j_X12_house_B47 z3)
  refine j_iload_n (pc := 18) 2 dX12_house_18 rfl rfl ?_
  refine j_i2l (pc := 19) dX12_house_19 ?_
  refine j_lconst (pc := 20) (v := 0) dX12_house_20 (by decide) ?_
  refine j_ldc2 (pc := 21) (v := 2) dX12_house_21 w_1364 ?_
  refine j_callS_I (pc := 24) (as := [.long (Int32.toInt64 v2), .long 0, .long 2]) (mc2 := 0) (ms2 := 0) (ct_X12_in _ _ _ _) cw_X12_house_110 dX12_house_24 (Nat.le_of_ble_eq_true rfl) rfl (by decide) (by decide) (fun x6 z5 => ?_)
  refine j_if_eq (pc := 27) 47 dX12_house_27 (by decide) ?_ ?_
  · exact J.sub [] rfl (j_X12_house_B47 z5)
  refine j_aload_n (pc := 30) 0 dX12_house_30 rfl rfl ?_
  refine j_getR (pc := 31) ok_X12 (by decide) rfl w_1239 dX12_house_31 (fun a7 => ?_)
  refine j_sipush (pc := 34) (v := 732) dX12_house_34 (by decide) ?_
  refine j_iconst (pc := 37) (v := 3) dX12_house_37 (by decide) ?_
  refine j_iload_n (pc := 38) 1 dX12_house_38 rfl rfl ?_
  refine j_imul (pc := 39) dX12_house_39 ?_
  refine j_iadd (pc := 40) dX12_house_40 ?_
  refine j_iload_n (pc := 41) 2 dX12_house_41 rfl rfl ?_
  refine j_iadd (pc := 42) dX12_house_42 ?_
  refine j_iaload (pc := 43) dX12_house_43 (fun x8 => ?_)
  refine j_goto (pc := 44) 50 dX12_house_44 (by decide) ?_
  exact j_ireturn (pc := 50) dX12_house_50 rfl rfl
theorem dX12_foretell_0 : decode cX12_foretell 0 = .ok (.aload_n 0, 1) := by decide +kernel
theorem dX12_foretell_1 : decode cX12_foretell 1 = .ok (.invokevirtual 365, 3) := by decide +kernel
theorem dX12_foretell_4 : decode cX12_foretell 4 = .ok (.ifCond .ne 6, 3) := by decide +kernel
theorem dX12_foretell_7 : decode cX12_foretell 7 = .ok (.bipush (-6), 2) := by decide +kernel
theorem dX12_foretell_9 : decode cX12_foretell 9 = .ok (.ireturn, 1) := by decide +kernel
theorem dX12_foretell_10 : decode cX12_foretell 10 = .ok (.aload_n 0, 1) := by decide +kernel
theorem dX12_foretell_11 : decode cX12_foretell 11 = .ok (.invokevirtual 404, 3) := by decide +kernel
theorem dX12_foretell_14 : decode cX12_foretell 14 = .ok (.iconst (-1), 1) := by decide +kernel
theorem dX12_foretell_15 : decode cX12_foretell 15 = .ok (.istore_n 1, 1) := by decide +kernel
theorem dX12_foretell_16 : decode cX12_foretell 16 = .ok (.iconst 0, 1) := by decide +kernel
theorem dX12_foretell_17 : decode cX12_foretell 17 = .ok (.istore_n 2, 1) := by decide +kernel
theorem dX12_foretell_18 : decode cX12_foretell 18 = .ok (.iload_n 2, 1) := by decide +kernel
theorem dX12_foretell_19 : decode cX12_foretell 19 = .ok (.bipush 60, 2) := by decide +kernel
theorem dX12_foretell_21 : decode cX12_foretell 21 = .ok (.if_icmp .gt 31, 3) := by decide +kernel
theorem dX12_foretell_24 : decode cX12_foretell 24 = .ok (.iload_n 1, 1) := by decide +kernel
theorem dX12_foretell_25 : decode cX12_foretell 25 = .ok (.iconst (-1), 1) := by decide +kernel
theorem dX12_foretell_26 : decode cX12_foretell 26 = .ok (.if_icmp .ne 26, 3) := by decide +kernel
theorem dX12_foretell_29 : decode cX12_foretell 29 = .ok (.iload_n 2, 1) := by decide +kernel
theorem dX12_foretell_30 : decode cX12_foretell 30 = .ok (.ifCond .le 7, 3) := by decide +kernel
theorem dX12_foretell_33 : decode cX12_foretell 33 = .ok (.aload_n 0, 1) := by decide +kernel
theorem dX12_foretell_34 : decode cX12_foretell 34 = .ok (.invokevirtual 339, 3) := by decide +kernel
theorem dX12_foretell_37 : decode cX12_foretell 37 = .ok (.aload_n 0, 1) := by decide +kernel
theorem dX12_foretell_38 : decode cX12_foretell 38 = .ok (.invokevirtual 334, 3) := by decide +kernel
theorem dX12_foretell_41 : decode cX12_foretell 41 = .ok (.ifCond .eq 5, 3) := by decide +kernel
theorem dX12_foretell_44 : decode cX12_foretell 44 = .ok (.iload_n 2, 1) := by decide +kernel
theorem dX12_foretell_45 : decode cX12_foretell 45 = .ok (.istore_n 1, 1) := by decide +kernel
theorem dX12_foretell_46 : decode cX12_foretell 46 = .ok (.iinc 2 1, 3) := by decide +kernel
theorem dX12_foretell_49 : decode cX12_foretell 49 = .ok (.goto (-31), 3) := by decide +kernel
theorem dX12_foretell_52 : decode cX12_foretell 52 = .ok (.aload_n 0, 1) := by decide +kernel
theorem dX12_foretell_53 : decode cX12_foretell 53 = .ok (.invokevirtual 407, 3) := by decide +kernel
theorem dX12_foretell_56 : decode cX12_foretell 56 = .ok (.iload_n 1, 1) := by decide +kernel
theorem dX12_foretell_57 : decode cX12_foretell 57 = .ok (.ireturn, 1) := by decide +kernel
theorem cw_X12_foretell_407 : CwV mi_X12_foretell mi_X12_putsBack yX12_putsBack RX12 407 0 := ⟨⟨w_1701, w_1703, w_91, w_108, w_1704⟩, ⟨by decide, by decide⟩, by decide +kernel, by decide, by decide⟩
theorem cw_X12_foretell_334 : CwV mi_X12_foretell mi_X12_isShut yX12_isShut RX12 334 0 := ⟨⟨w_1559, w_1561, w_75, w_108, w_1562⟩, ⟨by decide, by decide⟩, by decide +kernel, by decide, by decide⟩
theorem cw_X12_foretell_339 : CwV mi_X12_foretell mi_X12_ticks yX12_ticks RX12 339 0 := ⟨⟨w_1507, w_1509, w_64, w_108, w_1510⟩, ⟨by decide, by decide⟩, by decide +kernel, by decide, by decide⟩
theorem cw_X12_foretell_365 : CwV mi_X12_foretell mi_X12_hasShaft yX12_hasShaft RX12 365 0 := ⟨⟨w_1613, w_1615, w_81, w_108, w_1616⟩, ⟨by decide, by decide⟩, by decide +kernel, by decide, by decide⟩
theorem cw_X12_foretell_404 : CwV mi_X12_foretell mi_X12_saves yX12_saves RX12 404 0 := ⟨⟨w_1697, w_1699, w_90, w_108, w_1700⟩, ⟨by decide, by decide⟩, by decide +kernel, by decide, by decide⟩
theorem j_X12_foretell_B52 {l : Launch} {Γ : Am}   : ∀ (r0 : Nat) (v1 : Int32) (z : Hp), J l Γ mi_X12_foretell cvI 0 0 52 [(0, .ref (mB Γ + r0)), (1, .int v1)] [] z (m_X12_foretell_B52  r0 v1 z) := by
  intro r0 v1 z
  unfold m_X12_foretell_B52
  refine j_aload_n (pc := 52) 0 dX12_foretell_52 rfl rfl ?_
  refine j_isC (fun h2 => ?_)
  refine j_callV_V (pc := 53) (as := []) (mc2 := 0) (ms2 := 0) (ct_X12_putsBack _ _) h2 rfl cw_X12_foretell_407 dX12_foretell_53 (Nat.le_of_ble_eq_true rfl) rfl (by decide) (by decide) (fun _ z1 => ?_)
  refine j_iload_n (pc := 56) 1 dX12_foretell_56 rfl rfl ?_
  exact j_ireturn (pc := 57) dX12_foretell_57 rfl rfl
theorem j_X12_foretell_B46 {l : Launch} {Γ : Am} {k18 : Nat → Int32 → Int32 → Hp → Option (Int32 × Hp)} (hL18 : ∀ (r0 : Nat) (v1 : Int32) (v2 : Int32) (z : Hp), J l Γ mi_X12_foretell cvI 0 0 18 [(0, .ref (mB Γ + r0)), (1, .int v1), (2, .int v2)] [] z (k18 r0 v1 v2 z)) : ∀ (r0 : Nat) (v1 : Int32) (v2 : Int32) (z : Hp), J l Γ mi_X12_foretell cvI 0 0 46 [(0, .ref (mB Γ + r0)), (1, .int v1), (2, .int v2)] [] z (m_X12_foretell_B46 k18 r0 v1 v2 z) := by
  intro r0 v1 v2 z
  unfold m_X12_foretell_B46
  refine j_iinc (pc := 46) (n0 := 2) (v0 := v2 + 1) (lv2 := [(2, .int (v2 + 1)), (0, .ref (mB Γ + r0)), (1, .int v1)]) dX12_foretell_46 rfl rfl (by decide) rfl ?_
  refine j_goto (pc := 49) 18 dX12_foretell_49 (by decide) ?_
  exact J.sub [1, 2, 0] rfl (hL18 r0 v1 (v2 + 1) z)
theorem j_X12_foretell_B37 {l : Launch} {Γ : Am} {k18 : Nat → Int32 → Int32 → Hp → Option (Int32 × Hp)} (hL18 : ∀ (r0 : Nat) (v1 : Int32) (v2 : Int32) (z : Hp), J l Γ mi_X12_foretell cvI 0 0 18 [(0, .ref (mB Γ + r0)), (1, .int v1), (2, .int v2)] [] z (k18 r0 v1 v2 z)) : ∀ (r0 : Nat) (v1 : Int32) (v2 : Int32) (z : Hp), J l Γ mi_X12_foretell cvI 0 0 37 [(0, .ref (mB Γ + r0)), (1, .int v1), (2, .int v2)] [] z (m_X12_foretell_B37 k18 r0 v1 v2 z) := by
  intro r0 v1 v2 z
  unfold m_X12_foretell_B37
  refine j_aload_n (pc := 37) 0 dX12_foretell_37 rfl rfl ?_
  refine j_isC (fun h5 => ?_)
  refine j_callV_I (pc := 38) (as := []) (mc2 := 0) (ms2 := 0) (ct_X12_isShut _ _) h5 rfl cw_X12_foretell_334 dX12_foretell_38 (Nat.le_of_ble_eq_true rfl) rfl (by decide) (by decide) (fun x4 z3 => ?_)
  refine j_if_eq (pc := 41) 46 dX12_foretell_41 (by decide) ?_ ?_
  · exact J.sub [0, 1, 2] rfl ((j_X12_foretell_B46 hL18) r0 v1 v2 z3)
  refine j_iload_n (pc := 44) 2 dX12_foretell_44 rfl rfl ?_
  refine j_istore_n (pc := 45) (lv2 := [(1, .int v2), (0, .ref (mB Γ + r0)), (2, .int v2)]) dX12_foretell_45 rfl (by decide) rfl ?_
  exact J.sub [1, 0, 2] rfl ((j_X12_foretell_B46 hL18) r0 v2 v2 z3)
theorem j_X12_foretell_L18 {l : Launch} {Γ : Am} {k52 : Nat → Int32 → Hp → Option (Int32 × Hp)} (hL52 : ∀ (r0 : Nat) (v1 : Int32) (z : Hp), J l Γ mi_X12_foretell cvI 0 0 52 [(0, .ref (mB Γ + r0)), (1, .int v1)] [] z (k52 r0 v1 z)) : ∀ (f : Nat), ∀ (r0 : Nat) (v1 : Int32) (v2 : Int32) (z : Hp), J l Γ mi_X12_foretell cvI 0 0 18 [(0, .ref (mB Γ + r0)), (1, .int v1), (2, .int v2)] [] z (m_X12_foretell_L18 k52 f r0 v1 v2 z) := by
  intro f
  induction f with
  | zero => intro r0 v1 v2 z; exact J.none
  | succ f hL18 =>
    intro r0 v1 v2 z
    rw [m_X12_foretell_L18]
    refine j_iload_n (pc := 18) 2 dX12_foretell_18 rfl rfl ?_
    refine j_bipush (pc := 19) (v := 60) dX12_foretell_19 (by decide) ?_
    refine j_icmp_gt (pc := 21) 52 dX12_foretell_21 (by decide) ?_ ?_
    · exact J.sub [0, 1] rfl (hL52 r0 v1 z)
    refine j_iload_n (pc := 24) 1 dX12_foretell_24 rfl rfl ?_
    refine j_iconst (pc := 25) (v := (-1)) dX12_foretell_25 (by decide) ?_
    refine j_icmp_ne (pc := 26) 52 dX12_foretell_26 (by decide) ?_ ?_
    · exact J.sub [0, 1] rfl (hL52 r0 v1 z)
    refine j_iload_n (pc := 29) 2 dX12_foretell_29 rfl rfl ?_
    refine j_if_le (pc := 30) 37 dX12_foretell_30 (by decide) ?_ ?_
    · exact J.sub [0, 1, 2] rfl ((j_X12_foretell_B37 hL18) r0 v1 v2 z)
    refine j_aload_n (pc := 33) 0 dX12_foretell_33 rfl rfl ?_
    refine j_isC (fun h7 => ?_)
    refine j_callV_V (pc := 34) (as := []) (mc2 := 0) (ms2 := 0) (ct_X12_ticks _ _) h7 rfl cw_X12_foretell_339 dX12_foretell_34 (Nat.le_of_ble_eq_true rfl) rfl (by decide) (by decide) (fun _ z6 => ?_)
    exact J.sub [0, 1, 2] rfl ((j_X12_foretell_B37 hL18) r0 v1 v2 z6)
theorem ct_X12_foretell {l : Launch} {Γ : Am} (r0 : Nat) (z : Hp) : Ct l Γ yX12_foretell mi_X12_foretell cvI [.ref (mB Γ + r0)] z (m_X12_foretell r0 z) := by
  refine Ct.ofJ (by decide) ⟨rfl, rfl⟩ (Nat.le_of_ble_eq_true rfl) ?_
  unfold m_X12_foretell
  show J l Γ mi_X12_foretell cvI 0 0 0 [(0, .ref (mB Γ + r0))] [] z _
  refine j_aload_n (pc := 0) 0 dX12_foretell_0 rfl rfl ?_
  refine j_isC (fun h10 => ?_)
  refine j_callV_I (pc := 1) (as := []) (mc2 := 0) (ms2 := 0) (ct_X12_hasShaft _ _) h10 rfl cw_X12_foretell_365 dX12_foretell_1 (Nat.le_of_ble_eq_true rfl) rfl (by decide) (by decide) (fun x9 z8 => ?_)
  refine j_if_ne (pc := 4) 10 dX12_foretell_4 (by decide) ?_ ?_
  · refine j_aload_n (pc := 10) 0 dX12_foretell_10 rfl rfl ?_
    refine j_isC (fun h12 => ?_)
    refine j_callV_V (pc := 11) (as := []) (mc2 := 0) (ms2 := 0) (ct_X12_saves _ _) h12 rfl cw_X12_foretell_404 dX12_foretell_11 (Nat.le_of_ble_eq_true rfl) rfl (by decide) (by decide) (fun _ z11 => ?_)
    refine j_iconst (pc := 14) (v := (-1)) dX12_foretell_14 (by decide) ?_
    refine j_istore_n (pc := 15) (lv2 := [(1, .int (-1)), (0, .ref (mB Γ + r0))]) dX12_foretell_15 rfl (by decide) rfl ?_
    refine j_iconst (pc := 16) (v := 0) dX12_foretell_16 (by decide) ?_
    refine j_istore_n (pc := 17) (lv2 := [(2, .int 0), (1, .int (-1)), (0, .ref (mB Γ + r0))]) dX12_foretell_17 rfl (by decide) rfl ?_
    exact J.sub [2, 1, 0] rfl ((j_X12_foretell_L18 j_X12_foretell_B52 FU) r0 (-1) 0 z11)
  refine j_bipush (pc := 7) (v := (-6)) dX12_foretell_7 (by decide) ?_
  exact j_ireturn (pc := 9) dX12_foretell_9 rfl rfl
theorem dX12_off_0 : decode cX12_off 0 = .ok (.aload_n 0, 1) := by decide +kernel
theorem dX12_off_1 : decode cX12_off 1 = .ok (.invokevirtual 365, 3) := by decide +kernel
theorem dX12_off_4 : decode cX12_off 4 = .ok (.ifCond .ne 6, 3) := by decide +kernel
theorem dX12_off_7 : decode cX12_off 7 = .ok (.bipush (-6), 2) := by decide +kernel
theorem dX12_off_9 : decode cX12_off 9 = .ok (.ireturn, 1) := by decide +kernel
theorem dX12_off_10 : decode cX12_off 10 = .ok (.aload_n 0, 1) := by decide +kernel
theorem dX12_off_11 : decode cX12_off 11 = .ok (.invokevirtual 334, 3) := by decide +kernel
theorem dX12_off_14 : decode cX12_off 14 = .ok (.ifCond .ne 6, 3) := by decide +kernel
theorem dX12_off_17 : decode cX12_off 17 = .ok (.bipush (-5), 2) := by decide +kernel
theorem dX12_off_19 : decode cX12_off 19 = .ok (.ireturn, 1) := by decide +kernel
theorem dX12_off_20 : decode cX12_off 20 = .ok (.aload_n 0, 1) := by decide +kernel
theorem dX12_off_21 : decode cX12_off 21 = .ok (.invokevirtual 404, 3) := by decide +kernel
theorem dX12_off_24 : decode cX12_off 24 = .ok (.iconst 0, 1) := by decide +kernel
theorem dX12_off_25 : decode cX12_off 25 = .ok (.istore_n 1, 1) := by decide +kernel
theorem dX12_off_26 : decode cX12_off 26 = .ok (.iload_n 1, 1) := by decide +kernel
theorem dX12_off_27 : decode cX12_off 27 = .ok (.aload_n 0, 1) := by decide +kernel
theorem dX12_off_28 : decode cX12_off 28 = .ok (.getfield 13, 3) := by decide +kernel
theorem dX12_off_31 : decode cX12_off 31 = .ok (.iconst 2, 1) := by decide +kernel
theorem dX12_off_32 : decode cX12_off 32 = .ok (.iaload, 1) := by decide +kernel
theorem dX12_off_33 : decode cX12_off 33 = .ok (.if_icmp .ge 25, 3) := by decide +kernel
theorem dX12_off_36 : decode cX12_off 36 = .ok (.aload_n 0, 1) := by decide +kernel
theorem dX12_off_37 : decode cX12_off 37 = .ok (.getfield 13, 3) := by decide +kernel
theorem dX12_off_40 : decode cX12_off 40 = .ok (.sipush 624, 3) := by decide +kernel
theorem dX12_off_43 : decode cX12_off 43 = .ok (.bipush 6, 2) := by decide +kernel
theorem dX12_off_45 : decode cX12_off 45 = .ok (.iload_n 1, 1) := by decide +kernel
theorem dX12_off_46 : decode cX12_off 46 = .ok (.imul, 1) := by decide +kernel
theorem dX12_off_47 : decode cX12_off 47 = .ok (.iadd, 1) := by decide +kernel
theorem dX12_off_48 : decode cX12_off 48 = .ok (.iconst 3, 1) := by decide +kernel
theorem dX12_off_49 : decode cX12_off 49 = .ok (.iadd, 1) := by decide +kernel
theorem dX12_off_50 : decode cX12_off 50 = .ok (.iconst 0, 1) := by decide +kernel
theorem dX12_off_51 : decode cX12_off 51 = .ok (.iastore, 1) := by decide +kernel
theorem dX12_off_52 : decode cX12_off 52 = .ok (.iinc 1 1, 3) := by decide +kernel
theorem dX12_off_55 : decode cX12_off 55 = .ok (.goto (-29), 3) := by decide +kernel
theorem dX12_off_58 : decode cX12_off 58 = .ok (.iconst (-1), 1) := by decide +kernel
theorem dX12_off_59 : decode cX12_off 59 = .ok (.istore_n 1, 1) := by decide +kernel
theorem dX12_off_60 : decode cX12_off 60 = .ok (.iconst 1, 1) := by decide +kernel
theorem dX12_off_61 : decode cX12_off 61 = .ok (.istore_n 2, 1) := by decide +kernel
theorem dX12_off_62 : decode cX12_off 62 = .ok (.iload_n 2, 1) := by decide +kernel
theorem dX12_off_63 : decode cX12_off 63 = .ok (.bipush 60, 2) := by decide +kernel
theorem dX12_off_65 : decode cX12_off 65 = .ok (.if_icmp .gt 27, 3) := by decide +kernel
theorem dX12_off_68 : decode cX12_off 68 = .ok (.iload_n 1, 1) := by decide +kernel
theorem dX12_off_69 : decode cX12_off 69 = .ok (.iconst (-1), 1) := by decide +kernel
theorem dX12_off_70 : decode cX12_off 70 = .ok (.if_icmp .ne 22, 3) := by decide +kernel
theorem dX12_off_73 : decode cX12_off 73 = .ok (.aload_n 0, 1) := by decide +kernel
theorem dX12_off_74 : decode cX12_off 74 = .ok (.invokevirtual 339, 3) := by decide +kernel
theorem dX12_off_77 : decode cX12_off 77 = .ok (.aload_n 0, 1) := by decide +kernel
theorem dX12_off_78 : decode cX12_off 78 = .ok (.invokevirtual 334, 3) := by decide +kernel
theorem dX12_off_81 : decode cX12_off 81 = .ok (.ifCond .ne 5, 3) := by decide +kernel
theorem dX12_off_84 : decode cX12_off 84 = .ok (.iload_n 2, 1) := by decide +kernel
theorem dX12_off_85 : decode cX12_off 85 = .ok (.istore_n 1, 1) := by decide +kernel
theorem dX12_off_86 : decode cX12_off 86 = .ok (.iinc 2 1, 3) := by decide +kernel
theorem dX12_off_89 : decode cX12_off 89 = .ok (.goto (-27), 3) := by decide +kernel
theorem dX12_off_92 : decode cX12_off 92 = .ok (.aload_n 0, 1) := by decide +kernel
theorem dX12_off_93 : decode cX12_off 93 = .ok (.invokevirtual 407, 3) := by decide +kernel
theorem dX12_off_96 : decode cX12_off 96 = .ok (.iload_n 1, 1) := by decide +kernel
theorem dX12_off_97 : decode cX12_off 97 = .ok (.ireturn, 1) := by decide +kernel
theorem cw_X12_off_407 : CwV mi_X12_off mi_X12_putsBack yX12_putsBack RX12 407 0 := ⟨⟨w_1701, w_1703, w_91, w_108, w_1704⟩, ⟨by decide, by decide⟩, by decide +kernel, by decide, by decide⟩
theorem cw_X12_off_339 : CwV mi_X12_off mi_X12_ticks yX12_ticks RX12 339 0 := ⟨⟨w_1507, w_1509, w_64, w_108, w_1510⟩, ⟨by decide, by decide⟩, by decide +kernel, by decide, by decide⟩
theorem cw_X12_off_334 : CwV mi_X12_off mi_X12_isShut yX12_isShut RX12 334 0 := ⟨⟨w_1559, w_1561, w_75, w_108, w_1562⟩, ⟨by decide, by decide⟩, by decide +kernel, by decide, by decide⟩
theorem cw_X12_off_365 : CwV mi_X12_off mi_X12_hasShaft yX12_hasShaft RX12 365 0 := ⟨⟨w_1613, w_1615, w_81, w_108, w_1616⟩, ⟨by decide, by decide⟩, by decide +kernel, by decide, by decide⟩
theorem cw_X12_off_404 : CwV mi_X12_off mi_X12_saves yX12_saves RX12 404 0 := ⟨⟨w_1697, w_1699, w_90, w_108, w_1700⟩, ⟨by decide, by decide⟩, by decide +kernel, by decide, by decide⟩
theorem j_X12_off_B92 {l : Launch} {Γ : Am}   : ∀ (r0 : Nat) (v1 : Int32) (z : Hp), J l Γ mi_X12_off cvI 0 0 92 [(0, .ref (mB Γ + r0)), (1, .int v1)] [] z (m_X12_off_B92  r0 v1 z) := by
  intro r0 v1 z
  unfold m_X12_off_B92
  refine j_aload_n (pc := 92) 0 dX12_off_92 rfl rfl ?_
  refine j_isC (fun h2 => ?_)
  refine j_callV_V (pc := 93) (as := []) (mc2 := 0) (ms2 := 0) (ct_X12_putsBack _ _) h2 rfl cw_X12_off_407 dX12_off_93 (Nat.le_of_ble_eq_true rfl) rfl (by decide) (by decide) (fun _ z1 => ?_)
  refine j_iload_n (pc := 96) 1 dX12_off_96 rfl rfl ?_
  exact j_ireturn (pc := 97) dX12_off_97 rfl rfl
theorem j_X12_off_B86 {l : Launch} {Γ : Am} {k62 : Nat → Int32 → Int32 → Hp → Option (Int32 × Hp)} (hL62 : ∀ (r0 : Nat) (v1 : Int32) (v2 : Int32) (z : Hp), J l Γ mi_X12_off cvI 0 0 62 [(0, .ref (mB Γ + r0)), (1, .int v1), (2, .int v2)] [] z (k62 r0 v1 v2 z)) : ∀ (r0 : Nat) (v1 : Int32) (v2 : Int32) (z : Hp), J l Γ mi_X12_off cvI 0 0 86 [(0, .ref (mB Γ + r0)), (1, .int v1), (2, .int v2)] [] z (m_X12_off_B86 k62 r0 v1 v2 z) := by
  intro r0 v1 v2 z
  unfold m_X12_off_B86
  refine j_iinc (pc := 86) (n0 := 2) (v0 := v2 + 1) (lv2 := [(2, .int (v2 + 1)), (0, .ref (mB Γ + r0)), (1, .int v1)]) dX12_off_86 rfl rfl (by decide) rfl ?_
  refine j_goto (pc := 89) 62 dX12_off_89 (by decide) ?_
  exact J.sub [1, 2, 0] rfl (hL62 r0 v1 (v2 + 1) z)
theorem j_X12_off_L62 {l : Launch} {Γ : Am} {k92 : Nat → Int32 → Hp → Option (Int32 × Hp)} (hL92 : ∀ (r0 : Nat) (v1 : Int32) (z : Hp), J l Γ mi_X12_off cvI 0 0 92 [(0, .ref (mB Γ + r0)), (1, .int v1)] [] z (k92 r0 v1 z)) : ∀ (f : Nat), ∀ (r0 : Nat) (v1 : Int32) (v2 : Int32) (z : Hp), J l Γ mi_X12_off cvI 0 0 62 [(0, .ref (mB Γ + r0)), (1, .int v1), (2, .int v2)] [] z (m_X12_off_L62 k92 f r0 v1 v2 z) := by
  intro f
  induction f with
  | zero => intro r0 v1 v2 z; exact J.none
  | succ f hL62 =>
    intro r0 v1 v2 z
    rw [m_X12_off_L62]
    refine j_iload_n (pc := 62) 2 dX12_off_62 rfl rfl ?_
    refine j_bipush (pc := 63) (v := 60) dX12_off_63 (by decide) ?_
    refine j_icmp_gt (pc := 65) 92 dX12_off_65 (by decide) ?_ ?_
    · exact J.sub [0, 1] rfl (hL92 r0 v1 z)
    refine j_iload_n (pc := 68) 1 dX12_off_68 rfl rfl ?_
    refine j_iconst (pc := 69) (v := (-1)) dX12_off_69 (by decide) ?_
    refine j_icmp_ne (pc := 70) 92 dX12_off_70 (by decide) ?_ ?_
    · exact J.sub [0, 1] rfl (hL92 r0 v1 z)
    refine j_aload_n (pc := 73) 0 dX12_off_73 rfl rfl ?_
    refine j_isC (fun h4 => ?_)
    refine j_callV_V (pc := 74) (as := []) (mc2 := 0) (ms2 := 0) (ct_X12_ticks _ _) h4 rfl cw_X12_off_339 dX12_off_74 (Nat.le_of_ble_eq_true rfl) rfl (by decide) (by decide) (fun _ z3 => ?_)
    refine j_aload_n (pc := 77) 0 dX12_off_77 rfl rfl ?_
    refine j_isC (fun h7 => ?_)
    refine j_callV_I (pc := 78) (as := []) (mc2 := 0) (ms2 := 0) (ct_X12_isShut _ _) h7 rfl cw_X12_off_334 dX12_off_78 (Nat.le_of_ble_eq_true rfl) rfl (by decide) (by decide) (fun x6 z5 => ?_)
    refine j_if_ne (pc := 81) 86 dX12_off_81 (by decide) ?_ ?_
    · exact J.sub [0, 1, 2] rfl ((j_X12_off_B86 hL62) r0 v1 v2 z5)
    refine j_iload_n (pc := 84) 2 dX12_off_84 rfl rfl ?_
    refine j_istore_n (pc := 85) (lv2 := [(1, .int v2), (0, .ref (mB Γ + r0)), (2, .int v2)]) dX12_off_85 rfl (by decide) rfl ?_
    exact J.sub [1, 0, 2] rfl ((j_X12_off_B86 hL62) r0 v2 v2 z5)
theorem j_X12_off_B58 {l : Launch} {Γ : Am}   : ∀ (r0 : Nat) (z : Hp), J l Γ mi_X12_off cvI 0 0 58 [(0, .ref (mB Γ + r0))] [] z (m_X12_off_B58  r0 z) := by
  intro r0 z
  unfold m_X12_off_B58
  refine j_iconst (pc := 58) (v := (-1)) dX12_off_58 (by decide) ?_
  refine j_istore_n (pc := 59) (lv2 := [(1, .int (-1)), (0, .ref (mB Γ + r0))]) dX12_off_59 rfl (by decide) rfl ?_
  refine j_iconst (pc := 60) (v := 1) dX12_off_60 (by decide) ?_
  refine j_istore_n (pc := 61) (lv2 := [(2, .int 1), (1, .int (-1)), (0, .ref (mB Γ + r0))]) dX12_off_61 rfl (by decide) rfl ?_
  exact J.sub [2, 1, 0] rfl ((j_X12_off_L62 j_X12_off_B92 FU) r0 (-1) 1 z)
theorem j_X12_off_L26 {l : Launch} {Γ : Am} {k58 : Nat → Hp → Option (Int32 × Hp)} (hL58 : ∀ (r0 : Nat) (z : Hp), J l Γ mi_X12_off cvI 0 0 58 [(0, .ref (mB Γ + r0))] [] z (k58 r0 z)) : ∀ (f : Nat), ∀ (r0 : Nat) (v1 : Int32) (z : Hp), J l Γ mi_X12_off cvI 0 0 26 [(0, .ref (mB Γ + r0)), (1, .int v1)] [] z (m_X12_off_L26 k58 f r0 v1 z) := by
  intro f
  induction f with
  | zero => intro r0 v1 z; exact J.none
  | succ f hL26 =>
    intro r0 v1 z
    rw [m_X12_off_L26]
    refine j_iload_n (pc := 26) 1 dX12_off_26 rfl rfl ?_
    refine j_aload_n (pc := 27) 0 dX12_off_27 rfl rfl ?_
    refine j_getR (pc := 28) ok_X12 (by decide) rfl w_1239 dX12_off_28 (fun a8 => ?_)
    refine j_iconst (pc := 31) (v := 2) dX12_off_31 (by decide) ?_
    refine j_iaload (pc := 32) dX12_off_32 (fun x9 => ?_)
    refine j_icmp_ge (pc := 33) 58 dX12_off_33 (by decide) ?_ ?_
    · exact J.sub [0] rfl (hL58 r0 z)
    refine j_aload_n (pc := 36) 0 dX12_off_36 rfl rfl ?_
    refine j_getR (pc := 37) ok_X12 (by decide) rfl w_1239 dX12_off_37 (fun a10 => ?_)
    refine j_sipush (pc := 40) (v := 624) dX12_off_40 (by decide) ?_
    refine j_bipush (pc := 43) (v := 6) dX12_off_43 (by decide) ?_
    refine j_iload_n (pc := 45) 1 dX12_off_45 rfl rfl ?_
    refine j_imul (pc := 46) dX12_off_46 ?_
    refine j_iadd (pc := 47) dX12_off_47 ?_
    refine j_iconst (pc := 48) (v := 3) dX12_off_48 (by decide) ?_
    refine j_iadd (pc := 49) dX12_off_49 ?_
    refine j_iconst (pc := 50) (v := 0) dX12_off_50 (by decide) ?_
    refine j_iastore (pc := 51) dX12_off_51 (fun z11 => ?_)
    refine j_iinc (pc := 52) (n0 := 1) (v0 := v1 + 1) (lv2 := [(1, .int (v1 + 1)), (0, .ref (mB Γ + r0))]) dX12_off_52 rfl rfl (by decide) rfl ?_
    refine j_goto (pc := 55) 26 dX12_off_55 (by decide) ?_
    exact J.sub [1, 0] rfl (hL26 r0 (v1 + 1) z11)
theorem ct_X12_off {l : Launch} {Γ : Am} (r0 : Nat) (z : Hp) : Ct l Γ yX12_off mi_X12_off cvI [.ref (mB Γ + r0)] z (m_X12_off r0 z) := by
  refine Ct.ofJ (by decide) ⟨rfl, rfl⟩ (Nat.le_of_ble_eq_true rfl) ?_
  unfold m_X12_off
  show J l Γ mi_X12_off cvI 0 0 0 [(0, .ref (mB Γ + r0))] [] z _
  refine j_aload_n (pc := 0) 0 dX12_off_0 rfl rfl ?_
  refine j_isC (fun h14 => ?_)
  refine j_callV_I (pc := 1) (as := []) (mc2 := 0) (ms2 := 0) (ct_X12_hasShaft _ _) h14 rfl cw_X12_off_365 dX12_off_1 (Nat.le_of_ble_eq_true rfl) rfl (by decide) (by decide) (fun x13 z12 => ?_)
  refine j_if_ne (pc := 4) 10 dX12_off_4 (by decide) ?_ ?_
  · refine j_aload_n (pc := 10) 0 dX12_off_10 rfl rfl ?_
    refine j_isC (fun h17 => ?_)
    refine j_callV_I (pc := 11) (as := []) (mc2 := 0) (ms2 := 0) (ct_X12_isShut _ _) h17 rfl cw_X12_off_334 dX12_off_11 (Nat.le_of_ble_eq_true rfl) rfl (by decide) (by decide) (fun x16 z15 => ?_)
    refine j_if_ne (pc := 14) 20 dX12_off_14 (by decide) ?_ ?_
    · refine j_aload_n (pc := 20) 0 dX12_off_20 rfl rfl ?_
      refine j_isC (fun h19 => ?_)
      refine j_callV_V (pc := 21) (as := []) (mc2 := 0) (ms2 := 0) (ct_X12_saves _ _) h19 rfl cw_X12_off_404 dX12_off_21 (Nat.le_of_ble_eq_true rfl) rfl (by decide) (by decide) (fun _ z18 => ?_)
      refine j_iconst (pc := 24) (v := 0) dX12_off_24 (by decide) ?_
      refine j_istore_n (pc := 25) (lv2 := [(1, .int 0), (0, .ref (mB Γ + r0))]) dX12_off_25 rfl (by decide) rfl ?_
      exact J.sub [1, 0] rfl ((j_X12_off_L26 j_X12_off_B58 FU) r0 0 z18)
    refine j_bipush (pc := 17) (v := (-5)) dX12_off_17 (by decide) ?_
    exact j_ireturn (pc := 19) dX12_off_19 rfl rfl
  refine j_bipush (pc := 7) (v := (-6)) dX12_off_7 (by decide) ?_
  exact j_ireturn (pc := 9) dX12_off_9 rfl rfl
theorem dX12_shutsBy_0 : decode cX12_shutsBy 0 = .ok (.aload_n 0, 1) := by decide +kernel
theorem dX12_shutsBy_1 : decode cX12_shutsBy 1 = .ok (.invokevirtual 404, 3) := by decide +kernel
theorem dX12_shutsBy_4 : decode cX12_shutsBy 4 = .ok (.iconst 0, 1) := by decide +kernel
theorem dX12_shutsBy_5 : decode cX12_shutsBy 5 = .ok (.istore 4, 2) := by decide +kernel
theorem dX12_shutsBy_7 : decode cX12_shutsBy 7 = .ok (.iload 4, 2) := by decide +kernel
theorem dX12_shutsBy_9 : decode cX12_shutsBy 9 = .ok (.aload_n 0, 1) := by decide +kernel
theorem dX12_shutsBy_10 : decode cX12_shutsBy 10 = .ok (.getfield 73, 3) := by decide +kernel
theorem dX12_shutsBy_13 : decode cX12_shutsBy 13 = .ok (.iload_n 1, 1) := by decide +kernel
theorem dX12_shutsBy_14 : decode cX12_shutsBy 14 = .ok (.iaload, 1) := by decide +kernel
theorem dX12_shutsBy_15 : decode cX12_shutsBy 15 = .ok (.if_icmp .ge 137, 3) := by decide +kernel
theorem dX12_shutsBy_18 : decode cX12_shutsBy 18 = .ok (.iload_n 2, 1) := by decide +kernel
theorem dX12_shutsBy_19 : decode cX12_shutsBy 19 = .ok (.iload 4, 2) := by decide +kernel
theorem dX12_shutsBy_21 : decode cX12_shutsBy 21 = .ok (.ishr, 1) := by decide +kernel
theorem dX12_shutsBy_22 : decode cX12_shutsBy 22 = .ok (.iconst 1, 1) := by decide +kernel
theorem dX12_shutsBy_23 : decode cX12_shutsBy 23 = .ok (.iand, 1) := by decide +kernel
theorem dX12_shutsBy_24 : decode cX12_shutsBy 24 = .ok (.ifCond .ne 6, 3) := by decide +kernel
theorem dX12_shutsBy_27 : decode cX12_shutsBy 27 = .ok (.goto 119, 3) := by decide +kernel
theorem dX12_shutsBy_30 : decode cX12_shutsBy 30 = .ok (.sipush 624, 3) := by decide +kernel
theorem dX12_shutsBy_33 : decode cX12_shutsBy 33 = .ok (.bipush 6, 2) := by decide +kernel
theorem dX12_shutsBy_35 : decode cX12_shutsBy 35 = .ok (.aload_n 0, 1) := by decide +kernel
theorem dX12_shutsBy_36 : decode cX12_shutsBy 36 = .ok (.getfield 13, 3) := by decide +kernel
theorem dX12_shutsBy_39 : decode cX12_shutsBy 39 = .ok (.iconst 2, 1) := by decide +kernel
theorem dX12_shutsBy_40 : decode cX12_shutsBy 40 = .ok (.iaload, 1) := by decide +kernel
theorem dX12_shutsBy_41 : decode cX12_shutsBy 41 = .ok (.imul, 1) := by decide +kernel
theorem dX12_shutsBy_42 : decode cX12_shutsBy 42 = .ok (.iadd, 1) := by decide +kernel
theorem dX12_shutsBy_43 : decode cX12_shutsBy 43 = .ok (.istore 5, 2) := by decide +kernel
theorem dX12_shutsBy_45 : decode cX12_shutsBy 45 = .ok (.iconst 0, 1) := by decide +kernel
theorem dX12_shutsBy_46 : decode cX12_shutsBy 46 = .ok (.istore 6, 2) := by decide +kernel
theorem dX12_shutsBy_48 : decode cX12_shutsBy 48 = .ok (.iload 6, 2) := by decide +kernel
theorem dX12_shutsBy_50 : decode cX12_shutsBy 50 = .ok (.bipush 6, 2) := by decide +kernel
theorem dX12_shutsBy_52 : decode cX12_shutsBy 52 = .ok (.if_icmp .ge 20, 3) := by decide +kernel
theorem dX12_shutsBy_55 : decode cX12_shutsBy 55 = .ok (.aload_n 0, 1) := by decide +kernel
theorem dX12_shutsBy_56 : decode cX12_shutsBy 56 = .ok (.getfield 13, 3) := by decide +kernel
theorem dX12_shutsBy_59 : decode cX12_shutsBy 59 = .ok (.iload 5, 2) := by decide +kernel
theorem dX12_shutsBy_61 : decode cX12_shutsBy 61 = .ok (.iload 6, 2) := by decide +kernel
theorem dX12_shutsBy_63 : decode cX12_shutsBy 63 = .ok (.iadd, 1) := by decide +kernel
theorem dX12_shutsBy_64 : decode cX12_shutsBy 64 = .ok (.iconst 0, 1) := by decide +kernel
theorem dX12_shutsBy_65 : decode cX12_shutsBy 65 = .ok (.iastore, 1) := by decide +kernel
theorem dX12_shutsBy_66 : decode cX12_shutsBy 66 = .ok (.iinc 6 1, 3) := by decide +kernel
theorem dX12_shutsBy_69 : decode cX12_shutsBy 69 = .ok (.goto (-21), 3) := by decide +kernel
theorem dX12_shutsBy_72 : decode cX12_shutsBy 72 = .ok (.aload_n 0, 1) := by decide +kernel
theorem dX12_shutsBy_73 : decode cX12_shutsBy 73 = .ok (.getfield 13, 3) := by decide +kernel
theorem dX12_shutsBy_76 : decode cX12_shutsBy 76 = .ok (.iload 5, 2) := by decide +kernel
theorem dX12_shutsBy_78 : decode cX12_shutsBy 78 = .ok (.aload_n 0, 1) := by decide +kernel
theorem dX12_shutsBy_79 : decode cX12_shutsBy 79 = .ok (.getfield 79, 3) := by decide +kernel
theorem dX12_shutsBy_82 : decode cX12_shutsBy 82 = .ok (.bipush 60, 2) := by decide +kernel
theorem dX12_shutsBy_84 : decode cX12_shutsBy 84 = .ok (.iload_n 1, 1) := by decide +kernel
theorem dX12_shutsBy_85 : decode cX12_shutsBy 85 = .ok (.imul, 1) := by decide +kernel
theorem dX12_shutsBy_86 : decode cX12_shutsBy 86 = .ok (.iload 4, 2) := by decide +kernel
theorem dX12_shutsBy_88 : decode cX12_shutsBy 88 = .ok (.iadd, 1) := by decide +kernel
theorem dX12_shutsBy_89 : decode cX12_shutsBy 89 = .ok (.laload, 1) := by decide +kernel
theorem dX12_shutsBy_90 : decode cX12_shutsBy 90 = .ok (.l2i, 1) := by decide +kernel
theorem dX12_shutsBy_91 : decode cX12_shutsBy 91 = .ok (.iastore, 1) := by decide +kernel
theorem dX12_shutsBy_92 : decode cX12_shutsBy 92 = .ok (.aload_n 0, 1) := by decide +kernel
theorem dX12_shutsBy_93 : decode cX12_shutsBy 93 = .ok (.getfield 13, 3) := by decide +kernel
theorem dX12_shutsBy_96 : decode cX12_shutsBy 96 = .ok (.iload 5, 2) := by decide +kernel
theorem dX12_shutsBy_98 : decode cX12_shutsBy 98 = .ok (.iconst 1, 1) := by decide +kernel
theorem dX12_shutsBy_99 : decode cX12_shutsBy 99 = .ok (.iadd, 1) := by decide +kernel
theorem dX12_shutsBy_100 : decode cX12_shutsBy 100 = .ok (.aload_n 0, 1) := by decide +kernel
theorem dX12_shutsBy_101 : decode cX12_shutsBy 101 = .ok (.getfield 13, 3) := by decide +kernel
theorem dX12_shutsBy_104 : decode cX12_shutsBy 104 = .ok (.sipush 625, 3) := by decide +kernel
theorem dX12_shutsBy_107 : decode cX12_shutsBy 107 = .ok (.iaload, 1) := by decide +kernel
theorem dX12_shutsBy_108 : decode cX12_shutsBy 108 = .ok (.iastore, 1) := by decide +kernel
theorem dX12_shutsBy_109 : decode cX12_shutsBy 109 = .ok (.aload_n 0, 1) := by decide +kernel
theorem dX12_shutsBy_110 : decode cX12_shutsBy 110 = .ok (.getfield 13, 3) := by decide +kernel
theorem dX12_shutsBy_113 : decode cX12_shutsBy 113 = .ok (.iload 5, 2) := by decide +kernel
theorem dX12_shutsBy_115 : decode cX12_shutsBy 115 = .ok (.iconst 2, 1) := by decide +kernel
theorem dX12_shutsBy_116 : decode cX12_shutsBy 116 = .ok (.iadd, 1) := by decide +kernel
theorem dX12_shutsBy_117 : decode cX12_shutsBy 117 = .ok (.aload_n 0, 1) := by decide +kernel
theorem dX12_shutsBy_118 : decode cX12_shutsBy 118 = .ok (.getfield 13, 3) := by decide +kernel
theorem dX12_shutsBy_121 : decode cX12_shutsBy 121 = .ok (.sipush 626, 3) := by decide +kernel
theorem dX12_shutsBy_124 : decode cX12_shutsBy 124 = .ok (.iaload, 1) := by decide +kernel
theorem dX12_shutsBy_125 : decode cX12_shutsBy 125 = .ok (.iastore, 1) := by decide +kernel
theorem dX12_shutsBy_126 : decode cX12_shutsBy 126 = .ok (.aload_n 0, 1) := by decide +kernel
theorem dX12_shutsBy_127 : decode cX12_shutsBy 127 = .ok (.getfield 13, 3) := by decide +kernel
theorem dX12_shutsBy_130 : decode cX12_shutsBy 130 = .ok (.iload 5, 2) := by decide +kernel
theorem dX12_shutsBy_132 : decode cX12_shutsBy 132 = .ok (.iconst 3, 1) := by decide +kernel
theorem dX12_shutsBy_133 : decode cX12_shutsBy 133 = .ok (.iadd, 1) := by decide +kernel
theorem dX12_shutsBy_134 : decode cX12_shutsBy 134 = .ok (.iconst 1, 1) := by decide +kernel
theorem dX12_shutsBy_135 : decode cX12_shutsBy 135 = .ok (.iastore, 1) := by decide +kernel
theorem dX12_shutsBy_136 : decode cX12_shutsBy 136 = .ok (.aload_n 0, 1) := by decide +kernel
theorem dX12_shutsBy_137 : decode cX12_shutsBy 137 = .ok (.getfield 13, 3) := by decide +kernel
theorem dX12_shutsBy_140 : decode cX12_shutsBy 140 = .ok (.iconst 2, 1) := by decide +kernel
theorem dX12_shutsBy_141 : decode cX12_shutsBy 141 = .ok (.dup2, 1) := by decide +kernel
theorem dX12_shutsBy_142 : decode cX12_shutsBy 142 = .ok (.iaload, 1) := by decide +kernel
theorem dX12_shutsBy_143 : decode cX12_shutsBy 143 = .ok (.iconst 1, 1) := by decide +kernel
theorem dX12_shutsBy_144 : decode cX12_shutsBy 144 = .ok (.iadd, 1) := by decide +kernel
theorem dX12_shutsBy_145 : decode cX12_shutsBy 145 = .ok (.iastore, 1) := by decide +kernel
theorem dX12_shutsBy_146 : decode cX12_shutsBy 146 = .ok (.iinc 4 1, 3) := by decide +kernel
theorem dX12_shutsBy_149 : decode cX12_shutsBy 149 = .ok (.goto (-142), 3) := by decide +kernel
theorem dX12_shutsBy_152 : decode cX12_shutsBy 152 = .ok (.iconst 0, 1) := by decide +kernel
theorem dX12_shutsBy_153 : decode cX12_shutsBy 153 = .ok (.istore 4, 2) := by decide +kernel
theorem dX12_shutsBy_155 : decode cX12_shutsBy 155 = .ok (.iload 4, 2) := by decide +kernel
theorem dX12_shutsBy_157 : decode cX12_shutsBy 157 = .ok (.iload_n 3, 1) := by decide +kernel
theorem dX12_shutsBy_158 : decode cX12_shutsBy 158 = .ok (.if_icmp .ge 13, 3) := by decide +kernel
theorem dX12_shutsBy_161 : decode cX12_shutsBy 161 = .ok (.aload_n 0, 1) := by decide +kernel
theorem dX12_shutsBy_162 : decode cX12_shutsBy 162 = .ok (.invokevirtual 339, 3) := by decide +kernel
theorem dX12_shutsBy_165 : decode cX12_shutsBy 165 = .ok (.iinc 4 1, 3) := by decide +kernel
theorem dX12_shutsBy_168 : decode cX12_shutsBy 168 = .ok (.goto (-13), 3) := by decide +kernel
theorem dX12_shutsBy_171 : decode cX12_shutsBy 171 = .ok (.aload_n 0, 1) := by decide +kernel
theorem dX12_shutsBy_172 : decode cX12_shutsBy 172 = .ok (.invokevirtual 334, 3) := by decide +kernel
theorem dX12_shutsBy_175 : decode cX12_shutsBy 175 = .ok (.istore 4, 2) := by decide +kernel
theorem dX12_shutsBy_177 : decode cX12_shutsBy 177 = .ok (.aload_n 0, 1) := by decide +kernel
theorem dX12_shutsBy_178 : decode cX12_shutsBy 178 = .ok (.invokevirtual 407, 3) := by decide +kernel
theorem dX12_shutsBy_181 : decode cX12_shutsBy 181 = .ok (.iload 4, 2) := by decide +kernel
theorem dX12_shutsBy_183 : decode cX12_shutsBy 183 = .ok (.ireturn, 1) := by decide +kernel
theorem cw_X12_shutsBy_334 : CwV mi_X12_shutsBy mi_X12_isShut yX12_isShut RX12 334 0 := ⟨⟨w_1559, w_1561, w_75, w_108, w_1562⟩, ⟨by decide, by decide⟩, by decide +kernel, by decide, by decide⟩
theorem cw_X12_shutsBy_407 : CwV mi_X12_shutsBy mi_X12_putsBack yX12_putsBack RX12 407 0 := ⟨⟨w_1701, w_1703, w_91, w_108, w_1704⟩, ⟨by decide, by decide⟩, by decide +kernel, by decide, by decide⟩
theorem cw_X12_shutsBy_339 : CwV mi_X12_shutsBy mi_X12_ticks yX12_ticks RX12 339 0 := ⟨⟨w_1507, w_1509, w_64, w_108, w_1510⟩, ⟨by decide, by decide⟩, by decide +kernel, by decide, by decide⟩
theorem cw_X12_shutsBy_404 : CwV mi_X12_shutsBy mi_X12_saves yX12_saves RX12 404 0 := ⟨⟨w_1697, w_1699, w_90, w_108, w_1700⟩, ⟨by decide, by decide⟩, by decide +kernel, by decide, by decide⟩
theorem j_X12_shutsBy_B171 {l : Launch} {Γ : Am}   : ∀ (r0 : Nat) (z : Hp), J l Γ mi_X12_shutsBy cvI 0 0 171 [(0, .ref (mB Γ + r0))] [] z (m_X12_shutsBy_B171  r0 z) := by
  intro r0 z
  unfold m_X12_shutsBy_B171
  refine j_aload_n (pc := 171) 0 dX12_shutsBy_171 rfl rfl ?_
  refine j_isC (fun h3 => ?_)
  refine j_callV_I (pc := 172) (as := []) (mc2 := 0) (ms2 := 0) (ct_X12_isShut _ _) h3 rfl cw_X12_shutsBy_334 dX12_shutsBy_172 (Nat.le_of_ble_eq_true rfl) rfl (by decide) (by decide) (fun x2 z1 => ?_)
  refine j_istore (pc := 175) (lv2 := [(4, .int x2), (0, .ref (mB Γ + r0))]) dX12_shutsBy_175 (by decide) rfl ?_
  refine j_aload_n (pc := 177) 1 dX12_shutsBy_177 rfl rfl ?_
  refine j_isC (fun h5 => ?_)
  refine j_callV_V (pc := 178) (as := []) (mc2 := 0) (ms2 := 0) (ct_X12_putsBack _ _) h5 rfl cw_X12_shutsBy_407 dX12_shutsBy_178 (Nat.le_of_ble_eq_true rfl) rfl (by decide) (by decide) (fun _ z4 => ?_)
  refine j_iload (pc := 181) 0 dX12_shutsBy_181 rfl ?_
  exact j_zreturn (pc := 183) dX12_shutsBy_183 rfl
theorem j_X12_shutsBy_L155 {l : Launch} {Γ : Am} {k171 : Nat → Hp → Option (Int32 × Hp)} (hL171 : ∀ (r0 : Nat) (z : Hp), J l Γ mi_X12_shutsBy cvI 0 0 171 [(0, .ref (mB Γ + r0))] [] z (k171 r0 z)) : ∀ (f : Nat), ∀ (r0 : Nat) (v3 : Int32) (v4 : Int32) (z : Hp), J l Γ mi_X12_shutsBy cvI 0 0 155 [(0, .ref (mB Γ + r0)), (3, .int v3), (4, .int v4)] [] z (m_X12_shutsBy_L155 k171 f r0 v3 v4 z) := by
  intro f
  induction f with
  | zero => intro r0 v3 v4 z; exact J.none
  | succ f hL155 =>
    intro r0 v3 v4 z
    rw [m_X12_shutsBy_L155]
    refine j_iload (pc := 155) 2 dX12_shutsBy_155 rfl ?_
    refine j_iload_n (pc := 157) 1 dX12_shutsBy_157 rfl rfl ?_
    refine j_icmp_ge (pc := 158) 171 dX12_shutsBy_158 (by decide) ?_ ?_
    · exact J.sub [0] rfl (hL171 r0 z)
    refine j_aload_n (pc := 161) 0 dX12_shutsBy_161 rfl rfl ?_
    refine j_isC (fun h7 => ?_)
    refine j_callV_V (pc := 162) (as := []) (mc2 := 0) (ms2 := 0) (ct_X12_ticks _ _) h7 rfl cw_X12_shutsBy_339 dX12_shutsBy_162 (Nat.le_of_ble_eq_true rfl) rfl (by decide) (by decide) (fun _ z6 => ?_)
    refine j_iinc (pc := 165) (n0 := 2) (v0 := v4 + 1) (lv2 := [(4, .int (v4 + 1)), (0, .ref (mB Γ + r0)), (3, .int v3)]) dX12_shutsBy_165 rfl rfl (by decide) rfl ?_
    refine j_goto (pc := 168) 155 dX12_shutsBy_168 (by decide) ?_
    exact J.sub [1, 2, 0] rfl (hL155 r0 v3 (v4 + 1) z6)
theorem j_X12_shutsBy_B152 {l : Launch} {Γ : Am}   : ∀ (r0 : Nat) (v3 : Int32) (z : Hp), J l Γ mi_X12_shutsBy cvI 0 0 152 [(0, .ref (mB Γ + r0)), (3, .int v3)] [] z (m_X12_shutsBy_B152  r0 v3 z) := by
  intro r0 v3 z
  unfold m_X12_shutsBy_B152
  refine j_iconst (pc := 152) (v := 0) dX12_shutsBy_152 (by decide) ?_
  refine j_istore (pc := 153) (lv2 := [(4, .int 0), (0, .ref (mB Γ + r0)), (3, .int v3)]) dX12_shutsBy_153 (by decide) rfl ?_
  exact J.sub [1, 2, 0] rfl ((j_X12_shutsBy_L155 j_X12_shutsBy_B171 FU) r0 v3 0 z)
theorem j_X12_shutsBy_B146 {l : Launch} {Γ : Am} {k7 : Nat → Int32 → Int32 → Int32 → Int32 → Hp → Option (Int32 × Hp)} (hL7 : ∀ (r0 : Nat) (v1 : Int32) (v2 : Int32) (v3 : Int32) (v4 : Int32) (z : Hp), J l Γ mi_X12_shutsBy cvI 0 0 7 [(0, .ref (mB Γ + r0)), (1, .int v1), (2, .int v2), (3, .int v3), (4, .int v4)] [] z (k7 r0 v1 v2 v3 v4 z)) : ∀ (r0 : Nat) (v1 : Int32) (v2 : Int32) (v3 : Int32) (v4 : Int32) (z : Hp), J l Γ mi_X12_shutsBy cvI 0 0 146 [(0, .ref (mB Γ + r0)), (1, .int v1), (2, .int v2), (3, .int v3), (4, .int v4)] [] z (m_X12_shutsBy_B146 k7 r0 v1 v2 v3 v4 z) := by
  intro r0 v1 v2 v3 v4 z
  unfold m_X12_shutsBy_B146
  refine j_iinc (pc := 146) (n0 := 4) (v0 := v4 + 1) (lv2 := [(4, .int (v4 + 1)), (0, .ref (mB Γ + r0)), (1, .int v1), (2, .int v2), (3, .int v3)]) dX12_shutsBy_146 rfl rfl (by decide) rfl ?_
  refine j_goto (pc := 149) 7 dX12_shutsBy_149 (by decide) ?_
  exact J.sub [1, 2, 3, 4, 0] rfl (hL7 r0 v1 v2 v3 (v4 + 1) z)
theorem j_X12_shutsBy_B72 {l : Launch} {Γ : Am} {k7 : Nat → Int32 → Int32 → Int32 → Int32 → Hp → Option (Int32 × Hp)} (hL7 : ∀ (r0 : Nat) (v1 : Int32) (v2 : Int32) (v3 : Int32) (v4 : Int32) (z : Hp), J l Γ mi_X12_shutsBy cvI 0 0 7 [(0, .ref (mB Γ + r0)), (1, .int v1), (2, .int v2), (3, .int v3), (4, .int v4)] [] z (k7 r0 v1 v2 v3 v4 z)) : ∀ (r0 : Nat) (v1 : Int32) (v2 : Int32) (v3 : Int32) (v4 : Int32) (v5 : Int32) (z : Hp), J l Γ mi_X12_shutsBy cvI 0 0 72 [(0, .ref (mB Γ + r0)), (1, .int v1), (2, .int v2), (3, .int v3), (4, .int v4), (5, .int v5)] [] z (m_X12_shutsBy_B72 k7 r0 v1 v2 v3 v4 v5 z) := by
  intro r0 v1 v2 v3 v4 v5 z
  unfold m_X12_shutsBy_B72
  refine j_aload_n (pc := 72) 0 dX12_shutsBy_72 rfl rfl ?_
  refine j_getR (pc := 73) ok_X12 (by decide) rfl w_1239 dX12_shutsBy_73 (fun a8 => ?_)
  refine j_iload (pc := 76) 5 dX12_shutsBy_76 rfl ?_
  refine j_aload_n (pc := 78) 0 dX12_shutsBy_78 rfl rfl ?_
  refine j_getR (pc := 79) ok_X12 (by decide) rfl w_1276 dX12_shutsBy_79 (fun a9 => ?_)
  refine j_bipush (pc := 82) (v := 60) dX12_shutsBy_82 (by decide) ?_
  refine j_iload_n (pc := 84) 1 dX12_shutsBy_84 rfl rfl ?_
  refine j_imul (pc := 85) dX12_shutsBy_85 ?_
  refine j_iload (pc := 86) 4 dX12_shutsBy_86 rfl ?_
  refine j_iadd (pc := 88) dX12_shutsBy_88 ?_
  refine j_laload (pc := 89) dX12_shutsBy_89 (fun x10 => ?_)
  refine j_l2i (pc := 90) dX12_shutsBy_90 ?_
  refine j_iastore (pc := 91) dX12_shutsBy_91 (fun z11 => ?_)
  refine j_aload_n (pc := 92) 0 dX12_shutsBy_92 rfl rfl ?_
  refine j_getR (pc := 93) ok_X12 (by decide) rfl w_1239 dX12_shutsBy_93 (fun a12 => ?_)
  refine j_iload (pc := 96) 5 dX12_shutsBy_96 rfl ?_
  refine j_iconst (pc := 98) (v := 1) dX12_shutsBy_98 (by decide) ?_
  refine j_iadd (pc := 99) dX12_shutsBy_99 ?_
  refine j_aload_n (pc := 100) 0 dX12_shutsBy_100 rfl rfl ?_
  refine j_getR (pc := 101) ok_X12 (by decide) rfl w_1239 dX12_shutsBy_101 (fun a13 => ?_)
  refine j_sipush (pc := 104) (v := 625) dX12_shutsBy_104 (by decide) ?_
  refine j_iaload (pc := 107) dX12_shutsBy_107 (fun x14 => ?_)
  refine j_iastore (pc := 108) dX12_shutsBy_108 (fun z15 => ?_)
  refine j_aload_n (pc := 109) 0 dX12_shutsBy_109 rfl rfl ?_
  refine j_getR (pc := 110) ok_X12 (by decide) rfl w_1239 dX12_shutsBy_110 (fun a16 => ?_)
  refine j_iload (pc := 113) 5 dX12_shutsBy_113 rfl ?_
  refine j_iconst (pc := 115) (v := 2) dX12_shutsBy_115 (by decide) ?_
  refine j_iadd (pc := 116) dX12_shutsBy_116 ?_
  refine j_aload_n (pc := 117) 0 dX12_shutsBy_117 rfl rfl ?_
  refine j_getR (pc := 118) ok_X12 (by decide) rfl w_1239 dX12_shutsBy_118 (fun a17 => ?_)
  refine j_sipush (pc := 121) (v := 626) dX12_shutsBy_121 (by decide) ?_
  refine j_iaload (pc := 124) dX12_shutsBy_124 (fun x18 => ?_)
  refine j_iastore (pc := 125) dX12_shutsBy_125 (fun z19 => ?_)
  refine j_aload_n (pc := 126) 0 dX12_shutsBy_126 rfl rfl ?_
  refine j_getR (pc := 127) ok_X12 (by decide) rfl w_1239 dX12_shutsBy_127 (fun a20 => ?_)
  refine j_iload (pc := 130) 5 dX12_shutsBy_130 rfl ?_
  refine j_iconst (pc := 132) (v := 3) dX12_shutsBy_132 (by decide) ?_
  refine j_iadd (pc := 133) dX12_shutsBy_133 ?_
  refine j_iconst (pc := 134) (v := 1) dX12_shutsBy_134 (by decide) ?_
  refine j_iastore (pc := 135) dX12_shutsBy_135 (fun z21 => ?_)
  refine j_aload_n (pc := 136) 0 dX12_shutsBy_136 rfl rfl ?_
  refine j_getR (pc := 137) ok_X12 (by decide) rfl w_1239 dX12_shutsBy_137 (fun a22 => ?_)
  refine j_iconst (pc := 140) (v := 2) dX12_shutsBy_140 (by decide) ?_
  refine j_dup2 (pc := 141) dX12_shutsBy_141 rfl rfl ?_
  refine j_iaload (pc := 142) dX12_shutsBy_142 (fun x23 => ?_)
  refine j_iconst (pc := 143) (v := 1) dX12_shutsBy_143 (by decide) ?_
  refine j_iadd (pc := 144) dX12_shutsBy_144 ?_
  refine j_iastore (pc := 145) dX12_shutsBy_145 (fun z24 => ?_)
  exact J.sub [0, 1, 2, 3, 4] rfl ((j_X12_shutsBy_B146 hL7) r0 v1 v2 v3 v4 z24)
theorem j_X12_shutsBy_L48 {l : Launch} {Γ : Am} {k72 : Nat → Int32 → Int32 → Int32 → Int32 → Int32 → Hp → Option (Int32 × Hp)} (hL72 : ∀ (r0 : Nat) (v1 : Int32) (v2 : Int32) (v3 : Int32) (v4 : Int32) (v5 : Int32) (z : Hp), J l Γ mi_X12_shutsBy cvI 0 0 72 [(0, .ref (mB Γ + r0)), (1, .int v1), (2, .int v2), (3, .int v3), (4, .int v4), (5, .int v5)] [] z (k72 r0 v1 v2 v3 v4 v5 z)) : ∀ (f : Nat), ∀ (r0 : Nat) (v1 : Int32) (v2 : Int32) (v3 : Int32) (v4 : Int32) (v5 : Int32) (v6 : Int32) (z : Hp), J l Γ mi_X12_shutsBy cvI 0 0 48 [(0, .ref (mB Γ + r0)), (1, .int v1), (2, .int v2), (3, .int v3), (4, .int v4), (5, .int v5), (6, .int v6)] [] z (m_X12_shutsBy_L48 k72 f r0 v1 v2 v3 v4 v5 v6 z) := by
  intro f
  induction f with
  | zero => intro r0 v1 v2 v3 v4 v5 v6 z; exact J.none
  | succ f hL48 =>
    intro r0 v1 v2 v3 v4 v5 v6 z
    rw [m_X12_shutsBy_L48]
    refine j_iload (pc := 48) 6 dX12_shutsBy_48 rfl ?_
    refine j_bipush (pc := 50) (v := 6) dX12_shutsBy_50 (by decide) ?_
    refine j_icmp_ge (pc := 52) 72 dX12_shutsBy_52 (by decide) ?_ ?_
    · exact J.sub [0, 1, 2, 3, 4, 5] rfl (hL72 r0 v1 v2 v3 v4 v5 z)
    refine j_aload_n (pc := 55) 0 dX12_shutsBy_55 rfl rfl ?_
    refine j_getR (pc := 56) ok_X12 (by decide) rfl w_1239 dX12_shutsBy_56 (fun a25 => ?_)
    refine j_iload (pc := 59) 5 dX12_shutsBy_59 rfl ?_
    refine j_iload (pc := 61) 6 dX12_shutsBy_61 rfl ?_
    refine j_iadd (pc := 63) dX12_shutsBy_63 ?_
    refine j_iconst (pc := 64) (v := 0) dX12_shutsBy_64 (by decide) ?_
    refine j_iastore (pc := 65) dX12_shutsBy_65 (fun z26 => ?_)
    refine j_iinc (pc := 66) (n0 := 6) (v0 := v6 + 1) (lv2 := [(6, .int (v6 + 1)), (0, .ref (mB Γ + r0)), (1, .int v1), (2, .int v2), (3, .int v3), (4, .int v4), (5, .int v5)]) dX12_shutsBy_66 rfl rfl (by decide) rfl ?_
    refine j_goto (pc := 69) 48 dX12_shutsBy_69 (by decide) ?_
    exact J.sub [1, 2, 3, 4, 5, 6, 0] rfl (hL48 r0 v1 v2 v3 v4 v5 (v6 + 1) z26)
theorem j_X12_shutsBy_L7 {l : Launch} {Γ : Am} {k152 : Nat → Int32 → Hp → Option (Int32 × Hp)} (hL152 : ∀ (r0 : Nat) (v3 : Int32) (z : Hp), J l Γ mi_X12_shutsBy cvI 0 0 152 [(0, .ref (mB Γ + r0)), (3, .int v3)] [] z (k152 r0 v3 z)) : ∀ (f : Nat), ∀ (r0 : Nat) (v1 : Int32) (v2 : Int32) (v3 : Int32) (v4 : Int32) (z : Hp), J l Γ mi_X12_shutsBy cvI 0 0 7 [(0, .ref (mB Γ + r0)), (1, .int v1), (2, .int v2), (3, .int v3), (4, .int v4)] [] z (m_X12_shutsBy_L7 k152 f r0 v1 v2 v3 v4 z) := by
  intro f
  induction f with
  | zero => intro r0 v1 v2 v3 v4 z; exact J.none
  | succ f hL7 =>
    intro r0 v1 v2 v3 v4 z
    rw [m_X12_shutsBy_L7]
    refine j_iload (pc := 7) 4 dX12_shutsBy_7 rfl ?_
    refine j_aload_n (pc := 9) 0 dX12_shutsBy_9 rfl rfl ?_
    refine j_getR (pc := 10) ok_X12 (by decide) rfl w_1274 dX12_shutsBy_10 (fun a27 => ?_)
    refine j_iload_n (pc := 13) 1 dX12_shutsBy_13 rfl rfl ?_
    refine j_iaload (pc := 14) dX12_shutsBy_14 (fun x28 => ?_)
    refine j_icmp_ge (pc := 15) 152 dX12_shutsBy_15 (by decide) ?_ ?_
    · exact J.sub [0, 3] rfl (hL152 r0 v3 z)
    refine j_iload_n (pc := 18) 2 dX12_shutsBy_18 rfl rfl ?_
    refine j_iload (pc := 19) 4 dX12_shutsBy_19 rfl ?_
    refine j_ishr (pc := 21) dX12_shutsBy_21 ?_
    refine j_iconst (pc := 22) (v := 1) dX12_shutsBy_22 (by decide) ?_
    refine j_iand (pc := 23) dX12_shutsBy_23 ?_
    refine j_if_ne (pc := 24) 30 dX12_shutsBy_24 (by decide) ?_ ?_
    · refine j_sipush (pc := 30) (v := 624) dX12_shutsBy_30 (by decide) ?_
      refine j_bipush (pc := 33) (v := 6) dX12_shutsBy_33 (by decide) ?_
      refine j_aload_n (pc := 35) 0 dX12_shutsBy_35 rfl rfl ?_
      refine j_getR (pc := 36) ok_X12 (by decide) rfl w_1239 dX12_shutsBy_36 (fun a29 => ?_)
      refine j_iconst (pc := 39) (v := 2) dX12_shutsBy_39 (by decide) ?_
      refine j_iaload (pc := 40) dX12_shutsBy_40 (fun x30 => ?_)
      refine j_imul (pc := 41) dX12_shutsBy_41 ?_
      refine j_iadd (pc := 42) dX12_shutsBy_42 ?_
      refine j_istore (pc := 43) (lv2 := [(5, .int (624 + (6 * x30))), (0, .ref (mB Γ + r0)), (1, .int v1), (2, .int v2), (3, .int v3), (4, .int v4)]) dX12_shutsBy_43 (by decide) rfl ?_
      refine j_iconst (pc := 45) (v := 0) dX12_shutsBy_45 (by decide) ?_
      refine j_istore (pc := 46) (lv2 := [(6, .int 0), (5, .int (624 + (6 * x30))), (0, .ref (mB Γ + r0)), (1, .int v1), (2, .int v2), (3, .int v3), (4, .int v4)]) dX12_shutsBy_46 (by decide) rfl ?_
      exact J.sub [2, 3, 4, 5, 6, 1, 0] rfl ((j_X12_shutsBy_L48 (j_X12_shutsBy_B72 hL7) FU) r0 v1 v2 v3 v4 (624 + (6 * x30)) 0 z)
    refine j_goto (pc := 27) 146 dX12_shutsBy_27 (by decide) ?_
    exact J.sub [0, 1, 2, 3, 4] rfl ((j_X12_shutsBy_B146 hL7) r0 v1 v2 v3 v4 z)
theorem ct_X12_shutsBy {l : Launch} {Γ : Am} (r0 : Nat) (v1 : Int32) (v2 : Int32) (v3 : Int32) (z : Hp) : Ct l Γ yX12_shutsBy mi_X12_shutsBy cvI [.ref (mB Γ + r0), .int v1, .int v2, .int v3] z (m_X12_shutsBy r0 v1 v2 v3 z) := by
  refine Ct.ofJ (by decide) ⟨rfl, rfl⟩ (Nat.le_of_ble_eq_true rfl) ?_
  unfold m_X12_shutsBy
  show J l Γ mi_X12_shutsBy cvI 0 0 0 [(0, .ref (mB Γ + r0)), (1, .int v1), (2, .int v2), (3, .int v3)] [] z _
  refine j_aload_n (pc := 0) 0 dX12_shutsBy_0 rfl rfl ?_
  refine j_isC (fun h32 => ?_)
  refine j_callV_V (pc := 1) (as := []) (mc2 := 0) (ms2 := 0) (ct_X12_saves _ _) h32 rfl cw_X12_shutsBy_404 dX12_shutsBy_1 (Nat.le_of_ble_eq_true rfl) rfl (by decide) (by decide) (fun _ z31 => ?_)
  refine j_iconst (pc := 4) (v := 0) dX12_shutsBy_4 (by decide) ?_
  refine j_istore (pc := 5) (lv2 := [(4, .int 0), (0, .ref (mB Γ + r0)), (1, .int v1), (2, .int v2), (3, .int v3)]) dX12_shutsBy_5 (by decide) rfl ?_
  exact J.sub [1, 2, 3, 4, 0] rfl ((j_X12_shutsBy_L7 j_X12_shutsBy_B152 FU) r0 v1 v2 v3 0 z31)
theorem dX12_ones_0 : decode cX12_ones 0 = .ok (.iconst 0, 1) := by decide +kernel
theorem dX12_ones_1 : decode cX12_ones 1 = .ok (.istore_n 1, 1) := by decide +kernel
theorem dX12_ones_2 : decode cX12_ones 2 = .ok (.iconst 0, 1) := by decide +kernel
theorem dX12_ones_3 : decode cX12_ones 3 = .ok (.istore_n 2, 1) := by decide +kernel
theorem dX12_ones_4 : decode cX12_ones 4 = .ok (.iload_n 2, 1) := by decide +kernel
theorem dX12_ones_5 : decode cX12_ones 5 = .ok (.bipush 6, 2) := by decide +kernel
theorem dX12_ones_7 : decode cX12_ones 7 = .ok (.if_icmp .ge 17, 3) := by decide +kernel
theorem dX12_ones_10 : decode cX12_ones 10 = .ok (.iload_n 1, 1) := by decide +kernel
theorem dX12_ones_11 : decode cX12_ones 11 = .ok (.iload_n 0, 1) := by decide +kernel
theorem dX12_ones_12 : decode cX12_ones 12 = .ok (.iload_n 2, 1) := by decide +kernel
theorem dX12_ones_13 : decode cX12_ones 13 = .ok (.ishr, 1) := by decide +kernel
theorem dX12_ones_14 : decode cX12_ones 14 = .ok (.iconst 1, 1) := by decide +kernel
theorem dX12_ones_15 : decode cX12_ones 15 = .ok (.iand, 1) := by decide +kernel
theorem dX12_ones_16 : decode cX12_ones 16 = .ok (.iadd, 1) := by decide +kernel
theorem dX12_ones_17 : decode cX12_ones 17 = .ok (.istore_n 1, 1) := by decide +kernel
theorem dX12_ones_18 : decode cX12_ones 18 = .ok (.iinc 2 1, 3) := by decide +kernel
theorem dX12_ones_21 : decode cX12_ones 21 = .ok (.goto (-17), 3) := by decide +kernel
theorem dX12_ones_24 : decode cX12_ones 24 = .ok (.iload_n 1, 1) := by decide +kernel
theorem dX12_ones_25 : decode cX12_ones 25 = .ok (.ireturn, 1) := by decide +kernel
theorem j_X12_ones_L4 {l : Launch} {Γ : Am}   : ∀ (f : Nat), ∀ (v0 : Int32) (v1 : Int32) (v2 : Int32) (z : Hp), J l Γ mi_X12_ones cvI 0 0 4 [(0, .int v0), (1, .int v1), (2, .int v2)] [] z (m_X12_ones_L4  f v0 v1 v2 z) := by
  intro f
  induction f with
  | zero => intro v0 v1 v2 z; exact J.none
  | succ f hL4 =>
    intro v0 v1 v2 z
    rw [m_X12_ones_L4]
    refine j_iload_n (pc := 4) 2 dX12_ones_4 rfl rfl ?_
    refine j_bipush (pc := 5) (v := 6) dX12_ones_5 (by decide) ?_
    refine j_icmp_ge (pc := 7) 24 dX12_ones_7 (by decide) ?_ ?_
    · refine j_iload_n (pc := 24) 1 dX12_ones_24 rfl rfl ?_
      exact j_ireturn (pc := 25) dX12_ones_25 rfl rfl
    refine j_iload_n (pc := 10) 1 dX12_ones_10 rfl rfl ?_
    refine j_iload_n (pc := 11) 0 dX12_ones_11 rfl rfl ?_
    refine j_iload_n (pc := 12) 2 dX12_ones_12 rfl rfl ?_
    refine j_ishr (pc := 13) dX12_ones_13 ?_
    refine j_iconst (pc := 14) (v := 1) dX12_ones_14 (by decide) ?_
    refine j_iand (pc := 15) dX12_ones_15 ?_
    refine j_iadd (pc := 16) dX12_ones_16 ?_
    refine j_istore_n (pc := 17) (lv2 := [(1, .int (v1 + ((v0 >>> (v2 &&& 31)) &&& 1))), (0, .int v0), (2, .int v2)]) dX12_ones_17 rfl (by decide) rfl ?_
    refine j_iinc (pc := 18) (n0 := 2) (v0 := v2 + 1) (lv2 := [(2, .int (v2 + 1)), (1, .int (v1 + ((v0 >>> (v2 &&& 31)) &&& 1))), (0, .int v0)]) dX12_ones_18 rfl rfl (by decide) rfl ?_
    refine j_goto (pc := 21) 4 dX12_ones_21 (by decide) ?_
    exact J.sub [2, 1, 0] rfl (hL4 v0 (v1 + ((v0 >>> (v2 &&& 31)) &&& 1)) (v2 + 1) z)
theorem ct_X12_ones {l : Launch} {Γ : Am} (v0 : Int32) (z : Hp) : Ct l Γ yX12_ones mi_X12_ones cvI [.int v0] z (m_X12_ones v0 z) := by
  refine Ct.ofJ (by decide) ⟨rfl, rfl⟩ (Nat.le_of_ble_eq_true rfl) ?_
  unfold m_X12_ones
  show J l Γ mi_X12_ones cvI 0 0 0 [(0, .int v0)] [] z _
  refine j_iconst (pc := 0) (v := 0) dX12_ones_0 (by decide) ?_
  refine j_istore_n (pc := 1) (lv2 := [(1, .int 0), (0, .int v0)]) dX12_ones_1 rfl (by decide) rfl ?_
  refine j_iconst (pc := 2) (v := 0) dX12_ones_2 (by decide) ?_
  refine j_istore_n (pc := 3) (lv2 := [(2, .int 0), (1, .int 0), (0, .int v0)]) dX12_ones_3 rfl (by decide) rfl ?_
  exact J.sub [2, 1, 0] rfl ((j_X12_ones_L4 FU) v0 0 0 z)
theorem dX12_isAhead_0 : decode cX12_isAhead 0 = .ok (.iload_n 0, 1) := by decide +kernel
theorem dX12_isAhead_1 : decode cX12_isAhead 1 = .ok (.iload_n 1, 1) := by decide +kernel
theorem dX12_isAhead_2 : decode cX12_isAhead 2 = .ok (.ixor, 1) := by decide +kernel
theorem dX12_isAhead_3 : decode cX12_isAhead 3 = .ok (.istore_n 2, 1) := by decide +kernel
theorem dX12_isAhead_4 : decode cX12_isAhead 4 = .ok (.iload_n 0, 1) := by decide +kernel
theorem dX12_isAhead_5 : decode cX12_isAhead 5 = .ok (.iload_n 2, 1) := by decide +kernel
theorem dX12_isAhead_6 : decode cX12_isAhead 6 = .ok (.iand, 1) := by decide +kernel
theorem dX12_isAhead_7 : decode cX12_isAhead 7 = .ok (.iload_n 2, 1) := by decide +kernel
theorem dX12_isAhead_8 : decode cX12_isAhead 8 = .ok (.ineg, 1) := by decide +kernel
theorem dX12_isAhead_9 : decode cX12_isAhead 9 = .ok (.iand, 1) := by decide +kernel
theorem dX12_isAhead_10 : decode cX12_isAhead 10 = .ok (.ifCond .eq 7, 3) := by decide +kernel
theorem dX12_isAhead_13 : decode cX12_isAhead 13 = .ok (.iconst 1, 1) := by decide +kernel
theorem dX12_isAhead_14 : decode cX12_isAhead 14 = .ok (.goto 4, 3) := by decide +kernel
theorem dX12_isAhead_17 : decode cX12_isAhead 17 = .ok (.iconst 0, 1) := by decide +kernel
theorem dX12_isAhead_18 : decode cX12_isAhead 18 = .ok (.ireturn, 1) := by decide +kernel
theorem ct_X12_isAhead {l : Launch} {Γ : Am} (v0 : Int32) (v1 : Int32) (z : Hp) : Ct l Γ yX12_isAhead mi_X12_isAhead cvI [.int v0, .int v1] z (m_X12_isAhead v0 v1 z) := by
  refine Ct.ofJ (by decide) ⟨rfl, rfl⟩ (Nat.le_of_ble_eq_true rfl) ?_
  unfold m_X12_isAhead
  show J l Γ mi_X12_isAhead cvI 0 0 0 [(0, .int v0), (1, .int v1)] [] z _
  refine j_iload_n (pc := 0) 0 dX12_isAhead_0 rfl rfl ?_
  refine j_iload_n (pc := 1) 1 dX12_isAhead_1 rfl rfl ?_
  refine j_ixor (pc := 2) dX12_isAhead_2 ?_
  refine j_istore_n (pc := 3) (lv2 := [(2, .int (v0 ^^^ v1)), (0, .int v0), (1, .int v1)]) dX12_isAhead_3 rfl (by decide) rfl ?_
  refine j_iload_n (pc := 4) 1 dX12_isAhead_4 rfl rfl ?_
  refine j_iload_n (pc := 5) 0 dX12_isAhead_5 rfl rfl ?_
  refine j_iand (pc := 6) dX12_isAhead_6 ?_
  refine j_iload_n (pc := 7) 0 dX12_isAhead_7 rfl rfl ?_
  refine j_ineg (pc := 8) dX12_isAhead_8 ?_
  refine j_iand (pc := 9) dX12_isAhead_9 ?_
  refine j_if_eq (pc := 10) 17 dX12_isAhead_10 (by decide) ?_ ?_
  · refine j_iconst (pc := 17) (v := 0) dX12_isAhead_17 (by decide) ?_
    exact j_ireturn (pc := 18) dX12_isAhead_18 rfl rfl
  refine j_iconst (pc := 13) (v := 1) dX12_isAhead_13 (by decide) ?_
  refine j_goto (pc := 14) 18 dX12_isAhead_14 (by decide) ?_
  exact j_ireturn (pc := 18) dX12_isAhead_18 rfl rfl
theorem dX12_mayTell_0 : decode cX12_mayTell 0 = .ok (.iconst 0, 1) := by decide +kernel
theorem dX12_mayTell_1 : decode cX12_mayTell 1 = .ok (.istore_n 2, 1) := by decide +kernel
theorem dX12_mayTell_2 : decode cX12_mayTell 2 = .ok (.iload_n 2, 1) := by decide +kernel
theorem dX12_mayTell_3 : decode cX12_mayTell 3 = .ok (.aload_n 0, 1) := by decide +kernel
theorem dX12_mayTell_4 : decode cX12_mayTell 4 = .ok (.getfield 73, 3) := by decide +kernel
theorem dX12_mayTell_7 : decode cX12_mayTell 7 = .ok (.iload_n 1, 1) := by decide +kernel
theorem dX12_mayTell_8 : decode cX12_mayTell 8 = .ok (.iaload, 1) := by decide +kernel
theorem dX12_mayTell_9 : decode cX12_mayTell 9 = .ok (.if_icmp .ge 87, 3) := by decide +kernel
theorem dX12_mayTell_12 : decode cX12_mayTell 12 = .ok (.aload_n 0, 1) := by decide +kernel
theorem dX12_mayTell_13 : decode cX12_mayTell 13 = .ok (.getfield 79, 3) := by decide +kernel
theorem dX12_mayTell_16 : decode cX12_mayTell 16 = .ok (.bipush 60, 2) := by decide +kernel
theorem dX12_mayTell_18 : decode cX12_mayTell 18 = .ok (.iload_n 1, 1) := by decide +kernel
theorem dX12_mayTell_19 : decode cX12_mayTell 19 = .ok (.imul, 1) := by decide +kernel
theorem dX12_mayTell_20 : decode cX12_mayTell 20 = .ok (.iload_n 2, 1) := by decide +kernel
theorem dX12_mayTell_21 : decode cX12_mayTell 21 = .ok (.iadd, 1) := by decide +kernel
theorem dX12_mayTell_22 : decode cX12_mayTell 22 = .ok (.laload, 1) := by decide +kernel
theorem dX12_mayTell_23 : decode cX12_mayTell 23 = .ok (.lstore_n 3, 1) := by decide +kernel
theorem dX12_mayTell_24 : decode cX12_mayTell 24 = .ok (.lload_n 3, 1) := by decide +kernel
theorem dX12_mayTell_25 : decode cX12_mayTell 25 = .ok (.lconst 0, 1) := by decide +kernel
theorem dX12_mayTell_26 : decode cX12_mayTell 26 = .ok (.ldc2_w 410, 3) := by decide +kernel
theorem dX12_mayTell_29 : decode cX12_mayTell 29 = .ok (.invokestatic 110, 3) := by decide +kernel
theorem dX12_mayTell_32 : decode cX12_mayTell 32 = .ok (.ifCond .eq 22, 3) := by decide +kernel
theorem dX12_mayTell_35 : decode cX12_mayTell 35 = .ok (.aload_n 0, 1) := by decide +kernel
theorem dX12_mayTell_36 : decode cX12_mayTell 36 = .ok (.lload_n 3, 1) := by decide +kernel
theorem dX12_mayTell_37 : decode cX12_mayTell 37 = .ok (.l2i, 1) := by decide +kernel
theorem dX12_mayTell_38 : decode cX12_mayTell 38 = .ok (.invokevirtual 343, 3) := by decide +kernel
theorem dX12_mayTell_41 : decode cX12_mayTell 41 = .ok (.iconst (-1), 1) := by decide +kernel
theorem dX12_mayTell_42 : decode cX12_mayTell 42 = .ok (.if_icmp .ne 12, 3) := by decide +kernel
theorem dX12_mayTell_45 : decode cX12_mayTell 45 = .ok (.aload_n 0, 1) := by decide +kernel
theorem dX12_mayTell_46 : decode cX12_mayTell 46 = .ok (.lload_n 3, 1) := by decide +kernel
theorem dX12_mayTell_47 : decode cX12_mayTell 47 = .ok (.l2i, 1) := by decide +kernel
theorem dX12_mayTell_48 : decode cX12_mayTell 48 = .ok (.invokevirtual 102, 3) := by decide +kernel
theorem dX12_mayTell_51 : decode cX12_mayTell 51 = .ok (.ifCond .eq 5, 3) := by decide +kernel
theorem dX12_mayTell_54 : decode cX12_mayTell 54 = .ok (.iconst 0, 1) := by decide +kernel
theorem dX12_mayTell_55 : decode cX12_mayTell 55 = .ok (.ireturn, 1) := by decide +kernel
theorem dX12_mayTell_56 : decode cX12_mayTell 56 = .ok (.iconst 0, 1) := by decide +kernel
theorem dX12_mayTell_57 : decode cX12_mayTell 57 = .ok (.istore 5, 2) := by decide +kernel
theorem dX12_mayTell_59 : decode cX12_mayTell 59 = .ok (.iload 5, 2) := by decide +kernel
theorem dX12_mayTell_61 : decode cX12_mayTell 61 = .ok (.iload_n 2, 1) := by decide +kernel
theorem dX12_mayTell_62 : decode cX12_mayTell 62 = .ok (.if_icmp .ge 28, 3) := by decide +kernel
theorem dX12_mayTell_65 : decode cX12_mayTell 65 = .ok (.aload_n 0, 1) := by decide +kernel
theorem dX12_mayTell_66 : decode cX12_mayTell 66 = .ok (.getfield 79, 3) := by decide +kernel
theorem dX12_mayTell_69 : decode cX12_mayTell 69 = .ok (.bipush 60, 2) := by decide +kernel
theorem dX12_mayTell_71 : decode cX12_mayTell 71 = .ok (.iload_n 1, 1) := by decide +kernel
theorem dX12_mayTell_72 : decode cX12_mayTell 72 = .ok (.imul, 1) := by decide +kernel
theorem dX12_mayTell_73 : decode cX12_mayTell 73 = .ok (.iload 5, 2) := by decide +kernel
theorem dX12_mayTell_75 : decode cX12_mayTell 75 = .ok (.iadd, 1) := by decide +kernel
theorem dX12_mayTell_76 : decode cX12_mayTell 76 = .ok (.laload, 1) := by decide +kernel
theorem dX12_mayTell_77 : decode cX12_mayTell 77 = .ok (.lload_n 3, 1) := by decide +kernel
theorem dX12_mayTell_78 : decode cX12_mayTell 78 = .ok (.lcmp, 1) := by decide +kernel
theorem dX12_mayTell_79 : decode cX12_mayTell 79 = .ok (.ifCond .ne 5, 3) := by decide +kernel
theorem dX12_mayTell_82 : decode cX12_mayTell 82 = .ok (.iconst 0, 1) := by decide +kernel
theorem dX12_mayTell_83 : decode cX12_mayTell 83 = .ok (.ireturn, 1) := by decide +kernel
theorem dX12_mayTell_84 : decode cX12_mayTell 84 = .ok (.iinc 5 1, 3) := by decide +kernel
theorem dX12_mayTell_87 : decode cX12_mayTell 87 = .ok (.goto (-28), 3) := by decide +kernel
theorem dX12_mayTell_90 : decode cX12_mayTell 90 = .ok (.iinc 2 1, 3) := by decide +kernel
theorem dX12_mayTell_93 : decode cX12_mayTell 93 = .ok (.goto (-91), 3) := by decide +kernel
theorem dX12_mayTell_96 : decode cX12_mayTell 96 = .ok (.iconst 1, 1) := by decide +kernel
theorem dX12_mayTell_97 : decode cX12_mayTell 97 = .ok (.ireturn, 1) := by decide +kernel
theorem cw_X12_mayTell_110 : CwS mi_X12_mayTell mi_X12_in yX12_in 110 3 := ⟨⟨w_1365, w_1366, w_108, w_1367⟩, ⟨by decide, by decide⟩, by decide +kernel, by decide, by decide⟩
theorem cw_X12_mayTell_343 : CwV mi_X12_mayTell mi_X12_pipeAt yX12_pipeAt RX12 343 1 := ⟨⟨w_1583, w_1585, w_79, w_108, w_1586⟩, ⟨by decide, by decide⟩, by decide +kernel, by decide, by decide⟩
theorem cw_X12_mayTell_102 : CwV mi_X12_mayTell mi_X12_isDug yX12_isDug RX12 102 1 := ⟨⟨w_1511, w_1513, w_65, w_108, w_1514⟩, ⟨by decide, by decide⟩, by decide +kernel, by decide, by decide⟩
theorem j_X12_mayTell_B90 {l : Launch} {Γ : Am} {k2 : Nat → Int32 → Int32 → Hp → Option (Int32 × Hp)} (hL2 : ∀ (r0 : Nat) (v1 : Int32) (v2 : Int32) (z : Hp), J l Γ mi_X12_mayTell cvI 0 0 2 [(0, .ref (mB Γ + r0)), (1, .int v1), (2, .int v2)] [] z (k2 r0 v1 v2 z)) : ∀ (r0 : Nat) (v1 : Int32) (v2 : Int32) (z : Hp), J l Γ mi_X12_mayTell cvI 0 0 90 [(0, .ref (mB Γ + r0)), (1, .int v1), (2, .int v2)] [] z (m_X12_mayTell_B90 k2 r0 v1 v2 z) := by
  intro r0 v1 v2 z
  unfold m_X12_mayTell_B90
  refine j_iinc (pc := 90) (n0 := 2) (v0 := v2 + 1) (lv2 := [(2, .int (v2 + 1)), (0, .ref (mB Γ + r0)), (1, .int v1)]) dX12_mayTell_90 rfl rfl (by decide) rfl ?_
  refine j_goto (pc := 93) 2 dX12_mayTell_93 (by decide) ?_
  exact J.sub [1, 2, 0] rfl (hL2 r0 v1 (v2 + 1) z)
theorem j_X12_mayTell_L59 {l : Launch} {Γ : Am} {k90 : Nat → Int32 → Int32 → Hp → Option (Int32 × Hp)} (hL90 : ∀ (r0 : Nat) (v1 : Int32) (v2 : Int32) (z : Hp), J l Γ mi_X12_mayTell cvI 0 0 90 [(0, .ref (mB Γ + r0)), (1, .int v1), (2, .int v2)] [] z (k90 r0 v1 v2 z)) : ∀ (f : Nat), ∀ (r0 : Nat) (v1 : Int32) (v2 : Int32) (w3 : Int64) (v5 : Int32) (z : Hp), J l Γ mi_X12_mayTell cvI 0 0 59 [(0, .ref (mB Γ + r0)), (1, .int v1), (2, .int v2), (3, .long w3), (5, .int v5)] [] z (m_X12_mayTell_L59 k90 f r0 v1 v2 w3 v5 z) := by
  intro f
  induction f with
  | zero => intro r0 v1 v2 w3 v5 z; exact J.none
  | succ f hL59 =>
    intro r0 v1 v2 w3 v5 z
    rw [m_X12_mayTell_L59]
    refine j_iload (pc := 59) 4 dX12_mayTell_59 rfl ?_
    refine j_iload_n (pc := 61) 2 dX12_mayTell_61 rfl rfl ?_
    refine j_icmp_ge (pc := 62) 90 dX12_mayTell_62 (by decide) ?_ ?_
    · exact J.sub [0, 1, 2] rfl (hL90 r0 v1 v2 z)
    refine j_aload_n (pc := 65) 0 dX12_mayTell_65 rfl rfl ?_
    refine j_getR (pc := 66) ok_X12 (by decide) rfl w_1276 dX12_mayTell_66 (fun a1 => ?_)
    refine j_bipush (pc := 69) (v := 60) dX12_mayTell_69 (by decide) ?_
    refine j_iload_n (pc := 71) 1 dX12_mayTell_71 rfl rfl ?_
    refine j_imul (pc := 72) dX12_mayTell_72 ?_
    refine j_iload (pc := 73) 4 dX12_mayTell_73 rfl ?_
    refine j_iadd (pc := 75) dX12_mayTell_75 ?_
    refine j_laload (pc := 76) dX12_mayTell_76 (fun x2 => ?_)
    refine j_lload_n (pc := 77) 3 dX12_mayTell_77 rfl rfl ?_
    refine j_lcmp (pc := 78) dX12_mayTell_78 ?_
    refine j_if_ne (pc := 79) 84 dX12_mayTell_79 (by decide) ?_ ?_
    · refine j_iinc (pc := 84) (n0 := 4) (v0 := v5 + 1) (lv2 := [(5, .int (v5 + 1)), (0, .ref (mB Γ + r0)), (1, .int v1), (2, .int v2), (3, .long w3)]) dX12_mayTell_84 rfl rfl (by decide) rfl ?_
      refine j_goto (pc := 87) 59 dX12_mayTell_87 (by decide) ?_
      exact J.sub [1, 2, 3, 4, 0] rfl (hL59 r0 v1 v2 w3 (v5 + 1) z)
    refine j_iconst (pc := 82) (v := 0) dX12_mayTell_82 (by decide) ?_
    exact j_ireturn (pc := 83) dX12_mayTell_83 rfl rfl
theorem j_X12_mayTell_L2 {l : Launch} {Γ : Am}   : ∀ (f : Nat), ∀ (r0 : Nat) (v1 : Int32) (v2 : Int32) (z : Hp), J l Γ mi_X12_mayTell cvI 0 0 2 [(0, .ref (mB Γ + r0)), (1, .int v1), (2, .int v2)] [] z (m_X12_mayTell_L2  f r0 v1 v2 z) := by
  intro f
  induction f with
  | zero => intro r0 v1 v2 z; exact J.none
  | succ f hL2 =>
    intro r0 v1 v2 z
    rw [m_X12_mayTell_L2]
    refine j_iload_n (pc := 2) 2 dX12_mayTell_2 rfl rfl ?_
    refine j_aload_n (pc := 3) 0 dX12_mayTell_3 rfl rfl ?_
    refine j_getR (pc := 4) ok_X12 (by decide) rfl w_1274 dX12_mayTell_4 (fun a3 => ?_)
    refine j_iload_n (pc := 7) 1 dX12_mayTell_7 rfl rfl ?_
    refine j_iaload (pc := 8) dX12_mayTell_8 (fun x4 => ?_)
    refine j_icmp_ge (pc := 9) 96 dX12_mayTell_9 (by decide) ?_ ?_
    · refine j_iconst (pc := 96) (v := 1) dX12_mayTell_96 (by decide) ?_
      exact j_ireturn (pc := 97) dX12_mayTell_97 rfl rfl
    refine j_aload_n (pc := 12) 0 dX12_mayTell_12 rfl rfl ?_
    refine j_getR (pc := 13) ok_X12 (by decide) rfl w_1276 dX12_mayTell_13 (fun a5 => ?_)
    refine j_bipush (pc := 16) (v := 60) dX12_mayTell_16 (by decide) ?_
    refine j_iload_n (pc := 18) 1 dX12_mayTell_18 rfl rfl ?_
    refine j_imul (pc := 19) dX12_mayTell_19 ?_
    refine j_iload_n (pc := 20) 2 dX12_mayTell_20 rfl rfl ?_
    refine j_iadd (pc := 21) dX12_mayTell_21 ?_
    refine j_laload (pc := 22) dX12_mayTell_22 (fun x6 => ?_)
    refine j_lstore_n (pc := 23) (lv2 := [(3, .long x6), (0, .ref (mB Γ + r0)), (1, .int v1), (2, .int v2)]) dX12_mayTell_23 rfl (by decide) rfl ?_
    refine j_lload_n (pc := 24) 0 dX12_mayTell_24 rfl rfl ?_
    refine j_lconst (pc := 25) (v := 0) dX12_mayTell_25 (by decide) ?_
    refine j_ldc2 (pc := 26) (v := 143) dX12_mayTell_26 w_1721 ?_
    refine j_callS_I (pc := 29) (as := [.long x6, .long 0, .long 143]) (mc2 := 0) (ms2 := 0) (ct_X12_in _ _ _ _) cw_X12_mayTell_110 dX12_mayTell_29 (Nat.le_of_ble_eq_true rfl) rfl (by decide) (by decide) (fun x8 z7 => ?_)
    refine j_if_eq (pc := 32) 54 dX12_mayTell_32 (by decide) ?_ ?_
    · refine j_iconst (pc := 54) (v := 0) dX12_mayTell_54 (by decide) ?_
      exact j_ireturn (pc := 55) dX12_mayTell_55 rfl rfl
    refine j_aload_n (pc := 35) 1 dX12_mayTell_35 rfl rfl ?_
    refine j_lload_n (pc := 36) 0 dX12_mayTell_36 rfl rfl ?_
    refine j_l2i (pc := 37) dX12_mayTell_37 ?_
    refine j_isC (fun h11 => ?_)
    refine j_callV_I (pc := 38) (as := [.int (Int64.toInt32 x6)]) (mc2 := 0) (ms2 := 0) (ct_X12_pipeAt _ _ _) h11 rfl cw_X12_mayTell_343 dX12_mayTell_38 (Nat.le_of_ble_eq_true rfl) rfl (by decide) (by decide) (fun x10 z9 => ?_)
    refine j_iconst (pc := 41) (v := (-1)) dX12_mayTell_41 (by decide) ?_
    refine j_icmp_ne (pc := 42) 54 dX12_mayTell_42 (by decide) ?_ ?_
    · refine j_iconst (pc := 54) (v := 0) dX12_mayTell_54 (by decide) ?_
      exact j_ireturn (pc := 55) dX12_mayTell_55 rfl rfl
    refine j_aload_n (pc := 45) 1 dX12_mayTell_45 rfl rfl ?_
    refine j_lload_n (pc := 46) 0 dX12_mayTell_46 rfl rfl ?_
    refine j_l2i (pc := 47) dX12_mayTell_47 ?_
    refine j_isC (fun h14 => ?_)
    refine j_callV_I (pc := 48) (as := [.int (Int64.toInt32 x6)]) (mc2 := 0) (ms2 := 0) (ct_X12_isDug _ _ _) h14 rfl cw_X12_mayTell_102 dX12_mayTell_48 (Nat.le_of_ble_eq_true rfl) rfl (by decide) (by decide) (fun x13 z12 => ?_)
    refine j_if_eq (pc := 51) 56 dX12_mayTell_51 (by decide) ?_ ?_
    · refine j_iconst (pc := 56) (v := 0) dX12_mayTell_56 (by decide) ?_
      refine j_istore (pc := 57) (lv2 := [(5, .int 0), (3, .long x6), (0, .ref (mB Γ + r0)), (1, .int v1), (2, .int v2)]) dX12_mayTell_57 (by decide) rfl ?_
      exact J.sub [2, 3, 4, 1, 0] rfl ((j_X12_mayTell_L59 (j_X12_mayTell_B90 hL2) FU) r0 v1 v2 x6 0 z12)
    refine j_iconst (pc := 54) (v := 0) dX12_mayTell_54 (by decide) ?_
    exact j_ireturn (pc := 55) dX12_mayTell_55 rfl rfl
theorem ct_X12_mayTell {l : Launch} {Γ : Am} (r0 : Nat) (v1 : Int32) (z : Hp) : Ct l Γ yX12_mayTell mi_X12_mayTell cvI [.ref (mB Γ + r0), .int v1] z (m_X12_mayTell r0 v1 z) := by
  refine Ct.ofJ (by decide) ⟨rfl, rfl⟩ (Nat.le_of_ble_eq_true rfl) ?_
  unfold m_X12_mayTell
  show J l Γ mi_X12_mayTell cvI 0 0 0 [(0, .ref (mB Γ + r0)), (1, .int v1)] [] z _
  refine j_iconst (pc := 0) (v := 0) dX12_mayTell_0 (by decide) ?_
  refine j_istore_n (pc := 1) (lv2 := [(2, .int 0), (0, .ref (mB Γ + r0)), (1, .int v1)]) dX12_mayTell_1 rfl (by decide) rfl ?_
  exact J.sub [1, 2, 0] rfl ((j_X12_mayTell_L2 FU) r0 v1 0 z)
theorem dX12_isSlot_0 : decode cX12_isSlot 0 = .ok (.iload_n 0, 1) := by decide +kernel
theorem dX12_isSlot_1 : decode cX12_isSlot 1 = .ok (.i2l, 1) := by decide +kernel
theorem dX12_isSlot_2 : decode cX12_isSlot 2 = .ok (.lconst 0, 1) := by decide +kernel
theorem dX12_isSlot_3 : decode cX12_isSlot 3 = .ok (.ldc2_w 198, 3) := by decide +kernel
theorem dX12_isSlot_6 : decode cX12_isSlot 6 = .ok (.invokestatic 110, 3) := by decide +kernel
theorem dX12_isSlot_9 : decode cX12_isSlot 9 = .ok (.ireturn, 1) := by decide +kernel
theorem cw_X12_isSlot_110 : CwS mi_X12_isSlot mi_X12_in yX12_in 110 3 := ⟨⟨w_1365, w_1366, w_108, w_1367⟩, ⟨by decide, by decide⟩, by decide +kernel, by decide, by decide⟩
theorem ct_X12_isSlot {l : Launch} {Γ : Am} (v0 : Int32) (z : Hp) : Ct l Γ yX12_isSlot mi_X12_isSlot cvI [.int v0] z (m_X12_isSlot v0 z) := by
  refine Ct.ofJ (by decide) ⟨rfl, rfl⟩ (Nat.le_of_ble_eq_true rfl) ?_
  unfold m_X12_isSlot
  show J l Γ mi_X12_isSlot cvI 0 0 0 [(0, .int v0)] [] z _
  refine j_iload_n (pc := 0) 0 dX12_isSlot_0 rfl rfl ?_
  refine j_i2l (pc := 1) dX12_isSlot_1 ?_
  refine j_lconst (pc := 2) (v := 0) dX12_isSlot_2 (by decide) ?_
  refine j_ldc2 (pc := 3) (v := 3) dX12_isSlot_3 w_1433 ?_
  refine j_callS_I (pc := 6) (as := [.long (Int32.toInt64 v0), .long 0, .long 3]) (mc2 := 0) (ms2 := 0) (ct_X12_in _ _ _ _) cw_X12_isSlot_110 dX12_isSlot_6 (Nat.le_of_ble_eq_true rfl) rfl (by decide) (by decide) (fun x2 z1 => ?_)
  exact j_zreturn (pc := 9) dX12_isSlot_9 rfl
theorem dX12_more_0 : decode cX12_more 0 = .ok (.iload_n 1, 1) := by decide +kernel
theorem dX12_more_1 : decode cX12_more 1 = .ok (.invokestatic 412, 3) := by decide +kernel
theorem dX12_more_4 : decode cX12_more 4 = .ok (.ifCond .eq 26, 3) := by decide +kernel
theorem dX12_more_7 : decode cX12_more 7 = .ok (.iload_n 2, 1) := by decide +kernel
theorem dX12_more_8 : decode cX12_more 8 = .ok (.i2l, 1) := by decide +kernel
theorem dX12_more_9 : decode cX12_more 9 = .ok (.lconst 1, 1) := by decide +kernel
theorem dX12_more_10 : decode cX12_more 10 = .ok (.ldc2_w 415, 3) := by decide +kernel
theorem dX12_more_13 : decode cX12_more 13 = .ok (.invokestatic 110, 3) := by decide +kernel
theorem dX12_more_16 : decode cX12_more 16 = .ok (.ifCond .eq 14, 3) := by decide +kernel
theorem dX12_more_19 : decode cX12_more 19 = .ok (.aload_n 0, 1) := by decide +kernel
theorem dX12_more_20 : decode cX12_more 20 = .ok (.getfield 73, 3) := by decide +kernel
theorem dX12_more_23 : decode cX12_more 23 = .ok (.iload_n 1, 1) := by decide +kernel
theorem dX12_more_24 : decode cX12_more 24 = .ok (.iaload, 1) := by decide +kernel
theorem dX12_more_25 : decode cX12_more 25 = .ok (.bipush 6, 2) := by decide +kernel
theorem dX12_more_27 : decode cX12_more 27 = .ok (.if_icmp .le 6, 3) := by decide +kernel
theorem dX12_more_30 : decode cX12_more 30 = .ok (.bipush (-2), 2) := by decide +kernel
theorem dX12_more_32 : decode cX12_more 32 = .ok (.ireturn, 1) := by decide +kernel
theorem dX12_more_33 : decode cX12_more 33 = .ok (.aload_n 0, 1) := by decide +kernel
theorem dX12_more_34 : decode cX12_more 34 = .ok (.getfield 73, 3) := by decide +kernel
theorem dX12_more_37 : decode cX12_more 37 = .ok (.iload_n 1, 1) := by decide +kernel
theorem dX12_more_38 : decode cX12_more 38 = .ok (.iaload, 1) := by decide +kernel
theorem dX12_more_39 : decode cX12_more 39 = .ok (.iconst (-1), 1) := by decide +kernel
theorem dX12_more_40 : decode cX12_more 40 = .ok (.if_icmp .eq 19, 3) := by decide +kernel
theorem dX12_more_43 : decode cX12_more 43 = .ok (.aload_n 0, 1) := by decide +kernel
theorem dX12_more_44 : decode cX12_more 44 = .ok (.invokevirtual 365, 3) := by decide +kernel
theorem dX12_more_47 : decode cX12_more 47 = .ok (.ifCond .eq 12, 3) := by decide +kernel
theorem dX12_more_50 : decode cX12_more 50 = .ok (.aload_n 0, 1) := by decide +kernel
theorem dX12_more_51 : decode cX12_more 51 = .ok (.getfield 13, 3) := by decide +kernel
theorem dX12_more_54 : decode cX12_more 54 = .ok (.iconst 2, 1) := by decide +kernel
theorem dX12_more_55 : decode cX12_more 55 = .ok (.iaload, 1) := by decide +kernel
theorem dX12_more_56 : decode cX12_more 56 = .ok (.ifCond .ne 6, 3) := by decide +kernel
theorem dX12_more_59 : decode cX12_more 59 = .ok (.bipush (-6), 2) := by decide +kernel
theorem dX12_more_61 : decode cX12_more 61 = .ok (.ireturn, 1) := by decide +kernel
theorem dX12_more_62 : decode cX12_more 62 = .ok (.aload_n 0, 1) := by decide +kernel
theorem dX12_more_63 : decode cX12_more 63 = .ok (.iload_n 1, 1) := by decide +kernel
theorem dX12_more_64 : decode cX12_more 64 = .ok (.invokevirtual 417, 3) := by decide +kernel
theorem dX12_more_67 : decode cX12_more 67 = .ok (.ifCond .ne 6, 3) := by decide +kernel
theorem dX12_more_70 : decode cX12_more 70 = .ok (.bipush (-7), 2) := by decide +kernel
theorem dX12_more_72 : decode cX12_more 72 = .ok (.ireturn, 1) := by decide +kernel
theorem dX12_more_73 : decode cX12_more 73 = .ok (.iconst (-1), 1) := by decide +kernel
theorem dX12_more_74 : decode cX12_more 74 = .ok (.istore_n 3, 1) := by decide +kernel
theorem dX12_more_75 : decode cX12_more 75 = .ok (.iconst 0, 1) := by decide +kernel
theorem dX12_more_76 : decode cX12_more 76 = .ok (.istore 4, 2) := by decide +kernel
theorem dX12_more_78 : decode cX12_more 78 = .ok (.iload 4, 2) := by decide +kernel
theorem dX12_more_80 : decode cX12_more 80 = .ok (.iconst 1, 1) := by decide +kernel
theorem dX12_more_81 : decode cX12_more 81 = .ok (.aload_n 0, 1) := by decide +kernel
theorem dX12_more_82 : decode cX12_more 82 = .ok (.getfield 73, 3) := by decide +kernel
theorem dX12_more_85 : decode cX12_more 85 = .ok (.iload_n 1, 1) := by decide +kernel
theorem dX12_more_86 : decode cX12_more 86 = .ok (.iaload, 1) := by decide +kernel
theorem dX12_more_87 : decode cX12_more 87 = .ok (.ishl, 1) := by decide +kernel
theorem dX12_more_88 : decode cX12_more 88 = .ok (.if_icmp .ge 73, 3) := by decide +kernel
theorem dX12_more_91 : decode cX12_more 91 = .ok (.iload_n 3, 1) := by decide +kernel
theorem dX12_more_92 : decode cX12_more 92 = .ok (.iconst (-1), 1) := by decide +kernel
theorem dX12_more_93 : decode cX12_more 93 = .ok (.if_icmp .eq 36, 3) := by decide +kernel
theorem dX12_more_96 : decode cX12_more 96 = .ok (.iload 4, 2) := by decide +kernel
theorem dX12_more_98 : decode cX12_more 98 = .ok (.invokestatic 420, 3) := by decide +kernel
theorem dX12_more_101 : decode cX12_more 101 = .ok (.iload_n 3, 1) := by decide +kernel
theorem dX12_more_102 : decode cX12_more 102 = .ok (.invokestatic 420, 3) := by decide +kernel
theorem dX12_more_105 : decode cX12_more 105 = .ok (.if_icmp .lt 24, 3) := by decide +kernel
theorem dX12_more_108 : decode cX12_more 108 = .ok (.iload 4, 2) := by decide +kernel
theorem dX12_more_110 : decode cX12_more 110 = .ok (.invokestatic 420, 3) := by decide +kernel
theorem dX12_more_113 : decode cX12_more 113 = .ok (.iload_n 3, 1) := by decide +kernel
theorem dX12_more_114 : decode cX12_more 114 = .ok (.invokestatic 420, 3) := by decide +kernel
theorem dX12_more_117 : decode cX12_more 117 = .ok (.if_icmp .ne 16, 3) := by decide +kernel
theorem dX12_more_120 : decode cX12_more 120 = .ok (.iload 4, 2) := by decide +kernel
theorem dX12_more_122 : decode cX12_more 122 = .ok (.iload_n 3, 1) := by decide +kernel
theorem dX12_more_123 : decode cX12_more 123 = .ok (.invokestatic 423, 3) := by decide +kernel
theorem dX12_more_126 : decode cX12_more 126 = .ok (.ifCond .eq 7, 3) := by decide +kernel
theorem dX12_more_129 : decode cX12_more 129 = .ok (.iconst 1, 1) := by decide +kernel
theorem dX12_more_130 : decode cX12_more 130 = .ok (.goto 4, 3) := by decide +kernel
theorem dX12_more_133 : decode cX12_more 133 = .ok (.iconst 0, 1) := by decide +kernel
theorem dX12_more_134 : decode cX12_more 134 = .ok (.istore 5, 2) := by decide +kernel
theorem dX12_more_136 : decode cX12_more 136 = .ok (.iload 5, 2) := by decide +kernel
theorem dX12_more_138 : decode cX12_more 138 = .ok (.ifCond .eq 17, 3) := by decide +kernel
theorem dX12_more_141 : decode cX12_more 141 = .ok (.aload_n 0, 1) := by decide +kernel
theorem dX12_more_142 : decode cX12_more 142 = .ok (.iload_n 1, 1) := by decide +kernel
theorem dX12_more_143 : decode cX12_more 143 = .ok (.iload 4, 2) := by decide +kernel
theorem dX12_more_145 : decode cX12_more 145 = .ok (.iload_n 2, 1) := by decide +kernel
theorem dX12_more_146 : decode cX12_more 146 = .ok (.invokevirtual 426, 3) := by decide +kernel
theorem dX12_more_149 : decode cX12_more 149 = .ok (.ifCond .eq 6, 3) := by decide +kernel
theorem dX12_more_152 : decode cX12_more 152 = .ok (.iload 4, 2) := by decide +kernel
theorem dX12_more_154 : decode cX12_more 154 = .ok (.istore_n 3, 1) := by decide +kernel
theorem dX12_more_155 : decode cX12_more 155 = .ok (.iinc 4 1, 3) := by decide +kernel
theorem dX12_more_158 : decode cX12_more 158 = .ok (.goto (-80), 3) := by decide +kernel
theorem dX12_more_161 : decode cX12_more 161 = .ok (.iload_n 3, 1) := by decide +kernel
theorem dX12_more_162 : decode cX12_more 162 = .ok (.iconst (-1), 1) := by decide +kernel
theorem dX12_more_163 : decode cX12_more 163 = .ok (.if_icmp .ne 5, 3) := by decide +kernel
theorem dX12_more_166 : decode cX12_more 166 = .ok (.iconst (-1), 1) := by decide +kernel
theorem dX12_more_167 : decode cX12_more 167 = .ok (.ireturn, 1) := by decide +kernel
theorem dX12_more_168 : decode cX12_more 168 = .ok (.aload_n 0, 1) := by decide +kernel
theorem dX12_more_169 : decode cX12_more 169 = .ok (.iload_n 3, 1) := by decide +kernel
theorem dX12_more_170 : decode cX12_more 170 = .ok (.putfield 430, 3) := by decide +kernel
theorem dX12_more_173 : decode cX12_more 173 = .ok (.iload_n 3, 1) := by decide +kernel
theorem dX12_more_174 : decode cX12_more 174 = .ok (.invokestatic 420, 3) := by decide +kernel
theorem dX12_more_177 : decode cX12_more 177 = .ok (.ireturn, 1) := by decide +kernel
theorem cw_X12_more_420 : CwS mi_X12_more mi_X12_ones yX12_ones 420 1 := ⟨⟨w_1722, w_1723, w_108, w_1724⟩, ⟨by decide, by decide⟩, by decide +kernel, by decide, by decide⟩
theorem cw_X12_more_426 : CwV mi_X12_more mi_X12_shutsBy yX12_shutsBy RX12 426 3 := ⟨⟨w_1728, w_1730, w_93, w_108, w_1731⟩, ⟨by decide, by decide⟩, by decide +kernel, by decide, by decide⟩
theorem cw_X12_more_423 : CwS mi_X12_more mi_X12_isAhead yX12_isAhead 423 2 := ⟨⟨w_1725, w_1726, w_108, w_1727⟩, ⟨by decide, by decide⟩, by decide +kernel, by decide, by decide⟩
theorem cw_X12_more_412 : CwS mi_X12_more mi_X12_isSlot yX12_isSlot 412 1 := ⟨⟨w_1713, w_1714, w_108, w_1715⟩, ⟨by decide, by decide⟩, by decide +kernel, by decide, by decide⟩
theorem cw_X12_more_110 : CwS mi_X12_more mi_X12_in yX12_in 110 3 := ⟨⟨w_1365, w_1366, w_108, w_1367⟩, ⟨by decide, by decide⟩, by decide +kernel, by decide, by decide⟩
theorem cw_X12_more_365 : CwV mi_X12_more mi_X12_hasShaft yX12_hasShaft RX12 365 0 := ⟨⟨w_1613, w_1615, w_81, w_108, w_1616⟩, ⟨by decide, by decide⟩, by decide +kernel, by decide, by decide⟩
theorem cw_X12_more_417 : CwV mi_X12_more mi_X12_mayTell yX12_mayTell RX12 417 1 := ⟨⟨w_1717, w_1719, w_92, w_108, w_1720⟩, ⟨by decide, by decide⟩, by decide +kernel, by decide, by decide⟩
theorem j_X12_more_B161 {l : Launch} {Γ : Am}   : ∀ (r0 : Nat) (v3 : Int32) (z : Hp), J l Γ mi_X12_more cvI 0 0 161 [(0, .ref (mB Γ + r0)), (3, .int v3)] [] z (m_X12_more_B161  r0 v3 z) := by
  intro r0 v3 z
  unfold m_X12_more_B161
  refine j_iload_n (pc := 161) 1 dX12_more_161 rfl rfl ?_
  refine j_iconst (pc := 162) (v := (-1)) dX12_more_162 (by decide) ?_
  refine j_icmp_ne (pc := 163) 168 dX12_more_163 (by decide) ?_ ?_
  · refine j_aload_n (pc := 168) 0 dX12_more_168 rfl rfl ?_
    refine j_iload_n (pc := 169) 1 dX12_more_169 rfl rfl ?_
    refine j_putI (pc := 170) ok_X12 (by decide) rfl w_1273 (Or.inl rfl) rfl rfl dX12_more_170 (fun z1 => ?_)
    refine j_iload_n (pc := 173) 1 dX12_more_173 rfl rfl ?_
    refine j_callS_I (pc := 174) (as := [.int v3]) (mc2 := 0) (ms2 := 0) (ct_X12_ones _ _) cw_X12_more_420 dX12_more_174 (Nat.le_of_ble_eq_true rfl) rfl (by decide) (by decide) (fun x3 z2 => ?_)
    exact j_ireturn (pc := 177) dX12_more_177 rfl rfl
  refine j_iconst (pc := 166) (v := (-1)) dX12_more_166 (by decide) ?_
  exact j_ireturn (pc := 167) dX12_more_167 rfl rfl
theorem j_X12_more_B155 {l : Launch} {Γ : Am} {k78 : Nat → Int32 → Int32 → Int32 → Int32 → Hp → Option (Int32 × Hp)} (hL78 : ∀ (r0 : Nat) (v1 : Int32) (v2 : Int32) (v3 : Int32) (v4 : Int32) (z : Hp), J l Γ mi_X12_more cvI 0 0 78 [(0, .ref (mB Γ + r0)), (1, .int v1), (2, .int v2), (3, .int v3), (4, .int v4)] [] z (k78 r0 v1 v2 v3 v4 z)) : ∀ (r0 : Nat) (v1 : Int32) (v2 : Int32) (v3 : Int32) (v4 : Int32) (z : Hp), J l Γ mi_X12_more cvI 0 0 155 [(0, .ref (mB Γ + r0)), (1, .int v1), (2, .int v2), (3, .int v3), (4, .int v4)] [] z (m_X12_more_B155 k78 r0 v1 v2 v3 v4 z) := by
  intro r0 v1 v2 v3 v4 z
  unfold m_X12_more_B155
  refine j_iinc (pc := 155) (n0 := 4) (v0 := v4 + 1) (lv2 := [(4, .int (v4 + 1)), (0, .ref (mB Γ + r0)), (1, .int v1), (2, .int v2), (3, .int v3)]) dX12_more_155 rfl rfl (by decide) rfl ?_
  refine j_goto (pc := 158) 78 dX12_more_158 (by decide) ?_
  exact J.sub [1, 2, 3, 4, 0] rfl (hL78 r0 v1 v2 v3 (v4 + 1) z)
theorem j_X12_more_B134 {l : Launch} {Γ : Am} {k78 : Nat → Int32 → Int32 → Int32 → Int32 → Hp → Option (Int32 × Hp)} (hL78 : ∀ (r0 : Nat) (v1 : Int32) (v2 : Int32) (v3 : Int32) (v4 : Int32) (z : Hp), J l Γ mi_X12_more cvI 0 0 78 [(0, .ref (mB Γ + r0)), (1, .int v1), (2, .int v2), (3, .int v3), (4, .int v4)] [] z (k78 r0 v1 v2 v3 v4 z)) : ∀ (r0 : Nat) (v1 : Int32) (v2 : Int32) (v3 : Int32) (v4 : Int32) (t0 : Int32) (z : Hp), J l Γ mi_X12_more cvI 0 0 134 [(0, .ref (mB Γ + r0)), (1, .int v1), (2, .int v2), (3, .int v3), (4, .int v4)] [.int t0] z (m_X12_more_B134 k78 r0 v1 v2 v3 v4 t0 z) := by
  intro r0 v1 v2 v3 v4 t0 z
  unfold m_X12_more_B134
  refine j_istore (pc := 134) (lv2 := [(5, .int t0), (0, .ref (mB Γ + r0)), (1, .int v1), (2, .int v2), (3, .int v3), (4, .int v4)]) dX12_more_134 (by decide) rfl ?_
  refine j_iload (pc := 136) 0 dX12_more_136 rfl ?_
  refine j_if_eq (pc := 138) 155 dX12_more_138 (by decide) ?_ ?_
  · exact J.sub [1, 2, 3, 4, 5] rfl ((j_X12_more_B155 hL78) r0 v1 v2 v3 v4 z)
  refine j_aload_n (pc := 141) 1 dX12_more_141 rfl rfl ?_
  refine j_iload_n (pc := 142) 2 dX12_more_142 rfl rfl ?_
  refine j_iload (pc := 143) 5 dX12_more_143 rfl ?_
  refine j_iload_n (pc := 145) 3 dX12_more_145 rfl rfl ?_
  refine j_isC (fun h6 => ?_)
  refine j_callV_I (pc := 146) (as := [.int v1, .int v4, .int v2]) (mc2 := 0) (ms2 := 0) (ct_X12_shutsBy _ _ _ _ _) h6 rfl cw_X12_more_426 dX12_more_146 (Nat.le_of_ble_eq_true rfl) rfl (by decide) (by decide) (fun x5 z4 => ?_)
  refine j_if_eq (pc := 149) 155 dX12_more_149 (by decide) ?_ ?_
  · exact J.sub [1, 2, 3, 4, 5] rfl ((j_X12_more_B155 hL78) r0 v1 v2 v3 v4 z4)
  refine j_iload (pc := 152) 5 dX12_more_152 rfl ?_
  refine j_istore_n (pc := 154) (lv2 := [(3, .int v4), (5, .int t0), (0, .ref (mB Γ + r0)), (1, .int v1), (2, .int v2), (4, .int v4)]) dX12_more_154 rfl (by decide) rfl ?_
  exact J.sub [2, 3, 4, 0, 5] rfl ((j_X12_more_B155 hL78) r0 v1 v2 v4 v4 z4)
theorem j_X12_more_B133 {l : Launch} {Γ : Am} {k78 : Nat → Int32 → Int32 → Int32 → Int32 → Hp → Option (Int32 × Hp)} (hL78 : ∀ (r0 : Nat) (v1 : Int32) (v2 : Int32) (v3 : Int32) (v4 : Int32) (z : Hp), J l Γ mi_X12_more cvI 0 0 78 [(0, .ref (mB Γ + r0)), (1, .int v1), (2, .int v2), (3, .int v3), (4, .int v4)] [] z (k78 r0 v1 v2 v3 v4 z)) : ∀ (r0 : Nat) (v1 : Int32) (v2 : Int32) (v3 : Int32) (v4 : Int32) (z : Hp), J l Γ mi_X12_more cvI 0 0 133 [(0, .ref (mB Γ + r0)), (1, .int v1), (2, .int v2), (3, .int v3), (4, .int v4)] [] z (m_X12_more_B133 k78 r0 v1 v2 v3 v4 z) := by
  intro r0 v1 v2 v3 v4 z
  unfold m_X12_more_B133
  refine j_iconst (pc := 133) (v := 0) dX12_more_133 (by decide) ?_
  exact J.sub [0, 1, 2, 3, 4] rfl ((j_X12_more_B134 hL78) r0 v1 v2 v3 v4 0 z)
theorem j_X12_more_B129 {l : Launch} {Γ : Am} {k78 : Nat → Int32 → Int32 → Int32 → Int32 → Hp → Option (Int32 × Hp)} (hL78 : ∀ (r0 : Nat) (v1 : Int32) (v2 : Int32) (v3 : Int32) (v4 : Int32) (z : Hp), J l Γ mi_X12_more cvI 0 0 78 [(0, .ref (mB Γ + r0)), (1, .int v1), (2, .int v2), (3, .int v3), (4, .int v4)] [] z (k78 r0 v1 v2 v3 v4 z)) : ∀ (r0 : Nat) (v1 : Int32) (v2 : Int32) (v3 : Int32) (v4 : Int32) (z : Hp), J l Γ mi_X12_more cvI 0 0 129 [(0, .ref (mB Γ + r0)), (1, .int v1), (2, .int v2), (3, .int v3), (4, .int v4)] [] z (m_X12_more_B129 k78 r0 v1 v2 v3 v4 z) := by
  intro r0 v1 v2 v3 v4 z
  unfold m_X12_more_B129
  refine j_iconst (pc := 129) (v := 1) dX12_more_129 (by decide) ?_
  refine j_goto (pc := 130) 134 dX12_more_130 (by decide) ?_
  exact J.sub [0, 1, 2, 3, 4] rfl ((j_X12_more_B134 hL78) r0 v1 v2 v3 v4 1 z)
theorem j_X12_more_L78 {l : Launch} {Γ : Am} {k161 : Nat → Int32 → Hp → Option (Int32 × Hp)} (hL161 : ∀ (r0 : Nat) (v3 : Int32) (z : Hp), J l Γ mi_X12_more cvI 0 0 161 [(0, .ref (mB Γ + r0)), (3, .int v3)] [] z (k161 r0 v3 z)) : ∀ (f : Nat), ∀ (r0 : Nat) (v1 : Int32) (v2 : Int32) (v3 : Int32) (v4 : Int32) (z : Hp), J l Γ mi_X12_more cvI 0 0 78 [(0, .ref (mB Γ + r0)), (1, .int v1), (2, .int v2), (3, .int v3), (4, .int v4)] [] z (m_X12_more_L78 k161 f r0 v1 v2 v3 v4 z) := by
  intro f
  induction f with
  | zero => intro r0 v1 v2 v3 v4 z; exact J.none
  | succ f hL78 =>
    intro r0 v1 v2 v3 v4 z
    rw [m_X12_more_L78]
    refine j_iload (pc := 78) 4 dX12_more_78 rfl ?_
    refine j_iconst (pc := 80) (v := 1) dX12_more_80 (by decide) ?_
    refine j_aload_n (pc := 81) 0 dX12_more_81 rfl rfl ?_
    refine j_getR (pc := 82) ok_X12 (by decide) rfl w_1274 dX12_more_82 (fun a7 => ?_)
    refine j_iload_n (pc := 85) 1 dX12_more_85 rfl rfl ?_
    refine j_iaload (pc := 86) dX12_more_86 (fun x8 => ?_)
    refine j_ishl (pc := 87) dX12_more_87 ?_
    refine j_icmp_ge (pc := 88) 161 dX12_more_88 (by decide) ?_ ?_
    · exact J.sub [0, 3] rfl (hL161 r0 v3 z)
    refine j_iload_n (pc := 91) 3 dX12_more_91 rfl rfl ?_
    refine j_iconst (pc := 92) (v := (-1)) dX12_more_92 (by decide) ?_
    refine j_icmp_eq (pc := 93) 129 dX12_more_93 (by decide) ?_ ?_
    · exact J.sub [0, 1, 2, 3, 4] rfl ((j_X12_more_B129 hL78) r0 v1 v2 v3 v4 z)
    refine j_iload (pc := 96) 4 dX12_more_96 rfl ?_
    refine j_callS_I (pc := 98) (as := [.int v4]) (mc2 := 0) (ms2 := 0) (ct_X12_ones _ _) cw_X12_more_420 dX12_more_98 (Nat.le_of_ble_eq_true rfl) rfl (by decide) (by decide) (fun x10 z9 => ?_)
    refine j_iload_n (pc := 101) 3 dX12_more_101 rfl rfl ?_
    refine j_callS_I (pc := 102) (as := [.int v3]) (mc2 := 0) (ms2 := 0) (ct_X12_ones _ _) cw_X12_more_420 dX12_more_102 (Nat.le_of_ble_eq_true rfl) rfl (by decide) (by decide) (fun x12 z11 => ?_)
    refine j_icmp_lt (pc := 105) 129 dX12_more_105 (by decide) ?_ ?_
    · exact J.sub [0, 1, 2, 3, 4] rfl ((j_X12_more_B129 hL78) r0 v1 v2 v3 v4 z11)
    refine j_iload (pc := 108) 4 dX12_more_108 rfl ?_
    refine j_callS_I (pc := 110) (as := [.int v4]) (mc2 := 0) (ms2 := 0) (ct_X12_ones _ _) cw_X12_more_420 dX12_more_110 (Nat.le_of_ble_eq_true rfl) rfl (by decide) (by decide) (fun x14 z13 => ?_)
    refine j_iload_n (pc := 113) 3 dX12_more_113 rfl rfl ?_
    refine j_callS_I (pc := 114) (as := [.int v3]) (mc2 := 0) (ms2 := 0) (ct_X12_ones _ _) cw_X12_more_420 dX12_more_114 (Nat.le_of_ble_eq_true rfl) rfl (by decide) (by decide) (fun x16 z15 => ?_)
    refine j_icmp_ne (pc := 117) 133 dX12_more_117 (by decide) ?_ ?_
    · exact J.sub [0, 1, 2, 3, 4] rfl ((j_X12_more_B133 hL78) r0 v1 v2 v3 v4 z15)
    refine j_iload (pc := 120) 4 dX12_more_120 rfl ?_
    refine j_iload_n (pc := 122) 3 dX12_more_122 rfl rfl ?_
    refine j_callS_I (pc := 123) (as := [.int v4, .int v3]) (mc2 := 0) (ms2 := 0) (ct_X12_isAhead _ _ _) cw_X12_more_423 dX12_more_123 (Nat.le_of_ble_eq_true rfl) rfl (by decide) (by decide) (fun x18 z17 => ?_)
    refine j_if_eq (pc := 126) 133 dX12_more_126 (by decide) ?_ ?_
    · exact J.sub [0, 1, 2, 3, 4] rfl ((j_X12_more_B133 hL78) r0 v1 v2 v3 v4 z17)
    exact J.sub [0, 1, 2, 3, 4] rfl ((j_X12_more_B129 hL78) r0 v1 v2 v3 v4 z17)
theorem ct_X12_more {l : Launch} {Γ : Am} (r0 : Nat) (v1 : Int32) (v2 : Int32) (z : Hp) : Ct l Γ yX12_more mi_X12_more cvI [.ref (mB Γ + r0), .int v1, .int v2] z (m_X12_more r0 v1 v2 z) := by
  refine Ct.ofJ (by decide) ⟨rfl, rfl⟩ (Nat.le_of_ble_eq_true rfl) ?_
  unfold m_X12_more
  show J l Γ mi_X12_more cvI 0 0 0 [(0, .ref (mB Γ + r0)), (1, .int v1), (2, .int v2)] [] z _
  refine j_iload_n (pc := 0) 1 dX12_more_0 rfl rfl ?_
  refine j_callS_I (pc := 1) (as := [.int v1]) (mc2 := 0) (ms2 := 0) (ct_X12_isSlot _ _) cw_X12_more_412 dX12_more_1 (Nat.le_of_ble_eq_true rfl) rfl (by decide) (by decide) (fun x20 z19 => ?_)
  refine j_if_eq (pc := 4) 30 dX12_more_4 (by decide) ?_ ?_
  · refine j_bipush (pc := 30) (v := (-2)) dX12_more_30 (by decide) ?_
    exact j_ireturn (pc := 32) dX12_more_32 rfl rfl
  refine j_iload_n (pc := 7) 2 dX12_more_7 rfl rfl ?_
  refine j_i2l (pc := 8) dX12_more_8 ?_
  refine j_lconst (pc := 9) (v := 1) dX12_more_9 (by decide) ?_
  refine j_ldc2 (pc := 10) (v := 30) dX12_more_10 w_1716 ?_
  refine j_callS_I (pc := 13) (as := [.long (Int32.toInt64 v2), .long 1, .long 30]) (mc2 := 0) (ms2 := 0) (ct_X12_in _ _ _ _) cw_X12_more_110 dX12_more_13 (Nat.le_of_ble_eq_true rfl) rfl (by decide) (by decide) (fun x22 z21 => ?_)
  refine j_if_eq (pc := 16) 30 dX12_more_16 (by decide) ?_ ?_
  · refine j_bipush (pc := 30) (v := (-2)) dX12_more_30 (by decide) ?_
    exact j_ireturn (pc := 32) dX12_more_32 rfl rfl
  refine j_aload_n (pc := 19) 0 dX12_more_19 rfl rfl ?_
  refine j_getR (pc := 20) ok_X12 (by decide) rfl w_1274 dX12_more_20 (fun a23 => ?_)
  refine j_iload_n (pc := 23) 1 dX12_more_23 rfl rfl ?_
  refine j_iaload (pc := 24) dX12_more_24 (fun x24 => ?_)
  refine j_bipush (pc := 25) (v := 6) dX12_more_25 (by decide) ?_
  refine j_icmp_le (pc := 27) 33 dX12_more_27 (by decide) ?_ ?_
  · refine j_aload_n (pc := 33) 0 dX12_more_33 rfl rfl ?_
    refine j_getR (pc := 34) ok_X12 (by decide) rfl w_1274 dX12_more_34 (fun a25 => ?_)
    refine j_iload_n (pc := 37) 1 dX12_more_37 rfl rfl ?_
    refine j_iaload (pc := 38) dX12_more_38 (fun x26 => ?_)
    refine j_iconst (pc := 39) (v := (-1)) dX12_more_39 (by decide) ?_
    refine j_icmp_eq (pc := 40) 59 dX12_more_40 (by decide) ?_ ?_
    · refine j_bipush (pc := 59) (v := (-6)) dX12_more_59 (by decide) ?_
      exact j_ireturn (pc := 61) dX12_more_61 rfl rfl
    refine j_aload_n (pc := 43) 0 dX12_more_43 rfl rfl ?_
    refine j_isC (fun h29 => ?_)
    refine j_callV_I (pc := 44) (as := []) (mc2 := 0) (ms2 := 0) (ct_X12_hasShaft _ _) h29 rfl cw_X12_more_365 dX12_more_44 (Nat.le_of_ble_eq_true rfl) rfl (by decide) (by decide) (fun x28 z27 => ?_)
    refine j_if_eq (pc := 47) 59 dX12_more_47 (by decide) ?_ ?_
    · refine j_bipush (pc := 59) (v := (-6)) dX12_more_59 (by decide) ?_
      exact j_ireturn (pc := 61) dX12_more_61 rfl rfl
    refine j_aload_n (pc := 50) 0 dX12_more_50 rfl rfl ?_
    refine j_getR (pc := 51) ok_X12 (by decide) rfl w_1239 dX12_more_51 (fun a30 => ?_)
    refine j_iconst (pc := 54) (v := 2) dX12_more_54 (by decide) ?_
    refine j_iaload (pc := 55) dX12_more_55 (fun x31 => ?_)
    refine j_if_ne (pc := 56) 62 dX12_more_56 (by decide) ?_ ?_
    · refine j_aload_n (pc := 62) 0 dX12_more_62 rfl rfl ?_
      refine j_iload_n (pc := 63) 1 dX12_more_63 rfl rfl ?_
      refine j_isC (fun h34 => ?_)
      refine j_callV_I (pc := 64) (as := [.int v1]) (mc2 := 0) (ms2 := 0) (ct_X12_mayTell _ _ _) h34 rfl cw_X12_more_417 dX12_more_64 (Nat.le_of_ble_eq_true rfl) rfl (by decide) (by decide) (fun x33 z32 => ?_)
      refine j_if_ne (pc := 67) 73 dX12_more_67 (by decide) ?_ ?_
      · refine j_iconst (pc := 73) (v := (-1)) dX12_more_73 (by decide) ?_
        refine j_istore_n (pc := 74) (lv2 := [(3, .int (-1)), (0, .ref (mB Γ + r0)), (1, .int v1), (2, .int v2)]) dX12_more_74 rfl (by decide) rfl ?_
        refine j_iconst (pc := 75) (v := 0) dX12_more_75 (by decide) ?_
        refine j_istore (pc := 76) (lv2 := [(4, .int 0), (3, .int (-1)), (0, .ref (mB Γ + r0)), (1, .int v1), (2, .int v2)]) dX12_more_76 (by decide) rfl ?_
        exact J.sub [2, 3, 4, 1, 0] rfl ((j_X12_more_L78 j_X12_more_B161 FU) r0 v1 v2 (-1) 0 z32)
      refine j_bipush (pc := 70) (v := (-7)) dX12_more_70 (by decide) ?_
      exact j_ireturn (pc := 72) dX12_more_72 rfl rfl
    refine j_bipush (pc := 59) (v := (-6)) dX12_more_59 (by decide) ?_
    exact j_ireturn (pc := 61) dX12_more_61 rfl rfl
  refine j_bipush (pc := 30) (v := (-2)) dX12_more_30 (by decide) ?_
  exact j_ireturn (pc := 32) dX12_more_32 rfl rfl
theorem dX12_chosen_0 : decode cX12_chosen 0 = .ok (.aload_n 0, 1) := by decide +kernel
theorem dX12_chosen_1 : decode cX12_chosen 1 = .ok (.getfield 430, 3) := by decide +kernel
theorem dX12_chosen_4 : decode cX12_chosen 4 = .ok (.ireturn, 1) := by decide +kernel
theorem ct_X12_chosen {l : Launch} {Γ : Am} (r0 : Nat) (z : Hp) : Ct l Γ yX12_chosen mi_X12_chosen cvI [.ref (mB Γ + r0)] z (m_X12_chosen r0 z) := by
  refine Ct.ofJ (by decide) ⟨rfl, rfl⟩ (Nat.le_of_ble_eq_true rfl) ?_
  unfold m_X12_chosen
  show J l Γ mi_X12_chosen cvI 0 0 0 [(0, .ref (mB Γ + r0))] [] z _
  refine j_aload_n (pc := 0) 0 dX12_chosen_0 rfl rfl ?_
  refine j_getI (pc := 1) ok_X12 (by decide) rfl w_1273 dX12_chosen_1 (fun x1 => ?_)
  exact j_ireturn (pc := 4) dX12_chosen_4 rfl rfl
theorem dX12_gauge_0 : decode cX12_gauge 0 = .ok (.iload_n 1, 1) := by decide +kernel
theorem dX12_gauge_1 : decode cX12_gauge 1 = .ok (.i2l, 1) := by decide +kernel
theorem dX12_gauge_2 : decode cX12_gauge 2 = .ok (.lconst 0, 1) := by decide +kernel
theorem dX12_gauge_3 : decode cX12_gauge 3 = .ok (.ldc2_w 433, 3) := by decide +kernel
theorem dX12_gauge_6 : decode cX12_gauge 6 = .ok (.invokestatic 110, 3) := by decide +kernel
theorem dX12_gauge_9 : decode cX12_gauge 9 = .ok (.ifCond .eq 26, 3) := by decide +kernel
theorem dX12_gauge_12 : decode cX12_gauge 12 = .ok (.iload_n 2, 1) := by decide +kernel
theorem dX12_gauge_13 : decode cX12_gauge 13 = .ok (.iload_n 3, 1) := by decide +kernel
theorem dX12_gauge_14 : decode cX12_gauge 14 = .ok (.invokestatic 116, 3) := by decide +kernel
theorem dX12_gauge_17 : decode cX12_gauge 17 = .ok (.ifCond .eq 18, 3) := by decide +kernel
theorem dX12_gauge_20 : decode cX12_gauge 20 = .ok (.iload 4, 2) := by decide +kernel
theorem dX12_gauge_22 : decode cX12_gauge 22 = .ok (.i2l, 1) := by decide +kernel
theorem dX12_gauge_23 : decode cX12_gauge 23 = .ok (.ldc2_w 435, 3) := by decide +kernel
theorem dX12_gauge_26 : decode cX12_gauge 26 = .ok (.ldc2_w 437, 3) := by decide +kernel
theorem dX12_gauge_29 : decode cX12_gauge 29 = .ok (.invokestatic 110, 3) := by decide +kernel
theorem dX12_gauge_32 : decode cX12_gauge 32 = .ok (.ifCond .ne 6, 3) := by decide +kernel
theorem dX12_gauge_35 : decode cX12_gauge 35 = .ok (.bipush (-2), 2) := by decide +kernel
theorem dX12_gauge_37 : decode cX12_gauge 37 = .ok (.ireturn, 1) := by decide +kernel
theorem dX12_gauge_38 : decode cX12_gauge 38 = .ok (.aload_n 0, 1) := by decide +kernel
theorem dX12_gauge_39 : decode cX12_gauge 39 = .ok (.getfield 13, 3) := by decide +kernel
theorem dX12_gauge_42 : decode cX12_gauge 42 = .ok (.sipush 790, 3) := by decide +kernel
theorem dX12_gauge_45 : decode cX12_gauge 45 = .ok (.iconst 2, 1) := by decide +kernel
theorem dX12_gauge_46 : decode cX12_gauge 46 = .ok (.iload_n 1, 1) := by decide +kernel
theorem dX12_gauge_47 : decode cX12_gauge 47 = .ok (.imul, 1) := by decide +kernel
theorem dX12_gauge_48 : decode cX12_gauge 48 = .ok (.iadd, 1) := by decide +kernel
theorem dX12_gauge_49 : decode cX12_gauge 49 = .ok (.bipush 12, 2) := by decide +kernel
theorem dX12_gauge_51 : decode cX12_gauge 51 = .ok (.iload_n 3, 1) := by decide +kernel
theorem dX12_gauge_52 : decode cX12_gauge 52 = .ok (.imul, 1) := by decide +kernel
theorem dX12_gauge_53 : decode cX12_gauge 53 = .ok (.iload_n 2, 1) := by decide +kernel
theorem dX12_gauge_54 : decode cX12_gauge 54 = .ok (.iadd, 1) := by decide +kernel
theorem dX12_gauge_55 : decode cX12_gauge 55 = .ok (.iastore, 1) := by decide +kernel
theorem dX12_gauge_56 : decode cX12_gauge 56 = .ok (.aload_n 0, 1) := by decide +kernel
theorem dX12_gauge_57 : decode cX12_gauge 57 = .ok (.getfield 13, 3) := by decide +kernel
theorem dX12_gauge_60 : decode cX12_gauge 60 = .ok (.sipush 790, 3) := by decide +kernel
theorem dX12_gauge_63 : decode cX12_gauge 63 = .ok (.iconst 2, 1) := by decide +kernel
theorem dX12_gauge_64 : decode cX12_gauge 64 = .ok (.iload_n 1, 1) := by decide +kernel
theorem dX12_gauge_65 : decode cX12_gauge 65 = .ok (.imul, 1) := by decide +kernel
theorem dX12_gauge_66 : decode cX12_gauge 66 = .ok (.iadd, 1) := by decide +kernel
theorem dX12_gauge_67 : decode cX12_gauge 67 = .ok (.iconst 1, 1) := by decide +kernel
theorem dX12_gauge_68 : decode cX12_gauge 68 = .ok (.iadd, 1) := by decide +kernel
theorem dX12_gauge_69 : decode cX12_gauge 69 = .ok (.iload 4, 2) := by decide +kernel
theorem dX12_gauge_71 : decode cX12_gauge 71 = .ok (.iastore, 1) := by decide +kernel
theorem dX12_gauge_72 : decode cX12_gauge 72 = .ok (.iconst 0, 1) := by decide +kernel
theorem dX12_gauge_73 : decode cX12_gauge 73 = .ok (.ireturn, 1) := by decide +kernel
theorem cw_X12_gauge_110 : CwS mi_X12_gauge mi_X12_in yX12_in 110 3 := ⟨⟨w_1365, w_1366, w_108, w_1367⟩, ⟨by decide, by decide⟩, by decide +kernel, by decide, by decide⟩
theorem cw_X12_gauge_116 : CwS mi_X12_gauge mi_X12_isPlace yX12_isPlace 116 2 := ⟨⟨w_1522, w_1523, w_108, w_1524⟩, ⟨by decide, by decide⟩, by decide +kernel, by decide, by decide⟩
theorem ct_X12_gauge {l : Launch} {Γ : Am} (r0 : Nat) (v1 : Int32) (v2 : Int32) (v3 : Int32) (v4 : Int32) (z : Hp) : Ct l Γ yX12_gauge mi_X12_gauge cvI [.ref (mB Γ + r0), .int v1, .int v2, .int v3, .int v4] z (m_X12_gauge r0 v1 v2 v3 v4 z) := by
  refine Ct.ofJ (by decide) ⟨rfl, rfl⟩ (Nat.le_of_ble_eq_true rfl) ?_
  unfold m_X12_gauge
  show J l Γ mi_X12_gauge cvI 0 0 0 [(0, .ref (mB Γ + r0)), (1, .int v1), (2, .int v2), (3, .int v3), (4, .int v4)] [] z _
  refine j_iload_n (pc := 0) 1 dX12_gauge_0 rfl rfl ?_
  refine j_i2l (pc := 1) dX12_gauge_1 ?_
  refine j_lconst (pc := 2) (v := 0) dX12_gauge_2 (by decide) ?_
  refine j_ldc2 (pc := 3) (v := 9) dX12_gauge_3 w_1740 ?_
  refine j_callS_I (pc := 6) (as := [.long (Int32.toInt64 v1), .long 0, .long 9]) (mc2 := 0) (ms2 := 0) (ct_X12_in _ _ _ _) cw_X12_gauge_110 dX12_gauge_6 (Nat.le_of_ble_eq_true rfl) rfl (by decide) (by decide) (fun x2 z1 => ?_)
  refine j_if_eq (pc := 9) 35 dX12_gauge_9 (by decide) ?_ ?_
  · refine j_bipush (pc := 35) (v := (-2)) dX12_gauge_35 (by decide) ?_
    exact j_ireturn (pc := 37) dX12_gauge_37 rfl rfl
  refine j_iload_n (pc := 12) 2 dX12_gauge_12 rfl rfl ?_
  refine j_iload_n (pc := 13) 3 dX12_gauge_13 rfl rfl ?_
  refine j_callS_I (pc := 14) (as := [.int v2, .int v3]) (mc2 := 0) (ms2 := 0) (ct_X12_isPlace _ _ _) cw_X12_gauge_116 dX12_gauge_14 (Nat.le_of_ble_eq_true rfl) rfl (by decide) (by decide) (fun x4 z3 => ?_)
  refine j_if_eq (pc := 17) 35 dX12_gauge_17 (by decide) ?_ ?_
  · refine j_bipush (pc := 35) (v := (-2)) dX12_gauge_35 (by decide) ?_
    exact j_ireturn (pc := 37) dX12_gauge_37 rfl rfl
  refine j_iload (pc := 20) 4 dX12_gauge_20 rfl ?_
  refine j_i2l (pc := 22) dX12_gauge_22 ?_
  refine j_ldc2 (pc := 23) (v := (-500)) dX12_gauge_23 w_1741 ?_
  refine j_ldc2 (pc := 26) (v := 500) dX12_gauge_26 w_1742 ?_
  refine j_callS_I (pc := 29) (as := [.long (Int32.toInt64 v4), .long (-500), .long 500]) (mc2 := 0) (ms2 := 0) (ct_X12_in _ _ _ _) cw_X12_gauge_110 dX12_gauge_29 (Nat.le_of_ble_eq_true rfl) rfl (by decide) (by decide) (fun x6 z5 => ?_)
  refine j_if_ne (pc := 32) 38 dX12_gauge_32 (by decide) ?_ ?_
  · refine j_aload_n (pc := 38) 0 dX12_gauge_38 rfl rfl ?_
    refine j_getR (pc := 39) ok_X12 (by decide) rfl w_1239 dX12_gauge_39 (fun a7 => ?_)
    refine j_sipush (pc := 42) (v := 790) dX12_gauge_42 (by decide) ?_
    refine j_iconst (pc := 45) (v := 2) dX12_gauge_45 (by decide) ?_
    refine j_iload_n (pc := 46) 1 dX12_gauge_46 rfl rfl ?_
    refine j_imul (pc := 47) dX12_gauge_47 ?_
    refine j_iadd (pc := 48) dX12_gauge_48 ?_
    refine j_bipush (pc := 49) (v := 12) dX12_gauge_49 (by decide) ?_
    refine j_iload_n (pc := 51) 3 dX12_gauge_51 rfl rfl ?_
    refine j_imul (pc := 52) dX12_gauge_52 ?_
    refine j_iload_n (pc := 53) 2 dX12_gauge_53 rfl rfl ?_
    refine j_iadd (pc := 54) dX12_gauge_54 ?_
    refine j_iastore (pc := 55) dX12_gauge_55 (fun z8 => ?_)
    refine j_aload_n (pc := 56) 0 dX12_gauge_56 rfl rfl ?_
    refine j_getR (pc := 57) ok_X12 (by decide) rfl w_1239 dX12_gauge_57 (fun a9 => ?_)
    refine j_sipush (pc := 60) (v := 790) dX12_gauge_60 (by decide) ?_
    refine j_iconst (pc := 63) (v := 2) dX12_gauge_63 (by decide) ?_
    refine j_iload_n (pc := 64) 1 dX12_gauge_64 rfl rfl ?_
    refine j_imul (pc := 65) dX12_gauge_65 ?_
    refine j_iadd (pc := 66) dX12_gauge_66 ?_
    refine j_iconst (pc := 67) (v := 1) dX12_gauge_67 (by decide) ?_
    refine j_iadd (pc := 68) dX12_gauge_68 ?_
    refine j_iload (pc := 69) 4 dX12_gauge_69 rfl ?_
    refine j_iastore (pc := 71) dX12_gauge_71 (fun z10 => ?_)
    refine j_iconst (pc := 72) (v := 0) dX12_gauge_72 (by decide) ?_
    exact j_ireturn (pc := 73) dX12_gauge_73 rfl rfl
  refine j_bipush (pc := 35) (v := (-2)) dX12_gauge_35 (by decide) ?_
  exact j_ireturn (pc := 37) dX12_gauge_37 rfl rfl
